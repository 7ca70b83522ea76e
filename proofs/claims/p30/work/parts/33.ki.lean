/-! ===== ki: constructors: the world is a list of cells that grows (by program: wip/gen30/ki.py) ===== -/
def k_Gi (X : k_C) (Y : k_Y) : Prop :=
  (k_p X).tables.exec = Jvm.exec ∧ (k_c X).code = Y.2.1 ∧ (k_c X).maxLocals = Y.2.2.1 ∧ (k_s X).vm.findClass Y.2.2.2.1 = some (k_m X).cls ∧ (∀ w ∈ k_ws, w.before (k_a X) (k_s X) = true) ∧ va_K (k_D X) vwCl [(k_I X, .int)] (k_s X) ∧ (∀ q, (k_s X).heap.size ≤ q → k_A X q) ∧ k_R X = Y.1 ∧ (k_M X).locks = false ∧ (k_M X).sig.returnType = Y.2.2.2.2
def KI (X : k_C) (Y : k_Y) (kc ks : Nat) (Q : State → Prop) (pc : Nat) (L : List (Option Value)) (st : List Value) (ws : va_W) : Prop :=
  k_Gi X Y → ∀ (H : Heap) (locs : List Loc) (ls : Array Slot), va_P (k_D X) vwCl ws H → va_D (k_A X) ws → va_S (k_A X) (k_s X).heap H locs → k_L ls Y.2.2.1 L → k_W X H locs kc ks Q (F0 (k_m X) pc ls st)
def k_Qi (post : va_W → Prop) (X : k_C) (mc ms : Nat) : State → Prop :=
  MQ (k_b X) (fun _ st oc t => (oc = .returned none ∧ ∃ ws, post ws ∧ va_P (k_D X) vwCl ws t.heap ∧ va_D (k_A X) ws) ∧ va_F (k_A X) st t) (k_a X) (k_s X) mc ms (k_A X)
def k_Ci (y : MethodName) (bytes : ByteArray) (maxL : Nat) (rm : Room) (mc ms : Nat) (D : va_G) (cI : ClassId) (as : List Value) (pre : va_W) (post : va_W → Prop) : Prop :=
  ∀ (l : Launch) (sz : Nat), Met l y (.code y bytes maxL none :: k_ws) rm (va_Pc as (fun U => U.heap.size = sz ∧ va_P D vwCl pre U.heap ∧ va_K D vwCl [(cI, .int)] U ∧ va_D (fun _ => True) pre)) (fun _ st oc t => (oc = .returned none ∧ ∃ ws, post ws ∧ va_P D vwCl ws t.heap ∧ va_D (va_A pre sz) ws) ∧ va_F (va_A pre sz) st t) mc ms (va_A pre sz)
theorem k_meti {y : MethodName} {Y : k_Y} {mc ms : Nat} {D : va_G} {cI : ClassId} {as : List Value} {pre : va_W} {post : va_W → Prop} (hcl : plainName y.cls = true) (hown : y.cls = Y.2.2.2.1) (hlen : as.length ≤ Y.2.2.1) (hret : Y.2.2.2.2 = none) (hcat : ∀ v ∈ as, v.category = 1) (hname : y.name = "<init>")
    (h : ∀ X : k_C, k_D X = D → k_I X = cI → (k_M X).name = "<init>" → KI X Y 0 0 (k_Qi post X mc ms) 0 (as.map some ++ List.replicate (Y.2.2.1 - as.length) none) [] pre) : k_Ci y Y.2.1 Y.2.2.1 Y.1 mc ms D cI as pre post := by
  intro l sz
  refine Met.ofW (cc := Y.2.1) (maxL := Y.2.2.1) (ret := none) hcl rfl ?_
  intro p e s m args below meth c s₁ B hml hv
  obtain ⟨rfl, hsz, hP, hK, hD0⟩ := hv
  have hts0 := atoms_spec (ws := .code y Y.2.1 Y.2.2.1 none :: k_ws) B.pre
  have hfc : s.vm.findClass y.cls = some m.cls := findClass_of_methodNamed B.named
  have hin : meth.name = "<init>" := (name_of_methodNamed B.named B.method).1.trans hname
  rw [lg_entry_eq]
  let X : k_C := ((p, l, e, s, m, as.toArray), (below, meth, c, D, cI, va_A pre sz), Y.1)
  have hG : k_Gi X Y := ⟨B.exec, B.bytes, hml, by rw [← hown]; exact hfc, fun w hw => hts0 w (List.mem_cons_of_mem _ hw), hK, fun q hq => Or.inr (by rw [← hsz]; exact hq), rfl, B.notSynchronized, by rw [hret]; exact B.returns⟩
  exact h X rfl rfl hin hG s.heap [] _ hP hD0.self va_S.rf (k_L.entry as hlen hcat)
theorem k_D1 (a : Nat) (e : va_E) : va_D (fun _ => True) [(a, e)] := by
  refine ⟨fun i j p q hi hj _ => ?_, fun _ _ _ => trivial⟩
  match i, j, hi, hj with
  | 0, 0, _, _ => rfl
  | 0, j + 1, _, hj => cases hj
  | i + 1, _, hi, _ => cases hi
theorem k_nd_of : ∀ (l : List Nat), l.Nodup → va_nd l = true
  | [], _ => rfl
  | a :: l, h => by
    rw [List.nodup_cons] at h
    simp only [va_nd, Bool.and_eq_true, decide_eq_true_eq]
    exact ⟨h.1, k_nd_of l h.2⟩
theorem k_nd_range (n : Nat) : va_nd (List.range n) = true := k_nd_of _ List.nodup_range
section KIR
variable {X : k_C} {Y : k_Y} {kc ks : Nat} {Q : State → Prop} {pc pc' : Nat} {L L' : List (Option Value)} {st st' : List Value} {ws : va_W}
theorem KI.lift (h : k_Gi X Y → ∀ (H : Heap) (locs : List Loc) (ls : Array Slot), va_P (k_D X) vwCl ws H → k_L ls Y.2.2.1 L → k_W X H locs kc ks Q (F0 (k_m X) pc' ls st') → k_W X H locs kc ks Q (F0 (k_m X) pc ls st)) (kk : KI X Y kc ks Q pc' L st' ws) : KI X Y kc ks Q pc L st ws :=
  fun g H locs ls hP hD hS hL => h g H locs ls hP hL (kk g H locs ls hP hD hS hL)
theorem ki_aload_n {i : Fin 4} {x : Nat} (hd : decode Y.2.1 pc = .ok (.aload_n i, 1)) (hL : L[(i : Nat)]? = some (some (.ref x))) (kk : KI X Y kc ks Q (pc + 1) L (.ref x :: st) ws) : KI X Y kc ks Q pc L st ws :=
  kk.lift fun g _ _ _ _ h k => lv_aload_n g.1 g.2.1 hd rfl (h.at hL) k
theorem ki_iconst {n : Int} {v : Int32} (hd : decode Y.2.1 pc = .ok (.iconst n, 1)) (hv : Int32.ofInt n = v) (kk : KI X Y kc ks Q (pc + 1) L (.int v :: st) ws) : KI X Y kc ks Q pc L st ws :=
  kk.lift fun g _ _ _ _ _ k => lv_iconst g.1 g.2.1 hd hv k
theorem ki_bipush {n : Int} {v : Int32} (hd : decode Y.2.1 pc = .ok (.bipush n, 2)) (hv : (Int8.ofInt n).toInt32 = v) (kk : KI X Y kc ks Q (pc + 2) L (.int v :: st) ws) : KI X Y kc ks Q pc L st ws :=
  kk.lift fun g _ _ _ _ _ k => lv_bipush g.1 g.2.1 hd hv k
theorem ki_sipush {n : Int} {v : Int32} (hd : decode Y.2.1 pc = .ok (.sipush n, 3)) (hv : (Int16.ofInt n).toInt32 = v) (kk : KI X Y kc ks Q (pc + 3) L (.int v :: st) ws) : KI X Y kc ks Q pc L st ws :=
  kk.lift fun g _ _ _ _ _ k => lv_sipush g.1 g.2.1 hd hv k
theorem ki_dup {a : Value} (hd : decode Y.2.1 pc = .ok (.dup, 1)) (hc : a.category = 1) (kk : KI X Y kc ks Q (pc + 1) L (a :: a :: st) ws) : KI X Y kc ks Q pc L (a :: st) ws :=
  kk.lift fun g _ _ _ _ _ k => lv_dup g.1 g.2.1 hd hc k
theorem ki_objInit {a idx : Nat} (hw : Cond.methodLink Y.2.2.2.1 idx objectInit ∈ k_ws) (hd : decode Y.2.1 pc = .ok (.invokespecial idx, 3)) (hR : 1 ≤ Y.1.frames ∧ (st.map fun v => v.category).sum + 12 ≤ Y.1.locals) (kk : KI X Y kc ks Q (pc + 3) L st ws) : KI X Y kc ks Q pc L (.ref a :: st) ws :=
  kk.lift fun g _ _ _ _ hL k => by
    have hr : k_R X = Y.1 := g.2.2.2.2.2.2.2.1
    exact W.objInit g.1 g.2.1 g.2.2.2.1 (g.2.2.2.2.1 _ hw) (g.2.2.2.2.1 _ kwi_objectInit) (g.2.2.2.2.1 _ kwk_objectInit) rfl (by rw [g.2.2.1]; exact hL.1) rfl hd (by rw [hr]; exact hR.1) (by rw [hr]; show 2 * 0 + _ + 12 ≤ _; omega) k
theorem ki_get {own ref C : String} {T : u_T} {N index ci : Nat} {a : Nat} {fs : List Value} (k : Nat) (hcell : ws[k]? = some (a, .inr (ci, fs))) (hcl : vwCl[ci]? = some (C, T, N)) (hin : ∀ w ∈ u_ws C T N, w ∈ k_ws) (j : Nat) (hj : j < N) {v : Value} (hv : fs[j]? = some v) (hown : own = Y.2.2.2.1) (hw : Cond.fieldLink own index ref (T j).2.1 (T j).2.2.1 ∈ k_ws) (href : (T j).1 = ref) (hd : decode Y.2.1 pc = .ok (.getfield index, 3)) (kk : KI X Y kc ks Q (pc + 3) L (v :: st) ws) : KI X Y kc ks Q pc L (.ref a :: st) ws := by
  subst hown
  exact kk.lift fun g _ _ _ hP _ kq => va_get (D := k_D X) g.1 g.2.1 g.2.2.2.2.1 hin g.2.2.2.1 g.2.2.2.2.2.1 hP k hcell hcl j hj (g.2.2.2.2.1 _ hw) (fun _ h9 => by rw [← href]; exact h9) hv hd kq
theorem ki_putF {own ref C : String} {T : u_T} {N index ci : Nat} {a : Nat} {fs : List Value} (k : Nat) (hname : (k_M X).name = "<init>") (hcell : ws[k]? = some (a, .inr (ci, fs))) (hcl : vwCl[ci]? = some (C, T, N)) (hin : ∀ w ∈ u_ws C T N, w ∈ k_ws) {ty : Nat → FieldType} (hty : ∀ k, k < N → parseFieldDescriptor (T k).2.2.1 = some (ty k)) (hnm : ∀ a, a < N → ∀ b, b < N → a ≠ b → (T a).2.1 ≠ (T b).2.1) (j : Nat) (hj : j < N) (hfin : (T j).2.2.2 = true) {x : Nat} (hti : narrow (ty j) (.ref x) = .ref x ∧ fits (ty j) (.ref x) = true) (hlen : fs.length = N) (hown : own = Y.2.2.2.1) (hown2 : (T j).1 = own) (hw : Cond.fieldLink own index ref (T j).2.1 (T j).2.2.1 ∈ k_ws) (href : (T j).1 = ref) (hd : decode Y.2.1 pc = .ok (.putfield index, 3)) {ws' : va_W} (hset : ws.set k (a, .inr (ci, fs.set j (.ref x))) = ws') (kk : KI X Y kc ks Q (pc + 3) L st ws') : KI X Y kc ks Q pc L (.ref x :: .ref a :: st) ws := by
  subst hown hset
  intro g H locs ls hP hD hS hL
  exact va_putF (D := k_D X) g.1 g.2.1 g.2.2.2.2.1 hin ty hty hnm g.2.2.2.1 g.2.2.2.2.2.1 hP hD hS k hcell hcl j hj (g.2.2.2.2.1 _ hw) (fun _ h9 => by rw [← href]; exact h9) hfin hname hown2 (hty j hj) hti.1 hti.2 (by rw [hlen]; exact hj) hd (fun H1 locs1 hP1 hD1 hS1 => kk g H1 locs1 ls hP1 hD1 hS1 hL)
theorem ki_iast {a n : Nat} {f : Nat → Int32} (k : Nat) (hcell : ws[k]? = some (a, .inl (k_I X, n, .inl f))) {i x : Int32} (hi : vp_in i n) (hd : decode Y.2.1 pc = .ok (.iastore, 1)) {ws' : va_W} (hset : ws.set k (a, .inl (k_I X, n, .inl (upd f i.toNatClampNeg x))) = ws') (kk : KI X Y kc ks Q (pc + 1) L st ws') : KI X Y kc ks Q pc L (.int x :: .int i :: .ref a :: st) ws := by
  subst hset
  intro g H locs ls hP hD hS hL
  exact va_iast (D := k_D X) g.1 g.2.1 g.2.2.2.2.2.1 hP hD hS k 0 hcell rfl hi hd (fun H1 locs1 hP1 hD1 hS1 => kk g H1 locs1 ls hP1 hD1 hS1 hL)
theorem ki_newa {n : Int32} (N : Nat) (hn : ¬ n < 0) (hN : n.toNatClampNeg = N) (hb : N * 4 ≤ 536870912) (hc : kc + 1 ≤ Y.1.cells) (hs : ks + N ≤ Y.1.slots) (hd : decode Y.2.1 pc = .ok (.newarray .int, 2)) (kk : ∀ q : Nat, KI X Y (kc + 1) (ks + N) Q (pc + 2) L (.ref q :: st) (ws ++ [(q, .inl (k_I X, N, .inl (fun _ => 0)))])) : KI X Y kc ks Q pc L (.int n :: st) ws := by
  intro g H locs ls hP hD hS hL
  have hr : k_R X = Y.1 := g.2.2.2.2.2.2.2.1
  refine va_newa (D := k_D X) (atype := .int) (ty := .int) (N' := N) (a0 := (N, .inl (fun _ => 0))) g.1 g.2.1 (g.2.2.2.2.1 _ kwa_int) rfl g.2.2.2.2.2.1 hP hD hS g.2.2.2.2.2.2.1 (fun _ => rfl) hn hN hb (by rw [hr]; exact hc) (by rw [hr]; exact hs) hd (fun q cA H1 hK1 hP1 hD1 hS1 => ?_)
  have e1 := (hK1.2 1 (cA, .int) rfl).2
  have e2 := (hK1.2 0 (k_I X, .int) rfl).2
  have e : cA = k_I X := Option.some.inj ((show (k_s X).vm.findClass _ = some cA from e1).symm.trans e2)
  subst e
  exact kk q g H1 locs ls hP1 hD1 hS1 hL
theorem ki_new {C : String} {T : u_T} {N ci index : Nat} {ty : Nat → FieldType} (hin : ∀ w ∈ u_ws C T N, w ∈ k_ws) (hty : ∀ k, k < N → parseFieldDescriptor (T k).2.2.1 = some (ty k)) (hcl : vwCl[ci]? = some (C, T, N)) (hwc : Cond.classLink Y.2.2.2.1 index C ∈ k_ws) (hwx : Cond.instantiable C N ∈ k_ws) (hwn : Cond.initialized C ∈ k_ws) {fs : List Value} (hfs : ∀ j, j < N → defaultValue (ty j) = vp_V fs j) (hc : kc + 1 ≤ Y.1.cells) (hs : ks + N ≤ Y.1.slots) (hd : decode Y.2.1 pc = .ok (.new index, 3)) (kk : ∀ q : Nat, KI X Y (kc + 1) (ks + N) Q (pc + 3) L (.ref q :: st) (ws ++ [(q, .inr (ci, fs))])) : KI X Y kc ks Q pc L st ws := by
  intro g H locs ls hP hD hS hL
  have hr : k_R X = Y.1 := g.2.2.2.2.2.2.2.1
  exact va_new (D := k_D X) g.1 g.2.1 g.2.2.2.2.1 hin ty hty g.2.2.2.1 (g.2.2.2.2.1 _ hwc) (g.2.2.2.2.1 _ hwx) (g.2.2.2.2.1 _ hwn) g.2.2.2.2.2.1 hP hD hS g.2.2.2.2.2.2.1 hcl hfs (by rw [hr]; exact hc) (by rw [hr]; exact hs) hd (fun q H1 hP1 hD1 hS1 => kk q g H1 locs ls hP1 hD1 hS1 hL)
theorem ki_return {post : va_W → Prop} (hp : post ws) (hret : Y.2.2.2.2 = none) (hd : decode Y.2.1 pc = .ok (.return_, 1)) : KI X Y kc ks (k_Qi post X kc ks) pc L [] ws := by
  intro g H locs ls hP hD hS hL
  exact W.vret g.1 g.2.1 (by rw [g.2.2.2.2.2.2.2.2.2, hret]) (fun t ht _ => ⟨⟨rfl, ws, hp, by rw [ht]; exact hP, hD⟩, hS.F ht⟩) hS.2.2 hd g.2.2.2.2.2.2.2.2.1
theorem KI.cast {kc' ks' : Nat} (h : kc = kc' ∧ ks = ks') (kk : KI X Y kc' ks' Q pc L st ws) : KI X Y kc ks Q pc L st ws := by
  rw [h.1, h.2]; exact kk
/-- behind a call that may make cells -/
theorem k_runi {p : Program} {l : Launch} {e : Env} {R : Room} {s : State} {m : MethodId} {args : Array Value} {below : List Frame} {meth : Method} {c : Code} {H : Heap} {locs : List Loc} {cells slots mc ms : Nat} {Q : State → Prop} {pc : Nat} {ls : Array Slot} {rest st0 : List Value} {A0 A1 : Nat → Prop} {H0 : Heap} {free : Addr → Prop} {v : Option Value} {B : Heap → Prop}
    (hr : va_Run p l e R s m args below meth c H locs cells slots mc ms (F0 m pc ls st0) rest (fun st oc t => (oc = .returned v ∧ B t.heap) ∧ va_F A1 st t) free) (hS : va_S A0 H0 H locs) (hA : ∀ q, q < H.size → A1 q → A0 q) (hf : ∀ q, free q → A0 q)
    (kk : ∀ (H1 : Heap) (locs1 : List Loc), B H1 → (∀ q : Nat, q < H.size → ¬ A1 q → H1[q]? = H[q]?) → va_S A0 H0 H1 locs1 → W p l e R s m args below meth c H1 locs1 (cells + mc) (slots + ms) Q (F0 m (pc + 3) ls (v.toList ++ rest))) : W p l e R s m args below meth c H locs cells slots Q (F0 m pc ls st0) := by
  intro T hT X
  obtain ⟨v', st₀, t, T', L, h0, X', hL, e1, e2, ⟨⟨hv, hb⟩, hz, hk⟩, st⟩ := hr T hT X
  cases hv
  rw [h0] at hz hk
  obtain ⟨t2, a1, b1⟩ := kk T'.heap (locs ++ L) (by rw [e1]; exact hb) (fun q h1 h2 => by rw [e1]; exact hk q h1 h2)
    ⟨Nat.le_trans hS.1 (by rw [e1]; exact hz), fun q h1 h2 => by rw [e1, hk q (Nat.lt_of_lt_of_le h1 hS.1) (fun z => h2 (hA q (Nat.lt_of_lt_of_le h1 hS.1) z))]; exact hS.2.1 q h1 h2, fun q hq => by
      rcases List.mem_append.mp hq with h | h
      · exact hS.2.2 q h
      · exact hf _ (hL q h)⟩ T' rfl X'
  exact ⟨t2, st t2 a1, b1⟩
/-- a constructor's call: the new object's cell stands last -/
theorem ki_ctor {y : MethodName} {bytes : ByteArray} {maxL n index mc ms : Nat} {rm : Room} {b : Nat} {As : List Value} {stk : List Value} {rest : va_W} {e0 : va_E} {post : va_W → Prop} {W0 : va_W}
    (hW0 : ws = rest ++ [(b, e0)]) (hM : k_Ci y bytes maxL rm mc ms (k_D X) (k_I X) (.ref b :: As) [(b, e0)] post) (hco : Cond.code y bytes maxL none ∈ k_ws) (hi : Cond.instanceMethod y ∈ k_ws) (hini : Cond.initialized y.cls ∈ k_ws) (hy1 : y.name = "<init>") (hmh : y.cls ≠ "java/lang/invoke/MethodHandle" ∧ y.cls ≠ "java/lang/invoke/VarHandle") (hn : (parseMethodDescriptor y.desc).map (fun d => d.parameters.length) = some n) (hm : Cond.methodLink Y.2.2.2.1 index y ∈ k_ws) (hlen : As.length = n) (hrm : rm.cells = mc ∧ rm.slots = ms) (hR : rm.frames + 1 ≤ Y.1.frames ∧ 8 + (maxL + 11) + rm.locals ≤ Y.1.locals) (hk : kc + mc ≤ Y.1.cells ∧ ks + ms ≤ Y.1.slots) (hcat : (st.map fun v => v.category).sum ≤ 8) (hd : decode Y.2.1 pc = .ok (.invokespecial index, 3)) (hstk : stk = As.reverse ++ .ref b :: st)
    (kk : ∀ w1, post w1 → KI X Y (kc + mc) (ks + ms) Q (pc + 3) L st (rest ++ w1)) : KI X Y kc ks Q pc L stk ws := by
  subst hstk hW0
  intro g H locs ls hP hD hS hL
  have hr : k_R X = Y.1 := g.2.2.2.2.2.2.2.1
  have hK := g.2.2.2.2.2.1
  have hlast : (rest ++ [(b, e0)])[rest.length]? = some (b, e0) := by rw [List.getElem?_append_right (Nat.le_refl _), Nat.sub_self]; rfl
  have hPc : va_P (k_D X) vwCl [(b, e0)] H := fun k q hk => by
    match k, hk with
    | 0, hk => cases hk; exact hP _ _ hlast
    | k + 1, hk => cases hk
  have hDc : va_D (fun _ => True) [(b, e0)] := k_D1 b e0
  have hA1 : ∀ q, va_A [(b, e0)] H.size q → k_A X q := by
    intro q hq
    rcases hq with ⟨k, e, hk0⟩ | hq
    · match k, hk0 with
      | 0, hk0 => cases hk0; exact (show k_A X b from hD.2 _ _ hlast)
      | k + 1, hk0 => cases hk0
    · exact g.2.2.2.2.2.2.1 q (Nat.le_trans hS.1 hq)
  have hcb : CallB (k_R X) (k_s X) (k_a X) Y.2.2.2.1 index y bytes maxL none (.code y bytes maxL none :: k_ws) rm mc ms n := callB_of (ws' := k_ws) n g.2.2.2.2.1 (k_goodIn hco) rfl hrm.1 hrm.2 (g.2.2.2.2.1 _ hini) (g.2.2.2.2.1 _ hm) ⟨hmh.1, hmh.2, hn⟩ (by rw [hr]; exact hR)
  have hrun := va_runI (As := As) (rest := st) (cells := kc) (slots := ks) (locs := locs) (b := b) (g := F0 (k_m X) pc ls (As.reverse ++ .ref b :: st)) (nL := Y.2.2.1) ⟨g.1, g.2.1, g.2.2.1, g.2.2.2.1, g.2.2.2.2.1⟩ (hM (k_l X) H.size) ⟨hcb, hy1, g.2.2.2.2.1 _ hi⟩ ⟨fun a U g mk q => by
      obtain ⟨q0, q1, qP, qK, qD⟩ := q
      exact ⟨q0, q1, qP, va_K.moved (u := U) (U := U.calling g mk a) (Vm.Alike.refl U.vm) qK, qD⟩, fun U hU hW => ⟨rfl, by rw [hU], by rw [hU]; exact hPc, va_K.moved hW.alike hK, hDc⟩⟩ rfl hlen hL.1 rfl (lv_room hcat) hd (by rw [hr]; exact hk) (p := k_p X) (e := k_e X) (below := k_b X) (meth := k_M X) (c := k_c X) (m := k_m X)
  refine k_runi (B := fun H1 => ∃ ws, post ws ∧ va_P (k_D X) vwCl ws H1 ∧ va_D (va_A [(b, e0)] H.size) ws) hrun hS (fun q _ h => hA1 q h) hA1 (fun H1 locs1 hB hk1 hS1 => ?_)
  obtain ⟨w1, hp, hP1, hD1⟩ := hB
  have hjoin := va_join (wr := rest) (wc := [(b, e0)]) hP hD [rest.length] (List.range rest.length) (by simp [hlast]) (by
      apply List.ext_getElem?
      intro i
      simp only [List.getElem?_map]
      by_cases hi : i < rest.length
      · rw [List.getElem?_range hi]
        simp [List.getElem?_append_left hi, hi]
      · rw [List.getElem?_eq_none (by simpa using hi), List.getElem?_eq_none (by simpa using hi)]
        rfl) (k_nd_range rest.length) (by intro i hi; simp at hi ⊢; omega) hk1 hA1 hP1 hD1
  exact kk w1 hp g H1 locs1 ls hjoin.1 hjoin.2 hS1 hL
/-- Arrays.fill(row, v) over a row of the world -/
theorem ki_fill {a n index : Nat} {f : Nat → Int32} {v : Int32} (k : Nat) (hn : n < 2 ^ 31) (hcell : ws[k]? = some (a, .inl (k_I X, n, .inl f))) (hw : Cond.methodLink Y.2.2.2.1 index yJ7_fill_53178 ∈ k_ws) (hR : 1 ≤ Y.1.frames ∧ 60 ≤ Y.1.locals) (hk : kc ≤ Y.1.cells ∧ ks ≤ Y.1.slots) (hd : decode Y.2.1 pc = .ok (.invokestatic index, 3)) {ws' : va_W} (hset : ws.set k (a, .inl (k_I X, n, .inl (k_fl f 0 n v))) = ws') (kk : KI X Y kc ks Q (pc + 3) L [] ws') : KI X Y kc ks Q pc L [.int v, .ref a] ws := by
  subst hset
  intro g H locs ls hP hD hS hL
  have hr : k_R X = Y.1 := g.2.2.2.2.2.2.2.1
  have hK := g.2.2.2.2.2.1
  have hPc : va_P (k_D X) vwCl (cA (k_I X) a n f) H := fun j q hj => by
    match j, hj with
    | 0, hj => cases hj; exact hP _ _ hcell
    | j + 1, hj => cases hj
  have hDc : ∀ g', va_D (fun _ => True) (cA (k_I X) a n g') := fun g' => k_D1 a _
  have hA1 : ∀ q, va_A (cA (k_I X) a n f) H.size q → k_A X q := by
    intro q hq
    rcases hq with ⟨j, e, hk0⟩ | hq
    · match j, hk0 with
      | 0, hk0 => cases hk0; exact (show k_A X a from hD.2 _ _ hcell)
      | j + 1, hk0 => cases hk0
    · exact g.2.2.2.2.2.2.1 q (Nat.le_trans hS.1 hq)
  obtain ⟨hco, hs, hini, hmh, hnn⟩ := ckJ7_fill2
  have hcb : CallB (k_R X) (k_s X) (k_a X) Y.2.2.2.1 index yJ7_fill_53178 cJ7_fill_53178 4 none (.code yJ7_fill_53178 cJ7_fill_53178 4 none :: k_ws) YJ7_fill2.1 0 0 2 := callB_of (ws' := k_ws) 2 g.2.2.2.2.1 (k_goodIn hco) rfl rfl rfl (g.2.2.2.2.1 _ hini) (g.2.2.2.2.1 _ hw) ⟨hmh.1, hmh.2, hnn⟩ (by rw [hr]; exact ⟨by show 0 + 1 ≤ _; omega, by show 8 + (4 + 11) + 30 ≤ _; omega⟩)
  have hrun := va_runS (As := [.ref a, .int v]) (rest := []) (cells := kc) (slots := ks) (locs := locs) (g := F0 (k_m X) pc ls [.int v, .ref a]) (nL := Y.2.2.1) ⟨g.1, g.2.1, g.2.2.1, g.2.2.2.1, g.2.2.2.2.1⟩ (kJ7_fill2 (D := k_D X) (cI := k_I X) (a := a) hn f v (k_l X) H.size) ⟨hcb, g.2.2.2.2.1 _ hs⟩ ⟨k_blind, fun U hU hW => ⟨rfl, by rw [hU], by rw [hU]; exact hPc, va_K.moved hW.alike hK, hDc⟩⟩ rfl rfl hL.1 rfl (lv_room (Nat.zero_le _)) hd (by rw [hr]; exact hk) (p := k_p X) (e := k_e X) (below := k_b X) (meth := k_M X) (c := k_c X) (m := k_m X)
  refine k_run (B := va_P (k_D X) vwCl (cA (k_I X) a n (k_fl f 0 n v))) hrun hS (fun q _ h => hA1 q h) hA1 (fun H1 locs1 hB hk1 hS1 => ?_)
  refine kk g H1 locs1 ls (fun j q hj => ?_) (hD.set hcell) hS1 hL
  by_cases hjk : j = k
  · subst hjk
    rw [List.getElem?_set] at hj
    have hlt : j < ws.length := (List.getElem?_eq_some_iff.mp hcell).1
    simp [hlt] at hj
    rw [← hj]
    exact hB 0 _ rfl
  · rw [List.getElem?_set_ne (Ne.symm hjk)] at hj
    refine (hP j q hj).kept (hk1 q.1 (hP j q hj).lt fun hq => ?_)
    rcases hq with ⟨i, e, hi⟩ | hq
    · match i, hi with
      | 0, hi =>
        have e1 : a = q.1 := congrArg Prod.fst (Option.some.inj hi)
        exact hjk (hD.1 j k q _ hj hcell e1.symm)
      | i + 1, hi => cases hi
    · exact absurd (hP j q hj).lt (Nat.not_lt.mpr hq)
end KIR
