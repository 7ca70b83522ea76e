/-! ===== k: a layer of own rows. 'KO .. pc L st σ o': from the machine state (pc, locals L, stack st, world σ) the method ends as o says, if o says anything ===== -/
-- pure words
def k_ng (n : Nat) : Int32 := -(nI n)
def k_gd {α : Type} (i : Int32) (n : Nat) (o : Option α) : Option α := if i < 0 ∨ n ≤ i.toNatClampNeg then none else o
def k_bn {α β : Type} (x : α) (k : α → β) : β := k x
def k_ob {α β γ : Type} (o : Option (α × β)) (k : α → β → Option γ) : Option γ := match o with | none => none | some a => k a.1 a.2
def k_mx (x y : Int32) : Int32 := if x < y then y else x
def k_z {α : Type} (x : Int32) (o : Option α) : Option α := if x = 0 then o else if x = 1 then o else none
def k_gc {α : Type} (sp dp n : Int32) (n0 n1 : Nat) (o : Option α) : Option α := if sp < 0 ∨ dp < 0 ∨ n < 0 ∨ n0 < sp.toNatClampNeg + n.toNatClampNeg ∨ n1 < dp.toNatClampNeg + n.toNatClampNeg then none else o
-- one room for numbers: fields by number, arrays by number
abbrev k_S : Type := (Nat → Int32) × (Nat → Nat → Int32)
def k_up {α : Type} (f : Nat → α) (k : Nat) (v : α) : Nat → α := fun j => if j = k then v else f j
def k_sf (σ : k_S) (k : Nat) (v : Int32) : k_S := (k_up σ.1 k v, σ.2)
def k_sA (σ : k_S) (a : Nat) (g : Nat → Int32) : k_S := (σ.1, k_up σ.2 a g)
def k_sa (σ : k_S) (a : Nat) (i v : Int32) : k_S := k_sA σ a (upd (σ.2 a) i.toNatClampNeg v)
def k_sc (σ : k_S) (a0 a1 : Nat) (sp dp n : Int32) : k_S := k_sA σ a1 (va_cpy (σ.2 a0) (σ.2 a1) sp.toNatClampNeg dp.toNatClampNeg n.toNatClampNeg)
-- the run of a method: all that stays the same while it runs
abbrev k_C : Type := (Program × Launch × Env × State × MethodId × Array Value) × (List Frame × Method × Code × va_G × ClassId × (Nat → Prop)) × Room
def k_p (X : k_C) : Program := X.1.1
def k_l (X : k_C) : Launch := X.1.2.1
def k_e (X : k_C) : Env := X.1.2.2.1
def k_s (X : k_C) : State := X.1.2.2.2.1
def k_m (X : k_C) : MethodId := X.1.2.2.2.2.1
def k_a (X : k_C) : Array Value := X.1.2.2.2.2.2
def k_b (X : k_C) : List Frame := X.2.1.1
def k_M (X : k_C) : Method := X.2.1.2.1
def k_c (X : k_C) : Code := X.2.1.2.2.1
def k_D (X : k_C) : va_G := X.2.1.2.2.2.1
def k_I (X : k_C) : ClassId := X.2.1.2.2.2.2.1
def k_A (X : k_C) : Nat → Prop := X.2.1.2.2.2.2.2
def k_R (X : k_C) : Room := X.2.2
-- a method: its room, code, number of locals, class, answer's type
abbrev k_Y : Type := Room × ByteArray × Nat × String × Option FieldType
def k_W (X : k_C) (H : Heap) (locs : List Loc) (kc ks : Nat) (Q : State → Prop) (g : JFrame) : Prop := W (k_p X) (k_l X) (k_e X) (k_R X) (k_s X) (k_m X) (k_a X) (k_b X) (k_M X) (k_c X) H locs kc ks Q g
-- the locals: what is held at each place, of one word each
def k_L (ls : Array Slot) (nL : Nat) (L : List (Option Value)) : Prop := ls.size = nL ∧ lv_wf ls ∧ ∀ (i : Nat) (v : Value), L[i]? = some (some v) → ls[i]? = some (.val v) ∧ v.category = 1
def k_same {S : Type} (cw : S → va_W) : Prop := ∀ (σ τ : S) (k : Nat) (q : Nat × va_E), (cw σ)[k]? = some q → ∃ e : va_E, (cw τ)[k]? = some (q.1, e)
def k_G {S : Type} (X : k_C) (Y : k_Y) (cw : S → va_W) : Prop :=
  (k_p X).tables.exec = Jvm.exec ∧ (k_c X).code = Y.2.1 ∧ (k_c X).maxLocals = Y.2.2.1 ∧ (k_s X).vm.findClass Y.2.2.2.1 = some (k_m X).cls ∧ (∀ w ∈ k_ws, w.before (k_a X) (k_s X) = true) ∧ va_K (k_D X) vwCl [(k_I X, .int)] (k_s X) ∧ (∀ q, (k_s X).heap.size ≤ q → k_A X q) ∧ (∀ σ, va_D (k_A X) (cw σ)) ∧ k_R X = Y.1 ∧ (k_M X).locks = false ∧ (k_M X).sig.returnType = Y.2.2.2.2
def KO {S Rt : Type} (X : k_C) (Y : k_Y) (cw : S → va_W) (kc ks : Nat) (Q : Rt → S → State → Prop) (pc : Nat) (L : List (Option Value)) (st : List Value) (σ : S) (o : Option (Rt × S)) : Prop :=
  k_G X Y cw → ∀ (r : Rt) (σ' : S), o = some (r, σ') → ∀ (H : Heap) (locs : List Loc) (ls : Array Slot), va_P (k_D X) vwCl (cw σ) H → va_S (k_A X) (k_s X).heap H locs → k_L ls Y.2.2.1 L → k_W X H locs kc ks (Q r σ') (F0 (k_m X) pc ls st)
def k_Q {S Rt : Type} (emb : Rt → Option Value) (X : k_C) (cw : S → va_W) (r : Rt) (σ' : S) : State → Prop :=
  MQ (k_b X) (fun _ st oc t => (oc = .returned (emb r) ∧ va_P (k_D X) vwCl (cw σ') t.heap) ∧ va_F (k_A X) st t) (k_a X) (k_s X) 0 0 (k_A X)
abbrev k_ei : Int32 → Option Value := fun r => some (.int r)
abbrev k_ev : Unit → Option Value := fun _ => none
abbrev k_el : Int64 → Option Value := fun r => some (.long r)
-- locals
theorem k_L.at {ls : Array Slot} {nL : Nat} {L : List (Option Value)} (h : k_L ls nL L) {i : Nat} {v : Value} (hi : L[i]? = some (some v)) : ls[i]? = some (.val v) := (h.2.2 i v hi).1
theorem k_pairs (L : List (Option Value)) (q : Nat × Value) : q ∈ (List.range L.length).filterMap (fun j => (L[j]?.join).map (fun v => (j, v))) ↔ L[q.1]? = some (some q.2) := by
  constructor
  · intro hq
    obtain ⟨j, -, hj⟩ := List.mem_filterMap.mp hq
    cases hL : L[j]? with
    | none => rw [hL] at hj; cases hj
    | some o =>
      rw [hL] at hj
      cases o with
      | none => cases hj
      | some v => cases hj; exact hL
  · intro hj
    exact List.mem_filterMap.mpr ⟨q.1, List.mem_range.mpr (List.getElem?_eq_some_iff.mp hj).1, by rw [hj]; rfl⟩
theorem k_L.of_has {ls ls' : Array Slot} {nL : Nat} {L : List (Option Value)} (h : k_L ls nL L) {i : Nat} {v : Value} (h2 : lv_has ls' nL ((i, v) :: ((List.range L.length).filterMap (fun j => (L[j]?.join).map (fun v => (j, v)))).filter (fun q => !(q.1 == i) && !(q.1 + 1 == i && q.2.category == 2)))) (hc : v.category = 1) : k_L ls' nL (L.set i (some v)) := by
  refine ⟨h2.1, h2.2.1, fun j w hj => ?_⟩
  by_cases hji : j = i
  · subst hji
    have hw : w = v := by
      rw [List.getElem?_set] at hj
      by_cases hlt : j < L.length
      · simp [hlt] at hj; exact hj.symm
      · simp [hlt] at hj
    subst hw
    exact ⟨h2.2.2 (j, w) List.mem_cons_self, hc⟩
  · rw [List.getElem?_set_ne (Ne.symm hji)] at hj
    have hcw := (h.2.2 j w hj).2
    refine ⟨h2.2.2 (j, w) (List.mem_cons_of_mem _ (List.mem_filter.mpr ⟨(k_pairs L (j, w)).mpr hj, ?_⟩)), hcw⟩
    simp [hji, hcw]
theorem k_L.fg {ls : Array Slot} {nL : Nat} {L : List (Option Value)} (i : Nat) (h : k_L ls nL L) : k_L ls nL (L.set i none) := by
  refine ⟨h.1, h.2.1, fun j w hj => h.2.2 j w ?_⟩
  by_cases hji : j = i
  · subst hji
    rw [List.getElem?_set] at hj
    by_cases hlt : j < L.length <;> simp [hlt] at hj
  · rwa [List.getElem?_set_ne (Ne.symm hji)] at hj
theorem k_L.entry (vs : List Value) {n : Nat} (h : vs.length ≤ n) (hc : ∀ v ∈ vs, v.category = 1) : k_L ((lg_sl vs ++ List.replicate (n - (lg_sl vs).length) Slot.unset).toArray) n (vs.map some ++ List.replicate (n - vs.length) none) := by
  have hsl : ∀ us : List Value, (∀ v ∈ us, v.category = 1) → lg_sl us = us.map Slot.val := by
    intro us
    induction us with
    | nil => intro _; rfl
    | cons u us ih =>
      intro hu
      have h1 : ¬ u.category = 2 := by rw [hu u List.mem_cons_self]; decide
      have h2 := ih (fun v hv => hu v (List.mem_cons_of_mem _ hv))
      show (if u.category = 2 then [Slot.val u, .second] else [.val u]) ++ lg_sl us = _
      rw [if_neg h1, h2]; rfl
  have e := hsl vs hc
  have hlen : (lg_sl vs).length = vs.length := by rw [e, List.length_map]
  have h0 := lv_entry vs (n := n) (by rw [hlen]; exact h)
  refine ⟨h0.1, h0.2.1, fun i v hi => ?_⟩
  have hlt : i < vs.length := by
    rcases Nat.lt_or_ge i vs.length with q | q
    · exact q
    · rw [List.getElem?_append_right (by simpa using q)] at hi
      simp [List.getElem?_replicate] at hi
  rw [List.getElem?_append_left (by simpa using hlt), List.getElem?_map] at hi
  cases hv : vs[i]? with
  | none => rw [hv] at hi; cases hi
  | some u =>
    rw [hv] at hi
    cases hi
    refine ⟨?_, hc v (List.mem_of_getElem? hv)⟩
    rw [e]
    rw [List.getElem?_toArray, List.getElem?_append_left (by simpa using hlt), List.getElem?_map, hv]
    rfl
section KR
variable {S Rt : Type} {X : k_C} {Y : k_Y} {cw : S → va_W} {kc ks : Nat} {Q : Rt → S → State → Prop} {pc pc' : Nat} {L L' : List (Option Value)} {st st' : List Value} {σ : S} {o o1 o2 : Option (Rt × S)}
theorem KO.lift (h : k_G X Y cw → ∀ (H : Heap) (locs : List Loc) (ls : Array Slot) (Q' : State → Prop), va_P (k_D X) vwCl (cw σ) H → va_S (k_A X) (k_s X).heap H locs → k_L ls Y.2.2.1 L → k_W X H locs kc ks Q' (F0 (k_m X) pc' ls st') → k_W X H locs kc ks Q' (F0 (k_m X) pc ls st)) (kk : KO X Y cw kc ks Q pc' L st' σ o) : KO X Y cw kc ks Q pc L st σ o :=
  fun g r σ' ho H locs ls hP hS hL => h g H locs ls _ hP hS hL (kk g r σ' ho H locs ls hP hS hL)
theorem KO.nil : KO X Y cw kc ks Q pc L st σ Option.none := fun _ _ _ ho => by cases ho
theorem KO.at (h : pc' = pc) (kk : KO X Y cw kc ks Q pc L st σ o) : KO X Y cw kc ks Q pc' L st σ o := h ▸ kk
theorem KO.fg (i : Nat) (kk : KO X Y cw kc ks Q pc (L.set i none) st σ o) : KO X Y cw kc ks Q pc L st σ o := fun g r σ' ho H locs ls hP hS hL => kk g r σ' ho H locs ls hP hS (hL.fg i)
theorem KO.ite {c : Prop} [Decidable c] (k1 : c → KO X Y cw kc ks Q pc L st σ o1) (k2 : ¬ c → KO X Y cw kc ks Q pc L st σ o2) : KO X Y cw kc ks Q pc L st σ (if c then o1 else o2) := by
  by_cases h : c
  · rw [if_pos h]; exact k1 h
  · rw [if_neg h]; exact k2 h
theorem k_iconst {n : Int} {v : Int32} (hd : decode Y.2.1 pc = .ok (.iconst n, 1)) (hv : Int32.ofInt n = v) (kk : KO X Y cw kc ks Q (pc + 1) L (.int v :: st) σ o) : KO X Y cw kc ks Q pc L st σ o :=
  kk.lift fun g _ _ _ _ _ _ _ k => lv_iconst g.1 g.2.1 hd hv k
theorem k_bipush {n : Int} {v : Int32} (hd : decode Y.2.1 pc = .ok (.bipush n, 2)) (hv : (Int8.ofInt n).toInt32 = v) (kk : KO X Y cw kc ks Q (pc + 2) L (.int v :: st) σ o) : KO X Y cw kc ks Q pc L st σ o :=
  kk.lift fun g _ _ _ _ _ _ _ k => lv_bipush g.1 g.2.1 hd hv k
theorem k_sipush {n : Int} {v : Int32} (hd : decode Y.2.1 pc = .ok (.sipush n, 3)) (hv : (Int16.ofInt n).toInt32 = v) (kk : KO X Y cw kc ks Q (pc + 3) L (.int v :: st) σ o) : KO X Y cw kc ks Q pc L st σ o :=
  kk.lift fun g _ _ _ _ _ _ _ k => lv_sipush g.1 g.2.1 hd hv k
theorem k_ldc2 {index : Nat} {v : Int64} (hw : Cond.constantLong Y.2.2.2.1 index v ∈ k_ws) (hd : decode Y.2.1 pc = .ok (.ldc2_w index, 3)) (kk : KO X Y cw kc ks Q (pc + 3) L (.long v :: st) σ o) : KO X Y cw kc ks Q pc L st σ o :=
  kk.lift fun g _ _ _ _ _ _ _ k => lv_ldc2 g.1 g.2.1 g.2.2.2.1 (g.2.2.2.2.1 _ hw) hd k
theorem k_iload_n {i : Fin 4} {x : Int32} (hd : decode Y.2.1 pc = .ok (.iload_n i, 1)) (hL : L[(i : Nat)]? = some (some (.int x))) (kk : KO X Y cw kc ks Q (pc + 1) L (.int x :: st) σ o) : KO X Y cw kc ks Q pc L st σ o :=
  kk.lift fun g _ _ _ _ _ _ h k => lv_iload_n g.1 g.2.1 hd rfl (h.at hL) k
theorem k_iload {i : Nat} {x : Int32} (hd : decode Y.2.1 pc = .ok (.iload i, 2)) (hL : L[i]? = some (some (.int x))) (kk : KO X Y cw kc ks Q (pc + 2) L (.int x :: st) σ o) : KO X Y cw kc ks Q pc L st σ o :=
  kk.lift fun g _ _ _ _ _ _ h k => lv_iload g.1 g.2.1 hd (h.at hL) k
theorem k_aload_n {i : Fin 4} {x : Nat} (hd : decode Y.2.1 pc = .ok (.aload_n i, 1)) (hL : L[(i : Nat)]? = some (some (.ref x))) (kk : KO X Y cw kc ks Q (pc + 1) L (.ref x :: st) σ o) : KO X Y cw kc ks Q pc L st σ o :=
  kk.lift fun g _ _ _ _ _ _ h k => lv_aload_n g.1 g.2.1 hd rfl (h.at hL) k
theorem k_aload {i : Nat} {x : Nat} (hd : decode Y.2.1 pc = .ok (.aload i, 2)) (hL : L[i]? = some (some (.ref x))) (kk : KO X Y cw kc ks Q (pc + 2) L (.ref x :: st) σ o) : KO X Y cw kc ks Q pc L st σ o :=
  kk.lift fun g _ _ _ _ _ _ h k => lv_aload g.1 g.2.1 hd (h.at hL) k
theorem k_iadd {x y : Int32} (hd : decode Y.2.1 pc = .ok (.iadd, 1)) (kk : KO X Y cw kc ks Q (pc + 1) L (.int (x + y) :: st) σ o) : KO X Y cw kc ks Q pc L (.int y :: .int x :: st) σ o :=
  kk.lift fun g _ _ _ _ _ _ _ k => lv_iadd g.1 g.2.1 hd k
theorem k_isub {x y : Int32} (hd : decode Y.2.1 pc = .ok (.isub, 1)) (kk : KO X Y cw kc ks Q (pc + 1) L (.int (x - y) :: st) σ o) : KO X Y cw kc ks Q pc L (.int y :: .int x :: st) σ o :=
  kk.lift fun g _ _ _ _ _ _ _ k => lv_isub g.1 g.2.1 hd k
theorem k_imul {x y : Int32} (hd : decode Y.2.1 pc = .ok (.imul, 1)) (kk : KO X Y cw kc ks Q (pc + 1) L (.int (x * y) :: st) σ o) : KO X Y cw kc ks Q pc L (.int y :: .int x :: st) σ o :=
  kk.lift fun g _ _ _ _ _ _ _ k => lv_imul g.1 g.2.1 hd k
theorem k_iand {x y : Int32} (hd : decode Y.2.1 pc = .ok (.iand, 1)) (kk : KO X Y cw kc ks Q (pc + 1) L (.int (x &&& y) :: st) σ o) : KO X Y cw kc ks Q pc L (.int y :: .int x :: st) σ o :=
  kk.lift fun g _ _ _ _ _ _ _ k => lv_iand g.1 g.2.1 hd k
theorem k_ior {x y : Int32} (hd : decode Y.2.1 pc = .ok (.ior, 1)) (kk : KO X Y cw kc ks Q (pc + 1) L (.int (x ||| y) :: st) σ o) : KO X Y cw kc ks Q pc L (.int y :: .int x :: st) σ o :=
  kk.lift fun g _ _ _ _ _ _ _ k => lv_ior g.1 g.2.1 hd k
theorem k_ishl {x y : Int32} (hd : decode Y.2.1 pc = .ok (.ishl, 1)) (kk : KO X Y cw kc ks Q (pc + 1) L (.int (x <<< (y &&& 31)) :: st) σ o) : KO X Y cw kc ks Q pc L (.int y :: .int x :: st) σ o :=
  kk.lift fun g _ _ _ _ _ _ _ k => lv_ishl g.1 g.2.1 hd k
theorem k_idiv {x y : Int32} (hd : decode Y.2.1 pc = .ok (.idiv, 1)) (hne : ¬ y = 0) (kk : KO X Y cw kc ks Q (pc + 1) L (.int (x / y) :: st) σ o) : KO X Y cw kc ks Q pc L (.int y :: .int x :: st) σ o :=
  kk.lift fun g _ _ _ _ _ _ _ k => lv_idiv g.1 g.2.1 hd hne k
theorem k_irem {x y : Int32} (hd : decode Y.2.1 pc = .ok (.irem, 1)) (hne : ¬ y = 0) (kk : KO X Y cw kc ks Q (pc + 1) L (.int (x - x / y * y) :: st) σ o) : KO X Y cw kc ks Q pc L (.int y :: .int x :: st) σ o :=
  kk.lift fun g _ _ _ _ _ _ _ k => lv_irem g.1 g.2.1 hd hne k
theorem k_i2l {x : Int32} (hd : decode Y.2.1 pc = .ok (.i2l, 1)) (kk : KO X Y cw kc ks Q (pc + 1) L (.long x.toInt64 :: st) σ o) : KO X Y cw kc ks Q pc L (.int x :: st) σ o :=
  kk.lift fun g _ _ _ _ _ _ _ k => lv_i2l g.1 g.2.1 hd rfl k
theorem k_i2b {x : Int32} (hd : decode Y.2.1 pc = .ok (.i2b, 1)) (kk : KO X Y cw kc ks Q (pc + 1) L (.int x.toInt8.toInt32 :: st) σ o) : KO X Y cw kc ks Q pc L (.int x :: st) σ o :=
  kk.lift fun g _ _ _ _ _ _ _ k => lv_i2b g.1 g.2.1 hd rfl k
theorem k_i2s {x : Int32} (hd : decode Y.2.1 pc = .ok (.i2s, 1)) (kk : KO X Y cw kc ks Q (pc + 1) L (.int x.toInt16.toInt32 :: st) σ o) : KO X Y cw kc ks Q pc L (.int x :: st) σ o :=
  kk.lift fun g _ _ _ _ _ _ _ k => lv_i2s g.1 g.2.1 hd rfl k
theorem k_dup {a : Value} (hd : decode Y.2.1 pc = .ok (.dup, 1)) (hc : a.category = 1) (kk : KO X Y cw kc ks Q (pc + 1) L (a :: a :: st) σ o) : KO X Y cw kc ks Q pc L (a :: st) σ o :=
  kk.lift fun g _ _ _ _ _ _ _ k => lv_dup g.1 g.2.1 hd hc k
theorem k_dup2 {a b : Value} (hd : decode Y.2.1 pc = .ok (.dup2, 1)) (hc : a.category = 1) (hc2 : b.category = 1) (kk : KO X Y cw kc ks Q (pc + 1) L (a :: b :: a :: b :: st) σ o) : KO X Y cw kc ks Q pc L (a :: b :: st) σ o :=
  kk.lift fun g _ _ _ _ _ _ _ k => lv_dup2_11 g.1 g.2.1 hd hc hc2 k
theorem k_lcmp {x y : Int64} (hd : decode Y.2.1 pc = .ok (.lcmp, 1)) (kk : KO X Y cw kc ks Q (pc + 1) L (.int (lg_cmp x y) :: st) σ o) : KO X Y cw kc ks Q pc L (.long y :: .long x :: st) σ o :=
  kk.lift fun g _ _ _ _ _ _ _ k => W.lcmp g.1 g.2.1 hd k
theorem k_goto {off : Int} (tgt : Nat) (hd : decode Y.2.1 pc = .ok (.goto off, 3)) (ht : (pc : Int) + off = (tgt : Int)) (kk : KO X Y cw kc ks Q tgt L st σ o) : KO X Y cw kc ks Q pc L st σ o :=
  kk.lift fun g _ _ _ _ _ _ _ k => lv_goto g.1 g.2.1 hd ht k
end KR
