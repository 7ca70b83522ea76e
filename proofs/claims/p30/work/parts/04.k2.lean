/-! ===== k, second part: branches, stores, fields, arrays, ends (by program: wip/gen30/k2.py) ===== -/
section KR2
variable {S Rt : Type} {X : k_C} {Y : k_Y} {cw : S → va_W} {kc ks : Nat} {Q : Rt → S → State → Prop} {pc pc' : Nat} {L L' : List (Option Value)} {st st' : List Value} {σ : S} {o o1 o2 : Option (Rt × S)}
theorem k_if_eq {x : Int32} {off : Int} (tgt : Nat) (hd : decode Y.2.1 pc = .ok (.ifCond .eq off, 3)) (ht : (pc : Int) + off = (tgt : Int)) (kt : KO X Y cw kc ks Q tgt L st σ o1) (kf : KO X Y cw kc ks Q (pc + 3) L st σ o2) : KO X Y cw kc ks Q pc L (.int x :: st) σ (if x = 0 then o1 else o2) := by
  intro g r σ' ho H locs ls hP hS hL
  by_cases hc : x = 0
  · rw [if_pos hc] at ho
    exact lv_if_eq g.1 g.2.1 hd ht (fun _ => kt g r σ' ho H locs ls hP hS hL) (fun q => absurd hc q)
  · rw [if_neg hc] at ho
    exact lv_if_eq g.1 g.2.1 hd ht (fun q => absurd q hc) (fun _ => kf g r σ' ho H locs ls hP hS hL)
theorem k_if_ne {x : Int32} {off : Int} (tgt : Nat) (hd : decode Y.2.1 pc = .ok (.ifCond .ne off, 3)) (ht : (pc : Int) + off = (tgt : Int)) (kt : KO X Y cw kc ks Q tgt L st σ o1) (kf : KO X Y cw kc ks Q (pc + 3) L st σ o2) : KO X Y cw kc ks Q pc L (.int x :: st) σ (if x = 0 then o2 else o1) := by
  intro g r σ' ho H locs ls hP hS hL
  by_cases hc : x = 0
  · rw [if_pos hc] at ho
    exact lv_if_ne g.1 g.2.1 hd ht (fun q => absurd hc q) (fun _ => kf g r σ' ho H locs ls hP hS hL)
  · rw [if_neg hc] at ho
    exact lv_if_ne g.1 g.2.1 hd ht (fun _ => kt g r σ' ho H locs ls hP hS hL) (fun q => absurd q hc)
theorem k_if_lt {x : Int32} {off : Int} (tgt : Nat) (hd : decode Y.2.1 pc = .ok (.ifCond .lt off, 3)) (ht : (pc : Int) + off = (tgt : Int)) (kt : KO X Y cw kc ks Q tgt L st σ o1) (kf : KO X Y cw kc ks Q (pc + 3) L st σ o2) : KO X Y cw kc ks Q pc L (.int x :: st) σ (if x < 0 then o1 else o2) := by
  intro g r σ' ho H locs ls hP hS hL
  by_cases hc : x < 0
  · rw [if_pos hc] at ho
    exact lv_if_lt g.1 g.2.1 hd ht (fun _ => kt g r σ' ho H locs ls hP hS hL) (fun q => absurd hc q)
  · rw [if_neg hc] at ho
    exact lv_if_lt g.1 g.2.1 hd ht (fun q => absurd q hc) (fun _ => kf g r σ' ho H locs ls hP hS hL)
theorem k_if_ge {x : Int32} {off : Int} (tgt : Nat) (hd : decode Y.2.1 pc = .ok (.ifCond .ge off, 3)) (ht : (pc : Int) + off = (tgt : Int)) (kt : KO X Y cw kc ks Q tgt L st σ o1) (kf : KO X Y cw kc ks Q (pc + 3) L st σ o2) : KO X Y cw kc ks Q pc L (.int x :: st) σ (if x < 0 then o2 else o1) := by
  intro g r σ' ho H locs ls hP hS hL
  by_cases hc : x < 0
  · rw [if_pos hc] at ho
    exact lv_if_ge g.1 g.2.1 hd ht (fun q => absurd hc (Int32.not_lt.mpr q)) (fun _ => kf g r σ' ho H locs ls hP hS hL)
  · rw [if_neg hc] at ho
    exact lv_if_ge g.1 g.2.1 hd ht (fun _ => kt g r σ' ho H locs ls hP hS hL) (fun q => absurd (Int32.not_le.mp q) hc)
theorem k_if_gt {x : Int32} {off : Int} (tgt : Nat) (hd : decode Y.2.1 pc = .ok (.ifCond .gt off, 3)) (ht : (pc : Int) + off = (tgt : Int)) (kt : KO X Y cw kc ks Q tgt L st σ o1) (kf : KO X Y cw kc ks Q (pc + 3) L st σ o2) : KO X Y cw kc ks Q pc L (.int x :: st) σ (if 0 < x then o1 else o2) := by
  intro g r σ' ho H locs ls hP hS hL
  by_cases hc : 0 < x
  · rw [if_pos hc] at ho
    exact lv_if_gt g.1 g.2.1 hd ht (fun _ => kt g r σ' ho H locs ls hP hS hL) (fun q => absurd hc q)
  · rw [if_neg hc] at ho
    exact lv_if_gt g.1 g.2.1 hd ht (fun q => absurd q hc) (fun _ => kf g r σ' ho H locs ls hP hS hL)
theorem k_if_le {x : Int32} {off : Int} (tgt : Nat) (hd : decode Y.2.1 pc = .ok (.ifCond .le off, 3)) (ht : (pc : Int) + off = (tgt : Int)) (kt : KO X Y cw kc ks Q tgt L st σ o1) (kf : KO X Y cw kc ks Q (pc + 3) L st σ o2) : KO X Y cw kc ks Q pc L (.int x :: st) σ (if 0 < x then o2 else o1) := by
  intro g r σ' ho H locs ls hP hS hL
  by_cases hc : 0 < x
  · rw [if_pos hc] at ho
    exact lv_if_le g.1 g.2.1 hd ht (fun q => absurd hc (Int32.not_lt.mpr q)) (fun _ => kf g r σ' ho H locs ls hP hS hL)
  · rw [if_neg hc] at ho
    exact lv_if_le g.1 g.2.1 hd ht (fun _ => kt g r σ' ho H locs ls hP hS hL) (fun q => absurd (Int32.not_le.mp q) hc)
theorem k_icmp_eq {x y : Int32} {off : Int} (tgt : Nat) (hd : decode Y.2.1 pc = .ok (.if_icmp .eq off, 3)) (ht : (pc : Int) + off = (tgt : Int)) (kt : KO X Y cw kc ks Q tgt L st σ o1) (kf : KO X Y cw kc ks Q (pc + 3) L st σ o2) : KO X Y cw kc ks Q pc L (.int y :: .int x :: st) σ (if x = y then o1 else o2) := by
  intro g r σ' ho H locs ls hP hS hL
  by_cases hc : x = y
  · rw [if_pos hc] at ho
    exact lv_icmp_eq g.1 g.2.1 hd ht (fun _ => kt g r σ' ho H locs ls hP hS hL) (fun q => absurd hc q)
  · rw [if_neg hc] at ho
    exact lv_icmp_eq g.1 g.2.1 hd ht (fun q => absurd q hc) (fun _ => kf g r σ' ho H locs ls hP hS hL)
theorem k_icmp_ne {x y : Int32} {off : Int} (tgt : Nat) (hd : decode Y.2.1 pc = .ok (.if_icmp .ne off, 3)) (ht : (pc : Int) + off = (tgt : Int)) (kt : KO X Y cw kc ks Q tgt L st σ o1) (kf : KO X Y cw kc ks Q (pc + 3) L st σ o2) : KO X Y cw kc ks Q pc L (.int y :: .int x :: st) σ (if x = y then o2 else o1) := by
  intro g r σ' ho H locs ls hP hS hL
  by_cases hc : x = y
  · rw [if_pos hc] at ho
    exact lv_icmp_ne g.1 g.2.1 hd ht (fun q => absurd hc q) (fun _ => kf g r σ' ho H locs ls hP hS hL)
  · rw [if_neg hc] at ho
    exact lv_icmp_ne g.1 g.2.1 hd ht (fun _ => kt g r σ' ho H locs ls hP hS hL) (fun q => absurd q hc)
theorem k_icmp_lt {x y : Int32} {off : Int} (tgt : Nat) (hd : decode Y.2.1 pc = .ok (.if_icmp .lt off, 3)) (ht : (pc : Int) + off = (tgt : Int)) (kt : KO X Y cw kc ks Q tgt L st σ o1) (kf : KO X Y cw kc ks Q (pc + 3) L st σ o2) : KO X Y cw kc ks Q pc L (.int y :: .int x :: st) σ (if x < y then o1 else o2) := by
  intro g r σ' ho H locs ls hP hS hL
  by_cases hc : x < y
  · rw [if_pos hc] at ho
    exact lv_icmp_lt g.1 g.2.1 hd ht (fun _ => kt g r σ' ho H locs ls hP hS hL) (fun q => absurd hc q)
  · rw [if_neg hc] at ho
    exact lv_icmp_lt g.1 g.2.1 hd ht (fun q => absurd q hc) (fun _ => kf g r σ' ho H locs ls hP hS hL)
theorem k_icmp_ge {x y : Int32} {off : Int} (tgt : Nat) (hd : decode Y.2.1 pc = .ok (.if_icmp .ge off, 3)) (ht : (pc : Int) + off = (tgt : Int)) (kt : KO X Y cw kc ks Q tgt L st σ o1) (kf : KO X Y cw kc ks Q (pc + 3) L st σ o2) : KO X Y cw kc ks Q pc L (.int y :: .int x :: st) σ (if x < y then o2 else o1) := by
  intro g r σ' ho H locs ls hP hS hL
  by_cases hc : x < y
  · rw [if_pos hc] at ho
    exact lv_icmp_ge g.1 g.2.1 hd ht (fun q => absurd hc (Int32.not_lt.mpr q)) (fun _ => kf g r σ' ho H locs ls hP hS hL)
  · rw [if_neg hc] at ho
    exact lv_icmp_ge g.1 g.2.1 hd ht (fun _ => kt g r σ' ho H locs ls hP hS hL) (fun q => absurd (Int32.not_le.mp q) hc)
theorem k_icmp_gt {x y : Int32} {off : Int} (tgt : Nat) (hd : decode Y.2.1 pc = .ok (.if_icmp .gt off, 3)) (ht : (pc : Int) + off = (tgt : Int)) (kt : KO X Y cw kc ks Q tgt L st σ o1) (kf : KO X Y cw kc ks Q (pc + 3) L st σ o2) : KO X Y cw kc ks Q pc L (.int y :: .int x :: st) σ (if y < x then o1 else o2) := by
  intro g r σ' ho H locs ls hP hS hL
  by_cases hc : y < x
  · rw [if_pos hc] at ho
    exact lv_icmp_gt g.1 g.2.1 hd ht (fun _ => kt g r σ' ho H locs ls hP hS hL) (fun q => absurd hc q)
  · rw [if_neg hc] at ho
    exact lv_icmp_gt g.1 g.2.1 hd ht (fun q => absurd q hc) (fun _ => kf g r σ' ho H locs ls hP hS hL)
theorem k_icmp_le {x y : Int32} {off : Int} (tgt : Nat) (hd : decode Y.2.1 pc = .ok (.if_icmp .le off, 3)) (ht : (pc : Int) + off = (tgt : Int)) (kt : KO X Y cw kc ks Q tgt L st σ o1) (kf : KO X Y cw kc ks Q (pc + 3) L st σ o2) : KO X Y cw kc ks Q pc L (.int y :: .int x :: st) σ (if y < x then o2 else o1) := by
  intro g r σ' ho H locs ls hP hS hL
  by_cases hc : y < x
  · rw [if_pos hc] at ho
    exact lv_icmp_le g.1 g.2.1 hd ht (fun q => absurd hc (Int32.not_lt.mpr q)) (fun _ => kf g r σ' ho H locs ls hP hS hL)
  · rw [if_neg hc] at ho
    exact lv_icmp_le g.1 g.2.1 hd ht (fun _ => kt g r σ' ho H locs ls hP hS hL) (fun q => absurd (Int32.not_le.mp q) hc)
theorem k_lookup {dflt : Int} {ps : Array (Int × Int)} {len : Nat} {x : Int32} {off : Int} (tgt : Nat) (hd : decode Y.2.1 pc = .ok (.lookupswitch dflt ps, len)) (hp : (ps.toList.zip (ps.toList.drop 1)).all (fun (a, next) => a.1 < next.1) = true) (ho : Op.lookupswitch.offset ps.toList dflt x.toInt = off) (ht : (pc : Int) + off = (tgt : Int)) (kk : KO X Y cw kc ks Q tgt L st σ o) : KO X Y cw kc ks Q pc L (.int x :: st) σ o :=
  kk.lift fun g _ _ _ _ _ _ _ k => lv_lookup g.1 g.2.1 hd hp ho ht k
theorem k_tableOut {dflt lo hi : Int} {offs : Array Int} {len : Nat} {x : Int32} (tgt : Nat) (hd : decode Y.2.1 pc = .ok (.tableswitch dflt lo hi offs, len)) (h : x.toInt < lo ∨ hi < x.toInt) (ht : (pc : Int) + dflt = (tgt : Int)) (kk : KO X Y cw kc ks Q tgt L st σ o) : KO X Y cw kc ks Q pc L (.int x :: st) σ o :=
  kk.lift fun g _ _ _ _ _ _ _ k => lv_tableOut g.1 g.2.1 hd h ht k
theorem k_tableIn {dflt lo hi : Int} {offs : Array Int} {len : Nat} {x v : Int32} {off : Int} (tgt : Nat) (hd : decode Y.2.1 pc = .ok (.tableswitch dflt lo hi offs, len)) (hx : x = v) (h1 : lo ≤ v.toInt) (h2 : v.toInt ≤ hi) (ho : offs[(v.toInt - lo).toNat]? = some off) (ht : (pc : Int) + off = (tgt : Int)) (kk : KO X Y cw kc ks Q tgt L st σ o) : KO X Y cw kc ks Q pc L (.int x :: st) σ o := by
  subst hx
  exact kk.lift fun g _ _ _ _ _ _ _ k => lv_tableIn g.1 g.2.1 hd (by omega) (by omega) ho ht k
theorem k_set (i : Nat) {v : Value} {pc' : Nat} {k : Rt → S → State → Prop} (hi : i < Y.2.2.1) (hc : v.category = 1) (hst : k_G X Y cw → ∀ (H : Heap) (locs : List Loc) (ls : Array Slot) (Q' : State → Prop), k_L ls Y.2.2.1 L → (∀ ls' : Array Slot, k_L ls' Y.2.2.1 (L.set i (some v)) → k_W X H locs kc ks Q' (F0 (k_m X) pc' ls' st')) → k_W X H locs kc ks Q' (F0 (k_m X) pc ls st)) (kk : KO X Y cw kc ks Q pc' (L.set i (some v)) st' σ o) : KO X Y cw kc ks Q pc L st σ o :=
  fun g r σ' ho H locs ls hP hS hL => hst g H locs ls _ hL (fun ls' hL' => kk g r σ' ho H locs ls' hP hS hL')
theorem k_istG (i : Nat) {x : Int32} (hd : (∃ k : Fin 4, decode Y.2.1 pc = .ok (.istore_n k, 1) ∧ (k : Nat) = i ∧ pc' = pc + 1) ∨ (decode Y.2.1 pc = .ok (.istore i, 2) ∧ pc' = pc + 2)) (hi : i < Y.2.2.1) (kk : KO X Y cw kc ks Q pc' (L.set i (some (.int x))) st σ o) : KO X Y cw kc ks Q pc L (.int x :: st) σ o := by
  intro g r σ' ho H locs ls hP hS hL
  let l : List (Nat × Value) := (List.range L.length).filterMap (fun j => (L[j]?.join).map (fun v => (j, v)))
  have hm : ∀ q : Nat × Value, q ∈ l ↔ L[q.1]? = some (some q.2) := k_pairs L
  have hl : lv_has ls Y.2.2.1 l := ⟨hL.1, hL.2.1, fun q hq => (hL.2.2 _ _ ((hm q).mp hq)).1⟩
  have fin : ∀ ls' : Array Slot, lv_has ls' Y.2.2.1 ((i, Value.int x) :: l.filter (fun q => !(q.1 == i) && !(q.1 + 1 == i && q.2.category == 2))) → k_W X H locs kc ks (Q r σ') (F0 (k_m X) pc' ls' st) := fun ls' h2 => kk g r σ' ho H locs ls' hP hS (k_L.of_has hL h2 rfl)
  rcases hd with ⟨k, hd, hk, rfl⟩ | ⟨hd, rfl⟩
  · exact lv_istore_n g.1 g.2.1 hd hk hl hi rfl fin
  · exact lv_istore g.1 g.2.1 hd hl hi rfl fin
theorem k_astG (i : Nat) {x : Nat} (hd : ∃ k : Fin 4, decode Y.2.1 pc = .ok (.astore_n k, 1) ∧ (k : Nat) = i) (hi : i < Y.2.2.1) (kk : KO X Y cw kc ks Q (pc + 1) (L.set i (some (.ref x))) st σ o) : KO X Y cw kc ks Q pc L (.ref x :: st) σ o := by
  intro g r σ' ho H locs ls hP hS hL
  let l : List (Nat × Value) := (List.range L.length).filterMap (fun j => (L[j]?.join).map (fun v => (j, v)))
  have hm : ∀ q : Nat × Value, q ∈ l ↔ L[q.1]? = some (some q.2) := k_pairs L
  have hl : lv_has ls Y.2.2.1 l := ⟨hL.1, hL.2.1, fun q hq => (hL.2.2 _ _ ((hm q).mp hq)).1⟩
  have fin : ∀ ls' : Array Slot, lv_has ls' Y.2.2.1 ((i, Value.ref x) :: l.filter (fun q => !(q.1 == i) && !(q.1 + 1 == i && q.2.category == 2))) → k_W X H locs kc ks (Q r σ') (F0 (k_m X) (pc + 1) ls' st) := fun ls' h2 => kk g r σ' ho H locs ls' hP hS (k_L.of_has hL h2 rfl)
  obtain ⟨k, hd, hk⟩ := hd
  exact lv_astore_n g.1 g.2.1 hd hk hl hi rfl fin
theorem k_iincG (i : Nat) {n : Int} {x v : Int32} (hd : decode Y.2.1 pc = .ok (.iinc i n, 3)) (hx : L[i]? = some (some (.int x))) (hv : x + Int32.ofInt n = v) (hi : i < Y.2.2.1) (kk : KO X Y cw kc ks Q (pc + 3) (L.set i (some (.int v))) st σ o) : KO X Y cw kc ks Q pc L st σ o := by
  intro g r σ' ho H locs ls hP hS hL
  let l : List (Nat × Value) := (List.range L.length).filterMap (fun j => (L[j]?.join).map (fun v => (j, v)))
  have hm : ∀ q : Nat × Value, q ∈ l ↔ L[q.1]? = some (some q.2) := k_pairs L
  have hl : lv_has ls Y.2.2.1 l := ⟨hL.1, hL.2.1, fun q hq => (hL.2.2 _ _ ((hm q).mp hq)).1⟩
  obtain ⟨k, hk⟩ := List.getElem?_of_mem ((hm (i, .int x)).mpr hx)
  exact lv_iinc g.1 g.2.1 hd hl hk hv hi rfl fun ls' h2 => kk g r σ' ho H locs ls' hP hS (k_L.of_has hL h2 rfl)
theorem k_ist0 {a0 : Option Value} {x : Int32} {k : Int32 → Option (Rt × S)} (hd : decode Y.2.1 pc = .ok (.istore_n 0, 1)) (hi : 0 < Y.2.2.1) (kk : ∀ x' : Int32, KO X Y cw kc ks Q (pc + 1) (some (.int x') :: L) st σ (k x')) : KO X Y cw kc ks Q pc (a0 :: L) (.int x :: st) σ (k_bn x k) := k_istG 0 (.inl ⟨0, hd, rfl, rfl⟩) hi (kk x)
theorem k_iinc0 {a : Option Value} {n : Int} {x w : Int32} {k : Int32 → Option (Rt × S)} (hd : decode Y.2.1 pc = .ok (.iinc 0 n, 3)) (ha : a = some (.int x)) (hw : Int32.ofInt n = w) (hi : 0 < Y.2.2.1) (kk : ∀ x' : Int32, KO X Y cw kc ks Q (pc + 3) (some (.int x') :: L) st σ (k x')) : KO X Y cw kc ks Q pc (a :: L) st σ (k_bn (x + w) k) := by
  subst ha hw
  exact k_iincG 0 hd rfl rfl hi (kk _)
theorem k_fg0 {a0 : Option Value} (kk : KO X Y cw kc ks Q pc (none :: L) st σ o) : KO X Y cw kc ks Q pc (a0 :: L) st σ o := KO.fg 0 kk
theorem k_ist1 {a0 a1 : Option Value} {x : Int32} {k : Int32 → Option (Rt × S)} (hd : decode Y.2.1 pc = .ok (.istore_n 1, 1)) (hi : 1 < Y.2.2.1) (kk : ∀ x' : Int32, KO X Y cw kc ks Q (pc + 1) (a0 :: some (.int x') :: L) st σ (k x')) : KO X Y cw kc ks Q pc (a0 :: a1 :: L) (.int x :: st) σ (k_bn x k) := k_istG 1 (.inl ⟨1, hd, rfl, rfl⟩) hi (kk x)
theorem k_iinc1 {a0 a : Option Value} {n : Int} {x w : Int32} {k : Int32 → Option (Rt × S)} (hd : decode Y.2.1 pc = .ok (.iinc 1 n, 3)) (ha : a = some (.int x)) (hw : Int32.ofInt n = w) (hi : 1 < Y.2.2.1) (kk : ∀ x' : Int32, KO X Y cw kc ks Q (pc + 3) (a0 :: some (.int x') :: L) st σ (k x')) : KO X Y cw kc ks Q pc (a0 :: a :: L) st σ (k_bn (x + w) k) := by
  subst ha hw
  exact k_iincG 1 hd rfl rfl hi (kk _)
theorem k_fg1 {a0 a1 : Option Value} (kk : KO X Y cw kc ks Q pc (a0 :: none :: L) st σ o) : KO X Y cw kc ks Q pc (a0 :: a1 :: L) st σ o := KO.fg 1 kk
theorem k_ist2 {a0 a1 a2 : Option Value} {x : Int32} {k : Int32 → Option (Rt × S)} (hd : decode Y.2.1 pc = .ok (.istore_n 2, 1)) (hi : 2 < Y.2.2.1) (kk : ∀ x' : Int32, KO X Y cw kc ks Q (pc + 1) (a0 :: a1 :: some (.int x') :: L) st σ (k x')) : KO X Y cw kc ks Q pc (a0 :: a1 :: a2 :: L) (.int x :: st) σ (k_bn x k) := k_istG 2 (.inl ⟨2, hd, rfl, rfl⟩) hi (kk x)
theorem k_iinc2 {a0 a1 a : Option Value} {n : Int} {x w : Int32} {k : Int32 → Option (Rt × S)} (hd : decode Y.2.1 pc = .ok (.iinc 2 n, 3)) (ha : a = some (.int x)) (hw : Int32.ofInt n = w) (hi : 2 < Y.2.2.1) (kk : ∀ x' : Int32, KO X Y cw kc ks Q (pc + 3) (a0 :: a1 :: some (.int x') :: L) st σ (k x')) : KO X Y cw kc ks Q pc (a0 :: a1 :: a :: L) st σ (k_bn (x + w) k) := by
  subst ha hw
  exact k_iincG 2 hd rfl rfl hi (kk _)
theorem k_fg2 {a0 a1 a2 : Option Value} (kk : KO X Y cw kc ks Q pc (a0 :: a1 :: none :: L) st σ o) : KO X Y cw kc ks Q pc (a0 :: a1 :: a2 :: L) st σ o := KO.fg 2 kk
theorem k_ist3 {a0 a1 a2 a3 : Option Value} {x : Int32} {k : Int32 → Option (Rt × S)} (hd : decode Y.2.1 pc = .ok (.istore_n 3, 1)) (hi : 3 < Y.2.2.1) (kk : ∀ x' : Int32, KO X Y cw kc ks Q (pc + 1) (a0 :: a1 :: a2 :: some (.int x') :: L) st σ (k x')) : KO X Y cw kc ks Q pc (a0 :: a1 :: a2 :: a3 :: L) (.int x :: st) σ (k_bn x k) := k_istG 3 (.inl ⟨3, hd, rfl, rfl⟩) hi (kk x)
theorem k_iinc3 {a0 a1 a2 a : Option Value} {n : Int} {x w : Int32} {k : Int32 → Option (Rt × S)} (hd : decode Y.2.1 pc = .ok (.iinc 3 n, 3)) (ha : a = some (.int x)) (hw : Int32.ofInt n = w) (hi : 3 < Y.2.2.1) (kk : ∀ x' : Int32, KO X Y cw kc ks Q (pc + 3) (a0 :: a1 :: a2 :: some (.int x') :: L) st σ (k x')) : KO X Y cw kc ks Q pc (a0 :: a1 :: a2 :: a :: L) st σ (k_bn (x + w) k) := by
  subst ha hw
  exact k_iincG 3 hd rfl rfl hi (kk _)
theorem k_fg3 {a0 a1 a2 a3 : Option Value} (kk : KO X Y cw kc ks Q pc (a0 :: a1 :: a2 :: none :: L) st σ o) : KO X Y cw kc ks Q pc (a0 :: a1 :: a2 :: a3 :: L) st σ o := KO.fg 3 kk
theorem k_ist4 {a0 a1 a2 a3 a4 : Option Value} {x : Int32} {k : Int32 → Option (Rt × S)} (hd : decode Y.2.1 pc = .ok (.istore 4, 2)) (hi : 4 < Y.2.2.1) (kk : ∀ x' : Int32, KO X Y cw kc ks Q (pc + 2) (a0 :: a1 :: a2 :: a3 :: some (.int x') :: L) st σ (k x')) : KO X Y cw kc ks Q pc (a0 :: a1 :: a2 :: a3 :: a4 :: L) (.int x :: st) σ (k_bn x k) := k_istG 4 (.inr ⟨hd, rfl⟩) hi (kk x)
theorem k_iinc4 {a0 a1 a2 a3 a : Option Value} {n : Int} {x w : Int32} {k : Int32 → Option (Rt × S)} (hd : decode Y.2.1 pc = .ok (.iinc 4 n, 3)) (ha : a = some (.int x)) (hw : Int32.ofInt n = w) (hi : 4 < Y.2.2.1) (kk : ∀ x' : Int32, KO X Y cw kc ks Q (pc + 3) (a0 :: a1 :: a2 :: a3 :: some (.int x') :: L) st σ (k x')) : KO X Y cw kc ks Q pc (a0 :: a1 :: a2 :: a3 :: a :: L) st σ (k_bn (x + w) k) := by
  subst ha hw
  exact k_iincG 4 hd rfl rfl hi (kk _)
theorem k_fg4 {a0 a1 a2 a3 a4 : Option Value} (kk : KO X Y cw kc ks Q pc (a0 :: a1 :: a2 :: a3 :: none :: L) st σ o) : KO X Y cw kc ks Q pc (a0 :: a1 :: a2 :: a3 :: a4 :: L) st σ o := KO.fg 4 kk
theorem k_ist5 {a0 a1 a2 a3 a4 a5 : Option Value} {x : Int32} {k : Int32 → Option (Rt × S)} (hd : decode Y.2.1 pc = .ok (.istore 5, 2)) (hi : 5 < Y.2.2.1) (kk : ∀ x' : Int32, KO X Y cw kc ks Q (pc + 2) (a0 :: a1 :: a2 :: a3 :: a4 :: some (.int x') :: L) st σ (k x')) : KO X Y cw kc ks Q pc (a0 :: a1 :: a2 :: a3 :: a4 :: a5 :: L) (.int x :: st) σ (k_bn x k) := k_istG 5 (.inr ⟨hd, rfl⟩) hi (kk x)
theorem k_iinc5 {a0 a1 a2 a3 a4 a : Option Value} {n : Int} {x w : Int32} {k : Int32 → Option (Rt × S)} (hd : decode Y.2.1 pc = .ok (.iinc 5 n, 3)) (ha : a = some (.int x)) (hw : Int32.ofInt n = w) (hi : 5 < Y.2.2.1) (kk : ∀ x' : Int32, KO X Y cw kc ks Q (pc + 3) (a0 :: a1 :: a2 :: a3 :: a4 :: some (.int x') :: L) st σ (k x')) : KO X Y cw kc ks Q pc (a0 :: a1 :: a2 :: a3 :: a4 :: a :: L) st σ (k_bn (x + w) k) := by
  subst ha hw
  exact k_iincG 5 hd rfl rfl hi (kk _)
theorem k_fg5 {a0 a1 a2 a3 a4 a5 : Option Value} (kk : KO X Y cw kc ks Q pc (a0 :: a1 :: a2 :: a3 :: a4 :: none :: L) st σ o) : KO X Y cw kc ks Q pc (a0 :: a1 :: a2 :: a3 :: a4 :: a5 :: L) st σ o := KO.fg 5 kk
theorem k_ist6 {a0 a1 a2 a3 a4 a5 a6 : Option Value} {x : Int32} {k : Int32 → Option (Rt × S)} (hd : decode Y.2.1 pc = .ok (.istore 6, 2)) (hi : 6 < Y.2.2.1) (kk : ∀ x' : Int32, KO X Y cw kc ks Q (pc + 2) (a0 :: a1 :: a2 :: a3 :: a4 :: a5 :: some (.int x') :: L) st σ (k x')) : KO X Y cw kc ks Q pc (a0 :: a1 :: a2 :: a3 :: a4 :: a5 :: a6 :: L) (.int x :: st) σ (k_bn x k) := k_istG 6 (.inr ⟨hd, rfl⟩) hi (kk x)
theorem k_iinc6 {a0 a1 a2 a3 a4 a5 a : Option Value} {n : Int} {x w : Int32} {k : Int32 → Option (Rt × S)} (hd : decode Y.2.1 pc = .ok (.iinc 6 n, 3)) (ha : a = some (.int x)) (hw : Int32.ofInt n = w) (hi : 6 < Y.2.2.1) (kk : ∀ x' : Int32, KO X Y cw kc ks Q (pc + 3) (a0 :: a1 :: a2 :: a3 :: a4 :: a5 :: some (.int x') :: L) st σ (k x')) : KO X Y cw kc ks Q pc (a0 :: a1 :: a2 :: a3 :: a4 :: a5 :: a :: L) st σ (k_bn (x + w) k) := by
  subst ha hw
  exact k_iincG 6 hd rfl rfl hi (kk _)
theorem k_fg6 {a0 a1 a2 a3 a4 a5 a6 : Option Value} (kk : KO X Y cw kc ks Q pc (a0 :: a1 :: a2 :: a3 :: a4 :: a5 :: none :: L) st σ o) : KO X Y cw kc ks Q pc (a0 :: a1 :: a2 :: a3 :: a4 :: a5 :: a6 :: L) st σ o := KO.fg 6 kk
theorem k_ist7 {a0 a1 a2 a3 a4 a5 a6 a7 : Option Value} {x : Int32} {k : Int32 → Option (Rt × S)} (hd : decode Y.2.1 pc = .ok (.istore 7, 2)) (hi : 7 < Y.2.2.1) (kk : ∀ x' : Int32, KO X Y cw kc ks Q (pc + 2) (a0 :: a1 :: a2 :: a3 :: a4 :: a5 :: a6 :: some (.int x') :: L) st σ (k x')) : KO X Y cw kc ks Q pc (a0 :: a1 :: a2 :: a3 :: a4 :: a5 :: a6 :: a7 :: L) (.int x :: st) σ (k_bn x k) := k_istG 7 (.inr ⟨hd, rfl⟩) hi (kk x)
theorem k_iinc7 {a0 a1 a2 a3 a4 a5 a6 a : Option Value} {n : Int} {x w : Int32} {k : Int32 → Option (Rt × S)} (hd : decode Y.2.1 pc = .ok (.iinc 7 n, 3)) (ha : a = some (.int x)) (hw : Int32.ofInt n = w) (hi : 7 < Y.2.2.1) (kk : ∀ x' : Int32, KO X Y cw kc ks Q (pc + 3) (a0 :: a1 :: a2 :: a3 :: a4 :: a5 :: a6 :: some (.int x') :: L) st σ (k x')) : KO X Y cw kc ks Q pc (a0 :: a1 :: a2 :: a3 :: a4 :: a5 :: a6 :: a :: L) st σ (k_bn (x + w) k) := by
  subst ha hw
  exact k_iincG 7 hd rfl rfl hi (kk _)
theorem k_fg7 {a0 a1 a2 a3 a4 a5 a6 a7 : Option Value} (kk : KO X Y cw kc ks Q pc (a0 :: a1 :: a2 :: a3 :: a4 :: a5 :: a6 :: none :: L) st σ o) : KO X Y cw kc ks Q pc (a0 :: a1 :: a2 :: a3 :: a4 :: a5 :: a6 :: a7 :: L) st σ o := KO.fg 7 kk
theorem k_ist8 {a0 a1 a2 a3 a4 a5 a6 a7 a8 : Option Value} {x : Int32} {k : Int32 → Option (Rt × S)} (hd : decode Y.2.1 pc = .ok (.istore 8, 2)) (hi : 8 < Y.2.2.1) (kk : ∀ x' : Int32, KO X Y cw kc ks Q (pc + 2) (a0 :: a1 :: a2 :: a3 :: a4 :: a5 :: a6 :: a7 :: some (.int x') :: L) st σ (k x')) : KO X Y cw kc ks Q pc (a0 :: a1 :: a2 :: a3 :: a4 :: a5 :: a6 :: a7 :: a8 :: L) (.int x :: st) σ (k_bn x k) := k_istG 8 (.inr ⟨hd, rfl⟩) hi (kk x)
theorem k_iinc8 {a0 a1 a2 a3 a4 a5 a6 a7 a : Option Value} {n : Int} {x w : Int32} {k : Int32 → Option (Rt × S)} (hd : decode Y.2.1 pc = .ok (.iinc 8 n, 3)) (ha : a = some (.int x)) (hw : Int32.ofInt n = w) (hi : 8 < Y.2.2.1) (kk : ∀ x' : Int32, KO X Y cw kc ks Q (pc + 3) (a0 :: a1 :: a2 :: a3 :: a4 :: a5 :: a6 :: a7 :: some (.int x') :: L) st σ (k x')) : KO X Y cw kc ks Q pc (a0 :: a1 :: a2 :: a3 :: a4 :: a5 :: a6 :: a7 :: a :: L) st σ (k_bn (x + w) k) := by
  subst ha hw
  exact k_iincG 8 hd rfl rfl hi (kk _)
theorem k_fg8 {a0 a1 a2 a3 a4 a5 a6 a7 a8 : Option Value} (kk : KO X Y cw kc ks Q pc (a0 :: a1 :: a2 :: a3 :: a4 :: a5 :: a6 :: a7 :: none :: L) st σ o) : KO X Y cw kc ks Q pc (a0 :: a1 :: a2 :: a3 :: a4 :: a5 :: a6 :: a7 :: a8 :: L) st σ o := KO.fg 8 kk
theorem k_ist9 {a0 a1 a2 a3 a4 a5 a6 a7 a8 a9 : Option Value} {x : Int32} {k : Int32 → Option (Rt × S)} (hd : decode Y.2.1 pc = .ok (.istore 9, 2)) (hi : 9 < Y.2.2.1) (kk : ∀ x' : Int32, KO X Y cw kc ks Q (pc + 2) (a0 :: a1 :: a2 :: a3 :: a4 :: a5 :: a6 :: a7 :: a8 :: some (.int x') :: L) st σ (k x')) : KO X Y cw kc ks Q pc (a0 :: a1 :: a2 :: a3 :: a4 :: a5 :: a6 :: a7 :: a8 :: a9 :: L) (.int x :: st) σ (k_bn x k) := k_istG 9 (.inr ⟨hd, rfl⟩) hi (kk x)
theorem k_iinc9 {a0 a1 a2 a3 a4 a5 a6 a7 a8 a : Option Value} {n : Int} {x w : Int32} {k : Int32 → Option (Rt × S)} (hd : decode Y.2.1 pc = .ok (.iinc 9 n, 3)) (ha : a = some (.int x)) (hw : Int32.ofInt n = w) (hi : 9 < Y.2.2.1) (kk : ∀ x' : Int32, KO X Y cw kc ks Q (pc + 3) (a0 :: a1 :: a2 :: a3 :: a4 :: a5 :: a6 :: a7 :: a8 :: some (.int x') :: L) st σ (k x')) : KO X Y cw kc ks Q pc (a0 :: a1 :: a2 :: a3 :: a4 :: a5 :: a6 :: a7 :: a8 :: a :: L) st σ (k_bn (x + w) k) := by
  subst ha hw
  exact k_iincG 9 hd rfl rfl hi (kk _)
theorem k_fg9 {a0 a1 a2 a3 a4 a5 a6 a7 a8 a9 : Option Value} (kk : KO X Y cw kc ks Q pc (a0 :: a1 :: a2 :: a3 :: a4 :: a5 :: a6 :: a7 :: a8 :: none :: L) st σ o) : KO X Y cw kc ks Q pc (a0 :: a1 :: a2 :: a3 :: a4 :: a5 :: a6 :: a7 :: a8 :: a9 :: L) st σ o := KO.fg 9 kk
theorem k_ist10 {a0 a1 a2 a3 a4 a5 a6 a7 a8 a9 a10 : Option Value} {x : Int32} {k : Int32 → Option (Rt × S)} (hd : decode Y.2.1 pc = .ok (.istore 10, 2)) (hi : 10 < Y.2.2.1) (kk : ∀ x' : Int32, KO X Y cw kc ks Q (pc + 2) (a0 :: a1 :: a2 :: a3 :: a4 :: a5 :: a6 :: a7 :: a8 :: a9 :: some (.int x') :: L) st σ (k x')) : KO X Y cw kc ks Q pc (a0 :: a1 :: a2 :: a3 :: a4 :: a5 :: a6 :: a7 :: a8 :: a9 :: a10 :: L) (.int x :: st) σ (k_bn x k) := k_istG 10 (.inr ⟨hd, rfl⟩) hi (kk x)
theorem k_iinc10 {a0 a1 a2 a3 a4 a5 a6 a7 a8 a9 a : Option Value} {n : Int} {x w : Int32} {k : Int32 → Option (Rt × S)} (hd : decode Y.2.1 pc = .ok (.iinc 10 n, 3)) (ha : a = some (.int x)) (hw : Int32.ofInt n = w) (hi : 10 < Y.2.2.1) (kk : ∀ x' : Int32, KO X Y cw kc ks Q (pc + 3) (a0 :: a1 :: a2 :: a3 :: a4 :: a5 :: a6 :: a7 :: a8 :: a9 :: some (.int x') :: L) st σ (k x')) : KO X Y cw kc ks Q pc (a0 :: a1 :: a2 :: a3 :: a4 :: a5 :: a6 :: a7 :: a8 :: a9 :: a :: L) st σ (k_bn (x + w) k) := by
  subst ha hw
  exact k_iincG 10 hd rfl rfl hi (kk _)
theorem k_fg10 {a0 a1 a2 a3 a4 a5 a6 a7 a8 a9 a10 : Option Value} (kk : KO X Y cw kc ks Q pc (a0 :: a1 :: a2 :: a3 :: a4 :: a5 :: a6 :: a7 :: a8 :: a9 :: none :: L) st σ o) : KO X Y cw kc ks Q pc (a0 :: a1 :: a2 :: a3 :: a4 :: a5 :: a6 :: a7 :: a8 :: a9 :: a10 :: L) st σ o := KO.fg 10 kk
theorem k_ist11 {a0 a1 a2 a3 a4 a5 a6 a7 a8 a9 a10 a11 : Option Value} {x : Int32} {k : Int32 → Option (Rt × S)} (hd : decode Y.2.1 pc = .ok (.istore 11, 2)) (hi : 11 < Y.2.2.1) (kk : ∀ x' : Int32, KO X Y cw kc ks Q (pc + 2) (a0 :: a1 :: a2 :: a3 :: a4 :: a5 :: a6 :: a7 :: a8 :: a9 :: a10 :: some (.int x') :: L) st σ (k x')) : KO X Y cw kc ks Q pc (a0 :: a1 :: a2 :: a3 :: a4 :: a5 :: a6 :: a7 :: a8 :: a9 :: a10 :: a11 :: L) (.int x :: st) σ (k_bn x k) := k_istG 11 (.inr ⟨hd, rfl⟩) hi (kk x)
theorem k_iinc11 {a0 a1 a2 a3 a4 a5 a6 a7 a8 a9 a10 a : Option Value} {n : Int} {x w : Int32} {k : Int32 → Option (Rt × S)} (hd : decode Y.2.1 pc = .ok (.iinc 11 n, 3)) (ha : a = some (.int x)) (hw : Int32.ofInt n = w) (hi : 11 < Y.2.2.1) (kk : ∀ x' : Int32, KO X Y cw kc ks Q (pc + 3) (a0 :: a1 :: a2 :: a3 :: a4 :: a5 :: a6 :: a7 :: a8 :: a9 :: a10 :: some (.int x') :: L) st σ (k x')) : KO X Y cw kc ks Q pc (a0 :: a1 :: a2 :: a3 :: a4 :: a5 :: a6 :: a7 :: a8 :: a9 :: a10 :: a :: L) st σ (k_bn (x + w) k) := by
  subst ha hw
  exact k_iincG 11 hd rfl rfl hi (kk _)
theorem k_fg11 {a0 a1 a2 a3 a4 a5 a6 a7 a8 a9 a10 a11 : Option Value} (kk : KO X Y cw kc ks Q pc (a0 :: a1 :: a2 :: a3 :: a4 :: a5 :: a6 :: a7 :: a8 :: a9 :: a10 :: none :: L) st σ o) : KO X Y cw kc ks Q pc (a0 :: a1 :: a2 :: a3 :: a4 :: a5 :: a6 :: a7 :: a8 :: a9 :: a10 :: a11 :: L) st σ o := KO.fg 11 kk
theorem k_ist12 {a0 a1 a2 a3 a4 a5 a6 a7 a8 a9 a10 a11 a12 : Option Value} {x : Int32} {k : Int32 → Option (Rt × S)} (hd : decode Y.2.1 pc = .ok (.istore 12, 2)) (hi : 12 < Y.2.2.1) (kk : ∀ x' : Int32, KO X Y cw kc ks Q (pc + 2) (a0 :: a1 :: a2 :: a3 :: a4 :: a5 :: a6 :: a7 :: a8 :: a9 :: a10 :: a11 :: some (.int x') :: L) st σ (k x')) : KO X Y cw kc ks Q pc (a0 :: a1 :: a2 :: a3 :: a4 :: a5 :: a6 :: a7 :: a8 :: a9 :: a10 :: a11 :: a12 :: L) (.int x :: st) σ (k_bn x k) := k_istG 12 (.inr ⟨hd, rfl⟩) hi (kk x)
theorem k_iinc12 {a0 a1 a2 a3 a4 a5 a6 a7 a8 a9 a10 a11 a : Option Value} {n : Int} {x w : Int32} {k : Int32 → Option (Rt × S)} (hd : decode Y.2.1 pc = .ok (.iinc 12 n, 3)) (ha : a = some (.int x)) (hw : Int32.ofInt n = w) (hi : 12 < Y.2.2.1) (kk : ∀ x' : Int32, KO X Y cw kc ks Q (pc + 3) (a0 :: a1 :: a2 :: a3 :: a4 :: a5 :: a6 :: a7 :: a8 :: a9 :: a10 :: a11 :: some (.int x') :: L) st σ (k x')) : KO X Y cw kc ks Q pc (a0 :: a1 :: a2 :: a3 :: a4 :: a5 :: a6 :: a7 :: a8 :: a9 :: a10 :: a11 :: a :: L) st σ (k_bn (x + w) k) := by
  subst ha hw
  exact k_iincG 12 hd rfl rfl hi (kk _)
theorem k_fg12 {a0 a1 a2 a3 a4 a5 a6 a7 a8 a9 a10 a11 a12 : Option Value} (kk : KO X Y cw kc ks Q pc (a0 :: a1 :: a2 :: a3 :: a4 :: a5 :: a6 :: a7 :: a8 :: a9 :: a10 :: a11 :: none :: L) st σ o) : KO X Y cw kc ks Q pc (a0 :: a1 :: a2 :: a3 :: a4 :: a5 :: a6 :: a7 :: a8 :: a9 :: a10 :: a11 :: a12 :: L) st σ o := KO.fg 12 kk
theorem k_ist13 {a0 a1 a2 a3 a4 a5 a6 a7 a8 a9 a10 a11 a12 a13 : Option Value} {x : Int32} {k : Int32 → Option (Rt × S)} (hd : decode Y.2.1 pc = .ok (.istore 13, 2)) (hi : 13 < Y.2.2.1) (kk : ∀ x' : Int32, KO X Y cw kc ks Q (pc + 2) (a0 :: a1 :: a2 :: a3 :: a4 :: a5 :: a6 :: a7 :: a8 :: a9 :: a10 :: a11 :: a12 :: some (.int x') :: L) st σ (k x')) : KO X Y cw kc ks Q pc (a0 :: a1 :: a2 :: a3 :: a4 :: a5 :: a6 :: a7 :: a8 :: a9 :: a10 :: a11 :: a12 :: a13 :: L) (.int x :: st) σ (k_bn x k) := k_istG 13 (.inr ⟨hd, rfl⟩) hi (kk x)
theorem k_iinc13 {a0 a1 a2 a3 a4 a5 a6 a7 a8 a9 a10 a11 a12 a : Option Value} {n : Int} {x w : Int32} {k : Int32 → Option (Rt × S)} (hd : decode Y.2.1 pc = .ok (.iinc 13 n, 3)) (ha : a = some (.int x)) (hw : Int32.ofInt n = w) (hi : 13 < Y.2.2.1) (kk : ∀ x' : Int32, KO X Y cw kc ks Q (pc + 3) (a0 :: a1 :: a2 :: a3 :: a4 :: a5 :: a6 :: a7 :: a8 :: a9 :: a10 :: a11 :: a12 :: some (.int x') :: L) st σ (k x')) : KO X Y cw kc ks Q pc (a0 :: a1 :: a2 :: a3 :: a4 :: a5 :: a6 :: a7 :: a8 :: a9 :: a10 :: a11 :: a12 :: a :: L) st σ (k_bn (x + w) k) := by
  subst ha hw
  exact k_iincG 13 hd rfl rfl hi (kk _)
theorem k_fg13 {a0 a1 a2 a3 a4 a5 a6 a7 a8 a9 a10 a11 a12 a13 : Option Value} (kk : KO X Y cw kc ks Q pc (a0 :: a1 :: a2 :: a3 :: a4 :: a5 :: a6 :: a7 :: a8 :: a9 :: a10 :: a11 :: a12 :: none :: L) st σ o) : KO X Y cw kc ks Q pc (a0 :: a1 :: a2 :: a3 :: a4 :: a5 :: a6 :: a7 :: a8 :: a9 :: a10 :: a11 :: a12 :: a13 :: L) st σ o := KO.fg 13 kk
theorem k_ist14 {a0 a1 a2 a3 a4 a5 a6 a7 a8 a9 a10 a11 a12 a13 a14 : Option Value} {x : Int32} {k : Int32 → Option (Rt × S)} (hd : decode Y.2.1 pc = .ok (.istore 14, 2)) (hi : 14 < Y.2.2.1) (kk : ∀ x' : Int32, KO X Y cw kc ks Q (pc + 2) (a0 :: a1 :: a2 :: a3 :: a4 :: a5 :: a6 :: a7 :: a8 :: a9 :: a10 :: a11 :: a12 :: a13 :: some (.int x') :: L) st σ (k x')) : KO X Y cw kc ks Q pc (a0 :: a1 :: a2 :: a3 :: a4 :: a5 :: a6 :: a7 :: a8 :: a9 :: a10 :: a11 :: a12 :: a13 :: a14 :: L) (.int x :: st) σ (k_bn x k) := k_istG 14 (.inr ⟨hd, rfl⟩) hi (kk x)
theorem k_iinc14 {a0 a1 a2 a3 a4 a5 a6 a7 a8 a9 a10 a11 a12 a13 a : Option Value} {n : Int} {x w : Int32} {k : Int32 → Option (Rt × S)} (hd : decode Y.2.1 pc = .ok (.iinc 14 n, 3)) (ha : a = some (.int x)) (hw : Int32.ofInt n = w) (hi : 14 < Y.2.2.1) (kk : ∀ x' : Int32, KO X Y cw kc ks Q (pc + 3) (a0 :: a1 :: a2 :: a3 :: a4 :: a5 :: a6 :: a7 :: a8 :: a9 :: a10 :: a11 :: a12 :: a13 :: some (.int x') :: L) st σ (k x')) : KO X Y cw kc ks Q pc (a0 :: a1 :: a2 :: a3 :: a4 :: a5 :: a6 :: a7 :: a8 :: a9 :: a10 :: a11 :: a12 :: a13 :: a :: L) st σ (k_bn (x + w) k) := by
  subst ha hw
  exact k_iincG 14 hd rfl rfl hi (kk _)
theorem k_fg14 {a0 a1 a2 a3 a4 a5 a6 a7 a8 a9 a10 a11 a12 a13 a14 : Option Value} (kk : KO X Y cw kc ks Q pc (a0 :: a1 :: a2 :: a3 :: a4 :: a5 :: a6 :: a7 :: a8 :: a9 :: a10 :: a11 :: a12 :: a13 :: none :: L) st σ o) : KO X Y cw kc ks Q pc (a0 :: a1 :: a2 :: a3 :: a4 :: a5 :: a6 :: a7 :: a8 :: a9 :: a10 :: a11 :: a12 :: a13 :: a14 :: L) st σ o := KO.fg 14 kk
theorem k_ist15 {a0 a1 a2 a3 a4 a5 a6 a7 a8 a9 a10 a11 a12 a13 a14 a15 : Option Value} {x : Int32} {k : Int32 → Option (Rt × S)} (hd : decode Y.2.1 pc = .ok (.istore 15, 2)) (hi : 15 < Y.2.2.1) (kk : ∀ x' : Int32, KO X Y cw kc ks Q (pc + 2) (a0 :: a1 :: a2 :: a3 :: a4 :: a5 :: a6 :: a7 :: a8 :: a9 :: a10 :: a11 :: a12 :: a13 :: a14 :: some (.int x') :: L) st σ (k x')) : KO X Y cw kc ks Q pc (a0 :: a1 :: a2 :: a3 :: a4 :: a5 :: a6 :: a7 :: a8 :: a9 :: a10 :: a11 :: a12 :: a13 :: a14 :: a15 :: L) (.int x :: st) σ (k_bn x k) := k_istG 15 (.inr ⟨hd, rfl⟩) hi (kk x)
theorem k_iinc15 {a0 a1 a2 a3 a4 a5 a6 a7 a8 a9 a10 a11 a12 a13 a14 a : Option Value} {n : Int} {x w : Int32} {k : Int32 → Option (Rt × S)} (hd : decode Y.2.1 pc = .ok (.iinc 15 n, 3)) (ha : a = some (.int x)) (hw : Int32.ofInt n = w) (hi : 15 < Y.2.2.1) (kk : ∀ x' : Int32, KO X Y cw kc ks Q (pc + 3) (a0 :: a1 :: a2 :: a3 :: a4 :: a5 :: a6 :: a7 :: a8 :: a9 :: a10 :: a11 :: a12 :: a13 :: a14 :: some (.int x') :: L) st σ (k x')) : KO X Y cw kc ks Q pc (a0 :: a1 :: a2 :: a3 :: a4 :: a5 :: a6 :: a7 :: a8 :: a9 :: a10 :: a11 :: a12 :: a13 :: a14 :: a :: L) st σ (k_bn (x + w) k) := by
  subst ha hw
  exact k_iincG 15 hd rfl rfl hi (kk _)
theorem k_fg15 {a0 a1 a2 a3 a4 a5 a6 a7 a8 a9 a10 a11 a12 a13 a14 a15 : Option Value} (kk : KO X Y cw kc ks Q pc (a0 :: a1 :: a2 :: a3 :: a4 :: a5 :: a6 :: a7 :: a8 :: a9 :: a10 :: a11 :: a12 :: a13 :: a14 :: none :: L) st σ o) : KO X Y cw kc ks Q pc (a0 :: a1 :: a2 :: a3 :: a4 :: a5 :: a6 :: a7 :: a8 :: a9 :: a10 :: a11 :: a12 :: a13 :: a14 :: a15 :: L) st σ o := KO.fg 15 kk
theorem k_ist16 {a0 a1 a2 a3 a4 a5 a6 a7 a8 a9 a10 a11 a12 a13 a14 a15 a16 : Option Value} {x : Int32} {k : Int32 → Option (Rt × S)} (hd : decode Y.2.1 pc = .ok (.istore 16, 2)) (hi : 16 < Y.2.2.1) (kk : ∀ x' : Int32, KO X Y cw kc ks Q (pc + 2) (a0 :: a1 :: a2 :: a3 :: a4 :: a5 :: a6 :: a7 :: a8 :: a9 :: a10 :: a11 :: a12 :: a13 :: a14 :: a15 :: some (.int x') :: L) st σ (k x')) : KO X Y cw kc ks Q pc (a0 :: a1 :: a2 :: a3 :: a4 :: a5 :: a6 :: a7 :: a8 :: a9 :: a10 :: a11 :: a12 :: a13 :: a14 :: a15 :: a16 :: L) (.int x :: st) σ (k_bn x k) := k_istG 16 (.inr ⟨hd, rfl⟩) hi (kk x)
theorem k_iinc16 {a0 a1 a2 a3 a4 a5 a6 a7 a8 a9 a10 a11 a12 a13 a14 a15 a : Option Value} {n : Int} {x w : Int32} {k : Int32 → Option (Rt × S)} (hd : decode Y.2.1 pc = .ok (.iinc 16 n, 3)) (ha : a = some (.int x)) (hw : Int32.ofInt n = w) (hi : 16 < Y.2.2.1) (kk : ∀ x' : Int32, KO X Y cw kc ks Q (pc + 3) (a0 :: a1 :: a2 :: a3 :: a4 :: a5 :: a6 :: a7 :: a8 :: a9 :: a10 :: a11 :: a12 :: a13 :: a14 :: a15 :: some (.int x') :: L) st σ (k x')) : KO X Y cw kc ks Q pc (a0 :: a1 :: a2 :: a3 :: a4 :: a5 :: a6 :: a7 :: a8 :: a9 :: a10 :: a11 :: a12 :: a13 :: a14 :: a15 :: a :: L) st σ (k_bn (x + w) k) := by
  subst ha hw
  exact k_iincG 16 hd rfl rfl hi (kk _)
theorem k_fg16 {a0 a1 a2 a3 a4 a5 a6 a7 a8 a9 a10 a11 a12 a13 a14 a15 a16 : Option Value} (kk : KO X Y cw kc ks Q pc (a0 :: a1 :: a2 :: a3 :: a4 :: a5 :: a6 :: a7 :: a8 :: a9 :: a10 :: a11 :: a12 :: a13 :: a14 :: a15 :: none :: L) st σ o) : KO X Y cw kc ks Q pc (a0 :: a1 :: a2 :: a3 :: a4 :: a5 :: a6 :: a7 :: a8 :: a9 :: a10 :: a11 :: a12 :: a13 :: a14 :: a15 :: a16 :: L) st σ o := KO.fg 16 kk
theorem k_ist17 {a0 a1 a2 a3 a4 a5 a6 a7 a8 a9 a10 a11 a12 a13 a14 a15 a16 a17 : Option Value} {x : Int32} {k : Int32 → Option (Rt × S)} (hd : decode Y.2.1 pc = .ok (.istore 17, 2)) (hi : 17 < Y.2.2.1) (kk : ∀ x' : Int32, KO X Y cw kc ks Q (pc + 2) (a0 :: a1 :: a2 :: a3 :: a4 :: a5 :: a6 :: a7 :: a8 :: a9 :: a10 :: a11 :: a12 :: a13 :: a14 :: a15 :: a16 :: some (.int x') :: L) st σ (k x')) : KO X Y cw kc ks Q pc (a0 :: a1 :: a2 :: a3 :: a4 :: a5 :: a6 :: a7 :: a8 :: a9 :: a10 :: a11 :: a12 :: a13 :: a14 :: a15 :: a16 :: a17 :: L) (.int x :: st) σ (k_bn x k) := k_istG 17 (.inr ⟨hd, rfl⟩) hi (kk x)
theorem k_iinc17 {a0 a1 a2 a3 a4 a5 a6 a7 a8 a9 a10 a11 a12 a13 a14 a15 a16 a : Option Value} {n : Int} {x w : Int32} {k : Int32 → Option (Rt × S)} (hd : decode Y.2.1 pc = .ok (.iinc 17 n, 3)) (ha : a = some (.int x)) (hw : Int32.ofInt n = w) (hi : 17 < Y.2.2.1) (kk : ∀ x' : Int32, KO X Y cw kc ks Q (pc + 3) (a0 :: a1 :: a2 :: a3 :: a4 :: a5 :: a6 :: a7 :: a8 :: a9 :: a10 :: a11 :: a12 :: a13 :: a14 :: a15 :: a16 :: some (.int x') :: L) st σ (k x')) : KO X Y cw kc ks Q pc (a0 :: a1 :: a2 :: a3 :: a4 :: a5 :: a6 :: a7 :: a8 :: a9 :: a10 :: a11 :: a12 :: a13 :: a14 :: a15 :: a16 :: a :: L) st σ (k_bn (x + w) k) := by
  subst ha hw
  exact k_iincG 17 hd rfl rfl hi (kk _)
theorem k_fg17 {a0 a1 a2 a3 a4 a5 a6 a7 a8 a9 a10 a11 a12 a13 a14 a15 a16 a17 : Option Value} (kk : KO X Y cw kc ks Q pc (a0 :: a1 :: a2 :: a3 :: a4 :: a5 :: a6 :: a7 :: a8 :: a9 :: a10 :: a11 :: a12 :: a13 :: a14 :: a15 :: a16 :: none :: L) st σ o) : KO X Y cw kc ks Q pc (a0 :: a1 :: a2 :: a3 :: a4 :: a5 :: a6 :: a7 :: a8 :: a9 :: a10 :: a11 :: a12 :: a13 :: a14 :: a15 :: a16 :: a17 :: L) st σ o := KO.fg 17 kk
theorem k_ist18 {a0 a1 a2 a3 a4 a5 a6 a7 a8 a9 a10 a11 a12 a13 a14 a15 a16 a17 a18 : Option Value} {x : Int32} {k : Int32 → Option (Rt × S)} (hd : decode Y.2.1 pc = .ok (.istore 18, 2)) (hi : 18 < Y.2.2.1) (kk : ∀ x' : Int32, KO X Y cw kc ks Q (pc + 2) (a0 :: a1 :: a2 :: a3 :: a4 :: a5 :: a6 :: a7 :: a8 :: a9 :: a10 :: a11 :: a12 :: a13 :: a14 :: a15 :: a16 :: a17 :: some (.int x') :: L) st σ (k x')) : KO X Y cw kc ks Q pc (a0 :: a1 :: a2 :: a3 :: a4 :: a5 :: a6 :: a7 :: a8 :: a9 :: a10 :: a11 :: a12 :: a13 :: a14 :: a15 :: a16 :: a17 :: a18 :: L) (.int x :: st) σ (k_bn x k) := k_istG 18 (.inr ⟨hd, rfl⟩) hi (kk x)
theorem k_iinc18 {a0 a1 a2 a3 a4 a5 a6 a7 a8 a9 a10 a11 a12 a13 a14 a15 a16 a17 a : Option Value} {n : Int} {x w : Int32} {k : Int32 → Option (Rt × S)} (hd : decode Y.2.1 pc = .ok (.iinc 18 n, 3)) (ha : a = some (.int x)) (hw : Int32.ofInt n = w) (hi : 18 < Y.2.2.1) (kk : ∀ x' : Int32, KO X Y cw kc ks Q (pc + 3) (a0 :: a1 :: a2 :: a3 :: a4 :: a5 :: a6 :: a7 :: a8 :: a9 :: a10 :: a11 :: a12 :: a13 :: a14 :: a15 :: a16 :: a17 :: some (.int x') :: L) st σ (k x')) : KO X Y cw kc ks Q pc (a0 :: a1 :: a2 :: a3 :: a4 :: a5 :: a6 :: a7 :: a8 :: a9 :: a10 :: a11 :: a12 :: a13 :: a14 :: a15 :: a16 :: a17 :: a :: L) st σ (k_bn (x + w) k) := by
  subst ha hw
  exact k_iincG 18 hd rfl rfl hi (kk _)
theorem k_fg18 {a0 a1 a2 a3 a4 a5 a6 a7 a8 a9 a10 a11 a12 a13 a14 a15 a16 a17 a18 : Option Value} (kk : KO X Y cw kc ks Q pc (a0 :: a1 :: a2 :: a3 :: a4 :: a5 :: a6 :: a7 :: a8 :: a9 :: a10 :: a11 :: a12 :: a13 :: a14 :: a15 :: a16 :: a17 :: none :: L) st σ o) : KO X Y cw kc ks Q pc (a0 :: a1 :: a2 :: a3 :: a4 :: a5 :: a6 :: a7 :: a8 :: a9 :: a10 :: a11 :: a12 :: a13 :: a14 :: a15 :: a16 :: a17 :: a18 :: L) st σ o := KO.fg 18 kk
theorem k_ist19 {a0 a1 a2 a3 a4 a5 a6 a7 a8 a9 a10 a11 a12 a13 a14 a15 a16 a17 a18 a19 : Option Value} {x : Int32} {k : Int32 → Option (Rt × S)} (hd : decode Y.2.1 pc = .ok (.istore 19, 2)) (hi : 19 < Y.2.2.1) (kk : ∀ x' : Int32, KO X Y cw kc ks Q (pc + 2) (a0 :: a1 :: a2 :: a3 :: a4 :: a5 :: a6 :: a7 :: a8 :: a9 :: a10 :: a11 :: a12 :: a13 :: a14 :: a15 :: a16 :: a17 :: a18 :: some (.int x') :: L) st σ (k x')) : KO X Y cw kc ks Q pc (a0 :: a1 :: a2 :: a3 :: a4 :: a5 :: a6 :: a7 :: a8 :: a9 :: a10 :: a11 :: a12 :: a13 :: a14 :: a15 :: a16 :: a17 :: a18 :: a19 :: L) (.int x :: st) σ (k_bn x k) := k_istG 19 (.inr ⟨hd, rfl⟩) hi (kk x)
theorem k_iinc19 {a0 a1 a2 a3 a4 a5 a6 a7 a8 a9 a10 a11 a12 a13 a14 a15 a16 a17 a18 a : Option Value} {n : Int} {x w : Int32} {k : Int32 → Option (Rt × S)} (hd : decode Y.2.1 pc = .ok (.iinc 19 n, 3)) (ha : a = some (.int x)) (hw : Int32.ofInt n = w) (hi : 19 < Y.2.2.1) (kk : ∀ x' : Int32, KO X Y cw kc ks Q (pc + 3) (a0 :: a1 :: a2 :: a3 :: a4 :: a5 :: a6 :: a7 :: a8 :: a9 :: a10 :: a11 :: a12 :: a13 :: a14 :: a15 :: a16 :: a17 :: a18 :: some (.int x') :: L) st σ (k x')) : KO X Y cw kc ks Q pc (a0 :: a1 :: a2 :: a3 :: a4 :: a5 :: a6 :: a7 :: a8 :: a9 :: a10 :: a11 :: a12 :: a13 :: a14 :: a15 :: a16 :: a17 :: a18 :: a :: L) st σ (k_bn (x + w) k) := by
  subst ha hw
  exact k_iincG 19 hd rfl rfl hi (kk _)
theorem k_fg19 {a0 a1 a2 a3 a4 a5 a6 a7 a8 a9 a10 a11 a12 a13 a14 a15 a16 a17 a18 a19 : Option Value} (kk : KO X Y cw kc ks Q pc (a0 :: a1 :: a2 :: a3 :: a4 :: a5 :: a6 :: a7 :: a8 :: a9 :: a10 :: a11 :: a12 :: a13 :: a14 :: a15 :: a16 :: a17 :: a18 :: none :: L) st σ o) : KO X Y cw kc ks Q pc (a0 :: a1 :: a2 :: a3 :: a4 :: a5 :: a6 :: a7 :: a8 :: a9 :: a10 :: a11 :: a12 :: a13 :: a14 :: a15 :: a16 :: a17 :: a18 :: a19 :: L) st σ o := KO.fg 19 kk
-- fields: the object's cell stands at place k of the world, in class ci of 'vwCl'
theorem k_get {own ref C : String} {T : u_T} {N index ci : Nat} {a : Nat} {fs : List Value} (k : Nat) (hcell : (cw σ)[k]? = some (a, .inr (ci, fs))) (hcl : vwCl[ci]? = some (C, T, N)) (hin : ∀ w ∈ u_ws C T N, w ∈ k_ws) (j : Nat) (hj : j < N) {v : Value} (hv : fs[j]? = some v) (hown : own = Y.2.2.2.1) (hw : Cond.fieldLink own index ref (T j).2.1 (T j).2.2.1 ∈ k_ws) (href : (T j).1 = ref) (hd : decode Y.2.1 pc = .ok (.getfield index, 3)) (kk : KO X Y cw kc ks Q (pc + 3) L (v :: st) σ o) : KO X Y cw kc ks Q pc L (.ref a :: st) σ o := by
  subst hown
  exact kk.lift fun g _ _ _ _ hP _ _ kq => va_get (D := k_D X) g.1 g.2.1 g.2.2.2.2.1 hin g.2.2.2.1 g.2.2.2.2.2.1 hP k hcell hcl j hj (g.2.2.2.2.1 _ hw) (fun _ h9 => by rw [← href]; exact h9) hv hd kq
theorem k_put {own ref C : String} {T : u_T} {N index ci : Nat} {a : Nat} {fs : List Value} (k : Nat) (hcell : (cw σ)[k]? = some (a, .inr (ci, fs))) (hcl : vwCl[ci]? = some (C, T, N)) (hin : ∀ w ∈ u_ws C T N, w ∈ k_ws) {ty : Nat → FieldType} (hty : ∀ k, k < N → parseFieldDescriptor (T k).2.2.1 = some (ty k)) (hnm : ∀ a, a < N → ∀ b, b < N → a ≠ b → (T a).2.1 ≠ (T b).2.1) (j : Nat) (hj : j < N) (hfin : (T j).2.2.2 = false) (hti : ty j = .int) (hlen : fs.length = N) {x : Int32} {σ1 : S} (hset : (cw σ).set k (a, .inr (ci, fs.set j (.int x))) = cw σ1) (hown : own = Y.2.2.2.1) (hw : Cond.fieldLink own index ref (T j).2.1 (T j).2.2.1 ∈ k_ws) (href : (T j).1 = ref) (hd : decode Y.2.1 pc = .ok (.putfield index, 3)) {kf : S → Option (Rt × S)} (kk : ∀ σ' : S, KO X Y cw kc ks Q (pc + 3) L st σ' (kf σ')) : KO X Y cw kc ks Q pc L (.int x :: .ref a :: st) σ (k_bn σ1 kf) := by
  subst hown
  intro g r σ' ho H locs ls hP hS hL
  have hpd : parseFieldDescriptor (T j).2.2.1 = some .int := by rw [hty j hj, hti]
  exact va_put (D := k_D X) g.1 g.2.1 g.2.2.2.2.1 hin ty hty hnm g.2.2.2.1 g.2.2.2.2.2.1 hP (g.2.2.2.2.2.2.2.1 σ) hS k hcell hcl j hj (g.2.2.2.2.1 _ hw) (fun _ h9 => by rw [← href]; exact h9) hfin hpd rfl rfl (by rw [hlen]; exact hj) hd (fun H1 locs1 hP1 _ hS1 => kk σ1 g r σ' ho H1 locs1 ls (by rw [← hset]; exact hP1) hS1 hL)
-- arrays of ints: the array's cell stands at place k of the world
theorem k_iald {a n : Nat} {f : Nat → Int32} (k : Nat) (hcell : (cw σ)[k]? = some (a, .inl (k_I X, n, .inl f))) {i : Int32} (hd : decode Y.2.1 pc = .ok (.iaload, 1)) (kk : KO X Y cw kc ks Q (pc + 1) L (.int (f i.toNatClampNeg) :: st) σ o) : KO X Y cw kc ks Q pc L (.int i :: .ref a :: st) σ (k_gd i n o) := by
  intro g r σ' ho H locs ls hP hS hL
  by_cases hi : i < 0 ∨ n ≤ i.toNatClampNeg
  · rw [k_gd, if_pos hi] at ho; cases ho
  · rw [k_gd, if_neg hi] at ho
    exact va_iald (D := k_D X) g.1 g.2.1 g.2.2.2.2.2.1 hP k 0 hcell rfl hi hd (kk g r σ' ho H locs ls hP hS hL)
theorem k_iast {a n : Nat} {f : Nat → Int32} (k : Nat) (hcell : (cw σ)[k]? = some (a, .inl (k_I X, n, .inl f))) {i x : Int32} {σ1 : S} (hset : (cw σ).set k (a, .inl (k_I X, n, .inl (upd f i.toNatClampNeg x))) = cw σ1) (hd : decode Y.2.1 pc = .ok (.iastore, 1)) {kf : S → Option (Rt × S)} (kk : ∀ σ' : S, KO X Y cw kc ks Q (pc + 1) L st σ' (kf σ')) : KO X Y cw kc ks Q pc L (.int x :: .int i :: .ref a :: st) σ (k_gd i n (k_bn σ1 kf)) := by
  intro g r σ' ho H locs ls hP hS hL
  by_cases hi : i < 0 ∨ n ≤ i.toNatClampNeg
  · rw [k_gd, if_pos hi] at ho; cases ho
  · rw [k_gd, if_neg hi] at ho
    exact va_iast (D := k_D X) g.1 g.2.1 g.2.2.2.2.2.1 hP (g.2.2.2.2.2.2.2.1 σ) hS k 0 hcell rfl hi hd (fun H1 locs1 hP1 _ hS1 => kk σ1 g r σ' ho H1 locs1 ls (by rw [← hset]; exact hP1) hS1 hL)
theorem k_alen {a n : Nat} {f : Nat → Int32} (k : Nat) (hcell : (cw σ)[k]? = some (a, .inl (k_I X, n, .inl f))) {v : Int32} (hv : Int32.ofNat n = v) (hd : decode Y.2.1 pc = .ok (.arraylength, 1)) (kk : KO X Y cw kc ks Q (pc + 1) L (.int v :: st) σ o) : KO X Y cw kc ks Q pc L (.ref a :: st) σ o :=
  kk.lift fun g _ _ _ _ hP _ _ kq => va_alen (D := k_D X) g.1 g.2.1 g.2.2.2.2.2.1 hP k 0 hcell rfl hv hd kq
theorem k_copy {a0 a1 n0 n1 index : Nat} {f0 f1 : Nat → Int32} (k0 k1 : Nat) (h0 : (cw σ)[k0]? = some (a0, .inl (k_I X, n0, .inl f0))) (h1 : (cw σ)[k1]? = some (a1, .inl (k_I X, n1, .inl f1))) {sp dp n : Int32} {σ1 : S} (hset : (cw σ).set k1 (a1, .inl (k_I X, n1, .inl (va_cpy f0 f1 sp.toNatClampNeg dp.toNatClampNeg n.toNatClampNeg))) = cw σ1) (hw : Cond.methodLink Y.2.2.2.1 index arraycopyName ∈ k_ws) (hR : 1 ≤ Y.1.frames ∧ (st.map fun v => v.category).sum + (nativeFrameWords "java/lang/System" "arraycopy" 5 + 11) ≤ Y.1.locals) (hd : decode Y.2.1 pc = .ok (.invokestatic index, 3)) {kf : S → Option (Rt × S)} (kk : ∀ σ' : S, KO X Y cw kc ks Q (pc + 3) L st σ' (kf σ')) : KO X Y cw kc ks Q pc L (.int n :: .int dp :: .ref a1 :: .int sp :: .ref a0 :: st) σ (k_gc sp dp n n0 n1 (k_bn σ1 kf)) := by
  intro g r σ' ho H locs ls hP hS hL
  by_cases hi : sp < 0 ∨ dp < 0 ∨ n < 0 ∨ n0 < sp.toNatClampNeg + n.toNatClampNeg ∨ n1 < dp.toNatClampNeg + n.toNatClampNeg
  · rw [k_gc, if_pos hi] at ho; cases ho
  · rw [k_gc, if_neg hi] at ho
    have hr : k_R X = Y.1 := g.2.2.2.2.2.2.2.2.1
    exact va_copyi (D := k_D X) g.1 g.2.1 (by rw [g.2.2.1, hL.1]) g.2.2.2.1 (g.2.2.2.2.1 _ hw) (g.2.2.2.2.1 _ kwt_arraycopy) (g.2.2.2.2.1 _ kws_arraycopy) (g.2.2.2.2.1 _ kwn_J10) g.2.2.2.2.2.1 hP (g.2.2.2.2.2.2.2.1 σ) hS k0 k1 0 0 h0 h1 rfl rfl rfl (fun h => hi (.inl h)) (fun h => hi (.inr (.inl h))) (fun h => hi (.inr (.inr (.inl h)))) (Nat.le_of_not_lt fun h => hi (.inr (.inr (.inr (.inl h))))) (Nat.le_of_not_lt fun h => hi (.inr (.inr (.inr (.inr h))))) (fun _ _ => rfl) (by rw [hr]; exact hR.1) (by rw [hr]; exact hR.2) hd (fun H1 locs1 hP1 _ hS1 => kk σ1 g r σ' ho H1 locs1 ls (by rw [← hset]; exact hP1) hS1 hL)
theorem k_max {index : Nat} {x y : Int32} (hw : Cond.methodLink Y.2.2.2.1 index Lib.Math.max.name ∈ k_ws) (hR : 1 ≤ Y.1.frames ∧ (st.map fun v => v.category).sum + 13 ≤ Y.1.locals) (hk : kc ≤ Y.1.cells ∧ ks ≤ Y.1.slots) (hd : decode Y.2.1 pc = .ok (.invokestatic index, 3)) (kk : KO X Y cw kc ks Q (pc + 3) L (.int (k_mx x y) :: st) σ o) : KO X Y cw kc ks Q pc L (.int y :: .int x :: st) σ o :=
  kk.lift fun g _ _ _ _ _ _ hL kq => by
    have hr : k_R X = Y.1 := g.2.2.2.2.2.2.2.2.1
    exact va_mmax g.1 g.2.1 (by rw [g.2.2.1, hL.1]) g.2.2.2.1 (g.2.2.2.2.1 _ hw) (g.2.2.2.2.1 _ kws_max) (g.2.2.2.2.1 _ kwn_J9) (g.2.2.2.2.1 _ kwk_max) (by rw [hr]; exact hR.1) (by rw [hr]; exact hR.2) (by rw [hr]; exact hk.1) (by rw [hr]; exact hk.2) hd kq
-- ends
theorem k_ireturn {x : Int32} {σ : S} (hr : Y.2.2.2.2 = some .int) (hd : decode Y.2.1 pc = .ok (.ireturn, 1)) : KO X Y cw 0 0 (k_Q k_ei X cw) pc L [.int x] σ (some (x, σ)) := by
  intro g r σ' ho H locs ls hP hS hL
  cases ho
  exact W.iret g.1 g.2.1 (by rw [g.2.2.2.2.2.2.2.2.2.2, hr]) (fun t ht _ => ⟨⟨rfl, by rw [ht]; exact hP⟩, hS.F ht⟩) hS.2.2 hd g.2.2.2.2.2.2.2.2.2.1
theorem k_zreturn {x : Int32} {σ : S} (hr : Y.2.2.2.2 = some .boolean) (hd : decode Y.2.1 pc = .ok (.ireturn, 1)) : KO X Y cw 0 0 (k_Q k_ei X cw) pc L [.int x] σ (k_z x (some (x, σ))) := by
  intro g r σ' ho H locs ls hP hS hL
  have hz : (x = 0 ∨ x = 1) ∧ r = x ∧ σ' = σ := by
    unfold k_z at ho
    split at ho
    · next h => cases ho; exact ⟨.inl h, rfl, rfl⟩
    · split at ho
      · next h => cases ho; exact ⟨.inr h, rfl, rfl⟩
      · cases ho
  obtain ⟨hx, rfl, rfl⟩ := hz
  exact W.zret g.1 g.2.1 (by rw [g.2.2.2.2.2.2.2.2.2.2, hr]) (by rcases hx with rfl | rfl <;> rfl) (fun t ht _ => ⟨⟨rfl, by rw [ht]; exact hP⟩, hS.F ht⟩) hS.2.2 hd g.2.2.2.2.2.2.2.2.2.1
theorem k_lreturn {x : Int64} {σ : S} (hr : Y.2.2.2.2 = some .long) (hd : decode Y.2.1 pc = .ok (.lreturn, 1)) : KO X Y cw 0 0 (k_Q k_el X cw) pc L [.long x] σ (some (x, σ)) := by
  intro g r σ' ho H locs ls hP hS hL
  cases ho
  exact W.lret g.1 g.2.1 (by rw [g.2.2.2.2.2.2.2.2.2.2, hr]) (fun t ht _ => ⟨⟨rfl, by rw [ht]; exact hP⟩, hS.F ht⟩) hS.2.2 hd g.2.2.2.2.2.2.2.2.2.1
theorem k_return {σ : S} (hr : Y.2.2.2.2 = none) (hd : decode Y.2.1 pc = .ok (.return_, 1)) : KO X Y cw 0 0 (k_Q k_ev X cw) pc L [] σ (some ((), σ)) := by
  intro g r σ' ho H locs ls hP hS hL
  cases ho
  exact W.vret g.1 g.2.1 (by rw [g.2.2.2.2.2.2.2.2.2.2, hr]) (fun t ht _ => ⟨⟨rfl, by rw [ht]; exact hP⟩, hS.F ht⟩) hS.2.2 hd g.2.2.2.2.2.2.2.2.2.1
end KR2
