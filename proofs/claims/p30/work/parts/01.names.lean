-- ===== PART A: goes FIRST, ahead of the names: the tables' words, and 'selects' of the private methods out of them =====
/-- a private method of a class that the tables say can be made, by its rows of tables_1 -/
def lw_okq (q : MethodName × Nat) : Prop := (q.1.cls ≠ "java/lang/invoke/MethodHandle" ∧ q.1.cls ≠ "java/lang/invoke/VarHandle") ∧ Cond.instantiable q.1.cls q.2 ∈ tables_1 ∧ Cond.privateMethod q.1 ∈ tables_1 ∧ Cond.instanceMethod q.1 ∈ tables_1
theorem lw_p0 : lw_okq (⟨"TallTales", "faulty", "(I)I"⟩, 9) := ⟨⟨by decide +kernel, by decide +kernel⟩, List.mem_of_getElem? (i := 12) (by decide +kernel), List.mem_of_getElem? (i := 234) (by decide +kernel), List.mem_of_getElem? (i := 235) (by decide +kernel)⟩
theorem lw_p1 : lw_okq (⟨"TallTales", "bestReply", "(IIZ)I"⟩, 9) := ⟨⟨by decide +kernel, by decide +kernel⟩, List.mem_of_getElem? (i := 12) (by decide +kernel), List.mem_of_getElem? (i := 384) (by decide +kernel), List.mem_of_getElem? (i := 385) (by decide +kernel)⟩
theorem lw_p2 : lw_okq (⟨"TallTales", "isBetterReply", "(III)Z"⟩, 9) := ⟨⟨by decide +kernel, by decide +kernel⟩, List.mem_of_getElem? (i := 12) (by decide +kernel), List.mem_of_getElem? (i := 393) (by decide +kernel), List.mem_of_getElem? (i := 394) (by decide +kernel)⟩
def lw_privs_1 : List (MethodName × Nat) := [(⟨"TallTales", "faulty", "(I)I"⟩, 9), (⟨"TallTales", "bestReply", "(IIZ)I"⟩, 9), (⟨"TallTales", "isBetterReply", "(III)Z"⟩, 9)]
theorem lw_r1 : ∀ q ∈ lw_privs_1, lw_okq q := List.forall_mem_cons.mpr ⟨lw_p0, List.forall_mem_cons.mpr ⟨lw_p1, List.forall_mem_cons.mpr ⟨lw_p2, fun _ h => absurd h List.not_mem_nil⟩⟩⟩
def lw_privs : List (MethodName × Nat) := lw_privs_1
def lw_tbl : List Cond := k2_sels lw_privs ++ tables_1
theorem lw_privs_ok : ∀ q ∈ lw_privs, lw_okq q := lw_r1

theorem goodIn_r {big : List Cond} (ws : List Cond) (ps : List Nat) (hp : ws = ps.filterMap (fun i => big[i]?)) (h : ws.all goodWord = true) : GoodIn big ws := by
  intro w hw
  have h1 := List.all_eq_true.mp h w hw
  rw [hp] at hw
  obtain ⟨i, -, hi⟩ := List.mem_filterMap.mp hw
  have hm : w ∈ big := by first | exact List.mem_of_getElem? hi | exact List.getElem?_mem hi
  exact ⟨hm, good_of_word h1⟩
theorem goodIn_app {big a b : List Cond} (ha : GoodIn big a) (hb : GoodIn big b) : GoodIn big (a ++ b) := fun w h => (List.mem_append.mp h).elim (ha w) (hb w)
theorem goodIn_ca {big a b : List Cond} {c : Cond} (ha : GoodIn big (c :: a)) (hb : GoodIn big b) : GoodIn big (c :: (a ++ b)) := fun w h => (List.mem_cons.mp h).elim (fun e => ha w (List.mem_cons.mpr (Or.inl e))) (fun h => (List.mem_append.mp h).elim (fun h => ha w (List.mem_cons.mpr (Or.inr h))) (hb w))
theorem goodIn_sub {big ws : List Cond} (hm : ∀ w ∈ ws, w ∈ big) (h : ws.all goodWord = true) : GoodIn big ws := fun w hw => ⟨hm w hw, good_of_word (List.all_eq_true.mp h w hw)⟩
def RX0 : String := "TallTales$House"
def TX0 : u_T := fun k => match k with
  | 0 => ("TallTales$House", "guests", "I", false)
  | 1 => ("TallTales$House", "tales", "I", false)
  | 2 => ("TallTales$House", "memory", "I", false)
  | 3 => ("TallTales$House", "nights", "I", false)
  | 4 => ("TallTales$House", "kinds", "[I", true)
  | 5 => ("TallTales$House", "owners", "[I", true)
  | 6 => ("TallTales$House", "heights", "[I", true)
  | 7 => ("TallTales$House", "told", "[I", true)
  | 8 => ("TallTales$House", "last", "[I", true)
  | 9 => ("TallTales$House", "chosen", "[I", true)
  | 10 => ("TallTales$House", "nightTale", "[I", true)
  | 11 => ("TallTales$House", "nightPlace", "[I", true)
  | _ => ("TallTales$House", "nightTall", "[I", true)
def tyX0 : Nat → FieldType := fun k => match k with
  | 0 => .int
  | 1 => .int
  | 2 => .int
  | 3 => .int
  | 4 => .array .int
  | 5 => .array .int
  | 6 => .array .int
  | 7 => .array .int
  | 8 => .array .int
  | 9 => .array .int
  | 10 => .array .int
  | 11 => .array .int
  | _ => .array .int
abbrev wsX00 : List Cond := u_ws RX0 TX0 13
theorem nmX0 : ∀ a, a < 13 → ∀ b, b < 13 → a ≠ b → (TX0 a).2.1 ≠ (TX0 b).2.1 := by decide +kernel
theorem tyX0_ok : ∀ k, k < 13 → parseFieldDescriptor (TX0 k).2.2.1 = some (tyX0 k) := by decide +kernel
abbrev cX0_init : ByteArray := prog_2_method_1_code
def yX0_init : MethodName := ⟨RX0, "<init>", "()V"⟩
abbrev cX0_open : ByteArray := prog_2_method_2_code
def yX0_open : MethodName := ⟨RX0, "open", "(LTallTales$Text;)V"⟩
abbrev cX0_isOpen : ByteArray := prog_2_method_3_code
def yX0_isOpen : MethodName := ⟨RX0, "isOpen", "()Z"⟩
abbrev cX0_hasGuest : ByteArray := prog_2_method_4_code
def yX0_hasGuest : MethodName := ⟨RX0, "hasGuest", "(I)Z"⟩
abbrev cX0_hasTale : ByteArray := prog_2_method_5_code
def yX0_hasTale : MethodName := ⟨RX0, "hasTale", "(I)Z"⟩
abbrev cX0_hasNight : ByteArray := prog_2_method_6_code
def yX0_hasNight : MethodName := ⟨RX0, "hasNight", "(I)Z"⟩
abbrev cX0_mayBeTold : ByteArray := prog_2_method_7_code
def yX0_mayBeTold : MethodName := ⟨RX0, "mayBeTold", "(IIII)Z"⟩
abbrev cX0_isTellable : ByteArray := prog_2_method_8_code
def yX0_isTellable : MethodName := ⟨RX0, "isTellable", "(I)Z"⟩
abbrev cX0_tallWhenTold : ByteArray := prog_2_method_9_code
def yX0_tallWhenTold : MethodName := ⟨RX0, "tallWhenTold", "(II)I"⟩
abbrev cX0_tallOf : ByteArray := prog_2_method_10_code
def yX0_tallOf : MethodName := ⟨RX0, "tallOf", "(I)I"⟩
abbrev cX0_isOffered : ByteArray := prog_2_method_11_code
def yX0_isOffered : MethodName := ⟨RX0, "isOffered", "(IIZ)Z"⟩
abbrev cX0_tallsAsChosen : ByteArray := prog_2_method_12_code
def yX0_tallsAsChosen : MethodName := ⟨RX0, "tallsAsChosen", "(LTallTales$Talls;)V"⟩
abbrev cX0_goBy : ByteArray := prog_2_method_14_code
def yX0_goBy : MethodName := ⟨RX0, "goBy", "(LTallTales$Talls;)I"⟩
abbrev cX0_keepTold : ByteArray := prog_2_method_15_code
def yX0_keepTold : MethodName := ⟨RX0, "keepTold", "(II)V"⟩
abbrev cX0_goBack : ByteArray := prog_2_method_16_code
def yX0_goBack : MethodName := ⟨RX0, "goBack", "(I)V"⟩
abbrev cX0_nightsAt : ByteArray := prog_2_method_17_code
def yX0_nightsAt : MethodName := ⟨RX0, "nightsAt", "(II)I"⟩
def RX1 : String := "TallTales$Rests"
def TX1 : u_T := fun k => match k with
  | 0 => ("TallTales$Rests", "house", "LTallTales$House;", true)
  | 1 => ("TallTales$Rests", "talls", "LTallTales$Talls;", true)
  | 2 => ("TallTales$Rests", "picks", "[I", true)
  | 3 => ("TallTales$Rests", "first", "[I", true)
  | _ => ("TallTales$Rests", "count", "I", false)
def tyX1 : Nat → FieldType := fun k => match k with
  | 0 => .object "TallTales$House"
  | 1 => .object "TallTales$Talls"
  | 2 => .array .int
  | 3 => .array .int
  | _ => .int
abbrev wsX10 : List Cond := u_ws RX1 TX1 5
theorem nmX1 : ∀ a, a < 5 → ∀ b, b < 5 → a ≠ b → (TX1 a).2.1 ≠ (TX1 b).2.1 := by decide +kernel
theorem tyX1_ok : ∀ k, k < 5 → parseFieldDescriptor (TX1 k).2.2.1 = some (tyX1 k) := by decide +kernel
abbrev cX1_init : ByteArray := prog_3_method_1_code
def yX1_init : MethodName := ⟨RX1, "<init>", "(LTallTales$House;LTallTales$Talls;)V"⟩
def RX2 : String := "TallTales$Sheets"
def TX2 : u_T := fun k => match k with
  | 0 => ("TallTales$Sheets", "cells", "[I", true)
  | 1 => ("TallTales$Sheets", "sorts", "[I", true)
  | _ => ("TallTales$Sheets", "lengths", "[I", true)
def tyX2 : Nat → FieldType := fun k => match k with
  | 0 => .array .int
  | 1 => .array .int
  | _ => .array .int
abbrev wsX20 : List Cond := u_ws RX2 TX2 3
theorem nmX2 : ∀ a, a < 3 → ∀ b, b < 3 → a ≠ b → (TX2 a).2.1 ≠ (TX2 b).2.1 := by decide +kernel
theorem tyX2_ok : ∀ k, k < 3 → parseFieldDescriptor (TX2 k).2.2.1 = some (tyX2 k) := by decide +kernel
abbrev cX2_init : ByteArray := prog_4_method_1_code
def yX2_init : MethodName := ⟨RX2, "<init>", "()V"⟩
abbrev cX2_hasRow : ByteArray := prog_4_method_2_code
def yX2_hasRow : MethodName := ⟨RX2, "hasRow", "(I)Z"⟩
abbrev cX2_hasCells : ByteArray := prog_4_method_3_code
def yX2_hasCells : MethodName := ⟨RX2, "hasCells", "(III)Z"⟩
abbrev cX2_faultOf : ByteArray := prog_4_method_4_code
def yX2_faultOf : MethodName := ⟨RX2, "faultOf", "(IIII)I"⟩
abbrev cX2_makeRow : ByteArray := prog_4_method_5_code
def yX2_makeRow : MethodName := ⟨RX2, "makeRow", "(III)V"⟩
abbrev cX2_write : ByteArray := prog_4_method_8_code
def yX2_write : MethodName := ⟨RX2, "write", "(III)V"⟩
abbrev cX2_take : ByteArray := prog_4_method_9_code
def yX2_take : MethodName := ⟨RX2, "take", "(III[I)V"⟩
def RX3 : String := "TallTales$Talls"
def TX3 : u_T := fun k => match k with
  | 0 => ("TallTales$Talls", "of", "[I", true)
  | _ => ("TallTales$Talls", "guests", "I", false)
def tyX3 : Nat → FieldType := fun k => match k with
  | 0 => .array .int
  | _ => .int
abbrev wsX30 : List Cond := u_ws RX3 TX3 2
theorem nmX3 : ∀ a, a < 2 → ∀ b, b < 2 → a ≠ b → (TX3 a).2.1 ≠ (TX3 b).2.1 := by decide +kernel
theorem tyX3_ok : ∀ k, k < 2 → parseFieldDescriptor (TX3 k).2.2.1 = some (tyX3 k) := by decide +kernel
abbrev cX3_init : ByteArray := prog_5_method_1_code
def yX3_init : MethodName := ⟨RX3, "<init>", "()V"⟩
abbrev cX3_placeOf : ByteArray := prog_5_method_2_code
def yX3_placeOf : MethodName := ⟨RX3, "placeOf", "(II)I"⟩
abbrev cX3_needOf : ByteArray := prog_5_method_3_code
def yX3_needOf : MethodName := ⟨RX3, "needOf", "(I)I"⟩
abbrev cX3_noLessThan : ByteArray := prog_5_method_4_code
def yX3_noLessThan : MethodName := ⟨RX3, "noLessThan", "(I)I"⟩
def RX4 : String := "TallTales$Text"
def TX4 : u_T := fun k => match k with
  | 0 => ("TallTales$Text", "codes", "[I", true)
  | _ => ("TallTales$Text", "length", "I", false)
def tyX4 : Nat → FieldType := fun k => match k with
  | 0 => .array .int
  | _ => .int
abbrev wsX40 : List Cond := u_ws RX4 TX4 2
theorem nmX4 : ∀ a, a < 2 → ∀ b, b < 2 → a ≠ b → (TX4 a).2.1 ≠ (TX4 b).2.1 := by decide +kernel
theorem tyX4_ok : ∀ k, k < 2 → parseFieldDescriptor (TX4 k).2.2.1 = some (tyX4 k) := by decide +kernel
abbrev cX4_init : ByteArray := prog_6_method_1_code
def yX4_init : MethodName := ⟨RX4, "<init>", "()V"⟩
abbrev cX4_firstFault : ByteArray := prog_6_method_2_code
def yX4_firstFault : MethodName := ⟨RX4, "firstFault", "()I"⟩
abbrev cX4_goesOn : ByteArray := prog_6_method_3_code
def yX4_goesOn : MethodName := ⟨RX4, "goesOn", "(I)Z"⟩
abbrev cX4_isDigit : ByteArray := prog_6_method_4_code
def yX4_isDigit : MethodName := ⟨RX4, "isDigit", "(I)Z"⟩
abbrev cX4_guests : ByteArray := prog_6_method_5_code
def yX4_guests : MethodName := ⟨RX4, "guests", "()I"⟩
abbrev cX4_tales : ByteArray := prog_6_method_6_code
def yX4_tales : MethodName := ⟨RX4, "tales", "()I"⟩
abbrev cX4_kindOf : ByteArray := prog_6_method_7_code
def yX4_kindOf : MethodName := ⟨RX4, "kindOf", "(I)I"⟩
abbrev cX4_ownerOf : ByteArray := prog_6_method_8_code
def yX4_ownerOf : MethodName := ⟨RX4, "ownerOf", "(I)I"⟩
abbrev cX4_heightOf : ByteArray := prog_6_method_9_code
def yX4_heightOf : MethodName := ⟨RX4, "heightOf", "(I)I"⟩
def RX5 : String := "TallTales$Winter"
def TX5 : u_T := fun k => match k with
  | 0 => ("TallTales$Winter", "house", "LTallTales$House;", true)
  | 1 => ("TallTales$Winter", "numbers", "[I", true)
  | 2 => ("TallTales$Winter", "ahead", "[I", true)
  | 3 => ("TallTales$Winter", "told", "[I", true)
  | 4 => ("TallTales$Winter", "last", "[I", true)
  | 5 => ("TallTales$Winter", "row", "[I", true)
  | 6 => ("TallTales$Winter", "first", "[I", true)
  | 7 => ("TallTales$Winter", "guest", "I", false)
  | 8 => ("TallTales$Winter", "length", "I", false)
  | _ => ("TallTales$Winter", "most", "I", false)
def tyX5 : Nat → FieldType := fun k => match k with
  | 0 => .object "TallTales$House"
  | 1 => .array .int
  | 2 => .array .int
  | 3 => .array .int
  | 4 => .array .int
  | 5 => .array .int
  | 6 => .array .int
  | 7 => .int
  | 8 => .int
  | _ => .int
abbrev wsX50 : List Cond := u_ws RX5 TX5 10
theorem nmX5 : ∀ a, a < 10 → ∀ b, b < 10 → a ≠ b → (TX5 a).2.1 ≠ (TX5 b).2.1 := by decide +kernel
theorem tyX5_ok : ∀ k, k < 10 → parseFieldDescriptor (TX5 k).2.2.1 = some (tyX5 k) := by decide +kernel
abbrev cX5_init : ByteArray := prog_7_method_1_code
def yX5_init : MethodName := ⟨RX5, "<init>", "(LTallTales$House;)V"⟩
def RX6 : String := "TallTales"
def TX6 : u_T := fun k => match k with
  | 0 => ("TallTales", "sheets", "LTallTales$Sheets;", true)
  | 1 => ("TallTales", "text", "LTallTales$Text;", true)
  | 2 => ("TallTales", "house", "LTallTales$House;", true)
  | 3 => ("TallTales", "talls", "LTallTales$Talls;", true)
  | 4 => ("TallTales", "rests", "LTallTales$Rests;", true)
  | 5 => ("TallTales", "winter", "LTallTales$Winter;", true)
  | 6 => ("TallTales", "lying", "[I", true)
  | 7 => ("TallTales", "trace", "I", false)
  | _ => ("TallTales", "fault", "I", false)
def tyX6 : Nat → FieldType := fun k => match k with
  | 0 => .object "TallTales$Sheets"
  | 1 => .object "TallTales$Text"
  | 2 => .object "TallTales$House"
  | 3 => .object "TallTales$Talls"
  | 4 => .object "TallTales$Rests"
  | 5 => .object "TallTales$Winter"
  | 6 => .array .int
  | 7 => .int
  | _ => .int
abbrev wsX60 : List Cond := u_ws RX6 TX6 9
theorem nmX6 : ∀ a, a < 9 → ∀ b, b < 9 → a ≠ b → (TX6 a).2.1 ≠ (TX6 b).2.1 := by decide +kernel
theorem tyX6_ok : ∀ k, k < 9 → parseFieldDescriptor (TX6 k).2.2.1 = some (tyX6 k) := by decide +kernel
abbrev cX6_init : ByteArray := prog_1_method_1_code
def yX6_init : MethodName := ⟨RX6, "<init>", "()V"⟩
abbrev cX6_inn : ByteArray := prog_1_method_2_code
def yX6_inn : MethodName := ⟨RX6, "inn", "(IIII)I"⟩
abbrev cX6_ofTale : ByteArray := prog_1_method_3_code
def yX6_ofTale : MethodName := ⟨RX6, "ofTale", "(II)I"⟩
abbrev cX6_memory : ByteArray := prog_1_method_4_code
def yX6_memory : MethodName := ⟨RX6, "memory", "(I)I"⟩
abbrev cX6_choose : ByteArray := prog_1_method_5_code
def yX6_choose : MethodName := ⟨RX6, "choose", "(II)I"⟩
abbrev cX6_night : ByteArray := prog_1_method_6_code
def yX6_night : MethodName := ⟨RX6, "night", "()I"⟩
abbrev cX6_ofNight : ByteArray := prog_1_method_7_code
def yX6_ofNight : MethodName := ⟨RX6, "ofNight", "(III)I"⟩
abbrev cX6_undo : ByteArray := prog_1_method_8_code
def yX6_undo : MethodName := ⟨RX6, "undo", "(I)I"⟩
abbrev cX6_lay : ByteArray := prog_1_method_9_code
def yX6_lay : MethodName := ⟨RX6, "lay", "(II)I"⟩
abbrev cX6_tonight : ByteArray := prog_1_method_10_code
def yX6_tonight : MethodName := ⟨RX6, "tonight", "(II)I"⟩
abbrev cX6_answer : ByteArray := prog_1_method_11_code
def yX6_answer : MethodName := ⟨RX6, "answer", "(II)I"⟩
abbrev cX6_borrowed : ByteArray := prog_1_method_12_code
def yX6_borrowed : MethodName := ⟨RX6, "borrowed", "(II)I"⟩
abbrev cX6_bishop : ByteArray := prog_1_method_13_code
def yX6_bishop : MethodName := ⟨RX6, "bishop", "(I)I"⟩
abbrev cX6_sheet : ByteArray := prog_1_method_18_code
def yX6_sheet : MethodName := ⟨RX6, "sheet", "(III)I"⟩
abbrev cX6_put : ByteArray := prog_1_method_20_code
def yX6_put : MethodName := ⟨RX6, "put", "(III)I"⟩
abbrev cX6_many : ByteArray := prog_1_method_28_code
def yX6_many : MethodName := ⟨RX6, "many", "(I)I"⟩
abbrev cX6_isSheet : ByteArray := prog_1_method_29_code
def yX6_isSheet : MethodName := ⟨RX6, "isSheet", "(I)Z"⟩
abbrev cX6_isSort : ByteArray := prog_1_method_30_code
def yX6_isSort : MethodName := ⟨RX6, "isSort", "(I)Z"⟩
abbrev cX6_faulty : ByteArray := prog_1_method_31_code
def yX6_faulty : MethodName := ⟨RX6, "faulty", "(I)I"⟩
abbrev cX6_bestReply : ByteArray := prog_1_method_32_code
def yX6_bestReply : MethodName := ⟨RX6, "bestReply", "(IIZ)I"⟩
abbrev cX6_isBetterReply : ByteArray := prog_1_method_33_code
def yX6_isBetterReply : MethodName := ⟨RX6, "isBetterReply", "(III)Z"⟩
def RX7 : String := "TallTalesModel"
def TX7 : u_T := fun k => match k with
  | _ => ("", "", "", false)
def tyX7 : Nat → FieldType := fun k => match k with
  | _ => .int
abbrev wsX70 : List Cond := u_ws RX7 TX7 0
theorem nmX7 : ∀ a, a < 0 → ∀ b, b < 0 → a ≠ b → (TX7 a).2.1 ≠ (TX7 b).2.1 := by decide +kernel
theorem tyX7_ok : ∀ k, k < 0 → parseFieldDescriptor (TX7 k).2.2.1 = some (tyX7 k) := by decide +kernel
def RJ9 : String := "java/lang/Math"
def TJ9 : u_T := fun k => match k with
  | _ => ("", "", "", false)
def tyJ9 : Nat → FieldType := fun k => match k with
  | _ => .int
abbrev wsJ90 : List Cond := u_ws RJ9 TJ9 0
theorem nmJ9 : ∀ a, a < 0 → ∀ b, b < 0 → a ≠ b → (TJ9 a).2.1 ≠ (TJ9 b).2.1 := by decide +kernel
theorem tyJ9_ok : ∀ k, k < 0 → parseFieldDescriptor (TJ9 k).2.2.1 = some (tyJ9 k) := by decide +kernel
abbrev cJ9_max_7cf53 : ByteArray := prog_10_method_65_code
def yJ9_max_7cf53 : MethodName := ⟨RJ9, "max", "(II)I"⟩
def RJ10 : String := "java/lang/System"
def TJ10 : u_T := fun k => match k with
  | _ => ("", "", "", false)
def tyJ10 : Nat → FieldType := fun k => match k with
  | _ => .int
abbrev wsJ100 : List Cond := u_ws RJ10 TJ10 0
theorem nmJ10 : ∀ a, a < 0 → ∀ b, b < 0 → a ≠ b → (TJ10 a).2.1 ≠ (TJ10 b).2.1 := by decide +kernel
theorem tyJ10_ok : ∀ k, k < 0 → parseFieldDescriptor (TJ10 k).2.2.1 = some (tyJ10 k) := by decide +kernel
def RJ7 : String := "java/util/Arrays"
def TJ7 : u_T := fun k => match k with
  | _ => ("", "", "", false)
def tyJ7 : Nat → FieldType := fun k => match k with
  | _ => .int
abbrev wsJ70 : List Cond := u_ws RJ7 TJ7 0
theorem nmJ7 : ∀ a, a < 0 → ∀ b, b < 0 → a ≠ b → (TJ7 a).2.1 ≠ (TJ7 b).2.1 := by decide +kernel
theorem tyJ7_ok : ∀ k, k < 0 → parseFieldDescriptor (TJ7 k).2.2.1 = some (tyJ7 k) := by decide +kernel
abbrev cJ7_rangeCheck_23922 : ByteArray := prog_12_method_30_code
def yJ7_rangeCheck_23922 : MethodName := ⟨RJ7, "rangeCheck", "(III)V"⟩
abbrev cJ7_fill_53178 : ByteArray := prog_12_method_103_code
def yJ7_fill_53178 : MethodName := ⟨RJ7, "fill", "([II)V"⟩
abbrev cJ7_fill_fda19 : ByteArray := prog_12_method_104_code
def yJ7_fill_fda19 : MethodName := ⟨RJ7, "fill", "([IIII)V"⟩
def RL : String := "TallTalesLaw"
abbrev cL_cell : ByteArray := method_2_code
def yL_cell : MethodName := ⟨RL, "cell", "([II)I"⟩
abbrev cL_some : ByteArray := method_3_code
def yL_some : MethodName := ⟨RL, "some", "(II)I"⟩
abbrev cL_put : ByteArray := method_4_code
def yL_put : MethodName := ⟨RL, "put", "(LTallTales;[III[I)I"⟩
abbrev cL_times : ByteArray := method_5_code
def yL_times : MethodName := ⟨RL, "times", "([III)I"⟩
abbrev cL_last : ByteArray := method_6_code
def yL_last : MethodName := ⟨RL, "last", "([III)I"⟩
abbrev cL_may : ByteArray := method_7_code
def yL_may : MethodName := ⟨RL, "may", "([I[II)Z"⟩
abbrev cL_tall : ByteArray := method_8_code
def yL_tall : MethodName := ⟨RL, "tall", "([I[III)I"⟩
abbrev cL_place : ByteArray := method_9_code
def yL_place : MethodName := ⟨RL, "place", "([I[II[III)I"⟩
abbrev cL_choose : ByteArray := method_10_code
def yL_choose : MethodName := ⟨RL, "choose", "(LTallTales;I[I[I[I)Z"⟩
abbrev cL_law : ByteArray := code
def yL_law : MethodName := ⟨RL, "law", "([I)Z"⟩
abbrev vwCl : List vw_C := [(RX0, TX0, 13), (RX1, TX1, 5), (RX2, TX2, 3), (RX3, TX3, 2), (RX4, TX4, 2), (RX5, TX5, 10), (RX6, TX6, 9)]
