section
-- ===== PART A: goes FIRST, ahead of the names: the tables' words, and 'selects' of the private methods out of them =====
/-- a private method of a class that the tables say can be made, by its rows of tables_1 -/
def lw_okq (q : MethodName × Nat) : Prop := (q.1.cls ≠ "java/lang/invoke/MethodHandle" ∧ q.1.cls ≠ "java/lang/invoke/VarHandle") ∧ Cond.instantiable q.1.cls q.2 ∈ tables_1 ∧ Cond.privateMethod q.1 ∈ tables_1 ∧ Cond.instanceMethod q.1 ∈ tables_1
theorem lw_p0 : lw_okq (⟨"TallTales", "faulty", "(I)I"⟩, 9) := ⟨⟨by decide +kernel, by decide +kernel⟩, List.mem_of_getElem? (i := 12) (by decide +kernel), List.mem_of_getElem? (i := 234) (by decide +kernel), List.mem_of_getElem? (i := 235) (by decide +kernel)⟩
theorem lw_p1 : lw_okq (⟨"TallTales", "bestReply", "(IIZ)I"⟩, 9) := ⟨⟨by decide +kernel, by decide +kernel⟩, List.mem_of_getElem? (i := 12) (by decide +kernel), List.mem_of_getElem? (i := 384) (by decide +kernel), List.mem_of_getElem? (i := 385) (by decide +kernel)⟩
theorem lw_p2 : lw_okq (⟨"TallTales", "isBetterReply", "(III)Z"⟩, 9) := ⟨⟨by decide +kernel, by decide +kernel⟩, List.mem_of_getElem? (i := 12) (by decide +kernel), List.mem_of_getElem? (i := 393) (by decide +kernel), List.mem_of_getElem? (i := 394) (by decide +kernel)⟩
def lw_privs_1 : List (MethodName × Nat) := [(⟨"TallTales", "faulty", "(I)I"⟩, 9), (⟨"TallTales", "bestReply", "(IIZ)I"⟩, 9), (⟨"TallTales", "isBetterReply", "(III)Z"⟩, 9)]
theorem lw_r1 : ∀ q ∈ lw_privs_1, lw_okq q := List.forall_mem_cons.mpr ⟨lw_p0, List.forall_mem_cons.mpr ⟨lw_p1, List.forall_mem_cons.mpr ⟨lw_p2, fun _ h => absurd h List.not_mem_nil⟩⟩⟩
def lw_privs : List (MethodName × Nat) := lw_privs_1
def lw_tbl : List Cond := k2_sels lw_privs ++ tables_1
theorem lw_privs_ok : ∀ q ∈ lw_privs, lw_okq q := lw_r1

theorem goodIn_r {big : List Cond} (ws : List Cond) (ps : List Nat) (hp : ws = ps.filterMap (fun i => big[i]?)) (h : ws.all goodWord = true) : GoodIn big ws := by
  intro w hw
  have h1 := List.all_eq_true.mp h w hw
  rw [hp] at hw
  obtain ⟨i, -, hi⟩ := List.mem_filterMap.mp hw
  have hm : w ∈ big := by first | exact List.mem_of_getElem? hi | exact List.getElem?_mem hi
  exact ⟨hm, good_of_word h1⟩
theorem goodIn_app {big a b : List Cond} (ha : GoodIn big a) (hb : GoodIn big b) : GoodIn big (a ++ b) := fun w h => (List.mem_append.mp h).elim (ha w) (hb w)
theorem goodIn_ca {big a b : List Cond} {c : Cond} (ha : GoodIn big (c :: a)) (hb : GoodIn big b) : GoodIn big (c :: (a ++ b)) := fun w h => (List.mem_cons.mp h).elim (fun e => ha w (List.mem_cons.mpr (Or.inl e))) (fun h => (List.mem_append.mp h).elim (fun h => ha w (List.mem_cons.mpr (Or.inr h))) (hb w))
theorem goodIn_sub {big ws : List Cond} (hm : ∀ w ∈ ws, w ∈ big) (h : ws.all goodWord = true) : GoodIn big ws := fun w hw => ⟨hm w hw, good_of_word (List.all_eq_true.mp h w hw)⟩
def RX0 : String := "TallTales$House"
def TX0 : u_T := fun k => match k with
  | 0 => ("TallTales$House", "guests", "I", false)
  | 1 => ("TallTales$House", "tales", "I", false)
  | 2 => ("TallTales$House", "memory", "I", false)
  | 3 => ("TallTales$House", "nights", "I", false)
  | 4 => ("TallTales$House", "kinds", "[I", true)
  | 5 => ("TallTales$House", "owners", "[I", true)
  | 6 => ("TallTales$House", "heights", "[I", true)
  | 7 => ("TallTales$House", "told", "[I", true)
  | 8 => ("TallTales$House", "last", "[I", true)
  | 9 => ("TallTales$House", "chosen", "[I", true)
  | 10 => ("TallTales$House", "nightTale", "[I", true)
  | 11 => ("TallTales$House", "nightPlace", "[I", true)
  | _ => ("TallTales$House", "nightTall", "[I", true)
def tyX0 : Nat → FieldType := fun k => match k with
  | 0 => .int
  | 1 => .int
  | 2 => .int
  | 3 => .int
  | 4 => .array .int
  | 5 => .array .int
  | 6 => .array .int
  | 7 => .array .int
  | 8 => .array .int
  | 9 => .array .int
  | 10 => .array .int
  | 11 => .array .int
  | _ => .array .int
abbrev wsX00 : List Cond := u_ws RX0 TX0 13
theorem nmX0 : ∀ a, a < 13 → ∀ b, b < 13 → a ≠ b → (TX0 a).2.1 ≠ (TX0 b).2.1 := by decide +kernel
theorem tyX0_ok : ∀ k, k < 13 → parseFieldDescriptor (TX0 k).2.2.1 = some (tyX0 k) := by decide +kernel
abbrev cX0_init : ByteArray := prog_2_method_1_code
def yX0_init : MethodName := ⟨RX0, "<init>", "()V"⟩
abbrev cX0_open : ByteArray := prog_2_method_2_code
def yX0_open : MethodName := ⟨RX0, "open", "(LTallTales$Text;)V"⟩
abbrev cX0_isOpen : ByteArray := prog_2_method_3_code
def yX0_isOpen : MethodName := ⟨RX0, "isOpen", "()Z"⟩
abbrev cX0_hasGuest : ByteArray := prog_2_method_4_code
def yX0_hasGuest : MethodName := ⟨RX0, "hasGuest", "(I)Z"⟩
abbrev cX0_hasTale : ByteArray := prog_2_method_5_code
def yX0_hasTale : MethodName := ⟨RX0, "hasTale", "(I)Z"⟩
abbrev cX0_hasNight : ByteArray := prog_2_method_6_code
def yX0_hasNight : MethodName := ⟨RX0, "hasNight", "(I)Z"⟩
abbrev cX0_mayBeTold : ByteArray := prog_2_method_7_code
def yX0_mayBeTold : MethodName := ⟨RX0, "mayBeTold", "(IIII)Z"⟩
abbrev cX0_isTellable : ByteArray := prog_2_method_8_code
def yX0_isTellable : MethodName := ⟨RX0, "isTellable", "(I)Z"⟩
abbrev cX0_tallWhenTold : ByteArray := prog_2_method_9_code
def yX0_tallWhenTold : MethodName := ⟨RX0, "tallWhenTold", "(II)I"⟩
abbrev cX0_tallOf : ByteArray := prog_2_method_10_code
def yX0_tallOf : MethodName := ⟨RX0, "tallOf", "(I)I"⟩
abbrev cX0_isOffered : ByteArray := prog_2_method_11_code
def yX0_isOffered : MethodName := ⟨RX0, "isOffered", "(IIZ)Z"⟩
abbrev cX0_tallsAsChosen : ByteArray := prog_2_method_12_code
def yX0_tallsAsChosen : MethodName := ⟨RX0, "tallsAsChosen", "(LTallTales$Talls;)V"⟩
abbrev cX0_goBy : ByteArray := prog_2_method_14_code
def yX0_goBy : MethodName := ⟨RX0, "goBy", "(LTallTales$Talls;)I"⟩
abbrev cX0_keepTold : ByteArray := prog_2_method_15_code
def yX0_keepTold : MethodName := ⟨RX0, "keepTold", "(II)V"⟩
abbrev cX0_goBack : ByteArray := prog_2_method_16_code
def yX0_goBack : MethodName := ⟨RX0, "goBack", "(I)V"⟩
abbrev cX0_nightsAt : ByteArray := prog_2_method_17_code
def yX0_nightsAt : MethodName := ⟨RX0, "nightsAt", "(II)I"⟩
def RX1 : String := "TallTales$Rests"
def TX1 : u_T := fun k => match k with
  | 0 => ("TallTales$Rests", "house", "LTallTales$House;", true)
  | 1 => ("TallTales$Rests", "talls", "LTallTales$Talls;", true)
  | 2 => ("TallTales$Rests", "picks", "[I", true)
  | 3 => ("TallTales$Rests", "first", "[I", true)
  | _ => ("TallTales$Rests", "count", "I", false)
def tyX1 : Nat → FieldType := fun k => match k with
  | 0 => .object "TallTales$House"
  | 1 => .object "TallTales$Talls"
  | 2 => .array .int
  | 3 => .array .int
  | _ => .int
abbrev wsX10 : List Cond := u_ws RX1 TX1 5
theorem nmX1 : ∀ a, a < 5 → ∀ b, b < 5 → a ≠ b → (TX1 a).2.1 ≠ (TX1 b).2.1 := by decide +kernel
theorem tyX1_ok : ∀ k, k < 5 → parseFieldDescriptor (TX1 k).2.2.1 = some (tyX1 k) := by decide +kernel
abbrev cX1_init : ByteArray := prog_3_method_1_code
def yX1_init : MethodName := ⟨RX1, "<init>", "(LTallTales$House;LTallTales$Talls;)V"⟩
def RX2 : String := "TallTales$Sheets"
def TX2 : u_T := fun k => match k with
  | 0 => ("TallTales$Sheets", "cells", "[I", true)
  | 1 => ("TallTales$Sheets", "sorts", "[I", true)
  | _ => ("TallTales$Sheets", "lengths", "[I", true)
def tyX2 : Nat → FieldType := fun k => match k with
  | 0 => .array .int
  | 1 => .array .int
  | _ => .array .int
abbrev wsX20 : List Cond := u_ws RX2 TX2 3
theorem nmX2 : ∀ a, a < 3 → ∀ b, b < 3 → a ≠ b → (TX2 a).2.1 ≠ (TX2 b).2.1 := by decide +kernel
theorem tyX2_ok : ∀ k, k < 3 → parseFieldDescriptor (TX2 k).2.2.1 = some (tyX2 k) := by decide +kernel
abbrev cX2_init : ByteArray := prog_4_method_1_code
def yX2_init : MethodName := ⟨RX2, "<init>", "()V"⟩
abbrev cX2_hasRow : ByteArray := prog_4_method_2_code
def yX2_hasRow : MethodName := ⟨RX2, "hasRow", "(I)Z"⟩
abbrev cX2_hasCells : ByteArray := prog_4_method_3_code
def yX2_hasCells : MethodName := ⟨RX2, "hasCells", "(III)Z"⟩
abbrev cX2_faultOf : ByteArray := prog_4_method_4_code
def yX2_faultOf : MethodName := ⟨RX2, "faultOf", "(IIII)I"⟩
abbrev cX2_makeRow : ByteArray := prog_4_method_5_code
def yX2_makeRow : MethodName := ⟨RX2, "makeRow", "(III)V"⟩
abbrev cX2_write : ByteArray := prog_4_method_8_code
def yX2_write : MethodName := ⟨RX2, "write", "(III)V"⟩
abbrev cX2_take : ByteArray := prog_4_method_9_code
def yX2_take : MethodName := ⟨RX2, "take", "(III[I)V"⟩
def RX3 : String := "TallTales$Talls"
def TX3 : u_T := fun k => match k with
  | 0 => ("TallTales$Talls", "of", "[I", true)
  | _ => ("TallTales$Talls", "guests", "I", false)
def tyX3 : Nat → FieldType := fun k => match k with
  | 0 => .array .int
  | _ => .int
abbrev wsX30 : List Cond := u_ws RX3 TX3 2
theorem nmX3 : ∀ a, a < 2 → ∀ b, b < 2 → a ≠ b → (TX3 a).2.1 ≠ (TX3 b).2.1 := by decide +kernel
theorem tyX3_ok : ∀ k, k < 2 → parseFieldDescriptor (TX3 k).2.2.1 = some (tyX3 k) := by decide +kernel
abbrev cX3_init : ByteArray := prog_5_method_1_code
def yX3_init : MethodName := ⟨RX3, "<init>", "()V"⟩
abbrev cX3_placeOf : ByteArray := prog_5_method_2_code
def yX3_placeOf : MethodName := ⟨RX3, "placeOf", "(II)I"⟩
abbrev cX3_needOf : ByteArray := prog_5_method_3_code
def yX3_needOf : MethodName := ⟨RX3, "needOf", "(I)I"⟩
abbrev cX3_noLessThan : ByteArray := prog_5_method_4_code
def yX3_noLessThan : MethodName := ⟨RX3, "noLessThan", "(I)I"⟩
def RX4 : String := "TallTales$Text"
def TX4 : u_T := fun k => match k with
  | 0 => ("TallTales$Text", "codes", "[I", true)
  | _ => ("TallTales$Text", "length", "I", false)
def tyX4 : Nat → FieldType := fun k => match k with
  | 0 => .array .int
  | _ => .int
abbrev wsX40 : List Cond := u_ws RX4 TX4 2
theorem nmX4 : ∀ a, a < 2 → ∀ b, b < 2 → a ≠ b → (TX4 a).2.1 ≠ (TX4 b).2.1 := by decide +kernel
theorem tyX4_ok : ∀ k, k < 2 → parseFieldDescriptor (TX4 k).2.2.1 = some (tyX4 k) := by decide +kernel
abbrev cX4_init : ByteArray := prog_6_method_1_code
def yX4_init : MethodName := ⟨RX4, "<init>", "()V"⟩
abbrev cX4_firstFault : ByteArray := prog_6_method_2_code
def yX4_firstFault : MethodName := ⟨RX4, "firstFault", "()I"⟩
abbrev cX4_goesOn : ByteArray := prog_6_method_3_code
def yX4_goesOn : MethodName := ⟨RX4, "goesOn", "(I)Z"⟩
abbrev cX4_isDigit : ByteArray := prog_6_method_4_code
def yX4_isDigit : MethodName := ⟨RX4, "isDigit", "(I)Z"⟩
abbrev cX4_guests : ByteArray := prog_6_method_5_code
def yX4_guests : MethodName := ⟨RX4, "guests", "()I"⟩
abbrev cX4_tales : ByteArray := prog_6_method_6_code
def yX4_tales : MethodName := ⟨RX4, "tales", "()I"⟩
abbrev cX4_kindOf : ByteArray := prog_6_method_7_code
def yX4_kindOf : MethodName := ⟨RX4, "kindOf", "(I)I"⟩
abbrev cX4_ownerOf : ByteArray := prog_6_method_8_code
def yX4_ownerOf : MethodName := ⟨RX4, "ownerOf", "(I)I"⟩
abbrev cX4_heightOf : ByteArray := prog_6_method_9_code
def yX4_heightOf : MethodName := ⟨RX4, "heightOf", "(I)I"⟩
def RX5 : String := "TallTales$Winter"
def TX5 : u_T := fun k => match k with
  | 0 => ("TallTales$Winter", "house", "LTallTales$House;", true)
  | 1 => ("TallTales$Winter", "numbers", "[I", true)
  | 2 => ("TallTales$Winter", "ahead", "[I", true)
  | 3 => ("TallTales$Winter", "told", "[I", true)
  | 4 => ("TallTales$Winter", "last", "[I", true)
  | 5 => ("TallTales$Winter", "row", "[I", true)
  | 6 => ("TallTales$Winter", "first", "[I", true)
  | 7 => ("TallTales$Winter", "guest", "I", false)
  | 8 => ("TallTales$Winter", "length", "I", false)
  | _ => ("TallTales$Winter", "most", "I", false)
def tyX5 : Nat → FieldType := fun k => match k with
  | 0 => .object "TallTales$House"
  | 1 => .array .int
  | 2 => .array .int
  | 3 => .array .int
  | 4 => .array .int
  | 5 => .array .int
  | 6 => .array .int
  | 7 => .int
  | 8 => .int
  | _ => .int
abbrev wsX50 : List Cond := u_ws RX5 TX5 10
theorem nmX5 : ∀ a, a < 10 → ∀ b, b < 10 → a ≠ b → (TX5 a).2.1 ≠ (TX5 b).2.1 := by decide +kernel
theorem tyX5_ok : ∀ k, k < 10 → parseFieldDescriptor (TX5 k).2.2.1 = some (tyX5 k) := by decide +kernel
abbrev cX5_init : ByteArray := prog_7_method_1_code
def yX5_init : MethodName := ⟨RX5, "<init>", "(LTallTales$House;)V"⟩
def RX6 : String := "TallTales"
def TX6 : u_T := fun k => match k with
  | 0 => ("TallTales", "sheets", "LTallTales$Sheets;", true)
  | 1 => ("TallTales", "text", "LTallTales$Text;", true)
  | 2 => ("TallTales", "house", "LTallTales$House;", true)
  | 3 => ("TallTales", "talls", "LTallTales$Talls;", true)
  | 4 => ("TallTales", "rests", "LTallTales$Rests;", true)
  | 5 => ("TallTales", "winter", "LTallTales$Winter;", true)
  | 6 => ("TallTales", "lying", "[I", true)
  | 7 => ("TallTales", "trace", "I", false)
  | _ => ("TallTales", "fault", "I", false)
def tyX6 : Nat → FieldType := fun k => match k with
  | 0 => .object "TallTales$Sheets"
  | 1 => .object "TallTales$Text"
  | 2 => .object "TallTales$House"
  | 3 => .object "TallTales$Talls"
  | 4 => .object "TallTales$Rests"
  | 5 => .object "TallTales$Winter"
  | 6 => .array .int
  | 7 => .int
  | _ => .int
abbrev wsX60 : List Cond := u_ws RX6 TX6 9
theorem nmX6 : ∀ a, a < 9 → ∀ b, b < 9 → a ≠ b → (TX6 a).2.1 ≠ (TX6 b).2.1 := by decide +kernel
theorem tyX6_ok : ∀ k, k < 9 → parseFieldDescriptor (TX6 k).2.2.1 = some (tyX6 k) := by decide +kernel
abbrev cX6_init : ByteArray := prog_1_method_1_code
def yX6_init : MethodName := ⟨RX6, "<init>", "()V"⟩
abbrev cX6_inn : ByteArray := prog_1_method_2_code
def yX6_inn : MethodName := ⟨RX6, "inn", "(IIII)I"⟩
abbrev cX6_ofTale : ByteArray := prog_1_method_3_code
def yX6_ofTale : MethodName := ⟨RX6, "ofTale", "(II)I"⟩
abbrev cX6_memory : ByteArray := prog_1_method_4_code
def yX6_memory : MethodName := ⟨RX6, "memory", "(I)I"⟩
abbrev cX6_choose : ByteArray := prog_1_method_5_code
def yX6_choose : MethodName := ⟨RX6, "choose", "(II)I"⟩
abbrev cX6_night : ByteArray := prog_1_method_6_code
def yX6_night : MethodName := ⟨RX6, "night", "()I"⟩
abbrev cX6_ofNight : ByteArray := prog_1_method_7_code
def yX6_ofNight : MethodName := ⟨RX6, "ofNight", "(III)I"⟩
abbrev cX6_undo : ByteArray := prog_1_method_8_code
def yX6_undo : MethodName := ⟨RX6, "undo", "(I)I"⟩
abbrev cX6_lay : ByteArray := prog_1_method_9_code
def yX6_lay : MethodName := ⟨RX6, "lay", "(II)I"⟩
abbrev cX6_tonight : ByteArray := prog_1_method_10_code
def yX6_tonight : MethodName := ⟨RX6, "tonight", "(II)I"⟩
abbrev cX6_answer : ByteArray := prog_1_method_11_code
def yX6_answer : MethodName := ⟨RX6, "answer", "(II)I"⟩
abbrev cX6_borrowed : ByteArray := prog_1_method_12_code
def yX6_borrowed : MethodName := ⟨RX6, "borrowed", "(II)I"⟩
abbrev cX6_bishop : ByteArray := prog_1_method_13_code
def yX6_bishop : MethodName := ⟨RX6, "bishop", "(I)I"⟩
abbrev cX6_sheet : ByteArray := prog_1_method_18_code
def yX6_sheet : MethodName := ⟨RX6, "sheet", "(III)I"⟩
abbrev cX6_put : ByteArray := prog_1_method_20_code
def yX6_put : MethodName := ⟨RX6, "put", "(III)I"⟩
abbrev cX6_many : ByteArray := prog_1_method_28_code
def yX6_many : MethodName := ⟨RX6, "many", "(I)I"⟩
abbrev cX6_isSheet : ByteArray := prog_1_method_29_code
def yX6_isSheet : MethodName := ⟨RX6, "isSheet", "(I)Z"⟩
abbrev cX6_isSort : ByteArray := prog_1_method_30_code
def yX6_isSort : MethodName := ⟨RX6, "isSort", "(I)Z"⟩
abbrev cX6_faulty : ByteArray := prog_1_method_31_code
def yX6_faulty : MethodName := ⟨RX6, "faulty", "(I)I"⟩
abbrev cX6_bestReply : ByteArray := prog_1_method_32_code
def yX6_bestReply : MethodName := ⟨RX6, "bestReply", "(IIZ)I"⟩
abbrev cX6_isBetterReply : ByteArray := prog_1_method_33_code
def yX6_isBetterReply : MethodName := ⟨RX6, "isBetterReply", "(III)Z"⟩
def RX7 : String := "TallTalesModel"
def TX7 : u_T := fun k => match k with
  | _ => ("", "", "", false)
def tyX7 : Nat → FieldType := fun k => match k with
  | _ => .int
abbrev wsX70 : List Cond := u_ws RX7 TX7 0
theorem nmX7 : ∀ a, a < 0 → ∀ b, b < 0 → a ≠ b → (TX7 a).2.1 ≠ (TX7 b).2.1 := by decide +kernel
theorem tyX7_ok : ∀ k, k < 0 → parseFieldDescriptor (TX7 k).2.2.1 = some (tyX7 k) := by decide +kernel
def RJ9 : String := "java/lang/Math"
def TJ9 : u_T := fun k => match k with
  | _ => ("", "", "", false)
def tyJ9 : Nat → FieldType := fun k => match k with
  | _ => .int
abbrev wsJ90 : List Cond := u_ws RJ9 TJ9 0
theorem nmJ9 : ∀ a, a < 0 → ∀ b, b < 0 → a ≠ b → (TJ9 a).2.1 ≠ (TJ9 b).2.1 := by decide +kernel
theorem tyJ9_ok : ∀ k, k < 0 → parseFieldDescriptor (TJ9 k).2.2.1 = some (tyJ9 k) := by decide +kernel
abbrev cJ9_max_7cf53 : ByteArray := prog_10_method_65_code
def yJ9_max_7cf53 : MethodName := ⟨RJ9, "max", "(II)I"⟩
def RJ10 : String := "java/lang/System"
def TJ10 : u_T := fun k => match k with
  | _ => ("", "", "", false)
def tyJ10 : Nat → FieldType := fun k => match k with
  | _ => .int
abbrev wsJ100 : List Cond := u_ws RJ10 TJ10 0
theorem nmJ10 : ∀ a, a < 0 → ∀ b, b < 0 → a ≠ b → (TJ10 a).2.1 ≠ (TJ10 b).2.1 := by decide +kernel
theorem tyJ10_ok : ∀ k, k < 0 → parseFieldDescriptor (TJ10 k).2.2.1 = some (tyJ10 k) := by decide +kernel
def RJ7 : String := "java/util/Arrays"
def TJ7 : u_T := fun k => match k with
  | _ => ("", "", "", false)
def tyJ7 : Nat → FieldType := fun k => match k with
  | _ => .int
abbrev wsJ70 : List Cond := u_ws RJ7 TJ7 0
theorem nmJ7 : ∀ a, a < 0 → ∀ b, b < 0 → a ≠ b → (TJ7 a).2.1 ≠ (TJ7 b).2.1 := by decide +kernel
theorem tyJ7_ok : ∀ k, k < 0 → parseFieldDescriptor (TJ7 k).2.2.1 = some (tyJ7 k) := by decide +kernel
abbrev cJ7_rangeCheck_23922 : ByteArray := prog_12_method_30_code
def yJ7_rangeCheck_23922 : MethodName := ⟨RJ7, "rangeCheck", "(III)V"⟩
abbrev cJ7_fill_53178 : ByteArray := prog_12_method_103_code
def yJ7_fill_53178 : MethodName := ⟨RJ7, "fill", "([II)V"⟩
abbrev cJ7_fill_fda19 : ByteArray := prog_12_method_104_code
def yJ7_fill_fda19 : MethodName := ⟨RJ7, "fill", "([IIII)V"⟩
def RL : String := "TallTalesLaw"
abbrev cL_cell : ByteArray := method_2_code
def yL_cell : MethodName := ⟨RL, "cell", "([II)I"⟩
abbrev cL_some : ByteArray := method_3_code
def yL_some : MethodName := ⟨RL, "some", "(II)I"⟩
abbrev cL_put : ByteArray := method_4_code
def yL_put : MethodName := ⟨RL, "put", "(LTallTales;[III[I)I"⟩
abbrev cL_times : ByteArray := method_5_code
def yL_times : MethodName := ⟨RL, "times", "([III)I"⟩
abbrev cL_last : ByteArray := method_6_code
def yL_last : MethodName := ⟨RL, "last", "([III)I"⟩
abbrev cL_may : ByteArray := method_7_code
def yL_may : MethodName := ⟨RL, "may", "([I[II)Z"⟩
abbrev cL_tall : ByteArray := method_8_code
def yL_tall : MethodName := ⟨RL, "tall", "([I[III)I"⟩
abbrev cL_place : ByteArray := method_9_code
def yL_place : MethodName := ⟨RL, "place", "([I[II[III)I"⟩
abbrev cL_choose : ByteArray := method_10_code
def yL_choose : MethodName := ⟨RL, "choose", "(LTallTales;I[I[I[I)Z"⟩
abbrev cL_law : ByteArray := code
def yL_law : MethodName := ⟨RL, "law", "([I)Z"⟩
abbrev vwCl : List vw_C := [(RX0, TX0, 13), (RX1, TX1, 5), (RX2, TX2, 3), (RX3, TX3, 2), (RX4, TX4, 2), (RX5, TX5, 10), (RX6, TX6, 9)]
end
section
/-! ===== words: each by its place in the tables (by program: wip/gen30/words.py) ===== -/
def k_ws : List Cond := lw_tbl.filter goodWord
theorem k_in {w : Cond} (h : w ∈ lw_tbl) (g : goodWord w = true) : w ∈ k_ws := List.mem_filter.mpr ⟨h, g⟩
theorem k_good {w : Cond} (h : w ∈ k_ws) : w ∈ lw_tbl ∧ goodWord w = true := List.mem_filter.mp h
theorem k_lay {ws : List Cond} (h : GoodIn lw_tbl ws) : ∀ w ∈ ws, w ∈ k_ws := fun w hw => k_in (h w hw).1 (by rcases (h w hw).2 with q | ⟨ty, rfl⟩ <;> first | rfl | (cases w <;> first | rfl | exact q))
theorem k_in0 (i : Nat) {w : Cond} (h : (k2_sels lw_privs)[i]? = some w) (g : goodWord w = true) : w ∈ k_ws := k_in (List.mem_append_left _ (List.mem_of_getElem? h)) g
theorem k_in1 (i : Nat) {w : Cond} (h : tables_1_1[i]? = some w) (g : goodWord w = true) : w ∈ k_ws := k_in (List.mem_append_right _ (List.mem_append_left _ (List.mem_of_getElem? h))) g
theorem k_in2 (i : Nat) {w : Cond} (h : tables_1_2[i]? = some w) (g : goodWord w = true) : w ∈ k_ws := k_in (List.mem_append_right _ (List.mem_append_right _ (List.mem_of_getElem? h))) g
theorem kwn_L : Cond.initialized RL ∈ k_ws := k_in1 0 (by decide +kernel) (by decide +kernel)
theorem kwn_X6 : Cond.initialized RX6 ∈ k_ws := k_in1 1 (by decide +kernel) (by decide +kernel)
theorem kwn_X2 : Cond.initialized RX2 ∈ k_ws := k_in1 2 (by decide +kernel) (by decide +kernel)
theorem kwn_J7 : Cond.initialized RJ7 ∈ k_ws := k_in1 3 (by decide +kernel) (by decide +kernel)
theorem kwn_X4 : Cond.initialized RX4 ∈ k_ws := k_in1 4 (by decide +kernel) (by decide +kernel)
theorem kwn_X0 : Cond.initialized RX0 ∈ k_ws := k_in1 5 (by decide +kernel) (by decide +kernel)
theorem kwn_X3 : Cond.initialized RX3 ∈ k_ws := k_in1 6 (by decide +kernel) (by decide +kernel)
theorem kwn_X1 : Cond.initialized RX1 ∈ k_ws := k_in1 7 (by decide +kernel) (by decide +kernel)
theorem kwn_X5 : Cond.initialized RX5 ∈ k_ws := k_in1 8 (by decide +kernel) (by decide +kernel)
theorem kwn_J10 : Cond.initialized RJ10 ∈ k_ws := k_in1 9 (by decide +kernel) (by decide +kernel)
theorem kwn_J9 : Cond.initialized RJ9 ∈ k_ws := k_in1 10 (by decide +kernel) (by decide +kernel)
theorem kwc_L_20 : Cond.classLink RL 20 RX6 ∈ k_ws := k_in1 11 (by decide +kernel) (by decide +kernel)
theorem kwx_X6 : Cond.instantiable RX6 9 ∈ k_ws := k_in1 12 (by decide +kernel) (by decide +kernel)
theorem kwm_L_46 : Cond.methodLink RL 46 yX6_init ∈ k_ws := k_in1 13 (by decide +kernel) (by decide +kernel)
theorem kwi_X6_init : Cond.instanceMethod yX6_init ∈ k_ws := k_in1 14 (by decide +kernel) (by decide +kernel)
theorem kwk_X6_init : Cond.code yX6_init cX6_init 1 .none ∈ k_ws := k_in1 15 (by decide +kernel) (by decide +kernel)
theorem kwm_X6_3 : Cond.methodLink RX6 3 objectInit ∈ k_ws := k_in1 16 (by decide +kernel) (by decide +kernel)
theorem kwi_objectInit : Cond.instanceMethod objectInit ∈ k_ws := k_in1 17 (by decide +kernel) (by decide +kernel)
theorem kwk_objectInit : Cond.code objectInit ⟨#[0xb1]⟩ 1 none ∈ k_ws := k_in1 18 (by decide +kernel) (by decide +kernel)
theorem kwc_X6_9 : Cond.classLink RX6 9 RX2 ∈ k_ws := k_in1 19 (by decide +kernel) (by decide +kernel)
theorem kwx_X2 : Cond.instantiable RX2 3 ∈ k_ws := k_in1 20 (by decide +kernel) (by decide +kernel)
theorem kwm_X6_11 : Cond.methodLink RX6 11 yX2_init ∈ k_ws := k_in1 21 (by decide +kernel) (by decide +kernel)
theorem kwi_X2_init : Cond.instanceMethod yX2_init ∈ k_ws := k_in1 22 (by decide +kernel) (by decide +kernel)
theorem kwk_X2_init : Cond.code yX2_init cX2_init 1 .none ∈ k_ws := k_in1 23 (by decide +kernel) (by decide +kernel)
theorem kwm_X2_3 : Cond.methodLink RX2 3 objectInit ∈ k_ws := k_in1 24 (by decide +kernel) (by decide +kernel)
theorem kwm_X2_21 : Cond.methodLink RX2 21 yJ7_fill_53178 ∈ k_ws := k_in1 25 (by decide +kernel) (by decide +kernel)
theorem kws_J7_fill_53178 : Cond.static yJ7_fill_53178 ∈ k_ws := k_in1 26 (by decide +kernel) (by decide +kernel)
theorem kwk_J7_fill_53178 : Cond.code yJ7_fill_53178 cJ7_fill_53178 4 .none ∈ k_ws := k_in1 27 (by decide +kernel) (by decide +kernel)
theorem kwf_X2_9 : Cond.fieldLink RX2 9 "TallTales$Sheets" "cells" "[I" ∈ k_ws := k_in1 28 (by decide +kernel) (by decide +kernel)
theorem kwf_X2_15 : Cond.fieldLink RX2 15 "TallTales$Sheets" "sorts" "[I" ∈ k_ws := k_in1 29 (by decide +kernel) (by decide +kernel)
theorem kwf_X2_18 : Cond.fieldLink RX2 18 "TallTales$Sheets" "lengths" "[I" ∈ k_ws := k_in1 30 (by decide +kernel) (by decide +kernel)
theorem kwa_int : Cond.arrayClass Jvm.ClassFile.FieldType.int ∈ k_ws := k_in1 38 (by decide +kernel) (by decide +kernel)
theorem kwc_X6_18 : Cond.classLink RX6 18 RX4 ∈ k_ws := k_in1 39 (by decide +kernel) (by decide +kernel)
theorem kwx_X4 : Cond.instantiable RX4 2 ∈ k_ws := k_in1 40 (by decide +kernel) (by decide +kernel)
theorem kwm_X6_20 : Cond.methodLink RX6 20 yX4_init ∈ k_ws := k_in1 41 (by decide +kernel) (by decide +kernel)
theorem kwi_X4_init : Cond.instanceMethod yX4_init ∈ k_ws := k_in1 42 (by decide +kernel) (by decide +kernel)
theorem kwk_X4_init : Cond.code yX4_init cX4_init 1 .none ∈ k_ws := k_in1 43 (by decide +kernel) (by decide +kernel)
theorem kwm_X4_3 : Cond.methodLink RX4 3 objectInit ∈ k_ws := k_in1 44 (by decide +kernel) (by decide +kernel)
theorem kwf_X4_9 : Cond.fieldLink RX4 9 "TallTales$Text" "codes" "[I" ∈ k_ws := k_in1 45 (by decide +kernel) (by decide +kernel)
theorem kwf_X6_83 : Cond.fieldLink RX6 83 "TallTales$Text" "codes" "[I" ∈ k_ws := k_in1 46 (by decide +kernel) (by decide +kernel)
theorem kwf_X4_15 : Cond.fieldLink RX4 15 "TallTales$Text" "length" "I" ∈ k_ws := k_in1 47 (by decide +kernel) (by decide +kernel)
theorem kwf_X6_80 : Cond.fieldLink RX6 80 "TallTales$Text" "length" "I" ∈ k_ws := k_in1 48 (by decide +kernel) (by decide +kernel)
theorem kwc_X6_25 : Cond.classLink RX6 25 RX0 ∈ k_ws := k_in1 54 (by decide +kernel) (by decide +kernel)
theorem kwx_X0 : Cond.instantiable RX0 13 ∈ k_ws := k_in1 55 (by decide +kernel) (by decide +kernel)
theorem kwm_X6_27 : Cond.methodLink RX6 27 yX0_init ∈ k_ws := k_in1 56 (by decide +kernel) (by decide +kernel)
theorem kwi_X0_init : Cond.instanceMethod yX0_init ∈ k_ws := k_in1 57 (by decide +kernel) (by decide +kernel)
theorem kwk_X0_init : Cond.code yX0_init cX0_init 1 .none ∈ k_ws := k_in1 58 (by decide +kernel) (by decide +kernel)
theorem kwm_X0_3 : Cond.methodLink RX0 3 objectInit ∈ k_ws := k_in1 59 (by decide +kernel) (by decide +kernel)
theorem kwf_X0_45 : Cond.fieldLink RX0 45 "TallTales$House" "guests" "I" ∈ k_ws := k_in1 60 (by decide +kernel) (by decide +kernel)
theorem kwf_X6_208 : Cond.fieldLink RX6 208 "TallTales$House" "guests" "I" ∈ k_ws := k_in1 61 (by decide +kernel) (by decide +kernel)
theorem kwf_X0_51 : Cond.fieldLink RX0 51 "TallTales$House" "tales" "I" ∈ k_ws := k_in1 62 (by decide +kernel) (by decide +kernel)
theorem kwf_X6_98 : Cond.fieldLink RX6 98 "TallTales$House" "tales" "I" ∈ k_ws := k_in1 63 (by decide +kernel) (by decide +kernel)
theorem kwf_X0_63 : Cond.fieldLink RX0 63 "TallTales$House" "memory" "I" ∈ k_ws := k_in1 64 (by decide +kernel) (by decide +kernel)
theorem kwf_X6_129 : Cond.fieldLink RX6 129 "TallTales$House" "memory" "I" ∈ k_ws := k_in1 65 (by decide +kernel) (by decide +kernel)
theorem kwf_X0_66 : Cond.fieldLink RX0 66 "TallTales$House" "nights" "I" ∈ k_ws := k_in1 66 (by decide +kernel) (by decide +kernel)
theorem kwf_X6_138 : Cond.fieldLink RX6 138 "TallTales$House" "nights" "I" ∈ k_ws := k_in1 67 (by decide +kernel) (by decide +kernel)
theorem kwf_X0_9 : Cond.fieldLink RX0 9 "TallTales$House" "kinds" "[I" ∈ k_ws := k_in1 68 (by decide +kernel) (by decide +kernel)
theorem kwf_X6_104 : Cond.fieldLink RX6 104 "TallTales$House" "kinds" "[I" ∈ k_ws := k_in1 69 (by decide +kernel) (by decide +kernel)
theorem kwf_X0_15 : Cond.fieldLink RX0 15 "TallTales$House" "owners" "[I" ∈ k_ws := k_in1 70 (by decide +kernel) (by decide +kernel)
theorem kwf_X6_107 : Cond.fieldLink RX6 107 "TallTales$House" "owners" "[I" ∈ k_ws := k_in1 71 (by decide +kernel) (by decide +kernel)
theorem kwf_X0_18 : Cond.fieldLink RX0 18 "TallTales$House" "heights" "[I" ∈ k_ws := k_in1 72 (by decide +kernel) (by decide +kernel)
theorem kwf_X6_110 : Cond.fieldLink RX6 110 "TallTales$House" "heights" "[I" ∈ k_ws := k_in1 73 (by decide +kernel) (by decide +kernel)
theorem kwf_X0_21 : Cond.fieldLink RX0 21 "TallTales$House" "told" "[I" ∈ k_ws := k_in1 74 (by decide +kernel) (by decide +kernel)
theorem kwf_X6_113 : Cond.fieldLink RX6 113 "TallTales$House" "told" "[I" ∈ k_ws := k_in1 75 (by decide +kernel) (by decide +kernel)
theorem kwf_X0_24 : Cond.fieldLink RX0 24 "TallTales$House" "last" "[I" ∈ k_ws := k_in1 76 (by decide +kernel) (by decide +kernel)
theorem kwf_X6_116 : Cond.fieldLink RX6 116 "TallTales$House" "last" "[I" ∈ k_ws := k_in1 77 (by decide +kernel) (by decide +kernel)
theorem kwf_X0_27 : Cond.fieldLink RX0 27 "TallTales$House" "chosen" "[I" ∈ k_ws := k_in1 78 (by decide +kernel) (by decide +kernel)
theorem kwf_X6_135 : Cond.fieldLink RX6 135 "TallTales$House" "chosen" "[I" ∈ k_ws := k_in1 79 (by decide +kernel) (by decide +kernel)
theorem kwf_X0_30 : Cond.fieldLink RX0 30 "TallTales$House" "nightTale" "[I" ∈ k_ws := k_in1 80 (by decide +kernel) (by decide +kernel)
theorem kwf_X6_152 : Cond.fieldLink RX6 152 "TallTales$House" "nightTale" "[I" ∈ k_ws := k_in1 81 (by decide +kernel) (by decide +kernel)
theorem kwf_X0_33 : Cond.fieldLink RX0 33 "TallTales$House" "nightPlace" "[I" ∈ k_ws := k_in1 82 (by decide +kernel) (by decide +kernel)
theorem kwf_X6_155 : Cond.fieldLink RX6 155 "TallTales$House" "nightPlace" "[I" ∈ k_ws := k_in1 83 (by decide +kernel) (by decide +kernel)
theorem kwf_X0_36 : Cond.fieldLink RX0 36 "TallTales$House" "nightTall" "[I" ∈ k_ws := k_in1 84 (by decide +kernel) (by decide +kernel)
theorem kwf_X6_158 : Cond.fieldLink RX6 158 "TallTales$House" "nightTall" "[I" ∈ k_ws := k_in1 85 (by decide +kernel) (by decide +kernel)
theorem kwc_X6_32 : Cond.classLink RX6 32 RX3 ∈ k_ws := k_in1 113 (by decide +kernel) (by decide +kernel)
theorem kwx_X3 : Cond.instantiable RX3 2 ∈ k_ws := k_in1 114 (by decide +kernel) (by decide +kernel)
theorem kwm_X6_34 : Cond.methodLink RX6 34 yX3_init ∈ k_ws := k_in1 115 (by decide +kernel) (by decide +kernel)
theorem kwi_X3_init : Cond.instanceMethod yX3_init ∈ k_ws := k_in1 116 (by decide +kernel) (by decide +kernel)
theorem kwk_X3_init : Cond.code yX3_init cX3_init 1 .none ∈ k_ws := k_in1 117 (by decide +kernel) (by decide +kernel)
theorem kwm_X3_3 : Cond.methodLink RX3 3 objectInit ∈ k_ws := k_in1 118 (by decide +kernel) (by decide +kernel)
theorem kwf_X3_9 : Cond.fieldLink RX3 9 "TallTales$Talls" "of" "[I" ∈ k_ws := k_in1 119 (by decide +kernel) (by decide +kernel)
theorem kwf_X6_169 : Cond.fieldLink RX6 169 "TallTales$Talls" "of" "[I" ∈ k_ws := k_in1 120 (by decide +kernel) (by decide +kernel)
theorem kwf_X0_88 : Cond.fieldLink RX0 88 "TallTales$Talls" "of" "[I" ∈ k_ws := k_in1 121 (by decide +kernel) (by decide +kernel)
theorem kwf_X3_15 : Cond.fieldLink RX3 15 "TallTales$Talls" "guests" "I" ∈ k_ws := k_in1 122 (by decide +kernel) (by decide +kernel)
theorem kwf_X0_85 : Cond.fieldLink RX0 85 "TallTales$Talls" "guests" "I" ∈ k_ws := k_in1 123 (by decide +kernel) (by decide +kernel)
theorem kwc_X6_39 : Cond.classLink RX6 39 RX1 ∈ k_ws := k_in1 129 (by decide +kernel) (by decide +kernel)
theorem kwx_X1 : Cond.instantiable RX1 5 ∈ k_ws := k_in1 130 (by decide +kernel) (by decide +kernel)
theorem kwm_X6_41 : Cond.methodLink RX6 41 yX1_init ∈ k_ws := k_in1 131 (by decide +kernel) (by decide +kernel)
theorem kwi_X1_init : Cond.instanceMethod yX1_init ∈ k_ws := k_in1 132 (by decide +kernel) (by decide +kernel)
theorem kwk_X1_init : Cond.code yX1_init cX1_init 3 .none ∈ k_ws := k_in1 133 (by decide +kernel) (by decide +kernel)
theorem kwm_X1_3 : Cond.methodLink RX1 3 objectInit ∈ k_ws := k_in1 134 (by decide +kernel) (by decide +kernel)
theorem kwf_X1_18 : Cond.fieldLink RX1 18 "TallTales$Rests" "house" "LTallTales$House;" ∈ k_ws := k_in1 135 (by decide +kernel) (by decide +kernel)
theorem kwf_X1_22 : Cond.fieldLink RX1 22 "TallTales$Rests" "talls" "LTallTales$Talls;" ∈ k_ws := k_in1 136 (by decide +kernel) (by decide +kernel)
theorem kwf_X1_9 : Cond.fieldLink RX1 9 "TallTales$Rests" "picks" "[I" ∈ k_ws := k_in1 137 (by decide +kernel) (by decide +kernel)
theorem kwf_X1_15 : Cond.fieldLink RX1 15 "TallTales$Rests" "first" "[I" ∈ k_ws := k_in1 138 (by decide +kernel) (by decide +kernel)
theorem kwc_X6_48 : Cond.classLink RX6 48 RX5 ∈ k_ws := k_in1 150 (by decide +kernel) (by decide +kernel)
theorem kwx_X5 : Cond.instantiable RX5 10 ∈ k_ws := k_in1 151 (by decide +kernel) (by decide +kernel)
theorem kwm_X6_50 : Cond.methodLink RX6 50 yX5_init ∈ k_ws := k_in1 152 (by decide +kernel) (by decide +kernel)
theorem kwi_X5_init : Cond.instanceMethod yX5_init ∈ k_ws := k_in1 153 (by decide +kernel) (by decide +kernel)
theorem kwk_X5_init : Cond.code yX5_init cX5_init 2 .none ∈ k_ws := k_in1 154 (by decide +kernel) (by decide +kernel)
theorem kwm_X5_3 : Cond.methodLink RX5 3 objectInit ∈ k_ws := k_in1 155 (by decide +kernel) (by decide +kernel)
theorem kwf_X5_30 : Cond.fieldLink RX5 30 "TallTales$Winter" "house" "LTallTales$House;" ∈ k_ws := k_in1 156 (by decide +kernel) (by decide +kernel)
theorem kwf_X5_9 : Cond.fieldLink RX5 9 "TallTales$Winter" "numbers" "[I" ∈ k_ws := k_in1 157 (by decide +kernel) (by decide +kernel)
theorem kwf_X5_15 : Cond.fieldLink RX5 15 "TallTales$Winter" "ahead" "[I" ∈ k_ws := k_in1 158 (by decide +kernel) (by decide +kernel)
theorem kwf_X5_18 : Cond.fieldLink RX5 18 "TallTales$Winter" "told" "[I" ∈ k_ws := k_in1 159 (by decide +kernel) (by decide +kernel)
theorem kwf_X5_21 : Cond.fieldLink RX5 21 "TallTales$Winter" "last" "[I" ∈ k_ws := k_in1 160 (by decide +kernel) (by decide +kernel)
theorem kwf_X5_24 : Cond.fieldLink RX5 24 "TallTales$Winter" "row" "[I" ∈ k_ws := k_in1 161 (by decide +kernel) (by decide +kernel)
theorem kwf_X5_27 : Cond.fieldLink RX5 27 "TallTales$Winter" "first" "[I" ∈ k_ws := k_in1 162 (by decide +kernel) (by decide +kernel)
theorem kwf_X6_12 : Cond.fieldLink RX6 12 "TallTales" "sheets" "LTallTales$Sheets;" ∈ k_ws := k_in1 184 (by decide +kernel) (by decide +kernel)
theorem kwf_X6_21 : Cond.fieldLink RX6 21 "TallTales" "text" "LTallTales$Text;" ∈ k_ws := k_in1 185 (by decide +kernel) (by decide +kernel)
theorem kwf_X6_28 : Cond.fieldLink RX6 28 "TallTales" "house" "LTallTales$House;" ∈ k_ws := k_in1 186 (by decide +kernel) (by decide +kernel)
theorem kwf_X6_35 : Cond.fieldLink RX6 35 "TallTales" "talls" "LTallTales$Talls;" ∈ k_ws := k_in1 187 (by decide +kernel) (by decide +kernel)
theorem kwf_X6_44 : Cond.fieldLink RX6 44 "TallTales" "rests" "LTallTales$Rests;" ∈ k_ws := k_in1 188 (by decide +kernel) (by decide +kernel)
theorem kwf_X6_53 : Cond.fieldLink RX6 53 "TallTales" "winter" "LTallTales$Winter;" ∈ k_ws := k_in1 189 (by decide +kernel) (by decide +kernel)
theorem kwf_X6_57 : Cond.fieldLink RX6 57 "TallTales" "lying" "[I" ∈ k_ws := k_in1 190 (by decide +kernel) (by decide +kernel)
theorem kwf_X6_61 : Cond.fieldLink RX6 61 "TallTales" "fault" "I" ∈ k_ws := k_in1 191 (by decide +kernel) (by decide +kernel)
theorem kwm_L_50 : Cond.methodLink RL 50 yX6_inn ∈ k_ws := k_in1 211 (by decide +kernel) (by decide +kernel)
theorem kwi_X6_inn : Cond.instanceMethod yX6_inn ∈ k_ws := k_in1 212 (by decide +kernel) (by decide +kernel)
theorem kwv_X6_inn : Cond.selects RX6 yX6_inn yX6_inn ∈ k_ws := k_in1 213 (by decide +kernel) (by decide +kernel)
theorem kwk_X6_inn : Cond.code yX6_inn cX6_inn 7 (.some .int) ∈ k_ws := k_in1 214 (by decide +kernel) (by decide +kernel)
theorem kwm_X6_65 : Cond.methodLink RX6 65 yX6_isSheet ∈ k_ws := k_in1 215 (by decide +kernel) (by decide +kernel)
theorem kws_X6_isSheet : Cond.static yX6_isSheet ∈ k_ws := k_in1 216 (by decide +kernel) (by decide +kernel)
theorem kwk_X6_isSheet : Cond.code yX6_isSheet cX6_isSheet 1 (.some .boolean) ∈ k_ws := k_in1 217 (by decide +kernel) (by decide +kernel)
theorem kwm_X6_69 : Cond.methodLink RX6 69 yX6_isSort ∈ k_ws := k_in1 218 (by decide +kernel) (by decide +kernel)
theorem kws_X6_isSort : Cond.static yX6_isSort ∈ k_ws := k_in1 219 (by decide +kernel) (by decide +kernel)
theorem kwk_X6_isSort : Cond.code yX6_isSort cX6_isSort 1 (.some .boolean) ∈ k_ws := k_in1 220 (by decide +kernel) (by decide +kernel)
theorem kwm_X6_72 : Cond.methodLink RX6 72 yX2_faultOf ∈ k_ws := k_in1 221 (by decide +kernel) (by decide +kernel)
theorem kwi_X2_faultOf : Cond.instanceMethod yX2_faultOf ∈ k_ws := k_in1 222 (by decide +kernel) (by decide +kernel)
theorem kwv_X2_faultOf : Cond.selects RX2 yX2_faultOf yX2_faultOf ∈ k_ws := k_in1 223 (by decide +kernel) (by decide +kernel)
theorem kwk_X2_faultOf : Cond.code yX2_faultOf cX2_faultOf 5 (.some .int) ∈ k_ws := k_in1 224 (by decide +kernel) (by decide +kernel)
theorem kwm_X2_27 : Cond.methodLink RX2 27 yX2_hasRow ∈ k_ws := k_in1 225 (by decide +kernel) (by decide +kernel)
theorem kwi_X2_hasRow : Cond.instanceMethod yX2_hasRow ∈ k_ws := k_in1 226 (by decide +kernel) (by decide +kernel)
theorem kwv_X2_hasRow : Cond.selects RX2 yX2_hasRow yX2_hasRow ∈ k_ws := k_in1 227 (by decide +kernel) (by decide +kernel)
theorem kwk_X2_hasRow : Cond.code yX2_hasRow cX2_hasRow 2 (.some .boolean) ∈ k_ws := k_in1 228 (by decide +kernel) (by decide +kernel)
theorem kwm_X2_31 : Cond.methodLink RX2 31 yX2_hasCells ∈ k_ws := k_in1 229 (by decide +kernel) (by decide +kernel)
theorem kwi_X2_hasCells : Cond.instanceMethod yX2_hasCells ∈ k_ws := k_in1 230 (by decide +kernel) (by decide +kernel)
theorem kwv_X2_hasCells : Cond.selects RX2 yX2_hasCells yX2_hasCells ∈ k_ws := k_in1 231 (by decide +kernel) (by decide +kernel)
theorem kwk_X2_hasCells : Cond.code yX2_hasCells cX2_hasCells 4 (.some .boolean) ∈ k_ws := k_in1 232 (by decide +kernel) (by decide +kernel)
theorem kwm_X6_76 : Cond.methodLink RX6 76 yX6_faulty ∈ k_ws := k_in1 233 (by decide +kernel) (by decide +kernel)
theorem kwi_X6_faulty : Cond.instanceMethod yX6_faulty ∈ k_ws := k_in1 235 (by decide +kernel) (by decide +kernel)
theorem kwk_X6_faulty : Cond.code yX6_faulty cX6_faulty 2 (.some .int) ∈ k_ws := k_in1 236 (by decide +kernel) (by decide +kernel)
theorem kwm_X6_86 : Cond.methodLink RX6 86 yX2_take ∈ k_ws := k_in1 237 (by decide +kernel) (by decide +kernel)
theorem kwi_X2_take : Cond.instanceMethod yX2_take ∈ k_ws := k_in1 238 (by decide +kernel) (by decide +kernel)
theorem kwv_X2_take : Cond.selects RX2 yX2_take yX2_take ∈ k_ws := k_in1 239 (by decide +kernel) (by decide +kernel)
theorem kwk_X2_take : Cond.code yX2_take cX2_take 5 .none ∈ k_ws := k_in2 0 (by decide +kernel) (by decide +kernel)
theorem kwm_X2_38 : Cond.methodLink RX2 38 arraycopyName ∈ k_ws := k_in2 1 (by decide +kernel) (by decide +kernel)
theorem kws_arraycopy : Cond.static arraycopyName ∈ k_ws := k_in2 2 (by decide +kernel) (by decide +kernel)
theorem kwt_arraycopy : Cond.native arraycopyName ∈ k_ws := k_in2 3 (by decide +kernel) (by decide +kernel)
theorem kwm_X6_90 : Cond.methodLink RX6 90 yX4_firstFault ∈ k_ws := k_in2 4 (by decide +kernel) (by decide +kernel)
theorem kwi_X4_firstFault : Cond.instanceMethod yX4_firstFault ∈ k_ws := k_in2 5 (by decide +kernel) (by decide +kernel)
theorem kwv_X4_firstFault : Cond.selects RX4 yX4_firstFault yX4_firstFault ∈ k_ws := k_in2 6 (by decide +kernel) (by decide +kernel)
theorem kwk_X4_firstFault : Cond.code yX4_firstFault cX4_firstFault 2 (.some .int) ∈ k_ws := k_in2 7 (by decide +kernel) (by decide +kernel)
theorem kwm_X4_19 : Cond.methodLink RX4 19 yX4_goesOn ∈ k_ws := k_in2 8 (by decide +kernel) (by decide +kernel)
theorem kwi_X4_goesOn : Cond.instanceMethod yX4_goesOn ∈ k_ws := k_in2 9 (by decide +kernel) (by decide +kernel)
theorem kwv_X4_goesOn : Cond.selects RX4 yX4_goesOn yX4_goesOn ∈ k_ws := k_in2 10 (by decide +kernel) (by decide +kernel)
theorem kwk_X4_goesOn : Cond.code yX4_goesOn cX4_goesOn 3 (.some .boolean) ∈ k_ws := k_in2 11 (by decide +kernel) (by decide +kernel)
theorem kwm_X4_23 : Cond.methodLink RX4 23 yX4_isDigit ∈ k_ws := k_in2 12 (by decide +kernel) (by decide +kernel)
theorem kws_X4_isDigit : Cond.static yX4_isDigit ∈ k_ws := k_in2 13 (by decide +kernel) (by decide +kernel)
theorem kwk_X4_isDigit : Cond.code yX4_isDigit cX4_isDigit 1 (.some .boolean) ∈ k_ws := k_in2 14 (by decide +kernel) (by decide +kernel)
theorem kwm_X6_94 : Cond.methodLink RX6 94 yX0_open ∈ k_ws := k_in2 15 (by decide +kernel) (by decide +kernel)
theorem kwi_X0_open : Cond.instanceMethod yX0_open ∈ k_ws := k_in2 16 (by decide +kernel) (by decide +kernel)
theorem kwv_X0_open : Cond.selects RX0 yX0_open yX0_open ∈ k_ws := k_in2 17 (by decide +kernel) (by decide +kernel)
theorem kwk_X0_open : Cond.code yX0_open cX0_open 3 .none ∈ k_ws := k_in2 18 (by decide +kernel) (by decide +kernel)
theorem kwm_X0_39 : Cond.methodLink RX0 39 yX4_guests ∈ k_ws := k_in2 19 (by decide +kernel) (by decide +kernel)
theorem kwi_X4_guests : Cond.instanceMethod yX4_guests ∈ k_ws := k_in2 20 (by decide +kernel) (by decide +kernel)
theorem kwv_X4_guests : Cond.selects RX4 yX4_guests yX4_guests ∈ k_ws := k_in2 21 (by decide +kernel) (by decide +kernel)
theorem kwk_X4_guests : Cond.code yX4_guests cX4_guests 1 (.some .int) ∈ k_ws := k_in2 22 (by decide +kernel) (by decide +kernel)
theorem kwm_X0_48 : Cond.methodLink RX0 48 yX4_tales ∈ k_ws := k_in2 23 (by decide +kernel) (by decide +kernel)
theorem kwi_X4_tales : Cond.instanceMethod yX4_tales ∈ k_ws := k_in2 24 (by decide +kernel) (by decide +kernel)
theorem kwv_X4_tales : Cond.selects RX4 yX4_tales yX4_tales ∈ k_ws := k_in2 25 (by decide +kernel) (by decide +kernel)
theorem kwk_X4_tales : Cond.code yX4_tales cX4_tales 1 (.some .int) ∈ k_ws := k_in2 26 (by decide +kernel) (by decide +kernel)
theorem kwm_X0_53 : Cond.methodLink RX0 53 yX4_kindOf ∈ k_ws := k_in2 27 (by decide +kernel) (by decide +kernel)
theorem kwi_X4_kindOf : Cond.instanceMethod yX4_kindOf ∈ k_ws := k_in2 28 (by decide +kernel) (by decide +kernel)
theorem kwv_X4_kindOf : Cond.selects RX4 yX4_kindOf yX4_kindOf ∈ k_ws := k_in2 29 (by decide +kernel) (by decide +kernel)
theorem kwk_X4_kindOf : Cond.code yX4_kindOf cX4_kindOf 3 (.some .int) ∈ k_ws := k_in2 30 (by decide +kernel) (by decide +kernel)
theorem kwm_X0_57 : Cond.methodLink RX0 57 yX4_ownerOf ∈ k_ws := k_in2 31 (by decide +kernel) (by decide +kernel)
theorem kwi_X4_ownerOf : Cond.instanceMethod yX4_ownerOf ∈ k_ws := k_in2 32 (by decide +kernel) (by decide +kernel)
theorem kwv_X4_ownerOf : Cond.selects RX4 yX4_ownerOf yX4_ownerOf ∈ k_ws := k_in2 33 (by decide +kernel) (by decide +kernel)
theorem kwk_X4_ownerOf : Cond.code yX4_ownerOf cX4_ownerOf 2 (.some .int) ∈ k_ws := k_in2 34 (by decide +kernel) (by decide +kernel)
theorem kwm_X0_60 : Cond.methodLink RX0 60 yX4_heightOf ∈ k_ws := k_in2 35 (by decide +kernel) (by decide +kernel)
theorem kwi_X4_heightOf : Cond.instanceMethod yX4_heightOf ∈ k_ws := k_in2 36 (by decide +kernel) (by decide +kernel)
theorem kwv_X4_heightOf : Cond.selects RX4 yX4_heightOf yX4_heightOf ∈ k_ws := k_in2 37 (by decide +kernel) (by decide +kernel)
theorem kwk_X4_heightOf : Cond.code yX4_heightOf cX4_heightOf 3 (.some .int) ∈ k_ws := k_in2 38 (by decide +kernel) (by decide +kernel)
theorem kwm_X0_69 : Cond.methodLink RX0 69 yX0_goBack ∈ k_ws := k_in2 39 (by decide +kernel) (by decide +kernel)
theorem kwi_X0_goBack : Cond.instanceMethod yX0_goBack ∈ k_ws := k_in2 40 (by decide +kernel) (by decide +kernel)
theorem kwv_X0_goBack : Cond.selects RX0 yX0_goBack yX0_goBack ∈ k_ws := k_in2 41 (by decide +kernel) (by decide +kernel)
theorem kwk_X0_goBack : Cond.code yX0_goBack cX0_goBack 4 .none ∈ k_ws := k_in2 42 (by decide +kernel) (by decide +kernel)
theorem kwm_X0_104 : Cond.methodLink RX0 104 yJ7_fill_53178 ∈ k_ws := k_in2 43 (by decide +kernel) (by decide +kernel)
theorem kwm_X0_100 : Cond.methodLink RX0 100 yX0_keepTold ∈ k_ws := k_in2 44 (by decide +kernel) (by decide +kernel)
theorem kwi_X0_keepTold : Cond.instanceMethod yX0_keepTold ∈ k_ws := k_in2 45 (by decide +kernel) (by decide +kernel)
theorem kwv_X0_keepTold : Cond.selects RX0 yX0_keepTold yX0_keepTold ∈ k_ws := k_in2 46 (by decide +kernel) (by decide +kernel)
theorem kwk_X0_keepTold : Cond.code yX0_keepTold cX0_keepTold 3 .none ∈ k_ws := k_in2 47 (by decide +kernel) (by decide +kernel)
theorem kwm_X0_91 : Cond.methodLink RX0 91 yX0_hasTale ∈ k_ws := k_in2 48 (by decide +kernel) (by decide +kernel)
theorem kwi_X0_hasTale : Cond.instanceMethod yX0_hasTale ∈ k_ws := k_in2 49 (by decide +kernel) (by decide +kernel)
theorem kwv_X0_hasTale : Cond.selects RX0 yX0_hasTale yX0_hasTale ∈ k_ws := k_in2 50 (by decide +kernel) (by decide +kernel)
theorem kwk_X0_hasTale : Cond.code yX0_hasTale cX0_hasTale 2 (.some .boolean) ∈ k_ws := k_in2 51 (by decide +kernel) (by decide +kernel)
theorem kwm_L_61 : Cond.methodLink RL 61 yX6_ofTale ∈ k_ws := k_in2 52 (by decide +kernel) (by decide +kernel)
theorem kwi_X6_ofTale : Cond.instanceMethod yX6_ofTale ∈ k_ws := k_in2 53 (by decide +kernel) (by decide +kernel)
theorem kwv_X6_ofTale : Cond.selects RX6 yX6_ofTale yX6_ofTale ∈ k_ws := k_in2 54 (by decide +kernel) (by decide +kernel)
theorem kwk_X6_ofTale : Cond.code yX6_ofTale cX6_ofTale 3 (.some .int) ∈ k_ws := k_in2 55 (by decide +kernel) (by decide +kernel)
theorem kwm_X6_101 : Cond.methodLink RX6 101 yX0_hasTale ∈ k_ws := k_in2 56 (by decide +kernel) (by decide +kernel)
theorem kwm_X6_119 : Cond.methodLink RX6 119 yX0_isTellable ∈ k_ws := k_in2 57 (by decide +kernel) (by decide +kernel)
theorem kwi_X0_isTellable : Cond.instanceMethod yX0_isTellable ∈ k_ws := k_in2 58 (by decide +kernel) (by decide +kernel)
theorem kwv_X0_isTellable : Cond.selects RX0 yX0_isTellable yX0_isTellable ∈ k_ws := k_in2 59 (by decide +kernel) (by decide +kernel)
theorem kwk_X0_isTellable : Cond.code yX0_isTellable cX0_isTellable 2 (.some .boolean) ∈ k_ws := k_in2 60 (by decide +kernel) (by decide +kernel)
theorem kwm_X0_73 : Cond.methodLink RX0 73 yX0_mayBeTold ∈ k_ws := k_in2 61 (by decide +kernel) (by decide +kernel)
theorem kwi_X0_mayBeTold : Cond.instanceMethod yX0_mayBeTold ∈ k_ws := k_in2 62 (by decide +kernel) (by decide +kernel)
theorem kwv_X0_mayBeTold : Cond.selects RX0 yX0_mayBeTold yX0_mayBeTold ∈ k_ws := k_in2 63 (by decide +kernel) (by decide +kernel)
theorem kwk_X0_mayBeTold : Cond.code yX0_mayBeTold cX0_mayBeTold 5 (.some .boolean) ∈ k_ws := k_in2 64 (by decide +kernel) (by decide +kernel)
theorem kwm_X6_122 : Cond.methodLink RX6 122 yX0_tallOf ∈ k_ws := k_in2 65 (by decide +kernel) (by decide +kernel)
theorem kwi_X0_tallOf : Cond.instanceMethod yX0_tallOf ∈ k_ws := k_in2 66 (by decide +kernel) (by decide +kernel)
theorem kwv_X0_tallOf : Cond.selects RX0 yX0_tallOf yX0_tallOf ∈ k_ws := k_in2 67 (by decide +kernel) (by decide +kernel)
theorem kwk_X0_tallOf : Cond.code yX0_tallOf cX0_tallOf 2 (.some .int) ∈ k_ws := k_in2 68 (by decide +kernel) (by decide +kernel)
theorem kwm_X0_77 : Cond.methodLink RX0 77 yX0_tallWhenTold ∈ k_ws := k_in2 69 (by decide +kernel) (by decide +kernel)
theorem kwi_X0_tallWhenTold : Cond.instanceMethod yX0_tallWhenTold ∈ k_ws := k_in2 70 (by decide +kernel) (by decide +kernel)
theorem kwv_X0_tallWhenTold : Cond.selects RX0 yX0_tallWhenTold yX0_tallWhenTold ∈ k_ws := k_in2 71 (by decide +kernel) (by decide +kernel)
theorem kwk_X0_tallWhenTold : Cond.code yX0_tallWhenTold cX0_tallWhenTold 3 (.some .int) ∈ k_ws := k_in2 72 (by decide +kernel) (by decide +kernel)
theorem kwm_L_54 : Cond.methodLink RL 54 yX6_memory ∈ k_ws := k_in2 73 (by decide +kernel) (by decide +kernel)
theorem kwi_X6_memory : Cond.instanceMethod yX6_memory ∈ k_ws := k_in2 74 (by decide +kernel) (by decide +kernel)
theorem kwv_X6_memory : Cond.selects RX6 yX6_memory yX6_memory ∈ k_ws := k_in2 75 (by decide +kernel) (by decide +kernel)
theorem kwk_X6_memory : Cond.code yX6_memory cX6_memory 3 (.some .int) ∈ k_ws := k_in2 76 (by decide +kernel) (by decide +kernel)
theorem kwm_X6_125 : Cond.methodLink RX6 125 yX0_isOpen ∈ k_ws := k_in2 77 (by decide +kernel) (by decide +kernel)
theorem kwi_X0_isOpen : Cond.instanceMethod yX0_isOpen ∈ k_ws := k_in2 78 (by decide +kernel) (by decide +kernel)
theorem kwv_X0_isOpen : Cond.selects RX0 yX0_isOpen yX0_isOpen ∈ k_ws := k_in2 79 (by decide +kernel) (by decide +kernel)
theorem kwk_X0_isOpen : Cond.code yX0_isOpen cX0_isOpen 1 (.some .boolean) ∈ k_ws := k_in2 80 (by decide +kernel) (by decide +kernel)
theorem kwm_L_43 : Cond.methodLink RL 43 yX6_choose ∈ k_ws := k_in2 81 (by decide +kernel) (by decide +kernel)
theorem kwi_X6_choose : Cond.instanceMethod yX6_choose ∈ k_ws := k_in2 82 (by decide +kernel) (by decide +kernel)
theorem kwv_X6_choose : Cond.selects RX6 yX6_choose yX6_choose ∈ k_ws := k_in2 83 (by decide +kernel) (by decide +kernel)
theorem kwk_X6_choose : Cond.code yX6_choose cX6_choose 4 (.some .int) ∈ k_ws := k_in2 84 (by decide +kernel) (by decide +kernel)
theorem kwm_X6_132 : Cond.methodLink RX6 132 yX0_hasGuest ∈ k_ws := k_in2 85 (by decide +kernel) (by decide +kernel)
theorem kwi_X0_hasGuest : Cond.instanceMethod yX0_hasGuest ∈ k_ws := k_in2 86 (by decide +kernel) (by decide +kernel)
theorem kwv_X0_hasGuest : Cond.selects RX0 yX0_hasGuest yX0_hasGuest ∈ k_ws := k_in2 87 (by decide +kernel) (by decide +kernel)
theorem kwk_X0_hasGuest : Cond.code yX0_hasGuest cX0_hasGuest 2 (.some .boolean) ∈ k_ws := k_in2 88 (by decide +kernel) (by decide +kernel)
theorem kwm_L_80 : Cond.methodLink RL 80 yX6_night ∈ k_ws := k_in2 89 (by decide +kernel) (by decide +kernel)
theorem kwi_X6_night : Cond.instanceMethod yX6_night ∈ k_ws := k_in2 90 (by decide +kernel) (by decide +kernel)
theorem kwv_X6_night : Cond.selects RX6 yX6_night yX6_night ∈ k_ws := k_in2 91 (by decide +kernel) (by decide +kernel)
theorem kwk_X6_night : Cond.code yX6_night cX6_night 1 (.some .int) ∈ k_ws := k_in2 92 (by decide +kernel) (by decide +kernel)
theorem kwm_X6_141 : Cond.methodLink RX6 141 yX0_tallsAsChosen ∈ k_ws := k_in2 93 (by decide +kernel) (by decide +kernel)
theorem kwi_X0_tallsAsChosen : Cond.instanceMethod yX0_tallsAsChosen ∈ k_ws := k_in2 94 (by decide +kernel) (by decide +kernel)
theorem kwv_X0_tallsAsChosen : Cond.selects RX0 yX0_tallsAsChosen yX0_tallsAsChosen ∈ k_ws := k_in2 95 (by decide +kernel) (by decide +kernel)
theorem kwk_X0_tallsAsChosen : Cond.code yX0_tallsAsChosen cX0_tallsAsChosen 3 .none ∈ k_ws := k_in2 96 (by decide +kernel) (by decide +kernel)
theorem kwm_X0_94 : Cond.methodLink RX0 94 yX0_tallOf ∈ k_ws := k_in2 97 (by decide +kernel) (by decide +kernel)
theorem kwm_X6_145 : Cond.methodLink RX6 145 yX0_goBy ∈ k_ws := k_in2 98 (by decide +kernel) (by decide +kernel)
theorem kwi_X0_goBy : Cond.instanceMethod yX0_goBy ∈ k_ws := k_in2 99 (by decide +kernel) (by decide +kernel)
theorem kwv_X0_goBy : Cond.selects RX0 yX0_goBy yX0_goBy ∈ k_ws := k_in2 100 (by decide +kernel) (by decide +kernel)
theorem kwk_X0_goBy : Cond.code yX0_goBy cX0_goBy 5 (.some .int) ∈ k_ws := k_in2 101 (by decide +kernel) (by decide +kernel)
theorem kwm_X0_97 : Cond.methodLink RX0 97 yX3_placeOf ∈ k_ws := k_in2 102 (by decide +kernel) (by decide +kernel)
theorem kwi_X3_placeOf : Cond.instanceMethod yX3_placeOf ∈ k_ws := k_in2 103 (by decide +kernel) (by decide +kernel)
theorem kwv_X3_placeOf : Cond.selects RX3 yX3_placeOf yX3_placeOf ∈ k_ws := k_in2 104 (by decide +kernel) (by decide +kernel)
theorem kwk_X3_placeOf : Cond.code yX3_placeOf cX3_placeOf 5 (.some .int) ∈ k_ws := k_in2 105 (by decide +kernel) (by decide +kernel)
theorem kwm_L_87 : Cond.methodLink RL 87 yX6_ofNight ∈ k_ws := k_in2 106 (by decide +kernel) (by decide +kernel)
theorem kwi_X6_ofNight : Cond.instanceMethod yX6_ofNight ∈ k_ws := k_in2 107 (by decide +kernel) (by decide +kernel)
theorem kwv_X6_ofNight : Cond.selects RX6 yX6_ofNight yX6_ofNight ∈ k_ws := k_in2 108 (by decide +kernel) (by decide +kernel)
theorem kwk_X6_ofNight : Cond.code yX6_ofNight cX6_ofNight 5 (.some .int) ∈ k_ws := k_in2 109 (by decide +kernel) (by decide +kernel)
theorem kwm_X6_149 : Cond.methodLink RX6 149 yX0_hasNight ∈ k_ws := k_in2 110 (by decide +kernel) (by decide +kernel)
theorem kwi_X0_hasNight : Cond.instanceMethod yX0_hasNight ∈ k_ws := k_in2 111 (by decide +kernel) (by decide +kernel)
theorem kwv_X0_hasNight : Cond.selects RX0 yX0_hasNight yX0_hasNight ∈ k_ws := k_in2 112 (by decide +kernel) (by decide +kernel)
theorem kwk_X0_hasNight : Cond.code yX0_hasNight cX0_hasNight 2 (.some .boolean) ∈ k_ws := k_in2 113 (by decide +kernel) (by decide +kernel)
theorem kwm_L_84 : Cond.methodLink RL 84 yX6_undo ∈ k_ws := k_in2 114 (by decide +kernel) (by decide +kernel)
theorem kwi_X6_undo : Cond.instanceMethod yX6_undo ∈ k_ws := k_in2 115 (by decide +kernel) (by decide +kernel)
theorem kwv_X6_undo : Cond.selects RX6 yX6_undo yX6_undo ∈ k_ws := k_in2 116 (by decide +kernel) (by decide +kernel)
theorem kwk_X6_undo : Cond.code yX6_undo cX6_undo 2 (.some .int) ∈ k_ws := k_in2 117 (by decide +kernel) (by decide +kernel)
theorem kwm_X6_161 : Cond.methodLink RX6 161 yX0_goBack ∈ k_ws := k_in2 118 (by decide +kernel) (by decide +kernel)
theorem kwm_L_90 : Cond.methodLink RL 90 yX6_lay ∈ k_ws := k_in2 119 (by decide +kernel) (by decide +kernel)
theorem kwi_X6_lay : Cond.instanceMethod yX6_lay ∈ k_ws := k_in2 120 (by decide +kernel) (by decide +kernel)
theorem kwv_X6_lay : Cond.selects RX6 yX6_lay yX6_lay ∈ k_ws := k_in2 121 (by decide +kernel) (by decide +kernel)
theorem kwk_X6_lay : Cond.code yX6_lay cX6_lay 3 (.some .int) ∈ k_ws := k_in2 122 (by decide +kernel) (by decide +kernel)
theorem kwm_X6_165 : Cond.methodLink RX6 165 yX0_nightsAt ∈ k_ws := k_in2 123 (by decide +kernel) (by decide +kernel)
theorem kwi_X0_nightsAt : Cond.instanceMethod yX0_nightsAt ∈ k_ws := k_in2 124 (by decide +kernel) (by decide +kernel)
theorem kwv_X0_nightsAt : Cond.selects RX0 yX0_nightsAt yX0_nightsAt ∈ k_ws := k_in2 125 (by decide +kernel) (by decide +kernel)
theorem kwk_X0_nightsAt : Cond.code yX0_nightsAt cX0_nightsAt 5 (.some .int) ∈ k_ws := k_in2 126 (by decide +kernel) (by decide +kernel)
theorem kwm_L_64 : Cond.methodLink RL 64 yX6_tonight ∈ k_ws := k_in2 127 (by decide +kernel) (by decide +kernel)
theorem kwi_X6_tonight : Cond.instanceMethod yX6_tonight ∈ k_ws := k_in2 128 (by decide +kernel) (by decide +kernel)
theorem kwv_X6_tonight : Cond.selects RX6 yX6_tonight yX6_tonight ∈ k_ws := k_in2 129 (by decide +kernel) (by decide +kernel)
theorem kwk_X6_tonight : Cond.code yX6_tonight cX6_tonight 3 (.some .int) ∈ k_ws := k_in2 130 (by decide +kernel) (by decide +kernel)
theorem kwm_X6_172 : Cond.methodLink RX6 172 yX3_placeOf ∈ k_ws := k_in2 131 (by decide +kernel) (by decide +kernel)
theorem kwm_X6_175 : Cond.methodLink RX6 175 yX3_needOf ∈ k_ws := k_in2 132 (by decide +kernel) (by decide +kernel)
theorem kwi_X3_needOf : Cond.instanceMethod yX3_needOf ∈ k_ws := k_in2 133 (by decide +kernel) (by decide +kernel)
theorem kwv_X3_needOf : Cond.selects RX3 yX3_needOf yX3_needOf ∈ k_ws := k_in2 134 (by decide +kernel) (by decide +kernel)
theorem kwk_X3_needOf : Cond.code yX3_needOf cX3_needOf 4 (.some .int) ∈ k_ws := k_in2 135 (by decide +kernel) (by decide +kernel)
theorem kwm_X3_19 : Cond.methodLink RX3 19 Lib.Math.max.name ∈ k_ws := k_in2 136 (by decide +kernel) (by decide +kernel)
theorem kws_max : Cond.static Lib.Math.max.name ∈ k_ws := k_in2 137 (by decide +kernel) (by decide +kernel)
theorem kwk_max : Cond.code Lib.Math.max.name Lib.Math.max.code 2 (some .int) ∈ k_ws := k_in2 138 (by decide +kernel) (by decide +kernel)
theorem kwm_L_71 : Cond.methodLink RL 71 yX6_answer ∈ k_ws := k_in2 139 (by decide +kernel) (by decide +kernel)
theorem kwi_X6_answer : Cond.instanceMethod yX6_answer ∈ k_ws := k_in2 140 (by decide +kernel) (by decide +kernel)
theorem kwv_X6_answer : Cond.selects RX6 yX6_answer yX6_answer ∈ k_ws := k_in2 141 (by decide +kernel) (by decide +kernel)
theorem kwk_X6_answer : Cond.code yX6_answer cX6_answer 3 (.some .int) ∈ k_ws := k_in2 142 (by decide +kernel) (by decide +kernel)
theorem kwm_X6_178 : Cond.methodLink RX6 178 yX6_bestReply ∈ k_ws := k_in2 143 (by decide +kernel) (by decide +kernel)
theorem kwi_X6_bestReply : Cond.instanceMethod yX6_bestReply ∈ k_ws := k_in2 145 (by decide +kernel) (by decide +kernel)
theorem kwk_X6_bestReply : Cond.code yX6_bestReply cX6_bestReply 6 (.some .int) ∈ k_ws := k_in2 146 (by decide +kernel) (by decide +kernel)
theorem kwm_X6_262 : Cond.methodLink RX6 262 yX0_isOffered ∈ k_ws := k_in2 147 (by decide +kernel) (by decide +kernel)
theorem kwi_X0_isOffered : Cond.instanceMethod yX0_isOffered ∈ k_ws := k_in2 148 (by decide +kernel) (by decide +kernel)
theorem kwv_X0_isOffered : Cond.selects RX0 yX0_isOffered yX0_isOffered ∈ k_ws := k_in2 149 (by decide +kernel) (by decide +kernel)
theorem kwk_X0_isOffered : Cond.code yX0_isOffered cX0_isOffered 5 (.some .boolean) ∈ k_ws := k_in2 150 (by decide +kernel) (by decide +kernel)
theorem kwm_X0_81 : Cond.methodLink RX0 81 yX0_isTellable ∈ k_ws := k_in2 151 (by decide +kernel) (by decide +kernel)
theorem kwm_X6_266 : Cond.methodLink RX6 266 yX6_isBetterReply ∈ k_ws := k_in2 152 (by decide +kernel) (by decide +kernel)
theorem kwi_X6_isBetterReply : Cond.instanceMethod yX6_isBetterReply ∈ k_ws := k_in2 154 (by decide +kernel) (by decide +kernel)
theorem kwk_X6_isBetterReply : Cond.code yX6_isBetterReply cX6_isBetterReply 8 (.some .boolean) ∈ k_ws := k_in2 155 (by decide +kernel) (by decide +kernel)
theorem kwm_L_74 : Cond.methodLink RL 74 yX6_borrowed ∈ k_ws := k_in2 156 (by decide +kernel) (by decide +kernel)
theorem kwi_X6_borrowed : Cond.instanceMethod yX6_borrowed ∈ k_ws := k_in2 157 (by decide +kernel) (by decide +kernel)
theorem kwv_X6_borrowed : Cond.selects RX6 yX6_borrowed yX6_borrowed ∈ k_ws := k_in2 158 (by decide +kernel) (by decide +kernel)
theorem kwk_X6_borrowed : Cond.code yX6_borrowed cX6_borrowed 3 (.some .int) ∈ k_ws := k_in2 159 (by decide +kernel) (by decide +kernel)
theorem kwm_L_77 : Cond.methodLink RL 77 yX6_bishop ∈ k_ws := k_in2 160 (by decide +kernel) (by decide +kernel)
theorem kwi_X6_bishop : Cond.instanceMethod yX6_bishop ∈ k_ws := k_in2 161 (by decide +kernel) (by decide +kernel)
theorem kwv_X6_bishop : Cond.selects RX6 yX6_bishop yX6_bishop ∈ k_ws := k_in2 162 (by decide +kernel) (by decide +kernel)
theorem kwk_X6_bishop : Cond.code yX6_bishop cX6_bishop 2 (.some .int) ∈ k_ws := k_in2 163 (by decide +kernel) (by decide +kernel)
theorem kwm_X6_182 : Cond.methodLink RX6 182 yX3_noLessThan ∈ k_ws := k_in2 164 (by decide +kernel) (by decide +kernel)
theorem kwi_X3_noLessThan : Cond.instanceMethod yX3_noLessThan ∈ k_ws := k_in2 165 (by decide +kernel) (by decide +kernel)
theorem kwv_X3_noLessThan : Cond.selects RX3 yX3_noLessThan yX3_noLessThan ∈ k_ws := k_in2 166 (by decide +kernel) (by decide +kernel)
theorem kwk_X3_noLessThan : Cond.code yX3_noLessThan cX3_noLessThan 4 (.some .int) ∈ k_ws := k_in2 167 (by decide +kernel) (by decide +kernel)
theorem kwm_L_93 : Cond.methodLink RL 93 yX6_many ∈ k_ws := k_in2 168 (by decide +kernel) (by decide +kernel)
theorem kwi_X6_many : Cond.instanceMethod yX6_many ∈ k_ws := k_in2 169 (by decide +kernel) (by decide +kernel)
theorem kwv_X6_many : Cond.selects RX6 yX6_many yX6_many ∈ k_ws := k_in2 170 (by decide +kernel) (by decide +kernel)
theorem kwk_X6_many : Cond.code yX6_many cX6_many 2 (.some .int) ∈ k_ws := k_in2 171 (by decide +kernel) (by decide +kernel)
theorem kwm_L_9 : Cond.methodLink RL 9 yL_cell ∈ k_ws := k_in2 172 (by decide +kernel) (by decide +kernel)
theorem kws_L_cell : Cond.static yL_cell ∈ k_ws := k_in2 173 (by decide +kernel) (by decide +kernel)
theorem kwk_L_cell : Cond.code yL_cell cL_cell 2 (.some .int) ∈ k_ws := k_in2 174 (by decide +kernel) (by decide +kernel)
theorem kwo_L_7 : Cond.constant RL 7 (747796405 : Int32) ∈ k_ws := k_in2 175 (by decide +kernel) (by decide +kernel)
theorem kwm_L_15 : Cond.methodLink RL 15 yL_some ∈ k_ws := k_in2 176 (by decide +kernel) (by decide +kernel)
theorem kws_L_some : Cond.static yL_some ∈ k_ws := k_in2 177 (by decide +kernel) (by decide +kernel)
theorem kwk_L_some : Cond.code yL_some cL_some 2 (.some .int) ∈ k_ws := k_in2 178 (by decide +kernel) (by decide +kernel)
theorem kwo_L_8 : Cond.constant RL 8 (2147483647 : Int32) ∈ k_ws := k_in2 179 (by decide +kernel) (by decide +kernel)
theorem kwm_L_47 : Cond.methodLink RL 47 yL_put ∈ k_ws := k_in2 180 (by decide +kernel) (by decide +kernel)
theorem kws_L_put : Cond.static yL_put ∈ k_ws := k_in2 181 (by decide +kernel) (by decide +kernel)
theorem kwk_L_put : Cond.code yL_put cL_put 9 (.some .int) ∈ k_ws := k_in2 182 (by decide +kernel) (by decide +kernel)
theorem kwm_L_19 : Cond.methodLink RL 19 yX6_sheet ∈ k_ws := k_in2 183 (by decide +kernel) (by decide +kernel)
theorem kwi_X6_sheet : Cond.instanceMethod yX6_sheet ∈ k_ws := k_in2 184 (by decide +kernel) (by decide +kernel)
theorem kwv_X6_sheet : Cond.selects RX6 yX6_sheet yX6_sheet ∈ k_ws := k_in2 185 (by decide +kernel) (by decide +kernel)
theorem kwk_X6_sheet : Cond.code yX6_sheet cX6_sheet 4 (.some .int) ∈ k_ws := k_in2 186 (by decide +kernel) (by decide +kernel)
theorem kwm_X6_218 : Cond.methodLink RX6 218 yX2_makeRow ∈ k_ws := k_in2 187 (by decide +kernel) (by decide +kernel)
theorem kwi_X2_makeRow : Cond.instanceMethod yX2_makeRow ∈ k_ws := k_in2 188 (by decide +kernel) (by decide +kernel)
theorem kwv_X2_makeRow : Cond.selects RX2 yX2_makeRow yX2_makeRow ∈ k_ws := k_in2 189 (by decide +kernel) (by decide +kernel)
theorem kwk_X2_makeRow : Cond.code yX2_makeRow cX2_makeRow 4 .none ∈ k_ws := k_in2 190 (by decide +kernel) (by decide +kernel)
theorem kwm_X2_35 : Cond.methodLink RX2 35 yJ7_fill_fda19 ∈ k_ws := k_in2 191 (by decide +kernel) (by decide +kernel)
theorem kws_J7_fill_fda19 : Cond.static yJ7_fill_fda19 ∈ k_ws := k_in2 192 (by decide +kernel) (by decide +kernel)
theorem kwk_J7_fill_fda19 : Cond.code yJ7_fill_fda19 cJ7_fill_fda19 5 .none ∈ k_ws := k_in2 193 (by decide +kernel) (by decide +kernel)
theorem kwm_J7_13 : Cond.methodLink RJ7 13 yJ7_rangeCheck_23922 ∈ k_ws := k_in2 194 (by decide +kernel) (by decide +kernel)
theorem kws_J7_rangeCheck_23922 : Cond.static yJ7_rangeCheck_23922 ∈ k_ws := k_in2 195 (by decide +kernel) (by decide +kernel)
theorem kwk_J7_rangeCheck_23922 : Cond.code yJ7_rangeCheck_23922 cJ7_rangeCheck_23922 3 .none ∈ k_ws := k_in2 196 (by decide +kernel) (by decide +kernel)
theorem kwm_L_25 : Cond.methodLink RL 25 yX6_put ∈ k_ws := k_in2 197 (by decide +kernel) (by decide +kernel)
theorem kwi_X6_put : Cond.instanceMethod yX6_put ∈ k_ws := k_in2 198 (by decide +kernel) (by decide +kernel)
theorem kwv_X6_put : Cond.selects RX6 yX6_put yX6_put ∈ k_ws := k_in2 199 (by decide +kernel) (by decide +kernel)
theorem kwk_X6_put : Cond.code yX6_put cX6_put 4 (.some .int) ∈ k_ws := k_in2 200 (by decide +kernel) (by decide +kernel)
theorem kwm_X6_225 : Cond.methodLink RX6 225 yX2_hasRow ∈ k_ws := k_in2 201 (by decide +kernel) (by decide +kernel)
theorem kwm_X6_228 : Cond.methodLink RX6 228 yX2_hasCells ∈ k_ws := k_in2 202 (by decide +kernel) (by decide +kernel)
theorem kwm_X6_232 : Cond.methodLink RX6 232 yX2_write ∈ k_ws := k_in2 203 (by decide +kernel) (by decide +kernel)
theorem kwi_X2_write : Cond.instanceMethod yX2_write ∈ k_ws := k_in2 204 (by decide +kernel) (by decide +kernel)
theorem kwv_X2_write : Cond.selects RX2 yX2_write yX2_write ∈ k_ws := k_in2 205 (by decide +kernel) (by decide +kernel)
theorem kwk_X2_write : Cond.code yX2_write cX2_write 5 .none ∈ k_ws := k_in2 206 (by decide +kernel) (by decide +kernel)
theorem kwm_L_32 : Cond.methodLink RL 32 yL_times ∈ k_ws := k_in2 207 (by decide +kernel) (by decide +kernel)
theorem kws_L_times : Cond.static yL_times ∈ k_ws := k_in2 208 (by decide +kernel) (by decide +kernel)
theorem kwk_L_times : Cond.code yL_times cL_times 5 (.some .int) ∈ k_ws := k_in2 209 (by decide +kernel) (by decide +kernel)
theorem kwm_L_28 : Cond.methodLink RL 28 yL_last ∈ k_ws := k_in2 210 (by decide +kernel) (by decide +kernel)
theorem kws_L_last : Cond.static yL_last ∈ k_ws := k_in2 211 (by decide +kernel) (by decide +kernel)
theorem kwk_L_last : Cond.code yL_last cL_last 5 (.some .int) ∈ k_ws := k_in2 212 (by decide +kernel) (by decide +kernel)
theorem kwm_L_39 : Cond.methodLink RL 39 yL_may ∈ k_ws := k_in2 213 (by decide +kernel) (by decide +kernel)
theorem kws_L_may : Cond.static yL_may ∈ k_ws := k_in2 214 (by decide +kernel) (by decide +kernel)
theorem kwk_L_may : Cond.code yL_may cL_may 4 (.some .boolean) ∈ k_ws := k_in2 215 (by decide +kernel) (by decide +kernel)
theorem kwm_L_35 : Cond.methodLink RL 35 yL_tall ∈ k_ws := k_in2 216 (by decide +kernel) (by decide +kernel)
theorem kws_L_tall : Cond.static yL_tall ∈ k_ws := k_in2 217 (by decide +kernel) (by decide +kernel)
theorem kwk_L_tall : Cond.code yL_tall cL_tall 4 (.some .int) ∈ k_ws := k_in2 218 (by decide +kernel) (by decide +kernel)
theorem kwm_L_67 : Cond.methodLink RL 67 yL_place ∈ k_ws := k_in2 219 (by decide +kernel) (by decide +kernel)
theorem kws_L_place : Cond.static yL_place ∈ k_ws := k_in2 220 (by decide +kernel) (by decide +kernel)
theorem kwk_L_place : Cond.code yL_place cL_place 10 (.some .int) ∈ k_ws := k_in2 221 (by decide +kernel) (by decide +kernel)
theorem kwm_L_58 : Cond.methodLink RL 58 yL_choose ∈ k_ws := k_in2 222 (by decide +kernel) (by decide +kernel)
theorem kws_L_choose : Cond.static yL_choose ∈ k_ws := k_in2 223 (by decide +kernel) (by decide +kernel)
theorem kwk_L_choose : Cond.code yL_choose cL_choose 8 (.some .boolean) ∈ k_ws := k_in2 224 (by decide +kernel) (by decide +kernel)
theorem kwv_X6_faulty : Cond.selects RX6 yX6_faulty yX6_faulty ∈ k_ws := k_in0 0 (by decide +kernel) (by decide +kernel)
theorem kwv_X6_bestReply : Cond.selects RX6 yX6_bestReply yX6_bestReply ∈ k_ws := k_in0 1 (by decide +kernel) (by decide +kernel)
theorem kwv_X6_isBetterReply : Cond.selects RX6 yX6_isBetterReply yX6_isBetterReply ∈ k_ws := k_in0 2 (by decide +kernel) (by decide +kernel)
theorem kinX0 : ∀ w ∈ wsX00, w ∈ k_ws := k_lay (goodIn_r (big := lw_tbl) _ [89, 91, 93, 95, 97, 99, 101, 103, 105, 107, 109, 111, 113] (by decide +kernel) (by decide +kernel))
theorem kinX1 : ∀ w ∈ wsX10, w ∈ k_ws := k_lay (goodIn_r (big := lw_tbl) _ [142, 144, 146, 148, 150] (by decide +kernel) (by decide +kernel))
theorem kinX2 : ∀ w ∈ wsX20, w ∈ k_ws := k_lay (goodIn_r (big := lw_tbl) _ [34, 36, 38] (by decide +kernel) (by decide +kernel))
theorem kinX3 : ∀ w ∈ wsX30, w ∈ k_ws := k_lay (goodIn_r (big := lw_tbl) _ [127, 129] (by decide +kernel) (by decide +kernel))
theorem kinX4 : ∀ w ∈ wsX40, w ∈ k_ws := k_lay (goodIn_r (big := lw_tbl) _ [52, 54] (by decide +kernel) (by decide +kernel))
theorem kinX5 : ∀ w ∈ wsX50, w ∈ k_ws := k_lay (goodIn_r (big := lw_tbl) _ [166, 168, 170, 172, 174, 176, 178, 180, 182, 184] (by decide +kernel) (by decide +kernel))
theorem kinX6 : ∀ w ∈ wsX60, w ∈ k_ws := k_lay (goodIn_r (big := lw_tbl) _ [195, 197, 199, 201, 203, 205, 207, 209, 211] (by decide +kernel) (by decide +kernel))
theorem kinX7 : ∀ w ∈ wsX70, w ∈ k_ws := k_lay (goodIn_r (big := lw_tbl) _ [] (by decide +kernel) (by decide +kernel))
end
section
/-! ===== k: a layer of own rows. 'KO .. pc L st σ o': from the machine state (pc, locals L, stack st, world σ) the method ends as o says, if o says anything ===== -/
-- pure words
def k_ng (n : Nat) : Int32 := -(nI n)
def k_gd {α : Type} (i : Int32) (n : Nat) (o : Option α) : Option α := if i < 0 ∨ n ≤ i.toNatClampNeg then none else o
def k_bn {α β : Type} (x : α) (k : α → β) : β := k x
def k_ob {α β γ : Type} (o : Option (α × β)) (k : α → β → Option γ) : Option γ := match o with | none => none | some a => k a.1 a.2
def k_mx (x y : Int32) : Int32 := if x < y then y else x
def k_z {α : Type} (x : Int32) (o : Option α) : Option α := if x = 0 then o else if x = 1 then o else none
def k_gc {α : Type} (sp dp n : Int32) (n0 n1 : Nat) (o : Option α) : Option α := if sp < 0 ∨ dp < 0 ∨ n < 0 ∨ n0 < sp.toNatClampNeg + n.toNatClampNeg ∨ n1 < dp.toNatClampNeg + n.toNatClampNeg then none else o
-- one room for numbers: fields by number, arrays by number
abbrev k_S : Type := (Nat → Int32) × (Nat → Nat → Int32)
def k_up {α : Type} (f : Nat → α) (k : Nat) (v : α) : Nat → α := fun j => if j = k then v else f j
def k_sf (σ : k_S) (k : Nat) (v : Int32) : k_S := (k_up σ.1 k v, σ.2)
def k_sA (σ : k_S) (a : Nat) (g : Nat → Int32) : k_S := (σ.1, k_up σ.2 a g)
def k_sa (σ : k_S) (a : Nat) (i v : Int32) : k_S := k_sA σ a (upd (σ.2 a) i.toNatClampNeg v)
def k_sc (σ : k_S) (a0 a1 : Nat) (sp dp n : Int32) : k_S := k_sA σ a1 (va_cpy (σ.2 a0) (σ.2 a1) sp.toNatClampNeg dp.toNatClampNeg n.toNatClampNeg)
-- the run of a method: all that stays the same while it runs
abbrev k_C : Type := (Program × Launch × Env × State × MethodId × Array Value) × (List Frame × Method × Code × va_G × ClassId × (Nat → Prop)) × Room
def k_p (X : k_C) : Program := X.1.1
def k_l (X : k_C) : Launch := X.1.2.1
def k_e (X : k_C) : Env := X.1.2.2.1
def k_s (X : k_C) : State := X.1.2.2.2.1
def k_m (X : k_C) : MethodId := X.1.2.2.2.2.1
def k_a (X : k_C) : Array Value := X.1.2.2.2.2.2
def k_b (X : k_C) : List Frame := X.2.1.1
def k_M (X : k_C) : Method := X.2.1.2.1
def k_c (X : k_C) : Code := X.2.1.2.2.1
def k_D (X : k_C) : va_G := X.2.1.2.2.2.1
def k_I (X : k_C) : ClassId := X.2.1.2.2.2.2.1
def k_A (X : k_C) : Nat → Prop := X.2.1.2.2.2.2.2
def k_R (X : k_C) : Room := X.2.2
-- a method: its room, code, number of locals, class, answer's type
abbrev k_Y : Type := Room × ByteArray × Nat × String × Option FieldType
def k_W (X : k_C) (H : Heap) (locs : List Loc) (kc ks : Nat) (Q : State → Prop) (g : JFrame) : Prop := W (k_p X) (k_l X) (k_e X) (k_R X) (k_s X) (k_m X) (k_a X) (k_b X) (k_M X) (k_c X) H locs kc ks Q g
-- the locals: what is held at each place, of one word each
def k_L (ls : Array Slot) (nL : Nat) (L : List (Option Value)) : Prop := ls.size = nL ∧ lv_wf ls ∧ ∀ (i : Nat) (v : Value), L[i]? = some (some v) → ls[i]? = some (.val v) ∧ v.category = 1
def k_same {S : Type} (cw : S → va_W) : Prop := ∀ (σ τ : S) (k : Nat) (q : Nat × va_E), (cw σ)[k]? = some q → ∃ e : va_E, (cw τ)[k]? = some (q.1, e)
def k_G {S : Type} (X : k_C) (Y : k_Y) (cw : S → va_W) : Prop :=
  (k_p X).tables.exec = Jvm.exec ∧ (k_c X).code = Y.2.1 ∧ (k_c X).maxLocals = Y.2.2.1 ∧ (k_s X).vm.findClass Y.2.2.2.1 = some (k_m X).cls ∧ (∀ w ∈ k_ws, w.before (k_a X) (k_s X) = true) ∧ va_K (k_D X) vwCl [(k_I X, .int)] (k_s X) ∧ (∀ q, (k_s X).heap.size ≤ q → k_A X q) ∧ (∀ σ, va_D (k_A X) (cw σ)) ∧ k_R X = Y.1 ∧ (k_M X).locks = false ∧ (k_M X).sig.returnType = Y.2.2.2.2
def KO {S Rt : Type} (X : k_C) (Y : k_Y) (cw : S → va_W) (kc ks : Nat) (Q : Rt → S → State → Prop) (pc : Nat) (L : List (Option Value)) (st : List Value) (σ : S) (o : Option (Rt × S)) : Prop :=
  k_G X Y cw → ∀ (r : Rt) (σ' : S), o = some (r, σ') → ∀ (H : Heap) (locs : List Loc) (ls : Array Slot), va_P (k_D X) vwCl (cw σ) H → va_S (k_A X) (k_s X).heap H locs → k_L ls Y.2.2.1 L → k_W X H locs kc ks (Q r σ') (F0 (k_m X) pc ls st)
def k_Q {S Rt : Type} (emb : Rt → Option Value) (X : k_C) (cw : S → va_W) (r : Rt) (σ' : S) : State → Prop :=
  MQ (k_b X) (fun _ st oc t => (oc = .returned (emb r) ∧ va_P (k_D X) vwCl (cw σ') t.heap) ∧ va_F (k_A X) st t) (k_a X) (k_s X) 0 0 (k_A X)
abbrev k_ei : Int32 → Option Value := fun r => some (.int r)
abbrev k_ev : Unit → Option Value := fun _ => none
abbrev k_el : Int64 → Option Value := fun r => some (.long r)
-- locals
theorem k_L.at {ls : Array Slot} {nL : Nat} {L : List (Option Value)} (h : k_L ls nL L) {i : Nat} {v : Value} (hi : L[i]? = some (some v)) : ls[i]? = some (.val v) := (h.2.2 i v hi).1
theorem k_pairs (L : List (Option Value)) (q : Nat × Value) : q ∈ (List.range L.length).filterMap (fun j => (L[j]?.join).map (fun v => (j, v))) ↔ L[q.1]? = some (some q.2) := by
  constructor
  · intro hq
    obtain ⟨j, -, hj⟩ := List.mem_filterMap.mp hq
    cases hL : L[j]? with
    | none => rw [hL] at hj; cases hj
    | some o =>
      rw [hL] at hj
      cases o with
      | none => cases hj
      | some v => cases hj; exact hL
  · intro hj
    exact List.mem_filterMap.mpr ⟨q.1, List.mem_range.mpr (List.getElem?_eq_some_iff.mp hj).1, by rw [hj]; rfl⟩
theorem k_L.of_has {ls ls' : Array Slot} {nL : Nat} {L : List (Option Value)} (h : k_L ls nL L) {i : Nat} {v : Value} (h2 : lv_has ls' nL ((i, v) :: ((List.range L.length).filterMap (fun j => (L[j]?.join).map (fun v => (j, v)))).filter (fun q => !(q.1 == i) && !(q.1 + 1 == i && q.2.category == 2)))) (hc : v.category = 1) : k_L ls' nL (L.set i (some v)) := by
  refine ⟨h2.1, h2.2.1, fun j w hj => ?_⟩
  by_cases hji : j = i
  · subst hji
    have hw : w = v := by
      rw [List.getElem?_set] at hj
      by_cases hlt : j < L.length
      · simp [hlt] at hj; exact hj.symm
      · simp [hlt] at hj
    subst hw
    exact ⟨h2.2.2 (j, w) List.mem_cons_self, hc⟩
  · rw [List.getElem?_set_ne (Ne.symm hji)] at hj
    have hcw := (h.2.2 j w hj).2
    refine ⟨h2.2.2 (j, w) (List.mem_cons_of_mem _ (List.mem_filter.mpr ⟨(k_pairs L (j, w)).mpr hj, ?_⟩)), hcw⟩
    simp [hji, hcw]
theorem k_L.fg {ls : Array Slot} {nL : Nat} {L : List (Option Value)} (i : Nat) (h : k_L ls nL L) : k_L ls nL (L.set i none) := by
  refine ⟨h.1, h.2.1, fun j w hj => h.2.2 j w ?_⟩
  by_cases hji : j = i
  · subst hji
    rw [List.getElem?_set] at hj
    by_cases hlt : j < L.length <;> simp [hlt] at hj
  · rwa [List.getElem?_set_ne (Ne.symm hji)] at hj
theorem k_L.entry (vs : List Value) {n : Nat} (h : vs.length ≤ n) (hc : ∀ v ∈ vs, v.category = 1) : k_L ((lg_sl vs ++ List.replicate (n - (lg_sl vs).length) Slot.unset).toArray) n (vs.map some ++ List.replicate (n - vs.length) none) := by
  have hsl : ∀ us : List Value, (∀ v ∈ us, v.category = 1) → lg_sl us = us.map Slot.val := by
    intro us
    induction us with
    | nil => intro _; rfl
    | cons u us ih =>
      intro hu
      have h1 : ¬ u.category = 2 := by rw [hu u List.mem_cons_self]; decide
      have h2 := ih (fun v hv => hu v (List.mem_cons_of_mem _ hv))
      show (if u.category = 2 then [Slot.val u, .second] else [.val u]) ++ lg_sl us = _
      rw [if_neg h1, h2]; rfl
  have e := hsl vs hc
  have hlen : (lg_sl vs).length = vs.length := by rw [e, List.length_map]
  have h0 := lv_entry vs (n := n) (by rw [hlen]; exact h)
  refine ⟨h0.1, h0.2.1, fun i v hi => ?_⟩
  have hlt : i < vs.length := by
    rcases Nat.lt_or_ge i vs.length with q | q
    · exact q
    · rw [List.getElem?_append_right (by simpa using q)] at hi
      simp [List.getElem?_replicate] at hi
  rw [List.getElem?_append_left (by simpa using hlt), List.getElem?_map] at hi
  cases hv : vs[i]? with
  | none => rw [hv] at hi; cases hi
  | some u =>
    rw [hv] at hi
    cases hi
    refine ⟨?_, hc v (List.mem_of_getElem? hv)⟩
    rw [e]
    rw [List.getElem?_toArray, List.getElem?_append_left (by simpa using hlt), List.getElem?_map, hv]
    rfl
section KR
variable {S Rt : Type} {X : k_C} {Y : k_Y} {cw : S → va_W} {kc ks : Nat} {Q : Rt → S → State → Prop} {pc pc' : Nat} {L L' : List (Option Value)} {st st' : List Value} {σ : S} {o o1 o2 : Option (Rt × S)}
theorem KO.lift (h : k_G X Y cw → ∀ (H : Heap) (locs : List Loc) (ls : Array Slot) (Q' : State → Prop), va_P (k_D X) vwCl (cw σ) H → va_S (k_A X) (k_s X).heap H locs → k_L ls Y.2.2.1 L → k_W X H locs kc ks Q' (F0 (k_m X) pc' ls st') → k_W X H locs kc ks Q' (F0 (k_m X) pc ls st)) (kk : KO X Y cw kc ks Q pc' L st' σ o) : KO X Y cw kc ks Q pc L st σ o :=
  fun g r σ' ho H locs ls hP hS hL => h g H locs ls _ hP hS hL (kk g r σ' ho H locs ls hP hS hL)
theorem KO.nil : KO X Y cw kc ks Q pc L st σ Option.none := fun _ _ _ ho => by cases ho
theorem KO.at (h : pc' = pc) (kk : KO X Y cw kc ks Q pc L st σ o) : KO X Y cw kc ks Q pc' L st σ o := h ▸ kk
theorem KO.fg (i : Nat) (kk : KO X Y cw kc ks Q pc (L.set i none) st σ o) : KO X Y cw kc ks Q pc L st σ o := fun g r σ' ho H locs ls hP hS hL => kk g r σ' ho H locs ls hP hS (hL.fg i)
theorem KO.ite {c : Prop} [Decidable c] (k1 : c → KO X Y cw kc ks Q pc L st σ o1) (k2 : ¬ c → KO X Y cw kc ks Q pc L st σ o2) : KO X Y cw kc ks Q pc L st σ (if c then o1 else o2) := by
  by_cases h : c
  · rw [if_pos h]; exact k1 h
  · rw [if_neg h]; exact k2 h
theorem k_iconst {n : Int} {v : Int32} (hd : decode Y.2.1 pc = .ok (.iconst n, 1)) (hv : Int32.ofInt n = v) (kk : KO X Y cw kc ks Q (pc + 1) L (.int v :: st) σ o) : KO X Y cw kc ks Q pc L st σ o :=
  kk.lift fun g _ _ _ _ _ _ _ k => lv_iconst g.1 g.2.1 hd hv k
theorem k_bipush {n : Int} {v : Int32} (hd : decode Y.2.1 pc = .ok (.bipush n, 2)) (hv : (Int8.ofInt n).toInt32 = v) (kk : KO X Y cw kc ks Q (pc + 2) L (.int v :: st) σ o) : KO X Y cw kc ks Q pc L st σ o :=
  kk.lift fun g _ _ _ _ _ _ _ k => lv_bipush g.1 g.2.1 hd hv k
theorem k_sipush {n : Int} {v : Int32} (hd : decode Y.2.1 pc = .ok (.sipush n, 3)) (hv : (Int16.ofInt n).toInt32 = v) (kk : KO X Y cw kc ks Q (pc + 3) L (.int v :: st) σ o) : KO X Y cw kc ks Q pc L st σ o :=
  kk.lift fun g _ _ _ _ _ _ _ k => lv_sipush g.1 g.2.1 hd hv k
theorem k_ldc2 {index : Nat} {v : Int64} (hw : Cond.constantLong Y.2.2.2.1 index v ∈ k_ws) (hd : decode Y.2.1 pc = .ok (.ldc2_w index, 3)) (kk : KO X Y cw kc ks Q (pc + 3) L (.long v :: st) σ o) : KO X Y cw kc ks Q pc L st σ o :=
  kk.lift fun g _ _ _ _ _ _ _ k => lv_ldc2 g.1 g.2.1 g.2.2.2.1 (g.2.2.2.2.1 _ hw) hd k
theorem k_iload_n {i : Fin 4} {x : Int32} (hd : decode Y.2.1 pc = .ok (.iload_n i, 1)) (hL : L[(i : Nat)]? = some (some (.int x))) (kk : KO X Y cw kc ks Q (pc + 1) L (.int x :: st) σ o) : KO X Y cw kc ks Q pc L st σ o :=
  kk.lift fun g _ _ _ _ _ _ h k => lv_iload_n g.1 g.2.1 hd rfl (h.at hL) k
theorem k_iload {i : Nat} {x : Int32} (hd : decode Y.2.1 pc = .ok (.iload i, 2)) (hL : L[i]? = some (some (.int x))) (kk : KO X Y cw kc ks Q (pc + 2) L (.int x :: st) σ o) : KO X Y cw kc ks Q pc L st σ o :=
  kk.lift fun g _ _ _ _ _ _ h k => lv_iload g.1 g.2.1 hd (h.at hL) k
theorem k_aload_n {i : Fin 4} {x : Nat} (hd : decode Y.2.1 pc = .ok (.aload_n i, 1)) (hL : L[(i : Nat)]? = some (some (.ref x))) (kk : KO X Y cw kc ks Q (pc + 1) L (.ref x :: st) σ o) : KO X Y cw kc ks Q pc L st σ o :=
  kk.lift fun g _ _ _ _ _ _ h k => lv_aload_n g.1 g.2.1 hd rfl (h.at hL) k
theorem k_aload {i : Nat} {x : Nat} (hd : decode Y.2.1 pc = .ok (.aload i, 2)) (hL : L[i]? = some (some (.ref x))) (kk : KO X Y cw kc ks Q (pc + 2) L (.ref x :: st) σ o) : KO X Y cw kc ks Q pc L st σ o :=
  kk.lift fun g _ _ _ _ _ _ h k => lv_aload g.1 g.2.1 hd (h.at hL) k
theorem k_iadd {x y : Int32} (hd : decode Y.2.1 pc = .ok (.iadd, 1)) (kk : KO X Y cw kc ks Q (pc + 1) L (.int (x + y) :: st) σ o) : KO X Y cw kc ks Q pc L (.int y :: .int x :: st) σ o :=
  kk.lift fun g _ _ _ _ _ _ _ k => lv_iadd g.1 g.2.1 hd k
theorem k_isub {x y : Int32} (hd : decode Y.2.1 pc = .ok (.isub, 1)) (kk : KO X Y cw kc ks Q (pc + 1) L (.int (x - y) :: st) σ o) : KO X Y cw kc ks Q pc L (.int y :: .int x :: st) σ o :=
  kk.lift fun g _ _ _ _ _ _ _ k => lv_isub g.1 g.2.1 hd k
theorem k_imul {x y : Int32} (hd : decode Y.2.1 pc = .ok (.imul, 1)) (kk : KO X Y cw kc ks Q (pc + 1) L (.int (x * y) :: st) σ o) : KO X Y cw kc ks Q pc L (.int y :: .int x :: st) σ o :=
  kk.lift fun g _ _ _ _ _ _ _ k => lv_imul g.1 g.2.1 hd k
theorem k_iand {x y : Int32} (hd : decode Y.2.1 pc = .ok (.iand, 1)) (kk : KO X Y cw kc ks Q (pc + 1) L (.int (x &&& y) :: st) σ o) : KO X Y cw kc ks Q pc L (.int y :: .int x :: st) σ o :=
  kk.lift fun g _ _ _ _ _ _ _ k => lv_iand g.1 g.2.1 hd k
theorem k_ior {x y : Int32} (hd : decode Y.2.1 pc = .ok (.ior, 1)) (kk : KO X Y cw kc ks Q (pc + 1) L (.int (x ||| y) :: st) σ o) : KO X Y cw kc ks Q pc L (.int y :: .int x :: st) σ o :=
  kk.lift fun g _ _ _ _ _ _ _ k => lv_ior g.1 g.2.1 hd k
theorem k_ishl {x y : Int32} (hd : decode Y.2.1 pc = .ok (.ishl, 1)) (kk : KO X Y cw kc ks Q (pc + 1) L (.int (x <<< (y &&& 31)) :: st) σ o) : KO X Y cw kc ks Q pc L (.int y :: .int x :: st) σ o :=
  kk.lift fun g _ _ _ _ _ _ _ k => lv_ishl g.1 g.2.1 hd k
theorem k_idiv {x y : Int32} (hd : decode Y.2.1 pc = .ok (.idiv, 1)) (hne : ¬ y = 0) (kk : KO X Y cw kc ks Q (pc + 1) L (.int (x / y) :: st) σ o) : KO X Y cw kc ks Q pc L (.int y :: .int x :: st) σ o :=
  kk.lift fun g _ _ _ _ _ _ _ k => lv_idiv g.1 g.2.1 hd hne k
theorem k_irem {x y : Int32} (hd : decode Y.2.1 pc = .ok (.irem, 1)) (hne : ¬ y = 0) (kk : KO X Y cw kc ks Q (pc + 1) L (.int (x - x / y * y) :: st) σ o) : KO X Y cw kc ks Q pc L (.int y :: .int x :: st) σ o :=
  kk.lift fun g _ _ _ _ _ _ _ k => lv_irem g.1 g.2.1 hd hne k
theorem k_i2l {x : Int32} (hd : decode Y.2.1 pc = .ok (.i2l, 1)) (kk : KO X Y cw kc ks Q (pc + 1) L (.long x.toInt64 :: st) σ o) : KO X Y cw kc ks Q pc L (.int x :: st) σ o :=
  kk.lift fun g _ _ _ _ _ _ _ k => lv_i2l g.1 g.2.1 hd rfl k
theorem k_i2b {x : Int32} (hd : decode Y.2.1 pc = .ok (.i2b, 1)) (kk : KO X Y cw kc ks Q (pc + 1) L (.int x.toInt8.toInt32 :: st) σ o) : KO X Y cw kc ks Q pc L (.int x :: st) σ o :=
  kk.lift fun g _ _ _ _ _ _ _ k => lv_i2b g.1 g.2.1 hd rfl k
theorem k_i2s {x : Int32} (hd : decode Y.2.1 pc = .ok (.i2s, 1)) (kk : KO X Y cw kc ks Q (pc + 1) L (.int x.toInt16.toInt32 :: st) σ o) : KO X Y cw kc ks Q pc L (.int x :: st) σ o :=
  kk.lift fun g _ _ _ _ _ _ _ k => lv_i2s g.1 g.2.1 hd rfl k
theorem k_dup {a : Value} (hd : decode Y.2.1 pc = .ok (.dup, 1)) (hc : a.category = 1) (kk : KO X Y cw kc ks Q (pc + 1) L (a :: a :: st) σ o) : KO X Y cw kc ks Q pc L (a :: st) σ o :=
  kk.lift fun g _ _ _ _ _ _ _ k => lv_dup g.1 g.2.1 hd hc k
theorem k_dup2 {a b : Value} (hd : decode Y.2.1 pc = .ok (.dup2, 1)) (hc : a.category = 1) (hc2 : b.category = 1) (kk : KO X Y cw kc ks Q (pc + 1) L (a :: b :: a :: b :: st) σ o) : KO X Y cw kc ks Q pc L (a :: b :: st) σ o :=
  kk.lift fun g _ _ _ _ _ _ _ k => lv_dup2_11 g.1 g.2.1 hd hc hc2 k
theorem k_lcmp {x y : Int64} (hd : decode Y.2.1 pc = .ok (.lcmp, 1)) (kk : KO X Y cw kc ks Q (pc + 1) L (.int (lg_cmp x y) :: st) σ o) : KO X Y cw kc ks Q pc L (.long y :: .long x :: st) σ o :=
  kk.lift fun g _ _ _ _ _ _ _ k => W.lcmp g.1 g.2.1 hd k
theorem k_goto {off : Int} (tgt : Nat) (hd : decode Y.2.1 pc = .ok (.goto off, 3)) (ht : (pc : Int) + off = (tgt : Int)) (kk : KO X Y cw kc ks Q tgt L st σ o) : KO X Y cw kc ks Q pc L st σ o :=
  kk.lift fun g _ _ _ _ _ _ _ k => lv_goto g.1 g.2.1 hd ht k
end KR
end
section
/-! ===== k, second part: branches, stores, fields, arrays, ends (by program: wip/gen30/k2.py) ===== -/
section KR2
variable {S Rt : Type} {X : k_C} {Y : k_Y} {cw : S → va_W} {kc ks : Nat} {Q : Rt → S → State → Prop} {pc pc' : Nat} {L L' : List (Option Value)} {st st' : List Value} {σ : S} {o o1 o2 : Option (Rt × S)}
theorem k_if_eq {x : Int32} {off : Int} (tgt : Nat) (hd : decode Y.2.1 pc = .ok (.ifCond .eq off, 3)) (ht : (pc : Int) + off = (tgt : Int)) (kt : KO X Y cw kc ks Q tgt L st σ o1) (kf : KO X Y cw kc ks Q (pc + 3) L st σ o2) : KO X Y cw kc ks Q pc L (.int x :: st) σ (if x = 0 then o1 else o2) := by
  intro g r σ' ho H locs ls hP hS hL
  by_cases hc : x = 0
  · rw [if_pos hc] at ho
    exact lv_if_eq g.1 g.2.1 hd ht (fun _ => kt g r σ' ho H locs ls hP hS hL) (fun q => absurd hc q)
  · rw [if_neg hc] at ho
    exact lv_if_eq g.1 g.2.1 hd ht (fun q => absurd q hc) (fun _ => kf g r σ' ho H locs ls hP hS hL)
theorem k_if_ne {x : Int32} {off : Int} (tgt : Nat) (hd : decode Y.2.1 pc = .ok (.ifCond .ne off, 3)) (ht : (pc : Int) + off = (tgt : Int)) (kt : KO X Y cw kc ks Q tgt L st σ o1) (kf : KO X Y cw kc ks Q (pc + 3) L st σ o2) : KO X Y cw kc ks Q pc L (.int x :: st) σ (if x = 0 then o2 else o1) := by
  intro g r σ' ho H locs ls hP hS hL
  by_cases hc : x = 0
  · rw [if_pos hc] at ho
    exact lv_if_ne g.1 g.2.1 hd ht (fun q => absurd hc q) (fun _ => kf g r σ' ho H locs ls hP hS hL)
  · rw [if_neg hc] at ho
    exact lv_if_ne g.1 g.2.1 hd ht (fun _ => kt g r σ' ho H locs ls hP hS hL) (fun q => absurd q hc)
theorem k_if_lt {x : Int32} {off : Int} (tgt : Nat) (hd : decode Y.2.1 pc = .ok (.ifCond .lt off, 3)) (ht : (pc : Int) + off = (tgt : Int)) (kt : KO X Y cw kc ks Q tgt L st σ o1) (kf : KO X Y cw kc ks Q (pc + 3) L st σ o2) : KO X Y cw kc ks Q pc L (.int x :: st) σ (if x < 0 then o1 else o2) := by
  intro g r σ' ho H locs ls hP hS hL
  by_cases hc : x < 0
  · rw [if_pos hc] at ho
    exact lv_if_lt g.1 g.2.1 hd ht (fun _ => kt g r σ' ho H locs ls hP hS hL) (fun q => absurd hc q)
  · rw [if_neg hc] at ho
    exact lv_if_lt g.1 g.2.1 hd ht (fun q => absurd q hc) (fun _ => kf g r σ' ho H locs ls hP hS hL)
theorem k_if_ge {x : Int32} {off : Int} (tgt : Nat) (hd : decode Y.2.1 pc = .ok (.ifCond .ge off, 3)) (ht : (pc : Int) + off = (tgt : Int)) (kt : KO X Y cw kc ks Q tgt L st σ o1) (kf : KO X Y cw kc ks Q (pc + 3) L st σ o2) : KO X Y cw kc ks Q pc L (.int x :: st) σ (if x < 0 then o2 else o1) := by
  intro g r σ' ho H locs ls hP hS hL
  by_cases hc : x < 0
  · rw [if_pos hc] at ho
    exact lv_if_ge g.1 g.2.1 hd ht (fun q => absurd hc (Int32.not_lt.mpr q)) (fun _ => kf g r σ' ho H locs ls hP hS hL)
  · rw [if_neg hc] at ho
    exact lv_if_ge g.1 g.2.1 hd ht (fun _ => kt g r σ' ho H locs ls hP hS hL) (fun q => absurd (Int32.not_le.mp q) hc)
theorem k_if_gt {x : Int32} {off : Int} (tgt : Nat) (hd : decode Y.2.1 pc = .ok (.ifCond .gt off, 3)) (ht : (pc : Int) + off = (tgt : Int)) (kt : KO X Y cw kc ks Q tgt L st σ o1) (kf : KO X Y cw kc ks Q (pc + 3) L st σ o2) : KO X Y cw kc ks Q pc L (.int x :: st) σ (if 0 < x then o1 else o2) := by
  intro g r σ' ho H locs ls hP hS hL
  by_cases hc : 0 < x
  · rw [if_pos hc] at ho
    exact lv_if_gt g.1 g.2.1 hd ht (fun _ => kt g r σ' ho H locs ls hP hS hL) (fun q => absurd hc q)
  · rw [if_neg hc] at ho
    exact lv_if_gt g.1 g.2.1 hd ht (fun q => absurd q hc) (fun _ => kf g r σ' ho H locs ls hP hS hL)
theorem k_if_le {x : Int32} {off : Int} (tgt : Nat) (hd : decode Y.2.1 pc = .ok (.ifCond .le off, 3)) (ht : (pc : Int) + off = (tgt : Int)) (kt : KO X Y cw kc ks Q tgt L st σ o1) (kf : KO X Y cw kc ks Q (pc + 3) L st σ o2) : KO X Y cw kc ks Q pc L (.int x :: st) σ (if 0 < x then o2 else o1) := by
  intro g r σ' ho H locs ls hP hS hL
  by_cases hc : 0 < x
  · rw [if_pos hc] at ho
    exact lv_if_le g.1 g.2.1 hd ht (fun q => absurd hc (Int32.not_lt.mpr q)) (fun _ => kf g r σ' ho H locs ls hP hS hL)
  · rw [if_neg hc] at ho
    exact lv_if_le g.1 g.2.1 hd ht (fun _ => kt g r σ' ho H locs ls hP hS hL) (fun q => absurd (Int32.not_le.mp q) hc)
theorem k_icmp_eq {x y : Int32} {off : Int} (tgt : Nat) (hd : decode Y.2.1 pc = .ok (.if_icmp .eq off, 3)) (ht : (pc : Int) + off = (tgt : Int)) (kt : KO X Y cw kc ks Q tgt L st σ o1) (kf : KO X Y cw kc ks Q (pc + 3) L st σ o2) : KO X Y cw kc ks Q pc L (.int y :: .int x :: st) σ (if x = y then o1 else o2) := by
  intro g r σ' ho H locs ls hP hS hL
  by_cases hc : x = y
  · rw [if_pos hc] at ho
    exact lv_icmp_eq g.1 g.2.1 hd ht (fun _ => kt g r σ' ho H locs ls hP hS hL) (fun q => absurd hc q)
  · rw [if_neg hc] at ho
    exact lv_icmp_eq g.1 g.2.1 hd ht (fun q => absurd q hc) (fun _ => kf g r σ' ho H locs ls hP hS hL)
theorem k_icmp_ne {x y : Int32} {off : Int} (tgt : Nat) (hd : decode Y.2.1 pc = .ok (.if_icmp .ne off, 3)) (ht : (pc : Int) + off = (tgt : Int)) (kt : KO X Y cw kc ks Q tgt L st σ o1) (kf : KO X Y cw kc ks Q (pc + 3) L st σ o2) : KO X Y cw kc ks Q pc L (.int y :: .int x :: st) σ (if x = y then o2 else o1) := by
  intro g r σ' ho H locs ls hP hS hL
  by_cases hc : x = y
  · rw [if_pos hc] at ho
    exact lv_icmp_ne g.1 g.2.1 hd ht (fun q => absurd hc q) (fun _ => kf g r σ' ho H locs ls hP hS hL)
  · rw [if_neg hc] at ho
    exact lv_icmp_ne g.1 g.2.1 hd ht (fun _ => kt g r σ' ho H locs ls hP hS hL) (fun q => absurd q hc)
theorem k_icmp_lt {x y : Int32} {off : Int} (tgt : Nat) (hd : decode Y.2.1 pc = .ok (.if_icmp .lt off, 3)) (ht : (pc : Int) + off = (tgt : Int)) (kt : KO X Y cw kc ks Q tgt L st σ o1) (kf : KO X Y cw kc ks Q (pc + 3) L st σ o2) : KO X Y cw kc ks Q pc L (.int y :: .int x :: st) σ (if x < y then o1 else o2) := by
  intro g r σ' ho H locs ls hP hS hL
  by_cases hc : x < y
  · rw [if_pos hc] at ho
    exact lv_icmp_lt g.1 g.2.1 hd ht (fun _ => kt g r σ' ho H locs ls hP hS hL) (fun q => absurd hc q)
  · rw [if_neg hc] at ho
    exact lv_icmp_lt g.1 g.2.1 hd ht (fun q => absurd q hc) (fun _ => kf g r σ' ho H locs ls hP hS hL)
theorem k_icmp_ge {x y : Int32} {off : Int} (tgt : Nat) (hd : decode Y.2.1 pc = .ok (.if_icmp .ge off, 3)) (ht : (pc : Int) + off = (tgt : Int)) (kt : KO X Y cw kc ks Q tgt L st σ o1) (kf : KO X Y cw kc ks Q (pc + 3) L st σ o2) : KO X Y cw kc ks Q pc L (.int y :: .int x :: st) σ (if x < y then o2 else o1) := by
  intro g r σ' ho H locs ls hP hS hL
  by_cases hc : x < y
  · rw [if_pos hc] at ho
    exact lv_icmp_ge g.1 g.2.1 hd ht (fun q => absurd hc (Int32.not_lt.mpr q)) (fun _ => kf g r σ' ho H locs ls hP hS hL)
  · rw [if_neg hc] at ho
    exact lv_icmp_ge g.1 g.2.1 hd ht (fun _ => kt g r σ' ho H locs ls hP hS hL) (fun q => absurd (Int32.not_le.mp q) hc)
theorem k_icmp_gt {x y : Int32} {off : Int} (tgt : Nat) (hd : decode Y.2.1 pc = .ok (.if_icmp .gt off, 3)) (ht : (pc : Int) + off = (tgt : Int)) (kt : KO X Y cw kc ks Q tgt L st σ o1) (kf : KO X Y cw kc ks Q (pc + 3) L st σ o2) : KO X Y cw kc ks Q pc L (.int y :: .int x :: st) σ (if y < x then o1 else o2) := by
  intro g r σ' ho H locs ls hP hS hL
  by_cases hc : y < x
  · rw [if_pos hc] at ho
    exact lv_icmp_gt g.1 g.2.1 hd ht (fun _ => kt g r σ' ho H locs ls hP hS hL) (fun q => absurd hc q)
  · rw [if_neg hc] at ho
    exact lv_icmp_gt g.1 g.2.1 hd ht (fun q => absurd q hc) (fun _ => kf g r σ' ho H locs ls hP hS hL)
theorem k_icmp_le {x y : Int32} {off : Int} (tgt : Nat) (hd : decode Y.2.1 pc = .ok (.if_icmp .le off, 3)) (ht : (pc : Int) + off = (tgt : Int)) (kt : KO X Y cw kc ks Q tgt L st σ o1) (kf : KO X Y cw kc ks Q (pc + 3) L st σ o2) : KO X Y cw kc ks Q pc L (.int y :: .int x :: st) σ (if y < x then o2 else o1) := by
  intro g r σ' ho H locs ls hP hS hL
  by_cases hc : y < x
  · rw [if_pos hc] at ho
    exact lv_icmp_le g.1 g.2.1 hd ht (fun q => absurd hc (Int32.not_lt.mpr q)) (fun _ => kf g r σ' ho H locs ls hP hS hL)
  · rw [if_neg hc] at ho
    exact lv_icmp_le g.1 g.2.1 hd ht (fun _ => kt g r σ' ho H locs ls hP hS hL) (fun q => absurd (Int32.not_le.mp q) hc)
theorem k_lookup {dflt : Int} {ps : Array (Int × Int)} {len : Nat} {x : Int32} {off : Int} (tgt : Nat) (hd : decode Y.2.1 pc = .ok (.lookupswitch dflt ps, len)) (hp : (ps.toList.zip (ps.toList.drop 1)).all (fun (a, next) => a.1 < next.1) = true) (ho : Op.lookupswitch.offset ps.toList dflt x.toInt = off) (ht : (pc : Int) + off = (tgt : Int)) (kk : KO X Y cw kc ks Q tgt L st σ o) : KO X Y cw kc ks Q pc L (.int x :: st) σ o :=
  kk.lift fun g _ _ _ _ _ _ _ k => lv_lookup g.1 g.2.1 hd hp ho ht k
theorem k_tableOut {dflt lo hi : Int} {offs : Array Int} {len : Nat} {x : Int32} (tgt : Nat) (hd : decode Y.2.1 pc = .ok (.tableswitch dflt lo hi offs, len)) (h : x.toInt < lo ∨ hi < x.toInt) (ht : (pc : Int) + dflt = (tgt : Int)) (kk : KO X Y cw kc ks Q tgt L st σ o) : KO X Y cw kc ks Q pc L (.int x :: st) σ o :=
  kk.lift fun g _ _ _ _ _ _ _ k => lv_tableOut g.1 g.2.1 hd h ht k
theorem k_tableIn {dflt lo hi : Int} {offs : Array Int} {len : Nat} {x v : Int32} {off : Int} (tgt : Nat) (hd : decode Y.2.1 pc = .ok (.tableswitch dflt lo hi offs, len)) (hx : x = v) (h1 : lo ≤ v.toInt) (h2 : v.toInt ≤ hi) (ho : offs[(v.toInt - lo).toNat]? = some off) (ht : (pc : Int) + off = (tgt : Int)) (kk : KO X Y cw kc ks Q tgt L st σ o) : KO X Y cw kc ks Q pc L (.int x :: st) σ o := by
  subst hx
  exact kk.lift fun g _ _ _ _ _ _ _ k => lv_tableIn g.1 g.2.1 hd (by omega) (by omega) ho ht k
theorem k_set (i : Nat) {v : Value} {pc' : Nat} {k : Rt → S → State → Prop} (hi : i < Y.2.2.1) (hc : v.category = 1) (hst : k_G X Y cw → ∀ (H : Heap) (locs : List Loc) (ls : Array Slot) (Q' : State → Prop), k_L ls Y.2.2.1 L → (∀ ls' : Array Slot, k_L ls' Y.2.2.1 (L.set i (some v)) → k_W X H locs kc ks Q' (F0 (k_m X) pc' ls' st')) → k_W X H locs kc ks Q' (F0 (k_m X) pc ls st)) (kk : KO X Y cw kc ks Q pc' (L.set i (some v)) st' σ o) : KO X Y cw kc ks Q pc L st σ o :=
  fun g r σ' ho H locs ls hP hS hL => hst g H locs ls _ hL (fun ls' hL' => kk g r σ' ho H locs ls' hP hS hL')
theorem k_istG (i : Nat) {x : Int32} (hd : (∃ k : Fin 4, decode Y.2.1 pc = .ok (.istore_n k, 1) ∧ (k : Nat) = i ∧ pc' = pc + 1) ∨ (decode Y.2.1 pc = .ok (.istore i, 2) ∧ pc' = pc + 2)) (hi : i < Y.2.2.1) (kk : KO X Y cw kc ks Q pc' (L.set i (some (.int x))) st σ o) : KO X Y cw kc ks Q pc L (.int x :: st) σ o := by
  intro g r σ' ho H locs ls hP hS hL
  let l : List (Nat × Value) := (List.range L.length).filterMap (fun j => (L[j]?.join).map (fun v => (j, v)))
  have hm : ∀ q : Nat × Value, q ∈ l ↔ L[q.1]? = some (some q.2) := k_pairs L
  have hl : lv_has ls Y.2.2.1 l := ⟨hL.1, hL.2.1, fun q hq => (hL.2.2 _ _ ((hm q).mp hq)).1⟩
  have fin : ∀ ls' : Array Slot, lv_has ls' Y.2.2.1 ((i, Value.int x) :: l.filter (fun q => !(q.1 == i) && !(q.1 + 1 == i && q.2.category == 2))) → k_W X H locs kc ks (Q r σ') (F0 (k_m X) pc' ls' st) := fun ls' h2 => kk g r σ' ho H locs ls' hP hS (k_L.of_has hL h2 rfl)
  rcases hd with ⟨k, hd, hk, rfl⟩ | ⟨hd, rfl⟩
  · exact lv_istore_n g.1 g.2.1 hd hk hl hi rfl fin
  · exact lv_istore g.1 g.2.1 hd hl hi rfl fin
theorem k_astG (i : Nat) {x : Nat} (hd : ∃ k : Fin 4, decode Y.2.1 pc = .ok (.astore_n k, 1) ∧ (k : Nat) = i) (hi : i < Y.2.2.1) (kk : KO X Y cw kc ks Q (pc + 1) (L.set i (some (.ref x))) st σ o) : KO X Y cw kc ks Q pc L (.ref x :: st) σ o := by
  intro g r σ' ho H locs ls hP hS hL
  let l : List (Nat × Value) := (List.range L.length).filterMap (fun j => (L[j]?.join).map (fun v => (j, v)))
  have hm : ∀ q : Nat × Value, q ∈ l ↔ L[q.1]? = some (some q.2) := k_pairs L
  have hl : lv_has ls Y.2.2.1 l := ⟨hL.1, hL.2.1, fun q hq => (hL.2.2 _ _ ((hm q).mp hq)).1⟩
  have fin : ∀ ls' : Array Slot, lv_has ls' Y.2.2.1 ((i, Value.ref x) :: l.filter (fun q => !(q.1 == i) && !(q.1 + 1 == i && q.2.category == 2))) → k_W X H locs kc ks (Q r σ') (F0 (k_m X) (pc + 1) ls' st) := fun ls' h2 => kk g r σ' ho H locs ls' hP hS (k_L.of_has hL h2 rfl)
  obtain ⟨k, hd, hk⟩ := hd
  exact lv_astore_n g.1 g.2.1 hd hk hl hi rfl fin
theorem k_iincG (i : Nat) {n : Int} {x v : Int32} (hd : decode Y.2.1 pc = .ok (.iinc i n, 3)) (hx : L[i]? = some (some (.int x))) (hv : x + Int32.ofInt n = v) (hi : i < Y.2.2.1) (kk : KO X Y cw kc ks Q (pc + 3) (L.set i (some (.int v))) st σ o) : KO X Y cw kc ks Q pc L st σ o := by
  intro g r σ' ho H locs ls hP hS hL
  let l : List (Nat × Value) := (List.range L.length).filterMap (fun j => (L[j]?.join).map (fun v => (j, v)))
  have hm : ∀ q : Nat × Value, q ∈ l ↔ L[q.1]? = some (some q.2) := k_pairs L
  have hl : lv_has ls Y.2.2.1 l := ⟨hL.1, hL.2.1, fun q hq => (hL.2.2 _ _ ((hm q).mp hq)).1⟩
  obtain ⟨k, hk⟩ := List.getElem?_of_mem ((hm (i, .int x)).mpr hx)
  exact lv_iinc g.1 g.2.1 hd hl hk hv hi rfl fun ls' h2 => kk g r σ' ho H locs ls' hP hS (k_L.of_has hL h2 rfl)
theorem k_ist0 {a0 : Option Value} {x : Int32} {k : Int32 → Option (Rt × S)} (hd : decode Y.2.1 pc = .ok (.istore_n 0, 1)) (hi : 0 < Y.2.2.1) (kk : ∀ x' : Int32, KO X Y cw kc ks Q (pc + 1) (some (.int x') :: L) st σ (k x')) : KO X Y cw kc ks Q pc (a0 :: L) (.int x :: st) σ (k_bn x k) := k_istG 0 (.inl ⟨0, hd, rfl, rfl⟩) hi (kk x)
theorem k_iinc0 {a : Option Value} {n : Int} {x w : Int32} {k : Int32 → Option (Rt × S)} (hd : decode Y.2.1 pc = .ok (.iinc 0 n, 3)) (ha : a = some (.int x)) (hw : Int32.ofInt n = w) (hi : 0 < Y.2.2.1) (kk : ∀ x' : Int32, KO X Y cw kc ks Q (pc + 3) (some (.int x') :: L) st σ (k x')) : KO X Y cw kc ks Q pc (a :: L) st σ (k_bn (x + w) k) := by
  subst ha hw
  exact k_iincG 0 hd rfl rfl hi (kk _)
theorem k_fg0 {a0 : Option Value} (kk : KO X Y cw kc ks Q pc (none :: L) st σ o) : KO X Y cw kc ks Q pc (a0 :: L) st σ o := KO.fg 0 kk
theorem k_ist1 {a0 a1 : Option Value} {x : Int32} {k : Int32 → Option (Rt × S)} (hd : decode Y.2.1 pc = .ok (.istore_n 1, 1)) (hi : 1 < Y.2.2.1) (kk : ∀ x' : Int32, KO X Y cw kc ks Q (pc + 1) (a0 :: some (.int x') :: L) st σ (k x')) : KO X Y cw kc ks Q pc (a0 :: a1 :: L) (.int x :: st) σ (k_bn x k) := k_istG 1 (.inl ⟨1, hd, rfl, rfl⟩) hi (kk x)
theorem k_iinc1 {a0 a : Option Value} {n : Int} {x w : Int32} {k : Int32 → Option (Rt × S)} (hd : decode Y.2.1 pc = .ok (.iinc 1 n, 3)) (ha : a = some (.int x)) (hw : Int32.ofInt n = w) (hi : 1 < Y.2.2.1) (kk : ∀ x' : Int32, KO X Y cw kc ks Q (pc + 3) (a0 :: some (.int x') :: L) st σ (k x')) : KO X Y cw kc ks Q pc (a0 :: a :: L) st σ (k_bn (x + w) k) := by
  subst ha hw
  exact k_iincG 1 hd rfl rfl hi (kk _)
theorem k_fg1 {a0 a1 : Option Value} (kk : KO X Y cw kc ks Q pc (a0 :: none :: L) st σ o) : KO X Y cw kc ks Q pc (a0 :: a1 :: L) st σ o := KO.fg 1 kk
theorem k_ist2 {a0 a1 a2 : Option Value} {x : Int32} {k : Int32 → Option (Rt × S)} (hd : decode Y.2.1 pc = .ok (.istore_n 2, 1)) (hi : 2 < Y.2.2.1) (kk : ∀ x' : Int32, KO X Y cw kc ks Q (pc + 1) (a0 :: a1 :: some (.int x') :: L) st σ (k x')) : KO X Y cw kc ks Q pc (a0 :: a1 :: a2 :: L) (.int x :: st) σ (k_bn x k) := k_istG 2 (.inl ⟨2, hd, rfl, rfl⟩) hi (kk x)
theorem k_iinc2 {a0 a1 a : Option Value} {n : Int} {x w : Int32} {k : Int32 → Option (Rt × S)} (hd : decode Y.2.1 pc = .ok (.iinc 2 n, 3)) (ha : a = some (.int x)) (hw : Int32.ofInt n = w) (hi : 2 < Y.2.2.1) (kk : ∀ x' : Int32, KO X Y cw kc ks Q (pc + 3) (a0 :: a1 :: some (.int x') :: L) st σ (k x')) : KO X Y cw kc ks Q pc (a0 :: a1 :: a :: L) st σ (k_bn (x + w) k) := by
  subst ha hw
  exact k_iincG 2 hd rfl rfl hi (kk _)
theorem k_fg2 {a0 a1 a2 : Option Value} (kk : KO X Y cw kc ks Q pc (a0 :: a1 :: none :: L) st σ o) : KO X Y cw kc ks Q pc (a0 :: a1 :: a2 :: L) st σ o := KO.fg 2 kk
theorem k_ist3 {a0 a1 a2 a3 : Option Value} {x : Int32} {k : Int32 → Option (Rt × S)} (hd : decode Y.2.1 pc = .ok (.istore_n 3, 1)) (hi : 3 < Y.2.2.1) (kk : ∀ x' : Int32, KO X Y cw kc ks Q (pc + 1) (a0 :: a1 :: a2 :: some (.int x') :: L) st σ (k x')) : KO X Y cw kc ks Q pc (a0 :: a1 :: a2 :: a3 :: L) (.int x :: st) σ (k_bn x k) := k_istG 3 (.inl ⟨3, hd, rfl, rfl⟩) hi (kk x)
theorem k_iinc3 {a0 a1 a2 a : Option Value} {n : Int} {x w : Int32} {k : Int32 → Option (Rt × S)} (hd : decode Y.2.1 pc = .ok (.iinc 3 n, 3)) (ha : a = some (.int x)) (hw : Int32.ofInt n = w) (hi : 3 < Y.2.2.1) (kk : ∀ x' : Int32, KO X Y cw kc ks Q (pc + 3) (a0 :: a1 :: a2 :: some (.int x') :: L) st σ (k x')) : KO X Y cw kc ks Q pc (a0 :: a1 :: a2 :: a :: L) st σ (k_bn (x + w) k) := by
  subst ha hw
  exact k_iincG 3 hd rfl rfl hi (kk _)
theorem k_fg3 {a0 a1 a2 a3 : Option Value} (kk : KO X Y cw kc ks Q pc (a0 :: a1 :: a2 :: none :: L) st σ o) : KO X Y cw kc ks Q pc (a0 :: a1 :: a2 :: a3 :: L) st σ o := KO.fg 3 kk
theorem k_ist4 {a0 a1 a2 a3 a4 : Option Value} {x : Int32} {k : Int32 → Option (Rt × S)} (hd : decode Y.2.1 pc = .ok (.istore 4, 2)) (hi : 4 < Y.2.2.1) (kk : ∀ x' : Int32, KO X Y cw kc ks Q (pc + 2) (a0 :: a1 :: a2 :: a3 :: some (.int x') :: L) st σ (k x')) : KO X Y cw kc ks Q pc (a0 :: a1 :: a2 :: a3 :: a4 :: L) (.int x :: st) σ (k_bn x k) := k_istG 4 (.inr ⟨hd, rfl⟩) hi (kk x)
theorem k_iinc4 {a0 a1 a2 a3 a : Option Value} {n : Int} {x w : Int32} {k : Int32 → Option (Rt × S)} (hd : decode Y.2.1 pc = .ok (.iinc 4 n, 3)) (ha : a = some (.int x)) (hw : Int32.ofInt n = w) (hi : 4 < Y.2.2.1) (kk : ∀ x' : Int32, KO X Y cw kc ks Q (pc + 3) (a0 :: a1 :: a2 :: a3 :: some (.int x') :: L) st σ (k x')) : KO X Y cw kc ks Q pc (a0 :: a1 :: a2 :: a3 :: a :: L) st σ (k_bn (x + w) k) := by
  subst ha hw
  exact k_iincG 4 hd rfl rfl hi (kk _)
theorem k_fg4 {a0 a1 a2 a3 a4 : Option Value} (kk : KO X Y cw kc ks Q pc (a0 :: a1 :: a2 :: a3 :: none :: L) st σ o) : KO X Y cw kc ks Q pc (a0 :: a1 :: a2 :: a3 :: a4 :: L) st σ o := KO.fg 4 kk
theorem k_ist5 {a0 a1 a2 a3 a4 a5 : Option Value} {x : Int32} {k : Int32 → Option (Rt × S)} (hd : decode Y.2.1 pc = .ok (.istore 5, 2)) (hi : 5 < Y.2.2.1) (kk : ∀ x' : Int32, KO X Y cw kc ks Q (pc + 2) (a0 :: a1 :: a2 :: a3 :: a4 :: some (.int x') :: L) st σ (k x')) : KO X Y cw kc ks Q pc (a0 :: a1 :: a2 :: a3 :: a4 :: a5 :: L) (.int x :: st) σ (k_bn x k) := k_istG 5 (.inr ⟨hd, rfl⟩) hi (kk x)
theorem k_iinc5 {a0 a1 a2 a3 a4 a : Option Value} {n : Int} {x w : Int32} {k : Int32 → Option (Rt × S)} (hd : decode Y.2.1 pc = .ok (.iinc 5 n, 3)) (ha : a = some (.int x)) (hw : Int32.ofInt n = w) (hi : 5 < Y.2.2.1) (kk : ∀ x' : Int32, KO X Y cw kc ks Q (pc + 3) (a0 :: a1 :: a2 :: a3 :: a4 :: some (.int x') :: L) st σ (k x')) : KO X Y cw kc ks Q pc (a0 :: a1 :: a2 :: a3 :: a4 :: a :: L) st σ (k_bn (x + w) k) := by
  subst ha hw
  exact k_iincG 5 hd rfl rfl hi (kk _)
theorem k_fg5 {a0 a1 a2 a3 a4 a5 : Option Value} (kk : KO X Y cw kc ks Q pc (a0 :: a1 :: a2 :: a3 :: a4 :: none :: L) st σ o) : KO X Y cw kc ks Q pc (a0 :: a1 :: a2 :: a3 :: a4 :: a5 :: L) st σ o := KO.fg 5 kk
theorem k_ist6 {a0 a1 a2 a3 a4 a5 a6 : Option Value} {x : Int32} {k : Int32 → Option (Rt × S)} (hd : decode Y.2.1 pc = .ok (.istore 6, 2)) (hi : 6 < Y.2.2.1) (kk : ∀ x' : Int32, KO X Y cw kc ks Q (pc + 2) (a0 :: a1 :: a2 :: a3 :: a4 :: a5 :: some (.int x') :: L) st σ (k x')) : KO X Y cw kc ks Q pc (a0 :: a1 :: a2 :: a3 :: a4 :: a5 :: a6 :: L) (.int x :: st) σ (k_bn x k) := k_istG 6 (.inr ⟨hd, rfl⟩) hi (kk x)
theorem k_iinc6 {a0 a1 a2 a3 a4 a5 a : Option Value} {n : Int} {x w : Int32} {k : Int32 → Option (Rt × S)} (hd : decode Y.2.1 pc = .ok (.iinc 6 n, 3)) (ha : a = some (.int x)) (hw : Int32.ofInt n = w) (hi : 6 < Y.2.2.1) (kk : ∀ x' : Int32, KO X Y cw kc ks Q (pc + 3) (a0 :: a1 :: a2 :: a3 :: a4 :: a5 :: some (.int x') :: L) st σ (k x')) : KO X Y cw kc ks Q pc (a0 :: a1 :: a2 :: a3 :: a4 :: a5 :: a :: L) st σ (k_bn (x + w) k) := by
  subst ha hw
  exact k_iincG 6 hd rfl rfl hi (kk _)
theorem k_fg6 {a0 a1 a2 a3 a4 a5 a6 : Option Value} (kk : KO X Y cw kc ks Q pc (a0 :: a1 :: a2 :: a3 :: a4 :: a5 :: none :: L) st σ o) : KO X Y cw kc ks Q pc (a0 :: a1 :: a2 :: a3 :: a4 :: a5 :: a6 :: L) st σ o := KO.fg 6 kk
theorem k_ist7 {a0 a1 a2 a3 a4 a5 a6 a7 : Option Value} {x : Int32} {k : Int32 → Option (Rt × S)} (hd : decode Y.2.1 pc = .ok (.istore 7, 2)) (hi : 7 < Y.2.2.1) (kk : ∀ x' : Int32, KO X Y cw kc ks Q (pc + 2) (a0 :: a1 :: a2 :: a3 :: a4 :: a5 :: a6 :: some (.int x') :: L) st σ (k x')) : KO X Y cw kc ks Q pc (a0 :: a1 :: a2 :: a3 :: a4 :: a5 :: a6 :: a7 :: L) (.int x :: st) σ (k_bn x k) := k_istG 7 (.inr ⟨hd, rfl⟩) hi (kk x)
theorem k_iinc7 {a0 a1 a2 a3 a4 a5 a6 a : Option Value} {n : Int} {x w : Int32} {k : Int32 → Option (Rt × S)} (hd : decode Y.2.1 pc = .ok (.iinc 7 n, 3)) (ha : a = some (.int x)) (hw : Int32.ofInt n = w) (hi : 7 < Y.2.2.1) (kk : ∀ x' : Int32, KO X Y cw kc ks Q (pc + 3) (a0 :: a1 :: a2 :: a3 :: a4 :: a5 :: a6 :: some (.int x') :: L) st σ (k x')) : KO X Y cw kc ks Q pc (a0 :: a1 :: a2 :: a3 :: a4 :: a5 :: a6 :: a :: L) st σ (k_bn (x + w) k) := by
  subst ha hw
  exact k_iincG 7 hd rfl rfl hi (kk _)
theorem k_fg7 {a0 a1 a2 a3 a4 a5 a6 a7 : Option Value} (kk : KO X Y cw kc ks Q pc (a0 :: a1 :: a2 :: a3 :: a4 :: a5 :: a6 :: none :: L) st σ o) : KO X Y cw kc ks Q pc (a0 :: a1 :: a2 :: a3 :: a4 :: a5 :: a6 :: a7 :: L) st σ o := KO.fg 7 kk
theorem k_ist8 {a0 a1 a2 a3 a4 a5 a6 a7 a8 : Option Value} {x : Int32} {k : Int32 → Option (Rt × S)} (hd : decode Y.2.1 pc = .ok (.istore 8, 2)) (hi : 8 < Y.2.2.1) (kk : ∀ x' : Int32, KO X Y cw kc ks Q (pc + 2) (a0 :: a1 :: a2 :: a3 :: a4 :: a5 :: a6 :: a7 :: some (.int x') :: L) st σ (k x')) : KO X Y cw kc ks Q pc (a0 :: a1 :: a2 :: a3 :: a4 :: a5 :: a6 :: a7 :: a8 :: L) (.int x :: st) σ (k_bn x k) := k_istG 8 (.inr ⟨hd, rfl⟩) hi (kk x)
theorem k_iinc8 {a0 a1 a2 a3 a4 a5 a6 a7 a : Option Value} {n : Int} {x w : Int32} {k : Int32 → Option (Rt × S)} (hd : decode Y.2.1 pc = .ok (.iinc 8 n, 3)) (ha : a = some (.int x)) (hw : Int32.ofInt n = w) (hi : 8 < Y.2.2.1) (kk : ∀ x' : Int32, KO X Y cw kc ks Q (pc + 3) (a0 :: a1 :: a2 :: a3 :: a4 :: a5 :: a6 :: a7 :: some (.int x') :: L) st σ (k x')) : KO X Y cw kc ks Q pc (a0 :: a1 :: a2 :: a3 :: a4 :: a5 :: a6 :: a7 :: a :: L) st σ (k_bn (x + w) k) := by
  subst ha hw
  exact k_iincG 8 hd rfl rfl hi (kk _)
theorem k_fg8 {a0 a1 a2 a3 a4 a5 a6 a7 a8 : Option Value} (kk : KO X Y cw kc ks Q pc (a0 :: a1 :: a2 :: a3 :: a4 :: a5 :: a6 :: a7 :: none :: L) st σ o) : KO X Y cw kc ks Q pc (a0 :: a1 :: a2 :: a3 :: a4 :: a5 :: a6 :: a7 :: a8 :: L) st σ o := KO.fg 8 kk
theorem k_ist9 {a0 a1 a2 a3 a4 a5 a6 a7 a8 a9 : Option Value} {x : Int32} {k : Int32 → Option (Rt × S)} (hd : decode Y.2.1 pc = .ok (.istore 9, 2)) (hi : 9 < Y.2.2.1) (kk : ∀ x' : Int32, KO X Y cw kc ks Q (pc + 2) (a0 :: a1 :: a2 :: a3 :: a4 :: a5 :: a6 :: a7 :: a8 :: some (.int x') :: L) st σ (k x')) : KO X Y cw kc ks Q pc (a0 :: a1 :: a2 :: a3 :: a4 :: a5 :: a6 :: a7 :: a8 :: a9 :: L) (.int x :: st) σ (k_bn x k) := k_istG 9 (.inr ⟨hd, rfl⟩) hi (kk x)
theorem k_iinc9 {a0 a1 a2 a3 a4 a5 a6 a7 a8 a : Option Value} {n : Int} {x w : Int32} {k : Int32 → Option (Rt × S)} (hd : decode Y.2.1 pc = .ok (.iinc 9 n, 3)) (ha : a = some (.int x)) (hw : Int32.ofInt n = w) (hi : 9 < Y.2.2.1) (kk : ∀ x' : Int32, KO X Y cw kc ks Q (pc + 3) (a0 :: a1 :: a2 :: a3 :: a4 :: a5 :: a6 :: a7 :: a8 :: some (.int x') :: L) st σ (k x')) : KO X Y cw kc ks Q pc (a0 :: a1 :: a2 :: a3 :: a4 :: a5 :: a6 :: a7 :: a8 :: a :: L) st σ (k_bn (x + w) k) := by
  subst ha hw
  exact k_iincG 9 hd rfl rfl hi (kk _)
theorem k_fg9 {a0 a1 a2 a3 a4 a5 a6 a7 a8 a9 : Option Value} (kk : KO X Y cw kc ks Q pc (a0 :: a1 :: a2 :: a3 :: a4 :: a5 :: a6 :: a7 :: a8 :: none :: L) st σ o) : KO X Y cw kc ks Q pc (a0 :: a1 :: a2 :: a3 :: a4 :: a5 :: a6 :: a7 :: a8 :: a9 :: L) st σ o := KO.fg 9 kk
theorem k_ist10 {a0 a1 a2 a3 a4 a5 a6 a7 a8 a9 a10 : Option Value} {x : Int32} {k : Int32 → Option (Rt × S)} (hd : decode Y.2.1 pc = .ok (.istore 10, 2)) (hi : 10 < Y.2.2.1) (kk : ∀ x' : Int32, KO X Y cw kc ks Q (pc + 2) (a0 :: a1 :: a2 :: a3 :: a4 :: a5 :: a6 :: a7 :: a8 :: a9 :: some (.int x') :: L) st σ (k x')) : KO X Y cw kc ks Q pc (a0 :: a1 :: a2 :: a3 :: a4 :: a5 :: a6 :: a7 :: a8 :: a9 :: a10 :: L) (.int x :: st) σ (k_bn x k) := k_istG 10 (.inr ⟨hd, rfl⟩) hi (kk x)
theorem k_iinc10 {a0 a1 a2 a3 a4 a5 a6 a7 a8 a9 a : Option Value} {n : Int} {x w : Int32} {k : Int32 → Option (Rt × S)} (hd : decode Y.2.1 pc = .ok (.iinc 10 n, 3)) (ha : a = some (.int x)) (hw : Int32.ofInt n = w) (hi : 10 < Y.2.2.1) (kk : ∀ x' : Int32, KO X Y cw kc ks Q (pc + 3) (a0 :: a1 :: a2 :: a3 :: a4 :: a5 :: a6 :: a7 :: a8 :: a9 :: some (.int x') :: L) st σ (k x')) : KO X Y cw kc ks Q pc (a0 :: a1 :: a2 :: a3 :: a4 :: a5 :: a6 :: a7 :: a8 :: a9 :: a :: L) st σ (k_bn (x + w) k) := by
  subst ha hw
  exact k_iincG 10 hd rfl rfl hi (kk _)
theorem k_fg10 {a0 a1 a2 a3 a4 a5 a6 a7 a8 a9 a10 : Option Value} (kk : KO X Y cw kc ks Q pc (a0 :: a1 :: a2 :: a3 :: a4 :: a5 :: a6 :: a7 :: a8 :: a9 :: none :: L) st σ o) : KO X Y cw kc ks Q pc (a0 :: a1 :: a2 :: a3 :: a4 :: a5 :: a6 :: a7 :: a8 :: a9 :: a10 :: L) st σ o := KO.fg 10 kk
theorem k_ist11 {a0 a1 a2 a3 a4 a5 a6 a7 a8 a9 a10 a11 : Option Value} {x : Int32} {k : Int32 → Option (Rt × S)} (hd : decode Y.2.1 pc = .ok (.istore 11, 2)) (hi : 11 < Y.2.2.1) (kk : ∀ x' : Int32, KO X Y cw kc ks Q (pc + 2) (a0 :: a1 :: a2 :: a3 :: a4 :: a5 :: a6 :: a7 :: a8 :: a9 :: a10 :: some (.int x') :: L) st σ (k x')) : KO X Y cw kc ks Q pc (a0 :: a1 :: a2 :: a3 :: a4 :: a5 :: a6 :: a7 :: a8 :: a9 :: a10 :: a11 :: L) (.int x :: st) σ (k_bn x k) := k_istG 11 (.inr ⟨hd, rfl⟩) hi (kk x)
theorem k_iinc11 {a0 a1 a2 a3 a4 a5 a6 a7 a8 a9 a10 a : Option Value} {n : Int} {x w : Int32} {k : Int32 → Option (Rt × S)} (hd : decode Y.2.1 pc = .ok (.iinc 11 n, 3)) (ha : a = some (.int x)) (hw : Int32.ofInt n = w) (hi : 11 < Y.2.2.1) (kk : ∀ x' : Int32, KO X Y cw kc ks Q (pc + 3) (a0 :: a1 :: a2 :: a3 :: a4 :: a5 :: a6 :: a7 :: a8 :: a9 :: a10 :: some (.int x') :: L) st σ (k x')) : KO X Y cw kc ks Q pc (a0 :: a1 :: a2 :: a3 :: a4 :: a5 :: a6 :: a7 :: a8 :: a9 :: a10 :: a :: L) st σ (k_bn (x + w) k) := by
  subst ha hw
  exact k_iincG 11 hd rfl rfl hi (kk _)
theorem k_fg11 {a0 a1 a2 a3 a4 a5 a6 a7 a8 a9 a10 a11 : Option Value} (kk : KO X Y cw kc ks Q pc (a0 :: a1 :: a2 :: a3 :: a4 :: a5 :: a6 :: a7 :: a8 :: a9 :: a10 :: none :: L) st σ o) : KO X Y cw kc ks Q pc (a0 :: a1 :: a2 :: a3 :: a4 :: a5 :: a6 :: a7 :: a8 :: a9 :: a10 :: a11 :: L) st σ o := KO.fg 11 kk
theorem k_ist12 {a0 a1 a2 a3 a4 a5 a6 a7 a8 a9 a10 a11 a12 : Option Value} {x : Int32} {k : Int32 → Option (Rt × S)} (hd : decode Y.2.1 pc = .ok (.istore 12, 2)) (hi : 12 < Y.2.2.1) (kk : ∀ x' : Int32, KO X Y cw kc ks Q (pc + 2) (a0 :: a1 :: a2 :: a3 :: a4 :: a5 :: a6 :: a7 :: a8 :: a9 :: a10 :: a11 :: some (.int x') :: L) st σ (k x')) : KO X Y cw kc ks Q pc (a0 :: a1 :: a2 :: a3 :: a4 :: a5 :: a6 :: a7 :: a8 :: a9 :: a10 :: a11 :: a12 :: L) (.int x :: st) σ (k_bn x k) := k_istG 12 (.inr ⟨hd, rfl⟩) hi (kk x)
theorem k_iinc12 {a0 a1 a2 a3 a4 a5 a6 a7 a8 a9 a10 a11 a : Option Value} {n : Int} {x w : Int32} {k : Int32 → Option (Rt × S)} (hd : decode Y.2.1 pc = .ok (.iinc 12 n, 3)) (ha : a = some (.int x)) (hw : Int32.ofInt n = w) (hi : 12 < Y.2.2.1) (kk : ∀ x' : Int32, KO X Y cw kc ks Q (pc + 3) (a0 :: a1 :: a2 :: a3 :: a4 :: a5 :: a6 :: a7 :: a8 :: a9 :: a10 :: a11 :: some (.int x') :: L) st σ (k x')) : KO X Y cw kc ks Q pc (a0 :: a1 :: a2 :: a3 :: a4 :: a5 :: a6 :: a7 :: a8 :: a9 :: a10 :: a11 :: a :: L) st σ (k_bn (x + w) k) := by
  subst ha hw
  exact k_iincG 12 hd rfl rfl hi (kk _)
theorem k_fg12 {a0 a1 a2 a3 a4 a5 a6 a7 a8 a9 a10 a11 a12 : Option Value} (kk : KO X Y cw kc ks Q pc (a0 :: a1 :: a2 :: a3 :: a4 :: a5 :: a6 :: a7 :: a8 :: a9 :: a10 :: a11 :: none :: L) st σ o) : KO X Y cw kc ks Q pc (a0 :: a1 :: a2 :: a3 :: a4 :: a5 :: a6 :: a7 :: a8 :: a9 :: a10 :: a11 :: a12 :: L) st σ o := KO.fg 12 kk
theorem k_ist13 {a0 a1 a2 a3 a4 a5 a6 a7 a8 a9 a10 a11 a12 a13 : Option Value} {x : Int32} {k : Int32 → Option (Rt × S)} (hd : decode Y.2.1 pc = .ok (.istore 13, 2)) (hi : 13 < Y.2.2.1) (kk : ∀ x' : Int32, KO X Y cw kc ks Q (pc + 2) (a0 :: a1 :: a2 :: a3 :: a4 :: a5 :: a6 :: a7 :: a8 :: a9 :: a10 :: a11 :: a12 :: some (.int x') :: L) st σ (k x')) : KO X Y cw kc ks Q pc (a0 :: a1 :: a2 :: a3 :: a4 :: a5 :: a6 :: a7 :: a8 :: a9 :: a10 :: a11 :: a12 :: a13 :: L) (.int x :: st) σ (k_bn x k) := k_istG 13 (.inr ⟨hd, rfl⟩) hi (kk x)
theorem k_iinc13 {a0 a1 a2 a3 a4 a5 a6 a7 a8 a9 a10 a11 a12 a : Option Value} {n : Int} {x w : Int32} {k : Int32 → Option (Rt × S)} (hd : decode Y.2.1 pc = .ok (.iinc 13 n, 3)) (ha : a = some (.int x)) (hw : Int32.ofInt n = w) (hi : 13 < Y.2.2.1) (kk : ∀ x' : Int32, KO X Y cw kc ks Q (pc + 3) (a0 :: a1 :: a2 :: a3 :: a4 :: a5 :: a6 :: a7 :: a8 :: a9 :: a10 :: a11 :: a12 :: some (.int x') :: L) st σ (k x')) : KO X Y cw kc ks Q pc (a0 :: a1 :: a2 :: a3 :: a4 :: a5 :: a6 :: a7 :: a8 :: a9 :: a10 :: a11 :: a12 :: a :: L) st σ (k_bn (x + w) k) := by
  subst ha hw
  exact k_iincG 13 hd rfl rfl hi (kk _)
theorem k_fg13 {a0 a1 a2 a3 a4 a5 a6 a7 a8 a9 a10 a11 a12 a13 : Option Value} (kk : KO X Y cw kc ks Q pc (a0 :: a1 :: a2 :: a3 :: a4 :: a5 :: a6 :: a7 :: a8 :: a9 :: a10 :: a11 :: a12 :: none :: L) st σ o) : KO X Y cw kc ks Q pc (a0 :: a1 :: a2 :: a3 :: a4 :: a5 :: a6 :: a7 :: a8 :: a9 :: a10 :: a11 :: a12 :: a13 :: L) st σ o := KO.fg 13 kk
theorem k_ist14 {a0 a1 a2 a3 a4 a5 a6 a7 a8 a9 a10 a11 a12 a13 a14 : Option Value} {x : Int32} {k : Int32 → Option (Rt × S)} (hd : decode Y.2.1 pc = .ok (.istore 14, 2)) (hi : 14 < Y.2.2.1) (kk : ∀ x' : Int32, KO X Y cw kc ks Q (pc + 2) (a0 :: a1 :: a2 :: a3 :: a4 :: a5 :: a6 :: a7 :: a8 :: a9 :: a10 :: a11 :: a12 :: a13 :: some (.int x') :: L) st σ (k x')) : KO X Y cw kc ks Q pc (a0 :: a1 :: a2 :: a3 :: a4 :: a5 :: a6 :: a7 :: a8 :: a9 :: a10 :: a11 :: a12 :: a13 :: a14 :: L) (.int x :: st) σ (k_bn x k) := k_istG 14 (.inr ⟨hd, rfl⟩) hi (kk x)
theorem k_iinc14 {a0 a1 a2 a3 a4 a5 a6 a7 a8 a9 a10 a11 a12 a13 a : Option Value} {n : Int} {x w : Int32} {k : Int32 → Option (Rt × S)} (hd : decode Y.2.1 pc = .ok (.iinc 14 n, 3)) (ha : a = some (.int x)) (hw : Int32.ofInt n = w) (hi : 14 < Y.2.2.1) (kk : ∀ x' : Int32, KO X Y cw kc ks Q (pc + 3) (a0 :: a1 :: a2 :: a3 :: a4 :: a5 :: a6 :: a7 :: a8 :: a9 :: a10 :: a11 :: a12 :: a13 :: some (.int x') :: L) st σ (k x')) : KO X Y cw kc ks Q pc (a0 :: a1 :: a2 :: a3 :: a4 :: a5 :: a6 :: a7 :: a8 :: a9 :: a10 :: a11 :: a12 :: a13 :: a :: L) st σ (k_bn (x + w) k) := by
  subst ha hw
  exact k_iincG 14 hd rfl rfl hi (kk _)
theorem k_fg14 {a0 a1 a2 a3 a4 a5 a6 a7 a8 a9 a10 a11 a12 a13 a14 : Option Value} (kk : KO X Y cw kc ks Q pc (a0 :: a1 :: a2 :: a3 :: a4 :: a5 :: a6 :: a7 :: a8 :: a9 :: a10 :: a11 :: a12 :: a13 :: none :: L) st σ o) : KO X Y cw kc ks Q pc (a0 :: a1 :: a2 :: a3 :: a4 :: a5 :: a6 :: a7 :: a8 :: a9 :: a10 :: a11 :: a12 :: a13 :: a14 :: L) st σ o := KO.fg 14 kk
theorem k_ist15 {a0 a1 a2 a3 a4 a5 a6 a7 a8 a9 a10 a11 a12 a13 a14 a15 : Option Value} {x : Int32} {k : Int32 → Option (Rt × S)} (hd : decode Y.2.1 pc = .ok (.istore 15, 2)) (hi : 15 < Y.2.2.1) (kk : ∀ x' : Int32, KO X Y cw kc ks Q (pc + 2) (a0 :: a1 :: a2 :: a3 :: a4 :: a5 :: a6 :: a7 :: a8 :: a9 :: a10 :: a11 :: a12 :: a13 :: a14 :: some (.int x') :: L) st σ (k x')) : KO X Y cw kc ks Q pc (a0 :: a1 :: a2 :: a3 :: a4 :: a5 :: a6 :: a7 :: a8 :: a9 :: a10 :: a11 :: a12 :: a13 :: a14 :: a15 :: L) (.int x :: st) σ (k_bn x k) := k_istG 15 (.inr ⟨hd, rfl⟩) hi (kk x)
theorem k_iinc15 {a0 a1 a2 a3 a4 a5 a6 a7 a8 a9 a10 a11 a12 a13 a14 a : Option Value} {n : Int} {x w : Int32} {k : Int32 → Option (Rt × S)} (hd : decode Y.2.1 pc = .ok (.iinc 15 n, 3)) (ha : a = some (.int x)) (hw : Int32.ofInt n = w) (hi : 15 < Y.2.2.1) (kk : ∀ x' : Int32, KO X Y cw kc ks Q (pc + 3) (a0 :: a1 :: a2 :: a3 :: a4 :: a5 :: a6 :: a7 :: a8 :: a9 :: a10 :: a11 :: a12 :: a13 :: a14 :: some (.int x') :: L) st σ (k x')) : KO X Y cw kc ks Q pc (a0 :: a1 :: a2 :: a3 :: a4 :: a5 :: a6 :: a7 :: a8 :: a9 :: a10 :: a11 :: a12 :: a13 :: a14 :: a :: L) st σ (k_bn (x + w) k) := by
  subst ha hw
  exact k_iincG 15 hd rfl rfl hi (kk _)
theorem k_fg15 {a0 a1 a2 a3 a4 a5 a6 a7 a8 a9 a10 a11 a12 a13 a14 a15 : Option Value} (kk : KO X Y cw kc ks Q pc (a0 :: a1 :: a2 :: a3 :: a4 :: a5 :: a6 :: a7 :: a8 :: a9 :: a10 :: a11 :: a12 :: a13 :: a14 :: none :: L) st σ o) : KO X Y cw kc ks Q pc (a0 :: a1 :: a2 :: a3 :: a4 :: a5 :: a6 :: a7 :: a8 :: a9 :: a10 :: a11 :: a12 :: a13 :: a14 :: a15 :: L) st σ o := KO.fg 15 kk
theorem k_ist16 {a0 a1 a2 a3 a4 a5 a6 a7 a8 a9 a10 a11 a12 a13 a14 a15 a16 : Option Value} {x : Int32} {k : Int32 → Option (Rt × S)} (hd : decode Y.2.1 pc = .ok (.istore 16, 2)) (hi : 16 < Y.2.2.1) (kk : ∀ x' : Int32, KO X Y cw kc ks Q (pc + 2) (a0 :: a1 :: a2 :: a3 :: a4 :: a5 :: a6 :: a7 :: a8 :: a9 :: a10 :: a11 :: a12 :: a13 :: a14 :: a15 :: some (.int x') :: L) st σ (k x')) : KO X Y cw kc ks Q pc (a0 :: a1 :: a2 :: a3 :: a4 :: a5 :: a6 :: a7 :: a8 :: a9 :: a10 :: a11 :: a12 :: a13 :: a14 :: a15 :: a16 :: L) (.int x :: st) σ (k_bn x k) := k_istG 16 (.inr ⟨hd, rfl⟩) hi (kk x)
theorem k_iinc16 {a0 a1 a2 a3 a4 a5 a6 a7 a8 a9 a10 a11 a12 a13 a14 a15 a : Option Value} {n : Int} {x w : Int32} {k : Int32 → Option (Rt × S)} (hd : decode Y.2.1 pc = .ok (.iinc 16 n, 3)) (ha : a = some (.int x)) (hw : Int32.ofInt n = w) (hi : 16 < Y.2.2.1) (kk : ∀ x' : Int32, KO X Y cw kc ks Q (pc + 3) (a0 :: a1 :: a2 :: a3 :: a4 :: a5 :: a6 :: a7 :: a8 :: a9 :: a10 :: a11 :: a12 :: a13 :: a14 :: a15 :: some (.int x') :: L) st σ (k x')) : KO X Y cw kc ks Q pc (a0 :: a1 :: a2 :: a3 :: a4 :: a5 :: a6 :: a7 :: a8 :: a9 :: a10 :: a11 :: a12 :: a13 :: a14 :: a15 :: a :: L) st σ (k_bn (x + w) k) := by
  subst ha hw
  exact k_iincG 16 hd rfl rfl hi (kk _)
theorem k_fg16 {a0 a1 a2 a3 a4 a5 a6 a7 a8 a9 a10 a11 a12 a13 a14 a15 a16 : Option Value} (kk : KO X Y cw kc ks Q pc (a0 :: a1 :: a2 :: a3 :: a4 :: a5 :: a6 :: a7 :: a8 :: a9 :: a10 :: a11 :: a12 :: a13 :: a14 :: a15 :: none :: L) st σ o) : KO X Y cw kc ks Q pc (a0 :: a1 :: a2 :: a3 :: a4 :: a5 :: a6 :: a7 :: a8 :: a9 :: a10 :: a11 :: a12 :: a13 :: a14 :: a15 :: a16 :: L) st σ o := KO.fg 16 kk
theorem k_ist17 {a0 a1 a2 a3 a4 a5 a6 a7 a8 a9 a10 a11 a12 a13 a14 a15 a16 a17 : Option Value} {x : Int32} {k : Int32 → Option (Rt × S)} (hd : decode Y.2.1 pc = .ok (.istore 17, 2)) (hi : 17 < Y.2.2.1) (kk : ∀ x' : Int32, KO X Y cw kc ks Q (pc + 2) (a0 :: a1 :: a2 :: a3 :: a4 :: a5 :: a6 :: a7 :: a8 :: a9 :: a10 :: a11 :: a12 :: a13 :: a14 :: a15 :: a16 :: some (.int x') :: L) st σ (k x')) : KO X Y cw kc ks Q pc (a0 :: a1 :: a2 :: a3 :: a4 :: a5 :: a6 :: a7 :: a8 :: a9 :: a10 :: a11 :: a12 :: a13 :: a14 :: a15 :: a16 :: a17 :: L) (.int x :: st) σ (k_bn x k) := k_istG 17 (.inr ⟨hd, rfl⟩) hi (kk x)
theorem k_iinc17 {a0 a1 a2 a3 a4 a5 a6 a7 a8 a9 a10 a11 a12 a13 a14 a15 a16 a : Option Value} {n : Int} {x w : Int32} {k : Int32 → Option (Rt × S)} (hd : decode Y.2.1 pc = .ok (.iinc 17 n, 3)) (ha : a = some (.int x)) (hw : Int32.ofInt n = w) (hi : 17 < Y.2.2.1) (kk : ∀ x' : Int32, KO X Y cw kc ks Q (pc + 3) (a0 :: a1 :: a2 :: a3 :: a4 :: a5 :: a6 :: a7 :: a8 :: a9 :: a10 :: a11 :: a12 :: a13 :: a14 :: a15 :: a16 :: some (.int x') :: L) st σ (k x')) : KO X Y cw kc ks Q pc (a0 :: a1 :: a2 :: a3 :: a4 :: a5 :: a6 :: a7 :: a8 :: a9 :: a10 :: a11 :: a12 :: a13 :: a14 :: a15 :: a16 :: a :: L) st σ (k_bn (x + w) k) := by
  subst ha hw
  exact k_iincG 17 hd rfl rfl hi (kk _)
theorem k_fg17 {a0 a1 a2 a3 a4 a5 a6 a7 a8 a9 a10 a11 a12 a13 a14 a15 a16 a17 : Option Value} (kk : KO X Y cw kc ks Q pc (a0 :: a1 :: a2 :: a3 :: a4 :: a5 :: a6 :: a7 :: a8 :: a9 :: a10 :: a11 :: a12 :: a13 :: a14 :: a15 :: a16 :: none :: L) st σ o) : KO X Y cw kc ks Q pc (a0 :: a1 :: a2 :: a3 :: a4 :: a5 :: a6 :: a7 :: a8 :: a9 :: a10 :: a11 :: a12 :: a13 :: a14 :: a15 :: a16 :: a17 :: L) st σ o := KO.fg 17 kk
theorem k_ist18 {a0 a1 a2 a3 a4 a5 a6 a7 a8 a9 a10 a11 a12 a13 a14 a15 a16 a17 a18 : Option Value} {x : Int32} {k : Int32 → Option (Rt × S)} (hd : decode Y.2.1 pc = .ok (.istore 18, 2)) (hi : 18 < Y.2.2.1) (kk : ∀ x' : Int32, KO X Y cw kc ks Q (pc + 2) (a0 :: a1 :: a2 :: a3 :: a4 :: a5 :: a6 :: a7 :: a8 :: a9 :: a10 :: a11 :: a12 :: a13 :: a14 :: a15 :: a16 :: a17 :: some (.int x') :: L) st σ (k x')) : KO X Y cw kc ks Q pc (a0 :: a1 :: a2 :: a3 :: a4 :: a5 :: a6 :: a7 :: a8 :: a9 :: a10 :: a11 :: a12 :: a13 :: a14 :: a15 :: a16 :: a17 :: a18 :: L) (.int x :: st) σ (k_bn x k) := k_istG 18 (.inr ⟨hd, rfl⟩) hi (kk x)
theorem k_iinc18 {a0 a1 a2 a3 a4 a5 a6 a7 a8 a9 a10 a11 a12 a13 a14 a15 a16 a17 a : Option Value} {n : Int} {x w : Int32} {k : Int32 → Option (Rt × S)} (hd : decode Y.2.1 pc = .ok (.iinc 18 n, 3)) (ha : a = some (.int x)) (hw : Int32.ofInt n = w) (hi : 18 < Y.2.2.1) (kk : ∀ x' : Int32, KO X Y cw kc ks Q (pc + 3) (a0 :: a1 :: a2 :: a3 :: a4 :: a5 :: a6 :: a7 :: a8 :: a9 :: a10 :: a11 :: a12 :: a13 :: a14 :: a15 :: a16 :: a17 :: some (.int x') :: L) st σ (k x')) : KO X Y cw kc ks Q pc (a0 :: a1 :: a2 :: a3 :: a4 :: a5 :: a6 :: a7 :: a8 :: a9 :: a10 :: a11 :: a12 :: a13 :: a14 :: a15 :: a16 :: a17 :: a :: L) st σ (k_bn (x + w) k) := by
  subst ha hw
  exact k_iincG 18 hd rfl rfl hi (kk _)
theorem k_fg18 {a0 a1 a2 a3 a4 a5 a6 a7 a8 a9 a10 a11 a12 a13 a14 a15 a16 a17 a18 : Option Value} (kk : KO X Y cw kc ks Q pc (a0 :: a1 :: a2 :: a3 :: a4 :: a5 :: a6 :: a7 :: a8 :: a9 :: a10 :: a11 :: a12 :: a13 :: a14 :: a15 :: a16 :: a17 :: none :: L) st σ o) : KO X Y cw kc ks Q pc (a0 :: a1 :: a2 :: a3 :: a4 :: a5 :: a6 :: a7 :: a8 :: a9 :: a10 :: a11 :: a12 :: a13 :: a14 :: a15 :: a16 :: a17 :: a18 :: L) st σ o := KO.fg 18 kk
theorem k_ist19 {a0 a1 a2 a3 a4 a5 a6 a7 a8 a9 a10 a11 a12 a13 a14 a15 a16 a17 a18 a19 : Option Value} {x : Int32} {k : Int32 → Option (Rt × S)} (hd : decode Y.2.1 pc = .ok (.istore 19, 2)) (hi : 19 < Y.2.2.1) (kk : ∀ x' : Int32, KO X Y cw kc ks Q (pc + 2) (a0 :: a1 :: a2 :: a3 :: a4 :: a5 :: a6 :: a7 :: a8 :: a9 :: a10 :: a11 :: a12 :: a13 :: a14 :: a15 :: a16 :: a17 :: a18 :: some (.int x') :: L) st σ (k x')) : KO X Y cw kc ks Q pc (a0 :: a1 :: a2 :: a3 :: a4 :: a5 :: a6 :: a7 :: a8 :: a9 :: a10 :: a11 :: a12 :: a13 :: a14 :: a15 :: a16 :: a17 :: a18 :: a19 :: L) (.int x :: st) σ (k_bn x k) := k_istG 19 (.inr ⟨hd, rfl⟩) hi (kk x)
theorem k_iinc19 {a0 a1 a2 a3 a4 a5 a6 a7 a8 a9 a10 a11 a12 a13 a14 a15 a16 a17 a18 a : Option Value} {n : Int} {x w : Int32} {k : Int32 → Option (Rt × S)} (hd : decode Y.2.1 pc = .ok (.iinc 19 n, 3)) (ha : a = some (.int x)) (hw : Int32.ofInt n = w) (hi : 19 < Y.2.2.1) (kk : ∀ x' : Int32, KO X Y cw kc ks Q (pc + 3) (a0 :: a1 :: a2 :: a3 :: a4 :: a5 :: a6 :: a7 :: a8 :: a9 :: a10 :: a11 :: a12 :: a13 :: a14 :: a15 :: a16 :: a17 :: a18 :: some (.int x') :: L) st σ (k x')) : KO X Y cw kc ks Q pc (a0 :: a1 :: a2 :: a3 :: a4 :: a5 :: a6 :: a7 :: a8 :: a9 :: a10 :: a11 :: a12 :: a13 :: a14 :: a15 :: a16 :: a17 :: a18 :: a :: L) st σ (k_bn (x + w) k) := by
  subst ha hw
  exact k_iincG 19 hd rfl rfl hi (kk _)
theorem k_fg19 {a0 a1 a2 a3 a4 a5 a6 a7 a8 a9 a10 a11 a12 a13 a14 a15 a16 a17 a18 a19 : Option Value} (kk : KO X Y cw kc ks Q pc (a0 :: a1 :: a2 :: a3 :: a4 :: a5 :: a6 :: a7 :: a8 :: a9 :: a10 :: a11 :: a12 :: a13 :: a14 :: a15 :: a16 :: a17 :: a18 :: none :: L) st σ o) : KO X Y cw kc ks Q pc (a0 :: a1 :: a2 :: a3 :: a4 :: a5 :: a6 :: a7 :: a8 :: a9 :: a10 :: a11 :: a12 :: a13 :: a14 :: a15 :: a16 :: a17 :: a18 :: a19 :: L) st σ o := KO.fg 19 kk
-- fields: the object's cell stands at place k of the world, in class ci of 'vwCl'
theorem k_get {own ref C : String} {T : u_T} {N index ci : Nat} {a : Nat} {fs : List Value} (k : Nat) (hcell : (cw σ)[k]? = some (a, .inr (ci, fs))) (hcl : vwCl[ci]? = some (C, T, N)) (hin : ∀ w ∈ u_ws C T N, w ∈ k_ws) (j : Nat) (hj : j < N) {v : Value} (hv : fs[j]? = some v) (hown : own = Y.2.2.2.1) (hw : Cond.fieldLink own index ref (T j).2.1 (T j).2.2.1 ∈ k_ws) (href : (T j).1 = ref) (hd : decode Y.2.1 pc = .ok (.getfield index, 3)) (kk : KO X Y cw kc ks Q (pc + 3) L (v :: st) σ o) : KO X Y cw kc ks Q pc L (.ref a :: st) σ o := by
  subst hown
  exact kk.lift fun g _ _ _ _ hP _ _ kq => va_get (D := k_D X) g.1 g.2.1 g.2.2.2.2.1 hin g.2.2.2.1 g.2.2.2.2.2.1 hP k hcell hcl j hj (g.2.2.2.2.1 _ hw) (fun _ h9 => by rw [← href]; exact h9) hv hd kq
theorem k_put {own ref C : String} {T : u_T} {N index ci : Nat} {a : Nat} {fs : List Value} (k : Nat) (hcell : (cw σ)[k]? = some (a, .inr (ci, fs))) (hcl : vwCl[ci]? = some (C, T, N)) (hin : ∀ w ∈ u_ws C T N, w ∈ k_ws) {ty : Nat → FieldType} (hty : ∀ k, k < N → parseFieldDescriptor (T k).2.2.1 = some (ty k)) (hnm : ∀ a, a < N → ∀ b, b < N → a ≠ b → (T a).2.1 ≠ (T b).2.1) (j : Nat) (hj : j < N) (hfin : (T j).2.2.2 = false) (hti : ty j = .int) (hlen : fs.length = N) {x : Int32} {σ1 : S} (hset : (cw σ).set k (a, .inr (ci, fs.set j (.int x))) = cw σ1) (hown : own = Y.2.2.2.1) (hw : Cond.fieldLink own index ref (T j).2.1 (T j).2.2.1 ∈ k_ws) (href : (T j).1 = ref) (hd : decode Y.2.1 pc = .ok (.putfield index, 3)) {kf : S → Option (Rt × S)} (kk : ∀ σ' : S, KO X Y cw kc ks Q (pc + 3) L st σ' (kf σ')) : KO X Y cw kc ks Q pc L (.int x :: .ref a :: st) σ (k_bn σ1 kf) := by
  subst hown
  intro g r σ' ho H locs ls hP hS hL
  have hpd : parseFieldDescriptor (T j).2.2.1 = some .int := by rw [hty j hj, hti]
  exact va_put (D := k_D X) g.1 g.2.1 g.2.2.2.2.1 hin ty hty hnm g.2.2.2.1 g.2.2.2.2.2.1 hP (g.2.2.2.2.2.2.2.1 σ) hS k hcell hcl j hj (g.2.2.2.2.1 _ hw) (fun _ h9 => by rw [← href]; exact h9) hfin hpd rfl rfl (by rw [hlen]; exact hj) hd (fun H1 locs1 hP1 _ hS1 => kk σ1 g r σ' ho H1 locs1 ls (by rw [← hset]; exact hP1) hS1 hL)
-- arrays of ints: the array's cell stands at place k of the world
theorem k_iald {a n : Nat} {f : Nat → Int32} (k : Nat) (hcell : (cw σ)[k]? = some (a, .inl (k_I X, n, .inl f))) {i : Int32} (hd : decode Y.2.1 pc = .ok (.iaload, 1)) (kk : KO X Y cw kc ks Q (pc + 1) L (.int (f i.toNatClampNeg) :: st) σ o) : KO X Y cw kc ks Q pc L (.int i :: .ref a :: st) σ (k_gd i n o) := by
  intro g r σ' ho H locs ls hP hS hL
  by_cases hi : i < 0 ∨ n ≤ i.toNatClampNeg
  · rw [k_gd, if_pos hi] at ho; cases ho
  · rw [k_gd, if_neg hi] at ho
    exact va_iald (D := k_D X) g.1 g.2.1 g.2.2.2.2.2.1 hP k 0 hcell rfl hi hd (kk g r σ' ho H locs ls hP hS hL)
theorem k_iast {a n : Nat} {f : Nat → Int32} (k : Nat) (hcell : (cw σ)[k]? = some (a, .inl (k_I X, n, .inl f))) {i x : Int32} {σ1 : S} (hset : (cw σ).set k (a, .inl (k_I X, n, .inl (upd f i.toNatClampNeg x))) = cw σ1) (hd : decode Y.2.1 pc = .ok (.iastore, 1)) {kf : S → Option (Rt × S)} (kk : ∀ σ' : S, KO X Y cw kc ks Q (pc + 1) L st σ' (kf σ')) : KO X Y cw kc ks Q pc L (.int x :: .int i :: .ref a :: st) σ (k_gd i n (k_bn σ1 kf)) := by
  intro g r σ' ho H locs ls hP hS hL
  by_cases hi : i < 0 ∨ n ≤ i.toNatClampNeg
  · rw [k_gd, if_pos hi] at ho; cases ho
  · rw [k_gd, if_neg hi] at ho
    exact va_iast (D := k_D X) g.1 g.2.1 g.2.2.2.2.2.1 hP (g.2.2.2.2.2.2.2.1 σ) hS k 0 hcell rfl hi hd (fun H1 locs1 hP1 _ hS1 => kk σ1 g r σ' ho H1 locs1 ls (by rw [← hset]; exact hP1) hS1 hL)
theorem k_alen {a n : Nat} {f : Nat → Int32} (k : Nat) (hcell : (cw σ)[k]? = some (a, .inl (k_I X, n, .inl f))) {v : Int32} (hv : Int32.ofNat n = v) (hd : decode Y.2.1 pc = .ok (.arraylength, 1)) (kk : KO X Y cw kc ks Q (pc + 1) L (.int v :: st) σ o) : KO X Y cw kc ks Q pc L (.ref a :: st) σ o :=
  kk.lift fun g _ _ _ _ hP _ _ kq => va_alen (D := k_D X) g.1 g.2.1 g.2.2.2.2.2.1 hP k 0 hcell rfl hv hd kq
theorem k_copy {a0 a1 n0 n1 index : Nat} {f0 f1 : Nat → Int32} (k0 k1 : Nat) (h0 : (cw σ)[k0]? = some (a0, .inl (k_I X, n0, .inl f0))) (h1 : (cw σ)[k1]? = some (a1, .inl (k_I X, n1, .inl f1))) {sp dp n : Int32} {σ1 : S} (hset : (cw σ).set k1 (a1, .inl (k_I X, n1, .inl (va_cpy f0 f1 sp.toNatClampNeg dp.toNatClampNeg n.toNatClampNeg))) = cw σ1) (hw : Cond.methodLink Y.2.2.2.1 index arraycopyName ∈ k_ws) (hR : 1 ≤ Y.1.frames ∧ (st.map fun v => v.category).sum + (nativeFrameWords "java/lang/System" "arraycopy" 5 + 11) ≤ Y.1.locals) (hd : decode Y.2.1 pc = .ok (.invokestatic index, 3)) {kf : S → Option (Rt × S)} (kk : ∀ σ' : S, KO X Y cw kc ks Q (pc + 3) L st σ' (kf σ')) : KO X Y cw kc ks Q pc L (.int n :: .int dp :: .ref a1 :: .int sp :: .ref a0 :: st) σ (k_gc sp dp n n0 n1 (k_bn σ1 kf)) := by
  intro g r σ' ho H locs ls hP hS hL
  by_cases hi : sp < 0 ∨ dp < 0 ∨ n < 0 ∨ n0 < sp.toNatClampNeg + n.toNatClampNeg ∨ n1 < dp.toNatClampNeg + n.toNatClampNeg
  · rw [k_gc, if_pos hi] at ho; cases ho
  · rw [k_gc, if_neg hi] at ho
    have hr : k_R X = Y.1 := g.2.2.2.2.2.2.2.2.1
    exact va_copyi (D := k_D X) g.1 g.2.1 (by rw [g.2.2.1, hL.1]) g.2.2.2.1 (g.2.2.2.2.1 _ hw) (g.2.2.2.2.1 _ kwt_arraycopy) (g.2.2.2.2.1 _ kws_arraycopy) (g.2.2.2.2.1 _ kwn_J10) g.2.2.2.2.2.1 hP (g.2.2.2.2.2.2.2.1 σ) hS k0 k1 0 0 h0 h1 rfl rfl rfl (fun h => hi (.inl h)) (fun h => hi (.inr (.inl h))) (fun h => hi (.inr (.inr (.inl h)))) (Nat.le_of_not_lt fun h => hi (.inr (.inr (.inr (.inl h))))) (Nat.le_of_not_lt fun h => hi (.inr (.inr (.inr (.inr h))))) (fun _ _ => rfl) (by rw [hr]; exact hR.1) (by rw [hr]; exact hR.2) hd (fun H1 locs1 hP1 _ hS1 => kk σ1 g r σ' ho H1 locs1 ls (by rw [← hset]; exact hP1) hS1 hL)
theorem k_max {index : Nat} {x y : Int32} (hw : Cond.methodLink Y.2.2.2.1 index Lib.Math.max.name ∈ k_ws) (hR : 1 ≤ Y.1.frames ∧ (st.map fun v => v.category).sum + 13 ≤ Y.1.locals) (hk : kc ≤ Y.1.cells ∧ ks ≤ Y.1.slots) (hd : decode Y.2.1 pc = .ok (.invokestatic index, 3)) (kk : KO X Y cw kc ks Q (pc + 3) L (.int (k_mx x y) :: st) σ o) : KO X Y cw kc ks Q pc L (.int y :: .int x :: st) σ o :=
  kk.lift fun g _ _ _ _ _ _ hL kq => by
    have hr : k_R X = Y.1 := g.2.2.2.2.2.2.2.2.1
    exact va_mmax g.1 g.2.1 (by rw [g.2.2.1, hL.1]) g.2.2.2.1 (g.2.2.2.2.1 _ hw) (g.2.2.2.2.1 _ kws_max) (g.2.2.2.2.1 _ kwn_J9) (g.2.2.2.2.1 _ kwk_max) (by rw [hr]; exact hR.1) (by rw [hr]; exact hR.2) (by rw [hr]; exact hk.1) (by rw [hr]; exact hk.2) hd kq
-- ends
theorem k_ireturn {x : Int32} {σ : S} (hr : Y.2.2.2.2 = some .int) (hd : decode Y.2.1 pc = .ok (.ireturn, 1)) : KO X Y cw 0 0 (k_Q k_ei X cw) pc L [.int x] σ (some (x, σ)) := by
  intro g r σ' ho H locs ls hP hS hL
  cases ho
  exact W.iret g.1 g.2.1 (by rw [g.2.2.2.2.2.2.2.2.2.2, hr]) (fun t ht _ => ⟨⟨rfl, by rw [ht]; exact hP⟩, hS.F ht⟩) hS.2.2 hd g.2.2.2.2.2.2.2.2.2.1
theorem k_zreturn {x : Int32} {σ : S} (hr : Y.2.2.2.2 = some .boolean) (hd : decode Y.2.1 pc = .ok (.ireturn, 1)) : KO X Y cw 0 0 (k_Q k_ei X cw) pc L [.int x] σ (k_z x (some (x, σ))) := by
  intro g r σ' ho H locs ls hP hS hL
  have hz : (x = 0 ∨ x = 1) ∧ r = x ∧ σ' = σ := by
    unfold k_z at ho
    split at ho
    · next h => cases ho; exact ⟨.inl h, rfl, rfl⟩
    · split at ho
      · next h => cases ho; exact ⟨.inr h, rfl, rfl⟩
      · cases ho
  obtain ⟨hx, rfl, rfl⟩ := hz
  exact W.zret g.1 g.2.1 (by rw [g.2.2.2.2.2.2.2.2.2.2, hr]) (by rcases hx with rfl | rfl <;> rfl) (fun t ht _ => ⟨⟨rfl, by rw [ht]; exact hP⟩, hS.F ht⟩) hS.2.2 hd g.2.2.2.2.2.2.2.2.2.1
theorem k_lreturn {x : Int64} {σ : S} (hr : Y.2.2.2.2 = some .long) (hd : decode Y.2.1 pc = .ok (.lreturn, 1)) : KO X Y cw 0 0 (k_Q k_el X cw) pc L [.long x] σ (some (x, σ)) := by
  intro g r σ' ho H locs ls hP hS hL
  cases ho
  exact W.lret g.1 g.2.1 (by rw [g.2.2.2.2.2.2.2.2.2.2, hr]) (fun t ht _ => ⟨⟨rfl, by rw [ht]; exact hP⟩, hS.F ht⟩) hS.2.2 hd g.2.2.2.2.2.2.2.2.2.1
theorem k_return {σ : S} (hr : Y.2.2.2.2 = none) (hd : decode Y.2.1 pc = .ok (.return_, 1)) : KO X Y cw 0 0 (k_Q k_ev X cw) pc L [] σ (some ((), σ)) := by
  intro g r σ' ho H locs ls hP hS hL
  cases ho
  exact W.vret g.1 g.2.1 (by rw [g.2.2.2.2.2.2.2.2.2.2, hr]) (fun t ht _ => ⟨⟨rfl, by rw [ht]; exact hP⟩, hS.F ht⟩) hS.2.2 hd g.2.2.2.2.2.2.2.2.2.1
end KR2
end
section
/-! ===== k, third part: contracts, calls, a method's entry (by program: wip/gen30/k3.py) ===== -/
/-- a contract: from arguments as and world σ the method answers r, and the world is σ' -/
def k_Ct {S Rt : Type} (emb : Rt → Option Value) (y : MethodName) (bytes : ByteArray) (maxL : Nat) (ret : Option FieldType) (rm : Room) (cw : S → va_W) (D : va_G) (cI : ClassId) (as : List Value) (σ : S) (r : Rt) (σ' : S) : Prop :=
  ∀ (l : Launch) (sz : Nat), Met l y (.code y bytes maxL ret :: k_ws) rm (va_Pc as (fun U => U.heap.size = sz ∧ va_P D vwCl (cw σ) U.heap ∧ va_K D vwCl [(cI, .int)] U ∧ ∀ τ, va_D (fun _ => True) (cw τ))) (fun _ st oc t => (oc = .returned (emb r) ∧ va_P D vwCl (cw σ') t.heap) ∧ va_F (va_A (cw σ) sz) st t) 0 0 (va_A (cw σ) sz)
theorem k_Asame {S : Type} {cw : S → va_W} (h : k_same cw) (σ τ : S) (sz : Nat) (q : Nat) (hq : va_A (cw σ) sz q) : va_A (cw τ) sz q := by
  rcases hq with ⟨k, e, hk⟩ | hq
  · obtain ⟨e', he⟩ := h σ τ k (q, e) hk
    exact Or.inl ⟨k, e', he⟩
  · exact Or.inr hq
theorem k_met {S Rt : Type} {emb : Rt → Option Value} {y : MethodName} {Y : k_Y} {cw : S → va_W} {D : va_G} {cI : ClassId} {as : List Value} {σ : S} {o : Option (Rt × S)} (hsame : k_same cw) (hcl : plainName y.cls = true) (hown : y.cls = Y.2.2.2.1) (hlen : as.length ≤ Y.2.2.1) (hcat : ∀ v ∈ as, v.category = 1)
    (h : ∀ X : k_C, k_D X = D → k_I X = cI → KO X Y cw 0 0 (k_Q emb X cw) 0 (as.map some ++ List.replicate (Y.2.2.1 - as.length) none) [] σ o) {r : Rt} {σ' : S} (ho : o = some (r, σ')) : k_Ct emb y Y.2.1 Y.2.2.1 Y.2.2.2.2 Y.1 cw D cI as σ r σ' := by
  intro l sz
  refine Met.ofW (cc := Y.2.1) (maxL := Y.2.2.1) (ret := Y.2.2.2.2) hcl rfl ?_
  intro p e s m args below meth c s₁ B hml hv
  obtain ⟨rfl, hsz, hP, hK, hD0⟩ := hv
  have hts0 := atoms_spec (ws := .code y Y.2.1 Y.2.2.1 Y.2.2.2.2 :: k_ws) B.pre
  have hfc : s.vm.findClass y.cls = some m.cls := findClass_of_methodNamed B.named
  rw [lg_entry_eq]
  let X : k_C := ((p, l, e, s, m, as.toArray), (below, meth, c, D, cI, va_A (cw σ) sz), Y.1)
  have hG : k_G X Y cw := by
    refine ⟨B.exec, B.bytes, hml, by rw [← hown]; exact hfc, fun w hw => hts0 w (List.mem_cons_of_mem _ hw), hK, fun q hq => Or.inr (by rw [← hsz]; exact hq), fun τ => ?_, rfl, B.notSynchronized, B.returns⟩
    exact (hD0 τ).weaken fun k q hk _ => k_Asame hsame τ σ sz q.1 (va_A.in hk)
  have hL := k_L.entry as hlen hcat
  exact h X rfl rfl hG r σ' ho s.heap [] _ hP va_S.rf hL
section KR3
variable {S Rt : Type} {X : k_C} {Y : k_Y} {cw : S → va_W} {kc ks : Nat} {Q : Rt → S → State → Prop} {pc pc' : Nat} {L L' : List (Option Value)} {st st' : List Value} {σ : S} {o o1 o2 : Option (Rt × S)}
/-- behind a call -/
theorem k_run {p : Program} {l : Launch} {e : Env} {R : Room} {s : State} {m : MethodId} {args : Array Value} {below : List Frame} {meth : Method} {c : Code} {H : Heap} {locs : List Loc} {cells slots : Nat} {Q : State → Prop} {pc : Nat} {ls : Array Slot} {rest st0 : List Value} {A0 A1 : Nat → Prop} {H0 : Heap} {free : Addr → Prop} {v : Option Value} {B : Heap → Prop}
    (hr : va_Run p l e R s m args below meth c H locs cells slots 0 0 (F0 m pc ls st0) rest (fun st oc t => (oc = .returned v ∧ B t.heap) ∧ va_F A1 st t) free) (hS : va_S A0 H0 H locs) (hA : ∀ q, q < H.size → A1 q → A0 q) (hf : ∀ q, free q → A0 q)
    (kk : ∀ (H1 : Heap) (locs1 : List Loc), B H1 → (∀ q : Nat, q < H.size → ¬ A1 q → H1[q]? = H[q]?) → va_S A0 H0 H1 locs1 → W p l e R s m args below meth c H1 locs1 cells slots Q (F0 m (pc + 3) ls (v.toList ++ rest))) : W p l e R s m args below meth c H locs cells slots Q (F0 m pc ls st0) := by
  intro T hT X
  obtain ⟨v', st₀, t, T', L, h0, X', hL, e1, e2, ⟨⟨hv, hb⟩, hz, hk⟩, st⟩ := hr T hT X
  cases hv
  rw [h0] at hz hk
  obtain ⟨t2, a1, b1⟩ := kk T'.heap (locs ++ L) (by rw [e1]; exact hb) (fun q h1 h2 => by rw [e1]; exact hk q h1 h2)
    ⟨Nat.le_trans hS.1 (by rw [e1]; exact hz), fun q h1 h2 => by rw [e1, hk q (Nat.lt_of_lt_of_le h1 hS.1) (fun z => h2 (hA q (Nat.lt_of_lt_of_le h1 hS.1) z))]; exact hS.2.1 q h1 h2, fun q hq => by
      rcases List.mem_append.mp hq with h | h
      · exact hS.2.2 q h
      · exact hf _ (hL q h)⟩ T' rfl X'
  exact ⟨t2, st t2 a1, b1⟩
/-- a callee's world inside the caller's: at every state the callee's cells are among the caller's; a new state of the callee makes one of the caller's -/
def k_In {S S0 : Type} (cw : S → va_W) (σ : S) (cw0 : S0 → va_W) (σ0 : S0) (put : S0 → S) : Prop :=
  k_same cw0 ∧ (∀ (k : Nat) (q : Nat × va_E), (cw0 σ0)[k]? = some q → ∃ j : Nat, (cw σ)[j]? = some q) ∧ (∀ A : Nat → Prop, (∀ τ, va_D A (cw τ)) → ∀ τ0, va_D A (cw0 τ0)) ∧
  ∀ (τ0 : S0) (k : Nat) (q : Nat × va_E), (cw (put τ0))[k]? = some q → (∃ j : Nat, (cw0 τ0)[j]? = some q) ∨ (∃ j : Nat, (cw σ)[j]? = some q) ∧ ∀ (A : Nat → Prop), va_D A (cw σ) → ∀ (i : Nat) (q0 : Nat × va_E), (cw0 σ0)[i]? = some q0 → q0.1 ≠ q.1
theorem k_In.id {cw : S → va_W} (h : k_same cw) (σ : S) : k_In cw σ cw σ id := ⟨h, fun k q hk => ⟨k, hk⟩, fun _ hD τ0 => hD τ0, fun _ k q hk => Or.inl ⟨k, hk⟩⟩
theorem k_In.P {S0 : Type} {cw : S → va_W} {σ : S} {cw0 : S0 → va_W} {σ0 : S0} {put : S0 → S} {D : va_G} {H : Heap} (h : k_In cw σ cw0 σ0 put) (hP : va_P D vwCl (cw σ) H) : va_P D vwCl (cw0 σ0) H := fun k q hk => by
  obtain ⟨j, hj⟩ := h.2.1 k q hk
  exact hP j q hj
theorem k_In.back {S0 : Type} {cw : S → va_W} {σ : S} {cw0 : S0 → va_W} {σ0 τ0 : S0} {put : S0 → S} {D : va_G} {H H1 : Heap} {A : Nat → Prop} (h : k_In cw σ cw0 σ0 put) (hD : va_D A (cw σ)) (hP : va_P D vwCl (cw σ) H) (hk : ∀ q : Nat, q < H.size → ¬ va_A (cw0 σ0) H.size q → H1[q]? = H[q]?) (hP1 : va_P D vwCl (cw0 τ0) H1) : va_P D vwCl (cw (put τ0)) H1 := by
  intro k q hq
  rcases h.2.2.2 τ0 k q hq with ⟨j, hj⟩ | ⟨⟨j, hj⟩, hap⟩
  · exact hP1 j q hj
  · have hlt := (hP j q hj).lt
    refine (hP j q hj).kept (hk q.1 hlt fun hA => ?_)
    rcases hA with ⟨i, e, hi⟩ | hA
    · exact hap A hD i _ hi rfl
    · exact absurd hlt (Nat.not_lt.mpr hA)
theorem k_goodIn {c' : Cond} (hc : c' ∈ k_ws) : GoodIn k_ws (c' :: k_ws) := by
  have hg : ∀ w, w ∈ k_ws → w ∈ k_ws ∧ ((w.onTables && w.keeps) = true ∨ ∃ ty, w = .arrayClass ty) := fun w hw => ⟨hw, good_of_word (k_good hw).2⟩
  intro w hw
  rcases List.mem_cons.mp hw with rfl | hw
  · exact hg _ hc
  · exact hg w hw
/-- what the tables say of a callee -/
def k_Vok (y : MethodName) (bytes : ByteArray) (maxL : Nat) (ret : Option FieldType) (n : Nat) : Prop :=
  Cond.code y bytes maxL ret ∈ k_ws ∧ Cond.instanceMethod y ∈ k_ws ∧ Cond.selects y.cls y y ∈ k_ws ∧ Cond.initialized y.cls ∈ k_ws ∧ (y.cls ≠ "java/lang/invoke/MethodHandle" ∧ y.cls ≠ "java/lang/invoke/VarHandle") ∧ (parseMethodDescriptor y.desc).map (fun d => d.parameters.length) = some n
def k_Sok (y : MethodName) (bytes : ByteArray) (maxL : Nat) (ret : Option FieldType) (n : Nat) : Prop :=
  Cond.code y bytes maxL ret ∈ k_ws ∧ Cond.static y ∈ k_ws ∧ Cond.initialized y.cls ∈ k_ws ∧ (y.cls ≠ "java/lang/invoke/MethodHandle" ∧ y.cls ≠ "java/lang/invoke/VarHandle") ∧ (parseMethodDescriptor y.desc).map (fun d => d.parameters.length) = some n
theorem k_callB {y : MethodName} {bytes : ByteArray} {maxL : Nat} {ret : Option FieldType} {n index : Nat} {rm : Room} (g : k_G X Y cw) (hco : Cond.code y bytes maxL ret ∈ k_ws) (hini : Cond.initialized y.cls ∈ k_ws) (hmh : y.cls ≠ "java/lang/invoke/MethodHandle" ∧ y.cls ≠ "java/lang/invoke/VarHandle") (hn : (parseMethodDescriptor y.desc).map (fun d => d.parameters.length) = some n) (hm : Cond.methodLink Y.2.2.2.1 index y ∈ k_ws) (hrm : rm.cells = 0 ∧ rm.slots = 0) (hR : rm.frames + 1 ≤ Y.1.frames ∧ 8 + (maxL + 11) + rm.locals ≤ Y.1.locals) : CallB (k_R X) (k_s X) (k_a X) Y.2.2.2.1 index y bytes maxL ret (.code y bytes maxL ret :: k_ws) rm 0 0 n := by
  have hr : k_R X = Y.1 := g.2.2.2.2.2.2.2.2.1
  exact callB_of (ws' := k_ws) n g.2.2.2.2.1 (k_goodIn hco) rfl hrm.1 hrm.2 (g.2.2.2.2.1 _ hini) (g.2.2.2.2.1 _ hm) ⟨hmh.1, hmh.2, hn⟩ (by rw [hr]; exact hR)
theorem k_blind {D : va_G} {cI : ClassId} {S0 : Type} {cw0 : S0 → va_W} {σ0 : S0} {sz : Nat} {as : List Value} : FrameBlind (va_Pc as (fun U => U.heap.size = sz ∧ va_P D vwCl (cw0 σ0) U.heap ∧ va_K D vwCl [(cI, .int)] U ∧ ∀ τ, va_D (fun _ => True) (cw0 τ))) := by
  intro a U g mk q
  obtain ⟨q0, q1, qP, qK, qD⟩ := q
  exact ⟨q0, q1, qP, va_K.moved (u := U) (U := U.calling g mk a) (Vm.Alike.refl U.vm) qK, qD⟩
/-- an instance method's call -/
theorem k_callV {S0 R0 : Type} {emb : R0 → Option Value} {y : MethodName} {bytes : ByteArray} {maxL : Nat} {ret : Option FieldType} {n index : Nat} {rm : Room} {cw0 : S0 → va_W} {σ0 : S0} {put : S0 → S} {b : Nat} {As : List Value} {f : Option (R0 × S0)} {kf : R0 → S0 → Option (Rt × S)} {stk : List Value}
    (hin : k_In cw σ cw0 σ0 put) (hok : k_Vok y bytes maxL ret n) (hm : Cond.methodLink Y.2.2.2.1 index y ∈ k_ws) (hrv : ∃ (k ci : Nat) (fs : List Value) (q : vw_C), (cw σ)[k]? = some (b, .inr (ci, fs)) ∧ vwCl[ci]? = some q ∧ q.1 = y.cls) (hlen : As.length = n) (hrm : rm.cells = 0 ∧ rm.slots = 0) (hR : rm.frames + 1 ≤ Y.1.frames ∧ 8 + (maxL + 11) + rm.locals ≤ Y.1.locals) (hk : kc ≤ Y.1.cells ∧ ks ≤ Y.1.slots) (hcat : (st.map fun v => v.category).sum ≤ 8) (hd : decode Y.2.1 pc = .ok (.invokevirtual index, 3)) (hstk : stk = As.reverse ++ .ref b :: st)
    (hM : ∀ r τ, f = some (r, τ) → k_Ct emb y bytes maxL ret rm cw0 (k_D X) (k_I X) (.ref b :: As) σ0 r τ) (kk : ∀ r τ, KO X Y cw kc ks Q (pc + 3) L ((emb r).toList ++ st) (put τ) (kf r τ)) : KO X Y cw kc ks Q pc L stk σ (k_ob f kf) := by
  subst hstk
  intro g r σ' ho H locs ls hP hS hL
  cases hf : f with
  | none => rw [hf] at ho; cases ho
  | some a =>
    obtain ⟨r0, τ⟩ := a
    rw [hf] at ho
    obtain ⟨hco, hi, hs, hini, hmh, hn⟩ := hok
    have hK := g.2.2.2.2.2.1
    have hrun := va_runV (As := As) (rest := st) (cells := kc) (slots := ks) (locs := locs) (g := F0 (k_m X) pc ls (As.reverse ++ .ref b :: st)) (nL := Y.2.2.1) (C := y.cls) ⟨g.1, g.2.1, g.2.2.1, g.2.2.2.1, g.2.2.2.2.1⟩ (hM r0 τ hf (k_l X) H.size) ⟨k_callB g hco hini hmh hn hm hrm hR, g.2.2.2.2.1 _ hi, g.2.2.2.2.1 _ hs⟩ ⟨k_blind, (by
        obtain ⟨k, ci, fs, q, h1, h2, h3⟩ := hrv
        obtain ⟨cell, c1, c2, c3⟩ := va_recv hK hP h2 h1
        exact ⟨cell, c1, c2, by rw [← h3]; exact c3⟩), fun U hU hW => ⟨rfl, by rw [hU], by rw [hU]; exact hin.P hP, va_K.moved hW.alike hK, fun τ0 => (hin.2.2.1 _ g.2.2.2.2.2.2.2.1 τ0).weaken (fun _ _ _ _ => trivial)⟩⟩ rfl hlen hL.1 rfl (lv_room hcat) hd (by rw [g.2.2.2.2.2.2.2.2.1]; exact hk) (p := k_p X) (e := k_e X) (below := k_b X) (meth := k_M X) (c := k_c X) (m := k_m X)
    have hA0 : ∀ q, va_A (cw0 σ0) H.size q → k_A X q := by
      intro q hq
      rcases hq with ⟨k, e, hk0⟩ | hq
      · exact (hin.2.2.1 _ g.2.2.2.2.2.2.2.1 σ0).2 k _ hk0
      · exact g.2.2.2.2.2.2.1 q (Nat.le_trans hS.1 hq)
    exact k_run (B := va_P (k_D X) vwCl (cw0 τ)) hrun hS (fun q _ h => hA0 q h) hA0 (fun H1 locs1 hB hk1 hS1 => kk r0 τ g r σ' ho H1 locs1 ls (hin.back (g.2.2.2.2.2.2.2.1 σ) hP hk1 hB) hS1 hL)
/-- a static method's call -/
theorem k_callS {S0 R0 : Type} {emb : R0 → Option Value} {y : MethodName} {bytes : ByteArray} {maxL : Nat} {ret : Option FieldType} {n index : Nat} {rm : Room} {cw0 : S0 → va_W} {σ0 : S0} {put : S0 → S} {As : List Value} {f : Option (R0 × S0)} {kf : R0 → S0 → Option (Rt × S)} {stk : List Value}
    (hin : k_In cw σ cw0 σ0 put) (hok : k_Sok y bytes maxL ret n) (hm : Cond.methodLink Y.2.2.2.1 index y ∈ k_ws) (hlen : As.length = n) (hrm : rm.cells = 0 ∧ rm.slots = 0) (hR : rm.frames + 1 ≤ Y.1.frames ∧ 8 + (maxL + 11) + rm.locals ≤ Y.1.locals) (hk : kc ≤ Y.1.cells ∧ ks ≤ Y.1.slots) (hcat : (st.map fun v => v.category).sum ≤ 8) (hd : decode Y.2.1 pc = .ok (.invokestatic index, 3)) (hstk : stk = As.reverse ++ st)
    (hM : ∀ r τ, f = some (r, τ) → k_Ct emb y bytes maxL ret rm cw0 (k_D X) (k_I X) As σ0 r τ) (kk : ∀ r τ, KO X Y cw kc ks Q (pc + 3) L ((emb r).toList ++ st) (put τ) (kf r τ)) : KO X Y cw kc ks Q pc L stk σ (k_ob f kf) := by
  subst hstk
  intro g r σ' ho H locs ls hP hS hL
  cases hf : f with
  | none => rw [hf] at ho; cases ho
  | some a =>
    obtain ⟨r0, τ⟩ := a
    rw [hf] at ho
    obtain ⟨hco, hs, hini, hmh, hn⟩ := hok
    have hK := g.2.2.2.2.2.1
    have hrun := va_runS (As := As) (rest := st) (cells := kc) (slots := ks) (locs := locs) (g := F0 (k_m X) pc ls (As.reverse ++ st)) (nL := Y.2.2.1) ⟨g.1, g.2.1, g.2.2.1, g.2.2.2.1, g.2.2.2.2.1⟩ (hM r0 τ hf (k_l X) H.size) ⟨k_callB g hco hini hmh hn hm hrm hR, g.2.2.2.2.1 _ hs⟩ ⟨k_blind, fun U hU hW => ⟨rfl, by rw [hU], by rw [hU]; exact hin.P hP, va_K.moved hW.alike hK, fun τ0 => (hin.2.2.1 _ g.2.2.2.2.2.2.2.1 τ0).weaken (fun _ _ _ _ => trivial)⟩⟩ rfl hlen hL.1 rfl (lv_room hcat) hd (by rw [g.2.2.2.2.2.2.2.2.1]; exact hk) (p := k_p X) (e := k_e X) (below := k_b X) (meth := k_M X) (c := k_c X) (m := k_m X)
    have hA0 : ∀ q, va_A (cw0 σ0) H.size q → k_A X q := by
      intro q hq
      rcases hq with ⟨k, e, hk0⟩ | hq
      · exact (hin.2.2.1 _ g.2.2.2.2.2.2.2.1 σ0).2 k _ hk0
      · exact g.2.2.2.2.2.2.1 q (Nat.le_trans hS.1 hq)
    exact k_run (B := va_P (k_D X) vwCl (cw0 τ)) hrun hS (fun q _ h => hA0 q h) hA0 (fun H1 locs1 hB hk1 hS1 => kk r0 τ g r σ' ho H1 locs1 ls (hin.back (g.2.2.2.2.2.2.2.1 σ) hP hk1 hB) hS1 hL)
theorem k_Vi0 {S0 : Type} {y : MethodName} {bytes : ByteArray} {maxL : Nat} {ret : Option FieldType} {index : Nat} {rm : Room} {cw0 : S0 → va_W} {σ0 : S0} {put : S0 → S} {b : Nat} {f : Option (Int32 × S0)} {kf : Int32 → S0 → Option (Rt × S)} (hin : k_In cw σ cw0 σ0 put) (hok : k_Vok y bytes maxL ret 0) (hm : Cond.methodLink Y.2.2.2.1 index y ∈ k_ws) (hrv : ∃ (k ci : Nat) (fs : List Value) (q : vw_C), (cw σ)[k]? = some (b, .inr (ci, fs)) ∧ vwCl[ci]? = some q ∧ q.1 = y.cls) (hrm : rm.cells = 0 ∧ rm.slots = 0) (hR : rm.frames + 1 ≤ Y.1.frames ∧ 8 + (maxL + 11) + rm.locals ≤ Y.1.locals) (hk : kc ≤ Y.1.cells ∧ ks ≤ Y.1.slots) (hcat : (st.map fun v => v.category).sum ≤ 8) (hd : decode Y.2.1 pc = .ok (.invokevirtual index, 3)) (hM : ∀ r τ, f = some (r, τ) → k_Ct k_ei y bytes maxL ret rm cw0 (k_D X) (k_I X) (.ref b :: []) σ0 r τ) (kk : ∀ r τ, KO X Y cw kc ks Q (pc + 3) L (.int r :: st) (put τ) (kf r τ)) : KO X Y cw kc ks Q pc L (.ref b :: st) σ (k_ob f kf) := k_callV (As := []) hin hok hm hrv rfl hrm hR hk hcat hd rfl hM kk
theorem k_Si0 {S0 : Type} {y : MethodName} {bytes : ByteArray} {maxL : Nat} {ret : Option FieldType} {index : Nat} {rm : Room} {cw0 : S0 → va_W} {σ0 : S0} {put : S0 → S} {f : Option (Int32 × S0)} {kf : Int32 → S0 → Option (Rt × S)} (hin : k_In cw σ cw0 σ0 put) (hok : k_Sok y bytes maxL ret 0) (hm : Cond.methodLink Y.2.2.2.1 index y ∈ k_ws) (hrm : rm.cells = 0 ∧ rm.slots = 0) (hR : rm.frames + 1 ≤ Y.1.frames ∧ 8 + (maxL + 11) + rm.locals ≤ Y.1.locals) (hk : kc ≤ Y.1.cells ∧ ks ≤ Y.1.slots) (hcat : (st.map fun v => v.category).sum ≤ 8) (hd : decode Y.2.1 pc = .ok (.invokestatic index, 3)) (hM : ∀ r τ, f = some (r, τ) → k_Ct k_ei y bytes maxL ret rm cw0 (k_D X) (k_I X) [] σ0 r τ) (kk : ∀ r τ, KO X Y cw kc ks Q (pc + 3) L (.int r :: st) (put τ) (kf r τ)) : KO X Y cw kc ks Q pc L (st) σ (k_ob f kf) := k_callS (As := []) hin hok hm rfl hrm hR hk hcat hd rfl hM kk
theorem k_Vv0 {S0 : Type} {y : MethodName} {bytes : ByteArray} {maxL : Nat} {ret : Option FieldType} {index : Nat} {rm : Room} {cw0 : S0 → va_W} {σ0 : S0} {put : S0 → S} {b : Nat} {f : Option (Unit × S0)} {kf : Unit → S0 → Option (Rt × S)} (hin : k_In cw σ cw0 σ0 put) (hok : k_Vok y bytes maxL ret 0) (hm : Cond.methodLink Y.2.2.2.1 index y ∈ k_ws) (hrv : ∃ (k ci : Nat) (fs : List Value) (q : vw_C), (cw σ)[k]? = some (b, .inr (ci, fs)) ∧ vwCl[ci]? = some q ∧ q.1 = y.cls) (hrm : rm.cells = 0 ∧ rm.slots = 0) (hR : rm.frames + 1 ≤ Y.1.frames ∧ 8 + (maxL + 11) + rm.locals ≤ Y.1.locals) (hk : kc ≤ Y.1.cells ∧ ks ≤ Y.1.slots) (hcat : (st.map fun v => v.category).sum ≤ 8) (hd : decode Y.2.1 pc = .ok (.invokevirtual index, 3)) (hM : ∀ r τ, f = some (r, τ) → k_Ct k_ev y bytes maxL ret rm cw0 (k_D X) (k_I X) (.ref b :: []) σ0 r τ) (kk : ∀ r τ, KO X Y cw kc ks Q (pc + 3) L (st) (put τ) (kf r τ)) : KO X Y cw kc ks Q pc L (.ref b :: st) σ (k_ob f kf) := k_callV (As := []) hin hok hm hrv rfl hrm hR hk hcat hd rfl hM kk
theorem k_Sv0 {S0 : Type} {y : MethodName} {bytes : ByteArray} {maxL : Nat} {ret : Option FieldType} {index : Nat} {rm : Room} {cw0 : S0 → va_W} {σ0 : S0} {put : S0 → S} {f : Option (Unit × S0)} {kf : Unit → S0 → Option (Rt × S)} (hin : k_In cw σ cw0 σ0 put) (hok : k_Sok y bytes maxL ret 0) (hm : Cond.methodLink Y.2.2.2.1 index y ∈ k_ws) (hrm : rm.cells = 0 ∧ rm.slots = 0) (hR : rm.frames + 1 ≤ Y.1.frames ∧ 8 + (maxL + 11) + rm.locals ≤ Y.1.locals) (hk : kc ≤ Y.1.cells ∧ ks ≤ Y.1.slots) (hcat : (st.map fun v => v.category).sum ≤ 8) (hd : decode Y.2.1 pc = .ok (.invokestatic index, 3)) (hM : ∀ r τ, f = some (r, τ) → k_Ct k_ev y bytes maxL ret rm cw0 (k_D X) (k_I X) [] σ0 r τ) (kk : ∀ r τ, KO X Y cw kc ks Q (pc + 3) L (st) (put τ) (kf r τ)) : KO X Y cw kc ks Q pc L (st) σ (k_ob f kf) := k_callS (As := []) hin hok hm rfl hrm hR hk hcat hd rfl hM kk
theorem k_Vi1 {S0 : Type} {y : MethodName} {bytes : ByteArray} {maxL : Nat} {ret : Option FieldType} {index : Nat} {rm : Room} {cw0 : S0 → va_W} {σ0 : S0} {put : S0 → S} {b : Nat} {v1 : Value} {f : Option (Int32 × S0)} {kf : Int32 → S0 → Option (Rt × S)} (hin : k_In cw σ cw0 σ0 put) (hok : k_Vok y bytes maxL ret 1) (hm : Cond.methodLink Y.2.2.2.1 index y ∈ k_ws) (hrv : ∃ (k ci : Nat) (fs : List Value) (q : vw_C), (cw σ)[k]? = some (b, .inr (ci, fs)) ∧ vwCl[ci]? = some q ∧ q.1 = y.cls) (hrm : rm.cells = 0 ∧ rm.slots = 0) (hR : rm.frames + 1 ≤ Y.1.frames ∧ 8 + (maxL + 11) + rm.locals ≤ Y.1.locals) (hk : kc ≤ Y.1.cells ∧ ks ≤ Y.1.slots) (hcat : (st.map fun v => v.category).sum ≤ 8) (hd : decode Y.2.1 pc = .ok (.invokevirtual index, 3)) (hM : ∀ r τ, f = some (r, τ) → k_Ct k_ei y bytes maxL ret rm cw0 (k_D X) (k_I X) (.ref b :: [v1]) σ0 r τ) (kk : ∀ r τ, KO X Y cw kc ks Q (pc + 3) L (.int r :: st) (put τ) (kf r τ)) : KO X Y cw kc ks Q pc L (v1 :: .ref b :: st) σ (k_ob f kf) := k_callV (As := [v1]) hin hok hm hrv rfl hrm hR hk hcat hd rfl hM kk
theorem k_Si1 {S0 : Type} {y : MethodName} {bytes : ByteArray} {maxL : Nat} {ret : Option FieldType} {index : Nat} {rm : Room} {cw0 : S0 → va_W} {σ0 : S0} {put : S0 → S} {v1 : Value} {f : Option (Int32 × S0)} {kf : Int32 → S0 → Option (Rt × S)} (hin : k_In cw σ cw0 σ0 put) (hok : k_Sok y bytes maxL ret 1) (hm : Cond.methodLink Y.2.2.2.1 index y ∈ k_ws) (hrm : rm.cells = 0 ∧ rm.slots = 0) (hR : rm.frames + 1 ≤ Y.1.frames ∧ 8 + (maxL + 11) + rm.locals ≤ Y.1.locals) (hk : kc ≤ Y.1.cells ∧ ks ≤ Y.1.slots) (hcat : (st.map fun v => v.category).sum ≤ 8) (hd : decode Y.2.1 pc = .ok (.invokestatic index, 3)) (hM : ∀ r τ, f = some (r, τ) → k_Ct k_ei y bytes maxL ret rm cw0 (k_D X) (k_I X) [v1] σ0 r τ) (kk : ∀ r τ, KO X Y cw kc ks Q (pc + 3) L (.int r :: st) (put τ) (kf r τ)) : KO X Y cw kc ks Q pc L (v1 :: st) σ (k_ob f kf) := k_callS (As := [v1]) hin hok hm rfl hrm hR hk hcat hd rfl hM kk
theorem k_Vv1 {S0 : Type} {y : MethodName} {bytes : ByteArray} {maxL : Nat} {ret : Option FieldType} {index : Nat} {rm : Room} {cw0 : S0 → va_W} {σ0 : S0} {put : S0 → S} {b : Nat} {v1 : Value} {f : Option (Unit × S0)} {kf : Unit → S0 → Option (Rt × S)} (hin : k_In cw σ cw0 σ0 put) (hok : k_Vok y bytes maxL ret 1) (hm : Cond.methodLink Y.2.2.2.1 index y ∈ k_ws) (hrv : ∃ (k ci : Nat) (fs : List Value) (q : vw_C), (cw σ)[k]? = some (b, .inr (ci, fs)) ∧ vwCl[ci]? = some q ∧ q.1 = y.cls) (hrm : rm.cells = 0 ∧ rm.slots = 0) (hR : rm.frames + 1 ≤ Y.1.frames ∧ 8 + (maxL + 11) + rm.locals ≤ Y.1.locals) (hk : kc ≤ Y.1.cells ∧ ks ≤ Y.1.slots) (hcat : (st.map fun v => v.category).sum ≤ 8) (hd : decode Y.2.1 pc = .ok (.invokevirtual index, 3)) (hM : ∀ r τ, f = some (r, τ) → k_Ct k_ev y bytes maxL ret rm cw0 (k_D X) (k_I X) (.ref b :: [v1]) σ0 r τ) (kk : ∀ r τ, KO X Y cw kc ks Q (pc + 3) L (st) (put τ) (kf r τ)) : KO X Y cw kc ks Q pc L (v1 :: .ref b :: st) σ (k_ob f kf) := k_callV (As := [v1]) hin hok hm hrv rfl hrm hR hk hcat hd rfl hM kk
theorem k_Sv1 {S0 : Type} {y : MethodName} {bytes : ByteArray} {maxL : Nat} {ret : Option FieldType} {index : Nat} {rm : Room} {cw0 : S0 → va_W} {σ0 : S0} {put : S0 → S} {v1 : Value} {f : Option (Unit × S0)} {kf : Unit → S0 → Option (Rt × S)} (hin : k_In cw σ cw0 σ0 put) (hok : k_Sok y bytes maxL ret 1) (hm : Cond.methodLink Y.2.2.2.1 index y ∈ k_ws) (hrm : rm.cells = 0 ∧ rm.slots = 0) (hR : rm.frames + 1 ≤ Y.1.frames ∧ 8 + (maxL + 11) + rm.locals ≤ Y.1.locals) (hk : kc ≤ Y.1.cells ∧ ks ≤ Y.1.slots) (hcat : (st.map fun v => v.category).sum ≤ 8) (hd : decode Y.2.1 pc = .ok (.invokestatic index, 3)) (hM : ∀ r τ, f = some (r, τ) → k_Ct k_ev y bytes maxL ret rm cw0 (k_D X) (k_I X) [v1] σ0 r τ) (kk : ∀ r τ, KO X Y cw kc ks Q (pc + 3) L (st) (put τ) (kf r τ)) : KO X Y cw kc ks Q pc L (v1 :: st) σ (k_ob f kf) := k_callS (As := [v1]) hin hok hm rfl hrm hR hk hcat hd rfl hM kk
theorem k_Vi2 {S0 : Type} {y : MethodName} {bytes : ByteArray} {maxL : Nat} {ret : Option FieldType} {index : Nat} {rm : Room} {cw0 : S0 → va_W} {σ0 : S0} {put : S0 → S} {b : Nat} {v1 v2 : Value} {f : Option (Int32 × S0)} {kf : Int32 → S0 → Option (Rt × S)} (hin : k_In cw σ cw0 σ0 put) (hok : k_Vok y bytes maxL ret 2) (hm : Cond.methodLink Y.2.2.2.1 index y ∈ k_ws) (hrv : ∃ (k ci : Nat) (fs : List Value) (q : vw_C), (cw σ)[k]? = some (b, .inr (ci, fs)) ∧ vwCl[ci]? = some q ∧ q.1 = y.cls) (hrm : rm.cells = 0 ∧ rm.slots = 0) (hR : rm.frames + 1 ≤ Y.1.frames ∧ 8 + (maxL + 11) + rm.locals ≤ Y.1.locals) (hk : kc ≤ Y.1.cells ∧ ks ≤ Y.1.slots) (hcat : (st.map fun v => v.category).sum ≤ 8) (hd : decode Y.2.1 pc = .ok (.invokevirtual index, 3)) (hM : ∀ r τ, f = some (r, τ) → k_Ct k_ei y bytes maxL ret rm cw0 (k_D X) (k_I X) (.ref b :: [v1, v2]) σ0 r τ) (kk : ∀ r τ, KO X Y cw kc ks Q (pc + 3) L (.int r :: st) (put τ) (kf r τ)) : KO X Y cw kc ks Q pc L (v2 :: v1 :: .ref b :: st) σ (k_ob f kf) := k_callV (As := [v1, v2]) hin hok hm hrv rfl hrm hR hk hcat hd rfl hM kk
theorem k_Si2 {S0 : Type} {y : MethodName} {bytes : ByteArray} {maxL : Nat} {ret : Option FieldType} {index : Nat} {rm : Room} {cw0 : S0 → va_W} {σ0 : S0} {put : S0 → S} {v1 v2 : Value} {f : Option (Int32 × S0)} {kf : Int32 → S0 → Option (Rt × S)} (hin : k_In cw σ cw0 σ0 put) (hok : k_Sok y bytes maxL ret 2) (hm : Cond.methodLink Y.2.2.2.1 index y ∈ k_ws) (hrm : rm.cells = 0 ∧ rm.slots = 0) (hR : rm.frames + 1 ≤ Y.1.frames ∧ 8 + (maxL + 11) + rm.locals ≤ Y.1.locals) (hk : kc ≤ Y.1.cells ∧ ks ≤ Y.1.slots) (hcat : (st.map fun v => v.category).sum ≤ 8) (hd : decode Y.2.1 pc = .ok (.invokestatic index, 3)) (hM : ∀ r τ, f = some (r, τ) → k_Ct k_ei y bytes maxL ret rm cw0 (k_D X) (k_I X) [v1, v2] σ0 r τ) (kk : ∀ r τ, KO X Y cw kc ks Q (pc + 3) L (.int r :: st) (put τ) (kf r τ)) : KO X Y cw kc ks Q pc L (v2 :: v1 :: st) σ (k_ob f kf) := k_callS (As := [v1, v2]) hin hok hm rfl hrm hR hk hcat hd rfl hM kk
theorem k_Vv2 {S0 : Type} {y : MethodName} {bytes : ByteArray} {maxL : Nat} {ret : Option FieldType} {index : Nat} {rm : Room} {cw0 : S0 → va_W} {σ0 : S0} {put : S0 → S} {b : Nat} {v1 v2 : Value} {f : Option (Unit × S0)} {kf : Unit → S0 → Option (Rt × S)} (hin : k_In cw σ cw0 σ0 put) (hok : k_Vok y bytes maxL ret 2) (hm : Cond.methodLink Y.2.2.2.1 index y ∈ k_ws) (hrv : ∃ (k ci : Nat) (fs : List Value) (q : vw_C), (cw σ)[k]? = some (b, .inr (ci, fs)) ∧ vwCl[ci]? = some q ∧ q.1 = y.cls) (hrm : rm.cells = 0 ∧ rm.slots = 0) (hR : rm.frames + 1 ≤ Y.1.frames ∧ 8 + (maxL + 11) + rm.locals ≤ Y.1.locals) (hk : kc ≤ Y.1.cells ∧ ks ≤ Y.1.slots) (hcat : (st.map fun v => v.category).sum ≤ 8) (hd : decode Y.2.1 pc = .ok (.invokevirtual index, 3)) (hM : ∀ r τ, f = some (r, τ) → k_Ct k_ev y bytes maxL ret rm cw0 (k_D X) (k_I X) (.ref b :: [v1, v2]) σ0 r τ) (kk : ∀ r τ, KO X Y cw kc ks Q (pc + 3) L (st) (put τ) (kf r τ)) : KO X Y cw kc ks Q pc L (v2 :: v1 :: .ref b :: st) σ (k_ob f kf) := k_callV (As := [v1, v2]) hin hok hm hrv rfl hrm hR hk hcat hd rfl hM kk
theorem k_Sv2 {S0 : Type} {y : MethodName} {bytes : ByteArray} {maxL : Nat} {ret : Option FieldType} {index : Nat} {rm : Room} {cw0 : S0 → va_W} {σ0 : S0} {put : S0 → S} {v1 v2 : Value} {f : Option (Unit × S0)} {kf : Unit → S0 → Option (Rt × S)} (hin : k_In cw σ cw0 σ0 put) (hok : k_Sok y bytes maxL ret 2) (hm : Cond.methodLink Y.2.2.2.1 index y ∈ k_ws) (hrm : rm.cells = 0 ∧ rm.slots = 0) (hR : rm.frames + 1 ≤ Y.1.frames ∧ 8 + (maxL + 11) + rm.locals ≤ Y.1.locals) (hk : kc ≤ Y.1.cells ∧ ks ≤ Y.1.slots) (hcat : (st.map fun v => v.category).sum ≤ 8) (hd : decode Y.2.1 pc = .ok (.invokestatic index, 3)) (hM : ∀ r τ, f = some (r, τ) → k_Ct k_ev y bytes maxL ret rm cw0 (k_D X) (k_I X) [v1, v2] σ0 r τ) (kk : ∀ r τ, KO X Y cw kc ks Q (pc + 3) L (st) (put τ) (kf r τ)) : KO X Y cw kc ks Q pc L (v2 :: v1 :: st) σ (k_ob f kf) := k_callS (As := [v1, v2]) hin hok hm rfl hrm hR hk hcat hd rfl hM kk
theorem k_Vi3 {S0 : Type} {y : MethodName} {bytes : ByteArray} {maxL : Nat} {ret : Option FieldType} {index : Nat} {rm : Room} {cw0 : S0 → va_W} {σ0 : S0} {put : S0 → S} {b : Nat} {v1 v2 v3 : Value} {f : Option (Int32 × S0)} {kf : Int32 → S0 → Option (Rt × S)} (hin : k_In cw σ cw0 σ0 put) (hok : k_Vok y bytes maxL ret 3) (hm : Cond.methodLink Y.2.2.2.1 index y ∈ k_ws) (hrv : ∃ (k ci : Nat) (fs : List Value) (q : vw_C), (cw σ)[k]? = some (b, .inr (ci, fs)) ∧ vwCl[ci]? = some q ∧ q.1 = y.cls) (hrm : rm.cells = 0 ∧ rm.slots = 0) (hR : rm.frames + 1 ≤ Y.1.frames ∧ 8 + (maxL + 11) + rm.locals ≤ Y.1.locals) (hk : kc ≤ Y.1.cells ∧ ks ≤ Y.1.slots) (hcat : (st.map fun v => v.category).sum ≤ 8) (hd : decode Y.2.1 pc = .ok (.invokevirtual index, 3)) (hM : ∀ r τ, f = some (r, τ) → k_Ct k_ei y bytes maxL ret rm cw0 (k_D X) (k_I X) (.ref b :: [v1, v2, v3]) σ0 r τ) (kk : ∀ r τ, KO X Y cw kc ks Q (pc + 3) L (.int r :: st) (put τ) (kf r τ)) : KO X Y cw kc ks Q pc L (v3 :: v2 :: v1 :: .ref b :: st) σ (k_ob f kf) := k_callV (As := [v1, v2, v3]) hin hok hm hrv rfl hrm hR hk hcat hd rfl hM kk
theorem k_Si3 {S0 : Type} {y : MethodName} {bytes : ByteArray} {maxL : Nat} {ret : Option FieldType} {index : Nat} {rm : Room} {cw0 : S0 → va_W} {σ0 : S0} {put : S0 → S} {v1 v2 v3 : Value} {f : Option (Int32 × S0)} {kf : Int32 → S0 → Option (Rt × S)} (hin : k_In cw σ cw0 σ0 put) (hok : k_Sok y bytes maxL ret 3) (hm : Cond.methodLink Y.2.2.2.1 index y ∈ k_ws) (hrm : rm.cells = 0 ∧ rm.slots = 0) (hR : rm.frames + 1 ≤ Y.1.frames ∧ 8 + (maxL + 11) + rm.locals ≤ Y.1.locals) (hk : kc ≤ Y.1.cells ∧ ks ≤ Y.1.slots) (hcat : (st.map fun v => v.category).sum ≤ 8) (hd : decode Y.2.1 pc = .ok (.invokestatic index, 3)) (hM : ∀ r τ, f = some (r, τ) → k_Ct k_ei y bytes maxL ret rm cw0 (k_D X) (k_I X) [v1, v2, v3] σ0 r τ) (kk : ∀ r τ, KO X Y cw kc ks Q (pc + 3) L (.int r :: st) (put τ) (kf r τ)) : KO X Y cw kc ks Q pc L (v3 :: v2 :: v1 :: st) σ (k_ob f kf) := k_callS (As := [v1, v2, v3]) hin hok hm rfl hrm hR hk hcat hd rfl hM kk
theorem k_Vv3 {S0 : Type} {y : MethodName} {bytes : ByteArray} {maxL : Nat} {ret : Option FieldType} {index : Nat} {rm : Room} {cw0 : S0 → va_W} {σ0 : S0} {put : S0 → S} {b : Nat} {v1 v2 v3 : Value} {f : Option (Unit × S0)} {kf : Unit → S0 → Option (Rt × S)} (hin : k_In cw σ cw0 σ0 put) (hok : k_Vok y bytes maxL ret 3) (hm : Cond.methodLink Y.2.2.2.1 index y ∈ k_ws) (hrv : ∃ (k ci : Nat) (fs : List Value) (q : vw_C), (cw σ)[k]? = some (b, .inr (ci, fs)) ∧ vwCl[ci]? = some q ∧ q.1 = y.cls) (hrm : rm.cells = 0 ∧ rm.slots = 0) (hR : rm.frames + 1 ≤ Y.1.frames ∧ 8 + (maxL + 11) + rm.locals ≤ Y.1.locals) (hk : kc ≤ Y.1.cells ∧ ks ≤ Y.1.slots) (hcat : (st.map fun v => v.category).sum ≤ 8) (hd : decode Y.2.1 pc = .ok (.invokevirtual index, 3)) (hM : ∀ r τ, f = some (r, τ) → k_Ct k_ev y bytes maxL ret rm cw0 (k_D X) (k_I X) (.ref b :: [v1, v2, v3]) σ0 r τ) (kk : ∀ r τ, KO X Y cw kc ks Q (pc + 3) L (st) (put τ) (kf r τ)) : KO X Y cw kc ks Q pc L (v3 :: v2 :: v1 :: .ref b :: st) σ (k_ob f kf) := k_callV (As := [v1, v2, v3]) hin hok hm hrv rfl hrm hR hk hcat hd rfl hM kk
theorem k_Sv3 {S0 : Type} {y : MethodName} {bytes : ByteArray} {maxL : Nat} {ret : Option FieldType} {index : Nat} {rm : Room} {cw0 : S0 → va_W} {σ0 : S0} {put : S0 → S} {v1 v2 v3 : Value} {f : Option (Unit × S0)} {kf : Unit → S0 → Option (Rt × S)} (hin : k_In cw σ cw0 σ0 put) (hok : k_Sok y bytes maxL ret 3) (hm : Cond.methodLink Y.2.2.2.1 index y ∈ k_ws) (hrm : rm.cells = 0 ∧ rm.slots = 0) (hR : rm.frames + 1 ≤ Y.1.frames ∧ 8 + (maxL + 11) + rm.locals ≤ Y.1.locals) (hk : kc ≤ Y.1.cells ∧ ks ≤ Y.1.slots) (hcat : (st.map fun v => v.category).sum ≤ 8) (hd : decode Y.2.1 pc = .ok (.invokestatic index, 3)) (hM : ∀ r τ, f = some (r, τ) → k_Ct k_ev y bytes maxL ret rm cw0 (k_D X) (k_I X) [v1, v2, v3] σ0 r τ) (kk : ∀ r τ, KO X Y cw kc ks Q (pc + 3) L (st) (put τ) (kf r τ)) : KO X Y cw kc ks Q pc L (v3 :: v2 :: v1 :: st) σ (k_ob f kf) := k_callS (As := [v1, v2, v3]) hin hok hm rfl hrm hR hk hcat hd rfl hM kk
theorem k_Vl3 {S0 : Type} {y : MethodName} {bytes : ByteArray} {maxL : Nat} {ret : Option FieldType} {index : Nat} {rm : Room} {cw0 : S0 → va_W} {σ0 : S0} {put : S0 → S} {b : Nat} {v1 v2 v3 : Value} {f : Option (Int64 × S0)} {kf : Int64 → S0 → Option (Rt × S)} (hin : k_In cw σ cw0 σ0 put) (hok : k_Vok y bytes maxL ret 3) (hm : Cond.methodLink Y.2.2.2.1 index y ∈ k_ws) (hrv : ∃ (k ci : Nat) (fs : List Value) (q : vw_C), (cw σ)[k]? = some (b, .inr (ci, fs)) ∧ vwCl[ci]? = some q ∧ q.1 = y.cls) (hrm : rm.cells = 0 ∧ rm.slots = 0) (hR : rm.frames + 1 ≤ Y.1.frames ∧ 8 + (maxL + 11) + rm.locals ≤ Y.1.locals) (hk : kc ≤ Y.1.cells ∧ ks ≤ Y.1.slots) (hcat : (st.map fun v => v.category).sum ≤ 8) (hd : decode Y.2.1 pc = .ok (.invokevirtual index, 3)) (hM : ∀ r τ, f = some (r, τ) → k_Ct k_el y bytes maxL ret rm cw0 (k_D X) (k_I X) (.ref b :: [v1, v2, v3]) σ0 r τ) (kk : ∀ r τ, KO X Y cw kc ks Q (pc + 3) L (.long r :: st) (put τ) (kf r τ)) : KO X Y cw kc ks Q pc L (v3 :: v2 :: v1 :: .ref b :: st) σ (k_ob f kf) := k_callV (As := [v1, v2, v3]) hin hok hm hrv rfl hrm hR hk hcat hd rfl hM kk
theorem k_Vi4 {S0 : Type} {y : MethodName} {bytes : ByteArray} {maxL : Nat} {ret : Option FieldType} {index : Nat} {rm : Room} {cw0 : S0 → va_W} {σ0 : S0} {put : S0 → S} {b : Nat} {v1 v2 v3 v4 : Value} {f : Option (Int32 × S0)} {kf : Int32 → S0 → Option (Rt × S)} (hin : k_In cw σ cw0 σ0 put) (hok : k_Vok y bytes maxL ret 4) (hm : Cond.methodLink Y.2.2.2.1 index y ∈ k_ws) (hrv : ∃ (k ci : Nat) (fs : List Value) (q : vw_C), (cw σ)[k]? = some (b, .inr (ci, fs)) ∧ vwCl[ci]? = some q ∧ q.1 = y.cls) (hrm : rm.cells = 0 ∧ rm.slots = 0) (hR : rm.frames + 1 ≤ Y.1.frames ∧ 8 + (maxL + 11) + rm.locals ≤ Y.1.locals) (hk : kc ≤ Y.1.cells ∧ ks ≤ Y.1.slots) (hcat : (st.map fun v => v.category).sum ≤ 8) (hd : decode Y.2.1 pc = .ok (.invokevirtual index, 3)) (hM : ∀ r τ, f = some (r, τ) → k_Ct k_ei y bytes maxL ret rm cw0 (k_D X) (k_I X) (.ref b :: [v1, v2, v3, v4]) σ0 r τ) (kk : ∀ r τ, KO X Y cw kc ks Q (pc + 3) L (.int r :: st) (put τ) (kf r τ)) : KO X Y cw kc ks Q pc L (v4 :: v3 :: v2 :: v1 :: .ref b :: st) σ (k_ob f kf) := k_callV (As := [v1, v2, v3, v4]) hin hok hm hrv rfl hrm hR hk hcat hd rfl hM kk
theorem k_Si4 {S0 : Type} {y : MethodName} {bytes : ByteArray} {maxL : Nat} {ret : Option FieldType} {index : Nat} {rm : Room} {cw0 : S0 → va_W} {σ0 : S0} {put : S0 → S} {v1 v2 v3 v4 : Value} {f : Option (Int32 × S0)} {kf : Int32 → S0 → Option (Rt × S)} (hin : k_In cw σ cw0 σ0 put) (hok : k_Sok y bytes maxL ret 4) (hm : Cond.methodLink Y.2.2.2.1 index y ∈ k_ws) (hrm : rm.cells = 0 ∧ rm.slots = 0) (hR : rm.frames + 1 ≤ Y.1.frames ∧ 8 + (maxL + 11) + rm.locals ≤ Y.1.locals) (hk : kc ≤ Y.1.cells ∧ ks ≤ Y.1.slots) (hcat : (st.map fun v => v.category).sum ≤ 8) (hd : decode Y.2.1 pc = .ok (.invokestatic index, 3)) (hM : ∀ r τ, f = some (r, τ) → k_Ct k_ei y bytes maxL ret rm cw0 (k_D X) (k_I X) [v1, v2, v3, v4] σ0 r τ) (kk : ∀ r τ, KO X Y cw kc ks Q (pc + 3) L (.int r :: st) (put τ) (kf r τ)) : KO X Y cw kc ks Q pc L (v4 :: v3 :: v2 :: v1 :: st) σ (k_ob f kf) := k_callS (As := [v1, v2, v3, v4]) hin hok hm rfl hrm hR hk hcat hd rfl hM kk
theorem k_Vv4 {S0 : Type} {y : MethodName} {bytes : ByteArray} {maxL : Nat} {ret : Option FieldType} {index : Nat} {rm : Room} {cw0 : S0 → va_W} {σ0 : S0} {put : S0 → S} {b : Nat} {v1 v2 v3 v4 : Value} {f : Option (Unit × S0)} {kf : Unit → S0 → Option (Rt × S)} (hin : k_In cw σ cw0 σ0 put) (hok : k_Vok y bytes maxL ret 4) (hm : Cond.methodLink Y.2.2.2.1 index y ∈ k_ws) (hrv : ∃ (k ci : Nat) (fs : List Value) (q : vw_C), (cw σ)[k]? = some (b, .inr (ci, fs)) ∧ vwCl[ci]? = some q ∧ q.1 = y.cls) (hrm : rm.cells = 0 ∧ rm.slots = 0) (hR : rm.frames + 1 ≤ Y.1.frames ∧ 8 + (maxL + 11) + rm.locals ≤ Y.1.locals) (hk : kc ≤ Y.1.cells ∧ ks ≤ Y.1.slots) (hcat : (st.map fun v => v.category).sum ≤ 8) (hd : decode Y.2.1 pc = .ok (.invokevirtual index, 3)) (hM : ∀ r τ, f = some (r, τ) → k_Ct k_ev y bytes maxL ret rm cw0 (k_D X) (k_I X) (.ref b :: [v1, v2, v3, v4]) σ0 r τ) (kk : ∀ r τ, KO X Y cw kc ks Q (pc + 3) L (st) (put τ) (kf r τ)) : KO X Y cw kc ks Q pc L (v4 :: v3 :: v2 :: v1 :: .ref b :: st) σ (k_ob f kf) := k_callV (As := [v1, v2, v3, v4]) hin hok hm hrv rfl hrm hR hk hcat hd rfl hM kk
theorem k_Sv4 {S0 : Type} {y : MethodName} {bytes : ByteArray} {maxL : Nat} {ret : Option FieldType} {index : Nat} {rm : Room} {cw0 : S0 → va_W} {σ0 : S0} {put : S0 → S} {v1 v2 v3 v4 : Value} {f : Option (Unit × S0)} {kf : Unit → S0 → Option (Rt × S)} (hin : k_In cw σ cw0 σ0 put) (hok : k_Sok y bytes maxL ret 4) (hm : Cond.methodLink Y.2.2.2.1 index y ∈ k_ws) (hrm : rm.cells = 0 ∧ rm.slots = 0) (hR : rm.frames + 1 ≤ Y.1.frames ∧ 8 + (maxL + 11) + rm.locals ≤ Y.1.locals) (hk : kc ≤ Y.1.cells ∧ ks ≤ Y.1.slots) (hcat : (st.map fun v => v.category).sum ≤ 8) (hd : decode Y.2.1 pc = .ok (.invokestatic index, 3)) (hM : ∀ r τ, f = some (r, τ) → k_Ct k_ev y bytes maxL ret rm cw0 (k_D X) (k_I X) [v1, v2, v3, v4] σ0 r τ) (kk : ∀ r τ, KO X Y cw kc ks Q (pc + 3) L (st) (put τ) (kf r τ)) : KO X Y cw kc ks Q pc L (v4 :: v3 :: v2 :: v1 :: st) σ (k_ob f kf) := k_callS (As := [v1, v2, v3, v4]) hin hok hm rfl hrm hR hk hcat hd rfl hM kk
theorem k_Vi5 {S0 : Type} {y : MethodName} {bytes : ByteArray} {maxL : Nat} {ret : Option FieldType} {index : Nat} {rm : Room} {cw0 : S0 → va_W} {σ0 : S0} {put : S0 → S} {b : Nat} {v1 v2 v3 v4 v5 : Value} {f : Option (Int32 × S0)} {kf : Int32 → S0 → Option (Rt × S)} (hin : k_In cw σ cw0 σ0 put) (hok : k_Vok y bytes maxL ret 5) (hm : Cond.methodLink Y.2.2.2.1 index y ∈ k_ws) (hrv : ∃ (k ci : Nat) (fs : List Value) (q : vw_C), (cw σ)[k]? = some (b, .inr (ci, fs)) ∧ vwCl[ci]? = some q ∧ q.1 = y.cls) (hrm : rm.cells = 0 ∧ rm.slots = 0) (hR : rm.frames + 1 ≤ Y.1.frames ∧ 8 + (maxL + 11) + rm.locals ≤ Y.1.locals) (hk : kc ≤ Y.1.cells ∧ ks ≤ Y.1.slots) (hcat : (st.map fun v => v.category).sum ≤ 8) (hd : decode Y.2.1 pc = .ok (.invokevirtual index, 3)) (hM : ∀ r τ, f = some (r, τ) → k_Ct k_ei y bytes maxL ret rm cw0 (k_D X) (k_I X) (.ref b :: [v1, v2, v3, v4, v5]) σ0 r τ) (kk : ∀ r τ, KO X Y cw kc ks Q (pc + 3) L (.int r :: st) (put τ) (kf r τ)) : KO X Y cw kc ks Q pc L (v5 :: v4 :: v3 :: v2 :: v1 :: .ref b :: st) σ (k_ob f kf) := k_callV (As := [v1, v2, v3, v4, v5]) hin hok hm hrv rfl hrm hR hk hcat hd rfl hM kk
theorem k_Si5 {S0 : Type} {y : MethodName} {bytes : ByteArray} {maxL : Nat} {ret : Option FieldType} {index : Nat} {rm : Room} {cw0 : S0 → va_W} {σ0 : S0} {put : S0 → S} {v1 v2 v3 v4 v5 : Value} {f : Option (Int32 × S0)} {kf : Int32 → S0 → Option (Rt × S)} (hin : k_In cw σ cw0 σ0 put) (hok : k_Sok y bytes maxL ret 5) (hm : Cond.methodLink Y.2.2.2.1 index y ∈ k_ws) (hrm : rm.cells = 0 ∧ rm.slots = 0) (hR : rm.frames + 1 ≤ Y.1.frames ∧ 8 + (maxL + 11) + rm.locals ≤ Y.1.locals) (hk : kc ≤ Y.1.cells ∧ ks ≤ Y.1.slots) (hcat : (st.map fun v => v.category).sum ≤ 8) (hd : decode Y.2.1 pc = .ok (.invokestatic index, 3)) (hM : ∀ r τ, f = some (r, τ) → k_Ct k_ei y bytes maxL ret rm cw0 (k_D X) (k_I X) [v1, v2, v3, v4, v5] σ0 r τ) (kk : ∀ r τ, KO X Y cw kc ks Q (pc + 3) L (.int r :: st) (put τ) (kf r τ)) : KO X Y cw kc ks Q pc L (v5 :: v4 :: v3 :: v2 :: v1 :: st) σ (k_ob f kf) := k_callS (As := [v1, v2, v3, v4, v5]) hin hok hm rfl hrm hR hk hcat hd rfl hM kk
theorem k_Vv5 {S0 : Type} {y : MethodName} {bytes : ByteArray} {maxL : Nat} {ret : Option FieldType} {index : Nat} {rm : Room} {cw0 : S0 → va_W} {σ0 : S0} {put : S0 → S} {b : Nat} {v1 v2 v3 v4 v5 : Value} {f : Option (Unit × S0)} {kf : Unit → S0 → Option (Rt × S)} (hin : k_In cw σ cw0 σ0 put) (hok : k_Vok y bytes maxL ret 5) (hm : Cond.methodLink Y.2.2.2.1 index y ∈ k_ws) (hrv : ∃ (k ci : Nat) (fs : List Value) (q : vw_C), (cw σ)[k]? = some (b, .inr (ci, fs)) ∧ vwCl[ci]? = some q ∧ q.1 = y.cls) (hrm : rm.cells = 0 ∧ rm.slots = 0) (hR : rm.frames + 1 ≤ Y.1.frames ∧ 8 + (maxL + 11) + rm.locals ≤ Y.1.locals) (hk : kc ≤ Y.1.cells ∧ ks ≤ Y.1.slots) (hcat : (st.map fun v => v.category).sum ≤ 8) (hd : decode Y.2.1 pc = .ok (.invokevirtual index, 3)) (hM : ∀ r τ, f = some (r, τ) → k_Ct k_ev y bytes maxL ret rm cw0 (k_D X) (k_I X) (.ref b :: [v1, v2, v3, v4, v5]) σ0 r τ) (kk : ∀ r τ, KO X Y cw kc ks Q (pc + 3) L (st) (put τ) (kf r τ)) : KO X Y cw kc ks Q pc L (v5 :: v4 :: v3 :: v2 :: v1 :: .ref b :: st) σ (k_ob f kf) := k_callV (As := [v1, v2, v3, v4, v5]) hin hok hm hrv rfl hrm hR hk hcat hd rfl hM kk
theorem k_Sv5 {S0 : Type} {y : MethodName} {bytes : ByteArray} {maxL : Nat} {ret : Option FieldType} {index : Nat} {rm : Room} {cw0 : S0 → va_W} {σ0 : S0} {put : S0 → S} {v1 v2 v3 v4 v5 : Value} {f : Option (Unit × S0)} {kf : Unit → S0 → Option (Rt × S)} (hin : k_In cw σ cw0 σ0 put) (hok : k_Sok y bytes maxL ret 5) (hm : Cond.methodLink Y.2.2.2.1 index y ∈ k_ws) (hrm : rm.cells = 0 ∧ rm.slots = 0) (hR : rm.frames + 1 ≤ Y.1.frames ∧ 8 + (maxL + 11) + rm.locals ≤ Y.1.locals) (hk : kc ≤ Y.1.cells ∧ ks ≤ Y.1.slots) (hcat : (st.map fun v => v.category).sum ≤ 8) (hd : decode Y.2.1 pc = .ok (.invokestatic index, 3)) (hM : ∀ r τ, f = some (r, τ) → k_Ct k_ev y bytes maxL ret rm cw0 (k_D X) (k_I X) [v1, v2, v3, v4, v5] σ0 r τ) (kk : ∀ r τ, KO X Y cw kc ks Q (pc + 3) L (st) (put τ) (kf r τ)) : KO X Y cw kc ks Q pc L (v5 :: v4 :: v3 :: v2 :: v1 :: st) σ (k_ob f kf) := k_callS (As := [v1, v2, v3, v4, v5]) hin hok hm rfl hrm hR hk hcat hd rfl hM kk
theorem k_Vi6 {S0 : Type} {y : MethodName} {bytes : ByteArray} {maxL : Nat} {ret : Option FieldType} {index : Nat} {rm : Room} {cw0 : S0 → va_W} {σ0 : S0} {put : S0 → S} {b : Nat} {v1 v2 v3 v4 v5 v6 : Value} {f : Option (Int32 × S0)} {kf : Int32 → S0 → Option (Rt × S)} (hin : k_In cw σ cw0 σ0 put) (hok : k_Vok y bytes maxL ret 6) (hm : Cond.methodLink Y.2.2.2.1 index y ∈ k_ws) (hrv : ∃ (k ci : Nat) (fs : List Value) (q : vw_C), (cw σ)[k]? = some (b, .inr (ci, fs)) ∧ vwCl[ci]? = some q ∧ q.1 = y.cls) (hrm : rm.cells = 0 ∧ rm.slots = 0) (hR : rm.frames + 1 ≤ Y.1.frames ∧ 8 + (maxL + 11) + rm.locals ≤ Y.1.locals) (hk : kc ≤ Y.1.cells ∧ ks ≤ Y.1.slots) (hcat : (st.map fun v => v.category).sum ≤ 8) (hd : decode Y.2.1 pc = .ok (.invokevirtual index, 3)) (hM : ∀ r τ, f = some (r, τ) → k_Ct k_ei y bytes maxL ret rm cw0 (k_D X) (k_I X) (.ref b :: [v1, v2, v3, v4, v5, v6]) σ0 r τ) (kk : ∀ r τ, KO X Y cw kc ks Q (pc + 3) L (.int r :: st) (put τ) (kf r τ)) : KO X Y cw kc ks Q pc L (v6 :: v5 :: v4 :: v3 :: v2 :: v1 :: .ref b :: st) σ (k_ob f kf) := k_callV (As := [v1, v2, v3, v4, v5, v6]) hin hok hm hrv rfl hrm hR hk hcat hd rfl hM kk
theorem k_Si6 {S0 : Type} {y : MethodName} {bytes : ByteArray} {maxL : Nat} {ret : Option FieldType} {index : Nat} {rm : Room} {cw0 : S0 → va_W} {σ0 : S0} {put : S0 → S} {v1 v2 v3 v4 v5 v6 : Value} {f : Option (Int32 × S0)} {kf : Int32 → S0 → Option (Rt × S)} (hin : k_In cw σ cw0 σ0 put) (hok : k_Sok y bytes maxL ret 6) (hm : Cond.methodLink Y.2.2.2.1 index y ∈ k_ws) (hrm : rm.cells = 0 ∧ rm.slots = 0) (hR : rm.frames + 1 ≤ Y.1.frames ∧ 8 + (maxL + 11) + rm.locals ≤ Y.1.locals) (hk : kc ≤ Y.1.cells ∧ ks ≤ Y.1.slots) (hcat : (st.map fun v => v.category).sum ≤ 8) (hd : decode Y.2.1 pc = .ok (.invokestatic index, 3)) (hM : ∀ r τ, f = some (r, τ) → k_Ct k_ei y bytes maxL ret rm cw0 (k_D X) (k_I X) [v1, v2, v3, v4, v5, v6] σ0 r τ) (kk : ∀ r τ, KO X Y cw kc ks Q (pc + 3) L (.int r :: st) (put τ) (kf r τ)) : KO X Y cw kc ks Q pc L (v6 :: v5 :: v4 :: v3 :: v2 :: v1 :: st) σ (k_ob f kf) := k_callS (As := [v1, v2, v3, v4, v5, v6]) hin hok hm rfl hrm hR hk hcat hd rfl hM kk
theorem k_Vv6 {S0 : Type} {y : MethodName} {bytes : ByteArray} {maxL : Nat} {ret : Option FieldType} {index : Nat} {rm : Room} {cw0 : S0 → va_W} {σ0 : S0} {put : S0 → S} {b : Nat} {v1 v2 v3 v4 v5 v6 : Value} {f : Option (Unit × S0)} {kf : Unit → S0 → Option (Rt × S)} (hin : k_In cw σ cw0 σ0 put) (hok : k_Vok y bytes maxL ret 6) (hm : Cond.methodLink Y.2.2.2.1 index y ∈ k_ws) (hrv : ∃ (k ci : Nat) (fs : List Value) (q : vw_C), (cw σ)[k]? = some (b, .inr (ci, fs)) ∧ vwCl[ci]? = some q ∧ q.1 = y.cls) (hrm : rm.cells = 0 ∧ rm.slots = 0) (hR : rm.frames + 1 ≤ Y.1.frames ∧ 8 + (maxL + 11) + rm.locals ≤ Y.1.locals) (hk : kc ≤ Y.1.cells ∧ ks ≤ Y.1.slots) (hcat : (st.map fun v => v.category).sum ≤ 8) (hd : decode Y.2.1 pc = .ok (.invokevirtual index, 3)) (hM : ∀ r τ, f = some (r, τ) → k_Ct k_ev y bytes maxL ret rm cw0 (k_D X) (k_I X) (.ref b :: [v1, v2, v3, v4, v5, v6]) σ0 r τ) (kk : ∀ r τ, KO X Y cw kc ks Q (pc + 3) L (st) (put τ) (kf r τ)) : KO X Y cw kc ks Q pc L (v6 :: v5 :: v4 :: v3 :: v2 :: v1 :: .ref b :: st) σ (k_ob f kf) := k_callV (As := [v1, v2, v3, v4, v5, v6]) hin hok hm hrv rfl hrm hR hk hcat hd rfl hM kk
theorem k_Sv6 {S0 : Type} {y : MethodName} {bytes : ByteArray} {maxL : Nat} {ret : Option FieldType} {index : Nat} {rm : Room} {cw0 : S0 → va_W} {σ0 : S0} {put : S0 → S} {v1 v2 v3 v4 v5 v6 : Value} {f : Option (Unit × S0)} {kf : Unit → S0 → Option (Rt × S)} (hin : k_In cw σ cw0 σ0 put) (hok : k_Sok y bytes maxL ret 6) (hm : Cond.methodLink Y.2.2.2.1 index y ∈ k_ws) (hrm : rm.cells = 0 ∧ rm.slots = 0) (hR : rm.frames + 1 ≤ Y.1.frames ∧ 8 + (maxL + 11) + rm.locals ≤ Y.1.locals) (hk : kc ≤ Y.1.cells ∧ ks ≤ Y.1.slots) (hcat : (st.map fun v => v.category).sum ≤ 8) (hd : decode Y.2.1 pc = .ok (.invokestatic index, 3)) (hM : ∀ r τ, f = some (r, τ) → k_Ct k_ev y bytes maxL ret rm cw0 (k_D X) (k_I X) [v1, v2, v3, v4, v5, v6] σ0 r τ) (kk : ∀ r τ, KO X Y cw kc ks Q (pc + 3) L (st) (put τ) (kf r τ)) : KO X Y cw kc ks Q pc L (v6 :: v5 :: v4 :: v3 :: v2 :: v1 :: st) σ (k_ob f kf) := k_callS (As := [v1, v2, v3, v4, v5, v6]) hin hok hm rfl hrm hR hk hcat hd rfl hM kk
end KR3
end
section
/-! ===== worlds: the class (cT), the reference (cM); fields and arrays by number (by program: wip/gen30/worlds.py) ===== -/
theorem k_same_of {S : Type} {cw : S → va_W} (h : ∀ σ τ, (cw σ).map Prod.fst = (cw τ).map Prod.fst) : k_same cw := by
  intro σ τ k q hk
  have h1 : ((cw τ).map Prod.fst)[k]? = some q.1 := by rw [← h σ τ, List.getElem?_map, hk]; rfl
  rw [List.getElem?_map] at h1
  cases hq : (cw τ)[k]? with
  | none => rw [hq] at h1; cases h1
  | some q2 => rw [hq] at h1; exact ⟨q2.2, by rw [← (Option.some.inj h1 : q2.1 = q.1)]⟩
/-- T: TallTales.sheets: ref 1; TallTales.text: ref 2; TallTales.house: ref 3; TallTales.talls: ref 4; TallTales.rests: ref 5; TallTales.winter: ref 6; TallTales.lying: ref 7; TallTales.trace: int 0; TallTales.fault: int 1; TallTales$Sheets.cells: ref 8; TallTales$Sheets.sorts: ref 9; TallTales$Sheets.lengths: ref 10; TallTales$Text.codes: ref 11; TallTales$Text.length: int 2; TallTales$House.guests: int 3; TallTales$House.tales: int 4; TallTales$House.memory: int 5; TallTales$House.nights: int 6; TallTales$House.kinds: ref 12; TallTales$House.owners: ref 13; TallTales$House.heights: ref 14; TallTales$House.told: ref 15; TallTales$House.last: ref 16; TallTales$House.chosen: ref 17; TallTales$House.nightTale: ref 18; TallTales$House.nightPlace: ref 19; TallTales$House.nightTall: ref 20; TallTales$Talls.of: ref 21; TallTales$Talls.guests: int 7; TallTales$Rests.house: ref 3; TallTales$Rests.talls: ref 4; TallTales$Rests.picks: ref 22; TallTales$Rests.first: ref 23; TallTales$Rests.count: int 8; TallTales$Winter.house: ref 3; TallTales$Winter.numbers: ref 24; TallTales$Winter.ahead: ref 25; TallTales$Winter.told: ref 26; TallTales$Winter.last: ref 27; TallTales$Winter.row: ref 28; TallTales$Winter.first: ref 29; TallTales$Winter.guest: int 9; TallTales$Winter.length: int 10; TallTales$Winter.most: int 11 -/
def cT (cI : ClassId) (q : Nat → Nat) (σ : k_S) : va_W := [(q 0, .inr (6, [.ref (q 1), .ref (q 2), .ref (q 3), .ref (q 4), .ref (q 5), .ref (q 6), .ref (q 7), .int (σ.1 0), .int (σ.1 1)])), (q 1, .inr (2, [.ref (q 8), .ref (q 9), .ref (q 10)])), (q 2, .inr (4, [.ref (q 11), .int (σ.1 2)])), (q 3, .inr (0, [.int (σ.1 3), .int (σ.1 4), .int (σ.1 5), .int (σ.1 6), .ref (q 12), .ref (q 13), .ref (q 14), .ref (q 15), .ref (q 16), .ref (q 17), .ref (q 18), .ref (q 19), .ref (q 20)])), (q 4, .inr (3, [.ref (q 21), .int (σ.1 7)])), (q 5, .inr (1, [.ref (q 3), .ref (q 4), .ref (q 22), .ref (q 23), .int (σ.1 8)])), (q 6, .inr (5, [.ref (q 3), .ref (q 24), .ref (q 25), .ref (q 26), .ref (q 27), .ref (q 28), .ref (q 29), .int (σ.1 9), .int (σ.1 10), .int (σ.1 11)])), (q 7, .inl (cI, 5, .inl (σ.2 0))), (q 8, .inl (cI, 240, .inl (σ.2 1))), (q 9, .inl (cI, 4, .inl (σ.2 2))), (q 10, .inl (cI, 4, .inl (σ.2 3))), (q 11, .inl (cI, 60, .inl (σ.2 4))), (q 12, .inl (cI, 10, .inl (σ.2 5))), (q 13, .inl (cI, 10, .inl (σ.2 6))), (q 14, .inl (cI, 10, .inl (σ.2 7))), (q 15, .inl (cI, 10, .inl (σ.2 8))), (q 16, .inl (cI, 10, .inl (σ.2 9))), (q 17, .inl (cI, 5, .inl (σ.2 10))), (q 18, .inl (cI, 300, .inl (σ.2 11))), (q 19, .inl (cI, 300, .inl (σ.2 12))), (q 20, .inl (cI, 300, .inl (σ.2 13))), (q 21, .inl (cI, 5, .inl (σ.2 14))), (q 22, .inl (cI, 5, .inl (σ.2 15))), (q 23, .inl (cI, 5, .inl (σ.2 16))), (q 24, .inl (cI, 6, .inl (σ.2 17))), (q 25, .inl (cI, 7, .inl (σ.2 18))), (q 26, .inl (cI, 10, .inl (σ.2 19))), (q 27, .inl (cI, 10, .inl (σ.2 20))), (q 28, .inl (cI, 6, .inl (σ.2 21))), (q 29, .inl (cI, 6, .inl (σ.2 22)))]
theorem cT_same (cI : ClassId) (q : Nat → Nat) : k_same (cT cI q) := k_same_of fun _ _ => rfl
theorem cT_rv0 {cI : ClassId} {q : Nat → Nat} {σ : k_S} : ∃ (k ci : Nat) (fs : List Value) (qc : vw_C), (cT cI q σ)[k]? = some (q 0, .inr (ci, fs)) ∧ vwCl[ci]? = some qc ∧ qc.1 = RX6 := ⟨0, 6, _, _, rfl, rfl, rfl⟩
theorem cT_rv1 {cI : ClassId} {q : Nat → Nat} {σ : k_S} : ∃ (k ci : Nat) (fs : List Value) (qc : vw_C), (cT cI q σ)[k]? = some (q 1, .inr (ci, fs)) ∧ vwCl[ci]? = some qc ∧ qc.1 = RX2 := ⟨1, 2, _, _, rfl, rfl, rfl⟩
theorem cT_rv2 {cI : ClassId} {q : Nat → Nat} {σ : k_S} : ∃ (k ci : Nat) (fs : List Value) (qc : vw_C), (cT cI q σ)[k]? = some (q 2, .inr (ci, fs)) ∧ vwCl[ci]? = some qc ∧ qc.1 = RX4 := ⟨2, 4, _, _, rfl, rfl, rfl⟩
theorem cT_rv3 {cI : ClassId} {q : Nat → Nat} {σ : k_S} : ∃ (k ci : Nat) (fs : List Value) (qc : vw_C), (cT cI q σ)[k]? = some (q 3, .inr (ci, fs)) ∧ vwCl[ci]? = some qc ∧ qc.1 = RX0 := ⟨3, 0, _, _, rfl, rfl, rfl⟩
theorem cT_rv4 {cI : ClassId} {q : Nat → Nat} {σ : k_S} : ∃ (k ci : Nat) (fs : List Value) (qc : vw_C), (cT cI q σ)[k]? = some (q 4, .inr (ci, fs)) ∧ vwCl[ci]? = some qc ∧ qc.1 = RX3 := ⟨4, 3, _, _, rfl, rfl, rfl⟩
theorem cT_rv5 {cI : ClassId} {q : Nat → Nat} {σ : k_S} : ∃ (k ci : Nat) (fs : List Value) (qc : vw_C), (cT cI q σ)[k]? = some (q 5, .inr (ci, fs)) ∧ vwCl[ci]? = some qc ∧ qc.1 = RX1 := ⟨5, 1, _, _, rfl, rfl, rfl⟩
theorem cT_rv6 {cI : ClassId} {q : Nat → Nat} {σ : k_S} : ∃ (k ci : Nat) (fs : List Value) (qc : vw_C), (cT cI q σ)[k]? = some (q 6, .inr (ci, fs)) ∧ vwCl[ci]? = some qc ∧ qc.1 = RX5 := ⟨6, 5, _, _, rfl, rfl, rfl⟩
theorem k_gTX6_sheets {Rt : Type} {X : k_C} {Y : k_Y} {q : Nat → Nat} {kc ks : Nat} {Q : Rt → k_S → State → Prop} {pc : Nat} {L : List (Option Value)} {st : List Value} {σ : k_S} {o : Option (Rt × k_S)} {own : String} {index : Nat} (hw : Cond.fieldLink own index "TallTales" "sheets" "LTallTales$Sheets;" ∈ k_ws) (hown : own = Y.2.2.2.1) (hd : decode Y.2.1 pc = .ok (.getfield index, 3)) (kk : KO X Y (cT (k_I X) q) kc ks Q (pc + 3) L (.ref (q 1) :: st) σ o) : KO X Y (cT (k_I X) q) kc ks Q pc L (.ref (q 0) :: st) σ o := k_get (T := TX6) (ci := 6) 0 rfl rfl kinX6 0 (by decide) rfl hown hw rfl hd kk
theorem k_gTX6_text {Rt : Type} {X : k_C} {Y : k_Y} {q : Nat → Nat} {kc ks : Nat} {Q : Rt → k_S → State → Prop} {pc : Nat} {L : List (Option Value)} {st : List Value} {σ : k_S} {o : Option (Rt × k_S)} {own : String} {index : Nat} (hw : Cond.fieldLink own index "TallTales" "text" "LTallTales$Text;" ∈ k_ws) (hown : own = Y.2.2.2.1) (hd : decode Y.2.1 pc = .ok (.getfield index, 3)) (kk : KO X Y (cT (k_I X) q) kc ks Q (pc + 3) L (.ref (q 2) :: st) σ o) : KO X Y (cT (k_I X) q) kc ks Q pc L (.ref (q 0) :: st) σ o := k_get (T := TX6) (ci := 6) 0 rfl rfl kinX6 1 (by decide) rfl hown hw rfl hd kk
theorem k_gTX6_house {Rt : Type} {X : k_C} {Y : k_Y} {q : Nat → Nat} {kc ks : Nat} {Q : Rt → k_S → State → Prop} {pc : Nat} {L : List (Option Value)} {st : List Value} {σ : k_S} {o : Option (Rt × k_S)} {own : String} {index : Nat} (hw : Cond.fieldLink own index "TallTales" "house" "LTallTales$House;" ∈ k_ws) (hown : own = Y.2.2.2.1) (hd : decode Y.2.1 pc = .ok (.getfield index, 3)) (kk : KO X Y (cT (k_I X) q) kc ks Q (pc + 3) L (.ref (q 3) :: st) σ o) : KO X Y (cT (k_I X) q) kc ks Q pc L (.ref (q 0) :: st) σ o := k_get (T := TX6) (ci := 6) 0 rfl rfl kinX6 2 (by decide) rfl hown hw rfl hd kk
theorem k_gTX6_talls {Rt : Type} {X : k_C} {Y : k_Y} {q : Nat → Nat} {kc ks : Nat} {Q : Rt → k_S → State → Prop} {pc : Nat} {L : List (Option Value)} {st : List Value} {σ : k_S} {o : Option (Rt × k_S)} {own : String} {index : Nat} (hw : Cond.fieldLink own index "TallTales" "talls" "LTallTales$Talls;" ∈ k_ws) (hown : own = Y.2.2.2.1) (hd : decode Y.2.1 pc = .ok (.getfield index, 3)) (kk : KO X Y (cT (k_I X) q) kc ks Q (pc + 3) L (.ref (q 4) :: st) σ o) : KO X Y (cT (k_I X) q) kc ks Q pc L (.ref (q 0) :: st) σ o := k_get (T := TX6) (ci := 6) 0 rfl rfl kinX6 3 (by decide) rfl hown hw rfl hd kk
theorem k_gTX6_rests {Rt : Type} {X : k_C} {Y : k_Y} {q : Nat → Nat} {kc ks : Nat} {Q : Rt → k_S → State → Prop} {pc : Nat} {L : List (Option Value)} {st : List Value} {σ : k_S} {o : Option (Rt × k_S)} {own : String} {index : Nat} (hw : Cond.fieldLink own index "TallTales" "rests" "LTallTales$Rests;" ∈ k_ws) (hown : own = Y.2.2.2.1) (hd : decode Y.2.1 pc = .ok (.getfield index, 3)) (kk : KO X Y (cT (k_I X) q) kc ks Q (pc + 3) L (.ref (q 5) :: st) σ o) : KO X Y (cT (k_I X) q) kc ks Q pc L (.ref (q 0) :: st) σ o := k_get (T := TX6) (ci := 6) 0 rfl rfl kinX6 4 (by decide) rfl hown hw rfl hd kk
theorem k_gTX6_winter {Rt : Type} {X : k_C} {Y : k_Y} {q : Nat → Nat} {kc ks : Nat} {Q : Rt → k_S → State → Prop} {pc : Nat} {L : List (Option Value)} {st : List Value} {σ : k_S} {o : Option (Rt × k_S)} {own : String} {index : Nat} (hw : Cond.fieldLink own index "TallTales" "winter" "LTallTales$Winter;" ∈ k_ws) (hown : own = Y.2.2.2.1) (hd : decode Y.2.1 pc = .ok (.getfield index, 3)) (kk : KO X Y (cT (k_I X) q) kc ks Q (pc + 3) L (.ref (q 6) :: st) σ o) : KO X Y (cT (k_I X) q) kc ks Q pc L (.ref (q 0) :: st) σ o := k_get (T := TX6) (ci := 6) 0 rfl rfl kinX6 5 (by decide) rfl hown hw rfl hd kk
theorem k_gTX6_lying {Rt : Type} {X : k_C} {Y : k_Y} {q : Nat → Nat} {kc ks : Nat} {Q : Rt → k_S → State → Prop} {pc : Nat} {L : List (Option Value)} {st : List Value} {σ : k_S} {o : Option (Rt × k_S)} {own : String} {index : Nat} (hw : Cond.fieldLink own index "TallTales" "lying" "[I" ∈ k_ws) (hown : own = Y.2.2.2.1) (hd : decode Y.2.1 pc = .ok (.getfield index, 3)) (kk : KO X Y (cT (k_I X) q) kc ks Q (pc + 3) L (.ref (q 7) :: st) σ o) : KO X Y (cT (k_I X) q) kc ks Q pc L (.ref (q 0) :: st) σ o := k_get (T := TX6) (ci := 6) 0 rfl rfl kinX6 6 (by decide) rfl hown hw rfl hd kk
theorem k_gTX6_trace {Rt : Type} {X : k_C} {Y : k_Y} {q : Nat → Nat} {kc ks : Nat} {Q : Rt → k_S → State → Prop} {pc : Nat} {L : List (Option Value)} {st : List Value} {σ : k_S} {o : Option (Rt × k_S)} {own : String} {index : Nat} (hw : Cond.fieldLink own index "TallTales" "trace" "I" ∈ k_ws) (hown : own = Y.2.2.2.1) (hd : decode Y.2.1 pc = .ok (.getfield index, 3)) (kk : KO X Y (cT (k_I X) q) kc ks Q (pc + 3) L (.int (σ.1 0) :: st) σ o) : KO X Y (cT (k_I X) q) kc ks Q pc L (.ref (q 0) :: st) σ o := k_get (T := TX6) (ci := 6) 0 rfl rfl kinX6 7 (by decide) rfl hown hw rfl hd kk
theorem k_pTX6_trace {Rt : Type} {X : k_C} {Y : k_Y} {q : Nat → Nat} {kc ks : Nat} {Q : Rt → k_S → State → Prop} {pc : Nat} {L : List (Option Value)} {st : List Value} {σ : k_S} {x : Int32} {kf : k_S → Option (Rt × k_S)} {own : String} {index : Nat} (hw : Cond.fieldLink own index "TallTales" "trace" "I" ∈ k_ws) (hown : own = Y.2.2.2.1) (hd : decode Y.2.1 pc = .ok (.putfield index, 3)) (kk : ∀ σ' : k_S, KO X Y (cT (k_I X) q) kc ks Q (pc + 3) L st σ' (kf σ')) : KO X Y (cT (k_I X) q) kc ks Q pc L (.int x :: .ref (q 0) :: st) σ (k_bn (k_sf σ 0 x) kf) := k_put (T := TX6) (ci := 6) 0 rfl rfl kinX6 tyX6_ok nmX6 7 (by decide) rfl rfl rfl rfl hown hw rfl hd kk
theorem k_gTX6_fault {Rt : Type} {X : k_C} {Y : k_Y} {q : Nat → Nat} {kc ks : Nat} {Q : Rt → k_S → State → Prop} {pc : Nat} {L : List (Option Value)} {st : List Value} {σ : k_S} {o : Option (Rt × k_S)} {own : String} {index : Nat} (hw : Cond.fieldLink own index "TallTales" "fault" "I" ∈ k_ws) (hown : own = Y.2.2.2.1) (hd : decode Y.2.1 pc = .ok (.getfield index, 3)) (kk : KO X Y (cT (k_I X) q) kc ks Q (pc + 3) L (.int (σ.1 1) :: st) σ o) : KO X Y (cT (k_I X) q) kc ks Q pc L (.ref (q 0) :: st) σ o := k_get (T := TX6) (ci := 6) 0 rfl rfl kinX6 8 (by decide) rfl hown hw rfl hd kk
theorem k_pTX6_fault {Rt : Type} {X : k_C} {Y : k_Y} {q : Nat → Nat} {kc ks : Nat} {Q : Rt → k_S → State → Prop} {pc : Nat} {L : List (Option Value)} {st : List Value} {σ : k_S} {x : Int32} {kf : k_S → Option (Rt × k_S)} {own : String} {index : Nat} (hw : Cond.fieldLink own index "TallTales" "fault" "I" ∈ k_ws) (hown : own = Y.2.2.2.1) (hd : decode Y.2.1 pc = .ok (.putfield index, 3)) (kk : ∀ σ' : k_S, KO X Y (cT (k_I X) q) kc ks Q (pc + 3) L st σ' (kf σ')) : KO X Y (cT (k_I X) q) kc ks Q pc L (.int x :: .ref (q 0) :: st) σ (k_bn (k_sf σ 1 x) kf) := k_put (T := TX6) (ci := 6) 0 rfl rfl kinX6 tyX6_ok nmX6 8 (by decide) rfl rfl rfl rfl hown hw rfl hd kk
theorem k_gTX2_cells {Rt : Type} {X : k_C} {Y : k_Y} {q : Nat → Nat} {kc ks : Nat} {Q : Rt → k_S → State → Prop} {pc : Nat} {L : List (Option Value)} {st : List Value} {σ : k_S} {o : Option (Rt × k_S)} {own : String} {index : Nat} (hw : Cond.fieldLink own index "TallTales$Sheets" "cells" "[I" ∈ k_ws) (hown : own = Y.2.2.2.1) (hd : decode Y.2.1 pc = .ok (.getfield index, 3)) (kk : KO X Y (cT (k_I X) q) kc ks Q (pc + 3) L (.ref (q 8) :: st) σ o) : KO X Y (cT (k_I X) q) kc ks Q pc L (.ref (q 1) :: st) σ o := k_get (T := TX2) (ci := 2) 1 rfl rfl kinX2 0 (by decide) rfl hown hw rfl hd kk
theorem k_gTX2_sorts {Rt : Type} {X : k_C} {Y : k_Y} {q : Nat → Nat} {kc ks : Nat} {Q : Rt → k_S → State → Prop} {pc : Nat} {L : List (Option Value)} {st : List Value} {σ : k_S} {o : Option (Rt × k_S)} {own : String} {index : Nat} (hw : Cond.fieldLink own index "TallTales$Sheets" "sorts" "[I" ∈ k_ws) (hown : own = Y.2.2.2.1) (hd : decode Y.2.1 pc = .ok (.getfield index, 3)) (kk : KO X Y (cT (k_I X) q) kc ks Q (pc + 3) L (.ref (q 9) :: st) σ o) : KO X Y (cT (k_I X) q) kc ks Q pc L (.ref (q 1) :: st) σ o := k_get (T := TX2) (ci := 2) 1 rfl rfl kinX2 1 (by decide) rfl hown hw rfl hd kk
theorem k_gTX2_lengths {Rt : Type} {X : k_C} {Y : k_Y} {q : Nat → Nat} {kc ks : Nat} {Q : Rt → k_S → State → Prop} {pc : Nat} {L : List (Option Value)} {st : List Value} {σ : k_S} {o : Option (Rt × k_S)} {own : String} {index : Nat} (hw : Cond.fieldLink own index "TallTales$Sheets" "lengths" "[I" ∈ k_ws) (hown : own = Y.2.2.2.1) (hd : decode Y.2.1 pc = .ok (.getfield index, 3)) (kk : KO X Y (cT (k_I X) q) kc ks Q (pc + 3) L (.ref (q 10) :: st) σ o) : KO X Y (cT (k_I X) q) kc ks Q pc L (.ref (q 1) :: st) σ o := k_get (T := TX2) (ci := 2) 1 rfl rfl kinX2 2 (by decide) rfl hown hw rfl hd kk
theorem k_gTX4_codes {Rt : Type} {X : k_C} {Y : k_Y} {q : Nat → Nat} {kc ks : Nat} {Q : Rt → k_S → State → Prop} {pc : Nat} {L : List (Option Value)} {st : List Value} {σ : k_S} {o : Option (Rt × k_S)} {own : String} {index : Nat} (hw : Cond.fieldLink own index "TallTales$Text" "codes" "[I" ∈ k_ws) (hown : own = Y.2.2.2.1) (hd : decode Y.2.1 pc = .ok (.getfield index, 3)) (kk : KO X Y (cT (k_I X) q) kc ks Q (pc + 3) L (.ref (q 11) :: st) σ o) : KO X Y (cT (k_I X) q) kc ks Q pc L (.ref (q 2) :: st) σ o := k_get (T := TX4) (ci := 4) 2 rfl rfl kinX4 0 (by decide) rfl hown hw rfl hd kk
theorem k_gTX4_length {Rt : Type} {X : k_C} {Y : k_Y} {q : Nat → Nat} {kc ks : Nat} {Q : Rt → k_S → State → Prop} {pc : Nat} {L : List (Option Value)} {st : List Value} {σ : k_S} {o : Option (Rt × k_S)} {own : String} {index : Nat} (hw : Cond.fieldLink own index "TallTales$Text" "length" "I" ∈ k_ws) (hown : own = Y.2.2.2.1) (hd : decode Y.2.1 pc = .ok (.getfield index, 3)) (kk : KO X Y (cT (k_I X) q) kc ks Q (pc + 3) L (.int (σ.1 2) :: st) σ o) : KO X Y (cT (k_I X) q) kc ks Q pc L (.ref (q 2) :: st) σ o := k_get (T := TX4) (ci := 4) 2 rfl rfl kinX4 1 (by decide) rfl hown hw rfl hd kk
theorem k_pTX4_length {Rt : Type} {X : k_C} {Y : k_Y} {q : Nat → Nat} {kc ks : Nat} {Q : Rt → k_S → State → Prop} {pc : Nat} {L : List (Option Value)} {st : List Value} {σ : k_S} {x : Int32} {kf : k_S → Option (Rt × k_S)} {own : String} {index : Nat} (hw : Cond.fieldLink own index "TallTales$Text" "length" "I" ∈ k_ws) (hown : own = Y.2.2.2.1) (hd : decode Y.2.1 pc = .ok (.putfield index, 3)) (kk : ∀ σ' : k_S, KO X Y (cT (k_I X) q) kc ks Q (pc + 3) L st σ' (kf σ')) : KO X Y (cT (k_I X) q) kc ks Q pc L (.int x :: .ref (q 2) :: st) σ (k_bn (k_sf σ 2 x) kf) := k_put (T := TX4) (ci := 4) 2 rfl rfl kinX4 tyX4_ok nmX4 1 (by decide) rfl rfl rfl rfl hown hw rfl hd kk
theorem k_gTX0_guests {Rt : Type} {X : k_C} {Y : k_Y} {q : Nat → Nat} {kc ks : Nat} {Q : Rt → k_S → State → Prop} {pc : Nat} {L : List (Option Value)} {st : List Value} {σ : k_S} {o : Option (Rt × k_S)} {own : String} {index : Nat} (hw : Cond.fieldLink own index "TallTales$House" "guests" "I" ∈ k_ws) (hown : own = Y.2.2.2.1) (hd : decode Y.2.1 pc = .ok (.getfield index, 3)) (kk : KO X Y (cT (k_I X) q) kc ks Q (pc + 3) L (.int (σ.1 3) :: st) σ o) : KO X Y (cT (k_I X) q) kc ks Q pc L (.ref (q 3) :: st) σ o := k_get (T := TX0) (ci := 0) 3 rfl rfl kinX0 0 (by decide) rfl hown hw rfl hd kk
theorem k_pTX0_guests {Rt : Type} {X : k_C} {Y : k_Y} {q : Nat → Nat} {kc ks : Nat} {Q : Rt → k_S → State → Prop} {pc : Nat} {L : List (Option Value)} {st : List Value} {σ : k_S} {x : Int32} {kf : k_S → Option (Rt × k_S)} {own : String} {index : Nat} (hw : Cond.fieldLink own index "TallTales$House" "guests" "I" ∈ k_ws) (hown : own = Y.2.2.2.1) (hd : decode Y.2.1 pc = .ok (.putfield index, 3)) (kk : ∀ σ' : k_S, KO X Y (cT (k_I X) q) kc ks Q (pc + 3) L st σ' (kf σ')) : KO X Y (cT (k_I X) q) kc ks Q pc L (.int x :: .ref (q 3) :: st) σ (k_bn (k_sf σ 3 x) kf) := k_put (T := TX0) (ci := 0) 3 rfl rfl kinX0 tyX0_ok nmX0 0 (by decide) rfl rfl rfl rfl hown hw rfl hd kk
theorem k_gTX0_tales {Rt : Type} {X : k_C} {Y : k_Y} {q : Nat → Nat} {kc ks : Nat} {Q : Rt → k_S → State → Prop} {pc : Nat} {L : List (Option Value)} {st : List Value} {σ : k_S} {o : Option (Rt × k_S)} {own : String} {index : Nat} (hw : Cond.fieldLink own index "TallTales$House" "tales" "I" ∈ k_ws) (hown : own = Y.2.2.2.1) (hd : decode Y.2.1 pc = .ok (.getfield index, 3)) (kk : KO X Y (cT (k_I X) q) kc ks Q (pc + 3) L (.int (σ.1 4) :: st) σ o) : KO X Y (cT (k_I X) q) kc ks Q pc L (.ref (q 3) :: st) σ o := k_get (T := TX0) (ci := 0) 3 rfl rfl kinX0 1 (by decide) rfl hown hw rfl hd kk
theorem k_pTX0_tales {Rt : Type} {X : k_C} {Y : k_Y} {q : Nat → Nat} {kc ks : Nat} {Q : Rt → k_S → State → Prop} {pc : Nat} {L : List (Option Value)} {st : List Value} {σ : k_S} {x : Int32} {kf : k_S → Option (Rt × k_S)} {own : String} {index : Nat} (hw : Cond.fieldLink own index "TallTales$House" "tales" "I" ∈ k_ws) (hown : own = Y.2.2.2.1) (hd : decode Y.2.1 pc = .ok (.putfield index, 3)) (kk : ∀ σ' : k_S, KO X Y (cT (k_I X) q) kc ks Q (pc + 3) L st σ' (kf σ')) : KO X Y (cT (k_I X) q) kc ks Q pc L (.int x :: .ref (q 3) :: st) σ (k_bn (k_sf σ 4 x) kf) := k_put (T := TX0) (ci := 0) 3 rfl rfl kinX0 tyX0_ok nmX0 1 (by decide) rfl rfl rfl rfl hown hw rfl hd kk
theorem k_gTX0_memory {Rt : Type} {X : k_C} {Y : k_Y} {q : Nat → Nat} {kc ks : Nat} {Q : Rt → k_S → State → Prop} {pc : Nat} {L : List (Option Value)} {st : List Value} {σ : k_S} {o : Option (Rt × k_S)} {own : String} {index : Nat} (hw : Cond.fieldLink own index "TallTales$House" "memory" "I" ∈ k_ws) (hown : own = Y.2.2.2.1) (hd : decode Y.2.1 pc = .ok (.getfield index, 3)) (kk : KO X Y (cT (k_I X) q) kc ks Q (pc + 3) L (.int (σ.1 5) :: st) σ o) : KO X Y (cT (k_I X) q) kc ks Q pc L (.ref (q 3) :: st) σ o := k_get (T := TX0) (ci := 0) 3 rfl rfl kinX0 2 (by decide) rfl hown hw rfl hd kk
theorem k_pTX0_memory {Rt : Type} {X : k_C} {Y : k_Y} {q : Nat → Nat} {kc ks : Nat} {Q : Rt → k_S → State → Prop} {pc : Nat} {L : List (Option Value)} {st : List Value} {σ : k_S} {x : Int32} {kf : k_S → Option (Rt × k_S)} {own : String} {index : Nat} (hw : Cond.fieldLink own index "TallTales$House" "memory" "I" ∈ k_ws) (hown : own = Y.2.2.2.1) (hd : decode Y.2.1 pc = .ok (.putfield index, 3)) (kk : ∀ σ' : k_S, KO X Y (cT (k_I X) q) kc ks Q (pc + 3) L st σ' (kf σ')) : KO X Y (cT (k_I X) q) kc ks Q pc L (.int x :: .ref (q 3) :: st) σ (k_bn (k_sf σ 5 x) kf) := k_put (T := TX0) (ci := 0) 3 rfl rfl kinX0 tyX0_ok nmX0 2 (by decide) rfl rfl rfl rfl hown hw rfl hd kk
theorem k_gTX0_nights {Rt : Type} {X : k_C} {Y : k_Y} {q : Nat → Nat} {kc ks : Nat} {Q : Rt → k_S → State → Prop} {pc : Nat} {L : List (Option Value)} {st : List Value} {σ : k_S} {o : Option (Rt × k_S)} {own : String} {index : Nat} (hw : Cond.fieldLink own index "TallTales$House" "nights" "I" ∈ k_ws) (hown : own = Y.2.2.2.1) (hd : decode Y.2.1 pc = .ok (.getfield index, 3)) (kk : KO X Y (cT (k_I X) q) kc ks Q (pc + 3) L (.int (σ.1 6) :: st) σ o) : KO X Y (cT (k_I X) q) kc ks Q pc L (.ref (q 3) :: st) σ o := k_get (T := TX0) (ci := 0) 3 rfl rfl kinX0 3 (by decide) rfl hown hw rfl hd kk
theorem k_pTX0_nights {Rt : Type} {X : k_C} {Y : k_Y} {q : Nat → Nat} {kc ks : Nat} {Q : Rt → k_S → State → Prop} {pc : Nat} {L : List (Option Value)} {st : List Value} {σ : k_S} {x : Int32} {kf : k_S → Option (Rt × k_S)} {own : String} {index : Nat} (hw : Cond.fieldLink own index "TallTales$House" "nights" "I" ∈ k_ws) (hown : own = Y.2.2.2.1) (hd : decode Y.2.1 pc = .ok (.putfield index, 3)) (kk : ∀ σ' : k_S, KO X Y (cT (k_I X) q) kc ks Q (pc + 3) L st σ' (kf σ')) : KO X Y (cT (k_I X) q) kc ks Q pc L (.int x :: .ref (q 3) :: st) σ (k_bn (k_sf σ 6 x) kf) := k_put (T := TX0) (ci := 0) 3 rfl rfl kinX0 tyX0_ok nmX0 3 (by decide) rfl rfl rfl rfl hown hw rfl hd kk
theorem k_gTX0_kinds {Rt : Type} {X : k_C} {Y : k_Y} {q : Nat → Nat} {kc ks : Nat} {Q : Rt → k_S → State → Prop} {pc : Nat} {L : List (Option Value)} {st : List Value} {σ : k_S} {o : Option (Rt × k_S)} {own : String} {index : Nat} (hw : Cond.fieldLink own index "TallTales$House" "kinds" "[I" ∈ k_ws) (hown : own = Y.2.2.2.1) (hd : decode Y.2.1 pc = .ok (.getfield index, 3)) (kk : KO X Y (cT (k_I X) q) kc ks Q (pc + 3) L (.ref (q 12) :: st) σ o) : KO X Y (cT (k_I X) q) kc ks Q pc L (.ref (q 3) :: st) σ o := k_get (T := TX0) (ci := 0) 3 rfl rfl kinX0 4 (by decide) rfl hown hw rfl hd kk
theorem k_gTX0_owners {Rt : Type} {X : k_C} {Y : k_Y} {q : Nat → Nat} {kc ks : Nat} {Q : Rt → k_S → State → Prop} {pc : Nat} {L : List (Option Value)} {st : List Value} {σ : k_S} {o : Option (Rt × k_S)} {own : String} {index : Nat} (hw : Cond.fieldLink own index "TallTales$House" "owners" "[I" ∈ k_ws) (hown : own = Y.2.2.2.1) (hd : decode Y.2.1 pc = .ok (.getfield index, 3)) (kk : KO X Y (cT (k_I X) q) kc ks Q (pc + 3) L (.ref (q 13) :: st) σ o) : KO X Y (cT (k_I X) q) kc ks Q pc L (.ref (q 3) :: st) σ o := k_get (T := TX0) (ci := 0) 3 rfl rfl kinX0 5 (by decide) rfl hown hw rfl hd kk
theorem k_gTX0_heights {Rt : Type} {X : k_C} {Y : k_Y} {q : Nat → Nat} {kc ks : Nat} {Q : Rt → k_S → State → Prop} {pc : Nat} {L : List (Option Value)} {st : List Value} {σ : k_S} {o : Option (Rt × k_S)} {own : String} {index : Nat} (hw : Cond.fieldLink own index "TallTales$House" "heights" "[I" ∈ k_ws) (hown : own = Y.2.2.2.1) (hd : decode Y.2.1 pc = .ok (.getfield index, 3)) (kk : KO X Y (cT (k_I X) q) kc ks Q (pc + 3) L (.ref (q 14) :: st) σ o) : KO X Y (cT (k_I X) q) kc ks Q pc L (.ref (q 3) :: st) σ o := k_get (T := TX0) (ci := 0) 3 rfl rfl kinX0 6 (by decide) rfl hown hw rfl hd kk
theorem k_gTX0_told {Rt : Type} {X : k_C} {Y : k_Y} {q : Nat → Nat} {kc ks : Nat} {Q : Rt → k_S → State → Prop} {pc : Nat} {L : List (Option Value)} {st : List Value} {σ : k_S} {o : Option (Rt × k_S)} {own : String} {index : Nat} (hw : Cond.fieldLink own index "TallTales$House" "told" "[I" ∈ k_ws) (hown : own = Y.2.2.2.1) (hd : decode Y.2.1 pc = .ok (.getfield index, 3)) (kk : KO X Y (cT (k_I X) q) kc ks Q (pc + 3) L (.ref (q 15) :: st) σ o) : KO X Y (cT (k_I X) q) kc ks Q pc L (.ref (q 3) :: st) σ o := k_get (T := TX0) (ci := 0) 3 rfl rfl kinX0 7 (by decide) rfl hown hw rfl hd kk
theorem k_gTX0_last {Rt : Type} {X : k_C} {Y : k_Y} {q : Nat → Nat} {kc ks : Nat} {Q : Rt → k_S → State → Prop} {pc : Nat} {L : List (Option Value)} {st : List Value} {σ : k_S} {o : Option (Rt × k_S)} {own : String} {index : Nat} (hw : Cond.fieldLink own index "TallTales$House" "last" "[I" ∈ k_ws) (hown : own = Y.2.2.2.1) (hd : decode Y.2.1 pc = .ok (.getfield index, 3)) (kk : KO X Y (cT (k_I X) q) kc ks Q (pc + 3) L (.ref (q 16) :: st) σ o) : KO X Y (cT (k_I X) q) kc ks Q pc L (.ref (q 3) :: st) σ o := k_get (T := TX0) (ci := 0) 3 rfl rfl kinX0 8 (by decide) rfl hown hw rfl hd kk
theorem k_gTX0_chosen {Rt : Type} {X : k_C} {Y : k_Y} {q : Nat → Nat} {kc ks : Nat} {Q : Rt → k_S → State → Prop} {pc : Nat} {L : List (Option Value)} {st : List Value} {σ : k_S} {o : Option (Rt × k_S)} {own : String} {index : Nat} (hw : Cond.fieldLink own index "TallTales$House" "chosen" "[I" ∈ k_ws) (hown : own = Y.2.2.2.1) (hd : decode Y.2.1 pc = .ok (.getfield index, 3)) (kk : KO X Y (cT (k_I X) q) kc ks Q (pc + 3) L (.ref (q 17) :: st) σ o) : KO X Y (cT (k_I X) q) kc ks Q pc L (.ref (q 3) :: st) σ o := k_get (T := TX0) (ci := 0) 3 rfl rfl kinX0 9 (by decide) rfl hown hw rfl hd kk
theorem k_gTX0_nightTale {Rt : Type} {X : k_C} {Y : k_Y} {q : Nat → Nat} {kc ks : Nat} {Q : Rt → k_S → State → Prop} {pc : Nat} {L : List (Option Value)} {st : List Value} {σ : k_S} {o : Option (Rt × k_S)} {own : String} {index : Nat} (hw : Cond.fieldLink own index "TallTales$House" "nightTale" "[I" ∈ k_ws) (hown : own = Y.2.2.2.1) (hd : decode Y.2.1 pc = .ok (.getfield index, 3)) (kk : KO X Y (cT (k_I X) q) kc ks Q (pc + 3) L (.ref (q 18) :: st) σ o) : KO X Y (cT (k_I X) q) kc ks Q pc L (.ref (q 3) :: st) σ o := k_get (T := TX0) (ci := 0) 3 rfl rfl kinX0 10 (by decide) rfl hown hw rfl hd kk
theorem k_gTX0_nightPlace {Rt : Type} {X : k_C} {Y : k_Y} {q : Nat → Nat} {kc ks : Nat} {Q : Rt → k_S → State → Prop} {pc : Nat} {L : List (Option Value)} {st : List Value} {σ : k_S} {o : Option (Rt × k_S)} {own : String} {index : Nat} (hw : Cond.fieldLink own index "TallTales$House" "nightPlace" "[I" ∈ k_ws) (hown : own = Y.2.2.2.1) (hd : decode Y.2.1 pc = .ok (.getfield index, 3)) (kk : KO X Y (cT (k_I X) q) kc ks Q (pc + 3) L (.ref (q 19) :: st) σ o) : KO X Y (cT (k_I X) q) kc ks Q pc L (.ref (q 3) :: st) σ o := k_get (T := TX0) (ci := 0) 3 rfl rfl kinX0 11 (by decide) rfl hown hw rfl hd kk
theorem k_gTX0_nightTall {Rt : Type} {X : k_C} {Y : k_Y} {q : Nat → Nat} {kc ks : Nat} {Q : Rt → k_S → State → Prop} {pc : Nat} {L : List (Option Value)} {st : List Value} {σ : k_S} {o : Option (Rt × k_S)} {own : String} {index : Nat} (hw : Cond.fieldLink own index "TallTales$House" "nightTall" "[I" ∈ k_ws) (hown : own = Y.2.2.2.1) (hd : decode Y.2.1 pc = .ok (.getfield index, 3)) (kk : KO X Y (cT (k_I X) q) kc ks Q (pc + 3) L (.ref (q 20) :: st) σ o) : KO X Y (cT (k_I X) q) kc ks Q pc L (.ref (q 3) :: st) σ o := k_get (T := TX0) (ci := 0) 3 rfl rfl kinX0 12 (by decide) rfl hown hw rfl hd kk
theorem k_gTX3_of {Rt : Type} {X : k_C} {Y : k_Y} {q : Nat → Nat} {kc ks : Nat} {Q : Rt → k_S → State → Prop} {pc : Nat} {L : List (Option Value)} {st : List Value} {σ : k_S} {o : Option (Rt × k_S)} {own : String} {index : Nat} (hw : Cond.fieldLink own index "TallTales$Talls" "of" "[I" ∈ k_ws) (hown : own = Y.2.2.2.1) (hd : decode Y.2.1 pc = .ok (.getfield index, 3)) (kk : KO X Y (cT (k_I X) q) kc ks Q (pc + 3) L (.ref (q 21) :: st) σ o) : KO X Y (cT (k_I X) q) kc ks Q pc L (.ref (q 4) :: st) σ o := k_get (T := TX3) (ci := 3) 4 rfl rfl kinX3 0 (by decide) rfl hown hw rfl hd kk
theorem k_gTX3_guests {Rt : Type} {X : k_C} {Y : k_Y} {q : Nat → Nat} {kc ks : Nat} {Q : Rt → k_S → State → Prop} {pc : Nat} {L : List (Option Value)} {st : List Value} {σ : k_S} {o : Option (Rt × k_S)} {own : String} {index : Nat} (hw : Cond.fieldLink own index "TallTales$Talls" "guests" "I" ∈ k_ws) (hown : own = Y.2.2.2.1) (hd : decode Y.2.1 pc = .ok (.getfield index, 3)) (kk : KO X Y (cT (k_I X) q) kc ks Q (pc + 3) L (.int (σ.1 7) :: st) σ o) : KO X Y (cT (k_I X) q) kc ks Q pc L (.ref (q 4) :: st) σ o := k_get (T := TX3) (ci := 3) 4 rfl rfl kinX3 1 (by decide) rfl hown hw rfl hd kk
theorem k_pTX3_guests {Rt : Type} {X : k_C} {Y : k_Y} {q : Nat → Nat} {kc ks : Nat} {Q : Rt → k_S → State → Prop} {pc : Nat} {L : List (Option Value)} {st : List Value} {σ : k_S} {x : Int32} {kf : k_S → Option (Rt × k_S)} {own : String} {index : Nat} (hw : Cond.fieldLink own index "TallTales$Talls" "guests" "I" ∈ k_ws) (hown : own = Y.2.2.2.1) (hd : decode Y.2.1 pc = .ok (.putfield index, 3)) (kk : ∀ σ' : k_S, KO X Y (cT (k_I X) q) kc ks Q (pc + 3) L st σ' (kf σ')) : KO X Y (cT (k_I X) q) kc ks Q pc L (.int x :: .ref (q 4) :: st) σ (k_bn (k_sf σ 7 x) kf) := k_put (T := TX3) (ci := 3) 4 rfl rfl kinX3 tyX3_ok nmX3 1 (by decide) rfl rfl rfl rfl hown hw rfl hd kk
theorem k_gTX1_house {Rt : Type} {X : k_C} {Y : k_Y} {q : Nat → Nat} {kc ks : Nat} {Q : Rt → k_S → State → Prop} {pc : Nat} {L : List (Option Value)} {st : List Value} {σ : k_S} {o : Option (Rt × k_S)} {own : String} {index : Nat} (hw : Cond.fieldLink own index "TallTales$Rests" "house" "LTallTales$House;" ∈ k_ws) (hown : own = Y.2.2.2.1) (hd : decode Y.2.1 pc = .ok (.getfield index, 3)) (kk : KO X Y (cT (k_I X) q) kc ks Q (pc + 3) L (.ref (q 3) :: st) σ o) : KO X Y (cT (k_I X) q) kc ks Q pc L (.ref (q 5) :: st) σ o := k_get (T := TX1) (ci := 1) 5 rfl rfl kinX1 0 (by decide) rfl hown hw rfl hd kk
theorem k_gTX1_talls {Rt : Type} {X : k_C} {Y : k_Y} {q : Nat → Nat} {kc ks : Nat} {Q : Rt → k_S → State → Prop} {pc : Nat} {L : List (Option Value)} {st : List Value} {σ : k_S} {o : Option (Rt × k_S)} {own : String} {index : Nat} (hw : Cond.fieldLink own index "TallTales$Rests" "talls" "LTallTales$Talls;" ∈ k_ws) (hown : own = Y.2.2.2.1) (hd : decode Y.2.1 pc = .ok (.getfield index, 3)) (kk : KO X Y (cT (k_I X) q) kc ks Q (pc + 3) L (.ref (q 4) :: st) σ o) : KO X Y (cT (k_I X) q) kc ks Q pc L (.ref (q 5) :: st) σ o := k_get (T := TX1) (ci := 1) 5 rfl rfl kinX1 1 (by decide) rfl hown hw rfl hd kk
theorem k_gTX1_picks {Rt : Type} {X : k_C} {Y : k_Y} {q : Nat → Nat} {kc ks : Nat} {Q : Rt → k_S → State → Prop} {pc : Nat} {L : List (Option Value)} {st : List Value} {σ : k_S} {o : Option (Rt × k_S)} {own : String} {index : Nat} (hw : Cond.fieldLink own index "TallTales$Rests" "picks" "[I" ∈ k_ws) (hown : own = Y.2.2.2.1) (hd : decode Y.2.1 pc = .ok (.getfield index, 3)) (kk : KO X Y (cT (k_I X) q) kc ks Q (pc + 3) L (.ref (q 22) :: st) σ o) : KO X Y (cT (k_I X) q) kc ks Q pc L (.ref (q 5) :: st) σ o := k_get (T := TX1) (ci := 1) 5 rfl rfl kinX1 2 (by decide) rfl hown hw rfl hd kk
theorem k_gTX1_first {Rt : Type} {X : k_C} {Y : k_Y} {q : Nat → Nat} {kc ks : Nat} {Q : Rt → k_S → State → Prop} {pc : Nat} {L : List (Option Value)} {st : List Value} {σ : k_S} {o : Option (Rt × k_S)} {own : String} {index : Nat} (hw : Cond.fieldLink own index "TallTales$Rests" "first" "[I" ∈ k_ws) (hown : own = Y.2.2.2.1) (hd : decode Y.2.1 pc = .ok (.getfield index, 3)) (kk : KO X Y (cT (k_I X) q) kc ks Q (pc + 3) L (.ref (q 23) :: st) σ o) : KO X Y (cT (k_I X) q) kc ks Q pc L (.ref (q 5) :: st) σ o := k_get (T := TX1) (ci := 1) 5 rfl rfl kinX1 3 (by decide) rfl hown hw rfl hd kk
theorem k_gTX1_count {Rt : Type} {X : k_C} {Y : k_Y} {q : Nat → Nat} {kc ks : Nat} {Q : Rt → k_S → State → Prop} {pc : Nat} {L : List (Option Value)} {st : List Value} {σ : k_S} {o : Option (Rt × k_S)} {own : String} {index : Nat} (hw : Cond.fieldLink own index "TallTales$Rests" "count" "I" ∈ k_ws) (hown : own = Y.2.2.2.1) (hd : decode Y.2.1 pc = .ok (.getfield index, 3)) (kk : KO X Y (cT (k_I X) q) kc ks Q (pc + 3) L (.int (σ.1 8) :: st) σ o) : KO X Y (cT (k_I X) q) kc ks Q pc L (.ref (q 5) :: st) σ o := k_get (T := TX1) (ci := 1) 5 rfl rfl kinX1 4 (by decide) rfl hown hw rfl hd kk
theorem k_pTX1_count {Rt : Type} {X : k_C} {Y : k_Y} {q : Nat → Nat} {kc ks : Nat} {Q : Rt → k_S → State → Prop} {pc : Nat} {L : List (Option Value)} {st : List Value} {σ : k_S} {x : Int32} {kf : k_S → Option (Rt × k_S)} {own : String} {index : Nat} (hw : Cond.fieldLink own index "TallTales$Rests" "count" "I" ∈ k_ws) (hown : own = Y.2.2.2.1) (hd : decode Y.2.1 pc = .ok (.putfield index, 3)) (kk : ∀ σ' : k_S, KO X Y (cT (k_I X) q) kc ks Q (pc + 3) L st σ' (kf σ')) : KO X Y (cT (k_I X) q) kc ks Q pc L (.int x :: .ref (q 5) :: st) σ (k_bn (k_sf σ 8 x) kf) := k_put (T := TX1) (ci := 1) 5 rfl rfl kinX1 tyX1_ok nmX1 4 (by decide) rfl rfl rfl rfl hown hw rfl hd kk
theorem k_gTX5_house {Rt : Type} {X : k_C} {Y : k_Y} {q : Nat → Nat} {kc ks : Nat} {Q : Rt → k_S → State → Prop} {pc : Nat} {L : List (Option Value)} {st : List Value} {σ : k_S} {o : Option (Rt × k_S)} {own : String} {index : Nat} (hw : Cond.fieldLink own index "TallTales$Winter" "house" "LTallTales$House;" ∈ k_ws) (hown : own = Y.2.2.2.1) (hd : decode Y.2.1 pc = .ok (.getfield index, 3)) (kk : KO X Y (cT (k_I X) q) kc ks Q (pc + 3) L (.ref (q 3) :: st) σ o) : KO X Y (cT (k_I X) q) kc ks Q pc L (.ref (q 6) :: st) σ o := k_get (T := TX5) (ci := 5) 6 rfl rfl kinX5 0 (by decide) rfl hown hw rfl hd kk
theorem k_gTX5_numbers {Rt : Type} {X : k_C} {Y : k_Y} {q : Nat → Nat} {kc ks : Nat} {Q : Rt → k_S → State → Prop} {pc : Nat} {L : List (Option Value)} {st : List Value} {σ : k_S} {o : Option (Rt × k_S)} {own : String} {index : Nat} (hw : Cond.fieldLink own index "TallTales$Winter" "numbers" "[I" ∈ k_ws) (hown : own = Y.2.2.2.1) (hd : decode Y.2.1 pc = .ok (.getfield index, 3)) (kk : KO X Y (cT (k_I X) q) kc ks Q (pc + 3) L (.ref (q 24) :: st) σ o) : KO X Y (cT (k_I X) q) kc ks Q pc L (.ref (q 6) :: st) σ o := k_get (T := TX5) (ci := 5) 6 rfl rfl kinX5 1 (by decide) rfl hown hw rfl hd kk
theorem k_gTX5_ahead {Rt : Type} {X : k_C} {Y : k_Y} {q : Nat → Nat} {kc ks : Nat} {Q : Rt → k_S → State → Prop} {pc : Nat} {L : List (Option Value)} {st : List Value} {σ : k_S} {o : Option (Rt × k_S)} {own : String} {index : Nat} (hw : Cond.fieldLink own index "TallTales$Winter" "ahead" "[I" ∈ k_ws) (hown : own = Y.2.2.2.1) (hd : decode Y.2.1 pc = .ok (.getfield index, 3)) (kk : KO X Y (cT (k_I X) q) kc ks Q (pc + 3) L (.ref (q 25) :: st) σ o) : KO X Y (cT (k_I X) q) kc ks Q pc L (.ref (q 6) :: st) σ o := k_get (T := TX5) (ci := 5) 6 rfl rfl kinX5 2 (by decide) rfl hown hw rfl hd kk
theorem k_gTX5_told {Rt : Type} {X : k_C} {Y : k_Y} {q : Nat → Nat} {kc ks : Nat} {Q : Rt → k_S → State → Prop} {pc : Nat} {L : List (Option Value)} {st : List Value} {σ : k_S} {o : Option (Rt × k_S)} {own : String} {index : Nat} (hw : Cond.fieldLink own index "TallTales$Winter" "told" "[I" ∈ k_ws) (hown : own = Y.2.2.2.1) (hd : decode Y.2.1 pc = .ok (.getfield index, 3)) (kk : KO X Y (cT (k_I X) q) kc ks Q (pc + 3) L (.ref (q 26) :: st) σ o) : KO X Y (cT (k_I X) q) kc ks Q pc L (.ref (q 6) :: st) σ o := k_get (T := TX5) (ci := 5) 6 rfl rfl kinX5 3 (by decide) rfl hown hw rfl hd kk
theorem k_gTX5_last {Rt : Type} {X : k_C} {Y : k_Y} {q : Nat → Nat} {kc ks : Nat} {Q : Rt → k_S → State → Prop} {pc : Nat} {L : List (Option Value)} {st : List Value} {σ : k_S} {o : Option (Rt × k_S)} {own : String} {index : Nat} (hw : Cond.fieldLink own index "TallTales$Winter" "last" "[I" ∈ k_ws) (hown : own = Y.2.2.2.1) (hd : decode Y.2.1 pc = .ok (.getfield index, 3)) (kk : KO X Y (cT (k_I X) q) kc ks Q (pc + 3) L (.ref (q 27) :: st) σ o) : KO X Y (cT (k_I X) q) kc ks Q pc L (.ref (q 6) :: st) σ o := k_get (T := TX5) (ci := 5) 6 rfl rfl kinX5 4 (by decide) rfl hown hw rfl hd kk
theorem k_gTX5_row {Rt : Type} {X : k_C} {Y : k_Y} {q : Nat → Nat} {kc ks : Nat} {Q : Rt → k_S → State → Prop} {pc : Nat} {L : List (Option Value)} {st : List Value} {σ : k_S} {o : Option (Rt × k_S)} {own : String} {index : Nat} (hw : Cond.fieldLink own index "TallTales$Winter" "row" "[I" ∈ k_ws) (hown : own = Y.2.2.2.1) (hd : decode Y.2.1 pc = .ok (.getfield index, 3)) (kk : KO X Y (cT (k_I X) q) kc ks Q (pc + 3) L (.ref (q 28) :: st) σ o) : KO X Y (cT (k_I X) q) kc ks Q pc L (.ref (q 6) :: st) σ o := k_get (T := TX5) (ci := 5) 6 rfl rfl kinX5 5 (by decide) rfl hown hw rfl hd kk
theorem k_gTX5_first {Rt : Type} {X : k_C} {Y : k_Y} {q : Nat → Nat} {kc ks : Nat} {Q : Rt → k_S → State → Prop} {pc : Nat} {L : List (Option Value)} {st : List Value} {σ : k_S} {o : Option (Rt × k_S)} {own : String} {index : Nat} (hw : Cond.fieldLink own index "TallTales$Winter" "first" "[I" ∈ k_ws) (hown : own = Y.2.2.2.1) (hd : decode Y.2.1 pc = .ok (.getfield index, 3)) (kk : KO X Y (cT (k_I X) q) kc ks Q (pc + 3) L (.ref (q 29) :: st) σ o) : KO X Y (cT (k_I X) q) kc ks Q pc L (.ref (q 6) :: st) σ o := k_get (T := TX5) (ci := 5) 6 rfl rfl kinX5 6 (by decide) rfl hown hw rfl hd kk
theorem k_gTX5_guest {Rt : Type} {X : k_C} {Y : k_Y} {q : Nat → Nat} {kc ks : Nat} {Q : Rt → k_S → State → Prop} {pc : Nat} {L : List (Option Value)} {st : List Value} {σ : k_S} {o : Option (Rt × k_S)} {own : String} {index : Nat} (hw : Cond.fieldLink own index "TallTales$Winter" "guest" "I" ∈ k_ws) (hown : own = Y.2.2.2.1) (hd : decode Y.2.1 pc = .ok (.getfield index, 3)) (kk : KO X Y (cT (k_I X) q) kc ks Q (pc + 3) L (.int (σ.1 9) :: st) σ o) : KO X Y (cT (k_I X) q) kc ks Q pc L (.ref (q 6) :: st) σ o := k_get (T := TX5) (ci := 5) 6 rfl rfl kinX5 7 (by decide) rfl hown hw rfl hd kk
theorem k_pTX5_guest {Rt : Type} {X : k_C} {Y : k_Y} {q : Nat → Nat} {kc ks : Nat} {Q : Rt → k_S → State → Prop} {pc : Nat} {L : List (Option Value)} {st : List Value} {σ : k_S} {x : Int32} {kf : k_S → Option (Rt × k_S)} {own : String} {index : Nat} (hw : Cond.fieldLink own index "TallTales$Winter" "guest" "I" ∈ k_ws) (hown : own = Y.2.2.2.1) (hd : decode Y.2.1 pc = .ok (.putfield index, 3)) (kk : ∀ σ' : k_S, KO X Y (cT (k_I X) q) kc ks Q (pc + 3) L st σ' (kf σ')) : KO X Y (cT (k_I X) q) kc ks Q pc L (.int x :: .ref (q 6) :: st) σ (k_bn (k_sf σ 9 x) kf) := k_put (T := TX5) (ci := 5) 6 rfl rfl kinX5 tyX5_ok nmX5 7 (by decide) rfl rfl rfl rfl hown hw rfl hd kk
theorem k_gTX5_length {Rt : Type} {X : k_C} {Y : k_Y} {q : Nat → Nat} {kc ks : Nat} {Q : Rt → k_S → State → Prop} {pc : Nat} {L : List (Option Value)} {st : List Value} {σ : k_S} {o : Option (Rt × k_S)} {own : String} {index : Nat} (hw : Cond.fieldLink own index "TallTales$Winter" "length" "I" ∈ k_ws) (hown : own = Y.2.2.2.1) (hd : decode Y.2.1 pc = .ok (.getfield index, 3)) (kk : KO X Y (cT (k_I X) q) kc ks Q (pc + 3) L (.int (σ.1 10) :: st) σ o) : KO X Y (cT (k_I X) q) kc ks Q pc L (.ref (q 6) :: st) σ o := k_get (T := TX5) (ci := 5) 6 rfl rfl kinX5 8 (by decide) rfl hown hw rfl hd kk
theorem k_pTX5_length {Rt : Type} {X : k_C} {Y : k_Y} {q : Nat → Nat} {kc ks : Nat} {Q : Rt → k_S → State → Prop} {pc : Nat} {L : List (Option Value)} {st : List Value} {σ : k_S} {x : Int32} {kf : k_S → Option (Rt × k_S)} {own : String} {index : Nat} (hw : Cond.fieldLink own index "TallTales$Winter" "length" "I" ∈ k_ws) (hown : own = Y.2.2.2.1) (hd : decode Y.2.1 pc = .ok (.putfield index, 3)) (kk : ∀ σ' : k_S, KO X Y (cT (k_I X) q) kc ks Q (pc + 3) L st σ' (kf σ')) : KO X Y (cT (k_I X) q) kc ks Q pc L (.int x :: .ref (q 6) :: st) σ (k_bn (k_sf σ 10 x) kf) := k_put (T := TX5) (ci := 5) 6 rfl rfl kinX5 tyX5_ok nmX5 8 (by decide) rfl rfl rfl rfl hown hw rfl hd kk
theorem k_gTX5_most {Rt : Type} {X : k_C} {Y : k_Y} {q : Nat → Nat} {kc ks : Nat} {Q : Rt → k_S → State → Prop} {pc : Nat} {L : List (Option Value)} {st : List Value} {σ : k_S} {o : Option (Rt × k_S)} {own : String} {index : Nat} (hw : Cond.fieldLink own index "TallTales$Winter" "most" "I" ∈ k_ws) (hown : own = Y.2.2.2.1) (hd : decode Y.2.1 pc = .ok (.getfield index, 3)) (kk : KO X Y (cT (k_I X) q) kc ks Q (pc + 3) L (.int (σ.1 11) :: st) σ o) : KO X Y (cT (k_I X) q) kc ks Q pc L (.ref (q 6) :: st) σ o := k_get (T := TX5) (ci := 5) 6 rfl rfl kinX5 9 (by decide) rfl hown hw rfl hd kk
theorem k_pTX5_most {Rt : Type} {X : k_C} {Y : k_Y} {q : Nat → Nat} {kc ks : Nat} {Q : Rt → k_S → State → Prop} {pc : Nat} {L : List (Option Value)} {st : List Value} {σ : k_S} {x : Int32} {kf : k_S → Option (Rt × k_S)} {own : String} {index : Nat} (hw : Cond.fieldLink own index "TallTales$Winter" "most" "I" ∈ k_ws) (hown : own = Y.2.2.2.1) (hd : decode Y.2.1 pc = .ok (.putfield index, 3)) (kk : ∀ σ' : k_S, KO X Y (cT (k_I X) q) kc ks Q (pc + 3) L st σ' (kf σ')) : KO X Y (cT (k_I X) q) kc ks Q pc L (.int x :: .ref (q 6) :: st) σ (k_bn (k_sf σ 11 x) kf) := k_put (T := TX5) (ci := 5) 6 rfl rfl kinX5 tyX5_ok nmX5 9 (by decide) rfl rfl rfl rfl hown hw rfl hd kk
theorem k_lT7 {Rt : Type} {X : k_C} {Y : k_Y} {q : Nat → Nat} {kc ks : Nat} {Q : Rt → k_S → State → Prop} {pc : Nat} {L : List (Option Value)} {st : List Value} {σ : k_S} {o : Option (Rt × k_S)} {i : Int32} (hd : decode Y.2.1 pc = .ok (.iaload, 1)) (kk : KO X Y (cT (k_I X) q) kc ks Q (pc + 1) L (.int (σ.2 0 i.toNatClampNeg) :: st) σ o) : KO X Y (cT (k_I X) q) kc ks Q pc L (.int i :: .ref (q 7) :: st) σ (k_gd i 5 o) := k_iald 7 rfl hd kk
theorem k_sT7 {Rt : Type} {X : k_C} {Y : k_Y} {q : Nat → Nat} {kc ks : Nat} {Q : Rt → k_S → State → Prop} {pc : Nat} {L : List (Option Value)} {st : List Value} {σ : k_S} {i x : Int32} {kf : k_S → Option (Rt × k_S)} (hd : decode Y.2.1 pc = .ok (.iastore, 1)) (kk : ∀ σ' : k_S, KO X Y (cT (k_I X) q) kc ks Q (pc + 1) L st σ' (kf σ')) : KO X Y (cT (k_I X) q) kc ks Q pc L (.int x :: .int i :: .ref (q 7) :: st) σ (k_gd i 5 (k_bn (k_sa σ 0 i x) kf)) := k_iast 7 rfl rfl hd kk
theorem k_lT8 {Rt : Type} {X : k_C} {Y : k_Y} {q : Nat → Nat} {kc ks : Nat} {Q : Rt → k_S → State → Prop} {pc : Nat} {L : List (Option Value)} {st : List Value} {σ : k_S} {o : Option (Rt × k_S)} {i : Int32} (hd : decode Y.2.1 pc = .ok (.iaload, 1)) (kk : KO X Y (cT (k_I X) q) kc ks Q (pc + 1) L (.int (σ.2 1 i.toNatClampNeg) :: st) σ o) : KO X Y (cT (k_I X) q) kc ks Q pc L (.int i :: .ref (q 8) :: st) σ (k_gd i 240 o) := k_iald 8 rfl hd kk
theorem k_sT8 {Rt : Type} {X : k_C} {Y : k_Y} {q : Nat → Nat} {kc ks : Nat} {Q : Rt → k_S → State → Prop} {pc : Nat} {L : List (Option Value)} {st : List Value} {σ : k_S} {i x : Int32} {kf : k_S → Option (Rt × k_S)} (hd : decode Y.2.1 pc = .ok (.iastore, 1)) (kk : ∀ σ' : k_S, KO X Y (cT (k_I X) q) kc ks Q (pc + 1) L st σ' (kf σ')) : KO X Y (cT (k_I X) q) kc ks Q pc L (.int x :: .int i :: .ref (q 8) :: st) σ (k_gd i 240 (k_bn (k_sa σ 1 i x) kf)) := k_iast 8 rfl rfl hd kk
theorem k_lT9 {Rt : Type} {X : k_C} {Y : k_Y} {q : Nat → Nat} {kc ks : Nat} {Q : Rt → k_S → State → Prop} {pc : Nat} {L : List (Option Value)} {st : List Value} {σ : k_S} {o : Option (Rt × k_S)} {i : Int32} (hd : decode Y.2.1 pc = .ok (.iaload, 1)) (kk : KO X Y (cT (k_I X) q) kc ks Q (pc + 1) L (.int (σ.2 2 i.toNatClampNeg) :: st) σ o) : KO X Y (cT (k_I X) q) kc ks Q pc L (.int i :: .ref (q 9) :: st) σ (k_gd i 4 o) := k_iald 9 rfl hd kk
theorem k_sT9 {Rt : Type} {X : k_C} {Y : k_Y} {q : Nat → Nat} {kc ks : Nat} {Q : Rt → k_S → State → Prop} {pc : Nat} {L : List (Option Value)} {st : List Value} {σ : k_S} {i x : Int32} {kf : k_S → Option (Rt × k_S)} (hd : decode Y.2.1 pc = .ok (.iastore, 1)) (kk : ∀ σ' : k_S, KO X Y (cT (k_I X) q) kc ks Q (pc + 1) L st σ' (kf σ')) : KO X Y (cT (k_I X) q) kc ks Q pc L (.int x :: .int i :: .ref (q 9) :: st) σ (k_gd i 4 (k_bn (k_sa σ 2 i x) kf)) := k_iast 9 rfl rfl hd kk
theorem k_lT10 {Rt : Type} {X : k_C} {Y : k_Y} {q : Nat → Nat} {kc ks : Nat} {Q : Rt → k_S → State → Prop} {pc : Nat} {L : List (Option Value)} {st : List Value} {σ : k_S} {o : Option (Rt × k_S)} {i : Int32} (hd : decode Y.2.1 pc = .ok (.iaload, 1)) (kk : KO X Y (cT (k_I X) q) kc ks Q (pc + 1) L (.int (σ.2 3 i.toNatClampNeg) :: st) σ o) : KO X Y (cT (k_I X) q) kc ks Q pc L (.int i :: .ref (q 10) :: st) σ (k_gd i 4 o) := k_iald 10 rfl hd kk
theorem k_sT10 {Rt : Type} {X : k_C} {Y : k_Y} {q : Nat → Nat} {kc ks : Nat} {Q : Rt → k_S → State → Prop} {pc : Nat} {L : List (Option Value)} {st : List Value} {σ : k_S} {i x : Int32} {kf : k_S → Option (Rt × k_S)} (hd : decode Y.2.1 pc = .ok (.iastore, 1)) (kk : ∀ σ' : k_S, KO X Y (cT (k_I X) q) kc ks Q (pc + 1) L st σ' (kf σ')) : KO X Y (cT (k_I X) q) kc ks Q pc L (.int x :: .int i :: .ref (q 10) :: st) σ (k_gd i 4 (k_bn (k_sa σ 3 i x) kf)) := k_iast 10 rfl rfl hd kk
theorem k_lT11 {Rt : Type} {X : k_C} {Y : k_Y} {q : Nat → Nat} {kc ks : Nat} {Q : Rt → k_S → State → Prop} {pc : Nat} {L : List (Option Value)} {st : List Value} {σ : k_S} {o : Option (Rt × k_S)} {i : Int32} (hd : decode Y.2.1 pc = .ok (.iaload, 1)) (kk : KO X Y (cT (k_I X) q) kc ks Q (pc + 1) L (.int (σ.2 4 i.toNatClampNeg) :: st) σ o) : KO X Y (cT (k_I X) q) kc ks Q pc L (.int i :: .ref (q 11) :: st) σ (k_gd i 60 o) := k_iald 11 rfl hd kk
theorem k_sT11 {Rt : Type} {X : k_C} {Y : k_Y} {q : Nat → Nat} {kc ks : Nat} {Q : Rt → k_S → State → Prop} {pc : Nat} {L : List (Option Value)} {st : List Value} {σ : k_S} {i x : Int32} {kf : k_S → Option (Rt × k_S)} (hd : decode Y.2.1 pc = .ok (.iastore, 1)) (kk : ∀ σ' : k_S, KO X Y (cT (k_I X) q) kc ks Q (pc + 1) L st σ' (kf σ')) : KO X Y (cT (k_I X) q) kc ks Q pc L (.int x :: .int i :: .ref (q 11) :: st) σ (k_gd i 60 (k_bn (k_sa σ 4 i x) kf)) := k_iast 11 rfl rfl hd kk
theorem k_lT12 {Rt : Type} {X : k_C} {Y : k_Y} {q : Nat → Nat} {kc ks : Nat} {Q : Rt → k_S → State → Prop} {pc : Nat} {L : List (Option Value)} {st : List Value} {σ : k_S} {o : Option (Rt × k_S)} {i : Int32} (hd : decode Y.2.1 pc = .ok (.iaload, 1)) (kk : KO X Y (cT (k_I X) q) kc ks Q (pc + 1) L (.int (σ.2 5 i.toNatClampNeg) :: st) σ o) : KO X Y (cT (k_I X) q) kc ks Q pc L (.int i :: .ref (q 12) :: st) σ (k_gd i 10 o) := k_iald 12 rfl hd kk
theorem k_sT12 {Rt : Type} {X : k_C} {Y : k_Y} {q : Nat → Nat} {kc ks : Nat} {Q : Rt → k_S → State → Prop} {pc : Nat} {L : List (Option Value)} {st : List Value} {σ : k_S} {i x : Int32} {kf : k_S → Option (Rt × k_S)} (hd : decode Y.2.1 pc = .ok (.iastore, 1)) (kk : ∀ σ' : k_S, KO X Y (cT (k_I X) q) kc ks Q (pc + 1) L st σ' (kf σ')) : KO X Y (cT (k_I X) q) kc ks Q pc L (.int x :: .int i :: .ref (q 12) :: st) σ (k_gd i 10 (k_bn (k_sa σ 5 i x) kf)) := k_iast 12 rfl rfl hd kk
theorem k_lT13 {Rt : Type} {X : k_C} {Y : k_Y} {q : Nat → Nat} {kc ks : Nat} {Q : Rt → k_S → State → Prop} {pc : Nat} {L : List (Option Value)} {st : List Value} {σ : k_S} {o : Option (Rt × k_S)} {i : Int32} (hd : decode Y.2.1 pc = .ok (.iaload, 1)) (kk : KO X Y (cT (k_I X) q) kc ks Q (pc + 1) L (.int (σ.2 6 i.toNatClampNeg) :: st) σ o) : KO X Y (cT (k_I X) q) kc ks Q pc L (.int i :: .ref (q 13) :: st) σ (k_gd i 10 o) := k_iald 13 rfl hd kk
theorem k_sT13 {Rt : Type} {X : k_C} {Y : k_Y} {q : Nat → Nat} {kc ks : Nat} {Q : Rt → k_S → State → Prop} {pc : Nat} {L : List (Option Value)} {st : List Value} {σ : k_S} {i x : Int32} {kf : k_S → Option (Rt × k_S)} (hd : decode Y.2.1 pc = .ok (.iastore, 1)) (kk : ∀ σ' : k_S, KO X Y (cT (k_I X) q) kc ks Q (pc + 1) L st σ' (kf σ')) : KO X Y (cT (k_I X) q) kc ks Q pc L (.int x :: .int i :: .ref (q 13) :: st) σ (k_gd i 10 (k_bn (k_sa σ 6 i x) kf)) := k_iast 13 rfl rfl hd kk
theorem k_lT14 {Rt : Type} {X : k_C} {Y : k_Y} {q : Nat → Nat} {kc ks : Nat} {Q : Rt → k_S → State → Prop} {pc : Nat} {L : List (Option Value)} {st : List Value} {σ : k_S} {o : Option (Rt × k_S)} {i : Int32} (hd : decode Y.2.1 pc = .ok (.iaload, 1)) (kk : KO X Y (cT (k_I X) q) kc ks Q (pc + 1) L (.int (σ.2 7 i.toNatClampNeg) :: st) σ o) : KO X Y (cT (k_I X) q) kc ks Q pc L (.int i :: .ref (q 14) :: st) σ (k_gd i 10 o) := k_iald 14 rfl hd kk
theorem k_sT14 {Rt : Type} {X : k_C} {Y : k_Y} {q : Nat → Nat} {kc ks : Nat} {Q : Rt → k_S → State → Prop} {pc : Nat} {L : List (Option Value)} {st : List Value} {σ : k_S} {i x : Int32} {kf : k_S → Option (Rt × k_S)} (hd : decode Y.2.1 pc = .ok (.iastore, 1)) (kk : ∀ σ' : k_S, KO X Y (cT (k_I X) q) kc ks Q (pc + 1) L st σ' (kf σ')) : KO X Y (cT (k_I X) q) kc ks Q pc L (.int x :: .int i :: .ref (q 14) :: st) σ (k_gd i 10 (k_bn (k_sa σ 7 i x) kf)) := k_iast 14 rfl rfl hd kk
theorem k_lT15 {Rt : Type} {X : k_C} {Y : k_Y} {q : Nat → Nat} {kc ks : Nat} {Q : Rt → k_S → State → Prop} {pc : Nat} {L : List (Option Value)} {st : List Value} {σ : k_S} {o : Option (Rt × k_S)} {i : Int32} (hd : decode Y.2.1 pc = .ok (.iaload, 1)) (kk : KO X Y (cT (k_I X) q) kc ks Q (pc + 1) L (.int (σ.2 8 i.toNatClampNeg) :: st) σ o) : KO X Y (cT (k_I X) q) kc ks Q pc L (.int i :: .ref (q 15) :: st) σ (k_gd i 10 o) := k_iald 15 rfl hd kk
theorem k_sT15 {Rt : Type} {X : k_C} {Y : k_Y} {q : Nat → Nat} {kc ks : Nat} {Q : Rt → k_S → State → Prop} {pc : Nat} {L : List (Option Value)} {st : List Value} {σ : k_S} {i x : Int32} {kf : k_S → Option (Rt × k_S)} (hd : decode Y.2.1 pc = .ok (.iastore, 1)) (kk : ∀ σ' : k_S, KO X Y (cT (k_I X) q) kc ks Q (pc + 1) L st σ' (kf σ')) : KO X Y (cT (k_I X) q) kc ks Q pc L (.int x :: .int i :: .ref (q 15) :: st) σ (k_gd i 10 (k_bn (k_sa σ 8 i x) kf)) := k_iast 15 rfl rfl hd kk
theorem k_lT16 {Rt : Type} {X : k_C} {Y : k_Y} {q : Nat → Nat} {kc ks : Nat} {Q : Rt → k_S → State → Prop} {pc : Nat} {L : List (Option Value)} {st : List Value} {σ : k_S} {o : Option (Rt × k_S)} {i : Int32} (hd : decode Y.2.1 pc = .ok (.iaload, 1)) (kk : KO X Y (cT (k_I X) q) kc ks Q (pc + 1) L (.int (σ.2 9 i.toNatClampNeg) :: st) σ o) : KO X Y (cT (k_I X) q) kc ks Q pc L (.int i :: .ref (q 16) :: st) σ (k_gd i 10 o) := k_iald 16 rfl hd kk
theorem k_sT16 {Rt : Type} {X : k_C} {Y : k_Y} {q : Nat → Nat} {kc ks : Nat} {Q : Rt → k_S → State → Prop} {pc : Nat} {L : List (Option Value)} {st : List Value} {σ : k_S} {i x : Int32} {kf : k_S → Option (Rt × k_S)} (hd : decode Y.2.1 pc = .ok (.iastore, 1)) (kk : ∀ σ' : k_S, KO X Y (cT (k_I X) q) kc ks Q (pc + 1) L st σ' (kf σ')) : KO X Y (cT (k_I X) q) kc ks Q pc L (.int x :: .int i :: .ref (q 16) :: st) σ (k_gd i 10 (k_bn (k_sa σ 9 i x) kf)) := k_iast 16 rfl rfl hd kk
theorem k_lT17 {Rt : Type} {X : k_C} {Y : k_Y} {q : Nat → Nat} {kc ks : Nat} {Q : Rt → k_S → State → Prop} {pc : Nat} {L : List (Option Value)} {st : List Value} {σ : k_S} {o : Option (Rt × k_S)} {i : Int32} (hd : decode Y.2.1 pc = .ok (.iaload, 1)) (kk : KO X Y (cT (k_I X) q) kc ks Q (pc + 1) L (.int (σ.2 10 i.toNatClampNeg) :: st) σ o) : KO X Y (cT (k_I X) q) kc ks Q pc L (.int i :: .ref (q 17) :: st) σ (k_gd i 5 o) := k_iald 17 rfl hd kk
theorem k_sT17 {Rt : Type} {X : k_C} {Y : k_Y} {q : Nat → Nat} {kc ks : Nat} {Q : Rt → k_S → State → Prop} {pc : Nat} {L : List (Option Value)} {st : List Value} {σ : k_S} {i x : Int32} {kf : k_S → Option (Rt × k_S)} (hd : decode Y.2.1 pc = .ok (.iastore, 1)) (kk : ∀ σ' : k_S, KO X Y (cT (k_I X) q) kc ks Q (pc + 1) L st σ' (kf σ')) : KO X Y (cT (k_I X) q) kc ks Q pc L (.int x :: .int i :: .ref (q 17) :: st) σ (k_gd i 5 (k_bn (k_sa σ 10 i x) kf)) := k_iast 17 rfl rfl hd kk
theorem k_lT18 {Rt : Type} {X : k_C} {Y : k_Y} {q : Nat → Nat} {kc ks : Nat} {Q : Rt → k_S → State → Prop} {pc : Nat} {L : List (Option Value)} {st : List Value} {σ : k_S} {o : Option (Rt × k_S)} {i : Int32} (hd : decode Y.2.1 pc = .ok (.iaload, 1)) (kk : KO X Y (cT (k_I X) q) kc ks Q (pc + 1) L (.int (σ.2 11 i.toNatClampNeg) :: st) σ o) : KO X Y (cT (k_I X) q) kc ks Q pc L (.int i :: .ref (q 18) :: st) σ (k_gd i 300 o) := k_iald 18 rfl hd kk
theorem k_sT18 {Rt : Type} {X : k_C} {Y : k_Y} {q : Nat → Nat} {kc ks : Nat} {Q : Rt → k_S → State → Prop} {pc : Nat} {L : List (Option Value)} {st : List Value} {σ : k_S} {i x : Int32} {kf : k_S → Option (Rt × k_S)} (hd : decode Y.2.1 pc = .ok (.iastore, 1)) (kk : ∀ σ' : k_S, KO X Y (cT (k_I X) q) kc ks Q (pc + 1) L st σ' (kf σ')) : KO X Y (cT (k_I X) q) kc ks Q pc L (.int x :: .int i :: .ref (q 18) :: st) σ (k_gd i 300 (k_bn (k_sa σ 11 i x) kf)) := k_iast 18 rfl rfl hd kk
theorem k_lT19 {Rt : Type} {X : k_C} {Y : k_Y} {q : Nat → Nat} {kc ks : Nat} {Q : Rt → k_S → State → Prop} {pc : Nat} {L : List (Option Value)} {st : List Value} {σ : k_S} {o : Option (Rt × k_S)} {i : Int32} (hd : decode Y.2.1 pc = .ok (.iaload, 1)) (kk : KO X Y (cT (k_I X) q) kc ks Q (pc + 1) L (.int (σ.2 12 i.toNatClampNeg) :: st) σ o) : KO X Y (cT (k_I X) q) kc ks Q pc L (.int i :: .ref (q 19) :: st) σ (k_gd i 300 o) := k_iald 19 rfl hd kk
theorem k_sT19 {Rt : Type} {X : k_C} {Y : k_Y} {q : Nat → Nat} {kc ks : Nat} {Q : Rt → k_S → State → Prop} {pc : Nat} {L : List (Option Value)} {st : List Value} {σ : k_S} {i x : Int32} {kf : k_S → Option (Rt × k_S)} (hd : decode Y.2.1 pc = .ok (.iastore, 1)) (kk : ∀ σ' : k_S, KO X Y (cT (k_I X) q) kc ks Q (pc + 1) L st σ' (kf σ')) : KO X Y (cT (k_I X) q) kc ks Q pc L (.int x :: .int i :: .ref (q 19) :: st) σ (k_gd i 300 (k_bn (k_sa σ 12 i x) kf)) := k_iast 19 rfl rfl hd kk
theorem k_lT20 {Rt : Type} {X : k_C} {Y : k_Y} {q : Nat → Nat} {kc ks : Nat} {Q : Rt → k_S → State → Prop} {pc : Nat} {L : List (Option Value)} {st : List Value} {σ : k_S} {o : Option (Rt × k_S)} {i : Int32} (hd : decode Y.2.1 pc = .ok (.iaload, 1)) (kk : KO X Y (cT (k_I X) q) kc ks Q (pc + 1) L (.int (σ.2 13 i.toNatClampNeg) :: st) σ o) : KO X Y (cT (k_I X) q) kc ks Q pc L (.int i :: .ref (q 20) :: st) σ (k_gd i 300 o) := k_iald 20 rfl hd kk
theorem k_sT20 {Rt : Type} {X : k_C} {Y : k_Y} {q : Nat → Nat} {kc ks : Nat} {Q : Rt → k_S → State → Prop} {pc : Nat} {L : List (Option Value)} {st : List Value} {σ : k_S} {i x : Int32} {kf : k_S → Option (Rt × k_S)} (hd : decode Y.2.1 pc = .ok (.iastore, 1)) (kk : ∀ σ' : k_S, KO X Y (cT (k_I X) q) kc ks Q (pc + 1) L st σ' (kf σ')) : KO X Y (cT (k_I X) q) kc ks Q pc L (.int x :: .int i :: .ref (q 20) :: st) σ (k_gd i 300 (k_bn (k_sa σ 13 i x) kf)) := k_iast 20 rfl rfl hd kk
theorem k_lT21 {Rt : Type} {X : k_C} {Y : k_Y} {q : Nat → Nat} {kc ks : Nat} {Q : Rt → k_S → State → Prop} {pc : Nat} {L : List (Option Value)} {st : List Value} {σ : k_S} {o : Option (Rt × k_S)} {i : Int32} (hd : decode Y.2.1 pc = .ok (.iaload, 1)) (kk : KO X Y (cT (k_I X) q) kc ks Q (pc + 1) L (.int (σ.2 14 i.toNatClampNeg) :: st) σ o) : KO X Y (cT (k_I X) q) kc ks Q pc L (.int i :: .ref (q 21) :: st) σ (k_gd i 5 o) := k_iald 21 rfl hd kk
theorem k_sT21 {Rt : Type} {X : k_C} {Y : k_Y} {q : Nat → Nat} {kc ks : Nat} {Q : Rt → k_S → State → Prop} {pc : Nat} {L : List (Option Value)} {st : List Value} {σ : k_S} {i x : Int32} {kf : k_S → Option (Rt × k_S)} (hd : decode Y.2.1 pc = .ok (.iastore, 1)) (kk : ∀ σ' : k_S, KO X Y (cT (k_I X) q) kc ks Q (pc + 1) L st σ' (kf σ')) : KO X Y (cT (k_I X) q) kc ks Q pc L (.int x :: .int i :: .ref (q 21) :: st) σ (k_gd i 5 (k_bn (k_sa σ 14 i x) kf)) := k_iast 21 rfl rfl hd kk
theorem k_lT22 {Rt : Type} {X : k_C} {Y : k_Y} {q : Nat → Nat} {kc ks : Nat} {Q : Rt → k_S → State → Prop} {pc : Nat} {L : List (Option Value)} {st : List Value} {σ : k_S} {o : Option (Rt × k_S)} {i : Int32} (hd : decode Y.2.1 pc = .ok (.iaload, 1)) (kk : KO X Y (cT (k_I X) q) kc ks Q (pc + 1) L (.int (σ.2 15 i.toNatClampNeg) :: st) σ o) : KO X Y (cT (k_I X) q) kc ks Q pc L (.int i :: .ref (q 22) :: st) σ (k_gd i 5 o) := k_iald 22 rfl hd kk
theorem k_sT22 {Rt : Type} {X : k_C} {Y : k_Y} {q : Nat → Nat} {kc ks : Nat} {Q : Rt → k_S → State → Prop} {pc : Nat} {L : List (Option Value)} {st : List Value} {σ : k_S} {i x : Int32} {kf : k_S → Option (Rt × k_S)} (hd : decode Y.2.1 pc = .ok (.iastore, 1)) (kk : ∀ σ' : k_S, KO X Y (cT (k_I X) q) kc ks Q (pc + 1) L st σ' (kf σ')) : KO X Y (cT (k_I X) q) kc ks Q pc L (.int x :: .int i :: .ref (q 22) :: st) σ (k_gd i 5 (k_bn (k_sa σ 15 i x) kf)) := k_iast 22 rfl rfl hd kk
theorem k_lT23 {Rt : Type} {X : k_C} {Y : k_Y} {q : Nat → Nat} {kc ks : Nat} {Q : Rt → k_S → State → Prop} {pc : Nat} {L : List (Option Value)} {st : List Value} {σ : k_S} {o : Option (Rt × k_S)} {i : Int32} (hd : decode Y.2.1 pc = .ok (.iaload, 1)) (kk : KO X Y (cT (k_I X) q) kc ks Q (pc + 1) L (.int (σ.2 16 i.toNatClampNeg) :: st) σ o) : KO X Y (cT (k_I X) q) kc ks Q pc L (.int i :: .ref (q 23) :: st) σ (k_gd i 5 o) := k_iald 23 rfl hd kk
theorem k_sT23 {Rt : Type} {X : k_C} {Y : k_Y} {q : Nat → Nat} {kc ks : Nat} {Q : Rt → k_S → State → Prop} {pc : Nat} {L : List (Option Value)} {st : List Value} {σ : k_S} {i x : Int32} {kf : k_S → Option (Rt × k_S)} (hd : decode Y.2.1 pc = .ok (.iastore, 1)) (kk : ∀ σ' : k_S, KO X Y (cT (k_I X) q) kc ks Q (pc + 1) L st σ' (kf σ')) : KO X Y (cT (k_I X) q) kc ks Q pc L (.int x :: .int i :: .ref (q 23) :: st) σ (k_gd i 5 (k_bn (k_sa σ 16 i x) kf)) := k_iast 23 rfl rfl hd kk
theorem k_lT24 {Rt : Type} {X : k_C} {Y : k_Y} {q : Nat → Nat} {kc ks : Nat} {Q : Rt → k_S → State → Prop} {pc : Nat} {L : List (Option Value)} {st : List Value} {σ : k_S} {o : Option (Rt × k_S)} {i : Int32} (hd : decode Y.2.1 pc = .ok (.iaload, 1)) (kk : KO X Y (cT (k_I X) q) kc ks Q (pc + 1) L (.int (σ.2 17 i.toNatClampNeg) :: st) σ o) : KO X Y (cT (k_I X) q) kc ks Q pc L (.int i :: .ref (q 24) :: st) σ (k_gd i 6 o) := k_iald 24 rfl hd kk
theorem k_sT24 {Rt : Type} {X : k_C} {Y : k_Y} {q : Nat → Nat} {kc ks : Nat} {Q : Rt → k_S → State → Prop} {pc : Nat} {L : List (Option Value)} {st : List Value} {σ : k_S} {i x : Int32} {kf : k_S → Option (Rt × k_S)} (hd : decode Y.2.1 pc = .ok (.iastore, 1)) (kk : ∀ σ' : k_S, KO X Y (cT (k_I X) q) kc ks Q (pc + 1) L st σ' (kf σ')) : KO X Y (cT (k_I X) q) kc ks Q pc L (.int x :: .int i :: .ref (q 24) :: st) σ (k_gd i 6 (k_bn (k_sa σ 17 i x) kf)) := k_iast 24 rfl rfl hd kk
theorem k_lT25 {Rt : Type} {X : k_C} {Y : k_Y} {q : Nat → Nat} {kc ks : Nat} {Q : Rt → k_S → State → Prop} {pc : Nat} {L : List (Option Value)} {st : List Value} {σ : k_S} {o : Option (Rt × k_S)} {i : Int32} (hd : decode Y.2.1 pc = .ok (.iaload, 1)) (kk : KO X Y (cT (k_I X) q) kc ks Q (pc + 1) L (.int (σ.2 18 i.toNatClampNeg) :: st) σ o) : KO X Y (cT (k_I X) q) kc ks Q pc L (.int i :: .ref (q 25) :: st) σ (k_gd i 7 o) := k_iald 25 rfl hd kk
theorem k_sT25 {Rt : Type} {X : k_C} {Y : k_Y} {q : Nat → Nat} {kc ks : Nat} {Q : Rt → k_S → State → Prop} {pc : Nat} {L : List (Option Value)} {st : List Value} {σ : k_S} {i x : Int32} {kf : k_S → Option (Rt × k_S)} (hd : decode Y.2.1 pc = .ok (.iastore, 1)) (kk : ∀ σ' : k_S, KO X Y (cT (k_I X) q) kc ks Q (pc + 1) L st σ' (kf σ')) : KO X Y (cT (k_I X) q) kc ks Q pc L (.int x :: .int i :: .ref (q 25) :: st) σ (k_gd i 7 (k_bn (k_sa σ 18 i x) kf)) := k_iast 25 rfl rfl hd kk
theorem k_lT26 {Rt : Type} {X : k_C} {Y : k_Y} {q : Nat → Nat} {kc ks : Nat} {Q : Rt → k_S → State → Prop} {pc : Nat} {L : List (Option Value)} {st : List Value} {σ : k_S} {o : Option (Rt × k_S)} {i : Int32} (hd : decode Y.2.1 pc = .ok (.iaload, 1)) (kk : KO X Y (cT (k_I X) q) kc ks Q (pc + 1) L (.int (σ.2 19 i.toNatClampNeg) :: st) σ o) : KO X Y (cT (k_I X) q) kc ks Q pc L (.int i :: .ref (q 26) :: st) σ (k_gd i 10 o) := k_iald 26 rfl hd kk
theorem k_sT26 {Rt : Type} {X : k_C} {Y : k_Y} {q : Nat → Nat} {kc ks : Nat} {Q : Rt → k_S → State → Prop} {pc : Nat} {L : List (Option Value)} {st : List Value} {σ : k_S} {i x : Int32} {kf : k_S → Option (Rt × k_S)} (hd : decode Y.2.1 pc = .ok (.iastore, 1)) (kk : ∀ σ' : k_S, KO X Y (cT (k_I X) q) kc ks Q (pc + 1) L st σ' (kf σ')) : KO X Y (cT (k_I X) q) kc ks Q pc L (.int x :: .int i :: .ref (q 26) :: st) σ (k_gd i 10 (k_bn (k_sa σ 19 i x) kf)) := k_iast 26 rfl rfl hd kk
theorem k_lT27 {Rt : Type} {X : k_C} {Y : k_Y} {q : Nat → Nat} {kc ks : Nat} {Q : Rt → k_S → State → Prop} {pc : Nat} {L : List (Option Value)} {st : List Value} {σ : k_S} {o : Option (Rt × k_S)} {i : Int32} (hd : decode Y.2.1 pc = .ok (.iaload, 1)) (kk : KO X Y (cT (k_I X) q) kc ks Q (pc + 1) L (.int (σ.2 20 i.toNatClampNeg) :: st) σ o) : KO X Y (cT (k_I X) q) kc ks Q pc L (.int i :: .ref (q 27) :: st) σ (k_gd i 10 o) := k_iald 27 rfl hd kk
theorem k_sT27 {Rt : Type} {X : k_C} {Y : k_Y} {q : Nat → Nat} {kc ks : Nat} {Q : Rt → k_S → State → Prop} {pc : Nat} {L : List (Option Value)} {st : List Value} {σ : k_S} {i x : Int32} {kf : k_S → Option (Rt × k_S)} (hd : decode Y.2.1 pc = .ok (.iastore, 1)) (kk : ∀ σ' : k_S, KO X Y (cT (k_I X) q) kc ks Q (pc + 1) L st σ' (kf σ')) : KO X Y (cT (k_I X) q) kc ks Q pc L (.int x :: .int i :: .ref (q 27) :: st) σ (k_gd i 10 (k_bn (k_sa σ 20 i x) kf)) := k_iast 27 rfl rfl hd kk
theorem k_lT28 {Rt : Type} {X : k_C} {Y : k_Y} {q : Nat → Nat} {kc ks : Nat} {Q : Rt → k_S → State → Prop} {pc : Nat} {L : List (Option Value)} {st : List Value} {σ : k_S} {o : Option (Rt × k_S)} {i : Int32} (hd : decode Y.2.1 pc = .ok (.iaload, 1)) (kk : KO X Y (cT (k_I X) q) kc ks Q (pc + 1) L (.int (σ.2 21 i.toNatClampNeg) :: st) σ o) : KO X Y (cT (k_I X) q) kc ks Q pc L (.int i :: .ref (q 28) :: st) σ (k_gd i 6 o) := k_iald 28 rfl hd kk
theorem k_sT28 {Rt : Type} {X : k_C} {Y : k_Y} {q : Nat → Nat} {kc ks : Nat} {Q : Rt → k_S → State → Prop} {pc : Nat} {L : List (Option Value)} {st : List Value} {σ : k_S} {i x : Int32} {kf : k_S → Option (Rt × k_S)} (hd : decode Y.2.1 pc = .ok (.iastore, 1)) (kk : ∀ σ' : k_S, KO X Y (cT (k_I X) q) kc ks Q (pc + 1) L st σ' (kf σ')) : KO X Y (cT (k_I X) q) kc ks Q pc L (.int x :: .int i :: .ref (q 28) :: st) σ (k_gd i 6 (k_bn (k_sa σ 21 i x) kf)) := k_iast 28 rfl rfl hd kk
theorem k_lT29 {Rt : Type} {X : k_C} {Y : k_Y} {q : Nat → Nat} {kc ks : Nat} {Q : Rt → k_S → State → Prop} {pc : Nat} {L : List (Option Value)} {st : List Value} {σ : k_S} {o : Option (Rt × k_S)} {i : Int32} (hd : decode Y.2.1 pc = .ok (.iaload, 1)) (kk : KO X Y (cT (k_I X) q) kc ks Q (pc + 1) L (.int (σ.2 22 i.toNatClampNeg) :: st) σ o) : KO X Y (cT (k_I X) q) kc ks Q pc L (.int i :: .ref (q 29) :: st) σ (k_gd i 6 o) := k_iald 29 rfl hd kk
theorem k_sT29 {Rt : Type} {X : k_C} {Y : k_Y} {q : Nat → Nat} {kc ks : Nat} {Q : Rt → k_S → State → Prop} {pc : Nat} {L : List (Option Value)} {st : List Value} {σ : k_S} {i x : Int32} {kf : k_S → Option (Rt × k_S)} (hd : decode Y.2.1 pc = .ok (.iastore, 1)) (kk : ∀ σ' : k_S, KO X Y (cT (k_I X) q) kc ks Q (pc + 1) L st σ' (kf σ')) : KO X Y (cT (k_I X) q) kc ks Q pc L (.int x :: .int i :: .ref (q 29) :: st) σ (k_gd i 6 (k_bn (k_sa σ 22 i x) kf)) := k_iast 29 rfl rfl hd kk
end
section
/-! ===== decode rows (printed) ===== -/
theorem dJ9_max_7cf53_0 : decode cJ9_max_7cf53 0 = .ok (.iload_n 0, 1) := by decide +kernel
theorem dJ9_max_7cf53_1 : decode cJ9_max_7cf53 1 = .ok (.iload_n 1, 1) := by decide +kernel
theorem dJ9_max_7cf53_2 : decode cJ9_max_7cf53 2 = .ok (.if_icmp .lt 7, 3) := by decide +kernel
theorem dJ9_max_7cf53_5 : decode cJ9_max_7cf53 5 = .ok (.iload_n 0, 1) := by decide +kernel
theorem dJ9_max_7cf53_6 : decode cJ9_max_7cf53 6 = .ok (.goto 4, 3) := by decide +kernel
theorem dJ9_max_7cf53_9 : decode cJ9_max_7cf53 9 = .ok (.iload_n 1, 1) := by decide +kernel
theorem dJ9_max_7cf53_10 : decode cJ9_max_7cf53 10 = .ok (.ireturn, 1) := by decide +kernel
theorem dJ7_rangeCheck_23922_0 : decode cJ7_rangeCheck_23922 0 = .ok (.iload_n 1, 1) := by decide +kernel
theorem dJ7_rangeCheck_23922_1 : decode cJ7_rangeCheck_23922 1 = .ok (.iload_n 2, 1) := by decide +kernel
theorem dJ7_rangeCheck_23922_2 : decode cJ7_rangeCheck_23922 2 = .ok (.if_icmp .le 44, 3) := by decide +kernel
theorem dJ7_rangeCheck_23922_5 : decode cJ7_rangeCheck_23922 5 = .ok (.new 43, 3) := by decide +kernel
theorem dJ7_rangeCheck_23922_8 : decode cJ7_rangeCheck_23922 8 = .ok (.dup, 1) := by decide +kernel
theorem dJ7_rangeCheck_23922_9 : decode cJ7_rangeCheck_23922 9 = .ok (.new 45, 3) := by decide +kernel
theorem dJ7_rangeCheck_23922_12 : decode cJ7_rangeCheck_23922 12 = .ok (.dup, 1) := by decide +kernel
theorem dJ7_rangeCheck_23922_13 : decode cJ7_rangeCheck_23922 13 = .ok (.invokespecial 47, 3) := by decide +kernel
theorem dJ7_rangeCheck_23922_16 : decode cJ7_rangeCheck_23922 16 = .ok (.ldc 48, 2) := by decide +kernel
theorem dJ7_rangeCheck_23922_18 : decode cJ7_rangeCheck_23922 18 = .ok (.invokevirtual 50, 3) := by decide +kernel
theorem dJ7_rangeCheck_23922_21 : decode cJ7_rangeCheck_23922 21 = .ok (.iload_n 1, 1) := by decide +kernel
theorem dJ7_rangeCheck_23922_22 : decode cJ7_rangeCheck_23922 22 = .ok (.invokevirtual 54, 3) := by decide +kernel
theorem dJ7_rangeCheck_23922_25 : decode cJ7_rangeCheck_23922 25 = .ok (.ldc 57, 2) := by decide +kernel
theorem dJ7_rangeCheck_23922_27 : decode cJ7_rangeCheck_23922 27 = .ok (.invokevirtual 50, 3) := by decide +kernel
theorem dJ7_rangeCheck_23922_30 : decode cJ7_rangeCheck_23922 30 = .ok (.iload_n 2, 1) := by decide +kernel
theorem dJ7_rangeCheck_23922_31 : decode cJ7_rangeCheck_23922 31 = .ok (.invokevirtual 54, 3) := by decide +kernel
theorem dJ7_rangeCheck_23922_34 : decode cJ7_rangeCheck_23922 34 = .ok (.ldc 59, 2) := by decide +kernel
theorem dJ7_rangeCheck_23922_36 : decode cJ7_rangeCheck_23922 36 = .ok (.invokevirtual 50, 3) := by decide +kernel
theorem dJ7_rangeCheck_23922_39 : decode cJ7_rangeCheck_23922 39 = .ok (.invokevirtual 61, 3) := by decide +kernel
theorem dJ7_rangeCheck_23922_42 : decode cJ7_rangeCheck_23922 42 = .ok (.invokespecial 65, 3) := by decide +kernel
theorem dJ7_rangeCheck_23922_45 : decode cJ7_rangeCheck_23922 45 = .ok (.athrow, 1) := by decide +kernel
theorem dJ7_rangeCheck_23922_46 : decode cJ7_rangeCheck_23922 46 = .ok (.iload_n 1, 1) := by decide +kernel
theorem dJ7_rangeCheck_23922_47 : decode cJ7_rangeCheck_23922 47 = .ok (.ifCond .ge 12, 3) := by decide +kernel
theorem dJ7_rangeCheck_23922_50 : decode cJ7_rangeCheck_23922 50 = .ok (.new 68, 3) := by decide +kernel
theorem dJ7_rangeCheck_23922_53 : decode cJ7_rangeCheck_23922 53 = .ok (.dup, 1) := by decide +kernel
theorem dJ7_rangeCheck_23922_54 : decode cJ7_rangeCheck_23922 54 = .ok (.iload_n 1, 1) := by decide +kernel
theorem dJ7_rangeCheck_23922_55 : decode cJ7_rangeCheck_23922 55 = .ok (.invokespecial 70, 3) := by decide +kernel
theorem dJ7_rangeCheck_23922_58 : decode cJ7_rangeCheck_23922 58 = .ok (.athrow, 1) := by decide +kernel
theorem dJ7_rangeCheck_23922_59 : decode cJ7_rangeCheck_23922 59 = .ok (.iload_n 2, 1) := by decide +kernel
theorem dJ7_rangeCheck_23922_60 : decode cJ7_rangeCheck_23922 60 = .ok (.iload_n 0, 1) := by decide +kernel
theorem dJ7_rangeCheck_23922_61 : decode cJ7_rangeCheck_23922 61 = .ok (.if_icmp .le 12, 3) := by decide +kernel
theorem dJ7_rangeCheck_23922_64 : decode cJ7_rangeCheck_23922 64 = .ok (.new 68, 3) := by decide +kernel
theorem dJ7_rangeCheck_23922_67 : decode cJ7_rangeCheck_23922 67 = .ok (.dup, 1) := by decide +kernel
theorem dJ7_rangeCheck_23922_68 : decode cJ7_rangeCheck_23922 68 = .ok (.iload_n 2, 1) := by decide +kernel
theorem dJ7_rangeCheck_23922_69 : decode cJ7_rangeCheck_23922 69 = .ok (.invokespecial 70, 3) := by decide +kernel
theorem dJ7_rangeCheck_23922_72 : decode cJ7_rangeCheck_23922 72 = .ok (.athrow, 1) := by decide +kernel
theorem dJ7_rangeCheck_23922_73 : decode cJ7_rangeCheck_23922 73 = .ok (.return_, 1) := by decide +kernel
theorem dJ7_fill_53178_0 : decode cJ7_fill_53178 0 = .ok (.iconst 0, 1) := by decide +kernel
theorem dJ7_fill_53178_1 : decode cJ7_fill_53178 1 = .ok (.istore_n 2, 1) := by decide +kernel
theorem dJ7_fill_53178_2 : decode cJ7_fill_53178 2 = .ok (.aload_n 0, 1) := by decide +kernel
theorem dJ7_fill_53178_3 : decode cJ7_fill_53178 3 = .ok (.arraylength, 1) := by decide +kernel
theorem dJ7_fill_53178_4 : decode cJ7_fill_53178 4 = .ok (.istore_n 3, 1) := by decide +kernel
theorem dJ7_fill_53178_5 : decode cJ7_fill_53178 5 = .ok (.iload_n 2, 1) := by decide +kernel
theorem dJ7_fill_53178_6 : decode cJ7_fill_53178 6 = .ok (.iload_n 3, 1) := by decide +kernel
theorem dJ7_fill_53178_7 : decode cJ7_fill_53178 7 = .ok (.if_icmp .ge 13, 3) := by decide +kernel
theorem dJ7_fill_53178_10 : decode cJ7_fill_53178 10 = .ok (.aload_n 0, 1) := by decide +kernel
theorem dJ7_fill_53178_11 : decode cJ7_fill_53178 11 = .ok (.iload_n 2, 1) := by decide +kernel
theorem dJ7_fill_53178_12 : decode cJ7_fill_53178 12 = .ok (.iload_n 1, 1) := by decide +kernel
theorem dJ7_fill_53178_13 : decode cJ7_fill_53178 13 = .ok (.iastore, 1) := by decide +kernel
theorem dJ7_fill_53178_14 : decode cJ7_fill_53178 14 = .ok (.iinc 2 1, 3) := by decide +kernel
theorem dJ7_fill_53178_17 : decode cJ7_fill_53178 17 = .ok (.goto (-12), 3) := by decide +kernel
theorem dJ7_fill_53178_20 : decode cJ7_fill_53178 20 = .ok (.return_, 1) := by decide +kernel
theorem dJ7_fill_fda19_0 : decode cJ7_fill_fda19 0 = .ok (.aload_n 0, 1) := by decide +kernel
theorem dJ7_fill_fda19_1 : decode cJ7_fill_fda19 1 = .ok (.arraylength, 1) := by decide +kernel
theorem dJ7_fill_fda19_2 : decode cJ7_fill_fda19 2 = .ok (.iload_n 1, 1) := by decide +kernel
theorem dJ7_fill_fda19_3 : decode cJ7_fill_fda19 3 = .ok (.iload_n 2, 1) := by decide +kernel
theorem dJ7_fill_fda19_4 : decode cJ7_fill_fda19 4 = .ok (.invokestatic 13, 3) := by decide +kernel
theorem dJ7_fill_fda19_7 : decode cJ7_fill_fda19 7 = .ok (.iload_n 1, 1) := by decide +kernel
theorem dJ7_fill_fda19_8 : decode cJ7_fill_fda19 8 = .ok (.istore 4, 2) := by decide +kernel
theorem dJ7_fill_fda19_10 : decode cJ7_fill_fda19 10 = .ok (.iload 4, 2) := by decide +kernel
theorem dJ7_fill_fda19_12 : decode cJ7_fill_fda19 12 = .ok (.iload_n 2, 1) := by decide +kernel
theorem dJ7_fill_fda19_13 : decode cJ7_fill_fda19 13 = .ok (.if_icmp .ge 14, 3) := by decide +kernel
theorem dJ7_fill_fda19_16 : decode cJ7_fill_fda19 16 = .ok (.aload_n 0, 1) := by decide +kernel
theorem dJ7_fill_fda19_17 : decode cJ7_fill_fda19 17 = .ok (.iload 4, 2) := by decide +kernel
theorem dJ7_fill_fda19_19 : decode cJ7_fill_fda19 19 = .ok (.iload_n 3, 1) := by decide +kernel
theorem dJ7_fill_fda19_20 : decode cJ7_fill_fda19 20 = .ok (.iastore, 1) := by decide +kernel
theorem dJ7_fill_fda19_21 : decode cJ7_fill_fda19 21 = .ok (.iinc 4 1, 3) := by decide +kernel
theorem dJ7_fill_fda19_24 : decode cJ7_fill_fda19 24 = .ok (.goto (-14), 3) := by decide +kernel
theorem dJ7_fill_fda19_27 : decode cJ7_fill_fda19 27 = .ok (.return_, 1) := by decide +kernel
end
section
/-! ===== k, fourth part: calls in the same world, the fuel, Arrays.fill (by program: wip/gen30/k4.py) ===== -/
noncomputable def k_F : Nat := Classical.choose (⟨1000000000, Nat.le_refl _⟩ : ∃ n : Nat, 1000000000 ≤ n)
theorem k_F_ge : 1000000000 ≤ k_F := Classical.choose_spec (⟨1000000000, Nat.le_refl _⟩ : ∃ n : Nat, 1000000000 ≤ n)
def k_fl (f : Nat → Int32) (lo hi : Nat) (v : Int32) : Nat → Int32 := fun j => if lo ≤ j ∧ j < hi then v else f j
def k_gf {α : Type} (lo hi : Int32) (n : Nat) (o : Option α) : Option α := if hi < lo ∨ lo < 0 ∨ nI n < hi then none else o
section KR4
variable {S Rt : Type} {X : k_C} {Y : k_Y} {cw : S → va_W} {kc ks : Nat} {Q : Rt → S → State → Prop} {pc pc' : Nat} {L L' : List (Option Value)} {st st' : List Value} {σ : S} {o o1 o2 : Option (Rt × S)}
theorem k_vi0 {y : MethodName} {bytes : ByteArray} {maxL : Nat} {ret : Option FieldType} {index : Nat} {rm : Room} {b : Nat} {f : Option (Int32 × S)} {kf : Int32 → S → Option (Rt × S)} (hs : k_same cw) (hok : k_Vok y bytes maxL ret 0) (hm : Cond.methodLink Y.2.2.2.1 index y ∈ k_ws) (hrv : ∃ (k ci : Nat) (fs : List Value) (q : vw_C), (cw σ)[k]? = some (b, .inr (ci, fs)) ∧ vwCl[ci]? = some q ∧ q.1 = y.cls) (hrm : rm.cells = 0 ∧ rm.slots = 0) (hR : rm.frames + 1 ≤ Y.1.frames ∧ 8 + (maxL + 11) + rm.locals ≤ Y.1.locals) (hk : kc ≤ Y.1.cells ∧ ks ≤ Y.1.slots) (hcat : (st.map fun v => v.category).sum ≤ 8) (hd : decode Y.2.1 pc = .ok (.invokevirtual index, 3)) (hM : ∀ r τ, f = some (r, τ) → k_Ct k_ei y bytes maxL ret rm cw (k_D X) (k_I X) (.ref b :: []) σ r τ) (kk : ∀ r τ, KO X Y cw kc ks Q (pc + 3) L (.int r :: st) τ (kf r τ)) : KO X Y cw kc ks Q pc L (.ref b :: st) σ (k_ob f kf) := k_callV (As := []) (k_In.id hs σ) hok hm hrv rfl hrm hR hk hcat hd rfl hM kk
theorem k_si0 {y : MethodName} {bytes : ByteArray} {maxL : Nat} {ret : Option FieldType} {index : Nat} {rm : Room} {f : Option (Int32 × S)} {kf : Int32 → S → Option (Rt × S)} (hs : k_same cw) (hok : k_Sok y bytes maxL ret 0) (hm : Cond.methodLink Y.2.2.2.1 index y ∈ k_ws) (hrm : rm.cells = 0 ∧ rm.slots = 0) (hR : rm.frames + 1 ≤ Y.1.frames ∧ 8 + (maxL + 11) + rm.locals ≤ Y.1.locals) (hk : kc ≤ Y.1.cells ∧ ks ≤ Y.1.slots) (hcat : (st.map fun v => v.category).sum ≤ 8) (hd : decode Y.2.1 pc = .ok (.invokestatic index, 3)) (hM : ∀ r τ, f = some (r, τ) → k_Ct k_ei y bytes maxL ret rm cw (k_D X) (k_I X) [] σ r τ) (kk : ∀ r τ, KO X Y cw kc ks Q (pc + 3) L (.int r :: st) τ (kf r τ)) : KO X Y cw kc ks Q pc L (st) σ (k_ob f kf) := k_callS (As := []) (k_In.id hs σ) hok hm rfl hrm hR hk hcat hd rfl hM kk
theorem k_vv0 {y : MethodName} {bytes : ByteArray} {maxL : Nat} {ret : Option FieldType} {index : Nat} {rm : Room} {b : Nat} {f : Option (Unit × S)} {kf : Unit → S → Option (Rt × S)} (hs : k_same cw) (hok : k_Vok y bytes maxL ret 0) (hm : Cond.methodLink Y.2.2.2.1 index y ∈ k_ws) (hrv : ∃ (k ci : Nat) (fs : List Value) (q : vw_C), (cw σ)[k]? = some (b, .inr (ci, fs)) ∧ vwCl[ci]? = some q ∧ q.1 = y.cls) (hrm : rm.cells = 0 ∧ rm.slots = 0) (hR : rm.frames + 1 ≤ Y.1.frames ∧ 8 + (maxL + 11) + rm.locals ≤ Y.1.locals) (hk : kc ≤ Y.1.cells ∧ ks ≤ Y.1.slots) (hcat : (st.map fun v => v.category).sum ≤ 8) (hd : decode Y.2.1 pc = .ok (.invokevirtual index, 3)) (hM : ∀ r τ, f = some (r, τ) → k_Ct k_ev y bytes maxL ret rm cw (k_D X) (k_I X) (.ref b :: []) σ r τ) (kk : ∀ r τ, KO X Y cw kc ks Q (pc + 3) L (st) τ (kf r τ)) : KO X Y cw kc ks Q pc L (.ref b :: st) σ (k_ob f kf) := k_callV (As := []) (k_In.id hs σ) hok hm hrv rfl hrm hR hk hcat hd rfl hM kk
theorem k_sv0 {y : MethodName} {bytes : ByteArray} {maxL : Nat} {ret : Option FieldType} {index : Nat} {rm : Room} {f : Option (Unit × S)} {kf : Unit → S → Option (Rt × S)} (hs : k_same cw) (hok : k_Sok y bytes maxL ret 0) (hm : Cond.methodLink Y.2.2.2.1 index y ∈ k_ws) (hrm : rm.cells = 0 ∧ rm.slots = 0) (hR : rm.frames + 1 ≤ Y.1.frames ∧ 8 + (maxL + 11) + rm.locals ≤ Y.1.locals) (hk : kc ≤ Y.1.cells ∧ ks ≤ Y.1.slots) (hcat : (st.map fun v => v.category).sum ≤ 8) (hd : decode Y.2.1 pc = .ok (.invokestatic index, 3)) (hM : ∀ r τ, f = some (r, τ) → k_Ct k_ev y bytes maxL ret rm cw (k_D X) (k_I X) [] σ r τ) (kk : ∀ r τ, KO X Y cw kc ks Q (pc + 3) L (st) τ (kf r τ)) : KO X Y cw kc ks Q pc L (st) σ (k_ob f kf) := k_callS (As := []) (k_In.id hs σ) hok hm rfl hrm hR hk hcat hd rfl hM kk
theorem k_vi1 {y : MethodName} {bytes : ByteArray} {maxL : Nat} {ret : Option FieldType} {index : Nat} {rm : Room} {b : Nat} {v1 : Value} {f : Option (Int32 × S)} {kf : Int32 → S → Option (Rt × S)} (hs : k_same cw) (hok : k_Vok y bytes maxL ret 1) (hm : Cond.methodLink Y.2.2.2.1 index y ∈ k_ws) (hrv : ∃ (k ci : Nat) (fs : List Value) (q : vw_C), (cw σ)[k]? = some (b, .inr (ci, fs)) ∧ vwCl[ci]? = some q ∧ q.1 = y.cls) (hrm : rm.cells = 0 ∧ rm.slots = 0) (hR : rm.frames + 1 ≤ Y.1.frames ∧ 8 + (maxL + 11) + rm.locals ≤ Y.1.locals) (hk : kc ≤ Y.1.cells ∧ ks ≤ Y.1.slots) (hcat : (st.map fun v => v.category).sum ≤ 8) (hd : decode Y.2.1 pc = .ok (.invokevirtual index, 3)) (hM : ∀ r τ, f = some (r, τ) → k_Ct k_ei y bytes maxL ret rm cw (k_D X) (k_I X) (.ref b :: [v1]) σ r τ) (kk : ∀ r τ, KO X Y cw kc ks Q (pc + 3) L (.int r :: st) τ (kf r τ)) : KO X Y cw kc ks Q pc L (v1 :: .ref b :: st) σ (k_ob f kf) := k_callV (As := [v1]) (k_In.id hs σ) hok hm hrv rfl hrm hR hk hcat hd rfl hM kk
theorem k_si1 {y : MethodName} {bytes : ByteArray} {maxL : Nat} {ret : Option FieldType} {index : Nat} {rm : Room} {v1 : Value} {f : Option (Int32 × S)} {kf : Int32 → S → Option (Rt × S)} (hs : k_same cw) (hok : k_Sok y bytes maxL ret 1) (hm : Cond.methodLink Y.2.2.2.1 index y ∈ k_ws) (hrm : rm.cells = 0 ∧ rm.slots = 0) (hR : rm.frames + 1 ≤ Y.1.frames ∧ 8 + (maxL + 11) + rm.locals ≤ Y.1.locals) (hk : kc ≤ Y.1.cells ∧ ks ≤ Y.1.slots) (hcat : (st.map fun v => v.category).sum ≤ 8) (hd : decode Y.2.1 pc = .ok (.invokestatic index, 3)) (hM : ∀ r τ, f = some (r, τ) → k_Ct k_ei y bytes maxL ret rm cw (k_D X) (k_I X) [v1] σ r τ) (kk : ∀ r τ, KO X Y cw kc ks Q (pc + 3) L (.int r :: st) τ (kf r τ)) : KO X Y cw kc ks Q pc L (v1 :: st) σ (k_ob f kf) := k_callS (As := [v1]) (k_In.id hs σ) hok hm rfl hrm hR hk hcat hd rfl hM kk
theorem k_vv1 {y : MethodName} {bytes : ByteArray} {maxL : Nat} {ret : Option FieldType} {index : Nat} {rm : Room} {b : Nat} {v1 : Value} {f : Option (Unit × S)} {kf : Unit → S → Option (Rt × S)} (hs : k_same cw) (hok : k_Vok y bytes maxL ret 1) (hm : Cond.methodLink Y.2.2.2.1 index y ∈ k_ws) (hrv : ∃ (k ci : Nat) (fs : List Value) (q : vw_C), (cw σ)[k]? = some (b, .inr (ci, fs)) ∧ vwCl[ci]? = some q ∧ q.1 = y.cls) (hrm : rm.cells = 0 ∧ rm.slots = 0) (hR : rm.frames + 1 ≤ Y.1.frames ∧ 8 + (maxL + 11) + rm.locals ≤ Y.1.locals) (hk : kc ≤ Y.1.cells ∧ ks ≤ Y.1.slots) (hcat : (st.map fun v => v.category).sum ≤ 8) (hd : decode Y.2.1 pc = .ok (.invokevirtual index, 3)) (hM : ∀ r τ, f = some (r, τ) → k_Ct k_ev y bytes maxL ret rm cw (k_D X) (k_I X) (.ref b :: [v1]) σ r τ) (kk : ∀ r τ, KO X Y cw kc ks Q (pc + 3) L (st) τ (kf r τ)) : KO X Y cw kc ks Q pc L (v1 :: .ref b :: st) σ (k_ob f kf) := k_callV (As := [v1]) (k_In.id hs σ) hok hm hrv rfl hrm hR hk hcat hd rfl hM kk
theorem k_sv1 {y : MethodName} {bytes : ByteArray} {maxL : Nat} {ret : Option FieldType} {index : Nat} {rm : Room} {v1 : Value} {f : Option (Unit × S)} {kf : Unit → S → Option (Rt × S)} (hs : k_same cw) (hok : k_Sok y bytes maxL ret 1) (hm : Cond.methodLink Y.2.2.2.1 index y ∈ k_ws) (hrm : rm.cells = 0 ∧ rm.slots = 0) (hR : rm.frames + 1 ≤ Y.1.frames ∧ 8 + (maxL + 11) + rm.locals ≤ Y.1.locals) (hk : kc ≤ Y.1.cells ∧ ks ≤ Y.1.slots) (hcat : (st.map fun v => v.category).sum ≤ 8) (hd : decode Y.2.1 pc = .ok (.invokestatic index, 3)) (hM : ∀ r τ, f = some (r, τ) → k_Ct k_ev y bytes maxL ret rm cw (k_D X) (k_I X) [v1] σ r τ) (kk : ∀ r τ, KO X Y cw kc ks Q (pc + 3) L (st) τ (kf r τ)) : KO X Y cw kc ks Q pc L (v1 :: st) σ (k_ob f kf) := k_callS (As := [v1]) (k_In.id hs σ) hok hm rfl hrm hR hk hcat hd rfl hM kk
theorem k_vl1 {y : MethodName} {bytes : ByteArray} {maxL : Nat} {ret : Option FieldType} {index : Nat} {rm : Room} {b : Nat} {v1 : Value} {f : Option (Int64 × S)} {kf : Int64 → S → Option (Rt × S)} (hs : k_same cw) (hok : k_Vok y bytes maxL ret 1) (hm : Cond.methodLink Y.2.2.2.1 index y ∈ k_ws) (hrv : ∃ (k ci : Nat) (fs : List Value) (q : vw_C), (cw σ)[k]? = some (b, .inr (ci, fs)) ∧ vwCl[ci]? = some q ∧ q.1 = y.cls) (hrm : rm.cells = 0 ∧ rm.slots = 0) (hR : rm.frames + 1 ≤ Y.1.frames ∧ 8 + (maxL + 11) + rm.locals ≤ Y.1.locals) (hk : kc ≤ Y.1.cells ∧ ks ≤ Y.1.slots) (hcat : (st.map fun v => v.category).sum ≤ 8) (hd : decode Y.2.1 pc = .ok (.invokevirtual index, 3)) (hM : ∀ r τ, f = some (r, τ) → k_Ct k_el y bytes maxL ret rm cw (k_D X) (k_I X) (.ref b :: [v1]) σ r τ) (kk : ∀ r τ, KO X Y cw kc ks Q (pc + 3) L (.long r :: st) τ (kf r τ)) : KO X Y cw kc ks Q pc L (v1 :: .ref b :: st) σ (k_ob f kf) := k_callV (As := [v1]) (k_In.id hs σ) hok hm hrv rfl hrm hR hk hcat hd rfl hM kk
theorem k_sl1 {y : MethodName} {bytes : ByteArray} {maxL : Nat} {ret : Option FieldType} {index : Nat} {rm : Room} {v1 : Value} {f : Option (Int64 × S)} {kf : Int64 → S → Option (Rt × S)} (hs : k_same cw) (hok : k_Sok y bytes maxL ret 1) (hm : Cond.methodLink Y.2.2.2.1 index y ∈ k_ws) (hrm : rm.cells = 0 ∧ rm.slots = 0) (hR : rm.frames + 1 ≤ Y.1.frames ∧ 8 + (maxL + 11) + rm.locals ≤ Y.1.locals) (hk : kc ≤ Y.1.cells ∧ ks ≤ Y.1.slots) (hcat : (st.map fun v => v.category).sum ≤ 8) (hd : decode Y.2.1 pc = .ok (.invokestatic index, 3)) (hM : ∀ r τ, f = some (r, τ) → k_Ct k_el y bytes maxL ret rm cw (k_D X) (k_I X) [v1] σ r τ) (kk : ∀ r τ, KO X Y cw kc ks Q (pc + 3) L (.long r :: st) τ (kf r τ)) : KO X Y cw kc ks Q pc L (v1 :: st) σ (k_ob f kf) := k_callS (As := [v1]) (k_In.id hs σ) hok hm rfl hrm hR hk hcat hd rfl hM kk
theorem k_vi2 {y : MethodName} {bytes : ByteArray} {maxL : Nat} {ret : Option FieldType} {index : Nat} {rm : Room} {b : Nat} {v1 v2 : Value} {f : Option (Int32 × S)} {kf : Int32 → S → Option (Rt × S)} (hs : k_same cw) (hok : k_Vok y bytes maxL ret 2) (hm : Cond.methodLink Y.2.2.2.1 index y ∈ k_ws) (hrv : ∃ (k ci : Nat) (fs : List Value) (q : vw_C), (cw σ)[k]? = some (b, .inr (ci, fs)) ∧ vwCl[ci]? = some q ∧ q.1 = y.cls) (hrm : rm.cells = 0 ∧ rm.slots = 0) (hR : rm.frames + 1 ≤ Y.1.frames ∧ 8 + (maxL + 11) + rm.locals ≤ Y.1.locals) (hk : kc ≤ Y.1.cells ∧ ks ≤ Y.1.slots) (hcat : (st.map fun v => v.category).sum ≤ 8) (hd : decode Y.2.1 pc = .ok (.invokevirtual index, 3)) (hM : ∀ r τ, f = some (r, τ) → k_Ct k_ei y bytes maxL ret rm cw (k_D X) (k_I X) (.ref b :: [v1, v2]) σ r τ) (kk : ∀ r τ, KO X Y cw kc ks Q (pc + 3) L (.int r :: st) τ (kf r τ)) : KO X Y cw kc ks Q pc L (v2 :: v1 :: .ref b :: st) σ (k_ob f kf) := k_callV (As := [v1, v2]) (k_In.id hs σ) hok hm hrv rfl hrm hR hk hcat hd rfl hM kk
theorem k_si2 {y : MethodName} {bytes : ByteArray} {maxL : Nat} {ret : Option FieldType} {index : Nat} {rm : Room} {v1 v2 : Value} {f : Option (Int32 × S)} {kf : Int32 → S → Option (Rt × S)} (hs : k_same cw) (hok : k_Sok y bytes maxL ret 2) (hm : Cond.methodLink Y.2.2.2.1 index y ∈ k_ws) (hrm : rm.cells = 0 ∧ rm.slots = 0) (hR : rm.frames + 1 ≤ Y.1.frames ∧ 8 + (maxL + 11) + rm.locals ≤ Y.1.locals) (hk : kc ≤ Y.1.cells ∧ ks ≤ Y.1.slots) (hcat : (st.map fun v => v.category).sum ≤ 8) (hd : decode Y.2.1 pc = .ok (.invokestatic index, 3)) (hM : ∀ r τ, f = some (r, τ) → k_Ct k_ei y bytes maxL ret rm cw (k_D X) (k_I X) [v1, v2] σ r τ) (kk : ∀ r τ, KO X Y cw kc ks Q (pc + 3) L (.int r :: st) τ (kf r τ)) : KO X Y cw kc ks Q pc L (v2 :: v1 :: st) σ (k_ob f kf) := k_callS (As := [v1, v2]) (k_In.id hs σ) hok hm rfl hrm hR hk hcat hd rfl hM kk
theorem k_vv2 {y : MethodName} {bytes : ByteArray} {maxL : Nat} {ret : Option FieldType} {index : Nat} {rm : Room} {b : Nat} {v1 v2 : Value} {f : Option (Unit × S)} {kf : Unit → S → Option (Rt × S)} (hs : k_same cw) (hok : k_Vok y bytes maxL ret 2) (hm : Cond.methodLink Y.2.2.2.1 index y ∈ k_ws) (hrv : ∃ (k ci : Nat) (fs : List Value) (q : vw_C), (cw σ)[k]? = some (b, .inr (ci, fs)) ∧ vwCl[ci]? = some q ∧ q.1 = y.cls) (hrm : rm.cells = 0 ∧ rm.slots = 0) (hR : rm.frames + 1 ≤ Y.1.frames ∧ 8 + (maxL + 11) + rm.locals ≤ Y.1.locals) (hk : kc ≤ Y.1.cells ∧ ks ≤ Y.1.slots) (hcat : (st.map fun v => v.category).sum ≤ 8) (hd : decode Y.2.1 pc = .ok (.invokevirtual index, 3)) (hM : ∀ r τ, f = some (r, τ) → k_Ct k_ev y bytes maxL ret rm cw (k_D X) (k_I X) (.ref b :: [v1, v2]) σ r τ) (kk : ∀ r τ, KO X Y cw kc ks Q (pc + 3) L (st) τ (kf r τ)) : KO X Y cw kc ks Q pc L (v2 :: v1 :: .ref b :: st) σ (k_ob f kf) := k_callV (As := [v1, v2]) (k_In.id hs σ) hok hm hrv rfl hrm hR hk hcat hd rfl hM kk
theorem k_sv2 {y : MethodName} {bytes : ByteArray} {maxL : Nat} {ret : Option FieldType} {index : Nat} {rm : Room} {v1 v2 : Value} {f : Option (Unit × S)} {kf : Unit → S → Option (Rt × S)} (hs : k_same cw) (hok : k_Sok y bytes maxL ret 2) (hm : Cond.methodLink Y.2.2.2.1 index y ∈ k_ws) (hrm : rm.cells = 0 ∧ rm.slots = 0) (hR : rm.frames + 1 ≤ Y.1.frames ∧ 8 + (maxL + 11) + rm.locals ≤ Y.1.locals) (hk : kc ≤ Y.1.cells ∧ ks ≤ Y.1.slots) (hcat : (st.map fun v => v.category).sum ≤ 8) (hd : decode Y.2.1 pc = .ok (.invokestatic index, 3)) (hM : ∀ r τ, f = some (r, τ) → k_Ct k_ev y bytes maxL ret rm cw (k_D X) (k_I X) [v1, v2] σ r τ) (kk : ∀ r τ, KO X Y cw kc ks Q (pc + 3) L (st) τ (kf r τ)) : KO X Y cw kc ks Q pc L (v2 :: v1 :: st) σ (k_ob f kf) := k_callS (As := [v1, v2]) (k_In.id hs σ) hok hm rfl hrm hR hk hcat hd rfl hM kk
theorem k_vi3 {y : MethodName} {bytes : ByteArray} {maxL : Nat} {ret : Option FieldType} {index : Nat} {rm : Room} {b : Nat} {v1 v2 v3 : Value} {f : Option (Int32 × S)} {kf : Int32 → S → Option (Rt × S)} (hs : k_same cw) (hok : k_Vok y bytes maxL ret 3) (hm : Cond.methodLink Y.2.2.2.1 index y ∈ k_ws) (hrv : ∃ (k ci : Nat) (fs : List Value) (q : vw_C), (cw σ)[k]? = some (b, .inr (ci, fs)) ∧ vwCl[ci]? = some q ∧ q.1 = y.cls) (hrm : rm.cells = 0 ∧ rm.slots = 0) (hR : rm.frames + 1 ≤ Y.1.frames ∧ 8 + (maxL + 11) + rm.locals ≤ Y.1.locals) (hk : kc ≤ Y.1.cells ∧ ks ≤ Y.1.slots) (hcat : (st.map fun v => v.category).sum ≤ 8) (hd : decode Y.2.1 pc = .ok (.invokevirtual index, 3)) (hM : ∀ r τ, f = some (r, τ) → k_Ct k_ei y bytes maxL ret rm cw (k_D X) (k_I X) (.ref b :: [v1, v2, v3]) σ r τ) (kk : ∀ r τ, KO X Y cw kc ks Q (pc + 3) L (.int r :: st) τ (kf r τ)) : KO X Y cw kc ks Q pc L (v3 :: v2 :: v1 :: .ref b :: st) σ (k_ob f kf) := k_callV (As := [v1, v2, v3]) (k_In.id hs σ) hok hm hrv rfl hrm hR hk hcat hd rfl hM kk
theorem k_si3 {y : MethodName} {bytes : ByteArray} {maxL : Nat} {ret : Option FieldType} {index : Nat} {rm : Room} {v1 v2 v3 : Value} {f : Option (Int32 × S)} {kf : Int32 → S → Option (Rt × S)} (hs : k_same cw) (hok : k_Sok y bytes maxL ret 3) (hm : Cond.methodLink Y.2.2.2.1 index y ∈ k_ws) (hrm : rm.cells = 0 ∧ rm.slots = 0) (hR : rm.frames + 1 ≤ Y.1.frames ∧ 8 + (maxL + 11) + rm.locals ≤ Y.1.locals) (hk : kc ≤ Y.1.cells ∧ ks ≤ Y.1.slots) (hcat : (st.map fun v => v.category).sum ≤ 8) (hd : decode Y.2.1 pc = .ok (.invokestatic index, 3)) (hM : ∀ r τ, f = some (r, τ) → k_Ct k_ei y bytes maxL ret rm cw (k_D X) (k_I X) [v1, v2, v3] σ r τ) (kk : ∀ r τ, KO X Y cw kc ks Q (pc + 3) L (.int r :: st) τ (kf r τ)) : KO X Y cw kc ks Q pc L (v3 :: v2 :: v1 :: st) σ (k_ob f kf) := k_callS (As := [v1, v2, v3]) (k_In.id hs σ) hok hm rfl hrm hR hk hcat hd rfl hM kk
theorem k_vv3 {y : MethodName} {bytes : ByteArray} {maxL : Nat} {ret : Option FieldType} {index : Nat} {rm : Room} {b : Nat} {v1 v2 v3 : Value} {f : Option (Unit × S)} {kf : Unit → S → Option (Rt × S)} (hs : k_same cw) (hok : k_Vok y bytes maxL ret 3) (hm : Cond.methodLink Y.2.2.2.1 index y ∈ k_ws) (hrv : ∃ (k ci : Nat) (fs : List Value) (q : vw_C), (cw σ)[k]? = some (b, .inr (ci, fs)) ∧ vwCl[ci]? = some q ∧ q.1 = y.cls) (hrm : rm.cells = 0 ∧ rm.slots = 0) (hR : rm.frames + 1 ≤ Y.1.frames ∧ 8 + (maxL + 11) + rm.locals ≤ Y.1.locals) (hk : kc ≤ Y.1.cells ∧ ks ≤ Y.1.slots) (hcat : (st.map fun v => v.category).sum ≤ 8) (hd : decode Y.2.1 pc = .ok (.invokevirtual index, 3)) (hM : ∀ r τ, f = some (r, τ) → k_Ct k_ev y bytes maxL ret rm cw (k_D X) (k_I X) (.ref b :: [v1, v2, v3]) σ r τ) (kk : ∀ r τ, KO X Y cw kc ks Q (pc + 3) L (st) τ (kf r τ)) : KO X Y cw kc ks Q pc L (v3 :: v2 :: v1 :: .ref b :: st) σ (k_ob f kf) := k_callV (As := [v1, v2, v3]) (k_In.id hs σ) hok hm hrv rfl hrm hR hk hcat hd rfl hM kk
theorem k_sv3 {y : MethodName} {bytes : ByteArray} {maxL : Nat} {ret : Option FieldType} {index : Nat} {rm : Room} {v1 v2 v3 : Value} {f : Option (Unit × S)} {kf : Unit → S → Option (Rt × S)} (hs : k_same cw) (hok : k_Sok y bytes maxL ret 3) (hm : Cond.methodLink Y.2.2.2.1 index y ∈ k_ws) (hrm : rm.cells = 0 ∧ rm.slots = 0) (hR : rm.frames + 1 ≤ Y.1.frames ∧ 8 + (maxL + 11) + rm.locals ≤ Y.1.locals) (hk : kc ≤ Y.1.cells ∧ ks ≤ Y.1.slots) (hcat : (st.map fun v => v.category).sum ≤ 8) (hd : decode Y.2.1 pc = .ok (.invokestatic index, 3)) (hM : ∀ r τ, f = some (r, τ) → k_Ct k_ev y bytes maxL ret rm cw (k_D X) (k_I X) [v1, v2, v3] σ r τ) (kk : ∀ r τ, KO X Y cw kc ks Q (pc + 3) L (st) τ (kf r τ)) : KO X Y cw kc ks Q pc L (v3 :: v2 :: v1 :: st) σ (k_ob f kf) := k_callS (As := [v1, v2, v3]) (k_In.id hs σ) hok hm rfl hrm hR hk hcat hd rfl hM kk
theorem k_vl3 {y : MethodName} {bytes : ByteArray} {maxL : Nat} {ret : Option FieldType} {index : Nat} {rm : Room} {b : Nat} {v1 v2 v3 : Value} {f : Option (Int64 × S)} {kf : Int64 → S → Option (Rt × S)} (hs : k_same cw) (hok : k_Vok y bytes maxL ret 3) (hm : Cond.methodLink Y.2.2.2.1 index y ∈ k_ws) (hrv : ∃ (k ci : Nat) (fs : List Value) (q : vw_C), (cw σ)[k]? = some (b, .inr (ci, fs)) ∧ vwCl[ci]? = some q ∧ q.1 = y.cls) (hrm : rm.cells = 0 ∧ rm.slots = 0) (hR : rm.frames + 1 ≤ Y.1.frames ∧ 8 + (maxL + 11) + rm.locals ≤ Y.1.locals) (hk : kc ≤ Y.1.cells ∧ ks ≤ Y.1.slots) (hcat : (st.map fun v => v.category).sum ≤ 8) (hd : decode Y.2.1 pc = .ok (.invokevirtual index, 3)) (hM : ∀ r τ, f = some (r, τ) → k_Ct k_el y bytes maxL ret rm cw (k_D X) (k_I X) (.ref b :: [v1, v2, v3]) σ r τ) (kk : ∀ r τ, KO X Y cw kc ks Q (pc + 3) L (.long r :: st) τ (kf r τ)) : KO X Y cw kc ks Q pc L (v3 :: v2 :: v1 :: .ref b :: st) σ (k_ob f kf) := k_callV (As := [v1, v2, v3]) (k_In.id hs σ) hok hm hrv rfl hrm hR hk hcat hd rfl hM kk
theorem k_sl3 {y : MethodName} {bytes : ByteArray} {maxL : Nat} {ret : Option FieldType} {index : Nat} {rm : Room} {v1 v2 v3 : Value} {f : Option (Int64 × S)} {kf : Int64 → S → Option (Rt × S)} (hs : k_same cw) (hok : k_Sok y bytes maxL ret 3) (hm : Cond.methodLink Y.2.2.2.1 index y ∈ k_ws) (hrm : rm.cells = 0 ∧ rm.slots = 0) (hR : rm.frames + 1 ≤ Y.1.frames ∧ 8 + (maxL + 11) + rm.locals ≤ Y.1.locals) (hk : kc ≤ Y.1.cells ∧ ks ≤ Y.1.slots) (hcat : (st.map fun v => v.category).sum ≤ 8) (hd : decode Y.2.1 pc = .ok (.invokestatic index, 3)) (hM : ∀ r τ, f = some (r, τ) → k_Ct k_el y bytes maxL ret rm cw (k_D X) (k_I X) [v1, v2, v3] σ r τ) (kk : ∀ r τ, KO X Y cw kc ks Q (pc + 3) L (.long r :: st) τ (kf r τ)) : KO X Y cw kc ks Q pc L (v3 :: v2 :: v1 :: st) σ (k_ob f kf) := k_callS (As := [v1, v2, v3]) (k_In.id hs σ) hok hm rfl hrm hR hk hcat hd rfl hM kk
theorem k_vi4 {y : MethodName} {bytes : ByteArray} {maxL : Nat} {ret : Option FieldType} {index : Nat} {rm : Room} {b : Nat} {v1 v2 v3 v4 : Value} {f : Option (Int32 × S)} {kf : Int32 → S → Option (Rt × S)} (hs : k_same cw) (hok : k_Vok y bytes maxL ret 4) (hm : Cond.methodLink Y.2.2.2.1 index y ∈ k_ws) (hrv : ∃ (k ci : Nat) (fs : List Value) (q : vw_C), (cw σ)[k]? = some (b, .inr (ci, fs)) ∧ vwCl[ci]? = some q ∧ q.1 = y.cls) (hrm : rm.cells = 0 ∧ rm.slots = 0) (hR : rm.frames + 1 ≤ Y.1.frames ∧ 8 + (maxL + 11) + rm.locals ≤ Y.1.locals) (hk : kc ≤ Y.1.cells ∧ ks ≤ Y.1.slots) (hcat : (st.map fun v => v.category).sum ≤ 8) (hd : decode Y.2.1 pc = .ok (.invokevirtual index, 3)) (hM : ∀ r τ, f = some (r, τ) → k_Ct k_ei y bytes maxL ret rm cw (k_D X) (k_I X) (.ref b :: [v1, v2, v3, v4]) σ r τ) (kk : ∀ r τ, KO X Y cw kc ks Q (pc + 3) L (.int r :: st) τ (kf r τ)) : KO X Y cw kc ks Q pc L (v4 :: v3 :: v2 :: v1 :: .ref b :: st) σ (k_ob f kf) := k_callV (As := [v1, v2, v3, v4]) (k_In.id hs σ) hok hm hrv rfl hrm hR hk hcat hd rfl hM kk
theorem k_si4 {y : MethodName} {bytes : ByteArray} {maxL : Nat} {ret : Option FieldType} {index : Nat} {rm : Room} {v1 v2 v3 v4 : Value} {f : Option (Int32 × S)} {kf : Int32 → S → Option (Rt × S)} (hs : k_same cw) (hok : k_Sok y bytes maxL ret 4) (hm : Cond.methodLink Y.2.2.2.1 index y ∈ k_ws) (hrm : rm.cells = 0 ∧ rm.slots = 0) (hR : rm.frames + 1 ≤ Y.1.frames ∧ 8 + (maxL + 11) + rm.locals ≤ Y.1.locals) (hk : kc ≤ Y.1.cells ∧ ks ≤ Y.1.slots) (hcat : (st.map fun v => v.category).sum ≤ 8) (hd : decode Y.2.1 pc = .ok (.invokestatic index, 3)) (hM : ∀ r τ, f = some (r, τ) → k_Ct k_ei y bytes maxL ret rm cw (k_D X) (k_I X) [v1, v2, v3, v4] σ r τ) (kk : ∀ r τ, KO X Y cw kc ks Q (pc + 3) L (.int r :: st) τ (kf r τ)) : KO X Y cw kc ks Q pc L (v4 :: v3 :: v2 :: v1 :: st) σ (k_ob f kf) := k_callS (As := [v1, v2, v3, v4]) (k_In.id hs σ) hok hm rfl hrm hR hk hcat hd rfl hM kk
theorem k_vv4 {y : MethodName} {bytes : ByteArray} {maxL : Nat} {ret : Option FieldType} {index : Nat} {rm : Room} {b : Nat} {v1 v2 v3 v4 : Value} {f : Option (Unit × S)} {kf : Unit → S → Option (Rt × S)} (hs : k_same cw) (hok : k_Vok y bytes maxL ret 4) (hm : Cond.methodLink Y.2.2.2.1 index y ∈ k_ws) (hrv : ∃ (k ci : Nat) (fs : List Value) (q : vw_C), (cw σ)[k]? = some (b, .inr (ci, fs)) ∧ vwCl[ci]? = some q ∧ q.1 = y.cls) (hrm : rm.cells = 0 ∧ rm.slots = 0) (hR : rm.frames + 1 ≤ Y.1.frames ∧ 8 + (maxL + 11) + rm.locals ≤ Y.1.locals) (hk : kc ≤ Y.1.cells ∧ ks ≤ Y.1.slots) (hcat : (st.map fun v => v.category).sum ≤ 8) (hd : decode Y.2.1 pc = .ok (.invokevirtual index, 3)) (hM : ∀ r τ, f = some (r, τ) → k_Ct k_ev y bytes maxL ret rm cw (k_D X) (k_I X) (.ref b :: [v1, v2, v3, v4]) σ r τ) (kk : ∀ r τ, KO X Y cw kc ks Q (pc + 3) L (st) τ (kf r τ)) : KO X Y cw kc ks Q pc L (v4 :: v3 :: v2 :: v1 :: .ref b :: st) σ (k_ob f kf) := k_callV (As := [v1, v2, v3, v4]) (k_In.id hs σ) hok hm hrv rfl hrm hR hk hcat hd rfl hM kk
theorem k_sv4 {y : MethodName} {bytes : ByteArray} {maxL : Nat} {ret : Option FieldType} {index : Nat} {rm : Room} {v1 v2 v3 v4 : Value} {f : Option (Unit × S)} {kf : Unit → S → Option (Rt × S)} (hs : k_same cw) (hok : k_Sok y bytes maxL ret 4) (hm : Cond.methodLink Y.2.2.2.1 index y ∈ k_ws) (hrm : rm.cells = 0 ∧ rm.slots = 0) (hR : rm.frames + 1 ≤ Y.1.frames ∧ 8 + (maxL + 11) + rm.locals ≤ Y.1.locals) (hk : kc ≤ Y.1.cells ∧ ks ≤ Y.1.slots) (hcat : (st.map fun v => v.category).sum ≤ 8) (hd : decode Y.2.1 pc = .ok (.invokestatic index, 3)) (hM : ∀ r τ, f = some (r, τ) → k_Ct k_ev y bytes maxL ret rm cw (k_D X) (k_I X) [v1, v2, v3, v4] σ r τ) (kk : ∀ r τ, KO X Y cw kc ks Q (pc + 3) L (st) τ (kf r τ)) : KO X Y cw kc ks Q pc L (v4 :: v3 :: v2 :: v1 :: st) σ (k_ob f kf) := k_callS (As := [v1, v2, v3, v4]) (k_In.id hs σ) hok hm rfl hrm hR hk hcat hd rfl hM kk
theorem k_vi5 {y : MethodName} {bytes : ByteArray} {maxL : Nat} {ret : Option FieldType} {index : Nat} {rm : Room} {b : Nat} {v1 v2 v3 v4 v5 : Value} {f : Option (Int32 × S)} {kf : Int32 → S → Option (Rt × S)} (hs : k_same cw) (hok : k_Vok y bytes maxL ret 5) (hm : Cond.methodLink Y.2.2.2.1 index y ∈ k_ws) (hrv : ∃ (k ci : Nat) (fs : List Value) (q : vw_C), (cw σ)[k]? = some (b, .inr (ci, fs)) ∧ vwCl[ci]? = some q ∧ q.1 = y.cls) (hrm : rm.cells = 0 ∧ rm.slots = 0) (hR : rm.frames + 1 ≤ Y.1.frames ∧ 8 + (maxL + 11) + rm.locals ≤ Y.1.locals) (hk : kc ≤ Y.1.cells ∧ ks ≤ Y.1.slots) (hcat : (st.map fun v => v.category).sum ≤ 8) (hd : decode Y.2.1 pc = .ok (.invokevirtual index, 3)) (hM : ∀ r τ, f = some (r, τ) → k_Ct k_ei y bytes maxL ret rm cw (k_D X) (k_I X) (.ref b :: [v1, v2, v3, v4, v5]) σ r τ) (kk : ∀ r τ, KO X Y cw kc ks Q (pc + 3) L (.int r :: st) τ (kf r τ)) : KO X Y cw kc ks Q pc L (v5 :: v4 :: v3 :: v2 :: v1 :: .ref b :: st) σ (k_ob f kf) := k_callV (As := [v1, v2, v3, v4, v5]) (k_In.id hs σ) hok hm hrv rfl hrm hR hk hcat hd rfl hM kk
theorem k_si5 {y : MethodName} {bytes : ByteArray} {maxL : Nat} {ret : Option FieldType} {index : Nat} {rm : Room} {v1 v2 v3 v4 v5 : Value} {f : Option (Int32 × S)} {kf : Int32 → S → Option (Rt × S)} (hs : k_same cw) (hok : k_Sok y bytes maxL ret 5) (hm : Cond.methodLink Y.2.2.2.1 index y ∈ k_ws) (hrm : rm.cells = 0 ∧ rm.slots = 0) (hR : rm.frames + 1 ≤ Y.1.frames ∧ 8 + (maxL + 11) + rm.locals ≤ Y.1.locals) (hk : kc ≤ Y.1.cells ∧ ks ≤ Y.1.slots) (hcat : (st.map fun v => v.category).sum ≤ 8) (hd : decode Y.2.1 pc = .ok (.invokestatic index, 3)) (hM : ∀ r τ, f = some (r, τ) → k_Ct k_ei y bytes maxL ret rm cw (k_D X) (k_I X) [v1, v2, v3, v4, v5] σ r τ) (kk : ∀ r τ, KO X Y cw kc ks Q (pc + 3) L (.int r :: st) τ (kf r τ)) : KO X Y cw kc ks Q pc L (v5 :: v4 :: v3 :: v2 :: v1 :: st) σ (k_ob f kf) := k_callS (As := [v1, v2, v3, v4, v5]) (k_In.id hs σ) hok hm rfl hrm hR hk hcat hd rfl hM kk
theorem k_vv5 {y : MethodName} {bytes : ByteArray} {maxL : Nat} {ret : Option FieldType} {index : Nat} {rm : Room} {b : Nat} {v1 v2 v3 v4 v5 : Value} {f : Option (Unit × S)} {kf : Unit → S → Option (Rt × S)} (hs : k_same cw) (hok : k_Vok y bytes maxL ret 5) (hm : Cond.methodLink Y.2.2.2.1 index y ∈ k_ws) (hrv : ∃ (k ci : Nat) (fs : List Value) (q : vw_C), (cw σ)[k]? = some (b, .inr (ci, fs)) ∧ vwCl[ci]? = some q ∧ q.1 = y.cls) (hrm : rm.cells = 0 ∧ rm.slots = 0) (hR : rm.frames + 1 ≤ Y.1.frames ∧ 8 + (maxL + 11) + rm.locals ≤ Y.1.locals) (hk : kc ≤ Y.1.cells ∧ ks ≤ Y.1.slots) (hcat : (st.map fun v => v.category).sum ≤ 8) (hd : decode Y.2.1 pc = .ok (.invokevirtual index, 3)) (hM : ∀ r τ, f = some (r, τ) → k_Ct k_ev y bytes maxL ret rm cw (k_D X) (k_I X) (.ref b :: [v1, v2, v3, v4, v5]) σ r τ) (kk : ∀ r τ, KO X Y cw kc ks Q (pc + 3) L (st) τ (kf r τ)) : KO X Y cw kc ks Q pc L (v5 :: v4 :: v3 :: v2 :: v1 :: .ref b :: st) σ (k_ob f kf) := k_callV (As := [v1, v2, v3, v4, v5]) (k_In.id hs σ) hok hm hrv rfl hrm hR hk hcat hd rfl hM kk
theorem k_sv5 {y : MethodName} {bytes : ByteArray} {maxL : Nat} {ret : Option FieldType} {index : Nat} {rm : Room} {v1 v2 v3 v4 v5 : Value} {f : Option (Unit × S)} {kf : Unit → S → Option (Rt × S)} (hs : k_same cw) (hok : k_Sok y bytes maxL ret 5) (hm : Cond.methodLink Y.2.2.2.1 index y ∈ k_ws) (hrm : rm.cells = 0 ∧ rm.slots = 0) (hR : rm.frames + 1 ≤ Y.1.frames ∧ 8 + (maxL + 11) + rm.locals ≤ Y.1.locals) (hk : kc ≤ Y.1.cells ∧ ks ≤ Y.1.slots) (hcat : (st.map fun v => v.category).sum ≤ 8) (hd : decode Y.2.1 pc = .ok (.invokestatic index, 3)) (hM : ∀ r τ, f = some (r, τ) → k_Ct k_ev y bytes maxL ret rm cw (k_D X) (k_I X) [v1, v2, v3, v4, v5] σ r τ) (kk : ∀ r τ, KO X Y cw kc ks Q (pc + 3) L (st) τ (kf r τ)) : KO X Y cw kc ks Q pc L (v5 :: v4 :: v3 :: v2 :: v1 :: st) σ (k_ob f kf) := k_callS (As := [v1, v2, v3, v4, v5]) (k_In.id hs σ) hok hm rfl hrm hR hk hcat hd rfl hM kk
theorem k_vi6 {y : MethodName} {bytes : ByteArray} {maxL : Nat} {ret : Option FieldType} {index : Nat} {rm : Room} {b : Nat} {v1 v2 v3 v4 v5 v6 : Value} {f : Option (Int32 × S)} {kf : Int32 → S → Option (Rt × S)} (hs : k_same cw) (hok : k_Vok y bytes maxL ret 6) (hm : Cond.methodLink Y.2.2.2.1 index y ∈ k_ws) (hrv : ∃ (k ci : Nat) (fs : List Value) (q : vw_C), (cw σ)[k]? = some (b, .inr (ci, fs)) ∧ vwCl[ci]? = some q ∧ q.1 = y.cls) (hrm : rm.cells = 0 ∧ rm.slots = 0) (hR : rm.frames + 1 ≤ Y.1.frames ∧ 8 + (maxL + 11) + rm.locals ≤ Y.1.locals) (hk : kc ≤ Y.1.cells ∧ ks ≤ Y.1.slots) (hcat : (st.map fun v => v.category).sum ≤ 8) (hd : decode Y.2.1 pc = .ok (.invokevirtual index, 3)) (hM : ∀ r τ, f = some (r, τ) → k_Ct k_ei y bytes maxL ret rm cw (k_D X) (k_I X) (.ref b :: [v1, v2, v3, v4, v5, v6]) σ r τ) (kk : ∀ r τ, KO X Y cw kc ks Q (pc + 3) L (.int r :: st) τ (kf r τ)) : KO X Y cw kc ks Q pc L (v6 :: v5 :: v4 :: v3 :: v2 :: v1 :: .ref b :: st) σ (k_ob f kf) := k_callV (As := [v1, v2, v3, v4, v5, v6]) (k_In.id hs σ) hok hm hrv rfl hrm hR hk hcat hd rfl hM kk
theorem k_si6 {y : MethodName} {bytes : ByteArray} {maxL : Nat} {ret : Option FieldType} {index : Nat} {rm : Room} {v1 v2 v3 v4 v5 v6 : Value} {f : Option (Int32 × S)} {kf : Int32 → S → Option (Rt × S)} (hs : k_same cw) (hok : k_Sok y bytes maxL ret 6) (hm : Cond.methodLink Y.2.2.2.1 index y ∈ k_ws) (hrm : rm.cells = 0 ∧ rm.slots = 0) (hR : rm.frames + 1 ≤ Y.1.frames ∧ 8 + (maxL + 11) + rm.locals ≤ Y.1.locals) (hk : kc ≤ Y.1.cells ∧ ks ≤ Y.1.slots) (hcat : (st.map fun v => v.category).sum ≤ 8) (hd : decode Y.2.1 pc = .ok (.invokestatic index, 3)) (hM : ∀ r τ, f = some (r, τ) → k_Ct k_ei y bytes maxL ret rm cw (k_D X) (k_I X) [v1, v2, v3, v4, v5, v6] σ r τ) (kk : ∀ r τ, KO X Y cw kc ks Q (pc + 3) L (.int r :: st) τ (kf r τ)) : KO X Y cw kc ks Q pc L (v6 :: v5 :: v4 :: v3 :: v2 :: v1 :: st) σ (k_ob f kf) := k_callS (As := [v1, v2, v3, v4, v5, v6]) (k_In.id hs σ) hok hm rfl hrm hR hk hcat hd rfl hM kk
theorem k_vv6 {y : MethodName} {bytes : ByteArray} {maxL : Nat} {ret : Option FieldType} {index : Nat} {rm : Room} {b : Nat} {v1 v2 v3 v4 v5 v6 : Value} {f : Option (Unit × S)} {kf : Unit → S → Option (Rt × S)} (hs : k_same cw) (hok : k_Vok y bytes maxL ret 6) (hm : Cond.methodLink Y.2.2.2.1 index y ∈ k_ws) (hrv : ∃ (k ci : Nat) (fs : List Value) (q : vw_C), (cw σ)[k]? = some (b, .inr (ci, fs)) ∧ vwCl[ci]? = some q ∧ q.1 = y.cls) (hrm : rm.cells = 0 ∧ rm.slots = 0) (hR : rm.frames + 1 ≤ Y.1.frames ∧ 8 + (maxL + 11) + rm.locals ≤ Y.1.locals) (hk : kc ≤ Y.1.cells ∧ ks ≤ Y.1.slots) (hcat : (st.map fun v => v.category).sum ≤ 8) (hd : decode Y.2.1 pc = .ok (.invokevirtual index, 3)) (hM : ∀ r τ, f = some (r, τ) → k_Ct k_ev y bytes maxL ret rm cw (k_D X) (k_I X) (.ref b :: [v1, v2, v3, v4, v5, v6]) σ r τ) (kk : ∀ r τ, KO X Y cw kc ks Q (pc + 3) L (st) τ (kf r τ)) : KO X Y cw kc ks Q pc L (v6 :: v5 :: v4 :: v3 :: v2 :: v1 :: .ref b :: st) σ (k_ob f kf) := k_callV (As := [v1, v2, v3, v4, v5, v6]) (k_In.id hs σ) hok hm hrv rfl hrm hR hk hcat hd rfl hM kk
theorem k_sv6 {y : MethodName} {bytes : ByteArray} {maxL : Nat} {ret : Option FieldType} {index : Nat} {rm : Room} {v1 v2 v3 v4 v5 v6 : Value} {f : Option (Unit × S)} {kf : Unit → S → Option (Rt × S)} (hs : k_same cw) (hok : k_Sok y bytes maxL ret 6) (hm : Cond.methodLink Y.2.2.2.1 index y ∈ k_ws) (hrm : rm.cells = 0 ∧ rm.slots = 0) (hR : rm.frames + 1 ≤ Y.1.frames ∧ 8 + (maxL + 11) + rm.locals ≤ Y.1.locals) (hk : kc ≤ Y.1.cells ∧ ks ≤ Y.1.slots) (hcat : (st.map fun v => v.category).sum ≤ 8) (hd : decode Y.2.1 pc = .ok (.invokestatic index, 3)) (hM : ∀ r τ, f = some (r, τ) → k_Ct k_ev y bytes maxL ret rm cw (k_D X) (k_I X) [v1, v2, v3, v4, v5, v6] σ r τ) (kk : ∀ r τ, KO X Y cw kc ks Q (pc + 3) L (st) τ (kf r τ)) : KO X Y cw kc ks Q pc L (v6 :: v5 :: v4 :: v3 :: v2 :: v1 :: st) σ (k_ob f kf) := k_callS (As := [v1, v2, v3, v4, v5, v6]) (k_In.id hs σ) hok hm rfl hrm hR hk hcat hd rfl hM kk
end KR4
-- ---- Arrays.fill
def cA (cI : ClassId) (a n : Nat) (g : Nat → Int32) : va_W := [(a, .inl (cI, n, .inl g))]
theorem cA_same (cI : ClassId) (a n : Nat) : k_same (cA cI a n) := k_same_of fun _ _ => rfl
def f_fl (n : Nat) (hi v : Int32) : Nat → (Nat → Int32) → Int32 → Option (Unit × (Nat → Int32))
  | 0, _, _ => none
  | k + 1, g, i => if i < hi then k_gd i n (k_bn (upd g i.toNatClampNeg v) fun g' => k_bn (i + 1) fun i' => f_fl n hi v k g' i') else some ((), g)
theorem f_fl_s (n : Nat) (hi v : Int32) (k : Nat) (g : Nat → Int32) (i : Int32) : f_fl n hi v (k + 1) g i = if i < hi then k_gd i n (k_bn (upd g i.toNatClampNeg v) fun g' => k_bn (i + 1) fun i' => f_fl n hi v k g' i') else some ((), g) := rfl
theorem k_gd_in {α : Type} {i : Int32} {n : Nat} {o : Option α} (h : vp_in i n) : k_gd i n o = o := if_neg h
theorem f_fl_eq (n : Nat) (v : Int32) {b : Nat} (hb : b ≤ n) (hn : n < 2 ^ 31) : ∀ (k a : Nat) (g : Nat → Int32), a ≤ b → b < a + k → f_fl n (nI b) v k g (nI a) = some ((), k_fl g a b v) := by
  intro k
  induction k with
  | zero => intro a g h1 h2; omega
  | succ k ih =>
    intro a g h1 h2
    rw [f_fl_s]
    by_cases hab : a < b
    · rw [if_pos (nI_lt hab (by omega)), k_gd_in (vp_in_nI (by omega) hn)]
      show f_fl n (nI b) v k (upd g (nI a).toNatClampNeg v) (nI a + 1) = _
      rw [nI_1, ih (a + 1) _ (by omega) (by omega), nI_clamp (by omega)]
      have e : k_fl (upd g a v) (a + 1) b v = k_fl g a b v := by
        funext j
        unfold k_fl
        by_cases hj : j = a
        · subst hj
          rw [if_neg (by omega), if_pos (by omega)]
          exact pk_us
        · by_cases h3 : a ≤ j ∧ j < b
          · rw [if_pos (by omega), if_pos h3]
          · rw [if_neg (by omega), if_neg h3]
            exact pk_un hj
      rw [e]
    · rw [if_neg (nI_nlt (by omega) (by omega))]
      have : k_fl g a b v = g := by
        funext j
        unfold k_fl
        rw [if_neg (by omega)]
      rw [this]
theorem ckJ7_fill2 : k_Sok yJ7_fill_53178 cJ7_fill_53178 4 none 2 := ⟨kwk_J7_fill_53178, kws_J7_fill_53178, kwn_J7, by decide, by decide +kernel⟩
theorem ckJ7_fill4 : k_Sok yJ7_fill_fda19 cJ7_fill_fda19 5 none 4 := ⟨kwk_J7_fill_fda19, kws_J7_fill_fda19, kwn_J7, by decide, by decide +kernel⟩
theorem ckJ7_rangeCheck : k_Sok yJ7_rangeCheck_23922 cJ7_rangeCheck_23922 3 none 3 := ⟨kwk_J7_rangeCheck_23922, kws_J7_rangeCheck_23922, kwn_J7, by decide, by decide +kernel⟩
abbrev YJ7_fill2 : k_Y := ({ frames := 0, cells := 0, slots := 0, locals := 30 }, cJ7_fill_53178, 4, RJ7, none)
abbrev YJ7_fill4 : k_Y := ({ frames := 1, cells := 0, slots := 0, locals := 60 }, cJ7_fill_fda19, 5, RJ7, none)
abbrev YJ7_rc : k_Y := ({ frames := 0, cells := 0, slots := 0, locals := 0 }, cJ7_rangeCheck_23922, 3, RJ7, none)
set_option maxRecDepth 100000 in
theorem kJ7_fill2_loop {X : k_C} {a n : Nat} (v : Int32) : ∀ (k : Nat) (g : Nat → Int32) (i : Int32), KO X YJ7_fill2 (cA (k_I X) a n) 0 0 (k_Q k_ev X (cA (k_I X) a n)) 5 [some (.ref a), some (.int v), some (.int i), some (.int (nI n))] [] g (f_fl n (nI n) v k g i) := by
  intro k
  induction k with
  | zero => intros; exact KO.nil
  | succ k ih =>
    intro g i
    rw [f_fl_s]
    refine k_iload_n (pc := 5) dJ7_fill_53178_5 rfl ?_
    refine k_iload_n (pc := 6) dJ7_fill_53178_6 rfl ?_
    refine k_icmp_ge (pc := 7) 20 dJ7_fill_53178_7 (by decide) ?_ ?_
    · exact k_return (pc := 20) rfl dJ7_fill_53178_20
    · refine k_aload_n (pc := 10) dJ7_fill_53178_10 rfl ?_
      refine k_iload_n (pc := 11) dJ7_fill_53178_11 rfl ?_
      refine k_iload_n (pc := 12) dJ7_fill_53178_12 rfl ?_
      refine k_iast (pc := 13) (σ1 := upd g i.toNatClampNeg v) 0 rfl rfl dJ7_fill_53178_13 (fun g' => ?_)
      refine k_iinc2 (pc := 14) (w := 1) dJ7_fill_53178_14 rfl (by decide) (by decide) (fun i' => ?_)
      refine k_goto (pc := 17) 5 dJ7_fill_53178_17 (by decide) ?_
      exact ih g' i'
set_option maxRecDepth 100000 in
theorem kJ7_fill2 {D : va_G} {cI : ClassId} {a n : Nat} (hn : n < 2 ^ 31) (g : Nat → Int32) (v : Int32) : k_Ct k_ev yJ7_fill_53178 cJ7_fill_53178 4 none YJ7_fill2.1 (cA cI a n) D cI [.ref a, .int v] g () (k_fl g 0 n v) := by
  refine k_met (Y := YJ7_fill2) (o := f_fl n (nI n) v (n + 1) g (nI 0)) (cA_same _ _ _) (by decide) rfl (Nat.le_of_ble_eq_true rfl) (List.forall_mem_cons.mpr ⟨rfl, List.forall_mem_cons.mpr ⟨rfl, fun _ h => absurd h List.not_mem_nil⟩⟩) (fun X hD hI => ?_) (f_fl_eq n v (Nat.le_refl n) hn (n + 1) 0 g (Nat.zero_le _) (by omega))
  subst hD hI
  show KO X YJ7_fill2 (cA (k_I X) a n) 0 0 (k_Q k_ev X (cA (k_I X) a n)) 0 [some (.ref a), some (.int v), none, none] [] g (k_bn 0 fun i => k_bn (nI n) fun _ => f_fl n (nI n) v (n + 1) g i)
  refine k_iconst (pc := 0) (v := 0) dJ7_fill_53178_0 (by decide) ?_
  refine k_istG (pc := 1) (pc' := 2) 2 (.inl ⟨2, dJ7_fill_53178_1, rfl, rfl⟩) (by decide) ?_
  refine k_aload_n (pc := 2) dJ7_fill_53178_2 rfl ?_
  refine k_alen (pc := 3) (v := nI n) 0 rfl rfl dJ7_fill_53178_3 ?_
  refine k_istG (pc := 4) (pc' := 5) 3 (.inl ⟨3, dJ7_fill_53178_4, rfl, rfl⟩) (by decide) ?_
  exact kJ7_fill2_loop v (n + 1) g 0
def f_rc (len lo hi : Int32) (g : Nat → Int32) : Option (Unit × (Nat → Int32)) := if hi < lo then none else if lo < 0 then none else if len < hi then none else some ((), g)
set_option maxRecDepth 100000 in
theorem kJ7_rc {D : va_G} {cI : ClassId} {a n : Nat} {g τ : Nat → Int32} {len lo hi : Int32} {r : Unit} (h : f_rc len lo hi g = some (r, τ)) : k_Ct k_ev yJ7_rangeCheck_23922 cJ7_rangeCheck_23922 3 none YJ7_rc.1 (cA cI a n) D cI [.int len, .int lo, .int hi] g r τ := by
  refine k_met (Y := YJ7_rc) (cA_same _ _ _) (by decide) rfl (Nat.le_of_ble_eq_true rfl) (List.forall_mem_cons.mpr ⟨rfl, List.forall_mem_cons.mpr ⟨rfl, List.forall_mem_cons.mpr ⟨rfl, fun _ h => absurd h List.not_mem_nil⟩⟩⟩) (fun X hD hI => ?_) h
  subst hD hI
  show KO X YJ7_rc (cA (k_I X) a n) 0 0 (k_Q k_ev X (cA (k_I X) a n)) 0 [some (.int len), some (.int lo), some (.int hi)] [] g _
  unfold f_rc
  refine k_iload_n (pc := 0) dJ7_rangeCheck_23922_0 rfl ?_
  refine k_iload_n (pc := 1) dJ7_rangeCheck_23922_1 rfl ?_
  refine k_icmp_le (pc := 2) 46 dJ7_rangeCheck_23922_2 (by decide) ?_ KO.nil
  refine k_iload_n (pc := 46) dJ7_rangeCheck_23922_46 rfl ?_
  refine k_if_ge (pc := 47) 59 dJ7_rangeCheck_23922_47 (by decide) ?_ KO.nil
  refine k_iload_n (pc := 59) dJ7_rangeCheck_23922_59 rfl ?_
  refine k_iload_n (pc := 60) dJ7_rangeCheck_23922_60 rfl ?_
  refine k_icmp_le (pc := 61) 73 dJ7_rangeCheck_23922_61 (by decide) ?_ KO.nil
  exact k_return (pc := 73) rfl dJ7_rangeCheck_23922_73
set_option maxRecDepth 100000 in
theorem kJ7_fill4_loop {X : k_C} {a n : Nat} (lo hi v : Int32) : ∀ (k : Nat) (g : Nat → Int32) (i : Int32), KO X YJ7_fill4 (cA (k_I X) a n) 0 0 (k_Q k_ev X (cA (k_I X) a n)) 10 [some (.ref a), some (.int lo), some (.int hi), some (.int v), some (.int i)] [] g (f_fl n hi v k g i) := by
  intro k
  induction k with
  | zero => intros; exact KO.nil
  | succ k ih =>
    intro g i
    rw [f_fl_s]
    refine k_iload (pc := 10) dJ7_fill_fda19_10 rfl ?_
    refine k_iload_n (pc := 12) dJ7_fill_fda19_12 rfl ?_
    refine k_icmp_ge (pc := 13) 27 dJ7_fill_fda19_13 (by decide) ?_ ?_
    · exact k_return (pc := 27) rfl dJ7_fill_fda19_27
    · refine k_aload_n (pc := 16) dJ7_fill_fda19_16 rfl ?_
      refine k_iload (pc := 17) dJ7_fill_fda19_17 rfl ?_
      refine k_iload_n (pc := 19) dJ7_fill_fda19_19 rfl ?_
      refine k_iast (pc := 20) (σ1 := upd g i.toNatClampNeg v) 0 rfl rfl dJ7_fill_fda19_20 (fun g' => ?_)
      refine k_iinc4 (pc := 21) (w := 1) dJ7_fill_fda19_21 rfl (by decide) (by decide) (fun i' => ?_)
      refine k_goto (pc := 24) 10 dJ7_fill_fda19_24 (by decide) ?_
      exact ih g' i'
theorem f_fill4_eq {n : Nat} (hn : n < 2 ^ 31) {lo hi v : Int32} {g τ : Nat → Int32} {r : Unit} (h : k_gf lo hi n (some ((), k_fl g lo.toNatClampNeg hi.toNatClampNeg v)) = some (r, τ)) : k_ob (f_rc (nI n) lo hi g) (fun _ g => f_fl n hi v (n + 1) g lo) = some (r, τ) := by
  unfold k_gf at h
  split at h
  · cases h
  next hc =>
    have h1 : ¬ hi < lo := fun q => hc (.inl q)
    have h2 : ¬ lo < 0 := fun q => hc (.inr (.inl q))
    have h3 : ¬ nI n < hi := fun q => hc (.inr (.inr q))
    obtain ⟨a, ha, rfl⟩ := nI_of h2
    obtain ⟨b, hb, rfl⟩ := nI_of (x := hi) (fun q => h1 (Int32.lt_of_lt_of_le q (Int32.not_lt.mp h2)))
    have hab : a ≤ b := Nat.le_of_not_lt fun q => h1 (nI_lt q ha)
    have hbn : b ≤ n := Nat.le_of_not_lt fun q => h3 (nI_lt q hb)
    rw [nI_clamp ha, nI_clamp hb] at h
    rw [f_rc, if_neg h1, if_neg h2, if_neg h3]
    show f_fl n (nI b) v (n + 1) g (nI a) = _
    rw [f_fl_eq n v hbn hn (n + 1) a g hab (by omega)]
    exact h
set_option maxRecDepth 100000 in
theorem kJ7_fill4 {D : va_G} {cI : ClassId} {a n : Nat} (hn : n < 2 ^ 31) {g τ : Nat → Int32} {lo hi v : Int32} {r : Unit} (h : k_gf lo hi n (some ((), k_fl g lo.toNatClampNeg hi.toNatClampNeg v)) = some (r, τ)) : k_Ct k_ev yJ7_fill_fda19 cJ7_fill_fda19 5 none YJ7_fill4.1 (cA cI a n) D cI [.ref a, .int lo, .int hi, .int v] g r τ := by
  refine k_met (Y := YJ7_fill4) (cA_same _ _ _) (by decide) rfl (Nat.le_of_ble_eq_true rfl) (List.forall_mem_cons.mpr ⟨rfl, List.forall_mem_cons.mpr ⟨rfl, List.forall_mem_cons.mpr ⟨rfl, List.forall_mem_cons.mpr ⟨rfl, fun _ h => absurd h List.not_mem_nil⟩⟩⟩⟩) (fun X hD hI => ?_) (f_fill4_eq hn h)
  subst hD hI
  show KO X YJ7_fill4 (cA (k_I X) a n) 0 0 (k_Q k_ev X (cA (k_I X) a n)) 0 [some (.ref a), some (.int lo), some (.int hi), some (.int v), none] [] g _
  refine k_aload_n (pc := 0) dJ7_fill_fda19_0 rfl ?_
  refine k_alen (pc := 1) (v := nI n) 0 rfl rfl dJ7_fill_fda19_1 ?_
  refine k_iload_n (pc := 2) dJ7_fill_fda19_2 rfl ?_
  refine k_iload_n (pc := 3) dJ7_fill_fda19_3 rfl ?_
  refine k_sv3 (pc := 4) (cA_same _ _ _) ckJ7_rangeCheck kwm_J7_13 ⟨rfl, rfl⟩ ⟨Nat.le_of_ble_eq_true rfl, Nat.le_of_ble_eq_true rfl⟩ ⟨Nat.zero_le _, Nat.zero_le _⟩ (by decide) dJ7_fill_fda19_4 (fun _ _ hf => kJ7_rc hf) (fun r1 g1 => ?_)
  refine k_iload_n (pc := 7) dJ7_fill_fda19_7 rfl ?_
  refine k_istG (pc := 8) (pc' := 10) 4 (.inr ⟨dJ7_fill_fda19_8, rfl⟩) (by decide) ?_
  exact kJ7_fill4_loop lo hi v (n + 1) g1 lo
theorem k_In_arr {S : Type} {cw : S → va_W} {σ : S} {cI : ClassId} {a n : Nat} {f : Nat → Int32} (hs : k_same cw) (k : Nat) (hcell : (cw σ)[k]? = some (a, .inl (cI, n, .inl f))) {wr : (Nat → Int32) → S} (hset : ∀ g, (cw σ).set k (a, .inl (cI, n, .inl g)) = cw (wr g)) : k_In cw σ (cA cI a n) f wr := by
  refine ⟨cA_same _ _ _, fun j q hj => ?_, fun A hD τ0 => ?_, fun τ0 j q hj => ?_⟩
  · match j, hj with
    | 0, hj => cases hj; exact ⟨k, hcell⟩
    | j + 1, hj => cases hj
  · refine ⟨fun i j p q hi hj _ => ?_, fun j q hj => ?_⟩
    · match i, j, hi, hj with
      | 0, 0, _, _ => rfl
      | 0, j + 1, _, hj => cases hj
      | i + 1, _, hi, _ => cases hi
    · match j, hj with
      | 0, hj => cases hj; exact (show A a from (hD σ).2 k _ hcell)
      | j + 1, hj => cases hj
  · rw [← hset τ0] at hj
    by_cases hjk : j = k
    · subst hjk
      rw [List.getElem?_set] at hj
      have hlt : j < (cw σ).length := (List.getElem?_eq_some_iff.mp hcell).1
      simp [hlt] at hj
      exact Or.inl ⟨0, by rw [← hj]; rfl⟩
    · rw [List.getElem?_set_ne (Ne.symm hjk)] at hj
      refine Or.inr ⟨⟨j, hj⟩, fun A hD i q0 hi => ?_⟩
      match i, hi with
      | 0, hi =>
        cases hi
        intro hq
        exact hjk (hD.1 j k q _ hj hcell hq.symm)
      | i + 1, hi => cases hi
section KR5
variable {S Rt : Type} {X : k_C} {Y : k_Y} {cw : S → va_W} {Q : Rt → S → State → Prop} {pc : Nat} {L : List (Option Value)} {σ : S}
theorem k_fill2 {a n index : Nat} {f : Nat → Int32} {v : Int32} {wr : (Nat → Int32) → S} (hs : k_same cw) (k : Nat) (hn : n < 2 ^ 31) (hcell : (cw σ)[k]? = some (a, .inl (k_I X, n, .inl f))) (hset : ∀ g, (cw σ).set k (a, .inl (k_I X, n, .inl g)) = cw (wr g)) (hw : Cond.methodLink Y.2.2.2.1 index yJ7_fill_53178 ∈ k_ws) (hR : 1 ≤ Y.1.frames ∧ 60 ≤ Y.1.locals) (hd : decode Y.2.1 pc = .ok (.invokestatic index, 3)) {kf : S → Option (Rt × S)} (kk : ∀ σ' : S, KO X Y cw 0 0 Q (pc + 3) L [] σ' (kf σ')) : KO X Y cw 0 0 Q pc L [.int v, .ref a] σ (k_bn (wr (k_fl f 0 n v)) kf) :=
  k_Sv2 (rm := YJ7_fill2.1) (f := some ((), k_fl f 0 n v)) (kf := fun _ g => kf (wr g)) (k_In_arr hs k hcell hset) ckJ7_fill2 hw ⟨rfl, rfl⟩ ⟨by show 0 + 1 ≤ _; omega, by show 8 + (4 + 11) + 30 ≤ _; omega⟩ ⟨Nat.zero_le _, Nat.zero_le _⟩ (by decide) hd (fun r τ h => by cases h; exact kJ7_fill2 hn f v) (fun _ g => kk (wr g))
theorem k_fill4 {a n index : Nat} {f : Nat → Int32} {lo hi v : Int32} {wr : (Nat → Int32) → S} (hs : k_same cw) (k : Nat) (hn : n < 2 ^ 31) (hcell : (cw σ)[k]? = some (a, .inl (k_I X, n, .inl f))) (hset : ∀ g, (cw σ).set k (a, .inl (k_I X, n, .inl g)) = cw (wr g)) (hw : Cond.methodLink Y.2.2.2.1 index yJ7_fill_fda19 ∈ k_ws) (hR : 2 ≤ Y.1.frames ∧ 90 ≤ Y.1.locals) (hd : decode Y.2.1 pc = .ok (.invokestatic index, 3)) {kf : S → Option (Rt × S)} (kk : ∀ σ' : S, KO X Y cw 0 0 Q (pc + 3) L [] σ' (kf σ')) : KO X Y cw 0 0 Q pc L [.int v, .int hi, .int lo, .ref a] σ (k_gf lo hi n (k_bn (wr (k_fl f lo.toNatClampNeg hi.toNatClampNeg v)) kf)) := by
  have e : k_gf lo hi n (k_bn (wr (k_fl f lo.toNatClampNeg hi.toNatClampNeg v)) kf) = k_ob (k_gf lo hi n (some ((), k_fl f lo.toNatClampNeg hi.toNatClampNeg v))) (fun _ g => kf (wr g)) := by
    unfold k_gf
    split <;> rfl
  rw [e]
  exact k_Sv4 (rm := YJ7_fill4.1) (k_In_arr hs k hcell hset) ckJ7_fill4 hw ⟨rfl, rfl⟩ ⟨by show 1 + 1 ≤ _; omega, by show 8 + (5 + 11) + 60 ≤ _; omega⟩ ⟨Nat.zero_le _, Nat.zero_le _⟩ (by decide) hd (fun r τ h => kJ7_fill4 hn h) (fun _ g => kk (wr g))
end KR5
end
section
/-! ===== decode rows (printed) ===== -/
theorem dX0_init_0 : decode cX0_init 0 = .ok (.aload_n 0, 1) := by decide +kernel
theorem dX0_init_1 : decode cX0_init 1 = .ok (.invokespecial 3, 3) := by decide +kernel
theorem dX0_init_4 : decode cX0_init 4 = .ok (.aload_n 0, 1) := by decide +kernel
theorem dX0_init_5 : decode cX0_init 5 = .ok (.bipush 10, 2) := by decide +kernel
theorem dX0_init_7 : decode cX0_init 7 = .ok (.newarray .int, 2) := by decide +kernel
theorem dX0_init_9 : decode cX0_init 9 = .ok (.putfield 9, 3) := by decide +kernel
theorem dX0_init_12 : decode cX0_init 12 = .ok (.aload_n 0, 1) := by decide +kernel
theorem dX0_init_13 : decode cX0_init 13 = .ok (.bipush 10, 2) := by decide +kernel
theorem dX0_init_15 : decode cX0_init 15 = .ok (.newarray .int, 2) := by decide +kernel
theorem dX0_init_17 : decode cX0_init 17 = .ok (.putfield 15, 3) := by decide +kernel
theorem dX0_init_20 : decode cX0_init 20 = .ok (.aload_n 0, 1) := by decide +kernel
theorem dX0_init_21 : decode cX0_init 21 = .ok (.bipush 10, 2) := by decide +kernel
theorem dX0_init_23 : decode cX0_init 23 = .ok (.newarray .int, 2) := by decide +kernel
theorem dX0_init_25 : decode cX0_init 25 = .ok (.putfield 18, 3) := by decide +kernel
theorem dX0_init_28 : decode cX0_init 28 = .ok (.aload_n 0, 1) := by decide +kernel
theorem dX0_init_29 : decode cX0_init 29 = .ok (.bipush 10, 2) := by decide +kernel
theorem dX0_init_31 : decode cX0_init 31 = .ok (.newarray .int, 2) := by decide +kernel
theorem dX0_init_33 : decode cX0_init 33 = .ok (.putfield 21, 3) := by decide +kernel
theorem dX0_init_36 : decode cX0_init 36 = .ok (.aload_n 0, 1) := by decide +kernel
theorem dX0_init_37 : decode cX0_init 37 = .ok (.bipush 10, 2) := by decide +kernel
theorem dX0_init_39 : decode cX0_init 39 = .ok (.newarray .int, 2) := by decide +kernel
theorem dX0_init_41 : decode cX0_init 41 = .ok (.putfield 24, 3) := by decide +kernel
theorem dX0_init_44 : decode cX0_init 44 = .ok (.aload_n 0, 1) := by decide +kernel
theorem dX0_init_45 : decode cX0_init 45 = .ok (.iconst 5, 1) := by decide +kernel
theorem dX0_init_46 : decode cX0_init 46 = .ok (.newarray .int, 2) := by decide +kernel
theorem dX0_init_48 : decode cX0_init 48 = .ok (.putfield 27, 3) := by decide +kernel
theorem dX0_init_51 : decode cX0_init 51 = .ok (.aload_n 0, 1) := by decide +kernel
theorem dX0_init_52 : decode cX0_init 52 = .ok (.sipush 300, 3) := by decide +kernel
theorem dX0_init_55 : decode cX0_init 55 = .ok (.newarray .int, 2) := by decide +kernel
theorem dX0_init_57 : decode cX0_init 57 = .ok (.putfield 30, 3) := by decide +kernel
theorem dX0_init_60 : decode cX0_init 60 = .ok (.aload_n 0, 1) := by decide +kernel
theorem dX0_init_61 : decode cX0_init 61 = .ok (.sipush 300, 3) := by decide +kernel
theorem dX0_init_64 : decode cX0_init 64 = .ok (.newarray .int, 2) := by decide +kernel
theorem dX0_init_66 : decode cX0_init 66 = .ok (.putfield 33, 3) := by decide +kernel
theorem dX0_init_69 : decode cX0_init 69 = .ok (.aload_n 0, 1) := by decide +kernel
theorem dX0_init_70 : decode cX0_init 70 = .ok (.sipush 300, 3) := by decide +kernel
theorem dX0_init_73 : decode cX0_init 73 = .ok (.newarray .int, 2) := by decide +kernel
theorem dX0_init_75 : decode cX0_init 75 = .ok (.putfield 36, 3) := by decide +kernel
theorem dX0_init_78 : decode cX0_init 78 = .ok (.return_, 1) := by decide +kernel
theorem dX0_open_0 : decode cX0_open 0 = .ok (.aload_n 0, 1) := by decide +kernel
theorem dX0_open_1 : decode cX0_open 1 = .ok (.aload_n 1, 1) := by decide +kernel
theorem dX0_open_2 : decode cX0_open 2 = .ok (.invokevirtual 39, 3) := by decide +kernel
theorem dX0_open_5 : decode cX0_open 5 = .ok (.putfield 45, 3) := by decide +kernel
theorem dX0_open_8 : decode cX0_open 8 = .ok (.aload_n 0, 1) := by decide +kernel
theorem dX0_open_9 : decode cX0_open 9 = .ok (.aload_n 1, 1) := by decide +kernel
theorem dX0_open_10 : decode cX0_open 10 = .ok (.invokevirtual 48, 3) := by decide +kernel
theorem dX0_open_13 : decode cX0_open 13 = .ok (.putfield 51, 3) := by decide +kernel
theorem dX0_open_16 : decode cX0_open 16 = .ok (.iconst 0, 1) := by decide +kernel
theorem dX0_open_17 : decode cX0_open 17 = .ok (.istore_n 2, 1) := by decide +kernel
theorem dX0_open_18 : decode cX0_open 18 = .ok (.iload_n 2, 1) := by decide +kernel
theorem dX0_open_19 : decode cX0_open 19 = .ok (.aload_n 0, 1) := by decide +kernel
theorem dX0_open_20 : decode cX0_open 20 = .ok (.getfield 51, 3) := by decide +kernel
theorem dX0_open_23 : decode cX0_open 23 = .ok (.if_icmp .ge 42, 3) := by decide +kernel
theorem dX0_open_26 : decode cX0_open 26 = .ok (.aload_n 0, 1) := by decide +kernel
theorem dX0_open_27 : decode cX0_open 27 = .ok (.getfield 9, 3) := by decide +kernel
theorem dX0_open_30 : decode cX0_open 30 = .ok (.iload_n 2, 1) := by decide +kernel
theorem dX0_open_31 : decode cX0_open 31 = .ok (.aload_n 1, 1) := by decide +kernel
theorem dX0_open_32 : decode cX0_open 32 = .ok (.iload_n 2, 1) := by decide +kernel
theorem dX0_open_33 : decode cX0_open 33 = .ok (.invokevirtual 53, 3) := by decide +kernel
theorem dX0_open_36 : decode cX0_open 36 = .ok (.iastore, 1) := by decide +kernel
theorem dX0_open_37 : decode cX0_open 37 = .ok (.aload_n 0, 1) := by decide +kernel
theorem dX0_open_38 : decode cX0_open 38 = .ok (.getfield 15, 3) := by decide +kernel
theorem dX0_open_41 : decode cX0_open 41 = .ok (.iload_n 2, 1) := by decide +kernel
theorem dX0_open_42 : decode cX0_open 42 = .ok (.aload_n 1, 1) := by decide +kernel
theorem dX0_open_43 : decode cX0_open 43 = .ok (.iload_n 2, 1) := by decide +kernel
theorem dX0_open_44 : decode cX0_open 44 = .ok (.invokevirtual 57, 3) := by decide +kernel
theorem dX0_open_47 : decode cX0_open 47 = .ok (.iastore, 1) := by decide +kernel
theorem dX0_open_48 : decode cX0_open 48 = .ok (.aload_n 0, 1) := by decide +kernel
theorem dX0_open_49 : decode cX0_open 49 = .ok (.getfield 18, 3) := by decide +kernel
theorem dX0_open_52 : decode cX0_open 52 = .ok (.iload_n 2, 1) := by decide +kernel
theorem dX0_open_53 : decode cX0_open 53 = .ok (.aload_n 1, 1) := by decide +kernel
theorem dX0_open_54 : decode cX0_open 54 = .ok (.iload_n 2, 1) := by decide +kernel
theorem dX0_open_55 : decode cX0_open 55 = .ok (.invokevirtual 60, 3) := by decide +kernel
theorem dX0_open_58 : decode cX0_open 58 = .ok (.iastore, 1) := by decide +kernel
theorem dX0_open_59 : decode cX0_open 59 = .ok (.iinc 2 1, 3) := by decide +kernel
theorem dX0_open_62 : decode cX0_open 62 = .ok (.goto (-44), 3) := by decide +kernel
theorem dX0_open_65 : decode cX0_open 65 = .ok (.aload_n 0, 1) := by decide +kernel
theorem dX0_open_66 : decode cX0_open 66 = .ok (.bipush 99, 2) := by decide +kernel
theorem dX0_open_68 : decode cX0_open 68 = .ok (.putfield 63, 3) := by decide +kernel
theorem dX0_open_71 : decode cX0_open 71 = .ok (.aload_n 0, 1) := by decide +kernel
theorem dX0_open_72 : decode cX0_open 72 = .ok (.aload_n 0, 1) := by decide +kernel
theorem dX0_open_73 : decode cX0_open 73 = .ok (.getfield 66, 3) := by decide +kernel
theorem dX0_open_76 : decode cX0_open 76 = .ok (.invokevirtual 69, 3) := by decide +kernel
theorem dX0_open_79 : decode cX0_open 79 = .ok (.return_, 1) := by decide +kernel
theorem dX0_isOpen_0 : decode cX0_isOpen 0 = .ok (.aload_n 0, 1) := by decide +kernel
theorem dX0_isOpen_1 : decode cX0_isOpen 1 = .ok (.getfield 45, 3) := by decide +kernel
theorem dX0_isOpen_4 : decode cX0_isOpen 4 = .ok (.ifCond .le 7, 3) := by decide +kernel
theorem dX0_isOpen_7 : decode cX0_isOpen 7 = .ok (.iconst 1, 1) := by decide +kernel
theorem dX0_isOpen_8 : decode cX0_isOpen 8 = .ok (.goto 4, 3) := by decide +kernel
theorem dX0_isOpen_11 : decode cX0_isOpen 11 = .ok (.iconst 0, 1) := by decide +kernel
theorem dX0_isOpen_12 : decode cX0_isOpen 12 = .ok (.ireturn, 1) := by decide +kernel
theorem dX0_hasGuest_0 : decode cX0_hasGuest 0 = .ok (.iload_n 1, 1) := by decide +kernel
theorem dX0_hasGuest_1 : decode cX0_hasGuest 1 = .ok (.ifCond .lt 15, 3) := by decide +kernel
theorem dX0_hasGuest_4 : decode cX0_hasGuest 4 = .ok (.iload_n 1, 1) := by decide +kernel
theorem dX0_hasGuest_5 : decode cX0_hasGuest 5 = .ok (.aload_n 0, 1) := by decide +kernel
theorem dX0_hasGuest_6 : decode cX0_hasGuest 6 = .ok (.getfield 45, 3) := by decide +kernel
theorem dX0_hasGuest_9 : decode cX0_hasGuest 9 = .ok (.if_icmp .ge 7, 3) := by decide +kernel
theorem dX0_hasGuest_12 : decode cX0_hasGuest 12 = .ok (.iconst 1, 1) := by decide +kernel
theorem dX0_hasGuest_13 : decode cX0_hasGuest 13 = .ok (.goto 4, 3) := by decide +kernel
theorem dX0_hasGuest_16 : decode cX0_hasGuest 16 = .ok (.iconst 0, 1) := by decide +kernel
theorem dX0_hasGuest_17 : decode cX0_hasGuest 17 = .ok (.ireturn, 1) := by decide +kernel
theorem dX0_hasTale_0 : decode cX0_hasTale 0 = .ok (.iload_n 1, 1) := by decide +kernel
theorem dX0_hasTale_1 : decode cX0_hasTale 1 = .ok (.ifCond .lt 15, 3) := by decide +kernel
theorem dX0_hasTale_4 : decode cX0_hasTale 4 = .ok (.iload_n 1, 1) := by decide +kernel
theorem dX0_hasTale_5 : decode cX0_hasTale 5 = .ok (.aload_n 0, 1) := by decide +kernel
theorem dX0_hasTale_6 : decode cX0_hasTale 6 = .ok (.getfield 51, 3) := by decide +kernel
theorem dX0_hasTale_9 : decode cX0_hasTale 9 = .ok (.if_icmp .ge 7, 3) := by decide +kernel
theorem dX0_hasTale_12 : decode cX0_hasTale 12 = .ok (.iconst 1, 1) := by decide +kernel
theorem dX0_hasTale_13 : decode cX0_hasTale 13 = .ok (.goto 4, 3) := by decide +kernel
theorem dX0_hasTale_16 : decode cX0_hasTale 16 = .ok (.iconst 0, 1) := by decide +kernel
theorem dX0_hasTale_17 : decode cX0_hasTale 17 = .ok (.ireturn, 1) := by decide +kernel
theorem dX0_hasNight_0 : decode cX0_hasNight 0 = .ok (.iload_n 1, 1) := by decide +kernel
theorem dX0_hasNight_1 : decode cX0_hasNight 1 = .ok (.ifCond .lt 15, 3) := by decide +kernel
theorem dX0_hasNight_4 : decode cX0_hasNight 4 = .ok (.iload_n 1, 1) := by decide +kernel
theorem dX0_hasNight_5 : decode cX0_hasNight 5 = .ok (.aload_n 0, 1) := by decide +kernel
theorem dX0_hasNight_6 : decode cX0_hasNight 6 = .ok (.getfield 66, 3) := by decide +kernel
theorem dX0_hasNight_9 : decode cX0_hasNight 9 = .ok (.if_icmp .ge 7, 3) := by decide +kernel
theorem dX0_hasNight_12 : decode cX0_hasNight 12 = .ok (.iconst 1, 1) := by decide +kernel
theorem dX0_hasNight_13 : decode cX0_hasNight 13 = .ok (.goto 4, 3) := by decide +kernel
theorem dX0_hasNight_16 : decode cX0_hasNight 16 = .ok (.iconst 0, 1) := by decide +kernel
theorem dX0_hasNight_17 : decode cX0_hasNight 17 = .ok (.ireturn, 1) := by decide +kernel
theorem dX0_mayBeTold_0 : decode cX0_mayBeTold 0 = .ok (.iload_n 2, 1) := by decide +kernel
theorem dX0_mayBeTold_1 : decode cX0_mayBeTold 1 = .ok (.ifCond .ne 5, 3) := by decide +kernel
theorem dX0_mayBeTold_4 : decode cX0_mayBeTold 4 = .ok (.iconst 1, 1) := by decide +kernel
theorem dX0_mayBeTold_5 : decode cX0_mayBeTold 5 = .ok (.ireturn, 1) := by decide +kernel
theorem dX0_mayBeTold_6 : decode cX0_mayBeTold 6 = .ok (.aload_n 0, 1) := by decide +kernel
theorem dX0_mayBeTold_7 : decode cX0_mayBeTold 7 = .ok (.getfield 9, 3) := by decide +kernel
theorem dX0_mayBeTold_10 : decode cX0_mayBeTold 10 = .ok (.iload_n 1, 1) := by decide +kernel
theorem dX0_mayBeTold_11 : decode cX0_mayBeTold 11 = .ok (.iaload, 1) := by decide +kernel
theorem dX0_mayBeTold_12 : decode cX0_mayBeTold 12 = .ok (.lookupswitch 44 #[(1, 28), (2, 42)], 28) := by decide +kernel
theorem dX0_mayBeTold_40 : decode cX0_mayBeTold 40 = .ok (.iload_n 3, 1) := by decide +kernel
theorem dX0_mayBeTold_41 : decode cX0_mayBeTold 41 = .ok (.iload 4, 2) := by decide +kernel
theorem dX0_mayBeTold_43 : decode cX0_mayBeTold 43 = .ok (.iconst 1, 1) := by decide +kernel
theorem dX0_mayBeTold_44 : decode cX0_mayBeTold 44 = .ok (.isub, 1) := by decide +kernel
theorem dX0_mayBeTold_45 : decode cX0_mayBeTold 45 = .ok (.if_icmp .eq 7, 3) := by decide +kernel
theorem dX0_mayBeTold_48 : decode cX0_mayBeTold 48 = .ok (.iconst 1, 1) := by decide +kernel
theorem dX0_mayBeTold_49 : decode cX0_mayBeTold 49 = .ok (.goto 4, 3) := by decide +kernel
theorem dX0_mayBeTold_52 : decode cX0_mayBeTold 52 = .ok (.iconst 0, 1) := by decide +kernel
theorem dX0_mayBeTold_53 : decode cX0_mayBeTold 53 = .ok (.ireturn, 1) := by decide +kernel
theorem dX0_mayBeTold_54 : decode cX0_mayBeTold 54 = .ok (.iconst 0, 1) := by decide +kernel
theorem dX0_mayBeTold_55 : decode cX0_mayBeTold 55 = .ok (.ireturn, 1) := by decide +kernel
theorem dX0_mayBeTold_56 : decode cX0_mayBeTold 56 = .ok (.iload 4, 2) := by decide +kernel
theorem dX0_mayBeTold_58 : decode cX0_mayBeTold 58 = .ok (.iload_n 3, 1) := by decide +kernel
theorem dX0_mayBeTold_59 : decode cX0_mayBeTold 59 = .ok (.iconst 1, 1) := by decide +kernel
theorem dX0_mayBeTold_60 : decode cX0_mayBeTold 60 = .ok (.iadd, 1) := by decide +kernel
theorem dX0_mayBeTold_61 : decode cX0_mayBeTold 61 = .ok (.aload_n 0, 1) := by decide +kernel
theorem dX0_mayBeTold_62 : decode cX0_mayBeTold 62 = .ok (.getfield 63, 3) := by decide +kernel
theorem dX0_mayBeTold_65 : decode cX0_mayBeTold 65 = .ok (.iadd, 1) := by decide +kernel
theorem dX0_mayBeTold_66 : decode cX0_mayBeTold 66 = .ok (.if_icmp .lt 7, 3) := by decide +kernel
theorem dX0_mayBeTold_69 : decode cX0_mayBeTold 69 = .ok (.iconst 1, 1) := by decide +kernel
theorem dX0_mayBeTold_70 : decode cX0_mayBeTold 70 = .ok (.goto 4, 3) := by decide +kernel
theorem dX0_mayBeTold_73 : decode cX0_mayBeTold 73 = .ok (.iconst 0, 1) := by decide +kernel
theorem dX0_mayBeTold_74 : decode cX0_mayBeTold 74 = .ok (.ireturn, 1) := by decide +kernel
theorem dX0_isTellable_0 : decode cX0_isTellable 0 = .ok (.aload_n 0, 1) := by decide +kernel
theorem dX0_isTellable_1 : decode cX0_isTellable 1 = .ok (.iload_n 1, 1) := by decide +kernel
theorem dX0_isTellable_2 : decode cX0_isTellable 2 = .ok (.aload_n 0, 1) := by decide +kernel
theorem dX0_isTellable_3 : decode cX0_isTellable 3 = .ok (.getfield 21, 3) := by decide +kernel
theorem dX0_isTellable_6 : decode cX0_isTellable 6 = .ok (.iload_n 1, 1) := by decide +kernel
theorem dX0_isTellable_7 : decode cX0_isTellable 7 = .ok (.iaload, 1) := by decide +kernel
theorem dX0_isTellable_8 : decode cX0_isTellable 8 = .ok (.aload_n 0, 1) := by decide +kernel
theorem dX0_isTellable_9 : decode cX0_isTellable 9 = .ok (.getfield 24, 3) := by decide +kernel
theorem dX0_isTellable_12 : decode cX0_isTellable 12 = .ok (.iload_n 1, 1) := by decide +kernel
theorem dX0_isTellable_13 : decode cX0_isTellable 13 = .ok (.iaload, 1) := by decide +kernel
theorem dX0_isTellable_14 : decode cX0_isTellable 14 = .ok (.aload_n 0, 1) := by decide +kernel
theorem dX0_isTellable_15 : decode cX0_isTellable 15 = .ok (.getfield 66, 3) := by decide +kernel
theorem dX0_isTellable_18 : decode cX0_isTellable 18 = .ok (.invokevirtual 73, 3) := by decide +kernel
theorem dX0_isTellable_21 : decode cX0_isTellable 21 = .ok (.ireturn, 1) := by decide +kernel
theorem dX0_tallWhenTold_0 : decode cX0_tallWhenTold 0 = .ok (.aload_n 0, 1) := by decide +kernel
theorem dX0_tallWhenTold_1 : decode cX0_tallWhenTold 1 = .ok (.getfield 9, 3) := by decide +kernel
theorem dX0_tallWhenTold_4 : decode cX0_tallWhenTold 4 = .ok (.iload_n 1, 1) := by decide +kernel
theorem dX0_tallWhenTold_5 : decode cX0_tallWhenTold 5 = .ok (.iaload, 1) := by decide +kernel
theorem dX0_tallWhenTold_6 : decode cX0_tallWhenTold 6 = .ok (.lookupswitch 49 #[(1, 26), (2, 38)], 26) := by decide +kernel
theorem dX0_tallWhenTold_32 : decode cX0_tallWhenTold 32 = .ok (.aload_n 0, 1) := by decide +kernel
theorem dX0_tallWhenTold_33 : decode cX0_tallWhenTold 33 = .ok (.getfield 18, 3) := by decide +kernel
theorem dX0_tallWhenTold_36 : decode cX0_tallWhenTold 36 = .ok (.iload_n 1, 1) := by decide +kernel
theorem dX0_tallWhenTold_37 : decode cX0_tallWhenTold 37 = .ok (.iaload, 1) := by decide +kernel
theorem dX0_tallWhenTold_38 : decode cX0_tallWhenTold 38 = .ok (.bipush 10, 2) := by decide +kernel
theorem dX0_tallWhenTold_40 : decode cX0_tallWhenTold 40 = .ok (.iload_n 2, 1) := by decide +kernel
theorem dX0_tallWhenTold_41 : decode cX0_tallWhenTold 41 = .ok (.imul, 1) := by decide +kernel
theorem dX0_tallWhenTold_42 : decode cX0_tallWhenTold 42 = .ok (.iadd, 1) := by decide +kernel
theorem dX0_tallWhenTold_43 : decode cX0_tallWhenTold 43 = .ok (.ireturn, 1) := by decide +kernel
theorem dX0_tallWhenTold_44 : decode cX0_tallWhenTold 44 = .ok (.aload_n 0, 1) := by decide +kernel
theorem dX0_tallWhenTold_45 : decode cX0_tallWhenTold 45 = .ok (.getfield 18, 3) := by decide +kernel
theorem dX0_tallWhenTold_48 : decode cX0_tallWhenTold 48 = .ok (.iload_n 1, 1) := by decide +kernel
theorem dX0_tallWhenTold_49 : decode cX0_tallWhenTold 49 = .ok (.iaload, 1) := by decide +kernel
theorem dX0_tallWhenTold_50 : decode cX0_tallWhenTold 50 = .ok (.sipush 900, 3) := by decide +kernel
theorem dX0_tallWhenTold_53 : decode cX0_tallWhenTold 53 = .ok (.iadd, 1) := by decide +kernel
theorem dX0_tallWhenTold_54 : decode cX0_tallWhenTold 54 = .ok (.ireturn, 1) := by decide +kernel
theorem dX0_tallWhenTold_55 : decode cX0_tallWhenTold 55 = .ok (.aload_n 0, 1) := by decide +kernel
theorem dX0_tallWhenTold_56 : decode cX0_tallWhenTold 56 = .ok (.getfield 18, 3) := by decide +kernel
theorem dX0_tallWhenTold_59 : decode cX0_tallWhenTold 59 = .ok (.iload_n 1, 1) := by decide +kernel
theorem dX0_tallWhenTold_60 : decode cX0_tallWhenTold 60 = .ok (.iaload, 1) := by decide +kernel
theorem dX0_tallWhenTold_61 : decode cX0_tallWhenTold 61 = .ok (.ireturn, 1) := by decide +kernel
theorem dX0_tallOf_0 : decode cX0_tallOf 0 = .ok (.aload_n 0, 1) := by decide +kernel
theorem dX0_tallOf_1 : decode cX0_tallOf 1 = .ok (.iload_n 1, 1) := by decide +kernel
theorem dX0_tallOf_2 : decode cX0_tallOf 2 = .ok (.aload_n 0, 1) := by decide +kernel
theorem dX0_tallOf_3 : decode cX0_tallOf 3 = .ok (.getfield 21, 3) := by decide +kernel
theorem dX0_tallOf_6 : decode cX0_tallOf 6 = .ok (.iload_n 1, 1) := by decide +kernel
theorem dX0_tallOf_7 : decode cX0_tallOf 7 = .ok (.iaload, 1) := by decide +kernel
theorem dX0_tallOf_8 : decode cX0_tallOf 8 = .ok (.invokevirtual 77, 3) := by decide +kernel
theorem dX0_tallOf_11 : decode cX0_tallOf 11 = .ok (.ireturn, 1) := by decide +kernel
theorem dX0_isOffered_0 : decode cX0_isOffered 0 = .ok (.aload_n 0, 1) := by decide +kernel
theorem dX0_isOffered_1 : decode cX0_isOffered 1 = .ok (.iload_n 2, 1) := by decide +kernel
theorem dX0_isOffered_2 : decode cX0_isOffered 2 = .ok (.invokevirtual 81, 3) := by decide +kernel
theorem dX0_isOffered_5 : decode cX0_isOffered 5 = .ok (.ifCond .ne 5, 3) := by decide +kernel
theorem dX0_isOffered_8 : decode cX0_isOffered 8 = .ok (.iconst 0, 1) := by decide +kernel
theorem dX0_isOffered_9 : decode cX0_isOffered 9 = .ok (.ireturn, 1) := by decide +kernel
theorem dX0_isOffered_10 : decode cX0_isOffered 10 = .ok (.aload_n 0, 1) := by decide +kernel
theorem dX0_isOffered_11 : decode cX0_isOffered 11 = .ok (.getfield 15, 3) := by decide +kernel
theorem dX0_isOffered_14 : decode cX0_isOffered 14 = .ok (.iload_n 2, 1) := by decide +kernel
theorem dX0_isOffered_15 : decode cX0_isOffered 15 = .ok (.iaload, 1) := by decide +kernel
theorem dX0_isOffered_16 : decode cX0_isOffered 16 = .ok (.istore 4, 2) := by decide +kernel
theorem dX0_isOffered_18 : decode cX0_isOffered 18 = .ok (.iload_n 3, 1) := by decide +kernel
theorem dX0_isOffered_19 : decode cX0_isOffered 19 = .ok (.ifCond .eq 28, 3) := by decide +kernel
theorem dX0_isOffered_22 : decode cX0_isOffered 22 = .ok (.iload 4, 2) := by decide +kernel
theorem dX0_isOffered_24 : decode cX0_isOffered 24 = .ok (.iload_n 1, 1) := by decide +kernel
theorem dX0_isOffered_25 : decode cX0_isOffered 25 = .ok (.if_icmp .eq 18, 3) := by decide +kernel
theorem dX0_isOffered_28 : decode cX0_isOffered 28 = .ok (.aload_n 0, 1) := by decide +kernel
theorem dX0_isOffered_29 : decode cX0_isOffered 29 = .ok (.getfield 27, 3) := by decide +kernel
theorem dX0_isOffered_32 : decode cX0_isOffered 32 = .ok (.iload 4, 2) := by decide +kernel
theorem dX0_isOffered_34 : decode cX0_isOffered 34 = .ok (.iaload, 1) := by decide +kernel
theorem dX0_isOffered_35 : decode cX0_isOffered 35 = .ok (.iload_n 2, 1) := by decide +kernel
theorem dX0_isOffered_36 : decode cX0_isOffered 36 = .ok (.if_icmp .eq 7, 3) := by decide +kernel
theorem dX0_isOffered_39 : decode cX0_isOffered 39 = .ok (.iconst 1, 1) := by decide +kernel
theorem dX0_isOffered_40 : decode cX0_isOffered 40 = .ok (.goto 18, 3) := by decide +kernel
theorem dX0_isOffered_43 : decode cX0_isOffered 43 = .ok (.iconst 0, 1) := by decide +kernel
theorem dX0_isOffered_44 : decode cX0_isOffered 44 = .ok (.goto 14, 3) := by decide +kernel
theorem dX0_isOffered_47 : decode cX0_isOffered 47 = .ok (.iload 4, 2) := by decide +kernel
theorem dX0_isOffered_49 : decode cX0_isOffered 49 = .ok (.iload_n 1, 1) := by decide +kernel
theorem dX0_isOffered_50 : decode cX0_isOffered 50 = .ok (.if_icmp .ne 7, 3) := by decide +kernel
theorem dX0_isOffered_53 : decode cX0_isOffered 53 = .ok (.iconst 1, 1) := by decide +kernel
theorem dX0_isOffered_54 : decode cX0_isOffered 54 = .ok (.goto 4, 3) := by decide +kernel
theorem dX0_isOffered_57 : decode cX0_isOffered 57 = .ok (.iconst 0, 1) := by decide +kernel
theorem dX0_isOffered_58 : decode cX0_isOffered 58 = .ok (.ireturn, 1) := by decide +kernel
theorem dX0_tallsAsChosen_0 : decode cX0_tallsAsChosen 0 = .ok (.aload_n 1, 1) := by decide +kernel
theorem dX0_tallsAsChosen_1 : decode cX0_tallsAsChosen 1 = .ok (.aload_n 0, 1) := by decide +kernel
theorem dX0_tallsAsChosen_2 : decode cX0_tallsAsChosen 2 = .ok (.getfield 45, 3) := by decide +kernel
theorem dX0_tallsAsChosen_5 : decode cX0_tallsAsChosen 5 = .ok (.putfield 85, 3) := by decide +kernel
theorem dX0_tallsAsChosen_8 : decode cX0_tallsAsChosen 8 = .ok (.iconst 0, 1) := by decide +kernel
theorem dX0_tallsAsChosen_9 : decode cX0_tallsAsChosen 9 = .ok (.istore_n 2, 1) := by decide +kernel
theorem dX0_tallsAsChosen_10 : decode cX0_tallsAsChosen 10 = .ok (.iload_n 2, 1) := by decide +kernel
theorem dX0_tallsAsChosen_11 : decode cX0_tallsAsChosen 11 = .ok (.aload_n 0, 1) := by decide +kernel
theorem dX0_tallsAsChosen_12 : decode cX0_tallsAsChosen 12 = .ok (.getfield 45, 3) := by decide +kernel
theorem dX0_tallsAsChosen_15 : decode cX0_tallsAsChosen 15 = .ok (.if_icmp .ge 42, 3) := by decide +kernel
theorem dX0_tallsAsChosen_18 : decode cX0_tallsAsChosen 18 = .ok (.aload_n 1, 1) := by decide +kernel
theorem dX0_tallsAsChosen_19 : decode cX0_tallsAsChosen 19 = .ok (.getfield 88, 3) := by decide +kernel
theorem dX0_tallsAsChosen_22 : decode cX0_tallsAsChosen 22 = .ok (.iload_n 2, 1) := by decide +kernel
theorem dX0_tallsAsChosen_23 : decode cX0_tallsAsChosen 23 = .ok (.aload_n 0, 1) := by decide +kernel
theorem dX0_tallsAsChosen_24 : decode cX0_tallsAsChosen 24 = .ok (.aload_n 0, 1) := by decide +kernel
theorem dX0_tallsAsChosen_25 : decode cX0_tallsAsChosen 25 = .ok (.getfield 27, 3) := by decide +kernel
theorem dX0_tallsAsChosen_28 : decode cX0_tallsAsChosen 28 = .ok (.iload_n 2, 1) := by decide +kernel
theorem dX0_tallsAsChosen_29 : decode cX0_tallsAsChosen 29 = .ok (.iaload, 1) := by decide +kernel
theorem dX0_tallsAsChosen_30 : decode cX0_tallsAsChosen 30 = .ok (.invokevirtual 91, 3) := by decide +kernel
theorem dX0_tallsAsChosen_33 : decode cX0_tallsAsChosen 33 = .ok (.ifCond .eq 16, 3) := by decide +kernel
theorem dX0_tallsAsChosen_36 : decode cX0_tallsAsChosen 36 = .ok (.aload_n 0, 1) := by decide +kernel
theorem dX0_tallsAsChosen_37 : decode cX0_tallsAsChosen 37 = .ok (.aload_n 0, 1) := by decide +kernel
theorem dX0_tallsAsChosen_38 : decode cX0_tallsAsChosen 38 = .ok (.getfield 27, 3) := by decide +kernel
theorem dX0_tallsAsChosen_41 : decode cX0_tallsAsChosen 41 = .ok (.iload_n 2, 1) := by decide +kernel
theorem dX0_tallsAsChosen_42 : decode cX0_tallsAsChosen 42 = .ok (.iaload, 1) := by decide +kernel
theorem dX0_tallsAsChosen_43 : decode cX0_tallsAsChosen 43 = .ok (.invokevirtual 94, 3) := by decide +kernel
theorem dX0_tallsAsChosen_46 : decode cX0_tallsAsChosen 46 = .ok (.goto 4, 3) := by decide +kernel
theorem dX0_tallsAsChosen_49 : decode cX0_tallsAsChosen 49 = .ok (.iconst 0, 1) := by decide +kernel
theorem dX0_tallsAsChosen_50 : decode cX0_tallsAsChosen 50 = .ok (.iastore, 1) := by decide +kernel
theorem dX0_tallsAsChosen_51 : decode cX0_tallsAsChosen 51 = .ok (.iinc 2 1, 3) := by decide +kernel
theorem dX0_tallsAsChosen_54 : decode cX0_tallsAsChosen 54 = .ok (.goto (-44), 3) := by decide +kernel
theorem dX0_tallsAsChosen_57 : decode cX0_tallsAsChosen 57 = .ok (.return_, 1) := by decide +kernel
theorem dX0_goBy_0 : decode cX0_goBy 0 = .ok (.bipush (-9), 2) := by decide +kernel
theorem dX0_goBy_2 : decode cX0_goBy 2 = .ok (.istore_n 2, 1) := by decide +kernel
theorem dX0_goBy_3 : decode cX0_goBy 3 = .ok (.iconst 0, 1) := by decide +kernel
theorem dX0_goBy_4 : decode cX0_goBy 4 = .ok (.istore_n 3, 1) := by decide +kernel
theorem dX0_goBy_5 : decode cX0_goBy 5 = .ok (.iload_n 3, 1) := by decide +kernel
theorem dX0_goBy_6 : decode cX0_goBy 6 = .ok (.aload_n 0, 1) := by decide +kernel
theorem dX0_goBy_7 : decode cX0_goBy 7 = .ok (.getfield 45, 3) := by decide +kernel
theorem dX0_goBy_10 : decode cX0_goBy 10 = .ok (.if_icmp .ge 75, 3) := by decide +kernel
theorem dX0_goBy_13 : decode cX0_goBy 13 = .ok (.aload_n 0, 1) := by decide +kernel
theorem dX0_goBy_14 : decode cX0_goBy 14 = .ok (.getfield 66, 3) := by decide +kernel
theorem dX0_goBy_17 : decode cX0_goBy 17 = .ok (.iconst 5, 1) := by decide +kernel
theorem dX0_goBy_18 : decode cX0_goBy 18 = .ok (.imul, 1) := by decide +kernel
theorem dX0_goBy_19 : decode cX0_goBy 19 = .ok (.iload_n 3, 1) := by decide +kernel
theorem dX0_goBy_20 : decode cX0_goBy 20 = .ok (.iadd, 1) := by decide +kernel
theorem dX0_goBy_21 : decode cX0_goBy 21 = .ok (.istore 4, 2) := by decide +kernel
theorem dX0_goBy_23 : decode cX0_goBy 23 = .ok (.aload_n 0, 1) := by decide +kernel
theorem dX0_goBy_24 : decode cX0_goBy 24 = .ok (.getfield 30, 3) := by decide +kernel
theorem dX0_goBy_27 : decode cX0_goBy 27 = .ok (.iload 4, 2) := by decide +kernel
theorem dX0_goBy_29 : decode cX0_goBy 29 = .ok (.aload_n 0, 1) := by decide +kernel
theorem dX0_goBy_30 : decode cX0_goBy 30 = .ok (.getfield 27, 3) := by decide +kernel
theorem dX0_goBy_33 : decode cX0_goBy 33 = .ok (.iload_n 3, 1) := by decide +kernel
theorem dX0_goBy_34 : decode cX0_goBy 34 = .ok (.iaload, 1) := by decide +kernel
theorem dX0_goBy_35 : decode cX0_goBy 35 = .ok (.iastore, 1) := by decide +kernel
theorem dX0_goBy_36 : decode cX0_goBy 36 = .ok (.aload_n 0, 1) := by decide +kernel
theorem dX0_goBy_37 : decode cX0_goBy 37 = .ok (.getfield 36, 3) := by decide +kernel
theorem dX0_goBy_40 : decode cX0_goBy 40 = .ok (.iload 4, 2) := by decide +kernel
theorem dX0_goBy_42 : decode cX0_goBy 42 = .ok (.aload_n 1, 1) := by decide +kernel
theorem dX0_goBy_43 : decode cX0_goBy 43 = .ok (.getfield 88, 3) := by decide +kernel
theorem dX0_goBy_46 : decode cX0_goBy 46 = .ok (.iload_n 3, 1) := by decide +kernel
theorem dX0_goBy_47 : decode cX0_goBy 47 = .ok (.iaload, 1) := by decide +kernel
theorem dX0_goBy_48 : decode cX0_goBy 48 = .ok (.iastore, 1) := by decide +kernel
theorem dX0_goBy_49 : decode cX0_goBy 49 = .ok (.aload_n 0, 1) := by decide +kernel
theorem dX0_goBy_50 : decode cX0_goBy 50 = .ok (.getfield 33, 3) := by decide +kernel
theorem dX0_goBy_53 : decode cX0_goBy 53 = .ok (.iload 4, 2) := by decide +kernel
theorem dX0_goBy_55 : decode cX0_goBy 55 = .ok (.aload_n 1, 1) := by decide +kernel
theorem dX0_goBy_56 : decode cX0_goBy 56 = .ok (.iload_n 3, 1) := by decide +kernel
theorem dX0_goBy_57 : decode cX0_goBy 57 = .ok (.aload_n 1, 1) := by decide +kernel
theorem dX0_goBy_58 : decode cX0_goBy 58 = .ok (.getfield 88, 3) := by decide +kernel
theorem dX0_goBy_61 : decode cX0_goBy 61 = .ok (.iload_n 3, 1) := by decide +kernel
theorem dX0_goBy_62 : decode cX0_goBy 62 = .ok (.iaload, 1) := by decide +kernel
theorem dX0_goBy_63 : decode cX0_goBy 63 = .ok (.invokevirtual 97, 3) := by decide +kernel
theorem dX0_goBy_66 : decode cX0_goBy 66 = .ok (.iastore, 1) := by decide +kernel
theorem dX0_goBy_67 : decode cX0_goBy 67 = .ok (.aload_n 0, 1) := by decide +kernel
theorem dX0_goBy_68 : decode cX0_goBy 68 = .ok (.getfield 33, 3) := by decide +kernel
theorem dX0_goBy_71 : decode cX0_goBy 71 = .ok (.iload 4, 2) := by decide +kernel
theorem dX0_goBy_73 : decode cX0_goBy 73 = .ok (.iaload, 1) := by decide +kernel
theorem dX0_goBy_74 : decode cX0_goBy 74 = .ok (.ifCond .ne 5, 3) := by decide +kernel
theorem dX0_goBy_77 : decode cX0_goBy 77 = .ok (.iload_n 3, 1) := by decide +kernel
theorem dX0_goBy_78 : decode cX0_goBy 78 = .ok (.istore_n 2, 1) := by decide +kernel
theorem dX0_goBy_79 : decode cX0_goBy 79 = .ok (.iinc 3 1, 3) := by decide +kernel
theorem dX0_goBy_82 : decode cX0_goBy 82 = .ok (.goto (-77), 3) := by decide +kernel
theorem dX0_goBy_85 : decode cX0_goBy 85 = .ok (.iconst 0, 1) := by decide +kernel
theorem dX0_goBy_86 : decode cX0_goBy 86 = .ok (.istore_n 3, 1) := by decide +kernel
theorem dX0_goBy_87 : decode cX0_goBy 87 = .ok (.iload_n 3, 1) := by decide +kernel
theorem dX0_goBy_88 : decode cX0_goBy 88 = .ok (.aload_n 0, 1) := by decide +kernel
theorem dX0_goBy_89 : decode cX0_goBy 89 = .ok (.getfield 45, 3) := by decide +kernel
theorem dX0_goBy_92 : decode cX0_goBy 92 = .ok (.if_icmp .ge 23, 3) := by decide +kernel
theorem dX0_goBy_95 : decode cX0_goBy 95 = .ok (.aload_n 0, 1) := by decide +kernel
theorem dX0_goBy_96 : decode cX0_goBy 96 = .ok (.aload_n 0, 1) := by decide +kernel
theorem dX0_goBy_97 : decode cX0_goBy 97 = .ok (.getfield 27, 3) := by decide +kernel
theorem dX0_goBy_100 : decode cX0_goBy 100 = .ok (.iload_n 3, 1) := by decide +kernel
theorem dX0_goBy_101 : decode cX0_goBy 101 = .ok (.iaload, 1) := by decide +kernel
theorem dX0_goBy_102 : decode cX0_goBy 102 = .ok (.aload_n 0, 1) := by decide +kernel
theorem dX0_goBy_103 : decode cX0_goBy 103 = .ok (.getfield 66, 3) := by decide +kernel
theorem dX0_goBy_106 : decode cX0_goBy 106 = .ok (.invokevirtual 100, 3) := by decide +kernel
theorem dX0_goBy_109 : decode cX0_goBy 109 = .ok (.iinc 3 1, 3) := by decide +kernel
theorem dX0_goBy_112 : decode cX0_goBy 112 = .ok (.goto (-25), 3) := by decide +kernel
theorem dX0_goBy_115 : decode cX0_goBy 115 = .ok (.aload_n 0, 1) := by decide +kernel
theorem dX0_goBy_116 : decode cX0_goBy 116 = .ok (.dup, 1) := by decide +kernel
theorem dX0_goBy_117 : decode cX0_goBy 117 = .ok (.getfield 66, 3) := by decide +kernel
theorem dX0_goBy_120 : decode cX0_goBy 120 = .ok (.iconst 1, 1) := by decide +kernel
theorem dX0_goBy_121 : decode cX0_goBy 121 = .ok (.iadd, 1) := by decide +kernel
theorem dX0_goBy_122 : decode cX0_goBy 122 = .ok (.putfield 66, 3) := by decide +kernel
theorem dX0_goBy_125 : decode cX0_goBy 125 = .ok (.aload_n 0, 1) := by decide +kernel
theorem dX0_goBy_126 : decode cX0_goBy 126 = .ok (.getfield 27, 3) := by decide +kernel
theorem dX0_goBy_129 : decode cX0_goBy 129 = .ok (.bipush (-9), 2) := by decide +kernel
theorem dX0_goBy_131 : decode cX0_goBy 131 = .ok (.invokestatic 104, 3) := by decide +kernel
theorem dX0_goBy_134 : decode cX0_goBy 134 = .ok (.iload_n 2, 1) := by decide +kernel
theorem dX0_goBy_135 : decode cX0_goBy 135 = .ok (.ireturn, 1) := by decide +kernel
theorem dX0_keepTold_0 : decode cX0_keepTold 0 = .ok (.aload_n 0, 1) := by decide +kernel
theorem dX0_keepTold_1 : decode cX0_keepTold 1 = .ok (.iload_n 1, 1) := by decide +kernel
theorem dX0_keepTold_2 : decode cX0_keepTold 2 = .ok (.invokevirtual 91, 3) := by decide +kernel
theorem dX0_keepTold_5 : decode cX0_keepTold 5 = .ok (.ifCond .ne 4, 3) := by decide +kernel
theorem dX0_keepTold_8 : decode cX0_keepTold 8 = .ok (.return_, 1) := by decide +kernel
theorem dX0_keepTold_9 : decode cX0_keepTold 9 = .ok (.aload_n 0, 1) := by decide +kernel
theorem dX0_keepTold_10 : decode cX0_keepTold 10 = .ok (.getfield 21, 3) := by decide +kernel
theorem dX0_keepTold_13 : decode cX0_keepTold 13 = .ok (.iload_n 1, 1) := by decide +kernel
theorem dX0_keepTold_14 : decode cX0_keepTold 14 = .ok (.dup2, 1) := by decide +kernel
theorem dX0_keepTold_15 : decode cX0_keepTold 15 = .ok (.iaload, 1) := by decide +kernel
theorem dX0_keepTold_16 : decode cX0_keepTold 16 = .ok (.iconst 1, 1) := by decide +kernel
theorem dX0_keepTold_17 : decode cX0_keepTold 17 = .ok (.iadd, 1) := by decide +kernel
theorem dX0_keepTold_18 : decode cX0_keepTold 18 = .ok (.iastore, 1) := by decide +kernel
theorem dX0_keepTold_19 : decode cX0_keepTold 19 = .ok (.aload_n 0, 1) := by decide +kernel
theorem dX0_keepTold_20 : decode cX0_keepTold 20 = .ok (.getfield 24, 3) := by decide +kernel
theorem dX0_keepTold_23 : decode cX0_keepTold 23 = .ok (.iload_n 1, 1) := by decide +kernel
theorem dX0_keepTold_24 : decode cX0_keepTold 24 = .ok (.iload_n 2, 1) := by decide +kernel
theorem dX0_keepTold_25 : decode cX0_keepTold 25 = .ok (.iastore, 1) := by decide +kernel
theorem dX0_keepTold_26 : decode cX0_keepTold 26 = .ok (.return_, 1) := by decide +kernel
theorem dX0_goBack_0 : decode cX0_goBack 0 = .ok (.aload_n 0, 1) := by decide +kernel
theorem dX0_goBack_1 : decode cX0_goBack 1 = .ok (.dup, 1) := by decide +kernel
theorem dX0_goBack_2 : decode cX0_goBack 2 = .ok (.getfield 66, 3) := by decide +kernel
theorem dX0_goBack_5 : decode cX0_goBack 5 = .ok (.iload_n 1, 1) := by decide +kernel
theorem dX0_goBack_6 : decode cX0_goBack 6 = .ok (.isub, 1) := by decide +kernel
theorem dX0_goBack_7 : decode cX0_goBack 7 = .ok (.putfield 66, 3) := by decide +kernel
theorem dX0_goBack_10 : decode cX0_goBack 10 = .ok (.aload_n 0, 1) := by decide +kernel
theorem dX0_goBack_11 : decode cX0_goBack 11 = .ok (.getfield 27, 3) := by decide +kernel
theorem dX0_goBack_14 : decode cX0_goBack 14 = .ok (.bipush (-9), 2) := by decide +kernel
theorem dX0_goBack_16 : decode cX0_goBack 16 = .ok (.invokestatic 104, 3) := by decide +kernel
theorem dX0_goBack_19 : decode cX0_goBack 19 = .ok (.aload_n 0, 1) := by decide +kernel
theorem dX0_goBack_20 : decode cX0_goBack 20 = .ok (.getfield 21, 3) := by decide +kernel
theorem dX0_goBack_23 : decode cX0_goBack 23 = .ok (.iconst 0, 1) := by decide +kernel
theorem dX0_goBack_24 : decode cX0_goBack 24 = .ok (.invokestatic 104, 3) := by decide +kernel
theorem dX0_goBack_27 : decode cX0_goBack 27 = .ok (.aload_n 0, 1) := by decide +kernel
theorem dX0_goBack_28 : decode cX0_goBack 28 = .ok (.getfield 24, 3) := by decide +kernel
theorem dX0_goBack_31 : decode cX0_goBack 31 = .ok (.bipush (-9), 2) := by decide +kernel
theorem dX0_goBack_33 : decode cX0_goBack 33 = .ok (.invokestatic 104, 3) := by decide +kernel
theorem dX0_goBack_36 : decode cX0_goBack 36 = .ok (.iconst 0, 1) := by decide +kernel
theorem dX0_goBack_37 : decode cX0_goBack 37 = .ok (.istore_n 2, 1) := by decide +kernel
theorem dX0_goBack_38 : decode cX0_goBack 38 = .ok (.iload_n 2, 1) := by decide +kernel
theorem dX0_goBack_39 : decode cX0_goBack 39 = .ok (.aload_n 0, 1) := by decide +kernel
theorem dX0_goBack_40 : decode cX0_goBack 40 = .ok (.getfield 66, 3) := by decide +kernel
theorem dX0_goBack_43 : decode cX0_goBack 43 = .ok (.if_icmp .ge 40, 3) := by decide +kernel
theorem dX0_goBack_46 : decode cX0_goBack 46 = .ok (.iconst 0, 1) := by decide +kernel
theorem dX0_goBack_47 : decode cX0_goBack 47 = .ok (.istore_n 3, 1) := by decide +kernel
theorem dX0_goBack_48 : decode cX0_goBack 48 = .ok (.iload_n 3, 1) := by decide +kernel
theorem dX0_goBack_49 : decode cX0_goBack 49 = .ok (.aload_n 0, 1) := by decide +kernel
theorem dX0_goBack_50 : decode cX0_goBack 50 = .ok (.getfield 45, 3) := by decide +kernel
theorem dX0_goBack_53 : decode cX0_goBack 53 = .ok (.if_icmp .ge 24, 3) := by decide +kernel
theorem dX0_goBack_56 : decode cX0_goBack 56 = .ok (.aload_n 0, 1) := by decide +kernel
theorem dX0_goBack_57 : decode cX0_goBack 57 = .ok (.aload_n 0, 1) := by decide +kernel
theorem dX0_goBack_58 : decode cX0_goBack 58 = .ok (.getfield 30, 3) := by decide +kernel
theorem dX0_goBack_61 : decode cX0_goBack 61 = .ok (.iload_n 2, 1) := by decide +kernel
theorem dX0_goBack_62 : decode cX0_goBack 62 = .ok (.iconst 5, 1) := by decide +kernel
theorem dX0_goBack_63 : decode cX0_goBack 63 = .ok (.imul, 1) := by decide +kernel
theorem dX0_goBack_64 : decode cX0_goBack 64 = .ok (.iload_n 3, 1) := by decide +kernel
theorem dX0_goBack_65 : decode cX0_goBack 65 = .ok (.iadd, 1) := by decide +kernel
theorem dX0_goBack_66 : decode cX0_goBack 66 = .ok (.iaload, 1) := by decide +kernel
theorem dX0_goBack_67 : decode cX0_goBack 67 = .ok (.iload_n 2, 1) := by decide +kernel
theorem dX0_goBack_68 : decode cX0_goBack 68 = .ok (.invokevirtual 100, 3) := by decide +kernel
theorem dX0_goBack_71 : decode cX0_goBack 71 = .ok (.iinc 3 1, 3) := by decide +kernel
theorem dX0_goBack_74 : decode cX0_goBack 74 = .ok (.goto (-26), 3) := by decide +kernel
theorem dX0_goBack_77 : decode cX0_goBack 77 = .ok (.iinc 2 1, 3) := by decide +kernel
theorem dX0_goBack_80 : decode cX0_goBack 80 = .ok (.goto (-42), 3) := by decide +kernel
theorem dX0_goBack_83 : decode cX0_goBack 83 = .ok (.return_, 1) := by decide +kernel
theorem dX0_nightsAt_0 : decode cX0_nightsAt 0 = .ok (.iconst 0, 1) := by decide +kernel
theorem dX0_nightsAt_1 : decode cX0_nightsAt 1 = .ok (.istore_n 3, 1) := by decide +kernel
theorem dX0_nightsAt_2 : decode cX0_nightsAt 2 = .ok (.iconst 0, 1) := by decide +kernel
theorem dX0_nightsAt_3 : decode cX0_nightsAt 3 = .ok (.istore 4, 2) := by decide +kernel
theorem dX0_nightsAt_5 : decode cX0_nightsAt 5 = .ok (.iload 4, 2) := by decide +kernel
theorem dX0_nightsAt_7 : decode cX0_nightsAt 7 = .ok (.aload_n 0, 1) := by decide +kernel
theorem dX0_nightsAt_8 : decode cX0_nightsAt 8 = .ok (.getfield 66, 3) := by decide +kernel
theorem dX0_nightsAt_11 : decode cX0_nightsAt 11 = .ok (.if_icmp .ge 27, 3) := by decide +kernel
theorem dX0_nightsAt_14 : decode cX0_nightsAt 14 = .ok (.aload_n 0, 1) := by decide +kernel
theorem dX0_nightsAt_15 : decode cX0_nightsAt 15 = .ok (.getfield 33, 3) := by decide +kernel
theorem dX0_nightsAt_18 : decode cX0_nightsAt 18 = .ok (.iload 4, 2) := by decide +kernel
theorem dX0_nightsAt_20 : decode cX0_nightsAt 20 = .ok (.iconst 5, 1) := by decide +kernel
theorem dX0_nightsAt_21 : decode cX0_nightsAt 21 = .ok (.imul, 1) := by decide +kernel
theorem dX0_nightsAt_22 : decode cX0_nightsAt 22 = .ok (.iload_n 1, 1) := by decide +kernel
theorem dX0_nightsAt_23 : decode cX0_nightsAt 23 = .ok (.iadd, 1) := by decide +kernel
theorem dX0_nightsAt_24 : decode cX0_nightsAt 24 = .ok (.iaload, 1) := by decide +kernel
theorem dX0_nightsAt_25 : decode cX0_nightsAt 25 = .ok (.iload_n 2, 1) := by decide +kernel
theorem dX0_nightsAt_26 : decode cX0_nightsAt 26 = .ok (.if_icmp .ne 6, 3) := by decide +kernel
theorem dX0_nightsAt_29 : decode cX0_nightsAt 29 = .ok (.iinc 3 1, 3) := by decide +kernel
theorem dX0_nightsAt_32 : decode cX0_nightsAt 32 = .ok (.iinc 4 1, 3) := by decide +kernel
theorem dX0_nightsAt_35 : decode cX0_nightsAt 35 = .ok (.goto (-30), 3) := by decide +kernel
theorem dX0_nightsAt_38 : decode cX0_nightsAt 38 = .ok (.iload_n 3, 1) := by decide +kernel
theorem dX0_nightsAt_39 : decode cX0_nightsAt 39 = .ok (.ireturn, 1) := by decide +kernel
theorem dX1_init_0 : decode cX1_init 0 = .ok (.aload_n 0, 1) := by decide +kernel
theorem dX1_init_1 : decode cX1_init 1 = .ok (.invokespecial 3, 3) := by decide +kernel
theorem dX1_init_4 : decode cX1_init 4 = .ok (.aload_n 0, 1) := by decide +kernel
theorem dX1_init_5 : decode cX1_init 5 = .ok (.iconst 5, 1) := by decide +kernel
theorem dX1_init_6 : decode cX1_init 6 = .ok (.newarray .int, 2) := by decide +kernel
theorem dX1_init_8 : decode cX1_init 8 = .ok (.putfield 9, 3) := by decide +kernel
theorem dX1_init_11 : decode cX1_init 11 = .ok (.aload_n 0, 1) := by decide +kernel
theorem dX1_init_12 : decode cX1_init 12 = .ok (.iconst 5, 1) := by decide +kernel
theorem dX1_init_13 : decode cX1_init 13 = .ok (.newarray .int, 2) := by decide +kernel
theorem dX1_init_15 : decode cX1_init 15 = .ok (.putfield 15, 3) := by decide +kernel
theorem dX1_init_18 : decode cX1_init 18 = .ok (.aload_n 0, 1) := by decide +kernel
theorem dX1_init_19 : decode cX1_init 19 = .ok (.aload_n 1, 1) := by decide +kernel
theorem dX1_init_20 : decode cX1_init 20 = .ok (.putfield 18, 3) := by decide +kernel
theorem dX1_init_23 : decode cX1_init 23 = .ok (.aload_n 0, 1) := by decide +kernel
theorem dX1_init_24 : decode cX1_init 24 = .ok (.aload_n 2, 1) := by decide +kernel
theorem dX1_init_25 : decode cX1_init 25 = .ok (.putfield 22, 3) := by decide +kernel
theorem dX1_init_28 : decode cX1_init 28 = .ok (.return_, 1) := by decide +kernel
theorem dX2_init_0 : decode cX2_init 0 = .ok (.aload_n 0, 1) := by decide +kernel
theorem dX2_init_1 : decode cX2_init 1 = .ok (.invokespecial 3, 3) := by decide +kernel
theorem dX2_init_4 : decode cX2_init 4 = .ok (.aload_n 0, 1) := by decide +kernel
theorem dX2_init_5 : decode cX2_init 5 = .ok (.sipush 240, 3) := by decide +kernel
theorem dX2_init_8 : decode cX2_init 8 = .ok (.newarray .int, 2) := by decide +kernel
theorem dX2_init_10 : decode cX2_init 10 = .ok (.putfield 9, 3) := by decide +kernel
theorem dX2_init_13 : decode cX2_init 13 = .ok (.aload_n 0, 1) := by decide +kernel
theorem dX2_init_14 : decode cX2_init 14 = .ok (.iconst 4, 1) := by decide +kernel
theorem dX2_init_15 : decode cX2_init 15 = .ok (.newarray .int, 2) := by decide +kernel
theorem dX2_init_17 : decode cX2_init 17 = .ok (.putfield 15, 3) := by decide +kernel
theorem dX2_init_20 : decode cX2_init 20 = .ok (.aload_n 0, 1) := by decide +kernel
theorem dX2_init_21 : decode cX2_init 21 = .ok (.iconst 4, 1) := by decide +kernel
theorem dX2_init_22 : decode cX2_init 22 = .ok (.newarray .int, 2) := by decide +kernel
theorem dX2_init_24 : decode cX2_init 24 = .ok (.putfield 18, 3) := by decide +kernel
theorem dX2_init_27 : decode cX2_init 27 = .ok (.aload_n 0, 1) := by decide +kernel
theorem dX2_init_28 : decode cX2_init 28 = .ok (.getfield 18, 3) := by decide +kernel
theorem dX2_init_31 : decode cX2_init 31 = .ok (.bipush (-9), 2) := by decide +kernel
theorem dX2_init_33 : decode cX2_init 33 = .ok (.invokestatic 21, 3) := by decide +kernel
theorem dX2_init_36 : decode cX2_init 36 = .ok (.return_, 1) := by decide +kernel
theorem dX2_hasRow_0 : decode cX2_hasRow 0 = .ok (.aload_n 0, 1) := by decide +kernel
theorem dX2_hasRow_1 : decode cX2_hasRow 1 = .ok (.getfield 18, 3) := by decide +kernel
theorem dX2_hasRow_4 : decode cX2_hasRow 4 = .ok (.iload_n 1, 1) := by decide +kernel
theorem dX2_hasRow_5 : decode cX2_hasRow 5 = .ok (.iaload, 1) := by decide +kernel
theorem dX2_hasRow_6 : decode cX2_hasRow 6 = .ok (.bipush (-9), 2) := by decide +kernel
theorem dX2_hasRow_8 : decode cX2_hasRow 8 = .ok (.if_icmp .eq 7, 3) := by decide +kernel
theorem dX2_hasRow_11 : decode cX2_hasRow 11 = .ok (.iconst 1, 1) := by decide +kernel
theorem dX2_hasRow_12 : decode cX2_hasRow 12 = .ok (.goto 4, 3) := by decide +kernel
theorem dX2_hasRow_15 : decode cX2_hasRow 15 = .ok (.iconst 0, 1) := by decide +kernel
theorem dX2_hasRow_16 : decode cX2_hasRow 16 = .ok (.ireturn, 1) := by decide +kernel
theorem dX2_hasCells_0 : decode cX2_hasCells 0 = .ok (.iload_n 2, 1) := by decide +kernel
theorem dX2_hasCells_1 : decode cX2_hasCells 1 = .ok (.ifCond .lt 33, 3) := by decide +kernel
theorem dX2_hasCells_4 : decode cX2_hasCells 4 = .ok (.iload_n 3, 1) := by decide +kernel
theorem dX2_hasCells_5 : decode cX2_hasCells 5 = .ok (.ifCond .lt 29, 3) := by decide +kernel
theorem dX2_hasCells_8 : decode cX2_hasCells 8 = .ok (.iload_n 3, 1) := by decide +kernel
theorem dX2_hasCells_9 : decode cX2_hasCells 9 = .ok (.aload_n 0, 1) := by decide +kernel
theorem dX2_hasCells_10 : decode cX2_hasCells 10 = .ok (.getfield 18, 3) := by decide +kernel
theorem dX2_hasCells_13 : decode cX2_hasCells 13 = .ok (.iload_n 1, 1) := by decide +kernel
theorem dX2_hasCells_14 : decode cX2_hasCells 14 = .ok (.iaload, 1) := by decide +kernel
theorem dX2_hasCells_15 : decode cX2_hasCells 15 = .ok (.if_icmp .gt 19, 3) := by decide +kernel
theorem dX2_hasCells_18 : decode cX2_hasCells 18 = .ok (.iload_n 2, 1) := by decide +kernel
theorem dX2_hasCells_19 : decode cX2_hasCells 19 = .ok (.aload_n 0, 1) := by decide +kernel
theorem dX2_hasCells_20 : decode cX2_hasCells 20 = .ok (.getfield 18, 3) := by decide +kernel
theorem dX2_hasCells_23 : decode cX2_hasCells 23 = .ok (.iload_n 1, 1) := by decide +kernel
theorem dX2_hasCells_24 : decode cX2_hasCells 24 = .ok (.iaload, 1) := by decide +kernel
theorem dX2_hasCells_25 : decode cX2_hasCells 25 = .ok (.iload_n 3, 1) := by decide +kernel
theorem dX2_hasCells_26 : decode cX2_hasCells 26 = .ok (.isub, 1) := by decide +kernel
theorem dX2_hasCells_27 : decode cX2_hasCells 27 = .ok (.if_icmp .gt 7, 3) := by decide +kernel
theorem dX2_hasCells_30 : decode cX2_hasCells 30 = .ok (.iconst 1, 1) := by decide +kernel
theorem dX2_hasCells_31 : decode cX2_hasCells 31 = .ok (.goto 4, 3) := by decide +kernel
theorem dX2_hasCells_34 : decode cX2_hasCells 34 = .ok (.iconst 0, 1) := by decide +kernel
theorem dX2_hasCells_35 : decode cX2_hasCells 35 = .ok (.ireturn, 1) := by decide +kernel
theorem dX2_faultOf_0 : decode cX2_faultOf 0 = .ok (.aload_n 0, 1) := by decide +kernel
theorem dX2_faultOf_1 : decode cX2_faultOf 1 = .ok (.iload_n 1, 1) := by decide +kernel
theorem dX2_faultOf_2 : decode cX2_faultOf 2 = .ok (.invokevirtual 27, 3) := by decide +kernel
theorem dX2_faultOf_5 : decode cX2_faultOf 5 = .ok (.ifCond .ne 5, 3) := by decide +kernel
theorem dX2_faultOf_8 : decode cX2_faultOf 8 = .ok (.iconst 1, 1) := by decide +kernel
theorem dX2_faultOf_9 : decode cX2_faultOf 9 = .ok (.ireturn, 1) := by decide +kernel
theorem dX2_faultOf_10 : decode cX2_faultOf 10 = .ok (.aload_n 0, 1) := by decide +kernel
theorem dX2_faultOf_11 : decode cX2_faultOf 11 = .ok (.getfield 15, 3) := by decide +kernel
theorem dX2_faultOf_14 : decode cX2_faultOf 14 = .ok (.iload_n 1, 1) := by decide +kernel
theorem dX2_faultOf_15 : decode cX2_faultOf 15 = .ok (.iaload, 1) := by decide +kernel
theorem dX2_faultOf_16 : decode cX2_faultOf 16 = .ok (.iload_n 2, 1) := by decide +kernel
theorem dX2_faultOf_17 : decode cX2_faultOf 17 = .ok (.if_icmp .eq 5, 3) := by decide +kernel
theorem dX2_faultOf_20 : decode cX2_faultOf 20 = .ok (.iconst 2, 1) := by decide +kernel
theorem dX2_faultOf_21 : decode cX2_faultOf 21 = .ok (.ireturn, 1) := by decide +kernel
theorem dX2_faultOf_22 : decode cX2_faultOf 22 = .ok (.iload 4, 2) := by decide +kernel
theorem dX2_faultOf_24 : decode cX2_faultOf 24 = .ok (.ifCond .ge 5, 3) := by decide +kernel
theorem dX2_faultOf_27 : decode cX2_faultOf 27 = .ok (.iconst 4, 1) := by decide +kernel
theorem dX2_faultOf_28 : decode cX2_faultOf 28 = .ok (.ireturn, 1) := by decide +kernel
theorem dX2_faultOf_29 : decode cX2_faultOf 29 = .ok (.aload_n 0, 1) := by decide +kernel
theorem dX2_faultOf_30 : decode cX2_faultOf 30 = .ok (.iload_n 1, 1) := by decide +kernel
theorem dX2_faultOf_31 : decode cX2_faultOf 31 = .ok (.iload_n 3, 1) := by decide +kernel
theorem dX2_faultOf_32 : decode cX2_faultOf 32 = .ok (.iload 4, 2) := by decide +kernel
theorem dX2_faultOf_34 : decode cX2_faultOf 34 = .ok (.invokevirtual 31, 3) := by decide +kernel
theorem dX2_faultOf_37 : decode cX2_faultOf 37 = .ok (.ifCond .eq 7, 3) := by decide +kernel
theorem dX2_faultOf_40 : decode cX2_faultOf 40 = .ok (.iconst 0, 1) := by decide +kernel
theorem dX2_faultOf_41 : decode cX2_faultOf 41 = .ok (.goto 4, 3) := by decide +kernel
theorem dX2_faultOf_44 : decode cX2_faultOf 44 = .ok (.iconst 3, 1) := by decide +kernel
theorem dX2_faultOf_45 : decode cX2_faultOf 45 = .ok (.ireturn, 1) := by decide +kernel
theorem dX2_makeRow_0 : decode cX2_makeRow 0 = .ok (.aload_n 0, 1) := by decide +kernel
theorem dX2_makeRow_1 : decode cX2_makeRow 1 = .ok (.getfield 15, 3) := by decide +kernel
theorem dX2_makeRow_4 : decode cX2_makeRow 4 = .ok (.iload_n 1, 1) := by decide +kernel
theorem dX2_makeRow_5 : decode cX2_makeRow 5 = .ok (.iload_n 2, 1) := by decide +kernel
theorem dX2_makeRow_6 : decode cX2_makeRow 6 = .ok (.iastore, 1) := by decide +kernel
theorem dX2_makeRow_7 : decode cX2_makeRow 7 = .ok (.aload_n 0, 1) := by decide +kernel
theorem dX2_makeRow_8 : decode cX2_makeRow 8 = .ok (.getfield 18, 3) := by decide +kernel
theorem dX2_makeRow_11 : decode cX2_makeRow 11 = .ok (.iload_n 1, 1) := by decide +kernel
theorem dX2_makeRow_12 : decode cX2_makeRow 12 = .ok (.iload_n 3, 1) := by decide +kernel
theorem dX2_makeRow_13 : decode cX2_makeRow 13 = .ok (.iastore, 1) := by decide +kernel
theorem dX2_makeRow_14 : decode cX2_makeRow 14 = .ok (.aload_n 0, 1) := by decide +kernel
theorem dX2_makeRow_15 : decode cX2_makeRow 15 = .ok (.getfield 9, 3) := by decide +kernel
theorem dX2_makeRow_18 : decode cX2_makeRow 18 = .ok (.iload_n 1, 1) := by decide +kernel
theorem dX2_makeRow_19 : decode cX2_makeRow 19 = .ok (.bipush 60, 2) := by decide +kernel
theorem dX2_makeRow_21 : decode cX2_makeRow 21 = .ok (.imul, 1) := by decide +kernel
theorem dX2_makeRow_22 : decode cX2_makeRow 22 = .ok (.iload_n 1, 1) := by decide +kernel
theorem dX2_makeRow_23 : decode cX2_makeRow 23 = .ok (.bipush 60, 2) := by decide +kernel
theorem dX2_makeRow_25 : decode cX2_makeRow 25 = .ok (.imul, 1) := by decide +kernel
theorem dX2_makeRow_26 : decode cX2_makeRow 26 = .ok (.iload_n 3, 1) := by decide +kernel
theorem dX2_makeRow_27 : decode cX2_makeRow 27 = .ok (.iadd, 1) := by decide +kernel
theorem dX2_makeRow_28 : decode cX2_makeRow 28 = .ok (.iconst 0, 1) := by decide +kernel
theorem dX2_makeRow_29 : decode cX2_makeRow 29 = .ok (.invokestatic 35, 3) := by decide +kernel
theorem dX2_makeRow_32 : decode cX2_makeRow 32 = .ok (.return_, 1) := by decide +kernel
theorem dX2_write_0 : decode cX2_write 0 = .ok (.iload_n 3, 1) := by decide +kernel
theorem dX2_write_1 : decode cX2_write 1 = .ok (.istore 4, 2) := by decide +kernel
theorem dX2_write_3 : decode cX2_write 3 = .ok (.aload_n 0, 1) := by decide +kernel
theorem dX2_write_4 : decode cX2_write 4 = .ok (.getfield 15, 3) := by decide +kernel
theorem dX2_write_7 : decode cX2_write 7 = .ok (.iload_n 1, 1) := by decide +kernel
theorem dX2_write_8 : decode cX2_write 8 = .ok (.iaload, 1) := by decide +kernel
theorem dX2_write_9 : decode cX2_write 9 = .ok (.ifCond .ne 7, 3) := by decide +kernel
theorem dX2_write_12 : decode cX2_write 12 = .ok (.iload_n 3, 1) := by decide +kernel
theorem dX2_write_13 : decode cX2_write 13 = .ok (.i2b, 1) := by decide +kernel
theorem dX2_write_14 : decode cX2_write 14 = .ok (.istore 4, 2) := by decide +kernel
theorem dX2_write_16 : decode cX2_write 16 = .ok (.aload_n 0, 1) := by decide +kernel
theorem dX2_write_17 : decode cX2_write 17 = .ok (.getfield 15, 3) := by decide +kernel
theorem dX2_write_20 : decode cX2_write 20 = .ok (.iload_n 1, 1) := by decide +kernel
theorem dX2_write_21 : decode cX2_write 21 = .ok (.iaload, 1) := by decide +kernel
theorem dX2_write_22 : decode cX2_write 22 = .ok (.iconst 1, 1) := by decide +kernel
theorem dX2_write_23 : decode cX2_write 23 = .ok (.if_icmp .ne 7, 3) := by decide +kernel
theorem dX2_write_26 : decode cX2_write 26 = .ok (.iload_n 3, 1) := by decide +kernel
theorem dX2_write_27 : decode cX2_write 27 = .ok (.i2s, 1) := by decide +kernel
theorem dX2_write_28 : decode cX2_write 28 = .ok (.istore 4, 2) := by decide +kernel
theorem dX2_write_30 : decode cX2_write 30 = .ok (.aload_n 0, 1) := by decide +kernel
theorem dX2_write_31 : decode cX2_write 31 = .ok (.getfield 9, 3) := by decide +kernel
theorem dX2_write_34 : decode cX2_write 34 = .ok (.iload_n 1, 1) := by decide +kernel
theorem dX2_write_35 : decode cX2_write 35 = .ok (.bipush 60, 2) := by decide +kernel
theorem dX2_write_37 : decode cX2_write 37 = .ok (.imul, 1) := by decide +kernel
theorem dX2_write_38 : decode cX2_write 38 = .ok (.iload_n 2, 1) := by decide +kernel
theorem dX2_write_39 : decode cX2_write 39 = .ok (.iadd, 1) := by decide +kernel
theorem dX2_write_40 : decode cX2_write 40 = .ok (.iload 4, 2) := by decide +kernel
theorem dX2_write_42 : decode cX2_write 42 = .ok (.iastore, 1) := by decide +kernel
theorem dX2_write_43 : decode cX2_write 43 = .ok (.return_, 1) := by decide +kernel
theorem dX2_take_0 : decode cX2_take 0 = .ok (.aload_n 0, 1) := by decide +kernel
theorem dX2_take_1 : decode cX2_take 1 = .ok (.getfield 9, 3) := by decide +kernel
theorem dX2_take_4 : decode cX2_take 4 = .ok (.iload_n 1, 1) := by decide +kernel
theorem dX2_take_5 : decode cX2_take 5 = .ok (.bipush 60, 2) := by decide +kernel
theorem dX2_take_7 : decode cX2_take 7 = .ok (.imul, 1) := by decide +kernel
theorem dX2_take_8 : decode cX2_take 8 = .ok (.iload_n 2, 1) := by decide +kernel
theorem dX2_take_9 : decode cX2_take 9 = .ok (.iadd, 1) := by decide +kernel
theorem dX2_take_10 : decode cX2_take 10 = .ok (.aload 4, 2) := by decide +kernel
theorem dX2_take_12 : decode cX2_take 12 = .ok (.iconst 0, 1) := by decide +kernel
theorem dX2_take_13 : decode cX2_take 13 = .ok (.iload_n 3, 1) := by decide +kernel
theorem dX2_take_14 : decode cX2_take 14 = .ok (.invokestatic 38, 3) := by decide +kernel
theorem dX2_take_17 : decode cX2_take 17 = .ok (.return_, 1) := by decide +kernel
theorem dX3_init_0 : decode cX3_init 0 = .ok (.aload_n 0, 1) := by decide +kernel
theorem dX3_init_1 : decode cX3_init 1 = .ok (.invokespecial 3, 3) := by decide +kernel
theorem dX3_init_4 : decode cX3_init 4 = .ok (.aload_n 0, 1) := by decide +kernel
theorem dX3_init_5 : decode cX3_init 5 = .ok (.iconst 5, 1) := by decide +kernel
theorem dX3_init_6 : decode cX3_init 6 = .ok (.newarray .int, 2) := by decide +kernel
theorem dX3_init_8 : decode cX3_init 8 = .ok (.putfield 9, 3) := by decide +kernel
theorem dX3_init_11 : decode cX3_init 11 = .ok (.return_, 1) := by decide +kernel
theorem dX3_placeOf_0 : decode cX3_placeOf 0 = .ok (.iconst 0, 1) := by decide +kernel
theorem dX3_placeOf_1 : decode cX3_placeOf 1 = .ok (.istore_n 3, 1) := by decide +kernel
theorem dX3_placeOf_2 : decode cX3_placeOf 2 = .ok (.iconst 0, 1) := by decide +kernel
theorem dX3_placeOf_3 : decode cX3_placeOf 3 = .ok (.istore 4, 2) := by decide +kernel
theorem dX3_placeOf_5 : decode cX3_placeOf 5 = .ok (.iload 4, 2) := by decide +kernel
theorem dX3_placeOf_7 : decode cX3_placeOf 7 = .ok (.aload_n 0, 1) := by decide +kernel
theorem dX3_placeOf_8 : decode cX3_placeOf 8 = .ok (.getfield 15, 3) := by decide +kernel
theorem dX3_placeOf_11 : decode cX3_placeOf 11 = .ok (.if_icmp .ge 49, 3) := by decide +kernel
theorem dX3_placeOf_14 : decode cX3_placeOf 14 = .ok (.iload 4, 2) := by decide +kernel
theorem dX3_placeOf_16 : decode cX3_placeOf 16 = .ok (.iload_n 1, 1) := by decide +kernel
theorem dX3_placeOf_17 : decode cX3_placeOf 17 = .ok (.if_icmp .ne 6, 3) := by decide +kernel
theorem dX3_placeOf_20 : decode cX3_placeOf 20 = .ok (.goto 34, 3) := by decide +kernel
theorem dX3_placeOf_23 : decode cX3_placeOf 23 = .ok (.aload_n 0, 1) := by decide +kernel
theorem dX3_placeOf_24 : decode cX3_placeOf 24 = .ok (.getfield 9, 3) := by decide +kernel
theorem dX3_placeOf_27 : decode cX3_placeOf 27 = .ok (.iload 4, 2) := by decide +kernel
theorem dX3_placeOf_29 : decode cX3_placeOf 29 = .ok (.iaload, 1) := by decide +kernel
theorem dX3_placeOf_30 : decode cX3_placeOf 30 = .ok (.iload_n 2, 1) := by decide +kernel
theorem dX3_placeOf_31 : decode cX3_placeOf 31 = .ok (.if_icmp .gt 20, 3) := by decide +kernel
theorem dX3_placeOf_34 : decode cX3_placeOf 34 = .ok (.aload_n 0, 1) := by decide +kernel
theorem dX3_placeOf_35 : decode cX3_placeOf 35 = .ok (.getfield 9, 3) := by decide +kernel
theorem dX3_placeOf_38 : decode cX3_placeOf 38 = .ok (.iload 4, 2) := by decide +kernel
theorem dX3_placeOf_40 : decode cX3_placeOf 40 = .ok (.iaload, 1) := by decide +kernel
theorem dX3_placeOf_41 : decode cX3_placeOf 41 = .ok (.iload_n 2, 1) := by decide +kernel
theorem dX3_placeOf_42 : decode cX3_placeOf 42 = .ok (.if_icmp .ne 12, 3) := by decide +kernel
theorem dX3_placeOf_45 : decode cX3_placeOf 45 = .ok (.iload 4, 2) := by decide +kernel
theorem dX3_placeOf_47 : decode cX3_placeOf 47 = .ok (.iload_n 1, 1) := by decide +kernel
theorem dX3_placeOf_48 : decode cX3_placeOf 48 = .ok (.if_icmp .ge 6, 3) := by decide +kernel
theorem dX3_placeOf_51 : decode cX3_placeOf 51 = .ok (.iinc 3 1, 3) := by decide +kernel
theorem dX3_placeOf_54 : decode cX3_placeOf 54 = .ok (.iinc 4 1, 3) := by decide +kernel
theorem dX3_placeOf_57 : decode cX3_placeOf 57 = .ok (.goto (-52), 3) := by decide +kernel
theorem dX3_placeOf_60 : decode cX3_placeOf 60 = .ok (.iload_n 3, 1) := by decide +kernel
theorem dX3_placeOf_61 : decode cX3_placeOf 61 = .ok (.ireturn, 1) := by decide +kernel
theorem dX3_needOf_0 : decode cX3_needOf 0 = .ok (.iconst 1, 1) := by decide +kernel
theorem dX3_needOf_1 : decode cX3_needOf 1 = .ok (.istore_n 2, 1) := by decide +kernel
theorem dX3_needOf_2 : decode cX3_needOf 2 = .ok (.iconst 0, 1) := by decide +kernel
theorem dX3_needOf_3 : decode cX3_needOf 3 = .ok (.istore_n 3, 1) := by decide +kernel
theorem dX3_needOf_4 : decode cX3_needOf 4 = .ok (.iload_n 3, 1) := by decide +kernel
theorem dX3_needOf_5 : decode cX3_needOf 5 = .ok (.aload_n 0, 1) := by decide +kernel
theorem dX3_needOf_6 : decode cX3_needOf 6 = .ok (.getfield 15, 3) := by decide +kernel
theorem dX3_needOf_9 : decode cX3_needOf 9 = .ok (.if_icmp .ge 44, 3) := by decide +kernel
theorem dX3_needOf_12 : decode cX3_needOf 12 = .ok (.iload_n 3, 1) := by decide +kernel
theorem dX3_needOf_13 : decode cX3_needOf 13 = .ok (.iload_n 1, 1) := by decide +kernel
theorem dX3_needOf_14 : decode cX3_needOf 14 = .ok (.if_icmp .ne 6, 3) := by decide +kernel
theorem dX3_needOf_17 : decode cX3_needOf 17 = .ok (.goto 30, 3) := by decide +kernel
theorem dX3_needOf_20 : decode cX3_needOf 20 = .ok (.iload_n 2, 1) := by decide +kernel
theorem dX3_needOf_21 : decode cX3_needOf 21 = .ok (.iload_n 3, 1) := by decide +kernel
theorem dX3_needOf_22 : decode cX3_needOf 22 = .ok (.iload_n 1, 1) := by decide +kernel
theorem dX3_needOf_23 : decode cX3_needOf 23 = .ok (.if_icmp .ge 14, 3) := by decide +kernel
theorem dX3_needOf_26 : decode cX3_needOf 26 = .ok (.aload_n 0, 1) := by decide +kernel
theorem dX3_needOf_27 : decode cX3_needOf 27 = .ok (.getfield 9, 3) := by decide +kernel
theorem dX3_needOf_30 : decode cX3_needOf 30 = .ok (.iload_n 3, 1) := by decide +kernel
theorem dX3_needOf_31 : decode cX3_needOf 31 = .ok (.iaload, 1) := by decide +kernel
theorem dX3_needOf_32 : decode cX3_needOf 32 = .ok (.iconst 1, 1) := by decide +kernel
theorem dX3_needOf_33 : decode cX3_needOf 33 = .ok (.iadd, 1) := by decide +kernel
theorem dX3_needOf_34 : decode cX3_needOf 34 = .ok (.goto 9, 3) := by decide +kernel
theorem dX3_needOf_37 : decode cX3_needOf 37 = .ok (.aload_n 0, 1) := by decide +kernel
theorem dX3_needOf_38 : decode cX3_needOf 38 = .ok (.getfield 9, 3) := by decide +kernel
theorem dX3_needOf_41 : decode cX3_needOf 41 = .ok (.iload_n 3, 1) := by decide +kernel
theorem dX3_needOf_42 : decode cX3_needOf 42 = .ok (.iaload, 1) := by decide +kernel
theorem dX3_needOf_43 : decode cX3_needOf 43 = .ok (.invokestatic 19, 3) := by decide +kernel
theorem dX3_needOf_46 : decode cX3_needOf 46 = .ok (.istore_n 2, 1) := by decide +kernel
theorem dX3_needOf_47 : decode cX3_needOf 47 = .ok (.iinc 3 1, 3) := by decide +kernel
theorem dX3_needOf_50 : decode cX3_needOf 50 = .ok (.goto (-46), 3) := by decide +kernel
theorem dX3_needOf_53 : decode cX3_needOf 53 = .ok (.iload_n 2, 1) := by decide +kernel
theorem dX3_needOf_54 : decode cX3_needOf 54 = .ok (.ireturn, 1) := by decide +kernel
theorem dX3_noLessThan_0 : decode cX3_noLessThan 0 = .ok (.iconst 0, 1) := by decide +kernel
theorem dX3_noLessThan_1 : decode cX3_noLessThan 1 = .ok (.istore_n 2, 1) := by decide +kernel
theorem dX3_noLessThan_2 : decode cX3_noLessThan 2 = .ok (.iconst 0, 1) := by decide +kernel
theorem dX3_noLessThan_3 : decode cX3_noLessThan 3 = .ok (.istore_n 3, 1) := by decide +kernel
theorem dX3_noLessThan_4 : decode cX3_noLessThan 4 = .ok (.iload_n 3, 1) := by decide +kernel
theorem dX3_noLessThan_5 : decode cX3_noLessThan 5 = .ok (.aload_n 0, 1) := by decide +kernel
theorem dX3_noLessThan_6 : decode cX3_noLessThan 6 = .ok (.getfield 15, 3) := by decide +kernel
theorem dX3_noLessThan_9 : decode cX3_noLessThan 9 = .ok (.if_icmp .ge 31, 3) := by decide +kernel
theorem dX3_noLessThan_12 : decode cX3_noLessThan 12 = .ok (.aload_n 0, 1) := by decide +kernel
theorem dX3_noLessThan_13 : decode cX3_noLessThan 13 = .ok (.getfield 9, 3) := by decide +kernel
theorem dX3_noLessThan_16 : decode cX3_noLessThan 16 = .ok (.iload_n 3, 1) := by decide +kernel
theorem dX3_noLessThan_17 : decode cX3_noLessThan 17 = .ok (.iaload, 1) := by decide +kernel
theorem dX3_noLessThan_18 : decode cX3_noLessThan 18 = .ok (.ifCond .le 16, 3) := by decide +kernel
theorem dX3_noLessThan_21 : decode cX3_noLessThan 21 = .ok (.aload_n 0, 1) := by decide +kernel
theorem dX3_noLessThan_22 : decode cX3_noLessThan 22 = .ok (.getfield 9, 3) := by decide +kernel
theorem dX3_noLessThan_25 : decode cX3_noLessThan 25 = .ok (.iload_n 3, 1) := by decide +kernel
theorem dX3_noLessThan_26 : decode cX3_noLessThan 26 = .ok (.iaload, 1) := by decide +kernel
theorem dX3_noLessThan_27 : decode cX3_noLessThan 27 = .ok (.iload_n 1, 1) := by decide +kernel
theorem dX3_noLessThan_28 : decode cX3_noLessThan 28 = .ok (.if_icmp .lt 6, 3) := by decide +kernel
theorem dX3_noLessThan_31 : decode cX3_noLessThan 31 = .ok (.iinc 2 1, 3) := by decide +kernel
theorem dX3_noLessThan_34 : decode cX3_noLessThan 34 = .ok (.iinc 3 1, 3) := by decide +kernel
theorem dX3_noLessThan_37 : decode cX3_noLessThan 37 = .ok (.goto (-33), 3) := by decide +kernel
theorem dX3_noLessThan_40 : decode cX3_noLessThan 40 = .ok (.iload_n 2, 1) := by decide +kernel
theorem dX3_noLessThan_41 : decode cX3_noLessThan 41 = .ok (.ireturn, 1) := by decide +kernel
theorem dX4_init_0 : decode cX4_init 0 = .ok (.aload_n 0, 1) := by decide +kernel
theorem dX4_init_1 : decode cX4_init 1 = .ok (.invokespecial 3, 3) := by decide +kernel
theorem dX4_init_4 : decode cX4_init 4 = .ok (.aload_n 0, 1) := by decide +kernel
theorem dX4_init_5 : decode cX4_init 5 = .ok (.bipush 60, 2) := by decide +kernel
theorem dX4_init_7 : decode cX4_init 7 = .ok (.newarray .int, 2) := by decide +kernel
theorem dX4_init_9 : decode cX4_init 9 = .ok (.putfield 9, 3) := by decide +kernel
theorem dX4_init_12 : decode cX4_init 12 = .ok (.return_, 1) := by decide +kernel
theorem dX4_firstFault_0 : decode cX4_firstFault 0 = .ok (.iconst 0, 1) := by decide +kernel
theorem dX4_firstFault_1 : decode cX4_firstFault 1 = .ok (.istore_n 1, 1) := by decide +kernel
theorem dX4_firstFault_2 : decode cX4_firstFault 2 = .ok (.iload_n 1, 1) := by decide +kernel
theorem dX4_firstFault_3 : decode cX4_firstFault 3 = .ok (.aload_n 0, 1) := by decide +kernel
theorem dX4_firstFault_4 : decode cX4_firstFault 4 = .ok (.getfield 15, 3) := by decide +kernel
theorem dX4_firstFault_7 : decode cX4_firstFault 7 = .ok (.if_icmp .ge 19, 3) := by decide +kernel
theorem dX4_firstFault_10 : decode cX4_firstFault 10 = .ok (.aload_n 0, 1) := by decide +kernel
theorem dX4_firstFault_11 : decode cX4_firstFault 11 = .ok (.iload_n 1, 1) := by decide +kernel
theorem dX4_firstFault_12 : decode cX4_firstFault 12 = .ok (.invokevirtual 19, 3) := by decide +kernel
theorem dX4_firstFault_15 : decode cX4_firstFault 15 = .ok (.ifCond .ne 5, 3) := by decide +kernel
theorem dX4_firstFault_18 : decode cX4_firstFault 18 = .ok (.iload_n 1, 1) := by decide +kernel
theorem dX4_firstFault_19 : decode cX4_firstFault 19 = .ok (.ireturn, 1) := by decide +kernel
theorem dX4_firstFault_20 : decode cX4_firstFault 20 = .ok (.iinc 1 1, 3) := by decide +kernel
theorem dX4_firstFault_23 : decode cX4_firstFault 23 = .ok (.goto (-21), 3) := by decide +kernel
theorem dX4_firstFault_26 : decode cX4_firstFault 26 = .ok (.aload_n 0, 1) := by decide +kernel
theorem dX4_firstFault_27 : decode cX4_firstFault 27 = .ok (.getfield 15, 3) := by decide +kernel
theorem dX4_firstFault_30 : decode cX4_firstFault 30 = .ok (.iconst 2, 1) := by decide +kernel
theorem dX4_firstFault_31 : decode cX4_firstFault 31 = .ok (.if_icmp .le 18, 3) := by decide +kernel
theorem dX4_firstFault_34 : decode cX4_firstFault 34 = .ok (.aload_n 0, 1) := by decide +kernel
theorem dX4_firstFault_35 : decode cX4_firstFault 35 = .ok (.getfield 15, 3) := by decide +kernel
theorem dX4_firstFault_38 : decode cX4_firstFault 38 = .ok (.iconst 2, 1) := by decide +kernel
theorem dX4_firstFault_39 : decode cX4_firstFault 39 = .ok (.isub, 1) := by decide +kernel
theorem dX4_firstFault_40 : decode cX4_firstFault 40 = .ok (.iconst 5, 1) := by decide +kernel
theorem dX4_firstFault_41 : decode cX4_firstFault 41 = .ok (.irem, 1) := by decide +kernel
theorem dX4_firstFault_42 : decode cX4_firstFault 42 = .ok (.ifCond .ne 7, 3) := by decide +kernel
theorem dX4_firstFault_45 : decode cX4_firstFault 45 = .ok (.iconst 1, 1) := by decide +kernel
theorem dX4_firstFault_46 : decode cX4_firstFault 46 = .ok (.goto 4, 3) := by decide +kernel
theorem dX4_firstFault_49 : decode cX4_firstFault 49 = .ok (.iconst 0, 1) := by decide +kernel
theorem dX4_firstFault_50 : decode cX4_firstFault 50 = .ok (.istore_n 1, 1) := by decide +kernel
theorem dX4_firstFault_51 : decode cX4_firstFault 51 = .ok (.iload_n 1, 1) := by decide +kernel
theorem dX4_firstFault_52 : decode cX4_firstFault 52 = .ok (.ifCond .eq 7, 3) := by decide +kernel
theorem dX4_firstFault_55 : decode cX4_firstFault 55 = .ok (.iconst (-1), 1) := by decide +kernel
theorem dX4_firstFault_56 : decode cX4_firstFault 56 = .ok (.goto 7, 3) := by decide +kernel
theorem dX4_firstFault_59 : decode cX4_firstFault 59 = .ok (.aload_n 0, 1) := by decide +kernel
theorem dX4_firstFault_60 : decode cX4_firstFault 60 = .ok (.getfield 15, 3) := by decide +kernel
theorem dX4_firstFault_63 : decode cX4_firstFault 63 = .ok (.ireturn, 1) := by decide +kernel
theorem dX4_goesOn_0 : decode cX4_goesOn 0 = .ok (.aload_n 0, 1) := by decide +kernel
theorem dX4_goesOn_1 : decode cX4_goesOn 1 = .ok (.getfield 9, 3) := by decide +kernel
theorem dX4_goesOn_4 : decode cX4_goesOn 4 = .ok (.iload_n 1, 1) := by decide +kernel
theorem dX4_goesOn_5 : decode cX4_goesOn 5 = .ok (.iaload, 1) := by decide +kernel
theorem dX4_goesOn_6 : decode cX4_goesOn 6 = .ok (.istore_n 2, 1) := by decide +kernel
theorem dX4_goesOn_7 : decode cX4_goesOn 7 = .ok (.iload_n 1, 1) := by decide +kernel
theorem dX4_goesOn_8 : decode cX4_goesOn 8 = .ok (.ifCond .ne 15, 3) := by decide +kernel
theorem dX4_goesOn_11 : decode cX4_goesOn 11 = .ok (.iload_n 2, 1) := by decide +kernel
theorem dX4_goesOn_12 : decode cX4_goesOn 12 = .ok (.bipush 105, 2) := by decide +kernel
theorem dX4_goesOn_14 : decode cX4_goesOn 14 = .ok (.if_icmp .ne 7, 3) := by decide +kernel
theorem dX4_goesOn_17 : decode cX4_goesOn 17 = .ok (.iconst 1, 1) := by decide +kernel
theorem dX4_goesOn_18 : decode cX4_goesOn 18 = .ok (.goto 4, 3) := by decide +kernel
theorem dX4_goesOn_21 : decode cX4_goesOn 21 = .ok (.iconst 0, 1) := by decide +kernel
theorem dX4_goesOn_22 : decode cX4_goesOn 22 = .ok (.ireturn, 1) := by decide +kernel
theorem dX4_goesOn_23 : decode cX4_goesOn 23 = .ok (.iload_n 1, 1) := by decide +kernel
theorem dX4_goesOn_24 : decode cX4_goesOn 24 = .ok (.iconst 1, 1) := by decide +kernel
theorem dX4_goesOn_25 : decode cX4_goesOn 25 = .ok (.if_icmp .ne 21, 3) := by decide +kernel
theorem dX4_goesOn_28 : decode cX4_goesOn 28 = .ok (.iload_n 2, 1) := by decide +kernel
theorem dX4_goesOn_29 : decode cX4_goesOn 29 = .ok (.bipush 50, 2) := by decide +kernel
theorem dX4_goesOn_31 : decode cX4_goesOn 31 = .ok (.if_icmp .lt 13, 3) := by decide +kernel
theorem dX4_goesOn_34 : decode cX4_goesOn 34 = .ok (.iload_n 2, 1) := by decide +kernel
theorem dX4_goesOn_35 : decode cX4_goesOn 35 = .ok (.bipush 53, 2) := by decide +kernel
theorem dX4_goesOn_37 : decode cX4_goesOn 37 = .ok (.if_icmp .gt 7, 3) := by decide +kernel
theorem dX4_goesOn_40 : decode cX4_goesOn 40 = .ok (.iconst 1, 1) := by decide +kernel
theorem dX4_goesOn_41 : decode cX4_goesOn 41 = .ok (.goto 4, 3) := by decide +kernel
theorem dX4_goesOn_44 : decode cX4_goesOn 44 = .ok (.iconst 0, 1) := by decide +kernel
theorem dX4_goesOn_45 : decode cX4_goesOn 45 = .ok (.ireturn, 1) := by decide +kernel
theorem dX4_goesOn_46 : decode cX4_goesOn 46 = .ok (.iload_n 1, 1) := by decide +kernel
theorem dX4_goesOn_47 : decode cX4_goesOn 47 = .ok (.iconst 2, 1) := by decide +kernel
theorem dX4_goesOn_48 : decode cX4_goesOn 48 = .ok (.isub, 1) := by decide +kernel
theorem dX4_goesOn_49 : decode cX4_goesOn 49 = .ok (.iconst 5, 1) := by decide +kernel
theorem dX4_goesOn_50 : decode cX4_goesOn 50 = .ok (.irem, 1) := by decide +kernel
theorem dX4_goesOn_51 : decode cX4_goesOn 51 = .ok (.tableswitch 135 0 3 #[29, 47, 71, 93], 29) := by decide +kernel
theorem dX4_goesOn_80 : decode cX4_goesOn 80 = .ok (.iload_n 2, 1) := by decide +kernel
theorem dX4_goesOn_81 : decode cX4_goesOn 81 = .ok (.bipush 59, 2) := by decide +kernel
theorem dX4_goesOn_83 : decode cX4_goesOn 83 = .ok (.if_icmp .ne 13, 3) := by decide +kernel
theorem dX4_goesOn_86 : decode cX4_goesOn 86 = .ok (.iload_n 1, 1) := by decide +kernel
theorem dX4_goesOn_87 : decode cX4_goesOn 87 = .ok (.bipush 52, 2) := by decide +kernel
theorem dX4_goesOn_89 : decode cX4_goesOn 89 = .ok (.if_icmp .ge 7, 3) := by decide +kernel
theorem dX4_goesOn_92 : decode cX4_goesOn 92 = .ok (.iconst 1, 1) := by decide +kernel
theorem dX4_goesOn_93 : decode cX4_goesOn 93 = .ok (.goto 4, 3) := by decide +kernel
theorem dX4_goesOn_96 : decode cX4_goesOn 96 = .ok (.iconst 0, 1) := by decide +kernel
theorem dX4_goesOn_97 : decode cX4_goesOn 97 = .ok (.ireturn, 1) := by decide +kernel
theorem dX4_goesOn_98 : decode cX4_goesOn 98 = .ok (.iload_n 2, 1) := by decide +kernel
theorem dX4_goesOn_99 : decode cX4_goesOn 99 = .ok (.bipush 116, 2) := by decide +kernel
theorem dX4_goesOn_101 : decode cX4_goesOn 101 = .ok (.if_icmp .eq 15, 3) := by decide +kernel
theorem dX4_goesOn_104 : decode cX4_goesOn 104 = .ok (.iload_n 2, 1) := by decide +kernel
theorem dX4_goesOn_105 : decode cX4_goesOn 105 = .ok (.bipush 103, 2) := by decide +kernel
theorem dX4_goesOn_107 : decode cX4_goesOn 107 = .ok (.if_icmp .eq 9, 3) := by decide +kernel
theorem dX4_goesOn_110 : decode cX4_goesOn 110 = .ok (.iload_n 2, 1) := by decide +kernel
theorem dX4_goesOn_111 : decode cX4_goesOn 111 = .ok (.bipush 119, 2) := by decide +kernel
theorem dX4_goesOn_113 : decode cX4_goesOn 113 = .ok (.if_icmp .ne 7, 3) := by decide +kernel
theorem dX4_goesOn_116 : decode cX4_goesOn 116 = .ok (.iconst 1, 1) := by decide +kernel
theorem dX4_goesOn_117 : decode cX4_goesOn 117 = .ok (.goto 4, 3) := by decide +kernel
theorem dX4_goesOn_120 : decode cX4_goesOn 120 = .ok (.iconst 0, 1) := by decide +kernel
theorem dX4_goesOn_121 : decode cX4_goesOn 121 = .ok (.ireturn, 1) := by decide +kernel
theorem dX4_goesOn_122 : decode cX4_goesOn 122 = .ok (.iload_n 2, 1) := by decide +kernel
theorem dX4_goesOn_123 : decode cX4_goesOn 123 = .ok (.bipush 48, 2) := by decide +kernel
theorem dX4_goesOn_125 : decode cX4_goesOn 125 = .ok (.if_icmp .lt 17, 3) := by decide +kernel
theorem dX4_goesOn_128 : decode cX4_goesOn 128 = .ok (.iload_n 2, 1) := by decide +kernel
theorem dX4_goesOn_129 : decode cX4_goesOn 129 = .ok (.aload_n 0, 1) := by decide +kernel
theorem dX4_goesOn_130 : decode cX4_goesOn 130 = .ok (.getfield 9, 3) := by decide +kernel
theorem dX4_goesOn_133 : decode cX4_goesOn 133 = .ok (.iconst 1, 1) := by decide +kernel
theorem dX4_goesOn_134 : decode cX4_goesOn 134 = .ok (.iaload, 1) := by decide +kernel
theorem dX4_goesOn_135 : decode cX4_goesOn 135 = .ok (.if_icmp .ge 7, 3) := by decide +kernel
theorem dX4_goesOn_138 : decode cX4_goesOn 138 = .ok (.iconst 1, 1) := by decide +kernel
theorem dX4_goesOn_139 : decode cX4_goesOn 139 = .ok (.goto 4, 3) := by decide +kernel
theorem dX4_goesOn_142 : decode cX4_goesOn 142 = .ok (.iconst 0, 1) := by decide +kernel
theorem dX4_goesOn_143 : decode cX4_goesOn 143 = .ok (.ireturn, 1) := by decide +kernel
theorem dX4_goesOn_144 : decode cX4_goesOn 144 = .ok (.iload_n 2, 1) := by decide +kernel
theorem dX4_goesOn_145 : decode cX4_goesOn 145 = .ok (.invokestatic 23, 3) := by decide +kernel
theorem dX4_goesOn_148 : decode cX4_goesOn 148 = .ok (.ifCond .eq 36, 3) := by decide +kernel
theorem dX4_goesOn_151 : decode cX4_goesOn 151 = .ok (.iload_n 2, 1) := by decide +kernel
theorem dX4_goesOn_152 : decode cX4_goesOn 152 = .ok (.bipush 48, 2) := by decide +kernel
theorem dX4_goesOn_154 : decode cX4_goesOn 154 = .ok (.if_icmp .ne 26, 3) := by decide +kernel
theorem dX4_goesOn_157 : decode cX4_goesOn 157 = .ok (.iload_n 1, 1) := by decide +kernel
theorem dX4_goesOn_158 : decode cX4_goesOn 158 = .ok (.iconst 1, 1) := by decide +kernel
theorem dX4_goesOn_159 : decode cX4_goesOn 159 = .ok (.iadd, 1) := by decide +kernel
theorem dX4_goesOn_160 : decode cX4_goesOn 160 = .ok (.aload_n 0, 1) := by decide +kernel
theorem dX4_goesOn_161 : decode cX4_goesOn 161 = .ok (.getfield 15, 3) := by decide +kernel
theorem dX4_goesOn_164 : decode cX4_goesOn 164 = .ok (.if_icmp .ge 16, 3) := by decide +kernel
theorem dX4_goesOn_167 : decode cX4_goesOn 167 = .ok (.aload_n 0, 1) := by decide +kernel
theorem dX4_goesOn_168 : decode cX4_goesOn 168 = .ok (.getfield 9, 3) := by decide +kernel
theorem dX4_goesOn_171 : decode cX4_goesOn 171 = .ok (.iload_n 1, 1) := by decide +kernel
theorem dX4_goesOn_172 : decode cX4_goesOn 172 = .ok (.iconst 1, 1) := by decide +kernel
theorem dX4_goesOn_173 : decode cX4_goesOn 173 = .ok (.iadd, 1) := by decide +kernel
theorem dX4_goesOn_174 : decode cX4_goesOn 174 = .ok (.iaload, 1) := by decide +kernel
theorem dX4_goesOn_175 : decode cX4_goesOn 175 = .ok (.bipush 48, 2) := by decide +kernel
theorem dX4_goesOn_177 : decode cX4_goesOn 177 = .ok (.if_icmp .eq 7, 3) := by decide +kernel
theorem dX4_goesOn_180 : decode cX4_goesOn 180 = .ok (.iconst 1, 1) := by decide +kernel
theorem dX4_goesOn_181 : decode cX4_goesOn 181 = .ok (.goto 4, 3) := by decide +kernel
theorem dX4_goesOn_184 : decode cX4_goesOn 184 = .ok (.iconst 0, 1) := by decide +kernel
theorem dX4_goesOn_185 : decode cX4_goesOn 185 = .ok (.ireturn, 1) := by decide +kernel
theorem dX4_goesOn_186 : decode cX4_goesOn 186 = .ok (.iload_n 2, 1) := by decide +kernel
theorem dX4_goesOn_187 : decode cX4_goesOn 187 = .ok (.invokestatic 23, 3) := by decide +kernel
theorem dX4_goesOn_190 : decode cX4_goesOn 190 = .ok (.ireturn, 1) := by decide +kernel
theorem dX4_isDigit_0 : decode cX4_isDigit 0 = .ok (.iload_n 0, 1) := by decide +kernel
theorem dX4_isDigit_1 : decode cX4_isDigit 1 = .ok (.bipush 48, 2) := by decide +kernel
theorem dX4_isDigit_3 : decode cX4_isDigit 3 = .ok (.if_icmp .lt 13, 3) := by decide +kernel
theorem dX4_isDigit_6 : decode cX4_isDigit 6 = .ok (.iload_n 0, 1) := by decide +kernel
theorem dX4_isDigit_7 : decode cX4_isDigit 7 = .ok (.bipush 57, 2) := by decide +kernel
theorem dX4_isDigit_9 : decode cX4_isDigit 9 = .ok (.if_icmp .gt 7, 3) := by decide +kernel
theorem dX4_isDigit_12 : decode cX4_isDigit 12 = .ok (.iconst 1, 1) := by decide +kernel
theorem dX4_isDigit_13 : decode cX4_isDigit 13 = .ok (.goto 4, 3) := by decide +kernel
theorem dX4_isDigit_16 : decode cX4_isDigit 16 = .ok (.iconst 0, 1) := by decide +kernel
theorem dX4_isDigit_17 : decode cX4_isDigit 17 = .ok (.ireturn, 1) := by decide +kernel
theorem dX4_guests_0 : decode cX4_guests 0 = .ok (.aload_n 0, 1) := by decide +kernel
theorem dX4_guests_1 : decode cX4_guests 1 = .ok (.getfield 9, 3) := by decide +kernel
theorem dX4_guests_4 : decode cX4_guests 4 = .ok (.iconst 1, 1) := by decide +kernel
theorem dX4_guests_5 : decode cX4_guests 5 = .ok (.iaload, 1) := by decide +kernel
theorem dX4_guests_6 : decode cX4_guests 6 = .ok (.bipush 48, 2) := by decide +kernel
theorem dX4_guests_8 : decode cX4_guests 8 = .ok (.isub, 1) := by decide +kernel
theorem dX4_guests_9 : decode cX4_guests 9 = .ok (.ireturn, 1) := by decide +kernel
theorem dX4_tales_0 : decode cX4_tales 0 = .ok (.aload_n 0, 1) := by decide +kernel
theorem dX4_tales_1 : decode cX4_tales 1 = .ok (.getfield 15, 3) := by decide +kernel
theorem dX4_tales_4 : decode cX4_tales 4 = .ok (.iconst 2, 1) := by decide +kernel
theorem dX4_tales_5 : decode cX4_tales 5 = .ok (.isub, 1) := by decide +kernel
theorem dX4_tales_6 : decode cX4_tales 6 = .ok (.iconst 5, 1) := by decide +kernel
theorem dX4_tales_7 : decode cX4_tales 7 = .ok (.idiv, 1) := by decide +kernel
theorem dX4_tales_8 : decode cX4_tales 8 = .ok (.ireturn, 1) := by decide +kernel
theorem dX4_kindOf_0 : decode cX4_kindOf 0 = .ok (.aload_n 0, 1) := by decide +kernel
theorem dX4_kindOf_1 : decode cX4_kindOf 1 = .ok (.getfield 9, 3) := by decide +kernel
theorem dX4_kindOf_4 : decode cX4_kindOf 4 = .ok (.iconst 2, 1) := by decide +kernel
theorem dX4_kindOf_5 : decode cX4_kindOf 5 = .ok (.iload_n 1, 1) := by decide +kernel
theorem dX4_kindOf_6 : decode cX4_kindOf 6 = .ok (.iconst 5, 1) := by decide +kernel
theorem dX4_kindOf_7 : decode cX4_kindOf 7 = .ok (.imul, 1) := by decide +kernel
theorem dX4_kindOf_8 : decode cX4_kindOf 8 = .ok (.iadd, 1) := by decide +kernel
theorem dX4_kindOf_9 : decode cX4_kindOf 9 = .ok (.iconst 1, 1) := by decide +kernel
theorem dX4_kindOf_10 : decode cX4_kindOf 10 = .ok (.iadd, 1) := by decide +kernel
theorem dX4_kindOf_11 : decode cX4_kindOf 11 = .ok (.iaload, 1) := by decide +kernel
theorem dX4_kindOf_12 : decode cX4_kindOf 12 = .ok (.istore_n 2, 1) := by decide +kernel
theorem dX4_kindOf_13 : decode cX4_kindOf 13 = .ok (.iload_n 2, 1) := by decide +kernel
theorem dX4_kindOf_14 : decode cX4_kindOf 14 = .ok (.bipush 119, 2) := by decide +kernel
theorem dX4_kindOf_16 : decode cX4_kindOf 16 = .ok (.if_icmp .ne 7, 3) := by decide +kernel
theorem dX4_kindOf_19 : decode cX4_kindOf 19 = .ok (.iconst 2, 1) := by decide +kernel
theorem dX4_kindOf_20 : decode cX4_kindOf 20 = .ok (.goto 14, 3) := by decide +kernel
theorem dX4_kindOf_23 : decode cX4_kindOf 23 = .ok (.iload_n 2, 1) := by decide +kernel
theorem dX4_kindOf_24 : decode cX4_kindOf 24 = .ok (.bipush 103, 2) := by decide +kernel
theorem dX4_kindOf_26 : decode cX4_kindOf 26 = .ok (.if_icmp .ne 7, 3) := by decide +kernel
theorem dX4_kindOf_29 : decode cX4_kindOf 29 = .ok (.iconst 1, 1) := by decide +kernel
theorem dX4_kindOf_30 : decode cX4_kindOf 30 = .ok (.goto 4, 3) := by decide +kernel
theorem dX4_kindOf_33 : decode cX4_kindOf 33 = .ok (.iconst 0, 1) := by decide +kernel
theorem dX4_kindOf_34 : decode cX4_kindOf 34 = .ok (.ireturn, 1) := by decide +kernel
theorem dX4_ownerOf_0 : decode cX4_ownerOf 0 = .ok (.aload_n 0, 1) := by decide +kernel
theorem dX4_ownerOf_1 : decode cX4_ownerOf 1 = .ok (.getfield 9, 3) := by decide +kernel
theorem dX4_ownerOf_4 : decode cX4_ownerOf 4 = .ok (.iconst 2, 1) := by decide +kernel
theorem dX4_ownerOf_5 : decode cX4_ownerOf 5 = .ok (.iload_n 1, 1) := by decide +kernel
theorem dX4_ownerOf_6 : decode cX4_ownerOf 6 = .ok (.iconst 5, 1) := by decide +kernel
theorem dX4_ownerOf_7 : decode cX4_ownerOf 7 = .ok (.imul, 1) := by decide +kernel
theorem dX4_ownerOf_8 : decode cX4_ownerOf 8 = .ok (.iadd, 1) := by decide +kernel
theorem dX4_ownerOf_9 : decode cX4_ownerOf 9 = .ok (.iconst 2, 1) := by decide +kernel
theorem dX4_ownerOf_10 : decode cX4_ownerOf 10 = .ok (.iadd, 1) := by decide +kernel
theorem dX4_ownerOf_11 : decode cX4_ownerOf 11 = .ok (.iaload, 1) := by decide +kernel
theorem dX4_ownerOf_12 : decode cX4_ownerOf 12 = .ok (.bipush 48, 2) := by decide +kernel
theorem dX4_ownerOf_14 : decode cX4_ownerOf 14 = .ok (.isub, 1) := by decide +kernel
theorem dX4_ownerOf_15 : decode cX4_ownerOf 15 = .ok (.ireturn, 1) := by decide +kernel
theorem dX4_heightOf_0 : decode cX4_heightOf 0 = .ok (.iconst 2, 1) := by decide +kernel
theorem dX4_heightOf_1 : decode cX4_heightOf 1 = .ok (.iload_n 1, 1) := by decide +kernel
theorem dX4_heightOf_2 : decode cX4_heightOf 2 = .ok (.iconst 5, 1) := by decide +kernel
theorem dX4_heightOf_3 : decode cX4_heightOf 3 = .ok (.imul, 1) := by decide +kernel
theorem dX4_heightOf_4 : decode cX4_heightOf 4 = .ok (.iadd, 1) := by decide +kernel
theorem dX4_heightOf_5 : decode cX4_heightOf 5 = .ok (.iconst 3, 1) := by decide +kernel
theorem dX4_heightOf_6 : decode cX4_heightOf 6 = .ok (.iadd, 1) := by decide +kernel
theorem dX4_heightOf_7 : decode cX4_heightOf 7 = .ok (.istore_n 2, 1) := by decide +kernel
theorem dX4_heightOf_8 : decode cX4_heightOf 8 = .ok (.aload_n 0, 1) := by decide +kernel
theorem dX4_heightOf_9 : decode cX4_heightOf 9 = .ok (.getfield 9, 3) := by decide +kernel
theorem dX4_heightOf_12 : decode cX4_heightOf 12 = .ok (.iload_n 2, 1) := by decide +kernel
theorem dX4_heightOf_13 : decode cX4_heightOf 13 = .ok (.iaload, 1) := by decide +kernel
theorem dX4_heightOf_14 : decode cX4_heightOf 14 = .ok (.bipush 48, 2) := by decide +kernel
theorem dX4_heightOf_16 : decode cX4_heightOf 16 = .ok (.isub, 1) := by decide +kernel
theorem dX4_heightOf_17 : decode cX4_heightOf 17 = .ok (.bipush 10, 2) := by decide +kernel
theorem dX4_heightOf_19 : decode cX4_heightOf 19 = .ok (.imul, 1) := by decide +kernel
theorem dX4_heightOf_20 : decode cX4_heightOf 20 = .ok (.aload_n 0, 1) := by decide +kernel
theorem dX4_heightOf_21 : decode cX4_heightOf 21 = .ok (.getfield 9, 3) := by decide +kernel
theorem dX4_heightOf_24 : decode cX4_heightOf 24 = .ok (.iload_n 2, 1) := by decide +kernel
theorem dX4_heightOf_25 : decode cX4_heightOf 25 = .ok (.iconst 1, 1) := by decide +kernel
theorem dX4_heightOf_26 : decode cX4_heightOf 26 = .ok (.iadd, 1) := by decide +kernel
theorem dX4_heightOf_27 : decode cX4_heightOf 27 = .ok (.iaload, 1) := by decide +kernel
theorem dX4_heightOf_28 : decode cX4_heightOf 28 = .ok (.iadd, 1) := by decide +kernel
theorem dX4_heightOf_29 : decode cX4_heightOf 29 = .ok (.bipush 48, 2) := by decide +kernel
theorem dX4_heightOf_31 : decode cX4_heightOf 31 = .ok (.isub, 1) := by decide +kernel
theorem dX4_heightOf_32 : decode cX4_heightOf 32 = .ok (.ireturn, 1) := by decide +kernel
theorem dX5_init_0 : decode cX5_init 0 = .ok (.aload_n 0, 1) := by decide +kernel
theorem dX5_init_1 : decode cX5_init 1 = .ok (.invokespecial 3, 3) := by decide +kernel
theorem dX5_init_4 : decode cX5_init 4 = .ok (.aload_n 0, 1) := by decide +kernel
theorem dX5_init_5 : decode cX5_init 5 = .ok (.bipush 6, 2) := by decide +kernel
theorem dX5_init_7 : decode cX5_init 7 = .ok (.newarray .int, 2) := by decide +kernel
theorem dX5_init_9 : decode cX5_init 9 = .ok (.putfield 9, 3) := by decide +kernel
theorem dX5_init_12 : decode cX5_init 12 = .ok (.aload_n 0, 1) := by decide +kernel
theorem dX5_init_13 : decode cX5_init 13 = .ok (.bipush 7, 2) := by decide +kernel
theorem dX5_init_15 : decode cX5_init 15 = .ok (.newarray .int, 2) := by decide +kernel
theorem dX5_init_17 : decode cX5_init 17 = .ok (.putfield 15, 3) := by decide +kernel
theorem dX5_init_20 : decode cX5_init 20 = .ok (.aload_n 0, 1) := by decide +kernel
theorem dX5_init_21 : decode cX5_init 21 = .ok (.bipush 10, 2) := by decide +kernel
theorem dX5_init_23 : decode cX5_init 23 = .ok (.newarray .int, 2) := by decide +kernel
theorem dX5_init_25 : decode cX5_init 25 = .ok (.putfield 18, 3) := by decide +kernel
theorem dX5_init_28 : decode cX5_init 28 = .ok (.aload_n 0, 1) := by decide +kernel
theorem dX5_init_29 : decode cX5_init 29 = .ok (.bipush 10, 2) := by decide +kernel
theorem dX5_init_31 : decode cX5_init 31 = .ok (.newarray .int, 2) := by decide +kernel
theorem dX5_init_33 : decode cX5_init 33 = .ok (.putfield 21, 3) := by decide +kernel
theorem dX5_init_36 : decode cX5_init 36 = .ok (.aload_n 0, 1) := by decide +kernel
theorem dX5_init_37 : decode cX5_init 37 = .ok (.bipush 6, 2) := by decide +kernel
theorem dX5_init_39 : decode cX5_init 39 = .ok (.newarray .int, 2) := by decide +kernel
theorem dX5_init_41 : decode cX5_init 41 = .ok (.putfield 24, 3) := by decide +kernel
theorem dX5_init_44 : decode cX5_init 44 = .ok (.aload_n 0, 1) := by decide +kernel
theorem dX5_init_45 : decode cX5_init 45 = .ok (.bipush 6, 2) := by decide +kernel
theorem dX5_init_47 : decode cX5_init 47 = .ok (.newarray .int, 2) := by decide +kernel
theorem dX5_init_49 : decode cX5_init 49 = .ok (.putfield 27, 3) := by decide +kernel
theorem dX5_init_52 : decode cX5_init 52 = .ok (.aload_n 0, 1) := by decide +kernel
theorem dX5_init_53 : decode cX5_init 53 = .ok (.aload_n 1, 1) := by decide +kernel
theorem dX5_init_54 : decode cX5_init 54 = .ok (.putfield 30, 3) := by decide +kernel
theorem dX5_init_57 : decode cX5_init 57 = .ok (.return_, 1) := by decide +kernel
theorem dX6_init_0 : decode cX6_init 0 = .ok (.aload_n 0, 1) := by decide +kernel
theorem dX6_init_1 : decode cX6_init 1 = .ok (.invokespecial 3, 3) := by decide +kernel
theorem dX6_init_4 : decode cX6_init 4 = .ok (.aload_n 0, 1) := by decide +kernel
theorem dX6_init_5 : decode cX6_init 5 = .ok (.new 9, 3) := by decide +kernel
theorem dX6_init_8 : decode cX6_init 8 = .ok (.dup, 1) := by decide +kernel
theorem dX6_init_9 : decode cX6_init 9 = .ok (.invokespecial 11, 3) := by decide +kernel
theorem dX6_init_12 : decode cX6_init 12 = .ok (.putfield 12, 3) := by decide +kernel
theorem dX6_init_15 : decode cX6_init 15 = .ok (.aload_n 0, 1) := by decide +kernel
theorem dX6_init_16 : decode cX6_init 16 = .ok (.new 18, 3) := by decide +kernel
theorem dX6_init_19 : decode cX6_init 19 = .ok (.dup, 1) := by decide +kernel
theorem dX6_init_20 : decode cX6_init 20 = .ok (.invokespecial 20, 3) := by decide +kernel
theorem dX6_init_23 : decode cX6_init 23 = .ok (.putfield 21, 3) := by decide +kernel
theorem dX6_init_26 : decode cX6_init 26 = .ok (.aload_n 0, 1) := by decide +kernel
theorem dX6_init_27 : decode cX6_init 27 = .ok (.new 25, 3) := by decide +kernel
theorem dX6_init_30 : decode cX6_init 30 = .ok (.dup, 1) := by decide +kernel
theorem dX6_init_31 : decode cX6_init 31 = .ok (.invokespecial 27, 3) := by decide +kernel
theorem dX6_init_34 : decode cX6_init 34 = .ok (.putfield 28, 3) := by decide +kernel
theorem dX6_init_37 : decode cX6_init 37 = .ok (.aload_n 0, 1) := by decide +kernel
theorem dX6_init_38 : decode cX6_init 38 = .ok (.new 32, 3) := by decide +kernel
theorem dX6_init_41 : decode cX6_init 41 = .ok (.dup, 1) := by decide +kernel
theorem dX6_init_42 : decode cX6_init 42 = .ok (.invokespecial 34, 3) := by decide +kernel
theorem dX6_init_45 : decode cX6_init 45 = .ok (.putfield 35, 3) := by decide +kernel
theorem dX6_init_48 : decode cX6_init 48 = .ok (.aload_n 0, 1) := by decide +kernel
theorem dX6_init_49 : decode cX6_init 49 = .ok (.new 39, 3) := by decide +kernel
theorem dX6_init_52 : decode cX6_init 52 = .ok (.dup, 1) := by decide +kernel
theorem dX6_init_53 : decode cX6_init 53 = .ok (.aload_n 0, 1) := by decide +kernel
theorem dX6_init_54 : decode cX6_init 54 = .ok (.getfield 28, 3) := by decide +kernel
theorem dX6_init_57 : decode cX6_init 57 = .ok (.aload_n 0, 1) := by decide +kernel
theorem dX6_init_58 : decode cX6_init 58 = .ok (.getfield 35, 3) := by decide +kernel
theorem dX6_init_61 : decode cX6_init 61 = .ok (.invokespecial 41, 3) := by decide +kernel
theorem dX6_init_64 : decode cX6_init 64 = .ok (.putfield 44, 3) := by decide +kernel
theorem dX6_init_67 : decode cX6_init 67 = .ok (.aload_n 0, 1) := by decide +kernel
theorem dX6_init_68 : decode cX6_init 68 = .ok (.new 48, 3) := by decide +kernel
theorem dX6_init_71 : decode cX6_init 71 = .ok (.dup, 1) := by decide +kernel
theorem dX6_init_72 : decode cX6_init 72 = .ok (.aload_n 0, 1) := by decide +kernel
theorem dX6_init_73 : decode cX6_init 73 = .ok (.getfield 28, 3) := by decide +kernel
theorem dX6_init_76 : decode cX6_init 76 = .ok (.invokespecial 50, 3) := by decide +kernel
theorem dX6_init_79 : decode cX6_init 79 = .ok (.putfield 53, 3) := by decide +kernel
theorem dX6_init_82 : decode cX6_init 82 = .ok (.aload_n 0, 1) := by decide +kernel
theorem dX6_init_83 : decode cX6_init 83 = .ok (.iconst 5, 1) := by decide +kernel
theorem dX6_init_84 : decode cX6_init 84 = .ok (.newarray .int, 2) := by decide +kernel
theorem dX6_init_86 : decode cX6_init 86 = .ok (.putfield 57, 3) := by decide +kernel
theorem dX6_init_89 : decode cX6_init 89 = .ok (.return_, 1) := by decide +kernel
theorem dX6_inn_0 : decode cX6_inn 0 = .ok (.aload_n 0, 1) := by decide +kernel
theorem dX6_inn_1 : decode cX6_inn 1 = .ok (.iconst 0, 1) := by decide +kernel
theorem dX6_inn_2 : decode cX6_inn 2 = .ok (.putfield 61, 3) := by decide +kernel
theorem dX6_inn_5 : decode cX6_inn 5 = .ok (.iload_n 1, 1) := by decide +kernel
theorem dX6_inn_6 : decode cX6_inn 6 = .ok (.invokestatic 65, 3) := by decide +kernel
theorem dX6_inn_9 : decode cX6_inn 9 = .ok (.ifCond .ne 5, 3) := by decide +kernel
theorem dX6_inn_12 : decode cX6_inn 12 = .ok (.iconst (-1), 1) := by decide +kernel
theorem dX6_inn_13 : decode cX6_inn 13 = .ok (.ireturn, 1) := by decide +kernel
theorem dX6_inn_14 : decode cX6_inn 14 = .ok (.iload_n 2, 1) := by decide +kernel
theorem dX6_inn_15 : decode cX6_inn 15 = .ok (.invokestatic 69, 3) := by decide +kernel
theorem dX6_inn_18 : decode cX6_inn 18 = .ok (.ifCond .ne 6, 3) := by decide +kernel
theorem dX6_inn_21 : decode cX6_inn 21 = .ok (.bipush (-2), 2) := by decide +kernel
theorem dX6_inn_23 : decode cX6_inn 23 = .ok (.ireturn, 1) := by decide +kernel
theorem dX6_inn_24 : decode cX6_inn 24 = .ok (.aload_n 0, 1) := by decide +kernel
theorem dX6_inn_25 : decode cX6_inn 25 = .ok (.getfield 12, 3) := by decide +kernel
theorem dX6_inn_28 : decode cX6_inn 28 = .ok (.iload_n 1, 1) := by decide +kernel
theorem dX6_inn_29 : decode cX6_inn 29 = .ok (.iload_n 2, 1) := by decide +kernel
theorem dX6_inn_30 : decode cX6_inn 30 = .ok (.iload_n 3, 1) := by decide +kernel
theorem dX6_inn_31 : decode cX6_inn 31 = .ok (.iload 4, 2) := by decide +kernel
theorem dX6_inn_33 : decode cX6_inn 33 = .ok (.invokevirtual 72, 3) := by decide +kernel
theorem dX6_inn_36 : decode cX6_inn 36 = .ok (.istore 5, 2) := by decide +kernel
theorem dX6_inn_38 : decode cX6_inn 38 = .ok (.iload 5, 2) := by decide +kernel
theorem dX6_inn_40 : decode cX6_inn 40 = .ok (.ifCond .eq 10, 3) := by decide +kernel
theorem dX6_inn_43 : decode cX6_inn 43 = .ok (.aload_n 0, 1) := by decide +kernel
theorem dX6_inn_44 : decode cX6_inn 44 = .ok (.iload 5, 2) := by decide +kernel
theorem dX6_inn_46 : decode cX6_inn 46 = .ok (.invokevirtual 76, 3) := by decide +kernel
theorem dX6_inn_49 : decode cX6_inn 49 = .ok (.ireturn, 1) := by decide +kernel
theorem dX6_inn_50 : decode cX6_inn 50 = .ok (.aload_n 0, 1) := by decide +kernel
theorem dX6_inn_51 : decode cX6_inn 51 = .ok (.getfield 21, 3) := by decide +kernel
theorem dX6_inn_54 : decode cX6_inn 54 = .ok (.iload 4, 2) := by decide +kernel
theorem dX6_inn_56 : decode cX6_inn 56 = .ok (.putfield 80, 3) := by decide +kernel
theorem dX6_inn_59 : decode cX6_inn 59 = .ok (.aload_n 0, 1) := by decide +kernel
theorem dX6_inn_60 : decode cX6_inn 60 = .ok (.getfield 12, 3) := by decide +kernel
theorem dX6_inn_63 : decode cX6_inn 63 = .ok (.iload_n 1, 1) := by decide +kernel
theorem dX6_inn_64 : decode cX6_inn 64 = .ok (.iload_n 3, 1) := by decide +kernel
theorem dX6_inn_65 : decode cX6_inn 65 = .ok (.iload 4, 2) := by decide +kernel
theorem dX6_inn_67 : decode cX6_inn 67 = .ok (.aload_n 0, 1) := by decide +kernel
theorem dX6_inn_68 : decode cX6_inn 68 = .ok (.getfield 21, 3) := by decide +kernel
theorem dX6_inn_71 : decode cX6_inn 71 = .ok (.getfield 83, 3) := by decide +kernel
theorem dX6_inn_74 : decode cX6_inn 74 = .ok (.invokevirtual 86, 3) := by decide +kernel
theorem dX6_inn_77 : decode cX6_inn 77 = .ok (.aload_n 0, 1) := by decide +kernel
theorem dX6_inn_78 : decode cX6_inn 78 = .ok (.getfield 21, 3) := by decide +kernel
theorem dX6_inn_81 : decode cX6_inn 81 = .ok (.invokevirtual 90, 3) := by decide +kernel
theorem dX6_inn_84 : decode cX6_inn 84 = .ok (.istore 6, 2) := by decide +kernel
theorem dX6_inn_86 : decode cX6_inn 86 = .ok (.iload 6, 2) := by decide +kernel
theorem dX6_inn_88 : decode cX6_inn 88 = .ok (.iconst (-1), 1) := by decide +kernel
theorem dX6_inn_89 : decode cX6_inn 89 = .ok (.if_icmp .eq 9, 3) := by decide +kernel
theorem dX6_inn_92 : decode cX6_inn 92 = .ok (.bipush (-100), 2) := by decide +kernel
theorem dX6_inn_94 : decode cX6_inn 94 = .ok (.iload 6, 2) := by decide +kernel
theorem dX6_inn_96 : decode cX6_inn 96 = .ok (.isub, 1) := by decide +kernel
theorem dX6_inn_97 : decode cX6_inn 97 = .ok (.ireturn, 1) := by decide +kernel
theorem dX6_inn_98 : decode cX6_inn 98 = .ok (.aload_n 0, 1) := by decide +kernel
theorem dX6_inn_99 : decode cX6_inn 99 = .ok (.getfield 28, 3) := by decide +kernel
theorem dX6_inn_102 : decode cX6_inn 102 = .ok (.aload_n 0, 1) := by decide +kernel
theorem dX6_inn_103 : decode cX6_inn 103 = .ok (.getfield 21, 3) := by decide +kernel
theorem dX6_inn_106 : decode cX6_inn 106 = .ok (.invokevirtual 94, 3) := by decide +kernel
theorem dX6_inn_109 : decode cX6_inn 109 = .ok (.aload_n 0, 1) := by decide +kernel
theorem dX6_inn_110 : decode cX6_inn 110 = .ok (.getfield 28, 3) := by decide +kernel
theorem dX6_inn_113 : decode cX6_inn 113 = .ok (.getfield 98, 3) := by decide +kernel
theorem dX6_inn_116 : decode cX6_inn 116 = .ok (.ireturn, 1) := by decide +kernel
theorem dX6_ofTale_0 : decode cX6_ofTale 0 = .ok (.aload_n 0, 1) := by decide +kernel
theorem dX6_ofTale_1 : decode cX6_ofTale 1 = .ok (.getfield 28, 3) := by decide +kernel
theorem dX6_ofTale_4 : decode cX6_ofTale 4 = .ok (.iload_n 1, 1) := by decide +kernel
theorem dX6_ofTale_5 : decode cX6_ofTale 5 = .ok (.invokevirtual 101, 3) := by decide +kernel
theorem dX6_ofTale_8 : decode cX6_ofTale 8 = .ok (.ifCond .ne 5, 3) := by decide +kernel
theorem dX6_ofTale_11 : decode cX6_ofTale 11 = .ok (.iconst (-1), 1) := by decide +kernel
theorem dX6_ofTale_12 : decode cX6_ofTale 12 = .ok (.ireturn, 1) := by decide +kernel
theorem dX6_ofTale_13 : decode cX6_ofTale 13 = .ok (.iload_n 2, 1) := by decide +kernel
theorem dX6_ofTale_14 : decode cX6_ofTale 14 = .ok (.tableswitch 118 0 6 #[42, 52, 62, 72, 82, 92, 109], 42) := by decide +kernel
theorem dX6_ofTale_56 : decode cX6_ofTale 56 = .ok (.aload_n 0, 1) := by decide +kernel
theorem dX6_ofTale_57 : decode cX6_ofTale 57 = .ok (.getfield 28, 3) := by decide +kernel
theorem dX6_ofTale_60 : decode cX6_ofTale 60 = .ok (.getfield 104, 3) := by decide +kernel
theorem dX6_ofTale_63 : decode cX6_ofTale 63 = .ok (.iload_n 1, 1) := by decide +kernel
theorem dX6_ofTale_64 : decode cX6_ofTale 64 = .ok (.iaload, 1) := by decide +kernel
theorem dX6_ofTale_65 : decode cX6_ofTale 65 = .ok (.ireturn, 1) := by decide +kernel
theorem dX6_ofTale_66 : decode cX6_ofTale 66 = .ok (.aload_n 0, 1) := by decide +kernel
theorem dX6_ofTale_67 : decode cX6_ofTale 67 = .ok (.getfield 28, 3) := by decide +kernel
theorem dX6_ofTale_70 : decode cX6_ofTale 70 = .ok (.getfield 107, 3) := by decide +kernel
theorem dX6_ofTale_73 : decode cX6_ofTale 73 = .ok (.iload_n 1, 1) := by decide +kernel
theorem dX6_ofTale_74 : decode cX6_ofTale 74 = .ok (.iaload, 1) := by decide +kernel
theorem dX6_ofTale_75 : decode cX6_ofTale 75 = .ok (.ireturn, 1) := by decide +kernel
theorem dX6_ofTale_76 : decode cX6_ofTale 76 = .ok (.aload_n 0, 1) := by decide +kernel
theorem dX6_ofTale_77 : decode cX6_ofTale 77 = .ok (.getfield 28, 3) := by decide +kernel
theorem dX6_ofTale_80 : decode cX6_ofTale 80 = .ok (.getfield 110, 3) := by decide +kernel
theorem dX6_ofTale_83 : decode cX6_ofTale 83 = .ok (.iload_n 1, 1) := by decide +kernel
theorem dX6_ofTale_84 : decode cX6_ofTale 84 = .ok (.iaload, 1) := by decide +kernel
theorem dX6_ofTale_85 : decode cX6_ofTale 85 = .ok (.ireturn, 1) := by decide +kernel
theorem dX6_ofTale_86 : decode cX6_ofTale 86 = .ok (.aload_n 0, 1) := by decide +kernel
theorem dX6_ofTale_87 : decode cX6_ofTale 87 = .ok (.getfield 28, 3) := by decide +kernel
theorem dX6_ofTale_90 : decode cX6_ofTale 90 = .ok (.getfield 113, 3) := by decide +kernel
theorem dX6_ofTale_93 : decode cX6_ofTale 93 = .ok (.iload_n 1, 1) := by decide +kernel
theorem dX6_ofTale_94 : decode cX6_ofTale 94 = .ok (.iaload, 1) := by decide +kernel
theorem dX6_ofTale_95 : decode cX6_ofTale 95 = .ok (.ireturn, 1) := by decide +kernel
theorem dX6_ofTale_96 : decode cX6_ofTale 96 = .ok (.aload_n 0, 1) := by decide +kernel
theorem dX6_ofTale_97 : decode cX6_ofTale 97 = .ok (.getfield 28, 3) := by decide +kernel
theorem dX6_ofTale_100 : decode cX6_ofTale 100 = .ok (.getfield 116, 3) := by decide +kernel
theorem dX6_ofTale_103 : decode cX6_ofTale 103 = .ok (.iload_n 1, 1) := by decide +kernel
theorem dX6_ofTale_104 : decode cX6_ofTale 104 = .ok (.iaload, 1) := by decide +kernel
theorem dX6_ofTale_105 : decode cX6_ofTale 105 = .ok (.ireturn, 1) := by decide +kernel
theorem dX6_ofTale_106 : decode cX6_ofTale 106 = .ok (.aload_n 0, 1) := by decide +kernel
theorem dX6_ofTale_107 : decode cX6_ofTale 107 = .ok (.getfield 28, 3) := by decide +kernel
theorem dX6_ofTale_110 : decode cX6_ofTale 110 = .ok (.iload_n 1, 1) := by decide +kernel
theorem dX6_ofTale_111 : decode cX6_ofTale 111 = .ok (.invokevirtual 119, 3) := by decide +kernel
theorem dX6_ofTale_114 : decode cX6_ofTale 114 = .ok (.ifCond .eq 7, 3) := by decide +kernel
theorem dX6_ofTale_117 : decode cX6_ofTale 117 = .ok (.iconst 1, 1) := by decide +kernel
theorem dX6_ofTale_118 : decode cX6_ofTale 118 = .ok (.goto 4, 3) := by decide +kernel
theorem dX6_ofTale_121 : decode cX6_ofTale 121 = .ok (.iconst 0, 1) := by decide +kernel
theorem dX6_ofTale_122 : decode cX6_ofTale 122 = .ok (.ireturn, 1) := by decide +kernel
theorem dX6_ofTale_123 : decode cX6_ofTale 123 = .ok (.aload_n 0, 1) := by decide +kernel
theorem dX6_ofTale_124 : decode cX6_ofTale 124 = .ok (.getfield 28, 3) := by decide +kernel
theorem dX6_ofTale_127 : decode cX6_ofTale 127 = .ok (.iload_n 1, 1) := by decide +kernel
theorem dX6_ofTale_128 : decode cX6_ofTale 128 = .ok (.invokevirtual 122, 3) := by decide +kernel
theorem dX6_ofTale_131 : decode cX6_ofTale 131 = .ok (.ireturn, 1) := by decide +kernel
theorem dX6_ofTale_132 : decode cX6_ofTale 132 = .ok (.bipush (-2), 2) := by decide +kernel
theorem dX6_ofTale_134 : decode cX6_ofTale 134 = .ok (.ireturn, 1) := by decide +kernel
theorem dX6_memory_0 : decode cX6_memory 0 = .ok (.iload_n 1, 1) := by decide +kernel
theorem dX6_memory_1 : decode cX6_memory 1 = .ok (.ifCond .lt 9, 3) := by decide +kernel
theorem dX6_memory_4 : decode cX6_memory 4 = .ok (.iload_n 1, 1) := by decide +kernel
theorem dX6_memory_5 : decode cX6_memory 5 = .ok (.bipush 99, 2) := by decide +kernel
theorem dX6_memory_7 : decode cX6_memory 7 = .ok (.if_icmp .le 6, 3) := by decide +kernel
theorem dX6_memory_10 : decode cX6_memory 10 = .ok (.bipush (-2), 2) := by decide +kernel
theorem dX6_memory_12 : decode cX6_memory 12 = .ok (.ireturn, 1) := by decide +kernel
theorem dX6_memory_13 : decode cX6_memory 13 = .ok (.aload_n 0, 1) := by decide +kernel
theorem dX6_memory_14 : decode cX6_memory 14 = .ok (.getfield 28, 3) := by decide +kernel
theorem dX6_memory_17 : decode cX6_memory 17 = .ok (.invokevirtual 125, 3) := by decide +kernel
theorem dX6_memory_20 : decode cX6_memory 20 = .ok (.ifCond .ne 6, 3) := by decide +kernel
theorem dX6_memory_23 : decode cX6_memory 23 = .ok (.bipush (-3), 2) := by decide +kernel
theorem dX6_memory_25 : decode cX6_memory 25 = .ok (.ireturn, 1) := by decide +kernel
theorem dX6_memory_26 : decode cX6_memory 26 = .ok (.aload_n 0, 1) := by decide +kernel
theorem dX6_memory_27 : decode cX6_memory 27 = .ok (.getfield 28, 3) := by decide +kernel
theorem dX6_memory_30 : decode cX6_memory 30 = .ok (.getfield 129, 3) := by decide +kernel
theorem dX6_memory_33 : decode cX6_memory 33 = .ok (.istore_n 2, 1) := by decide +kernel
theorem dX6_memory_34 : decode cX6_memory 34 = .ok (.aload_n 0, 1) := by decide +kernel
theorem dX6_memory_35 : decode cX6_memory 35 = .ok (.getfield 28, 3) := by decide +kernel
theorem dX6_memory_38 : decode cX6_memory 38 = .ok (.iload_n 1, 1) := by decide +kernel
theorem dX6_memory_39 : decode cX6_memory 39 = .ok (.putfield 129, 3) := by decide +kernel
theorem dX6_memory_42 : decode cX6_memory 42 = .ok (.iload_n 2, 1) := by decide +kernel
theorem dX6_memory_43 : decode cX6_memory 43 = .ok (.ireturn, 1) := by decide +kernel
theorem dX6_choose_0 : decode cX6_choose 0 = .ok (.aload_n 0, 1) := by decide +kernel
theorem dX6_choose_1 : decode cX6_choose 1 = .ok (.getfield 28, 3) := by decide +kernel
theorem dX6_choose_4 : decode cX6_choose 4 = .ok (.iload_n 1, 1) := by decide +kernel
theorem dX6_choose_5 : decode cX6_choose 5 = .ok (.invokevirtual 132, 3) := by decide +kernel
theorem dX6_choose_8 : decode cX6_choose 8 = .ok (.ifCond .ne 5, 3) := by decide +kernel
theorem dX6_choose_11 : decode cX6_choose 11 = .ok (.iconst (-1), 1) := by decide +kernel
theorem dX6_choose_12 : decode cX6_choose 12 = .ok (.ireturn, 1) := by decide +kernel
theorem dX6_choose_13 : decode cX6_choose 13 = .ok (.iload_n 2, 1) := by decide +kernel
theorem dX6_choose_14 : decode cX6_choose 14 = .ok (.bipush (-9), 2) := by decide +kernel
theorem dX6_choose_16 : decode cX6_choose 16 = .ok (.if_icmp .eq 43, 3) := by decide +kernel
theorem dX6_choose_19 : decode cX6_choose 19 = .ok (.aload_n 0, 1) := by decide +kernel
theorem dX6_choose_20 : decode cX6_choose 20 = .ok (.getfield 28, 3) := by decide +kernel
theorem dX6_choose_23 : decode cX6_choose 23 = .ok (.iload_n 2, 1) := by decide +kernel
theorem dX6_choose_24 : decode cX6_choose 24 = .ok (.invokevirtual 101, 3) := by decide +kernel
theorem dX6_choose_27 : decode cX6_choose 27 = .ok (.ifCond .ne 5, 3) := by decide +kernel
theorem dX6_choose_30 : decode cX6_choose 30 = .ok (.iconst (-1), 1) := by decide +kernel
theorem dX6_choose_31 : decode cX6_choose 31 = .ok (.ireturn, 1) := by decide +kernel
theorem dX6_choose_32 : decode cX6_choose 32 = .ok (.aload_n 0, 1) := by decide +kernel
theorem dX6_choose_33 : decode cX6_choose 33 = .ok (.getfield 28, 3) := by decide +kernel
theorem dX6_choose_36 : decode cX6_choose 36 = .ok (.getfield 107, 3) := by decide +kernel
theorem dX6_choose_39 : decode cX6_choose 39 = .ok (.iload_n 2, 1) := by decide +kernel
theorem dX6_choose_40 : decode cX6_choose 40 = .ok (.iaload, 1) := by decide +kernel
theorem dX6_choose_41 : decode cX6_choose 41 = .ok (.iload_n 1, 1) := by decide +kernel
theorem dX6_choose_42 : decode cX6_choose 42 = .ok (.if_icmp .ne 14, 3) := by decide +kernel
theorem dX6_choose_45 : decode cX6_choose 45 = .ok (.aload_n 0, 1) := by decide +kernel
theorem dX6_choose_46 : decode cX6_choose 46 = .ok (.getfield 28, 3) := by decide +kernel
theorem dX6_choose_49 : decode cX6_choose 49 = .ok (.iload_n 2, 1) := by decide +kernel
theorem dX6_choose_50 : decode cX6_choose 50 = .ok (.invokevirtual 119, 3) := by decide +kernel
theorem dX6_choose_53 : decode cX6_choose 53 = .ok (.ifCond .ne 6, 3) := by decide +kernel
theorem dX6_choose_56 : decode cX6_choose 56 = .ok (.bipush (-3), 2) := by decide +kernel
theorem dX6_choose_58 : decode cX6_choose 58 = .ok (.ireturn, 1) := by decide +kernel
theorem dX6_choose_59 : decode cX6_choose 59 = .ok (.aload_n 0, 1) := by decide +kernel
theorem dX6_choose_60 : decode cX6_choose 60 = .ok (.getfield 28, 3) := by decide +kernel
theorem dX6_choose_63 : decode cX6_choose 63 = .ok (.getfield 135, 3) := by decide +kernel
theorem dX6_choose_66 : decode cX6_choose 66 = .ok (.iload_n 1, 1) := by decide +kernel
theorem dX6_choose_67 : decode cX6_choose 67 = .ok (.iaload, 1) := by decide +kernel
theorem dX6_choose_68 : decode cX6_choose 68 = .ok (.istore_n 3, 1) := by decide +kernel
theorem dX6_choose_69 : decode cX6_choose 69 = .ok (.aload_n 0, 1) := by decide +kernel
theorem dX6_choose_70 : decode cX6_choose 70 = .ok (.getfield 28, 3) := by decide +kernel
theorem dX6_choose_73 : decode cX6_choose 73 = .ok (.getfield 135, 3) := by decide +kernel
theorem dX6_choose_76 : decode cX6_choose 76 = .ok (.iload_n 1, 1) := by decide +kernel
theorem dX6_choose_77 : decode cX6_choose 77 = .ok (.iload_n 2, 1) := by decide +kernel
theorem dX6_choose_78 : decode cX6_choose 78 = .ok (.iastore, 1) := by decide +kernel
theorem dX6_choose_79 : decode cX6_choose 79 = .ok (.iload_n 3, 1) := by decide +kernel
theorem dX6_choose_80 : decode cX6_choose 80 = .ok (.ireturn, 1) := by decide +kernel
theorem dX6_night_0 : decode cX6_night 0 = .ok (.aload_n 0, 1) := by decide +kernel
theorem dX6_night_1 : decode cX6_night 1 = .ok (.getfield 28, 3) := by decide +kernel
theorem dX6_night_4 : decode cX6_night 4 = .ok (.invokevirtual 125, 3) := by decide +kernel
theorem dX6_night_7 : decode cX6_night 7 = .ok (.ifCond .ne 6, 3) := by decide +kernel
theorem dX6_night_10 : decode cX6_night 10 = .ok (.bipush (-3), 2) := by decide +kernel
theorem dX6_night_12 : decode cX6_night 12 = .ok (.ireturn, 1) := by decide +kernel
theorem dX6_night_13 : decode cX6_night 13 = .ok (.aload_n 0, 1) := by decide +kernel
theorem dX6_night_14 : decode cX6_night 14 = .ok (.getfield 28, 3) := by decide +kernel
theorem dX6_night_17 : decode cX6_night 17 = .ok (.getfield 138, 3) := by decide +kernel
theorem dX6_night_20 : decode cX6_night 20 = .ok (.bipush 60, 2) := by decide +kernel
theorem dX6_night_22 : decode cX6_night 22 = .ok (.if_icmp .lt 6, 3) := by decide +kernel
theorem dX6_night_25 : decode cX6_night 25 = .ok (.bipush (-4), 2) := by decide +kernel
theorem dX6_night_27 : decode cX6_night 27 = .ok (.ireturn, 1) := by decide +kernel
theorem dX6_night_28 : decode cX6_night 28 = .ok (.aload_n 0, 1) := by decide +kernel
theorem dX6_night_29 : decode cX6_night 29 = .ok (.getfield 28, 3) := by decide +kernel
theorem dX6_night_32 : decode cX6_night 32 = .ok (.aload_n 0, 1) := by decide +kernel
theorem dX6_night_33 : decode cX6_night 33 = .ok (.getfield 35, 3) := by decide +kernel
theorem dX6_night_36 : decode cX6_night 36 = .ok (.invokevirtual 141, 3) := by decide +kernel
theorem dX6_night_39 : decode cX6_night 39 = .ok (.aload_n 0, 1) := by decide +kernel
theorem dX6_night_40 : decode cX6_night 40 = .ok (.getfield 28, 3) := by decide +kernel
theorem dX6_night_43 : decode cX6_night 43 = .ok (.aload_n 0, 1) := by decide +kernel
theorem dX6_night_44 : decode cX6_night 44 = .ok (.getfield 35, 3) := by decide +kernel
theorem dX6_night_47 : decode cX6_night 47 = .ok (.invokevirtual 145, 3) := by decide +kernel
theorem dX6_night_50 : decode cX6_night 50 = .ok (.ireturn, 1) := by decide +kernel
theorem dX6_ofNight_0 : decode cX6_ofNight 0 = .ok (.aload_n 0, 1) := by decide +kernel
theorem dX6_ofNight_1 : decode cX6_ofNight 1 = .ok (.getfield 28, 3) := by decide +kernel
theorem dX6_ofNight_4 : decode cX6_ofNight 4 = .ok (.iload_n 1, 1) := by decide +kernel
theorem dX6_ofNight_5 : decode cX6_ofNight 5 = .ok (.invokevirtual 149, 3) := by decide +kernel
theorem dX6_ofNight_8 : decode cX6_ofNight 8 = .ok (.ifCond .eq 14, 3) := by decide +kernel
theorem dX6_ofNight_11 : decode cX6_ofNight 11 = .ok (.aload_n 0, 1) := by decide +kernel
theorem dX6_ofNight_12 : decode cX6_ofNight 12 = .ok (.getfield 28, 3) := by decide +kernel
theorem dX6_ofNight_15 : decode cX6_ofNight 15 = .ok (.iload_n 2, 1) := by decide +kernel
theorem dX6_ofNight_16 : decode cX6_ofNight 16 = .ok (.invokevirtual 132, 3) := by decide +kernel
theorem dX6_ofNight_19 : decode cX6_ofNight 19 = .ok (.ifCond .ne 5, 3) := by decide +kernel
theorem dX6_ofNight_22 : decode cX6_ofNight 22 = .ok (.iconst (-1), 1) := by decide +kernel
theorem dX6_ofNight_23 : decode cX6_ofNight 23 = .ok (.ireturn, 1) := by decide +kernel
theorem dX6_ofNight_24 : decode cX6_ofNight 24 = .ok (.iload_n 1, 1) := by decide +kernel
theorem dX6_ofNight_25 : decode cX6_ofNight 25 = .ok (.iconst 5, 1) := by decide +kernel
theorem dX6_ofNight_26 : decode cX6_ofNight 26 = .ok (.imul, 1) := by decide +kernel
theorem dX6_ofNight_27 : decode cX6_ofNight 27 = .ok (.iload_n 2, 1) := by decide +kernel
theorem dX6_ofNight_28 : decode cX6_ofNight 28 = .ok (.iadd, 1) := by decide +kernel
theorem dX6_ofNight_29 : decode cX6_ofNight 29 = .ok (.istore 4, 2) := by decide +kernel
theorem dX6_ofNight_31 : decode cX6_ofNight 31 = .ok (.iload_n 3, 1) := by decide +kernel
theorem dX6_ofNight_32 : decode cX6_ofNight 32 = .ok (.tableswitch 61 0 2 #[28, 39, 50], 28) := by decide +kernel
theorem dX6_ofNight_60 : decode cX6_ofNight 60 = .ok (.aload_n 0, 1) := by decide +kernel
theorem dX6_ofNight_61 : decode cX6_ofNight 61 = .ok (.getfield 28, 3) := by decide +kernel
theorem dX6_ofNight_64 : decode cX6_ofNight 64 = .ok (.getfield 152, 3) := by decide +kernel
theorem dX6_ofNight_67 : decode cX6_ofNight 67 = .ok (.iload 4, 2) := by decide +kernel
theorem dX6_ofNight_69 : decode cX6_ofNight 69 = .ok (.iaload, 1) := by decide +kernel
theorem dX6_ofNight_70 : decode cX6_ofNight 70 = .ok (.ireturn, 1) := by decide +kernel
theorem dX6_ofNight_71 : decode cX6_ofNight 71 = .ok (.aload_n 0, 1) := by decide +kernel
theorem dX6_ofNight_72 : decode cX6_ofNight 72 = .ok (.getfield 28, 3) := by decide +kernel
theorem dX6_ofNight_75 : decode cX6_ofNight 75 = .ok (.getfield 155, 3) := by decide +kernel
theorem dX6_ofNight_78 : decode cX6_ofNight 78 = .ok (.iload 4, 2) := by decide +kernel
theorem dX6_ofNight_80 : decode cX6_ofNight 80 = .ok (.iaload, 1) := by decide +kernel
theorem dX6_ofNight_81 : decode cX6_ofNight 81 = .ok (.ireturn, 1) := by decide +kernel
theorem dX6_ofNight_82 : decode cX6_ofNight 82 = .ok (.aload_n 0, 1) := by decide +kernel
theorem dX6_ofNight_83 : decode cX6_ofNight 83 = .ok (.getfield 28, 3) := by decide +kernel
theorem dX6_ofNight_86 : decode cX6_ofNight 86 = .ok (.getfield 158, 3) := by decide +kernel
theorem dX6_ofNight_89 : decode cX6_ofNight 89 = .ok (.iload 4, 2) := by decide +kernel
theorem dX6_ofNight_91 : decode cX6_ofNight 91 = .ok (.iaload, 1) := by decide +kernel
theorem dX6_ofNight_92 : decode cX6_ofNight 92 = .ok (.ireturn, 1) := by decide +kernel
theorem dX6_ofNight_93 : decode cX6_ofNight 93 = .ok (.bipush (-2), 2) := by decide +kernel
theorem dX6_ofNight_95 : decode cX6_ofNight 95 = .ok (.ireturn, 1) := by decide +kernel
theorem dX6_undo_0 : decode cX6_undo 0 = .ok (.iload_n 1, 1) := by decide +kernel
theorem dX6_undo_1 : decode cX6_undo 1 = .ok (.ifCond .lt 14, 3) := by decide +kernel
theorem dX6_undo_4 : decode cX6_undo 4 = .ok (.iload_n 1, 1) := by decide +kernel
theorem dX6_undo_5 : decode cX6_undo 5 = .ok (.aload_n 0, 1) := by decide +kernel
theorem dX6_undo_6 : decode cX6_undo 6 = .ok (.getfield 28, 3) := by decide +kernel
theorem dX6_undo_9 : decode cX6_undo 9 = .ok (.getfield 138, 3) := by decide +kernel
theorem dX6_undo_12 : decode cX6_undo 12 = .ok (.if_icmp .le 6, 3) := by decide +kernel
theorem dX6_undo_15 : decode cX6_undo 15 = .ok (.bipush (-2), 2) := by decide +kernel
theorem dX6_undo_17 : decode cX6_undo 17 = .ok (.ireturn, 1) := by decide +kernel
theorem dX6_undo_18 : decode cX6_undo 18 = .ok (.aload_n 0, 1) := by decide +kernel
theorem dX6_undo_19 : decode cX6_undo 19 = .ok (.getfield 28, 3) := by decide +kernel
theorem dX6_undo_22 : decode cX6_undo 22 = .ok (.iload_n 1, 1) := by decide +kernel
theorem dX6_undo_23 : decode cX6_undo 23 = .ok (.invokevirtual 161, 3) := by decide +kernel
theorem dX6_undo_26 : decode cX6_undo 26 = .ok (.aload_n 0, 1) := by decide +kernel
theorem dX6_undo_27 : decode cX6_undo 27 = .ok (.getfield 28, 3) := by decide +kernel
theorem dX6_undo_30 : decode cX6_undo 30 = .ok (.getfield 138, 3) := by decide +kernel
theorem dX6_undo_33 : decode cX6_undo 33 = .ok (.ireturn, 1) := by decide +kernel
theorem dX6_lay_0 : decode cX6_lay 0 = .ok (.aload_n 0, 1) := by decide +kernel
theorem dX6_lay_1 : decode cX6_lay 1 = .ok (.getfield 28, 3) := by decide +kernel
theorem dX6_lay_4 : decode cX6_lay 4 = .ok (.iload_n 1, 1) := by decide +kernel
theorem dX6_lay_5 : decode cX6_lay 5 = .ok (.invokevirtual 132, 3) := by decide +kernel
theorem dX6_lay_8 : decode cX6_lay 8 = .ok (.ifCond .eq 14, 3) := by decide +kernel
theorem dX6_lay_11 : decode cX6_lay 11 = .ok (.aload_n 0, 1) := by decide +kernel
theorem dX6_lay_12 : decode cX6_lay 12 = .ok (.getfield 28, 3) := by decide +kernel
theorem dX6_lay_15 : decode cX6_lay 15 = .ok (.iload_n 2, 1) := by decide +kernel
theorem dX6_lay_16 : decode cX6_lay 16 = .ok (.invokevirtual 132, 3) := by decide +kernel
theorem dX6_lay_19 : decode cX6_lay 19 = .ok (.ifCond .ne 5, 3) := by decide +kernel
theorem dX6_lay_22 : decode cX6_lay 22 = .ok (.iconst (-1), 1) := by decide +kernel
theorem dX6_lay_23 : decode cX6_lay 23 = .ok (.ireturn, 1) := by decide +kernel
theorem dX6_lay_24 : decode cX6_lay 24 = .ok (.aload_n 0, 1) := by decide +kernel
theorem dX6_lay_25 : decode cX6_lay 25 = .ok (.getfield 28, 3) := by decide +kernel
theorem dX6_lay_28 : decode cX6_lay 28 = .ok (.iload_n 1, 1) := by decide +kernel
theorem dX6_lay_29 : decode cX6_lay 29 = .ok (.iload_n 2, 1) := by decide +kernel
theorem dX6_lay_30 : decode cX6_lay 30 = .ok (.invokevirtual 165, 3) := by decide +kernel
theorem dX6_lay_33 : decode cX6_lay 33 = .ok (.ireturn, 1) := by decide +kernel
theorem dX6_tonight_0 : decode cX6_tonight 0 = .ok (.aload_n 0, 1) := by decide +kernel
theorem dX6_tonight_1 : decode cX6_tonight 1 = .ok (.getfield 28, 3) := by decide +kernel
theorem dX6_tonight_4 : decode cX6_tonight 4 = .ok (.iload_n 1, 1) := by decide +kernel
theorem dX6_tonight_5 : decode cX6_tonight 5 = .ok (.invokevirtual 132, 3) := by decide +kernel
theorem dX6_tonight_8 : decode cX6_tonight 8 = .ok (.ifCond .ne 5, 3) := by decide +kernel
theorem dX6_tonight_11 : decode cX6_tonight 11 = .ok (.iconst (-1), 1) := by decide +kernel
theorem dX6_tonight_12 : decode cX6_tonight 12 = .ok (.ireturn, 1) := by decide +kernel
theorem dX6_tonight_13 : decode cX6_tonight 13 = .ok (.aload_n 0, 1) := by decide +kernel
theorem dX6_tonight_14 : decode cX6_tonight 14 = .ok (.getfield 28, 3) := by decide +kernel
theorem dX6_tonight_17 : decode cX6_tonight 17 = .ok (.aload_n 0, 1) := by decide +kernel
theorem dX6_tonight_18 : decode cX6_tonight 18 = .ok (.getfield 35, 3) := by decide +kernel
theorem dX6_tonight_21 : decode cX6_tonight 21 = .ok (.invokevirtual 141, 3) := by decide +kernel
theorem dX6_tonight_24 : decode cX6_tonight 24 = .ok (.iload_n 2, 1) := by decide +kernel
theorem dX6_tonight_25 : decode cX6_tonight 25 = .ok (.tableswitch 64 0 2 #[27, 37, 55], 27) := by decide +kernel
theorem dX6_tonight_52 : decode cX6_tonight 52 = .ok (.aload_n 0, 1) := by decide +kernel
theorem dX6_tonight_53 : decode cX6_tonight 53 = .ok (.getfield 28, 3) := by decide +kernel
theorem dX6_tonight_56 : decode cX6_tonight 56 = .ok (.getfield 135, 3) := by decide +kernel
theorem dX6_tonight_59 : decode cX6_tonight 59 = .ok (.iload_n 1, 1) := by decide +kernel
theorem dX6_tonight_60 : decode cX6_tonight 60 = .ok (.iaload, 1) := by decide +kernel
theorem dX6_tonight_61 : decode cX6_tonight 61 = .ok (.ireturn, 1) := by decide +kernel
theorem dX6_tonight_62 : decode cX6_tonight 62 = .ok (.aload_n 0, 1) := by decide +kernel
theorem dX6_tonight_63 : decode cX6_tonight 63 = .ok (.getfield 35, 3) := by decide +kernel
theorem dX6_tonight_66 : decode cX6_tonight 66 = .ok (.iload_n 1, 1) := by decide +kernel
theorem dX6_tonight_67 : decode cX6_tonight 67 = .ok (.aload_n 0, 1) := by decide +kernel
theorem dX6_tonight_68 : decode cX6_tonight 68 = .ok (.getfield 35, 3) := by decide +kernel
theorem dX6_tonight_71 : decode cX6_tonight 71 = .ok (.getfield 169, 3) := by decide +kernel
theorem dX6_tonight_74 : decode cX6_tonight 74 = .ok (.iload_n 1, 1) := by decide +kernel
theorem dX6_tonight_75 : decode cX6_tonight 75 = .ok (.iaload, 1) := by decide +kernel
theorem dX6_tonight_76 : decode cX6_tonight 76 = .ok (.invokevirtual 172, 3) := by decide +kernel
theorem dX6_tonight_79 : decode cX6_tonight 79 = .ok (.ireturn, 1) := by decide +kernel
theorem dX6_tonight_80 : decode cX6_tonight 80 = .ok (.aload_n 0, 1) := by decide +kernel
theorem dX6_tonight_81 : decode cX6_tonight 81 = .ok (.getfield 35, 3) := by decide +kernel
theorem dX6_tonight_84 : decode cX6_tonight 84 = .ok (.iload_n 1, 1) := by decide +kernel
theorem dX6_tonight_85 : decode cX6_tonight 85 = .ok (.invokevirtual 175, 3) := by decide +kernel
theorem dX6_tonight_88 : decode cX6_tonight 88 = .ok (.ireturn, 1) := by decide +kernel
theorem dX6_tonight_89 : decode cX6_tonight 89 = .ok (.bipush (-2), 2) := by decide +kernel
theorem dX6_tonight_91 : decode cX6_tonight 91 = .ok (.ireturn, 1) := by decide +kernel
theorem dX6_answer_0 : decode cX6_answer 0 = .ok (.aload_n 0, 1) := by decide +kernel
theorem dX6_answer_1 : decode cX6_answer 1 = .ok (.iload_n 1, 1) := by decide +kernel
theorem dX6_answer_2 : decode cX6_answer 2 = .ok (.iload_n 2, 1) := by decide +kernel
theorem dX6_answer_3 : decode cX6_answer 3 = .ok (.iconst 0, 1) := by decide +kernel
theorem dX6_answer_4 : decode cX6_answer 4 = .ok (.invokevirtual 178, 3) := by decide +kernel
theorem dX6_answer_7 : decode cX6_answer 7 = .ok (.ireturn, 1) := by decide +kernel
theorem dX6_borrowed_0 : decode cX6_borrowed 0 = .ok (.aload_n 0, 1) := by decide +kernel
theorem dX6_borrowed_1 : decode cX6_borrowed 1 = .ok (.iload_n 1, 1) := by decide +kernel
theorem dX6_borrowed_2 : decode cX6_borrowed 2 = .ok (.iload_n 2, 1) := by decide +kernel
theorem dX6_borrowed_3 : decode cX6_borrowed 3 = .ok (.iconst 1, 1) := by decide +kernel
theorem dX6_borrowed_4 : decode cX6_borrowed 4 = .ok (.invokevirtual 178, 3) := by decide +kernel
theorem dX6_borrowed_7 : decode cX6_borrowed 7 = .ok (.ireturn, 1) := by decide +kernel
theorem dX6_bishop_0 : decode cX6_bishop 0 = .ok (.iload_n 1, 1) := by decide +kernel
theorem dX6_bishop_1 : decode cX6_bishop 1 = .ok (.ifCond .lt 10, 3) := by decide +kernel
theorem dX6_bishop_4 : decode cX6_bishop 4 = .ok (.iload_n 1, 1) := by decide +kernel
theorem dX6_bishop_5 : decode cX6_bishop 5 = .ok (.sipush 999, 3) := by decide +kernel
theorem dX6_bishop_8 : decode cX6_bishop 8 = .ok (.if_icmp .le 6, 3) := by decide +kernel
theorem dX6_bishop_11 : decode cX6_bishop 11 = .ok (.bipush (-2), 2) := by decide +kernel
theorem dX6_bishop_13 : decode cX6_bishop 13 = .ok (.ireturn, 1) := by decide +kernel
theorem dX6_bishop_14 : decode cX6_bishop 14 = .ok (.aload_n 0, 1) := by decide +kernel
theorem dX6_bishop_15 : decode cX6_bishop 15 = .ok (.getfield 28, 3) := by decide +kernel
theorem dX6_bishop_18 : decode cX6_bishop 18 = .ok (.invokevirtual 125, 3) := by decide +kernel
theorem dX6_bishop_21 : decode cX6_bishop 21 = .ok (.ifCond .ne 6, 3) := by decide +kernel
theorem dX6_bishop_24 : decode cX6_bishop 24 = .ok (.bipush (-3), 2) := by decide +kernel
theorem dX6_bishop_26 : decode cX6_bishop 26 = .ok (.ireturn, 1) := by decide +kernel
theorem dX6_bishop_27 : decode cX6_bishop 27 = .ok (.aload_n 0, 1) := by decide +kernel
theorem dX6_bishop_28 : decode cX6_bishop 28 = .ok (.getfield 28, 3) := by decide +kernel
theorem dX6_bishop_31 : decode cX6_bishop 31 = .ok (.aload_n 0, 1) := by decide +kernel
theorem dX6_bishop_32 : decode cX6_bishop 32 = .ok (.getfield 35, 3) := by decide +kernel
theorem dX6_bishop_35 : decode cX6_bishop 35 = .ok (.invokevirtual 141, 3) := by decide +kernel
theorem dX6_bishop_38 : decode cX6_bishop 38 = .ok (.aload_n 0, 1) := by decide +kernel
theorem dX6_bishop_39 : decode cX6_bishop 39 = .ok (.getfield 35, 3) := by decide +kernel
theorem dX6_bishop_42 : decode cX6_bishop 42 = .ok (.iload_n 1, 1) := by decide +kernel
theorem dX6_bishop_43 : decode cX6_bishop 43 = .ok (.invokevirtual 182, 3) := by decide +kernel
theorem dX6_bishop_46 : decode cX6_bishop 46 = .ok (.ireturn, 1) := by decide +kernel
theorem dX6_sheet_0 : decode cX6_sheet 0 = .ok (.aload_n 0, 1) := by decide +kernel
theorem dX6_sheet_1 : decode cX6_sheet 1 = .ok (.iconst 0, 1) := by decide +kernel
theorem dX6_sheet_2 : decode cX6_sheet 2 = .ok (.putfield 61, 3) := by decide +kernel
theorem dX6_sheet_5 : decode cX6_sheet 5 = .ok (.iload_n 1, 1) := by decide +kernel
theorem dX6_sheet_6 : decode cX6_sheet 6 = .ok (.invokestatic 65, 3) := by decide +kernel
theorem dX6_sheet_9 : decode cX6_sheet 9 = .ok (.ifCond .ne 5, 3) := by decide +kernel
theorem dX6_sheet_12 : decode cX6_sheet 12 = .ok (.iconst (-1), 1) := by decide +kernel
theorem dX6_sheet_13 : decode cX6_sheet 13 = .ok (.ireturn, 1) := by decide +kernel
theorem dX6_sheet_14 : decode cX6_sheet 14 = .ok (.iload_n 2, 1) := by decide +kernel
theorem dX6_sheet_15 : decode cX6_sheet 15 = .ok (.invokestatic 69, 3) := by decide +kernel
theorem dX6_sheet_18 : decode cX6_sheet 18 = .ok (.ifCond .eq 9, 3) := by decide +kernel
theorem dX6_sheet_21 : decode cX6_sheet 21 = .ok (.iload_n 3, 1) := by decide +kernel
theorem dX6_sheet_22 : decode cX6_sheet 22 = .ok (.bipush 60, 2) := by decide +kernel
theorem dX6_sheet_24 : decode cX6_sheet 24 = .ok (.if_icmp .le 6, 3) := by decide +kernel
theorem dX6_sheet_27 : decode cX6_sheet 27 = .ok (.bipush (-2), 2) := by decide +kernel
theorem dX6_sheet_29 : decode cX6_sheet 29 = .ok (.ireturn, 1) := by decide +kernel
theorem dX6_sheet_30 : decode cX6_sheet 30 = .ok (.iload_n 3, 1) := by decide +kernel
theorem dX6_sheet_31 : decode cX6_sheet 31 = .ok (.ifCond .ge 9, 3) := by decide +kernel
theorem dX6_sheet_34 : decode cX6_sheet 34 = .ok (.aload_n 0, 1) := by decide +kernel
theorem dX6_sheet_35 : decode cX6_sheet 35 = .ok (.iconst 4, 1) := by decide +kernel
theorem dX6_sheet_36 : decode cX6_sheet 36 = .ok (.invokevirtual 76, 3) := by decide +kernel
theorem dX6_sheet_39 : decode cX6_sheet 39 = .ok (.ireturn, 1) := by decide +kernel
theorem dX6_sheet_40 : decode cX6_sheet 40 = .ok (.aload_n 0, 1) := by decide +kernel
theorem dX6_sheet_41 : decode cX6_sheet 41 = .ok (.getfield 12, 3) := by decide +kernel
theorem dX6_sheet_44 : decode cX6_sheet 44 = .ok (.iload_n 1, 1) := by decide +kernel
theorem dX6_sheet_45 : decode cX6_sheet 45 = .ok (.iload_n 2, 1) := by decide +kernel
theorem dX6_sheet_46 : decode cX6_sheet 46 = .ok (.iload_n 3, 1) := by decide +kernel
theorem dX6_sheet_47 : decode cX6_sheet 47 = .ok (.invokevirtual 218, 3) := by decide +kernel
theorem dX6_sheet_50 : decode cX6_sheet 50 = .ok (.iconst 1, 1) := by decide +kernel
theorem dX6_sheet_51 : decode cX6_sheet 51 = .ok (.ireturn, 1) := by decide +kernel
theorem dX6_put_0 : decode cX6_put 0 = .ok (.aload_n 0, 1) := by decide +kernel
theorem dX6_put_1 : decode cX6_put 1 = .ok (.iconst 0, 1) := by decide +kernel
theorem dX6_put_2 : decode cX6_put 2 = .ok (.putfield 61, 3) := by decide +kernel
theorem dX6_put_5 : decode cX6_put 5 = .ok (.iload_n 1, 1) := by decide +kernel
theorem dX6_put_6 : decode cX6_put 6 = .ok (.invokestatic 65, 3) := by decide +kernel
theorem dX6_put_9 : decode cX6_put 9 = .ok (.ifCond .ne 5, 3) := by decide +kernel
theorem dX6_put_12 : decode cX6_put 12 = .ok (.iconst (-1), 1) := by decide +kernel
theorem dX6_put_13 : decode cX6_put 13 = .ok (.ireturn, 1) := by decide +kernel
theorem dX6_put_14 : decode cX6_put 14 = .ok (.aload_n 0, 1) := by decide +kernel
theorem dX6_put_15 : decode cX6_put 15 = .ok (.getfield 12, 3) := by decide +kernel
theorem dX6_put_18 : decode cX6_put 18 = .ok (.iload_n 1, 1) := by decide +kernel
theorem dX6_put_19 : decode cX6_put 19 = .ok (.invokevirtual 225, 3) := by decide +kernel
theorem dX6_put_22 : decode cX6_put 22 = .ok (.ifCond .ne 9, 3) := by decide +kernel
theorem dX6_put_25 : decode cX6_put 25 = .ok (.aload_n 0, 1) := by decide +kernel
theorem dX6_put_26 : decode cX6_put 26 = .ok (.iconst 1, 1) := by decide +kernel
theorem dX6_put_27 : decode cX6_put 27 = .ok (.invokevirtual 76, 3) := by decide +kernel
theorem dX6_put_30 : decode cX6_put 30 = .ok (.ireturn, 1) := by decide +kernel
theorem dX6_put_31 : decode cX6_put 31 = .ok (.aload_n 0, 1) := by decide +kernel
theorem dX6_put_32 : decode cX6_put 32 = .ok (.getfield 12, 3) := by decide +kernel
theorem dX6_put_35 : decode cX6_put 35 = .ok (.iload_n 1, 1) := by decide +kernel
theorem dX6_put_36 : decode cX6_put 36 = .ok (.iload_n 2, 1) := by decide +kernel
theorem dX6_put_37 : decode cX6_put 37 = .ok (.iconst 1, 1) := by decide +kernel
theorem dX6_put_38 : decode cX6_put 38 = .ok (.invokevirtual 228, 3) := by decide +kernel
theorem dX6_put_41 : decode cX6_put 41 = .ok (.ifCond .ne 9, 3) := by decide +kernel
theorem dX6_put_44 : decode cX6_put 44 = .ok (.aload_n 0, 1) := by decide +kernel
theorem dX6_put_45 : decode cX6_put 45 = .ok (.iconst 3, 1) := by decide +kernel
theorem dX6_put_46 : decode cX6_put 46 = .ok (.invokevirtual 76, 3) := by decide +kernel
theorem dX6_put_49 : decode cX6_put 49 = .ok (.ireturn, 1) := by decide +kernel
theorem dX6_put_50 : decode cX6_put 50 = .ok (.aload_n 0, 1) := by decide +kernel
theorem dX6_put_51 : decode cX6_put 51 = .ok (.getfield 12, 3) := by decide +kernel
theorem dX6_put_54 : decode cX6_put 54 = .ok (.iload_n 1, 1) := by decide +kernel
theorem dX6_put_55 : decode cX6_put 55 = .ok (.iload_n 2, 1) := by decide +kernel
theorem dX6_put_56 : decode cX6_put 56 = .ok (.iload_n 3, 1) := by decide +kernel
theorem dX6_put_57 : decode cX6_put 57 = .ok (.invokevirtual 232, 3) := by decide +kernel
theorem dX6_put_60 : decode cX6_put 60 = .ok (.iconst 1, 1) := by decide +kernel
theorem dX6_put_61 : decode cX6_put 61 = .ok (.ireturn, 1) := by decide +kernel
theorem dX6_many_0 : decode cX6_many 0 = .ok (.iload_n 1, 1) := by decide +kernel
theorem dX6_many_1 : decode cX6_many 1 = .ok (.tableswitch 63 0 3 #[31, 39, 47, 55], 31) := by decide +kernel
theorem dX6_many_32 : decode cX6_many 32 = .ok (.aload_n 0, 1) := by decide +kernel
theorem dX6_many_33 : decode cX6_many 33 = .ok (.getfield 28, 3) := by decide +kernel
theorem dX6_many_36 : decode cX6_many 36 = .ok (.getfield 208, 3) := by decide +kernel
theorem dX6_many_39 : decode cX6_many 39 = .ok (.ireturn, 1) := by decide +kernel
theorem dX6_many_40 : decode cX6_many 40 = .ok (.aload_n 0, 1) := by decide +kernel
theorem dX6_many_41 : decode cX6_many 41 = .ok (.getfield 28, 3) := by decide +kernel
theorem dX6_many_44 : decode cX6_many 44 = .ok (.getfield 98, 3) := by decide +kernel
theorem dX6_many_47 : decode cX6_many 47 = .ok (.ireturn, 1) := by decide +kernel
theorem dX6_many_48 : decode cX6_many 48 = .ok (.aload_n 0, 1) := by decide +kernel
theorem dX6_many_49 : decode cX6_many 49 = .ok (.getfield 28, 3) := by decide +kernel
theorem dX6_many_52 : decode cX6_many 52 = .ok (.getfield 138, 3) := by decide +kernel
theorem dX6_many_55 : decode cX6_many 55 = .ok (.ireturn, 1) := by decide +kernel
theorem dX6_many_56 : decode cX6_many 56 = .ok (.aload_n 0, 1) := by decide +kernel
theorem dX6_many_57 : decode cX6_many 57 = .ok (.getfield 28, 3) := by decide +kernel
theorem dX6_many_60 : decode cX6_many 60 = .ok (.getfield 129, 3) := by decide +kernel
theorem dX6_many_63 : decode cX6_many 63 = .ok (.ireturn, 1) := by decide +kernel
theorem dX6_many_64 : decode cX6_many 64 = .ok (.bipush (-2), 2) := by decide +kernel
theorem dX6_many_66 : decode cX6_many 66 = .ok (.ireturn, 1) := by decide +kernel
theorem dX6_isSheet_0 : decode cX6_isSheet 0 = .ok (.iload_n 0, 1) := by decide +kernel
theorem dX6_isSheet_1 : decode cX6_isSheet 1 = .ok (.ifCond .lt 12, 3) := by decide +kernel
theorem dX6_isSheet_4 : decode cX6_isSheet 4 = .ok (.iload_n 0, 1) := by decide +kernel
theorem dX6_isSheet_5 : decode cX6_isSheet 5 = .ok (.iconst 4, 1) := by decide +kernel
theorem dX6_isSheet_6 : decode cX6_isSheet 6 = .ok (.if_icmp .ge 7, 3) := by decide +kernel
theorem dX6_isSheet_9 : decode cX6_isSheet 9 = .ok (.iconst 1, 1) := by decide +kernel
theorem dX6_isSheet_10 : decode cX6_isSheet 10 = .ok (.goto 4, 3) := by decide +kernel
theorem dX6_isSheet_13 : decode cX6_isSheet 13 = .ok (.iconst 0, 1) := by decide +kernel
theorem dX6_isSheet_14 : decode cX6_isSheet 14 = .ok (.ireturn, 1) := by decide +kernel
theorem dX6_isSort_0 : decode cX6_isSort 0 = .ok (.iload_n 0, 1) := by decide +kernel
theorem dX6_isSort_1 : decode cX6_isSort 1 = .ok (.ifCond .lt 12, 3) := by decide +kernel
theorem dX6_isSort_4 : decode cX6_isSort 4 = .ok (.iload_n 0, 1) := by decide +kernel
theorem dX6_isSort_5 : decode cX6_isSort 5 = .ok (.iconst 2, 1) := by decide +kernel
theorem dX6_isSort_6 : decode cX6_isSort 6 = .ok (.if_icmp .gt 7, 3) := by decide +kernel
theorem dX6_isSort_9 : decode cX6_isSort 9 = .ok (.iconst 1, 1) := by decide +kernel
theorem dX6_isSort_10 : decode cX6_isSort 10 = .ok (.goto 4, 3) := by decide +kernel
theorem dX6_isSort_13 : decode cX6_isSort 13 = .ok (.iconst 0, 1) := by decide +kernel
theorem dX6_isSort_14 : decode cX6_isSort 14 = .ok (.ireturn, 1) := by decide +kernel
theorem dX6_faulty_0 : decode cX6_faulty 0 = .ok (.aload_n 0, 1) := by decide +kernel
theorem dX6_faulty_1 : decode cX6_faulty 1 = .ok (.iload_n 1, 1) := by decide +kernel
theorem dX6_faulty_2 : decode cX6_faulty 2 = .ok (.putfield 61, 3) := by decide +kernel
theorem dX6_faulty_5 : decode cX6_faulty 5 = .ok (.bipush (-10), 2) := by decide +kernel
theorem dX6_faulty_7 : decode cX6_faulty 7 = .ok (.iload_n 1, 1) := by decide +kernel
theorem dX6_faulty_8 : decode cX6_faulty 8 = .ok (.isub, 1) := by decide +kernel
theorem dX6_faulty_9 : decode cX6_faulty 9 = .ok (.ireturn, 1) := by decide +kernel
theorem dX6_bestReply_0 : decode cX6_bestReply 0 = .ok (.aload_n 0, 1) := by decide +kernel
theorem dX6_bestReply_1 : decode cX6_bestReply 1 = .ok (.getfield 28, 3) := by decide +kernel
theorem dX6_bestReply_4 : decode cX6_bestReply 4 = .ok (.iload_n 1, 1) := by decide +kernel
theorem dX6_bestReply_5 : decode cX6_bestReply 5 = .ok (.invokevirtual 132, 3) := by decide +kernel
theorem dX6_bestReply_8 : decode cX6_bestReply 8 = .ok (.ifCond .ne 5, 3) := by decide +kernel
theorem dX6_bestReply_11 : decode cX6_bestReply 11 = .ok (.iconst (-1), 1) := by decide +kernel
theorem dX6_bestReply_12 : decode cX6_bestReply 12 = .ok (.ireturn, 1) := by decide +kernel
theorem dX6_bestReply_13 : decode cX6_bestReply 13 = .ok (.iload_n 2, 1) := by decide +kernel
theorem dX6_bestReply_14 : decode cX6_bestReply 14 = .ok (.ifCond .lt 8, 3) := by decide +kernel
theorem dX6_bestReply_17 : decode cX6_bestReply 17 = .ok (.iload_n 2, 1) := by decide +kernel
theorem dX6_bestReply_18 : decode cX6_bestReply 18 = .ok (.iconst 1, 1) := by decide +kernel
theorem dX6_bestReply_19 : decode cX6_bestReply 19 = .ok (.if_icmp .le 6, 3) := by decide +kernel
theorem dX6_bestReply_22 : decode cX6_bestReply 22 = .ok (.bipush (-2), 2) := by decide +kernel
theorem dX6_bestReply_24 : decode cX6_bestReply 24 = .ok (.ireturn, 1) := by decide +kernel
theorem dX6_bestReply_25 : decode cX6_bestReply 25 = .ok (.aload_n 0, 1) := by decide +kernel
theorem dX6_bestReply_26 : decode cX6_bestReply 26 = .ok (.getfield 28, 3) := by decide +kernel
theorem dX6_bestReply_29 : decode cX6_bestReply 29 = .ok (.aload_n 0, 1) := by decide +kernel
theorem dX6_bestReply_30 : decode cX6_bestReply 30 = .ok (.getfield 35, 3) := by decide +kernel
theorem dX6_bestReply_33 : decode cX6_bestReply 33 = .ok (.invokevirtual 141, 3) := by decide +kernel
theorem dX6_bestReply_36 : decode cX6_bestReply 36 = .ok (.bipush (-9), 2) := by decide +kernel
theorem dX6_bestReply_38 : decode cX6_bestReply 38 = .ok (.istore 4, 2) := by decide +kernel
theorem dX6_bestReply_40 : decode cX6_bestReply 40 = .ok (.iconst 0, 1) := by decide +kernel
theorem dX6_bestReply_41 : decode cX6_bestReply 41 = .ok (.istore 5, 2) := by decide +kernel
theorem dX6_bestReply_43 : decode cX6_bestReply 43 = .ok (.iload 5, 2) := by decide +kernel
theorem dX6_bestReply_45 : decode cX6_bestReply 45 = .ok (.aload_n 0, 1) := by decide +kernel
theorem dX6_bestReply_46 : decode cX6_bestReply 46 = .ok (.getfield 28, 3) := by decide +kernel
theorem dX6_bestReply_49 : decode cX6_bestReply 49 = .ok (.getfield 98, 3) := by decide +kernel
theorem dX6_bestReply_52 : decode cX6_bestReply 52 = .ok (.if_icmp .ge 49, 3) := by decide +kernel
theorem dX6_bestReply_55 : decode cX6_bestReply 55 = .ok (.aload_n 0, 1) := by decide +kernel
theorem dX6_bestReply_56 : decode cX6_bestReply 56 = .ok (.getfield 28, 3) := by decide +kernel
theorem dX6_bestReply_59 : decode cX6_bestReply 59 = .ok (.iload_n 1, 1) := by decide +kernel
theorem dX6_bestReply_60 : decode cX6_bestReply 60 = .ok (.iload 5, 2) := by decide +kernel
theorem dX6_bestReply_62 : decode cX6_bestReply 62 = .ok (.iload_n 3, 1) := by decide +kernel
theorem dX6_bestReply_63 : decode cX6_bestReply 63 = .ok (.invokevirtual 262, 3) := by decide +kernel
theorem dX6_bestReply_66 : decode cX6_bestReply 66 = .ok (.ifCond .ne 6, 3) := by decide +kernel
theorem dX6_bestReply_69 : decode cX6_bestReply 69 = .ok (.goto 26, 3) := by decide +kernel
theorem dX6_bestReply_72 : decode cX6_bestReply 72 = .ok (.iload 4, 2) := by decide +kernel
theorem dX6_bestReply_74 : decode cX6_bestReply 74 = .ok (.bipush (-9), 2) := by decide +kernel
theorem dX6_bestReply_76 : decode cX6_bestReply 76 = .ok (.if_icmp .eq 15, 3) := by decide +kernel
theorem dX6_bestReply_79 : decode cX6_bestReply 79 = .ok (.aload_n 0, 1) := by decide +kernel
theorem dX6_bestReply_80 : decode cX6_bestReply 80 = .ok (.iload_n 1, 1) := by decide +kernel
theorem dX6_bestReply_81 : decode cX6_bestReply 81 = .ok (.iload 5, 2) := by decide +kernel
theorem dX6_bestReply_83 : decode cX6_bestReply 83 = .ok (.iload 4, 2) := by decide +kernel
theorem dX6_bestReply_85 : decode cX6_bestReply 85 = .ok (.invokevirtual 266, 3) := by decide +kernel
theorem dX6_bestReply_88 : decode cX6_bestReply 88 = .ok (.ifCond .eq 7, 3) := by decide +kernel
theorem dX6_bestReply_91 : decode cX6_bestReply 91 = .ok (.iload 5, 2) := by decide +kernel
theorem dX6_bestReply_93 : decode cX6_bestReply 93 = .ok (.istore 4, 2) := by decide +kernel
theorem dX6_bestReply_95 : decode cX6_bestReply 95 = .ok (.iinc 5 1, 3) := by decide +kernel
theorem dX6_bestReply_98 : decode cX6_bestReply 98 = .ok (.goto (-55), 3) := by decide +kernel
theorem dX6_bestReply_101 : decode cX6_bestReply 101 = .ok (.iload_n 2, 1) := by decide +kernel
theorem dX6_bestReply_102 : decode cX6_bestReply 102 = .ok (.ifCond .eq 10, 3) := by decide +kernel
theorem dX6_bestReply_105 : decode cX6_bestReply 105 = .ok (.iload 4, 2) := by decide +kernel
theorem dX6_bestReply_107 : decode cX6_bestReply 107 = .ok (.bipush (-9), 2) := by decide +kernel
theorem dX6_bestReply_109 : decode cX6_bestReply 109 = .ok (.if_icmp .ne 6, 3) := by decide +kernel
theorem dX6_bestReply_112 : decode cX6_bestReply 112 = .ok (.iload 4, 2) := by decide +kernel
theorem dX6_bestReply_114 : decode cX6_bestReply 114 = .ok (.ireturn, 1) := by decide +kernel
theorem dX6_bestReply_115 : decode cX6_bestReply 115 = .ok (.aload_n 0, 1) := by decide +kernel
theorem dX6_bestReply_116 : decode cX6_bestReply 116 = .ok (.getfield 35, 3) := by decide +kernel
theorem dX6_bestReply_119 : decode cX6_bestReply 119 = .ok (.iload_n 1, 1) := by decide +kernel
theorem dX6_bestReply_120 : decode cX6_bestReply 120 = .ok (.aload_n 0, 1) := by decide +kernel
theorem dX6_bestReply_121 : decode cX6_bestReply 121 = .ok (.getfield 28, 3) := by decide +kernel
theorem dX6_bestReply_124 : decode cX6_bestReply 124 = .ok (.iload 4, 2) := by decide +kernel
theorem dX6_bestReply_126 : decode cX6_bestReply 126 = .ok (.invokevirtual 122, 3) := by decide +kernel
theorem dX6_bestReply_129 : decode cX6_bestReply 129 = .ok (.invokevirtual 172, 3) := by decide +kernel
theorem dX6_bestReply_132 : decode cX6_bestReply 132 = .ok (.ireturn, 1) := by decide +kernel
theorem dX6_isBetterReply_0 : decode cX6_isBetterReply 0 = .ok (.aload_n 0, 1) := by decide +kernel
theorem dX6_isBetterReply_1 : decode cX6_isBetterReply 1 = .ok (.getfield 28, 3) := by decide +kernel
theorem dX6_isBetterReply_4 : decode cX6_isBetterReply 4 = .ok (.iload_n 2, 1) := by decide +kernel
theorem dX6_isBetterReply_5 : decode cX6_isBetterReply 5 = .ok (.invokevirtual 122, 3) := by decide +kernel
theorem dX6_isBetterReply_8 : decode cX6_isBetterReply 8 = .ok (.istore 4, 2) := by decide +kernel
theorem dX6_isBetterReply_10 : decode cX6_isBetterReply 10 = .ok (.aload_n 0, 1) := by decide +kernel
theorem dX6_isBetterReply_11 : decode cX6_isBetterReply 11 = .ok (.getfield 28, 3) := by decide +kernel
theorem dX6_isBetterReply_14 : decode cX6_isBetterReply 14 = .ok (.iload_n 3, 1) := by decide +kernel
theorem dX6_isBetterReply_15 : decode cX6_isBetterReply 15 = .ok (.invokevirtual 122, 3) := by decide +kernel
theorem dX6_isBetterReply_18 : decode cX6_isBetterReply 18 = .ok (.istore 5, 2) := by decide +kernel
theorem dX6_isBetterReply_20 : decode cX6_isBetterReply 20 = .ok (.aload_n 0, 1) := by decide +kernel
theorem dX6_isBetterReply_21 : decode cX6_isBetterReply 21 = .ok (.getfield 35, 3) := by decide +kernel
theorem dX6_isBetterReply_24 : decode cX6_isBetterReply 24 = .ok (.iload_n 1, 1) := by decide +kernel
theorem dX6_isBetterReply_25 : decode cX6_isBetterReply 25 = .ok (.iload 4, 2) := by decide +kernel
theorem dX6_isBetterReply_27 : decode cX6_isBetterReply 27 = .ok (.invokevirtual 172, 3) := by decide +kernel
theorem dX6_isBetterReply_30 : decode cX6_isBetterReply 30 = .ok (.istore 6, 2) := by decide +kernel
theorem dX6_isBetterReply_32 : decode cX6_isBetterReply 32 = .ok (.aload_n 0, 1) := by decide +kernel
theorem dX6_isBetterReply_33 : decode cX6_isBetterReply 33 = .ok (.getfield 35, 3) := by decide +kernel
theorem dX6_isBetterReply_36 : decode cX6_isBetterReply 36 = .ok (.iload_n 1, 1) := by decide +kernel
theorem dX6_isBetterReply_37 : decode cX6_isBetterReply 37 = .ok (.iload 5, 2) := by decide +kernel
theorem dX6_isBetterReply_39 : decode cX6_isBetterReply 39 = .ok (.invokevirtual 172, 3) := by decide +kernel
theorem dX6_isBetterReply_42 : decode cX6_isBetterReply 42 = .ok (.istore 7, 2) := by decide +kernel
theorem dX6_isBetterReply_44 : decode cX6_isBetterReply 44 = .ok (.iload 6, 2) := by decide +kernel
theorem dX6_isBetterReply_46 : decode cX6_isBetterReply 46 = .ok (.iload 7, 2) := by decide +kernel
theorem dX6_isBetterReply_48 : decode cX6_isBetterReply 48 = .ok (.if_icmp .lt 17, 3) := by decide +kernel
theorem dX6_isBetterReply_51 : decode cX6_isBetterReply 51 = .ok (.iload 6, 2) := by decide +kernel
theorem dX6_isBetterReply_53 : decode cX6_isBetterReply 53 = .ok (.iload 7, 2) := by decide +kernel
theorem dX6_isBetterReply_55 : decode cX6_isBetterReply 55 = .ok (.if_icmp .ne 14, 3) := by decide +kernel
theorem dX6_isBetterReply_58 : decode cX6_isBetterReply 58 = .ok (.iload 4, 2) := by decide +kernel
theorem dX6_isBetterReply_60 : decode cX6_isBetterReply 60 = .ok (.iload 5, 2) := by decide +kernel
theorem dX6_isBetterReply_62 : decode cX6_isBetterReply 62 = .ok (.if_icmp .ge 7, 3) := by decide +kernel
theorem dX6_isBetterReply_65 : decode cX6_isBetterReply 65 = .ok (.iconst 1, 1) := by decide +kernel
theorem dX6_isBetterReply_66 : decode cX6_isBetterReply 66 = .ok (.goto 4, 3) := by decide +kernel
theorem dX6_isBetterReply_69 : decode cX6_isBetterReply 69 = .ok (.iconst 0, 1) := by decide +kernel
theorem dX6_isBetterReply_70 : decode cX6_isBetterReply 70 = .ok (.ireturn, 1) := by decide +kernel
end
section
/-! ===== decode rows (printed) ===== -/
theorem dL_cell_0 : decode cL_cell 0 = .ok (.iload_n 1, 1) := by decide +kernel
theorem dL_cell_1 : decode cL_cell 1 = .ok (.aload_n 0, 1) := by decide +kernel
theorem dL_cell_2 : decode cL_cell 2 = .ok (.arraylength, 1) := by decide +kernel
theorem dL_cell_3 : decode cL_cell 3 = .ok (.if_icmp .ge 9, 3) := by decide +kernel
theorem dL_cell_6 : decode cL_cell 6 = .ok (.aload_n 0, 1) := by decide +kernel
theorem dL_cell_7 : decode cL_cell 7 = .ok (.iload_n 1, 1) := by decide +kernel
theorem dL_cell_8 : decode cL_cell 8 = .ok (.iaload, 1) := by decide +kernel
theorem dL_cell_9 : decode cL_cell 9 = .ok (.goto 9, 3) := by decide +kernel
theorem dL_cell_12 : decode cL_cell 12 = .ok (.ldc 7, 2) := by decide +kernel
theorem dL_cell_14 : decode cL_cell 14 = .ok (.iload_n 1, 1) := by decide +kernel
theorem dL_cell_15 : decode cL_cell 15 = .ok (.iconst 1, 1) := by decide +kernel
theorem dL_cell_16 : decode cL_cell 16 = .ok (.iadd, 1) := by decide +kernel
theorem dL_cell_17 : decode cL_cell 17 = .ok (.imul, 1) := by decide +kernel
theorem dL_cell_18 : decode cL_cell 18 = .ok (.ireturn, 1) := by decide +kernel
theorem dL_some_0 : decode cL_some 0 = .ok (.iload_n 0, 1) := by decide +kernel
theorem dL_some_1 : decode cL_some 1 = .ok (.ldc 8, 2) := by decide +kernel
theorem dL_some_3 : decode cL_some 3 = .ok (.iand, 1) := by decide +kernel
theorem dL_some_4 : decode cL_some 4 = .ok (.iload_n 1, 1) := by decide +kernel
theorem dL_some_5 : decode cL_some 5 = .ok (.irem, 1) := by decide +kernel
theorem dL_some_6 : decode cL_some 6 = .ok (.ireturn, 1) := by decide +kernel
theorem dL_put_0 : decode cL_put 0 = .ok (.aload_n 1, 1) := by decide +kernel
theorem dL_put_1 : decode cL_put 1 = .ok (.iload_n 2, 1) := by decide +kernel
theorem dL_put_2 : decode cL_put 2 = .ok (.invokestatic 9, 3) := by decide +kernel
theorem dL_put_5 : decode cL_put 5 = .ok (.istore 5, 2) := by decide +kernel
theorem dL_put_7 : decode cL_put 7 = .ok (.aload 4, 2) := by decide +kernel
theorem dL_put_9 : decode cL_put 9 = .ok (.iconst 0, 1) := by decide +kernel
theorem dL_put_10 : decode cL_put 10 = .ok (.iconst 2, 1) := by decide +kernel
theorem dL_put_11 : decode cL_put 11 = .ok (.iload 5, 2) := by decide +kernel
theorem dL_put_13 : decode cL_put 13 = .ok (.iconst 4, 1) := by decide +kernel
theorem dL_put_14 : decode cL_put 14 = .ok (.invokestatic 15, 3) := by decide +kernel
theorem dL_put_17 : decode cL_put 17 = .ok (.iadd, 1) := by decide +kernel
theorem dL_put_18 : decode cL_put 18 = .ok (.iastore, 1) := by decide +kernel
theorem dL_put_19 : decode cL_put 19 = .ok (.aload 4, 2) := by decide +kernel
theorem dL_put_21 : decode cL_put 21 = .ok (.iconst 1, 1) := by decide +kernel
theorem dL_put_22 : decode cL_put 22 = .ok (.iconst 1, 1) := by decide +kernel
theorem dL_put_23 : decode cL_put 23 = .ok (.iload 5, 2) := by decide +kernel
theorem dL_put_25 : decode cL_put 25 = .ok (.iconst 3, 1) := by decide +kernel
theorem dL_put_26 : decode cL_put 26 = .ok (.ishr, 1) := by decide +kernel
theorem dL_put_27 : decode cL_put 27 = .ok (.iload_n 3, 1) := by decide +kernel
theorem dL_put_28 : decode cL_put 28 = .ok (.invokestatic 15, 3) := by decide +kernel
theorem dL_put_31 : decode cL_put 31 = .ok (.iadd, 1) := by decide +kernel
theorem dL_put_32 : decode cL_put 32 = .ok (.iastore, 1) := by decide +kernel
theorem dL_put_33 : decode cL_put 33 = .ok (.aload 4, 2) := by decide +kernel
theorem dL_put_35 : decode cL_put 35 = .ok (.bipush 32, 2) := by decide +kernel
theorem dL_put_37 : decode cL_put 37 = .ok (.bipush 99, 2) := by decide +kernel
theorem dL_put_39 : decode cL_put 39 = .ok (.iastore, 1) := by decide +kernel
theorem dL_put_40 : decode cL_put 40 = .ok (.aload 4, 2) := by decide +kernel
theorem dL_put_42 : decode cL_put 42 = .ok (.bipush 33, 2) := by decide +kernel
theorem dL_put_44 : decode cL_put 44 = .ok (.iconst 0, 1) := by decide +kernel
theorem dL_put_45 : decode cL_put 45 = .ok (.iastore, 1) := by decide +kernel
theorem dL_put_46 : decode cL_put 46 = .ok (.aload_n 0, 1) := by decide +kernel
theorem dL_put_47 : decode cL_put 47 = .ok (.iconst 0, 1) := by decide +kernel
theorem dL_put_48 : decode cL_put 48 = .ok (.iconst 0, 1) := by decide +kernel
theorem dL_put_49 : decode cL_put 49 = .ok (.bipush 60, 2) := by decide +kernel
theorem dL_put_51 : decode cL_put 51 = .ok (.invokevirtual 19, 3) := by decide +kernel
theorem dL_put_54 : decode cL_put 54 = .ok (.iconst 1, 1) := by decide +kernel
theorem dL_put_55 : decode cL_put 55 = .ok (.if_icmp .ne 32, 3) := by decide +kernel
theorem dL_put_58 : decode cL_put 58 = .ok (.aload_n 0, 1) := by decide +kernel
theorem dL_put_59 : decode cL_put 59 = .ok (.iconst 0, 1) := by decide +kernel
theorem dL_put_60 : decode cL_put 60 = .ok (.iconst 0, 1) := by decide +kernel
theorem dL_put_61 : decode cL_put 61 = .ok (.bipush 105, 2) := by decide +kernel
theorem dL_put_63 : decode cL_put 63 = .ok (.invokevirtual 25, 3) := by decide +kernel
theorem dL_put_66 : decode cL_put 66 = .ok (.iconst 1, 1) := by decide +kernel
theorem dL_put_67 : decode cL_put 67 = .ok (.if_icmp .ne 20, 3) := by decide +kernel
theorem dL_put_70 : decode cL_put 70 = .ok (.aload_n 0, 1) := by decide +kernel
theorem dL_put_71 : decode cL_put 71 = .ok (.iconst 0, 1) := by decide +kernel
theorem dL_put_72 : decode cL_put 72 = .ok (.iconst 1, 1) := by decide +kernel
theorem dL_put_73 : decode cL_put 73 = .ok (.bipush 48, 2) := by decide +kernel
theorem dL_put_75 : decode cL_put 75 = .ok (.aload 4, 2) := by decide +kernel
theorem dL_put_77 : decode cL_put 77 = .ok (.iconst 0, 1) := by decide +kernel
theorem dL_put_78 : decode cL_put 78 = .ok (.iaload, 1) := by decide +kernel
theorem dL_put_79 : decode cL_put 79 = .ok (.iadd, 1) := by decide +kernel
theorem dL_put_80 : decode cL_put 80 = .ok (.invokevirtual 25, 3) := by decide +kernel
theorem dL_put_83 : decode cL_put 83 = .ok (.iconst 1, 1) := by decide +kernel
theorem dL_put_84 : decode cL_put 84 = .ok (.if_icmp .eq 6, 3) := by decide +kernel
theorem dL_put_87 : decode cL_put 87 = .ok (.bipush (-99), 2) := by decide +kernel
theorem dL_put_89 : decode cL_put 89 = .ok (.ireturn, 1) := by decide +kernel
theorem dL_put_90 : decode cL_put 90 = .ok (.iconst 2, 1) := by decide +kernel
theorem dL_put_91 : decode cL_put 91 = .ok (.istore 6, 2) := by decide +kernel
theorem dL_put_93 : decode cL_put 93 = .ok (.iconst 0, 1) := by decide +kernel
theorem dL_put_94 : decode cL_put 94 = .ok (.istore 7, 2) := by decide +kernel
theorem dL_put_96 : decode cL_put 96 = .ok (.iload 7, 2) := by decide +kernel
theorem dL_put_98 : decode cL_put 98 = .ok (.aload 4, 2) := by decide +kernel
theorem dL_put_100 : decode cL_put 100 = .ok (.iconst 1, 1) := by decide +kernel
theorem dL_put_101 : decode cL_put 101 = .ok (.iaload, 1) := by decide +kernel
theorem dL_put_102 : decode cL_put 102 = .ok (.if_icmp .ge 246, 3) := by decide +kernel
theorem dL_put_105 : decode cL_put 105 = .ok (.aload_n 1, 1) := by decide +kernel
theorem dL_put_106 : decode cL_put 106 = .ok (.iload_n 2, 1) := by decide +kernel
theorem dL_put_107 : decode cL_put 107 = .ok (.iconst 1, 1) := by decide +kernel
theorem dL_put_108 : decode cL_put 108 = .ok (.iadd, 1) := by decide +kernel
theorem dL_put_109 : decode cL_put 109 = .ok (.iload 7, 2) := by decide +kernel
theorem dL_put_111 : decode cL_put 111 = .ok (.iconst 4, 1) := by decide +kernel
theorem dL_put_112 : decode cL_put 112 = .ok (.irem, 1) := by decide +kernel
theorem dL_put_113 : decode cL_put 113 = .ok (.iadd, 1) := by decide +kernel
theorem dL_put_114 : decode cL_put 114 = .ok (.invokestatic 9, 3) := by decide +kernel
theorem dL_put_117 : decode cL_put 117 = .ok (.iload 7, 2) := by decide +kernel
theorem dL_put_119 : decode cL_put 119 = .ok (.iconst 4, 1) := by decide +kernel
theorem dL_put_120 : decode cL_put 120 = .ok (.idiv, 1) := by decide +kernel
theorem dL_put_121 : decode cL_put 121 = .ok (.bipush 9, 2) := by decide +kernel
theorem dL_put_123 : decode cL_put 123 = .ok (.imul, 1) := by decide +kernel
theorem dL_put_124 : decode cL_put 124 = .ok (.ishr, 1) := by decide +kernel
theorem dL_put_125 : decode cL_put 125 = .ok (.istore 8, 2) := by decide +kernel
theorem dL_put_127 : decode cL_put 127 = .ok (.aload 4, 2) := by decide +kernel
theorem dL_put_129 : decode cL_put 129 = .ok (.iconst 2, 1) := by decide +kernel
theorem dL_put_130 : decode cL_put 130 = .ok (.iload 7, 2) := by decide +kernel
theorem dL_put_132 : decode cL_put 132 = .ok (.iadd, 1) := by decide +kernel
theorem dL_put_133 : decode cL_put 133 = .ok (.iload 8, 2) := by decide +kernel
theorem dL_put_135 : decode cL_put 135 = .ok (.iconst 3, 1) := by decide +kernel
theorem dL_put_136 : decode cL_put 136 = .ok (.invokestatic 15, 3) := by decide +kernel
theorem dL_put_139 : decode cL_put 139 = .ok (.iastore, 1) := by decide +kernel
theorem dL_put_140 : decode cL_put 140 = .ok (.aload 4, 2) := by decide +kernel
theorem dL_put_142 : decode cL_put 142 = .ok (.bipush 12, 2) := by decide +kernel
theorem dL_put_144 : decode cL_put 144 = .ok (.iload 7, 2) := by decide +kernel
theorem dL_put_146 : decode cL_put 146 = .ok (.iadd, 1) := by decide +kernel
theorem dL_put_147 : decode cL_put 147 = .ok (.iload 8, 2) := by decide +kernel
theorem dL_put_149 : decode cL_put 149 = .ok (.iconst 1, 1) := by decide +kernel
theorem dL_put_150 : decode cL_put 150 = .ok (.ishr, 1) := by decide +kernel
theorem dL_put_151 : decode cL_put 151 = .ok (.aload 4, 2) := by decide +kernel
theorem dL_put_153 : decode cL_put 153 = .ok (.iconst 0, 1) := by decide +kernel
theorem dL_put_154 : decode cL_put 154 = .ok (.iaload, 1) := by decide +kernel
theorem dL_put_155 : decode cL_put 155 = .ok (.invokestatic 15, 3) := by decide +kernel
theorem dL_put_158 : decode cL_put 158 = .ok (.iastore, 1) := by decide +kernel
theorem dL_put_159 : decode cL_put 159 = .ok (.aload 4, 2) := by decide +kernel
theorem dL_put_161 : decode cL_put 161 = .ok (.bipush 22, 2) := by decide +kernel
theorem dL_put_163 : decode cL_put 163 = .ok (.iload 7, 2) := by decide +kernel
theorem dL_put_165 : decode cL_put 165 = .ok (.iadd, 1) := by decide +kernel
theorem dL_put_166 : decode cL_put 166 = .ok (.iconst 1, 1) := by decide +kernel
theorem dL_put_167 : decode cL_put 167 = .ok (.iload 8, 2) := by decide +kernel
theorem dL_put_169 : decode cL_put 169 = .ok (.iconst 3, 1) := by decide +kernel
theorem dL_put_170 : decode cL_put 170 = .ok (.ishr, 1) := by decide +kernel
theorem dL_put_171 : decode cL_put 171 = .ok (.iload 5, 2) := by decide +kernel
theorem dL_put_173 : decode cL_put 173 = .ok (.bipush 7, 2) := by decide +kernel
theorem dL_put_175 : decode cL_put 175 = .ok (.ishr, 1) := by decide +kernel
theorem dL_put_176 : decode cL_put 176 = .ok (.iconst 2, 1) := by decide +kernel
theorem dL_put_177 : decode cL_put 177 = .ok (.invokestatic 15, 3) := by decide +kernel
theorem dL_put_180 : decode cL_put 180 = .ok (.ifCond .ne 8, 3) := by decide +kernel
theorem dL_put_183 : decode cL_put 183 = .ok (.bipush 99, 2) := by decide +kernel
theorem dL_put_185 : decode cL_put 185 = .ok (.goto 5, 3) := by decide +kernel
theorem dL_put_188 : decode cL_put 188 = .ok (.bipush 25, 2) := by decide +kernel
theorem dL_put_190 : decode cL_put 190 = .ok (.invokestatic 15, 3) := by decide +kernel
theorem dL_put_193 : decode cL_put 193 = .ok (.iadd, 1) := by decide +kernel
theorem dL_put_194 : decode cL_put 194 = .ok (.iastore, 1) := by decide +kernel
theorem dL_put_195 : decode cL_put 195 = .ok (.aload_n 0, 1) := by decide +kernel
theorem dL_put_196 : decode cL_put 196 = .ok (.iconst 0, 1) := by decide +kernel
theorem dL_put_197 : decode cL_put 197 = .ok (.iload 6, 2) := by decide +kernel
theorem dL_put_199 : decode cL_put 199 = .ok (.iinc 6 1, 3) := by decide +kernel
theorem dL_put_202 : decode cL_put 202 = .ok (.bipush 59, 2) := by decide +kernel
theorem dL_put_204 : decode cL_put 204 = .ok (.invokevirtual 25, 3) := by decide +kernel
theorem dL_put_207 : decode cL_put 207 = .ok (.iconst 1, 1) := by decide +kernel
theorem dL_put_208 : decode cL_put 208 = .ok (.if_icmp .ne 131, 3) := by decide +kernel
theorem dL_put_211 : decode cL_put 211 = .ok (.aload_n 0, 1) := by decide +kernel
theorem dL_put_212 : decode cL_put 212 = .ok (.iconst 0, 1) := by decide +kernel
theorem dL_put_213 : decode cL_put 213 = .ok (.iload 6, 2) := by decide +kernel
theorem dL_put_215 : decode cL_put 215 = .ok (.iinc 6 1, 3) := by decide +kernel
theorem dL_put_218 : decode cL_put 218 = .ok (.aload 4, 2) := by decide +kernel
theorem dL_put_220 : decode cL_put 220 = .ok (.iconst 2, 1) := by decide +kernel
theorem dL_put_221 : decode cL_put 221 = .ok (.iload 7, 2) := by decide +kernel
theorem dL_put_223 : decode cL_put 223 = .ok (.iadd, 1) := by decide +kernel
theorem dL_put_224 : decode cL_put 224 = .ok (.iaload, 1) := by decide +kernel
theorem dL_put_225 : decode cL_put 225 = .ok (.ifCond .ne 8, 3) := by decide +kernel
theorem dL_put_228 : decode cL_put 228 = .ok (.bipush 116, 2) := by decide +kernel
theorem dL_put_230 : decode cL_put 230 = .ok (.goto 21, 3) := by decide +kernel
theorem dL_put_233 : decode cL_put 233 = .ok (.aload 4, 2) := by decide +kernel
theorem dL_put_235 : decode cL_put 235 = .ok (.iconst 2, 1) := by decide +kernel
theorem dL_put_236 : decode cL_put 236 = .ok (.iload 7, 2) := by decide +kernel
theorem dL_put_238 : decode cL_put 238 = .ok (.iadd, 1) := by decide +kernel
theorem dL_put_239 : decode cL_put 239 = .ok (.iaload, 1) := by decide +kernel
theorem dL_put_240 : decode cL_put 240 = .ok (.iconst 1, 1) := by decide +kernel
theorem dL_put_241 : decode cL_put 241 = .ok (.if_icmp .ne 8, 3) := by decide +kernel
theorem dL_put_244 : decode cL_put 244 = .ok (.bipush 103, 2) := by decide +kernel
theorem dL_put_246 : decode cL_put 246 = .ok (.goto 5, 3) := by decide +kernel
theorem dL_put_249 : decode cL_put 249 = .ok (.bipush 119, 2) := by decide +kernel
theorem dL_put_251 : decode cL_put 251 = .ok (.invokevirtual 25, 3) := by decide +kernel
theorem dL_put_254 : decode cL_put 254 = .ok (.iconst 1, 1) := by decide +kernel
theorem dL_put_255 : decode cL_put 255 = .ok (.if_icmp .ne 84, 3) := by decide +kernel
theorem dL_put_258 : decode cL_put 258 = .ok (.aload_n 0, 1) := by decide +kernel
theorem dL_put_259 : decode cL_put 259 = .ok (.iconst 0, 1) := by decide +kernel
theorem dL_put_260 : decode cL_put 260 = .ok (.iload 6, 2) := by decide +kernel
theorem dL_put_262 : decode cL_put 262 = .ok (.iinc 6 1, 3) := by decide +kernel
theorem dL_put_265 : decode cL_put 265 = .ok (.bipush 48, 2) := by decide +kernel
theorem dL_put_267 : decode cL_put 267 = .ok (.aload 4, 2) := by decide +kernel
theorem dL_put_269 : decode cL_put 269 = .ok (.bipush 12, 2) := by decide +kernel
theorem dL_put_271 : decode cL_put 271 = .ok (.iload 7, 2) := by decide +kernel
theorem dL_put_273 : decode cL_put 273 = .ok (.iadd, 1) := by decide +kernel
theorem dL_put_274 : decode cL_put 274 = .ok (.iaload, 1) := by decide +kernel
theorem dL_put_275 : decode cL_put 275 = .ok (.iadd, 1) := by decide +kernel
theorem dL_put_276 : decode cL_put 276 = .ok (.invokevirtual 25, 3) := by decide +kernel
theorem dL_put_279 : decode cL_put 279 = .ok (.iconst 1, 1) := by decide +kernel
theorem dL_put_280 : decode cL_put 280 = .ok (.if_icmp .ne 59, 3) := by decide +kernel
theorem dL_put_283 : decode cL_put 283 = .ok (.aload_n 0, 1) := by decide +kernel
theorem dL_put_284 : decode cL_put 284 = .ok (.iconst 0, 1) := by decide +kernel
theorem dL_put_285 : decode cL_put 285 = .ok (.iload 6, 2) := by decide +kernel
theorem dL_put_287 : decode cL_put 287 = .ok (.iinc 6 1, 3) := by decide +kernel
theorem dL_put_290 : decode cL_put 290 = .ok (.bipush 48, 2) := by decide +kernel
theorem dL_put_292 : decode cL_put 292 = .ok (.aload 4, 2) := by decide +kernel
theorem dL_put_294 : decode cL_put 294 = .ok (.bipush 22, 2) := by decide +kernel
theorem dL_put_296 : decode cL_put 296 = .ok (.iload 7, 2) := by decide +kernel
theorem dL_put_298 : decode cL_put 298 = .ok (.iadd, 1) := by decide +kernel
theorem dL_put_299 : decode cL_put 299 = .ok (.iaload, 1) := by decide +kernel
theorem dL_put_300 : decode cL_put 300 = .ok (.bipush 10, 2) := by decide +kernel
theorem dL_put_302 : decode cL_put 302 = .ok (.idiv, 1) := by decide +kernel
theorem dL_put_303 : decode cL_put 303 = .ok (.iadd, 1) := by decide +kernel
theorem dL_put_304 : decode cL_put 304 = .ok (.invokevirtual 25, 3) := by decide +kernel
theorem dL_put_307 : decode cL_put 307 = .ok (.iconst 1, 1) := by decide +kernel
theorem dL_put_308 : decode cL_put 308 = .ok (.if_icmp .ne 31, 3) := by decide +kernel
theorem dL_put_311 : decode cL_put 311 = .ok (.aload_n 0, 1) := by decide +kernel
theorem dL_put_312 : decode cL_put 312 = .ok (.iconst 0, 1) := by decide +kernel
theorem dL_put_313 : decode cL_put 313 = .ok (.iload 6, 2) := by decide +kernel
theorem dL_put_315 : decode cL_put 315 = .ok (.iinc 6 1, 3) := by decide +kernel
theorem dL_put_318 : decode cL_put 318 = .ok (.bipush 48, 2) := by decide +kernel
theorem dL_put_320 : decode cL_put 320 = .ok (.aload 4, 2) := by decide +kernel
theorem dL_put_322 : decode cL_put 322 = .ok (.bipush 22, 2) := by decide +kernel
theorem dL_put_324 : decode cL_put 324 = .ok (.iload 7, 2) := by decide +kernel
theorem dL_put_326 : decode cL_put 326 = .ok (.iadd, 1) := by decide +kernel
theorem dL_put_327 : decode cL_put 327 = .ok (.iaload, 1) := by decide +kernel
theorem dL_put_328 : decode cL_put 328 = .ok (.bipush 10, 2) := by decide +kernel
theorem dL_put_330 : decode cL_put 330 = .ok (.irem, 1) := by decide +kernel
theorem dL_put_331 : decode cL_put 331 = .ok (.iadd, 1) := by decide +kernel
theorem dL_put_332 : decode cL_put 332 = .ok (.invokevirtual 25, 3) := by decide +kernel
theorem dL_put_335 : decode cL_put 335 = .ok (.iconst 1, 1) := by decide +kernel
theorem dL_put_336 : decode cL_put 336 = .ok (.if_icmp .eq 6, 3) := by decide +kernel
theorem dL_put_339 : decode cL_put 339 = .ok (.bipush (-99), 2) := by decide +kernel
theorem dL_put_341 : decode cL_put 341 = .ok (.ireturn, 1) := by decide +kernel
theorem dL_put_342 : decode cL_put 342 = .ok (.iinc 7 1, 3) := by decide +kernel
theorem dL_put_345 : decode cL_put 345 = .ok (.goto (-249), 3) := by decide +kernel
theorem dL_put_348 : decode cL_put 348 = .ok (.iload 6, 2) := by decide +kernel
theorem dL_put_350 : decode cL_put 350 = .ok (.ireturn, 1) := by decide +kernel
theorem dL_times_0 : decode cL_times 0 = .ok (.iconst 0, 1) := by decide +kernel
theorem dL_times_1 : decode cL_times 1 = .ok (.istore_n 3, 1) := by decide +kernel
theorem dL_times_2 : decode cL_times 2 = .ok (.iconst 0, 1) := by decide +kernel
theorem dL_times_3 : decode cL_times 3 = .ok (.istore 4, 2) := by decide +kernel
theorem dL_times_5 : decode cL_times 5 = .ok (.iload 4, 2) := by decide +kernel
theorem dL_times_7 : decode cL_times 7 = .ok (.iconst 5, 1) := by decide +kernel
theorem dL_times_8 : decode cL_times 8 = .ok (.iload_n 1, 1) := by decide +kernel
theorem dL_times_9 : decode cL_times 9 = .ok (.imul, 1) := by decide +kernel
theorem dL_times_10 : decode cL_times 10 = .ok (.if_icmp .ge 25, 3) := by decide +kernel
theorem dL_times_13 : decode cL_times 13 = .ok (.iload_n 3, 1) := by decide +kernel
theorem dL_times_14 : decode cL_times 14 = .ok (.aload_n 0, 1) := by decide +kernel
theorem dL_times_15 : decode cL_times 15 = .ok (.iload 4, 2) := by decide +kernel
theorem dL_times_17 : decode cL_times 17 = .ok (.iaload, 1) := by decide +kernel
theorem dL_times_18 : decode cL_times 18 = .ok (.iload_n 2, 1) := by decide +kernel
theorem dL_times_19 : decode cL_times 19 = .ok (.if_icmp .ne 7, 3) := by decide +kernel
theorem dL_times_22 : decode cL_times 22 = .ok (.iconst 1, 1) := by decide +kernel
theorem dL_times_23 : decode cL_times 23 = .ok (.goto 4, 3) := by decide +kernel
theorem dL_times_26 : decode cL_times 26 = .ok (.iconst 0, 1) := by decide +kernel
theorem dL_times_27 : decode cL_times 27 = .ok (.iadd, 1) := by decide +kernel
theorem dL_times_28 : decode cL_times 28 = .ok (.istore_n 3, 1) := by decide +kernel
theorem dL_times_29 : decode cL_times 29 = .ok (.iinc 4 1, 3) := by decide +kernel
theorem dL_times_32 : decode cL_times 32 = .ok (.goto (-27), 3) := by decide +kernel
theorem dL_times_35 : decode cL_times 35 = .ok (.iload_n 3, 1) := by decide +kernel
theorem dL_times_36 : decode cL_times 36 = .ok (.ireturn, 1) := by decide +kernel
theorem dL_last_0 : decode cL_last 0 = .ok (.bipush (-9), 2) := by decide +kernel
theorem dL_last_2 : decode cL_last 2 = .ok (.istore_n 3, 1) := by decide +kernel
theorem dL_last_3 : decode cL_last 3 = .ok (.iconst 0, 1) := by decide +kernel
theorem dL_last_4 : decode cL_last 4 = .ok (.istore 4, 2) := by decide +kernel
theorem dL_last_6 : decode cL_last 6 = .ok (.iload 4, 2) := by decide +kernel
theorem dL_last_8 : decode cL_last 8 = .ok (.iconst 5, 1) := by decide +kernel
theorem dL_last_9 : decode cL_last 9 = .ok (.iload_n 1, 1) := by decide +kernel
theorem dL_last_10 : decode cL_last 10 = .ok (.imul, 1) := by decide +kernel
theorem dL_last_11 : decode cL_last 11 = .ok (.if_icmp .ge 26, 3) := by decide +kernel
theorem dL_last_14 : decode cL_last 14 = .ok (.aload_n 0, 1) := by decide +kernel
theorem dL_last_15 : decode cL_last 15 = .ok (.iload 4, 2) := by decide +kernel
theorem dL_last_17 : decode cL_last 17 = .ok (.iaload, 1) := by decide +kernel
theorem dL_last_18 : decode cL_last 18 = .ok (.iload_n 2, 1) := by decide +kernel
theorem dL_last_19 : decode cL_last 19 = .ok (.if_icmp .ne 10, 3) := by decide +kernel
theorem dL_last_22 : decode cL_last 22 = .ok (.iload 4, 2) := by decide +kernel
theorem dL_last_24 : decode cL_last 24 = .ok (.iconst 5, 1) := by decide +kernel
theorem dL_last_25 : decode cL_last 25 = .ok (.idiv, 1) := by decide +kernel
theorem dL_last_26 : decode cL_last 26 = .ok (.goto 4, 3) := by decide +kernel
theorem dL_last_29 : decode cL_last 29 = .ok (.iload_n 3, 1) := by decide +kernel
theorem dL_last_30 : decode cL_last 30 = .ok (.istore_n 3, 1) := by decide +kernel
theorem dL_last_31 : decode cL_last 31 = .ok (.iinc 4 1, 3) := by decide +kernel
theorem dL_last_34 : decode cL_last 34 = .ok (.goto (-28), 3) := by decide +kernel
theorem dL_last_37 : decode cL_last 37 = .ok (.iload_n 3, 1) := by decide +kernel
theorem dL_last_38 : decode cL_last 38 = .ok (.ireturn, 1) := by decide +kernel
theorem dL_may_0 : decode cL_may 0 = .ok (.aload_n 1, 1) := by decide +kernel
theorem dL_may_1 : decode cL_may 1 = .ok (.aload_n 0, 1) := by decide +kernel
theorem dL_may_2 : decode cL_may 2 = .ok (.bipush 33, 2) := by decide +kernel
theorem dL_may_4 : decode cL_may 4 = .ok (.iaload, 1) := by decide +kernel
theorem dL_may_5 : decode cL_may 5 = .ok (.iload_n 2, 1) := by decide +kernel
theorem dL_may_6 : decode cL_may 6 = .ok (.invokestatic 28, 3) := by decide +kernel
theorem dL_may_9 : decode cL_may 9 = .ok (.istore_n 3, 1) := by decide +kernel
theorem dL_may_10 : decode cL_may 10 = .ok (.iload_n 3, 1) := by decide +kernel
theorem dL_may_11 : decode cL_may 11 = .ok (.ifCond .ge 5, 3) := by decide +kernel
theorem dL_may_14 : decode cL_may 14 = .ok (.iconst 1, 1) := by decide +kernel
theorem dL_may_15 : decode cL_may 15 = .ok (.ireturn, 1) := by decide +kernel
theorem dL_may_16 : decode cL_may 16 = .ok (.aload_n 0, 1) := by decide +kernel
theorem dL_may_17 : decode cL_may 17 = .ok (.iconst 2, 1) := by decide +kernel
theorem dL_may_18 : decode cL_may 18 = .ok (.iload_n 2, 1) := by decide +kernel
theorem dL_may_19 : decode cL_may 19 = .ok (.iadd, 1) := by decide +kernel
theorem dL_may_20 : decode cL_may 20 = .ok (.iaload, 1) := by decide +kernel
theorem dL_may_21 : decode cL_may 21 = .ok (.ifCond .ne 24, 3) := by decide +kernel
theorem dL_may_24 : decode cL_may 24 = .ok (.aload_n 0, 1) := by decide +kernel
theorem dL_may_25 : decode cL_may 25 = .ok (.bipush 33, 2) := by decide +kernel
theorem dL_may_27 : decode cL_may 27 = .ok (.iaload, 1) := by decide +kernel
theorem dL_may_28 : decode cL_may 28 = .ok (.iload_n 3, 1) := by decide +kernel
theorem dL_may_29 : decode cL_may 29 = .ok (.isub, 1) := by decide +kernel
theorem dL_may_30 : decode cL_may 30 = .ok (.aload_n 0, 1) := by decide +kernel
theorem dL_may_31 : decode cL_may 31 = .ok (.bipush 32, 2) := by decide +kernel
theorem dL_may_33 : decode cL_may 33 = .ok (.iaload, 1) := by decide +kernel
theorem dL_may_34 : decode cL_may 34 = .ok (.if_icmp .le 7, 3) := by decide +kernel
theorem dL_may_37 : decode cL_may 37 = .ok (.iconst 1, 1) := by decide +kernel
theorem dL_may_38 : decode cL_may 38 = .ok (.goto 31, 3) := by decide +kernel
theorem dL_may_41 : decode cL_may 41 = .ok (.iconst 0, 1) := by decide +kernel
theorem dL_may_42 : decode cL_may 42 = .ok (.goto 27, 3) := by decide +kernel
theorem dL_may_45 : decode cL_may 45 = .ok (.aload_n 0, 1) := by decide +kernel
theorem dL_may_46 : decode cL_may 46 = .ok (.iconst 2, 1) := by decide +kernel
theorem dL_may_47 : decode cL_may 47 = .ok (.iload_n 2, 1) := by decide +kernel
theorem dL_may_48 : decode cL_may 48 = .ok (.iadd, 1) := by decide +kernel
theorem dL_may_49 : decode cL_may 49 = .ok (.iaload, 1) := by decide +kernel
theorem dL_may_50 : decode cL_may 50 = .ok (.iconst 1, 1) := by decide +kernel
theorem dL_may_51 : decode cL_may 51 = .ok (.if_icmp .ne 17, 3) := by decide +kernel
theorem dL_may_54 : decode cL_may 54 = .ok (.aload_n 0, 1) := by decide +kernel
theorem dL_may_55 : decode cL_may 55 = .ok (.bipush 33, 2) := by decide +kernel
theorem dL_may_57 : decode cL_may 57 = .ok (.iaload, 1) := by decide +kernel
theorem dL_may_58 : decode cL_may 58 = .ok (.iload_n 3, 1) := by decide +kernel
theorem dL_may_59 : decode cL_may 59 = .ok (.isub, 1) := by decide +kernel
theorem dL_may_60 : decode cL_may 60 = .ok (.iconst 1, 1) := by decide +kernel
theorem dL_may_61 : decode cL_may 61 = .ok (.if_icmp .le 7, 3) := by decide +kernel
theorem dL_may_64 : decode cL_may 64 = .ok (.iconst 1, 1) := by decide +kernel
theorem dL_may_65 : decode cL_may 65 = .ok (.goto 4, 3) := by decide +kernel
theorem dL_may_68 : decode cL_may 68 = .ok (.iconst 0, 1) := by decide +kernel
theorem dL_may_69 : decode cL_may 69 = .ok (.ireturn, 1) := by decide +kernel
theorem dL_tall_0 : decode cL_tall 0 = .ok (.aload_n 0, 1) := by decide +kernel
theorem dL_tall_1 : decode cL_tall 1 = .ok (.bipush 22, 2) := by decide +kernel
theorem dL_tall_3 : decode cL_tall 3 = .ok (.iload_n 3, 1) := by decide +kernel
theorem dL_tall_4 : decode cL_tall 4 = .ok (.iadd, 1) := by decide +kernel
theorem dL_tall_5 : decode cL_tall 5 = .ok (.iaload, 1) := by decide +kernel
theorem dL_tall_6 : decode cL_tall 6 = .ok (.aload_n 0, 1) := by decide +kernel
theorem dL_tall_7 : decode cL_tall 7 = .ok (.iconst 2, 1) := by decide +kernel
theorem dL_tall_8 : decode cL_tall 8 = .ok (.iload_n 3, 1) := by decide +kernel
theorem dL_tall_9 : decode cL_tall 9 = .ok (.iadd, 1) := by decide +kernel
theorem dL_tall_10 : decode cL_tall 10 = .ok (.iaload, 1) := by decide +kernel
theorem dL_tall_11 : decode cL_tall 11 = .ok (.iconst 2, 1) := by decide +kernel
theorem dL_tall_12 : decode cL_tall 12 = .ok (.if_icmp .ne 9, 3) := by decide +kernel
theorem dL_tall_15 : decode cL_tall 15 = .ok (.sipush 900, 3) := by decide +kernel
theorem dL_tall_18 : decode cL_tall 18 = .ok (.goto 25, 3) := by decide +kernel
theorem dL_tall_21 : decode cL_tall 21 = .ok (.aload_n 0, 1) := by decide +kernel
theorem dL_tall_22 : decode cL_tall 22 = .ok (.iconst 2, 1) := by decide +kernel
theorem dL_tall_23 : decode cL_tall 23 = .ok (.iload_n 3, 1) := by decide +kernel
theorem dL_tall_24 : decode cL_tall 24 = .ok (.iadd, 1) := by decide +kernel
theorem dL_tall_25 : decode cL_tall 25 = .ok (.iaload, 1) := by decide +kernel
theorem dL_tall_26 : decode cL_tall 26 = .ok (.iconst 1, 1) := by decide +kernel
theorem dL_tall_27 : decode cL_tall 27 = .ok (.if_icmp .ne 15, 3) := by decide +kernel
theorem dL_tall_30 : decode cL_tall 30 = .ok (.bipush 10, 2) := by decide +kernel
theorem dL_tall_32 : decode cL_tall 32 = .ok (.aload_n 1, 1) := by decide +kernel
theorem dL_tall_33 : decode cL_tall 33 = .ok (.iload_n 2, 1) := by decide +kernel
theorem dL_tall_34 : decode cL_tall 34 = .ok (.iload_n 3, 1) := by decide +kernel
theorem dL_tall_35 : decode cL_tall 35 = .ok (.invokestatic 32, 3) := by decide +kernel
theorem dL_tall_38 : decode cL_tall 38 = .ok (.imul, 1) := by decide +kernel
theorem dL_tall_39 : decode cL_tall 39 = .ok (.goto 4, 3) := by decide +kernel
theorem dL_tall_42 : decode cL_tall 42 = .ok (.iconst 0, 1) := by decide +kernel
theorem dL_tall_43 : decode cL_tall 43 = .ok (.iadd, 1) := by decide +kernel
theorem dL_tall_44 : decode cL_tall 44 = .ok (.ireturn, 1) := by decide +kernel
theorem dL_place_0 : decode cL_place 0 = .ok (.aload_n 3, 1) := by decide +kernel
theorem dL_place_1 : decode cL_place 1 = .ok (.iload 4, 2) := by decide +kernel
theorem dL_place_3 : decode cL_place 3 = .ok (.iload 5, 2) := by decide +kernel
theorem dL_place_5 : decode cL_place 5 = .ok (.iadd, 1) := by decide +kernel
theorem dL_place_6 : decode cL_place 6 = .ok (.iaload, 1) := by decide +kernel
theorem dL_place_7 : decode cL_place 7 = .ok (.ifCond .ge 7, 3) := by decide +kernel
theorem dL_place_10 : decode cL_place 10 = .ok (.iconst 0, 1) := by decide +kernel
theorem dL_place_11 : decode cL_place 11 = .ok (.goto 16, 3) := by decide +kernel
theorem dL_place_14 : decode cL_place 14 = .ok (.aload_n 0, 1) := by decide +kernel
theorem dL_place_15 : decode cL_place 15 = .ok (.aload_n 1, 1) := by decide +kernel
theorem dL_place_16 : decode cL_place 16 = .ok (.iload_n 2, 1) := by decide +kernel
theorem dL_place_17 : decode cL_place 17 = .ok (.aload_n 3, 1) := by decide +kernel
theorem dL_place_18 : decode cL_place 18 = .ok (.iload 4, 2) := by decide +kernel
theorem dL_place_20 : decode cL_place 20 = .ok (.iload 5, 2) := by decide +kernel
theorem dL_place_22 : decode cL_place 22 = .ok (.iadd, 1) := by decide +kernel
theorem dL_place_23 : decode cL_place 23 = .ok (.iaload, 1) := by decide +kernel
theorem dL_place_24 : decode cL_place 24 = .ok (.invokestatic 35, 3) := by decide +kernel
theorem dL_place_27 : decode cL_place 27 = .ok (.istore 6, 2) := by decide +kernel
theorem dL_place_29 : decode cL_place 29 = .ok (.iconst 0, 1) := by decide +kernel
theorem dL_place_30 : decode cL_place 30 = .ok (.istore 7, 2) := by decide +kernel
theorem dL_place_32 : decode cL_place 32 = .ok (.iconst 0, 1) := by decide +kernel
theorem dL_place_33 : decode cL_place 33 = .ok (.istore 8, 2) := by decide +kernel
theorem dL_place_35 : decode cL_place 35 = .ok (.iload 8, 2) := by decide +kernel
theorem dL_place_37 : decode cL_place 37 = .ok (.aload_n 0, 1) := by decide +kernel
theorem dL_place_38 : decode cL_place 38 = .ok (.iconst 0, 1) := by decide +kernel
theorem dL_place_39 : decode cL_place 39 = .ok (.iaload, 1) := by decide +kernel
theorem dL_place_40 : decode cL_place 40 = .ok (.if_icmp .ge 69, 3) := by decide +kernel
theorem dL_place_43 : decode cL_place 43 = .ok (.aload_n 3, 1) := by decide +kernel
theorem dL_place_44 : decode cL_place 44 = .ok (.iload 4, 2) := by decide +kernel
theorem dL_place_46 : decode cL_place 46 = .ok (.iload 8, 2) := by decide +kernel
theorem dL_place_48 : decode cL_place 48 = .ok (.iadd, 1) := by decide +kernel
theorem dL_place_49 : decode cL_place 49 = .ok (.iaload, 1) := by decide +kernel
theorem dL_place_50 : decode cL_place 50 = .ok (.ifCond .ge 7, 3) := by decide +kernel
theorem dL_place_53 : decode cL_place 53 = .ok (.iconst 0, 1) := by decide +kernel
theorem dL_place_54 : decode cL_place 54 = .ok (.goto 16, 3) := by decide +kernel
theorem dL_place_57 : decode cL_place 57 = .ok (.aload_n 0, 1) := by decide +kernel
theorem dL_place_58 : decode cL_place 58 = .ok (.aload_n 1, 1) := by decide +kernel
theorem dL_place_59 : decode cL_place 59 = .ok (.iload_n 2, 1) := by decide +kernel
theorem dL_place_60 : decode cL_place 60 = .ok (.aload_n 3, 1) := by decide +kernel
theorem dL_place_61 : decode cL_place 61 = .ok (.iload 4, 2) := by decide +kernel
theorem dL_place_63 : decode cL_place 63 = .ok (.iload 8, 2) := by decide +kernel
theorem dL_place_65 : decode cL_place 65 = .ok (.iadd, 1) := by decide +kernel
theorem dL_place_66 : decode cL_place 66 = .ok (.iaload, 1) := by decide +kernel
theorem dL_place_67 : decode cL_place 67 = .ok (.invokestatic 35, 3) := by decide +kernel
theorem dL_place_70 : decode cL_place 70 = .ok (.istore 9, 2) := by decide +kernel
theorem dL_place_72 : decode cL_place 72 = .ok (.iload 7, 2) := by decide +kernel
theorem dL_place_74 : decode cL_place 74 = .ok (.iload 9, 2) := by decide +kernel
theorem dL_place_76 : decode cL_place 76 = .ok (.iload 6, 2) := by decide +kernel
theorem dL_place_78 : decode cL_place 78 = .ok (.if_icmp .gt 17, 3) := by decide +kernel
theorem dL_place_81 : decode cL_place 81 = .ok (.iload 9, 2) := by decide +kernel
theorem dL_place_83 : decode cL_place 83 = .ok (.iload 6, 2) := by decide +kernel
theorem dL_place_85 : decode cL_place 85 = .ok (.if_icmp .ne 14, 3) := by decide +kernel
theorem dL_place_88 : decode cL_place 88 = .ok (.iload 8, 2) := by decide +kernel
theorem dL_place_90 : decode cL_place 90 = .ok (.iload 5, 2) := by decide +kernel
theorem dL_place_92 : decode cL_place 92 = .ok (.if_icmp .ge 7, 3) := by decide +kernel
theorem dL_place_95 : decode cL_place 95 = .ok (.iconst 1, 1) := by decide +kernel
theorem dL_place_96 : decode cL_place 96 = .ok (.goto 4, 3) := by decide +kernel
theorem dL_place_99 : decode cL_place 99 = .ok (.iconst 0, 1) := by decide +kernel
theorem dL_place_100 : decode cL_place 100 = .ok (.iadd, 1) := by decide +kernel
theorem dL_place_101 : decode cL_place 101 = .ok (.istore 7, 2) := by decide +kernel
theorem dL_place_103 : decode cL_place 103 = .ok (.iinc 8 1, 3) := by decide +kernel
theorem dL_place_106 : decode cL_place 106 = .ok (.goto (-71), 3) := by decide +kernel
theorem dL_place_109 : decode cL_place 109 = .ok (.iload 7, 2) := by decide +kernel
theorem dL_place_111 : decode cL_place 111 = .ok (.ireturn, 1) := by decide +kernel
theorem dL_choose_0 : decode cL_choose 0 = .ok (.iconst 0, 1) := by decide +kernel
theorem dL_choose_1 : decode cL_choose 1 = .ok (.istore 5, 2) := by decide +kernel
theorem dL_choose_3 : decode cL_choose 3 = .ok (.iload 5, 2) := by decide +kernel
theorem dL_choose_5 : decode cL_choose 5 = .ok (.aload_n 2, 1) := by decide +kernel
theorem dL_choose_6 : decode cL_choose 6 = .ok (.iconst 0, 1) := by decide +kernel
theorem dL_choose_7 : decode cL_choose 7 = .ok (.iaload, 1) := by decide +kernel
theorem dL_choose_8 : decode cL_choose 8 = .ok (.if_icmp .ge 190, 3) := by decide +kernel
theorem dL_choose_11 : decode cL_choose 11 = .ok (.iload_n 1, 1) := by decide +kernel
theorem dL_choose_12 : decode cL_choose 12 = .ok (.iconst 2, 1) := by decide +kernel
theorem dL_choose_13 : decode cL_choose 13 = .ok (.iload 5, 2) := by decide +kernel
theorem dL_choose_15 : decode cL_choose 15 = .ok (.imul, 1) := by decide +kernel
theorem dL_choose_16 : decode cL_choose 16 = .ok (.ishr, 1) := by decide +kernel
theorem dL_choose_17 : decode cL_choose 17 = .ok (.aload_n 2, 1) := by decide +kernel
theorem dL_choose_18 : decode cL_choose 18 = .ok (.iconst 1, 1) := by decide +kernel
theorem dL_choose_19 : decode cL_choose 19 = .ok (.iaload, 1) := by decide +kernel
theorem dL_choose_20 : decode cL_choose 20 = .ok (.iconst 1, 1) := by decide +kernel
theorem dL_choose_21 : decode cL_choose 21 = .ok (.iadd, 1) := by decide +kernel
theorem dL_choose_22 : decode cL_choose 22 = .ok (.invokestatic 15, 3) := by decide +kernel
theorem dL_choose_25 : decode cL_choose 25 = .ok (.istore 6, 2) := by decide +kernel
theorem dL_choose_27 : decode cL_choose 27 = .ok (.iconst 0, 1) := by decide +kernel
theorem dL_choose_28 : decode cL_choose 28 = .ok (.istore 7, 2) := by decide +kernel
theorem dL_choose_30 : decode cL_choose 30 = .ok (.iload 7, 2) := by decide +kernel
theorem dL_choose_32 : decode cL_choose 32 = .ok (.aload_n 2, 1) := by decide +kernel
theorem dL_choose_33 : decode cL_choose 33 = .ok (.iconst 1, 1) := by decide +kernel
theorem dL_choose_34 : decode cL_choose 34 = .ok (.iaload, 1) := by decide +kernel
theorem dL_choose_35 : decode cL_choose 35 = .ok (.if_icmp .ge 63, 3) := by decide +kernel
theorem dL_choose_38 : decode cL_choose 38 = .ok (.iload_n 1, 1) := by decide +kernel
theorem dL_choose_39 : decode cL_choose 39 = .ok (.bipush 11, 2) := by decide +kernel
theorem dL_choose_41 : decode cL_choose 41 = .ok (.iload 5, 2) := by decide +kernel
theorem dL_choose_43 : decode cL_choose 43 = .ok (.iadd, 1) := by decide +kernel
theorem dL_choose_44 : decode cL_choose 44 = .ok (.ishr, 1) := by decide +kernel
theorem dL_choose_45 : decode cL_choose 45 = .ok (.iconst 3, 1) := by decide +kernel
theorem dL_choose_46 : decode cL_choose 46 = .ok (.invokestatic 15, 3) := by decide +kernel
theorem dL_choose_49 : decode cL_choose 49 = .ok (.ifCond .le 49, 3) := by decide +kernel
theorem dL_choose_52 : decode cL_choose 52 = .ok (.iload 6, 2) := by decide +kernel
theorem dL_choose_54 : decode cL_choose 54 = .ok (.aload_n 2, 1) := by decide +kernel
theorem dL_choose_55 : decode cL_choose 55 = .ok (.iconst 1, 1) := by decide +kernel
theorem dL_choose_56 : decode cL_choose 56 = .ok (.iaload, 1) := by decide +kernel
theorem dL_choose_57 : decode cL_choose 57 = .ok (.if_icmp .eq 25, 3) := by decide +kernel
theorem dL_choose_60 : decode cL_choose 60 = .ok (.aload_n 2, 1) := by decide +kernel
theorem dL_choose_61 : decode cL_choose 61 = .ok (.bipush 12, 2) := by decide +kernel
theorem dL_choose_63 : decode cL_choose 63 = .ok (.iload 6, 2) := by decide +kernel
theorem dL_choose_65 : decode cL_choose 65 = .ok (.iadd, 1) := by decide +kernel
theorem dL_choose_66 : decode cL_choose 66 = .ok (.iaload, 1) := by decide +kernel
theorem dL_choose_67 : decode cL_choose 67 = .ok (.iload 5, 2) := by decide +kernel
theorem dL_choose_69 : decode cL_choose 69 = .ok (.if_icmp .ne 13, 3) := by decide +kernel
theorem dL_choose_72 : decode cL_choose 72 = .ok (.aload_n 2, 1) := by decide +kernel
theorem dL_choose_73 : decode cL_choose 73 = .ok (.aload_n 3, 1) := by decide +kernel
theorem dL_choose_74 : decode cL_choose 74 = .ok (.iload 6, 2) := by decide +kernel
theorem dL_choose_76 : decode cL_choose 76 = .ok (.invokestatic 39, 3) := by decide +kernel
theorem dL_choose_79 : decode cL_choose 79 = .ok (.ifCond .ne 19, 3) := by decide +kernel
theorem dL_choose_82 : decode cL_choose 82 = .ok (.iload 6, 2) := by decide +kernel
theorem dL_choose_84 : decode cL_choose 84 = .ok (.iconst 1, 1) := by decide +kernel
theorem dL_choose_85 : decode cL_choose 85 = .ok (.iadd, 1) := by decide +kernel
theorem dL_choose_86 : decode cL_choose 86 = .ok (.aload_n 2, 1) := by decide +kernel
theorem dL_choose_87 : decode cL_choose 87 = .ok (.iconst 1, 1) := by decide +kernel
theorem dL_choose_88 : decode cL_choose 88 = .ok (.iaload, 1) := by decide +kernel
theorem dL_choose_89 : decode cL_choose 89 = .ok (.irem, 1) := by decide +kernel
theorem dL_choose_90 : decode cL_choose 90 = .ok (.istore 6, 2) := by decide +kernel
theorem dL_choose_92 : decode cL_choose 92 = .ok (.iinc 7 1, 3) := by decide +kernel
theorem dL_choose_95 : decode cL_choose 95 = .ok (.goto (-65), 3) := by decide +kernel
theorem dL_choose_98 : decode cL_choose 98 = .ok (.iload 6, 2) := by decide +kernel
theorem dL_choose_100 : decode cL_choose 100 = .ok (.aload_n 2, 1) := by decide +kernel
theorem dL_choose_101 : decode cL_choose 101 = .ok (.iconst 1, 1) := by decide +kernel
theorem dL_choose_102 : decode cL_choose 102 = .ok (.iaload, 1) := by decide +kernel
theorem dL_choose_103 : decode cL_choose 103 = .ok (.if_icmp .ne 7, 3) := by decide +kernel
theorem dL_choose_106 : decode cL_choose 106 = .ok (.bipush (-9), 2) := by decide +kernel
theorem dL_choose_108 : decode cL_choose 108 = .ok (.istore 6, 2) := by decide +kernel
theorem dL_choose_110 : decode cL_choose 110 = .ok (.iload 6, 2) := by decide +kernel
theorem dL_choose_112 : decode cL_choose 112 = .ok (.ifCond .lt 25, 3) := by decide +kernel
theorem dL_choose_115 : decode cL_choose 115 = .ok (.aload_n 2, 1) := by decide +kernel
theorem dL_choose_116 : decode cL_choose 116 = .ok (.bipush 12, 2) := by decide +kernel
theorem dL_choose_118 : decode cL_choose 118 = .ok (.iload 6, 2) := by decide +kernel
theorem dL_choose_120 : decode cL_choose 120 = .ok (.iadd, 1) := by decide +kernel
theorem dL_choose_121 : decode cL_choose 121 = .ok (.iaload, 1) := by decide +kernel
theorem dL_choose_122 : decode cL_choose 122 = .ok (.iload 5, 2) := by decide +kernel
theorem dL_choose_124 : decode cL_choose 124 = .ok (.if_icmp .ne 17, 3) := by decide +kernel
theorem dL_choose_127 : decode cL_choose 127 = .ok (.aload_n 2, 1) := by decide +kernel
theorem dL_choose_128 : decode cL_choose 128 = .ok (.aload_n 3, 1) := by decide +kernel
theorem dL_choose_129 : decode cL_choose 129 = .ok (.iload 6, 2) := by decide +kernel
theorem dL_choose_131 : decode cL_choose 131 = .ok (.invokestatic 39, 3) := by decide +kernel
theorem dL_choose_134 : decode cL_choose 134 = .ok (.ifCond .eq 7, 3) := by decide +kernel
theorem dL_choose_137 : decode cL_choose 137 = .ok (.iconst 1, 1) := by decide +kernel
theorem dL_choose_138 : decode cL_choose 138 = .ok (.goto 4, 3) := by decide +kernel
theorem dL_choose_141 : decode cL_choose 141 = .ok (.iconst 0, 1) := by decide +kernel
theorem dL_choose_142 : decode cL_choose 142 = .ok (.istore 7, 2) := by decide +kernel
theorem dL_choose_144 : decode cL_choose 144 = .ok (.aload_n 0, 1) := by decide +kernel
theorem dL_choose_145 : decode cL_choose 145 = .ok (.iload 5, 2) := by decide +kernel
theorem dL_choose_147 : decode cL_choose 147 = .ok (.iload 6, 2) := by decide +kernel
theorem dL_choose_149 : decode cL_choose 149 = .ok (.invokevirtual 43, 3) := by decide +kernel
theorem dL_choose_152 : decode cL_choose 152 = .ok (.iload 7, 2) := by decide +kernel
theorem dL_choose_154 : decode cL_choose 154 = .ok (.ifCond .eq 11, 3) := by decide +kernel
theorem dL_choose_157 : decode cL_choose 157 = .ok (.aload 4, 2) := by decide +kernel
theorem dL_choose_159 : decode cL_choose 159 = .ok (.iload 5, 2) := by decide +kernel
theorem dL_choose_161 : decode cL_choose 161 = .ok (.iaload, 1) := by decide +kernel
theorem dL_choose_162 : decode cL_choose 162 = .ok (.goto 5, 3) := by decide +kernel
theorem dL_choose_165 : decode cL_choose 165 = .ok (.bipush (-3), 2) := by decide +kernel
theorem dL_choose_167 : decode cL_choose 167 = .ok (.if_icmp .eq 5, 3) := by decide +kernel
theorem dL_choose_170 : decode cL_choose 170 = .ok (.iconst 0, 1) := by decide +kernel
theorem dL_choose_171 : decode cL_choose 171 = .ok (.ireturn, 1) := by decide +kernel
theorem dL_choose_172 : decode cL_choose 172 = .ok (.aload 4, 2) := by decide +kernel
theorem dL_choose_174 : decode cL_choose 174 = .ok (.iload 5, 2) := by decide +kernel
theorem dL_choose_176 : decode cL_choose 176 = .ok (.iload 7, 2) := by decide +kernel
theorem dL_choose_178 : decode cL_choose 178 = .ok (.ifCond .eq 8, 3) := by decide +kernel
theorem dL_choose_181 : decode cL_choose 181 = .ok (.iload 6, 2) := by decide +kernel
theorem dL_choose_183 : decode cL_choose 183 = .ok (.goto 8, 3) := by decide +kernel
theorem dL_choose_186 : decode cL_choose 186 = .ok (.aload 4, 2) := by decide +kernel
theorem dL_choose_188 : decode cL_choose 188 = .ok (.iload 5, 2) := by decide +kernel
theorem dL_choose_190 : decode cL_choose 190 = .ok (.iaload, 1) := by decide +kernel
theorem dL_choose_191 : decode cL_choose 191 = .ok (.iastore, 1) := by decide +kernel
theorem dL_choose_192 : decode cL_choose 192 = .ok (.iinc 5 1, 3) := by decide +kernel
theorem dL_choose_195 : decode cL_choose 195 = .ok (.goto (-192), 3) := by decide +kernel
theorem dL_choose_198 : decode cL_choose 198 = .ok (.iconst 1, 1) := by decide +kernel
theorem dL_choose_199 : decode cL_choose 199 = .ok (.ireturn, 1) := by decide +kernel
theorem dL_law_0 : decode cL_law 0 = .ok (.new 20, 3) := by decide +kernel
theorem dL_law_3 : decode cL_law 3 = .ok (.dup, 1) := by decide +kernel
theorem dL_law_4 : decode cL_law 4 = .ok (.invokespecial 46, 3) := by decide +kernel
theorem dL_law_7 : decode cL_law 7 = .ok (.astore_n 1, 1) := by decide +kernel
theorem dL_law_8 : decode cL_law 8 = .ok (.bipush 34, 2) := by decide +kernel
theorem dL_law_10 : decode cL_law 10 = .ok (.newarray .int, 2) := by decide +kernel
theorem dL_law_12 : decode cL_law 12 = .ok (.astore_n 2, 1) := by decide +kernel
theorem dL_law_13 : decode cL_law 13 = .ok (.bipush 60, 2) := by decide +kernel
theorem dL_law_15 : decode cL_law 15 = .ok (.newarray .int, 2) := by decide +kernel
theorem dL_law_17 : decode cL_law 17 = .ok (.astore_n 3, 1) := by decide +kernel
theorem dL_law_18 : decode cL_law 18 = .ok (.iconst 5, 1) := by decide +kernel
theorem dL_law_19 : decode cL_law 19 = .ok (.newarray .int, 2) := by decide +kernel
theorem dL_law_21 : decode cL_law 21 = .ok (.astore 4, 2) := by decide +kernel
theorem dL_law_23 : decode cL_law 23 = .ok (.aload_n 1, 1) := by decide +kernel
theorem dL_law_24 : decode cL_law 24 = .ok (.aload_n 0, 1) := by decide +kernel
theorem dL_law_25 : decode cL_law 25 = .ok (.iconst 0, 1) := by decide +kernel
theorem dL_law_26 : decode cL_law 26 = .ok (.bipush 10, 2) := by decide +kernel
theorem dL_law_28 : decode cL_law 28 = .ok (.aload_n 2, 1) := by decide +kernel
theorem dL_law_29 : decode cL_law 29 = .ok (.invokestatic 47, 3) := by decide +kernel
theorem dL_law_32 : decode cL_law 32 = .ok (.istore 5, 2) := by decide +kernel
theorem dL_law_34 : decode cL_law 34 = .ok (.iload 5, 2) := by decide +kernel
theorem dL_law_36 : decode cL_law 36 = .ok (.bipush 7, 2) := by decide +kernel
theorem dL_law_38 : decode cL_law 38 = .ok (.if_icmp .lt 18, 3) := by decide +kernel
theorem dL_law_41 : decode cL_law 41 = .ok (.aload_n 1, 1) := by decide +kernel
theorem dL_law_42 : decode cL_law 42 = .ok (.iconst 0, 1) := by decide +kernel
theorem dL_law_43 : decode cL_law 43 = .ok (.iconst 0, 1) := by decide +kernel
theorem dL_law_44 : decode cL_law 44 = .ok (.iconst 0, 1) := by decide +kernel
theorem dL_law_45 : decode cL_law 45 = .ok (.iload 5, 2) := by decide +kernel
theorem dL_law_47 : decode cL_law 47 = .ok (.invokevirtual 50, 3) := by decide +kernel
theorem dL_law_50 : decode cL_law 50 = .ok (.aload_n 2, 1) := by decide +kernel
theorem dL_law_51 : decode cL_law 51 = .ok (.iconst 1, 1) := by decide +kernel
theorem dL_law_52 : decode cL_law 52 = .ok (.iaload, 1) := by decide +kernel
theorem dL_law_53 : decode cL_law 53 = .ok (.if_icmp .eq 5, 3) := by decide +kernel
theorem dL_law_56 : decode cL_law 56 = .ok (.iconst 0, 1) := by decide +kernel
theorem dL_law_57 : decode cL_law 57 = .ok (.ireturn, 1) := by decide +kernel
theorem dL_law_58 : decode cL_law 58 = .ok (.iconst 0, 1) := by decide +kernel
theorem dL_law_59 : decode cL_law 59 = .ok (.istore 6, 2) := by decide +kernel
theorem dL_law_61 : decode cL_law 61 = .ok (.iload 6, 2) := by decide +kernel
theorem dL_law_63 : decode cL_law 63 = .ok (.iconst 5, 1) := by decide +kernel
theorem dL_law_64 : decode cL_law 64 = .ok (.if_icmp .ge 16, 3) := by decide +kernel
theorem dL_law_67 : decode cL_law 67 = .ok (.aload 4, 2) := by decide +kernel
theorem dL_law_69 : decode cL_law 69 = .ok (.iload 6, 2) := by decide +kernel
theorem dL_law_71 : decode cL_law 71 = .ok (.bipush (-9), 2) := by decide +kernel
theorem dL_law_73 : decode cL_law 73 = .ok (.iastore, 1) := by decide +kernel
theorem dL_law_74 : decode cL_law 74 = .ok (.iinc 6 1, 3) := by decide +kernel
theorem dL_law_77 : decode cL_law 77 = .ok (.goto (-16), 3) := by decide +kernel
theorem dL_law_80 : decode cL_law 80 = .ok (.iconst 0, 1) := by decide +kernel
theorem dL_law_81 : decode cL_law 81 = .ok (.istore 6, 2) := by decide +kernel
theorem dL_law_83 : decode cL_law 83 = .ok (.iload 6, 2) := by decide +kernel
theorem dL_law_85 : decode cL_law 85 = .ok (.bipush 11, 2) := by decide +kernel
theorem dL_law_87 : decode cL_law 87 = .ok (.if_icmp .ge 1199, 3) := by decide +kernel
theorem dL_law_90 : decode cL_law 90 = .ok (.aload_n 0, 1) := by decide +kernel
theorem dL_law_91 : decode cL_law 91 = .ok (.iconst 5, 1) := by decide +kernel
theorem dL_law_92 : decode cL_law 92 = .ok (.iload 6, 2) := by decide +kernel
theorem dL_law_94 : decode cL_law 94 = .ok (.bipush 7, 2) := by decide +kernel
theorem dL_law_96 : decode cL_law 96 = .ok (.irem, 1) := by decide +kernel
theorem dL_law_97 : decode cL_law 97 = .ok (.iadd, 1) := by decide +kernel
theorem dL_law_98 : decode cL_law 98 = .ok (.invokestatic 9, 3) := by decide +kernel
theorem dL_law_101 : decode cL_law 101 = .ok (.iload 6, 2) := by decide +kernel
theorem dL_law_103 : decode cL_law 103 = .ok (.bipush 7, 2) := by decide +kernel
theorem dL_law_105 : decode cL_law 105 = .ok (.idiv, 1) := by decide +kernel
theorem dL_law_106 : decode cL_law 106 = .ok (.iconst 3, 1) := by decide +kernel
theorem dL_law_107 : decode cL_law 107 = .ok (.imul, 1) := by decide +kernel
theorem dL_law_108 : decode cL_law 108 = .ok (.ishr, 1) := by decide +kernel
theorem dL_law_109 : decode cL_law 109 = .ok (.istore 7, 2) := by decide +kernel
theorem dL_law_111 : decode cL_law 111 = .ok (.iload 7, 2) := by decide +kernel
theorem dL_law_113 : decode cL_law 113 = .ok (.bipush 9, 2) := by decide +kernel
theorem dL_law_115 : decode cL_law 115 = .ok (.ishr, 1) := by decide +kernel
theorem dL_law_116 : decode cL_law 116 = .ok (.iconst 3, 1) := by decide +kernel
theorem dL_law_117 : decode cL_law 117 = .ok (.invokestatic 15, 3) := by decide +kernel
theorem dL_law_120 : decode cL_law 120 = .ok (.ifCond .ne 52, 3) := by decide +kernel
theorem dL_law_123 : decode cL_law 123 = .ok (.iload 7, 2) := by decide +kernel
theorem dL_law_125 : decode cL_law 125 = .ok (.bipush 11, 2) := by decide +kernel
theorem dL_law_127 : decode cL_law 127 = .ok (.ishr, 1) := by decide +kernel
theorem dL_law_128 : decode cL_law 128 = .ok (.iconst 4, 1) := by decide +kernel
theorem dL_law_129 : decode cL_law 129 = .ok (.invokestatic 15, 3) := by decide +kernel
theorem dL_law_132 : decode cL_law 132 = .ok (.ifCond .ne 8, 3) := by decide +kernel
theorem dL_law_135 : decode cL_law 135 = .ok (.bipush 99, 2) := by decide +kernel
theorem dL_law_137 : decode cL_law 137 = .ok (.goto 12, 3) := by decide +kernel
theorem dL_law_140 : decode cL_law 140 = .ok (.iload 7, 2) := by decide +kernel
theorem dL_law_142 : decode cL_law 142 = .ok (.bipush 11, 2) := by decide +kernel
theorem dL_law_144 : decode cL_law 144 = .ok (.ishr, 1) := by decide +kernel
theorem dL_law_145 : decode cL_law 145 = .ok (.iconst 5, 1) := by decide +kernel
theorem dL_law_146 : decode cL_law 146 = .ok (.invokestatic 15, 3) := by decide +kernel
theorem dL_law_149 : decode cL_law 149 = .ok (.istore 8, 2) := by decide +kernel
theorem dL_law_151 : decode cL_law 151 = .ok (.aload_n 1, 1) := by decide +kernel
theorem dL_law_152 : decode cL_law 152 = .ok (.iload 8, 2) := by decide +kernel
theorem dL_law_154 : decode cL_law 154 = .ok (.invokevirtual 54, 3) := by decide +kernel
theorem dL_law_157 : decode cL_law 157 = .ok (.aload_n 2, 1) := by decide +kernel
theorem dL_law_158 : decode cL_law 158 = .ok (.bipush 32, 2) := by decide +kernel
theorem dL_law_160 : decode cL_law 160 = .ok (.iaload, 1) := by decide +kernel
theorem dL_law_161 : decode cL_law 161 = .ok (.if_icmp .eq 5, 3) := by decide +kernel
theorem dL_law_164 : decode cL_law 164 = .ok (.iconst 0, 1) := by decide +kernel
theorem dL_law_165 : decode cL_law 165 = .ok (.ireturn, 1) := by decide +kernel
theorem dL_law_166 : decode cL_law 166 = .ok (.aload_n 2, 1) := by decide +kernel
theorem dL_law_167 : decode cL_law 167 = .ok (.bipush 32, 2) := by decide +kernel
theorem dL_law_169 : decode cL_law 169 = .ok (.iload 8, 2) := by decide +kernel
theorem dL_law_171 : decode cL_law 171 = .ok (.iastore, 1) := by decide +kernel
theorem dL_law_172 : decode cL_law 172 = .ok (.aload_n 1, 1) := by decide +kernel
theorem dL_law_173 : decode cL_law 173 = .ok (.aload_n 0, 1) := by decide +kernel
theorem dL_law_174 : decode cL_law 174 = .ok (.bipush 12, 2) := by decide +kernel
theorem dL_law_176 : decode cL_law 176 = .ok (.iload 6, 2) := by decide +kernel
theorem dL_law_178 : decode cL_law 178 = .ok (.bipush 6, 2) := by decide +kernel
theorem dL_law_180 : decode cL_law 180 = .ok (.irem, 1) := by decide +kernel
theorem dL_law_181 : decode cL_law 181 = .ok (.iadd, 1) := by decide +kernel
theorem dL_law_182 : decode cL_law 182 = .ok (.invokestatic 9, 3) := by decide +kernel
theorem dL_law_185 : decode cL_law 185 = .ok (.iload 6, 2) := by decide +kernel
theorem dL_law_187 : decode cL_law 187 = .ok (.bipush 6, 2) := by decide +kernel
theorem dL_law_189 : decode cL_law 189 = .ok (.idiv, 1) := by decide +kernel
theorem dL_law_190 : decode cL_law 190 = .ok (.iconst 4, 1) := by decide +kernel
theorem dL_law_191 : decode cL_law 191 = .ok (.imul, 1) := by decide +kernel
theorem dL_law_192 : decode cL_law 192 = .ok (.ishr, 1) := by decide +kernel
theorem dL_law_193 : decode cL_law 193 = .ok (.aload_n 2, 1) := by decide +kernel
theorem dL_law_194 : decode cL_law 194 = .ok (.aload_n 3, 1) := by decide +kernel
theorem dL_law_195 : decode cL_law 195 = .ok (.aload 4, 2) := by decide +kernel
theorem dL_law_197 : decode cL_law 197 = .ok (.invokestatic 58, 3) := by decide +kernel
theorem dL_law_200 : decode cL_law 200 = .ok (.ifCond .ne 5, 3) := by decide +kernel
theorem dL_law_203 : decode cL_law 203 = .ok (.iconst 0, 1) := by decide +kernel
theorem dL_law_204 : decode cL_law 204 = .ok (.ireturn, 1) := by decide +kernel
theorem dL_law_205 : decode cL_law 205 = .ok (.iconst 0, 1) := by decide +kernel
theorem dL_law_206 : decode cL_law 206 = .ok (.istore 8, 2) := by decide +kernel
theorem dL_law_208 : decode cL_law 208 = .ok (.iload 8, 2) := by decide +kernel
theorem dL_law_210 : decode cL_law 210 = .ok (.aload_n 2, 1) := by decide +kernel
theorem dL_law_211 : decode cL_law 211 = .ok (.iconst 1, 1) := by decide +kernel
theorem dL_law_212 : decode cL_law 212 = .ok (.iaload, 1) := by decide +kernel
theorem dL_law_213 : decode cL_law 213 = .ok (.if_icmp .ge 98, 3) := by decide +kernel
theorem dL_law_216 : decode cL_law 216 = .ok (.aload_n 1, 1) := by decide +kernel
theorem dL_law_217 : decode cL_law 217 = .ok (.iload 8, 2) := by decide +kernel
theorem dL_law_219 : decode cL_law 219 = .ok (.iconst 3, 1) := by decide +kernel
theorem dL_law_220 : decode cL_law 220 = .ok (.invokevirtual 61, 3) := by decide +kernel
theorem dL_law_223 : decode cL_law 223 = .ok (.aload_n 3, 1) := by decide +kernel
theorem dL_law_224 : decode cL_law 224 = .ok (.aload_n 2, 1) := by decide +kernel
theorem dL_law_225 : decode cL_law 225 = .ok (.bipush 33, 2) := by decide +kernel
theorem dL_law_227 : decode cL_law 227 = .ok (.iaload, 1) := by decide +kernel
theorem dL_law_228 : decode cL_law 228 = .ok (.iload 8, 2) := by decide +kernel
theorem dL_law_230 : decode cL_law 230 = .ok (.invokestatic 32, 3) := by decide +kernel
theorem dL_law_233 : decode cL_law 233 = .ok (.if_icmp .ne 70, 3) := by decide +kernel
theorem dL_law_236 : decode cL_law 236 = .ok (.aload_n 1, 1) := by decide +kernel
theorem dL_law_237 : decode cL_law 237 = .ok (.iload 8, 2) := by decide +kernel
theorem dL_law_239 : decode cL_law 239 = .ok (.iconst 4, 1) := by decide +kernel
theorem dL_law_240 : decode cL_law 240 = .ok (.invokevirtual 61, 3) := by decide +kernel
theorem dL_law_243 : decode cL_law 243 = .ok (.aload_n 3, 1) := by decide +kernel
theorem dL_law_244 : decode cL_law 244 = .ok (.aload_n 2, 1) := by decide +kernel
theorem dL_law_245 : decode cL_law 245 = .ok (.bipush 33, 2) := by decide +kernel
theorem dL_law_247 : decode cL_law 247 = .ok (.iaload, 1) := by decide +kernel
theorem dL_law_248 : decode cL_law 248 = .ok (.iload 8, 2) := by decide +kernel
theorem dL_law_250 : decode cL_law 250 = .ok (.invokestatic 28, 3) := by decide +kernel
theorem dL_law_253 : decode cL_law 253 = .ok (.if_icmp .ne 50, 3) := by decide +kernel
theorem dL_law_256 : decode cL_law 256 = .ok (.aload_n 1, 1) := by decide +kernel
theorem dL_law_257 : decode cL_law 257 = .ok (.iload 8, 2) := by decide +kernel
theorem dL_law_259 : decode cL_law 259 = .ok (.iconst 5, 1) := by decide +kernel
theorem dL_law_260 : decode cL_law 260 = .ok (.invokevirtual 61, 3) := by decide +kernel
theorem dL_law_263 : decode cL_law 263 = .ok (.aload_n 2, 1) := by decide +kernel
theorem dL_law_264 : decode cL_law 264 = .ok (.aload_n 3, 1) := by decide +kernel
theorem dL_law_265 : decode cL_law 265 = .ok (.iload 8, 2) := by decide +kernel
theorem dL_law_267 : decode cL_law 267 = .ok (.invokestatic 39, 3) := by decide +kernel
theorem dL_law_270 : decode cL_law 270 = .ok (.ifCond .eq 7, 3) := by decide +kernel
theorem dL_law_273 : decode cL_law 273 = .ok (.iconst 1, 1) := by decide +kernel
theorem dL_law_274 : decode cL_law 274 = .ok (.goto 4, 3) := by decide +kernel
theorem dL_law_277 : decode cL_law 277 = .ok (.iconst 0, 1) := by decide +kernel
theorem dL_law_278 : decode cL_law 278 = .ok (.if_icmp .ne 25, 3) := by decide +kernel
theorem dL_law_281 : decode cL_law 281 = .ok (.aload_n 1, 1) := by decide +kernel
theorem dL_law_282 : decode cL_law 282 = .ok (.iload 8, 2) := by decide +kernel
theorem dL_law_284 : decode cL_law 284 = .ok (.bipush 6, 2) := by decide +kernel
theorem dL_law_286 : decode cL_law 286 = .ok (.invokevirtual 61, 3) := by decide +kernel
theorem dL_law_289 : decode cL_law 289 = .ok (.aload_n 2, 1) := by decide +kernel
theorem dL_law_290 : decode cL_law 290 = .ok (.aload_n 3, 1) := by decide +kernel
theorem dL_law_291 : decode cL_law 291 = .ok (.aload_n 2, 1) := by decide +kernel
theorem dL_law_292 : decode cL_law 292 = .ok (.bipush 33, 2) := by decide +kernel
theorem dL_law_294 : decode cL_law 294 = .ok (.iaload, 1) := by decide +kernel
theorem dL_law_295 : decode cL_law 295 = .ok (.iload 8, 2) := by decide +kernel
theorem dL_law_297 : decode cL_law 297 = .ok (.invokestatic 35, 3) := by decide +kernel
theorem dL_law_300 : decode cL_law 300 = .ok (.if_icmp .eq 5, 3) := by decide +kernel
theorem dL_law_303 : decode cL_law 303 = .ok (.iconst 0, 1) := by decide +kernel
theorem dL_law_304 : decode cL_law 304 = .ok (.ireturn, 1) := by decide +kernel
theorem dL_law_305 : decode cL_law 305 = .ok (.iinc 8 1, 3) := by decide +kernel
theorem dL_law_308 : decode cL_law 308 = .ok (.goto (-100), 3) := by decide +kernel
theorem dL_law_311 : decode cL_law 311 = .ok (.iconst 5, 1) := by decide +kernel
theorem dL_law_312 : decode cL_law 312 = .ok (.newarray .int, 2) := by decide +kernel
theorem dL_law_314 : decode cL_law 314 = .ok (.astore 8, 2) := by decide +kernel
theorem dL_law_316 : decode cL_law 316 = .ok (.iconst 0, 1) := by decide +kernel
theorem dL_law_317 : decode cL_law 317 = .ok (.istore 9, 2) := by decide +kernel
theorem dL_law_319 : decode cL_law 319 = .ok (.iload 9, 2) := by decide +kernel
theorem dL_law_321 : decode cL_law 321 = .ok (.aload_n 2, 1) := by decide +kernel
theorem dL_law_322 : decode cL_law 322 = .ok (.iconst 0, 1) := by decide +kernel
theorem dL_law_323 : decode cL_law 323 = .ok (.iaload, 1) := by decide +kernel
theorem dL_law_324 : decode cL_law 324 = .ok (.if_icmp .ge 467, 3) := by decide +kernel
theorem dL_law_327 : decode cL_law 327 = .ok (.iconst 0, 1) := by decide +kernel
theorem dL_law_328 : decode cL_law 328 = .ok (.istore 10, 2) := by decide +kernel
theorem dL_law_330 : decode cL_law 330 = .ok (.iload 10, 2) := by decide +kernel
theorem dL_law_332 : decode cL_law 332 = .ok (.iconst 5, 1) := by decide +kernel
theorem dL_law_333 : decode cL_law 333 = .ok (.if_icmp .ge 19, 3) := by decide +kernel
theorem dL_law_336 : decode cL_law 336 = .ok (.aload 8, 2) := by decide +kernel
theorem dL_law_338 : decode cL_law 338 = .ok (.iload 10, 2) := by decide +kernel
theorem dL_law_340 : decode cL_law 340 = .ok (.aload 4, 2) := by decide +kernel
theorem dL_law_342 : decode cL_law 342 = .ok (.iload 10, 2) := by decide +kernel
theorem dL_law_344 : decode cL_law 344 = .ok (.iaload, 1) := by decide +kernel
theorem dL_law_345 : decode cL_law 345 = .ok (.iastore, 1) := by decide +kernel
theorem dL_law_346 : decode cL_law 346 = .ok (.iinc 10 1, 3) := by decide +kernel
theorem dL_law_349 : decode cL_law 349 = .ok (.goto (-19), 3) := by decide +kernel
theorem dL_law_352 : decode cL_law 352 = .ok (.iconst 1, 1) := by decide +kernel
theorem dL_law_353 : decode cL_law 353 = .ok (.istore 10, 2) := by decide +kernel
theorem dL_law_355 : decode cL_law 355 = .ok (.iconst 0, 1) := by decide +kernel
theorem dL_law_356 : decode cL_law 356 = .ok (.istore 11, 2) := by decide +kernel
theorem dL_law_358 : decode cL_law 358 = .ok (.iload 11, 2) := by decide +kernel
theorem dL_law_360 : decode cL_law 360 = .ok (.aload_n 2, 1) := by decide +kernel
theorem dL_law_361 : decode cL_law 361 = .ok (.iconst 0, 1) := by decide +kernel
theorem dL_law_362 : decode cL_law 362 = .ok (.iaload, 1) := by decide +kernel
theorem dL_law_363 : decode cL_law 363 = .ok (.if_icmp .ge 73, 3) := by decide +kernel
theorem dL_law_366 : decode cL_law 366 = .ok (.iload 11, 2) := by decide +kernel
theorem dL_law_368 : decode cL_law 368 = .ok (.iload 9, 2) := by decide +kernel
theorem dL_law_370 : decode cL_law 370 = .ok (.if_icmp .eq 11, 3) := by decide +kernel
theorem dL_law_373 : decode cL_law 373 = .ok (.aload 4, 2) := by decide +kernel
theorem dL_law_375 : decode cL_law 375 = .ok (.iload 11, 2) := by decide +kernel
theorem dL_law_377 : decode cL_law 377 = .ok (.iaload, 1) := by decide +kernel
theorem dL_law_378 : decode cL_law 378 = .ok (.ifCond .ge 7, 3) := by decide +kernel
theorem dL_law_381 : decode cL_law 381 = .ok (.iconst 0, 1) := by decide +kernel
theorem dL_law_382 : decode cL_law 382 = .ok (.goto 30, 3) := by decide +kernel
theorem dL_law_385 : decode cL_law 385 = .ok (.aload_n 2, 1) := by decide +kernel
theorem dL_law_386 : decode cL_law 386 = .ok (.aload_n 3, 1) := by decide +kernel
theorem dL_law_387 : decode cL_law 387 = .ok (.aload_n 2, 1) := by decide +kernel
theorem dL_law_388 : decode cL_law 388 = .ok (.bipush 33, 2) := by decide +kernel
theorem dL_law_390 : decode cL_law 390 = .ok (.iaload, 1) := by decide +kernel
theorem dL_law_391 : decode cL_law 391 = .ok (.aload 4, 2) := by decide +kernel
theorem dL_law_393 : decode cL_law 393 = .ok (.iload 11, 2) := by decide +kernel
theorem dL_law_395 : decode cL_law 395 = .ok (.iaload, 1) := by decide +kernel
theorem dL_law_396 : decode cL_law 396 = .ok (.invokestatic 35, 3) := by decide +kernel
theorem dL_law_399 : decode cL_law 399 = .ok (.iload 11, 2) := by decide +kernel
theorem dL_law_401 : decode cL_law 401 = .ok (.iload 9, 2) := by decide +kernel
theorem dL_law_403 : decode cL_law 403 = .ok (.if_icmp .ge 7, 3) := by decide +kernel
theorem dL_law_406 : decode cL_law 406 = .ok (.iconst 1, 1) := by decide +kernel
theorem dL_law_407 : decode cL_law 407 = .ok (.goto 4, 3) := by decide +kernel
theorem dL_law_410 : decode cL_law 410 = .ok (.iconst 0, 1) := by decide +kernel
theorem dL_law_411 : decode cL_law 411 = .ok (.iadd, 1) := by decide +kernel
theorem dL_law_412 : decode cL_law 412 = .ok (.istore 12, 2) := by decide +kernel
theorem dL_law_414 : decode cL_law 414 = .ok (.iload 12, 2) := by decide +kernel
theorem dL_law_416 : decode cL_law 416 = .ok (.iload 10, 2) := by decide +kernel
theorem dL_law_418 : decode cL_law 418 = .ok (.if_icmp .le 8, 3) := by decide +kernel
theorem dL_law_421 : decode cL_law 421 = .ok (.iload 12, 2) := by decide +kernel
theorem dL_law_423 : decode cL_law 423 = .ok (.goto 5, 3) := by decide +kernel
theorem dL_law_426 : decode cL_law 426 = .ok (.iload 10, 2) := by decide +kernel
theorem dL_law_428 : decode cL_law 428 = .ok (.istore 10, 2) := by decide +kernel
theorem dL_law_430 : decode cL_law 430 = .ok (.iinc 11 1, 3) := by decide +kernel
theorem dL_law_433 : decode cL_law 433 = .ok (.goto (-75), 3) := by decide +kernel
theorem dL_law_436 : decode cL_law 436 = .ok (.aload_n 1, 1) := by decide +kernel
theorem dL_law_437 : decode cL_law 437 = .ok (.iload 9, 2) := by decide +kernel
theorem dL_law_439 : decode cL_law 439 = .ok (.iconst 0, 1) := by decide +kernel
theorem dL_law_440 : decode cL_law 440 = .ok (.invokevirtual 64, 3) := by decide +kernel
theorem dL_law_443 : decode cL_law 443 = .ok (.aload 4, 2) := by decide +kernel
theorem dL_law_445 : decode cL_law 445 = .ok (.iload 9, 2) := by decide +kernel
theorem dL_law_447 : decode cL_law 447 = .ok (.iaload, 1) := by decide +kernel
theorem dL_law_448 : decode cL_law 448 = .ok (.if_icmp .ne 39, 3) := by decide +kernel
theorem dL_law_451 : decode cL_law 451 = .ok (.aload_n 1, 1) := by decide +kernel
theorem dL_law_452 : decode cL_law 452 = .ok (.iload 9, 2) := by decide +kernel
theorem dL_law_454 : decode cL_law 454 = .ok (.iconst 1, 1) := by decide +kernel
theorem dL_law_455 : decode cL_law 455 = .ok (.invokevirtual 64, 3) := by decide +kernel
theorem dL_law_458 : decode cL_law 458 = .ok (.aload_n 2, 1) := by decide +kernel
theorem dL_law_459 : decode cL_law 459 = .ok (.aload_n 3, 1) := by decide +kernel
theorem dL_law_460 : decode cL_law 460 = .ok (.aload_n 2, 1) := by decide +kernel
theorem dL_law_461 : decode cL_law 461 = .ok (.bipush 33, 2) := by decide +kernel
theorem dL_law_463 : decode cL_law 463 = .ok (.iaload, 1) := by decide +kernel
theorem dL_law_464 : decode cL_law 464 = .ok (.aload 4, 2) := by decide +kernel
theorem dL_law_466 : decode cL_law 466 = .ok (.iconst 0, 1) := by decide +kernel
theorem dL_law_467 : decode cL_law 467 = .ok (.iload 9, 2) := by decide +kernel
theorem dL_law_469 : decode cL_law 469 = .ok (.invokestatic 67, 3) := by decide +kernel
theorem dL_law_472 : decode cL_law 472 = .ok (.if_icmp .ne 15, 3) := by decide +kernel
theorem dL_law_475 : decode cL_law 475 = .ok (.aload_n 1, 1) := by decide +kernel
theorem dL_law_476 : decode cL_law 476 = .ok (.iload 9, 2) := by decide +kernel
theorem dL_law_478 : decode cL_law 478 = .ok (.iconst 2, 1) := by decide +kernel
theorem dL_law_479 : decode cL_law 479 = .ok (.invokevirtual 64, 3) := by decide +kernel
theorem dL_law_482 : decode cL_law 482 = .ok (.iload 10, 2) := by decide +kernel
theorem dL_law_484 : decode cL_law 484 = .ok (.if_icmp .eq 5, 3) := by decide +kernel
theorem dL_law_487 : decode cL_law 487 = .ok (.iconst 0, 1) := by decide +kernel
theorem dL_law_488 : decode cL_law 488 = .ok (.ireturn, 1) := by decide +kernel
theorem dL_law_489 : decode cL_law 489 = .ok (.bipush (-9), 2) := by decide +kernel
theorem dL_law_491 : decode cL_law 491 = .ok (.istore 11, 2) := by decide +kernel
theorem dL_law_493 : decode cL_law 493 = .ok (.bipush 9, 2) := by decide +kernel
theorem dL_law_495 : decode cL_law 495 = .ok (.istore 12, 2) := by decide +kernel
theorem dL_law_497 : decode cL_law 497 = .ok (.bipush (-9), 2) := by decide +kernel
theorem dL_law_499 : decode cL_law 499 = .ok (.istore 13, 2) := by decide +kernel
theorem dL_law_501 : decode cL_law 501 = .ok (.bipush 9, 2) := by decide +kernel
theorem dL_law_503 : decode cL_law 503 = .ok (.istore 14, 2) := by decide +kernel
theorem dL_law_505 : decode cL_law 505 = .ok (.iconst 0, 1) := by decide +kernel
theorem dL_law_506 : decode cL_law 506 = .ok (.istore 15, 2) := by decide +kernel
theorem dL_law_508 : decode cL_law 508 = .ok (.iload 15, 2) := by decide +kernel
theorem dL_law_510 : decode cL_law 510 = .ok (.aload_n 2, 1) := by decide +kernel
theorem dL_law_511 : decode cL_law 511 = .ok (.iconst 1, 1) := by decide +kernel
theorem dL_law_512 : decode cL_law 512 = .ok (.iaload, 1) := by decide +kernel
theorem dL_law_513 : decode cL_law 513 = .ok (.if_icmp .ge 202, 3) := by decide +kernel
theorem dL_law_516 : decode cL_law 516 = .ok (.aload_n 2, 1) := by decide +kernel
theorem dL_law_517 : decode cL_law 517 = .ok (.aload_n 3, 1) := by decide +kernel
theorem dL_law_518 : decode cL_law 518 = .ok (.iload 15, 2) := by decide +kernel
theorem dL_law_520 : decode cL_law 520 = .ok (.invokestatic 39, 3) := by decide +kernel
theorem dL_law_523 : decode cL_law 523 = .ok (.ifCond .ne 6, 3) := by decide +kernel
theorem dL_law_526 : decode cL_law 526 = .ok (.goto 183, 3) := by decide +kernel
theorem dL_law_529 : decode cL_law 529 = .ok (.aload 8, 2) := by decide +kernel
theorem dL_law_531 : decode cL_law 531 = .ok (.iload 9, 2) := by decide +kernel
theorem dL_law_533 : decode cL_law 533 = .ok (.iload 15, 2) := by decide +kernel
theorem dL_law_535 : decode cL_law 535 = .ok (.iastore, 1) := by decide +kernel
theorem dL_law_536 : decode cL_law 536 = .ok (.aload_n 2, 1) := by decide +kernel
theorem dL_law_537 : decode cL_law 537 = .ok (.aload_n 3, 1) := by decide +kernel
theorem dL_law_538 : decode cL_law 538 = .ok (.aload_n 2, 1) := by decide +kernel
theorem dL_law_539 : decode cL_law 539 = .ok (.bipush 33, 2) := by decide +kernel
theorem dL_law_541 : decode cL_law 541 = .ok (.iaload, 1) := by decide +kernel
theorem dL_law_542 : decode cL_law 542 = .ok (.aload 8, 2) := by decide +kernel
theorem dL_law_544 : decode cL_law 544 = .ok (.iconst 0, 1) := by decide +kernel
theorem dL_law_545 : decode cL_law 545 = .ok (.iload 9, 2) := by decide +kernel
theorem dL_law_547 : decode cL_law 547 = .ok (.invokestatic 67, 3) := by decide +kernel
theorem dL_law_550 : decode cL_law 550 = .ok (.istore 16, 2) := by decide +kernel
theorem dL_law_552 : decode cL_law 552 = .ok (.aload_n 2, 1) := by decide +kernel
theorem dL_law_553 : decode cL_law 553 = .ok (.aload_n 3, 1) := by decide +kernel
theorem dL_law_554 : decode cL_law 554 = .ok (.aload_n 2, 1) := by decide +kernel
theorem dL_law_555 : decode cL_law 555 = .ok (.bipush 33, 2) := by decide +kernel
theorem dL_law_557 : decode cL_law 557 = .ok (.iaload, 1) := by decide +kernel
theorem dL_law_558 : decode cL_law 558 = .ok (.iload 15, 2) := by decide +kernel
theorem dL_law_560 : decode cL_law 560 = .ok (.invokestatic 35, 3) := by decide +kernel
theorem dL_law_563 : decode cL_law 563 = .ok (.istore 17, 2) := by decide +kernel
theorem dL_law_565 : decode cL_law 565 = .ok (.aload_n 2, 1) := by decide +kernel
theorem dL_law_566 : decode cL_law 566 = .ok (.bipush 12, 2) := by decide +kernel
theorem dL_law_568 : decode cL_law 568 = .ok (.iload 15, 2) := by decide +kernel
theorem dL_law_570 : decode cL_law 570 = .ok (.iadd, 1) := by decide +kernel
theorem dL_law_571 : decode cL_law 571 = .ok (.iaload, 1) := by decide +kernel
theorem dL_law_572 : decode cL_law 572 = .ok (.iload 9, 2) := by decide +kernel
theorem dL_law_574 : decode cL_law 574 = .ok (.if_icmp .ne 47, 3) := by decide +kernel
theorem dL_law_577 : decode cL_law 577 = .ok (.iload 16, 2) := by decide +kernel
theorem dL_law_579 : decode cL_law 579 = .ok (.iload 12, 2) := by decide +kernel
theorem dL_law_581 : decode cL_law 581 = .ok (.if_icmp .gt 128, 3) := by decide +kernel
theorem dL_law_584 : decode cL_law 584 = .ok (.iload 16, 2) := by decide +kernel
theorem dL_law_586 : decode cL_law 586 = .ok (.iload 12, 2) := by decide +kernel
theorem dL_law_588 : decode cL_law 588 = .ok (.if_icmp .ne 22, 3) := by decide +kernel
theorem dL_law_591 : decode cL_law 591 = .ok (.iload 17, 2) := by decide +kernel
theorem dL_law_593 : decode cL_law 593 = .ok (.aload_n 2, 1) := by decide +kernel
theorem dL_law_594 : decode cL_law 594 = .ok (.aload_n 3, 1) := by decide +kernel
theorem dL_law_595 : decode cL_law 595 = .ok (.aload_n 2, 1) := by decide +kernel
theorem dL_law_596 : decode cL_law 596 = .ok (.bipush 33, 2) := by decide +kernel
theorem dL_law_598 : decode cL_law 598 = .ok (.iaload, 1) := by decide +kernel
theorem dL_law_599 : decode cL_law 599 = .ok (.iload 11, 2) := by decide +kernel
theorem dL_law_601 : decode cL_law 601 = .ok (.invokestatic 35, 3) := by decide +kernel
theorem dL_law_604 : decode cL_law 604 = .ok (.if_icmp .lt 6, 3) := by decide +kernel
theorem dL_law_607 : decode cL_law 607 = .ok (.goto 102, 3) := by decide +kernel
theorem dL_law_610 : decode cL_law 610 = .ok (.iload 15, 2) := by decide +kernel
theorem dL_law_612 : decode cL_law 612 = .ok (.istore 11, 2) := by decide +kernel
theorem dL_law_614 : decode cL_law 614 = .ok (.iload 16, 2) := by decide +kernel
theorem dL_law_616 : decode cL_law 616 = .ok (.istore 12, 2) := by decide +kernel
theorem dL_law_618 : decode cL_law 618 = .ok (.goto 91, 3) := by decide +kernel
theorem dL_law_621 : decode cL_law 621 = .ok (.iconst 0, 1) := by decide +kernel
theorem dL_law_622 : decode cL_law 622 = .ok (.istore 18, 2) := by decide +kernel
theorem dL_law_624 : decode cL_law 624 = .ok (.iconst 0, 1) := by decide +kernel
theorem dL_law_625 : decode cL_law 625 = .ok (.istore 19, 2) := by decide +kernel
theorem dL_law_627 : decode cL_law 627 = .ok (.iload 19, 2) := by decide +kernel
theorem dL_law_629 : decode cL_law 629 = .ok (.aload_n 2, 1) := by decide +kernel
theorem dL_law_630 : decode cL_law 630 = .ok (.iconst 0, 1) := by decide +kernel
theorem dL_law_631 : decode cL_law 631 = .ok (.iaload, 1) := by decide +kernel
theorem dL_law_632 : decode cL_law 632 = .ok (.if_icmp .ge 31, 3) := by decide +kernel
theorem dL_law_635 : decode cL_law 635 = .ok (.iload 18, 2) := by decide +kernel
theorem dL_law_637 : decode cL_law 637 = .ok (.ifCond .ne 13, 3) := by decide +kernel
theorem dL_law_640 : decode cL_law 640 = .ok (.aload 4, 2) := by decide +kernel
theorem dL_law_642 : decode cL_law 642 = .ok (.iload 19, 2) := by decide +kernel
theorem dL_law_644 : decode cL_law 644 = .ok (.iaload, 1) := by decide +kernel
theorem dL_law_645 : decode cL_law 645 = .ok (.iload 15, 2) := by decide +kernel
theorem dL_law_647 : decode cL_law 647 = .ok (.if_icmp .ne 7, 3) := by decide +kernel
theorem dL_law_650 : decode cL_law 650 = .ok (.iconst 1, 1) := by decide +kernel
theorem dL_law_651 : decode cL_law 651 = .ok (.goto 4, 3) := by decide +kernel
theorem dL_law_654 : decode cL_law 654 = .ok (.iconst 0, 1) := by decide +kernel
theorem dL_law_655 : decode cL_law 655 = .ok (.istore 18, 2) := by decide +kernel
theorem dL_law_657 : decode cL_law 657 = .ok (.iinc 19 1, 3) := by decide +kernel
theorem dL_law_660 : decode cL_law 660 = .ok (.goto (-33), 3) := by decide +kernel
theorem dL_law_663 : decode cL_law 663 = .ok (.iload 18, 2) := by decide +kernel
theorem dL_law_665 : decode cL_law 665 = .ok (.ifCond .ne 44, 3) := by decide +kernel
theorem dL_law_668 : decode cL_law 668 = .ok (.iload 16, 2) := by decide +kernel
theorem dL_law_670 : decode cL_law 670 = .ok (.iload 14, 2) := by decide +kernel
theorem dL_law_672 : decode cL_law 672 = .ok (.if_icmp .gt 37, 3) := by decide +kernel
theorem dL_law_675 : decode cL_law 675 = .ok (.iload 16, 2) := by decide +kernel
theorem dL_law_677 : decode cL_law 677 = .ok (.iload 14, 2) := by decide +kernel
theorem dL_law_679 : decode cL_law 679 = .ok (.if_icmp .ne 22, 3) := by decide +kernel
theorem dL_law_682 : decode cL_law 682 = .ok (.iload 17, 2) := by decide +kernel
theorem dL_law_684 : decode cL_law 684 = .ok (.aload_n 2, 1) := by decide +kernel
theorem dL_law_685 : decode cL_law 685 = .ok (.aload_n 3, 1) := by decide +kernel
theorem dL_law_686 : decode cL_law 686 = .ok (.aload_n 2, 1) := by decide +kernel
theorem dL_law_687 : decode cL_law 687 = .ok (.bipush 33, 2) := by decide +kernel
theorem dL_law_689 : decode cL_law 689 = .ok (.iaload, 1) := by decide +kernel
theorem dL_law_690 : decode cL_law 690 = .ok (.iload 13, 2) := by decide +kernel
theorem dL_law_692 : decode cL_law 692 = .ok (.invokestatic 35, 3) := by decide +kernel
theorem dL_law_695 : decode cL_law 695 = .ok (.if_icmp .lt 6, 3) := by decide +kernel
theorem dL_law_698 : decode cL_law 698 = .ok (.goto 11, 3) := by decide +kernel
theorem dL_law_701 : decode cL_law 701 = .ok (.iload 15, 2) := by decide +kernel
theorem dL_law_703 : decode cL_law 703 = .ok (.istore 13, 2) := by decide +kernel
theorem dL_law_705 : decode cL_law 705 = .ok (.iload 16, 2) := by decide +kernel
theorem dL_law_707 : decode cL_law 707 = .ok (.istore 14, 2) := by decide +kernel
theorem dL_law_709 : decode cL_law 709 = .ok (.iinc 15 1, 3) := by decide +kernel
theorem dL_law_712 : decode cL_law 712 = .ok (.goto (-204), 3) := by decide +kernel
theorem dL_law_715 : decode cL_law 715 = .ok (.aload_n 1, 1) := by decide +kernel
theorem dL_law_716 : decode cL_law 716 = .ok (.iload 9, 2) := by decide +kernel
theorem dL_law_718 : decode cL_law 718 = .ok (.iconst 0, 1) := by decide +kernel
theorem dL_law_719 : decode cL_law 719 = .ok (.invokevirtual 71, 3) := by decide +kernel
theorem dL_law_722 : decode cL_law 722 = .ok (.iload 11, 2) := by decide +kernel
theorem dL_law_724 : decode cL_law 724 = .ok (.if_icmp .ne 59, 3) := by decide +kernel
theorem dL_law_727 : decode cL_law 727 = .ok (.aload_n 1, 1) := by decide +kernel
theorem dL_law_728 : decode cL_law 728 = .ok (.iload 9, 2) := by decide +kernel
theorem dL_law_730 : decode cL_law 730 = .ok (.iconst 1, 1) := by decide +kernel
theorem dL_law_731 : decode cL_law 731 = .ok (.invokevirtual 71, 3) := by decide +kernel
theorem dL_law_734 : decode cL_law 734 = .ok (.iload 11, 2) := by decide +kernel
theorem dL_law_736 : decode cL_law 736 = .ok (.ifCond .ge 8, 3) := by decide +kernel
theorem dL_law_739 : decode cL_law 739 = .ok (.bipush (-9), 2) := by decide +kernel
theorem dL_law_741 : decode cL_law 741 = .ok (.goto 5, 3) := by decide +kernel
theorem dL_law_744 : decode cL_law 744 = .ok (.iload 12, 2) := by decide +kernel
theorem dL_law_746 : decode cL_law 746 = .ok (.if_icmp .ne 37, 3) := by decide +kernel
theorem dL_law_749 : decode cL_law 749 = .ok (.aload_n 1, 1) := by decide +kernel
theorem dL_law_750 : decode cL_law 750 = .ok (.iload 9, 2) := by decide +kernel
theorem dL_law_752 : decode cL_law 752 = .ok (.iconst 0, 1) := by decide +kernel
theorem dL_law_753 : decode cL_law 753 = .ok (.invokevirtual 74, 3) := by decide +kernel
theorem dL_law_756 : decode cL_law 756 = .ok (.iload 13, 2) := by decide +kernel
theorem dL_law_758 : decode cL_law 758 = .ok (.if_icmp .ne 25, 3) := by decide +kernel
theorem dL_law_761 : decode cL_law 761 = .ok (.aload_n 1, 1) := by decide +kernel
theorem dL_law_762 : decode cL_law 762 = .ok (.iload 9, 2) := by decide +kernel
theorem dL_law_764 : decode cL_law 764 = .ok (.iconst 1, 1) := by decide +kernel
theorem dL_law_765 : decode cL_law 765 = .ok (.invokevirtual 74, 3) := by decide +kernel
theorem dL_law_768 : decode cL_law 768 = .ok (.iload 13, 2) := by decide +kernel
theorem dL_law_770 : decode cL_law 770 = .ok (.ifCond .ge 8, 3) := by decide +kernel
theorem dL_law_773 : decode cL_law 773 = .ok (.bipush (-9), 2) := by decide +kernel
theorem dL_law_775 : decode cL_law 775 = .ok (.goto 5, 3) := by decide +kernel
theorem dL_law_778 : decode cL_law 778 = .ok (.iload 14, 2) := by decide +kernel
theorem dL_law_780 : decode cL_law 780 = .ok (.if_icmp .eq 5, 3) := by decide +kernel
theorem dL_law_783 : decode cL_law 783 = .ok (.iconst 0, 1) := by decide +kernel
theorem dL_law_784 : decode cL_law 784 = .ok (.ireturn, 1) := by decide +kernel
theorem dL_law_785 : decode cL_law 785 = .ok (.iinc 9 1, 3) := by decide +kernel
theorem dL_law_788 : decode cL_law 788 = .ok (.goto (-469), 3) := by decide +kernel
theorem dL_law_791 : decode cL_law 791 = .ok (.iload 7, 2) := by decide +kernel
theorem dL_law_793 : decode cL_law 793 = .ok (.bipush 7, 2) := by decide +kernel
theorem dL_law_795 : decode cL_law 795 = .ok (.ishr, 1) := by decide +kernel
theorem dL_law_796 : decode cL_law 796 = .ok (.iload 7, 2) := by decide +kernel
theorem dL_law_798 : decode cL_law 798 = .ok (.bipush 14, 2) := by decide +kernel
theorem dL_law_800 : decode cL_law 800 = .ok (.ishr, 1) := by decide +kernel
theorem dL_law_801 : decode cL_law 801 = .ok (.iconst 2, 1) := by decide +kernel
theorem dL_law_802 : decode cL_law 802 = .ok (.invokestatic 15, 3) := by decide +kernel
theorem dL_law_805 : decode cL_law 805 = .ok (.ifCond .ne 9, 3) := by decide +kernel
theorem dL_law_808 : decode cL_law 808 = .ok (.sipush 1000, 3) := by decide +kernel
theorem dL_law_811 : decode cL_law 811 = .ok (.goto 5, 3) := by decide +kernel
theorem dL_law_814 : decode cL_law 814 = .ok (.bipush 60, 2) := by decide +kernel
theorem dL_law_816 : decode cL_law 816 = .ok (.invokestatic 15, 3) := by decide +kernel
theorem dL_law_819 : decode cL_law 819 = .ok (.istore 9, 2) := by decide +kernel
theorem dL_law_821 : decode cL_law 821 = .ok (.iconst 0, 1) := by decide +kernel
theorem dL_law_822 : decode cL_law 822 = .ok (.istore 10, 2) := by decide +kernel
theorem dL_law_824 : decode cL_law 824 = .ok (.iconst 0, 1) := by decide +kernel
theorem dL_law_825 : decode cL_law 825 = .ok (.istore 11, 2) := by decide +kernel
theorem dL_law_827 : decode cL_law 827 = .ok (.iload 11, 2) := by decide +kernel
theorem dL_law_829 : decode cL_law 829 = .ok (.aload_n 2, 1) := by decide +kernel
theorem dL_law_830 : decode cL_law 830 = .ok (.iconst 0, 1) := by decide +kernel
theorem dL_law_831 : decode cL_law 831 = .ok (.iaload, 1) := by decide +kernel
theorem dL_law_832 : decode cL_law 832 = .ok (.if_icmp .ge 46, 3) := by decide +kernel
theorem dL_law_835 : decode cL_law 835 = .ok (.iload 10, 2) := by decide +kernel
theorem dL_law_837 : decode cL_law 837 = .ok (.aload 4, 2) := by decide +kernel
theorem dL_law_839 : decode cL_law 839 = .ok (.iload 11, 2) := by decide +kernel
theorem dL_law_841 : decode cL_law 841 = .ok (.iaload, 1) := by decide +kernel
theorem dL_law_842 : decode cL_law 842 = .ok (.ifCond .lt 26, 3) := by decide +kernel
theorem dL_law_845 : decode cL_law 845 = .ok (.aload_n 2, 1) := by decide +kernel
theorem dL_law_846 : decode cL_law 846 = .ok (.aload_n 3, 1) := by decide +kernel
theorem dL_law_847 : decode cL_law 847 = .ok (.aload_n 2, 1) := by decide +kernel
theorem dL_law_848 : decode cL_law 848 = .ok (.bipush 33, 2) := by decide +kernel
theorem dL_law_850 : decode cL_law 850 = .ok (.iaload, 1) := by decide +kernel
theorem dL_law_851 : decode cL_law 851 = .ok (.aload 4, 2) := by decide +kernel
theorem dL_law_853 : decode cL_law 853 = .ok (.iload 11, 2) := by decide +kernel
theorem dL_law_855 : decode cL_law 855 = .ok (.iaload, 1) := by decide +kernel
theorem dL_law_856 : decode cL_law 856 = .ok (.invokestatic 35, 3) := by decide +kernel
theorem dL_law_859 : decode cL_law 859 = .ok (.iload 9, 2) := by decide +kernel
theorem dL_law_861 : decode cL_law 861 = .ok (.if_icmp .lt 7, 3) := by decide +kernel
theorem dL_law_864 : decode cL_law 864 = .ok (.iconst 1, 1) := by decide +kernel
theorem dL_law_865 : decode cL_law 865 = .ok (.goto 4, 3) := by decide +kernel
theorem dL_law_868 : decode cL_law 868 = .ok (.iconst 0, 1) := by decide +kernel
theorem dL_law_869 : decode cL_law 869 = .ok (.iadd, 1) := by decide +kernel
theorem dL_law_870 : decode cL_law 870 = .ok (.istore 10, 2) := by decide +kernel
theorem dL_law_872 : decode cL_law 872 = .ok (.iinc 11 1, 3) := by decide +kernel
theorem dL_law_875 : decode cL_law 875 = .ok (.goto (-48), 3) := by decide +kernel
theorem dL_law_878 : decode cL_law 878 = .ok (.aload_n 1, 1) := by decide +kernel
theorem dL_law_879 : decode cL_law 879 = .ok (.iload 9, 2) := by decide +kernel
theorem dL_law_881 : decode cL_law 881 = .ok (.invokevirtual 77, 3) := by decide +kernel
theorem dL_law_884 : decode cL_law 884 = .ok (.iload 10, 2) := by decide +kernel
theorem dL_law_886 : decode cL_law 886 = .ok (.if_icmp .eq 5, 3) := by decide +kernel
theorem dL_law_889 : decode cL_law 889 = .ok (.iconst 0, 1) := by decide +kernel
theorem dL_law_890 : decode cL_law 890 = .ok (.ireturn, 1) := by decide +kernel
theorem dL_law_891 : decode cL_law 891 = .ok (.iconst 0, 1) := by decide +kernel
theorem dL_law_892 : decode cL_law 892 = .ok (.istore 11, 2) := by decide +kernel
theorem dL_law_894 : decode cL_law 894 = .ok (.iconst 0, 1) := by decide +kernel
theorem dL_law_895 : decode cL_law 895 = .ok (.istore 12, 2) := by decide +kernel
theorem dL_law_897 : decode cL_law 897 = .ok (.iload 12, 2) := by decide +kernel
theorem dL_law_899 : decode cL_law 899 = .ok (.aload_n 2, 1) := by decide +kernel
theorem dL_law_900 : decode cL_law 900 = .ok (.iconst 0, 1) := by decide +kernel
theorem dL_law_901 : decode cL_law 901 = .ok (.iaload, 1) := by decide +kernel
theorem dL_law_902 : decode cL_law 902 = .ok (.if_icmp .ge 30, 3) := by decide +kernel
theorem dL_law_905 : decode cL_law 905 = .ok (.aload_n 2, 1) := by decide +kernel
theorem dL_law_906 : decode cL_law 906 = .ok (.aload_n 3, 1) := by decide +kernel
theorem dL_law_907 : decode cL_law 907 = .ok (.aload_n 2, 1) := by decide +kernel
theorem dL_law_908 : decode cL_law 908 = .ok (.bipush 33, 2) := by decide +kernel
theorem dL_law_910 : decode cL_law 910 = .ok (.iaload, 1) := by decide +kernel
theorem dL_law_911 : decode cL_law 911 = .ok (.aload 4, 2) := by decide +kernel
theorem dL_law_913 : decode cL_law 913 = .ok (.iconst 0, 1) := by decide +kernel
theorem dL_law_914 : decode cL_law 914 = .ok (.iload 12, 2) := by decide +kernel
theorem dL_law_916 : decode cL_law 916 = .ok (.invokestatic 67, 3) := by decide +kernel
theorem dL_law_919 : decode cL_law 919 = .ok (.ifCond .ne 7, 3) := by decide +kernel
theorem dL_law_922 : decode cL_law 922 = .ok (.iload 12, 2) := by decide +kernel
theorem dL_law_924 : decode cL_law 924 = .ok (.istore 11, 2) := by decide +kernel
theorem dL_law_926 : decode cL_law 926 = .ok (.iinc 12 1, 3) := by decide +kernel
theorem dL_law_929 : decode cL_law 929 = .ok (.goto (-32), 3) := by decide +kernel
theorem dL_law_932 : decode cL_law 932 = .ok (.aload_n 1, 1) := by decide +kernel
theorem dL_law_933 : decode cL_law 933 = .ok (.invokevirtual 80, 3) := by decide +kernel
theorem dL_law_936 : decode cL_law 936 = .ok (.iload 11, 2) := by decide +kernel
theorem dL_law_938 : decode cL_law 938 = .ok (.if_icmp .eq 5, 3) := by decide +kernel
theorem dL_law_941 : decode cL_law 941 = .ok (.iconst 0, 1) := by decide +kernel
theorem dL_law_942 : decode cL_law 942 = .ok (.ireturn, 1) := by decide +kernel
theorem dL_law_943 : decode cL_law 943 = .ok (.iconst 0, 1) := by decide +kernel
theorem dL_law_944 : decode cL_law 944 = .ok (.istore 12, 2) := by decide +kernel
theorem dL_law_946 : decode cL_law 946 = .ok (.iload 12, 2) := by decide +kernel
theorem dL_law_948 : decode cL_law 948 = .ok (.iconst 5, 1) := by decide +kernel
theorem dL_law_949 : decode cL_law 949 = .ok (.if_icmp .ge 32, 3) := by decide +kernel
theorem dL_law_952 : decode cL_law 952 = .ok (.aload_n 3, 1) := by decide +kernel
theorem dL_law_953 : decode cL_law 953 = .ok (.iconst 5, 1) := by decide +kernel
theorem dL_law_954 : decode cL_law 954 = .ok (.aload_n 2, 1) := by decide +kernel
theorem dL_law_955 : decode cL_law 955 = .ok (.bipush 33, 2) := by decide +kernel
theorem dL_law_957 : decode cL_law 957 = .ok (.iaload, 1) := by decide +kernel
theorem dL_law_958 : decode cL_law 958 = .ok (.imul, 1) := by decide +kernel
theorem dL_law_959 : decode cL_law 959 = .ok (.iload 12, 2) := by decide +kernel
theorem dL_law_961 : decode cL_law 961 = .ok (.iadd, 1) := by decide +kernel
theorem dL_law_962 : decode cL_law 962 = .ok (.aload 4, 2) := by decide +kernel
theorem dL_law_964 : decode cL_law 964 = .ok (.iload 12, 2) := by decide +kernel
theorem dL_law_966 : decode cL_law 966 = .ok (.iaload, 1) := by decide +kernel
theorem dL_law_967 : decode cL_law 967 = .ok (.iastore, 1) := by decide +kernel
theorem dL_law_968 : decode cL_law 968 = .ok (.aload 4, 2) := by decide +kernel
theorem dL_law_970 : decode cL_law 970 = .ok (.iload 12, 2) := by decide +kernel
theorem dL_law_972 : decode cL_law 972 = .ok (.bipush (-9), 2) := by decide +kernel
theorem dL_law_974 : decode cL_law 974 = .ok (.iastore, 1) := by decide +kernel
theorem dL_law_975 : decode cL_law 975 = .ok (.iinc 12 1, 3) := by decide +kernel
theorem dL_law_978 : decode cL_law 978 = .ok (.goto (-32), 3) := by decide +kernel
theorem dL_law_981 : decode cL_law 981 = .ok (.aload_n 2, 1) := by decide +kernel
theorem dL_law_982 : decode cL_law 982 = .ok (.bipush 33, 2) := by decide +kernel
theorem dL_law_984 : decode cL_law 984 = .ok (.dup2, 1) := by decide +kernel
theorem dL_law_985 : decode cL_law 985 = .ok (.iaload, 1) := by decide +kernel
theorem dL_law_986 : decode cL_law 986 = .ok (.iconst 1, 1) := by decide +kernel
theorem dL_law_987 : decode cL_law 987 = .ok (.iadd, 1) := by decide +kernel
theorem dL_law_988 : decode cL_law 988 = .ok (.iastore, 1) := by decide +kernel
theorem dL_law_989 : decode cL_law 989 = .ok (.iload 7, 2) := by decide +kernel
theorem dL_law_991 : decode cL_law 991 = .ok (.bipush 16, 2) := by decide +kernel
theorem dL_law_993 : decode cL_law 993 = .ok (.ishr, 1) := by decide +kernel
theorem dL_law_994 : decode cL_law 994 = .ok (.iconst 5, 1) := by decide +kernel
theorem dL_law_995 : decode cL_law 995 = .ok (.invokestatic 15, 3) := by decide +kernel
theorem dL_law_998 : decode cL_law 998 = .ok (.ifCond .ne 15, 3) := by decide +kernel
theorem dL_law_1001 : decode cL_law 1001 = .ok (.iload 7, 2) := by decide +kernel
theorem dL_law_1003 : decode cL_law 1003 = .ok (.bipush 17, 2) := by decide +kernel
theorem dL_law_1005 : decode cL_law 1005 = .ok (.ishr, 1) := by decide +kernel
theorem dL_law_1006 : decode cL_law 1006 = .ok (.iconst 3, 1) := by decide +kernel
theorem dL_law_1007 : decode cL_law 1007 = .ok (.invokestatic 15, 3) := by decide +kernel
theorem dL_law_1010 : decode cL_law 1010 = .ok (.goto 4, 3) := by decide +kernel
theorem dL_law_1013 : decode cL_law 1013 = .ok (.iconst 0, 1) := by decide +kernel
theorem dL_law_1014 : decode cL_law 1014 = .ok (.istore 12, 2) := by decide +kernel
theorem dL_law_1016 : decode cL_law 1016 = .ok (.iload 12, 2) := by decide +kernel
theorem dL_law_1018 : decode cL_law 1018 = .ok (.ifCond .le 36, 3) := by decide +kernel
theorem dL_law_1021 : decode cL_law 1021 = .ok (.iload 12, 2) := by decide +kernel
theorem dL_law_1023 : decode cL_law 1023 = .ok (.aload_n 2, 1) := by decide +kernel
theorem dL_law_1024 : decode cL_law 1024 = .ok (.bipush 33, 2) := by decide +kernel
theorem dL_law_1026 : decode cL_law 1026 = .ok (.iaload, 1) := by decide +kernel
theorem dL_law_1027 : decode cL_law 1027 = .ok (.if_icmp .gt 27, 3) := by decide +kernel
theorem dL_law_1030 : decode cL_law 1030 = .ok (.aload_n 2, 1) := by decide +kernel
theorem dL_law_1031 : decode cL_law 1031 = .ok (.bipush 33, 2) := by decide +kernel
theorem dL_law_1033 : decode cL_law 1033 = .ok (.dup2, 1) := by decide +kernel
theorem dL_law_1034 : decode cL_law 1034 = .ok (.iaload, 1) := by decide +kernel
theorem dL_law_1035 : decode cL_law 1035 = .ok (.iload 12, 2) := by decide +kernel
theorem dL_law_1037 : decode cL_law 1037 = .ok (.isub, 1) := by decide +kernel
theorem dL_law_1038 : decode cL_law 1038 = .ok (.iastore, 1) := by decide +kernel
theorem dL_law_1039 : decode cL_law 1039 = .ok (.aload_n 1, 1) := by decide +kernel
theorem dL_law_1040 : decode cL_law 1040 = .ok (.iload 12, 2) := by decide +kernel
theorem dL_law_1042 : decode cL_law 1042 = .ok (.invokevirtual 84, 3) := by decide +kernel
theorem dL_law_1045 : decode cL_law 1045 = .ok (.aload_n 2, 1) := by decide +kernel
theorem dL_law_1046 : decode cL_law 1046 = .ok (.bipush 33, 2) := by decide +kernel
theorem dL_law_1048 : decode cL_law 1048 = .ok (.iaload, 1) := by decide +kernel
theorem dL_law_1049 : decode cL_law 1049 = .ok (.if_icmp .eq 5, 3) := by decide +kernel
theorem dL_law_1052 : decode cL_law 1052 = .ok (.iconst 0, 1) := by decide +kernel
theorem dL_law_1053 : decode cL_law 1053 = .ok (.ireturn, 1) := by decide +kernel
theorem dL_law_1054 : decode cL_law 1054 = .ok (.bipush 25, 2) := by decide +kernel
theorem dL_law_1056 : decode cL_law 1056 = .ok (.newarray .int, 2) := by decide +kernel
theorem dL_law_1058 : decode cL_law 1058 = .ok (.astore 13, 2) := by decide +kernel
theorem dL_law_1060 : decode cL_law 1060 = .ok (.iconst 0, 1) := by decide +kernel
theorem dL_law_1061 : decode cL_law 1061 = .ok (.istore 14, 2) := by decide +kernel
theorem dL_law_1063 : decode cL_law 1063 = .ok (.iload 14, 2) := by decide +kernel
theorem dL_law_1065 : decode cL_law 1065 = .ok (.aload_n 2, 1) := by decide +kernel
theorem dL_law_1066 : decode cL_law 1066 = .ok (.bipush 33, 2) := by decide +kernel
theorem dL_law_1068 : decode cL_law 1068 = .ok (.iaload, 1) := by decide +kernel
theorem dL_law_1069 : decode cL_law 1069 = .ok (.if_icmp .ge 127, 3) := by decide +kernel
theorem dL_law_1072 : decode cL_law 1072 = .ok (.iconst 0, 1) := by decide +kernel
theorem dL_law_1073 : decode cL_law 1073 = .ok (.istore 15, 2) := by decide +kernel
theorem dL_law_1075 : decode cL_law 1075 = .ok (.iload 15, 2) := by decide +kernel
theorem dL_law_1077 : decode cL_law 1077 = .ok (.aload_n 2, 1) := by decide +kernel
theorem dL_law_1078 : decode cL_law 1078 = .ok (.iconst 0, 1) := by decide +kernel
theorem dL_law_1079 : decode cL_law 1079 = .ok (.iaload, 1) := by decide +kernel
theorem dL_law_1080 : decode cL_law 1080 = .ok (.if_icmp .ge 110, 3) := by decide +kernel
theorem dL_law_1083 : decode cL_law 1083 = .ok (.aload_n 2, 1) := by decide +kernel
theorem dL_law_1084 : decode cL_law 1084 = .ok (.aload_n 3, 1) := by decide +kernel
theorem dL_law_1085 : decode cL_law 1085 = .ok (.iload 14, 2) := by decide +kernel
theorem dL_law_1087 : decode cL_law 1087 = .ok (.aload_n 3, 1) := by decide +kernel
theorem dL_law_1088 : decode cL_law 1088 = .ok (.iconst 5, 1) := by decide +kernel
theorem dL_law_1089 : decode cL_law 1089 = .ok (.iload 14, 2) := by decide +kernel
theorem dL_law_1091 : decode cL_law 1091 = .ok (.imul, 1) := by decide +kernel
theorem dL_law_1092 : decode cL_law 1092 = .ok (.iload 15, 2) := by decide +kernel
theorem dL_law_1094 : decode cL_law 1094 = .ok (.invokestatic 67, 3) := by decide +kernel
theorem dL_law_1097 : decode cL_law 1097 = .ok (.istore 16, 2) := by decide +kernel
theorem dL_law_1099 : decode cL_law 1099 = .ok (.aload 13, 2) := by decide +kernel
theorem dL_law_1101 : decode cL_law 1101 = .ok (.iconst 5, 1) := by decide +kernel
theorem dL_law_1102 : decode cL_law 1102 = .ok (.iload 15, 2) := by decide +kernel
theorem dL_law_1104 : decode cL_law 1104 = .ok (.imul, 1) := by decide +kernel
theorem dL_law_1105 : decode cL_law 1105 = .ok (.iload 16, 2) := by decide +kernel
theorem dL_law_1107 : decode cL_law 1107 = .ok (.iadd, 1) := by decide +kernel
theorem dL_law_1108 : decode cL_law 1108 = .ok (.dup2, 1) := by decide +kernel
theorem dL_law_1109 : decode cL_law 1109 = .ok (.iaload, 1) := by decide +kernel
theorem dL_law_1110 : decode cL_law 1110 = .ok (.iconst 1, 1) := by decide +kernel
theorem dL_law_1111 : decode cL_law 1111 = .ok (.iadd, 1) := by decide +kernel
theorem dL_law_1112 : decode cL_law 1112 = .ok (.iastore, 1) := by decide +kernel
theorem dL_law_1113 : decode cL_law 1113 = .ok (.aload_n 3, 1) := by decide +kernel
theorem dL_law_1114 : decode cL_law 1114 = .ok (.iconst 5, 1) := by decide +kernel
theorem dL_law_1115 : decode cL_law 1115 = .ok (.iload 14, 2) := by decide +kernel
theorem dL_law_1117 : decode cL_law 1117 = .ok (.imul, 1) := by decide +kernel
theorem dL_law_1118 : decode cL_law 1118 = .ok (.iload 15, 2) := by decide +kernel
theorem dL_law_1120 : decode cL_law 1120 = .ok (.iadd, 1) := by decide +kernel
theorem dL_law_1121 : decode cL_law 1121 = .ok (.iaload, 1) := by decide +kernel
theorem dL_law_1122 : decode cL_law 1122 = .ok (.istore 17, 2) := by decide +kernel
theorem dL_law_1124 : decode cL_law 1124 = .ok (.aload_n 1, 1) := by decide +kernel
theorem dL_law_1125 : decode cL_law 1125 = .ok (.iload 14, 2) := by decide +kernel
theorem dL_law_1127 : decode cL_law 1127 = .ok (.iload 15, 2) := by decide +kernel
theorem dL_law_1129 : decode cL_law 1129 = .ok (.iconst 0, 1) := by decide +kernel
theorem dL_law_1130 : decode cL_law 1130 = .ok (.invokevirtual 87, 3) := by decide +kernel
theorem dL_law_1133 : decode cL_law 1133 = .ok (.iload 17, 2) := by decide +kernel
theorem dL_law_1135 : decode cL_law 1135 = .ok (.if_icmp .ne 47, 3) := by decide +kernel
theorem dL_law_1138 : decode cL_law 1138 = .ok (.aload_n 1, 1) := by decide +kernel
theorem dL_law_1139 : decode cL_law 1139 = .ok (.iload 14, 2) := by decide +kernel
theorem dL_law_1141 : decode cL_law 1141 = .ok (.iload 15, 2) := by decide +kernel
theorem dL_law_1143 : decode cL_law 1143 = .ok (.iconst 1, 1) := by decide +kernel
theorem dL_law_1144 : decode cL_law 1144 = .ok (.invokevirtual 87, 3) := by decide +kernel
theorem dL_law_1147 : decode cL_law 1147 = .ok (.iload 16, 2) := by decide +kernel
theorem dL_law_1149 : decode cL_law 1149 = .ok (.if_icmp .ne 33, 3) := by decide +kernel
theorem dL_law_1152 : decode cL_law 1152 = .ok (.aload_n 1, 1) := by decide +kernel
theorem dL_law_1153 : decode cL_law 1153 = .ok (.iload 14, 2) := by decide +kernel
theorem dL_law_1155 : decode cL_law 1155 = .ok (.iload 15, 2) := by decide +kernel
theorem dL_law_1157 : decode cL_law 1157 = .ok (.iconst 2, 1) := by decide +kernel
theorem dL_law_1158 : decode cL_law 1158 = .ok (.invokevirtual 87, 3) := by decide +kernel
theorem dL_law_1161 : decode cL_law 1161 = .ok (.iload 17, 2) := by decide +kernel
theorem dL_law_1163 : decode cL_law 1163 = .ok (.ifCond .ge 7, 3) := by decide +kernel
theorem dL_law_1166 : decode cL_law 1166 = .ok (.iconst 0, 1) := by decide +kernel
theorem dL_law_1167 : decode cL_law 1167 = .ok (.goto 12, 3) := by decide +kernel
theorem dL_law_1170 : decode cL_law 1170 = .ok (.aload_n 2, 1) := by decide +kernel
theorem dL_law_1171 : decode cL_law 1171 = .ok (.aload_n 3, 1) := by decide +kernel
theorem dL_law_1172 : decode cL_law 1172 = .ok (.iload 14, 2) := by decide +kernel
theorem dL_law_1174 : decode cL_law 1174 = .ok (.iload 17, 2) := by decide +kernel
theorem dL_law_1176 : decode cL_law 1176 = .ok (.invokestatic 35, 3) := by decide +kernel
theorem dL_law_1179 : decode cL_law 1179 = .ok (.if_icmp .eq 5, 3) := by decide +kernel
theorem dL_law_1182 : decode cL_law 1182 = .ok (.iconst 0, 1) := by decide +kernel
theorem dL_law_1183 : decode cL_law 1183 = .ok (.ireturn, 1) := by decide +kernel
theorem dL_law_1184 : decode cL_law 1184 = .ok (.iinc 15 1, 3) := by decide +kernel
theorem dL_law_1187 : decode cL_law 1187 = .ok (.goto (-112), 3) := by decide +kernel
theorem dL_law_1190 : decode cL_law 1190 = .ok (.iinc 14 1, 3) := by decide +kernel
theorem dL_law_1193 : decode cL_law 1193 = .ok (.goto (-130), 3) := by decide +kernel
theorem dL_law_1196 : decode cL_law 1196 = .ok (.iconst 0, 1) := by decide +kernel
theorem dL_law_1197 : decode cL_law 1197 = .ok (.istore 14, 2) := by decide +kernel
theorem dL_law_1199 : decode cL_law 1199 = .ok (.iload 14, 2) := by decide +kernel
theorem dL_law_1201 : decode cL_law 1201 = .ok (.bipush 25, 2) := by decide +kernel
theorem dL_law_1203 : decode cL_law 1203 = .ok (.if_icmp .ge 51, 3) := by decide +kernel
theorem dL_law_1206 : decode cL_law 1206 = .ok (.iload 14, 2) := by decide +kernel
theorem dL_law_1208 : decode cL_law 1208 = .ok (.iconst 5, 1) := by decide +kernel
theorem dL_law_1209 : decode cL_law 1209 = .ok (.idiv, 1) := by decide +kernel
theorem dL_law_1210 : decode cL_law 1210 = .ok (.aload_n 2, 1) := by decide +kernel
theorem dL_law_1211 : decode cL_law 1211 = .ok (.iconst 0, 1) := by decide +kernel
theorem dL_law_1212 : decode cL_law 1212 = .ok (.iaload, 1) := by decide +kernel
theorem dL_law_1213 : decode cL_law 1213 = .ok (.if_icmp .ge 35, 3) := by decide +kernel
theorem dL_law_1216 : decode cL_law 1216 = .ok (.iload 14, 2) := by decide +kernel
theorem dL_law_1218 : decode cL_law 1218 = .ok (.iconst 5, 1) := by decide +kernel
theorem dL_law_1219 : decode cL_law 1219 = .ok (.irem, 1) := by decide +kernel
theorem dL_law_1220 : decode cL_law 1220 = .ok (.aload_n 2, 1) := by decide +kernel
theorem dL_law_1221 : decode cL_law 1221 = .ok (.iconst 0, 1) := by decide +kernel
theorem dL_law_1222 : decode cL_law 1222 = .ok (.iaload, 1) := by decide +kernel
theorem dL_law_1223 : decode cL_law 1223 = .ok (.if_icmp .ge 25, 3) := by decide +kernel
theorem dL_law_1226 : decode cL_law 1226 = .ok (.aload_n 1, 1) := by decide +kernel
theorem dL_law_1227 : decode cL_law 1227 = .ok (.iload 14, 2) := by decide +kernel
theorem dL_law_1229 : decode cL_law 1229 = .ok (.iconst 5, 1) := by decide +kernel
theorem dL_law_1230 : decode cL_law 1230 = .ok (.idiv, 1) := by decide +kernel
theorem dL_law_1231 : decode cL_law 1231 = .ok (.iload 14, 2) := by decide +kernel
theorem dL_law_1233 : decode cL_law 1233 = .ok (.iconst 5, 1) := by decide +kernel
theorem dL_law_1234 : decode cL_law 1234 = .ok (.irem, 1) := by decide +kernel
theorem dL_law_1235 : decode cL_law 1235 = .ok (.invokevirtual 90, 3) := by decide +kernel
theorem dL_law_1238 : decode cL_law 1238 = .ok (.aload 13, 2) := by decide +kernel
theorem dL_law_1240 : decode cL_law 1240 = .ok (.iload 14, 2) := by decide +kernel
theorem dL_law_1242 : decode cL_law 1242 = .ok (.iaload, 1) := by decide +kernel
theorem dL_law_1243 : decode cL_law 1243 = .ok (.if_icmp .eq 5, 3) := by decide +kernel
theorem dL_law_1246 : decode cL_law 1246 = .ok (.iconst 0, 1) := by decide +kernel
theorem dL_law_1247 : decode cL_law 1247 = .ok (.ireturn, 1) := by decide +kernel
theorem dL_law_1248 : decode cL_law 1248 = .ok (.iinc 14 1, 3) := by decide +kernel
theorem dL_law_1251 : decode cL_law 1251 = .ok (.goto (-52), 3) := by decide +kernel
theorem dL_law_1254 : decode cL_law 1254 = .ok (.aload_n 1, 1) := by decide +kernel
theorem dL_law_1255 : decode cL_law 1255 = .ok (.iconst 2, 1) := by decide +kernel
theorem dL_law_1256 : decode cL_law 1256 = .ok (.invokevirtual 93, 3) := by decide +kernel
theorem dL_law_1259 : decode cL_law 1259 = .ok (.aload_n 2, 1) := by decide +kernel
theorem dL_law_1260 : decode cL_law 1260 = .ok (.bipush 33, 2) := by decide +kernel
theorem dL_law_1262 : decode cL_law 1262 = .ok (.iaload, 1) := by decide +kernel
theorem dL_law_1263 : decode cL_law 1263 = .ok (.if_icmp .ne 15, 3) := by decide +kernel
theorem dL_law_1266 : decode cL_law 1266 = .ok (.aload_n 1, 1) := by decide +kernel
theorem dL_law_1267 : decode cL_law 1267 = .ok (.iconst 3, 1) := by decide +kernel
theorem dL_law_1268 : decode cL_law 1268 = .ok (.invokevirtual 93, 3) := by decide +kernel
theorem dL_law_1271 : decode cL_law 1271 = .ok (.aload_n 2, 1) := by decide +kernel
theorem dL_law_1272 : decode cL_law 1272 = .ok (.bipush 32, 2) := by decide +kernel
theorem dL_law_1274 : decode cL_law 1274 = .ok (.iaload, 1) := by decide +kernel
theorem dL_law_1275 : decode cL_law 1275 = .ok (.if_icmp .eq 5, 3) := by decide +kernel
theorem dL_law_1278 : decode cL_law 1278 = .ok (.iconst 0, 1) := by decide +kernel
theorem dL_law_1279 : decode cL_law 1279 = .ok (.ireturn, 1) := by decide +kernel
theorem dL_law_1280 : decode cL_law 1280 = .ok (.iinc 6 1, 3) := by decide +kernel
theorem dL_law_1283 : decode cL_law 1283 = .ok (.goto (-1200), 3) := by decide +kernel
theorem dL_law_1286 : decode cL_law 1286 = .ok (.aload_n 2, 1) := by decide +kernel
theorem dL_law_1287 : decode cL_law 1287 = .ok (.iconst 0, 1) := by decide +kernel
theorem dL_law_1288 : decode cL_law 1288 = .ok (.iaload, 1) := by decide +kernel
theorem dL_law_1289 : decode cL_law 1289 = .ok (.istore 6, 2) := by decide +kernel
theorem dL_law_1291 : decode cL_law 1291 = .ok (.aload_n 1, 1) := by decide +kernel
theorem dL_law_1292 : decode cL_law 1292 = .ok (.iload 6, 2) := by decide +kernel
theorem dL_law_1294 : decode cL_law 1294 = .ok (.bipush (-9), 2) := by decide +kernel
theorem dL_law_1296 : decode cL_law 1296 = .ok (.invokevirtual 43, 3) := by decide +kernel
theorem dL_law_1299 : decode cL_law 1299 = .ok (.iconst (-1), 1) := by decide +kernel
theorem dL_law_1300 : decode cL_law 1300 = .ok (.if_icmp .ne 233, 3) := by decide +kernel
theorem dL_law_1303 : decode cL_law 1303 = .ok (.aload_n 1, 1) := by decide +kernel
theorem dL_law_1304 : decode cL_law 1304 = .ok (.iconst 0, 1) := by decide +kernel
theorem dL_law_1305 : decode cL_law 1305 = .ok (.aload_n 2, 1) := by decide +kernel
theorem dL_law_1306 : decode cL_law 1306 = .ok (.iconst 1, 1) := by decide +kernel
theorem dL_law_1307 : decode cL_law 1307 = .ok (.iaload, 1) := by decide +kernel
theorem dL_law_1308 : decode cL_law 1308 = .ok (.invokevirtual 43, 3) := by decide +kernel
theorem dL_law_1311 : decode cL_law 1311 = .ok (.iconst (-1), 1) := by decide +kernel
theorem dL_law_1312 : decode cL_law 1312 = .ok (.if_icmp .ne 221, 3) := by decide +kernel
theorem dL_law_1315 : decode cL_law 1315 = .ok (.aload_n 1, 1) := by decide +kernel
theorem dL_law_1316 : decode cL_law 1316 = .ok (.iconst 0, 1) := by decide +kernel
theorem dL_law_1317 : decode cL_law 1317 = .ok (.iconst (-1), 1) := by decide +kernel
theorem dL_law_1318 : decode cL_law 1318 = .ok (.invokevirtual 43, 3) := by decide +kernel
theorem dL_law_1321 : decode cL_law 1321 = .ok (.iconst (-1), 1) := by decide +kernel
theorem dL_law_1322 : decode cL_law 1322 = .ok (.if_icmp .ne 211, 3) := by decide +kernel
theorem dL_law_1325 : decode cL_law 1325 = .ok (.aload_n 1, 1) := by decide +kernel
theorem dL_law_1326 : decode cL_law 1326 = .ok (.bipush 100, 2) := by decide +kernel
theorem dL_law_1328 : decode cL_law 1328 = .ok (.invokevirtual 54, 3) := by decide +kernel
theorem dL_law_1331 : decode cL_law 1331 = .ok (.bipush (-2), 2) := by decide +kernel
theorem dL_law_1333 : decode cL_law 1333 = .ok (.if_icmp .ne 200, 3) := by decide +kernel
theorem dL_law_1336 : decode cL_law 1336 = .ok (.aload_n 1, 1) := by decide +kernel
theorem dL_law_1337 : decode cL_law 1337 = .ok (.iconst (-1), 1) := by decide +kernel
theorem dL_law_1338 : decode cL_law 1338 = .ok (.invokevirtual 54, 3) := by decide +kernel
theorem dL_law_1341 : decode cL_law 1341 = .ok (.bipush (-2), 2) := by decide +kernel
theorem dL_law_1343 : decode cL_law 1343 = .ok (.if_icmp .ne 190, 3) := by decide +kernel
theorem dL_law_1346 : decode cL_law 1346 = .ok (.aload_n 1, 1) := by decide +kernel
theorem dL_law_1347 : decode cL_law 1347 = .ok (.aload_n 2, 1) := by decide +kernel
theorem dL_law_1348 : decode cL_law 1348 = .ok (.bipush 33, 2) := by decide +kernel
theorem dL_law_1350 : decode cL_law 1350 = .ok (.iaload, 1) := by decide +kernel
theorem dL_law_1351 : decode cL_law 1351 = .ok (.iconst 0, 1) := by decide +kernel
theorem dL_law_1352 : decode cL_law 1352 = .ok (.iconst 0, 1) := by decide +kernel
theorem dL_law_1353 : decode cL_law 1353 = .ok (.invokevirtual 87, 3) := by decide +kernel
theorem dL_law_1356 : decode cL_law 1356 = .ok (.iconst (-1), 1) := by decide +kernel
theorem dL_law_1357 : decode cL_law 1357 = .ok (.if_icmp .ne 176, 3) := by decide +kernel
theorem dL_law_1360 : decode cL_law 1360 = .ok (.aload_n 1, 1) := by decide +kernel
theorem dL_law_1361 : decode cL_law 1361 = .ok (.iconst (-1), 1) := by decide +kernel
theorem dL_law_1362 : decode cL_law 1362 = .ok (.iconst 0, 1) := by decide +kernel
theorem dL_law_1363 : decode cL_law 1363 = .ok (.iconst 0, 1) := by decide +kernel
theorem dL_law_1364 : decode cL_law 1364 = .ok (.invokevirtual 87, 3) := by decide +kernel
theorem dL_law_1367 : decode cL_law 1367 = .ok (.iconst (-1), 1) := by decide +kernel
theorem dL_law_1368 : decode cL_law 1368 = .ok (.if_icmp .ne 165, 3) := by decide +kernel
theorem dL_law_1371 : decode cL_law 1371 = .ok (.aload_n 1, 1) := by decide +kernel
theorem dL_law_1372 : decode cL_law 1372 = .ok (.aload_n 2, 1) := by decide +kernel
theorem dL_law_1373 : decode cL_law 1373 = .ok (.bipush 33, 2) := by decide +kernel
theorem dL_law_1375 : decode cL_law 1375 = .ok (.iaload, 1) := by decide +kernel
theorem dL_law_1376 : decode cL_law 1376 = .ok (.iconst 1, 1) := by decide +kernel
theorem dL_law_1377 : decode cL_law 1377 = .ok (.iadd, 1) := by decide +kernel
theorem dL_law_1378 : decode cL_law 1378 = .ok (.invokevirtual 84, 3) := by decide +kernel
theorem dL_law_1381 : decode cL_law 1381 = .ok (.bipush (-2), 2) := by decide +kernel
theorem dL_law_1383 : decode cL_law 1383 = .ok (.if_icmp .ne 150, 3) := by decide +kernel
theorem dL_law_1386 : decode cL_law 1386 = .ok (.aload_n 1, 1) := by decide +kernel
theorem dL_law_1387 : decode cL_law 1387 = .ok (.iconst (-1), 1) := by decide +kernel
theorem dL_law_1388 : decode cL_law 1388 = .ok (.invokevirtual 84, 3) := by decide +kernel
theorem dL_law_1391 : decode cL_law 1391 = .ok (.bipush (-2), 2) := by decide +kernel
theorem dL_law_1393 : decode cL_law 1393 = .ok (.if_icmp .ne 140, 3) := by decide +kernel
theorem dL_law_1396 : decode cL_law 1396 = .ok (.aload_n 1, 1) := by decide +kernel
theorem dL_law_1397 : decode cL_law 1397 = .ok (.iload 6, 2) := by decide +kernel
theorem dL_law_1399 : decode cL_law 1399 = .ok (.iconst 0, 1) := by decide +kernel
theorem dL_law_1400 : decode cL_law 1400 = .ok (.invokevirtual 90, 3) := by decide +kernel
theorem dL_law_1403 : decode cL_law 1403 = .ok (.iconst (-1), 1) := by decide +kernel
theorem dL_law_1404 : decode cL_law 1404 = .ok (.if_icmp .ne 129, 3) := by decide +kernel
theorem dL_law_1407 : decode cL_law 1407 = .ok (.aload_n 1, 1) := by decide +kernel
theorem dL_law_1408 : decode cL_law 1408 = .ok (.iconst 0, 1) := by decide +kernel
theorem dL_law_1409 : decode cL_law 1409 = .ok (.iload 6, 2) := by decide +kernel
theorem dL_law_1411 : decode cL_law 1411 = .ok (.invokevirtual 90, 3) := by decide +kernel
theorem dL_law_1414 : decode cL_law 1414 = .ok (.iconst (-1), 1) := by decide +kernel
theorem dL_law_1415 : decode cL_law 1415 = .ok (.if_icmp .ne 118, 3) := by decide +kernel
theorem dL_law_1418 : decode cL_law 1418 = .ok (.aload_n 1, 1) := by decide +kernel
theorem dL_law_1419 : decode cL_law 1419 = .ok (.iload 6, 2) := by decide +kernel
theorem dL_law_1421 : decode cL_law 1421 = .ok (.iconst 0, 1) := by decide +kernel
theorem dL_law_1422 : decode cL_law 1422 = .ok (.invokevirtual 64, 3) := by decide +kernel
theorem dL_law_1425 : decode cL_law 1425 = .ok (.iconst (-1), 1) := by decide +kernel
theorem dL_law_1426 : decode cL_law 1426 = .ok (.if_icmp .ne 107, 3) := by decide +kernel
theorem dL_law_1429 : decode cL_law 1429 = .ok (.aload_n 1, 1) := by decide +kernel
theorem dL_law_1430 : decode cL_law 1430 = .ok (.iconst 0, 1) := by decide +kernel
theorem dL_law_1431 : decode cL_law 1431 = .ok (.iconst 3, 1) := by decide +kernel
theorem dL_law_1432 : decode cL_law 1432 = .ok (.invokevirtual 64, 3) := by decide +kernel
theorem dL_law_1435 : decode cL_law 1435 = .ok (.bipush (-2), 2) := by decide +kernel
theorem dL_law_1437 : decode cL_law 1437 = .ok (.if_icmp .ne 96, 3) := by decide +kernel
theorem dL_law_1440 : decode cL_law 1440 = .ok (.aload_n 1, 1) := by decide +kernel
theorem dL_law_1441 : decode cL_law 1441 = .ok (.iload 6, 2) := by decide +kernel
theorem dL_law_1443 : decode cL_law 1443 = .ok (.iconst 0, 1) := by decide +kernel
theorem dL_law_1444 : decode cL_law 1444 = .ok (.invokevirtual 71, 3) := by decide +kernel
theorem dL_law_1447 : decode cL_law 1447 = .ok (.iconst (-1), 1) := by decide +kernel
theorem dL_law_1448 : decode cL_law 1448 = .ok (.if_icmp .ne 85, 3) := by decide +kernel
theorem dL_law_1451 : decode cL_law 1451 = .ok (.aload_n 1, 1) := by decide +kernel
theorem dL_law_1452 : decode cL_law 1452 = .ok (.iconst 0, 1) := by decide +kernel
theorem dL_law_1453 : decode cL_law 1453 = .ok (.iconst 2, 1) := by decide +kernel
theorem dL_law_1454 : decode cL_law 1454 = .ok (.invokevirtual 71, 3) := by decide +kernel
theorem dL_law_1457 : decode cL_law 1457 = .ok (.bipush (-2), 2) := by decide +kernel
theorem dL_law_1459 : decode cL_law 1459 = .ok (.if_icmp .ne 74, 3) := by decide +kernel
theorem dL_law_1462 : decode cL_law 1462 = .ok (.aload_n 1, 1) := by decide +kernel
theorem dL_law_1463 : decode cL_law 1463 = .ok (.iconst (-1), 1) := by decide +kernel
theorem dL_law_1464 : decode cL_law 1464 = .ok (.iconst 0, 1) := by decide +kernel
theorem dL_law_1465 : decode cL_law 1465 = .ok (.invokevirtual 74, 3) := by decide +kernel
theorem dL_law_1468 : decode cL_law 1468 = .ok (.iconst (-1), 1) := by decide +kernel
theorem dL_law_1469 : decode cL_law 1469 = .ok (.if_icmp .ne 64, 3) := by decide +kernel
theorem dL_law_1472 : decode cL_law 1472 = .ok (.aload_n 1, 1) := by decide +kernel
theorem dL_law_1473 : decode cL_law 1473 = .ok (.iconst 0, 1) := by decide +kernel
theorem dL_law_1474 : decode cL_law 1474 = .ok (.iconst (-1), 1) := by decide +kernel
theorem dL_law_1475 : decode cL_law 1475 = .ok (.invokevirtual 74, 3) := by decide +kernel
theorem dL_law_1478 : decode cL_law 1478 = .ok (.bipush (-2), 2) := by decide +kernel
theorem dL_law_1480 : decode cL_law 1480 = .ok (.if_icmp .ne 53, 3) := by decide +kernel
theorem dL_law_1483 : decode cL_law 1483 = .ok (.aload_n 1, 1) := by decide +kernel
theorem dL_law_1484 : decode cL_law 1484 = .ok (.sipush 1000, 3) := by decide +kernel
theorem dL_law_1487 : decode cL_law 1487 = .ok (.invokevirtual 77, 3) := by decide +kernel
theorem dL_law_1490 : decode cL_law 1490 = .ok (.bipush (-2), 2) := by decide +kernel
theorem dL_law_1492 : decode cL_law 1492 = .ok (.if_icmp .ne 41, 3) := by decide +kernel
theorem dL_law_1495 : decode cL_law 1495 = .ok (.aload_n 1, 1) := by decide +kernel
theorem dL_law_1496 : decode cL_law 1496 = .ok (.iconst (-1), 1) := by decide +kernel
theorem dL_law_1497 : decode cL_law 1497 = .ok (.invokevirtual 77, 3) := by decide +kernel
theorem dL_law_1500 : decode cL_law 1500 = .ok (.bipush (-2), 2) := by decide +kernel
theorem dL_law_1502 : decode cL_law 1502 = .ok (.if_icmp .ne 31, 3) := by decide +kernel
theorem dL_law_1505 : decode cL_law 1505 = .ok (.aload_n 1, 1) := by decide +kernel
theorem dL_law_1506 : decode cL_law 1506 = .ok (.aload_n 2, 1) := by decide +kernel
theorem dL_law_1507 : decode cL_law 1507 = .ok (.iconst 1, 1) := by decide +kernel
theorem dL_law_1508 : decode cL_law 1508 = .ok (.iaload, 1) := by decide +kernel
theorem dL_law_1509 : decode cL_law 1509 = .ok (.iconst 0, 1) := by decide +kernel
theorem dL_law_1510 : decode cL_law 1510 = .ok (.invokevirtual 61, 3) := by decide +kernel
theorem dL_law_1513 : decode cL_law 1513 = .ok (.iconst (-1), 1) := by decide +kernel
theorem dL_law_1514 : decode cL_law 1514 = .ok (.if_icmp .ne 19, 3) := by decide +kernel
theorem dL_law_1517 : decode cL_law 1517 = .ok (.aload_n 1, 1) := by decide +kernel
theorem dL_law_1518 : decode cL_law 1518 = .ok (.iconst 0, 1) := by decide +kernel
theorem dL_law_1519 : decode cL_law 1519 = .ok (.bipush 7, 2) := by decide +kernel
theorem dL_law_1521 : decode cL_law 1521 = .ok (.invokevirtual 61, 3) := by decide +kernel
theorem dL_law_1524 : decode cL_law 1524 = .ok (.bipush (-2), 2) := by decide +kernel
theorem dL_law_1526 : decode cL_law 1526 = .ok (.if_icmp .ne 7, 3) := by decide +kernel
theorem dL_law_1529 : decode cL_law 1529 = .ok (.iconst 1, 1) := by decide +kernel
theorem dL_law_1530 : decode cL_law 1530 = .ok (.goto 4, 3) := by decide +kernel
theorem dL_law_1533 : decode cL_law 1533 = .ok (.iconst 0, 1) := by decide +kernel
theorem dL_law_1534 : decode cL_law 1534 = .ok (.ireturn, 1) := by decide +kernel
end
section
/-! ===== rows for System.arraycopy and Arrays.fill by the arrays that they are used with (by program: wip/gen30/dec.py) ===== -/
theorem k_cT_8_11 {Rt : Type} {X : k_C} {Y : k_Y} {q : Nat → Nat} {kc ks : Nat} {Q : Rt → k_S → State → Prop} {pc : Nat} {L : List (Option Value)} {σ : k_S} {index : Nat} {sp dp n : Int32} (hw : Cond.methodLink Y.2.2.2.1 index arraycopyName ∈ k_ws) (hR : 1 ≤ Y.1.frames ∧ 48 ≤ Y.1.locals) (hd : decode Y.2.1 pc = .ok (.invokestatic index, 3)) {kf : k_S → Option (Rt × k_S)} (kk : ∀ σ' : k_S, KO X Y (cT (k_I X) q) kc ks Q (pc + 3) L [] σ' (kf σ')) : KO X Y (cT (k_I X) q) kc ks Q pc L [.int n, .int dp, .ref (q 11), .int sp, .ref (q 8)] σ (k_gc sp dp n 240 60 (k_bn (k_sc σ 1 4 sp dp n) kf)) := k_copy 8 11 rfl rfl rfl hw ⟨hR.1, Nat.le_trans (by decide) hR.2⟩ hd kk
theorem k_fT2_15 {Rt : Type} {X : k_C} {Y : k_Y} {q : Nat → Nat} {Q : Rt → k_S → State → Prop} {pc : Nat} {L : List (Option Value)} {σ : k_S} {index : Nat} {v : Int32} (hw : Cond.methodLink Y.2.2.2.1 index yJ7_fill_53178 ∈ k_ws) (hR : 1 ≤ Y.1.frames ∧ 60 ≤ Y.1.locals) (hd : decode Y.2.1 pc = .ok (.invokestatic index, 3)) {kf : k_S → Option (Rt × k_S)} (kk : ∀ σ' : k_S, KO X Y (cT (k_I X) q) 0 0 Q (pc + 3) L [] σ' (kf σ')) : KO X Y (cT (k_I X) q) 0 0 Q pc L [.int v, .ref (q 15)] σ (k_bn (k_sA σ 8 (k_fl (σ.2 8) 0 10 v)) kf) := k_fill2 (wr := k_sA σ 8) (cT_same _ _) 15 (by decide) rfl (fun _ => rfl) hw hR hd kk
theorem k_fT2_16 {Rt : Type} {X : k_C} {Y : k_Y} {q : Nat → Nat} {Q : Rt → k_S → State → Prop} {pc : Nat} {L : List (Option Value)} {σ : k_S} {index : Nat} {v : Int32} (hw : Cond.methodLink Y.2.2.2.1 index yJ7_fill_53178 ∈ k_ws) (hR : 1 ≤ Y.1.frames ∧ 60 ≤ Y.1.locals) (hd : decode Y.2.1 pc = .ok (.invokestatic index, 3)) {kf : k_S → Option (Rt × k_S)} (kk : ∀ σ' : k_S, KO X Y (cT (k_I X) q) 0 0 Q (pc + 3) L [] σ' (kf σ')) : KO X Y (cT (k_I X) q) 0 0 Q pc L [.int v, .ref (q 16)] σ (k_bn (k_sA σ 9 (k_fl (σ.2 9) 0 10 v)) kf) := k_fill2 (wr := k_sA σ 9) (cT_same _ _) 16 (by decide) rfl (fun _ => rfl) hw hR hd kk
theorem k_fT2_17 {Rt : Type} {X : k_C} {Y : k_Y} {q : Nat → Nat} {Q : Rt → k_S → State → Prop} {pc : Nat} {L : List (Option Value)} {σ : k_S} {index : Nat} {v : Int32} (hw : Cond.methodLink Y.2.2.2.1 index yJ7_fill_53178 ∈ k_ws) (hR : 1 ≤ Y.1.frames ∧ 60 ≤ Y.1.locals) (hd : decode Y.2.1 pc = .ok (.invokestatic index, 3)) {kf : k_S → Option (Rt × k_S)} (kk : ∀ σ' : k_S, KO X Y (cT (k_I X) q) 0 0 Q (pc + 3) L [] σ' (kf σ')) : KO X Y (cT (k_I X) q) 0 0 Q pc L [.int v, .ref (q 17)] σ (k_bn (k_sA σ 10 (k_fl (σ.2 10) 0 5 v)) kf) := k_fill2 (wr := k_sA σ 10) (cT_same _ _) 17 (by decide) rfl (fun _ => rfl) hw hR hd kk
theorem k_fT4_8 {Rt : Type} {X : k_C} {Y : k_Y} {q : Nat → Nat} {Q : Rt → k_S → State → Prop} {pc : Nat} {L : List (Option Value)} {σ : k_S} {index : Nat} {lo hi v : Int32} (hw : Cond.methodLink Y.2.2.2.1 index yJ7_fill_fda19 ∈ k_ws) (hR : 2 ≤ Y.1.frames ∧ 90 ≤ Y.1.locals) (hd : decode Y.2.1 pc = .ok (.invokestatic index, 3)) {kf : k_S → Option (Rt × k_S)} (kk : ∀ σ' : k_S, KO X Y (cT (k_I X) q) 0 0 Q (pc + 3) L [] σ' (kf σ')) : KO X Y (cT (k_I X) q) 0 0 Q pc L [.int v, .int hi, .int lo, .ref (q 8)] σ (k_gf lo hi 240 (k_bn (k_sA σ 1 (k_fl (σ.2 1) lo.toNatClampNeg hi.toNatClampNeg v)) kf)) := k_fill4 (wr := k_sA σ 1) (cT_same _ _) 8 (by decide) rfl (fun _ => rfl) hw hR hd kk
end
section
/-! ===== T: methods as pure functions, and that the bytecode answers so (by program: wip/gen30/dec.py) ===== -/
-- TallTales.isSheet(I)Z
theorem ckX6_isSheet : k_Sok yX6_isSheet cX6_isSheet 1 (some .boolean) 1 := ⟨kwk_X6_isSheet, kws_X6_isSheet, kwn_X6, by decide, by decide +kernel⟩
abbrev rmX6_isSheet : Room := { frames := 0, cells := 0, slots := 0, locals := 0 }
abbrev YX6_isSheet : k_Y := (rmX6_isSheet, cX6_isSheet, 1, RX6, (some .boolean))
noncomputable def fX6_isSheet (σ : k_S) (x0 : Int32) : Option (Int32 × k_S) := (if x0 < 0 then k_z ((nI 0)) (some ((nI 0), σ)) else (if x0 < (nI 4) then k_z ((nI 1)) (some ((nI 1), σ)) else k_z ((nI 0)) (some ((nI 0), σ))))
set_option maxRecDepth 100000 in
set_option maxHeartbeats 4000000 in
theorem kX6_isSheet {D : va_G} {cI : ClassId} {q : Nat → Nat} {σ : k_S} {x0 : Int32} {r : Int32} {τ : k_S} (h : fX6_isSheet σ x0 = some (r, τ)) : k_Ct k_ei yX6_isSheet cX6_isSheet 1 (some .boolean) rmX6_isSheet (cT cI q) D cI [.int x0] σ r τ := by
  refine k_met (Y := YX6_isSheet) (cT_same _ _) (by decide) rfl (Nat.le_of_ble_eq_true rfl) (List.forall_mem_cons.mpr ⟨rfl, fun _ h => absurd h List.not_mem_nil⟩) (fun X hD hI => ?_) h
  subst hD hI
  show KO X YX6_isSheet (cT (k_I X) q) 0 0 (k_Q k_ei X (cT (k_I X) q)) 0 [some (.int x0)] [] σ _
  unfold fX6_isSheet
  refine k_iload_n (pc := 0) dX6_isSheet_0 rfl ?_
  refine k_if_lt (pc := 1) 13 dX6_isSheet_1 (by decide) ?_ ?_
  · refine k_iconst (pc := 13) (v := (nI 0)) dX6_isSheet_13 (by decide) ?_
    exact k_zreturn (pc := 14) rfl dX6_isSheet_14
  · refine k_iload_n (pc := 4) dX6_isSheet_4 rfl ?_
    refine k_iconst (pc := 5) (v := (nI 4)) dX6_isSheet_5 (by decide) ?_
    refine k_icmp_ge (pc := 6) 13 dX6_isSheet_6 (by decide) ?_ ?_
    · refine k_iconst (pc := 13) (v := (nI 0)) dX6_isSheet_13 (by decide) ?_
      exact k_zreturn (pc := 14) rfl dX6_isSheet_14
    · refine k_iconst (pc := 9) (v := (nI 1)) dX6_isSheet_9 (by decide) ?_
      refine k_goto (pc := 10) 14 dX6_isSheet_10 (by decide) ?_
      exact k_zreturn (pc := 14) rfl dX6_isSheet_14
-- TallTales.isSort(I)Z
theorem ckX6_isSort : k_Sok yX6_isSort cX6_isSort 1 (some .boolean) 1 := ⟨kwk_X6_isSort, kws_X6_isSort, kwn_X6, by decide, by decide +kernel⟩
abbrev rmX6_isSort : Room := { frames := 0, cells := 0, slots := 0, locals := 0 }
abbrev YX6_isSort : k_Y := (rmX6_isSort, cX6_isSort, 1, RX6, (some .boolean))
noncomputable def fX6_isSort (σ : k_S) (x0 : Int32) : Option (Int32 × k_S) := (if x0 < 0 then k_z ((nI 0)) (some ((nI 0), σ)) else (if (nI 2) < x0 then k_z ((nI 0)) (some ((nI 0), σ)) else k_z ((nI 1)) (some ((nI 1), σ))))
set_option maxRecDepth 100000 in
set_option maxHeartbeats 4000000 in
theorem kX6_isSort {D : va_G} {cI : ClassId} {q : Nat → Nat} {σ : k_S} {x0 : Int32} {r : Int32} {τ : k_S} (h : fX6_isSort σ x0 = some (r, τ)) : k_Ct k_ei yX6_isSort cX6_isSort 1 (some .boolean) rmX6_isSort (cT cI q) D cI [.int x0] σ r τ := by
  refine k_met (Y := YX6_isSort) (cT_same _ _) (by decide) rfl (Nat.le_of_ble_eq_true rfl) (List.forall_mem_cons.mpr ⟨rfl, fun _ h => absurd h List.not_mem_nil⟩) (fun X hD hI => ?_) h
  subst hD hI
  show KO X YX6_isSort (cT (k_I X) q) 0 0 (k_Q k_ei X (cT (k_I X) q)) 0 [some (.int x0)] [] σ _
  unfold fX6_isSort
  refine k_iload_n (pc := 0) dX6_isSort_0 rfl ?_
  refine k_if_lt (pc := 1) 13 dX6_isSort_1 (by decide) ?_ ?_
  · refine k_iconst (pc := 13) (v := (nI 0)) dX6_isSort_13 (by decide) ?_
    exact k_zreturn (pc := 14) rfl dX6_isSort_14
  · refine k_iload_n (pc := 4) dX6_isSort_4 rfl ?_
    refine k_iconst (pc := 5) (v := (nI 2)) dX6_isSort_5 (by decide) ?_
    refine k_icmp_gt (pc := 6) 13 dX6_isSort_6 (by decide) ?_ ?_
    · refine k_iconst (pc := 13) (v := (nI 0)) dX6_isSort_13 (by decide) ?_
      exact k_zreturn (pc := 14) rfl dX6_isSort_14
    · refine k_iconst (pc := 9) (v := (nI 1)) dX6_isSort_9 (by decide) ?_
      refine k_goto (pc := 10) 14 dX6_isSort_10 (by decide) ?_
      exact k_zreturn (pc := 14) rfl dX6_isSort_14
-- TallTales$Sheets.hasRow(I)Z
theorem ckX2_hasRow : k_Vok yX2_hasRow cX2_hasRow 2 (some .boolean) 1 := ⟨kwk_X2_hasRow, kwi_X2_hasRow, kwv_X2_hasRow, kwn_X2, by decide, by decide +kernel⟩
abbrev rmX2_hasRow : Room := { frames := 0, cells := 0, slots := 0, locals := 0 }
abbrev YX2_hasRow : k_Y := (rmX2_hasRow, cX2_hasRow, 2, RX2, (some .boolean))
noncomputable def fX2_hasRow (σ : k_S) (x1 : Int32) : Option (Int32 × k_S) := k_gd (x1) 4 ((if σ.2 3 (Int32.toNatClampNeg (x1)) = (k_ng 9) then k_z ((nI 0)) (some ((nI 0), σ)) else k_z ((nI 1)) (some ((nI 1), σ))))
set_option maxRecDepth 100000 in
set_option maxHeartbeats 4000000 in
theorem kX2_hasRow {D : va_G} {cI : ClassId} {q : Nat → Nat} {σ : k_S} {x1 : Int32} {r : Int32} {τ : k_S} (h : fX2_hasRow σ x1 = some (r, τ)) : k_Ct k_ei yX2_hasRow cX2_hasRow 2 (some .boolean) rmX2_hasRow (cT cI q) D cI [.ref (q 1), .int x1] σ r τ := by
  refine k_met (Y := YX2_hasRow) (cT_same _ _) (by decide) rfl (Nat.le_of_ble_eq_true rfl) (List.forall_mem_cons.mpr ⟨rfl, List.forall_mem_cons.mpr ⟨rfl, fun _ h => absurd h List.not_mem_nil⟩⟩) (fun X hD hI => ?_) h
  subst hD hI
  show KO X YX2_hasRow (cT (k_I X) q) 0 0 (k_Q k_ei X (cT (k_I X) q)) 0 [some (.ref (q 1)), some (.int x1)] [] σ _
  unfold fX2_hasRow
  refine k_aload_n (pc := 0) dX2_hasRow_0 rfl ?_
  refine k_gTX2_lengths (pc := 1) kwf_X2_18 rfl dX2_hasRow_1 ?_
  refine k_iload_n (pc := 4) dX2_hasRow_4 rfl ?_
  refine k_lT10 (pc := 5) dX2_hasRow_5 ?_
  refine k_bipush (pc := 6) (v := (k_ng 9)) dX2_hasRow_6 (by decide) ?_
  refine k_icmp_eq (pc := 8) 15 dX2_hasRow_8 (by decide) ?_ ?_
  · refine k_iconst (pc := 15) (v := (nI 0)) dX2_hasRow_15 (by decide) ?_
    exact k_zreturn (pc := 16) rfl dX2_hasRow_16
  · refine k_iconst (pc := 11) (v := (nI 1)) dX2_hasRow_11 (by decide) ?_
    refine k_goto (pc := 12) 16 dX2_hasRow_12 (by decide) ?_
    exact k_zreturn (pc := 16) rfl dX2_hasRow_16
-- TallTales$Sheets.hasCells(III)Z
theorem ckX2_hasCells : k_Vok yX2_hasCells cX2_hasCells 4 (some .boolean) 3 := ⟨kwk_X2_hasCells, kwi_X2_hasCells, kwv_X2_hasCells, kwn_X2, by decide, by decide +kernel⟩
abbrev rmX2_hasCells : Room := { frames := 0, cells := 0, slots := 0, locals := 0 }
abbrev YX2_hasCells : k_Y := (rmX2_hasCells, cX2_hasCells, 4, RX2, (some .boolean))
noncomputable def fX2_hasCells (σ : k_S) (x1 x2 x3 : Int32) : Option (Int32 × k_S) := (if x2 < 0 then k_z ((nI 0)) (some ((nI 0), σ)) else (if x3 < 0 then k_z ((nI 0)) (some ((nI 0), σ)) else k_gd (x1) 4 ((if σ.2 3 (Int32.toNatClampNeg (x1)) < x3 then k_z ((nI 0)) (some ((nI 0), σ)) else k_gd (x1) 4 ((if (σ.2 3 (Int32.toNatClampNeg (x1)) - x3) < x2 then k_z ((nI 0)) (some ((nI 0), σ)) else k_z ((nI 1)) (some ((nI 1), σ))))))))
set_option maxRecDepth 100000 in
set_option maxHeartbeats 4000000 in
theorem kX2_hasCells {D : va_G} {cI : ClassId} {q : Nat → Nat} {σ : k_S} {x1 x2 x3 : Int32} {r : Int32} {τ : k_S} (h : fX2_hasCells σ x1 x2 x3 = some (r, τ)) : k_Ct k_ei yX2_hasCells cX2_hasCells 4 (some .boolean) rmX2_hasCells (cT cI q) D cI [.ref (q 1), .int x1, .int x2, .int x3] σ r τ := by
  refine k_met (Y := YX2_hasCells) (cT_same _ _) (by decide) rfl (Nat.le_of_ble_eq_true rfl) (List.forall_mem_cons.mpr ⟨rfl, List.forall_mem_cons.mpr ⟨rfl, List.forall_mem_cons.mpr ⟨rfl, List.forall_mem_cons.mpr ⟨rfl, fun _ h => absurd h List.not_mem_nil⟩⟩⟩⟩) (fun X hD hI => ?_) h
  subst hD hI
  show KO X YX2_hasCells (cT (k_I X) q) 0 0 (k_Q k_ei X (cT (k_I X) q)) 0 [some (.ref (q 1)), some (.int x1), some (.int x2), some (.int x3)] [] σ _
  unfold fX2_hasCells
  refine k_iload_n (pc := 0) dX2_hasCells_0 rfl ?_
  refine k_if_lt (pc := 1) 34 dX2_hasCells_1 (by decide) ?_ ?_
  · refine k_iconst (pc := 34) (v := (nI 0)) dX2_hasCells_34 (by decide) ?_
    exact k_zreturn (pc := 35) rfl dX2_hasCells_35
  · refine k_iload_n (pc := 4) dX2_hasCells_4 rfl ?_
    refine k_if_lt (pc := 5) 34 dX2_hasCells_5 (by decide) ?_ ?_
    · refine k_iconst (pc := 34) (v := (nI 0)) dX2_hasCells_34 (by decide) ?_
      exact k_zreturn (pc := 35) rfl dX2_hasCells_35
    · refine k_iload_n (pc := 8) dX2_hasCells_8 rfl ?_
      refine k_aload_n (pc := 9) dX2_hasCells_9 rfl ?_
      refine k_gTX2_lengths (pc := 10) kwf_X2_18 rfl dX2_hasCells_10 ?_
      refine k_iload_n (pc := 13) dX2_hasCells_13 rfl ?_
      refine k_lT10 (pc := 14) dX2_hasCells_14 ?_
      refine k_icmp_gt (pc := 15) 34 dX2_hasCells_15 (by decide) ?_ ?_
      · refine k_iconst (pc := 34) (v := (nI 0)) dX2_hasCells_34 (by decide) ?_
        exact k_zreturn (pc := 35) rfl dX2_hasCells_35
      · refine k_iload_n (pc := 18) dX2_hasCells_18 rfl ?_
        refine k_aload_n (pc := 19) dX2_hasCells_19 rfl ?_
        refine k_gTX2_lengths (pc := 20) kwf_X2_18 rfl dX2_hasCells_20 ?_
        refine k_iload_n (pc := 23) dX2_hasCells_23 rfl ?_
        refine k_lT10 (pc := 24) dX2_hasCells_24 ?_
        refine k_iload_n (pc := 25) dX2_hasCells_25 rfl ?_
        refine k_isub (pc := 26) dX2_hasCells_26 ?_
        refine k_icmp_gt (pc := 27) 34 dX2_hasCells_27 (by decide) ?_ ?_
        · refine k_iconst (pc := 34) (v := (nI 0)) dX2_hasCells_34 (by decide) ?_
          exact k_zreturn (pc := 35) rfl dX2_hasCells_35
        · refine k_iconst (pc := 30) (v := (nI 1)) dX2_hasCells_30 (by decide) ?_
          refine k_goto (pc := 31) 35 dX2_hasCells_31 (by decide) ?_
          exact k_zreturn (pc := 35) rfl dX2_hasCells_35
-- TallTales$Sheets.faultOf(IIII)I
theorem ckX2_faultOf : k_Vok yX2_faultOf cX2_faultOf 5 (some .int) 4 := ⟨kwk_X2_faultOf, kwi_X2_faultOf, kwv_X2_faultOf, kwn_X2, by decide, by decide +kernel⟩
abbrev rmX2_faultOf : Room := { frames := 1, cells := 0, slots := 0, locals := 23 }
abbrev YX2_faultOf : k_Y := (rmX2_faultOf, cX2_faultOf, 5, RX2, (some .int))
noncomputable def fX2_faultOf (σ : k_S) (x1 x2 x3 x4 : Int32) : Option (Int32 × k_S) := k_ob (fX2_hasRow σ x1) fun r1 σ2 => (if r1 = 0 then some ((nI 1), σ2) else k_gd (x1) 4 ((if σ2.2 2 (Int32.toNatClampNeg (x1)) = x2 then (if x4 < 0 then some ((nI 4), σ2) else k_ob (fX2_hasCells σ2 x1 x3 x4) fun r3 σ4 => (if r3 = 0 then some ((nI 3), σ4) else some ((nI 0), σ4))) else some ((nI 2), σ2))))
set_option maxRecDepth 100000 in
set_option maxHeartbeats 4000000 in
theorem kX2_faultOf {D : va_G} {cI : ClassId} {q : Nat → Nat} {σ : k_S} {x1 x2 x3 x4 : Int32} {r : Int32} {τ : k_S} (h : fX2_faultOf σ x1 x2 x3 x4 = some (r, τ)) : k_Ct k_ei yX2_faultOf cX2_faultOf 5 (some .int) rmX2_faultOf (cT cI q) D cI [.ref (q 1), .int x1, .int x2, .int x3, .int x4] σ r τ := by
  refine k_met (Y := YX2_faultOf) (cT_same _ _) (by decide) rfl (Nat.le_of_ble_eq_true rfl) (List.forall_mem_cons.mpr ⟨rfl, List.forall_mem_cons.mpr ⟨rfl, List.forall_mem_cons.mpr ⟨rfl, List.forall_mem_cons.mpr ⟨rfl, List.forall_mem_cons.mpr ⟨rfl, fun _ h => absurd h List.not_mem_nil⟩⟩⟩⟩⟩) (fun X hD hI => ?_) h
  subst hD hI
  show KO X YX2_faultOf (cT (k_I X) q) 0 0 (k_Q k_ei X (cT (k_I X) q)) 0 [some (.ref (q 1)), some (.int x1), some (.int x2), some (.int x3), some (.int x4)] [] σ _
  unfold fX2_faultOf
  refine k_aload_n (pc := 0) dX2_faultOf_0 rfl ?_
  refine k_iload_n (pc := 1) dX2_faultOf_1 rfl ?_
  refine k_vi1 (pc := 2) (cT_same _ _) ckX2_hasRow kwm_X2_27 cT_rv1 ⟨rfl, rfl⟩ ⟨Nat.le_of_ble_eq_true rfl, Nat.le_of_ble_eq_true rfl⟩ ⟨Nat.zero_le _, Nat.zero_le _⟩ (Nat.le_of_ble_eq_true rfl) dX2_faultOf_2 (fun _ _ hf => kX2_hasRow hf) (fun r1 σ2 => ?_)
  refine k_if_ne (pc := 5) 10 dX2_faultOf_5 (by decide) ?_ ?_
  · refine k_aload_n (pc := 10) dX2_faultOf_10 rfl ?_
    refine k_gTX2_sorts (pc := 11) kwf_X2_15 rfl dX2_faultOf_11 ?_
    refine k_iload_n (pc := 14) dX2_faultOf_14 rfl ?_
    refine k_lT9 (pc := 15) dX2_faultOf_15 ?_
    refine k_iload_n (pc := 16) dX2_faultOf_16 rfl ?_
    refine k_icmp_eq (pc := 17) 22 dX2_faultOf_17 (by decide) ?_ ?_
    · refine k_iload (pc := 22) dX2_faultOf_22 rfl ?_
      refine k_if_ge (pc := 24) 29 dX2_faultOf_24 (by decide) ?_ ?_
      · refine k_aload_n (pc := 29) dX2_faultOf_29 rfl ?_
        refine k_iload_n (pc := 30) dX2_faultOf_30 rfl ?_
        refine k_iload_n (pc := 31) dX2_faultOf_31 rfl ?_
        refine k_iload (pc := 32) dX2_faultOf_32 rfl ?_
        refine k_vi3 (pc := 34) (cT_same _ _) ckX2_hasCells kwm_X2_31 cT_rv1 ⟨rfl, rfl⟩ ⟨Nat.le_of_ble_eq_true rfl, Nat.le_of_ble_eq_true rfl⟩ ⟨Nat.zero_le _, Nat.zero_le _⟩ (Nat.le_of_ble_eq_true rfl) dX2_faultOf_34 (fun _ _ hf => kX2_hasCells hf) (fun r3 σ4 => ?_)
        refine k_if_eq (pc := 37) 44 dX2_faultOf_37 (by decide) ?_ ?_
        · refine k_iconst (pc := 44) (v := (nI 3)) dX2_faultOf_44 (by decide) ?_
          exact k_ireturn (pc := 45) rfl dX2_faultOf_45
        · refine k_iconst (pc := 40) (v := (nI 0)) dX2_faultOf_40 (by decide) ?_
          refine k_goto (pc := 41) 45 dX2_faultOf_41 (by decide) ?_
          exact k_ireturn (pc := 45) rfl dX2_faultOf_45
      · refine k_iconst (pc := 27) (v := (nI 4)) dX2_faultOf_27 (by decide) ?_
        exact k_ireturn (pc := 28) rfl dX2_faultOf_28
    · refine k_iconst (pc := 20) (v := (nI 2)) dX2_faultOf_20 (by decide) ?_
      exact k_ireturn (pc := 21) rfl dX2_faultOf_21
  · refine k_iconst (pc := 8) (v := (nI 1)) dX2_faultOf_8 (by decide) ?_
    exact k_ireturn (pc := 9) rfl dX2_faultOf_9
-- TallTales.faulty(I)I
theorem ckX6_faulty : k_Vok yX6_faulty cX6_faulty 2 (some .int) 1 := ⟨kwk_X6_faulty, kwi_X6_faulty, kwv_X6_faulty, kwn_X6, by decide, by decide +kernel⟩
abbrev rmX6_faulty : Room := { frames := 0, cells := 0, slots := 0, locals := 0 }
abbrev YX6_faulty : k_Y := (rmX6_faulty, cX6_faulty, 2, RX6, (some .int))
noncomputable def fX6_faulty (σ : k_S) (x1 : Int32) : Option (Int32 × k_S) := k_bn (k_sf σ 1 (x1)) fun σ1 => some (((k_ng 10) - x1), σ1)
set_option maxRecDepth 100000 in
set_option maxHeartbeats 4000000 in
theorem kX6_faulty {D : va_G} {cI : ClassId} {q : Nat → Nat} {σ : k_S} {x1 : Int32} {r : Int32} {τ : k_S} (h : fX6_faulty σ x1 = some (r, τ)) : k_Ct k_ei yX6_faulty cX6_faulty 2 (some .int) rmX6_faulty (cT cI q) D cI [.ref (q 0), .int x1] σ r τ := by
  refine k_met (Y := YX6_faulty) (cT_same _ _) (by decide) rfl (Nat.le_of_ble_eq_true rfl) (List.forall_mem_cons.mpr ⟨rfl, List.forall_mem_cons.mpr ⟨rfl, fun _ h => absurd h List.not_mem_nil⟩⟩) (fun X hD hI => ?_) h
  subst hD hI
  show KO X YX6_faulty (cT (k_I X) q) 0 0 (k_Q k_ei X (cT (k_I X) q)) 0 [some (.ref (q 0)), some (.int x1)] [] σ _
  unfold fX6_faulty
  refine k_aload_n (pc := 0) dX6_faulty_0 rfl ?_
  refine k_iload_n (pc := 1) dX6_faulty_1 rfl ?_
  refine k_pTX6_fault (pc := 2) kwf_X6_61 rfl dX6_faulty_2 (fun σ1 => ?_)
  refine k_bipush (pc := 5) (v := (k_ng 10)) dX6_faulty_5 (by decide) ?_
  refine k_iload_n (pc := 7) dX6_faulty_7 rfl ?_
  refine k_isub (pc := 8) dX6_faulty_8 ?_
  exact k_ireturn (pc := 9) rfl dX6_faulty_9
-- TallTales$Sheets.take(III[I)V
theorem ckX2_take : k_Vok yX2_take cX2_take 5 none 4 := ⟨kwk_X2_take, kwi_X2_take, kwv_X2_take, kwn_X2, by decide, by decide +kernel⟩
abbrev rmX2_take_a11 : Room := { frames := 1, cells := 0, slots := 0, locals := 48 }
abbrev YX2_take_a11 : k_Y := (rmX2_take_a11, cX2_take, 5, RX2, none)
noncomputable def fX2_take_a11 (σ : k_S) (x1 x2 x3 : Int32) : Option (Unit × k_S) := k_gc (((x1 * (nI 60)) + x2)) ((nI 0)) (x3) 240 60 (k_bn (k_sc σ 1 4 (((x1 * (nI 60)) + x2)) ((nI 0)) (x3)) fun σ1 => some ((), σ1))
set_option maxRecDepth 100000 in
set_option maxHeartbeats 4000000 in
theorem kX2_take_a11 {D : va_G} {cI : ClassId} {q : Nat → Nat} {σ : k_S} {x1 x2 x3 : Int32} {r : Unit} {τ : k_S} (h : fX2_take_a11 σ x1 x2 x3 = some (r, τ)) : k_Ct k_ev yX2_take cX2_take 5 none rmX2_take_a11 (cT cI q) D cI [.ref (q 1), .int x1, .int x2, .int x3, .ref (q 11)] σ r τ := by
  refine k_met (Y := YX2_take_a11) (cT_same _ _) (by decide) rfl (Nat.le_of_ble_eq_true rfl) (List.forall_mem_cons.mpr ⟨rfl, List.forall_mem_cons.mpr ⟨rfl, List.forall_mem_cons.mpr ⟨rfl, List.forall_mem_cons.mpr ⟨rfl, List.forall_mem_cons.mpr ⟨rfl, fun _ h => absurd h List.not_mem_nil⟩⟩⟩⟩⟩) (fun X hD hI => ?_) h
  subst hD hI
  show KO X YX2_take_a11 (cT (k_I X) q) 0 0 (k_Q k_ev X (cT (k_I X) q)) 0 [some (.ref (q 1)), some (.int x1), some (.int x2), some (.int x3), some (.ref (q 11))] [] σ _
  unfold fX2_take_a11
  refine k_aload_n (pc := 0) dX2_take_0 rfl ?_
  refine k_gTX2_cells (pc := 1) kwf_X2_9 rfl dX2_take_1 ?_
  refine k_iload_n (pc := 4) dX2_take_4 rfl ?_
  refine k_bipush (pc := 5) (v := (nI 60)) dX2_take_5 (by decide) ?_
  refine k_imul (pc := 7) dX2_take_7 ?_
  refine k_iload_n (pc := 8) dX2_take_8 rfl ?_
  refine k_iadd (pc := 9) dX2_take_9 ?_
  refine k_aload (pc := 10) dX2_take_10 rfl ?_
  refine k_iconst (pc := 12) (v := (nI 0)) dX2_take_12 (by decide) ?_
  refine k_iload_n (pc := 13) dX2_take_13 rfl ?_
  refine k_cT_8_11 (pc := 14) kwm_X2_38 ⟨Nat.le_of_ble_eq_true rfl, Nat.le_of_ble_eq_true rfl⟩ dX2_take_14 (fun σ1 => ?_)
  exact k_return (pc := 17) rfl dX2_take_17
-- TallTales$Text.isDigit(I)Z
theorem ckX4_isDigit : k_Sok yX4_isDigit cX4_isDigit 1 (some .boolean) 1 := ⟨kwk_X4_isDigit, kws_X4_isDigit, kwn_X4, by decide, by decide +kernel⟩
abbrev rmX4_isDigit : Room := { frames := 0, cells := 0, slots := 0, locals := 0 }
abbrev YX4_isDigit : k_Y := (rmX4_isDigit, cX4_isDigit, 1, RX4, (some .boolean))
noncomputable def fX4_isDigit (σ : k_S) (x0 : Int32) : Option (Int32 × k_S) := (if x0 < (nI 48) then k_z ((nI 0)) (some ((nI 0), σ)) else (if (nI 57) < x0 then k_z ((nI 0)) (some ((nI 0), σ)) else k_z ((nI 1)) (some ((nI 1), σ))))
set_option maxRecDepth 100000 in
set_option maxHeartbeats 4000000 in
theorem kX4_isDigit {D : va_G} {cI : ClassId} {q : Nat → Nat} {σ : k_S} {x0 : Int32} {r : Int32} {τ : k_S} (h : fX4_isDigit σ x0 = some (r, τ)) : k_Ct k_ei yX4_isDigit cX4_isDigit 1 (some .boolean) rmX4_isDigit (cT cI q) D cI [.int x0] σ r τ := by
  refine k_met (Y := YX4_isDigit) (cT_same _ _) (by decide) rfl (Nat.le_of_ble_eq_true rfl) (List.forall_mem_cons.mpr ⟨rfl, fun _ h => absurd h List.not_mem_nil⟩) (fun X hD hI => ?_) h
  subst hD hI
  show KO X YX4_isDigit (cT (k_I X) q) 0 0 (k_Q k_ei X (cT (k_I X) q)) 0 [some (.int x0)] [] σ _
  unfold fX4_isDigit
  refine k_iload_n (pc := 0) dX4_isDigit_0 rfl ?_
  refine k_bipush (pc := 1) (v := (nI 48)) dX4_isDigit_1 (by decide) ?_
  refine k_icmp_lt (pc := 3) 16 dX4_isDigit_3 (by decide) ?_ ?_
  · refine k_iconst (pc := 16) (v := (nI 0)) dX4_isDigit_16 (by decide) ?_
    exact k_zreturn (pc := 17) rfl dX4_isDigit_17
  · refine k_iload_n (pc := 6) dX4_isDigit_6 rfl ?_
    refine k_bipush (pc := 7) (v := (nI 57)) dX4_isDigit_7 (by decide) ?_
    refine k_icmp_gt (pc := 9) 16 dX4_isDigit_9 (by decide) ?_ ?_
    · refine k_iconst (pc := 16) (v := (nI 0)) dX4_isDigit_16 (by decide) ?_
      exact k_zreturn (pc := 17) rfl dX4_isDigit_17
    · refine k_iconst (pc := 12) (v := (nI 1)) dX4_isDigit_12 (by decide) ?_
      refine k_goto (pc := 13) 17 dX4_isDigit_13 (by decide) ?_
      exact k_zreturn (pc := 17) rfl dX4_isDigit_17
-- TallTales$Text.goesOn(I)Z
theorem ckX4_goesOn : k_Vok yX4_goesOn cX4_goesOn 3 (some .boolean) 1 := ⟨kwk_X4_goesOn, kwi_X4_goesOn, kwv_X4_goesOn, kwn_X4, by decide, by decide +kernel⟩
abbrev rmX4_goesOn : Room := { frames := 1, cells := 0, slots := 0, locals := 20 }
abbrev YX4_goesOn : k_Y := (rmX4_goesOn, cX4_goesOn, 3, RX4, (some .boolean))
noncomputable def fX4_goesOn_c116 (σ : k_S) : Option (Int32 × k_S) := k_z ((nI 1)) (some ((nI 1), σ))
set_option maxRecDepth 100000 in
set_option maxHeartbeats 4000000 in
theorem kX4_goesOn_c116 {X : k_C} {q : Nat → Nat} (σ : k_S) : KO X YX4_goesOn (cT (k_I X) q) 0 0 (k_Q k_ei X (cT (k_I X) q)) 116 [some (.ref (q 2)), none, none] [] σ (fX4_goesOn_c116 σ) := by
  unfold fX4_goesOn_c116
  refine k_iconst (pc := 116) (v := (nI 1)) dX4_goesOn_116 (by decide) ?_
  refine k_goto (pc := 117) 121 dX4_goesOn_117 (by decide) ?_
  exact k_zreturn (pc := 121) rfl dX4_goesOn_121
noncomputable def fX4_goesOn_c180 (σ : k_S) : Option (Int32 × k_S) := k_z ((nI 1)) (some ((nI 1), σ))
set_option maxRecDepth 100000 in
set_option maxHeartbeats 4000000 in
theorem kX4_goesOn_c180 {X : k_C} {q : Nat → Nat} (σ : k_S) : KO X YX4_goesOn (cT (k_I X) q) 0 0 (k_Q k_ei X (cT (k_I X) q)) 180 [some (.ref (q 2)), none, none] [] σ (fX4_goesOn_c180 σ) := by
  unfold fX4_goesOn_c180
  refine k_iconst (pc := 180) (v := (nI 1)) dX4_goesOn_180 (by decide) ?_
  refine k_goto (pc := 181) 185 dX4_goesOn_181 (by decide) ?_
  exact k_zreturn (pc := 185) rfl dX4_goesOn_185
noncomputable def fX4_goesOn (σ : k_S) (x1 : Int32) : Option (Int32 × k_S) := k_gd (x1) 60 (k_bn (σ.2 4 (Int32.toNatClampNeg (x1))) fun v1 => (if x1 = 0 then (if v1 = (nI 105) then k_z ((nI 1)) (some ((nI 1), σ)) else k_z ((nI 0)) (some ((nI 0), σ))) else (if x1 = (nI 1) then (if v1 < (nI 50) then k_z ((nI 0)) (some ((nI 0), σ)) else (if (nI 53) < v1 then k_z ((nI 0)) (some ((nI 0), σ)) else k_z ((nI 1)) (some ((nI 1), σ)))) else (if ((x1 - (nI 2)) - (x1 - (nI 2)) / (nI 5) * (nI 5)) = (nI 0) then (if v1 = (nI 59) then (if x1 < (nI 52) then k_z ((nI 1)) (some ((nI 1), σ)) else k_z ((nI 0)) (some ((nI 0), σ))) else k_z ((nI 0)) (some ((nI 0), σ))) else (if ((x1 - (nI 2)) - (x1 - (nI 2)) / (nI 5) * (nI 5)) = (nI 1) then (if v1 = (nI 116) then fX4_goesOn_c116 σ else (if v1 = (nI 103) then fX4_goesOn_c116 σ else (if v1 = (nI 119) then fX4_goesOn_c116 σ else k_z ((nI 0)) (some ((nI 0), σ))))) else (if ((x1 - (nI 2)) - (x1 - (nI 2)) / (nI 5) * (nI 5)) = (nI 2) then (if v1 < (nI 48) then k_z ((nI 0)) (some ((nI 0), σ)) else k_gd ((nI 1)) 60 ((if v1 < σ.2 4 (Int32.toNatClampNeg ((nI 1))) then k_z ((nI 1)) (some ((nI 1), σ)) else k_z ((nI 0)) (some ((nI 0), σ))))) else (if ((x1 - (nI 2)) - (x1 - (nI 2)) / (nI 5) * (nI 5)) = (nI 3) then k_ob (fX4_isDigit σ v1) fun r3 σ4 => (if r3 = 0 then k_z ((nI 0)) (some ((nI 0), σ4)) else (if v1 = (nI 48) then (if (x1 + (nI 1)) < σ4.1 2 then k_gd ((x1 + (nI 1))) 60 ((if σ4.2 4 (Int32.toNatClampNeg ((x1 + (nI 1)))) = (nI 48) then k_z ((nI 0)) (some ((nI 0), σ4)) else fX4_goesOn_c180 σ4)) else fX4_goesOn_c180 σ4) else fX4_goesOn_c180 σ4)) else k_ob (fX4_isDigit σ v1) fun r5 σ6 => k_z (r5) (some (r5, σ6)))))))))
set_option maxRecDepth 100000 in
set_option maxHeartbeats 4000000 in
theorem kX4_goesOn {D : va_G} {cI : ClassId} {q : Nat → Nat} {σ : k_S} {x1 : Int32} {r : Int32} {τ : k_S} (h : fX4_goesOn σ x1 = some (r, τ)) : k_Ct k_ei yX4_goesOn cX4_goesOn 3 (some .boolean) rmX4_goesOn (cT cI q) D cI [.ref (q 2), .int x1] σ r τ := by
  refine k_met (Y := YX4_goesOn) (cT_same _ _) (by decide) rfl (Nat.le_of_ble_eq_true rfl) (List.forall_mem_cons.mpr ⟨rfl, List.forall_mem_cons.mpr ⟨rfl, fun _ h => absurd h List.not_mem_nil⟩⟩) (fun X hD hI => ?_) h
  subst hD hI
  show KO X YX4_goesOn (cT (k_I X) q) 0 0 (k_Q k_ei X (cT (k_I X) q)) 0 [some (.ref (q 2)), some (.int x1), none] [] σ _
  unfold fX4_goesOn
  refine k_aload_n (pc := 0) dX4_goesOn_0 rfl ?_
  refine k_gTX4_codes (pc := 1) kwf_X4_9 rfl dX4_goesOn_1 ?_
  refine k_iload_n (pc := 4) dX4_goesOn_4 rfl ?_
  refine k_lT11 (pc := 5) dX4_goesOn_5 ?_
  refine k_ist2 (pc := 6) dX4_goesOn_6 (Nat.le_of_ble_eq_true rfl) (fun v1 => ?_)
  refine k_iload_n (pc := 7) dX4_goesOn_7 rfl ?_
  refine k_if_ne (pc := 8) 23 dX4_goesOn_8 (by decide) ?_ ?_
  · refine k_iload_n (pc := 23) dX4_goesOn_23 rfl ?_
    refine k_iconst (pc := 24) (v := (nI 1)) dX4_goesOn_24 (by decide) ?_
    refine k_icmp_ne (pc := 25) 46 dX4_goesOn_25 (by decide) ?_ ?_
    · refine k_iload_n (pc := 46) dX4_goesOn_46 rfl ?_
      refine k_iconst (pc := 47) (v := (nI 2)) dX4_goesOn_47 (by decide) ?_
      refine k_isub (pc := 48) dX4_goesOn_48 ?_
      refine k_iconst (pc := 49) (v := (nI 5)) dX4_goesOn_49 (by decide) ?_
      refine k_irem (pc := 50) dX4_goesOn_50 (by decide) ?_
      refine KO.ite (c := ((x1 - (nI 2)) - (x1 - (nI 2)) / (nI 5) * (nI 5)) = (nI 0)) (fun hs2_0 => ?_) (fun hs2_0 => ?_)
      · refine k_tableIn (off := 29) (pc := 51) 80 dX4_goesOn_51 hs2_0 (by decide) (by decide) (by decide) (by decide) ?_
        refine k_iload_n (pc := 80) dX4_goesOn_80 rfl ?_
        refine k_bipush (pc := 81) (v := (nI 59)) dX4_goesOn_81 (by decide) ?_
        refine k_icmp_ne (pc := 83) 96 dX4_goesOn_83 (by decide) ?_ ?_
        · refine k_iconst (pc := 96) (v := (nI 0)) dX4_goesOn_96 (by decide) ?_
          exact k_zreturn (pc := 97) rfl dX4_goesOn_97
        · refine k_iload_n (pc := 86) dX4_goesOn_86 rfl ?_
          refine k_bipush (pc := 87) (v := (nI 52)) dX4_goesOn_87 (by decide) ?_
          refine k_icmp_ge (pc := 89) 96 dX4_goesOn_89 (by decide) ?_ ?_
          · refine k_iconst (pc := 96) (v := (nI 0)) dX4_goesOn_96 (by decide) ?_
            exact k_zreturn (pc := 97) rfl dX4_goesOn_97
          · refine k_iconst (pc := 92) (v := (nI 1)) dX4_goesOn_92 (by decide) ?_
            refine k_goto (pc := 93) 97 dX4_goesOn_93 (by decide) ?_
            exact k_zreturn (pc := 97) rfl dX4_goesOn_97
      · refine KO.ite (c := ((x1 - (nI 2)) - (x1 - (nI 2)) / (nI 5) * (nI 5)) = (nI 1)) (fun hs2_1 => ?_) (fun hs2_1 => ?_)
        · refine k_tableIn (off := 47) (pc := 51) 98 dX4_goesOn_51 hs2_1 (by decide) (by decide) (by decide) (by decide) ?_
          refine k_iload_n (pc := 98) dX4_goesOn_98 rfl ?_
          refine k_bipush (pc := 99) (v := (nI 116)) dX4_goesOn_99 (by decide) ?_
          refine k_icmp_eq (pc := 101) 116 dX4_goesOn_101 (by decide) ?_ ?_
          · refine k_fg1 ?_
            refine k_fg2 ?_
            exact kX4_goesOn_c116 σ
          · refine k_iload_n (pc := 104) dX4_goesOn_104 rfl ?_
            refine k_bipush (pc := 105) (v := (nI 103)) dX4_goesOn_105 (by decide) ?_
            refine k_icmp_eq (pc := 107) 116 dX4_goesOn_107 (by decide) ?_ ?_
            · refine k_fg1 ?_
              refine k_fg2 ?_
              exact kX4_goesOn_c116 σ
            · refine k_iload_n (pc := 110) dX4_goesOn_110 rfl ?_
              refine k_bipush (pc := 111) (v := (nI 119)) dX4_goesOn_111 (by decide) ?_
              refine k_icmp_ne (pc := 113) 120 dX4_goesOn_113 (by decide) ?_ ?_
              · refine k_iconst (pc := 120) (v := (nI 0)) dX4_goesOn_120 (by decide) ?_
                exact k_zreturn (pc := 121) rfl dX4_goesOn_121
              · refine k_fg1 ?_
                refine k_fg2 ?_
                exact kX4_goesOn_c116 σ
        · refine KO.ite (c := ((x1 - (nI 2)) - (x1 - (nI 2)) / (nI 5) * (nI 5)) = (nI 2)) (fun hs2_2 => ?_) (fun hs2_2 => ?_)
          · refine k_tableIn (off := 71) (pc := 51) 122 dX4_goesOn_51 hs2_2 (by decide) (by decide) (by decide) (by decide) ?_
            refine k_iload_n (pc := 122) dX4_goesOn_122 rfl ?_
            refine k_bipush (pc := 123) (v := (nI 48)) dX4_goesOn_123 (by decide) ?_
            refine k_icmp_lt (pc := 125) 142 dX4_goesOn_125 (by decide) ?_ ?_
            · refine k_iconst (pc := 142) (v := (nI 0)) dX4_goesOn_142 (by decide) ?_
              exact k_zreturn (pc := 143) rfl dX4_goesOn_143
            · refine k_iload_n (pc := 128) dX4_goesOn_128 rfl ?_
              refine k_aload_n (pc := 129) dX4_goesOn_129 rfl ?_
              refine k_gTX4_codes (pc := 130) kwf_X4_9 rfl dX4_goesOn_130 ?_
              refine k_iconst (pc := 133) (v := (nI 1)) dX4_goesOn_133 (by decide) ?_
              refine k_lT11 (pc := 134) dX4_goesOn_134 ?_
              refine k_icmp_ge (pc := 135) 142 dX4_goesOn_135 (by decide) ?_ ?_
              · refine k_iconst (pc := 142) (v := (nI 0)) dX4_goesOn_142 (by decide) ?_
                exact k_zreturn (pc := 143) rfl dX4_goesOn_143
              · refine k_iconst (pc := 138) (v := (nI 1)) dX4_goesOn_138 (by decide) ?_
                refine k_goto (pc := 139) 143 dX4_goesOn_139 (by decide) ?_
                exact k_zreturn (pc := 143) rfl dX4_goesOn_143
          · refine KO.ite (c := ((x1 - (nI 2)) - (x1 - (nI 2)) / (nI 5) * (nI 5)) = (nI 3)) (fun hs2_3 => ?_) (fun hs2_3 => ?_)
            · refine k_tableIn (off := 93) (pc := 51) 144 dX4_goesOn_51 hs2_3 (by decide) (by decide) (by decide) (by decide) ?_
              refine k_iload_n (pc := 144) dX4_goesOn_144 rfl ?_
              refine k_si1 (pc := 145) (cT_same _ _) ckX4_isDigit kwm_X4_23 ⟨rfl, rfl⟩ ⟨Nat.le_of_ble_eq_true rfl, Nat.le_of_ble_eq_true rfl⟩ ⟨Nat.zero_le _, Nat.zero_le _⟩ (Nat.le_of_ble_eq_true rfl) dX4_goesOn_145 (fun _ _ hf => kX4_isDigit hf) (fun r3 σ4 => ?_)
              refine k_if_eq (pc := 148) 184 dX4_goesOn_148 (by decide) ?_ ?_
              · refine k_iconst (pc := 184) (v := (nI 0)) dX4_goesOn_184 (by decide) ?_
                exact k_zreturn (pc := 185) rfl dX4_goesOn_185
              · refine k_iload_n (pc := 151) dX4_goesOn_151 rfl ?_
                refine k_bipush (pc := 152) (v := (nI 48)) dX4_goesOn_152 (by decide) ?_
                refine k_icmp_ne (pc := 154) 180 dX4_goesOn_154 (by decide) ?_ ?_
                · refine k_fg1 ?_
                  refine k_fg2 ?_
                  exact kX4_goesOn_c180 σ4
                · refine k_iload_n (pc := 157) dX4_goesOn_157 rfl ?_
                  refine k_iconst (pc := 158) (v := (nI 1)) dX4_goesOn_158 (by decide) ?_
                  refine k_iadd (pc := 159) dX4_goesOn_159 ?_
                  refine k_aload_n (pc := 160) dX4_goesOn_160 rfl ?_
                  refine k_gTX4_length (pc := 161) kwf_X4_15 rfl dX4_goesOn_161 ?_
                  refine k_icmp_ge (pc := 164) 180 dX4_goesOn_164 (by decide) ?_ ?_
                  · refine k_fg1 ?_
                    refine k_fg2 ?_
                    exact kX4_goesOn_c180 σ4
                  · refine k_aload_n (pc := 167) dX4_goesOn_167 rfl ?_
                    refine k_gTX4_codes (pc := 168) kwf_X4_9 rfl dX4_goesOn_168 ?_
                    refine k_iload_n (pc := 171) dX4_goesOn_171 rfl ?_
                    refine k_iconst (pc := 172) (v := (nI 1)) dX4_goesOn_172 (by decide) ?_
                    refine k_iadd (pc := 173) dX4_goesOn_173 ?_
                    refine k_lT11 (pc := 174) dX4_goesOn_174 ?_
                    refine k_bipush (pc := 175) (v := (nI 48)) dX4_goesOn_175 (by decide) ?_
                    refine k_icmp_eq (pc := 177) 184 dX4_goesOn_177 (by decide) ?_ ?_
                    · refine k_iconst (pc := 184) (v := (nI 0)) dX4_goesOn_184 (by decide) ?_
                      exact k_zreturn (pc := 185) rfl dX4_goesOn_185
                    · refine k_fg1 ?_
                      refine k_fg2 ?_
                      exact kX4_goesOn_c180 σ4
            · refine k_tableOut (pc := 51) 186 dX4_goesOn_51 (by have g0 := lv_neT (a := 0) hs2_0 (by decide); have g1 := lv_neT (a := 1) hs2_1 (by decide); have g2 := lv_neT (a := 2) hs2_2 (by decide); have g3 := lv_neT (a := 3) hs2_3 (by decide); omega) (by decide) ?_
              refine k_iload_n (pc := 186) dX4_goesOn_186 rfl ?_
              refine k_si1 (pc := 187) (cT_same _ _) ckX4_isDigit kwm_X4_23 ⟨rfl, rfl⟩ ⟨Nat.le_of_ble_eq_true rfl, Nat.le_of_ble_eq_true rfl⟩ ⟨Nat.zero_le _, Nat.zero_le _⟩ (Nat.le_of_ble_eq_true rfl) dX4_goesOn_187 (fun _ _ hf => kX4_isDigit hf) (fun r5 σ6 => ?_)
              exact k_zreturn (pc := 190) rfl dX4_goesOn_190
    · refine k_iload_n (pc := 28) dX4_goesOn_28 rfl ?_
      refine k_bipush (pc := 29) (v := (nI 50)) dX4_goesOn_29 (by decide) ?_
      refine k_icmp_lt (pc := 31) 44 dX4_goesOn_31 (by decide) ?_ ?_
      · refine k_iconst (pc := 44) (v := (nI 0)) dX4_goesOn_44 (by decide) ?_
        exact k_zreturn (pc := 45) rfl dX4_goesOn_45
      · refine k_iload_n (pc := 34) dX4_goesOn_34 rfl ?_
        refine k_bipush (pc := 35) (v := (nI 53)) dX4_goesOn_35 (by decide) ?_
        refine k_icmp_gt (pc := 37) 44 dX4_goesOn_37 (by decide) ?_ ?_
        · refine k_iconst (pc := 44) (v := (nI 0)) dX4_goesOn_44 (by decide) ?_
          exact k_zreturn (pc := 45) rfl dX4_goesOn_45
        · refine k_iconst (pc := 40) (v := (nI 1)) dX4_goesOn_40 (by decide) ?_
          refine k_goto (pc := 41) 45 dX4_goesOn_41 (by decide) ?_
          exact k_zreturn (pc := 45) rfl dX4_goesOn_45
  · refine k_iload_n (pc := 11) dX4_goesOn_11 rfl ?_
    refine k_bipush (pc := 12) (v := (nI 105)) dX4_goesOn_12 (by decide) ?_
    refine k_icmp_ne (pc := 14) 21 dX4_goesOn_14 (by decide) ?_ ?_
    · refine k_iconst (pc := 21) (v := (nI 0)) dX4_goesOn_21 (by decide) ?_
      exact k_zreturn (pc := 22) rfl dX4_goesOn_22
    · refine k_iconst (pc := 17) (v := (nI 1)) dX4_goesOn_17 (by decide) ?_
      refine k_goto (pc := 18) 22 dX4_goesOn_18 (by decide) ?_
      exact k_zreturn (pc := 22) rfl dX4_goesOn_22
-- TallTales$Text.firstFault()I
theorem ckX4_firstFault : k_Vok yX4_firstFault cX4_firstFault 2 (some .int) 0 := ⟨kwk_X4_firstFault, kwi_X4_firstFault, kwv_X4_firstFault, kwn_X4, by decide, by decide +kernel⟩
abbrev rmX4_firstFault : Room := { frames := 2, cells := 0, slots := 0, locals := 42 }
abbrev YX4_firstFault : k_Y := (rmX4_firstFault, cX4_firstFault, 2, RX4, (some .int))
noncomputable def fX4_firstFault_c50 (σ : k_S) (s0 : Int32) : Option (Int32 × k_S) := k_bn (s0) fun v1 => (if v1 = 0 then some (σ.1 2, σ) else some ((k_ng 1), σ))
set_option maxRecDepth 100000 in
set_option maxHeartbeats 4000000 in
theorem kX4_firstFault_c50 {X : k_C} {q : Nat → Nat} (σ : k_S) (s0 : Int32) : KO X YX4_firstFault (cT (k_I X) q) 0 0 (k_Q k_ei X (cT (k_I X) q)) 50 [some (.ref (q 2)), none] [.int s0] σ (fX4_firstFault_c50 σ s0) := by
  unfold fX4_firstFault_c50
  refine k_ist1 (pc := 50) dX4_firstFault_50 (Nat.le_of_ble_eq_true rfl) (fun v1 => ?_)
  refine k_iload_n (pc := 51) dX4_firstFault_51 rfl ?_
  refine k_if_eq (pc := 52) 59 dX4_firstFault_52 (by decide) ?_ ?_
  · refine k_aload_n (pc := 59) dX4_firstFault_59 rfl ?_
    refine k_gTX4_length (pc := 60) kwf_X4_15 rfl dX4_firstFault_60 ?_
    exact k_ireturn (pc := 63) rfl dX4_firstFault_63
  · refine k_iconst (pc := 55) (v := (k_ng 1)) dX4_firstFault_55 (by decide) ?_
    refine k_goto (pc := 56) 63 dX4_firstFault_56 (by decide) ?_
    exact k_ireturn (pc := 63) rfl dX4_firstFault_63
noncomputable def fX4_firstFault_c49 (σ : k_S) : Option (Int32 × k_S) := fX4_firstFault_c50 σ ((nI 0))
set_option maxRecDepth 100000 in
set_option maxHeartbeats 4000000 in
theorem kX4_firstFault_c49 {X : k_C} {q : Nat → Nat} (σ : k_S) : KO X YX4_firstFault (cT (k_I X) q) 0 0 (k_Q k_ei X (cT (k_I X) q)) 49 [some (.ref (q 2)), none] [] σ (fX4_firstFault_c49 σ) := by
  unfold fX4_firstFault_c49
  refine k_iconst (pc := 49) (v := (nI 0)) dX4_firstFault_49 (by decide) ?_
  exact kX4_firstFault_c50 σ ((nI 0))
noncomputable def fX4_firstFault_c2 : Nat → k_S → Int32 → Option (Int32 × k_S)
  | 0, _, _ => none
  | n + 1, σ, l1 => (if l1 < σ.1 2 then k_ob (fX4_goesOn σ l1) fun r1 σ2 => (if r1 = 0 then some (l1, σ2) else k_bn (l1 + (nI 1)) fun v3 => fX4_firstFault_c2 n σ2 v3) else (if (nI 2) < σ.1 2 then (if ((σ.1 2 - (nI 2)) - (σ.1 2 - (nI 2)) / (nI 5) * (nI 5)) = 0 then fX4_firstFault_c50 σ ((nI 1)) else fX4_firstFault_c49 σ) else fX4_firstFault_c49 σ))
theorem fX4_firstFault_c2_s (n : Nat) (σ : k_S) (l1 : Int32) : fX4_firstFault_c2 (n + 1) σ l1 = (if l1 < σ.1 2 then k_ob (fX4_goesOn σ l1) fun r1 σ2 => (if r1 = 0 then some (l1, σ2) else k_bn (l1 + (nI 1)) fun v3 => fX4_firstFault_c2 n σ2 v3) else (if (nI 2) < σ.1 2 then (if ((σ.1 2 - (nI 2)) - (σ.1 2 - (nI 2)) / (nI 5) * (nI 5)) = 0 then fX4_firstFault_c50 σ ((nI 1)) else fX4_firstFault_c49 σ) else fX4_firstFault_c49 σ)) := rfl
set_option maxRecDepth 100000 in
set_option maxHeartbeats 4000000 in
theorem kX4_firstFault_c2 {X : k_C} {q : Nat → Nat} : ∀ (n : Nat) (σ : k_S) (l1 : Int32), KO X YX4_firstFault (cT (k_I X) q) 0 0 (k_Q k_ei X (cT (k_I X) q)) 2 [some (.ref (q 2)), some (.int l1)] [] σ (fX4_firstFault_c2 n σ l1) := by
  intro n
  induction n with
  | zero => intros; exact KO.nil
  | succ n ih =>
    intro σ l1
    rw [fX4_firstFault_c2_s]
    refine k_iload_n (pc := 2) dX4_firstFault_2 rfl ?_
    refine k_aload_n (pc := 3) dX4_firstFault_3 rfl ?_
    refine k_gTX4_length (pc := 4) kwf_X4_15 rfl dX4_firstFault_4 ?_
    refine k_icmp_ge (pc := 7) 26 dX4_firstFault_7 (by decide) ?_ ?_
    · refine k_aload_n (pc := 26) dX4_firstFault_26 rfl ?_
      refine k_gTX4_length (pc := 27) kwf_X4_15 rfl dX4_firstFault_27 ?_
      refine k_iconst (pc := 30) (v := (nI 2)) dX4_firstFault_30 (by decide) ?_
      refine k_icmp_le (pc := 31) 49 dX4_firstFault_31 (by decide) ?_ ?_
      · refine k_fg1 ?_
        exact kX4_firstFault_c49 σ
      · refine k_aload_n (pc := 34) dX4_firstFault_34 rfl ?_
        refine k_gTX4_length (pc := 35) kwf_X4_15 rfl dX4_firstFault_35 ?_
        refine k_iconst (pc := 38) (v := (nI 2)) dX4_firstFault_38 (by decide) ?_
        refine k_isub (pc := 39) dX4_firstFault_39 ?_
        refine k_iconst (pc := 40) (v := (nI 5)) dX4_firstFault_40 (by decide) ?_
        refine k_irem (pc := 41) dX4_firstFault_41 (by decide) ?_
        refine k_if_ne (pc := 42) 49 dX4_firstFault_42 (by decide) ?_ ?_
        · refine k_fg1 ?_
          exact kX4_firstFault_c49 σ
        · refine k_iconst (pc := 45) (v := (nI 1)) dX4_firstFault_45 (by decide) ?_
          refine k_goto (pc := 46) 50 dX4_firstFault_46 (by decide) ?_
          refine k_fg1 ?_
          exact kX4_firstFault_c50 σ ((nI 1))
    · refine k_aload_n (pc := 10) dX4_firstFault_10 rfl ?_
      refine k_iload_n (pc := 11) dX4_firstFault_11 rfl ?_
      refine k_vi1 (pc := 12) (cT_same _ _) ckX4_goesOn kwm_X4_19 cT_rv2 ⟨rfl, rfl⟩ ⟨Nat.le_of_ble_eq_true rfl, Nat.le_of_ble_eq_true rfl⟩ ⟨Nat.zero_le _, Nat.zero_le _⟩ (Nat.le_of_ble_eq_true rfl) dX4_firstFault_12 (fun _ _ hf => kX4_goesOn hf) (fun r1 σ2 => ?_)
      refine k_if_ne (pc := 15) 20 dX4_firstFault_15 (by decide) ?_ ?_
      · refine k_iinc1 (pc := 20) (w := (nI 1)) dX4_firstFault_20 rfl (by decide) (Nat.le_of_ble_eq_true rfl) (fun v3 => ?_)
        refine k_goto (pc := 23) 2 dX4_firstFault_23 (by decide) ?_
        exact ih σ2 v3
      · refine k_iload_n (pc := 18) dX4_firstFault_18 rfl ?_
        exact k_ireturn (pc := 19) rfl dX4_firstFault_19
noncomputable def fX4_firstFault (σ : k_S) : Option (Int32 × k_S) := k_bn ((nI 0)) fun v1 => fX4_firstFault_c2 k_F σ v1
set_option maxRecDepth 100000 in
set_option maxHeartbeats 4000000 in
theorem kX4_firstFault {D : va_G} {cI : ClassId} {q : Nat → Nat} {σ : k_S} {r : Int32} {τ : k_S} (h : fX4_firstFault σ = some (r, τ)) : k_Ct k_ei yX4_firstFault cX4_firstFault 2 (some .int) rmX4_firstFault (cT cI q) D cI [.ref (q 2)] σ r τ := by
  refine k_met (Y := YX4_firstFault) (cT_same _ _) (by decide) rfl (Nat.le_of_ble_eq_true rfl) (List.forall_mem_cons.mpr ⟨rfl, fun _ h => absurd h List.not_mem_nil⟩) (fun X hD hI => ?_) h
  subst hD hI
  show KO X YX4_firstFault (cT (k_I X) q) 0 0 (k_Q k_ei X (cT (k_I X) q)) 0 [some (.ref (q 2)), none] [] σ _
  unfold fX4_firstFault
  refine k_iconst (pc := 0) (v := (nI 0)) dX4_firstFault_0 (by decide) ?_
  refine k_ist1 (pc := 1) dX4_firstFault_1 (Nat.le_of_ble_eq_true rfl) (fun v1 => ?_)
  exact kX4_firstFault_c2 k_F σ v1
-- TallTales$Text.guests()I
theorem ckX4_guests : k_Vok yX4_guests cX4_guests 1 (some .int) 0 := ⟨kwk_X4_guests, kwi_X4_guests, kwv_X4_guests, kwn_X4, by decide, by decide +kernel⟩
abbrev rmX4_guests : Room := { frames := 0, cells := 0, slots := 0, locals := 0 }
abbrev YX4_guests : k_Y := (rmX4_guests, cX4_guests, 1, RX4, (some .int))
noncomputable def fX4_guests (σ : k_S) : Option (Int32 × k_S) := k_gd ((nI 1)) 60 (some ((σ.2 4 (Int32.toNatClampNeg ((nI 1))) - (nI 48)), σ))
set_option maxRecDepth 100000 in
set_option maxHeartbeats 4000000 in
theorem kX4_guests {D : va_G} {cI : ClassId} {q : Nat → Nat} {σ : k_S} {r : Int32} {τ : k_S} (h : fX4_guests σ = some (r, τ)) : k_Ct k_ei yX4_guests cX4_guests 1 (some .int) rmX4_guests (cT cI q) D cI [.ref (q 2)] σ r τ := by
  refine k_met (Y := YX4_guests) (cT_same _ _) (by decide) rfl (Nat.le_of_ble_eq_true rfl) (List.forall_mem_cons.mpr ⟨rfl, fun _ h => absurd h List.not_mem_nil⟩) (fun X hD hI => ?_) h
  subst hD hI
  show KO X YX4_guests (cT (k_I X) q) 0 0 (k_Q k_ei X (cT (k_I X) q)) 0 [some (.ref (q 2))] [] σ _
  unfold fX4_guests
  refine k_aload_n (pc := 0) dX4_guests_0 rfl ?_
  refine k_gTX4_codes (pc := 1) kwf_X4_9 rfl dX4_guests_1 ?_
  refine k_iconst (pc := 4) (v := (nI 1)) dX4_guests_4 (by decide) ?_
  refine k_lT11 (pc := 5) dX4_guests_5 ?_
  refine k_bipush (pc := 6) (v := (nI 48)) dX4_guests_6 (by decide) ?_
  refine k_isub (pc := 8) dX4_guests_8 ?_
  exact k_ireturn (pc := 9) rfl dX4_guests_9
-- TallTales$Text.tales()I
theorem ckX4_tales : k_Vok yX4_tales cX4_tales 1 (some .int) 0 := ⟨kwk_X4_tales, kwi_X4_tales, kwv_X4_tales, kwn_X4, by decide, by decide +kernel⟩
abbrev rmX4_tales : Room := { frames := 0, cells := 0, slots := 0, locals := 0 }
abbrev YX4_tales : k_Y := (rmX4_tales, cX4_tales, 1, RX4, (some .int))
noncomputable def fX4_tales (σ : k_S) : Option (Int32 × k_S) := some (((σ.1 2 - (nI 2)) / (nI 5)), σ)
set_option maxRecDepth 100000 in
set_option maxHeartbeats 4000000 in
theorem kX4_tales {D : va_G} {cI : ClassId} {q : Nat → Nat} {σ : k_S} {r : Int32} {τ : k_S} (h : fX4_tales σ = some (r, τ)) : k_Ct k_ei yX4_tales cX4_tales 1 (some .int) rmX4_tales (cT cI q) D cI [.ref (q 2)] σ r τ := by
  refine k_met (Y := YX4_tales) (cT_same _ _) (by decide) rfl (Nat.le_of_ble_eq_true rfl) (List.forall_mem_cons.mpr ⟨rfl, fun _ h => absurd h List.not_mem_nil⟩) (fun X hD hI => ?_) h
  subst hD hI
  show KO X YX4_tales (cT (k_I X) q) 0 0 (k_Q k_ei X (cT (k_I X) q)) 0 [some (.ref (q 2))] [] σ _
  unfold fX4_tales
  refine k_aload_n (pc := 0) dX4_tales_0 rfl ?_
  refine k_gTX4_length (pc := 1) kwf_X4_15 rfl dX4_tales_1 ?_
  refine k_iconst (pc := 4) (v := (nI 2)) dX4_tales_4 (by decide) ?_
  refine k_isub (pc := 5) dX4_tales_5 ?_
  refine k_iconst (pc := 6) (v := (nI 5)) dX4_tales_6 (by decide) ?_
  refine k_idiv (pc := 7) dX4_tales_7 (by decide) ?_
  exact k_ireturn (pc := 8) rfl dX4_tales_8
-- TallTales$Text.kindOf(I)I
theorem ckX4_kindOf : k_Vok yX4_kindOf cX4_kindOf 3 (some .int) 1 := ⟨kwk_X4_kindOf, kwi_X4_kindOf, kwv_X4_kindOf, kwn_X4, by decide, by decide +kernel⟩
abbrev rmX4_kindOf : Room := { frames := 0, cells := 0, slots := 0, locals := 0 }
abbrev YX4_kindOf : k_Y := (rmX4_kindOf, cX4_kindOf, 3, RX4, (some .int))
noncomputable def fX4_kindOf (σ : k_S) (x1 : Int32) : Option (Int32 × k_S) := k_gd ((((nI 2) + (x1 * (nI 5))) + (nI 1))) 60 (k_bn (σ.2 4 (Int32.toNatClampNeg ((((nI 2) + (x1 * (nI 5))) + (nI 1))))) fun v1 => (if v1 = (nI 119) then some ((nI 2), σ) else (if v1 = (nI 103) then some ((nI 1), σ) else some ((nI 0), σ))))
set_option maxRecDepth 100000 in
set_option maxHeartbeats 4000000 in
theorem kX4_kindOf {D : va_G} {cI : ClassId} {q : Nat → Nat} {σ : k_S} {x1 : Int32} {r : Int32} {τ : k_S} (h : fX4_kindOf σ x1 = some (r, τ)) : k_Ct k_ei yX4_kindOf cX4_kindOf 3 (some .int) rmX4_kindOf (cT cI q) D cI [.ref (q 2), .int x1] σ r τ := by
  refine k_met (Y := YX4_kindOf) (cT_same _ _) (by decide) rfl (Nat.le_of_ble_eq_true rfl) (List.forall_mem_cons.mpr ⟨rfl, List.forall_mem_cons.mpr ⟨rfl, fun _ h => absurd h List.not_mem_nil⟩⟩) (fun X hD hI => ?_) h
  subst hD hI
  show KO X YX4_kindOf (cT (k_I X) q) 0 0 (k_Q k_ei X (cT (k_I X) q)) 0 [some (.ref (q 2)), some (.int x1), none] [] σ _
  unfold fX4_kindOf
  refine k_aload_n (pc := 0) dX4_kindOf_0 rfl ?_
  refine k_gTX4_codes (pc := 1) kwf_X4_9 rfl dX4_kindOf_1 ?_
  refine k_iconst (pc := 4) (v := (nI 2)) dX4_kindOf_4 (by decide) ?_
  refine k_iload_n (pc := 5) dX4_kindOf_5 rfl ?_
  refine k_iconst (pc := 6) (v := (nI 5)) dX4_kindOf_6 (by decide) ?_
  refine k_imul (pc := 7) dX4_kindOf_7 ?_
  refine k_iadd (pc := 8) dX4_kindOf_8 ?_
  refine k_iconst (pc := 9) (v := (nI 1)) dX4_kindOf_9 (by decide) ?_
  refine k_iadd (pc := 10) dX4_kindOf_10 ?_
  refine k_lT11 (pc := 11) dX4_kindOf_11 ?_
  refine k_ist2 (pc := 12) dX4_kindOf_12 (Nat.le_of_ble_eq_true rfl) (fun v1 => ?_)
  refine k_iload_n (pc := 13) dX4_kindOf_13 rfl ?_
  refine k_bipush (pc := 14) (v := (nI 119)) dX4_kindOf_14 (by decide) ?_
  refine k_icmp_ne (pc := 16) 23 dX4_kindOf_16 (by decide) ?_ ?_
  · refine k_iload_n (pc := 23) dX4_kindOf_23 rfl ?_
    refine k_bipush (pc := 24) (v := (nI 103)) dX4_kindOf_24 (by decide) ?_
    refine k_icmp_ne (pc := 26) 33 dX4_kindOf_26 (by decide) ?_ ?_
    · refine k_iconst (pc := 33) (v := (nI 0)) dX4_kindOf_33 (by decide) ?_
      exact k_ireturn (pc := 34) rfl dX4_kindOf_34
    · refine k_iconst (pc := 29) (v := (nI 1)) dX4_kindOf_29 (by decide) ?_
      refine k_goto (pc := 30) 34 dX4_kindOf_30 (by decide) ?_
      exact k_ireturn (pc := 34) rfl dX4_kindOf_34
  · refine k_iconst (pc := 19) (v := (nI 2)) dX4_kindOf_19 (by decide) ?_
    refine k_goto (pc := 20) 34 dX4_kindOf_20 (by decide) ?_
    exact k_ireturn (pc := 34) rfl dX4_kindOf_34
-- TallTales$Text.ownerOf(I)I
theorem ckX4_ownerOf : k_Vok yX4_ownerOf cX4_ownerOf 2 (some .int) 1 := ⟨kwk_X4_ownerOf, kwi_X4_ownerOf, kwv_X4_ownerOf, kwn_X4, by decide, by decide +kernel⟩
abbrev rmX4_ownerOf : Room := { frames := 0, cells := 0, slots := 0, locals := 0 }
abbrev YX4_ownerOf : k_Y := (rmX4_ownerOf, cX4_ownerOf, 2, RX4, (some .int))
noncomputable def fX4_ownerOf (σ : k_S) (x1 : Int32) : Option (Int32 × k_S) := k_gd ((((nI 2) + (x1 * (nI 5))) + (nI 2))) 60 (some ((σ.2 4 (Int32.toNatClampNeg ((((nI 2) + (x1 * (nI 5))) + (nI 2)))) - (nI 48)), σ))
set_option maxRecDepth 100000 in
set_option maxHeartbeats 4000000 in
theorem kX4_ownerOf {D : va_G} {cI : ClassId} {q : Nat → Nat} {σ : k_S} {x1 : Int32} {r : Int32} {τ : k_S} (h : fX4_ownerOf σ x1 = some (r, τ)) : k_Ct k_ei yX4_ownerOf cX4_ownerOf 2 (some .int) rmX4_ownerOf (cT cI q) D cI [.ref (q 2), .int x1] σ r τ := by
  refine k_met (Y := YX4_ownerOf) (cT_same _ _) (by decide) rfl (Nat.le_of_ble_eq_true rfl) (List.forall_mem_cons.mpr ⟨rfl, List.forall_mem_cons.mpr ⟨rfl, fun _ h => absurd h List.not_mem_nil⟩⟩) (fun X hD hI => ?_) h
  subst hD hI
  show KO X YX4_ownerOf (cT (k_I X) q) 0 0 (k_Q k_ei X (cT (k_I X) q)) 0 [some (.ref (q 2)), some (.int x1)] [] σ _
  unfold fX4_ownerOf
  refine k_aload_n (pc := 0) dX4_ownerOf_0 rfl ?_
  refine k_gTX4_codes (pc := 1) kwf_X4_9 rfl dX4_ownerOf_1 ?_
  refine k_iconst (pc := 4) (v := (nI 2)) dX4_ownerOf_4 (by decide) ?_
  refine k_iload_n (pc := 5) dX4_ownerOf_5 rfl ?_
  refine k_iconst (pc := 6) (v := (nI 5)) dX4_ownerOf_6 (by decide) ?_
  refine k_imul (pc := 7) dX4_ownerOf_7 ?_
  refine k_iadd (pc := 8) dX4_ownerOf_8 ?_
  refine k_iconst (pc := 9) (v := (nI 2)) dX4_ownerOf_9 (by decide) ?_
  refine k_iadd (pc := 10) dX4_ownerOf_10 ?_
  refine k_lT11 (pc := 11) dX4_ownerOf_11 ?_
  refine k_bipush (pc := 12) (v := (nI 48)) dX4_ownerOf_12 (by decide) ?_
  refine k_isub (pc := 14) dX4_ownerOf_14 ?_
  exact k_ireturn (pc := 15) rfl dX4_ownerOf_15
-- TallTales$Text.heightOf(I)I
theorem ckX4_heightOf : k_Vok yX4_heightOf cX4_heightOf 3 (some .int) 1 := ⟨kwk_X4_heightOf, kwi_X4_heightOf, kwv_X4_heightOf, kwn_X4, by decide, by decide +kernel⟩
abbrev rmX4_heightOf : Room := { frames := 0, cells := 0, slots := 0, locals := 0 }
abbrev YX4_heightOf : k_Y := (rmX4_heightOf, cX4_heightOf, 3, RX4, (some .int))
noncomputable def fX4_heightOf (σ : k_S) (x1 : Int32) : Option (Int32 × k_S) := k_bn ((((nI 2) + (x1 * (nI 5))) + (nI 3))) fun v1 => k_gd (v1) 60 (k_gd ((v1 + (nI 1))) 60 (some (((((σ.2 4 (Int32.toNatClampNeg (v1)) - (nI 48)) * (nI 10)) + σ.2 4 (Int32.toNatClampNeg ((v1 + (nI 1))))) - (nI 48)), σ)))
set_option maxRecDepth 100000 in
set_option maxHeartbeats 4000000 in
theorem kX4_heightOf {D : va_G} {cI : ClassId} {q : Nat → Nat} {σ : k_S} {x1 : Int32} {r : Int32} {τ : k_S} (h : fX4_heightOf σ x1 = some (r, τ)) : k_Ct k_ei yX4_heightOf cX4_heightOf 3 (some .int) rmX4_heightOf (cT cI q) D cI [.ref (q 2), .int x1] σ r τ := by
  refine k_met (Y := YX4_heightOf) (cT_same _ _) (by decide) rfl (Nat.le_of_ble_eq_true rfl) (List.forall_mem_cons.mpr ⟨rfl, List.forall_mem_cons.mpr ⟨rfl, fun _ h => absurd h List.not_mem_nil⟩⟩) (fun X hD hI => ?_) h
  subst hD hI
  show KO X YX4_heightOf (cT (k_I X) q) 0 0 (k_Q k_ei X (cT (k_I X) q)) 0 [some (.ref (q 2)), some (.int x1), none] [] σ _
  unfold fX4_heightOf
  refine k_iconst (pc := 0) (v := (nI 2)) dX4_heightOf_0 (by decide) ?_
  refine k_iload_n (pc := 1) dX4_heightOf_1 rfl ?_
  refine k_iconst (pc := 2) (v := (nI 5)) dX4_heightOf_2 (by decide) ?_
  refine k_imul (pc := 3) dX4_heightOf_3 ?_
  refine k_iadd (pc := 4) dX4_heightOf_4 ?_
  refine k_iconst (pc := 5) (v := (nI 3)) dX4_heightOf_5 (by decide) ?_
  refine k_iadd (pc := 6) dX4_heightOf_6 ?_
  refine k_ist2 (pc := 7) dX4_heightOf_7 (Nat.le_of_ble_eq_true rfl) (fun v1 => ?_)
  refine k_aload_n (pc := 8) dX4_heightOf_8 rfl ?_
  refine k_gTX4_codes (pc := 9) kwf_X4_9 rfl dX4_heightOf_9 ?_
  refine k_iload_n (pc := 12) dX4_heightOf_12 rfl ?_
  refine k_lT11 (pc := 13) dX4_heightOf_13 ?_
  refine k_bipush (pc := 14) (v := (nI 48)) dX4_heightOf_14 (by decide) ?_
  refine k_isub (pc := 16) dX4_heightOf_16 ?_
  refine k_bipush (pc := 17) (v := (nI 10)) dX4_heightOf_17 (by decide) ?_
  refine k_imul (pc := 19) dX4_heightOf_19 ?_
  refine k_aload_n (pc := 20) dX4_heightOf_20 rfl ?_
  refine k_gTX4_codes (pc := 21) kwf_X4_9 rfl dX4_heightOf_21 ?_
  refine k_iload_n (pc := 24) dX4_heightOf_24 rfl ?_
  refine k_iconst (pc := 25) (v := (nI 1)) dX4_heightOf_25 (by decide) ?_
  refine k_iadd (pc := 26) dX4_heightOf_26 ?_
  refine k_lT11 (pc := 27) dX4_heightOf_27 ?_
  refine k_iadd (pc := 28) dX4_heightOf_28 ?_
  refine k_bipush (pc := 29) (v := (nI 48)) dX4_heightOf_29 (by decide) ?_
  refine k_isub (pc := 31) dX4_heightOf_31 ?_
  exact k_ireturn (pc := 32) rfl dX4_heightOf_32
-- TallTales$House.hasTale(I)Z
theorem ckX0_hasTale : k_Vok yX0_hasTale cX0_hasTale 2 (some .boolean) 1 := ⟨kwk_X0_hasTale, kwi_X0_hasTale, kwv_X0_hasTale, kwn_X0, by decide, by decide +kernel⟩
abbrev rmX0_hasTale : Room := { frames := 0, cells := 0, slots := 0, locals := 0 }
abbrev YX0_hasTale : k_Y := (rmX0_hasTale, cX0_hasTale, 2, RX0, (some .boolean))
noncomputable def fX0_hasTale (σ : k_S) (x1 : Int32) : Option (Int32 × k_S) := (if x1 < 0 then k_z ((nI 0)) (some ((nI 0), σ)) else (if x1 < σ.1 4 then k_z ((nI 1)) (some ((nI 1), σ)) else k_z ((nI 0)) (some ((nI 0), σ))))
set_option maxRecDepth 100000 in
set_option maxHeartbeats 4000000 in
theorem kX0_hasTale {D : va_G} {cI : ClassId} {q : Nat → Nat} {σ : k_S} {x1 : Int32} {r : Int32} {τ : k_S} (h : fX0_hasTale σ x1 = some (r, τ)) : k_Ct k_ei yX0_hasTale cX0_hasTale 2 (some .boolean) rmX0_hasTale (cT cI q) D cI [.ref (q 3), .int x1] σ r τ := by
  refine k_met (Y := YX0_hasTale) (cT_same _ _) (by decide) rfl (Nat.le_of_ble_eq_true rfl) (List.forall_mem_cons.mpr ⟨rfl, List.forall_mem_cons.mpr ⟨rfl, fun _ h => absurd h List.not_mem_nil⟩⟩) (fun X hD hI => ?_) h
  subst hD hI
  show KO X YX0_hasTale (cT (k_I X) q) 0 0 (k_Q k_ei X (cT (k_I X) q)) 0 [some (.ref (q 3)), some (.int x1)] [] σ _
  unfold fX0_hasTale
  refine k_iload_n (pc := 0) dX0_hasTale_0 rfl ?_
  refine k_if_lt (pc := 1) 16 dX0_hasTale_1 (by decide) ?_ ?_
  · refine k_iconst (pc := 16) (v := (nI 0)) dX0_hasTale_16 (by decide) ?_
    exact k_zreturn (pc := 17) rfl dX0_hasTale_17
  · refine k_iload_n (pc := 4) dX0_hasTale_4 rfl ?_
    refine k_aload_n (pc := 5) dX0_hasTale_5 rfl ?_
    refine k_gTX0_tales (pc := 6) kwf_X0_51 rfl dX0_hasTale_6 ?_
    refine k_icmp_ge (pc := 9) 16 dX0_hasTale_9 (by decide) ?_ ?_
    · refine k_iconst (pc := 16) (v := (nI 0)) dX0_hasTale_16 (by decide) ?_
      exact k_zreturn (pc := 17) rfl dX0_hasTale_17
    · refine k_iconst (pc := 12) (v := (nI 1)) dX0_hasTale_12 (by decide) ?_
      refine k_goto (pc := 13) 17 dX0_hasTale_13 (by decide) ?_
      exact k_zreturn (pc := 17) rfl dX0_hasTale_17
-- TallTales$House.keepTold(II)V
theorem ckX0_keepTold : k_Vok yX0_keepTold cX0_keepTold 3 none 2 := ⟨kwk_X0_keepTold, kwi_X0_keepTold, kwv_X0_keepTold, kwn_X0, by decide, by decide +kernel⟩
abbrev rmX0_keepTold : Room := { frames := 1, cells := 0, slots := 0, locals := 21 }
abbrev YX0_keepTold : k_Y := (rmX0_keepTold, cX0_keepTold, 3, RX0, none)
noncomputable def fX0_keepTold (σ : k_S) (x1 x2 : Int32) : Option (Unit × k_S) := k_ob (fX0_hasTale σ x1) fun r1 σ2 => (if r1 = 0 then some ((), σ2) else k_gd (x1) 10 (k_gd (x1) 10 (k_bn (k_sa σ2 8 (x1) ((σ2.2 8 (Int32.toNatClampNeg (x1)) + (nI 1)))) fun σ3 => k_gd (x1) 10 (k_bn (k_sa σ3 9 (x1) (x2)) fun σ4 => some ((), σ4)))))
set_option maxRecDepth 100000 in
set_option maxHeartbeats 4000000 in
theorem kX0_keepTold {D : va_G} {cI : ClassId} {q : Nat → Nat} {σ : k_S} {x1 x2 : Int32} {r : Unit} {τ : k_S} (h : fX0_keepTold σ x1 x2 = some (r, τ)) : k_Ct k_ev yX0_keepTold cX0_keepTold 3 none rmX0_keepTold (cT cI q) D cI [.ref (q 3), .int x1, .int x2] σ r τ := by
  refine k_met (Y := YX0_keepTold) (cT_same _ _) (by decide) rfl (Nat.le_of_ble_eq_true rfl) (List.forall_mem_cons.mpr ⟨rfl, List.forall_mem_cons.mpr ⟨rfl, List.forall_mem_cons.mpr ⟨rfl, fun _ h => absurd h List.not_mem_nil⟩⟩⟩) (fun X hD hI => ?_) h
  subst hD hI
  show KO X YX0_keepTold (cT (k_I X) q) 0 0 (k_Q k_ev X (cT (k_I X) q)) 0 [some (.ref (q 3)), some (.int x1), some (.int x2)] [] σ _
  unfold fX0_keepTold
  refine k_aload_n (pc := 0) dX0_keepTold_0 rfl ?_
  refine k_iload_n (pc := 1) dX0_keepTold_1 rfl ?_
  refine k_vi1 (pc := 2) (cT_same _ _) ckX0_hasTale kwm_X0_91 cT_rv3 ⟨rfl, rfl⟩ ⟨Nat.le_of_ble_eq_true rfl, Nat.le_of_ble_eq_true rfl⟩ ⟨Nat.zero_le _, Nat.zero_le _⟩ (Nat.le_of_ble_eq_true rfl) dX0_keepTold_2 (fun _ _ hf => kX0_hasTale hf) (fun r1 σ2 => ?_)
  refine k_if_ne (pc := 5) 9 dX0_keepTold_5 (by decide) ?_ ?_
  · refine k_aload_n (pc := 9) dX0_keepTold_9 rfl ?_
    refine k_gTX0_told (pc := 10) kwf_X0_21 rfl dX0_keepTold_10 ?_
    refine k_iload_n (pc := 13) dX0_keepTold_13 rfl ?_
    refine k_dup2 (pc := 14) dX0_keepTold_14 rfl rfl ?_
    refine k_lT15 (pc := 15) dX0_keepTold_15 ?_
    refine k_iconst (pc := 16) (v := (nI 1)) dX0_keepTold_16 (by decide) ?_
    refine k_iadd (pc := 17) dX0_keepTold_17 ?_
    refine k_sT15 (pc := 18) dX0_keepTold_18 (fun σ3 => ?_)
    refine k_aload_n (pc := 19) dX0_keepTold_19 rfl ?_
    refine k_gTX0_last (pc := 20) kwf_X0_24 rfl dX0_keepTold_20 ?_
    refine k_iload_n (pc := 23) dX0_keepTold_23 rfl ?_
    refine k_iload_n (pc := 24) dX0_keepTold_24 rfl ?_
    refine k_sT16 (pc := 25) dX0_keepTold_25 (fun σ4 => ?_)
    exact k_return (pc := 26) rfl dX0_keepTold_26
  · exact k_return (pc := 8) rfl dX0_keepTold_8
-- TallTales$House.goBack(I)V
theorem ckX0_goBack : k_Vok yX0_goBack cX0_goBack 4 none 1 := ⟨kwk_X0_goBack, kwi_X0_goBack, kwv_X0_goBack, kwn_X0, by decide, by decide +kernel⟩
abbrev rmX0_goBack : Room := { frames := 2, cells := 0, slots := 0, locals := 60 }
abbrev YX0_goBack : k_Y := (rmX0_goBack, cX0_goBack, 4, RX0, none)
noncomputable def fX0_goBack_c48 (kh38 : k_S → Int32 → Option (Unit × k_S)) : Nat → k_S → Int32 → Int32 → Option (Unit × k_S)
  | 0, _, _, _ => none
  | n + 1, σ, l2, l3 => (if l3 < σ.1 3 then k_gd (((l2 * (nI 5)) + l3)) 300 (k_ob (fX0_keepTold σ (σ.2 11 (Int32.toNatClampNeg (((l2 * (nI 5)) + l3)))) l2) fun r2 σ3 => k_bn (l3 + (nI 1)) fun v4 => fX0_goBack_c48 kh38 n σ3 l2 v4) else k_bn (l2 + (nI 1)) fun v1 => kh38 σ v1)
theorem fX0_goBack_c48_s (kh38 : k_S → Int32 → Option (Unit × k_S)) (n : Nat) (σ : k_S) (l2 l3 : Int32) : fX0_goBack_c48 kh38 (n + 1) σ l2 l3 = (if l3 < σ.1 3 then k_gd (((l2 * (nI 5)) + l3)) 300 (k_ob (fX0_keepTold σ (σ.2 11 (Int32.toNatClampNeg (((l2 * (nI 5)) + l3)))) l2) fun r2 σ3 => k_bn (l3 + (nI 1)) fun v4 => fX0_goBack_c48 kh38 n σ3 l2 v4) else k_bn (l2 + (nI 1)) fun v1 => kh38 σ v1) := rfl
set_option maxRecDepth 100000 in
set_option maxHeartbeats 4000000 in
theorem kX0_goBack_c48 {X : k_C} {q : Nat → Nat} (kh38 : k_S → Int32 → Option (Unit × k_S)) (hk38 : ∀ (σ : k_S) (l2 : Int32), KO X YX0_goBack (cT (k_I X) q) 0 0 (k_Q k_ev X (cT (k_I X) q)) 38 [some (.ref (q 3)), none, some (.int l2), none] [] σ (kh38 σ l2)) : ∀ (n : Nat) (σ : k_S) (l2 l3 : Int32), KO X YX0_goBack (cT (k_I X) q) 0 0 (k_Q k_ev X (cT (k_I X) q)) 48 [some (.ref (q 3)), none, some (.int l2), some (.int l3)] [] σ (fX0_goBack_c48 kh38 n σ l2 l3) := by
  intro n
  induction n with
  | zero => intros; exact KO.nil
  | succ n ih =>
    intro σ l2 l3
    rw [fX0_goBack_c48_s]
    refine k_iload_n (pc := 48) dX0_goBack_48 rfl ?_
    refine k_aload_n (pc := 49) dX0_goBack_49 rfl ?_
    refine k_gTX0_guests (pc := 50) kwf_X0_45 rfl dX0_goBack_50 ?_
    refine k_icmp_ge (pc := 53) 77 dX0_goBack_53 (by decide) ?_ ?_
    · refine k_iinc2 (pc := 77) (w := (nI 1)) dX0_goBack_77 rfl (by decide) (Nat.le_of_ble_eq_true rfl) (fun v1 => ?_)
      refine k_goto (pc := 80) 38 dX0_goBack_80 (by decide) ?_
      refine k_fg3 ?_
      exact hk38 σ v1
    · refine k_aload_n (pc := 56) dX0_goBack_56 rfl ?_
      refine k_aload_n (pc := 57) dX0_goBack_57 rfl ?_
      refine k_gTX0_nightTale (pc := 58) kwf_X0_30 rfl dX0_goBack_58 ?_
      refine k_iload_n (pc := 61) dX0_goBack_61 rfl ?_
      refine k_iconst (pc := 62) (v := (nI 5)) dX0_goBack_62 (by decide) ?_
      refine k_imul (pc := 63) dX0_goBack_63 ?_
      refine k_iload_n (pc := 64) dX0_goBack_64 rfl ?_
      refine k_iadd (pc := 65) dX0_goBack_65 ?_
      refine k_lT18 (pc := 66) dX0_goBack_66 ?_
      refine k_iload_n (pc := 67) dX0_goBack_67 rfl ?_
      refine k_vv2 (pc := 68) (cT_same _ _) ckX0_keepTold kwm_X0_100 cT_rv3 ⟨rfl, rfl⟩ ⟨Nat.le_of_ble_eq_true rfl, Nat.le_of_ble_eq_true rfl⟩ ⟨Nat.zero_le _, Nat.zero_le _⟩ (Nat.le_of_ble_eq_true rfl) dX0_goBack_68 (fun _ _ hf => kX0_keepTold hf) (fun r2 σ3 => ?_)
      refine k_iinc3 (pc := 71) (w := (nI 1)) dX0_goBack_71 rfl (by decide) (Nat.le_of_ble_eq_true rfl) (fun v4 => ?_)
      refine k_goto (pc := 74) 48 dX0_goBack_74 (by decide) ?_
      exact ih σ3 l2 v4
noncomputable def fX0_goBack_c38 : Nat → k_S → Int32 → Option (Unit × k_S)
  | 0, _, _ => none
  | n + 1, σ, l2 => (if l2 < σ.1 6 then k_bn ((nI 0)) fun v1 => fX0_goBack_c48 (fX0_goBack_c38 n) k_F σ l2 v1 else some ((), σ))
theorem fX0_goBack_c38_s (n : Nat) (σ : k_S) (l2 : Int32) : fX0_goBack_c38 (n + 1) σ l2 = (if l2 < σ.1 6 then k_bn ((nI 0)) fun v1 => fX0_goBack_c48 (fX0_goBack_c38 n) k_F σ l2 v1 else some ((), σ)) := rfl
set_option maxRecDepth 100000 in
set_option maxHeartbeats 4000000 in
theorem kX0_goBack_c38 {X : k_C} {q : Nat → Nat} : ∀ (n : Nat) (σ : k_S) (l2 : Int32), KO X YX0_goBack (cT (k_I X) q) 0 0 (k_Q k_ev X (cT (k_I X) q)) 38 [some (.ref (q 3)), none, some (.int l2), none] [] σ (fX0_goBack_c38 n σ l2) := by
  intro n
  induction n with
  | zero => intros; exact KO.nil
  | succ n ih =>
    intro σ l2
    rw [fX0_goBack_c38_s]
    refine k_iload_n (pc := 38) dX0_goBack_38 rfl ?_
    refine k_aload_n (pc := 39) dX0_goBack_39 rfl ?_
    refine k_gTX0_nights (pc := 40) kwf_X0_66 rfl dX0_goBack_40 ?_
    refine k_icmp_ge (pc := 43) 83 dX0_goBack_43 (by decide) ?_ ?_
    · exact k_return (pc := 83) rfl dX0_goBack_83
    · refine k_iconst (pc := 46) (v := (nI 0)) dX0_goBack_46 (by decide) ?_
      refine k_ist3 (pc := 47) dX0_goBack_47 (Nat.le_of_ble_eq_true rfl) (fun v1 => ?_)
      exact kX0_goBack_c48 (fX0_goBack_c38 n) ih k_F σ l2 v1
noncomputable def fX0_goBack (σ : k_S) (x1 : Int32) : Option (Unit × k_S) := k_bn (k_sf σ 6 ((σ.1 6 - x1))) fun σ1 => k_bn (k_sA σ1 10 (k_fl (σ1.2 10) 0 5 ((k_ng 9)))) fun σ2 => k_bn (k_sA σ2 8 (k_fl (σ2.2 8) 0 10 ((nI 0)))) fun σ3 => k_bn (k_sA σ3 9 (k_fl (σ3.2 9) 0 10 ((k_ng 9)))) fun σ4 => k_bn ((nI 0)) fun v5 => fX0_goBack_c38 k_F σ4 v5
set_option maxRecDepth 100000 in
set_option maxHeartbeats 4000000 in
theorem kX0_goBack {D : va_G} {cI : ClassId} {q : Nat → Nat} {σ : k_S} {x1 : Int32} {r : Unit} {τ : k_S} (h : fX0_goBack σ x1 = some (r, τ)) : k_Ct k_ev yX0_goBack cX0_goBack 4 none rmX0_goBack (cT cI q) D cI [.ref (q 3), .int x1] σ r τ := by
  refine k_met (Y := YX0_goBack) (cT_same _ _) (by decide) rfl (Nat.le_of_ble_eq_true rfl) (List.forall_mem_cons.mpr ⟨rfl, List.forall_mem_cons.mpr ⟨rfl, fun _ h => absurd h List.not_mem_nil⟩⟩) (fun X hD hI => ?_) h
  subst hD hI
  show KO X YX0_goBack (cT (k_I X) q) 0 0 (k_Q k_ev X (cT (k_I X) q)) 0 [some (.ref (q 3)), some (.int x1), none, none] [] σ _
  unfold fX0_goBack
  refine k_aload_n (pc := 0) dX0_goBack_0 rfl ?_
  refine k_dup (pc := 1) dX0_goBack_1 rfl ?_
  refine k_gTX0_nights (pc := 2) kwf_X0_66 rfl dX0_goBack_2 ?_
  refine k_iload_n (pc := 5) dX0_goBack_5 rfl ?_
  refine k_isub (pc := 6) dX0_goBack_6 ?_
  refine k_pTX0_nights (pc := 7) kwf_X0_66 rfl dX0_goBack_7 (fun σ1 => ?_)
  refine k_aload_n (pc := 10) dX0_goBack_10 rfl ?_
  refine k_gTX0_chosen (pc := 11) kwf_X0_27 rfl dX0_goBack_11 ?_
  refine k_bipush (pc := 14) (v := (k_ng 9)) dX0_goBack_14 (by decide) ?_
  refine k_fT2_17 (pc := 16) kwm_X0_104 ⟨Nat.le_of_ble_eq_true rfl, Nat.le_of_ble_eq_true rfl⟩ dX0_goBack_16 (fun σ2 => ?_)
  refine k_aload_n (pc := 19) dX0_goBack_19 rfl ?_
  refine k_gTX0_told (pc := 20) kwf_X0_21 rfl dX0_goBack_20 ?_
  refine k_iconst (pc := 23) (v := (nI 0)) dX0_goBack_23 (by decide) ?_
  refine k_fT2_15 (pc := 24) kwm_X0_104 ⟨Nat.le_of_ble_eq_true rfl, Nat.le_of_ble_eq_true rfl⟩ dX0_goBack_24 (fun σ3 => ?_)
  refine k_aload_n (pc := 27) dX0_goBack_27 rfl ?_
  refine k_gTX0_last (pc := 28) kwf_X0_24 rfl dX0_goBack_28 ?_
  refine k_bipush (pc := 31) (v := (k_ng 9)) dX0_goBack_31 (by decide) ?_
  refine k_fT2_16 (pc := 33) kwm_X0_104 ⟨Nat.le_of_ble_eq_true rfl, Nat.le_of_ble_eq_true rfl⟩ dX0_goBack_33 (fun σ4 => ?_)
  refine k_iconst (pc := 36) (v := (nI 0)) dX0_goBack_36 (by decide) ?_
  refine k_ist2 (pc := 37) dX0_goBack_37 (Nat.le_of_ble_eq_true rfl) (fun v5 => ?_)
  refine k_fg1 ?_
  exact kX0_goBack_c38 k_F σ4 v5
-- TallTales$House.open(LTallTales$Text;)V
theorem ckX0_open : k_Vok yX0_open cX0_open 3 none 1 := ⟨kwk_X0_open, kwi_X0_open, kwv_X0_open, kwn_X0, by decide, by decide +kernel⟩
abbrev rmX0_open : Room := { frames := 3, cells := 0, slots := 0, locals := 83 }
abbrev YX0_open : k_Y := (rmX0_open, cX0_open, 3, RX0, none)
noncomputable def fX0_open_c18 : Nat → k_S → Int32 → Option (Unit × k_S)
  | 0, _, _ => none
  | n + 1, σ, l2 => (if l2 < σ.1 4 then k_ob (fX4_kindOf σ l2) fun r4 σ5 => k_gd (l2) 10 (k_bn (k_sa σ5 5 (l2) (r4)) fun σ6 => k_ob (fX4_ownerOf σ6 l2) fun r7 σ8 => k_gd (l2) 10 (k_bn (k_sa σ8 6 (l2) (r7)) fun σ9 => k_ob (fX4_heightOf σ9 l2) fun r10 σ11 => k_gd (l2) 10 (k_bn (k_sa σ11 7 (l2) (r10)) fun σ12 => k_bn (l2 + (nI 1)) fun v13 => fX0_open_c18 n σ12 v13))) else k_bn (k_sf σ 5 ((nI 99))) fun σ1 => k_ob (fX0_goBack σ1 (σ1.1 6)) fun r2 σ3 => some ((), σ3))
theorem fX0_open_c18_s (n : Nat) (σ : k_S) (l2 : Int32) : fX0_open_c18 (n + 1) σ l2 = (if l2 < σ.1 4 then k_ob (fX4_kindOf σ l2) fun r4 σ5 => k_gd (l2) 10 (k_bn (k_sa σ5 5 (l2) (r4)) fun σ6 => k_ob (fX4_ownerOf σ6 l2) fun r7 σ8 => k_gd (l2) 10 (k_bn (k_sa σ8 6 (l2) (r7)) fun σ9 => k_ob (fX4_heightOf σ9 l2) fun r10 σ11 => k_gd (l2) 10 (k_bn (k_sa σ11 7 (l2) (r10)) fun σ12 => k_bn (l2 + (nI 1)) fun v13 => fX0_open_c18 n σ12 v13))) else k_bn (k_sf σ 5 ((nI 99))) fun σ1 => k_ob (fX0_goBack σ1 (σ1.1 6)) fun r2 σ3 => some ((), σ3)) := rfl
set_option maxRecDepth 100000 in
set_option maxHeartbeats 4000000 in
theorem kX0_open_c18 {X : k_C} {q : Nat → Nat} : ∀ (n : Nat) (σ : k_S) (l2 : Int32), KO X YX0_open (cT (k_I X) q) 0 0 (k_Q k_ev X (cT (k_I X) q)) 18 [some (.ref (q 3)), some (.ref (q 2)), some (.int l2)] [] σ (fX0_open_c18 n σ l2) := by
  intro n
  induction n with
  | zero => intros; exact KO.nil
  | succ n ih =>
    intro σ l2
    rw [fX0_open_c18_s]
    refine k_iload_n (pc := 18) dX0_open_18 rfl ?_
    refine k_aload_n (pc := 19) dX0_open_19 rfl ?_
    refine k_gTX0_tales (pc := 20) kwf_X0_51 rfl dX0_open_20 ?_
    refine k_icmp_ge (pc := 23) 65 dX0_open_23 (by decide) ?_ ?_
    · refine k_aload_n (pc := 65) dX0_open_65 rfl ?_
      refine k_bipush (pc := 66) (v := (nI 99)) dX0_open_66 (by decide) ?_
      refine k_pTX0_memory (pc := 68) kwf_X0_63 rfl dX0_open_68 (fun σ1 => ?_)
      refine k_aload_n (pc := 71) dX0_open_71 rfl ?_
      refine k_aload_n (pc := 72) dX0_open_72 rfl ?_
      refine k_gTX0_nights (pc := 73) kwf_X0_66 rfl dX0_open_73 ?_
      refine k_vv1 (pc := 76) (cT_same _ _) ckX0_goBack kwm_X0_69 cT_rv3 ⟨rfl, rfl⟩ ⟨Nat.le_of_ble_eq_true rfl, Nat.le_of_ble_eq_true rfl⟩ ⟨Nat.zero_le _, Nat.zero_le _⟩ (Nat.le_of_ble_eq_true rfl) dX0_open_76 (fun _ _ hf => kX0_goBack hf) (fun r2 σ3 => ?_)
      exact k_return (pc := 79) rfl dX0_open_79
    · refine k_aload_n (pc := 26) dX0_open_26 rfl ?_
      refine k_gTX0_kinds (pc := 27) kwf_X0_9 rfl dX0_open_27 ?_
      refine k_iload_n (pc := 30) dX0_open_30 rfl ?_
      refine k_aload_n (pc := 31) dX0_open_31 rfl ?_
      refine k_iload_n (pc := 32) dX0_open_32 rfl ?_
      refine k_vi1 (pc := 33) (cT_same _ _) ckX4_kindOf kwm_X0_53 cT_rv2 ⟨rfl, rfl⟩ ⟨Nat.le_of_ble_eq_true rfl, Nat.le_of_ble_eq_true rfl⟩ ⟨Nat.zero_le _, Nat.zero_le _⟩ (Nat.le_of_ble_eq_true rfl) dX0_open_33 (fun _ _ hf => kX4_kindOf hf) (fun r4 σ5 => ?_)
      refine k_sT12 (pc := 36) dX0_open_36 (fun σ6 => ?_)
      refine k_aload_n (pc := 37) dX0_open_37 rfl ?_
      refine k_gTX0_owners (pc := 38) kwf_X0_15 rfl dX0_open_38 ?_
      refine k_iload_n (pc := 41) dX0_open_41 rfl ?_
      refine k_aload_n (pc := 42) dX0_open_42 rfl ?_
      refine k_iload_n (pc := 43) dX0_open_43 rfl ?_
      refine k_vi1 (pc := 44) (cT_same _ _) ckX4_ownerOf kwm_X0_57 cT_rv2 ⟨rfl, rfl⟩ ⟨Nat.le_of_ble_eq_true rfl, Nat.le_of_ble_eq_true rfl⟩ ⟨Nat.zero_le _, Nat.zero_le _⟩ (Nat.le_of_ble_eq_true rfl) dX0_open_44 (fun _ _ hf => kX4_ownerOf hf) (fun r7 σ8 => ?_)
      refine k_sT13 (pc := 47) dX0_open_47 (fun σ9 => ?_)
      refine k_aload_n (pc := 48) dX0_open_48 rfl ?_
      refine k_gTX0_heights (pc := 49) kwf_X0_18 rfl dX0_open_49 ?_
      refine k_iload_n (pc := 52) dX0_open_52 rfl ?_
      refine k_aload_n (pc := 53) dX0_open_53 rfl ?_
      refine k_iload_n (pc := 54) dX0_open_54 rfl ?_
      refine k_vi1 (pc := 55) (cT_same _ _) ckX4_heightOf kwm_X0_60 cT_rv2 ⟨rfl, rfl⟩ ⟨Nat.le_of_ble_eq_true rfl, Nat.le_of_ble_eq_true rfl⟩ ⟨Nat.zero_le _, Nat.zero_le _⟩ (Nat.le_of_ble_eq_true rfl) dX0_open_55 (fun _ _ hf => kX4_heightOf hf) (fun r10 σ11 => ?_)
      refine k_sT14 (pc := 58) dX0_open_58 (fun σ12 => ?_)
      refine k_iinc2 (pc := 59) (w := (nI 1)) dX0_open_59 rfl (by decide) (Nat.le_of_ble_eq_true rfl) (fun v13 => ?_)
      refine k_goto (pc := 62) 18 dX0_open_62 (by decide) ?_
      exact ih σ12 v13
noncomputable def fX0_open (σ : k_S) : Option (Unit × k_S) := k_ob (fX4_guests σ) fun r1 σ2 => k_bn (k_sf σ2 3 (r1)) fun σ3 => k_ob (fX4_tales σ3) fun r4 σ5 => k_bn (k_sf σ5 4 (r4)) fun σ6 => k_bn ((nI 0)) fun v7 => fX0_open_c18 k_F σ6 v7
set_option maxRecDepth 100000 in
set_option maxHeartbeats 4000000 in
theorem kX0_open {D : va_G} {cI : ClassId} {q : Nat → Nat} {σ : k_S} {r : Unit} {τ : k_S} (h : fX0_open σ = some (r, τ)) : k_Ct k_ev yX0_open cX0_open 3 none rmX0_open (cT cI q) D cI [.ref (q 3), .ref (q 2)] σ r τ := by
  refine k_met (Y := YX0_open) (cT_same _ _) (by decide) rfl (Nat.le_of_ble_eq_true rfl) (List.forall_mem_cons.mpr ⟨rfl, List.forall_mem_cons.mpr ⟨rfl, fun _ h => absurd h List.not_mem_nil⟩⟩) (fun X hD hI => ?_) h
  subst hD hI
  show KO X YX0_open (cT (k_I X) q) 0 0 (k_Q k_ev X (cT (k_I X) q)) 0 [some (.ref (q 3)), some (.ref (q 2)), none] [] σ _
  unfold fX0_open
  refine k_aload_n (pc := 0) dX0_open_0 rfl ?_
  refine k_aload_n (pc := 1) dX0_open_1 rfl ?_
  refine k_vi0 (pc := 2) (cT_same _ _) ckX4_guests kwm_X0_39 cT_rv2 ⟨rfl, rfl⟩ ⟨Nat.le_of_ble_eq_true rfl, Nat.le_of_ble_eq_true rfl⟩ ⟨Nat.zero_le _, Nat.zero_le _⟩ (Nat.le_of_ble_eq_true rfl) dX0_open_2 (fun _ _ hf => kX4_guests hf) (fun r1 σ2 => ?_)
  refine k_pTX0_guests (pc := 5) kwf_X0_45 rfl dX0_open_5 (fun σ3 => ?_)
  refine k_aload_n (pc := 8) dX0_open_8 rfl ?_
  refine k_aload_n (pc := 9) dX0_open_9 rfl ?_
  refine k_vi0 (pc := 10) (cT_same _ _) ckX4_tales kwm_X0_48 cT_rv2 ⟨rfl, rfl⟩ ⟨Nat.le_of_ble_eq_true rfl, Nat.le_of_ble_eq_true rfl⟩ ⟨Nat.zero_le _, Nat.zero_le _⟩ (Nat.le_of_ble_eq_true rfl) dX0_open_10 (fun _ _ hf => kX4_tales hf) (fun r4 σ5 => ?_)
  refine k_pTX0_tales (pc := 13) kwf_X0_51 rfl dX0_open_13 (fun σ6 => ?_)
  refine k_iconst (pc := 16) (v := (nI 0)) dX0_open_16 (by decide) ?_
  refine k_ist2 (pc := 17) dX0_open_17 (Nat.le_of_ble_eq_true rfl) (fun v7 => ?_)
  exact kX0_open_c18 k_F σ6 v7
-- TallTales.inn(IIII)I
theorem ckX6_inn : k_Vok yX6_inn cX6_inn 7 (some .int) 4 := ⟨kwk_X6_inn, kwi_X6_inn, kwv_X6_inn, kwn_X6, by decide, by decide +kernel⟩
abbrev rmX6_inn : Room := { frames := 4, cells := 0, slots := 0, locals := 105 }
abbrev YX6_inn : k_Y := (rmX6_inn, cX6_inn, 7, RX6, (some .int))
noncomputable def fX6_inn (σ : k_S) (x1 x2 x3 x4 : Int32) : Option (Int32 × k_S) := k_bn (k_sf σ 1 ((nI 0))) fun σ1 => k_ob (fX6_isSheet σ1 x1) fun r2 σ3 => (if r2 = 0 then some ((k_ng 1), σ3) else k_ob (fX6_isSort σ3 x2) fun r4 σ5 => (if r4 = 0 then some ((k_ng 2), σ5) else k_ob (fX2_faultOf σ5 x1 x2 x3 x4) fun r6 σ7 => k_bn (r6) fun v8 => (if v8 = 0 then k_bn (k_sf σ7 2 (x4)) fun σ9 => k_ob (fX2_take_a11 σ9 x1 x3 x4) fun r10 σ11 => k_ob (fX4_firstFault σ11) fun r12 σ13 => k_bn (r12) fun v14 => (if v14 = (k_ng 1) then k_ob (fX0_open σ13) fun r15 σ16 => some (σ16.1 4, σ16) else some (((k_ng 100) - v14), σ13)) else k_ob (fX6_faulty σ7 v8) fun r17 σ18 => some (r17, σ18))))
set_option maxRecDepth 100000 in
set_option maxHeartbeats 4000000 in
theorem kX6_inn {D : va_G} {cI : ClassId} {q : Nat → Nat} {σ : k_S} {x1 x2 x3 x4 : Int32} {r : Int32} {τ : k_S} (h : fX6_inn σ x1 x2 x3 x4 = some (r, τ)) : k_Ct k_ei yX6_inn cX6_inn 7 (some .int) rmX6_inn (cT cI q) D cI [.ref (q 0), .int x1, .int x2, .int x3, .int x4] σ r τ := by
  refine k_met (Y := YX6_inn) (cT_same _ _) (by decide) rfl (Nat.le_of_ble_eq_true rfl) (List.forall_mem_cons.mpr ⟨rfl, List.forall_mem_cons.mpr ⟨rfl, List.forall_mem_cons.mpr ⟨rfl, List.forall_mem_cons.mpr ⟨rfl, List.forall_mem_cons.mpr ⟨rfl, fun _ h => absurd h List.not_mem_nil⟩⟩⟩⟩⟩) (fun X hD hI => ?_) h
  subst hD hI
  show KO X YX6_inn (cT (k_I X) q) 0 0 (k_Q k_ei X (cT (k_I X) q)) 0 [some (.ref (q 0)), some (.int x1), some (.int x2), some (.int x3), some (.int x4), none, none] [] σ _
  unfold fX6_inn
  refine k_aload_n (pc := 0) dX6_inn_0 rfl ?_
  refine k_iconst (pc := 1) (v := (nI 0)) dX6_inn_1 (by decide) ?_
  refine k_pTX6_fault (pc := 2) kwf_X6_61 rfl dX6_inn_2 (fun σ1 => ?_)
  refine k_iload_n (pc := 5) dX6_inn_5 rfl ?_
  refine k_si1 (pc := 6) (cT_same _ _) ckX6_isSheet kwm_X6_65 ⟨rfl, rfl⟩ ⟨Nat.le_of_ble_eq_true rfl, Nat.le_of_ble_eq_true rfl⟩ ⟨Nat.zero_le _, Nat.zero_le _⟩ (Nat.le_of_ble_eq_true rfl) dX6_inn_6 (fun _ _ hf => kX6_isSheet hf) (fun r2 σ3 => ?_)
  refine k_if_ne (pc := 9) 14 dX6_inn_9 (by decide) ?_ ?_
  · refine k_iload_n (pc := 14) dX6_inn_14 rfl ?_
    refine k_si1 (pc := 15) (cT_same _ _) ckX6_isSort kwm_X6_69 ⟨rfl, rfl⟩ ⟨Nat.le_of_ble_eq_true rfl, Nat.le_of_ble_eq_true rfl⟩ ⟨Nat.zero_le _, Nat.zero_le _⟩ (Nat.le_of_ble_eq_true rfl) dX6_inn_15 (fun _ _ hf => kX6_isSort hf) (fun r4 σ5 => ?_)
    refine k_if_ne (pc := 18) 24 dX6_inn_18 (by decide) ?_ ?_
    · refine k_aload_n (pc := 24) dX6_inn_24 rfl ?_
      refine k_gTX6_sheets (pc := 25) kwf_X6_12 rfl dX6_inn_25 ?_
      refine k_iload_n (pc := 28) dX6_inn_28 rfl ?_
      refine k_iload_n (pc := 29) dX6_inn_29 rfl ?_
      refine k_iload_n (pc := 30) dX6_inn_30 rfl ?_
      refine k_iload (pc := 31) dX6_inn_31 rfl ?_
      refine k_vi4 (pc := 33) (cT_same _ _) ckX2_faultOf kwm_X6_72 cT_rv1 ⟨rfl, rfl⟩ ⟨Nat.le_of_ble_eq_true rfl, Nat.le_of_ble_eq_true rfl⟩ ⟨Nat.zero_le _, Nat.zero_le _⟩ (Nat.le_of_ble_eq_true rfl) dX6_inn_33 (fun _ _ hf => kX2_faultOf hf) (fun r6 σ7 => ?_)
      refine k_ist5 (pc := 36) dX6_inn_36 (Nat.le_of_ble_eq_true rfl) (fun v8 => ?_)
      refine k_iload (pc := 38) dX6_inn_38 rfl ?_
      refine k_if_eq (pc := 40) 50 dX6_inn_40 (by decide) ?_ ?_
      · refine k_aload_n (pc := 50) dX6_inn_50 rfl ?_
        refine k_gTX6_text (pc := 51) kwf_X6_21 rfl dX6_inn_51 ?_
        refine k_iload (pc := 54) dX6_inn_54 rfl ?_
        refine k_pTX4_length (pc := 56) kwf_X6_80 rfl dX6_inn_56 (fun σ9 => ?_)
        refine k_aload_n (pc := 59) dX6_inn_59 rfl ?_
        refine k_gTX6_sheets (pc := 60) kwf_X6_12 rfl dX6_inn_60 ?_
        refine k_iload_n (pc := 63) dX6_inn_63 rfl ?_
        refine k_iload_n (pc := 64) dX6_inn_64 rfl ?_
        refine k_iload (pc := 65) dX6_inn_65 rfl ?_
        refine k_aload_n (pc := 67) dX6_inn_67 rfl ?_
        refine k_gTX6_text (pc := 68) kwf_X6_21 rfl dX6_inn_68 ?_
        refine k_gTX4_codes (pc := 71) kwf_X6_83 rfl dX6_inn_71 ?_
        refine k_vv4 (pc := 74) (cT_same _ _) ckX2_take kwm_X6_86 cT_rv1 ⟨rfl, rfl⟩ ⟨Nat.le_of_ble_eq_true rfl, Nat.le_of_ble_eq_true rfl⟩ ⟨Nat.zero_le _, Nat.zero_le _⟩ (Nat.le_of_ble_eq_true rfl) dX6_inn_74 (fun _ _ hf => kX2_take_a11 hf) (fun r10 σ11 => ?_)
        refine k_aload_n (pc := 77) dX6_inn_77 rfl ?_
        refine k_gTX6_text (pc := 78) kwf_X6_21 rfl dX6_inn_78 ?_
        refine k_vi0 (pc := 81) (cT_same _ _) ckX4_firstFault kwm_X6_90 cT_rv2 ⟨rfl, rfl⟩ ⟨Nat.le_of_ble_eq_true rfl, Nat.le_of_ble_eq_true rfl⟩ ⟨Nat.zero_le _, Nat.zero_le _⟩ (Nat.le_of_ble_eq_true rfl) dX6_inn_81 (fun _ _ hf => kX4_firstFault hf) (fun r12 σ13 => ?_)
        refine k_ist6 (pc := 84) dX6_inn_84 (Nat.le_of_ble_eq_true rfl) (fun v14 => ?_)
        refine k_iload (pc := 86) dX6_inn_86 rfl ?_
        refine k_iconst (pc := 88) (v := (k_ng 1)) dX6_inn_88 (by decide) ?_
        refine k_icmp_eq (pc := 89) 98 dX6_inn_89 (by decide) ?_ ?_
        · refine k_aload_n (pc := 98) dX6_inn_98 rfl ?_
          refine k_gTX6_house (pc := 99) kwf_X6_28 rfl dX6_inn_99 ?_
          refine k_aload_n (pc := 102) dX6_inn_102 rfl ?_
          refine k_gTX6_text (pc := 103) kwf_X6_21 rfl dX6_inn_103 ?_
          refine k_vv1 (pc := 106) (cT_same _ _) ckX0_open kwm_X6_94 cT_rv3 ⟨rfl, rfl⟩ ⟨Nat.le_of_ble_eq_true rfl, Nat.le_of_ble_eq_true rfl⟩ ⟨Nat.zero_le _, Nat.zero_le _⟩ (Nat.le_of_ble_eq_true rfl) dX6_inn_106 (fun _ _ hf => kX0_open hf) (fun r15 σ16 => ?_)
          refine k_aload_n (pc := 109) dX6_inn_109 rfl ?_
          refine k_gTX6_house (pc := 110) kwf_X6_28 rfl dX6_inn_110 ?_
          refine k_gTX0_tales (pc := 113) kwf_X6_98 rfl dX6_inn_113 ?_
          exact k_ireturn (pc := 116) rfl dX6_inn_116
        · refine k_bipush (pc := 92) (v := (k_ng 100)) dX6_inn_92 (by decide) ?_
          refine k_iload (pc := 94) dX6_inn_94 rfl ?_
          refine k_isub (pc := 96) dX6_inn_96 ?_
          exact k_ireturn (pc := 97) rfl dX6_inn_97
      · refine k_aload_n (pc := 43) dX6_inn_43 rfl ?_
        refine k_iload (pc := 44) dX6_inn_44 rfl ?_
        refine k_vi1 (pc := 46) (cT_same _ _) ckX6_faulty kwm_X6_76 cT_rv0 ⟨rfl, rfl⟩ ⟨Nat.le_of_ble_eq_true rfl, Nat.le_of_ble_eq_true rfl⟩ ⟨Nat.zero_le _, Nat.zero_le _⟩ (Nat.le_of_ble_eq_true rfl) dX6_inn_46 (fun _ _ hf => kX6_faulty hf) (fun r17 σ18 => ?_)
        exact k_ireturn (pc := 49) rfl dX6_inn_49
    · refine k_bipush (pc := 21) (v := (k_ng 2)) dX6_inn_21 (by decide) ?_
      exact k_ireturn (pc := 23) rfl dX6_inn_23
  · refine k_iconst (pc := 12) (v := (k_ng 1)) dX6_inn_12 (by decide) ?_
    exact k_ireturn (pc := 13) rfl dX6_inn_13
-- TallTales$House.tallWhenTold(II)I
theorem ckX0_tallWhenTold : k_Vok yX0_tallWhenTold cX0_tallWhenTold 3 (some .int) 2 := ⟨kwk_X0_tallWhenTold, kwi_X0_tallWhenTold, kwv_X0_tallWhenTold, kwn_X0, by decide, by decide +kernel⟩
abbrev rmX0_tallWhenTold : Room := { frames := 0, cells := 0, slots := 0, locals := 0 }
abbrev YX0_tallWhenTold : k_Y := (rmX0_tallWhenTold, cX0_tallWhenTold, 3, RX0, (some .int))
noncomputable def fX0_tallWhenTold (σ : k_S) (x1 x2 : Int32) : Option (Int32 × k_S) := k_gd (x1) 10 ((if σ.2 5 (Int32.toNatClampNeg (x1)) = (nI 1) then k_gd (x1) 10 (some ((σ.2 7 (Int32.toNatClampNeg (x1)) + ((nI 10) * x2)), σ)) else (if σ.2 5 (Int32.toNatClampNeg (x1)) = (nI 2) then k_gd (x1) 10 (some ((σ.2 7 (Int32.toNatClampNeg (x1)) + (nI 900)), σ)) else k_gd (x1) 10 (some (σ.2 7 (Int32.toNatClampNeg (x1)), σ)))))
set_option maxRecDepth 100000 in
set_option maxHeartbeats 4000000 in
theorem kX0_tallWhenTold {D : va_G} {cI : ClassId} {q : Nat → Nat} {σ : k_S} {x1 x2 : Int32} {r : Int32} {τ : k_S} (h : fX0_tallWhenTold σ x1 x2 = some (r, τ)) : k_Ct k_ei yX0_tallWhenTold cX0_tallWhenTold 3 (some .int) rmX0_tallWhenTold (cT cI q) D cI [.ref (q 3), .int x1, .int x2] σ r τ := by
  refine k_met (Y := YX0_tallWhenTold) (cT_same _ _) (by decide) rfl (Nat.le_of_ble_eq_true rfl) (List.forall_mem_cons.mpr ⟨rfl, List.forall_mem_cons.mpr ⟨rfl, List.forall_mem_cons.mpr ⟨rfl, fun _ h => absurd h List.not_mem_nil⟩⟩⟩) (fun X hD hI => ?_) h
  subst hD hI
  show KO X YX0_tallWhenTold (cT (k_I X) q) 0 0 (k_Q k_ei X (cT (k_I X) q)) 0 [some (.ref (q 3)), some (.int x1), some (.int x2)] [] σ _
  unfold fX0_tallWhenTold
  refine k_aload_n (pc := 0) dX0_tallWhenTold_0 rfl ?_
  refine k_gTX0_kinds (pc := 1) kwf_X0_9 rfl dX0_tallWhenTold_1 ?_
  refine k_iload_n (pc := 4) dX0_tallWhenTold_4 rfl ?_
  refine k_lT12 (pc := 5) dX0_tallWhenTold_5 ?_
  refine KO.ite (c := σ.2 5 (Int32.toNatClampNeg (x1)) = (nI 1)) (fun hs1_0 => ?_) (fun hs1_0 => ?_)
  · refine k_lookup (off := 26) (pc := 6) 32 dX0_tallWhenTold_6 (by decide) (by rw [hs1_0]; decide) (by decide) ?_
    refine k_aload_n (pc := 32) dX0_tallWhenTold_32 rfl ?_
    refine k_gTX0_heights (pc := 33) kwf_X0_18 rfl dX0_tallWhenTold_33 ?_
    refine k_iload_n (pc := 36) dX0_tallWhenTold_36 rfl ?_
    refine k_lT14 (pc := 37) dX0_tallWhenTold_37 ?_
    refine k_bipush (pc := 38) (v := (nI 10)) dX0_tallWhenTold_38 (by decide) ?_
    refine k_iload_n (pc := 40) dX0_tallWhenTold_40 rfl ?_
    refine k_imul (pc := 41) dX0_tallWhenTold_41 ?_
    refine k_iadd (pc := 42) dX0_tallWhenTold_42 ?_
    exact k_ireturn (pc := 43) rfl dX0_tallWhenTold_43
  · refine KO.ite (c := σ.2 5 (Int32.toNatClampNeg (x1)) = (nI 2)) (fun hs1_1 => ?_) (fun hs1_1 => ?_)
    · refine k_lookup (off := 38) (pc := 6) 44 dX0_tallWhenTold_6 (by decide) (by rw [hs1_1]; decide) (by decide) ?_
      refine k_aload_n (pc := 44) dX0_tallWhenTold_44 rfl ?_
      refine k_gTX0_heights (pc := 45) kwf_X0_18 rfl dX0_tallWhenTold_45 ?_
      refine k_iload_n (pc := 48) dX0_tallWhenTold_48 rfl ?_
      refine k_lT14 (pc := 49) dX0_tallWhenTold_49 ?_
      refine k_sipush (pc := 50) (v := (nI 900)) dX0_tallWhenTold_50 (by decide) ?_
      refine k_iadd (pc := 53) dX0_tallWhenTold_53 ?_
      exact k_ireturn (pc := 54) rfl dX0_tallWhenTold_54
    · refine k_lookup (off := 49) (pc := 6) 55 dX0_tallWhenTold_6 (by decide) (by refine (lv_osw hs1_0 rfl).trans ?_; refine (lv_osw hs1_1 rfl).trans ?_; rfl) (by decide) ?_
      refine k_aload_n (pc := 55) dX0_tallWhenTold_55 rfl ?_
      refine k_gTX0_heights (pc := 56) kwf_X0_18 rfl dX0_tallWhenTold_56 ?_
      refine k_iload_n (pc := 59) dX0_tallWhenTold_59 rfl ?_
      refine k_lT14 (pc := 60) dX0_tallWhenTold_60 ?_
      exact k_ireturn (pc := 61) rfl dX0_tallWhenTold_61
-- TallTales$House.tallOf(I)I
theorem ckX0_tallOf : k_Vok yX0_tallOf cX0_tallOf 2 (some .int) 1 := ⟨kwk_X0_tallOf, kwi_X0_tallOf, kwv_X0_tallOf, kwn_X0, by decide, by decide +kernel⟩
abbrev rmX0_tallOf : Room := { frames := 1, cells := 0, slots := 0, locals := 22 }
abbrev YX0_tallOf : k_Y := (rmX0_tallOf, cX0_tallOf, 2, RX0, (some .int))
noncomputable def fX0_tallOf (σ : k_S) (x1 : Int32) : Option (Int32 × k_S) := k_gd (x1) 10 (k_ob (fX0_tallWhenTold σ x1 (σ.2 8 (Int32.toNatClampNeg (x1)))) fun r1 σ2 => some (r1, σ2))
set_option maxRecDepth 100000 in
set_option maxHeartbeats 4000000 in
theorem kX0_tallOf {D : va_G} {cI : ClassId} {q : Nat → Nat} {σ : k_S} {x1 : Int32} {r : Int32} {τ : k_S} (h : fX0_tallOf σ x1 = some (r, τ)) : k_Ct k_ei yX0_tallOf cX0_tallOf 2 (some .int) rmX0_tallOf (cT cI q) D cI [.ref (q 3), .int x1] σ r τ := by
  refine k_met (Y := YX0_tallOf) (cT_same _ _) (by decide) rfl (Nat.le_of_ble_eq_true rfl) (List.forall_mem_cons.mpr ⟨rfl, List.forall_mem_cons.mpr ⟨rfl, fun _ h => absurd h List.not_mem_nil⟩⟩) (fun X hD hI => ?_) h
  subst hD hI
  show KO X YX0_tallOf (cT (k_I X) q) 0 0 (k_Q k_ei X (cT (k_I X) q)) 0 [some (.ref (q 3)), some (.int x1)] [] σ _
  unfold fX0_tallOf
  refine k_aload_n (pc := 0) dX0_tallOf_0 rfl ?_
  refine k_iload_n (pc := 1) dX0_tallOf_1 rfl ?_
  refine k_aload_n (pc := 2) dX0_tallOf_2 rfl ?_
  refine k_gTX0_told (pc := 3) kwf_X0_21 rfl dX0_tallOf_3 ?_
  refine k_iload_n (pc := 6) dX0_tallOf_6 rfl ?_
  refine k_lT15 (pc := 7) dX0_tallOf_7 ?_
  refine k_vi2 (pc := 8) (cT_same _ _) ckX0_tallWhenTold kwm_X0_77 cT_rv3 ⟨rfl, rfl⟩ ⟨Nat.le_of_ble_eq_true rfl, Nat.le_of_ble_eq_true rfl⟩ ⟨Nat.zero_le _, Nat.zero_le _⟩ (Nat.le_of_ble_eq_true rfl) dX0_tallOf_8 (fun _ _ hf => kX0_tallWhenTold hf) (fun r1 σ2 => ?_)
  exact k_ireturn (pc := 11) rfl dX0_tallOf_11
-- TallTales$House.mayBeTold(IIII)Z
theorem ckX0_mayBeTold : k_Vok yX0_mayBeTold cX0_mayBeTold 5 (some .boolean) 4 := ⟨kwk_X0_mayBeTold, kwi_X0_mayBeTold, kwv_X0_mayBeTold, kwn_X0, by decide, by decide +kernel⟩
abbrev rmX0_mayBeTold : Room := { frames := 0, cells := 0, slots := 0, locals := 0 }
abbrev YX0_mayBeTold : k_Y := (rmX0_mayBeTold, cX0_mayBeTold, 5, RX0, (some .boolean))
noncomputable def fX0_mayBeTold (σ : k_S) (x1 x2 x3 x4 : Int32) : Option (Int32 × k_S) := (if x2 = 0 then k_z ((nI 1)) (some ((nI 1), σ)) else k_gd (x1) 10 ((if σ.2 5 (Int32.toNatClampNeg (x1)) = (nI 1) then (if x3 = (x4 - (nI 1)) then k_z ((nI 0)) (some ((nI 0), σ)) else k_z ((nI 1)) (some ((nI 1), σ))) else (if σ.2 5 (Int32.toNatClampNeg (x1)) = (nI 2) then k_z ((nI 0)) (some ((nI 0), σ)) else (if x4 < ((x3 + (nI 1)) + σ.1 5) then k_z ((nI 0)) (some ((nI 0), σ)) else k_z ((nI 1)) (some ((nI 1), σ)))))))
set_option maxRecDepth 100000 in
set_option maxHeartbeats 4000000 in
theorem kX0_mayBeTold {D : va_G} {cI : ClassId} {q : Nat → Nat} {σ : k_S} {x1 x2 x3 x4 : Int32} {r : Int32} {τ : k_S} (h : fX0_mayBeTold σ x1 x2 x3 x4 = some (r, τ)) : k_Ct k_ei yX0_mayBeTold cX0_mayBeTold 5 (some .boolean) rmX0_mayBeTold (cT cI q) D cI [.ref (q 3), .int x1, .int x2, .int x3, .int x4] σ r τ := by
  refine k_met (Y := YX0_mayBeTold) (cT_same _ _) (by decide) rfl (Nat.le_of_ble_eq_true rfl) (List.forall_mem_cons.mpr ⟨rfl, List.forall_mem_cons.mpr ⟨rfl, List.forall_mem_cons.mpr ⟨rfl, List.forall_mem_cons.mpr ⟨rfl, List.forall_mem_cons.mpr ⟨rfl, fun _ h => absurd h List.not_mem_nil⟩⟩⟩⟩⟩) (fun X hD hI => ?_) h
  subst hD hI
  show KO X YX0_mayBeTold (cT (k_I X) q) 0 0 (k_Q k_ei X (cT (k_I X) q)) 0 [some (.ref (q 3)), some (.int x1), some (.int x2), some (.int x3), some (.int x4)] [] σ _
  unfold fX0_mayBeTold
  refine k_iload_n (pc := 0) dX0_mayBeTold_0 rfl ?_
  refine k_if_ne (pc := 1) 6 dX0_mayBeTold_1 (by decide) ?_ ?_
  · refine k_aload_n (pc := 6) dX0_mayBeTold_6 rfl ?_
    refine k_gTX0_kinds (pc := 7) kwf_X0_9 rfl dX0_mayBeTold_7 ?_
    refine k_iload_n (pc := 10) dX0_mayBeTold_10 rfl ?_
    refine k_lT12 (pc := 11) dX0_mayBeTold_11 ?_
    refine KO.ite (c := σ.2 5 (Int32.toNatClampNeg (x1)) = (nI 1)) (fun hs1_0 => ?_) (fun hs1_0 => ?_)
    · refine k_lookup (off := 28) (pc := 12) 40 dX0_mayBeTold_12 (by decide) (by rw [hs1_0]; decide) (by decide) ?_
      refine k_iload_n (pc := 40) dX0_mayBeTold_40 rfl ?_
      refine k_iload (pc := 41) dX0_mayBeTold_41 rfl ?_
      refine k_iconst (pc := 43) (v := (nI 1)) dX0_mayBeTold_43 (by decide) ?_
      refine k_isub (pc := 44) dX0_mayBeTold_44 ?_
      refine k_icmp_eq (pc := 45) 52 dX0_mayBeTold_45 (by decide) ?_ ?_
      · refine k_iconst (pc := 52) (v := (nI 0)) dX0_mayBeTold_52 (by decide) ?_
        exact k_zreturn (pc := 53) rfl dX0_mayBeTold_53
      · refine k_iconst (pc := 48) (v := (nI 1)) dX0_mayBeTold_48 (by decide) ?_
        refine k_goto (pc := 49) 53 dX0_mayBeTold_49 (by decide) ?_
        exact k_zreturn (pc := 53) rfl dX0_mayBeTold_53
    · refine KO.ite (c := σ.2 5 (Int32.toNatClampNeg (x1)) = (nI 2)) (fun hs1_1 => ?_) (fun hs1_1 => ?_)
      · refine k_lookup (off := 42) (pc := 12) 54 dX0_mayBeTold_12 (by decide) (by rw [hs1_1]; decide) (by decide) ?_
        refine k_iconst (pc := 54) (v := (nI 0)) dX0_mayBeTold_54 (by decide) ?_
        exact k_zreturn (pc := 55) rfl dX0_mayBeTold_55
      · refine k_lookup (off := 44) (pc := 12) 56 dX0_mayBeTold_12 (by decide) (by refine (lv_osw hs1_0 rfl).trans ?_; refine (lv_osw hs1_1 rfl).trans ?_; rfl) (by decide) ?_
        refine k_iload (pc := 56) dX0_mayBeTold_56 rfl ?_
        refine k_iload_n (pc := 58) dX0_mayBeTold_58 rfl ?_
        refine k_iconst (pc := 59) (v := (nI 1)) dX0_mayBeTold_59 (by decide) ?_
        refine k_iadd (pc := 60) dX0_mayBeTold_60 ?_
        refine k_aload_n (pc := 61) dX0_mayBeTold_61 rfl ?_
        refine k_gTX0_memory (pc := 62) kwf_X0_63 rfl dX0_mayBeTold_62 ?_
        refine k_iadd (pc := 65) dX0_mayBeTold_65 ?_
        refine k_icmp_lt (pc := 66) 73 dX0_mayBeTold_66 (by decide) ?_ ?_
        · refine k_iconst (pc := 73) (v := (nI 0)) dX0_mayBeTold_73 (by decide) ?_
          exact k_zreturn (pc := 74) rfl dX0_mayBeTold_74
        · refine k_iconst (pc := 69) (v := (nI 1)) dX0_mayBeTold_69 (by decide) ?_
          refine k_goto (pc := 70) 74 dX0_mayBeTold_70 (by decide) ?_
          exact k_zreturn (pc := 74) rfl dX0_mayBeTold_74
  · refine k_iconst (pc := 4) (v := (nI 1)) dX0_mayBeTold_4 (by decide) ?_
    exact k_zreturn (pc := 5) rfl dX0_mayBeTold_5
-- TallTales$House.isTellable(I)Z
theorem ckX0_isTellable : k_Vok yX0_isTellable cX0_isTellable 2 (some .boolean) 1 := ⟨kwk_X0_isTellable, kwi_X0_isTellable, kwv_X0_isTellable, kwn_X0, by decide, by decide +kernel⟩
abbrev rmX0_isTellable : Room := { frames := 1, cells := 0, slots := 0, locals := 24 }
abbrev YX0_isTellable : k_Y := (rmX0_isTellable, cX0_isTellable, 2, RX0, (some .boolean))
noncomputable def fX0_isTellable (σ : k_S) (x1 : Int32) : Option (Int32 × k_S) := k_gd (x1) 10 (k_gd (x1) 10 (k_ob (fX0_mayBeTold σ x1 (σ.2 8 (Int32.toNatClampNeg (x1))) (σ.2 9 (Int32.toNatClampNeg (x1))) (σ.1 6)) fun r1 σ2 => k_z (r1) (some (r1, σ2))))
set_option maxRecDepth 100000 in
set_option maxHeartbeats 4000000 in
theorem kX0_isTellable {D : va_G} {cI : ClassId} {q : Nat → Nat} {σ : k_S} {x1 : Int32} {r : Int32} {τ : k_S} (h : fX0_isTellable σ x1 = some (r, τ)) : k_Ct k_ei yX0_isTellable cX0_isTellable 2 (some .boolean) rmX0_isTellable (cT cI q) D cI [.ref (q 3), .int x1] σ r τ := by
  refine k_met (Y := YX0_isTellable) (cT_same _ _) (by decide) rfl (Nat.le_of_ble_eq_true rfl) (List.forall_mem_cons.mpr ⟨rfl, List.forall_mem_cons.mpr ⟨rfl, fun _ h => absurd h List.not_mem_nil⟩⟩) (fun X hD hI => ?_) h
  subst hD hI
  show KO X YX0_isTellable (cT (k_I X) q) 0 0 (k_Q k_ei X (cT (k_I X) q)) 0 [some (.ref (q 3)), some (.int x1)] [] σ _
  unfold fX0_isTellable
  refine k_aload_n (pc := 0) dX0_isTellable_0 rfl ?_
  refine k_iload_n (pc := 1) dX0_isTellable_1 rfl ?_
  refine k_aload_n (pc := 2) dX0_isTellable_2 rfl ?_
  refine k_gTX0_told (pc := 3) kwf_X0_21 rfl dX0_isTellable_3 ?_
  refine k_iload_n (pc := 6) dX0_isTellable_6 rfl ?_
  refine k_lT15 (pc := 7) dX0_isTellable_7 ?_
  refine k_aload_n (pc := 8) dX0_isTellable_8 rfl ?_
  refine k_gTX0_last (pc := 9) kwf_X0_24 rfl dX0_isTellable_9 ?_
  refine k_iload_n (pc := 12) dX0_isTellable_12 rfl ?_
  refine k_lT16 (pc := 13) dX0_isTellable_13 ?_
  refine k_aload_n (pc := 14) dX0_isTellable_14 rfl ?_
  refine k_gTX0_nights (pc := 15) kwf_X0_66 rfl dX0_isTellable_15 ?_
  refine k_vi4 (pc := 18) (cT_same _ _) ckX0_mayBeTold kwm_X0_73 cT_rv3 ⟨rfl, rfl⟩ ⟨Nat.le_of_ble_eq_true rfl, Nat.le_of_ble_eq_true rfl⟩ ⟨Nat.zero_le _, Nat.zero_le _⟩ (Nat.le_of_ble_eq_true rfl) dX0_isTellable_18 (fun _ _ hf => kX0_mayBeTold hf) (fun r1 σ2 => ?_)
  exact k_zreturn (pc := 21) rfl dX0_isTellable_21
-- TallTales.ofTale(II)I
theorem ckX6_ofTale : k_Vok yX6_ofTale cX6_ofTale 3 (some .int) 2 := ⟨kwk_X6_ofTale, kwi_X6_ofTale, kwv_X6_ofTale, kwn_X6, by decide, by decide +kernel⟩
abbrev rmX6_ofTale : Room := { frames := 2, cells := 0, slots := 0, locals := 45 }
abbrev YX6_ofTale : k_Y := (rmX6_ofTale, cX6_ofTale, 3, RX6, (some .int))
noncomputable def fX6_ofTale (σ : k_S) (x1 x2 : Int32) : Option (Int32 × k_S) := k_ob (fX0_hasTale σ x1) fun r1 σ2 => (if r1 = 0 then some ((k_ng 1), σ2) else (if x2 = (nI 0) then k_gd (x1) 10 (some (σ2.2 5 (Int32.toNatClampNeg (x1)), σ2)) else (if x2 = (nI 1) then k_gd (x1) 10 (some (σ2.2 6 (Int32.toNatClampNeg (x1)), σ2)) else (if x2 = (nI 2) then k_gd (x1) 10 (some (σ2.2 7 (Int32.toNatClampNeg (x1)), σ2)) else (if x2 = (nI 3) then k_gd (x1) 10 (some (σ2.2 8 (Int32.toNatClampNeg (x1)), σ2)) else (if x2 = (nI 4) then k_gd (x1) 10 (some (σ2.2 9 (Int32.toNatClampNeg (x1)), σ2)) else (if x2 = (nI 5) then k_ob (fX0_isTellable σ2 x1) fun r4 σ5 => (if r4 = 0 then some ((nI 0), σ5) else some ((nI 1), σ5)) else (if x2 = (nI 6) then k_ob (fX0_tallOf σ2 x1) fun r6 σ7 => some (r6, σ7) else some ((k_ng 2), σ2)))))))))
set_option maxRecDepth 100000 in
set_option maxHeartbeats 4000000 in
theorem kX6_ofTale {D : va_G} {cI : ClassId} {q : Nat → Nat} {σ : k_S} {x1 x2 : Int32} {r : Int32} {τ : k_S} (h : fX6_ofTale σ x1 x2 = some (r, τ)) : k_Ct k_ei yX6_ofTale cX6_ofTale 3 (some .int) rmX6_ofTale (cT cI q) D cI [.ref (q 0), .int x1, .int x2] σ r τ := by
  refine k_met (Y := YX6_ofTale) (cT_same _ _) (by decide) rfl (Nat.le_of_ble_eq_true rfl) (List.forall_mem_cons.mpr ⟨rfl, List.forall_mem_cons.mpr ⟨rfl, List.forall_mem_cons.mpr ⟨rfl, fun _ h => absurd h List.not_mem_nil⟩⟩⟩) (fun X hD hI => ?_) h
  subst hD hI
  show KO X YX6_ofTale (cT (k_I X) q) 0 0 (k_Q k_ei X (cT (k_I X) q)) 0 [some (.ref (q 0)), some (.int x1), some (.int x2)] [] σ _
  unfold fX6_ofTale
  refine k_aload_n (pc := 0) dX6_ofTale_0 rfl ?_
  refine k_gTX6_house (pc := 1) kwf_X6_28 rfl dX6_ofTale_1 ?_
  refine k_iload_n (pc := 4) dX6_ofTale_4 rfl ?_
  refine k_vi1 (pc := 5) (cT_same _ _) ckX0_hasTale kwm_X6_101 cT_rv3 ⟨rfl, rfl⟩ ⟨Nat.le_of_ble_eq_true rfl, Nat.le_of_ble_eq_true rfl⟩ ⟨Nat.zero_le _, Nat.zero_le _⟩ (Nat.le_of_ble_eq_true rfl) dX6_ofTale_5 (fun _ _ hf => kX0_hasTale hf) (fun r1 σ2 => ?_)
  refine k_if_ne (pc := 8) 13 dX6_ofTale_8 (by decide) ?_ ?_
  · refine k_iload_n (pc := 13) dX6_ofTale_13 rfl ?_
    refine KO.ite (c := x2 = (nI 0)) (fun hs3_0 => ?_) (fun hs3_0 => ?_)
    · refine k_tableIn (off := 42) (pc := 14) 56 dX6_ofTale_14 hs3_0 (by decide) (by decide) (by decide) (by decide) ?_
      refine k_aload_n (pc := 56) dX6_ofTale_56 rfl ?_
      refine k_gTX6_house (pc := 57) kwf_X6_28 rfl dX6_ofTale_57 ?_
      refine k_gTX0_kinds (pc := 60) kwf_X6_104 rfl dX6_ofTale_60 ?_
      refine k_iload_n (pc := 63) dX6_ofTale_63 rfl ?_
      refine k_lT12 (pc := 64) dX6_ofTale_64 ?_
      exact k_ireturn (pc := 65) rfl dX6_ofTale_65
    · refine KO.ite (c := x2 = (nI 1)) (fun hs3_1 => ?_) (fun hs3_1 => ?_)
      · refine k_tableIn (off := 52) (pc := 14) 66 dX6_ofTale_14 hs3_1 (by decide) (by decide) (by decide) (by decide) ?_
        refine k_aload_n (pc := 66) dX6_ofTale_66 rfl ?_
        refine k_gTX6_house (pc := 67) kwf_X6_28 rfl dX6_ofTale_67 ?_
        refine k_gTX0_owners (pc := 70) kwf_X6_107 rfl dX6_ofTale_70 ?_
        refine k_iload_n (pc := 73) dX6_ofTale_73 rfl ?_
        refine k_lT13 (pc := 74) dX6_ofTale_74 ?_
        exact k_ireturn (pc := 75) rfl dX6_ofTale_75
      · refine KO.ite (c := x2 = (nI 2)) (fun hs3_2 => ?_) (fun hs3_2 => ?_)
        · refine k_tableIn (off := 62) (pc := 14) 76 dX6_ofTale_14 hs3_2 (by decide) (by decide) (by decide) (by decide) ?_
          refine k_aload_n (pc := 76) dX6_ofTale_76 rfl ?_
          refine k_gTX6_house (pc := 77) kwf_X6_28 rfl dX6_ofTale_77 ?_
          refine k_gTX0_heights (pc := 80) kwf_X6_110 rfl dX6_ofTale_80 ?_
          refine k_iload_n (pc := 83) dX6_ofTale_83 rfl ?_
          refine k_lT14 (pc := 84) dX6_ofTale_84 ?_
          exact k_ireturn (pc := 85) rfl dX6_ofTale_85
        · refine KO.ite (c := x2 = (nI 3)) (fun hs3_3 => ?_) (fun hs3_3 => ?_)
          · refine k_tableIn (off := 72) (pc := 14) 86 dX6_ofTale_14 hs3_3 (by decide) (by decide) (by decide) (by decide) ?_
            refine k_aload_n (pc := 86) dX6_ofTale_86 rfl ?_
            refine k_gTX6_house (pc := 87) kwf_X6_28 rfl dX6_ofTale_87 ?_
            refine k_gTX0_told (pc := 90) kwf_X6_113 rfl dX6_ofTale_90 ?_
            refine k_iload_n (pc := 93) dX6_ofTale_93 rfl ?_
            refine k_lT15 (pc := 94) dX6_ofTale_94 ?_
            exact k_ireturn (pc := 95) rfl dX6_ofTale_95
          · refine KO.ite (c := x2 = (nI 4)) (fun hs3_4 => ?_) (fun hs3_4 => ?_)
            · refine k_tableIn (off := 82) (pc := 14) 96 dX6_ofTale_14 hs3_4 (by decide) (by decide) (by decide) (by decide) ?_
              refine k_aload_n (pc := 96) dX6_ofTale_96 rfl ?_
              refine k_gTX6_house (pc := 97) kwf_X6_28 rfl dX6_ofTale_97 ?_
              refine k_gTX0_last (pc := 100) kwf_X6_116 rfl dX6_ofTale_100 ?_
              refine k_iload_n (pc := 103) dX6_ofTale_103 rfl ?_
              refine k_lT16 (pc := 104) dX6_ofTale_104 ?_
              exact k_ireturn (pc := 105) rfl dX6_ofTale_105
            · refine KO.ite (c := x2 = (nI 5)) (fun hs3_5 => ?_) (fun hs3_5 => ?_)
              · refine k_tableIn (off := 92) (pc := 14) 106 dX6_ofTale_14 hs3_5 (by decide) (by decide) (by decide) (by decide) ?_
                refine k_aload_n (pc := 106) dX6_ofTale_106 rfl ?_
                refine k_gTX6_house (pc := 107) kwf_X6_28 rfl dX6_ofTale_107 ?_
                refine k_iload_n (pc := 110) dX6_ofTale_110 rfl ?_
                refine k_vi1 (pc := 111) (cT_same _ _) ckX0_isTellable kwm_X6_119 cT_rv3 ⟨rfl, rfl⟩ ⟨Nat.le_of_ble_eq_true rfl, Nat.le_of_ble_eq_true rfl⟩ ⟨Nat.zero_le _, Nat.zero_le _⟩ (Nat.le_of_ble_eq_true rfl) dX6_ofTale_111 (fun _ _ hf => kX0_isTellable hf) (fun r4 σ5 => ?_)
                refine k_if_eq (pc := 114) 121 dX6_ofTale_114 (by decide) ?_ ?_
                · refine k_iconst (pc := 121) (v := (nI 0)) dX6_ofTale_121 (by decide) ?_
                  exact k_ireturn (pc := 122) rfl dX6_ofTale_122
                · refine k_iconst (pc := 117) (v := (nI 1)) dX6_ofTale_117 (by decide) ?_
                  refine k_goto (pc := 118) 122 dX6_ofTale_118 (by decide) ?_
                  exact k_ireturn (pc := 122) rfl dX6_ofTale_122
              · refine KO.ite (c := x2 = (nI 6)) (fun hs3_6 => ?_) (fun hs3_6 => ?_)
                · refine k_tableIn (off := 109) (pc := 14) 123 dX6_ofTale_14 hs3_6 (by decide) (by decide) (by decide) (by decide) ?_
                  refine k_aload_n (pc := 123) dX6_ofTale_123 rfl ?_
                  refine k_gTX6_house (pc := 124) kwf_X6_28 rfl dX6_ofTale_124 ?_
                  refine k_iload_n (pc := 127) dX6_ofTale_127 rfl ?_
                  refine k_vi1 (pc := 128) (cT_same _ _) ckX0_tallOf kwm_X6_122 cT_rv3 ⟨rfl, rfl⟩ ⟨Nat.le_of_ble_eq_true rfl, Nat.le_of_ble_eq_true rfl⟩ ⟨Nat.zero_le _, Nat.zero_le _⟩ (Nat.le_of_ble_eq_true rfl) dX6_ofTale_128 (fun _ _ hf => kX0_tallOf hf) (fun r6 σ7 => ?_)
                  exact k_ireturn (pc := 131) rfl dX6_ofTale_131
                · refine k_tableOut (pc := 14) 132 dX6_ofTale_14 (by have g0 := lv_neT (a := 0) hs3_0 (by decide); have g1 := lv_neT (a := 1) hs3_1 (by decide); have g2 := lv_neT (a := 2) hs3_2 (by decide); have g3 := lv_neT (a := 3) hs3_3 (by decide); have g4 := lv_neT (a := 4) hs3_4 (by decide); have g5 := lv_neT (a := 5) hs3_5 (by decide); have g6 := lv_neT (a := 6) hs3_6 (by decide); omega) (by decide) ?_
                  refine k_bipush (pc := 132) (v := (k_ng 2)) dX6_ofTale_132 (by decide) ?_
                  exact k_ireturn (pc := 134) rfl dX6_ofTale_134
  · refine k_iconst (pc := 11) (v := (k_ng 1)) dX6_ofTale_11 (by decide) ?_
    exact k_ireturn (pc := 12) rfl dX6_ofTale_12
-- TallTales$House.isOpen()Z
theorem ckX0_isOpen : k_Vok yX0_isOpen cX0_isOpen 1 (some .boolean) 0 := ⟨kwk_X0_isOpen, kwi_X0_isOpen, kwv_X0_isOpen, kwn_X0, by decide, by decide +kernel⟩
abbrev rmX0_isOpen : Room := { frames := 0, cells := 0, slots := 0, locals := 0 }
abbrev YX0_isOpen : k_Y := (rmX0_isOpen, cX0_isOpen, 1, RX0, (some .boolean))
noncomputable def fX0_isOpen (σ : k_S) : Option (Int32 × k_S) := (if 0 < σ.1 3 then k_z ((nI 1)) (some ((nI 1), σ)) else k_z ((nI 0)) (some ((nI 0), σ)))
set_option maxRecDepth 100000 in
set_option maxHeartbeats 4000000 in
theorem kX0_isOpen {D : va_G} {cI : ClassId} {q : Nat → Nat} {σ : k_S} {r : Int32} {τ : k_S} (h : fX0_isOpen σ = some (r, τ)) : k_Ct k_ei yX0_isOpen cX0_isOpen 1 (some .boolean) rmX0_isOpen (cT cI q) D cI [.ref (q 3)] σ r τ := by
  refine k_met (Y := YX0_isOpen) (cT_same _ _) (by decide) rfl (Nat.le_of_ble_eq_true rfl) (List.forall_mem_cons.mpr ⟨rfl, fun _ h => absurd h List.not_mem_nil⟩) (fun X hD hI => ?_) h
  subst hD hI
  show KO X YX0_isOpen (cT (k_I X) q) 0 0 (k_Q k_ei X (cT (k_I X) q)) 0 [some (.ref (q 3))] [] σ _
  unfold fX0_isOpen
  refine k_aload_n (pc := 0) dX0_isOpen_0 rfl ?_
  refine k_gTX0_guests (pc := 1) kwf_X0_45 rfl dX0_isOpen_1 ?_
  refine k_if_le (pc := 4) 11 dX0_isOpen_4 (by decide) ?_ ?_
  · refine k_iconst (pc := 11) (v := (nI 0)) dX0_isOpen_11 (by decide) ?_
    exact k_zreturn (pc := 12) rfl dX0_isOpen_12
  · refine k_iconst (pc := 7) (v := (nI 1)) dX0_isOpen_7 (by decide) ?_
    refine k_goto (pc := 8) 12 dX0_isOpen_8 (by decide) ?_
    exact k_zreturn (pc := 12) rfl dX0_isOpen_12
-- TallTales.memory(I)I
theorem ckX6_memory : k_Vok yX6_memory cX6_memory 3 (some .int) 1 := ⟨kwk_X6_memory, kwi_X6_memory, kwv_X6_memory, kwn_X6, by decide, by decide +kernel⟩
abbrev rmX6_memory : Room := { frames := 1, cells := 0, slots := 0, locals := 20 }
abbrev YX6_memory : k_Y := (rmX6_memory, cX6_memory, 3, RX6, (some .int))
noncomputable def fX6_memory (σ : k_S) (x1 : Int32) : Option (Int32 × k_S) := (if x1 < 0 then some ((k_ng 2), σ) else (if (nI 99) < x1 then some ((k_ng 2), σ) else k_ob (fX0_isOpen σ) fun r1 σ2 => (if r1 = 0 then some ((k_ng 3), σ2) else k_bn (σ2.1 5) fun v3 => k_bn (k_sf σ2 5 (x1)) fun σ4 => some (v3, σ4))))
set_option maxRecDepth 100000 in
set_option maxHeartbeats 4000000 in
theorem kX6_memory {D : va_G} {cI : ClassId} {q : Nat → Nat} {σ : k_S} {x1 : Int32} {r : Int32} {τ : k_S} (h : fX6_memory σ x1 = some (r, τ)) : k_Ct k_ei yX6_memory cX6_memory 3 (some .int) rmX6_memory (cT cI q) D cI [.ref (q 0), .int x1] σ r τ := by
  refine k_met (Y := YX6_memory) (cT_same _ _) (by decide) rfl (Nat.le_of_ble_eq_true rfl) (List.forall_mem_cons.mpr ⟨rfl, List.forall_mem_cons.mpr ⟨rfl, fun _ h => absurd h List.not_mem_nil⟩⟩) (fun X hD hI => ?_) h
  subst hD hI
  show KO X YX6_memory (cT (k_I X) q) 0 0 (k_Q k_ei X (cT (k_I X) q)) 0 [some (.ref (q 0)), some (.int x1), none] [] σ _
  unfold fX6_memory
  refine k_iload_n (pc := 0) dX6_memory_0 rfl ?_
  refine k_if_lt (pc := 1) 10 dX6_memory_1 (by decide) ?_ ?_
  · refine k_bipush (pc := 10) (v := (k_ng 2)) dX6_memory_10 (by decide) ?_
    exact k_ireturn (pc := 12) rfl dX6_memory_12
  · refine k_iload_n (pc := 4) dX6_memory_4 rfl ?_
    refine k_bipush (pc := 5) (v := (nI 99)) dX6_memory_5 (by decide) ?_
    refine k_icmp_le (pc := 7) 13 dX6_memory_7 (by decide) ?_ ?_
    · refine k_aload_n (pc := 13) dX6_memory_13 rfl ?_
      refine k_gTX6_house (pc := 14) kwf_X6_28 rfl dX6_memory_14 ?_
      refine k_vi0 (pc := 17) (cT_same _ _) ckX0_isOpen kwm_X6_125 cT_rv3 ⟨rfl, rfl⟩ ⟨Nat.le_of_ble_eq_true rfl, Nat.le_of_ble_eq_true rfl⟩ ⟨Nat.zero_le _, Nat.zero_le _⟩ (Nat.le_of_ble_eq_true rfl) dX6_memory_17 (fun _ _ hf => kX0_isOpen hf) (fun r1 σ2 => ?_)
      refine k_if_ne (pc := 20) 26 dX6_memory_20 (by decide) ?_ ?_
      · refine k_aload_n (pc := 26) dX6_memory_26 rfl ?_
        refine k_gTX6_house (pc := 27) kwf_X6_28 rfl dX6_memory_27 ?_
        refine k_gTX0_memory (pc := 30) kwf_X6_129 rfl dX6_memory_30 ?_
        refine k_ist2 (pc := 33) dX6_memory_33 (Nat.le_of_ble_eq_true rfl) (fun v3 => ?_)
        refine k_aload_n (pc := 34) dX6_memory_34 rfl ?_
        refine k_gTX6_house (pc := 35) kwf_X6_28 rfl dX6_memory_35 ?_
        refine k_iload_n (pc := 38) dX6_memory_38 rfl ?_
        refine k_pTX0_memory (pc := 39) kwf_X6_129 rfl dX6_memory_39 (fun σ4 => ?_)
        refine k_iload_n (pc := 42) dX6_memory_42 rfl ?_
        exact k_ireturn (pc := 43) rfl dX6_memory_43
      · refine k_bipush (pc := 23) (v := (k_ng 3)) dX6_memory_23 (by decide) ?_
        exact k_ireturn (pc := 25) rfl dX6_memory_25
    · refine k_bipush (pc := 10) (v := (k_ng 2)) dX6_memory_10 (by decide) ?_
      exact k_ireturn (pc := 12) rfl dX6_memory_12
-- TallTales$House.hasGuest(I)Z
theorem ckX0_hasGuest : k_Vok yX0_hasGuest cX0_hasGuest 2 (some .boolean) 1 := ⟨kwk_X0_hasGuest, kwi_X0_hasGuest, kwv_X0_hasGuest, kwn_X0, by decide, by decide +kernel⟩
abbrev rmX0_hasGuest : Room := { frames := 0, cells := 0, slots := 0, locals := 0 }
abbrev YX0_hasGuest : k_Y := (rmX0_hasGuest, cX0_hasGuest, 2, RX0, (some .boolean))
noncomputable def fX0_hasGuest (σ : k_S) (x1 : Int32) : Option (Int32 × k_S) := (if x1 < 0 then k_z ((nI 0)) (some ((nI 0), σ)) else (if x1 < σ.1 3 then k_z ((nI 1)) (some ((nI 1), σ)) else k_z ((nI 0)) (some ((nI 0), σ))))
set_option maxRecDepth 100000 in
set_option maxHeartbeats 4000000 in
theorem kX0_hasGuest {D : va_G} {cI : ClassId} {q : Nat → Nat} {σ : k_S} {x1 : Int32} {r : Int32} {τ : k_S} (h : fX0_hasGuest σ x1 = some (r, τ)) : k_Ct k_ei yX0_hasGuest cX0_hasGuest 2 (some .boolean) rmX0_hasGuest (cT cI q) D cI [.ref (q 3), .int x1] σ r τ := by
  refine k_met (Y := YX0_hasGuest) (cT_same _ _) (by decide) rfl (Nat.le_of_ble_eq_true rfl) (List.forall_mem_cons.mpr ⟨rfl, List.forall_mem_cons.mpr ⟨rfl, fun _ h => absurd h List.not_mem_nil⟩⟩) (fun X hD hI => ?_) h
  subst hD hI
  show KO X YX0_hasGuest (cT (k_I X) q) 0 0 (k_Q k_ei X (cT (k_I X) q)) 0 [some (.ref (q 3)), some (.int x1)] [] σ _
  unfold fX0_hasGuest
  refine k_iload_n (pc := 0) dX0_hasGuest_0 rfl ?_
  refine k_if_lt (pc := 1) 16 dX0_hasGuest_1 (by decide) ?_ ?_
  · refine k_iconst (pc := 16) (v := (nI 0)) dX0_hasGuest_16 (by decide) ?_
    exact k_zreturn (pc := 17) rfl dX0_hasGuest_17
  · refine k_iload_n (pc := 4) dX0_hasGuest_4 rfl ?_
    refine k_aload_n (pc := 5) dX0_hasGuest_5 rfl ?_
    refine k_gTX0_guests (pc := 6) kwf_X0_45 rfl dX0_hasGuest_6 ?_
    refine k_icmp_ge (pc := 9) 16 dX0_hasGuest_9 (by decide) ?_ ?_
    · refine k_iconst (pc := 16) (v := (nI 0)) dX0_hasGuest_16 (by decide) ?_
      exact k_zreturn (pc := 17) rfl dX0_hasGuest_17
    · refine k_iconst (pc := 12) (v := (nI 1)) dX0_hasGuest_12 (by decide) ?_
      refine k_goto (pc := 13) 17 dX0_hasGuest_13 (by decide) ?_
      exact k_zreturn (pc := 17) rfl dX0_hasGuest_17
-- TallTales.choose(II)I
theorem ckX6_choose : k_Vok yX6_choose cX6_choose 4 (some .int) 2 := ⟨kwk_X6_choose, kwi_X6_choose, kwv_X6_choose, kwn_X6, by decide, by decide +kernel⟩
abbrev rmX6_choose : Room := { frames := 2, cells := 0, slots := 0, locals := 45 }
abbrev YX6_choose : k_Y := (rmX6_choose, cX6_choose, 4, RX6, (some .int))
noncomputable def fX6_choose_c59 (σ : k_S) (l1 l2 : Int32) : Option (Int32 × k_S) := k_gd (l1) 5 (k_bn (σ.2 10 (Int32.toNatClampNeg (l1))) fun v1 => k_gd (l1) 5 (k_bn (k_sa σ 10 (l1) (l2)) fun σ2 => some (v1, σ2)))
set_option maxRecDepth 100000 in
set_option maxHeartbeats 4000000 in
theorem kX6_choose_c59 {X : k_C} {q : Nat → Nat} (σ : k_S) (l1 l2 : Int32) : KO X YX6_choose (cT (k_I X) q) 0 0 (k_Q k_ei X (cT (k_I X) q)) 59 [some (.ref (q 0)), some (.int l1), some (.int l2), none] [] σ (fX6_choose_c59 σ l1 l2) := by
  unfold fX6_choose_c59
  refine k_aload_n (pc := 59) dX6_choose_59 rfl ?_
  refine k_gTX6_house (pc := 60) kwf_X6_28 rfl dX6_choose_60 ?_
  refine k_gTX0_chosen (pc := 63) kwf_X6_135 rfl dX6_choose_63 ?_
  refine k_iload_n (pc := 66) dX6_choose_66 rfl ?_
  refine k_lT17 (pc := 67) dX6_choose_67 ?_
  refine k_ist3 (pc := 68) dX6_choose_68 (Nat.le_of_ble_eq_true rfl) (fun v1 => ?_)
  refine k_aload_n (pc := 69) dX6_choose_69 rfl ?_
  refine k_gTX6_house (pc := 70) kwf_X6_28 rfl dX6_choose_70 ?_
  refine k_gTX0_chosen (pc := 73) kwf_X6_135 rfl dX6_choose_73 ?_
  refine k_iload_n (pc := 76) dX6_choose_76 rfl ?_
  refine k_iload_n (pc := 77) dX6_choose_77 rfl ?_
  refine k_sT17 (pc := 78) dX6_choose_78 (fun σ2 => ?_)
  refine k_iload_n (pc := 79) dX6_choose_79 rfl ?_
  exact k_ireturn (pc := 80) rfl dX6_choose_80
noncomputable def fX6_choose (σ : k_S) (x1 x2 : Int32) : Option (Int32 × k_S) := k_ob (fX0_hasGuest σ x1) fun r1 σ2 => (if r1 = 0 then some ((k_ng 1), σ2) else (if x2 = (k_ng 9) then fX6_choose_c59 σ2 x1 x2 else k_ob (fX0_hasTale σ2 x2) fun r3 σ4 => (if r3 = 0 then some ((k_ng 1), σ4) else k_gd (x2) 10 ((if σ4.2 6 (Int32.toNatClampNeg (x2)) = x1 then k_ob (fX0_isTellable σ4 x2) fun r5 σ6 => (if r5 = 0 then some ((k_ng 3), σ6) else fX6_choose_c59 σ6 x1 x2) else some ((k_ng 3), σ4))))))
set_option maxRecDepth 100000 in
set_option maxHeartbeats 4000000 in
theorem kX6_choose {D : va_G} {cI : ClassId} {q : Nat → Nat} {σ : k_S} {x1 x2 : Int32} {r : Int32} {τ : k_S} (h : fX6_choose σ x1 x2 = some (r, τ)) : k_Ct k_ei yX6_choose cX6_choose 4 (some .int) rmX6_choose (cT cI q) D cI [.ref (q 0), .int x1, .int x2] σ r τ := by
  refine k_met (Y := YX6_choose) (cT_same _ _) (by decide) rfl (Nat.le_of_ble_eq_true rfl) (List.forall_mem_cons.mpr ⟨rfl, List.forall_mem_cons.mpr ⟨rfl, List.forall_mem_cons.mpr ⟨rfl, fun _ h => absurd h List.not_mem_nil⟩⟩⟩) (fun X hD hI => ?_) h
  subst hD hI
  show KO X YX6_choose (cT (k_I X) q) 0 0 (k_Q k_ei X (cT (k_I X) q)) 0 [some (.ref (q 0)), some (.int x1), some (.int x2), none] [] σ _
  unfold fX6_choose
  refine k_aload_n (pc := 0) dX6_choose_0 rfl ?_
  refine k_gTX6_house (pc := 1) kwf_X6_28 rfl dX6_choose_1 ?_
  refine k_iload_n (pc := 4) dX6_choose_4 rfl ?_
  refine k_vi1 (pc := 5) (cT_same _ _) ckX0_hasGuest kwm_X6_132 cT_rv3 ⟨rfl, rfl⟩ ⟨Nat.le_of_ble_eq_true rfl, Nat.le_of_ble_eq_true rfl⟩ ⟨Nat.zero_le _, Nat.zero_le _⟩ (Nat.le_of_ble_eq_true rfl) dX6_choose_5 (fun _ _ hf => kX0_hasGuest hf) (fun r1 σ2 => ?_)
  refine k_if_ne (pc := 8) 13 dX6_choose_8 (by decide) ?_ ?_
  · refine k_iload_n (pc := 13) dX6_choose_13 rfl ?_
    refine k_bipush (pc := 14) (v := (k_ng 9)) dX6_choose_14 (by decide) ?_
    refine k_icmp_eq (pc := 16) 59 dX6_choose_16 (by decide) ?_ ?_
    · exact kX6_choose_c59 σ2 x1 x2
    · refine k_aload_n (pc := 19) dX6_choose_19 rfl ?_
      refine k_gTX6_house (pc := 20) kwf_X6_28 rfl dX6_choose_20 ?_
      refine k_iload_n (pc := 23) dX6_choose_23 rfl ?_
      refine k_vi1 (pc := 24) (cT_same _ _) ckX0_hasTale kwm_X6_101 cT_rv3 ⟨rfl, rfl⟩ ⟨Nat.le_of_ble_eq_true rfl, Nat.le_of_ble_eq_true rfl⟩ ⟨Nat.zero_le _, Nat.zero_le _⟩ (Nat.le_of_ble_eq_true rfl) dX6_choose_24 (fun _ _ hf => kX0_hasTale hf) (fun r3 σ4 => ?_)
      refine k_if_ne (pc := 27) 32 dX6_choose_27 (by decide) ?_ ?_
      · refine k_aload_n (pc := 32) dX6_choose_32 rfl ?_
        refine k_gTX6_house (pc := 33) kwf_X6_28 rfl dX6_choose_33 ?_
        refine k_gTX0_owners (pc := 36) kwf_X6_107 rfl dX6_choose_36 ?_
        refine k_iload_n (pc := 39) dX6_choose_39 rfl ?_
        refine k_lT13 (pc := 40) dX6_choose_40 ?_
        refine k_iload_n (pc := 41) dX6_choose_41 rfl ?_
        refine k_icmp_ne (pc := 42) 56 dX6_choose_42 (by decide) ?_ ?_
        · refine k_bipush (pc := 56) (v := (k_ng 3)) dX6_choose_56 (by decide) ?_
          exact k_ireturn (pc := 58) rfl dX6_choose_58
        · refine k_aload_n (pc := 45) dX6_choose_45 rfl ?_
          refine k_gTX6_house (pc := 46) kwf_X6_28 rfl dX6_choose_46 ?_
          refine k_iload_n (pc := 49) dX6_choose_49 rfl ?_
          refine k_vi1 (pc := 50) (cT_same _ _) ckX0_isTellable kwm_X6_119 cT_rv3 ⟨rfl, rfl⟩ ⟨Nat.le_of_ble_eq_true rfl, Nat.le_of_ble_eq_true rfl⟩ ⟨Nat.zero_le _, Nat.zero_le _⟩ (Nat.le_of_ble_eq_true rfl) dX6_choose_50 (fun _ _ hf => kX0_isTellable hf) (fun r5 σ6 => ?_)
          refine k_if_ne (pc := 53) 59 dX6_choose_53 (by decide) ?_ ?_
          · exact kX6_choose_c59 σ6 x1 x2
          · refine k_bipush (pc := 56) (v := (k_ng 3)) dX6_choose_56 (by decide) ?_
            exact k_ireturn (pc := 58) rfl dX6_choose_58
      · refine k_iconst (pc := 30) (v := (k_ng 1)) dX6_choose_30 (by decide) ?_
        exact k_ireturn (pc := 31) rfl dX6_choose_31
  · refine k_iconst (pc := 11) (v := (k_ng 1)) dX6_choose_11 (by decide) ?_
    exact k_ireturn (pc := 12) rfl dX6_choose_12
-- TallTales$House.tallsAsChosen(LTallTales$Talls;)V
theorem ckX0_tallsAsChosen : k_Vok yX0_tallsAsChosen cX0_tallsAsChosen 3 none 1 := ⟨kwk_X0_tallsAsChosen, kwi_X0_tallsAsChosen, kwv_X0_tallsAsChosen, kwn_X0, by decide, by decide +kernel⟩
abbrev rmX0_tallsAsChosen : Room := { frames := 2, cells := 0, slots := 0, locals := 43 }
abbrev YX0_tallsAsChosen : k_Y := (rmX0_tallsAsChosen, cX0_tallsAsChosen, 3, RX0, none)
noncomputable def fX0_tallsAsChosen_c50 (kh10 : k_S → Int32 → Option (Unit × k_S)) (σ : k_S) (l2 s1 s2 : Int32) : Option (Unit × k_S) := k_gd (s1) 5 (k_bn (k_sa σ 14 (s1) (s2)) fun σ1 => k_bn (l2 + (nI 1)) fun v2 => kh10 σ1 v2)
set_option maxRecDepth 100000 in
set_option maxHeartbeats 4000000 in
theorem kX0_tallsAsChosen_c50 {X : k_C} {q : Nat → Nat} (kh10 : k_S → Int32 → Option (Unit × k_S)) (hk10 : ∀ (σ : k_S) (l2 : Int32), KO X YX0_tallsAsChosen (cT (k_I X) q) 0 0 (k_Q k_ev X (cT (k_I X) q)) 10 [some (.ref (q 3)), some (.ref (q 4)), some (.int l2)] [] σ (kh10 σ l2)) (σ : k_S) (l2 s1 s2 : Int32) : KO X YX0_tallsAsChosen (cT (k_I X) q) 0 0 (k_Q k_ev X (cT (k_I X) q)) 50 [some (.ref (q 3)), some (.ref (q 4)), some (.int l2)] [.int s2, .int s1, .ref (q 21)] σ (fX0_tallsAsChosen_c50 kh10 σ l2 s1 s2) := by
  unfold fX0_tallsAsChosen_c50
  refine k_sT21 (pc := 50) dX0_tallsAsChosen_50 (fun σ1 => ?_)
  refine k_iinc2 (pc := 51) (w := (nI 1)) dX0_tallsAsChosen_51 rfl (by decide) (Nat.le_of_ble_eq_true rfl) (fun v2 => ?_)
  refine k_goto (pc := 54) 10 dX0_tallsAsChosen_54 (by decide) ?_
  exact hk10 σ1 v2
noncomputable def fX0_tallsAsChosen_c10 : Nat → k_S → Int32 → Option (Unit × k_S)
  | 0, _, _ => none
  | n + 1, σ, l2 => (if l2 < σ.1 3 then k_gd (l2) 5 (k_ob (fX0_hasTale σ (σ.2 10 (Int32.toNatClampNeg (l2)))) fun r1 σ2 => (if r1 = 0 then fX0_tallsAsChosen_c50 (fX0_tallsAsChosen_c10 n) σ2 l2 l2 ((nI 0)) else k_gd (l2) 5 (k_ob (fX0_tallOf σ2 (σ2.2 10 (Int32.toNatClampNeg (l2)))) fun r3 σ4 => fX0_tallsAsChosen_c50 (fX0_tallsAsChosen_c10 n) σ4 l2 l2 r3))) else some ((), σ))
theorem fX0_tallsAsChosen_c10_s (n : Nat) (σ : k_S) (l2 : Int32) : fX0_tallsAsChosen_c10 (n + 1) σ l2 = (if l2 < σ.1 3 then k_gd (l2) 5 (k_ob (fX0_hasTale σ (σ.2 10 (Int32.toNatClampNeg (l2)))) fun r1 σ2 => (if r1 = 0 then fX0_tallsAsChosen_c50 (fX0_tallsAsChosen_c10 n) σ2 l2 l2 ((nI 0)) else k_gd (l2) 5 (k_ob (fX0_tallOf σ2 (σ2.2 10 (Int32.toNatClampNeg (l2)))) fun r3 σ4 => fX0_tallsAsChosen_c50 (fX0_tallsAsChosen_c10 n) σ4 l2 l2 r3))) else some ((), σ)) := rfl
set_option maxRecDepth 100000 in
set_option maxHeartbeats 4000000 in
theorem kX0_tallsAsChosen_c10 {X : k_C} {q : Nat → Nat} : ∀ (n : Nat) (σ : k_S) (l2 : Int32), KO X YX0_tallsAsChosen (cT (k_I X) q) 0 0 (k_Q k_ev X (cT (k_I X) q)) 10 [some (.ref (q 3)), some (.ref (q 4)), some (.int l2)] [] σ (fX0_tallsAsChosen_c10 n σ l2) := by
  intro n
  induction n with
  | zero => intros; exact KO.nil
  | succ n ih =>
    intro σ l2
    rw [fX0_tallsAsChosen_c10_s]
    refine k_iload_n (pc := 10) dX0_tallsAsChosen_10 rfl ?_
    refine k_aload_n (pc := 11) dX0_tallsAsChosen_11 rfl ?_
    refine k_gTX0_guests (pc := 12) kwf_X0_45 rfl dX0_tallsAsChosen_12 ?_
    refine k_icmp_ge (pc := 15) 57 dX0_tallsAsChosen_15 (by decide) ?_ ?_
    · exact k_return (pc := 57) rfl dX0_tallsAsChosen_57
    · refine k_aload_n (pc := 18) dX0_tallsAsChosen_18 rfl ?_
      refine k_gTX3_of (pc := 19) kwf_X0_88 rfl dX0_tallsAsChosen_19 ?_
      refine k_iload_n (pc := 22) dX0_tallsAsChosen_22 rfl ?_
      refine k_aload_n (pc := 23) dX0_tallsAsChosen_23 rfl ?_
      refine k_aload_n (pc := 24) dX0_tallsAsChosen_24 rfl ?_
      refine k_gTX0_chosen (pc := 25) kwf_X0_27 rfl dX0_tallsAsChosen_25 ?_
      refine k_iload_n (pc := 28) dX0_tallsAsChosen_28 rfl ?_
      refine k_lT17 (pc := 29) dX0_tallsAsChosen_29 ?_
      refine k_vi1 (pc := 30) (cT_same _ _) ckX0_hasTale kwm_X0_91 cT_rv3 ⟨rfl, rfl⟩ ⟨Nat.le_of_ble_eq_true rfl, Nat.le_of_ble_eq_true rfl⟩ ⟨Nat.zero_le _, Nat.zero_le _⟩ (Nat.le_of_ble_eq_true rfl) dX0_tallsAsChosen_30 (fun _ _ hf => kX0_hasTale hf) (fun r1 σ2 => ?_)
      refine k_if_eq (pc := 33) 49 dX0_tallsAsChosen_33 (by decide) ?_ ?_
      · refine k_iconst (pc := 49) (v := (nI 0)) dX0_tallsAsChosen_49 (by decide) ?_
        exact kX0_tallsAsChosen_c50 (fX0_tallsAsChosen_c10 n) ih σ2 l2 l2 ((nI 0))
      · refine k_aload_n (pc := 36) dX0_tallsAsChosen_36 rfl ?_
        refine k_aload_n (pc := 37) dX0_tallsAsChosen_37 rfl ?_
        refine k_gTX0_chosen (pc := 38) kwf_X0_27 rfl dX0_tallsAsChosen_38 ?_
        refine k_iload_n (pc := 41) dX0_tallsAsChosen_41 rfl ?_
        refine k_lT17 (pc := 42) dX0_tallsAsChosen_42 ?_
        refine k_vi1 (pc := 43) (cT_same _ _) ckX0_tallOf kwm_X0_94 cT_rv3 ⟨rfl, rfl⟩ ⟨Nat.le_of_ble_eq_true rfl, Nat.le_of_ble_eq_true rfl⟩ ⟨Nat.zero_le _, Nat.zero_le _⟩ (Nat.le_of_ble_eq_true rfl) dX0_tallsAsChosen_43 (fun _ _ hf => kX0_tallOf hf) (fun r3 σ4 => ?_)
        refine k_goto (pc := 46) 50 dX0_tallsAsChosen_46 (by decide) ?_
        exact kX0_tallsAsChosen_c50 (fX0_tallsAsChosen_c10 n) ih σ4 l2 l2 r3
noncomputable def fX0_tallsAsChosen (σ : k_S) : Option (Unit × k_S) := k_bn (k_sf σ 7 (σ.1 3)) fun σ1 => k_bn ((nI 0)) fun v2 => fX0_tallsAsChosen_c10 k_F σ1 v2
set_option maxRecDepth 100000 in
set_option maxHeartbeats 4000000 in
theorem kX0_tallsAsChosen {D : va_G} {cI : ClassId} {q : Nat → Nat} {σ : k_S} {r : Unit} {τ : k_S} (h : fX0_tallsAsChosen σ = some (r, τ)) : k_Ct k_ev yX0_tallsAsChosen cX0_tallsAsChosen 3 none rmX0_tallsAsChosen (cT cI q) D cI [.ref (q 3), .ref (q 4)] σ r τ := by
  refine k_met (Y := YX0_tallsAsChosen) (cT_same _ _) (by decide) rfl (Nat.le_of_ble_eq_true rfl) (List.forall_mem_cons.mpr ⟨rfl, List.forall_mem_cons.mpr ⟨rfl, fun _ h => absurd h List.not_mem_nil⟩⟩) (fun X hD hI => ?_) h
  subst hD hI
  show KO X YX0_tallsAsChosen (cT (k_I X) q) 0 0 (k_Q k_ev X (cT (k_I X) q)) 0 [some (.ref (q 3)), some (.ref (q 4)), none] [] σ _
  unfold fX0_tallsAsChosen
  refine k_aload_n (pc := 0) dX0_tallsAsChosen_0 rfl ?_
  refine k_aload_n (pc := 1) dX0_tallsAsChosen_1 rfl ?_
  refine k_gTX0_guests (pc := 2) kwf_X0_45 rfl dX0_tallsAsChosen_2 ?_
  refine k_pTX3_guests (pc := 5) kwf_X0_85 rfl dX0_tallsAsChosen_5 (fun σ1 => ?_)
  refine k_iconst (pc := 8) (v := (nI 0)) dX0_tallsAsChosen_8 (by decide) ?_
  refine k_ist2 (pc := 9) dX0_tallsAsChosen_9 (Nat.le_of_ble_eq_true rfl) (fun v2 => ?_)
  exact kX0_tallsAsChosen_c10 k_F σ1 v2
-- TallTales$Talls.placeOf(II)I
theorem ckX3_placeOf : k_Vok yX3_placeOf cX3_placeOf 5 (some .int) 2 := ⟨kwk_X3_placeOf, kwi_X3_placeOf, kwv_X3_placeOf, kwn_X3, by decide, by decide +kernel⟩
abbrev rmX3_placeOf : Room := { frames := 0, cells := 0, slots := 0, locals := 0 }
abbrev YX3_placeOf : k_Y := (rmX3_placeOf, cX3_placeOf, 5, RX3, (some .int))
noncomputable def fX3_placeOf_c54 (kh5 : k_S → Int32 → Int32 → Int32 → Int32 → Option (Int32 × k_S)) (σ : k_S) (l1 l2 l3 l4 : Int32) : Option (Int32 × k_S) := k_bn (l4 + (nI 1)) fun v1 => kh5 σ l1 l2 l3 v1
set_option maxRecDepth 100000 in
set_option maxHeartbeats 4000000 in
theorem kX3_placeOf_c54 {X : k_C} {q : Nat → Nat} (kh5 : k_S → Int32 → Int32 → Int32 → Int32 → Option (Int32 × k_S)) (hk5 : ∀ (σ : k_S) (l1 l2 l3 l4 : Int32), KO X YX3_placeOf (cT (k_I X) q) 0 0 (k_Q k_ei X (cT (k_I X) q)) 5 [some (.ref (q 4)), some (.int l1), some (.int l2), some (.int l3), some (.int l4)] [] σ (kh5 σ l1 l2 l3 l4)) (σ : k_S) (l1 l2 l3 l4 : Int32) : KO X YX3_placeOf (cT (k_I X) q) 0 0 (k_Q k_ei X (cT (k_I X) q)) 54 [some (.ref (q 4)), some (.int l1), some (.int l2), some (.int l3), some (.int l4)] [] σ (fX3_placeOf_c54 kh5 σ l1 l2 l3 l4) := by
  unfold fX3_placeOf_c54
  refine k_iinc4 (pc := 54) (w := (nI 1)) dX3_placeOf_54 rfl (by decide) (Nat.le_of_ble_eq_true rfl) (fun v1 => ?_)
  refine k_goto (pc := 57) 5 dX3_placeOf_57 (by decide) ?_
  exact hk5 σ l1 l2 l3 v1
noncomputable def fX3_placeOf_c51 (kh5 : k_S → Int32 → Int32 → Int32 → Int32 → Option (Int32 × k_S)) (σ : k_S) (l1 l2 l3 l4 : Int32) : Option (Int32 × k_S) := k_bn (l3 + (nI 1)) fun v1 => fX3_placeOf_c54 kh5 σ l1 l2 v1 l4
set_option maxRecDepth 100000 in
set_option maxHeartbeats 4000000 in
theorem kX3_placeOf_c51 {X : k_C} {q : Nat → Nat} (kh5 : k_S → Int32 → Int32 → Int32 → Int32 → Option (Int32 × k_S)) (hk5 : ∀ (σ : k_S) (l1 l2 l3 l4 : Int32), KO X YX3_placeOf (cT (k_I X) q) 0 0 (k_Q k_ei X (cT (k_I X) q)) 5 [some (.ref (q 4)), some (.int l1), some (.int l2), some (.int l3), some (.int l4)] [] σ (kh5 σ l1 l2 l3 l4)) (σ : k_S) (l1 l2 l3 l4 : Int32) : KO X YX3_placeOf (cT (k_I X) q) 0 0 (k_Q k_ei X (cT (k_I X) q)) 51 [some (.ref (q 4)), some (.int l1), some (.int l2), some (.int l3), some (.int l4)] [] σ (fX3_placeOf_c51 kh5 σ l1 l2 l3 l4) := by
  unfold fX3_placeOf_c51
  refine k_iinc3 (pc := 51) (w := (nI 1)) dX3_placeOf_51 rfl (by decide) (Nat.le_of_ble_eq_true rfl) (fun v1 => ?_)
  exact kX3_placeOf_c54 kh5 hk5 σ l1 l2 v1 l4
noncomputable def fX3_placeOf_c5 : Nat → k_S → Int32 → Int32 → Int32 → Int32 → Option (Int32 × k_S)
  | 0, _, _, _, _, _ => none
  | n + 1, σ, l1, l2, l3, l4 => (if l4 < σ.1 7 then (if l4 = l1 then fX3_placeOf_c54 (fX3_placeOf_c5 n) σ l1 l2 l3 l4 else k_gd (l4) 5 ((if l2 < σ.2 14 (Int32.toNatClampNeg (l4)) then fX3_placeOf_c51 (fX3_placeOf_c5 n) σ l1 l2 l3 l4 else k_gd (l4) 5 ((if σ.2 14 (Int32.toNatClampNeg (l4)) = l2 then (if l4 < l1 then fX3_placeOf_c51 (fX3_placeOf_c5 n) σ l1 l2 l3 l4 else fX3_placeOf_c54 (fX3_placeOf_c5 n) σ l1 l2 l3 l4) else fX3_placeOf_c54 (fX3_placeOf_c5 n) σ l1 l2 l3 l4))))) else some (l3, σ))
theorem fX3_placeOf_c5_s (n : Nat) (σ : k_S) (l1 l2 l3 l4 : Int32) : fX3_placeOf_c5 (n + 1) σ l1 l2 l3 l4 = (if l4 < σ.1 7 then (if l4 = l1 then fX3_placeOf_c54 (fX3_placeOf_c5 n) σ l1 l2 l3 l4 else k_gd (l4) 5 ((if l2 < σ.2 14 (Int32.toNatClampNeg (l4)) then fX3_placeOf_c51 (fX3_placeOf_c5 n) σ l1 l2 l3 l4 else k_gd (l4) 5 ((if σ.2 14 (Int32.toNatClampNeg (l4)) = l2 then (if l4 < l1 then fX3_placeOf_c51 (fX3_placeOf_c5 n) σ l1 l2 l3 l4 else fX3_placeOf_c54 (fX3_placeOf_c5 n) σ l1 l2 l3 l4) else fX3_placeOf_c54 (fX3_placeOf_c5 n) σ l1 l2 l3 l4))))) else some (l3, σ)) := rfl
set_option maxRecDepth 100000 in
set_option maxHeartbeats 4000000 in
theorem kX3_placeOf_c5 {X : k_C} {q : Nat → Nat} : ∀ (n : Nat) (σ : k_S) (l1 l2 l3 l4 : Int32), KO X YX3_placeOf (cT (k_I X) q) 0 0 (k_Q k_ei X (cT (k_I X) q)) 5 [some (.ref (q 4)), some (.int l1), some (.int l2), some (.int l3), some (.int l4)] [] σ (fX3_placeOf_c5 n σ l1 l2 l3 l4) := by
  intro n
  induction n with
  | zero => intros; exact KO.nil
  | succ n ih =>
    intro σ l1 l2 l3 l4
    rw [fX3_placeOf_c5_s]
    refine k_iload (pc := 5) dX3_placeOf_5 rfl ?_
    refine k_aload_n (pc := 7) dX3_placeOf_7 rfl ?_
    refine k_gTX3_guests (pc := 8) kwf_X3_15 rfl dX3_placeOf_8 ?_
    refine k_icmp_ge (pc := 11) 60 dX3_placeOf_11 (by decide) ?_ ?_
    · refine k_iload_n (pc := 60) dX3_placeOf_60 rfl ?_
      exact k_ireturn (pc := 61) rfl dX3_placeOf_61
    · refine k_iload (pc := 14) dX3_placeOf_14 rfl ?_
      refine k_iload_n (pc := 16) dX3_placeOf_16 rfl ?_
      refine k_icmp_ne (pc := 17) 23 dX3_placeOf_17 (by decide) ?_ ?_
      · refine k_aload_n (pc := 23) dX3_placeOf_23 rfl ?_
        refine k_gTX3_of (pc := 24) kwf_X3_9 rfl dX3_placeOf_24 ?_
        refine k_iload (pc := 27) dX3_placeOf_27 rfl ?_
        refine k_lT21 (pc := 29) dX3_placeOf_29 ?_
        refine k_iload_n (pc := 30) dX3_placeOf_30 rfl ?_
        refine k_icmp_gt (pc := 31) 51 dX3_placeOf_31 (by decide) ?_ ?_
        · exact kX3_placeOf_c51 (fX3_placeOf_c5 n) ih σ l1 l2 l3 l4
        · refine k_aload_n (pc := 34) dX3_placeOf_34 rfl ?_
          refine k_gTX3_of (pc := 35) kwf_X3_9 rfl dX3_placeOf_35 ?_
          refine k_iload (pc := 38) dX3_placeOf_38 rfl ?_
          refine k_lT21 (pc := 40) dX3_placeOf_40 ?_
          refine k_iload_n (pc := 41) dX3_placeOf_41 rfl ?_
          refine k_icmp_ne (pc := 42) 54 dX3_placeOf_42 (by decide) ?_ ?_
          · exact kX3_placeOf_c54 (fX3_placeOf_c5 n) ih σ l1 l2 l3 l4
          · refine k_iload (pc := 45) dX3_placeOf_45 rfl ?_
            refine k_iload_n (pc := 47) dX3_placeOf_47 rfl ?_
            refine k_icmp_ge (pc := 48) 54 dX3_placeOf_48 (by decide) ?_ ?_
            · exact kX3_placeOf_c54 (fX3_placeOf_c5 n) ih σ l1 l2 l3 l4
            · exact kX3_placeOf_c51 (fX3_placeOf_c5 n) ih σ l1 l2 l3 l4
      · refine k_goto (pc := 20) 54 dX3_placeOf_20 (by decide) ?_
        exact kX3_placeOf_c54 (fX3_placeOf_c5 n) ih σ l1 l2 l3 l4
noncomputable def fX3_placeOf (σ : k_S) (x1 x2 : Int32) : Option (Int32 × k_S) := k_bn ((nI 0)) fun v1 => k_bn ((nI 0)) fun v2 => fX3_placeOf_c5 k_F σ x1 x2 v1 v2
set_option maxRecDepth 100000 in
set_option maxHeartbeats 4000000 in
theorem kX3_placeOf {D : va_G} {cI : ClassId} {q : Nat → Nat} {σ : k_S} {x1 x2 : Int32} {r : Int32} {τ : k_S} (h : fX3_placeOf σ x1 x2 = some (r, τ)) : k_Ct k_ei yX3_placeOf cX3_placeOf 5 (some .int) rmX3_placeOf (cT cI q) D cI [.ref (q 4), .int x1, .int x2] σ r τ := by
  refine k_met (Y := YX3_placeOf) (cT_same _ _) (by decide) rfl (Nat.le_of_ble_eq_true rfl) (List.forall_mem_cons.mpr ⟨rfl, List.forall_mem_cons.mpr ⟨rfl, List.forall_mem_cons.mpr ⟨rfl, fun _ h => absurd h List.not_mem_nil⟩⟩⟩) (fun X hD hI => ?_) h
  subst hD hI
  show KO X YX3_placeOf (cT (k_I X) q) 0 0 (k_Q k_ei X (cT (k_I X) q)) 0 [some (.ref (q 4)), some (.int x1), some (.int x2), none, none] [] σ _
  unfold fX3_placeOf
  refine k_iconst (pc := 0) (v := (nI 0)) dX3_placeOf_0 (by decide) ?_
  refine k_ist3 (pc := 1) dX3_placeOf_1 (Nat.le_of_ble_eq_true rfl) (fun v1 => ?_)
  refine k_iconst (pc := 2) (v := (nI 0)) dX3_placeOf_2 (by decide) ?_
  refine k_ist4 (pc := 3) dX3_placeOf_3 (Nat.le_of_ble_eq_true rfl) (fun v2 => ?_)
  exact kX3_placeOf_c5 k_F σ x1 x2 v1 v2
-- TallTales$House.goBy(LTallTales$Talls;)I
theorem ckX0_goBy : k_Vok yX0_goBy cX0_goBy 5 (some .int) 1 := ⟨kwk_X0_goBy, kwi_X0_goBy, kwv_X0_goBy, kwn_X0, by decide, by decide +kernel⟩
abbrev rmX0_goBy : Room := { frames := 2, cells := 0, slots := 0, locals := 60 }
abbrev YX0_goBy : k_Y := (rmX0_goBy, cX0_goBy, 5, RX0, (some .int))
noncomputable def fX0_goBy_c79 (kh5 : k_S → Int32 → Int32 → Option (Int32 × k_S)) (σ : k_S) (l2 l3 : Int32) : Option (Int32 × k_S) := k_bn (l3 + (nI 1)) fun v1 => kh5 σ l2 v1
set_option maxRecDepth 100000 in
set_option maxHeartbeats 4000000 in
theorem kX0_goBy_c79 {X : k_C} {q : Nat → Nat} (kh5 : k_S → Int32 → Int32 → Option (Int32 × k_S)) (hk5 : ∀ (σ : k_S) (l2 l3 : Int32), KO X YX0_goBy (cT (k_I X) q) 0 0 (k_Q k_ei X (cT (k_I X) q)) 5 [some (.ref (q 3)), some (.ref (q 4)), some (.int l2), some (.int l3), none] [] σ (kh5 σ l2 l3)) (σ : k_S) (l2 l3 : Int32) : KO X YX0_goBy (cT (k_I X) q) 0 0 (k_Q k_ei X (cT (k_I X) q)) 79 [some (.ref (q 3)), some (.ref (q 4)), some (.int l2), some (.int l3), none] [] σ (fX0_goBy_c79 kh5 σ l2 l3) := by
  unfold fX0_goBy_c79
  refine k_iinc3 (pc := 79) (w := (nI 1)) dX0_goBy_79 rfl (by decide) (Nat.le_of_ble_eq_true rfl) (fun v1 => ?_)
  refine k_goto (pc := 82) 5 dX0_goBy_82 (by decide) ?_
  exact hk5 σ l2 v1
noncomputable def fX0_goBy_c87 : Nat → k_S → Int32 → Int32 → Option (Int32 × k_S)
  | 0, _, _, _ => none
  | n + 1, σ, l2, l3 => (if l3 < σ.1 3 then k_gd (l3) 5 (k_ob (fX0_keepTold σ (σ.2 10 (Int32.toNatClampNeg (l3))) (σ.1 6)) fun r3 σ4 => k_bn (l3 + (nI 1)) fun v5 => fX0_goBy_c87 n σ4 l2 v5) else k_bn (k_sf σ 6 ((σ.1 6 + (nI 1)))) fun σ1 => k_bn (k_sA σ1 10 (k_fl (σ1.2 10) 0 5 ((k_ng 9)))) fun σ2 => some (l2, σ2))
theorem fX0_goBy_c87_s (n : Nat) (σ : k_S) (l2 l3 : Int32) : fX0_goBy_c87 (n + 1) σ l2 l3 = (if l3 < σ.1 3 then k_gd (l3) 5 (k_ob (fX0_keepTold σ (σ.2 10 (Int32.toNatClampNeg (l3))) (σ.1 6)) fun r3 σ4 => k_bn (l3 + (nI 1)) fun v5 => fX0_goBy_c87 n σ4 l2 v5) else k_bn (k_sf σ 6 ((σ.1 6 + (nI 1)))) fun σ1 => k_bn (k_sA σ1 10 (k_fl (σ1.2 10) 0 5 ((k_ng 9)))) fun σ2 => some (l2, σ2)) := rfl
set_option maxRecDepth 100000 in
set_option maxHeartbeats 4000000 in
theorem kX0_goBy_c87 {X : k_C} {q : Nat → Nat} : ∀ (n : Nat) (σ : k_S) (l2 l3 : Int32), KO X YX0_goBy (cT (k_I X) q) 0 0 (k_Q k_ei X (cT (k_I X) q)) 87 [some (.ref (q 3)), some (.ref (q 4)), some (.int l2), some (.int l3), none] [] σ (fX0_goBy_c87 n σ l2 l3) := by
  intro n
  induction n with
  | zero => intros; exact KO.nil
  | succ n ih =>
    intro σ l2 l3
    rw [fX0_goBy_c87_s]
    refine k_iload_n (pc := 87) dX0_goBy_87 rfl ?_
    refine k_aload_n (pc := 88) dX0_goBy_88 rfl ?_
    refine k_gTX0_guests (pc := 89) kwf_X0_45 rfl dX0_goBy_89 ?_
    refine k_icmp_ge (pc := 92) 115 dX0_goBy_92 (by decide) ?_ ?_
    · refine k_aload_n (pc := 115) dX0_goBy_115 rfl ?_
      refine k_dup (pc := 116) dX0_goBy_116 rfl ?_
      refine k_gTX0_nights (pc := 117) kwf_X0_66 rfl dX0_goBy_117 ?_
      refine k_iconst (pc := 120) (v := (nI 1)) dX0_goBy_120 (by decide) ?_
      refine k_iadd (pc := 121) dX0_goBy_121 ?_
      refine k_pTX0_nights (pc := 122) kwf_X0_66 rfl dX0_goBy_122 (fun σ1 => ?_)
      refine k_aload_n (pc := 125) dX0_goBy_125 rfl ?_
      refine k_gTX0_chosen (pc := 126) kwf_X0_27 rfl dX0_goBy_126 ?_
      refine k_bipush (pc := 129) (v := (k_ng 9)) dX0_goBy_129 (by decide) ?_
      refine k_fT2_17 (pc := 131) kwm_X0_104 ⟨Nat.le_of_ble_eq_true rfl, Nat.le_of_ble_eq_true rfl⟩ dX0_goBy_131 (fun σ2 => ?_)
      refine k_iload_n (pc := 134) dX0_goBy_134 rfl ?_
      exact k_ireturn (pc := 135) rfl dX0_goBy_135
    · refine k_aload_n (pc := 95) dX0_goBy_95 rfl ?_
      refine k_aload_n (pc := 96) dX0_goBy_96 rfl ?_
      refine k_gTX0_chosen (pc := 97) kwf_X0_27 rfl dX0_goBy_97 ?_
      refine k_iload_n (pc := 100) dX0_goBy_100 rfl ?_
      refine k_lT17 (pc := 101) dX0_goBy_101 ?_
      refine k_aload_n (pc := 102) dX0_goBy_102 rfl ?_
      refine k_gTX0_nights (pc := 103) kwf_X0_66 rfl dX0_goBy_103 ?_
      refine k_vv2 (pc := 106) (cT_same _ _) ckX0_keepTold kwm_X0_100 cT_rv3 ⟨rfl, rfl⟩ ⟨Nat.le_of_ble_eq_true rfl, Nat.le_of_ble_eq_true rfl⟩ ⟨Nat.zero_le _, Nat.zero_le _⟩ (Nat.le_of_ble_eq_true rfl) dX0_goBy_106 (fun _ _ hf => kX0_keepTold hf) (fun r3 σ4 => ?_)
      refine k_iinc3 (pc := 109) (w := (nI 1)) dX0_goBy_109 rfl (by decide) (Nat.le_of_ble_eq_true rfl) (fun v5 => ?_)
      refine k_goto (pc := 112) 87 dX0_goBy_112 (by decide) ?_
      exact ih σ4 l2 v5
noncomputable def fX0_goBy_c5 : Nat → k_S → Int32 → Int32 → Option (Int32 × k_S)
  | 0, _, _, _ => none
  | n + 1, σ, l2, l3 => (if l3 < σ.1 3 then k_bn (((σ.1 6 * (nI 5)) + l3)) fun v2 => k_gd (l3) 5 (k_gd (v2) 300 (k_bn (k_sa σ 11 (v2) (σ.2 10 (Int32.toNatClampNeg (l3)))) fun σ3 => k_gd (l3) 5 (k_gd (v2) 300 (k_bn (k_sa σ3 13 (v2) (σ3.2 14 (Int32.toNatClampNeg (l3)))) fun σ4 => k_gd (l3) 5 (k_ob (fX3_placeOf σ4 l3 (σ4.2 14 (Int32.toNatClampNeg (l3)))) fun r5 σ6 => k_gd (v2) 300 (k_bn (k_sa σ6 12 (v2) (r5)) fun σ7 => k_gd (v2) 300 ((if σ7.2 12 (Int32.toNatClampNeg (v2)) = 0 then k_bn (l3) fun v8 => fX0_goBy_c79 (fX0_goBy_c5 n) σ7 v8 l3 else fX0_goBy_c79 (fX0_goBy_c5 n) σ7 l2 l3)))))))) else k_bn ((nI 0)) fun v1 => fX0_goBy_c87 k_F σ l2 v1)
theorem fX0_goBy_c5_s (n : Nat) (σ : k_S) (l2 l3 : Int32) : fX0_goBy_c5 (n + 1) σ l2 l3 = (if l3 < σ.1 3 then k_bn (((σ.1 6 * (nI 5)) + l3)) fun v2 => k_gd (l3) 5 (k_gd (v2) 300 (k_bn (k_sa σ 11 (v2) (σ.2 10 (Int32.toNatClampNeg (l3)))) fun σ3 => k_gd (l3) 5 (k_gd (v2) 300 (k_bn (k_sa σ3 13 (v2) (σ3.2 14 (Int32.toNatClampNeg (l3)))) fun σ4 => k_gd (l3) 5 (k_ob (fX3_placeOf σ4 l3 (σ4.2 14 (Int32.toNatClampNeg (l3)))) fun r5 σ6 => k_gd (v2) 300 (k_bn (k_sa σ6 12 (v2) (r5)) fun σ7 => k_gd (v2) 300 ((if σ7.2 12 (Int32.toNatClampNeg (v2)) = 0 then k_bn (l3) fun v8 => fX0_goBy_c79 (fX0_goBy_c5 n) σ7 v8 l3 else fX0_goBy_c79 (fX0_goBy_c5 n) σ7 l2 l3)))))))) else k_bn ((nI 0)) fun v1 => fX0_goBy_c87 k_F σ l2 v1) := rfl
set_option maxRecDepth 100000 in
set_option maxHeartbeats 4000000 in
theorem kX0_goBy_c5 {X : k_C} {q : Nat → Nat} : ∀ (n : Nat) (σ : k_S) (l2 l3 : Int32), KO X YX0_goBy (cT (k_I X) q) 0 0 (k_Q k_ei X (cT (k_I X) q)) 5 [some (.ref (q 3)), some (.ref (q 4)), some (.int l2), some (.int l3), none] [] σ (fX0_goBy_c5 n σ l2 l3) := by
  intro n
  induction n with
  | zero => intros; exact KO.nil
  | succ n ih =>
    intro σ l2 l3
    rw [fX0_goBy_c5_s]
    refine k_iload_n (pc := 5) dX0_goBy_5 rfl ?_
    refine k_aload_n (pc := 6) dX0_goBy_6 rfl ?_
    refine k_gTX0_guests (pc := 7) kwf_X0_45 rfl dX0_goBy_7 ?_
    refine k_icmp_ge (pc := 10) 85 dX0_goBy_10 (by decide) ?_ ?_
    · refine k_iconst (pc := 85) (v := (nI 0)) dX0_goBy_85 (by decide) ?_
      refine k_ist3 (pc := 86) dX0_goBy_86 (Nat.le_of_ble_eq_true rfl) (fun v1 => ?_)
      exact kX0_goBy_c87 k_F σ l2 v1
    · refine k_aload_n (pc := 13) dX0_goBy_13 rfl ?_
      refine k_gTX0_nights (pc := 14) kwf_X0_66 rfl dX0_goBy_14 ?_
      refine k_iconst (pc := 17) (v := (nI 5)) dX0_goBy_17 (by decide) ?_
      refine k_imul (pc := 18) dX0_goBy_18 ?_
      refine k_iload_n (pc := 19) dX0_goBy_19 rfl ?_
      refine k_iadd (pc := 20) dX0_goBy_20 ?_
      refine k_ist4 (pc := 21) dX0_goBy_21 (Nat.le_of_ble_eq_true rfl) (fun v2 => ?_)
      refine k_aload_n (pc := 23) dX0_goBy_23 rfl ?_
      refine k_gTX0_nightTale (pc := 24) kwf_X0_30 rfl dX0_goBy_24 ?_
      refine k_iload (pc := 27) dX0_goBy_27 rfl ?_
      refine k_aload_n (pc := 29) dX0_goBy_29 rfl ?_
      refine k_gTX0_chosen (pc := 30) kwf_X0_27 rfl dX0_goBy_30 ?_
      refine k_iload_n (pc := 33) dX0_goBy_33 rfl ?_
      refine k_lT17 (pc := 34) dX0_goBy_34 ?_
      refine k_sT18 (pc := 35) dX0_goBy_35 (fun σ3 => ?_)
      refine k_aload_n (pc := 36) dX0_goBy_36 rfl ?_
      refine k_gTX0_nightTall (pc := 37) kwf_X0_36 rfl dX0_goBy_37 ?_
      refine k_iload (pc := 40) dX0_goBy_40 rfl ?_
      refine k_aload_n (pc := 42) dX0_goBy_42 rfl ?_
      refine k_gTX3_of (pc := 43) kwf_X0_88 rfl dX0_goBy_43 ?_
      refine k_iload_n (pc := 46) dX0_goBy_46 rfl ?_
      refine k_lT21 (pc := 47) dX0_goBy_47 ?_
      refine k_sT20 (pc := 48) dX0_goBy_48 (fun σ4 => ?_)
      refine k_aload_n (pc := 49) dX0_goBy_49 rfl ?_
      refine k_gTX0_nightPlace (pc := 50) kwf_X0_33 rfl dX0_goBy_50 ?_
      refine k_iload (pc := 53) dX0_goBy_53 rfl ?_
      refine k_aload_n (pc := 55) dX0_goBy_55 rfl ?_
      refine k_iload_n (pc := 56) dX0_goBy_56 rfl ?_
      refine k_aload_n (pc := 57) dX0_goBy_57 rfl ?_
      refine k_gTX3_of (pc := 58) kwf_X0_88 rfl dX0_goBy_58 ?_
      refine k_iload_n (pc := 61) dX0_goBy_61 rfl ?_
      refine k_lT21 (pc := 62) dX0_goBy_62 ?_
      refine k_vi2 (pc := 63) (cT_same _ _) ckX3_placeOf kwm_X0_97 cT_rv4 ⟨rfl, rfl⟩ ⟨Nat.le_of_ble_eq_true rfl, Nat.le_of_ble_eq_true rfl⟩ ⟨Nat.zero_le _, Nat.zero_le _⟩ (Nat.le_of_ble_eq_true rfl) dX0_goBy_63 (fun _ _ hf => kX3_placeOf hf) (fun r5 σ6 => ?_)
      refine k_sT19 (pc := 66) dX0_goBy_66 (fun σ7 => ?_)
      refine k_aload_n (pc := 67) dX0_goBy_67 rfl ?_
      refine k_gTX0_nightPlace (pc := 68) kwf_X0_33 rfl dX0_goBy_68 ?_
      refine k_iload (pc := 71) dX0_goBy_71 rfl ?_
      refine k_lT19 (pc := 73) dX0_goBy_73 ?_
      refine k_if_ne (pc := 74) 79 dX0_goBy_74 (by decide) ?_ ?_
      · refine k_fg4 ?_
        exact kX0_goBy_c79 (fX0_goBy_c5 n) ih σ7 l2 l3
      · refine k_iload_n (pc := 77) dX0_goBy_77 rfl ?_
        refine k_ist2 (pc := 78) dX0_goBy_78 (Nat.le_of_ble_eq_true rfl) (fun v8 => ?_)
        refine k_fg4 ?_
        exact kX0_goBy_c79 (fX0_goBy_c5 n) ih σ7 v8 l3
noncomputable def fX0_goBy (σ : k_S) : Option (Int32 × k_S) := k_bn ((k_ng 9)) fun v1 => k_bn ((nI 0)) fun v2 => fX0_goBy_c5 k_F σ v1 v2
set_option maxRecDepth 100000 in
set_option maxHeartbeats 4000000 in
theorem kX0_goBy {D : va_G} {cI : ClassId} {q : Nat → Nat} {σ : k_S} {r : Int32} {τ : k_S} (h : fX0_goBy σ = some (r, τ)) : k_Ct k_ei yX0_goBy cX0_goBy 5 (some .int) rmX0_goBy (cT cI q) D cI [.ref (q 3), .ref (q 4)] σ r τ := by
  refine k_met (Y := YX0_goBy) (cT_same _ _) (by decide) rfl (Nat.le_of_ble_eq_true rfl) (List.forall_mem_cons.mpr ⟨rfl, List.forall_mem_cons.mpr ⟨rfl, fun _ h => absurd h List.not_mem_nil⟩⟩) (fun X hD hI => ?_) h
  subst hD hI
  show KO X YX0_goBy (cT (k_I X) q) 0 0 (k_Q k_ei X (cT (k_I X) q)) 0 [some (.ref (q 3)), some (.ref (q 4)), none, none, none] [] σ _
  unfold fX0_goBy
  refine k_bipush (pc := 0) (v := (k_ng 9)) dX0_goBy_0 (by decide) ?_
  refine k_ist2 (pc := 2) dX0_goBy_2 (Nat.le_of_ble_eq_true rfl) (fun v1 => ?_)
  refine k_iconst (pc := 3) (v := (nI 0)) dX0_goBy_3 (by decide) ?_
  refine k_ist3 (pc := 4) dX0_goBy_4 (Nat.le_of_ble_eq_true rfl) (fun v2 => ?_)
  exact kX0_goBy_c5 k_F σ v1 v2
-- TallTales.night()I
theorem ckX6_night : k_Vok yX6_night cX6_night 1 (some .int) 0 := ⟨kwk_X6_night, kwi_X6_night, kwv_X6_night, kwn_X6, by decide, by decide +kernel⟩
abbrev rmX6_night : Room := { frames := 3, cells := 0, slots := 0, locals := 84 }
abbrev YX6_night : k_Y := (rmX6_night, cX6_night, 1, RX6, (some .int))
noncomputable def fX6_night (σ : k_S) : Option (Int32 × k_S) := k_ob (fX0_isOpen σ) fun r1 σ2 => (if r1 = 0 then some ((k_ng 3), σ2) else (if σ2.1 6 < (nI 60) then k_ob (fX0_tallsAsChosen σ2) fun r3 σ4 => k_ob (fX0_goBy σ4) fun r5 σ6 => some (r5, σ6) else some ((k_ng 4), σ2)))
set_option maxRecDepth 100000 in
set_option maxHeartbeats 4000000 in
theorem kX6_night {D : va_G} {cI : ClassId} {q : Nat → Nat} {σ : k_S} {r : Int32} {τ : k_S} (h : fX6_night σ = some (r, τ)) : k_Ct k_ei yX6_night cX6_night 1 (some .int) rmX6_night (cT cI q) D cI [.ref (q 0)] σ r τ := by
  refine k_met (Y := YX6_night) (cT_same _ _) (by decide) rfl (Nat.le_of_ble_eq_true rfl) (List.forall_mem_cons.mpr ⟨rfl, fun _ h => absurd h List.not_mem_nil⟩) (fun X hD hI => ?_) h
  subst hD hI
  show KO X YX6_night (cT (k_I X) q) 0 0 (k_Q k_ei X (cT (k_I X) q)) 0 [some (.ref (q 0))] [] σ _
  unfold fX6_night
  refine k_aload_n (pc := 0) dX6_night_0 rfl ?_
  refine k_gTX6_house (pc := 1) kwf_X6_28 rfl dX6_night_1 ?_
  refine k_vi0 (pc := 4) (cT_same _ _) ckX0_isOpen kwm_X6_125 cT_rv3 ⟨rfl, rfl⟩ ⟨Nat.le_of_ble_eq_true rfl, Nat.le_of_ble_eq_true rfl⟩ ⟨Nat.zero_le _, Nat.zero_le _⟩ (Nat.le_of_ble_eq_true rfl) dX6_night_4 (fun _ _ hf => kX0_isOpen hf) (fun r1 σ2 => ?_)
  refine k_if_ne (pc := 7) 13 dX6_night_7 (by decide) ?_ ?_
  · refine k_aload_n (pc := 13) dX6_night_13 rfl ?_
    refine k_gTX6_house (pc := 14) kwf_X6_28 rfl dX6_night_14 ?_
    refine k_gTX0_nights (pc := 17) kwf_X6_138 rfl dX6_night_17 ?_
    refine k_bipush (pc := 20) (v := (nI 60)) dX6_night_20 (by decide) ?_
    refine k_icmp_lt (pc := 22) 28 dX6_night_22 (by decide) ?_ ?_
    · refine k_aload_n (pc := 28) dX6_night_28 rfl ?_
      refine k_gTX6_house (pc := 29) kwf_X6_28 rfl dX6_night_29 ?_
      refine k_aload_n (pc := 32) dX6_night_32 rfl ?_
      refine k_gTX6_talls (pc := 33) kwf_X6_35 rfl dX6_night_33 ?_
      refine k_vv1 (pc := 36) (cT_same _ _) ckX0_tallsAsChosen kwm_X6_141 cT_rv3 ⟨rfl, rfl⟩ ⟨Nat.le_of_ble_eq_true rfl, Nat.le_of_ble_eq_true rfl⟩ ⟨Nat.zero_le _, Nat.zero_le _⟩ (Nat.le_of_ble_eq_true rfl) dX6_night_36 (fun _ _ hf => kX0_tallsAsChosen hf) (fun r3 σ4 => ?_)
      refine k_aload_n (pc := 39) dX6_night_39 rfl ?_
      refine k_gTX6_house (pc := 40) kwf_X6_28 rfl dX6_night_40 ?_
      refine k_aload_n (pc := 43) dX6_night_43 rfl ?_
      refine k_gTX6_talls (pc := 44) kwf_X6_35 rfl dX6_night_44 ?_
      refine k_vi1 (pc := 47) (cT_same _ _) ckX0_goBy kwm_X6_145 cT_rv3 ⟨rfl, rfl⟩ ⟨Nat.le_of_ble_eq_true rfl, Nat.le_of_ble_eq_true rfl⟩ ⟨Nat.zero_le _, Nat.zero_le _⟩ (Nat.le_of_ble_eq_true rfl) dX6_night_47 (fun _ _ hf => kX0_goBy hf) (fun r5 σ6 => ?_)
      exact k_ireturn (pc := 50) rfl dX6_night_50
    · refine k_bipush (pc := 25) (v := (k_ng 4)) dX6_night_25 (by decide) ?_
      exact k_ireturn (pc := 27) rfl dX6_night_27
  · refine k_bipush (pc := 10) (v := (k_ng 3)) dX6_night_10 (by decide) ?_
    exact k_ireturn (pc := 12) rfl dX6_night_12
-- TallTales$House.hasNight(I)Z
theorem ckX0_hasNight : k_Vok yX0_hasNight cX0_hasNight 2 (some .boolean) 1 := ⟨kwk_X0_hasNight, kwi_X0_hasNight, kwv_X0_hasNight, kwn_X0, by decide, by decide +kernel⟩
abbrev rmX0_hasNight : Room := { frames := 0, cells := 0, slots := 0, locals := 0 }
abbrev YX0_hasNight : k_Y := (rmX0_hasNight, cX0_hasNight, 2, RX0, (some .boolean))
noncomputable def fX0_hasNight (σ : k_S) (x1 : Int32) : Option (Int32 × k_S) := (if x1 < 0 then k_z ((nI 0)) (some ((nI 0), σ)) else (if x1 < σ.1 6 then k_z ((nI 1)) (some ((nI 1), σ)) else k_z ((nI 0)) (some ((nI 0), σ))))
set_option maxRecDepth 100000 in
set_option maxHeartbeats 4000000 in
theorem kX0_hasNight {D : va_G} {cI : ClassId} {q : Nat → Nat} {σ : k_S} {x1 : Int32} {r : Int32} {τ : k_S} (h : fX0_hasNight σ x1 = some (r, τ)) : k_Ct k_ei yX0_hasNight cX0_hasNight 2 (some .boolean) rmX0_hasNight (cT cI q) D cI [.ref (q 3), .int x1] σ r τ := by
  refine k_met (Y := YX0_hasNight) (cT_same _ _) (by decide) rfl (Nat.le_of_ble_eq_true rfl) (List.forall_mem_cons.mpr ⟨rfl, List.forall_mem_cons.mpr ⟨rfl, fun _ h => absurd h List.not_mem_nil⟩⟩) (fun X hD hI => ?_) h
  subst hD hI
  show KO X YX0_hasNight (cT (k_I X) q) 0 0 (k_Q k_ei X (cT (k_I X) q)) 0 [some (.ref (q 3)), some (.int x1)] [] σ _
  unfold fX0_hasNight
  refine k_iload_n (pc := 0) dX0_hasNight_0 rfl ?_
  refine k_if_lt (pc := 1) 16 dX0_hasNight_1 (by decide) ?_ ?_
  · refine k_iconst (pc := 16) (v := (nI 0)) dX0_hasNight_16 (by decide) ?_
    exact k_zreturn (pc := 17) rfl dX0_hasNight_17
  · refine k_iload_n (pc := 4) dX0_hasNight_4 rfl ?_
    refine k_aload_n (pc := 5) dX0_hasNight_5 rfl ?_
    refine k_gTX0_nights (pc := 6) kwf_X0_66 rfl dX0_hasNight_6 ?_
    refine k_icmp_ge (pc := 9) 16 dX0_hasNight_9 (by decide) ?_ ?_
    · refine k_iconst (pc := 16) (v := (nI 0)) dX0_hasNight_16 (by decide) ?_
      exact k_zreturn (pc := 17) rfl dX0_hasNight_17
    · refine k_iconst (pc := 12) (v := (nI 1)) dX0_hasNight_12 (by decide) ?_
      refine k_goto (pc := 13) 17 dX0_hasNight_13 (by decide) ?_
      exact k_zreturn (pc := 17) rfl dX0_hasNight_17
-- TallTales.ofNight(III)I
theorem ckX6_ofNight : k_Vok yX6_ofNight cX6_ofNight 5 (some .int) 3 := ⟨kwk_X6_ofNight, kwi_X6_ofNight, kwv_X6_ofNight, kwn_X6, by decide, by decide +kernel⟩
abbrev rmX6_ofNight : Room := { frames := 1, cells := 0, slots := 0, locals := 21 }
abbrev YX6_ofNight : k_Y := (rmX6_ofNight, cX6_ofNight, 5, RX6, (some .int))
noncomputable def fX6_ofNight (σ : k_S) (x1 x2 x3 : Int32) : Option (Int32 × k_S) := k_ob (fX0_hasNight σ x1) fun r1 σ2 => (if r1 = 0 then some ((k_ng 1), σ2) else k_ob (fX0_hasGuest σ2 x2) fun r3 σ4 => (if r3 = 0 then some ((k_ng 1), σ4) else k_bn (((x1 * (nI 5)) + x2)) fun v5 => (if x3 = (nI 0) then k_gd (v5) 300 (some (σ4.2 11 (Int32.toNatClampNeg (v5)), σ4)) else (if x3 = (nI 1) then k_gd (v5) 300 (some (σ4.2 12 (Int32.toNatClampNeg (v5)), σ4)) else (if x3 = (nI 2) then k_gd (v5) 300 (some (σ4.2 13 (Int32.toNatClampNeg (v5)), σ4)) else some ((k_ng 2), σ4))))))
set_option maxRecDepth 100000 in
set_option maxHeartbeats 4000000 in
theorem kX6_ofNight {D : va_G} {cI : ClassId} {q : Nat → Nat} {σ : k_S} {x1 x2 x3 : Int32} {r : Int32} {τ : k_S} (h : fX6_ofNight σ x1 x2 x3 = some (r, τ)) : k_Ct k_ei yX6_ofNight cX6_ofNight 5 (some .int) rmX6_ofNight (cT cI q) D cI [.ref (q 0), .int x1, .int x2, .int x3] σ r τ := by
  refine k_met (Y := YX6_ofNight) (cT_same _ _) (by decide) rfl (Nat.le_of_ble_eq_true rfl) (List.forall_mem_cons.mpr ⟨rfl, List.forall_mem_cons.mpr ⟨rfl, List.forall_mem_cons.mpr ⟨rfl, List.forall_mem_cons.mpr ⟨rfl, fun _ h => absurd h List.not_mem_nil⟩⟩⟩⟩) (fun X hD hI => ?_) h
  subst hD hI
  show KO X YX6_ofNight (cT (k_I X) q) 0 0 (k_Q k_ei X (cT (k_I X) q)) 0 [some (.ref (q 0)), some (.int x1), some (.int x2), some (.int x3), none] [] σ _
  unfold fX6_ofNight
  refine k_aload_n (pc := 0) dX6_ofNight_0 rfl ?_
  refine k_gTX6_house (pc := 1) kwf_X6_28 rfl dX6_ofNight_1 ?_
  refine k_iload_n (pc := 4) dX6_ofNight_4 rfl ?_
  refine k_vi1 (pc := 5) (cT_same _ _) ckX0_hasNight kwm_X6_149 cT_rv3 ⟨rfl, rfl⟩ ⟨Nat.le_of_ble_eq_true rfl, Nat.le_of_ble_eq_true rfl⟩ ⟨Nat.zero_le _, Nat.zero_le _⟩ (Nat.le_of_ble_eq_true rfl) dX6_ofNight_5 (fun _ _ hf => kX0_hasNight hf) (fun r1 σ2 => ?_)
  refine k_if_eq (pc := 8) 22 dX6_ofNight_8 (by decide) ?_ ?_
  · refine k_iconst (pc := 22) (v := (k_ng 1)) dX6_ofNight_22 (by decide) ?_
    exact k_ireturn (pc := 23) rfl dX6_ofNight_23
  · refine k_aload_n (pc := 11) dX6_ofNight_11 rfl ?_
    refine k_gTX6_house (pc := 12) kwf_X6_28 rfl dX6_ofNight_12 ?_
    refine k_iload_n (pc := 15) dX6_ofNight_15 rfl ?_
    refine k_vi1 (pc := 16) (cT_same _ _) ckX0_hasGuest kwm_X6_132 cT_rv3 ⟨rfl, rfl⟩ ⟨Nat.le_of_ble_eq_true rfl, Nat.le_of_ble_eq_true rfl⟩ ⟨Nat.zero_le _, Nat.zero_le _⟩ (Nat.le_of_ble_eq_true rfl) dX6_ofNight_16 (fun _ _ hf => kX0_hasGuest hf) (fun r3 σ4 => ?_)
    refine k_if_ne (pc := 19) 24 dX6_ofNight_19 (by decide) ?_ ?_
    · refine k_iload_n (pc := 24) dX6_ofNight_24 rfl ?_
      refine k_iconst (pc := 25) (v := (nI 5)) dX6_ofNight_25 (by decide) ?_
      refine k_imul (pc := 26) dX6_ofNight_26 ?_
      refine k_iload_n (pc := 27) dX6_ofNight_27 rfl ?_
      refine k_iadd (pc := 28) dX6_ofNight_28 ?_
      refine k_ist4 (pc := 29) dX6_ofNight_29 (Nat.le_of_ble_eq_true rfl) (fun v5 => ?_)
      refine k_iload_n (pc := 31) dX6_ofNight_31 rfl ?_
      refine KO.ite (c := x3 = (nI 0)) (fun hs6_0 => ?_) (fun hs6_0 => ?_)
      · refine k_tableIn (off := 28) (pc := 32) 60 dX6_ofNight_32 hs6_0 (by decide) (by decide) (by decide) (by decide) ?_
        refine k_aload_n (pc := 60) dX6_ofNight_60 rfl ?_
        refine k_gTX6_house (pc := 61) kwf_X6_28 rfl dX6_ofNight_61 ?_
        refine k_gTX0_nightTale (pc := 64) kwf_X6_152 rfl dX6_ofNight_64 ?_
        refine k_iload (pc := 67) dX6_ofNight_67 rfl ?_
        refine k_lT18 (pc := 69) dX6_ofNight_69 ?_
        exact k_ireturn (pc := 70) rfl dX6_ofNight_70
      · refine KO.ite (c := x3 = (nI 1)) (fun hs6_1 => ?_) (fun hs6_1 => ?_)
        · refine k_tableIn (off := 39) (pc := 32) 71 dX6_ofNight_32 hs6_1 (by decide) (by decide) (by decide) (by decide) ?_
          refine k_aload_n (pc := 71) dX6_ofNight_71 rfl ?_
          refine k_gTX6_house (pc := 72) kwf_X6_28 rfl dX6_ofNight_72 ?_
          refine k_gTX0_nightPlace (pc := 75) kwf_X6_155 rfl dX6_ofNight_75 ?_
          refine k_iload (pc := 78) dX6_ofNight_78 rfl ?_
          refine k_lT19 (pc := 80) dX6_ofNight_80 ?_
          exact k_ireturn (pc := 81) rfl dX6_ofNight_81
        · refine KO.ite (c := x3 = (nI 2)) (fun hs6_2 => ?_) (fun hs6_2 => ?_)
          · refine k_tableIn (off := 50) (pc := 32) 82 dX6_ofNight_32 hs6_2 (by decide) (by decide) (by decide) (by decide) ?_
            refine k_aload_n (pc := 82) dX6_ofNight_82 rfl ?_
            refine k_gTX6_house (pc := 83) kwf_X6_28 rfl dX6_ofNight_83 ?_
            refine k_gTX0_nightTall (pc := 86) kwf_X6_158 rfl dX6_ofNight_86 ?_
            refine k_iload (pc := 89) dX6_ofNight_89 rfl ?_
            refine k_lT20 (pc := 91) dX6_ofNight_91 ?_
            exact k_ireturn (pc := 92) rfl dX6_ofNight_92
          · refine k_tableOut (pc := 32) 93 dX6_ofNight_32 (by have g0 := lv_neT (a := 0) hs6_0 (by decide); have g1 := lv_neT (a := 1) hs6_1 (by decide); have g2 := lv_neT (a := 2) hs6_2 (by decide); omega) (by decide) ?_
            refine k_bipush (pc := 93) (v := (k_ng 2)) dX6_ofNight_93 (by decide) ?_
            exact k_ireturn (pc := 95) rfl dX6_ofNight_95
    · refine k_iconst (pc := 22) (v := (k_ng 1)) dX6_ofNight_22 (by decide) ?_
      exact k_ireturn (pc := 23) rfl dX6_ofNight_23
-- TallTales.undo(I)I
theorem ckX6_undo : k_Vok yX6_undo cX6_undo 2 (some .int) 1 := ⟨kwk_X6_undo, kwi_X6_undo, kwv_X6_undo, kwn_X6, by decide, by decide +kernel⟩
abbrev rmX6_undo : Room := { frames := 3, cells := 0, slots := 0, locals := 83 }
abbrev YX6_undo : k_Y := (rmX6_undo, cX6_undo, 2, RX6, (some .int))
noncomputable def fX6_undo (σ : k_S) (x1 : Int32) : Option (Int32 × k_S) := (if x1 < 0 then some ((k_ng 2), σ) else (if σ.1 6 < x1 then some ((k_ng 2), σ) else k_ob (fX0_goBack σ x1) fun r1 σ2 => some (σ2.1 6, σ2)))
set_option maxRecDepth 100000 in
set_option maxHeartbeats 4000000 in
theorem kX6_undo {D : va_G} {cI : ClassId} {q : Nat → Nat} {σ : k_S} {x1 : Int32} {r : Int32} {τ : k_S} (h : fX6_undo σ x1 = some (r, τ)) : k_Ct k_ei yX6_undo cX6_undo 2 (some .int) rmX6_undo (cT cI q) D cI [.ref (q 0), .int x1] σ r τ := by
  refine k_met (Y := YX6_undo) (cT_same _ _) (by decide) rfl (Nat.le_of_ble_eq_true rfl) (List.forall_mem_cons.mpr ⟨rfl, List.forall_mem_cons.mpr ⟨rfl, fun _ h => absurd h List.not_mem_nil⟩⟩) (fun X hD hI => ?_) h
  subst hD hI
  show KO X YX6_undo (cT (k_I X) q) 0 0 (k_Q k_ei X (cT (k_I X) q)) 0 [some (.ref (q 0)), some (.int x1)] [] σ _
  unfold fX6_undo
  refine k_iload_n (pc := 0) dX6_undo_0 rfl ?_
  refine k_if_lt (pc := 1) 15 dX6_undo_1 (by decide) ?_ ?_
  · refine k_bipush (pc := 15) (v := (k_ng 2)) dX6_undo_15 (by decide) ?_
    exact k_ireturn (pc := 17) rfl dX6_undo_17
  · refine k_iload_n (pc := 4) dX6_undo_4 rfl ?_
    refine k_aload_n (pc := 5) dX6_undo_5 rfl ?_
    refine k_gTX6_house (pc := 6) kwf_X6_28 rfl dX6_undo_6 ?_
    refine k_gTX0_nights (pc := 9) kwf_X6_138 rfl dX6_undo_9 ?_
    refine k_icmp_le (pc := 12) 18 dX6_undo_12 (by decide) ?_ ?_
    · refine k_aload_n (pc := 18) dX6_undo_18 rfl ?_
      refine k_gTX6_house (pc := 19) kwf_X6_28 rfl dX6_undo_19 ?_
      refine k_iload_n (pc := 22) dX6_undo_22 rfl ?_
      refine k_vv1 (pc := 23) (cT_same _ _) ckX0_goBack kwm_X6_161 cT_rv3 ⟨rfl, rfl⟩ ⟨Nat.le_of_ble_eq_true rfl, Nat.le_of_ble_eq_true rfl⟩ ⟨Nat.zero_le _, Nat.zero_le _⟩ (Nat.le_of_ble_eq_true rfl) dX6_undo_23 (fun _ _ hf => kX0_goBack hf) (fun r1 σ2 => ?_)
      refine k_aload_n (pc := 26) dX6_undo_26 rfl ?_
      refine k_gTX6_house (pc := 27) kwf_X6_28 rfl dX6_undo_27 ?_
      refine k_gTX0_nights (pc := 30) kwf_X6_138 rfl dX6_undo_30 ?_
      exact k_ireturn (pc := 33) rfl dX6_undo_33
    · refine k_bipush (pc := 15) (v := (k_ng 2)) dX6_undo_15 (by decide) ?_
      exact k_ireturn (pc := 17) rfl dX6_undo_17
-- TallTales$House.nightsAt(II)I
theorem ckX0_nightsAt : k_Vok yX0_nightsAt cX0_nightsAt 5 (some .int) 2 := ⟨kwk_X0_nightsAt, kwi_X0_nightsAt, kwv_X0_nightsAt, kwn_X0, by decide, by decide +kernel⟩
abbrev rmX0_nightsAt : Room := { frames := 0, cells := 0, slots := 0, locals := 0 }
abbrev YX0_nightsAt : k_Y := (rmX0_nightsAt, cX0_nightsAt, 5, RX0, (some .int))
noncomputable def fX0_nightsAt_c32 (kh5 : k_S → Int32 → Int32 → Int32 → Int32 → Option (Int32 × k_S)) (σ : k_S) (l1 l2 l3 l4 : Int32) : Option (Int32 × k_S) := k_bn (l4 + (nI 1)) fun v1 => kh5 σ l1 l2 l3 v1
set_option maxRecDepth 100000 in
set_option maxHeartbeats 4000000 in
theorem kX0_nightsAt_c32 {X : k_C} {q : Nat → Nat} (kh5 : k_S → Int32 → Int32 → Int32 → Int32 → Option (Int32 × k_S)) (hk5 : ∀ (σ : k_S) (l1 l2 l3 l4 : Int32), KO X YX0_nightsAt (cT (k_I X) q) 0 0 (k_Q k_ei X (cT (k_I X) q)) 5 [some (.ref (q 3)), some (.int l1), some (.int l2), some (.int l3), some (.int l4)] [] σ (kh5 σ l1 l2 l3 l4)) (σ : k_S) (l1 l2 l3 l4 : Int32) : KO X YX0_nightsAt (cT (k_I X) q) 0 0 (k_Q k_ei X (cT (k_I X) q)) 32 [some (.ref (q 3)), some (.int l1), some (.int l2), some (.int l3), some (.int l4)] [] σ (fX0_nightsAt_c32 kh5 σ l1 l2 l3 l4) := by
  unfold fX0_nightsAt_c32
  refine k_iinc4 (pc := 32) (w := (nI 1)) dX0_nightsAt_32 rfl (by decide) (Nat.le_of_ble_eq_true rfl) (fun v1 => ?_)
  refine k_goto (pc := 35) 5 dX0_nightsAt_35 (by decide) ?_
  exact hk5 σ l1 l2 l3 v1
noncomputable def fX0_nightsAt_c5 : Nat → k_S → Int32 → Int32 → Int32 → Int32 → Option (Int32 × k_S)
  | 0, _, _, _, _, _ => none
  | n + 1, σ, l1, l2, l3, l4 => (if l4 < σ.1 6 then k_gd (((l4 * (nI 5)) + l1)) 300 ((if σ.2 12 (Int32.toNatClampNeg (((l4 * (nI 5)) + l1))) = l2 then k_bn (l3 + (nI 1)) fun v1 => fX0_nightsAt_c32 (fX0_nightsAt_c5 n) σ l1 l2 v1 l4 else fX0_nightsAt_c32 (fX0_nightsAt_c5 n) σ l1 l2 l3 l4)) else some (l3, σ))
theorem fX0_nightsAt_c5_s (n : Nat) (σ : k_S) (l1 l2 l3 l4 : Int32) : fX0_nightsAt_c5 (n + 1) σ l1 l2 l3 l4 = (if l4 < σ.1 6 then k_gd (((l4 * (nI 5)) + l1)) 300 ((if σ.2 12 (Int32.toNatClampNeg (((l4 * (nI 5)) + l1))) = l2 then k_bn (l3 + (nI 1)) fun v1 => fX0_nightsAt_c32 (fX0_nightsAt_c5 n) σ l1 l2 v1 l4 else fX0_nightsAt_c32 (fX0_nightsAt_c5 n) σ l1 l2 l3 l4)) else some (l3, σ)) := rfl
set_option maxRecDepth 100000 in
set_option maxHeartbeats 4000000 in
theorem kX0_nightsAt_c5 {X : k_C} {q : Nat → Nat} : ∀ (n : Nat) (σ : k_S) (l1 l2 l3 l4 : Int32), KO X YX0_nightsAt (cT (k_I X) q) 0 0 (k_Q k_ei X (cT (k_I X) q)) 5 [some (.ref (q 3)), some (.int l1), some (.int l2), some (.int l3), some (.int l4)] [] σ (fX0_nightsAt_c5 n σ l1 l2 l3 l4) := by
  intro n
  induction n with
  | zero => intros; exact KO.nil
  | succ n ih =>
    intro σ l1 l2 l3 l4
    rw [fX0_nightsAt_c5_s]
    refine k_iload (pc := 5) dX0_nightsAt_5 rfl ?_
    refine k_aload_n (pc := 7) dX0_nightsAt_7 rfl ?_
    refine k_gTX0_nights (pc := 8) kwf_X0_66 rfl dX0_nightsAt_8 ?_
    refine k_icmp_ge (pc := 11) 38 dX0_nightsAt_11 (by decide) ?_ ?_
    · refine k_iload_n (pc := 38) dX0_nightsAt_38 rfl ?_
      exact k_ireturn (pc := 39) rfl dX0_nightsAt_39
    · refine k_aload_n (pc := 14) dX0_nightsAt_14 rfl ?_
      refine k_gTX0_nightPlace (pc := 15) kwf_X0_33 rfl dX0_nightsAt_15 ?_
      refine k_iload (pc := 18) dX0_nightsAt_18 rfl ?_
      refine k_iconst (pc := 20) (v := (nI 5)) dX0_nightsAt_20 (by decide) ?_
      refine k_imul (pc := 21) dX0_nightsAt_21 ?_
      refine k_iload_n (pc := 22) dX0_nightsAt_22 rfl ?_
      refine k_iadd (pc := 23) dX0_nightsAt_23 ?_
      refine k_lT19 (pc := 24) dX0_nightsAt_24 ?_
      refine k_iload_n (pc := 25) dX0_nightsAt_25 rfl ?_
      refine k_icmp_ne (pc := 26) 32 dX0_nightsAt_26 (by decide) ?_ ?_
      · exact kX0_nightsAt_c32 (fX0_nightsAt_c5 n) ih σ l1 l2 l3 l4
      · refine k_iinc3 (pc := 29) (w := (nI 1)) dX0_nightsAt_29 rfl (by decide) (Nat.le_of_ble_eq_true rfl) (fun v1 => ?_)
        exact kX0_nightsAt_c32 (fX0_nightsAt_c5 n) ih σ l1 l2 v1 l4
noncomputable def fX0_nightsAt (σ : k_S) (x1 x2 : Int32) : Option (Int32 × k_S) := k_bn ((nI 0)) fun v1 => k_bn ((nI 0)) fun v2 => fX0_nightsAt_c5 k_F σ x1 x2 v1 v2
set_option maxRecDepth 100000 in
set_option maxHeartbeats 4000000 in
theorem kX0_nightsAt {D : va_G} {cI : ClassId} {q : Nat → Nat} {σ : k_S} {x1 x2 : Int32} {r : Int32} {τ : k_S} (h : fX0_nightsAt σ x1 x2 = some (r, τ)) : k_Ct k_ei yX0_nightsAt cX0_nightsAt 5 (some .int) rmX0_nightsAt (cT cI q) D cI [.ref (q 3), .int x1, .int x2] σ r τ := by
  refine k_met (Y := YX0_nightsAt) (cT_same _ _) (by decide) rfl (Nat.le_of_ble_eq_true rfl) (List.forall_mem_cons.mpr ⟨rfl, List.forall_mem_cons.mpr ⟨rfl, List.forall_mem_cons.mpr ⟨rfl, fun _ h => absurd h List.not_mem_nil⟩⟩⟩) (fun X hD hI => ?_) h
  subst hD hI
  show KO X YX0_nightsAt (cT (k_I X) q) 0 0 (k_Q k_ei X (cT (k_I X) q)) 0 [some (.ref (q 3)), some (.int x1), some (.int x2), none, none] [] σ _
  unfold fX0_nightsAt
  refine k_iconst (pc := 0) (v := (nI 0)) dX0_nightsAt_0 (by decide) ?_
  refine k_ist3 (pc := 1) dX0_nightsAt_1 (Nat.le_of_ble_eq_true rfl) (fun v1 => ?_)
  refine k_iconst (pc := 2) (v := (nI 0)) dX0_nightsAt_2 (by decide) ?_
  refine k_ist4 (pc := 3) dX0_nightsAt_3 (Nat.le_of_ble_eq_true rfl) (fun v2 => ?_)
  exact kX0_nightsAt_c5 k_F σ x1 x2 v1 v2
end
section
/-! ===== T: methods as pure functions, and that the bytecode answers so (by program: wip/gen30/dec.py) ===== -/
-- TallTales.lay(II)I
theorem ckX6_lay : k_Vok yX6_lay cX6_lay 3 (some .int) 2 := ⟨kwk_X6_lay, kwi_X6_lay, kwv_X6_lay, kwn_X6, by decide, by decide +kernel⟩
abbrev rmX6_lay : Room := { frames := 1, cells := 0, slots := 0, locals := 24 }
abbrev YX6_lay : k_Y := (rmX6_lay, cX6_lay, 3, RX6, (some .int))
noncomputable def fX6_lay (σ : k_S) (x1 x2 : Int32) : Option (Int32 × k_S) := k_ob (fX0_hasGuest σ x1) fun r1 σ2 => (if r1 = 0 then some ((k_ng 1), σ2) else k_ob (fX0_hasGuest σ2 x2) fun r3 σ4 => (if r3 = 0 then some ((k_ng 1), σ4) else k_ob (fX0_nightsAt σ4 x1 x2) fun r5 σ6 => some (r5, σ6)))
set_option maxRecDepth 100000 in
set_option maxHeartbeats 4000000 in
theorem kX6_lay {D : va_G} {cI : ClassId} {q : Nat → Nat} {σ : k_S} {x1 x2 : Int32} {r : Int32} {τ : k_S} (h : fX6_lay σ x1 x2 = some (r, τ)) : k_Ct k_ei yX6_lay cX6_lay 3 (some .int) rmX6_lay (cT cI q) D cI [.ref (q 0), .int x1, .int x2] σ r τ := by
  refine k_met (Y := YX6_lay) (cT_same _ _) (by decide) rfl (Nat.le_of_ble_eq_true rfl) (List.forall_mem_cons.mpr ⟨rfl, List.forall_mem_cons.mpr ⟨rfl, List.forall_mem_cons.mpr ⟨rfl, fun _ h => absurd h List.not_mem_nil⟩⟩⟩) (fun X hD hI => ?_) h
  subst hD hI
  show KO X YX6_lay (cT (k_I X) q) 0 0 (k_Q k_ei X (cT (k_I X) q)) 0 [some (.ref (q 0)), some (.int x1), some (.int x2)] [] σ _
  unfold fX6_lay
  refine k_aload_n (pc := 0) dX6_lay_0 rfl ?_
  refine k_gTX6_house (pc := 1) kwf_X6_28 rfl dX6_lay_1 ?_
  refine k_iload_n (pc := 4) dX6_lay_4 rfl ?_
  refine k_vi1 (pc := 5) (cT_same _ _) ckX0_hasGuest kwm_X6_132 cT_rv3 ⟨rfl, rfl⟩ ⟨Nat.le_of_ble_eq_true rfl, Nat.le_of_ble_eq_true rfl⟩ ⟨Nat.zero_le _, Nat.zero_le _⟩ (Nat.le_of_ble_eq_true rfl) dX6_lay_5 (fun _ _ hf => kX0_hasGuest hf) (fun r1 σ2 => ?_)
  refine k_if_eq (pc := 8) 22 dX6_lay_8 (by decide) ?_ ?_
  · refine k_iconst (pc := 22) (v := (k_ng 1)) dX6_lay_22 (by decide) ?_
    exact k_ireturn (pc := 23) rfl dX6_lay_23
  · refine k_aload_n (pc := 11) dX6_lay_11 rfl ?_
    refine k_gTX6_house (pc := 12) kwf_X6_28 rfl dX6_lay_12 ?_
    refine k_iload_n (pc := 15) dX6_lay_15 rfl ?_
    refine k_vi1 (pc := 16) (cT_same _ _) ckX0_hasGuest kwm_X6_132 cT_rv3 ⟨rfl, rfl⟩ ⟨Nat.le_of_ble_eq_true rfl, Nat.le_of_ble_eq_true rfl⟩ ⟨Nat.zero_le _, Nat.zero_le _⟩ (Nat.le_of_ble_eq_true rfl) dX6_lay_16 (fun _ _ hf => kX0_hasGuest hf) (fun r3 σ4 => ?_)
    refine k_if_ne (pc := 19) 24 dX6_lay_19 (by decide) ?_ ?_
    · refine k_aload_n (pc := 24) dX6_lay_24 rfl ?_
      refine k_gTX6_house (pc := 25) kwf_X6_28 rfl dX6_lay_25 ?_
      refine k_iload_n (pc := 28) dX6_lay_28 rfl ?_
      refine k_iload_n (pc := 29) dX6_lay_29 rfl ?_
      refine k_vi2 (pc := 30) (cT_same _ _) ckX0_nightsAt kwm_X6_165 cT_rv3 ⟨rfl, rfl⟩ ⟨Nat.le_of_ble_eq_true rfl, Nat.le_of_ble_eq_true rfl⟩ ⟨Nat.zero_le _, Nat.zero_le _⟩ (Nat.le_of_ble_eq_true rfl) dX6_lay_30 (fun _ _ hf => kX0_nightsAt hf) (fun r5 σ6 => ?_)
      exact k_ireturn (pc := 33) rfl dX6_lay_33
    · refine k_iconst (pc := 22) (v := (k_ng 1)) dX6_lay_22 (by decide) ?_
      exact k_ireturn (pc := 23) rfl dX6_lay_23
-- TallTales$Talls.needOf(I)I
theorem ckX3_needOf : k_Vok yX3_needOf cX3_needOf 4 (some .int) 1 := ⟨kwk_X3_needOf, kwi_X3_needOf, kwv_X3_needOf, kwn_X3, by decide, by decide +kernel⟩
abbrev rmX3_needOf : Room := { frames := 1, cells := 0, slots := 0, locals := 21 }
abbrev YX3_needOf : k_Y := (rmX3_needOf, cX3_needOf, 4, RX3, (some .int))
noncomputable def fX3_needOf_c47 (kh4 : k_S → Int32 → Int32 → Int32 → Option (Int32 × k_S)) (σ : k_S) (l1 l2 l3 : Int32) : Option (Int32 × k_S) := k_bn (l3 + (nI 1)) fun v1 => kh4 σ l1 l2 v1
set_option maxRecDepth 100000 in
set_option maxHeartbeats 4000000 in
theorem kX3_needOf_c47 {X : k_C} {q : Nat → Nat} (kh4 : k_S → Int32 → Int32 → Int32 → Option (Int32 × k_S)) (hk4 : ∀ (σ : k_S) (l1 l2 l3 : Int32), KO X YX3_needOf (cT (k_I X) q) 0 0 (k_Q k_ei X (cT (k_I X) q)) 4 [some (.ref (q 4)), some (.int l1), some (.int l2), some (.int l3)] [] σ (kh4 σ l1 l2 l3)) (σ : k_S) (l1 l2 l3 : Int32) : KO X YX3_needOf (cT (k_I X) q) 0 0 (k_Q k_ei X (cT (k_I X) q)) 47 [some (.ref (q 4)), some (.int l1), some (.int l2), some (.int l3)] [] σ (fX3_needOf_c47 kh4 σ l1 l2 l3) := by
  unfold fX3_needOf_c47
  refine k_iinc3 (pc := 47) (w := (nI 1)) dX3_needOf_47 rfl (by decide) (Nat.le_of_ble_eq_true rfl) (fun v1 => ?_)
  refine k_goto (pc := 50) 4 dX3_needOf_50 (by decide) ?_
  exact hk4 σ l1 l2 v1
noncomputable def fX3_needOf_c43 (kh4 : k_S → Int32 → Int32 → Int32 → Option (Int32 × k_S)) (σ : k_S) (l1 l3 s0 s1 : Int32) : Option (Int32 × k_S) := k_bn ((k_mx (s0) (s1))) fun v1 => fX3_needOf_c47 kh4 σ l1 v1 l3
set_option maxRecDepth 100000 in
set_option maxHeartbeats 4000000 in
theorem kX3_needOf_c43 {X : k_C} {q : Nat → Nat} (kh4 : k_S → Int32 → Int32 → Int32 → Option (Int32 × k_S)) (hk4 : ∀ (σ : k_S) (l1 l2 l3 : Int32), KO X YX3_needOf (cT (k_I X) q) 0 0 (k_Q k_ei X (cT (k_I X) q)) 4 [some (.ref (q 4)), some (.int l1), some (.int l2), some (.int l3)] [] σ (kh4 σ l1 l2 l3)) (σ : k_S) (l1 l3 s0 s1 : Int32) : KO X YX3_needOf (cT (k_I X) q) 0 0 (k_Q k_ei X (cT (k_I X) q)) 43 [some (.ref (q 4)), some (.int l1), none, some (.int l3)] [.int s1, .int s0] σ (fX3_needOf_c43 kh4 σ l1 l3 s0 s1) := by
  unfold fX3_needOf_c43
  refine k_max (pc := 43) kwm_X3_19 ⟨Nat.le_of_ble_eq_true rfl, Nat.le_of_ble_eq_true rfl⟩ ⟨Nat.zero_le _, Nat.zero_le _⟩ dX3_needOf_43 ?_
  refine k_ist2 (pc := 46) dX3_needOf_46 (Nat.le_of_ble_eq_true rfl) (fun v1 => ?_)
  exact kX3_needOf_c47 kh4 hk4 σ l1 v1 l3
noncomputable def fX3_needOf_c4 : Nat → k_S → Int32 → Int32 → Int32 → Option (Int32 × k_S)
  | 0, _, _, _, _ => none
  | n + 1, σ, l1, l2, l3 => (if l3 < σ.1 7 then (if l3 = l1 then fX3_needOf_c47 (fX3_needOf_c4 n) σ l1 l2 l3 else (if l3 < l1 then k_gd (l3) 5 (fX3_needOf_c43 (fX3_needOf_c4 n) σ l1 l3 l2 ((σ.2 14 (Int32.toNatClampNeg (l3)) + (nI 1)))) else k_gd (l3) 5 (fX3_needOf_c43 (fX3_needOf_c4 n) σ l1 l3 l2 (σ.2 14 (Int32.toNatClampNeg (l3)))))) else some (l2, σ))
theorem fX3_needOf_c4_s (n : Nat) (σ : k_S) (l1 l2 l3 : Int32) : fX3_needOf_c4 (n + 1) σ l1 l2 l3 = (if l3 < σ.1 7 then (if l3 = l1 then fX3_needOf_c47 (fX3_needOf_c4 n) σ l1 l2 l3 else (if l3 < l1 then k_gd (l3) 5 (fX3_needOf_c43 (fX3_needOf_c4 n) σ l1 l3 l2 ((σ.2 14 (Int32.toNatClampNeg (l3)) + (nI 1)))) else k_gd (l3) 5 (fX3_needOf_c43 (fX3_needOf_c4 n) σ l1 l3 l2 (σ.2 14 (Int32.toNatClampNeg (l3)))))) else some (l2, σ)) := rfl
set_option maxRecDepth 100000 in
set_option maxHeartbeats 4000000 in
theorem kX3_needOf_c4 {X : k_C} {q : Nat → Nat} : ∀ (n : Nat) (σ : k_S) (l1 l2 l3 : Int32), KO X YX3_needOf (cT (k_I X) q) 0 0 (k_Q k_ei X (cT (k_I X) q)) 4 [some (.ref (q 4)), some (.int l1), some (.int l2), some (.int l3)] [] σ (fX3_needOf_c4 n σ l1 l2 l3) := by
  intro n
  induction n with
  | zero => intros; exact KO.nil
  | succ n ih =>
    intro σ l1 l2 l3
    rw [fX3_needOf_c4_s]
    refine k_iload_n (pc := 4) dX3_needOf_4 rfl ?_
    refine k_aload_n (pc := 5) dX3_needOf_5 rfl ?_
    refine k_gTX3_guests (pc := 6) kwf_X3_15 rfl dX3_needOf_6 ?_
    refine k_icmp_ge (pc := 9) 53 dX3_needOf_9 (by decide) ?_ ?_
    · refine k_iload_n (pc := 53) dX3_needOf_53 rfl ?_
      exact k_ireturn (pc := 54) rfl dX3_needOf_54
    · refine k_iload_n (pc := 12) dX3_needOf_12 rfl ?_
      refine k_iload_n (pc := 13) dX3_needOf_13 rfl ?_
      refine k_icmp_ne (pc := 14) 20 dX3_needOf_14 (by decide) ?_ ?_
      · refine k_iload_n (pc := 20) dX3_needOf_20 rfl ?_
        refine k_iload_n (pc := 21) dX3_needOf_21 rfl ?_
        refine k_iload_n (pc := 22) dX3_needOf_22 rfl ?_
        refine k_icmp_ge (pc := 23) 37 dX3_needOf_23 (by decide) ?_ ?_
        · refine k_aload_n (pc := 37) dX3_needOf_37 rfl ?_
          refine k_gTX3_of (pc := 38) kwf_X3_9 rfl dX3_needOf_38 ?_
          refine k_iload_n (pc := 41) dX3_needOf_41 rfl ?_
          refine k_lT21 (pc := 42) dX3_needOf_42 ?_
          refine k_fg2 ?_
          exact kX3_needOf_c43 (fX3_needOf_c4 n) ih σ l1 l3 l2 (σ.2 14 (Int32.toNatClampNeg (l3)))
        · refine k_aload_n (pc := 26) dX3_needOf_26 rfl ?_
          refine k_gTX3_of (pc := 27) kwf_X3_9 rfl dX3_needOf_27 ?_
          refine k_iload_n (pc := 30) dX3_needOf_30 rfl ?_
          refine k_lT21 (pc := 31) dX3_needOf_31 ?_
          refine k_iconst (pc := 32) (v := (nI 1)) dX3_needOf_32 (by decide) ?_
          refine k_iadd (pc := 33) dX3_needOf_33 ?_
          refine k_goto (pc := 34) 43 dX3_needOf_34 (by decide) ?_
          refine k_fg2 ?_
          exact kX3_needOf_c43 (fX3_needOf_c4 n) ih σ l1 l3 l2 ((σ.2 14 (Int32.toNatClampNeg (l3)) + (nI 1)))
      · refine k_goto (pc := 17) 47 dX3_needOf_17 (by decide) ?_
        exact kX3_needOf_c47 (fX3_needOf_c4 n) ih σ l1 l2 l3
noncomputable def fX3_needOf (σ : k_S) (x1 : Int32) : Option (Int32 × k_S) := k_bn ((nI 1)) fun v1 => k_bn ((nI 0)) fun v2 => fX3_needOf_c4 k_F σ x1 v1 v2
set_option maxRecDepth 100000 in
set_option maxHeartbeats 4000000 in
theorem kX3_needOf {D : va_G} {cI : ClassId} {q : Nat → Nat} {σ : k_S} {x1 : Int32} {r : Int32} {τ : k_S} (h : fX3_needOf σ x1 = some (r, τ)) : k_Ct k_ei yX3_needOf cX3_needOf 4 (some .int) rmX3_needOf (cT cI q) D cI [.ref (q 4), .int x1] σ r τ := by
  refine k_met (Y := YX3_needOf) (cT_same _ _) (by decide) rfl (Nat.le_of_ble_eq_true rfl) (List.forall_mem_cons.mpr ⟨rfl, List.forall_mem_cons.mpr ⟨rfl, fun _ h => absurd h List.not_mem_nil⟩⟩) (fun X hD hI => ?_) h
  subst hD hI
  show KO X YX3_needOf (cT (k_I X) q) 0 0 (k_Q k_ei X (cT (k_I X) q)) 0 [some (.ref (q 4)), some (.int x1), none, none] [] σ _
  unfold fX3_needOf
  refine k_iconst (pc := 0) (v := (nI 1)) dX3_needOf_0 (by decide) ?_
  refine k_ist2 (pc := 1) dX3_needOf_1 (Nat.le_of_ble_eq_true rfl) (fun v1 => ?_)
  refine k_iconst (pc := 2) (v := (nI 0)) dX3_needOf_2 (by decide) ?_
  refine k_ist3 (pc := 3) dX3_needOf_3 (Nat.le_of_ble_eq_true rfl) (fun v2 => ?_)
  exact kX3_needOf_c4 k_F σ x1 v1 v2
-- TallTales.tonight(II)I
theorem ckX6_tonight : k_Vok yX6_tonight cX6_tonight 3 (some .int) 2 := ⟨kwk_X6_tonight, kwi_X6_tonight, kwv_X6_tonight, kwn_X6, by decide, by decide +kernel⟩
abbrev rmX6_tonight : Room := { frames := 3, cells := 0, slots := 0, locals := 65 }
abbrev YX6_tonight : k_Y := (rmX6_tonight, cX6_tonight, 3, RX6, (some .int))
noncomputable def fX6_tonight (σ : k_S) (x1 x2 : Int32) : Option (Int32 × k_S) := k_ob (fX0_hasGuest σ x1) fun r1 σ2 => (if r1 = 0 then some ((k_ng 1), σ2) else k_ob (fX0_tallsAsChosen σ2) fun r3 σ4 => (if x2 = (nI 0) then k_gd (x1) 5 (some (σ4.2 10 (Int32.toNatClampNeg (x1)), σ4)) else (if x2 = (nI 1) then k_gd (x1) 5 (k_ob (fX3_placeOf σ4 x1 (σ4.2 14 (Int32.toNatClampNeg (x1)))) fun r6 σ7 => some (r6, σ7)) else (if x2 = (nI 2) then k_ob (fX3_needOf σ4 x1) fun r8 σ9 => some (r8, σ9) else some ((k_ng 2), σ4)))))
set_option maxRecDepth 100000 in
set_option maxHeartbeats 4000000 in
theorem kX6_tonight {D : va_G} {cI : ClassId} {q : Nat → Nat} {σ : k_S} {x1 x2 : Int32} {r : Int32} {τ : k_S} (h : fX6_tonight σ x1 x2 = some (r, τ)) : k_Ct k_ei yX6_tonight cX6_tonight 3 (some .int) rmX6_tonight (cT cI q) D cI [.ref (q 0), .int x1, .int x2] σ r τ := by
  refine k_met (Y := YX6_tonight) (cT_same _ _) (by decide) rfl (Nat.le_of_ble_eq_true rfl) (List.forall_mem_cons.mpr ⟨rfl, List.forall_mem_cons.mpr ⟨rfl, List.forall_mem_cons.mpr ⟨rfl, fun _ h => absurd h List.not_mem_nil⟩⟩⟩) (fun X hD hI => ?_) h
  subst hD hI
  show KO X YX6_tonight (cT (k_I X) q) 0 0 (k_Q k_ei X (cT (k_I X) q)) 0 [some (.ref (q 0)), some (.int x1), some (.int x2)] [] σ _
  unfold fX6_tonight
  refine k_aload_n (pc := 0) dX6_tonight_0 rfl ?_
  refine k_gTX6_house (pc := 1) kwf_X6_28 rfl dX6_tonight_1 ?_
  refine k_iload_n (pc := 4) dX6_tonight_4 rfl ?_
  refine k_vi1 (pc := 5) (cT_same _ _) ckX0_hasGuest kwm_X6_132 cT_rv3 ⟨rfl, rfl⟩ ⟨Nat.le_of_ble_eq_true rfl, Nat.le_of_ble_eq_true rfl⟩ ⟨Nat.zero_le _, Nat.zero_le _⟩ (Nat.le_of_ble_eq_true rfl) dX6_tonight_5 (fun _ _ hf => kX0_hasGuest hf) (fun r1 σ2 => ?_)
  refine k_if_ne (pc := 8) 13 dX6_tonight_8 (by decide) ?_ ?_
  · refine k_aload_n (pc := 13) dX6_tonight_13 rfl ?_
    refine k_gTX6_house (pc := 14) kwf_X6_28 rfl dX6_tonight_14 ?_
    refine k_aload_n (pc := 17) dX6_tonight_17 rfl ?_
    refine k_gTX6_talls (pc := 18) kwf_X6_35 rfl dX6_tonight_18 ?_
    refine k_vv1 (pc := 21) (cT_same _ _) ckX0_tallsAsChosen kwm_X6_141 cT_rv3 ⟨rfl, rfl⟩ ⟨Nat.le_of_ble_eq_true rfl, Nat.le_of_ble_eq_true rfl⟩ ⟨Nat.zero_le _, Nat.zero_le _⟩ (Nat.le_of_ble_eq_true rfl) dX6_tonight_21 (fun _ _ hf => kX0_tallsAsChosen hf) (fun r3 σ4 => ?_)
    refine k_iload_n (pc := 24) dX6_tonight_24 rfl ?_
    refine KO.ite (c := x2 = (nI 0)) (fun hs5_0 => ?_) (fun hs5_0 => ?_)
    · refine k_tableIn (off := 27) (pc := 25) 52 dX6_tonight_25 hs5_0 (by decide) (by decide) (by decide) (by decide) ?_
      refine k_aload_n (pc := 52) dX6_tonight_52 rfl ?_
      refine k_gTX6_house (pc := 53) kwf_X6_28 rfl dX6_tonight_53 ?_
      refine k_gTX0_chosen (pc := 56) kwf_X6_135 rfl dX6_tonight_56 ?_
      refine k_iload_n (pc := 59) dX6_tonight_59 rfl ?_
      refine k_lT17 (pc := 60) dX6_tonight_60 ?_
      exact k_ireturn (pc := 61) rfl dX6_tonight_61
    · refine KO.ite (c := x2 = (nI 1)) (fun hs5_1 => ?_) (fun hs5_1 => ?_)
      · refine k_tableIn (off := 37) (pc := 25) 62 dX6_tonight_25 hs5_1 (by decide) (by decide) (by decide) (by decide) ?_
        refine k_aload_n (pc := 62) dX6_tonight_62 rfl ?_
        refine k_gTX6_talls (pc := 63) kwf_X6_35 rfl dX6_tonight_63 ?_
        refine k_iload_n (pc := 66) dX6_tonight_66 rfl ?_
        refine k_aload_n (pc := 67) dX6_tonight_67 rfl ?_
        refine k_gTX6_talls (pc := 68) kwf_X6_35 rfl dX6_tonight_68 ?_
        refine k_gTX3_of (pc := 71) kwf_X6_169 rfl dX6_tonight_71 ?_
        refine k_iload_n (pc := 74) dX6_tonight_74 rfl ?_
        refine k_lT21 (pc := 75) dX6_tonight_75 ?_
        refine k_vi2 (pc := 76) (cT_same _ _) ckX3_placeOf kwm_X6_172 cT_rv4 ⟨rfl, rfl⟩ ⟨Nat.le_of_ble_eq_true rfl, Nat.le_of_ble_eq_true rfl⟩ ⟨Nat.zero_le _, Nat.zero_le _⟩ (Nat.le_of_ble_eq_true rfl) dX6_tonight_76 (fun _ _ hf => kX3_placeOf hf) (fun r6 σ7 => ?_)
        exact k_ireturn (pc := 79) rfl dX6_tonight_79
      · refine KO.ite (c := x2 = (nI 2)) (fun hs5_2 => ?_) (fun hs5_2 => ?_)
        · refine k_tableIn (off := 55) (pc := 25) 80 dX6_tonight_25 hs5_2 (by decide) (by decide) (by decide) (by decide) ?_
          refine k_aload_n (pc := 80) dX6_tonight_80 rfl ?_
          refine k_gTX6_talls (pc := 81) kwf_X6_35 rfl dX6_tonight_81 ?_
          refine k_iload_n (pc := 84) dX6_tonight_84 rfl ?_
          refine k_vi1 (pc := 85) (cT_same _ _) ckX3_needOf kwm_X6_175 cT_rv4 ⟨rfl, rfl⟩ ⟨Nat.le_of_ble_eq_true rfl, Nat.le_of_ble_eq_true rfl⟩ ⟨Nat.zero_le _, Nat.zero_le _⟩ (Nat.le_of_ble_eq_true rfl) dX6_tonight_85 (fun _ _ hf => kX3_needOf hf) (fun r8 σ9 => ?_)
          exact k_ireturn (pc := 88) rfl dX6_tonight_88
        · refine k_tableOut (pc := 25) 89 dX6_tonight_25 (by have g0 := lv_neT (a := 0) hs5_0 (by decide); have g1 := lv_neT (a := 1) hs5_1 (by decide); have g2 := lv_neT (a := 2) hs5_2 (by decide); omega) (by decide) ?_
          refine k_bipush (pc := 89) (v := (k_ng 2)) dX6_tonight_89 (by decide) ?_
          exact k_ireturn (pc := 91) rfl dX6_tonight_91
  · refine k_iconst (pc := 11) (v := (k_ng 1)) dX6_tonight_11 (by decide) ?_
    exact k_ireturn (pc := 12) rfl dX6_tonight_12
-- TallTales$House.isOffered(IIZ)Z
theorem ckX0_isOffered : k_Vok yX0_isOffered cX0_isOffered 5 (some .boolean) 3 := ⟨kwk_X0_isOffered, kwi_X0_isOffered, kwv_X0_isOffered, kwn_X0, by decide, by decide +kernel⟩
abbrev rmX0_isOffered : Room := { frames := 2, cells := 0, slots := 0, locals := 45 }
abbrev YX0_isOffered : k_Y := (rmX0_isOffered, cX0_isOffered, 5, RX0, (some .boolean))
noncomputable def fX0_isOffered_c43 (σ : k_S) : Option (Int32 × k_S) := k_z ((nI 0)) (some ((nI 0), σ))
set_option maxRecDepth 100000 in
set_option maxHeartbeats 4000000 in
theorem kX0_isOffered_c43 {X : k_C} {q : Nat → Nat} (σ : k_S) : KO X YX0_isOffered (cT (k_I X) q) 0 0 (k_Q k_ei X (cT (k_I X) q)) 43 [some (.ref (q 3)), none, none, none, none] [] σ (fX0_isOffered_c43 σ) := by
  unfold fX0_isOffered_c43
  refine k_iconst (pc := 43) (v := (nI 0)) dX0_isOffered_43 (by decide) ?_
  refine k_goto (pc := 44) 58 dX0_isOffered_44 (by decide) ?_
  exact k_zreturn (pc := 58) rfl dX0_isOffered_58
noncomputable def fX0_isOffered (σ : k_S) (x1 x2 x3 : Int32) : Option (Int32 × k_S) := k_ob (fX0_isTellable σ x2) fun r1 σ2 => (if r1 = 0 then k_z ((nI 0)) (some ((nI 0), σ2)) else k_gd (x2) 10 (k_bn (σ2.2 6 (Int32.toNatClampNeg (x2))) fun v3 => (if x3 = 0 then (if v3 = x1 then k_z ((nI 1)) (some ((nI 1), σ2)) else k_z ((nI 0)) (some ((nI 0), σ2))) else (if v3 = x1 then fX0_isOffered_c43 σ2 else k_gd (v3) 5 ((if σ2.2 10 (Int32.toNatClampNeg (v3)) = x2 then fX0_isOffered_c43 σ2 else k_z ((nI 1)) (some ((nI 1), σ2))))))))
set_option maxRecDepth 100000 in
set_option maxHeartbeats 4000000 in
theorem kX0_isOffered {D : va_G} {cI : ClassId} {q : Nat → Nat} {σ : k_S} {x1 x2 x3 : Int32} {r : Int32} {τ : k_S} (h : fX0_isOffered σ x1 x2 x3 = some (r, τ)) : k_Ct k_ei yX0_isOffered cX0_isOffered 5 (some .boolean) rmX0_isOffered (cT cI q) D cI [.ref (q 3), .int x1, .int x2, .int x3] σ r τ := by
  refine k_met (Y := YX0_isOffered) (cT_same _ _) (by decide) rfl (Nat.le_of_ble_eq_true rfl) (List.forall_mem_cons.mpr ⟨rfl, List.forall_mem_cons.mpr ⟨rfl, List.forall_mem_cons.mpr ⟨rfl, List.forall_mem_cons.mpr ⟨rfl, fun _ h => absurd h List.not_mem_nil⟩⟩⟩⟩) (fun X hD hI => ?_) h
  subst hD hI
  show KO X YX0_isOffered (cT (k_I X) q) 0 0 (k_Q k_ei X (cT (k_I X) q)) 0 [some (.ref (q 3)), some (.int x1), some (.int x2), some (.int x3), none] [] σ _
  unfold fX0_isOffered
  refine k_aload_n (pc := 0) dX0_isOffered_0 rfl ?_
  refine k_iload_n (pc := 1) dX0_isOffered_1 rfl ?_
  refine k_vi1 (pc := 2) (cT_same _ _) ckX0_isTellable kwm_X0_81 cT_rv3 ⟨rfl, rfl⟩ ⟨Nat.le_of_ble_eq_true rfl, Nat.le_of_ble_eq_true rfl⟩ ⟨Nat.zero_le _, Nat.zero_le _⟩ (Nat.le_of_ble_eq_true rfl) dX0_isOffered_2 (fun _ _ hf => kX0_isTellable hf) (fun r1 σ2 => ?_)
  refine k_if_ne (pc := 5) 10 dX0_isOffered_5 (by decide) ?_ ?_
  · refine k_aload_n (pc := 10) dX0_isOffered_10 rfl ?_
    refine k_gTX0_owners (pc := 11) kwf_X0_15 rfl dX0_isOffered_11 ?_
    refine k_iload_n (pc := 14) dX0_isOffered_14 rfl ?_
    refine k_lT13 (pc := 15) dX0_isOffered_15 ?_
    refine k_ist4 (pc := 16) dX0_isOffered_16 (Nat.le_of_ble_eq_true rfl) (fun v3 => ?_)
    refine k_iload_n (pc := 18) dX0_isOffered_18 rfl ?_
    refine k_if_eq (pc := 19) 47 dX0_isOffered_19 (by decide) ?_ ?_
    · refine k_iload (pc := 47) dX0_isOffered_47 rfl ?_
      refine k_iload_n (pc := 49) dX0_isOffered_49 rfl ?_
      refine k_icmp_ne (pc := 50) 57 dX0_isOffered_50 (by decide) ?_ ?_
      · refine k_iconst (pc := 57) (v := (nI 0)) dX0_isOffered_57 (by decide) ?_
        exact k_zreturn (pc := 58) rfl dX0_isOffered_58
      · refine k_iconst (pc := 53) (v := (nI 1)) dX0_isOffered_53 (by decide) ?_
        refine k_goto (pc := 54) 58 dX0_isOffered_54 (by decide) ?_
        exact k_zreturn (pc := 58) rfl dX0_isOffered_58
    · refine k_iload (pc := 22) dX0_isOffered_22 rfl ?_
      refine k_iload_n (pc := 24) dX0_isOffered_24 rfl ?_
      refine k_icmp_eq (pc := 25) 43 dX0_isOffered_25 (by decide) ?_ ?_
      · refine k_fg1 ?_
        refine k_fg2 ?_
        refine k_fg3 ?_
        refine k_fg4 ?_
        exact kX0_isOffered_c43 σ2
      · refine k_aload_n (pc := 28) dX0_isOffered_28 rfl ?_
        refine k_gTX0_chosen (pc := 29) kwf_X0_27 rfl dX0_isOffered_29 ?_
        refine k_iload (pc := 32) dX0_isOffered_32 rfl ?_
        refine k_lT17 (pc := 34) dX0_isOffered_34 ?_
        refine k_iload_n (pc := 35) dX0_isOffered_35 rfl ?_
        refine k_icmp_eq (pc := 36) 43 dX0_isOffered_36 (by decide) ?_ ?_
        · refine k_fg1 ?_
          refine k_fg2 ?_
          refine k_fg3 ?_
          refine k_fg4 ?_
          exact kX0_isOffered_c43 σ2
        · refine k_iconst (pc := 39) (v := (nI 1)) dX0_isOffered_39 (by decide) ?_
          refine k_goto (pc := 40) 58 dX0_isOffered_40 (by decide) ?_
          exact k_zreturn (pc := 58) rfl dX0_isOffered_58
  · refine k_iconst (pc := 8) (v := (nI 0)) dX0_isOffered_8 (by decide) ?_
    exact k_zreturn (pc := 9) rfl dX0_isOffered_9
-- TallTales.isBetterReply(III)Z
theorem ckX6_isBetterReply : k_Vok yX6_isBetterReply cX6_isBetterReply 8 (some .boolean) 3 := ⟨kwk_X6_isBetterReply, kwi_X6_isBetterReply, kwv_X6_isBetterReply, kwn_X6, by decide, by decide +kernel⟩
abbrev rmX6_isBetterReply : Room := { frames := 2, cells := 0, slots := 0, locals := 43 }
abbrev YX6_isBetterReply : k_Y := (rmX6_isBetterReply, cX6_isBetterReply, 8, RX6, (some .boolean))
noncomputable def fX6_isBetterReply_c65 (σ : k_S) : Option (Int32 × k_S) := k_z ((nI 1)) (some ((nI 1), σ))
set_option maxRecDepth 100000 in
set_option maxHeartbeats 4000000 in
theorem kX6_isBetterReply_c65 {X : k_C} {q : Nat → Nat} (σ : k_S) : KO X YX6_isBetterReply (cT (k_I X) q) 0 0 (k_Q k_ei X (cT (k_I X) q)) 65 [some (.ref (q 0)), none, none, none, none, none, none, none] [] σ (fX6_isBetterReply_c65 σ) := by
  unfold fX6_isBetterReply_c65
  refine k_iconst (pc := 65) (v := (nI 1)) dX6_isBetterReply_65 (by decide) ?_
  refine k_goto (pc := 66) 70 dX6_isBetterReply_66 (by decide) ?_
  exact k_zreturn (pc := 70) rfl dX6_isBetterReply_70
noncomputable def fX6_isBetterReply (σ : k_S) (x1 x2 x3 : Int32) : Option (Int32 × k_S) := k_ob (fX0_tallOf σ x2) fun r1 σ2 => k_bn (r1) fun v3 => k_ob (fX0_tallOf σ2 x3) fun r4 σ5 => k_bn (r4) fun v6 => k_ob (fX3_placeOf σ5 x1 v3) fun r7 σ8 => k_bn (r7) fun v9 => k_ob (fX3_placeOf σ8 x1 v6) fun r10 σ11 => k_bn (r10) fun v12 => (if v9 < v12 then fX6_isBetterReply_c65 σ11 else (if v9 = v12 then (if v3 < v6 then fX6_isBetterReply_c65 σ11 else k_z ((nI 0)) (some ((nI 0), σ11))) else k_z ((nI 0)) (some ((nI 0), σ11))))
set_option maxRecDepth 100000 in
set_option maxHeartbeats 4000000 in
theorem kX6_isBetterReply {D : va_G} {cI : ClassId} {q : Nat → Nat} {σ : k_S} {x1 x2 x3 : Int32} {r : Int32} {τ : k_S} (h : fX6_isBetterReply σ x1 x2 x3 = some (r, τ)) : k_Ct k_ei yX6_isBetterReply cX6_isBetterReply 8 (some .boolean) rmX6_isBetterReply (cT cI q) D cI [.ref (q 0), .int x1, .int x2, .int x3] σ r τ := by
  refine k_met (Y := YX6_isBetterReply) (cT_same _ _) (by decide) rfl (Nat.le_of_ble_eq_true rfl) (List.forall_mem_cons.mpr ⟨rfl, List.forall_mem_cons.mpr ⟨rfl, List.forall_mem_cons.mpr ⟨rfl, List.forall_mem_cons.mpr ⟨rfl, fun _ h => absurd h List.not_mem_nil⟩⟩⟩⟩) (fun X hD hI => ?_) h
  subst hD hI
  show KO X YX6_isBetterReply (cT (k_I X) q) 0 0 (k_Q k_ei X (cT (k_I X) q)) 0 [some (.ref (q 0)), some (.int x1), some (.int x2), some (.int x3), none, none, none, none] [] σ _
  unfold fX6_isBetterReply
  refine k_aload_n (pc := 0) dX6_isBetterReply_0 rfl ?_
  refine k_gTX6_house (pc := 1) kwf_X6_28 rfl dX6_isBetterReply_1 ?_
  refine k_iload_n (pc := 4) dX6_isBetterReply_4 rfl ?_
  refine k_vi1 (pc := 5) (cT_same _ _) ckX0_tallOf kwm_X6_122 cT_rv3 ⟨rfl, rfl⟩ ⟨Nat.le_of_ble_eq_true rfl, Nat.le_of_ble_eq_true rfl⟩ ⟨Nat.zero_le _, Nat.zero_le _⟩ (Nat.le_of_ble_eq_true rfl) dX6_isBetterReply_5 (fun _ _ hf => kX0_tallOf hf) (fun r1 σ2 => ?_)
  refine k_ist4 (pc := 8) dX6_isBetterReply_8 (Nat.le_of_ble_eq_true rfl) (fun v3 => ?_)
  refine k_aload_n (pc := 10) dX6_isBetterReply_10 rfl ?_
  refine k_gTX6_house (pc := 11) kwf_X6_28 rfl dX6_isBetterReply_11 ?_
  refine k_iload_n (pc := 14) dX6_isBetterReply_14 rfl ?_
  refine k_vi1 (pc := 15) (cT_same _ _) ckX0_tallOf kwm_X6_122 cT_rv3 ⟨rfl, rfl⟩ ⟨Nat.le_of_ble_eq_true rfl, Nat.le_of_ble_eq_true rfl⟩ ⟨Nat.zero_le _, Nat.zero_le _⟩ (Nat.le_of_ble_eq_true rfl) dX6_isBetterReply_15 (fun _ _ hf => kX0_tallOf hf) (fun r4 σ5 => ?_)
  refine k_ist5 (pc := 18) dX6_isBetterReply_18 (Nat.le_of_ble_eq_true rfl) (fun v6 => ?_)
  refine k_aload_n (pc := 20) dX6_isBetterReply_20 rfl ?_
  refine k_gTX6_talls (pc := 21) kwf_X6_35 rfl dX6_isBetterReply_21 ?_
  refine k_iload_n (pc := 24) dX6_isBetterReply_24 rfl ?_
  refine k_iload (pc := 25) dX6_isBetterReply_25 rfl ?_
  refine k_vi2 (pc := 27) (cT_same _ _) ckX3_placeOf kwm_X6_172 cT_rv4 ⟨rfl, rfl⟩ ⟨Nat.le_of_ble_eq_true rfl, Nat.le_of_ble_eq_true rfl⟩ ⟨Nat.zero_le _, Nat.zero_le _⟩ (Nat.le_of_ble_eq_true rfl) dX6_isBetterReply_27 (fun _ _ hf => kX3_placeOf hf) (fun r7 σ8 => ?_)
  refine k_ist6 (pc := 30) dX6_isBetterReply_30 (Nat.le_of_ble_eq_true rfl) (fun v9 => ?_)
  refine k_aload_n (pc := 32) dX6_isBetterReply_32 rfl ?_
  refine k_gTX6_talls (pc := 33) kwf_X6_35 rfl dX6_isBetterReply_33 ?_
  refine k_iload_n (pc := 36) dX6_isBetterReply_36 rfl ?_
  refine k_iload (pc := 37) dX6_isBetterReply_37 rfl ?_
  refine k_vi2 (pc := 39) (cT_same _ _) ckX3_placeOf kwm_X6_172 cT_rv4 ⟨rfl, rfl⟩ ⟨Nat.le_of_ble_eq_true rfl, Nat.le_of_ble_eq_true rfl⟩ ⟨Nat.zero_le _, Nat.zero_le _⟩ (Nat.le_of_ble_eq_true rfl) dX6_isBetterReply_39 (fun _ _ hf => kX3_placeOf hf) (fun r10 σ11 => ?_)
  refine k_ist7 (pc := 42) dX6_isBetterReply_42 (Nat.le_of_ble_eq_true rfl) (fun v12 => ?_)
  refine k_iload (pc := 44) dX6_isBetterReply_44 rfl ?_
  refine k_iload (pc := 46) dX6_isBetterReply_46 rfl ?_
  refine k_icmp_lt (pc := 48) 65 dX6_isBetterReply_48 (by decide) ?_ ?_
  · refine k_fg1 ?_
    refine k_fg2 ?_
    refine k_fg3 ?_
    refine k_fg4 ?_
    refine k_fg5 ?_
    refine k_fg6 ?_
    refine k_fg7 ?_
    exact kX6_isBetterReply_c65 σ11
  · refine k_iload (pc := 51) dX6_isBetterReply_51 rfl ?_
    refine k_iload (pc := 53) dX6_isBetterReply_53 rfl ?_
    refine k_icmp_ne (pc := 55) 69 dX6_isBetterReply_55 (by decide) ?_ ?_
    · refine k_iconst (pc := 69) (v := (nI 0)) dX6_isBetterReply_69 (by decide) ?_
      exact k_zreturn (pc := 70) rfl dX6_isBetterReply_70
    · refine k_iload (pc := 58) dX6_isBetterReply_58 rfl ?_
      refine k_iload (pc := 60) dX6_isBetterReply_60 rfl ?_
      refine k_icmp_ge (pc := 62) 69 dX6_isBetterReply_62 (by decide) ?_ ?_
      · refine k_iconst (pc := 69) (v := (nI 0)) dX6_isBetterReply_69 (by decide) ?_
        exact k_zreturn (pc := 70) rfl dX6_isBetterReply_70
      · refine k_fg1 ?_
        refine k_fg2 ?_
        refine k_fg3 ?_
        refine k_fg4 ?_
        refine k_fg5 ?_
        refine k_fg6 ?_
        refine k_fg7 ?_
        exact kX6_isBetterReply_c65 σ11
-- TallTales.bestReply(IIZ)I
theorem ckX6_bestReply : k_Vok yX6_bestReply cX6_bestReply 6 (some .int) 3 := ⟨kwk_X6_bestReply, kwi_X6_bestReply, kwv_X6_bestReply, kwn_X6, by decide, by decide +kernel⟩
abbrev rmX6_bestReply : Room := { frames := 3, cells := 0, slots := 0, locals := 70 }
abbrev YX6_bestReply : k_Y := (rmX6_bestReply, cX6_bestReply, 6, RX6, (some .int))
noncomputable def fX6_bestReply_c95 (kh43 : k_S → Int32 → Int32 → Int32 → Int32 → Int32 → Option (Int32 × k_S)) (σ : k_S) (l1 l2 l3 l4 l5 : Int32) : Option (Int32 × k_S) := k_bn (l5 + (nI 1)) fun v1 => kh43 σ l1 l2 l3 l4 v1
set_option maxRecDepth 100000 in
set_option maxHeartbeats 4000000 in
theorem kX6_bestReply_c95 {X : k_C} {q : Nat → Nat} (kh43 : k_S → Int32 → Int32 → Int32 → Int32 → Int32 → Option (Int32 × k_S)) (hk43 : ∀ (σ : k_S) (l1 l2 l3 l4 l5 : Int32), KO X YX6_bestReply (cT (k_I X) q) 0 0 (k_Q k_ei X (cT (k_I X) q)) 43 [some (.ref (q 0)), some (.int l1), some (.int l2), some (.int l3), some (.int l4), some (.int l5)] [] σ (kh43 σ l1 l2 l3 l4 l5)) (σ : k_S) (l1 l2 l3 l4 l5 : Int32) : KO X YX6_bestReply (cT (k_I X) q) 0 0 (k_Q k_ei X (cT (k_I X) q)) 95 [some (.ref (q 0)), some (.int l1), some (.int l2), some (.int l3), some (.int l4), some (.int l5)] [] σ (fX6_bestReply_c95 kh43 σ l1 l2 l3 l4 l5) := by
  unfold fX6_bestReply_c95
  refine k_iinc5 (pc := 95) (w := (nI 1)) dX6_bestReply_95 rfl (by decide) (Nat.le_of_ble_eq_true rfl) (fun v1 => ?_)
  refine k_goto (pc := 98) 43 dX6_bestReply_98 (by decide) ?_
  exact hk43 σ l1 l2 l3 l4 v1
noncomputable def fX6_bestReply_c91 (kh43 : k_S → Int32 → Int32 → Int32 → Int32 → Int32 → Option (Int32 × k_S)) (σ : k_S) (l1 l2 l3 l5 : Int32) : Option (Int32 × k_S) := k_bn (l5) fun v1 => fX6_bestReply_c95 kh43 σ l1 l2 l3 v1 l5
set_option maxRecDepth 100000 in
set_option maxHeartbeats 4000000 in
theorem kX6_bestReply_c91 {X : k_C} {q : Nat → Nat} (kh43 : k_S → Int32 → Int32 → Int32 → Int32 → Int32 → Option (Int32 × k_S)) (hk43 : ∀ (σ : k_S) (l1 l2 l3 l4 l5 : Int32), KO X YX6_bestReply (cT (k_I X) q) 0 0 (k_Q k_ei X (cT (k_I X) q)) 43 [some (.ref (q 0)), some (.int l1), some (.int l2), some (.int l3), some (.int l4), some (.int l5)] [] σ (kh43 σ l1 l2 l3 l4 l5)) (σ : k_S) (l1 l2 l3 l5 : Int32) : KO X YX6_bestReply (cT (k_I X) q) 0 0 (k_Q k_ei X (cT (k_I X) q)) 91 [some (.ref (q 0)), some (.int l1), some (.int l2), some (.int l3), none, some (.int l5)] [] σ (fX6_bestReply_c91 kh43 σ l1 l2 l3 l5) := by
  unfold fX6_bestReply_c91
  refine k_iload (pc := 91) dX6_bestReply_91 rfl ?_
  refine k_ist4 (pc := 93) dX6_bestReply_93 (Nat.le_of_ble_eq_true rfl) (fun v1 => ?_)
  exact kX6_bestReply_c95 kh43 hk43 σ l1 l2 l3 v1 l5
noncomputable def fX6_bestReply_c43 : Nat → k_S → Int32 → Int32 → Int32 → Int32 → Int32 → Option (Int32 × k_S)
  | 0, _, _, _, _, _, _ => none
  | n + 1, σ, l1, l2, l3, l4, l5 => (if l5 < σ.1 4 then k_ob (fX0_isOffered σ l1 l5 l3) fun r5 σ6 => (if r5 = 0 then fX6_bestReply_c95 (fX6_bestReply_c43 n) σ6 l1 l2 l3 l4 l5 else (if l4 = (k_ng 9) then fX6_bestReply_c91 (fX6_bestReply_c43 n) σ6 l1 l2 l3 l5 else k_ob (fX6_isBetterReply σ6 l1 l5 l4) fun r7 σ8 => (if r7 = 0 then fX6_bestReply_c95 (fX6_bestReply_c43 n) σ8 l1 l2 l3 l4 l5 else fX6_bestReply_c91 (fX6_bestReply_c43 n) σ8 l1 l2 l3 l5))) else (if l2 = 0 then some (l4, σ) else (if l4 = (k_ng 9) then some (l4, σ) else k_ob (fX0_tallOf σ l4) fun r1 σ2 => k_ob (fX3_placeOf σ2 l1 r1) fun r3 σ4 => some (r3, σ4))))
theorem fX6_bestReply_c43_s (n : Nat) (σ : k_S) (l1 l2 l3 l4 l5 : Int32) : fX6_bestReply_c43 (n + 1) σ l1 l2 l3 l4 l5 = (if l5 < σ.1 4 then k_ob (fX0_isOffered σ l1 l5 l3) fun r5 σ6 => (if r5 = 0 then fX6_bestReply_c95 (fX6_bestReply_c43 n) σ6 l1 l2 l3 l4 l5 else (if l4 = (k_ng 9) then fX6_bestReply_c91 (fX6_bestReply_c43 n) σ6 l1 l2 l3 l5 else k_ob (fX6_isBetterReply σ6 l1 l5 l4) fun r7 σ8 => (if r7 = 0 then fX6_bestReply_c95 (fX6_bestReply_c43 n) σ8 l1 l2 l3 l4 l5 else fX6_bestReply_c91 (fX6_bestReply_c43 n) σ8 l1 l2 l3 l5))) else (if l2 = 0 then some (l4, σ) else (if l4 = (k_ng 9) then some (l4, σ) else k_ob (fX0_tallOf σ l4) fun r1 σ2 => k_ob (fX3_placeOf σ2 l1 r1) fun r3 σ4 => some (r3, σ4)))) := rfl
set_option maxRecDepth 100000 in
set_option maxHeartbeats 4000000 in
theorem kX6_bestReply_c43 {X : k_C} {q : Nat → Nat} : ∀ (n : Nat) (σ : k_S) (l1 l2 l3 l4 l5 : Int32), KO X YX6_bestReply (cT (k_I X) q) 0 0 (k_Q k_ei X (cT (k_I X) q)) 43 [some (.ref (q 0)), some (.int l1), some (.int l2), some (.int l3), some (.int l4), some (.int l5)] [] σ (fX6_bestReply_c43 n σ l1 l2 l3 l4 l5) := by
  intro n
  induction n with
  | zero => intros; exact KO.nil
  | succ n ih =>
    intro σ l1 l2 l3 l4 l5
    rw [fX6_bestReply_c43_s]
    refine k_iload (pc := 43) dX6_bestReply_43 rfl ?_
    refine k_aload_n (pc := 45) dX6_bestReply_45 rfl ?_
    refine k_gTX6_house (pc := 46) kwf_X6_28 rfl dX6_bestReply_46 ?_
    refine k_gTX0_tales (pc := 49) kwf_X6_98 rfl dX6_bestReply_49 ?_
    refine k_icmp_ge (pc := 52) 101 dX6_bestReply_52 (by decide) ?_ ?_
    · refine k_iload_n (pc := 101) dX6_bestReply_101 rfl ?_
      refine k_if_eq (pc := 102) 112 dX6_bestReply_102 (by decide) ?_ ?_
      · refine k_iload (pc := 112) dX6_bestReply_112 rfl ?_
        exact k_ireturn (pc := 114) rfl dX6_bestReply_114
      · refine k_iload (pc := 105) dX6_bestReply_105 rfl ?_
        refine k_bipush (pc := 107) (v := (k_ng 9)) dX6_bestReply_107 (by decide) ?_
        refine k_icmp_ne (pc := 109) 115 dX6_bestReply_109 (by decide) ?_ ?_
        · refine k_aload_n (pc := 115) dX6_bestReply_115 rfl ?_
          refine k_gTX6_talls (pc := 116) kwf_X6_35 rfl dX6_bestReply_116 ?_
          refine k_iload_n (pc := 119) dX6_bestReply_119 rfl ?_
          refine k_aload_n (pc := 120) dX6_bestReply_120 rfl ?_
          refine k_gTX6_house (pc := 121) kwf_X6_28 rfl dX6_bestReply_121 ?_
          refine k_iload (pc := 124) dX6_bestReply_124 rfl ?_
          refine k_vi1 (pc := 126) (cT_same _ _) ckX0_tallOf kwm_X6_122 cT_rv3 ⟨rfl, rfl⟩ ⟨Nat.le_of_ble_eq_true rfl, Nat.le_of_ble_eq_true rfl⟩ ⟨Nat.zero_le _, Nat.zero_le _⟩ (Nat.le_of_ble_eq_true rfl) dX6_bestReply_126 (fun _ _ hf => kX0_tallOf hf) (fun r1 σ2 => ?_)
          refine k_vi2 (pc := 129) (cT_same _ _) ckX3_placeOf kwm_X6_172 cT_rv4 ⟨rfl, rfl⟩ ⟨Nat.le_of_ble_eq_true rfl, Nat.le_of_ble_eq_true rfl⟩ ⟨Nat.zero_le _, Nat.zero_le _⟩ (Nat.le_of_ble_eq_true rfl) dX6_bestReply_129 (fun _ _ hf => kX3_placeOf hf) (fun r3 σ4 => ?_)
          exact k_ireturn (pc := 132) rfl dX6_bestReply_132
        · refine k_iload (pc := 112) dX6_bestReply_112 rfl ?_
          exact k_ireturn (pc := 114) rfl dX6_bestReply_114
    · refine k_aload_n (pc := 55) dX6_bestReply_55 rfl ?_
      refine k_gTX6_house (pc := 56) kwf_X6_28 rfl dX6_bestReply_56 ?_
      refine k_iload_n (pc := 59) dX6_bestReply_59 rfl ?_
      refine k_iload (pc := 60) dX6_bestReply_60 rfl ?_
      refine k_iload_n (pc := 62) dX6_bestReply_62 rfl ?_
      refine k_vi3 (pc := 63) (cT_same _ _) ckX0_isOffered kwm_X6_262 cT_rv3 ⟨rfl, rfl⟩ ⟨Nat.le_of_ble_eq_true rfl, Nat.le_of_ble_eq_true rfl⟩ ⟨Nat.zero_le _, Nat.zero_le _⟩ (Nat.le_of_ble_eq_true rfl) dX6_bestReply_63 (fun _ _ hf => kX0_isOffered hf) (fun r5 σ6 => ?_)
      refine k_if_ne (pc := 66) 72 dX6_bestReply_66 (by decide) ?_ ?_
      · refine k_iload (pc := 72) dX6_bestReply_72 rfl ?_
        refine k_bipush (pc := 74) (v := (k_ng 9)) dX6_bestReply_74 (by decide) ?_
        refine k_icmp_eq (pc := 76) 91 dX6_bestReply_76 (by decide) ?_ ?_
        · refine k_fg4 ?_
          exact kX6_bestReply_c91 (fX6_bestReply_c43 n) ih σ6 l1 l2 l3 l5
        · refine k_aload_n (pc := 79) dX6_bestReply_79 rfl ?_
          refine k_iload_n (pc := 80) dX6_bestReply_80 rfl ?_
          refine k_iload (pc := 81) dX6_bestReply_81 rfl ?_
          refine k_iload (pc := 83) dX6_bestReply_83 rfl ?_
          refine k_vi3 (pc := 85) (cT_same _ _) ckX6_isBetterReply kwm_X6_266 cT_rv0 ⟨rfl, rfl⟩ ⟨Nat.le_of_ble_eq_true rfl, Nat.le_of_ble_eq_true rfl⟩ ⟨Nat.zero_le _, Nat.zero_le _⟩ (Nat.le_of_ble_eq_true rfl) dX6_bestReply_85 (fun _ _ hf => kX6_isBetterReply hf) (fun r7 σ8 => ?_)
          refine k_if_eq (pc := 88) 95 dX6_bestReply_88 (by decide) ?_ ?_
          · exact kX6_bestReply_c95 (fX6_bestReply_c43 n) ih σ8 l1 l2 l3 l4 l5
          · refine k_fg4 ?_
            exact kX6_bestReply_c91 (fX6_bestReply_c43 n) ih σ8 l1 l2 l3 l5
      · refine k_goto (pc := 69) 95 dX6_bestReply_69 (by decide) ?_
        exact kX6_bestReply_c95 (fX6_bestReply_c43 n) ih σ6 l1 l2 l3 l4 l5
noncomputable def fX6_bestReply (σ : k_S) (x1 x2 x3 : Int32) : Option (Int32 × k_S) := k_ob (fX0_hasGuest σ x1) fun r1 σ2 => (if r1 = 0 then some ((k_ng 1), σ2) else (if x2 < 0 then some ((k_ng 2), σ2) else (if (nI 1) < x2 then some ((k_ng 2), σ2) else k_ob (fX0_tallsAsChosen σ2) fun r3 σ4 => k_bn ((k_ng 9)) fun v5 => k_bn ((nI 0)) fun v6 => fX6_bestReply_c43 k_F σ4 x1 x2 x3 v5 v6)))
set_option maxRecDepth 100000 in
set_option maxHeartbeats 4000000 in
theorem kX6_bestReply {D : va_G} {cI : ClassId} {q : Nat → Nat} {σ : k_S} {x1 x2 x3 : Int32} {r : Int32} {τ : k_S} (h : fX6_bestReply σ x1 x2 x3 = some (r, τ)) : k_Ct k_ei yX6_bestReply cX6_bestReply 6 (some .int) rmX6_bestReply (cT cI q) D cI [.ref (q 0), .int x1, .int x2, .int x3] σ r τ := by
  refine k_met (Y := YX6_bestReply) (cT_same _ _) (by decide) rfl (Nat.le_of_ble_eq_true rfl) (List.forall_mem_cons.mpr ⟨rfl, List.forall_mem_cons.mpr ⟨rfl, List.forall_mem_cons.mpr ⟨rfl, List.forall_mem_cons.mpr ⟨rfl, fun _ h => absurd h List.not_mem_nil⟩⟩⟩⟩) (fun X hD hI => ?_) h
  subst hD hI
  show KO X YX6_bestReply (cT (k_I X) q) 0 0 (k_Q k_ei X (cT (k_I X) q)) 0 [some (.ref (q 0)), some (.int x1), some (.int x2), some (.int x3), none, none] [] σ _
  unfold fX6_bestReply
  refine k_aload_n (pc := 0) dX6_bestReply_0 rfl ?_
  refine k_gTX6_house (pc := 1) kwf_X6_28 rfl dX6_bestReply_1 ?_
  refine k_iload_n (pc := 4) dX6_bestReply_4 rfl ?_
  refine k_vi1 (pc := 5) (cT_same _ _) ckX0_hasGuest kwm_X6_132 cT_rv3 ⟨rfl, rfl⟩ ⟨Nat.le_of_ble_eq_true rfl, Nat.le_of_ble_eq_true rfl⟩ ⟨Nat.zero_le _, Nat.zero_le _⟩ (Nat.le_of_ble_eq_true rfl) dX6_bestReply_5 (fun _ _ hf => kX0_hasGuest hf) (fun r1 σ2 => ?_)
  refine k_if_ne (pc := 8) 13 dX6_bestReply_8 (by decide) ?_ ?_
  · refine k_iload_n (pc := 13) dX6_bestReply_13 rfl ?_
    refine k_if_lt (pc := 14) 22 dX6_bestReply_14 (by decide) ?_ ?_
    · refine k_bipush (pc := 22) (v := (k_ng 2)) dX6_bestReply_22 (by decide) ?_
      exact k_ireturn (pc := 24) rfl dX6_bestReply_24
    · refine k_iload_n (pc := 17) dX6_bestReply_17 rfl ?_
      refine k_iconst (pc := 18) (v := (nI 1)) dX6_bestReply_18 (by decide) ?_
      refine k_icmp_le (pc := 19) 25 dX6_bestReply_19 (by decide) ?_ ?_
      · refine k_aload_n (pc := 25) dX6_bestReply_25 rfl ?_
        refine k_gTX6_house (pc := 26) kwf_X6_28 rfl dX6_bestReply_26 ?_
        refine k_aload_n (pc := 29) dX6_bestReply_29 rfl ?_
        refine k_gTX6_talls (pc := 30) kwf_X6_35 rfl dX6_bestReply_30 ?_
        refine k_vv1 (pc := 33) (cT_same _ _) ckX0_tallsAsChosen kwm_X6_141 cT_rv3 ⟨rfl, rfl⟩ ⟨Nat.le_of_ble_eq_true rfl, Nat.le_of_ble_eq_true rfl⟩ ⟨Nat.zero_le _, Nat.zero_le _⟩ (Nat.le_of_ble_eq_true rfl) dX6_bestReply_33 (fun _ _ hf => kX0_tallsAsChosen hf) (fun r3 σ4 => ?_)
        refine k_bipush (pc := 36) (v := (k_ng 9)) dX6_bestReply_36 (by decide) ?_
        refine k_ist4 (pc := 38) dX6_bestReply_38 (Nat.le_of_ble_eq_true rfl) (fun v5 => ?_)
        refine k_iconst (pc := 40) (v := (nI 0)) dX6_bestReply_40 (by decide) ?_
        refine k_ist5 (pc := 41) dX6_bestReply_41 (Nat.le_of_ble_eq_true rfl) (fun v6 => ?_)
        exact kX6_bestReply_c43 k_F σ4 x1 x2 x3 v5 v6
      · refine k_bipush (pc := 22) (v := (k_ng 2)) dX6_bestReply_22 (by decide) ?_
        exact k_ireturn (pc := 24) rfl dX6_bestReply_24
  · refine k_iconst (pc := 11) (v := (k_ng 1)) dX6_bestReply_11 (by decide) ?_
    exact k_ireturn (pc := 12) rfl dX6_bestReply_12
-- TallTales.answer(II)I
theorem ckX6_answer : k_Vok yX6_answer cX6_answer 3 (some .int) 2 := ⟨kwk_X6_answer, kwi_X6_answer, kwv_X6_answer, kwn_X6, by decide, by decide +kernel⟩
abbrev rmX6_answer : Room := { frames := 4, cells := 0, slots := 0, locals := 95 }
abbrev YX6_answer : k_Y := (rmX6_answer, cX6_answer, 3, RX6, (some .int))
noncomputable def fX6_answer (σ : k_S) (x1 x2 : Int32) : Option (Int32 × k_S) := k_ob (fX6_bestReply σ x1 x2 ((nI 0))) fun r1 σ2 => some (r1, σ2)
set_option maxRecDepth 100000 in
set_option maxHeartbeats 4000000 in
theorem kX6_answer {D : va_G} {cI : ClassId} {q : Nat → Nat} {σ : k_S} {x1 x2 : Int32} {r : Int32} {τ : k_S} (h : fX6_answer σ x1 x2 = some (r, τ)) : k_Ct k_ei yX6_answer cX6_answer 3 (some .int) rmX6_answer (cT cI q) D cI [.ref (q 0), .int x1, .int x2] σ r τ := by
  refine k_met (Y := YX6_answer) (cT_same _ _) (by decide) rfl (Nat.le_of_ble_eq_true rfl) (List.forall_mem_cons.mpr ⟨rfl, List.forall_mem_cons.mpr ⟨rfl, List.forall_mem_cons.mpr ⟨rfl, fun _ h => absurd h List.not_mem_nil⟩⟩⟩) (fun X hD hI => ?_) h
  subst hD hI
  show KO X YX6_answer (cT (k_I X) q) 0 0 (k_Q k_ei X (cT (k_I X) q)) 0 [some (.ref (q 0)), some (.int x1), some (.int x2)] [] σ _
  unfold fX6_answer
  refine k_aload_n (pc := 0) dX6_answer_0 rfl ?_
  refine k_iload_n (pc := 1) dX6_answer_1 rfl ?_
  refine k_iload_n (pc := 2) dX6_answer_2 rfl ?_
  refine k_iconst (pc := 3) (v := (nI 0)) dX6_answer_3 (by decide) ?_
  refine k_vi3 (pc := 4) (cT_same _ _) ckX6_bestReply kwm_X6_178 cT_rv0 ⟨rfl, rfl⟩ ⟨Nat.le_of_ble_eq_true rfl, Nat.le_of_ble_eq_true rfl⟩ ⟨Nat.zero_le _, Nat.zero_le _⟩ (Nat.le_of_ble_eq_true rfl) dX6_answer_4 (fun _ _ hf => kX6_bestReply hf) (fun r1 σ2 => ?_)
  exact k_ireturn (pc := 7) rfl dX6_answer_7
-- TallTales.borrowed(II)I
theorem ckX6_borrowed : k_Vok yX6_borrowed cX6_borrowed 3 (some .int) 2 := ⟨kwk_X6_borrowed, kwi_X6_borrowed, kwv_X6_borrowed, kwn_X6, by decide, by decide +kernel⟩
abbrev rmX6_borrowed : Room := { frames := 4, cells := 0, slots := 0, locals := 95 }
abbrev YX6_borrowed : k_Y := (rmX6_borrowed, cX6_borrowed, 3, RX6, (some .int))
noncomputable def fX6_borrowed (σ : k_S) (x1 x2 : Int32) : Option (Int32 × k_S) := k_ob (fX6_bestReply σ x1 x2 ((nI 1))) fun r1 σ2 => some (r1, σ2)
set_option maxRecDepth 100000 in
set_option maxHeartbeats 4000000 in
theorem kX6_borrowed {D : va_G} {cI : ClassId} {q : Nat → Nat} {σ : k_S} {x1 x2 : Int32} {r : Int32} {τ : k_S} (h : fX6_borrowed σ x1 x2 = some (r, τ)) : k_Ct k_ei yX6_borrowed cX6_borrowed 3 (some .int) rmX6_borrowed (cT cI q) D cI [.ref (q 0), .int x1, .int x2] σ r τ := by
  refine k_met (Y := YX6_borrowed) (cT_same _ _) (by decide) rfl (Nat.le_of_ble_eq_true rfl) (List.forall_mem_cons.mpr ⟨rfl, List.forall_mem_cons.mpr ⟨rfl, List.forall_mem_cons.mpr ⟨rfl, fun _ h => absurd h List.not_mem_nil⟩⟩⟩) (fun X hD hI => ?_) h
  subst hD hI
  show KO X YX6_borrowed (cT (k_I X) q) 0 0 (k_Q k_ei X (cT (k_I X) q)) 0 [some (.ref (q 0)), some (.int x1), some (.int x2)] [] σ _
  unfold fX6_borrowed
  refine k_aload_n (pc := 0) dX6_borrowed_0 rfl ?_
  refine k_iload_n (pc := 1) dX6_borrowed_1 rfl ?_
  refine k_iload_n (pc := 2) dX6_borrowed_2 rfl ?_
  refine k_iconst (pc := 3) (v := (nI 1)) dX6_borrowed_3 (by decide) ?_
  refine k_vi3 (pc := 4) (cT_same _ _) ckX6_bestReply kwm_X6_178 cT_rv0 ⟨rfl, rfl⟩ ⟨Nat.le_of_ble_eq_true rfl, Nat.le_of_ble_eq_true rfl⟩ ⟨Nat.zero_le _, Nat.zero_le _⟩ (Nat.le_of_ble_eq_true rfl) dX6_borrowed_4 (fun _ _ hf => kX6_bestReply hf) (fun r1 σ2 => ?_)
  exact k_ireturn (pc := 7) rfl dX6_borrowed_7
-- TallTales$Talls.noLessThan(I)I
theorem ckX3_noLessThan : k_Vok yX3_noLessThan cX3_noLessThan 4 (some .int) 1 := ⟨kwk_X3_noLessThan, kwi_X3_noLessThan, kwv_X3_noLessThan, kwn_X3, by decide, by decide +kernel⟩
abbrev rmX3_noLessThan : Room := { frames := 0, cells := 0, slots := 0, locals := 0 }
abbrev YX3_noLessThan : k_Y := (rmX3_noLessThan, cX3_noLessThan, 4, RX3, (some .int))
noncomputable def fX3_noLessThan_c34 (kh4 : k_S → Int32 → Int32 → Int32 → Option (Int32 × k_S)) (σ : k_S) (l1 l2 l3 : Int32) : Option (Int32 × k_S) := k_bn (l3 + (nI 1)) fun v1 => kh4 σ l1 l2 v1
set_option maxRecDepth 100000 in
set_option maxHeartbeats 4000000 in
theorem kX3_noLessThan_c34 {X : k_C} {q : Nat → Nat} (kh4 : k_S → Int32 → Int32 → Int32 → Option (Int32 × k_S)) (hk4 : ∀ (σ : k_S) (l1 l2 l3 : Int32), KO X YX3_noLessThan (cT (k_I X) q) 0 0 (k_Q k_ei X (cT (k_I X) q)) 4 [some (.ref (q 4)), some (.int l1), some (.int l2), some (.int l3)] [] σ (kh4 σ l1 l2 l3)) (σ : k_S) (l1 l2 l3 : Int32) : KO X YX3_noLessThan (cT (k_I X) q) 0 0 (k_Q k_ei X (cT (k_I X) q)) 34 [some (.ref (q 4)), some (.int l1), some (.int l2), some (.int l3)] [] σ (fX3_noLessThan_c34 kh4 σ l1 l2 l3) := by
  unfold fX3_noLessThan_c34
  refine k_iinc3 (pc := 34) (w := (nI 1)) dX3_noLessThan_34 rfl (by decide) (Nat.le_of_ble_eq_true rfl) (fun v1 => ?_)
  refine k_goto (pc := 37) 4 dX3_noLessThan_37 (by decide) ?_
  exact hk4 σ l1 l2 v1
noncomputable def fX3_noLessThan_c4 : Nat → k_S → Int32 → Int32 → Int32 → Option (Int32 × k_S)
  | 0, _, _, _, _ => none
  | n + 1, σ, l1, l2, l3 => (if l3 < σ.1 7 then k_gd (l3) 5 ((if 0 < σ.2 14 (Int32.toNatClampNeg (l3)) then k_gd (l3) 5 ((if σ.2 14 (Int32.toNatClampNeg (l3)) < l1 then fX3_noLessThan_c34 (fX3_noLessThan_c4 n) σ l1 l2 l3 else k_bn (l2 + (nI 1)) fun v1 => fX3_noLessThan_c34 (fX3_noLessThan_c4 n) σ l1 v1 l3)) else fX3_noLessThan_c34 (fX3_noLessThan_c4 n) σ l1 l2 l3)) else some (l2, σ))
theorem fX3_noLessThan_c4_s (n : Nat) (σ : k_S) (l1 l2 l3 : Int32) : fX3_noLessThan_c4 (n + 1) σ l1 l2 l3 = (if l3 < σ.1 7 then k_gd (l3) 5 ((if 0 < σ.2 14 (Int32.toNatClampNeg (l3)) then k_gd (l3) 5 ((if σ.2 14 (Int32.toNatClampNeg (l3)) < l1 then fX3_noLessThan_c34 (fX3_noLessThan_c4 n) σ l1 l2 l3 else k_bn (l2 + (nI 1)) fun v1 => fX3_noLessThan_c34 (fX3_noLessThan_c4 n) σ l1 v1 l3)) else fX3_noLessThan_c34 (fX3_noLessThan_c4 n) σ l1 l2 l3)) else some (l2, σ)) := rfl
set_option maxRecDepth 100000 in
set_option maxHeartbeats 4000000 in
theorem kX3_noLessThan_c4 {X : k_C} {q : Nat → Nat} : ∀ (n : Nat) (σ : k_S) (l1 l2 l3 : Int32), KO X YX3_noLessThan (cT (k_I X) q) 0 0 (k_Q k_ei X (cT (k_I X) q)) 4 [some (.ref (q 4)), some (.int l1), some (.int l2), some (.int l3)] [] σ (fX3_noLessThan_c4 n σ l1 l2 l3) := by
  intro n
  induction n with
  | zero => intros; exact KO.nil
  | succ n ih =>
    intro σ l1 l2 l3
    rw [fX3_noLessThan_c4_s]
    refine k_iload_n (pc := 4) dX3_noLessThan_4 rfl ?_
    refine k_aload_n (pc := 5) dX3_noLessThan_5 rfl ?_
    refine k_gTX3_guests (pc := 6) kwf_X3_15 rfl dX3_noLessThan_6 ?_
    refine k_icmp_ge (pc := 9) 40 dX3_noLessThan_9 (by decide) ?_ ?_
    · refine k_iload_n (pc := 40) dX3_noLessThan_40 rfl ?_
      exact k_ireturn (pc := 41) rfl dX3_noLessThan_41
    · refine k_aload_n (pc := 12) dX3_noLessThan_12 rfl ?_
      refine k_gTX3_of (pc := 13) kwf_X3_9 rfl dX3_noLessThan_13 ?_
      refine k_iload_n (pc := 16) dX3_noLessThan_16 rfl ?_
      refine k_lT21 (pc := 17) dX3_noLessThan_17 ?_
      refine k_if_le (pc := 18) 34 dX3_noLessThan_18 (by decide) ?_ ?_
      · exact kX3_noLessThan_c34 (fX3_noLessThan_c4 n) ih σ l1 l2 l3
      · refine k_aload_n (pc := 21) dX3_noLessThan_21 rfl ?_
        refine k_gTX3_of (pc := 22) kwf_X3_9 rfl dX3_noLessThan_22 ?_
        refine k_iload_n (pc := 25) dX3_noLessThan_25 rfl ?_
        refine k_lT21 (pc := 26) dX3_noLessThan_26 ?_
        refine k_iload_n (pc := 27) dX3_noLessThan_27 rfl ?_
        refine k_icmp_lt (pc := 28) 34 dX3_noLessThan_28 (by decide) ?_ ?_
        · exact kX3_noLessThan_c34 (fX3_noLessThan_c4 n) ih σ l1 l2 l3
        · refine k_iinc2 (pc := 31) (w := (nI 1)) dX3_noLessThan_31 rfl (by decide) (Nat.le_of_ble_eq_true rfl) (fun v1 => ?_)
          exact kX3_noLessThan_c34 (fX3_noLessThan_c4 n) ih σ l1 v1 l3
noncomputable def fX3_noLessThan (σ : k_S) (x1 : Int32) : Option (Int32 × k_S) := k_bn ((nI 0)) fun v1 => k_bn ((nI 0)) fun v2 => fX3_noLessThan_c4 k_F σ x1 v1 v2
set_option maxRecDepth 100000 in
set_option maxHeartbeats 4000000 in
theorem kX3_noLessThan {D : va_G} {cI : ClassId} {q : Nat → Nat} {σ : k_S} {x1 : Int32} {r : Int32} {τ : k_S} (h : fX3_noLessThan σ x1 = some (r, τ)) : k_Ct k_ei yX3_noLessThan cX3_noLessThan 4 (some .int) rmX3_noLessThan (cT cI q) D cI [.ref (q 4), .int x1] σ r τ := by
  refine k_met (Y := YX3_noLessThan) (cT_same _ _) (by decide) rfl (Nat.le_of_ble_eq_true rfl) (List.forall_mem_cons.mpr ⟨rfl, List.forall_mem_cons.mpr ⟨rfl, fun _ h => absurd h List.not_mem_nil⟩⟩) (fun X hD hI => ?_) h
  subst hD hI
  show KO X YX3_noLessThan (cT (k_I X) q) 0 0 (k_Q k_ei X (cT (k_I X) q)) 0 [some (.ref (q 4)), some (.int x1), none, none] [] σ _
  unfold fX3_noLessThan
  refine k_iconst (pc := 0) (v := (nI 0)) dX3_noLessThan_0 (by decide) ?_
  refine k_ist2 (pc := 1) dX3_noLessThan_1 (Nat.le_of_ble_eq_true rfl) (fun v1 => ?_)
  refine k_iconst (pc := 2) (v := (nI 0)) dX3_noLessThan_2 (by decide) ?_
  refine k_ist3 (pc := 3) dX3_noLessThan_3 (Nat.le_of_ble_eq_true rfl) (fun v2 => ?_)
  exact kX3_noLessThan_c4 k_F σ x1 v1 v2
-- TallTales.bishop(I)I
theorem ckX6_bishop : k_Vok yX6_bishop cX6_bishop 2 (some .int) 1 := ⟨kwk_X6_bishop, kwi_X6_bishop, kwv_X6_bishop, kwn_X6, by decide, by decide +kernel⟩
abbrev rmX6_bishop : Room := { frames := 3, cells := 0, slots := 0, locals := 65 }
abbrev YX6_bishop : k_Y := (rmX6_bishop, cX6_bishop, 2, RX6, (some .int))
noncomputable def fX6_bishop (σ : k_S) (x1 : Int32) : Option (Int32 × k_S) := (if x1 < 0 then some ((k_ng 2), σ) else (if (nI 999) < x1 then some ((k_ng 2), σ) else k_ob (fX0_isOpen σ) fun r1 σ2 => (if r1 = 0 then some ((k_ng 3), σ2) else k_ob (fX0_tallsAsChosen σ2) fun r3 σ4 => k_ob (fX3_noLessThan σ4 x1) fun r5 σ6 => some (r5, σ6))))
set_option maxRecDepth 100000 in
set_option maxHeartbeats 4000000 in
theorem kX6_bishop {D : va_G} {cI : ClassId} {q : Nat → Nat} {σ : k_S} {x1 : Int32} {r : Int32} {τ : k_S} (h : fX6_bishop σ x1 = some (r, τ)) : k_Ct k_ei yX6_bishop cX6_bishop 2 (some .int) rmX6_bishop (cT cI q) D cI [.ref (q 0), .int x1] σ r τ := by
  refine k_met (Y := YX6_bishop) (cT_same _ _) (by decide) rfl (Nat.le_of_ble_eq_true rfl) (List.forall_mem_cons.mpr ⟨rfl, List.forall_mem_cons.mpr ⟨rfl, fun _ h => absurd h List.not_mem_nil⟩⟩) (fun X hD hI => ?_) h
  subst hD hI
  show KO X YX6_bishop (cT (k_I X) q) 0 0 (k_Q k_ei X (cT (k_I X) q)) 0 [some (.ref (q 0)), some (.int x1)] [] σ _
  unfold fX6_bishop
  refine k_iload_n (pc := 0) dX6_bishop_0 rfl ?_
  refine k_if_lt (pc := 1) 11 dX6_bishop_1 (by decide) ?_ ?_
  · refine k_bipush (pc := 11) (v := (k_ng 2)) dX6_bishop_11 (by decide) ?_
    exact k_ireturn (pc := 13) rfl dX6_bishop_13
  · refine k_iload_n (pc := 4) dX6_bishop_4 rfl ?_
    refine k_sipush (pc := 5) (v := (nI 999)) dX6_bishop_5 (by decide) ?_
    refine k_icmp_le (pc := 8) 14 dX6_bishop_8 (by decide) ?_ ?_
    · refine k_aload_n (pc := 14) dX6_bishop_14 rfl ?_
      refine k_gTX6_house (pc := 15) kwf_X6_28 rfl dX6_bishop_15 ?_
      refine k_vi0 (pc := 18) (cT_same _ _) ckX0_isOpen kwm_X6_125 cT_rv3 ⟨rfl, rfl⟩ ⟨Nat.le_of_ble_eq_true rfl, Nat.le_of_ble_eq_true rfl⟩ ⟨Nat.zero_le _, Nat.zero_le _⟩ (Nat.le_of_ble_eq_true rfl) dX6_bishop_18 (fun _ _ hf => kX0_isOpen hf) (fun r1 σ2 => ?_)
      refine k_if_ne (pc := 21) 27 dX6_bishop_21 (by decide) ?_ ?_
      · refine k_aload_n (pc := 27) dX6_bishop_27 rfl ?_
        refine k_gTX6_house (pc := 28) kwf_X6_28 rfl dX6_bishop_28 ?_
        refine k_aload_n (pc := 31) dX6_bishop_31 rfl ?_
        refine k_gTX6_talls (pc := 32) kwf_X6_35 rfl dX6_bishop_32 ?_
        refine k_vv1 (pc := 35) (cT_same _ _) ckX0_tallsAsChosen kwm_X6_141 cT_rv3 ⟨rfl, rfl⟩ ⟨Nat.le_of_ble_eq_true rfl, Nat.le_of_ble_eq_true rfl⟩ ⟨Nat.zero_le _, Nat.zero_le _⟩ (Nat.le_of_ble_eq_true rfl) dX6_bishop_35 (fun _ _ hf => kX0_tallsAsChosen hf) (fun r3 σ4 => ?_)
        refine k_aload_n (pc := 38) dX6_bishop_38 rfl ?_
        refine k_gTX6_talls (pc := 39) kwf_X6_35 rfl dX6_bishop_39 ?_
        refine k_iload_n (pc := 42) dX6_bishop_42 rfl ?_
        refine k_vi1 (pc := 43) (cT_same _ _) ckX3_noLessThan kwm_X6_182 cT_rv4 ⟨rfl, rfl⟩ ⟨Nat.le_of_ble_eq_true rfl, Nat.le_of_ble_eq_true rfl⟩ ⟨Nat.zero_le _, Nat.zero_le _⟩ (Nat.le_of_ble_eq_true rfl) dX6_bishop_43 (fun _ _ hf => kX3_noLessThan hf) (fun r5 σ6 => ?_)
        exact k_ireturn (pc := 46) rfl dX6_bishop_46
      · refine k_bipush (pc := 24) (v := (k_ng 3)) dX6_bishop_24 (by decide) ?_
        exact k_ireturn (pc := 26) rfl dX6_bishop_26
    · refine k_bipush (pc := 11) (v := (k_ng 2)) dX6_bishop_11 (by decide) ?_
      exact k_ireturn (pc := 13) rfl dX6_bishop_13
-- TallTales$Sheets.makeRow(III)V
theorem ckX2_makeRow : k_Vok yX2_makeRow cX2_makeRow 4 none 3 := ⟨kwk_X2_makeRow, kwi_X2_makeRow, kwv_X2_makeRow, kwn_X2, by decide, by decide +kernel⟩
abbrev rmX2_makeRow : Room := { frames := 2, cells := 0, slots := 0, locals := 90 }
abbrev YX2_makeRow : k_Y := (rmX2_makeRow, cX2_makeRow, 4, RX2, none)
noncomputable def fX2_makeRow (σ : k_S) (x1 x2 x3 : Int32) : Option (Unit × k_S) := k_gd (x1) 4 (k_bn (k_sa σ 2 (x1) (x2)) fun σ1 => k_gd (x1) 4 (k_bn (k_sa σ1 3 (x1) (x3)) fun σ2 => k_gf ((x1 * (nI 60))) (((x1 * (nI 60)) + x3)) 240 (k_bn (k_sA σ2 1 (k_fl (σ2.2 1) (Int32.toNatClampNeg ((x1 * (nI 60)))) (Int32.toNatClampNeg (((x1 * (nI 60)) + x3))) ((nI 0)))) fun σ3 => some ((), σ3))))
set_option maxRecDepth 100000 in
set_option maxHeartbeats 4000000 in
theorem kX2_makeRow {D : va_G} {cI : ClassId} {q : Nat → Nat} {σ : k_S} {x1 x2 x3 : Int32} {r : Unit} {τ : k_S} (h : fX2_makeRow σ x1 x2 x3 = some (r, τ)) : k_Ct k_ev yX2_makeRow cX2_makeRow 4 none rmX2_makeRow (cT cI q) D cI [.ref (q 1), .int x1, .int x2, .int x3] σ r τ := by
  refine k_met (Y := YX2_makeRow) (cT_same _ _) (by decide) rfl (Nat.le_of_ble_eq_true rfl) (List.forall_mem_cons.mpr ⟨rfl, List.forall_mem_cons.mpr ⟨rfl, List.forall_mem_cons.mpr ⟨rfl, List.forall_mem_cons.mpr ⟨rfl, fun _ h => absurd h List.not_mem_nil⟩⟩⟩⟩) (fun X hD hI => ?_) h
  subst hD hI
  show KO X YX2_makeRow (cT (k_I X) q) 0 0 (k_Q k_ev X (cT (k_I X) q)) 0 [some (.ref (q 1)), some (.int x1), some (.int x2), some (.int x3)] [] σ _
  unfold fX2_makeRow
  refine k_aload_n (pc := 0) dX2_makeRow_0 rfl ?_
  refine k_gTX2_sorts (pc := 1) kwf_X2_15 rfl dX2_makeRow_1 ?_
  refine k_iload_n (pc := 4) dX2_makeRow_4 rfl ?_
  refine k_iload_n (pc := 5) dX2_makeRow_5 rfl ?_
  refine k_sT9 (pc := 6) dX2_makeRow_6 (fun σ1 => ?_)
  refine k_aload_n (pc := 7) dX2_makeRow_7 rfl ?_
  refine k_gTX2_lengths (pc := 8) kwf_X2_18 rfl dX2_makeRow_8 ?_
  refine k_iload_n (pc := 11) dX2_makeRow_11 rfl ?_
  refine k_iload_n (pc := 12) dX2_makeRow_12 rfl ?_
  refine k_sT10 (pc := 13) dX2_makeRow_13 (fun σ2 => ?_)
  refine k_aload_n (pc := 14) dX2_makeRow_14 rfl ?_
  refine k_gTX2_cells (pc := 15) kwf_X2_9 rfl dX2_makeRow_15 ?_
  refine k_iload_n (pc := 18) dX2_makeRow_18 rfl ?_
  refine k_bipush (pc := 19) (v := (nI 60)) dX2_makeRow_19 (by decide) ?_
  refine k_imul (pc := 21) dX2_makeRow_21 ?_
  refine k_iload_n (pc := 22) dX2_makeRow_22 rfl ?_
  refine k_bipush (pc := 23) (v := (nI 60)) dX2_makeRow_23 (by decide) ?_
  refine k_imul (pc := 25) dX2_makeRow_25 ?_
  refine k_iload_n (pc := 26) dX2_makeRow_26 rfl ?_
  refine k_iadd (pc := 27) dX2_makeRow_27 ?_
  refine k_iconst (pc := 28) (v := (nI 0)) dX2_makeRow_28 (by decide) ?_
  refine k_fT4_8 (pc := 29) kwm_X2_35 ⟨Nat.le_of_ble_eq_true rfl, Nat.le_of_ble_eq_true rfl⟩ dX2_makeRow_29 (fun σ3 => ?_)
  exact k_return (pc := 32) rfl dX2_makeRow_32
-- TallTales.sheet(III)I
theorem ckX6_sheet : k_Vok yX6_sheet cX6_sheet 4 (some .int) 3 := ⟨kwk_X6_sheet, kwi_X6_sheet, kwv_X6_sheet, kwn_X6, by decide, by decide +kernel⟩
abbrev rmX6_sheet : Room := { frames := 3, cells := 0, slots := 0, locals := 113 }
abbrev YX6_sheet : k_Y := (rmX6_sheet, cX6_sheet, 4, RX6, (some .int))
noncomputable def fX6_sheet (σ : k_S) (x1 x2 x3 : Int32) : Option (Int32 × k_S) := k_bn (k_sf σ 1 ((nI 0))) fun σ1 => k_ob (fX6_isSheet σ1 x1) fun r2 σ3 => (if r2 = 0 then some ((k_ng 1), σ3) else k_ob (fX6_isSort σ3 x2) fun r4 σ5 => (if r4 = 0 then some ((k_ng 2), σ5) else (if (nI 60) < x3 then some ((k_ng 2), σ5) else (if x3 < 0 then k_ob (fX6_faulty σ5 ((nI 4))) fun r8 σ9 => some (r8, σ9) else k_ob (fX2_makeRow σ5 x1 x2 x3) fun r6 σ7 => some ((nI 1), σ7)))))
set_option maxRecDepth 100000 in
set_option maxHeartbeats 4000000 in
theorem kX6_sheet {D : va_G} {cI : ClassId} {q : Nat → Nat} {σ : k_S} {x1 x2 x3 : Int32} {r : Int32} {τ : k_S} (h : fX6_sheet σ x1 x2 x3 = some (r, τ)) : k_Ct k_ei yX6_sheet cX6_sheet 4 (some .int) rmX6_sheet (cT cI q) D cI [.ref (q 0), .int x1, .int x2, .int x3] σ r τ := by
  refine k_met (Y := YX6_sheet) (cT_same _ _) (by decide) rfl (Nat.le_of_ble_eq_true rfl) (List.forall_mem_cons.mpr ⟨rfl, List.forall_mem_cons.mpr ⟨rfl, List.forall_mem_cons.mpr ⟨rfl, List.forall_mem_cons.mpr ⟨rfl, fun _ h => absurd h List.not_mem_nil⟩⟩⟩⟩) (fun X hD hI => ?_) h
  subst hD hI
  show KO X YX6_sheet (cT (k_I X) q) 0 0 (k_Q k_ei X (cT (k_I X) q)) 0 [some (.ref (q 0)), some (.int x1), some (.int x2), some (.int x3)] [] σ _
  unfold fX6_sheet
  refine k_aload_n (pc := 0) dX6_sheet_0 rfl ?_
  refine k_iconst (pc := 1) (v := (nI 0)) dX6_sheet_1 (by decide) ?_
  refine k_pTX6_fault (pc := 2) kwf_X6_61 rfl dX6_sheet_2 (fun σ1 => ?_)
  refine k_iload_n (pc := 5) dX6_sheet_5 rfl ?_
  refine k_si1 (pc := 6) (cT_same _ _) ckX6_isSheet kwm_X6_65 ⟨rfl, rfl⟩ ⟨Nat.le_of_ble_eq_true rfl, Nat.le_of_ble_eq_true rfl⟩ ⟨Nat.zero_le _, Nat.zero_le _⟩ (Nat.le_of_ble_eq_true rfl) dX6_sheet_6 (fun _ _ hf => kX6_isSheet hf) (fun r2 σ3 => ?_)
  refine k_if_ne (pc := 9) 14 dX6_sheet_9 (by decide) ?_ ?_
  · refine k_iload_n (pc := 14) dX6_sheet_14 rfl ?_
    refine k_si1 (pc := 15) (cT_same _ _) ckX6_isSort kwm_X6_69 ⟨rfl, rfl⟩ ⟨Nat.le_of_ble_eq_true rfl, Nat.le_of_ble_eq_true rfl⟩ ⟨Nat.zero_le _, Nat.zero_le _⟩ (Nat.le_of_ble_eq_true rfl) dX6_sheet_15 (fun _ _ hf => kX6_isSort hf) (fun r4 σ5 => ?_)
    refine k_if_eq (pc := 18) 27 dX6_sheet_18 (by decide) ?_ ?_
    · refine k_bipush (pc := 27) (v := (k_ng 2)) dX6_sheet_27 (by decide) ?_
      exact k_ireturn (pc := 29) rfl dX6_sheet_29
    · refine k_iload_n (pc := 21) dX6_sheet_21 rfl ?_
      refine k_bipush (pc := 22) (v := (nI 60)) dX6_sheet_22 (by decide) ?_
      refine k_icmp_le (pc := 24) 30 dX6_sheet_24 (by decide) ?_ ?_
      · refine k_iload_n (pc := 30) dX6_sheet_30 rfl ?_
        refine k_if_ge (pc := 31) 40 dX6_sheet_31 (by decide) ?_ ?_
        · refine k_aload_n (pc := 40) dX6_sheet_40 rfl ?_
          refine k_gTX6_sheets (pc := 41) kwf_X6_12 rfl dX6_sheet_41 ?_
          refine k_iload_n (pc := 44) dX6_sheet_44 rfl ?_
          refine k_iload_n (pc := 45) dX6_sheet_45 rfl ?_
          refine k_iload_n (pc := 46) dX6_sheet_46 rfl ?_
          refine k_vv3 (pc := 47) (cT_same _ _) ckX2_makeRow kwm_X6_218 cT_rv1 ⟨rfl, rfl⟩ ⟨Nat.le_of_ble_eq_true rfl, Nat.le_of_ble_eq_true rfl⟩ ⟨Nat.zero_le _, Nat.zero_le _⟩ (Nat.le_of_ble_eq_true rfl) dX6_sheet_47 (fun _ _ hf => kX2_makeRow hf) (fun r6 σ7 => ?_)
          refine k_iconst (pc := 50) (v := (nI 1)) dX6_sheet_50 (by decide) ?_
          exact k_ireturn (pc := 51) rfl dX6_sheet_51
        · refine k_aload_n (pc := 34) dX6_sheet_34 rfl ?_
          refine k_iconst (pc := 35) (v := (nI 4)) dX6_sheet_35 (by decide) ?_
          refine k_vi1 (pc := 36) (cT_same _ _) ckX6_faulty kwm_X6_76 cT_rv0 ⟨rfl, rfl⟩ ⟨Nat.le_of_ble_eq_true rfl, Nat.le_of_ble_eq_true rfl⟩ ⟨Nat.zero_le _, Nat.zero_le _⟩ (Nat.le_of_ble_eq_true rfl) dX6_sheet_36 (fun _ _ hf => kX6_faulty hf) (fun r8 σ9 => ?_)
          exact k_ireturn (pc := 39) rfl dX6_sheet_39
      · refine k_bipush (pc := 27) (v := (k_ng 2)) dX6_sheet_27 (by decide) ?_
        exact k_ireturn (pc := 29) rfl dX6_sheet_29
  · refine k_iconst (pc := 12) (v := (k_ng 1)) dX6_sheet_12 (by decide) ?_
    exact k_ireturn (pc := 13) rfl dX6_sheet_13
-- TallTales$Sheets.write(III)V
theorem ckX2_write : k_Vok yX2_write cX2_write 5 none 3 := ⟨kwk_X2_write, kwi_X2_write, kwv_X2_write, kwn_X2, by decide, by decide +kernel⟩
abbrev rmX2_write : Room := { frames := 0, cells := 0, slots := 0, locals := 0 }
abbrev YX2_write : k_Y := (rmX2_write, cX2_write, 5, RX2, none)
noncomputable def fX2_write_c30 (σ : k_S) (l1 l2 l4 : Int32) : Option (Unit × k_S) := k_gd (((l1 * (nI 60)) + l2)) 240 (k_bn (k_sa σ 1 (((l1 * (nI 60)) + l2)) (l4)) fun σ1 => some ((), σ1))
set_option maxRecDepth 100000 in
set_option maxHeartbeats 4000000 in
theorem kX2_write_c30 {X : k_C} {q : Nat → Nat} (σ : k_S) (l1 l2 l4 : Int32) : KO X YX2_write (cT (k_I X) q) 0 0 (k_Q k_ev X (cT (k_I X) q)) 30 [some (.ref (q 1)), some (.int l1), some (.int l2), none, some (.int l4)] [] σ (fX2_write_c30 σ l1 l2 l4) := by
  unfold fX2_write_c30
  refine k_aload_n (pc := 30) dX2_write_30 rfl ?_
  refine k_gTX2_cells (pc := 31) kwf_X2_9 rfl dX2_write_31 ?_
  refine k_iload_n (pc := 34) dX2_write_34 rfl ?_
  refine k_bipush (pc := 35) (v := (nI 60)) dX2_write_35 (by decide) ?_
  refine k_imul (pc := 37) dX2_write_37 ?_
  refine k_iload_n (pc := 38) dX2_write_38 rfl ?_
  refine k_iadd (pc := 39) dX2_write_39 ?_
  refine k_iload (pc := 40) dX2_write_40 rfl ?_
  refine k_sT8 (pc := 42) dX2_write_42 (fun σ1 => ?_)
  exact k_return (pc := 43) rfl dX2_write_43
noncomputable def fX2_write_c16 (σ : k_S) (l1 l2 l3 l4 : Int32) : Option (Unit × k_S) := k_gd (l1) 4 ((if σ.2 2 (Int32.toNatClampNeg (l1)) = (nI 1) then k_bn ((l3).toInt16.toInt32) fun v1 => fX2_write_c30 σ l1 l2 v1 else fX2_write_c30 σ l1 l2 l4))
set_option maxRecDepth 100000 in
set_option maxHeartbeats 4000000 in
theorem kX2_write_c16 {X : k_C} {q : Nat → Nat} (σ : k_S) (l1 l2 l3 l4 : Int32) : KO X YX2_write (cT (k_I X) q) 0 0 (k_Q k_ev X (cT (k_I X) q)) 16 [some (.ref (q 1)), some (.int l1), some (.int l2), some (.int l3), some (.int l4)] [] σ (fX2_write_c16 σ l1 l2 l3 l4) := by
  unfold fX2_write_c16
  refine k_aload_n (pc := 16) dX2_write_16 rfl ?_
  refine k_gTX2_sorts (pc := 17) kwf_X2_15 rfl dX2_write_17 ?_
  refine k_iload_n (pc := 20) dX2_write_20 rfl ?_
  refine k_lT9 (pc := 21) dX2_write_21 ?_
  refine k_iconst (pc := 22) (v := (nI 1)) dX2_write_22 (by decide) ?_
  refine k_icmp_ne (pc := 23) 30 dX2_write_23 (by decide) ?_ ?_
  · refine k_fg3 ?_
    exact kX2_write_c30 σ l1 l2 l4
  · refine k_iload_n (pc := 26) dX2_write_26 rfl ?_
    refine k_i2s (pc := 27) dX2_write_27 ?_
    refine k_ist4 (pc := 28) dX2_write_28 (Nat.le_of_ble_eq_true rfl) (fun v1 => ?_)
    refine k_fg3 ?_
    exact kX2_write_c30 σ l1 l2 v1
noncomputable def fX2_write (σ : k_S) (x1 x2 x3 : Int32) : Option (Unit × k_S) := k_bn (x3) fun v1 => k_gd (x1) 4 ((if σ.2 2 (Int32.toNatClampNeg (x1)) = 0 then k_bn ((x3).toInt8.toInt32) fun v2 => fX2_write_c16 σ x1 x2 x3 v2 else fX2_write_c16 σ x1 x2 x3 v1))
set_option maxRecDepth 100000 in
set_option maxHeartbeats 4000000 in
theorem kX2_write {D : va_G} {cI : ClassId} {q : Nat → Nat} {σ : k_S} {x1 x2 x3 : Int32} {r : Unit} {τ : k_S} (h : fX2_write σ x1 x2 x3 = some (r, τ)) : k_Ct k_ev yX2_write cX2_write 5 none rmX2_write (cT cI q) D cI [.ref (q 1), .int x1, .int x2, .int x3] σ r τ := by
  refine k_met (Y := YX2_write) (cT_same _ _) (by decide) rfl (Nat.le_of_ble_eq_true rfl) (List.forall_mem_cons.mpr ⟨rfl, List.forall_mem_cons.mpr ⟨rfl, List.forall_mem_cons.mpr ⟨rfl, List.forall_mem_cons.mpr ⟨rfl, fun _ h => absurd h List.not_mem_nil⟩⟩⟩⟩) (fun X hD hI => ?_) h
  subst hD hI
  show KO X YX2_write (cT (k_I X) q) 0 0 (k_Q k_ev X (cT (k_I X) q)) 0 [some (.ref (q 1)), some (.int x1), some (.int x2), some (.int x3), none] [] σ _
  unfold fX2_write
  refine k_iload_n (pc := 0) dX2_write_0 rfl ?_
  refine k_ist4 (pc := 1) dX2_write_1 (Nat.le_of_ble_eq_true rfl) (fun v1 => ?_)
  refine k_aload_n (pc := 3) dX2_write_3 rfl ?_
  refine k_gTX2_sorts (pc := 4) kwf_X2_15 rfl dX2_write_4 ?_
  refine k_iload_n (pc := 7) dX2_write_7 rfl ?_
  refine k_lT9 (pc := 8) dX2_write_8 ?_
  refine k_if_ne (pc := 9) 16 dX2_write_9 (by decide) ?_ ?_
  · exact kX2_write_c16 σ x1 x2 x3 v1
  · refine k_iload_n (pc := 12) dX2_write_12 rfl ?_
    refine k_i2b (pc := 13) dX2_write_13 ?_
    refine k_ist4 (pc := 14) dX2_write_14 (Nat.le_of_ble_eq_true rfl) (fun v2 => ?_)
    exact kX2_write_c16 σ x1 x2 x3 v2
-- TallTales.put(III)I
theorem ckX6_put : k_Vok yX6_put cX6_put 4 (some .int) 3 := ⟨kwk_X6_put, kwi_X6_put, kwv_X6_put, kwn_X6, by decide, by decide +kernel⟩
abbrev rmX6_put : Room := { frames := 1, cells := 0, slots := 0, locals := 24 }
abbrev YX6_put : k_Y := (rmX6_put, cX6_put, 4, RX6, (some .int))
noncomputable def fX6_put (σ : k_S) (x1 x2 x3 : Int32) : Option (Int32 × k_S) := k_bn (k_sf σ 1 ((nI 0))) fun σ1 => k_ob (fX6_isSheet σ1 x1) fun r2 σ3 => (if r2 = 0 then some ((k_ng 1), σ3) else k_ob (fX2_hasRow σ3 x1) fun r4 σ5 => (if r4 = 0 then k_ob (fX6_faulty σ5 ((nI 1))) fun r12 σ13 => some (r12, σ13) else k_ob (fX2_hasCells σ5 x1 x2 ((nI 1))) fun r6 σ7 => (if r6 = 0 then k_ob (fX6_faulty σ7 ((nI 3))) fun r10 σ11 => some (r10, σ11) else k_ob (fX2_write σ7 x1 x2 x3) fun r8 σ9 => some ((nI 1), σ9))))
set_option maxRecDepth 100000 in
set_option maxHeartbeats 4000000 in
theorem kX6_put {D : va_G} {cI : ClassId} {q : Nat → Nat} {σ : k_S} {x1 x2 x3 : Int32} {r : Int32} {τ : k_S} (h : fX6_put σ x1 x2 x3 = some (r, τ)) : k_Ct k_ei yX6_put cX6_put 4 (some .int) rmX6_put (cT cI q) D cI [.ref (q 0), .int x1, .int x2, .int x3] σ r τ := by
  refine k_met (Y := YX6_put) (cT_same _ _) (by decide) rfl (Nat.le_of_ble_eq_true rfl) (List.forall_mem_cons.mpr ⟨rfl, List.forall_mem_cons.mpr ⟨rfl, List.forall_mem_cons.mpr ⟨rfl, List.forall_mem_cons.mpr ⟨rfl, fun _ h => absurd h List.not_mem_nil⟩⟩⟩⟩) (fun X hD hI => ?_) h
  subst hD hI
  show KO X YX6_put (cT (k_I X) q) 0 0 (k_Q k_ei X (cT (k_I X) q)) 0 [some (.ref (q 0)), some (.int x1), some (.int x2), some (.int x3)] [] σ _
  unfold fX6_put
  refine k_aload_n (pc := 0) dX6_put_0 rfl ?_
  refine k_iconst (pc := 1) (v := (nI 0)) dX6_put_1 (by decide) ?_
  refine k_pTX6_fault (pc := 2) kwf_X6_61 rfl dX6_put_2 (fun σ1 => ?_)
  refine k_iload_n (pc := 5) dX6_put_5 rfl ?_
  refine k_si1 (pc := 6) (cT_same _ _) ckX6_isSheet kwm_X6_65 ⟨rfl, rfl⟩ ⟨Nat.le_of_ble_eq_true rfl, Nat.le_of_ble_eq_true rfl⟩ ⟨Nat.zero_le _, Nat.zero_le _⟩ (Nat.le_of_ble_eq_true rfl) dX6_put_6 (fun _ _ hf => kX6_isSheet hf) (fun r2 σ3 => ?_)
  refine k_if_ne (pc := 9) 14 dX6_put_9 (by decide) ?_ ?_
  · refine k_aload_n (pc := 14) dX6_put_14 rfl ?_
    refine k_gTX6_sheets (pc := 15) kwf_X6_12 rfl dX6_put_15 ?_
    refine k_iload_n (pc := 18) dX6_put_18 rfl ?_
    refine k_vi1 (pc := 19) (cT_same _ _) ckX2_hasRow kwm_X6_225 cT_rv1 ⟨rfl, rfl⟩ ⟨Nat.le_of_ble_eq_true rfl, Nat.le_of_ble_eq_true rfl⟩ ⟨Nat.zero_le _, Nat.zero_le _⟩ (Nat.le_of_ble_eq_true rfl) dX6_put_19 (fun _ _ hf => kX2_hasRow hf) (fun r4 σ5 => ?_)
    refine k_if_ne (pc := 22) 31 dX6_put_22 (by decide) ?_ ?_
    · refine k_aload_n (pc := 31) dX6_put_31 rfl ?_
      refine k_gTX6_sheets (pc := 32) kwf_X6_12 rfl dX6_put_32 ?_
      refine k_iload_n (pc := 35) dX6_put_35 rfl ?_
      refine k_iload_n (pc := 36) dX6_put_36 rfl ?_
      refine k_iconst (pc := 37) (v := (nI 1)) dX6_put_37 (by decide) ?_
      refine k_vi3 (pc := 38) (cT_same _ _) ckX2_hasCells kwm_X6_228 cT_rv1 ⟨rfl, rfl⟩ ⟨Nat.le_of_ble_eq_true rfl, Nat.le_of_ble_eq_true rfl⟩ ⟨Nat.zero_le _, Nat.zero_le _⟩ (Nat.le_of_ble_eq_true rfl) dX6_put_38 (fun _ _ hf => kX2_hasCells hf) (fun r6 σ7 => ?_)
      refine k_if_ne (pc := 41) 50 dX6_put_41 (by decide) ?_ ?_
      · refine k_aload_n (pc := 50) dX6_put_50 rfl ?_
        refine k_gTX6_sheets (pc := 51) kwf_X6_12 rfl dX6_put_51 ?_
        refine k_iload_n (pc := 54) dX6_put_54 rfl ?_
        refine k_iload_n (pc := 55) dX6_put_55 rfl ?_
        refine k_iload_n (pc := 56) dX6_put_56 rfl ?_
        refine k_vv3 (pc := 57) (cT_same _ _) ckX2_write kwm_X6_232 cT_rv1 ⟨rfl, rfl⟩ ⟨Nat.le_of_ble_eq_true rfl, Nat.le_of_ble_eq_true rfl⟩ ⟨Nat.zero_le _, Nat.zero_le _⟩ (Nat.le_of_ble_eq_true rfl) dX6_put_57 (fun _ _ hf => kX2_write hf) (fun r8 σ9 => ?_)
        refine k_iconst (pc := 60) (v := (nI 1)) dX6_put_60 (by decide) ?_
        exact k_ireturn (pc := 61) rfl dX6_put_61
      · refine k_aload_n (pc := 44) dX6_put_44 rfl ?_
        refine k_iconst (pc := 45) (v := (nI 3)) dX6_put_45 (by decide) ?_
        refine k_vi1 (pc := 46) (cT_same _ _) ckX6_faulty kwm_X6_76 cT_rv0 ⟨rfl, rfl⟩ ⟨Nat.le_of_ble_eq_true rfl, Nat.le_of_ble_eq_true rfl⟩ ⟨Nat.zero_le _, Nat.zero_le _⟩ (Nat.le_of_ble_eq_true rfl) dX6_put_46 (fun _ _ hf => kX6_faulty hf) (fun r10 σ11 => ?_)
        exact k_ireturn (pc := 49) rfl dX6_put_49
    · refine k_aload_n (pc := 25) dX6_put_25 rfl ?_
      refine k_iconst (pc := 26) (v := (nI 1)) dX6_put_26 (by decide) ?_
      refine k_vi1 (pc := 27) (cT_same _ _) ckX6_faulty kwm_X6_76 cT_rv0 ⟨rfl, rfl⟩ ⟨Nat.le_of_ble_eq_true rfl, Nat.le_of_ble_eq_true rfl⟩ ⟨Nat.zero_le _, Nat.zero_le _⟩ (Nat.le_of_ble_eq_true rfl) dX6_put_27 (fun _ _ hf => kX6_faulty hf) (fun r12 σ13 => ?_)
      exact k_ireturn (pc := 30) rfl dX6_put_30
  · refine k_iconst (pc := 12) (v := (k_ng 1)) dX6_put_12 (by decide) ?_
    exact k_ireturn (pc := 13) rfl dX6_put_13
-- TallTales.many(I)I
theorem ckX6_many : k_Vok yX6_many cX6_many 2 (some .int) 1 := ⟨kwk_X6_many, kwi_X6_many, kwv_X6_many, kwn_X6, by decide, by decide +kernel⟩
abbrev rmX6_many : Room := { frames := 0, cells := 0, slots := 0, locals := 0 }
abbrev YX6_many : k_Y := (rmX6_many, cX6_many, 2, RX6, (some .int))
noncomputable def fX6_many (σ : k_S) (x1 : Int32) : Option (Int32 × k_S) := (if x1 = (nI 0) then some (σ.1 3, σ) else (if x1 = (nI 1) then some (σ.1 4, σ) else (if x1 = (nI 2) then some (σ.1 6, σ) else (if x1 = (nI 3) then some (σ.1 5, σ) else some ((k_ng 2), σ)))))
set_option maxRecDepth 100000 in
set_option maxHeartbeats 4000000 in
theorem kX6_many {D : va_G} {cI : ClassId} {q : Nat → Nat} {σ : k_S} {x1 : Int32} {r : Int32} {τ : k_S} (h : fX6_many σ x1 = some (r, τ)) : k_Ct k_ei yX6_many cX6_many 2 (some .int) rmX6_many (cT cI q) D cI [.ref (q 0), .int x1] σ r τ := by
  refine k_met (Y := YX6_many) (cT_same _ _) (by decide) rfl (Nat.le_of_ble_eq_true rfl) (List.forall_mem_cons.mpr ⟨rfl, List.forall_mem_cons.mpr ⟨rfl, fun _ h => absurd h List.not_mem_nil⟩⟩) (fun X hD hI => ?_) h
  subst hD hI
  show KO X YX6_many (cT (k_I X) q) 0 0 (k_Q k_ei X (cT (k_I X) q)) 0 [some (.ref (q 0)), some (.int x1)] [] σ _
  unfold fX6_many
  refine k_iload_n (pc := 0) dX6_many_0 rfl ?_
  refine KO.ite (c := x1 = (nI 0)) (fun hs1_0 => ?_) (fun hs1_0 => ?_)
  · refine k_tableIn (off := 31) (pc := 1) 32 dX6_many_1 hs1_0 (by decide) (by decide) (by decide) (by decide) ?_
    refine k_aload_n (pc := 32) dX6_many_32 rfl ?_
    refine k_gTX6_house (pc := 33) kwf_X6_28 rfl dX6_many_33 ?_
    refine k_gTX0_guests (pc := 36) kwf_X6_208 rfl dX6_many_36 ?_
    exact k_ireturn (pc := 39) rfl dX6_many_39
  · refine KO.ite (c := x1 = (nI 1)) (fun hs1_1 => ?_) (fun hs1_1 => ?_)
    · refine k_tableIn (off := 39) (pc := 1) 40 dX6_many_1 hs1_1 (by decide) (by decide) (by decide) (by decide) ?_
      refine k_aload_n (pc := 40) dX6_many_40 rfl ?_
      refine k_gTX6_house (pc := 41) kwf_X6_28 rfl dX6_many_41 ?_
      refine k_gTX0_tales (pc := 44) kwf_X6_98 rfl dX6_many_44 ?_
      exact k_ireturn (pc := 47) rfl dX6_many_47
    · refine KO.ite (c := x1 = (nI 2)) (fun hs1_2 => ?_) (fun hs1_2 => ?_)
      · refine k_tableIn (off := 47) (pc := 1) 48 dX6_many_1 hs1_2 (by decide) (by decide) (by decide) (by decide) ?_
        refine k_aload_n (pc := 48) dX6_many_48 rfl ?_
        refine k_gTX6_house (pc := 49) kwf_X6_28 rfl dX6_many_49 ?_
        refine k_gTX0_nights (pc := 52) kwf_X6_138 rfl dX6_many_52 ?_
        exact k_ireturn (pc := 55) rfl dX6_many_55
      · refine KO.ite (c := x1 = (nI 3)) (fun hs1_3 => ?_) (fun hs1_3 => ?_)
        · refine k_tableIn (off := 55) (pc := 1) 56 dX6_many_1 hs1_3 (by decide) (by decide) (by decide) (by decide) ?_
          refine k_aload_n (pc := 56) dX6_many_56 rfl ?_
          refine k_gTX6_house (pc := 57) kwf_X6_28 rfl dX6_many_57 ?_
          refine k_gTX0_memory (pc := 60) kwf_X6_129 rfl dX6_many_60 ?_
          exact k_ireturn (pc := 63) rfl dX6_many_63
        · refine k_tableOut (pc := 1) 64 dX6_many_1 (by have g0 := lv_neT (a := 0) hs1_0 (by decide); have g1 := lv_neT (a := 1) hs1_1 (by decide); have g2 := lv_neT (a := 2) hs1_2 (by decide); have g3 := lv_neT (a := 3) hs1_3 (by decide); omega) (by decide) ?_
          refine k_bipush (pc := 64) (v := (k_ng 2)) dX6_many_64 (by decide) ?_
          exact k_ireturn (pc := 66) rfl dX6_many_66
end
section
/-! ===== ki: constructors: the world is a list of cells that grows (by program: wip/gen30/ki.py) ===== -/
def k_Gi (X : k_C) (Y : k_Y) : Prop :=
  (k_p X).tables.exec = Jvm.exec ∧ (k_c X).code = Y.2.1 ∧ (k_c X).maxLocals = Y.2.2.1 ∧ (k_s X).vm.findClass Y.2.2.2.1 = some (k_m X).cls ∧ (∀ w ∈ k_ws, w.before (k_a X) (k_s X) = true) ∧ va_K (k_D X) vwCl [(k_I X, .int)] (k_s X) ∧ (∀ q, (k_s X).heap.size ≤ q → k_A X q) ∧ k_R X = Y.1 ∧ (k_M X).locks = false ∧ (k_M X).sig.returnType = Y.2.2.2.2
def KI (X : k_C) (Y : k_Y) (kc ks : Nat) (Q : State → Prop) (pc : Nat) (L : List (Option Value)) (st : List Value) (ws : va_W) : Prop :=
  k_Gi X Y → ∀ (H : Heap) (locs : List Loc) (ls : Array Slot), va_P (k_D X) vwCl ws H → va_D (k_A X) ws → va_S (k_A X) (k_s X).heap H locs → k_L ls Y.2.2.1 L → k_W X H locs kc ks Q (F0 (k_m X) pc ls st)
def k_Qi (post : va_W → Prop) (X : k_C) (mc ms : Nat) : State → Prop :=
  MQ (k_b X) (fun _ st oc t => (oc = .returned none ∧ ∃ ws, post ws ∧ va_P (k_D X) vwCl ws t.heap ∧ va_D (k_A X) ws) ∧ va_F (k_A X) st t) (k_a X) (k_s X) mc ms (k_A X)
def k_Ci (y : MethodName) (bytes : ByteArray) (maxL : Nat) (rm : Room) (mc ms : Nat) (D : va_G) (cI : ClassId) (as : List Value) (pre : va_W) (post : va_W → Prop) : Prop :=
  ∀ (l : Launch) (sz : Nat), Met l y (.code y bytes maxL none :: k_ws) rm (va_Pc as (fun U => U.heap.size = sz ∧ va_P D vwCl pre U.heap ∧ va_K D vwCl [(cI, .int)] U ∧ va_D (fun _ => True) pre)) (fun _ st oc t => (oc = .returned none ∧ ∃ ws, post ws ∧ va_P D vwCl ws t.heap ∧ va_D (va_A pre sz) ws) ∧ va_F (va_A pre sz) st t) mc ms (va_A pre sz)
theorem k_meti {y : MethodName} {Y : k_Y} {mc ms : Nat} {D : va_G} {cI : ClassId} {as : List Value} {pre : va_W} {post : va_W → Prop} (hcl : plainName y.cls = true) (hown : y.cls = Y.2.2.2.1) (hlen : as.length ≤ Y.2.2.1) (hret : Y.2.2.2.2 = none) (hcat : ∀ v ∈ as, v.category = 1) (hname : y.name = "<init>")
    (h : ∀ X : k_C, k_D X = D → k_I X = cI → (k_M X).name = "<init>" → KI X Y 0 0 (k_Qi post X mc ms) 0 (as.map some ++ List.replicate (Y.2.2.1 - as.length) none) [] pre) : k_Ci y Y.2.1 Y.2.2.1 Y.1 mc ms D cI as pre post := by
  intro l sz
  refine Met.ofW (cc := Y.2.1) (maxL := Y.2.2.1) (ret := none) hcl rfl ?_
  intro p e s m args below meth c s₁ B hml hv
  obtain ⟨rfl, hsz, hP, hK, hD0⟩ := hv
  have hts0 := atoms_spec (ws := .code y Y.2.1 Y.2.2.1 none :: k_ws) B.pre
  have hfc : s.vm.findClass y.cls = some m.cls := findClass_of_methodNamed B.named
  have hin : meth.name = "<init>" := (name_of_methodNamed B.named B.method).1.trans hname
  rw [lg_entry_eq]
  let X : k_C := ((p, l, e, s, m, as.toArray), (below, meth, c, D, cI, va_A pre sz), Y.1)
  have hG : k_Gi X Y := ⟨B.exec, B.bytes, hml, by rw [← hown]; exact hfc, fun w hw => hts0 w (List.mem_cons_of_mem _ hw), hK, fun q hq => Or.inr (by rw [← hsz]; exact hq), rfl, B.notSynchronized, by rw [hret]; exact B.returns⟩
  exact h X rfl rfl hin hG s.heap [] _ hP hD0.self va_S.rf (k_L.entry as hlen hcat)
theorem k_D1 (a : Nat) (e : va_E) : va_D (fun _ => True) [(a, e)] := by
  refine ⟨fun i j p q hi hj _ => ?_, fun _ _ _ => trivial⟩
  match i, j, hi, hj with
  | 0, 0, _, _ => rfl
  | 0, j + 1, _, hj => cases hj
  | i + 1, _, hi, _ => cases hi
theorem k_nd_of : ∀ (l : List Nat), l.Nodup → va_nd l = true
  | [], _ => rfl
  | a :: l, h => by
    rw [List.nodup_cons] at h
    simp only [va_nd, Bool.and_eq_true, decide_eq_true_eq]
    exact ⟨h.1, k_nd_of l h.2⟩
theorem k_nd_range (n : Nat) : va_nd (List.range n) = true := k_nd_of _ List.nodup_range
section KIR
variable {X : k_C} {Y : k_Y} {kc ks : Nat} {Q : State → Prop} {pc pc' : Nat} {L L' : List (Option Value)} {st st' : List Value} {ws : va_W}
theorem KI.lift (h : k_Gi X Y → ∀ (H : Heap) (locs : List Loc) (ls : Array Slot), va_P (k_D X) vwCl ws H → k_L ls Y.2.2.1 L → k_W X H locs kc ks Q (F0 (k_m X) pc' ls st') → k_W X H locs kc ks Q (F0 (k_m X) pc ls st)) (kk : KI X Y kc ks Q pc' L st' ws) : KI X Y kc ks Q pc L st ws :=
  fun g H locs ls hP hD hS hL => h g H locs ls hP hL (kk g H locs ls hP hD hS hL)
theorem ki_aload_n {i : Fin 4} {x : Nat} (hd : decode Y.2.1 pc = .ok (.aload_n i, 1)) (hL : L[(i : Nat)]? = some (some (.ref x))) (kk : KI X Y kc ks Q (pc + 1) L (.ref x :: st) ws) : KI X Y kc ks Q pc L st ws :=
  kk.lift fun g _ _ _ _ h k => lv_aload_n g.1 g.2.1 hd rfl (h.at hL) k
theorem ki_iconst {n : Int} {v : Int32} (hd : decode Y.2.1 pc = .ok (.iconst n, 1)) (hv : Int32.ofInt n = v) (kk : KI X Y kc ks Q (pc + 1) L (.int v :: st) ws) : KI X Y kc ks Q pc L st ws :=
  kk.lift fun g _ _ _ _ _ k => lv_iconst g.1 g.2.1 hd hv k
theorem ki_bipush {n : Int} {v : Int32} (hd : decode Y.2.1 pc = .ok (.bipush n, 2)) (hv : (Int8.ofInt n).toInt32 = v) (kk : KI X Y kc ks Q (pc + 2) L (.int v :: st) ws) : KI X Y kc ks Q pc L st ws :=
  kk.lift fun g _ _ _ _ _ k => lv_bipush g.1 g.2.1 hd hv k
theorem ki_sipush {n : Int} {v : Int32} (hd : decode Y.2.1 pc = .ok (.sipush n, 3)) (hv : (Int16.ofInt n).toInt32 = v) (kk : KI X Y kc ks Q (pc + 3) L (.int v :: st) ws) : KI X Y kc ks Q pc L st ws :=
  kk.lift fun g _ _ _ _ _ k => lv_sipush g.1 g.2.1 hd hv k
theorem ki_dup {a : Value} (hd : decode Y.2.1 pc = .ok (.dup, 1)) (hc : a.category = 1) (kk : KI X Y kc ks Q (pc + 1) L (a :: a :: st) ws) : KI X Y kc ks Q pc L (a :: st) ws :=
  kk.lift fun g _ _ _ _ _ k => lv_dup g.1 g.2.1 hd hc k
theorem ki_objInit {a idx : Nat} (hw : Cond.methodLink Y.2.2.2.1 idx objectInit ∈ k_ws) (hd : decode Y.2.1 pc = .ok (.invokespecial idx, 3)) (hR : 1 ≤ Y.1.frames ∧ (st.map fun v => v.category).sum + 12 ≤ Y.1.locals) (kk : KI X Y kc ks Q (pc + 3) L st ws) : KI X Y kc ks Q pc L (.ref a :: st) ws :=
  kk.lift fun g _ _ _ _ hL k => by
    have hr : k_R X = Y.1 := g.2.2.2.2.2.2.2.1
    exact W.objInit g.1 g.2.1 g.2.2.2.1 (g.2.2.2.2.1 _ hw) (g.2.2.2.2.1 _ kwi_objectInit) (g.2.2.2.2.1 _ kwk_objectInit) rfl (by rw [g.2.2.1]; exact hL.1) rfl hd (by rw [hr]; exact hR.1) (by rw [hr]; show 2 * 0 + _ + 12 ≤ _; omega) k
theorem ki_get {own ref C : String} {T : u_T} {N index ci : Nat} {a : Nat} {fs : List Value} (k : Nat) (hcell : ws[k]? = some (a, .inr (ci, fs))) (hcl : vwCl[ci]? = some (C, T, N)) (hin : ∀ w ∈ u_ws C T N, w ∈ k_ws) (j : Nat) (hj : j < N) {v : Value} (hv : fs[j]? = some v) (hown : own = Y.2.2.2.1) (hw : Cond.fieldLink own index ref (T j).2.1 (T j).2.2.1 ∈ k_ws) (href : (T j).1 = ref) (hd : decode Y.2.1 pc = .ok (.getfield index, 3)) (kk : KI X Y kc ks Q (pc + 3) L (v :: st) ws) : KI X Y kc ks Q pc L (.ref a :: st) ws := by
  subst hown
  exact kk.lift fun g _ _ _ hP _ kq => va_get (D := k_D X) g.1 g.2.1 g.2.2.2.2.1 hin g.2.2.2.1 g.2.2.2.2.2.1 hP k hcell hcl j hj (g.2.2.2.2.1 _ hw) (fun _ h9 => by rw [← href]; exact h9) hv hd kq
theorem ki_putF {own ref C : String} {T : u_T} {N index ci : Nat} {a : Nat} {fs : List Value} (k : Nat) (hname : (k_M X).name = "<init>") (hcell : ws[k]? = some (a, .inr (ci, fs))) (hcl : vwCl[ci]? = some (C, T, N)) (hin : ∀ w ∈ u_ws C T N, w ∈ k_ws) {ty : Nat → FieldType} (hty : ∀ k, k < N → parseFieldDescriptor (T k).2.2.1 = some (ty k)) (hnm : ∀ a, a < N → ∀ b, b < N → a ≠ b → (T a).2.1 ≠ (T b).2.1) (j : Nat) (hj : j < N) (hfin : (T j).2.2.2 = true) {x : Nat} (hti : narrow (ty j) (.ref x) = .ref x ∧ fits (ty j) (.ref x) = true) (hlen : fs.length = N) (hown : own = Y.2.2.2.1) (hown2 : (T j).1 = own) (hw : Cond.fieldLink own index ref (T j).2.1 (T j).2.2.1 ∈ k_ws) (href : (T j).1 = ref) (hd : decode Y.2.1 pc = .ok (.putfield index, 3)) {ws' : va_W} (hset : ws.set k (a, .inr (ci, fs.set j (.ref x))) = ws') (kk : KI X Y kc ks Q (pc + 3) L st ws') : KI X Y kc ks Q pc L (.ref x :: .ref a :: st) ws := by
  subst hown hset
  intro g H locs ls hP hD hS hL
  exact va_putF (D := k_D X) g.1 g.2.1 g.2.2.2.2.1 hin ty hty hnm g.2.2.2.1 g.2.2.2.2.2.1 hP hD hS k hcell hcl j hj (g.2.2.2.2.1 _ hw) (fun _ h9 => by rw [← href]; exact h9) hfin hname hown2 (hty j hj) hti.1 hti.2 (by rw [hlen]; exact hj) hd (fun H1 locs1 hP1 hD1 hS1 => kk g H1 locs1 ls hP1 hD1 hS1 hL)
theorem ki_iast {a n : Nat} {f : Nat → Int32} (k : Nat) (hcell : ws[k]? = some (a, .inl (k_I X, n, .inl f))) {i x : Int32} (hi : vp_in i n) (hd : decode Y.2.1 pc = .ok (.iastore, 1)) {ws' : va_W} (hset : ws.set k (a, .inl (k_I X, n, .inl (upd f i.toNatClampNeg x))) = ws') (kk : KI X Y kc ks Q (pc + 1) L st ws') : KI X Y kc ks Q pc L (.int x :: .int i :: .ref a :: st) ws := by
  subst hset
  intro g H locs ls hP hD hS hL
  exact va_iast (D := k_D X) g.1 g.2.1 g.2.2.2.2.2.1 hP hD hS k 0 hcell rfl hi hd (fun H1 locs1 hP1 hD1 hS1 => kk g H1 locs1 ls hP1 hD1 hS1 hL)
theorem ki_newa {n : Int32} (N : Nat) (hn : ¬ n < 0) (hN : n.toNatClampNeg = N) (hb : N * 4 ≤ 536870912) (hc : kc + 1 ≤ Y.1.cells) (hs : ks + N ≤ Y.1.slots) (hd : decode Y.2.1 pc = .ok (.newarray .int, 2)) (kk : ∀ q : Nat, KI X Y (kc + 1) (ks + N) Q (pc + 2) L (.ref q :: st) (ws ++ [(q, .inl (k_I X, N, .inl (fun _ => 0)))])) : KI X Y kc ks Q pc L (.int n :: st) ws := by
  intro g H locs ls hP hD hS hL
  have hr : k_R X = Y.1 := g.2.2.2.2.2.2.2.1
  refine va_newa (D := k_D X) (atype := .int) (ty := .int) (N' := N) (a0 := (N, .inl (fun _ => 0))) g.1 g.2.1 (g.2.2.2.2.1 _ kwa_int) rfl g.2.2.2.2.2.1 hP hD hS g.2.2.2.2.2.2.1 (fun _ => rfl) hn hN hb (by rw [hr]; exact hc) (by rw [hr]; exact hs) hd (fun q cA H1 hK1 hP1 hD1 hS1 => ?_)
  have e1 := (hK1.2 1 (cA, .int) rfl).2
  have e2 := (hK1.2 0 (k_I X, .int) rfl).2
  have e : cA = k_I X := Option.some.inj ((show (k_s X).vm.findClass _ = some cA from e1).symm.trans e2)
  subst e
  exact kk q g H1 locs ls hP1 hD1 hS1 hL
theorem ki_new {C : String} {T : u_T} {N ci index : Nat} {ty : Nat → FieldType} (hin : ∀ w ∈ u_ws C T N, w ∈ k_ws) (hty : ∀ k, k < N → parseFieldDescriptor (T k).2.2.1 = some (ty k)) (hcl : vwCl[ci]? = some (C, T, N)) (hwc : Cond.classLink Y.2.2.2.1 index C ∈ k_ws) (hwx : Cond.instantiable C N ∈ k_ws) (hwn : Cond.initialized C ∈ k_ws) {fs : List Value} (hfs : ∀ j, j < N → defaultValue (ty j) = vp_V fs j) (hc : kc + 1 ≤ Y.1.cells) (hs : ks + N ≤ Y.1.slots) (hd : decode Y.2.1 pc = .ok (.new index, 3)) (kk : ∀ q : Nat, KI X Y (kc + 1) (ks + N) Q (pc + 3) L (.ref q :: st) (ws ++ [(q, .inr (ci, fs))])) : KI X Y kc ks Q pc L st ws := by
  intro g H locs ls hP hD hS hL
  have hr : k_R X = Y.1 := g.2.2.2.2.2.2.2.1
  exact va_new (D := k_D X) g.1 g.2.1 g.2.2.2.2.1 hin ty hty g.2.2.2.1 (g.2.2.2.2.1 _ hwc) (g.2.2.2.2.1 _ hwx) (g.2.2.2.2.1 _ hwn) g.2.2.2.2.2.1 hP hD hS g.2.2.2.2.2.2.1 hcl hfs (by rw [hr]; exact hc) (by rw [hr]; exact hs) hd (fun q H1 hP1 hD1 hS1 => kk q g H1 locs ls hP1 hD1 hS1 hL)
theorem ki_return {post : va_W → Prop} (hp : post ws) (hret : Y.2.2.2.2 = none) (hd : decode Y.2.1 pc = .ok (.return_, 1)) : KI X Y kc ks (k_Qi post X kc ks) pc L [] ws := by
  intro g H locs ls hP hD hS hL
  exact W.vret g.1 g.2.1 (by rw [g.2.2.2.2.2.2.2.2.2, hret]) (fun t ht _ => ⟨⟨rfl, ws, hp, by rw [ht]; exact hP, hD⟩, hS.F ht⟩) hS.2.2 hd g.2.2.2.2.2.2.2.2.1
theorem KI.cast {kc' ks' : Nat} (h : kc = kc' ∧ ks = ks') (kk : KI X Y kc' ks' Q pc L st ws) : KI X Y kc ks Q pc L st ws := by
  rw [h.1, h.2]; exact kk
/-- behind a call that may make cells -/
theorem k_runi {p : Program} {l : Launch} {e : Env} {R : Room} {s : State} {m : MethodId} {args : Array Value} {below : List Frame} {meth : Method} {c : Code} {H : Heap} {locs : List Loc} {cells slots mc ms : Nat} {Q : State → Prop} {pc : Nat} {ls : Array Slot} {rest st0 : List Value} {A0 A1 : Nat → Prop} {H0 : Heap} {free : Addr → Prop} {v : Option Value} {B : Heap → Prop}
    (hr : va_Run p l e R s m args below meth c H locs cells slots mc ms (F0 m pc ls st0) rest (fun st oc t => (oc = .returned v ∧ B t.heap) ∧ va_F A1 st t) free) (hS : va_S A0 H0 H locs) (hA : ∀ q, q < H.size → A1 q → A0 q) (hf : ∀ q, free q → A0 q)
    (kk : ∀ (H1 : Heap) (locs1 : List Loc), B H1 → (∀ q : Nat, q < H.size → ¬ A1 q → H1[q]? = H[q]?) → va_S A0 H0 H1 locs1 → W p l e R s m args below meth c H1 locs1 (cells + mc) (slots + ms) Q (F0 m (pc + 3) ls (v.toList ++ rest))) : W p l e R s m args below meth c H locs cells slots Q (F0 m pc ls st0) := by
  intro T hT X
  obtain ⟨v', st₀, t, T', L, h0, X', hL, e1, e2, ⟨⟨hv, hb⟩, hz, hk⟩, st⟩ := hr T hT X
  cases hv
  rw [h0] at hz hk
  obtain ⟨t2, a1, b1⟩ := kk T'.heap (locs ++ L) (by rw [e1]; exact hb) (fun q h1 h2 => by rw [e1]; exact hk q h1 h2)
    ⟨Nat.le_trans hS.1 (by rw [e1]; exact hz), fun q h1 h2 => by rw [e1, hk q (Nat.lt_of_lt_of_le h1 hS.1) (fun z => h2 (hA q (Nat.lt_of_lt_of_le h1 hS.1) z))]; exact hS.2.1 q h1 h2, fun q hq => by
      rcases List.mem_append.mp hq with h | h
      · exact hS.2.2 q h
      · exact hf _ (hL q h)⟩ T' rfl X'
  exact ⟨t2, st t2 a1, b1⟩
/-- a constructor's call: the new object's cell stands last -/
theorem ki_ctor {y : MethodName} {bytes : ByteArray} {maxL n index mc ms : Nat} {rm : Room} {b : Nat} {As : List Value} {stk : List Value} {rest : va_W} {e0 : va_E} {post : va_W → Prop} {W0 : va_W}
    (hW0 : ws = rest ++ [(b, e0)]) (hM : k_Ci y bytes maxL rm mc ms (k_D X) (k_I X) (.ref b :: As) [(b, e0)] post) (hco : Cond.code y bytes maxL none ∈ k_ws) (hi : Cond.instanceMethod y ∈ k_ws) (hini : Cond.initialized y.cls ∈ k_ws) (hy1 : y.name = "<init>") (hmh : y.cls ≠ "java/lang/invoke/MethodHandle" ∧ y.cls ≠ "java/lang/invoke/VarHandle") (hn : (parseMethodDescriptor y.desc).map (fun d => d.parameters.length) = some n) (hm : Cond.methodLink Y.2.2.2.1 index y ∈ k_ws) (hlen : As.length = n) (hrm : rm.cells = mc ∧ rm.slots = ms) (hR : rm.frames + 1 ≤ Y.1.frames ∧ 8 + (maxL + 11) + rm.locals ≤ Y.1.locals) (hk : kc + mc ≤ Y.1.cells ∧ ks + ms ≤ Y.1.slots) (hcat : (st.map fun v => v.category).sum ≤ 8) (hd : decode Y.2.1 pc = .ok (.invokespecial index, 3)) (hstk : stk = As.reverse ++ .ref b :: st)
    (kk : ∀ w1, post w1 → KI X Y (kc + mc) (ks + ms) Q (pc + 3) L st (rest ++ w1)) : KI X Y kc ks Q pc L stk ws := by
  subst hstk hW0
  intro g H locs ls hP hD hS hL
  have hr : k_R X = Y.1 := g.2.2.2.2.2.2.2.1
  have hK := g.2.2.2.2.2.1
  have hlast : (rest ++ [(b, e0)])[rest.length]? = some (b, e0) := by rw [List.getElem?_append_right (Nat.le_refl _), Nat.sub_self]; rfl
  have hPc : va_P (k_D X) vwCl [(b, e0)] H := fun k q hk => by
    match k, hk with
    | 0, hk => cases hk; exact hP _ _ hlast
    | k + 1, hk => cases hk
  have hDc : va_D (fun _ => True) [(b, e0)] := k_D1 b e0
  have hA1 : ∀ q, va_A [(b, e0)] H.size q → k_A X q := by
    intro q hq
    rcases hq with ⟨k, e, hk0⟩ | hq
    · match k, hk0 with
      | 0, hk0 => cases hk0; exact (show k_A X b from hD.2 _ _ hlast)
      | k + 1, hk0 => cases hk0
    · exact g.2.2.2.2.2.2.1 q (Nat.le_trans hS.1 hq)
  have hcb : CallB (k_R X) (k_s X) (k_a X) Y.2.2.2.1 index y bytes maxL none (.code y bytes maxL none :: k_ws) rm mc ms n := callB_of (ws' := k_ws) n g.2.2.2.2.1 (k_goodIn hco) rfl hrm.1 hrm.2 (g.2.2.2.2.1 _ hini) (g.2.2.2.2.1 _ hm) ⟨hmh.1, hmh.2, hn⟩ (by rw [hr]; exact hR)
  have hrun := va_runI (As := As) (rest := st) (cells := kc) (slots := ks) (locs := locs) (b := b) (g := F0 (k_m X) pc ls (As.reverse ++ .ref b :: st)) (nL := Y.2.2.1) ⟨g.1, g.2.1, g.2.2.1, g.2.2.2.1, g.2.2.2.2.1⟩ (hM (k_l X) H.size) ⟨hcb, hy1, g.2.2.2.2.1 _ hi⟩ ⟨fun a U g mk q => by
      obtain ⟨q0, q1, qP, qK, qD⟩ := q
      exact ⟨q0, q1, qP, va_K.moved (u := U) (U := U.calling g mk a) (Vm.Alike.refl U.vm) qK, qD⟩, fun U hU hW => ⟨rfl, by rw [hU], by rw [hU]; exact hPc, va_K.moved hW.alike hK, hDc⟩⟩ rfl hlen hL.1 rfl (lv_room hcat) hd (by rw [hr]; exact hk) (p := k_p X) (e := k_e X) (below := k_b X) (meth := k_M X) (c := k_c X) (m := k_m X)
  refine k_runi (B := fun H1 => ∃ ws, post ws ∧ va_P (k_D X) vwCl ws H1 ∧ va_D (va_A [(b, e0)] H.size) ws) hrun hS (fun q _ h => hA1 q h) hA1 (fun H1 locs1 hB hk1 hS1 => ?_)
  obtain ⟨w1, hp, hP1, hD1⟩ := hB
  have hjoin := va_join (wr := rest) (wc := [(b, e0)]) hP hD [rest.length] (List.range rest.length) (by simp [hlast]) (by
      apply List.ext_getElem?
      intro i
      simp only [List.getElem?_map]
      by_cases hi : i < rest.length
      · rw [List.getElem?_range hi]
        simp [List.getElem?_append_left hi, hi]
      · rw [List.getElem?_eq_none (by simpa using hi), List.getElem?_eq_none (by simpa using hi)]
        rfl) (k_nd_range rest.length) (by intro i hi; simp at hi ⊢; omega) hk1 hA1 hP1 hD1
  exact kk w1 hp g H1 locs1 ls hjoin.1 hjoin.2 hS1 hL
/-- Arrays.fill(row, v) over a row of the world -/
theorem ki_fill {a n index : Nat} {f : Nat → Int32} {v : Int32} (k : Nat) (hn : n < 2 ^ 31) (hcell : ws[k]? = some (a, .inl (k_I X, n, .inl f))) (hw : Cond.methodLink Y.2.2.2.1 index yJ7_fill_53178 ∈ k_ws) (hR : 1 ≤ Y.1.frames ∧ 60 ≤ Y.1.locals) (hk : kc ≤ Y.1.cells ∧ ks ≤ Y.1.slots) (hd : decode Y.2.1 pc = .ok (.invokestatic index, 3)) {ws' : va_W} (hset : ws.set k (a, .inl (k_I X, n, .inl (k_fl f 0 n v))) = ws') (kk : KI X Y kc ks Q (pc + 3) L [] ws') : KI X Y kc ks Q pc L [.int v, .ref a] ws := by
  subst hset
  intro g H locs ls hP hD hS hL
  have hr : k_R X = Y.1 := g.2.2.2.2.2.2.2.1
  have hK := g.2.2.2.2.2.1
  have hPc : va_P (k_D X) vwCl (cA (k_I X) a n f) H := fun j q hj => by
    match j, hj with
    | 0, hj => cases hj; exact hP _ _ hcell
    | j + 1, hj => cases hj
  have hDc : ∀ g', va_D (fun _ => True) (cA (k_I X) a n g') := fun g' => k_D1 a _
  have hA1 : ∀ q, va_A (cA (k_I X) a n f) H.size q → k_A X q := by
    intro q hq
    rcases hq with ⟨j, e, hk0⟩ | hq
    · match j, hk0 with
      | 0, hk0 => cases hk0; exact (show k_A X a from hD.2 _ _ hcell)
      | j + 1, hk0 => cases hk0
    · exact g.2.2.2.2.2.2.1 q (Nat.le_trans hS.1 hq)
  obtain ⟨hco, hs, hini, hmh, hnn⟩ := ckJ7_fill2
  have hcb : CallB (k_R X) (k_s X) (k_a X) Y.2.2.2.1 index yJ7_fill_53178 cJ7_fill_53178 4 none (.code yJ7_fill_53178 cJ7_fill_53178 4 none :: k_ws) YJ7_fill2.1 0 0 2 := callB_of (ws' := k_ws) 2 g.2.2.2.2.1 (k_goodIn hco) rfl rfl rfl (g.2.2.2.2.1 _ hini) (g.2.2.2.2.1 _ hw) ⟨hmh.1, hmh.2, hnn⟩ (by rw [hr]; exact ⟨by show 0 + 1 ≤ _; omega, by show 8 + (4 + 11) + 30 ≤ _; omega⟩)
  have hrun := va_runS (As := [.ref a, .int v]) (rest := []) (cells := kc) (slots := ks) (locs := locs) (g := F0 (k_m X) pc ls [.int v, .ref a]) (nL := Y.2.2.1) ⟨g.1, g.2.1, g.2.2.1, g.2.2.2.1, g.2.2.2.2.1⟩ (kJ7_fill2 (D := k_D X) (cI := k_I X) (a := a) hn f v (k_l X) H.size) ⟨hcb, g.2.2.2.2.1 _ hs⟩ ⟨k_blind, fun U hU hW => ⟨rfl, by rw [hU], by rw [hU]; exact hPc, va_K.moved hW.alike hK, hDc⟩⟩ rfl rfl hL.1 rfl (lv_room (Nat.zero_le _)) hd (by rw [hr]; exact hk) (p := k_p X) (e := k_e X) (below := k_b X) (meth := k_M X) (c := k_c X) (m := k_m X)
  refine k_run (B := va_P (k_D X) vwCl (cA (k_I X) a n (k_fl f 0 n v))) hrun hS (fun q _ h => hA1 q h) hA1 (fun H1 locs1 hB hk1 hS1 => ?_)
  refine kk g H1 locs1 ls (fun j q hj => ?_) (hD.set hcell) hS1 hL
  by_cases hjk : j = k
  · subst hjk
    rw [List.getElem?_set] at hj
    have hlt : j < ws.length := (List.getElem?_eq_some_iff.mp hcell).1
    simp [hlt] at hj
    rw [← hj]
    exact hB 0 _ rfl
  · rw [List.getElem?_set_ne (Ne.symm hjk)] at hj
    refine (hP j q hj).kept (hk1 q.1 (hP j q hj).lt fun hq => ?_)
    rcases hq with ⟨i, e, hi⟩ | hq
    · match i, hi with
      | 0, hi =>
        have e1 : a = q.1 := congrArg Prod.fst (Option.some.inj hi)
        exact hjk (hD.1 j k q _ hj hcell e1.symm)
      | i + 1, hi => cases hi
    · exact absurd (hP j q hj).lt (Nat.not_lt.mpr hq)
end KIR
end
section
/-! ===== constructors (by program: wip/gen30/ctors.py) ===== -/
abbrev rmX2_init : Room := { frames := 1, cells := 3, slots := 248, locals := 60 }
abbrev YX2_init : k_Y := (rmX2_init, cX2_init, 1, RX2, none)
set_option maxRecDepth 100000 in
set_option maxHeartbeats 4000000 in
theorem kX2_init {D : va_G} {cI : ClassId} (h0 : Nat) : k_Ci yX2_init cX2_init 1 rmX2_init 3 248 D cI [.ref h0] [(h0, .inr (2, [.null, .null, .null]))] (fun ws => ∃ q1 q2 q3 : Nat, ws = [(h0, .inr (2, [.ref q1, .ref q2, .ref q3])), (q1, .inl (cI, 240, .inl (fun _ => 0))), (q2, .inl (cI, 4, .inl (fun _ => 0))), (q3, .inl (cI, 4, .inl (k_fl (fun _ => 0) 0 4 (-9))))]) := by
  refine k_meti (Y := YX2_init) (by decide) rfl (Nat.le_of_ble_eq_true rfl) rfl (List.forall_mem_cons.mpr ⟨rfl, fun _ h => absurd h List.not_mem_nil⟩) rfl (fun X hD hI hin => ?_)
  subst hD hI
  show KI X YX2_init 0 0 _ 0 [some (.ref h0)] [] [(h0, .inr (2, [.null, .null, .null]))]
  refine ki_aload_n (pc := 0) dX2_init_0 rfl ?_
  refine ki_objInit (pc := 1) kwm_X2_3 dX2_init_1 ⟨Nat.le_of_ble_eq_true rfl, Nat.le_of_ble_eq_true rfl⟩ ?_
  refine ki_aload_n (pc := 4) dX2_init_4 rfl ?_
  refine ki_sipush (pc := 5) (v := (nI 240)) dX2_init_5 (by decide) ?_
  refine ki_newa (pc := 8) 240 (by decide) (by decide) (Nat.le_of_ble_eq_true rfl) (Nat.le_of_ble_eq_true rfl) (Nat.le_of_ble_eq_true rfl) dX2_init_8 (fun q1 => ?_)
  refine ki_putF (pc := 10) (T := TX2) (ci := 2) 0 hin rfl rfl kinX2 tyX2_ok nmX2 0 (by decide) rfl ⟨rfl, rfl⟩ rfl rfl rfl kwf_X2_9 rfl dX2_init_10 (ws' := [(h0, .inr (2, [.ref q1, .null, .null])), (q1, .inl (k_I X, 240, .inl (fun _ => 0)))]) rfl ?_
  refine ki_aload_n (pc := 13) dX2_init_13 rfl ?_
  refine ki_iconst (pc := 14) (v := (nI 4)) dX2_init_14 (by decide) ?_
  refine ki_newa (pc := 15) 4 (by decide) (by decide) (Nat.le_of_ble_eq_true rfl) (Nat.le_of_ble_eq_true rfl) (Nat.le_of_ble_eq_true rfl) dX2_init_15 (fun q2 => ?_)
  refine ki_putF (pc := 17) (T := TX2) (ci := 2) 0 hin rfl rfl kinX2 tyX2_ok nmX2 1 (by decide) rfl ⟨rfl, rfl⟩ rfl rfl rfl kwf_X2_15 rfl dX2_init_17 (ws' := [(h0, .inr (2, [.ref q1, .ref q2, .null])), (q1, .inl (k_I X, 240, .inl (fun _ => 0))), (q2, .inl (k_I X, 4, .inl (fun _ => 0)))]) rfl ?_
  refine ki_aload_n (pc := 20) dX2_init_20 rfl ?_
  refine ki_iconst (pc := 21) (v := (nI 4)) dX2_init_21 (by decide) ?_
  refine ki_newa (pc := 22) 4 (by decide) (by decide) (Nat.le_of_ble_eq_true rfl) (Nat.le_of_ble_eq_true rfl) (Nat.le_of_ble_eq_true rfl) dX2_init_22 (fun q3 => ?_)
  refine ki_putF (pc := 24) (T := TX2) (ci := 2) 0 hin rfl rfl kinX2 tyX2_ok nmX2 2 (by decide) rfl ⟨rfl, rfl⟩ rfl rfl rfl kwf_X2_18 rfl dX2_init_24 (ws' := [(h0, .inr (2, [.ref q1, .ref q2, .ref q3])), (q1, .inl (k_I X, 240, .inl (fun _ => 0))), (q2, .inl (k_I X, 4, .inl (fun _ => 0))), (q3, .inl (k_I X, 4, .inl (fun _ => 0)))]) rfl ?_
  refine ki_aload_n (pc := 27) dX2_init_27 rfl ?_
  refine ki_get (pc := 28) (T := TX2) (ci := 2) 0 rfl rfl kinX2 2 (by decide) rfl rfl kwf_X2_18 rfl dX2_init_28 ?_
  refine ki_bipush (pc := 31) (v := (k_ng 9)) dX2_init_31 (by decide) ?_
  refine ki_fill (pc := 33) 3 (by decide) rfl kwm_X2_21 ⟨Nat.le_of_ble_eq_true rfl, Nat.le_of_ble_eq_true rfl⟩ ⟨Nat.le_of_ble_eq_true rfl, Nat.le_of_ble_eq_true rfl⟩ dX2_init_33 (ws' := [(h0, .inr (2, [.ref q1, .ref q2, .ref q3])), (q1, .inl (k_I X, 240, .inl (fun _ => 0))), (q2, .inl (k_I X, 4, .inl (fun _ => 0))), (q3, .inl (k_I X, 4, .inl (k_fl (fun _ => 0) 0 4 (-9))))]) rfl ?_
  exact ki_return (pc := 36) ⟨q1, q2, q3, rfl⟩ rfl dX2_init_36
abbrev rmX4_init : Room := { frames := 1, cells := 1, slots := 60, locals := 60 }
abbrev YX4_init : k_Y := (rmX4_init, cX4_init, 1, RX4, none)
set_option maxRecDepth 100000 in
set_option maxHeartbeats 4000000 in
theorem kX4_init {D : va_G} {cI : ClassId} (h0 : Nat) : k_Ci yX4_init cX4_init 1 rmX4_init 1 60 D cI [.ref h0] [(h0, .inr (4, [.null, .int 0]))] (fun ws => ∃ q1 : Nat, ws = [(h0, .inr (4, [.ref q1, .int 0])), (q1, .inl (cI, 60, .inl (fun _ => 0)))]) := by
  refine k_meti (Y := YX4_init) (by decide) rfl (Nat.le_of_ble_eq_true rfl) rfl (List.forall_mem_cons.mpr ⟨rfl, fun _ h => absurd h List.not_mem_nil⟩) rfl (fun X hD hI hin => ?_)
  subst hD hI
  show KI X YX4_init 0 0 _ 0 [some (.ref h0)] [] [(h0, .inr (4, [.null, .int 0]))]
  refine ki_aload_n (pc := 0) dX4_init_0 rfl ?_
  refine ki_objInit (pc := 1) kwm_X4_3 dX4_init_1 ⟨Nat.le_of_ble_eq_true rfl, Nat.le_of_ble_eq_true rfl⟩ ?_
  refine ki_aload_n (pc := 4) dX4_init_4 rfl ?_
  refine ki_bipush (pc := 5) (v := (nI 60)) dX4_init_5 (by decide) ?_
  refine ki_newa (pc := 7) 60 (by decide) (by decide) (Nat.le_of_ble_eq_true rfl) (Nat.le_of_ble_eq_true rfl) (Nat.le_of_ble_eq_true rfl) dX4_init_7 (fun q1 => ?_)
  refine ki_putF (pc := 9) (T := TX4) (ci := 4) 0 hin rfl rfl kinX4 tyX4_ok nmX4 0 (by decide) rfl ⟨rfl, rfl⟩ rfl rfl rfl kwf_X4_9 rfl dX4_init_9 (ws' := [(h0, .inr (4, [.ref q1, .int 0])), (q1, .inl (k_I X, 60, .inl (fun _ => 0)))]) rfl ?_
  exact ki_return (pc := 12) ⟨q1, rfl⟩ rfl dX4_init_12
abbrev rmX0_init : Room := { frames := 1, cells := 9, slots := 955, locals := 60 }
abbrev YX0_init : k_Y := (rmX0_init, cX0_init, 1, RX0, none)
set_option maxRecDepth 100000 in
set_option maxHeartbeats 4000000 in
theorem kX0_init {D : va_G} {cI : ClassId} (h0 : Nat) : k_Ci yX0_init cX0_init 1 rmX0_init 9 955 D cI [.ref h0] [(h0, .inr (0, [.int 0, .int 0, .int 0, .int 0, .null, .null, .null, .null, .null, .null, .null, .null, .null]))] (fun ws => ∃ q1 q2 q3 q4 q5 q6 q7 q8 q9 : Nat, ws = [(h0, .inr (0, [.int 0, .int 0, .int 0, .int 0, .ref q1, .ref q2, .ref q3, .ref q4, .ref q5, .ref q6, .ref q7, .ref q8, .ref q9])), (q1, .inl (cI, 10, .inl (fun _ => 0))), (q2, .inl (cI, 10, .inl (fun _ => 0))), (q3, .inl (cI, 10, .inl (fun _ => 0))), (q4, .inl (cI, 10, .inl (fun _ => 0))), (q5, .inl (cI, 10, .inl (fun _ => 0))), (q6, .inl (cI, 5, .inl (fun _ => 0))), (q7, .inl (cI, 300, .inl (fun _ => 0))), (q8, .inl (cI, 300, .inl (fun _ => 0))), (q9, .inl (cI, 300, .inl (fun _ => 0)))]) := by
  refine k_meti (Y := YX0_init) (by decide) rfl (Nat.le_of_ble_eq_true rfl) rfl (List.forall_mem_cons.mpr ⟨rfl, fun _ h => absurd h List.not_mem_nil⟩) rfl (fun X hD hI hin => ?_)
  subst hD hI
  show KI X YX0_init 0 0 _ 0 [some (.ref h0)] [] [(h0, .inr (0, [.int 0, .int 0, .int 0, .int 0, .null, .null, .null, .null, .null, .null, .null, .null, .null]))]
  refine ki_aload_n (pc := 0) dX0_init_0 rfl ?_
  refine ki_objInit (pc := 1) kwm_X0_3 dX0_init_1 ⟨Nat.le_of_ble_eq_true rfl, Nat.le_of_ble_eq_true rfl⟩ ?_
  refine ki_aload_n (pc := 4) dX0_init_4 rfl ?_
  refine ki_bipush (pc := 5) (v := (nI 10)) dX0_init_5 (by decide) ?_
  refine ki_newa (pc := 7) 10 (by decide) (by decide) (Nat.le_of_ble_eq_true rfl) (Nat.le_of_ble_eq_true rfl) (Nat.le_of_ble_eq_true rfl) dX0_init_7 (fun q1 => ?_)
  refine ki_putF (pc := 9) (T := TX0) (ci := 0) 0 hin rfl rfl kinX0 tyX0_ok nmX0 4 (by decide) rfl ⟨rfl, rfl⟩ rfl rfl rfl kwf_X0_9 rfl dX0_init_9 (ws' := [(h0, .inr (0, [.int 0, .int 0, .int 0, .int 0, .ref q1, .null, .null, .null, .null, .null, .null, .null, .null])), (q1, .inl (k_I X, 10, .inl (fun _ => 0)))]) rfl ?_
  refine ki_aload_n (pc := 12) dX0_init_12 rfl ?_
  refine ki_bipush (pc := 13) (v := (nI 10)) dX0_init_13 (by decide) ?_
  refine ki_newa (pc := 15) 10 (by decide) (by decide) (Nat.le_of_ble_eq_true rfl) (Nat.le_of_ble_eq_true rfl) (Nat.le_of_ble_eq_true rfl) dX0_init_15 (fun q2 => ?_)
  refine ki_putF (pc := 17) (T := TX0) (ci := 0) 0 hin rfl rfl kinX0 tyX0_ok nmX0 5 (by decide) rfl ⟨rfl, rfl⟩ rfl rfl rfl kwf_X0_15 rfl dX0_init_17 (ws' := [(h0, .inr (0, [.int 0, .int 0, .int 0, .int 0, .ref q1, .ref q2, .null, .null, .null, .null, .null, .null, .null])), (q1, .inl (k_I X, 10, .inl (fun _ => 0))), (q2, .inl (k_I X, 10, .inl (fun _ => 0)))]) rfl ?_
  refine ki_aload_n (pc := 20) dX0_init_20 rfl ?_
  refine ki_bipush (pc := 21) (v := (nI 10)) dX0_init_21 (by decide) ?_
  refine ki_newa (pc := 23) 10 (by decide) (by decide) (Nat.le_of_ble_eq_true rfl) (Nat.le_of_ble_eq_true rfl) (Nat.le_of_ble_eq_true rfl) dX0_init_23 (fun q3 => ?_)
  refine ki_putF (pc := 25) (T := TX0) (ci := 0) 0 hin rfl rfl kinX0 tyX0_ok nmX0 6 (by decide) rfl ⟨rfl, rfl⟩ rfl rfl rfl kwf_X0_18 rfl dX0_init_25 (ws' := [(h0, .inr (0, [.int 0, .int 0, .int 0, .int 0, .ref q1, .ref q2, .ref q3, .null, .null, .null, .null, .null, .null])), (q1, .inl (k_I X, 10, .inl (fun _ => 0))), (q2, .inl (k_I X, 10, .inl (fun _ => 0))), (q3, .inl (k_I X, 10, .inl (fun _ => 0)))]) rfl ?_
  refine ki_aload_n (pc := 28) dX0_init_28 rfl ?_
  refine ki_bipush (pc := 29) (v := (nI 10)) dX0_init_29 (by decide) ?_
  refine ki_newa (pc := 31) 10 (by decide) (by decide) (Nat.le_of_ble_eq_true rfl) (Nat.le_of_ble_eq_true rfl) (Nat.le_of_ble_eq_true rfl) dX0_init_31 (fun q4 => ?_)
  refine ki_putF (pc := 33) (T := TX0) (ci := 0) 0 hin rfl rfl kinX0 tyX0_ok nmX0 7 (by decide) rfl ⟨rfl, rfl⟩ rfl rfl rfl kwf_X0_21 rfl dX0_init_33 (ws' := [(h0, .inr (0, [.int 0, .int 0, .int 0, .int 0, .ref q1, .ref q2, .ref q3, .ref q4, .null, .null, .null, .null, .null])), (q1, .inl (k_I X, 10, .inl (fun _ => 0))), (q2, .inl (k_I X, 10, .inl (fun _ => 0))), (q3, .inl (k_I X, 10, .inl (fun _ => 0))), (q4, .inl (k_I X, 10, .inl (fun _ => 0)))]) rfl ?_
  refine ki_aload_n (pc := 36) dX0_init_36 rfl ?_
  refine ki_bipush (pc := 37) (v := (nI 10)) dX0_init_37 (by decide) ?_
  refine ki_newa (pc := 39) 10 (by decide) (by decide) (Nat.le_of_ble_eq_true rfl) (Nat.le_of_ble_eq_true rfl) (Nat.le_of_ble_eq_true rfl) dX0_init_39 (fun q5 => ?_)
  refine ki_putF (pc := 41) (T := TX0) (ci := 0) 0 hin rfl rfl kinX0 tyX0_ok nmX0 8 (by decide) rfl ⟨rfl, rfl⟩ rfl rfl rfl kwf_X0_24 rfl dX0_init_41 (ws' := [(h0, .inr (0, [.int 0, .int 0, .int 0, .int 0, .ref q1, .ref q2, .ref q3, .ref q4, .ref q5, .null, .null, .null, .null])), (q1, .inl (k_I X, 10, .inl (fun _ => 0))), (q2, .inl (k_I X, 10, .inl (fun _ => 0))), (q3, .inl (k_I X, 10, .inl (fun _ => 0))), (q4, .inl (k_I X, 10, .inl (fun _ => 0))), (q5, .inl (k_I X, 10, .inl (fun _ => 0)))]) rfl ?_
  refine ki_aload_n (pc := 44) dX0_init_44 rfl ?_
  refine ki_iconst (pc := 45) (v := (nI 5)) dX0_init_45 (by decide) ?_
  refine ki_newa (pc := 46) 5 (by decide) (by decide) (Nat.le_of_ble_eq_true rfl) (Nat.le_of_ble_eq_true rfl) (Nat.le_of_ble_eq_true rfl) dX0_init_46 (fun q6 => ?_)
  refine ki_putF (pc := 48) (T := TX0) (ci := 0) 0 hin rfl rfl kinX0 tyX0_ok nmX0 9 (by decide) rfl ⟨rfl, rfl⟩ rfl rfl rfl kwf_X0_27 rfl dX0_init_48 (ws' := [(h0, .inr (0, [.int 0, .int 0, .int 0, .int 0, .ref q1, .ref q2, .ref q3, .ref q4, .ref q5, .ref q6, .null, .null, .null])), (q1, .inl (k_I X, 10, .inl (fun _ => 0))), (q2, .inl (k_I X, 10, .inl (fun _ => 0))), (q3, .inl (k_I X, 10, .inl (fun _ => 0))), (q4, .inl (k_I X, 10, .inl (fun _ => 0))), (q5, .inl (k_I X, 10, .inl (fun _ => 0))), (q6, .inl (k_I X, 5, .inl (fun _ => 0)))]) rfl ?_
  refine ki_aload_n (pc := 51) dX0_init_51 rfl ?_
  refine ki_sipush (pc := 52) (v := (nI 300)) dX0_init_52 (by decide) ?_
  refine ki_newa (pc := 55) 300 (by decide) (by decide) (Nat.le_of_ble_eq_true rfl) (Nat.le_of_ble_eq_true rfl) (Nat.le_of_ble_eq_true rfl) dX0_init_55 (fun q7 => ?_)
  refine ki_putF (pc := 57) (T := TX0) (ci := 0) 0 hin rfl rfl kinX0 tyX0_ok nmX0 10 (by decide) rfl ⟨rfl, rfl⟩ rfl rfl rfl kwf_X0_30 rfl dX0_init_57 (ws' := [(h0, .inr (0, [.int 0, .int 0, .int 0, .int 0, .ref q1, .ref q2, .ref q3, .ref q4, .ref q5, .ref q6, .ref q7, .null, .null])), (q1, .inl (k_I X, 10, .inl (fun _ => 0))), (q2, .inl (k_I X, 10, .inl (fun _ => 0))), (q3, .inl (k_I X, 10, .inl (fun _ => 0))), (q4, .inl (k_I X, 10, .inl (fun _ => 0))), (q5, .inl (k_I X, 10, .inl (fun _ => 0))), (q6, .inl (k_I X, 5, .inl (fun _ => 0))), (q7, .inl (k_I X, 300, .inl (fun _ => 0)))]) rfl ?_
  refine ki_aload_n (pc := 60) dX0_init_60 rfl ?_
  refine ki_sipush (pc := 61) (v := (nI 300)) dX0_init_61 (by decide) ?_
  refine ki_newa (pc := 64) 300 (by decide) (by decide) (Nat.le_of_ble_eq_true rfl) (Nat.le_of_ble_eq_true rfl) (Nat.le_of_ble_eq_true rfl) dX0_init_64 (fun q8 => ?_)
  refine ki_putF (pc := 66) (T := TX0) (ci := 0) 0 hin rfl rfl kinX0 tyX0_ok nmX0 11 (by decide) rfl ⟨rfl, rfl⟩ rfl rfl rfl kwf_X0_33 rfl dX0_init_66 (ws' := [(h0, .inr (0, [.int 0, .int 0, .int 0, .int 0, .ref q1, .ref q2, .ref q3, .ref q4, .ref q5, .ref q6, .ref q7, .ref q8, .null])), (q1, .inl (k_I X, 10, .inl (fun _ => 0))), (q2, .inl (k_I X, 10, .inl (fun _ => 0))), (q3, .inl (k_I X, 10, .inl (fun _ => 0))), (q4, .inl (k_I X, 10, .inl (fun _ => 0))), (q5, .inl (k_I X, 10, .inl (fun _ => 0))), (q6, .inl (k_I X, 5, .inl (fun _ => 0))), (q7, .inl (k_I X, 300, .inl (fun _ => 0))), (q8, .inl (k_I X, 300, .inl (fun _ => 0)))]) rfl ?_
  refine ki_aload_n (pc := 69) dX0_init_69 rfl ?_
  refine ki_sipush (pc := 70) (v := (nI 300)) dX0_init_70 (by decide) ?_
  refine ki_newa (pc := 73) 300 (by decide) (by decide) (Nat.le_of_ble_eq_true rfl) (Nat.le_of_ble_eq_true rfl) (Nat.le_of_ble_eq_true rfl) dX0_init_73 (fun q9 => ?_)
  refine ki_putF (pc := 75) (T := TX0) (ci := 0) 0 hin rfl rfl kinX0 tyX0_ok nmX0 12 (by decide) rfl ⟨rfl, rfl⟩ rfl rfl rfl kwf_X0_36 rfl dX0_init_75 (ws' := [(h0, .inr (0, [.int 0, .int 0, .int 0, .int 0, .ref q1, .ref q2, .ref q3, .ref q4, .ref q5, .ref q6, .ref q7, .ref q8, .ref q9])), (q1, .inl (k_I X, 10, .inl (fun _ => 0))), (q2, .inl (k_I X, 10, .inl (fun _ => 0))), (q3, .inl (k_I X, 10, .inl (fun _ => 0))), (q4, .inl (k_I X, 10, .inl (fun _ => 0))), (q5, .inl (k_I X, 10, .inl (fun _ => 0))), (q6, .inl (k_I X, 5, .inl (fun _ => 0))), (q7, .inl (k_I X, 300, .inl (fun _ => 0))), (q8, .inl (k_I X, 300, .inl (fun _ => 0))), (q9, .inl (k_I X, 300, .inl (fun _ => 0)))]) rfl ?_
  exact ki_return (pc := 78) ⟨q1, q2, q3, q4, q5, q6, q7, q8, q9, rfl⟩ rfl dX0_init_78
abbrev rmX3_init : Room := { frames := 1, cells := 1, slots := 5, locals := 60 }
abbrev YX3_init : k_Y := (rmX3_init, cX3_init, 1, RX3, none)
set_option maxRecDepth 100000 in
set_option maxHeartbeats 4000000 in
theorem kX3_init {D : va_G} {cI : ClassId} (h0 : Nat) : k_Ci yX3_init cX3_init 1 rmX3_init 1 5 D cI [.ref h0] [(h0, .inr (3, [.null, .int 0]))] (fun ws => ∃ q1 : Nat, ws = [(h0, .inr (3, [.ref q1, .int 0])), (q1, .inl (cI, 5, .inl (fun _ => 0)))]) := by
  refine k_meti (Y := YX3_init) (by decide) rfl (Nat.le_of_ble_eq_true rfl) rfl (List.forall_mem_cons.mpr ⟨rfl, fun _ h => absurd h List.not_mem_nil⟩) rfl (fun X hD hI hin => ?_)
  subst hD hI
  show KI X YX3_init 0 0 _ 0 [some (.ref h0)] [] [(h0, .inr (3, [.null, .int 0]))]
  refine ki_aload_n (pc := 0) dX3_init_0 rfl ?_
  refine ki_objInit (pc := 1) kwm_X3_3 dX3_init_1 ⟨Nat.le_of_ble_eq_true rfl, Nat.le_of_ble_eq_true rfl⟩ ?_
  refine ki_aload_n (pc := 4) dX3_init_4 rfl ?_
  refine ki_iconst (pc := 5) (v := (nI 5)) dX3_init_5 (by decide) ?_
  refine ki_newa (pc := 6) 5 (by decide) (by decide) (Nat.le_of_ble_eq_true rfl) (Nat.le_of_ble_eq_true rfl) (Nat.le_of_ble_eq_true rfl) dX3_init_6 (fun q1 => ?_)
  refine ki_putF (pc := 8) (T := TX3) (ci := 3) 0 hin rfl rfl kinX3 tyX3_ok nmX3 0 (by decide) rfl ⟨rfl, rfl⟩ rfl rfl rfl kwf_X3_9 rfl dX3_init_8 (ws' := [(h0, .inr (3, [.ref q1, .int 0])), (q1, .inl (k_I X, 5, .inl (fun _ => 0)))]) rfl ?_
  exact ki_return (pc := 11) ⟨q1, rfl⟩ rfl dX3_init_11
abbrev rmX1_init : Room := { frames := 1, cells := 2, slots := 10, locals := 60 }
abbrev YX1_init : k_Y := (rmX1_init, cX1_init, 3, RX1, none)
set_option maxRecDepth 100000 in
set_option maxHeartbeats 4000000 in
theorem kX1_init {D : va_G} {cI : ClassId} (h0 : Nat) (p1 : Nat) (p2 : Nat) : k_Ci yX1_init cX1_init 3 rmX1_init 2 10 D cI [.ref h0, .ref p1, .ref p2] [(h0, .inr (1, [.null, .null, .null, .null, .int 0]))] (fun ws => ∃ q1 q2 : Nat, ws = [(h0, .inr (1, [.ref p1, .ref p2, .ref q1, .ref q2, .int 0])), (q1, .inl (cI, 5, .inl (fun _ => 0))), (q2, .inl (cI, 5, .inl (fun _ => 0)))]) := by
  refine k_meti (Y := YX1_init) (by decide) rfl (Nat.le_of_ble_eq_true rfl) rfl (List.forall_mem_cons.mpr ⟨rfl, List.forall_mem_cons.mpr ⟨rfl, List.forall_mem_cons.mpr ⟨rfl, fun _ h => absurd h List.not_mem_nil⟩⟩⟩) rfl (fun X hD hI hin => ?_)
  subst hD hI
  show KI X YX1_init 0 0 _ 0 [some (.ref h0), some (.ref p1), some (.ref p2)] [] [(h0, .inr (1, [.null, .null, .null, .null, .int 0]))]
  refine ki_aload_n (pc := 0) dX1_init_0 rfl ?_
  refine ki_objInit (pc := 1) kwm_X1_3 dX1_init_1 ⟨Nat.le_of_ble_eq_true rfl, Nat.le_of_ble_eq_true rfl⟩ ?_
  refine ki_aload_n (pc := 4) dX1_init_4 rfl ?_
  refine ki_iconst (pc := 5) (v := (nI 5)) dX1_init_5 (by decide) ?_
  refine ki_newa (pc := 6) 5 (by decide) (by decide) (Nat.le_of_ble_eq_true rfl) (Nat.le_of_ble_eq_true rfl) (Nat.le_of_ble_eq_true rfl) dX1_init_6 (fun q1 => ?_)
  refine ki_putF (pc := 8) (T := TX1) (ci := 1) 0 hin rfl rfl kinX1 tyX1_ok nmX1 2 (by decide) rfl ⟨rfl, rfl⟩ rfl rfl rfl kwf_X1_9 rfl dX1_init_8 (ws' := [(h0, .inr (1, [.null, .null, .ref q1, .null, .int 0])), (q1, .inl (k_I X, 5, .inl (fun _ => 0)))]) rfl ?_
  refine ki_aload_n (pc := 11) dX1_init_11 rfl ?_
  refine ki_iconst (pc := 12) (v := (nI 5)) dX1_init_12 (by decide) ?_
  refine ki_newa (pc := 13) 5 (by decide) (by decide) (Nat.le_of_ble_eq_true rfl) (Nat.le_of_ble_eq_true rfl) (Nat.le_of_ble_eq_true rfl) dX1_init_13 (fun q2 => ?_)
  refine ki_putF (pc := 15) (T := TX1) (ci := 1) 0 hin rfl rfl kinX1 tyX1_ok nmX1 3 (by decide) rfl ⟨rfl, rfl⟩ rfl rfl rfl kwf_X1_15 rfl dX1_init_15 (ws' := [(h0, .inr (1, [.null, .null, .ref q1, .ref q2, .int 0])), (q1, .inl (k_I X, 5, .inl (fun _ => 0))), (q2, .inl (k_I X, 5, .inl (fun _ => 0)))]) rfl ?_
  refine ki_aload_n (pc := 18) dX1_init_18 rfl ?_
  refine ki_aload_n (pc := 19) dX1_init_19 rfl ?_
  refine ki_putF (pc := 20) (T := TX1) (ci := 1) 0 hin rfl rfl kinX1 tyX1_ok nmX1 0 (by decide) rfl ⟨rfl, rfl⟩ rfl rfl rfl kwf_X1_18 rfl dX1_init_20 (ws' := [(h0, .inr (1, [.ref p1, .null, .ref q1, .ref q2, .int 0])), (q1, .inl (k_I X, 5, .inl (fun _ => 0))), (q2, .inl (k_I X, 5, .inl (fun _ => 0)))]) rfl ?_
  refine ki_aload_n (pc := 23) dX1_init_23 rfl ?_
  refine ki_aload_n (pc := 24) dX1_init_24 rfl ?_
  refine ki_putF (pc := 25) (T := TX1) (ci := 1) 0 hin rfl rfl kinX1 tyX1_ok nmX1 1 (by decide) rfl ⟨rfl, rfl⟩ rfl rfl rfl kwf_X1_22 rfl dX1_init_25 (ws' := [(h0, .inr (1, [.ref p1, .ref p2, .ref q1, .ref q2, .int 0])), (q1, .inl (k_I X, 5, .inl (fun _ => 0))), (q2, .inl (k_I X, 5, .inl (fun _ => 0)))]) rfl ?_
  exact ki_return (pc := 28) ⟨q1, q2, rfl⟩ rfl dX1_init_28
abbrev rmX5_init : Room := { frames := 1, cells := 6, slots := 45, locals := 60 }
abbrev YX5_init : k_Y := (rmX5_init, cX5_init, 2, RX5, none)
set_option maxRecDepth 100000 in
set_option maxHeartbeats 4000000 in
theorem kX5_init {D : va_G} {cI : ClassId} (h0 : Nat) (p1 : Nat) : k_Ci yX5_init cX5_init 2 rmX5_init 6 45 D cI [.ref h0, .ref p1] [(h0, .inr (5, [.null, .null, .null, .null, .null, .null, .null, .int 0, .int 0, .int 0]))] (fun ws => ∃ q1 q2 q3 q4 q5 q6 : Nat, ws = [(h0, .inr (5, [.ref p1, .ref q1, .ref q2, .ref q3, .ref q4, .ref q5, .ref q6, .int 0, .int 0, .int 0])), (q1, .inl (cI, 6, .inl (fun _ => 0))), (q2, .inl (cI, 7, .inl (fun _ => 0))), (q3, .inl (cI, 10, .inl (fun _ => 0))), (q4, .inl (cI, 10, .inl (fun _ => 0))), (q5, .inl (cI, 6, .inl (fun _ => 0))), (q6, .inl (cI, 6, .inl (fun _ => 0)))]) := by
  refine k_meti (Y := YX5_init) (by decide) rfl (Nat.le_of_ble_eq_true rfl) rfl (List.forall_mem_cons.mpr ⟨rfl, List.forall_mem_cons.mpr ⟨rfl, fun _ h => absurd h List.not_mem_nil⟩⟩) rfl (fun X hD hI hin => ?_)
  subst hD hI
  show KI X YX5_init 0 0 _ 0 [some (.ref h0), some (.ref p1)] [] [(h0, .inr (5, [.null, .null, .null, .null, .null, .null, .null, .int 0, .int 0, .int 0]))]
  refine ki_aload_n (pc := 0) dX5_init_0 rfl ?_
  refine ki_objInit (pc := 1) kwm_X5_3 dX5_init_1 ⟨Nat.le_of_ble_eq_true rfl, Nat.le_of_ble_eq_true rfl⟩ ?_
  refine ki_aload_n (pc := 4) dX5_init_4 rfl ?_
  refine ki_bipush (pc := 5) (v := (nI 6)) dX5_init_5 (by decide) ?_
  refine ki_newa (pc := 7) 6 (by decide) (by decide) (Nat.le_of_ble_eq_true rfl) (Nat.le_of_ble_eq_true rfl) (Nat.le_of_ble_eq_true rfl) dX5_init_7 (fun q1 => ?_)
  refine ki_putF (pc := 9) (T := TX5) (ci := 5) 0 hin rfl rfl kinX5 tyX5_ok nmX5 1 (by decide) rfl ⟨rfl, rfl⟩ rfl rfl rfl kwf_X5_9 rfl dX5_init_9 (ws' := [(h0, .inr (5, [.null, .ref q1, .null, .null, .null, .null, .null, .int 0, .int 0, .int 0])), (q1, .inl (k_I X, 6, .inl (fun _ => 0)))]) rfl ?_
  refine ki_aload_n (pc := 12) dX5_init_12 rfl ?_
  refine ki_bipush (pc := 13) (v := (nI 7)) dX5_init_13 (by decide) ?_
  refine ki_newa (pc := 15) 7 (by decide) (by decide) (Nat.le_of_ble_eq_true rfl) (Nat.le_of_ble_eq_true rfl) (Nat.le_of_ble_eq_true rfl) dX5_init_15 (fun q2 => ?_)
  refine ki_putF (pc := 17) (T := TX5) (ci := 5) 0 hin rfl rfl kinX5 tyX5_ok nmX5 2 (by decide) rfl ⟨rfl, rfl⟩ rfl rfl rfl kwf_X5_15 rfl dX5_init_17 (ws' := [(h0, .inr (5, [.null, .ref q1, .ref q2, .null, .null, .null, .null, .int 0, .int 0, .int 0])), (q1, .inl (k_I X, 6, .inl (fun _ => 0))), (q2, .inl (k_I X, 7, .inl (fun _ => 0)))]) rfl ?_
  refine ki_aload_n (pc := 20) dX5_init_20 rfl ?_
  refine ki_bipush (pc := 21) (v := (nI 10)) dX5_init_21 (by decide) ?_
  refine ki_newa (pc := 23) 10 (by decide) (by decide) (Nat.le_of_ble_eq_true rfl) (Nat.le_of_ble_eq_true rfl) (Nat.le_of_ble_eq_true rfl) dX5_init_23 (fun q3 => ?_)
  refine ki_putF (pc := 25) (T := TX5) (ci := 5) 0 hin rfl rfl kinX5 tyX5_ok nmX5 3 (by decide) rfl ⟨rfl, rfl⟩ rfl rfl rfl kwf_X5_18 rfl dX5_init_25 (ws' := [(h0, .inr (5, [.null, .ref q1, .ref q2, .ref q3, .null, .null, .null, .int 0, .int 0, .int 0])), (q1, .inl (k_I X, 6, .inl (fun _ => 0))), (q2, .inl (k_I X, 7, .inl (fun _ => 0))), (q3, .inl (k_I X, 10, .inl (fun _ => 0)))]) rfl ?_
  refine ki_aload_n (pc := 28) dX5_init_28 rfl ?_
  refine ki_bipush (pc := 29) (v := (nI 10)) dX5_init_29 (by decide) ?_
  refine ki_newa (pc := 31) 10 (by decide) (by decide) (Nat.le_of_ble_eq_true rfl) (Nat.le_of_ble_eq_true rfl) (Nat.le_of_ble_eq_true rfl) dX5_init_31 (fun q4 => ?_)
  refine ki_putF (pc := 33) (T := TX5) (ci := 5) 0 hin rfl rfl kinX5 tyX5_ok nmX5 4 (by decide) rfl ⟨rfl, rfl⟩ rfl rfl rfl kwf_X5_21 rfl dX5_init_33 (ws' := [(h0, .inr (5, [.null, .ref q1, .ref q2, .ref q3, .ref q4, .null, .null, .int 0, .int 0, .int 0])), (q1, .inl (k_I X, 6, .inl (fun _ => 0))), (q2, .inl (k_I X, 7, .inl (fun _ => 0))), (q3, .inl (k_I X, 10, .inl (fun _ => 0))), (q4, .inl (k_I X, 10, .inl (fun _ => 0)))]) rfl ?_
  refine ki_aload_n (pc := 36) dX5_init_36 rfl ?_
  refine ki_bipush (pc := 37) (v := (nI 6)) dX5_init_37 (by decide) ?_
  refine ki_newa (pc := 39) 6 (by decide) (by decide) (Nat.le_of_ble_eq_true rfl) (Nat.le_of_ble_eq_true rfl) (Nat.le_of_ble_eq_true rfl) dX5_init_39 (fun q5 => ?_)
  refine ki_putF (pc := 41) (T := TX5) (ci := 5) 0 hin rfl rfl kinX5 tyX5_ok nmX5 5 (by decide) rfl ⟨rfl, rfl⟩ rfl rfl rfl kwf_X5_24 rfl dX5_init_41 (ws' := [(h0, .inr (5, [.null, .ref q1, .ref q2, .ref q3, .ref q4, .ref q5, .null, .int 0, .int 0, .int 0])), (q1, .inl (k_I X, 6, .inl (fun _ => 0))), (q2, .inl (k_I X, 7, .inl (fun _ => 0))), (q3, .inl (k_I X, 10, .inl (fun _ => 0))), (q4, .inl (k_I X, 10, .inl (fun _ => 0))), (q5, .inl (k_I X, 6, .inl (fun _ => 0)))]) rfl ?_
  refine ki_aload_n (pc := 44) dX5_init_44 rfl ?_
  refine ki_bipush (pc := 45) (v := (nI 6)) dX5_init_45 (by decide) ?_
  refine ki_newa (pc := 47) 6 (by decide) (by decide) (Nat.le_of_ble_eq_true rfl) (Nat.le_of_ble_eq_true rfl) (Nat.le_of_ble_eq_true rfl) dX5_init_47 (fun q6 => ?_)
  refine ki_putF (pc := 49) (T := TX5) (ci := 5) 0 hin rfl rfl kinX5 tyX5_ok nmX5 6 (by decide) rfl ⟨rfl, rfl⟩ rfl rfl rfl kwf_X5_27 rfl dX5_init_49 (ws' := [(h0, .inr (5, [.null, .ref q1, .ref q2, .ref q3, .ref q4, .ref q5, .ref q6, .int 0, .int 0, .int 0])), (q1, .inl (k_I X, 6, .inl (fun _ => 0))), (q2, .inl (k_I X, 7, .inl (fun _ => 0))), (q3, .inl (k_I X, 10, .inl (fun _ => 0))), (q4, .inl (k_I X, 10, .inl (fun _ => 0))), (q5, .inl (k_I X, 6, .inl (fun _ => 0))), (q6, .inl (k_I X, 6, .inl (fun _ => 0)))]) rfl ?_
  refine ki_aload_n (pc := 52) dX5_init_52 rfl ?_
  refine ki_aload_n (pc := 53) dX5_init_53 rfl ?_
  refine ki_putF (pc := 54) (T := TX5) (ci := 5) 0 hin rfl rfl kinX5 tyX5_ok nmX5 0 (by decide) rfl ⟨rfl, rfl⟩ rfl rfl rfl kwf_X5_30 rfl dX5_init_54 (ws' := [(h0, .inr (5, [.ref p1, .ref q1, .ref q2, .ref q3, .ref q4, .ref q5, .ref q6, .int 0, .int 0, .int 0])), (q1, .inl (k_I X, 6, .inl (fun _ => 0))), (q2, .inl (k_I X, 7, .inl (fun _ => 0))), (q3, .inl (k_I X, 10, .inl (fun _ => 0))), (q4, .inl (k_I X, 10, .inl (fun _ => 0))), (q5, .inl (k_I X, 6, .inl (fun _ => 0))), (q6, .inl (k_I X, 6, .inl (fun _ => 0)))]) rfl ?_
  exact ki_return (pc := 57) ⟨q1, q2, q3, q4, q5, q6, rfl⟩ rfl dX5_init_57
abbrev rmX6_init : Room := { frames := 2, cells := 29, slots := 1363, locals := 82 }
abbrev YX6_init : k_Y := (rmX6_init, cX6_init, 1, RX6, none)
set_option maxRecDepth 100000 in
set_option maxHeartbeats 4000000 in
theorem kX6_init {D : va_G} {cI : ClassId} (h0 : Nat) : k_Ci yX6_init cX6_init 1 rmX6_init 29 1363 D cI [.ref h0] [(h0, .inr (6, [.null, .null, .null, .null, .null, .null, .null, .int 0, .int 0]))] (fun ws => ∃ q1 q1_0 q1_1 q1_2 q2 q2_0 q3 q3_0 q3_1 q3_2 q3_3 q3_4 q3_5 q3_6 q3_7 q3_8 q4 q4_0 q5 q5_0 q5_1 q6 q6_0 q6_1 q6_2 q6_3 q6_4 q6_5 q7 : Nat, ws = [(h0, .inr (6, [.ref q1, .ref q2, .ref q3, .ref q4, .ref q5, .ref q6, .ref q7, .int 0, .int 0])), (q1, .inr (2, [.ref q1_0, .ref q1_1, .ref q1_2])), (q1_0, .inl (cI, 240, .inl (fun _ => 0))), (q1_1, .inl (cI, 4, .inl (fun _ => 0))), (q1_2, .inl (cI, 4, .inl (k_fl (fun _ => 0) 0 4 (-9)))), (q2, .inr (4, [.ref q2_0, .int 0])), (q2_0, .inl (cI, 60, .inl (fun _ => 0))), (q3, .inr (0, [.int 0, .int 0, .int 0, .int 0, .ref q3_0, .ref q3_1, .ref q3_2, .ref q3_3, .ref q3_4, .ref q3_5, .ref q3_6, .ref q3_7, .ref q3_8])), (q3_0, .inl (cI, 10, .inl (fun _ => 0))), (q3_1, .inl (cI, 10, .inl (fun _ => 0))), (q3_2, .inl (cI, 10, .inl (fun _ => 0))), (q3_3, .inl (cI, 10, .inl (fun _ => 0))), (q3_4, .inl (cI, 10, .inl (fun _ => 0))), (q3_5, .inl (cI, 5, .inl (fun _ => 0))), (q3_6, .inl (cI, 300, .inl (fun _ => 0))), (q3_7, .inl (cI, 300, .inl (fun _ => 0))), (q3_8, .inl (cI, 300, .inl (fun _ => 0))), (q4, .inr (3, [.ref q4_0, .int 0])), (q4_0, .inl (cI, 5, .inl (fun _ => 0))), (q5, .inr (1, [.ref q3, .ref q4, .ref q5_0, .ref q5_1, .int 0])), (q5_0, .inl (cI, 5, .inl (fun _ => 0))), (q5_1, .inl (cI, 5, .inl (fun _ => 0))), (q6, .inr (5, [.ref q3, .ref q6_0, .ref q6_1, .ref q6_2, .ref q6_3, .ref q6_4, .ref q6_5, .int 0, .int 0, .int 0])), (q6_0, .inl (cI, 6, .inl (fun _ => 0))), (q6_1, .inl (cI, 7, .inl (fun _ => 0))), (q6_2, .inl (cI, 10, .inl (fun _ => 0))), (q6_3, .inl (cI, 10, .inl (fun _ => 0))), (q6_4, .inl (cI, 6, .inl (fun _ => 0))), (q6_5, .inl (cI, 6, .inl (fun _ => 0))), (q7, .inl (cI, 5, .inl (fun _ => 0)))]) := by
  refine k_meti (Y := YX6_init) (by decide) rfl (Nat.le_of_ble_eq_true rfl) rfl (List.forall_mem_cons.mpr ⟨rfl, fun _ h => absurd h List.not_mem_nil⟩) rfl (fun X hD hI hin => ?_)
  subst hD hI
  show KI X YX6_init 0 0 _ 0 [some (.ref h0)] [] [(h0, .inr (6, [.null, .null, .null, .null, .null, .null, .null, .int 0, .int 0]))]
  refine ki_aload_n (pc := 0) dX6_init_0 rfl ?_
  refine ki_objInit (pc := 1) kwm_X6_3 dX6_init_1 ⟨Nat.le_of_ble_eq_true rfl, Nat.le_of_ble_eq_true rfl⟩ ?_
  refine ki_aload_n (pc := 4) dX6_init_4 rfl ?_
  refine ki_new (pc := 5) (T := TX2) (ci := 2) (fs := [.null, .null, .null]) kinX2 tyX2_ok rfl kwc_X6_9 kwx_X2 kwn_X2 (fun j hj => by rcases (show j = 0 ∨ j = 1 ∨ j = 2 by omega) with rfl | rfl | rfl <;> rfl) (Nat.le_of_ble_eq_true rfl) (Nat.le_of_ble_eq_true rfl) dX6_init_5 (fun q1 => ?_)
  refine ki_dup (pc := 8) dX6_init_8 rfl ?_
  refine ki_ctor (pc := 9) (n := 0) (As := []) (rest := [(h0, .inr (6, [.null, .null, .null, .null, .null, .null, .null, .int 0, .int 0]))]) (W0 := []) rfl (kX2_init q1) kwk_X2_init kwi_X2_init kwn_X2 rfl (by decide) (by decide +kernel) kwm_X6_11 rfl ⟨rfl, rfl⟩ ⟨Nat.le_of_ble_eq_true rfl, Nat.le_of_ble_eq_true rfl⟩ ⟨Nat.le_of_ble_eq_true rfl, Nat.le_of_ble_eq_true rfl⟩ (Nat.le_of_ble_eq_true rfl) dX6_init_9 rfl (fun w1 hp => ?_)
  obtain ⟨q1_0, q1_1, q1_2, rfl⟩ := hp
  refine ki_putF (pc := 12) (T := TX6) (ci := 6) 0 hin rfl rfl kinX6 tyX6_ok nmX6 0 (by decide) rfl ⟨rfl, rfl⟩ rfl rfl rfl kwf_X6_12 rfl dX6_init_12 (ws' := [(h0, .inr (6, [.ref q1, .null, .null, .null, .null, .null, .null, .int 0, .int 0])), (q1, .inr (2, [.ref q1_0, .ref q1_1, .ref q1_2])), (q1_0, .inl (k_I X, 240, .inl (fun _ => 0))), (q1_1, .inl (k_I X, 4, .inl (fun _ => 0))), (q1_2, .inl (k_I X, 4, .inl (k_fl (fun _ => 0) 0 4 (-9))))]) rfl ?_
  refine ki_aload_n (pc := 15) dX6_init_15 rfl ?_
  refine ki_new (pc := 16) (T := TX4) (ci := 4) (fs := [.null, .int 0]) kinX4 tyX4_ok rfl kwc_X6_18 kwx_X4 kwn_X4 (fun j hj => by rcases (show j = 0 ∨ j = 1 by omega) with rfl | rfl <;> rfl) (Nat.le_of_ble_eq_true rfl) (Nat.le_of_ble_eq_true rfl) dX6_init_16 (fun q2 => ?_)
  refine ki_dup (pc := 19) dX6_init_19 rfl ?_
  refine ki_ctor (pc := 20) (n := 0) (As := []) (rest := [(h0, .inr (6, [.ref q1, .null, .null, .null, .null, .null, .null, .int 0, .int 0])), (q1, .inr (2, [.ref q1_0, .ref q1_1, .ref q1_2])), (q1_0, .inl (k_I X, 240, .inl (fun _ => 0))), (q1_1, .inl (k_I X, 4, .inl (fun _ => 0))), (q1_2, .inl (k_I X, 4, .inl (k_fl (fun _ => 0) 0 4 (-9))))]) (W0 := []) rfl (kX4_init q2) kwk_X4_init kwi_X4_init kwn_X4 rfl (by decide) (by decide +kernel) kwm_X6_20 rfl ⟨rfl, rfl⟩ ⟨Nat.le_of_ble_eq_true rfl, Nat.le_of_ble_eq_true rfl⟩ ⟨Nat.le_of_ble_eq_true rfl, Nat.le_of_ble_eq_true rfl⟩ (Nat.le_of_ble_eq_true rfl) dX6_init_20 rfl (fun w1 hp => ?_)
  obtain ⟨q2_0, rfl⟩ := hp
  refine ki_putF (pc := 23) (T := TX6) (ci := 6) 0 hin rfl rfl kinX6 tyX6_ok nmX6 1 (by decide) rfl ⟨rfl, rfl⟩ rfl rfl rfl kwf_X6_21 rfl dX6_init_23 (ws' := [(h0, .inr (6, [.ref q1, .ref q2, .null, .null, .null, .null, .null, .int 0, .int 0])), (q1, .inr (2, [.ref q1_0, .ref q1_1, .ref q1_2])), (q1_0, .inl (k_I X, 240, .inl (fun _ => 0))), (q1_1, .inl (k_I X, 4, .inl (fun _ => 0))), (q1_2, .inl (k_I X, 4, .inl (k_fl (fun _ => 0) 0 4 (-9)))), (q2, .inr (4, [.ref q2_0, .int 0])), (q2_0, .inl (k_I X, 60, .inl (fun _ => 0)))]) rfl ?_
  refine ki_aload_n (pc := 26) dX6_init_26 rfl ?_
  refine ki_new (pc := 27) (T := TX0) (ci := 0) (fs := [.int 0, .int 0, .int 0, .int 0, .null, .null, .null, .null, .null, .null, .null, .null, .null]) kinX0 tyX0_ok rfl kwc_X6_25 kwx_X0 kwn_X0 (fun j hj => by rcases (show j = 0 ∨ j = 1 ∨ j = 2 ∨ j = 3 ∨ j = 4 ∨ j = 5 ∨ j = 6 ∨ j = 7 ∨ j = 8 ∨ j = 9 ∨ j = 10 ∨ j = 11 ∨ j = 12 by omega) with rfl | rfl | rfl | rfl | rfl | rfl | rfl | rfl | rfl | rfl | rfl | rfl | rfl <;> rfl) (Nat.le_of_ble_eq_true rfl) (Nat.le_of_ble_eq_true rfl) dX6_init_27 (fun q3 => ?_)
  refine ki_dup (pc := 30) dX6_init_30 rfl ?_
  refine ki_ctor (pc := 31) (n := 0) (As := []) (rest := [(h0, .inr (6, [.ref q1, .ref q2, .null, .null, .null, .null, .null, .int 0, .int 0])), (q1, .inr (2, [.ref q1_0, .ref q1_1, .ref q1_2])), (q1_0, .inl (k_I X, 240, .inl (fun _ => 0))), (q1_1, .inl (k_I X, 4, .inl (fun _ => 0))), (q1_2, .inl (k_I X, 4, .inl (k_fl (fun _ => 0) 0 4 (-9)))), (q2, .inr (4, [.ref q2_0, .int 0])), (q2_0, .inl (k_I X, 60, .inl (fun _ => 0)))]) (W0 := []) rfl (kX0_init q3) kwk_X0_init kwi_X0_init kwn_X0 rfl (by decide) (by decide +kernel) kwm_X6_27 rfl ⟨rfl, rfl⟩ ⟨Nat.le_of_ble_eq_true rfl, Nat.le_of_ble_eq_true rfl⟩ ⟨Nat.le_of_ble_eq_true rfl, Nat.le_of_ble_eq_true rfl⟩ (Nat.le_of_ble_eq_true rfl) dX6_init_31 rfl (fun w1 hp => ?_)
  obtain ⟨q3_0, q3_1, q3_2, q3_3, q3_4, q3_5, q3_6, q3_7, q3_8, rfl⟩ := hp
  refine ki_putF (pc := 34) (T := TX6) (ci := 6) 0 hin rfl rfl kinX6 tyX6_ok nmX6 2 (by decide) rfl ⟨rfl, rfl⟩ rfl rfl rfl kwf_X6_28 rfl dX6_init_34 (ws' := [(h0, .inr (6, [.ref q1, .ref q2, .ref q3, .null, .null, .null, .null, .int 0, .int 0])), (q1, .inr (2, [.ref q1_0, .ref q1_1, .ref q1_2])), (q1_0, .inl (k_I X, 240, .inl (fun _ => 0))), (q1_1, .inl (k_I X, 4, .inl (fun _ => 0))), (q1_2, .inl (k_I X, 4, .inl (k_fl (fun _ => 0) 0 4 (-9)))), (q2, .inr (4, [.ref q2_0, .int 0])), (q2_0, .inl (k_I X, 60, .inl (fun _ => 0))), (q3, .inr (0, [.int 0, .int 0, .int 0, .int 0, .ref q3_0, .ref q3_1, .ref q3_2, .ref q3_3, .ref q3_4, .ref q3_5, .ref q3_6, .ref q3_7, .ref q3_8])), (q3_0, .inl (k_I X, 10, .inl (fun _ => 0))), (q3_1, .inl (k_I X, 10, .inl (fun _ => 0))), (q3_2, .inl (k_I X, 10, .inl (fun _ => 0))), (q3_3, .inl (k_I X, 10, .inl (fun _ => 0))), (q3_4, .inl (k_I X, 10, .inl (fun _ => 0))), (q3_5, .inl (k_I X, 5, .inl (fun _ => 0))), (q3_6, .inl (k_I X, 300, .inl (fun _ => 0))), (q3_7, .inl (k_I X, 300, .inl (fun _ => 0))), (q3_8, .inl (k_I X, 300, .inl (fun _ => 0)))]) rfl ?_
  refine ki_aload_n (pc := 37) dX6_init_37 rfl ?_
  refine ki_new (pc := 38) (T := TX3) (ci := 3) (fs := [.null, .int 0]) kinX3 tyX3_ok rfl kwc_X6_32 kwx_X3 kwn_X3 (fun j hj => by rcases (show j = 0 ∨ j = 1 by omega) with rfl | rfl <;> rfl) (Nat.le_of_ble_eq_true rfl) (Nat.le_of_ble_eq_true rfl) dX6_init_38 (fun q4 => ?_)
  refine ki_dup (pc := 41) dX6_init_41 rfl ?_
  refine ki_ctor (pc := 42) (n := 0) (As := []) (rest := [(h0, .inr (6, [.ref q1, .ref q2, .ref q3, .null, .null, .null, .null, .int 0, .int 0])), (q1, .inr (2, [.ref q1_0, .ref q1_1, .ref q1_2])), (q1_0, .inl (k_I X, 240, .inl (fun _ => 0))), (q1_1, .inl (k_I X, 4, .inl (fun _ => 0))), (q1_2, .inl (k_I X, 4, .inl (k_fl (fun _ => 0) 0 4 (-9)))), (q2, .inr (4, [.ref q2_0, .int 0])), (q2_0, .inl (k_I X, 60, .inl (fun _ => 0))), (q3, .inr (0, [.int 0, .int 0, .int 0, .int 0, .ref q3_0, .ref q3_1, .ref q3_2, .ref q3_3, .ref q3_4, .ref q3_5, .ref q3_6, .ref q3_7, .ref q3_8])), (q3_0, .inl (k_I X, 10, .inl (fun _ => 0))), (q3_1, .inl (k_I X, 10, .inl (fun _ => 0))), (q3_2, .inl (k_I X, 10, .inl (fun _ => 0))), (q3_3, .inl (k_I X, 10, .inl (fun _ => 0))), (q3_4, .inl (k_I X, 10, .inl (fun _ => 0))), (q3_5, .inl (k_I X, 5, .inl (fun _ => 0))), (q3_6, .inl (k_I X, 300, .inl (fun _ => 0))), (q3_7, .inl (k_I X, 300, .inl (fun _ => 0))), (q3_8, .inl (k_I X, 300, .inl (fun _ => 0)))]) (W0 := []) rfl (kX3_init q4) kwk_X3_init kwi_X3_init kwn_X3 rfl (by decide) (by decide +kernel) kwm_X6_34 rfl ⟨rfl, rfl⟩ ⟨Nat.le_of_ble_eq_true rfl, Nat.le_of_ble_eq_true rfl⟩ ⟨Nat.le_of_ble_eq_true rfl, Nat.le_of_ble_eq_true rfl⟩ (Nat.le_of_ble_eq_true rfl) dX6_init_42 rfl (fun w1 hp => ?_)
  obtain ⟨q4_0, rfl⟩ := hp
  refine ki_putF (pc := 45) (T := TX6) (ci := 6) 0 hin rfl rfl kinX6 tyX6_ok nmX6 3 (by decide) rfl ⟨rfl, rfl⟩ rfl rfl rfl kwf_X6_35 rfl dX6_init_45 (ws' := [(h0, .inr (6, [.ref q1, .ref q2, .ref q3, .ref q4, .null, .null, .null, .int 0, .int 0])), (q1, .inr (2, [.ref q1_0, .ref q1_1, .ref q1_2])), (q1_0, .inl (k_I X, 240, .inl (fun _ => 0))), (q1_1, .inl (k_I X, 4, .inl (fun _ => 0))), (q1_2, .inl (k_I X, 4, .inl (k_fl (fun _ => 0) 0 4 (-9)))), (q2, .inr (4, [.ref q2_0, .int 0])), (q2_0, .inl (k_I X, 60, .inl (fun _ => 0))), (q3, .inr (0, [.int 0, .int 0, .int 0, .int 0, .ref q3_0, .ref q3_1, .ref q3_2, .ref q3_3, .ref q3_4, .ref q3_5, .ref q3_6, .ref q3_7, .ref q3_8])), (q3_0, .inl (k_I X, 10, .inl (fun _ => 0))), (q3_1, .inl (k_I X, 10, .inl (fun _ => 0))), (q3_2, .inl (k_I X, 10, .inl (fun _ => 0))), (q3_3, .inl (k_I X, 10, .inl (fun _ => 0))), (q3_4, .inl (k_I X, 10, .inl (fun _ => 0))), (q3_5, .inl (k_I X, 5, .inl (fun _ => 0))), (q3_6, .inl (k_I X, 300, .inl (fun _ => 0))), (q3_7, .inl (k_I X, 300, .inl (fun _ => 0))), (q3_8, .inl (k_I X, 300, .inl (fun _ => 0))), (q4, .inr (3, [.ref q4_0, .int 0])), (q4_0, .inl (k_I X, 5, .inl (fun _ => 0)))]) rfl ?_
  refine ki_aload_n (pc := 48) dX6_init_48 rfl ?_
  refine ki_new (pc := 49) (T := TX1) (ci := 1) (fs := [.null, .null, .null, .null, .int 0]) kinX1 tyX1_ok rfl kwc_X6_39 kwx_X1 kwn_X1 (fun j hj => by rcases (show j = 0 ∨ j = 1 ∨ j = 2 ∨ j = 3 ∨ j = 4 by omega) with rfl | rfl | rfl | rfl | rfl <;> rfl) (Nat.le_of_ble_eq_true rfl) (Nat.le_of_ble_eq_true rfl) dX6_init_49 (fun q5 => ?_)
  refine ki_dup (pc := 52) dX6_init_52 rfl ?_
  refine ki_aload_n (pc := 53) dX6_init_53 rfl ?_
  refine ki_get (pc := 54) (T := TX6) (ci := 6) 0 rfl rfl kinX6 2 (by decide) rfl rfl kwf_X6_28 rfl dX6_init_54 ?_
  refine ki_aload_n (pc := 57) dX6_init_57 rfl ?_
  refine ki_get (pc := 58) (T := TX6) (ci := 6) 0 rfl rfl kinX6 3 (by decide) rfl rfl kwf_X6_35 rfl dX6_init_58 ?_
  refine ki_ctor (pc := 61) (n := 2) (As := [.ref q3, .ref q4]) (rest := [(h0, .inr (6, [.ref q1, .ref q2, .ref q3, .ref q4, .null, .null, .null, .int 0, .int 0])), (q1, .inr (2, [.ref q1_0, .ref q1_1, .ref q1_2])), (q1_0, .inl (k_I X, 240, .inl (fun _ => 0))), (q1_1, .inl (k_I X, 4, .inl (fun _ => 0))), (q1_2, .inl (k_I X, 4, .inl (k_fl (fun _ => 0) 0 4 (-9)))), (q2, .inr (4, [.ref q2_0, .int 0])), (q2_0, .inl (k_I X, 60, .inl (fun _ => 0))), (q3, .inr (0, [.int 0, .int 0, .int 0, .int 0, .ref q3_0, .ref q3_1, .ref q3_2, .ref q3_3, .ref q3_4, .ref q3_5, .ref q3_6, .ref q3_7, .ref q3_8])), (q3_0, .inl (k_I X, 10, .inl (fun _ => 0))), (q3_1, .inl (k_I X, 10, .inl (fun _ => 0))), (q3_2, .inl (k_I X, 10, .inl (fun _ => 0))), (q3_3, .inl (k_I X, 10, .inl (fun _ => 0))), (q3_4, .inl (k_I X, 10, .inl (fun _ => 0))), (q3_5, .inl (k_I X, 5, .inl (fun _ => 0))), (q3_6, .inl (k_I X, 300, .inl (fun _ => 0))), (q3_7, .inl (k_I X, 300, .inl (fun _ => 0))), (q3_8, .inl (k_I X, 300, .inl (fun _ => 0))), (q4, .inr (3, [.ref q4_0, .int 0])), (q4_0, .inl (k_I X, 5, .inl (fun _ => 0)))]) (W0 := []) rfl (kX1_init q5 q3 q4) kwk_X1_init kwi_X1_init kwn_X1 rfl (by decide) (by decide +kernel) kwm_X6_41 rfl ⟨rfl, rfl⟩ ⟨Nat.le_of_ble_eq_true rfl, Nat.le_of_ble_eq_true rfl⟩ ⟨Nat.le_of_ble_eq_true rfl, Nat.le_of_ble_eq_true rfl⟩ (Nat.le_of_ble_eq_true rfl) dX6_init_61 rfl (fun w1 hp => ?_)
  obtain ⟨q5_0, q5_1, rfl⟩ := hp
  refine ki_putF (pc := 64) (T := TX6) (ci := 6) 0 hin rfl rfl kinX6 tyX6_ok nmX6 4 (by decide) rfl ⟨rfl, rfl⟩ rfl rfl rfl kwf_X6_44 rfl dX6_init_64 (ws' := [(h0, .inr (6, [.ref q1, .ref q2, .ref q3, .ref q4, .ref q5, .null, .null, .int 0, .int 0])), (q1, .inr (2, [.ref q1_0, .ref q1_1, .ref q1_2])), (q1_0, .inl (k_I X, 240, .inl (fun _ => 0))), (q1_1, .inl (k_I X, 4, .inl (fun _ => 0))), (q1_2, .inl (k_I X, 4, .inl (k_fl (fun _ => 0) 0 4 (-9)))), (q2, .inr (4, [.ref q2_0, .int 0])), (q2_0, .inl (k_I X, 60, .inl (fun _ => 0))), (q3, .inr (0, [.int 0, .int 0, .int 0, .int 0, .ref q3_0, .ref q3_1, .ref q3_2, .ref q3_3, .ref q3_4, .ref q3_5, .ref q3_6, .ref q3_7, .ref q3_8])), (q3_0, .inl (k_I X, 10, .inl (fun _ => 0))), (q3_1, .inl (k_I X, 10, .inl (fun _ => 0))), (q3_2, .inl (k_I X, 10, .inl (fun _ => 0))), (q3_3, .inl (k_I X, 10, .inl (fun _ => 0))), (q3_4, .inl (k_I X, 10, .inl (fun _ => 0))), (q3_5, .inl (k_I X, 5, .inl (fun _ => 0))), (q3_6, .inl (k_I X, 300, .inl (fun _ => 0))), (q3_7, .inl (k_I X, 300, .inl (fun _ => 0))), (q3_8, .inl (k_I X, 300, .inl (fun _ => 0))), (q4, .inr (3, [.ref q4_0, .int 0])), (q4_0, .inl (k_I X, 5, .inl (fun _ => 0))), (q5, .inr (1, [.ref q3, .ref q4, .ref q5_0, .ref q5_1, .int 0])), (q5_0, .inl (k_I X, 5, .inl (fun _ => 0))), (q5_1, .inl (k_I X, 5, .inl (fun _ => 0)))]) rfl ?_
  refine ki_aload_n (pc := 67) dX6_init_67 rfl ?_
  refine ki_new (pc := 68) (T := TX5) (ci := 5) (fs := [.null, .null, .null, .null, .null, .null, .null, .int 0, .int 0, .int 0]) kinX5 tyX5_ok rfl kwc_X6_48 kwx_X5 kwn_X5 (fun j hj => by rcases (show j = 0 ∨ j = 1 ∨ j = 2 ∨ j = 3 ∨ j = 4 ∨ j = 5 ∨ j = 6 ∨ j = 7 ∨ j = 8 ∨ j = 9 by omega) with rfl | rfl | rfl | rfl | rfl | rfl | rfl | rfl | rfl | rfl <;> rfl) (Nat.le_of_ble_eq_true rfl) (Nat.le_of_ble_eq_true rfl) dX6_init_68 (fun q6 => ?_)
  refine ki_dup (pc := 71) dX6_init_71 rfl ?_
  refine ki_aload_n (pc := 72) dX6_init_72 rfl ?_
  refine ki_get (pc := 73) (T := TX6) (ci := 6) 0 rfl rfl kinX6 2 (by decide) rfl rfl kwf_X6_28 rfl dX6_init_73 ?_
  refine ki_ctor (pc := 76) (n := 1) (As := [.ref q3]) (rest := [(h0, .inr (6, [.ref q1, .ref q2, .ref q3, .ref q4, .ref q5, .null, .null, .int 0, .int 0])), (q1, .inr (2, [.ref q1_0, .ref q1_1, .ref q1_2])), (q1_0, .inl (k_I X, 240, .inl (fun _ => 0))), (q1_1, .inl (k_I X, 4, .inl (fun _ => 0))), (q1_2, .inl (k_I X, 4, .inl (k_fl (fun _ => 0) 0 4 (-9)))), (q2, .inr (4, [.ref q2_0, .int 0])), (q2_0, .inl (k_I X, 60, .inl (fun _ => 0))), (q3, .inr (0, [.int 0, .int 0, .int 0, .int 0, .ref q3_0, .ref q3_1, .ref q3_2, .ref q3_3, .ref q3_4, .ref q3_5, .ref q3_6, .ref q3_7, .ref q3_8])), (q3_0, .inl (k_I X, 10, .inl (fun _ => 0))), (q3_1, .inl (k_I X, 10, .inl (fun _ => 0))), (q3_2, .inl (k_I X, 10, .inl (fun _ => 0))), (q3_3, .inl (k_I X, 10, .inl (fun _ => 0))), (q3_4, .inl (k_I X, 10, .inl (fun _ => 0))), (q3_5, .inl (k_I X, 5, .inl (fun _ => 0))), (q3_6, .inl (k_I X, 300, .inl (fun _ => 0))), (q3_7, .inl (k_I X, 300, .inl (fun _ => 0))), (q3_8, .inl (k_I X, 300, .inl (fun _ => 0))), (q4, .inr (3, [.ref q4_0, .int 0])), (q4_0, .inl (k_I X, 5, .inl (fun _ => 0))), (q5, .inr (1, [.ref q3, .ref q4, .ref q5_0, .ref q5_1, .int 0])), (q5_0, .inl (k_I X, 5, .inl (fun _ => 0))), (q5_1, .inl (k_I X, 5, .inl (fun _ => 0)))]) (W0 := []) rfl (kX5_init q6 q3) kwk_X5_init kwi_X5_init kwn_X5 rfl (by decide) (by decide +kernel) kwm_X6_50 rfl ⟨rfl, rfl⟩ ⟨Nat.le_of_ble_eq_true rfl, Nat.le_of_ble_eq_true rfl⟩ ⟨Nat.le_of_ble_eq_true rfl, Nat.le_of_ble_eq_true rfl⟩ (Nat.le_of_ble_eq_true rfl) dX6_init_76 rfl (fun w1 hp => ?_)
  obtain ⟨q6_0, q6_1, q6_2, q6_3, q6_4, q6_5, rfl⟩ := hp
  refine ki_putF (pc := 79) (T := TX6) (ci := 6) 0 hin rfl rfl kinX6 tyX6_ok nmX6 5 (by decide) rfl ⟨rfl, rfl⟩ rfl rfl rfl kwf_X6_53 rfl dX6_init_79 (ws' := [(h0, .inr (6, [.ref q1, .ref q2, .ref q3, .ref q4, .ref q5, .ref q6, .null, .int 0, .int 0])), (q1, .inr (2, [.ref q1_0, .ref q1_1, .ref q1_2])), (q1_0, .inl (k_I X, 240, .inl (fun _ => 0))), (q1_1, .inl (k_I X, 4, .inl (fun _ => 0))), (q1_2, .inl (k_I X, 4, .inl (k_fl (fun _ => 0) 0 4 (-9)))), (q2, .inr (4, [.ref q2_0, .int 0])), (q2_0, .inl (k_I X, 60, .inl (fun _ => 0))), (q3, .inr (0, [.int 0, .int 0, .int 0, .int 0, .ref q3_0, .ref q3_1, .ref q3_2, .ref q3_3, .ref q3_4, .ref q3_5, .ref q3_6, .ref q3_7, .ref q3_8])), (q3_0, .inl (k_I X, 10, .inl (fun _ => 0))), (q3_1, .inl (k_I X, 10, .inl (fun _ => 0))), (q3_2, .inl (k_I X, 10, .inl (fun _ => 0))), (q3_3, .inl (k_I X, 10, .inl (fun _ => 0))), (q3_4, .inl (k_I X, 10, .inl (fun _ => 0))), (q3_5, .inl (k_I X, 5, .inl (fun _ => 0))), (q3_6, .inl (k_I X, 300, .inl (fun _ => 0))), (q3_7, .inl (k_I X, 300, .inl (fun _ => 0))), (q3_8, .inl (k_I X, 300, .inl (fun _ => 0))), (q4, .inr (3, [.ref q4_0, .int 0])), (q4_0, .inl (k_I X, 5, .inl (fun _ => 0))), (q5, .inr (1, [.ref q3, .ref q4, .ref q5_0, .ref q5_1, .int 0])), (q5_0, .inl (k_I X, 5, .inl (fun _ => 0))), (q5_1, .inl (k_I X, 5, .inl (fun _ => 0))), (q6, .inr (5, [.ref q3, .ref q6_0, .ref q6_1, .ref q6_2, .ref q6_3, .ref q6_4, .ref q6_5, .int 0, .int 0, .int 0])), (q6_0, .inl (k_I X, 6, .inl (fun _ => 0))), (q6_1, .inl (k_I X, 7, .inl (fun _ => 0))), (q6_2, .inl (k_I X, 10, .inl (fun _ => 0))), (q6_3, .inl (k_I X, 10, .inl (fun _ => 0))), (q6_4, .inl (k_I X, 6, .inl (fun _ => 0))), (q6_5, .inl (k_I X, 6, .inl (fun _ => 0)))]) rfl ?_
  refine ki_aload_n (pc := 82) dX6_init_82 rfl ?_
  refine ki_iconst (pc := 83) (v := (nI 5)) dX6_init_83 (by decide) ?_
  refine ki_newa (pc := 84) 5 (by decide) (by decide) (Nat.le_of_ble_eq_true rfl) (Nat.le_of_ble_eq_true rfl) (Nat.le_of_ble_eq_true rfl) dX6_init_84 (fun q7 => ?_)
  refine ki_putF (pc := 86) (T := TX6) (ci := 6) 0 hin rfl rfl kinX6 tyX6_ok nmX6 6 (by decide) rfl ⟨rfl, rfl⟩ rfl rfl rfl kwf_X6_57 rfl dX6_init_86 (ws' := [(h0, .inr (6, [.ref q1, .ref q2, .ref q3, .ref q4, .ref q5, .ref q6, .ref q7, .int 0, .int 0])), (q1, .inr (2, [.ref q1_0, .ref q1_1, .ref q1_2])), (q1_0, .inl (k_I X, 240, .inl (fun _ => 0))), (q1_1, .inl (k_I X, 4, .inl (fun _ => 0))), (q1_2, .inl (k_I X, 4, .inl (k_fl (fun _ => 0) 0 4 (-9)))), (q2, .inr (4, [.ref q2_0, .int 0])), (q2_0, .inl (k_I X, 60, .inl (fun _ => 0))), (q3, .inr (0, [.int 0, .int 0, .int 0, .int 0, .ref q3_0, .ref q3_1, .ref q3_2, .ref q3_3, .ref q3_4, .ref q3_5, .ref q3_6, .ref q3_7, .ref q3_8])), (q3_0, .inl (k_I X, 10, .inl (fun _ => 0))), (q3_1, .inl (k_I X, 10, .inl (fun _ => 0))), (q3_2, .inl (k_I X, 10, .inl (fun _ => 0))), (q3_3, .inl (k_I X, 10, .inl (fun _ => 0))), (q3_4, .inl (k_I X, 10, .inl (fun _ => 0))), (q3_5, .inl (k_I X, 5, .inl (fun _ => 0))), (q3_6, .inl (k_I X, 300, .inl (fun _ => 0))), (q3_7, .inl (k_I X, 300, .inl (fun _ => 0))), (q3_8, .inl (k_I X, 300, .inl (fun _ => 0))), (q4, .inr (3, [.ref q4_0, .int 0])), (q4_0, .inl (k_I X, 5, .inl (fun _ => 0))), (q5, .inr (1, [.ref q3, .ref q4, .ref q5_0, .ref q5_1, .int 0])), (q5_0, .inl (k_I X, 5, .inl (fun _ => 0))), (q5_1, .inl (k_I X, 5, .inl (fun _ => 0))), (q6, .inr (5, [.ref q3, .ref q6_0, .ref q6_1, .ref q6_2, .ref q6_3, .ref q6_4, .ref q6_5, .int 0, .int 0, .int 0])), (q6_0, .inl (k_I X, 6, .inl (fun _ => 0))), (q6_1, .inl (k_I X, 7, .inl (fun _ => 0))), (q6_2, .inl (k_I X, 10, .inl (fun _ => 0))), (q6_3, .inl (k_I X, 10, .inl (fun _ => 0))), (q6_4, .inl (k_I X, 6, .inl (fun _ => 0))), (q6_5, .inl (k_I X, 6, .inl (fun _ => 0))), (q7, .inl (k_I X, 5, .inl (fun _ => 0)))]) rfl ?_
  exact ki_return (pc := 89) ⟨q1, q1_0, q1_1, q1_2, q2, q2_0, q3, q3_0, q3_1, q3_2, q3_3, q3_4, q3_5, q3_6, q3_7, q3_8, q4, q4_0, q5, q5_0, q5_1, q6, q6_0, q6_1, q6_2, q6_3, q6_4, q6_5, q7, rfl⟩ rfl dX6_init_89
end
