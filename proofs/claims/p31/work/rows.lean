section
-- ===== PART A: goes FIRST, ahead of the names: the tables' words, and 'selects' of the private methods out of them =====
/-- a private method of a class that the tables say can be made, by its rows of tables_1 -/
def lw_okq (q : MethodName × Nat) : Prop := (q.1.cls ≠ "java/lang/invoke/MethodHandle" ∧ q.1.cls ≠ "java/lang/invoke/VarHandle") ∧ Cond.instantiable q.1.cls q.2 ∈ tables_1 ∧ Cond.privateMethod q.1 ∈ tables_1 ∧ Cond.instanceMethod q.1 ∈ tables_1
theorem lw_p0 : lw_okq (⟨"MarbleHeirs$State", "overAll", "(I)I"⟩, 11) := ⟨⟨by decide +kernel, by decide +kernel⟩, List.mem_of_getElem? (i := 18) (by decide +kernel), List.mem_of_getElem? (i := 176) (by decide +kernel), List.mem_of_getElem? (i := 177) (by decide +kernel)⟩
theorem lw_p1 : lw_okq (⟨"MarbleHeirs$State", "placeOf", "(I)I"⟩, 11) := ⟨⟨by decide +kernel, by decide +kernel⟩, List.mem_of_getElem? (i := 18) (by decide +kernel), List.mem_of_getElem? (i := 192) (by decide +kernel), List.mem_of_getElem? (i := 193) (by decide +kernel)⟩
theorem lw_p2 : lw_okq (⟨"MarbleHeirs$Past", "discardOldest", "()V"⟩, 2) := ⟨⟨by decide +kernel, by decide +kernel⟩, List.mem_of_getElem? (i := 82) (by decide +kernel), List.mem_of_getElem? (i := 234) (by decide +kernel), List.mem_of_getElem? (i := 235) (by decide +kernel)⟩
theorem lw_p3 : lw_okq (⟨"MarbleHeirs$State", "giveToPoorest", "(I)V"⟩, 11) := ⟨⟨by decide +kernel, by decide +kernel⟩, List.mem_of_getElem? (i := 18) (by decide +kernel), List.mem_of_getElem? (i := 359) (by decide +kernel), List.mem_of_getElem? (i := 360) (by decide +kernel)⟩
theorem lw_p4 : lw_okq (⟨"MarbleHeirs$State", "poorestBut", "(I)I"⟩, 11) := ⟨⟨by decide +kernel, by decide +kernel⟩, List.mem_of_getElem? (i := 18) (by decide +kernel), List.mem_of_getElem? (i := 363) (by decide +kernel), List.mem_of_getElem? (i := 364) (by decide +kernel)⟩
theorem lw_p5 : lw_okq (⟨"MarbleHeirs$State", "giveInOrder", "(I)V"⟩, 11) := ⟨⟨by decide +kernel, by decide +kernel⟩, List.mem_of_getElem? (i := 18) (by decide +kernel), List.mem_of_getElem? (i := 371) (by decide +kernel), List.mem_of_getElem? (i := 372) (by decide +kernel)⟩
theorem lw_p6 : lw_okq (⟨"MarbleHeirs", "spreadUnder", "(I)I"⟩, 7) := ⟨⟨by decide +kernel, by decide +kernel⟩, List.mem_of_getElem? (i := 10) (by decide +kernel), List.mem_of_getElem? (i := 405) (by decide +kernel), List.mem_of_getElem? (i := 406) (by decide +kernel)⟩
theorem lw_p7 : lw_okq (⟨"MarbleHeirs", "swapError", "(IIII)I"⟩, 7) := ⟨⟨by decide +kernel, by decide +kernel⟩, List.mem_of_getElem? (i := 10) (by decide +kernel), List.mem_of_getElem? (i := 421) (by decide +kernel), List.mem_of_getElem? (i := 422) (by decide +kernel)⟩
theorem lw_p8 : lw_okq (⟨"MarbleHeirs$State", "objects", "(II)Z"⟩, 11) := ⟨⟨by decide +kernel, by decide +kernel⟩, List.mem_of_getElem? (i := 18) (by decide +kernel), List.mem_of_getElem? (i := 430) (by decide +kernel), List.mem_of_getElem? (i := 431) (by decide +kernel)⟩
theorem lw_p9 : lw_okq (⟨"MarbleHeirs$BestSwap", "searchPartners", "(LMarbleHeirs$State;II)V"⟩, 6) := ⟨⟨by decide +kernel, by decide +kernel⟩, List.mem_of_getElem? (i := 112) (by decide +kernel), List.mem_of_getElem? (i := 460) (by decide +kernel), List.mem_of_getElem? (i := 461) (by decide +kernel)⟩
theorem lw_p10 : lw_okq (⟨"MarbleHeirs$BestSwap", "weigh", "(LMarbleHeirs$State;IIIII)V"⟩, 6) := ⟨⟨by decide +kernel, by decide +kernel⟩, List.mem_of_getElem? (i := 112) (by decide +kernel), List.mem_of_getElem? (i := 469) (by decide +kernel), List.mem_of_getElem? (i := 470) (by decide +kernel)⟩
def lw_privs_1 : List (MethodName × Nat) := [(⟨"MarbleHeirs$State", "overAll", "(I)I"⟩, 11), (⟨"MarbleHeirs$State", "placeOf", "(I)I"⟩, 11), (⟨"MarbleHeirs$Past", "discardOldest", "()V"⟩, 2), (⟨"MarbleHeirs$State", "giveToPoorest", "(I)V"⟩, 11), (⟨"MarbleHeirs$State", "poorestBut", "(I)I"⟩, 11), (⟨"MarbleHeirs$State", "giveInOrder", "(I)V"⟩, 11), (⟨"MarbleHeirs", "spreadUnder", "(I)I"⟩, 7), (⟨"MarbleHeirs", "swapError", "(IIII)I"⟩, 7), (⟨"MarbleHeirs$State", "objects", "(II)Z"⟩, 11), (⟨"MarbleHeirs$BestSwap", "searchPartners", "(LMarbleHeirs$State;II)V"⟩, 6), (⟨"MarbleHeirs$BestSwap", "weigh", "(LMarbleHeirs$State;IIIII)V"⟩, 6)]
theorem lw_r1 : ∀ q ∈ lw_privs_1, lw_okq q := List.forall_mem_cons.mpr ⟨lw_p0, List.forall_mem_cons.mpr ⟨lw_p1, List.forall_mem_cons.mpr ⟨lw_p2, List.forall_mem_cons.mpr ⟨lw_p3, List.forall_mem_cons.mpr ⟨lw_p4, List.forall_mem_cons.mpr ⟨lw_p5, List.forall_mem_cons.mpr ⟨lw_p6, List.forall_mem_cons.mpr ⟨lw_p7, List.forall_mem_cons.mpr ⟨lw_p8, List.forall_mem_cons.mpr ⟨lw_p9, List.forall_mem_cons.mpr ⟨lw_p10, fun _ h => absurd h List.not_mem_nil⟩⟩⟩⟩⟩⟩⟩⟩⟩⟩⟩
def lw_privs : List (MethodName × Nat) := lw_privs_1
def lw_tbl : List Cond := k2_sels lw_privs ++ tables_1
theorem lw_privs_ok : ∀ q ∈ lw_privs, lw_okq q := lw_r1
end
section
def RX0 : String := "MarbleHeirs$BestSwap"
def TX0 : u_T := fun k => match k with
  | 0 => ("MarbleHeirs$BestSwap", "heir", "I", false)
  | 1 => ("MarbleHeirs$BestSwap", "marble", "I", false)
  | 2 => ("MarbleHeirs$BestSwap", "other", "I", false)
  | 3 => ("MarbleHeirs$BestSwap", "place", "I", false)
  | 4 => ("MarbleHeirs$BestSwap", "growth", "I", false)
  | _ => ("MarbleHeirs$BestSwap", "difference", "I", false)
def tyX0 : Nat → FieldType := fun k => match k with
  | 0 => .int
  | 1 => .int
  | 2 => .int
  | 3 => .int
  | 4 => .int
  | _ => .int
abbrev wsX00 : List Cond := u_ws RX0 TX0 6
theorem nmX0 : ∀ a, a < 6 → ∀ b, b < 6 → a ≠ b → (TX0 a).2.1 ≠ (TX0 b).2.1 := by decide +kernel
theorem tyX0_ok : ∀ k, k < 6 → parseFieldDescriptor (TX0 k).2.2.1 = some (tyX0 k) := by decide +kernel
abbrev cX0_init : ByteArray := prog_2_method_1_code
def yX0_init : MethodName := ⟨RX0, "<init>", "()V"⟩
abbrev cX0_tell : ByteArray := prog_2_method_2_code
def yX0_tell : MethodName := ⟨RX0, "tell", "(I)I"⟩
abbrev cX0_searchIn : ByteArray := prog_2_method_3_code
def yX0_searchIn : MethodName := ⟨RX0, "searchIn", "(LMarbleHeirs$State;)V"⟩
abbrev cX0_searchPartners : ByteArray := prog_2_method_4_code
def yX0_searchPartners : MethodName := ⟨RX0, "searchPartners", "(LMarbleHeirs$State;II)V"⟩
abbrev cX0_one : ByteArray := prog_2_method_5_code
def yX0_one : MethodName := ⟨RX0, "one", "(II)I"⟩
abbrev cX0_weigh : ByteArray := prog_2_method_6_code
def yX0_weigh : MethodName := ⟨RX0, "weigh", "(LMarbleHeirs$State;IIIII)V"⟩
def RX1 : String := "MarbleHeirs$Marbles"
def TX1 : u_T := fun k => match k with
  | 0 => ("MarbleHeirs$Marbles", "row", "[I", true)
  | _ => ("MarbleHeirs$Marbles", "starts", "[I", true)
def tyX1 : Nat → FieldType := fun k => match k with
  | 0 => .array .int
  | _ => .array .int
abbrev wsX10 : List Cond := u_ws RX1 TX1 2
theorem nmX1 : ∀ a, a < 2 → ∀ b, b < 2 → a ≠ b → (TX1 a).2.1 ≠ (TX1 b).2.1 := by decide +kernel
theorem tyX1_ok : ∀ k, k < 2 → parseFieldDescriptor (TX1 k).2.2.1 = some (tyX1 k) := by decide +kernel
abbrev cX1_init : ByteArray := prog_3_method_1_code
def yX1_init : MethodName := ⟨RX1, "<init>", "()V"⟩
abbrev cX1_copyFrom : ByteArray := prog_3_method_2_code
def yX1_copyFrom : MethodName := ⟨RX1, "copyFrom", "(LMarbleHeirs$Marbles;)V"⟩
abbrev cX1_count : ByteArray := prog_3_method_3_code
def yX1_count : MethodName := ⟨RX1, "count", "(I)I"⟩
abbrev cX1_has : ByteArray := prog_3_method_4_code
def yX1_has : MethodName := ⟨RX1, "has", "(II)Z"⟩
abbrev cX1_colour : ByteArray := prog_3_method_5_code
def yX1_colour : MethodName := ⟨RX1, "colour", "(II)I"⟩
abbrev cX1_value : ByteArray := prog_3_method_6_code
def yX1_value : MethodName := ⟨RX1, "value", "(II)I"⟩
abbrev cX1_describe : ByteArray := prog_3_method_7_code
def yX1_describe : MethodName := ⟨RX1, "describe", "(III)I"⟩
abbrev cX1_sum : ByteArray := prog_3_method_8_code
def yX1_sum : MethodName := ⟨RX1, "sum", "(I)I"⟩
abbrev cX1_countOf : ByteArray := prog_3_method_9_code
def yX1_countOf : MethodName := ⟨RX1, "countOf", "(II)I"⟩
abbrev cX1_hasRoom : ByteArray := prog_3_method_10_code
def yX1_hasRoom : MethodName := ⟨RX1, "hasRoom", "()Z"⟩
abbrev cX1_add : ByteArray := prog_3_method_11_code
def yX1_add : MethodName := ⟨RX1, "add", "(II)Z"⟩
abbrev cX1_giveFirstTo : ByteArray := prog_3_method_12_code
def yX1_giveFirstTo : MethodName := ⟨RX1, "giveFirstTo", "(I)V"⟩
abbrev cX1_trade : ByteArray := prog_3_method_13_code
def yX1_trade : MethodName := ⟨RX1, "trade", "(IIII)V"⟩
abbrev cX1_removeBag : ByteArray := prog_3_method_14_code
def yX1_removeBag : MethodName := ⟨RX1, "removeBag", "(I)V"⟩
def RX2 : String := "MarbleHeirs$Past"
def TX2 : u_T := fun k => match k with
  | 0 => ("MarbleHeirs$Past", "states", "[LMarbleHeirs$State;", true)
  | _ => ("MarbleHeirs$Past", "count", "I", false)
def tyX2 : Nat → FieldType := fun k => match k with
  | 0 => .array (.object "MarbleHeirs$State")
  | _ => .int
abbrev wsX20 : List Cond := u_ws RX2 TX2 2
theorem nmX2 : ∀ a, a < 2 → ∀ b, b < 2 → a ≠ b → (TX2 a).2.1 ≠ (TX2 b).2.1 := by decide +kernel
theorem tyX2_ok : ∀ k, k < 2 → parseFieldDescriptor (TX2 k).2.2.1 = some (tyX2 k) := by decide +kernel
abbrev cX2_init : ByteArray := prog_4_method_1_code
def yX2_init : MethodName := ⟨RX2, "<init>", "()V"⟩
abbrev cX2_keep : ByteArray := prog_4_method_2_code
def yX2_keep : MethodName := ⟨RX2, "keep", "(LMarbleHeirs$State;)V"⟩
abbrev cX2_discardOldest : ByteArray := prog_4_method_3_code
def yX2_discardOldest : MethodName := ⟨RX2, "discardOldest", "()V"⟩
abbrev cX2_takeBack : ByteArray := prog_4_method_4_code
def yX2_takeBack : MethodName := ⟨RX2, "takeBack", "(LMarbleHeirs$State;)V"⟩
def RX3 : String := "MarbleHeirs$State"
def TX3 : u_T := fun k => match k with
  | 0 => ("MarbleHeirs$State", "marbles", "LMarbleHeirs$Marbles;", true)
  | 1 => ("MarbleHeirs$State", "heirs", "I", false)
  | 2 => ("MarbleHeirs$State", "mothers", "[I", true)
  | 3 => ("MarbleHeirs$State", "wishes", "[I", true)
  | 4 => ("MarbleHeirs$State", "order", "[I", true)
  | 5 => ("MarbleHeirs$State", "vetoesLeft", "[I", true)
  | 6 => ("MarbleHeirs$State", "rule", "I", false)
  | 7 => ("MarbleHeirs$State", "patience", "I", false)
  | 8 => ("MarbleHeirs$State", "roundsMade", "I", false)
  | 9 => ("MarbleHeirs$State", "swapsMade", "I", false)
  | _ => ("MarbleHeirs$State", "vetoesMade", "I", false)
def tyX3 : Nat → FieldType := fun k => match k with
  | 0 => .object "MarbleHeirs$Marbles"
  | 1 => .int
  | 2 => .array .int
  | 3 => .array .int
  | 4 => .array .int
  | 5 => .array .int
  | 6 => .int
  | 7 => .int
  | 8 => .int
  | 9 => .int
  | _ => .int
abbrev wsX30 : List Cond := u_ws RX3 TX3 11
theorem nmX3 : ∀ a, a < 11 → ∀ b, b < 11 → a ≠ b → (TX3 a).2.1 ≠ (TX3 b).2.1 := by decide +kernel
theorem tyX3_ok : ∀ k, k < 11 → parseFieldDescriptor (TX3 k).2.2.1 = some (tyX3 k) := by decide +kernel
abbrev cX3_init : ByteArray := prog_5_method_1_code
def yX3_init : MethodName := ⟨RX3, "<init>", "()V"⟩
abbrev cX3_copyFrom : ByteArray := prog_5_method_2_code
def yX3_copyFrom : MethodName := ⟨RX3, "copyFrom", "(LMarbleHeirs$State;)V"⟩
abbrev cX3_hasHeir : ByteArray := prog_5_method_3_code
def yX3_hasHeir : MethodName := ⟨RX3, "hasHeir", "(I)Z"⟩
abbrev cX3_hasMarble : ByteArray := prog_5_method_4_code
def yX3_hasMarble : MethodName := ⟨RX3, "hasMarble", "(II)Z"⟩
abbrev cX3_addHeir : ByteArray := prog_5_method_5_code
def yX3_addHeir : MethodName := ⟨RX3, "addHeir", "(II)I"⟩
abbrev cX3_removeHeir : ByteArray := prog_5_method_6_code
def yX3_removeHeir : MethodName := ⟨RX3, "removeHeir", "(I)V"⟩
abbrev cX3_placeOf : ByteArray := prog_5_method_7_code
def yX3_placeOf : MethodName := ⟨RX3, "placeOf", "(I)I"⟩
abbrev cX3_playAllRounds : ByteArray := prog_5_method_8_code
def yX3_playAllRounds : MethodName := ⟨RX3, "playAllRounds", "()I"⟩
abbrev cX3_playRound : ByteArray := prog_5_method_9_code
def yX3_playRound : MethodName := ⟨RX3, "playRound", "()I"⟩
abbrev cX3_giveInOrder : ByteArray := prog_5_method_10_code
def yX3_giveInOrder : MethodName := ⟨RX3, "giveInOrder", "(I)V"⟩
abbrev cX3_giveToPoorest : ByteArray := prog_5_method_11_code
def yX3_giveToPoorest : MethodName := ⟨RX3, "giveToPoorest", "(I)V"⟩
abbrev cX3_poorestBut : ByteArray := prog_5_method_12_code
def yX3_poorestBut : MethodName := ⟨RX3, "poorestBut", "(I)I"⟩
abbrev cX3_exchangeUnlessVetoed : ByteArray := prog_5_method_13_code
def yX3_exchangeUnlessVetoed : MethodName := ⟨RX3, "exchangeUnlessVetoed", "(IIII)I"⟩
abbrev cX3_exchange : ByteArray := prog_5_method_14_code
def yX3_exchange : MethodName := ⟨RX3, "exchange", "(IIII)V"⟩
abbrev cX3_vetoer : ByteArray := prog_5_method_15_code
def yX3_vetoer : MethodName := ⟨RX3, "vetoer", "(IIII)I"⟩
abbrev cX3_objects : ByteArray := prog_5_method_16_code
def yX3_objects : MethodName := ⟨RX3, "objects", "(II)Z"⟩
abbrev cX3_about : ByteArray := prog_5_method_17_code
def yX3_about : MethodName := ⟨RX3, "about", "(II)I"⟩
abbrev cX3_figure : ByteArray := prog_5_method_18_code
def yX3_figure : MethodName := ⟨RX3, "figure", "(I)I"⟩
abbrev cX3_overAll : ByteArray := prog_5_method_19_code
def yX3_overAll : MethodName := ⟨RX3, "overAll", "(I)I"⟩
abbrev cX3_spread : ByteArray := prog_5_method_20_code
def yX3_spread : MethodName := ⟨RX3, "spread", "(I)I"⟩
def RX4 : String := "MarbleHeirs$Text"
def TX4 : u_T := fun k => match k with
  | 0 => ("MarbleHeirs$Text", "codes", "[I", true)
  | _ => ("MarbleHeirs$Text", "length", "I", false)
def tyX4 : Nat → FieldType := fun k => match k with
  | 0 => .array .int
  | _ => .int
abbrev wsX40 : List Cond := u_ws RX4 TX4 2
theorem nmX4 : ∀ a, a < 2 → ∀ b, b < 2 → a ≠ b → (TX4 a).2.1 ≠ (TX4 b).2.1 := by decide +kernel
theorem tyX4_ok : ∀ k, k < 2 → parseFieldDescriptor (TX4 k).2.2.1 = some (tyX4 k) := by decide +kernel
abbrev cX4_init : ByteArray := prog_6_method_1_code
def yX4_init : MethodName := ⟨RX4, "<init>", "()V"⟩
def RX5 : String := "MarbleHeirs"
def TX5 : u_T := fun k => match k with
  | 0 => ("MarbleHeirs", "now", "LMarbleHeirs$State;", true)
  | 1 => ("MarbleHeirs", "trial", "LMarbleHeirs$State;", true)
  | 2 => ("MarbleHeirs", "saved", "LMarbleHeirs$State;", true)
  | 3 => ("MarbleHeirs", "hasSaved", "Z", false)
  | 4 => ("MarbleHeirs", "past", "LMarbleHeirs$Past;", true)
  | 5 => ("MarbleHeirs", "text", "LMarbleHeirs$Text;", true)
  | _ => ("MarbleHeirs", "best", "LMarbleHeirs$BestSwap;", true)
def tyX5 : Nat → FieldType := fun k => match k with
  | 0 => .object "MarbleHeirs$State"
  | 1 => .object "MarbleHeirs$State"
  | 2 => .object "MarbleHeirs$State"
  | 3 => .boolean
  | 4 => .object "MarbleHeirs$Past"
  | 5 => .object "MarbleHeirs$Text"
  | _ => .object "MarbleHeirs$BestSwap"
abbrev wsX50 : List Cond := u_ws RX5 TX5 7
theorem nmX5 : ∀ a, a < 7 → ∀ b, b < 7 → a ≠ b → (TX5 a).2.1 ≠ (TX5 b).2.1 := by decide +kernel
theorem tyX5_ok : ∀ k, k < 7 → parseFieldDescriptor (TX5 k).2.2.1 = some (tyX5 k) := by decide +kernel
abbrev cX5_init : ByteArray := prog_1_method_1_code
def yX5_init : MethodName := ⟨RX5, "<init>", "()V"⟩
abbrev cX5_come : ByteArray := prog_1_method_2_code
def yX5_come : MethodName := ⟨RX5, "come", "(II)I"⟩
abbrev cX5_leave : ByteArray := prog_1_method_3_code
def yX5_leave : MethodName := ⟨RX5, "leave", "(I)I"⟩
abbrev cX5_wish : ByteArray := prog_1_method_4_code
def yX5_wish : MethodName := ⟨RX5, "wish", "(II)I"⟩
abbrev cX5_setRule : ByteArray := prog_1_method_5_code
def yX5_setRule : MethodName := ⟨RX5, "setRule", "(I)I"⟩
abbrev cX5_setPatience : ByteArray := prog_1_method_6_code
def yX5_setPatience : MethodName := ⟨RX5, "setPatience", "(I)I"⟩
abbrev cX5_grant : ByteArray := prog_1_method_7_code
def yX5_grant : MethodName := ⟨RX5, "grant", "(II)I"⟩
abbrev cX5_drop : ByteArray := prog_1_method_8_code
def yX5_drop : MethodName := ⟨RX5, "drop", "(II)I"⟩
abbrev cX5_round : ByteArray := prog_1_method_9_code
def yX5_round : MethodName := ⟨RX5, "round", "()I"⟩
abbrev cX5_divide : ByteArray := prog_1_method_10_code
def yX5_divide : MethodName := ⟨RX5, "divide", "()I"⟩
abbrev cX5_swap : ByteArray := prog_1_method_11_code
def yX5_swap : MethodName := ⟨RX5, "swap", "(IIII)I"⟩
abbrev cX5_settle : ByteArray := prog_1_method_12_code
def yX5_settle : MethodName := ⟨RX5, "settle", "()I"⟩
abbrev cX5_heir : ByteArray := prog_1_method_13_code
def yX5_heir : MethodName := ⟨RX5, "heir", "(II)I"⟩
abbrev cX5_bag : ByteArray := prog_1_method_14_code
def yX5_bag : MethodName := ⟨RX5, "bag", "(III)I"⟩
abbrev cX5_hopper : ByteArray := prog_1_method_15_code
def yX5_hopper : MethodName := ⟨RX5, "hopper", "(II)I"⟩
abbrev cX5_vetoes : ByteArray := prog_1_method_16_code
def yX5_vetoes : MethodName := ⟨RX5, "vetoes", "(I)I"⟩
abbrev cX5_at : ByteArray := prog_1_method_17_code
def yX5_at : MethodName := ⟨RX5, "at", "(I)I"⟩
abbrev cX5_total : ByteArray := prog_1_method_18_code
def yX5_total : MethodName := ⟨RX5, "total", "(I)I"⟩
abbrev cX5_ifDivided : ByteArray := prog_1_method_19_code
def yX5_ifDivided : MethodName := ⟨RX5, "ifDivided", "(II)I"⟩
abbrev cX5_fairestRule : ByteArray := prog_1_method_20_code
def yX5_fairestRule : MethodName := ⟨RX5, "fairestRule", "()I"⟩
abbrev cX5_whoVetoes : ByteArray := prog_1_method_21_code
def yX5_whoVetoes : MethodName := ⟨RX5, "whoVetoes", "(IIII)I"⟩
abbrev cX5_bestSwap : ByteArray := prog_1_method_22_code
def yX5_bestSwap : MethodName := ⟨RX5, "bestSwap", "(I)I"⟩
abbrev cX5_undo : ByteArray := prog_1_method_27_code
def yX5_undo : MethodName := ⟨RX5, "undo", "()I"⟩
abbrev cX5_restore : ByteArray := prog_1_method_29_code
def yX5_restore : MethodName := ⟨RX5, "restore", "()I"⟩
abbrev cX5_isMother : ByteArray := prog_1_method_30_code
def yX5_isMother : MethodName := ⟨RX5, "isMother", "(I)Z"⟩
abbrev cX5_isColour : ByteArray := prog_1_method_31_code
def yX5_isColour : MethodName := ⟨RX5, "isColour", "(I)Z"⟩
abbrev cX5_moveBack : ByteArray := prog_1_method_32_code
def yX5_moveBack : MethodName := ⟨RX5, "moveBack", "([III)V"⟩
abbrev cX5_swapError : ByteArray := prog_1_method_33_code
def yX5_swapError : MethodName := ⟨RX5, "swapError", "(IIII)I"⟩
abbrev cX5_spreadUnder : ByteArray := prog_1_method_34_code
def yX5_spreadUnder : MethodName := ⟨RX5, "spreadUnder", "(I)I"⟩
def RX6 : String := "MarbleHeirsModel"
def TX6 : u_T := fun k => match k with
  | _ => ("", "", "", false)
def tyX6 : Nat → FieldType := fun k => match k with
  | _ => .int
abbrev wsX60 : List Cond := u_ws RX6 TX6 0
theorem nmX6 : ∀ a, a < 0 → ∀ b, b < 0 → a ≠ b → (TX6 a).2.1 ≠ (TX6 b).2.1 := by decide +kernel
theorem tyX6_ok : ∀ k, k < 0 → parseFieldDescriptor (TX6 k).2.2.1 = some (tyX6 k) := by decide +kernel
def RL : String := "MarbleHeirsLaw"
abbrev cL_cell : ByteArray := method_2_code
def yL_cell : MethodName := ⟨RL, "cell", "([II)I"⟩
abbrev cL_low : ByteArray := method_3_code
def yL_low : MethodName := ⟨RL, "low", "(II)I"⟩
abbrev cL_change : ByteArray := method_4_code
def yL_change : MethodName := ⟨RL, "change", "(LMarbleHeirs;III)Z"⟩
abbrev cL_drops : ByteArray := method_5_code
def yL_drops : MethodName := ⟨RL, "drops", "(LMarbleHeirs;II)Z"⟩
abbrev cL_rounds : ByteArray := method_6_code
def yL_rounds : MethodName := ⟨RL, "rounds", "(LMarbleHeirs;I)Z"⟩
abbrev cL_divides : ByteArray := method_7_code
def yL_divides : MethodName := ⟨RL, "divides", "(LMarbleHeirs;I)Z"⟩
abbrev cL_swaps : ByteArray := method_8_code
def yL_swaps : MethodName := ⟨RL, "swaps", "(LMarbleHeirs;IIII)Z"⟩
abbrev cL_holds : ByteArray := method_9_code
def yL_holds : MethodName := ⟨RL, "holds", "(LMarbleHeirs;)Z"⟩
abbrev cL_isBest : ByteArray := method_10_code
def yL_isBest : MethodName := ⟨RL, "isBest", "(LMarbleHeirs;)Z"⟩
abbrev cL_isFair : ByteArray := method_11_code
def yL_isFair : MethodName := ⟨RL, "isFair", "(LMarbleHeirs;)Z"⟩
abbrev cL_law : ByteArray := code
def yL_law : MethodName := ⟨RL, "law", "([I)Z"⟩
end
section
abbrev zC1 : Type := List (Nat × Instr × Nat)
/-! MarbleHeirs$BestSwap.<init>()V -/
def zc0 : zC1 := [(0, .aload_n 0, 1), (1, .invokespecial 3, 3), (4, .aload_n 0, 1), (5, .iconst 0, 1), (6, .putfield 9, 3), (9, .aload_n 0, 1), (10, .iconst 0, 1), (11, .putfield 15, 3), (14, .aload_n 0, 1), (15, .iconst 0, 1), (16, .putfield 18, 3), (19, .aload_n 0, 1), (20, .iconst 0, 1), (21, .putfield 21, 3), (24, .aload_n 0, 1), (25, .iconst 0, 1), (26, .putfield 24, 3), (29, .aload_n 0, 1), (30, .iconst 0, 1), (31, .putfield 27, 3), (34, .return_, 1)]
/-! MarbleHeirs$BestSwap.tell(I)I -/
def zc1 : zC1 := [(0, .aload_n 0, 1), (1, .getfield 24, 3), (4, .ifCond .ne 6, 3), (7, .bipush (-6), 2), (9, .ireturn, 1), (10, .iload_n 1, 1), (11, .tableswitch 49 0 3 #[29, 34, 39, 44], 29), (40, .aload_n 0, 1), (41, .getfield 9, 3), (44, .ireturn, 1), (45, .aload_n 0, 1), (46, .getfield 15, 3), (49, .ireturn, 1), (50, .aload_n 0, 1), (51, .getfield 18, 3), (54, .ireturn, 1), (55, .aload_n 0, 1), (56, .getfield 21, 3), (59, .ireturn, 1), (60, .aload_n 0, 1), (61, .getfield 24, 3), (64, .ireturn, 1)]
/-! MarbleHeirs$BestSwap.searchIn(LMarbleHeirs$State;)V -/
def zc2 : zC1 := [(0, .aload_n 0, 1), (1, .iconst 0, 1), (2, .putfield 24, 3), (5, .aload_n 0, 1), (6, .iconst 0, 1), (7, .putfield 27, 3), (10, .iconst 0, 1), (11, .istore_n 2, 1), (12, .iload_n 2, 1), (13, .aload_n 1, 1), (14, .getfield 30, 3), (17, .if_icmp .ge 41, 3), (20, .aload_n 1, 1), (21, .getfield 35, 3), (24, .iload_n 2, 1), (25, .invokevirtual 39, 3), (28, .istore_n 3, 1), (29, .iconst 0, 1), (30, .istore 4, 2), (32, .iload 4, 2), (34, .iload_n 3, 1), (35, .if_icmp .ge 17, 3), (38, .aload_n 0, 1), (39, .aload_n 1, 1), (40, .iload_n 2, 1), (41, .iload 4, 2), (43, .invokevirtual 45, 3), (46, .iinc 4 1, 3), (49, .goto (-17), 3), (52, .iinc 2 1, 3), (55, .goto (-43), 3), (58, .return_, 1)]
/-! MarbleHeirs$BestSwap.searchPartners(LMarbleHeirs$State;II)V -/
def zc3 : zC1 := [(0, .aload_n 1, 1), (1, .getfield 35, 3), (4, .iload_n 2, 1), (5, .iload_n 3, 1), (6, .invokevirtual 49, 3), (9, .istore 4, 2), (11, .aload_n 1, 1), (12, .getfield 53, 3), (15, .iload_n 2, 1), (16, .iaload, 1), (17, .istore 5, 2), (19, .iload_n 2, 1), (20, .iconst 1, 1), (21, .iadd, 1), (22, .istore 6, 2), (24, .iload 6, 2), (26, .aload_n 1, 1), (27, .getfield 30, 3), (30, .if_icmp .ge 141, 3), (33, .aload_n 1, 1), (34, .getfield 53, 3), (37, .iload 6, 2), (39, .iaload, 1), (40, .istore 7, 2), (42, .iload 4, 2), (44, .iload 7, 2), (46, .invokestatic 57, 3), (49, .iload 4, 2), (51, .iload 5, 2), (53, .invokestatic 57, 3), (56, .isub, 1), (57, .istore 8, 2), (59, .iload 8, 2), (61, .iconst 1, 1), (62, .iadd, 1), (63, .aload_n 0, 1), (64, .getfield 24, 3), (67, .iconst 1, 1), (68, .invokestatic 60, 3), (71, .if_icmp .ge 7, 3), (74, .iconst 0, 1), (75, .goto 12, 3), (78, .aload_n 1, 1), (79, .getfield 35, 3), (82, .iload 6, 2), (84, .invokevirtual 39, 3), (87, .istore 9, 2), (89, .iconst 0, 1), (90, .istore 10, 2), (92, .iload 10, 2), (94, .iload 9, 2), (96, .if_icmp .ge 69, 3), (99, .aload_n 1, 1), (100, .getfield 35, 3), (103, .iload 6, 2), (105, .iload 10, 2), (107, .invokevirtual 49, 3), (110, .istore 11, 2), (112, .iload 8, 2), (114, .iload 11, 2), (116, .iload 5, 2), (118, .invokestatic 57, 3), (121, .iadd, 1), (122, .iload 11, 2), (124, .iload 7, 2), (126, .invokestatic 57, 3), (129, .isub, 1), (130, .istore 12, 2), (132, .iload 12, 2), (134, .ifCond .le 25, 3), (137, .iload 12, 2), (139, .aload_n 0, 1), (140, .getfield 24, 3), (143, .if_icmp .lt 16, 3), (146, .aload_n 0, 1), (147, .aload_n 1, 1), (148, .iload_n 2, 1), (149, .iload_n 3, 1), (150, .iload 6, 2), (152, .iload 10, 2), (154, .iload 12, 2), (156, .invokevirtual 65, 3), (159, .iinc 10 1, 3), (162, .goto (-70), 3), (165, .iinc 6 1, 3), (168, .goto (-144), 3), (171, .return_, 1)]
/-! MarbleHeirs$BestSwap.one(II)I -/
def zc4 : zC1 := [(0, .iload_n 0, 1), (1, .iload_n 1, 1), (2, .if_icmp .ne 7, 3), (5, .iconst 1, 1), (6, .goto 4, 3), (9, .iconst 0, 1), (10, .ireturn, 1)]
/-! MarbleHeirs$BestSwap.weigh(LMarbleHeirs$State;IIIII)V -/
def zc5 : zC1 := [(0, .aload_n 1, 1), (1, .getfield 35, 3), (4, .iload_n 2, 1), (5, .iload_n 3, 1), (6, .invokevirtual 69, 3), (9, .aload_n 1, 1), (10, .getfield 35, 3), (13, .iload 4, 2), (15, .iload 5, 2), (17, .invokevirtual 69, 3), (20, .isub, 1), (21, .invokestatic 72, 3), (24, .istore 7, 2), (26, .iload 6, 2), (28, .aload_n 0, 1), (29, .getfield 24, 3), (32, .if_icmp .gt 12, 3), (35, .iload 7, 2), (37, .aload_n 0, 1), (38, .getfield 27, 3), (41, .if_icmp .ge 7, 3), (44, .iconst 1, 1), (45, .goto 4, 3), (48, .iconst 0, 1), (49, .istore 8, 2), (51, .iload 8, 2), (53, .ifCond .eq 52, 3), (56, .aload_n 1, 1), (57, .iload_n 2, 1), (58, .iload_n 3, 1), (59, .iload 4, 2), (61, .iload 5, 2), (63, .invokevirtual 75, 3), (66, .bipush (-6), 2), (68, .if_icmp .ne 37, 3), (71, .aload_n 0, 1), (72, .iload_n 2, 1), (73, .putfield 9, 3), (76, .aload_n 0, 1), (77, .iload_n 3, 1), (78, .putfield 15, 3), (81, .aload_n 0, 1), (82, .iload 4, 2), (84, .putfield 18, 3), (87, .aload_n 0, 1), (88, .iload 5, 2), (90, .putfield 21, 3), (93, .aload_n 0, 1), (94, .iload 6, 2), (96, .putfield 24, 3), (99, .aload_n 0, 1), (100, .iload 7, 2), (102, .putfield 27, 3), (105, .return_, 1)]
/-! MarbleHeirs$Marbles.<init>()V -/
def zc6 : zC1 := [(0, .aload_n 0, 1), (1, .invokespecial 3, 3), (4, .aload_n 0, 1), (5, .bipush 120, 2), (7, .newarray .int, 2), (9, .putfield 9, 3), (12, .aload_n 0, 1), (13, .bipush 8, 2), (15, .newarray .int, 2), (17, .putfield 15, 3), (20, .return_, 1)]
/-! MarbleHeirs$Marbles.copyFrom(LMarbleHeirs$Marbles;)V -/
def zc7 : zC1 := [(0, .aload_n 1, 1), (1, .getfield 9, 3), (4, .iconst 0, 1), (5, .aload_n 0, 1), (6, .getfield 9, 3), (9, .iconst 0, 1), (10, .bipush 120, 2), (12, .invokestatic 18, 3), (15, .aload_n 1, 1), (16, .getfield 15, 3), (19, .iconst 0, 1), (20, .aload_n 0, 1), (21, .getfield 15, 3), (24, .iconst 0, 1), (25, .bipush 8, 2), (27, .invokestatic 18, 3), (30, .return_, 1)]
/-! MarbleHeirs$Marbles.count(I)I -/
def zc8 : zC1 := [(0, .aload_n 0, 1), (1, .getfield 15, 3), (4, .iload_n 1, 1), (5, .iconst 1, 1), (6, .iadd, 1), (7, .iaload, 1), (8, .aload_n 0, 1), (9, .getfield 15, 3), (12, .iload_n 1, 1), (13, .iaload, 1), (14, .isub, 1), (15, .ireturn, 1)]
/-! MarbleHeirs$Marbles.has(II)Z -/
def zc9 : zC1 := [(0, .iload_n 2, 1), (1, .ifCond .lt 16, 3), (4, .iload_n 2, 1), (5, .aload_n 0, 1), (6, .iload_n 1, 1), (7, .invokevirtual 24, 3), (10, .if_icmp .ge 7, 3), (13, .iconst 1, 1), (14, .goto 4, 3), (17, .iconst 0, 1), (18, .ireturn, 1)]
/-! MarbleHeirs$Marbles.colour(II)I -/
def zc10 : zC1 := [(0, .aload_n 0, 1), (1, .getfield 9, 3), (4, .aload_n 0, 1), (5, .getfield 15, 3), (8, .iload_n 1, 1), (9, .iaload, 1), (10, .iload_n 2, 1), (11, .iadd, 1), (12, .iaload, 1), (13, .bipush 10, 2), (15, .idiv, 1), (16, .ireturn, 1)]
/-! MarbleHeirs$Marbles.value(II)I -/
def zc11 : zC1 := [(0, .aload_n 0, 1), (1, .getfield 9, 3), (4, .aload_n 0, 1), (5, .getfield 15, 3), (8, .iload_n 1, 1), (9, .iaload, 1), (10, .iload_n 2, 1), (11, .iadd, 1), (12, .iaload, 1), (13, .bipush 10, 2), (15, .irem, 1), (16, .ireturn, 1)]
/-! MarbleHeirs$Marbles.describe(III)I -/
def zc12 : zC1 := [(0, .iload_n 3, 1), (1, .lookupswitch 41 #[(0, 27), (1, 34)], 27), (28, .aload_n 0, 1), (29, .iload_n 1, 1), (30, .iload_n 2, 1), (31, .invokevirtual 28, 3), (34, .ireturn, 1), (35, .aload_n 0, 1), (36, .iload_n 1, 1), (37, .iload_n 2, 1), (38, .invokevirtual 32, 3), (41, .ireturn, 1), (42, .bipush (-2), 2), (44, .ireturn, 1)]
/-! MarbleHeirs$Marbles.sum(I)I -/
def zc13 : zC1 := [(0, .iconst 0, 1), (1, .istore_n 2, 1), (2, .aload_n 0, 1), (3, .getfield 15, 3), (6, .iload_n 1, 1), (7, .iaload, 1), (8, .istore_n 3, 1), (9, .iload_n 3, 1), (10, .aload_n 0, 1), (11, .getfield 15, 3), (14, .iload_n 1, 1), (15, .iconst 1, 1), (16, .iadd, 1), (17, .iaload, 1), (18, .if_icmp .ge 21, 3), (21, .iload_n 2, 1), (22, .aload_n 0, 1), (23, .getfield 9, 3), (26, .iload_n 3, 1), (27, .iaload, 1), (28, .bipush 10, 2), (30, .irem, 1), (31, .iadd, 1), (32, .istore_n 2, 1), (33, .iinc 3 1, 3), (36, .goto (-27), 3), (39, .iload_n 2, 1), (40, .ireturn, 1)]
/-! MarbleHeirs$Marbles.countOf(II)I -/
def zc14 : zC1 := [(0, .iconst 0, 1), (1, .istore_n 3, 1), (2, .aload_n 0, 1), (3, .getfield 15, 3), (6, .iload_n 1, 1), (7, .iaload, 1), (8, .istore 4, 2), (10, .iload 4, 2), (12, .aload_n 0, 1), (13, .getfield 15, 3), (16, .iload_n 1, 1), (17, .iconst 1, 1), (18, .iadd, 1), (19, .iaload, 1), (20, .if_icmp .ge 26, 3), (23, .aload_n 0, 1), (24, .getfield 9, 3), (27, .iload 4, 2), (29, .iaload, 1), (30, .bipush 10, 2), (32, .idiv, 1), (33, .iload_n 2, 1), (34, .if_icmp .ne 6, 3), (37, .iinc 3 1, 3), (40, .iinc 4 1, 3), (43, .goto (-33), 3), (46, .iload_n 3, 1), (47, .ireturn, 1)]
/-! MarbleHeirs$Marbles.hasRoom()Z -/
def zc15 : zC1 := [(0, .aload_n 0, 1), (1, .bipush 6, 2), (3, .invokevirtual 24, 3), (6, .bipush 40, 2), (8, .if_icmp .ge 19, 3), (11, .aload_n 0, 1), (12, .getfield 15, 3), (15, .bipush 7, 2), (17, .iaload, 1), (18, .bipush 120, 2), (20, .if_icmp .ge 7, 3), (23, .iconst 1, 1), (24, .goto 4, 3), (27, .iconst 0, 1), (28, .ireturn, 1)]
/-! MarbleHeirs$Marbles.add(II)Z -/
def zc16 : zC1 := [(0, .aload_n 0, 1), (1, .invokevirtual 35, 3), (4, .ifCond .ne 5, 3), (7, .iconst 0, 1), (8, .ireturn, 1), (9, .aload_n 0, 1), (10, .getfield 9, 3), (13, .aload_n 0, 1), (14, .getfield 15, 3), (17, .bipush 7, 2), (19, .iaload, 1), (20, .iload_n 1, 1), (21, .bipush 10, 2), (23, .imul, 1), (24, .iload_n 2, 1), (25, .iadd, 1), (26, .iastore, 1), (27, .aload_n 0, 1), (28, .getfield 15, 3), (31, .bipush 7, 2), (33, .dup2, 1), (34, .iaload, 1), (35, .iconst 1, 1), (36, .iadd, 1), (37, .iastore, 1), (38, .iconst 1, 1), (39, .ireturn, 1)]
/-! MarbleHeirs$Marbles.giveFirstTo(I)V -/
def zc17 : zC1 := [(0, .aload_n 0, 1), (1, .bipush 6, 2), (3, .invokevirtual 24, 3), (6, .ifCond .ne 4, 3), (9, .return_, 1), (10, .aload_n 0, 1), (11, .getfield 15, 3), (14, .bipush 6, 2), (16, .iaload, 1), (17, .istore_n 2, 1), (18, .aload_n 0, 1), (19, .getfield 15, 3), (22, .iload_n 1, 1), (23, .iconst 1, 1), (24, .iadd, 1), (25, .iaload, 1), (26, .istore_n 3, 1), (27, .aload_n 0, 1), (28, .getfield 9, 3), (31, .iload_n 2, 1), (32, .iaload, 1), (33, .istore 4, 2), (35, .iload_n 2, 1), (36, .istore 5, 2), (38, .iload 5, 2), (40, .iload_n 3, 1), (41, .if_icmp .le 25, 3), (44, .aload_n 0, 1), (45, .getfield 9, 3), (48, .iload 5, 2), (50, .aload_n 0, 1), (51, .getfield 9, 3), (54, .iload 5, 2), (56, .iconst 1, 1), (57, .isub, 1), (58, .iaload, 1), (59, .iastore, 1), (60, .iinc 5 (-1), 3), (63, .goto (-25), 3), (66, .aload_n 0, 1), (67, .getfield 9, 3), (70, .iload_n 3, 1), (71, .iload 4, 2), (73, .iastore, 1), (74, .iload_n 1, 1), (75, .iconst 1, 1), (76, .iadd, 1), (77, .istore 5, 2), (79, .iload 5, 2), (81, .bipush 6, 2), (83, .if_icmp .gt 20, 3), (86, .aload_n 0, 1), (87, .getfield 15, 3), (90, .iload 5, 2), (92, .dup2, 1), (93, .iaload, 1), (94, .iconst 1, 1), (95, .iadd, 1), (96, .iastore, 1), (97, .iinc 5 1, 3), (100, .goto (-21), 3), (103, .return_, 1)]
/-! MarbleHeirs$Marbles.trade(IIII)V -/
def zc18 : zC1 := [(0, .aload_n 0, 1), (1, .getfield 15, 3), (4, .iload_n 1, 1), (5, .iaload, 1), (6, .iload_n 2, 1), (7, .iadd, 1), (8, .istore 5, 2), (10, .aload_n 0, 1), (11, .getfield 15, 3), (14, .iload_n 3, 1), (15, .iaload, 1), (16, .iload 4, 2), (18, .iadd, 1), (19, .istore 6, 2), (21, .aload_n 0, 1), (22, .getfield 9, 3), (25, .iload 5, 2), (27, .iaload, 1), (28, .istore 7, 2), (30, .aload_n 0, 1), (31, .getfield 9, 3), (34, .iload 5, 2), (36, .aload_n 0, 1), (37, .getfield 9, 3), (40, .iload 6, 2), (42, .iaload, 1), (43, .iastore, 1), (44, .aload_n 0, 1), (45, .getfield 9, 3), (48, .iload 6, 2), (50, .iload 7, 2), (52, .iastore, 1), (53, .return_, 1)]
/-! MarbleHeirs$Marbles.removeBag(I)V -/
def zc19 : zC1 := [(0, .aload_n 0, 1), (1, .iload_n 1, 1), (2, .invokevirtual 24, 3), (5, .istore_n 2, 1), (6, .iconst 0, 1), (7, .istore_n 3, 1), (8, .iload_n 3, 1), (9, .iload_n 2, 1), (10, .if_icmp .ge 31, 3), (13, .aload_n 0, 1), (14, .getfield 9, 3), (17, .aload_n 0, 1), (18, .getfield 15, 3), (21, .iload_n 1, 1), (22, .iaload, 1), (23, .aload_n 0, 1), (24, .getfield 15, 3), (27, .bipush 7, 2), (29, .iaload, 1), (30, .iconst 1, 1), (31, .isub, 1), (32, .invokestatic 39, 3), (35, .iinc 3 1, 3), (38, .goto (-30), 3), (41, .iload_n 1, 1), (42, .iconst 1, 1), (43, .iadd, 1), (44, .istore_n 3, 1), (45, .iload_n 3, 1), (46, .bipush 6, 2), (48, .if_icmp .gt 19, 3), (51, .aload_n 0, 1), (52, .getfield 15, 3), (55, .iload_n 3, 1), (56, .dup2, 1), (57, .iaload, 1), (58, .iload_n 2, 1), (59, .isub, 1), (60, .iastore, 1), (61, .iinc 3 1, 3), (64, .goto (-19), 3), (67, .iload_n 1, 1), (68, .iconst 1, 1), (69, .iadd, 1), (70, .istore_n 3, 1), (71, .iload_n 3, 1), (72, .bipush 6, 2), (74, .if_icmp .ge 23, 3), (77, .aload_n 0, 1), (78, .getfield 15, 3), (81, .iload_n 3, 1), (82, .aload_n 0, 1), (83, .getfield 15, 3), (86, .iload_n 3, 1), (87, .iconst 1, 1), (88, .iadd, 1), (89, .iaload, 1), (90, .iastore, 1), (91, .iinc 3 1, 3), (94, .goto (-23), 3), (97, .return_, 1)]
/-! MarbleHeirs$Past.<init>()V -/
def zc20 : zC1 := [(0, .aload_n 0, 1), (1, .invokespecial 3, 3), (4, .aload_n 0, 1), (5, .iconst 5, 1), (6, .anewarray 9, 3), (9, .putfield 11, 3), (12, .aload_n 0, 1), (13, .iconst 0, 1), (14, .putfield 17, 3), (17, .iconst 0, 1), (18, .istore_n 1, 1), (19, .iload_n 1, 1), (20, .iconst 5, 1), (21, .if_icmp .ge 22, 3), (24, .aload_n 0, 1), (25, .getfield 11, 3), (28, .iload_n 1, 1), (29, .new 9, 3), (32, .dup, 1), (33, .invokespecial 21, 3), (36, .aastore, 1), (37, .iinc 1 1, 3), (40, .goto (-21), 3), (43, .return_, 1)]
/-! MarbleHeirs$Past.keep(LMarbleHeirs$State;)V -/
def zc21 : zC1 := [(0, .aload_n 0, 1), (1, .getfield 17, 3), (4, .iconst 5, 1), (5, .if_icmp .lt 7, 3), (8, .aload_n 0, 1), (9, .invokevirtual 22, 3), (12, .aload_n 0, 1), (13, .getfield 11, 3), (16, .aload_n 0, 1), (17, .getfield 17, 3), (20, .aaload, 1), (21, .aload_n 1, 1), (22, .invokevirtual 25, 3), (25, .aload_n 0, 1), (26, .dup, 1), (27, .getfield 17, 3), (30, .iconst 1, 1), (31, .iadd, 1), (32, .putfield 17, 3), (35, .return_, 1)]
/-! MarbleHeirs$Past.discardOldest()V -/
def zc22 : zC1 := [(0, .aload_n 0, 1), (1, .getfield 11, 3), (4, .iconst 0, 1), (5, .aaload, 1), (6, .astore_n 1, 1), (7, .iconst 1, 1), (8, .istore_n 2, 1), (9, .iload_n 2, 1), (10, .iconst 5, 1), (11, .if_icmp .ge 23, 3), (14, .aload_n 0, 1), (15, .getfield 11, 3), (18, .iload_n 2, 1), (19, .iconst 1, 1), (20, .isub, 1), (21, .aload_n 0, 1), (22, .getfield 11, 3), (25, .iload_n 2, 1), (26, .aaload, 1), (27, .aastore, 1), (28, .iinc 2 1, 3), (31, .goto (-22), 3), (34, .aload_n 0, 1), (35, .getfield 11, 3), (38, .iconst 4, 1), (39, .aload_n 1, 1), (40, .aastore, 1), (41, .aload_n 0, 1), (42, .iconst 4, 1), (43, .putfield 17, 3), (46, .return_, 1)]
/-! MarbleHeirs$Past.takeBack(LMarbleHeirs$State;)V -/
def zc23 : zC1 := [(0, .aload_n 0, 1), (1, .getfield 17, 3), (4, .ifCond .le 26, 3), (7, .aload_n 0, 1), (8, .dup, 1), (9, .getfield 17, 3), (12, .iconst 1, 1), (13, .isub, 1), (14, .putfield 17, 3), (17, .aload_n 1, 1), (18, .aload_n 0, 1), (19, .getfield 11, 3), (22, .aload_n 0, 1), (23, .getfield 17, 3), (26, .aaload, 1), (27, .invokevirtual 25, 3), (30, .return_, 1)]
/-! MarbleHeirs$State.<init>()V -/
def zc24 : zC1 := [(0, .aload_n 0, 1), (1, .invokespecial 3, 3), (4, .aload_n 0, 1), (5, .new 9, 3), (8, .dup, 1), (9, .invokespecial 11, 3), (12, .putfield 12, 3), (15, .aload_n 0, 1), (16, .iconst 0, 1), (17, .putfield 18, 3), (20, .aload_n 0, 1), (21, .bipush 6, 2), (23, .newarray .int, 2), (25, .putfield 22, 3), (28, .aload_n 0, 1), (29, .bipush 6, 2), (31, .newarray .int, 2), (33, .putfield 26, 3), (36, .aload_n 0, 1), (37, .bipush 6, 2), (39, .newarray .int, 2), (41, .putfield 29, 3), (44, .aload_n 0, 1), (45, .iconst 4, 1), (46, .newarray .int, 2), (48, .putfield 32, 3), (51, .aload_n 0, 1), (52, .iconst 0, 1), (53, .putfield 35, 3), (56, .aload_n 0, 1), (57, .iconst 2, 1), (58, .putfield 38, 3), (61, .aload_n 0, 1), (62, .iconst 0, 1), (63, .putfield 41, 3), (66, .aload_n 0, 1), (67, .iconst 0, 1), (68, .putfield 44, 3), (71, .aload_n 0, 1), (72, .iconst 0, 1), (73, .putfield 47, 3), (76, .iconst 0, 1), (77, .istore_n 1, 1), (78, .iload_n 1, 1), (79, .iconst 4, 1), (80, .if_icmp .ge 16, 3), (83, .aload_n 0, 1), (84, .getfield 32, 3), (87, .iload_n 1, 1), (88, .iconst 2, 1), (89, .iastore, 1), (90, .iinc 1 1, 3), (93, .goto (-15), 3), (96, .return_, 1)]
/-! MarbleHeirs$State.copyFrom(LMarbleHeirs$State;)V -/
def zc25 : zC1 := [(0, .aload_n 0, 1), (1, .getfield 12, 3), (4, .aload_n 1, 1), (5, .getfield 12, 3), (8, .invokevirtual 50, 3), (11, .aload_n 0, 1), (12, .aload_n 1, 1), (13, .getfield 18, 3), (16, .putfield 18, 3), (19, .aload_n 1, 1), (20, .getfield 22, 3), (23, .iconst 0, 1), (24, .aload_n 0, 1), (25, .getfield 22, 3), (28, .iconst 0, 1), (29, .bipush 6, 2), (31, .invokestatic 54, 3), (34, .aload_n 1, 1), (35, .getfield 26, 3), (38, .iconst 0, 1), (39, .aload_n 0, 1), (40, .getfield 26, 3), (43, .iconst 0, 1), (44, .bipush 6, 2), (46, .invokestatic 54, 3), (49, .aload_n 1, 1), (50, .getfield 29, 3), (53, .iconst 0, 1), (54, .aload_n 0, 1), (55, .getfield 29, 3), (58, .iconst 0, 1), (59, .bipush 6, 2), (61, .invokestatic 54, 3), (64, .aload_n 1, 1), (65, .getfield 32, 3), (68, .iconst 0, 1), (69, .aload_n 0, 1), (70, .getfield 32, 3), (73, .iconst 0, 1), (74, .iconst 4, 1), (75, .invokestatic 54, 3), (78, .aload_n 0, 1), (79, .aload_n 1, 1), (80, .getfield 35, 3), (83, .putfield 35, 3), (86, .aload_n 0, 1), (87, .aload_n 1, 1), (88, .getfield 38, 3), (91, .putfield 38, 3), (94, .aload_n 0, 1), (95, .aload_n 1, 1), (96, .getfield 41, 3), (99, .putfield 41, 3), (102, .aload_n 0, 1), (103, .aload_n 1, 1), (104, .getfield 44, 3), (107, .putfield 44, 3), (110, .aload_n 0, 1), (111, .aload_n 1, 1), (112, .getfield 47, 3), (115, .putfield 47, 3), (118, .return_, 1)]
/-! MarbleHeirs$State.hasHeir(I)Z -/
def zc26 : zC1 := [(0, .iload_n 1, 1), (1, .ifCond .lt 15, 3), (4, .iload_n 1, 1), (5, .aload_n 0, 1), (6, .getfield 18, 3), (9, .if_icmp .ge 7, 3), (12, .iconst 1, 1), (13, .goto 4, 3), (16, .iconst 0, 1), (17, .ireturn, 1)]
/-! MarbleHeirs$State.hasMarble(II)Z -/
def zc27 : zC1 := [(0, .aload_n 0, 1), (1, .iload_n 1, 1), (2, .invokevirtual 60, 3), (5, .ifCond .eq 19, 3), (8, .aload_n 0, 1), (9, .getfield 12, 3), (12, .iload_n 1, 1), (13, .iload_n 2, 1), (14, .invokevirtual 64, 3), (17, .ifCond .eq 7, 3), (20, .iconst 1, 1), (21, .goto 4, 3), (24, .iconst 0, 1), (25, .ireturn, 1)]
/-! MarbleHeirs$State.addHeir(II)I -/
def zc28 : zC1 := [(0, .aload_n 0, 1), (1, .getfield 18, 3), (4, .istore_n 3, 1), (5, .aload_n 0, 1), (6, .getfield 22, 3), (9, .iload_n 3, 1), (10, .iload_n 1, 1), (11, .iastore, 1), (12, .aload_n 0, 1), (13, .getfield 26, 3), (16, .iload_n 3, 1), (17, .iload_n 2, 1), (18, .iastore, 1), (19, .aload_n 0, 1), (20, .getfield 29, 3), (23, .iload_n 3, 1), (24, .iload_n 3, 1), (25, .iastore, 1), (26, .aload_n 0, 1), (27, .dup, 1), (28, .getfield 18, 3), (31, .iconst 1, 1), (32, .iadd, 1), (33, .putfield 18, 3), (36, .iload_n 3, 1), (37, .ireturn, 1)]
/-! MarbleHeirs$State.removeHeir(I)V -/
def zc29 : zC1 := [(0, .aload_n 0, 1), (1, .getfield 12, 3), (4, .iload_n 1, 1), (5, .invokevirtual 68, 3), (8, .aload_n 0, 1), (9, .getfield 29, 3), (12, .aload_n 0, 1), (13, .iload_n 1, 1), (14, .invokevirtual 72, 3), (17, .aload_n 0, 1), (18, .getfield 18, 3), (21, .iconst 1, 1), (22, .isub, 1), (23, .invokestatic 76, 3), (26, .aload_n 0, 1), (27, .getfield 22, 3), (30, .iload_n 1, 1), (31, .aload_n 0, 1), (32, .getfield 18, 3), (35, .iconst 1, 1), (36, .isub, 1), (37, .invokestatic 76, 3), (40, .aload_n 0, 1), (41, .getfield 26, 3), (44, .iload_n 1, 1), (45, .aload_n 0, 1), (46, .getfield 18, 3), (49, .iconst 1, 1), (50, .isub, 1), (51, .invokestatic 76, 3), (54, .aload_n 0, 1), (55, .dup, 1), (56, .getfield 18, 3), (59, .iconst 1, 1), (60, .isub, 1), (61, .putfield 18, 3), (64, .iconst 0, 1), (65, .istore_n 2, 1), (66, .iload_n 2, 1), (67, .aload_n 0, 1), (68, .getfield 18, 3), (71, .if_icmp .ge 29, 3), (74, .aload_n 0, 1), (75, .getfield 29, 3), (78, .iload_n 2, 1), (79, .iaload, 1), (80, .iload_n 1, 1), (81, .if_icmp .le 13, 3), (84, .aload_n 0, 1), (85, .getfield 29, 3), (88, .iload_n 2, 1), (89, .dup2, 1), (90, .iaload, 1), (91, .iconst 1, 1), (92, .isub, 1), (93, .iastore, 1), (94, .iinc 2 1, 3), (97, .goto (-31), 3), (100, .return_, 1)]
/-! MarbleHeirs$State.placeOf(I)I -/
def zc30 : zC1 := [(0, .iconst 0, 1), (1, .istore_n 2, 1), (2, .iload_n 2, 1), (3, .aload_n 0, 1), (4, .getfield 18, 3), (7, .iconst 1, 1), (8, .isub, 1), (9, .if_icmp .ge 19, 3), (12, .aload_n 0, 1), (13, .getfield 29, 3), (16, .iload_n 2, 1), (17, .iaload, 1), (18, .iload_n 1, 1), (19, .if_icmp .eq 9, 3), (22, .iinc 2 1, 3), (25, .goto (-23), 3), (28, .iload_n 2, 1), (29, .ireturn, 1)]
/-! MarbleHeirs$State.playAllRounds()I -/
def zc31 : zC1 := [(0, .iconst 0, 1), (1, .istore_n 1, 1), (2, .aload_n 0, 1), (3, .getfield 12, 3), (6, .bipush 6, 2), (8, .invokevirtual 80, 3), (11, .istore_n 2, 1), (12, .iload_n 2, 1), (13, .ifCond .le 19, 3), (16, .aload_n 0, 1), (17, .invokevirtual 83, 3), (20, .ifCond .le 12, 3), (23, .iinc 1 1, 3), (26, .iinc 2 (-1), 3), (29, .goto (-17), 3), (32, .iload_n 1, 1), (33, .ireturn, 1)]
/-! MarbleHeirs$State.playRound()I -/
def zc32 : zC1 := [(0, .aload_n 0, 1), (1, .getfield 18, 3), (4, .aload_n 0, 1), (5, .getfield 12, 3), (8, .bipush 6, 2), (10, .invokevirtual 80, 3), (13, .invokestatic 87, 3), (16, .istore_n 1, 1), (17, .iload_n 1, 1), (18, .aload_n 0, 1), (19, .getfield 18, 3), (22, .if_icmp .ge 7, 3), (25, .iconst 1, 1), (26, .goto 4, 3), (29, .iconst 0, 1), (30, .istore_n 2, 1), (31, .iload_n 2, 1), (32, .ifCond .eq 13, 3), (35, .aload_n 0, 1), (36, .getfield 35, 3), (39, .iconst 2, 1), (40, .if_icmp .ne 5, 3), (43, .iconst 0, 1), (44, .ireturn, 1), (45, .iload_n 2, 1), (46, .ifCond .eq 19, 3), (49, .aload_n 0, 1), (50, .getfield 35, 3), (53, .iconst 1, 1), (54, .if_icmp .ne 11, 3), (57, .aload_n 0, 1), (58, .iload_n 1, 1), (59, .invokevirtual 93, 3), (62, .goto 8, 3), (65, .aload_n 0, 1), (66, .iload_n 1, 1), (67, .invokevirtual 96, 3), (70, .iload_n 1, 1), (71, .ifCond .le 27, 3), (74, .aload_n 0, 1), (75, .getfield 29, 3), (78, .iconst 0, 1), (79, .aload_n 0, 1), (80, .getfield 18, 3), (83, .iconst 1, 1), (84, .isub, 1), (85, .invokestatic 76, 3), (88, .aload_n 0, 1), (89, .dup, 1), (90, .getfield 41, 3), (93, .iconst 1, 1), (94, .iadd, 1), (95, .putfield 41, 3), (98, .iload_n 1, 1), (99, .ireturn, 1)]
/-! MarbleHeirs$State.giveInOrder(I)V -/
def zc33 : zC1 := [(0, .iconst 0, 1), (1, .istore_n 2, 1), (2, .iload_n 2, 1), (3, .iload_n 1, 1), (4, .if_icmp .ge 22, 3), (7, .aload_n 0, 1), (8, .getfield 12, 3), (11, .aload_n 0, 1), (12, .getfield 29, 3), (15, .iload_n 2, 1), (16, .iaload, 1), (17, .invokevirtual 99, 3), (20, .iinc 2 1, 3), (23, .goto (-21), 3), (26, .return_, 1)]
/-! MarbleHeirs$State.giveToPoorest(I)V -/
def zc34 : zC1 := [(0, .iconst 0, 1), (1, .istore_n 2, 1), (2, .iconst 0, 1), (3, .istore_n 3, 1), (4, .iload_n 3, 1), (5, .iload_n 1, 1), (6, .if_icmp .ge 32, 3), (9, .aload_n 0, 1), (10, .iload_n 2, 1), (11, .invokevirtual 102, 3), (14, .istore 4, 2), (16, .aload_n 0, 1), (17, .getfield 12, 3), (20, .iload 4, 2), (22, .invokevirtual 99, 3), (25, .iload_n 2, 1), (26, .iconst 1, 1), (27, .iload 4, 2), (29, .ishl, 1), (30, .ior, 1), (31, .istore_n 2, 1), (32, .iinc 3 1, 3), (35, .goto (-31), 3), (38, .return_, 1)]
/-! MarbleHeirs$State.poorestBut(I)I -/
def zc35 : zC1 := [(0, .iconst 0, 1), (1, .istore_n 2, 1), (2, .sipush 1081, 3), (5, .istore_n 3, 1), (6, .iconst 0, 1), (7, .istore 4, 2), (9, .iload 4, 2), (11, .aload_n 0, 1), (12, .getfield 18, 3), (15, .if_icmp .ge 50, 3), (18, .aload_n 0, 1), (19, .getfield 29, 3), (22, .iload 4, 2), (24, .iaload, 1), (25, .istore 5, 2), (27, .aload_n 0, 1), (28, .getfield 12, 3), (31, .iload 5, 2), (33, .invokevirtual 105, 3), (36, .istore 6, 2), (38, .iload_n 1, 1), (39, .iload 5, 2), (41, .ishr, 1), (42, .iconst 1, 1), (43, .iand, 1), (44, .ifCond .ne 15, 3), (47, .iload 6, 2), (49, .iload_n 3, 1), (50, .if_icmp .ge 9, 3), (53, .iload 5, 2), (55, .istore_n 2, 1), (56, .iload 6, 2), (58, .istore_n 3, 1), (59, .iinc 4 1, 3), (62, .goto (-53), 3), (65, .iload_n 2, 1), (66, .ireturn, 1)]
/-! MarbleHeirs$State.exchangeUnlessVetoed(IIII)I -/
def zc36 : zC1 := [(0, .aload_n 0, 1), (1, .iload_n 1, 1), (2, .iload_n 2, 1), (3, .iload_n 3, 1), (4, .iload 4, 2), (6, .invokevirtual 108, 3), (9, .istore 5, 2), (11, .iload 5, 2), (13, .bipush (-6), 2), (15, .if_icmp .ne 15, 3), (18, .aload_n 0, 1), (19, .iload_n 1, 1), (20, .iload_n 2, 1), (21, .iload_n 3, 1), (22, .iload 4, 2), (24, .invokevirtual 112, 3), (27, .goto 24, 3), (30, .aload_n 0, 1), (31, .getfield 32, 3), (34, .iload 5, 2), (36, .dup2, 1), (37, .iaload, 1), (38, .iconst 1, 1), (39, .isub, 1), (40, .iastore, 1), (41, .aload_n 0, 1), (42, .dup, 1), (43, .getfield 47, 3), (46, .iconst 1, 1), (47, .iadd, 1), (48, .putfield 47, 3), (51, .iload 5, 2), (53, .ireturn, 1)]
/-! MarbleHeirs$State.exchange(IIII)V -/
def zc37 : zC1 := [(0, .aload_n 0, 1), (1, .getfield 12, 3), (4, .iload_n 1, 1), (5, .iload_n 2, 1), (6, .iload_n 3, 1), (7, .iload 4, 2), (9, .invokevirtual 116, 3), (12, .aload_n 0, 1), (13, .dup, 1), (14, .getfield 44, 3), (17, .iconst 1, 1), (18, .iadd, 1), (19, .putfield 44, 3), (22, .return_, 1)]
/-! MarbleHeirs$State.vetoer(IIII)I -/
def zc38 : zC1 := [(0, .aload_n 0, 1), (1, .getfield 12, 3), (4, .iload_n 1, 1), (5, .iload_n 2, 1), (6, .invokevirtual 119, 3), (9, .aload_n 0, 1), (10, .getfield 12, 3), (13, .iload_n 3, 1), (14, .iload 4, 2), (16, .invokevirtual 119, 3), (19, .isub, 1), (20, .istore 5, 2), (22, .aload_n 0, 1), (23, .aload_n 0, 1), (24, .getfield 22, 3), (27, .iload_n 1, 1), (28, .iaload, 1), (29, .iload 5, 2), (31, .invokevirtual 122, 3), (34, .ifCond .eq 10, 3), (37, .aload_n 0, 1), (38, .getfield 22, 3), (41, .iload_n 1, 1), (42, .iaload, 1), (43, .ireturn, 1), (44, .aload_n 0, 1), (45, .aload_n 0, 1), (46, .getfield 22, 3), (49, .iload_n 3, 1), (50, .iaload, 1), (51, .iload 5, 2), (53, .ineg, 1), (54, .invokevirtual 122, 3), (57, .ifCond .eq 12, 3), (60, .aload_n 0, 1), (61, .getfield 22, 3), (64, .iload_n 3, 1), (65, .iaload, 1), (66, .goto 5, 3), (69, .bipush (-6), 2), (71, .ireturn, 1)]
/-! MarbleHeirs$State.objects(II)Z -/
def zc39 : zC1 := [(0, .iload_n 2, 1), (1, .aload_n 0, 1), (2, .getfield 38, 3), (5, .if_icmp .le 16, 3), (8, .aload_n 0, 1), (9, .getfield 32, 3), (12, .iload_n 1, 1), (13, .iaload, 1), (14, .ifCond .le 7, 3), (17, .iconst 1, 1), (18, .goto 4, 3), (21, .iconst 0, 1), (22, .ireturn, 1)]
/-! MarbleHeirs$State.about(II)I -/
def zc40 : zC1 := [(0, .iload_n 2, 1), (1, .tableswitch 82 0 4 #[35, 42, 49, 58, 67], 35), (36, .aload_n 0, 1), (37, .getfield 22, 3), (40, .iload_n 1, 1), (41, .iaload, 1), (42, .ireturn, 1), (43, .aload_n 0, 1), (44, .getfield 26, 3), (47, .iload_n 1, 1), (48, .iaload, 1), (49, .ireturn, 1), (50, .aload_n 0, 1), (51, .getfield 12, 3), (54, .iload_n 1, 1), (55, .invokevirtual 80, 3), (58, .ireturn, 1), (59, .aload_n 0, 1), (60, .getfield 12, 3), (63, .iload_n 1, 1), (64, .invokevirtual 105, 3), (67, .ireturn, 1), (68, .aload_n 0, 1), (69, .getfield 12, 3), (72, .iload_n 1, 1), (73, .aload_n 0, 1), (74, .getfield 26, 3), (77, .iload_n 1, 1), (78, .iaload, 1), (79, .invokevirtual 125, 3), (82, .ireturn, 1), (83, .aload_n 0, 1), (84, .iload_n 1, 1), (85, .invokevirtual 72, 3), (88, .ireturn, 1)]
/-! MarbleHeirs$State.figure(I)I -/
def zc41 : zC1 := [(0, .iload_n 1, 1), (1, .tableswitch 138 0 11 #[63, 68, 78, 84, 94, 100, 105, 110, 115, 121, 127, 133], 63), (64, .aload_n 0, 1), (65, .getfield 18, 3), (68, .ireturn, 1), (69, .aload_n 0, 1), (70, .getfield 12, 3), (73, .bipush 6, 2), (75, .invokevirtual 80, 3), (78, .ireturn, 1), (79, .aload_n 0, 1), (80, .iconst 2, 1), (81, .invokevirtual 128, 3), (84, .ireturn, 1), (85, .aload_n 0, 1), (86, .getfield 12, 3), (89, .bipush 6, 2), (91, .invokevirtual 105, 3), (94, .ireturn, 1), (95, .aload_n 0, 1), (96, .iconst 3, 1), (97, .invokevirtual 128, 3), (100, .ireturn, 1), (101, .aload_n 0, 1), (102, .getfield 41, 3), (105, .ireturn, 1), (106, .aload_n 0, 1), (107, .getfield 44, 3), (110, .ireturn, 1), (111, .aload_n 0, 1), (112, .getfield 47, 3), (115, .ireturn, 1), (116, .aload_n 0, 1), (117, .iconst 4, 1), (118, .invokevirtual 128, 3), (121, .ireturn, 1), (122, .aload_n 0, 1), (123, .iconst 2, 1), (124, .invokevirtual 131, 3), (127, .ireturn, 1), (128, .aload_n 0, 1), (129, .iconst 3, 1), (130, .invokevirtual 131, 3), (133, .ireturn, 1), (134, .aload_n 0, 1), (135, .getfield 35, 3), (138, .ireturn, 1), (139, .aload_n 0, 1), (140, .getfield 38, 3), (143, .ireturn, 1)]
/-! MarbleHeirs$State.overAll(I)I -/
def zc42 : zC1 := [(0, .iconst 0, 1), (1, .istore_n 2, 1), (2, .iconst 0, 1), (3, .istore_n 3, 1), (4, .iload_n 3, 1), (5, .aload_n 0, 1), (6, .getfield 18, 3), (9, .if_icmp .ge 18, 3), (12, .iload_n 2, 1), (13, .aload_n 0, 1), (14, .iload_n 3, 1), (15, .iload_n 1, 1), (16, .invokevirtual 134, 3), (19, .iadd, 1), (20, .istore_n 2, 1), (21, .iinc 3 1, 3), (24, .goto (-20), 3), (27, .iload_n 2, 1), (28, .ireturn, 1)]
/-! MarbleHeirs$State.spread(I)I -/
def zc43 : zC1 := [(0, .aload_n 0, 1), (1, .getfield 18, 3), (4, .ifCond .ne 5, 3), (7, .iconst 0, 1), (8, .ireturn, 1), (9, .aload_n 0, 1), (10, .iconst 0, 1), (11, .iload_n 1, 1), (12, .invokevirtual 134, 3), (15, .istore_n 2, 1), (16, .iload_n 2, 1), (17, .istore_n 3, 1), (18, .iconst 1, 1), (19, .istore 4, 2), (21, .iload 4, 2), (23, .aload_n 0, 1), (24, .getfield 18, 3), (27, .if_icmp .ge 32, 3), (30, .aload_n 0, 1), (31, .iload 4, 2), (33, .iload_n 1, 1), (34, .invokevirtual 134, 3), (37, .istore 5, 2), (39, .iload_n 2, 1), (40, .iload 5, 2), (42, .invokestatic 87, 3), (45, .istore_n 2, 1), (46, .iload_n 3, 1), (47, .iload 5, 2), (49, .invokestatic 137, 3), (52, .istore_n 3, 1), (53, .iinc 4 1, 3), (56, .goto (-35), 3), (59, .iload_n 3, 1), (60, .iload_n 2, 1), (61, .isub, 1), (62, .ireturn, 1)]
/-! MarbleHeirs$Text.<init>()V -/
def zc44 : zC1 := [(0, .aload_n 0, 1), (1, .invokespecial 3, 3), (4, .aload_n 0, 1), (5, .bipush 50, 2), (7, .newarray .int, 2), (9, .putfield 9, 3), (12, .aload_n 0, 1), (13, .iconst 0, 1), (14, .putfield 15, 3), (17, .return_, 1)]
/-! MarbleHeirs.<init>()V -/
def zc52 : zC1 := [(0, .aload_n 0, 1), (1, .invokespecial 3, 3), (4, .aload_n 0, 1), (5, .new 9, 3), (8, .dup, 1), (9, .invokespecial 11, 3), (12, .putfield 12, 3), (15, .aload_n 0, 1), (16, .new 9, 3), (19, .dup, 1), (20, .invokespecial 11, 3), (23, .putfield 16, 3), (26, .aload_n 0, 1), (27, .new 9, 3), (30, .dup, 1), (31, .invokespecial 11, 3), (34, .putfield 19, 3), (37, .aload_n 0, 1), (38, .iconst 0, 1), (39, .putfield 22, 3), (42, .aload_n 0, 1), (43, .new 26, 3), (46, .dup, 1), (47, .invokespecial 28, 3), (50, .putfield 29, 3), (53, .aload_n 0, 1), (54, .new 33, 3), (57, .dup, 1), (58, .invokespecial 35, 3), (61, .putfield 36, 3), (64, .aload_n 0, 1), (65, .new 40, 3), (68, .dup, 1), (69, .invokespecial 42, 3), (72, .putfield 43, 3), (75, .return_, 1)]
/-! MarbleHeirs.come(II)I -/
def zc53 : zC1 := [(0, .iload_n 1, 1), (1, .invokestatic 47, 3), (4, .ifCond .ne 5, 3), (7, .iconst (-1), 1), (8, .ireturn, 1), (9, .iload_n 2, 1), (10, .invokestatic 51, 3), (13, .ifCond .ne 6, 3), (16, .bipush (-2), 2), (18, .ireturn, 1), (19, .aload_n 0, 1), (20, .getfield 12, 3), (23, .getfield 54, 3), (26, .bipush 6, 2), (28, .if_icmp .lt 6, 3), (31, .bipush (-4), 2), (33, .ireturn, 1), (34, .aload_n 0, 1), (35, .getfield 29, 3), (38, .aload_n 0, 1), (39, .getfield 12, 3), (42, .invokevirtual 58, 3), (45, .aload_n 0, 1), (46, .getfield 12, 3), (49, .iload_n 1, 1), (50, .iload_n 2, 1), (51, .invokevirtual 62, 3), (54, .ireturn, 1)]
/-! MarbleHeirs.leave(I)I -/
def zc54 : zC1 := [(0, .aload_n 0, 1), (1, .getfield 12, 3), (4, .iload_n 1, 1), (5, .invokevirtual 66, 3), (8, .ifCond .ne 5, 3), (11, .iconst (-1), 1), (12, .ireturn, 1), (13, .aload_n 0, 1), (14, .getfield 12, 3), (17, .getfield 69, 3), (20, .iload_n 1, 1), (21, .invokevirtual 73, 3), (24, .istore_n 2, 1), (25, .aload_n 0, 1), (26, .getfield 12, 3), (29, .getfield 69, 3), (32, .bipush 6, 2), (34, .invokevirtual 73, 3), (37, .iload_n 2, 1), (38, .iadd, 1), (39, .bipush 40, 2), (41, .if_icmp .le 6, 3), (44, .bipush (-4), 2), (46, .ireturn, 1), (47, .aload_n 0, 1), (48, .getfield 29, 3), (51, .aload_n 0, 1), (52, .getfield 12, 3), (55, .invokevirtual 58, 3), (58, .aload_n 0, 1), (59, .getfield 12, 3), (62, .iload_n 1, 1), (63, .invokevirtual 79, 3), (66, .iload_n 2, 1), (67, .ireturn, 1)]
/-! MarbleHeirs.wish(II)I -/
def zc55 : zC1 := [(0, .aload_n 0, 1), (1, .getfield 12, 3), (4, .iload_n 1, 1), (5, .invokevirtual 66, 3), (8, .ifCond .ne 5, 3), (11, .iconst (-1), 1), (12, .ireturn, 1), (13, .iload_n 2, 1), (14, .invokestatic 51, 3), (17, .ifCond .ne 6, 3), (20, .bipush (-2), 2), (22, .ireturn, 1), (23, .aload_n 0, 1), (24, .getfield 29, 3), (27, .aload_n 0, 1), (28, .getfield 12, 3), (31, .invokevirtual 58, 3), (34, .aload_n 0, 1), (35, .getfield 12, 3), (38, .getfield 83, 3), (41, .iload_n 1, 1), (42, .iload_n 2, 1), (43, .iastore, 1), (44, .aload_n 0, 1), (45, .getfield 12, 3), (48, .getfield 69, 3), (51, .iload_n 1, 1), (52, .iload_n 2, 1), (53, .invokevirtual 87, 3), (56, .ireturn, 1)]
/-! MarbleHeirs.setRule(I)I -/
def zc56 : zC1 := [(0, .iload_n 1, 1), (1, .ifCond .lt 8, 3), (4, .iload_n 1, 1), (5, .iconst 2, 1), (6, .if_icmp .le 6, 3), (9, .bipush (-2), 2), (11, .ireturn, 1), (12, .aload_n 0, 1), (13, .getfield 29, 3), (16, .aload_n 0, 1), (17, .getfield 12, 3), (20, .invokevirtual 58, 3), (23, .aload_n 0, 1), (24, .getfield 12, 3), (27, .getfield 90, 3), (30, .istore_n 2, 1), (31, .aload_n 0, 1), (32, .getfield 12, 3), (35, .iload_n 1, 1), (36, .putfield 90, 3), (39, .iload_n 2, 1), (40, .ireturn, 1)]
/-! MarbleHeirs.setPatience(I)I -/
def zc57 : zC1 := [(0, .iload_n 1, 1), (1, .ifCond .lt 9, 3), (4, .iload_n 1, 1), (5, .bipush 8, 2), (7, .if_icmp .le 6, 3), (10, .bipush (-2), 2), (12, .ireturn, 1), (13, .aload_n 0, 1), (14, .getfield 29, 3), (17, .aload_n 0, 1), (18, .getfield 12, 3), (21, .invokevirtual 58, 3), (24, .aload_n 0, 1), (25, .getfield 12, 3), (28, .getfield 93, 3), (31, .istore_n 2, 1), (32, .aload_n 0, 1), (33, .getfield 12, 3), (36, .iload_n 1, 1), (37, .putfield 93, 3), (40, .iload_n 2, 1), (41, .ireturn, 1)]
/-! MarbleHeirs.grant(II)I -/
def zc58 : zC1 := [(0, .iload_n 1, 1), (1, .invokestatic 47, 3), (4, .ifCond .ne 5, 3), (7, .iconst (-1), 1), (8, .ireturn, 1), (9, .iload_n 2, 1), (10, .ifCond .lt 9, 3), (13, .iload_n 2, 1), (14, .bipush 9, 2), (16, .if_icmp .le 6, 3), (19, .bipush (-2), 2), (21, .ireturn, 1), (22, .aload_n 0, 1), (23, .getfield 29, 3), (26, .aload_n 0, 1), (27, .getfield 12, 3), (30, .invokevirtual 58, 3), (33, .aload_n 0, 1), (34, .getfield 12, 3), (37, .getfield 96, 3), (40, .iload_n 1, 1), (41, .iaload, 1), (42, .istore_n 3, 1), (43, .aload_n 0, 1), (44, .getfield 12, 3), (47, .getfield 96, 3), (50, .iload_n 1, 1), (51, .iload_n 2, 1), (52, .iastore, 1), (53, .iload_n 3, 1), (54, .ireturn, 1)]
/-! MarbleHeirs.drop(II)I -/
def zc59 : zC1 := [(0, .iload_n 1, 1), (1, .invokestatic 51, 3), (4, .ifCond .eq 14, 3), (7, .iload_n 2, 1), (8, .iconst 1, 1), (9, .if_icmp .lt 9, 3), (12, .iload_n 2, 1), (13, .bipush 9, 2), (15, .if_icmp .le 6, 3), (18, .bipush (-2), 2), (20, .ireturn, 1), (21, .aload_n 0, 1), (22, .getfield 12, 3), (25, .getfield 69, 3), (28, .invokevirtual 99, 3), (31, .ifCond .ne 6, 3), (34, .bipush (-4), 2), (36, .ireturn, 1), (37, .aload_n 0, 1), (38, .getfield 29, 3), (41, .aload_n 0, 1), (42, .getfield 12, 3), (45, .invokevirtual 58, 3), (48, .aload_n 0, 1), (49, .getfield 12, 3), (52, .getfield 69, 3), (55, .iload_n 1, 1), (56, .iload_n 2, 1), (57, .invokevirtual 103, 3), (60, .pop, 1), (61, .aload_n 0, 1), (62, .getfield 12, 3), (65, .getfield 69, 3), (68, .bipush 6, 2), (70, .invokevirtual 73, 3), (73, .ireturn, 1)]
/-! MarbleHeirs.round()I -/
def zc60 : zC1 := [(0, .aload_n 0, 1), (1, .getfield 12, 3), (4, .getfield 54, 3), (7, .ifCond .ne 6, 3), (10, .bipush (-3), 2), (12, .ireturn, 1), (13, .aload_n 0, 1), (14, .getfield 29, 3), (17, .aload_n 0, 1), (18, .getfield 12, 3), (21, .invokevirtual 58, 3), (24, .aload_n 0, 1), (25, .getfield 12, 3), (28, .invokevirtual 107, 3), (31, .ireturn, 1)]
/-! MarbleHeirs.divide()I -/
def zc61 : zC1 := [(0, .aload_n 0, 1), (1, .getfield 12, 3), (4, .getfield 54, 3), (7, .ifCond .ne 6, 3), (10, .bipush (-3), 2), (12, .ireturn, 1), (13, .aload_n 0, 1), (14, .getfield 29, 3), (17, .aload_n 0, 1), (18, .getfield 12, 3), (21, .invokevirtual 58, 3), (24, .aload_n 0, 1), (25, .getfield 12, 3), (28, .invokevirtual 111, 3), (31, .ireturn, 1)]
/-! MarbleHeirs.swap(IIII)I -/
def zc62 : zC1 := [(0, .aload_n 0, 1), (1, .iload_n 1, 1), (2, .iload_n 2, 1), (3, .iload_n 3, 1), (4, .iload 4, 2), (6, .invokevirtual 114, 3), (9, .istore 5, 2), (11, .iload 5, 2), (13, .ifCond .eq 6, 3), (16, .iload 5, 2), (18, .ireturn, 1), (19, .aload_n 0, 1), (20, .getfield 29, 3), (23, .aload_n 0, 1), (24, .getfield 12, 3), (27, .invokevirtual 58, 3), (30, .aload_n 0, 1), (31, .getfield 12, 3), (34, .iload_n 1, 1), (35, .iload_n 2, 1), (36, .iload_n 3, 1), (37, .iload 4, 2), (39, .invokevirtual 118, 3), (42, .ireturn, 1)]
/-! MarbleHeirs.settle()I -/
def zc63 : zC1 := [(0, .aload_n 0, 1), (1, .getfield 29, 3), (4, .aload_n 0, 1), (5, .getfield 12, 3), (8, .invokevirtual 58, 3), (11, .aload_n 0, 1), (12, .getfield 43, 3), (15, .aload_n 0, 1), (16, .getfield 12, 3), (19, .invokevirtual 121, 3), (22, .iconst 0, 1), (23, .istore_n 1, 1), (24, .aload_n 0, 1), (25, .getfield 43, 3), (28, .getfield 124, 3), (31, .ifCond .le 61, 3), (34, .iload_n 1, 1), (35, .bipush 120, 2), (37, .if_icmp .ge 55, 3), (40, .aload_n 0, 1), (41, .getfield 12, 3), (44, .aload_n 0, 1), (45, .getfield 43, 3), (48, .getfield 127, 3), (51, .aload_n 0, 1), (52, .getfield 43, 3), (55, .getfield 130, 3), (58, .aload_n 0, 1), (59, .getfield 43, 3), (62, .getfield 133, 3), (65, .aload_n 0, 1), (66, .getfield 43, 3), (69, .getfield 136, 3), (72, .invokevirtual 139, 3), (75, .iinc 1 1, 3), (78, .aload_n 0, 1), (79, .getfield 43, 3), (82, .aload_n 0, 1), (83, .getfield 12, 3), (86, .invokevirtual 121, 3), (89, .goto (-65), 3), (92, .iload_n 1, 1), (93, .ireturn, 1)]
/-! MarbleHeirs.heir(II)I -/
def zc64 : zC1 := [(0, .aload_n 0, 1), (1, .getfield 12, 3), (4, .iload_n 1, 1), (5, .invokevirtual 66, 3), (8, .ifCond .ne 5, 3), (11, .iconst (-1), 1), (12, .ireturn, 1), (13, .iload_n 2, 1), (14, .ifCond .lt 8, 3), (17, .iload_n 2, 1), (18, .iconst 5, 1), (19, .if_icmp .le 6, 3), (22, .bipush (-2), 2), (24, .ireturn, 1), (25, .aload_n 0, 1), (26, .getfield 12, 3), (29, .iload_n 1, 1), (30, .iload_n 2, 1), (31, .invokevirtual 143, 3), (34, .ireturn, 1)]
/-! MarbleHeirs.bag(III)I -/
def zc65 : zC1 := [(0, .aload_n 0, 1), (1, .getfield 12, 3), (4, .iload_n 1, 1), (5, .iload_n 2, 1), (6, .invokevirtual 146, 3), (9, .ifCond .ne 5, 3), (12, .iconst (-1), 1), (13, .ireturn, 1), (14, .aload_n 0, 1), (15, .getfield 12, 3), (18, .getfield 69, 3), (21, .iload_n 1, 1), (22, .iload_n 2, 1), (23, .iload_n 3, 1), (24, .invokevirtual 149, 3), (27, .ireturn, 1)]
/-! MarbleHeirs.hopper(II)I -/
def zc66 : zC1 := [(0, .aload_n 0, 1), (1, .getfield 12, 3), (4, .getfield 69, 3), (7, .bipush 6, 2), (9, .iload_n 1, 1), (10, .invokevirtual 153, 3), (13, .ifCond .ne 5, 3), (16, .iconst (-1), 1), (17, .ireturn, 1), (18, .aload_n 0, 1), (19, .getfield 12, 3), (22, .getfield 69, 3), (25, .bipush 6, 2), (27, .iload_n 1, 1), (28, .iload_n 2, 1), (29, .invokevirtual 149, 3), (32, .ireturn, 1)]
/-! MarbleHeirs.vetoes(I)I -/
def zc67 : zC1 := [(0, .iload_n 1, 1), (1, .invokestatic 47, 3), (4, .ifCond .ne 5, 3), (7, .iconst (-1), 1), (8, .ireturn, 1), (9, .aload_n 0, 1), (10, .getfield 12, 3), (13, .getfield 96, 3), (16, .iload_n 1, 1), (17, .iaload, 1), (18, .ireturn, 1)]
/-! MarbleHeirs.at(I)I -/
def zc68 : zC1 := [(0, .iload_n 1, 1), (1, .ifCond .lt 14, 3), (4, .iload_n 1, 1), (5, .aload_n 0, 1), (6, .getfield 12, 3), (9, .getfield 54, 3), (12, .if_icmp .lt 5, 3), (15, .iconst (-1), 1), (16, .ireturn, 1), (17, .aload_n 0, 1), (18, .getfield 12, 3), (21, .getfield 156, 3), (24, .iload_n 1, 1), (25, .iaload, 1), (26, .ireturn, 1)]
/-! MarbleHeirs.total(I)I -/
def zc69 : zC1 := [(0, .iload_n 1, 1), (1, .ifCond .lt 9, 3), (4, .iload_n 1, 1), (5, .bipush 12, 2), (7, .if_icmp .le 6, 3), (10, .bipush (-2), 2), (12, .ireturn, 1), (13, .aload_n 0, 1), (14, .getfield 12, 3), (17, .iload_n 1, 1), (18, .invokevirtual 159, 3), (21, .ireturn, 1)]
/-! MarbleHeirs.ifDivided(II)I -/
def zc70 : zC1 := [(0, .aload_n 0, 1), (1, .getfield 12, 3), (4, .iload_n 1, 1), (5, .invokevirtual 66, 3), (8, .ifCond .ne 5, 3), (11, .iconst (-1), 1), (12, .ireturn, 1), (13, .iload_n 2, 1), (14, .ifCond .lt 8, 3), (17, .iload_n 2, 1), (18, .iconst 2, 1), (19, .if_icmp .le 6, 3), (22, .bipush (-2), 2), (24, .ireturn, 1), (25, .aload_n 0, 1), (26, .getfield 16, 3), (29, .aload_n 0, 1), (30, .getfield 12, 3), (33, .invokevirtual 162, 3), (36, .aload_n 0, 1), (37, .getfield 16, 3), (40, .invokevirtual 111, 3), (43, .pop, 1), (44, .aload_n 0, 1), (45, .getfield 16, 3), (48, .iload_n 1, 1), (49, .iconst 2, 1), (50, .iload_n 2, 1), (51, .iadd, 1), (52, .invokevirtual 143, 3), (55, .ireturn, 1)]
/-! MarbleHeirs.fairestRule()I -/
def zc71 : zC1 := [(0, .aload_n 0, 1), (1, .getfield 12, 3), (4, .getfield 54, 3), (7, .ifCond .ne 6, 3), (10, .bipush (-6), 2), (12, .ireturn, 1), (13, .iconst 0, 1), (14, .istore_n 1, 1), (15, .aload_n 0, 1), (16, .iconst 0, 1), (17, .invokevirtual 165, 3), (20, .istore_n 2, 1), (21, .iconst 1, 1), (22, .istore_n 3, 1), (23, .iload_n 3, 1), (24, .iconst 2, 1), (25, .if_icmp .gt 27, 3), (28, .aload_n 0, 1), (29, .iload_n 3, 1), (30, .invokevirtual 165, 3), (33, .istore 4, 2), (35, .iload 4, 2), (37, .iload_n 2, 1), (38, .if_icmp .ge 8, 3), (41, .iload 4, 2), (43, .istore_n 2, 1), (44, .iload_n 3, 1), (45, .istore_n 1, 1), (46, .iinc 3 1, 3), (49, .goto (-26), 3), (52, .iload_n 1, 1), (53, .ireturn, 1)]
/-! MarbleHeirs.whoVetoes(IIII)I -/
def zc72 : zC1 := [(0, .aload_n 0, 1), (1, .iload_n 1, 1), (2, .iload_n 2, 1), (3, .iload_n 3, 1), (4, .iload 4, 2), (6, .invokevirtual 114, 3), (9, .istore 5, 2), (11, .iload 5, 2), (13, .ifCond .eq 6, 3), (16, .iload 5, 2), (18, .ireturn, 1), (19, .aload_n 0, 1), (20, .getfield 12, 3), (23, .iload_n 1, 1), (24, .iload_n 2, 1), (25, .iload_n 3, 1), (26, .iload 4, 2), (28, .invokevirtual 168, 3), (31, .ireturn, 1)]
/-! MarbleHeirs.bestSwap(I)I -/
def zc73 : zC1 := [(0, .iload_n 1, 1), (1, .ifCond .lt 8, 3), (4, .iload_n 1, 1), (5, .iconst 4, 1), (6, .if_icmp .le 6, 3), (9, .bipush (-2), 2), (11, .ireturn, 1), (12, .aload_n 0, 1), (13, .getfield 43, 3), (16, .aload_n 0, 1), (17, .getfield 12, 3), (20, .invokevirtual 121, 3), (23, .aload_n 0, 1), (24, .getfield 43, 3), (27, .iload_n 1, 1), (28, .invokevirtual 171, 3), (31, .ireturn, 1)]
/-! MarbleHeirs.undo()I -/
def zc78 : zC1 := [(0, .aload_n 0, 1), (1, .getfield 29, 3), (4, .getfield 186, 3), (7, .ifCond .ne 6, 3), (10, .bipush (-3), 2), (12, .ireturn, 1), (13, .aload_n 0, 1), (14, .getfield 29, 3), (17, .aload_n 0, 1), (18, .getfield 12, 3), (21, .invokevirtual 188, 3), (24, .aload_n 0, 1), (25, .getfield 29, 3), (28, .getfield 186, 3), (31, .ireturn, 1)]
/-! MarbleHeirs.restore()I -/
def zc80 : zC1 := [(0, .aload_n 0, 1), (1, .getfield 22, 3), (4, .ifCond .ne 6, 3), (7, .bipush (-3), 2), (9, .ireturn, 1), (10, .aload_n 0, 1), (11, .getfield 29, 3), (14, .aload_n 0, 1), (15, .getfield 12, 3), (18, .invokevirtual 58, 3), (21, .aload_n 0, 1), (22, .getfield 12, 3), (25, .aload_n 0, 1), (26, .getfield 19, 3), (29, .invokevirtual 162, 3), (32, .aload_n 0, 1), (33, .getfield 12, 3), (36, .getfield 54, 3), (39, .ireturn, 1)]
/-! MarbleHeirs.isMother(I)Z -/
def zc81 : zC1 := [(0, .iload_n 0, 1), (1, .ifCond .lt 12, 3), (4, .iload_n 0, 1), (5, .iconst 4, 1), (6, .if_icmp .ge 7, 3), (9, .iconst 1, 1), (10, .goto 4, 3), (13, .iconst 0, 1), (14, .ireturn, 1)]
/-! MarbleHeirs.isColour(I)Z -/
def zc82 : zC1 := [(0, .iload_n 0, 1), (1, .ifCond .lt 13, 3), (4, .iload_n 0, 1), (5, .bipush 6, 2), (7, .if_icmp .ge 7, 3), (10, .iconst 1, 1), (11, .goto 4, 3), (14, .iconst 0, 1), (15, .ireturn, 1)]
/-! MarbleHeirs.moveBack([III)V -/
def zc83 : zC1 := [(0, .aload_n 0, 1), (1, .iload_n 1, 1), (2, .iaload, 1), (3, .istore_n 3, 1), (4, .iload_n 1, 1), (5, .istore 4, 2), (7, .iload 4, 2), (9, .iload_n 2, 1), (10, .if_icmp .ge 19, 3), (13, .aload_n 0, 1), (14, .iload 4, 2), (16, .aload_n 0, 1), (17, .iload 4, 2), (19, .iconst 1, 1), (20, .iadd, 1), (21, .iaload, 1), (22, .iastore, 1), (23, .iinc 4 1, 3), (26, .goto (-19), 3), (29, .aload_n 0, 1), (30, .iload_n 2, 1), (31, .iload_n 3, 1), (32, .iastore, 1), (33, .return_, 1)]
/-! MarbleHeirs.swapError(IIII)I -/
def zc84 : zC1 := [(0, .aload_n 0, 1), (1, .getfield 12, 3), (4, .iload_n 1, 1), (5, .iload_n 2, 1), (6, .invokevirtual 146, 3), (9, .ifCond .eq 16, 3), (12, .aload_n 0, 1), (13, .getfield 12, 3), (16, .iload_n 3, 1), (17, .iload 4, 2), (19, .invokevirtual 146, 3), (22, .ifCond .ne 5, 3), (25, .iconst (-1), 1), (26, .ireturn, 1), (27, .iload_n 1, 1), (28, .iload_n 3, 1), (29, .if_icmp .ne 8, 3), (32, .bipush (-2), 2), (34, .goto 4, 3), (37, .iconst 0, 1), (38, .ireturn, 1)]
/-! MarbleHeirs.spreadUnder(I)I -/
def zc85 : zC1 := [(0, .aload_n 0, 1), (1, .getfield 16, 3), (4, .aload_n 0, 1), (5, .getfield 12, 3), (8, .invokevirtual 162, 3), (11, .aload_n 0, 1), (12, .getfield 16, 3), (15, .iload_n 1, 1), (16, .putfield 90, 3), (19, .aload_n 0, 1), (20, .getfield 16, 3), (23, .invokevirtual 111, 3), (26, .pop, 1), (27, .aload_n 0, 1), (28, .getfield 16, 3), (31, .iconst 3, 1), (32, .invokevirtual 191, 3), (35, .ireturn, 1)]
/-! MarbleHeirsLaw.low(II)I -/
/-! MarbleHeirsLaw.drops(LMarbleHeirs;II)Z -/
/-! MarbleHeirsLaw.rounds(LMarbleHeirs;I)Z -/
/-! MarbleHeirsLaw.divides(LMarbleHeirs;I)Z -/
/-! MarbleHeirsLaw.swaps(LMarbleHeirs;IIII)Z -/
/-! MarbleHeirsLaw.isBest(LMarbleHeirs;)Z -/
/-! MarbleHeirsLaw.isFair(LMarbleHeirs;)Z -/
/-! MarbleHeirsLaw.holds(LMarbleHeirs;)Z -/
/-! MarbleHeirsLaw.change(LMarbleHeirs;III)Z -/
/-! MarbleHeirsLaw.cell([II)I -/
/-! MarbleHeirsLaw.law([I)Z -/
end
section
def zdecs (b : ByteArray) (l : zC1) : Prop := ∀ e ∈ l, decode b e.1 = .ok e.2
def zdecb (b : ByteArray) (l : zC1) : Bool := l.all (fun e => match decode b e.1 with | .ok d => decide (d = e.2) | .error _ => false)
theorem zdecs_of {b : ByteArray} {l : zC1} (h : zdecb b l = true) : zdecs b l := by
  intro e he
  have h1 := List.all_eq_true.mp h e he
  revert h1
  cases hd : decode b e.1 with
  | ok d => intro h1; rw [of_decide_eq_true h1]
  | error x => intro h1; cases h1
theorem zcd0 : zdecs cX0_init zc0 := zdecs_of (by decide +kernel)
theorem zcd1 : zdecs cX0_tell zc1 := zdecs_of (by decide +kernel)
theorem zcd2 : zdecs cX0_searchIn zc2 := zdecs_of (by decide +kernel)
theorem zcd3 : zdecs cX0_searchPartners zc3 := zdecs_of (by decide +kernel)
theorem zcd4 : zdecs cX0_one zc4 := zdecs_of (by decide +kernel)
theorem zcd5 : zdecs cX0_weigh zc5 := zdecs_of (by decide +kernel)
theorem zcd6 : zdecs cX1_init zc6 := zdecs_of (by decide +kernel)
theorem zcd7 : zdecs cX1_copyFrom zc7 := zdecs_of (by decide +kernel)
theorem zcd8 : zdecs cX1_count zc8 := zdecs_of (by decide +kernel)
theorem zcd9 : zdecs cX1_has zc9 := zdecs_of (by decide +kernel)
theorem zcd10 : zdecs cX1_colour zc10 := zdecs_of (by decide +kernel)
theorem zcd11 : zdecs cX1_value zc11 := zdecs_of (by decide +kernel)
theorem zcd12 : zdecs cX1_describe zc12 := zdecs_of (by decide +kernel)
theorem zcd13 : zdecs cX1_sum zc13 := zdecs_of (by decide +kernel)
theorem zcd14 : zdecs cX1_countOf zc14 := zdecs_of (by decide +kernel)
theorem zcd15 : zdecs cX1_hasRoom zc15 := zdecs_of (by decide +kernel)
theorem zcd16 : zdecs cX1_add zc16 := zdecs_of (by decide +kernel)
theorem zcd17 : zdecs cX1_giveFirstTo zc17 := zdecs_of (by decide +kernel)
theorem zcd18 : zdecs cX1_trade zc18 := zdecs_of (by decide +kernel)
theorem zcd19 : zdecs cX1_removeBag zc19 := zdecs_of (by decide +kernel)
theorem zcd20 : zdecs cX2_init zc20 := zdecs_of (by decide +kernel)
theorem zcd21 : zdecs cX2_keep zc21 := zdecs_of (by decide +kernel)
theorem zcd22 : zdecs cX2_discardOldest zc22 := zdecs_of (by decide +kernel)
theorem zcd23 : zdecs cX2_takeBack zc23 := zdecs_of (by decide +kernel)
theorem zcd24 : zdecs cX3_init zc24 := zdecs_of (by decide +kernel)
theorem zcd25 : zdecs cX3_copyFrom zc25 := zdecs_of (by decide +kernel)
theorem zcd26 : zdecs cX3_hasHeir zc26 := zdecs_of (by decide +kernel)
theorem zcd27 : zdecs cX3_hasMarble zc27 := zdecs_of (by decide +kernel)
theorem zcd28 : zdecs cX3_addHeir zc28 := zdecs_of (by decide +kernel)
theorem zcd29 : zdecs cX3_removeHeir zc29 := zdecs_of (by decide +kernel)
theorem zcd30 : zdecs cX3_placeOf zc30 := zdecs_of (by decide +kernel)
theorem zcd31 : zdecs cX3_playAllRounds zc31 := zdecs_of (by decide +kernel)
theorem zcd32 : zdecs cX3_playRound zc32 := zdecs_of (by decide +kernel)
theorem zcd33 : zdecs cX3_giveInOrder zc33 := zdecs_of (by decide +kernel)
theorem zcd34 : zdecs cX3_giveToPoorest zc34 := zdecs_of (by decide +kernel)
theorem zcd35 : zdecs cX3_poorestBut zc35 := zdecs_of (by decide +kernel)
theorem zcd36 : zdecs cX3_exchangeUnlessVetoed zc36 := zdecs_of (by decide +kernel)
theorem zcd37 : zdecs cX3_exchange zc37 := zdecs_of (by decide +kernel)
theorem zcd38 : zdecs cX3_vetoer zc38 := zdecs_of (by decide +kernel)
theorem zcd39 : zdecs cX3_objects zc39 := zdecs_of (by decide +kernel)
theorem zcd40 : zdecs cX3_about zc40 := zdecs_of (by decide +kernel)
theorem zcd41 : zdecs cX3_figure zc41 := zdecs_of (by decide +kernel)
theorem zcd42 : zdecs cX3_overAll zc42 := zdecs_of (by decide +kernel)
theorem zcd43 : zdecs cX3_spread zc43 := zdecs_of (by decide +kernel)
theorem zcd44 : zdecs cX4_init zc44 := zdecs_of (by decide +kernel)
theorem zcd52 : zdecs cX5_init zc52 := zdecs_of (by decide +kernel)
theorem zcd53 : zdecs cX5_come zc53 := zdecs_of (by decide +kernel)
theorem zcd54 : zdecs cX5_leave zc54 := zdecs_of (by decide +kernel)
theorem zcd55 : zdecs cX5_wish zc55 := zdecs_of (by decide +kernel)
theorem zcd56 : zdecs cX5_setRule zc56 := zdecs_of (by decide +kernel)
theorem zcd57 : zdecs cX5_setPatience zc57 := zdecs_of (by decide +kernel)
theorem zcd58 : zdecs cX5_grant zc58 := zdecs_of (by decide +kernel)
theorem zcd59 : zdecs cX5_drop zc59 := zdecs_of (by decide +kernel)
theorem zcd60 : zdecs cX5_round zc60 := zdecs_of (by decide +kernel)
theorem zcd61 : zdecs cX5_divide zc61 := zdecs_of (by decide +kernel)
theorem zcd62 : zdecs cX5_swap zc62 := zdecs_of (by decide +kernel)
theorem zcd63 : zdecs cX5_settle zc63 := zdecs_of (by decide +kernel)
theorem zcd64 : zdecs cX5_heir zc64 := zdecs_of (by decide +kernel)
theorem zcd65 : zdecs cX5_bag zc65 := zdecs_of (by decide +kernel)
theorem zcd66 : zdecs cX5_hopper zc66 := zdecs_of (by decide +kernel)
theorem zcd67 : zdecs cX5_vetoes zc67 := zdecs_of (by decide +kernel)
theorem zcd68 : zdecs cX5_at zc68 := zdecs_of (by decide +kernel)
theorem zcd69 : zdecs cX5_total zc69 := zdecs_of (by decide +kernel)
theorem zcd70 : zdecs cX5_ifDivided zc70 := zdecs_of (by decide +kernel)
theorem zcd71 : zdecs cX5_fairestRule zc71 := zdecs_of (by decide +kernel)
theorem zcd72 : zdecs cX5_whoVetoes zc72 := zdecs_of (by decide +kernel)
theorem zcd73 : zdecs cX5_bestSwap zc73 := zdecs_of (by decide +kernel)
theorem zcd78 : zdecs cX5_undo zc78 := zdecs_of (by decide +kernel)
theorem zcd80 : zdecs cX5_restore zc80 := zdecs_of (by decide +kernel)
theorem zcd81 : zdecs cX5_isMother zc81 := zdecs_of (by decide +kernel)
theorem zcd82 : zdecs cX5_isColour zc82 := zdecs_of (by decide +kernel)
theorem zcd83 : zdecs cX5_moveBack zc83 := zdecs_of (by decide +kernel)
theorem zcd84 : zdecs cX5_swapError zc84 := zdecs_of (by decide +kernel)
theorem zcd85 : zdecs cX5_spreadUnder zc85 := zdecs_of (by decide +kernel)
end
section
theorem zdecs_app {b : ByteArray} {l k : zC1} (h : zdecs b l) (h2 : zdecs b k) : zdecs b (l ++ k) := fun e he => (List.mem_append.mp he).elim (h e) (h2 e)
def zc86_0 : zC1 := [(0, .iload_n 0, 1), (1, .ldc 8, 2), (3, .iand, 1), (4, .iload_n 1, 1), (5, .irem, 1), (6, .ireturn, 1)]
theorem zcd86_0 : zdecs cL_low zc86_0 := zdecs_of (by decide +kernel)
def zc86 : zC1 := zc86_0
theorem zcd86 : zdecs cL_low zc86 := zcd86_0
def zc87_0 : zC1 := [(0, .iconst 1, 1), (1, .istore_n 3, 1), (2, .iconst 0, 1), (3, .istore 4, 2), (5, .iload 4, 2), (7, .iconst 4, 1), (8, .if_icmp .ge 147, 3), (11, .iload_n 3, 1), (12, .ifCond .eq 143, 3), (15, .aload_n 0, 1), (16, .iconst 1, 1), (17, .invokevirtual 9, 3), (20, .istore 5, 2), (22, .iload 5, 2), (24, .bipush 40, 2), (26, .if_icmp .ge 20, 3), (29, .iload 5, 2), (31, .aload_n 0, 1), (32, .iconst 2, 1), (33, .invokevirtual 9, 3), (36, .iadd, 1), (37, .bipush 120, 2), (39, .if_icmp .ge 7, 3), (42, .iconst 1, 1), (43, .goto 4, 3), (46, .iconst 0, 1), (47, .istore 6, 2), (49, .aload_n 0, 1), (50, .iload_n 1, 1), (51, .iconst 3, 1), (52, .iload 4, 2), (54, .imul, 1), (55, .ishr, 1), (56, .bipush 6, 2), (58, .invokestatic 15, 3), (61, .iconst 1, 1), (62, .iload_n 2, 1), (63, .iconst 4, 1), (64, .iload 4, 2), (66, .imul, 1), (67, .ishr, 1), (68, .bipush 9, 2), (70, .invokestatic 15, 3), (73, .iadd, 1), (74, .invokevirtual 67, 3), (77, .iload 6, 2), (79, .ifCond .eq 10, 3), (82, .iload 5, 2), (84, .iconst 1, 1), (85, .iadd, 1), (86, .goto 5, 3), (89, .bipush (-4), 2), (91, .if_icmp .ne 56, 3), (94, .iload 6, 2), (96, .ifCond .eq 47, 3), (99, .aload_n 0, 1), (100, .iload 5, 2), (102, .iconst 0, 1), (103, .invokevirtual 70, 3), (106, .iload_n 1, 1)]
theorem zcd87_0 : zdecs cL_drops zc87_0 := zdecs_of (by decide +kernel)
def zc87_1 : zC1 := [(107, .iconst 3, 1), (108, .iload 4, 2), (110, .imul, 1), (111, .ishr, 1), (112, .bipush 6, 2), (114, .invokestatic 15, 3), (117, .if_icmp .ne 30, 3), (120, .aload_n 0, 1), (121, .iload 5, 2), (123, .iconst 1, 1), (124, .invokevirtual 70, 3), (127, .iconst 1, 1), (128, .iload_n 2, 1), (129, .iconst 4, 1), (130, .iload 4, 2), (132, .imul, 1), (133, .ishr, 1), (134, .bipush 9, 2), (136, .invokestatic 15, 3), (139, .iadd, 1), (140, .if_icmp .ne 7, 3), (143, .iconst 1, 1), (144, .goto 4, 3), (147, .iconst 0, 1), (148, .istore_n 3, 1), (149, .iinc 4 1, 3), (152, .goto (-147), 3), (155, .iload_n 3, 1), (156, .ireturn, 1)]
theorem zcd87_1 : zdecs cL_drops zc87_1 := zdecs_of (by decide +kernel)
def zc87 : zC1 := zc87_0 ++ zc87_1
theorem zcd87 : zdecs cL_drops zc87 := (zdecs_app zcd87_0 zcd87_1)
def zc88_0 : zC1 := [(0, .iload_n 1, 1), (1, .ifCond .ne 18, 3), (4, .aload_n 0, 1), (5, .invokevirtual 73, 3), (8, .bipush (-3), 2), (10, .if_icmp .ne 7, 3), (13, .iconst 1, 1), (14, .goto 4, 3), (17, .iconst 0, 1), (18, .ireturn, 1), (19, .aload_n 0, 1), (20, .iconst 1, 1), (21, .invokevirtual 9, 3), (24, .istore_n 2, 1), (25, .aload_n 0, 1), (26, .iconst 0, 1), (27, .invokevirtual 76, 3), (30, .istore_n 3, 1), (31, .aload_n 0, 1), (32, .iload_n 1, 1), (33, .iconst 1, 1), (34, .isub, 1), (35, .invokevirtual 76, 3), (38, .istore 4, 2), (40, .aload_n 0, 1), (41, .iconst 5, 1), (42, .invokevirtual 9, 3), (45, .istore 5, 2), (47, .iload_n 2, 1), (48, .iload_n 1, 1), (49, .if_icmp .lt 7, 3), (52, .iload_n 1, 1), (53, .goto 18, 3), (56, .aload_n 0, 1), (57, .bipush 11, 2), (59, .invokevirtual 9, 3), (62, .iconst 2, 1), (63, .if_icmp .ne 7, 3), (66, .iconst 0, 1), (67, .goto 4, 3), (70, .iload_n 2, 1), (71, .istore 6, 2), (73, .aload_n 0, 1), (74, .iconst 0, 1), (75, .iconst 0, 1), (76, .invokevirtual 70, 3), (79, .istore 7, 2), (81, .aload_n 0, 1), (82, .iload_n 3, 1), (83, .iconst 2, 1), (84, .invokevirtual 24, 3), (87, .istore 8, 2), (89, .iload_n 2, 1), (90, .iload_n 1, 1), (91, .if_icmp .ge 12, 3), (94, .aload_n 0, 1), (95, .bipush 11, 2), (97, .invokevirtual 9, 3), (100, .ifCond .ne 7, 3), (103, .iconst 1, 1)]
theorem zcd88_0 : zdecs cL_rounds zc88_0 := zdecs_of (by decide +kernel)
def zc88_1 : zC1 := [(104, .goto 4, 3), (107, .iconst 0, 1), (108, .istore 9, 2), (110, .aload_n 0, 1), (111, .invokevirtual 73, 3), (114, .iload 6, 2), (116, .if_icmp .ne 61, 3), (119, .aload_n 0, 1), (120, .iconst 1, 1), (121, .invokevirtual 9, 3), (124, .iload_n 2, 1), (125, .iload 6, 2), (127, .isub, 1), (128, .if_icmp .ne 49, 3), (131, .aload_n 0, 1), (132, .iconst 5, 1), (133, .invokevirtual 9, 3), (136, .iload 5, 2), (138, .iload 6, 2), (140, .ifCond .le 7, 3), (143, .iconst 1, 1), (144, .goto 4, 3), (147, .iconst 0, 1), (148, .iadd, 1), (149, .if_icmp .ne 28, 3), (152, .aload_n 0, 1), (153, .iload_n 1, 1), (154, .iconst 1, 1), (155, .isub, 1), (156, .invokevirtual 76, 3), (159, .iload 6, 2), (161, .ifCond .le 7, 3), (164, .iload_n 3, 1), (165, .goto 5, 3), (168, .iload 4, 2), (170, .if_icmp .ne 7, 3), (173, .iconst 1, 1), (174, .goto 4, 3), (177, .iconst 0, 1), (178, .istore 10, 2), (180, .iload 10, 2), (182, .ifCond .eq 30, 3), (185, .iload 6, 2), (187, .ifCond .eq 21, 3), (190, .iload 9, 2), (192, .ifCond .eq 16, 3), (195, .aload_n 0, 1), (196, .iload_n 3, 1), (197, .iload 8, 2), (199, .iconst 0, 1), (200, .invokevirtual 79, 3), (203, .iload 7, 2), (205, .if_icmp .ne 7, 3), (208, .iconst 1, 1), (209, .goto 4, 3), (212, .iconst 0, 1), (213, .ireturn, 1)]
theorem zcd88_1 : zdecs cL_rounds zc88_1 := zdecs_of (by decide +kernel)
def zc88 : zC1 := zc88_0 ++ zc88_1
theorem zcd88 : zdecs cL_rounds zc88 := (zdecs_app zcd88_0 zcd88_1)
def zc89_0 : zC1 := [(0, .iload_n 1, 1), (1, .ifCond .ne 27, 3), (4, .aload_n 0, 1), (5, .invokevirtual 83, 3), (8, .bipush (-3), 2), (10, .if_icmp .ne 16, 3), (13, .aload_n 0, 1), (14, .invokevirtual 86, 3), (17, .bipush (-6), 2), (19, .if_icmp .ne 7, 3), (22, .iconst 1, 1), (23, .goto 4, 3), (26, .iconst 0, 1), (27, .ireturn, 1), (28, .bipush 18, 2), (30, .newarray .int, 2), (32, .astore_n 2, 1), (33, .iconst 0, 1), (34, .istore_n 3, 1), (35, .iload_n 3, 1), (36, .iconst 3, 1), (37, .iload_n 1, 1), (38, .imul, 1), (39, .if_icmp .ge 22, 3), (42, .aload_n 2, 1), (43, .iload_n 3, 1), (44, .aload_n 0, 1), (45, .iload_n 3, 1), (46, .iconst 3, 1), (47, .idiv, 1), (48, .iload_n 3, 1), (49, .iconst 3, 1), (50, .irem, 1), (51, .invokevirtual 89, 3), (54, .iastore, 1), (55, .iinc 3 1, 3), (58, .goto (-23), 3), (61, .aload_n 0, 1), (62, .iconst 1, 1), (63, .invokevirtual 9, 3), (66, .istore_n 3, 1), (67, .aload_n 0, 1), (68, .iconst 5, 1), (69, .invokevirtual 9, 3), (72, .istore 4, 2), (74, .aload_n 0, 1), (75, .bipush 11, 2), (77, .invokevirtual 9, 3), (80, .istore 5, 2), (82, .aload_n 0, 1), (83, .invokevirtual 83, 3), (86, .istore 6, 2), (88, .iload 6, 2), (90, .iload_n 3, 1), (91, .iload 5, 2), (93, .iconst 2, 1), (94, .if_icmp .ne 7, 3), (97, .iconst 0, 1), (98, .goto 6, 3), (101, .iload_n 1, 1)]
theorem zcd89_0 : zdecs cL_divides zc89_0 := zdecs_of (by decide +kernel)
def zc89_1 : zC1 := [(102, .iconst 1, 1), (103, .isub, 1), (104, .iadd, 1), (105, .iload_n 1, 1), (106, .idiv, 1), (107, .if_icmp .ne 48, 3), (110, .aload_n 0, 1), (111, .iconst 5, 1), (112, .invokevirtual 9, 3), (115, .iload 4, 2), (117, .iload 6, 2), (119, .iadd, 1), (120, .if_icmp .ne 35, 3), (123, .aload_n 0, 1), (124, .iconst 1, 1), (125, .invokevirtual 9, 3), (128, .iload 5, 2), (130, .iconst 2, 1), (131, .if_icmp .ne 9, 3), (134, .iload_n 3, 1), (135, .iload_n 1, 1), (136, .irem, 1), (137, .goto 4, 3), (140, .iconst 0, 1), (141, .if_icmp .ne 14, 3), (144, .aload_n 0, 1), (145, .invokevirtual 73, 3), (148, .ifCond .ne 7, 3), (151, .iconst 1, 1), (152, .goto 4, 3), (155, .iconst 0, 1), (156, .istore 7, 2), (158, .iconst 0, 1), (159, .istore 8, 2), (161, .iload 8, 2), (163, .iconst 3, 1), (164, .iload_n 1, 1), (165, .imul, 1), (166, .if_icmp .ge 42, 3), (169, .iload 7, 2), (171, .ifCond .eq 37, 3), (174, .aload_n 2, 1), (175, .iload 8, 2), (177, .iaload, 1), (178, .aload_n 0, 1), (179, .iload 8, 2), (181, .iconst 3, 1), (182, .idiv, 1), (183, .iconst 2, 1), (184, .iload 8, 2), (186, .iconst 3, 1), (187, .irem, 1), (188, .iadd, 1), (189, .invokevirtual 24, 3), (192, .if_icmp .ne 7, 3), (195, .iconst 1, 1), (196, .goto 4, 3), (199, .iconst 0, 1), (200, .istore 7, 2), (202, .iinc 8 1, 3)]
theorem zcd89_1 : zdecs cL_divides zc89_1 := zdecs_of (by decide +kernel)
def zc89_2 : zC1 := [(205, .goto (-44), 3), (208, .iload 7, 2), (210, .ireturn, 1)]
theorem zcd89_2 : zdecs cL_divides zc89_2 := zdecs_of (by decide +kernel)
def zc89 : zC1 := zc89_0 ++ zc89_1 ++ zc89_2
theorem zcd89 : zdecs cL_divides zc89 := (zdecs_app (zdecs_app zcd89_0 zcd89_1) zcd89_2)
def zc90_0 : zC1 := [(0, .aload_n 0, 1), (1, .iload_n 1, 1), (2, .iload_n 2, 1), (3, .iload_n 3, 1), (4, .iload 4, 2), (6, .invokevirtual 92, 3), (9, .istore 5, 2), (11, .aload_n 0, 1), (12, .iload_n 1, 1), (13, .iload_n 2, 1), (14, .iconst 0, 1), (15, .invokevirtual 79, 3), (18, .istore 6, 2), (20, .aload_n 0, 1), (21, .iload_n 1, 1), (22, .iload_n 2, 1), (23, .iconst 1, 1), (24, .invokevirtual 79, 3), (27, .istore 7, 2), (29, .aload_n 0, 1), (30, .iload_n 3, 1), (31, .iload 4, 2), (33, .iconst 0, 1), (34, .invokevirtual 79, 3), (37, .istore 8, 2), (39, .aload_n 0, 1), (40, .iload_n 3, 1), (41, .iload 4, 2), (43, .iconst 1, 1), (44, .invokevirtual 79, 3), (47, .istore 9, 2), (49, .aload_n 0, 1), (50, .bipush 6, 2), (52, .invokevirtual 9, 3), (55, .istore 10, 2), (57, .aload_n 0, 1), (58, .bipush 7, 2), (60, .invokevirtual 9, 3), (63, .istore 11, 2), (65, .iload 6, 2), (67, .ifCond .lt 13, 3), (70, .iload 8, 2), (72, .ifCond .lt 8, 3), (75, .iload_n 1, 1), (76, .iload_n 3, 1), (77, .if_icmp .ne 70, 3), (80, .iload 6, 2), (82, .ifCond .lt 8, 3), (85, .iload 8, 2), (87, .ifCond .ge 7, 3), (90, .iconst (-1), 1), (91, .goto 5, 3), (94, .bipush (-2), 2), (96, .istore 12, 2), (98, .iload 5, 2), (100, .iload 12, 2), (102, .if_icmp .ne 43, 3), (105, .aload_n 0, 1), (106, .iload_n 1, 1), (107, .iload_n 2, 1)]
theorem zcd90_0 : zdecs cL_swaps zc90_0 := zdecs_of (by decide +kernel)
def zc90_1 : zC1 := [(108, .iload_n 3, 1), (109, .iload 4, 2), (111, .invokevirtual 96, 3), (114, .iload 12, 2), (116, .if_icmp .ne 29, 3), (119, .aload_n 0, 1), (120, .bipush 6, 2), (122, .invokevirtual 9, 3), (125, .iload 10, 2), (127, .if_icmp .ne 18, 3), (130, .aload_n 0, 1), (131, .bipush 7, 2), (133, .invokevirtual 9, 3), (136, .iload 11, 2), (138, .if_icmp .ne 7, 3), (141, .iconst 1, 1), (142, .goto 4, 3), (145, .iconst 0, 1), (146, .ireturn, 1), (147, .iload 7, 2), (149, .iload 9, 2), (151, .isub, 1), (152, .istore 12, 2), (154, .aload_n 0, 1), (155, .iload_n 1, 1), (156, .iconst 0, 1), (157, .invokevirtual 24, 3), (160, .istore 13, 2), (162, .aload_n 0, 1), (163, .iload_n 3, 1), (164, .iconst 0, 1), (165, .invokevirtual 24, 3), (168, .istore 14, 2), (170, .iload 12, 2), (172, .aload_n 0, 1), (173, .bipush 12, 2), (175, .invokevirtual 9, 3), (178, .if_icmp .le 17, 3), (181, .aload_n 0, 1), (182, .iload 13, 2), (184, .invokevirtual 39, 3), (187, .ifCond .le 8, 3), (190, .iload 13, 2), (192, .goto 31, 3), (195, .iload 12, 2), (197, .ineg, 1), (198, .aload_n 0, 1), (199, .bipush 12, 2), (201, .invokevirtual 9, 3), (204, .if_icmp .le 17, 3), (207, .aload_n 0, 1), (208, .iload 14, 2), (210, .invokevirtual 39, 3), (213, .ifCond .le 8, 3), (216, .iload 14, 2), (218, .goto 5, 3), (221, .bipush (-6), 2), (223, .istore 15, 2), (225, .iload 15, 2), (227, .bipush (-6), 2)]
theorem zcd90_1 : zdecs cL_swaps zc90_1 := zdecs_of (by decide +kernel)
def zc90_2 : zC1 := [(229, .if_icmp .ne 7, 3), (232, .iconst 0, 1), (233, .goto 9, 3), (236, .aload_n 0, 1), (237, .iload 15, 2), (239, .invokevirtual 39, 3), (242, .istore 16, 2), (244, .iload 5, 2), (246, .iload 15, 2), (248, .if_icmp .ne 69, 3), (251, .aload_n 0, 1), (252, .iload_n 1, 1), (253, .iload_n 2, 1), (254, .iload_n 3, 1), (255, .iload 4, 2), (257, .invokevirtual 96, 3), (260, .iload 15, 2), (262, .if_icmp .ne 55, 3), (265, .aload_n 0, 1), (266, .bipush 6, 2), (268, .invokevirtual 9, 3), (271, .iload 10, 2), (273, .iload 15, 2), (275, .bipush (-6), 2), (277, .if_icmp .ne 7, 3), (280, .iconst 1, 1), (281, .goto 4, 3), (284, .iconst 0, 1), (285, .iadd, 1), (286, .if_icmp .ne 31, 3), (289, .aload_n 0, 1), (290, .bipush 7, 2), (292, .invokevirtual 9, 3), (295, .iload 11, 2), (297, .iload 15, 2), (299, .bipush (-6), 2), (301, .if_icmp .ne 7, 3), (304, .iconst 0, 1), (305, .goto 4, 3), (308, .iconst 1, 1), (309, .iadd, 1), (310, .if_icmp .ne 7, 3), (313, .iconst 1, 1), (314, .goto 4, 3), (317, .iconst 0, 1), (318, .istore 17, 2), (320, .iload 15, 2), (322, .bipush (-6), 2), (324, .if_icmp .eq 51, 3), (327, .iload 17, 2), (329, .ifCond .eq 44, 3), (332, .aload_n 0, 1), (333, .iload 15, 2), (335, .invokevirtual 39, 3), (338, .iload 16, 2), (340, .iconst 1, 1), (341, .isub, 1), (342, .if_icmp .ne 31, 3), (345, .aload_n 0, 1), (346, .iload_n 1, 1)]
theorem zcd90_2 : zdecs cL_swaps zc90_2 := zdecs_of (by decide +kernel)
def zc90_3 : zC1 := [(347, .iload_n 2, 1), (348, .iconst 0, 1), (349, .invokevirtual 79, 3), (352, .iload 6, 2), (354, .if_icmp .ne 19, 3), (357, .aload_n 0, 1), (358, .iload_n 1, 1), (359, .iload_n 2, 1), (360, .iconst 1, 1), (361, .invokevirtual 79, 3), (364, .iload 7, 2), (366, .if_icmp .ne 7, 3), (369, .iconst 1, 1), (370, .goto 4, 3), (373, .iconst 0, 1), (374, .ireturn, 1), (375, .iload 17, 2), (377, .ifCond .eq 57, 3), (380, .aload_n 0, 1), (381, .iload_n 1, 1), (382, .iload_n 2, 1), (383, .iconst 0, 1), (384, .invokevirtual 79, 3), (387, .iload 8, 2), (389, .if_icmp .ne 45, 3), (392, .aload_n 0, 1), (393, .iload_n 1, 1), (394, .iload_n 2, 1), (395, .iconst 1, 1), (396, .invokevirtual 79, 3), (399, .iload 9, 2), (401, .if_icmp .ne 33, 3), (404, .aload_n 0, 1), (405, .iload_n 3, 1), (406, .iload 4, 2), (408, .iconst 0, 1), (409, .invokevirtual 79, 3), (412, .iload 6, 2), (414, .if_icmp .ne 20, 3), (417, .aload_n 0, 1), (418, .iload_n 3, 1), (419, .iload 4, 2), (421, .iconst 1, 1), (422, .invokevirtual 79, 3), (425, .iload 7, 2), (427, .if_icmp .ne 7, 3), (430, .iconst 1, 1), (431, .goto 4, 3), (434, .iconst 0, 1), (435, .ireturn, 1)]
theorem zcd90_3 : zdecs cL_swaps zc90_3 := zdecs_of (by decide +kernel)
def zc90 : zC1 := zc90_0 ++ zc90_1 ++ zc90_2 ++ zc90_3
theorem zcd90 : zdecs cL_swaps zc90 := (zdecs_app (zdecs_app (zdecs_app zcd90_0 zcd90_1) zcd90_2) zcd90_3)
def zc91_0 : zC1 := [(0, .aload_n 0, 1), (1, .iconst 0, 1), (2, .invokevirtual 9, 3), (5, .istore_n 1, 1), (6, .aload_n 0, 1), (7, .iconst 4, 1), (8, .invokevirtual 64, 3), (11, .istore_n 2, 1), (12, .bipush (-6), 2), (14, .istore_n 3, 1), (15, .iconst 0, 1), (16, .istore 4, 2), (18, .iconst 0, 1), (19, .istore 5, 2), (21, .iconst 0, 1), (22, .istore 6, 2), (24, .iload 6, 2), (26, .iload_n 1, 1), (27, .if_icmp .ge 323, 3), (30, .iconst 0, 1), (31, .istore 7, 2), (33, .iload 7, 2), (35, .aload_n 0, 1), (36, .iload 6, 2), (38, .iconst 2, 1), (39, .invokevirtual 24, 3), (42, .if_icmp .ge 302, 3), (45, .iload 7, 2), (47, .bipush 9, 2), (49, .if_icmp .ge 295, 3), (52, .iload 6, 2), (54, .iconst 1, 1), (55, .iadd, 1), (56, .istore 8, 2), (58, .iload 8, 2), (60, .iload_n 1, 1), (61, .if_icmp .ge 277, 3), (64, .iconst 0, 1), (65, .istore 9, 2), (67, .iload 9, 2), (69, .aload_n 0, 1), (70, .iload 8, 2), (72, .iconst 2, 1), (73, .invokevirtual 24, 3), (76, .if_icmp .ge 256, 3), (79, .iload 9, 2), (81, .bipush 9, 2), (83, .if_icmp .ge 249, 3), (86, .aload_n 0, 1), (87, .iload 6, 2), (89, .iload 7, 2), (91, .iconst 0, 1), (92, .invokevirtual 79, 3), (95, .istore 10, 2), (97, .aload_n 0, 1), (98, .iload 8, 2), (100, .iload 9, 2), (102, .iconst 0, 1), (103, .invokevirtual 79, 3), (106, .istore 11, 2)]
theorem zcd91_0 : zdecs cL_isBest zc91_0 := zdecs_of (by decide +kernel)
def zc91_1 : zC1 := [(108, .aload_n 0, 1), (109, .iload 6, 2), (111, .iconst 1, 1), (112, .invokevirtual 24, 3), (115, .iload 11, 2), (117, .if_icmp .ne 7, 3), (120, .iconst 1, 1), (121, .goto 4, 3), (124, .iconst 0, 1), (125, .aload_n 0, 1), (126, .iload 8, 2), (128, .iconst 1, 1), (129, .invokevirtual 24, 3), (132, .iload 10, 2), (134, .if_icmp .ne 7, 3), (137, .iconst 1, 1), (138, .goto 4, 3), (141, .iconst 0, 1), (142, .iadd, 1), (143, .aload_n 0, 1), (144, .iload 6, 2), (146, .iconst 1, 1), (147, .invokevirtual 24, 3), (150, .iload 10, 2), (152, .if_icmp .ne 7, 3), (155, .iconst 1, 1), (156, .goto 4, 3), (159, .iconst 0, 1), (160, .isub, 1), (161, .aload_n 0, 1), (162, .iload 8, 2), (164, .iconst 1, 1), (165, .invokevirtual 24, 3), (168, .iload 11, 2), (170, .if_icmp .ne 7, 3), (173, .iconst 1, 1), (174, .goto 4, 3), (177, .iconst 0, 1), (178, .isub, 1), (179, .istore 12, 2), (181, .aload_n 0, 1), (182, .iload 6, 2), (184, .iload 7, 2), (186, .iconst 1, 1), (187, .invokevirtual 79, 3), (190, .aload_n 0, 1), (191, .iload 8, 2), (193, .iload 9, 2), (195, .iconst 1, 1), (196, .invokevirtual 79, 3), (199, .isub, 1), (200, .istore 13, 2), (202, .iload 13, 2), (204, .ifCond .ge 9, 3), (207, .iload 13, 2), (209, .ineg, 1), (210, .goto 5, 3), (213, .iload 13, 2), (215, .istore 13, 2), (217, .iload 12, 2)]
theorem zcd91_1 : zdecs cL_isBest zc91_1 := zdecs_of (by decide +kernel)
def zc91_2 : zC1 := [(219, .ifCond .le 45, 3), (222, .iload 12, 2), (224, .iload 4, 2), (226, .if_icmp .gt 17, 3), (229, .iload 12, 2), (231, .iload 4, 2), (233, .if_icmp .ne 31, 3), (236, .iload 13, 2), (238, .iload 5, 2), (240, .if_icmp .ge 24, 3), (243, .aload_n 0, 1), (244, .iload 6, 2), (246, .iload 7, 2), (248, .iload 8, 2), (250, .iload 9, 2), (252, .invokevirtual 92, 3), (255, .bipush (-6), 2), (257, .if_icmp .ne 7, 3), (260, .iconst 1, 1), (261, .goto 4, 3), (264, .iconst 0, 1), (265, .istore 14, 2), (267, .iload 14, 2), (269, .ifCond .eq 27, 3), (272, .sipush 729, 3), (275, .iload 6, 2), (277, .imul, 1), (278, .bipush 81, 2), (280, .iload 7, 2), (282, .imul, 1), (283, .iadd, 1), (284, .bipush 9, 2), (286, .iload 8, 2), (288, .imul, 1), (289, .iadd, 1), (290, .iload 9, 2), (292, .iadd, 1), (293, .goto 4, 3), (296, .iload_n 3, 1), (297, .istore_n 3, 1), (298, .iload 14, 2), (300, .ifCond .eq 8, 3), (303, .iload 13, 2), (305, .goto 5, 3), (308, .iload 5, 2), (310, .istore 5, 2), (312, .iload 14, 2), (314, .ifCond .eq 8, 3), (317, .iload 12, 2), (319, .goto 5, 3), (322, .iload 4, 2), (324, .istore 4, 2), (326, .iinc 9 1, 3), (329, .goto (-262), 3), (332, .iinc 8 1, 3), (335, .goto (-277), 3), (338, .iinc 7 1, 3), (341, .goto (-308), 3), (344, .iinc 6 1, 3), (347, .goto (-323), 3)]
theorem zcd91_2 : zdecs cL_isBest zc91_2 := zdecs_of (by decide +kernel)
def zc91_3 : zC1 := [(350, .iconst 1, 1), (351, .istore 6, 2), (353, .iconst 0, 1), (354, .istore 7, 2), (356, .iload 7, 2), (358, .iload_n 1, 1), (359, .if_icmp .ge 33, 3), (362, .iload 6, 2), (364, .ifCond .eq 19, 3), (367, .aload_n 0, 1), (368, .iload 7, 2), (370, .iconst 2, 1), (371, .invokevirtual 24, 3), (374, .bipush 10, 2), (376, .if_icmp .ge 7, 3), (379, .iconst 1, 1), (380, .goto 4, 3), (383, .iconst 0, 1), (384, .istore 6, 2), (386, .iinc 7 1, 3), (389, .goto (-33), 3), (392, .iload 6, 2), (394, .ifCond .ne 20, 3), (397, .iload 4, 2), (399, .ifCond .eq 9, 3), (402, .iload_n 2, 1), (403, .iload 4, 2), (405, .if_icmp .lt 7, 3), (408, .iconst 1, 1), (409, .goto 4, 3), (412, .iconst 0, 1), (413, .ireturn, 1), (414, .iload_n 3, 1), (415, .bipush (-6), 2), (417, .if_icmp .ne 27, 3), (420, .iload_n 2, 1), (421, .bipush (-6), 2), (423, .if_icmp .ne 17, 3), (426, .aload_n 0, 1), (427, .iconst 0, 1), (428, .invokevirtual 64, 3), (431, .bipush (-6), 2), (433, .if_icmp .ne 7, 3), (436, .iconst 1, 1), (437, .goto 55, 3), (440, .iconst 0, 1), (441, .goto 51, 3), (444, .iload_n 2, 1), (445, .iload 4, 2), (447, .if_icmp .ne 44, 3), (450, .sipush 729, 3), (453, .aload_n 0, 1), (454, .iconst 0, 1), (455, .invokevirtual 64, 3), (458, .imul, 1), (459, .bipush 81, 2), (461, .aload_n 0, 1), (462, .iconst 1, 1), (463, .invokevirtual 64, 3), (466, .imul, 1)]
theorem zcd91_3 : zdecs cL_isBest zc91_3 := zdecs_of (by decide +kernel)
def zc91_4 : zC1 := [(467, .iadd, 1), (468, .bipush 9, 2), (470, .aload_n 0, 1), (471, .iconst 2, 1), (472, .invokevirtual 64, 3), (475, .imul, 1), (476, .iadd, 1), (477, .aload_n 0, 1), (478, .iconst 3, 1), (479, .invokevirtual 64, 3), (482, .iadd, 1), (483, .iload_n 3, 1), (484, .if_icmp .ne 7, 3), (487, .iconst 1, 1), (488, .goto 4, 3), (491, .iconst 0, 1), (492, .ireturn, 1)]
theorem zcd91_4 : zdecs cL_isBest zc91_4 := zdecs_of (by decide +kernel)
def zc91 : zC1 := zc91_0 ++ zc91_1 ++ zc91_2 ++ zc91_3 ++ zc91_4
theorem zcd91 : zdecs cL_isBest zc91 := (zdecs_app (zdecs_app (zdecs_app (zdecs_app zcd91_0 zcd91_1) zcd91_2) zcd91_3) zcd91_4)
def zc92_0 : zC1 := [(0, .aload_n 0, 1), (1, .invokevirtual 86, 3), (4, .istore_n 1, 1), (5, .bipush (-6), 2), (7, .istore_n 2, 1), (8, .iconst 0, 1), (9, .istore_n 3, 1), (10, .iconst 1, 1), (11, .istore 4, 2), (13, .iconst 0, 1), (14, .istore 5, 2), (16, .iload 5, 2), (18, .iconst 3, 1), (19, .if_icmp .ge 119, 3), (22, .iload 4, 2), (24, .ifCond .eq 114, 3), (27, .aload_n 0, 1), (28, .iconst 0, 1), (29, .invokevirtual 9, 3), (32, .ifCond .le 106, 3), (35, .aload_n 0, 1), (36, .iload 5, 2), (38, .invokevirtual 33, 3), (41, .ifCond .lt 14, 3), (44, .aload_n 0, 1), (45, .invokevirtual 83, 3), (48, .ifCond .lt 7, 3), (51, .iconst 1, 1), (52, .goto 4, 3), (55, .iconst 0, 1), (56, .istore 4, 2), (58, .iload 5, 2), (60, .ifCond .eq 13, 3), (63, .aload_n 0, 1), (64, .bipush 10, 2), (66, .invokevirtual 9, 3), (69, .iload_n 3, 1), (70, .if_icmp .ge 8, 3), (73, .iload 5, 2), (75, .goto 4, 3), (78, .iload_n 2, 1), (79, .istore_n 2, 1), (80, .iload 5, 2), (82, .ifCond .eq 13, 3), (85, .aload_n 0, 1), (86, .bipush 10, 2), (88, .invokevirtual 9, 3), (91, .iload_n 3, 1), (92, .if_icmp .ge 12, 3), (95, .aload_n 0, 1), (96, .bipush 10, 2), (98, .invokevirtual 9, 3), (101, .goto 4, 3), (104, .iload_n 3, 1), (105, .istore_n 3, 1), (106, .iload 4, 2), (108, .ifCond .eq 21, 3), (111, .aload_n 0, 1), (112, .invokevirtual 103, 3), (115, .ifCond .lt 14, 3)]
theorem zcd92_0 : zdecs cL_isFair zc92_0 := zdecs_of (by decide +kernel)
def zc92_1 : zC1 := [(118, .aload_n 0, 1), (119, .invokevirtual 103, 3), (122, .ifCond .lt 7, 3), (125, .iconst 1, 1), (126, .goto 4, 3), (129, .iconst 0, 1), (130, .istore 4, 2), (132, .iinc 5 1, 3), (135, .goto (-119), 3), (138, .iload 4, 2), (140, .ifCond .eq 12, 3), (143, .iload_n 1, 1), (144, .iload_n 2, 1), (145, .if_icmp .ne 7, 3), (148, .iconst 1, 1), (149, .goto 4, 3), (152, .iconst 0, 1), (153, .ireturn, 1)]
theorem zcd92_1 : zdecs cL_isFair zc92_1 := zdecs_of (by decide +kernel)
def zc92 : zC1 := zc92_0 ++ zc92_1
theorem zcd92 : zdecs cL_isFair zc92 := (zdecs_app zcd92_0 zcd92_1)
def zc93_0 : zC1 := [(0, .aload_n 0, 1), (1, .iconst 0, 1), (2, .invokevirtual 9, 3), (5, .istore_n 1, 1), (6, .iconst 0, 1), (7, .istore_n 2, 1), (8, .iconst 0, 1), (9, .istore_n 3, 1), (10, .iconst 0, 1), (11, .istore 4, 2), (13, .iconst 0, 1), (14, .istore 5, 2), (16, .iconst 0, 1), (17, .istore 6, 2), (19, .iconst 2, 1), (20, .newarray .int, 2), (22, .astore 7, 2), (24, .iconst 2, 1), (25, .newarray .int, 2), (27, .astore 8, 2), (29, .aload_n 0, 1), (30, .iload_n 1, 1), (31, .iconst 0, 1), (32, .invokevirtual 24, 3), (35, .iconst (-1), 1), (36, .if_icmp .ne 16, 3), (39, .aload_n 0, 1), (40, .iload_n 1, 1), (41, .invokevirtual 76, 3), (44, .iconst (-1), 1), (45, .if_icmp .ne 7, 3), (48, .iconst 1, 1), (49, .goto 4, 3), (52, .iconst 0, 1), (53, .istore 9, 2), (55, .iconst 0, 1), (56, .istore 10, 2), (58, .iload 10, 2), (60, .iload_n 1, 1), (61, .if_icmp .ge 267, 3), (64, .iload 9, 2), (66, .ifCond .eq 262, 3), (69, .iconst 0, 1), (70, .istore 11, 2), (72, .iconst 0, 1), (73, .istore 12, 2), (75, .aload_n 0, 1), (76, .iload 10, 2), (78, .iconst 2, 1), (79, .invokevirtual 24, 3), (82, .istore 13, 2), (84, .iconst 0, 1), (85, .istore 14, 2), (87, .iload 14, 2), (89, .iload 13, 2), (91, .if_icmp .ge 52, 3), (94, .iload 11, 2), (96, .aload_n 0, 1), (97, .iload 10, 2), (99, .iload 14, 2)]
theorem zcd93_0 : zdecs cL_holds zc93_0 := zdecs_of (by decide +kernel)
def zc93_1 : zC1 := [(101, .iconst 1, 1), (102, .invokevirtual 79, 3), (105, .iadd, 1), (106, .istore 11, 2), (108, .iload 12, 2), (110, .aload_n 0, 1), (111, .iload 10, 2), (113, .iload 14, 2), (115, .iconst 0, 1), (116, .invokevirtual 79, 3), (119, .aload_n 0, 1), (120, .iload 10, 2), (122, .iconst 1, 1), (123, .invokevirtual 24, 3), (126, .if_icmp .ne 7, 3), (129, .iconst 1, 1), (130, .goto 4, 3), (133, .iconst 0, 1), (134, .iadd, 1), (135, .istore 12, 2), (137, .iinc 14 1, 3), (140, .goto (-53), 3), (143, .iconst 0, 1), (144, .istore 14, 2), (146, .iload 14, 2), (148, .iconst 2, 1), (149, .if_icmp .ge 83, 3), (152, .iload 14, 2), (154, .ifCond .ne 8, 3), (157, .iload 13, 2), (159, .goto 5, 3), (162, .iload 11, 2), (164, .istore 15, 2), (166, .aload 7, 2), (168, .iload 14, 2), (170, .iload 10, 2), (172, .ifCond .eq 13, 3), (175, .iload 15, 2), (177, .aload 7, 2), (179, .iload 14, 2), (181, .iaload, 1), (182, .if_icmp .ge 8, 3), (185, .iload 15, 2), (187, .goto 8, 3), (190, .aload 7, 2), (192, .iload 14, 2), (194, .iaload, 1), (195, .iastore, 1), (196, .aload 8, 2), (198, .iload 14, 2), (200, .iload 10, 2), (202, .ifCond .eq 13, 3), (205, .iload 15, 2), (207, .aload 8, 2), (209, .iload 14, 2), (211, .iaload, 1), (212, .if_icmp .le 8, 3), (215, .iload 15, 2), (217, .goto 8, 3), (220, .aload 8, 2)]
theorem zcd93_1 : zdecs cL_holds zc93_1 := zdecs_of (by decide +kernel)
def zc93_2 : zC1 := [(222, .iload 14, 2), (224, .iaload, 1), (225, .iastore, 1), (226, .iinc 14 1, 3), (229, .goto (-83), 3), (232, .iload_n 2, 1), (233, .iconst 1, 1), (234, .aload_n 0, 1), (235, .iload 10, 2), (237, .invokevirtual 76, 3), (240, .ishl, 1), (241, .ior, 1), (242, .istore_n 2, 1), (243, .iload_n 3, 1), (244, .iload 13, 2), (246, .iadd, 1), (247, .istore_n 3, 1), (248, .iload 4, 2), (250, .iload 11, 2), (252, .iadd, 1), (253, .istore 4, 2), (255, .iload 5, 2), (257, .iload 12, 2), (259, .iadd, 1), (260, .istore 5, 2), (262, .aload_n 0, 1), (263, .aload_n 0, 1), (264, .iload 10, 2), (266, .iconst 5, 1), (267, .invokevirtual 24, 3), (270, .invokevirtual 76, 3), (273, .iload 10, 2), (275, .if_icmp .ne 44, 3), (278, .aload_n 0, 1), (279, .iload 10, 2), (281, .iconst 3, 1), (282, .invokevirtual 24, 3), (285, .iload 11, 2), (287, .if_icmp .ne 32, 3), (290, .aload_n 0, 1), (291, .iload 10, 2), (293, .iconst 4, 1), (294, .invokevirtual 24, 3), (297, .iload 12, 2), (299, .if_icmp .ne 20, 3), (302, .aload_n 0, 1), (303, .iload 10, 2), (305, .iload 13, 2), (307, .iconst 0, 1), (308, .invokevirtual 79, 3), (311, .iconst (-1), 1), (312, .if_icmp .ne 7, 3), (315, .iconst 1, 1), (316, .goto 4, 3), (319, .iconst 0, 1), (320, .istore 9, 2), (322, .iinc 10 1, 3), (325, .goto (-267), 3), (328, .iconst 0, 1), (329, .istore 10, 2)]
theorem zcd93_2 : zdecs cL_holds zc93_2 := zdecs_of (by decide +kernel)
def zc93_3 : zC1 := [(331, .iload 10, 2), (333, .aload_n 0, 1), (334, .iconst 1, 1), (335, .invokevirtual 9, 3), (338, .if_icmp .ge 21, 3), (341, .iload 6, 2), (343, .aload_n 0, 1), (344, .iload 10, 2), (346, .iconst 1, 1), (347, .invokevirtual 70, 3), (350, .iadd, 1), (351, .istore 6, 2), (353, .iinc 10 1, 3), (356, .goto (-25), 3), (359, .iload 9, 2), (361, .ifCond .eq 70, 3), (364, .iload_n 2, 1), (365, .iconst 1, 1), (366, .iload_n 1, 1), (367, .ishl, 1), (368, .iconst 1, 1), (369, .isub, 1), (370, .if_icmp .ne 61, 3), (373, .iload_n 3, 1), (374, .aload_n 0, 1), (375, .iconst 2, 1), (376, .invokevirtual 9, 3), (379, .if_icmp .ne 52, 3), (382, .iload 4, 2), (384, .aload_n 0, 1), (385, .iconst 4, 1), (386, .invokevirtual 9, 3), (389, .if_icmp .ne 42, 3), (392, .iload 5, 2), (394, .aload_n 0, 1), (395, .bipush 8, 2), (397, .invokevirtual 9, 3), (400, .if_icmp .ne 31, 3), (403, .iload 6, 2), (405, .aload_n 0, 1), (406, .iconst 3, 1), (407, .invokevirtual 9, 3), (410, .if_icmp .ne 21, 3), (413, .aload_n 0, 1), (414, .aload_n 0, 1), (415, .iconst 1, 1), (416, .invokevirtual 9, 3), (419, .iconst 0, 1), (420, .invokevirtual 70, 3), (423, .iconst (-1), 1), (424, .if_icmp .ne 7, 3), (427, .iconst 1, 1), (428, .goto 4, 3), (431, .iconst 0, 1), (432, .istore 9, 2), (434, .iload 9, 2), (436, .ifCond .eq 50, 3), (439, .aload_n 0, 1), (440, .bipush 9, 2), (442, .invokevirtual 9, 3)]
theorem zcd93_3 : zdecs cL_holds zc93_3 := zdecs_of (by decide +kernel)
def zc93_4 : zC1 := [(445, .aload 8, 2), (447, .iconst 0, 1), (448, .iaload, 1), (449, .aload 7, 2), (451, .iconst 0, 1), (452, .iaload, 1), (453, .isub, 1), (454, .if_icmp .ne 32, 3), (457, .aload_n 0, 1), (458, .bipush 10, 2), (460, .invokevirtual 9, 3), (463, .aload 8, 2), (465, .iconst 1, 1), (466, .iaload, 1), (467, .aload 7, 2), (469, .iconst 1, 1), (470, .iaload, 1), (471, .isub, 1), (472, .if_icmp .ne 14, 3), (475, .aload_n 0, 1), (476, .invokestatic 99, 3), (479, .ifCond .eq 7, 3), (482, .iconst 1, 1), (483, .goto 4, 3), (486, .iconst 0, 1), (487, .ireturn, 1)]
theorem zcd93_4 : zdecs cL_holds zc93_4 := zdecs_of (by decide +kernel)
def zc93 : zC1 := zc93_0 ++ zc93_1 ++ zc93_2 ++ zc93_3 ++ zc93_4
theorem zcd93 : zdecs cL_holds zc93 := (zdecs_app (zdecs_app (zdecs_app (zdecs_app zcd93_0 zcd93_1) zcd93_2) zcd93_3) zcd93_4)
def zc94_0 : zC1 := [(0, .aload_n 0, 1), (1, .iconst 0, 1), (2, .invokevirtual 9, 3), (5, .istore 4, 2), (7, .iload_n 2, 1), (8, .iload 4, 2), (10, .iconst 1, 1), (11, .iadd, 1), (12, .invokestatic 15, 3), (15, .istore 5, 2), (17, .aload_n 0, 1), (18, .iconst 1, 1), (19, .invokevirtual 9, 3), (22, .aload_n 0, 1), (23, .iconst 2, 1), (24, .invokevirtual 9, 3), (27, .iadd, 1), (28, .istore 6, 2), (30, .aload_n 0, 1), (31, .iconst 3, 1), (32, .invokevirtual 9, 3), (35, .aload_n 0, 1), (36, .iconst 4, 1), (37, .invokevirtual 9, 3), (40, .iadd, 1), (41, .istore 7, 2), (43, .iconst 0, 1), (44, .istore 8, 2), (46, .iconst 1, 1), (47, .istore 9, 2), (49, .iload_n 1, 1), (50, .tableswitch 532 0 14 #[74, 74, 145, 272, 345, 411, 468, 468, 468, 468, 475, 486, 497, 497, 497], 74), (124, .aload_n 0, 1), (125, .iload_n 2, 1), (126, .iconst 4, 1), (127, .invokestatic 15, 3), (130, .iload_n 3, 1), (131, .bipush 6, 2), (133, .invokestatic 15, 3), (136, .invokevirtual 21, 3), (139, .iload 4, 2), (141, .bipush 6, 2), (143, .if_icmp .ne 8, 3), (146, .bipush (-4), 2), (148, .goto 5, 3), (151, .iload 4, 2), (153, .if_icmp .ne 36, 3), (156, .iload 4, 2), (158, .bipush 6, 2), (160, .if_icmp .eq 25, 3), (163, .aload_n 0, 1), (164, .iload 4, 2), (166, .iconst 5, 1), (167, .invokevirtual 24, 3), (170, .iload 4, 2), (172, .if_icmp .ne 17, 3), (175, .aload_n 0, 1), (176, .iload 4, 2), (178, .iconst 2, 1), (179, .invokevirtual 24, 3)]
theorem zcd94_0 : zdecs cL_change zc94_0 := zdecs_of (by decide +kernel)
def zc94_1 : zC1 := [(182, .ifCond .ne 7, 3), (185, .iconst 1, 1), (186, .goto 4, 3), (189, .iconst 0, 1), (190, .istore 9, 2), (192, .goto 472, 3), (195, .aload_n 0, 1), (196, .iload 5, 2), (198, .iconst 2, 1), (199, .invokevirtual 24, 3), (202, .istore 8, 2), (204, .aload_n 0, 1), (205, .iconst 1, 1), (206, .invokevirtual 9, 3), (209, .istore 10, 2), (211, .iload 8, 2), (213, .ifCond .lt 17, 3), (216, .iload 10, 2), (218, .iload 8, 2), (220, .iadd, 1), (221, .bipush 40, 2), (223, .if_icmp .gt 7, 3), (226, .iconst 1, 1), (227, .goto 4, 3), (230, .iconst 0, 1), (231, .istore 11, 2), (233, .iload_n 3, 1), (234, .iconst 3, 1), (235, .iand, 1), (236, .ifCond .ne 76, 3), (239, .aload_n 0, 1), (240, .iload 5, 2), (242, .invokevirtual 27, 3), (245, .iload 8, 2), (247, .ifCond .ge 7, 3), (250, .iconst (-1), 1), (251, .goto 15, 3), (254, .iload 11, 2), (256, .ifCond .eq 8, 3), (259, .iload 8, 2), (261, .goto 5, 3), (264, .bipush (-4), 2), (266, .if_icmp .ne 50, 3), (269, .aload_n 0, 1), (270, .iconst 0, 1), (271, .invokevirtual 9, 3), (274, .iload 4, 2), (276, .iload 11, 2), (278, .ifCond .eq 7, 3), (281, .iconst 1, 1), (282, .goto 4, 3), (285, .iconst 0, 1), (286, .isub, 1), (287, .if_icmp .ne 29, 3), (290, .aload_n 0, 1), (291, .iconst 1, 1), (292, .invokevirtual 9, 3), (295, .iload 10, 2), (297, .iload 11, 2), (299, .ifCond .eq 8, 3)]
theorem zcd94_1 : zdecs cL_change zc94_1 := zdecs_of (by decide +kernel)
def zc94_2 : zC1 := [(302, .iload 8, 2), (304, .goto 4, 3), (307, .iconst 0, 1), (308, .iadd, 1), (309, .if_icmp .ne 7, 3), (312, .iconst 1, 1), (313, .goto 4, 3), (316, .iconst 0, 1), (317, .istore 9, 2), (319, .goto 345, 3), (322, .aload_n 0, 1), (323, .iload 5, 2), (325, .iload_n 3, 1), (326, .bipush 6, 2), (328, .invokestatic 15, 3), (331, .invokevirtual 30, 3), (334, .istore 12, 2), (336, .iload 5, 2), (338, .iload 4, 2), (340, .if_icmp .ne 17, 3), (343, .iload 12, 2), (345, .iconst (-1), 1), (346, .if_icmp .ne 7, 3), (349, .iconst 1, 1), (350, .goto 40, 3), (353, .iconst 0, 1), (354, .goto 36, 3), (357, .iload 12, 2), (359, .aload_n 0, 1), (360, .iload 5, 2), (362, .iconst 4, 1), (363, .invokevirtual 24, 3), (366, .if_icmp .ne 23, 3), (369, .aload_n 0, 1), (370, .iload 5, 2), (372, .iconst 1, 1), (373, .invokevirtual 24, 3), (376, .iload_n 3, 1), (377, .bipush 6, 2), (379, .invokestatic 15, 3), (382, .if_icmp .ne 7, 3), (385, .iconst 1, 1), (386, .goto 4, 3), (389, .iconst 0, 1), (390, .istore 9, 2), (392, .goto 272, 3), (395, .iload_n 3, 1), (396, .iconst 1, 1), (397, .iand, 1), (398, .ifCond .ne 12, 3), (401, .aload_n 0, 1), (402, .bipush 11, 2), (404, .invokevirtual 9, 3), (407, .goto 9, 3), (410, .aload_n 0, 1), (411, .bipush 12, 2), (413, .invokevirtual 9, 3), (416, .istore 8, 2), (418, .iload_n 3, 1), (419, .iconst 1, 1)]
theorem zcd94_2 : zdecs cL_change zc94_2 := zdecs_of (by decide +kernel)
def zc94_3 : zC1 := [(420, .iand, 1), (421, .ifCond .ne 15, 3), (424, .aload_n 0, 1), (425, .iload_n 2, 1), (426, .iconst 3, 1), (427, .invokestatic 15, 3), (430, .invokevirtual 33, 3), (433, .goto 13, 3), (436, .aload_n 0, 1), (437, .iload_n 2, 1), (438, .bipush 9, 2), (440, .invokestatic 15, 3), (443, .invokevirtual 36, 3), (446, .iload 8, 2), (448, .if_icmp .ne 7, 3), (451, .iconst 1, 1), (452, .goto 4, 3), (455, .iconst 0, 1), (456, .istore 9, 2), (458, .goto 206, 3), (461, .aload_n 0, 1), (462, .iload_n 2, 1), (463, .iconst 4, 1), (464, .invokestatic 15, 3), (467, .invokevirtual 39, 3), (470, .istore 8, 2), (472, .aload_n 0, 1), (473, .iload_n 2, 1), (474, .iconst 4, 1), (475, .invokestatic 15, 3), (478, .iload_n 3, 1), (479, .iconst 4, 1), (480, .invokestatic 15, 3), (483, .invokevirtual 42, 3), (486, .iload 8, 2), (488, .if_icmp .ne 24, 3), (491, .aload_n 0, 1), (492, .iload_n 2, 1), (493, .iconst 4, 1), (494, .invokestatic 15, 3), (497, .invokevirtual 39, 3), (500, .iload_n 3, 1), (501, .iconst 4, 1), (502, .invokestatic 15, 3), (505, .if_icmp .ne 7, 3), (508, .iconst 1, 1), (509, .goto 4, 3), (512, .iconst 0, 1), (513, .istore 9, 2), (515, .goto 149, 3), (518, .aload_n 0, 1), (519, .iload_n 2, 1), (520, .iload_n 3, 1), (521, .invokestatic 45, 3), (524, .ireturn, 1), (525, .aload_n 0, 1), (526, .iload 4, 2), (528, .invokestatic 49, 3), (531, .istore 9, 2), (533, .goto 131, 3)]
theorem zcd94_3 : zdecs cL_change zc94_3 := zdecs_of (by decide +kernel)
def zc94_4 : zC1 := [(536, .aload_n 0, 1), (537, .iload 4, 2), (539, .invokestatic 53, 3), (542, .istore 9, 2), (544, .goto 120, 3), (547, .aload_n 0, 1), (548, .iload 5, 2), (550, .iload_n 2, 1), (551, .iconst 5, 1), (552, .ishr, 1), (553, .bipush 9, 2), (555, .invokestatic 15, 3), (558, .iload_n 3, 1), (559, .iload 4, 2), (561, .iconst 1, 1), (562, .iadd, 1), (563, .invokestatic 15, 3), (566, .iload_n 3, 1), (567, .iconst 5, 1), (568, .ishr, 1), (569, .bipush 9, 2), (571, .invokestatic 15, 3), (574, .invokestatic 56, 3), (577, .istore 9, 2), (579, .goto 85, 3), (582, .aload_n 0, 1), (583, .bipush 6, 2), (585, .invokevirtual 9, 3), (588, .istore 8, 2), (590, .aload_n 0, 1), (591, .bipush 8, 2), (593, .invokevirtual 9, 3), (596, .istore 13, 2), (598, .aload_n 0, 1), (599, .invokevirtual 60, 3), (602, .istore 14, 2), (604, .iload 14, 2), (606, .ifCond .lt 55, 3), (609, .aload_n 0, 1), (610, .bipush 6, 2), (612, .invokevirtual 9, 3), (615, .iload 8, 2), (617, .iload 14, 2), (619, .iadd, 1), (620, .if_icmp .ne 41, 3), (623, .aload_n 0, 1), (624, .bipush 8, 2), (626, .invokevirtual 9, 3), (629, .iload 13, 2), (631, .iload 14, 2), (633, .iadd, 1), (634, .if_icmp .lt 27, 3), (637, .aload_n 0, 1), (638, .iconst 0, 1), (639, .invokevirtual 64, 3), (642, .bipush (-6), 2), (644, .if_icmp .ne 17, 3), (647, .aload_n 0, 1), (648, .iconst 4, 1), (649, .invokevirtual 64, 3)]
theorem zcd94_4 : zdecs cL_change zc94_4 := zdecs_of (by decide +kernel)
def zc94_5 : zC1 := [(652, .bipush (-6), 2), (654, .if_icmp .ne 7, 3), (657, .iconst 1, 1), (658, .goto 4, 3), (661, .iconst 0, 1), (662, .istore 9, 2), (664, .iload 9, 2), (666, .ifCond .eq 39, 3), (669, .iload 6, 2), (671, .aload_n 0, 1), (672, .iconst 1, 1), (673, .invokevirtual 9, 3), (676, .aload_n 0, 1), (677, .iconst 2, 1), (678, .invokevirtual 9, 3), (681, .iadd, 1), (682, .if_icmp .ne 23, 3), (685, .iload 7, 2), (687, .aload_n 0, 1), (688, .iconst 3, 1), (689, .invokevirtual 9, 3), (692, .aload_n 0, 1), (693, .iconst 4, 1), (694, .invokevirtual 9, 3), (697, .iadd, 1), (698, .if_icmp .ne 7, 3), (701, .iconst 1, 1), (702, .goto 4, 3), (705, .iconst 0, 1), (706, .ireturn, 1)]
theorem zcd94_5 : zdecs cL_change zc94_5 := zdecs_of (by decide +kernel)
def zc94 : zC1 := zc94_0 ++ zc94_1 ++ zc94_2 ++ zc94_3 ++ zc94_4 ++ zc94_5
theorem zcd94 : zdecs cL_change zc94 := (zdecs_app (zdecs_app (zdecs_app (zdecs_app (zdecs_app zcd94_0 zcd94_1) zcd94_2) zcd94_3) zcd94_4) zcd94_5)
def zc95_0 : zC1 := [(0, .iload_n 1, 1), (1, .aload_n 0, 1), (2, .arraylength, 1), (3, .if_icmp .ge 9, 3), (6, .aload_n 0, 1), (7, .iload_n 1, 1), (8, .iaload, 1), (9, .goto 11, 3), (12, .ldc 7, 2), (14, .iload_n 1, 1), (15, .imul, 1), (16, .sipush 977, 3), (19, .iadd, 1), (20, .ireturn, 1)]
theorem zcd95_0 : zdecs cL_cell zc95_0 := zdecs_of (by decide +kernel)
def zc95 : zC1 := zc95_0
theorem zcd95 : zdecs cL_cell zc95 := zcd95_0
def zc96_0 : zC1 := [(0, .new 10, 3), (3, .dup, 1), (4, .invokespecial 106, 3), (7, .astore_n 1, 1), (8, .aload_n 1, 1), (9, .invokestatic 107, 3), (12, .ifCond .eq 34, 3), (15, .aload_n 1, 1), (16, .invokevirtual 103, 3), (19, .bipush (-3), 2), (21, .if_icmp .ne 25, 3), (24, .aload_n 1, 1), (25, .invokevirtual 110, 3), (28, .bipush (-3), 2), (30, .if_icmp .ne 16, 3), (33, .aload_n 1, 1), (34, .bipush 10, 2), (36, .invokevirtual 9, 3), (39, .ifCond .ne 7, 3), (42, .iconst 1, 1), (43, .goto 4, 3), (46, .iconst 0, 1), (47, .istore_n 2, 1), (48, .aload_n 0, 1), (49, .arraylength, 1), (50, .iconst 3, 1), (51, .idiv, 1), (52, .bipush 34, 2), (54, .if_icmp .le 8, 3), (57, .bipush 34, 2), (59, .goto 7, 3), (62, .aload_n 0, 1), (63, .arraylength, 1), (64, .iconst 3, 1), (65, .idiv, 1), (66, .istore_n 3, 1), (67, .iconst 0, 1), (68, .istore 4, 2), (70, .iload 4, 2), (72, .iload_n 3, 1), (73, .if_icmp .ge 88, 3), (76, .iload_n 2, 1), (77, .ifCond .eq 84, 3), (80, .aload_n 1, 1), (81, .aload_n 0, 1), (82, .iconst 3, 1), (83, .iload 4, 2), (85, .imul, 1), (86, .invokestatic 113, 3), (89, .bipush 16, 2), (91, .invokestatic 15, 3), (94, .aload_n 0, 1), (95, .iconst 3, 1), (96, .iload 4, 2), (98, .imul, 1), (99, .iconst 1, 1), (100, .iadd, 1), (101, .invokestatic 113, 3), (104, .aload_n 0, 1), (105, .iconst 3, 1)]
theorem zcd96_0 : zdecs cL_law zc96_0 := zdecs_of (by decide +kernel)
def zc96_1 : zC1 := [(106, .iload 4, 2), (108, .imul, 1), (109, .iconst 2, 1), (110, .iadd, 1), (111, .invokestatic 113, 3), (114, .invokestatic 117, 3), (117, .ifCond .eq 36, 3), (120, .aload_n 1, 1), (121, .invokestatic 107, 3), (124, .ifCond .eq 29, 3), (127, .iload 4, 2), (129, .iconst 4, 1), (130, .irem, 1), (131, .iconst 3, 1), (132, .if_icmp .ne 17, 3), (135, .aload_n 1, 1), (136, .invokestatic 121, 3), (139, .ifCond .eq 14, 3), (142, .aload_n 1, 1), (143, .invokestatic 107, 3), (146, .ifCond .eq 7, 3), (149, .iconst 1, 1), (150, .goto 4, 3), (153, .iconst 0, 1), (154, .istore_n 2, 1), (155, .iinc 4 1, 3), (158, .goto (-88), 3), (161, .iload_n 2, 1), (162, .ireturn, 1)]
theorem zcd96_1 : zdecs cL_law zc96_1 := zdecs_of (by decide +kernel)
def zc96 : zC1 := zc96_0 ++ zc96_1
theorem zcd96 : zdecs cL_law zc96 := (zdecs_app zcd96_0 zcd96_1)
end
section
abbrev zRec : Type := MethodName × ByteArray × Nat × Option FieldType × zC1 × Nat × Nat × Nat
def zMs : List zRec := [
  (yX0_init, cX0_init, 1, none, zc0, 0, 1, 0),
  (yX0_tell, cX0_tell, 2, (some .int), zc1, 0, 0, 1),
  (yX0_searchIn, cX0_searchIn, 5, none, zc2, 0, 4, 1),
  (yX0_searchPartners, cX0_searchPartners, 13, none, zc3, 0, 3, 3),
  (yX0_one, cX0_one, 2, (some .int), zc4, 0, 0, 2),
  (yX0_weigh, cX0_weigh, 9, none, zc5, 0, 2, 6),
  (yX1_init, cX1_init, 1, none, zc6, 1, 1, 0),
  (yX1_copyFrom, cX1_copyFrom, 2, none, zc7, 1, 1, 1),
  (yX1_count, cX1_count, 2, (some .int), zc8, 1, 0, 1),
  (yX1_has, cX1_has, 3, (some .boolean), zc9, 1, 1, 2),
  (yX1_colour, cX1_colour, 3, (some .int), zc10, 1, 0, 2),
  (yX1_value, cX1_value, 3, (some .int), zc11, 1, 0, 2),
  (yX1_describe, cX1_describe, 4, (some .int), zc12, 1, 1, 3),
  (yX1_sum, cX1_sum, 4, (some .int), zc13, 1, 0, 1),
  (yX1_countOf, cX1_countOf, 5, (some .int), zc14, 1, 0, 2),
  (yX1_hasRoom, cX1_hasRoom, 1, (some .boolean), zc15, 1, 1, 0),
  (yX1_add, cX1_add, 3, (some .boolean), zc16, 1, 2, 2),
  (yX1_giveFirstTo, cX1_giveFirstTo, 6, none, zc17, 1, 1, 1),
  (yX1_trade, cX1_trade, 8, none, zc18, 1, 0, 4),
  (yX1_removeBag, cX1_removeBag, 4, none, zc19, 1, 1, 1),
  (yX2_init, cX2_init, 2, none, zc20, 2, 3, 0),
  (yX2_keep, cX2_keep, 2, none, zc21, 2, 3, 1),
  (yX2_discardOldest, cX2_discardOldest, 3, none, zc22, 2, 0, 0),
  (yX2_takeBack, cX2_takeBack, 2, none, zc23, 2, 3, 1),
  (yX3_init, cX3_init, 2, none, zc24, 3, 2, 0),
  (yX3_copyFrom, cX3_copyFrom, 2, none, zc25, 3, 2, 1),
  (yX3_hasHeir, cX3_hasHeir, 2, (some .boolean), zc26, 3, 0, 1),
  (yX3_hasMarble, cX3_hasMarble, 3, (some .boolean), zc27, 3, 2, 2),
  (yX3_addHeir, cX3_addHeir, 4, (some .int), zc28, 3, 0, 2),
  (yX3_removeHeir, cX3_removeHeir, 3, none, zc29, 3, 2, 1),
  (yX3_placeOf, cX3_placeOf, 3, (some .int), zc30, 3, 0, 1),
  (yX3_playAllRounds, cX3_playAllRounds, 3, (some .int), zc31, 3, 4, 0),
  (yX3_playRound, cX3_playRound, 3, (some .int), zc32, 3, 3, 0),
  (yX3_giveInOrder, cX3_giveInOrder, 3, none, zc33, 3, 2, 1),
  (yX3_giveToPoorest, cX3_giveToPoorest, 5, none, zc34, 3, 2, 1),
  (yX3_poorestBut, cX3_poorestBut, 7, (some .int), zc35, 3, 1, 1),
  (yX3_exchangeUnlessVetoed, cX3_exchangeUnlessVetoed, 6, (some .int), zc36, 3, 2, 4),
  (yX3_exchange, cX3_exchange, 5, none, zc37, 3, 1, 4),
  (yX3_vetoer, cX3_vetoer, 6, (some .int), zc38, 3, 1, 4),
  (yX3_objects, cX3_objects, 3, (some .boolean), zc39, 3, 0, 2),
  (yX3_about, cX3_about, 3, (some .int), zc40, 3, 1, 2),
  (yX3_figure, cX3_figure, 2, (some .int), zc41, 3, 3, 1),
  (yX3_overAll, cX3_overAll, 4, (some .int), zc42, 3, 2, 1),
  (yX3_spread, cX3_spread, 6, (some .int), zc43, 3, 2, 1),
  (yX4_init, cX4_init, 1, none, zc44, 4, 1, 0),
  (yX0_one, cX0_one, 2, (some .int), zc4, 0, 0, 2),
  (yX0_one, cX0_one, 2, (some .int), zc4, 0, 0, 2),
  (yX0_one, cX0_one, 2, (some .int), zc4, 0, 0, 2),
  (yX0_one, cX0_one, 2, (some .int), zc4, 0, 0, 2),
  (yX0_one, cX0_one, 2, (some .int), zc4, 0, 0, 2),
  (yX0_one, cX0_one, 2, (some .int), zc4, 0, 0, 2),
  (yX0_one, cX0_one, 2, (some .int), zc4, 0, 0, 2),
  (yX5_init, cX5_init, 1, none, zc52, 5, 4, 0),
  (yX5_come, cX5_come, 3, (some .int), zc53, 5, 4, 2),
  (yX5_leave, cX5_leave, 3, (some .int), zc54, 5, 4, 1),
  (yX5_wish, cX5_wish, 3, (some .int), zc55, 5, 4, 2),
  (yX5_setRule, cX5_setRule, 3, (some .int), zc56, 5, 4, 1),
  (yX5_setPatience, cX5_setPatience, 3, (some .int), zc57, 5, 4, 1),
  (yX5_grant, cX5_grant, 4, (some .int), zc58, 5, 4, 2),
  (yX5_drop, cX5_drop, 3, (some .int), zc59, 5, 4, 2),
  (yX5_round, cX5_round, 1, (some .int), zc60, 5, 4, 0),
  (yX5_divide, cX5_divide, 1, (some .int), zc61, 5, 5, 0),
  (yX5_swap, cX5_swap, 6, (some .int), zc62, 5, 4, 4),
  (yX5_settle, cX5_settle, 2, (some .int), zc63, 5, 5, 0),
  (yX5_heir, cX5_heir, 3, (some .int), zc64, 5, 2, 2),
  (yX5_bag, cX5_bag, 4, (some .int), zc65, 5, 3, 3),
  (yX5_hopper, cX5_hopper, 3, (some .int), zc66, 5, 2, 2),
  (yX5_vetoes, cX5_vetoes, 2, (some .int), zc67, 5, 1, 1),
  (yX5_at, cX5_at, 2, (some .int), zc68, 5, 0, 1),
  (yX5_total, cX5_total, 2, (some .int), zc69, 5, 4, 1),
  (yX5_ifDivided, cX5_ifDivided, 3, (some .int), zc70, 5, 5, 2),
  (yX5_fairestRule, cX5_fairestRule, 5, (some .int), zc71, 5, 6, 0),
  (yX5_whoVetoes, cX5_whoVetoes, 6, (some .int), zc72, 5, 4, 4),
  (yX5_bestSwap, cX5_bestSwap, 2, (some .int), zc73, 5, 5, 1),
  (yX0_one, cX0_one, 2, (some .int), zc4, 0, 0, 2),
  (yX0_one, cX0_one, 2, (some .int), zc4, 0, 0, 2),
  (yX0_one, cX0_one, 2, (some .int), zc4, 0, 0, 2),
  (yX0_one, cX0_one, 2, (some .int), zc4, 0, 0, 2),
  (yX5_undo, cX5_undo, 1, (some .int), zc78, 5, 4, 0),
  (yX0_one, cX0_one, 2, (some .int), zc4, 0, 0, 2),
  (yX5_restore, cX5_restore, 1, (some .int), zc80, 5, 4, 0),
  (yX5_isMother, cX5_isMother, 1, (some .boolean), zc81, 5, 0, 1),
  (yX5_isColour, cX5_isColour, 1, (some .boolean), zc82, 5, 0, 1),
  (yX5_moveBack, cX5_moveBack, 5, none, zc83, 5, 0, 3),
  (yX5_swapError, cX5_swapError, 5, (some .int), zc84, 5, 3, 4),
  (yX5_spreadUnder, cX5_spreadUnder, 2, (some .int), zc85, 5, 5, 1),
  (yL_low, cL_low, 2, (some .int), zc86, 7, 0, 2),
  (yL_drops, cL_drops, 7, (some .boolean), zc87, 7, 5, 3),
  (yL_rounds, cL_rounds, 11, (some .boolean), zc88, 7, 5, 2),
  (yL_divides, cL_divides, 9, (some .boolean), zc89, 7, 7, 2),
  (yL_swaps, cL_swaps, 18, (some .boolean), zc90, 7, 5, 5),
  (yL_isBest, cL_isBest, 15, (some .boolean), zc91, 7, 6, 1),
  (yL_isFair, cL_isFair, 6, (some .boolean), zc92, 7, 7, 1),
  (yL_holds, cL_holds, 16, (some .boolean), zc93, 7, 7, 1),
  (yL_change, cL_change, 15, (some .boolean), zc94, 7, 8, 4),
  (yL_cell, cL_cell, 2, (some .int), zc95, 7, 0, 2),
  (yL_law, cL_law, 5, (some .boolean), zc96, 7, 9, 1)]
def zFt : List (Nat × Nat × Nat × Nat) := [(1, 9, 1, 0), (1, 15, 1, 1), (3, 12, 3, 0), (5, 69, 3, 0), (0, 35, 3, 0), (3, 18, 3, 1), (5, 54, 3, 1), (0, 30, 3, 1), (3, 22, 3, 2), (3, 26, 3, 3), (0, 53, 3, 3), (5, 83, 3, 3), (3, 29, 3, 4), (5, 156, 3, 4), (3, 32, 3, 5), (5, 96, 3, 5), (3, 35, 3, 6), (5, 90, 3, 6), (3, 38, 3, 7), (5, 93, 3, 7), (3, 41, 3, 8), (3, 44, 3, 9), (3, 47, 3, 10), (2, 11, 2, 0), (2, 17, 2, 1), (5, 186, 2, 1), (4, 9, 4, 0), (4, 15, 4, 1), (0, 9, 0, 0), (5, 127, 0, 0), (0, 15, 0, 1), (5, 130, 0, 1), (0, 18, 0, 2), (5, 133, 0, 2), (0, 21, 0, 3), (5, 136, 0, 3), (0, 24, 0, 4), (5, 124, 0, 4), (0, 27, 0, 5), (5, 12, 5, 0), (5, 16, 5, 1), (5, 19, 5, 2), (5, 22, 5, 3), (5, 29, 5, 4), (5, 36, 5, 5), (5, 43, 5, 6)]
def zCt : List (Nat × Nat × Nat × Nat) := [(7, 106, 2, 52), (5, 3, 5, 0), (5, 11, 2, 24), (3, 3, 5, 0), (3, 11, 3, 6), (1, 3, 5, 0), (5, 28, 2, 20), (2, 3, 5, 0), (2, 21, 2, 24), (5, 35, 3, 44), (4, 3, 5, 0), (5, 42, 3, 0), (0, 3, 5, 0), (7, 9, 0, 69), (5, 159, 0, 41), (3, 80, 0, 8), (3, 128, 0, 42), (3, 134, 0, 40), (3, 105, 0, 13), (3, 125, 0, 14), (3, 72, 0, 30), (3, 131, 0, 43), (3, 87, 8, 0), (3, 137, 7, 0), (7, 103, 0, 78), (5, 188, 0, 23), (2, 25, 0, 25), (3, 50, 0, 7), (1, 18, 6, 0), (3, 54, 6, 0), (7, 110, 0, 80), (5, 58, 0, 21), (2, 22, 0, 22), (5, 162, 0, 25), (7, 113, 1, 95), (7, 15, 1, 86), (7, 117, 1, 94), (7, 21, 0, 53), (5, 47, 1, 81), (5, 51, 1, 82), (5, 62, 0, 28), (7, 24, 0, 64), (5, 66, 0, 26), (5, 143, 0, 40), (7, 27, 0, 54), (5, 73, 0, 8), (5, 79, 0, 29), (3, 68, 0, 19), (1, 24, 0, 8), (1, 39, 4, 83), (3, 76, 4, 83), (7, 30, 0, 55), (5, 87, 0, 14), (7, 33, 0, 56), (7, 36, 0, 57), (7, 39, 0, 67), (7, 42, 0, 58), (7, 45, 1, 87), (7, 67, 0, 59), (5, 99, 0, 15), (5, 103, 0, 16), (1, 35, 0, 15), (7, 70, 0, 66), (5, 153, 0, 9), (5, 149, 0, 12), (1, 28, 0, 10), (1, 32, 0, 11), (7, 49, 1, 88), (7, 73, 0, 60), (5, 107, 0, 32), (3, 93, 0, 34), (3, 102, 0, 35), (3, 99, 0, 17), (3, 96, 0, 33), (7, 76, 0, 68), (7, 79, 0, 65), (5, 146, 0, 27), (3, 60, 0, 26), (3, 64, 0, 9), (7, 53, 1, 89), (7, 83, 0, 61), (5, 111, 0, 31), (3, 83, 0, 32), (7, 86, 0, 71), (5, 165, 0, 85), (5, 191, 0, 43), (7, 89, 0, 70), (7, 56, 1, 90), (7, 92, 0, 72), (5, 114, 0, 84), (5, 168, 0, 38), (3, 119, 0, 11), (3, 122, 0, 39), (7, 96, 0, 62), (5, 118, 0, 36), (3, 108, 0, 38), (3, 112, 0, 37), (3, 116, 0, 18), (7, 60, 0, 63), (5, 121, 0, 2), (0, 39, 0, 8), (0, 45, 0, 3), (0, 49, 0, 10), (0, 57, 1, 4), (0, 60, 7, 0), (0, 65, 0, 5), (0, 69, 0, 11), (0, 72, 9, 0), (0, 75, 0, 38), (5, 139, 0, 37), (7, 64, 0, 73), (5, 171, 0, 1), (7, 107, 1, 93), (7, 99, 1, 91), (7, 121, 1, 92)]
def zNt : List (Nat × Nat × Nat × Nat) := [(7, 10, 5, 7), (5, 9, 3, 11), (3, 9, 1, 2), (5, 26, 2, 2), (2, 9, 3, 11), (5, 33, 4, 2), (5, 40, 0, 6)]
def zKt : List (Nat × Nat × Nat × Nat) := [(7, 7, 40503, 0), (7, 8, 2147483647, 0)]
def zDf : List (List Value) := [[.int 0, .int 0, .int 0, .int 0, .int 0, .int 0], [.null, .null], [.null, .int 0], [.null, .int 0, .null, .null, .null, .null, .int 0, .int 0, .int 0, .int 0, .int 0], [.null, .int 0], [.null, .null, .null, .int 0, .null, .null, .null]]
def zT : Nat → u_T
  | 0 => TX0
  | 1 => TX1
  | 2 => TX2
  | 3 => TX3
  | 4 => TX4
  | _ => TX5
def zTy : Nat → Nat → FieldType
  | 0 => tyX0
  | 1 => tyX1
  | 2 => tyX2
  | 3 => tyX3
  | 4 => tyX4
  | _ => tyX5
def zcn : Nat → String
  | 0 => RX0
  | 1 => RX1
  | 2 => RX2
  | 3 => RX3
  | 4 => RX4
  | 5 => RX5
  | _ => RL
def zcl : List vw_C := [(RX0, TX0, 6), (RX1, TX1, 2), (RX2, TX2, 2), (RX3, TX3, 11), (RX4, TX4, 2), (RX5, TX5, 7)]
/-! the meaning of the instructions that occur, over a heap as a list of cells: a row of ints, a row of references, an object (number of its class, its fields); a reference is a cell's number; '.retAddr' is the law's script -/
abbrev zAC : Type := List Int32 ⊕ (List (Option Nat) ⊕ (Nat × List Value))
abbrev zAW : Type := List zAC
abbrev zLs : Type := List (Option Value)
abbrev zRs : Type := Option Value × zAW
abbrev zNx : Type := (Nat × zLs × List Value × zAW) ⊕ ((Nat × List Value × zLs × List Value) ⊕ Option Value)
def zfind : zC1 → Nat → Option (Instr × Nat)
  | [], _ => none
  | e :: l, pc => if Nat.beq e.1 pc = true then some e.2 else zfind l pc
def zfind2 : List (Nat × Nat × Nat × Nat) → Nat → Nat → Option (Nat × Nat)
  | [], _, _ => none
  | e :: l, a, b => if Nat.beq e.1 a = true ∧ Nat.beq e.2.1 b = true then some e.2.2 else zfind2 l a b
theorem zfind_mem {l : zC1} {pc : Nat} {d : Instr × Nat} (h : zfind l pc = some d) : (pc, d) ∈ l := by
  induction l with
  | nil => cases h
  | cons e l ih =>
    unfold zfind at h
    split at h
    · rename_i hb
      cases h
      rw [← Nat.eq_of_beq_eq_true hb]
      exact List.mem_cons_self
    · exact List.mem_cons_of_mem _ (ih h)
theorem zfind2_mem {l : List (Nat × Nat × Nat × Nat)} {a b : Nat} {d : Nat × Nat} (h : zfind2 l a b = some d) : (a, b, d) ∈ l := by
  induction l with
  | nil => cases h
  | cons e l ih =>
    unfold zfind2 at h
    split at h
    · rename_i hb
      cases h
      rw [← Nat.eq_of_beq_eq_true hb.1, ← Nat.eq_of_beq_eq_true hb.2]
      exact List.mem_cons_self
    · exact List.mem_cons_of_mem _ (ih h)
def zgf (w : zAW) (a ci k : Nat) : Option Value := match w[a]? with
  | some (.inr (.inr (c, fs))) => if c = ci then fs[k]? else none
  | _ => none
def zpf (w : zAW) (a ci k : Nat) (v : Value) : Option zAW := match w[a]? with
  | some (.inr (.inr (c, fs))) => if c = ci ∧ k < fs.length then some (w.set a (.inr (.inr (c, fs.set k v)))) else none
  | _ => none
def zal (w : zAW) (a : Nat) (i : Int32) : Option Int32 := match w[a]? with
  | some (.inl l) => if i < 0 then none else l[i.toNatClampNeg]?
  | _ => none
def zas (w : zAW) (a : Nat) (i x : Int32) : Option zAW := match w[a]? with
  | some (.inl l) => if i < 0 ∨ l.length ≤ i.toNatClampNeg then none else some (w.set a (.inl (l.set i.toNatClampNeg x)))
  | _ => none
def zql (w : zAW) (a : Nat) (i : Int32) : Option Nat := match w[a]? with
  | some (.inr (.inl l)) => if i < 0 then none else match l[i.toNatClampNeg]? with
    | some (some r) => some r
    | _ => none
  | _ => none
def zqs (w : zAW) (a : Nat) (i : Int32) (r : Nat) : Option zAW := match w[a]? with
  | some (.inr (.inl l)) => if i < 0 ∨ l.length ≤ i.toNatClampNeg then none else match w[r]? with
    | some (.inr (.inr (3, _))) => some (w.set a (.inr (.inl (l.set i.toNatClampNeg (some r)))))
    | _ => none
  | _ => none
def zcpl (l0 l1 : List Int32) (sp dp n : Nat) : List Int32 := l1.take dp ++ ((l0.drop sp).take n ++ l1.drop (dp + n))
def zcp (w : zAW) (a0 : Nat) (sp : Int32) (a1 : Nat) (dp n : Int32) : Option zAW := match w[a0]?, w[a1]? with
  | some (.inl l0), some (.inl l1) => if sp < 0 ∨ dp < 0 ∨ n < 0 ∨ l0.length < sp.toNatClampNeg + n.toNatClampNeg ∨ l1.length < dp.toNatClampNeg + n.toNatClampNeg then none else some (w.set a1 (.inl (zcpl l0 l1 sp.toNatClampNeg dp.toNatClampNeg n.toNatClampNeg)))
  | _, _ => none
def zvfit : FieldType → Value → Bool
  | .int, .int _ => true
  | .boolean, .int x => x == 0 || x == 1
  | .object _, .ref _ => true
  | .array _, .ref _ => true
  | _, _ => false
def zrok : Option FieldType → Int32 → Bool
  | some .int, _ => true
  | some .boolean, x => x == 0 || x == 1
  | _, _ => false
def zpok (r : zRec) (ci k : Nat) (v : Value) : Bool := zvfit (zTy ci k) v && (!(zT ci k).2.2.2 || (decide (r.1.name = "<init>") && decide (r.2.2.2.2.2.1 = ci)))
def zjmp (pc : Nat) (off : Int) (ls : zLs) (st : List Value) (w : zAW) : Option zNx := if 0 ≤ (pc : Int) + off then some (.inl (((pc : Int) + off).toNat, ls, st, w)) else none
def zcallV (r : zRec) (mj : Nat) (ls : zLs) (st : List Value) (w : zAW) : Option zNx := match zMs[mj]? with
  | some rj => match st.drop rj.2.2.2.2.2.2.2 with
    | .ref a :: rest => if rj.2.2.2.2.2.2.1 + 1 ≤ r.2.2.2.2.2.2.1 ∧ rest.length ≤ 8 ∧ mj < 95 ∧ rj.2.2.2.2.2.2.2 + 1 ≤ rj.2.2.1 then match w[a]? with
        | some (.inr (.inr (c, _))) => if c = rj.2.2.2.2.2.1 then some (.inr (.inl (mj, .ref a :: (st.take rj.2.2.2.2.2.2.2).reverse, ls, rest))) else none
        | _ => none
      else none
    | _ => none
  | none => none
def zcallS (mi : Nat) (r : zRec) (mj : Nat) (ls : zLs) (st : List Value) : Option zNx := match zMs[mj]? with
  | some rj => if rj.2.2.2.2.2.2.1 + 1 ≤ r.2.2.2.2.2.2.1 ∧ st.length ≤ 8 + rj.2.2.2.2.2.2.2 ∧ rj.2.2.2.2.2.2.2 ≤ st.length ∧ (mj < 95 ∨ (mj = 95 ∧ mi = 96)) ∧ rj.2.2.2.2.2.2.2 ≤ rj.2.2.1 then some (.inr (.inl (mj, (st.take rj.2.2.2.2.2.2.2).reverse, ls, st.drop rj.2.2.2.2.2.2.2))) else none
  | none => none
def zcmp0 (c : ClassFile.Cond) (x : Int32) : Bool := match c with
  | .eq => decide (x = 0)
  | .ne => decide (¬ x = 0)
  | .lt => decide (x < 0)
  | .ge => decide (0 ≤ x)
  | .gt => decide (0 < x)
  | .le => decide (x ≤ 0)
def zcmp2 (c : ClassFile.Cond) (x y : Int32) : Bool := match c with
  | .eq => decide (x = y)
  | .ne => decide (¬ x = y)
  | .lt => decide (x < y)
  | .ge => decide (y ≤ x)
  | .gt => decide (y < x)
  | .le => decide (x ≤ y)
def zld (ls : zLs) (i : Nat) : Option Value := match ls[i]? with
  | some (some v) => some v
  | _ => none
def zbr (b : Bool) (pc : Nat) (off : Int) (ls : zLs) (st : List Value) (w : zAW) : Option zNx := match b with
  | true => zjmp pc off ls st w
  | false => if 0 ≤ (pc : Int) + off then some (.inl (pc + 3, ls, st, w)) else none
/-- one instruction d = (instruction, its length) of method mi (its record r) at pc -/
def zI (scr : List Int32) (mi : Nat) (r : zRec) (pc : Nat) (ls : zLs) (st : List Value) (w : zAW) (d : Instr × Nat) : Option zNx := match d with
  | (.iconst n, 1) => some (.inl (pc + 1, ls, .int (Int32.ofInt n) :: st, w))
  | (.bipush n, 2) => some (.inl (pc + 2, ls, .int (Int8.ofInt n).toInt32 :: st, w))
  | (.sipush n, 3) => some (.inl (pc + 3, ls, .int (Int16.ofInt n).toInt32 :: st, w))
  | (.iload_n k, 1) => match zld ls k with
    | some (.int x) => some (.inl (pc + 1, ls, .int x :: st, w))
    | _ => none
  | (.iload k, 2) => match zld ls k with
    | some (.int x) => some (.inl (pc + 2, ls, .int x :: st, w))
    | _ => none
  | (.aload_n k, 1) => match zld ls k with
    | some (.ref a) => some (.inl (pc + 1, ls, .ref a :: st, w))
    | some (.retAddr a) => some (.inl (pc + 1, ls, .retAddr a :: st, w))
    | _ => none
  | (.aload k, 2) => match zld ls k with
    | some (.ref a) => some (.inl (pc + 2, ls, .ref a :: st, w))
    | _ => none
  | (.ldc i, 2) => match zfind2 zKt r.2.2.2.2.2.1 i with
    | some q => some (.inl (pc + 2, ls, .int (Int32.ofNat q.1) :: st, w))
    | none => none
  | (.istore_n k, 1) => match st with
    | .int x :: t => if (k : Nat) < ls.length then some (.inl (pc + 1, ls.set k (some (.int x)), t, w)) else none
    | _ => none
  | (.istore k, 2) => match st with
    | .int x :: t => if k < ls.length then some (.inl (pc + 2, ls.set k (some (.int x)), t, w)) else none
    | _ => none
  | (.astore_n k, 1) => match st with
    | .ref x :: t => if (k : Nat) < ls.length then some (.inl (pc + 1, ls.set k (some (.ref x)), t, w)) else none
    | _ => none
  | (.astore k, 2) => match st with
    | .ref x :: t => if k < ls.length then some (.inl (pc + 2, ls.set k (some (.ref x)), t, w)) else none
    | _ => none
  | (.iinc k n, 3) => match zld ls k with
    | some (.int x) => some (.inl (pc + 3, ls.set k (some (.int (x + Int32.ofInt n))), st, w))
    | _ => none
  | (.iadd, 1) => match st with
    | .int y :: .int x :: t => some (.inl (pc + 1, ls, .int (x + y) :: t, w))
    | _ => none
  | (.isub, 1) => match st with
    | .int y :: .int x :: t => some (.inl (pc + 1, ls, .int (x - y) :: t, w))
    | _ => none
  | (.imul, 1) => match st with
    | .int y :: .int x :: t => some (.inl (pc + 1, ls, .int (x * y) :: t, w))
    | _ => none
  | (.iand, 1) => match st with
    | .int y :: .int x :: t => some (.inl (pc + 1, ls, .int (x &&& y) :: t, w))
    | _ => none
  | (.ior, 1) => match st with
    | .int y :: .int x :: t => some (.inl (pc + 1, ls, .int (x ||| y) :: t, w))
    | _ => none
  | (.ishl, 1) => match st with
    | .int y :: .int x :: t => some (.inl (pc + 1, ls, .int (x <<< (y &&& 31)) :: t, w))
    | _ => none
  | (.ishr, 1) => match st with
    | .int y :: .int x :: t => some (.inl (pc + 1, ls, .int (x >>> (y &&& 31)) :: t, w))
    | _ => none
  | (.idiv, 1) => match st with
    | .int y :: .int x :: t => if y = 0 then none else some (.inl (pc + 1, ls, .int (x / y) :: t, w))
    | _ => none
  | (.irem, 1) => match st with
    | .int y :: .int x :: t => if y = 0 then none else some (.inl (pc + 1, ls, .int (x - x / y * y) :: t, w))
    | _ => none
  | (.ineg, 1) => match st with
    | .int x :: t => some (.inl (pc + 1, ls, .int (-x) :: t, w))
    | _ => none
  | (.dup, 1) => match st with
    | x :: t => some (.inl (pc + 1, ls, x :: x :: t, w))
    | _ => none
  | (.dup2, 1) => match st with
    | x :: y :: t => some (.inl (pc + 1, ls, x :: y :: x :: y :: t, w))
    | _ => none
  | (.pop, 1) => match st with
    | _ :: t => some (.inl (pc + 1, ls, t, w))
    | _ => none
  | (.ifCond c off, 3) => match st with
    | .int x :: t => zbr (zcmp0 c x) pc off ls t w
    | _ => none
  | (.if_icmp c off, 3) => match st with
    | .int y :: .int x :: t => zbr (zcmp2 c x y) pc off ls t w
    | _ => none
  | (.goto off, 3) => zjmp pc off ls st w
  | (.getfield i, 3) => match st with
    | .ref a :: t => match zfind2 zFt r.2.2.2.2.2.1 i with
      | some q => match zgf w a q.1 q.2 with
        | some v => some (.inl (pc + 3, ls, v :: t, w))
        | none => none
      | none => none
    | _ => none
  | (.putfield i, 3) => match st with
    | v :: .ref a :: t => match zfind2 zFt r.2.2.2.2.2.1 i with
      | some q => if zpok r q.1 q.2 v = true then match zpf w a q.1 q.2 v with
          | some w' => some (.inl (pc + 3, ls, t, w'))
          | none => none
        else none
      | none => none
    | _ => none
  | (.iaload, 1) => match st with
    | .int i :: .ref a :: t => match zal w a i with
      | some x => some (.inl (pc + 1, ls, .int x :: t, w))
      | none => none
    | .int i :: .retAddr _ :: t => if 94 < mi ∧ ¬ i < 0 then match scr[i.toNatClampNeg]? with
        | some x => some (.inl (pc + 1, ls, .int x :: t, w))
        | none => none
      else none
    | _ => none
  | (.arraylength, 1) => match st with
    | .retAddr _ :: t => if 94 < mi then some (.inl (pc + 1, ls, .int (Int32.ofNat scr.length) :: t, w)) else none
    | _ => none
  | (.iastore, 1) => match st with
    | .int x :: .int i :: .ref a :: t => match zas w a i x with
      | some w' => some (.inl (pc + 1, ls, t, w'))
      | none => none
    | _ => none
  | (.aaload, 1) => match st with
    | .int i :: .ref a :: t => match zql w a i with
      | some x => some (.inl (pc + 1, ls, .ref x :: t, w))
      | none => none
    | _ => none
  | (.aastore, 1) => match st with
    | .ref x :: .int i :: .ref a :: t => match zqs w a i x with
      | some w' => some (.inl (pc + 1, ls, t, w'))
      | none => none
    | _ => none
  | (.new i, 3) => match zfind2 zNt r.2.2.2.2.2.1 i with
    | some q => match zDf[q.1]? with
      | some fs => some (.inl (pc + 3, ls, .ref w.length :: st, w ++ [.inr (.inr (q.1, fs))]))
      | none => none
    | none => none
  | (.newarray .int, 2) => match st with
    | .int n :: t => if ¬ n < 0 ∧ n.toNatClampNeg ≤ 1000 then some (.inl (pc + 2, ls, .ref w.length :: t, w ++ [.inl (List.replicate n.toNatClampNeg 0)])) else none
    | _ => none
  | (.anewarray i, 3) => match st with
    | .int n :: t => match zfind2 zNt r.2.2.2.2.2.1 i with
      | some (3, _) => if ¬ n < 0 ∧ n.toNatClampNeg ≤ 1000 then some (.inl (pc + 3, ls, .ref w.length :: t, w ++ [.inr (.inl (List.replicate n.toNatClampNeg none))])) else none
      | _ => none
    | _ => none
  | (.invokevirtual i, 3) => match zfind2 zCt r.2.2.2.2.2.1 i with
    | some (0, mj) => zcallV r mj ls st w
    | _ => none
  | (.invokespecial i, 3) => match zfind2 zCt r.2.2.2.2.2.1 i with
    | some (2, mj) => zcallV r mj ls st w
    | some (3, mj) => zcallV r mj ls st w
    | some (5, _) => match st with
      | .ref _ :: t => if t.length ≤ 8 ∧ 1 ≤ r.2.2.2.2.2.2.1 then some (.inl (pc + 3, ls, t, w)) else none
      | _ => none
    | _ => none
  | (.invokestatic i, 3) => match zfind2 zCt r.2.2.2.2.2.1 i with
    | some (1, mj) => zcallS mi r mj ls st
    | some (4, mj) => zcallS mi r mj ls st
    | some (6, _) => match st with
      | .int n :: .int dp :: .ref a1 :: .int sp :: .ref a0 :: t => if t.length ≤ 8 ∧ 1 ≤ r.2.2.2.2.2.2.1 then match zcp w a0 sp a1 dp n with
          | some w' => some (.inl (pc + 3, ls, t, w'))
          | none => none
        else none
      | _ => none
    | some (7, _) => match st with
      | .int y :: .int x :: t => if t.length ≤ 8 ∧ 1 ≤ r.2.2.2.2.2.2.1 then some (.inl (pc + 3, ls, .int (if x < y then y else x) :: t, w)) else none
      | _ => none
    | some (8, _) => match st with
      | .int y :: .int x :: t => if t.length ≤ 8 ∧ 1 ≤ r.2.2.2.2.2.2.1 then some (.inl (pc + 3, ls, .int (if y < x then y else x) :: t, w)) else none
      | _ => none
    | some (9, _) => match st with
      | .int x :: t => if t.length ≤ 8 ∧ 1 ≤ r.2.2.2.2.2.2.1 then some (.inl (pc + 3, ls, .int (if 0 ≤ x then x else 0 - x) :: t, w)) else none
      | _ => none
    | _ => none
  | (.ireturn, 1) => match st with
    | [.int x] => if zrok r.2.2.2.1 x = true then some (.inr (.inr (some (.int x)))) else none
    | _ => none
  | (.return_, 1) => match st with
    | [] => if r.2.2.2.1 = none then some (.inr (.inr none)) else none
    | _ => none
  | (.tableswitch dflt lo hi offs, _) => match st with
    | .int x :: t => if x.toInt < lo ∨ hi < x.toInt then zjmp pc dflt ls t w else match offs[(x.toInt - lo).toNat]? with
      | some off => zjmp pc off ls t w
      | none => none
    | _ => none
  | (.lookupswitch dflt ps, _) => match st with
    | .int x :: t => if (ps.toList.zip (ps.toList.drop 1)).all (fun (a, next) => a.1 < next.1) = true then zjmp pc (Op.lookupswitch.offset ps.toList dflt x.toInt) ls t w else none
    | _ => none
  | _ => none
def zent (r : zRec) (as : List Value) : zLs := as.map some ++ List.replicate (r.2.2.1 - as.length) none
def zx (scr : List Int32) : Nat → Nat → Nat → zLs → List Value → zAW → Option zRs
  | 0, _, _, _, _, _ => none
  | n + 1, mi, pc, ls, st, w => match zMs[mi]? with
    | none => none
    | some r => match zfind r.2.2.2.2.1 pc with
      | none => none
      | some d => match zI scr mi r pc ls st w d with
        | none => none
        | some (.inl q) => zx scr n mi q.1 q.2.1 q.2.2.1 q.2.2.2
        | some (.inr (.inl q)) => match zMs[q.1]? with
          | none => none
          | some rj => match zx scr n q.1 0 (zent rj q.2.1) [] w with
            | none => none
            | some a => zx scr n mi (pc + 3) q.2.2.1 (a.1.toList ++ q.2.2.2) a.2
        | some (.inr (.inr rv)) => some (rv, w)
end
section
theorem zz_t1 {i : Nat} {w : Cond} (h : tables_1_1[i]? = some w) : w ∈ lw_tbl := List.mem_append_right _ (List.mem_append_left _ (List.mem_of_getElem? h))
theorem zz_t2 {i : Nat} {w : Cond} (h : tables_1_2[i]? = some w) : w ∈ lw_tbl := List.mem_append_right _ (List.mem_append_right _ (List.mem_append_left _ (List.mem_of_getElem? h)))
theorem zz_t3 {i : Nat} {w : Cond} (h : tables_1_3[i]? = some w) : w ∈ lw_tbl := List.mem_append_right _ (List.mem_append_right _ (List.mem_append_right _ (List.mem_of_getElem? h)))
theorem zz_p {i : Nat} {w : Cond} (h : (k2_sels lw_privs)[i]? = some w) : w ∈ lw_tbl := List.mem_append_left _ (List.mem_of_getElem? h)
def zGW : List Cond := lw_tbl.filter goodWord
theorem zz_g {w : Cond} (h : w ∈ lw_tbl) (hg : goodWord w = true) : w ∈ zGW := List.mem_filter.mpr ⟨h, hg⟩
set_option maxRecDepth 20000 in
theorem zin0 : ∀ w ∈ u_ws RX0 TX0 6, w ∈ zGW := ((List.forall_mem_cons.mpr ⟨(zz_g (zz_t1 (i := 128) rfl) rfl), (List.forall_mem_cons.mpr ⟨(zz_g (zz_t1 (i := 130) rfl) rfl), (List.forall_mem_cons.mpr ⟨(zz_g (zz_t1 (i := 132) rfl) rfl), (List.forall_mem_cons.mpr ⟨(zz_g (zz_t1 (i := 134) rfl) rfl), (List.forall_mem_cons.mpr ⟨(zz_g (zz_t1 (i := 136) rfl) rfl), (List.forall_mem_cons.mpr ⟨(zz_g (zz_t1 (i := 138) rfl) rfl), (fun _ h => absurd h List.not_mem_nil)⟩)⟩)⟩)⟩)⟩)⟩) : ∀ w ∈ [u_lay RX0 TX0 0, u_lay RX0 TX0 1, u_lay RX0 TX0 2, u_lay RX0 TX0 3, u_lay RX0 TX0 4, u_lay RX0 TX0 5], w ∈ zGW)
set_option maxRecDepth 20000 in
theorem zin1 : ∀ w ∈ u_ws RX1 TX1 2, w ∈ zGW := ((List.forall_mem_cons.mpr ⟨(zz_g (zz_t1 (i := 31) rfl) rfl), (List.forall_mem_cons.mpr ⟨(zz_g (zz_t1 (i := 33) rfl) rfl), (fun _ h => absurd h List.not_mem_nil)⟩)⟩) : ∀ w ∈ [u_lay RX1 TX1 0, u_lay RX1 TX1 1], w ∈ zGW)
set_option maxRecDepth 20000 in
theorem zin2 : ∀ w ∈ u_ws RX2 TX2 2, w ∈ zGW := ((List.forall_mem_cons.mpr ⟨(zz_g (zz_t1 (i := 93) rfl) rfl), (List.forall_mem_cons.mpr ⟨(zz_g (zz_t1 (i := 95) rfl) rfl), (fun _ h => absurd h List.not_mem_nil)⟩)⟩) : ∀ w ∈ [u_lay RX2 TX2 0, u_lay RX2 TX2 1], w ∈ zGW)
set_option maxRecDepth 20000 in
theorem zin3 : ∀ w ∈ u_ws RX3 TX3 11, w ∈ zGW := ((List.forall_mem_cons.mpr ⟨(zz_g (zz_t1 (i := 58) rfl) rfl), (List.forall_mem_cons.mpr ⟨(zz_g (zz_t1 (i := 60) rfl) rfl), (List.forall_mem_cons.mpr ⟨(zz_g (zz_t1 (i := 62) rfl) rfl), (List.forall_mem_cons.mpr ⟨(zz_g (zz_t1 (i := 64) rfl) rfl), (List.forall_mem_cons.mpr ⟨(zz_g (zz_t1 (i := 66) rfl) rfl), (List.forall_mem_cons.mpr ⟨(zz_g (zz_t1 (i := 68) rfl) rfl), (List.forall_mem_cons.mpr ⟨(zz_g (zz_t1 (i := 70) rfl) rfl), (List.forall_mem_cons.mpr ⟨(zz_g (zz_t1 (i := 72) rfl) rfl), (List.forall_mem_cons.mpr ⟨(zz_g (zz_t1 (i := 74) rfl) rfl), (List.forall_mem_cons.mpr ⟨(zz_g (zz_t1 (i := 76) rfl) rfl), (List.forall_mem_cons.mpr ⟨(zz_g (zz_t1 (i := 78) rfl) rfl), (fun _ h => absurd h List.not_mem_nil)⟩)⟩)⟩)⟩)⟩)⟩)⟩)⟩)⟩)⟩)⟩) : ∀ w ∈ [u_lay RX3 TX3 0, u_lay RX3 TX3 1, u_lay RX3 TX3 2, u_lay RX3 TX3 3, u_lay RX3 TX3 4, u_lay RX3 TX3 5, u_lay RX3 TX3 6, u_lay RX3 TX3 7, u_lay RX3 TX3 8, u_lay RX3 TX3 9, u_lay RX3 TX3 10], w ∈ zGW)
set_option maxRecDepth 20000 in
theorem zin4 : ∀ w ∈ u_ws RX4 TX4 2, w ∈ zGW := ((List.forall_mem_cons.mpr ⟨(zz_g (zz_t1 (i := 106) rfl) rfl), (List.forall_mem_cons.mpr ⟨(zz_g (zz_t1 (i := 108) rfl) rfl), (fun _ h => absurd h List.not_mem_nil)⟩)⟩) : ∀ w ∈ [u_lay RX4 TX4 0, u_lay RX4 TX4 1], w ∈ zGW)
set_option maxRecDepth 20000 in
theorem zin5 : ∀ w ∈ u_ws RX5 TX5 7, w ∈ zGW := ((List.forall_mem_cons.mpr ⟨(zz_g (zz_t1 (i := 148) rfl) rfl), (List.forall_mem_cons.mpr ⟨(zz_g (zz_t1 (i := 150) rfl) rfl), (List.forall_mem_cons.mpr ⟨(zz_g (zz_t1 (i := 152) rfl) rfl), (List.forall_mem_cons.mpr ⟨(zz_g (zz_t1 (i := 154) rfl) rfl), (List.forall_mem_cons.mpr ⟨(zz_g (zz_t1 (i := 156) rfl) rfl), (List.forall_mem_cons.mpr ⟨(zz_g (zz_t1 (i := 158) rfl) rfl), (List.forall_mem_cons.mpr ⟨(zz_g (zz_t1 (i := 160) rfl) rfl), (fun _ h => absurd h List.not_mem_nil)⟩)⟩)⟩)⟩)⟩)⟩)⟩) : ∀ w ∈ [u_lay RX5 TX5 0, u_lay RX5 TX5 1, u_lay RX5 TX5 2, u_lay RX5 TX5 3, u_lay RX5 TX5 4, u_lay RX5 TX5 5, u_lay RX5 TX5 6], w ∈ zGW)
theorem zcl_ok {ci : Nat} {q : vw_C} (h : zcl[ci]? = some q) : q = (zcn ci, zT ci, q.2.2) ∧ (∀ w ∈ u_ws q.1 q.2.1 q.2.2, w ∈ zGW) ∧ (∀ k, k < q.2.2 → parseFieldDescriptor (q.2.1 k).2.2.1 = some (zTy ci k)) ∧ (∀ a, a < q.2.2 → ∀ b, b < q.2.2 → a ≠ b → (q.2.1 a).2.1 ≠ (q.2.1 b).2.1) ∧ ∀ k, (q.2.1 k).1 = q.1 := by
  have hc : ci < 6 := (List.getElem?_eq_some_iff.mp h).1
  rcases ci with _ | _ | _ | _ | _ | _ | n
  · cases h; exact ⟨rfl, zin0, tyX0_ok, nmX0, fun k => by simp only [TX0]; (repeat' split) <;> rfl⟩
  · cases h; exact ⟨rfl, zin1, tyX1_ok, nmX1, fun k => by simp only [TX1]; (repeat' split) <;> rfl⟩
  · cases h; exact ⟨rfl, zin2, tyX2_ok, nmX2, fun k => by simp only [TX2]; (repeat' split) <;> rfl⟩
  · cases h; exact ⟨rfl, zin3, tyX3_ok, nmX3, fun k => by simp only [TX3]; (repeat' split) <;> rfl⟩
  · cases h; exact ⟨rfl, zin4, tyX4_ok, nmX4, fun k => by simp only [TX4]; (repeat' split) <;> rfl⟩
  · cases h; exact ⟨rfl, zin5, tyX5_ok, nmX5, fun k => by simp only [TX5]; (repeat' split) <;> rfl⟩
  · omega
def zmOk (r : zRec) : Prop := plainName r.1.cls = true ∧ Cond.code r.1 r.2.1 r.2.2.1 r.2.2.2.1 ∈ zGW ∧ Cond.initialized r.1.cls ∈ zGW ∧ (parseMethodDescriptor r.1.desc).map (fun q => q.parameters.length) = some r.2.2.2.2.2.2.2 ∧ r.1.cls ≠ "java/lang/invoke/MethodHandle" ∧ r.1.cls ≠ "java/lang/invoke/VarHandle" ∧ zcn r.2.2.2.2.2.1 = r.1.cls ∧ r.2.2.1 ≤ 18 ∧ zdecs r.2.1 r.2.2.2.2.1
set_option maxRecDepth 20000 in
theorem zm0 : zmOk (yX0_init, cX0_init, 1, none, zc0, 0, 1, 0) := ⟨by decide +kernel, (zz_g (zz_t1 (i := 115) rfl) rfl), (zz_g (zz_t1 (i := 6) rfl) rfl), by decide +kernel, by decide +kernel, by decide +kernel, rfl, Nat.le_of_ble_eq_true rfl, zcd0⟩
set_option maxRecDepth 20000 in
theorem zm1 : zmOk (yX0_tell, cX0_tell, 2, (some .int), zc1, 0, 0, 1) := ⟨by decide +kernel, (zz_g (zz_t3 (i := 5) rfl) rfl), (zz_g (zz_t1 (i := 6) rfl) rfl), by decide +kernel, by decide +kernel, by decide +kernel, rfl, Nat.le_of_ble_eq_true rfl, zcd1⟩
set_option maxRecDepth 20000 in
theorem zm2 : zmOk (yX0_searchIn, cX0_searchIn, 5, none, zc2, 0, 4, 1) := ⟨by decide +kernel, (zz_g (zz_t2 (i := 217) rfl) rfl), (zz_g (zz_t1 (i := 6) rfl) rfl), by decide +kernel, by decide +kernel, by decide +kernel, rfl, Nat.le_of_ble_eq_true rfl, zcd2⟩
set_option maxRecDepth 20000 in
theorem zm3 : zmOk (yX0_searchPartners, cX0_searchPartners, 13, none, zc3, 0, 3, 3) := ⟨by decide +kernel, (zz_g (zz_t2 (i := 222) rfl) rfl), (zz_g (zz_t1 (i := 6) rfl) rfl), by decide +kernel, by decide +kernel, by decide +kernel, rfl, Nat.le_of_ble_eq_true rfl, zcd3⟩
set_option maxRecDepth 20000 in
theorem zm4 : zmOk (yX0_one, cX0_one, 2, (some .int), zc4, 0, 0, 2) := ⟨by decide +kernel, (zz_g (zz_t2 (i := 226) rfl) rfl), (zz_g (zz_t1 (i := 6) rfl) rfl), by decide +kernel, by decide +kernel, by decide +kernel, rfl, Nat.le_of_ble_eq_true rfl, zcd4⟩
set_option maxRecDepth 20000 in
theorem zm5 : zmOk (yX0_weigh, cX0_weigh, 9, none, zc5, 0, 2, 6) := ⟨by decide +kernel, (zz_g (zz_t2 (i := 231) rfl) rfl), (zz_g (zz_t1 (i := 6) rfl) rfl), by decide +kernel, by decide +kernel, by decide +kernel, rfl, Nat.le_of_ble_eq_true rfl, zcd5⟩
set_option maxRecDepth 20000 in
theorem zm6 : zmOk (yX1_init, cX1_init, 1, none, zc6, 1, 1, 0) := ⟨by decide +kernel, (zz_g (zz_t1 (i := 27) rfl) rfl), (zz_g (zz_t1 (i := 3) rfl) rfl), by decide +kernel, by decide +kernel, by decide +kernel, rfl, Nat.le_of_ble_eq_true rfl, zcd6⟩
set_option maxRecDepth 20000 in
theorem zm7 : zmOk (yX1_copyFrom, cX1_copyFrom, 2, none, zc7, 1, 1, 1) := ⟨by decide +kernel, (zz_g (zz_t1 (i := 220) rfl) rfl), (zz_g (zz_t1 (i := 3) rfl) rfl), by decide +kernel, by decide +kernel, by decide +kernel, rfl, Nat.le_of_ble_eq_true rfl, zcd7⟩
set_option maxRecDepth 20000 in
theorem zm8 : zmOk (yX1_count, cX1_count, 2, (some .int), zc8, 1, 0, 1) := ⟨by decide +kernel, (zz_g (zz_t1 (i := 174) rfl) rfl), (zz_g (zz_t1 (i := 3) rfl) rfl), by decide +kernel, by decide +kernel, by decide +kernel, rfl, Nat.le_of_ble_eq_true rfl, zcd8⟩
set_option maxRecDepth 20000 in
theorem zm9 : zmOk (yX1_has, cX1_has, 3, (some .boolean), zc9, 1, 1, 2) := ⟨by decide +kernel, (zz_g (zz_t2 (i := 94) rfl) rfl), (zz_g (zz_t1 (i := 3) rfl) rfl), by decide +kernel, by decide +kernel, by decide +kernel, rfl, Nat.le_of_ble_eq_true rfl, zcd9⟩
set_option maxRecDepth 20000 in
theorem zm10 : zmOk (yX1_colour, cX1_colour, 3, (some .int), zc10, 1, 0, 2) := ⟨by decide +kernel, (zz_g (zz_t2 (i := 102) rfl) rfl), (zz_g (zz_t1 (i := 3) rfl) rfl), by decide +kernel, by decide +kernel, by decide +kernel, rfl, Nat.le_of_ble_eq_true rfl, zcd10⟩
set_option maxRecDepth 20000 in
theorem zm11 : zmOk (yX1_value, cX1_value, 3, (some .int), zc11, 1, 0, 2) := ⟨by decide +kernel, (zz_g (zz_t2 (i := 106) rfl) rfl), (zz_g (zz_t1 (i := 3) rfl) rfl), by decide +kernel, by decide +kernel, by decide +kernel, rfl, Nat.le_of_ble_eq_true rfl, zcd11⟩
set_option maxRecDepth 20000 in
theorem zm12 : zmOk (yX1_describe, cX1_describe, 4, (some .int), zc12, 1, 1, 3) := ⟨by decide +kernel, (zz_g (zz_t2 (i := 98) rfl) rfl), (zz_g (zz_t1 (i := 3) rfl) rfl), by decide +kernel, by decide +kernel, by decide +kernel, rfl, Nat.le_of_ble_eq_true rfl, zcd12⟩
set_option maxRecDepth 20000 in
theorem zm13 : zmOk (yX1_sum, cX1_sum, 4, (some .int), zc13, 1, 0, 1) := ⟨by decide +kernel, (zz_g (zz_t1 (i := 186) rfl) rfl), (zz_g (zz_t1 (i := 3) rfl) rfl), by decide +kernel, by decide +kernel, by decide +kernel, rfl, Nat.le_of_ble_eq_true rfl, zcd13⟩
set_option maxRecDepth 20000 in
theorem zm14 : zmOk (yX1_countOf, cX1_countOf, 5, (some .int), zc14, 1, 0, 2) := ⟨by decide +kernel, (zz_g (zz_t1 (i := 190) rfl) rfl), (zz_g (zz_t1 (i := 3) rfl) rfl), by decide +kernel, by decide +kernel, by decide +kernel, rfl, Nat.le_of_ble_eq_true rfl, zcd14⟩
set_option maxRecDepth 20000 in
theorem zm15 : zmOk (yX1_hasRoom, cX1_hasRoom, 1, (some .boolean), zc15, 1, 1, 0) := ⟨by decide +kernel, (zz_g (zz_t2 (i := 81) rfl) rfl), (zz_g (zz_t1 (i := 3) rfl) rfl), by decide +kernel, by decide +kernel, by decide +kernel, rfl, Nat.le_of_ble_eq_true rfl, zcd15⟩
set_option maxRecDepth 20000 in
theorem zm16 : zmOk (yX1_add, cX1_add, 3, (some .boolean), zc16, 1, 2, 2) := ⟨by decide +kernel, (zz_g (zz_t2 (i := 85) rfl) rfl), (zz_g (zz_t1 (i := 3) rfl) rfl), by decide +kernel, by decide +kernel, by decide +kernel, rfl, Nat.le_of_ble_eq_true rfl, zcd16⟩
set_option maxRecDepth 20000 in
theorem zm17 : zmOk (yX1_giveFirstTo, cX1_giveFirstTo, 6, none, zc17, 1, 1, 1) := ⟨by decide +kernel, (zz_g (zz_t2 (i := 129) rfl) rfl), (zz_g (zz_t1 (i := 3) rfl) rfl), by decide +kernel, by decide +kernel, by decide +kernel, rfl, Nat.le_of_ble_eq_true rfl, zcd17⟩
set_option maxRecDepth 20000 in
theorem zm18 : zmOk (yX1_trade, cX1_trade, 8, none, zc18, 1, 0, 4) := ⟨by decide +kernel, (zz_g (zz_t2 (i := 209) rfl) rfl), (zz_g (zz_t1 (i := 3) rfl) rfl), by decide +kernel, by decide +kernel, by decide +kernel, rfl, Nat.le_of_ble_eq_true rfl, zcd18⟩
set_option maxRecDepth 20000 in
theorem zm19 : zmOk (yX1_removeBag, cX1_removeBag, 4, none, zc19, 1, 1, 1) := ⟨by decide +kernel, (zz_g (zz_t2 (i := 44) rfl) rfl), (zz_g (zz_t1 (i := 3) rfl) rfl), by decide +kernel, by decide +kernel, by decide +kernel, rfl, Nat.le_of_ble_eq_true rfl, zcd19⟩
set_option maxRecDepth 20000 in
theorem zm20 : zmOk (yX2_init, cX2_init, 2, none, zc20, 2, 3, 0) := ⟨by decide +kernel, (zz_g (zz_t1 (i := 85) rfl) rfl), (zz_g (zz_t1 (i := 4) rfl) rfl), by decide +kernel, by decide +kernel, by decide +kernel, rfl, Nat.le_of_ble_eq_true rfl, zcd20⟩
set_option maxRecDepth 20000 in
theorem zm21 : zmOk (yX2_keep, cX2_keep, 2, none, zc21, 2, 3, 1) := ⟨by decide +kernel, (zz_g (zz_t1 (i := 232) rfl) rfl), (zz_g (zz_t1 (i := 4) rfl) rfl), by decide +kernel, by decide +kernel, by decide +kernel, rfl, Nat.le_of_ble_eq_true rfl, zcd21⟩
set_option maxRecDepth 20000 in
theorem zm22 : zmOk (yX2_discardOldest, cX2_discardOldest, 3, none, zc22, 2, 0, 0) := ⟨by decide +kernel, (zz_g (zz_t1 (i := 236) rfl) rfl), (zz_g (zz_t1 (i := 4) rfl) rfl), by decide +kernel, by decide +kernel, by decide +kernel, rfl, Nat.le_of_ble_eq_true rfl, zcd22⟩
set_option maxRecDepth 20000 in
theorem zm23 : zmOk (yX2_takeBack, cX2_takeBack, 2, none, zc23, 2, 3, 1) := ⟨by decide +kernel, (zz_g (zz_t1 (i := 212) rfl) rfl), (zz_g (zz_t1 (i := 4) rfl) rfl), by decide +kernel, by decide +kernel, by decide +kernel, rfl, Nat.le_of_ble_eq_true rfl, zcd23⟩
set_option maxRecDepth 20000 in
theorem zm24 : zmOk (yX3_init, cX3_init, 2, none, zc24, 3, 2, 0) := ⟨by decide +kernel, (zz_g (zz_t1 (i := 21) rfl) rfl), (zz_g (zz_t1 (i := 2) rfl) rfl), by decide +kernel, by decide +kernel, by decide +kernel, rfl, Nat.le_of_ble_eq_true rfl, zcd24⟩
set_option maxRecDepth 20000 in
theorem zm25 : zmOk (yX3_copyFrom, cX3_copyFrom, 2, none, zc25, 3, 2, 1) := ⟨by decide +kernel, (zz_g (zz_t1 (i := 216) rfl) rfl), (zz_g (zz_t1 (i := 2) rfl) rfl), by decide +kernel, by decide +kernel, by decide +kernel, rfl, Nat.le_of_ble_eq_true rfl, zcd25⟩
set_option maxRecDepth 20000 in
theorem zm26 : zmOk (yX3_hasHeir, cX3_hasHeir, 2, (some .boolean), zc26, 3, 0, 1) := ⟨by decide +kernel, (zz_g (zz_t2 (i := 30) rfl) rfl), (zz_g (zz_t1 (i := 2) rfl) rfl), by decide +kernel, by decide +kernel, by decide +kernel, rfl, Nat.le_of_ble_eq_true rfl, zcd26⟩
set_option maxRecDepth 20000 in
theorem zm27 : zmOk (yX3_hasMarble, cX3_hasMarble, 3, (some .boolean), zc27, 3, 2, 2) := ⟨by decide +kernel, (zz_g (zz_t2 (i := 145) rfl) rfl), (zz_g (zz_t1 (i := 2) rfl) rfl), by decide +kernel, by decide +kernel, by decide +kernel, rfl, Nat.le_of_ble_eq_true rfl, zcd27⟩
set_option maxRecDepth 20000 in
theorem zm28 : zmOk (yX3_addHeir, cX3_addHeir, 4, (some .int), zc28, 3, 0, 2) := ⟨by decide +kernel, (zz_g (zz_t2 (i := 22) rfl) rfl), (zz_g (zz_t1 (i := 2) rfl) rfl), by decide +kernel, by decide +kernel, by decide +kernel, rfl, Nat.le_of_ble_eq_true rfl, zcd28⟩
set_option maxRecDepth 20000 in
theorem zm29 : zmOk (yX3_removeHeir, cX3_removeHeir, 3, none, zc29, 3, 2, 1) := ⟨by decide +kernel, (zz_g (zz_t2 (i := 40) rfl) rfl), (zz_g (zz_t1 (i := 2) rfl) rfl), by decide +kernel, by decide +kernel, by decide +kernel, rfl, Nat.le_of_ble_eq_true rfl, zcd29⟩
set_option maxRecDepth 20000 in
theorem zm30 : zmOk (yX3_placeOf, cX3_placeOf, 3, (some .int), zc30, 3, 0, 1) := ⟨by decide +kernel, (zz_g (zz_t1 (i := 194) rfl) rfl), (zz_g (zz_t1 (i := 2) rfl) rfl), by decide +kernel, by decide +kernel, by decide +kernel, rfl, Nat.le_of_ble_eq_true rfl, zcd30⟩
set_option maxRecDepth 20000 in
theorem zm31 : zmOk (yX3_playAllRounds, cX3_playAllRounds, 3, (some .int), zc31, 3, 4, 0) := ⟨by decide +kernel, (zz_g (zz_t2 (i := 158) rfl) rfl), (zz_g (zz_t1 (i := 2) rfl) rfl), by decide +kernel, by decide +kernel, by decide +kernel, rfl, Nat.le_of_ble_eq_true rfl, zcd31⟩
set_option maxRecDepth 20000 in
theorem zm32 : zmOk (yX3_playRound, cX3_playRound, 3, (some .int), zc32, 3, 3, 0) := ⟨by decide +kernel, (zz_g (zz_t2 (i := 117) rfl) rfl), (zz_g (zz_t1 (i := 2) rfl) rfl), by decide +kernel, by decide +kernel, by decide +kernel, rfl, Nat.le_of_ble_eq_true rfl, zcd32⟩
set_option maxRecDepth 20000 in
theorem zm33 : zmOk (yX3_giveInOrder, cX3_giveInOrder, 3, none, zc33, 3, 2, 1) := ⟨by decide +kernel, (zz_g (zz_t2 (i := 133) rfl) rfl), (zz_g (zz_t1 (i := 2) rfl) rfl), by decide +kernel, by decide +kernel, by decide +kernel, rfl, Nat.le_of_ble_eq_true rfl, zcd33⟩
set_option maxRecDepth 20000 in
theorem zm34 : zmOk (yX3_giveToPoorest, cX3_giveToPoorest, 5, none, zc34, 3, 2, 1) := ⟨by decide +kernel, (zz_g (zz_t2 (i := 121) rfl) rfl), (zz_g (zz_t1 (i := 2) rfl) rfl), by decide +kernel, by decide +kernel, by decide +kernel, rfl, Nat.le_of_ble_eq_true rfl, zcd34⟩
set_option maxRecDepth 20000 in
theorem zm35 : zmOk (yX3_poorestBut, cX3_poorestBut, 7, (some .int), zc35, 3, 1, 1) := ⟨by decide +kernel, (zz_g (zz_t2 (i := 125) rfl) rfl), (zz_g (zz_t1 (i := 2) rfl) rfl), by decide +kernel, by decide +kernel, by decide +kernel, rfl, Nat.le_of_ble_eq_true rfl, zcd35⟩
set_option maxRecDepth 20000 in
theorem zm36 : zmOk (yX3_exchangeUnlessVetoed, cX3_exchangeUnlessVetoed, 6, (some .int), zc36, 3, 2, 4) := ⟨by decide +kernel, (zz_g (zz_t2 (i := 200) rfl) rfl), (zz_g (zz_t1 (i := 2) rfl) rfl), by decide +kernel, by decide +kernel, by decide +kernel, rfl, Nat.le_of_ble_eq_true rfl, zcd36⟩
set_option maxRecDepth 20000 in
theorem zm37 : zmOk (yX3_exchange, cX3_exchange, 5, none, zc37, 3, 1, 4) := ⟨by decide +kernel, (zz_g (zz_t2 (i := 205) rfl) rfl), (zz_g (zz_t1 (i := 2) rfl) rfl), by decide +kernel, by decide +kernel, by decide +kernel, rfl, Nat.le_of_ble_eq_true rfl, zcd37⟩
set_option maxRecDepth 20000 in
theorem zm38 : zmOk (yX3_vetoer, cX3_vetoer, 6, (some .int), zc38, 3, 1, 4) := ⟨by decide +kernel, (zz_g (zz_t2 (i := 187) rfl) rfl), (zz_g (zz_t1 (i := 2) rfl) rfl), by decide +kernel, by decide +kernel, by decide +kernel, rfl, Nat.le_of_ble_eq_true rfl, zcd38⟩
set_option maxRecDepth 20000 in
theorem zm39 : zmOk (yX3_objects, cX3_objects, 3, (some .boolean), zc39, 3, 0, 2) := ⟨by decide +kernel, (zz_g (zz_t2 (i := 192) rfl) rfl), (zz_g (zz_t1 (i := 2) rfl) rfl), by decide +kernel, by decide +kernel, by decide +kernel, rfl, Nat.le_of_ble_eq_true rfl, zcd39⟩
set_option maxRecDepth 20000 in
theorem zm40 : zmOk (yX3_about, cX3_about, 3, (some .int), zc40, 3, 1, 2) := ⟨by decide +kernel, (zz_g (zz_t1 (i := 182) rfl) rfl), (zz_g (zz_t1 (i := 2) rfl) rfl), by decide +kernel, by decide +kernel, by decide +kernel, rfl, Nat.le_of_ble_eq_true rfl, zcd40⟩
set_option maxRecDepth 20000 in
theorem zm41 : zmOk (yX3_figure, cX3_figure, 2, (some .int), zc41, 3, 3, 1) := ⟨by decide +kernel, (zz_g (zz_t1 (i := 170) rfl) rfl), (zz_g (zz_t1 (i := 2) rfl) rfl), by decide +kernel, by decide +kernel, by decide +kernel, rfl, Nat.le_of_ble_eq_true rfl, zcd41⟩
set_option maxRecDepth 20000 in
theorem zm42 : zmOk (yX3_overAll, cX3_overAll, 4, (some .int), zc42, 3, 2, 1) := ⟨by decide +kernel, (zz_g (zz_t1 (i := 178) rfl) rfl), (zz_g (zz_t1 (i := 2) rfl) rfl), by decide +kernel, by decide +kernel, by decide +kernel, rfl, Nat.le_of_ble_eq_true rfl, zcd42⟩
set_option maxRecDepth 20000 in
theorem zm43 : zmOk (yX3_spread, cX3_spread, 6, (some .int), zc43, 3, 2, 1) := ⟨by decide +kernel, (zz_g (zz_t1 (i := 198) rfl) rfl), (zz_g (zz_t1 (i := 2) rfl) rfl), by decide +kernel, by decide +kernel, by decide +kernel, rfl, Nat.le_of_ble_eq_true rfl, zcd43⟩
set_option maxRecDepth 20000 in
theorem zm44 : zmOk (yX4_init, cX4_init, 1, none, zc44, 4, 1, 0) := ⟨by decide +kernel, (zz_g (zz_t1 (i := 102) rfl) rfl), (zz_g (zz_t1 (i := 5) rfl) rfl), by decide +kernel, by decide +kernel, by decide +kernel, rfl, Nat.le_of_ble_eq_true rfl, zcd44⟩
set_option maxRecDepth 20000 in
theorem zm52 : zmOk (yX5_init, cX5_init, 1, none, zc52, 5, 4, 0) := ⟨by decide +kernel, (zz_g (zz_t1 (i := 13) rfl) rfl), (zz_g (zz_t1 (i := 1) rfl) rfl), by decide +kernel, by decide +kernel, by decide +kernel, rfl, Nat.le_of_ble_eq_true rfl, zcd52⟩
set_option maxRecDepth 20000 in
theorem zm53 : zmOk (yX5_come, cX5_come, 3, (some .int), zc53, 5, 4, 2) := ⟨by decide +kernel, (zz_g (zz_t2 (i := 12) rfl) rfl), (zz_g (zz_t1 (i := 1) rfl) rfl), by decide +kernel, by decide +kernel, by decide +kernel, rfl, Nat.le_of_ble_eq_true rfl, zcd53⟩
set_option maxRecDepth 20000 in
theorem zm54 : zmOk (yX5_leave, cX5_leave, 3, (some .int), zc54, 5, 4, 1) := ⟨by decide +kernel, (zz_g (zz_t2 (i := 35) rfl) rfl), (zz_g (zz_t1 (i := 1) rfl) rfl), by decide +kernel, by decide +kernel, by decide +kernel, rfl, Nat.le_of_ble_eq_true rfl, zcd54⟩
set_option maxRecDepth 20000 in
theorem zm55 : zmOk (yX5_wish, cX5_wish, 3, (some .int), zc55, 5, 4, 2) := ⟨by decide +kernel, (zz_g (zz_t2 (i := 53) rfl) rfl), (zz_g (zz_t1 (i := 1) rfl) rfl), by decide +kernel, by decide +kernel, by decide +kernel, rfl, Nat.le_of_ble_eq_true rfl, zcd55⟩
set_option maxRecDepth 20000 in
theorem zm56 : zmOk (yX5_setRule, cX5_setRule, 3, (some .int), zc56, 5, 4, 1) := ⟨by decide +kernel, (zz_g (zz_t2 (i := 58) rfl) rfl), (zz_g (zz_t1 (i := 1) rfl) rfl), by decide +kernel, by decide +kernel, by decide +kernel, rfl, Nat.le_of_ble_eq_true rfl, zcd56⟩
set_option maxRecDepth 20000 in
theorem zm57 : zmOk (yX5_setPatience, cX5_setPatience, 3, (some .int), zc57, 5, 4, 1) := ⟨by decide +kernel, (zz_g (zz_t2 (i := 62) rfl) rfl), (zz_g (zz_t1 (i := 1) rfl) rfl), by decide +kernel, by decide +kernel, by decide +kernel, rfl, Nat.le_of_ble_eq_true rfl, zcd57⟩
set_option maxRecDepth 20000 in
theorem zm58 : zmOk (yX5_grant, cX5_grant, 4, (some .int), zc58, 5, 4, 2) := ⟨by decide +kernel, (zz_g (zz_t2 (i := 70) rfl) rfl), (zz_g (zz_t1 (i := 1) rfl) rfl), by decide +kernel, by decide +kernel, by decide +kernel, rfl, Nat.le_of_ble_eq_true rfl, zcd58⟩
set_option maxRecDepth 20000 in
theorem zm59 : zmOk (yX5_drop, cX5_drop, 3, (some .int), zc59, 5, 4, 2) := ⟨by decide +kernel, (zz_g (zz_t2 (i := 77) rfl) rfl), (zz_g (zz_t1 (i := 1) rfl) rfl), by decide +kernel, by decide +kernel, by decide +kernel, rfl, Nat.le_of_ble_eq_true rfl, zcd59⟩
set_option maxRecDepth 20000 in
theorem zm60 : zmOk (yX5_round, cX5_round, 1, (some .int), zc60, 5, 4, 0) := ⟨by decide +kernel, (zz_g (zz_t2 (i := 113) rfl) rfl), (zz_g (zz_t1 (i := 1) rfl) rfl), by decide +kernel, by decide +kernel, by decide +kernel, rfl, Nat.le_of_ble_eq_true rfl, zcd60⟩
set_option maxRecDepth 20000 in
theorem zm61 : zmOk (yX5_divide, cX5_divide, 1, (some .int), zc61, 5, 5, 0) := ⟨by decide +kernel, (zz_g (zz_t2 (i := 154) rfl) rfl), (zz_g (zz_t1 (i := 1) rfl) rfl), by decide +kernel, by decide +kernel, by decide +kernel, rfl, Nat.le_of_ble_eq_true rfl, zcd61⟩
set_option maxRecDepth 20000 in
theorem zm62 : zmOk (yX5_swap, cX5_swap, 6, (some .int), zc62, 5, 4, 4) := ⟨by decide +kernel, (zz_g (zz_t2 (i := 196) rfl) rfl), (zz_g (zz_t1 (i := 1) rfl) rfl), by decide +kernel, by decide +kernel, by decide +kernel, rfl, Nat.le_of_ble_eq_true rfl, zcd62⟩
set_option maxRecDepth 20000 in
theorem zm63 : zmOk (yX5_settle, cX5_settle, 2, (some .int), zc63, 5, 5, 0) := ⟨by decide +kernel, (zz_g (zz_t2 (i := 213) rfl) rfl), (zz_g (zz_t1 (i := 1) rfl) rfl), by decide +kernel, by decide +kernel, by decide +kernel, rfl, Nat.le_of_ble_eq_true rfl, zcd63⟩
set_option maxRecDepth 20000 in
theorem zm64 : zmOk (yX5_heir, cX5_heir, 3, (some .int), zc64, 5, 2, 2) := ⟨by decide +kernel, (zz_g (zz_t2 (i := 26) rfl) rfl), (zz_g (zz_t1 (i := 1) rfl) rfl), by decide +kernel, by decide +kernel, by decide +kernel, rfl, Nat.le_of_ble_eq_true rfl, zcd64⟩
set_option maxRecDepth 20000 in
theorem zm65 : zmOk (yX5_bag, cX5_bag, 4, (some .int), zc65, 5, 3, 3) := ⟨by decide +kernel, (zz_g (zz_t2 (i := 141) rfl) rfl), (zz_g (zz_t1 (i := 1) rfl) rfl), by decide +kernel, by decide +kernel, by decide +kernel, rfl, Nat.le_of_ble_eq_true rfl, zcd65⟩
set_option maxRecDepth 20000 in
theorem zm66 : zmOk (yX5_hopper, cX5_hopper, 3, (some .int), zc66, 5, 2, 2) := ⟨by decide +kernel, (zz_g (zz_t2 (i := 90) rfl) rfl), (zz_g (zz_t1 (i := 1) rfl) rfl), by decide +kernel, by decide +kernel, by decide +kernel, rfl, Nat.le_of_ble_eq_true rfl, zcd66⟩
set_option maxRecDepth 20000 in
theorem zm67 : zmOk (yX5_vetoes, cX5_vetoes, 2, (some .int), zc67, 5, 1, 1) := ⟨by decide +kernel, (zz_g (zz_t2 (i := 66) rfl) rfl), (zz_g (zz_t1 (i := 1) rfl) rfl), by decide +kernel, by decide +kernel, by decide +kernel, rfl, Nat.le_of_ble_eq_true rfl, zcd67⟩
set_option maxRecDepth 20000 in
theorem zm68 : zmOk (yX5_at, cX5_at, 2, (some .int), zc68, 5, 0, 1) := ⟨by decide +kernel, (zz_g (zz_t2 (i := 137) rfl) rfl), (zz_g (zz_t1 (i := 1) rfl) rfl), by decide +kernel, by decide +kernel, by decide +kernel, rfl, Nat.le_of_ble_eq_true rfl, zcd68⟩
set_option maxRecDepth 20000 in
theorem zm69 : zmOk (yX5_total, cX5_total, 2, (some .int), zc69, 5, 4, 1) := ⟨by decide +kernel, (zz_g (zz_t1 (i := 166) rfl) rfl), (zz_g (zz_t1 (i := 1) rfl) rfl), by decide +kernel, by decide +kernel, by decide +kernel, rfl, Nat.le_of_ble_eq_true rfl, zcd69⟩
set_option maxRecDepth 20000 in
theorem zm70 : zmOk (yX5_ifDivided, cX5_ifDivided, 3, (some .int), zc70, 5, 5, 2) := ⟨by decide +kernel, (zz_g (zz_t2 (i := 172) rfl) rfl), (zz_g (zz_t1 (i := 1) rfl) rfl), by decide +kernel, by decide +kernel, by decide +kernel, rfl, Nat.le_of_ble_eq_true rfl, zcd70⟩
set_option maxRecDepth 20000 in
theorem zm71 : zmOk (yX5_fairestRule, cX5_fairestRule, 5, (some .int), zc71, 5, 6, 0) := ⟨by decide +kernel, (zz_g (zz_t2 (i := 163) rfl) rfl), (zz_g (zz_t1 (i := 1) rfl) rfl), by decide +kernel, by decide +kernel, by decide +kernel, rfl, Nat.le_of_ble_eq_true rfl, zcd71⟩
set_option maxRecDepth 20000 in
theorem zm72 : zmOk (yX5_whoVetoes, cX5_whoVetoes, 6, (some .int), zc72, 5, 4, 4) := ⟨by decide +kernel, (zz_g (zz_t2 (i := 179) rfl) rfl), (zz_g (zz_t1 (i := 1) rfl) rfl), by decide +kernel, by decide +kernel, by decide +kernel, rfl, Nat.le_of_ble_eq_true rfl, zcd72⟩
set_option maxRecDepth 20000 in
theorem zm73 : zmOk (yX5_bestSwap, cX5_bestSwap, 2, (some .int), zc73, 5, 5, 1) := ⟨by decide +kernel, (zz_g (zz_t3 (i := 1) rfl) rfl), (zz_g (zz_t1 (i := 1) rfl) rfl), by decide +kernel, by decide +kernel, by decide +kernel, rfl, Nat.le_of_ble_eq_true rfl, zcd73⟩
set_option maxRecDepth 20000 in
theorem zm78 : zmOk (yX5_undo, cX5_undo, 1, (some .int), zc78, 5, 4, 0) := ⟨by decide +kernel, (zz_g (zz_t1 (i := 208) rfl) rfl), (zz_g (zz_t1 (i := 1) rfl) rfl), by decide +kernel, by decide +kernel, by decide +kernel, rfl, Nat.le_of_ble_eq_true rfl, zcd78⟩
set_option maxRecDepth 20000 in
theorem zm80 : zmOk (yX5_restore, cX5_restore, 1, (some .int), zc80, 5, 4, 0) := ⟨by decide +kernel, (zz_g (zz_t1 (i := 228) rfl) rfl), (zz_g (zz_t1 (i := 1) rfl) rfl), by decide +kernel, by decide +kernel, by decide +kernel, rfl, Nat.le_of_ble_eq_true rfl, zcd80⟩
set_option maxRecDepth 20000 in
theorem zm81 : zmOk (yX5_isMother, cX5_isMother, 1, (some .boolean), zc81, 5, 0, 1) := ⟨by decide +kernel, (zz_g (zz_t2 (i := 15) rfl) rfl), (zz_g (zz_t1 (i := 1) rfl) rfl), by decide +kernel, by decide +kernel, by decide +kernel, rfl, Nat.le_of_ble_eq_true rfl, zcd81⟩
set_option maxRecDepth 20000 in
theorem zm82 : zmOk (yX5_isColour, cX5_isColour, 1, (some .boolean), zc82, 5, 0, 1) := ⟨by decide +kernel, (zz_g (zz_t2 (i := 18) rfl) rfl), (zz_g (zz_t1 (i := 1) rfl) rfl), by decide +kernel, by decide +kernel, by decide +kernel, rfl, Nat.le_of_ble_eq_true rfl, zcd82⟩
set_option maxRecDepth 20000 in
theorem zm83 : zmOk (yX5_moveBack, cX5_moveBack, 5, none, zc83, 5, 0, 3) := ⟨by decide +kernel, (zz_g (zz_t2 (i := 48) rfl) rfl), (zz_g (zz_t1 (i := 1) rfl) rfl), by decide +kernel, by decide +kernel, by decide +kernel, rfl, Nat.le_of_ble_eq_true rfl, zcd83⟩
set_option maxRecDepth 20000 in
theorem zm84 : zmOk (yX5_swapError, cX5_swapError, 5, (some .int), zc84, 5, 3, 4) := ⟨by decide +kernel, (zz_g (zz_t2 (i := 183) rfl) rfl), (zz_g (zz_t1 (i := 1) rfl) rfl), by decide +kernel, by decide +kernel, by decide +kernel, rfl, Nat.le_of_ble_eq_true rfl, zcd84⟩
set_option maxRecDepth 20000 in
theorem zm85 : zmOk (yX5_spreadUnder, cX5_spreadUnder, 2, (some .int), zc85, 5, 5, 1) := ⟨by decide +kernel, (zz_g (zz_t2 (i := 167) rfl) rfl), (zz_g (zz_t1 (i := 1) rfl) rfl), by decide +kernel, by decide +kernel, by decide +kernel, rfl, Nat.le_of_ble_eq_true rfl, zcd85⟩
set_option maxRecDepth 20000 in
theorem zm86 : zmOk (yL_low, cL_low, 2, (some .int), zc86, 7, 0, 2) := ⟨by decide +kernel, (zz_g (zz_t2 (i := 4) rfl) rfl), (zz_g (zz_t1 (i := 0) rfl) rfl), by decide +kernel, by decide +kernel, by decide +kernel, rfl, Nat.le_of_ble_eq_true rfl, zcd86⟩
set_option maxRecDepth 20000 in
theorem zm87 : zmOk (yL_drops, cL_drops, 7, (some .boolean), zc87, 7, 5, 3) := ⟨by decide +kernel, (zz_g (zz_t2 (i := 73) rfl) rfl), (zz_g (zz_t1 (i := 0) rfl) rfl), by decide +kernel, by decide +kernel, by decide +kernel, rfl, Nat.le_of_ble_eq_true rfl, zcd87⟩
set_option maxRecDepth 20000 in
theorem zm88 : zmOk (yL_rounds, cL_rounds, 11, (some .boolean), zc88, 7, 5, 2) := ⟨by decide +kernel, (zz_g (zz_t2 (i := 109) rfl) rfl), (zz_g (zz_t1 (i := 0) rfl) rfl), by decide +kernel, by decide +kernel, by decide +kernel, rfl, Nat.le_of_ble_eq_true rfl, zcd88⟩
set_option maxRecDepth 20000 in
theorem zm89 : zmOk (yL_divides, cL_divides, 9, (some .boolean), zc89, 7, 7, 2) := ⟨by decide +kernel, (zz_g (zz_t2 (i := 150) rfl) rfl), (zz_g (zz_t1 (i := 0) rfl) rfl), by decide +kernel, by decide +kernel, by decide +kernel, rfl, Nat.le_of_ble_eq_true rfl, zcd89⟩
set_option maxRecDepth 20000 in
theorem zm90 : zmOk (yL_swaps, cL_swaps, 18, (some .boolean), zc90, 7, 5, 5) := ⟨by decide +kernel, (zz_g (zz_t2 (i := 175) rfl) rfl), (zz_g (zz_t1 (i := 0) rfl) rfl), by decide +kernel, by decide +kernel, by decide +kernel, rfl, Nat.le_of_ble_eq_true rfl, zcd90⟩
set_option maxRecDepth 20000 in
theorem zm91 : zmOk (yL_isBest, cL_isBest, 15, (some .boolean), zc91, 7, 6, 1) := ⟨by decide +kernel, (zz_g (zz_t3 (i := 11) rfl) rfl), (zz_g (zz_t1 (i := 0) rfl) rfl), by decide +kernel, by decide +kernel, by decide +kernel, rfl, Nat.le_of_ble_eq_true rfl, zcd91⟩
set_option maxRecDepth 20000 in
theorem zm92 : zmOk (yL_isFair, cL_isFair, 6, (some .boolean), zc92, 7, 7, 1) := ⟨by decide +kernel, (zz_g (zz_t3 (i := 14) rfl) rfl), (zz_g (zz_t1 (i := 0) rfl) rfl), by decide +kernel, by decide +kernel, by decide +kernel, rfl, Nat.le_of_ble_eq_true rfl, zcd92⟩
set_option maxRecDepth 20000 in
theorem zm93 : zmOk (yL_holds, cL_holds, 16, (some .boolean), zc93, 7, 7, 1) := ⟨by decide +kernel, (zz_g (zz_t3 (i := 8) rfl) rfl), (zz_g (zz_t1 (i := 0) rfl) rfl), by decide +kernel, by decide +kernel, by decide +kernel, rfl, Nat.le_of_ble_eq_true rfl, zcd93⟩
set_option maxRecDepth 20000 in
theorem zm94 : zmOk (yL_change, cL_change, 15, (some .boolean), zc94, 7, 8, 4) := ⟨by decide +kernel, (zz_g (zz_t2 (i := 8) rfl) rfl), (zz_g (zz_t1 (i := 0) rfl) rfl), by decide +kernel, by decide +kernel, by decide +kernel, rfl, Nat.le_of_ble_eq_true rfl, zcd94⟩
set_option maxRecDepth 20000 in
theorem zm95 : zmOk (yL_cell, cL_cell, 2, (some .int), zc95, 7, 0, 2) := ⟨by decide +kernel, (zz_g (zz_t2 (i := 0) rfl) rfl), (zz_g (zz_t1 (i := 0) rfl) rfl), by decide +kernel, by decide +kernel, by decide +kernel, rfl, Nat.le_of_ble_eq_true rfl, zcd95⟩
end
section
theorem zz_all {a b : List zRec} (ha : ∀ r ∈ a, zmOk r) (hb : ∀ r ∈ b, zmOk r) : ∀ r ∈ a ++ b, zmOk r := fun r h => (List.mem_append.mp h).elim (ha r) (hb r)
def zMs0 : List zRec := [(yX0_init, cX0_init, 1, none, zc0, 0, 1, 0), (yX0_tell, cX0_tell, 2, (some .int), zc1, 0, 0, 1), (yX0_searchIn, cX0_searchIn, 5, none, zc2, 0, 4, 1), (yX0_searchPartners, cX0_searchPartners, 13, none, zc3, 0, 3, 3), (yX0_one, cX0_one, 2, (some .int), zc4, 0, 0, 2), (yX0_weigh, cX0_weigh, 9, none, zc5, 0, 2, 6), (yX1_init, cX1_init, 1, none, zc6, 1, 1, 0), (yX1_copyFrom, cX1_copyFrom, 2, none, zc7, 1, 1, 1), (yX1_count, cX1_count, 2, (some .int), zc8, 1, 0, 1), (yX1_has, cX1_has, 3, (some .boolean), zc9, 1, 1, 2), (yX1_colour, cX1_colour, 3, (some .int), zc10, 1, 0, 2), (yX1_value, cX1_value, 3, (some .int), zc11, 1, 0, 2), (yX1_describe, cX1_describe, 4, (some .int), zc12, 1, 1, 3), (yX1_sum, cX1_sum, 4, (some .int), zc13, 1, 0, 1), (yX1_countOf, cX1_countOf, 5, (some .int), zc14, 1, 0, 2), (yX1_hasRoom, cX1_hasRoom, 1, (some .boolean), zc15, 1, 1, 0), (yX1_add, cX1_add, 3, (some .boolean), zc16, 1, 2, 2), (yX1_giveFirstTo, cX1_giveFirstTo, 6, none, zc17, 1, 1, 1), (yX1_trade, cX1_trade, 8, none, zc18, 1, 0, 4), (yX1_removeBag, cX1_removeBag, 4, none, zc19, 1, 1, 1)]
theorem zMs0_ok : ∀ r ∈ zMs0, zmOk r := (List.forall_mem_cons.mpr ⟨zm0, (List.forall_mem_cons.mpr ⟨zm1, (List.forall_mem_cons.mpr ⟨zm2, (List.forall_mem_cons.mpr ⟨zm3, (List.forall_mem_cons.mpr ⟨zm4, (List.forall_mem_cons.mpr ⟨zm5, (List.forall_mem_cons.mpr ⟨zm6, (List.forall_mem_cons.mpr ⟨zm7, (List.forall_mem_cons.mpr ⟨zm8, (List.forall_mem_cons.mpr ⟨zm9, (List.forall_mem_cons.mpr ⟨zm10, (List.forall_mem_cons.mpr ⟨zm11, (List.forall_mem_cons.mpr ⟨zm12, (List.forall_mem_cons.mpr ⟨zm13, (List.forall_mem_cons.mpr ⟨zm14, (List.forall_mem_cons.mpr ⟨zm15, (List.forall_mem_cons.mpr ⟨zm16, (List.forall_mem_cons.mpr ⟨zm17, (List.forall_mem_cons.mpr ⟨zm18, (List.forall_mem_cons.mpr ⟨zm19, (fun _ h => absurd h List.not_mem_nil)⟩)⟩)⟩)⟩)⟩)⟩)⟩)⟩)⟩)⟩)⟩)⟩)⟩)⟩)⟩)⟩)⟩)⟩)⟩)⟩)
def zMs1 : List zRec := [(yX2_init, cX2_init, 2, none, zc20, 2, 3, 0), (yX2_keep, cX2_keep, 2, none, zc21, 2, 3, 1), (yX2_discardOldest, cX2_discardOldest, 3, none, zc22, 2, 0, 0), (yX2_takeBack, cX2_takeBack, 2, none, zc23, 2, 3, 1), (yX3_init, cX3_init, 2, none, zc24, 3, 2, 0), (yX3_copyFrom, cX3_copyFrom, 2, none, zc25, 3, 2, 1), (yX3_hasHeir, cX3_hasHeir, 2, (some .boolean), zc26, 3, 0, 1), (yX3_hasMarble, cX3_hasMarble, 3, (some .boolean), zc27, 3, 2, 2), (yX3_addHeir, cX3_addHeir, 4, (some .int), zc28, 3, 0, 2), (yX3_removeHeir, cX3_removeHeir, 3, none, zc29, 3, 2, 1), (yX3_placeOf, cX3_placeOf, 3, (some .int), zc30, 3, 0, 1), (yX3_playAllRounds, cX3_playAllRounds, 3, (some .int), zc31, 3, 4, 0), (yX3_playRound, cX3_playRound, 3, (some .int), zc32, 3, 3, 0), (yX3_giveInOrder, cX3_giveInOrder, 3, none, zc33, 3, 2, 1), (yX3_giveToPoorest, cX3_giveToPoorest, 5, none, zc34, 3, 2, 1), (yX3_poorestBut, cX3_poorestBut, 7, (some .int), zc35, 3, 1, 1), (yX3_exchangeUnlessVetoed, cX3_exchangeUnlessVetoed, 6, (some .int), zc36, 3, 2, 4), (yX3_exchange, cX3_exchange, 5, none, zc37, 3, 1, 4), (yX3_vetoer, cX3_vetoer, 6, (some .int), zc38, 3, 1, 4), (yX3_objects, cX3_objects, 3, (some .boolean), zc39, 3, 0, 2)]
theorem zMs1_ok : ∀ r ∈ zMs1, zmOk r := (List.forall_mem_cons.mpr ⟨zm20, (List.forall_mem_cons.mpr ⟨zm21, (List.forall_mem_cons.mpr ⟨zm22, (List.forall_mem_cons.mpr ⟨zm23, (List.forall_mem_cons.mpr ⟨zm24, (List.forall_mem_cons.mpr ⟨zm25, (List.forall_mem_cons.mpr ⟨zm26, (List.forall_mem_cons.mpr ⟨zm27, (List.forall_mem_cons.mpr ⟨zm28, (List.forall_mem_cons.mpr ⟨zm29, (List.forall_mem_cons.mpr ⟨zm30, (List.forall_mem_cons.mpr ⟨zm31, (List.forall_mem_cons.mpr ⟨zm32, (List.forall_mem_cons.mpr ⟨zm33, (List.forall_mem_cons.mpr ⟨zm34, (List.forall_mem_cons.mpr ⟨zm35, (List.forall_mem_cons.mpr ⟨zm36, (List.forall_mem_cons.mpr ⟨zm37, (List.forall_mem_cons.mpr ⟨zm38, (List.forall_mem_cons.mpr ⟨zm39, (fun _ h => absurd h List.not_mem_nil)⟩)⟩)⟩)⟩)⟩)⟩)⟩)⟩)⟩)⟩)⟩)⟩)⟩)⟩)⟩)⟩)⟩)⟩)⟩)⟩)
def zMs2 : List zRec := [(yX3_about, cX3_about, 3, (some .int), zc40, 3, 1, 2), (yX3_figure, cX3_figure, 2, (some .int), zc41, 3, 3, 1), (yX3_overAll, cX3_overAll, 4, (some .int), zc42, 3, 2, 1), (yX3_spread, cX3_spread, 6, (some .int), zc43, 3, 2, 1), (yX4_init, cX4_init, 1, none, zc44, 4, 1, 0), (yX0_one, cX0_one, 2, (some .int), zc4, 0, 0, 2), (yX0_one, cX0_one, 2, (some .int), zc4, 0, 0, 2), (yX0_one, cX0_one, 2, (some .int), zc4, 0, 0, 2), (yX0_one, cX0_one, 2, (some .int), zc4, 0, 0, 2), (yX0_one, cX0_one, 2, (some .int), zc4, 0, 0, 2), (yX0_one, cX0_one, 2, (some .int), zc4, 0, 0, 2), (yX0_one, cX0_one, 2, (some .int), zc4, 0, 0, 2), (yX5_init, cX5_init, 1, none, zc52, 5, 4, 0), (yX5_come, cX5_come, 3, (some .int), zc53, 5, 4, 2), (yX5_leave, cX5_leave, 3, (some .int), zc54, 5, 4, 1), (yX5_wish, cX5_wish, 3, (some .int), zc55, 5, 4, 2), (yX5_setRule, cX5_setRule, 3, (some .int), zc56, 5, 4, 1), (yX5_setPatience, cX5_setPatience, 3, (some .int), zc57, 5, 4, 1), (yX5_grant, cX5_grant, 4, (some .int), zc58, 5, 4, 2), (yX5_drop, cX5_drop, 3, (some .int), zc59, 5, 4, 2)]
theorem zMs2_ok : ∀ r ∈ zMs2, zmOk r := (List.forall_mem_cons.mpr ⟨zm40, (List.forall_mem_cons.mpr ⟨zm41, (List.forall_mem_cons.mpr ⟨zm42, (List.forall_mem_cons.mpr ⟨zm43, (List.forall_mem_cons.mpr ⟨zm44, (List.forall_mem_cons.mpr ⟨zm4, (List.forall_mem_cons.mpr ⟨zm4, (List.forall_mem_cons.mpr ⟨zm4, (List.forall_mem_cons.mpr ⟨zm4, (List.forall_mem_cons.mpr ⟨zm4, (List.forall_mem_cons.mpr ⟨zm4, (List.forall_mem_cons.mpr ⟨zm4, (List.forall_mem_cons.mpr ⟨zm52, (List.forall_mem_cons.mpr ⟨zm53, (List.forall_mem_cons.mpr ⟨zm54, (List.forall_mem_cons.mpr ⟨zm55, (List.forall_mem_cons.mpr ⟨zm56, (List.forall_mem_cons.mpr ⟨zm57, (List.forall_mem_cons.mpr ⟨zm58, (List.forall_mem_cons.mpr ⟨zm59, (fun _ h => absurd h List.not_mem_nil)⟩)⟩)⟩)⟩)⟩)⟩)⟩)⟩)⟩)⟩)⟩)⟩)⟩)⟩)⟩)⟩)⟩)⟩)⟩)⟩)
def zMs3 : List zRec := [(yX5_round, cX5_round, 1, (some .int), zc60, 5, 4, 0), (yX5_divide, cX5_divide, 1, (some .int), zc61, 5, 5, 0), (yX5_swap, cX5_swap, 6, (some .int), zc62, 5, 4, 4), (yX5_settle, cX5_settle, 2, (some .int), zc63, 5, 5, 0), (yX5_heir, cX5_heir, 3, (some .int), zc64, 5, 2, 2), (yX5_bag, cX5_bag, 4, (some .int), zc65, 5, 3, 3), (yX5_hopper, cX5_hopper, 3, (some .int), zc66, 5, 2, 2), (yX5_vetoes, cX5_vetoes, 2, (some .int), zc67, 5, 1, 1), (yX5_at, cX5_at, 2, (some .int), zc68, 5, 0, 1), (yX5_total, cX5_total, 2, (some .int), zc69, 5, 4, 1), (yX5_ifDivided, cX5_ifDivided, 3, (some .int), zc70, 5, 5, 2), (yX5_fairestRule, cX5_fairestRule, 5, (some .int), zc71, 5, 6, 0), (yX5_whoVetoes, cX5_whoVetoes, 6, (some .int), zc72, 5, 4, 4), (yX5_bestSwap, cX5_bestSwap, 2, (some .int), zc73, 5, 5, 1), (yX0_one, cX0_one, 2, (some .int), zc4, 0, 0, 2), (yX0_one, cX0_one, 2, (some .int), zc4, 0, 0, 2), (yX0_one, cX0_one, 2, (some .int), zc4, 0, 0, 2), (yX0_one, cX0_one, 2, (some .int), zc4, 0, 0, 2), (yX5_undo, cX5_undo, 1, (some .int), zc78, 5, 4, 0), (yX0_one, cX0_one, 2, (some .int), zc4, 0, 0, 2)]
theorem zMs3_ok : ∀ r ∈ zMs3, zmOk r := (List.forall_mem_cons.mpr ⟨zm60, (List.forall_mem_cons.mpr ⟨zm61, (List.forall_mem_cons.mpr ⟨zm62, (List.forall_mem_cons.mpr ⟨zm63, (List.forall_mem_cons.mpr ⟨zm64, (List.forall_mem_cons.mpr ⟨zm65, (List.forall_mem_cons.mpr ⟨zm66, (List.forall_mem_cons.mpr ⟨zm67, (List.forall_mem_cons.mpr ⟨zm68, (List.forall_mem_cons.mpr ⟨zm69, (List.forall_mem_cons.mpr ⟨zm70, (List.forall_mem_cons.mpr ⟨zm71, (List.forall_mem_cons.mpr ⟨zm72, (List.forall_mem_cons.mpr ⟨zm73, (List.forall_mem_cons.mpr ⟨zm4, (List.forall_mem_cons.mpr ⟨zm4, (List.forall_mem_cons.mpr ⟨zm4, (List.forall_mem_cons.mpr ⟨zm4, (List.forall_mem_cons.mpr ⟨zm78, (List.forall_mem_cons.mpr ⟨zm4, (fun _ h => absurd h List.not_mem_nil)⟩)⟩)⟩)⟩)⟩)⟩)⟩)⟩)⟩)⟩)⟩)⟩)⟩)⟩)⟩)⟩)⟩)⟩)⟩)⟩)
def zMs4 : List zRec := [(yX5_restore, cX5_restore, 1, (some .int), zc80, 5, 4, 0), (yX5_isMother, cX5_isMother, 1, (some .boolean), zc81, 5, 0, 1), (yX5_isColour, cX5_isColour, 1, (some .boolean), zc82, 5, 0, 1), (yX5_moveBack, cX5_moveBack, 5, none, zc83, 5, 0, 3), (yX5_swapError, cX5_swapError, 5, (some .int), zc84, 5, 3, 4), (yX5_spreadUnder, cX5_spreadUnder, 2, (some .int), zc85, 5, 5, 1), (yL_low, cL_low, 2, (some .int), zc86, 7, 0, 2), (yL_drops, cL_drops, 7, (some .boolean), zc87, 7, 5, 3), (yL_rounds, cL_rounds, 11, (some .boolean), zc88, 7, 5, 2), (yL_divides, cL_divides, 9, (some .boolean), zc89, 7, 7, 2), (yL_swaps, cL_swaps, 18, (some .boolean), zc90, 7, 5, 5), (yL_isBest, cL_isBest, 15, (some .boolean), zc91, 7, 6, 1), (yL_isFair, cL_isFair, 6, (some .boolean), zc92, 7, 7, 1), (yL_holds, cL_holds, 16, (some .boolean), zc93, 7, 7, 1), (yL_change, cL_change, 15, (some .boolean), zc94, 7, 8, 4), (yL_cell, cL_cell, 2, (some .int), zc95, 7, 0, 2)]
theorem zMs4_ok : ∀ r ∈ zMs4, zmOk r := (List.forall_mem_cons.mpr ⟨zm80, (List.forall_mem_cons.mpr ⟨zm81, (List.forall_mem_cons.mpr ⟨zm82, (List.forall_mem_cons.mpr ⟨zm83, (List.forall_mem_cons.mpr ⟨zm84, (List.forall_mem_cons.mpr ⟨zm85, (List.forall_mem_cons.mpr ⟨zm86, (List.forall_mem_cons.mpr ⟨zm87, (List.forall_mem_cons.mpr ⟨zm88, (List.forall_mem_cons.mpr ⟨zm89, (List.forall_mem_cons.mpr ⟨zm90, (List.forall_mem_cons.mpr ⟨zm91, (List.forall_mem_cons.mpr ⟨zm92, (List.forall_mem_cons.mpr ⟨zm93, (List.forall_mem_cons.mpr ⟨zm94, (List.forall_mem_cons.mpr ⟨zm95, (fun _ h => absurd h List.not_mem_nil)⟩)⟩)⟩)⟩)⟩)⟩)⟩)⟩)⟩)⟩)⟩)⟩)⟩)⟩)⟩)⟩)
theorem zms_eq : zMs = (zMs0 ++ zMs1 ++ zMs2 ++ zMs3 ++ zMs4) ++ zMs.drop 96 := by rfl
theorem zms_ok {mi : Nat} {r : zRec} (hm : mi < 96) (h : zMs[mi]? = some r) : zmOk r := by
  rw [zms_eq, List.getElem?_append_left (by exact hm)] at h
  exact (zz_all (zz_all (zz_all (zz_all zMs0_ok zMs1_ok) zMs2_ok) zMs3_ok) zMs4_ok) r (List.mem_of_getElem? h)
end
section
def zNW : List Cond := [(Jvm.Cond.methodLinkNest "MarbleHeirs$State" (11 : Nat) ({ cls := "MarbleHeirs$Marbles", name := "<init>", desc := "()V" } : Jvm.MethodName) "MarbleHeirs"), (Jvm.Cond.methodLinkNest "MarbleHeirs" (35 : Nat) ({ cls := "MarbleHeirs$Text", name := "<init>", desc := "()V" } : Jvm.MethodName) "MarbleHeirs"), (Jvm.Cond.methodLinkNest "MarbleHeirs" (42 : Nat) ({ cls := "MarbleHeirs$BestSwap", name := "<init>", desc := "()V" } : Jvm.MethodName) "MarbleHeirs"), (Jvm.Cond.methodLinkNest "MarbleHeirs$Marbles" (39 : Nat) ({ cls := "MarbleHeirs", name := "moveBack", desc := "([III)V" } : Jvm.MethodName) "MarbleHeirs"), (Jvm.Cond.methodLinkNest "MarbleHeirs$State" (76 : Nat) ({ cls := "MarbleHeirs", name := "moveBack", desc := "([III)V" } : Jvm.MethodName) "MarbleHeirs")]
set_option maxRecDepth 20000 in
theorem zNW_in : ∀ w ∈ zNW, w ∈ lw_tbl := (List.forall_mem_cons.mpr ⟨(zz_t1 (i := 25) rfl), (List.forall_mem_cons.mpr ⟨(zz_t1 (i := 100) rfl), (List.forall_mem_cons.mpr ⟨(zz_t1 (i := 113) rfl), (List.forall_mem_cons.mpr ⟨(zz_t2 (i := 46) rfl), (List.forall_mem_cons.mpr ⟨(zz_t2 (i := 49) rfl), (fun _ h => absurd h List.not_mem_nil)⟩)⟩)⟩)⟩)⟩)
def zcOk (e : Nat × Nat × Nat × Nat) : Prop := match e.2.2.1 with
  | 0 => ∃ r, zMs[e.2.2.2]? = some r ∧ Cond.methodLink (zcn e.1) e.2.1 r.1 ∈ zGW ∧ Cond.instanceMethod r.1 ∈ zGW ∧ Cond.selects r.1.cls r.1 r.1 ∈ zGW
  | 1 => ∃ r, zMs[e.2.2.2]? = some r ∧ Cond.methodLink (zcn e.1) e.2.1 r.1 ∈ zGW ∧ Cond.static r.1 ∈ zGW
  | 2 => ∃ r, zMs[e.2.2.2]? = some r ∧ Cond.methodLink (zcn e.1) e.2.1 r.1 ∈ zGW ∧ Cond.instanceMethod r.1 ∈ zGW ∧ r.1.name = "<init>" ∧ r.2.2.2.1 = none
  | 3 => ∃ r, zMs[e.2.2.2]? = some r ∧ Cond.methodLinkNest (zcn e.1) e.2.1 r.1 RX5 ∈ zNW ∧ Cond.instanceMethod r.1 ∈ zGW ∧ r.1.name = "<init>" ∧ r.2.2.2.1 = none
  | 4 => ∃ r, zMs[e.2.2.2]? = some r ∧ Cond.methodLinkNest (zcn e.1) e.2.1 r.1 RX5 ∈ zNW ∧ Cond.static r.1 ∈ zGW
  | 5 => Cond.methodLink (zcn e.1) e.2.1 objectInit ∈ zGW
  | 6 => Cond.methodLink (zcn e.1) e.2.1 arraycopyName ∈ zGW
  | 7 => Cond.methodLink (zcn e.1) e.2.1 Lib.Math.max.name ∈ zGW
  | 8 => Cond.methodLink (zcn e.1) e.2.1 Lib.Math.min.name ∈ zGW
  | 9 => Cond.methodLink (zcn e.1) e.2.1 Lib.Math.abs.name ∈ zGW
  | _ => False
set_option maxRecDepth 20000 in
theorem zk0 : zcOk (7, 106, 2, 52) := ⟨_, rfl, (zz_g (zz_t1 (i := 11) rfl) rfl), (zz_g (zz_t1 (i := 12) rfl) rfl), rfl, rfl⟩
set_option maxRecDepth 20000 in
theorem zk1 : zcOk (5, 3, 5, 0) := (zz_g (zz_t1 (i := 14) rfl) rfl)
set_option maxRecDepth 20000 in
theorem zk2 : zcOk (5, 11, 2, 24) := ⟨_, rfl, (zz_g (zz_t1 (i := 19) rfl) rfl), (zz_g (zz_t1 (i := 20) rfl) rfl), rfl, rfl⟩
set_option maxRecDepth 20000 in
theorem zk3 : zcOk (3, 3, 5, 0) := (zz_g (zz_t1 (i := 22) rfl) rfl)
set_option maxRecDepth 20000 in
theorem zk4 : zcOk (3, 11, 3, 6) := ⟨_, rfl, (List.mem_of_getElem? (i := 0) rfl), (zz_g (zz_t1 (i := 26) rfl) rfl), rfl, rfl⟩
set_option maxRecDepth 20000 in
theorem zk5 : zcOk (1, 3, 5, 0) := (zz_g (zz_t1 (i := 28) rfl) rfl)
set_option maxRecDepth 20000 in
theorem zk6 : zcOk (5, 28, 2, 20) := ⟨_, rfl, (zz_g (zz_t1 (i := 83) rfl) rfl), (zz_g (zz_t1 (i := 84) rfl) rfl), rfl, rfl⟩
set_option maxRecDepth 20000 in
theorem zk7 : zcOk (2, 3, 5, 0) := (zz_g (zz_t1 (i := 86) rfl) rfl)
set_option maxRecDepth 20000 in
theorem zk8 : zcOk (2, 21, 2, 24) := ⟨_, rfl, (zz_g (zz_t1 (i := 89) rfl) rfl), (zz_g (zz_t1 (i := 20) rfl) rfl), rfl, rfl⟩
set_option maxRecDepth 20000 in
theorem zk9 : zcOk (5, 35, 3, 44) := ⟨_, rfl, (List.mem_of_getElem? (i := 1) rfl), (zz_g (zz_t1 (i := 101) rfl) rfl), rfl, rfl⟩
set_option maxRecDepth 20000 in
theorem zk10 : zcOk (4, 3, 5, 0) := (zz_g (zz_t1 (i := 103) rfl) rfl)
set_option maxRecDepth 20000 in
theorem zk11 : zcOk (5, 42, 3, 0) := ⟨_, rfl, (List.mem_of_getElem? (i := 2) rfl), (zz_g (zz_t1 (i := 114) rfl) rfl), rfl, rfl⟩
set_option maxRecDepth 20000 in
theorem zk12 : zcOk (0, 3, 5, 0) := (zz_g (zz_t1 (i := 116) rfl) rfl)
set_option maxRecDepth 20000 in
theorem zk13 : zcOk (7, 9, 0, 69) := ⟨_, rfl, (zz_g (zz_t1 (i := 163) rfl) rfl), (zz_g (zz_t1 (i := 164) rfl) rfl), (zz_g (zz_t1 (i := 165) rfl) rfl)⟩
set_option maxRecDepth 20000 in
theorem zk14 : zcOk (5, 159, 0, 41) := ⟨_, rfl, (zz_g (zz_t1 (i := 167) rfl) rfl), (zz_g (zz_t1 (i := 168) rfl) rfl), (zz_g (zz_t1 (i := 169) rfl) rfl)⟩
set_option maxRecDepth 20000 in
theorem zk15 : zcOk (3, 80, 0, 8) := ⟨_, rfl, (zz_g (zz_t1 (i := 171) rfl) rfl), (zz_g (zz_t1 (i := 172) rfl) rfl), (zz_g (zz_t1 (i := 173) rfl) rfl)⟩
set_option maxRecDepth 20000 in
theorem zk16 : zcOk (3, 128, 0, 42) := ⟨_, rfl, (zz_g (zz_t1 (i := 175) rfl) rfl), (zz_g (zz_t1 (i := 177) rfl) rfl), (zz_g (zz_p (i := 0) rfl) rfl)⟩
set_option maxRecDepth 20000 in
theorem zk17 : zcOk (3, 134, 0, 40) := ⟨_, rfl, (zz_g (zz_t1 (i := 179) rfl) rfl), (zz_g (zz_t1 (i := 180) rfl) rfl), (zz_g (zz_t1 (i := 181) rfl) rfl)⟩
set_option maxRecDepth 20000 in
theorem zk18 : zcOk (3, 105, 0, 13) := ⟨_, rfl, (zz_g (zz_t1 (i := 183) rfl) rfl), (zz_g (zz_t1 (i := 184) rfl) rfl), (zz_g (zz_t1 (i := 185) rfl) rfl)⟩
set_option maxRecDepth 20000 in
theorem zk19 : zcOk (3, 125, 0, 14) := ⟨_, rfl, (zz_g (zz_t1 (i := 187) rfl) rfl), (zz_g (zz_t1 (i := 188) rfl) rfl), (zz_g (zz_t1 (i := 189) rfl) rfl)⟩
set_option maxRecDepth 20000 in
theorem zk20 : zcOk (3, 72, 0, 30) := ⟨_, rfl, (zz_g (zz_t1 (i := 191) rfl) rfl), (zz_g (zz_t1 (i := 193) rfl) rfl), (zz_g (zz_p (i := 1) rfl) rfl)⟩
set_option maxRecDepth 20000 in
theorem zk21 : zcOk (3, 131, 0, 43) := ⟨_, rfl, (zz_g (zz_t1 (i := 195) rfl) rfl), (zz_g (zz_t1 (i := 196) rfl) rfl), (zz_g (zz_t1 (i := 197) rfl) rfl)⟩
set_option maxRecDepth 20000 in
theorem zk22 : zcOk (3, 87, 8, 0) := (zz_g (zz_t1 (i := 199) rfl) rfl)
set_option maxRecDepth 20000 in
theorem zk23 : zcOk (3, 137, 7, 0) := (zz_g (zz_t1 (i := 202) rfl) rfl)
set_option maxRecDepth 20000 in
theorem zk24 : zcOk (7, 103, 0, 78) := ⟨_, rfl, (zz_g (zz_t1 (i := 205) rfl) rfl), (zz_g (zz_t1 (i := 206) rfl) rfl), (zz_g (zz_t1 (i := 207) rfl) rfl)⟩
set_option maxRecDepth 20000 in
theorem zk25 : zcOk (5, 188, 0, 23) := ⟨_, rfl, (zz_g (zz_t1 (i := 209) rfl) rfl), (zz_g (zz_t1 (i := 210) rfl) rfl), (zz_g (zz_t1 (i := 211) rfl) rfl)⟩
set_option maxRecDepth 20000 in
theorem zk26 : zcOk (2, 25, 0, 25) := ⟨_, rfl, (zz_g (zz_t1 (i := 213) rfl) rfl), (zz_g (zz_t1 (i := 214) rfl) rfl), (zz_g (zz_t1 (i := 215) rfl) rfl)⟩
set_option maxRecDepth 20000 in
theorem zk27 : zcOk (3, 50, 0, 7) := ⟨_, rfl, (zz_g (zz_t1 (i := 217) rfl) rfl), (zz_g (zz_t1 (i := 218) rfl) rfl), (zz_g (zz_t1 (i := 219) rfl) rfl)⟩
set_option maxRecDepth 20000 in
theorem zk28 : zcOk (1, 18, 6, 0) := (zz_g (zz_t1 (i := 221) rfl) rfl)
set_option maxRecDepth 20000 in
theorem zk29 : zcOk (3, 54, 6, 0) := (zz_g (zz_t1 (i := 224) rfl) rfl)
set_option maxRecDepth 20000 in
theorem zk30 : zcOk (7, 110, 0, 80) := ⟨_, rfl, (zz_g (zz_t1 (i := 225) rfl) rfl), (zz_g (zz_t1 (i := 226) rfl) rfl), (zz_g (zz_t1 (i := 227) rfl) rfl)⟩
set_option maxRecDepth 20000 in
theorem zk31 : zcOk (5, 58, 0, 21) := ⟨_, rfl, (zz_g (zz_t1 (i := 229) rfl) rfl), (zz_g (zz_t1 (i := 230) rfl) rfl), (zz_g (zz_t1 (i := 231) rfl) rfl)⟩
set_option maxRecDepth 20000 in
theorem zk32 : zcOk (2, 22, 0, 22) := ⟨_, rfl, (zz_g (zz_t1 (i := 233) rfl) rfl), (zz_g (zz_t1 (i := 235) rfl) rfl), (zz_g (zz_p (i := 2) rfl) rfl)⟩
set_option maxRecDepth 20000 in
theorem zk33 : zcOk (5, 162, 0, 25) := ⟨_, rfl, (zz_g (zz_t1 (i := 237) rfl) rfl), (zz_g (zz_t1 (i := 214) rfl) rfl), (zz_g (zz_t1 (i := 215) rfl) rfl)⟩
set_option maxRecDepth 20000 in
theorem zk34 : zcOk (7, 113, 1, 95) := ⟨_, rfl, (zz_g (zz_t1 (i := 238) rfl) rfl), (zz_g (zz_t1 (i := 239) rfl) rfl)⟩
set_option maxRecDepth 20000 in
theorem zk35 : zcOk (7, 15, 1, 86) := ⟨_, rfl, (zz_g (zz_t2 (i := 2) rfl) rfl), (zz_g (zz_t2 (i := 3) rfl) rfl)⟩
set_option maxRecDepth 20000 in
theorem zk36 : zcOk (7, 117, 1, 94) := ⟨_, rfl, (zz_g (zz_t2 (i := 6) rfl) rfl), (zz_g (zz_t2 (i := 7) rfl) rfl)⟩
set_option maxRecDepth 20000 in
theorem zk37 : zcOk (7, 21, 0, 53) := ⟨_, rfl, (zz_g (zz_t2 (i := 9) rfl) rfl), (zz_g (zz_t2 (i := 10) rfl) rfl), (zz_g (zz_t2 (i := 11) rfl) rfl)⟩
set_option maxRecDepth 20000 in
theorem zk38 : zcOk (5, 47, 1, 81) := ⟨_, rfl, (zz_g (zz_t2 (i := 13) rfl) rfl), (zz_g (zz_t2 (i := 14) rfl) rfl)⟩
set_option maxRecDepth 20000 in
theorem zk39 : zcOk (5, 51, 1, 82) := ⟨_, rfl, (zz_g (zz_t2 (i := 16) rfl) rfl), (zz_g (zz_t2 (i := 17) rfl) rfl)⟩
set_option maxRecDepth 20000 in
theorem zk40 : zcOk (5, 62, 0, 28) := ⟨_, rfl, (zz_g (zz_t2 (i := 19) rfl) rfl), (zz_g (zz_t2 (i := 20) rfl) rfl), (zz_g (zz_t2 (i := 21) rfl) rfl)⟩
set_option maxRecDepth 20000 in
theorem zk41 : zcOk (7, 24, 0, 64) := ⟨_, rfl, (zz_g (zz_t2 (i := 23) rfl) rfl), (zz_g (zz_t2 (i := 24) rfl) rfl), (zz_g (zz_t2 (i := 25) rfl) rfl)⟩
set_option maxRecDepth 20000 in
theorem zk42 : zcOk (5, 66, 0, 26) := ⟨_, rfl, (zz_g (zz_t2 (i := 27) rfl) rfl), (zz_g (zz_t2 (i := 28) rfl) rfl), (zz_g (zz_t2 (i := 29) rfl) rfl)⟩
set_option maxRecDepth 20000 in
theorem zk43 : zcOk (5, 143, 0, 40) := ⟨_, rfl, (zz_g (zz_t2 (i := 31) rfl) rfl), (zz_g (zz_t1 (i := 180) rfl) rfl), (zz_g (zz_t1 (i := 181) rfl) rfl)⟩
set_option maxRecDepth 20000 in
theorem zk44 : zcOk (7, 27, 0, 54) := ⟨_, rfl, (zz_g (zz_t2 (i := 32) rfl) rfl), (zz_g (zz_t2 (i := 33) rfl) rfl), (zz_g (zz_t2 (i := 34) rfl) rfl)⟩
set_option maxRecDepth 20000 in
theorem zk45 : zcOk (5, 73, 0, 8) := ⟨_, rfl, (zz_g (zz_t2 (i := 36) rfl) rfl), (zz_g (zz_t1 (i := 172) rfl) rfl), (zz_g (zz_t1 (i := 173) rfl) rfl)⟩
set_option maxRecDepth 20000 in
theorem zk46 : zcOk (5, 79, 0, 29) := ⟨_, rfl, (zz_g (zz_t2 (i := 37) rfl) rfl), (zz_g (zz_t2 (i := 38) rfl) rfl), (zz_g (zz_t2 (i := 39) rfl) rfl)⟩
set_option maxRecDepth 20000 in
theorem zk47 : zcOk (3, 68, 0, 19) := ⟨_, rfl, (zz_g (zz_t2 (i := 41) rfl) rfl), (zz_g (zz_t2 (i := 42) rfl) rfl), (zz_g (zz_t2 (i := 43) rfl) rfl)⟩
set_option maxRecDepth 20000 in
theorem zk48 : zcOk (1, 24, 0, 8) := ⟨_, rfl, (zz_g (zz_t2 (i := 45) rfl) rfl), (zz_g (zz_t1 (i := 172) rfl) rfl), (zz_g (zz_t1 (i := 173) rfl) rfl)⟩
set_option maxRecDepth 20000 in
theorem zk49 : zcOk (1, 39, 4, 83) := ⟨_, rfl, (List.mem_of_getElem? (i := 3) rfl), (zz_g (zz_t2 (i := 47) rfl) rfl)⟩
set_option maxRecDepth 20000 in
theorem zk50 : zcOk (3, 76, 4, 83) := ⟨_, rfl, (List.mem_of_getElem? (i := 4) rfl), (zz_g (zz_t2 (i := 47) rfl) rfl)⟩
set_option maxRecDepth 20000 in
theorem zk51 : zcOk (7, 30, 0, 55) := ⟨_, rfl, (zz_g (zz_t2 (i := 50) rfl) rfl), (zz_g (zz_t2 (i := 51) rfl) rfl), (zz_g (zz_t2 (i := 52) rfl) rfl)⟩
set_option maxRecDepth 20000 in
theorem zk52 : zcOk (5, 87, 0, 14) := ⟨_, rfl, (zz_g (zz_t2 (i := 54) rfl) rfl), (zz_g (zz_t1 (i := 188) rfl) rfl), (zz_g (zz_t1 (i := 189) rfl) rfl)⟩
set_option maxRecDepth 20000 in
theorem zk53 : zcOk (7, 33, 0, 56) := ⟨_, rfl, (zz_g (zz_t2 (i := 55) rfl) rfl), (zz_g (zz_t2 (i := 56) rfl) rfl), (zz_g (zz_t2 (i := 57) rfl) rfl)⟩
set_option maxRecDepth 20000 in
theorem zk54 : zcOk (7, 36, 0, 57) := ⟨_, rfl, (zz_g (zz_t2 (i := 59) rfl) rfl), (zz_g (zz_t2 (i := 60) rfl) rfl), (zz_g (zz_t2 (i := 61) rfl) rfl)⟩
set_option maxRecDepth 20000 in
theorem zk55 : zcOk (7, 39, 0, 67) := ⟨_, rfl, (zz_g (zz_t2 (i := 63) rfl) rfl), (zz_g (zz_t2 (i := 64) rfl) rfl), (zz_g (zz_t2 (i := 65) rfl) rfl)⟩
set_option maxRecDepth 20000 in
theorem zk56 : zcOk (7, 42, 0, 58) := ⟨_, rfl, (zz_g (zz_t2 (i := 67) rfl) rfl), (zz_g (zz_t2 (i := 68) rfl) rfl), (zz_g (zz_t2 (i := 69) rfl) rfl)⟩
set_option maxRecDepth 20000 in
theorem zk57 : zcOk (7, 45, 1, 87) := ⟨_, rfl, (zz_g (zz_t2 (i := 71) rfl) rfl), (zz_g (zz_t2 (i := 72) rfl) rfl)⟩
set_option maxRecDepth 20000 in
theorem zk58 : zcOk (7, 67, 0, 59) := ⟨_, rfl, (zz_g (zz_t2 (i := 74) rfl) rfl), (zz_g (zz_t2 (i := 75) rfl) rfl), (zz_g (zz_t2 (i := 76) rfl) rfl)⟩
set_option maxRecDepth 20000 in
theorem zk59 : zcOk (5, 99, 0, 15) := ⟨_, rfl, (zz_g (zz_t2 (i := 78) rfl) rfl), (zz_g (zz_t2 (i := 79) rfl) rfl), (zz_g (zz_t2 (i := 80) rfl) rfl)⟩
set_option maxRecDepth 20000 in
theorem zk60 : zcOk (5, 103, 0, 16) := ⟨_, rfl, (zz_g (zz_t2 (i := 82) rfl) rfl), (zz_g (zz_t2 (i := 83) rfl) rfl), (zz_g (zz_t2 (i := 84) rfl) rfl)⟩
set_option maxRecDepth 20000 in
theorem zk61 : zcOk (1, 35, 0, 15) := ⟨_, rfl, (zz_g (zz_t2 (i := 86) rfl) rfl), (zz_g (zz_t2 (i := 79) rfl) rfl), (zz_g (zz_t2 (i := 80) rfl) rfl)⟩
set_option maxRecDepth 20000 in
theorem zk62 : zcOk (7, 70, 0, 66) := ⟨_, rfl, (zz_g (zz_t2 (i := 87) rfl) rfl), (zz_g (zz_t2 (i := 88) rfl) rfl), (zz_g (zz_t2 (i := 89) rfl) rfl)⟩
set_option maxRecDepth 20000 in
theorem zk63 : zcOk (5, 153, 0, 9) := ⟨_, rfl, (zz_g (zz_t2 (i := 91) rfl) rfl), (zz_g (zz_t2 (i := 92) rfl) rfl), (zz_g (zz_t2 (i := 93) rfl) rfl)⟩
set_option maxRecDepth 20000 in
theorem zk64 : zcOk (5, 149, 0, 12) := ⟨_, rfl, (zz_g (zz_t2 (i := 95) rfl) rfl), (zz_g (zz_t2 (i := 96) rfl) rfl), (zz_g (zz_t2 (i := 97) rfl) rfl)⟩
set_option maxRecDepth 20000 in
theorem zk65 : zcOk (1, 28, 0, 10) := ⟨_, rfl, (zz_g (zz_t2 (i := 99) rfl) rfl), (zz_g (zz_t2 (i := 100) rfl) rfl), (zz_g (zz_t2 (i := 101) rfl) rfl)⟩
set_option maxRecDepth 20000 in
theorem zk66 : zcOk (1, 32, 0, 11) := ⟨_, rfl, (zz_g (zz_t2 (i := 103) rfl) rfl), (zz_g (zz_t2 (i := 104) rfl) rfl), (zz_g (zz_t2 (i := 105) rfl) rfl)⟩
set_option maxRecDepth 20000 in
theorem zk67 : zcOk (7, 49, 1, 88) := ⟨_, rfl, (zz_g (zz_t2 (i := 107) rfl) rfl), (zz_g (zz_t2 (i := 108) rfl) rfl)⟩
set_option maxRecDepth 20000 in
theorem zk68 : zcOk (7, 73, 0, 60) := ⟨_, rfl, (zz_g (zz_t2 (i := 110) rfl) rfl), (zz_g (zz_t2 (i := 111) rfl) rfl), (zz_g (zz_t2 (i := 112) rfl) rfl)⟩
set_option maxRecDepth 20000 in
theorem zk69 : zcOk (5, 107, 0, 32) := ⟨_, rfl, (zz_g (zz_t2 (i := 114) rfl) rfl), (zz_g (zz_t2 (i := 115) rfl) rfl), (zz_g (zz_t2 (i := 116) rfl) rfl)⟩
set_option maxRecDepth 20000 in
theorem zk70 : zcOk (3, 93, 0, 34) := ⟨_, rfl, (zz_g (zz_t2 (i := 118) rfl) rfl), (zz_g (zz_t2 (i := 120) rfl) rfl), (zz_g (zz_p (i := 3) rfl) rfl)⟩
set_option maxRecDepth 20000 in
theorem zk71 : zcOk (3, 102, 0, 35) := ⟨_, rfl, (zz_g (zz_t2 (i := 122) rfl) rfl), (zz_g (zz_t2 (i := 124) rfl) rfl), (zz_g (zz_p (i := 4) rfl) rfl)⟩
set_option maxRecDepth 20000 in
theorem zk72 : zcOk (3, 99, 0, 17) := ⟨_, rfl, (zz_g (zz_t2 (i := 126) rfl) rfl), (zz_g (zz_t2 (i := 127) rfl) rfl), (zz_g (zz_t2 (i := 128) rfl) rfl)⟩
set_option maxRecDepth 20000 in
theorem zk73 : zcOk (3, 96, 0, 33) := ⟨_, rfl, (zz_g (zz_t2 (i := 130) rfl) rfl), (zz_g (zz_t2 (i := 132) rfl) rfl), (zz_g (zz_p (i := 5) rfl) rfl)⟩
set_option maxRecDepth 20000 in
theorem zk74 : zcOk (7, 76, 0, 68) := ⟨_, rfl, (zz_g (zz_t2 (i := 134) rfl) rfl), (zz_g (zz_t2 (i := 135) rfl) rfl), (zz_g (zz_t2 (i := 136) rfl) rfl)⟩
set_option maxRecDepth 20000 in
theorem zk75 : zcOk (7, 79, 0, 65) := ⟨_, rfl, (zz_g (zz_t2 (i := 138) rfl) rfl), (zz_g (zz_t2 (i := 139) rfl) rfl), (zz_g (zz_t2 (i := 140) rfl) rfl)⟩
set_option maxRecDepth 20000 in
theorem zk76 : zcOk (5, 146, 0, 27) := ⟨_, rfl, (zz_g (zz_t2 (i := 142) rfl) rfl), (zz_g (zz_t2 (i := 143) rfl) rfl), (zz_g (zz_t2 (i := 144) rfl) rfl)⟩
set_option maxRecDepth 20000 in
theorem zk77 : zcOk (3, 60, 0, 26) := ⟨_, rfl, (zz_g (zz_t2 (i := 146) rfl) rfl), (zz_g (zz_t2 (i := 28) rfl) rfl), (zz_g (zz_t2 (i := 29) rfl) rfl)⟩
set_option maxRecDepth 20000 in
theorem zk78 : zcOk (3, 64, 0, 9) := ⟨_, rfl, (zz_g (zz_t2 (i := 147) rfl) rfl), (zz_g (zz_t2 (i := 92) rfl) rfl), (zz_g (zz_t2 (i := 93) rfl) rfl)⟩
set_option maxRecDepth 20000 in
theorem zk79 : zcOk (7, 53, 1, 89) := ⟨_, rfl, (zz_g (zz_t2 (i := 148) rfl) rfl), (zz_g (zz_t2 (i := 149) rfl) rfl)⟩
set_option maxRecDepth 20000 in
theorem zk80 : zcOk (7, 83, 0, 61) := ⟨_, rfl, (zz_g (zz_t2 (i := 151) rfl) rfl), (zz_g (zz_t2 (i := 152) rfl) rfl), (zz_g (zz_t2 (i := 153) rfl) rfl)⟩
set_option maxRecDepth 20000 in
theorem zk81 : zcOk (5, 111, 0, 31) := ⟨_, rfl, (zz_g (zz_t2 (i := 155) rfl) rfl), (zz_g (zz_t2 (i := 156) rfl) rfl), (zz_g (zz_t2 (i := 157) rfl) rfl)⟩
set_option maxRecDepth 20000 in
theorem zk82 : zcOk (3, 83, 0, 32) := ⟨_, rfl, (zz_g (zz_t2 (i := 159) rfl) rfl), (zz_g (zz_t2 (i := 115) rfl) rfl), (zz_g (zz_t2 (i := 116) rfl) rfl)⟩
set_option maxRecDepth 20000 in
theorem zk83 : zcOk (7, 86, 0, 71) := ⟨_, rfl, (zz_g (zz_t2 (i := 160) rfl) rfl), (zz_g (zz_t2 (i := 161) rfl) rfl), (zz_g (zz_t2 (i := 162) rfl) rfl)⟩
set_option maxRecDepth 20000 in
theorem zk84 : zcOk (5, 165, 0, 85) := ⟨_, rfl, (zz_g (zz_t2 (i := 164) rfl) rfl), (zz_g (zz_t2 (i := 166) rfl) rfl), (zz_g (zz_p (i := 6) rfl) rfl)⟩
set_option maxRecDepth 20000 in
theorem zk85 : zcOk (5, 191, 0, 43) := ⟨_, rfl, (zz_g (zz_t2 (i := 168) rfl) rfl), (zz_g (zz_t1 (i := 196) rfl) rfl), (zz_g (zz_t1 (i := 197) rfl) rfl)⟩
set_option maxRecDepth 20000 in
theorem zk86 : zcOk (7, 89, 0, 70) := ⟨_, rfl, (zz_g (zz_t2 (i := 169) rfl) rfl), (zz_g (zz_t2 (i := 170) rfl) rfl), (zz_g (zz_t2 (i := 171) rfl) rfl)⟩
set_option maxRecDepth 20000 in
theorem zk87 : zcOk (7, 56, 1, 90) := ⟨_, rfl, (zz_g (zz_t2 (i := 173) rfl) rfl), (zz_g (zz_t2 (i := 174) rfl) rfl)⟩
set_option maxRecDepth 20000 in
theorem zk88 : zcOk (7, 92, 0, 72) := ⟨_, rfl, (zz_g (zz_t2 (i := 176) rfl) rfl), (zz_g (zz_t2 (i := 177) rfl) rfl), (zz_g (zz_t2 (i := 178) rfl) rfl)⟩
set_option maxRecDepth 20000 in
theorem zk89 : zcOk (5, 114, 0, 84) := ⟨_, rfl, (zz_g (zz_t2 (i := 180) rfl) rfl), (zz_g (zz_t2 (i := 182) rfl) rfl), (zz_g (zz_p (i := 7) rfl) rfl)⟩
set_option maxRecDepth 20000 in
theorem zk90 : zcOk (5, 168, 0, 38) := ⟨_, rfl, (zz_g (zz_t2 (i := 184) rfl) rfl), (zz_g (zz_t2 (i := 185) rfl) rfl), (zz_g (zz_t2 (i := 186) rfl) rfl)⟩
set_option maxRecDepth 20000 in
theorem zk91 : zcOk (3, 119, 0, 11) := ⟨_, rfl, (zz_g (zz_t2 (i := 188) rfl) rfl), (zz_g (zz_t2 (i := 104) rfl) rfl), (zz_g (zz_t2 (i := 105) rfl) rfl)⟩
set_option maxRecDepth 20000 in
theorem zk92 : zcOk (3, 122, 0, 39) := ⟨_, rfl, (zz_g (zz_t2 (i := 189) rfl) rfl), (zz_g (zz_t2 (i := 191) rfl) rfl), (zz_g (zz_p (i := 8) rfl) rfl)⟩
set_option maxRecDepth 20000 in
theorem zk93 : zcOk (7, 96, 0, 62) := ⟨_, rfl, (zz_g (zz_t2 (i := 193) rfl) rfl), (zz_g (zz_t2 (i := 194) rfl) rfl), (zz_g (zz_t2 (i := 195) rfl) rfl)⟩
set_option maxRecDepth 20000 in
theorem zk94 : zcOk (5, 118, 0, 36) := ⟨_, rfl, (zz_g (zz_t2 (i := 197) rfl) rfl), (zz_g (zz_t2 (i := 198) rfl) rfl), (zz_g (zz_t2 (i := 199) rfl) rfl)⟩
set_option maxRecDepth 20000 in
theorem zk95 : zcOk (3, 108, 0, 38) := ⟨_, rfl, (zz_g (zz_t2 (i := 201) rfl) rfl), (zz_g (zz_t2 (i := 185) rfl) rfl), (zz_g (zz_t2 (i := 186) rfl) rfl)⟩
set_option maxRecDepth 20000 in
theorem zk96 : zcOk (3, 112, 0, 37) := ⟨_, rfl, (zz_g (zz_t2 (i := 202) rfl) rfl), (zz_g (zz_t2 (i := 203) rfl) rfl), (zz_g (zz_t2 (i := 204) rfl) rfl)⟩
set_option maxRecDepth 20000 in
theorem zk97 : zcOk (3, 116, 0, 18) := ⟨_, rfl, (zz_g (zz_t2 (i := 206) rfl) rfl), (zz_g (zz_t2 (i := 207) rfl) rfl), (zz_g (zz_t2 (i := 208) rfl) rfl)⟩
set_option maxRecDepth 20000 in
theorem zk98 : zcOk (7, 60, 0, 63) := ⟨_, rfl, (zz_g (zz_t2 (i := 210) rfl) rfl), (zz_g (zz_t2 (i := 211) rfl) rfl), (zz_g (zz_t2 (i := 212) rfl) rfl)⟩
set_option maxRecDepth 20000 in
theorem zk99 : zcOk (5, 121, 0, 2) := ⟨_, rfl, (zz_g (zz_t2 (i := 214) rfl) rfl), (zz_g (zz_t2 (i := 215) rfl) rfl), (zz_g (zz_t2 (i := 216) rfl) rfl)⟩
set_option maxRecDepth 20000 in
theorem zk100 : zcOk (0, 39, 0, 8) := ⟨_, rfl, (zz_g (zz_t2 (i := 218) rfl) rfl), (zz_g (zz_t1 (i := 172) rfl) rfl), (zz_g (zz_t1 (i := 173) rfl) rfl)⟩
set_option maxRecDepth 20000 in
theorem zk101 : zcOk (0, 45, 0, 3) := ⟨_, rfl, (zz_g (zz_t2 (i := 219) rfl) rfl), (zz_g (zz_t2 (i := 221) rfl) rfl), (zz_g (zz_p (i := 9) rfl) rfl)⟩
set_option maxRecDepth 20000 in
theorem zk102 : zcOk (0, 49, 0, 10) := ⟨_, rfl, (zz_g (zz_t2 (i := 223) rfl) rfl), (zz_g (zz_t2 (i := 100) rfl) rfl), (zz_g (zz_t2 (i := 101) rfl) rfl)⟩
set_option maxRecDepth 20000 in
theorem zk103 : zcOk (0, 57, 1, 4) := ⟨_, rfl, (zz_g (zz_t2 (i := 224) rfl) rfl), (zz_g (zz_t2 (i := 225) rfl) rfl)⟩
set_option maxRecDepth 20000 in
theorem zk104 : zcOk (0, 60, 7, 0) := (zz_g (zz_t2 (i := 227) rfl) rfl)
set_option maxRecDepth 20000 in
theorem zk105 : zcOk (0, 65, 0, 5) := ⟨_, rfl, (zz_g (zz_t2 (i := 228) rfl) rfl), (zz_g (zz_t2 (i := 230) rfl) rfl), (zz_g (zz_p (i := 10) rfl) rfl)⟩
set_option maxRecDepth 20000 in
theorem zk106 : zcOk (0, 69, 0, 11) := ⟨_, rfl, (zz_g (zz_t2 (i := 232) rfl) rfl), (zz_g (zz_t2 (i := 104) rfl) rfl), (zz_g (zz_t2 (i := 105) rfl) rfl)⟩
set_option maxRecDepth 20000 in
theorem zk107 : zcOk (0, 72, 9, 0) := (zz_g (zz_t2 (i := 233) rfl) rfl)
set_option maxRecDepth 20000 in
theorem zk108 : zcOk (0, 75, 0, 38) := ⟨_, rfl, (zz_g (zz_t2 (i := 236) rfl) rfl), (zz_g (zz_t2 (i := 185) rfl) rfl), (zz_g (zz_t2 (i := 186) rfl) rfl)⟩
set_option maxRecDepth 20000 in
theorem zk109 : zcOk (5, 139, 0, 37) := ⟨_, rfl, (zz_g (zz_t2 (i := 237) rfl) rfl), (zz_g (zz_t2 (i := 203) rfl) rfl), (zz_g (zz_t2 (i := 204) rfl) rfl)⟩
set_option maxRecDepth 20000 in
theorem zk110 : zcOk (7, 64, 0, 73) := ⟨_, rfl, (zz_g (zz_t2 (i := 238) rfl) rfl), (zz_g (zz_t2 (i := 239) rfl) rfl), (zz_g (zz_t3 (i := 0) rfl) rfl)⟩
set_option maxRecDepth 20000 in
theorem zk111 : zcOk (5, 171, 0, 1) := ⟨_, rfl, (zz_g (zz_t3 (i := 2) rfl) rfl), (zz_g (zz_t3 (i := 3) rfl) rfl), (zz_g (zz_t3 (i := 4) rfl) rfl)⟩
set_option maxRecDepth 20000 in
theorem zk112 : zcOk (7, 107, 1, 93) := ⟨_, rfl, (zz_g (zz_t3 (i := 6) rfl) rfl), (zz_g (zz_t3 (i := 7) rfl) rfl)⟩
set_option maxRecDepth 20000 in
theorem zk113 : zcOk (7, 99, 1, 91) := ⟨_, rfl, (zz_g (zz_t3 (i := 9) rfl) rfl), (zz_g (zz_t3 (i := 10) rfl) rfl)⟩
set_option maxRecDepth 20000 in
theorem zk114 : zcOk (7, 121, 1, 92) := ⟨_, rfl, (zz_g (zz_t3 (i := 12) rfl) rfl), (zz_g (zz_t3 (i := 13) rfl) rfl)⟩
theorem zz_allc {a b : List (Nat × Nat × Nat × Nat)} {P : (Nat × Nat × Nat × Nat) → Prop} (ha : ∀ r ∈ a, P r) (hb : ∀ r ∈ b, P r) : ∀ r ∈ a ++ b, P r := fun r h => (List.mem_append.mp h).elim (ha r) (hb r)
def zCt0 : List (Nat × Nat × Nat × Nat) := [(7, 106, 2, 52), (5, 3, 5, 0), (5, 11, 2, 24), (3, 3, 5, 0), (3, 11, 3, 6), (1, 3, 5, 0), (5, 28, 2, 20), (2, 3, 5, 0), (2, 21, 2, 24), (5, 35, 3, 44), (4, 3, 5, 0), (5, 42, 3, 0), (0, 3, 5, 0), (7, 9, 0, 69), (5, 159, 0, 41), (3, 80, 0, 8), (3, 128, 0, 42), (3, 134, 0, 40), (3, 105, 0, 13), (3, 125, 0, 14), (3, 72, 0, 30), (3, 131, 0, 43), (3, 87, 8, 0), (3, 137, 7, 0), (7, 103, 0, 78), (5, 188, 0, 23), (2, 25, 0, 25), (3, 50, 0, 7), (1, 18, 6, 0), (3, 54, 6, 0)]
theorem zCt0_ok : ∀ e ∈ zCt0, zcOk e := (List.forall_mem_cons.mpr ⟨zk0, (List.forall_mem_cons.mpr ⟨zk1, (List.forall_mem_cons.mpr ⟨zk2, (List.forall_mem_cons.mpr ⟨zk3, (List.forall_mem_cons.mpr ⟨zk4, (List.forall_mem_cons.mpr ⟨zk5, (List.forall_mem_cons.mpr ⟨zk6, (List.forall_mem_cons.mpr ⟨zk7, (List.forall_mem_cons.mpr ⟨zk8, (List.forall_mem_cons.mpr ⟨zk9, (List.forall_mem_cons.mpr ⟨zk10, (List.forall_mem_cons.mpr ⟨zk11, (List.forall_mem_cons.mpr ⟨zk12, (List.forall_mem_cons.mpr ⟨zk13, (List.forall_mem_cons.mpr ⟨zk14, (List.forall_mem_cons.mpr ⟨zk15, (List.forall_mem_cons.mpr ⟨zk16, (List.forall_mem_cons.mpr ⟨zk17, (List.forall_mem_cons.mpr ⟨zk18, (List.forall_mem_cons.mpr ⟨zk19, (List.forall_mem_cons.mpr ⟨zk20, (List.forall_mem_cons.mpr ⟨zk21, (List.forall_mem_cons.mpr ⟨zk22, (List.forall_mem_cons.mpr ⟨zk23, (List.forall_mem_cons.mpr ⟨zk24, (List.forall_mem_cons.mpr ⟨zk25, (List.forall_mem_cons.mpr ⟨zk26, (List.forall_mem_cons.mpr ⟨zk27, (List.forall_mem_cons.mpr ⟨zk28, (List.forall_mem_cons.mpr ⟨zk29, (fun _ h => absurd h List.not_mem_nil)⟩)⟩)⟩)⟩)⟩)⟩)⟩)⟩)⟩)⟩)⟩)⟩)⟩)⟩)⟩)⟩)⟩)⟩)⟩)⟩)⟩)⟩)⟩)⟩)⟩)⟩)⟩)⟩)⟩)⟩)
def zCt1 : List (Nat × Nat × Nat × Nat) := [(7, 110, 0, 80), (5, 58, 0, 21), (2, 22, 0, 22), (5, 162, 0, 25), (7, 113, 1, 95), (7, 15, 1, 86), (7, 117, 1, 94), (7, 21, 0, 53), (5, 47, 1, 81), (5, 51, 1, 82), (5, 62, 0, 28), (7, 24, 0, 64), (5, 66, 0, 26), (5, 143, 0, 40), (7, 27, 0, 54), (5, 73, 0, 8), (5, 79, 0, 29), (3, 68, 0, 19), (1, 24, 0, 8), (1, 39, 4, 83), (3, 76, 4, 83), (7, 30, 0, 55), (5, 87, 0, 14), (7, 33, 0, 56), (7, 36, 0, 57), (7, 39, 0, 67), (7, 42, 0, 58), (7, 45, 1, 87), (7, 67, 0, 59), (5, 99, 0, 15)]
theorem zCt1_ok : ∀ e ∈ zCt1, zcOk e := (List.forall_mem_cons.mpr ⟨zk30, (List.forall_mem_cons.mpr ⟨zk31, (List.forall_mem_cons.mpr ⟨zk32, (List.forall_mem_cons.mpr ⟨zk33, (List.forall_mem_cons.mpr ⟨zk34, (List.forall_mem_cons.mpr ⟨zk35, (List.forall_mem_cons.mpr ⟨zk36, (List.forall_mem_cons.mpr ⟨zk37, (List.forall_mem_cons.mpr ⟨zk38, (List.forall_mem_cons.mpr ⟨zk39, (List.forall_mem_cons.mpr ⟨zk40, (List.forall_mem_cons.mpr ⟨zk41, (List.forall_mem_cons.mpr ⟨zk42, (List.forall_mem_cons.mpr ⟨zk43, (List.forall_mem_cons.mpr ⟨zk44, (List.forall_mem_cons.mpr ⟨zk45, (List.forall_mem_cons.mpr ⟨zk46, (List.forall_mem_cons.mpr ⟨zk47, (List.forall_mem_cons.mpr ⟨zk48, (List.forall_mem_cons.mpr ⟨zk49, (List.forall_mem_cons.mpr ⟨zk50, (List.forall_mem_cons.mpr ⟨zk51, (List.forall_mem_cons.mpr ⟨zk52, (List.forall_mem_cons.mpr ⟨zk53, (List.forall_mem_cons.mpr ⟨zk54, (List.forall_mem_cons.mpr ⟨zk55, (List.forall_mem_cons.mpr ⟨zk56, (List.forall_mem_cons.mpr ⟨zk57, (List.forall_mem_cons.mpr ⟨zk58, (List.forall_mem_cons.mpr ⟨zk59, (fun _ h => absurd h List.not_mem_nil)⟩)⟩)⟩)⟩)⟩)⟩)⟩)⟩)⟩)⟩)⟩)⟩)⟩)⟩)⟩)⟩)⟩)⟩)⟩)⟩)⟩)⟩)⟩)⟩)⟩)⟩)⟩)⟩)⟩)⟩)
def zCt2 : List (Nat × Nat × Nat × Nat) := [(5, 103, 0, 16), (1, 35, 0, 15), (7, 70, 0, 66), (5, 153, 0, 9), (5, 149, 0, 12), (1, 28, 0, 10), (1, 32, 0, 11), (7, 49, 1, 88), (7, 73, 0, 60), (5, 107, 0, 32), (3, 93, 0, 34), (3, 102, 0, 35), (3, 99, 0, 17), (3, 96, 0, 33), (7, 76, 0, 68), (7, 79, 0, 65), (5, 146, 0, 27), (3, 60, 0, 26), (3, 64, 0, 9), (7, 53, 1, 89), (7, 83, 0, 61), (5, 111, 0, 31), (3, 83, 0, 32), (7, 86, 0, 71), (5, 165, 0, 85), (5, 191, 0, 43), (7, 89, 0, 70), (7, 56, 1, 90), (7, 92, 0, 72), (5, 114, 0, 84)]
theorem zCt2_ok : ∀ e ∈ zCt2, zcOk e := (List.forall_mem_cons.mpr ⟨zk60, (List.forall_mem_cons.mpr ⟨zk61, (List.forall_mem_cons.mpr ⟨zk62, (List.forall_mem_cons.mpr ⟨zk63, (List.forall_mem_cons.mpr ⟨zk64, (List.forall_mem_cons.mpr ⟨zk65, (List.forall_mem_cons.mpr ⟨zk66, (List.forall_mem_cons.mpr ⟨zk67, (List.forall_mem_cons.mpr ⟨zk68, (List.forall_mem_cons.mpr ⟨zk69, (List.forall_mem_cons.mpr ⟨zk70, (List.forall_mem_cons.mpr ⟨zk71, (List.forall_mem_cons.mpr ⟨zk72, (List.forall_mem_cons.mpr ⟨zk73, (List.forall_mem_cons.mpr ⟨zk74, (List.forall_mem_cons.mpr ⟨zk75, (List.forall_mem_cons.mpr ⟨zk76, (List.forall_mem_cons.mpr ⟨zk77, (List.forall_mem_cons.mpr ⟨zk78, (List.forall_mem_cons.mpr ⟨zk79, (List.forall_mem_cons.mpr ⟨zk80, (List.forall_mem_cons.mpr ⟨zk81, (List.forall_mem_cons.mpr ⟨zk82, (List.forall_mem_cons.mpr ⟨zk83, (List.forall_mem_cons.mpr ⟨zk84, (List.forall_mem_cons.mpr ⟨zk85, (List.forall_mem_cons.mpr ⟨zk86, (List.forall_mem_cons.mpr ⟨zk87, (List.forall_mem_cons.mpr ⟨zk88, (List.forall_mem_cons.mpr ⟨zk89, (fun _ h => absurd h List.not_mem_nil)⟩)⟩)⟩)⟩)⟩)⟩)⟩)⟩)⟩)⟩)⟩)⟩)⟩)⟩)⟩)⟩)⟩)⟩)⟩)⟩)⟩)⟩)⟩)⟩)⟩)⟩)⟩)⟩)⟩)⟩)
def zCt3 : List (Nat × Nat × Nat × Nat) := [(5, 168, 0, 38), (3, 119, 0, 11), (3, 122, 0, 39), (7, 96, 0, 62), (5, 118, 0, 36), (3, 108, 0, 38), (3, 112, 0, 37), (3, 116, 0, 18), (7, 60, 0, 63), (5, 121, 0, 2), (0, 39, 0, 8), (0, 45, 0, 3), (0, 49, 0, 10), (0, 57, 1, 4), (0, 60, 7, 0), (0, 65, 0, 5), (0, 69, 0, 11), (0, 72, 9, 0), (0, 75, 0, 38), (5, 139, 0, 37), (7, 64, 0, 73), (5, 171, 0, 1), (7, 107, 1, 93), (7, 99, 1, 91), (7, 121, 1, 92)]
theorem zCt3_ok : ∀ e ∈ zCt3, zcOk e := (List.forall_mem_cons.mpr ⟨zk90, (List.forall_mem_cons.mpr ⟨zk91, (List.forall_mem_cons.mpr ⟨zk92, (List.forall_mem_cons.mpr ⟨zk93, (List.forall_mem_cons.mpr ⟨zk94, (List.forall_mem_cons.mpr ⟨zk95, (List.forall_mem_cons.mpr ⟨zk96, (List.forall_mem_cons.mpr ⟨zk97, (List.forall_mem_cons.mpr ⟨zk98, (List.forall_mem_cons.mpr ⟨zk99, (List.forall_mem_cons.mpr ⟨zk100, (List.forall_mem_cons.mpr ⟨zk101, (List.forall_mem_cons.mpr ⟨zk102, (List.forall_mem_cons.mpr ⟨zk103, (List.forall_mem_cons.mpr ⟨zk104, (List.forall_mem_cons.mpr ⟨zk105, (List.forall_mem_cons.mpr ⟨zk106, (List.forall_mem_cons.mpr ⟨zk107, (List.forall_mem_cons.mpr ⟨zk108, (List.forall_mem_cons.mpr ⟨zk109, (List.forall_mem_cons.mpr ⟨zk110, (List.forall_mem_cons.mpr ⟨zk111, (List.forall_mem_cons.mpr ⟨zk112, (List.forall_mem_cons.mpr ⟨zk113, (List.forall_mem_cons.mpr ⟨zk114, (fun _ h => absurd h List.not_mem_nil)⟩)⟩)⟩)⟩)⟩)⟩)⟩)⟩)⟩)⟩)⟩)⟩)⟩)⟩)⟩)⟩)⟩)⟩)⟩)⟩)⟩)⟩)⟩)⟩)⟩)
theorem zCt_eq : zCt = zCt0 ++ zCt1 ++ zCt2 ++ zCt3 := by rfl
theorem zCt_ok : ∀ e ∈ zCt, zcOk e := by rw [zCt_eq]; exact (zz_allc (zz_allc (zz_allc zCt0_ok zCt1_ok) zCt2_ok) zCt3_ok)
def zfOk (e : Nat × Nat × Nat × Nat) : Prop := ∃ q, zcl[e.2.2.1]? = some q ∧ e.2.2.2 < q.2.2 ∧ Cond.fieldLink (zcn e.1) e.2.1 (zcn e.2.2.1) (zT e.2.2.1 e.2.2.2).2.1 (zT e.2.2.1 e.2.2.2).2.2.1 ∈ zGW
set_option maxRecDepth 20000 in
theorem zfk0 : zfOk (1, 9, 1, 0) := ⟨_, rfl, Nat.le_of_ble_eq_true rfl, (zz_g (zz_t1 (i := 29) rfl) rfl)⟩
set_option maxRecDepth 20000 in
theorem zfk1 : zfOk (1, 15, 1, 1) := ⟨_, rfl, Nat.le_of_ble_eq_true rfl, (zz_g (zz_t1 (i := 30) rfl) rfl)⟩
set_option maxRecDepth 20000 in
theorem zfk2 : zfOk (3, 12, 3, 0) := ⟨_, rfl, Nat.le_of_ble_eq_true rfl, (zz_g (zz_t1 (i := 37) rfl) rfl)⟩
set_option maxRecDepth 20000 in
theorem zfk3 : zfOk (5, 69, 3, 0) := ⟨_, rfl, Nat.le_of_ble_eq_true rfl, (zz_g (zz_t1 (i := 38) rfl) rfl)⟩
set_option maxRecDepth 20000 in
theorem zfk4 : zfOk (0, 35, 3, 0) := ⟨_, rfl, Nat.le_of_ble_eq_true rfl, (zz_g (zz_t1 (i := 39) rfl) rfl)⟩
set_option maxRecDepth 20000 in
theorem zfk5 : zfOk (3, 18, 3, 1) := ⟨_, rfl, Nat.le_of_ble_eq_true rfl, (zz_g (zz_t1 (i := 40) rfl) rfl)⟩
set_option maxRecDepth 20000 in
theorem zfk6 : zfOk (5, 54, 3, 1) := ⟨_, rfl, Nat.le_of_ble_eq_true rfl, (zz_g (zz_t1 (i := 41) rfl) rfl)⟩
set_option maxRecDepth 20000 in
theorem zfk7 : zfOk (0, 30, 3, 1) := ⟨_, rfl, Nat.le_of_ble_eq_true rfl, (zz_g (zz_t1 (i := 42) rfl) rfl)⟩
set_option maxRecDepth 20000 in
theorem zfk8 : zfOk (3, 22, 3, 2) := ⟨_, rfl, Nat.le_of_ble_eq_true rfl, (zz_g (zz_t1 (i := 43) rfl) rfl)⟩
set_option maxRecDepth 20000 in
theorem zfk9 : zfOk (3, 26, 3, 3) := ⟨_, rfl, Nat.le_of_ble_eq_true rfl, (zz_g (zz_t1 (i := 44) rfl) rfl)⟩
set_option maxRecDepth 20000 in
theorem zfk10 : zfOk (0, 53, 3, 3) := ⟨_, rfl, Nat.le_of_ble_eq_true rfl, (zz_g (zz_t1 (i := 45) rfl) rfl)⟩
set_option maxRecDepth 20000 in
theorem zfk11 : zfOk (5, 83, 3, 3) := ⟨_, rfl, Nat.le_of_ble_eq_true rfl, (zz_g (zz_t1 (i := 46) rfl) rfl)⟩
set_option maxRecDepth 20000 in
theorem zfk12 : zfOk (3, 29, 3, 4) := ⟨_, rfl, Nat.le_of_ble_eq_true rfl, (zz_g (zz_t1 (i := 47) rfl) rfl)⟩
set_option maxRecDepth 20000 in
theorem zfk13 : zfOk (5, 156, 3, 4) := ⟨_, rfl, Nat.le_of_ble_eq_true rfl, (zz_g (zz_t1 (i := 48) rfl) rfl)⟩
set_option maxRecDepth 20000 in
theorem zfk14 : zfOk (3, 32, 3, 5) := ⟨_, rfl, Nat.le_of_ble_eq_true rfl, (zz_g (zz_t1 (i := 49) rfl) rfl)⟩
set_option maxRecDepth 20000 in
theorem zfk15 : zfOk (5, 96, 3, 5) := ⟨_, rfl, Nat.le_of_ble_eq_true rfl, (zz_g (zz_t1 (i := 50) rfl) rfl)⟩
set_option maxRecDepth 20000 in
theorem zfk16 : zfOk (3, 35, 3, 6) := ⟨_, rfl, Nat.le_of_ble_eq_true rfl, (zz_g (zz_t1 (i := 51) rfl) rfl)⟩
set_option maxRecDepth 20000 in
theorem zfk17 : zfOk (5, 90, 3, 6) := ⟨_, rfl, Nat.le_of_ble_eq_true rfl, (zz_g (zz_t1 (i := 52) rfl) rfl)⟩
set_option maxRecDepth 20000 in
theorem zfk18 : zfOk (3, 38, 3, 7) := ⟨_, rfl, Nat.le_of_ble_eq_true rfl, (zz_g (zz_t1 (i := 53) rfl) rfl)⟩
set_option maxRecDepth 20000 in
theorem zfk19 : zfOk (5, 93, 3, 7) := ⟨_, rfl, Nat.le_of_ble_eq_true rfl, (zz_g (zz_t1 (i := 54) rfl) rfl)⟩
set_option maxRecDepth 20000 in
theorem zfk20 : zfOk (3, 41, 3, 8) := ⟨_, rfl, Nat.le_of_ble_eq_true rfl, (zz_g (zz_t1 (i := 55) rfl) rfl)⟩
set_option maxRecDepth 20000 in
theorem zfk21 : zfOk (3, 44, 3, 9) := ⟨_, rfl, Nat.le_of_ble_eq_true rfl, (zz_g (zz_t1 (i := 56) rfl) rfl)⟩
set_option maxRecDepth 20000 in
theorem zfk22 : zfOk (3, 47, 3, 10) := ⟨_, rfl, Nat.le_of_ble_eq_true rfl, (zz_g (zz_t1 (i := 57) rfl) rfl)⟩
set_option maxRecDepth 20000 in
theorem zfk23 : zfOk (2, 11, 2, 0) := ⟨_, rfl, Nat.le_of_ble_eq_true rfl, (zz_g (zz_t1 (i := 90) rfl) rfl)⟩
set_option maxRecDepth 20000 in
theorem zfk24 : zfOk (2, 17, 2, 1) := ⟨_, rfl, Nat.le_of_ble_eq_true rfl, (zz_g (zz_t1 (i := 91) rfl) rfl)⟩
set_option maxRecDepth 20000 in
theorem zfk25 : zfOk (5, 186, 2, 1) := ⟨_, rfl, Nat.le_of_ble_eq_true rfl, (zz_g (zz_t1 (i := 92) rfl) rfl)⟩
set_option maxRecDepth 20000 in
theorem zfk26 : zfOk (4, 9, 4, 0) := ⟨_, rfl, Nat.le_of_ble_eq_true rfl, (zz_g (zz_t1 (i := 104) rfl) rfl)⟩
set_option maxRecDepth 20000 in
theorem zfk27 : zfOk (4, 15, 4, 1) := ⟨_, rfl, Nat.le_of_ble_eq_true rfl, (zz_g (zz_t1 (i := 105) rfl) rfl)⟩
set_option maxRecDepth 20000 in
theorem zfk28 : zfOk (0, 9, 0, 0) := ⟨_, rfl, Nat.le_of_ble_eq_true rfl, (zz_g (zz_t1 (i := 117) rfl) rfl)⟩
set_option maxRecDepth 20000 in
theorem zfk29 : zfOk (5, 127, 0, 0) := ⟨_, rfl, Nat.le_of_ble_eq_true rfl, (zz_g (zz_t1 (i := 118) rfl) rfl)⟩
set_option maxRecDepth 20000 in
theorem zfk30 : zfOk (0, 15, 0, 1) := ⟨_, rfl, Nat.le_of_ble_eq_true rfl, (zz_g (zz_t1 (i := 119) rfl) rfl)⟩
set_option maxRecDepth 20000 in
theorem zfk31 : zfOk (5, 130, 0, 1) := ⟨_, rfl, Nat.le_of_ble_eq_true rfl, (zz_g (zz_t1 (i := 120) rfl) rfl)⟩
set_option maxRecDepth 20000 in
theorem zfk32 : zfOk (0, 18, 0, 2) := ⟨_, rfl, Nat.le_of_ble_eq_true rfl, (zz_g (zz_t1 (i := 121) rfl) rfl)⟩
set_option maxRecDepth 20000 in
theorem zfk33 : zfOk (5, 133, 0, 2) := ⟨_, rfl, Nat.le_of_ble_eq_true rfl, (zz_g (zz_t1 (i := 122) rfl) rfl)⟩
set_option maxRecDepth 20000 in
theorem zfk34 : zfOk (0, 21, 0, 3) := ⟨_, rfl, Nat.le_of_ble_eq_true rfl, (zz_g (zz_t1 (i := 123) rfl) rfl)⟩
set_option maxRecDepth 20000 in
theorem zfk35 : zfOk (5, 136, 0, 3) := ⟨_, rfl, Nat.le_of_ble_eq_true rfl, (zz_g (zz_t1 (i := 124) rfl) rfl)⟩
set_option maxRecDepth 20000 in
theorem zfk36 : zfOk (0, 24, 0, 4) := ⟨_, rfl, Nat.le_of_ble_eq_true rfl, (zz_g (zz_t1 (i := 125) rfl) rfl)⟩
set_option maxRecDepth 20000 in
theorem zfk37 : zfOk (5, 124, 0, 4) := ⟨_, rfl, Nat.le_of_ble_eq_true rfl, (zz_g (zz_t1 (i := 126) rfl) rfl)⟩
set_option maxRecDepth 20000 in
theorem zfk38 : zfOk (0, 27, 0, 5) := ⟨_, rfl, Nat.le_of_ble_eq_true rfl, (zz_g (zz_t1 (i := 127) rfl) rfl)⟩
set_option maxRecDepth 20000 in
theorem zfk39 : zfOk (5, 12, 5, 0) := ⟨_, rfl, Nat.le_of_ble_eq_true rfl, (zz_g (zz_t1 (i := 141) rfl) rfl)⟩
set_option maxRecDepth 20000 in
theorem zfk40 : zfOk (5, 16, 5, 1) := ⟨_, rfl, Nat.le_of_ble_eq_true rfl, (zz_g (zz_t1 (i := 142) rfl) rfl)⟩
set_option maxRecDepth 20000 in
theorem zfk41 : zfOk (5, 19, 5, 2) := ⟨_, rfl, Nat.le_of_ble_eq_true rfl, (zz_g (zz_t1 (i := 143) rfl) rfl)⟩
set_option maxRecDepth 20000 in
theorem zfk42 : zfOk (5, 22, 5, 3) := ⟨_, rfl, Nat.le_of_ble_eq_true rfl, (zz_g (zz_t1 (i := 144) rfl) rfl)⟩
set_option maxRecDepth 20000 in
theorem zfk43 : zfOk (5, 29, 5, 4) := ⟨_, rfl, Nat.le_of_ble_eq_true rfl, (zz_g (zz_t1 (i := 145) rfl) rfl)⟩
set_option maxRecDepth 20000 in
theorem zfk44 : zfOk (5, 36, 5, 5) := ⟨_, rfl, Nat.le_of_ble_eq_true rfl, (zz_g (zz_t1 (i := 146) rfl) rfl)⟩
set_option maxRecDepth 20000 in
theorem zfk45 : zfOk (5, 43, 5, 6) := ⟨_, rfl, Nat.le_of_ble_eq_true rfl, (zz_g (zz_t1 (i := 147) rfl) rfl)⟩
set_option maxRecDepth 20000 in
theorem zFt_ok : ∀ e ∈ zFt, zfOk e := (List.forall_mem_cons.mpr ⟨zfk0, (List.forall_mem_cons.mpr ⟨zfk1, (List.forall_mem_cons.mpr ⟨zfk2, (List.forall_mem_cons.mpr ⟨zfk3, (List.forall_mem_cons.mpr ⟨zfk4, (List.forall_mem_cons.mpr ⟨zfk5, (List.forall_mem_cons.mpr ⟨zfk6, (List.forall_mem_cons.mpr ⟨zfk7, (List.forall_mem_cons.mpr ⟨zfk8, (List.forall_mem_cons.mpr ⟨zfk9, (List.forall_mem_cons.mpr ⟨zfk10, (List.forall_mem_cons.mpr ⟨zfk11, (List.forall_mem_cons.mpr ⟨zfk12, (List.forall_mem_cons.mpr ⟨zfk13, (List.forall_mem_cons.mpr ⟨zfk14, (List.forall_mem_cons.mpr ⟨zfk15, (List.forall_mem_cons.mpr ⟨zfk16, (List.forall_mem_cons.mpr ⟨zfk17, (List.forall_mem_cons.mpr ⟨zfk18, (List.forall_mem_cons.mpr ⟨zfk19, (List.forall_mem_cons.mpr ⟨zfk20, (List.forall_mem_cons.mpr ⟨zfk21, (List.forall_mem_cons.mpr ⟨zfk22, (List.forall_mem_cons.mpr ⟨zfk23, (List.forall_mem_cons.mpr ⟨zfk24, (List.forall_mem_cons.mpr ⟨zfk25, (List.forall_mem_cons.mpr ⟨zfk26, (List.forall_mem_cons.mpr ⟨zfk27, (List.forall_mem_cons.mpr ⟨zfk28, (List.forall_mem_cons.mpr ⟨zfk29, (List.forall_mem_cons.mpr ⟨zfk30, (List.forall_mem_cons.mpr ⟨zfk31, (List.forall_mem_cons.mpr ⟨zfk32, (List.forall_mem_cons.mpr ⟨zfk33, (List.forall_mem_cons.mpr ⟨zfk34, (List.forall_mem_cons.mpr ⟨zfk35, (List.forall_mem_cons.mpr ⟨zfk36, (List.forall_mem_cons.mpr ⟨zfk37, (List.forall_mem_cons.mpr ⟨zfk38, (List.forall_mem_cons.mpr ⟨zfk39, (List.forall_mem_cons.mpr ⟨zfk40, (List.forall_mem_cons.mpr ⟨zfk41, (List.forall_mem_cons.mpr ⟨zfk42, (List.forall_mem_cons.mpr ⟨zfk43, (List.forall_mem_cons.mpr ⟨zfk44, (List.forall_mem_cons.mpr ⟨zfk45, (fun _ h => absurd h List.not_mem_nil)⟩)⟩)⟩)⟩)⟩)⟩)⟩)⟩)⟩)⟩)⟩)⟩)⟩)⟩)⟩)⟩)⟩)⟩)⟩)⟩)⟩)⟩)⟩)⟩)⟩)⟩)⟩)⟩)⟩)⟩)⟩)⟩)⟩)⟩)⟩)⟩)⟩)⟩)⟩)⟩)⟩)⟩)⟩)⟩)⟩)⟩)
def znOk (e : Nat × Nat × Nat × Nat) : Prop := ∃ q, zcl[e.2.2.1]? = some q ∧ q.2.2 = e.2.2.2 ∧ Cond.classLink (zcn e.1) e.2.1 (zcn e.2.2.1) ∈ zGW ∧ Cond.instantiable (zcn e.2.2.1) e.2.2.2 ∈ zGW ∧ Cond.initialized (zcn e.2.2.1) ∈ zGW ∧ ∃ fs, zDf[e.2.2.1]? = some fs ∧ fs.length = e.2.2.2 ∧ (fs.all fun v => decide (v = .int 0 ∨ v = .null)) = true ∧ ∀ j, j < e.2.2.2 → defaultValue (zTy e.2.2.1 j) = vp_V fs j
set_option maxRecDepth 20000 in
theorem znk0 : znOk (7, 10, 5, 7) := ⟨_, rfl, rfl, (zz_g (zz_t1 (i := 9) rfl) rfl), (zz_g (zz_t1 (i := 10) rfl) rfl), (zz_g (zz_t1 (i := 1) rfl) rfl), _, rfl, rfl, by decide +kernel, by decide +kernel⟩
set_option maxRecDepth 20000 in
theorem znk1 : znOk (5, 9, 3, 11) := ⟨_, rfl, rfl, (zz_g (zz_t1 (i := 17) rfl) rfl), (zz_g (zz_t1 (i := 18) rfl) rfl), (zz_g (zz_t1 (i := 2) rfl) rfl), _, rfl, rfl, by decide +kernel, by decide +kernel⟩
set_option maxRecDepth 20000 in
theorem znk2 : znOk (3, 9, 1, 2) := ⟨_, rfl, rfl, (zz_g (zz_t1 (i := 23) rfl) rfl), (zz_g (zz_t1 (i := 24) rfl) rfl), (zz_g (zz_t1 (i := 3) rfl) rfl), _, rfl, rfl, by decide +kernel, by decide +kernel⟩
set_option maxRecDepth 20000 in
theorem znk3 : znOk (5, 26, 2, 2) := ⟨_, rfl, rfl, (zz_g (zz_t1 (i := 81) rfl) rfl), (zz_g (zz_t1 (i := 82) rfl) rfl), (zz_g (zz_t1 (i := 4) rfl) rfl), _, rfl, rfl, by decide +kernel, by decide +kernel⟩
set_option maxRecDepth 20000 in
theorem znk4 : znOk (2, 9, 3, 11) := ⟨_, rfl, rfl, (zz_g (zz_t1 (i := 87) rfl) rfl), (zz_g (zz_t1 (i := 18) rfl) rfl), (zz_g (zz_t1 (i := 2) rfl) rfl), _, rfl, rfl, by decide +kernel, by decide +kernel⟩
set_option maxRecDepth 20000 in
theorem znk5 : znOk (5, 33, 4, 2) := ⟨_, rfl, rfl, (zz_g (zz_t1 (i := 98) rfl) rfl), (zz_g (zz_t1 (i := 99) rfl) rfl), (zz_g (zz_t1 (i := 5) rfl) rfl), _, rfl, rfl, by decide +kernel, by decide +kernel⟩
set_option maxRecDepth 20000 in
theorem znk6 : znOk (5, 40, 0, 6) := ⟨_, rfl, rfl, (zz_g (zz_t1 (i := 111) rfl) rfl), (zz_g (zz_t1 (i := 112) rfl) rfl), (zz_g (zz_t1 (i := 6) rfl) rfl), _, rfl, rfl, by decide +kernel, by decide +kernel⟩
theorem zNt_ok : ∀ e ∈ zNt, znOk e := (List.forall_mem_cons.mpr ⟨znk0, (List.forall_mem_cons.mpr ⟨znk1, (List.forall_mem_cons.mpr ⟨znk2, (List.forall_mem_cons.mpr ⟨znk3, (List.forall_mem_cons.mpr ⟨znk4, (List.forall_mem_cons.mpr ⟨znk5, (List.forall_mem_cons.mpr ⟨znk6, (fun _ h => absurd h List.not_mem_nil)⟩)⟩)⟩)⟩)⟩)⟩)⟩)
set_option maxRecDepth 20000 in
theorem zmath_max : Cond.static Lib.Math.max.name ∈ zGW ∧ Cond.initialized "java/lang/Math" ∈ zGW ∧ Cond.code Lib.Math.max.name Lib.Math.max.code 2 (some .int) ∈ zGW := ⟨(zz_g (zz_t1 (i := 203) rfl) rfl), (zz_g (zz_t1 (i := 7) rfl) rfl), (zz_g (zz_t1 (i := 204) rfl) rfl)⟩
set_option maxRecDepth 20000 in
theorem zmath_min : Cond.static Lib.Math.min.name ∈ zGW ∧ Cond.initialized "java/lang/Math" ∈ zGW ∧ Cond.code Lib.Math.min.name Lib.Math.min.code 2 (some .int) ∈ zGW := ⟨(zz_g (zz_t1 (i := 200) rfl) rfl), (zz_g (zz_t1 (i := 7) rfl) rfl), (zz_g (zz_t1 (i := 201) rfl) rfl)⟩
set_option maxRecDepth 20000 in
theorem zmath_abs : Cond.static Lib.Math.abs.name ∈ zGW ∧ Cond.initialized "java/lang/Math" ∈ zGW ∧ Cond.code Lib.Math.abs.name Lib.Math.abs.code 1 (some .int) ∈ zGW := ⟨(zz_g (zz_t2 (i := 234) rfl) rfl), (zz_g (zz_t1 (i := 7) rfl) rfl), (zz_g (zz_t2 (i := 235) rfl) rfl)⟩
set_option maxRecDepth 20000 in
theorem zcopy : Cond.native arraycopyName ∈ zGW ∧ Cond.static arraycopyName ∈ zGW ∧ Cond.initialized "java/lang/System" ∈ zGW := ⟨(zz_g (zz_t1 (i := 223) rfl) rfl), (zz_g (zz_t1 (i := 222) rfl) rfl), (zz_g (zz_t1 (i := 8) rfl) rfl)⟩
set_option maxRecDepth 20000 in
theorem zobj : Cond.instanceMethod objectInit ∈ zGW ∧ Cond.code objectInit ⟨#[0xb1]⟩ 1 none ∈ zGW := ⟨(zz_g (zz_t1 (i := 15) rfl) rfl), (zz_g (zz_t1 (i := 16) rfl) rfl)⟩
set_option maxRecDepth 20000 in
theorem zarrc : Cond.arrayClass .int ∈ zGW := (zz_g (zz_t1 (i := 36) rfl) rfl)
set_option maxRecDepth 20000 in
theorem zarro : Cond.arrayOver (.object RX3) ∈ lw_tbl := (zz_t1 (i := 88) rfl)
set_option maxRecDepth 20000 in
theorem zKt_ok : ∀ e ∈ zKt, Cond.constant (zcn e.1) e.2.1 (Int32.ofNat e.2.2.1) ∈ zGW := (List.forall_mem_cons.mpr ⟨(zz_g (zz_t2 (i := 1) rfl) rfl), (List.forall_mem_cons.mpr ⟨(zz_g (zz_t2 (i := 5) rfl) rfl), (fun _ h => absurd h List.not_mem_nil)⟩)⟩)
end
section
/-! how a heap of ours (zAW) stands in the machine's -/
def zcv (b0 b : Nat) : Value → Value
  | .int x => .int x
  | .ref a => .ref (b0 + a)
  | .retAddr _ => .ref b
  | _ => .null
theorem zcv_cat (b0 b : Nat) (v : Value) : (zcv b0 b v).category = 1 := by cases v <;> rfl
def zE (b0 b cI cS : Nat) : zAC → va_E
  | .inl l => .inl (cI, l.length, .inl (fun i => l.getD i 0))
  | .inr (.inl l) => .inl (cS, l.length, .inr (.inr (.inr (.inr (fun i => (l.getD i none).map (fun a => b0 + a))))))
  | .inr (.inr o) => .inr (o.1, o.2.map (zcv b0 b))
def zW (b0 b cI cS : Nat) (w : zAW) : va_W := w.mapIdx (fun k c => (b0 + k, zE b0 b cI cS c))
theorem zW_get {b0 b cI cS : Nat} {w : zAW} {k : Nat} {c : zAC} (h : w[k]? = some c) : (zW b0 b cI cS w)[k]? = some (b0 + k, zE b0 b cI cS c) := by
  simp [zW, List.getElem?_mapIdx, h]
theorem zW_inv {b0 b cI cS : Nat} {w : zAW} {k : Nat} {q : Nat × va_E} (h : (zW b0 b cI cS w)[k]? = some q) : ∃ c, w[k]? = some c ∧ q = (b0 + k, zE b0 b cI cS c) := by
  simp only [zW, List.getElem?_mapIdx, Option.map_eq_some_iff] at h
  obtain ⟨c, h1, h2⟩ := h
  exact ⟨c, h1, h2.symm⟩
theorem zW_set (b0 b cI cS : Nat) (w : zAW) (k : Nat) (c : zAC) : (zW b0 b cI cS w).set k (b0 + k, zE b0 b cI cS c) = zW b0 b cI cS (w.set k c) := by
  apply List.ext_getElem?
  intro j
  simp only [zW, List.getElem?_mapIdx, List.getElem?_set, List.length_mapIdx]
  by_cases h : k = j
  · subst h
    by_cases h2 : k < w.length <;> simp [h2]
  · simp [h]
theorem zW_app (b0 b cI cS : Nat) (w : zAW) (c : zAC) : zW b0 b cI cS (w ++ [c]) = zW b0 b cI cS w ++ [(b0 + w.length, zE b0 b cI cS c)] := by
  simp [zW, List.mapIdx_append]
theorem zW_D (b0 b cI cS : Nat) (w : zAW) : va_D (fun q => b0 ≤ q) (zW b0 b cI cS w) := by
  refine ⟨fun i j p q hi hj h => ?_, fun k q hk => ?_⟩
  · obtain ⟨c, -, rfl⟩ := zW_inv hi
    obtain ⟨c', -, rfl⟩ := zW_inv hj
    have h' : b0 + i = b0 + j := h
    omega
  · obtain ⟨c, -, rfl⟩ := zW_inv hk
    exact Nat.le_add_right _ _
def zc1s : zAC → Nat
  | .inl l => l.length
  | .inr (.inl l) => l.length
  | .inr (.inr o) => o.2.length
def zsz (w : zAW) : Nat := (w.map zc1s).sum
theorem zsz_app (w : zAW) (c : zAC) : zsz (w ++ [c]) = zsz w + zc1s c := by simp [zsz]
theorem zsz_set {w : zAW} {k : Nat} {c c' : zAC} (h : w[k]? = some c) (hc : zc1s c' = zc1s c) : zsz (w.set k c') = zsz w := by
  induction w generalizing k with
  | nil => simp at h
  | cons x w ih =>
    cases k with
    | zero =>
      rw [List.getElem?_cons_zero] at h
      cases h
      simp [zsz, hc]
    | succ k =>
      rw [List.getElem?_cons_succ] at h
      have := ih h
      simp only [zsz, List.set_cons_succ, List.map_cons, List.sum_cons] at this ⊢
      omega
/-- the locals -/
def zlv (b0 b : Nat) (ls : zLs) : List (Nat × Value) := ls.zipIdx.filterMap (fun q => q.1.map (fun v => (q.2, zcv b0 b v)))
theorem zlv_mem {b0 b : Nat} {ls : zLs} {q : Nat × Value} : q ∈ zlv b0 b ls ↔ ∃ v, ls[q.1]? = some (some v) ∧ q.2 = zcv b0 b v := by
  simp only [zlv, List.mem_filterMap, Option.map_eq_some_iff]
  constructor
  · rintro ⟨⟨o, i⟩, h1, v, h2, rfl⟩
    have h3 := List.mem_zipIdx_iff_getElem?.mp h1
    exact ⟨v, by rw [h3]; exact congrArg some h2, rfl⟩
  · rintro ⟨v, h1, h2⟩
    exact ⟨(some v, q.1), List.mem_zipIdx_iff_getElem?.mpr h1, v, rfl, by rw [← h2]⟩
theorem zld_some {ls : zLs} {i : Nat} {v : Value} (h : zld ls i = some v) : ls[i]? = some (some v) := by
  unfold zld at h
  split at h
  · rename_i u hu
    cases h
    exact hu
  · cases h
theorem zld_at {b0 b nL : Nat} {ls : zLs} {lsA : Array Slot} {i : Nat} {v : Value} (hL : lv_has lsA nL (zlv b0 b ls)) (h : zld ls i = some v) : lsA[i]? = some (.val (zcv b0 b v)) :=
  hL.2.2 (i, zcv b0 b v) (zlv_mem.mpr ⟨v, zld_some h, rfl⟩)
theorem zld_lt {ls : zLs} {i : Nat} {v : Value} (h : zld ls i = some v) : i < ls.length := (List.getElem?_eq_some_iff.mp (zld_some h)).1
theorem zlv_set {b0 b nL : Nat} {ls : zLs} {lsA : Array Slot} {i : Nat} {v : Value} {u : Value} (hu : u = zcv b0 b v) (h : lv_has lsA nL ((i, u) :: (zlv b0 b ls).filter (fun q => !(q.1 == i) && !(q.1 + 1 == i && q.2.category == 2)))) : lv_has lsA nL (zlv b0 b (ls.set i (some v))) := by
  subst hu
  refine ⟨h.1, h.2.1, fun q hq => h.2.2 q ?_⟩
  obtain ⟨u, h1, h2⟩ := zlv_mem.mp hq
  obtain ⟨j, x⟩ := q
  dsimp only at h1 h2
  subst h2
  by_cases hj : j = i
  · subst hj
    have hlt := (List.getElem?_eq_some_iff.mp h1).1
    rw [List.length_set] at hlt
    rw [List.getElem?_set_self hlt] at h1
    cases h1
    exact List.mem_cons_self
  · rw [List.getElem?_set_ne (Ne.symm hj)] at h1
    refine List.mem_cons_of_mem _ (List.mem_filter.mpr ⟨zlv_mem.mpr ⟨u, h1, rfl⟩, ?_⟩)
    simp [hj, zcv_cat]
theorem zlv_idx {b0 b : Nat} {ls : zLs} {i : Nat} {v : Value} (h : zld ls i = some v) : ∃ k : Nat, (zlv b0 b ls)[k]? = some (i, zcv b0 b v) :=
  List.getElem?_of_mem (zlv_mem.mpr ⟨v, zld_some h, rfl⟩)
theorem zargs_eq (b0 b : Nat) : ∀ (as : List Value) (i : Nat), lv_args i (as.map (zcv b0 b)) = ((as.map (zcv b0 b)).zipIdx i).map (fun q => (q.2, q.1))
  | [], i => rfl
  | a :: as, i => by
    rw [List.map_cons, List.zipIdx_cons, List.map_cons, lv_args, zcv_cat, if_neg (by decide), zargs_eq b0 b as (i + 1)]
theorem zent_has {b0 b nL : Nat} {lsA : Array Slot} {as : List Value} {r : zRec} (h : lv_has lsA nL (lv_args 0 (as.map (zcv b0 b)))) : lv_has lsA nL (zlv b0 b (zent r as)) := by
  refine ⟨h.1, h.2.1, fun q hq => h.2.2 q ?_⟩
  obtain ⟨u, h1, h2⟩ := zlv_mem.mp hq
  obtain ⟨j, x⟩ := q
  dsimp only at h1 h2
  subst h2
  rw [zargs_eq, List.mem_map]
  refine ⟨(zcv b0 b u, j), List.mem_zipIdx_iff_getElem?.mpr ?_, rfl⟩
  unfold zent at h1
  by_cases hj : j < as.length
  · rw [List.getElem?_append_left (by simpa using hj), List.getElem?_map] at h1
    rw [List.getElem?_map]
    cases ha : as[j]? with
    | none => rw [ha] at h1; cases h1
    | some a => rw [ha] at h1; cases h1; rfl
  · rw [List.getElem?_append_right (by simpa using hj), List.getElem?_replicate] at h1
    split at h1
    · cases h1
    · cases h1
theorem zvfit_ok {ty : FieldType} {v : Value} (b0 b : Nat) (h : zvfit ty v = true) : narrow ty (zcv b0 b v) = zcv b0 b v ∧ fits ty (zcv b0 b v) = true := by
  unfold zvfit at h
  split at h
  · exact ⟨rfl, rfl⟩
  · rename_i x
    simp only [Bool.or_eq_true, beq_iff_eq] at h
    rcases h with rfl | rfl <;> exact ⟨rfl, rfl⟩
  · exact ⟨rfl, rfl⟩
  · exact ⟨rfl, rfl⟩
  · cases h
theorem zgetD_set {l : List Int32} {i : Nat} {x : Int32} (h : i < l.length) : upd (fun j => l.getD j 0) i x = fun j => (l.set i x).getD j 0 := by
  funext j
  simp only [upd, List.getD_eq_getElem?_getD, List.getElem?_set]
  by_cases hj : j = i
  · subst hj; simp [h]
  · simp [hj, Ne.symm hj]
theorem zcpl_getD {l0 l1 : List Int32} {sp dp n : Nat} (h0 : sp + n ≤ l0.length) (h1 : dp + n ≤ l1.length) : va_cpy (fun j => l0.getD j 0) (fun j => l1.getD j 0) sp dp n = fun j => (zcpl l0 l1 sp dp n).getD j 0 := by
  funext j
  simp only [va_cpy, zcpl, List.getD_eq_getElem?_getD]
  by_cases hj : j < dp
  · rw [if_neg (by omega), List.getElem?_append_left (by simp; omega), List.getElem?_take, if_pos hj]
  · rw [List.getElem?_append_right (by simp; omega)]
    have e1 : (List.take dp l1).length = dp := by simp; omega
    rw [e1]
    by_cases hj2 : j < dp + n
    · rw [if_pos (by omega), List.getElem?_append_left (by simp; omega), List.getElem?_take, if_pos (by omega), List.getElem?_drop]
    · rw [if_neg (by omega), List.getElem?_append_right (by simp; omega)]
      have e2 : (List.take n (List.drop sp l0)).length = n := by simp; omega
      rw [e2, List.getElem?_drop]
      congr 2
      omega
theorem zcpl_len {l0 l1 : List Int32} {sp dp n : Nat} (h0 : sp + n ≤ l0.length) (h1 : dp + n ≤ l1.length) : (zcpl l0 l1 sp dp n).length = l1.length := by
  simp [zcpl]; omega
theorem zvp_in {i : Int32} {n : Nat} (h0 : ¬ i < 0) (h : i.toNatClampNeg < n) : vp_in i n := fun q => q.elim h0 (fun q => absurd h (Nat.not_lt.mpr q))
end
section
/-! one instruction that stays in its method -/
/-- where the script stands -/
def zScr (scr : List Int32) (b0 b : Nat) (s : State) : Prop := ∃ xs : Nat → Int32, va_X b scr.length xs s s.heap ∧ b < b0 ∧ ∀ j x, scr[j]? = some x → xs j = x
def zFrm (b0 b : Nat) (D : va_G) (cI cS : Nat) (r : zRec) (p : Program) (s : State) (m : MethodId) (args : Array Value) (meth : Method) (c : Code) : Prop :=
  p.tables.exec = Jvm.exec ∧ c.code = r.2.1 ∧ c.maxLocals = r.2.2.1 ∧ s.vm.findClass (zcn r.2.2.2.2.2.1) = some m.cls ∧ (∀ w ∈ zGW, w.before args s = true) ∧ (va_K D zcl [(cI, .int), (cS, .object RX3)] s ∧ va_AO RX3 s ∧ ∀ w ∈ zNW, va_Nw w s) ∧ (r.1.name = "<init>" → meth.name = "<init>")
section ZJ
variable {p : Program} {l : Launch} {e : Env} {R : Room} {s : State} {m : MethodId} {args : Array Value} {below : List Frame} {meth : Method} {c : Code} {H : Heap} {locs : List Loc} {cells slots : Nat} {Q : State → Prop}
theorem z_sz {g : JFrame} (k : H.size ≤ s.heap.size + cells → W p l e R s m args below meth c H locs cells slots Q g) : W p l e R s m args below meth c H locs cells slots Q g := by
  intro T hT X
  refine k ?_ T hT X
  have h := X.same.2.2.1
  rw [← hT]
  exact h
variable {b0 b L0 S0 cI cS : Nat} {D : va_G} {r : zRec} {w : zAW}
/-- the heap is just so large -/
theorem z_size (hb0 : b0 + L0 = s.heap.size) (hL0 : L0 ≤ w.length) (hP : va_P D zcl (zW b0 b cI cS w) H) (hS : va_S (fun q => b0 ≤ q) s.heap H locs) (h : H.size ≤ s.heap.size + (w.length - L0)) : H.size = b0 + w.length := by
  have h1 : b0 + w.length ≤ H.size := by
    by_cases hz : w.length = 0
    · have := hS.1
      omega
    · have hlt : w.length - 1 < w.length := by omega
      have := (hP _ _ (zW_get (List.getElem?_eq_getElem hlt))).lt
      dsimp only at this
      omega
  omega
variable {scr : List Int32} {mi pc pc' : Nat} {ls ls' : zLs} {st st' : List Value} {w' : zAW} {d : Instr × Nat} {lsA : Array Slot}
theorem z_new_at {H1 : Heap} {q : Nat} {x : va_E} (hb0 : b0 + L0 = s.heap.size) (hL0 : L0 ≤ w.length) (hP : va_P D zcl (zW b0 b cI cS w ++ [(q, x)]) H1) (hD : va_D (fun q => b0 ≤ q) (zW b0 b cI cS w ++ [(q, x)])) (h : H1.size ≤ s.heap.size + (w.length - L0 + 1)) : q = b0 + w.length := by
  have hlen : (zW b0 b cI cS w).length = w.length := by simp [zW]
  have e1 : (zW b0 b cI cS w ++ [(q, x)])[w.length]? = some (q, x) := by
    rw [List.getElem?_append_right (by omega), hlen, Nat.sub_self]; rfl
  have h1 := (hP _ _ e1).lt
  have h2 : b0 ≤ q := hD.2 _ _ e1
  dsimp only at h1
  by_cases hq : q < b0 + w.length
  · have hlt : q - b0 < w.length := by omega
    have e2 : (zW b0 b cI cS w ++ [(q, x)])[q - b0]? = some (b0 + (q - b0), zE b0 b cI cS (w[q - b0])) := by
      rw [List.getElem?_append_left (by omega)]
      exact zW_get (List.getElem?_eq_getElem hlt)
    have := hD.1 _ _ _ _ e1 e2 (by show q = b0 + (q - b0); omega)
    omega
  · omega
theorem zgf_some {a ci k : Nat} {v : Value} (h : zgf w a ci k = some v) : ∃ fs, w[a]? = some (.inr (.inr (ci, fs))) ∧ fs[k]? = some v := by
  unfold zgf at h
  split at h
  · rename_i c fs hw
    split at h
    · rename_i hc
      subst hc
      exact ⟨fs, hw, h⟩
    · cases h
  · cases h
theorem zpf_some {a ci k : Nat} {v : Value} (h : zpf w a ci k v = some w') : ∃ fs, w[a]? = some (.inr (.inr (ci, fs))) ∧ k < fs.length ∧ w' = w.set a (.inr (.inr (ci, fs.set k v))) := by
  unfold zpf at h
  split at h
  · rename_i c fs hw
    split at h
    · rename_i hc
      obtain ⟨rfl, hk⟩ := hc
      exact ⟨fs, hw, hk, (Option.some.inj h).symm⟩
    · cases h
  · cases h
theorem zal_some {a : Nat} {i x : Int32} (h : zal w a i = some x) : ∃ f, w[a]? = some (.inl f) ∧ ¬ i < 0 ∧ f[i.toNatClampNeg]? = some x := by
  unfold zal at h
  split at h
  · rename_i f hw
    split at h
    · cases h
    · rename_i hi
      exact ⟨f, hw, hi, h⟩
  · cases h
theorem zas_some {a : Nat} {i x : Int32} (h : zas w a i x = some w') : ∃ f, w[a]? = some (.inl f) ∧ ¬ i < 0 ∧ i.toNatClampNeg < f.length ∧ w' = w.set a (.inl (f.set i.toNatClampNeg x)) := by
  unfold zas at h
  split at h
  · rename_i f hw
    split at h
    · cases h
    · rename_i hi
      simp only [not_or, Nat.not_le] at hi
      exact ⟨f, hw, hi.1, hi.2, (Option.some.inj h).symm⟩
  · cases h
theorem zql_some {a x : Nat} {i : Int32} (h : zql w a i = some x) : ∃ f, w[a]? = some (.inr (.inl f)) ∧ ¬ i < 0 ∧ f[i.toNatClampNeg]? = some (some x) := by
  unfold zql at h
  split at h
  · rename_i f hw
    split at h
    · cases h
    · rename_i hi
      split at h
      · rename_i y hy
        cases h
        exact ⟨f, hw, hi, hy⟩
      · cases h
  · cases h
theorem zqs_some {a x : Nat} {i : Int32} (h : zqs w a i x = some w') : ∃ f fs, w[a]? = some (.inr (.inl f)) ∧ ¬ i < 0 ∧ i.toNatClampNeg < f.length ∧ w[x]? = some (.inr (.inr (3, fs))) ∧ w' = w.set a (.inr (.inl (f.set i.toNatClampNeg (some x)))) := by
  unfold zqs at h
  split at h
  · rename_i f hw
    split at h
    · cases h
    · rename_i hi
      simp only [not_or, Nat.not_le] at hi
      split at h
      · rename_i fs hx
        exact ⟨f, fs, hw, hi.1, hi.2, hx, (Option.some.inj h).symm⟩
      · cases h
  · cases h
theorem zcp_some {a0 a1 : Nat} {sp dp n : Int32} (h : zcp w a0 sp a1 dp n = some w') : ∃ l0 l1, w[a0]? = some (.inl l0) ∧ w[a1]? = some (.inl l1) ∧ ¬ sp < 0 ∧ ¬ dp < 0 ∧ ¬ n < 0 ∧ sp.toNatClampNeg + n.toNatClampNeg ≤ l0.length ∧ dp.toNatClampNeg + n.toNatClampNeg ≤ l1.length ∧ w' = w.set a1 (.inl (zcpl l0 l1 sp.toNatClampNeg dp.toNatClampNeg n.toNatClampNeg)) := by
  unfold zcp at h
  split at h
  · rename_i l0 l1 h0 h1
    split at h
    · cases h
    · rename_i hi
      simp only [not_or, Nat.not_lt] at hi
      exact ⟨l0, l1, h0, h1, hi.1, hi.2.1, hi.2.2.1, hi.2.2.2.1, hi.2.2.2.2, (Option.some.inj h).symm⟩
  · cases h
theorem zjmp_some {off : Int} {nx : zNx} (h : zjmp pc off ls st w = some nx) : ∃ t : Nat, (pc : Int) + off = (t : Int) ∧ nx = .inl (t, ls, st, w) := by
  unfold zjmp at h
  split at h
  · rename_i h0
    exact ⟨((pc : Int) + off).toNat, (Int.toNat_of_nonneg h0).symm, (Option.some.inj h).symm⟩
  · cases h
theorem zcallV_some {mj : Nat} {nx : zNx} (h : zcallV r mj ls st w = some nx) : ∃ (rj : zRec) (a : Nat) (rest : List Value) (fs : List Value), zMs[mj]? = some rj ∧ st.drop rj.2.2.2.2.2.2.2 = .ref a :: rest ∧ rj.2.2.2.2.2.2.1 + 1 ≤ r.2.2.2.2.2.2.1 ∧ rest.length ≤ 8 ∧ mj < 95 ∧ rj.2.2.2.2.2.2.2 + 1 ≤ rj.2.2.1 ∧ w[a]? = some (.inr (.inr (rj.2.2.2.2.2.1, fs))) ∧ nx = .inr (.inl (mj, .ref a :: (st.take rj.2.2.2.2.2.2.2).reverse, ls, rest)) := by
  unfold zcallV at h
  split at h
  · rename_i rj hm
    split at h
    · rename_i a rest hd
      split at h
      · rename_i hc
        split at h
        · rename_i c fs hw
          split at h
          · rename_i hcc
            subst hcc
            exact ⟨rj, a, rest, fs, hm, hd, hc.1, hc.2.1, hc.2.2.1, hc.2.2.2, hw, (Option.some.inj h).symm⟩
          · cases h
        · cases h
      · cases h
    · cases h
  · cases h
theorem zcallS_some {mj : Nat} {nx : zNx} (h : zcallS mi r mj ls st = some nx) : ∃ (rj : zRec), zMs[mj]? = some rj ∧ rj.2.2.2.2.2.2.1 + 1 ≤ r.2.2.2.2.2.2.1 ∧ st.length ≤ 8 + rj.2.2.2.2.2.2.2 ∧ rj.2.2.2.2.2.2.2 ≤ st.length ∧ (mj < 95 ∨ (mj = 95 ∧ mi = 96)) ∧ rj.2.2.2.2.2.2.2 ≤ rj.2.2.1 ∧ nx = .inr (.inl (mj, (st.take rj.2.2.2.2.2.2.2).reverse, ls, st.drop rj.2.2.2.2.2.2.2)) := by
  unfold zcallS at h
  split at h
  · rename_i rj hm
    split at h
    · rename_i hc
      exact ⟨rj, hm, hc.1, hc.2.1, hc.2.2.1, hc.2.2.2.1, hc.2.2.2.2, (Option.some.inj h).symm⟩
    · cases h
  · cases h
/-- what an instruction that stays in its method asks of the walk behind it -/
def zNext (p : Program) (l : Launch) (e : Env) (R : Room) (s : State) (m : MethodId) (args : Array Value) (below : List Frame) (meth : Method) (c : Code) (Q : State → Prop) (b0 b cI cS : Nat) (D : va_G) (L0 S0 nL : Nat) (pc : Nat) (ls : zLs) (st : List Value) (w : zAW) : Prop :=
  ∀ (H : Heap) (locs : List Loc) (lsA : Array Slot), va_P D zcl (zW b0 b cI cS w) H → va_S (fun q => b0 ≤ q) s.heap H locs → lv_has lsA nL (zlv b0 b ls) → ls.length = nL →
    W p l e R s m args below meth c H locs (w.length - L0) (zsz w - S0) Q (F0 m pc lsA (st.map (zcv b0 b)))
theorem zI_mono (h : zI scr mi r pc ls st w d = some (.inl (pc', ls', st', w'))) : w.length ≤ w'.length ∧ zsz w ≤ zsz w' := by
  have key : ∀ {nx : zNx}, zI scr mi r pc ls st w d = some nx → ∀ q, nx = .inl q → w.length ≤ q.2.2.2.length ∧ zsz w ≤ zsz q.2.2.2 := by
    intro nx h q hq
    unfold zI at h
    repeat' split at h
    all_goals first
      | (cases h; cases hq; exact ⟨Nat.le_refl _, Nat.le_refl _⟩)
      | (cases h; done)
      | (unfold zbr at h; split at h <;> first | (split at h <;> first | (cases h; done) | (cases h; cases hq; exact ⟨Nat.le_refl _, Nat.le_refl _⟩)) | (obtain ⟨t, -, rfl⟩ := zjmp_some h; cases hq; exact ⟨Nat.le_refl _, Nat.le_refl _⟩))
      | (obtain ⟨t, -, rfl⟩ := zjmp_some h; cases hq; exact ⟨Nat.le_refl _, Nat.le_refl _⟩)
      | (obtain ⟨rj, a, rest, fs, -, -, -, -, -, -, -, rfl⟩ := zcallV_some h; cases hq)
      | (obtain ⟨rj, -, -, -, -, -, -, rfl⟩ := zcallS_some h; cases hq)
      | skip
    all_goals cases h; cases hq
    · rename_i hp
      obtain ⟨fs, h1, h2, rfl⟩ := zpf_some hp
      exact ⟨by simp, Nat.le_of_eq (zsz_set h1 (by simp [zc1s])).symm⟩
    · rename_i hp
      obtain ⟨f, h1, h2, h3, rfl⟩ := zas_some hp
      exact ⟨by simp, Nat.le_of_eq (zsz_set h1 (by simp [zc1s])).symm⟩
    · rename_i hp
      obtain ⟨f, fs, h1, h2, h3, h4, rfl⟩ := zqs_some hp
      exact ⟨by simp, Nat.le_of_eq (zsz_set h1 (by simp [zc1s])).symm⟩
    · exact ⟨by simp, by dsimp only; rw [zsz_app]; omega⟩
    · exact ⟨by simp, by dsimp only; rw [zsz_app]; omega⟩
    · exact ⟨by simp, by dsimp only; rw [zsz_app]; omega⟩
    · rename_i hp
      obtain ⟨l0, l1, h0, h1, -, -, -, h5, h6, rfl⟩ := zcp_some hp
      exact ⟨by simp, Nat.le_of_eq (zsz_set h1 (by simp [zc1s, zcpl_len h5 h6])).symm⟩
  exact key h _ rfl
end ZJ
end
section
section ZJ2
variable {p : Program} {l : Launch} {e : Env} {R : Room} {s : State} {m : MethodId} {args : Array Value} {below : List Frame} {meth : Method} {c : Code} {H : Heap} {locs : List Loc} {Q : State → Prop}
variable {b0 b L0 S0 cI cS : Nat} {D : va_G} {r : zRec} {w : zAW}
variable {scr : List Int32} {mi pc pc' : Nat} {ls ls' : zLs} {st st' : List Value} {w' : zAW} {d : Instr × Nat} {lsA : Array Slot}
theorem zrest (b0 b : Nat) (t : List Value) : ((t.map (zcv b0 b)).map fun v => v.category).sum = t.length := by
  induction t with
  | nil => rfl
  | cons a t ih =>
    simp only [List.map_cons, List.sum_cons, zcv_cat, ih, List.length_cons]
    omega
theorem z_field {own i : Nat} {q : Nat × Nat} (h : zfind2 zFt own i = some q) : ∃ N, zcl[q.1]? = some (zcn q.1, zT q.1, N) ∧ q.2 < N ∧ Cond.fieldLink (zcn own) i (zcn q.1) (zT q.1 q.2).2.1 (zT q.1 q.2).2.2.1 ∈ zGW ∧ (∀ w ∈ u_ws (zcn q.1) (zT q.1) N, w ∈ zGW) ∧ (∀ k, k < N → parseFieldDescriptor ((zT q.1) k).2.2.1 = some (zTy q.1 k)) ∧ (∀ a, a < N → ∀ b, b < N → a ≠ b → ((zT q.1) a).2.1 ≠ ((zT q.1) b).2.1) ∧ ∀ k, ((zT q.1) k).1 = zcn q.1 := by
  obtain ⟨x, h1, h2, h3⟩ := zFt_ok _ (zfind2_mem h)
  obtain ⟨e, g1, g2, g3, g4⟩ := zcl_ok h1
  obtain ⟨C, T, N⟩ := x
  cases e
  exact ⟨N, h1, h2, h3, g1, g2, g3, g4⟩
theorem zW_set' {k : Nat} {x : va_E} {x' : zAC} (h : x = zE b0 b cI cS x') : (zW b0 b cI cS w).set k (b0 + k, x) = zW b0 b cI cS (w.set k x') := by rw [h]; exact zW_set ..
theorem z_if0 {cc : ClassFile.Cond} {off : Int} {x : Int32} {t : List Value} {nx : zNx} {cells slots : Nat} {T : List Value} (hx : p.tables.exec = Jvm.exec) {b : ByteArray} (hb : c.code = b) (hdec : decode b pc = .ok (.ifCond cc off, 3)) (h : zbr (zcmp0 cc x) pc off ls t w = some nx) : ∃ t1, nx = .inl (t1, ls, t, w) ∧ (W p l e R s m args below meth c H locs cells slots Q (F0 m t1 lsA T) → W p l e R s m args below meth c H locs cells slots Q (F0 m pc lsA (.int x :: T))) := by
  unfold zbr at h
  split at h
  · rename_i hc
    obtain ⟨tg, ht, e1⟩ := zjmp_some h
    refine ⟨tg, e1, fun k => ?_⟩
    cases cc <;> simp only [zcmp0, decide_eq_true_eq] at hc
    · exact lv_if_eq hx hb hdec ht (fun _ => k) (fun q => absurd hc q)
    · exact lv_if_ne hx hb hdec ht (fun _ => k) (fun q => absurd q hc)
    · exact lv_if_lt hx hb hdec ht (fun _ => k) (fun q => absurd hc q)
    · exact lv_if_ge hx hb hdec ht (fun _ => k) (fun q => absurd hc q)
    · exact lv_if_gt hx hb hdec ht (fun _ => k) (fun q => absurd hc q)
    · exact lv_if_le hx hb hdec ht (fun _ => k) (fun q => absurd hc q)
  · rename_i hc
    split at h
    · rename_i ht
      refine ⟨pc + 3, (Option.some.inj h).symm, fun k => ?_⟩
      have ht := (Int.toNat_of_nonneg ht).symm
      cases cc <;> simp only [zcmp0, decide_eq_false_iff_not, Decidable.not_not] at hc
      · exact lv_if_eq hx hb hdec ht (fun q => absurd q hc) (fun _ => k)
      · exact lv_if_ne hx hb hdec ht (fun q => absurd hc q) (fun _ => k)
      · exact lv_if_lt hx hb hdec ht (fun q => absurd q hc) (fun _ => k)
      · exact lv_if_ge hx hb hdec ht (fun q => absurd q hc) (fun _ => k)
      · exact lv_if_gt hx hb hdec ht (fun q => absurd q hc) (fun _ => k)
      · exact lv_if_le hx hb hdec ht (fun q => absurd q hc) (fun _ => k)
    · cases h
theorem z_if2 {cc : ClassFile.Cond} {off : Int} {x y : Int32} {t : List Value} {nx : zNx} {cells slots : Nat} {T : List Value} (hx : p.tables.exec = Jvm.exec) {b : ByteArray} (hb : c.code = b) (hdec : decode b pc = .ok (.if_icmp cc off, 3)) (h : zbr (zcmp2 cc x y) pc off ls t w = some nx) : ∃ t1, nx = .inl (t1, ls, t, w) ∧ (W p l e R s m args below meth c H locs cells slots Q (F0 m t1 lsA T) → W p l e R s m args below meth c H locs cells slots Q (F0 m pc lsA (.int y :: .int x :: T))) := by
  unfold zbr at h
  split at h
  · rename_i hc
    obtain ⟨tg, ht, e1⟩ := zjmp_some h
    refine ⟨tg, e1, fun k => ?_⟩
    cases cc <;> simp only [zcmp2, decide_eq_true_eq] at hc
    · exact lv_icmp_eq hx hb hdec ht (fun _ => k) (fun q => absurd hc q)
    · exact lv_icmp_ne hx hb hdec ht (fun _ => k) (fun q => absurd q hc)
    · exact lv_icmp_lt hx hb hdec ht (fun _ => k) (fun q => absurd hc q)
    · exact lv_icmp_ge hx hb hdec ht (fun _ => k) (fun q => absurd hc q)
    · exact lv_icmp_gt hx hb hdec ht (fun _ => k) (fun q => absurd hc q)
    · exact lv_icmp_le hx hb hdec ht (fun _ => k) (fun q => absurd hc q)
  · rename_i hc
    split at h
    · rename_i ht
      refine ⟨pc + 3, (Option.some.inj h).symm, fun k => ?_⟩
      have ht := (Int.toNat_of_nonneg ht).symm
      cases cc <;> simp only [zcmp2, decide_eq_false_iff_not, Decidable.not_not] at hc
      · exact lv_icmp_eq hx hb hdec ht (fun q => absurd q hc) (fun _ => k)
      · exact lv_icmp_ne hx hb hdec ht (fun q => absurd hc q) (fun _ => k)
      · exact lv_icmp_lt hx hb hdec ht (fun q => absurd q hc) (fun _ => k)
      · exact lv_icmp_ge hx hb hdec ht (fun q => absurd q hc) (fun _ => k)
      · exact lv_icmp_gt hx hb hdec ht (fun q => absurd q hc) (fun _ => k)
      · exact lv_icmp_le hx hb hdec ht (fun q => absurd q hc) (fun _ => k)
    · cases h
theorem zdef_map {fs : List Value} (h : (fs.all fun v => decide (v = .int 0 ∨ v = .null)) = true) : fs.map (zcv b0 b) = fs := by
  conv => rhs; rw [← List.map_id fs]
  apply List.map_congr_left
  intro v hv
  have h1 := of_decide_eq_true (List.all_eq_true.mp h v hv)
  rcases h1 with rfl | rfl <;> rfl
set_option maxHeartbeats 4000000 in
theorem zI_jump (hF : zFrm b0 b D cI cS r p s m args meth c) (hb0 : b0 + L0 = s.heap.size) (hL0 : L0 ≤ w.length) (hS0 : S0 ≤ zsz w) (hdec : decode r.2.1 pc = .ok d) (hdep : r.2.2.2.2.2.2.1 ≤ R.frames ∧ 37 * r.2.2.2.2.2.2.1 ≤ R.locals)
    (hscr : 94 < mi → zScr scr b0 b s)
    (h : zI scr mi r pc ls st w d = some (.inl (pc', ls', st', w'))) (hroom : w'.length - L0 ≤ R.cells ∧ zsz w' - S0 ≤ R.slots)
    (k : zNext p l e R s m args below meth c Q b0 b cI cS D L0 S0 r.2.2.1 pc' ls' st' w') : zNext p l e R s m args below meth c Q b0 b cI cS D L0 S0 r.2.2.1 pc ls st w := by
  intro H locs lsA hP hS hL hLen
  obtain ⟨hx, hb, hml, hown, hts, ⟨hK, hAO, hNW⟩, hname⟩ := hF
  have hbA : b < b0 → ¬ (fun q => b0 ≤ q) b := fun h q => absurd h (Nat.not_lt.mpr q)
  unfold zI at h
  split at h
  · cases h; exact lv_iconst hx hb hdec rfl (k H locs lsA hP hS hL hLen)
  · cases h; exact lv_bipush hx hb hdec rfl (k H locs lsA hP hS hL hLen)
  · cases h; exact lv_sipush hx hb hdec rfl (k H locs lsA hP hS hL hLen)
  · split at h
    · rename_i x hl
      cases h; exact lv_iload_n hx hb hdec rfl (zld_at hL hl) (k H locs lsA hP hS hL hLen)
    · cases h
  · split at h
    · rename_i x hl
      cases h; exact lv_iload hx hb hdec (zld_at hL hl) (k H locs lsA hP hS hL hLen)
    · cases h
  · split at h
    · rename_i x hl
      cases h; exact lv_aload_n hx hb hdec rfl (zld_at hL hl) (k H locs lsA hP hS hL hLen)
    · rename_i x hl
      cases h; exact lv_aload_n hx hb hdec rfl (zld_at hL hl) (k H locs lsA hP hS hL hLen)
    · cases h
  · split at h
    · rename_i x hl
      cases h; exact lv_aload hx hb hdec (zld_at hL hl) (k H locs lsA hP hS hL hLen)
    · cases h
  · split at h
    · rename_i q hq
      cases h
      exact lv_ldc hx hb hown (hts _ (zKt_ok _ (zfind2_mem hq))) hdec (k H locs lsA hP hS hL hLen)
    · cases h
  · split at h
    · split at h
      · rename_i hlt
        cases h
        exact lv_istore_n hx hb hdec rfl hL (by omega) rfl (fun ls2 h2 => k H locs ls2 hP hS (zlv_set rfl h2) (by simpa using hLen))
      · cases h
    · cases h
  · split at h
    · split at h
      · rename_i hlt
        cases h
        exact lv_istore hx hb hdec hL (by omega) rfl (fun ls2 h2 => k H locs ls2 hP hS (zlv_set rfl h2) (by simpa using hLen))
      · cases h
    · cases h
  · split at h
    · split at h
      · rename_i hlt
        cases h
        exact lv_astore_n hx hb hdec rfl hL (by omega) rfl (fun ls2 h2 => k H locs ls2 hP hS (zlv_set rfl h2) (by simpa using hLen))
      · cases h
    · cases h
  · split at h
    · split at h
      · rename_i hlt
        cases h
        exact lv_astore hx hb hdec hL (by omega) rfl (fun ls2 h2 => k H locs ls2 hP hS (zlv_set rfl h2) (by simpa using hLen))
      · cases h
    · cases h
  · split at h
    · rename_i x hl
      cases h
      obtain ⟨j, hj⟩ := zlv_idx (b0 := b0) (b := b) hl
      have := zld_lt hl
      exact lv_iinc hx hb hdec hL hj rfl (by omega) rfl (fun ls2 h2 => k H locs ls2 hP hS (zlv_set rfl h2) (by simpa using hLen))
    · cases h
  · split at h
    · cases h; exact lv_iadd hx hb hdec (k H locs lsA hP hS hL hLen)
    · cases h
  · split at h
    · cases h; exact lv_isub hx hb hdec (k H locs lsA hP hS hL hLen)
    · cases h
  · split at h
    · cases h; exact lv_imul hx hb hdec (k H locs lsA hP hS hL hLen)
    · cases h
  · split at h
    · cases h; exact lv_iand hx hb hdec (k H locs lsA hP hS hL hLen)
    · cases h
  · split at h
    · cases h; exact lv_ior hx hb hdec (k H locs lsA hP hS hL hLen)
    · cases h
  · split at h
    · cases h; exact lv_ishl hx hb hdec (k H locs lsA hP hS hL hLen)
    · cases h
  · split at h
    · cases h; exact lv_ishr hx hb hdec (k H locs lsA hP hS hL hLen)
    · cases h
  · split at h
    · split at h
      · cases h
      · rename_i hy
        cases h; exact lv_idiv hx hb hdec hy (k H locs lsA hP hS hL hLen)
    · cases h
  · split at h
    · split at h
      · cases h
      · rename_i hy
        cases h; exact lv_irem hx hb hdec hy (k H locs lsA hP hS hL hLen)
    · cases h
  · split at h
    · cases h; exact lv_ineg hx hb hdec (k H locs lsA hP hS hL hLen)
    · cases h
  · split at h
    · cases h; exact lv_dup hx hb hdec (zcv_cat _ _ _) (k H locs lsA hP hS hL hLen)
    · cases h
  · split at h
    · cases h; exact lv_dup2_11 hx hb hdec (zcv_cat _ _ _) (zcv_cat _ _ _) (k H locs lsA hP hS hL hLen)
    · cases h
  · split at h
    · cases h; exact lv_pop hx hb hdec (zcv_cat _ _ _) (k H locs lsA hP hS hL hLen)
    · cases h
  · split at h
    · obtain ⟨t1, e1, hk⟩ := z_if0 hx hb hdec h
      cases e1; exact hk (k H locs lsA hP hS hL hLen)
    · cases h
  · split at h
    · obtain ⟨t1, e1, hk⟩ := z_if2 hx hb hdec h
      cases e1; exact hk (k H locs lsA hP hS hL hLen)
    · cases h
  · obtain ⟨t1, ht, e1⟩ := zjmp_some h
    cases e1; exact lv_goto hx hb hdec ht (k H locs lsA hP hS hL hLen)
  · split at h
    · split at h
      · split at h
        · rename_i q hq _ v hv
          cases h
          obtain ⟨N, f1, f2, f3, f4, f5, f6, f7⟩ := z_field hq
          obtain ⟨fs, g1, g2⟩ := zgf_some hv
          exact va_get hx hb hts f4 hown hK hP _ (zW_get g1) f1 q.2 f2 (hts _ f3) (fun y hy => by rw [← f7 q.2]; exact hy) (v := zcv b0 b v) (by show (fs.map _)[q.2]? = _; rw [List.getElem?_map, g2]; rfl) hdec (k H locs lsA hP hS hL hLen)
        · cases h
      · cases h
    · cases h
  · split at h
    · split at h
      · split at h
        · split at h
          · rename_i v a t _ q hq hok _ w1 hw1
            cases h
            obtain ⟨N, f1, f2, f3, f4, f5, f6, f7⟩ := z_field hq
            obtain ⟨fs, g1, g2, rfl⟩ := zpf_some hw1
            simp only [zpok, Bool.and_eq_true, Bool.or_eq_true, Bool.not_eq_true', decide_eq_true_eq] at hok
            obtain ⟨hv, hfin⟩ := hok
            obtain ⟨v1, v2⟩ := zvfit_ok b0 b hv
            have e1 : ((zW b0 b cI cS w).set a (b0 + a, Sum.inr (q.1, (fs.map (zcv b0 b)).set q.2 (zcv b0 b v)))) = zW b0 b cI cS (w.set a (.inr (.inr (q.1, fs.set q.2 v)))) := zW_set' (by simp [zE, List.map_set])
            have hl2 : q.2 < (fs.map (zcv b0 b)).length := by simpa using g2
            have hsz : zsz (w.set a (.inr (.inr (q.1, fs.set q.2 v)))) = zsz w := zsz_set g1 (by simp [zc1s])
            rcases hfin with hfin | ⟨hi, ho⟩
            · exact va_put hx hb hts f4 (zTy q.1) f5 f6 hown hK hP (zW_D b0 b cI cS w) hS _ (zW_get g1) f1 q.2 f2 (hts _ f3) (fun y hy => by rw [← f7 q.2]; exact hy) hfin (f5 q.2 f2) v1 v2 hl2 hdec (fun H1 locs1 hP1 _ hS1 => by
                rw [e1] at hP1
                have := k H1 locs1 lsA hP1 hS1 hL hLen
                rw [hsz, List.length_set] at this
                exact this)
            · by_cases hfin : (zT q.1 q.2).2.2.2 = true
              · exact va_putF hx hb hts f4 (zTy q.1) f5 f6 hown hK hP (zW_D b0 b cI cS w) hS _ (zW_get g1) f1 q.2 f2 (hts _ f3) (fun y hy => by rw [← f7 q.2]; exact hy) hfin (hname hi) (by rw [f7 q.2, ho]) (f5 q.2 f2) v1 v2 hl2 hdec (fun H1 locs1 hP1 _ hS1 => by
                rw [e1] at hP1
                have := k H1 locs1 lsA hP1 hS1 hL hLen
                rw [hsz, List.length_set] at this
                exact this)
              · exact va_put hx hb hts f4 (zTy q.1) f5 f6 hown hK hP (zW_D b0 b cI cS w) hS _ (zW_get g1) f1 q.2 f2 (hts _ f3) (fun y hy => by rw [← f7 q.2]; exact hy) (by simpa using hfin) (f5 q.2 f2) v1 v2 hl2 hdec (fun H1 locs1 hP1 _ hS1 => by
                rw [e1] at hP1
                have := k H1 locs1 lsA hP1 hS1 hL hLen
                rw [hsz, List.length_set] at this
                exact this)
          · cases h
        · cases h
      · cases h
    · cases h
  · split at h
    · split at h
      · rename_i x hx1
        cases h
        obtain ⟨f, g1, g2, g3⟩ := zal_some hx1
        have hlt := (List.getElem?_eq_some_iff.mp g3).1
        refine va_iald hx hb hK hP _ 0 (zW_get g1) rfl (zvp_in g2 hlt) hdec ?_
        simp only [List.getD_eq_getElem?_getD, g3, Option.getD_some]
        exact k H locs lsA hP hS hL hLen
      · cases h
    · split at h
      · split at h
        · rename_i hmi _ x hx1
          cases h
          obtain ⟨xs, hX, hbl, hxs⟩ := hscr hmi.1
          have hlt := (List.getElem?_eq_some_iff.mp hx1).1
          refine va_sld hx hb hX (by omega) (hbA hbl) hS (zvp_in hmi.2 hlt) hdec ?_
          rw [hxs _ _ hx1]
          exact k H locs lsA hP hS hL hLen
        · cases h
      · cases h
    · cases h
  · split at h
    · split at h
      · rename_i hmi
        cases h
        obtain ⟨xs, hX, hbl, hxs⟩ := hscr hmi
        exact va_slen hx hb hX (by omega) (hbA hbl) hS hdec (k H locs lsA hP hS hL hLen)
      · cases h
    · cases h
  · split at h
    · split at h
      · rename_i x i a t _ w1 hw1
        cases h
        obtain ⟨f, g1, g2, g3, rfl⟩ := zas_some hw1
        refine va_iast hx hb hK hP (zW_D b0 b cI cS w) hS _ 0 (zW_get g1) rfl (zvp_in g2 g3) hdec (fun H1 locs1 hP1 _ hS1 => ?_)
        rw [zW_set' (x' := .inl (f.set i.toNatClampNeg x)) (by simp only [zE, zgetD_set g3, List.length_set])] at hP1
        have := k H1 locs1 lsA hP1 hS1 hL hLen
        rw [zsz_set g1 (by simp [zc1s]), List.length_set] at this
        exact this
      · cases h
    · cases h
  · split at h
    · split at h
      · rename_i x hx1
        cases h
        obtain ⟨f, g1, g2, g3⟩ := zql_some hx1
        have hlt := (List.getElem?_eq_some_iff.mp g3).1
        refine va_aldq hx hb hK hP _ 1 (zW_get g1) rfl (zvp_in g2 hlt) hdec ?_
        simp only [List.getD_eq_getElem?_getD, g3, Option.getD_some]
        exact k H locs lsA hP hS hL hLen
      · cases h
    · cases h
  · split at h
    · split at h
      · rename_i x i a t _ w1 hw1
        cases h
        obtain ⟨f, fs, g1, g2, g3, g4, rfl⟩ := zqs_some hw1
        refine va_astq hx hb hK hP (zW_D b0 b cI cS w) hS _ 1 _ 3 (r := (RX3, TX3, 11)) (zW_get g1) rfl (zW_get g4) rfl (zvp_in g2 g3) hdec (fun H1 locs1 hP1 _ hS1 => ?_)
        have e2 : va_up (fun i => (f.getD i none).map (fun a => b0 + a)) i.toNatClampNeg (some (b0 + x)) = fun j => ((f.set i.toNatClampNeg (some x)).getD j none).map (fun a => b0 + a) := by
          funext j
          simp only [va_up, List.getD_eq_getElem?_getD, List.getElem?_set]
          by_cases hj : j = i.toNatClampNeg
          · subst hj; simp [g3]
          · simp [hj, Ne.symm hj]
        rw [zW_set' (x' := .inr (.inl (f.set i.toNatClampNeg (some x)))) (by simp only [zE, e2, List.length_set])] at hP1
        have := k H1 locs1 lsA hP1 hS1 hL hLen
        rw [zsz_set g1 (by simp [zc1s]), List.length_set] at this
        exact this
      · cases h
    · cases h
  · split at h
    · split at h
      · rename_i _ q hq _ fs hfs
        cases h
        obtain ⟨qv, h1, h2, h3, h4, h5, fs', h6, h7, h8, h9⟩ := zNt_ok _ (zfind2_mem hq)
        obtain ⟨e, g1, g2, g3, g4⟩ := zcl_ok h1
        obtain ⟨C, T, N⟩ := qv
        cases e
        cases hfs.symm.trans h6
        have hmap : fs.map (zcv b0 b) = fs := zdef_map h8
        dsimp only at h2
        subst h2
        have hN : q.2 = fs.length := h7.symm
        have hlen : (w ++ [Sum.inr (Sum.inr (q.1, fs))]).length - L0 = w.length - L0 + 1 := by simp; omega
        have hszz : zsz (w ++ [Sum.inr (Sum.inr (q.1, fs))]) - S0 = zsz w - S0 + q.2 := by rw [zsz_app]; simp only [zc1s]; omega
        rw [hlen, hszz] at hroom
        refine va_new hx hb hts g1 (zTy q.1) g2 hown (hts _ h3) (hts _ h4) (hts _ h5) hK hP (zW_D b0 b cI cS w) hS (fun q h => by omega) h1 h9 hroom.1 hroom.2 hdec (fun qa H1 hP1 hD1 hS1 => ?_)
        refine z_sz fun hsz => ?_
        have hqa := z_new_at hb0 hL0 hP1 hD1 hsz
        subst hqa
        have hP2 : va_P D zcl (zW b0 b cI cS (w ++ [Sum.inr (Sum.inr (q.1, fs))])) H1 := by
          rw [zW_app]
          simp only [zE, hmap]
          exact hP1
        have := k H1 locs lsA hP2 hS1 hL hLen
        rw [hlen, hszz] at this
        exact this
      · cases h
    · cases h
  · split at h
    · split at h
      · rename_i n t hn
        cases h
        have hlen : (w ++ [Sum.inl (List.replicate n.toNatClampNeg 0)] : zAW).length - L0 = w.length - L0 + 1 := by simp; omega
        have hszz : zsz (w ++ [Sum.inl (List.replicate n.toNatClampNeg 0)]) - S0 = zsz w - S0 + n.toNatClampNeg := by rw [zsz_app]; simp only [zc1s, List.length_replicate]; omega
        rw [hlen, hszz] at hroom
        refine va_newa hx hb (atype := .int) (hts _ zarrc) rfl hK hP (zW_D b0 b cI cS w) hS (fun q h => by omega) (a0 := (n.toNatClampNeg, .inl (fun _ => 0))) (N' := n.toNatClampNeg) (fun cA => by rw [vp_cell_i]; rfl) hn.1 rfl (by show _ * 4 ≤ _; omega) hroom.1 hroom.2 hdec (fun qa cA H1 hK1 hP1 hD1 hS1 => ?_)
        refine z_sz fun hsz => ?_
        have hqa := z_new_at hb0 hL0 hP1 hD1 hsz
        subst hqa
        have hcA : cA = cI := by
          have h1 : s.vm.findClass _ = some cI := (hK.2 0 _ rfl).2
          have h2 : s.vm.findClass _ = some cA := (hK1.2 2 _ rfl).2
          exact Option.some.inj (h2.symm.trans h1)
        subst hcA
        have hP2 : va_P D zcl (zW b0 b cA cS (w ++ [Sum.inl (List.replicate n.toNatClampNeg 0)])) H1 := by
          rw [zW_app]
          have e1 : (fun i => (List.replicate n.toNatClampNeg (0 : Int32)).getD i 0) = fun _ => 0 := by
            funext j
            rw [List.getD_eq_getElem?_getD, List.getElem?_replicate]
            split <;> rfl
          simp only [zE, e1, List.length_replicate]
          exact hP1
        have := k H1 locs lsA hP2 hS1 hL hLen
        rw [hlen, hszz] at this
        exact this
      · cases h
    · cases h
  · split at h
    · split at h
      · rename_i n t _ u hq
        split at h
        · rename_i hn
          cases h
          obtain ⟨qv, h1, h2, h3, h4, h5, -⟩ := zNt_ok _ (zfind2_mem hq)
          have hlen : (w ++ [Sum.inr (Sum.inl (List.replicate n.toNatClampNeg none))] : zAW).length - L0 = w.length - L0 + 1 := by simp; omega
          have hszz : zsz (w ++ [Sum.inr (Sum.inl (List.replicate n.toNatClampNeg none))]) - S0 = zsz w - S0 + n.toNatClampNeg := by rw [zsz_app]; simp only [zc1s, List.length_replicate]; omega
          rw [hlen, hszz] at hroom
          refine va_newq hx hb hown (hts _ h3) hAO hK hP (zW_D b0 b cI cS w) hS (fun q h => by omega) (N' := n.toNatClampNeg) hn.1 rfl (by omega) hroom.1 hroom.2 hdec (fun qa cA H1 hK1 hP1 hD1 hS1 => ?_)
          refine z_sz fun hsz => ?_
          have hqa := z_new_at hb0 hL0 hP1 hD1 hsz
          subst hqa
          have hcA : cA = cS := by
            obtain ⟨_, _, _, _, _, h1⟩ := (hK.2 1 _ rfl).2
            obtain ⟨_, _, _, _, _, h2⟩ := (hK1.2 2 _ rfl).2
            exact Option.some.inj (h2.symm.trans h1)
          subst hcA
          have hP2 : va_P D zcl (zW b0 b cI cA (w ++ [Sum.inr (Sum.inl (List.replicate n.toNatClampNeg none))])) H1 := by
            rw [zW_app]
            have e1 : (fun i => ((List.replicate n.toNatClampNeg (none : Option Nat)).getD i none).map (fun a => b0 + a)) = fun _ => none := by
              funext j
              rw [List.getD_eq_getElem?_getD, List.getElem?_replicate]
              split <;> rfl
            simp only [zE, e1, List.length_replicate]
            exact hP1
          have := k H1 locs lsA hP2 hS1 hL hLen
          rw [hlen, hszz] at this
          exact this
        · cases h
      · cases h
    · cases h
  · split at h
    · obtain ⟨rj, a, rest, fs, -, -, -, -, -, -, -, e1⟩ := zcallV_some h
      cases e1
    · cases h
  · split at h
    · obtain ⟨rj, a, rest, fs, -, -, -, -, -, -, -, e1⟩ := zcallV_some h
      cases e1
    · obtain ⟨rj, a, rest, fs, -, -, -, -, -, -, -, e1⟩ := zcallV_some h
      cases e1
    · split at h
      · split at h
        · rename_i hq _ _ _ hn
          cases h
          have hk := zCt_ok _ (zfind2_mem hq)
          refine W.objInit hx hb hown (hts _ hk) (hts _ zobj.1) (hts _ zobj.2) rfl (hL.1.trans hml.symm) rfl hdec (by omega) ?_ (k H locs lsA hP hS hL hLen)
          show 2 * 0 + _ + 12 ≤ _
          rw [zrest]
          omega
        · cases h
      · cases h
    · cases h
  · split at h
    · obtain ⟨rj, -, -, -, -, -, -, e1⟩ := zcallS_some h
      cases e1
    · obtain ⟨rj, -, -, -, -, -, -, e1⟩ := zcallS_some h
      cases e1
    · rename_i hq
      have hk := zCt_ok _ (zfind2_mem hq)
      split at h
      · split at h
        · split at h
          · rename_i n dp a1 sp a0 t hn _ w1 hw1
            cases h
            obtain ⟨l0, l1, g0, g1, g2, g3, g4, g5, g6, rfl⟩ := zcp_some hw1
            refine va_copyi hx hb (hml.trans hL.1.symm) hown (hts _ hk) (hts _ zcopy.1) (hts _ zcopy.2.1) (hts _ zcopy.2.2) hK hP (zW_D b0 b cI cS w) hS _ _ 0 0 (zW_get g0) (zW_get g1) rfl rfl rfl g2 g3 g4 g5 g6 (fun _ _ => rfl) (by omega) ?_ hdec (fun H1 locs1 hP1 _ hS1 => ?_)
            · rw [zrest, show nativeFrameWords "java/lang/System" "arraycopy" 5 = 7 from rfl]
              omega
            · rw [zcpl_getD g5 g6, zW_set' (x' := .inl (zcpl l0 l1 sp.toNatClampNeg dp.toNatClampNeg n.toNatClampNeg)) (by simp only [zE, zcpl_len g5 g6])] at hP1
              have := k H1 locs1 lsA hP1 hS1 hL hLen
              rw [zsz_set g1 (by simp only [zc1s, zcpl_len g5 g6]), List.length_set] at this
              exact this
          · cases h
        · cases h
      · cases h
    · rename_i hq
      have hk := zCt_ok _ (zfind2_mem hq)
      split at h
      · split at h
        · rename_i hn
          cases h
          refine va_mmax hx hb (hml.trans hL.1.symm) hown (hts _ hk) (hts _ zmath_max.1) (hts _ zmath_max.2.1) (hts _ zmath_max.2.2) (by omega) ?_ ?_ ?_ hdec (k H locs lsA hP hS hL hLen)
          · rw [zrest]; omega
          · exact hroom.1
          · exact hroom.2
        · cases h
      · cases h
    · rename_i hq
      have hk := zCt_ok _ (zfind2_mem hq)
      split at h
      · split at h
        · rename_i hn
          cases h
          refine va_mmin hx hb (hml.trans hL.1.symm) hown (hts _ hk) (hts _ zmath_min.1) (hts _ zmath_min.2.1) (hts _ zmath_min.2.2) (by omega) ?_ ?_ ?_ hdec (k H locs lsA hP hS hL hLen)
          · rw [zrest]; omega
          · exact hroom.1
          · exact hroom.2
        · cases h
      · cases h
    · rename_i hq
      have hk := zCt_ok _ (zfind2_mem hq)
      split at h
      · split at h
        · rename_i hn
          cases h
          refine va_mabs hx hb (hml.trans hL.1.symm) hown (hts _ hk) (hts _ zmath_abs.1) (hts _ zmath_abs.2.1) (hts _ zmath_abs.2.2) (by omega) ?_ ?_ ?_ hdec (k H locs lsA hP hS hL hLen)
          · rw [zrest]; omega
          · exact hroom.1
          · exact hroom.2
        · cases h
      · cases h
    · cases h
  · split at h
    · split at h <;> cases h
    · cases h
  · split at h
    · split at h <;> cases h
    · cases h
  · split at h
    · rename_i x t
      split at h
      · rename_i hxx
        obtain ⟨t1, ht, e1⟩ := zjmp_some h
        cases e1
        exact lv_tableOut hx hb hdec hxx ht (k H locs lsA hP hS hL hLen)
      · rename_i hxx
        simp only [not_or] at hxx
        split at h
        · rename_i off ho
          obtain ⟨t1, ht, e1⟩ := zjmp_some h
          cases e1
          exact lv_tableIn hx hb hdec hxx.1 hxx.2 ho ht (k H locs lsA hP hS hL hLen)
        · cases h
    · cases h
  · split at h
    · split at h
      · rename_i hp
        obtain ⟨t1, ht, e1⟩ := zjmp_some h
        cases e1
        exact lv_lookup hx hb hdec hp rfl ht (k H locs lsA hP hS hL hLen)
      · cases h
    · cases h
  · cases h
end ZJ2
end
section
/-! a run of ours is a run of the machine -/
theorem zx_mono {scr : List Int32} : ∀ (n : Nat) {mi pc : Nat} {ls : zLs} {st : List Value} {w : zAW} {rv : Option Value} {w' : zAW}, zx scr n mi pc ls st w = some (rv, w') → w.length ≤ w'.length ∧ zsz w ≤ zsz w'
  | 0, _, _, _, _, _, _, _, h => by cases h
  | n + 1, mi, pc, ls, st, w, rv, w', h => by
    unfold zx at h
    split at h
    · cases h
    · split at h
      · cases h
      · split at h
        · cases h
        · rename_i q hq
          have h1 := zI_mono hq
          have h2 := zx_mono n h
          exact ⟨Nat.le_trans h1.1 h2.1, Nat.le_trans h1.2 h2.2⟩
        · split at h
          · cases h
          · split at h
            · cases h
            · rename_i a ha
              obtain ⟨rv1, w1⟩ := a
              have h1 := zx_mono n ha
              have h2 := zx_mono n h
              exact ⟨Nat.le_trans h1.1 h2.1, Nat.le_trans h1.2 h2.2⟩
        · cases h
          exact ⟨Nat.le_refl _, Nat.le_refl _⟩
def zws (r : zRec) : List Cond := Cond.code r.1 r.2.1 r.2.2.1 r.2.2.2.1 :: zGW
theorem zGW_good : ∀ w ∈ zGW, (w.onTables && w.keeps) = true ∨ ∃ ty, w = .arrayClass ty := fun w h => good_of_word (List.mem_filter.mp h).2
theorem zws_good {r : zRec} (h : zmOk r) : GoodIn zGW (zws r) := by
  intro w hw
  rcases List.mem_cons.mp hw with rfl | hw
  · exact ⟨h.2.1, zGW_good _ h.2.1⟩
  · exact ⟨hw, zGW_good _ hw⟩
def zrm (r : zRec) (mc ms : Nat) : Room := { frames := r.2.2.2.2.2.2.1, cells := mc, slots := ms, locals := 37 * r.2.2.2.2.2.2.1 }
def zPc (scr : List Int32) (mj : Nat) (b0 b cI cS : Nat) (D : va_G) (as : List Value) (w : zAW) : Array Value → State → Prop := va_Pc (as.map (zcv b0 b)) (fun U => (94 < mj → zScr scr b0 b U) ∧ U.heap.size = b0 + w.length ∧ va_P D zcl (zW b0 b cI cS w) U.heap ∧ (va_K D zcl [(cI, .int), (cS, .object RX3)] U ∧ va_AO RX3 U ∧ ∀ x ∈ zNW, va_Nw x U))
def zQc (b0 b cI cS : Nat) (D : va_G) (rv : Option Value) (w' : zAW) : Array Value → State → Outcome → State → Prop := fun _ st oc t => oc = .returned (rv.map (zcv b0 b)) ∧ va_P D zcl (zW b0 b cI cS w') t.heap ∧ va_F (fun q => b0 ≤ q) st t
theorem zNW_warm {s U : State} (hW : s.WarmedH U.vm) (h : ∀ x ∈ zNW, va_Nw x s) : ∀ x ∈ zNW, va_Nw x U := by
  intro x hx
  have h1 := h x hx
  unfold zNW at hx
  simp only [List.mem_cons, List.not_mem_nil, or_false] at hx
  rcases hx with rfl | rfl | rfl | rfl | rfl <;> exact va_Nw.warmM hW h1
theorem zNW_same {s U : State} (e : s.vm = U.vm) (h : ∀ x ∈ zNW, va_Nw x s) : ∀ x ∈ zNW, va_Nw x U := by
  intro x hx
  have h1 := h x hx
  unfold zNW at hx
  simp only [List.mem_cons, List.not_mem_nil, or_false] at hx
  rcases hx with rfl | rfl | rfl | rfl | rfl <;> exact va_Nw.same rfl e h1
theorem zI_call {scr : List Int32} {mi pc : Nat} {r : zRec} {ls : zLs} {st : List Value} {w : zAW} {d : Instr × Nat} {q : Nat × List Value × zLs × List Value} (h : zI scr mi r pc ls st w d = some (.inr (.inl q))) :
    (∃ i mj, d = (.invokevirtual i, 3) ∧ zfind2 zCt r.2.2.2.2.2.1 i = some (0, mj) ∧ zcallV r mj ls st w = some (.inr (.inl q))) ∨
    (∃ i mj k, d = (.invokespecial i, 3) ∧ (k = 2 ∨ k = 3) ∧ zfind2 zCt r.2.2.2.2.2.1 i = some (k, mj) ∧ zcallV r mj ls st w = some (.inr (.inl q))) ∨
    (∃ i mj k, d = (.invokestatic i, 3) ∧ (k = 1 ∨ k = 4) ∧ zfind2 zCt r.2.2.2.2.2.1 i = some (k, mj) ∧ zcallS mi r mj ls st = some (.inr (.inl q))) := by
  unfold zI at h
  repeat' split at h
  all_goals first
    | (cases h; done)
    | (exfalso; unfold zbr at h; repeat' split at h
       all_goals first | (cases h; done) | (obtain ⟨t, -, e1⟩ := zjmp_some h; cases e1))
    | (exfalso; obtain ⟨t, -, e1⟩ := zjmp_some h; cases e1)
    | (rename_i hq; exact Or.inl ⟨_, _, rfl, hq, h⟩)
    | (rename_i hq; exact Or.inr (Or.inl ⟨_, _, _, rfl, by first | exact Or.inl rfl | exact Or.inr rfl, hq, h⟩))
    | (rename_i hq; exact Or.inr (Or.inr ⟨_, _, _, rfl, by first | exact Or.inl rfl | exact Or.inr rfl, hq, h⟩))
theorem zI_ret {scr : List Int32} {mi pc : Nat} {r : zRec} {ls : zLs} {st : List Value} {w : zAW} {d : Instr × Nat} {rv : Option Value} (h : zI scr mi r pc ls st w d = some (.inr (.inr rv))) :
    (∃ x : Int32, rv = some (.int x) ∧ st = [.int x] ∧ zrok r.2.2.2.1 x = true ∧ d = (.ireturn, 1)) ∨ (rv = none ∧ st = [] ∧ r.2.2.2.1 = none ∧ d = (.return_, 1)) := by
  unfold zI at h
  repeat' split at h
  all_goals first
    | (cases h; done)
    | (exfalso; unfold zbr at h; repeat' split at h
       all_goals first | (cases h; done) | (obtain ⟨t, -, e1⟩ := zjmp_some h; cases e1))
    | (exfalso; obtain ⟨t, -, e1⟩ := zjmp_some h; cases e1)
    | (exfalso; obtain ⟨rj, a, rest, fs, -, -, -, -, -, -, -, e1⟩ := zcallV_some h; cases e1)
    | (exfalso; obtain ⟨rj, -, -, -, -, -, -, e1⟩ := zcallS_some h; cases e1)
    | (cases h; rename_i hx; exact Or.inl ⟨_, rfl, rfl, hx, rfl⟩)
    | (cases h; rename_i hx; exact Or.inr ⟨rfl, rfl, hx, rfl⟩)
section ZS
variable {p : Program} {l : Launch} {e : Env} {R : Room} {s : State} {m : MethodId} {args : Array Value} {below : List Frame} {meth : Method} {c : Code} {Q : State → Prop}
variable {b0 b L0 S0 cI cS : Nat} {D : va_G} {scr : List Int32}
/-- what the last instruction asks -/
def zRet (p : Program) (l : Launch) (e : Env) (R : Room) (s : State) (m : MethodId) (args : Array Value) (below : List Frame) (meth : Method) (c : Code) (Q : State → Prop) (b0 b cI cS : Nat) (D : va_G) (L0 S0 : Nat) (r : zRec) (rv : Option Value) (w : zAW) : Prop :=
  ∀ (H : Heap) (locs : List Loc) (pc : Nat) (lsA : Array Slot), va_P D zcl (zW b0 b cI cS w) H → va_S (fun q => b0 ≤ q) s.heap H locs →
    ((∃ x : Int32, rv = some (.int x) ∧ zrok r.2.2.2.1 x = true ∧ decode r.2.1 pc = .ok (.ireturn, 1)) ∨ (rv = none ∧ r.2.2.2.1 = none ∧ decode r.2.1 pc = .ok (.return_, 1))) →
    W p l e R s m args below meth c H locs (w.length - L0) (zsz w - S0) Q (F0 m pc lsA ((rv.toList).map (zcv b0 b)))
theorem zScr_go {scr : List Int32} {L0 : Nat} {H : Heap} {locs : List Loc} {U : State} (hS : va_S (fun q => b0 ≤ q) s.heap H locs) (hb0 : b0 + L0 = s.heap.size) (hA : s.vm.Alike U.vm) (hU : U.heap = H) (h : zScr scr b0 b s) : zScr scr b0 b U := by
  obtain ⟨xs, x1, x2, x3⟩ := h
  refine ⟨xs, va_X.moved hA ?_, x2, x3⟩
  rw [hU]
  exact x1.kept (hS.2.1 b (by omega) (by omega))
theorem zblind (scr : List Int32) (mj : Nat) (as : List Value) (w : zAW) : FrameBlind (zPc scr mj b0 b cI cS D as w) := by
  intro a U g mk q
  obtain ⟨q1, q0, q2, q3, q4, q5, q6⟩ := q
  refine ⟨q1, fun h => ?_, q2, q3, ?_⟩
  · obtain ⟨xs, x1, x2, x3⟩ := q0 h
    exact ⟨xs, va_X.moved (u := U) (U := U.calling g mk a) (Vm.Alike.refl U.vm) x1, x2, x3⟩
  exact ⟨ va_K.moved (u := U) (U := U.calling g mk a) (Vm.Alike.refl U.vm) q4, va_AO.moved (u := U) (U := U.calling g mk a) (Vm.Alike.refl U.vm) q5, zNW_same (s := U) rfl q6⟩
theorem zgo {H : Heap} {locs : List Loc} {cells slots mc ms : Nat} {g : JFrame} {rest : List Value} {Qa : State → Outcome → State → Prop} {free : Addr → Prop} (hr : va_Run p l e R s m args below meth c H locs cells slots mc ms g rest Qa free)
    (kk : ∀ (v : Option Value) (st₀ t : State) (H1 : Heap) (L : List Loc), st₀.heap = H → t.heap = H1 → (∀ q ∈ L, free q.base) → Qa st₀ (.returned v) t → W p l e R s m args below meth c H1 (locs ++ L) (cells + mc) (slots + ms) Q { g with pc := g.pc + 3, stack := v.toList ++ rest }) : W p l e R s m args below meth c H locs cells slots Q g := by
  intro T hT X
  obtain ⟨v, st₀, t, T', L, h0, X', hL, e1, e2, hq, st⟩ := hr T hT X
  obtain ⟨t2, a1, b1⟩ := kk v st₀ t T'.heap L h0 e1.symm hL hq T' rfl X'
  exact ⟨t2, st t2 a1, b1⟩
theorem lg_sl_len (b0 b : Nat) (as : List Value) : (lg_sl (as.map (zcv b0 b))).length = as.length := by
  induction as with
  | nil => rfl
  | cons a as ih =>
    unfold lg_sl at ih ⊢
    rw [List.map_cons, List.flatMap_cons, List.length_append, ih, zcv_cat, if_neg (by decide)]
    simp; omega
theorem zrok_ok {ty : Option FieldType} {x : Int32} (h : zrok ty x = true) : ∃ t, ty = some t ∧ narrow t (.int x) = .int x := by
  unfold zrok at h
  split at h
  · exact ⟨_, rfl, rfl⟩
  · simp only [Bool.or_eq_true, beq_iff_eq] at h
    rcases h with rfl | rfl <;> exact ⟨_, rfl, rfl⟩
  · cases h
/-- what the run of a callee gives: its contract -/
theorem zmet {scr : List Int32} {mj : Nat} {rj : zRec} (hok : zmOk rj) {as : List Value} {w w1 : zAW} {rv1 : Option Value} {l : Launch} (hlen : as.length ≤ rj.2.2.1) (hm : w.length ≤ w1.length ∧ zsz w ≤ zsz w1)
    (hrun : ∀ {p : Program} {e : Env} {R : Room} {s : State} {m : MethodId} {args : Array Value} {below : List Frame} {meth : Method} {c : Code} {Q : State → Prop} {L0 S0 : Nat},
      zFrm b0 b D cI cS rj p s m args meth c → b0 + L0 = s.heap.size → L0 ≤ w.length → S0 ≤ zsz w → (rj.2.2.2.2.2.2.1 ≤ R.frames ∧ 37 * rj.2.2.2.2.2.2.1 ≤ R.locals) → (94 < mj → zScr scr b0 b s) →
      (w1.length - L0 ≤ R.cells ∧ zsz w1 - S0 ≤ R.slots) → zRet p l e R s m args below meth c Q b0 b cI cS D L0 S0 rj rv1 w1 →
      zNext p l e R s m args below meth c Q b0 b cI cS D L0 S0 rj.2.2.1 0 (zent rj as) [] w) :
    Met l rj.1 (zws rj) (zrm rj (w1.length - w.length) (zsz w1 - zsz w)) (zPc scr mj b0 b cI cS D as w) (zQc b0 b cI cS D rv1 w1) (w1.length - w.length) (zsz w1 - zsz w) (fun q => b0 ≤ q) := by
  refine Met.ofW (cc := rj.2.1) (maxL := rj.2.2.1) (ret := rj.2.2.2.1) hok.1 rfl ?_
  intro p e s m args below meth c s₁ B hml hv
  obtain ⟨rfl, hsc, hsz, hP, hK⟩ := hv
  have hts := atoms_spec (ws := zws rj) B.pre
  have hown : s.vm.findClass (zcn rj.2.2.2.2.2.1) = some m.cls := by rw [hok.2.2.2.2.2.2.1]; exact findClass_of_methodNamed B.named
  have hlocks := B.notSynchronized
  have hr := B.returns
  have hin : rj.1.name = "<init>" → meth.name = "<init>" := fun h => (name_of_methodNamed B.named B.method).1.trans h
  have hl := lv_entry (as.map (zcv b0 b)) (n := rj.2.2.1) (by rw [lg_sl_len]; exact hlen)
  rw [lg_entry_eq]
  have hlent : (zent rj as).length = rj.2.2.1 := by simp [zent]; omega
  have := hrun (R := (headSpec (zws rj) (zrm rj (w1.length - w.length) (zsz w1 - zsz w))).room) (L0 := w.length) (S0 := zsz w) (Q := MQ below (zQc b0 b cI cS D rv1 w1) (as.map (zcv b0 b)).toArray s (w1.length - w.length) (zsz w1 - zsz w) (fun q => b0 ≤ q))
    ⟨B.exec, B.bytes, hml, hown, fun x hx => hts x (List.mem_cons_of_mem _ hx), hK, hin⟩ hsz.symm (Nat.le_refl _) (Nat.le_refl _) ⟨Nat.le_refl _, Nat.le_refl _⟩ hsc ⟨Nat.le_refl _, Nat.le_refl _⟩
    (below := below) (e := e) (fun H locs pc lsA hP1 hS1 hc => by
      rcases hc with ⟨x, rfl, hz, hdec⟩ | ⟨rfl, hz, hdec⟩
      · obtain ⟨ty, e1, e2⟩ := zrok_ok hz
        exact W.zret (ty := ty) B.exec B.bytes (hr.trans e1) e2 (fun t ht _ => ⟨rfl, by rw [ht]; exact hP1, hS1.F ht⟩) hS1.2.2 hdec hlocks
      · exact W.vret B.exec B.bytes (hr.trans hz) (fun t ht _ => ⟨rfl, by rw [ht]; exact hP1, hS1.F ht⟩) hS1.2.2 hdec hlocks) s.heap [] _ hP va_S.rf (zent_has hl) hlent
  rw [Nat.sub_self, Nat.sub_self] at this
  exact this
set_option maxHeartbeats 4000000 in
/-- a call of a method that has a contract so -/
theorem zcall_go {r rj : zRec} (hok : zmOk rj) {rest : List Value} {w w1 : zAW} {rv1 : Option Value} {L0 S0 : Nat} {H : Heap} {locs : List Loc} {pc : Nat} {lsA : Array Slot} {ls : zLs} {g : JFrame}
    (hb0 : b0 + L0 = s.heap.size) (hL0 : L0 ≤ w.length) (hS0 : S0 ≤ zsz w) (hm : w.length ≤ w1.length ∧ zsz w ≤ zsz w1) (hS : va_S (fun q => b0 ≤ q) s.heap H locs) {args2 : Array Value}
    (hg : g = F0 m pc lsA (g.stack))
    (hr : va_Run p l e R s m args below meth c H locs (w.length - L0) (zsz w - S0) (w1.length - w.length) (zsz w1 - zsz w) g (rest.map (zcv b0 b)) (zQc b0 b cI cS D rv1 w1 args2) (fun q => b0 ≤ q))
    (hL : lv_has lsA r.2.2.1 (zlv b0 b ls)) (hLen : ls.length = r.2.2.1)
    (k : zNext p l e R s m args below meth c Q b0 b cI cS D L0 S0 r.2.2.1 (pc + 3) ls (rv1.toList ++ rest) w1) : W p l e R s m args below meth c H locs (w.length - L0) (zsz w - S0) Q g := by
  refine zgo hr fun v st₀ t H1 L h0 ht hL1 hq => ?_
  obtain ⟨hv, hP1, hF1⟩ := hq
  have hv' : v = rv1.map (zcv b0 b) := by cases hv; rfl
  subst hv'
  rw [ht] at hP1
  have hS1 : va_S (fun q => b0 ≤ q) s.heap H1 (locs ++ L) := by
    have f1 := hF1.1
    have f2 := hF1.2
    rw [h0, ht] at f1 f2
    refine ⟨Nat.le_trans hS.1 f1, fun q h1 h2 => (f2 q (Nat.lt_of_lt_of_le h1 hS.1) h2).trans (hS.2.1 q h1 h2), fun q hq => ?_⟩
    rcases List.mem_append.mp hq with h | h
    · exact hS.2.2 q h
    · exact hL1 q h
  have := k H1 (locs ++ L) lsA hP1 hS1 hL hLen
  rw [show w1.length - L0 = w.length - L0 + (w1.length - w.length) by omega, show zsz w1 - S0 = zsz w - S0 + (zsz w1 - zsz w) by omega] at this
  rw [hg]
  cases rv1 <;> exact this
theorem zstackV {f : Value → Value} {n : Nat} {st rest : List Value} {x : Value} (h : st.drop n = x :: rest) : rest.length + n + 1 = st.length ∧ (st.take n).length = n ∧ st.map f = (((st.take n).reverse).map f).reverse ++ f x :: rest.map f := by
  have h1 := congrArg List.length h
  rw [List.length_drop, List.length_cons] at h1
  refine ⟨by omega, by rw [List.length_take]; omega, ?_⟩
  conv => lhs; rw [← List.take_append_drop n st, h]
  rw [List.map_append, List.map_reverse, List.reverse_reverse]
  rfl
theorem zstackS {f : Value → Value} {n : Nat} {st : List Value} : st.map f = (((st.take n).reverse).map f).reverse ++ (st.drop n).map f := by
  conv => lhs; rw [← List.take_append_drop n st]
  rw [List.map_append, List.map_reverse, List.reverse_reverse]
theorem zrecv {H : Heap} {w : zAW} {a ci : Nat} {fs : List Value} (hK : va_K D zcl [(cI, .int), (cS, .object RX3)] s) (hP : va_P D zcl (zW b0 b cI cS w) H) (hw : w[a]? = some (.inr (.inr (ci, fs)))) : ∃ cell : Cell, H[b0 + a]? = some cell ∧ cell.vm.isStatics = false ∧ s.vm.findClass (zcn ci) = some cell.cls := by
  obtain ⟨q, hq, -⟩ := hP _ _ (zW_get hw)
  have e := (zcl_ok hq).1
  have := va_recv hK hP hq (zW_get hw)
  rw [e] at this
  exact this
theorem zroom_ok {r rj : zRec} {mc ms : Nat} (hok : zmOk rj) (hdp : rj.2.2.2.2.2.2.1 + 1 ≤ r.2.2.2.2.2.2.1) (hdep : r.2.2.2.2.2.2.1 ≤ R.frames ∧ 37 * r.2.2.2.2.2.2.1 ≤ R.locals) : (zrm rj mc ms).frames + 1 ≤ R.frames ∧ 8 + (rj.2.2.1 + 11) + (zrm rj mc ms).locals ≤ R.locals := by
  have := hok.2.2.2.2.2.2.2.1
  show rj.2.2.2.2.2.2.1 + 1 ≤ _ ∧ 8 + (rj.2.2.1 + 11) + 37 * rj.2.2.2.2.2.2.1 ≤ _
  omega
set_option maxHeartbeats 4000000 in
theorem zx_sound : ∀ (n : Nat) {mi pc : Nat} {ls : zLs} {st : List Value} {w : zAW} {rv : Option Value} {w' : zAW}, zx scr n mi pc ls st w = some (rv, w') → ∀ (r : zRec), zMs[mi]? = some r → zdecs r.2.1 r.2.2.2.2.1 →
    ∀ {p : Program} {l : Launch} {e : Env} {R : Room} {s : State} {m : MethodId} {args : Array Value} {below : List Frame} {meth : Method} {c : Code} {Q : State → Prop} {L0 S0 : Nat},
    zFrm b0 b D cI cS r p s m args meth c → b0 + L0 = s.heap.size → L0 ≤ w.length → S0 ≤ zsz w → (r.2.2.2.2.2.2.1 ≤ R.frames ∧ 37 * r.2.2.2.2.2.2.1 ≤ R.locals) →
    (94 < mi → zScr scr b0 b s) →
    (w'.length - L0 ≤ R.cells ∧ zsz w' - S0 ≤ R.slots) → zRet p l e R s m args below meth c Q b0 b cI cS D L0 S0 r rv w' →
    zNext p l e R s m args below meth c Q b0 b cI cS D L0 S0 r.2.2.1 pc ls st w
  | 0, _, _, _, _, _, _, _, h => by cases h
  | n + 1, mi, pc, ls, st, w, rv, w', h => by
    intro r hr hdd p l e R s m args below meth c Q L0 S0 hF hb0 hL0 hS0 hdep hscr hroom hret
    unfold zx at h
    rw [hr] at h
    dsimp only at h
    split at h
    · cases h
    · rename_i d hd
      have hdec : decode r.2.1 pc = .ok d := hdd (pc, d) (zfind_mem hd)
      split at h
      · cases h
      · rename_i q hq
        obtain ⟨pc1, ls1, st1, w1⟩ := q
        have hm1 := zI_mono hq
        have hm2 := zx_mono n h
        dsimp only at hm1 hm2
        exact zI_jump hF hb0 hL0 hS0 hdec hdep hscr hq (by omega) (zx_sound n h r hr hdd hF hb0 (by dsimp only at hm1 ⊢; omega) (by dsimp only at hm1 ⊢; omega) hdep hscr hroom hret)
      · rename_i q hq
        obtain ⟨mj, as, ls1, rest⟩ := q
        dsimp only at h
        split at h
        · cases h
        · rename_i rj hrj
          split at h
          · cases h
          · rename_i a ha
            obtain ⟨rv1, w1⟩ := a
            have hm1 := zx_mono n ha
            have hm2 := zx_mono n h
            dsimp only at hm2
            have hcont := fun (hr2 : zRet p l e R s m args below meth c Q b0 b cI cS D L0 S0 r rv w') => zx_sound n h r hr hdd hF hb0 (by dsimp only; omega) (by dsimp only; omega) hdep hscr hroom hr2
            have hk := hcont hret
            intro H locs lsA hP hS hL hLen
            refine z_sz fun hsz => ?_
            have hHs := z_size hb0 hL0 hP hS hsz
            obtain ⟨hx, hb, hml, hown, hts, ⟨hK, hAO, hNW⟩, hname⟩ := hF
            have hfit : w.length - L0 + (w1.length - w.length) ≤ R.cells ∧ zsz w - S0 + (zsz w1 - zsz w) ≤ R.slots := by omega
            have hpre : (94 < mj → 94 < mi) → ∀ U : State, U.heap = H → s.WarmedH U.vm → zPc scr mj b0 b cI cS D as w ((as.map (zcv b0 b)).toArray) U := fun hmm U hU hW => ⟨rfl, fun h => zScr_go hS hb0 hW.alike hU (hscr (hmm h)), by rw [hU]; exact hHs, by rw [hU]; exact hP, va_K.moved hW.alike hK, va_AO.moved hW.alike hAO, zNW_warm hW hNW⟩
            rcases zI_call hq with ⟨i, mj', rfl, hf, hc⟩ | ⟨i, mj', kk, rfl, hkk, hf, hc⟩ | ⟨i, mj', kk, rfl, hkk, hf, hc⟩
            · obtain ⟨rj', aa, rest', fs, hrj', hdr, hdp, hrl, hlt, hnm, hw, e1⟩ := zcallV_some hc
              cases e1
              cases hrj.symm.trans hrj'
              have hok := zms_ok (by omega) hrj
              obtain ⟨rr, g1, g2, g3, g4⟩ := zCt_ok _ (zfind2_mem hf)
              cases g1.symm.trans hrj
              have hM := zmet (scr := scr) (mj := mj) (l := l) (D := D) (b0 := b0) (b := b) (cI := cI) (cS := cS) hok (by simp; omega) hm1 (fun hF1 a1 a2 a3 a4 a7 a5 a6 => zx_sound n ha rj hrj hok.2.2.2.2.2.2.2.2 hF1 a1 a2 a3 a4 a7 a5 a6)
              obtain ⟨hrest, hnl, hsk⟩ := zstackV (f := zcv b0 b) hdr
              have hrv := zrecv hK hP hw
              exact zcall_go (r := r) (rj := rj) hok hb0 hL0 hS0 hm1 hS rfl (va_runV (own := zcn r.2.2.2.2.2.1) (n := rj.2.2.2.2.2.2.2) (As := ((st.take rj.2.2.2.2.2.2.2).reverse).map (zcv b0 b)) (b := b0 + aa) (C := zcn rj.2.2.2.2.2.1) ⟨hx, hb, hml, hown, hts⟩ hM
                ⟨callB_of _ hts (zws_good hok) rfl rfl rfl (hts _ hok.2.2.1) (hts _ g2) ⟨hok.2.2.2.2.1, hok.2.2.2.2.2.1, hok.2.2.2.1⟩ (zroom_ok hok hdp hdep), hts _ g3, by rw [hok.2.2.2.2.2.2.1]; exact hts _ g4⟩
                ⟨zblind _ _ _ _, hrv, hpre (fun q => by omega)⟩ rfl (by rw [List.length_map, List.length_reverse, hnl]) hL.1 hsk (by show 2 * 0 + _ ≤ 8; rw [zrest]; omega) hdec hfit) hL hLen hk
            · obtain ⟨rj', aa, rest', fs, hrj', hdr, hdp, hrl, hlt, hnm, hw, e1⟩ := zcallV_some hc
              cases e1
              cases hrj.symm.trans hrj'
              have hok := zms_ok (by omega) hrj
              have hM := zmet (scr := scr) (mj := mj) (l := l) (D := D) (b0 := b0) (b := b) (cI := cI) (cS := cS) hok (by simp; omega) hm1 (fun hF1 a1 a2 a3 a4 a7 a5 a6 => zx_sound n ha rj hrj hok.2.2.2.2.2.2.2.2 hF1 a1 a2 a3 a4 a7 a5 a6)
              obtain ⟨hrest, hnl, hsk⟩ := zstackV (f := zcv b0 b) hdr
              rcases hkk with rfl | rfl
              · obtain ⟨rr, g1, g2, g3, g4, g5⟩ := zCt_ok _ (zfind2_mem hf)
                cases g1.symm.trans hrj
                exact zcall_go (r := r) (rj := rj) hok hb0 hL0 hS0 hm1 hS rfl (va_runI (own := zcn r.2.2.2.2.2.1) (n := rj.2.2.2.2.2.2.2) (As := ((st.take rj.2.2.2.2.2.2.2).reverse).map (zcv b0 b)) (b := b0 + aa) ⟨hx, hb, hml, hown, hts⟩ hM
                  ⟨callB_of _ hts (zws_good hok) (by unfold zws; rw [g5]) rfl rfl (hts _ hok.2.2.1) (hts _ g2) ⟨hok.2.2.2.2.1, hok.2.2.2.2.2.1, hok.2.2.2.1⟩ (zroom_ok hok hdp hdep), g4, hts _ g3⟩
                  ⟨zblind _ _ _ _, hpre (fun q => by omega)⟩ rfl (by rw [List.length_map, List.length_reverse, hnl]) hL.1 hsk (by show 2 * 0 + _ ≤ 8; rw [zrest]; omega) hdec hfit) hL hLen hk
              · obtain ⟨rr, g1, g2, g3, g4, g5⟩ := zCt_ok _ (zfind2_mem hf)
                cases g1.symm.trans hrj
                exact zcall_go (r := r) (rj := rj) hok hb0 hL0 hS0 hm1 hS rfl (va_runIN (own := zcn r.2.2.2.2.2.1) (host := RX5) (n := rj.2.2.2.2.2.2.2) (As := ((st.take rj.2.2.2.2.2.2.2).reverse).map (zcv b0 b)) (b := b0 + aa) ⟨hx, hb, hml, hown, hts⟩ hM
                  ⟨va_cnB _ hts (zws_good hok) (by unfold zws; rw [g5]) rfl rfl (hNW _ g2) (hts _ hok.2.2.1) ⟨hok.2.2.2.2.1, hok.2.2.2.2.2.1, hok.2.2.2.1⟩ (zroom_ok hok hdp hdep), g4, hts _ g3⟩
                  ⟨zblind _ _ _ _, hpre (fun q => by omega)⟩ rfl (by rw [List.length_map, List.length_reverse, hnl]) hL.1 hsk (by show 2 * 0 + _ ≤ 8; rw [zrest]; omega) hdec hfit) hL hLen hk
            · obtain ⟨rj', hrj', hdp, hrl, hnl, hlt, hnm, e1⟩ := zcallS_some hc
              cases e1
              cases hrj.symm.trans hrj'
              have hok := zms_ok (by omega) hrj
              have hM := zmet (scr := scr) (mj := mj) (l := l) (D := D) (b0 := b0) (b := b) (cI := cI) (cS := cS) hok (by simp; omega) hm1 (fun hF1 a1 a2 a3 a4 a7 a5 a6 => zx_sound n ha rj hrj hok.2.2.2.2.2.2.2.2 hF1 a1 a2 a3 a4 a7 a5 a6)
              have hsk := zstackS (f := zcv b0 b) (n := rj.2.2.2.2.2.2.2) (st := st)
              have hrl2 : (List.drop rj.2.2.2.2.2.2.2 st).length ≤ 8 := by rw [List.length_drop]; omega
              rcases hkk with rfl | rfl
              · obtain ⟨rr, g1, g2, g3⟩ := zCt_ok _ (zfind2_mem hf)
                cases g1.symm.trans hrj
                exact zcall_go (r := r) (rj := rj) hok hb0 hL0 hS0 hm1 hS rfl (va_runS (own := zcn r.2.2.2.2.2.1) (n := rj.2.2.2.2.2.2.2) (As := ((st.take rj.2.2.2.2.2.2.2).reverse).map (zcv b0 b)) ⟨hx, hb, hml, hown, hts⟩ hM
                  ⟨callB_of _ hts (zws_good hok) rfl rfl rfl (hts _ hok.2.2.1) (hts _ g2) ⟨hok.2.2.2.2.1, hok.2.2.2.2.2.1, hok.2.2.2.1⟩ (zroom_ok hok hdp hdep), hts _ g3⟩
                  ⟨zblind _ _ _ _, hpre (fun q => by omega)⟩ rfl (by rw [List.length_map, List.length_reverse, List.length_take]; omega) hL.1 hsk (by show 2 * 0 + _ ≤ 8; rw [zrest]; omega) hdec hfit) hL hLen hk
              · obtain ⟨rr, g1, g2, g3⟩ := zCt_ok _ (zfind2_mem hf)
                cases g1.symm.trans hrj
                exact zcall_go (r := r) (rj := rj) hok hb0 hL0 hS0 hm1 hS rfl (va_runSN (own := zcn r.2.2.2.2.2.1) (host := RX5) (n := rj.2.2.2.2.2.2.2) (As := ((st.take rj.2.2.2.2.2.2.2).reverse).map (zcv b0 b)) ⟨hx, hb, hml, hown, hts⟩ hM
                  ⟨va_cnB _ hts (zws_good hok) rfl rfl rfl (hNW _ g2) (hts _ hok.2.2.1) ⟨hok.2.2.2.2.1, hok.2.2.2.2.2.1, hok.2.2.2.1⟩ (zroom_ok hok hdp hdep), hts _ g3, trivial⟩
                  ⟨zblind _ _ _ _, hpre (fun q => by omega)⟩ rfl (by rw [List.length_map, List.length_reverse, List.length_take]; omega) hL.1 hsk (by show 2 * 0 + _ ≤ 8; rw [zrest]; omega) hdec hfit) hL hLen hk
      · rename_i rv1 hq
        cases h
        intro H locs lsA hP hS hL hLen
        rcases zI_ret hq with ⟨x, rfl, rfl, hz, rfl⟩ | ⟨rfl, rfl, hz, rfl⟩
        · exact hret H locs pc lsA hP hS (Or.inl ⟨x, rfl, hz, hdec⟩)
        · exact hret H locs pc lsA hP hS (Or.inr ⟨rfl, hz, hdec⟩)
end ZS
end
section
/-! what a run comes to, without its length -/
theorem zx_up {scr : List Int32} : ∀ (n : Nat) {mi pc : Nat} {ls : zLs} {st : List Value} {w : zAW} {a : zRs}, zx scr n mi pc ls st w = some a → ∀ k, zx scr (n + k) mi pc ls st w = some a
  | 0, _, _, _, _, _, _, h => by cases h
  | n + 1, mi, pc, ls, st, w, a, h => by
    intro k
    rw [show n + 1 + k = (n + k) + 1 by omega]
    unfold zx at h ⊢
    split at h
    · cases h
    · split at h
      · cases h
      · rename_i d hd
        try rw [hd]
        try dsimp only
        split at h
        · cases h
        · rename_i q hq
          try rw [hq]
          exact zx_up n h k
        · rename_i q hq
          try rw [hq]
          try dsimp only
          split at h
          · cases h
          · rename_i rj hrj
            split at h
            · cases h
            · rename_i a1 ha
              rw [zx_up n ha k]
              exact zx_up n h k
        · rename_i rv hq
          try rw [hq]
          exact h
theorem zx_det {scr : List Int32} {n k mi pc : Nat} {ls : zLs} {st : List Value} {w : zAW} {a b : zRs} (h1 : zx scr n mi pc ls st w = some a) (h2 : zx scr k mi pc ls st w = some b) : a = b := by
  have e1 := zx_up n h1 k
  have e2 := zx_up k h2 n
  rw [show k + n = n + k by omega, e1] at e2
  exact Option.some.inj e2
/-- the run from here ends, with this answer and this heap -/
def zE1 (scr : List Int32) (mi pc : Nat) (ls : zLs) (st : List Value) (w : zAW) (a : zRs) : Prop := ∃ n, zx scr n mi pc ls st w = some a
noncomputable def zd (scr : List Int32) (mi pc : Nat) (ls : zLs) (st : List Value) (w : zAW) : Option zRs :=
  @dite _ (∃ a, zE1 scr mi pc ls st w a) (Classical.propDecidable _) (fun h => some (Classical.choose h)) (fun _ => none)
theorem zd_iff {scr : List Int32} {mi pc : Nat} {ls : zLs} {st : List Value} {w : zAW} {a : zRs} : zd scr mi pc ls st w = some a ↔ zE1 scr mi pc ls st w a := by
  unfold zd
  constructor
  · intro h
    split at h
    · rename_i hx
      rw [← Option.some.inj h]
      exact Classical.choose_spec hx
    · cases h
  · intro h
    rw [dif_pos ⟨a, h⟩]
    have h2 := Classical.choose_spec (⟨a, h⟩ : ∃ a, zE1 scr mi pc ls st w a)
    obtain ⟨n, hn⟩ := h
    obtain ⟨k, hk⟩ := h2
    exact congrArg some (zx_det hk hn)
theorem zd_ext {scr : List Int32} {mi pc mi' pc' : Nat} {ls ls' : zLs} {st st' : List Value} {w w' : zAW} (h : ∀ a, zE1 scr mi pc ls st w a ↔ zE1 scr mi' pc' ls' st' w' a) : zd scr mi pc ls st w = zd scr mi' pc' ls' st' w' := by
  apply Option.ext
  intro a
  rw [zd_iff, zd_iff]
  exact h a
/-- a method from its start -/
noncomputable def zC (scr : List Int32) (mj : Nat) (as : List Value) (w : zAW) : Option zRs := match zMs[mj]? with
  | none => none
  | some rj => zd scr mj 0 (zent rj as) [] w
/-- one instruction -/
theorem zd_step {scr : List Int32} {mi pc : Nat} {ls : zLs} {st : List Value} {w : zAW} {r : zRec} {d : Instr × Nat} {q : Nat × zLs × List Value × zAW} (hr : zMs[mi]? = some r) (hd : zfind r.2.2.2.2.1 pc = some d) (h : zI scr mi r pc ls st w d = some (.inl q)) : zd scr mi pc ls st w = zd scr mi q.1 q.2.1 q.2.2.1 q.2.2.2 := by
  refine zd_ext fun a => ⟨fun ⟨n, hn⟩ => ?_, fun ⟨n, hn⟩ => ⟨n + 1, ?_⟩⟩
  · cases n with
    | zero => cases hn
    | succ n =>
      unfold zx at hn
      rw [hr] at hn
      dsimp only at hn
      rw [hd] at hn
      dsimp only at hn
      rw [h] at hn
      exact ⟨n, hn⟩
  · unfold zx
    rw [hr]
    dsimp only
    rw [hd]
    dsimp only
    rw [h]
    exact hn
theorem zd_ret {scr : List Int32} {mi pc : Nat} {ls : zLs} {st : List Value} {w : zAW} {r : zRec} {d : Instr × Nat} {rv : Option Value} (hr : zMs[mi]? = some r) (hd : zfind r.2.2.2.2.1 pc = some d) (h : zI scr mi r pc ls st w d = some (.inr (.inr rv))) : zd scr mi pc ls st w = some (rv, w) := by
  refine zd_iff.mpr ⟨1, ?_⟩
  unfold zx
  rw [hr]
  dsimp only
  rw [hd]
  dsimp only
  rw [h]
theorem zd_call {scr : List Int32} {mi pc : Nat} {ls : zLs} {st : List Value} {w : zAW} {r : zRec} {d : Instr × Nat} {q : Nat × List Value × zLs × List Value} {rv : Option Value} {w1 : zAW} (hr : zMs[mi]? = some r) (hd : zfind r.2.2.2.2.1 pc = some d) (h : zI scr mi r pc ls st w d = some (.inr (.inl q))) (hc : zC scr q.1 q.2.1 w = some (rv, w1)) : zd scr mi pc ls st w = zd scr mi (pc + 3) q.2.2.1 (rv.toList ++ q.2.2.2) w1 := by
  unfold zC at hc
  split at hc
  · cases hc
  · rename_i rj hrj
    obtain ⟨k, hk⟩ := zd_iff.mp hc
    refine zd_ext fun a => ⟨fun ⟨n, hn⟩ => ?_, fun ⟨n, hn⟩ => ⟨k + n + 1, ?_⟩⟩
    · cases n with
      | zero => cases hn
      | succ n =>
        unfold zx at hn
        rw [hr] at hn
        dsimp only at hn
        rw [hd] at hn
        dsimp only at hn
        rw [h] at hn
        dsimp only at hn
        rw [hrj] at hn
        dsimp only at hn
        split at hn
        · cases hn
        · rename_i a1 ha
          cases zx_det hk ha
          exact ⟨n, hn⟩
    · unfold zx
      rw [hr]
      dsimp only
      rw [hd]
      dsimp only
      rw [h]
      dsimp only
      rw [hrj]
      dsimp only
      rw [zx_up k hk n]
      dsimp only
      rw [show k + n = n + k by omega]
      exact zx_up n hn k
theorem zC_of {scr : List Int32} {mj : Nat} {as : List Value} {w : zAW} {rj : zRec} (h : zMs[mj]? = some rj) : zC scr mj as w = zd scr mj 0 (zent rj as) [] w := by unfold zC; rw [h]
end
