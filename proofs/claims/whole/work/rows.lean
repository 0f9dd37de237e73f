section
-- ===== PART A: goes FIRST, ahead of the names: the tables' words, and 'selects' of the private methods out of them =====
/-- a private method of a class that the tables say can be made, by its rows of tables_1 -/
def lw_okq (q : MethodName × Nat) : Prop := (q.1.cls ≠ "java/lang/invoke/MethodHandle" ∧ q.1.cls ≠ "java/lang/invoke/VarHandle") ∧ Cond.instantiable q.1.cls q.2 ∈ tables_1 ∧ Cond.privateMethod q.1 ∈ tables_1 ∧ Cond.instanceMethod q.1 ∈ tables_1
theorem lw_p0 : lw_okq (⟨"SquareFolds$Gluing", "isContinued", "(II)Z"⟩, 3) := ⟨⟨by decide +kernel, by decide +kernel⟩, List.mem_of_getElem? (i := 39) (by decide +kernel), List.mem_of_getElem? (i := 320) (by decide +kernel), List.mem_of_getElem? (i := 321) (by decide +kernel)⟩
theorem lw_p1 : lw_okq (⟨"SquareFolds", "groupSize", "()I"⟩, 10) := ⟨⟨by decide +kernel, by decide +kernel⟩, List.mem_of_getElem? (i := 16) (by decide +kernel), List.mem_of_getElem? (i := 324) (by decide +kernel), List.mem_of_getElem? (i := 325) (by decide +kernel)⟩
theorem lw_p2 : lw_okq (⟨"SquareFolds$NameOrbit", "placeSheared", "(III)I"⟩, 3) := ⟨⟨by decide +kernel, by decide +kernel⟩, List.mem_of_getElem? (i := 108) (by decide +kernel), List.mem_of_getElem? (i := 456) (by decide +kernel), List.mem_of_getElem? (i := 457) (by decide +kernel)⟩
theorem lw_p3 : lw_okq (⟨"SquareFolds$NameOrbit", "ringFrom", "(I)I"⟩, 3) := ⟨⟨by decide +kernel, by decide +kernel⟩, List.mem_of_getElem? (i := 108) (by decide +kernel), List.mem_of_getElem? (i := 471) (by decide +kernel), List.mem_of_getElem? (i := 472) (by decide +kernel)⟩
theorem lw_p4 : lw_okq (⟨"SquareFolds$Gluing", "didShear", "(I)Z"⟩, 3) := ⟨⟨by decide +kernel, by decide +kernel⟩, List.mem_of_getElem? (i := 39) (by decide +kernel), List.mem_of_getElem? (i := 497) (by decide +kernel), List.mem_of_getElem? (i := 498) (by decide +kernel)⟩
theorem lw_p5 : lw_okq (⟨"SquareFolds$Gluing", "didTrade", "(II)Z"⟩, 3) := ⟨⟨by decide +kernel, by decide +kernel⟩, List.mem_of_getElem? (i := 39) (by decide +kernel), List.mem_of_getElem? (i := 502) (by decide +kernel), List.mem_of_getElem? (i := 503) (by decide +kernel)⟩
theorem lw_p6 : lw_okq (⟨"SquareFolds", "allSeenFrom", "(I)Z"⟩, 10) := ⟨⟨by decide +kernel, by decide +kernel⟩, List.mem_of_getElem? (i := 16) (by decide +kernel), List.mem_of_getElem? (i := 555) (by decide +kernel), List.mem_of_getElem? (i := 556) (by decide +kernel)⟩
theorem lw_p7 : lw_okq (⟨"SquareFolds$Gluing", "casesOfOpen", "(II)I"⟩, 3) := ⟨⟨by decide +kernel, by decide +kernel⟩, List.mem_of_getElem? (i := 39) (by decide +kernel), List.mem_of_getElem? (i := 575) (by decide +kernel), List.mem_of_getElem? (i := 576) (by decide +kernel)⟩
theorem lw_p8 : lw_okq (⟨"SquareFolds$Gluing", "leftBy", "(J)I"⟩, 3) := ⟨⟨by decide +kernel, by decide +kernel⟩, List.mem_of_getElem? (i := 39) (by decide +kernel), List.mem_of_getElem? (i := 599) (by decide +kernel), List.mem_of_getElem? (i := 600) (by decide +kernel)⟩
theorem lw_p9 : lw_okq (⟨"SquareFoldsModel", "canStand", "(I)Z"⟩, 23) := ⟨⟨by decide +kernel, by decide +kernel⟩, List.mem_of_getElem? (i := 633) (by decide +kernel), List.mem_of_getElem? (i := 726) (by decide +kernel), List.mem_of_getElem? (i := 727) (by decide +kernel)⟩
theorem lw_p10 : lw_okq (⟨"SquareFoldsModel", "groupSize", "()I"⟩, 23) := ⟨⟨by decide +kernel, by decide +kernel⟩, List.mem_of_getElem? (i := 633) (by decide +kernel), List.mem_of_getElem? (i := 800) (by decide +kernel), List.mem_of_getElem? (i := 801) (by decide +kernel)⟩
theorem lw_p11 : lw_okq (⟨"SquareFoldsModel", "isSquare", "(I)Z"⟩, 23) := ⟨⟨by decide +kernel, by decide +kernel⟩, List.mem_of_getElem? (i := 633) (by decide +kernel), List.mem_of_getElem? (i := 814) (by decide +kernel), List.mem_of_getElem? (i := 815) (by decide +kernel)⟩
theorem lw_p12 : lw_okq (⟨"SquareFoldsModel", "nameFrom", "([II)J"⟩, 23) := ⟨⟨by decide +kernel, by decide +kernel⟩, List.mem_of_getElem? (i := 633) (by decide +kernel), List.mem_of_getElem? (i := 846) (by decide +kernel), List.mem_of_getElem? (i := 847) (by decide +kernel)⟩
theorem lw_p13 : lw_okq (⟨"SquareFoldsModel", "meet", "(I)V"⟩, 23) := ⟨⟨by decide +kernel, by decide +kernel⟩, List.mem_of_getElem? (i := 633) (by decide +kernel), List.mem_of_getElem? (i := 850) (by decide +kernel), List.mem_of_getElem? (i := 851) (by decide +kernel)⟩
theorem lw_p14 : lw_okq (⟨"SquareFoldsModel", "leastName", "([II)J"⟩, 23) := ⟨⟨by decide +kernel, by decide +kernel⟩, List.mem_of_getElem? (i := 633) (by decide +kernel), List.mem_of_getElem? (i := 855) (by decide +kernel), List.mem_of_getElem? (i := 856) (by decide +kernel)⟩
theorem lw_p15 : lw_okq (⟨"SquareFoldsModel", "note", "()V"⟩, 23) := ⟨⟨by decide +kernel, by decide +kernel⟩, List.mem_of_getElem? (i := 633) (by decide +kernel), List.mem_of_getElem? (i := 864) (by decide +kernel), List.mem_of_getElem? (i := 865) (by decide +kernel)⟩
def lw_privs_1 : List (MethodName × Nat) := [(⟨"SquareFolds$Gluing", "isContinued", "(II)Z"⟩, 3), (⟨"SquareFolds", "groupSize", "()I"⟩, 10), (⟨"SquareFolds$NameOrbit", "placeSheared", "(III)I"⟩, 3), (⟨"SquareFolds$NameOrbit", "ringFrom", "(I)I"⟩, 3), (⟨"SquareFolds$Gluing", "didShear", "(I)Z"⟩, 3), (⟨"SquareFolds$Gluing", "didTrade", "(II)Z"⟩, 3), (⟨"SquareFolds", "allSeenFrom", "(I)Z"⟩, 10), (⟨"SquareFolds$Gluing", "casesOfOpen", "(II)I"⟩, 3), (⟨"SquareFolds$Gluing", "leftBy", "(J)I"⟩, 3), (⟨"SquareFoldsModel", "canStand", "(I)Z"⟩, 23), (⟨"SquareFoldsModel", "groupSize", "()I"⟩, 23), (⟨"SquareFoldsModel", "isSquare", "(I)Z"⟩, 23), (⟨"SquareFoldsModel", "nameFrom", "([II)J"⟩, 23), (⟨"SquareFoldsModel", "meet", "(I)V"⟩, 23), (⟨"SquareFoldsModel", "leastName", "([II)J"⟩, 23), (⟨"SquareFoldsModel", "note", "()V"⟩, 23)]
theorem lw_r1 : ∀ q ∈ lw_privs_1, lw_okq q := List.forall_mem_cons.mpr ⟨lw_p0, List.forall_mem_cons.mpr ⟨lw_p1, List.forall_mem_cons.mpr ⟨lw_p2, List.forall_mem_cons.mpr ⟨lw_p3, List.forall_mem_cons.mpr ⟨lw_p4, List.forall_mem_cons.mpr ⟨lw_p5, List.forall_mem_cons.mpr ⟨lw_p6, List.forall_mem_cons.mpr ⟨lw_p7, List.forall_mem_cons.mpr ⟨lw_p8, List.forall_mem_cons.mpr ⟨lw_p9, List.forall_mem_cons.mpr ⟨lw_p10, List.forall_mem_cons.mpr ⟨lw_p11, List.forall_mem_cons.mpr ⟨lw_p12, List.forall_mem_cons.mpr ⟨lw_p13, List.forall_mem_cons.mpr ⟨lw_p14, List.forall_mem_cons.mpr ⟨lw_p15, fun _ h => absurd h List.not_mem_nil⟩⟩⟩⟩⟩⟩⟩⟩⟩⟩⟩⟩⟩⟩⟩⟩
theorem lw_p16 : lw_okq (⟨"SquareFoldsModel", "shearOn", "([II)V"⟩, 23) := ⟨⟨by decide +kernel, by decide +kernel⟩, List.mem_of_getElem? (i := 633) (by decide +kernel), List.mem_of_getElem? (i := 868) (by decide +kernel), List.mem_of_getElem? (i := 869) (by decide +kernel)⟩
theorem lw_p17 : lw_okq (⟨"SquareFoldsModel", "side", "([I)V"⟩, 23) := ⟨⟨by decide +kernel, by decide +kernel⟩, List.mem_of_getElem? (i := 633) (by decide +kernel), List.mem_of_getElem? (i := 872) (by decide +kernel), List.mem_of_getElem? (i := 873) (by decide +kernel)⟩
theorem lw_p18 : lw_okq (⟨"SquareFoldsModel", "layAside", "([I)V"⟩, 23) := ⟨⟨by decide +kernel, by decide +kernel⟩, List.mem_of_getElem? (i := 633) (by decide +kernel), List.mem_of_getElem? (i := 876) (by decide +kernel), List.mem_of_getElem? (i := 877) (by decide +kernel)⟩
theorem lw_p19 : lw_okq (⟨"SquareFoldsModel", "upward", "([I)V"⟩, 23) := ⟨⟨by decide +kernel, by decide +kernel⟩, List.mem_of_getElem? (i := 633) (by decide +kernel), List.mem_of_getElem? (i := 880) (by decide +kernel), List.mem_of_getElem? (i := 881) (by decide +kernel)⟩
theorem lw_p20 : lw_okq (⟨"SquareFoldsModel", "quarter", "([I)V"⟩, 23) := ⟨⟨by decide +kernel, by decide +kernel⟩, List.mem_of_getElem? (i := 633) (by decide +kernel), List.mem_of_getElem? (i := 884) (by decide +kernel), List.mem_of_getElem? (i := 885) (by decide +kernel)⟩
theorem lw_p21 : lw_okq (⟨"SquareFoldsModel", "change", "([III)V"⟩, 23) := ⟨⟨by decide +kernel, by decide +kernel⟩, List.mem_of_getElem? (i := 633) (by decide +kernel), List.mem_of_getElem? (i := 892) (by decide +kernel), List.mem_of_getElem? (i := 893) (by decide +kernel)⟩
theorem lw_p22 : lw_okq (⟨"SquareFoldsModel", "findOrbit", "(I)V"⟩, 23) := ⟨⟨by decide +kernel, by decide +kernel⟩, List.mem_of_getElem? (i := 633) (by decide +kernel), List.mem_of_getElem? (i := 907) (by decide +kernel), List.mem_of_getElem? (i := 908) (by decide +kernel)⟩
theorem lw_p23 : lw_okq (⟨"SquareFoldsModel", "enter", "(J)I"⟩, 23) := ⟨⟨by decide +kernel, by decide +kernel⟩, List.mem_of_getElem? (i := 633) (by decide +kernel), List.mem_of_getElem? (i := 911) (by decide +kernel), List.mem_of_getElem? (i := 912) (by decide +kernel)⟩
theorem lw_p24 : lw_okq (⟨"SquareFoldsModel", "placeOf", "(J)I"⟩, 23) := ⟨⟨by decide +kernel, by decide +kernel⟩, List.mem_of_getElem? (i := 633) (by decide +kernel), List.mem_of_getElem? (i := 915) (by decide +kernel), List.mem_of_getElem? (i := 916) (by decide +kernel)⟩
theorem lw_p25 : lw_okq (⟨"SquareFoldsModel", "tellBack", "(JI)V"⟩, 23) := ⟨⟨by decide +kernel, by decide +kernel⟩, List.mem_of_getElem? (i := 633) (by decide +kernel), List.mem_of_getElem? (i := 919) (by decide +kernel), List.mem_of_getElem? (i := 920) (by decide +kernel)⟩
theorem lw_p26 : lw_okq (⟨"SquareFoldsModel", "ring", "(I)I"⟩, 23) := ⟨⟨by decide +kernel, by decide +kernel⟩, List.mem_of_getElem? (i := 633) (by decide +kernel), List.mem_of_getElem? (i := 923) (by decide +kernel), List.mem_of_getElem? (i := 924) (by decide +kernel)⟩
theorem lw_p27 : lw_okq (⟨"SquareFoldsModel", "judged", "(IIII)Z"⟩, 23) := ⟨⟨by decide +kernel, by decide +kernel⟩, List.mem_of_getElem? (i := 633) (by decide +kernel), List.mem_of_getElem? (i := 942) (by decide +kernel), List.mem_of_getElem? (i := 943) (by decide +kernel)⟩
def lw_privs_2 : List (MethodName × Nat) := [(⟨"SquareFoldsModel", "shearOn", "([II)V"⟩, 23), (⟨"SquareFoldsModel", "side", "([I)V"⟩, 23), (⟨"SquareFoldsModel", "layAside", "([I)V"⟩, 23), (⟨"SquareFoldsModel", "upward", "([I)V"⟩, 23), (⟨"SquareFoldsModel", "quarter", "([I)V"⟩, 23), (⟨"SquareFoldsModel", "change", "([III)V"⟩, 23), (⟨"SquareFoldsModel", "findOrbit", "(I)V"⟩, 23), (⟨"SquareFoldsModel", "enter", "(J)I"⟩, 23), (⟨"SquareFoldsModel", "placeOf", "(J)I"⟩, 23), (⟨"SquareFoldsModel", "tellBack", "(JI)V"⟩, 23), (⟨"SquareFoldsModel", "ring", "(I)I"⟩, 23), (⟨"SquareFoldsModel", "judged", "(IIII)Z"⟩, 23)]
theorem lw_r2 : ∀ q ∈ lw_privs_2, lw_okq q := List.forall_mem_cons.mpr ⟨lw_p16, List.forall_mem_cons.mpr ⟨lw_p17, List.forall_mem_cons.mpr ⟨lw_p18, List.forall_mem_cons.mpr ⟨lw_p19, List.forall_mem_cons.mpr ⟨lw_p20, List.forall_mem_cons.mpr ⟨lw_p21, List.forall_mem_cons.mpr ⟨lw_p22, List.forall_mem_cons.mpr ⟨lw_p23, List.forall_mem_cons.mpr ⟨lw_p24, List.forall_mem_cons.mpr ⟨lw_p25, List.forall_mem_cons.mpr ⟨lw_p26, List.forall_mem_cons.mpr ⟨lw_p27, fun _ h => absurd h List.not_mem_nil⟩⟩⟩⟩⟩⟩⟩⟩⟩⟩⟩⟩
def lw_privs : List (MethodName × Nat) := lw_privs_1 ++ (lw_privs_2)
def lw_tbl : List Cond := k2_sels lw_privs ++ tables_1
theorem lw_privs_ok : ∀ q ∈ lw_privs, lw_okq q := by
  show ∀ q ∈ lw_privs_1 ++ (lw_privs_2), lw_okq q
  exact List.forall_mem_append.mpr ⟨lw_r1, lw_r2⟩
end
section
def RX0 : String := "SquareFolds$Distinct"
def TX0 : u_T := fun k => match k with
  | 0 => ("SquareFolds$Distinct", "numbers", "[J", true)
  | _ => ("SquareFolds$Distinct", "count", "I", false)
def tyX0 : Nat → FieldType := fun k => match k with
  | 0 => .array .long
  | _ => .int
abbrev wsX00 : List Cond := u_ws RX0 TX0 2
theorem nmX0 : ∀ a, a < 2 → ∀ b, b < 2 → a ≠ b → (TX0 a).2.1 ≠ (TX0 b).2.1 := by decide +kernel
theorem tyX0_ok : ∀ k, k < 2 → parseFieldDescriptor (TX0 k).2.2.1 = some (tyX0 k) := by decide +kernel
abbrev cX0_init : ByteArray := prog_2_method_1_code
def yX0_init : MethodName := ⟨RX0, "<init>", "()V"⟩
abbrev cX0_at : ByteArray := prog_2_method_2_code
def yX0_at : MethodName := ⟨RX0, "at", "(I)J"⟩
abbrev cX0_find : ByteArray := prog_2_method_3_code
def yX0_find : MethodName := ⟨RX0, "find", "(J)I"⟩
abbrev cX0_placeOf : ByteArray := prog_2_method_4_code
def yX0_placeOf : MethodName := ⟨RX0, "placeOf", "(J)I"⟩
def RX1 : String := "SquareFolds$Fraction"
def TX1 : u_T := fun k => match k with
  | 0 => ("SquareFolds$Fraction", "above", "I", false)
  | _ => ("SquareFolds$Fraction", "below", "I", false)
def tyX1 : Nat → FieldType := fun k => match k with
  | 0 => .int
  | _ => .int
abbrev wsX10 : List Cond := u_ws RX1 TX1 2
theorem nmX1 : ∀ a, a < 2 → ∀ b, b < 2 → a ≠ b → (TX1 a).2.1 ≠ (TX1 b).2.1 := by decide +kernel
theorem tyX1_ok : ∀ k, k < 2 → parseFieldDescriptor (TX1 k).2.2.1 = some (tyX1 k) := by decide +kernel
abbrev cX1_init : ByteArray := prog_3_method_1_code
def yX1_init : MethodName := ⟨RX1, "<init>", "()V"⟩
abbrev cX1_become : ByteArray := prog_3_method_2_code
def yX1_become : MethodName := ⟨RX1, "become", "(II)V"⟩
abbrev cX1_told : ByteArray := prog_3_method_3_code
def yX1_told : MethodName := ⟨RX1, "told", "(Z)I"⟩
abbrev cX1_measure : ByteArray := prog_3_method_4_code
def yX1_measure : MethodName := ⟨RX1, "measure", "(II)I"⟩
def RX2 : String := "SquareFolds$Gluing"
def TX2 : u_T := fun k => match k with
  | 0 => ("SquareFolds$Gluing", "squares", "I", false)
  | 1 => ("SquareFolds$Gluing", "right", "I", false)
  | _ => ("SquareFolds$Gluing", "up", "I", false)
def tyX2 : Nat → FieldType := fun k => match k with
  | 0 => .int
  | 1 => .int
  | _ => .int
abbrev wsX20 : List Cond := u_ws RX2 TX2 3
theorem nmX2 : ∀ a, a < 3 → ∀ b, b < 3 → a ≠ b → (TX2 a).2.1 ≠ (TX2 b).2.1 := by decide +kernel
theorem tyX2_ok : ∀ k, k < 3 → parseFieldDescriptor (TX2 k).2.2.1 = some (tyX2 k) := by decide +kernel
abbrev cX2_init : ByteArray := prog_4_method_1_code
def yX2_init : MethodName := ⟨RX2, "<init>", "()V"⟩
abbrev cX2_become : ByteArray := prog_4_method_2_code
def yX2_become : MethodName := ⟨RX2, "become", "(III)V"⟩
abbrev cX2_has : ByteArray := prog_4_method_3_code
def yX2_has : MethodName := ⟨RX2, "has", "(I)Z"⟩
abbrev cX2_all : ByteArray := prog_4_method_4_code
def yX2_all : MethodName := ⟨RX2, "all", "()I"⟩
abbrev cX2_left : ByteArray := prog_4_method_5_code
def yX2_left : MethodName := ⟨RX2, "left", "()I"⟩
abbrev cX2_down : ByteArray := prog_4_method_6_code
def yX2_down : MethodName := ⟨RX2, "down", "()I"⟩
abbrev cX2_moved : ByteArray := prog_4_method_7_code
def yX2_moved : MethodName := ⟨RX2, "moved", "(II)I"⟩
abbrev cX2_walked : ByteArray := prog_4_method_8_code
def yX2_walked : MethodName := ⟨RX2, "walked", "(II)I"⟩
abbrev cX2_reach : ByteArray := prog_4_method_9_code
def yX2_reach : MethodName := ⟨RX2, "reach", "(III)I"⟩
abbrev cX2_joined : ByteArray := prog_4_method_10_code
def yX2_joined : MethodName := ⟨RX2, "joined", "(III)I"⟩
abbrev cX2_piece : ByteArray := prog_4_method_11_code
def yX2_piece : MethodName := ⟨RX2, "piece", "(I)I"⟩
abbrev cX2_pieces : ByteArray := prog_4_method_12_code
def yX2_pieces : MethodName := ⟨RX2, "pieces", "(I)I"⟩
abbrev cX2_turnedRound : ByteArray := prog_4_method_13_code
def yX2_turnedRound : MethodName := ⟨RX2, "turnedRound", "()I"⟩
abbrev cX2_corners : ByteArray := prog_4_method_14_code
def yX2_corners : MethodName := ⟨RX2, "corners", "()I"⟩
abbrev cX2_ordinaryCorners : ByteArray := prog_4_method_15_code
def yX2_ordinaryCorners : MethodName := ⟨RX2, "ordinaryCorners", "()I"⟩
abbrev cX2_mostTurns : ByteArray := prog_4_method_16_code
def yX2_mostTurns : MethodName := ⟨RX2, "mostTurns", "()I"⟩
abbrev cX2_holes : ByteArray := prog_4_method_17_code
def yX2_holes : MethodName := ⟨RX2, "holes", "(I)I"⟩
abbrev cX2_rows : ByteArray := prog_4_method_18_code
def yX2_rows : MethodName := ⟨RX2, "rows", "()I"⟩
abbrev cX2_isContinued : ByteArray := prog_4_method_19_code
def yX2_isContinued : MethodName := ⟨RX2, "isContinued", "(II)Z"⟩
abbrev cX2_band : ByteArray := prog_4_method_20_code
def yX2_band : MethodName := ⟨RX2, "band", "(I)I"⟩
abbrev cX2_bands : ByteArray := prog_4_method_21_code
def yX2_bands : MethodName := ⟨RX2, "bands", "()I"⟩
abbrev cX2_nameFrom : ByteArray := prog_4_method_22_code
def yX2_nameFrom : MethodName := ⟨RX2, "nameFrom", "(I)J"⟩
abbrev cX2_figures : ByteArray := prog_4_method_23_code
def yX2_figures : MethodName := ⟨RX2, "figures", "(JIIII)J"⟩
abbrev cX2_leastName : ByteArray := prog_4_method_24_code
def yX2_leastName : MethodName := ⟨RX2, "leastName", "(I)J"⟩
abbrev cX2_becomeNamed : ByteArray := prog_4_method_25_code
def yX2_becomeNamed : MethodName := ⟨RX2, "becomeNamed", "(JI)V"⟩
abbrev cX2_doShear : ByteArray := prog_4_method_26_code
def yX2_doShear : MethodName := ⟨RX2, "doShear", "(I)V"⟩
abbrev cX2_doTrade : ByteArray := prog_4_method_27_code
def yX2_doTrade : MethodName := ⟨RX2, "doTrade", "(II)V"⟩
abbrev cX2_doDrawn : ByteArray := prog_4_method_28_code
def yX2_doDrawn : MethodName := ⟨RX2, "doDrawn", "(J)V"⟩
abbrev cX2_leftBy : ByteArray := prog_4_method_29_code
def yX2_leftBy : MethodName := ⟨RX2, "leftBy", "(J)I"⟩
abbrev cX2_tryTold : ByteArray := prog_4_method_30_code
def yX2_tryTold : MethodName := ⟨RX2, "tryTold", "(I)Z"⟩
abbrev cX2_didShear : ByteArray := prog_4_method_31_code
def yX2_didShear : MethodName := ⟨RX2, "didShear", "(I)Z"⟩
abbrev cX2_didTrade : ByteArray := prog_4_method_32_code
def yX2_didTrade : MethodName := ⟨RX2, "didTrade", "(II)Z"⟩
abbrev cX2_orders : ByteArray := prog_4_method_33_code
def yX2_orders : MethodName := ⟨RX2, "orders", "(I)I"⟩
abbrev cX2_moreInAllOrders : ByteArray := prog_4_method_34_code
def yX2_moreInAllOrders : MethodName := ⟨RX2, "moreInAllOrders", "(I)I"⟩
abbrev cX2_casesInAll : ByteArray := prog_4_method_35_code
def yX2_casesInAll : MethodName := ⟨RX2, "casesInAll", "()I"⟩
abbrev cX2_casesInOnePiece : ByteArray := prog_4_method_36_code
def yX2_casesInOnePiece : MethodName := ⟨RX2, "casesInOnePiece", "(I)I"⟩
abbrev cX2_casesOfOpen : ByteArray := prog_4_method_37_code
def yX2_casesOfOpen : MethodName := ⟨RX2, "casesOfOpen", "(II)I"⟩
def RX3 : String := "SquareFolds$Letters"
def TX3 : u_T := fun k => match k with
  | 0 => ("SquareFolds$Letters", "letters", "[I", true)
  | _ => ("SquareFolds$Letters", "length", "I", false)
def tyX3 : Nat → FieldType := fun k => match k with
  | 0 => .array .int
  | _ => .int
abbrev wsX30 : List Cond := u_ws RX3 TX3 2
theorem nmX3 : ∀ a, a < 2 → ∀ b, b < 2 → a ≠ b → (TX3 a).2.1 ≠ (TX3 b).2.1 := by decide +kernel
theorem tyX3_ok : ∀ k, k < 2 → parseFieldDescriptor (TX3 k).2.2.1 = some (tyX3 k) := by decide +kernel
abbrev cX3_init : ByteArray := prog_5_method_1_code
def yX3_init : MethodName := ⟨RX3, "<init>", "()V"⟩
abbrev cX3_add : ByteArray := prog_5_method_2_code
def yX3_add : MethodName := ⟨RX3, "add", "(I)Z"⟩
abbrev cX3_figure : ByteArray := prog_5_method_3_code
def yX3_figure : MethodName := ⟨RX3, "figure", "(I)I"⟩
abbrev cX3_rowFrom : ByteArray := prog_5_method_4_code
def yX3_rowFrom : MethodName := ⟨RX3, "rowFrom", "(II)I"⟩
abbrev cX3_firstFault : ByteArray := prog_5_method_5_code
def yX3_firstFault : MethodName := ⟨RX3, "firstFault", "()I"⟩
def RX4 : String := "SquareFolds$NameOrbit"
def TX4 : u_T := fun k => match k with
  | 0 => ("SquareFolds$NameOrbit", "names", "LSquareFolds$Distinct;", true)
  | 1 => ("SquareFolds$NameOrbit", "sheared", "[I", true)
  | _ => ("SquareFolds$NameOrbit", "shape", "LSquareFolds$Gluing;", true)
def tyX4 : Nat → FieldType := fun k => match k with
  | 0 => .object "SquareFolds$Distinct"
  | 1 => .array .int
  | _ => .object "SquareFolds$Gluing"
abbrev wsX40 : List Cond := u_ws RX4 TX4 3
theorem nmX4 : ∀ a, a < 3 → ∀ b, b < 3 → a ≠ b → (TX4 a).2.1 ≠ (TX4 b).2.1 := by decide +kernel
theorem tyX4_ok : ∀ k, k < 3 → parseFieldDescriptor (TX4 k).2.2.1 = some (tyX4 k) := by decide +kernel
abbrev cX4_init : ByteArray := prog_6_method_1_code
def yX4_init : MethodName := ⟨RX4, "<init>", "()V"⟩
abbrev cX4_gather : ByteArray := prog_6_method_2_code
def yX4_gather : MethodName := ⟨RX4, "gather", "(JI)V"⟩
abbrev cX4_placeSheared : ByteArray := prog_6_method_3_code
def yX4_placeSheared : MethodName := ⟨RX4, "placeSheared", "(III)I"⟩
abbrev cX4_ringFrom : ByteArray := prog_6_method_4_code
def yX4_ringFrom : MethodName := ⟨RX4, "ringFrom", "(I)I"⟩
abbrev cX4_cusps : ByteArray := prog_6_method_5_code
def yX4_cusps : MethodName := ⟨RX4, "cusps", "()I"⟩
abbrev cX4_widest : ByteArray := prog_6_method_6_code
def yX4_widest : MethodName := ⟨RX4, "widest", "()I"⟩
def RX5 : String := "SquareFolds$Past"
def TX5 : u_T := fun k => match k with
  | 0 => ("SquareFolds$Past", "rights", "[I", true)
  | 1 => ("SquareFolds$Past", "ups", "[I", true)
  | _ => ("SquareFolds$Past", "count", "I", false)
def tyX5 : Nat → FieldType := fun k => match k with
  | 0 => .array .int
  | 1 => .array .int
  | _ => .int
abbrev wsX50 : List Cond := u_ws RX5 TX5 3
theorem nmX5 : ∀ a, a < 3 → ∀ b, b < 3 → a ≠ b → (TX5 a).2.1 ≠ (TX5 b).2.1 := by decide +kernel
theorem tyX5_ok : ∀ k, k < 3 → parseFieldDescriptor (TX5 k).2.2.1 = some (tyX5 k) := by decide +kernel
abbrev cX5_init : ByteArray := prog_7_method_1_code
def yX5_init : MethodName := ⟨RX5, "<init>", "()V"⟩
abbrev cX5_add : ByteArray := prog_7_method_2_code
def yX5_add : MethodName := ⟨RX5, "add", "(II)V"⟩
abbrev cX5_rightAt : ByteArray := prog_7_method_3_code
def yX5_rightAt : MethodName := ⟨RX5, "rightAt", "(I)I"⟩
abbrev cX5_upAt : ByteArray := prog_7_method_4_code
def yX5_upAt : MethodName := ⟨RX5, "upAt", "(I)I"⟩
def RX6 : String := "SquareFolds$Row"
def TX6 : u_T := fun k => match k with
  | _ => ("", "", "", false)
def tyX6 : Nat → FieldType := fun k => match k with
  | _ => .int
abbrev wsX60 : List Cond := u_ws RX6 TX6 0
theorem nmX6 : ∀ a, a < 0 → ∀ b, b < 0 → a ≠ b → (TX6 a).2.1 ≠ (TX6 b).2.1 := by decide +kernel
theorem tyX6_ok : ∀ k, k < 0 → parseFieldDescriptor (TX6 k).2.2.1 = some (tyX6 k) := by decide +kernel
abbrev cX6_at : ByteArray := prog_8_method_2_code
def yX6_at : MethodName := ⟨RX6, "at", "(II)I"⟩
abbrev cX6_put : ByteArray := prog_8_method_3_code
def yX6_put : MethodName := ⟨RX6, "put", "(III)I"⟩
abbrev cX6_staying : ByteArray := prog_8_method_4_code
def yX6_staying : MethodName := ⟨RX6, "staying", "(I)I"⟩
abbrev cX6_then : ByteArray := prog_8_method_5_code
def yX6_then : MethodName := ⟨RX6, "then", "(III)I"⟩
abbrev cX6_back : ByteArray := prog_8_method_6_code
def yX6_back : MethodName := ⟨RX6, "back", "(II)I"⟩
abbrev cX6_ring : ByteArray := prog_8_method_7_code
def yX6_ring : MethodName := ⟨RX6, "ring", "(III)I"⟩
abbrev cX6_rings : ByteArray := prog_8_method_8_code
def yX6_rings : MethodName := ⟨RX6, "rings", "(II)I"⟩
abbrev cX6_isIn : ByteArray := prog_8_method_9_code
def yX6_isIn : MethodName := ⟨RX6, "isIn", "(II)Z"⟩
def RX7 : String := "SquareFolds$Sightings"
def TX7 : u_T := fun k => match k with
  | 0 => ("SquareFolds$Sightings", "ways", "[I", true)
  | 1 => ("SquareFolds$Sightings", "backs", "[I", true)
  | _ => ("SquareFolds$Sightings", "count", "I", false)
def tyX7 : Nat → FieldType := fun k => match k with
  | 0 => .array .int
  | 1 => .array .int
  | _ => .int
abbrev wsX70 : List Cond := u_ws RX7 TX7 3
theorem nmX7 : ∀ a, a < 3 → ∀ b, b < 3 → a ≠ b → (TX7 a).2.1 ≠ (TX7 b).2.1 := by decide +kernel
theorem tyX7_ok : ∀ k, k < 3 → parseFieldDescriptor (TX7 k).2.2.1 = some (tyX7 k) := by decide +kernel
abbrev cX7_init : ByteArray := prog_9_method_1_code
def yX7_init : MethodName := ⟨RX7, "<init>", "()V"⟩
abbrev cX7_add : ByteArray := prog_9_method_2_code
def yX7_add : MethodName := ⟨RX7, "add", "(II)Z"⟩
abbrev cX7_wayAt : ByteArray := prog_9_method_3_code
def yX7_wayAt : MethodName := ⟨RX7, "wayAt", "(I)I"⟩
abbrev cX7_cameBack : ByteArray := prog_9_method_4_code
def yX7_cameBack : MethodName := ⟨RX7, "cameBack", "(I)Z"⟩
def RX8 : String := "SquareFolds$Slots"
def TX8 : u_T := fun k => match k with
  | 0 => ("SquareFolds$Slots", "rights", "[I", true)
  | 1 => ("SquareFolds$Slots", "ups", "[I", true)
  | _ => ("SquareFolds$Slots", "keptBits", "I", false)
def tyX8 : Nat → FieldType := fun k => match k with
  | 0 => .array .int
  | 1 => .array .int
  | _ => .int
abbrev wsX80 : List Cond := u_ws RX8 TX8 3
theorem nmX8 : ∀ a, a < 3 → ∀ b, b < 3 → a ≠ b → (TX8 a).2.1 ≠ (TX8 b).2.1 := by decide +kernel
theorem tyX8_ok : ∀ k, k < 3 → parseFieldDescriptor (TX8 k).2.2.1 = some (tyX8 k) := by decide +kernel
abbrev cX8_init : ByteArray := prog_10_method_1_code
def yX8_init : MethodName := ⟨RX8, "<init>", "()V"⟩
abbrev cX8_has : ByteArray := prog_10_method_2_code
def yX8_has : MethodName := ⟨RX8, "has", "(I)Z"⟩
abbrev cX8_clear : ByteArray := prog_10_method_3_code
def yX8_clear : MethodName := ⟨RX8, "clear", "()V"⟩
abbrev cX8_isKept : ByteArray := prog_10_method_4_code
def yX8_isKept : MethodName := ⟨RX8, "isKept", "(I)Z"⟩
abbrev cX8_put : ByteArray := prog_10_method_5_code
def yX8_put : MethodName := ⟨RX8, "put", "(III)V"⟩
abbrev cX8_rightAt : ByteArray := prog_10_method_6_code
def yX8_rightAt : MethodName := ⟨RX8, "rightAt", "(I)I"⟩
abbrev cX8_upAt : ByteArray := prog_10_method_7_code
def yX8_upAt : MethodName := ⟨RX8, "upAt", "(I)I"⟩
def RX9 : String := "SquareFolds"
def TX9 : u_T := fun k => match k with
  | 0 => ("SquareFolds", "text", "LSquareFolds$Letters;", true)
  | 1 => ("SquareFolds", "now", "LSquareFolds$Gluing;", true)
  | 2 => ("SquareFolds", "trial", "LSquareFolds$Gluing;", true)
  | 3 => ("SquareFolds", "past", "LSquareFolds$Past;", true)
  | 4 => ("SquareFolds", "slots", "LSquareFolds$Slots;", true)
  | 5 => ("SquareFolds", "sightings", "LSquareFolds$Sightings;", true)
  | 6 => ("SquareFolds", "nameOrbit", "LSquareFolds$NameOrbit;", true)
  | 7 => ("SquareFolds", "turns", "LSquareFolds$Distinct;", true)
  | 8 => ("SquareFolds", "fraction", "LSquareFolds$Fraction;", true)
  | _ => ("SquareFolds", "seedNow", "J", false)
def tyX9 : Nat → FieldType := fun k => match k with
  | 0 => .object "SquareFolds$Letters"
  | 1 => .object "SquareFolds$Gluing"
  | 2 => .object "SquareFolds$Gluing"
  | 3 => .object "SquareFolds$Past"
  | 4 => .object "SquareFolds$Slots"
  | 5 => .object "SquareFolds$Sightings"
  | 6 => .object "SquareFolds$NameOrbit"
  | 7 => .object "SquareFolds$Distinct"
  | 8 => .object "SquareFolds$Fraction"
  | _ => .long
abbrev wsX90 : List Cond := u_ws RX9 TX9 10
theorem nmX9 : ∀ a, a < 10 → ∀ b, b < 10 → a ≠ b → (TX9 a).2.1 ≠ (TX9 b).2.1 := by decide +kernel
theorem tyX9_ok : ∀ k, k < 10 → parseFieldDescriptor (TX9 k).2.2.1 = some (tyX9 k) := by decide +kernel
abbrev cX9_init : ByteArray := prog_1_method_1_code
def yX9_init : MethodName := ⟨RX9, "<init>", "()V"⟩
abbrev cX9_write : ByteArray := prog_1_method_2_code
def yX9_write : MethodName := ⟨RX9, "write", "(I)I"⟩
abbrev cX9_wipe : ByteArray := prog_1_method_3_code
def yX9_wipe : MethodName := ⟨RX9, "wipe", "()I"⟩
abbrev cX9_fault : ByteArray := prog_1_method_4_code
def yX9_fault : MethodName := ⟨RX9, "fault", "()I"⟩
abbrev cX9_surface : ByteArray := prog_1_method_5_code
def yX9_surface : MethodName := ⟨RX9, "surface", "()I"⟩
abbrev cX9_about : ByteArray := prog_1_method_6_code
def yX9_about : MethodName := ⟨RX9, "about", "(I)I"⟩
abbrev cX9_go : ByteArray := prog_1_method_7_code
def yX9_go : MethodName := ⟨RX9, "go", "(II)I"⟩
abbrev cX9_walk : ByteArray := prog_1_method_8_code
def yX9_walk : MethodName := ⟨RX9, "walk", "(II)I"⟩
abbrev cX9_square : ByteArray := prog_1_method_9_code
def yX9_square : MethodName := ⟨RX9, "square", "(II)I"⟩
abbrev cX9_name : ByteArray := prog_1_method_10_code
def yX9_name : MethodName := ⟨RX9, "name", "(II)J"⟩
abbrev cX9_shear : ByteArray := prog_1_method_11_code
def yX9_shear : MethodName := ⟨RX9, "shear", "(I)I"⟩
abbrev cX9_trade : ByteArray := prog_1_method_12_code
def yX9_trade : MethodName := ⟨RX9, "trade", "(II)I"⟩
abbrev cX9_undo : ByteArray := prog_1_method_13_code
def yX9_undo : MethodName := ⟨RX9, "undo", "()I"⟩
abbrev cX9_orbit : ByteArray := prog_1_method_14_code
def yX9_orbit : MethodName := ⟨RX9, "orbit", "(II)I"⟩
abbrev cX9_alike : ByteArray := prog_1_method_15_code
def yX9_alike : MethodName := ⟨RX9, "alike", "(III)I"⟩
abbrev cX9_judge : ByteArray := prog_1_method_16_code
def yX9_judge : MethodName := ⟨RX9, "judge", "(IJ)I"⟩
abbrev cX9_share : ByteArray := prog_1_method_17_code
def yX9_share : MethodName := ⟨RX9, "share", "(IZ)I"⟩
abbrev cX9_see : ByteArray := prog_1_method_18_code
def yX9_see : MethodName := ⟨RX9, "see", "(II)I"⟩
abbrev cX9_unsee : ByteArray := prog_1_method_19_code
def yX9_unsee : MethodName := ⟨RX9, "unsee", "()I"⟩
abbrev cX9_which : ByteArray := prog_1_method_20_code
def yX9_which : MethodName := ⟨RX9, "which", "()I"⟩
abbrev cX9_opens : ByteArray := prog_1_method_21_code
def yX9_opens : MethodName := ⟨RX9, "opens", "(IZ)I"⟩
abbrev cX9_seed : ByteArray := prog_1_method_22_code
def yX9_seed : MethodName := ⟨RX9, "seed", "(J)J"⟩
abbrev cX9_drawn : ByteArray := prog_1_method_23_code
def yX9_drawn : MethodName := ⟨RX9, "drawn", "(I)I"⟩
abbrev cX9_keep : ByteArray := prog_1_method_24_code
def yX9_keep : MethodName := ⟨RX9, "keep", "(I)I"⟩
abbrev cX9_again : ByteArray := prog_1_method_25_code
def yX9_again : MethodName := ⟨RX9, "again", "(I)I"⟩
abbrev cX9_isWay : ByteArray := prog_1_method_26_code
def yX9_isWay : MethodName := ⟨RX9, "isWay", "(I)Z"⟩
abbrev cX9_withoutLast : ByteArray := prog_1_method_27_code
def yX9_withoutLast : MethodName := ⟨RX9, "withoutLast", "(JI)J"⟩
abbrev cX9_allSeenFrom : ByteArray := prog_1_method_28_code
def yX9_allSeenFrom : MethodName := ⟨RX9, "allSeenFrom", "(I)Z"⟩
abbrev cX9_groupSize : ByteArray := prog_1_method_29_code
def yX9_groupSize : MethodName := ⟨RX9, "groupSize", "()I"⟩
def RX10 : String := "SquareFoldsModel"
def TX10 : u_T := fun k => match k with
  | 0 => ("SquareFoldsModel", "text", "[I", true)
  | 1 => ("SquareFoldsModel", "length", "I", false)
  | 2 => ("SquareFoldsModel", "now", "[I", true)
  | 3 => ("SquareFoldsModel", "trial", "[I", true)
  | 4 => ("SquareFoldsModel", "work", "[I", true)
  | 5 => ("SquareFoldsModel", "aside", "[I", true)
  | 6 => ("SquareFoldsModel", "diary", "[I", true)
  | 7 => ("SquareFoldsModel", "doings", "I", false)
  | 8 => ("SquareFoldsModel", "next", "I", false)
  | 9 => ("SquareFoldsModel", "kept", "[I", true)
  | 10 => ("SquareFoldsModel", "isKept", "[Z", true)
  | 11 => ("SquareFoldsModel", "seenWay", "[I", true)
  | 12 => ("SquareFoldsModel", "seenBack", "[I", true)
  | 13 => ("SquareFoldsModel", "seen", "I", false)
  | 14 => ("SquareFoldsModel", "seed", "J", false)
  | 15 => ("SquareFoldsModel", "number", "[I", true)
  | 16 => ("SquareFoldsModel", "met", "[I", true)
  | 17 => ("SquareFoldsModel", "names", "[J", true)
  | 18 => ("SquareFoldsModel", "sideTo", "[I", true)
  | 19 => ("SquareFoldsModel", "many", "I", false)
  | 20 => ("SquareFoldsModel", "group", "[I", true)
  | 21 => ("SquareFoldsModel", "worth", "[I", true)
  | _ => ("SquareFoldsModel", "size", "I", false)
def tyX10 : Nat → FieldType := fun k => match k with
  | 0 => .array .int
  | 1 => .int
  | 2 => .array .int
  | 3 => .array .int
  | 4 => .array .int
  | 5 => .array .int
  | 6 => .array .int
  | 7 => .int
  | 8 => .int
  | 9 => .array .int
  | 10 => .array .boolean
  | 11 => .array .int
  | 12 => .array .int
  | 13 => .int
  | 14 => .long
  | 15 => .array .int
  | 16 => .array .int
  | 17 => .array .long
  | 18 => .array .int
  | 19 => .int
  | 20 => .array .int
  | 21 => .array .int
  | _ => .int
abbrev wsX100 : List Cond := u_ws RX10 TX10 23
theorem nmX10 : ∀ a, a < 23 → ∀ b, b < 23 → a ≠ b → (TX10 a).2.1 ≠ (TX10 b).2.1 := by decide +kernel
theorem tyX10_ok : ∀ k, k < 23 → parseFieldDescriptor (TX10 k).2.2.1 = some (tyX10 k) := by decide +kernel
abbrev cX10_init : ByteArray := prog_12_method_1_code
def yX10_init : MethodName := ⟨RX10, "<init>", "()V"⟩
abbrev cX10_in : ByteArray := prog_12_method_3_code
def yX10_in : MethodName := ⟨RX10, "in", "(JJJ)Z"⟩
abbrev cX10_has : ByteArray := prog_12_method_4_code
def yX10_has : MethodName := ⟨RX10, "has", "(II)Z"⟩
abbrev cX10_ones : ByteArray := prog_12_method_5_code
def yX10_ones : MethodName := ⟨RX10, "ones", "(I)I"⟩
abbrev cX10_power : ByteArray := prog_12_method_6_code
def yX10_power : MethodName := ⟨RX10, "power", "(II)I"⟩
abbrev cX10_divisor : ByteArray := prog_12_method_7_code
def yX10_divisor : MethodName := ⟨RX10, "divisor", "(II)I"⟩
abbrev cX10_fraction : ByteArray := prog_12_method_8_code
def yX10_fraction : MethodName := ⟨RX10, "fraction", "(IIZ)I"⟩
abbrev cX10_right : ByteArray := prog_12_method_9_code
def yX10_right : MethodName := ⟨RX10, "right", "([II)I"⟩
abbrev cX10_up : ByteArray := prog_12_method_10_code
def yX10_up : MethodName := ⟨RX10, "up", "([II)I"⟩
abbrev cX10_left : ByteArray := prog_12_method_11_code
def yX10_left : MethodName := ⟨RX10, "left", "([II)I"⟩
abbrev cX10_down : ByteArray := prog_12_method_12_code
def yX10_down : MethodName := ⟨RX10, "down", "([II)I"⟩
abbrev cX10_moved : ByteArray := prog_12_method_13_code
def yX10_moved : MethodName := ⟨RX10, "moved", "([III)I"⟩
abbrev cX10_around : ByteArray := prog_12_method_14_code
def yX10_around : MethodName := ⟨RX10, "around", "([II)I"⟩
abbrev cX10_turns : ByteArray := prog_12_method_15_code
def yX10_turns : MethodName := ⟨RX10, "turns", "([II)I"⟩
abbrev cX10_beginsCorner : ByteArray := prog_12_method_16_code
def yX10_beginsCorner : MethodName := ⟨RX10, "beginsCorner", "([II)Z"⟩
abbrev cX10_rowOf : ByteArray := prog_12_method_17_code
def yX10_rowOf : MethodName := ⟨RX10, "rowOf", "([II)I"⟩
abbrev cX10_pieceOf : ByteArray := prog_12_method_18_code
def yX10_pieceOf : MethodName := ⟨RX10, "pieceOf", "([II)I"⟩
abbrev cX10_isContinued : ByteArray := prog_12_method_19_code
def yX10_isContinued : MethodName := ⟨RX10, "isContinued", "([II)Z"⟩
abbrev cX10_bandOf : ByteArray := prog_12_method_20_code
def yX10_bandOf : MethodName := ⟨RX10, "bandOf", "([II)I"⟩
abbrev cX10_isLeast : ByteArray := prog_12_method_21_code
def yX10_isLeast : MethodName := ⟨RX10, "isLeast", "(II)Z"⟩
abbrev cX10_pieces : ByteArray := prog_12_method_22_code
def yX10_pieces : MethodName := ⟨RX10, "pieces", "([I)I"⟩
abbrev cX10_rows : ByteArray := prog_12_method_23_code
def yX10_rows : MethodName := ⟨RX10, "rows", "([I)I"⟩
abbrev cX10_bands : ByteArray := prog_12_method_24_code
def yX10_bands : MethodName := ⟨RX10, "bands", "([I)I"⟩
abbrev cX10_corners : ByteArray := prog_12_method_25_code
def yX10_corners : MethodName := ⟨RX10, "corners", "([II)I"⟩
abbrev cX10_allCorners : ByteArray := prog_12_method_26_code
def yX10_allCorners : MethodName := ⟨RX10, "allCorners", "([I)I"⟩
abbrev cX10_ordinary : ByteArray := prog_12_method_27_code
def yX10_ordinary : MethodName := ⟨RX10, "ordinary", "([I)I"⟩
abbrev cX10_holes : ByteArray := prog_12_method_28_code
def yX10_holes : MethodName := ⟨RX10, "holes", "([II)I"⟩
abbrev cX10_layAside : ByteArray := prog_12_method_29_code
def yX10_layAside : MethodName := ⟨RX10, "layAside", "([I)V"⟩
abbrev cX10_side : ByteArray := prog_12_method_30_code
def yX10_side : MethodName := ⟨RX10, "side", "([I)V"⟩
abbrev cX10_upward : ByteArray := prog_12_method_31_code
def yX10_upward : MethodName := ⟨RX10, "upward", "([I)V"⟩
abbrev cX10_quarter : ByteArray := prog_12_method_32_code
def yX10_quarter : MethodName := ⟨RX10, "quarter", "([I)V"⟩
abbrev cX10_other : ByteArray := prog_12_method_33_code
def yX10_other : MethodName := ⟨RX10, "other", "(III)I"⟩
abbrev cX10_change : ByteArray := prog_12_method_34_code
def yX10_change : MethodName := ⟨RX10, "change", "([III)V"⟩
abbrev cX10_shearOn : ByteArray := prog_12_method_35_code
def yX10_shearOn : MethodName := ⟨RX10, "shearOn", "([II)V"⟩
abbrev cX10_lay : ByteArray := prog_12_method_36_code
def yX10_lay : MethodName := ⟨RX10, "lay", "([I[I)V"⟩
abbrev cX10_isSquare : ByteArray := prog_12_method_37_code
def yX10_isSquare : MethodName := ⟨RX10, "isSquare", "(I)Z"⟩
abbrev cX10_write : ByteArray := prog_12_method_38_code
def yX10_write : MethodName := ⟨RX10, "write", "(I)I"⟩
abbrev cX10_wipe : ByteArray := prog_12_method_39_code
def yX10_wipe : MethodName := ⟨RX10, "wipe", "()I"⟩
abbrev cX10_canStand : ByteArray := prog_12_method_40_code
def yX10_canStand : MethodName := ⟨RX10, "canStand", "(I)Z"⟩
abbrev cX10_fault : ByteArray := prog_12_method_41_code
def yX10_fault : MethodName := ⟨RX10, "fault", "()I"⟩
abbrev cX10_surface : ByteArray := prog_12_method_42_code
def yX10_surface : MethodName := ⟨RX10, "surface", "()I"⟩
abbrev cX10_groupSize : ByteArray := prog_12_method_43_code
def yX10_groupSize : MethodName := ⟨RX10, "groupSize", "()I"⟩
abbrev cX10_greatest : ByteArray := prog_12_method_44_code
def yX10_greatest : MethodName := ⟨RX10, "greatest", "([I)I"⟩
abbrev cX10_about : ByteArray := prog_12_method_45_code
def yX10_about : MethodName := ⟨RX10, "about", "(I)I"⟩
abbrev cX10_go : ByteArray := prog_12_method_46_code
def yX10_go : MethodName := ⟨RX10, "go", "(II)I"⟩
abbrev cX10_isWay : ByteArray := prog_12_method_47_code
def yX10_isWay : MethodName := ⟨RX10, "isWay", "(I)Z"⟩
abbrev cX10_end : ByteArray := prog_12_method_48_code
def yX10_end : MethodName := ⟨RX10, "end", "([III)I"⟩
abbrev cX10_walk : ByteArray := prog_12_method_49_code
def yX10_walk : MethodName := ⟨RX10, "walk", "(II)I"⟩
abbrev cX10_square : ByteArray := prog_12_method_50_code
def yX10_square : MethodName := ⟨RX10, "square", "(II)I"⟩
abbrev cX10_meet : ByteArray := prog_12_method_51_code
def yX10_meet : MethodName := ⟨RX10, "meet", "(I)V"⟩
abbrev cX10_nameFrom : ByteArray := prog_12_method_52_code
def yX10_nameFrom : MethodName := ⟨RX10, "nameFrom", "([II)J"⟩
abbrev cX10_leastName : ByteArray := prog_12_method_53_code
def yX10_leastName : MethodName := ⟨RX10, "leastName", "([II)J"⟩
abbrev cX10_name : ByteArray := prog_12_method_54_code
def yX10_name : MethodName := ⟨RX10, "name", "(II)J"⟩
abbrev cX10_note : ByteArray := prog_12_method_55_code
def yX10_note : MethodName := ⟨RX10, "note", "()V"⟩
abbrev cX10_shear : ByteArray := prog_12_method_56_code
def yX10_shear : MethodName := ⟨RX10, "shear", "(I)I"⟩
abbrev cX10_trade : ByteArray := prog_12_method_57_code
def yX10_trade : MethodName := ⟨RX10, "trade", "(II)I"⟩
abbrev cX10_undo : ByteArray := prog_12_method_58_code
def yX10_undo : MethodName := ⟨RX10, "undo", "()I"⟩
abbrev cX10_tellBack : ByteArray := prog_12_method_59_code
def yX10_tellBack : MethodName := ⟨RX10, "tellBack", "(JI)V"⟩
abbrev cX10_placeOf : ByteArray := prog_12_method_60_code
def yX10_placeOf : MethodName := ⟨RX10, "placeOf", "(J)I"⟩
abbrev cX10_enter : ByteArray := prog_12_method_61_code
def yX10_enter : MethodName := ⟨RX10, "enter", "(J)I"⟩
abbrev cX10_findOrbit : ByteArray := prog_12_method_62_code
def yX10_findOrbit : MethodName := ⟨RX10, "findOrbit", "(I)V"⟩
abbrev cX10_ring : ByteArray := prog_12_method_63_code
def yX10_ring : MethodName := ⟨RX10, "ring", "(I)I"⟩
abbrev cX10_orbit : ByteArray := prog_12_method_64_code
def yX10_orbit : MethodName := ⟨RX10, "orbit", "(II)I"⟩
abbrev cX10_alike : ByteArray := prog_12_method_65_code
def yX10_alike : MethodName := ⟨RX10, "alike", "(III)I"⟩
abbrev cX10_judged : ByteArray := prog_12_method_66_code
def yX10_judged : MethodName := ⟨RX10, "judged", "(IIII)Z"⟩
abbrev cX10_tenThousands : ByteArray := prog_12_method_67_code
def yX10_tenThousands : MethodName := ⟨RX10, "tenThousands", "(I)J"⟩
abbrev cX10_judge : ByteArray := prog_12_method_68_code
def yX10_judge : MethodName := ⟨RX10, "judge", "(IJ)I"⟩
abbrev cX10_fallen : ByteArray := prog_12_method_69_code
def yX10_fallen : MethodName := ⟨RX10, "fallen", "([III)I"⟩
abbrev cX10_hanging : ByteArray := prog_12_method_70_code
def yX10_hanging : MethodName := ⟨RX10, "hanging", "([IIII)I"⟩
abbrev cX10_squareAt : ByteArray := prog_12_method_71_code
def yX10_squareAt : MethodName := ⟨RX10, "squareAt", "(II)I"⟩
abbrev cX10_isOrder : ByteArray := prog_12_method_72_code
def yX10_isOrder : MethodName := ⟨RX10, "isOrder", "(II)Z"⟩
abbrev cX10_share : ByteArray := prog_12_method_73_code
def yX10_share : MethodName := ⟨RX10, "share", "(IZ)I"⟩
abbrev cX10_see : ByteArray := prog_12_method_74_code
def yX10_see : MethodName := ⟨RX10, "see", "(II)I"⟩
abbrev cX10_unsee : ByteArray := prog_12_method_75_code
def yX10_unsee : MethodName := ⟨RX10, "unsee", "()I"⟩
abbrev cX10_which : ByteArray := prog_12_method_76_code
def yX10_which : MethodName := ⟨RX10, "which", "()I"⟩
abbrev cX10_opens : ByteArray := prog_12_method_77_code
def yX10_opens : MethodName := ⟨RX10, "opens", "(IZ)I"⟩
abbrev cX10_seed : ByteArray := prog_12_method_78_code
def yX10_seed : MethodName := ⟨RX10, "seed", "(J)J"⟩
abbrev cX10_drawn : ByteArray := prog_12_method_79_code
def yX10_drawn : MethodName := ⟨RX10, "drawn", "(I)I"⟩
abbrev cX10_keep : ByteArray := prog_12_method_80_code
def yX10_keep : MethodName := ⟨RX10, "keep", "(I)I"⟩
abbrev cX10_again : ByteArray := prog_12_method_81_code
def yX10_again : MethodName := ⟨RX10, "again", "(I)I"⟩
def RJ6 : String := "java/lang/Integer"
def TJ6 : u_T := fun k => match k with
  | _ => ("", "", "", false)
def tyJ6 : Nat → FieldType := fun k => match k with
  | _ => .int
abbrev wsJ60 : List Cond := u_ws RJ6 TJ6 0
theorem nmJ6 : ∀ a, a < 0 → ∀ b, b < 0 → a ≠ b → (TJ6 a).2.1 ≠ (TJ6 b).2.1 := by decide +kernel
theorem tyJ6_ok : ∀ k, k < 0 → parseFieldDescriptor (TJ6 k).2.2.1 = some (tyJ6 k) := by decide +kernel
abbrev cJ6_bitCount_0f7a4 : ByteArray := prog_13_method_49_code
def yJ6_bitCount_0f7a4 : MethodName := ⟨RJ6, "bitCount", "(I)I"⟩
def RJ9 : String := "java/lang/Math"
def TJ9 : u_T := fun k => match k with
  | _ => ("", "", "", false)
def tyJ9 : Nat → FieldType := fun k => match k with
  | _ => .int
abbrev wsJ90 : List Cond := u_ws RJ9 TJ9 0
theorem nmJ9 : ∀ a, a < 0 → ∀ b, b < 0 → a ≠ b → (TJ9 a).2.1 ≠ (TJ9 b).2.1 := by decide +kernel
theorem tyJ9_ok : ∀ k, k < 0 → parseFieldDescriptor (TJ9 k).2.2.1 = some (tyJ9 k) := by decide +kernel
abbrev cJ9_abs_0f7a4 : ByteArray := prog_14_method_59_code
def yJ9_abs_0f7a4 : MethodName := ⟨RJ9, "abs", "(I)I"⟩
abbrev cJ9_max_7cf53 : ByteArray := prog_14_method_65_code
def yJ9_max_7cf53 : MethodName := ⟨RJ9, "max", "(II)I"⟩
abbrev cJ9_min_f86c9 : ByteArray := prog_14_method_70_code
def yJ9_min_f86c9 : MethodName := ⟨RJ9, "min", "(JJ)J"⟩
def RJ10 : String := "java/lang/System"
def TJ10 : u_T := fun k => match k with
  | _ => ("", "", "", false)
def tyJ10 : Nat → FieldType := fun k => match k with
  | _ => .int
abbrev wsJ100 : List Cond := u_ws RJ10 TJ10 0
theorem nmJ10 : ∀ a, a < 0 → ∀ b, b < 0 → a ≠ b → (TJ10 a).2.1 ≠ (TJ10 b).2.1 := by decide +kernel
theorem tyJ10_ok : ∀ k, k < 0 → parseFieldDescriptor (TJ10 k).2.2.1 = some (tyJ10 k) := by decide +kernel
def RL : String := "SquareFoldsLaw"
abbrev cL_law : ByteArray := code
def yL_law : MethodName := ⟨RL, "law", "([I)Z"⟩
abbrev vwCl : List vw_C := [(RX0, TX0, 2), (RX1, TX1, 2), (RX2, TX2, 3), (RX3, TX3, 2), (RX4, TX4, 3), (RX5, TX5, 3), (RX7, TX7, 3), (RX8, TX8, 3), (RX9, TX9, 10), (RX10, TX10, 23)]
end
section
/-! A light machine over abstract cells: places instead of addresses, one judgement Sn, rules for blocks, heap, calls, returns. -/
abbrev Hp : Type := List va_E
abbrev Mt : Type := MethodName × ByteArray × Nat × Option FieldType × Nat × Nat
abbrev GG : Type := va_G × (Nat → Nat) × (Nat → ClassId) × Nat × (Nat → Int32)
abbrev Md : Type := Nat × Nat × (State → Nat → Prop) × (Room → Array Value → Prop) × (State → Array Value → List Frame → State → Prop)
abbrev LL : Type := List (Option Value)
def cv (ad : Nat → Nat) : Value → Value
  | .ref k => .ref (ad k)
  | v => v
theorem cv_cat (ad : Nat → Nat) (v : Value) : (cv ad v).category = v.category := by cases v <;> rfl
def ce (G : GG) : va_E → va_E
  | .inl a => .inl (G.2.2.1 a.1, a.2)
  | .inr o => .inr (o.1, o.2.map (cv G.2.1))
def cw (G : GG) (H : Hp) : va_W := H.mapIdx (fun k e => (G.2.1 k, ce G e))
theorem cw_get {G : GG} {H : Hp} {k : Nat} {e : va_E} (h : H[k]? = some e) : (cw G H)[k]? = some (G.2.1 k, ce G e) := by
  simp [cw, List.getElem?_mapIdx, h]
theorem cw_set (G : GG) (H : Hp) (k : Nat) (e : va_E) : (cw G H).set k (G.2.1 k, ce G e) = cw G (H.set k e) := by
  apply List.ext_getElem?
  intro i
  simp only [cw, List.getElem?_set, List.getElem?_mapIdx, List.length_mapIdx]
  by_cases h : k = i
  · subst h
    by_cases h2 : k < H.length <;> simp [h2]
  · simp [h]
def aA (G : GG) : Nat → Prop := fun q => ∃ k, k < 39 ∧ q = G.2.1 k
def aInj (G : GG) : Prop := ∀ i j, i < 39 → j < 39 → G.2.1 i = G.2.1 j → i = j
theorem cw_D {G : GG} {H : Hp} {A : Nat → Prop} (hi : aInj G) (hl : H.length = 39) (hA : ∀ q, aA G q → A q) : va_D A (cw G H) := by
  have key : ∀ (k : Nat) (q : Nat × va_E), (cw G H)[k]? = some q → k < 39 ∧ q.1 = G.2.1 k := by
    intro k q h
    simp only [cw, List.getElem?_mapIdx] at h
    cases hk : H[k]? with
    | none => rw [hk] at h; cases h
    | some e => rw [hk] at h; cases h; exact ⟨hl ▸ (List.getElem?_eq_some_iff.mp hk).1, rfl⟩
  refine ⟨fun i j p q h1 h2 h => ?_, fun k q h => ?_⟩
  · obtain ⟨a1, b1⟩ := key i p h1
    obtain ⟨a2, b2⟩ := key j q h2
    exact hi i j a1 a2 (b1.symm.trans (h.trans b2))
  · obtain ⟨a1, b1⟩ := key k q h
    exact hA _ ⟨k, a1, b1⟩
-- words
def isNest : Jvm.Cond → Bool
  | .fieldLinkNest .. => true
  | .methodLinkNest .. => true
  | _ => false
def gW : List Jvm.Cond := lw_tbl.filter goodWord
def nW : List Jvm.Cond := lw_tbl.filter isNest
theorem gW_at {w : Jvm.Cond} (i : Nat) (h : (decide (lw_tbl[i]? = some w) && goodWord w) = true) : w ∈ gW := by
  simp only [Bool.and_eq_true, decide_eq_true_eq] at h
  exact List.mem_filter.mpr ⟨List.mem_of_getElem? h.1, h.2⟩
theorem nW_at {w : Jvm.Cond} (i : Nat) (h : (decide (lw_tbl[i]? = some w) && isNest w) = true) : w ∈ nW := by
  simp only [Bool.and_eq_true, decide_eq_true_eq] at h
  exact List.mem_filter.mpr ⟨List.mem_of_getElem? h.1, h.2⟩
theorem gW_good {w : Jvm.Cond} (h : w ∈ gW) : (w.onTables && w.keeps) = true ∨ ∃ ty, w = .arrayClass ty := good_of_word (List.mem_filter.mp h).2
theorem nW_on {w : Jvm.Cond} (h : w ∈ nW) : w.onTables = true := by
  have h2 := (List.mem_filter.mp h).2
  cases w <;> first | rfl | (simp [isNest] at h2)
theorem nW_warm {s U : State} (hW : s.WarmedH U.vm) (h : ∀ w ∈ nW, va_Nw w s) : ∀ w ∈ nW, va_Nw w U := by
  intro w hw
  have h1 := h w hw
  have h2 := (List.mem_filter.mp hw).2
  cases w <;> first | exact va_Nw.warmF hW h1 | exact va_Nw.warmM hW h1 | (simp [isNest] at h2)
-- what stays outside: the tables, the static row, the script
def ordf : Nat → Int32 := fun k => match k with
  | 0 => 1
  | 1 => 1
  | 2 => 2
  | 3 => 6
  | 4 => 24
  | _ => 120
def tysG (G : GG) : List (ClassId × FieldType) := [(G.2.2.1 0, .int), (G.2.2.1 1, .long), (G.2.2.1 2, .boolean)]
def Ev (G : GG) (A : Nat → Prop) (U : State) : Prop := va_K G.1 vwCl (tysG G) U ∧ (∀ w ∈ nW, va_Nw w U) ∧ va_Z "SquareFolds$Gluing" "ORDERS" "[I" (.ref (G.2.1 1000)) A U U.heap ∧ (va_X (G.2.1 1000) 6 ordf U U.heap ∧ G.2.1 1000 < U.heap.size ∧ ¬ A (G.2.1 1000)) ∧ (va_X (G.2.1 1001) G.2.2.2.1 G.2.2.2.2 U U.heap ∧ G.2.1 1001 < U.heap.size ∧ ¬ A (G.2.1 1001))
theorem Ev.go {G : GG} {A B : Nat → Prop} {s U : State} {H : Heap} {locs : List Loc} (h : Ev G A s) (hS : va_S A s.heap H locs) (hU : U.heap = H) (hW : s.WarmedH U.vm) (hAB : ∀ q, B q → A q) : Ev G B U := by
  obtain ⟨hK, hN, hZ, ⟨hX, h1, h2⟩, ⟨hX', h1', h2'⟩⟩ := h
  refine ⟨va_K.moved hW.alike hK, nW_warm hW hN, ?_, ⟨?_, ?_, fun q => h2 (hAB _ q)⟩, ⟨?_, ?_, fun q => h2' (hAB _ q)⟩⟩
  · rw [hU]
    exact ((va_Z.moved hW.alike hZ).kept (fun a ha hn => hS.2.1 a ha hn)).narrow hAB
  · rw [hU]
    exact (va_X.moved hW.alike hX).kept (hS.2.1 _ h1 h2)
  · rw [hU]
    exact Nat.lt_of_lt_of_le h1 hS.1
  · rw [hU]
    exact (va_X.moved hW.alike hX').kept (hS.2.1 _ h1' h2')
  · rw [hU]
    exact Nat.lt_of_lt_of_le h1' hS.1
theorem Ev.calling {G : GG} {A : Nat → Prop} {U : State} {g : JFrame} {mk : MethodId} {a : Array Value} (h : Ev G A U) : Ev G A (U.calling g mk a) := by
  obtain ⟨hK, hN, hZ, ⟨hX, h1, h2⟩, ⟨hX', h1', h2'⟩⟩ := h
  exact ⟨va_K.moved (u := U) (U := U.calling g mk a) (Vm.Alike.refl U.vm) hK, fun w hw => va_Nw.same (nW_on hw) (u := U) (U := U.calling g mk a) rfl (hN w hw), va_Z.moved (u := U) (U := U.calling g mk a) (Vm.Alike.refl U.vm) hZ, ⟨va_X.moved (u := U) (U := U.calling g mk a) (Vm.Alike.refl U.vm) hX, h1, h2⟩, ⟨va_X.moved (u := U) (U := U.calling g mk a) (Vm.Alike.refl U.vm) hX', h1', h2'⟩⟩
-- locals
def lp (ad : Nat → Nat) : Nat → LL → List (Nat × Value)
  | _, [] => []
  | i, none :: l => lp ad (i + 1) l
  | i, some v :: l => (i, cv ad v) :: lp ad (i + 1) l
theorem lp_mem {ad : Nat → Nat} : ∀ (L : LL) (i : Nat) (q : Nat × Value), q ∈ lp ad i L ↔ ∃ (j : Nat) (v : Value), L[j]? = some (some v) ∧ q = (i + j, cv ad v)
  | [], i, q => by simp [lp]
  | none :: l, i, q => by
    simp only [lp, lp_mem l (i + 1) q]
    constructor
    · rintro ⟨j, v, h, rfl⟩
      exact ⟨j + 1, v, by simpa using h, by congr 1; omega⟩
    · rintro ⟨j, v, h, rfl⟩
      cases j with
      | zero => simp at h
      | succ j => exact ⟨j, v, by simpa using h, by congr 1; omega⟩
  | some w :: l, i, q => by
    simp only [lp, List.mem_cons, lp_mem l (i + 1) q]
    constructor
    · rintro (rfl | ⟨j, v, h, rfl⟩)
      · exact ⟨0, w, by simp, by simp⟩
      · exact ⟨j + 1, v, by simpa using h, by congr 1; omega⟩
    · rintro ⟨j, v, h, rfl⟩
      cases j with
      | zero => left; simp at h; subst h; rfl
      | succ j => right; exact ⟨j, v, by simpa using h, by congr 1; omega⟩
theorem lp_at {ad : Nat → Nat} {ls : Array Slot} {nL : Nat} {L : LL} (h : lv_has ls nL (lp ad 0 L)) {i : Nat} {v : Value} (hi : L[i]? = some (some v)) : ls[i]? = some (.val (cv ad v)) := h.2.2 (i, cv ad v) ((lp_mem L 0 _).mpr ⟨i, v, hi, by rw [Nat.zero_add]⟩)
theorem lp_mono {ad : Nat → Nat} {ls : Array Slot} {nL : Nat} {l l' : List (Nat × Value)} (h : lv_has ls nL l) (hs : ∀ q ∈ l', q ∈ l) : lv_has ls nL l' := ⟨h.1, h.2.1, fun q hq => h.2.2 q (hs q hq)⟩
def isL2 : Option (Option Value) → Bool
  | some (some (.long _)) => true
  | some (some (.double _)) => true
  | _ => false
def kl (L : LL) : Nat → LL
  | 0 => L
  | j + 1 => bif isL2 L[j]? then L.set j none else L
def st1 (L : LL) (i : Nat) (v : Value) : LL := (kl L i).set i (some v)
def st2 (L : LL) (i : Nat) (v : Value) : LL := ((kl L i).set i (some v)).set (i + 1) none
theorem kl_len (L : LL) (i : Nat) : (kl L i).length = L.length := by
  cases i with
  | zero => rfl
  | succ j =>
    simp only [kl]
    cases isL2 L[j]? <;> simp
theorem kl_at {L : LL} {i j : Nat} {w : Value} (h : (kl L i)[j]? = some (some w)) : L[j]? = some (some w) ∧ ¬ (j + 1 = i ∧ w.category = 2) := by
  cases i with
  | zero => exact ⟨h, fun q => by omega⟩
  | succ k =>
    simp only [kl] at h
    cases hb : isL2 L[k]? with
    | false =>
      rw [hb] at h
      simp only [cond_false] at h
      refine ⟨h, fun q => ?_⟩
      have hk : j = k := by omega
      subst hk
      rw [h] at hb
      have h2 := q.2
      cases w <;> simp [isL2, Value.category] at hb h2
    | true =>
      rw [hb] at h
      simp only [cond_true] at h
      by_cases hk : j = k
      · subst hk
        rw [List.getElem?_set] at h
        simp only [if_true] at h
        split at h <;> cases h
      · rw [List.getElem?_set_ne (fun e => hk e.symm)] at h
        exact ⟨h, fun q => hk (by omega)⟩
theorem lp_st1 {ad : Nat → Nat} {ls' : Array Slot} {nL : Nat} {L : LL} {i : Nat} {v : Value} (h : lv_has ls' nL ((i, cv ad v) :: (lp ad 0 L).filter (fun q => !(q.1 == i) && !(q.1 + 1 == i && q.2.category == 2)))) : lv_has ls' nL (lp ad 0 (st1 L i v)) := by
  refine lp_mono (ad := ad) h (fun q hq => ?_)
  obtain ⟨j, w, h1, rfl⟩ := (lp_mem _ _ _).mp hq
  by_cases hj : j = i
  · subst hj
    rw [st1, List.getElem?_set] at h1
    simp only [if_true] at h1
    split at h1
    · cases h1
      rw [Nat.zero_add]
      exact List.mem_cons_self
    · cases h1
  · rw [st1, List.getElem?_set_ne (fun e => hj e.symm)] at h1
    obtain ⟨h2, h3⟩ := kl_at h1
    refine List.mem_cons_of_mem _ (List.mem_filter.mpr ⟨(lp_mem _ _ _).mpr ⟨j, w, h2, rfl⟩, ?_⟩)
    simp only [Nat.zero_add, cv_cat]
    by_cases h4 : j + 1 = i
    · have h5 : ¬ w.category = 2 := fun q => h3 ⟨h4, q⟩
      simp [hj, h5]
    · simp [hj, h4]
theorem lp_st2 {ad : Nat → Nat} {ls' : Array Slot} {nL : Nat} {L : LL} {i : Nat} {v : Value} (h : lv_has ls' nL ((i, cv ad v) :: (lp ad 0 L).filter (fun q => !(q.1 == i) && (!(q.1 == i + 1) && !(q.1 + 1 == i && q.2.category == 2))))) : lv_has ls' nL (lp ad 0 (st2 L i v)) := by
  refine lp_mono (ad := ad) h (fun q hq => ?_)
  obtain ⟨j, w, h1, rfl⟩ := (lp_mem _ _ _).mp hq
  by_cases hj2 : j = i + 1
  · subst hj2
    rw [st2, List.getElem?_set] at h1
    simp only [if_true] at h1
    split at h1 <;> cases h1
  · rw [st2, List.getElem?_set_ne (fun e => hj2 e.symm)] at h1
    by_cases hj : j = i
    · subst hj
      rw [List.getElem?_set] at h1
      simp only [if_true] at h1
      split at h1
      · cases h1
        rw [Nat.zero_add]
        exact List.mem_cons_self
      · cases h1
    · rw [List.getElem?_set_ne (fun e => hj e.symm)] at h1
      obtain ⟨h2, h3⟩ := kl_at h1
      refine List.mem_cons_of_mem _ (List.mem_filter.mpr ⟨(lp_mem _ _ _).mpr ⟨j, w, h2, rfl⟩, ?_⟩)
      simp only [Nat.zero_add, cv_cat]
      by_cases h4 : j + 1 = i
      · have h5 : ¬ w.category = 2 := fun q => h3 ⟨h4, q⟩
        simp [hj, hj2, h5]
      · simp [hj, hj2, h4]
-- the judgement
def Cx (G : GG) (T : Md) (M : Mt) (p : Program) (R : Room) (s : State) (m : MethodId) (args : Array Value) (meth : Method) (c : Code) : Prop :=
  p.tables.exec = Jvm.exec ∧ c.code = M.2.1 ∧ c.maxLocals = M.2.2.1 ∧ meth.sig.returnType = M.2.2.2.1 ∧ meth.locks = false ∧ s.vm.findClass M.1.cls = some m.cls ∧ (∀ w ∈ gW, w.before args s = true) ∧ Ev G (T.2.2.1 s) s ∧ (∀ q, aA G q → T.2.2.1 s q) ∧ M.2.2.2.2.1 ≤ R.frames ∧ M.2.2.2.2.2 ≤ R.locals ∧ T.1 ≤ R.cells ∧ T.2.1 ≤ R.slots ∧ aInj G ∧ T.2.2.2.1 R args
def Sn (G : GG) (T : Md) (M : Mt) (pc : Nat) (L : LL) (st : List Value) (H : Hp) : Prop :=
  ∀ (p : Program) (l : Launch) (e : Env) (R : Room) (s : State) (m : MethodId) (args : Array Value) (below : List Frame) (meth : Method) (c : Code) (hp : Heap) (locs : List Loc) (ls : Array Slot),
    Cx G T M p R s m args meth c → va_P G.1 vwCl (cw G H) hp → H.length = 39 → va_S (T.2.2.1 s) s.heap hp locs → lv_has ls M.2.2.1 (lp G.2.1 0 L) → L.length = M.2.2.1 →
    W p l e R s m args below meth c hp locs T.1 T.2.1 (T.2.2.2.2 s args below) (F0 m pc ls (st.map (cv G.2.1)))
end
