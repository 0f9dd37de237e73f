section
-- ===== PART A: goes FIRST, ahead of the names: the tables' words, and 'selects' of the private methods out of them =====
/-- a private method of a class that the tables say can be made, by its rows of tables_1 -/
def lw_okq (q : MethodName × Nat) : Prop := (q.1.cls ≠ "java/lang/invoke/MethodHandle" ∧ q.1.cls ≠ "java/lang/invoke/VarHandle") ∧ Cond.instantiable q.1.cls q.2 ∈ tables_1 ∧ Cond.privateMethod q.1 ∈ tables_1 ∧ Cond.instanceMethod q.1 ∈ tables_1
theorem lw_p0 : lw_okq (⟨"SquareFolds$Gluing", "isContinued", "(II)Z"⟩, 3) := ⟨⟨by decide +kernel, by decide +kernel⟩, List.mem_of_getElem? (i := 39) (by decide +kernel), List.mem_of_getElem? (i := 320) (by decide +kernel), List.mem_of_getElem? (i := 321) (by decide +kernel)⟩
theorem lw_p1 : lw_okq (⟨"SquareFolds", "groupSize", "()I"⟩, 10) := ⟨⟨by decide +kernel, by decide +kernel⟩, List.mem_of_getElem? (i := 16) (by decide +kernel), List.mem_of_getElem? (i := 324) (by decide +kernel), List.mem_of_getElem? (i := 325) (by decide +kernel)⟩
theorem lw_p2 : lw_okq (⟨"SquareFolds$NameOrbit", "placeSheared", "(III)I"⟩, 3) := ⟨⟨by decide +kernel, by decide +kernel⟩, List.mem_of_getElem? (i := 108) (by decide +kernel), List.mem_of_getElem? (i := 456) (by decide +kernel), List.mem_of_getElem? (i := 457) (by decide +kernel)⟩
theorem lw_p3 : lw_okq (⟨"SquareFolds$NameOrbit", "ringFrom", "(I)I"⟩, 3) := ⟨⟨by decide +kernel, by decide +kernel⟩, List.mem_of_getElem? (i := 108) (by decide +kernel), List.mem_of_getElem? (i := 471) (by decide +kernel), List.mem_of_getElem? (i := 472) (by decide +kernel)⟩
theorem lw_p4 : lw_okq (⟨"SquareFolds$Gluing", "didShear", "(I)Z"⟩, 3) := ⟨⟨by decide +kernel, by decide +kernel⟩, List.mem_of_getElem? (i := 39) (by decide +kernel), List.mem_of_getElem? (i := 497) (by decide +kernel), List.mem_of_getElem? (i := 498) (by decide +kernel)⟩
theorem lw_p5 : lw_okq (⟨"SquareFolds$Gluing", "didTrade", "(II)Z"⟩, 3) := ⟨⟨by decide +kernel, by decide +kernel⟩, List.mem_of_getElem? (i := 39) (by decide +kernel), List.mem_of_getElem? (i := 502) (by decide +kernel), List.mem_of_getElem? (i := 503) (by decide +kernel)⟩
theorem lw_p6 : lw_okq (⟨"SquareFolds", "allSeenFrom", "(I)Z"⟩, 10) := ⟨⟨by decide +kernel, by decide +kernel⟩, List.mem_of_getElem? (i := 16) (by decide +kernel), List.mem_of_getElem? (i := 555) (by decide +kernel), List.mem_of_getElem? (i := 556) (by decide +kernel)⟩
theorem lw_p7 : lw_okq (⟨"SquareFolds$Gluing", "casesOfOpen", "(II)I"⟩, 3) := ⟨⟨by decide +kernel, by decide +kernel⟩, List.mem_of_getElem? (i := 39) (by decide +kernel), List.mem_of_getElem? (i := 575) (by decide +kernel), List.mem_of_getElem? (i := 576) (by decide +kernel)⟩
theorem lw_p8 : lw_okq (⟨"SquareFolds$Gluing", "leftBy", "(J)I"⟩, 3) := ⟨⟨by decide +kernel, by decide +kernel⟩, List.mem_of_getElem? (i := 39) (by decide +kernel), List.mem_of_getElem? (i := 599) (by decide +kernel), List.mem_of_getElem? (i := 600) (by decide +kernel)⟩
theorem lw_p9 : lw_okq (⟨"SquareFoldsModel", "canStand", "(I)Z"⟩, 23) := ⟨⟨by decide +kernel, by decide +kernel⟩, List.mem_of_getElem? (i := 633) (by decide +kernel), List.mem_of_getElem? (i := 726) (by decide +kernel), List.mem_of_getElem? (i := 727) (by decide +kernel)⟩
theorem lw_p10 : lw_okq (⟨"SquareFoldsModel", "groupSize", "()I"⟩, 23) := ⟨⟨by decide +kernel, by decide +kernel⟩, List.mem_of_getElem? (i := 633) (by decide +kernel), List.mem_of_getElem? (i := 800) (by decide +kernel), List.mem_of_getElem? (i := 801) (by decide +kernel)⟩
theorem lw_p11 : lw_okq (⟨"SquareFoldsModel", "isSquare", "(I)Z"⟩, 23) := ⟨⟨by decide +kernel, by decide +kernel⟩, List.mem_of_getElem? (i := 633) (by decide +kernel), List.mem_of_getElem? (i := 814) (by decide +kernel), List.mem_of_getElem? (i := 815) (by decide +kernel)⟩
theorem lw_p12 : lw_okq (⟨"SquareFoldsModel", "nameFrom", "([II)J"⟩, 23) := ⟨⟨by decide +kernel, by decide +kernel⟩, List.mem_of_getElem? (i := 633) (by decide +kernel), List.mem_of_getElem? (i := 846) (by decide +kernel), List.mem_of_getElem? (i := 847) (by decide +kernel)⟩
theorem lw_p13 : lw_okq (⟨"SquareFoldsModel", "meet", "(I)V"⟩, 23) := ⟨⟨by decide +kernel, by decide +kernel⟩, List.mem_of_getElem? (i := 633) (by decide +kernel), List.mem_of_getElem? (i := 850) (by decide +kernel), List.mem_of_getElem? (i := 851) (by decide +kernel)⟩
theorem lw_p14 : lw_okq (⟨"SquareFoldsModel", "leastName", "([II)J"⟩, 23) := ⟨⟨by decide +kernel, by decide +kernel⟩, List.mem_of_getElem? (i := 633) (by decide +kernel), List.mem_of_getElem? (i := 855) (by decide +kernel), List.mem_of_getElem? (i := 856) (by decide +kernel)⟩
theorem lw_p15 : lw_okq (⟨"SquareFoldsModel", "note", "()V"⟩, 23) := ⟨⟨by decide +kernel, by decide +kernel⟩, List.mem_of_getElem? (i := 633) (by decide +kernel), List.mem_of_getElem? (i := 864) (by decide +kernel), List.mem_of_getElem? (i := 865) (by decide +kernel)⟩
def lw_privs_1 : List (MethodName × Nat) := [(⟨"SquareFolds$Gluing", "isContinued", "(II)Z"⟩, 3), (⟨"SquareFolds", "groupSize", "()I"⟩, 10), (⟨"SquareFolds$NameOrbit", "placeSheared", "(III)I"⟩, 3), (⟨"SquareFolds$NameOrbit", "ringFrom", "(I)I"⟩, 3), (⟨"SquareFolds$Gluing", "didShear", "(I)Z"⟩, 3), (⟨"SquareFolds$Gluing", "didTrade", "(II)Z"⟩, 3), (⟨"SquareFolds", "allSeenFrom", "(I)Z"⟩, 10), (⟨"SquareFolds$Gluing", "casesOfOpen", "(II)I"⟩, 3), (⟨"SquareFolds$Gluing", "leftBy", "(J)I"⟩, 3), (⟨"SquareFoldsModel", "canStand", "(I)Z"⟩, 23), (⟨"SquareFoldsModel", "groupSize", "()I"⟩, 23), (⟨"SquareFoldsModel", "isSquare", "(I)Z"⟩, 23), (⟨"SquareFoldsModel", "nameFrom", "([II)J"⟩, 23), (⟨"SquareFoldsModel", "meet", "(I)V"⟩, 23), (⟨"SquareFoldsModel", "leastName", "([II)J"⟩, 23), (⟨"SquareFoldsModel", "note", "()V"⟩, 23)]
theorem lw_r1 : ∀ q ∈ lw_privs_1, lw_okq q := List.forall_mem_cons.mpr ⟨lw_p0, List.forall_mem_cons.mpr ⟨lw_p1, List.forall_mem_cons.mpr ⟨lw_p2, List.forall_mem_cons.mpr ⟨lw_p3, List.forall_mem_cons.mpr ⟨lw_p4, List.forall_mem_cons.mpr ⟨lw_p5, List.forall_mem_cons.mpr ⟨lw_p6, List.forall_mem_cons.mpr ⟨lw_p7, List.forall_mem_cons.mpr ⟨lw_p8, List.forall_mem_cons.mpr ⟨lw_p9, List.forall_mem_cons.mpr ⟨lw_p10, List.forall_mem_cons.mpr ⟨lw_p11, List.forall_mem_cons.mpr ⟨lw_p12, List.forall_mem_cons.mpr ⟨lw_p13, List.forall_mem_cons.mpr ⟨lw_p14, List.forall_mem_cons.mpr ⟨lw_p15, fun _ h => absurd h List.not_mem_nil⟩⟩⟩⟩⟩⟩⟩⟩⟩⟩⟩⟩⟩⟩⟩⟩
theorem lw_p16 : lw_okq (⟨"SquareFoldsModel", "shearOn", "([II)V"⟩, 23) := ⟨⟨by decide +kernel, by decide +kernel⟩, List.mem_of_getElem? (i := 633) (by decide +kernel), List.mem_of_getElem? (i := 868) (by decide +kernel), List.mem_of_getElem? (i := 869) (by decide +kernel)⟩
theorem lw_p17 : lw_okq (⟨"SquareFoldsModel", "side", "([I)V"⟩, 23) := ⟨⟨by decide +kernel, by decide +kernel⟩, List.mem_of_getElem? (i := 633) (by decide +kernel), List.mem_of_getElem? (i := 872) (by decide +kernel), List.mem_of_getElem? (i := 873) (by decide +kernel)⟩
theorem lw_p18 : lw_okq (⟨"SquareFoldsModel", "layAside", "([I)V"⟩, 23) := ⟨⟨by decide +kernel, by decide +kernel⟩, List.mem_of_getElem? (i := 633) (by decide +kernel), List.mem_of_getElem? (i := 876) (by decide +kernel), List.mem_of_getElem? (i := 877) (by decide +kernel)⟩
theorem lw_p19 : lw_okq (⟨"SquareFoldsModel", "upward", "([I)V"⟩, 23) := ⟨⟨by decide +kernel, by decide +kernel⟩, List.mem_of_getElem? (i := 633) (by decide +kernel), List.mem_of_getElem? (i := 880) (by decide +kernel), List.mem_of_getElem? (i := 881) (by decide +kernel)⟩
theorem lw_p20 : lw_okq (⟨"SquareFoldsModel", "quarter", "([I)V"⟩, 23) := ⟨⟨by decide +kernel, by decide +kernel⟩, List.mem_of_getElem? (i := 633) (by decide +kernel), List.mem_of_getElem? (i := 884) (by decide +kernel), List.mem_of_getElem? (i := 885) (by decide +kernel)⟩
theorem lw_p21 : lw_okq (⟨"SquareFoldsModel", "change", "([III)V"⟩, 23) := ⟨⟨by decide +kernel, by decide +kernel⟩, List.mem_of_getElem? (i := 633) (by decide +kernel), List.mem_of_getElem? (i := 892) (by decide +kernel), List.mem_of_getElem? (i := 893) (by decide +kernel)⟩
theorem lw_p22 : lw_okq (⟨"SquareFoldsModel", "findOrbit", "(I)V"⟩, 23) := ⟨⟨by decide +kernel, by decide +kernel⟩, List.mem_of_getElem? (i := 633) (by decide +kernel), List.mem_of_getElem? (i := 907) (by decide +kernel), List.mem_of_getElem? (i := 908) (by decide +kernel)⟩
theorem lw_p23 : lw_okq (⟨"SquareFoldsModel", "enter", "(J)I"⟩, 23) := ⟨⟨by decide +kernel, by decide +kernel⟩, List.mem_of_getElem? (i := 633) (by decide +kernel), List.mem_of_getElem? (i := 911) (by decide +kernel), List.mem_of_getElem? (i := 912) (by decide +kernel)⟩
theorem lw_p24 : lw_okq (⟨"SquareFoldsModel", "placeOf", "(J)I"⟩, 23) := ⟨⟨by decide +kernel, by decide +kernel⟩, List.mem_of_getElem? (i := 633) (by decide +kernel), List.mem_of_getElem? (i := 915) (by decide +kernel), List.mem_of_getElem? (i := 916) (by decide +kernel)⟩
theorem lw_p25 : lw_okq (⟨"SquareFoldsModel", "tellBack", "(JI)V"⟩, 23) := ⟨⟨by decide +kernel, by decide +kernel⟩, List.mem_of_getElem? (i := 633) (by decide +kernel), List.mem_of_getElem? (i := 919) (by decide +kernel), List.mem_of_getElem? (i := 920) (by decide +kernel)⟩
theorem lw_p26 : lw_okq (⟨"SquareFoldsModel", "ring", "(I)I"⟩, 23) := ⟨⟨by decide +kernel, by decide +kernel⟩, List.mem_of_getElem? (i := 633) (by decide +kernel), List.mem_of_getElem? (i := 923) (by decide +kernel), List.mem_of_getElem? (i := 924) (by decide +kernel)⟩
theorem lw_p27 : lw_okq (⟨"SquareFoldsModel", "judged", "(IIII)Z"⟩, 23) := ⟨⟨by decide +kernel, by decide +kernel⟩, List.mem_of_getElem? (i := 633) (by decide +kernel), List.mem_of_getElem? (i := 942) (by decide +kernel), List.mem_of_getElem? (i := 943) (by decide +kernel)⟩
def lw_privs_2 : List (MethodName × Nat) := [(⟨"SquareFoldsModel", "shearOn", "([II)V"⟩, 23), (⟨"SquareFoldsModel", "side", "([I)V"⟩, 23), (⟨"SquareFoldsModel", "layAside", "([I)V"⟩, 23), (⟨"SquareFoldsModel", "upward", "([I)V"⟩, 23), (⟨"SquareFoldsModel", "quarter", "([I)V"⟩, 23), (⟨"SquareFoldsModel", "change", "([III)V"⟩, 23), (⟨"SquareFoldsModel", "findOrbit", "(I)V"⟩, 23), (⟨"SquareFoldsModel", "enter", "(J)I"⟩, 23), (⟨"SquareFoldsModel", "placeOf", "(J)I"⟩, 23), (⟨"SquareFoldsModel", "tellBack", "(JI)V"⟩, 23), (⟨"SquareFoldsModel", "ring", "(I)I"⟩, 23), (⟨"SquareFoldsModel", "judged", "(IIII)Z"⟩, 23)]
theorem lw_r2 : ∀ q ∈ lw_privs_2, lw_okq q := List.forall_mem_cons.mpr ⟨lw_p16, List.forall_mem_cons.mpr ⟨lw_p17, List.forall_mem_cons.mpr ⟨lw_p18, List.forall_mem_cons.mpr ⟨lw_p19, List.forall_mem_cons.mpr ⟨lw_p20, List.forall_mem_cons.mpr ⟨lw_p21, List.forall_mem_cons.mpr ⟨lw_p22, List.forall_mem_cons.mpr ⟨lw_p23, List.forall_mem_cons.mpr ⟨lw_p24, List.forall_mem_cons.mpr ⟨lw_p25, List.forall_mem_cons.mpr ⟨lw_p26, List.forall_mem_cons.mpr ⟨lw_p27, fun _ h => absurd h List.not_mem_nil⟩⟩⟩⟩⟩⟩⟩⟩⟩⟩⟩⟩
def lw_privs : List (MethodName × Nat) := lw_privs_1 ++ (lw_privs_2)
def lw_tbl : List Cond := k2_sels lw_privs ++ tables_1
theorem lw_privs_ok : ∀ q ∈ lw_privs, lw_okq q := by
  show ∀ q ∈ lw_privs_1 ++ (lw_privs_2), lw_okq q
  exact List.forall_mem_append.mpr ⟨lw_r1, lw_r2⟩
end
section
def RX0 : String := "SquareFolds$Distinct"
def TX0 : u_T := fun k => match k with
  | 0 => ("SquareFolds$Distinct", "numbers", "[J", true)
  | _ => ("SquareFolds$Distinct", "count", "I", false)
def tyX0 : Nat → FieldType := fun k => match k with
  | 0 => .array .long
  | _ => .int
abbrev wsX00 : List Cond := u_ws RX0 TX0 2
theorem nmX0 : ∀ a, a < 2 → ∀ b, b < 2 → a ≠ b → (TX0 a).2.1 ≠ (TX0 b).2.1 := by decide +kernel
theorem tyX0_ok : ∀ k, k < 2 → parseFieldDescriptor (TX0 k).2.2.1 = some (tyX0 k) := by decide +kernel
abbrev cX0_init : ByteArray := prog_2_method_1_code
def yX0_init : MethodName := ⟨RX0, "<init>", "()V"⟩
abbrev cX0_at : ByteArray := prog_2_method_2_code
def yX0_at : MethodName := ⟨RX0, "at", "(I)J"⟩
abbrev cX0_find : ByteArray := prog_2_method_3_code
def yX0_find : MethodName := ⟨RX0, "find", "(J)I"⟩
abbrev cX0_placeOf : ByteArray := prog_2_method_4_code
def yX0_placeOf : MethodName := ⟨RX0, "placeOf", "(J)I"⟩
def RX1 : String := "SquareFolds$Fraction"
def TX1 : u_T := fun k => match k with
  | 0 => ("SquareFolds$Fraction", "above", "I", false)
  | _ => ("SquareFolds$Fraction", "below", "I", false)
def tyX1 : Nat → FieldType := fun k => match k with
  | 0 => .int
  | _ => .int
abbrev wsX10 : List Cond := u_ws RX1 TX1 2
theorem nmX1 : ∀ a, a < 2 → ∀ b, b < 2 → a ≠ b → (TX1 a).2.1 ≠ (TX1 b).2.1 := by decide +kernel
theorem tyX1_ok : ∀ k, k < 2 → parseFieldDescriptor (TX1 k).2.2.1 = some (tyX1 k) := by decide +kernel
abbrev cX1_init : ByteArray := prog_3_method_1_code
def yX1_init : MethodName := ⟨RX1, "<init>", "()V"⟩
abbrev cX1_become : ByteArray := prog_3_method_2_code
def yX1_become : MethodName := ⟨RX1, "become", "(II)V"⟩
abbrev cX1_told : ByteArray := prog_3_method_3_code
def yX1_told : MethodName := ⟨RX1, "told", "(Z)I"⟩
abbrev cX1_measure : ByteArray := prog_3_method_4_code
def yX1_measure : MethodName := ⟨RX1, "measure", "(II)I"⟩
def RX2 : String := "SquareFolds$Gluing"
def TX2 : u_T := fun k => match k with
  | 0 => ("SquareFolds$Gluing", "squares", "I", false)
  | 1 => ("SquareFolds$Gluing", "right", "I", false)
  | _ => ("SquareFolds$Gluing", "up", "I", false)
def tyX2 : Nat → FieldType := fun k => match k with
  | 0 => .int
  | 1 => .int
  | _ => .int
abbrev wsX20 : List Cond := u_ws RX2 TX2 3
theorem nmX2 : ∀ a, a < 3 → ∀ b, b < 3 → a ≠ b → (TX2 a).2.1 ≠ (TX2 b).2.1 := by decide +kernel
theorem tyX2_ok : ∀ k, k < 3 → parseFieldDescriptor (TX2 k).2.2.1 = some (tyX2 k) := by decide +kernel
abbrev cX2_init : ByteArray := prog_4_method_1_code
def yX2_init : MethodName := ⟨RX2, "<init>", "()V"⟩
abbrev cX2_become : ByteArray := prog_4_method_2_code
def yX2_become : MethodName := ⟨RX2, "become", "(III)V"⟩
abbrev cX2_has : ByteArray := prog_4_method_3_code
def yX2_has : MethodName := ⟨RX2, "has", "(I)Z"⟩
abbrev cX2_all : ByteArray := prog_4_method_4_code
def yX2_all : MethodName := ⟨RX2, "all", "()I"⟩
abbrev cX2_left : ByteArray := prog_4_method_5_code
def yX2_left : MethodName := ⟨RX2, "left", "()I"⟩
abbrev cX2_down : ByteArray := prog_4_method_6_code
def yX2_down : MethodName := ⟨RX2, "down", "()I"⟩
abbrev cX2_moved : ByteArray := prog_4_method_7_code
def yX2_moved : MethodName := ⟨RX2, "moved", "(II)I"⟩
abbrev cX2_walked : ByteArray := prog_4_method_8_code
def yX2_walked : MethodName := ⟨RX2, "walked", "(II)I"⟩
abbrev cX2_reach : ByteArray := prog_4_method_9_code
def yX2_reach : MethodName := ⟨RX2, "reach", "(III)I"⟩
abbrev cX2_joined : ByteArray := prog_4_method_10_code
def yX2_joined : MethodName := ⟨RX2, "joined", "(III)I"⟩
abbrev cX2_piece : ByteArray := prog_4_method_11_code
def yX2_piece : MethodName := ⟨RX2, "piece", "(I)I"⟩
abbrev cX2_pieces : ByteArray := prog_4_method_12_code
def yX2_pieces : MethodName := ⟨RX2, "pieces", "(I)I"⟩
abbrev cX2_turnedRound : ByteArray := prog_4_method_13_code
def yX2_turnedRound : MethodName := ⟨RX2, "turnedRound", "()I"⟩
abbrev cX2_corners : ByteArray := prog_4_method_14_code
def yX2_corners : MethodName := ⟨RX2, "corners", "()I"⟩
abbrev cX2_ordinaryCorners : ByteArray := prog_4_method_15_code
def yX2_ordinaryCorners : MethodName := ⟨RX2, "ordinaryCorners", "()I"⟩
abbrev cX2_mostTurns : ByteArray := prog_4_method_16_code
def yX2_mostTurns : MethodName := ⟨RX2, "mostTurns", "()I"⟩
abbrev cX2_holes : ByteArray := prog_4_method_17_code
def yX2_holes : MethodName := ⟨RX2, "holes", "(I)I"⟩
abbrev cX2_rows : ByteArray := prog_4_method_18_code
def yX2_rows : MethodName := ⟨RX2, "rows", "()I"⟩
abbrev cX2_isContinued : ByteArray := prog_4_method_19_code
def yX2_isContinued : MethodName := ⟨RX2, "isContinued", "(II)Z"⟩
abbrev cX2_band : ByteArray := prog_4_method_20_code
def yX2_band : MethodName := ⟨RX2, "band", "(I)I"⟩
abbrev cX2_bands : ByteArray := prog_4_method_21_code
def yX2_bands : MethodName := ⟨RX2, "bands", "()I"⟩
abbrev cX2_nameFrom : ByteArray := prog_4_method_22_code
def yX2_nameFrom : MethodName := ⟨RX2, "nameFrom", "(I)J"⟩
abbrev cX2_figures : ByteArray := prog_4_method_23_code
def yX2_figures : MethodName := ⟨RX2, "figures", "(JIIII)J"⟩
abbrev cX2_leastName : ByteArray := prog_4_method_24_code
def yX2_leastName : MethodName := ⟨RX2, "leastName", "(I)J"⟩
abbrev cX2_becomeNamed : ByteArray := prog_4_method_25_code
def yX2_becomeNamed : MethodName := ⟨RX2, "becomeNamed", "(JI)V"⟩
abbrev cX2_doShear : ByteArray := prog_4_method_26_code
def yX2_doShear : MethodName := ⟨RX2, "doShear", "(I)V"⟩
abbrev cX2_doTrade : ByteArray := prog_4_method_27_code
def yX2_doTrade : MethodName := ⟨RX2, "doTrade", "(II)V"⟩
abbrev cX2_doDrawn : ByteArray := prog_4_method_28_code
def yX2_doDrawn : MethodName := ⟨RX2, "doDrawn", "(J)V"⟩
abbrev cX2_leftBy : ByteArray := prog_4_method_29_code
def yX2_leftBy : MethodName := ⟨RX2, "leftBy", "(J)I"⟩
abbrev cX2_tryTold : ByteArray := prog_4_method_30_code
def yX2_tryTold : MethodName := ⟨RX2, "tryTold", "(I)Z"⟩
abbrev cX2_didShear : ByteArray := prog_4_method_31_code
def yX2_didShear : MethodName := ⟨RX2, "didShear", "(I)Z"⟩
abbrev cX2_didTrade : ByteArray := prog_4_method_32_code
def yX2_didTrade : MethodName := ⟨RX2, "didTrade", "(II)Z"⟩
abbrev cX2_orders : ByteArray := prog_4_method_33_code
def yX2_orders : MethodName := ⟨RX2, "orders", "(I)I"⟩
abbrev cX2_moreInAllOrders : ByteArray := prog_4_method_34_code
def yX2_moreInAllOrders : MethodName := ⟨RX2, "moreInAllOrders", "(I)I"⟩
abbrev cX2_casesInAll : ByteArray := prog_4_method_35_code
def yX2_casesInAll : MethodName := ⟨RX2, "casesInAll", "()I"⟩
abbrev cX2_casesInOnePiece : ByteArray := prog_4_method_36_code
def yX2_casesInOnePiece : MethodName := ⟨RX2, "casesInOnePiece", "(I)I"⟩
abbrev cX2_casesOfOpen : ByteArray := prog_4_method_37_code
def yX2_casesOfOpen : MethodName := ⟨RX2, "casesOfOpen", "(II)I"⟩
def RX3 : String := "SquareFolds$Letters"
def TX3 : u_T := fun k => match k with
  | 0 => ("SquareFolds$Letters", "letters", "[I", true)
  | _ => ("SquareFolds$Letters", "length", "I", false)
def tyX3 : Nat → FieldType := fun k => match k with
  | 0 => .array .int
  | _ => .int
abbrev wsX30 : List Cond := u_ws RX3 TX3 2
theorem nmX3 : ∀ a, a < 2 → ∀ b, b < 2 → a ≠ b → (TX3 a).2.1 ≠ (TX3 b).2.1 := by decide +kernel
theorem tyX3_ok : ∀ k, k < 2 → parseFieldDescriptor (TX3 k).2.2.1 = some (tyX3 k) := by decide +kernel
abbrev cX3_init : ByteArray := prog_5_method_1_code
def yX3_init : MethodName := ⟨RX3, "<init>", "()V"⟩
abbrev cX3_add : ByteArray := prog_5_method_2_code
def yX3_add : MethodName := ⟨RX3, "add", "(I)Z"⟩
abbrev cX3_figure : ByteArray := prog_5_method_3_code
def yX3_figure : MethodName := ⟨RX3, "figure", "(I)I"⟩
abbrev cX3_rowFrom : ByteArray := prog_5_method_4_code
def yX3_rowFrom : MethodName := ⟨RX3, "rowFrom", "(II)I"⟩
abbrev cX3_firstFault : ByteArray := prog_5_method_5_code
def yX3_firstFault : MethodName := ⟨RX3, "firstFault", "()I"⟩
def RX4 : String := "SquareFolds$NameOrbit"
def TX4 : u_T := fun k => match k with
  | 0 => ("SquareFolds$NameOrbit", "names", "LSquareFolds$Distinct;", true)
  | 1 => ("SquareFolds$NameOrbit", "sheared", "[I", true)
  | _ => ("SquareFolds$NameOrbit", "shape", "LSquareFolds$Gluing;", true)
def tyX4 : Nat → FieldType := fun k => match k with
  | 0 => .object "SquareFolds$Distinct"
  | 1 => .array .int
  | _ => .object "SquareFolds$Gluing"
abbrev wsX40 : List Cond := u_ws RX4 TX4 3
theorem nmX4 : ∀ a, a < 3 → ∀ b, b < 3 → a ≠ b → (TX4 a).2.1 ≠ (TX4 b).2.1 := by decide +kernel
theorem tyX4_ok : ∀ k, k < 3 → parseFieldDescriptor (TX4 k).2.2.1 = some (tyX4 k) := by decide +kernel
abbrev cX4_init : ByteArray := prog_6_method_1_code
def yX4_init : MethodName := ⟨RX4, "<init>", "()V"⟩
abbrev cX4_gather : ByteArray := prog_6_method_2_code
def yX4_gather : MethodName := ⟨RX4, "gather", "(JI)V"⟩
abbrev cX4_placeSheared : ByteArray := prog_6_method_3_code
def yX4_placeSheared : MethodName := ⟨RX4, "placeSheared", "(III)I"⟩
abbrev cX4_ringFrom : ByteArray := prog_6_method_4_code
def yX4_ringFrom : MethodName := ⟨RX4, "ringFrom", "(I)I"⟩
abbrev cX4_cusps : ByteArray := prog_6_method_5_code
def yX4_cusps : MethodName := ⟨RX4, "cusps", "()I"⟩
abbrev cX4_widest : ByteArray := prog_6_method_6_code
def yX4_widest : MethodName := ⟨RX4, "widest", "()I"⟩
def RX5 : String := "SquareFolds$Past"
def TX5 : u_T := fun k => match k with
  | 0 => ("SquareFolds$Past", "rights", "[I", true)
  | 1 => ("SquareFolds$Past", "ups", "[I", true)
  | _ => ("SquareFolds$Past", "count", "I", false)
def tyX5 : Nat → FieldType := fun k => match k with
  | 0 => .array .int
  | 1 => .array .int
  | _ => .int
abbrev wsX50 : List Cond := u_ws RX5 TX5 3
theorem nmX5 : ∀ a, a < 3 → ∀ b, b < 3 → a ≠ b → (TX5 a).2.1 ≠ (TX5 b).2.1 := by decide +kernel
theorem tyX5_ok : ∀ k, k < 3 → parseFieldDescriptor (TX5 k).2.2.1 = some (tyX5 k) := by decide +kernel
abbrev cX5_init : ByteArray := prog_7_method_1_code
def yX5_init : MethodName := ⟨RX5, "<init>", "()V"⟩
abbrev cX5_add : ByteArray := prog_7_method_2_code
def yX5_add : MethodName := ⟨RX5, "add", "(II)V"⟩
abbrev cX5_rightAt : ByteArray := prog_7_method_3_code
def yX5_rightAt : MethodName := ⟨RX5, "rightAt", "(I)I"⟩
abbrev cX5_upAt : ByteArray := prog_7_method_4_code
def yX5_upAt : MethodName := ⟨RX5, "upAt", "(I)I"⟩
def RX6 : String := "SquareFolds$Row"
def TX6 : u_T := fun k => match k with
  | _ => ("", "", "", false)
def tyX6 : Nat → FieldType := fun k => match k with
  | _ => .int
abbrev wsX60 : List Cond := u_ws RX6 TX6 0
theorem nmX6 : ∀ a, a < 0 → ∀ b, b < 0 → a ≠ b → (TX6 a).2.1 ≠ (TX6 b).2.1 := by decide +kernel
theorem tyX6_ok : ∀ k, k < 0 → parseFieldDescriptor (TX6 k).2.2.1 = some (tyX6 k) := by decide +kernel
abbrev cX6_at : ByteArray := prog_8_method_2_code
def yX6_at : MethodName := ⟨RX6, "at", "(II)I"⟩
abbrev cX6_put : ByteArray := prog_8_method_3_code
def yX6_put : MethodName := ⟨RX6, "put", "(III)I"⟩
abbrev cX6_staying : ByteArray := prog_8_method_4_code
def yX6_staying : MethodName := ⟨RX6, "staying", "(I)I"⟩
abbrev cX6_then : ByteArray := prog_8_method_5_code
def yX6_then : MethodName := ⟨RX6, "then", "(III)I"⟩
abbrev cX6_back : ByteArray := prog_8_method_6_code
def yX6_back : MethodName := ⟨RX6, "back", "(II)I"⟩
abbrev cX6_ring : ByteArray := prog_8_method_7_code
def yX6_ring : MethodName := ⟨RX6, "ring", "(III)I"⟩
abbrev cX6_rings : ByteArray := prog_8_method_8_code
def yX6_rings : MethodName := ⟨RX6, "rings", "(II)I"⟩
abbrev cX6_isIn : ByteArray := prog_8_method_9_code
def yX6_isIn : MethodName := ⟨RX6, "isIn", "(II)Z"⟩
def RX7 : String := "SquareFolds$Sightings"
def TX7 : u_T := fun k => match k with
  | 0 => ("SquareFolds$Sightings", "ways", "[I", true)
  | 1 => ("SquareFolds$Sightings", "backs", "[I", true)
  | _ => ("SquareFolds$Sightings", "count", "I", false)
def tyX7 : Nat → FieldType := fun k => match k with
  | 0 => .array .int
  | 1 => .array .int
  | _ => .int
abbrev wsX70 : List Cond := u_ws RX7 TX7 3
theorem nmX7 : ∀ a, a < 3 → ∀ b, b < 3 → a ≠ b → (TX7 a).2.1 ≠ (TX7 b).2.1 := by decide +kernel
theorem tyX7_ok : ∀ k, k < 3 → parseFieldDescriptor (TX7 k).2.2.1 = some (tyX7 k) := by decide +kernel
abbrev cX7_init : ByteArray := prog_9_method_1_code
def yX7_init : MethodName := ⟨RX7, "<init>", "()V"⟩
abbrev cX7_add : ByteArray := prog_9_method_2_code
def yX7_add : MethodName := ⟨RX7, "add", "(II)Z"⟩
abbrev cX7_wayAt : ByteArray := prog_9_method_3_code
def yX7_wayAt : MethodName := ⟨RX7, "wayAt", "(I)I"⟩
abbrev cX7_cameBack : ByteArray := prog_9_method_4_code
def yX7_cameBack : MethodName := ⟨RX7, "cameBack", "(I)Z"⟩
def RX8 : String := "SquareFolds$Slots"
def TX8 : u_T := fun k => match k with
  | 0 => ("SquareFolds$Slots", "rights", "[I", true)
  | 1 => ("SquareFolds$Slots", "ups", "[I", true)
  | _ => ("SquareFolds$Slots", "keptBits", "I", false)
def tyX8 : Nat → FieldType := fun k => match k with
  | 0 => .array .int
  | 1 => .array .int
  | _ => .int
abbrev wsX80 : List Cond := u_ws RX8 TX8 3
theorem nmX8 : ∀ a, a < 3 → ∀ b, b < 3 → a ≠ b → (TX8 a).2.1 ≠ (TX8 b).2.1 := by decide +kernel
theorem tyX8_ok : ∀ k, k < 3 → parseFieldDescriptor (TX8 k).2.2.1 = some (tyX8 k) := by decide +kernel
abbrev cX8_init : ByteArray := prog_10_method_1_code
def yX8_init : MethodName := ⟨RX8, "<init>", "()V"⟩
abbrev cX8_has : ByteArray := prog_10_method_2_code
def yX8_has : MethodName := ⟨RX8, "has", "(I)Z"⟩
abbrev cX8_clear : ByteArray := prog_10_method_3_code
def yX8_clear : MethodName := ⟨RX8, "clear", "()V"⟩
abbrev cX8_isKept : ByteArray := prog_10_method_4_code
def yX8_isKept : MethodName := ⟨RX8, "isKept", "(I)Z"⟩
abbrev cX8_put : ByteArray := prog_10_method_5_code
def yX8_put : MethodName := ⟨RX8, "put", "(III)V"⟩
abbrev cX8_rightAt : ByteArray := prog_10_method_6_code
def yX8_rightAt : MethodName := ⟨RX8, "rightAt", "(I)I"⟩
abbrev cX8_upAt : ByteArray := prog_10_method_7_code
def yX8_upAt : MethodName := ⟨RX8, "upAt", "(I)I"⟩
def RX9 : String := "SquareFolds"
def TX9 : u_T := fun k => match k with
  | 0 => ("SquareFolds", "text", "LSquareFolds$Letters;", true)
  | 1 => ("SquareFolds", "now", "LSquareFolds$Gluing;", true)
  | 2 => ("SquareFolds", "trial", "LSquareFolds$Gluing;", true)
  | 3 => ("SquareFolds", "past", "LSquareFolds$Past;", true)
  | 4 => ("SquareFolds", "slots", "LSquareFolds$Slots;", true)
  | 5 => ("SquareFolds", "sightings", "LSquareFolds$Sightings;", true)
  | 6 => ("SquareFolds", "nameOrbit", "LSquareFolds$NameOrbit;", true)
  | 7 => ("SquareFolds", "turns", "LSquareFolds$Distinct;", true)
  | 8 => ("SquareFolds", "fraction", "LSquareFolds$Fraction;", true)
  | _ => ("SquareFolds", "seedNow", "J", false)
def tyX9 : Nat → FieldType := fun k => match k with
  | 0 => .object "SquareFolds$Letters"
  | 1 => .object "SquareFolds$Gluing"
  | 2 => .object "SquareFolds$Gluing"
  | 3 => .object "SquareFolds$Past"
  | 4 => .object "SquareFolds$Slots"
  | 5 => .object "SquareFolds$Sightings"
  | 6 => .object "SquareFolds$NameOrbit"
  | 7 => .object "SquareFolds$Distinct"
  | 8 => .object "SquareFolds$Fraction"
  | _ => .long
abbrev wsX90 : List Cond := u_ws RX9 TX9 10
theorem nmX9 : ∀ a, a < 10 → ∀ b, b < 10 → a ≠ b → (TX9 a).2.1 ≠ (TX9 b).2.1 := by decide +kernel
theorem tyX9_ok : ∀ k, k < 10 → parseFieldDescriptor (TX9 k).2.2.1 = some (tyX9 k) := by decide +kernel
abbrev cX9_init : ByteArray := prog_1_method_1_code
def yX9_init : MethodName := ⟨RX9, "<init>", "()V"⟩
abbrev cX9_write : ByteArray := prog_1_method_2_code
def yX9_write : MethodName := ⟨RX9, "write", "(I)I"⟩
abbrev cX9_wipe : ByteArray := prog_1_method_3_code
def yX9_wipe : MethodName := ⟨RX9, "wipe", "()I"⟩
abbrev cX9_fault : ByteArray := prog_1_method_4_code
def yX9_fault : MethodName := ⟨RX9, "fault", "()I"⟩
abbrev cX9_surface : ByteArray := prog_1_method_5_code
def yX9_surface : MethodName := ⟨RX9, "surface", "()I"⟩
abbrev cX9_about : ByteArray := prog_1_method_6_code
def yX9_about : MethodName := ⟨RX9, "about", "(I)I"⟩
abbrev cX9_go : ByteArray := prog_1_method_7_code
def yX9_go : MethodName := ⟨RX9, "go", "(II)I"⟩
abbrev cX9_walk : ByteArray := prog_1_method_8_code
def yX9_walk : MethodName := ⟨RX9, "walk", "(II)I"⟩
abbrev cX9_square : ByteArray := prog_1_method_9_code
def yX9_square : MethodName := ⟨RX9, "square", "(II)I"⟩
abbrev cX9_name : ByteArray := prog_1_method_10_code
def yX9_name : MethodName := ⟨RX9, "name", "(II)J"⟩
abbrev cX9_shear : ByteArray := prog_1_method_11_code
def yX9_shear : MethodName := ⟨RX9, "shear", "(I)I"⟩
abbrev cX9_trade : ByteArray := prog_1_method_12_code
def yX9_trade : MethodName := ⟨RX9, "trade", "(II)I"⟩
abbrev cX9_undo : ByteArray := prog_1_method_13_code
def yX9_undo : MethodName := ⟨RX9, "undo", "()I"⟩
abbrev cX9_orbit : ByteArray := prog_1_method_14_code
def yX9_orbit : MethodName := ⟨RX9, "orbit", "(II)I"⟩
abbrev cX9_alike : ByteArray := prog_1_method_15_code
def yX9_alike : MethodName := ⟨RX9, "alike", "(III)I"⟩
abbrev cX9_judge : ByteArray := prog_1_method_16_code
def yX9_judge : MethodName := ⟨RX9, "judge", "(IJ)I"⟩
abbrev cX9_share : ByteArray := prog_1_method_17_code
def yX9_share : MethodName := ⟨RX9, "share", "(IZ)I"⟩
abbrev cX9_see : ByteArray := prog_1_method_18_code
def yX9_see : MethodName := ⟨RX9, "see", "(II)I"⟩
abbrev cX9_unsee : ByteArray := prog_1_method_19_code
def yX9_unsee : MethodName := ⟨RX9, "unsee", "()I"⟩
abbrev cX9_which : ByteArray := prog_1_method_20_code
def yX9_which : MethodName := ⟨RX9, "which", "()I"⟩
abbrev cX9_opens : ByteArray := prog_1_method_21_code
def yX9_opens : MethodName := ⟨RX9, "opens", "(IZ)I"⟩
abbrev cX9_seed : ByteArray := prog_1_method_22_code
def yX9_seed : MethodName := ⟨RX9, "seed", "(J)J"⟩
abbrev cX9_drawn : ByteArray := prog_1_method_23_code
def yX9_drawn : MethodName := ⟨RX9, "drawn", "(I)I"⟩
abbrev cX9_keep : ByteArray := prog_1_method_24_code
def yX9_keep : MethodName := ⟨RX9, "keep", "(I)I"⟩
abbrev cX9_again : ByteArray := prog_1_method_25_code
def yX9_again : MethodName := ⟨RX9, "again", "(I)I"⟩
abbrev cX9_isWay : ByteArray := prog_1_method_26_code
def yX9_isWay : MethodName := ⟨RX9, "isWay", "(I)Z"⟩
abbrev cX9_withoutLast : ByteArray := prog_1_method_27_code
def yX9_withoutLast : MethodName := ⟨RX9, "withoutLast", "(JI)J"⟩
abbrev cX9_allSeenFrom : ByteArray := prog_1_method_28_code
def yX9_allSeenFrom : MethodName := ⟨RX9, "allSeenFrom", "(I)Z"⟩
abbrev cX9_groupSize : ByteArray := prog_1_method_29_code
def yX9_groupSize : MethodName := ⟨RX9, "groupSize", "()I"⟩
def RX10 : String := "SquareFoldsModel"
def TX10 : u_T := fun k => match k with
  | 0 => ("SquareFoldsModel", "text", "[I", true)
  | 1 => ("SquareFoldsModel", "length", "I", false)
  | 2 => ("SquareFoldsModel", "now", "[I", true)
  | 3 => ("SquareFoldsModel", "trial", "[I", true)
  | 4 => ("SquareFoldsModel", "work", "[I", true)
  | 5 => ("SquareFoldsModel", "aside", "[I", true)
  | 6 => ("SquareFoldsModel", "diary", "[I", true)
  | 7 => ("SquareFoldsModel", "doings", "I", false)
  | 8 => ("SquareFoldsModel", "next", "I", false)
  | 9 => ("SquareFoldsModel", "kept", "[I", true)
  | 10 => ("SquareFoldsModel", "isKept", "[Z", true)
  | 11 => ("SquareFoldsModel", "seenWay", "[I", true)
  | 12 => ("SquareFoldsModel", "seenBack", "[I", true)
  | 13 => ("SquareFoldsModel", "seen", "I", false)
  | 14 => ("SquareFoldsModel", "seed", "J", false)
  | 15 => ("SquareFoldsModel", "number", "[I", true)
  | 16 => ("SquareFoldsModel", "met", "[I", true)
  | 17 => ("SquareFoldsModel", "names", "[J", true)
  | 18 => ("SquareFoldsModel", "sideTo", "[I", true)
  | 19 => ("SquareFoldsModel", "many", "I", false)
  | 20 => ("SquareFoldsModel", "group", "[I", true)
  | 21 => ("SquareFoldsModel", "worth", "[I", true)
  | _ => ("SquareFoldsModel", "size", "I", false)
def tyX10 : Nat → FieldType := fun k => match k with
  | 0 => .array .int
  | 1 => .int
  | 2 => .array .int
  | 3 => .array .int
  | 4 => .array .int
  | 5 => .array .int
  | 6 => .array .int
  | 7 => .int
  | 8 => .int
  | 9 => .array .int
  | 10 => .array .boolean
  | 11 => .array .int
  | 12 => .array .int
  | 13 => .int
  | 14 => .long
  | 15 => .array .int
  | 16 => .array .int
  | 17 => .array .long
  | 18 => .array .int
  | 19 => .int
  | 20 => .array .int
  | 21 => .array .int
  | _ => .int
abbrev wsX100 : List Cond := u_ws RX10 TX10 23
theorem nmX10 : ∀ a, a < 23 → ∀ b, b < 23 → a ≠ b → (TX10 a).2.1 ≠ (TX10 b).2.1 := by decide +kernel
theorem tyX10_ok : ∀ k, k < 23 → parseFieldDescriptor (TX10 k).2.2.1 = some (tyX10 k) := by decide +kernel
abbrev cX10_init : ByteArray := prog_12_method_1_code
def yX10_init : MethodName := ⟨RX10, "<init>", "()V"⟩
abbrev cX10_in : ByteArray := prog_12_method_3_code
def yX10_in : MethodName := ⟨RX10, "in", "(JJJ)Z"⟩
abbrev cX10_has : ByteArray := prog_12_method_4_code
def yX10_has : MethodName := ⟨RX10, "has", "(II)Z"⟩
abbrev cX10_ones : ByteArray := prog_12_method_5_code
def yX10_ones : MethodName := ⟨RX10, "ones", "(I)I"⟩
abbrev cX10_power : ByteArray := prog_12_method_6_code
def yX10_power : MethodName := ⟨RX10, "power", "(II)I"⟩
abbrev cX10_divisor : ByteArray := prog_12_method_7_code
def yX10_divisor : MethodName := ⟨RX10, "divisor", "(II)I"⟩
abbrev cX10_fraction : ByteArray := prog_12_method_8_code
def yX10_fraction : MethodName := ⟨RX10, "fraction", "(IIZ)I"⟩
abbrev cX10_right : ByteArray := prog_12_method_9_code
def yX10_right : MethodName := ⟨RX10, "right", "([II)I"⟩
abbrev cX10_up : ByteArray := prog_12_method_10_code
def yX10_up : MethodName := ⟨RX10, "up", "([II)I"⟩
abbrev cX10_left : ByteArray := prog_12_method_11_code
def yX10_left : MethodName := ⟨RX10, "left", "([II)I"⟩
abbrev cX10_down : ByteArray := prog_12_method_12_code
def yX10_down : MethodName := ⟨RX10, "down", "([II)I"⟩
abbrev cX10_moved : ByteArray := prog_12_method_13_code
def yX10_moved : MethodName := ⟨RX10, "moved", "([III)I"⟩
abbrev cX10_around : ByteArray := prog_12_method_14_code
def yX10_around : MethodName := ⟨RX10, "around", "([II)I"⟩
abbrev cX10_turns : ByteArray := prog_12_method_15_code
def yX10_turns : MethodName := ⟨RX10, "turns", "([II)I"⟩
abbrev cX10_beginsCorner : ByteArray := prog_12_method_16_code
def yX10_beginsCorner : MethodName := ⟨RX10, "beginsCorner", "([II)Z"⟩
abbrev cX10_rowOf : ByteArray := prog_12_method_17_code
def yX10_rowOf : MethodName := ⟨RX10, "rowOf", "([II)I"⟩
abbrev cX10_pieceOf : ByteArray := prog_12_method_18_code
def yX10_pieceOf : MethodName := ⟨RX10, "pieceOf", "([II)I"⟩
abbrev cX10_isContinued : ByteArray := prog_12_method_19_code
def yX10_isContinued : MethodName := ⟨RX10, "isContinued", "([II)Z"⟩
abbrev cX10_bandOf : ByteArray := prog_12_method_20_code
def yX10_bandOf : MethodName := ⟨RX10, "bandOf", "([II)I"⟩
abbrev cX10_isLeast : ByteArray := prog_12_method_21_code
def yX10_isLeast : MethodName := ⟨RX10, "isLeast", "(II)Z"⟩
abbrev cX10_pieces : ByteArray := prog_12_method_22_code
def yX10_pieces : MethodName := ⟨RX10, "pieces", "([I)I"⟩
abbrev cX10_rows : ByteArray := prog_12_method_23_code
def yX10_rows : MethodName := ⟨RX10, "rows", "([I)I"⟩
abbrev cX10_bands : ByteArray := prog_12_method_24_code
def yX10_bands : MethodName := ⟨RX10, "bands", "([I)I"⟩
abbrev cX10_corners : ByteArray := prog_12_method_25_code
def yX10_corners : MethodName := ⟨RX10, "corners", "([II)I"⟩
abbrev cX10_allCorners : ByteArray := prog_12_method_26_code
def yX10_allCorners : MethodName := ⟨RX10, "allCorners", "([I)I"⟩
abbrev cX10_ordinary : ByteArray := prog_12_method_27_code
def yX10_ordinary : MethodName := ⟨RX10, "ordinary", "([I)I"⟩
abbrev cX10_holes : ByteArray := prog_12_method_28_code
def yX10_holes : MethodName := ⟨RX10, "holes", "([II)I"⟩
abbrev cX10_layAside : ByteArray := prog_12_method_29_code
def yX10_layAside : MethodName := ⟨RX10, "layAside", "([I)V"⟩
abbrev cX10_side : ByteArray := prog_12_method_30_code
def yX10_side : MethodName := ⟨RX10, "side", "([I)V"⟩
abbrev cX10_upward : ByteArray := prog_12_method_31_code
def yX10_upward : MethodName := ⟨RX10, "upward", "([I)V"⟩
abbrev cX10_quarter : ByteArray := prog_12_method_32_code
def yX10_quarter : MethodName := ⟨RX10, "quarter", "([I)V"⟩
abbrev cX10_other : ByteArray := prog_12_method_33_code
def yX10_other : MethodName := ⟨RX10, "other", "(III)I"⟩
abbrev cX10_change : ByteArray := prog_12_method_34_code
def yX10_change : MethodName := ⟨RX10, "change", "([III)V"⟩
abbrev cX10_shearOn : ByteArray := prog_12_method_35_code
def yX10_shearOn : MethodName := ⟨RX10, "shearOn", "([II)V"⟩
abbrev cX10_lay : ByteArray := prog_12_method_36_code
def yX10_lay : MethodName := ⟨RX10, "lay", "([I[I)V"⟩
abbrev cX10_isSquare : ByteArray := prog_12_method_37_code
def yX10_isSquare : MethodName := ⟨RX10, "isSquare", "(I)Z"⟩
abbrev cX10_write : ByteArray := prog_12_method_38_code
def yX10_write : MethodName := ⟨RX10, "write", "(I)I"⟩
abbrev cX10_wipe : ByteArray := prog_12_method_39_code
def yX10_wipe : MethodName := ⟨RX10, "wipe", "()I"⟩
abbrev cX10_canStand : ByteArray := prog_12_method_40_code
def yX10_canStand : MethodName := ⟨RX10, "canStand", "(I)Z"⟩
abbrev cX10_fault : ByteArray := prog_12_method_41_code
def yX10_fault : MethodName := ⟨RX10, "fault", "()I"⟩
abbrev cX10_surface : ByteArray := prog_12_method_42_code
def yX10_surface : MethodName := ⟨RX10, "surface", "()I"⟩
abbrev cX10_groupSize : ByteArray := prog_12_method_43_code
def yX10_groupSize : MethodName := ⟨RX10, "groupSize", "()I"⟩
abbrev cX10_greatest : ByteArray := prog_12_method_44_code
def yX10_greatest : MethodName := ⟨RX10, "greatest", "([I)I"⟩
abbrev cX10_about : ByteArray := prog_12_method_45_code
def yX10_about : MethodName := ⟨RX10, "about", "(I)I"⟩
abbrev cX10_go : ByteArray := prog_12_method_46_code
def yX10_go : MethodName := ⟨RX10, "go", "(II)I"⟩
abbrev cX10_isWay : ByteArray := prog_12_method_47_code
def yX10_isWay : MethodName := ⟨RX10, "isWay", "(I)Z"⟩
abbrev cX10_end : ByteArray := prog_12_method_48_code
def yX10_end : MethodName := ⟨RX10, "end", "([III)I"⟩
abbrev cX10_walk : ByteArray := prog_12_method_49_code
def yX10_walk : MethodName := ⟨RX10, "walk", "(II)I"⟩
abbrev cX10_square : ByteArray := prog_12_method_50_code
def yX10_square : MethodName := ⟨RX10, "square", "(II)I"⟩
abbrev cX10_meet : ByteArray := prog_12_method_51_code
def yX10_meet : MethodName := ⟨RX10, "meet", "(I)V"⟩
abbrev cX10_nameFrom : ByteArray := prog_12_method_52_code
def yX10_nameFrom : MethodName := ⟨RX10, "nameFrom", "([II)J"⟩
abbrev cX10_leastName : ByteArray := prog_12_method_53_code
def yX10_leastName : MethodName := ⟨RX10, "leastName", "([II)J"⟩
abbrev cX10_name : ByteArray := prog_12_method_54_code
def yX10_name : MethodName := ⟨RX10, "name", "(II)J"⟩
abbrev cX10_note : ByteArray := prog_12_method_55_code
def yX10_note : MethodName := ⟨RX10, "note", "()V"⟩
abbrev cX10_shear : ByteArray := prog_12_method_56_code
def yX10_shear : MethodName := ⟨RX10, "shear", "(I)I"⟩
abbrev cX10_trade : ByteArray := prog_12_method_57_code
def yX10_trade : MethodName := ⟨RX10, "trade", "(II)I"⟩
abbrev cX10_undo : ByteArray := prog_12_method_58_code
def yX10_undo : MethodName := ⟨RX10, "undo", "()I"⟩
abbrev cX10_tellBack : ByteArray := prog_12_method_59_code
def yX10_tellBack : MethodName := ⟨RX10, "tellBack", "(JI)V"⟩
abbrev cX10_placeOf : ByteArray := prog_12_method_60_code
def yX10_placeOf : MethodName := ⟨RX10, "placeOf", "(J)I"⟩
abbrev cX10_enter : ByteArray := prog_12_method_61_code
def yX10_enter : MethodName := ⟨RX10, "enter", "(J)I"⟩
abbrev cX10_findOrbit : ByteArray := prog_12_method_62_code
def yX10_findOrbit : MethodName := ⟨RX10, "findOrbit", "(I)V"⟩
abbrev cX10_ring : ByteArray := prog_12_method_63_code
def yX10_ring : MethodName := ⟨RX10, "ring", "(I)I"⟩
abbrev cX10_orbit : ByteArray := prog_12_method_64_code
def yX10_orbit : MethodName := ⟨RX10, "orbit", "(II)I"⟩
abbrev cX10_alike : ByteArray := prog_12_method_65_code
def yX10_alike : MethodName := ⟨RX10, "alike", "(III)I"⟩
abbrev cX10_judged : ByteArray := prog_12_method_66_code
def yX10_judged : MethodName := ⟨RX10, "judged", "(IIII)Z"⟩
abbrev cX10_tenThousands : ByteArray := prog_12_method_67_code
def yX10_tenThousands : MethodName := ⟨RX10, "tenThousands", "(I)J"⟩
abbrev cX10_judge : ByteArray := prog_12_method_68_code
def yX10_judge : MethodName := ⟨RX10, "judge", "(IJ)I"⟩
abbrev cX10_fallen : ByteArray := prog_12_method_69_code
def yX10_fallen : MethodName := ⟨RX10, "fallen", "([III)I"⟩
abbrev cX10_hanging : ByteArray := prog_12_method_70_code
def yX10_hanging : MethodName := ⟨RX10, "hanging", "([IIII)I"⟩
abbrev cX10_squareAt : ByteArray := prog_12_method_71_code
def yX10_squareAt : MethodName := ⟨RX10, "squareAt", "(II)I"⟩
abbrev cX10_isOrder : ByteArray := prog_12_method_72_code
def yX10_isOrder : MethodName := ⟨RX10, "isOrder", "(II)Z"⟩
abbrev cX10_share : ByteArray := prog_12_method_73_code
def yX10_share : MethodName := ⟨RX10, "share", "(IZ)I"⟩
abbrev cX10_see : ByteArray := prog_12_method_74_code
def yX10_see : MethodName := ⟨RX10, "see", "(II)I"⟩
abbrev cX10_unsee : ByteArray := prog_12_method_75_code
def yX10_unsee : MethodName := ⟨RX10, "unsee", "()I"⟩
abbrev cX10_which : ByteArray := prog_12_method_76_code
def yX10_which : MethodName := ⟨RX10, "which", "()I"⟩
abbrev cX10_opens : ByteArray := prog_12_method_77_code
def yX10_opens : MethodName := ⟨RX10, "opens", "(IZ)I"⟩
abbrev cX10_seed : ByteArray := prog_12_method_78_code
def yX10_seed : MethodName := ⟨RX10, "seed", "(J)J"⟩
abbrev cX10_drawn : ByteArray := prog_12_method_79_code
def yX10_drawn : MethodName := ⟨RX10, "drawn", "(I)I"⟩
abbrev cX10_keep : ByteArray := prog_12_method_80_code
def yX10_keep : MethodName := ⟨RX10, "keep", "(I)I"⟩
abbrev cX10_again : ByteArray := prog_12_method_81_code
def yX10_again : MethodName := ⟨RX10, "again", "(I)I"⟩
def RJ6 : String := "java/lang/Integer"
def TJ6 : u_T := fun k => match k with
  | _ => ("", "", "", false)
def tyJ6 : Nat → FieldType := fun k => match k with
  | _ => .int
abbrev wsJ60 : List Cond := u_ws RJ6 TJ6 0
theorem nmJ6 : ∀ a, a < 0 → ∀ b, b < 0 → a ≠ b → (TJ6 a).2.1 ≠ (TJ6 b).2.1 := by decide +kernel
theorem tyJ6_ok : ∀ k, k < 0 → parseFieldDescriptor (TJ6 k).2.2.1 = some (tyJ6 k) := by decide +kernel
abbrev cJ6_bitCount_0f7a4 : ByteArray := prog_13_method_49_code
def yJ6_bitCount_0f7a4 : MethodName := ⟨RJ6, "bitCount", "(I)I"⟩
def RJ9 : String := "java/lang/Math"
def TJ9 : u_T := fun k => match k with
  | _ => ("", "", "", false)
def tyJ9 : Nat → FieldType := fun k => match k with
  | _ => .int
abbrev wsJ90 : List Cond := u_ws RJ9 TJ9 0
theorem nmJ9 : ∀ a, a < 0 → ∀ b, b < 0 → a ≠ b → (TJ9 a).2.1 ≠ (TJ9 b).2.1 := by decide +kernel
theorem tyJ9_ok : ∀ k, k < 0 → parseFieldDescriptor (TJ9 k).2.2.1 = some (tyJ9 k) := by decide +kernel
abbrev cJ9_abs_0f7a4 : ByteArray := prog_14_method_59_code
def yJ9_abs_0f7a4 : MethodName := ⟨RJ9, "abs", "(I)I"⟩
abbrev cJ9_max_7cf53 : ByteArray := prog_14_method_65_code
def yJ9_max_7cf53 : MethodName := ⟨RJ9, "max", "(II)I"⟩
abbrev cJ9_min_f86c9 : ByteArray := prog_14_method_70_code
def yJ9_min_f86c9 : MethodName := ⟨RJ9, "min", "(JJ)J"⟩
def RJ10 : String := "java/lang/System"
def TJ10 : u_T := fun k => match k with
  | _ => ("", "", "", false)
def tyJ10 : Nat → FieldType := fun k => match k with
  | _ => .int
abbrev wsJ100 : List Cond := u_ws RJ10 TJ10 0
theorem nmJ10 : ∀ a, a < 0 → ∀ b, b < 0 → a ≠ b → (TJ10 a).2.1 ≠ (TJ10 b).2.1 := by decide +kernel
theorem tyJ10_ok : ∀ k, k < 0 → parseFieldDescriptor (TJ10 k).2.2.1 = some (tyJ10 k) := by decide +kernel
def RL : String := "SquareFoldsLaw"
abbrev cL_law : ByteArray := code
def yL_law : MethodName := ⟨RL, "law", "([I)Z"⟩
abbrev vwCl : List vw_C := [(RX0, TX0, 2), (RX1, TX1, 2), (RX2, TX2, 3), (RX3, TX3, 2), (RX4, TX4, 3), (RX5, TX5, 3), (RX7, TX7, 3), (RX8, TX8, 3), (RX9, TX9, 10), (RX10, TX10, 23)]
end
section
/-! A light machine over abstract cells: places instead of addresses, one judgement Sn, rules for blocks, heap, calls, returns. -/
abbrev Hp : Type := List va_E
abbrev Mt : Type := MethodName × ByteArray × Nat × Option FieldType × Nat × Nat
abbrev GG : Type := va_G × (Nat → Nat) × (Nat → ClassId) × Nat × (Nat → Int32)
abbrev Md : Type := Nat × Nat × (State → Nat → Prop) × (Room → Array Value → Prop) × (State → Array Value → List Frame → State → Prop)
abbrev LL : Type := List (Option Value)
def cv (ad : Nat → Nat) : Value → Value
  | .ref k => .ref (ad k)
  | v => v
theorem cv_cat (ad : Nat → Nat) (v : Value) : (cv ad v).category = v.category := by cases v <;> rfl
def ce (G : GG) : va_E → va_E
  | .inl a => .inl (G.2.2.1 a.1, a.2)
  | .inr o => .inr (o.1, o.2.map (cv G.2.1))
def cw (G : GG) (H : Hp) : va_W := H.mapIdx (fun k e => (G.2.1 k, ce G e))
theorem cw_get {G : GG} {H : Hp} {k : Nat} {e : va_E} (h : H[k]? = some e) : (cw G H)[k]? = some (G.2.1 k, ce G e) := by
  simp [cw, List.getElem?_mapIdx, h]
theorem cw_set (G : GG) (H : Hp) (k : Nat) (e : va_E) : (cw G H).set k (G.2.1 k, ce G e) = cw G (H.set k e) := by
  apply List.ext_getElem?
  intro i
  simp only [cw, List.getElem?_set, List.getElem?_mapIdx, List.length_mapIdx]
  by_cases h : k = i
  · subst h
    by_cases h2 : k < H.length <;> simp [h2]
  · simp [h]
def aA (G : GG) : Nat → Prop := fun q => ∃ k, k < 39 ∧ q = G.2.1 k
def aInj (G : GG) : Prop := ∀ i j, i < 39 → j < 39 → G.2.1 i = G.2.1 j → i = j
theorem cw_D {G : GG} {H : Hp} {A : Nat → Prop} (hi : aInj G) (hl : H.length = 39) (hA : ∀ q, aA G q → A q) : va_D A (cw G H) := by
  have key : ∀ (k : Nat) (q : Nat × va_E), (cw G H)[k]? = some q → k < 39 ∧ q.1 = G.2.1 k := by
    intro k q h
    simp only [cw, List.getElem?_mapIdx] at h
    cases hk : H[k]? with
    | none => rw [hk] at h; cases h
    | some e => rw [hk] at h; cases h; exact ⟨hl ▸ (List.getElem?_eq_some_iff.mp hk).1, rfl⟩
  refine ⟨fun i j p q h1 h2 h => ?_, fun k q h => ?_⟩
  · obtain ⟨a1, b1⟩ := key i p h1
    obtain ⟨a2, b2⟩ := key j q h2
    exact hi i j a1 a2 (b1.symm.trans (h.trans b2))
  · obtain ⟨a1, b1⟩ := key k q h
    exact hA _ ⟨k, a1, b1⟩
-- words
def isNest : Jvm.Cond → Bool
  | .fieldLinkNest .. => true
  | .methodLinkNest .. => true
  | _ => false
def gW : List Jvm.Cond := lw_tbl.filter goodWord
def nW : List Jvm.Cond := lw_tbl.filter isNest
theorem gW_at {w : Jvm.Cond} (i : Nat) (h : (decide (lw_tbl[i]? = some w) && goodWord w) = true) : w ∈ gW := by
  simp only [Bool.and_eq_true, decide_eq_true_eq] at h
  exact List.mem_filter.mpr ⟨List.mem_of_getElem? h.1, h.2⟩
theorem nW_at {w : Jvm.Cond} (i : Nat) (h : (decide (lw_tbl[i]? = some w) && isNest w) = true) : w ∈ nW := by
  simp only [Bool.and_eq_true, decide_eq_true_eq] at h
  exact List.mem_filter.mpr ⟨List.mem_of_getElem? h.1, h.2⟩
theorem gW_good {w : Jvm.Cond} (h : w ∈ gW) : (w.onTables && w.keeps) = true ∨ ∃ ty, w = .arrayClass ty := good_of_word (List.mem_filter.mp h).2
theorem nW_on {w : Jvm.Cond} (h : w ∈ nW) : w.onTables = true := by
  have h2 := (List.mem_filter.mp h).2
  cases w <;> first | rfl | (simp [isNest] at h2)
theorem nW_warm {s U : State} (hW : s.WarmedH U.vm) (h : ∀ w ∈ nW, va_Nw w s) : ∀ w ∈ nW, va_Nw w U := by
  intro w hw
  have h1 := h w hw
  have h2 := (List.mem_filter.mp hw).2
  cases w <;> first | exact va_Nw.warmF hW h1 | exact va_Nw.warmM hW h1 | (simp [isNest] at h2)
-- what stays outside: the tables, the static row, the script
def ordf : Nat → Int32 := fun k => match k with
  | 0 => 1
  | 1 => 1
  | 2 => 2
  | 3 => 6
  | 4 => 24
  | _ => 120
def tysG (G : GG) : List (ClassId × FieldType) := [(G.2.2.1 0, .int), (G.2.2.1 1, .long), (G.2.2.1 2, .boolean)]
def Ev (G : GG) (A : Nat → Prop) (U : State) : Prop := va_K G.1 vwCl (tysG G) U ∧ (∀ w ∈ nW, va_Nw w U) ∧ va_Z "SquareFolds$Gluing" "ORDERS" "[I" (.ref (G.2.1 1000)) A U U.heap ∧ (va_X (G.2.1 1000) 6 ordf U U.heap ∧ G.2.1 1000 < U.heap.size ∧ ¬ A (G.2.1 1000)) ∧ (va_X (G.2.1 1001) G.2.2.2.1 G.2.2.2.2 U U.heap ∧ G.2.1 1001 < U.heap.size ∧ ¬ A (G.2.1 1001))
theorem Ev.go {G : GG} {A B : Nat → Prop} {s U : State} {H : Heap} {locs : List Loc} (h : Ev G A s) (hS : va_S A s.heap H locs) (hU : U.heap = H) (hW : s.WarmedH U.vm) (hAB : ∀ q, B q → A q) : Ev G B U := by
  obtain ⟨hK, hN, hZ, ⟨hX, h1, h2⟩, ⟨hX', h1', h2'⟩⟩ := h
  refine ⟨va_K.moved hW.alike hK, nW_warm hW hN, ?_, ⟨?_, ?_, fun q => h2 (hAB _ q)⟩, ⟨?_, ?_, fun q => h2' (hAB _ q)⟩⟩
  · rw [hU]
    exact ((va_Z.moved hW.alike hZ).kept (fun a ha hn => hS.2.1 a ha hn)).narrow hAB
  · rw [hU]
    exact (va_X.moved hW.alike hX).kept (hS.2.1 _ h1 h2)
  · rw [hU]
    exact Nat.lt_of_lt_of_le h1 hS.1
  · rw [hU]
    exact (va_X.moved hW.alike hX').kept (hS.2.1 _ h1' h2')
  · rw [hU]
    exact Nat.lt_of_lt_of_le h1' hS.1
theorem Ev.calling {G : GG} {A : Nat → Prop} {U : State} {g : JFrame} {mk : MethodId} {a : Array Value} (h : Ev G A U) : Ev G A (U.calling g mk a) := by
  obtain ⟨hK, hN, hZ, ⟨hX, h1, h2⟩, ⟨hX', h1', h2'⟩⟩ := h
  exact ⟨va_K.moved (u := U) (U := U.calling g mk a) (Vm.Alike.refl U.vm) hK, fun w hw => va_Nw.same (nW_on hw) (u := U) (U := U.calling g mk a) rfl (hN w hw), va_Z.moved (u := U) (U := U.calling g mk a) (Vm.Alike.refl U.vm) hZ, ⟨va_X.moved (u := U) (U := U.calling g mk a) (Vm.Alike.refl U.vm) hX, h1, h2⟩, ⟨va_X.moved (u := U) (U := U.calling g mk a) (Vm.Alike.refl U.vm) hX', h1', h2'⟩⟩
-- locals
def lp (ad : Nat → Nat) : Nat → LL → List (Nat × Value)
  | _, [] => []
  | i, none :: l => lp ad (i + 1) l
  | i, some v :: l => (i, cv ad v) :: lp ad (i + 1) l
theorem lp_mem {ad : Nat → Nat} : ∀ (L : LL) (i : Nat) (q : Nat × Value), q ∈ lp ad i L ↔ ∃ (j : Nat) (v : Value), L[j]? = some (some v) ∧ q = (i + j, cv ad v)
  | [], i, q => by simp [lp]
  | none :: l, i, q => by
    simp only [lp, lp_mem l (i + 1) q]
    constructor
    · rintro ⟨j, v, h, rfl⟩
      exact ⟨j + 1, v, by simpa using h, by congr 1; omega⟩
    · rintro ⟨j, v, h, rfl⟩
      cases j with
      | zero => simp at h
      | succ j => exact ⟨j, v, by simpa using h, by congr 1; omega⟩
  | some w :: l, i, q => by
    simp only [lp, List.mem_cons, lp_mem l (i + 1) q]
    constructor
    · rintro (rfl | ⟨j, v, h, rfl⟩)
      · exact ⟨0, w, by simp, by simp⟩
      · exact ⟨j + 1, v, by simpa using h, by congr 1; omega⟩
    · rintro ⟨j, v, h, rfl⟩
      cases j with
      | zero => left; simp at h; subst h; rfl
      | succ j => right; exact ⟨j, v, by simpa using h, by congr 1; omega⟩
theorem lp_at {ad : Nat → Nat} {ls : Array Slot} {nL : Nat} {L : LL} (h : lv_has ls nL (lp ad 0 L)) {i : Nat} {v : Value} (hi : L[i]? = some (some v)) : ls[i]? = some (.val (cv ad v)) := h.2.2 (i, cv ad v) ((lp_mem L 0 _).mpr ⟨i, v, hi, by rw [Nat.zero_add]⟩)
theorem lp_mono {ad : Nat → Nat} {ls : Array Slot} {nL : Nat} {l l' : List (Nat × Value)} (h : lv_has ls nL l) (hs : ∀ q ∈ l', q ∈ l) : lv_has ls nL l' := ⟨h.1, h.2.1, fun q hq => h.2.2 q (hs q hq)⟩
def isL2 : Option (Option Value) → Bool
  | some (some (.long _)) => true
  | some (some (.double _)) => true
  | _ => false
def kl (L : LL) : Nat → LL
  | 0 => L
  | j + 1 => bif isL2 L[j]? then L.set j none else L
def st1 (L : LL) (i : Nat) (v : Value) : LL := (kl L i).set i (some v)
def st2 (L : LL) (i : Nat) (v : Value) : LL := ((kl L i).set i (some v)).set (i + 1) none
theorem kl_len (L : LL) (i : Nat) : (kl L i).length = L.length := by
  cases i with
  | zero => rfl
  | succ j =>
    simp only [kl]
    cases isL2 L[j]? <;> simp
theorem kl_at {L : LL} {i j : Nat} {w : Value} (h : (kl L i)[j]? = some (some w)) : L[j]? = some (some w) ∧ ¬ (j + 1 = i ∧ w.category = 2) := by
  cases i with
  | zero => exact ⟨h, fun q => by omega⟩
  | succ k =>
    simp only [kl] at h
    cases hb : isL2 L[k]? with
    | false =>
      rw [hb] at h
      simp only [cond_false] at h
      refine ⟨h, fun q => ?_⟩
      have hk : j = k := by omega
      subst hk
      rw [h] at hb
      have h2 := q.2
      cases w <;> simp [isL2, Value.category] at hb h2
    | true =>
      rw [hb] at h
      simp only [cond_true] at h
      by_cases hk : j = k
      · subst hk
        rw [List.getElem?_set] at h
        simp only [if_true] at h
        split at h <;> cases h
      · rw [List.getElem?_set_ne (fun e => hk e.symm)] at h
        exact ⟨h, fun q => hk (by omega)⟩
theorem lp_st1 {ad : Nat → Nat} {ls' : Array Slot} {nL : Nat} {L : LL} {i : Nat} {v : Value} (h : lv_has ls' nL ((i, cv ad v) :: (lp ad 0 L).filter (fun q => !(q.1 == i) && !(q.1 + 1 == i && q.2.category == 2)))) : lv_has ls' nL (lp ad 0 (st1 L i v)) := by
  refine lp_mono (ad := ad) h (fun q hq => ?_)
  obtain ⟨j, w, h1, rfl⟩ := (lp_mem _ _ _).mp hq
  by_cases hj : j = i
  · subst hj
    rw [st1, List.getElem?_set] at h1
    simp only [if_true] at h1
    split at h1
    · cases h1
      rw [Nat.zero_add]
      exact List.mem_cons_self
    · cases h1
  · rw [st1, List.getElem?_set_ne (fun e => hj e.symm)] at h1
    obtain ⟨h2, h3⟩ := kl_at h1
    refine List.mem_cons_of_mem _ (List.mem_filter.mpr ⟨(lp_mem _ _ _).mpr ⟨j, w, h2, rfl⟩, ?_⟩)
    simp only [Nat.zero_add, cv_cat]
    by_cases h4 : j + 1 = i
    · have h5 : ¬ w.category = 2 := fun q => h3 ⟨h4, q⟩
      simp [hj, h5]
    · simp [hj, h4]
theorem lp_st2 {ad : Nat → Nat} {ls' : Array Slot} {nL : Nat} {L : LL} {i : Nat} {v : Value} (h : lv_has ls' nL ((i, cv ad v) :: (lp ad 0 L).filter (fun q => !(q.1 == i) && (!(q.1 == i + 1) && !(q.1 + 1 == i && q.2.category == 2))))) : lv_has ls' nL (lp ad 0 (st2 L i v)) := by
  refine lp_mono (ad := ad) h (fun q hq => ?_)
  obtain ⟨j, w, h1, rfl⟩ := (lp_mem _ _ _).mp hq
  by_cases hj2 : j = i + 1
  · subst hj2
    rw [st2, List.getElem?_set] at h1
    simp only [if_true] at h1
    split at h1 <;> cases h1
  · rw [st2, List.getElem?_set_ne (fun e => hj2 e.symm)] at h1
    by_cases hj : j = i
    · subst hj
      rw [List.getElem?_set] at h1
      simp only [if_true] at h1
      split at h1
      · cases h1
        rw [Nat.zero_add]
        exact List.mem_cons_self
      · cases h1
    · rw [List.getElem?_set_ne (fun e => hj e.symm)] at h1
      obtain ⟨h2, h3⟩ := kl_at h1
      refine List.mem_cons_of_mem _ (List.mem_filter.mpr ⟨(lp_mem _ _ _).mpr ⟨j, w, h2, rfl⟩, ?_⟩)
      simp only [Nat.zero_add, cv_cat]
      by_cases h4 : j + 1 = i
      · have h5 : ¬ w.category = 2 := fun q => h3 ⟨h4, q⟩
        simp [hj, hj2, h5]
      · simp [hj, hj2, h4]
-- the judgement
def Cx (G : GG) (T : Md) (M : Mt) (p : Program) (R : Room) (s : State) (m : MethodId) (args : Array Value) (meth : Method) (c : Code) : Prop :=
  p.tables.exec = Jvm.exec ∧ c.code = M.2.1 ∧ c.maxLocals = M.2.2.1 ∧ meth.sig.returnType = M.2.2.2.1 ∧ meth.locks = false ∧ s.vm.findClass M.1.cls = some m.cls ∧ (∀ w ∈ gW, w.before args s = true) ∧ Ev G (T.2.2.1 s) s ∧ (∀ q, aA G q → T.2.2.1 s q) ∧ M.2.2.2.2.1 ≤ R.frames ∧ M.2.2.2.2.2 ≤ R.locals ∧ T.1 ≤ R.cells ∧ T.2.1 ≤ R.slots ∧ aInj G ∧ T.2.2.2.1 R args
def Sn (G : GG) (T : Md) (M : Mt) (pc : Nat) (L : LL) (st : List Value) (H : Hp) : Prop :=
  ∀ (p : Program) (l : Launch) (e : Env) (R : Room) (s : State) (m : MethodId) (args : Array Value) (below : List Frame) (meth : Method) (c : Code) (hp : Heap) (locs : List Loc) (ls : Array Slot),
    Cx G T M p R s m args meth c → va_P G.1 vwCl (cw G H) hp → H.length = 39 → va_S (T.2.2.1 s) s.heap hp locs → lv_has ls M.2.2.1 (lp G.2.1 0 L) → L.length = M.2.2.1 →
    W p l e R s m args below meth c hp locs T.1 T.2.1 (T.2.2.2.2 s args below) (F0 m pc ls (st.map (cv G.2.1)))
end
section
/-! The rules of the light machine. -/
-- straight blocks: an item is an instruction and its constant (or the goto's target)
abbrev It : Type := Instr × Value
def lenOf : Instr → Nat
  | .bipush _ | .iload _ | .istore _ | .lload _ | .lstore _ | .aload _ | .astore _ => 2
  | .sipush _ | .iinc _ _ | .goto _ => 3
  | _ => 1
def okC (ins : Instr) (pc : Nat) (c : Value) : Bool :=
  match ins with
  | .iconst n => decide (c = .int (Int32.ofInt n))
  | .bipush n => decide (c = .int (Int8.ofInt n).toInt32)
  | .sipush n => decide (c = .int (Int16.ofInt n).toInt32)
  | .lconst n => decide (c = .long (Int64.ofNat (n : Nat)))
  | .iinc _ n => decide (c = .int (Int32.ofInt n))
  | .goto off => match c with
    | .retAddr t => decide ((pc : Int) + off = (t : Int))
    | _ => false
  | _ => decide (c = .null)
def nxt (ins : Instr) (pc : Nat) (c : Value) : Nat := match c with
  | .retAddr t => t
  | _ => pc + lenOf ins
def decB (cc : ByteArray) : Nat → List It → Bool
  | _, [] => true
  | pc, it :: r => decide (decode cc pc = .ok (it.1, lenOf it.1)) && (okC it.1 pc it.2 && decB cc (nxt it.1 pc it.2) r)
def endB : Nat → List It → Nat
  | pc, [] => pc
  | pc, it :: r => endB (nxt it.1 pc it.2) r
abbrev St2 : Type := Option (LL × List Value)
def ldI (L : LL) (i : Nat) (st : List Value) : St2 := match L[i]? with
  | some (some (.int x)) => some (L, .int x :: st)
  | _ => none
def ldJ (L : LL) (i : Nat) (st : List Value) : St2 := match L[i]? with
  | some (some (.long x)) => some (L, .long x :: st)
  | _ => none
def ldA (L : LL) (i : Nat) (st : List Value) : St2 := match L[i]? with
  | some (some (.ref x)) => some (L, .ref x :: st)
  | _ => none
def sto (L : LL) (i : Nat) : List Value → St2
  | .int x :: st => match L[i]? with
    | some _ => some (st1 L i (.int x), st)
    | none => none
  | .ref x :: st => match L[i]? with
    | some _ => some (st1 L i (.ref x), st)
    | none => none
  | .long x :: st => match L[i + 1]? with
    | some _ => some (st2 L i (.long x), st)
    | none => none
  | _ => none
def incI (L : LL) (i : Nat) (c : Value) (st : List Value) : St2 := match L[i]?, c with
  | some (some (.int x)), .int k => some (st1 L i (.int (x + k)), st)
  | _, _ => none
def oII (f : Int32 → Int32 → Int32) (L : LL) : List Value → St2
  | .int y :: .int x :: st => some (L, .int (f x y) :: st)
  | _ => none
def oI (f : Int32 → Value) (L : LL) : List Value → St2
  | .int x :: st => some (L, f x :: st)
  | _ => none
def oJ (f : Int64 → Value) (L : LL) : List Value → St2
  | .long x :: st => some (L, f x :: st)
  | _ => none
def oJJ (f : Int64 → Int64 → Value) (L : LL) : List Value → St2
  | .long y :: .long x :: st => some (L, f x y :: st)
  | _ => none
def oJI (f : Int64 → Int32 → Int64) (L : LL) : List Value → St2
  | .int y :: .long x :: st => some (L, .long (f x y) :: st)
  | _ => none
def dupV (L : LL) : List Value → St2
  | .int x :: st => some (L, .int x :: .int x :: st)
  | .ref x :: st => some (L, .ref x :: .ref x :: st)
  | _ => none
def popV (L : LL) : List Value → St2
  | .int _ :: st => some (L, st)
  | .ref _ :: st => some (L, st)
  | _ => none
def iushrF (x y : Int32) : Int32 := (x.toUInt32 >>> (y.toUInt32 &&& Int32.toUInt32 31)).toInt32
def lushrF (x : Int64) (y : Int32) : Int64 := (x.toUInt64 >>> (y.toInt64.toUInt64 &&& Int64.toUInt64 63)).toInt64
def stepV (it : It) (L : LL) (st : List Value) : St2 :=
  match it.1 with
  | .iconst _ => some (L, it.2 :: st)
  | .bipush _ => some (L, it.2 :: st)
  | .sipush _ => some (L, it.2 :: st)
  | .lconst _ => some (L, it.2 :: st)
  | .iload i => ldI L i st
  | .iload_n i => ldI L i.val st
  | .lload i => ldJ L i st
  | .lload_n i => ldJ L i.val st
  | .aload i => ldA L i st
  | .aload_n i => ldA L i.val st
  | .istore i => match st with
    | .int x :: st => sto L i (.int x :: st)
    | _ => none
  | .istore_n i => match st with
    | .int x :: st => sto L i.val (.int x :: st)
    | _ => none
  | .lstore i => match st with
    | .long x :: st => sto L i (.long x :: st)
    | _ => none
  | .lstore_n i => match st with
    | .long x :: st => sto L i.val (.long x :: st)
    | _ => none
  | .astore_n i => match st with
    | .ref x :: st => sto L i.val (.ref x :: st)
    | _ => none
  | .iinc i _ => incI L i it.2 st
  | .iadd => oII (fun x y => x + y) L st
  | .isub => oII (fun x y => x - y) L st
  | .imul => oII (fun x y => x * y) L st
  | .iand => oII (fun x y => x &&& y) L st
  | .ior => oII (fun x y => x ||| y) L st
  | .ixor => oII (fun x y => x ^^^ y) L st
  | .ishl => oII (fun x y => x <<< (y &&& 31)) L st
  | .ishr => oII (fun x y => x >>> (y &&& 31)) L st
  | .iushr => oII iushrF L st
  | .ineg => oI (fun x => .int (-x)) L st
  | .i2l => oI (fun x => .long x.toInt64) L st
  | .l2i => oJ (fun x => .int x.toInt32) L st
  | .ladd => oJJ (fun x y => .long (x + y)) L st
  | .lsub => oJJ (fun x y => .long (x - y)) L st
  | .lmul => oJJ (fun x y => .long (x * y)) L st
  | .land => oJJ (fun x y => .long (x &&& y)) L st
  | .lor => oJJ (fun x y => .long (x ||| y)) L st
  | .lcmp => oJJ (fun x y => .int (lg_cmp x y)) L st
  | .lshl => oJI (fun x y => x <<< (y.toInt64 &&& 63)) L st
  | .lushr => oJI lushrF L st
  | .dup => dupV L st
  | .pop => popV L st
  | .goto _ => some (L, st)
  | _ => none
def runB : List It → LL → List Value → St2
  | [], L, st => some (L, st)
  | it :: r, L, st => match stepV it L st with
    | some q => runB r q.1 q.2
    | none => none
section RULES
variable {G : GG} {T : Md} {M : Mt} {pc : Nat} {L L' : LL} {st st' : List Value} {H : Hp}
theorem ldI_inv {i : Nat} (h : ldI L i st = some (L', st')) : ∃ x, L[i]? = some (some (.int x)) ∧ L' = L ∧ st' = .int x :: st := by
  unfold ldI at h
  split at h
  · rename_i x hx
    cases h
    exact ⟨x, hx, rfl, rfl⟩
  · cases h
theorem ldJ_inv {i : Nat} (h : ldJ L i st = some (L', st')) : ∃ x, L[i]? = some (some (.long x)) ∧ L' = L ∧ st' = .long x :: st := by
  unfold ldJ at h
  split at h
  · rename_i x hx
    cases h
    exact ⟨x, hx, rfl, rfl⟩
  · cases h
theorem ldA_inv {i : Nat} (h : ldA L i st = some (L', st')) : ∃ x, L[i]? = some (some (.ref x)) ∧ L' = L ∧ st' = .ref x :: st := by
  unfold ldA at h
  split at h
  · rename_i x hx
    cases h
    exact ⟨x, hx, rfl, rfl⟩
  · cases h
theorem sto_int {i : Nat} {x : Int32} (h : sto L i (.int x :: st) = some (L', st')) : i < L.length ∧ L' = st1 L i (.int x) ∧ st' = st := by
  simp only [sto] at h
  split at h
  · rename_i y hy
    cases h
    exact ⟨(List.getElem?_eq_some_iff.mp hy).1, rfl, rfl⟩
  · cases h
theorem sto_ref {i : Nat} {x : Nat} (h : sto L i (.ref x :: st) = some (L', st')) : i < L.length ∧ L' = st1 L i (.ref x) ∧ st' = st := by
  simp only [sto] at h
  split at h
  · rename_i y hy
    cases h
    exact ⟨(List.getElem?_eq_some_iff.mp hy).1, rfl, rfl⟩
  · cases h
theorem sto_long {i : Nat} {x : Int64} (h : sto L i (.long x :: st) = some (L', st')) : i + 1 < L.length ∧ L' = st2 L i (.long x) ∧ st' = st := by
  simp only [sto] at h
  split at h
  · rename_i y hy
    cases h
    exact ⟨(List.getElem?_eq_some_iff.mp hy).1, rfl, rfl⟩
  · cases h
theorem incI_inv {i : Nat} {c : Value} (h : incI L i c st = some (L', st')) : ∃ x k, L[i]? = some (some (.int x)) ∧ c = .int k ∧ L' = st1 L i (.int (x + k)) ∧ st' = st := by
  unfold incI at h
  split at h
  · rename_i x k hx
    cases h
    exact ⟨x, k, hx, rfl, rfl, rfl⟩
  · cases h
theorem oII_inv {f : Int32 → Int32 → Int32} (h : oII f L st = some (L', st')) : ∃ x y r, st = .int y :: .int x :: r ∧ L' = L ∧ st' = .int (f x y) :: r := by
  unfold oII at h
  split at h
  · cases h
    exact ⟨_, _, _, rfl, rfl, rfl⟩
  · cases h
theorem oI_inv {f : Int32 → Value} (h : oI f L st = some (L', st')) : ∃ x r, st = .int x :: r ∧ L' = L ∧ st' = f x :: r := by
  unfold oI at h
  split at h
  · cases h
    exact ⟨_, _, rfl, rfl, rfl⟩
  · cases h
theorem oJ_inv {f : Int64 → Value} (h : oJ f L st = some (L', st')) : ∃ x r, st = .long x :: r ∧ L' = L ∧ st' = f x :: r := by
  unfold oJ at h
  split at h
  · cases h
    exact ⟨_, _, rfl, rfl, rfl⟩
  · cases h
theorem oJJ_inv {f : Int64 → Int64 → Value} (h : oJJ f L st = some (L', st')) : ∃ x y r, st = .long y :: .long x :: r ∧ L' = L ∧ st' = f x y :: r := by
  unfold oJJ at h
  split at h
  · cases h
    exact ⟨_, _, _, rfl, rfl, rfl⟩
  · cases h
theorem oJI_inv {f : Int64 → Int32 → Int64} (h : oJI f L st = some (L', st')) : ∃ x y r, st = .int y :: .long x :: r ∧ L' = L ∧ st' = .long (f x y) :: r := by
  unfold oJI at h
  split at h
  · cases h
    exact ⟨_, _, _, rfl, rfl, rfl⟩
  · cases h
theorem st1_len (L : LL) (i : Nat) (v : Value) : (st1 L i v).length = L.length := by rw [st1, List.length_set, kl_len]
theorem st2_len (L : LL) (i : Nat) (v : Value) : (st2 L i v).length = L.length := by rw [st2, List.length_set, List.length_set, kl_len]
set_option maxHeartbeats 4000000 in
theorem sn_it {ins : Instr} {c : Value} (hd : decode M.2.1 pc = .ok (ins, lenOf ins)) (hc : okC ins pc c = true) (hs : stepV (ins, c) L st = some (L', st')) (k : Sn G T M (nxt ins pc c) L' st' H) : Sn G T M pc L st H := by
  intro p l e R s m args below meth cd hp locs ls X hP hH hS hl hL
  obtain ⟨hx, hb, -⟩ := id X
  cases ins with
  | iconst n =>
    simp only [okC, decide_eq_true_eq] at hc
    subst hc
    simp only [stepV] at hs
    cases hs
    exact lv_iconst hx hb hd rfl (k p l e R s m args below meth cd hp locs ls X hP hH hS hl hL)
  | bipush n =>
    simp only [okC, decide_eq_true_eq] at hc
    subst hc
    simp only [stepV] at hs
    cases hs
    exact lv_bipush hx hb hd rfl (k p l e R s m args below meth cd hp locs ls X hP hH hS hl hL)
  | sipush n =>
    simp only [okC, decide_eq_true_eq] at hc
    subst hc
    simp only [stepV] at hs
    cases hs
    exact lv_sipush hx hb hd rfl (k p l e R s m args below meth cd hp locs ls X hP hH hS hl hL)
  | lconst n =>
    simp only [okC, decide_eq_true_eq] at hc
    subst hc
    simp only [stepV] at hs
    cases hs
    exact lv_lconst hx hb hd rfl (k p l e R s m args below meth cd hp locs ls X hP hH hS hl hL)
  | iload i =>
    simp only [okC, decide_eq_true_eq] at hc
    subst hc
    obtain ⟨x, h1, rfl, rfl⟩ := ldI_inv hs
    exact lv_iload hx hb hd (lp_at hl h1) (k p l e R s m args below meth cd hp locs ls X hP hH hS hl hL)
  | iload_n i =>
    simp only [okC, decide_eq_true_eq] at hc
    subst hc
    obtain ⟨x, h1, rfl, rfl⟩ := ldI_inv hs
    exact lv_iload_n hx hb hd rfl (lp_at hl h1) (k p l e R s m args below meth cd hp locs ls X hP hH hS hl hL)
  | lload i =>
    simp only [okC, decide_eq_true_eq] at hc
    subst hc
    obtain ⟨x, h1, rfl, rfl⟩ := ldJ_inv hs
    exact lv_lload hx hb hd (lp_at hl h1) (k p l e R s m args below meth cd hp locs ls X hP hH hS hl hL)
  | lload_n i =>
    simp only [okC, decide_eq_true_eq] at hc
    subst hc
    obtain ⟨x, h1, rfl, rfl⟩ := ldJ_inv hs
    exact lv_lload_n hx hb hd rfl (lp_at hl h1) (k p l e R s m args below meth cd hp locs ls X hP hH hS hl hL)
  | aload i =>
    simp only [okC, decide_eq_true_eq] at hc
    subst hc
    obtain ⟨x, h1, rfl, rfl⟩ := ldA_inv hs
    exact lv_aload hx hb hd (lp_at hl h1) (k p l e R s m args below meth cd hp locs ls X hP hH hS hl hL)
  | aload_n i =>
    simp only [okC, decide_eq_true_eq] at hc
    subst hc
    obtain ⟨x, h1, rfl, rfl⟩ := ldA_inv hs
    exact lv_aload_n hx hb hd rfl (lp_at hl h1) (k p l e R s m args below meth cd hp locs ls X hP hH hS hl hL)
  | istore i =>
    simp only [okC, decide_eq_true_eq] at hc
    subst hc
    simp only [stepV] at hs
    split at hs
    · rename_i x r
      obtain ⟨h1, rfl, rfl⟩ := sto_int hs
      exact lv_istore (rest := List.map (cv G.2.1) st') hx hb hd hl (by rw [← hL]; exact h1) rfl (fun ls' hl' => k p l e R s m args below meth cd hp locs ls' X hP hH hS (lp_st1 (v := .int x) hl') (by rw [st1_len]; exact hL))
    · cases hs
  | istore_n i =>
    simp only [okC, decide_eq_true_eq] at hc
    subst hc
    simp only [stepV] at hs
    split at hs
    · rename_i x r
      obtain ⟨h1, rfl, rfl⟩ := sto_int hs
      exact lv_istore_n (rest := List.map (cv G.2.1) st') hx hb hd rfl hl (by rw [← hL]; exact h1) rfl (fun ls' hl' => k p l e R s m args below meth cd hp locs ls' X hP hH hS (lp_st1 (v := .int x) hl') (by rw [st1_len]; exact hL))
    · cases hs
  | lstore i =>
    simp only [okC, decide_eq_true_eq] at hc
    subst hc
    simp only [stepV] at hs
    split at hs
    · rename_i x r
      obtain ⟨h1, rfl, rfl⟩ := sto_long hs
      exact lv_lstore (rest := List.map (cv G.2.1) st') hx hb hd hl (by rw [← hL]; exact h1) rfl (fun ls' hl' => k p l e R s m args below meth cd hp locs ls' X hP hH hS (lp_st2 (v := .long x) hl') (by rw [st2_len]; exact hL))
    · cases hs
  | lstore_n i =>
    simp only [okC, decide_eq_true_eq] at hc
    subst hc
    simp only [stepV] at hs
    split at hs
    · rename_i x r
      obtain ⟨h1, rfl, rfl⟩ := sto_long hs
      exact lv_lstore_n (rest := List.map (cv G.2.1) st') hx hb hd rfl hl (by rw [← hL]; exact h1) rfl (fun ls' hl' => k p l e R s m args below meth cd hp locs ls' X hP hH hS (lp_st2 (v := .long x) hl') (by rw [st2_len]; exact hL))
    · cases hs
  | astore_n i =>
    simp only [okC, decide_eq_true_eq] at hc
    subst hc
    simp only [stepV] at hs
    split at hs
    · rename_i x r
      obtain ⟨h1, rfl, rfl⟩ := sto_ref hs
      exact lv_astore_n (rest := List.map (cv G.2.1) st') hx hb hd rfl hl (by rw [← hL]; exact h1) rfl (fun ls' hl' => k p l e R s m args below meth cd hp locs ls' X hP hH hS (lp_st1 (v := .ref x) hl') (by rw [st1_len]; exact hL))
    · cases hs
  | iinc i n =>
    simp only [okC, decide_eq_true_eq] at hc
    obtain ⟨x, kk, h1, h2, rfl, rfl⟩ := incI_inv hs
    have h2 : c = Value.int kk := h2
    subst h2
    cases hc
    obtain ⟨j, hj⟩ := List.getElem?_of_mem ((lp_mem (ad := G.2.1) L 0 (i, .int x)).mpr ⟨i, .int x, h1, by rw [Nat.zero_add]; rfl⟩)
    exact lv_iinc hx hb hd hl hj rfl (by rw [← hL]; exact (List.getElem?_eq_some_iff.mp h1).1) rfl (fun ls' hl' => k p l e R s m args below meth cd hp locs ls' X hP hH hS (lp_st1 (v := .int (x + Int32.ofInt n)) hl') (by rw [st1_len]; exact hL))
  | iadd =>
    simp only [okC, decide_eq_true_eq] at hc
    subst hc
    obtain ⟨x, y, r, rfl, rfl, rfl⟩ := oII_inv hs
    exact lv_iadd (rest := List.map (cv G.2.1) r) hx hb hd (k p l e R s m args below meth cd hp locs ls X hP hH hS hl hL)
  | isub =>
    simp only [okC, decide_eq_true_eq] at hc
    subst hc
    obtain ⟨x, y, r, rfl, rfl, rfl⟩ := oII_inv hs
    exact lv_isub (rest := List.map (cv G.2.1) r) hx hb hd (k p l e R s m args below meth cd hp locs ls X hP hH hS hl hL)
  | imul =>
    simp only [okC, decide_eq_true_eq] at hc
    subst hc
    obtain ⟨x, y, r, rfl, rfl, rfl⟩ := oII_inv hs
    exact lv_imul (rest := List.map (cv G.2.1) r) hx hb hd (k p l e R s m args below meth cd hp locs ls X hP hH hS hl hL)
  | iand =>
    simp only [okC, decide_eq_true_eq] at hc
    subst hc
    obtain ⟨x, y, r, rfl, rfl, rfl⟩ := oII_inv hs
    exact lv_iand (rest := List.map (cv G.2.1) r) hx hb hd (k p l e R s m args below meth cd hp locs ls X hP hH hS hl hL)
  | ior =>
    simp only [okC, decide_eq_true_eq] at hc
    subst hc
    obtain ⟨x, y, r, rfl, rfl, rfl⟩ := oII_inv hs
    exact lv_ior (rest := List.map (cv G.2.1) r) hx hb hd (k p l e R s m args below meth cd hp locs ls X hP hH hS hl hL)
  | ixor =>
    simp only [okC, decide_eq_true_eq] at hc
    subst hc
    obtain ⟨x, y, r, rfl, rfl, rfl⟩ := oII_inv hs
    exact lv_ixor (rest := List.map (cv G.2.1) r) hx hb hd (k p l e R s m args below meth cd hp locs ls X hP hH hS hl hL)
  | ishl =>
    simp only [okC, decide_eq_true_eq] at hc
    subst hc
    obtain ⟨x, y, r, rfl, rfl, rfl⟩ := oII_inv hs
    exact lv_ishl (rest := List.map (cv G.2.1) r) hx hb hd (k p l e R s m args below meth cd hp locs ls X hP hH hS hl hL)
  | ishr =>
    simp only [okC, decide_eq_true_eq] at hc
    subst hc
    obtain ⟨x, y, r, rfl, rfl, rfl⟩ := oII_inv hs
    exact lv_ishr (rest := List.map (cv G.2.1) r) hx hb hd (k p l e R s m args below meth cd hp locs ls X hP hH hS hl hL)
  | iushr =>
    simp only [okC, decide_eq_true_eq] at hc
    subst hc
    obtain ⟨x, y, r, rfl, rfl, rfl⟩ := oII_inv hs
    exact lv_iushr (rest := List.map (cv G.2.1) r) hx hb hd rfl (k p l e R s m args below meth cd hp locs ls X hP hH hS hl hL)
  | ineg =>
    simp only [okC, decide_eq_true_eq] at hc
    subst hc
    obtain ⟨x, r, rfl, rfl, rfl⟩ := oI_inv hs
    exact lv_ineg (rest := List.map (cv G.2.1) r) hx hb hd (k p l e R s m args below meth cd hp locs ls X hP hH hS hl hL)
  | i2l =>
    simp only [okC, decide_eq_true_eq] at hc
    subst hc
    obtain ⟨x, r, rfl, rfl, rfl⟩ := oI_inv hs
    exact lv_i2l (rest := List.map (cv G.2.1) r) hx hb hd rfl (k p l e R s m args below meth cd hp locs ls X hP hH hS hl hL)
  | l2i =>
    simp only [okC, decide_eq_true_eq] at hc
    subst hc
    obtain ⟨x, r, rfl, rfl, rfl⟩ := oJ_inv hs
    exact lv_l2i (rest := List.map (cv G.2.1) r) hx hb hd rfl (k p l e R s m args below meth cd hp locs ls X hP hH hS hl hL)
  | ladd =>
    simp only [okC, decide_eq_true_eq] at hc
    subst hc
    obtain ⟨x, y, r, rfl, rfl, rfl⟩ := oJJ_inv hs
    exact lv_ladd (rest := List.map (cv G.2.1) r) hx hb hd (k p l e R s m args below meth cd hp locs ls X hP hH hS hl hL)
  | lsub =>
    simp only [okC, decide_eq_true_eq] at hc
    subst hc
    obtain ⟨x, y, r, rfl, rfl, rfl⟩ := oJJ_inv hs
    exact lv_lsub (rest := List.map (cv G.2.1) r) hx hb hd (k p l e R s m args below meth cd hp locs ls X hP hH hS hl hL)
  | lmul =>
    simp only [okC, decide_eq_true_eq] at hc
    subst hc
    obtain ⟨x, y, r, rfl, rfl, rfl⟩ := oJJ_inv hs
    exact lv_lmul (rest := List.map (cv G.2.1) r) hx hb hd (k p l e R s m args below meth cd hp locs ls X hP hH hS hl hL)
  | land =>
    simp only [okC, decide_eq_true_eq] at hc
    subst hc
    obtain ⟨x, y, r, rfl, rfl, rfl⟩ := oJJ_inv hs
    exact lv_land (rest := List.map (cv G.2.1) r) hx hb hd (k p l e R s m args below meth cd hp locs ls X hP hH hS hl hL)
  | lor =>
    simp only [okC, decide_eq_true_eq] at hc
    subst hc
    obtain ⟨x, y, r, rfl, rfl, rfl⟩ := oJJ_inv hs
    exact lv_lor (rest := List.map (cv G.2.1) r) hx hb hd (k p l e R s m args below meth cd hp locs ls X hP hH hS hl hL)
  | lcmp =>
    simp only [okC, decide_eq_true_eq] at hc
    subst hc
    obtain ⟨x, y, r, rfl, rfl, rfl⟩ := oJJ_inv hs
    exact W.lcmp (rest := List.map (cv G.2.1) r) hx hb hd (k p l e R s m args below meth cd hp locs ls X hP hH hS hl hL)
  | lshl =>
    simp only [okC, decide_eq_true_eq] at hc
    subst hc
    obtain ⟨x, y, r, rfl, rfl, rfl⟩ := oJI_inv hs
    exact lv_lshl (rest := List.map (cv G.2.1) r) hx hb hd rfl (k p l e R s m args below meth cd hp locs ls X hP hH hS hl hL)
  | lushr =>
    simp only [okC, decide_eq_true_eq] at hc
    subst hc
    obtain ⟨x, y, r, rfl, rfl, rfl⟩ := oJI_inv hs
    exact lv_lushr (rest := List.map (cv G.2.1) r) hx hb hd rfl (k p l e R s m args below meth cd hp locs ls X hP hH hS hl hL)
  | dup =>
    simp only [okC, decide_eq_true_eq] at hc
    subst hc
    simp only [stepV] at hs
    unfold dupV at hs
    split at hs
    · cases hs
      exact lv_dup (va := .int _) (rest := List.map (cv G.2.1) _) hx hb hd rfl (k p l e R s m args below meth cd hp locs ls X hP hH hS hl hL)
    · cases hs
      exact lv_dup (va := .ref _) (rest := List.map (cv G.2.1) _) hx hb hd rfl (k p l e R s m args below meth cd hp locs ls X hP hH hS hl hL)
    · cases hs
  | pop =>
    simp only [okC, decide_eq_true_eq] at hc
    subst hc
    simp only [stepV] at hs
    unfold popV at hs
    split at hs
    · cases hs
      exact lv_pop (va := .int _) (rest := List.map (cv G.2.1) _) hx hb hd rfl (k p l e R s m args below meth cd hp locs ls X hP hH hS hl hL)
    · cases hs
      exact lv_pop (va := .ref _) (rest := List.map (cv G.2.1) _) hx hb hd rfl (k p l e R s m args below meth cd hp locs ls X hP hH hS hl hL)
    · cases hs
  | goto off =>
    simp only [stepV] at hs
    cases hs
    cases c with
    | retAddr t =>
      simp only [okC, decide_eq_true_eq] at hc
      exact lv_goto hx hb hd hc (k p l e R s m args below meth cd hp locs ls X hP hH hS hl hL)
    | _ => simp [okC] at hc
  | _ => cases hs
theorem sn_blk : ∀ (its : List It) {pc pc' : Nat} {L L' : LL} {st st' : List Value}, decB M.2.1 pc its = true → runB its L st = some (L', st') → endB pc its = pc' → Sn G T M pc' L' st' H → Sn G T M pc L st H
  | [], pc, pc', L, L', st, st', _, hr, he, k => by
    cases hr
    cases he
    exact k
  | it :: r, pc, pc', L, L', st, st', hd, hr, he, k => by
    simp only [decB, Bool.and_eq_true, decide_eq_true_eq] at hd
    simp only [runB] at hr
    split at hr
    · rename_i q hq
      exact sn_it hd.1 hd.2.1 (L' := q.1) (st' := q.2) hq (sn_blk r hd.2.2 hr he k)
    · cases hr
end RULES
end
section
/-! Rules for branches, divisions, constants, heap, calls, returns. -/
def rI (x y : Int32) : Int32 := x - x / y * y
def rJ (x y : Int64) : Int64 := x - x / y * y
-- reads and writes of abstract cells
def gI (H : Hp) (k ci j : Nat) : Option Int32 := match H[k]? with
  | some (.inr o) => match Nat.beq o.1 ci, o.2[j]? with
    | true, some (.int x) => some x
    | _, _ => none
  | _ => none
def gJ (H : Hp) (k ci j : Nat) : Option Int64 := match H[k]? with
  | some (.inr o) => match Nat.beq o.1 ci, o.2[j]? with
    | true, some (.long x) => some x
    | _, _ => none
  | _ => none
def gA (H : Hp) (k ci j : Nat) : Option Nat := match H[k]? with
  | some (.inr o) => match Nat.beq o.1 ci, o.2[j]? with
    | true, some (.ref x) => some x
    | _, _ => none
  | _ => none
def pV (H : Hp) (k ci j : Nat) (v : Value) : Option Hp := match H[k]? with
  | some (.inr o) => match Nat.beq o.1 ci, o.2[j]? with
    | true, some _ => some (H.set k (.inr (ci, o.2.set j v)))
    | _, _ => none
  | _ => none
/-- is there an object of the class at this place -/
def isO (H : Hp) (k ci : Nat) : Bool := match H[k]? with
  | some (.inr o) => Nat.beq o.1 ci
  | _ => false
def aI (H : Hp) (k t : Nat) (i : Int32) : Option Int32 := match H[k]? with
  | some (.inl a) => match Nat.beq a.1 t, a.2.2 with
    | true, .inl f => if i < 0 ∨ a.2.1 ≤ i.toNatClampNeg then none else some (f i.toNatClampNeg)
    | _, _ => none
  | _ => none
def aJ (H : Hp) (k : Nat) (i : Int32) : Option Int64 := match H[k]? with
  | some (.inl a) => match Nat.beq a.1 1, a.2.2 with
    | true, .inr (.inl f) => if i < 0 ∨ a.2.1 ≤ i.toNatClampNeg then none else some (f i.toNatClampNeg)
    | _, _ => none
  | _ => none
def sI (H : Hp) (k t : Nat) (i x : Int32) : Option Hp := match H[k]? with
  | some (.inl a) => match Nat.beq a.1 t, a.2.2 with
    | true, .inl f => if i < 0 ∨ a.2.1 ≤ i.toNatClampNeg then none else some (H.set k (.inl (t, a.2.1, .inl (upd f i.toNatClampNeg x))))
    | _, _ => none
  | _ => none
def sJ (H : Hp) (k : Nat) (i : Int32) (x : Int64) : Option Hp := match H[k]? with
  | some (.inl a) => match Nat.beq a.1 1, a.2.2 with
    | true, .inr (.inl f) => if i < 0 ∨ a.2.1 ≤ i.toNatClampNeg then none else some (H.set k (.inl (1, a.2.1, .inr (.inl (vp_updL f i.toNatClampNeg x)))))
    | _, _ => none
  | _ => none
theorem gI_inv {H : Hp} {k ci j : Nat} {x : Int32} (h : gI H k ci j = some x) : ∃ fs, H[k]? = some (.inr (ci, fs)) ∧ fs[j]? = some (.int x) := by
  unfold gI at h
  split at h
  · rename_i o ho
    split at h
    · rename_i y h1 h2
      cases h
      have h1 := Nat.eq_of_beq_eq_true h1
      subst h1
      exact ⟨_, ho, h2⟩
    · cases h
  · cases h
theorem gJ_inv {H : Hp} {k ci j : Nat} {x : Int64} (h : gJ H k ci j = some x) : ∃ fs, H[k]? = some (.inr (ci, fs)) ∧ fs[j]? = some (.long x) := by
  unfold gJ at h
  split at h
  · rename_i o ho
    split at h
    · rename_i y h1 h2
      cases h
      have h1 := Nat.eq_of_beq_eq_true h1
      subst h1
      exact ⟨_, ho, h2⟩
    · cases h
  · cases h
theorem gA_inv {H : Hp} {k ci j : Nat} {x : Nat} (h : gA H k ci j = some x) : ∃ fs, H[k]? = some (.inr (ci, fs)) ∧ fs[j]? = some (.ref x) := by
  unfold gA at h
  split at h
  · rename_i o ho
    split at h
    · rename_i y h1 h2
      cases h
      have h1 := Nat.eq_of_beq_eq_true h1
      subst h1
      exact ⟨_, ho, h2⟩
    · cases h
  · cases h
theorem pV_inv {H H' : Hp} {k ci j : Nat} {v : Value} (h : pV H k ci j v = some H') : ∃ fs, H[k]? = some (.inr (ci, fs)) ∧ j < fs.length ∧ H' = H.set k (.inr (ci, fs.set j v)) := by
  unfold pV at h
  split at h
  · rename_i o ho
    split at h
    · rename_i y h1 h2
      cases h
      have h1 := Nat.eq_of_beq_eq_true h1
      subst h1
      exact ⟨_, ho, (List.getElem?_eq_some_iff.mp h2).1, rfl⟩
    · cases h
  · cases h
theorem isO_inv {H : Hp} {k ci : Nat} (h : isO H k ci = true) : ∃ fs, H[k]? = some (.inr (ci, fs)) := by
  unfold isO at h
  split at h
  · rename_i o ho
    have h1 := Nat.eq_of_beq_eq_true h
    subst h1
    exact ⟨_, ho⟩
  · cases h
theorem aI_inv {H : Hp} {k t : Nat} {i x : Int32} (h : aI H k t i = some x) : ∃ n f, H[k]? = some (.inl (t, n, .inl f)) ∧ vp_in i n ∧ x = f i.toNatClampNeg := by
  unfold aI at h
  split at h
  · rename_i a ha
    split at h
    · rename_i f h1 h2
      split at h
      · cases h
      · rename_i hi
        cases h
        have h1 := Nat.eq_of_beq_eq_true h1
        subst h1
        obtain ⟨a1, a2, a3⟩ := a
        cases h2
        exact ⟨_, _, ha, hi, rfl⟩
    · cases h
  · cases h
theorem aJ_inv {H : Hp} {k : Nat} {i : Int32} {x : Int64} (h : aJ H k i = some x) : ∃ n f, H[k]? = some (.inl (1, n, .inr (.inl f))) ∧ vp_in i n ∧ x = f i.toNatClampNeg := by
  unfold aJ at h
  split at h
  · rename_i a ha
    split at h
    · rename_i f h1 h2
      split at h
      · cases h
      · rename_i hi
        cases h
        have h1 := Nat.eq_of_beq_eq_true h1
        obtain ⟨a1, a2, a3⟩ := a
        cases h2
        cases h1
        exact ⟨_, _, ha, hi, rfl⟩
    · cases h
  · cases h
theorem sI_inv {H H' : Hp} {k t : Nat} {i x : Int32} (h : sI H k t i x = some H') : ∃ n f, H[k]? = some (.inl (t, n, .inl f)) ∧ vp_in i n ∧ H' = H.set k (.inl (t, n, .inl (upd f i.toNatClampNeg x))) := by
  unfold sI at h
  split at h
  · rename_i a ha
    split at h
    · rename_i f h1 h2
      split at h
      · cases h
      · rename_i hi
        cases h
        have h1 := Nat.eq_of_beq_eq_true h1
        subst h1
        obtain ⟨a1, a2, a3⟩ := a
        cases h2
        exact ⟨_, _, ha, hi, rfl⟩
    · cases h
  · cases h
theorem sJ_inv {H H' : Hp} {k : Nat} {i : Int32} {x : Int64} (h : sJ H k i x = some H') : ∃ n f, H[k]? = some (.inl (1, n, .inr (.inl f))) ∧ vp_in i n ∧ H' = H.set k (.inl (1, n, .inr (.inl (vp_updL f i.toNatClampNeg x)))) := by
  unfold sJ at h
  split at h
  · rename_i a ha
    split at h
    · rename_i f h1 h2
      split at h
      · cases h
      · rename_i hi
        cases h
        have h1 := Nat.eq_of_beq_eq_true h1
        obtain ⟨a1, a2, a3⟩ := a
        cases h2
        cases h1
        exact ⟨_, _, ha, hi, rfl⟩
    · cases h
  · cases h
/-- a field of a class, as a method of 'own' spells it -/
def FOk (own : String) (idx ci j : Nat) : Prop := ∃ (C : String) (Tf : u_T) (N : Nat) (ty0 : Nat → FieldType), vwCl[ci]? = some (C, Tf, N) ∧ j < N ∧ (∀ w ∈ u_ws C Tf N, w ∈ gW) ∧ (∀ k, k < N → parseFieldDescriptor (Tf k).2.2.1 = some (ty0 k)) ∧ (∀ a, a < N → ∀ b, b < N → a ≠ b → (Tf a).2.1 ≠ (Tf b).2.1) ∧ (Cond.fieldLink own idx (Tf j).1 (Tf j).2.1 (Tf j).2.2.1 ∈ gW ∨ ∃ host, Cond.fieldLinkNest own idx (Tf j).1 (Tf j).2.1 (Tf j).2.2.1 host ∈ nW)
/-- one that may be written outside of a constructor, with an int or a long -/
def FPu (ci j : Nat) (ty : FieldType) : Prop := ∃ (C : String) (Tf : u_T) (N : Nat), vwCl[ci]? = some (C, Tf, N) ∧ (Tf j).2.2.2 = false ∧ parseFieldDescriptor (Tf j).2.2.1 = some ty
section RULES2
variable {G : GG} {T : Md} {M : Mt} {pc : Nat} {L L' : LL} {st st' : List Value} {H : Hp}
theorem sn_if_eq {x : Int32} {off : Int} {tgt : Nat} (hd : decode M.2.1 pc = .ok (.ifCond .eq off, 3)) (ht : (pc : Int) + off = (tgt : Int)) (kt : x = 0 → Sn G T M tgt L st H) (kf : ¬ x = 0 → Sn G T M (pc + 3) L st H) : Sn G T M pc L (.int x :: st) H := by
  intro p l e R s m args below meth cd hp locs ls X hP hH hS hl hL
  exact lv_if_eq (rest := List.map (cv G.2.1) st) X.1 X.2.1 hd ht (fun q => kt q p l e R s m args below meth cd hp locs ls X hP hH hS hl hL) (fun q => kf q p l e R s m args below meth cd hp locs ls X hP hH hS hl hL)
theorem sn_if_ne {x : Int32} {off : Int} {tgt : Nat} (hd : decode M.2.1 pc = .ok (.ifCond .ne off, 3)) (ht : (pc : Int) + off = (tgt : Int)) (kt : ¬ x = 0 → Sn G T M tgt L st H) (kf : x = 0 → Sn G T M (pc + 3) L st H) : Sn G T M pc L (.int x :: st) H := by
  intro p l e R s m args below meth cd hp locs ls X hP hH hS hl hL
  exact lv_if_ne (rest := List.map (cv G.2.1) st) X.1 X.2.1 hd ht (fun q => kt q p l e R s m args below meth cd hp locs ls X hP hH hS hl hL) (fun q => kf q p l e R s m args below meth cd hp locs ls X hP hH hS hl hL)
theorem sn_if_lt {x : Int32} {off : Int} {tgt : Nat} (hd : decode M.2.1 pc = .ok (.ifCond .lt off, 3)) (ht : (pc : Int) + off = (tgt : Int)) (kt : x < 0 → Sn G T M tgt L st H) (kf : ¬ x < 0 → Sn G T M (pc + 3) L st H) : Sn G T M pc L (.int x :: st) H := by
  intro p l e R s m args below meth cd hp locs ls X hP hH hS hl hL
  exact lv_if_lt (rest := List.map (cv G.2.1) st) X.1 X.2.1 hd ht (fun q => kt q p l e R s m args below meth cd hp locs ls X hP hH hS hl hL) (fun q => kf q p l e R s m args below meth cd hp locs ls X hP hH hS hl hL)
theorem sn_if_ge {x : Int32} {off : Int} {tgt : Nat} (hd : decode M.2.1 pc = .ok (.ifCond .ge off, 3)) (ht : (pc : Int) + off = (tgt : Int)) (kt : 0 ≤ x → Sn G T M tgt L st H) (kf : ¬ 0 ≤ x → Sn G T M (pc + 3) L st H) : Sn G T M pc L (.int x :: st) H := by
  intro p l e R s m args below meth cd hp locs ls X hP hH hS hl hL
  exact lv_if_ge (rest := List.map (cv G.2.1) st) X.1 X.2.1 hd ht (fun q => kt q p l e R s m args below meth cd hp locs ls X hP hH hS hl hL) (fun q => kf q p l e R s m args below meth cd hp locs ls X hP hH hS hl hL)
theorem sn_if_gt {x : Int32} {off : Int} {tgt : Nat} (hd : decode M.2.1 pc = .ok (.ifCond .gt off, 3)) (ht : (pc : Int) + off = (tgt : Int)) (kt : 0 < x → Sn G T M tgt L st H) (kf : ¬ 0 < x → Sn G T M (pc + 3) L st H) : Sn G T M pc L (.int x :: st) H := by
  intro p l e R s m args below meth cd hp locs ls X hP hH hS hl hL
  exact lv_if_gt (rest := List.map (cv G.2.1) st) X.1 X.2.1 hd ht (fun q => kt q p l e R s m args below meth cd hp locs ls X hP hH hS hl hL) (fun q => kf q p l e R s m args below meth cd hp locs ls X hP hH hS hl hL)
theorem sn_if_le {x : Int32} {off : Int} {tgt : Nat} (hd : decode M.2.1 pc = .ok (.ifCond .le off, 3)) (ht : (pc : Int) + off = (tgt : Int)) (kt : x ≤ 0 → Sn G T M tgt L st H) (kf : ¬ x ≤ 0 → Sn G T M (pc + 3) L st H) : Sn G T M pc L (.int x :: st) H := by
  intro p l e R s m args below meth cd hp locs ls X hP hH hS hl hL
  exact lv_if_le (rest := List.map (cv G.2.1) st) X.1 X.2.1 hd ht (fun q => kt q p l e R s m args below meth cd hp locs ls X hP hH hS hl hL) (fun q => kf q p l e R s m args below meth cd hp locs ls X hP hH hS hl hL)
theorem sn_icmp_eq {x y : Int32} {off : Int} {tgt : Nat} (hd : decode M.2.1 pc = .ok (.if_icmp .eq off, 3)) (ht : (pc : Int) + off = (tgt : Int)) (kt : x = y → Sn G T M tgt L st H) (kf : ¬ x = y → Sn G T M (pc + 3) L st H) : Sn G T M pc L (.int y :: .int x :: st) H := by
  intro p l e R s m args below meth cd hp locs ls X hP hH hS hl hL
  exact lv_icmp_eq (rest := List.map (cv G.2.1) st) X.1 X.2.1 hd ht (fun q => kt q p l e R s m args below meth cd hp locs ls X hP hH hS hl hL) (fun q => kf q p l e R s m args below meth cd hp locs ls X hP hH hS hl hL)
theorem sn_icmp_ne {x y : Int32} {off : Int} {tgt : Nat} (hd : decode M.2.1 pc = .ok (.if_icmp .ne off, 3)) (ht : (pc : Int) + off = (tgt : Int)) (kt : ¬ x = y → Sn G T M tgt L st H) (kf : x = y → Sn G T M (pc + 3) L st H) : Sn G T M pc L (.int y :: .int x :: st) H := by
  intro p l e R s m args below meth cd hp locs ls X hP hH hS hl hL
  exact lv_icmp_ne (rest := List.map (cv G.2.1) st) X.1 X.2.1 hd ht (fun q => kt q p l e R s m args below meth cd hp locs ls X hP hH hS hl hL) (fun q => kf q p l e R s m args below meth cd hp locs ls X hP hH hS hl hL)
theorem sn_icmp_lt {x y : Int32} {off : Int} {tgt : Nat} (hd : decode M.2.1 pc = .ok (.if_icmp .lt off, 3)) (ht : (pc : Int) + off = (tgt : Int)) (kt : x < y → Sn G T M tgt L st H) (kf : ¬ x < y → Sn G T M (pc + 3) L st H) : Sn G T M pc L (.int y :: .int x :: st) H := by
  intro p l e R s m args below meth cd hp locs ls X hP hH hS hl hL
  exact lv_icmp_lt (rest := List.map (cv G.2.1) st) X.1 X.2.1 hd ht (fun q => kt q p l e R s m args below meth cd hp locs ls X hP hH hS hl hL) (fun q => kf q p l e R s m args below meth cd hp locs ls X hP hH hS hl hL)
theorem sn_icmp_ge {x y : Int32} {off : Int} {tgt : Nat} (hd : decode M.2.1 pc = .ok (.if_icmp .ge off, 3)) (ht : (pc : Int) + off = (tgt : Int)) (kt : y ≤ x → Sn G T M tgt L st H) (kf : ¬ y ≤ x → Sn G T M (pc + 3) L st H) : Sn G T M pc L (.int y :: .int x :: st) H := by
  intro p l e R s m args below meth cd hp locs ls X hP hH hS hl hL
  exact lv_icmp_ge (rest := List.map (cv G.2.1) st) X.1 X.2.1 hd ht (fun q => kt q p l e R s m args below meth cd hp locs ls X hP hH hS hl hL) (fun q => kf q p l e R s m args below meth cd hp locs ls X hP hH hS hl hL)
theorem sn_icmp_gt {x y : Int32} {off : Int} {tgt : Nat} (hd : decode M.2.1 pc = .ok (.if_icmp .gt off, 3)) (ht : (pc : Int) + off = (tgt : Int)) (kt : y < x → Sn G T M tgt L st H) (kf : ¬ y < x → Sn G T M (pc + 3) L st H) : Sn G T M pc L (.int y :: .int x :: st) H := by
  intro p l e R s m args below meth cd hp locs ls X hP hH hS hl hL
  exact lv_icmp_gt (rest := List.map (cv G.2.1) st) X.1 X.2.1 hd ht (fun q => kt q p l e R s m args below meth cd hp locs ls X hP hH hS hl hL) (fun q => kf q p l e R s m args below meth cd hp locs ls X hP hH hS hl hL)
theorem sn_icmp_le {x y : Int32} {off : Int} {tgt : Nat} (hd : decode M.2.1 pc = .ok (.if_icmp .le off, 3)) (ht : (pc : Int) + off = (tgt : Int)) (kt : x ≤ y → Sn G T M tgt L st H) (kf : ¬ x ≤ y → Sn G T M (pc + 3) L st H) : Sn G T M pc L (.int y :: .int x :: st) H := by
  intro p l e R s m args below meth cd hp locs ls X hP hH hS hl hL
  exact lv_icmp_le (rest := List.map (cv G.2.1) st) X.1 X.2.1 hd ht (fun q => kt q p l e R s m args below meth cd hp locs ls X hP hH hS hl hL) (fun q => kf q p l e R s m args below meth cd hp locs ls X hP hH hS hl hL)
theorem sn_idiv {x y : Int32} (hd : decode M.2.1 pc = .ok (.idiv, 1)) (hy : ¬ y = 0) (k : Sn G T M (pc + 1) L (.int (x / y) :: st) H) : Sn G T M pc L (.int y :: .int x :: st) H := by
  intro p l e R s m args below meth cd hp locs ls X hP hH hS hl hL
  exact lv_idiv (rest := List.map (cv G.2.1) st) X.1 X.2.1 hd hy (k p l e R s m args below meth cd hp locs ls X hP hH hS hl hL)
theorem sn_irem {x y : Int32} (hd : decode M.2.1 pc = .ok (.irem, 1)) (hy : ¬ y = 0) (k : Sn G T M (pc + 1) L (.int (rI x y) :: st) H) : Sn G T M pc L (.int y :: .int x :: st) H := by
  intro p l e R s m args below meth cd hp locs ls X hP hH hS hl hL
  exact lv_irem (rest := List.map (cv G.2.1) st) X.1 X.2.1 hd hy (k p l e R s m args below meth cd hp locs ls X hP hH hS hl hL)
theorem sn_ldiv {x y : Int64} (hd : decode M.2.1 pc = .ok (.ldiv, 1)) (hy : ¬ y = 0) (k : Sn G T M (pc + 1) L (.long (x / y) :: st) H) : Sn G T M pc L (.long y :: .long x :: st) H := by
  intro p l e R s m args below meth cd hp locs ls X hP hH hS hl hL
  exact lv_ldiv (rest := List.map (cv G.2.1) st) X.1 X.2.1 hd hy (k p l e R s m args below meth cd hp locs ls X hP hH hS hl hL)
theorem sn_lrem {x y : Int64} (hd : decode M.2.1 pc = .ok (.lrem, 1)) (hy : ¬ y = 0) (k : Sn G T M (pc + 1) L (.long (rJ x y) :: st) H) : Sn G T M pc L (.long y :: .long x :: st) H := by
  intro p l e R s m args below meth cd hp locs ls X hP hH hS hl hL
  exact lv_lrem (rest := List.map (cv G.2.1) st) X.1 X.2.1 hd hy (k p l e R s m args below meth cd hp locs ls X hP hH hS hl hL)
theorem sn_ldcw {idx : Nat} {v : Int32} (hd : decode M.2.1 pc = .ok (.ldc_w idx, 3)) (hw : Cond.constant M.1.cls idx v ∈ gW) (k : Sn G T M (pc + 3) L (.int v :: st) H) : Sn G T M pc L st H := by
  intro p l e R s m args below meth cd hp locs ls X hP hH hS hl hL
  obtain ⟨hx, hb, -, -, -, hown, hts, -⟩ := id X
  exact lv_ldcw hx hb hown (hts _ hw) hd (k p l e R s m args below meth cd hp locs ls X hP hH hS hl hL)
theorem sn_ldc2 {idx : Nat} {v : Int64} (hd : decode M.2.1 pc = .ok (.ldc2_w idx, 3)) (hw : Cond.constantLong M.1.cls idx v ∈ gW) (k : Sn G T M (pc + 3) L (.long v :: st) H) : Sn G T M pc L st H := by
  intro p l e R s m args below meth cd hp locs ls X hP hH hS hl hL
  obtain ⟨hx, hb, -, -, -, hown, hts, -⟩ := id X
  exact lv_ldc2 hx hb hown (hts _ hw) hd (k p l e R s m args below meth cd hp locs ls X hP hH hS hl hL)
theorem sn_forget {L2 : LL} (h : ∀ (i : Nat) (v : Value), L2[i]? = some (some v) → L[i]? = some (some v)) (hl2 : L2.length = L.length) (k : Sn G T M pc L2 st H) : Sn G T M pc L st H := by
  intro p l e R s m args below meth cd hp locs ls X hP hH hS hl hL
  refine k p l e R s m args below meth cd hp locs ls X hP hH hS (lp_mono (ad := G.2.1) hl (fun q hq => ?_)) (by rw [hl2]; exact hL)
  obtain ⟨j, v, h1, h2⟩ := (lp_mem _ _ _).mp hq
  exact (lp_mem _ _ _).mpr ⟨j, v, h j v h1, h2⟩
/-- fewer known locals, by a mask -/
def mskL : List Bool → LL → LL
  | b :: bs, v :: l => (bif b then v else none) :: mskL bs l
  | _, l => l
theorem mskL_len : ∀ (bs : List Bool) (l : LL), (mskL bs l).length = l.length
  | b :: bs, v :: l => by simp [mskL, mskL_len bs l]
  | [], l => by simp [mskL]
  | _ :: _, [] => by simp [mskL]
theorem mskL_at : ∀ (bs : List Bool) (l : LL) (i : Nat) (v : Value), (mskL bs l)[i]? = some (some v) → l[i]? = some (some v)
  | b :: bs, w :: l, 0, v, h => by
    cases b <;> simp [mskL] at h ⊢
    exact h
  | b :: bs, w :: l, i + 1, v, h => by
    simp only [mskL, List.getElem?_cons_succ] at h ⊢
    exact mskL_at bs l i v h
  | [], l, i, v, h => by simpa [mskL] using h
  | _ :: _, [], i, v, h => by simpa [mskL] using h
theorem sn_msk (bs : List Bool) {L2 : LL} (he : mskL bs L = L2) (k : Sn G T M pc L2 st H) : Sn G T M pc L st H := by
  subst he
  exact sn_forget (fun i v h => mskL_at bs L i v h) (mskL_len bs L) k
theorem sn_get {idx ci j k : Nat} {fs : List Value} {v : Value} (hd : decode M.2.1 pc = .ok (.getfield idx, 3)) (hf : FOk M.1.cls idx ci j) (hk : H[k]? = some (.inr (ci, fs))) (hv : fs[j]? = some v) (kk : Sn G T M (pc + 3) L (v :: st) H) : Sn G T M pc L (.ref k :: st) H := by
  intro p l e R s m args below meth cd hp locs ls X hP hH hS hl hL
  obtain ⟨hx, hb, -, -, -, hown, hts, hE, -⟩ := id X
  obtain ⟨C, Tf, N, ty0, hc, hj, hin, hty, hnm, hlk⟩ := hf
  have he : (cw G H)[k]? = some (G.2.1 k, .inr (ci, fs.map (cv G.2.1))) := cw_get hk
  have hv' : (fs.map (cv G.2.1))[j]? = some (cv G.2.1 v) := by rw [List.getElem?_map, hv]; rfl
  rcases hlk with hlk | ⟨host, hlk⟩
  · exact va_get (rest := List.map (cv G.2.1) st) hx hb hts hin hown hE.1 hP k he hc j hj (hts _ hlk) (fun _ h9 => h9) hv' hd (kk p l e R s m args below meth cd hp locs ls X hP hH hS hl hL)
  · exact va_getN (rest := List.map (cv G.2.1) st) hx hb hts hin hown hE.1 hP k he hc j hj (va_Nw.use (nW_on hlk) (hE.2.1 _ hlk)) (fun _ h9 => h9) hv' hd (kk p l e R s m args below meth cd hp locs ls X hP hH hS hl hL)
theorem sn_gI {idx ci j k : Nat} {v : Int32} (hd : decode M.2.1 pc = .ok (.getfield idx, 3)) (hf : FOk M.1.cls idx ci j) (hk : gI H k ci j = some v) (kk : Sn G T M (pc + 3) L (.int v :: st) H) : Sn G T M pc L (.ref k :: st) H := by
  obtain ⟨fs, h1, h2⟩ := gI_inv hk
  exact sn_get hd hf h1 h2 kk
theorem sn_gJ {idx ci j k : Nat} {v : Int64} (hd : decode M.2.1 pc = .ok (.getfield idx, 3)) (hf : FOk M.1.cls idx ci j) (hk : gJ H k ci j = some v) (kk : Sn G T M (pc + 3) L (.long v :: st) H) : Sn G T M pc L (.ref k :: st) H := by
  obtain ⟨fs, h1, h2⟩ := gJ_inv hk
  exact sn_get hd hf h1 h2 kk
theorem sn_gA {idx ci j k : Nat} {v : Nat} (hd : decode M.2.1 pc = .ok (.getfield idx, 3)) (hf : FOk M.1.cls idx ci j) (hk : gA H k ci j = some v) (kk : Sn G T M (pc + 3) L (.ref v :: st) H) : Sn G T M pc L (.ref k :: st) H := by
  obtain ⟨fs, h1, h2⟩ := gA_inv hk
  exact sn_get hd hf h1 h2 kk
theorem set_cv (fs : List Value) (ad : Nat → Nat) (j : Nat) (v : Value) : (fs.map (cv ad)).set j (cv ad v) = (fs.set j v).map (cv ad) := (List.map_set).symm
theorem sn_put {idx ci j k : Nat} {ty : FieldType} {v : Value} {H1 : Hp} (hd : decode M.2.1 pc = .ok (.putfield idx, 3)) (hf : FOk M.1.cls idx ci j) (hpu : FPu ci j ty) (hn : narrow ty (cv G.2.1 v) = cv G.2.1 v) (hfit : fits ty (cv G.2.1 v) = true) (hk : pV H k ci j v = some H1) (kk : Sn G T M (pc + 3) L st H1) : Sn G T M pc L (v :: .ref k :: st) H := by
  intro p l e R s m args below meth cd hp locs ls X hP hH hS hl hL
  obtain ⟨hx, hb, -, -, -, hown, hts, hE, hA, -, -, -, -, hinj, -⟩ := id X
  obtain ⟨C, Tf, N, ty0, hc, hj, hin, hty, hnm, hlk⟩ := hf
  obtain ⟨C', Tf', N', hc', hfin, hd2⟩ := hpu
  cases hc.symm.trans hc'
  obtain ⟨fs, h1, h2, rfl⟩ := pV_inv hk
  have he : (cw G H)[k]? = some (G.2.1 k, .inr (ci, fs.map (cv G.2.1))) := cw_get h1
  have hD : va_D (T.2.2.1 s) (cw G H) := cw_D hinj hH hA
  have hset : (cw G H).set k (G.2.1 k, .inr (ci, (fs.map (cv G.2.1)).set j (cv G.2.1 v))) = cw G (H.set k (.inr (ci, fs.set j v))) := by
    rw [set_cv]
    exact cw_set G H k (.inr (ci, fs.set j v))
  rcases hlk with hlk | ⟨host, hlk⟩
  · refine va_put (rest := List.map (cv G.2.1) st) hx hb hts hin ty0 hty hnm hown hE.1 hP hD hS k he hc j hj (hts _ hlk) (fun _ h9 => h9) hfin hd2 hn hfit (by rw [List.length_map]; exact h2) hd (fun hp1 locs1 hP1 hD1 hS1 => ?_)
    rw [hset] at hP1
    exact kk p l e R s m args below meth cd hp1 locs1 ls X hP1 (by rw [List.length_set]; exact hH) hS1 hl hL
  · refine va_putN (rest := List.map (cv G.2.1) st) hx hb hts hin ty0 hty hnm hown hE.1 hP hD hS k he hc j hj (va_Nw.use (nW_on hlk) (hE.2.1 _ hlk)) (fun _ h9 => h9) hfin hd2 hn hfit (by rw [List.length_map]; exact h2) hd (fun hp1 locs1 hP1 hD1 hS1 => ?_)
    rw [hset] at hP1
    exact kk p l e R s m args below meth cd hp1 locs1 ls X hP1 (by rw [List.length_set]; exact hH) hS1 hl hL
theorem sn_pI {idx ci j k : Nat} {v : Int32} {H1 : Hp} (hd : decode M.2.1 pc = .ok (.putfield idx, 3)) (hf : FOk M.1.cls idx ci j) (hpu : FPu ci j .int) (hk : pV H k ci j (.int v) = some H1) (kk : Sn G T M (pc + 3) L st H1) : Sn G T M pc L (.int v :: .ref k :: st) H := sn_put hd hf hpu rfl rfl hk kk
theorem sn_pJ {idx ci j k : Nat} {v : Int64} {H1 : Hp} (hd : decode M.2.1 pc = .ok (.putfield idx, 3)) (hf : FOk M.1.cls idx ci j) (hpu : FPu ci j .long) (hk : pV H k ci j (.long v) = some H1) (kk : Sn G T M (pc + 3) L st H1) : Sn G T M pc L (.long v :: .ref k :: st) H := sn_put hd hf hpu rfl rfl hk kk
theorem sn_iald {k : Nat} {i v : Int32} (hd : decode M.2.1 pc = .ok (.iaload, 1)) (hk : aI H k 0 i = some v) (kk : Sn G T M (pc + 1) L (.int v :: st) H) : Sn G T M pc L (.int i :: .ref k :: st) H := by
  intro p l e R s m args below meth cd hp locs ls X hP hH hS hl hL
  obtain ⟨hx, hb, -, -, -, hown, hts, hE, -⟩ := id X
  obtain ⟨n, f, h1, h2, rfl⟩ := aI_inv hk
  have he : (cw G H)[k]? = some (G.2.1 k, .inl (G.2.2.1 0, n, .inl f)) := cw_get h1
  exact va_iald (rest := List.map (cv G.2.1) st) hx hb hE.1 hP k 0 he rfl h2 hd (kk p l e R s m args below meth cd hp locs ls X hP hH hS hl hL)
theorem sn_zald {k : Nat} {i v : Int32} (hd : decode M.2.1 pc = .ok (.baload, 1)) (hk : aI H k 2 i = some v) (kk : Sn G T M (pc + 1) L (.int v :: st) H) : Sn G T M pc L (.int i :: .ref k :: st) H := by
  intro p l e R s m args below meth cd hp locs ls X hP hH hS hl hL
  obtain ⟨hx, hb, -, -, -, hown, hts, hE, -⟩ := id X
  obtain ⟨n, f, h1, h2, rfl⟩ := aI_inv hk
  have he : (cw G H)[k]? = some (G.2.1 k, .inl (G.2.2.1 2, n, .inl f)) := cw_get h1
  exact va_zald (rest := List.map (cv G.2.1) st) hx hb hE.1 hP k 2 he rfl h2 hd (kk p l e R s m args below meth cd hp locs ls X hP hH hS hl hL)
theorem sn_lald {k : Nat} {i : Int32} {v : Int64} (hd : decode M.2.1 pc = .ok (.laload, 1)) (hk : aJ H k i = some v) (kk : Sn G T M (pc + 1) L (.long v :: st) H) : Sn G T M pc L (.int i :: .ref k :: st) H := by
  intro p l e R s m args below meth cd hp locs ls X hP hH hS hl hL
  obtain ⟨hx, hb, -, -, -, hown, hts, hE, -⟩ := id X
  obtain ⟨n, f, h1, h2, rfl⟩ := aJ_inv hk
  have he : (cw G H)[k]? = some (G.2.1 k, .inl (G.2.2.1 1, n, .inr (.inl f))) := cw_get h1
  exact va_lald (rest := List.map (cv G.2.1) st) hx hb hE.1 hP k 1 he rfl h2 hd (kk p l e R s m args below meth cd hp locs ls X hP hH hS hl hL)
theorem sn_iast {k : Nat} {i x : Int32} {H1 : Hp} (hd : decode M.2.1 pc = .ok (.iastore, 1)) (hk : sI H k 0 i x = some H1) (kk : Sn G T M (pc + 1) L st H1) : Sn G T M pc L (.int x :: .int i :: .ref k :: st) H := by
  intro p l e R s m args below meth cd hp locs ls X hP hH hS hl hL
  obtain ⟨hx, hb, -, -, -, hown, hts, hE, hA, -, -, -, -, hinj, -⟩ := id X
  obtain ⟨n, f, h1, h2, rfl⟩ := sI_inv hk
  have he : (cw G H)[k]? = some (G.2.1 k, .inl (G.2.2.1 0, n, .inl f)) := cw_get h1
  refine va_iast (rest := List.map (cv G.2.1) st) hx hb hE.1 hP (cw_D hinj hH hA) hS k 0 he rfl h2 hd (fun hp1 locs1 hP1 hD1 hS1 => ?_)
  have hset : (cw G H).set k (G.2.1 k, .inl (G.2.2.1 0, n, .inl (upd f i.toNatClampNeg x))) = cw G (H.set k (.inl (0, n, .inl (upd f i.toNatClampNeg x)))) := cw_set G H k (.inl (0, n, .inl (upd f i.toNatClampNeg x)))
  rw [hset] at hP1
  exact kk p l e R s m args below meth cd hp1 locs1 ls X hP1 (by rw [List.length_set]; exact hH) hS1 hl hL
theorem sn_zast {k : Nat} {i x : Int32} {H1 : Hp} (hd : decode M.2.1 pc = .ok (.bastore, 1)) (hk : sI H k 2 i (vp_nar .boolean x) = some H1) (kk : Sn G T M (pc + 1) L st H1) : Sn G T M pc L (.int x :: .int i :: .ref k :: st) H := by
  intro p l e R s m args below meth cd hp locs ls X hP hH hS hl hL
  obtain ⟨hx, hb, -, -, -, hown, hts, hE, hA, -, -, -, -, hinj, -⟩ := id X
  obtain ⟨n, f, h1, h2, rfl⟩ := sI_inv hk
  have he : (cw G H)[k]? = some (G.2.1 k, .inl (G.2.2.1 2, n, .inl f)) := cw_get h1
  refine va_zast (rest := List.map (cv G.2.1) st) hx hb hE.1 hP (cw_D hinj hH hA) hS k 2 he rfl h2 hd (fun hp1 locs1 hP1 hD1 hS1 => ?_)
  have hset : (cw G H).set k (G.2.1 k, .inl (G.2.2.1 2, n, .inl (upd f i.toNatClampNeg (vp_nar .boolean x)))) = cw G (H.set k (.inl (2, n, .inl (upd f i.toNatClampNeg (vp_nar .boolean x))))) := cw_set G H k (.inl (2, n, .inl (upd f i.toNatClampNeg (vp_nar .boolean x))))
  rw [hset] at hP1
  exact kk p l e R s m args below meth cd hp1 locs1 ls X hP1 (by rw [List.length_set]; exact hH) hS1 hl hL
theorem sn_last {k : Nat} {i : Int32} {x : Int64} {H1 : Hp} (hd : decode M.2.1 pc = .ok (.lastore, 1)) (hk : sJ H k i x = some H1) (kk : Sn G T M (pc + 1) L st H1) : Sn G T M pc L (.long x :: .int i :: .ref k :: st) H := by
  intro p l e R s m args below meth cd hp locs ls X hP hH hS hl hL
  obtain ⟨hx, hb, -, -, -, hown, hts, hE, hA, -, -, -, -, hinj, -⟩ := id X
  obtain ⟨n, f, h1, h2, rfl⟩ := sJ_inv hk
  have he : (cw G H)[k]? = some (G.2.1 k, .inl (G.2.2.1 1, n, .inr (.inl f))) := cw_get h1
  refine va_last (rest := List.map (cv G.2.1) st) hx hb hE.1 hP (cw_D hinj hH hA) hS k 1 he rfl h2 hd (fun hp1 locs1 hP1 hD1 hS1 => ?_)
  have hset : (cw G H).set k (G.2.1 k, .inl (G.2.2.1 1, n, .inr (.inl (vp_updL f i.toNatClampNeg x)))) = cw G (H.set k (.inl (1, n, .inr (.inl (vp_updL f i.toNatClampNeg x))))) := cw_set G H k (.inl (1, n, .inr (.inl (vp_updL f i.toNatClampNeg x))))
  rw [hset] at hP1
  exact kk p l e R s m args below meth cd hp1 locs1 ls X hP1 (by rw [List.length_set]; exact hH) hS1 hl hL
/-- the static row -/
theorem sn_ord {idx : Nat} (hd : decode M.2.1 pc = .ok (.getstatic idx, 3)) (hw : Cond.fieldLink M.1.cls idx "SquareFolds$Gluing" "ORDERS" "[I" ∈ gW) (kk : Sn G T M (pc + 3) L (.ref 1000 :: st) H) : Sn G T M pc L st H := by
  intro p l e R s m args below meth cd hp locs ls X hP hH hS hl hL
  obtain ⟨hx, hb, -, -, -, hown, hts, hE, -⟩ := id X
  exact va_gets hx hb hE.2.2.1 hS hown (hts _ hw) (fun _ h9 => h9) hd (kk p l e R s m args below meth cd hp locs ls X hP hH hS hl hL)
theorem sn_ordlen (hd : decode M.2.1 pc = .ok (.arraylength, 1)) (kk : Sn G T M (pc + 1) L (.int 6 :: st) H) : Sn G T M pc L (.ref 1000 :: st) H := by
  intro p l e R s m args below meth cd hp locs ls X hP hH hS hl hL
  obtain ⟨hx, hb, -, -, -, hown, hts, hE, -⟩ := id X
  exact va_slen (rest := List.map (cv G.2.1) st) hx hb hE.2.2.2.1.1 hE.2.2.2.1.2.1 hE.2.2.2.1.2.2 hS hd (kk p l e R s m args below meth cd hp locs ls X hP hH hS hl hL)
theorem sn_ordld {i : Int32} (hd : decode M.2.1 pc = .ok (.iaload, 1)) (hi : vp_in i 6) (kk : Sn G T M (pc + 1) L (.int (ordf i.toNatClampNeg) :: st) H) : Sn G T M pc L (.int i :: .ref 1000 :: st) H := by
  intro p l e R s m args below meth cd hp locs ls X hP hH hS hl hL
  obtain ⟨hx, hb, -, -, -, hown, hts, hE, -⟩ := id X
  exact va_sld (rest := List.map (cv G.2.1) st) hx hb hE.2.2.2.1.1 hE.2.2.2.1.2.1 hE.2.2.2.1.2.2 hS hi hd (kk p l e R s m args below meth cd hp locs ls X hP hH hS hl hL)
/-- the script -/
theorem sn_scrlen (hd : decode M.2.1 pc = .ok (.arraylength, 1)) (kk : Sn G T M (pc + 1) L (.int (Int32.ofNat G.2.2.2.1) :: st) H) : Sn G T M pc L (.ref 1001 :: st) H := by
  intro p l e R s m args below meth cd hp locs ls X hP hH hS hl hL
  obtain ⟨hx, hb, -, -, -, hown, hts, hE, -⟩ := id X
  exact va_slen (rest := List.map (cv G.2.1) st) hx hb hE.2.2.2.2.1 hE.2.2.2.2.2.1 hE.2.2.2.2.2.2 hS hd (kk p l e R s m args below meth cd hp locs ls X hP hH hS hl hL)
theorem sn_scrld {i : Int32} (hd : decode M.2.1 pc = .ok (.iaload, 1)) (hi : vp_in i G.2.2.2.1) (kk : Sn G T M (pc + 1) L (.int (G.2.2.2.2 i.toNatClampNeg) :: st) H) : Sn G T M pc L (.int i :: .ref 1001 :: st) H := by
  intro p l e R s m args below meth cd hp locs ls X hP hH hS hl hL
  obtain ⟨hx, hb, -, -, -, hown, hts, hE, -⟩ := id X
  exact va_sld (rest := List.map (cv G.2.1) st) hx hb hE.2.2.2.2.1 hE.2.2.2.2.2.1 hE.2.2.2.2.2.2 hS hi hd (kk p l e R s m args below meth cd hp locs ls X hP hH hS hl hL)
-- switches
theorem sn_tblIn {x : Int32} {dflt lo hi off : Int} {offs : Array Int} {len tgt : Nat} (hd : decode M.2.1 pc = .ok (.tableswitch dflt lo hi offs, len)) (h1 : ¬ x.toInt < lo) (h2 : ¬ hi < x.toInt) (ho : offs[(x.toInt - lo).toNat]? = some off) (ht : (pc : Int) + off = (tgt : Int)) (k : Sn G T M tgt L st H) : Sn G T M pc L (.int x :: st) H := by
  intro p l e R s m args below meth cd hp locs ls X hP hH hS hl hL
  exact lv_tableIn (rest := List.map (cv G.2.1) st) X.1 X.2.1 hd h1 h2 ho ht (k p l e R s m args below meth cd hp locs ls X hP hH hS hl hL)
theorem sn_tblOut {x : Int32} {dflt lo hi : Int} {offs : Array Int} {len tgt : Nat} (hd : decode M.2.1 pc = .ok (.tableswitch dflt lo hi offs, len)) (h : x.toInt < lo ∨ hi < x.toInt) (ht : (pc : Int) + dflt = (tgt : Int)) (k : Sn G T M tgt L st H) : Sn G T M pc L (.int x :: st) H := by
  intro p l e R s m args below meth cd hp locs ls X hP hH hS hl hL
  exact lv_tableOut (rest := List.map (cv G.2.1) st) X.1 X.2.1 hd h ht (k p l e R s m args below meth cd hp locs ls X hP hH hS hl hL)
theorem sn_lkp {x : Int32} {dflt off : Int} {ps : Array (Int × Int)} {len tgt : Nat} (hd : decode M.2.1 pc = .ok (.lookupswitch dflt ps, len)) (hp : (ps.toList.zip (ps.toList.drop 1)).all (fun (a, next) => a.1 < next.1) = true) (ho : Op.lookupswitch.offset ps.toList dflt x.toInt = off) (ht : (pc : Int) + off = (tgt : Int)) (k : Sn G T M tgt L st H) : Sn G T M pc L (.int x :: st) H := by
  intro p l e R s m args below meth cd hp' locs ls X hP hH hS hl hL
  exact lv_lookup (rest := List.map (cv G.2.1) st) X.1 X.2.1 hd hp ho ht (k p l e R s m args below meth cd hp' locs ls X hP hH hS hl hL)
end RULES2
end
section
/-! Returns and calls of the light machine. -/
def QR (G : GG) (rv : Option Value) (H' : Hp) : Array Value → State → Outcome → State → Prop := fun _ s0 oc t => oc = .returned (rv.map (cv G.2.1)) ∧ va_P G.1 vwCl (cw G H') t.heap ∧ H'.length = 39 ∧ va_F (aA G) s0 t
def T0 (G : GG) (rv : Option Value) (H' : Hp) : Md := (0, 0, fun _ => aA G, fun _ _ => True, fun s args below => MQ below (QR G rv H') args s 0 0 (aA G))
def argL : List Value → LL
  | [] => []
  | .long x :: r => some (.long x) :: none :: argL r
  | .double x :: r => some (.double x) :: none :: argL r
  | .int x :: r => some (.int x) :: argL r
  | .float x :: r => some (.float x) :: argL r
  | .null :: r => some .null :: argL r
  | .ref x :: r => some (.ref x) :: argL r
  | .retAddr x :: r => some (.retAddr x) :: argL r
def eL (n : Nat) (av : List Value) : LL := argL av ++ List.replicate (n - (argL av).length) none
/-- what a method does: from these arguments and cells it comes back with this answer and these cells -/
def SM (G : GG) (M : Mt) (av : List Value) (H : Hp) (rv : Option Value) (H' : Hp) : Prop := Sn G (T0 G rv H') M 0 (eL M.2.2.1 av) [] H
theorem argL_len : ∀ (av : List Value) (ad : Nat → Nat), (argL av).length = (lg_sl (av.map (cv ad))).length
  | [], ad => rfl
  | v :: r, ad => by
    have h := argL_len r ad
    cases v <;> simp [argL, lg_sl, cv, Value.category] at h ⊢ <;> omega
theorem argL_in : ∀ (av : List Value) (ad : Nat → Nat) (k i : Nat) (q : Nat × Value), q ∈ lp ad i (argL av ++ List.replicate k none) → q ∈ lv_args i (av.map (cv ad))
  | [], ad, k, i, q, h => by
    obtain ⟨j, v, h1, -⟩ := (lp_mem _ _ _).mp h
    rw [argL, List.nil_append, List.getElem?_replicate] at h1
    split at h1 <;> cases h1
  | v :: r, ad, k, i, q, h => by
    cases v <;> simp only [argL, List.cons_append, lp, List.mem_cons] at h <;> simp only [List.map_cons, lv_args, cv, Value.category, List.mem_cons] <;> first
      | (rcases h with h | h
         · exact Or.inl h
         · exact Or.inr (argL_in r ad k _ q h))
theorem eL_len {n : Nat} {av : List Value} (h : (argL av).length ≤ n) : (eL n av).length = n := by
  rw [eL, List.length_append, List.length_replicate]
  omega
def wsM (M : Mt) : List Jvm.Cond := .code M.1 M.2.1 M.2.2.1 M.2.2.2.1 :: gW
def rmM (M : Mt) : Room := { frames := M.2.2.2.2.1, cells := 0, slots := 0, locals := M.2.2.2.2.2 }
def PcM (G : GG) (av : List Value) (H : Hp) : Array Value → State → Prop := va_Pc (av.map (cv G.2.1)) (fun U => Ev G (aA G) U ∧ va_P G.1 vwCl (cw G H) U.heap)
theorem SM.met (l : Launch) {G : GG} {M : Mt} {av : List Value} {H H' : Hp} {rv : Option Value} (hs : SM G M av H rv H') (hi : aInj G) (hH : H.length = 39) (hpl : plainName M.1.cls = true) (hal : (argL av).length ≤ M.2.2.1) : Met l M.1 (wsM M) (rmM M) (PcM G av H) (QR G rv H') 0 0 (aA G) := by
  refine Met.ofW (cc := M.2.1) (maxL := M.2.2.1) (ret := M.2.2.2.1) hpl rfl ?_
  intro p e s m args below meth c s₁ B hml hv
  obtain ⟨rfl, hE, hP⟩ := hv
  have hts := atoms_spec (ws := wsM M) B.pre
  have hlen : (lg_sl (av.map (cv G.2.1))).length ≤ M.2.2.1 := by rw [← argL_len]; exact hal
  have hl := lv_entry (av.map (cv G.2.1)) (n := M.2.2.1) hlen
  rw [lg_entry_eq]
  refine hs p l e (rmM M) s m _ below meth c s.heap [] _ ⟨B.exec, B.bytes, hml, B.returns, B.notSynchronized, findClass_of_methodNamed B.named, fun w hw => hts w (List.mem_cons_of_mem _ hw), hE, fun q h => h, Nat.le_refl _, Nat.le_refl _, Nat.le_refl _, Nat.le_refl _, hi, trivial⟩ hP hH va_S.rf ?_ (eL_len hal)
  exact lp_mono (ad := G.2.1) hl (fun q hq => argL_in av G.2.1 _ 0 q hq)
section CALLS
variable {G : GG} {T : Md} {M M2 : Mt} {pc : Nat} {L : LL} {st : List Value} {H H1 : Hp}
theorem sn_iret {v : Int32} {ty : FieldType} (hd : decode M.2.1 pc = .ok (.ireturn, 1)) (hr : M.2.2.2.1 = some ty) (hn : narrow ty (.int v) = .int v) : Sn G (T0 G (some (.int v)) H) M pc L [.int v] H := by
  intro p l e R s m args below meth cd hp locs ls X hP hH hS hl hL
  obtain ⟨hx, hb, -, hret, hlk, -⟩ := id X
  exact W.zret hx hb (hret.trans hr) hn (fun t ht hW => ⟨rfl, by rw [ht]; exact hP, hH, hS.F ht⟩) hS.2.2 hd hlk
theorem sn_lret {v : Int64} (hd : decode M.2.1 pc = .ok (.lreturn, 1)) (hr : M.2.2.2.1 = some .long) : Sn G (T0 G (some (.long v)) H) M pc L [.long v] H := by
  intro p l e R s m args below meth cd hp locs ls X hP hH hS hl hL
  obtain ⟨hx, hb, -, hret, hlk, -⟩ := id X
  exact W.lret hx hb (hret.trans hr) (fun t ht hW => ⟨rfl, by rw [ht]; exact hP, hH, hS.F ht⟩) hS.2.2 hd hlk
theorem sn_vret (hd : decode M.2.1 pc = .ok (.return_, 1)) (hr : M.2.2.2.1 = none) : Sn G (T0 G none H) M pc L [] H := by
  intro p l e R s m args below meth cd hp locs ls X hP hH hS hl hL
  obtain ⟨hx, hb, -, hret, hlk, -⟩ := id X
  exact W.vret hx hb (hret.trans hr) (fun t ht hW => ⟨rfl, by rw [ht]; exact hP, hH, hS.F ht⟩) hS.2.2 hd hlk
/-- a static method's words; an instance method's -/
def MSt (M : Mt) (n : Nat) : Prop := Cond.static M.1 ∈ gW ∧ Cond.initialized M.1.cls ∈ gW ∧ Cond.code M.1 M.2.1 M.2.2.1 M.2.2.2.1 ∈ gW ∧ plainName M.1.cls = true ∧ (M.1.cls ≠ "java/lang/invoke/MethodHandle" ∧ M.1.cls ≠ "java/lang/invoke/VarHandle" ∧ (parseMethodDescriptor M.1.desc).map (fun d => d.parameters.length) = some n)
def MVi (M : Mt) (n ci : Nat) : Prop := Cond.instanceMethod M.1 ∈ gW ∧ Cond.selects M.1.cls M.1 M.1 ∈ gW ∧ Cond.initialized M.1.cls ∈ gW ∧ Cond.code M.1 M.2.1 M.2.2.1 M.2.2.2.1 ∈ gW ∧ plainName M.1.cls = true ∧ (M.1.cls ≠ "java/lang/invoke/MethodHandle" ∧ M.1.cls ≠ "java/lang/invoke/VarHandle" ∧ (parseMethodDescriptor M.1.desc).map (fun d => d.parameters.length) = some n) ∧ (∃ q : vw_C, vwCl[ci]? = some q ∧ q.1 = M.1.cls)
theorem and2 {a b : Bool} (h : (a && b) = true) : a = true ∧ b = true := by
  cases a <;> cases b <;> first | exact ⟨rfl, rfl⟩ | cases h
def stOK (M : Mt) (n i1 i2 i3 : Nat) : Bool := (decide (lw_tbl[i1]? = some (.static M.1)) && goodWord (.static M.1)) && ((decide (lw_tbl[i2]? = some (.initialized M.1.cls)) && goodWord (.initialized M.1.cls)) && ((decide (lw_tbl[i3]? = some (.code M.1 M.2.1 M.2.2.1 M.2.2.2.1)) && goodWord (.code M.1 M.2.1 M.2.2.1 M.2.2.2.1)) && (decide (plainName M.1.cls = true) && decide (M.1.cls ≠ "java/lang/invoke/MethodHandle" ∧ M.1.cls ≠ "java/lang/invoke/VarHandle" ∧ (parseMethodDescriptor M.1.desc).map (fun d => d.parameters.length) = some n))))
theorem MSt.of {M : Mt} {n : Nat} (i1 i2 i3 : Nat) (h : stOK M n i1 i2 i3 = true) : MSt M n := by
  unfold stOK at h
  obtain ⟨h1, h⟩ := and2 h
  obtain ⟨h2, h⟩ := and2 h
  obtain ⟨h3, h⟩ := and2 h
  obtain ⟨h4, h5⟩ := and2 h
  exact ⟨gW_at i1 h1, gW_at i2 h2, gW_at i3 h3, of_decide_eq_true h4, of_decide_eq_true h5⟩
def viOK (M : Mt) (n ci i0 i1 i2 i3 : Nat) : Bool := (decide (lw_tbl[i0]? = some (.instanceMethod M.1)) && goodWord (.instanceMethod M.1)) && ((decide (lw_tbl[i1]? = some (.selects M.1.cls M.1 M.1)) && goodWord (.selects M.1.cls M.1 M.1)) && ((decide (lw_tbl[i2]? = some (.initialized M.1.cls)) && goodWord (.initialized M.1.cls)) && ((decide (lw_tbl[i3]? = some (.code M.1 M.2.1 M.2.2.1 M.2.2.2.1)) && goodWord (.code M.1 M.2.1 M.2.2.1 M.2.2.2.1)) && (decide (plainName M.1.cls = true) && (decide (M.1.cls ≠ "java/lang/invoke/MethodHandle" ∧ M.1.cls ≠ "java/lang/invoke/VarHandle" ∧ (parseMethodDescriptor M.1.desc).map (fun d => d.parameters.length) = some n) && decide ((vwCl[ci]?).map (fun q => q.1) = some M.1.cls))))))
theorem MVi.of {M : Mt} {n ci : Nat} (i0 i1 i2 i3 : Nat) (h : viOK M n ci i0 i1 i2 i3 = true) : MVi M n ci := by
  unfold viOK at h
  obtain ⟨h0, h⟩ := and2 h
  obtain ⟨h1, h⟩ := and2 h
  obtain ⟨h2, h⟩ := and2 h
  obtain ⟨h3, h⟩ := and2 h
  obtain ⟨h4, h⟩ := and2 h
  obtain ⟨h5, h6⟩ := and2 h
  refine ⟨gW_at i0 h0, gW_at i1 h1, gW_at i2 h2, gW_at i3 h3, of_decide_eq_true h4, of_decide_eq_true h5, ?_⟩
  have h7 := of_decide_eq_true h6
  cases hq : vwCl[ci]? with
  | none => rw [hq] at h7; cases h7
  | some q => rw [hq] at h7; exact ⟨q, rfl, Option.some.inj h7⟩
theorem gGood (M : Mt) (h : Cond.code M.1 M.2.1 M.2.2.1 M.2.2.2.1 ∈ gW) : GoodIn gW (wsM M) := by
  intro w hw
  rcases List.mem_cons.mp hw with rfl | hw
  · exact ⟨h, gW_good h⟩
  · exact ⟨hw, gW_good hw⟩
theorem PcM.blind (G : GG) (av : List Value) (H : Hp) : FrameBlind (PcM G av H) := by
  intro a U g mk h
  obtain ⟨h1, h2, h3⟩ := h
  exact ⟨h1, h2.calling, h3⟩
/-- behind a call -/
theorem sn_go {p : Program} {l : Launch} {e : Env} {R : Room} {s : State} {m : MethodId} {args : Array Value} {below : List Frame} {meth : Method} {c : Code} {hp : Heap} {locs : List Loc} {cells slots : Nat} {Q : State → Prop} {ls : Array Slot} {st0 rest : List Value} {rv : Option Value} {a : Array Value} {A0 : Nat → Prop}
    (hr : va_Run p l e R s m args below meth c hp locs cells slots 0 0 (F0 m pc ls st0) rest (QR G rv H1 a) (aA G)) (hS : va_S A0 s.heap hp locs) (hA : ∀ q, aA G q → A0 q)
    (kk : ∀ (hp1 : Heap) (locs1 : List Loc), va_P G.1 vwCl (cw G H1) hp1 → H1.length = 39 → va_S A0 s.heap hp1 locs1 → W p l e R s m args below meth c hp1 locs1 cells slots Q (F0 m (pc + 3) ls ((rv.map (cv G.2.1)).toList ++ rest))) : W p l e R s m args below meth c hp locs cells slots Q (F0 m pc ls st0) := by
  intro U hU X
  obtain ⟨v, st₀, t, U', L, h0, X', hL, e1, e2, ⟨hv, hP, hl, hz, hk⟩, stp⟩ := hr U hU X
  cases hv
  rw [h0] at hz hk
  obtain ⟨t2, a1, b1⟩ := kk U'.heap (locs ++ L) (by rw [e1]; exact hP) hl
    ⟨Nat.le_trans hS.1 (by rw [e1]; exact hz), fun q h1 h2 => by rw [e1, hk q (Nat.lt_of_lt_of_le h1 hS.1) (fun z => h2 (hA q z))]; exact hS.2.1 q h1 h2, fun q hq => by
      rcases List.mem_append.mp hq with h | h
      · exact hS.2.2 q h
      · exact hA _ (hL q h)⟩ U' rfl X'
  exact ⟨t2, stp t2 a1, b1⟩
theorem cv_sum (ad : Nat → Nat) (st : List Value) : ((st.map (cv ad)).map fun v => v.category) = st.map fun v => v.category := by
  rw [List.map_map]
  exact List.map_congr_left (fun v _ => cv_cat ad v)
theorem sn_calls {av : List Value} {stk : List Value} {rv : Option Value} {idx n : Nat} (hd : decode M.2.1 pc = .ok (.invokestatic idx, 3)) (hm : MSt M2 n) (hlk : Cond.methodLink M.1.cls idx M2.1 ∈ gW) (hn : av.length = n) (hal : Nat.ble (argL av).length M2.2.2.1 = true) (hrest : Nat.ble ((st.map fun v => v.category).sum) 8 = true) (hroom : (Nat.ble (M2.2.2.2.2.1 + 1) M.2.2.2.2.1 && Nat.ble (8 + (M2.2.2.1 + 11) + M2.2.2.2.2.2) M.2.2.2.2.2) = true) (hst : stk = av.reverse ++ st) (hs : SM G M2 av H rv H1) (kk : Sn G T M (pc + 3) L (rv.toList ++ st) H1) : Sn G T M pc L stk H := by
  intro p l e R s m args below meth cd hp locs ls X hP hH hS hl hL
  obtain ⟨hx, hb, hml, -, -, hown, hts, hE, hA, hfr, hlo, hce, hsl, hinj, -⟩ := id X
  obtain ⟨m1, m2, m3, m4, m5⟩ := hm
  rw [Bool.and_eq_true] at hroom
  have r1 := Nat.le_of_ble_eq_true hroom.1
  have r2 := Nat.le_of_ble_eq_true hroom.2
  subst hst
  refine sn_go (rest := st.map (cv G.2.1)) (va_runS (As := av.map (cv G.2.1)) (mc := 0) (ms := 0) (nL := M.2.2.1) (own := M.1.cls) ⟨hx, hb, hml, hown, hts⟩ (SM.met l hs hinj hH m4 (Nat.le_of_ble_eq_true hal)) ⟨callB_of n hts (gGood M2 m3) rfl rfl rfl (hts _ m2) (hts _ hlk) m5 ⟨Nat.le_trans r1 hfr, Nat.le_trans r2 hlo⟩, hts _ m1⟩ ⟨PcM.blind G av H, fun U hU hW => ⟨rfl, hE.go hS hU hW hA, by rw [hU]; exact hP⟩⟩ rfl (by rw [List.length_map]; exact hn) hl.1 ?_ ?_ hd ⟨hce, hsl⟩) hS hA (fun hp1 locs1 hP1 hH1 hS1 => ?_)
  · show List.map (cv G.2.1) (av.reverse ++ st) = _
    rw [List.map_append, List.map_reverse]
  · show 2 * 0 + _ ≤ 8
    rw [cv_sum, Nat.mul_zero, Nat.zero_add]
    exact Nat.le_of_ble_eq_true hrest
  · have h := kk p l e R s m args below meth cd hp1 locs1 ls X hP1 hH1 hS1 hl hL
    rw [List.map_append] at h
    cases rv <;> exact h
theorem sn_callv {av : List Value} {stk : List Value} {rv : Option Value} {idx n ci k : Nat} {fs : List Value} (hd : decode M.2.1 pc = .ok (.invokevirtual idx, 3)) (hm : MVi M2 n ci) (hlk : Cond.methodLink M.1.cls idx M2.1 ∈ gW) (hn : av.length = n) (hal : Nat.ble (argL (.ref k :: av)).length M2.2.2.1 = true) (hrest : Nat.ble ((st.map fun v => v.category).sum) 8 = true) (hroom : (Nat.ble (M2.2.2.2.2.1 + 1) M.2.2.2.2.1 && Nat.ble (8 + (M2.2.2.1 + 11) + M2.2.2.2.2.2) M.2.2.2.2.2) = true) (hst : stk = av.reverse ++ .ref k :: st) (hk : H[k]? = some (.inr (ci, fs))) (hs : SM G M2 (.ref k :: av) H rv H1) (kk : Sn G T M (pc + 3) L (rv.toList ++ st) H1) : Sn G T M pc L stk H := by
  intro p l e R s m args below meth cd hp locs ls X hP hH hS hl hL
  obtain ⟨hx, hb, hml, -, -, hown, hts, hE, hA, hfr, hlo, hce, hsl, hinj, -⟩ := id X
  obtain ⟨m0, m1, m2, m3, m4, m5, q, mq, mc⟩ := hm
  rw [Bool.and_eq_true] at hroom
  have r1 := Nat.le_of_ble_eq_true hroom.1
  have r2 := Nat.le_of_ble_eq_true hroom.2
  subst hst
  have he : (cw G H)[k]? = some (G.2.1 k, .inr (ci, fs.map (cv G.2.1))) := cw_get hk
  have hrc := va_recv hE.1 hP mq he
  rw [mc] at hrc
  refine sn_go (rest := st.map (cv G.2.1)) (va_runV (As := av.map (cv G.2.1)) (b := G.2.1 k) (C := M2.1.cls) (mc := 0) (ms := 0) (nL := M.2.2.1) (own := M.1.cls) ⟨hx, hb, hml, hown, hts⟩ (SM.met l hs hinj hH m4 (Nat.le_of_ble_eq_true hal)) ⟨callB_of n hts (gGood M2 m3) rfl rfl rfl (hts _ m2) (hts _ hlk) m5 ⟨Nat.le_trans r1 hfr, Nat.le_trans r2 hlo⟩, hts _ m0, hts _ m1⟩ ⟨PcM.blind G (.ref k :: av) H, hrc, fun U hU hW => ⟨rfl, hE.go hS hU hW hA, by rw [hU]; exact hP⟩⟩ rfl (by rw [List.length_map]; exact hn) hl.1 ?_ ?_ hd ⟨hce, hsl⟩) hS hA (fun hp1 locs1 hP1 hH1 hS1 => ?_)
  · show List.map (cv G.2.1) (av.reverse ++ .ref k :: st) = _
    rw [List.map_append, List.map_reverse]
    rfl
  · show 2 * 0 + _ ≤ 8
    rw [cv_sum, Nat.mul_zero, Nat.zero_add]
    exact Nat.le_of_ble_eq_true hrest
  · have h := kk p l e R s m args below meth cd hp1 locs1 ls X hP1 hH1 hS1 hl hL
    rw [List.map_append] at h
    cases rv <;> exact h
end CALLS
end
section
/-! Binds of the printed functions, switches, the copy. -/
def bd {α β : Type} (a : Option α) (f : α → Option β) : Option β := match a with
  | some x => f x
  | none => none
def bd2 {α β γ : Type} (a : Option (α × β)) (f : α → β → Option γ) : Option γ := match a with
  | some q => f q.1 q.2
  | none => none
def gp {β : Type} (p : Prop) [Decidable p] (x : Option β) : Option β := if p then x else none
theorem bd_some {α β : Type} (x : α) (f : α → Option β) : bd (some x) f = f x := rfl
theorem bd2_some {α β γ : Type} (x : α) (y : β) (f : α → β → Option γ) : bd2 (some (x, y)) f = f x y := rfl
theorem gp_pos {β : Type} {p : Prop} [Decidable p] {x : Option β} (h : p) : gp p x = x := if_pos h
theorem bd_inv {α β : Type} {a : Option α} {f : α → Option β} {r : β} (h : bd a f = some r) : ∃ x, a = some x ∧ f x = some r := by
  cases a with
  | none => cases h
  | some x => exact ⟨x, rfl, h⟩
theorem bd2_inv {α β γ : Type} {a : Option (α × β)} {f : α → β → Option γ} {r : γ} (h : bd2 a f = some r) : ∃ x y, a = some (x, y) ∧ f x y = some r := by
  cases a with
  | none => cases h
  | some x => exact ⟨x.1, x.2, rfl, h⟩
theorem gp_inv {β : Type} {p : Prop} [Decidable p] {x : Option β} {r : β} (h : gp p x = some r) : p ∧ x = some r := by
  unfold gp at h
  split at h
  · rename_i hp
    exact ⟨hp, h⟩
  · cases h
theorem nar_bool {v : Int32} (h : v = 0 ∨ v = 1) : narrow .boolean (.int v) = .int v := by
  rcases h with rfl | rfl <;> rfl
theorem sw_out {x : Int32} {lo hi : Int} (h : ∀ k : Int, lo ≤ k → k ≤ hi → x.toInt ≠ k) : x.toInt < lo ∨ hi < x.toInt := by
  rcases Int.lt_or_le x.toInt lo with h1 | h1
  · exact Or.inl h1
  · rcases Int.lt_or_le hi x.toInt with h2 | h2
    · exact Or.inr h2
    · exact absurd rfl (h x.toInt h1 h2)
def cpI (H : Hp) (k : Nat) (sp dp n : Int32) : Option Hp := match H[k]? with
  | some (.inl a) => match Nat.beq a.1 0, a.2.2 with
    | true, .inl f => if sp < 0 ∨ dp < 0 ∨ n < 0 ∨ a.2.1 < sp.toNatClampNeg + n.toNatClampNeg ∨ a.2.1 < dp.toNatClampNeg + n.toNatClampNeg then none else some (H.set k (.inl (0, a.2.1, .inl (va_cpy f f sp.toNatClampNeg dp.toNatClampNeg n.toNatClampNeg))))
    | _, _ => none
  | _ => none
theorem cpI_inv {H H' : Hp} {k : Nat} {sp dp n : Int32} (h : cpI H k sp dp n = some H') : ∃ N f, H[k]? = some (.inl (0, N, .inl f)) ∧ (¬ sp < 0 ∧ ¬ dp < 0 ∧ ¬ n < 0 ∧ sp.toNatClampNeg + n.toNatClampNeg ≤ N ∧ dp.toNatClampNeg + n.toNatClampNeg ≤ N) ∧ H' = H.set k (.inl (0, N, .inl (va_cpy f f sp.toNatClampNeg dp.toNatClampNeg n.toNatClampNeg))) := by
  unfold cpI at h
  split at h
  · rename_i a ha
    split at h
    · rename_i f h1 h2
      split at h
      · cases h
      · rename_i hi
        cases h
        have h1 := Nat.eq_of_beq_eq_true h1
        obtain ⟨a1, a2, a3⟩ := a
        cases h2
        cases h1
        refine ⟨_, _, ha, ⟨fun q => hi (Or.inl q), fun q => hi (Or.inr (Or.inl q)), fun q => hi (Or.inr (Or.inr (Or.inl q))), Nat.not_lt.mp (fun q => hi (Or.inr (Or.inr (Or.inr (Or.inl q))))), Nat.not_lt.mp (fun q => hi (Or.inr (Or.inr (Or.inr (Or.inr q)))))⟩, rfl⟩
    · cases h
  · cases h
theorem sn_copy {G : GG} {T : Md} {M : Mt} {pc : Nat} {L : LL} {st : List Value} {H H1 : Hp} {k idx : Nat} {sp dp n : Int32} (hd : decode M.2.1 pc = .ok (.invokestatic idx, 3)) (hlk : Cond.methodLink M.1.cls idx arraycopyName ∈ gW) (hnat : Cond.native arraycopyName ∈ gW) (hstat : Cond.static arraycopyName ∈ gW) (hini : Cond.initialized "java/lang/System" ∈ gW) (hroom : 1 ≤ M.2.2.2.2.1 ∧ (st.map fun v => v.category).sum + (nativeFrameWords "java/lang/System" "arraycopy" 5 + 11) ≤ M.2.2.2.2.2) (hc : cpI H k sp dp n = some H1) (kk : Sn G T M (pc + 3) L st H1) : Sn G T M pc L (.int n :: .int dp :: .ref k :: .int sp :: .ref k :: st) H := by
  intro p l e R s m args below meth cd hp locs ls X hP hH hS hl hL
  obtain ⟨hx, hb, hml, -, -, hown, hts, hE, hA, hfr, hlo, -, -, hinj, -⟩ := id X
  obtain ⟨N, f, h1, ⟨g1, g2, g3, g4, g5⟩, rfl⟩ := cpI_inv hc
  have he : (cw G H)[k]? = some (G.2.1 k, .inl (G.2.2.1 0, N, .inl f)) := cw_get h1
  refine va_copyi (rest := List.map (cv G.2.1) st) hx hb (hml.trans hl.1.symm) hown (hts _ hlk) (hts _ hnat) (hts _ hstat) (hts _ hini) hE.1 hP (cw_D hinj hH hA) hS k k 0 0 he he rfl rfl rfl g1 g2 g3 g4 g5 (fun _ _ => rfl) (Nat.le_trans hroom.1 hfr) (by rw [cv_sum]; exact Nat.le_trans hroom.2 hlo) hd (fun hp1 locs1 hP1 hD1 hS1 => ?_)
  have hset : (cw G H).set k (G.2.1 k, .inl (G.2.2.1 0, N, .inl (va_cpy f f sp.toNatClampNeg dp.toNatClampNeg n.toNatClampNeg))) = cw G (H.set k (.inl (0, N, .inl (va_cpy f f sp.toNatClampNeg dp.toNatClampNeg n.toNatClampNeg)))) := cw_set G H k (.inl (0, N, .inl (va_cpy f f sp.toNatClampNeg dp.toNatClampNeg n.toNatClampNeg)))
  rw [hset] at hP1
  exact kk p l e R s m args below meth cd hp1 locs1 ls X hP1 (by rw [List.length_set]; exact hH) hS1 hl hL
-- Math's own
theorem wm_max : Cond.static Lib.Math.max.name ∈ gW ∧ Cond.initialized "java/lang/Math" ∈ gW ∧ Cond.code Lib.Math.max.name Lib.Math.max.code 2 (some .int) ∈ gW := ⟨gW_at 333 (by decide +kernel), gW_at 41 (by decide +kernel), gW_at 334 (by decide +kernel)⟩
theorem wm_abs : Cond.static Lib.Math.abs.name ∈ gW ∧ Cond.initialized "java/lang/Math" ∈ gW ∧ Cond.code Lib.Math.abs.name Lib.Math.abs.code 1 (some .int) ∈ gW := ⟨gW_at 557 (by decide +kernel), gW_at 41 (by decide +kernel), gW_at 558 (by decide +kernel)⟩
theorem wm_min : Cond.static Lib.MathLoose.min_long.x ∈ gW ∧ Cond.initialized "java/lang/Math" ∈ gW ∧ Cond.code Lib.MathLoose.min_long.x Lib.MathLoose.min_long.code 4 (some .long) ∈ gW := ⟨gW_at 434 (by decide +kernel), gW_at 41 (by decide +kernel), gW_at 435 (by decide +kernel)⟩
theorem sn_mmax {G : GG} {T : Md} {M : Mt} {pc : Nat} {L : LL} {st : List Value} {H : Hp} {idx : Nat} {x y : Int32} (hd : decode M.2.1 pc = .ok (.invokestatic idx, 3)) (hlk : Cond.methodLink M.1.cls idx Lib.Math.max.name ∈ gW) (hroom : 1 ≤ M.2.2.2.2.1 ∧ 8 + 15 ≤ M.2.2.2.2.2) (hst : Nat.ble ((st.map fun v => v.category).sum) 8 = true) (kk : Sn G T M (pc + 3) L (.int (if x < y then y else x) :: st) H) : Sn G T M pc L (.int y :: .int x :: st) H := by
  intro p l e R s m args below meth cd hp locs ls X hP hH hS hl hL
  obtain ⟨hx, hb, hml, -, -, hown, hts, hE, hA, hfr, hlo, hce, hsl, hinj, -⟩ := id X
  have h8 := Nat.le_of_ble_eq_true hst
  exact va_mmax (rest := List.map (cv G.2.1) st) hx hb (hml.trans hl.1.symm) hown (hts _ hlk) (hts _ wm_max.1) (hts _ wm_max.2.1) (hts _ wm_max.2.2) (Nat.le_trans hroom.1 hfr) (by rw [cv_sum]; omega) hce hsl hd (kk p l e R s m args below meth cd hp locs ls X hP hH hS hl hL)
theorem sn_mabs {G : GG} {T : Md} {M : Mt} {pc : Nat} {L : LL} {st : List Value} {H : Hp} {idx : Nat} {x : Int32} (hd : decode M.2.1 pc = .ok (.invokestatic idx, 3)) (hlk : Cond.methodLink M.1.cls idx Lib.Math.abs.name ∈ gW) (hroom : 1 ≤ M.2.2.2.2.1 ∧ 8 + 15 ≤ M.2.2.2.2.2) (hst : Nat.ble ((st.map fun v => v.category).sum) 8 = true) (kk : Sn G T M (pc + 3) L (.int (if 0 ≤ x then x else 0 - x) :: st) H) : Sn G T M pc L (.int x :: st) H := by
  intro p l e R s m args below meth cd hp locs ls X hP hH hS hl hL
  obtain ⟨hx, hb, hml, -, -, hown, hts, hE, hA, hfr, hlo, hce, hsl, hinj, -⟩ := id X
  have h8 := Nat.le_of_ble_eq_true hst
  exact va_mabs (rest := List.map (cv G.2.1) st) hx hb (hml.trans hl.1.symm) hown (hts _ hlk) (hts _ wm_abs.1) (hts _ wm_abs.2.1) (hts _ wm_abs.2.2) (Nat.le_trans hroom.1 hfr) (by rw [cv_sum]; omega) hce hsl hd (kk p l e R s m args below meth cd hp locs ls X hP hH hS hl hL)
theorem sn_mmin {G : GG} {T : Md} {M : Mt} {pc : Nat} {L : LL} {st : List Value} {H : Hp} {idx : Nat} {x y : Int64} (hd : decode M.2.1 pc = .ok (.invokestatic idx, 3)) (hlk : Cond.methodLink M.1.cls idx Lib.MathLoose.min_long.x ∈ gW) (hroom : 1 ≤ M.2.2.2.2.1 ∧ 8 + 15 ≤ M.2.2.2.2.2) (hst : Nat.ble ((st.map fun v => v.category).sum) 8 = true) (kk : Sn G T M (pc + 3) L (.long (if y < x then y else x) :: st) H) : Sn G T M pc L (.long y :: .long x :: st) H := by
  intro p l e R s m args below meth cd hp locs ls X hP hH hS hl hL
  obtain ⟨hx, hb, hml, -, -, hown, hts, hE, hA, hfr, hlo, hce, hsl, hinj, -⟩ := id X
  have h8 := Nat.le_of_ble_eq_true hst
  exact va_mmin_long (rest := List.map (cv G.2.1) st) hx hb (hml.trans hl.1.symm) hown (hts _ hlk) (hts _ wm_min.1) (hts _ wm_min.2.1) (hts _ wm_min.2.2) (Nat.le_trans hroom.1 hfr) (by rw [cv_sum]; omega) hce hsl hd (kk p l e R s m args below meth cd hp locs ls X hP hH hS hl hL)
end
section
abbrev mX3_add : Mt := (yX3_add, cX3_add, 2, some .boolean, 0, 0)
abbrev mX9_write : Mt := (yX9_write, cX9_write, 2, some .int, 1, 21)
abbrev mX10_in : Mt := (yX10_in, cX10_in, 6, some .boolean, 0, 0)
abbrev mX10_write : Mt := (yX10_write, cX10_write, 2, some .int, 1, 25)
abbrev mX9_wipe : Mt := (yX9_wipe, cX9_wipe, 2, some .int, 0, 0)
abbrev mX10_wipe : Mt := (yX10_wipe, cX10_wipe, 2, some .int, 0, 0)
abbrev mX3_figure : Mt := (yX3_figure, cX3_figure, 2, some .int, 0, 0)
abbrev mX6_isIn : Mt := (yX6_isIn, cX6_isIn, 2, some .boolean, 0, 0)
abbrev mX3_firstFault : Mt := (yX3_firstFault, cX3_firstFault, 6, some .int, 1, 21)
abbrev mX9_fault : Mt := (yX9_fault, cX9_fault, 1, some .int, 2, 46)
abbrev mX10_canStand : Mt := (yX10_canStand, cX10_canStand, 6, some .boolean, 1, 25)
abbrev mX10_fault : Mt := (yX10_fault, cX10_fault, 2, some .int, 2, 50)
abbrev mX6_put : Mt := (yX6_put, cX6_put, 3, some .int, 0, 0)
abbrev mX3_rowFrom : Mt := (yX3_rowFrom, cX3_rowFrom, 5, some .int, 1, 22)
abbrev mX2_become : Mt := (yX2_become, cX2_become, 4, none, 0, 0)
abbrev mX8_clear : Mt := (yX8_clear, cX8_clear, 1, none, 0, 0)
abbrev mX2_all : Mt := (yX2_all, cX2_all, 1, some .int, 0, 0)
abbrev mX6_at : Mt := (yX6_at, cX6_at, 2, some .int, 0, 0)
abbrev mX2_joined : Mt := (yX2_joined, cX2_joined, 3, some .int, 0, 0)
abbrev mX2_reach : Mt := (yX2_reach, cX2_reach, 8, some .int, 1, 22)
abbrev mX2_pieces : Mt := (yX2_pieces, cX2_pieces, 5, some .int, 2, 49)
abbrev mX9_surface : Mt := (yX9_surface, cX9_surface, 2, some .int, 3, 73)
abbrev mX10_has : Mt := (yX10_has, cX10_has, 2, some .boolean, 0, 0)
abbrev mX10_right : Mt := (yX10_right, cX10_right, 2, some .int, 0, 0)
abbrev mX10_up : Mt := (yX10_up, cX10_up, 2, some .int, 0, 0)
abbrev mX10_pieceOf : Mt := (yX10_pieceOf, cX10_pieceOf, 5, some .int, 1, 21)
abbrev mX10_isLeast : Mt := (yX10_isLeast, cX10_isLeast, 2, some .boolean, 0, 0)
abbrev mX10_pieces : Mt := (yX10_pieces, cX10_pieces, 3, some .int, 2, 45)
abbrev mX10_surface : Mt := (yX10_surface, cX10_surface, 3, some .int, 3, 71)
abbrev mX6_then : Mt := (yX6_then, cX6_then, 5, some .int, 1, 22)
abbrev mX6_back : Mt := (yX6_back, cX6_back, 4, some .int, 1, 22)
abbrev mX2_left : Mt := (yX2_left, cX2_left, 1, some .int, 2, 45)
abbrev mX2_down : Mt := (yX2_down, cX2_down, 1, some .int, 2, 45)
abbrev mX2_turnedRound : Mt := (yX2_turnedRound, cX2_turnedRound, 2, some .int, 3, 65)
abbrev mX6_ring : Mt := (yX6_ring, cX6_ring, 6, some .int, 1, 21)
abbrev mX6_rings : Mt := (yX6_rings, cX6_rings, 5, some .int, 2, 46)
abbrev mX2_corners : Mt := (yX2_corners, cX2_corners, 1, some .int, 4, 86)
abbrev mX2_ordinaryCorners : Mt := (yX2_ordinaryCorners, cX2_ordinaryCorners, 4, some .int, 4, 86)
abbrev mJ6_bitCount_0f7a4 : Mt := (yJ6_bitCount_0f7a4, cJ6_bitCount_0f7a4, 1, some .int, 0, 0)
abbrev mX2_mostTurns : Mt := (yX2_mostTurns, cX2_mostTurns, 4, some .int, 4, 86)
abbrev mX2_rows : Mt := (yX2_rows, cX2_rows, 1, some .int, 3, 70)
abbrev mX2_isContinued : Mt := (yX2_isContinued, cX2_isContinued, 4, some .boolean, 1, 21)
abbrev mX2_band : Mt := (yX2_band, cX2_band, 9, some .int, 4, 86)
abbrev mX2_bands : Mt := (yX2_bands, cX2_bands, 4, some .int, 5, 114)
abbrev mX6_staying : Mt := (yX6_staying, cX6_staying, 3, some .int, 1, 22)
abbrev mX0_find : Mt := (yX0_find, cX0_find, 4, some .int, 0, 0)
abbrev mX0_placeOf : Mt := (yX0_placeOf, cX0_placeOf, 4, some .int, 1, 23)
abbrev mX0_at : Mt := (yX0_at, cX0_at, 2, some .long, 0, 0)
abbrev mX9_groupSize : Mt := (yX9_groupSize, cX9_groupSize, 3, some .int, 2, 46)
abbrev mX9_about : Mt := (yX9_about, cX9_about, 2, some .int, 6, 137)
abbrev mX10_left : Mt := (yX10_left, cX10_left, 4, some .int, 0, 0)
abbrev mX10_down : Mt := (yX10_down, cX10_down, 4, some .int, 0, 0)
abbrev mX10_around : Mt := (yX10_around, cX10_around, 2, some .int, 1, 23)
abbrev mX10_beginsCorner : Mt := (yX10_beginsCorner, cX10_beginsCorner, 5, some .boolean, 2, 44)
abbrev mX10_corners : Mt := (yX10_corners, cX10_corners, 4, some .int, 3, 68)
abbrev mX10_allCorners : Mt := (yX10_allCorners, cX10_allCorners, 1, some .int, 4, 91)
abbrev mX10_ordinary : Mt := (yX10_ordinary, cX10_ordinary, 3, some .int, 2, 44)
abbrev mX10_turns : Mt := (yX10_turns, cX10_turns, 4, some .int, 2, 44)
abbrev mX10_greatest : Mt := (yX10_greatest, cX10_greatest, 3, some .int, 3, 67)
abbrev mX10_rowOf : Mt := (yX10_rowOf, cX10_rowOf, 5, some .int, 1, 21)
abbrev mX10_rows : Mt := (yX10_rows, cX10_rows, 3, some .int, 2, 45)
abbrev mX10_isContinued : Mt := (yX10_isContinued, cX10_isContinued, 5, some .boolean, 2, 45)
abbrev mX10_bandOf : Mt := (yX10_bandOf, cX10_bandOf, 7, some .int, 3, 69)
abbrev mX10_bands : Mt := (yX10_bands, cX10_bands, 3, some .int, 4, 95)
abbrev mX10_power : Mt := (yX10_power, cX10_power, 4, some .int, 0, 0)
abbrev mX10_moved : Mt := (yX10_moved, cX10_moved, 3, some .int, 1, 23)
abbrev mX10_groupSize : Mt := (yX10_groupSize, cX10_groupSize, 9, some .int, 2, 45)
abbrev mX10_about : Mt := (yX10_about, cX10_about, 2, some .int, 5, 117)
abbrev mX2_has : Mt := (yX2_has, cX2_has, 2, some .boolean, 0, 0)
abbrev mX2_moved : Mt := (yX2_moved, cX2_moved, 3, some .int, 3, 65)
abbrev mX9_go : Mt := (yX9_go, cX9_go, 3, some .int, 4, 87)
abbrev mX10_isSquare : Mt := (yX10_isSquare, cX10_isSquare, 2, some .boolean, 1, 25)
abbrev mX10_go : Mt := (yX10_go, cX10_go, 3, some .int, 2, 46)
abbrev mX9_isWay : Mt := (yX9_isWay, cX9_isWay, 3, some .boolean, 0, 0)
abbrev mX2_walked : Mt := (yX2_walked, cX2_walked, 6, some .int, 4, 87)
abbrev mX9_walk : Mt := (yX9_walk, cX9_walk, 3, some .int, 5, 112)
abbrev mX10_isWay : Mt := (yX10_isWay, cX10_isWay, 3, some .boolean, 1, 25)
abbrev mX10_end : Mt := (yX10_end, cX10_end, 5, some .int, 2, 45)
abbrev mX10_walk : Mt := (yX10_walk, cX10_walk, 3, some .int, 3, 69)
abbrev mX2_piece : Mt := (yX2_piece, cX2_piece, 2, some .int, 2, 49)
abbrev mX2_holes : Mt := (yX2_holes, cX2_holes, 8, some .int, 4, 86)
abbrev mX9_square : Mt := (yX9_square, cX9_square, 3, some .int, 5, 114)
abbrev mX10_ones : Mt := (yX10_ones, cX10_ones, 3, some .int, 0, 0)
abbrev mX10_holes : Mt := (yX10_holes, cX10_holes, 3, some .int, 4, 91)
abbrev mX10_square : Mt := (yX10_square, cX10_square, 3, some .int, 5, 113)
abbrev mX2_figures : Mt := (yX2_figures, cX2_figures, 9, some .long, 1, 21)
abbrev mX2_nameFrom : Mt := (yX2_nameFrom, cX2_nameFrom, 10, some .long, 2, 49)
abbrev mX2_leastName : Mt := (yX2_leastName, cX2_leastName, 6, some .long, 3, 78)
abbrev mX9_name : Mt := (yX9_name, cX9_name, 3, some .long, 4, 103)
abbrev mX10_meet : Mt := (yX10_meet, cX10_meet, 2, none, 0, 0)
abbrev mX10_nameFrom : Mt := (yX10_nameFrom, cX10_nameFrom, 6, some .long, 1, 21)
abbrev mX10_leastName : Mt := (yX10_leastName, cX10_leastName, 9, some .long, 2, 46)
abbrev mX10_name : Mt := (yX10_name, cX10_name, 3, some .long, 3, 74)
abbrev mX5_add : Mt := (yX5_add, cX5_add, 3, none, 1, 60)
abbrev mX2_doShear : Mt := (yX2_doShear, cX2_doShear, 2, none, 3, 65)
abbrev mX9_shear : Mt := (yX9_shear, cX9_shear, 2, some .int, 5, 106)
abbrev mX10_note : Mt := (yX10_note, cX10_note, 2, none, 0, 0)
abbrev mX10_layAside : Mt := (yX10_layAside, cX10_layAside, 3, none, 0, 0)
abbrev mX10_side : Mt := (yX10_side, cX10_side, 3, none, 1, 22)
abbrev mX10_upward : Mt := (yX10_upward, cX10_upward, 3, none, 1, 22)
abbrev mX10_quarter : Mt := (yX10_quarter, cX10_quarter, 3, none, 1, 22)
abbrev mX10_shearOn : Mt := (yX10_shearOn, cX10_shearOn, 3, none, 2, 44)
abbrev mX10_shear : Mt := (yX10_shear, cX10_shear, 2, some .int, 5, 111)
abbrev mX2_doTrade : Mt := (yX2_doTrade, cX2_doTrade, 5, none, 2, 46)
abbrev mX9_trade : Mt := (yX9_trade, cX9_trade, 3, some .int, 3, 82)
abbrev mX10_other : Mt := (yX10_other, cX10_other, 3, some .int, 0, 0)
abbrev mX10_change : Mt := (yX10_change, cX10_change, 6, none, 1, 22)
abbrev mX10_trade : Mt := (yX10_trade, cX10_trade, 3, some .int, 2, 47)
abbrev mX5_rightAt : Mt := (yX5_rightAt, cX5_rightAt, 2, some .int, 0, 0)
abbrev mX5_upAt : Mt := (yX5_upAt, cX5_upAt, 2, some .int, 0, 0)
abbrev mX9_undo : Mt := (yX9_undo, cX9_undo, 1, some .int, 1, 23)
abbrev mX10_undo : Mt := (yX10_undo, cX10_undo, 2, some .int, 0, 0)
abbrev mX2_becomeNamed : Mt := (yX2_becomeNamed, cX2_becomeNamed, 9, none, 1, 23)
abbrev mX4_placeSheared : Mt := (yX4_placeSheared, cX4_placeSheared, 4, some .int, 4, 103)
abbrev mX4_gather : Mt := (yX4_gather, cX4_gather, 5, none, 5, 126)
abbrev mX4_ringFrom : Mt := (yX4_ringFrom, cX4_ringFrom, 4, some .int, 0, 0)
abbrev mX4_cusps : Mt := (yX4_cusps, cX4_cusps, 3, some .int, 1, 23)
abbrev mX4_widest : Mt := (yX4_widest, cX4_widest, 3, some .int, 1, 23)
abbrev mX9_orbit : Mt := (yX9_orbit, cX9_orbit, 3, some .int, 6, 150)
abbrev mX10_placeOf : Mt := (yX10_placeOf, cX10_placeOf, 5, some .int, 0, 0)
abbrev mX10_enter : Mt := (yX10_enter, cX10_enter, 4, some .int, 1, 24)
abbrev mX10_tellBack : Mt := (yX10_tellBack, cX10_tellBack, 7, none, 0, 0)
abbrev mX10_findOrbit : Mt := (yX10_findOrbit, cX10_findOrbit, 4, none, 3, 74)
abbrev mX10_ring : Mt := (yX10_ring, cX10_ring, 5, some .int, 0, 0)
abbrev mX10_orbit : Mt := (yX10_orbit, cX10_orbit, 7, some .int, 4, 97)
abbrev mX9_alike : Mt := (yX9_alike, cX9_alike, 6, some .int, 6, 150)
abbrev mX10_alike : Mt := (yX10_alike, cX10_alike, 6, some .int, 4, 97)
abbrev mX9_withoutLast : Mt := (yX9_withoutLast, cX9_withoutLast, 6, some .long, 0, 0)
abbrev mX2_didShear : Mt := (yX2_didShear, cX2_didShear, 2, some .boolean, 4, 86)
abbrev mX2_didTrade : Mt := (yX2_didTrade, cX2_didTrade, 3, some .boolean, 3, 70)
abbrev mX2_tryTold : Mt := (yX2_tryTold, cX2_tryTold, 5, some .boolean, 5, 113)
abbrev mX9_judge : Mt := (yX9_judge, cX9_judge, 6, some .int, 6, 137)
abbrev mX10_tenThousands : Mt := (yX10_tenThousands, cX10_tenThousands, 4, some .long, 0, 0)
abbrev mX10_lay : Mt := (yX10_lay, cX10_lay, 3, none, 0, 0)
abbrev mX10_judged : Mt := (yX10_judged, cX10_judged, 5, some .boolean, 5, 113)
abbrev mX10_judge : Mt := (yX10_judge, cX10_judge, 6, some .int, 6, 137)
abbrev mX2_orders : Mt := (yX2_orders, cX2_orders, 1, some .int, 0, 0)
abbrev mX2_moreInAllOrders : Mt := (yX2_moreInAllOrders, cX2_moreInAllOrders, 7, some .int, 3, 73)
abbrev mX1_measure : Mt := (yX1_measure, cX1_measure, 6, some .int, 0, 0)
abbrev mX1_become : Mt := (yX1_become, cX1_become, 4, none, 1, 25)
abbrev mX1_told : Mt := (yX1_told, cX1_told, 2, some .int, 0, 0)
abbrev mX9_share : Mt := (yX9_share, cX9_share, 3, some .int, 4, 99)
abbrev mX10_hanging : Mt := (yX10_hanging, cX10_hanging, 9, some .int, 1, 21)
abbrev mX10_fallen : Mt := (yX10_fallen, cX10_fallen, 6, some .int, 2, 49)
abbrev mX10_squareAt : Mt := (yX10_squareAt, cX10_squareAt, 2, some .int, 1, 23)
abbrev mX10_isOrder : Mt := (yX10_isOrder, cX10_isOrder, 4, some .boolean, 2, 44)
abbrev mX10_divisor : Mt := (yX10_divisor, cX10_divisor, 5, some .int, 0, 0)
abbrev mX10_fraction : Mt := (yX10_fraction, cX10_fraction, 4, some .int, 1, 24)
abbrev mX10_share : Mt := (yX10_share, cX10_share, 9, some .int, 3, 74)
abbrev mX7_add : Mt := (yX7_add, cX7_add, 3, some .boolean, 0, 0)
abbrev mX9_see : Mt := (yX9_see, cX9_see, 3, some .int, 1, 22)
abbrev mX10_see : Mt := (yX10_see, cX10_see, 3, some .int, 2, 47)
abbrev mX9_unsee : Mt := (yX9_unsee, cX9_unsee, 2, some .int, 0, 0)
abbrev mX10_unsee : Mt := (yX10_unsee, cX10_unsee, 2, some .int, 0, 0)
abbrev mX7_wayAt : Mt := (yX7_wayAt, cX7_wayAt, 2, some .int, 0, 0)
abbrev mX7_cameBack : Mt := (yX7_cameBack, cX7_cameBack, 2, some .boolean, 0, 0)
abbrev mX9_allSeenFrom : Mt := (yX9_allSeenFrom, cX9_allSeenFrom, 4, some .boolean, 5, 112)
abbrev mX9_which : Mt := (yX9_which, cX9_which, 3, some .int, 6, 135)
abbrev mX10_which : Mt := (yX10_which, cX10_which, 5, some .int, 3, 69)
abbrev mX2_casesOfOpen : Mt := (yX2_casesOfOpen, cX2_casesOfOpen, 5, some .int, 1, 21)
abbrev mX2_casesInOnePiece : Mt := (yX2_casesInOnePiece, cX2_casesInOnePiece, 5, some .int, 2, 49)
abbrev mX2_casesInAll : Mt := (yX2_casesInAll, cX2_casesInAll, 3, some .int, 0, 0)
abbrev mX9_opens : Mt := (yX9_opens, cX9_opens, 3, some .int, 3, 73)
abbrev mX10_opens : Mt := (yX10_opens, cX10_opens, 8, some .int, 3, 74)
abbrev mX9_seed : Mt := (yX9_seed, cX9_seed, 5, some .long, 0, 0)
abbrev mX10_seed : Mt := (yX10_seed, cX10_seed, 5, some .long, 0, 0)
abbrev mX2_leftBy : Mt := (yX2_leftBy, cX2_leftBy, 3, some .int, 0, 0)
abbrev mX2_doDrawn : Mt := (yX2_doDrawn, cX2_doDrawn, 6, none, 4, 86)
abbrev mX9_drawn : Mt := (yX9_drawn, cX9_drawn, 4, some .int, 6, 137)
abbrev mX10_drawn : Mt := (yX10_drawn, cX10_drawn, 8, some .int, 5, 117)
abbrev mX8_has : Mt := (yX8_has, cX8_has, 1, some .boolean, 0, 0)
abbrev mX8_put : Mt := (yX8_put, cX8_put, 4, none, 1, 20)
abbrev mX9_keep : Mt := (yX9_keep, cX9_keep, 2, some .int, 2, 43)
abbrev mX10_keep : Mt := (yX10_keep, cX10_keep, 3, some .int, 1, 25)
abbrev mX8_isKept : Mt := (yX8_isKept, cX8_isKept, 2, some .boolean, 1, 21)
abbrev mX8_rightAt : Mt := (yX8_rightAt, cX8_rightAt, 2, some .int, 1, 20)
abbrev mX8_upAt : Mt := (yX8_upAt, cX8_upAt, 2, some .int, 1, 20)
abbrev mX9_again : Mt := (yX9_again, cX9_again, 2, some .int, 2, 42)
abbrev mX10_again : Mt := (yX10_again, cX10_again, 3, some .int, 1, 25)
theorem msX3_add : MVi mX3_add 1 3 := MVi.of 221 222 30 223 (by decide +kernel)
theorem msX9_write : MVi mX9_write 1 8 := MVi.of 217 218 29 219 (by decide +kernel)
theorem msX10_in : MSt mX10_in 3 := MSt.of 743 38 744 (by decide +kernel)
theorem msX10_write : MVi mX10_write 1 9 := MVi.of 738 739 38 740 (by decide +kernel)
theorem msX9_wipe : MVi mX9_wipe 0 8 := MVi.of 225 226 29 227 (by decide +kernel)
theorem msX10_wipe : MVi mX10_wipe 0 9 := MVi.of 746 747 38 748 (by decide +kernel)
theorem msX3_figure : MVi mX3_figure 1 3 := MVi.of 237 238 30 239 (by decide +kernel)
theorem msX6_isIn : MSt mX6_isIn 2 := MSt.of 241 39 242 (by decide +kernel)
theorem msX3_firstFault : MVi mX3_firstFault 0 3 := MVi.of 233 234 30 235 (by decide +kernel)
theorem msX9_fault : MVi mX9_fault 0 8 := MVi.of 229 230 29 231 (by decide +kernel)
theorem msX10_canStand : MVi mX10_canStand 1 9 := MVi.of 755 9 38 756 (by decide +kernel)
theorem msX10_fault : MVi mX10_fault 0 9 := MVi.of 750 751 38 752 (by decide +kernel)
theorem msX6_put : MSt mX6_put 3 := MSt.of 253 39 254 (by decide +kernel)
theorem msX3_rowFrom : MVi mX3_rowFrom 2 3 := MVi.of 249 250 30 251 (by decide +kernel)
theorem msX2_become : MVi mX2_become 3 2 := MVi.of 256 257 31 258 (by decide +kernel)
theorem msX8_clear : MVi mX8_clear 0 7 := MVi.of 260 261 33 262 (by decide +kernel)
theorem msX2_all : MVi mX2_all 0 2 := MVi.of 264 265 31 266 (by decide +kernel)
theorem msX6_at : MSt mX6_at 2 := MSt.of 277 39 278 (by decide +kernel)
theorem msX2_joined : MSt mX2_joined 3 := MSt.of 280 31 281 (by decide +kernel)
theorem msX2_reach : MVi mX2_reach 3 2 := MVi.of 273 274 31 275 (by decide +kernel)
theorem msX2_pieces : MVi mX2_pieces 1 2 := MVi.of 268 269 31 270 (by decide +kernel)
theorem msX9_surface : MVi mX9_surface 0 8 := MVi.of 244 245 29 246 (by decide +kernel)
theorem msX10_has : MSt mX10_has 2 := MSt.of 770 38 771 (by decide +kernel)
theorem msX10_right : MSt mX10_right 2 := MSt.of 773 38 774 (by decide +kernel)
theorem msX10_up : MSt mX10_up 2 := MSt.of 776 38 777 (by decide +kernel)
theorem msX10_pieceOf : MSt mX10_pieceOf 2 := MSt.of 767 38 768 (by decide +kernel)
theorem msX10_isLeast : MSt mX10_isLeast 2 := MSt.of 779 38 780 (by decide +kernel)
theorem msX10_pieces : MSt mX10_pieces 1 := MSt.of 764 38 765 (by decide +kernel)
theorem msX10_surface : MVi mX10_surface 0 9 := MVi.of 759 760 38 761 (by decide +kernel)
theorem msX6_then : MSt mX6_then 3 := MSt.of 295 39 296 (by decide +kernel)
theorem msX6_back : MSt mX6_back 2 := MSt.of 304 39 305 (by decide +kernel)
theorem msX2_left : MVi mX2_left 0 2 := MVi.of 300 301 31 302 (by decide +kernel)
theorem msX2_down : MVi mX2_down 0 2 := MVi.of 307 308 31 309 (by decide +kernel)
theorem msX2_turnedRound : MVi mX2_turnedRound 0 2 := MVi.of 291 292 31 293 (by decide +kernel)
theorem msX6_ring : MSt mX6_ring 3 := MSt.of 315 39 316 (by decide +kernel)
theorem msX6_rings : MSt mX6_rings 2 := MSt.of 311 39 312 (by decide +kernel)
theorem msX2_corners : MVi mX2_corners 0 2 := MVi.of 287 288 31 289 (by decide +kernel)
theorem msX2_ordinaryCorners : MVi mX2_ordinaryCorners 0 2 := MVi.of 318 319 31 320 (by decide +kernel)
theorem msJ6_bitCount_0f7a4 : MSt mJ6_bitCount_0f7a4 1 := MSt.of 327 40 328 (by decide +kernel)
theorem msX2_mostTurns : MVi mX2_mostTurns 0 2 := MVi.of 322 323 31 324 (by decide +kernel)
theorem msX2_rows : MVi mX2_rows 0 2 := MVi.of 336 337 31 338 (by decide +kernel)
theorem msX2_isContinued : MVi mX2_isContinued 2 2 := MVi.of 349 0 31 350 (by decide +kernel)
theorem msX2_band : MVi mX2_band 1 2 := MVi.of 344 345 31 346 (by decide +kernel)
theorem msX2_bands : MVi mX2_bands 0 2 := MVi.of 340 341 31 342 (by decide +kernel)
theorem msX6_staying : MSt mX6_staying 1 := MSt.of 356 39 357 (by decide +kernel)
theorem msX0_find : MVi mX0_find 1 0 := MVi.of 363 364 36 365 (by decide +kernel)
theorem msX0_placeOf : MVi mX0_placeOf 1 0 := MVi.of 359 360 36 361 (by decide +kernel)
theorem msX0_at : MVi mX0_at 1 0 := MVi.of 367 368 36 369 (by decide +kernel)
theorem msX9_groupSize : MVi mX9_groupSize 0 8 := MVi.of 353 1 29 354 (by decide +kernel)
theorem msX9_about : MVi mX9_about 1 8 := MVi.of 283 284 29 285 (by decide +kernel)
theorem msX10_left : MSt mX10_left 2 := MSt.of 798 38 799 (by decide +kernel)
theorem msX10_down : MSt mX10_down 2 := MSt.of 801 38 802 (by decide +kernel)
theorem msX10_around : MSt mX10_around 2 := MSt.of 795 38 796 (by decide +kernel)
theorem msX10_beginsCorner : MSt mX10_beginsCorner 2 := MSt.of 792 38 793 (by decide +kernel)
theorem msX10_corners : MSt mX10_corners 2 := MSt.of 789 38 790 (by decide +kernel)
theorem msX10_allCorners : MSt mX10_allCorners 1 := MSt.of 786 38 787 (by decide +kernel)
theorem msX10_ordinary : MSt mX10_ordinary 1 := MSt.of 804 38 805 (by decide +kernel)
theorem msX10_turns : MSt mX10_turns 2 := MSt.of 810 38 811 (by decide +kernel)
theorem msX10_greatest : MSt mX10_greatest 1 := MSt.of 807 38 808 (by decide +kernel)
theorem msX10_rowOf : MSt mX10_rowOf 2 := MSt.of 816 38 817 (by decide +kernel)
theorem msX10_rows : MSt mX10_rows 1 := MSt.of 813 38 814 (by decide +kernel)
theorem msX10_isContinued : MSt mX10_isContinued 2 := MSt.of 825 38 826 (by decide +kernel)
theorem msX10_bandOf : MSt mX10_bandOf 2 := MSt.of 822 38 823 (by decide +kernel)
theorem msX10_bands : MSt mX10_bands 1 := MSt.of 819 38 820 (by decide +kernel)
theorem msX10_power : MSt mX10_power 2 := MSt.of 832 38 833 (by decide +kernel)
theorem msX10_moved : MSt mX10_moved 3 := MSt.of 835 38 836 (by decide +kernel)
theorem msX10_groupSize : MVi mX10_groupSize 0 9 := MVi.of 829 10 38 830 (by decide +kernel)
theorem msX10_about : MVi mX10_about 1 9 := MVi.of 782 783 38 784 (by decide +kernel)
theorem msX2_has : MVi mX2_has 1 2 := MVi.of 376 377 31 378 (by decide +kernel)
theorem msX2_moved : MVi mX2_moved 2 2 := MVi.of 380 381 31 382 (by decide +kernel)
theorem msX9_go : MVi mX9_go 2 8 := MVi.of 372 373 29 374 (by decide +kernel)
theorem msX10_isSquare : MVi mX10_isSquare 1 9 := MVi.of 843 11 38 844 (by decide +kernel)
theorem msX10_go : MVi mX10_go 2 9 := MVi.of 838 839 38 840 (by decide +kernel)
theorem msX9_isWay : MSt mX9_isWay 1 := MSt.of 388 29 389 (by decide +kernel)
theorem msX2_walked : MVi mX2_walked 2 2 := MVi.of 391 392 31 393 (by decide +kernel)
theorem msX9_walk : MVi mX9_walk 2 8 := MVi.of 384 385 29 386 (by decide +kernel)
theorem msX10_isWay : MSt mX10_isWay 1 := MSt.of 851 38 852 (by decide +kernel)
theorem msX10_end : MSt mX10_end 3 := MSt.of 855 38 856 (by decide +kernel)
theorem msX10_walk : MVi mX10_walk 2 9 := MVi.of 847 848 38 849 (by decide +kernel)
theorem msX2_piece : MVi mX2_piece 1 2 := MVi.of 400 401 31 402 (by decide +kernel)
theorem msX2_holes : MVi mX2_holes 1 2 := MVi.of 410 411 31 412 (by decide +kernel)
theorem msX9_square : MVi mX9_square 2 8 := MVi.of 396 397 29 398 (by decide +kernel)
theorem msX10_ones : MSt mX10_ones 1 := MSt.of 865 38 866 (by decide +kernel)
theorem msX10_holes : MSt mX10_holes 2 := MSt.of 862 38 863 (by decide +kernel)
theorem msX10_square : MVi mX10_square 2 9 := MVi.of 858 859 38 860 (by decide +kernel)
theorem msX2_figures : MSt mX2_figures 5 := MSt.of 425 31 426 (by decide +kernel)
theorem msX2_nameFrom : MVi mX2_nameFrom 1 2 := MVi.of 420 421 31 422 (by decide +kernel)
theorem msX2_leastName : MVi mX2_leastName 1 2 := MVi.of 429 430 31 431 (by decide +kernel)
theorem msX9_name : MVi mX9_name 2 8 := MVi.of 415 416 29 417 (by decide +kernel)
theorem msX10_meet : MVi mX10_meet 1 9 := MVi.of 879 13 38 880 (by decide +kernel)
theorem msX10_nameFrom : MVi mX10_nameFrom 2 9 := MVi.of 875 12 38 876 (by decide +kernel)
theorem msX10_leastName : MVi mX10_leastName 2 9 := MVi.of 884 14 38 885 (by decide +kernel)
theorem msX10_name : MVi mX10_name 2 9 := MVi.of 868 869 38 870 (by decide +kernel)
theorem msX5_add : MVi mX5_add 2 5 := MVi.of 442 443 32 444 (by decide +kernel)
theorem msX2_doShear : MVi mX2_doShear 1 2 := MVi.of 449 450 31 451 (by decide +kernel)
theorem msX9_shear : MVi mX9_shear 1 8 := MVi.of 438 439 29 440 (by decide +kernel)
theorem msX10_note : MVi mX10_note 0 9 := MVi.of 893 15 38 894 (by decide +kernel)
theorem msX10_layAside : MVi mX10_layAside 1 9 := MVi.of 905 18 38 906 (by decide +kernel)
theorem msX10_side : MVi mX10_side 1 9 := MVi.of 901 17 38 902 (by decide +kernel)
theorem msX10_upward : MVi mX10_upward 1 9 := MVi.of 909 19 38 910 (by decide +kernel)
theorem msX10_quarter : MVi mX10_quarter 1 9 := MVi.of 913 20 38 914 (by decide +kernel)
theorem msX10_shearOn : MVi mX10_shearOn 2 9 := MVi.of 897 16 38 898 (by decide +kernel)
theorem msX10_shear : MVi mX10_shear 1 9 := MVi.of 887 888 38 889 (by decide +kernel)
theorem msX2_doTrade : MVi mX2_doTrade 2 2 := MVi.of 458 459 31 460 (by decide +kernel)
theorem msX9_trade : MVi mX9_trade 2 8 := MVi.of 454 455 29 456 (by decide +kernel)
theorem msX10_other : MSt mX10_other 3 := MSt.of 924 38 925 (by decide +kernel)
theorem msX10_change : MVi mX10_change 3 9 := MVi.of 921 21 38 922 (by decide +kernel)
theorem msX10_trade : MVi mX10_trade 2 9 := MVi.of 916 917 38 918 (by decide +kernel)
theorem msX5_rightAt : MVi mX5_rightAt 1 5 := MVi.of 466 467 32 468 (by decide +kernel)
theorem msX5_upAt : MVi mX5_upAt 1 5 := MVi.of 470 471 32 472 (by decide +kernel)
theorem msX9_undo : MVi mX9_undo 0 8 := MVi.of 462 463 29 464 (by decide +kernel)
theorem msX10_undo : MVi mX10_undo 0 9 := MVi.of 927 928 38 929 (by decide +kernel)
theorem msX2_becomeNamed : MVi mX2_becomeNamed 2 2 := MVi.of 489 490 31 491 (by decide +kernel)
theorem msX4_placeSheared : MVi mX4_placeSheared 3 4 := MVi.of 485 2 35 486 (by decide +kernel)
theorem msX4_gather : MVi mX4_gather 2 4 := MVi.of 478 479 35 480 (by decide +kernel)
theorem msX4_ringFrom : MVi mX4_ringFrom 1 4 := MVi.of 500 3 35 501 (by decide +kernel)
theorem msX4_cusps : MVi mX4_cusps 0 4 := MVi.of 495 496 35 497 (by decide +kernel)
theorem msX4_widest : MVi mX4_widest 0 4 := MVi.of 503 504 35 505 (by decide +kernel)
theorem msX9_orbit : MVi mX9_orbit 2 8 := MVi.of 474 475 29 476 (by decide +kernel)
theorem msX10_placeOf : MVi mX10_placeOf 1 9 := MVi.of 944 24 38 945 (by decide +kernel)
theorem msX10_enter : MVi mX10_enter 1 9 := MVi.of 940 23 38 941 (by decide +kernel)
theorem msX10_tellBack : MVi mX10_tellBack 2 9 := MVi.of 948 25 38 949 (by decide +kernel)
theorem msX10_findOrbit : MVi mX10_findOrbit 1 9 := MVi.of 936 22 38 937 (by decide +kernel)
theorem msX10_ring : MVi mX10_ring 1 9 := MVi.of 952 26 38 953 (by decide +kernel)
theorem msX10_orbit : MVi mX10_orbit 2 9 := MVi.of 931 932 38 933 (by decide +kernel)
theorem msX9_alike : MVi mX9_alike 3 8 := MVi.of 508 509 29 510 (by decide +kernel)
theorem msX10_alike : MVi mX10_alike 3 9 := MVi.of 955 956 38 957 (by decide +kernel)
theorem msX9_withoutLast : MSt mX9_withoutLast 2 := MSt.of 517 29 518 (by decide +kernel)
theorem msX2_didShear : MVi mX2_didShear 1 2 := MVi.of 526 4 31 527 (by decide +kernel)
theorem msX2_didTrade : MVi mX2_didTrade 2 2 := MVi.of 531 5 31 532 (by decide +kernel)
theorem msX2_tryTold : MVi mX2_tryTold 1 2 := MVi.of 521 522 31 523 (by decide +kernel)
theorem msX9_judge : MVi mX9_judge 2 8 := MVi.of 513 514 29 515 (by decide +kernel)
theorem msX10_tenThousands : MSt mX10_tenThousands 1 := MSt.of 963 38 964 (by decide +kernel)
theorem msX10_lay : MSt mX10_lay 2 := MSt.of 967 38 968 (by decide +kernel)
theorem msX10_judged : MVi mX10_judged 4 9 := MVi.of 971 27 38 972 (by decide +kernel)
theorem msX10_judge : MVi mX10_judge 2 9 := MVi.of 959 960 38 961 (by decide +kernel)
theorem msX2_orders : MSt mX2_orders 1 := MSt.of 547 31 548 (by decide +kernel)
theorem msX2_moreInAllOrders : MVi mX2_moreInAllOrders 1 2 := MVi.of 542 543 31 544 (by decide +kernel)
theorem msX1_measure : MSt mX1_measure 2 := MSt.of 560 37 561 (by decide +kernel)
theorem msX1_become : MVi mX1_become 2 1 := MVi.of 553 554 37 555 (by decide +kernel)
theorem msX1_told : MVi mX1_told 1 1 := MVi.of 563 564 37 565 (by decide +kernel)
theorem msX9_share : MVi mX9_share 2 8 := MVi.of 538 539 29 540 (by decide +kernel)
theorem msX10_hanging : MSt mX10_hanging 4 := MSt.of 981 38 982 (by decide +kernel)
theorem msX10_fallen : MSt mX10_fallen 3 := MSt.of 978 38 979 (by decide +kernel)
theorem msX10_squareAt : MSt mX10_squareAt 2 := MSt.of 987 38 988 (by decide +kernel)
theorem msX10_isOrder : MSt mX10_isOrder 2 := MSt.of 984 38 985 (by decide +kernel)
theorem msX10_divisor : MSt mX10_divisor 2 := MSt.of 993 38 994 (by decide +kernel)
theorem msX10_fraction : MSt mX10_fraction 3 := MSt.of 990 38 991 (by decide +kernel)
theorem msX10_share : MVi mX10_share 2 9 := MVi.of 974 975 38 976 (by decide +kernel)
theorem msX7_add : MVi mX7_add 2 6 := MVi.of 571 572 34 573 (by decide +kernel)
theorem msX9_see : MVi mX9_see 2 8 := MVi.of 567 568 29 569 (by decide +kernel)
theorem msX10_see : MVi mX10_see 2 9 := MVi.of 996 997 38 998 (by decide +kernel)
theorem msX9_unsee : MVi mX9_unsee 0 8 := MVi.of 575 576 29 577 (by decide +kernel)
theorem msX10_unsee : MVi mX10_unsee 0 9 := MVi.of 1000 1001 38 1002 (by decide +kernel)
theorem msX7_wayAt : MVi mX7_wayAt 1 6 := MVi.of 587 588 34 589 (by decide +kernel)
theorem msX7_cameBack : MVi mX7_cameBack 1 6 := MVi.of 591 592 34 593 (by decide +kernel)
theorem msX9_allSeenFrom : MVi mX9_allSeenFrom 1 8 := MVi.of 584 6 29 585 (by decide +kernel)
theorem msX9_which : MVi mX9_which 0 8 := MVi.of 579 580 29 581 (by decide +kernel)
theorem msX10_which : MVi mX10_which 0 9 := MVi.of 1004 1005 38 1006 (by decide +kernel)
theorem msX2_casesOfOpen : MVi mX2_casesOfOpen 2 2 := MVi.of 604 7 31 605 (by decide +kernel)
theorem msX2_casesInOnePiece : MVi mX2_casesInOnePiece 1 2 := MVi.of 599 600 31 601 (by decide +kernel)
theorem msX2_casesInAll : MVi mX2_casesInAll 0 2 := MVi.of 607 608 31 609 (by decide +kernel)
theorem msX9_opens : MVi mX9_opens 2 8 := MVi.of 595 596 29 597 (by decide +kernel)
theorem msX10_opens : MVi mX10_opens 2 9 := MVi.of 1008 1009 38 1010 (by decide +kernel)
theorem msX9_seed : MVi mX9_seed 1 8 := MVi.of 611 612 29 613 (by decide +kernel)
theorem msX10_seed : MVi mX10_seed 1 9 := MVi.of 1012 1013 38 1014 (by decide +kernel)
theorem msX2_leftBy : MVi mX2_leftBy 1 2 := MVi.of 628 8 31 629 (by decide +kernel)
theorem msX2_doDrawn : MVi mX2_doDrawn 1 2 := MVi.of 621 622 31 623 (by decide +kernel)
theorem msX9_drawn : MVi mX9_drawn 1 8 := MVi.of 615 616 29 617 (by decide +kernel)
theorem msX10_drawn : MVi mX10_drawn 1 9 := MVi.of 1016 1017 38 1018 (by decide +kernel)
theorem msX8_has : MSt mX8_has 1 := MSt.of 636 33 637 (by decide +kernel)
theorem msX8_put : MVi mX8_put 3 7 := MVi.of 639 640 33 641 (by decide +kernel)
theorem msX9_keep : MVi mX9_keep 1 8 := MVi.of 632 633 29 634 (by decide +kernel)
theorem msX10_keep : MVi mX10_keep 1 9 := MVi.of 1023 1024 38 1025 (by decide +kernel)
theorem msX8_isKept : MVi mX8_isKept 1 7 := MVi.of 648 649 33 650 (by decide +kernel)
theorem msX8_rightAt : MVi mX8_rightAt 1 7 := MVi.of 653 654 33 655 (by decide +kernel)
theorem msX8_upAt : MVi mX8_upAt 1 7 := MVi.of 657 658 33 659 (by decide +kernel)
theorem msX9_again : MVi mX9_again 1 8 := MVi.of 644 645 29 646 (by decide +kernel)
theorem msX10_again : MVi mX10_again 1 9 := MVi.of 1027 1028 38 1029 (by decide +kernel)
theorem mlX9_72 : Cond.methodLink RX9 72 yX3_add ∈ gW := gW_at 220 (by decide +kernel)
theorem mlX9_80 : Cond.methodLink RX9 80 yX3_firstFault ∈ gW := gW_at 232 (by decide +kernel)
theorem mlX9_84 : Cond.methodLink RX9 84 yX3_figure ∈ gW := gW_at 247 (by decide +kernel)
theorem mlX9_88 : Cond.methodLink RX9 88 yX3_rowFrom ∈ gW := gW_at 248 (by decide +kernel)
theorem mlX9_92 : Cond.methodLink RX9 92 yX2_become ∈ gW := gW_at 255 (by decide +kernel)
theorem mlX9_99 : Cond.methodLink RX9 99 yX8_clear ∈ gW := gW_at 259 (by decide +kernel)
theorem mlX9_102 : Cond.methodLink RX9 102 yX2_all ∈ gW := gW_at 263 (by decide +kernel)
theorem mlX9_105 : Cond.methodLink RX9 105 yX2_pieces ∈ gW := gW_at 267 (by decide +kernel)
theorem mlX9_111 : Cond.methodLink RX9 111 yX2_corners ∈ gW := gW_at 286 (by decide +kernel)
theorem mlX9_114 : Cond.methodLink RX9 114 yX2_ordinaryCorners ∈ gW := gW_at 317 (by decide +kernel)
theorem mlX9_117 : Cond.methodLink RX9 117 yX2_mostTurns ∈ gW := gW_at 321 (by decide +kernel)
theorem mlX9_120 : Cond.methodLink RX9 120 yX2_rows ∈ gW := gW_at 335 (by decide +kernel)
theorem mlX9_123 : Cond.methodLink RX9 123 yX2_bands ∈ gW := gW_at 339 (by decide +kernel)
theorem mlX9_126 : Cond.methodLink RX9 126 yX9_groupSize ∈ gW := gW_at 351 (by decide +kernel)
theorem mlX9_130 : Cond.methodLink RX9 130 yX2_has ∈ gW := gW_at 375 (by decide +kernel)
theorem mlX9_133 : Cond.methodLink RX9 133 yX2_moved ∈ gW := gW_at 379 (by decide +kernel)
theorem mlX9_136 : Cond.methodLink RX9 136 yX9_isWay ∈ gW := gW_at 387 (by decide +kernel)
theorem mlX9_139 : Cond.methodLink RX9 139 yX2_walked ∈ gW := gW_at 390 (by decide +kernel)
theorem mlX9_142 : Cond.methodLink RX9 142 yX2_piece ∈ gW := gW_at 399 (by decide +kernel)
theorem mlX9_145 : Cond.methodLink RX9 145 yX2_turnedRound ∈ gW := gW_at 404 (by decide +kernel)
theorem mlX9_148 : Cond.methodLink RX9 148 yX6_at ∈ gW := gW_at 405 (by decide +kernel)
theorem mlX9_153 : Cond.methodLink RX9 153 yX6_ring ∈ gW := gW_at 406 (by decide +kernel)
theorem mlX9_157 : Cond.methodLink RX9 157 yJ6_bitCount_0f7a4 ∈ gW := gW_at 407 (by decide +kernel)
theorem mlX9_165 : Cond.methodLink RX9 165 yX2_band ∈ gW := gW_at 408 (by decide +kernel)
theorem mlX9_168 : Cond.methodLink RX9 168 yX2_holes ∈ gW := gW_at 409 (by decide +kernel)
theorem mlX9_173 : Cond.methodLink RX9 173 yX2_nameFrom ∈ gW := gW_at 419 (by decide +kernel)
theorem mlX9_177 : Cond.methodLink RX9 177 yX2_leastName ∈ gW := gW_at 428 (by decide +kernel)
theorem mlX9_185 : Cond.methodLink RX9 185 yX5_add ∈ gW := gW_at 441 (by decide +kernel)
theorem mlX9_188 : Cond.methodLink RX9 188 yX2_doShear ∈ gW := gW_at 448 (by decide +kernel)
theorem mlX9_192 : Cond.methodLink RX9 192 yX2_doTrade ∈ gW := gW_at 457 (by decide +kernel)
theorem mlX9_195 : Cond.methodLink RX9 195 yX5_rightAt ∈ gW := gW_at 465 (by decide +kernel)
theorem mlX9_198 : Cond.methodLink RX9 198 yX5_upAt ∈ gW := gW_at 469 (by decide +kernel)
theorem mlX9_201 : Cond.methodLink RX9 201 yX4_gather ∈ gW := gW_at 477 (by decide +kernel)
theorem mlX9_209 : Cond.methodLink RX9 209 yX4_cusps ∈ gW := gW_at 494 (by decide +kernel)
theorem mlX9_212 : Cond.methodLink RX9 212 yX4_widest ∈ gW := gW_at 502 (by decide +kernel)
theorem mlX9_215 : Cond.methodLink RX9 215 yX0_find ∈ gW := gW_at 511 (by decide +kernel)
theorem mlX9_219 : Cond.methodLink RX9 219 yX9_withoutLast ∈ gW := gW_at 516 (by decide +kernel)
theorem mlX9_225 : Cond.methodLink RX9 225 yX2_tryTold ∈ gW := gW_at 520 (by decide +kernel)
theorem mlX9_228 : Cond.methodLink RX9 228 yX2_moreInAllOrders ∈ gW := gW_at 541 (by decide +kernel)
theorem mlX9_231 : Cond.methodLink RX9 231 yX2_orders ∈ gW := gW_at 551 (by decide +kernel)
theorem mlX9_234 : Cond.methodLink RX9 234 yX1_become ∈ gW := gW_at 552 (by decide +kernel)
theorem mlX9_236 : Cond.methodLink RX9 236 yX1_told ∈ gW := gW_at 562 (by decide +kernel)
theorem mlX9_240 : Cond.methodLink RX9 240 yX7_add ∈ gW := gW_at 570 (by decide +kernel)
theorem mlX9_243 : Cond.methodLink RX9 243 yX9_allSeenFrom ∈ gW := gW_at 582 (by decide +kernel)
theorem mlX9_246 : Cond.methodLink RX9 246 yX2_casesInOnePiece ∈ gW := gW_at 598 (by decide +kernel)
theorem mlX9_249 : Cond.methodLink RX9 249 yX2_casesInAll ∈ gW := gW_at 606 (by decide +kernel)
theorem mlX9_256 : Cond.methodLink RX9 256 yX2_doDrawn ∈ gW := gW_at 620 (by decide +kernel)
theorem mlX9_260 : Cond.methodLink RX9 260 yX8_has ∈ gW := gW_at 635 (by decide +kernel)
theorem mlX9_261 : Cond.methodLink RX9 261 yX8_put ∈ gW := gW_at 638 (by decide +kernel)
theorem mlX9_264 : Cond.methodLink RX9 264 yX8_isKept ∈ gW := gW_at 647 (by decide +kernel)
theorem mlX9_267 : Cond.methodLink RX9 267 yX8_rightAt ∈ gW := gW_at 652 (by decide +kernel)
theorem mlX9_268 : Cond.methodLink RX9 268 yX8_upAt ∈ gW := gW_at 656 (by decide +kernel)
theorem mlX9_269 : Cond.methodLink RX9 269 yX7_wayAt ∈ gW := gW_at 586 (by decide +kernel)
theorem mlX9_272 : Cond.methodLink RX9 272 yX7_cameBack ∈ gW := gW_at 590 (by decide +kernel)
theorem mlX9_275 : Cond.methodLink RX9 275 yX6_staying ∈ gW := gW_at 355 (by decide +kernel)
theorem mlX9_278 : Cond.methodLink RX9 278 yX0_placeOf ∈ gW := gW_at 358 (by decide +kernel)
theorem mlX9_281 : Cond.methodLink RX9 281 yX0_at ∈ gW := gW_at 366 (by decide +kernel)
theorem mlX9_283 : Cond.methodLink RX9 283 yX6_then ∈ gW := gW_at 370 (by decide +kernel)
theorem mlX0_17 : Cond.methodLink RX0 17 yX0_find ∈ gW := gW_at 362 (by decide +kernel)
theorem mlX1_16 : Cond.methodLink RX1 16 Lib.Math.abs.name ∈ gW := gW_at 556 (by decide +kernel)
theorem mlX1_22 : Cond.methodLink RX1 22 yX1_measure ∈ gW := gW_at 559 (by decide +kernel)
theorem mlX2_21 : Cond.methodLink RX2 21 yX6_back ∈ gW := gW_at 303 (by decide +kernel)
theorem mlX2_27 : Cond.methodLink RX2 27 yX6_at ∈ gW := gW_at 276 (by decide +kernel)
theorem mlX2_30 : Cond.methodLink RX2 30 yX2_left ∈ gW := gW_at 299 (by decide +kernel)
theorem mlX2_34 : Cond.methodLink RX2 34 yX2_down ∈ gW := gW_at 306 (by decide +kernel)
theorem mlX2_37 : Cond.methodLink RX2 37 yX2_moved ∈ gW := gW_at 394 (by decide +kernel)
theorem mlX2_40 : Cond.methodLink RX2 40 yX6_isIn ∈ gW := gW_at 271 (by decide +kernel)
theorem mlX2_44 : Cond.methodLink RX2 44 yX2_joined ∈ gW := gW_at 279 (by decide +kernel)
theorem mlX2_48 : Cond.methodLink RX2 48 yX2_all ∈ gW := gW_at 403 (by decide +kernel)
theorem mlX2_51 : Cond.methodLink RX2 51 yX2_reach ∈ gW := gW_at 272 (by decide +kernel)
theorem mlX2_54 : Cond.methodLink RX2 54 yX6_then ∈ gW := gW_at 294 (by decide +kernel)
theorem mlX2_57 : Cond.methodLink RX2 57 yX2_turnedRound ∈ gW := gW_at 290 (by decide +kernel)
theorem mlX2_60 : Cond.methodLink RX2 60 yX6_rings ∈ gW := gW_at 310 (by decide +kernel)
theorem mlX2_63 : Cond.methodLink RX2 63 yX6_ring ∈ gW := gW_at 325 (by decide +kernel)
theorem mlX2_66 : Cond.methodLink RX2 66 yJ6_bitCount_0f7a4 ∈ gW := gW_at 326 (by decide +kernel)
theorem mlX2_72 : Cond.methodLink RX2 72 Lib.Math.max.name ∈ gW := gW_at 332 (by decide +kernel)
theorem mlX2_77 : Cond.methodLink RX2 77 yX2_piece ∈ gW := gW_at 413 (by decide +kernel)
theorem mlX2_80 : Cond.methodLink RX2 80 yX2_isContinued ∈ gW := gW_at 347 (by decide +kernel)
theorem mlX2_83 : Cond.methodLink RX2 83 yX2_band ∈ gW := gW_at 343 (by decide +kernel)
theorem mlX2_86 : Cond.methodLink RX2 86 yX6_put ∈ gW := gW_at 423 (by decide +kernel)
theorem mlX2_89 : Cond.methodLink RX2 89 yX2_figures ∈ gW := gW_at 424 (by decide +kernel)
theorem mlX2_95 : Cond.methodLink RX2 95 yX2_nameFrom ∈ gW := gW_at 432 (by decide +kernel)
theorem mlX2_99 : Cond.methodLink RX2 99 Lib.MathLoose.min_long.x ∈ gW := gW_at 433 (by decide +kernel)
theorem mlX2_103 : Cond.methodLink RX2 103 yX2_become ∈ gW := gW_at 452 (by decide +kernel)
theorem mlX2_109 : Cond.methodLink RX2 109 yX2_doShear ∈ gW := gW_at 528 (by decide +kernel)
theorem mlX2_115 : Cond.methodLink RX2 115 yX2_leftBy ∈ gW := gW_at 626 (by decide +kernel)
theorem mlX2_121 : Cond.methodLink RX2 121 yX2_doTrade ∈ gW := gW_at 534 (by decide +kernel)
theorem mlX2_125 : Cond.methodLink RX2 125 yX2_didShear ∈ gW := gW_at 524 (by decide +kernel)
theorem mlX2_129 : Cond.methodLink RX2 129 yX2_didTrade ∈ gW := gW_at 529 (by decide +kernel)
theorem mlX2_132 : Cond.methodLink RX2 132 yX2_has ∈ gW := gW_at 533 (by decide +kernel)
theorem mlX2_135 : Cond.methodLink RX2 135 yX2_ordinaryCorners ∈ gW := gW_at 535 (by decide +kernel)
theorem mlX2_138 : Cond.methodLink RX2 138 yX2_holes ∈ gW := gW_at 536 (by decide +kernel)
theorem mlX2_145 : Cond.methodLink RX2 145 yX2_pieces ∈ gW := gW_at 545 (by decide +kernel)
theorem mlX2_148 : Cond.methodLink RX2 148 yX2_orders ∈ gW := gW_at 546 (by decide +kernel)
theorem mlX2_151 : Cond.methodLink RX2 151 yX2_casesOfOpen ∈ gW := gW_at 602 (by decide +kernel)
theorem mlX3_19 : Cond.methodLink RX3 19 yX3_figure ∈ gW := gW_at 236 (by decide +kernel)
theorem mlX3_23 : Cond.methodLink RX3 23 yX6_put ∈ gW := gW_at 252 (by decide +kernel)
theorem mlX3_29 : Cond.methodLink RX3 29 yX6_isIn ∈ gW := gW_at 240 (by decide +kernel)
theorem mlX4_29 : Cond.methodLink RX4 29 yX0_find ∈ gW := gW_at 481 (by decide +kernel)
theorem mlX4_37 : Cond.methodLink RX4 37 yX0_placeOf ∈ gW := gW_at 482 (by decide +kernel)
theorem mlX4_40 : Cond.methodLink RX4 40 yX4_placeSheared ∈ gW := gW_at 483 (by decide +kernel)
theorem mlX4_44 : Cond.methodLink RX4 44 yX0_at ∈ gW := gW_at 487 (by decide +kernel)
theorem mlX4_48 : Cond.methodLink RX4 48 yX2_becomeNamed ∈ gW := gW_at 488 (by decide +kernel)
theorem mlX4_52 : Cond.methodLink RX4 52 yX2_doShear ∈ gW := gW_at 492 (by decide +kernel)
theorem mlX4_56 : Cond.methodLink RX4 56 yX2_leastName ∈ gW := gW_at 493 (by decide +kernel)
theorem mlX4_59 : Cond.methodLink RX4 59 yX4_ringFrom ∈ gW := gW_at 498 (by decide +kernel)
theorem mlX4_63 : Cond.methodLink RX4 63 Lib.Math.max.name ∈ gW := gW_at 506 (by decide +kernel)
theorem mlX5_20 : Cond.methodLink RX5 20 arraycopyName ∈ gW := gW_at 445 (by decide +kernel)
theorem mlX6_7 : Cond.methodLink RX6 7 yX6_put ∈ gW := gW_at 298 (by decide +kernel)
theorem mlX6_13 : Cond.methodLink RX6 13 yX6_at ∈ gW := gW_at 297 (by decide +kernel)
theorem mlX6_17 : Cond.methodLink RX6 17 yX6_isIn ∈ gW := gW_at 313 (by decide +kernel)
theorem mlX6_21 : Cond.methodLink RX6 21 yX6_ring ∈ gW := gW_at 314 (by decide +kernel)
theorem mlX8_20 : Cond.methodLink RX8 20 yX8_has ∈ gW := gW_at 642 (by decide +kernel)
theorem mlX8_24 : Cond.methodLink RX8 24 yX6_isIn ∈ gW := gW_at 651 (by decide +kernel)
theorem mlX10_60 : Cond.methodLink RX10 60 yX10_divisor ∈ gW := gW_at 992 (by decide +kernel)
theorem mlX10_64 : Cond.methodLink RX10 64 yX10_right ∈ gW := gW_at 772 (by decide +kernel)
theorem mlX10_68 : Cond.methodLink RX10 68 yX10_left ∈ gW := gW_at 797 (by decide +kernel)
theorem mlX10_71 : Cond.methodLink RX10 71 yX10_up ∈ gW := gW_at 775 (by decide +kernel)
theorem mlX10_74 : Cond.methodLink RX10 74 yX10_down ∈ gW := gW_at 800 (by decide +kernel)
theorem mlX10_77 : Cond.methodLink RX10 77 yX10_around ∈ gW := gW_at 794 (by decide +kernel)
theorem mlX10_80 : Cond.methodLink RX10 80 yX10_has ∈ gW := gW_at 769 (by decide +kernel)
theorem mlX10_84 : Cond.methodLink RX10 84 yX10_rowOf ∈ gW := gW_at 815 (by decide +kernel)
theorem mlX10_87 : Cond.methodLink RX10 87 yX10_isContinued ∈ gW := gW_at 824 (by decide +kernel)
theorem mlX10_91 : Cond.methodLink RX10 91 yX10_pieceOf ∈ gW := gW_at 766 (by decide +kernel)
theorem mlX10_94 : Cond.methodLink RX10 94 yX10_isLeast ∈ gW := gW_at 778 (by decide +kernel)
theorem mlX10_97 : Cond.methodLink RX10 97 yX10_bandOf ∈ gW := gW_at 821 (by decide +kernel)
theorem mlX10_100 : Cond.methodLink RX10 100 yX10_beginsCorner ∈ gW := gW_at 791 (by decide +kernel)
theorem mlX10_103 : Cond.methodLink RX10 103 yX10_corners ∈ gW := gW_at 788 (by decide +kernel)
theorem mlX10_106 : Cond.methodLink RX10 106 yX10_ones ∈ gW := gW_at 864 (by decide +kernel)
theorem mlX10_110 : Cond.methodLink RX10 110 yX10_layAside ∈ gW := gW_at 903 (by decide +kernel)
theorem mlX10_114 : Cond.methodLink RX10 114 yX10_other ∈ gW := gW_at 923 (by decide +kernel)
theorem mlX10_118 : Cond.methodLink RX10 118 yX10_side ∈ gW := gW_at 899 (by decide +kernel)
theorem mlX10_121 : Cond.methodLink RX10 121 yX10_upward ∈ gW := gW_at 907 (by decide +kernel)
theorem mlX10_124 : Cond.methodLink RX10 124 yX10_quarter ∈ gW := gW_at 911 (by decide +kernel)
theorem mlX10_127 : Cond.methodLink RX10 127 yX10_in ∈ gW := gW_at 742 (by decide +kernel)
theorem mlX10_139 : Cond.methodLink RX10 139 yX10_canStand ∈ gW := gW_at 753 (by decide +kernel)
theorem mlX10_143 : Cond.methodLink RX10 143 yX10_fault ∈ gW := gW_at 762 (by decide +kernel)
theorem mlX10_150 : Cond.methodLink RX10 150 yX10_pieces ∈ gW := gW_at 763 (by decide +kernel)
theorem mlX10_154 : Cond.methodLink RX10 154 yX10_power ∈ gW := gW_at 831 (by decide +kernel)
theorem mlX10_157 : Cond.methodLink RX10 157 yX10_moved ∈ gW := gW_at 834 (by decide +kernel)
theorem mlX10_161 : Cond.methodLink RX10 161 yX10_turns ∈ gW := gW_at 809 (by decide +kernel)
theorem mlX10_164 : Cond.methodLink RX10 164 yX10_allCorners ∈ gW := gW_at 785 (by decide +kernel)
theorem mlX10_167 : Cond.methodLink RX10 167 yX10_ordinary ∈ gW := gW_at 803 (by decide +kernel)
theorem mlX10_170 : Cond.methodLink RX10 170 yX10_greatest ∈ gW := gW_at 806 (by decide +kernel)
theorem mlX10_173 : Cond.methodLink RX10 173 yX10_rows ∈ gW := gW_at 812 (by decide +kernel)
theorem mlX10_176 : Cond.methodLink RX10 176 yX10_bands ∈ gW := gW_at 818 (by decide +kernel)
theorem mlX10_179 : Cond.methodLink RX10 179 yX10_groupSize ∈ gW := gW_at 827 (by decide +kernel)
theorem mlX10_185 : Cond.methodLink RX10 185 yX10_isSquare ∈ gW := gW_at 841 (by decide +kernel)
theorem mlX10_192 : Cond.methodLink RX10 192 yX10_isWay ∈ gW := gW_at 850 (by decide +kernel)
theorem mlX10_195 : Cond.methodLink RX10 195 yX10_end ∈ gW := gW_at 854 (by decide +kernel)
theorem mlX10_198 : Cond.methodLink RX10 198 yX10_holes ∈ gW := gW_at 861 (by decide +kernel)
theorem mlX10_204 : Cond.methodLink RX10 204 yX10_meet ∈ gW := gW_at 877 (by decide +kernel)
theorem mlX10_210 : Cond.methodLink RX10 210 yX10_nameFrom ∈ gW := gW_at 873 (by decide +kernel)
theorem mlX10_218 : Cond.methodLink RX10 218 yX10_leastName ∈ gW := gW_at 882 (by decide +kernel)
theorem mlX10_226 : Cond.methodLink RX10 226 yX10_note ∈ gW := gW_at 891 (by decide +kernel)
theorem mlX10_229 : Cond.methodLink RX10 229 yX10_shearOn ∈ gW := gW_at 895 (by decide +kernel)
theorem mlX10_233 : Cond.methodLink RX10 233 yX10_change ∈ gW := gW_at 919 (by decide +kernel)
theorem mlX10_240 : Cond.methodLink RX10 240 yX10_placeOf ∈ gW := gW_at 942 (by decide +kernel)
theorem mlX10_244 : Cond.methodLink RX10 244 yX10_enter ∈ gW := gW_at 938 (by decide +kernel)
theorem mlX10_247 : Cond.methodLink RX10 247 yX10_tellBack ∈ gW := gW_at 946 (by decide +kernel)
theorem mlX10_251 : Cond.methodLink RX10 251 yX10_findOrbit ∈ gW := gW_at 934 (by decide +kernel)
theorem mlX10_254 : Cond.methodLink RX10 254 yX10_ring ∈ gW := gW_at 950 (by decide +kernel)
theorem mlX10_259 : Cond.methodLink RX10 259 yX10_tenThousands ∈ gW := gW_at 962 (by decide +kernel)
theorem mlX10_263 : Cond.methodLink RX10 263 yX10_lay ∈ gW := gW_at 966 (by decide +kernel)
theorem mlX10_267 : Cond.methodLink RX10 267 yX10_judged ∈ gW := gW_at 969 (by decide +kernel)
theorem mlX10_271 : Cond.methodLink RX10 271 yX10_hanging ∈ gW := gW_at 980 (by decide +kernel)
theorem mlX10_275 : Cond.methodLink RX10 275 yX10_squareAt ∈ gW := gW_at 986 (by decide +kernel)
theorem mlX10_278 : Cond.methodLink RX10 278 yX10_fallen ∈ gW := gW_at 977 (by decide +kernel)
theorem mlX10_281 : Cond.methodLink RX10 281 yX10_isOrder ∈ gW := gW_at 983 (by decide +kernel)
theorem mlX10_284 : Cond.methodLink RX10 284 yX10_fraction ∈ gW := gW_at 989 (by decide +kernel)
theorem uwX0 : ∀ w ∈ u_ws RX0 TX0 2, w ∈ gW := by decide +kernel
theorem uwX1 : ∀ w ∈ u_ws RX1 TX1 2, w ∈ gW := by decide +kernel
theorem uwX2 : ∀ w ∈ u_ws RX2 TX2 3, w ∈ gW := by decide +kernel
theorem uwX3 : ∀ w ∈ u_ws RX3 TX3 2, w ∈ gW := by decide +kernel
theorem uwX4 : ∀ w ∈ u_ws RX4 TX4 3, w ∈ gW := by decide +kernel
theorem uwX5 : ∀ w ∈ u_ws RX5 TX5 3, w ∈ gW := by decide +kernel
theorem uwX7 : ∀ w ∈ u_ws RX7 TX7 3, w ∈ gW := by decide +kernel
theorem uwX8 : ∀ w ∈ u_ws RX8 TX8 3, w ∈ gW := by decide +kernel
theorem uwX9 : ∀ w ∈ u_ws RX9 TX9 10, w ∈ gW := by decide +kernel
theorem uwX10 : ∀ w ∈ u_ws RX10 TX10 23, w ∈ gW := by decide +kernel
theorem foX9_10 : FOk RX9 10 8 0 := ⟨RX9, TX9, 10, tyX9, rfl, by decide, uwX9, tyX9_ok, nmX9, Or.inl (gW_at 185 (by decide +kernel))⟩
theorem foX9_19 : FOk RX9 19 8 1 := ⟨RX9, TX9, 10, tyX9, rfl, by decide, uwX9, tyX9_ok, nmX9, Or.inl (gW_at 186 (by decide +kernel))⟩
theorem foX9_23 : FOk RX9 23 8 2 := ⟨RX9, TX9, 10, tyX9, rfl, by decide, uwX9, tyX9_ok, nmX9, Or.inl (gW_at 187 (by decide +kernel))⟩
theorem foX9_29 : FOk RX9 29 8 3 := ⟨RX9, TX9, 10, tyX9, rfl, by decide, uwX9, tyX9_ok, nmX9, Or.inl (gW_at 188 (by decide +kernel))⟩
theorem foX9_36 : FOk RX9 36 8 4 := ⟨RX9, TX9, 10, tyX9, rfl, by decide, uwX9, tyX9_ok, nmX9, Or.inl (gW_at 189 (by decide +kernel))⟩
theorem foX9_43 : FOk RX9 43 8 5 := ⟨RX9, TX9, 10, tyX9, rfl, by decide, uwX9, tyX9_ok, nmX9, Or.inl (gW_at 190 (by decide +kernel))⟩
theorem foX9_50 : FOk RX9 50 8 6 := ⟨RX9, TX9, 10, tyX9, rfl, by decide, uwX9, tyX9_ok, nmX9, Or.inl (gW_at 191 (by decide +kernel))⟩
theorem foX9_57 : FOk RX9 57 8 7 := ⟨RX9, TX9, 10, tyX9, rfl, by decide, uwX9, tyX9_ok, nmX9, Or.inl (gW_at 192 (by decide +kernel))⟩
theorem foX9_64 : FOk RX9 64 8 8 := ⟨RX9, TX9, 10, tyX9, rfl, by decide, uwX9, tyX9_ok, nmX9, Or.inl (gW_at 193 (by decide +kernel))⟩
theorem foX9_68 : FOk RX9 68 8 9 := ⟨RX9, TX9, 10, tyX9, rfl, by decide, uwX9, tyX9_ok, nmX9, Or.inl (gW_at 194 (by decide +kernel))⟩
theorem foX9_76 : FOk RX9 76 3 1 := ⟨RX3, TX3, 2, tyX3, rfl, by decide, uwX3, tyX3_ok, nmX3, Or.inr ⟨"SquareFolds", nW_at 59 (by decide +kernel)⟩⟩
theorem foX9_96 : FOk RX9 96 5 2 := ⟨RX5, TX5, 3, tyX5, rfl, by decide, uwX5, tyX5_ok, nmX5, Or.inr ⟨"SquareFolds", nW_at 94 (by decide +kernel)⟩⟩
theorem foX9_108 : FOk RX9 108 2 0 := ⟨RX2, TX2, 3, tyX2, rfl, by decide, uwX2, tyX2_ok, nmX2, Or.inr ⟨"SquareFolds", nW_at 73 (by decide +kernel)⟩⟩
theorem foX9_129 : FOk RX9 129 6 2 := ⟨RX7, TX7, 3, tyX7, rfl, by decide, uwX7, tyX7_ok, nmX7, Or.inr ⟨"SquareFolds", nW_at 127 (by decide +kernel)⟩⟩
theorem foX9_162 : FOk RX9 162 2 1 := ⟨RX2, TX2, 3, tyX2, rfl, by decide, uwX2, tyX2_ok, nmX2, Or.inr ⟨"SquareFolds", nW_at 75 (by decide +kernel)⟩⟩
theorem foX9_182 : FOk RX9 182 2 2 := ⟨RX2, TX2, 3, tyX2, rfl, by decide, uwX2, tyX2_ok, nmX2, Or.inr ⟨"SquareFolds", nW_at 77 (by decide +kernel)⟩⟩
theorem foX9_205 : FOk RX9 205 4 0 := ⟨RX4, TX4, 3, tyX4, rfl, by decide, uwX4, tyX4_ok, nmX4, Or.inr ⟨"SquareFolds", nW_at 160 (by decide +kernel)⟩⟩
theorem foX9_208 : FOk RX9 208 0 1 := ⟨RX0, TX0, 2, tyX0, rfl, by decide, uwX0, tyX0_ok, nmX0, Or.inr ⟨"SquareFolds", nW_at 150 (by decide +kernel)⟩⟩
theorem foX0_9 : FOk RX0 9 0 0 := ⟨RX0, TX0, 2, tyX0, rfl, by decide, uwX0, tyX0_ok, nmX0, Or.inl (gW_at 147 (by decide +kernel))⟩
theorem foX0_13 : FOk RX0 13 0 1 := ⟨RX0, TX0, 2, tyX0, rfl, by decide, uwX0, tyX0_ok, nmX0, Or.inl (gW_at 148 (by decide +kernel))⟩
theorem foX1_7 : FOk RX1 7 1 0 := ⟨RX1, TX1, 2, tyX1, rfl, by decide, uwX1, tyX1_ok, nmX1, Or.inl (gW_at 178 (by decide +kernel))⟩
theorem foX1_13 : FOk RX1 13 1 1 := ⟨RX1, TX1, 2, tyX1, rfl, by decide, uwX1, tyX1_ok, nmX1, Or.inl (gW_at 179 (by decide +kernel))⟩
theorem foX2_9 : FOk RX2 9 2 0 := ⟨RX2, TX2, 3, tyX2, rfl, by decide, uwX2, tyX2_ok, nmX2, Or.inl (gW_at 72 (by decide +kernel))⟩
theorem foX2_15 : FOk RX2 15 2 1 := ⟨RX2, TX2, 3, tyX2, rfl, by decide, uwX2, tyX2_ok, nmX2, Or.inl (gW_at 74 (by decide +kernel))⟩
theorem foX2_18 : FOk RX2 18 2 2 := ⟨RX2, TX2, 3, tyX2, rfl, by decide, uwX2, tyX2_ok, nmX2, Or.inl (gW_at 76 (by decide +kernel))⟩
theorem foX3_11 : FOk RX3 11 3 0 := ⟨RX3, TX3, 2, tyX3, rfl, by decide, uwX3, tyX3_ok, nmX3, Or.inl (gW_at 57 (by decide +kernel))⟩
theorem foX3_15 : FOk RX3 15 3 1 := ⟨RX3, TX3, 2, tyX3, rfl, by decide, uwX3, tyX3_ok, nmX3, Or.inl (gW_at 58 (by decide +kernel))⟩
theorem foX4_12 : FOk RX4 12 4 0 := ⟨RX4, TX4, 3, tyX4, rfl, by decide, uwX4, tyX4_ok, nmX4, Or.inl (gW_at 159 (by decide +kernel))⟩
theorem foX4_18 : FOk RX4 18 4 1 := ⟨RX4, TX4, 3, tyX4, rfl, by decide, uwX4, tyX4_ok, nmX4, Or.inl (gW_at 161 (by decide +kernel))⟩
theorem foX4_25 : FOk RX4 25 4 2 := ⟨RX4, TX4, 3, tyX4, rfl, by decide, uwX4, tyX4_ok, nmX4, Or.inl (gW_at 162 (by decide +kernel))⟩
theorem foX4_33 : FOk RX4 33 0 1 := ⟨RX0, TX0, 2, tyX0, rfl, by decide, uwX0, tyX0_ok, nmX0, Or.inr ⟨"SquareFolds", nW_at 149 (by decide +kernel)⟩⟩
theorem foX5_9 : FOk RX5 9 5 0 := ⟨RX5, TX5, 3, tyX5, rfl, by decide, uwX5, tyX5_ok, nmX5, Or.inl (gW_at 91 (by decide +kernel))⟩
theorem foX5_13 : FOk RX5 13 5 1 := ⟨RX5, TX5, 3, tyX5, rfl, by decide, uwX5, tyX5_ok, nmX5, Or.inl (gW_at 92 (by decide +kernel))⟩
theorem foX5_16 : FOk RX5 16 5 2 := ⟨RX5, TX5, 3, tyX5, rfl, by decide, uwX5, tyX5_ok, nmX5, Or.inl (gW_at 93 (by decide +kernel))⟩
theorem foX7_9 : FOk RX7 9 6 0 := ⟨RX7, TX7, 3, tyX7, rfl, by decide, uwX7, tyX7_ok, nmX7, Or.inl (gW_at 124 (by decide +kernel))⟩
theorem foX7_13 : FOk RX7 13 6 1 := ⟨RX7, TX7, 3, tyX7, rfl, by decide, uwX7, tyX7_ok, nmX7, Or.inl (gW_at 125 (by decide +kernel))⟩
theorem foX7_16 : FOk RX7 16 6 2 := ⟨RX7, TX7, 3, tyX7, rfl, by decide, uwX7, tyX7_ok, nmX7, Or.inl (gW_at 126 (by decide +kernel))⟩
theorem foX8_9 : FOk RX8 9 7 0 := ⟨RX8, TX8, 3, tyX8, rfl, by decide, uwX8, tyX8_ok, nmX8, Or.inl (gW_at 108 (by decide +kernel))⟩
theorem foX8_13 : FOk RX8 13 7 1 := ⟨RX8, TX8, 3, tyX8, rfl, by decide, uwX8, tyX8_ok, nmX8, Or.inl (gW_at 109 (by decide +kernel))⟩
theorem foX8_16 : FOk RX8 16 7 2 := ⟨RX8, TX8, 3, tyX8, rfl, by decide, uwX8, tyX8_ok, nmX8, Or.inl (gW_at 110 (by decide +kernel))⟩
theorem foX10_7 : FOk RX10 7 9 0 := ⟨RX10, TX10, 23, tyX10, rfl, by decide, uwX10, tyX10_ok, nmX10, Or.inl (gW_at 666 (by decide +kernel))⟩
theorem foX10_13 : FOk RX10 13 9 2 := ⟨RX10, TX10, 23, tyX10, rfl, by decide, uwX10, tyX10_ok, nmX10, Or.inl (gW_at 668 (by decide +kernel))⟩
theorem foX10_16 : FOk RX10 16 9 3 := ⟨RX10, TX10, 23, tyX10, rfl, by decide, uwX10, tyX10_ok, nmX10, Or.inl (gW_at 669 (by decide +kernel))⟩
theorem foX10_19 : FOk RX10 19 9 4 := ⟨RX10, TX10, 23, tyX10, rfl, by decide, uwX10, tyX10_ok, nmX10, Or.inl (gW_at 670 (by decide +kernel))⟩
theorem foX10_22 : FOk RX10 22 9 5 := ⟨RX10, TX10, 23, tyX10, rfl, by decide, uwX10, tyX10_ok, nmX10, Or.inl (gW_at 671 (by decide +kernel))⟩
theorem foX10_25 : FOk RX10 25 9 6 := ⟨RX10, TX10, 23, tyX10, rfl, by decide, uwX10, tyX10_ok, nmX10, Or.inl (gW_at 672 (by decide +kernel))⟩
theorem foX10_28 : FOk RX10 28 9 9 := ⟨RX10, TX10, 23, tyX10, rfl, by decide, uwX10, tyX10_ok, nmX10, Or.inl (gW_at 675 (by decide +kernel))⟩
theorem foX10_31 : FOk RX10 31 9 10 := ⟨RX10, TX10, 23, tyX10, rfl, by decide, uwX10, tyX10_ok, nmX10, Or.inl (gW_at 676 (by decide +kernel))⟩
theorem foX10_35 : FOk RX10 35 9 11 := ⟨RX10, TX10, 23, tyX10, rfl, by decide, uwX10, tyX10_ok, nmX10, Or.inl (gW_at 677 (by decide +kernel))⟩
theorem foX10_38 : FOk RX10 38 9 12 := ⟨RX10, TX10, 23, tyX10, rfl, by decide, uwX10, tyX10_ok, nmX10, Or.inl (gW_at 678 (by decide +kernel))⟩
theorem foX10_41 : FOk RX10 41 9 15 := ⟨RX10, TX10, 23, tyX10, rfl, by decide, uwX10, tyX10_ok, nmX10, Or.inl (gW_at 681 (by decide +kernel))⟩
theorem foX10_44 : FOk RX10 44 9 16 := ⟨RX10, TX10, 23, tyX10, rfl, by decide, uwX10, tyX10_ok, nmX10, Or.inl (gW_at 682 (by decide +kernel))⟩
theorem foX10_47 : FOk RX10 47 9 17 := ⟨RX10, TX10, 23, tyX10, rfl, by decide, uwX10, tyX10_ok, nmX10, Or.inl (gW_at 683 (by decide +kernel))⟩
theorem foX10_51 : FOk RX10 51 9 18 := ⟨RX10, TX10, 23, tyX10, rfl, by decide, uwX10, tyX10_ok, nmX10, Or.inl (gW_at 684 (by decide +kernel))⟩
theorem foX10_54 : FOk RX10 54 9 20 := ⟨RX10, TX10, 23, tyX10, rfl, by decide, uwX10, tyX10_ok, nmX10, Or.inl (gW_at 686 (by decide +kernel))⟩
theorem foX10_57 : FOk RX10 57 9 21 := ⟨RX10, TX10, 23, tyX10, rfl, by decide, uwX10, tyX10_ok, nmX10, Or.inl (gW_at 687 (by decide +kernel))⟩
theorem foX10_133 : FOk RX10 133 9 1 := ⟨RX10, TX10, 23, tyX10, rfl, by decide, uwX10, tyX10_ok, nmX10, Or.inl (gW_at 667 (by decide +kernel))⟩
theorem foX10_147 : FOk RX10 147 9 7 := ⟨RX10, TX10, 23, tyX10, rfl, by decide, uwX10, tyX10_ok, nmX10, Or.inl (gW_at 673 (by decide +kernel))⟩
theorem foX10_182 : FOk RX10 182 9 13 := ⟨RX10, TX10, 23, tyX10, rfl, by decide, uwX10, tyX10_ok, nmX10, Or.inl (gW_at 679 (by decide +kernel))⟩
theorem foX10_201 : FOk RX10 201 9 22 := ⟨RX10, TX10, 23, tyX10, rfl, by decide, uwX10, tyX10_ok, nmX10, Or.inl (gW_at 688 (by decide +kernel))⟩
theorem foX10_221 : FOk RX10 221 9 8 := ⟨RX10, TX10, 23, tyX10, rfl, by decide, uwX10, tyX10_ok, nmX10, Or.inl (gW_at 674 (by decide +kernel))⟩
theorem foX10_237 : FOk RX10 237 9 19 := ⟨RX10, TX10, 23, tyX10, rfl, by decide, uwX10, tyX10_ok, nmX10, Or.inl (gW_at 685 (by decide +kernel))⟩
theorem foX10_288 : FOk RX10 288 9 14 := ⟨RX10, TX10, 23, tyX10, rfl, by decide, uwX10, tyX10_ok, nmX10, Or.inl (gW_at 680 (by decide +kernel))⟩
theorem fpX9_9 : FPu 8 9 .long := ⟨RX9, TX9, 10, rfl, rfl, by decide +kernel⟩
theorem fpX0_1 : FPu 0 1 .int := ⟨RX0, TX0, 2, rfl, rfl, by decide +kernel⟩
theorem fpX1_0 : FPu 1 0 .int := ⟨RX1, TX1, 2, rfl, rfl, by decide +kernel⟩
theorem fpX1_1 : FPu 1 1 .int := ⟨RX1, TX1, 2, rfl, rfl, by decide +kernel⟩
theorem fpX2_1 : FPu 2 1 .int := ⟨RX2, TX2, 3, rfl, rfl, by decide +kernel⟩
theorem fpX2_0 : FPu 2 0 .int := ⟨RX2, TX2, 3, rfl, rfl, by decide +kernel⟩
theorem fpX2_2 : FPu 2 2 .int := ⟨RX2, TX2, 3, rfl, rfl, by decide +kernel⟩
theorem fpX3_1 : FPu 3 1 .int := ⟨RX3, TX3, 2, rfl, rfl, by decide +kernel⟩
theorem fpX5_2 : FPu 5 2 .int := ⟨RX5, TX5, 3, rfl, rfl, by decide +kernel⟩
theorem fpX7_2 : FPu 6 2 .int := ⟨RX7, TX7, 3, rfl, rfl, by decide +kernel⟩
theorem fpX8_2 : FPu 7 2 .int := ⟨RX8, TX8, 3, rfl, rfl, by decide +kernel⟩
theorem fpX10_7 : FPu 9 7 .int := ⟨RX10, TX10, 23, rfl, rfl, by decide +kernel⟩
theorem fpX10_1 : FPu 9 1 .int := ⟨RX10, TX10, 23, rfl, rfl, by decide +kernel⟩
theorem fpX10_19 : FPu 9 19 .int := ⟨RX10, TX10, 23, rfl, rfl, by decide +kernel⟩
theorem fpX10_8 : FPu 9 8 .int := ⟨RX10, TX10, 23, rfl, rfl, by decide +kernel⟩
theorem fpX10_14 : FPu 9 14 .long := ⟨RX10, TX10, 23, rfl, rfl, by decide +kernel⟩
theorem fpX10_13 : FPu 9 13 .int := ⟨RX10, TX10, 23, rfl, rfl, by decide +kernel⟩
theorem fpX10_22 : FPu 9 22 .int := ⟨RX10, TX10, 23, rfl, rfl, by decide +kernel⟩
theorem kcX9_171 : Cond.constantLong RX9 171 (-1) ∈ gW := gW_at 418 (by decide +kernel)
theorem kcX9_180 : Cond.constantLong RX9 180 (-2) ∈ gW := gW_at 436 (by decide +kernel)
theorem kcX9_223 : Cond.constantLong RX9 223 (10000) ∈ gW := gW_at 519 (by decide +kernel)
theorem kcX9_252 : Cond.constantLong RX9 252 (6364136223846793005) ∈ gW := gW_at 618 (by decide +kernel)
theorem kcX9_254 : Cond.constantLong RX9 254 (1442695040888963407) ∈ gW := gW_at 619 (by decide +kernel)
theorem kcX2_93 : Cond.constantLong RX2 93 (10) ∈ gW := gW_at 427 (by decide +kernel)
theorem kcX2_107 : Cond.constantLong RX2 107 (4) ∈ gW := gW_at 624 (by decide +kernel)
theorem kcX2_113 : Cond.constantLong RX2 113 (8) ∈ gW := gW_at 625 (by decide +kernel)
theorem kcX2_119 : Cond.constantLong RX2 119 (64) ∈ gW := gW_at 630 (by decide +kernel)
theorem kcX10_131 : Cond.constantLong RX10 131 (255) ∈ gW := gW_at 741 (by decide +kernel)
theorem kcX10_137 : Cond.constantLong RX10 137 (5) ∈ gW := gW_at 757 (by decide +kernel)
theorem kcX10_188 : Cond.constantLong RX10 188 (4) ∈ gW := gW_at 845 (by decide +kernel)
theorem kcX10_190 : Cond.constantLong RX10 190 (4444) ∈ gW := gW_at 853 (by decide +kernel)
theorem kcX10_208 : Cond.constantLong RX10 208 (10) ∈ gW := gW_at 881 (by decide +kernel)
theorem kcX10_214 : Cond.constantLong RX10 214 (-1) ∈ gW := gW_at 871 (by decide +kernel)
theorem kcX10_216 : Cond.constantLong RX10 216 (-2) ∈ gW := gW_at 872 (by decide +kernel)
theorem kcX10_224 : Cond.constantLong RX10 224 (2) ∈ gW := gW_at 890 (by decide +kernel)
theorem kcX10_257 : Cond.constantLong RX10 257 (10000) ∈ gW := gW_at 965 (by decide +kernel)
theorem kcX10_292 : Cond.constantLong RX10 292 (20) ∈ gW := gW_at 1019 (by decide +kernel)
theorem kcX10_294 : Cond.constantLong RX10 294 (6364136223846793005) ∈ gW := gW_at 1020 (by decide +kernel)
theorem kcX10_296 : Cond.constantLong RX10 296 (1442695040888963407) ∈ gW := gW_at 1021 (by decide +kernel)
theorem kcJ6_265 : Cond.constant RJ6 265 (1431655765) ∈ gW := gW_at 329 (by decide +kernel)
theorem kcJ6_266 : Cond.constant RJ6 266 (858993459) ∈ gW := gW_at 330 (by decide +kernel)
theorem kcJ6_267 : Cond.constant RJ6 267 (252645135) ∈ gW := gW_at 331 (by decide +kernel)
end
section
/-! SquareFolds$Row.isIn(II)Z -/
theorem kX6_isIn_0_0 : decB cX6_isIn 0 [(.iload_n 0, .null), (.iload_n 1, .null), (.iushr, .null), (.iconst 1, .int 1), (.iand, .null), (.iconst 1, .int 1)] = true := by decide +kernel
theorem kX6_isIn_0_1 : decB cX6_isIn 13 [(.iconst 0, .int 0)] = true := by decide +kernel
theorem kX6_isIn_0_2 : decB cX6_isIn 9 [(.iconst 1, .int 1), (.goto 4, .retAddr 14)] = true := by decide +kernel
theorem dX6_isIn_6 : decode cX6_isIn 6 = .ok (.if_icmp .ne 7, 3) := by decide +kernel
theorem dX6_isIn_14 : decode cX6_isIn 14 = .ok (.ireturn, 1) := by decide +kernel
def FX6_isIn  (a0 : Int32) (a1 : Int32) (H : Hp) : Option (Int32 × Hp) :=
  if (((iushrF a0 a1) &&& 1) = 1 : Prop) then
    some (1, H)
  else
    some (0, H)
set_option maxHeartbeats 4000000 in
set_option maxRecDepth 100000 in
theorem tFX6_isIn {G : GG} {r : Int32} {H' : Hp}   {a0 : Int32} {a1 : Int32} {H : Hp} (h : FX6_isIn  a0 a1 H = some (r, H')) : Sn G (T0 G (some (.int r)) H') mX6_isIn 0 [some (.int a0), some (.int a1)] [] H := by
  unfold FX6_isIn at h
  refine sn_blk _ kX6_isIn_0_0 (pc' := 6) (L' := [some (.int a0), some (.int a1)]) (st' := [.int 1, .int ((iushrF a0 a1) &&& 1)]) rfl rfl ?_
  refine sn_icmp_ne (tgt := 13) dX6_isIn_6 (by decide) (fun c => ?_) (fun c => ?_)
  · rw [if_neg c] at h
    refine sn_blk _ kX6_isIn_0_1 (pc' := 14) (L' := [some (.int a0), some (.int a1)]) (st' := [.int 0]) rfl rfl ?_
    cases h
    exact sn_iret (ty := .boolean) dX6_isIn_14 rfl rfl
  · rw [if_pos c] at h
    refine sn_blk _ kX6_isIn_0_2 (pc' := 14) (L' := [some (.int a0), some (.int a1)]) (st' := [.int 1]) rfl rfl ?_
    cases h
    exact sn_iret (ty := .boolean) dX6_isIn_14 rfl rfl
theorem sX6_isIn {G : GG} {r : Int32} {H' : Hp} {a0 : Int32} {a1 : Int32} {H : Hp} (h : FX6_isIn a0 a1 H = some (r, H')) : SM G mX6_isIn [.int a0, .int a1] H (some (.int r)) H' := tFX6_isIn h
/-! SquareFolds$Row.put(III)I -/
theorem kX6_put_0_0 : decB cX6_put 0 [(.iload_n 0, .null), (.iload_n 2, .null), (.iconst 3, .int 3), (.iload_n 1, .null), (.imul, .null), (.ishl, .null), (.ior, .null)] = true := by decide +kernel
theorem dX6_put_7 : decode cX6_put 7 = .ok (.ireturn, 1) := by decide +kernel
def FX6_put  (a0 : Int32) (a1 : Int32) (a2 : Int32) (H : Hp) : Option (Int32 × Hp) :=
  some ((a0 ||| (a2 <<< ((3 * a1) &&& 31))), H)
set_option maxHeartbeats 4000000 in
set_option maxRecDepth 100000 in
theorem tFX6_put {G : GG} {r : Int32} {H' : Hp}   {a0 : Int32} {a1 : Int32} {a2 : Int32} {H : Hp} (h : FX6_put  a0 a1 a2 H = some (r, H')) : Sn G (T0 G (some (.int r)) H') mX6_put 0 [some (.int a0), some (.int a1), some (.int a2)] [] H := by
  unfold FX6_put at h
  refine sn_blk _ kX6_put_0_0 (pc' := 7) (L' := [some (.int a0), some (.int a1), some (.int a2)]) (st' := [.int (a0 ||| (a2 <<< ((3 * a1) &&& 31)))]) rfl rfl ?_
  cases h
  exact sn_iret (ty := .int) dX6_put_7 rfl rfl
theorem sX6_put {G : GG} {r : Int32} {H' : Hp} {a0 : Int32} {a1 : Int32} {a2 : Int32} {H : Hp} (h : FX6_put a0 a1 a2 H = some (r, H')) : SM G mX6_put [.int a0, .int a1, .int a2] H (some (.int r)) H' := tFX6_put h
/-! SquareFolds$Row.at(II)I -/
theorem kX6_at_0_0 : decB cX6_at 0 [(.iload_n 0, .null), (.iconst 3, .int 3), (.iload_n 1, .null), (.imul, .null), (.iushr, .null), (.bipush 7, .int 7), (.iand, .null)] = true := by decide +kernel
theorem dX6_at_8 : decode cX6_at 8 = .ok (.ireturn, 1) := by decide +kernel
def FX6_at  (a0 : Int32) (a1 : Int32) (H : Hp) : Option (Int32 × Hp) :=
  some (((iushrF a0 (3 * a1)) &&& 7), H)
set_option maxHeartbeats 4000000 in
set_option maxRecDepth 100000 in
theorem tFX6_at {G : GG} {r : Int32} {H' : Hp}   {a0 : Int32} {a1 : Int32} {H : Hp} (h : FX6_at  a0 a1 H = some (r, H')) : Sn G (T0 G (some (.int r)) H') mX6_at 0 [some (.int a0), some (.int a1)] [] H := by
  unfold FX6_at at h
  refine sn_blk _ kX6_at_0_0 (pc' := 8) (L' := [some (.int a0), some (.int a1)]) (st' := [.int ((iushrF a0 (3 * a1)) &&& 7)]) rfl rfl ?_
  cases h
  exact sn_iret (ty := .int) dX6_at_8 rfl rfl
theorem sX6_at {G : GG} {r : Int32} {H' : Hp} {a0 : Int32} {a1 : Int32} {H : Hp} (h : FX6_at a0 a1 H = some (r, H')) : SM G mX6_at [.int a0, .int a1] H (some (.int r)) H' := tFX6_at h
/-! SquareFolds$Row.then(III)I -/
theorem kX6_then_0_0 : decB cX6_then 0 [(.iconst 0, .int 0), (.istore_n 3, .null), (.iconst 0, .int 0), (.istore 4, .null)] = true := by decide +kernel
theorem kX6_then_5_0 : decB cX6_then 5 [(.iload 4, .null), (.iload_n 2, .null)] = true := by decide +kernel
theorem kX6_then_5_1 : decB cX6_then 34 [(.iload_n 3, .null)] = true := by decide +kernel
theorem kX6_then_5_2 : decB cX6_then 11 [(.iload_n 3, .null), (.iload 4, .null), (.iload_n 1, .null), (.iload_n 0, .null), (.iload 4, .null)] = true := by decide +kernel
theorem kX6_then_5_3 : decB cX6_then 27 [(.istore_n 3, .null), (.iinc 4 1, .int 1), (.goto (-26), .retAddr 5)] = true := by decide +kernel
theorem dX6_then_8 : decode cX6_then 8 = .ok (.if_icmp .ge 26, 3) := by decide +kernel
theorem dX6_then_18 : decode cX6_then 18 = .ok (.invokestatic 13, 3) := by decide +kernel
theorem dX6_then_21 : decode cX6_then 21 = .ok (.invokestatic 13, 3) := by decide +kernel
theorem dX6_then_24 : decode cX6_then 24 = .ok (.invokestatic 7, 3) := by decide +kernel
theorem dX6_then_35 : decode cX6_then 35 = .ok (.ireturn, 1) := by decide +kernel
def bX6_then_5 (K5 : Int32 → Int32 → Int32 → Int32 → Int32 → Hp → Option (Int32 × Hp)) (a0 : Int32) (a1 : Int32) (a2 : Int32) (a3 : Int32) (a4 : Int32) (H : Hp) : Option (Int32 × Hp) :=
  if (a2 ≤ a4 : Prop) then
    some (a3, H)
  else
    bd2 (FX6_at a0 a4 H) fun x1 H2 =>
    bd2 (FX6_at a1 x1 H2) fun x3 H4 =>
    bd2 (FX6_put a3 a4 x3 H4) fun x5 H6 =>
    K5 a0 a1 a2 x5 (a4 + 1) H6
set_option maxHeartbeats 4000000 in
set_option maxRecDepth 100000 in
theorem tbX6_then_5 {G : GG} {r : Int32} {H' : Hp} {K5 : Int32 → Int32 → Int32 → Int32 → Int32 → Hp → Option (Int32 × Hp)} (hK5 : ∀ (a0 : Int32) (a1 : Int32) (a2 : Int32) (a3 : Int32) (a4 : Int32) (H : Hp), K5 a0 a1 a2 a3 a4 H = some (r, H') → Sn G (T0 G (some (.int r)) H') mX6_then 5 [some (.int a0), some (.int a1), some (.int a2), some (.int a3), some (.int a4)] [] H) {a0 : Int32} {a1 : Int32} {a2 : Int32} {a3 : Int32} {a4 : Int32} {H : Hp} (h : bX6_then_5 K5 a0 a1 a2 a3 a4 H = some (r, H')) : Sn G (T0 G (some (.int r)) H') mX6_then 5 [some (.int a0), some (.int a1), some (.int a2), some (.int a3), some (.int a4)] [] H := by
  unfold bX6_then_5 at h
  refine sn_blk _ kX6_then_5_0 (pc' := 8) (L' := [some (.int a0), some (.int a1), some (.int a2), some (.int a3), some (.int a4)]) (st' := [.int a2, .int a4]) rfl rfl ?_
  refine sn_icmp_ge (tgt := 34) dX6_then_8 (by decide) (fun c => ?_) (fun c => ?_)
  · rw [if_pos c] at h
    refine sn_blk _ kX6_then_5_1 (pc' := 35) (L' := [some (.int a0), some (.int a1), some (.int a2), some (.int a3), some (.int a4)]) (st' := [.int a3]) rfl rfl ?_
    cases h
    exact sn_iret (ty := .int) dX6_then_35 rfl rfl
  · rw [if_neg c] at h
    refine sn_blk _ kX6_then_5_2 (pc' := 18) (L' := [some (.int a0), some (.int a1), some (.int a2), some (.int a3), some (.int a4)]) (st' := [.int a4, .int a0, .int a1, .int a4, .int a3]) rfl rfl ?_
    obtain ⟨x1, H2, hx1, h⟩ := bd2_inv h
    refine sn_calls (av := [.int a0, .int a4]) (st := [.int a1, .int a4, .int a3]) (M2 := mX6_at) dX6_then_18 msX6_at mlX6_13 rfl rfl rfl rfl rfl (sX6_at hx1) ?_
    obtain ⟨x3, H4, hx3, h⟩ := bd2_inv h
    refine sn_calls (av := [.int a1, .int x1]) (st := [.int a4, .int a3]) (M2 := mX6_at) dX6_then_21 msX6_at mlX6_13 rfl rfl rfl rfl rfl (sX6_at hx3) ?_
    obtain ⟨x5, H6, hx5, h⟩ := bd2_inv h
    refine sn_calls (av := [.int a3, .int a4, .int x3]) (st := []) (M2 := mX6_put) dX6_then_24 msX6_put mlX6_7 rfl rfl rfl rfl rfl (sX6_put hx5) ?_
    refine sn_blk _ kX6_then_5_3 (pc' := 5) (L' := [some (.int a0), some (.int a1), some (.int a2), some (.int x5), some (.int (a4 + 1))]) (st' := []) rfl rfl ?_
    exact hK5 _ _ _ _ _ _ h
def fX6_then_5  : Nat → Int32 → Int32 → Int32 → Int32 → Int32 → Hp → Option (Int32 × Hp)
  | 0, _, _, _, _, _, _ => none
  | d + 1, a0, a1, a2, a3, a4, H => bX6_then_5 (fX6_then_5  d) a0 a1 a2 a3 a4 H
theorem tfX6_then_5 {G : GG} {r : Int32} {H' : Hp}   : ∀ (d : Nat) {a0 : Int32} {a1 : Int32} {a2 : Int32} {a3 : Int32} {a4 : Int32} {H : Hp}, fX6_then_5  d a0 a1 a2 a3 a4 H = some (r, H') → Sn G (T0 G (some (.int r)) H') mX6_then 5 [some (.int a0), some (.int a1), some (.int a2), some (.int a3), some (.int a4)] [] H := by
  intro d
  induction d with
  | zero => intro a0 a1 a2 a3 a4 H h; cases h
  | succ d ih => intro a0 a1 a2 a3 a4 H h; exact tbX6_then_5 (fun a0 a1 a2 a3 a4 H h => ih h) h
def FX6_then  (a0 : Int32) (a1 : Int32) (a2 : Int32) (H : Hp) : Option (Int32 × Hp) :=
  fX6_then_5  4096 a0 a1 a2 0 0 H
set_option maxHeartbeats 4000000 in
set_option maxRecDepth 100000 in
theorem tFX6_then {G : GG} {r : Int32} {H' : Hp}   {a0 : Int32} {a1 : Int32} {a2 : Int32} {H : Hp} (h : FX6_then  a0 a1 a2 H = some (r, H')) : Sn G (T0 G (some (.int r)) H') mX6_then 0 [some (.int a0), some (.int a1), some (.int a2), none, none] [] H := by
  unfold FX6_then at h
  refine sn_blk _ kX6_then_0_0 (pc' := 5) (L' := [some (.int a0), some (.int a1), some (.int a2), some (.int 0), some (.int 0)]) (st' := []) rfl rfl ?_
  exact tfX6_then_5  4096 h
theorem sX6_then {G : GG} {r : Int32} {H' : Hp} {a0 : Int32} {a1 : Int32} {a2 : Int32} {H : Hp} (h : FX6_then a0 a1 a2 H = some (r, H')) : SM G mX6_then [.int a0, .int a1, .int a2] H (some (.int r)) H' := tFX6_then h
/-! SquareFolds$Row.back(II)I -/
theorem kX6_back_0_0 : decB cX6_back 0 [(.iconst 0, .int 0), (.istore_n 2, .null), (.iconst 0, .int 0), (.istore_n 3, .null)] = true := by decide +kernel
theorem kX6_back_4_0 : decB cX6_back 4 [(.iload_n 3, .null), (.iload_n 1, .null)] = true := by decide +kernel
theorem kX6_back_4_1 : decB cX6_back 26 [(.iload_n 2, .null)] = true := by decide +kernel
theorem kX6_back_4_2 : decB cX6_back 9 [(.iload_n 2, .null), (.iload_n 0, .null), (.iload_n 3, .null)] = true := by decide +kernel
theorem kX6_back_4_3 : decB cX6_back 15 [(.iload_n 3, .null)] = true := by decide +kernel
theorem kX6_back_4_4 : decB cX6_back 19 [(.istore_n 2, .null), (.iinc 3 1, .int 1), (.goto (-19), .retAddr 4)] = true := by decide +kernel
theorem dX6_back_6 : decode cX6_back 6 = .ok (.if_icmp .ge 20, 3) := by decide +kernel
theorem dX6_back_12 : decode cX6_back 12 = .ok (.invokestatic 13, 3) := by decide +kernel
theorem dX6_back_16 : decode cX6_back 16 = .ok (.invokestatic 7, 3) := by decide +kernel
theorem dX6_back_27 : decode cX6_back 27 = .ok (.ireturn, 1) := by decide +kernel
def bX6_back_4 (K4 : Int32 → Int32 → Int32 → Int32 → Hp → Option (Int32 × Hp)) (a0 : Int32) (a1 : Int32) (a2 : Int32) (a3 : Int32) (H : Hp) : Option (Int32 × Hp) :=
  if (a1 ≤ a3 : Prop) then
    some (a2, H)
  else
    bd2 (FX6_at a0 a3 H) fun x1 H2 =>
    bd2 (FX6_put a2 x1 a3 H2) fun x3 H4 =>
    K4 a0 a1 x3 (a3 + 1) H4
set_option maxHeartbeats 4000000 in
set_option maxRecDepth 100000 in
theorem tbX6_back_4 {G : GG} {r : Int32} {H' : Hp} {K4 : Int32 → Int32 → Int32 → Int32 → Hp → Option (Int32 × Hp)} (hK4 : ∀ (a0 : Int32) (a1 : Int32) (a2 : Int32) (a3 : Int32) (H : Hp), K4 a0 a1 a2 a3 H = some (r, H') → Sn G (T0 G (some (.int r)) H') mX6_back 4 [some (.int a0), some (.int a1), some (.int a2), some (.int a3)] [] H) {a0 : Int32} {a1 : Int32} {a2 : Int32} {a3 : Int32} {H : Hp} (h : bX6_back_4 K4 a0 a1 a2 a3 H = some (r, H')) : Sn G (T0 G (some (.int r)) H') mX6_back 4 [some (.int a0), some (.int a1), some (.int a2), some (.int a3)] [] H := by
  unfold bX6_back_4 at h
  refine sn_blk _ kX6_back_4_0 (pc' := 6) (L' := [some (.int a0), some (.int a1), some (.int a2), some (.int a3)]) (st' := [.int a1, .int a3]) rfl rfl ?_
  refine sn_icmp_ge (tgt := 26) dX6_back_6 (by decide) (fun c => ?_) (fun c => ?_)
  · rw [if_pos c] at h
    refine sn_blk _ kX6_back_4_1 (pc' := 27) (L' := [some (.int a0), some (.int a1), some (.int a2), some (.int a3)]) (st' := [.int a2]) rfl rfl ?_
    cases h
    exact sn_iret (ty := .int) dX6_back_27 rfl rfl
  · rw [if_neg c] at h
    refine sn_blk _ kX6_back_4_2 (pc' := 12) (L' := [some (.int a0), some (.int a1), some (.int a2), some (.int a3)]) (st' := [.int a3, .int a0, .int a2]) rfl rfl ?_
    obtain ⟨x1, H2, hx1, h⟩ := bd2_inv h
    refine sn_calls (av := [.int a0, .int a3]) (st := [.int a2]) (M2 := mX6_at) dX6_back_12 msX6_at mlX6_13 rfl rfl rfl rfl rfl (sX6_at hx1) ?_
    refine sn_blk _ kX6_back_4_3 (pc' := 16) (L' := [some (.int a0), some (.int a1), some (.int a2), some (.int a3)]) (st' := [.int a3, .int x1, .int a2]) rfl rfl ?_
    obtain ⟨x3, H4, hx3, h⟩ := bd2_inv h
    refine sn_calls (av := [.int a2, .int x1, .int a3]) (st := []) (M2 := mX6_put) dX6_back_16 msX6_put mlX6_7 rfl rfl rfl rfl rfl (sX6_put hx3) ?_
    refine sn_blk _ kX6_back_4_4 (pc' := 4) (L' := [some (.int a0), some (.int a1), some (.int x3), some (.int (a3 + 1))]) (st' := []) rfl rfl ?_
    exact hK4 _ _ _ _ _ h
def fX6_back_4  : Nat → Int32 → Int32 → Int32 → Int32 → Hp → Option (Int32 × Hp)
  | 0, _, _, _, _, _ => none
  | d + 1, a0, a1, a2, a3, H => bX6_back_4 (fX6_back_4  d) a0 a1 a2 a3 H
theorem tfX6_back_4 {G : GG} {r : Int32} {H' : Hp}   : ∀ (d : Nat) {a0 : Int32} {a1 : Int32} {a2 : Int32} {a3 : Int32} {H : Hp}, fX6_back_4  d a0 a1 a2 a3 H = some (r, H') → Sn G (T0 G (some (.int r)) H') mX6_back 4 [some (.int a0), some (.int a1), some (.int a2), some (.int a3)] [] H := by
  intro d
  induction d with
  | zero => intro a0 a1 a2 a3 H h; cases h
  | succ d ih => intro a0 a1 a2 a3 H h; exact tbX6_back_4 (fun a0 a1 a2 a3 H h => ih h) h
def FX6_back  (a0 : Int32) (a1 : Int32) (H : Hp) : Option (Int32 × Hp) :=
  fX6_back_4  4096 a0 a1 0 0 H
set_option maxHeartbeats 4000000 in
set_option maxRecDepth 100000 in
theorem tFX6_back {G : GG} {r : Int32} {H' : Hp}   {a0 : Int32} {a1 : Int32} {H : Hp} (h : FX6_back  a0 a1 H = some (r, H')) : Sn G (T0 G (some (.int r)) H') mX6_back 0 [some (.int a0), some (.int a1), none, none] [] H := by
  unfold FX6_back at h
  refine sn_blk _ kX6_back_0_0 (pc' := 4) (L' := [some (.int a0), some (.int a1), some (.int 0), some (.int 0)]) (st' := []) rfl rfl ?_
  exact tfX6_back_4  4096 h
theorem sX6_back {G : GG} {r : Int32} {H' : Hp} {a0 : Int32} {a1 : Int32} {H : Hp} (h : FX6_back a0 a1 H = some (r, H')) : SM G mX6_back [.int a0, .int a1] H (some (.int r)) H' := tFX6_back h
/-! SquareFolds$Row.ring(III)I -/
theorem kX6_ring_0_0 : decB cX6_ring 0 [(.iconst 0, .int 0), (.istore_n 3, .null), (.iload_n 1, .null), (.istore 4, .null), (.iconst 0, .int 0), (.istore 5, .null)] = true := by decide +kernel
theorem kX6_ring_8_0 : decB cX6_ring 8 [(.iload 5, .null), (.iload_n 2, .null)] = true := by decide +kernel
theorem kX6_ring_8_1 : decB cX6_ring 35 [(.iload_n 3, .null)] = true := by decide +kernel
theorem kX6_ring_8_2 : decB cX6_ring 14 [(.iload_n 3, .null), (.iconst 1, .int 1), (.iload 4, .null), (.ishl, .null), (.ior, .null), (.istore_n 3, .null), (.iload_n 0, .null), (.iload 4, .null)] = true := by decide +kernel
theorem kX6_ring_8_3 : decB cX6_ring 27 [(.istore 4, .null), (.iinc 5 1, .int 1), (.goto (-24), .retAddr 8)] = true := by decide +kernel
theorem dX6_ring_11 : decode cX6_ring 11 = .ok (.if_icmp .ge 24, 3) := by decide +kernel
theorem dX6_ring_24 : decode cX6_ring 24 = .ok (.invokestatic 13, 3) := by decide +kernel
theorem dX6_ring_36 : decode cX6_ring 36 = .ok (.ireturn, 1) := by decide +kernel
def bX6_ring_8 (K8 : Int32 → Int32 → Int32 → Int32 → Int32 → Hp → Option (Int32 × Hp)) (a0 : Int32) (a2 : Int32) (a3 : Int32) (a4 : Int32) (a5 : Int32) (H : Hp) : Option (Int32 × Hp) :=
  if (a2 ≤ a5 : Prop) then
    some (a3, H)
  else
    bd2 (FX6_at a0 a4 H) fun x1 H2 =>
    K8 a0 a2 (a3 ||| (1 <<< (a4 &&& 31))) x1 (a5 + 1) H2
set_option maxHeartbeats 4000000 in
set_option maxRecDepth 100000 in
theorem tbX6_ring_8 {G : GG} {r : Int32} {H' : Hp} {K8 : Int32 → Int32 → Int32 → Int32 → Int32 → Hp → Option (Int32 × Hp)} (hK8 : ∀ (a0 : Int32) (a2 : Int32) (a3 : Int32) (a4 : Int32) (a5 : Int32) (H : Hp), K8 a0 a2 a3 a4 a5 H = some (r, H') → Sn G (T0 G (some (.int r)) H') mX6_ring 8 [some (.int a0), none, some (.int a2), some (.int a3), some (.int a4), some (.int a5)] [] H) {a0 : Int32} {a2 : Int32} {a3 : Int32} {a4 : Int32} {a5 : Int32} {H : Hp} (h : bX6_ring_8 K8 a0 a2 a3 a4 a5 H = some (r, H')) : Sn G (T0 G (some (.int r)) H') mX6_ring 8 [some (.int a0), none, some (.int a2), some (.int a3), some (.int a4), some (.int a5)] [] H := by
  unfold bX6_ring_8 at h
  refine sn_blk _ kX6_ring_8_0 (pc' := 11) (L' := [some (.int a0), none, some (.int a2), some (.int a3), some (.int a4), some (.int a5)]) (st' := [.int a2, .int a5]) rfl rfl ?_
  refine sn_icmp_ge (tgt := 35) dX6_ring_11 (by decide) (fun c => ?_) (fun c => ?_)
  · rw [if_pos c] at h
    refine sn_blk _ kX6_ring_8_1 (pc' := 36) (L' := [some (.int a0), none, some (.int a2), some (.int a3), some (.int a4), some (.int a5)]) (st' := [.int a3]) rfl rfl ?_
    cases h
    exact sn_iret (ty := .int) dX6_ring_36 rfl rfl
  · rw [if_neg c] at h
    refine sn_blk _ kX6_ring_8_2 (pc' := 24) (L' := [some (.int a0), none, some (.int a2), some (.int (a3 ||| (1 <<< (a4 &&& 31)))), some (.int a4), some (.int a5)]) (st' := [.int a4, .int a0]) rfl rfl ?_
    obtain ⟨x1, H2, hx1, h⟩ := bd2_inv h
    refine sn_calls (av := [.int a0, .int a4]) (st := []) (M2 := mX6_at) dX6_ring_24 msX6_at mlX6_13 rfl rfl rfl rfl rfl (sX6_at hx1) ?_
    refine sn_blk _ kX6_ring_8_3 (pc' := 8) (L' := [some (.int a0), none, some (.int a2), some (.int (a3 ||| (1 <<< (a4 &&& 31)))), some (.int x1), some (.int (a5 + 1))]) (st' := []) rfl rfl ?_
    exact hK8 _ _ _ _ _ _ h
def fX6_ring_8  : Nat → Int32 → Int32 → Int32 → Int32 → Int32 → Hp → Option (Int32 × Hp)
  | 0, _, _, _, _, _, _ => none
  | d + 1, a0, a2, a3, a4, a5, H => bX6_ring_8 (fX6_ring_8  d) a0 a2 a3 a4 a5 H
theorem tfX6_ring_8 {G : GG} {r : Int32} {H' : Hp}   : ∀ (d : Nat) {a0 : Int32} {a2 : Int32} {a3 : Int32} {a4 : Int32} {a5 : Int32} {H : Hp}, fX6_ring_8  d a0 a2 a3 a4 a5 H = some (r, H') → Sn G (T0 G (some (.int r)) H') mX6_ring 8 [some (.int a0), none, some (.int a2), some (.int a3), some (.int a4), some (.int a5)] [] H := by
  intro d
  induction d with
  | zero => intro a0 a2 a3 a4 a5 H h; cases h
  | succ d ih => intro a0 a2 a3 a4 a5 H h; exact tbX6_ring_8 (fun a0 a2 a3 a4 a5 H h => ih h) h
def FX6_ring  (a0 : Int32) (a1 : Int32) (a2 : Int32) (H : Hp) : Option (Int32 × Hp) :=
  fX6_ring_8  4096 a0 a2 0 a1 0 H
set_option maxHeartbeats 4000000 in
set_option maxRecDepth 100000 in
theorem tFX6_ring {G : GG} {r : Int32} {H' : Hp}   {a0 : Int32} {a1 : Int32} {a2 : Int32} {H : Hp} (h : FX6_ring  a0 a1 a2 H = some (r, H')) : Sn G (T0 G (some (.int r)) H') mX6_ring 0 [some (.int a0), some (.int a1), some (.int a2), none, none, none] [] H := by
  unfold FX6_ring at h
  refine sn_blk _ kX6_ring_0_0 (pc' := 8) (L' := [some (.int a0), some (.int a1), some (.int a2), some (.int 0), some (.int a1), some (.int 0)]) (st' := []) rfl rfl ?_
  refine sn_msk [true, false, true, true, true, true] (L2 := [some (.int a0), none, some (.int a2), some (.int 0), some (.int a1), some (.int 0)]) rfl ?_
  exact tfX6_ring_8  4096 h
theorem sX6_ring {G : GG} {r : Int32} {H' : Hp} {a0 : Int32} {a1 : Int32} {a2 : Int32} {H : Hp} (h : FX6_ring a0 a1 a2 H = some (r, H')) : SM G mX6_ring [.int a0, .int a1, .int a2] H (some (.int r)) H' := tFX6_ring h
/-! SquareFolds$Row.rings(II)I -/
theorem kX6_rings_0_0 : decB cX6_rings 0 [(.iconst 0, .int 0), (.istore_n 2, .null), (.iconst 0, .int 0), (.istore_n 3, .null), (.iconst 0, .int 0), (.istore 4, .null)] = true := by decide +kernel
theorem kX6_rings_7_0 : decB cX6_rings 7 [(.iload 4, .null), (.iload_n 1, .null)] = true := by decide +kernel
theorem kX6_rings_7_1 : decB cX6_rings 41 [(.iload_n 3, .null)] = true := by decide +kernel
theorem kX6_rings_7_2 : decB cX6_rings 13 [(.iload_n 2, .null), (.iload 4, .null)] = true := by decide +kernel
theorem kX6_rings_7_3 : decB cX6_rings 35 [(.iinc 4 1, .int 1), (.goto (-31), .retAddr 7)] = true := by decide +kernel
theorem kX6_rings_7_4 : decB cX6_rings 22 [(.iload_n 2, .null), (.iload_n 0, .null), (.iload 4, .null), (.iload_n 1, .null)] = true := by decide +kernel
theorem kX6_rings_7_5 : decB cX6_rings 30 [(.ior, .null), (.istore_n 2, .null), (.iinc 3 1, .int 1), (.iinc 4 1, .int 1), (.goto (-31), .retAddr 7)] = true := by decide +kernel
theorem dX6_rings_10 : decode cX6_rings 10 = .ok (.if_icmp .ge 31, 3) := by decide +kernel
theorem dX6_rings_16 : decode cX6_rings 16 = .ok (.invokestatic 17, 3) := by decide +kernel
theorem dX6_rings_19 : decode cX6_rings 19 = .ok (.ifCond .ne 16, 3) := by decide +kernel
theorem dX6_rings_27 : decode cX6_rings 27 = .ok (.invokestatic 21, 3) := by decide +kernel
theorem dX6_rings_42 : decode cX6_rings 42 = .ok (.ireturn, 1) := by decide +kernel
def bX6_rings_7 (K7 : Int32 → Int32 → Int32 → Int32 → Int32 → Hp → Option (Int32 × Hp)) (a0 : Int32) (a1 : Int32) (a2 : Int32) (a3 : Int32) (a4 : Int32) (H : Hp) : Option (Int32 × Hp) :=
  if (a1 ≤ a4 : Prop) then
    some (a3, H)
  else
    bd2 (FX6_isIn a2 a4 H) fun x1 H2 =>
    if (x1 = 0 : Prop) then
      bd2 (FX6_ring a0 a4 a1 H2) fun x3 H4 =>
      K7 a0 a1 (a2 ||| x3) (a3 + 1) (a4 + 1) H4
    else
      K7 a0 a1 a2 a3 (a4 + 1) H2
set_option maxHeartbeats 4000000 in
set_option maxRecDepth 100000 in
theorem tbX6_rings_7 {G : GG} {r : Int32} {H' : Hp} {K7 : Int32 → Int32 → Int32 → Int32 → Int32 → Hp → Option (Int32 × Hp)} (hK7 : ∀ (a0 : Int32) (a1 : Int32) (a2 : Int32) (a3 : Int32) (a4 : Int32) (H : Hp), K7 a0 a1 a2 a3 a4 H = some (r, H') → Sn G (T0 G (some (.int r)) H') mX6_rings 7 [some (.int a0), some (.int a1), some (.int a2), some (.int a3), some (.int a4)] [] H) {a0 : Int32} {a1 : Int32} {a2 : Int32} {a3 : Int32} {a4 : Int32} {H : Hp} (h : bX6_rings_7 K7 a0 a1 a2 a3 a4 H = some (r, H')) : Sn G (T0 G (some (.int r)) H') mX6_rings 7 [some (.int a0), some (.int a1), some (.int a2), some (.int a3), some (.int a4)] [] H := by
  unfold bX6_rings_7 at h
  refine sn_blk _ kX6_rings_7_0 (pc' := 10) (L' := [some (.int a0), some (.int a1), some (.int a2), some (.int a3), some (.int a4)]) (st' := [.int a1, .int a4]) rfl rfl ?_
  refine sn_icmp_ge (tgt := 41) dX6_rings_10 (by decide) (fun c => ?_) (fun c => ?_)
  · rw [if_pos c] at h
    refine sn_blk _ kX6_rings_7_1 (pc' := 42) (L' := [some (.int a0), some (.int a1), some (.int a2), some (.int a3), some (.int a4)]) (st' := [.int a3]) rfl rfl ?_
    cases h
    exact sn_iret (ty := .int) dX6_rings_42 rfl rfl
  · rw [if_neg c] at h
    refine sn_blk _ kX6_rings_7_2 (pc' := 16) (L' := [some (.int a0), some (.int a1), some (.int a2), some (.int a3), some (.int a4)]) (st' := [.int a4, .int a2]) rfl rfl ?_
    obtain ⟨x1, H2, hx1, h⟩ := bd2_inv h
    refine sn_calls (av := [.int a2, .int a4]) (st := []) (M2 := mX6_isIn) dX6_rings_16 msX6_isIn mlX6_17 rfl rfl rfl rfl rfl (sX6_isIn hx1) ?_
    refine sn_if_ne (tgt := 35) dX6_rings_19 (by decide) (fun c => ?_) (fun c => ?_)
    · rw [if_neg c] at h
      refine sn_blk _ kX6_rings_7_3 (pc' := 7) (L' := [some (.int a0), some (.int a1), some (.int a2), some (.int a3), some (.int (a4 + 1))]) (st' := []) rfl rfl ?_
      exact hK7 _ _ _ _ _ _ h
    · rw [if_pos c] at h
      refine sn_blk _ kX6_rings_7_4 (pc' := 27) (L' := [some (.int a0), some (.int a1), some (.int a2), some (.int a3), some (.int a4)]) (st' := [.int a1, .int a4, .int a0, .int a2]) rfl rfl ?_
      obtain ⟨x3, H4, hx3, h⟩ := bd2_inv h
      refine sn_calls (av := [.int a0, .int a4, .int a1]) (st := [.int a2]) (M2 := mX6_ring) dX6_rings_27 msX6_ring mlX6_21 rfl rfl rfl rfl rfl (sX6_ring hx3) ?_
      refine sn_blk _ kX6_rings_7_5 (pc' := 7) (L' := [some (.int a0), some (.int a1), some (.int (a2 ||| x3)), some (.int (a3 + 1)), some (.int (a4 + 1))]) (st' := []) rfl rfl ?_
      exact hK7 _ _ _ _ _ _ h
def fX6_rings_7  : Nat → Int32 → Int32 → Int32 → Int32 → Int32 → Hp → Option (Int32 × Hp)
  | 0, _, _, _, _, _, _ => none
  | d + 1, a0, a1, a2, a3, a4, H => bX6_rings_7 (fX6_rings_7  d) a0 a1 a2 a3 a4 H
theorem tfX6_rings_7 {G : GG} {r : Int32} {H' : Hp}   : ∀ (d : Nat) {a0 : Int32} {a1 : Int32} {a2 : Int32} {a3 : Int32} {a4 : Int32} {H : Hp}, fX6_rings_7  d a0 a1 a2 a3 a4 H = some (r, H') → Sn G (T0 G (some (.int r)) H') mX6_rings 7 [some (.int a0), some (.int a1), some (.int a2), some (.int a3), some (.int a4)] [] H := by
  intro d
  induction d with
  | zero => intro a0 a1 a2 a3 a4 H h; cases h
  | succ d ih => intro a0 a1 a2 a3 a4 H h; exact tbX6_rings_7 (fun a0 a1 a2 a3 a4 H h => ih h) h
def FX6_rings  (a0 : Int32) (a1 : Int32) (H : Hp) : Option (Int32 × Hp) :=
  fX6_rings_7  4096 a0 a1 0 0 0 H
set_option maxHeartbeats 4000000 in
set_option maxRecDepth 100000 in
theorem tFX6_rings {G : GG} {r : Int32} {H' : Hp}   {a0 : Int32} {a1 : Int32} {H : Hp} (h : FX6_rings  a0 a1 H = some (r, H')) : Sn G (T0 G (some (.int r)) H') mX6_rings 0 [some (.int a0), some (.int a1), none, none, none] [] H := by
  unfold FX6_rings at h
  refine sn_blk _ kX6_rings_0_0 (pc' := 7) (L' := [some (.int a0), some (.int a1), some (.int 0), some (.int 0), some (.int 0)]) (st' := []) rfl rfl ?_
  exact tfX6_rings_7  4096 h
theorem sX6_rings {G : GG} {r : Int32} {H' : Hp} {a0 : Int32} {a1 : Int32} {H : Hp} (h : FX6_rings a0 a1 H = some (r, H')) : SM G mX6_rings [.int a0, .int a1] H (some (.int r)) H' := tFX6_rings h
/-! java/lang/Integer.bitCount(I)I -/
theorem kJ6_bitCount_0f7a4_0_0 : decB cJ6_bitCount_0f7a4 0 [(.iload_n 0, .null), (.iload_n 0, .null), (.iconst 1, .int 1), (.iushr, .null)] = true := by decide +kernel
theorem kJ6_bitCount_0f7a4_0_1 : decB cJ6_bitCount_0f7a4 7 [(.iand, .null), (.isub, .null), (.istore_n 0, .null), (.iload_n 0, .null)] = true := by decide +kernel
theorem kJ6_bitCount_0f7a4_0_2 : decB cJ6_bitCount_0f7a4 14 [(.iand, .null), (.iload_n 0, .null), (.iconst 2, .int 2), (.iushr, .null)] = true := by decide +kernel
theorem kJ6_bitCount_0f7a4_0_3 : decB cJ6_bitCount_0f7a4 21 [(.iand, .null), (.iadd, .null), (.istore_n 0, .null), (.iload_n 0, .null), (.iload_n 0, .null), (.iconst 4, .int 4), (.iushr, .null), (.iadd, .null)] = true := by decide +kernel
theorem kJ6_bitCount_0f7a4_0_4 : decB cJ6_bitCount_0f7a4 32 [(.iand, .null), (.istore_n 0, .null), (.iload_n 0, .null), (.iload_n 0, .null), (.bipush 8, .int 8), (.iushr, .null), (.iadd, .null), (.istore_n 0, .null), (.iload_n 0, .null), (.iload_n 0, .null), (.bipush 16, .int 16), (.iushr, .null), (.iadd, .null), (.istore_n 0, .null), (.iload_n 0, .null), (.bipush 63, .int 63), (.iand, .null)] = true := by decide +kernel
theorem dJ6_bitCount_0f7a4_4 : decode cJ6_bitCount_0f7a4 4 = .ok (.ldc_w 265, 3) := by decide +kernel
theorem dJ6_bitCount_0f7a4_11 : decode cJ6_bitCount_0f7a4 11 = .ok (.ldc_w 266, 3) := by decide +kernel
theorem dJ6_bitCount_0f7a4_18 : decode cJ6_bitCount_0f7a4 18 = .ok (.ldc_w 266, 3) := by decide +kernel
theorem dJ6_bitCount_0f7a4_29 : decode cJ6_bitCount_0f7a4 29 = .ok (.ldc_w 267, 3) := by decide +kernel
theorem dJ6_bitCount_0f7a4_52 : decode cJ6_bitCount_0f7a4 52 = .ok (.ireturn, 1) := by decide +kernel
def FJ6_bitCount_0f7a4  (a0 : Int32) (H : Hp) : Option (Int32 × Hp) :=
  some (((((((((a0 - ((iushrF a0 1) &&& 1431655765)) &&& 858993459) + ((iushrF (a0 - ((iushrF a0 1) &&& 1431655765)) 2) &&& 858993459)) + (iushrF (((a0 - ((iushrF a0 1) &&& 1431655765)) &&& 858993459) + ((iushrF (a0 - ((iushrF a0 1) &&& 1431655765)) 2) &&& 858993459)) 4)) &&& 252645135) + (iushrF (((((a0 - ((iushrF a0 1) &&& 1431655765)) &&& 858993459) + ((iushrF (a0 - ((iushrF a0 1) &&& 1431655765)) 2) &&& 858993459)) + (iushrF (((a0 - ((iushrF a0 1) &&& 1431655765)) &&& 858993459) + ((iushrF (a0 - ((iushrF a0 1) &&& 1431655765)) 2) &&& 858993459)) 4)) &&& 252645135) 8)) + (iushrF ((((((a0 - ((iushrF a0 1) &&& 1431655765)) &&& 858993459) + ((iushrF (a0 - ((iushrF a0 1) &&& 1431655765)) 2) &&& 858993459)) + (iushrF (((a0 - ((iushrF a0 1) &&& 1431655765)) &&& 858993459) + ((iushrF (a0 - ((iushrF a0 1) &&& 1431655765)) 2) &&& 858993459)) 4)) &&& 252645135) + (iushrF (((((a0 - ((iushrF a0 1) &&& 1431655765)) &&& 858993459) + ((iushrF (a0 - ((iushrF a0 1) &&& 1431655765)) 2) &&& 858993459)) + (iushrF (((a0 - ((iushrF a0 1) &&& 1431655765)) &&& 858993459) + ((iushrF (a0 - ((iushrF a0 1) &&& 1431655765)) 2) &&& 858993459)) 4)) &&& 252645135) 8)) 16)) &&& 63), H)
set_option maxHeartbeats 4000000 in
set_option maxRecDepth 100000 in
theorem tFJ6_bitCount_0f7a4 {G : GG} {r : Int32} {H' : Hp}   {a0 : Int32} {H : Hp} (h : FJ6_bitCount_0f7a4  a0 H = some (r, H')) : Sn G (T0 G (some (.int r)) H') mJ6_bitCount_0f7a4 0 [some (.int a0)] [] H := by
  unfold FJ6_bitCount_0f7a4 at h
  refine sn_blk _ kJ6_bitCount_0f7a4_0_0 (pc' := 4) (L' := [some (.int a0)]) (st' := [.int (iushrF a0 1), .int a0]) rfl rfl ?_
  refine sn_ldcw dJ6_bitCount_0f7a4_4 kcJ6_265 ?_
  refine sn_blk _ kJ6_bitCount_0f7a4_0_1 (pc' := 11) (L' := [some (.int (a0 - ((iushrF a0 1) &&& 1431655765)))]) (st' := [.int (a0 - ((iushrF a0 1) &&& 1431655765))]) rfl rfl ?_
  refine sn_ldcw dJ6_bitCount_0f7a4_11 kcJ6_266 ?_
  refine sn_blk _ kJ6_bitCount_0f7a4_0_2 (pc' := 18) (L' := [some (.int (a0 - ((iushrF a0 1) &&& 1431655765)))]) (st' := [.int (iushrF (a0 - ((iushrF a0 1) &&& 1431655765)) 2), .int ((a0 - ((iushrF a0 1) &&& 1431655765)) &&& 858993459)]) rfl rfl ?_
  refine sn_ldcw dJ6_bitCount_0f7a4_18 kcJ6_266 ?_
  refine sn_blk _ kJ6_bitCount_0f7a4_0_3 (pc' := 29) (L' := [some (.int (((a0 - ((iushrF a0 1) &&& 1431655765)) &&& 858993459) + ((iushrF (a0 - ((iushrF a0 1) &&& 1431655765)) 2) &&& 858993459)))]) (st' := [.int ((((a0 - ((iushrF a0 1) &&& 1431655765)) &&& 858993459) + ((iushrF (a0 - ((iushrF a0 1) &&& 1431655765)) 2) &&& 858993459)) + (iushrF (((a0 - ((iushrF a0 1) &&& 1431655765)) &&& 858993459) + ((iushrF (a0 - ((iushrF a0 1) &&& 1431655765)) 2) &&& 858993459)) 4))]) rfl rfl ?_
  refine sn_ldcw dJ6_bitCount_0f7a4_29 kcJ6_267 ?_
  refine sn_blk _ kJ6_bitCount_0f7a4_0_4 (pc' := 52) (L' := [some (.int (((((((a0 - ((iushrF a0 1) &&& 1431655765)) &&& 858993459) + ((iushrF (a0 - ((iushrF a0 1) &&& 1431655765)) 2) &&& 858993459)) + (iushrF (((a0 - ((iushrF a0 1) &&& 1431655765)) &&& 858993459) + ((iushrF (a0 - ((iushrF a0 1) &&& 1431655765)) 2) &&& 858993459)) 4)) &&& 252645135) + (iushrF (((((a0 - ((iushrF a0 1) &&& 1431655765)) &&& 858993459) + ((iushrF (a0 - ((iushrF a0 1) &&& 1431655765)) 2) &&& 858993459)) + (iushrF (((a0 - ((iushrF a0 1) &&& 1431655765)) &&& 858993459) + ((iushrF (a0 - ((iushrF a0 1) &&& 1431655765)) 2) &&& 858993459)) 4)) &&& 252645135) 8)) + (iushrF ((((((a0 - ((iushrF a0 1) &&& 1431655765)) &&& 858993459) + ((iushrF (a0 - ((iushrF a0 1) &&& 1431655765)) 2) &&& 858993459)) + (iushrF (((a0 - ((iushrF a0 1) &&& 1431655765)) &&& 858993459) + ((iushrF (a0 - ((iushrF a0 1) &&& 1431655765)) 2) &&& 858993459)) 4)) &&& 252645135) + (iushrF (((((a0 - ((iushrF a0 1) &&& 1431655765)) &&& 858993459) + ((iushrF (a0 - ((iushrF a0 1) &&& 1431655765)) 2) &&& 858993459)) + (iushrF (((a0 - ((iushrF a0 1) &&& 1431655765)) &&& 858993459) + ((iushrF (a0 - ((iushrF a0 1) &&& 1431655765)) 2) &&& 858993459)) 4)) &&& 252645135) 8)) 16)))]) (st' := [.int ((((((((a0 - ((iushrF a0 1) &&& 1431655765)) &&& 858993459) + ((iushrF (a0 - ((iushrF a0 1) &&& 1431655765)) 2) &&& 858993459)) + (iushrF (((a0 - ((iushrF a0 1) &&& 1431655765)) &&& 858993459) + ((iushrF (a0 - ((iushrF a0 1) &&& 1431655765)) 2) &&& 858993459)) 4)) &&& 252645135) + (iushrF (((((a0 - ((iushrF a0 1) &&& 1431655765)) &&& 858993459) + ((iushrF (a0 - ((iushrF a0 1) &&& 1431655765)) 2) &&& 858993459)) + (iushrF (((a0 - ((iushrF a0 1) &&& 1431655765)) &&& 858993459) + ((iushrF (a0 - ((iushrF a0 1) &&& 1431655765)) 2) &&& 858993459)) 4)) &&& 252645135) 8)) + (iushrF ((((((a0 - ((iushrF a0 1) &&& 1431655765)) &&& 858993459) + ((iushrF (a0 - ((iushrF a0 1) &&& 1431655765)) 2) &&& 858993459)) + (iushrF (((a0 - ((iushrF a0 1) &&& 1431655765)) &&& 858993459) + ((iushrF (a0 - ((iushrF a0 1) &&& 1431655765)) 2) &&& 858993459)) 4)) &&& 252645135) + (iushrF (((((a0 - ((iushrF a0 1) &&& 1431655765)) &&& 858993459) + ((iushrF (a0 - ((iushrF a0 1) &&& 1431655765)) 2) &&& 858993459)) + (iushrF (((a0 - ((iushrF a0 1) &&& 1431655765)) &&& 858993459) + ((iushrF (a0 - ((iushrF a0 1) &&& 1431655765)) 2) &&& 858993459)) 4)) &&& 252645135) 8)) 16)) &&& 63)]) rfl rfl ?_
  cases h
  exact sn_iret (ty := .int) dJ6_bitCount_0f7a4_52 rfl rfl
theorem sJ6_bitCount_0f7a4 {G : GG} {r : Int32} {H' : Hp} {a0 : Int32} {H : Hp} (h : FJ6_bitCount_0f7a4 a0 H = some (r, H')) : SM G mJ6_bitCount_0f7a4 [.int a0] H (some (.int r)) H' := tFJ6_bitCount_0f7a4 h
/-! SquareFolds$Row.staying(I)I -/
theorem kX6_staying_0_0 : decB cX6_staying 0 [(.iconst 0, .int 0), (.istore_n 1, .null), (.iconst 0, .int 0), (.istore_n 2, .null)] = true := by decide +kernel
theorem kX6_staying_4_0 : decB cX6_staying 4 [(.iload_n 2, .null), (.iload_n 0, .null)] = true := by decide +kernel
theorem kX6_staying_4_1 : decB cX6_staying 22 [(.iload_n 1, .null)] = true := by decide +kernel
theorem kX6_staying_4_2 : decB cX6_staying 9 [(.iload_n 1, .null), (.iload_n 2, .null), (.iload_n 2, .null)] = true := by decide +kernel
theorem kX6_staying_4_3 : decB cX6_staying 15 [(.istore_n 1, .null), (.iinc 2 1, .int 1), (.goto (-15), .retAddr 4)] = true := by decide +kernel
theorem dX6_staying_6 : decode cX6_staying 6 = .ok (.if_icmp .ge 16, 3) := by decide +kernel
theorem dX6_staying_12 : decode cX6_staying 12 = .ok (.invokestatic 7, 3) := by decide +kernel
theorem dX6_staying_23 : decode cX6_staying 23 = .ok (.ireturn, 1) := by decide +kernel
def bX6_staying_4 (K4 : Int32 → Int32 → Int32 → Hp → Option (Int32 × Hp)) (a0 : Int32) (a1 : Int32) (a2 : Int32) (H : Hp) : Option (Int32 × Hp) :=
  if (a0 ≤ a2 : Prop) then
    some (a1, H)
  else
    bd2 (FX6_put a1 a2 a2 H) fun x1 H2 =>
    K4 a0 x1 (a2 + 1) H2
set_option maxHeartbeats 4000000 in
set_option maxRecDepth 100000 in
theorem tbX6_staying_4 {G : GG} {r : Int32} {H' : Hp} {K4 : Int32 → Int32 → Int32 → Hp → Option (Int32 × Hp)} (hK4 : ∀ (a0 : Int32) (a1 : Int32) (a2 : Int32) (H : Hp), K4 a0 a1 a2 H = some (r, H') → Sn G (T0 G (some (.int r)) H') mX6_staying 4 [some (.int a0), some (.int a1), some (.int a2)] [] H) {a0 : Int32} {a1 : Int32} {a2 : Int32} {H : Hp} (h : bX6_staying_4 K4 a0 a1 a2 H = some (r, H')) : Sn G (T0 G (some (.int r)) H') mX6_staying 4 [some (.int a0), some (.int a1), some (.int a2)] [] H := by
  unfold bX6_staying_4 at h
  refine sn_blk _ kX6_staying_4_0 (pc' := 6) (L' := [some (.int a0), some (.int a1), some (.int a2)]) (st' := [.int a0, .int a2]) rfl rfl ?_
  refine sn_icmp_ge (tgt := 22) dX6_staying_6 (by decide) (fun c => ?_) (fun c => ?_)
  · rw [if_pos c] at h
    refine sn_blk _ kX6_staying_4_1 (pc' := 23) (L' := [some (.int a0), some (.int a1), some (.int a2)]) (st' := [.int a1]) rfl rfl ?_
    cases h
    exact sn_iret (ty := .int) dX6_staying_23 rfl rfl
  · rw [if_neg c] at h
    refine sn_blk _ kX6_staying_4_2 (pc' := 12) (L' := [some (.int a0), some (.int a1), some (.int a2)]) (st' := [.int a2, .int a2, .int a1]) rfl rfl ?_
    obtain ⟨x1, H2, hx1, h⟩ := bd2_inv h
    refine sn_calls (av := [.int a1, .int a2, .int a2]) (st := []) (M2 := mX6_put) dX6_staying_12 msX6_put mlX6_7 rfl rfl rfl rfl rfl (sX6_put hx1) ?_
    refine sn_blk _ kX6_staying_4_3 (pc' := 4) (L' := [some (.int a0), some (.int x1), some (.int (a2 + 1))]) (st' := []) rfl rfl ?_
    exact hK4 _ _ _ _ h
def fX6_staying_4  : Nat → Int32 → Int32 → Int32 → Hp → Option (Int32 × Hp)
  | 0, _, _, _, _ => none
  | d + 1, a0, a1, a2, H => bX6_staying_4 (fX6_staying_4  d) a0 a1 a2 H
theorem tfX6_staying_4 {G : GG} {r : Int32} {H' : Hp}   : ∀ (d : Nat) {a0 : Int32} {a1 : Int32} {a2 : Int32} {H : Hp}, fX6_staying_4  d a0 a1 a2 H = some (r, H') → Sn G (T0 G (some (.int r)) H') mX6_staying 4 [some (.int a0), some (.int a1), some (.int a2)] [] H := by
  intro d
  induction d with
  | zero => intro a0 a1 a2 H h; cases h
  | succ d ih => intro a0 a1 a2 H h; exact tbX6_staying_4 (fun a0 a1 a2 H h => ih h) h
def FX6_staying  (a0 : Int32) (H : Hp) : Option (Int32 × Hp) :=
  fX6_staying_4  4096 a0 0 0 H
set_option maxHeartbeats 4000000 in
set_option maxRecDepth 100000 in
theorem tFX6_staying {G : GG} {r : Int32} {H' : Hp}   {a0 : Int32} {H : Hp} (h : FX6_staying  a0 H = some (r, H')) : Sn G (T0 G (some (.int r)) H') mX6_staying 0 [some (.int a0), none, none] [] H := by
  unfold FX6_staying at h
  refine sn_blk _ kX6_staying_0_0 (pc' := 4) (L' := [some (.int a0), some (.int 0), some (.int 0)]) (st' := []) rfl rfl ?_
  exact tfX6_staying_4  4096 h
theorem sX6_staying {G : GG} {r : Int32} {H' : Hp} {a0 : Int32} {H : Hp} (h : FX6_staying a0 H = some (r, H')) : SM G mX6_staying [.int a0] H (some (.int r)) H' := tFX6_staying h
end
