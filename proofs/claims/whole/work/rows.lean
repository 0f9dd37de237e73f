section
-- ===== PART A: goes FIRST, ahead of the names: the tables' words, and 'selects' of the private methods out of them =====
/-- a private method of a class that the tables say can be made, by its rows of tables_1 -/
def lw_okq (q : MethodName × Nat) : Prop := (q.1.cls ≠ "java/lang/invoke/MethodHandle" ∧ q.1.cls ≠ "java/lang/invoke/VarHandle") ∧ Cond.instantiable q.1.cls q.2 ∈ tables_1 ∧ Cond.privateMethod q.1 ∈ tables_1 ∧ Cond.instanceMethod q.1 ∈ tables_1
theorem lw_p0 : lw_okq (⟨"SquareFolds$Gluing", "isContinued", "(II)Z"⟩, 3) := ⟨⟨by decide +kernel, by decide +kernel⟩, List.mem_of_getElem? (i := 39) (by decide +kernel), List.mem_of_getElem? (i := 320) (by decide +kernel), List.mem_of_getElem? (i := 321) (by decide +kernel)⟩
theorem lw_p1 : lw_okq (⟨"SquareFolds", "groupSize", "()I"⟩, 10) := ⟨⟨by decide +kernel, by decide +kernel⟩, List.mem_of_getElem? (i := 16) (by decide +kernel), List.mem_of_getElem? (i := 324) (by decide +kernel), List.mem_of_getElem? (i := 325) (by decide +kernel)⟩
theorem lw_p2 : lw_okq (⟨"SquareFolds$NameOrbit", "placeSheared", "(III)I"⟩, 3) := ⟨⟨by decide +kernel, by decide +kernel⟩, List.mem_of_getElem? (i := 108) (by decide +kernel), List.mem_of_getElem? (i := 456) (by decide +kernel), List.mem_of_getElem? (i := 457) (by decide +kernel)⟩
theorem lw_p3 : lw_okq (⟨"SquareFolds$NameOrbit", "ringFrom", "(I)I"⟩, 3) := ⟨⟨by decide +kernel, by decide +kernel⟩, List.mem_of_getElem? (i := 108) (by decide +kernel), List.mem_of_getElem? (i := 471) (by decide +kernel), List.mem_of_getElem? (i := 472) (by decide +kernel)⟩
theorem lw_p4 : lw_okq (⟨"SquareFolds$Gluing", "didShear", "(I)Z"⟩, 3) := ⟨⟨by decide +kernel, by decide +kernel⟩, List.mem_of_getElem? (i := 39) (by decide +kernel), List.mem_of_getElem? (i := 497) (by decide +kernel), List.mem_of_getElem? (i := 498) (by decide +kernel)⟩
theorem lw_p5 : lw_okq (⟨"SquareFolds$Gluing", "didTrade", "(II)Z"⟩, 3) := ⟨⟨by decide +kernel, by decide +kernel⟩, List.mem_of_getElem? (i := 39) (by decide +kernel), List.mem_of_getElem? (i := 502) (by decide +kernel), List.mem_of_getElem? (i := 503) (by decide +kernel)⟩
theorem lw_p6 : lw_okq (⟨"SquareFolds", "allSeenFrom", "(I)Z"⟩, 10) := ⟨⟨by decide +kernel, by decide +kernel⟩, List.mem_of_getElem? (i := 16) (by decide +kernel), List.mem_of_getElem? (i := 555) (by decide +kernel), List.mem_of_getElem? (i := 556) (by decide +kernel)⟩
theorem lw_p7 : lw_okq (⟨"SquareFolds$Gluing", "casesOfOpen", "(II)I"⟩, 3) := ⟨⟨by decide +kernel, by decide +kernel⟩, List.mem_of_getElem? (i := 39) (by decide +kernel), List.mem_of_getElem? (i := 575) (by decide +kernel), List.mem_of_getElem? (i := 576) (by decide +kernel)⟩
theorem lw_p8 : lw_okq (⟨"SquareFolds$Gluing", "leftBy", "(J)I"⟩, 3) := ⟨⟨by decide +kernel, by decide +kernel⟩, List.mem_of_getElem? (i := 39) (by decide +kernel), List.mem_of_getElem? (i := 599) (by decide +kernel), List.mem_of_getElem? (i := 600) (by decide +kernel)⟩
theorem lw_p9 : lw_okq (⟨"SquareFoldsModel", "canStand", "(I)Z"⟩, 23) := ⟨⟨by decide +kernel, by decide +kernel⟩, List.mem_of_getElem? (i := 633) (by decide +kernel), List.mem_of_getElem? (i := 726) (by decide +kernel), List.mem_of_getElem? (i := 727) (by decide +kernel)⟩
theorem lw_p10 : lw_okq (⟨"SquareFoldsModel", "groupSize", "()I"⟩, 23) := ⟨⟨by decide +kernel, by decide +kernel⟩, List.mem_of_getElem? (i := 633) (by decide +kernel), List.mem_of_getElem? (i := 800) (by decide +kernel), List.mem_of_getElem? (i := 801) (by decide +kernel)⟩
theorem lw_p11 : lw_okq (⟨"SquareFoldsModel", "isSquare", "(I)Z"⟩, 23) := ⟨⟨by decide +kernel, by decide +kernel⟩, List.mem_of_getElem? (i := 633) (by decide +kernel), List.mem_of_getElem? (i := 814) (by decide +kernel), List.mem_of_getElem? (i := 815) (by decide +kernel)⟩
theorem lw_p12 : lw_okq (⟨"SquareFoldsModel", "nameFrom", "([II)J"⟩, 23) := ⟨⟨by decide +kernel, by decide +kernel⟩, List.mem_of_getElem? (i := 633) (by decide +kernel), List.mem_of_getElem? (i := 846) (by decide +kernel), List.mem_of_getElem? (i := 847) (by decide +kernel)⟩
theorem lw_p13 : lw_okq (⟨"SquareFoldsModel", "meet", "(I)V"⟩, 23) := ⟨⟨by decide +kernel, by decide +kernel⟩, List.mem_of_getElem? (i := 633) (by decide +kernel), List.mem_of_getElem? (i := 850) (by decide +kernel), List.mem_of_getElem? (i := 851) (by decide +kernel)⟩
theorem lw_p14 : lw_okq (⟨"SquareFoldsModel", "leastName", "([II)J"⟩, 23) := ⟨⟨by decide +kernel, by decide +kernel⟩, List.mem_of_getElem? (i := 633) (by decide +kernel), List.mem_of_getElem? (i := 855) (by decide +kernel), List.mem_of_getElem? (i := 856) (by decide +kernel)⟩
theorem lw_p15 : lw_okq (⟨"SquareFoldsModel", "note", "()V"⟩, 23) := ⟨⟨by decide +kernel, by decide +kernel⟩, List.mem_of_getElem? (i := 633) (by decide +kernel), List.mem_of_getElem? (i := 864) (by decide +kernel), List.mem_of_getElem? (i := 865) (by decide +kernel)⟩
def lw_privs_1 : List (MethodName × Nat) := [(⟨"SquareFolds$Gluing", "isContinued", "(II)Z"⟩, 3), (⟨"SquareFolds", "groupSize", "()I"⟩, 10), (⟨"SquareFolds$NameOrbit", "placeSheared", "(III)I"⟩, 3), (⟨"SquareFolds$NameOrbit", "ringFrom", "(I)I"⟩, 3), (⟨"SquareFolds$Gluing", "didShear", "(I)Z"⟩, 3), (⟨"SquareFolds$Gluing", "didTrade", "(II)Z"⟩, 3), (⟨"SquareFolds", "allSeenFrom", "(I)Z"⟩, 10), (⟨"SquareFolds$Gluing", "casesOfOpen", "(II)I"⟩, 3), (⟨"SquareFolds$Gluing", "leftBy", "(J)I"⟩, 3), (⟨"SquareFoldsModel", "canStand", "(I)Z"⟩, 23), (⟨"SquareFoldsModel", "groupSize", "()I"⟩, 23), (⟨"SquareFoldsModel", "isSquare", "(I)Z"⟩, 23), (⟨"SquareFoldsModel", "nameFrom", "([II)J"⟩, 23), (⟨"SquareFoldsModel", "meet", "(I)V"⟩, 23), (⟨"SquareFoldsModel", "leastName", "([II)J"⟩, 23), (⟨"SquareFoldsModel", "note", "()V"⟩, 23)]
theorem lw_r1 : ∀ q ∈ lw_privs_1, lw_okq q := List.forall_mem_cons.mpr ⟨lw_p0, List.forall_mem_cons.mpr ⟨lw_p1, List.forall_mem_cons.mpr ⟨lw_p2, List.forall_mem_cons.mpr ⟨lw_p3, List.forall_mem_cons.mpr ⟨lw_p4, List.forall_mem_cons.mpr ⟨lw_p5, List.forall_mem_cons.mpr ⟨lw_p6, List.forall_mem_cons.mpr ⟨lw_p7, List.forall_mem_cons.mpr ⟨lw_p8, List.forall_mem_cons.mpr ⟨lw_p9, List.forall_mem_cons.mpr ⟨lw_p10, List.forall_mem_cons.mpr ⟨lw_p11, List.forall_mem_cons.mpr ⟨lw_p12, List.forall_mem_cons.mpr ⟨lw_p13, List.forall_mem_cons.mpr ⟨lw_p14, List.forall_mem_cons.mpr ⟨lw_p15, fun _ h => absurd h List.not_mem_nil⟩⟩⟩⟩⟩⟩⟩⟩⟩⟩⟩⟩⟩⟩⟩⟩
theorem lw_p16 : lw_okq (⟨"SquareFoldsModel", "shearOn", "([II)V"⟩, 23) := ⟨⟨by decide +kernel, by decide +kernel⟩, List.mem_of_getElem? (i := 633) (by decide +kernel), List.mem_of_getElem? (i := 868) (by decide +kernel), List.mem_of_getElem? (i := 869) (by decide +kernel)⟩
theorem lw_p17 : lw_okq (⟨"SquareFoldsModel", "side", "([I)V"⟩, 23) := ⟨⟨by decide +kernel, by decide +kernel⟩, List.mem_of_getElem? (i := 633) (by decide +kernel), List.mem_of_getElem? (i := 872) (by decide +kernel), List.mem_of_getElem? (i := 873) (by decide +kernel)⟩
theorem lw_p18 : lw_okq (⟨"SquareFoldsModel", "layAside", "([I)V"⟩, 23) := ⟨⟨by decide +kernel, by decide +kernel⟩, List.mem_of_getElem? (i := 633) (by decide +kernel), List.mem_of_getElem? (i := 876) (by decide +kernel), List.mem_of_getElem? (i := 877) (by decide +kernel)⟩
theorem lw_p19 : lw_okq (⟨"SquareFoldsModel", "upward", "([I)V"⟩, 23) := ⟨⟨by decide +kernel, by decide +kernel⟩, List.mem_of_getElem? (i := 633) (by decide +kernel), List.mem_of_getElem? (i := 880) (by decide +kernel), List.mem_of_getElem? (i := 881) (by decide +kernel)⟩
theorem lw_p20 : lw_okq (⟨"SquareFoldsModel", "quarter", "([I)V"⟩, 23) := ⟨⟨by decide +kernel, by decide +kernel⟩, List.mem_of_getElem? (i := 633) (by decide +kernel), List.mem_of_getElem? (i := 884) (by decide +kernel), List.mem_of_getElem? (i := 885) (by decide +kernel)⟩
theorem lw_p21 : lw_okq (⟨"SquareFoldsModel", "change", "([III)V"⟩, 23) := ⟨⟨by decide +kernel, by decide +kernel⟩, List.mem_of_getElem? (i := 633) (by decide +kernel), List.mem_of_getElem? (i := 892) (by decide +kernel), List.mem_of_getElem? (i := 893) (by decide +kernel)⟩
theorem lw_p22 : lw_okq (⟨"SquareFoldsModel", "findOrbit", "(I)V"⟩, 23) := ⟨⟨by decide +kernel, by decide +kernel⟩, List.mem_of_getElem? (i := 633) (by decide +kernel), List.mem_of_getElem? (i := 907) (by decide +kernel), List.mem_of_getElem? (i := 908) (by decide +kernel)⟩
theorem lw_p23 : lw_okq (⟨"SquareFoldsModel", "enter", "(J)I"⟩, 23) := ⟨⟨by decide +kernel, by decide +kernel⟩, List.mem_of_getElem? (i := 633) (by decide +kernel), List.mem_of_getElem? (i := 911) (by decide +kernel), List.mem_of_getElem? (i := 912) (by decide +kernel)⟩
theorem lw_p24 : lw_okq (⟨"SquareFoldsModel", "placeOf", "(J)I"⟩, 23) := ⟨⟨by decide +kernel, by decide +kernel⟩, List.mem_of_getElem? (i := 633) (by decide +kernel), List.mem_of_getElem? (i := 915) (by decide +kernel), List.mem_of_getElem? (i := 916) (by decide +kernel)⟩
theorem lw_p25 : lw_okq (⟨"SquareFoldsModel", "tellBack", "(JI)V"⟩, 23) := ⟨⟨by decide +kernel, by decide +kernel⟩, List.mem_of_getElem? (i := 633) (by decide +kernel), List.mem_of_getElem? (i := 919) (by decide +kernel), List.mem_of_getElem? (i := 920) (by decide +kernel)⟩
theorem lw_p26 : lw_okq (⟨"SquareFoldsModel", "ring", "(I)I"⟩, 23) := ⟨⟨by decide +kernel, by decide +kernel⟩, List.mem_of_getElem? (i := 633) (by decide +kernel), List.mem_of_getElem? (i := 923) (by decide +kernel), List.mem_of_getElem? (i := 924) (by decide +kernel)⟩
theorem lw_p27 : lw_okq (⟨"SquareFoldsModel", "judged", "(IIII)Z"⟩, 23) := ⟨⟨by decide +kernel, by decide +kernel⟩, List.mem_of_getElem? (i := 633) (by decide +kernel), List.mem_of_getElem? (i := 942) (by decide +kernel), List.mem_of_getElem? (i := 943) (by decide +kernel)⟩
def lw_privs_2 : List (MethodName × Nat) := [(⟨"SquareFoldsModel", "shearOn", "([II)V"⟩, 23), (⟨"SquareFoldsModel", "side", "([I)V"⟩, 23), (⟨"SquareFoldsModel", "layAside", "([I)V"⟩, 23), (⟨"SquareFoldsModel", "upward", "([I)V"⟩, 23), (⟨"SquareFoldsModel", "quarter", "([I)V"⟩, 23), (⟨"SquareFoldsModel", "change", "([III)V"⟩, 23), (⟨"SquareFoldsModel", "findOrbit", "(I)V"⟩, 23), (⟨"SquareFoldsModel", "enter", "(J)I"⟩, 23), (⟨"SquareFoldsModel", "placeOf", "(J)I"⟩, 23), (⟨"SquareFoldsModel", "tellBack", "(JI)V"⟩, 23), (⟨"SquareFoldsModel", "ring", "(I)I"⟩, 23), (⟨"SquareFoldsModel", "judged", "(IIII)Z"⟩, 23)]
theorem lw_r2 : ∀ q ∈ lw_privs_2, lw_okq q := List.forall_mem_cons.mpr ⟨lw_p16, List.forall_mem_cons.mpr ⟨lw_p17, List.forall_mem_cons.mpr ⟨lw_p18, List.forall_mem_cons.mpr ⟨lw_p19, List.forall_mem_cons.mpr ⟨lw_p20, List.forall_mem_cons.mpr ⟨lw_p21, List.forall_mem_cons.mpr ⟨lw_p22, List.forall_mem_cons.mpr ⟨lw_p23, List.forall_mem_cons.mpr ⟨lw_p24, List.forall_mem_cons.mpr ⟨lw_p25, List.forall_mem_cons.mpr ⟨lw_p26, List.forall_mem_cons.mpr ⟨lw_p27, fun _ h => absurd h List.not_mem_nil⟩⟩⟩⟩⟩⟩⟩⟩⟩⟩⟩⟩
def lw_privs : List (MethodName × Nat) := lw_privs_1 ++ (lw_privs_2)
def lw_tbl : List Cond := k2_sels lw_privs ++ tables_1
theorem lw_privs_ok : ∀ q ∈ lw_privs, lw_okq q := by
  show ∀ q ∈ lw_privs_1 ++ (lw_privs_2), lw_okq q
  exact List.forall_mem_append.mpr ⟨lw_r1, lw_r2⟩
end
section
def RX0 : String := "SquareFolds$Distinct"
def TX0 : u_T := fun k => match k with
  | 0 => ("SquareFolds$Distinct", "numbers", "[J", true)
  | _ => ("SquareFolds$Distinct", "count", "I", false)
def tyX0 : Nat → FieldType := fun k => match k with
  | 0 => .array .long
  | _ => .int
abbrev wsX00 : List Cond := u_ws RX0 TX0 2
theorem nmX0 : ∀ a, a < 2 → ∀ b, b < 2 → a ≠ b → (TX0 a).2.1 ≠ (TX0 b).2.1 := by decide +kernel
theorem tyX0_ok : ∀ k, k < 2 → parseFieldDescriptor (TX0 k).2.2.1 = some (tyX0 k) := by decide +kernel
abbrev cX0_init : ByteArray := prog_2_method_1_code
def yX0_init : MethodName := ⟨RX0, "<init>", "()V"⟩
abbrev cX0_at : ByteArray := prog_2_method_2_code
def yX0_at : MethodName := ⟨RX0, "at", "(I)J"⟩
abbrev cX0_find : ByteArray := prog_2_method_3_code
def yX0_find : MethodName := ⟨RX0, "find", "(J)I"⟩
abbrev cX0_placeOf : ByteArray := prog_2_method_4_code
def yX0_placeOf : MethodName := ⟨RX0, "placeOf", "(J)I"⟩
def RX1 : String := "SquareFolds$Fraction"
def TX1 : u_T := fun k => match k with
  | 0 => ("SquareFolds$Fraction", "above", "I", false)
  | _ => ("SquareFolds$Fraction", "below", "I", false)
def tyX1 : Nat → FieldType := fun k => match k with
  | 0 => .int
  | _ => .int
abbrev wsX10 : List Cond := u_ws RX1 TX1 2
theorem nmX1 : ∀ a, a < 2 → ∀ b, b < 2 → a ≠ b → (TX1 a).2.1 ≠ (TX1 b).2.1 := by decide +kernel
theorem tyX1_ok : ∀ k, k < 2 → parseFieldDescriptor (TX1 k).2.2.1 = some (tyX1 k) := by decide +kernel
abbrev cX1_init : ByteArray := prog_3_method_1_code
def yX1_init : MethodName := ⟨RX1, "<init>", "()V"⟩
abbrev cX1_become : ByteArray := prog_3_method_2_code
def yX1_become : MethodName := ⟨RX1, "become", "(II)V"⟩
abbrev cX1_told : ByteArray := prog_3_method_3_code
def yX1_told : MethodName := ⟨RX1, "told", "(Z)I"⟩
abbrev cX1_measure : ByteArray := prog_3_method_4_code
def yX1_measure : MethodName := ⟨RX1, "measure", "(II)I"⟩
def RX2 : String := "SquareFolds$Gluing"
def TX2 : u_T := fun k => match k with
  | 0 => ("SquareFolds$Gluing", "squares", "I", false)
  | 1 => ("SquareFolds$Gluing", "right", "I", false)
  | _ => ("SquareFolds$Gluing", "up", "I", false)
def tyX2 : Nat → FieldType := fun k => match k with
  | 0 => .int
  | 1 => .int
  | _ => .int
abbrev wsX20 : List Cond := u_ws RX2 TX2 3
theorem nmX2 : ∀ a, a < 3 → ∀ b, b < 3 → a ≠ b → (TX2 a).2.1 ≠ (TX2 b).2.1 := by decide +kernel
theorem tyX2_ok : ∀ k, k < 3 → parseFieldDescriptor (TX2 k).2.2.1 = some (tyX2 k) := by decide +kernel
abbrev cX2_init : ByteArray := prog_4_method_1_code
def yX2_init : MethodName := ⟨RX2, "<init>", "()V"⟩
abbrev cX2_become : ByteArray := prog_4_method_2_code
def yX2_become : MethodName := ⟨RX2, "become", "(III)V"⟩
abbrev cX2_has : ByteArray := prog_4_method_3_code
def yX2_has : MethodName := ⟨RX2, "has", "(I)Z"⟩
abbrev cX2_all : ByteArray := prog_4_method_4_code
def yX2_all : MethodName := ⟨RX2, "all", "()I"⟩
abbrev cX2_left : ByteArray := prog_4_method_5_code
def yX2_left : MethodName := ⟨RX2, "left", "()I"⟩
abbrev cX2_down : ByteArray := prog_4_method_6_code
def yX2_down : MethodName := ⟨RX2, "down", "()I"⟩
abbrev cX2_moved : ByteArray := prog_4_method_7_code
def yX2_moved : MethodName := ⟨RX2, "moved", "(II)I"⟩
abbrev cX2_walked : ByteArray := prog_4_method_8_code
def yX2_walked : MethodName := ⟨RX2, "walked", "(II)I"⟩
abbrev cX2_reach : ByteArray := prog_4_method_9_code
def yX2_reach : MethodName := ⟨RX2, "reach", "(III)I"⟩
abbrev cX2_joined : ByteArray := prog_4_method_10_code
def yX2_joined : MethodName := ⟨RX2, "joined", "(III)I"⟩
abbrev cX2_piece : ByteArray := prog_4_method_11_code
def yX2_piece : MethodName := ⟨RX2, "piece", "(I)I"⟩
abbrev cX2_pieces : ByteArray := prog_4_method_12_code
def yX2_pieces : MethodName := ⟨RX2, "pieces", "(I)I"⟩
abbrev cX2_turnedRound : ByteArray := prog_4_method_13_code
def yX2_turnedRound : MethodName := ⟨RX2, "turnedRound", "()I"⟩
abbrev cX2_corners : ByteArray := prog_4_method_14_code
def yX2_corners : MethodName := ⟨RX2, "corners", "()I"⟩
abbrev cX2_ordinaryCorners : ByteArray := prog_4_method_15_code
def yX2_ordinaryCorners : MethodName := ⟨RX2, "ordinaryCorners", "()I"⟩
abbrev cX2_mostTurns : ByteArray := prog_4_method_16_code
def yX2_mostTurns : MethodName := ⟨RX2, "mostTurns", "()I"⟩
abbrev cX2_holes : ByteArray := prog_4_method_17_code
def yX2_holes : MethodName := ⟨RX2, "holes", "(I)I"⟩
abbrev cX2_rows : ByteArray := prog_4_method_18_code
def yX2_rows : MethodName := ⟨RX2, "rows", "()I"⟩
abbrev cX2_isContinued : ByteArray := prog_4_method_19_code
def yX2_isContinued : MethodName := ⟨RX2, "isContinued", "(II)Z"⟩
abbrev cX2_band : ByteArray := prog_4_method_20_code
def yX2_band : MethodName := ⟨RX2, "band", "(I)I"⟩
abbrev cX2_bands : ByteArray := prog_4_method_21_code
def yX2_bands : MethodName := ⟨RX2, "bands", "()I"⟩
abbrev cX2_nameFrom : ByteArray := prog_4_method_22_code
def yX2_nameFrom : MethodName := ⟨RX2, "nameFrom", "(I)J"⟩
abbrev cX2_figures : ByteArray := prog_4_method_23_code
def yX2_figures : MethodName := ⟨RX2, "figures", "(JIIII)J"⟩
abbrev cX2_leastName : ByteArray := prog_4_method_24_code
def yX2_leastName : MethodName := ⟨RX2, "leastName", "(I)J"⟩
abbrev cX2_becomeNamed : ByteArray := prog_4_method_25_code
def yX2_becomeNamed : MethodName := ⟨RX2, "becomeNamed", "(JI)V"⟩
abbrev cX2_doShear : ByteArray := prog_4_method_26_code
def yX2_doShear : MethodName := ⟨RX2, "doShear", "(I)V"⟩
abbrev cX2_doTrade : ByteArray := prog_4_method_27_code
def yX2_doTrade : MethodName := ⟨RX2, "doTrade", "(II)V"⟩
abbrev cX2_doDrawn : ByteArray := prog_4_method_28_code
def yX2_doDrawn : MethodName := ⟨RX2, "doDrawn", "(J)V"⟩
abbrev cX2_leftBy : ByteArray := prog_4_method_29_code
def yX2_leftBy : MethodName := ⟨RX2, "leftBy", "(J)I"⟩
abbrev cX2_tryTold : ByteArray := prog_4_method_30_code
def yX2_tryTold : MethodName := ⟨RX2, "tryTold", "(I)Z"⟩
abbrev cX2_didShear : ByteArray := prog_4_method_31_code
def yX2_didShear : MethodName := ⟨RX2, "didShear", "(I)Z"⟩
abbrev cX2_didTrade : ByteArray := prog_4_method_32_code
def yX2_didTrade : MethodName := ⟨RX2, "didTrade", "(II)Z"⟩
abbrev cX2_orders : ByteArray := prog_4_method_33_code
def yX2_orders : MethodName := ⟨RX2, "orders", "(I)I"⟩
abbrev cX2_moreInAllOrders : ByteArray := prog_4_method_34_code
def yX2_moreInAllOrders : MethodName := ⟨RX2, "moreInAllOrders", "(I)I"⟩
abbrev cX2_casesInAll : ByteArray := prog_4_method_35_code
def yX2_casesInAll : MethodName := ⟨RX2, "casesInAll", "()I"⟩
abbrev cX2_casesInOnePiece : ByteArray := prog_4_method_36_code
def yX2_casesInOnePiece : MethodName := ⟨RX2, "casesInOnePiece", "(I)I"⟩
abbrev cX2_casesOfOpen : ByteArray := prog_4_method_37_code
def yX2_casesOfOpen : MethodName := ⟨RX2, "casesOfOpen", "(II)I"⟩
def RX3 : String := "SquareFolds$Letters"
def TX3 : u_T := fun k => match k with
  | 0 => ("SquareFolds$Letters", "letters", "[I", true)
  | _ => ("SquareFolds$Letters", "length", "I", false)
def tyX3 : Nat → FieldType := fun k => match k with
  | 0 => .array .int
  | _ => .int
abbrev wsX30 : List Cond := u_ws RX3 TX3 2
theorem nmX3 : ∀ a, a < 2 → ∀ b, b < 2 → a ≠ b → (TX3 a).2.1 ≠ (TX3 b).2.1 := by decide +kernel
theorem tyX3_ok : ∀ k, k < 2 → parseFieldDescriptor (TX3 k).2.2.1 = some (tyX3 k) := by decide +kernel
abbrev cX3_init : ByteArray := prog_5_method_1_code
def yX3_init : MethodName := ⟨RX3, "<init>", "()V"⟩
abbrev cX3_add : ByteArray := prog_5_method_2_code
def yX3_add : MethodName := ⟨RX3, "add", "(I)Z"⟩
abbrev cX3_figure : ByteArray := prog_5_method_3_code
def yX3_figure : MethodName := ⟨RX3, "figure", "(I)I"⟩
abbrev cX3_rowFrom : ByteArray := prog_5_method_4_code
def yX3_rowFrom : MethodName := ⟨RX3, "rowFrom", "(II)I"⟩
abbrev cX3_firstFault : ByteArray := prog_5_method_5_code
def yX3_firstFault : MethodName := ⟨RX3, "firstFault", "()I"⟩
def RX4 : String := "SquareFolds$NameOrbit"
def TX4 : u_T := fun k => match k with
  | 0 => ("SquareFolds$NameOrbit", "names", "LSquareFolds$Distinct;", true)
  | 1 => ("SquareFolds$NameOrbit", "sheared", "[I", true)
  | _ => ("SquareFolds$NameOrbit", "shape", "LSquareFolds$Gluing;", true)
def tyX4 : Nat → FieldType := fun k => match k with
  | 0 => .object "SquareFolds$Distinct"
  | 1 => .array .int
  | _ => .object "SquareFolds$Gluing"
abbrev wsX40 : List Cond := u_ws RX4 TX4 3
theorem nmX4 : ∀ a, a < 3 → ∀ b, b < 3 → a ≠ b → (TX4 a).2.1 ≠ (TX4 b).2.1 := by decide +kernel
theorem tyX4_ok : ∀ k, k < 3 → parseFieldDescriptor (TX4 k).2.2.1 = some (tyX4 k) := by decide +kernel
abbrev cX4_init : ByteArray := prog_6_method_1_code
def yX4_init : MethodName := ⟨RX4, "<init>", "()V"⟩
abbrev cX4_gather : ByteArray := prog_6_method_2_code
def yX4_gather : MethodName := ⟨RX4, "gather", "(JI)V"⟩
abbrev cX4_placeSheared : ByteArray := prog_6_method_3_code
def yX4_placeSheared : MethodName := ⟨RX4, "placeSheared", "(III)I"⟩
abbrev cX4_ringFrom : ByteArray := prog_6_method_4_code
def yX4_ringFrom : MethodName := ⟨RX4, "ringFrom", "(I)I"⟩
abbrev cX4_cusps : ByteArray := prog_6_method_5_code
def yX4_cusps : MethodName := ⟨RX4, "cusps", "()I"⟩
abbrev cX4_widest : ByteArray := prog_6_method_6_code
def yX4_widest : MethodName := ⟨RX4, "widest", "()I"⟩
def RX5 : String := "SquareFolds$Past"
def TX5 : u_T := fun k => match k with
  | 0 => ("SquareFolds$Past", "rights", "[I", true)
  | 1 => ("SquareFolds$Past", "ups", "[I", true)
  | _ => ("SquareFolds$Past", "count", "I", false)
def tyX5 : Nat → FieldType := fun k => match k with
  | 0 => .array .int
  | 1 => .array .int
  | _ => .int
abbrev wsX50 : List Cond := u_ws RX5 TX5 3
theorem nmX5 : ∀ a, a < 3 → ∀ b, b < 3 → a ≠ b → (TX5 a).2.1 ≠ (TX5 b).2.1 := by decide +kernel
theorem tyX5_ok : ∀ k, k < 3 → parseFieldDescriptor (TX5 k).2.2.1 = some (tyX5 k) := by decide +kernel
abbrev cX5_init : ByteArray := prog_7_method_1_code
def yX5_init : MethodName := ⟨RX5, "<init>", "()V"⟩
abbrev cX5_add : ByteArray := prog_7_method_2_code
def yX5_add : MethodName := ⟨RX5, "add", "(II)V"⟩
abbrev cX5_rightAt : ByteArray := prog_7_method_3_code
def yX5_rightAt : MethodName := ⟨RX5, "rightAt", "(I)I"⟩
abbrev cX5_upAt : ByteArray := prog_7_method_4_code
def yX5_upAt : MethodName := ⟨RX5, "upAt", "(I)I"⟩
def RX6 : String := "SquareFolds$Row"
def TX6 : u_T := fun k => match k with
  | _ => ("", "", "", false)
def tyX6 : Nat → FieldType := fun k => match k with
  | _ => .int
abbrev wsX60 : List Cond := u_ws RX6 TX6 0
theorem nmX6 : ∀ a, a < 0 → ∀ b, b < 0 → a ≠ b → (TX6 a).2.1 ≠ (TX6 b).2.1 := by decide +kernel
theorem tyX6_ok : ∀ k, k < 0 → parseFieldDescriptor (TX6 k).2.2.1 = some (tyX6 k) := by decide +kernel
abbrev cX6_at : ByteArray := prog_8_method_2_code
def yX6_at : MethodName := ⟨RX6, "at", "(II)I"⟩
abbrev cX6_put : ByteArray := prog_8_method_3_code
def yX6_put : MethodName := ⟨RX6, "put", "(III)I"⟩
abbrev cX6_staying : ByteArray := prog_8_method_4_code
def yX6_staying : MethodName := ⟨RX6, "staying", "(I)I"⟩
abbrev cX6_then : ByteArray := prog_8_method_5_code
def yX6_then : MethodName := ⟨RX6, "then", "(III)I"⟩
abbrev cX6_back : ByteArray := prog_8_method_6_code
def yX6_back : MethodName := ⟨RX6, "back", "(II)I"⟩
abbrev cX6_ring : ByteArray := prog_8_method_7_code
def yX6_ring : MethodName := ⟨RX6, "ring", "(III)I"⟩
abbrev cX6_rings : ByteArray := prog_8_method_8_code
def yX6_rings : MethodName := ⟨RX6, "rings", "(II)I"⟩
abbrev cX6_isIn : ByteArray := prog_8_method_9_code
def yX6_isIn : MethodName := ⟨RX6, "isIn", "(II)Z"⟩
def RX7 : String := "SquareFolds$Sightings"
def TX7 : u_T := fun k => match k with
  | 0 => ("SquareFolds$Sightings", "ways", "[I", true)
  | 1 => ("SquareFolds$Sightings", "backs", "[I", true)
  | _ => ("SquareFolds$Sightings", "count", "I", false)
def tyX7 : Nat → FieldType := fun k => match k with
  | 0 => .array .int
  | 1 => .array .int
  | _ => .int
abbrev wsX70 : List Cond := u_ws RX7 TX7 3
theorem nmX7 : ∀ a, a < 3 → ∀ b, b < 3 → a ≠ b → (TX7 a).2.1 ≠ (TX7 b).2.1 := by decide +kernel
theorem tyX7_ok : ∀ k, k < 3 → parseFieldDescriptor (TX7 k).2.2.1 = some (tyX7 k) := by decide +kernel
abbrev cX7_init : ByteArray := prog_9_method_1_code
def yX7_init : MethodName := ⟨RX7, "<init>", "()V"⟩
abbrev cX7_add : ByteArray := prog_9_method_2_code
def yX7_add : MethodName := ⟨RX7, "add", "(II)Z"⟩
abbrev cX7_wayAt : ByteArray := prog_9_method_3_code
def yX7_wayAt : MethodName := ⟨RX7, "wayAt", "(I)I"⟩
abbrev cX7_cameBack : ByteArray := prog_9_method_4_code
def yX7_cameBack : MethodName := ⟨RX7, "cameBack", "(I)Z"⟩
def RX8 : String := "SquareFolds$Slots"
def TX8 : u_T := fun k => match k with
  | 0 => ("SquareFolds$Slots", "rights", "[I", true)
  | 1 => ("SquareFolds$Slots", "ups", "[I", true)
  | _ => ("SquareFolds$Slots", "keptBits", "I", false)
def tyX8 : Nat → FieldType := fun k => match k with
  | 0 => .array .int
  | 1 => .array .int
  | _ => .int
abbrev wsX80 : List Cond := u_ws RX8 TX8 3
theorem nmX8 : ∀ a, a < 3 → ∀ b, b < 3 → a ≠ b → (TX8 a).2.1 ≠ (TX8 b).2.1 := by decide +kernel
theorem tyX8_ok : ∀ k, k < 3 → parseFieldDescriptor (TX8 k).2.2.1 = some (tyX8 k) := by decide +kernel
abbrev cX8_init : ByteArray := prog_10_method_1_code
def yX8_init : MethodName := ⟨RX8, "<init>", "()V"⟩
abbrev cX8_has : ByteArray := prog_10_method_2_code
def yX8_has : MethodName := ⟨RX8, "has", "(I)Z"⟩
abbrev cX8_clear : ByteArray := prog_10_method_3_code
def yX8_clear : MethodName := ⟨RX8, "clear", "()V"⟩
abbrev cX8_isKept : ByteArray := prog_10_method_4_code
def yX8_isKept : MethodName := ⟨RX8, "isKept", "(I)Z"⟩
abbrev cX8_put : ByteArray := prog_10_method_5_code
def yX8_put : MethodName := ⟨RX8, "put", "(III)V"⟩
abbrev cX8_rightAt : ByteArray := prog_10_method_6_code
def yX8_rightAt : MethodName := ⟨RX8, "rightAt", "(I)I"⟩
abbrev cX8_upAt : ByteArray := prog_10_method_7_code
def yX8_upAt : MethodName := ⟨RX8, "upAt", "(I)I"⟩
def RX9 : String := "SquareFolds"
def TX9 : u_T := fun k => match k with
  | 0 => ("SquareFolds", "text", "LSquareFolds$Letters;", true)
  | 1 => ("SquareFolds", "now", "LSquareFolds$Gluing;", true)
  | 2 => ("SquareFolds", "trial", "LSquareFolds$Gluing;", true)
  | 3 => ("SquareFolds", "past", "LSquareFolds$Past;", true)
  | 4 => ("SquareFolds", "slots", "LSquareFolds$Slots;", true)
  | 5 => ("SquareFolds", "sightings", "LSquareFolds$Sightings;", true)
  | 6 => ("SquareFolds", "nameOrbit", "LSquareFolds$NameOrbit;", true)
  | 7 => ("SquareFolds", "turns", "LSquareFolds$Distinct;", true)
  | 8 => ("SquareFolds", "fraction", "LSquareFolds$Fraction;", true)
  | _ => ("SquareFolds", "seedNow", "J", false)
def tyX9 : Nat → FieldType := fun k => match k with
  | 0 => .object "SquareFolds$Letters"
  | 1 => .object "SquareFolds$Gluing"
  | 2 => .object "SquareFolds$Gluing"
  | 3 => .object "SquareFolds$Past"
  | 4 => .object "SquareFolds$Slots"
  | 5 => .object "SquareFolds$Sightings"
  | 6 => .object "SquareFolds$NameOrbit"
  | 7 => .object "SquareFolds$Distinct"
  | 8 => .object "SquareFolds$Fraction"
  | _ => .long
abbrev wsX90 : List Cond := u_ws RX9 TX9 10
theorem nmX9 : ∀ a, a < 10 → ∀ b, b < 10 → a ≠ b → (TX9 a).2.1 ≠ (TX9 b).2.1 := by decide +kernel
theorem tyX9_ok : ∀ k, k < 10 → parseFieldDescriptor (TX9 k).2.2.1 = some (tyX9 k) := by decide +kernel
abbrev cX9_init : ByteArray := prog_1_method_1_code
def yX9_init : MethodName := ⟨RX9, "<init>", "()V"⟩
abbrev cX9_write : ByteArray := prog_1_method_2_code
def yX9_write : MethodName := ⟨RX9, "write", "(I)I"⟩
abbrev cX9_wipe : ByteArray := prog_1_method_3_code
def yX9_wipe : MethodName := ⟨RX9, "wipe", "()I"⟩
abbrev cX9_fault : ByteArray := prog_1_method_4_code
def yX9_fault : MethodName := ⟨RX9, "fault", "()I"⟩
abbrev cX9_surface : ByteArray := prog_1_method_5_code
def yX9_surface : MethodName := ⟨RX9, "surface", "()I"⟩
abbrev cX9_about : ByteArray := prog_1_method_6_code
def yX9_about : MethodName := ⟨RX9, "about", "(I)I"⟩
abbrev cX9_go : ByteArray := prog_1_method_7_code
def yX9_go : MethodName := ⟨RX9, "go", "(II)I"⟩
abbrev cX9_walk : ByteArray := prog_1_method_8_code
def yX9_walk : MethodName := ⟨RX9, "walk", "(II)I"⟩
abbrev cX9_square : ByteArray := prog_1_method_9_code
def yX9_square : MethodName := ⟨RX9, "square", "(II)I"⟩
abbrev cX9_name : ByteArray := prog_1_method_10_code
def yX9_name : MethodName := ⟨RX9, "name", "(II)J"⟩
abbrev cX9_shear : ByteArray := prog_1_method_11_code
def yX9_shear : MethodName := ⟨RX9, "shear", "(I)I"⟩
abbrev cX9_trade : ByteArray := prog_1_method_12_code
def yX9_trade : MethodName := ⟨RX9, "trade", "(II)I"⟩
abbrev cX9_undo : ByteArray := prog_1_method_13_code
def yX9_undo : MethodName := ⟨RX9, "undo", "()I"⟩
abbrev cX9_orbit : ByteArray := prog_1_method_14_code
def yX9_orbit : MethodName := ⟨RX9, "orbit", "(II)I"⟩
abbrev cX9_alike : ByteArray := prog_1_method_15_code
def yX9_alike : MethodName := ⟨RX9, "alike", "(III)I"⟩
abbrev cX9_judge : ByteArray := prog_1_method_16_code
def yX9_judge : MethodName := ⟨RX9, "judge", "(IJ)I"⟩
abbrev cX9_share : ByteArray := prog_1_method_17_code
def yX9_share : MethodName := ⟨RX9, "share", "(IZ)I"⟩
abbrev cX9_see : ByteArray := prog_1_method_18_code
def yX9_see : MethodName := ⟨RX9, "see", "(II)I"⟩
abbrev cX9_unsee : ByteArray := prog_1_method_19_code
def yX9_unsee : MethodName := ⟨RX9, "unsee", "()I"⟩
abbrev cX9_which : ByteArray := prog_1_method_20_code
def yX9_which : MethodName := ⟨RX9, "which", "()I"⟩
abbrev cX9_opens : ByteArray := prog_1_method_21_code
def yX9_opens : MethodName := ⟨RX9, "opens", "(IZ)I"⟩
abbrev cX9_seed : ByteArray := prog_1_method_22_code
def yX9_seed : MethodName := ⟨RX9, "seed", "(J)J"⟩
abbrev cX9_drawn : ByteArray := prog_1_method_23_code
def yX9_drawn : MethodName := ⟨RX9, "drawn", "(I)I"⟩
abbrev cX9_keep : ByteArray := prog_1_method_24_code
def yX9_keep : MethodName := ⟨RX9, "keep", "(I)I"⟩
abbrev cX9_again : ByteArray := prog_1_method_25_code
def yX9_again : MethodName := ⟨RX9, "again", "(I)I"⟩
abbrev cX9_isWay : ByteArray := prog_1_method_26_code
def yX9_isWay : MethodName := ⟨RX9, "isWay", "(I)Z"⟩
abbrev cX9_withoutLast : ByteArray := prog_1_method_27_code
def yX9_withoutLast : MethodName := ⟨RX9, "withoutLast", "(JI)J"⟩
abbrev cX9_allSeenFrom : ByteArray := prog_1_method_28_code
def yX9_allSeenFrom : MethodName := ⟨RX9, "allSeenFrom", "(I)Z"⟩
abbrev cX9_groupSize : ByteArray := prog_1_method_29_code
def yX9_groupSize : MethodName := ⟨RX9, "groupSize", "()I"⟩
def RX10 : String := "SquareFoldsModel"
def TX10 : u_T := fun k => match k with
  | 0 => ("SquareFoldsModel", "text", "[I", true)
  | 1 => ("SquareFoldsModel", "length", "I", false)
  | 2 => ("SquareFoldsModel", "now", "[I", true)
  | 3 => ("SquareFoldsModel", "trial", "[I", true)
  | 4 => ("SquareFoldsModel", "work", "[I", true)
  | 5 => ("SquareFoldsModel", "aside", "[I", true)
  | 6 => ("SquareFoldsModel", "diary", "[I", true)
  | 7 => ("SquareFoldsModel", "doings", "I", false)
  | 8 => ("SquareFoldsModel", "next", "I", false)
  | 9 => ("SquareFoldsModel", "kept", "[I", true)
  | 10 => ("SquareFoldsModel", "isKept", "[Z", true)
  | 11 => ("SquareFoldsModel", "seenWay", "[I", true)
  | 12 => ("SquareFoldsModel", "seenBack", "[I", true)
  | 13 => ("SquareFoldsModel", "seen", "I", false)
  | 14 => ("SquareFoldsModel", "seed", "J", false)
  | 15 => ("SquareFoldsModel", "number", "[I", true)
  | 16 => ("SquareFoldsModel", "met", "[I", true)
  | 17 => ("SquareFoldsModel", "names", "[J", true)
  | 18 => ("SquareFoldsModel", "sideTo", "[I", true)
  | 19 => ("SquareFoldsModel", "many", "I", false)
  | 20 => ("SquareFoldsModel", "group", "[I", true)
  | 21 => ("SquareFoldsModel", "worth", "[I", true)
  | _ => ("SquareFoldsModel", "size", "I", false)
def tyX10 : Nat → FieldType := fun k => match k with
  | 0 => .array .int
  | 1 => .int
  | 2 => .array .int
  | 3 => .array .int
  | 4 => .array .int
  | 5 => .array .int
  | 6 => .array .int
  | 7 => .int
  | 8 => .int
  | 9 => .array .int
  | 10 => .array .boolean
  | 11 => .array .int
  | 12 => .array .int
  | 13 => .int
  | 14 => .long
  | 15 => .array .int
  | 16 => .array .int
  | 17 => .array .long
  | 18 => .array .int
  | 19 => .int
  | 20 => .array .int
  | 21 => .array .int
  | _ => .int
abbrev wsX100 : List Cond := u_ws RX10 TX10 23
theorem nmX10 : ∀ a, a < 23 → ∀ b, b < 23 → a ≠ b → (TX10 a).2.1 ≠ (TX10 b).2.1 := by decide +kernel
theorem tyX10_ok : ∀ k, k < 23 → parseFieldDescriptor (TX10 k).2.2.1 = some (tyX10 k) := by decide +kernel
abbrev cX10_init : ByteArray := prog_12_method_1_code
def yX10_init : MethodName := ⟨RX10, "<init>", "()V"⟩
abbrev cX10_in : ByteArray := prog_12_method_3_code
def yX10_in : MethodName := ⟨RX10, "in", "(JJJ)Z"⟩
abbrev cX10_has : ByteArray := prog_12_method_4_code
def yX10_has : MethodName := ⟨RX10, "has", "(II)Z"⟩
abbrev cX10_ones : ByteArray := prog_12_method_5_code
def yX10_ones : MethodName := ⟨RX10, "ones", "(I)I"⟩
abbrev cX10_power : ByteArray := prog_12_method_6_code
def yX10_power : MethodName := ⟨RX10, "power", "(II)I"⟩
abbrev cX10_divisor : ByteArray := prog_12_method_7_code
def yX10_divisor : MethodName := ⟨RX10, "divisor", "(II)I"⟩
abbrev cX10_fraction : ByteArray := prog_12_method_8_code
def yX10_fraction : MethodName := ⟨RX10, "fraction", "(IIZ)I"⟩
abbrev cX10_right : ByteArray := prog_12_method_9_code
def yX10_right : MethodName := ⟨RX10, "right", "([II)I"⟩
abbrev cX10_up : ByteArray := prog_12_method_10_code
def yX10_up : MethodName := ⟨RX10, "up", "([II)I"⟩
abbrev cX10_left : ByteArray := prog_12_method_11_code
def yX10_left : MethodName := ⟨RX10, "left", "([II)I"⟩
abbrev cX10_down : ByteArray := prog_12_method_12_code
def yX10_down : MethodName := ⟨RX10, "down", "([II)I"⟩
abbrev cX10_moved : ByteArray := prog_12_method_13_code
def yX10_moved : MethodName := ⟨RX10, "moved", "([III)I"⟩
abbrev cX10_around : ByteArray := prog_12_method_14_code
def yX10_around : MethodName := ⟨RX10, "around", "([II)I"⟩
abbrev cX10_turns : ByteArray := prog_12_method_15_code
def yX10_turns : MethodName := ⟨RX10, "turns", "([II)I"⟩
abbrev cX10_beginsCorner : ByteArray := prog_12_method_16_code
def yX10_beginsCorner : MethodName := ⟨RX10, "beginsCorner", "([II)Z"⟩
abbrev cX10_rowOf : ByteArray := prog_12_method_17_code
def yX10_rowOf : MethodName := ⟨RX10, "rowOf", "([II)I"⟩
abbrev cX10_pieceOf : ByteArray := prog_12_method_18_code
def yX10_pieceOf : MethodName := ⟨RX10, "pieceOf", "([II)I"⟩
abbrev cX10_isContinued : ByteArray := prog_12_method_19_code
def yX10_isContinued : MethodName := ⟨RX10, "isContinued", "([II)Z"⟩
abbrev cX10_bandOf : ByteArray := prog_12_method_20_code
def yX10_bandOf : MethodName := ⟨RX10, "bandOf", "([II)I"⟩
abbrev cX10_isLeast : ByteArray := prog_12_method_21_code
def yX10_isLeast : MethodName := ⟨RX10, "isLeast", "(II)Z"⟩
abbrev cX10_pieces : ByteArray := prog_12_method_22_code
def yX10_pieces : MethodName := ⟨RX10, "pieces", "([I)I"⟩
abbrev cX10_rows : ByteArray := prog_12_method_23_code
def yX10_rows : MethodName := ⟨RX10, "rows", "([I)I"⟩
abbrev cX10_bands : ByteArray := prog_12_method_24_code
def yX10_bands : MethodName := ⟨RX10, "bands", "([I)I"⟩
abbrev cX10_corners : ByteArray := prog_12_method_25_code
def yX10_corners : MethodName := ⟨RX10, "corners", "([II)I"⟩
abbrev cX10_allCorners : ByteArray := prog_12_method_26_code
def yX10_allCorners : MethodName := ⟨RX10, "allCorners", "([I)I"⟩
abbrev cX10_ordinary : ByteArray := prog_12_method_27_code
def yX10_ordinary : MethodName := ⟨RX10, "ordinary", "([I)I"⟩
abbrev cX10_holes : ByteArray := prog_12_method_28_code
def yX10_holes : MethodName := ⟨RX10, "holes", "([II)I"⟩
abbrev cX10_layAside : ByteArray := prog_12_method_29_code
def yX10_layAside : MethodName := ⟨RX10, "layAside", "([I)V"⟩
abbrev cX10_side : ByteArray := prog_12_method_30_code
def yX10_side : MethodName := ⟨RX10, "side", "([I)V"⟩
abbrev cX10_upward : ByteArray := prog_12_method_31_code
def yX10_upward : MethodName := ⟨RX10, "upward", "([I)V"⟩
abbrev cX10_quarter : ByteArray := prog_12_method_32_code
def yX10_quarter : MethodName := ⟨RX10, "quarter", "([I)V"⟩
abbrev cX10_other : ByteArray := prog_12_method_33_code
def yX10_other : MethodName := ⟨RX10, "other", "(III)I"⟩
abbrev cX10_change : ByteArray := prog_12_method_34_code
def yX10_change : MethodName := ⟨RX10, "change", "([III)V"⟩
abbrev cX10_shearOn : ByteArray := prog_12_method_35_code
def yX10_shearOn : MethodName := ⟨RX10, "shearOn", "([II)V"⟩
abbrev cX10_lay : ByteArray := prog_12_method_36_code
def yX10_lay : MethodName := ⟨RX10, "lay", "([I[I)V"⟩
abbrev cX10_isSquare : ByteArray := prog_12_method_37_code
def yX10_isSquare : MethodName := ⟨RX10, "isSquare", "(I)Z"⟩
abbrev cX10_write : ByteArray := prog_12_method_38_code
def yX10_write : MethodName := ⟨RX10, "write", "(I)I"⟩
abbrev cX10_wipe : ByteArray := prog_12_method_39_code
def yX10_wipe : MethodName := ⟨RX10, "wipe", "()I"⟩
abbrev cX10_canStand : ByteArray := prog_12_method_40_code
def yX10_canStand : MethodName := ⟨RX10, "canStand", "(I)Z"⟩
abbrev cX10_fault : ByteArray := prog_12_method_41_code
def yX10_fault : MethodName := ⟨RX10, "fault", "()I"⟩
abbrev cX10_surface : ByteArray := prog_12_method_42_code
def yX10_surface : MethodName := ⟨RX10, "surface", "()I"⟩
abbrev cX10_groupSize : ByteArray := prog_12_method_43_code
def yX10_groupSize : MethodName := ⟨RX10, "groupSize", "()I"⟩
abbrev cX10_greatest : ByteArray := prog_12_method_44_code
def yX10_greatest : MethodName := ⟨RX10, "greatest", "([I)I"⟩
abbrev cX10_about : ByteArray := prog_12_method_45_code
def yX10_about : MethodName := ⟨RX10, "about", "(I)I"⟩
abbrev cX10_go : ByteArray := prog_12_method_46_code
def yX10_go : MethodName := ⟨RX10, "go", "(II)I"⟩
abbrev cX10_isWay : ByteArray := prog_12_method_47_code
def yX10_isWay : MethodName := ⟨RX10, "isWay", "(I)Z"⟩
abbrev cX10_end : ByteArray := prog_12_method_48_code
def yX10_end : MethodName := ⟨RX10, "end", "([III)I"⟩
abbrev cX10_walk : ByteArray := prog_12_method_49_code
def yX10_walk : MethodName := ⟨RX10, "walk", "(II)I"⟩
abbrev cX10_square : ByteArray := prog_12_method_50_code
def yX10_square : MethodName := ⟨RX10, "square", "(II)I"⟩
abbrev cX10_meet : ByteArray := prog_12_method_51_code
def yX10_meet : MethodName := ⟨RX10, "meet", "(I)V"⟩
abbrev cX10_nameFrom : ByteArray := prog_12_method_52_code
def yX10_nameFrom : MethodName := ⟨RX10, "nameFrom", "([II)J"⟩
abbrev cX10_leastName : ByteArray := prog_12_method_53_code
def yX10_leastName : MethodName := ⟨RX10, "leastName", "([II)J"⟩
abbrev cX10_name : ByteArray := prog_12_method_54_code
def yX10_name : MethodName := ⟨RX10, "name", "(II)J"⟩
abbrev cX10_note : ByteArray := prog_12_method_55_code
def yX10_note : MethodName := ⟨RX10, "note", "()V"⟩
abbrev cX10_shear : ByteArray := prog_12_method_56_code
def yX10_shear : MethodName := ⟨RX10, "shear", "(I)I"⟩
abbrev cX10_trade : ByteArray := prog_12_method_57_code
def yX10_trade : MethodName := ⟨RX10, "trade", "(II)I"⟩
abbrev cX10_undo : ByteArray := prog_12_method_58_code
def yX10_undo : MethodName := ⟨RX10, "undo", "()I"⟩
abbrev cX10_tellBack : ByteArray := prog_12_method_59_code
def yX10_tellBack : MethodName := ⟨RX10, "tellBack", "(JI)V"⟩
abbrev cX10_placeOf : ByteArray := prog_12_method_60_code
def yX10_placeOf : MethodName := ⟨RX10, "placeOf", "(J)I"⟩
abbrev cX10_enter : ByteArray := prog_12_method_61_code
def yX10_enter : MethodName := ⟨RX10, "enter", "(J)I"⟩
abbrev cX10_findOrbit : ByteArray := prog_12_method_62_code
def yX10_findOrbit : MethodName := ⟨RX10, "findOrbit", "(I)V"⟩
abbrev cX10_ring : ByteArray := prog_12_method_63_code
def yX10_ring : MethodName := ⟨RX10, "ring", "(I)I"⟩
abbrev cX10_orbit : ByteArray := prog_12_method_64_code
def yX10_orbit : MethodName := ⟨RX10, "orbit", "(II)I"⟩
abbrev cX10_alike : ByteArray := prog_12_method_65_code
def yX10_alike : MethodName := ⟨RX10, "alike", "(III)I"⟩
abbrev cX10_judged : ByteArray := prog_12_method_66_code
def yX10_judged : MethodName := ⟨RX10, "judged", "(IIII)Z"⟩
abbrev cX10_tenThousands : ByteArray := prog_12_method_67_code
def yX10_tenThousands : MethodName := ⟨RX10, "tenThousands", "(I)J"⟩
abbrev cX10_judge : ByteArray := prog_12_method_68_code
def yX10_judge : MethodName := ⟨RX10, "judge", "(IJ)I"⟩
abbrev cX10_fallen : ByteArray := prog_12_method_69_code
def yX10_fallen : MethodName := ⟨RX10, "fallen", "([III)I"⟩
abbrev cX10_hanging : ByteArray := prog_12_method_70_code
def yX10_hanging : MethodName := ⟨RX10, "hanging", "([IIII)I"⟩
abbrev cX10_squareAt : ByteArray := prog_12_method_71_code
def yX10_squareAt : MethodName := ⟨RX10, "squareAt", "(II)I"⟩
abbrev cX10_isOrder : ByteArray := prog_12_method_72_code
def yX10_isOrder : MethodName := ⟨RX10, "isOrder", "(II)Z"⟩
abbrev cX10_share : ByteArray := prog_12_method_73_code
def yX10_share : MethodName := ⟨RX10, "share", "(IZ)I"⟩
abbrev cX10_see : ByteArray := prog_12_method_74_code
def yX10_see : MethodName := ⟨RX10, "see", "(II)I"⟩
abbrev cX10_unsee : ByteArray := prog_12_method_75_code
def yX10_unsee : MethodName := ⟨RX10, "unsee", "()I"⟩
abbrev cX10_which : ByteArray := prog_12_method_76_code
def yX10_which : MethodName := ⟨RX10, "which", "()I"⟩
abbrev cX10_opens : ByteArray := prog_12_method_77_code
def yX10_opens : MethodName := ⟨RX10, "opens", "(IZ)I"⟩
abbrev cX10_seed : ByteArray := prog_12_method_78_code
def yX10_seed : MethodName := ⟨RX10, "seed", "(J)J"⟩
abbrev cX10_drawn : ByteArray := prog_12_method_79_code
def yX10_drawn : MethodName := ⟨RX10, "drawn", "(I)I"⟩
abbrev cX10_keep : ByteArray := prog_12_method_80_code
def yX10_keep : MethodName := ⟨RX10, "keep", "(I)I"⟩
abbrev cX10_again : ByteArray := prog_12_method_81_code
def yX10_again : MethodName := ⟨RX10, "again", "(I)I"⟩
def RJ6 : String := "java/lang/Integer"
def TJ6 : u_T := fun k => match k with
  | _ => ("", "", "", false)
def tyJ6 : Nat → FieldType := fun k => match k with
  | _ => .int
abbrev wsJ60 : List Cond := u_ws RJ6 TJ6 0
theorem nmJ6 : ∀ a, a < 0 → ∀ b, b < 0 → a ≠ b → (TJ6 a).2.1 ≠ (TJ6 b).2.1 := by decide +kernel
theorem tyJ6_ok : ∀ k, k < 0 → parseFieldDescriptor (TJ6 k).2.2.1 = some (tyJ6 k) := by decide +kernel
abbrev cJ6_bitCount_0f7a4 : ByteArray := prog_13_method_49_code
def yJ6_bitCount_0f7a4 : MethodName := ⟨RJ6, "bitCount", "(I)I"⟩
def RJ9 : String := "java/lang/Math"
def TJ9 : u_T := fun k => match k with
  | _ => ("", "", "", false)
def tyJ9 : Nat → FieldType := fun k => match k with
  | _ => .int
abbrev wsJ90 : List Cond := u_ws RJ9 TJ9 0
theorem nmJ9 : ∀ a, a < 0 → ∀ b, b < 0 → a ≠ b → (TJ9 a).2.1 ≠ (TJ9 b).2.1 := by decide +kernel
theorem tyJ9_ok : ∀ k, k < 0 → parseFieldDescriptor (TJ9 k).2.2.1 = some (tyJ9 k) := by decide +kernel
abbrev cJ9_abs_0f7a4 : ByteArray := prog_14_method_59_code
def yJ9_abs_0f7a4 : MethodName := ⟨RJ9, "abs", "(I)I"⟩
abbrev cJ9_max_7cf53 : ByteArray := prog_14_method_65_code
def yJ9_max_7cf53 : MethodName := ⟨RJ9, "max", "(II)I"⟩
abbrev cJ9_min_f86c9 : ByteArray := prog_14_method_70_code
def yJ9_min_f86c9 : MethodName := ⟨RJ9, "min", "(JJ)J"⟩
def RJ10 : String := "java/lang/System"
def TJ10 : u_T := fun k => match k with
  | _ => ("", "", "", false)
def tyJ10 : Nat → FieldType := fun k => match k with
  | _ => .int
abbrev wsJ100 : List Cond := u_ws RJ10 TJ10 0
theorem nmJ10 : ∀ a, a < 0 → ∀ b, b < 0 → a ≠ b → (TJ10 a).2.1 ≠ (TJ10 b).2.1 := by decide +kernel
theorem tyJ10_ok : ∀ k, k < 0 → parseFieldDescriptor (TJ10 k).2.2.1 = some (tyJ10 k) := by decide +kernel
def RL : String := "SquareFoldsLaw"
abbrev cL_law : ByteArray := code
def yL_law : MethodName := ⟨RL, "law", "([I)Z"⟩
abbrev vwCl : List vw_C := [(RX0, TX0, 2), (RX1, TX1, 2), (RX2, TX2, 3), (RX3, TX3, 2), (RX4, TX4, 3), (RX5, TX5, 3), (RX7, TX7, 3), (RX8, TX8, 3), (RX9, TX9, 10), (RX10, TX10, 23)]
end
section
/-! A light machine over abstract cells: places instead of addresses, one judgement Sn, rules for blocks, heap, calls, returns. -/
abbrev Hp : Type := List va_E
abbrev Mt : Type := MethodName × ByteArray × Nat × Option FieldType × Nat × Nat
abbrev GG : Type := va_G × (Nat → Nat) × (Nat → ClassId) × Nat × (Nat → Int32)
abbrev Md : Type := Nat × Nat × (State → Nat → Prop) × (Room → Array Value → Prop) × (State → Array Value → List Frame → State → Prop)
abbrev LL : Type := List (Option Value)
def cv (ad : Nat → Nat) : Value → Value
  | .ref k => .ref (ad k)
  | v => v
theorem cv_cat (ad : Nat → Nat) (v : Value) : (cv ad v).category = v.category := by cases v <;> rfl
def ce (G : GG) : va_E → va_E
  | .inl a => .inl (G.2.2.1 a.1, a.2)
  | .inr o => .inr (o.1, o.2.map (cv G.2.1))
def cw (G : GG) (H : Hp) : va_W := H.mapIdx (fun k e => (G.2.1 k, ce G e))
theorem cw_get {G : GG} {H : Hp} {k : Nat} {e : va_E} (h : H[k]? = some e) : (cw G H)[k]? = some (G.2.1 k, ce G e) := by
  simp [cw, List.getElem?_mapIdx, h]
theorem cw_set (G : GG) (H : Hp) (k : Nat) (e : va_E) : (cw G H).set k (G.2.1 k, ce G e) = cw G (H.set k e) := by
  apply List.ext_getElem?
  intro i
  simp only [cw, List.getElem?_set, List.getElem?_mapIdx, List.length_mapIdx]
  by_cases h : k = i
  · subst h
    by_cases h2 : k < H.length <;> simp [h2]
  · simp [h]
def aA (G : GG) : Nat → Prop := fun q => ∃ k, k < 39 ∧ q = G.2.1 k
def aInj (G : GG) : Prop := ∀ i j, i < 39 → j < 39 → G.2.1 i = G.2.1 j → i = j
theorem cw_D {G : GG} {H : Hp} {A : Nat → Prop} (hi : aInj G) (hl : H.length = 39) (hA : ∀ q, aA G q → A q) : va_D A (cw G H) := by
  have key : ∀ (k : Nat) (q : Nat × va_E), (cw G H)[k]? = some q → k < 39 ∧ q.1 = G.2.1 k := by
    intro k q h
    simp only [cw, List.getElem?_mapIdx] at h
    cases hk : H[k]? with
    | none => rw [hk] at h; cases h
    | some e => rw [hk] at h; cases h; exact ⟨hl ▸ (List.getElem?_eq_some_iff.mp hk).1, rfl⟩
  refine ⟨fun i j p q h1 h2 h => ?_, fun k q h => ?_⟩
  · obtain ⟨a1, b1⟩ := key i p h1
    obtain ⟨a2, b2⟩ := key j q h2
    exact hi i j a1 a2 (b1.symm.trans (h.trans b2))
  · obtain ⟨a1, b1⟩ := key k q h
    exact hA _ ⟨k, a1, b1⟩
-- words
def isNest : Jvm.Cond → Bool
  | .fieldLinkNest .. => true
  | .methodLinkNest .. => true
  | _ => false
def gW : List Jvm.Cond := lw_tbl.filter goodWord
def nW : List Jvm.Cond := lw_tbl.filter isNest
theorem gW_at {w : Jvm.Cond} (i : Nat) (h : (decide (lw_tbl[i]? = some w) && goodWord w) = true) : w ∈ gW := by
  simp only [Bool.and_eq_true, decide_eq_true_eq] at h
  exact List.mem_filter.mpr ⟨List.mem_of_getElem? h.1, h.2⟩
theorem nW_at {w : Jvm.Cond} (i : Nat) (h : (decide (lw_tbl[i]? = some w) && isNest w) = true) : w ∈ nW := by
  simp only [Bool.and_eq_true, decide_eq_true_eq] at h
  exact List.mem_filter.mpr ⟨List.mem_of_getElem? h.1, h.2⟩
theorem gW_good {w : Jvm.Cond} (h : w ∈ gW) : (w.onTables && w.keeps) = true ∨ ∃ ty, w = .arrayClass ty := good_of_word (List.mem_filter.mp h).2
theorem nW_on {w : Jvm.Cond} (h : w ∈ nW) : w.onTables = true := by
  have h2 := (List.mem_filter.mp h).2
  cases w <;> first | rfl | (simp [isNest] at h2)
theorem nW_warm {s U : State} (hW : s.WarmedH U.vm) (h : ∀ w ∈ nW, va_Nw w s) : ∀ w ∈ nW, va_Nw w U := by
  intro w hw
  have h1 := h w hw
  have h2 := (List.mem_filter.mp hw).2
  cases w <;> first | exact va_Nw.warmF hW h1 | exact va_Nw.warmM hW h1 | (simp [isNest] at h2)
-- what stays outside: the tables, the static row, the script
def ordf : Nat → Int32 := fun k => match k with
  | 0 => 1
  | 1 => 1
  | 2 => 2
  | 3 => 6
  | 4 => 24
  | _ => 120
def tysG (G : GG) : List (ClassId × FieldType) := [(G.2.2.1 0, .int), (G.2.2.1 1, .long), (G.2.2.1 2, .boolean)]
def Ev (G : GG) (A : Nat → Prop) (U : State) : Prop := va_K G.1 vwCl (tysG G) U ∧ (∀ w ∈ nW, va_Nw w U) ∧ va_Z "SquareFolds$Gluing" "ORDERS" "[I" (.ref (G.2.1 1000)) A U U.heap ∧ (va_X (G.2.1 1000) 6 ordf U U.heap ∧ G.2.1 1000 < U.heap.size ∧ ¬ A (G.2.1 1000)) ∧ (va_X (G.2.1 1001) G.2.2.2.1 G.2.2.2.2 U U.heap ∧ G.2.1 1001 < U.heap.size ∧ ¬ A (G.2.1 1001))
theorem Ev.go {G : GG} {A B : Nat → Prop} {s U : State} {H : Heap} {locs : List Loc} (h : Ev G A s) (hS : va_S A s.heap H locs) (hU : U.heap = H) (hW : s.WarmedH U.vm) (hAB : ∀ q, B q → A q) : Ev G B U := by
  obtain ⟨hK, hN, hZ, ⟨hX, h1, h2⟩, ⟨hX', h1', h2'⟩⟩ := h
  refine ⟨va_K.moved hW.alike hK, nW_warm hW hN, ?_, ⟨?_, ?_, fun q => h2 (hAB _ q)⟩, ⟨?_, ?_, fun q => h2' (hAB _ q)⟩⟩
  · rw [hU]
    exact ((va_Z.moved hW.alike hZ).kept (fun a ha hn => hS.2.1 a ha hn)).narrow hAB
  · rw [hU]
    exact (va_X.moved hW.alike hX).kept (hS.2.1 _ h1 h2)
  · rw [hU]
    exact Nat.lt_of_lt_of_le h1 hS.1
  · rw [hU]
    exact (va_X.moved hW.alike hX').kept (hS.2.1 _ h1' h2')
  · rw [hU]
    exact Nat.lt_of_lt_of_le h1' hS.1
theorem Ev.calling {G : GG} {A : Nat → Prop} {U : State} {g : JFrame} {mk : MethodId} {a : Array Value} (h : Ev G A U) : Ev G A (U.calling g mk a) := by
  obtain ⟨hK, hN, hZ, ⟨hX, h1, h2⟩, ⟨hX', h1', h2'⟩⟩ := h
  exact ⟨va_K.moved (u := U) (U := U.calling g mk a) (Vm.Alike.refl U.vm) hK, fun w hw => va_Nw.same (nW_on hw) (u := U) (U := U.calling g mk a) rfl (hN w hw), va_Z.moved (u := U) (U := U.calling g mk a) (Vm.Alike.refl U.vm) hZ, ⟨va_X.moved (u := U) (U := U.calling g mk a) (Vm.Alike.refl U.vm) hX, h1, h2⟩, ⟨va_X.moved (u := U) (U := U.calling g mk a) (Vm.Alike.refl U.vm) hX', h1', h2'⟩⟩
-- locals
def lp (ad : Nat → Nat) : Nat → LL → List (Nat × Value)
  | _, [] => []
  | i, none :: l => lp ad (i + 1) l
  | i, some v :: l => (i, cv ad v) :: lp ad (i + 1) l
theorem lp_mem {ad : Nat → Nat} : ∀ (L : LL) (i : Nat) (q : Nat × Value), q ∈ lp ad i L ↔ ∃ (j : Nat) (v : Value), L[j]? = some (some v) ∧ q = (i + j, cv ad v)
  | [], i, q => by simp [lp]
  | none :: l, i, q => by
    simp only [lp, lp_mem l (i + 1) q]
    constructor
    · rintro ⟨j, v, h, rfl⟩
      exact ⟨j + 1, v, by simpa using h, by congr 1; omega⟩
    · rintro ⟨j, v, h, rfl⟩
      cases j with
      | zero => simp at h
      | succ j => exact ⟨j, v, by simpa using h, by congr 1; omega⟩
  | some w :: l, i, q => by
    simp only [lp, List.mem_cons, lp_mem l (i + 1) q]
    constructor
    · rintro (rfl | ⟨j, v, h, rfl⟩)
      · exact ⟨0, w, by simp, by simp⟩
      · exact ⟨j + 1, v, by simpa using h, by congr 1; omega⟩
    · rintro ⟨j, v, h, rfl⟩
      cases j with
      | zero => left; simp at h; subst h; rfl
      | succ j => right; exact ⟨j, v, by simpa using h, by congr 1; omega⟩
theorem lp_at {ad : Nat → Nat} {ls : Array Slot} {nL : Nat} {L : LL} (h : lv_has ls nL (lp ad 0 L)) {i : Nat} {v : Value} (hi : L[i]? = some (some v)) : ls[i]? = some (.val (cv ad v)) := h.2.2 (i, cv ad v) ((lp_mem L 0 _).mpr ⟨i, v, hi, by rw [Nat.zero_add]⟩)
theorem lp_mono {ad : Nat → Nat} {ls : Array Slot} {nL : Nat} {l l' : List (Nat × Value)} (h : lv_has ls nL l) (hs : ∀ q ∈ l', q ∈ l) : lv_has ls nL l' := ⟨h.1, h.2.1, fun q hq => h.2.2 q (hs q hq)⟩
def isL2 : Option (Option Value) → Bool
  | some (some (.long _)) => true
  | some (some (.double _)) => true
  | _ => false
def kl (L : LL) : Nat → LL
  | 0 => L
  | j + 1 => bif isL2 L[j]? then L.set j none else L
def st1 (L : LL) (i : Nat) (v : Value) : LL := (kl L i).set i (some v)
def st2 (L : LL) (i : Nat) (v : Value) : LL := ((kl L i).set i (some v)).set (i + 1) none
theorem kl_len (L : LL) (i : Nat) : (kl L i).length = L.length := by
  cases i with
  | zero => rfl
  | succ j =>
    simp only [kl]
    cases isL2 L[j]? <;> simp
theorem kl_at {L : LL} {i j : Nat} {w : Value} (h : (kl L i)[j]? = some (some w)) : L[j]? = some (some w) ∧ ¬ (j + 1 = i ∧ w.category = 2) := by
  cases i with
  | zero => exact ⟨h, fun q => by omega⟩
  | succ k =>
    simp only [kl] at h
    cases hb : isL2 L[k]? with
    | false =>
      rw [hb] at h
      simp only [cond_false] at h
      refine ⟨h, fun q => ?_⟩
      have hk : j = k := by omega
      subst hk
      rw [h] at hb
      have h2 := q.2
      cases w <;> simp [isL2, Value.category] at hb h2
    | true =>
      rw [hb] at h
      simp only [cond_true] at h
      by_cases hk : j = k
      · subst hk
        rw [List.getElem?_set] at h
        simp only [if_true] at h
        split at h <;> cases h
      · rw [List.getElem?_set_ne (fun e => hk e.symm)] at h
        exact ⟨h, fun q => hk (by omega)⟩
theorem lp_st1 {ad : Nat → Nat} {ls' : Array Slot} {nL : Nat} {L : LL} {i : Nat} {v : Value} (h : lv_has ls' nL ((i, cv ad v) :: (lp ad 0 L).filter (fun q => !(q.1 == i) && !(q.1 + 1 == i && q.2.category == 2)))) : lv_has ls' nL (lp ad 0 (st1 L i v)) := by
  refine lp_mono (ad := ad) h (fun q hq => ?_)
  obtain ⟨j, w, h1, rfl⟩ := (lp_mem _ _ _).mp hq
  by_cases hj : j = i
  · subst hj
    rw [st1, List.getElem?_set] at h1
    simp only [if_true] at h1
    split at h1
    · cases h1
      rw [Nat.zero_add]
      exact List.mem_cons_self
    · cases h1
  · rw [st1, List.getElem?_set_ne (fun e => hj e.symm)] at h1
    obtain ⟨h2, h3⟩ := kl_at h1
    refine List.mem_cons_of_mem _ (List.mem_filter.mpr ⟨(lp_mem _ _ _).mpr ⟨j, w, h2, rfl⟩, ?_⟩)
    simp only [Nat.zero_add, cv_cat]
    by_cases h4 : j + 1 = i
    · have h5 : ¬ w.category = 2 := fun q => h3 ⟨h4, q⟩
      simp [hj, h5]
    · simp [hj, h4]
theorem lp_st2 {ad : Nat → Nat} {ls' : Array Slot} {nL : Nat} {L : LL} {i : Nat} {v : Value} (h : lv_has ls' nL ((i, cv ad v) :: (lp ad 0 L).filter (fun q => !(q.1 == i) && (!(q.1 == i + 1) && !(q.1 + 1 == i && q.2.category == 2))))) : lv_has ls' nL (lp ad 0 (st2 L i v)) := by
  refine lp_mono (ad := ad) h (fun q hq => ?_)
  obtain ⟨j, w, h1, rfl⟩ := (lp_mem _ _ _).mp hq
  by_cases hj2 : j = i + 1
  · subst hj2
    rw [st2, List.getElem?_set] at h1
    simp only [if_true] at h1
    split at h1 <;> cases h1
  · rw [st2, List.getElem?_set_ne (fun e => hj2 e.symm)] at h1
    by_cases hj : j = i
    · subst hj
      rw [List.getElem?_set] at h1
      simp only [if_true] at h1
      split at h1
      · cases h1
        rw [Nat.zero_add]
        exact List.mem_cons_self
      · cases h1
    · rw [List.getElem?_set_ne (fun e => hj e.symm)] at h1
      obtain ⟨h2, h3⟩ := kl_at h1
      refine List.mem_cons_of_mem _ (List.mem_filter.mpr ⟨(lp_mem _ _ _).mpr ⟨j, w, h2, rfl⟩, ?_⟩)
      simp only [Nat.zero_add, cv_cat]
      by_cases h4 : j + 1 = i
      · have h5 : ¬ w.category = 2 := fun q => h3 ⟨h4, q⟩
        simp [hj, hj2, h5]
      · simp [hj, hj2, h4]
-- the judgement
def Cx (G : GG) (T : Md) (M : Mt) (p : Program) (R : Room) (s : State) (m : MethodId) (args : Array Value) (meth : Method) (c : Code) : Prop :=
  p.tables.exec = Jvm.exec ∧ c.code = M.2.1 ∧ c.maxLocals = M.2.2.1 ∧ meth.sig.returnType = M.2.2.2.1 ∧ meth.locks = false ∧ s.vm.findClass M.1.cls = some m.cls ∧ (∀ w ∈ gW, w.before args s = true) ∧ Ev G (T.2.2.1 s) s ∧ (∀ q, aA G q → T.2.2.1 s q) ∧ M.2.2.2.2.1 ≤ R.frames ∧ M.2.2.2.2.2 ≤ R.locals ∧ T.1 ≤ R.cells ∧ T.2.1 ≤ R.slots ∧ aInj G ∧ T.2.2.2.1 R args
def Sn (G : GG) (T : Md) (M : Mt) (pc : Nat) (L : LL) (st : List Value) (H : Hp) : Prop :=
  ∀ (p : Program) (l : Launch) (e : Env) (R : Room) (s : State) (m : MethodId) (args : Array Value) (below : List Frame) (meth : Method) (c : Code) (hp : Heap) (locs : List Loc) (ls : Array Slot),
    Cx G T M p R s m args meth c → va_P G.1 vwCl (cw G H) hp → H.length = 39 → va_S (T.2.2.1 s) s.heap hp locs → lv_has ls M.2.2.1 (lp G.2.1 0 L) → L.length = M.2.2.1 →
    W p l e R s m args below meth c hp locs T.1 T.2.1 (T.2.2.2.2 s args below) (F0 m pc ls (st.map (cv G.2.1)))
end
section
/-! The rules of the light machine. -/
-- straight blocks: an item is an instruction and its constant (or the goto's target)
abbrev It : Type := Instr × Value
def lenOf : Instr → Nat
  | .bipush _ | .iload _ | .istore _ | .lload _ | .lstore _ | .aload _ | .astore _ => 2
  | .sipush _ | .iinc _ _ | .goto _ => 3
  | _ => 1
def okC (ins : Instr) (pc : Nat) (c : Value) : Bool :=
  match ins with
  | .iconst n => decide (c = .int (Int32.ofInt n))
  | .bipush n => decide (c = .int (Int8.ofInt n).toInt32)
  | .sipush n => decide (c = .int (Int16.ofInt n).toInt32)
  | .lconst n => decide (c = .long (Int64.ofNat (n : Nat)))
  | .iinc _ n => decide (c = .int (Int32.ofInt n))
  | .goto off => match c with
    | .retAddr t => decide ((pc : Int) + off = (t : Int))
    | _ => false
  | _ => decide (c = .null)
def nxt (ins : Instr) (pc : Nat) (c : Value) : Nat := match c with
  | .retAddr t => t
  | _ => pc + lenOf ins
def decB (cc : ByteArray) : Nat → List It → Bool
  | _, [] => true
  | pc, it :: r => decide (decode cc pc = .ok (it.1, lenOf it.1)) && (okC it.1 pc it.2 && decB cc (nxt it.1 pc it.2) r)
def endB : Nat → List It → Nat
  | pc, [] => pc
  | pc, it :: r => endB (nxt it.1 pc it.2) r
abbrev St2 : Type := Option (LL × List Value)
def ldI (L : LL) (i : Nat) (st : List Value) : St2 := match L[i]? with
  | some (some (.int x)) => some (L, .int x :: st)
  | _ => none
def ldJ (L : LL) (i : Nat) (st : List Value) : St2 := match L[i]? with
  | some (some (.long x)) => some (L, .long x :: st)
  | _ => none
def ldA (L : LL) (i : Nat) (st : List Value) : St2 := match L[i]? with
  | some (some (.ref x)) => some (L, .ref x :: st)
  | _ => none
def sto (L : LL) (i : Nat) : List Value → St2
  | .int x :: st => match L[i]? with
    | some _ => some (st1 L i (.int x), st)
    | none => none
  | .ref x :: st => match L[i]? with
    | some _ => some (st1 L i (.ref x), st)
    | none => none
  | .long x :: st => match L[i + 1]? with
    | some _ => some (st2 L i (.long x), st)
    | none => none
  | _ => none
def incI (L : LL) (i : Nat) (c : Value) (st : List Value) : St2 := match L[i]?, c with
  | some (some (.int x)), .int k => some (st1 L i (.int (x + k)), st)
  | _, _ => none
def oII (f : Int32 → Int32 → Int32) (L : LL) : List Value → St2
  | .int y :: .int x :: st => some (L, .int (f x y) :: st)
  | _ => none
def oI (f : Int32 → Value) (L : LL) : List Value → St2
  | .int x :: st => some (L, f x :: st)
  | _ => none
def oJ (f : Int64 → Value) (L : LL) : List Value → St2
  | .long x :: st => some (L, f x :: st)
  | _ => none
def oJJ (f : Int64 → Int64 → Value) (L : LL) : List Value → St2
  | .long y :: .long x :: st => some (L, f x y :: st)
  | _ => none
def oJI (f : Int64 → Int32 → Int64) (L : LL) : List Value → St2
  | .int y :: .long x :: st => some (L, .long (f x y) :: st)
  | _ => none
def dupV (L : LL) : List Value → St2
  | .int x :: st => some (L, .int x :: .int x :: st)
  | .ref x :: st => some (L, .ref x :: .ref x :: st)
  | _ => none
def popV (L : LL) : List Value → St2
  | .int _ :: st => some (L, st)
  | .ref _ :: st => some (L, st)
  | _ => none
def iushrF (x y : Int32) : Int32 := (x.toUInt32 >>> (y.toUInt32 &&& Int32.toUInt32 31)).toInt32
def lushrF (x : Int64) (y : Int32) : Int64 := (x.toUInt64 >>> (y.toInt64.toUInt64 &&& Int64.toUInt64 63)).toInt64
def stepV (it : It) (L : LL) (st : List Value) : St2 :=
  match it.1 with
  | .iconst _ => some (L, it.2 :: st)
  | .bipush _ => some (L, it.2 :: st)
  | .sipush _ => some (L, it.2 :: st)
  | .lconst _ => some (L, it.2 :: st)
  | .iload i => ldI L i st
  | .iload_n i => ldI L i.val st
  | .lload i => ldJ L i st
  | .lload_n i => ldJ L i.val st
  | .aload i => ldA L i st
  | .aload_n i => ldA L i.val st
  | .istore i => match st with
    | .int x :: st => sto L i (.int x :: st)
    | _ => none
  | .istore_n i => match st with
    | .int x :: st => sto L i.val (.int x :: st)
    | _ => none
  | .lstore i => match st with
    | .long x :: st => sto L i (.long x :: st)
    | _ => none
  | .lstore_n i => match st with
    | .long x :: st => sto L i.val (.long x :: st)
    | _ => none
  | .astore_n i => match st with
    | .ref x :: st => sto L i.val (.ref x :: st)
    | _ => none
  | .iinc i _ => incI L i it.2 st
  | .iadd => oII (fun x y => x + y) L st
  | .isub => oII (fun x y => x - y) L st
  | .imul => oII (fun x y => x * y) L st
  | .iand => oII (fun x y => x &&& y) L st
  | .ior => oII (fun x y => x ||| y) L st
  | .ixor => oII (fun x y => x ^^^ y) L st
  | .ishl => oII (fun x y => x <<< (y &&& 31)) L st
  | .ishr => oII (fun x y => x >>> (y &&& 31)) L st
  | .iushr => oII iushrF L st
  | .ineg => oI (fun x => .int (-x)) L st
  | .i2l => oI (fun x => .long x.toInt64) L st
  | .l2i => oJ (fun x => .int x.toInt32) L st
  | .ladd => oJJ (fun x y => .long (x + y)) L st
  | .lsub => oJJ (fun x y => .long (x - y)) L st
  | .lmul => oJJ (fun x y => .long (x * y)) L st
  | .land => oJJ (fun x y => .long (x &&& y)) L st
  | .lor => oJJ (fun x y => .long (x ||| y)) L st
  | .lcmp => oJJ (fun x y => .int (lg_cmp x y)) L st
  | .lshl => oJI (fun x y => x <<< (y.toInt64 &&& 63)) L st
  | .lushr => oJI lushrF L st
  | .dup => dupV L st
  | .pop => popV L st
  | .goto _ => some (L, st)
  | _ => none
def runB : List It → LL → List Value → St2
  | [], L, st => some (L, st)
  | it :: r, L, st => match stepV it L st with
    | some q => runB r q.1 q.2
    | none => none
section RULES
variable {G : GG} {T : Md} {M : Mt} {pc : Nat} {L L' : LL} {st st' : List Value} {H : Hp}
theorem ldI_inv {i : Nat} (h : ldI L i st = some (L', st')) : ∃ x, L[i]? = some (some (.int x)) ∧ L' = L ∧ st' = .int x :: st := by
  unfold ldI at h
  split at h
  · rename_i x hx
    cases h
    exact ⟨x, hx, rfl, rfl⟩
  · cases h
theorem ldJ_inv {i : Nat} (h : ldJ L i st = some (L', st')) : ∃ x, L[i]? = some (some (.long x)) ∧ L' = L ∧ st' = .long x :: st := by
  unfold ldJ at h
  split at h
  · rename_i x hx
    cases h
    exact ⟨x, hx, rfl, rfl⟩
  · cases h
theorem ldA_inv {i : Nat} (h : ldA L i st = some (L', st')) : ∃ x, L[i]? = some (some (.ref x)) ∧ L' = L ∧ st' = .ref x :: st := by
  unfold ldA at h
  split at h
  · rename_i x hx
    cases h
    exact ⟨x, hx, rfl, rfl⟩
  · cases h
theorem sto_int {i : Nat} {x : Int32} (h : sto L i (.int x :: st) = some (L', st')) : i < L.length ∧ L' = st1 L i (.int x) ∧ st' = st := by
  simp only [sto] at h
  split at h
  · rename_i y hy
    cases h
    exact ⟨(List.getElem?_eq_some_iff.mp hy).1, rfl, rfl⟩
  · cases h
theorem sto_ref {i : Nat} {x : Nat} (h : sto L i (.ref x :: st) = some (L', st')) : i < L.length ∧ L' = st1 L i (.ref x) ∧ st' = st := by
  simp only [sto] at h
  split at h
  · rename_i y hy
    cases h
    exact ⟨(List.getElem?_eq_some_iff.mp hy).1, rfl, rfl⟩
  · cases h
theorem sto_long {i : Nat} {x : Int64} (h : sto L i (.long x :: st) = some (L', st')) : i + 1 < L.length ∧ L' = st2 L i (.long x) ∧ st' = st := by
  simp only [sto] at h
  split at h
  · rename_i y hy
    cases h
    exact ⟨(List.getElem?_eq_some_iff.mp hy).1, rfl, rfl⟩
  · cases h
theorem incI_inv {i : Nat} {c : Value} (h : incI L i c st = some (L', st')) : ∃ x k, L[i]? = some (some (.int x)) ∧ c = .int k ∧ L' = st1 L i (.int (x + k)) ∧ st' = st := by
  unfold incI at h
  split at h
  · rename_i x k hx
    cases h
    exact ⟨x, k, hx, rfl, rfl, rfl⟩
  · cases h
theorem oII_inv {f : Int32 → Int32 → Int32} (h : oII f L st = some (L', st')) : ∃ x y r, st = .int y :: .int x :: r ∧ L' = L ∧ st' = .int (f x y) :: r := by
  unfold oII at h
  split at h
  · cases h
    exact ⟨_, _, _, rfl, rfl, rfl⟩
  · cases h
theorem oI_inv {f : Int32 → Value} (h : oI f L st = some (L', st')) : ∃ x r, st = .int x :: r ∧ L' = L ∧ st' = f x :: r := by
  unfold oI at h
  split at h
  · cases h
    exact ⟨_, _, rfl, rfl, rfl⟩
  · cases h
theorem oJ_inv {f : Int64 → Value} (h : oJ f L st = some (L', st')) : ∃ x r, st = .long x :: r ∧ L' = L ∧ st' = f x :: r := by
  unfold oJ at h
  split at h
  · cases h
    exact ⟨_, _, rfl, rfl, rfl⟩
  · cases h
theorem oJJ_inv {f : Int64 → Int64 → Value} (h : oJJ f L st = some (L', st')) : ∃ x y r, st = .long y :: .long x :: r ∧ L' = L ∧ st' = f x y :: r := by
  unfold oJJ at h
  split at h
  · cases h
    exact ⟨_, _, _, rfl, rfl, rfl⟩
  · cases h
theorem oJI_inv {f : Int64 → Int32 → Int64} (h : oJI f L st = some (L', st')) : ∃ x y r, st = .int y :: .long x :: r ∧ L' = L ∧ st' = .long (f x y) :: r := by
  unfold oJI at h
  split at h
  · cases h
    exact ⟨_, _, _, rfl, rfl, rfl⟩
  · cases h
theorem st1_len (L : LL) (i : Nat) (v : Value) : (st1 L i v).length = L.length := by rw [st1, List.length_set, kl_len]
theorem st2_len (L : LL) (i : Nat) (v : Value) : (st2 L i v).length = L.length := by rw [st2, List.length_set, List.length_set, kl_len]
set_option maxHeartbeats 4000000 in
theorem sn_it {ins : Instr} {c : Value} (hd : decode M.2.1 pc = .ok (ins, lenOf ins)) (hc : okC ins pc c = true) (hs : stepV (ins, c) L st = some (L', st')) (k : Sn G T M (nxt ins pc c) L' st' H) : Sn G T M pc L st H := by
  intro p l e R s m args below meth cd hp locs ls X hP hH hS hl hL
  obtain ⟨hx, hb, -⟩ := id X
  cases ins with
  | iconst n =>
    simp only [okC, decide_eq_true_eq] at hc
    subst hc
    simp only [stepV] at hs
    cases hs
    exact lv_iconst hx hb hd rfl (k p l e R s m args below meth cd hp locs ls X hP hH hS hl hL)
  | bipush n =>
    simp only [okC, decide_eq_true_eq] at hc
    subst hc
    simp only [stepV] at hs
    cases hs
    exact lv_bipush hx hb hd rfl (k p l e R s m args below meth cd hp locs ls X hP hH hS hl hL)
  | sipush n =>
    simp only [okC, decide_eq_true_eq] at hc
    subst hc
    simp only [stepV] at hs
    cases hs
    exact lv_sipush hx hb hd rfl (k p l e R s m args below meth cd hp locs ls X hP hH hS hl hL)
  | lconst n =>
    simp only [okC, decide_eq_true_eq] at hc
    subst hc
    simp only [stepV] at hs
    cases hs
    exact lv_lconst hx hb hd rfl (k p l e R s m args below meth cd hp locs ls X hP hH hS hl hL)
  | iload i =>
    simp only [okC, decide_eq_true_eq] at hc
    subst hc
    obtain ⟨x, h1, rfl, rfl⟩ := ldI_inv hs
    exact lv_iload hx hb hd (lp_at hl h1) (k p l e R s m args below meth cd hp locs ls X hP hH hS hl hL)
  | iload_n i =>
    simp only [okC, decide_eq_true_eq] at hc
    subst hc
    obtain ⟨x, h1, rfl, rfl⟩ := ldI_inv hs
    exact lv_iload_n hx hb hd rfl (lp_at hl h1) (k p l e R s m args below meth cd hp locs ls X hP hH hS hl hL)
  | lload i =>
    simp only [okC, decide_eq_true_eq] at hc
    subst hc
    obtain ⟨x, h1, rfl, rfl⟩ := ldJ_inv hs
    exact lv_lload hx hb hd (lp_at hl h1) (k p l e R s m args below meth cd hp locs ls X hP hH hS hl hL)
  | lload_n i =>
    simp only [okC, decide_eq_true_eq] at hc
    subst hc
    obtain ⟨x, h1, rfl, rfl⟩ := ldJ_inv hs
    exact lv_lload_n hx hb hd rfl (lp_at hl h1) (k p l e R s m args below meth cd hp locs ls X hP hH hS hl hL)
  | aload i =>
    simp only [okC, decide_eq_true_eq] at hc
    subst hc
    obtain ⟨x, h1, rfl, rfl⟩ := ldA_inv hs
    exact lv_aload hx hb hd (lp_at hl h1) (k p l e R s m args below meth cd hp locs ls X hP hH hS hl hL)
  | aload_n i =>
    simp only [okC, decide_eq_true_eq] at hc
    subst hc
    obtain ⟨x, h1, rfl, rfl⟩ := ldA_inv hs
    exact lv_aload_n hx hb hd rfl (lp_at hl h1) (k p l e R s m args below meth cd hp locs ls X hP hH hS hl hL)
  | istore i =>
    simp only [okC, decide_eq_true_eq] at hc
    subst hc
    simp only [stepV] at hs
    split at hs
    · rename_i x r
      obtain ⟨h1, rfl, rfl⟩ := sto_int hs
      exact lv_istore (rest := List.map (cv G.2.1) st') hx hb hd hl (by rw [← hL]; exact h1) rfl (fun ls' hl' => k p l e R s m args below meth cd hp locs ls' X hP hH hS (lp_st1 (v := .int x) hl') (by rw [st1_len]; exact hL))
    · cases hs
  | istore_n i =>
    simp only [okC, decide_eq_true_eq] at hc
    subst hc
    simp only [stepV] at hs
    split at hs
    · rename_i x r
      obtain ⟨h1, rfl, rfl⟩ := sto_int hs
      exact lv_istore_n (rest := List.map (cv G.2.1) st') hx hb hd rfl hl (by rw [← hL]; exact h1) rfl (fun ls' hl' => k p l e R s m args below meth cd hp locs ls' X hP hH hS (lp_st1 (v := .int x) hl') (by rw [st1_len]; exact hL))
    · cases hs
  | lstore i =>
    simp only [okC, decide_eq_true_eq] at hc
    subst hc
    simp only [stepV] at hs
    split at hs
    · rename_i x r
      obtain ⟨h1, rfl, rfl⟩ := sto_long hs
      exact lv_lstore (rest := List.map (cv G.2.1) st') hx hb hd hl (by rw [← hL]; exact h1) rfl (fun ls' hl' => k p l e R s m args below meth cd hp locs ls' X hP hH hS (lp_st2 (v := .long x) hl') (by rw [st2_len]; exact hL))
    · cases hs
  | lstore_n i =>
    simp only [okC, decide_eq_true_eq] at hc
    subst hc
    simp only [stepV] at hs
    split at hs
    · rename_i x r
      obtain ⟨h1, rfl, rfl⟩ := sto_long hs
      exact lv_lstore_n (rest := List.map (cv G.2.1) st') hx hb hd rfl hl (by rw [← hL]; exact h1) rfl (fun ls' hl' => k p l e R s m args below meth cd hp locs ls' X hP hH hS (lp_st2 (v := .long x) hl') (by rw [st2_len]; exact hL))
    · cases hs
  | astore_n i =>
    simp only [okC, decide_eq_true_eq] at hc
    subst hc
    simp only [stepV] at hs
    split at hs
    · rename_i x r
      obtain ⟨h1, rfl, rfl⟩ := sto_ref hs
      exact lv_astore_n (rest := List.map (cv G.2.1) st') hx hb hd rfl hl (by rw [← hL]; exact h1) rfl (fun ls' hl' => k p l e R s m args below meth cd hp locs ls' X hP hH hS (lp_st1 (v := .ref x) hl') (by rw [st1_len]; exact hL))
    · cases hs
  | iinc i n =>
    simp only [okC, decide_eq_true_eq] at hc
    obtain ⟨x, kk, h1, h2, rfl, rfl⟩ := incI_inv hs
    have h2 : c = Value.int kk := h2
    subst h2
    cases hc
    obtain ⟨j, hj⟩ := List.getElem?_of_mem ((lp_mem (ad := G.2.1) L 0 (i, .int x)).mpr ⟨i, .int x, h1, by rw [Nat.zero_add]; rfl⟩)
    exact lv_iinc hx hb hd hl hj rfl (by rw [← hL]; exact (List.getElem?_eq_some_iff.mp h1).1) rfl (fun ls' hl' => k p l e R s m args below meth cd hp locs ls' X hP hH hS (lp_st1 (v := .int (x + Int32.ofInt n)) hl') (by rw [st1_len]; exact hL))
  | iadd =>
    simp only [okC, decide_eq_true_eq] at hc
    subst hc
    obtain ⟨x, y, r, rfl, rfl, rfl⟩ := oII_inv hs
    exact lv_iadd (rest := List.map (cv G.2.1) r) hx hb hd (k p l e R s m args below meth cd hp locs ls X hP hH hS hl hL)
  | isub =>
    simp only [okC, decide_eq_true_eq] at hc
    subst hc
    obtain ⟨x, y, r, rfl, rfl, rfl⟩ := oII_inv hs
    exact lv_isub (rest := List.map (cv G.2.1) r) hx hb hd (k p l e R s m args below meth cd hp locs ls X hP hH hS hl hL)
  | imul =>
    simp only [okC, decide_eq_true_eq] at hc
    subst hc
    obtain ⟨x, y, r, rfl, rfl, rfl⟩ := oII_inv hs
    exact lv_imul (rest := List.map (cv G.2.1) r) hx hb hd (k p l e R s m args below meth cd hp locs ls X hP hH hS hl hL)
  | iand =>
    simp only [okC, decide_eq_true_eq] at hc
    subst hc
    obtain ⟨x, y, r, rfl, rfl, rfl⟩ := oII_inv hs
    exact lv_iand (rest := List.map (cv G.2.1) r) hx hb hd (k p l e R s m args below meth cd hp locs ls X hP hH hS hl hL)
  | ior =>
    simp only [okC, decide_eq_true_eq] at hc
    subst hc
    obtain ⟨x, y, r, rfl, rfl, rfl⟩ := oII_inv hs
    exact lv_ior (rest := List.map (cv G.2.1) r) hx hb hd (k p l e R s m args below meth cd hp locs ls X hP hH hS hl hL)
  | ixor =>
    simp only [okC, decide_eq_true_eq] at hc
    subst hc
    obtain ⟨x, y, r, rfl, rfl, rfl⟩ := oII_inv hs
    exact lv_ixor (rest := List.map (cv G.2.1) r) hx hb hd (k p l e R s m args below meth cd hp locs ls X hP hH hS hl hL)
  | ishl =>
    simp only [okC, decide_eq_true_eq] at hc
    subst hc
    obtain ⟨x, y, r, rfl, rfl, rfl⟩ := oII_inv hs
    exact lv_ishl (rest := List.map (cv G.2.1) r) hx hb hd (k p l e R s m args below meth cd hp locs ls X hP hH hS hl hL)
  | ishr =>
    simp only [okC, decide_eq_true_eq] at hc
    subst hc
    obtain ⟨x, y, r, rfl, rfl, rfl⟩ := oII_inv hs
    exact lv_ishr (rest := List.map (cv G.2.1) r) hx hb hd (k p l e R s m args below meth cd hp locs ls X hP hH hS hl hL)
  | iushr =>
    simp only [okC, decide_eq_true_eq] at hc
    subst hc
    obtain ⟨x, y, r, rfl, rfl, rfl⟩ := oII_inv hs
    exact lv_iushr (rest := List.map (cv G.2.1) r) hx hb hd rfl (k p l e R s m args below meth cd hp locs ls X hP hH hS hl hL)
  | ineg =>
    simp only [okC, decide_eq_true_eq] at hc
    subst hc
    obtain ⟨x, r, rfl, rfl, rfl⟩ := oI_inv hs
    exact lv_ineg (rest := List.map (cv G.2.1) r) hx hb hd (k p l e R s m args below meth cd hp locs ls X hP hH hS hl hL)
  | i2l =>
    simp only [okC, decide_eq_true_eq] at hc
    subst hc
    obtain ⟨x, r, rfl, rfl, rfl⟩ := oI_inv hs
    exact lv_i2l (rest := List.map (cv G.2.1) r) hx hb hd rfl (k p l e R s m args below meth cd hp locs ls X hP hH hS hl hL)
  | l2i =>
    simp only [okC, decide_eq_true_eq] at hc
    subst hc
    obtain ⟨x, r, rfl, rfl, rfl⟩ := oJ_inv hs
    exact lv_l2i (rest := List.map (cv G.2.1) r) hx hb hd rfl (k p l e R s m args below meth cd hp locs ls X hP hH hS hl hL)
  | ladd =>
    simp only [okC, decide_eq_true_eq] at hc
    subst hc
    obtain ⟨x, y, r, rfl, rfl, rfl⟩ := oJJ_inv hs
    exact lv_ladd (rest := List.map (cv G.2.1) r) hx hb hd (k p l e R s m args below meth cd hp locs ls X hP hH hS hl hL)
  | lsub =>
    simp only [okC, decide_eq_true_eq] at hc
    subst hc
    obtain ⟨x, y, r, rfl, rfl, rfl⟩ := oJJ_inv hs
    exact lv_lsub (rest := List.map (cv G.2.1) r) hx hb hd (k p l e R s m args below meth cd hp locs ls X hP hH hS hl hL)
  | lmul =>
    simp only [okC, decide_eq_true_eq] at hc
    subst hc
    obtain ⟨x, y, r, rfl, rfl, rfl⟩ := oJJ_inv hs
    exact lv_lmul (rest := List.map (cv G.2.1) r) hx hb hd (k p l e R s m args below meth cd hp locs ls X hP hH hS hl hL)
  | land =>
    simp only [okC, decide_eq_true_eq] at hc
    subst hc
    obtain ⟨x, y, r, rfl, rfl, rfl⟩ := oJJ_inv hs
    exact lv_land (rest := List.map (cv G.2.1) r) hx hb hd (k p l e R s m args below meth cd hp locs ls X hP hH hS hl hL)
  | lor =>
    simp only [okC, decide_eq_true_eq] at hc
    subst hc
    obtain ⟨x, y, r, rfl, rfl, rfl⟩ := oJJ_inv hs
    exact lv_lor (rest := List.map (cv G.2.1) r) hx hb hd (k p l e R s m args below meth cd hp locs ls X hP hH hS hl hL)
  | lcmp =>
    simp only [okC, decide_eq_true_eq] at hc
    subst hc
    obtain ⟨x, y, r, rfl, rfl, rfl⟩ := oJJ_inv hs
    exact W.lcmp (rest := List.map (cv G.2.1) r) hx hb hd (k p l e R s m args below meth cd hp locs ls X hP hH hS hl hL)
  | lshl =>
    simp only [okC, decide_eq_true_eq] at hc
    subst hc
    obtain ⟨x, y, r, rfl, rfl, rfl⟩ := oJI_inv hs
    exact lv_lshl (rest := List.map (cv G.2.1) r) hx hb hd rfl (k p l e R s m args below meth cd hp locs ls X hP hH hS hl hL)
  | lushr =>
    simp only [okC, decide_eq_true_eq] at hc
    subst hc
    obtain ⟨x, y, r, rfl, rfl, rfl⟩ := oJI_inv hs
    exact lv_lushr (rest := List.map (cv G.2.1) r) hx hb hd rfl (k p l e R s m args below meth cd hp locs ls X hP hH hS hl hL)
  | dup =>
    simp only [okC, decide_eq_true_eq] at hc
    subst hc
    simp only [stepV] at hs
    unfold dupV at hs
    split at hs
    · cases hs
      exact lv_dup (va := .int _) (rest := List.map (cv G.2.1) _) hx hb hd rfl (k p l e R s m args below meth cd hp locs ls X hP hH hS hl hL)
    · cases hs
      exact lv_dup (va := .ref _) (rest := List.map (cv G.2.1) _) hx hb hd rfl (k p l e R s m args below meth cd hp locs ls X hP hH hS hl hL)
    · cases hs
  | pop =>
    simp only [okC, decide_eq_true_eq] at hc
    subst hc
    simp only [stepV] at hs
    unfold popV at hs
    split at hs
    · cases hs
      exact lv_pop (va := .int _) (rest := List.map (cv G.2.1) _) hx hb hd rfl (k p l e R s m args below meth cd hp locs ls X hP hH hS hl hL)
    · cases hs
      exact lv_pop (va := .ref _) (rest := List.map (cv G.2.1) _) hx hb hd rfl (k p l e R s m args below meth cd hp locs ls X hP hH hS hl hL)
    · cases hs
  | goto off =>
    simp only [stepV] at hs
    cases hs
    cases c with
    | retAddr t =>
      simp only [okC, decide_eq_true_eq] at hc
      exact lv_goto hx hb hd hc (k p l e R s m args below meth cd hp locs ls X hP hH hS hl hL)
    | _ => simp [okC] at hc
  | _ => cases hs
theorem sn_blk : ∀ (its : List It) {pc pc' : Nat} {L L' : LL} {st st' : List Value}, decB M.2.1 pc its = true → runB its L st = some (L', st') → endB pc its = pc' → Sn G T M pc' L' st' H → Sn G T M pc L st H
  | [], pc, pc', L, L', st, st', _, hr, he, k => by
    cases hr
    cases he
    exact k
  | it :: r, pc, pc', L, L', st, st', hd, hr, he, k => by
    simp only [decB, Bool.and_eq_true, decide_eq_true_eq] at hd
    simp only [runB] at hr
    split at hr
    · rename_i q hq
      exact sn_it hd.1 hd.2.1 (L' := q.1) (st' := q.2) hq (sn_blk r hd.2.2 hr he k)
    · cases hr
end RULES
end
section
/-! Rules for branches, divisions, constants, heap, calls, returns. -/
def rI (x y : Int32) : Int32 := x - x / y * y
def rJ (x y : Int64) : Int64 := x - x / y * y
-- reads and writes of abstract cells
def gI (H : Hp) (k ci j : Nat) : Option Int32 := match H[k]? with
  | some (.inr o) => match Nat.beq o.1 ci, o.2[j]? with
    | true, some (.int x) => some x
    | _, _ => none
  | _ => none
def gJ (H : Hp) (k ci j : Nat) : Option Int64 := match H[k]? with
  | some (.inr o) => match Nat.beq o.1 ci, o.2[j]? with
    | true, some (.long x) => some x
    | _, _ => none
  | _ => none
def gA (H : Hp) (k ci j : Nat) : Option Nat := match H[k]? with
  | some (.inr o) => match Nat.beq o.1 ci, o.2[j]? with
    | true, some (.ref x) => some x
    | _, _ => none
  | _ => none
def pV (H : Hp) (k ci j : Nat) (v : Value) : Option Hp := match H[k]? with
  | some (.inr o) => match Nat.beq o.1 ci, o.2[j]? with
    | true, some _ => some (H.set k (.inr (ci, o.2.set j v)))
    | _, _ => none
  | _ => none
/-- is there an object of the class at this place -/
def isO (H : Hp) (k ci : Nat) : Bool := match H[k]? with
  | some (.inr o) => Nat.beq o.1 ci
  | _ => false
def aI (H : Hp) (k t : Nat) (i : Int32) : Option Int32 := match H[k]? with
  | some (.inl a) => match Nat.beq a.1 t, a.2.2 with
    | true, .inl f => if i < 0 ∨ a.2.1 ≤ i.toNatClampNeg then none else some (f i.toNatClampNeg)
    | _, _ => none
  | _ => none
def aJ (H : Hp) (k : Nat) (i : Int32) : Option Int64 := match H[k]? with
  | some (.inl a) => match Nat.beq a.1 1, a.2.2 with
    | true, .inr (.inl f) => if i < 0 ∨ a.2.1 ≤ i.toNatClampNeg then none else some (f i.toNatClampNeg)
    | _, _ => none
  | _ => none
def sI (H : Hp) (k t : Nat) (i x : Int32) : Option Hp := match H[k]? with
  | some (.inl a) => match Nat.beq a.1 t, a.2.2 with
    | true, .inl f => if i < 0 ∨ a.2.1 ≤ i.toNatClampNeg then none else some (H.set k (.inl (t, a.2.1, .inl (upd f i.toNatClampNeg x))))
    | _, _ => none
  | _ => none
def sJ (H : Hp) (k : Nat) (i : Int32) (x : Int64) : Option Hp := match H[k]? with
  | some (.inl a) => match Nat.beq a.1 1, a.2.2 with
    | true, .inr (.inl f) => if i < 0 ∨ a.2.1 ≤ i.toNatClampNeg then none else some (H.set k (.inl (1, a.2.1, .inr (.inl (vp_updL f i.toNatClampNeg x)))))
    | _, _ => none
  | _ => none
theorem gI_inv {H : Hp} {k ci j : Nat} {x : Int32} (h : gI H k ci j = some x) : ∃ fs, H[k]? = some (.inr (ci, fs)) ∧ fs[j]? = some (.int x) := by
  unfold gI at h
  split at h
  · rename_i o ho
    split at h
    · rename_i y h1 h2
      cases h
      have h1 := Nat.eq_of_beq_eq_true h1
      subst h1
      exact ⟨_, ho, h2⟩
    · cases h
  · cases h
theorem gJ_inv {H : Hp} {k ci j : Nat} {x : Int64} (h : gJ H k ci j = some x) : ∃ fs, H[k]? = some (.inr (ci, fs)) ∧ fs[j]? = some (.long x) := by
  unfold gJ at h
  split at h
  · rename_i o ho
    split at h
    · rename_i y h1 h2
      cases h
      have h1 := Nat.eq_of_beq_eq_true h1
      subst h1
      exact ⟨_, ho, h2⟩
    · cases h
  · cases h
theorem gA_inv {H : Hp} {k ci j : Nat} {x : Nat} (h : gA H k ci j = some x) : ∃ fs, H[k]? = some (.inr (ci, fs)) ∧ fs[j]? = some (.ref x) := by
  unfold gA at h
  split at h
  · rename_i o ho
    split at h
    · rename_i y h1 h2
      cases h
      have h1 := Nat.eq_of_beq_eq_true h1
      subst h1
      exact ⟨_, ho, h2⟩
    · cases h
  · cases h
theorem pV_inv {H H' : Hp} {k ci j : Nat} {v : Value} (h : pV H k ci j v = some H') : ∃ fs, H[k]? = some (.inr (ci, fs)) ∧ j < fs.length ∧ H' = H.set k (.inr (ci, fs.set j v)) := by
  unfold pV at h
  split at h
  · rename_i o ho
    split at h
    · rename_i y h1 h2
      cases h
      have h1 := Nat.eq_of_beq_eq_true h1
      subst h1
      exact ⟨_, ho, (List.getElem?_eq_some_iff.mp h2).1, rfl⟩
    · cases h
  · cases h
theorem isO_inv {H : Hp} {k ci : Nat} (h : isO H k ci = true) : ∃ fs, H[k]? = some (.inr (ci, fs)) := by
  unfold isO at h
  split at h
  · rename_i o ho
    have h1 := Nat.eq_of_beq_eq_true h
    subst h1
    exact ⟨_, ho⟩
  · cases h
theorem aI_inv {H : Hp} {k t : Nat} {i x : Int32} (h : aI H k t i = some x) : ∃ n f, H[k]? = some (.inl (t, n, .inl f)) ∧ vp_in i n ∧ x = f i.toNatClampNeg := by
  unfold aI at h
  split at h
  · rename_i a ha
    split at h
    · rename_i f h1 h2
      split at h
      · cases h
      · rename_i hi
        cases h
        have h1 := Nat.eq_of_beq_eq_true h1
        subst h1
        obtain ⟨a1, a2, a3⟩ := a
        cases h2
        exact ⟨_, _, ha, hi, rfl⟩
    · cases h
  · cases h
theorem aJ_inv {H : Hp} {k : Nat} {i : Int32} {x : Int64} (h : aJ H k i = some x) : ∃ n f, H[k]? = some (.inl (1, n, .inr (.inl f))) ∧ vp_in i n ∧ x = f i.toNatClampNeg := by
  unfold aJ at h
  split at h
  · rename_i a ha
    split at h
    · rename_i f h1 h2
      split at h
      · cases h
      · rename_i hi
        cases h
        have h1 := Nat.eq_of_beq_eq_true h1
        obtain ⟨a1, a2, a3⟩ := a
        cases h2
        cases h1
        exact ⟨_, _, ha, hi, rfl⟩
    · cases h
  · cases h
theorem sI_inv {H H' : Hp} {k t : Nat} {i x : Int32} (h : sI H k t i x = some H') : ∃ n f, H[k]? = some (.inl (t, n, .inl f)) ∧ vp_in i n ∧ H' = H.set k (.inl (t, n, .inl (upd f i.toNatClampNeg x))) := by
  unfold sI at h
  split at h
  · rename_i a ha
    split at h
    · rename_i f h1 h2
      split at h
      · cases h
      · rename_i hi
        cases h
        have h1 := Nat.eq_of_beq_eq_true h1
        subst h1
        obtain ⟨a1, a2, a3⟩ := a
        cases h2
        exact ⟨_, _, ha, hi, rfl⟩
    · cases h
  · cases h
theorem sJ_inv {H H' : Hp} {k : Nat} {i : Int32} {x : Int64} (h : sJ H k i x = some H') : ∃ n f, H[k]? = some (.inl (1, n, .inr (.inl f))) ∧ vp_in i n ∧ H' = H.set k (.inl (1, n, .inr (.inl (vp_updL f i.toNatClampNeg x)))) := by
  unfold sJ at h
  split at h
  · rename_i a ha
    split at h
    · rename_i f h1 h2
      split at h
      · cases h
      · rename_i hi
        cases h
        have h1 := Nat.eq_of_beq_eq_true h1
        obtain ⟨a1, a2, a3⟩ := a
        cases h2
        cases h1
        exact ⟨_, _, ha, hi, rfl⟩
    · cases h
  · cases h
/-- a field of a class, as a method of 'own' spells it -/
def FOk (own : String) (idx ci j : Nat) : Prop := ∃ (C : String) (Tf : u_T) (N : Nat) (ty0 : Nat → FieldType), vwCl[ci]? = some (C, Tf, N) ∧ j < N ∧ (∀ w ∈ u_ws C Tf N, w ∈ gW) ∧ (∀ k, k < N → parseFieldDescriptor (Tf k).2.2.1 = some (ty0 k)) ∧ (∀ a, a < N → ∀ b, b < N → a ≠ b → (Tf a).2.1 ≠ (Tf b).2.1) ∧ (Cond.fieldLink own idx (Tf j).1 (Tf j).2.1 (Tf j).2.2.1 ∈ gW ∨ ∃ host, Cond.fieldLinkNest own idx (Tf j).1 (Tf j).2.1 (Tf j).2.2.1 host ∈ nW)
/-- one that may be written outside of a constructor, with an int or a long -/
def FPu (ci j : Nat) (ty : FieldType) : Prop := ∃ (C : String) (Tf : u_T) (N : Nat), vwCl[ci]? = some (C, Tf, N) ∧ (Tf j).2.2.2 = false ∧ parseFieldDescriptor (Tf j).2.2.1 = some ty
section RULES2
variable {G : GG} {T : Md} {M : Mt} {pc : Nat} {L L' : LL} {st st' : List Value} {H : Hp}
theorem sn_if_eq {x : Int32} {off : Int} {tgt : Nat} (hd : decode M.2.1 pc = .ok (.ifCond .eq off, 3)) (ht : (pc : Int) + off = (tgt : Int)) (kt : x = 0 → Sn G T M tgt L st H) (kf : ¬ x = 0 → Sn G T M (pc + 3) L st H) : Sn G T M pc L (.int x :: st) H := by
  intro p l e R s m args below meth cd hp locs ls X hP hH hS hl hL
  exact lv_if_eq (rest := List.map (cv G.2.1) st) X.1 X.2.1 hd ht (fun q => kt q p l e R s m args below meth cd hp locs ls X hP hH hS hl hL) (fun q => kf q p l e R s m args below meth cd hp locs ls X hP hH hS hl hL)
theorem sn_if_ne {x : Int32} {off : Int} {tgt : Nat} (hd : decode M.2.1 pc = .ok (.ifCond .ne off, 3)) (ht : (pc : Int) + off = (tgt : Int)) (kt : ¬ x = 0 → Sn G T M tgt L st H) (kf : x = 0 → Sn G T M (pc + 3) L st H) : Sn G T M pc L (.int x :: st) H := by
  intro p l e R s m args below meth cd hp locs ls X hP hH hS hl hL
  exact lv_if_ne (rest := List.map (cv G.2.1) st) X.1 X.2.1 hd ht (fun q => kt q p l e R s m args below meth cd hp locs ls X hP hH hS hl hL) (fun q => kf q p l e R s m args below meth cd hp locs ls X hP hH hS hl hL)
theorem sn_if_lt {x : Int32} {off : Int} {tgt : Nat} (hd : decode M.2.1 pc = .ok (.ifCond .lt off, 3)) (ht : (pc : Int) + off = (tgt : Int)) (kt : x < 0 → Sn G T M tgt L st H) (kf : ¬ x < 0 → Sn G T M (pc + 3) L st H) : Sn G T M pc L (.int x :: st) H := by
  intro p l e R s m args below meth cd hp locs ls X hP hH hS hl hL
  exact lv_if_lt (rest := List.map (cv G.2.1) st) X.1 X.2.1 hd ht (fun q => kt q p l e R s m args below meth cd hp locs ls X hP hH hS hl hL) (fun q => kf q p l e R s m args below meth cd hp locs ls X hP hH hS hl hL)
theorem sn_if_ge {x : Int32} {off : Int} {tgt : Nat} (hd : decode M.2.1 pc = .ok (.ifCond .ge off, 3)) (ht : (pc : Int) + off = (tgt : Int)) (kt : 0 ≤ x → Sn G T M tgt L st H) (kf : ¬ 0 ≤ x → Sn G T M (pc + 3) L st H) : Sn G T M pc L (.int x :: st) H := by
  intro p l e R s m args below meth cd hp locs ls X hP hH hS hl hL
  exact lv_if_ge (rest := List.map (cv G.2.1) st) X.1 X.2.1 hd ht (fun q => kt q p l e R s m args below meth cd hp locs ls X hP hH hS hl hL) (fun q => kf q p l e R s m args below meth cd hp locs ls X hP hH hS hl hL)
theorem sn_if_gt {x : Int32} {off : Int} {tgt : Nat} (hd : decode M.2.1 pc = .ok (.ifCond .gt off, 3)) (ht : (pc : Int) + off = (tgt : Int)) (kt : 0 < x → Sn G T M tgt L st H) (kf : ¬ 0 < x → Sn G T M (pc + 3) L st H) : Sn G T M pc L (.int x :: st) H := by
  intro p l e R s m args below meth cd hp locs ls X hP hH hS hl hL
  exact lv_if_gt (rest := List.map (cv G.2.1) st) X.1 X.2.1 hd ht (fun q => kt q p l e R s m args below meth cd hp locs ls X hP hH hS hl hL) (fun q => kf q p l e R s m args below meth cd hp locs ls X hP hH hS hl hL)
theorem sn_if_le {x : Int32} {off : Int} {tgt : Nat} (hd : decode M.2.1 pc = .ok (.ifCond .le off, 3)) (ht : (pc : Int) + off = (tgt : Int)) (kt : x ≤ 0 → Sn G T M tgt L st H) (kf : ¬ x ≤ 0 → Sn G T M (pc + 3) L st H) : Sn G T M pc L (.int x :: st) H := by
  intro p l e R s m args below meth cd hp locs ls X hP hH hS hl hL
  exact lv_if_le (rest := List.map (cv G.2.1) st) X.1 X.2.1 hd ht (fun q => kt q p l e R s m args below meth cd hp locs ls X hP hH hS hl hL) (fun q => kf q p l e R s m args below meth cd hp locs ls X hP hH hS hl hL)
theorem sn_icmp_eq {x y : Int32} {off : Int} {tgt : Nat} (hd : decode M.2.1 pc = .ok (.if_icmp .eq off, 3)) (ht : (pc : Int) + off = (tgt : Int)) (kt : x = y → Sn G T M tgt L st H) (kf : ¬ x = y → Sn G T M (pc + 3) L st H) : Sn G T M pc L (.int y :: .int x :: st) H := by
  intro p l e R s m args below meth cd hp locs ls X hP hH hS hl hL
  exact lv_icmp_eq (rest := List.map (cv G.2.1) st) X.1 X.2.1 hd ht (fun q => kt q p l e R s m args below meth cd hp locs ls X hP hH hS hl hL) (fun q => kf q p l e R s m args below meth cd hp locs ls X hP hH hS hl hL)
theorem sn_icmp_ne {x y : Int32} {off : Int} {tgt : Nat} (hd : decode M.2.1 pc = .ok (.if_icmp .ne off, 3)) (ht : (pc : Int) + off = (tgt : Int)) (kt : ¬ x = y → Sn G T M tgt L st H) (kf : x = y → Sn G T M (pc + 3) L st H) : Sn G T M pc L (.int y :: .int x :: st) H := by
  intro p l e R s m args below meth cd hp locs ls X hP hH hS hl hL
  exact lv_icmp_ne (rest := List.map (cv G.2.1) st) X.1 X.2.1 hd ht (fun q => kt q p l e R s m args below meth cd hp locs ls X hP hH hS hl hL) (fun q => kf q p l e R s m args below meth cd hp locs ls X hP hH hS hl hL)
theorem sn_icmp_lt {x y : Int32} {off : Int} {tgt : Nat} (hd : decode M.2.1 pc = .ok (.if_icmp .lt off, 3)) (ht : (pc : Int) + off = (tgt : Int)) (kt : x < y → Sn G T M tgt L st H) (kf : ¬ x < y → Sn G T M (pc + 3) L st H) : Sn G T M pc L (.int y :: .int x :: st) H := by
  intro p l e R s m args below meth cd hp locs ls X hP hH hS hl hL
  exact lv_icmp_lt (rest := List.map (cv G.2.1) st) X.1 X.2.1 hd ht (fun q => kt q p l e R s m args below meth cd hp locs ls X hP hH hS hl hL) (fun q => kf q p l e R s m args below meth cd hp locs ls X hP hH hS hl hL)
theorem sn_icmp_ge {x y : Int32} {off : Int} {tgt : Nat} (hd : decode M.2.1 pc = .ok (.if_icmp .ge off, 3)) (ht : (pc : Int) + off = (tgt : Int)) (kt : y ≤ x → Sn G T M tgt L st H) (kf : ¬ y ≤ x → Sn G T M (pc + 3) L st H) : Sn G T M pc L (.int y :: .int x :: st) H := by
  intro p l e R s m args below meth cd hp locs ls X hP hH hS hl hL
  exact lv_icmp_ge (rest := List.map (cv G.2.1) st) X.1 X.2.1 hd ht (fun q => kt q p l e R s m args below meth cd hp locs ls X hP hH hS hl hL) (fun q => kf q p l e R s m args below meth cd hp locs ls X hP hH hS hl hL)
theorem sn_icmp_gt {x y : Int32} {off : Int} {tgt : Nat} (hd : decode M.2.1 pc = .ok (.if_icmp .gt off, 3)) (ht : (pc : Int) + off = (tgt : Int)) (kt : y < x → Sn G T M tgt L st H) (kf : ¬ y < x → Sn G T M (pc + 3) L st H) : Sn G T M pc L (.int y :: .int x :: st) H := by
  intro p l e R s m args below meth cd hp locs ls X hP hH hS hl hL
  exact lv_icmp_gt (rest := List.map (cv G.2.1) st) X.1 X.2.1 hd ht (fun q => kt q p l e R s m args below meth cd hp locs ls X hP hH hS hl hL) (fun q => kf q p l e R s m args below meth cd hp locs ls X hP hH hS hl hL)
theorem sn_icmp_le {x y : Int32} {off : Int} {tgt : Nat} (hd : decode M.2.1 pc = .ok (.if_icmp .le off, 3)) (ht : (pc : Int) + off = (tgt : Int)) (kt : x ≤ y → Sn G T M tgt L st H) (kf : ¬ x ≤ y → Sn G T M (pc + 3) L st H) : Sn G T M pc L (.int y :: .int x :: st) H := by
  intro p l e R s m args below meth cd hp locs ls X hP hH hS hl hL
  exact lv_icmp_le (rest := List.map (cv G.2.1) st) X.1 X.2.1 hd ht (fun q => kt q p l e R s m args below meth cd hp locs ls X hP hH hS hl hL) (fun q => kf q p l e R s m args below meth cd hp locs ls X hP hH hS hl hL)
theorem sn_idiv {x y : Int32} (hd : decode M.2.1 pc = .ok (.idiv, 1)) (hy : ¬ y = 0) (k : Sn G T M (pc + 1) L (.int (x / y) :: st) H) : Sn G T M pc L (.int y :: .int x :: st) H := by
  intro p l e R s m args below meth cd hp locs ls X hP hH hS hl hL
  exact lv_idiv (rest := List.map (cv G.2.1) st) X.1 X.2.1 hd hy (k p l e R s m args below meth cd hp locs ls X hP hH hS hl hL)
theorem sn_irem {x y : Int32} (hd : decode M.2.1 pc = .ok (.irem, 1)) (hy : ¬ y = 0) (k : Sn G T M (pc + 1) L (.int (rI x y) :: st) H) : Sn G T M pc L (.int y :: .int x :: st) H := by
  intro p l e R s m args below meth cd hp locs ls X hP hH hS hl hL
  exact lv_irem (rest := List.map (cv G.2.1) st) X.1 X.2.1 hd hy (k p l e R s m args below meth cd hp locs ls X hP hH hS hl hL)
theorem sn_ldiv {x y : Int64} (hd : decode M.2.1 pc = .ok (.ldiv, 1)) (hy : ¬ y = 0) (k : Sn G T M (pc + 1) L (.long (x / y) :: st) H) : Sn G T M pc L (.long y :: .long x :: st) H := by
  intro p l e R s m args below meth cd hp locs ls X hP hH hS hl hL
  exact lv_ldiv (rest := List.map (cv G.2.1) st) X.1 X.2.1 hd hy (k p l e R s m args below meth cd hp locs ls X hP hH hS hl hL)
theorem sn_lrem {x y : Int64} (hd : decode M.2.1 pc = .ok (.lrem, 1)) (hy : ¬ y = 0) (k : Sn G T M (pc + 1) L (.long (rJ x y) :: st) H) : Sn G T M pc L (.long y :: .long x :: st) H := by
  intro p l e R s m args below meth cd hp locs ls X hP hH hS hl hL
  exact lv_lrem (rest := List.map (cv G.2.1) st) X.1 X.2.1 hd hy (k p l e R s m args below meth cd hp locs ls X hP hH hS hl hL)
theorem sn_ldcw {idx : Nat} {v : Int32} (hd : decode M.2.1 pc = .ok (.ldc_w idx, 3)) (hw : Cond.constant M.1.cls idx v ∈ gW) (k : Sn G T M (pc + 3) L (.int v :: st) H) : Sn G T M pc L st H := by
  intro p l e R s m args below meth cd hp locs ls X hP hH hS hl hL
  obtain ⟨hx, hb, -, -, -, hown, hts, -⟩ := id X
  exact lv_ldcw hx hb hown (hts _ hw) hd (k p l e R s m args below meth cd hp locs ls X hP hH hS hl hL)
theorem sn_ldc2 {idx : Nat} {v : Int64} (hd : decode M.2.1 pc = .ok (.ldc2_w idx, 3)) (hw : Cond.constantLong M.1.cls idx v ∈ gW) (k : Sn G T M (pc + 3) L (.long v :: st) H) : Sn G T M pc L st H := by
  intro p l e R s m args below meth cd hp locs ls X hP hH hS hl hL
  obtain ⟨hx, hb, -, -, -, hown, hts, -⟩ := id X
  exact lv_ldc2 hx hb hown (hts _ hw) hd (k p l e R s m args below meth cd hp locs ls X hP hH hS hl hL)
theorem sn_forget {L2 : LL} (h : ∀ (i : Nat) (v : Value), L2[i]? = some (some v) → L[i]? = some (some v)) (hl2 : L2.length = L.length) (k : Sn G T M pc L2 st H) : Sn G T M pc L st H := by
  intro p l e R s m args below meth cd hp locs ls X hP hH hS hl hL
  refine k p l e R s m args below meth cd hp locs ls X hP hH hS (lp_mono (ad := G.2.1) hl (fun q hq => ?_)) (by rw [hl2]; exact hL)
  obtain ⟨j, v, h1, h2⟩ := (lp_mem _ _ _).mp hq
  exact (lp_mem _ _ _).mpr ⟨j, v, h j v h1, h2⟩
/-- fewer known locals, by a mask -/
def mskL : List Bool → LL → LL
  | b :: bs, v :: l => (bif b then v else none) :: mskL bs l
  | _, l => l
theorem mskL_len : ∀ (bs : List Bool) (l : LL), (mskL bs l).length = l.length
  | b :: bs, v :: l => by simp [mskL, mskL_len bs l]
  | [], l => by simp [mskL]
  | _ :: _, [] => by simp [mskL]
theorem mskL_at : ∀ (bs : List Bool) (l : LL) (i : Nat) (v : Value), (mskL bs l)[i]? = some (some v) → l[i]? = some (some v)
  | b :: bs, w :: l, 0, v, h => by
    cases b <;> simp [mskL] at h ⊢
    exact h
  | b :: bs, w :: l, i + 1, v, h => by
    simp only [mskL, List.getElem?_cons_succ] at h ⊢
    exact mskL_at bs l i v h
  | [], l, i, v, h => by simpa [mskL] using h
  | _ :: _, [], i, v, h => by simpa [mskL] using h
theorem sn_msk (bs : List Bool) {L2 : LL} (he : mskL bs L = L2) (k : Sn G T M pc L2 st H) : Sn G T M pc L st H := by
  subst he
  exact sn_forget (fun i v h => mskL_at bs L i v h) (mskL_len bs L) k
theorem sn_get {idx ci j k : Nat} {fs : List Value} {v : Value} (hd : decode M.2.1 pc = .ok (.getfield idx, 3)) (hf : FOk M.1.cls idx ci j) (hk : H[k]? = some (.inr (ci, fs))) (hv : fs[j]? = some v) (kk : Sn G T M (pc + 3) L (v :: st) H) : Sn G T M pc L (.ref k :: st) H := by
  intro p l e R s m args below meth cd hp locs ls X hP hH hS hl hL
  obtain ⟨hx, hb, -, -, -, hown, hts, hE, -⟩ := id X
  obtain ⟨C, Tf, N, ty0, hc, hj, hin, hty, hnm, hlk⟩ := hf
  have he : (cw G H)[k]? = some (G.2.1 k, .inr (ci, fs.map (cv G.2.1))) := cw_get hk
  have hv' : (fs.map (cv G.2.1))[j]? = some (cv G.2.1 v) := by rw [List.getElem?_map, hv]; rfl
  rcases hlk with hlk | ⟨host, hlk⟩
  · exact va_get (rest := List.map (cv G.2.1) st) hx hb hts hin hown hE.1 hP k he hc j hj (hts _ hlk) (fun _ h9 => h9) hv' hd (kk p l e R s m args below meth cd hp locs ls X hP hH hS hl hL)
  · exact va_getN (rest := List.map (cv G.2.1) st) hx hb hts hin hown hE.1 hP k he hc j hj (va_Nw.use (nW_on hlk) (hE.2.1 _ hlk)) (fun _ h9 => h9) hv' hd (kk p l e R s m args below meth cd hp locs ls X hP hH hS hl hL)
theorem sn_gI {idx ci j k : Nat} {v : Int32} (hd : decode M.2.1 pc = .ok (.getfield idx, 3)) (hf : FOk M.1.cls idx ci j) (hk : gI H k ci j = some v) (kk : Sn G T M (pc + 3) L (.int v :: st) H) : Sn G T M pc L (.ref k :: st) H := by
  obtain ⟨fs, h1, h2⟩ := gI_inv hk
  exact sn_get hd hf h1 h2 kk
theorem sn_gJ {idx ci j k : Nat} {v : Int64} (hd : decode M.2.1 pc = .ok (.getfield idx, 3)) (hf : FOk M.1.cls idx ci j) (hk : gJ H k ci j = some v) (kk : Sn G T M (pc + 3) L (.long v :: st) H) : Sn G T M pc L (.ref k :: st) H := by
  obtain ⟨fs, h1, h2⟩ := gJ_inv hk
  exact sn_get hd hf h1 h2 kk
theorem sn_gA {idx ci j k : Nat} {v : Nat} (hd : decode M.2.1 pc = .ok (.getfield idx, 3)) (hf : FOk M.1.cls idx ci j) (hk : gA H k ci j = some v) (kk : Sn G T M (pc + 3) L (.ref v :: st) H) : Sn G T M pc L (.ref k :: st) H := by
  obtain ⟨fs, h1, h2⟩ := gA_inv hk
  exact sn_get hd hf h1 h2 kk
theorem set_cv (fs : List Value) (ad : Nat → Nat) (j : Nat) (v : Value) : (fs.map (cv ad)).set j (cv ad v) = (fs.set j v).map (cv ad) := (List.map_set).symm
theorem sn_put {idx ci j k : Nat} {ty : FieldType} {v : Value} {H1 : Hp} (hd : decode M.2.1 pc = .ok (.putfield idx, 3)) (hf : FOk M.1.cls idx ci j) (hpu : FPu ci j ty) (hn : narrow ty (cv G.2.1 v) = cv G.2.1 v) (hfit : fits ty (cv G.2.1 v) = true) (hk : pV H k ci j v = some H1) (kk : Sn G T M (pc + 3) L st H1) : Sn G T M pc L (v :: .ref k :: st) H := by
  intro p l e R s m args below meth cd hp locs ls X hP hH hS hl hL
  obtain ⟨hx, hb, -, -, -, hown, hts, hE, hA, -, -, -, -, hinj, -⟩ := id X
  obtain ⟨C, Tf, N, ty0, hc, hj, hin, hty, hnm, hlk⟩ := hf
  obtain ⟨C', Tf', N', hc', hfin, hd2⟩ := hpu
  cases hc.symm.trans hc'
  obtain ⟨fs, h1, h2, rfl⟩ := pV_inv hk
  have he : (cw G H)[k]? = some (G.2.1 k, .inr (ci, fs.map (cv G.2.1))) := cw_get h1
  have hD : va_D (T.2.2.1 s) (cw G H) := cw_D hinj hH hA
  have hset : (cw G H).set k (G.2.1 k, .inr (ci, (fs.map (cv G.2.1)).set j (cv G.2.1 v))) = cw G (H.set k (.inr (ci, fs.set j v))) := by
    rw [set_cv]
    exact cw_set G H k (.inr (ci, fs.set j v))
  rcases hlk with hlk | ⟨host, hlk⟩
  · refine va_put (rest := List.map (cv G.2.1) st) hx hb hts hin ty0 hty hnm hown hE.1 hP hD hS k he hc j hj (hts _ hlk) (fun _ h9 => h9) hfin hd2 hn hfit (by rw [List.length_map]; exact h2) hd (fun hp1 locs1 hP1 hD1 hS1 => ?_)
    rw [hset] at hP1
    exact kk p l e R s m args below meth cd hp1 locs1 ls X hP1 (by rw [List.length_set]; exact hH) hS1 hl hL
  · refine va_putN (rest := List.map (cv G.2.1) st) hx hb hts hin ty0 hty hnm hown hE.1 hP hD hS k he hc j hj (va_Nw.use (nW_on hlk) (hE.2.1 _ hlk)) (fun _ h9 => h9) hfin hd2 hn hfit (by rw [List.length_map]; exact h2) hd (fun hp1 locs1 hP1 hD1 hS1 => ?_)
    rw [hset] at hP1
    exact kk p l e R s m args below meth cd hp1 locs1 ls X hP1 (by rw [List.length_set]; exact hH) hS1 hl hL
theorem sn_pI {idx ci j k : Nat} {v : Int32} {H1 : Hp} (hd : decode M.2.1 pc = .ok (.putfield idx, 3)) (hf : FOk M.1.cls idx ci j) (hpu : FPu ci j .int) (hk : pV H k ci j (.int v) = some H1) (kk : Sn G T M (pc + 3) L st H1) : Sn G T M pc L (.int v :: .ref k :: st) H := sn_put hd hf hpu rfl rfl hk kk
theorem sn_pJ {idx ci j k : Nat} {v : Int64} {H1 : Hp} (hd : decode M.2.1 pc = .ok (.putfield idx, 3)) (hf : FOk M.1.cls idx ci j) (hpu : FPu ci j .long) (hk : pV H k ci j (.long v) = some H1) (kk : Sn G T M (pc + 3) L st H1) : Sn G T M pc L (.long v :: .ref k :: st) H := sn_put hd hf hpu rfl rfl hk kk
theorem sn_iald {k : Nat} {i v : Int32} (hd : decode M.2.1 pc = .ok (.iaload, 1)) (hk : aI H k 0 i = some v) (kk : Sn G T M (pc + 1) L (.int v :: st) H) : Sn G T M pc L (.int i :: .ref k :: st) H := by
  intro p l e R s m args below meth cd hp locs ls X hP hH hS hl hL
  obtain ⟨hx, hb, -, -, -, hown, hts, hE, -⟩ := id X
  obtain ⟨n, f, h1, h2, rfl⟩ := aI_inv hk
  have he : (cw G H)[k]? = some (G.2.1 k, .inl (G.2.2.1 0, n, .inl f)) := cw_get h1
  exact va_iald (rest := List.map (cv G.2.1) st) hx hb hE.1 hP k 0 he rfl h2 hd (kk p l e R s m args below meth cd hp locs ls X hP hH hS hl hL)
theorem sn_zald {k : Nat} {i v : Int32} (hd : decode M.2.1 pc = .ok (.baload, 1)) (hk : aI H k 2 i = some v) (kk : Sn G T M (pc + 1) L (.int v :: st) H) : Sn G T M pc L (.int i :: .ref k :: st) H := by
  intro p l e R s m args below meth cd hp locs ls X hP hH hS hl hL
  obtain ⟨hx, hb, -, -, -, hown, hts, hE, -⟩ := id X
  obtain ⟨n, f, h1, h2, rfl⟩ := aI_inv hk
  have he : (cw G H)[k]? = some (G.2.1 k, .inl (G.2.2.1 2, n, .inl f)) := cw_get h1
  exact va_zald (rest := List.map (cv G.2.1) st) hx hb hE.1 hP k 2 he rfl h2 hd (kk p l e R s m args below meth cd hp locs ls X hP hH hS hl hL)
theorem sn_lald {k : Nat} {i : Int32} {v : Int64} (hd : decode M.2.1 pc = .ok (.laload, 1)) (hk : aJ H k i = some v) (kk : Sn G T M (pc + 1) L (.long v :: st) H) : Sn G T M pc L (.int i :: .ref k :: st) H := by
  intro p l e R s m args below meth cd hp locs ls X hP hH hS hl hL
  obtain ⟨hx, hb, -, -, -, hown, hts, hE, -⟩ := id X
  obtain ⟨n, f, h1, h2, rfl⟩ := aJ_inv hk
  have he : (cw G H)[k]? = some (G.2.1 k, .inl (G.2.2.1 1, n, .inr (.inl f))) := cw_get h1
  exact va_lald (rest := List.map (cv G.2.1) st) hx hb hE.1 hP k 1 he rfl h2 hd (kk p l e R s m args below meth cd hp locs ls X hP hH hS hl hL)
theorem sn_iast {k : Nat} {i x : Int32} {H1 : Hp} (hd : decode M.2.1 pc = .ok (.iastore, 1)) (hk : sI H k 0 i x = some H1) (kk : Sn G T M (pc + 1) L st H1) : Sn G T M pc L (.int x :: .int i :: .ref k :: st) H := by
  intro p l e R s m args below meth cd hp locs ls X hP hH hS hl hL
  obtain ⟨hx, hb, -, -, -, hown, hts, hE, hA, -, -, -, -, hinj, -⟩ := id X
  obtain ⟨n, f, h1, h2, rfl⟩ := sI_inv hk
  have he : (cw G H)[k]? = some (G.2.1 k, .inl (G.2.2.1 0, n, .inl f)) := cw_get h1
  refine va_iast (rest := List.map (cv G.2.1) st) hx hb hE.1 hP (cw_D hinj hH hA) hS k 0 he rfl h2 hd (fun hp1 locs1 hP1 hD1 hS1 => ?_)
  have hset : (cw G H).set k (G.2.1 k, .inl (G.2.2.1 0, n, .inl (upd f i.toNatClampNeg x))) = cw G (H.set k (.inl (0, n, .inl (upd f i.toNatClampNeg x)))) := cw_set G H k (.inl (0, n, .inl (upd f i.toNatClampNeg x)))
  rw [hset] at hP1
  exact kk p l e R s m args below meth cd hp1 locs1 ls X hP1 (by rw [List.length_set]; exact hH) hS1 hl hL
theorem sn_zast {k : Nat} {i x : Int32} {H1 : Hp} (hd : decode M.2.1 pc = .ok (.bastore, 1)) (hk : sI H k 2 i (vp_nar .boolean x) = some H1) (kk : Sn G T M (pc + 1) L st H1) : Sn G T M pc L (.int x :: .int i :: .ref k :: st) H := by
  intro p l e R s m args below meth cd hp locs ls X hP hH hS hl hL
  obtain ⟨hx, hb, -, -, -, hown, hts, hE, hA, -, -, -, -, hinj, -⟩ := id X
  obtain ⟨n, f, h1, h2, rfl⟩ := sI_inv hk
  have he : (cw G H)[k]? = some (G.2.1 k, .inl (G.2.2.1 2, n, .inl f)) := cw_get h1
  refine va_zast (rest := List.map (cv G.2.1) st) hx hb hE.1 hP (cw_D hinj hH hA) hS k 2 he rfl h2 hd (fun hp1 locs1 hP1 hD1 hS1 => ?_)
  have hset : (cw G H).set k (G.2.1 k, .inl (G.2.2.1 2, n, .inl (upd f i.toNatClampNeg (vp_nar .boolean x)))) = cw G (H.set k (.inl (2, n, .inl (upd f i.toNatClampNeg (vp_nar .boolean x))))) := cw_set G H k (.inl (2, n, .inl (upd f i.toNatClampNeg (vp_nar .boolean x))))
  rw [hset] at hP1
  exact kk p l e R s m args below meth cd hp1 locs1 ls X hP1 (by rw [List.length_set]; exact hH) hS1 hl hL
theorem sn_last {k : Nat} {i : Int32} {x : Int64} {H1 : Hp} (hd : decode M.2.1 pc = .ok (.lastore, 1)) (hk : sJ H k i x = some H1) (kk : Sn G T M (pc + 1) L st H1) : Sn G T M pc L (.long x :: .int i :: .ref k :: st) H := by
  intro p l e R s m args below meth cd hp locs ls X hP hH hS hl hL
  obtain ⟨hx, hb, -, -, -, hown, hts, hE, hA, -, -, -, -, hinj, -⟩ := id X
  obtain ⟨n, f, h1, h2, rfl⟩ := sJ_inv hk
  have he : (cw G H)[k]? = some (G.2.1 k, .inl (G.2.2.1 1, n, .inr (.inl f))) := cw_get h1
  refine va_last (rest := List.map (cv G.2.1) st) hx hb hE.1 hP (cw_D hinj hH hA) hS k 1 he rfl h2 hd (fun hp1 locs1 hP1 hD1 hS1 => ?_)
  have hset : (cw G H).set k (G.2.1 k, .inl (G.2.2.1 1, n, .inr (.inl (vp_updL f i.toNatClampNeg x)))) = cw G (H.set k (.inl (1, n, .inr (.inl (vp_updL f i.toNatClampNeg x))))) := cw_set G H k (.inl (1, n, .inr (.inl (vp_updL f i.toNatClampNeg x))))
  rw [hset] at hP1
  exact kk p l e R s m args below meth cd hp1 locs1 ls X hP1 (by rw [List.length_set]; exact hH) hS1 hl hL
/-- the static row -/
theorem sn_ord {idx : Nat} (hd : decode M.2.1 pc = .ok (.getstatic idx, 3)) (hw : Cond.fieldLink M.1.cls idx "SquareFolds$Gluing" "ORDERS" "[I" ∈ gW) (kk : Sn G T M (pc + 3) L (.ref 1000 :: st) H) : Sn G T M pc L st H := by
  intro p l e R s m args below meth cd hp locs ls X hP hH hS hl hL
  obtain ⟨hx, hb, -, -, -, hown, hts, hE, -⟩ := id X
  exact va_gets hx hb hE.2.2.1 hS hown (hts _ hw) (fun _ h9 => h9) hd (kk p l e R s m args below meth cd hp locs ls X hP hH hS hl hL)
theorem sn_ordlen (hd : decode M.2.1 pc = .ok (.arraylength, 1)) (kk : Sn G T M (pc + 1) L (.int 6 :: st) H) : Sn G T M pc L (.ref 1000 :: st) H := by
  intro p l e R s m args below meth cd hp locs ls X hP hH hS hl hL
  obtain ⟨hx, hb, -, -, -, hown, hts, hE, -⟩ := id X
  exact va_slen (rest := List.map (cv G.2.1) st) hx hb hE.2.2.2.1.1 hE.2.2.2.1.2.1 hE.2.2.2.1.2.2 hS hd (kk p l e R s m args below meth cd hp locs ls X hP hH hS hl hL)
theorem sn_ordld {i : Int32} (hd : decode M.2.1 pc = .ok (.iaload, 1)) (hi : vp_in i 6) (kk : Sn G T M (pc + 1) L (.int (ordf i.toNatClampNeg) :: st) H) : Sn G T M pc L (.int i :: .ref 1000 :: st) H := by
  intro p l e R s m args below meth cd hp locs ls X hP hH hS hl hL
  obtain ⟨hx, hb, -, -, -, hown, hts, hE, -⟩ := id X
  exact va_sld (rest := List.map (cv G.2.1) st) hx hb hE.2.2.2.1.1 hE.2.2.2.1.2.1 hE.2.2.2.1.2.2 hS hi hd (kk p l e R s m args below meth cd hp locs ls X hP hH hS hl hL)
/-- the script -/
theorem sn_scrlen (hd : decode M.2.1 pc = .ok (.arraylength, 1)) (kk : Sn G T M (pc + 1) L (.int (Int32.ofNat G.2.2.2.1) :: st) H) : Sn G T M pc L (.ref 1001 :: st) H := by
  intro p l e R s m args below meth cd hp locs ls X hP hH hS hl hL
  obtain ⟨hx, hb, -, -, -, hown, hts, hE, -⟩ := id X
  exact va_slen (rest := List.map (cv G.2.1) st) hx hb hE.2.2.2.2.1 hE.2.2.2.2.2.1 hE.2.2.2.2.2.2 hS hd (kk p l e R s m args below meth cd hp locs ls X hP hH hS hl hL)
theorem sn_scrld {i : Int32} (hd : decode M.2.1 pc = .ok (.iaload, 1)) (hi : vp_in i G.2.2.2.1) (kk : Sn G T M (pc + 1) L (.int (G.2.2.2.2 i.toNatClampNeg) :: st) H) : Sn G T M pc L (.int i :: .ref 1001 :: st) H := by
  intro p l e R s m args below meth cd hp locs ls X hP hH hS hl hL
  obtain ⟨hx, hb, -, -, -, hown, hts, hE, -⟩ := id X
  exact va_sld (rest := List.map (cv G.2.1) st) hx hb hE.2.2.2.2.1 hE.2.2.2.2.2.1 hE.2.2.2.2.2.2 hS hi hd (kk p l e R s m args below meth cd hp locs ls X hP hH hS hl hL)
-- switches
theorem sn_tblIn {x : Int32} {dflt lo hi off : Int} {offs : Array Int} {len tgt : Nat} (hd : decode M.2.1 pc = .ok (.tableswitch dflt lo hi offs, len)) (h1 : ¬ x.toInt < lo) (h2 : ¬ hi < x.toInt) (ho : offs[(x.toInt - lo).toNat]? = some off) (ht : (pc : Int) + off = (tgt : Int)) (k : Sn G T M tgt L st H) : Sn G T M pc L (.int x :: st) H := by
  intro p l e R s m args below meth cd hp locs ls X hP hH hS hl hL
  exact lv_tableIn (rest := List.map (cv G.2.1) st) X.1 X.2.1 hd h1 h2 ho ht (k p l e R s m args below meth cd hp locs ls X hP hH hS hl hL)
theorem sn_tblOut {x : Int32} {dflt lo hi : Int} {offs : Array Int} {len tgt : Nat} (hd : decode M.2.1 pc = .ok (.tableswitch dflt lo hi offs, len)) (h : x.toInt < lo ∨ hi < x.toInt) (ht : (pc : Int) + dflt = (tgt : Int)) (k : Sn G T M tgt L st H) : Sn G T M pc L (.int x :: st) H := by
  intro p l e R s m args below meth cd hp locs ls X hP hH hS hl hL
  exact lv_tableOut (rest := List.map (cv G.2.1) st) X.1 X.2.1 hd h ht (k p l e R s m args below meth cd hp locs ls X hP hH hS hl hL)
theorem sn_lkp {x : Int32} {dflt off : Int} {ps : Array (Int × Int)} {len tgt : Nat} (hd : decode M.2.1 pc = .ok (.lookupswitch dflt ps, len)) (hp : (ps.toList.zip (ps.toList.drop 1)).all (fun (a, next) => a.1 < next.1) = true) (ho : Op.lookupswitch.offset ps.toList dflt x.toInt = off) (ht : (pc : Int) + off = (tgt : Int)) (k : Sn G T M tgt L st H) : Sn G T M pc L (.int x :: st) H := by
  intro p l e R s m args below meth cd hp' locs ls X hP hH hS hl hL
  exact lv_lookup (rest := List.map (cv G.2.1) st) X.1 X.2.1 hd hp ho ht (k p l e R s m args below meth cd hp' locs ls X hP hH hS hl hL)
end RULES2
end
section
/-! Returns and calls of the light machine. -/
def QR (G : GG) (rv : Option Value) (H' : Hp) : Array Value → State → Outcome → State → Prop := fun _ s0 oc t => oc = .returned (rv.map (cv G.2.1)) ∧ va_P G.1 vwCl (cw G H') t.heap ∧ H'.length = 39 ∧ va_F (aA G) s0 t
def T0 (G : GG) (rv : Option Value) (H' : Hp) : Md := (0, 0, fun _ => aA G, fun _ _ => True, fun s args below => MQ below (QR G rv H') args s 0 0 (aA G))
def argL : List Value → LL
  | [] => []
  | .long x :: r => some (.long x) :: none :: argL r
  | .double x :: r => some (.double x) :: none :: argL r
  | .int x :: r => some (.int x) :: argL r
  | .float x :: r => some (.float x) :: argL r
  | .null :: r => some .null :: argL r
  | .ref x :: r => some (.ref x) :: argL r
  | .retAddr x :: r => some (.retAddr x) :: argL r
def eL (n : Nat) (av : List Value) : LL := argL av ++ List.replicate (n - (argL av).length) none
/-- what a method does: from these arguments and cells it comes back with this answer and these cells -/
def SM (G : GG) (M : Mt) (av : List Value) (H : Hp) (rv : Option Value) (H' : Hp) : Prop := Sn G (T0 G rv H') M 0 (eL M.2.2.1 av) [] H
theorem argL_len : ∀ (av : List Value) (ad : Nat → Nat), (argL av).length = (lg_sl (av.map (cv ad))).length
  | [], ad => rfl
  | v :: r, ad => by
    have h := argL_len r ad
    cases v <;> simp [argL, lg_sl, cv, Value.category] at h ⊢ <;> omega
theorem argL_in : ∀ (av : List Value) (ad : Nat → Nat) (k i : Nat) (q : Nat × Value), q ∈ lp ad i (argL av ++ List.replicate k none) → q ∈ lv_args i (av.map (cv ad))
  | [], ad, k, i, q, h => by
    obtain ⟨j, v, h1, -⟩ := (lp_mem _ _ _).mp h
    rw [argL, List.nil_append, List.getElem?_replicate] at h1
    split at h1 <;> cases h1
  | v :: r, ad, k, i, q, h => by
    cases v <;> simp only [argL, List.cons_append, lp, List.mem_cons] at h <;> simp only [List.map_cons, lv_args, cv, Value.category, List.mem_cons] <;> first
      | (rcases h with h | h
         · exact Or.inl h
         · exact Or.inr (argL_in r ad k _ q h))
theorem eL_len {n : Nat} {av : List Value} (h : (argL av).length ≤ n) : (eL n av).length = n := by
  rw [eL, List.length_append, List.length_replicate]
  omega
def wsM (M : Mt) : List Jvm.Cond := .code M.1 M.2.1 M.2.2.1 M.2.2.2.1 :: gW
def rmM (M : Mt) : Room := { frames := M.2.2.2.2.1, cells := 0, slots := 0, locals := M.2.2.2.2.2 }
def PcM (G : GG) (av : List Value) (H : Hp) : Array Value → State → Prop := va_Pc (av.map (cv G.2.1)) (fun U => Ev G (aA G) U ∧ va_P G.1 vwCl (cw G H) U.heap)
theorem SM.met (l : Launch) {G : GG} {M : Mt} {av : List Value} {H H' : Hp} {rv : Option Value} (hs : SM G M av H rv H') (hi : aInj G) (hH : H.length = 39) (hpl : plainName M.1.cls = true) (hal : (argL av).length ≤ M.2.2.1) : Met l M.1 (wsM M) (rmM M) (PcM G av H) (QR G rv H') 0 0 (aA G) := by
  refine Met.ofW (cc := M.2.1) (maxL := M.2.2.1) (ret := M.2.2.2.1) hpl rfl ?_
  intro p e s m args below meth c s₁ B hml hv
  obtain ⟨rfl, hE, hP⟩ := hv
  have hts := atoms_spec (ws := wsM M) B.pre
  have hlen : (lg_sl (av.map (cv G.2.1))).length ≤ M.2.2.1 := by rw [← argL_len]; exact hal
  have hl := lv_entry (av.map (cv G.2.1)) (n := M.2.2.1) hlen
  rw [lg_entry_eq]
  refine hs p l e (rmM M) s m _ below meth c s.heap [] _ ⟨B.exec, B.bytes, hml, B.returns, B.notSynchronized, findClass_of_methodNamed B.named, fun w hw => hts w (List.mem_cons_of_mem _ hw), hE, fun q h => h, Nat.le_refl _, Nat.le_refl _, Nat.le_refl _, Nat.le_refl _, hi, trivial⟩ hP hH va_S.rf ?_ (eL_len hal)
  exact lp_mono (ad := G.2.1) hl (fun q hq => argL_in av G.2.1 _ 0 q hq)
section CALLS
variable {G : GG} {T : Md} {M M2 : Mt} {pc : Nat} {L : LL} {st : List Value} {H H1 : Hp}
theorem sn_iret {v : Int32} {ty : FieldType} (hd : decode M.2.1 pc = .ok (.ireturn, 1)) (hr : M.2.2.2.1 = some ty) (hn : narrow ty (.int v) = .int v) : Sn G (T0 G (some (.int v)) H) M pc L [.int v] H := by
  intro p l e R s m args below meth cd hp locs ls X hP hH hS hl hL
  obtain ⟨hx, hb, -, hret, hlk, -⟩ := id X
  exact W.zret hx hb (hret.trans hr) hn (fun t ht hW => ⟨rfl, by rw [ht]; exact hP, hH, hS.F ht⟩) hS.2.2 hd hlk
theorem sn_lret {v : Int64} (hd : decode M.2.1 pc = .ok (.lreturn, 1)) (hr : M.2.2.2.1 = some .long) : Sn G (T0 G (some (.long v)) H) M pc L [.long v] H := by
  intro p l e R s m args below meth cd hp locs ls X hP hH hS hl hL
  obtain ⟨hx, hb, -, hret, hlk, -⟩ := id X
  exact W.lret hx hb (hret.trans hr) (fun t ht hW => ⟨rfl, by rw [ht]; exact hP, hH, hS.F ht⟩) hS.2.2 hd hlk
theorem sn_vret (hd : decode M.2.1 pc = .ok (.return_, 1)) (hr : M.2.2.2.1 = none) : Sn G (T0 G none H) M pc L [] H := by
  intro p l e R s m args below meth cd hp locs ls X hP hH hS hl hL
  obtain ⟨hx, hb, -, hret, hlk, -⟩ := id X
  exact W.vret hx hb (hret.trans hr) (fun t ht hW => ⟨rfl, by rw [ht]; exact hP, hH, hS.F ht⟩) hS.2.2 hd hlk
/-- a static method's words; an instance method's -/
def MSt (M : Mt) (n : Nat) : Prop := Cond.static M.1 ∈ gW ∧ Cond.initialized M.1.cls ∈ gW ∧ Cond.code M.1 M.2.1 M.2.2.1 M.2.2.2.1 ∈ gW ∧ plainName M.1.cls = true ∧ (M.1.cls ≠ "java/lang/invoke/MethodHandle" ∧ M.1.cls ≠ "java/lang/invoke/VarHandle" ∧ (parseMethodDescriptor M.1.desc).map (fun d => d.parameters.length) = some n)
def MVi (M : Mt) (n ci : Nat) : Prop := Cond.instanceMethod M.1 ∈ gW ∧ Cond.selects M.1.cls M.1 M.1 ∈ gW ∧ Cond.initialized M.1.cls ∈ gW ∧ Cond.code M.1 M.2.1 M.2.2.1 M.2.2.2.1 ∈ gW ∧ plainName M.1.cls = true ∧ (M.1.cls ≠ "java/lang/invoke/MethodHandle" ∧ M.1.cls ≠ "java/lang/invoke/VarHandle" ∧ (parseMethodDescriptor M.1.desc).map (fun d => d.parameters.length) = some n) ∧ (∃ q : vw_C, vwCl[ci]? = some q ∧ q.1 = M.1.cls)
theorem and2 {a b : Bool} (h : (a && b) = true) : a = true ∧ b = true := by
  cases a <;> cases b <;> first | exact ⟨rfl, rfl⟩ | cases h
def stOK (M : Mt) (n i1 i2 i3 : Nat) : Bool := (decide (lw_tbl[i1]? = some (.static M.1)) && goodWord (.static M.1)) && ((decide (lw_tbl[i2]? = some (.initialized M.1.cls)) && goodWord (.initialized M.1.cls)) && ((decide (lw_tbl[i3]? = some (.code M.1 M.2.1 M.2.2.1 M.2.2.2.1)) && goodWord (.code M.1 M.2.1 M.2.2.1 M.2.2.2.1)) && (decide (plainName M.1.cls = true) && decide (M.1.cls ≠ "java/lang/invoke/MethodHandle" ∧ M.1.cls ≠ "java/lang/invoke/VarHandle" ∧ (parseMethodDescriptor M.1.desc).map (fun d => d.parameters.length) = some n))))
theorem MSt.of {M : Mt} {n : Nat} (i1 i2 i3 : Nat) (h : stOK M n i1 i2 i3 = true) : MSt M n := by
  unfold stOK at h
  obtain ⟨h1, h⟩ := and2 h
  obtain ⟨h2, h⟩ := and2 h
  obtain ⟨h3, h⟩ := and2 h
  obtain ⟨h4, h5⟩ := and2 h
  exact ⟨gW_at i1 h1, gW_at i2 h2, gW_at i3 h3, of_decide_eq_true h4, of_decide_eq_true h5⟩
def viOK (M : Mt) (n ci i0 i1 i2 i3 : Nat) : Bool := (decide (lw_tbl[i0]? = some (.instanceMethod M.1)) && goodWord (.instanceMethod M.1)) && ((decide (lw_tbl[i1]? = some (.selects M.1.cls M.1 M.1)) && goodWord (.selects M.1.cls M.1 M.1)) && ((decide (lw_tbl[i2]? = some (.initialized M.1.cls)) && goodWord (.initialized M.1.cls)) && ((decide (lw_tbl[i3]? = some (.code M.1 M.2.1 M.2.2.1 M.2.2.2.1)) && goodWord (.code M.1 M.2.1 M.2.2.1 M.2.2.2.1)) && (decide (plainName M.1.cls = true) && (decide (M.1.cls ≠ "java/lang/invoke/MethodHandle" ∧ M.1.cls ≠ "java/lang/invoke/VarHandle" ∧ (parseMethodDescriptor M.1.desc).map (fun d => d.parameters.length) = some n) && decide ((vwCl[ci]?).map (fun q => q.1) = some M.1.cls))))))
theorem MVi.of {M : Mt} {n ci : Nat} (i0 i1 i2 i3 : Nat) (h : viOK M n ci i0 i1 i2 i3 = true) : MVi M n ci := by
  unfold viOK at h
  obtain ⟨h0, h⟩ := and2 h
  obtain ⟨h1, h⟩ := and2 h
  obtain ⟨h2, h⟩ := and2 h
  obtain ⟨h3, h⟩ := and2 h
  obtain ⟨h4, h⟩ := and2 h
  obtain ⟨h5, h6⟩ := and2 h
  refine ⟨gW_at i0 h0, gW_at i1 h1, gW_at i2 h2, gW_at i3 h3, of_decide_eq_true h4, of_decide_eq_true h5, ?_⟩
  have h7 := of_decide_eq_true h6
  cases hq : vwCl[ci]? with
  | none => rw [hq] at h7; cases h7
  | some q => rw [hq] at h7; exact ⟨q, rfl, Option.some.inj h7⟩
theorem gGood (M : Mt) (h : Cond.code M.1 M.2.1 M.2.2.1 M.2.2.2.1 ∈ gW) : GoodIn gW (wsM M) := by
  intro w hw
  rcases List.mem_cons.mp hw with rfl | hw
  · exact ⟨h, gW_good h⟩
  · exact ⟨hw, gW_good hw⟩
theorem PcM.blind (G : GG) (av : List Value) (H : Hp) : FrameBlind (PcM G av H) := by
  intro a U g mk h
  obtain ⟨h1, h2, h3⟩ := h
  exact ⟨h1, h2.calling, h3⟩
/-- behind a call -/
theorem sn_go {p : Program} {l : Launch} {e : Env} {R : Room} {s : State} {m : MethodId} {args : Array Value} {below : List Frame} {meth : Method} {c : Code} {hp : Heap} {locs : List Loc} {cells slots : Nat} {Q : State → Prop} {ls : Array Slot} {st0 rest : List Value} {rv : Option Value} {a : Array Value} {A0 : Nat → Prop}
    (hr : va_Run p l e R s m args below meth c hp locs cells slots 0 0 (F0 m pc ls st0) rest (QR G rv H1 a) (aA G)) (hS : va_S A0 s.heap hp locs) (hA : ∀ q, aA G q → A0 q)
    (kk : ∀ (hp1 : Heap) (locs1 : List Loc), va_P G.1 vwCl (cw G H1) hp1 → H1.length = 39 → va_S A0 s.heap hp1 locs1 → W p l e R s m args below meth c hp1 locs1 cells slots Q (F0 m (pc + 3) ls ((rv.map (cv G.2.1)).toList ++ rest))) : W p l e R s m args below meth c hp locs cells slots Q (F0 m pc ls st0) := by
  intro U hU X
  obtain ⟨v, st₀, t, U', L, h0, X', hL, e1, e2, ⟨hv, hP, hl, hz, hk⟩, stp⟩ := hr U hU X
  cases hv
  rw [h0] at hz hk
  obtain ⟨t2, a1, b1⟩ := kk U'.heap (locs ++ L) (by rw [e1]; exact hP) hl
    ⟨Nat.le_trans hS.1 (by rw [e1]; exact hz), fun q h1 h2 => by rw [e1, hk q (Nat.lt_of_lt_of_le h1 hS.1) (fun z => h2 (hA q z))]; exact hS.2.1 q h1 h2, fun q hq => by
      rcases List.mem_append.mp hq with h | h
      · exact hS.2.2 q h
      · exact hA _ (hL q h)⟩ U' rfl X'
  exact ⟨t2, stp t2 a1, b1⟩
theorem cv_sum (ad : Nat → Nat) (st : List Value) : ((st.map (cv ad)).map fun v => v.category) = st.map fun v => v.category := by
  rw [List.map_map]
  exact List.map_congr_left (fun v _ => cv_cat ad v)
theorem sn_calls {av : List Value} {stk : List Value} {rv : Option Value} {idx n : Nat} (hd : decode M.2.1 pc = .ok (.invokestatic idx, 3)) (hm : MSt M2 n) (hlk : Cond.methodLink M.1.cls idx M2.1 ∈ gW) (hn : av.length = n) (hal : Nat.ble (argL av).length M2.2.2.1 = true) (hrest : Nat.ble ((st.map fun v => v.category).sum) 8 = true) (hroom : (Nat.ble (M2.2.2.2.2.1 + 1) M.2.2.2.2.1 && Nat.ble (8 + (M2.2.2.1 + 11) + M2.2.2.2.2.2) M.2.2.2.2.2) = true) (hst : stk = av.reverse ++ st) (hs : SM G M2 av H rv H1) (kk : Sn G T M (pc + 3) L (rv.toList ++ st) H1) : Sn G T M pc L stk H := by
  intro p l e R s m args below meth cd hp locs ls X hP hH hS hl hL
  obtain ⟨hx, hb, hml, -, -, hown, hts, hE, hA, hfr, hlo, hce, hsl, hinj, -⟩ := id X
  obtain ⟨m1, m2, m3, m4, m5⟩ := hm
  rw [Bool.and_eq_true] at hroom
  have r1 := Nat.le_of_ble_eq_true hroom.1
  have r2 := Nat.le_of_ble_eq_true hroom.2
  subst hst
  refine sn_go (rest := st.map (cv G.2.1)) (va_runS (As := av.map (cv G.2.1)) (mc := 0) (ms := 0) (nL := M.2.2.1) (own := M.1.cls) ⟨hx, hb, hml, hown, hts⟩ (SM.met l hs hinj hH m4 (Nat.le_of_ble_eq_true hal)) ⟨callB_of n hts (gGood M2 m3) rfl rfl rfl (hts _ m2) (hts _ hlk) m5 ⟨Nat.le_trans r1 hfr, Nat.le_trans r2 hlo⟩, hts _ m1⟩ ⟨PcM.blind G av H, fun U hU hW => ⟨rfl, hE.go hS hU hW hA, by rw [hU]; exact hP⟩⟩ rfl (by rw [List.length_map]; exact hn) hl.1 ?_ ?_ hd ⟨hce, hsl⟩) hS hA (fun hp1 locs1 hP1 hH1 hS1 => ?_)
  · show List.map (cv G.2.1) (av.reverse ++ st) = _
    rw [List.map_append, List.map_reverse]
  · show 2 * 0 + _ ≤ 8
    rw [cv_sum, Nat.mul_zero, Nat.zero_add]
    exact Nat.le_of_ble_eq_true hrest
  · have h := kk p l e R s m args below meth cd hp1 locs1 ls X hP1 hH1 hS1 hl hL
    rw [List.map_append] at h
    cases rv <;> exact h
theorem sn_callv {av : List Value} {stk : List Value} {rv : Option Value} {idx n ci k : Nat} {fs : List Value} (hd : decode M.2.1 pc = .ok (.invokevirtual idx, 3)) (hm : MVi M2 n ci) (hlk : Cond.methodLink M.1.cls idx M2.1 ∈ gW) (hn : av.length = n) (hal : Nat.ble (argL (.ref k :: av)).length M2.2.2.1 = true) (hrest : Nat.ble ((st.map fun v => v.category).sum) 8 = true) (hroom : (Nat.ble (M2.2.2.2.2.1 + 1) M.2.2.2.2.1 && Nat.ble (8 + (M2.2.2.1 + 11) + M2.2.2.2.2.2) M.2.2.2.2.2) = true) (hst : stk = av.reverse ++ .ref k :: st) (hk : H[k]? = some (.inr (ci, fs))) (hs : SM G M2 (.ref k :: av) H rv H1) (kk : Sn G T M (pc + 3) L (rv.toList ++ st) H1) : Sn G T M pc L stk H := by
  intro p l e R s m args below meth cd hp locs ls X hP hH hS hl hL
  obtain ⟨hx, hb, hml, -, -, hown, hts, hE, hA, hfr, hlo, hce, hsl, hinj, -⟩ := id X
  obtain ⟨m0, m1, m2, m3, m4, m5, q, mq, mc⟩ := hm
  rw [Bool.and_eq_true] at hroom
  have r1 := Nat.le_of_ble_eq_true hroom.1
  have r2 := Nat.le_of_ble_eq_true hroom.2
  subst hst
  have he : (cw G H)[k]? = some (G.2.1 k, .inr (ci, fs.map (cv G.2.1))) := cw_get hk
  have hrc := va_recv hE.1 hP mq he
  rw [mc] at hrc
  refine sn_go (rest := st.map (cv G.2.1)) (va_runV (As := av.map (cv G.2.1)) (b := G.2.1 k) (C := M2.1.cls) (mc := 0) (ms := 0) (nL := M.2.2.1) (own := M.1.cls) ⟨hx, hb, hml, hown, hts⟩ (SM.met l hs hinj hH m4 (Nat.le_of_ble_eq_true hal)) ⟨callB_of n hts (gGood M2 m3) rfl rfl rfl (hts _ m2) (hts _ hlk) m5 ⟨Nat.le_trans r1 hfr, Nat.le_trans r2 hlo⟩, hts _ m0, hts _ m1⟩ ⟨PcM.blind G (.ref k :: av) H, hrc, fun U hU hW => ⟨rfl, hE.go hS hU hW hA, by rw [hU]; exact hP⟩⟩ rfl (by rw [List.length_map]; exact hn) hl.1 ?_ ?_ hd ⟨hce, hsl⟩) hS hA (fun hp1 locs1 hP1 hH1 hS1 => ?_)
  · show List.map (cv G.2.1) (av.reverse ++ .ref k :: st) = _
    rw [List.map_append, List.map_reverse]
    rfl
  · show 2 * 0 + _ ≤ 8
    rw [cv_sum, Nat.mul_zero, Nat.zero_add]
    exact Nat.le_of_ble_eq_true hrest
  · have h := kk p l e R s m args below meth cd hp1 locs1 ls X hP1 hH1 hS1 hl hL
    rw [List.map_append] at h
    cases rv <;> exact h
end CALLS
end
