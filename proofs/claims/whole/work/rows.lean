section
-- ===== PART A: goes FIRST, ahead of the names: the tables' words, and 'selects' of the private methods out of them =====
/-- a private method of a class that the tables say can be made, by its rows of tables_1 -/
def lw_okq (q : MethodName × Nat) : Prop := (q.1.cls ≠ "java/lang/invoke/MethodHandle" ∧ q.1.cls ≠ "java/lang/invoke/VarHandle") ∧ Cond.instantiable q.1.cls q.2 ∈ tables_1 ∧ Cond.privateMethod q.1 ∈ tables_1 ∧ Cond.instanceMethod q.1 ∈ tables_1
theorem lw_p0 : lw_okq (⟨"BitTuner$Value", "spanProduct", "(LBitTuner$Value;LBitTuner$Value;)V"⟩, 11) := ⟨⟨by decide +kernel, by decide +kernel⟩, List.mem_of_getElem? (i := 25) (by decide +kernel), List.mem_of_getElem? (i := 222) (by decide +kernel), List.mem_of_getElem? (i := 223) (by decide +kernel)⟩
theorem lw_p1 : lw_okq (⟨"BitTuner$Value", "spanAmount", "(LBitTuner$Value;)V"⟩, 11) := ⟨⟨by decide +kernel, by decide +kernel⟩, List.mem_of_getElem? (i := 25) (by decide +kernel), List.mem_of_getElem? (i := 229) (by decide +kernel), List.mem_of_getElem? (i := 230) (by decide +kernel)⟩
theorem lw_p2 : lw_okq (⟨"BitTuner$Widths", "tryAsTold", "()V"⟩, 5) := ⟨⟨by decide +kernel, by decide +kernel⟩, List.mem_of_getElem? (i := 133) (by decide +kernel), List.mem_of_getElem? (i := 280) (by decide +kernel), List.mem_of_getElem? (i := 281) (by decide +kernel)⟩
theorem lw_p3 : lw_okq (⟨"BitTuner$Widths", "boundTried", "(I)J"⟩, 5) := ⟨⟨by decide +kernel, by decide +kernel⟩, List.mem_of_getElem? (i := 133) (by decide +kernel), List.mem_of_getElem? (i := 284) (by decide +kernel), List.mem_of_getElem? (i := 285) (by decide +kernel)⟩
theorem lw_p4 : lw_okq (⟨"BitTuner$Widths", "boundFromParts", "(I)J"⟩, 5) := ⟨⟨by decide +kernel, by decide +kernel⟩, List.mem_of_getElem? (i := 133) (by decide +kernel), List.mem_of_getElem? (i := 288) (by decide +kernel), List.mem_of_getElem? (i := 289) (by decide +kernel)⟩
theorem lw_p5 : lw_okq (⟨"BitTuner$Widths", "boundOfProduct", "(LBitTuner$Value;JJ)J"⟩, 5) := ⟨⟨by decide +kernel, by decide +kernel⟩, List.mem_of_getElem? (i := 133) (by decide +kernel), List.mem_of_getElem? (i := 294) (by decide +kernel), List.mem_of_getElem? (i := 295) (by decide +kernel)⟩
theorem lw_p6 : lw_okq (⟨"BitTuner$Runs", "workOut", "(I)V"⟩, 5) := ⟨⟨by decide +kernel, by decide +kernel⟩, List.mem_of_getElem? (i := 106) (by decide +kernel), List.mem_of_getElem? (i := 339) (by decide +kernel), List.mem_of_getElem? (i := 340) (by decide +kernel)⟩
theorem lw_p7 : lw_okq (⟨"BitTuner$Runs", "toFirstRow", "()V"⟩, 5) := ⟨⟨by decide +kernel, by decide +kernel⟩, List.mem_of_getElem? (i := 106) (by decide +kernel), List.mem_of_getElem? (i := 406) (by decide +kernel), List.mem_of_getElem? (i := 407) (by decide +kernel)⟩
theorem lw_p8 : lw_okq (⟨"BitTuner$Runs", "keepRow", "()V"⟩, 5) := ⟨⟨by decide +kernel, by decide +kernel⟩, List.mem_of_getElem? (i := 106) (by decide +kernel), List.mem_of_getElem? (i := 411) (by decide +kernel), List.mem_of_getElem? (i := 412) (by decide +kernel)⟩
theorem lw_p9 : lw_okq (⟨"BitTuner$Runs", "toNextRow", "()V"⟩, 5) := ⟨⟨by decide +kernel, by decide +kernel⟩, List.mem_of_getElem? (i := 106) (by decide +kernel), List.mem_of_getElem? (i := 416) (by decide +kernel), List.mem_of_getElem? (i := 417) (by decide +kernel)⟩
theorem lw_p10 : lw_okq (⟨"BitTuner$Widths", "tryWidest", "()V"⟩, 5) := ⟨⟨by decide +kernel, by decide +kernel⟩, List.mem_of_getElem? (i := 133) (by decide +kernel), List.mem_of_getElem? (i := 444) (by decide +kernel), List.mem_of_getElem? (i := 445) (by decide +kernel)⟩
theorem lw_p11 : lw_okq (⟨"BitTuner$Widths", "choose", "(IIIJ)V"⟩, 5) := ⟨⟨by decide +kernel, by decide +kernel⟩, List.mem_of_getElem? (i := 133) (by decide +kernel), List.mem_of_getElem? (i := 449) (by decide +kernel), List.mem_of_getElem? (i := 450) (by decide +kernel)⟩
theorem lw_p12 : lw_okq (⟨"BitTuner$Widths", "take", "([I)V"⟩, 5) := ⟨⟨by decide +kernel, by decide +kernel⟩, List.mem_of_getElem? (i := 133) (by decide +kernel), List.mem_of_getElem? (i := 456) (by decide +kernel), List.mem_of_getElem? (i := 457) (by decide +kernel)⟩
theorem lw_p13 : lw_okq (⟨"BitTuner$Widths", "lessen", "(IIJ)V"⟩, 5) := ⟨⟨by decide +kernel, by decide +kernel⟩, List.mem_of_getElem? (i := 133) (by decide +kernel), List.mem_of_getElem? (i := 474) (by decide +kernel), List.mem_of_getElem? (i := 475) (by decide +kernel)⟩
theorem lw_p14 : lw_okq (⟨"BitTunerModel", "lays", "(IIIIJJ)I"⟩, 19) := ⟨⟨by decide +kernel, by decide +kernel⟩, List.mem_of_getElem? (i := 520) (by decide +kernel), List.mem_of_getElem? (i := 597) (by decide +kernel), List.mem_of_getElem? (i := 598) (by decide +kernel)⟩
theorem lw_p15 : lw_okq (⟨"BitTunerModel", "isValue", "(I)Z"⟩, 19) := ⟨⟨by decide +kernel, by decide +kernel⟩, List.mem_of_getElem? (i := 520) (by decide +kernel), List.mem_of_getElem? (i := 611) (by decide +kernel), List.mem_of_getElem? (i := 612) (by decide +kernel)⟩
def lw_privs_1 : List (MethodName × Nat) := [(⟨"BitTuner$Value", "spanProduct", "(LBitTuner$Value;LBitTuner$Value;)V"⟩, 11), (⟨"BitTuner$Value", "spanAmount", "(LBitTuner$Value;)V"⟩, 11), (⟨"BitTuner$Widths", "tryAsTold", "()V"⟩, 5), (⟨"BitTuner$Widths", "boundTried", "(I)J"⟩, 5), (⟨"BitTuner$Widths", "boundFromParts", "(I)J"⟩, 5), (⟨"BitTuner$Widths", "boundOfProduct", "(LBitTuner$Value;JJ)J"⟩, 5), (⟨"BitTuner$Runs", "workOut", "(I)V"⟩, 5), (⟨"BitTuner$Runs", "toFirstRow", "()V"⟩, 5), (⟨"BitTuner$Runs", "keepRow", "()V"⟩, 5), (⟨"BitTuner$Runs", "toNextRow", "()V"⟩, 5), (⟨"BitTuner$Widths", "tryWidest", "()V"⟩, 5), (⟨"BitTuner$Widths", "choose", "(IIIJ)V"⟩, 5), (⟨"BitTuner$Widths", "take", "([I)V"⟩, 5), (⟨"BitTuner$Widths", "lessen", "(IIJ)V"⟩, 5), (⟨"BitTunerModel", "lays", "(IIIIJJ)I"⟩, 19), (⟨"BitTunerModel", "isValue", "(I)Z"⟩, 19)]
theorem lw_r1 : ∀ q ∈ lw_privs_1, lw_okq q := List.forall_mem_cons.mpr ⟨lw_p0, List.forall_mem_cons.mpr ⟨lw_p1, List.forall_mem_cons.mpr ⟨lw_p2, List.forall_mem_cons.mpr ⟨lw_p3, List.forall_mem_cons.mpr ⟨lw_p4, List.forall_mem_cons.mpr ⟨lw_p5, List.forall_mem_cons.mpr ⟨lw_p6, List.forall_mem_cons.mpr ⟨lw_p7, List.forall_mem_cons.mpr ⟨lw_p8, List.forall_mem_cons.mpr ⟨lw_p9, List.forall_mem_cons.mpr ⟨lw_p10, List.forall_mem_cons.mpr ⟨lw_p11, List.forall_mem_cons.mpr ⟨lw_p12, List.forall_mem_cons.mpr ⟨lw_p13, List.forall_mem_cons.mpr ⟨lw_p14, List.forall_mem_cons.mpr ⟨lw_p15, fun _ h => absurd h List.not_mem_nil⟩⟩⟩⟩⟩⟩⟩⟩⟩⟩⟩⟩⟩⟩⟩⟩
theorem lw_p16 : lw_okq (⟨"BitTunerModel", "isWork", "(I)Z"⟩, 19) := ⟨⟨by decide +kernel, by decide +kernel⟩, List.mem_of_getElem? (i := 520) (by decide +kernel), List.mem_of_getElem? (i := 635) (by decide +kernel), List.mem_of_getElem? (i := 636) (by decide +kernel)⟩
theorem lw_p17 : lw_okq (⟨"BitTunerModel", "bound", "(I)J"⟩, 19) := ⟨⟨by decide +kernel, by decide +kernel⟩, List.mem_of_getElem? (i := 520) (by decide +kernel), List.mem_of_getElem? (i := 657) (by decide +kernel), List.mem_of_getElem? (i := 658) (by decide +kernel)⟩
theorem lw_p18 : lw_okq (⟨"BitTunerModel", "greatest", "(I)J"⟩, 19) := ⟨⟨by decide +kernel, by decide +kernel⟩, List.mem_of_getElem? (i := 520) (by decide +kernel), List.mem_of_getElem? (i := 663) (by decide +kernel), List.mem_of_getElem? (i := 664) (by decide +kernel)⟩
theorem lw_p19 : lw_okq (⟨"BitTunerModel", "isInput", "(I)Z"⟩, 19) := ⟨⟨by decide +kernel, by decide +kernel⟩, List.mem_of_getElem? (i := 520) (by decide +kernel), List.mem_of_getElem? (i := 678) (by decide +kernel), List.mem_of_getElem? (i := 679) (by decide +kernel)⟩
theorem lw_p20 : lw_okq (⟨"BitTunerModel", "isOf", "(IJ)Z"⟩, 19) := ⟨⟨by decide +kernel, by decide +kernel⟩, List.mem_of_getElem? (i := 520) (by decide +kernel), List.mem_of_getElem? (i := 682) (by decide +kernel), List.mem_of_getElem? (i := 683) (by decide +kernel)⟩
theorem lw_p21 : lw_okq (⟨"BitTunerModel", "runs", "(I)V"⟩, 19) := ⟨⟨by decide +kernel, by decide +kernel⟩, List.mem_of_getElem? (i := 520) (by decide +kernel), List.mem_of_getElem? (i := 698) (by decide +kernel), List.mem_of_getElem? (i := 699) (by decide +kernel)⟩
theorem lw_p22 : lw_okq (⟨"BitTunerModel", "missNow", "(I)J"⟩, 19) := ⟨⟨by decide +kernel, by decide +kernel⟩, List.mem_of_getElem? (i := 520) (by decide +kernel), List.mem_of_getElem? (i := 721) (by decide +kernel), List.mem_of_getElem? (i := 722) (by decide +kernel)⟩
theorem lw_p23 : lw_okq (⟨"BitTunerModel", "keep", "()V"⟩, 19) := ⟨⟨by decide +kernel, by decide +kernel⟩, List.mem_of_getElem? (i := 520) (by decide +kernel), List.mem_of_getElem? (i := 743) (by decide +kernel), List.mem_of_getElem? (i := 744) (by decide +kernel)⟩
theorem lw_p24 : lw_okq (⟨"BitTunerModel", "goesOn", "()Z"⟩, 19) := ⟨⟨by decide +kernel, by decide +kernel⟩, List.mem_of_getElem? (i := 520) (by decide +kernel), List.mem_of_getElem? (i := 748) (by decide +kernel), List.mem_of_getElem? (i := 749) (by decide +kernel)⟩
theorem lw_p25 : lw_okq (⟨"BitTunerModel", "restore", "()V"⟩, 19) := ⟨⟨by decide +kernel, by decide +kernel⟩, List.mem_of_getElem? (i := 520) (by decide +kernel), List.mem_of_getElem? (i := 752) (by decide +kernel), List.mem_of_getElem? (i := 753) (by decide +kernel)⟩
theorem lw_p26 : lw_okq (⟨"BitTunerModel", "works", "()I"⟩, 19) := ⟨⟨by decide +kernel, by decide +kernel⟩, List.mem_of_getElem? (i := 520) (by decide +kernel), List.mem_of_getElem? (i := 769) (by decide +kernel), List.mem_of_getElem? (i := 770) (by decide +kernel)⟩
theorem lw_p27 : lw_okq (⟨"BitTunerModel", "save", "([I)V"⟩, 19) := ⟨⟨by decide +kernel, by decide +kernel⟩, List.mem_of_getElem? (i := 520) (by decide +kernel), List.mem_of_getElem? (i := 773) (by decide +kernel), List.mem_of_getElem? (i := 774) (by decide +kernel)⟩
theorem lw_p28 : lw_okq (⟨"BitTunerModel", "setAll", "(I)V"⟩, 19) := ⟨⟨by decide +kernel, by decide +kernel⟩, List.mem_of_getElem? (i := 520) (by decide +kernel), List.mem_of_getElem? (i := 777) (by decide +kernel), List.mem_of_getElem? (i := 778) (by decide +kernel)⟩
theorem lw_p29 : lw_okq (⟨"BitTunerModel", "choosesOn", "()Z"⟩, 19) := ⟨⟨by decide +kernel, by decide +kernel⟩, List.mem_of_getElem? (i := 520) (by decide +kernel), List.mem_of_getElem? (i := 782) (by decide +kernel), List.mem_of_getElem? (i := 783) (by decide +kernel)⟩
theorem lw_p30 : lw_okq (⟨"BitTunerModel", "take", "([I)V"⟩, 19) := ⟨⟨by decide +kernel, by decide +kernel⟩, List.mem_of_getElem? (i := 520) (by decide +kernel), List.mem_of_getElem? (i := 786) (by decide +kernel), List.mem_of_getElem? (i := 787) (by decide +kernel)⟩
theorem lw_p31 : lw_okq (⟨"BitTunerModel", "gainOf", "(II)J"⟩, 19) := ⟨⟨by decide +kernel, by decide +kernel⟩, List.mem_of_getElem? (i := 520) (by decide +kernel), List.mem_of_getElem? (i := 802) (by decide +kernel), List.mem_of_getElem? (i := 803) (by decide +kernel)⟩
def lw_privs_2 : List (MethodName × Nat) := [(⟨"BitTunerModel", "isWork", "(I)Z"⟩, 19), (⟨"BitTunerModel", "bound", "(I)J"⟩, 19), (⟨"BitTunerModel", "greatest", "(I)J"⟩, 19), (⟨"BitTunerModel", "isInput", "(I)Z"⟩, 19), (⟨"BitTunerModel", "isOf", "(IJ)Z"⟩, 19), (⟨"BitTunerModel", "runs", "(I)V"⟩, 19), (⟨"BitTunerModel", "missNow", "(I)J"⟩, 19), (⟨"BitTunerModel", "keep", "()V"⟩, 19), (⟨"BitTunerModel", "goesOn", "()Z"⟩, 19), (⟨"BitTunerModel", "restore", "()V"⟩, 19), (⟨"BitTunerModel", "works", "()I"⟩, 19), (⟨"BitTunerModel", "save", "([I)V"⟩, 19), (⟨"BitTunerModel", "setAll", "(I)V"⟩, 19), (⟨"BitTunerModel", "choosesOn", "()Z"⟩, 19), (⟨"BitTunerModel", "take", "([I)V"⟩, 19), (⟨"BitTunerModel", "gainOf", "(II)J"⟩, 19)]
theorem lw_r2 : ∀ q ∈ lw_privs_2, lw_okq q := List.forall_mem_cons.mpr ⟨lw_p16, List.forall_mem_cons.mpr ⟨lw_p17, List.forall_mem_cons.mpr ⟨lw_p18, List.forall_mem_cons.mpr ⟨lw_p19, List.forall_mem_cons.mpr ⟨lw_p20, List.forall_mem_cons.mpr ⟨lw_p21, List.forall_mem_cons.mpr ⟨lw_p22, List.forall_mem_cons.mpr ⟨lw_p23, List.forall_mem_cons.mpr ⟨lw_p24, List.forall_mem_cons.mpr ⟨lw_p25, List.forall_mem_cons.mpr ⟨lw_p26, List.forall_mem_cons.mpr ⟨lw_p27, List.forall_mem_cons.mpr ⟨lw_p28, List.forall_mem_cons.mpr ⟨lw_p29, List.forall_mem_cons.mpr ⟨lw_p30, List.forall_mem_cons.mpr ⟨lw_p31, fun _ h => absurd h List.not_mem_nil⟩⟩⟩⟩⟩⟩⟩⟩⟩⟩⟩⟩⟩⟩⟩⟩
def lw_privs : List (MethodName × Nat) := lw_privs_1 ++ (lw_privs_2)
def lw_tbl : List Cond := k2_sels lw_privs ++ tables_1
theorem lw_privs_ok : ∀ q ∈ lw_privs, lw_okq q := by
  show ∀ q ∈ lw_privs_1 ++ (lw_privs_2), lw_okq q
  exact List.forall_mem_append.mpr ⟨lw_r1, lw_r2⟩
/-- the streams that the claim lets the run draw from -/
abbrev lw_cs : List Choice := [Jvm.Choice.named "NaN.bits"]
theorem lw_bits : nanBits ∈ lw_cs := by first | decide | exact List.mem_cons_self | simp [lw_cs, nanBits]
end
section
def RX0 : String := "BitTuner$Program"
def TX0 : u_T := fun k => match k with
  | 0 => ("BitTuner$Program", "values", "[LBitTuner$Value;", true)
  | _ => ("BitTuner$Program", "many", "I", false)
def tyX0 : Nat → FieldType := fun k => match k with
  | 0 => .array (.object "BitTuner$Value")
  | _ => .int
abbrev wsX00 : List Cond := u_ws RX0 TX0 2
theorem nmX0 : ∀ a, a < 2 → ∀ b, b < 2 → a ≠ b → (TX0 a).2.1 ≠ (TX0 b).2.1 := by decide +kernel
theorem tyX0_ok : ∀ k, k < 2 → parseFieldDescriptor (TX0 k).2.2.1 = some (tyX0 k) := by decide +kernel
abbrev cX0_init : ByteArray := prog_2_method_1_code
def yX0_init : MethodName := ⟨RX0, "<init>", "()V"⟩
abbrev cX0_has : ByteArray := prog_2_method_2_code
def yX0_has : MethodName := ⟨RX0, "has", "(I)Z"⟩
abbrev cX0_isInput : ByteArray := prog_2_method_3_code
def yX0_isInput : MethodName := ⟨RX0, "isInput", "(I)Z"⟩
abbrev cX0_isWorked : ByteArray := prog_2_method_4_code
def yX0_isWorked : MethodName := ⟨RX0, "isWorked", "(I)Z"⟩
abbrev cX0_addGiven : ByteArray := prog_2_method_5_code
def yX0_addGiven : MethodName := ⟨RX0, "addGiven", "(III)I"⟩
abbrev cX0_addWorked : ByteArray := prog_2_method_6_code
def yX0_addWorked : MethodName := ⟨RX0, "addWorked", "(III)I"⟩
abbrev cX0_inputs : ByteArray := prog_2_method_7_code
def yX0_inputs : MethodName := ⟨RX0, "inputs", "()I"⟩
abbrev cX0_workedOnes : ByteArray := prog_2_method_8_code
def yX0_workedOnes : MethodName := ⟨RX0, "workedOnes", "()I"⟩
abbrev cX0_priceInAll : ByteArray := prog_2_method_9_code
def yX0_priceInAll : MethodName := ⟨RX0, "priceInAll", "()I"⟩
def RX1 : String := "BitTuner$Runs"
def TX1 : u_T := fun k => match k with
  | 0 => ("BitTuner$Runs", "program", "LBitTuner$Program;", true)
  | 1 => ("BitTuner$Runs", "row", "[I", true)
  | 2 => ("BitTuner$Runs", "exacts", "[J", true)
  | 3 => ("BitTuner$Runs", "tuneds", "[J", true)
  | _ => ("BitTuner$Runs", "worstRow", "[I", true)
def tyX1 : Nat → FieldType := fun k => match k with
  | 0 => .object "BitTuner$Program"
  | 1 => .array .int
  | 2 => .array .long
  | 3 => .array .long
  | _ => .array .int
abbrev wsX10 : List Cond := u_ws RX1 TX1 5
theorem nmX1 : ∀ a, a < 5 → ∀ b, b < 5 → a ≠ b → (TX1 a).2.1 ≠ (TX1 b).2.1 := by decide +kernel
theorem tyX1_ok : ∀ k, k < 5 → parseFieldDescriptor (TX1 k).2.2.1 = some (tyX1 k) := by decide +kernel
abbrev cX1_init : ByteArray := prog_3_method_1_code
def yX1_init : MethodName := ⟨RX1, "<init>", "(LBitTuner$Program;)V"⟩
abbrev cX1_workOutAsSet : ByteArray := prog_3_method_2_code
def yX1_workOutAsSet : MethodName := ⟨RX1, "workOutAsSet", "(I)V"⟩
abbrev cX1_missOf : ByteArray := prog_3_method_3_code
def yX1_missOf : MethodName := ⟨RX1, "missOf", "(I)J"⟩
abbrev cX1_workOut : ByteArray := prog_3_method_4_code
def yX1_workOut : MethodName := ⟨RX1, "workOut", "(I)V"⟩
abbrev cX1_exactly : ByteArray := prog_3_method_5_code
def yX1_exactly : MethodName := ⟨RX1, "exactly", "(IJJ)J"⟩
abbrev cX1_tunedTo : ByteArray := prog_3_method_6_code
def yX1_tunedTo : MethodName := ⟨RX1, "tunedTo", "(LBitTuner$Value;JJ)J"⟩
abbrev cX1_rounded : ByteArray := prog_3_method_7_code
def yX1_rounded : MethodName := ⟨RX1, "rounded", "(JII)J"⟩
abbrev cX1_rowsInAll : ByteArray := prog_3_method_8_code
def yX1_rowsInAll : MethodName := ⟨RX1, "rowsInAll", "()I"⟩
abbrev cX1_areFew : ByteArray := prog_3_method_9_code
def yX1_areFew : MethodName := ⟨RX1, "areFew", "()Z"⟩
abbrev cX1_greatestMiss : ByteArray := prog_3_method_10_code
def yX1_greatestMiss : MethodName := ⟨RX1, "greatestMiss", "(I)J"⟩
abbrev cX1_rowsAbove : ByteArray := prog_3_method_11_code
def yX1_rowsAbove : MethodName := ⟨RX1, "rowsAbove", "(IJ)I"⟩
abbrev cX1_toFirstRow : ByteArray := prog_3_method_12_code
def yX1_toFirstRow : MethodName := ⟨RX1, "toFirstRow", "()V"⟩
abbrev cX1_toNextRow : ByteArray := prog_3_method_13_code
def yX1_toNextRow : MethodName := ⟨RX1, "toNextRow", "()V"⟩
abbrev cX1_keepRow : ByteArray := prog_3_method_14_code
def yX1_keepRow : MethodName := ⟨RX1, "keepRow", "()V"⟩
def RX2 : String := "BitTuner$Value"
def TX2 : u_T := fun k => match k with
  | 0 => ("BitTuner$Value", "kind", "I", false)
  | 1 => ("BitTuner$Value", "a", "I", false)
  | 2 => ("BitTuner$Value", "b", "I", false)
  | 3 => ("BitTuner$Value", "degree", "I", false)
  | 4 => ("BitTuner$Value", "bits", "I", false)
  | 5 => ("BitTuner$Value", "rounding", "I", false)
  | 6 => ("BitTuner$Value", "weight", "I", false)
  | 7 => ("BitTuner$Value", "low", "J", false)
  | 8 => ("BitTuner$Value", "high", "J", false)
  | 9 => ("BitTuner$Value", "reach", "J", false)
  | _ => ("BitTuner$Value", "units", "I", false)
def tyX2 : Nat → FieldType := fun k => match k with
  | 0 => .int
  | 1 => .int
  | 2 => .int
  | 3 => .int
  | 4 => .int
  | 5 => .int
  | 6 => .int
  | 7 => .long
  | 8 => .long
  | 9 => .long
  | _ => .int
abbrev wsX20 : List Cond := u_ws RX2 TX2 11
theorem nmX2 : ∀ a, a < 11 → ∀ b, b < 11 → a ≠ b → (TX2 a).2.1 ≠ (TX2 b).2.1 := by decide +kernel
theorem tyX2_ok : ∀ k, k < 11 → parseFieldDescriptor (TX2 k).2.2.1 = some (tyX2 k) := by decide +kernel
abbrev cX2_init : ByteArray := prog_4_method_1_code
def yX2_init : MethodName := ⟨RX2, "<init>", "()V"⟩
abbrev cX2_isGiven : ByteArray := prog_4_method_2_code
def yX2_isGiven : MethodName := ⟨RX2, "isGiven", "()Z"⟩
abbrev cX2_begin : ByteArray := prog_4_method_3_code
def yX2_begin : MethodName := ⟨RX2, "begin", "(III)V"⟩
abbrev cX2_spanGiven : ByteArray := prog_4_method_4_code
def yX2_spanGiven : MethodName := ⟨RX2, "spanGiven", "()V"⟩
abbrev cX2_spanWorked : ByteArray := prog_4_method_5_code
def yX2_spanWorked : MethodName := ⟨RX2, "spanWorked", "(LBitTuner$Value;LBitTuner$Value;)V"⟩
abbrev cX2_spanProduct : ByteArray := prog_4_method_6_code
def yX2_spanProduct : MethodName := ⟨RX2, "spanProduct", "(LBitTuner$Value;LBitTuner$Value;)V"⟩
abbrev cX2_spanAmount : ByteArray := prog_4_method_7_code
def yX2_spanAmount : MethodName := ⟨RX2, "spanAmount", "(LBitTuner$Value;)V"⟩
abbrev cX2_isWithinLimits : ByteArray := prog_4_method_8_code
def yX2_isWithinLimits : MethodName := ⟨RX2, "isWithinLimits", "()Z"⟩
def RX3 : String := "BitTuner$Widths"
def TX3 : u_T := fun k => match k with
  | 0 => ("BitTuner$Widths", "program", "LBitTuner$Program;", true)
  | 1 => ("BitTuner$Widths", "trial", "[I", true)
  | 2 => ("BitTuner$Widths", "bounds", "[J", true)
  | 3 => ("BitTuner$Widths", "cheapest", "[I", true)
  | _ => ("BitTuner$Widths", "cheapestPrice", "I", false)
def tyX3 : Nat → FieldType := fun k => match k with
  | 0 => .object "BitTuner$Program"
  | 1 => .array .int
  | 2 => .array .long
  | 3 => .array .int
  | _ => .int
abbrev wsX30 : List Cond := u_ws RX3 TX3 5
theorem nmX3 : ∀ a, a < 5 → ∀ b, b < 5 → a ≠ b → (TX3 a).2.1 ≠ (TX3 b).2.1 := by decide +kernel
theorem tyX3_ok : ∀ k, k < 5 → parseFieldDescriptor (TX3 k).2.2.1 = some (tyX3 k) := by decide +kernel
abbrev cX3_init : ByteArray := prog_5_method_1_code
def yX3_init : MethodName := ⟨RX3, "<init>", "(LBitTuner$Program;)V"⟩
abbrev cX3_boundAsTold : ByteArray := prog_5_method_2_code
def yX3_boundAsTold : MethodName := ⟨RX3, "boundAsTold", "(I)J"⟩
abbrev cX3_boundAtWidest : ByteArray := prog_5_method_3_code
def yX3_boundAtWidest : MethodName := ⟨RX3, "boundAtWidest", "(I)J"⟩
abbrev cX3_gainOf : ByteArray := prog_5_method_4_code
def yX3_gainOf : MethodName := ⟨RX3, "gainOf", "(II)J"⟩
abbrev cX3_mostToBlame : ByteArray := prog_5_method_5_code
def yX3_mostToBlame : MethodName := ⟨RX3, "mostToBlame", "(I)I"⟩
abbrev cX3_lessenInTurn : ByteArray := prog_5_method_6_code
def yX3_lessenInTurn : MethodName := ⟨RX3, "lessenInTurn", "(IJ)I"⟩
abbrev cX3_lessen : ByteArray := prog_5_method_7_code
def yX3_lessen : MethodName := ⟨RX3, "lessen", "(IIJ)V"⟩
abbrev cX3_chooseCheapest : ByteArray := prog_5_method_8_code
def yX3_chooseCheapest : MethodName := ⟨RX3, "chooseCheapest", "(IJ)I"⟩
abbrev cX3_choose : ByteArray := prog_5_method_9_code
def yX3_choose : MethodName := ⟨RX3, "choose", "(IIIJ)V"⟩
abbrev cX3_tryAsTold : ByteArray := prog_5_method_10_code
def yX3_tryAsTold : MethodName := ⟨RX3, "tryAsTold", "()V"⟩
abbrev cX3_tryWidest : ByteArray := prog_5_method_11_code
def yX3_tryWidest : MethodName := ⟨RX3, "tryWidest", "()V"⟩
abbrev cX3_take : ByteArray := prog_5_method_12_code
def yX3_take : MethodName := ⟨RX3, "take", "([I)V"⟩
abbrev cX3_boundTried : ByteArray := prog_5_method_13_code
def yX3_boundTried : MethodName := ⟨RX3, "boundTried", "(I)J"⟩
abbrev cX3_boundFromParts : ByteArray := prog_5_method_14_code
def yX3_boundFromParts : MethodName := ⟨RX3, "boundFromParts", "(I)J"⟩
abbrev cX3_boundOfProduct : ByteArray := prog_5_method_15_code
def yX3_boundOfProduct : MethodName := ⟨RX3, "boundOfProduct", "(LBitTuner$Value;JJ)J"⟩
abbrev cX3_roundingMiss : ByteArray := prog_5_method_16_code
def yX3_roundingMiss : MethodName := ⟨RX3, "roundingMiss", "(II)J"⟩
def RX4 : String := "BitTuner"
def TX4 : u_T := fun k => match k with
  | 0 => ("BitTuner", "program", "LBitTuner$Program;", true)
  | 1 => ("BitTuner", "runs", "LBitTuner$Runs;", true)
  | _ => ("BitTuner", "widths", "LBitTuner$Widths;", true)
def tyX4 : Nat → FieldType := fun k => match k with
  | 0 => .object "BitTuner$Program"
  | 1 => .object "BitTuner$Runs"
  | _ => .object "BitTuner$Widths"
abbrev wsX40 : List Cond := u_ws RX4 TX4 3
theorem nmX4 : ∀ a, a < 3 → ∀ b, b < 3 → a ≠ b → (TX4 a).2.1 ≠ (TX4 b).2.1 := by decide +kernel
theorem tyX4_ok : ∀ k, k < 3 → parseFieldDescriptor (TX4 k).2.2.1 = some (tyX4 k) := by decide +kernel
abbrev cX4_init : ByteArray := prog_1_method_1_code
def yX4_init : MethodName := ⟨RX4, "<init>", "()V"⟩
abbrev cX4_input : ByteArray := prog_1_method_2_code
def yX4_input : MethodName := ⟨RX4, "input", "(II)I"⟩
abbrev cX4_fixed : ByteArray := prog_1_method_3_code
def yX4_fixed : MethodName := ⟨RX4, "fixed", "(I)I"⟩
abbrev cX4_work : ByteArray := prog_1_method_4_code
def yX4_work : MethodName := ⟨RX4, "work", "(III)I"⟩
abbrev cX4_cut : ByteArray := prog_1_method_5_code
def yX4_cut : MethodName := ⟨RX4, "cut", "(I)I"⟩
abbrev cX4_bits : ByteArray := prog_1_method_6_code
def yX4_bits : MethodName := ⟨RX4, "bits", "(II)I"⟩
abbrev cX4_rounding : ByteArray := prog_1_method_7_code
def yX4_rounding : MethodName := ⟨RX4, "rounding", "(II)I"⟩
abbrev cX4_weight : ByteArray := prog_1_method_8_code
def yX4_weight : MethodName := ⟨RX4, "weight", "(II)I"⟩
abbrev cX4_about : ByteArray := prog_1_method_9_code
def yX4_about : MethodName := ⟨RX4, "about", "(II)J"⟩
abbrev cX4_price : ByteArray := prog_1_method_10_code
def yX4_price : MethodName := ⟨RX4, "price", "()I"⟩
abbrev cX4_set : ByteArray := prog_1_method_11_code
def yX4_set : MethodName := ⟨RX4, "set", "(II)I"⟩
abbrev cX4_enter : ByteArray := prog_1_method_12_code
def yX4_enter : MethodName := ⟨RX4, "enter", "(ID)I"⟩
abbrev cX4_exact : ByteArray := prog_1_method_13_code
def yX4_exact : MethodName := ⟨RX4, "exact", "(I)J"⟩
abbrev cX4_tuned : ByteArray := prog_1_method_14_code
def yX4_tuned : MethodName := ⟨RX4, "tuned", "(I)J"⟩
abbrev cX4_miss : ByteArray := prog_1_method_15_code
def yX4_miss : MethodName := ⟨RX4, "miss", "(I)J"⟩
abbrev cX4_leave : ByteArray := prog_1_method_16_code
def yX4_leave : MethodName := ⟨RX4, "leave", "(I)D"⟩
abbrev cX4_narrow : ByteArray := prog_1_method_17_code
def yX4_narrow : MethodName := ⟨RX4, "narrow", "(I)F"⟩
abbrev cX4_rows : ByteArray := prog_1_method_18_code
def yX4_rows : MethodName := ⟨RX4, "rows", "()I"⟩
abbrev cX4_worst : ByteArray := prog_1_method_19_code
def yX4_worst : MethodName := ⟨RX4, "worst", "(I)J"⟩
abbrev cX4_worstAt : ByteArray := prog_1_method_20_code
def yX4_worstAt : MethodName := ⟨RX4, "worstAt", "(I)I"⟩
abbrev cX4_above : ByteArray := prog_1_method_21_code
def yX4_above : MethodName := ⟨RX4, "above", "(IJ)I"⟩
abbrev cX4_least : ByteArray := prog_1_method_22_code
def yX4_least : MethodName := ⟨RX4, "least", "(IJ)I"⟩
abbrev cX4_trim : ByteArray := prog_1_method_23_code
def yX4_trim : MethodName := ⟨RX4, "trim", "(IJ)I"⟩
abbrev cX4_floor : ByteArray := prog_1_method_24_code
def yX4_floor : MethodName := ⟨RX4, "floor", "(I)J"⟩
abbrev cX4_gain : ByteArray := prog_1_method_25_code
def yX4_gain : MethodName := ⟨RX4, "gain", "(II)J"⟩
abbrev cX4_blame : ByteArray := prog_1_method_26_code
def yX4_blame : MethodName := ⟨RX4, "blame", "(I)I"⟩
abbrev cX4_count : ByteArray := prog_1_method_27_code
def yX4_count : MethodName := ⟨RX4, "count", "(I)I"⟩
abbrev cX4_digest : ByteArray := prog_1_method_28_code
def yX4_digest : MethodName := ⟨RX4, "digest", "()J"⟩
abbrev cX4_refusal : ByteArray := prog_1_method_29_code
def yX4_refusal : MethodName := ⟨RX4, "refusal", "(I)J"⟩
abbrev cX4_isStep : ByteArray := prog_1_method_30_code
def yX4_isStep : MethodName := ⟨RX4, "isStep", "(I)Z"⟩
abbrev cX4_isGivable : ByteArray := prog_1_method_31_code
def yX4_isGivable : MethodName := ⟨RX4, "isGivable", "(I)Z"⟩
abbrev cX4_hasTwoParts : ByteArray := prog_1_method_32_code
def yX4_hasTwoParts : MethodName := ⟨RX4, "hasTwoParts", "(I)Z"⟩
abbrev cX4_result : ByteArray := prog_1_method_33_code
def yX4_result : MethodName := ⟨RX4, "result", "(IJJ)J"⟩
def RX5 : String := "BitTunerModel"
def TX5 : u_T := fun k => match k with
  | 0 => ("BitTunerModel", "values", "I", false)
  | 1 => ("BitTunerModel", "kinds", "[I", true)
  | 2 => ("BitTunerModel", "a", "[I", true)
  | 3 => ("BitTunerModel", "b", "[I", true)
  | 4 => ("BitTunerModel", "degrees", "[I", true)
  | 5 => ("BitTunerModel", "leasts", "[J", true)
  | 6 => ("BitTunerModel", "mosts", "[J", true)
  | 7 => ("BitTunerModel", "bits", "[I", true)
  | 8 => ("BitTunerModel", "roundings", "[I", true)
  | 9 => ("BitTunerModel", "weights", "[I", true)
  | 10 => ("BitTunerModel", "setTo", "[I", true)
  | 11 => ("BitTunerModel", "bounds", "[J", true)
  | 12 => ("BitTunerModel", "exacts", "[J", true)
  | 13 => ("BitTunerModel", "tuneds", "[J", true)
  | 14 => ("BitTunerModel", "kept", "[I", true)
  | 15 => ("BitTunerModel", "wasInput", "[Z", true)
  | 16 => ("BitTunerModel", "worstOf", "[I", true)
  | 17 => ("BitTunerModel", "were", "[I", true)
  | _ => ("BitTunerModel", "best", "[I", true)
def tyX5 : Nat → FieldType := fun k => match k with
  | 0 => .int
  | 1 => .array .int
  | 2 => .array .int
  | 3 => .array .int
  | 4 => .array .int
  | 5 => .array .long
  | 6 => .array .long
  | 7 => .array .int
  | 8 => .array .int
  | 9 => .array .int
  | 10 => .array .int
  | 11 => .array .long
  | 12 => .array .long
  | 13 => .array .long
  | 14 => .array .int
  | 15 => .array .boolean
  | 16 => .array .int
  | 17 => .array .int
  | _ => .array .int
abbrev wsX50 : List Cond := u_ws RX5 TX5 19
theorem nmX5 : ∀ a, a < 19 → ∀ b, b < 19 → a ≠ b → (TX5 a).2.1 ≠ (TX5 b).2.1 := by decide +kernel
theorem tyX5_ok : ∀ k, k < 19 → parseFieldDescriptor (TX5 k).2.2.1 = some (tyX5 k) := by decide +kernel
abbrev cX5_init : ByteArray := prog_7_method_1_code
def yX5_init : MethodName := ⟨RX5, "<init>", "()V"⟩
abbrev cX5_in : ByteArray := prog_7_method_3_code
def yX5_in : MethodName := ⟨RX5, "in", "(JJJ)Z"⟩
abbrev cX5_no : ByteArray := prog_7_method_4_code
def yX5_no : MethodName := ⟨RX5, "no", "(I)J"⟩
abbrev cX5_isValue : ByteArray := prog_7_method_5_code
def yX5_isValue : MethodName := ⟨RX5, "isValue", "(I)Z"⟩
abbrev cX5_isInput : ByteArray := prog_7_method_6_code
def yX5_isInput : MethodName := ⟨RX5, "isInput", "(I)Z"⟩
abbrev cX5_isWork : ByteArray := prog_7_method_7_code
def yX5_isWork : MethodName := ⟨RX5, "isWork", "(I)Z"⟩
abbrev cX5_isNumber : ByteArray := prog_7_method_8_code
def yX5_isNumber : MethodName := ⟨RX5, "isNumber", "(I)Z"⟩
abbrev cX5_lays : ByteArray := prog_7_method_9_code
def yX5_lays : MethodName := ⟨RX5, "lays", "(IIIIJJ)I"⟩
abbrev cX5_input : ByteArray := prog_7_method_10_code
def yX5_input : MethodName := ⟨RX5, "input", "(II)I"⟩
abbrev cX5_fixed : ByteArray := prog_7_method_11_code
def yX5_fixed : MethodName := ⟨RX5, "fixed", "(I)I"⟩
abbrev cX5_max : ByteArray := prog_7_method_12_code
def yX5_max : MethodName := ⟨RX5, "max", "(JJ)J"⟩
abbrev cX5_min : ByteArray := prog_7_method_13_code
def yX5_min : MethodName := ⟨RX5, "min", "(JJ)J"⟩
abbrev cX5_amount : ByteArray := prog_7_method_14_code
def yX5_amount : MethodName := ⟨RX5, "amount", "(J)J"⟩
abbrev cX5_work : ByteArray := prog_7_method_15_code
def yX5_work : MethodName := ⟨RX5, "work", "(III)I"⟩
abbrev cX5_cut : ByteArray := prog_7_method_16_code
def yX5_cut : MethodName := ⟨RX5, "cut", "(I)I"⟩
abbrev cX5_bits : ByteArray := prog_7_method_17_code
def yX5_bits : MethodName := ⟨RX5, "bits", "(II)I"⟩
abbrev cX5_rounding : ByteArray := prog_7_method_18_code
def yX5_rounding : MethodName := ⟨RX5, "rounding", "(II)I"⟩
abbrev cX5_weight : ByteArray := prog_7_method_19_code
def yX5_weight : MethodName := ⟨RX5, "weight", "(II)I"⟩
abbrev cX5_greatest : ByteArray := prog_7_method_20_code
def yX5_greatest : MethodName := ⟨RX5, "greatest", "(I)J"⟩
abbrev cX5_up : ByteArray := prog_7_method_21_code
def yX5_up : MethodName := ⟨RX5, "up", "(J)J"⟩
abbrev cX5_bound : ByteArray := prog_7_method_22_code
def yX5_bound : MethodName := ⟨RX5, "bound", "(I)J"⟩
abbrev cX5_about : ByteArray := prog_7_method_23_code
def yX5_about : MethodName := ⟨RX5, "about", "(II)J"⟩
abbrev cX5_price : ByteArray := prog_7_method_24_code
def yX5_price : MethodName := ⟨RX5, "price", "()I"⟩
abbrev cX5_floored : ByteArray := prog_7_method_25_code
def yX5_floored : MethodName := ⟨RX5, "floored", "(JJ)J"⟩
abbrev cX5_rounded : ByteArray := prog_7_method_26_code
def yX5_rounded : MethodName := ⟨RX5, "rounded", "(JJI)J"⟩
abbrev cX5_does : ByteArray := prog_7_method_27_code
def yX5_does : MethodName := ⟨RX5, "does", "(IJJ)J"⟩
abbrev cX5_runs : ByteArray := prog_7_method_28_code
def yX5_runs : MethodName := ⟨RX5, "runs", "(I)V"⟩
abbrev cX5_isOf : ByteArray := prog_7_method_29_code
def yX5_isOf : MethodName := ⟨RX5, "isOf", "(IJ)Z"⟩
abbrev cX5_set : ByteArray := prog_7_method_30_code
def yX5_set : MethodName := ⟨RX5, "set", "(II)I"⟩
abbrev cX5_enter : ByteArray := prog_7_method_31_code
def yX5_enter : MethodName := ⟨RX5, "enter", "(ID)I"⟩
abbrev cX5_exact : ByteArray := prog_7_method_32_code
def yX5_exact : MethodName := ⟨RX5, "exact", "(I)J"⟩
abbrev cX5_tuned : ByteArray := prog_7_method_33_code
def yX5_tuned : MethodName := ⟨RX5, "tuned", "(I)J"⟩
abbrev cX5_missNow : ByteArray := prog_7_method_34_code
def yX5_missNow : MethodName := ⟨RX5, "missNow", "(I)J"⟩
abbrev cX5_miss : ByteArray := prog_7_method_35_code
def yX5_miss : MethodName := ⟨RX5, "miss", "(I)J"⟩
abbrev cX5_leave : ByteArray := prog_7_method_36_code
def yX5_leave : MethodName := ⟨RX5, "leave", "(I)D"⟩
abbrev cX5_narrow : ByteArray := prog_7_method_37_code
def yX5_narrow : MethodName := ⟨RX5, "narrow", "(I)F"⟩
abbrev cX5_rows : ByteArray := prog_7_method_38_code
def yX5_rows : MethodName := ⟨RX5, "rows", "()I"⟩
abbrev cX5_keep : ByteArray := prog_7_method_39_code
def yX5_keep : MethodName := ⟨RX5, "keep", "()V"⟩
abbrev cX5_restore : ByteArray := prog_7_method_40_code
def yX5_restore : MethodName := ⟨RX5, "restore", "()V"⟩
abbrev cX5_goesOn : ByteArray := prog_7_method_41_code
def yX5_goesOn : MethodName := ⟨RX5, "goesOn", "()Z"⟩
abbrev cX5_worst : ByteArray := prog_7_method_42_code
def yX5_worst : MethodName := ⟨RX5, "worst", "(I)J"⟩
abbrev cX5_worstAt : ByteArray := prog_7_method_43_code
def yX5_worstAt : MethodName := ⟨RX5, "worstAt", "(I)I"⟩
abbrev cX5_above : ByteArray := prog_7_method_44_code
def yX5_above : MethodName := ⟨RX5, "above", "(IJ)I"⟩
abbrev cX5_works : ByteArray := prog_7_method_45_code
def yX5_works : MethodName := ⟨RX5, "works", "()I"⟩
abbrev cX5_save : ByteArray := prog_7_method_46_code
def yX5_save : MethodName := ⟨RX5, "save", "([I)V"⟩
abbrev cX5_take : ByteArray := prog_7_method_47_code
def yX5_take : MethodName := ⟨RX5, "take", "([I)V"⟩
abbrev cX5_setAll : ByteArray := prog_7_method_48_code
def yX5_setAll : MethodName := ⟨RX5, "setAll", "(I)V"⟩
abbrev cX5_choosesOn : ByteArray := prog_7_method_49_code
def yX5_choosesOn : MethodName := ⟨RX5, "choosesOn", "()Z"⟩
abbrev cX5_least : ByteArray := prog_7_method_50_code
def yX5_least : MethodName := ⟨RX5, "least", "(IJ)I"⟩
abbrev cX5_trim : ByteArray := prog_7_method_51_code
def yX5_trim : MethodName := ⟨RX5, "trim", "(IJ)I"⟩
abbrev cX5_floor : ByteArray := prog_7_method_52_code
def yX5_floor : MethodName := ⟨RX5, "floor", "(I)J"⟩
abbrev cX5_gainOf : ByteArray := prog_7_method_53_code
def yX5_gainOf : MethodName := ⟨RX5, "gainOf", "(II)J"⟩
abbrev cX5_gain : ByteArray := prog_7_method_54_code
def yX5_gain : MethodName := ⟨RX5, "gain", "(II)J"⟩
abbrev cX5_blame : ByteArray := prog_7_method_55_code
def yX5_blame : MethodName := ⟨RX5, "blame", "(I)I"⟩
abbrev cX5_count : ByteArray := prog_7_method_56_code
def yX5_count : MethodName := ⟨RX5, "count", "(I)I"⟩
abbrev cX5_digest : ByteArray := prog_7_method_57_code
def yX5_digest : MethodName := ⟨RX5, "digest", "()J"⟩
def RJ9 : String := "java/lang/Math"
def TJ9 : u_T := fun k => match k with
  | _ => ("", "", "", false)
def tyJ9 : Nat → FieldType := fun k => match k with
  | _ => .int
abbrev wsJ90 : List Cond := u_ws RJ9 TJ9 0
theorem nmJ9 : ∀ a, a < 0 → ∀ b, b < 0 → a ≠ b → (TJ9 a).2.1 ≠ (TJ9 b).2.1 := by decide +kernel
theorem tyJ9_ok : ∀ k, k < 0 → parseFieldDescriptor (TJ9 k).2.2.1 = some (tyJ9 k) := by decide +kernel
abbrev cJ9_abs_067f4 : ByteArray := prog_8_method_61_code
def yJ9_abs_067f4 : MethodName := ⟨RJ9, "abs", "(J)J"⟩
abbrev cJ9_max_7cf53 : ByteArray := prog_8_method_65_code
def yJ9_max_7cf53 : MethodName := ⟨RJ9, "max", "(II)I"⟩
abbrev cJ9_max_f86c9 : ByteArray := prog_8_method_66_code
def yJ9_max_f86c9 : MethodName := ⟨RJ9, "max", "(JJ)J"⟩
abbrev cJ9_min_f86c9 : ByteArray := prog_8_method_70_code
def yJ9_min_f86c9 : MethodName := ⟨RJ9, "min", "(JJ)J"⟩
def RJ10 : String := "java/lang/System"
def TJ10 : u_T := fun k => match k with
  | _ => ("", "", "", false)
def tyJ10 : Nat → FieldType := fun k => match k with
  | _ => .int
abbrev wsJ100 : List Cond := u_ws RJ10 TJ10 0
theorem nmJ10 : ∀ a, a < 0 → ∀ b, b < 0 → a ≠ b → (TJ10 a).2.1 ≠ (TJ10 b).2.1 := by decide +kernel
theorem tyJ10_ok : ∀ k, k < 0 → parseFieldDescriptor (TJ10 k).2.2.1 = some (tyJ10 k) := by decide +kernel
def RL : String := "BitTunerLaw"
abbrev cL_law : ByteArray := code
def yL_law : MethodName := ⟨RL, "law", "([I)Z"⟩
end
section
theorem dX0_init_0 : decode cX0_init 0 = .ok (.aload_n 0, 1) := by decide +kernel
theorem dX0_init_1 : decode cX0_init 1 = .ok (.invokespecial 3, 3) := by decide +kernel
theorem dX0_init_4 : decode cX0_init 4 = .ok (.aload_n 0, 1) := by decide +kernel
theorem dX0_init_5 : decode cX0_init 5 = .ok (.bipush 16, 2) := by decide +kernel
theorem dX0_init_7 : decode cX0_init 7 = .ok (.anewarray 9, 3) := by decide +kernel
theorem dX0_init_10 : decode cX0_init 10 = .ok (.putfield 11, 3) := by decide +kernel
theorem dX0_init_13 : decode cX0_init 13 = .ok (.iconst 0, 1) := by decide +kernel
theorem dX0_init_14 : decode cX0_init 14 = .ok (.istore_n 1, 1) := by decide +kernel
theorem dX0_init_15 : decode cX0_init 15 = .ok (.iload_n 1, 1) := by decide +kernel
theorem dX0_init_16 : decode cX0_init 16 = .ok (.bipush 16, 2) := by decide +kernel
theorem dX0_init_18 : decode cX0_init 18 = .ok (.if_icmp .ge 22, 3) := by decide +kernel
theorem dX0_init_21 : decode cX0_init 21 = .ok (.aload_n 0, 1) := by decide +kernel
theorem dX0_init_22 : decode cX0_init 22 = .ok (.getfield 11, 3) := by decide +kernel
theorem dX0_init_25 : decode cX0_init 25 = .ok (.iload_n 1, 1) := by decide +kernel
theorem dX0_init_26 : decode cX0_init 26 = .ok (.new 9, 3) := by decide +kernel
theorem dX0_init_29 : decode cX0_init 29 = .ok (.dup, 1) := by decide +kernel
theorem dX0_init_30 : decode cX0_init 30 = .ok (.invokespecial 17, 3) := by decide +kernel
theorem dX0_init_33 : decode cX0_init 33 = .ok (.aastore, 1) := by decide +kernel
theorem dX0_init_34 : decode cX0_init 34 = .ok (.iinc 1 1, 3) := by decide +kernel
theorem dX0_init_37 : decode cX0_init 37 = .ok (.goto (-22), 3) := by decide +kernel
theorem dX0_init_40 : decode cX0_init 40 = .ok (.aload_n 0, 1) := by decide +kernel
theorem dX0_init_41 : decode cX0_init 41 = .ok (.iconst 0, 1) := by decide +kernel
theorem dX0_init_42 : decode cX0_init 42 = .ok (.putfield 18, 3) := by decide +kernel
theorem dX0_init_45 : decode cX0_init 45 = .ok (.return_, 1) := by decide +kernel
theorem dX0_has_0 : decode cX0_has 0 = .ok (.iload_n 1, 1) := by decide +kernel
theorem dX0_has_1 : decode cX0_has 1 = .ok (.ifCond .lt 15, 3) := by decide +kernel
theorem dX0_has_4 : decode cX0_has 4 = .ok (.iload_n 1, 1) := by decide +kernel
theorem dX0_has_5 : decode cX0_has 5 = .ok (.aload_n 0, 1) := by decide +kernel
theorem dX0_has_6 : decode cX0_has 6 = .ok (.getfield 18, 3) := by decide +kernel
theorem dX0_has_9 : decode cX0_has 9 = .ok (.if_icmp .ge 7, 3) := by decide +kernel
theorem dX0_has_12 : decode cX0_has 12 = .ok (.iconst 1, 1) := by decide +kernel
theorem dX0_has_13 : decode cX0_has 13 = .ok (.goto 4, 3) := by decide +kernel
theorem dX0_has_16 : decode cX0_has 16 = .ok (.iconst 0, 1) := by decide +kernel
theorem dX0_has_17 : decode cX0_has 17 = .ok (.ireturn, 1) := by decide +kernel
theorem dX0_isInput_0 : decode cX0_isInput 0 = .ok (.aload_n 0, 1) := by decide +kernel
theorem dX0_isInput_1 : decode cX0_isInput 1 = .ok (.iload_n 1, 1) := by decide +kernel
theorem dX0_isInput_2 : decode cX0_isInput 2 = .ok (.invokevirtual 22, 3) := by decide +kernel
theorem dX0_isInput_5 : decode cX0_isInput 5 = .ok (.ifCond .eq 19, 3) := by decide +kernel
theorem dX0_isInput_8 : decode cX0_isInput 8 = .ok (.aload_n 0, 1) := by decide +kernel
theorem dX0_isInput_9 : decode cX0_isInput 9 = .ok (.getfield 11, 3) := by decide +kernel
theorem dX0_isInput_12 : decode cX0_isInput 12 = .ok (.iload_n 1, 1) := by decide +kernel
theorem dX0_isInput_13 : decode cX0_isInput 13 = .ok (.aaload, 1) := by decide +kernel
theorem dX0_isInput_14 : decode cX0_isInput 14 = .ok (.getfield 26, 3) := by decide +kernel
theorem dX0_isInput_17 : decode cX0_isInput 17 = .ok (.ifCond .ne 7, 3) := by decide +kernel
theorem dX0_isInput_20 : decode cX0_isInput 20 = .ok (.iconst 1, 1) := by decide +kernel
theorem dX0_isInput_21 : decode cX0_isInput 21 = .ok (.goto 4, 3) := by decide +kernel
theorem dX0_isInput_24 : decode cX0_isInput 24 = .ok (.iconst 0, 1) := by decide +kernel
theorem dX0_isInput_25 : decode cX0_isInput 25 = .ok (.ireturn, 1) := by decide +kernel
theorem dX0_isWorked_0 : decode cX0_isWorked 0 = .ok (.aload_n 0, 1) := by decide +kernel
theorem dX0_isWorked_1 : decode cX0_isWorked 1 = .ok (.iload_n 1, 1) := by decide +kernel
theorem dX0_isWorked_2 : decode cX0_isWorked 2 = .ok (.invokevirtual 22, 3) := by decide +kernel
theorem dX0_isWorked_5 : decode cX0_isWorked 5 = .ok (.ifCond .eq 19, 3) := by decide +kernel
theorem dX0_isWorked_8 : decode cX0_isWorked 8 = .ok (.aload_n 0, 1) := by decide +kernel
theorem dX0_isWorked_9 : decode cX0_isWorked 9 = .ok (.getfield 11, 3) := by decide +kernel
theorem dX0_isWorked_12 : decode cX0_isWorked 12 = .ok (.iload_n 1, 1) := by decide +kernel
theorem dX0_isWorked_13 : decode cX0_isWorked 13 = .ok (.aaload, 1) := by decide +kernel
theorem dX0_isWorked_14 : decode cX0_isWorked 14 = .ok (.invokevirtual 29, 3) := by decide +kernel
theorem dX0_isWorked_17 : decode cX0_isWorked 17 = .ok (.ifCond .ne 7, 3) := by decide +kernel
theorem dX0_isWorked_20 : decode cX0_isWorked 20 = .ok (.iconst 1, 1) := by decide +kernel
theorem dX0_isWorked_21 : decode cX0_isWorked 21 = .ok (.goto 4, 3) := by decide +kernel
theorem dX0_isWorked_24 : decode cX0_isWorked 24 = .ok (.iconst 0, 1) := by decide +kernel
theorem dX0_isWorked_25 : decode cX0_isWorked 25 = .ok (.ireturn, 1) := by decide +kernel
theorem dX0_addGiven_0 : decode cX0_addGiven 0 = .ok (.aload_n 0, 1) := by decide +kernel
theorem dX0_addGiven_1 : decode cX0_addGiven 1 = .ok (.getfield 18, 3) := by decide +kernel
theorem dX0_addGiven_4 : decode cX0_addGiven 4 = .ok (.bipush 16, 2) := by decide +kernel
theorem dX0_addGiven_6 : decode cX0_addGiven 6 = .ok (.if_icmp .lt 6, 3) := by decide +kernel
theorem dX0_addGiven_9 : decode cX0_addGiven 9 = .ok (.bipush (-3), 2) := by decide +kernel
theorem dX0_addGiven_11 : decode cX0_addGiven 11 = .ok (.ireturn, 1) := by decide +kernel
theorem dX0_addGiven_12 : decode cX0_addGiven 12 = .ok (.aload_n 0, 1) := by decide +kernel
theorem dX0_addGiven_13 : decode cX0_addGiven 13 = .ok (.getfield 11, 3) := by decide +kernel
theorem dX0_addGiven_16 : decode cX0_addGiven 16 = .ok (.aload_n 0, 1) := by decide +kernel
theorem dX0_addGiven_17 : decode cX0_addGiven 17 = .ok (.getfield 18, 3) := by decide +kernel
theorem dX0_addGiven_20 : decode cX0_addGiven 20 = .ok (.aaload, 1) := by decide +kernel
theorem dX0_addGiven_21 : decode cX0_addGiven 21 = .ok (.astore 4, 2) := by decide +kernel
theorem dX0_addGiven_23 : decode cX0_addGiven 23 = .ok (.aload 4, 2) := by decide +kernel
theorem dX0_addGiven_25 : decode cX0_addGiven 25 = .ok (.iload_n 1, 1) := by decide +kernel
theorem dX0_addGiven_26 : decode cX0_addGiven 26 = .ok (.iload_n 2, 1) := by decide +kernel
theorem dX0_addGiven_27 : decode cX0_addGiven 27 = .ok (.iload_n 3, 1) := by decide +kernel
theorem dX0_addGiven_28 : decode cX0_addGiven 28 = .ok (.invokevirtual 33, 3) := by decide +kernel
theorem dX0_addGiven_31 : decode cX0_addGiven 31 = .ok (.aload 4, 2) := by decide +kernel
theorem dX0_addGiven_33 : decode cX0_addGiven 33 = .ok (.invokevirtual 37, 3) := by decide +kernel
theorem dX0_addGiven_36 : decode cX0_addGiven 36 = .ok (.aload_n 0, 1) := by decide +kernel
theorem dX0_addGiven_37 : decode cX0_addGiven 37 = .ok (.dup, 1) := by decide +kernel
theorem dX0_addGiven_38 : decode cX0_addGiven 38 = .ok (.getfield 18, 3) := by decide +kernel
theorem dX0_addGiven_41 : decode cX0_addGiven 41 = .ok (.dup_x1, 1) := by decide +kernel
theorem dX0_addGiven_42 : decode cX0_addGiven 42 = .ok (.iconst 1, 1) := by decide +kernel
theorem dX0_addGiven_43 : decode cX0_addGiven 43 = .ok (.iadd, 1) := by decide +kernel
theorem dX0_addGiven_44 : decode cX0_addGiven 44 = .ok (.putfield 18, 3) := by decide +kernel
theorem dX0_addGiven_47 : decode cX0_addGiven 47 = .ok (.ireturn, 1) := by decide +kernel
theorem dX0_addWorked_0 : decode cX0_addWorked 0 = .ok (.aload_n 0, 1) := by decide +kernel
theorem dX0_addWorked_1 : decode cX0_addWorked 1 = .ok (.getfield 18, 3) := by decide +kernel
theorem dX0_addWorked_4 : decode cX0_addWorked 4 = .ok (.bipush 16, 2) := by decide +kernel
theorem dX0_addWorked_6 : decode cX0_addWorked 6 = .ok (.if_icmp .lt 6, 3) := by decide +kernel
theorem dX0_addWorked_9 : decode cX0_addWorked 9 = .ok (.bipush (-3), 2) := by decide +kernel
theorem dX0_addWorked_11 : decode cX0_addWorked 11 = .ok (.ireturn, 1) := by decide +kernel
theorem dX0_addWorked_12 : decode cX0_addWorked 12 = .ok (.aload_n 0, 1) := by decide +kernel
theorem dX0_addWorked_13 : decode cX0_addWorked 13 = .ok (.getfield 11, 3) := by decide +kernel
theorem dX0_addWorked_16 : decode cX0_addWorked 16 = .ok (.aload_n 0, 1) := by decide +kernel
theorem dX0_addWorked_17 : decode cX0_addWorked 17 = .ok (.getfield 18, 3) := by decide +kernel
theorem dX0_addWorked_20 : decode cX0_addWorked 20 = .ok (.aaload, 1) := by decide +kernel
theorem dX0_addWorked_21 : decode cX0_addWorked 21 = .ok (.astore 4, 2) := by decide +kernel
theorem dX0_addWorked_23 : decode cX0_addWorked 23 = .ok (.aload 4, 2) := by decide +kernel
theorem dX0_addWorked_25 : decode cX0_addWorked 25 = .ok (.iload_n 1, 1) := by decide +kernel
theorem dX0_addWorked_26 : decode cX0_addWorked 26 = .ok (.iload_n 2, 1) := by decide +kernel
theorem dX0_addWorked_27 : decode cX0_addWorked 27 = .ok (.iload_n 3, 1) := by decide +kernel
theorem dX0_addWorked_28 : decode cX0_addWorked 28 = .ok (.invokevirtual 33, 3) := by decide +kernel
theorem dX0_addWorked_31 : decode cX0_addWorked 31 = .ok (.aload 4, 2) := by decide +kernel
theorem dX0_addWorked_33 : decode cX0_addWorked 33 = .ok (.aload_n 0, 1) := by decide +kernel
theorem dX0_addWorked_34 : decode cX0_addWorked 34 = .ok (.getfield 11, 3) := by decide +kernel
theorem dX0_addWorked_37 : decode cX0_addWorked 37 = .ok (.iload_n 2, 1) := by decide +kernel
theorem dX0_addWorked_38 : decode cX0_addWorked 38 = .ok (.aaload, 1) := by decide +kernel
theorem dX0_addWorked_39 : decode cX0_addWorked 39 = .ok (.aload_n 0, 1) := by decide +kernel
theorem dX0_addWorked_40 : decode cX0_addWorked 40 = .ok (.getfield 11, 3) := by decide +kernel
theorem dX0_addWorked_43 : decode cX0_addWorked 43 = .ok (.iload_n 1, 1) := by decide +kernel
theorem dX0_addWorked_44 : decode cX0_addWorked 44 = .ok (.invokestatic 40, 3) := by decide +kernel
theorem dX0_addWorked_47 : decode cX0_addWorked 47 = .ok (.ifCond .eq 7, 3) := by decide +kernel
theorem dX0_addWorked_50 : decode cX0_addWorked 50 = .ok (.iload_n 3, 1) := by decide +kernel
theorem dX0_addWorked_51 : decode cX0_addWorked 51 = .ok (.goto 4, 3) := by decide +kernel
theorem dX0_addWorked_54 : decode cX0_addWorked 54 = .ok (.iload_n 2, 1) := by decide +kernel
theorem dX0_addWorked_55 : decode cX0_addWorked 55 = .ok (.aaload, 1) := by decide +kernel
theorem dX0_addWorked_56 : decode cX0_addWorked 56 = .ok (.invokevirtual 43, 3) := by decide +kernel
theorem dX0_addWorked_59 : decode cX0_addWorked 59 = .ok (.aload 4, 2) := by decide +kernel
theorem dX0_addWorked_61 : decode cX0_addWorked 61 = .ok (.invokevirtual 47, 3) := by decide +kernel
theorem dX0_addWorked_64 : decode cX0_addWorked 64 = .ok (.ifCond .eq 17, 3) := by decide +kernel
theorem dX0_addWorked_67 : decode cX0_addWorked 67 = .ok (.aload_n 0, 1) := by decide +kernel
theorem dX0_addWorked_68 : decode cX0_addWorked 68 = .ok (.dup, 1) := by decide +kernel
theorem dX0_addWorked_69 : decode cX0_addWorked 69 = .ok (.getfield 18, 3) := by decide +kernel
theorem dX0_addWorked_72 : decode cX0_addWorked 72 = .ok (.dup_x1, 1) := by decide +kernel
theorem dX0_addWorked_73 : decode cX0_addWorked 73 = .ok (.iconst 1, 1) := by decide +kernel
theorem dX0_addWorked_74 : decode cX0_addWorked 74 = .ok (.iadd, 1) := by decide +kernel
theorem dX0_addWorked_75 : decode cX0_addWorked 75 = .ok (.putfield 18, 3) := by decide +kernel
theorem dX0_addWorked_78 : decode cX0_addWorked 78 = .ok (.goto 5, 3) := by decide +kernel
theorem dX0_addWorked_81 : decode cX0_addWorked 81 = .ok (.bipush (-4), 2) := by decide +kernel
theorem dX0_addWorked_83 : decode cX0_addWorked 83 = .ok (.ireturn, 1) := by decide +kernel
theorem dX0_inputs_0 : decode cX0_inputs 0 = .ok (.iconst 0, 1) := by decide +kernel
theorem dX0_inputs_1 : decode cX0_inputs 1 = .ok (.istore_n 1, 1) := by decide +kernel
theorem dX0_inputs_2 : decode cX0_inputs 2 = .ok (.iconst 0, 1) := by decide +kernel
theorem dX0_inputs_3 : decode cX0_inputs 3 = .ok (.istore_n 2, 1) := by decide +kernel
theorem dX0_inputs_4 : decode cX0_inputs 4 = .ok (.iload_n 2, 1) := by decide +kernel
theorem dX0_inputs_5 : decode cX0_inputs 5 = .ok (.aload_n 0, 1) := by decide +kernel
theorem dX0_inputs_6 : decode cX0_inputs 6 = .ok (.getfield 18, 3) := by decide +kernel
theorem dX0_inputs_9 : decode cX0_inputs 9 = .ok (.if_icmp .ge 24, 3) := by decide +kernel
theorem dX0_inputs_12 : decode cX0_inputs 12 = .ok (.aload_n 0, 1) := by decide +kernel
theorem dX0_inputs_13 : decode cX0_inputs 13 = .ok (.getfield 11, 3) := by decide +kernel
theorem dX0_inputs_16 : decode cX0_inputs 16 = .ok (.iload_n 2, 1) := by decide +kernel
theorem dX0_inputs_17 : decode cX0_inputs 17 = .ok (.aaload, 1) := by decide +kernel
theorem dX0_inputs_18 : decode cX0_inputs 18 = .ok (.getfield 26, 3) := by decide +kernel
theorem dX0_inputs_21 : decode cX0_inputs 21 = .ok (.ifCond .ne 6, 3) := by decide +kernel
theorem dX0_inputs_24 : decode cX0_inputs 24 = .ok (.iinc 1 1, 3) := by decide +kernel
theorem dX0_inputs_27 : decode cX0_inputs 27 = .ok (.iinc 2 1, 3) := by decide +kernel
theorem dX0_inputs_30 : decode cX0_inputs 30 = .ok (.goto (-26), 3) := by decide +kernel
theorem dX0_inputs_33 : decode cX0_inputs 33 = .ok (.iload_n 1, 1) := by decide +kernel
theorem dX0_inputs_34 : decode cX0_inputs 34 = .ok (.ireturn, 1) := by decide +kernel
theorem dX0_workedOnes_0 : decode cX0_workedOnes 0 = .ok (.iconst 0, 1) := by decide +kernel
theorem dX0_workedOnes_1 : decode cX0_workedOnes 1 = .ok (.istore_n 1, 1) := by decide +kernel
theorem dX0_workedOnes_2 : decode cX0_workedOnes 2 = .ok (.iconst 0, 1) := by decide +kernel
theorem dX0_workedOnes_3 : decode cX0_workedOnes 3 = .ok (.istore_n 2, 1) := by decide +kernel
theorem dX0_workedOnes_4 : decode cX0_workedOnes 4 = .ok (.iload_n 2, 1) := by decide +kernel
theorem dX0_workedOnes_5 : decode cX0_workedOnes 5 = .ok (.aload_n 0, 1) := by decide +kernel
theorem dX0_workedOnes_6 : decode cX0_workedOnes 6 = .ok (.getfield 18, 3) := by decide +kernel
theorem dX0_workedOnes_9 : decode cX0_workedOnes 9 = .ok (.if_icmp .ge 24, 3) := by decide +kernel
theorem dX0_workedOnes_12 : decode cX0_workedOnes 12 = .ok (.aload_n 0, 1) := by decide +kernel
theorem dX0_workedOnes_13 : decode cX0_workedOnes 13 = .ok (.getfield 11, 3) := by decide +kernel
theorem dX0_workedOnes_16 : decode cX0_workedOnes 16 = .ok (.iload_n 2, 1) := by decide +kernel
theorem dX0_workedOnes_17 : decode cX0_workedOnes 17 = .ok (.aaload, 1) := by decide +kernel
theorem dX0_workedOnes_18 : decode cX0_workedOnes 18 = .ok (.invokevirtual 29, 3) := by decide +kernel
theorem dX0_workedOnes_21 : decode cX0_workedOnes 21 = .ok (.ifCond .ne 6, 3) := by decide +kernel
theorem dX0_workedOnes_24 : decode cX0_workedOnes 24 = .ok (.iinc 1 1, 3) := by decide +kernel
theorem dX0_workedOnes_27 : decode cX0_workedOnes 27 = .ok (.iinc 2 1, 3) := by decide +kernel
theorem dX0_workedOnes_30 : decode cX0_workedOnes 30 = .ok (.goto (-26), 3) := by decide +kernel
theorem dX0_workedOnes_33 : decode cX0_workedOnes 33 = .ok (.iload_n 1, 1) := by decide +kernel
theorem dX0_workedOnes_34 : decode cX0_workedOnes 34 = .ok (.ireturn, 1) := by decide +kernel
theorem dX0_priceInAll_0 : decode cX0_priceInAll 0 = .ok (.iconst 0, 1) := by decide +kernel
theorem dX0_priceInAll_1 : decode cX0_priceInAll 1 = .ok (.istore_n 1, 1) := by decide +kernel
theorem dX0_priceInAll_2 : decode cX0_priceInAll 2 = .ok (.iconst 0, 1) := by decide +kernel
theorem dX0_priceInAll_3 : decode cX0_priceInAll 3 = .ok (.istore_n 2, 1) := by decide +kernel
theorem dX0_priceInAll_4 : decode cX0_priceInAll 4 = .ok (.iload_n 2, 1) := by decide +kernel
theorem dX0_priceInAll_5 : decode cX0_priceInAll 5 = .ok (.aload_n 0, 1) := by decide +kernel
theorem dX0_priceInAll_6 : decode cX0_priceInAll 6 = .ok (.getfield 18, 3) := by decide +kernel
theorem dX0_priceInAll_9 : decode cX0_priceInAll 9 = .ok (.if_icmp .ge 43, 3) := by decide +kernel
theorem dX0_priceInAll_12 : decode cX0_priceInAll 12 = .ok (.aload_n 0, 1) := by decide +kernel
theorem dX0_priceInAll_13 : decode cX0_priceInAll 13 = .ok (.getfield 11, 3) := by decide +kernel
theorem dX0_priceInAll_16 : decode cX0_priceInAll 16 = .ok (.iload_n 2, 1) := by decide +kernel
theorem dX0_priceInAll_17 : decode cX0_priceInAll 17 = .ok (.aaload, 1) := by decide +kernel
theorem dX0_priceInAll_18 : decode cX0_priceInAll 18 = .ok (.invokevirtual 29, 3) := by decide +kernel
theorem dX0_priceInAll_21 : decode cX0_priceInAll 21 = .ok (.ifCond .ne 25, 3) := by decide +kernel
theorem dX0_priceInAll_24 : decode cX0_priceInAll 24 = .ok (.iload_n 1, 1) := by decide +kernel
theorem dX0_priceInAll_25 : decode cX0_priceInAll 25 = .ok (.aload_n 0, 1) := by decide +kernel
theorem dX0_priceInAll_26 : decode cX0_priceInAll 26 = .ok (.getfield 11, 3) := by decide +kernel
theorem dX0_priceInAll_29 : decode cX0_priceInAll 29 = .ok (.iload_n 2, 1) := by decide +kernel
theorem dX0_priceInAll_30 : decode cX0_priceInAll 30 = .ok (.aaload, 1) := by decide +kernel
theorem dX0_priceInAll_31 : decode cX0_priceInAll 31 = .ok (.getfield 50, 3) := by decide +kernel
theorem dX0_priceInAll_34 : decode cX0_priceInAll 34 = .ok (.aload_n 0, 1) := by decide +kernel
theorem dX0_priceInAll_35 : decode cX0_priceInAll 35 = .ok (.getfield 11, 3) := by decide +kernel
theorem dX0_priceInAll_38 : decode cX0_priceInAll 38 = .ok (.iload_n 2, 1) := by decide +kernel
theorem dX0_priceInAll_39 : decode cX0_priceInAll 39 = .ok (.aaload, 1) := by decide +kernel
theorem dX0_priceInAll_40 : decode cX0_priceInAll 40 = .ok (.getfield 53, 3) := by decide +kernel
theorem dX0_priceInAll_43 : decode cX0_priceInAll 43 = .ok (.imul, 1) := by decide +kernel
theorem dX0_priceInAll_44 : decode cX0_priceInAll 44 = .ok (.iadd, 1) := by decide +kernel
theorem dX0_priceInAll_45 : decode cX0_priceInAll 45 = .ok (.istore_n 1, 1) := by decide +kernel
theorem dX0_priceInAll_46 : decode cX0_priceInAll 46 = .ok (.iinc 2 1, 3) := by decide +kernel
theorem dX0_priceInAll_49 : decode cX0_priceInAll 49 = .ok (.goto (-45), 3) := by decide +kernel
theorem dX0_priceInAll_52 : decode cX0_priceInAll 52 = .ok (.iload_n 1, 1) := by decide +kernel
theorem dX0_priceInAll_53 : decode cX0_priceInAll 53 = .ok (.ireturn, 1) := by decide +kernel
theorem dX1_init_0 : decode cX1_init 0 = .ok (.aload_n 0, 1) := by decide +kernel
theorem dX1_init_1 : decode cX1_init 1 = .ok (.invokespecial 3, 3) := by decide +kernel
theorem dX1_init_4 : decode cX1_init 4 = .ok (.aload_n 0, 1) := by decide +kernel
theorem dX1_init_5 : decode cX1_init 5 = .ok (.aload_n 1, 1) := by decide +kernel
theorem dX1_init_6 : decode cX1_init 6 = .ok (.putfield 9, 3) := by decide +kernel
theorem dX1_init_9 : decode cX1_init 9 = .ok (.aload_n 0, 1) := by decide +kernel
theorem dX1_init_10 : decode cX1_init 10 = .ok (.bipush 16, 2) := by decide +kernel
theorem dX1_init_12 : decode cX1_init 12 = .ok (.newarray .int, 2) := by decide +kernel
theorem dX1_init_14 : decode cX1_init 14 = .ok (.putfield 15, 3) := by decide +kernel
theorem dX1_init_17 : decode cX1_init 17 = .ok (.aload_n 0, 1) := by decide +kernel
theorem dX1_init_18 : decode cX1_init 18 = .ok (.bipush 16, 2) := by decide +kernel
theorem dX1_init_20 : decode cX1_init 20 = .ok (.newarray .long, 2) := by decide +kernel
theorem dX1_init_22 : decode cX1_init 22 = .ok (.putfield 19, 3) := by decide +kernel
theorem dX1_init_25 : decode cX1_init 25 = .ok (.aload_n 0, 1) := by decide +kernel
theorem dX1_init_26 : decode cX1_init 26 = .ok (.bipush 16, 2) := by decide +kernel
theorem dX1_init_28 : decode cX1_init 28 = .ok (.newarray .long, 2) := by decide +kernel
theorem dX1_init_30 : decode cX1_init 30 = .ok (.putfield 23, 3) := by decide +kernel
theorem dX1_init_33 : decode cX1_init 33 = .ok (.aload_n 0, 1) := by decide +kernel
theorem dX1_init_34 : decode cX1_init 34 = .ok (.bipush 16, 2) := by decide +kernel
theorem dX1_init_36 : decode cX1_init 36 = .ok (.newarray .int, 2) := by decide +kernel
theorem dX1_init_38 : decode cX1_init 38 = .ok (.putfield 26, 3) := by decide +kernel
theorem dX1_init_41 : decode cX1_init 41 = .ok (.iconst 0, 1) := by decide +kernel
theorem dX1_init_42 : decode cX1_init 42 = .ok (.istore_n 2, 1) := by decide +kernel
theorem dX1_init_43 : decode cX1_init 43 = .ok (.iload_n 2, 1) := by decide +kernel
theorem dX1_init_44 : decode cX1_init 44 = .ok (.bipush 16, 2) := by decide +kernel
theorem dX1_init_46 : decode cX1_init 46 = .ok (.if_icmp .ge 17, 3) := by decide +kernel
theorem dX1_init_49 : decode cX1_init 49 = .ok (.aload_n 0, 1) := by decide +kernel
theorem dX1_init_50 : decode cX1_init 50 = .ok (.getfield 26, 3) := by decide +kernel
theorem dX1_init_53 : decode cX1_init 53 = .ok (.iload_n 2, 1) := by decide +kernel
theorem dX1_init_54 : decode cX1_init 54 = .ok (.bipush (-2), 2) := by decide +kernel
theorem dX1_init_56 : decode cX1_init 56 = .ok (.iastore, 1) := by decide +kernel
theorem dX1_init_57 : decode cX1_init 57 = .ok (.iinc 2 1, 3) := by decide +kernel
theorem dX1_init_60 : decode cX1_init 60 = .ok (.goto (-17), 3) := by decide +kernel
theorem dX1_init_63 : decode cX1_init 63 = .ok (.return_, 1) := by decide +kernel
theorem dX1_workOutAsSet_0 : decode cX1_workOutAsSet 0 = .ok (.iconst 0, 1) := by decide +kernel
theorem dX1_workOutAsSet_1 : decode cX1_workOutAsSet 1 = .ok (.istore_n 2, 1) := by decide +kernel
theorem dX1_workOutAsSet_2 : decode cX1_workOutAsSet 2 = .ok (.iload_n 2, 1) := by decide +kernel
theorem dX1_workOutAsSet_3 : decode cX1_workOutAsSet 3 = .ok (.iload_n 1, 1) := by decide +kernel
theorem dX1_workOutAsSet_4 : decode cX1_workOutAsSet 4 = .ok (.if_icmp .gt 27, 3) := by decide +kernel
theorem dX1_workOutAsSet_7 : decode cX1_workOutAsSet 7 = .ok (.aload_n 0, 1) := by decide +kernel
theorem dX1_workOutAsSet_8 : decode cX1_workOutAsSet 8 = .ok (.getfield 15, 3) := by decide +kernel
theorem dX1_workOutAsSet_11 : decode cX1_workOutAsSet 11 = .ok (.iload_n 2, 1) := by decide +kernel
theorem dX1_workOutAsSet_12 : decode cX1_workOutAsSet 12 = .ok (.aload_n 0, 1) := by decide +kernel
theorem dX1_workOutAsSet_13 : decode cX1_workOutAsSet 13 = .ok (.getfield 9, 3) := by decide +kernel
theorem dX1_workOutAsSet_16 : decode cX1_workOutAsSet 16 = .ok (.getfield 29, 3) := by decide +kernel
theorem dX1_workOutAsSet_19 : decode cX1_workOutAsSet 19 = .ok (.iload_n 2, 1) := by decide +kernel
theorem dX1_workOutAsSet_20 : decode cX1_workOutAsSet 20 = .ok (.aaload, 1) := by decide +kernel
theorem dX1_workOutAsSet_21 : decode cX1_workOutAsSet 21 = .ok (.getfield 35, 3) := by decide +kernel
theorem dX1_workOutAsSet_24 : decode cX1_workOutAsSet 24 = .ok (.iastore, 1) := by decide +kernel
theorem dX1_workOutAsSet_25 : decode cX1_workOutAsSet 25 = .ok (.iinc 2 1, 3) := by decide +kernel
theorem dX1_workOutAsSet_28 : decode cX1_workOutAsSet 28 = .ok (.goto (-26), 3) := by decide +kernel
theorem dX1_workOutAsSet_31 : decode cX1_workOutAsSet 31 = .ok (.aload_n 0, 1) := by decide +kernel
theorem dX1_workOutAsSet_32 : decode cX1_workOutAsSet 32 = .ok (.iload_n 1, 1) := by decide +kernel
theorem dX1_workOutAsSet_33 : decode cX1_workOutAsSet 33 = .ok (.invokevirtual 41, 3) := by decide +kernel
theorem dX1_workOutAsSet_36 : decode cX1_workOutAsSet 36 = .ok (.return_, 1) := by decide +kernel
theorem dX1_missOf_0 : decode cX1_missOf 0 = .ok (.aload_n 0, 1) := by decide +kernel
theorem dX1_missOf_1 : decode cX1_missOf 1 = .ok (.getfield 23, 3) := by decide +kernel
theorem dX1_missOf_4 : decode cX1_missOf 4 = .ok (.iload_n 1, 1) := by decide +kernel
theorem dX1_missOf_5 : decode cX1_missOf 5 = .ok (.laload, 1) := by decide +kernel
theorem dX1_missOf_6 : decode cX1_missOf 6 = .ok (.aload_n 0, 1) := by decide +kernel
theorem dX1_missOf_7 : decode cX1_missOf 7 = .ok (.getfield 19, 3) := by decide +kernel
theorem dX1_missOf_10 : decode cX1_missOf 10 = .ok (.iload_n 1, 1) := by decide +kernel
theorem dX1_missOf_11 : decode cX1_missOf 11 = .ok (.laload, 1) := by decide +kernel
theorem dX1_missOf_12 : decode cX1_missOf 12 = .ok (.lsub, 1) := by decide +kernel
theorem dX1_missOf_13 : decode cX1_missOf 13 = .ok (.invokestatic 45, 3) := by decide +kernel
theorem dX1_missOf_16 : decode cX1_missOf 16 = .ok (.lreturn, 1) := by decide +kernel
theorem dX1_workOut_0 : decode cX1_workOut 0 = .ok (.iconst 0, 1) := by decide +kernel
theorem dX1_workOut_1 : decode cX1_workOut 1 = .ok (.istore_n 2, 1) := by decide +kernel
theorem dX1_workOut_2 : decode cX1_workOut 2 = .ok (.iload_n 2, 1) := by decide +kernel
theorem dX1_workOut_3 : decode cX1_workOut 3 = .ok (.iload_n 1, 1) := by decide +kernel
theorem dX1_workOut_4 : decode cX1_workOut 4 = .ok (.if_icmp .gt 133, 3) := by decide +kernel
theorem dX1_workOut_7 : decode cX1_workOut 7 = .ok (.aload_n 0, 1) := by decide +kernel
theorem dX1_workOut_8 : decode cX1_workOut 8 = .ok (.getfield 9, 3) := by decide +kernel
theorem dX1_workOut_11 : decode cX1_workOut 11 = .ok (.getfield 29, 3) := by decide +kernel
theorem dX1_workOut_14 : decode cX1_workOut 14 = .ok (.iload_n 2, 1) := by decide +kernel
theorem dX1_workOut_15 : decode cX1_workOut 15 = .ok (.aaload, 1) := by decide +kernel
theorem dX1_workOut_16 : decode cX1_workOut 16 = .ok (.astore_n 3, 1) := by decide +kernel
theorem dX1_workOut_17 : decode cX1_workOut 17 = .ok (.aload_n 3, 1) := by decide +kernel
theorem dX1_workOut_18 : decode cX1_workOut 18 = .ok (.invokevirtual 51, 3) := by decide +kernel
theorem dX1_workOut_21 : decode cX1_workOut 21 = .ok (.ifCond .eq 32, 3) := by decide +kernel
theorem dX1_workOut_24 : decode cX1_workOut 24 = .ok (.aload_n 0, 1) := by decide +kernel
theorem dX1_workOut_25 : decode cX1_workOut 25 = .ok (.getfield 19, 3) := by decide +kernel
theorem dX1_workOut_28 : decode cX1_workOut 28 = .ok (.iload_n 2, 1) := by decide +kernel
theorem dX1_workOut_29 : decode cX1_workOut 29 = .ok (.aload_n 0, 1) := by decide +kernel
theorem dX1_workOut_30 : decode cX1_workOut 30 = .ok (.getfield 15, 3) := by decide +kernel
theorem dX1_workOut_33 : decode cX1_workOut 33 = .ok (.iload_n 2, 1) := by decide +kernel
theorem dX1_workOut_34 : decode cX1_workOut 34 = .ok (.iaload, 1) := by decide +kernel
theorem dX1_workOut_35 : decode cX1_workOut 35 = .ok (.i2l, 1) := by decide +kernel
theorem dX1_workOut_36 : decode cX1_workOut 36 = .ok (.lastore, 1) := by decide +kernel
theorem dX1_workOut_37 : decode cX1_workOut 37 = .ok (.aload_n 0, 1) := by decide +kernel
theorem dX1_workOut_38 : decode cX1_workOut 38 = .ok (.getfield 23, 3) := by decide +kernel
theorem dX1_workOut_41 : decode cX1_workOut 41 = .ok (.iload_n 2, 1) := by decide +kernel
theorem dX1_workOut_42 : decode cX1_workOut 42 = .ok (.aload_n 0, 1) := by decide +kernel
theorem dX1_workOut_43 : decode cX1_workOut 43 = .ok (.getfield 15, 3) := by decide +kernel
theorem dX1_workOut_46 : decode cX1_workOut 46 = .ok (.iload_n 2, 1) := by decide +kernel
theorem dX1_workOut_47 : decode cX1_workOut 47 = .ok (.iaload, 1) := by decide +kernel
theorem dX1_workOut_48 : decode cX1_workOut 48 = .ok (.i2l, 1) := by decide +kernel
theorem dX1_workOut_49 : decode cX1_workOut 49 = .ok (.lastore, 1) := by decide +kernel
theorem dX1_workOut_50 : decode cX1_workOut 50 = .ok (.goto 81, 3) := by decide +kernel
theorem dX1_workOut_53 : decode cX1_workOut 53 = .ok (.aload_n 3, 1) := by decide +kernel
theorem dX1_workOut_54 : decode cX1_workOut 54 = .ok (.getfield 55, 3) := by decide +kernel
theorem dX1_workOut_57 : decode cX1_workOut 57 = .ok (.invokestatic 58, 3) := by decide +kernel
theorem dX1_workOut_60 : decode cX1_workOut 60 = .ok (.ifCond .eq 10, 3) := by decide +kernel
theorem dX1_workOut_63 : decode cX1_workOut 63 = .ok (.aload_n 3, 1) := by decide +kernel
theorem dX1_workOut_64 : decode cX1_workOut 64 = .ok (.getfield 62, 3) := by decide +kernel
theorem dX1_workOut_67 : decode cX1_workOut 67 = .ok (.goto 7, 3) := by decide +kernel
theorem dX1_workOut_70 : decode cX1_workOut 70 = .ok (.aload_n 3, 1) := by decide +kernel
theorem dX1_workOut_71 : decode cX1_workOut 71 = .ok (.getfield 65, 3) := by decide +kernel
theorem dX1_workOut_74 : decode cX1_workOut 74 = .ok (.istore 4, 2) := by decide +kernel
theorem dX1_workOut_76 : decode cX1_workOut 76 = .ok (.aload_n 0, 1) := by decide +kernel
theorem dX1_workOut_77 : decode cX1_workOut 77 = .ok (.getfield 19, 3) := by decide +kernel
theorem dX1_workOut_80 : decode cX1_workOut 80 = .ok (.iload_n 2, 1) := by decide +kernel
theorem dX1_workOut_81 : decode cX1_workOut 81 = .ok (.aload_n 3, 1) := by decide +kernel
theorem dX1_workOut_82 : decode cX1_workOut 82 = .ok (.getfield 55, 3) := by decide +kernel
theorem dX1_workOut_85 : decode cX1_workOut 85 = .ok (.aload_n 0, 1) := by decide +kernel
theorem dX1_workOut_86 : decode cX1_workOut 86 = .ok (.getfield 19, 3) := by decide +kernel
theorem dX1_workOut_89 : decode cX1_workOut 89 = .ok (.aload_n 3, 1) := by decide +kernel
theorem dX1_workOut_90 : decode cX1_workOut 90 = .ok (.getfield 65, 3) := by decide +kernel
theorem dX1_workOut_93 : decode cX1_workOut 93 = .ok (.laload, 1) := by decide +kernel
theorem dX1_workOut_94 : decode cX1_workOut 94 = .ok (.aload_n 0, 1) := by decide +kernel
theorem dX1_workOut_95 : decode cX1_workOut 95 = .ok (.getfield 19, 3) := by decide +kernel
theorem dX1_workOut_98 : decode cX1_workOut 98 = .ok (.iload 4, 2) := by decide +kernel
theorem dX1_workOut_100 : decode cX1_workOut 100 = .ok (.laload, 1) := by decide +kernel
theorem dX1_workOut_101 : decode cX1_workOut 101 = .ok (.invokestatic 68, 3) := by decide +kernel
theorem dX1_workOut_104 : decode cX1_workOut 104 = .ok (.lastore, 1) := by decide +kernel
theorem dX1_workOut_105 : decode cX1_workOut 105 = .ok (.aload_n 0, 1) := by decide +kernel
theorem dX1_workOut_106 : decode cX1_workOut 106 = .ok (.getfield 23, 3) := by decide +kernel
theorem dX1_workOut_109 : decode cX1_workOut 109 = .ok (.iload_n 2, 1) := by decide +kernel
theorem dX1_workOut_110 : decode cX1_workOut 110 = .ok (.aload_n 3, 1) := by decide +kernel
theorem dX1_workOut_111 : decode cX1_workOut 111 = .ok (.aload_n 0, 1) := by decide +kernel
theorem dX1_workOut_112 : decode cX1_workOut 112 = .ok (.getfield 23, 3) := by decide +kernel
theorem dX1_workOut_115 : decode cX1_workOut 115 = .ok (.aload_n 3, 1) := by decide +kernel
theorem dX1_workOut_116 : decode cX1_workOut 116 = .ok (.getfield 65, 3) := by decide +kernel
theorem dX1_workOut_119 : decode cX1_workOut 119 = .ok (.laload, 1) := by decide +kernel
theorem dX1_workOut_120 : decode cX1_workOut 120 = .ok (.aload_n 0, 1) := by decide +kernel
theorem dX1_workOut_121 : decode cX1_workOut 121 = .ok (.getfield 23, 3) := by decide +kernel
theorem dX1_workOut_124 : decode cX1_workOut 124 = .ok (.iload 4, 2) := by decide +kernel
theorem dX1_workOut_126 : decode cX1_workOut 126 = .ok (.laload, 1) := by decide +kernel
theorem dX1_workOut_127 : decode cX1_workOut 127 = .ok (.invokestatic 72, 3) := by decide +kernel
theorem dX1_workOut_130 : decode cX1_workOut 130 = .ok (.lastore, 1) := by decide +kernel
theorem dX1_workOut_131 : decode cX1_workOut 131 = .ok (.iinc 2 1, 3) := by decide +kernel
theorem dX1_workOut_134 : decode cX1_workOut 134 = .ok (.goto (-132), 3) := by decide +kernel
theorem dX1_workOut_137 : decode cX1_workOut 137 = .ok (.return_, 1) := by decide +kernel
theorem dX1_exactly_0 : decode cX1_exactly 0 = .ok (.iload_n 0, 1) := by decide +kernel
theorem dX1_exactly_1 : decode cX1_exactly 1 = .ok (.lload_n 1, 1) := by decide +kernel
theorem dX1_exactly_2 : decode cX1_exactly 2 = .ok (.lload_n 3, 1) := by decide +kernel
theorem dX1_exactly_3 : decode cX1_exactly 3 = .ok (.invokestatic 76, 3) := by decide +kernel
theorem dX1_exactly_6 : decode cX1_exactly 6 = .ok (.lstore 5, 2) := by decide +kernel
theorem dX1_exactly_8 : decode cX1_exactly 8 = .ok (.iload_n 0, 1) := by decide +kernel
theorem dX1_exactly_9 : decode cX1_exactly 9 = .ok (.iconst 4, 1) := by decide +kernel
theorem dX1_exactly_10 : decode cX1_exactly 10 = .ok (.if_icmp .ne 11, 3) := by decide +kernel
theorem dX1_exactly_13 : decode cX1_exactly 13 = .ok (.lload 5, 2) := by decide +kernel
theorem dX1_exactly_15 : decode cX1_exactly 15 = .ok (.bipush 16, 2) := by decide +kernel
theorem dX1_exactly_17 : decode cX1_exactly 17 = .ok (.lshr, 1) := by decide +kernel
theorem dX1_exactly_18 : decode cX1_exactly 18 = .ok (.goto 5, 3) := by decide +kernel
theorem dX1_exactly_21 : decode cX1_exactly 21 = .ok (.lload 5, 2) := by decide +kernel
theorem dX1_exactly_23 : decode cX1_exactly 23 = .ok (.lreturn, 1) := by decide +kernel
theorem dX1_tunedTo_0 : decode cX1_tunedTo 0 = .ok (.aload_n 0, 1) := by decide +kernel
theorem dX1_tunedTo_1 : decode cX1_tunedTo 1 = .ok (.getfield 55, 3) := by decide +kernel
theorem dX1_tunedTo_4 : decode cX1_tunedTo 4 = .ok (.iconst 4, 1) := by decide +kernel
theorem dX1_tunedTo_5 : decode cX1_tunedTo 5 = .ok (.if_icmp .ne 8, 3) := by decide +kernel
theorem dX1_tunedTo_8 : decode cX1_tunedTo 8 = .ok (.bipush 16, 2) := by decide +kernel
theorem dX1_tunedTo_10 : decode cX1_tunedTo 10 = .ok (.goto 4, 3) := by decide +kernel
theorem dX1_tunedTo_13 : decode cX1_tunedTo 13 = .ok (.iconst 0, 1) := by decide +kernel
theorem dX1_tunedTo_14 : decode cX1_tunedTo 14 = .ok (.istore 5, 2) := by decide +kernel
theorem dX1_tunedTo_16 : decode cX1_tunedTo 16 = .ok (.iload 5, 2) := by decide +kernel
theorem dX1_tunedTo_18 : decode cX1_tunedTo 18 = .ok (.bipush 16, 2) := by decide +kernel
theorem dX1_tunedTo_20 : decode cX1_tunedTo 20 = .ok (.iadd, 1) := by decide +kernel
theorem dX1_tunedTo_21 : decode cX1_tunedTo 21 = .ok (.aload_n 0, 1) := by decide +kernel
theorem dX1_tunedTo_22 : decode cX1_tunedTo 22 = .ok (.getfield 79, 3) := by decide +kernel
theorem dX1_tunedTo_25 : decode cX1_tunedTo 25 = .ok (.isub, 1) := by decide +kernel
theorem dX1_tunedTo_26 : decode cX1_tunedTo 26 = .ok (.istore 6, 2) := by decide +kernel
theorem dX1_tunedTo_28 : decode cX1_tunedTo 28 = .ok (.aload_n 0, 1) := by decide +kernel
theorem dX1_tunedTo_29 : decode cX1_tunedTo 29 = .ok (.getfield 55, 3) := by decide +kernel
theorem dX1_tunedTo_32 : decode cX1_tunedTo 32 = .ok (.lload_n 1, 1) := by decide +kernel
theorem dX1_tunedTo_33 : decode cX1_tunedTo 33 = .ok (.lload_n 3, 1) := by decide +kernel
theorem dX1_tunedTo_34 : decode cX1_tunedTo 34 = .ok (.invokestatic 76, 3) := by decide +kernel
theorem dX1_tunedTo_37 : decode cX1_tunedTo 37 = .ok (.iload 6, 2) := by decide +kernel
theorem dX1_tunedTo_39 : decode cX1_tunedTo 39 = .ok (.aload_n 0, 1) := by decide +kernel
theorem dX1_tunedTo_40 : decode cX1_tunedTo 40 = .ok (.getfield 82, 3) := by decide +kernel
theorem dX1_tunedTo_43 : decode cX1_tunedTo 43 = .ok (.invokestatic 85, 3) := by decide +kernel
theorem dX1_tunedTo_46 : decode cX1_tunedTo 46 = .ok (.iload 5, 2) := by decide +kernel
theorem dX1_tunedTo_48 : decode cX1_tunedTo 48 = .ok (.lshr, 1) := by decide +kernel
theorem dX1_tunedTo_49 : decode cX1_tunedTo 49 = .ok (.lstore 7, 2) := by decide +kernel
theorem dX1_tunedTo_51 : decode cX1_tunedTo 51 = .ok (.ldc2_w 89, 3) := by decide +kernel
theorem dX1_tunedTo_54 : decode cX1_tunedTo 54 = .ok (.ldc2_w 91, 3) := by decide +kernel
theorem dX1_tunedTo_57 : decode cX1_tunedTo 57 = .ok (.lload 7, 2) := by decide +kernel
theorem dX1_tunedTo_59 : decode cX1_tunedTo 59 = .ok (.invokestatic 93, 3) := by decide +kernel
theorem dX1_tunedTo_62 : decode cX1_tunedTo 62 = .ok (.invokestatic 97, 3) := by decide +kernel
theorem dX1_tunedTo_65 : decode cX1_tunedTo 65 = .ok (.lreturn, 1) := by decide +kernel
theorem dX1_rounded_0 : decode cX1_rounded 0 = .ok (.iload_n 3, 1) := by decide +kernel
theorem dX1_rounded_1 : decode cX1_rounded 1 = .ok (.iconst 2, 1) := by decide +kernel
theorem dX1_rounded_2 : decode cX1_rounded 2 = .ok (.if_icmp .ne 17, 3) := by decide +kernel
theorem dX1_rounded_5 : decode cX1_rounded 5 = .ok (.lload_n 0, 1) := by decide +kernel
theorem dX1_rounded_6 : decode cX1_rounded 6 = .ok (.lconst 0, 1) := by decide +kernel
theorem dX1_rounded_7 : decode cX1_rounded 7 = .ok (.lcmp, 1) := by decide +kernel
theorem dX1_rounded_8 : decode cX1_rounded 8 = .ok (.ifCond .ge 11, 3) := by decide +kernel
theorem dX1_rounded_11 : decode cX1_rounded 11 = .ok (.lload_n 0, 1) := by decide +kernel
theorem dX1_rounded_12 : decode cX1_rounded 12 = .ok (.lneg, 1) := by decide +kernel
theorem dX1_rounded_13 : decode cX1_rounded 13 = .ok (.iload_n 2, 1) := by decide +kernel
theorem dX1_rounded_14 : decode cX1_rounded 14 = .ok (.lshr, 1) := by decide +kernel
theorem dX1_rounded_15 : decode cX1_rounded 15 = .ok (.iload_n 2, 1) := by decide +kernel
theorem dX1_rounded_16 : decode cX1_rounded 16 = .ok (.lshl, 1) := by decide +kernel
theorem dX1_rounded_17 : decode cX1_rounded 17 = .ok (.lneg, 1) := by decide +kernel
theorem dX1_rounded_18 : decode cX1_rounded 18 = .ok (.lreturn, 1) := by decide +kernel
theorem dX1_rounded_19 : decode cX1_rounded 19 = .ok (.iload_n 3, 1) := by decide +kernel
theorem dX1_rounded_20 : decode cX1_rounded 20 = .ok (.iconst 1, 1) := by decide +kernel
theorem dX1_rounded_21 : decode cX1_rounded 21 = .ok (.if_icmp .ne 15, 3) := by decide +kernel
theorem dX1_rounded_24 : decode cX1_rounded 24 = .ok (.iload_n 2, 1) := by decide +kernel
theorem dX1_rounded_25 : decode cX1_rounded 25 = .ok (.ifCond .le 11, 3) := by decide +kernel
theorem dX1_rounded_28 : decode cX1_rounded 28 = .ok (.lconst 1, 1) := by decide +kernel
theorem dX1_rounded_29 : decode cX1_rounded 29 = .ok (.iload_n 2, 1) := by decide +kernel
theorem dX1_rounded_30 : decode cX1_rounded 30 = .ok (.iconst 1, 1) := by decide +kernel
theorem dX1_rounded_31 : decode cX1_rounded 31 = .ok (.isub, 1) := by decide +kernel
theorem dX1_rounded_32 : decode cX1_rounded 32 = .ok (.lshl, 1) := by decide +kernel
theorem dX1_rounded_33 : decode cX1_rounded 33 = .ok (.goto 4, 3) := by decide +kernel
theorem dX1_rounded_36 : decode cX1_rounded 36 = .ok (.lconst 0, 1) := by decide +kernel
theorem dX1_rounded_37 : decode cX1_rounded 37 = .ok (.lstore 4, 2) := by decide +kernel
theorem dX1_rounded_39 : decode cX1_rounded 39 = .ok (.lload_n 0, 1) := by decide +kernel
theorem dX1_rounded_40 : decode cX1_rounded 40 = .ok (.lload 4, 2) := by decide +kernel
theorem dX1_rounded_42 : decode cX1_rounded 42 = .ok (.ladd, 1) := by decide +kernel
theorem dX1_rounded_43 : decode cX1_rounded 43 = .ok (.iload_n 2, 1) := by decide +kernel
theorem dX1_rounded_44 : decode cX1_rounded 44 = .ok (.lshr, 1) := by decide +kernel
theorem dX1_rounded_45 : decode cX1_rounded 45 = .ok (.iload_n 2, 1) := by decide +kernel
theorem dX1_rounded_46 : decode cX1_rounded 46 = .ok (.lshl, 1) := by decide +kernel
theorem dX1_rounded_47 : decode cX1_rounded 47 = .ok (.lreturn, 1) := by decide +kernel
theorem dX1_rowsInAll_0 : decode cX1_rowsInAll 0 = .ok (.lconst 1, 1) := by decide +kernel
theorem dX1_rowsInAll_1 : decode cX1_rowsInAll 1 = .ok (.lstore_n 1, 1) := by decide +kernel
theorem dX1_rowsInAll_2 : decode cX1_rowsInAll 2 = .ok (.iconst 0, 1) := by decide +kernel
theorem dX1_rowsInAll_3 : decode cX1_rowsInAll 3 = .ok (.istore_n 3, 1) := by decide +kernel
theorem dX1_rowsInAll_4 : decode cX1_rowsInAll 4 = .ok (.iload_n 3, 1) := by decide +kernel
theorem dX1_rowsInAll_5 : decode cX1_rowsInAll 5 = .ok (.aload_n 0, 1) := by decide +kernel
theorem dX1_rowsInAll_6 : decode cX1_rowsInAll 6 = .ok (.getfield 9, 3) := by decide +kernel
theorem dX1_rowsInAll_9 : decode cX1_rowsInAll 9 = .ok (.getfield 100, 3) := by decide +kernel
theorem dX1_rowsInAll_12 : decode cX1_rowsInAll 12 = .ok (.if_icmp .ge 56, 3) := by decide +kernel
theorem dX1_rowsInAll_15 : decode cX1_rowsInAll 15 = .ok (.lload_n 1, 1) := by decide +kernel
theorem dX1_rowsInAll_16 : decode cX1_rowsInAll 16 = .ok (.ldc2_w 103, 3) := by decide +kernel
theorem dX1_rowsInAll_19 : decode cX1_rowsInAll 19 = .ok (.lcmp, 1) := by decide +kernel
theorem dX1_rowsInAll_20 : decode cX1_rowsInAll 20 = .ok (.ifCond .ge 48, 3) := by decide +kernel
theorem dX1_rowsInAll_23 : decode cX1_rowsInAll 23 = .ok (.aload_n 0, 1) := by decide +kernel
theorem dX1_rowsInAll_24 : decode cX1_rowsInAll 24 = .ok (.getfield 9, 3) := by decide +kernel
theorem dX1_rowsInAll_27 : decode cX1_rowsInAll 27 = .ok (.getfield 29, 3) := by decide +kernel
theorem dX1_rowsInAll_30 : decode cX1_rowsInAll 30 = .ok (.iload_n 3, 1) := by decide +kernel
theorem dX1_rowsInAll_31 : decode cX1_rowsInAll 31 = .ok (.aaload, 1) := by decide +kernel
theorem dX1_rowsInAll_32 : decode cX1_rowsInAll 32 = .ok (.astore 4, 2) := by decide +kernel
theorem dX1_rowsInAll_34 : decode cX1_rowsInAll 34 = .ok (.aload 4, 2) := by decide +kernel
theorem dX1_rowsInAll_36 : decode cX1_rowsInAll 36 = .ok (.getfield 55, 3) := by decide +kernel
theorem dX1_rowsInAll_39 : decode cX1_rowsInAll 39 = .ok (.ifCond .ne 23, 3) := by decide +kernel
theorem dX1_rowsInAll_42 : decode cX1_rowsInAll 42 = .ok (.lload_n 1, 1) := by decide +kernel
theorem dX1_rowsInAll_43 : decode cX1_rowsInAll 43 = .ok (.aload 4, 2) := by decide +kernel
theorem dX1_rowsInAll_45 : decode cX1_rowsInAll 45 = .ok (.getfield 105, 3) := by decide +kernel
theorem dX1_rowsInAll_48 : decode cX1_rowsInAll 48 = .ok (.aload 4, 2) := by decide +kernel
theorem dX1_rowsInAll_50 : decode cX1_rowsInAll 50 = .ok (.getfield 109, 3) := by decide +kernel
theorem dX1_rowsInAll_53 : decode cX1_rowsInAll 53 = .ok (.lsub, 1) := by decide +kernel
theorem dX1_rowsInAll_54 : decode cX1_rowsInAll 54 = .ok (.ldc2_w 112, 3) := by decide +kernel
theorem dX1_rowsInAll_57 : decode cX1_rowsInAll 57 = .ok (.ldiv, 1) := by decide +kernel
theorem dX1_rowsInAll_58 : decode cX1_rowsInAll 58 = .ok (.lconst 1, 1) := by decide +kernel
theorem dX1_rowsInAll_59 : decode cX1_rowsInAll 59 = .ok (.ladd, 1) := by decide +kernel
theorem dX1_rowsInAll_60 : decode cX1_rowsInAll 60 = .ok (.lmul, 1) := by decide +kernel
theorem dX1_rowsInAll_61 : decode cX1_rowsInAll 61 = .ok (.lstore_n 1, 1) := by decide +kernel
theorem dX1_rowsInAll_62 : decode cX1_rowsInAll 62 = .ok (.iinc 3 1, 3) := by decide +kernel
theorem dX1_rowsInAll_65 : decode cX1_rowsInAll 65 = .ok (.goto (-61), 3) := by decide +kernel
theorem dX1_rowsInAll_68 : decode cX1_rowsInAll 68 = .ok (.lload_n 1, 1) := by decide +kernel
theorem dX1_rowsInAll_69 : decode cX1_rowsInAll 69 = .ok (.ldc2_w 103, 3) := by decide +kernel
theorem dX1_rowsInAll_72 : decode cX1_rowsInAll 72 = .ok (.invokestatic 93, 3) := by decide +kernel
theorem dX1_rowsInAll_75 : decode cX1_rowsInAll 75 = .ok (.l2i, 1) := by decide +kernel
theorem dX1_rowsInAll_76 : decode cX1_rowsInAll 76 = .ok (.ireturn, 1) := by decide +kernel
theorem dX1_areFew_0 : decode cX1_areFew 0 = .ok (.aload_n 0, 1) := by decide +kernel
theorem dX1_areFew_1 : decode cX1_areFew 1 = .ok (.invokevirtual 114, 3) := by decide +kernel
theorem dX1_areFew_4 : decode cX1_areFew 4 = .ok (.sipush 4000, 3) := by decide +kernel
theorem dX1_areFew_7 : decode cX1_areFew 7 = .ok (.if_icmp .gt 7, 3) := by decide +kernel
theorem dX1_areFew_10 : decode cX1_areFew 10 = .ok (.iconst 1, 1) := by decide +kernel
theorem dX1_areFew_11 : decode cX1_areFew 11 = .ok (.goto 4, 3) := by decide +kernel
theorem dX1_areFew_14 : decode cX1_areFew 14 = .ok (.iconst 0, 1) := by decide +kernel
theorem dX1_areFew_15 : decode cX1_areFew 15 = .ok (.ireturn, 1) := by decide +kernel
theorem dX1_greatestMiss_0 : decode cX1_greatestMiss 0 = .ok (.aload_n 0, 1) := by decide +kernel
theorem dX1_greatestMiss_1 : decode cX1_greatestMiss 1 = .ok (.invokevirtual 114, 3) := by decide +kernel
theorem dX1_greatestMiss_4 : decode cX1_greatestMiss 4 = .ok (.istore_n 2, 1) := by decide +kernel
theorem dX1_greatestMiss_5 : decode cX1_greatestMiss 5 = .ok (.ldc2_w 118, 3) := by decide +kernel
theorem dX1_greatestMiss_8 : decode cX1_greatestMiss 8 = .ok (.lstore_n 3, 1) := by decide +kernel
theorem dX1_greatestMiss_9 : decode cX1_greatestMiss 9 = .ok (.aload_n 0, 1) := by decide +kernel
theorem dX1_greatestMiss_10 : decode cX1_greatestMiss 10 = .ok (.invokevirtual 120, 3) := by decide +kernel
theorem dX1_greatestMiss_13 : decode cX1_greatestMiss 13 = .ok (.iload_n 2, 1) := by decide +kernel
theorem dX1_greatestMiss_14 : decode cX1_greatestMiss 14 = .ok (.ifCond .le 39, 3) := by decide +kernel
theorem dX1_greatestMiss_17 : decode cX1_greatestMiss 17 = .ok (.aload_n 0, 1) := by decide +kernel
theorem dX1_greatestMiss_18 : decode cX1_greatestMiss 18 = .ok (.iload_n 1, 1) := by decide +kernel
theorem dX1_greatestMiss_19 : decode cX1_greatestMiss 19 = .ok (.invokevirtual 41, 3) := by decide +kernel
theorem dX1_greatestMiss_22 : decode cX1_greatestMiss 22 = .ok (.aload_n 0, 1) := by decide +kernel
theorem dX1_greatestMiss_23 : decode cX1_greatestMiss 23 = .ok (.iload_n 1, 1) := by decide +kernel
theorem dX1_greatestMiss_24 : decode cX1_greatestMiss 24 = .ok (.invokevirtual 123, 3) := by decide +kernel
theorem dX1_greatestMiss_27 : decode cX1_greatestMiss 27 = .ok (.lstore 5, 2) := by decide +kernel
theorem dX1_greatestMiss_29 : decode cX1_greatestMiss 29 = .ok (.lload 5, 2) := by decide +kernel
theorem dX1_greatestMiss_31 : decode cX1_greatestMiss 31 = .ok (.lload_n 3, 1) := by decide +kernel
theorem dX1_greatestMiss_32 : decode cX1_greatestMiss 32 = .ok (.lcmp, 1) := by decide +kernel
theorem dX1_greatestMiss_33 : decode cX1_greatestMiss 33 = .ok (.ifCond .le 10, 3) := by decide +kernel
theorem dX1_greatestMiss_36 : decode cX1_greatestMiss 36 = .ok (.lload 5, 2) := by decide +kernel
theorem dX1_greatestMiss_38 : decode cX1_greatestMiss 38 = .ok (.lstore_n 3, 1) := by decide +kernel
theorem dX1_greatestMiss_39 : decode cX1_greatestMiss 39 = .ok (.aload_n 0, 1) := by decide +kernel
theorem dX1_greatestMiss_40 : decode cX1_greatestMiss 40 = .ok (.invokevirtual 127, 3) := by decide +kernel
theorem dX1_greatestMiss_43 : decode cX1_greatestMiss 43 = .ok (.aload_n 0, 1) := by decide +kernel
theorem dX1_greatestMiss_44 : decode cX1_greatestMiss 44 = .ok (.invokevirtual 130, 3) := by decide +kernel
theorem dX1_greatestMiss_47 : decode cX1_greatestMiss 47 = .ok (.iinc 2 (-1), 3) := by decide +kernel
theorem dX1_greatestMiss_50 : decode cX1_greatestMiss 50 = .ok (.goto (-37), 3) := by decide +kernel
theorem dX1_greatestMiss_53 : decode cX1_greatestMiss 53 = .ok (.lload_n 3, 1) := by decide +kernel
theorem dX1_greatestMiss_54 : decode cX1_greatestMiss 54 = .ok (.lreturn, 1) := by decide +kernel
theorem dX1_rowsAbove_0 : decode cX1_rowsAbove 0 = .ok (.aload_n 0, 1) := by decide +kernel
theorem dX1_rowsAbove_1 : decode cX1_rowsAbove 1 = .ok (.invokevirtual 114, 3) := by decide +kernel
theorem dX1_rowsAbove_4 : decode cX1_rowsAbove 4 = .ok (.istore 4, 2) := by decide +kernel
theorem dX1_rowsAbove_6 : decode cX1_rowsAbove 6 = .ok (.iconst 0, 1) := by decide +kernel
theorem dX1_rowsAbove_7 : decode cX1_rowsAbove 7 = .ok (.istore 5, 2) := by decide +kernel
theorem dX1_rowsAbove_9 : decode cX1_rowsAbove 9 = .ok (.aload_n 0, 1) := by decide +kernel
theorem dX1_rowsAbove_10 : decode cX1_rowsAbove 10 = .ok (.invokevirtual 120, 3) := by decide +kernel
theorem dX1_rowsAbove_13 : decode cX1_rowsAbove 13 = .ok (.iload 4, 2) := by decide +kernel
theorem dX1_rowsAbove_15 : decode cX1_rowsAbove 15 = .ok (.ifCond .le 31, 3) := by decide +kernel
theorem dX1_rowsAbove_18 : decode cX1_rowsAbove 18 = .ok (.aload_n 0, 1) := by decide +kernel
theorem dX1_rowsAbove_19 : decode cX1_rowsAbove 19 = .ok (.iload_n 1, 1) := by decide +kernel
theorem dX1_rowsAbove_20 : decode cX1_rowsAbove 20 = .ok (.invokevirtual 41, 3) := by decide +kernel
theorem dX1_rowsAbove_23 : decode cX1_rowsAbove 23 = .ok (.aload_n 0, 1) := by decide +kernel
theorem dX1_rowsAbove_24 : decode cX1_rowsAbove 24 = .ok (.iload_n 1, 1) := by decide +kernel
theorem dX1_rowsAbove_25 : decode cX1_rowsAbove 25 = .ok (.invokevirtual 123, 3) := by decide +kernel
theorem dX1_rowsAbove_28 : decode cX1_rowsAbove 28 = .ok (.lload_n 2, 1) := by decide +kernel
theorem dX1_rowsAbove_29 : decode cX1_rowsAbove 29 = .ok (.lcmp, 1) := by decide +kernel
theorem dX1_rowsAbove_30 : decode cX1_rowsAbove 30 = .ok (.ifCond .le 6, 3) := by decide +kernel
theorem dX1_rowsAbove_33 : decode cX1_rowsAbove 33 = .ok (.iinc 5 1, 3) := by decide +kernel
theorem dX1_rowsAbove_36 : decode cX1_rowsAbove 36 = .ok (.aload_n 0, 1) := by decide +kernel
theorem dX1_rowsAbove_37 : decode cX1_rowsAbove 37 = .ok (.invokevirtual 130, 3) := by decide +kernel
theorem dX1_rowsAbove_40 : decode cX1_rowsAbove 40 = .ok (.iinc 4 (-1), 3) := by decide +kernel
theorem dX1_rowsAbove_43 : decode cX1_rowsAbove 43 = .ok (.goto (-30), 3) := by decide +kernel
theorem dX1_rowsAbove_46 : decode cX1_rowsAbove 46 = .ok (.iload 5, 2) := by decide +kernel
theorem dX1_rowsAbove_48 : decode cX1_rowsAbove 48 = .ok (.ireturn, 1) := by decide +kernel
theorem dX1_toFirstRow_0 : decode cX1_toFirstRow 0 = .ok (.iconst 0, 1) := by decide +kernel
theorem dX1_toFirstRow_1 : decode cX1_toFirstRow 1 = .ok (.istore_n 1, 1) := by decide +kernel
theorem dX1_toFirstRow_2 : decode cX1_toFirstRow 2 = .ok (.iload_n 1, 1) := by decide +kernel
theorem dX1_toFirstRow_3 : decode cX1_toFirstRow 3 = .ok (.aload_n 0, 1) := by decide +kernel
theorem dX1_toFirstRow_4 : decode cX1_toFirstRow 4 = .ok (.getfield 9, 3) := by decide +kernel
theorem dX1_toFirstRow_7 : decode cX1_toFirstRow 7 = .ok (.getfield 100, 3) := by decide +kernel
theorem dX1_toFirstRow_10 : decode cX1_toFirstRow 10 = .ok (.if_icmp .ge 27, 3) := by decide +kernel
theorem dX1_toFirstRow_13 : decode cX1_toFirstRow 13 = .ok (.aload_n 0, 1) := by decide +kernel
theorem dX1_toFirstRow_14 : decode cX1_toFirstRow 14 = .ok (.getfield 15, 3) := by decide +kernel
theorem dX1_toFirstRow_17 : decode cX1_toFirstRow 17 = .ok (.iload_n 1, 1) := by decide +kernel
theorem dX1_toFirstRow_18 : decode cX1_toFirstRow 18 = .ok (.aload_n 0, 1) := by decide +kernel
theorem dX1_toFirstRow_19 : decode cX1_toFirstRow 19 = .ok (.getfield 9, 3) := by decide +kernel
theorem dX1_toFirstRow_22 : decode cX1_toFirstRow 22 = .ok (.getfield 29, 3) := by decide +kernel
theorem dX1_toFirstRow_25 : decode cX1_toFirstRow 25 = .ok (.iload_n 1, 1) := by decide +kernel
theorem dX1_toFirstRow_26 : decode cX1_toFirstRow 26 = .ok (.aaload, 1) := by decide +kernel
theorem dX1_toFirstRow_27 : decode cX1_toFirstRow 27 = .ok (.getfield 65, 3) := by decide +kernel
theorem dX1_toFirstRow_30 : decode cX1_toFirstRow 30 = .ok (.iastore, 1) := by decide +kernel
theorem dX1_toFirstRow_31 : decode cX1_toFirstRow 31 = .ok (.iinc 1 1, 3) := by decide +kernel
theorem dX1_toFirstRow_34 : decode cX1_toFirstRow 34 = .ok (.goto (-32), 3) := by decide +kernel
theorem dX1_toFirstRow_37 : decode cX1_toFirstRow 37 = .ok (.return_, 1) := by decide +kernel
theorem dX1_toNextRow_0 : decode cX1_toNextRow 0 = .ok (.aload_n 0, 1) := by decide +kernel
theorem dX1_toNextRow_1 : decode cX1_toNextRow 1 = .ok (.getfield 9, 3) := by decide +kernel
theorem dX1_toNextRow_4 : decode cX1_toNextRow 4 = .ok (.getfield 100, 3) := by decide +kernel
theorem dX1_toNextRow_7 : decode cX1_toNextRow 7 = .ok (.iconst 1, 1) := by decide +kernel
theorem dX1_toNextRow_8 : decode cX1_toNextRow 8 = .ok (.isub, 1) := by decide +kernel
theorem dX1_toNextRow_9 : decode cX1_toNextRow 9 = .ok (.istore_n 1, 1) := by decide +kernel
theorem dX1_toNextRow_10 : decode cX1_toNextRow 10 = .ok (.iload_n 1, 1) := by decide +kernel
theorem dX1_toNextRow_11 : decode cX1_toNextRow 11 = .ok (.ifCond .lt 64, 3) := by decide +kernel
theorem dX1_toNextRow_14 : decode cX1_toNextRow 14 = .ok (.aload_n 0, 1) := by decide +kernel
theorem dX1_toNextRow_15 : decode cX1_toNextRow 15 = .ok (.getfield 9, 3) := by decide +kernel
theorem dX1_toNextRow_18 : decode cX1_toNextRow 18 = .ok (.getfield 29, 3) := by decide +kernel
theorem dX1_toNextRow_21 : decode cX1_toNextRow 21 = .ok (.iload_n 1, 1) := by decide +kernel
theorem dX1_toNextRow_22 : decode cX1_toNextRow 22 = .ok (.aaload, 1) := by decide +kernel
theorem dX1_toNextRow_23 : decode cX1_toNextRow 23 = .ok (.astore_n 2, 1) := by decide +kernel
theorem dX1_toNextRow_24 : decode cX1_toNextRow 24 = .ok (.aload_n 2, 1) := by decide +kernel
theorem dX1_toNextRow_25 : decode cX1_toNextRow 25 = .ok (.getfield 55, 3) := by decide +kernel
theorem dX1_toNextRow_28 : decode cX1_toNextRow 28 = .ok (.ifCond .ne 41, 3) := by decide +kernel
theorem dX1_toNextRow_31 : decode cX1_toNextRow 31 = .ok (.aload_n 0, 1) := by decide +kernel
theorem dX1_toNextRow_32 : decode cX1_toNextRow 32 = .ok (.getfield 15, 3) := by decide +kernel
theorem dX1_toNextRow_35 : decode cX1_toNextRow 35 = .ok (.iload_n 1, 1) := by decide +kernel
theorem dX1_toNextRow_36 : decode cX1_toNextRow 36 = .ok (.iaload, 1) := by decide +kernel
theorem dX1_toNextRow_37 : decode cX1_toNextRow 37 = .ok (.i2l, 1) := by decide +kernel
theorem dX1_toNextRow_38 : decode cX1_toNextRow 38 = .ok (.aload_n 2, 1) := by decide +kernel
theorem dX1_toNextRow_39 : decode cX1_toNextRow 39 = .ok (.getfield 105, 3) := by decide +kernel
theorem dX1_toNextRow_42 : decode cX1_toNextRow 42 = .ok (.lcmp, 1) := by decide +kernel
theorem dX1_toNextRow_43 : decode cX1_toNextRow 43 = .ok (.ifCond .ge 16, 3) := by decide +kernel
theorem dX1_toNextRow_46 : decode cX1_toNextRow 46 = .ok (.aload_n 0, 1) := by decide +kernel
theorem dX1_toNextRow_47 : decode cX1_toNextRow 47 = .ok (.getfield 15, 3) := by decide +kernel
theorem dX1_toNextRow_50 : decode cX1_toNextRow 50 = .ok (.iload_n 1, 1) := by decide +kernel
theorem dX1_toNextRow_51 : decode cX1_toNextRow 51 = .ok (.dup2, 1) := by decide +kernel
theorem dX1_toNextRow_52 : decode cX1_toNextRow 52 = .ok (.iaload, 1) := by decide +kernel
theorem dX1_toNextRow_53 : decode cX1_toNextRow 53 = .ok (.sipush 4096, 3) := by decide +kernel
theorem dX1_toNextRow_56 : decode cX1_toNextRow 56 = .ok (.iadd, 1) := by decide +kernel
theorem dX1_toNextRow_57 : decode cX1_toNextRow 57 = .ok (.iastore, 1) := by decide +kernel
theorem dX1_toNextRow_58 : decode cX1_toNextRow 58 = .ok (.return_, 1) := by decide +kernel
theorem dX1_toNextRow_59 : decode cX1_toNextRow 59 = .ok (.aload_n 0, 1) := by decide +kernel
theorem dX1_toNextRow_60 : decode cX1_toNextRow 60 = .ok (.getfield 15, 3) := by decide +kernel
theorem dX1_toNextRow_63 : decode cX1_toNextRow 63 = .ok (.iload_n 1, 1) := by decide +kernel
theorem dX1_toNextRow_64 : decode cX1_toNextRow 64 = .ok (.aload_n 2, 1) := by decide +kernel
theorem dX1_toNextRow_65 : decode cX1_toNextRow 65 = .ok (.getfield 65, 3) := by decide +kernel
theorem dX1_toNextRow_68 : decode cX1_toNextRow 68 = .ok (.iastore, 1) := by decide +kernel
theorem dX1_toNextRow_69 : decode cX1_toNextRow 69 = .ok (.iinc 1 (-1), 3) := by decide +kernel
theorem dX1_toNextRow_72 : decode cX1_toNextRow 72 = .ok (.goto (-62), 3) := by decide +kernel
theorem dX1_toNextRow_75 : decode cX1_toNextRow 75 = .ok (.return_, 1) := by decide +kernel
theorem dX1_keepRow_0 : decode cX1_keepRow 0 = .ok (.iconst 0, 1) := by decide +kernel
theorem dX1_keepRow_1 : decode cX1_keepRow 1 = .ok (.istore_n 1, 1) := by decide +kernel
theorem dX1_keepRow_2 : decode cX1_keepRow 2 = .ok (.iload_n 1, 1) := by decide +kernel
theorem dX1_keepRow_3 : decode cX1_keepRow 3 = .ok (.bipush 16, 2) := by decide +kernel
theorem dX1_keepRow_5 : decode cX1_keepRow 5 = .ok (.if_icmp .ge 37, 3) := by decide +kernel
theorem dX1_keepRow_8 : decode cX1_keepRow 8 = .ok (.aload_n 0, 1) := by decide +kernel
theorem dX1_keepRow_9 : decode cX1_keepRow 9 = .ok (.getfield 26, 3) := by decide +kernel
theorem dX1_keepRow_12 : decode cX1_keepRow 12 = .ok (.iload_n 1, 1) := by decide +kernel
theorem dX1_keepRow_13 : decode cX1_keepRow 13 = .ok (.aload_n 0, 1) := by decide +kernel
theorem dX1_keepRow_14 : decode cX1_keepRow 14 = .ok (.getfield 9, 3) := by decide +kernel
theorem dX1_keepRow_17 : decode cX1_keepRow 17 = .ok (.iload_n 1, 1) := by decide +kernel
theorem dX1_keepRow_18 : decode cX1_keepRow 18 = .ok (.invokevirtual 133, 3) := by decide +kernel
theorem dX1_keepRow_21 : decode cX1_keepRow 21 = .ok (.ifCond .eq 12, 3) := by decide +kernel
theorem dX1_keepRow_24 : decode cX1_keepRow 24 = .ok (.aload_n 0, 1) := by decide +kernel
theorem dX1_keepRow_25 : decode cX1_keepRow 25 = .ok (.getfield 15, 3) := by decide +kernel
theorem dX1_keepRow_28 : decode cX1_keepRow 28 = .ok (.iload_n 1, 1) := by decide +kernel
theorem dX1_keepRow_29 : decode cX1_keepRow 29 = .ok (.iaload, 1) := by decide +kernel
theorem dX1_keepRow_30 : decode cX1_keepRow 30 = .ok (.goto 5, 3) := by decide +kernel
theorem dX1_keepRow_33 : decode cX1_keepRow 33 = .ok (.bipush (-2), 2) := by decide +kernel
theorem dX1_keepRow_35 : decode cX1_keepRow 35 = .ok (.iastore, 1) := by decide +kernel
theorem dX1_keepRow_36 : decode cX1_keepRow 36 = .ok (.iinc 1 1, 3) := by decide +kernel
theorem dX1_keepRow_39 : decode cX1_keepRow 39 = .ok (.goto (-37), 3) := by decide +kernel
theorem dX1_keepRow_42 : decode cX1_keepRow 42 = .ok (.return_, 1) := by decide +kernel
theorem dX2_init_0 : decode cX2_init 0 = .ok (.aload_n 0, 1) := by decide +kernel
theorem dX2_init_1 : decode cX2_init 1 = .ok (.invokespecial 3, 3) := by decide +kernel
theorem dX2_init_4 : decode cX2_init 4 = .ok (.return_, 1) := by decide +kernel
theorem dX2_isGiven_0 : decode cX2_isGiven 0 = .ok (.aload_n 0, 1) := by decide +kernel
theorem dX2_isGiven_1 : decode cX2_isGiven 1 = .ok (.getfield 9, 3) := by decide +kernel
theorem dX2_isGiven_4 : decode cX2_isGiven 4 = .ok (.ifCond .eq 11, 3) := by decide +kernel
theorem dX2_isGiven_7 : decode cX2_isGiven 7 = .ok (.aload_n 0, 1) := by decide +kernel
theorem dX2_isGiven_8 : decode cX2_isGiven 8 = .ok (.getfield 9, 3) := by decide +kernel
theorem dX2_isGiven_11 : decode cX2_isGiven 11 = .ok (.iconst 1, 1) := by decide +kernel
theorem dX2_isGiven_12 : decode cX2_isGiven 12 = .ok (.if_icmp .ne 7, 3) := by decide +kernel
theorem dX2_isGiven_15 : decode cX2_isGiven 15 = .ok (.iconst 1, 1) := by decide +kernel
theorem dX2_isGiven_16 : decode cX2_isGiven 16 = .ok (.goto 4, 3) := by decide +kernel
theorem dX2_isGiven_19 : decode cX2_isGiven 19 = .ok (.iconst 0, 1) := by decide +kernel
theorem dX2_isGiven_20 : decode cX2_isGiven 20 = .ok (.ireturn, 1) := by decide +kernel
theorem dX2_begin_0 : decode cX2_begin 0 = .ok (.aload_n 0, 1) := by decide +kernel
theorem dX2_begin_1 : decode cX2_begin 1 = .ok (.iload_n 1, 1) := by decide +kernel
theorem dX2_begin_2 : decode cX2_begin 2 = .ok (.putfield 9, 3) := by decide +kernel
theorem dX2_begin_5 : decode cX2_begin 5 = .ok (.aload_n 0, 1) := by decide +kernel
theorem dX2_begin_6 : decode cX2_begin 6 = .ok (.iload_n 2, 1) := by decide +kernel
theorem dX2_begin_7 : decode cX2_begin 7 = .ok (.putfield 15, 3) := by decide +kernel
theorem dX2_begin_10 : decode cX2_begin 10 = .ok (.aload_n 0, 1) := by decide +kernel
theorem dX2_begin_11 : decode cX2_begin 11 = .ok (.iload_n 3, 1) := by decide +kernel
theorem dX2_begin_12 : decode cX2_begin 12 = .ok (.putfield 18, 3) := by decide +kernel
theorem dX2_begin_15 : decode cX2_begin 15 = .ok (.aload_n 0, 1) := by decide +kernel
theorem dX2_begin_16 : decode cX2_begin 16 = .ok (.iconst 1, 1) := by decide +kernel
theorem dX2_begin_17 : decode cX2_begin 17 = .ok (.putfield 21, 3) := by decide +kernel
theorem dX2_begin_20 : decode cX2_begin 20 = .ok (.aload_n 0, 1) := by decide +kernel
theorem dX2_begin_21 : decode cX2_begin 21 = .ok (.bipush 16, 2) := by decide +kernel
theorem dX2_begin_23 : decode cX2_begin 23 = .ok (.putfield 24, 3) := by decide +kernel
theorem dX2_begin_26 : decode cX2_begin 26 = .ok (.aload_n 0, 1) := by decide +kernel
theorem dX2_begin_27 : decode cX2_begin 27 = .ok (.iconst 0, 1) := by decide +kernel
theorem dX2_begin_28 : decode cX2_begin 28 = .ok (.putfield 27, 3) := by decide +kernel
theorem dX2_begin_31 : decode cX2_begin 31 = .ok (.aload_n 0, 1) := by decide +kernel
theorem dX2_begin_32 : decode cX2_begin 32 = .ok (.iconst 1, 1) := by decide +kernel
theorem dX2_begin_33 : decode cX2_begin 33 = .ok (.putfield 30, 3) := by decide +kernel
theorem dX2_begin_36 : decode cX2_begin 36 = .ok (.aload_n 0, 1) := by decide +kernel
theorem dX2_begin_37 : decode cX2_begin 37 = .ok (.iconst 0, 1) := by decide +kernel
theorem dX2_begin_38 : decode cX2_begin 38 = .ok (.putfield 33, 3) := by decide +kernel
theorem dX2_begin_41 : decode cX2_begin 41 = .ok (.return_, 1) := by decide +kernel
theorem dX2_spanGiven_0 : decode cX2_spanGiven 0 = .ok (.aload_n 0, 1) := by decide +kernel
theorem dX2_spanGiven_1 : decode cX2_spanGiven 1 = .ok (.aload_n 0, 1) := by decide +kernel
theorem dX2_spanGiven_2 : decode cX2_spanGiven 2 = .ok (.getfield 15, 3) := by decide +kernel
theorem dX2_spanGiven_5 : decode cX2_spanGiven 5 = .ok (.i2l, 1) := by decide +kernel
theorem dX2_spanGiven_6 : decode cX2_spanGiven 6 = .ok (.putfield 36, 3) := by decide +kernel
theorem dX2_spanGiven_9 : decode cX2_spanGiven 9 = .ok (.aload_n 0, 1) := by decide +kernel
theorem dX2_spanGiven_10 : decode cX2_spanGiven 10 = .ok (.aload_n 0, 1) := by decide +kernel
theorem dX2_spanGiven_11 : decode cX2_spanGiven 11 = .ok (.getfield 9, 3) := by decide +kernel
theorem dX2_spanGiven_14 : decode cX2_spanGiven 14 = .ok (.ifCond .ne 11, 3) := by decide +kernel
theorem dX2_spanGiven_17 : decode cX2_spanGiven 17 = .ok (.aload_n 0, 1) := by decide +kernel
theorem dX2_spanGiven_18 : decode cX2_spanGiven 18 = .ok (.getfield 18, 3) := by decide +kernel
theorem dX2_spanGiven_21 : decode cX2_spanGiven 21 = .ok (.i2l, 1) := by decide +kernel
theorem dX2_spanGiven_22 : decode cX2_spanGiven 22 = .ok (.goto 8, 3) := by decide +kernel
theorem dX2_spanGiven_25 : decode cX2_spanGiven 25 = .ok (.aload_n 0, 1) := by decide +kernel
theorem dX2_spanGiven_26 : decode cX2_spanGiven 26 = .ok (.getfield 15, 3) := by decide +kernel
theorem dX2_spanGiven_29 : decode cX2_spanGiven 29 = .ok (.i2l, 1) := by decide +kernel
theorem dX2_spanGiven_30 : decode cX2_spanGiven 30 = .ok (.putfield 40, 3) := by decide +kernel
theorem dX2_spanGiven_33 : decode cX2_spanGiven 33 = .ok (.aload_n 0, 1) := by decide +kernel
theorem dX2_spanGiven_34 : decode cX2_spanGiven 34 = .ok (.aload_n 0, 1) := by decide +kernel
theorem dX2_spanGiven_35 : decode cX2_spanGiven 35 = .ok (.getfield 36, 3) := by decide +kernel
theorem dX2_spanGiven_38 : decode cX2_spanGiven 38 = .ok (.invokestatic 43, 3) := by decide +kernel
theorem dX2_spanGiven_41 : decode cX2_spanGiven 41 = .ok (.aload_n 0, 1) := by decide +kernel
theorem dX2_spanGiven_42 : decode cX2_spanGiven 42 = .ok (.getfield 40, 3) := by decide +kernel
theorem dX2_spanGiven_45 : decode cX2_spanGiven 45 = .ok (.invokestatic 43, 3) := by decide +kernel
theorem dX2_spanGiven_48 : decode cX2_spanGiven 48 = .ok (.invokestatic 49, 3) := by decide +kernel
theorem dX2_spanGiven_51 : decode cX2_spanGiven 51 = .ok (.putfield 53, 3) := by decide +kernel
theorem dX2_spanGiven_54 : decode cX2_spanGiven 54 = .ok (.aload_n 0, 1) := by decide +kernel
theorem dX2_spanGiven_55 : decode cX2_spanGiven 55 = .ok (.aload_n 0, 1) := by decide +kernel
theorem dX2_spanGiven_56 : decode cX2_spanGiven 56 = .ok (.getfield 15, 3) := by decide +kernel
theorem dX2_spanGiven_59 : decode cX2_spanGiven 59 = .ok (.putfield 33, 3) := by decide +kernel
theorem dX2_spanGiven_62 : decode cX2_spanGiven 62 = .ok (.return_, 1) := by decide +kernel
theorem dX2_spanWorked_0 : decode cX2_spanWorked 0 = .ok (.aload_n 0, 1) := by decide +kernel
theorem dX2_spanWorked_1 : decode cX2_spanWorked 1 = .ok (.aload_n 0, 1) := by decide +kernel
theorem dX2_spanWorked_2 : decode cX2_spanWorked 2 = .ok (.getfield 9, 3) := by decide +kernel
theorem dX2_spanWorked_5 : decode cX2_spanWorked 5 = .ok (.iconst 4, 1) := by decide +kernel
theorem dX2_spanWorked_6 : decode cX2_spanWorked 6 = .ok (.if_icmp .ne 15, 3) := by decide +kernel
theorem dX2_spanWorked_9 : decode cX2_spanWorked 9 = .ok (.aload_n 1, 1) := by decide +kernel
theorem dX2_spanWorked_10 : decode cX2_spanWorked 10 = .ok (.getfield 21, 3) := by decide +kernel
theorem dX2_spanWorked_13 : decode cX2_spanWorked 13 = .ok (.aload_n 2, 1) := by decide +kernel
theorem dX2_spanWorked_14 : decode cX2_spanWorked 14 = .ok (.getfield 21, 3) := by decide +kernel
theorem dX2_spanWorked_17 : decode cX2_spanWorked 17 = .ok (.iadd, 1) := by decide +kernel
theorem dX2_spanWorked_18 : decode cX2_spanWorked 18 = .ok (.goto 14, 3) := by decide +kernel
theorem dX2_spanWorked_21 : decode cX2_spanWorked 21 = .ok (.aload_n 1, 1) := by decide +kernel
theorem dX2_spanWorked_22 : decode cX2_spanWorked 22 = .ok (.getfield 21, 3) := by decide +kernel
theorem dX2_spanWorked_25 : decode cX2_spanWorked 25 = .ok (.aload_n 2, 1) := by decide +kernel
theorem dX2_spanWorked_26 : decode cX2_spanWorked 26 = .ok (.getfield 21, 3) := by decide +kernel
theorem dX2_spanWorked_29 : decode cX2_spanWorked 29 = .ok (.invokestatic 56, 3) := by decide +kernel
theorem dX2_spanWorked_32 : decode cX2_spanWorked 32 = .ok (.putfield 21, 3) := by decide +kernel
theorem dX2_spanWorked_35 : decode cX2_spanWorked 35 = .ok (.aload_n 0, 1) := by decide +kernel
theorem dX2_spanWorked_36 : decode cX2_spanWorked 36 = .ok (.getfield 9, 3) := by decide +kernel
theorem dX2_spanWorked_39 : decode cX2_spanWorked 39 = .ok (.tableswitch 75 3 6 #[29, 58, 75, 67], 29) := by decide +kernel
theorem dX2_spanWorked_68 : decode cX2_spanWorked 68 = .ok (.aload_n 0, 1) := by decide +kernel
theorem dX2_spanWorked_69 : decode cX2_spanWorked 69 = .ok (.aload_n 1, 1) := by decide +kernel
theorem dX2_spanWorked_70 : decode cX2_spanWorked 70 = .ok (.getfield 36, 3) := by decide +kernel
theorem dX2_spanWorked_73 : decode cX2_spanWorked 73 = .ok (.aload_n 2, 1) := by decide +kernel
theorem dX2_spanWorked_74 : decode cX2_spanWorked 74 = .ok (.getfield 40, 3) := by decide +kernel
theorem dX2_spanWorked_77 : decode cX2_spanWorked 77 = .ok (.lsub, 1) := by decide +kernel
theorem dX2_spanWorked_78 : decode cX2_spanWorked 78 = .ok (.putfield 36, 3) := by decide +kernel
theorem dX2_spanWorked_81 : decode cX2_spanWorked 81 = .ok (.aload_n 0, 1) := by decide +kernel
theorem dX2_spanWorked_82 : decode cX2_spanWorked 82 = .ok (.aload_n 1, 1) := by decide +kernel
theorem dX2_spanWorked_83 : decode cX2_spanWorked 83 = .ok (.getfield 40, 3) := by decide +kernel
theorem dX2_spanWorked_86 : decode cX2_spanWorked 86 = .ok (.aload_n 2, 1) := by decide +kernel
theorem dX2_spanWorked_87 : decode cX2_spanWorked 87 = .ok (.getfield 36, 3) := by decide +kernel
theorem dX2_spanWorked_90 : decode cX2_spanWorked 90 = .ok (.lsub, 1) := by decide +kernel
theorem dX2_spanWorked_91 : decode cX2_spanWorked 91 = .ok (.putfield 40, 3) := by decide +kernel
theorem dX2_spanWorked_94 : decode cX2_spanWorked 94 = .ok (.goto 58, 3) := by decide +kernel
theorem dX2_spanWorked_97 : decode cX2_spanWorked 97 = .ok (.aload_n 0, 1) := by decide +kernel
theorem dX2_spanWorked_98 : decode cX2_spanWorked 98 = .ok (.aload_n 1, 1) := by decide +kernel
theorem dX2_spanWorked_99 : decode cX2_spanWorked 99 = .ok (.aload_n 2, 1) := by decide +kernel
theorem dX2_spanWorked_100 : decode cX2_spanWorked 100 = .ok (.invokevirtual 59, 3) := by decide +kernel
theorem dX2_spanWorked_103 : decode cX2_spanWorked 103 = .ok (.goto 49, 3) := by decide +kernel
theorem dX2_spanWorked_106 : decode cX2_spanWorked 106 = .ok (.aload_n 0, 1) := by decide +kernel
theorem dX2_spanWorked_107 : decode cX2_spanWorked 107 = .ok (.aload_n 1, 1) := by decide +kernel
theorem dX2_spanWorked_108 : decode cX2_spanWorked 108 = .ok (.invokevirtual 63, 3) := by decide +kernel
theorem dX2_spanWorked_111 : decode cX2_spanWorked 111 = .ok (.goto 41, 3) := by decide +kernel
theorem dX2_spanWorked_114 : decode cX2_spanWorked 114 = .ok (.aload_n 0, 1) := by decide +kernel
theorem dX2_spanWorked_115 : decode cX2_spanWorked 115 = .ok (.aload_n 0, 1) := by decide +kernel
theorem dX2_spanWorked_116 : decode cX2_spanWorked 116 = .ok (.getfield 9, 3) := by decide +kernel
theorem dX2_spanWorked_119 : decode cX2_spanWorked 119 = .ok (.aload_n 1, 1) := by decide +kernel
theorem dX2_spanWorked_120 : decode cX2_spanWorked 120 = .ok (.getfield 36, 3) := by decide +kernel
theorem dX2_spanWorked_123 : decode cX2_spanWorked 123 = .ok (.aload_n 2, 1) := by decide +kernel
theorem dX2_spanWorked_124 : decode cX2_spanWorked 124 = .ok (.getfield 36, 3) := by decide +kernel
theorem dX2_spanWorked_127 : decode cX2_spanWorked 127 = .ok (.invokestatic 67, 3) := by decide +kernel
theorem dX2_spanWorked_130 : decode cX2_spanWorked 130 = .ok (.putfield 36, 3) := by decide +kernel
theorem dX2_spanWorked_133 : decode cX2_spanWorked 133 = .ok (.aload_n 0, 1) := by decide +kernel
theorem dX2_spanWorked_134 : decode cX2_spanWorked 134 = .ok (.aload_n 0, 1) := by decide +kernel
theorem dX2_spanWorked_135 : decode cX2_spanWorked 135 = .ok (.getfield 9, 3) := by decide +kernel
theorem dX2_spanWorked_138 : decode cX2_spanWorked 138 = .ok (.aload_n 1, 1) := by decide +kernel
theorem dX2_spanWorked_139 : decode cX2_spanWorked 139 = .ok (.getfield 40, 3) := by decide +kernel
theorem dX2_spanWorked_142 : decode cX2_spanWorked 142 = .ok (.aload_n 2, 1) := by decide +kernel
theorem dX2_spanWorked_143 : decode cX2_spanWorked 143 = .ok (.getfield 40, 3) := by decide +kernel
theorem dX2_spanWorked_146 : decode cX2_spanWorked 146 = .ok (.invokestatic 67, 3) := by decide +kernel
theorem dX2_spanWorked_149 : decode cX2_spanWorked 149 = .ok (.putfield 40, 3) := by decide +kernel
theorem dX2_spanWorked_152 : decode cX2_spanWorked 152 = .ok (.aload_n 0, 1) := by decide +kernel
theorem dX2_spanWorked_153 : decode cX2_spanWorked 153 = .ok (.aload_n 0, 1) := by decide +kernel
theorem dX2_spanWorked_154 : decode cX2_spanWorked 154 = .ok (.getfield 36, 3) := by decide +kernel
theorem dX2_spanWorked_157 : decode cX2_spanWorked 157 = .ok (.invokestatic 43, 3) := by decide +kernel
theorem dX2_spanWorked_160 : decode cX2_spanWorked 160 = .ok (.aload_n 0, 1) := by decide +kernel
theorem dX2_spanWorked_161 : decode cX2_spanWorked 161 = .ok (.getfield 40, 3) := by decide +kernel
theorem dX2_spanWorked_164 : decode cX2_spanWorked 164 = .ok (.invokestatic 43, 3) := by decide +kernel
theorem dX2_spanWorked_167 : decode cX2_spanWorked 167 = .ok (.invokestatic 49, 3) := by decide +kernel
theorem dX2_spanWorked_170 : decode cX2_spanWorked 170 = .ok (.putfield 53, 3) := by decide +kernel
theorem dX2_spanWorked_173 : decode cX2_spanWorked 173 = .ok (.return_, 1) := by decide +kernel
theorem dX2_spanProduct_0 : decode cX2_spanProduct 0 = .ok (.aload_n 1, 1) := by decide +kernel
theorem dX2_spanProduct_1 : decode cX2_spanProduct 1 = .ok (.getfield 36, 3) := by decide +kernel
theorem dX2_spanProduct_4 : decode cX2_spanProduct 4 = .ok (.aload_n 2, 1) := by decide +kernel
theorem dX2_spanProduct_5 : decode cX2_spanProduct 5 = .ok (.getfield 36, 3) := by decide +kernel
theorem dX2_spanProduct_8 : decode cX2_spanProduct 8 = .ok (.lmul, 1) := by decide +kernel
theorem dX2_spanProduct_9 : decode cX2_spanProduct 9 = .ok (.lstore_n 3, 1) := by decide +kernel
theorem dX2_spanProduct_10 : decode cX2_spanProduct 10 = .ok (.aload_n 1, 1) := by decide +kernel
theorem dX2_spanProduct_11 : decode cX2_spanProduct 11 = .ok (.getfield 36, 3) := by decide +kernel
theorem dX2_spanProduct_14 : decode cX2_spanProduct 14 = .ok (.aload_n 2, 1) := by decide +kernel
theorem dX2_spanProduct_15 : decode cX2_spanProduct 15 = .ok (.getfield 40, 3) := by decide +kernel
theorem dX2_spanProduct_18 : decode cX2_spanProduct 18 = .ok (.lmul, 1) := by decide +kernel
theorem dX2_spanProduct_19 : decode cX2_spanProduct 19 = .ok (.lstore 5, 2) := by decide +kernel
theorem dX2_spanProduct_21 : decode cX2_spanProduct 21 = .ok (.aload_n 1, 1) := by decide +kernel
theorem dX2_spanProduct_22 : decode cX2_spanProduct 22 = .ok (.getfield 40, 3) := by decide +kernel
theorem dX2_spanProduct_25 : decode cX2_spanProduct 25 = .ok (.aload_n 2, 1) := by decide +kernel
theorem dX2_spanProduct_26 : decode cX2_spanProduct 26 = .ok (.getfield 36, 3) := by decide +kernel
theorem dX2_spanProduct_29 : decode cX2_spanProduct 29 = .ok (.lmul, 1) := by decide +kernel
theorem dX2_spanProduct_30 : decode cX2_spanProduct 30 = .ok (.lstore 7, 2) := by decide +kernel
theorem dX2_spanProduct_32 : decode cX2_spanProduct 32 = .ok (.aload_n 1, 1) := by decide +kernel
theorem dX2_spanProduct_33 : decode cX2_spanProduct 33 = .ok (.getfield 40, 3) := by decide +kernel
theorem dX2_spanProduct_36 : decode cX2_spanProduct 36 = .ok (.aload_n 2, 1) := by decide +kernel
theorem dX2_spanProduct_37 : decode cX2_spanProduct 37 = .ok (.getfield 40, 3) := by decide +kernel
theorem dX2_spanProduct_40 : decode cX2_spanProduct 40 = .ok (.lmul, 1) := by decide +kernel
theorem dX2_spanProduct_41 : decode cX2_spanProduct 41 = .ok (.lstore 9, 2) := by decide +kernel
theorem dX2_spanProduct_43 : decode cX2_spanProduct 43 = .ok (.aload_n 0, 1) := by decide +kernel
theorem dX2_spanProduct_44 : decode cX2_spanProduct 44 = .ok (.lload_n 3, 1) := by decide +kernel
theorem dX2_spanProduct_45 : decode cX2_spanProduct 45 = .ok (.lload 5, 2) := by decide +kernel
theorem dX2_spanProduct_47 : decode cX2_spanProduct 47 = .ok (.invokestatic 71, 3) := by decide +kernel
theorem dX2_spanProduct_50 : decode cX2_spanProduct 50 = .ok (.lload 7, 2) := by decide +kernel
theorem dX2_spanProduct_52 : decode cX2_spanProduct 52 = .ok (.lload 9, 2) := by decide +kernel
theorem dX2_spanProduct_54 : decode cX2_spanProduct 54 = .ok (.invokestatic 71, 3) := by decide +kernel
theorem dX2_spanProduct_57 : decode cX2_spanProduct 57 = .ok (.invokestatic 71, 3) := by decide +kernel
theorem dX2_spanProduct_60 : decode cX2_spanProduct 60 = .ok (.bipush 16, 2) := by decide +kernel
theorem dX2_spanProduct_62 : decode cX2_spanProduct 62 = .ok (.lshr, 1) := by decide +kernel
theorem dX2_spanProduct_63 : decode cX2_spanProduct 63 = .ok (.putfield 36, 3) := by decide +kernel
theorem dX2_spanProduct_66 : decode cX2_spanProduct 66 = .ok (.aload_n 0, 1) := by decide +kernel
theorem dX2_spanProduct_67 : decode cX2_spanProduct 67 = .ok (.lload_n 3, 1) := by decide +kernel
theorem dX2_spanProduct_68 : decode cX2_spanProduct 68 = .ok (.lload 5, 2) := by decide +kernel
theorem dX2_spanProduct_70 : decode cX2_spanProduct 70 = .ok (.invokestatic 49, 3) := by decide +kernel
theorem dX2_spanProduct_73 : decode cX2_spanProduct 73 = .ok (.lload 7, 2) := by decide +kernel
theorem dX2_spanProduct_75 : decode cX2_spanProduct 75 = .ok (.lload 9, 2) := by decide +kernel
theorem dX2_spanProduct_77 : decode cX2_spanProduct 77 = .ok (.invokestatic 49, 3) := by decide +kernel
theorem dX2_spanProduct_80 : decode cX2_spanProduct 80 = .ok (.invokestatic 49, 3) := by decide +kernel
theorem dX2_spanProduct_83 : decode cX2_spanProduct 83 = .ok (.bipush 16, 2) := by decide +kernel
theorem dX2_spanProduct_85 : decode cX2_spanProduct 85 = .ok (.lshr, 1) := by decide +kernel
theorem dX2_spanProduct_86 : decode cX2_spanProduct 86 = .ok (.putfield 40, 3) := by decide +kernel
theorem dX2_spanProduct_89 : decode cX2_spanProduct 89 = .ok (.return_, 1) := by decide +kernel
theorem dX2_spanAmount_0 : decode cX2_spanAmount 0 = .ok (.aload_n 1, 1) := by decide +kernel
theorem dX2_spanAmount_1 : decode cX2_spanAmount 1 = .ok (.getfield 36, 3) := by decide +kernel
theorem dX2_spanAmount_4 : decode cX2_spanAmount 4 = .ok (.lconst 0, 1) := by decide +kernel
theorem dX2_spanAmount_5 : decode cX2_spanAmount 5 = .ok (.lcmp, 1) := by decide +kernel
theorem dX2_spanAmount_6 : decode cX2_spanAmount 6 = .ok (.ifCond .gt 16, 3) := by decide +kernel
theorem dX2_spanAmount_9 : decode cX2_spanAmount 9 = .ok (.aload_n 1, 1) := by decide +kernel
theorem dX2_spanAmount_10 : decode cX2_spanAmount 10 = .ok (.getfield 40, 3) := by decide +kernel
theorem dX2_spanAmount_13 : decode cX2_spanAmount 13 = .ok (.lconst 0, 1) := by decide +kernel
theorem dX2_spanAmount_14 : decode cX2_spanAmount 14 = .ok (.lcmp, 1) := by decide +kernel
theorem dX2_spanAmount_15 : decode cX2_spanAmount 15 = .ok (.ifCond .lt 7, 3) := by decide +kernel
theorem dX2_spanAmount_18 : decode cX2_spanAmount 18 = .ok (.iconst 1, 1) := by decide +kernel
theorem dX2_spanAmount_19 : decode cX2_spanAmount 19 = .ok (.goto 4, 3) := by decide +kernel
theorem dX2_spanAmount_22 : decode cX2_spanAmount 22 = .ok (.iconst 0, 1) := by decide +kernel
theorem dX2_spanAmount_23 : decode cX2_spanAmount 23 = .ok (.istore_n 2, 1) := by decide +kernel
theorem dX2_spanAmount_24 : decode cX2_spanAmount 24 = .ok (.aload_n 0, 1) := by decide +kernel
theorem dX2_spanAmount_25 : decode cX2_spanAmount 25 = .ok (.iload_n 2, 1) := by decide +kernel
theorem dX2_spanAmount_26 : decode cX2_spanAmount 26 = .ok (.ifCond .eq 7, 3) := by decide +kernel
theorem dX2_spanAmount_29 : decode cX2_spanAmount 29 = .ok (.lconst 0, 1) := by decide +kernel
theorem dX2_spanAmount_30 : decode cX2_spanAmount 30 = .ok (.goto 20, 3) := by decide +kernel
theorem dX2_spanAmount_33 : decode cX2_spanAmount 33 = .ok (.aload_n 1, 1) := by decide +kernel
theorem dX2_spanAmount_34 : decode cX2_spanAmount 34 = .ok (.getfield 36, 3) := by decide +kernel
theorem dX2_spanAmount_37 : decode cX2_spanAmount 37 = .ok (.invokestatic 43, 3) := by decide +kernel
theorem dX2_spanAmount_40 : decode cX2_spanAmount 40 = .ok (.aload_n 1, 1) := by decide +kernel
theorem dX2_spanAmount_41 : decode cX2_spanAmount 41 = .ok (.getfield 40, 3) := by decide +kernel
theorem dX2_spanAmount_44 : decode cX2_spanAmount 44 = .ok (.invokestatic 43, 3) := by decide +kernel
theorem dX2_spanAmount_47 : decode cX2_spanAmount 47 = .ok (.invokestatic 71, 3) := by decide +kernel
theorem dX2_spanAmount_50 : decode cX2_spanAmount 50 = .ok (.putfield 36, 3) := by decide +kernel
theorem dX2_spanAmount_53 : decode cX2_spanAmount 53 = .ok (.aload_n 0, 1) := by decide +kernel
theorem dX2_spanAmount_54 : decode cX2_spanAmount 54 = .ok (.aload_n 1, 1) := by decide +kernel
theorem dX2_spanAmount_55 : decode cX2_spanAmount 55 = .ok (.getfield 53, 3) := by decide +kernel
theorem dX2_spanAmount_58 : decode cX2_spanAmount 58 = .ok (.putfield 40, 3) := by decide +kernel
theorem dX2_spanAmount_61 : decode cX2_spanAmount 61 = .ok (.return_, 1) := by decide +kernel
theorem dX2_isWithinLimits_0 : decode cX2_isWithinLimits 0 = .ok (.aload_n 0, 1) := by decide +kernel
theorem dX2_isWithinLimits_1 : decode cX2_isWithinLimits 1 = .ok (.getfield 21, 3) := by decide +kernel
theorem dX2_isWithinLimits_4 : decode cX2_isWithinLimits 4 = .ok (.iconst 4, 1) := by decide +kernel
theorem dX2_isWithinLimits_5 : decode cX2_isWithinLimits 5 = .ok (.if_icmp .gt 18, 3) := by decide +kernel
theorem dX2_isWithinLimits_8 : decode cX2_isWithinLimits 8 = .ok (.aload_n 0, 1) := by decide +kernel
theorem dX2_isWithinLimits_9 : decode cX2_isWithinLimits 9 = .ok (.getfield 53, 3) := by decide +kernel
theorem dX2_isWithinLimits_12 : decode cX2_isWithinLimits 12 = .ok (.ldc2_w 74, 3) := by decide +kernel
theorem dX2_isWithinLimits_15 : decode cX2_isWithinLimits 15 = .ok (.lcmp, 1) := by decide +kernel
theorem dX2_isWithinLimits_16 : decode cX2_isWithinLimits 16 = .ok (.ifCond .gt 7, 3) := by decide +kernel
theorem dX2_isWithinLimits_19 : decode cX2_isWithinLimits 19 = .ok (.iconst 1, 1) := by decide +kernel
theorem dX2_isWithinLimits_20 : decode cX2_isWithinLimits 20 = .ok (.goto 4, 3) := by decide +kernel
theorem dX2_isWithinLimits_23 : decode cX2_isWithinLimits 23 = .ok (.iconst 0, 1) := by decide +kernel
theorem dX2_isWithinLimits_24 : decode cX2_isWithinLimits 24 = .ok (.ireturn, 1) := by decide +kernel
theorem dX3_init_0 : decode cX3_init 0 = .ok (.aload_n 0, 1) := by decide +kernel
theorem dX3_init_1 : decode cX3_init 1 = .ok (.invokespecial 3, 3) := by decide +kernel
theorem dX3_init_4 : decode cX3_init 4 = .ok (.aload_n 0, 1) := by decide +kernel
theorem dX3_init_5 : decode cX3_init 5 = .ok (.aload_n 1, 1) := by decide +kernel
theorem dX3_init_6 : decode cX3_init 6 = .ok (.putfield 9, 3) := by decide +kernel
theorem dX3_init_9 : decode cX3_init 9 = .ok (.aload_n 0, 1) := by decide +kernel
theorem dX3_init_10 : decode cX3_init 10 = .ok (.bipush 16, 2) := by decide +kernel
theorem dX3_init_12 : decode cX3_init 12 = .ok (.newarray .int, 2) := by decide +kernel
theorem dX3_init_14 : decode cX3_init 14 = .ok (.putfield 15, 3) := by decide +kernel
theorem dX3_init_17 : decode cX3_init 17 = .ok (.aload_n 0, 1) := by decide +kernel
theorem dX3_init_18 : decode cX3_init 18 = .ok (.bipush 16, 2) := by decide +kernel
theorem dX3_init_20 : decode cX3_init 20 = .ok (.newarray .long, 2) := by decide +kernel
theorem dX3_init_22 : decode cX3_init 22 = .ok (.putfield 19, 3) := by decide +kernel
theorem dX3_init_25 : decode cX3_init 25 = .ok (.aload_n 0, 1) := by decide +kernel
theorem dX3_init_26 : decode cX3_init 26 = .ok (.bipush 16, 2) := by decide +kernel
theorem dX3_init_28 : decode cX3_init 28 = .ok (.newarray .int, 2) := by decide +kernel
theorem dX3_init_30 : decode cX3_init 30 = .ok (.putfield 23, 3) := by decide +kernel
theorem dX3_init_33 : decode cX3_init 33 = .ok (.aload_n 0, 1) := by decide +kernel
theorem dX3_init_34 : decode cX3_init 34 = .ok (.iconst 0, 1) := by decide +kernel
theorem dX3_init_35 : decode cX3_init 35 = .ok (.putfield 26, 3) := by decide +kernel
theorem dX3_init_38 : decode cX3_init 38 = .ok (.return_, 1) := by decide +kernel
theorem dX3_boundAsTold_0 : decode cX3_boundAsTold 0 = .ok (.aload_n 0, 1) := by decide +kernel
theorem dX3_boundAsTold_1 : decode cX3_boundAsTold 1 = .ok (.invokevirtual 30, 3) := by decide +kernel
theorem dX3_boundAsTold_4 : decode cX3_boundAsTold 4 = .ok (.aload_n 0, 1) := by decide +kernel
theorem dX3_boundAsTold_5 : decode cX3_boundAsTold 5 = .ok (.iload_n 1, 1) := by decide +kernel
theorem dX3_boundAsTold_6 : decode cX3_boundAsTold 6 = .ok (.invokevirtual 33, 3) := by decide +kernel
theorem dX3_boundAsTold_9 : decode cX3_boundAsTold 9 = .ok (.lreturn, 1) := by decide +kernel
theorem dX3_boundAtWidest_0 : decode cX3_boundAtWidest 0 = .ok (.aload_n 0, 1) := by decide +kernel
theorem dX3_boundAtWidest_1 : decode cX3_boundAtWidest 1 = .ok (.invokevirtual 37, 3) := by decide +kernel
theorem dX3_boundAtWidest_4 : decode cX3_boundAtWidest 4 = .ok (.aload_n 0, 1) := by decide +kernel
theorem dX3_boundAtWidest_5 : decode cX3_boundAtWidest 5 = .ok (.iload_n 1, 1) := by decide +kernel
theorem dX3_boundAtWidest_6 : decode cX3_boundAtWidest 6 = .ok (.invokevirtual 33, 3) := by decide +kernel
theorem dX3_boundAtWidest_9 : decode cX3_boundAtWidest 9 = .ok (.lreturn, 1) := by decide +kernel
theorem dX3_gainOf_0 : decode cX3_gainOf 0 = .ok (.aload_n 0, 1) := by decide +kernel
theorem dX3_gainOf_1 : decode cX3_gainOf 1 = .ok (.iload_n 1, 1) := by decide +kernel
theorem dX3_gainOf_2 : decode cX3_gainOf 2 = .ok (.invokevirtual 40, 3) := by decide +kernel
theorem dX3_gainOf_5 : decode cX3_gainOf 5 = .ok (.lstore_n 3, 1) := by decide +kernel
theorem dX3_gainOf_6 : decode cX3_gainOf 6 = .ok (.aload_n 0, 1) := by decide +kernel
theorem dX3_gainOf_7 : decode cX3_gainOf 7 = .ok (.getfield 15, 3) := by decide +kernel
theorem dX3_gainOf_10 : decode cX3_gainOf 10 = .ok (.iload_n 2, 1) := by decide +kernel
theorem dX3_gainOf_11 : decode cX3_gainOf 11 = .ok (.bipush 16, 2) := by decide +kernel
theorem dX3_gainOf_13 : decode cX3_gainOf 13 = .ok (.iastore, 1) := by decide +kernel
theorem dX3_gainOf_14 : decode cX3_gainOf 14 = .ok (.lload_n 3, 1) := by decide +kernel
theorem dX3_gainOf_15 : decode cX3_gainOf 15 = .ok (.aload_n 0, 1) := by decide +kernel
theorem dX3_gainOf_16 : decode cX3_gainOf 16 = .ok (.iload_n 1, 1) := by decide +kernel
end
section
theorem dX3_gainOf_17 : decode cX3_gainOf 17 = .ok (.invokevirtual 33, 3) := by decide +kernel
theorem dX3_gainOf_20 : decode cX3_gainOf 20 = .ok (.lsub, 1) := by decide +kernel
theorem dX3_gainOf_21 : decode cX3_gainOf 21 = .ok (.lreturn, 1) := by decide +kernel
theorem dX3_mostToBlame_0 : decode cX3_mostToBlame 0 = .ok (.iconst (-1), 1) := by decide +kernel
theorem dX3_mostToBlame_1 : decode cX3_mostToBlame 1 = .ok (.istore_n 2, 1) := by decide +kernel
theorem dX3_mostToBlame_2 : decode cX3_mostToBlame 2 = .ok (.lconst 0, 1) := by decide +kernel
theorem dX3_mostToBlame_3 : decode cX3_mostToBlame 3 = .ok (.lstore_n 3, 1) := by decide +kernel
theorem dX3_mostToBlame_4 : decode cX3_mostToBlame 4 = .ok (.iconst 0, 1) := by decide +kernel
theorem dX3_mostToBlame_5 : decode cX3_mostToBlame 5 = .ok (.istore 5, 2) := by decide +kernel
theorem dX3_mostToBlame_7 : decode cX3_mostToBlame 7 = .ok (.iload 5, 2) := by decide +kernel
theorem dX3_mostToBlame_9 : decode cX3_mostToBlame 9 = .ok (.aload_n 0, 1) := by decide +kernel
theorem dX3_mostToBlame_10 : decode cX3_mostToBlame 10 = .ok (.getfield 9, 3) := by decide +kernel
theorem dX3_mostToBlame_13 : decode cX3_mostToBlame 13 = .ok (.getfield 43, 3) := by decide +kernel
theorem dX3_mostToBlame_16 : decode cX3_mostToBlame 16 = .ok (.if_icmp .ge 47, 3) := by decide +kernel
theorem dX3_mostToBlame_19 : decode cX3_mostToBlame 19 = .ok (.aload_n 0, 1) := by decide +kernel
theorem dX3_mostToBlame_20 : decode cX3_mostToBlame 20 = .ok (.getfield 9, 3) := by decide +kernel
theorem dX3_mostToBlame_23 : decode cX3_mostToBlame 23 = .ok (.iload 5, 2) := by decide +kernel
theorem dX3_mostToBlame_25 : decode cX3_mostToBlame 25 = .ok (.invokevirtual 48, 3) := by decide +kernel
theorem dX3_mostToBlame_28 : decode cX3_mostToBlame 28 = .ok (.ifCond .eq 13, 3) := by decide +kernel
theorem dX3_mostToBlame_31 : decode cX3_mostToBlame 31 = .ok (.aload_n 0, 1) := by decide +kernel
theorem dX3_mostToBlame_32 : decode cX3_mostToBlame 32 = .ok (.iload_n 1, 1) := by decide +kernel
theorem dX3_mostToBlame_33 : decode cX3_mostToBlame 33 = .ok (.iload 5, 2) := by decide +kernel
theorem dX3_mostToBlame_35 : decode cX3_mostToBlame 35 = .ok (.invokevirtual 52, 3) := by decide +kernel
theorem dX3_mostToBlame_38 : decode cX3_mostToBlame 38 = .ok (.goto 4, 3) := by decide +kernel
theorem dX3_mostToBlame_41 : decode cX3_mostToBlame 41 = .ok (.lconst 0, 1) := by decide +kernel
theorem dX3_mostToBlame_42 : decode cX3_mostToBlame 42 = .ok (.lstore 6, 2) := by decide +kernel
theorem dX3_mostToBlame_44 : decode cX3_mostToBlame 44 = .ok (.lload 6, 2) := by decide +kernel
theorem dX3_mostToBlame_46 : decode cX3_mostToBlame 46 = .ok (.lload_n 3, 1) := by decide +kernel
theorem dX3_mostToBlame_47 : decode cX3_mostToBlame 47 = .ok (.lcmp, 1) := by decide +kernel
theorem dX3_mostToBlame_48 : decode cX3_mostToBlame 48 = .ok (.ifCond .le 9, 3) := by decide +kernel
theorem dX3_mostToBlame_51 : decode cX3_mostToBlame 51 = .ok (.lload 6, 2) := by decide +kernel
theorem dX3_mostToBlame_53 : decode cX3_mostToBlame 53 = .ok (.lstore_n 3, 1) := by decide +kernel
theorem dX3_mostToBlame_54 : decode cX3_mostToBlame 54 = .ok (.iload 5, 2) := by decide +kernel
theorem dX3_mostToBlame_56 : decode cX3_mostToBlame 56 = .ok (.istore_n 2, 1) := by decide +kernel
theorem dX3_mostToBlame_57 : decode cX3_mostToBlame 57 = .ok (.iinc 5 1, 3) := by decide +kernel
theorem dX3_mostToBlame_60 : decode cX3_mostToBlame 60 = .ok (.goto (-53), 3) := by decide +kernel
theorem dX3_mostToBlame_63 : decode cX3_mostToBlame 63 = .ok (.iload_n 2, 1) := by decide +kernel
theorem dX3_mostToBlame_64 : decode cX3_mostToBlame 64 = .ok (.ireturn, 1) := by decide +kernel
theorem dX3_lessenInTurn_0 : decode cX3_lessenInTurn 0 = .ok (.aload_n 0, 1) := by decide +kernel
theorem dX3_lessenInTurn_1 : decode cX3_lessenInTurn 1 = .ok (.iload_n 1, 1) := by decide +kernel
theorem dX3_lessenInTurn_2 : decode cX3_lessenInTurn 2 = .ok (.invokevirtual 56, 3) := by decide +kernel
theorem dX3_lessenInTurn_5 : decode cX3_lessenInTurn 5 = .ok (.lload_n 2, 1) := by decide +kernel
theorem dX3_lessenInTurn_6 : decode cX3_lessenInTurn 6 = .ok (.lcmp, 1) := by decide +kernel
theorem dX3_lessenInTurn_7 : decode cX3_lessenInTurn 7 = .ok (.ifCond .le 6, 3) := by decide +kernel
theorem dX3_lessenInTurn_10 : decode cX3_lessenInTurn 10 = .ok (.bipush (-5), 2) := by decide +kernel
theorem dX3_lessenInTurn_12 : decode cX3_lessenInTurn 12 = .ok (.ireturn, 1) := by decide +kernel
theorem dX3_lessenInTurn_13 : decode cX3_lessenInTurn 13 = .ok (.iconst 0, 1) := by decide +kernel
theorem dX3_lessenInTurn_14 : decode cX3_lessenInTurn 14 = .ok (.istore 4, 2) := by decide +kernel
theorem dX3_lessenInTurn_16 : decode cX3_lessenInTurn 16 = .ok (.iload 4, 2) := by decide +kernel
theorem dX3_lessenInTurn_18 : decode cX3_lessenInTurn 18 = .ok (.aload_n 0, 1) := by decide +kernel
theorem dX3_lessenInTurn_19 : decode cX3_lessenInTurn 19 = .ok (.getfield 9, 3) := by decide +kernel
theorem dX3_lessenInTurn_22 : decode cX3_lessenInTurn 22 = .ok (.getfield 43, 3) := by decide +kernel
theorem dX3_lessenInTurn_25 : decode cX3_lessenInTurn 25 = .ok (.if_icmp .ge 29, 3) := by decide +kernel
theorem dX3_lessenInTurn_28 : decode cX3_lessenInTurn 28 = .ok (.aload_n 0, 1) := by decide +kernel
theorem dX3_lessenInTurn_29 : decode cX3_lessenInTurn 29 = .ok (.getfield 9, 3) := by decide +kernel
theorem dX3_lessenInTurn_32 : decode cX3_lessenInTurn 32 = .ok (.iload 4, 2) := by decide +kernel
theorem dX3_lessenInTurn_34 : decode cX3_lessenInTurn 34 = .ok (.invokevirtual 48, 3) := by decide +kernel
theorem dX3_lessenInTurn_37 : decode cX3_lessenInTurn 37 = .ok (.ifCond .eq 11, 3) := by decide +kernel
theorem dX3_lessenInTurn_40 : decode cX3_lessenInTurn 40 = .ok (.aload_n 0, 1) := by decide +kernel
theorem dX3_lessenInTurn_41 : decode cX3_lessenInTurn 41 = .ok (.iload 4, 2) := by decide +kernel
theorem dX3_lessenInTurn_43 : decode cX3_lessenInTurn 43 = .ok (.iload_n 1, 1) := by decide +kernel
theorem dX3_lessenInTurn_44 : decode cX3_lessenInTurn 44 = .ok (.lload_n 2, 1) := by decide +kernel
theorem dX3_lessenInTurn_45 : decode cX3_lessenInTurn 45 = .ok (.invokevirtual 59, 3) := by decide +kernel
theorem dX3_lessenInTurn_48 : decode cX3_lessenInTurn 48 = .ok (.iinc 4 1, 3) := by decide +kernel
theorem dX3_lessenInTurn_51 : decode cX3_lessenInTurn 51 = .ok (.goto (-35), 3) := by decide +kernel
theorem dX3_lessenInTurn_54 : decode cX3_lessenInTurn 54 = .ok (.aload_n 0, 1) := by decide +kernel
theorem dX3_lessenInTurn_55 : decode cX3_lessenInTurn 55 = .ok (.aload_n 0, 1) := by decide +kernel
theorem dX3_lessenInTurn_56 : decode cX3_lessenInTurn 56 = .ok (.getfield 15, 3) := by decide +kernel
theorem dX3_lessenInTurn_59 : decode cX3_lessenInTurn 59 = .ok (.invokevirtual 63, 3) := by decide +kernel
theorem dX3_lessenInTurn_62 : decode cX3_lessenInTurn 62 = .ok (.aload_n 0, 1) := by decide +kernel
theorem dX3_lessenInTurn_63 : decode cX3_lessenInTurn 63 = .ok (.getfield 9, 3) := by decide +kernel
theorem dX3_lessenInTurn_66 : decode cX3_lessenInTurn 66 = .ok (.invokevirtual 67, 3) := by decide +kernel
theorem dX3_lessenInTurn_69 : decode cX3_lessenInTurn 69 = .ok (.ireturn, 1) := by decide +kernel
theorem dX3_lessen_0 : decode cX3_lessen 0 = .ok (.bipush 15, 2) := by decide +kernel
theorem dX3_lessen_2 : decode cX3_lessen 2 = .ok (.istore 5, 2) := by decide +kernel
theorem dX3_lessen_4 : decode cX3_lessen 4 = .ok (.iload 5, 2) := by decide +kernel
theorem dX3_lessen_6 : decode cX3_lessen 6 = .ok (.ifCond .lt 38, 3) := by decide +kernel
theorem dX3_lessen_9 : decode cX3_lessen 9 = .ok (.aload_n 0, 1) := by decide +kernel
theorem dX3_lessen_10 : decode cX3_lessen 10 = .ok (.getfield 15, 3) := by decide +kernel
theorem dX3_lessen_13 : decode cX3_lessen 13 = .ok (.iload_n 1, 1) := by decide +kernel
theorem dX3_lessen_14 : decode cX3_lessen 14 = .ok (.iload 5, 2) := by decide +kernel
theorem dX3_lessen_16 : decode cX3_lessen 16 = .ok (.iastore, 1) := by decide +kernel
theorem dX3_lessen_17 : decode cX3_lessen 17 = .ok (.aload_n 0, 1) := by decide +kernel
theorem dX3_lessen_18 : decode cX3_lessen 18 = .ok (.iload_n 2, 1) := by decide +kernel
theorem dX3_lessen_19 : decode cX3_lessen 19 = .ok (.invokevirtual 33, 3) := by decide +kernel
theorem dX3_lessen_22 : decode cX3_lessen 22 = .ok (.lload_n 3, 1) := by decide +kernel
theorem dX3_lessen_23 : decode cX3_lessen 23 = .ok (.lcmp, 1) := by decide +kernel
theorem dX3_lessen_24 : decode cX3_lessen 24 = .ok (.ifCond .le 14, 3) := by decide +kernel
theorem dX3_lessen_27 : decode cX3_lessen 27 = .ok (.aload_n 0, 1) := by decide +kernel
theorem dX3_lessen_28 : decode cX3_lessen 28 = .ok (.getfield 15, 3) := by decide +kernel
theorem dX3_lessen_31 : decode cX3_lessen 31 = .ok (.iload_n 1, 1) := by decide +kernel
theorem dX3_lessen_32 : decode cX3_lessen 32 = .ok (.iload 5, 2) := by decide +kernel
theorem dX3_lessen_34 : decode cX3_lessen 34 = .ok (.iconst 1, 1) := by decide +kernel
theorem dX3_lessen_35 : decode cX3_lessen 35 = .ok (.iadd, 1) := by decide +kernel
theorem dX3_lessen_36 : decode cX3_lessen 36 = .ok (.iastore, 1) := by decide +kernel
theorem dX3_lessen_37 : decode cX3_lessen 37 = .ok (.return_, 1) := by decide +kernel
theorem dX3_lessen_38 : decode cX3_lessen 38 = .ok (.iinc 5 (-1), 3) := by decide +kernel
theorem dX3_lessen_41 : decode cX3_lessen 41 = .ok (.goto (-37), 3) := by decide +kernel
theorem dX3_lessen_44 : decode cX3_lessen 44 = .ok (.return_, 1) := by decide +kernel
theorem dX3_chooseCheapest_0 : decode cX3_chooseCheapest 0 = .ok (.aload_n 0, 1) := by decide +kernel
theorem dX3_chooseCheapest_1 : decode cX3_chooseCheapest 1 = .ok (.getfield 9, 3) := by decide +kernel
theorem dX3_chooseCheapest_4 : decode cX3_chooseCheapest 4 = .ok (.invokevirtual 71, 3) := by decide +kernel
theorem dX3_chooseCheapest_7 : decode cX3_chooseCheapest 7 = .ok (.bipush 6, 2) := by decide +kernel
theorem dX3_chooseCheapest_9 : decode cX3_chooseCheapest 9 = .ok (.if_icmp .le 6, 3) := by decide +kernel
theorem dX3_chooseCheapest_12 : decode cX3_chooseCheapest 12 = .ok (.bipush (-5), 2) := by decide +kernel
theorem dX3_chooseCheapest_14 : decode cX3_chooseCheapest 14 = .ok (.ireturn, 1) := by decide +kernel
theorem dX3_chooseCheapest_15 : decode cX3_chooseCheapest 15 = .ok (.aload_n 0, 1) := by decide +kernel
theorem dX3_chooseCheapest_16 : decode cX3_chooseCheapest 16 = .ok (.invokevirtual 37, 3) := by decide +kernel
theorem dX3_chooseCheapest_19 : decode cX3_chooseCheapest 19 = .ok (.aload_n 0, 1) := by decide +kernel
theorem dX3_chooseCheapest_20 : decode cX3_chooseCheapest 20 = .ok (.ldc 76, 2) := by decide +kernel
theorem dX3_chooseCheapest_22 : decode cX3_chooseCheapest 22 = .ok (.putfield 26, 3) := by decide +kernel
theorem dX3_chooseCheapest_25 : decode cX3_chooseCheapest 25 = .ok (.aload_n 0, 1) := by decide +kernel
theorem dX3_chooseCheapest_26 : decode cX3_chooseCheapest 26 = .ok (.iconst 0, 1) := by decide +kernel
theorem dX3_chooseCheapest_27 : decode cX3_chooseCheapest 27 = .ok (.iconst 0, 1) := by decide +kernel
theorem dX3_chooseCheapest_28 : decode cX3_chooseCheapest 28 = .ok (.iload_n 1, 1) := by decide +kernel
theorem dX3_chooseCheapest_29 : decode cX3_chooseCheapest 29 = .ok (.lload_n 2, 1) := by decide +kernel
theorem dX3_chooseCheapest_30 : decode cX3_chooseCheapest 30 = .ok (.invokevirtual 77, 3) := by decide +kernel
theorem dX3_chooseCheapest_33 : decode cX3_chooseCheapest 33 = .ok (.aload_n 0, 1) := by decide +kernel
theorem dX3_chooseCheapest_34 : decode cX3_chooseCheapest 34 = .ok (.getfield 26, 3) := by decide +kernel
theorem dX3_chooseCheapest_37 : decode cX3_chooseCheapest 37 = .ok (.ldc 76, 2) := by decide +kernel
theorem dX3_chooseCheapest_39 : decode cX3_chooseCheapest 39 = .ok (.if_icmp .ne 6, 3) := by decide +kernel
theorem dX3_chooseCheapest_42 : decode cX3_chooseCheapest 42 = .ok (.bipush (-5), 2) := by decide +kernel
theorem dX3_chooseCheapest_44 : decode cX3_chooseCheapest 44 = .ok (.ireturn, 1) := by decide +kernel
theorem dX3_chooseCheapest_45 : decode cX3_chooseCheapest 45 = .ok (.aload_n 0, 1) := by decide +kernel
theorem dX3_chooseCheapest_46 : decode cX3_chooseCheapest 46 = .ok (.aload_n 0, 1) := by decide +kernel
theorem dX3_chooseCheapest_47 : decode cX3_chooseCheapest 47 = .ok (.getfield 23, 3) := by decide +kernel
theorem dX3_chooseCheapest_50 : decode cX3_chooseCheapest 50 = .ok (.invokevirtual 63, 3) := by decide +kernel
theorem dX3_chooseCheapest_53 : decode cX3_chooseCheapest 53 = .ok (.aload_n 0, 1) := by decide +kernel
theorem dX3_chooseCheapest_54 : decode cX3_chooseCheapest 54 = .ok (.getfield 9, 3) := by decide +kernel
theorem dX3_chooseCheapest_57 : decode cX3_chooseCheapest 57 = .ok (.invokevirtual 67, 3) := by decide +kernel
theorem dX3_chooseCheapest_60 : decode cX3_chooseCheapest 60 = .ok (.ireturn, 1) := by decide +kernel
theorem dX3_choose_0 : decode cX3_choose 0 = .ok (.iload_n 2, 1) := by decide +kernel
theorem dX3_choose_1 : decode cX3_choose 1 = .ok (.aload_n 0, 1) := by decide +kernel
theorem dX3_choose_2 : decode cX3_choose 2 = .ok (.getfield 26, 3) := by decide +kernel
theorem dX3_choose_5 : decode cX3_choose 5 = .ok (.if_icmp .lt 4, 3) := by decide +kernel
theorem dX3_choose_8 : decode cX3_choose 8 = .ok (.return_, 1) := by decide +kernel
theorem dX3_choose_9 : decode cX3_choose 9 = .ok (.iload_n 1, 1) := by decide +kernel
theorem dX3_choose_10 : decode cX3_choose 10 = .ok (.aload_n 0, 1) := by decide +kernel
theorem dX3_choose_11 : decode cX3_choose 11 = .ok (.getfield 9, 3) := by decide +kernel
theorem dX3_choose_14 : decode cX3_choose 14 = .ok (.getfield 43, 3) := by decide +kernel
theorem dX3_choose_17 : decode cX3_choose 17 = .ok (.if_icmp .lt 24, 3) := by decide +kernel
theorem dX3_choose_20 : decode cX3_choose 20 = .ok (.aload_n 0, 1) := by decide +kernel
theorem dX3_choose_21 : decode cX3_choose 21 = .ok (.iload_n 2, 1) := by decide +kernel
theorem dX3_choose_22 : decode cX3_choose 22 = .ok (.putfield 26, 3) := by decide +kernel
theorem dX3_choose_25 : decode cX3_choose 25 = .ok (.aload_n 0, 1) := by decide +kernel
theorem dX3_choose_26 : decode cX3_choose 26 = .ok (.getfield 15, 3) := by decide +kernel
theorem dX3_choose_29 : decode cX3_choose 29 = .ok (.iconst 0, 1) := by decide +kernel
theorem dX3_choose_30 : decode cX3_choose 30 = .ok (.aload_n 0, 1) := by decide +kernel
theorem dX3_choose_31 : decode cX3_choose 31 = .ok (.getfield 23, 3) := by decide +kernel
theorem dX3_choose_34 : decode cX3_choose 34 = .ok (.iconst 0, 1) := by decide +kernel
theorem dX3_choose_35 : decode cX3_choose 35 = .ok (.bipush 16, 2) := by decide +kernel
theorem dX3_choose_37 : decode cX3_choose 37 = .ok (.invokestatic 81, 3) := by decide +kernel
theorem dX3_choose_40 : decode cX3_choose 40 = .ok (.return_, 1) := by decide +kernel
theorem dX3_choose_41 : decode cX3_choose 41 = .ok (.aload_n 0, 1) := by decide +kernel
theorem dX3_choose_42 : decode cX3_choose 42 = .ok (.getfield 9, 3) := by decide +kernel
theorem dX3_choose_45 : decode cX3_choose 45 = .ok (.getfield 87, 3) := by decide +kernel
theorem dX3_choose_48 : decode cX3_choose 48 = .ok (.iload_n 1, 1) := by decide +kernel
theorem dX3_choose_49 : decode cX3_choose 49 = .ok (.aaload, 1) := by decide +kernel
theorem dX3_choose_50 : decode cX3_choose 50 = .ok (.astore 6, 2) := by decide +kernel
theorem dX3_choose_52 : decode cX3_choose 52 = .ok (.aload 6, 2) := by decide +kernel
theorem dX3_choose_54 : decode cX3_choose 54 = .ok (.invokevirtual 91, 3) := by decide +kernel
theorem dX3_choose_57 : decode cX3_choose 57 = .ok (.ifCond .eq 7, 3) := by decide +kernel
theorem dX3_choose_60 : decode cX3_choose 60 = .ok (.iconst 0, 1) := by decide +kernel
theorem dX3_choose_61 : decode cX3_choose 61 = .ok (.goto 8, 3) := by decide +kernel
theorem dX3_choose_64 : decode cX3_choose 64 = .ok (.aload 6, 2) := by decide +kernel
theorem dX3_choose_66 : decode cX3_choose 66 = .ok (.getfield 97, 3) := by decide +kernel
theorem dX3_choose_69 : decode cX3_choose 69 = .ok (.istore 7, 2) := by decide +kernel
theorem dX3_choose_71 : decode cX3_choose 71 = .ok (.aload 6, 2) := by decide +kernel
theorem dX3_choose_73 : decode cX3_choose 73 = .ok (.invokevirtual 91, 3) := by decide +kernel
theorem dX3_choose_76 : decode cX3_choose 76 = .ok (.ifCond .eq 8, 3) := by decide +kernel
theorem dX3_choose_79 : decode cX3_choose 79 = .ok (.bipush 16, 2) := by decide +kernel
theorem dX3_choose_81 : decode cX3_choose 81 = .ok (.goto 4, 3) := by decide +kernel
theorem dX3_choose_84 : decode cX3_choose 84 = .ok (.iconst 0, 1) := by decide +kernel
theorem dX3_choose_85 : decode cX3_choose 85 = .ok (.istore 8, 2) := by decide +kernel
theorem dX3_choose_87 : decode cX3_choose 87 = .ok (.iload 8, 2) := by decide +kernel
theorem dX3_choose_89 : decode cX3_choose 89 = .ok (.istore 9, 2) := by decide +kernel
theorem dX3_choose_91 : decode cX3_choose 91 = .ok (.iload 9, 2) := by decide +kernel
theorem dX3_choose_93 : decode cX3_choose 93 = .ok (.bipush 16, 2) := by decide +kernel
theorem dX3_choose_95 : decode cX3_choose 95 = .ok (.if_icmp .gt 62, 3) := by decide +kernel
theorem dX3_choose_98 : decode cX3_choose 98 = .ok (.aload_n 0, 1) := by decide +kernel
theorem dX3_choose_99 : decode cX3_choose 99 = .ok (.getfield 15, 3) := by decide +kernel
theorem dX3_choose_102 : decode cX3_choose 102 = .ok (.iload_n 1, 1) := by decide +kernel
theorem dX3_choose_103 : decode cX3_choose 103 = .ok (.iload 9, 2) := by decide +kernel
theorem dX3_choose_105 : decode cX3_choose 105 = .ok (.iastore, 1) := by decide +kernel
theorem dX3_choose_106 : decode cX3_choose 106 = .ok (.aload_n 0, 1) := by decide +kernel
theorem dX3_choose_107 : decode cX3_choose 107 = .ok (.getfield 19, 3) := by decide +kernel
theorem dX3_choose_110 : decode cX3_choose 110 = .ok (.iload_n 1, 1) := by decide +kernel
theorem dX3_choose_111 : decode cX3_choose 111 = .ok (.aload_n 0, 1) := by decide +kernel
theorem dX3_choose_112 : decode cX3_choose 112 = .ok (.iload_n 1, 1) := by decide +kernel
theorem dX3_choose_113 : decode cX3_choose 113 = .ok (.invokevirtual 100, 3) := by decide +kernel
theorem dX3_choose_116 : decode cX3_choose 116 = .ok (.lastore, 1) := by decide +kernel
theorem dX3_choose_117 : decode cX3_choose 117 = .ok (.iload_n 1, 1) := by decide +kernel
theorem dX3_choose_118 : decode cX3_choose 118 = .ok (.iload_n 3, 1) := by decide +kernel
theorem dX3_choose_119 : decode cX3_choose 119 = .ok (.if_icmp .ne 15, 3) := by decide +kernel
theorem dX3_choose_122 : decode cX3_choose 122 = .ok (.aload_n 0, 1) := by decide +kernel
theorem dX3_choose_123 : decode cX3_choose 123 = .ok (.getfield 19, 3) := by decide +kernel
theorem dX3_choose_126 : decode cX3_choose 126 = .ok (.iload_n 1, 1) := by decide +kernel
theorem dX3_choose_127 : decode cX3_choose 127 = .ok (.laload, 1) := by decide +kernel
theorem dX3_choose_128 : decode cX3_choose 128 = .ok (.lload 4, 2) := by decide +kernel
theorem dX3_choose_130 : decode cX3_choose 130 = .ok (.lcmp, 1) := by decide +kernel
theorem dX3_choose_131 : decode cX3_choose 131 = .ok (.ifCond .gt 20, 3) := by decide +kernel
theorem dX3_choose_134 : decode cX3_choose 134 = .ok (.aload_n 0, 1) := by decide +kernel
theorem dX3_choose_135 : decode cX3_choose 135 = .ok (.iload_n 1, 1) := by decide +kernel
theorem dX3_choose_136 : decode cX3_choose 136 = .ok (.iconst 1, 1) := by decide +kernel
theorem dX3_choose_137 : decode cX3_choose 137 = .ok (.iadd, 1) := by decide +kernel
theorem dX3_choose_138 : decode cX3_choose 138 = .ok (.iload_n 2, 1) := by decide +kernel
theorem dX3_choose_139 : decode cX3_choose 139 = .ok (.iload 7, 2) := by decide +kernel
theorem dX3_choose_141 : decode cX3_choose 141 = .ok (.iload 9, 2) := by decide +kernel
theorem dX3_choose_143 : decode cX3_choose 143 = .ok (.imul, 1) := by decide +kernel
theorem dX3_choose_144 : decode cX3_choose 144 = .ok (.iadd, 1) := by decide +kernel
theorem dX3_choose_145 : decode cX3_choose 145 = .ok (.iload_n 3, 1) := by decide +kernel
theorem dX3_choose_146 : decode cX3_choose 146 = .ok (.lload 4, 2) := by decide +kernel
theorem dX3_choose_148 : decode cX3_choose 148 = .ok (.invokevirtual 77, 3) := by decide +kernel
theorem dX3_choose_151 : decode cX3_choose 151 = .ok (.iinc 9 4, 3) := by decide +kernel
theorem dX3_choose_154 : decode cX3_choose 154 = .ok (.goto (-63), 3) := by decide +kernel
theorem dX3_choose_157 : decode cX3_choose 157 = .ok (.return_, 1) := by decide +kernel
theorem dX3_tryAsTold_0 : decode cX3_tryAsTold 0 = .ok (.iconst 0, 1) := by decide +kernel
theorem dX3_tryAsTold_1 : decode cX3_tryAsTold 1 = .ok (.istore_n 1, 1) := by decide +kernel
theorem dX3_tryAsTold_2 : decode cX3_tryAsTold 2 = .ok (.iload_n 1, 1) := by decide +kernel
theorem dX3_tryAsTold_3 : decode cX3_tryAsTold 3 = .ok (.aload_n 0, 1) := by decide +kernel
theorem dX3_tryAsTold_4 : decode cX3_tryAsTold 4 = .ok (.getfield 9, 3) := by decide +kernel
theorem dX3_tryAsTold_7 : decode cX3_tryAsTold 7 = .ok (.getfield 43, 3) := by decide +kernel
theorem dX3_tryAsTold_10 : decode cX3_tryAsTold 10 = .ok (.if_icmp .ge 27, 3) := by decide +kernel
theorem dX3_tryAsTold_13 : decode cX3_tryAsTold 13 = .ok (.aload_n 0, 1) := by decide +kernel
theorem dX3_tryAsTold_14 : decode cX3_tryAsTold 14 = .ok (.getfield 15, 3) := by decide +kernel
theorem dX3_tryAsTold_17 : decode cX3_tryAsTold 17 = .ok (.iload_n 1, 1) := by decide +kernel
theorem dX3_tryAsTold_18 : decode cX3_tryAsTold 18 = .ok (.aload_n 0, 1) := by decide +kernel
theorem dX3_tryAsTold_19 : decode cX3_tryAsTold 19 = .ok (.getfield 9, 3) := by decide +kernel
theorem dX3_tryAsTold_22 : decode cX3_tryAsTold 22 = .ok (.getfield 87, 3) := by decide +kernel
theorem dX3_tryAsTold_25 : decode cX3_tryAsTold 25 = .ok (.iload_n 1, 1) := by decide +kernel
theorem dX3_tryAsTold_26 : decode cX3_tryAsTold 26 = .ok (.aaload, 1) := by decide +kernel
theorem dX3_tryAsTold_27 : decode cX3_tryAsTold 27 = .ok (.getfield 103, 3) := by decide +kernel
theorem dX3_tryAsTold_30 : decode cX3_tryAsTold 30 = .ok (.iastore, 1) := by decide +kernel
theorem dX3_tryAsTold_31 : decode cX3_tryAsTold 31 = .ok (.iinc 1 1, 3) := by decide +kernel
theorem dX3_tryAsTold_34 : decode cX3_tryAsTold 34 = .ok (.goto (-32), 3) := by decide +kernel
theorem dX3_tryAsTold_37 : decode cX3_tryAsTold 37 = .ok (.return_, 1) := by decide +kernel
theorem dX3_tryWidest_0 : decode cX3_tryWidest 0 = .ok (.iconst 0, 1) := by decide +kernel
theorem dX3_tryWidest_1 : decode cX3_tryWidest 1 = .ok (.istore_n 1, 1) := by decide +kernel
theorem dX3_tryWidest_2 : decode cX3_tryWidest 2 = .ok (.iload_n 1, 1) := by decide +kernel
theorem dX3_tryWidest_3 : decode cX3_tryWidest 3 = .ok (.bipush 16, 2) := by decide +kernel
theorem dX3_tryWidest_5 : decode cX3_tryWidest 5 = .ok (.if_icmp .ge 17, 3) := by decide +kernel
theorem dX3_tryWidest_8 : decode cX3_tryWidest 8 = .ok (.aload_n 0, 1) := by decide +kernel
theorem dX3_tryWidest_9 : decode cX3_tryWidest 9 = .ok (.getfield 15, 3) := by decide +kernel
theorem dX3_tryWidest_12 : decode cX3_tryWidest 12 = .ok (.iload_n 1, 1) := by decide +kernel
theorem dX3_tryWidest_13 : decode cX3_tryWidest 13 = .ok (.bipush 16, 2) := by decide +kernel
theorem dX3_tryWidest_15 : decode cX3_tryWidest 15 = .ok (.iastore, 1) := by decide +kernel
theorem dX3_tryWidest_16 : decode cX3_tryWidest 16 = .ok (.iinc 1 1, 3) := by decide +kernel
theorem dX3_tryWidest_19 : decode cX3_tryWidest 19 = .ok (.goto (-17), 3) := by decide +kernel
theorem dX3_tryWidest_22 : decode cX3_tryWidest 22 = .ok (.return_, 1) := by decide +kernel
theorem dX3_take_0 : decode cX3_take 0 = .ok (.iconst 0, 1) := by decide +kernel
theorem dX3_take_1 : decode cX3_take 1 = .ok (.istore_n 2, 1) := by decide +kernel
theorem dX3_take_2 : decode cX3_take 2 = .ok (.iload_n 2, 1) := by decide +kernel
theorem dX3_take_3 : decode cX3_take 3 = .ok (.aload_n 0, 1) := by decide +kernel
theorem dX3_take_4 : decode cX3_take 4 = .ok (.getfield 9, 3) := by decide +kernel
theorem dX3_take_7 : decode cX3_take 7 = .ok (.getfield 43, 3) := by decide +kernel
theorem dX3_take_10 : decode cX3_take 10 = .ok (.if_icmp .ge 24, 3) := by decide +kernel
theorem dX3_take_13 : decode cX3_take 13 = .ok (.aload_n 0, 1) := by decide +kernel
theorem dX3_take_14 : decode cX3_take 14 = .ok (.getfield 9, 3) := by decide +kernel
theorem dX3_take_17 : decode cX3_take 17 = .ok (.getfield 87, 3) := by decide +kernel
theorem dX3_take_20 : decode cX3_take 20 = .ok (.iload_n 2, 1) := by decide +kernel
theorem dX3_take_21 : decode cX3_take 21 = .ok (.aaload, 1) := by decide +kernel
theorem dX3_take_22 : decode cX3_take 22 = .ok (.aload_n 1, 1) := by decide +kernel
theorem dX3_take_23 : decode cX3_take 23 = .ok (.iload_n 2, 1) := by decide +kernel
theorem dX3_take_24 : decode cX3_take 24 = .ok (.iaload, 1) := by decide +kernel
theorem dX3_take_25 : decode cX3_take 25 = .ok (.putfield 103, 3) := by decide +kernel
theorem dX3_take_28 : decode cX3_take 28 = .ok (.iinc 2 1, 3) := by decide +kernel
theorem dX3_take_31 : decode cX3_take 31 = .ok (.goto (-29), 3) := by decide +kernel
theorem dX3_take_34 : decode cX3_take 34 = .ok (.return_, 1) := by decide +kernel
theorem dX3_boundTried_0 : decode cX3_boundTried 0 = .ok (.iconst 0, 1) := by decide +kernel
theorem dX3_boundTried_1 : decode cX3_boundTried 1 = .ok (.istore_n 2, 1) := by decide +kernel
theorem dX3_boundTried_2 : decode cX3_boundTried 2 = .ok (.iload_n 2, 1) := by decide +kernel
theorem dX3_boundTried_3 : decode cX3_boundTried 3 = .ok (.iload_n 1, 1) := by decide +kernel
theorem dX3_boundTried_4 : decode cX3_boundTried 4 = .ok (.if_icmp .gt 20, 3) := by decide +kernel
theorem dX3_boundTried_7 : decode cX3_boundTried 7 = .ok (.aload_n 0, 1) := by decide +kernel
theorem dX3_boundTried_8 : decode cX3_boundTried 8 = .ok (.getfield 19, 3) := by decide +kernel
theorem dX3_boundTried_11 : decode cX3_boundTried 11 = .ok (.iload_n 2, 1) := by decide +kernel
theorem dX3_boundTried_12 : decode cX3_boundTried 12 = .ok (.aload_n 0, 1) := by decide +kernel
theorem dX3_boundTried_13 : decode cX3_boundTried 13 = .ok (.iload_n 2, 1) := by decide +kernel
theorem dX3_boundTried_14 : decode cX3_boundTried 14 = .ok (.invokevirtual 100, 3) := by decide +kernel
theorem dX3_boundTried_17 : decode cX3_boundTried 17 = .ok (.lastore, 1) := by decide +kernel
theorem dX3_boundTried_18 : decode cX3_boundTried 18 = .ok (.iinc 2 1, 3) := by decide +kernel
theorem dX3_boundTried_21 : decode cX3_boundTried 21 = .ok (.goto (-19), 3) := by decide +kernel
theorem dX3_boundTried_24 : decode cX3_boundTried 24 = .ok (.aload_n 0, 1) := by decide +kernel
theorem dX3_boundTried_25 : decode cX3_boundTried 25 = .ok (.getfield 19, 3) := by decide +kernel
theorem dX3_boundTried_28 : decode cX3_boundTried 28 = .ok (.iload_n 1, 1) := by decide +kernel
theorem dX3_boundTried_29 : decode cX3_boundTried 29 = .ok (.laload, 1) := by decide +kernel
theorem dX3_boundTried_30 : decode cX3_boundTried 30 = .ok (.lreturn, 1) := by decide +kernel
theorem dX3_boundFromParts_0 : decode cX3_boundFromParts 0 = .ok (.aload_n 0, 1) := by decide +kernel
theorem dX3_boundFromParts_1 : decode cX3_boundFromParts 1 = .ok (.getfield 9, 3) := by decide +kernel
theorem dX3_boundFromParts_4 : decode cX3_boundFromParts 4 = .ok (.getfield 87, 3) := by decide +kernel
theorem dX3_boundFromParts_7 : decode cX3_boundFromParts 7 = .ok (.iload_n 1, 1) := by decide +kernel
theorem dX3_boundFromParts_8 : decode cX3_boundFromParts 8 = .ok (.aaload, 1) := by decide +kernel
theorem dX3_boundFromParts_9 : decode cX3_boundFromParts 9 = .ok (.astore_n 2, 1) := by decide +kernel
theorem dX3_boundFromParts_10 : decode cX3_boundFromParts 10 = .ok (.aload_n 2, 1) := by decide +kernel
theorem dX3_boundFromParts_11 : decode cX3_boundFromParts 11 = .ok (.invokevirtual 91, 3) := by decide +kernel
theorem dX3_boundFromParts_14 : decode cX3_boundFromParts 14 = .ok (.ifCond .eq 5, 3) := by decide +kernel
theorem dX3_boundFromParts_17 : decode cX3_boundFromParts 17 = .ok (.lconst 0, 1) := by decide +kernel
theorem dX3_boundFromParts_18 : decode cX3_boundFromParts 18 = .ok (.lreturn, 1) := by decide +kernel
theorem dX3_boundFromParts_19 : decode cX3_boundFromParts 19 = .ok (.aload_n 0, 1) := by decide +kernel
theorem dX3_boundFromParts_20 : decode cX3_boundFromParts 20 = .ok (.getfield 19, 3) := by decide +kernel
theorem dX3_boundFromParts_23 : decode cX3_boundFromParts 23 = .ok (.aload_n 2, 1) := by decide +kernel
theorem dX3_boundFromParts_24 : decode cX3_boundFromParts 24 = .ok (.getfield 106, 3) := by decide +kernel
theorem dX3_boundFromParts_27 : decode cX3_boundFromParts 27 = .ok (.laload, 1) := by decide +kernel
theorem dX3_boundFromParts_28 : decode cX3_boundFromParts 28 = .ok (.lstore_n 3, 1) := by decide +kernel
theorem dX3_boundFromParts_29 : decode cX3_boundFromParts 29 = .ok (.aload_n 2, 1) := by decide +kernel
theorem dX3_boundFromParts_30 : decode cX3_boundFromParts 30 = .ok (.getfield 109, 3) := by decide +kernel
theorem dX3_boundFromParts_33 : decode cX3_boundFromParts 33 = .ok (.invokestatic 112, 3) := by decide +kernel
theorem dX3_boundFromParts_36 : decode cX3_boundFromParts 36 = .ok (.ifCond .eq 15, 3) := by decide +kernel
theorem dX3_boundFromParts_39 : decode cX3_boundFromParts 39 = .ok (.aload_n 0, 1) := by decide +kernel
theorem dX3_boundFromParts_40 : decode cX3_boundFromParts 40 = .ok (.getfield 19, 3) := by decide +kernel
theorem dX3_boundFromParts_43 : decode cX3_boundFromParts 43 = .ok (.aload_n 2, 1) := by decide +kernel
theorem dX3_boundFromParts_44 : decode cX3_boundFromParts 44 = .ok (.getfield 115, 3) := by decide +kernel
theorem dX3_boundFromParts_47 : decode cX3_boundFromParts 47 = .ok (.laload, 1) := by decide +kernel
theorem dX3_boundFromParts_48 : decode cX3_boundFromParts 48 = .ok (.goto 4, 3) := by decide +kernel
theorem dX3_boundFromParts_51 : decode cX3_boundFromParts 51 = .ok (.lconst 0, 1) := by decide +kernel
theorem dX3_boundFromParts_52 : decode cX3_boundFromParts 52 = .ok (.lstore 5, 2) := by decide +kernel
theorem dX3_boundFromParts_54 : decode cX3_boundFromParts 54 = .ok (.aload_n 2, 1) := by decide +kernel
theorem dX3_boundFromParts_55 : decode cX3_boundFromParts 55 = .ok (.getfield 109, 3) := by decide +kernel
theorem dX3_boundFromParts_58 : decode cX3_boundFromParts 58 = .ok (.lookupswitch 50 #[(4, 26), (5, 39)], 26) := by decide +kernel
theorem dX3_boundFromParts_84 : decode cX3_boundFromParts 84 = .ok (.aload_n 0, 1) := by decide +kernel
theorem dX3_boundFromParts_85 : decode cX3_boundFromParts 85 = .ok (.aload_n 2, 1) := by decide +kernel
theorem dX3_boundFromParts_86 : decode cX3_boundFromParts 86 = .ok (.lload_n 3, 1) := by decide +kernel
theorem dX3_boundFromParts_87 : decode cX3_boundFromParts 87 = .ok (.lload 5, 2) := by decide +kernel
theorem dX3_boundFromParts_89 : decode cX3_boundFromParts 89 = .ok (.invokevirtual 118, 3) := by decide +kernel
theorem dX3_boundFromParts_92 : decode cX3_boundFromParts 92 = .ok (.lstore 7, 2) := by decide +kernel
theorem dX3_boundFromParts_94 : decode cX3_boundFromParts 94 = .ok (.goto 20, 3) := by decide +kernel
theorem dX3_boundFromParts_97 : decode cX3_boundFromParts 97 = .ok (.lload_n 3, 1) := by decide +kernel
theorem dX3_boundFromParts_98 : decode cX3_boundFromParts 98 = .ok (.lload 5, 2) := by decide +kernel
theorem dX3_boundFromParts_100 : decode cX3_boundFromParts 100 = .ok (.invokestatic 122, 3) := by decide +kernel
theorem dX3_boundFromParts_103 : decode cX3_boundFromParts 103 = .ok (.lstore 7, 2) := by decide +kernel
theorem dX3_boundFromParts_105 : decode cX3_boundFromParts 105 = .ok (.goto 9, 3) := by decide +kernel
theorem dX3_boundFromParts_108 : decode cX3_boundFromParts 108 = .ok (.lload_n 3, 1) := by decide +kernel
theorem dX3_boundFromParts_109 : decode cX3_boundFromParts 109 = .ok (.lload 5, 2) := by decide +kernel
theorem dX3_boundFromParts_111 : decode cX3_boundFromParts 111 = .ok (.ladd, 1) := by decide +kernel
theorem dX3_boundFromParts_112 : decode cX3_boundFromParts 112 = .ok (.lstore 7, 2) := by decide +kernel
theorem dX3_boundFromParts_114 : decode cX3_boundFromParts 114 = .ok (.ldc2_w 128, 3) := by decide +kernel
theorem dX3_boundFromParts_117 : decode cX3_boundFromParts 117 = .ok (.lload 7, 2) := by decide +kernel
theorem dX3_boundFromParts_119 : decode cX3_boundFromParts 119 = .ok (.aload_n 2, 1) := by decide +kernel
theorem dX3_boundFromParts_120 : decode cX3_boundFromParts 120 = .ok (.getfield 130, 3) := by decide +kernel
theorem dX3_boundFromParts_123 : decode cX3_boundFromParts 123 = .ok (.aload_n 0, 1) := by decide +kernel
theorem dX3_boundFromParts_124 : decode cX3_boundFromParts 124 = .ok (.getfield 15, 3) := by decide +kernel
theorem dX3_boundFromParts_127 : decode cX3_boundFromParts 127 = .ok (.iload_n 1, 1) := by decide +kernel
theorem dX3_boundFromParts_128 : decode cX3_boundFromParts 128 = .ok (.iaload, 1) := by decide +kernel
theorem dX3_boundFromParts_129 : decode cX3_boundFromParts 129 = .ok (.invokestatic 133, 3) := by decide +kernel
theorem dX3_boundFromParts_132 : decode cX3_boundFromParts 132 = .ok (.ladd, 1) := by decide +kernel
theorem dX3_boundFromParts_133 : decode cX3_boundFromParts 133 = .ok (.invokestatic 136, 3) := by decide +kernel
theorem dX3_boundFromParts_136 : decode cX3_boundFromParts 136 = .ok (.lreturn, 1) := by decide +kernel
theorem dX3_boundOfProduct_0 : decode cX3_boundOfProduct 0 = .ok (.lload_n 2, 1) := by decide +kernel
theorem dX3_boundOfProduct_1 : decode cX3_boundOfProduct 1 = .ok (.ldc2_w 128, 3) := by decide +kernel
theorem dX3_boundOfProduct_4 : decode cX3_boundOfProduct 4 = .ok (.lcmp, 1) := by decide +kernel
theorem dX3_boundOfProduct_5 : decode cX3_boundOfProduct 5 = .ok (.ifCond .eq 12, 3) := by decide +kernel
theorem dX3_boundOfProduct_8 : decode cX3_boundOfProduct 8 = .ok (.lload 4, 2) := by decide +kernel
theorem dX3_boundOfProduct_10 : decode cX3_boundOfProduct 10 = .ok (.ldc2_w 128, 3) := by decide +kernel
theorem dX3_boundOfProduct_13 : decode cX3_boundOfProduct 13 = .ok (.lcmp, 1) := by decide +kernel
theorem dX3_boundOfProduct_14 : decode cX3_boundOfProduct 14 = .ok (.ifCond .ne 7, 3) := by decide +kernel
theorem dX3_boundOfProduct_17 : decode cX3_boundOfProduct 17 = .ok (.ldc2_w 128, 3) := by decide +kernel
theorem dX3_boundOfProduct_20 : decode cX3_boundOfProduct 20 = .ok (.lreturn, 1) := by decide +kernel
theorem dX3_boundOfProduct_21 : decode cX3_boundOfProduct 21 = .ok (.aload_n 0, 1) := by decide +kernel
theorem dX3_boundOfProduct_22 : decode cX3_boundOfProduct 22 = .ok (.getfield 9, 3) := by decide +kernel
theorem dX3_boundOfProduct_25 : decode cX3_boundOfProduct 25 = .ok (.getfield 87, 3) := by decide +kernel
theorem dX3_boundOfProduct_28 : decode cX3_boundOfProduct 28 = .ok (.aload_n 1, 1) := by decide +kernel
theorem dX3_boundOfProduct_29 : decode cX3_boundOfProduct 29 = .ok (.getfield 106, 3) := by decide +kernel
theorem dX3_boundOfProduct_32 : decode cX3_boundOfProduct 32 = .ok (.aaload, 1) := by decide +kernel
theorem dX3_boundOfProduct_33 : decode cX3_boundOfProduct 33 = .ok (.getfield 139, 3) := by decide +kernel
theorem dX3_boundOfProduct_36 : decode cX3_boundOfProduct 36 = .ok (.lstore 6, 2) := by decide +kernel
theorem dX3_boundOfProduct_38 : decode cX3_boundOfProduct 38 = .ok (.aload_n 0, 1) := by decide +kernel
theorem dX3_boundOfProduct_39 : decode cX3_boundOfProduct 39 = .ok (.getfield 9, 3) := by decide +kernel
theorem dX3_boundOfProduct_42 : decode cX3_boundOfProduct 42 = .ok (.getfield 87, 3) := by decide +kernel
theorem dX3_boundOfProduct_45 : decode cX3_boundOfProduct 45 = .ok (.aload_n 1, 1) := by decide +kernel
theorem dX3_boundOfProduct_46 : decode cX3_boundOfProduct 46 = .ok (.getfield 115, 3) := by decide +kernel
theorem dX3_boundOfProduct_49 : decode cX3_boundOfProduct 49 = .ok (.aaload, 1) := by decide +kernel
theorem dX3_boundOfProduct_50 : decode cX3_boundOfProduct 50 = .ok (.getfield 139, 3) := by decide +kernel
theorem dX3_boundOfProduct_53 : decode cX3_boundOfProduct 53 = .ok (.lstore 8, 2) := by decide +kernel
theorem dX3_boundOfProduct_55 : decode cX3_boundOfProduct 55 = .ok (.lload 6, 2) := by decide +kernel
theorem dX3_boundOfProduct_57 : decode cX3_boundOfProduct 57 = .ok (.lload 4, 2) := by decide +kernel
theorem dX3_boundOfProduct_59 : decode cX3_boundOfProduct 59 = .ok (.lmul, 1) := by decide +kernel
theorem dX3_boundOfProduct_60 : decode cX3_boundOfProduct 60 = .ok (.lload 8, 2) := by decide +kernel
theorem dX3_boundOfProduct_62 : decode cX3_boundOfProduct 62 = .ok (.lload_n 2, 1) := by decide +kernel
theorem dX3_boundOfProduct_63 : decode cX3_boundOfProduct 63 = .ok (.lmul, 1) := by decide +kernel
theorem dX3_boundOfProduct_64 : decode cX3_boundOfProduct 64 = .ok (.ladd, 1) := by decide +kernel
theorem dX3_boundOfProduct_65 : decode cX3_boundOfProduct 65 = .ok (.lload_n 2, 1) := by decide +kernel
theorem dX3_boundOfProduct_66 : decode cX3_boundOfProduct 66 = .ok (.lload 4, 2) := by decide +kernel
theorem dX3_boundOfProduct_68 : decode cX3_boundOfProduct 68 = .ok (.lmul, 1) := by decide +kernel
theorem dX3_boundOfProduct_69 : decode cX3_boundOfProduct 69 = .ok (.ladd, 1) := by decide +kernel
theorem dX3_boundOfProduct_70 : decode cX3_boundOfProduct 70 = .ok (.lstore 10, 2) := by decide +kernel
theorem dX3_boundOfProduct_72 : decode cX3_boundOfProduct 72 = .ok (.lload 10, 2) := by decide +kernel
theorem dX3_boundOfProduct_74 : decode cX3_boundOfProduct 74 = .ok (.ldc2_w 143, 3) := by decide +kernel
theorem dX3_boundOfProduct_77 : decode cX3_boundOfProduct 77 = .ok (.ladd, 1) := by decide +kernel
theorem dX3_boundOfProduct_78 : decode cX3_boundOfProduct 78 = .ok (.bipush 16, 2) := by decide +kernel
theorem dX3_boundOfProduct_80 : decode cX3_boundOfProduct 80 = .ok (.lshr, 1) := by decide +kernel
theorem dX3_boundOfProduct_81 : decode cX3_boundOfProduct 81 = .ok (.lreturn, 1) := by decide +kernel
theorem dX3_roundingMiss_0 : decode cX3_roundingMiss 0 = .ok (.ldc2_w 145, 3) := by decide +kernel
theorem dX3_roundingMiss_3 : decode cX3_roundingMiss 3 = .ok (.iload_n 1, 1) := by decide +kernel
theorem dX3_roundingMiss_4 : decode cX3_roundingMiss 4 = .ok (.lshr, 1) := by decide +kernel
theorem dX3_roundingMiss_5 : decode cX3_roundingMiss 5 = .ok (.lstore_n 2, 1) := by decide +kernel
theorem dX3_roundingMiss_6 : decode cX3_roundingMiss 6 = .ok (.iload_n 0, 1) := by decide +kernel
theorem dX3_roundingMiss_7 : decode cX3_roundingMiss 7 = .ok (.iconst 1, 1) := by decide +kernel
theorem dX3_roundingMiss_8 : decode cX3_roundingMiss 8 = .ok (.if_icmp .ne 11, 3) := by decide +kernel
theorem dX3_roundingMiss_11 : decode cX3_roundingMiss 11 = .ok (.lload_n 2, 1) := by decide +kernel
theorem dX3_roundingMiss_12 : decode cX3_roundingMiss 12 = .ok (.ldc2_w 147, 3) := by decide +kernel
theorem dX3_roundingMiss_15 : decode cX3_roundingMiss 15 = .ok (.ldiv, 1) := by decide +kernel
theorem dX3_roundingMiss_16 : decode cX3_roundingMiss 16 = .ok (.goto 6, 3) := by decide +kernel
theorem dX3_roundingMiss_19 : decode cX3_roundingMiss 19 = .ok (.lload_n 2, 1) := by decide +kernel
theorem dX3_roundingMiss_20 : decode cX3_roundingMiss 20 = .ok (.lconst 1, 1) := by decide +kernel
theorem dX3_roundingMiss_21 : decode cX3_roundingMiss 21 = .ok (.lsub, 1) := by decide +kernel
theorem dX3_roundingMiss_22 : decode cX3_roundingMiss 22 = .ok (.lreturn, 1) := by decide +kernel
theorem dX4_init_0 : decode cX4_init 0 = .ok (.aload_n 0, 1) := by decide +kernel
theorem dX4_init_1 : decode cX4_init 1 = .ok (.invokespecial 1, 3) := by decide +kernel
theorem dX4_init_4 : decode cX4_init 4 = .ok (.aload_n 0, 1) := by decide +kernel
theorem dX4_init_5 : decode cX4_init 5 = .ok (.new 7, 3) := by decide +kernel
theorem dX4_init_8 : decode cX4_init 8 = .ok (.dup, 1) := by decide +kernel
theorem dX4_init_9 : decode cX4_init 9 = .ok (.invokespecial 9, 3) := by decide +kernel
theorem dX4_init_12 : decode cX4_init 12 = .ok (.putfield 10, 3) := by decide +kernel
theorem dX4_init_15 : decode cX4_init 15 = .ok (.aload_n 0, 1) := by decide +kernel
theorem dX4_init_16 : decode cX4_init 16 = .ok (.new 16, 3) := by decide +kernel
theorem dX4_init_19 : decode cX4_init 19 = .ok (.dup, 1) := by decide +kernel
theorem dX4_init_20 : decode cX4_init 20 = .ok (.aload_n 0, 1) := by decide +kernel
theorem dX4_init_21 : decode cX4_init 21 = .ok (.getfield 10, 3) := by decide +kernel
theorem dX4_init_24 : decode cX4_init 24 = .ok (.invokespecial 18, 3) := by decide +kernel
theorem dX4_init_27 : decode cX4_init 27 = .ok (.putfield 21, 3) := by decide +kernel
theorem dX4_init_30 : decode cX4_init 30 = .ok (.aload_n 0, 1) := by decide +kernel
theorem dX4_init_31 : decode cX4_init 31 = .ok (.new 25, 3) := by decide +kernel
theorem dX4_init_34 : decode cX4_init 34 = .ok (.dup, 1) := by decide +kernel
theorem dX4_init_35 : decode cX4_init 35 = .ok (.aload_n 0, 1) := by decide +kernel
theorem dX4_init_36 : decode cX4_init 36 = .ok (.getfield 10, 3) := by decide +kernel
theorem dX4_init_39 : decode cX4_init 39 = .ok (.invokespecial 27, 3) := by decide +kernel
theorem dX4_init_42 : decode cX4_init 42 = .ok (.putfield 28, 3) := by decide +kernel
theorem dX4_init_45 : decode cX4_init 45 = .ok (.return_, 1) := by decide +kernel
theorem dX4_input_0 : decode cX4_input 0 = .ok (.iload_n 1, 1) := by decide +kernel
theorem dX4_input_1 : decode cX4_input 1 = .ok (.invokestatic 32, 3) := by decide +kernel
theorem dX4_input_4 : decode cX4_input 4 = .ok (.ifCond .eq 15, 3) := by decide +kernel
theorem dX4_input_7 : decode cX4_input 7 = .ok (.iload_n 2, 1) := by decide +kernel
theorem dX4_input_8 : decode cX4_input 8 = .ok (.invokestatic 32, 3) := by decide +kernel
theorem dX4_input_11 : decode cX4_input 11 = .ok (.ifCond .eq 8, 3) := by decide +kernel
theorem dX4_input_14 : decode cX4_input 14 = .ok (.iload_n 1, 1) := by decide +kernel
theorem dX4_input_15 : decode cX4_input 15 = .ok (.iload_n 2, 1) := by decide +kernel
theorem dX4_input_16 : decode cX4_input 16 = .ok (.if_icmp .le 6, 3) := by decide +kernel
theorem dX4_input_19 : decode cX4_input 19 = .ok (.bipush (-2), 2) := by decide +kernel
theorem dX4_input_21 : decode cX4_input 21 = .ok (.ireturn, 1) := by decide +kernel
theorem dX4_input_22 : decode cX4_input 22 = .ok (.aload_n 0, 1) := by decide +kernel
theorem dX4_input_23 : decode cX4_input 23 = .ok (.getfield 10, 3) := by decide +kernel
theorem dX4_input_26 : decode cX4_input 26 = .ok (.iconst 0, 1) := by decide +kernel
theorem dX4_input_27 : decode cX4_input 27 = .ok (.iload_n 1, 1) := by decide +kernel
theorem dX4_input_28 : decode cX4_input 28 = .ok (.iload_n 2, 1) := by decide +kernel
theorem dX4_input_29 : decode cX4_input 29 = .ok (.invokevirtual 36, 3) := by decide +kernel
theorem dX4_input_32 : decode cX4_input 32 = .ok (.ireturn, 1) := by decide +kernel
theorem dX4_fixed_0 : decode cX4_fixed 0 = .ok (.iload_n 1, 1) := by decide +kernel
theorem dX4_fixed_1 : decode cX4_fixed 1 = .ok (.invokestatic 32, 3) := by decide +kernel
theorem dX4_fixed_4 : decode cX4_fixed 4 = .ok (.ifCond .ne 6, 3) := by decide +kernel
theorem dX4_fixed_7 : decode cX4_fixed 7 = .ok (.bipush (-2), 2) := by decide +kernel
theorem dX4_fixed_9 : decode cX4_fixed 9 = .ok (.ireturn, 1) := by decide +kernel
theorem dX4_fixed_10 : decode cX4_fixed 10 = .ok (.aload_n 0, 1) := by decide +kernel
theorem dX4_fixed_11 : decode cX4_fixed 11 = .ok (.getfield 10, 3) := by decide +kernel
theorem dX4_fixed_14 : decode cX4_fixed 14 = .ok (.iconst 1, 1) := by decide +kernel
theorem dX4_fixed_15 : decode cX4_fixed 15 = .ok (.iload_n 1, 1) := by decide +kernel
theorem dX4_fixed_16 : decode cX4_fixed 16 = .ok (.iconst 0, 1) := by decide +kernel
theorem dX4_fixed_17 : decode cX4_fixed 17 = .ok (.invokevirtual 36, 3) := by decide +kernel
theorem dX4_fixed_20 : decode cX4_fixed 20 = .ok (.ireturn, 1) := by decide +kernel
theorem dX4_work_0 : decode cX4_work 0 = .ok (.iload_n 1, 1) := by decide +kernel
theorem dX4_work_1 : decode cX4_work 1 = .ok (.iconst 2, 1) := by decide +kernel
theorem dX4_work_2 : decode cX4_work 2 = .ok (.if_icmp .lt 20, 3) := by decide +kernel
theorem dX4_work_5 : decode cX4_work 5 = .ok (.iload_n 1, 1) := by decide +kernel
theorem dX4_work_6 : decode cX4_work 6 = .ok (.bipush 7, 2) := by decide +kernel
theorem dX4_work_8 : decode cX4_work 8 = .ok (.if_icmp .gt 14, 3) := by decide +kernel
theorem dX4_work_11 : decode cX4_work 11 = .ok (.aload_n 0, 1) := by decide +kernel
theorem dX4_work_12 : decode cX4_work 12 = .ok (.getfield 10, 3) := by decide +kernel
theorem dX4_work_15 : decode cX4_work 15 = .ok (.iload_n 2, 1) := by decide +kernel
theorem dX4_work_16 : decode cX4_work 16 = .ok (.invokevirtual 40, 3) := by decide +kernel
theorem dX4_work_19 : decode cX4_work 19 = .ok (.ifCond .ne 6, 3) := by decide +kernel
theorem dX4_work_22 : decode cX4_work 22 = .ok (.bipush (-2), 2) := by decide +kernel
theorem dX4_work_24 : decode cX4_work 24 = .ok (.ireturn, 1) := by decide +kernel
theorem dX4_work_25 : decode cX4_work 25 = .ok (.iload_n 1, 1) := by decide +kernel
theorem dX4_work_26 : decode cX4_work 26 = .ok (.invokestatic 43, 3) := by decide +kernel
theorem dX4_work_29 : decode cX4_work 29 = .ok (.ifCond .eq 14, 3) := by decide +kernel
theorem dX4_work_32 : decode cX4_work 32 = .ok (.aload_n 0, 1) := by decide +kernel
theorem dX4_work_33 : decode cX4_work 33 = .ok (.getfield 10, 3) := by decide +kernel
theorem dX4_work_36 : decode cX4_work 36 = .ok (.iload_n 3, 1) := by decide +kernel
theorem dX4_work_37 : decode cX4_work 37 = .ok (.invokevirtual 40, 3) := by decide +kernel
theorem dX4_work_40 : decode cX4_work 40 = .ok (.goto 12, 3) := by decide +kernel
theorem dX4_work_43 : decode cX4_work 43 = .ok (.iload_n 3, 1) := by decide +kernel
theorem dX4_work_44 : decode cX4_work 44 = .ok (.ifCond .ne 7, 3) := by decide +kernel
theorem dX4_work_47 : decode cX4_work 47 = .ok (.iconst 1, 1) := by decide +kernel
theorem dX4_work_48 : decode cX4_work 48 = .ok (.goto 4, 3) := by decide +kernel
theorem dX4_work_51 : decode cX4_work 51 = .ok (.iconst 0, 1) := by decide +kernel
theorem dX4_work_52 : decode cX4_work 52 = .ok (.istore 4, 2) := by decide +kernel
theorem dX4_work_54 : decode cX4_work 54 = .ok (.iload 4, 2) := by decide +kernel
theorem dX4_work_56 : decode cX4_work 56 = .ok (.ifCond .eq 16, 3) := by decide +kernel
theorem dX4_work_59 : decode cX4_work 59 = .ok (.aload_n 0, 1) := by decide +kernel
theorem dX4_work_60 : decode cX4_work 60 = .ok (.getfield 10, 3) := by decide +kernel
theorem dX4_work_63 : decode cX4_work 63 = .ok (.iload_n 1, 1) := by decide +kernel
theorem dX4_work_64 : decode cX4_work 64 = .ok (.iload_n 2, 1) := by decide +kernel
theorem dX4_work_65 : decode cX4_work 65 = .ok (.iload_n 3, 1) := by decide +kernel
theorem dX4_work_66 : decode cX4_work 66 = .ok (.invokevirtual 46, 3) := by decide +kernel
theorem dX4_work_69 : decode cX4_work 69 = .ok (.goto 5, 3) := by decide +kernel
theorem dX4_work_72 : decode cX4_work 72 = .ok (.bipush (-2), 2) := by decide +kernel
theorem dX4_work_74 : decode cX4_work 74 = .ok (.ireturn, 1) := by decide +kernel
theorem dX4_cut_0 : decode cX4_cut 0 = .ok (.iload_n 1, 1) := by decide +kernel
theorem dX4_cut_1 : decode cX4_cut 1 = .ok (.ifCond .lt 14, 3) := by decide +kernel
theorem dX4_cut_4 : decode cX4_cut 4 = .ok (.iload_n 1, 1) := by decide +kernel
theorem dX4_cut_5 : decode cX4_cut 5 = .ok (.aload_n 0, 1) := by decide +kernel
theorem dX4_cut_6 : decode cX4_cut 6 = .ok (.getfield 10, 3) := by decide +kernel
theorem dX4_cut_9 : decode cX4_cut 9 = .ok (.getfield 49, 3) := by decide +kernel
theorem dX4_cut_12 : decode cX4_cut 12 = .ok (.if_icmp .le 6, 3) := by decide +kernel
theorem dX4_cut_15 : decode cX4_cut 15 = .ok (.bipush (-2), 2) := by decide +kernel
theorem dX4_cut_17 : decode cX4_cut 17 = .ok (.ireturn, 1) := by decide +kernel
theorem dX4_cut_18 : decode cX4_cut 18 = .ok (.aload_n 0, 1) := by decide +kernel
theorem dX4_cut_19 : decode cX4_cut 19 = .ok (.getfield 10, 3) := by decide +kernel
theorem dX4_cut_22 : decode cX4_cut 22 = .ok (.getfield 49, 3) := by decide +kernel
theorem dX4_cut_25 : decode cX4_cut 25 = .ok (.iload_n 1, 1) := by decide +kernel
theorem dX4_cut_26 : decode cX4_cut 26 = .ok (.isub, 1) := by decide +kernel
theorem dX4_cut_27 : decode cX4_cut 27 = .ok (.istore_n 2, 1) := by decide +kernel
theorem dX4_cut_28 : decode cX4_cut 28 = .ok (.aload_n 0, 1) := by decide +kernel
theorem dX4_cut_29 : decode cX4_cut 29 = .ok (.getfield 10, 3) := by decide +kernel
theorem dX4_cut_32 : decode cX4_cut 32 = .ok (.iload_n 1, 1) := by decide +kernel
theorem dX4_cut_33 : decode cX4_cut 33 = .ok (.putfield 49, 3) := by decide +kernel
theorem dX4_cut_36 : decode cX4_cut 36 = .ok (.iload_n 2, 1) := by decide +kernel
theorem dX4_cut_37 : decode cX4_cut 37 = .ok (.ireturn, 1) := by decide +kernel
theorem dX4_bits_0 : decode cX4_bits 0 = .ok (.aload_n 0, 1) := by decide +kernel
theorem dX4_bits_1 : decode cX4_bits 1 = .ok (.getfield 10, 3) := by decide +kernel
theorem dX4_bits_4 : decode cX4_bits 4 = .ok (.iload_n 1, 1) := by decide +kernel
theorem dX4_bits_5 : decode cX4_bits 5 = .ok (.invokevirtual 53, 3) := by decide +kernel
theorem dX4_bits_8 : decode cX4_bits 8 = .ok (.ifCond .eq 13, 3) := by decide +kernel
theorem dX4_bits_11 : decode cX4_bits 11 = .ok (.iload_n 2, 1) := by decide +kernel
theorem dX4_bits_12 : decode cX4_bits 12 = .ok (.ifCond .lt 9, 3) := by decide +kernel
theorem dX4_bits_15 : decode cX4_bits 15 = .ok (.iload_n 2, 1) := by decide +kernel
theorem dX4_bits_16 : decode cX4_bits 16 = .ok (.bipush 16, 2) := by decide +kernel
theorem dX4_bits_18 : decode cX4_bits 18 = .ok (.if_icmp .le 6, 3) := by decide +kernel
theorem dX4_bits_21 : decode cX4_bits 21 = .ok (.bipush (-2), 2) := by decide +kernel
theorem dX4_bits_23 : decode cX4_bits 23 = .ok (.ireturn, 1) := by decide +kernel
theorem dX4_bits_24 : decode cX4_bits 24 = .ok (.aload_n 0, 1) := by decide +kernel
theorem dX4_bits_25 : decode cX4_bits 25 = .ok (.getfield 10, 3) := by decide +kernel
theorem dX4_bits_28 : decode cX4_bits 28 = .ok (.getfield 56, 3) := by decide +kernel
theorem dX4_bits_31 : decode cX4_bits 31 = .ok (.iload_n 1, 1) := by decide +kernel
theorem dX4_bits_32 : decode cX4_bits 32 = .ok (.aaload, 1) := by decide +kernel
theorem dX4_bits_33 : decode cX4_bits 33 = .ok (.astore_n 3, 1) := by decide +kernel
theorem dX4_bits_34 : decode cX4_bits 34 = .ok (.aload_n 3, 1) := by decide +kernel
theorem dX4_bits_35 : decode cX4_bits 35 = .ok (.getfield 60, 3) := by decide +kernel
theorem dX4_bits_38 : decode cX4_bits 38 = .ok (.istore 4, 2) := by decide +kernel
theorem dX4_bits_40 : decode cX4_bits 40 = .ok (.aload_n 3, 1) := by decide +kernel
theorem dX4_bits_41 : decode cX4_bits 41 = .ok (.iload_n 2, 1) := by decide +kernel
theorem dX4_bits_42 : decode cX4_bits 42 = .ok (.putfield 60, 3) := by decide +kernel
theorem dX4_bits_45 : decode cX4_bits 45 = .ok (.iload 4, 2) := by decide +kernel
theorem dX4_bits_47 : decode cX4_bits 47 = .ok (.ireturn, 1) := by decide +kernel
theorem dX4_rounding_0 : decode cX4_rounding 0 = .ok (.aload_n 0, 1) := by decide +kernel
theorem dX4_rounding_1 : decode cX4_rounding 1 = .ok (.getfield 10, 3) := by decide +kernel
theorem dX4_rounding_4 : decode cX4_rounding 4 = .ok (.iload_n 1, 1) := by decide +kernel
theorem dX4_rounding_5 : decode cX4_rounding 5 = .ok (.invokevirtual 53, 3) := by decide +kernel
theorem dX4_rounding_8 : decode cX4_rounding 8 = .ok (.ifCond .eq 12, 3) := by decide +kernel
theorem dX4_rounding_11 : decode cX4_rounding 11 = .ok (.iload_n 2, 1) := by decide +kernel
theorem dX4_rounding_12 : decode cX4_rounding 12 = .ok (.ifCond .lt 8, 3) := by decide +kernel
theorem dX4_rounding_15 : decode cX4_rounding 15 = .ok (.iload_n 2, 1) := by decide +kernel
theorem dX4_rounding_16 : decode cX4_rounding 16 = .ok (.iconst 2, 1) := by decide +kernel
theorem dX4_rounding_17 : decode cX4_rounding 17 = .ok (.if_icmp .le 6, 3) := by decide +kernel
theorem dX4_rounding_20 : decode cX4_rounding 20 = .ok (.bipush (-2), 2) := by decide +kernel
theorem dX4_rounding_22 : decode cX4_rounding 22 = .ok (.ireturn, 1) := by decide +kernel
theorem dX4_rounding_23 : decode cX4_rounding 23 = .ok (.aload_n 0, 1) := by decide +kernel
theorem dX4_rounding_24 : decode cX4_rounding 24 = .ok (.getfield 10, 3) := by decide +kernel
theorem dX4_rounding_27 : decode cX4_rounding 27 = .ok (.getfield 56, 3) := by decide +kernel
theorem dX4_rounding_30 : decode cX4_rounding 30 = .ok (.iload_n 1, 1) := by decide +kernel
theorem dX4_rounding_31 : decode cX4_rounding 31 = .ok (.aaload, 1) := by decide +kernel
theorem dX4_rounding_32 : decode cX4_rounding 32 = .ok (.astore_n 3, 1) := by decide +kernel
theorem dX4_rounding_33 : decode cX4_rounding 33 = .ok (.aload_n 3, 1) := by decide +kernel
theorem dX4_rounding_34 : decode cX4_rounding 34 = .ok (.getfield 65, 3) := by decide +kernel
theorem dX4_rounding_37 : decode cX4_rounding 37 = .ok (.istore 4, 2) := by decide +kernel
theorem dX4_rounding_39 : decode cX4_rounding 39 = .ok (.aload_n 3, 1) := by decide +kernel
theorem dX4_rounding_40 : decode cX4_rounding 40 = .ok (.iload_n 2, 1) := by decide +kernel
theorem dX4_rounding_41 : decode cX4_rounding 41 = .ok (.putfield 65, 3) := by decide +kernel
theorem dX4_rounding_44 : decode cX4_rounding 44 = .ok (.iload 4, 2) := by decide +kernel
theorem dX4_rounding_46 : decode cX4_rounding 46 = .ok (.ireturn, 1) := by decide +kernel
theorem dX4_weight_0 : decode cX4_weight 0 = .ok (.aload_n 0, 1) := by decide +kernel
theorem dX4_weight_1 : decode cX4_weight 1 = .ok (.getfield 10, 3) := by decide +kernel
theorem dX4_weight_4 : decode cX4_weight 4 = .ok (.iload_n 1, 1) := by decide +kernel
theorem dX4_weight_5 : decode cX4_weight 5 = .ok (.invokevirtual 53, 3) := by decide +kernel
theorem dX4_weight_8 : decode cX4_weight 8 = .ok (.ifCond .eq 13, 3) := by decide +kernel
theorem dX4_weight_11 : decode cX4_weight 11 = .ok (.iload_n 2, 1) := by decide +kernel
theorem dX4_weight_12 : decode cX4_weight 12 = .ok (.ifCond .lt 9, 3) := by decide +kernel
theorem dX4_weight_15 : decode cX4_weight 15 = .ok (.iload_n 2, 1) := by decide +kernel
theorem dX4_weight_16 : decode cX4_weight 16 = .ok (.bipush 100, 2) := by decide +kernel
theorem dX4_weight_18 : decode cX4_weight 18 = .ok (.if_icmp .le 6, 3) := by decide +kernel
theorem dX4_weight_21 : decode cX4_weight 21 = .ok (.bipush (-2), 2) := by decide +kernel
theorem dX4_weight_23 : decode cX4_weight 23 = .ok (.ireturn, 1) := by decide +kernel
theorem dX4_weight_24 : decode cX4_weight 24 = .ok (.aload_n 0, 1) := by decide +kernel
theorem dX4_weight_25 : decode cX4_weight 25 = .ok (.getfield 10, 3) := by decide +kernel
theorem dX4_weight_28 : decode cX4_weight 28 = .ok (.getfield 56, 3) := by decide +kernel
theorem dX4_weight_31 : decode cX4_weight 31 = .ok (.iload_n 1, 1) := by decide +kernel
theorem dX4_weight_32 : decode cX4_weight 32 = .ok (.aaload, 1) := by decide +kernel
theorem dX4_weight_33 : decode cX4_weight 33 = .ok (.astore_n 3, 1) := by decide +kernel
theorem dX4_weight_34 : decode cX4_weight 34 = .ok (.aload_n 3, 1) := by decide +kernel
theorem dX4_weight_35 : decode cX4_weight 35 = .ok (.getfield 68, 3) := by decide +kernel
theorem dX4_weight_38 : decode cX4_weight 38 = .ok (.istore 4, 2) := by decide +kernel
theorem dX4_weight_40 : decode cX4_weight 40 = .ok (.aload_n 3, 1) := by decide +kernel
theorem dX4_weight_41 : decode cX4_weight 41 = .ok (.iload_n 2, 1) := by decide +kernel
theorem dX4_weight_42 : decode cX4_weight 42 = .ok (.putfield 68, 3) := by decide +kernel
theorem dX4_weight_45 : decode cX4_weight 45 = .ok (.iload 4, 2) := by decide +kernel
theorem dX4_weight_47 : decode cX4_weight 47 = .ok (.ireturn, 1) := by decide +kernel
theorem dX4_about_0 : decode cX4_about 0 = .ok (.aload_n 0, 1) := by decide +kernel
theorem dX4_about_1 : decode cX4_about 1 = .ok (.getfield 10, 3) := by decide +kernel
theorem dX4_about_4 : decode cX4_about 4 = .ok (.iload_n 1, 1) := by decide +kernel
theorem dX4_about_5 : decode cX4_about 5 = .ok (.invokevirtual 40, 3) := by decide +kernel
theorem dX4_about_8 : decode cX4_about 8 = .ok (.ifCond .ne 9, 3) := by decide +kernel
theorem dX4_about_11 : decode cX4_about 11 = .ok (.bipush (-2), 2) := by decide +kernel
theorem dX4_about_13 : decode cX4_about 13 = .ok (.invokestatic 71, 3) := by decide +kernel
theorem dX4_about_16 : decode cX4_about 16 = .ok (.lreturn, 1) := by decide +kernel
theorem dX4_about_17 : decode cX4_about 17 = .ok (.aload_n 0, 1) := by decide +kernel
theorem dX4_about_18 : decode cX4_about 18 = .ok (.getfield 10, 3) := by decide +kernel
theorem dX4_about_21 : decode cX4_about 21 = .ok (.getfield 56, 3) := by decide +kernel
theorem dX4_about_24 : decode cX4_about 24 = .ok (.iload_n 1, 1) := by decide +kernel
theorem dX4_about_25 : decode cX4_about 25 = .ok (.aaload, 1) := by decide +kernel
theorem dX4_about_26 : decode cX4_about 26 = .ok (.astore_n 3, 1) := by decide +kernel
theorem dX4_about_27 : decode cX4_about 27 = .ok (.iload_n 2, 1) := by decide +kernel
theorem dX4_about_28 : decode cX4_about 28 = .ok (.tableswitch 117 0 9 #[56, 62, 68, 74, 80, 86, 92, 98, 103, 108], 56) := by decide +kernel
theorem dX4_about_84 : decode cX4_about 84 = .ok (.aload_n 3, 1) := by decide +kernel
theorem dX4_about_85 : decode cX4_about 85 = .ok (.getfield 75, 3) := by decide +kernel
theorem dX4_about_88 : decode cX4_about 88 = .ok (.i2l, 1) := by decide +kernel
theorem dX4_about_89 : decode cX4_about 89 = .ok (.lreturn, 1) := by decide +kernel
theorem dX4_about_90 : decode cX4_about 90 = .ok (.aload_n 3, 1) := by decide +kernel
theorem dX4_about_91 : decode cX4_about 91 = .ok (.getfield 78, 3) := by decide +kernel
theorem dX4_about_94 : decode cX4_about 94 = .ok (.i2l, 1) := by decide +kernel
theorem dX4_about_95 : decode cX4_about 95 = .ok (.lreturn, 1) := by decide +kernel
theorem dX4_about_96 : decode cX4_about 96 = .ok (.aload_n 3, 1) := by decide +kernel
theorem dX4_about_97 : decode cX4_about 97 = .ok (.getfield 81, 3) := by decide +kernel
theorem dX4_about_100 : decode cX4_about 100 = .ok (.i2l, 1) := by decide +kernel
theorem dX4_about_101 : decode cX4_about 101 = .ok (.lreturn, 1) := by decide +kernel
theorem dX4_about_102 : decode cX4_about 102 = .ok (.aload_n 3, 1) := by decide +kernel
theorem dX4_about_103 : decode cX4_about 103 = .ok (.getfield 84, 3) := by decide +kernel
theorem dX4_about_106 : decode cX4_about 106 = .ok (.i2l, 1) := by decide +kernel
theorem dX4_about_107 : decode cX4_about 107 = .ok (.lreturn, 1) := by decide +kernel
theorem dX4_about_108 : decode cX4_about 108 = .ok (.aload_n 3, 1) := by decide +kernel
theorem dX4_about_109 : decode cX4_about 109 = .ok (.getfield 60, 3) := by decide +kernel
theorem dX4_about_112 : decode cX4_about 112 = .ok (.i2l, 1) := by decide +kernel
theorem dX4_about_113 : decode cX4_about 113 = .ok (.lreturn, 1) := by decide +kernel
theorem dX4_about_114 : decode cX4_about 114 = .ok (.aload_n 3, 1) := by decide +kernel
theorem dX4_about_115 : decode cX4_about 115 = .ok (.getfield 65, 3) := by decide +kernel
theorem dX4_about_118 : decode cX4_about 118 = .ok (.i2l, 1) := by decide +kernel
theorem dX4_about_119 : decode cX4_about 119 = .ok (.lreturn, 1) := by decide +kernel
theorem dX4_about_120 : decode cX4_about 120 = .ok (.aload_n 3, 1) := by decide +kernel
theorem dX4_about_121 : decode cX4_about 121 = .ok (.getfield 68, 3) := by decide +kernel
theorem dX4_about_124 : decode cX4_about 124 = .ok (.i2l, 1) := by decide +kernel
theorem dX4_about_125 : decode cX4_about 125 = .ok (.lreturn, 1) := by decide +kernel
theorem dX4_about_126 : decode cX4_about 126 = .ok (.aload_n 3, 1) := by decide +kernel
theorem dX4_about_127 : decode cX4_about 127 = .ok (.getfield 87, 3) := by decide +kernel
theorem dX4_about_130 : decode cX4_about 130 = .ok (.lreturn, 1) := by decide +kernel
theorem dX4_about_131 : decode cX4_about 131 = .ok (.aload_n 3, 1) := by decide +kernel
theorem dX4_about_132 : decode cX4_about 132 = .ok (.getfield 91, 3) := by decide +kernel
theorem dX4_about_135 : decode cX4_about 135 = .ok (.lreturn, 1) := by decide +kernel
theorem dX4_about_136 : decode cX4_about 136 = .ok (.aload_n 0, 1) := by decide +kernel
theorem dX4_about_137 : decode cX4_about 137 = .ok (.getfield 28, 3) := by decide +kernel
theorem dX4_about_140 : decode cX4_about 140 = .ok (.iload_n 1, 1) := by decide +kernel
theorem dX4_about_141 : decode cX4_about 141 = .ok (.invokevirtual 94, 3) := by decide +kernel
theorem dX4_about_144 : decode cX4_about 144 = .ok (.lreturn, 1) := by decide +kernel
theorem dX4_about_145 : decode cX4_about 145 = .ok (.bipush (-2), 2) := by decide +kernel
theorem dX4_about_147 : decode cX4_about 147 = .ok (.invokestatic 71, 3) := by decide +kernel
theorem dX4_about_150 : decode cX4_about 150 = .ok (.lreturn, 1) := by decide +kernel
theorem dX4_price_0 : decode cX4_price 0 = .ok (.aload_n 0, 1) := by decide +kernel
theorem dX4_price_1 : decode cX4_price 1 = .ok (.getfield 10, 3) := by decide +kernel
theorem dX4_price_4 : decode cX4_price 4 = .ok (.invokevirtual 97, 3) := by decide +kernel
theorem dX4_price_7 : decode cX4_price 7 = .ok (.ireturn, 1) := by decide +kernel
theorem dX4_set_0 : decode cX4_set 0 = .ok (.aload_n 0, 1) := by decide +kernel
theorem dX4_set_1 : decode cX4_set 1 = .ok (.getfield 10, 3) := by decide +kernel
theorem dX4_set_4 : decode cX4_set 4 = .ok (.iload_n 1, 1) := by decide +kernel
theorem dX4_set_5 : decode cX4_set 5 = .ok (.invokevirtual 101, 3) := by decide +kernel
theorem dX4_set_8 : decode cX4_set 8 = .ok (.ifCond .eq 10, 3) := by decide +kernel
theorem dX4_set_11 : decode cX4_set 11 = .ok (.iload_n 2, 1) := by decide +kernel
theorem dX4_set_12 : decode cX4_set 12 = .ok (.invokestatic 104, 3) := by decide +kernel
theorem dX4_set_15 : decode cX4_set 15 = .ok (.ifCond .ne 6, 3) := by decide +kernel
theorem dX4_set_18 : decode cX4_set 18 = .ok (.bipush (-2), 2) := by decide +kernel
theorem dX4_set_20 : decode cX4_set 20 = .ok (.ireturn, 1) := by decide +kernel
theorem dX4_set_21 : decode cX4_set 21 = .ok (.aload_n 0, 1) := by decide +kernel
theorem dX4_set_22 : decode cX4_set 22 = .ok (.getfield 10, 3) := by decide +kernel
theorem dX4_set_25 : decode cX4_set 25 = .ok (.getfield 56, 3) := by decide +kernel
theorem dX4_set_28 : decode cX4_set 28 = .ok (.iload_n 1, 1) := by decide +kernel
theorem dX4_set_29 : decode cX4_set 29 = .ok (.aaload, 1) := by decide +kernel
theorem dX4_set_30 : decode cX4_set 30 = .ok (.astore_n 3, 1) := by decide +kernel
theorem dX4_set_31 : decode cX4_set 31 = .ok (.iload_n 2, 1) := by decide +kernel
theorem dX4_set_32 : decode cX4_set 32 = .ok (.i2l, 1) := by decide +kernel
theorem dX4_set_33 : decode cX4_set 33 = .ok (.aload_n 3, 1) := by decide +kernel
theorem dX4_set_34 : decode cX4_set 34 = .ok (.getfield 87, 3) := by decide +kernel
theorem dX4_set_37 : decode cX4_set 37 = .ok (.lcmp, 1) := by decide +kernel
theorem dX4_set_38 : decode cX4_set 38 = .ok (.ifCond .lt 13, 3) := by decide +kernel
theorem dX4_set_41 : decode cX4_set 41 = .ok (.iload_n 2, 1) := by decide +kernel
theorem dX4_set_42 : decode cX4_set 42 = .ok (.i2l, 1) := by decide +kernel
theorem dX4_set_43 : decode cX4_set 43 = .ok (.aload_n 3, 1) := by decide +kernel
theorem dX4_set_44 : decode cX4_set 44 = .ok (.getfield 91, 3) := by decide +kernel
theorem dX4_set_47 : decode cX4_set 47 = .ok (.lcmp, 1) := by decide +kernel
theorem dX4_set_48 : decode cX4_set 48 = .ok (.ifCond .le 6, 3) := by decide +kernel
theorem dX4_set_51 : decode cX4_set 51 = .ok (.bipush (-2), 2) := by decide +kernel
theorem dX4_set_53 : decode cX4_set 53 = .ok (.ireturn, 1) := by decide +kernel
theorem dX4_set_54 : decode cX4_set 54 = .ok (.aload_n 3, 1) := by decide +kernel
theorem dX4_set_55 : decode cX4_set 55 = .ok (.iload_n 2, 1) := by decide +kernel
theorem dX4_set_56 : decode cX4_set 56 = .ok (.putfield 107, 3) := by decide +kernel
theorem dX4_set_59 : decode cX4_set 59 = .ok (.iconst 1, 1) := by decide +kernel
theorem dX4_set_60 : decode cX4_set 60 = .ok (.ireturn, 1) := by decide +kernel
theorem dX4_enter_0 : decode cX4_enter 0 = .ok (.dload_n 2, 1) := by decide +kernel
theorem dX4_enter_1 : decode cX4_enter 1 = .ok (.ldc2_w 110, 3) := by decide +kernel
theorem dX4_enter_4 : decode cX4_enter 4 = .ok (.dcmp .l, 1) := by decide +kernel
theorem dX4_enter_5 : decode cX4_enter 5 = .ok (.ifCond .lt 11, 3) := by decide +kernel
theorem dX4_enter_8 : decode cX4_enter 8 = .ok (.dload_n 2, 1) := by decide +kernel
theorem dX4_enter_9 : decode cX4_enter 9 = .ok (.ldc2_w 112, 3) := by decide +kernel
theorem dX4_enter_12 : decode cX4_enter 12 = .ok (.dcmp .g, 1) := by decide +kernel
theorem dX4_enter_13 : decode cX4_enter 13 = .ok (.ifCond .le 6, 3) := by decide +kernel
theorem dX4_enter_16 : decode cX4_enter 16 = .ok (.bipush (-2), 2) := by decide +kernel
theorem dX4_enter_18 : decode cX4_enter 18 = .ok (.ireturn, 1) := by decide +kernel
theorem dX4_enter_19 : decode cX4_enter 19 = .ok (.dload_n 2, 1) := by decide +kernel
theorem dX4_enter_20 : decode cX4_enter 20 = .ok (.ldc2_w 114, 3) := by decide +kernel
theorem dX4_enter_23 : decode cX4_enter 23 = .ok (.dmul, 1) := by decide +kernel
theorem dX4_enter_24 : decode cX4_enter 24 = .ok (.dstore 4, 2) := by decide +kernel
theorem dX4_enter_26 : decode cX4_enter 26 = .ok (.dload 4, 2) := by decide +kernel
theorem dX4_enter_28 : decode cX4_enter 28 = .ok (.d2i, 1) := by decide +kernel
theorem dX4_enter_29 : decode cX4_enter 29 = .ok (.istore 6, 2) := by decide +kernel
theorem dX4_enter_31 : decode cX4_enter 31 = .ok (.iload 6, 2) := by decide +kernel
theorem dX4_enter_33 : decode cX4_enter 33 = .ok (.i2d, 1) := by decide +kernel
theorem dX4_enter_34 : decode cX4_enter 34 = .ok (.dload 4, 2) := by decide +kernel
theorem dX4_enter_36 : decode cX4_enter 36 = .ok (.dcmp .l, 1) := by decide +kernel
theorem dX4_enter_37 : decode cX4_enter 37 = .ok (.ifCond .eq 6, 3) := by decide +kernel
theorem dX4_enter_40 : decode cX4_enter 40 = .ok (.bipush (-2), 2) := by decide +kernel
theorem dX4_enter_42 : decode cX4_enter 42 = .ok (.ireturn, 1) := by decide +kernel
theorem dX4_enter_43 : decode cX4_enter 43 = .ok (.aload_n 0, 1) := by decide +kernel
theorem dX4_enter_44 : decode cX4_enter 44 = .ok (.iload_n 1, 1) := by decide +kernel
theorem dX4_enter_45 : decode cX4_enter 45 = .ok (.iload 6, 2) := by decide +kernel
theorem dX4_enter_47 : decode cX4_enter 47 = .ok (.sipush 4096, 3) := by decide +kernel
theorem dX4_enter_50 : decode cX4_enter 50 = .ok (.imul, 1) := by decide +kernel
theorem dX4_enter_51 : decode cX4_enter 51 = .ok (.invokevirtual 116, 3) := by decide +kernel
theorem dX4_enter_54 : decode cX4_enter 54 = .ok (.ireturn, 1) := by decide +kernel
theorem dX4_exact_0 : decode cX4_exact 0 = .ok (.aload_n 0, 1) := by decide +kernel
theorem dX4_exact_1 : decode cX4_exact 1 = .ok (.getfield 10, 3) := by decide +kernel
theorem dX4_exact_4 : decode cX4_exact 4 = .ok (.iload_n 1, 1) := by decide +kernel
theorem dX4_exact_5 : decode cX4_exact 5 = .ok (.invokevirtual 40, 3) := by decide +kernel
theorem dX4_exact_8 : decode cX4_exact 8 = .ok (.ifCond .ne 9, 3) := by decide +kernel
theorem dX4_exact_11 : decode cX4_exact 11 = .ok (.bipush (-2), 2) := by decide +kernel
theorem dX4_exact_13 : decode cX4_exact 13 = .ok (.invokestatic 71, 3) := by decide +kernel
theorem dX4_exact_16 : decode cX4_exact 16 = .ok (.lreturn, 1) := by decide +kernel
theorem dX4_exact_17 : decode cX4_exact 17 = .ok (.aload_n 0, 1) := by decide +kernel
theorem dX4_exact_18 : decode cX4_exact 18 = .ok (.getfield 21, 3) := by decide +kernel
theorem dX4_exact_21 : decode cX4_exact 21 = .ok (.iload_n 1, 1) := by decide +kernel
theorem dX4_exact_22 : decode cX4_exact 22 = .ok (.invokevirtual 120, 3) := by decide +kernel
theorem dX4_exact_25 : decode cX4_exact 25 = .ok (.aload_n 0, 1) := by decide +kernel
theorem dX4_exact_26 : decode cX4_exact 26 = .ok (.getfield 21, 3) := by decide +kernel
theorem dX4_exact_29 : decode cX4_exact 29 = .ok (.getfield 124, 3) := by decide +kernel
theorem dX4_exact_32 : decode cX4_exact 32 = .ok (.iload_n 1, 1) := by decide +kernel
theorem dX4_exact_33 : decode cX4_exact 33 = .ok (.laload, 1) := by decide +kernel
theorem dX4_exact_34 : decode cX4_exact 34 = .ok (.lreturn, 1) := by decide +kernel
theorem dX4_tuned_0 : decode cX4_tuned 0 = .ok (.aload_n 0, 1) := by decide +kernel
theorem dX4_tuned_1 : decode cX4_tuned 1 = .ok (.getfield 10, 3) := by decide +kernel
theorem dX4_tuned_4 : decode cX4_tuned 4 = .ok (.iload_n 1, 1) := by decide +kernel
theorem dX4_tuned_5 : decode cX4_tuned 5 = .ok (.invokevirtual 40, 3) := by decide +kernel
theorem dX4_tuned_8 : decode cX4_tuned 8 = .ok (.ifCond .ne 9, 3) := by decide +kernel
theorem dX4_tuned_11 : decode cX4_tuned 11 = .ok (.bipush (-2), 2) := by decide +kernel
theorem dX4_tuned_13 : decode cX4_tuned 13 = .ok (.invokestatic 71, 3) := by decide +kernel
theorem dX4_tuned_16 : decode cX4_tuned 16 = .ok (.lreturn, 1) := by decide +kernel
theorem dX4_tuned_17 : decode cX4_tuned 17 = .ok (.aload_n 0, 1) := by decide +kernel
theorem dX4_tuned_18 : decode cX4_tuned 18 = .ok (.getfield 21, 3) := by decide +kernel
theorem dX4_tuned_21 : decode cX4_tuned 21 = .ok (.iload_n 1, 1) := by decide +kernel
theorem dX4_tuned_22 : decode cX4_tuned 22 = .ok (.invokevirtual 120, 3) := by decide +kernel
theorem dX4_tuned_25 : decode cX4_tuned 25 = .ok (.aload_n 0, 1) := by decide +kernel
theorem dX4_tuned_26 : decode cX4_tuned 26 = .ok (.getfield 21, 3) := by decide +kernel
theorem dX4_tuned_29 : decode cX4_tuned 29 = .ok (.getfield 128, 3) := by decide +kernel
theorem dX4_tuned_32 : decode cX4_tuned 32 = .ok (.iload_n 1, 1) := by decide +kernel
theorem dX4_tuned_33 : decode cX4_tuned 33 = .ok (.laload, 1) := by decide +kernel
theorem dX4_tuned_34 : decode cX4_tuned 34 = .ok (.lreturn, 1) := by decide +kernel
theorem dX4_miss_0 : decode cX4_miss 0 = .ok (.aload_n 0, 1) := by decide +kernel
theorem dX4_miss_1 : decode cX4_miss 1 = .ok (.getfield 10, 3) := by decide +kernel
theorem dX4_miss_4 : decode cX4_miss 4 = .ok (.iload_n 1, 1) := by decide +kernel
theorem dX4_miss_5 : decode cX4_miss 5 = .ok (.invokevirtual 40, 3) := by decide +kernel
theorem dX4_miss_8 : decode cX4_miss 8 = .ok (.ifCond .ne 9, 3) := by decide +kernel
theorem dX4_miss_11 : decode cX4_miss 11 = .ok (.bipush (-2), 2) := by decide +kernel
theorem dX4_miss_13 : decode cX4_miss 13 = .ok (.invokestatic 71, 3) := by decide +kernel
theorem dX4_miss_16 : decode cX4_miss 16 = .ok (.lreturn, 1) := by decide +kernel
theorem dX4_miss_17 : decode cX4_miss 17 = .ok (.aload_n 0, 1) := by decide +kernel
theorem dX4_miss_18 : decode cX4_miss 18 = .ok (.getfield 21, 3) := by decide +kernel
theorem dX4_miss_21 : decode cX4_miss 21 = .ok (.iload_n 1, 1) := by decide +kernel
theorem dX4_miss_22 : decode cX4_miss 22 = .ok (.invokevirtual 120, 3) := by decide +kernel
theorem dX4_miss_25 : decode cX4_miss 25 = .ok (.aload_n 0, 1) := by decide +kernel
theorem dX4_miss_26 : decode cX4_miss 26 = .ok (.getfield 21, 3) := by decide +kernel
theorem dX4_miss_29 : decode cX4_miss 29 = .ok (.iload_n 1, 1) := by decide +kernel
theorem dX4_miss_30 : decode cX4_miss 30 = .ok (.invokevirtual 131, 3) := by decide +kernel
theorem dX4_miss_33 : decode cX4_miss 33 = .ok (.lreturn, 1) := by decide +kernel
theorem dX4_leave_0 : decode cX4_leave 0 = .ok (.aload_n 0, 1) := by decide +kernel
theorem dX4_leave_1 : decode cX4_leave 1 = .ok (.getfield 10, 3) := by decide +kernel
theorem dX4_leave_4 : decode cX4_leave 4 = .ok (.iload_n 1, 1) := by decide +kernel
theorem dX4_leave_5 : decode cX4_leave 5 = .ok (.invokevirtual 40, 3) := by decide +kernel
theorem dX4_leave_8 : decode cX4_leave 8 = .ok (.ifCond .ne 5, 3) := by decide +kernel
theorem dX4_leave_11 : decode cX4_leave 11 = .ok (.dconst 0, 1) := by decide +kernel
theorem dX4_leave_12 : decode cX4_leave 12 = .ok (.dreturn, 1) := by decide +kernel
theorem dX4_leave_13 : decode cX4_leave 13 = .ok (.aload_n 0, 1) := by decide +kernel
theorem dX4_leave_14 : decode cX4_leave 14 = .ok (.getfield 21, 3) := by decide +kernel
theorem dX4_leave_17 : decode cX4_leave 17 = .ok (.iload_n 1, 1) := by decide +kernel
theorem dX4_leave_18 : decode cX4_leave 18 = .ok (.invokevirtual 120, 3) := by decide +kernel
theorem dX4_leave_21 : decode cX4_leave 21 = .ok (.aload_n 0, 1) := by decide +kernel
theorem dX4_leave_22 : decode cX4_leave 22 = .ok (.getfield 21, 3) := by decide +kernel
theorem dX4_leave_25 : decode cX4_leave 25 = .ok (.getfield 128, 3) := by decide +kernel
theorem dX4_leave_28 : decode cX4_leave 28 = .ok (.iload_n 1, 1) := by decide +kernel
theorem dX4_leave_29 : decode cX4_leave 29 = .ok (.laload, 1) := by decide +kernel
theorem dX4_leave_30 : decode cX4_leave 30 = .ok (.l2d, 1) := by decide +kernel
theorem dX4_leave_31 : decode cX4_leave 31 = .ok (.ldc2_w 134, 3) := by decide +kernel
theorem dX4_leave_34 : decode cX4_leave 34 = .ok (.ddiv, 1) := by decide +kernel
theorem dX4_leave_35 : decode cX4_leave 35 = .ok (.dreturn, 1) := by decide +kernel
theorem dX4_narrow_0 : decode cX4_narrow 0 = .ok (.aload_n 0, 1) := by decide +kernel
theorem dX4_narrow_1 : decode cX4_narrow 1 = .ok (.iload_n 1, 1) := by decide +kernel
theorem dX4_narrow_2 : decode cX4_narrow 2 = .ok (.invokevirtual 136, 3) := by decide +kernel
theorem dX4_narrow_5 : decode cX4_narrow 5 = .ok (.d2f, 1) := by decide +kernel
theorem dX4_narrow_6 : decode cX4_narrow 6 = .ok (.freturn, 1) := by decide +kernel
theorem dX4_rows_0 : decode cX4_rows 0 = .ok (.aload_n 0, 1) := by decide +kernel
theorem dX4_rows_1 : decode cX4_rows 1 = .ok (.getfield 21, 3) := by decide +kernel
theorem dX4_rows_4 : decode cX4_rows 4 = .ok (.invokevirtual 140, 3) := by decide +kernel
theorem dX4_rows_7 : decode cX4_rows 7 = .ok (.ireturn, 1) := by decide +kernel
theorem dX4_worst_0 : decode cX4_worst 0 = .ok (.aload_n 0, 1) := by decide +kernel
theorem dX4_worst_1 : decode cX4_worst 1 = .ok (.getfield 10, 3) := by decide +kernel
theorem dX4_worst_4 : decode cX4_worst 4 = .ok (.iload_n 1, 1) := by decide +kernel
theorem dX4_worst_5 : decode cX4_worst 5 = .ok (.invokevirtual 40, 3) := by decide +kernel
theorem dX4_worst_8 : decode cX4_worst 8 = .ok (.ifCond .ne 9, 3) := by decide +kernel
theorem dX4_worst_11 : decode cX4_worst 11 = .ok (.bipush (-2), 2) := by decide +kernel
theorem dX4_worst_13 : decode cX4_worst 13 = .ok (.invokestatic 71, 3) := by decide +kernel
theorem dX4_worst_16 : decode cX4_worst 16 = .ok (.lreturn, 1) := by decide +kernel
theorem dX4_worst_17 : decode cX4_worst 17 = .ok (.aload_n 0, 1) := by decide +kernel
theorem dX4_worst_18 : decode cX4_worst 18 = .ok (.getfield 21, 3) := by decide +kernel
theorem dX4_worst_21 : decode cX4_worst 21 = .ok (.invokevirtual 143, 3) := by decide +kernel
theorem dX4_worst_24 : decode cX4_worst 24 = .ok (.ifCond .ne 9, 3) := by decide +kernel
theorem dX4_worst_27 : decode cX4_worst 27 = .ok (.bipush (-5), 2) := by decide +kernel
theorem dX4_worst_29 : decode cX4_worst 29 = .ok (.invokestatic 71, 3) := by decide +kernel
theorem dX4_worst_32 : decode cX4_worst 32 = .ok (.lreturn, 1) := by decide +kernel
theorem dX4_worst_33 : decode cX4_worst 33 = .ok (.aload_n 0, 1) := by decide +kernel
theorem dX4_worst_34 : decode cX4_worst 34 = .ok (.getfield 21, 3) := by decide +kernel
theorem dX4_worst_37 : decode cX4_worst 37 = .ok (.iload_n 1, 1) := by decide +kernel
theorem dX4_worst_38 : decode cX4_worst 38 = .ok (.invokevirtual 147, 3) := by decide +kernel
theorem dX4_worst_41 : decode cX4_worst 41 = .ok (.lreturn, 1) := by decide +kernel
theorem dX4_worstAt_0 : decode cX4_worstAt 0 = .ok (.iload_n 1, 1) := by decide +kernel
theorem dX4_worstAt_1 : decode cX4_worstAt 1 = .ok (.ifCond .lt 21, 3) := by decide +kernel
theorem dX4_worstAt_4 : decode cX4_worstAt 4 = .ok (.iload_n 1, 1) := by decide +kernel
theorem dX4_worstAt_5 : decode cX4_worstAt 5 = .ok (.bipush 16, 2) := by decide +kernel
theorem dX4_worstAt_7 : decode cX4_worstAt 7 = .ok (.if_icmp .ge 15, 3) := by decide +kernel
theorem dX4_worstAt_10 : decode cX4_worstAt 10 = .ok (.aload_n 0, 1) := by decide +kernel
theorem dX4_worstAt_11 : decode cX4_worstAt 11 = .ok (.getfield 21, 3) := by decide +kernel
theorem dX4_worstAt_14 : decode cX4_worstAt 14 = .ok (.getfield 150, 3) := by decide +kernel
theorem dX4_worstAt_17 : decode cX4_worstAt 17 = .ok (.iload_n 1, 1) := by decide +kernel
theorem dX4_worstAt_18 : decode cX4_worstAt 18 = .ok (.iaload, 1) := by decide +kernel
theorem dX4_worstAt_19 : decode cX4_worstAt 19 = .ok (.goto 5, 3) := by decide +kernel
theorem dX4_worstAt_22 : decode cX4_worstAt 22 = .ok (.bipush (-2), 2) := by decide +kernel
theorem dX4_worstAt_24 : decode cX4_worstAt 24 = .ok (.ireturn, 1) := by decide +kernel
theorem dX4_above_0 : decode cX4_above 0 = .ok (.aload_n 0, 1) := by decide +kernel
theorem dX4_above_1 : decode cX4_above 1 = .ok (.getfield 10, 3) := by decide +kernel
theorem dX4_above_4 : decode cX4_above 4 = .ok (.iload_n 1, 1) := by decide +kernel
theorem dX4_above_5 : decode cX4_above 5 = .ok (.invokevirtual 40, 3) := by decide +kernel
theorem dX4_above_8 : decode cX4_above 8 = .ok (.ifCond .ne 6, 3) := by decide +kernel
theorem dX4_above_11 : decode cX4_above 11 = .ok (.bipush (-2), 2) := by decide +kernel
theorem dX4_above_13 : decode cX4_above 13 = .ok (.ireturn, 1) := by decide +kernel
theorem dX4_above_14 : decode cX4_above 14 = .ok (.aload_n 0, 1) := by decide +kernel
theorem dX4_above_15 : decode cX4_above 15 = .ok (.getfield 21, 3) := by decide +kernel
theorem dX4_above_18 : decode cX4_above 18 = .ok (.invokevirtual 143, 3) := by decide +kernel
theorem dX4_above_21 : decode cX4_above 21 = .ok (.ifCond .eq 15, 3) := by decide +kernel
theorem dX4_above_24 : decode cX4_above 24 = .ok (.aload_n 0, 1) := by decide +kernel
theorem dX4_above_25 : decode cX4_above 25 = .ok (.getfield 21, 3) := by decide +kernel
theorem dX4_above_28 : decode cX4_above 28 = .ok (.iload_n 1, 1) := by decide +kernel
theorem dX4_above_29 : decode cX4_above 29 = .ok (.lload_n 2, 1) := by decide +kernel
theorem dX4_above_30 : decode cX4_above 30 = .ok (.invokevirtual 154, 3) := by decide +kernel
theorem dX4_above_33 : decode cX4_above 33 = .ok (.goto 5, 3) := by decide +kernel
theorem dX4_above_36 : decode cX4_above 36 = .ok (.bipush (-5), 2) := by decide +kernel
theorem dX4_above_38 : decode cX4_above 38 = .ok (.ireturn, 1) := by decide +kernel
theorem dX4_least_0 : decode cX4_least 0 = .ok (.aload_n 0, 1) := by decide +kernel
theorem dX4_least_1 : decode cX4_least 1 = .ok (.getfield 10, 3) := by decide +kernel
theorem dX4_least_4 : decode cX4_least 4 = .ok (.iload_n 1, 1) := by decide +kernel
theorem dX4_least_5 : decode cX4_least 5 = .ok (.invokevirtual 40, 3) := by decide +kernel
theorem dX4_least_8 : decode cX4_least 8 = .ok (.ifCond .eq 9, 3) := by decide +kernel
theorem dX4_least_11 : decode cX4_least 11 = .ok (.lload_n 2, 1) := by decide +kernel
theorem dX4_least_12 : decode cX4_least 12 = .ok (.lconst 0, 1) := by decide +kernel
theorem dX4_least_13 : decode cX4_least 13 = .ok (.lcmp, 1) := by decide +kernel
theorem dX4_least_14 : decode cX4_least 14 = .ok (.ifCond .ge 6, 3) := by decide +kernel
theorem dX4_least_17 : decode cX4_least 17 = .ok (.bipush (-2), 2) := by decide +kernel
theorem dX4_least_19 : decode cX4_least 19 = .ok (.ireturn, 1) := by decide +kernel
theorem dX4_least_20 : decode cX4_least 20 = .ok (.aload_n 0, 1) := by decide +kernel
theorem dX4_least_21 : decode cX4_least 21 = .ok (.getfield 28, 3) := by decide +kernel
theorem dX4_least_24 : decode cX4_least 24 = .ok (.iload_n 1, 1) := by decide +kernel
theorem dX4_least_25 : decode cX4_least 25 = .ok (.lload_n 2, 1) := by decide +kernel
theorem dX4_least_26 : decode cX4_least 26 = .ok (.invokevirtual 158, 3) := by decide +kernel
theorem dX4_least_29 : decode cX4_least 29 = .ok (.ireturn, 1) := by decide +kernel
theorem dX4_trim_0 : decode cX4_trim 0 = .ok (.aload_n 0, 1) := by decide +kernel
theorem dX4_trim_1 : decode cX4_trim 1 = .ok (.getfield 10, 3) := by decide +kernel
theorem dX4_trim_4 : decode cX4_trim 4 = .ok (.iload_n 1, 1) := by decide +kernel
theorem dX4_trim_5 : decode cX4_trim 5 = .ok (.invokevirtual 40, 3) := by decide +kernel
theorem dX4_trim_8 : decode cX4_trim 8 = .ok (.ifCond .eq 9, 3) := by decide +kernel
theorem dX4_trim_11 : decode cX4_trim 11 = .ok (.lload_n 2, 1) := by decide +kernel
theorem dX4_trim_12 : decode cX4_trim 12 = .ok (.lconst 0, 1) := by decide +kernel
theorem dX4_trim_13 : decode cX4_trim 13 = .ok (.lcmp, 1) := by decide +kernel
theorem dX4_trim_14 : decode cX4_trim 14 = .ok (.ifCond .ge 6, 3) := by decide +kernel
theorem dX4_trim_17 : decode cX4_trim 17 = .ok (.bipush (-2), 2) := by decide +kernel
theorem dX4_trim_19 : decode cX4_trim 19 = .ok (.ireturn, 1) := by decide +kernel
theorem dX4_trim_20 : decode cX4_trim 20 = .ok (.aload_n 0, 1) := by decide +kernel
theorem dX4_trim_21 : decode cX4_trim 21 = .ok (.getfield 28, 3) := by decide +kernel
theorem dX4_trim_24 : decode cX4_trim 24 = .ok (.iload_n 1, 1) := by decide +kernel
theorem dX4_trim_25 : decode cX4_trim 25 = .ok (.lload_n 2, 1) := by decide +kernel
theorem dX4_trim_26 : decode cX4_trim 26 = .ok (.invokevirtual 161, 3) := by decide +kernel
theorem dX4_trim_29 : decode cX4_trim 29 = .ok (.ireturn, 1) := by decide +kernel
theorem dX4_floor_0 : decode cX4_floor 0 = .ok (.aload_n 0, 1) := by decide +kernel
theorem dX4_floor_1 : decode cX4_floor 1 = .ok (.getfield 10, 3) := by decide +kernel
theorem dX4_floor_4 : decode cX4_floor 4 = .ok (.iload_n 1, 1) := by decide +kernel
theorem dX4_floor_5 : decode cX4_floor 5 = .ok (.invokevirtual 40, 3) := by decide +kernel
theorem dX4_floor_8 : decode cX4_floor 8 = .ok (.ifCond .eq 14, 3) := by decide +kernel
theorem dX4_floor_11 : decode cX4_floor 11 = .ok (.aload_n 0, 1) := by decide +kernel
theorem dX4_floor_12 : decode cX4_floor 12 = .ok (.getfield 28, 3) := by decide +kernel
theorem dX4_floor_15 : decode cX4_floor 15 = .ok (.iload_n 1, 1) := by decide +kernel
theorem dX4_floor_16 : decode cX4_floor 16 = .ok (.invokevirtual 164, 3) := by decide +kernel
end
section
theorem dX4_floor_19 : decode cX4_floor 19 = .ok (.goto 8, 3) := by decide +kernel
theorem dX4_floor_22 : decode cX4_floor 22 = .ok (.bipush (-2), 2) := by decide +kernel
theorem dX4_floor_24 : decode cX4_floor 24 = .ok (.invokestatic 71, 3) := by decide +kernel
theorem dX4_floor_27 : decode cX4_floor 27 = .ok (.lreturn, 1) := by decide +kernel
theorem dX4_gain_0 : decode cX4_gain 0 = .ok (.aload_n 0, 1) := by decide +kernel
theorem dX4_gain_1 : decode cX4_gain 1 = .ok (.getfield 10, 3) := by decide +kernel
theorem dX4_gain_4 : decode cX4_gain 4 = .ok (.iload_n 1, 1) := by decide +kernel
theorem dX4_gain_5 : decode cX4_gain 5 = .ok (.invokevirtual 40, 3) := by decide +kernel
theorem dX4_gain_8 : decode cX4_gain 8 = .ok (.ifCond .eq 14, 3) := by decide +kernel
theorem dX4_gain_11 : decode cX4_gain 11 = .ok (.aload_n 0, 1) := by decide +kernel
theorem dX4_gain_12 : decode cX4_gain 12 = .ok (.getfield 10, 3) := by decide +kernel
theorem dX4_gain_15 : decode cX4_gain 15 = .ok (.iload_n 2, 1) := by decide +kernel
theorem dX4_gain_16 : decode cX4_gain 16 = .ok (.invokevirtual 40, 3) := by decide +kernel
theorem dX4_gain_19 : decode cX4_gain 19 = .ok (.ifCond .ne 9, 3) := by decide +kernel
theorem dX4_gain_22 : decode cX4_gain 22 = .ok (.bipush (-2), 2) := by decide +kernel
theorem dX4_gain_24 : decode cX4_gain 24 = .ok (.invokestatic 71, 3) := by decide +kernel
theorem dX4_gain_27 : decode cX4_gain 27 = .ok (.lreturn, 1) := by decide +kernel
theorem dX4_gain_28 : decode cX4_gain 28 = .ok (.aload_n 0, 1) := by decide +kernel
theorem dX4_gain_29 : decode cX4_gain 29 = .ok (.getfield 28, 3) := by decide +kernel
theorem dX4_gain_32 : decode cX4_gain 32 = .ok (.iload_n 1, 1) := by decide +kernel
theorem dX4_gain_33 : decode cX4_gain 33 = .ok (.iload_n 2, 1) := by decide +kernel
theorem dX4_gain_34 : decode cX4_gain 34 = .ok (.invokevirtual 167, 3) := by decide +kernel
theorem dX4_gain_37 : decode cX4_gain 37 = .ok (.lreturn, 1) := by decide +kernel
theorem dX4_blame_0 : decode cX4_blame 0 = .ok (.aload_n 0, 1) := by decide +kernel
theorem dX4_blame_1 : decode cX4_blame 1 = .ok (.getfield 10, 3) := by decide +kernel
theorem dX4_blame_4 : decode cX4_blame 4 = .ok (.iload_n 1, 1) := by decide +kernel
theorem dX4_blame_5 : decode cX4_blame 5 = .ok (.invokevirtual 40, 3) := by decide +kernel
theorem dX4_blame_8 : decode cX4_blame 8 = .ok (.ifCond .eq 14, 3) := by decide +kernel
theorem dX4_blame_11 : decode cX4_blame 11 = .ok (.aload_n 0, 1) := by decide +kernel
theorem dX4_blame_12 : decode cX4_blame 12 = .ok (.getfield 28, 3) := by decide +kernel
theorem dX4_blame_15 : decode cX4_blame 15 = .ok (.iload_n 1, 1) := by decide +kernel
theorem dX4_blame_16 : decode cX4_blame 16 = .ok (.invokevirtual 171, 3) := by decide +kernel
theorem dX4_blame_19 : decode cX4_blame 19 = .ok (.goto 5, 3) := by decide +kernel
theorem dX4_blame_22 : decode cX4_blame 22 = .ok (.bipush (-2), 2) := by decide +kernel
theorem dX4_blame_24 : decode cX4_blame 24 = .ok (.ireturn, 1) := by decide +kernel
theorem dX4_count_0 : decode cX4_count 0 = .ok (.iload_n 1, 1) := by decide +kernel
theorem dX4_count_1 : decode cX4_count 1 = .ok (.tableswitch 63 0 3 #[31, 39, 47, 55], 31) := by decide +kernel
theorem dX4_count_32 : decode cX4_count 32 = .ok (.aload_n 0, 1) := by decide +kernel
theorem dX4_count_33 : decode cX4_count 33 = .ok (.getfield 10, 3) := by decide +kernel
theorem dX4_count_36 : decode cX4_count 36 = .ok (.getfield 49, 3) := by decide +kernel
theorem dX4_count_39 : decode cX4_count 39 = .ok (.ireturn, 1) := by decide +kernel
theorem dX4_count_40 : decode cX4_count 40 = .ok (.aload_n 0, 1) := by decide +kernel
theorem dX4_count_41 : decode cX4_count 41 = .ok (.getfield 10, 3) := by decide +kernel
theorem dX4_count_44 : decode cX4_count 44 = .ok (.invokevirtual 175, 3) := by decide +kernel
theorem dX4_count_47 : decode cX4_count 47 = .ok (.ireturn, 1) := by decide +kernel
theorem dX4_count_48 : decode cX4_count 48 = .ok (.aload_n 0, 1) := by decide +kernel
theorem dX4_count_49 : decode cX4_count 49 = .ok (.getfield 10, 3) := by decide +kernel
theorem dX4_count_52 : decode cX4_count 52 = .ok (.invokevirtual 97, 3) := by decide +kernel
theorem dX4_count_55 : decode cX4_count 55 = .ok (.ireturn, 1) := by decide +kernel
theorem dX4_count_56 : decode cX4_count 56 = .ok (.aload_n 0, 1) := by decide +kernel
theorem dX4_count_57 : decode cX4_count 57 = .ok (.getfield 10, 3) := by decide +kernel
theorem dX4_count_60 : decode cX4_count 60 = .ok (.invokevirtual 178, 3) := by decide +kernel
theorem dX4_count_63 : decode cX4_count 63 = .ok (.ireturn, 1) := by decide +kernel
theorem dX4_count_64 : decode cX4_count 64 = .ok (.bipush (-2), 2) := by decide +kernel
theorem dX4_count_66 : decode cX4_count 66 = .ok (.ireturn, 1) := by decide +kernel
theorem dX4_digest_0 : decode cX4_digest 0 = .ok (.ldc2_w 181, 3) := by decide +kernel
theorem dX4_digest_3 : decode cX4_digest 3 = .ok (.lstore_n 1, 1) := by decide +kernel
theorem dX4_digest_4 : decode cX4_digest 4 = .ok (.iconst 0, 1) := by decide +kernel
theorem dX4_digest_5 : decode cX4_digest 5 = .ok (.istore_n 3, 1) := by decide +kernel
theorem dX4_digest_6 : decode cX4_digest 6 = .ok (.iload_n 3, 1) := by decide +kernel
theorem dX4_digest_7 : decode cX4_digest 7 = .ok (.iconst 3, 1) := by decide +kernel
theorem dX4_digest_8 : decode cX4_digest 8 = .ok (.if_icmp .gt 22, 3) := by decide +kernel
theorem dX4_digest_11 : decode cX4_digest 11 = .ok (.ldc2_w 183, 3) := by decide +kernel
theorem dX4_digest_14 : decode cX4_digest 14 = .ok (.lload_n 1, 1) := by decide +kernel
theorem dX4_digest_15 : decode cX4_digest 15 = .ok (.lmul, 1) := by decide +kernel
theorem dX4_digest_16 : decode cX4_digest 16 = .ok (.aload_n 0, 1) := by decide +kernel
theorem dX4_digest_17 : decode cX4_digest 17 = .ok (.iload_n 3, 1) := by decide +kernel
theorem dX4_digest_18 : decode cX4_digest 18 = .ok (.invokevirtual 185, 3) := by decide +kernel
theorem dX4_digest_21 : decode cX4_digest 21 = .ok (.i2l, 1) := by decide +kernel
theorem dX4_digest_22 : decode cX4_digest 22 = .ok (.ladd, 1) := by decide +kernel
theorem dX4_digest_23 : decode cX4_digest 23 = .ok (.lstore_n 1, 1) := by decide +kernel
theorem dX4_digest_24 : decode cX4_digest 24 = .ok (.iinc 3 1, 3) := by decide +kernel
theorem dX4_digest_27 : decode cX4_digest 27 = .ok (.goto (-21), 3) := by decide +kernel
theorem dX4_digest_30 : decode cX4_digest 30 = .ok (.iconst 0, 1) := by decide +kernel
theorem dX4_digest_31 : decode cX4_digest 31 = .ok (.istore_n 3, 1) := by decide +kernel
theorem dX4_digest_32 : decode cX4_digest 32 = .ok (.iload_n 3, 1) := by decide +kernel
theorem dX4_digest_33 : decode cX4_digest 33 = .ok (.aload_n 0, 1) := by decide +kernel
theorem dX4_digest_34 : decode cX4_digest 34 = .ok (.getfield 10, 3) := by decide +kernel
theorem dX4_digest_37 : decode cX4_digest 37 = .ok (.getfield 49, 3) := by decide +kernel
theorem dX4_digest_40 : decode cX4_digest 40 = .ok (.if_icmp .ge 63, 3) := by decide +kernel
theorem dX4_digest_43 : decode cX4_digest 43 = .ok (.iconst 0, 1) := by decide +kernel
theorem dX4_digest_44 : decode cX4_digest 44 = .ok (.istore 4, 2) := by decide +kernel
theorem dX4_digest_46 : decode cX4_digest 46 = .ok (.iload 4, 2) := by decide +kernel
theorem dX4_digest_48 : decode cX4_digest 48 = .ok (.bipush 9, 2) := by decide +kernel
theorem dX4_digest_50 : decode cX4_digest 50 = .ok (.if_icmp .gt 23, 3) := by decide +kernel
theorem dX4_digest_53 : decode cX4_digest 53 = .ok (.ldc2_w 183, 3) := by decide +kernel
theorem dX4_digest_56 : decode cX4_digest 56 = .ok (.lload_n 1, 1) := by decide +kernel
theorem dX4_digest_57 : decode cX4_digest 57 = .ok (.lmul, 1) := by decide +kernel
theorem dX4_digest_58 : decode cX4_digest 58 = .ok (.aload_n 0, 1) := by decide +kernel
theorem dX4_digest_59 : decode cX4_digest 59 = .ok (.iload_n 3, 1) := by decide +kernel
theorem dX4_digest_60 : decode cX4_digest 60 = .ok (.iload 4, 2) := by decide +kernel
theorem dX4_digest_62 : decode cX4_digest 62 = .ok (.invokevirtual 188, 3) := by decide +kernel
theorem dX4_digest_65 : decode cX4_digest 65 = .ok (.ladd, 1) := by decide +kernel
theorem dX4_digest_66 : decode cX4_digest 66 = .ok (.lstore_n 1, 1) := by decide +kernel
theorem dX4_digest_67 : decode cX4_digest 67 = .ok (.iinc 4 1, 3) := by decide +kernel
theorem dX4_digest_70 : decode cX4_digest 70 = .ok (.goto (-24), 3) := by decide +kernel
theorem dX4_digest_73 : decode cX4_digest 73 = .ok (.ldc2_w 183, 3) := by decide +kernel
theorem dX4_digest_76 : decode cX4_digest 76 = .ok (.lload_n 1, 1) := by decide +kernel
theorem dX4_digest_77 : decode cX4_digest 77 = .ok (.lmul, 1) := by decide +kernel
theorem dX4_digest_78 : decode cX4_digest 78 = .ok (.aload_n 0, 1) := by decide +kernel
theorem dX4_digest_79 : decode cX4_digest 79 = .ok (.iload_n 3, 1) := by decide +kernel
theorem dX4_digest_80 : decode cX4_digest 80 = .ok (.invokevirtual 191, 3) := by decide +kernel
theorem dX4_digest_83 : decode cX4_digest 83 = .ok (.ladd, 1) := by decide +kernel
theorem dX4_digest_84 : decode cX4_digest 84 = .ok (.lstore_n 1, 1) := by decide +kernel
theorem dX4_digest_85 : decode cX4_digest 85 = .ok (.ldc2_w 183, 3) := by decide +kernel
theorem dX4_digest_88 : decode cX4_digest 88 = .ok (.lload_n 1, 1) := by decide +kernel
theorem dX4_digest_89 : decode cX4_digest 89 = .ok (.lmul, 1) := by decide +kernel
theorem dX4_digest_90 : decode cX4_digest 90 = .ok (.aload_n 0, 1) := by decide +kernel
theorem dX4_digest_91 : decode cX4_digest 91 = .ok (.iload_n 3, 1) := by decide +kernel
theorem dX4_digest_92 : decode cX4_digest 92 = .ok (.invokevirtual 194, 3) := by decide +kernel
theorem dX4_digest_95 : decode cX4_digest 95 = .ok (.ladd, 1) := by decide +kernel
theorem dX4_digest_96 : decode cX4_digest 96 = .ok (.lstore_n 1, 1) := by decide +kernel
theorem dX4_digest_97 : decode cX4_digest 97 = .ok (.iinc 3 1, 3) := by decide +kernel
theorem dX4_digest_100 : decode cX4_digest 100 = .ok (.goto (-68), 3) := by decide +kernel
theorem dX4_digest_103 : decode cX4_digest 103 = .ok (.lload_n 1, 1) := by decide +kernel
theorem dX4_digest_104 : decode cX4_digest 104 = .ok (.lreturn, 1) := by decide +kernel
theorem dX4_refusal_0 : decode cX4_refusal 0 = .ok (.ldc2_w 199, 3) := by decide +kernel
theorem dX4_refusal_3 : decode cX4_refusal 3 = .ok (.iload_n 0, 1) := by decide +kernel
theorem dX4_refusal_4 : decode cX4_refusal 4 = .ok (.i2l, 1) := by decide +kernel
theorem dX4_refusal_5 : decode cX4_refusal 5 = .ok (.lsub, 1) := by decide +kernel
theorem dX4_refusal_6 : decode cX4_refusal 6 = .ok (.lreturn, 1) := by decide +kernel
theorem dX4_isStep_0 : decode cX4_isStep 0 = .ok (.iload_n 0, 1) := by decide +kernel
theorem dX4_isStep_1 : decode cX4_isStep 1 = .ok (.sipush 4096, 3) := by decide +kernel
theorem dX4_isStep_4 : decode cX4_isStep 4 = .ok (.irem, 1) := by decide +kernel
theorem dX4_isStep_5 : decode cX4_isStep 5 = .ok (.ifCond .ne 7, 3) := by decide +kernel
theorem dX4_isStep_8 : decode cX4_isStep 8 = .ok (.iconst 1, 1) := by decide +kernel
theorem dX4_isStep_9 : decode cX4_isStep 9 = .ok (.goto 4, 3) := by decide +kernel
theorem dX4_isStep_12 : decode cX4_isStep 12 = .ok (.iconst 0, 1) := by decide +kernel
theorem dX4_isStep_13 : decode cX4_isStep 13 = .ok (.ireturn, 1) := by decide +kernel
theorem dX4_isGivable_0 : decode cX4_isGivable 0 = .ok (.iload_n 0, 1) := by decide +kernel
theorem dX4_isGivable_1 : decode cX4_isGivable 1 = .ok (.invokestatic 104, 3) := by decide +kernel
theorem dX4_isGivable_4 : decode cX4_isGivable 4 = .ok (.ifCond .eq 19, 3) := by decide +kernel
theorem dX4_isGivable_7 : decode cX4_isGivable 7 = .ok (.iload_n 0, 1) := by decide +kernel
theorem dX4_isGivable_8 : decode cX4_isGivable 8 = .ok (.ldc 201, 2) := by decide +kernel
theorem dX4_isGivable_10 : decode cX4_isGivable 10 = .ok (.if_icmp .lt 13, 3) := by decide +kernel
theorem dX4_isGivable_13 : decode cX4_isGivable 13 = .ok (.iload_n 0, 1) := by decide +kernel
theorem dX4_isGivable_14 : decode cX4_isGivable 14 = .ok (.ldc 202, 2) := by decide +kernel
theorem dX4_isGivable_16 : decode cX4_isGivable 16 = .ok (.if_icmp .gt 7, 3) := by decide +kernel
theorem dX4_isGivable_19 : decode cX4_isGivable 19 = .ok (.iconst 1, 1) := by decide +kernel
theorem dX4_isGivable_20 : decode cX4_isGivable 20 = .ok (.goto 4, 3) := by decide +kernel
theorem dX4_isGivable_23 : decode cX4_isGivable 23 = .ok (.iconst 0, 1) := by decide +kernel
theorem dX4_isGivable_24 : decode cX4_isGivable 24 = .ok (.ireturn, 1) := by decide +kernel
theorem dX4_hasTwoParts_0 : decode cX4_hasTwoParts 0 = .ok (.iload_n 0, 1) := by decide +kernel
theorem dX4_hasTwoParts_1 : decode cX4_hasTwoParts 1 = .ok (.iconst 2, 1) := by decide +kernel
theorem dX4_hasTwoParts_2 : decode cX4_hasTwoParts 2 = .ok (.if_icmp .lt 12, 3) := by decide +kernel
theorem dX4_hasTwoParts_5 : decode cX4_hasTwoParts 5 = .ok (.iload_n 0, 1) := by decide +kernel
theorem dX4_hasTwoParts_6 : decode cX4_hasTwoParts 6 = .ok (.iconst 5, 1) := by decide +kernel
theorem dX4_hasTwoParts_7 : decode cX4_hasTwoParts 7 = .ok (.if_icmp .gt 7, 3) := by decide +kernel
theorem dX4_hasTwoParts_10 : decode cX4_hasTwoParts 10 = .ok (.iconst 1, 1) := by decide +kernel
theorem dX4_hasTwoParts_11 : decode cX4_hasTwoParts 11 = .ok (.goto 4, 3) := by decide +kernel
theorem dX4_hasTwoParts_14 : decode cX4_hasTwoParts 14 = .ok (.iconst 0, 1) := by decide +kernel
theorem dX4_hasTwoParts_15 : decode cX4_hasTwoParts 15 = .ok (.ireturn, 1) := by decide +kernel
theorem dX4_result_0 : decode cX4_result 0 = .ok (.iload_n 0, 1) := by decide +kernel
theorem dX4_result_1 : decode cX4_result 1 = .ok (.tableswitch 58 2 6 #[35, 39, 43, 47, 53], 35) := by decide +kernel
theorem dX4_result_36 : decode cX4_result 36 = .ok (.lload_n 1, 1) := by decide +kernel
theorem dX4_result_37 : decode cX4_result 37 = .ok (.lload_n 3, 1) := by decide +kernel
theorem dX4_result_38 : decode cX4_result 38 = .ok (.ladd, 1) := by decide +kernel
theorem dX4_result_39 : decode cX4_result 39 = .ok (.lreturn, 1) := by decide +kernel
theorem dX4_result_40 : decode cX4_result 40 = .ok (.lload_n 1, 1) := by decide +kernel
theorem dX4_result_41 : decode cX4_result 41 = .ok (.lload_n 3, 1) := by decide +kernel
theorem dX4_result_42 : decode cX4_result 42 = .ok (.lsub, 1) := by decide +kernel
theorem dX4_result_43 : decode cX4_result 43 = .ok (.lreturn, 1) := by decide +kernel
theorem dX4_result_44 : decode cX4_result 44 = .ok (.lload_n 1, 1) := by decide +kernel
theorem dX4_result_45 : decode cX4_result 45 = .ok (.lload_n 3, 1) := by decide +kernel
theorem dX4_result_46 : decode cX4_result 46 = .ok (.lmul, 1) := by decide +kernel
theorem dX4_result_47 : decode cX4_result 47 = .ok (.lreturn, 1) := by decide +kernel
theorem dX4_result_48 : decode cX4_result 48 = .ok (.lload_n 1, 1) := by decide +kernel
theorem dX4_result_49 : decode cX4_result 49 = .ok (.lload_n 3, 1) := by decide +kernel
theorem dX4_result_50 : decode cX4_result 50 = .ok (.invokestatic 203, 3) := by decide +kernel
theorem dX4_result_53 : decode cX4_result 53 = .ok (.lreturn, 1) := by decide +kernel
theorem dX4_result_54 : decode cX4_result 54 = .ok (.lload_n 1, 1) := by decide +kernel
theorem dX4_result_55 : decode cX4_result 55 = .ok (.invokestatic 209, 3) := by decide +kernel
theorem dX4_result_58 : decode cX4_result 58 = .ok (.lreturn, 1) := by decide +kernel
theorem dX4_result_59 : decode cX4_result 59 = .ok (.lload_n 1, 1) := by decide +kernel
theorem dX4_result_60 : decode cX4_result 60 = .ok (.lreturn, 1) := by decide +kernel
theorem dX5_init_0 : decode cX5_init 0 = .ok (.aload_n 0, 1) := by decide +kernel
theorem dX5_init_1 : decode cX5_init 1 = .ok (.invokespecial 1, 3) := by decide +kernel
theorem dX5_init_4 : decode cX5_init 4 = .ok (.aload_n 0, 1) := by decide +kernel
theorem dX5_init_5 : decode cX5_init 5 = .ok (.bipush 16, 2) := by decide +kernel
theorem dX5_init_7 : decode cX5_init 7 = .ok (.newarray .int, 2) := by decide +kernel
theorem dX5_init_9 : decode cX5_init 9 = .ok (.putfield 7, 3) := by decide +kernel
theorem dX5_init_12 : decode cX5_init 12 = .ok (.aload_n 0, 1) := by decide +kernel
theorem dX5_init_13 : decode cX5_init 13 = .ok (.bipush 16, 2) := by decide +kernel
theorem dX5_init_15 : decode cX5_init 15 = .ok (.newarray .int, 2) := by decide +kernel
theorem dX5_init_17 : decode cX5_init 17 = .ok (.putfield 13, 3) := by decide +kernel
theorem dX5_init_20 : decode cX5_init 20 = .ok (.aload_n 0, 1) := by decide +kernel
theorem dX5_init_21 : decode cX5_init 21 = .ok (.bipush 16, 2) := by decide +kernel
theorem dX5_init_23 : decode cX5_init 23 = .ok (.newarray .int, 2) := by decide +kernel
theorem dX5_init_25 : decode cX5_init 25 = .ok (.putfield 16, 3) := by decide +kernel
theorem dX5_init_28 : decode cX5_init 28 = .ok (.aload_n 0, 1) := by decide +kernel
theorem dX5_init_29 : decode cX5_init 29 = .ok (.bipush 16, 2) := by decide +kernel
theorem dX5_init_31 : decode cX5_init 31 = .ok (.newarray .int, 2) := by decide +kernel
theorem dX5_init_33 : decode cX5_init 33 = .ok (.putfield 19, 3) := by decide +kernel
theorem dX5_init_36 : decode cX5_init 36 = .ok (.aload_n 0, 1) := by decide +kernel
theorem dX5_init_37 : decode cX5_init 37 = .ok (.bipush 16, 2) := by decide +kernel
theorem dX5_init_39 : decode cX5_init 39 = .ok (.newarray .long, 2) := by decide +kernel
theorem dX5_init_41 : decode cX5_init 41 = .ok (.putfield 22, 3) := by decide +kernel
theorem dX5_init_44 : decode cX5_init 44 = .ok (.aload_n 0, 1) := by decide +kernel
theorem dX5_init_45 : decode cX5_init 45 = .ok (.bipush 16, 2) := by decide +kernel
theorem dX5_init_47 : decode cX5_init 47 = .ok (.newarray .long, 2) := by decide +kernel
theorem dX5_init_49 : decode cX5_init 49 = .ok (.putfield 26, 3) := by decide +kernel
theorem dX5_init_52 : decode cX5_init 52 = .ok (.aload_n 0, 1) := by decide +kernel
theorem dX5_init_53 : decode cX5_init 53 = .ok (.bipush 16, 2) := by decide +kernel
theorem dX5_init_55 : decode cX5_init 55 = .ok (.newarray .int, 2) := by decide +kernel
theorem dX5_init_57 : decode cX5_init 57 = .ok (.putfield 29, 3) := by decide +kernel
theorem dX5_init_60 : decode cX5_init 60 = .ok (.aload_n 0, 1) := by decide +kernel
theorem dX5_init_61 : decode cX5_init 61 = .ok (.bipush 16, 2) := by decide +kernel
theorem dX5_init_63 : decode cX5_init 63 = .ok (.newarray .int, 2) := by decide +kernel
theorem dX5_init_65 : decode cX5_init 65 = .ok (.putfield 32, 3) := by decide +kernel
theorem dX5_init_68 : decode cX5_init 68 = .ok (.aload_n 0, 1) := by decide +kernel
theorem dX5_init_69 : decode cX5_init 69 = .ok (.bipush 16, 2) := by decide +kernel
theorem dX5_init_71 : decode cX5_init 71 = .ok (.newarray .int, 2) := by decide +kernel
theorem dX5_init_73 : decode cX5_init 73 = .ok (.putfield 35, 3) := by decide +kernel
theorem dX5_init_76 : decode cX5_init 76 = .ok (.aload_n 0, 1) := by decide +kernel
theorem dX5_init_77 : decode cX5_init 77 = .ok (.bipush 16, 2) := by decide +kernel
theorem dX5_init_79 : decode cX5_init 79 = .ok (.newarray .int, 2) := by decide +kernel
theorem dX5_init_81 : decode cX5_init 81 = .ok (.putfield 38, 3) := by decide +kernel
theorem dX5_init_84 : decode cX5_init 84 = .ok (.aload_n 0, 1) := by decide +kernel
theorem dX5_init_85 : decode cX5_init 85 = .ok (.bipush 16, 2) := by decide +kernel
theorem dX5_init_87 : decode cX5_init 87 = .ok (.newarray .long, 2) := by decide +kernel
theorem dX5_init_89 : decode cX5_init 89 = .ok (.putfield 41, 3) := by decide +kernel
theorem dX5_init_92 : decode cX5_init 92 = .ok (.aload_n 0, 1) := by decide +kernel
theorem dX5_init_93 : decode cX5_init 93 = .ok (.bipush 16, 2) := by decide +kernel
theorem dX5_init_95 : decode cX5_init 95 = .ok (.newarray .long, 2) := by decide +kernel
theorem dX5_init_97 : decode cX5_init 97 = .ok (.putfield 44, 3) := by decide +kernel
theorem dX5_init_100 : decode cX5_init 100 = .ok (.aload_n 0, 1) := by decide +kernel
theorem dX5_init_101 : decode cX5_init 101 = .ok (.bipush 16, 2) := by decide +kernel
theorem dX5_init_103 : decode cX5_init 103 = .ok (.newarray .long, 2) := by decide +kernel
theorem dX5_init_105 : decode cX5_init 105 = .ok (.putfield 47, 3) := by decide +kernel
theorem dX5_init_108 : decode cX5_init 108 = .ok (.aload_n 0, 1) := by decide +kernel
theorem dX5_init_109 : decode cX5_init 109 = .ok (.bipush 16, 2) := by decide +kernel
theorem dX5_init_111 : decode cX5_init 111 = .ok (.newarray .int, 2) := by decide +kernel
theorem dX5_init_113 : decode cX5_init 113 = .ok (.putfield 50, 3) := by decide +kernel
theorem dX5_init_116 : decode cX5_init 116 = .ok (.aload_n 0, 1) := by decide +kernel
theorem dX5_init_117 : decode cX5_init 117 = .ok (.bipush 16, 2) := by decide +kernel
theorem dX5_init_119 : decode cX5_init 119 = .ok (.newarray .boolean, 2) := by decide +kernel
theorem dX5_init_121 : decode cX5_init 121 = .ok (.putfield 53, 3) := by decide +kernel
theorem dX5_init_124 : decode cX5_init 124 = .ok (.aload_n 0, 1) := by decide +kernel
theorem dX5_init_125 : decode cX5_init 125 = .ok (.bipush 16, 2) := by decide +kernel
theorem dX5_init_127 : decode cX5_init 127 = .ok (.newarray .int, 2) := by decide +kernel
theorem dX5_init_129 : decode cX5_init 129 = .ok (.putfield 57, 3) := by decide +kernel
theorem dX5_init_132 : decode cX5_init 132 = .ok (.aload_n 0, 1) := by decide +kernel
theorem dX5_init_133 : decode cX5_init 133 = .ok (.bipush 16, 2) := by decide +kernel
theorem dX5_init_135 : decode cX5_init 135 = .ok (.newarray .int, 2) := by decide +kernel
theorem dX5_init_137 : decode cX5_init 137 = .ok (.putfield 60, 3) := by decide +kernel
theorem dX5_init_140 : decode cX5_init 140 = .ok (.aload_n 0, 1) := by decide +kernel
theorem dX5_init_141 : decode cX5_init 141 = .ok (.bipush 16, 2) := by decide +kernel
theorem dX5_init_143 : decode cX5_init 143 = .ok (.newarray .int, 2) := by decide +kernel
theorem dX5_init_145 : decode cX5_init 145 = .ok (.putfield 63, 3) := by decide +kernel
theorem dX5_init_148 : decode cX5_init 148 = .ok (.return_, 1) := by decide +kernel
theorem dX5_in_0 : decode cX5_in 0 = .ok (.lload_n 0, 1) := by decide +kernel
theorem dX5_in_1 : decode cX5_in 1 = .ok (.lload_n 2, 1) := by decide +kernel
theorem dX5_in_2 : decode cX5_in 2 = .ok (.lcmp, 1) := by decide +kernel
theorem dX5_in_3 : decode cX5_in 3 = .ok (.ifCond .lt 14, 3) := by decide +kernel
theorem dX5_in_6 : decode cX5_in 6 = .ok (.lload_n 0, 1) := by decide +kernel
theorem dX5_in_7 : decode cX5_in 7 = .ok (.lload 4, 2) := by decide +kernel
theorem dX5_in_9 : decode cX5_in 9 = .ok (.lcmp, 1) := by decide +kernel
theorem dX5_in_10 : decode cX5_in 10 = .ok (.ifCond .gt 7, 3) := by decide +kernel
theorem dX5_in_13 : decode cX5_in 13 = .ok (.iconst 1, 1) := by decide +kernel
theorem dX5_in_14 : decode cX5_in 14 = .ok (.goto 4, 3) := by decide +kernel
theorem dX5_in_17 : decode cX5_in 17 = .ok (.iconst 0, 1) := by decide +kernel
theorem dX5_in_18 : decode cX5_in 18 = .ok (.ireturn, 1) := by decide +kernel
theorem dX5_no_0 : decode cX5_no 0 = .ok (.ldc2_w 66, 3) := by decide +kernel
theorem dX5_no_3 : decode cX5_no 3 = .ok (.iload_n 0, 1) := by decide +kernel
theorem dX5_no_4 : decode cX5_no 4 = .ok (.i2l, 1) := by decide +kernel
theorem dX5_no_5 : decode cX5_no 5 = .ok (.lsub, 1) := by decide +kernel
theorem dX5_no_6 : decode cX5_no 6 = .ok (.lreturn, 1) := by decide +kernel
theorem dX5_isValue_0 : decode cX5_isValue 0 = .ok (.iload_n 1, 1) := by decide +kernel
theorem dX5_isValue_1 : decode cX5_isValue 1 = .ok (.i2l, 1) := by decide +kernel
theorem dX5_isValue_2 : decode cX5_isValue 2 = .ok (.lconst 0, 1) := by decide +kernel
theorem dX5_isValue_3 : decode cX5_isValue 3 = .ok (.aload_n 0, 1) := by decide +kernel
theorem dX5_isValue_4 : decode cX5_isValue 4 = .ok (.getfield 68, 3) := by decide +kernel
theorem dX5_isValue_7 : decode cX5_isValue 7 = .ok (.iconst 1, 1) := by decide +kernel
theorem dX5_isValue_8 : decode cX5_isValue 8 = .ok (.isub, 1) := by decide +kernel
theorem dX5_isValue_9 : decode cX5_isValue 9 = .ok (.i2l, 1) := by decide +kernel
theorem dX5_isValue_10 : decode cX5_isValue 10 = .ok (.invokestatic 72, 3) := by decide +kernel
theorem dX5_isValue_13 : decode cX5_isValue 13 = .ok (.ireturn, 1) := by decide +kernel
theorem dX5_isInput_0 : decode cX5_isInput 0 = .ok (.aload_n 0, 1) := by decide +kernel
theorem dX5_isInput_1 : decode cX5_isInput 1 = .ok (.iload_n 1, 1) := by decide +kernel
theorem dX5_isInput_2 : decode cX5_isInput 2 = .ok (.invokevirtual 76, 3) := by decide +kernel
theorem dX5_isInput_5 : decode cX5_isInput 5 = .ok (.ifCond .eq 16, 3) := by decide +kernel
theorem dX5_isInput_8 : decode cX5_isInput 8 = .ok (.aload_n 0, 1) := by decide +kernel
theorem dX5_isInput_9 : decode cX5_isInput 9 = .ok (.getfield 7, 3) := by decide +kernel
theorem dX5_isInput_12 : decode cX5_isInput 12 = .ok (.iload_n 1, 1) := by decide +kernel
theorem dX5_isInput_13 : decode cX5_isInput 13 = .ok (.iaload, 1) := by decide +kernel
theorem dX5_isInput_14 : decode cX5_isInput 14 = .ok (.ifCond .ne 7, 3) := by decide +kernel
theorem dX5_isInput_17 : decode cX5_isInput 17 = .ok (.iconst 1, 1) := by decide +kernel
theorem dX5_isInput_18 : decode cX5_isInput 18 = .ok (.goto 4, 3) := by decide +kernel
theorem dX5_isInput_21 : decode cX5_isInput 21 = .ok (.iconst 0, 1) := by decide +kernel
theorem dX5_isInput_22 : decode cX5_isInput 22 = .ok (.ireturn, 1) := by decide +kernel
theorem dX5_isWork_0 : decode cX5_isWork 0 = .ok (.aload_n 0, 1) := by decide +kernel
theorem dX5_isWork_1 : decode cX5_isWork 1 = .ok (.iload_n 1, 1) := by decide +kernel
theorem dX5_isWork_2 : decode cX5_isWork 2 = .ok (.invokevirtual 76, 3) := by decide +kernel
theorem dX5_isWork_5 : decode cX5_isWork 5 = .ok (.ifCond .eq 17, 3) := by decide +kernel
theorem dX5_isWork_8 : decode cX5_isWork 8 = .ok (.aload_n 0, 1) := by decide +kernel
theorem dX5_isWork_9 : decode cX5_isWork 9 = .ok (.getfield 7, 3) := by decide +kernel
theorem dX5_isWork_12 : decode cX5_isWork 12 = .ok (.iload_n 1, 1) := by decide +kernel
theorem dX5_isWork_13 : decode cX5_isWork 13 = .ok (.iaload, 1) := by decide +kernel
theorem dX5_isWork_14 : decode cX5_isWork 14 = .ok (.iconst 1, 1) := by decide +kernel
theorem dX5_isWork_15 : decode cX5_isWork 15 = .ok (.if_icmp .le 7, 3) := by decide +kernel
theorem dX5_isWork_18 : decode cX5_isWork 18 = .ok (.iconst 1, 1) := by decide +kernel
theorem dX5_isWork_19 : decode cX5_isWork 19 = .ok (.goto 4, 3) := by decide +kernel
theorem dX5_isWork_22 : decode cX5_isWork 22 = .ok (.iconst 0, 1) := by decide +kernel
theorem dX5_isWork_23 : decode cX5_isWork 23 = .ok (.ireturn, 1) := by decide +kernel
theorem dX5_isNumber_0 : decode cX5_isNumber 0 = .ok (.iload_n 0, 1) := by decide +kernel
theorem dX5_isNumber_1 : decode cX5_isNumber 1 = .ok (.i2l, 1) := by decide +kernel
theorem dX5_isNumber_2 : decode cX5_isNumber 2 = .ok (.ldc2_w 80, 3) := by decide +kernel
theorem dX5_isNumber_5 : decode cX5_isNumber 5 = .ok (.ldc2_w 82, 3) := by decide +kernel
theorem dX5_isNumber_8 : decode cX5_isNumber 8 = .ok (.invokestatic 72, 3) := by decide +kernel
theorem dX5_isNumber_11 : decode cX5_isNumber 11 = .ok (.ifCond .eq 15, 3) := by decide +kernel
theorem dX5_isNumber_14 : decode cX5_isNumber 14 = .ok (.iload_n 0, 1) := by decide +kernel
theorem dX5_isNumber_15 : decode cX5_isNumber 15 = .ok (.sipush 4096, 3) := by decide +kernel
theorem dX5_isNumber_18 : decode cX5_isNumber 18 = .ok (.irem, 1) := by decide +kernel
theorem dX5_isNumber_19 : decode cX5_isNumber 19 = .ok (.ifCond .ne 7, 3) := by decide +kernel
theorem dX5_isNumber_22 : decode cX5_isNumber 22 = .ok (.iconst 1, 1) := by decide +kernel
theorem dX5_isNumber_23 : decode cX5_isNumber 23 = .ok (.goto 4, 3) := by decide +kernel
theorem dX5_isNumber_26 : decode cX5_isNumber 26 = .ok (.iconst 0, 1) := by decide +kernel
theorem dX5_isNumber_27 : decode cX5_isNumber 27 = .ok (.ireturn, 1) := by decide +kernel
theorem dX5_lays_0 : decode cX5_lays 0 = .ok (.aload_n 0, 1) := by decide +kernel
theorem dX5_lays_1 : decode cX5_lays 1 = .ok (.getfield 7, 3) := by decide +kernel
theorem dX5_lays_4 : decode cX5_lays 4 = .ok (.aload_n 0, 1) := by decide +kernel
theorem dX5_lays_5 : decode cX5_lays 5 = .ok (.getfield 68, 3) := by decide +kernel
theorem dX5_lays_8 : decode cX5_lays 8 = .ok (.iload_n 1, 1) := by decide +kernel
theorem dX5_lays_9 : decode cX5_lays 9 = .ok (.iastore, 1) := by decide +kernel
theorem dX5_lays_10 : decode cX5_lays 10 = .ok (.aload_n 0, 1) := by decide +kernel
theorem dX5_lays_11 : decode cX5_lays 11 = .ok (.getfield 13, 3) := by decide +kernel
theorem dX5_lays_14 : decode cX5_lays 14 = .ok (.aload_n 0, 1) := by decide +kernel
theorem dX5_lays_15 : decode cX5_lays 15 = .ok (.getfield 68, 3) := by decide +kernel
theorem dX5_lays_18 : decode cX5_lays 18 = .ok (.iload_n 2, 1) := by decide +kernel
theorem dX5_lays_19 : decode cX5_lays 19 = .ok (.iastore, 1) := by decide +kernel
theorem dX5_lays_20 : decode cX5_lays 20 = .ok (.aload_n 0, 1) := by decide +kernel
theorem dX5_lays_21 : decode cX5_lays 21 = .ok (.getfield 16, 3) := by decide +kernel
theorem dX5_lays_24 : decode cX5_lays 24 = .ok (.aload_n 0, 1) := by decide +kernel
theorem dX5_lays_25 : decode cX5_lays 25 = .ok (.getfield 68, 3) := by decide +kernel
theorem dX5_lays_28 : decode cX5_lays 28 = .ok (.iload_n 3, 1) := by decide +kernel
theorem dX5_lays_29 : decode cX5_lays 29 = .ok (.iastore, 1) := by decide +kernel
theorem dX5_lays_30 : decode cX5_lays 30 = .ok (.aload_n 0, 1) := by decide +kernel
theorem dX5_lays_31 : decode cX5_lays 31 = .ok (.getfield 19, 3) := by decide +kernel
theorem dX5_lays_34 : decode cX5_lays 34 = .ok (.aload_n 0, 1) := by decide +kernel
theorem dX5_lays_35 : decode cX5_lays 35 = .ok (.getfield 68, 3) := by decide +kernel
theorem dX5_lays_38 : decode cX5_lays 38 = .ok (.iload 4, 2) := by decide +kernel
theorem dX5_lays_40 : decode cX5_lays 40 = .ok (.iastore, 1) := by decide +kernel
theorem dX5_lays_41 : decode cX5_lays 41 = .ok (.aload_n 0, 1) := by decide +kernel
theorem dX5_lays_42 : decode cX5_lays 42 = .ok (.getfield 22, 3) := by decide +kernel
theorem dX5_lays_45 : decode cX5_lays 45 = .ok (.aload_n 0, 1) := by decide +kernel
theorem dX5_lays_46 : decode cX5_lays 46 = .ok (.getfield 68, 3) := by decide +kernel
theorem dX5_lays_49 : decode cX5_lays 49 = .ok (.lload 5, 2) := by decide +kernel
theorem dX5_lays_51 : decode cX5_lays 51 = .ok (.lastore, 1) := by decide +kernel
theorem dX5_lays_52 : decode cX5_lays 52 = .ok (.aload_n 0, 1) := by decide +kernel
theorem dX5_lays_53 : decode cX5_lays 53 = .ok (.getfield 26, 3) := by decide +kernel
theorem dX5_lays_56 : decode cX5_lays 56 = .ok (.aload_n 0, 1) := by decide +kernel
theorem dX5_lays_57 : decode cX5_lays 57 = .ok (.getfield 68, 3) := by decide +kernel
theorem dX5_lays_60 : decode cX5_lays 60 = .ok (.lload 7, 2) := by decide +kernel
theorem dX5_lays_62 : decode cX5_lays 62 = .ok (.lastore, 1) := by decide +kernel
theorem dX5_lays_63 : decode cX5_lays 63 = .ok (.aload_n 0, 1) := by decide +kernel
theorem dX5_lays_64 : decode cX5_lays 64 = .ok (.getfield 29, 3) := by decide +kernel
theorem dX5_lays_67 : decode cX5_lays 67 = .ok (.aload_n 0, 1) := by decide +kernel
theorem dX5_lays_68 : decode cX5_lays 68 = .ok (.getfield 68, 3) := by decide +kernel
theorem dX5_lays_71 : decode cX5_lays 71 = .ok (.bipush 16, 2) := by decide +kernel
theorem dX5_lays_73 : decode cX5_lays 73 = .ok (.iastore, 1) := by decide +kernel
theorem dX5_lays_74 : decode cX5_lays 74 = .ok (.aload_n 0, 1) := by decide +kernel
theorem dX5_lays_75 : decode cX5_lays 75 = .ok (.getfield 32, 3) := by decide +kernel
theorem dX5_lays_78 : decode cX5_lays 78 = .ok (.aload_n 0, 1) := by decide +kernel
theorem dX5_lays_79 : decode cX5_lays 79 = .ok (.getfield 68, 3) := by decide +kernel
theorem dX5_lays_82 : decode cX5_lays 82 = .ok (.iconst 0, 1) := by decide +kernel
theorem dX5_lays_83 : decode cX5_lays 83 = .ok (.iastore, 1) := by decide +kernel
theorem dX5_lays_84 : decode cX5_lays 84 = .ok (.aload_n 0, 1) := by decide +kernel
theorem dX5_lays_85 : decode cX5_lays 85 = .ok (.getfield 35, 3) := by decide +kernel
theorem dX5_lays_88 : decode cX5_lays 88 = .ok (.aload_n 0, 1) := by decide +kernel
theorem dX5_lays_89 : decode cX5_lays 89 = .ok (.getfield 68, 3) := by decide +kernel
theorem dX5_lays_92 : decode cX5_lays 92 = .ok (.iconst 1, 1) := by decide +kernel
theorem dX5_lays_93 : decode cX5_lays 93 = .ok (.iastore, 1) := by decide +kernel
theorem dX5_lays_94 : decode cX5_lays 94 = .ok (.aload_n 0, 1) := by decide +kernel
theorem dX5_lays_95 : decode cX5_lays 95 = .ok (.dup, 1) := by decide +kernel
theorem dX5_lays_96 : decode cX5_lays 96 = .ok (.getfield 68, 3) := by decide +kernel
theorem dX5_lays_99 : decode cX5_lays 99 = .ok (.iconst 1, 1) := by decide +kernel
theorem dX5_lays_100 : decode cX5_lays 100 = .ok (.iadd, 1) := by decide +kernel
theorem dX5_lays_101 : decode cX5_lays 101 = .ok (.putfield 68, 3) := by decide +kernel
theorem dX5_lays_104 : decode cX5_lays 104 = .ok (.aload_n 0, 1) := by decide +kernel
theorem dX5_lays_105 : decode cX5_lays 105 = .ok (.getfield 68, 3) := by decide +kernel
theorem dX5_lays_108 : decode cX5_lays 108 = .ok (.iconst 1, 1) := by decide +kernel
theorem dX5_lays_109 : decode cX5_lays 109 = .ok (.isub, 1) := by decide +kernel
theorem dX5_lays_110 : decode cX5_lays 110 = .ok (.ireturn, 1) := by decide +kernel
theorem dX5_input_0 : decode cX5_input 0 = .ok (.iload_n 1, 1) := by decide +kernel
theorem dX5_input_1 : decode cX5_input 1 = .ok (.invokestatic 84, 3) := by decide +kernel
theorem dX5_input_4 : decode cX5_input 4 = .ok (.ifCond .eq 15, 3) := by decide +kernel
theorem dX5_input_7 : decode cX5_input 7 = .ok (.iload_n 2, 1) := by decide +kernel
theorem dX5_input_8 : decode cX5_input 8 = .ok (.invokestatic 84, 3) := by decide +kernel
theorem dX5_input_11 : decode cX5_input 11 = .ok (.ifCond .eq 8, 3) := by decide +kernel
theorem dX5_input_14 : decode cX5_input 14 = .ok (.iload_n 1, 1) := by decide +kernel
theorem dX5_input_15 : decode cX5_input 15 = .ok (.iload_n 2, 1) := by decide +kernel
theorem dX5_input_16 : decode cX5_input 16 = .ok (.if_icmp .le 6, 3) := by decide +kernel
theorem dX5_input_19 : decode cX5_input 19 = .ok (.bipush (-2), 2) := by decide +kernel
theorem dX5_input_21 : decode cX5_input 21 = .ok (.ireturn, 1) := by decide +kernel
theorem dX5_input_22 : decode cX5_input 22 = .ok (.aload_n 0, 1) := by decide +kernel
theorem dX5_input_23 : decode cX5_input 23 = .ok (.getfield 68, 3) := by decide +kernel
theorem dX5_input_26 : decode cX5_input 26 = .ok (.bipush 16, 2) := by decide +kernel
theorem dX5_input_28 : decode cX5_input 28 = .ok (.if_icmp .ne 6, 3) := by decide +kernel
theorem dX5_input_31 : decode cX5_input 31 = .ok (.bipush (-3), 2) := by decide +kernel
theorem dX5_input_33 : decode cX5_input 33 = .ok (.ireturn, 1) := by decide +kernel
theorem dX5_input_34 : decode cX5_input 34 = .ok (.aload_n 0, 1) := by decide +kernel
theorem dX5_input_35 : decode cX5_input 35 = .ok (.getfield 38, 3) := by decide +kernel
theorem dX5_input_38 : decode cX5_input 38 = .ok (.aload_n 0, 1) := by decide +kernel
theorem dX5_input_39 : decode cX5_input 39 = .ok (.getfield 68, 3) := by decide +kernel
theorem dX5_input_42 : decode cX5_input 42 = .ok (.iload_n 1, 1) := by decide +kernel
theorem dX5_input_43 : decode cX5_input 43 = .ok (.iastore, 1) := by decide +kernel
theorem dX5_input_44 : decode cX5_input 44 = .ok (.aload_n 0, 1) := by decide +kernel
theorem dX5_input_45 : decode cX5_input 45 = .ok (.iconst 0, 1) := by decide +kernel
theorem dX5_input_46 : decode cX5_input 46 = .ok (.iload_n 1, 1) := by decide +kernel
theorem dX5_input_47 : decode cX5_input 47 = .ok (.iload_n 2, 1) := by decide +kernel
theorem dX5_input_48 : decode cX5_input 48 = .ok (.iconst 1, 1) := by decide +kernel
theorem dX5_input_49 : decode cX5_input 49 = .ok (.iload_n 1, 1) := by decide +kernel
theorem dX5_input_50 : decode cX5_input 50 = .ok (.i2l, 1) := by decide +kernel
theorem dX5_input_51 : decode cX5_input 51 = .ok (.iload_n 2, 1) := by decide +kernel
theorem dX5_input_52 : decode cX5_input 52 = .ok (.i2l, 1) := by decide +kernel
theorem dX5_input_53 : decode cX5_input 53 = .ok (.invokevirtual 87, 3) := by decide +kernel
theorem dX5_input_56 : decode cX5_input 56 = .ok (.ireturn, 1) := by decide +kernel
theorem dX5_fixed_0 : decode cX5_fixed 0 = .ok (.iload_n 1, 1) := by decide +kernel
theorem dX5_fixed_1 : decode cX5_fixed 1 = .ok (.invokestatic 84, 3) := by decide +kernel
theorem dX5_fixed_4 : decode cX5_fixed 4 = .ok (.ifCond .ne 6, 3) := by decide +kernel
theorem dX5_fixed_7 : decode cX5_fixed 7 = .ok (.bipush (-2), 2) := by decide +kernel
theorem dX5_fixed_9 : decode cX5_fixed 9 = .ok (.ireturn, 1) := by decide +kernel
theorem dX5_fixed_10 : decode cX5_fixed 10 = .ok (.aload_n 0, 1) := by decide +kernel
theorem dX5_fixed_11 : decode cX5_fixed 11 = .ok (.getfield 68, 3) := by decide +kernel
theorem dX5_fixed_14 : decode cX5_fixed 14 = .ok (.bipush 16, 2) := by decide +kernel
theorem dX5_fixed_16 : decode cX5_fixed 16 = .ok (.if_icmp .ne 8, 3) := by decide +kernel
theorem dX5_fixed_19 : decode cX5_fixed 19 = .ok (.bipush (-3), 2) := by decide +kernel
theorem dX5_fixed_21 : decode cX5_fixed 21 = .ok (.goto 15, 3) := by decide +kernel
theorem dX5_fixed_24 : decode cX5_fixed 24 = .ok (.aload_n 0, 1) := by decide +kernel
theorem dX5_fixed_25 : decode cX5_fixed 25 = .ok (.iconst 1, 1) := by decide +kernel
theorem dX5_fixed_26 : decode cX5_fixed 26 = .ok (.iload_n 1, 1) := by decide +kernel
theorem dX5_fixed_27 : decode cX5_fixed 27 = .ok (.iconst 0, 1) := by decide +kernel
theorem dX5_fixed_28 : decode cX5_fixed 28 = .ok (.iconst 1, 1) := by decide +kernel
theorem dX5_fixed_29 : decode cX5_fixed 29 = .ok (.iload_n 1, 1) := by decide +kernel
theorem dX5_fixed_30 : decode cX5_fixed 30 = .ok (.i2l, 1) := by decide +kernel
theorem dX5_fixed_31 : decode cX5_fixed 31 = .ok (.iload_n 1, 1) := by decide +kernel
theorem dX5_fixed_32 : decode cX5_fixed 32 = .ok (.i2l, 1) := by decide +kernel
theorem dX5_fixed_33 : decode cX5_fixed 33 = .ok (.invokevirtual 87, 3) := by decide +kernel
theorem dX5_fixed_36 : decode cX5_fixed 36 = .ok (.ireturn, 1) := by decide +kernel
theorem dX5_max_0 : decode cX5_max 0 = .ok (.lload_n 0, 1) := by decide +kernel
theorem dX5_max_1 : decode cX5_max 1 = .ok (.lload_n 2, 1) := by decide +kernel
theorem dX5_max_2 : decode cX5_max 2 = .ok (.lcmp, 1) := by decide +kernel
theorem dX5_max_3 : decode cX5_max 3 = .ok (.ifCond .le 7, 3) := by decide +kernel
theorem dX5_max_6 : decode cX5_max 6 = .ok (.lload_n 0, 1) := by decide +kernel
theorem dX5_max_7 : decode cX5_max 7 = .ok (.goto 4, 3) := by decide +kernel
theorem dX5_max_10 : decode cX5_max 10 = .ok (.lload_n 2, 1) := by decide +kernel
theorem dX5_max_11 : decode cX5_max 11 = .ok (.lreturn, 1) := by decide +kernel
theorem dX5_min_0 : decode cX5_min 0 = .ok (.lload_n 0, 1) := by decide +kernel
theorem dX5_min_1 : decode cX5_min 1 = .ok (.lload_n 2, 1) := by decide +kernel
theorem dX5_min_2 : decode cX5_min 2 = .ok (.lcmp, 1) := by decide +kernel
theorem dX5_min_3 : decode cX5_min 3 = .ok (.ifCond .ge 7, 3) := by decide +kernel
theorem dX5_min_6 : decode cX5_min 6 = .ok (.lload_n 0, 1) := by decide +kernel
theorem dX5_min_7 : decode cX5_min 7 = .ok (.goto 4, 3) := by decide +kernel
theorem dX5_min_10 : decode cX5_min 10 = .ok (.lload_n 2, 1) := by decide +kernel
theorem dX5_min_11 : decode cX5_min 11 = .ok (.lreturn, 1) := by decide +kernel
theorem dX5_amount_0 : decode cX5_amount 0 = .ok (.lload_n 0, 1) := by decide +kernel
theorem dX5_amount_1 : decode cX5_amount 1 = .ok (.lconst 0, 1) := by decide +kernel
theorem dX5_amount_2 : decode cX5_amount 2 = .ok (.lcmp, 1) := by decide +kernel
theorem dX5_amount_3 : decode cX5_amount 3 = .ok (.ifCond .ge 8, 3) := by decide +kernel
theorem dX5_amount_6 : decode cX5_amount 6 = .ok (.lload_n 0, 1) := by decide +kernel
theorem dX5_amount_7 : decode cX5_amount 7 = .ok (.lneg, 1) := by decide +kernel
theorem dX5_amount_8 : decode cX5_amount 8 = .ok (.goto 4, 3) := by decide +kernel
theorem dX5_amount_11 : decode cX5_amount 11 = .ok (.lload_n 0, 1) := by decide +kernel
theorem dX5_amount_12 : decode cX5_amount 12 = .ok (.lreturn, 1) := by decide +kernel
theorem dX5_work_0 : decode cX5_work 0 = .ok (.iload_n 1, 1) := by decide +kernel
theorem dX5_work_1 : decode cX5_work 1 = .ok (.i2l, 1) := by decide +kernel
theorem dX5_work_2 : decode cX5_work 2 = .ok (.ldc2_w 91, 3) := by decide +kernel
theorem dX5_work_5 : decode cX5_work 5 = .ok (.ldc2_w 93, 3) := by decide +kernel
theorem dX5_work_8 : decode cX5_work 8 = .ok (.invokestatic 72, 3) := by decide +kernel
theorem dX5_work_11 : decode cX5_work 11 = .ok (.ifCond .eq 32, 3) := by decide +kernel
theorem dX5_work_14 : decode cX5_work 14 = .ok (.aload_n 0, 1) := by decide +kernel
theorem dX5_work_15 : decode cX5_work 15 = .ok (.iload_n 2, 1) := by decide +kernel
theorem dX5_work_16 : decode cX5_work 16 = .ok (.invokevirtual 76, 3) := by decide +kernel
theorem dX5_work_19 : decode cX5_work 19 = .ok (.ifCond .eq 24, 3) := by decide +kernel
theorem dX5_work_22 : decode cX5_work 22 = .ok (.iload_n 1, 1) := by decide +kernel
theorem dX5_work_23 : decode cX5_work 23 = .ok (.bipush 6, 2) := by decide +kernel
theorem dX5_work_25 : decode cX5_work 25 = .ok (.if_icmp .ge 14, 3) := by decide +kernel
theorem dX5_work_28 : decode cX5_work 28 = .ok (.aload_n 0, 1) := by decide +kernel
theorem dX5_work_29 : decode cX5_work 29 = .ok (.iload_n 3, 1) := by decide +kernel
theorem dX5_work_30 : decode cX5_work 30 = .ok (.invokevirtual 76, 3) := by decide +kernel
theorem dX5_work_33 : decode cX5_work 33 = .ok (.ifCond .ne 13, 3) := by decide +kernel
theorem dX5_work_36 : decode cX5_work 36 = .ok (.goto 7, 3) := by decide +kernel
theorem dX5_work_39 : decode cX5_work 39 = .ok (.iload_n 3, 1) := by decide +kernel
theorem dX5_work_40 : decode cX5_work 40 = .ok (.ifCond .eq 6, 3) := by decide +kernel
theorem dX5_work_43 : decode cX5_work 43 = .ok (.bipush (-2), 2) := by decide +kernel
theorem dX5_work_45 : decode cX5_work 45 = .ok (.ireturn, 1) := by decide +kernel
theorem dX5_work_46 : decode cX5_work 46 = .ok (.aload_n 0, 1) := by decide +kernel
theorem dX5_work_47 : decode cX5_work 47 = .ok (.getfield 68, 3) := by decide +kernel
theorem dX5_work_50 : decode cX5_work 50 = .ok (.bipush 16, 2) := by decide +kernel
theorem dX5_work_52 : decode cX5_work 52 = .ok (.if_icmp .ne 6, 3) := by decide +kernel
theorem dX5_work_55 : decode cX5_work 55 = .ok (.bipush (-3), 2) := by decide +kernel
theorem dX5_work_57 : decode cX5_work 57 = .ok (.ireturn, 1) := by decide +kernel
theorem dX5_work_58 : decode cX5_work 58 = .ok (.aload_n 0, 1) := by decide +kernel
theorem dX5_work_59 : decode cX5_work 59 = .ok (.getfield 22, 3) := by decide +kernel
theorem dX5_work_62 : decode cX5_work 62 = .ok (.iload_n 2, 1) := by decide +kernel
theorem dX5_work_63 : decode cX5_work 63 = .ok (.laload, 1) := by decide +kernel
theorem dX5_work_64 : decode cX5_work 64 = .ok (.lstore 4, 2) := by decide +kernel
theorem dX5_work_66 : decode cX5_work 66 = .ok (.aload_n 0, 1) := by decide +kernel
theorem dX5_work_67 : decode cX5_work 67 = .ok (.getfield 26, 3) := by decide +kernel
theorem dX5_work_70 : decode cX5_work 70 = .ok (.iload_n 2, 1) := by decide +kernel
theorem dX5_work_71 : decode cX5_work 71 = .ok (.laload, 1) := by decide +kernel
theorem dX5_work_72 : decode cX5_work 72 = .ok (.lstore 6, 2) := by decide +kernel
theorem dX5_work_74 : decode cX5_work 74 = .ok (.aload_n 0, 1) := by decide +kernel
theorem dX5_work_75 : decode cX5_work 75 = .ok (.getfield 22, 3) := by decide +kernel
theorem dX5_work_78 : decode cX5_work 78 = .ok (.iload_n 3, 1) := by decide +kernel
theorem dX5_work_79 : decode cX5_work 79 = .ok (.laload, 1) := by decide +kernel
theorem dX5_work_80 : decode cX5_work 80 = .ok (.lstore 8, 2) := by decide +kernel
theorem dX5_work_82 : decode cX5_work 82 = .ok (.aload_n 0, 1) := by decide +kernel
theorem dX5_work_83 : decode cX5_work 83 = .ok (.getfield 26, 3) := by decide +kernel
theorem dX5_work_86 : decode cX5_work 86 = .ok (.iload_n 3, 1) := by decide +kernel
theorem dX5_work_87 : decode cX5_work 87 = .ok (.laload, 1) := by decide +kernel
theorem dX5_work_88 : decode cX5_work 88 = .ok (.lstore 10, 2) := by decide +kernel
theorem dX5_work_90 : decode cX5_work 90 = .ok (.iload_n 1, 1) := by decide +kernel
theorem dX5_work_91 : decode cX5_work 91 = .ok (.iconst 5, 1) := by decide +kernel
theorem dX5_work_92 : decode cX5_work 92 = .ok (.if_icmp .le 12, 3) := by decide +kernel
theorem dX5_work_95 : decode cX5_work 95 = .ok (.aload_n 0, 1) := by decide +kernel
theorem dX5_work_96 : decode cX5_work 96 = .ok (.getfield 19, 3) := by decide +kernel
theorem dX5_work_99 : decode cX5_work 99 = .ok (.iload_n 2, 1) := by decide +kernel
theorem dX5_work_100 : decode cX5_work 100 = .ok (.iaload, 1) := by decide +kernel
theorem dX5_work_101 : decode cX5_work 101 = .ok (.goto 42, 3) := by decide +kernel
theorem dX5_work_104 : decode cX5_work 104 = .ok (.iload_n 1, 1) := by decide +kernel
theorem dX5_work_105 : decode cX5_work 105 = .ok (.iconst 4, 1) := by decide +kernel
theorem dX5_work_106 : decode cX5_work 106 = .ok (.if_icmp .ne 19, 3) := by decide +kernel
theorem dX5_work_109 : decode cX5_work 109 = .ok (.aload_n 0, 1) := by decide +kernel
theorem dX5_work_110 : decode cX5_work 110 = .ok (.getfield 19, 3) := by decide +kernel
theorem dX5_work_113 : decode cX5_work 113 = .ok (.iload_n 2, 1) := by decide +kernel
theorem dX5_work_114 : decode cX5_work 114 = .ok (.iaload, 1) := by decide +kernel
theorem dX5_work_115 : decode cX5_work 115 = .ok (.aload_n 0, 1) := by decide +kernel
theorem dX5_work_116 : decode cX5_work 116 = .ok (.getfield 19, 3) := by decide +kernel
theorem dX5_work_119 : decode cX5_work 119 = .ok (.iload_n 3, 1) := by decide +kernel
theorem dX5_work_120 : decode cX5_work 120 = .ok (.iaload, 1) := by decide +kernel
theorem dX5_work_121 : decode cX5_work 121 = .ok (.iadd, 1) := by decide +kernel
theorem dX5_work_122 : decode cX5_work 122 = .ok (.goto 21, 3) := by decide +kernel
theorem dX5_work_125 : decode cX5_work 125 = .ok (.aload_n 0, 1) := by decide +kernel
theorem dX5_work_126 : decode cX5_work 126 = .ok (.getfield 19, 3) := by decide +kernel
theorem dX5_work_129 : decode cX5_work 129 = .ok (.iload_n 2, 1) := by decide +kernel
theorem dX5_work_130 : decode cX5_work 130 = .ok (.iaload, 1) := by decide +kernel
theorem dX5_work_131 : decode cX5_work 131 = .ok (.i2l, 1) := by decide +kernel
theorem dX5_work_132 : decode cX5_work 132 = .ok (.aload_n 0, 1) := by decide +kernel
theorem dX5_work_133 : decode cX5_work 133 = .ok (.getfield 19, 3) := by decide +kernel
theorem dX5_work_136 : decode cX5_work 136 = .ok (.iload_n 3, 1) := by decide +kernel
theorem dX5_work_137 : decode cX5_work 137 = .ok (.iaload, 1) := by decide +kernel
theorem dX5_work_138 : decode cX5_work 138 = .ok (.i2l, 1) := by decide +kernel
theorem dX5_work_139 : decode cX5_work 139 = .ok (.invokestatic 95, 3) := by decide +kernel
theorem dX5_work_142 : decode cX5_work 142 = .ok (.l2i, 1) := by decide +kernel
theorem dX5_work_143 : decode cX5_work 143 = .ok (.istore 12, 2) := by decide +kernel
theorem dX5_work_145 : decode cX5_work 145 = .ok (.lload 4, 2) := by decide +kernel
theorem dX5_work_147 : decode cX5_work 147 = .ok (.lstore 13, 2) := by decide +kernel
theorem dX5_work_149 : decode cX5_work 149 = .ok (.lload 6, 2) := by decide +kernel
theorem dX5_work_151 : decode cX5_work 151 = .ok (.lstore 15, 2) := by decide +kernel
theorem dX5_work_153 : decode cX5_work 153 = .ok (.iload_n 1, 1) := by decide +kernel
theorem dX5_work_154 : decode cX5_work 154 = .ok (.tableswitch 213 2 6 #[34, 51, 68, 141, 162], 34) := by decide +kernel
theorem dX5_work_188 : decode cX5_work 188 = .ok (.lload 4, 2) := by decide +kernel
theorem dX5_work_190 : decode cX5_work 190 = .ok (.lload 8, 2) := by decide +kernel
theorem dX5_work_192 : decode cX5_work 192 = .ok (.ladd, 1) := by decide +kernel
theorem dX5_work_193 : decode cX5_work 193 = .ok (.lstore 13, 2) := by decide +kernel
theorem dX5_work_195 : decode cX5_work 195 = .ok (.lload 6, 2) := by decide +kernel
theorem dX5_work_197 : decode cX5_work 197 = .ok (.lload 10, 2) := by decide +kernel
theorem dX5_work_199 : decode cX5_work 199 = .ok (.ladd, 1) := by decide +kernel
theorem dX5_work_200 : decode cX5_work 200 = .ok (.lstore 15, 2) := by decide +kernel
theorem dX5_work_202 : decode cX5_work 202 = .ok (.goto 165, 3) := by decide +kernel
theorem dX5_work_205 : decode cX5_work 205 = .ok (.lload 4, 2) := by decide +kernel
theorem dX5_work_207 : decode cX5_work 207 = .ok (.lload 10, 2) := by decide +kernel
theorem dX5_work_209 : decode cX5_work 209 = .ok (.lsub, 1) := by decide +kernel
theorem dX5_work_210 : decode cX5_work 210 = .ok (.lstore 13, 2) := by decide +kernel
theorem dX5_work_212 : decode cX5_work 212 = .ok (.lload 6, 2) := by decide +kernel
theorem dX5_work_214 : decode cX5_work 214 = .ok (.lload 8, 2) := by decide +kernel
theorem dX5_work_216 : decode cX5_work 216 = .ok (.lsub, 1) := by decide +kernel
theorem dX5_work_217 : decode cX5_work 217 = .ok (.lstore 15, 2) := by decide +kernel
theorem dX5_work_219 : decode cX5_work 219 = .ok (.goto 148, 3) := by decide +kernel
theorem dX5_work_222 : decode cX5_work 222 = .ok (.lload 4, 2) := by decide +kernel
theorem dX5_work_224 : decode cX5_work 224 = .ok (.lload 8, 2) := by decide +kernel
theorem dX5_work_226 : decode cX5_work 226 = .ok (.lmul, 1) := by decide +kernel
theorem dX5_work_227 : decode cX5_work 227 = .ok (.lload 4, 2) := by decide +kernel
theorem dX5_work_229 : decode cX5_work 229 = .ok (.lload 10, 2) := by decide +kernel
theorem dX5_work_231 : decode cX5_work 231 = .ok (.lmul, 1) := by decide +kernel
theorem dX5_work_232 : decode cX5_work 232 = .ok (.invokestatic 99, 3) := by decide +kernel
theorem dX5_work_235 : decode cX5_work 235 = .ok (.lload 6, 2) := by decide +kernel
theorem dX5_work_237 : decode cX5_work 237 = .ok (.lload 8, 2) := by decide +kernel
theorem dX5_work_239 : decode cX5_work 239 = .ok (.lmul, 1) := by decide +kernel
theorem dX5_work_240 : decode cX5_work 240 = .ok (.lload 6, 2) := by decide +kernel
theorem dX5_work_242 : decode cX5_work 242 = .ok (.lload 10, 2) := by decide +kernel
theorem dX5_work_244 : decode cX5_work 244 = .ok (.lmul, 1) := by decide +kernel
theorem dX5_work_245 : decode cX5_work 245 = .ok (.invokestatic 99, 3) := by decide +kernel
theorem dX5_work_248 : decode cX5_work 248 = .ok (.invokestatic 99, 3) := by decide +kernel
theorem dX5_work_251 : decode cX5_work 251 = .ok (.ldc2_w 102, 3) := by decide +kernel
theorem dX5_work_254 : decode cX5_work 254 = .ok (.ldiv, 1) := by decide +kernel
theorem dX5_work_255 : decode cX5_work 255 = .ok (.lstore 13, 2) := by decide +kernel
theorem dX5_work_257 : decode cX5_work 257 = .ok (.lload 4, 2) := by decide +kernel
theorem dX5_work_259 : decode cX5_work 259 = .ok (.lload 8, 2) := by decide +kernel
theorem dX5_work_261 : decode cX5_work 261 = .ok (.lmul, 1) := by decide +kernel
theorem dX5_work_262 : decode cX5_work 262 = .ok (.lload 4, 2) := by decide +kernel
theorem dX5_work_264 : decode cX5_work 264 = .ok (.lload 10, 2) := by decide +kernel
theorem dX5_work_266 : decode cX5_work 266 = .ok (.lmul, 1) := by decide +kernel
theorem dX5_work_267 : decode cX5_work 267 = .ok (.invokestatic 95, 3) := by decide +kernel
theorem dX5_work_270 : decode cX5_work 270 = .ok (.lload 6, 2) := by decide +kernel
theorem dX5_work_272 : decode cX5_work 272 = .ok (.lload 8, 2) := by decide +kernel
theorem dX5_work_274 : decode cX5_work 274 = .ok (.lmul, 1) := by decide +kernel
theorem dX5_work_275 : decode cX5_work 275 = .ok (.lload 6, 2) := by decide +kernel
theorem dX5_work_277 : decode cX5_work 277 = .ok (.lload 10, 2) := by decide +kernel
theorem dX5_work_279 : decode cX5_work 279 = .ok (.lmul, 1) := by decide +kernel
theorem dX5_work_280 : decode cX5_work 280 = .ok (.invokestatic 95, 3) := by decide +kernel
theorem dX5_work_283 : decode cX5_work 283 = .ok (.invokestatic 95, 3) := by decide +kernel
theorem dX5_work_286 : decode cX5_work 286 = .ok (.ldc2_w 102, 3) := by decide +kernel
theorem dX5_work_289 : decode cX5_work 289 = .ok (.ldiv, 1) := by decide +kernel
theorem dX5_work_290 : decode cX5_work 290 = .ok (.lstore 15, 2) := by decide +kernel
theorem dX5_work_292 : decode cX5_work 292 = .ok (.goto 75, 3) := by decide +kernel
theorem dX5_work_295 : decode cX5_work 295 = .ok (.lload 4, 2) := by decide +kernel
theorem dX5_work_297 : decode cX5_work 297 = .ok (.lload 8, 2) := by decide +kernel
theorem dX5_work_299 : decode cX5_work 299 = .ok (.invokestatic 95, 3) := by decide +kernel
theorem dX5_work_302 : decode cX5_work 302 = .ok (.lstore 13, 2) := by decide +kernel
theorem dX5_work_304 : decode cX5_work 304 = .ok (.lload 6, 2) := by decide +kernel
theorem dX5_work_306 : decode cX5_work 306 = .ok (.lload 10, 2) := by decide +kernel
theorem dX5_work_308 : decode cX5_work 308 = .ok (.invokestatic 95, 3) := by decide +kernel
theorem dX5_work_311 : decode cX5_work 311 = .ok (.lstore 15, 2) := by decide +kernel
theorem dX5_work_313 : decode cX5_work 313 = .ok (.goto 54, 3) := by decide +kernel
theorem dX5_work_316 : decode cX5_work 316 = .ok (.lload 4, 2) := by decide +kernel
theorem dX5_work_318 : decode cX5_work 318 = .ok (.lconst 0, 1) := by decide +kernel
theorem dX5_work_319 : decode cX5_work 319 = .ok (.lcmp, 1) := by decide +kernel
theorem dX5_work_320 : decode cX5_work 320 = .ok (.ifCond .gt 14, 3) := by decide +kernel
theorem dX5_work_323 : decode cX5_work 323 = .ok (.lload 6, 2) := by decide +kernel
theorem dX5_work_325 : decode cX5_work 325 = .ok (.lconst 0, 1) := by decide +kernel
theorem dX5_work_326 : decode cX5_work 326 = .ok (.lcmp, 1) := by decide +kernel
theorem dX5_work_327 : decode cX5_work 327 = .ok (.ifCond .lt 7, 3) := by decide +kernel
theorem dX5_work_330 : decode cX5_work 330 = .ok (.lconst 0, 1) := by decide +kernel
theorem dX5_work_331 : decode cX5_work 331 = .ok (.goto 16, 3) := by decide +kernel
theorem dX5_work_334 : decode cX5_work 334 = .ok (.lload 4, 2) := by decide +kernel
theorem dX5_work_336 : decode cX5_work 336 = .ok (.invokestatic 104, 3) := by decide +kernel
theorem dX5_work_339 : decode cX5_work 339 = .ok (.lload 6, 2) := by decide +kernel
theorem dX5_work_341 : decode cX5_work 341 = .ok (.invokestatic 104, 3) := by decide +kernel
theorem dX5_work_344 : decode cX5_work 344 = .ok (.invokestatic 99, 3) := by decide +kernel
theorem dX5_work_347 : decode cX5_work 347 = .ok (.lstore 13, 2) := by decide +kernel
theorem dX5_work_349 : decode cX5_work 349 = .ok (.lload 4, 2) := by decide +kernel
theorem dX5_work_351 : decode cX5_work 351 = .ok (.invokestatic 104, 3) := by decide +kernel
theorem dX5_work_354 : decode cX5_work 354 = .ok (.lload 6, 2) := by decide +kernel
theorem dX5_work_356 : decode cX5_work 356 = .ok (.invokestatic 104, 3) := by decide +kernel
theorem dX5_work_359 : decode cX5_work 359 = .ok (.invokestatic 95, 3) := by decide +kernel
theorem dX5_work_362 : decode cX5_work 362 = .ok (.lstore 15, 2) := by decide +kernel
theorem dX5_work_364 : decode cX5_work 364 = .ok (.goto 3, 3) := by decide +kernel
theorem dX5_work_367 : decode cX5_work 367 = .ok (.iload 12, 2) := by decide +kernel
theorem dX5_work_369 : decode cX5_work 369 = .ok (.iconst 4, 1) := by decide +kernel
theorem dX5_work_370 : decode cX5_work 370 = .ok (.if_icmp .gt 31, 3) := by decide +kernel
theorem dX5_work_373 : decode cX5_work 373 = .ok (.lload 13, 2) := by decide +kernel
theorem dX5_work_375 : decode cX5_work 375 = .ok (.ldc2_w 108, 3) := by decide +kernel
theorem dX5_work_378 : decode cX5_work 378 = .ok (.ldc2_w 110, 3) := by decide +kernel
theorem dX5_work_381 : decode cX5_work 381 = .ok (.invokestatic 72, 3) := by decide +kernel
theorem dX5_work_384 : decode cX5_work 384 = .ok (.ifCond .eq 17, 3) := by decide +kernel
theorem dX5_work_387 : decode cX5_work 387 = .ok (.lload 15, 2) := by decide +kernel
theorem dX5_work_389 : decode cX5_work 389 = .ok (.ldc2_w 108, 3) := by decide +kernel
theorem dX5_work_392 : decode cX5_work 392 = .ok (.ldc2_w 110, 3) := by decide +kernel
theorem dX5_work_395 : decode cX5_work 395 = .ok (.invokestatic 72, 3) := by decide +kernel
theorem dX5_work_398 : decode cX5_work 398 = .ok (.ifCond .ne 6, 3) := by decide +kernel
theorem dX5_work_401 : decode cX5_work 401 = .ok (.bipush (-4), 2) := by decide +kernel
theorem dX5_work_403 : decode cX5_work 403 = .ok (.ireturn, 1) := by decide +kernel
theorem dX5_work_404 : decode cX5_work 404 = .ok (.aload_n 0, 1) := by decide +kernel
theorem dX5_work_405 : decode cX5_work 405 = .ok (.iload_n 1, 1) := by decide +kernel
theorem dX5_work_406 : decode cX5_work 406 = .ok (.iload_n 2, 1) := by decide +kernel
theorem dX5_work_407 : decode cX5_work 407 = .ok (.iload_n 3, 1) := by decide +kernel
theorem dX5_work_408 : decode cX5_work 408 = .ok (.iload 12, 2) := by decide +kernel
theorem dX5_work_410 : decode cX5_work 410 = .ok (.lload 13, 2) := by decide +kernel
theorem dX5_work_412 : decode cX5_work 412 = .ok (.lload 15, 2) := by decide +kernel
theorem dX5_work_414 : decode cX5_work 414 = .ok (.invokevirtual 87, 3) := by decide +kernel
theorem dX5_work_417 : decode cX5_work 417 = .ok (.ireturn, 1) := by decide +kernel
theorem dX5_cut_0 : decode cX5_cut 0 = .ok (.iload_n 1, 1) := by decide +kernel
theorem dX5_cut_1 : decode cX5_cut 1 = .ok (.i2l, 1) := by decide +kernel
theorem dX5_cut_2 : decode cX5_cut 2 = .ok (.lconst 0, 1) := by decide +kernel
theorem dX5_cut_3 : decode cX5_cut 3 = .ok (.aload_n 0, 1) := by decide +kernel
theorem dX5_cut_4 : decode cX5_cut 4 = .ok (.getfield 68, 3) := by decide +kernel
theorem dX5_cut_7 : decode cX5_cut 7 = .ok (.i2l, 1) := by decide +kernel
theorem dX5_cut_8 : decode cX5_cut 8 = .ok (.invokestatic 72, 3) := by decide +kernel
theorem dX5_cut_11 : decode cX5_cut 11 = .ok (.ifCond .ne 6, 3) := by decide +kernel
theorem dX5_cut_14 : decode cX5_cut 14 = .ok (.bipush (-2), 2) := by decide +kernel
theorem dX5_cut_16 : decode cX5_cut 16 = .ok (.ireturn, 1) := by decide +kernel
theorem dX5_cut_17 : decode cX5_cut 17 = .ok (.aload_n 0, 1) := by decide +kernel
theorem dX5_cut_18 : decode cX5_cut 18 = .ok (.getfield 68, 3) := by decide +kernel
theorem dX5_cut_21 : decode cX5_cut 21 = .ok (.iload_n 1, 1) := by decide +kernel
theorem dX5_cut_22 : decode cX5_cut 22 = .ok (.isub, 1) := by decide +kernel
theorem dX5_cut_23 : decode cX5_cut 23 = .ok (.istore_n 2, 1) := by decide +kernel
theorem dX5_cut_24 : decode cX5_cut 24 = .ok (.aload_n 0, 1) := by decide +kernel
theorem dX5_cut_25 : decode cX5_cut 25 = .ok (.iload_n 1, 1) := by decide +kernel
theorem dX5_cut_26 : decode cX5_cut 26 = .ok (.putfield 68, 3) := by decide +kernel
theorem dX5_cut_29 : decode cX5_cut 29 = .ok (.iload_n 2, 1) := by decide +kernel
theorem dX5_cut_30 : decode cX5_cut 30 = .ok (.ireturn, 1) := by decide +kernel
theorem dX5_bits_0 : decode cX5_bits 0 = .ok (.aload_n 0, 1) := by decide +kernel
theorem dX5_bits_1 : decode cX5_bits 1 = .ok (.iload_n 1, 1) := by decide +kernel
theorem dX5_bits_2 : decode cX5_bits 2 = .ok (.invokevirtual 112, 3) := by decide +kernel
theorem dX5_bits_5 : decode cX5_bits 5 = .ok (.ifCond .eq 15, 3) := by decide +kernel
theorem dX5_bits_8 : decode cX5_bits 8 = .ok (.iload_n 2, 1) := by decide +kernel
theorem dX5_bits_9 : decode cX5_bits 9 = .ok (.i2l, 1) := by decide +kernel
theorem dX5_bits_10 : decode cX5_bits 10 = .ok (.lconst 0, 1) := by decide +kernel
theorem dX5_bits_11 : decode cX5_bits 11 = .ok (.ldc2_w 115, 3) := by decide +kernel
theorem dX5_bits_14 : decode cX5_bits 14 = .ok (.invokestatic 72, 3) := by decide +kernel
theorem dX5_bits_17 : decode cX5_bits 17 = .ok (.ifCond .ne 6, 3) := by decide +kernel
theorem dX5_bits_20 : decode cX5_bits 20 = .ok (.bipush (-2), 2) := by decide +kernel
theorem dX5_bits_22 : decode cX5_bits 22 = .ok (.ireturn, 1) := by decide +kernel
theorem dX5_bits_23 : decode cX5_bits 23 = .ok (.aload_n 0, 1) := by decide +kernel
theorem dX5_bits_24 : decode cX5_bits 24 = .ok (.getfield 29, 3) := by decide +kernel
theorem dX5_bits_27 : decode cX5_bits 27 = .ok (.iload_n 1, 1) := by decide +kernel
theorem dX5_bits_28 : decode cX5_bits 28 = .ok (.iaload, 1) := by decide +kernel
theorem dX5_bits_29 : decode cX5_bits 29 = .ok (.istore_n 3, 1) := by decide +kernel
theorem dX5_bits_30 : decode cX5_bits 30 = .ok (.aload_n 0, 1) := by decide +kernel
theorem dX5_bits_31 : decode cX5_bits 31 = .ok (.getfield 29, 3) := by decide +kernel
theorem dX5_bits_34 : decode cX5_bits 34 = .ok (.iload_n 1, 1) := by decide +kernel
theorem dX5_bits_35 : decode cX5_bits 35 = .ok (.iload_n 2, 1) := by decide +kernel
theorem dX5_bits_36 : decode cX5_bits 36 = .ok (.iastore, 1) := by decide +kernel
theorem dX5_bits_37 : decode cX5_bits 37 = .ok (.iload_n 3, 1) := by decide +kernel
theorem dX5_bits_38 : decode cX5_bits 38 = .ok (.ireturn, 1) := by decide +kernel
theorem dX5_rounding_0 : decode cX5_rounding 0 = .ok (.aload_n 0, 1) := by decide +kernel
theorem dX5_rounding_1 : decode cX5_rounding 1 = .ok (.iload_n 1, 1) := by decide +kernel
theorem dX5_rounding_2 : decode cX5_rounding 2 = .ok (.invokevirtual 112, 3) := by decide +kernel
theorem dX5_rounding_5 : decode cX5_rounding 5 = .ok (.ifCond .eq 15, 3) := by decide +kernel
theorem dX5_rounding_8 : decode cX5_rounding 8 = .ok (.iload_n 2, 1) := by decide +kernel
theorem dX5_rounding_9 : decode cX5_rounding 9 = .ok (.i2l, 1) := by decide +kernel
theorem dX5_rounding_10 : decode cX5_rounding 10 = .ok (.lconst 0, 1) := by decide +kernel
theorem dX5_rounding_11 : decode cX5_rounding 11 = .ok (.ldc2_w 91, 3) := by decide +kernel
theorem dX5_rounding_14 : decode cX5_rounding 14 = .ok (.invokestatic 72, 3) := by decide +kernel
theorem dX5_rounding_17 : decode cX5_rounding 17 = .ok (.ifCond .ne 6, 3) := by decide +kernel
theorem dX5_rounding_20 : decode cX5_rounding 20 = .ok (.bipush (-2), 2) := by decide +kernel
theorem dX5_rounding_22 : decode cX5_rounding 22 = .ok (.ireturn, 1) := by decide +kernel
theorem dX5_rounding_23 : decode cX5_rounding 23 = .ok (.aload_n 0, 1) := by decide +kernel
theorem dX5_rounding_24 : decode cX5_rounding 24 = .ok (.getfield 32, 3) := by decide +kernel
theorem dX5_rounding_27 : decode cX5_rounding 27 = .ok (.iload_n 1, 1) := by decide +kernel
theorem dX5_rounding_28 : decode cX5_rounding 28 = .ok (.iaload, 1) := by decide +kernel
theorem dX5_rounding_29 : decode cX5_rounding 29 = .ok (.istore_n 3, 1) := by decide +kernel
theorem dX5_rounding_30 : decode cX5_rounding 30 = .ok (.aload_n 0, 1) := by decide +kernel
theorem dX5_rounding_31 : decode cX5_rounding 31 = .ok (.getfield 32, 3) := by decide +kernel
theorem dX5_rounding_34 : decode cX5_rounding 34 = .ok (.iload_n 1, 1) := by decide +kernel
theorem dX5_rounding_35 : decode cX5_rounding 35 = .ok (.iload_n 2, 1) := by decide +kernel
theorem dX5_rounding_36 : decode cX5_rounding 36 = .ok (.iastore, 1) := by decide +kernel
theorem dX5_rounding_37 : decode cX5_rounding 37 = .ok (.iload_n 3, 1) := by decide +kernel
theorem dX5_rounding_38 : decode cX5_rounding 38 = .ok (.ireturn, 1) := by decide +kernel
theorem dX5_weight_0 : decode cX5_weight 0 = .ok (.aload_n 0, 1) := by decide +kernel
theorem dX5_weight_1 : decode cX5_weight 1 = .ok (.iload_n 1, 1) := by decide +kernel
theorem dX5_weight_2 : decode cX5_weight 2 = .ok (.invokevirtual 112, 3) := by decide +kernel
theorem dX5_weight_5 : decode cX5_weight 5 = .ok (.ifCond .eq 15, 3) := by decide +kernel
theorem dX5_weight_8 : decode cX5_weight 8 = .ok (.iload_n 2, 1) := by decide +kernel
theorem dX5_weight_9 : decode cX5_weight 9 = .ok (.i2l, 1) := by decide +kernel
theorem dX5_weight_10 : decode cX5_weight 10 = .ok (.lconst 0, 1) := by decide +kernel
theorem dX5_weight_11 : decode cX5_weight 11 = .ok (.ldc2_w 117, 3) := by decide +kernel
theorem dX5_weight_14 : decode cX5_weight 14 = .ok (.invokestatic 72, 3) := by decide +kernel
theorem dX5_weight_17 : decode cX5_weight 17 = .ok (.ifCond .ne 6, 3) := by decide +kernel
theorem dX5_weight_20 : decode cX5_weight 20 = .ok (.bipush (-2), 2) := by decide +kernel
theorem dX5_weight_22 : decode cX5_weight 22 = .ok (.ireturn, 1) := by decide +kernel
theorem dX5_weight_23 : decode cX5_weight 23 = .ok (.aload_n 0, 1) := by decide +kernel
theorem dX5_weight_24 : decode cX5_weight 24 = .ok (.getfield 35, 3) := by decide +kernel
theorem dX5_weight_27 : decode cX5_weight 27 = .ok (.iload_n 1, 1) := by decide +kernel
theorem dX5_weight_28 : decode cX5_weight 28 = .ok (.iaload, 1) := by decide +kernel
theorem dX5_weight_29 : decode cX5_weight 29 = .ok (.istore_n 3, 1) := by decide +kernel
theorem dX5_weight_30 : decode cX5_weight 30 = .ok (.aload_n 0, 1) := by decide +kernel
theorem dX5_weight_31 : decode cX5_weight 31 = .ok (.getfield 35, 3) := by decide +kernel
theorem dX5_weight_34 : decode cX5_weight 34 = .ok (.iload_n 1, 1) := by decide +kernel
theorem dX5_weight_35 : decode cX5_weight 35 = .ok (.iload_n 2, 1) := by decide +kernel
theorem dX5_weight_36 : decode cX5_weight 36 = .ok (.iastore, 1) := by decide +kernel
theorem dX5_weight_37 : decode cX5_weight 37 = .ok (.iload_n 3, 1) := by decide +kernel
theorem dX5_weight_38 : decode cX5_weight 38 = .ok (.ireturn, 1) := by decide +kernel
theorem dX5_greatest_0 : decode cX5_greatest 0 = .ok (.aload_n 0, 1) := by decide +kernel
theorem dX5_greatest_1 : decode cX5_greatest 1 = .ok (.getfield 22, 3) := by decide +kernel
theorem dX5_greatest_4 : decode cX5_greatest 4 = .ok (.iload_n 1, 1) := by decide +kernel
theorem dX5_greatest_5 : decode cX5_greatest 5 = .ok (.laload, 1) := by decide +kernel
theorem dX5_greatest_6 : decode cX5_greatest 6 = .ok (.invokestatic 104, 3) := by decide +kernel
theorem dX5_greatest_9 : decode cX5_greatest 9 = .ok (.aload_n 0, 1) := by decide +kernel
theorem dX5_greatest_10 : decode cX5_greatest 10 = .ok (.getfield 26, 3) := by decide +kernel
theorem dX5_greatest_13 : decode cX5_greatest 13 = .ok (.iload_n 1, 1) := by decide +kernel
theorem dX5_greatest_14 : decode cX5_greatest 14 = .ok (.laload, 1) := by decide +kernel
theorem dX5_greatest_15 : decode cX5_greatest 15 = .ok (.invokestatic 104, 3) := by decide +kernel
theorem dX5_greatest_18 : decode cX5_greatest 18 = .ok (.invokestatic 95, 3) := by decide +kernel
theorem dX5_greatest_21 : decode cX5_greatest 21 = .ok (.lreturn, 1) := by decide +kernel
theorem dX5_up_0 : decode cX5_up 0 = .ok (.lload_n 0, 1) := by decide +kernel
theorem dX5_up_1 : decode cX5_up 1 = .ok (.ldc2_w 102, 3) := by decide +kernel
theorem dX5_up_4 : decode cX5_up 4 = .ok (.ldiv, 1) := by decide +kernel
theorem dX5_up_5 : decode cX5_up 5 = .ok (.lload_n 0, 1) := by decide +kernel
theorem dX5_up_6 : decode cX5_up 6 = .ok (.ldc2_w 102, 3) := by decide +kernel
theorem dX5_up_9 : decode cX5_up 9 = .ok (.lrem, 1) := by decide +kernel
theorem dX5_up_10 : decode cX5_up 10 = .ok (.lconst 0, 1) := by decide +kernel
theorem dX5_up_11 : decode cX5_up 11 = .ok (.lcmp, 1) := by decide +kernel
theorem dX5_up_12 : decode cX5_up 12 = .ok (.ifCond .le 7, 3) := by decide +kernel
theorem dX5_up_15 : decode cX5_up 15 = .ok (.lconst 1, 1) := by decide +kernel
theorem dX5_up_16 : decode cX5_up 16 = .ok (.goto 4, 3) := by decide +kernel
theorem dX5_up_19 : decode cX5_up 19 = .ok (.lconst 0, 1) := by decide +kernel
theorem dX5_up_20 : decode cX5_up 20 = .ok (.ladd, 1) := by decide +kernel
theorem dX5_up_21 : decode cX5_up 21 = .ok (.lreturn, 1) := by decide +kernel
theorem dX5_bound_0 : decode cX5_bound 0 = .ok (.iconst 0, 1) := by decide +kernel
theorem dX5_bound_1 : decode cX5_bound 1 = .ok (.istore_n 2, 1) := by decide +kernel
theorem dX5_bound_2 : decode cX5_bound 2 = .ok (.iload_n 2, 1) := by decide +kernel
theorem dX5_bound_3 : decode cX5_bound 3 = .ok (.iload_n 1, 1) := by decide +kernel
theorem dX5_bound_4 : decode cX5_bound 4 = .ok (.if_icmp .gt 234, 3) := by decide +kernel
theorem dX5_bound_7 : decode cX5_bound 7 = .ok (.aload_n 0, 1) := by decide +kernel
theorem dX5_bound_8 : decode cX5_bound 8 = .ok (.getfield 7, 3) := by decide +kernel
theorem dX5_bound_11 : decode cX5_bound 11 = .ok (.iload_n 2, 1) := by decide +kernel
theorem dX5_bound_12 : decode cX5_bound 12 = .ok (.iaload, 1) := by decide +kernel
theorem dX5_bound_13 : decode cX5_bound 13 = .ok (.iconst 1, 1) := by decide +kernel
theorem dX5_bound_14 : decode cX5_bound 14 = .ok (.if_icmp .gt 13, 3) := by decide +kernel
theorem dX5_bound_17 : decode cX5_bound 17 = .ok (.aload_n 0, 1) := by decide +kernel
theorem dX5_bound_18 : decode cX5_bound 18 = .ok (.getfield 41, 3) := by decide +kernel
theorem dX5_bound_21 : decode cX5_bound 21 = .ok (.iload_n 2, 1) := by decide +kernel
theorem dX5_bound_22 : decode cX5_bound 22 = .ok (.lconst 0, 1) := by decide +kernel
theorem dX5_bound_23 : decode cX5_bound 23 = .ok (.lastore, 1) := by decide +kernel
theorem dX5_bound_24 : decode cX5_bound 24 = .ok (.goto 208, 3) := by decide +kernel
theorem dX5_bound_27 : decode cX5_bound 27 = .ok (.ldc 119, 2) := by decide +kernel
theorem dX5_bound_29 : decode cX5_bound 29 = .ok (.aload_n 0, 1) := by decide +kernel
theorem dX5_bound_30 : decode cX5_bound 30 = .ok (.getfield 29, 3) := by decide +kernel
theorem dX5_bound_33 : decode cX5_bound 33 = .ok (.iload_n 2, 1) := by decide +kernel
theorem dX5_bound_34 : decode cX5_bound 34 = .ok (.iaload, 1) := by decide +kernel
theorem dX5_bound_35 : decode cX5_bound 35 = .ok (.ishr, 1) := by decide +kernel
theorem dX5_bound_36 : decode cX5_bound 36 = .ok (.istore_n 3, 1) := by decide +kernel
theorem dX5_bound_37 : decode cX5_bound 37 = .ok (.aload_n 0, 1) := by decide +kernel
theorem dX5_bound_38 : decode cX5_bound 38 = .ok (.getfield 32, 3) := by decide +kernel
theorem dX5_bound_41 : decode cX5_bound 41 = .ok (.iload_n 2, 1) := by decide +kernel
theorem dX5_bound_42 : decode cX5_bound 42 = .ok (.iaload, 1) := by decide +kernel
theorem dX5_bound_43 : decode cX5_bound 43 = .ok (.iconst 1, 1) := by decide +kernel
theorem dX5_bound_44 : decode cX5_bound 44 = .ok (.if_icmp .ne 10, 3) := by decide +kernel
theorem dX5_bound_47 : decode cX5_bound 47 = .ok (.iload_n 3, 1) := by decide +kernel
theorem dX5_bound_48 : decode cX5_bound 48 = .ok (.iconst 2, 1) := by decide +kernel
theorem dX5_bound_49 : decode cX5_bound 49 = .ok (.idiv, 1) := by decide +kernel
theorem dX5_bound_50 : decode cX5_bound 50 = .ok (.i2l, 1) := by decide +kernel
theorem dX5_bound_51 : decode cX5_bound 51 = .ok (.goto 7, 3) := by decide +kernel
theorem dX5_bound_54 : decode cX5_bound 54 = .ok (.iload_n 3, 1) := by decide +kernel
theorem dX5_bound_55 : decode cX5_bound 55 = .ok (.iconst 1, 1) := by decide +kernel
theorem dX5_bound_56 : decode cX5_bound 56 = .ok (.isub, 1) := by decide +kernel
theorem dX5_bound_57 : decode cX5_bound 57 = .ok (.i2l, 1) := by decide +kernel
theorem dX5_bound_58 : decode cX5_bound 58 = .ok (.lstore 4, 2) := by decide +kernel
theorem dX5_bound_60 : decode cX5_bound 60 = .ok (.aload_n 0, 1) := by decide +kernel
theorem dX5_bound_61 : decode cX5_bound 61 = .ok (.getfield 41, 3) := by decide +kernel
theorem dX5_bound_64 : decode cX5_bound 64 = .ok (.aload_n 0, 1) := by decide +kernel
theorem dX5_bound_65 : decode cX5_bound 65 = .ok (.getfield 13, 3) := by decide +kernel
theorem dX5_bound_68 : decode cX5_bound 68 = .ok (.iload_n 2, 1) := by decide +kernel
theorem dX5_bound_69 : decode cX5_bound 69 = .ok (.iaload, 1) := by decide +kernel
theorem dX5_bound_70 : decode cX5_bound 70 = .ok (.laload, 1) := by decide +kernel
theorem dX5_bound_71 : decode cX5_bound 71 = .ok (.lstore 6, 2) := by decide +kernel
theorem dX5_bound_73 : decode cX5_bound 73 = .ok (.aload_n 0, 1) := by decide +kernel
theorem dX5_bound_74 : decode cX5_bound 74 = .ok (.getfield 41, 3) := by decide +kernel
theorem dX5_bound_77 : decode cX5_bound 77 = .ok (.aload_n 0, 1) := by decide +kernel
theorem dX5_bound_78 : decode cX5_bound 78 = .ok (.getfield 16, 3) := by decide +kernel
theorem dX5_bound_81 : decode cX5_bound 81 = .ok (.iload_n 2, 1) := by decide +kernel
theorem dX5_bound_82 : decode cX5_bound 82 = .ok (.iaload, 1) := by decide +kernel
theorem dX5_bound_83 : decode cX5_bound 83 = .ok (.laload, 1) := by decide +kernel
theorem dX5_bound_84 : decode cX5_bound 84 = .ok (.lstore 8, 2) := by decide +kernel
theorem dX5_bound_86 : decode cX5_bound 86 = .ok (.aload_n 0, 1) := by decide +kernel
theorem dX5_bound_87 : decode cX5_bound 87 = .ok (.getfield 7, 3) := by decide +kernel
theorem dX5_bound_90 : decode cX5_bound 90 = .ok (.iload_n 2, 1) := by decide +kernel
theorem dX5_bound_91 : decode cX5_bound 91 = .ok (.iaload, 1) := by decide +kernel
theorem dX5_bound_92 : decode cX5_bound 92 = .ok (.tableswitch 119 2 5 #[32, 32, 42, 107], 32) := by decide +kernel
theorem dX5_bound_124 : decode cX5_bound 124 = .ok (.lload 6, 2) := by decide +kernel
theorem dX5_bound_126 : decode cX5_bound 126 = .ok (.lload 8, 2) := by decide +kernel
theorem dX5_bound_128 : decode cX5_bound 128 = .ok (.ladd, 1) := by decide +kernel
theorem dX5_bound_129 : decode cX5_bound 129 = .ok (.lstore 10, 2) := by decide +kernel
theorem dX5_bound_131 : decode cX5_bound 131 = .ok (.goto 84, 3) := by decide +kernel
theorem dX5_bound_134 : decode cX5_bound 134 = .ok (.lload 6, 2) := by decide +kernel
theorem dX5_bound_136 : decode cX5_bound 136 = .ok (.ldc2_w 120, 3) := by decide +kernel
theorem dX5_bound_139 : decode cX5_bound 139 = .ok (.lcmp, 1) := by decide +kernel
theorem dX5_bound_140 : decode cX5_bound 140 = .ok (.ifCond .eq 12, 3) := by decide +kernel
theorem dX5_bound_143 : decode cX5_bound 143 = .ok (.lload 8, 2) := by decide +kernel
theorem dX5_bound_145 : decode cX5_bound 145 = .ok (.ldc2_w 120, 3) := by decide +kernel
theorem dX5_bound_148 : decode cX5_bound 148 = .ok (.lcmp, 1) := by decide +kernel
theorem dX5_bound_149 : decode cX5_bound 149 = .ok (.ifCond .ne 9, 3) := by decide +kernel
theorem dX5_bound_152 : decode cX5_bound 152 = .ok (.ldc2_w 120, 3) := by decide +kernel
theorem dX5_bound_155 : decode cX5_bound 155 = .ok (.goto 39, 3) := by decide +kernel
theorem dX5_bound_158 : decode cX5_bound 158 = .ok (.aload_n 0, 1) := by decide +kernel
theorem dX5_bound_159 : decode cX5_bound 159 = .ok (.aload_n 0, 1) := by decide +kernel
theorem dX5_bound_160 : decode cX5_bound 160 = .ok (.getfield 13, 3) := by decide +kernel
theorem dX5_bound_163 : decode cX5_bound 163 = .ok (.iload_n 2, 1) := by decide +kernel
theorem dX5_bound_164 : decode cX5_bound 164 = .ok (.iaload, 1) := by decide +kernel
theorem dX5_bound_165 : decode cX5_bound 165 = .ok (.invokevirtual 122, 3) := by decide +kernel
theorem dX5_bound_168 : decode cX5_bound 168 = .ok (.lload 8, 2) := by decide +kernel
theorem dX5_bound_170 : decode cX5_bound 170 = .ok (.lmul, 1) := by decide +kernel
theorem dX5_bound_171 : decode cX5_bound 171 = .ok (.aload_n 0, 1) := by decide +kernel
theorem dX5_bound_172 : decode cX5_bound 172 = .ok (.aload_n 0, 1) := by decide +kernel
theorem dX5_bound_173 : decode cX5_bound 173 = .ok (.getfield 16, 3) := by decide +kernel
theorem dX5_bound_176 : decode cX5_bound 176 = .ok (.iload_n 2, 1) := by decide +kernel
theorem dX5_bound_177 : decode cX5_bound 177 = .ok (.iaload, 1) := by decide +kernel
theorem dX5_bound_178 : decode cX5_bound 178 = .ok (.invokevirtual 122, 3) := by decide +kernel
theorem dX5_bound_181 : decode cX5_bound 181 = .ok (.lload 6, 2) := by decide +kernel
theorem dX5_bound_183 : decode cX5_bound 183 = .ok (.lmul, 1) := by decide +kernel
theorem dX5_bound_184 : decode cX5_bound 184 = .ok (.ladd, 1) := by decide +kernel
theorem dX5_bound_185 : decode cX5_bound 185 = .ok (.lload 6, 2) := by decide +kernel
theorem dX5_bound_187 : decode cX5_bound 187 = .ok (.lload 8, 2) := by decide +kernel
theorem dX5_bound_189 : decode cX5_bound 189 = .ok (.lmul, 1) := by decide +kernel
theorem dX5_bound_190 : decode cX5_bound 190 = .ok (.ladd, 1) := by decide +kernel
theorem dX5_bound_191 : decode cX5_bound 191 = .ok (.invokestatic 126, 3) := by decide +kernel
theorem dX5_bound_194 : decode cX5_bound 194 = .ok (.lstore 10, 2) := by decide +kernel
theorem dX5_bound_196 : decode cX5_bound 196 = .ok (.goto 19, 3) := by decide +kernel
theorem dX5_bound_199 : decode cX5_bound 199 = .ok (.lload 6, 2) := by decide +kernel
theorem dX5_bound_201 : decode cX5_bound 201 = .ok (.lload 8, 2) := by decide +kernel
theorem dX5_bound_203 : decode cX5_bound 203 = .ok (.invokestatic 95, 3) := by decide +kernel
theorem dX5_bound_206 : decode cX5_bound 206 = .ok (.lstore 10, 2) := by decide +kernel
theorem dX5_bound_208 : decode cX5_bound 208 = .ok (.goto 7, 3) := by decide +kernel
theorem dX5_bound_211 : decode cX5_bound 211 = .ok (.lload 6, 2) := by decide +kernel
theorem dX5_bound_213 : decode cX5_bound 213 = .ok (.lstore 10, 2) := by decide +kernel
theorem dX5_bound_215 : decode cX5_bound 215 = .ok (.aload_n 0, 1) := by decide +kernel
theorem dX5_bound_216 : decode cX5_bound 216 = .ok (.getfield 41, 3) := by decide +kernel
theorem dX5_bound_219 : decode cX5_bound 219 = .ok (.iload_n 2, 1) := by decide +kernel
theorem dX5_bound_220 : decode cX5_bound 220 = .ok (.ldc2_w 120, 3) := by decide +kernel
theorem dX5_bound_223 : decode cX5_bound 223 = .ok (.lload 10, 2) := by decide +kernel
theorem dX5_bound_225 : decode cX5_bound 225 = .ok (.lload 4, 2) := by decide +kernel
theorem dX5_bound_227 : decode cX5_bound 227 = .ok (.ladd, 1) := by decide +kernel
theorem dX5_bound_228 : decode cX5_bound 228 = .ok (.invokestatic 99, 3) := by decide +kernel
theorem dX5_bound_231 : decode cX5_bound 231 = .ok (.lastore, 1) := by decide +kernel
theorem dX5_bound_232 : decode cX5_bound 232 = .ok (.iinc 2 1, 3) := by decide +kernel
theorem dX5_bound_235 : decode cX5_bound 235 = .ok (.goto (-233), 3) := by decide +kernel
theorem dX5_bound_238 : decode cX5_bound 238 = .ok (.aload_n 0, 1) := by decide +kernel
end
section
theorem dX5_bound_239 : decode cX5_bound 239 = .ok (.getfield 41, 3) := by decide +kernel
theorem dX5_bound_242 : decode cX5_bound 242 = .ok (.iload_n 1, 1) := by decide +kernel
theorem dX5_bound_243 : decode cX5_bound 243 = .ok (.laload, 1) := by decide +kernel
theorem dX5_bound_244 : decode cX5_bound 244 = .ok (.lreturn, 1) := by decide +kernel
theorem dX5_about_0 : decode cX5_about 0 = .ok (.aload_n 0, 1) := by decide +kernel
theorem dX5_about_1 : decode cX5_about 1 = .ok (.iload_n 1, 1) := by decide +kernel
theorem dX5_about_2 : decode cX5_about 2 = .ok (.invokevirtual 76, 3) := by decide +kernel
theorem dX5_about_5 : decode cX5_about 5 = .ok (.ifCond .ne 9, 3) := by decide +kernel
theorem dX5_about_8 : decode cX5_about 8 = .ok (.bipush (-2), 2) := by decide +kernel
theorem dX5_about_10 : decode cX5_about 10 = .ok (.invokestatic 129, 3) := by decide +kernel
theorem dX5_about_13 : decode cX5_about 13 = .ok (.lreturn, 1) := by decide +kernel
theorem dX5_about_14 : decode cX5_about 14 = .ok (.iload_n 2, 1) := by decide +kernel
theorem dX5_about_15 : decode cX5_about 15 = .ok (.tableswitch 129 0 9 #[53, 61, 69, 77, 85, 93, 101, 109, 116, 123], 53) := by decide +kernel
theorem dX5_about_68 : decode cX5_about 68 = .ok (.aload_n 0, 1) := by decide +kernel
theorem dX5_about_69 : decode cX5_about 69 = .ok (.getfield 7, 3) := by decide +kernel
theorem dX5_about_72 : decode cX5_about 72 = .ok (.iload_n 1, 1) := by decide +kernel
theorem dX5_about_73 : decode cX5_about 73 = .ok (.iaload, 1) := by decide +kernel
theorem dX5_about_74 : decode cX5_about 74 = .ok (.i2l, 1) := by decide +kernel
theorem dX5_about_75 : decode cX5_about 75 = .ok (.lreturn, 1) := by decide +kernel
theorem dX5_about_76 : decode cX5_about 76 = .ok (.aload_n 0, 1) := by decide +kernel
theorem dX5_about_77 : decode cX5_about 77 = .ok (.getfield 13, 3) := by decide +kernel
theorem dX5_about_80 : decode cX5_about 80 = .ok (.iload_n 1, 1) := by decide +kernel
theorem dX5_about_81 : decode cX5_about 81 = .ok (.iaload, 1) := by decide +kernel
theorem dX5_about_82 : decode cX5_about 82 = .ok (.i2l, 1) := by decide +kernel
theorem dX5_about_83 : decode cX5_about 83 = .ok (.lreturn, 1) := by decide +kernel
theorem dX5_about_84 : decode cX5_about 84 = .ok (.aload_n 0, 1) := by decide +kernel
theorem dX5_about_85 : decode cX5_about 85 = .ok (.getfield 16, 3) := by decide +kernel
theorem dX5_about_88 : decode cX5_about 88 = .ok (.iload_n 1, 1) := by decide +kernel
theorem dX5_about_89 : decode cX5_about 89 = .ok (.iaload, 1) := by decide +kernel
theorem dX5_about_90 : decode cX5_about 90 = .ok (.i2l, 1) := by decide +kernel
theorem dX5_about_91 : decode cX5_about 91 = .ok (.lreturn, 1) := by decide +kernel
theorem dX5_about_92 : decode cX5_about 92 = .ok (.aload_n 0, 1) := by decide +kernel
theorem dX5_about_93 : decode cX5_about 93 = .ok (.getfield 19, 3) := by decide +kernel
theorem dX5_about_96 : decode cX5_about 96 = .ok (.iload_n 1, 1) := by decide +kernel
theorem dX5_about_97 : decode cX5_about 97 = .ok (.iaload, 1) := by decide +kernel
theorem dX5_about_98 : decode cX5_about 98 = .ok (.i2l, 1) := by decide +kernel
theorem dX5_about_99 : decode cX5_about 99 = .ok (.lreturn, 1) := by decide +kernel
theorem dX5_about_100 : decode cX5_about 100 = .ok (.aload_n 0, 1) := by decide +kernel
theorem dX5_about_101 : decode cX5_about 101 = .ok (.getfield 29, 3) := by decide +kernel
theorem dX5_about_104 : decode cX5_about 104 = .ok (.iload_n 1, 1) := by decide +kernel
theorem dX5_about_105 : decode cX5_about 105 = .ok (.iaload, 1) := by decide +kernel
theorem dX5_about_106 : decode cX5_about 106 = .ok (.i2l, 1) := by decide +kernel
theorem dX5_about_107 : decode cX5_about 107 = .ok (.lreturn, 1) := by decide +kernel
theorem dX5_about_108 : decode cX5_about 108 = .ok (.aload_n 0, 1) := by decide +kernel
theorem dX5_about_109 : decode cX5_about 109 = .ok (.getfield 32, 3) := by decide +kernel
theorem dX5_about_112 : decode cX5_about 112 = .ok (.iload_n 1, 1) := by decide +kernel
theorem dX5_about_113 : decode cX5_about 113 = .ok (.iaload, 1) := by decide +kernel
theorem dX5_about_114 : decode cX5_about 114 = .ok (.i2l, 1) := by decide +kernel
theorem dX5_about_115 : decode cX5_about 115 = .ok (.lreturn, 1) := by decide +kernel
theorem dX5_about_116 : decode cX5_about 116 = .ok (.aload_n 0, 1) := by decide +kernel
theorem dX5_about_117 : decode cX5_about 117 = .ok (.getfield 35, 3) := by decide +kernel
theorem dX5_about_120 : decode cX5_about 120 = .ok (.iload_n 1, 1) := by decide +kernel
theorem dX5_about_121 : decode cX5_about 121 = .ok (.iaload, 1) := by decide +kernel
theorem dX5_about_122 : decode cX5_about 122 = .ok (.i2l, 1) := by decide +kernel
theorem dX5_about_123 : decode cX5_about 123 = .ok (.lreturn, 1) := by decide +kernel
theorem dX5_about_124 : decode cX5_about 124 = .ok (.aload_n 0, 1) := by decide +kernel
theorem dX5_about_125 : decode cX5_about 125 = .ok (.getfield 22, 3) := by decide +kernel
theorem dX5_about_128 : decode cX5_about 128 = .ok (.iload_n 1, 1) := by decide +kernel
theorem dX5_about_129 : decode cX5_about 129 = .ok (.laload, 1) := by decide +kernel
theorem dX5_about_130 : decode cX5_about 130 = .ok (.lreturn, 1) := by decide +kernel
theorem dX5_about_131 : decode cX5_about 131 = .ok (.aload_n 0, 1) := by decide +kernel
theorem dX5_about_132 : decode cX5_about 132 = .ok (.getfield 26, 3) := by decide +kernel
theorem dX5_about_135 : decode cX5_about 135 = .ok (.iload_n 1, 1) := by decide +kernel
theorem dX5_about_136 : decode cX5_about 136 = .ok (.laload, 1) := by decide +kernel
theorem dX5_about_137 : decode cX5_about 137 = .ok (.lreturn, 1) := by decide +kernel
theorem dX5_about_138 : decode cX5_about 138 = .ok (.aload_n 0, 1) := by decide +kernel
theorem dX5_about_139 : decode cX5_about 139 = .ok (.iload_n 1, 1) := by decide +kernel
theorem dX5_about_140 : decode cX5_about 140 = .ok (.invokevirtual 132, 3) := by decide +kernel
theorem dX5_about_143 : decode cX5_about 143 = .ok (.lreturn, 1) := by decide +kernel
theorem dX5_about_144 : decode cX5_about 144 = .ok (.bipush (-2), 2) := by decide +kernel
theorem dX5_about_146 : decode cX5_about 146 = .ok (.invokestatic 129, 3) := by decide +kernel
theorem dX5_about_149 : decode cX5_about 149 = .ok (.lreturn, 1) := by decide +kernel
theorem dX5_price_0 : decode cX5_price 0 = .ok (.iconst 0, 1) := by decide +kernel
theorem dX5_price_1 : decode cX5_price 1 = .ok (.istore_n 1, 1) := by decide +kernel
theorem dX5_price_2 : decode cX5_price 2 = .ok (.iconst 0, 1) := by decide +kernel
theorem dX5_price_3 : decode cX5_price 3 = .ok (.istore_n 2, 1) := by decide +kernel
theorem dX5_price_4 : decode cX5_price 4 = .ok (.iload_n 2, 1) := by decide +kernel
theorem dX5_price_5 : decode cX5_price 5 = .ok (.aload_n 0, 1) := by decide +kernel
theorem dX5_price_6 : decode cX5_price 6 = .ok (.getfield 68, 3) := by decide +kernel
theorem dX5_price_9 : decode cX5_price 9 = .ok (.if_icmp .ge 39, 3) := by decide +kernel
theorem dX5_price_12 : decode cX5_price 12 = .ok (.iload_n 1, 1) := by decide +kernel
theorem dX5_price_13 : decode cX5_price 13 = .ok (.aload_n 0, 1) := by decide +kernel
theorem dX5_price_14 : decode cX5_price 14 = .ok (.getfield 7, 3) := by decide +kernel
theorem dX5_price_17 : decode cX5_price 17 = .ok (.iload_n 2, 1) := by decide +kernel
theorem dX5_price_18 : decode cX5_price 18 = .ok (.iaload, 1) := by decide +kernel
theorem dX5_price_19 : decode cX5_price 19 = .ok (.iconst 1, 1) := by decide +kernel
theorem dX5_price_20 : decode cX5_price 20 = .ok (.if_icmp .le 19, 3) := by decide +kernel
theorem dX5_price_23 : decode cX5_price 23 = .ok (.aload_n 0, 1) := by decide +kernel
theorem dX5_price_24 : decode cX5_price 24 = .ok (.getfield 35, 3) := by decide +kernel
theorem dX5_price_27 : decode cX5_price 27 = .ok (.iload_n 2, 1) := by decide +kernel
theorem dX5_price_28 : decode cX5_price 28 = .ok (.iaload, 1) := by decide +kernel
theorem dX5_price_29 : decode cX5_price 29 = .ok (.aload_n 0, 1) := by decide +kernel
theorem dX5_price_30 : decode cX5_price 30 = .ok (.getfield 29, 3) := by decide +kernel
theorem dX5_price_33 : decode cX5_price 33 = .ok (.iload_n 2, 1) := by decide +kernel
theorem dX5_price_34 : decode cX5_price 34 = .ok (.iaload, 1) := by decide +kernel
theorem dX5_price_35 : decode cX5_price 35 = .ok (.imul, 1) := by decide +kernel
theorem dX5_price_36 : decode cX5_price 36 = .ok (.goto 4, 3) := by decide +kernel
theorem dX5_price_39 : decode cX5_price 39 = .ok (.iconst 0, 1) := by decide +kernel
theorem dX5_price_40 : decode cX5_price 40 = .ok (.iadd, 1) := by decide +kernel
theorem dX5_price_41 : decode cX5_price 41 = .ok (.istore_n 1, 1) := by decide +kernel
theorem dX5_price_42 : decode cX5_price 42 = .ok (.iinc 2 1, 3) := by decide +kernel
theorem dX5_price_45 : decode cX5_price 45 = .ok (.goto (-41), 3) := by decide +kernel
theorem dX5_price_48 : decode cX5_price 48 = .ok (.iload_n 1, 1) := by decide +kernel
theorem dX5_price_49 : decode cX5_price 49 = .ok (.ireturn, 1) := by decide +kernel
theorem dX5_floored_0 : decode cX5_floored 0 = .ok (.lload_n 0, 1) := by decide +kernel
theorem dX5_floored_1 : decode cX5_floored 1 = .ok (.lload_n 2, 1) := by decide +kernel
theorem dX5_floored_2 : decode cX5_floored 2 = .ok (.ldiv, 1) := by decide +kernel
theorem dX5_floored_3 : decode cX5_floored 3 = .ok (.lstore 4, 2) := by decide +kernel
theorem dX5_floored_5 : decode cX5_floored 5 = .ok (.lload_n 0, 1) := by decide +kernel
theorem dX5_floored_6 : decode cX5_floored 6 = .ok (.lload_n 2, 1) := by decide +kernel
theorem dX5_floored_7 : decode cX5_floored 7 = .ok (.lrem, 1) := by decide +kernel
theorem dX5_floored_8 : decode cX5_floored 8 = .ok (.lconst 0, 1) := by decide +kernel
theorem dX5_floored_9 : decode cX5_floored 9 = .ok (.lcmp, 1) := by decide +kernel
theorem dX5_floored_10 : decode cX5_floored 10 = .ok (.ifCond .ge 10, 3) := by decide +kernel
theorem dX5_floored_13 : decode cX5_floored 13 = .ok (.lload 4, 2) := by decide +kernel
theorem dX5_floored_15 : decode cX5_floored 15 = .ok (.lconst 1, 1) := by decide +kernel
theorem dX5_floored_16 : decode cX5_floored 16 = .ok (.lsub, 1) := by decide +kernel
theorem dX5_floored_17 : decode cX5_floored 17 = .ok (.goto 5, 3) := by decide +kernel
theorem dX5_floored_20 : decode cX5_floored 20 = .ok (.lload 4, 2) := by decide +kernel
theorem dX5_floored_22 : decode cX5_floored 22 = .ok (.lreturn, 1) := by decide +kernel
theorem dX5_rounded_0 : decode cX5_rounded 0 = .ok (.iload 4, 2) := by decide +kernel
theorem dX5_rounded_2 : decode cX5_rounded 2 = .ok (.iconst 1, 1) := by decide +kernel
theorem dX5_rounded_3 : decode cX5_rounded 3 = .ok (.if_icmp .ne 15, 3) := by decide +kernel
theorem dX5_rounded_6 : decode cX5_rounded 6 = .ok (.lload_n 0, 1) := by decide +kernel
theorem dX5_rounded_7 : decode cX5_rounded 7 = .ok (.lload_n 2, 1) := by decide +kernel
theorem dX5_rounded_8 : decode cX5_rounded 8 = .ok (.ldc2_w 91, 3) := by decide +kernel
theorem dX5_rounded_11 : decode cX5_rounded 11 = .ok (.ldiv, 1) := by decide +kernel
theorem dX5_rounded_12 : decode cX5_rounded 12 = .ok (.ladd, 1) := by decide +kernel
theorem dX5_rounded_13 : decode cX5_rounded 13 = .ok (.lload_n 2, 1) := by decide +kernel
theorem dX5_rounded_14 : decode cX5_rounded 14 = .ok (.invokestatic 135, 3) := by decide +kernel
theorem dX5_rounded_17 : decode cX5_rounded 17 = .ok (.lreturn, 1) := by decide +kernel
theorem dX5_rounded_18 : decode cX5_rounded 18 = .ok (.iload 4, 2) := by decide +kernel
theorem dX5_rounded_20 : decode cX5_rounded 20 = .ok (.ifCond .ne 11, 3) := by decide +kernel
theorem dX5_rounded_23 : decode cX5_rounded 23 = .ok (.lload_n 0, 1) := by decide +kernel
theorem dX5_rounded_24 : decode cX5_rounded 24 = .ok (.lload_n 2, 1) := by decide +kernel
theorem dX5_rounded_25 : decode cX5_rounded 25 = .ok (.invokestatic 135, 3) := by decide +kernel
theorem dX5_rounded_28 : decode cX5_rounded 28 = .ok (.goto 6, 3) := by decide +kernel
theorem dX5_rounded_31 : decode cX5_rounded 31 = .ok (.lload_n 0, 1) := by decide +kernel
theorem dX5_rounded_32 : decode cX5_rounded 32 = .ok (.lload_n 2, 1) := by decide +kernel
theorem dX5_rounded_33 : decode cX5_rounded 33 = .ok (.ldiv, 1) := by decide +kernel
theorem dX5_rounded_34 : decode cX5_rounded 34 = .ok (.lreturn, 1) := by decide +kernel
theorem dX5_does_0 : decode cX5_does 0 = .ok (.iload_n 0, 1) := by decide +kernel
theorem dX5_does_1 : decode cX5_does 1 = .ok (.tableswitch 58 2 6 #[35, 39, 43, 47, 53], 35) := by decide +kernel
theorem dX5_does_36 : decode cX5_does 36 = .ok (.lload_n 1, 1) := by decide +kernel
theorem dX5_does_37 : decode cX5_does 37 = .ok (.lload_n 3, 1) := by decide +kernel
theorem dX5_does_38 : decode cX5_does 38 = .ok (.ladd, 1) := by decide +kernel
theorem dX5_does_39 : decode cX5_does 39 = .ok (.lreturn, 1) := by decide +kernel
theorem dX5_does_40 : decode cX5_does 40 = .ok (.lload_n 1, 1) := by decide +kernel
theorem dX5_does_41 : decode cX5_does 41 = .ok (.lload_n 3, 1) := by decide +kernel
theorem dX5_does_42 : decode cX5_does 42 = .ok (.lsub, 1) := by decide +kernel
theorem dX5_does_43 : decode cX5_does 43 = .ok (.lreturn, 1) := by decide +kernel
theorem dX5_does_44 : decode cX5_does 44 = .ok (.lload_n 1, 1) := by decide +kernel
theorem dX5_does_45 : decode cX5_does 45 = .ok (.lload_n 3, 1) := by decide +kernel
theorem dX5_does_46 : decode cX5_does 46 = .ok (.lmul, 1) := by decide +kernel
theorem dX5_does_47 : decode cX5_does 47 = .ok (.lreturn, 1) := by decide +kernel
theorem dX5_does_48 : decode cX5_does 48 = .ok (.lload_n 1, 1) := by decide +kernel
theorem dX5_does_49 : decode cX5_does 49 = .ok (.lload_n 3, 1) := by decide +kernel
theorem dX5_does_50 : decode cX5_does 50 = .ok (.invokestatic 95, 3) := by decide +kernel
theorem dX5_does_53 : decode cX5_does 53 = .ok (.lreturn, 1) := by decide +kernel
theorem dX5_does_54 : decode cX5_does 54 = .ok (.lload_n 1, 1) := by decide +kernel
theorem dX5_does_55 : decode cX5_does 55 = .ok (.invokestatic 104, 3) := by decide +kernel
theorem dX5_does_58 : decode cX5_does 58 = .ok (.lreturn, 1) := by decide +kernel
theorem dX5_does_59 : decode cX5_does 59 = .ok (.lload_n 1, 1) := by decide +kernel
theorem dX5_does_60 : decode cX5_does 60 = .ok (.lreturn, 1) := by decide +kernel
theorem dX5_runs_0 : decode cX5_runs 0 = .ok (.iconst 0, 1) := by decide +kernel
theorem dX5_runs_1 : decode cX5_runs 1 = .ok (.istore_n 2, 1) := by decide +kernel
theorem dX5_runs_2 : decode cX5_runs 2 = .ok (.iload_n 2, 1) := by decide +kernel
theorem dX5_runs_3 : decode cX5_runs 3 = .ok (.iload_n 1, 1) := by decide +kernel
theorem dX5_runs_4 : decode cX5_runs 4 = .ok (.if_icmp .gt 223, 3) := by decide +kernel
theorem dX5_runs_7 : decode cX5_runs 7 = .ok (.aload_n 0, 1) := by decide +kernel
theorem dX5_runs_8 : decode cX5_runs 8 = .ok (.getfield 7, 3) := by decide +kernel
theorem dX5_runs_11 : decode cX5_runs 11 = .ok (.iload_n 2, 1) := by decide +kernel
theorem dX5_runs_12 : decode cX5_runs 12 = .ok (.iaload, 1) := by decide +kernel
theorem dX5_runs_13 : decode cX5_runs 13 = .ok (.iconst 1, 1) := by decide +kernel
theorem dX5_runs_14 : decode cX5_runs 14 = .ok (.if_icmp .gt 50, 3) := by decide +kernel
theorem dX5_runs_17 : decode cX5_runs 17 = .ok (.aload_n 0, 1) := by decide +kernel
theorem dX5_runs_18 : decode cX5_runs 18 = .ok (.getfield 44, 3) := by decide +kernel
theorem dX5_runs_21 : decode cX5_runs 21 = .ok (.iload_n 2, 1) := by decide +kernel
theorem dX5_runs_22 : decode cX5_runs 22 = .ok (.aload_n 0, 1) := by decide +kernel
theorem dX5_runs_23 : decode cX5_runs 23 = .ok (.getfield 7, 3) := by decide +kernel
theorem dX5_runs_26 : decode cX5_runs 26 = .ok (.iload_n 2, 1) := by decide +kernel
theorem dX5_runs_27 : decode cX5_runs 27 = .ok (.iaload, 1) := by decide +kernel
theorem dX5_runs_28 : decode cX5_runs 28 = .ok (.ifCond .ne 13, 3) := by decide +kernel
theorem dX5_runs_31 : decode cX5_runs 31 = .ok (.aload_n 0, 1) := by decide +kernel
theorem dX5_runs_32 : decode cX5_runs 32 = .ok (.getfield 38, 3) := by decide +kernel
theorem dX5_runs_35 : decode cX5_runs 35 = .ok (.iload_n 2, 1) := by decide +kernel
theorem dX5_runs_36 : decode cX5_runs 36 = .ok (.iaload, 1) := by decide +kernel
theorem dX5_runs_37 : decode cX5_runs 37 = .ok (.i2l, 1) := by decide +kernel
theorem dX5_runs_38 : decode cX5_runs 38 = .ok (.goto 10, 3) := by decide +kernel
theorem dX5_runs_41 : decode cX5_runs 41 = .ok (.aload_n 0, 1) := by decide +kernel
theorem dX5_runs_42 : decode cX5_runs 42 = .ok (.getfield 13, 3) := by decide +kernel
theorem dX5_runs_45 : decode cX5_runs 45 = .ok (.iload_n 2, 1) := by decide +kernel
theorem dX5_runs_46 : decode cX5_runs 46 = .ok (.iaload, 1) := by decide +kernel
theorem dX5_runs_47 : decode cX5_runs 47 = .ok (.i2l, 1) := by decide +kernel
theorem dX5_runs_48 : decode cX5_runs 48 = .ok (.lastore, 1) := by decide +kernel
theorem dX5_runs_49 : decode cX5_runs 49 = .ok (.aload_n 0, 1) := by decide +kernel
theorem dX5_runs_50 : decode cX5_runs 50 = .ok (.getfield 47, 3) := by decide +kernel
theorem dX5_runs_53 : decode cX5_runs 53 = .ok (.iload_n 2, 1) := by decide +kernel
theorem dX5_runs_54 : decode cX5_runs 54 = .ok (.aload_n 0, 1) := by decide +kernel
theorem dX5_runs_55 : decode cX5_runs 55 = .ok (.getfield 44, 3) := by decide +kernel
theorem dX5_runs_58 : decode cX5_runs 58 = .ok (.iload_n 2, 1) := by decide +kernel
theorem dX5_runs_59 : decode cX5_runs 59 = .ok (.laload, 1) := by decide +kernel
theorem dX5_runs_60 : decode cX5_runs 60 = .ok (.lastore, 1) := by decide +kernel
theorem dX5_runs_61 : decode cX5_runs 61 = .ok (.goto 160, 3) := by decide +kernel
theorem dX5_runs_64 : decode cX5_runs 64 = .ok (.aload_n 0, 1) := by decide +kernel
theorem dX5_runs_65 : decode cX5_runs 65 = .ok (.getfield 7, 3) := by decide +kernel
theorem dX5_runs_68 : decode cX5_runs 68 = .ok (.iload_n 2, 1) := by decide +kernel
theorem dX5_runs_69 : decode cX5_runs 69 = .ok (.iaload, 1) := by decide +kernel
theorem dX5_runs_70 : decode cX5_runs 70 = .ok (.iconst 4, 1) := by decide +kernel
theorem dX5_runs_71 : decode cX5_runs 71 = .ok (.if_icmp .ne 7, 3) := by decide +kernel
theorem dX5_runs_74 : decode cX5_runs 74 = .ok (.iconst 1, 1) := by decide +kernel
theorem dX5_runs_75 : decode cX5_runs 75 = .ok (.goto 4, 3) := by decide +kernel
theorem dX5_runs_78 : decode cX5_runs 78 = .ok (.iconst 0, 1) := by decide +kernel
theorem dX5_runs_79 : decode cX5_runs 79 = .ok (.istore_n 3, 1) := by decide +kernel
theorem dX5_runs_80 : decode cX5_runs 80 = .ok (.ldc 119, 2) := by decide +kernel
theorem dX5_runs_82 : decode cX5_runs 82 = .ok (.aload_n 0, 1) := by decide +kernel
theorem dX5_runs_83 : decode cX5_runs 83 = .ok (.getfield 29, 3) := by decide +kernel
theorem dX5_runs_86 : decode cX5_runs 86 = .ok (.iload_n 2, 1) := by decide +kernel
theorem dX5_runs_87 : decode cX5_runs 87 = .ok (.iaload, 1) := by decide +kernel
theorem dX5_runs_88 : decode cX5_runs 88 = .ok (.ishr, 1) := by decide +kernel
theorem dX5_runs_89 : decode cX5_runs 89 = .ok (.i2l, 1) := by decide +kernel
theorem dX5_runs_90 : decode cX5_runs 90 = .ok (.lstore 4, 2) := by decide +kernel
theorem dX5_runs_92 : decode cX5_runs 92 = .ok (.aload_n 0, 1) := by decide +kernel
theorem dX5_runs_93 : decode cX5_runs 93 = .ok (.getfield 44, 3) := by decide +kernel
theorem dX5_runs_96 : decode cX5_runs 96 = .ok (.iload_n 2, 1) := by decide +kernel
theorem dX5_runs_97 : decode cX5_runs 97 = .ok (.aload_n 0, 1) := by decide +kernel
theorem dX5_runs_98 : decode cX5_runs 98 = .ok (.getfield 7, 3) := by decide +kernel
theorem dX5_runs_101 : decode cX5_runs 101 = .ok (.iload_n 2, 1) := by decide +kernel
theorem dX5_runs_102 : decode cX5_runs 102 = .ok (.iaload, 1) := by decide +kernel
theorem dX5_runs_103 : decode cX5_runs 103 = .ok (.aload_n 0, 1) := by decide +kernel
theorem dX5_runs_104 : decode cX5_runs 104 = .ok (.getfield 44, 3) := by decide +kernel
theorem dX5_runs_107 : decode cX5_runs 107 = .ok (.aload_n 0, 1) := by decide +kernel
theorem dX5_runs_108 : decode cX5_runs 108 = .ok (.getfield 13, 3) := by decide +kernel
theorem dX5_runs_111 : decode cX5_runs 111 = .ok (.iload_n 2, 1) := by decide +kernel
theorem dX5_runs_112 : decode cX5_runs 112 = .ok (.iaload, 1) := by decide +kernel
theorem dX5_runs_113 : decode cX5_runs 113 = .ok (.laload, 1) := by decide +kernel
theorem dX5_runs_114 : decode cX5_runs 114 = .ok (.aload_n 0, 1) := by decide +kernel
theorem dX5_runs_115 : decode cX5_runs 115 = .ok (.getfield 44, 3) := by decide +kernel
theorem dX5_runs_118 : decode cX5_runs 118 = .ok (.aload_n 0, 1) := by decide +kernel
theorem dX5_runs_119 : decode cX5_runs 119 = .ok (.getfield 16, 3) := by decide +kernel
theorem dX5_runs_122 : decode cX5_runs 122 = .ok (.iload_n 2, 1) := by decide +kernel
theorem dX5_runs_123 : decode cX5_runs 123 = .ok (.iaload, 1) := by decide +kernel
theorem dX5_runs_124 : decode cX5_runs 124 = .ok (.laload, 1) := by decide +kernel
theorem dX5_runs_125 : decode cX5_runs 125 = .ok (.invokestatic 138, 3) := by decide +kernel
theorem dX5_runs_128 : decode cX5_runs 128 = .ok (.iload_n 3, 1) := by decide +kernel
theorem dX5_runs_129 : decode cX5_runs 129 = .ok (.ifCond .eq 9, 3) := by decide +kernel
theorem dX5_runs_132 : decode cX5_runs 132 = .ok (.ldc2_w 102, 3) := by decide +kernel
theorem dX5_runs_135 : decode cX5_runs 135 = .ok (.goto 4, 3) := by decide +kernel
theorem dX5_runs_138 : decode cX5_runs 138 = .ok (.lconst 1, 1) := by decide +kernel
theorem dX5_runs_139 : decode cX5_runs 139 = .ok (.ldiv, 1) := by decide +kernel
theorem dX5_runs_140 : decode cX5_runs 140 = .ok (.lastore, 1) := by decide +kernel
theorem dX5_runs_141 : decode cX5_runs 141 = .ok (.lload 4, 2) := by decide +kernel
theorem dX5_runs_143 : decode cX5_runs 143 = .ok (.aload_n 0, 1) := by decide +kernel
theorem dX5_runs_144 : decode cX5_runs 144 = .ok (.getfield 7, 3) := by decide +kernel
theorem dX5_runs_147 : decode cX5_runs 147 = .ok (.iload_n 2, 1) := by decide +kernel
theorem dX5_runs_148 : decode cX5_runs 148 = .ok (.iaload, 1) := by decide +kernel
theorem dX5_runs_149 : decode cX5_runs 149 = .ok (.aload_n 0, 1) := by decide +kernel
theorem dX5_runs_150 : decode cX5_runs 150 = .ok (.getfield 47, 3) := by decide +kernel
theorem dX5_runs_153 : decode cX5_runs 153 = .ok (.aload_n 0, 1) := by decide +kernel
theorem dX5_runs_154 : decode cX5_runs 154 = .ok (.getfield 13, 3) := by decide +kernel
theorem dX5_runs_157 : decode cX5_runs 157 = .ok (.iload_n 2, 1) := by decide +kernel
theorem dX5_runs_158 : decode cX5_runs 158 = .ok (.iaload, 1) := by decide +kernel
theorem dX5_runs_159 : decode cX5_runs 159 = .ok (.laload, 1) := by decide +kernel
theorem dX5_runs_160 : decode cX5_runs 160 = .ok (.aload_n 0, 1) := by decide +kernel
theorem dX5_runs_161 : decode cX5_runs 161 = .ok (.getfield 47, 3) := by decide +kernel
theorem dX5_runs_164 : decode cX5_runs 164 = .ok (.aload_n 0, 1) := by decide +kernel
theorem dX5_runs_165 : decode cX5_runs 165 = .ok (.getfield 16, 3) := by decide +kernel
theorem dX5_runs_168 : decode cX5_runs 168 = .ok (.iload_n 2, 1) := by decide +kernel
theorem dX5_runs_169 : decode cX5_runs 169 = .ok (.iaload, 1) := by decide +kernel
theorem dX5_runs_170 : decode cX5_runs 170 = .ok (.laload, 1) := by decide +kernel
theorem dX5_runs_171 : decode cX5_runs 171 = .ok (.invokestatic 138, 3) := by decide +kernel
theorem dX5_runs_174 : decode cX5_runs 174 = .ok (.iload_n 3, 1) := by decide +kernel
theorem dX5_runs_175 : decode cX5_runs 175 = .ok (.ifCond .eq 12, 3) := by decide +kernel
theorem dX5_runs_178 : decode cX5_runs 178 = .ok (.ldc2_w 102, 3) := by decide +kernel
theorem dX5_runs_181 : decode cX5_runs 181 = .ok (.lload 4, 2) := by decide +kernel
theorem dX5_runs_183 : decode cX5_runs 183 = .ok (.lmul, 1) := by decide +kernel
theorem dX5_runs_184 : decode cX5_runs 184 = .ok (.goto 5, 3) := by decide +kernel
theorem dX5_runs_187 : decode cX5_runs 187 = .ok (.lload 4, 2) := by decide +kernel
theorem dX5_runs_189 : decode cX5_runs 189 = .ok (.aload_n 0, 1) := by decide +kernel
theorem dX5_runs_190 : decode cX5_runs 190 = .ok (.getfield 32, 3) := by decide +kernel
theorem dX5_runs_193 : decode cX5_runs 193 = .ok (.iload_n 2, 1) := by decide +kernel
theorem dX5_runs_194 : decode cX5_runs 194 = .ok (.iaload, 1) := by decide +kernel
theorem dX5_runs_195 : decode cX5_runs 195 = .ok (.invokestatic 142, 3) := by decide +kernel
theorem dX5_runs_198 : decode cX5_runs 198 = .ok (.lmul, 1) := by decide +kernel
theorem dX5_runs_199 : decode cX5_runs 199 = .ok (.lstore 6, 2) := by decide +kernel
theorem dX5_runs_201 : decode cX5_runs 201 = .ok (.aload_n 0, 1) := by decide +kernel
theorem dX5_runs_202 : decode cX5_runs 202 = .ok (.getfield 47, 3) := by decide +kernel
theorem dX5_runs_205 : decode cX5_runs 205 = .ok (.iload_n 2, 1) := by decide +kernel
theorem dX5_runs_206 : decode cX5_runs 206 = .ok (.ldc2_w 146, 3) := by decide +kernel
theorem dX5_runs_209 : decode cX5_runs 209 = .ok (.ldc2_w 148, 3) := by decide +kernel
theorem dX5_runs_212 : decode cX5_runs 212 = .ok (.lload 6, 2) := by decide +kernel
theorem dX5_runs_214 : decode cX5_runs 214 = .ok (.invokestatic 99, 3) := by decide +kernel
theorem dX5_runs_217 : decode cX5_runs 217 = .ok (.invokestatic 95, 3) := by decide +kernel
theorem dX5_runs_220 : decode cX5_runs 220 = .ok (.lastore, 1) := by decide +kernel
theorem dX5_runs_221 : decode cX5_runs 221 = .ok (.iinc 2 1, 3) := by decide +kernel
theorem dX5_runs_224 : decode cX5_runs 224 = .ok (.goto (-222), 3) := by decide +kernel
theorem dX5_runs_227 : decode cX5_runs 227 = .ok (.return_, 1) := by decide +kernel
theorem dX5_isOf_0 : decode cX5_isOf 0 = .ok (.lload_n 2, 1) := by decide +kernel
theorem dX5_isOf_1 : decode cX5_isOf 1 = .ok (.aload_n 0, 1) := by decide +kernel
theorem dX5_isOf_2 : decode cX5_isOf 2 = .ok (.getfield 22, 3) := by decide +kernel
theorem dX5_isOf_5 : decode cX5_isOf 5 = .ok (.iload_n 1, 1) := by decide +kernel
theorem dX5_isOf_6 : decode cX5_isOf 6 = .ok (.laload, 1) := by decide +kernel
theorem dX5_isOf_7 : decode cX5_isOf 7 = .ok (.aload_n 0, 1) := by decide +kernel
theorem dX5_isOf_8 : decode cX5_isOf 8 = .ok (.getfield 26, 3) := by decide +kernel
theorem dX5_isOf_11 : decode cX5_isOf 11 = .ok (.iload_n 1, 1) := by decide +kernel
theorem dX5_isOf_12 : decode cX5_isOf 12 = .ok (.laload, 1) := by decide +kernel
theorem dX5_isOf_13 : decode cX5_isOf 13 = .ok (.invokestatic 72, 3) := by decide +kernel
theorem dX5_isOf_16 : decode cX5_isOf 16 = .ok (.ifCond .eq 17, 3) := by decide +kernel
theorem dX5_isOf_19 : decode cX5_isOf 19 = .ok (.lload_n 2, 1) := by decide +kernel
theorem dX5_isOf_20 : decode cX5_isOf 20 = .ok (.ldc2_w 150, 3) := by decide +kernel
theorem dX5_isOf_23 : decode cX5_isOf 23 = .ok (.lrem, 1) := by decide +kernel
theorem dX5_isOf_24 : decode cX5_isOf 24 = .ok (.lconst 0, 1) := by decide +kernel
theorem dX5_isOf_25 : decode cX5_isOf 25 = .ok (.lcmp, 1) := by decide +kernel
theorem dX5_isOf_26 : decode cX5_isOf 26 = .ok (.ifCond .ne 7, 3) := by decide +kernel
theorem dX5_isOf_29 : decode cX5_isOf 29 = .ok (.iconst 1, 1) := by decide +kernel
theorem dX5_isOf_30 : decode cX5_isOf 30 = .ok (.goto 4, 3) := by decide +kernel
theorem dX5_isOf_33 : decode cX5_isOf 33 = .ok (.iconst 0, 1) := by decide +kernel
theorem dX5_isOf_34 : decode cX5_isOf 34 = .ok (.ireturn, 1) := by decide +kernel
theorem dX5_set_0 : decode cX5_set 0 = .ok (.aload_n 0, 1) := by decide +kernel
theorem dX5_set_1 : decode cX5_set 1 = .ok (.iload_n 1, 1) := by decide +kernel
theorem dX5_set_2 : decode cX5_set 2 = .ok (.invokevirtual 152, 3) := by decide +kernel
theorem dX5_set_5 : decode cX5_set 5 = .ok (.ifCond .eq 13, 3) := by decide +kernel
theorem dX5_set_8 : decode cX5_set 8 = .ok (.aload_n 0, 1) := by decide +kernel
theorem dX5_set_9 : decode cX5_set 9 = .ok (.iload_n 1, 1) := by decide +kernel
theorem dX5_set_10 : decode cX5_set 10 = .ok (.iload_n 2, 1) := by decide +kernel
theorem dX5_set_11 : decode cX5_set 11 = .ok (.i2l, 1) := by decide +kernel
theorem dX5_set_12 : decode cX5_set 12 = .ok (.invokevirtual 155, 3) := by decide +kernel
theorem dX5_set_15 : decode cX5_set 15 = .ok (.ifCond .ne 6, 3) := by decide +kernel
theorem dX5_set_18 : decode cX5_set 18 = .ok (.bipush (-2), 2) := by decide +kernel
theorem dX5_set_20 : decode cX5_set 20 = .ok (.ireturn, 1) := by decide +kernel
theorem dX5_set_21 : decode cX5_set 21 = .ok (.aload_n 0, 1) := by decide +kernel
theorem dX5_set_22 : decode cX5_set 22 = .ok (.getfield 38, 3) := by decide +kernel
theorem dX5_set_25 : decode cX5_set 25 = .ok (.iload_n 1, 1) := by decide +kernel
theorem dX5_set_26 : decode cX5_set 26 = .ok (.iload_n 2, 1) := by decide +kernel
theorem dX5_set_27 : decode cX5_set 27 = .ok (.iastore, 1) := by decide +kernel
theorem dX5_set_28 : decode cX5_set 28 = .ok (.iconst 1, 1) := by decide +kernel
theorem dX5_set_29 : decode cX5_set 29 = .ok (.ireturn, 1) := by decide +kernel
theorem dX5_enter_0 : decode cX5_enter 0 = .ok (.aload_n 0, 1) := by decide +kernel
theorem dX5_enter_1 : decode cX5_enter 1 = .ok (.iload_n 1, 1) := by decide +kernel
theorem dX5_enter_2 : decode cX5_enter 2 = .ok (.invokevirtual 152, 3) := by decide +kernel
theorem dX5_enter_5 : decode cX5_enter 5 = .ok (.ifCond .eq 19, 3) := by decide +kernel
theorem dX5_enter_8 : decode cX5_enter 8 = .ok (.dload_n 2, 1) := by decide +kernel
theorem dX5_enter_9 : decode cX5_enter 9 = .ok (.ldc2_w 159, 3) := by decide +kernel
theorem dX5_enter_12 : decode cX5_enter 12 = .ok (.dcmp .l, 1) := by decide +kernel
theorem dX5_enter_13 : decode cX5_enter 13 = .ok (.ifCond .lt 11, 3) := by decide +kernel
theorem dX5_enter_16 : decode cX5_enter 16 = .ok (.dload_n 2, 1) := by decide +kernel
theorem dX5_enter_17 : decode cX5_enter 17 = .ok (.ldc2_w 161, 3) := by decide +kernel
theorem dX5_enter_20 : decode cX5_enter 20 = .ok (.dcmp .g, 1) := by decide +kernel
theorem dX5_enter_21 : decode cX5_enter 21 = .ok (.ifCond .le 6, 3) := by decide +kernel
theorem dX5_enter_24 : decode cX5_enter 24 = .ok (.bipush (-2), 2) := by decide +kernel
theorem dX5_enter_26 : decode cX5_enter 26 = .ok (.ireturn, 1) := by decide +kernel
theorem dX5_enter_27 : decode cX5_enter 27 = .ok (.dload_n 2, 1) := by decide +kernel
theorem dX5_enter_28 : decode cX5_enter 28 = .ok (.ldc2_w 163, 3) := by decide +kernel
theorem dX5_enter_31 : decode cX5_enter 31 = .ok (.dmul, 1) := by decide +kernel
theorem dX5_enter_32 : decode cX5_enter 32 = .ok (.dstore 4, 2) := by decide +kernel
theorem dX5_enter_34 : decode cX5_enter 34 = .ok (.dload 4, 2) := by decide +kernel
theorem dX5_enter_36 : decode cX5_enter 36 = .ok (.d2l, 1) := by decide +kernel
theorem dX5_enter_37 : decode cX5_enter 37 = .ok (.lstore 6, 2) := by decide +kernel
theorem dX5_enter_39 : decode cX5_enter 39 = .ok (.lload 6, 2) := by decide +kernel
theorem dX5_enter_41 : decode cX5_enter 41 = .ok (.l2d, 1) := by decide +kernel
theorem dX5_enter_42 : decode cX5_enter 42 = .ok (.dload 4, 2) := by decide +kernel
theorem dX5_enter_44 : decode cX5_enter 44 = .ok (.dcmp .l, 1) := by decide +kernel
theorem dX5_enter_45 : decode cX5_enter 45 = .ok (.ifCond .ne 13, 3) := by decide +kernel
theorem dX5_enter_48 : decode cX5_enter 48 = .ok (.aload_n 0, 1) := by decide +kernel
theorem dX5_enter_49 : decode cX5_enter 49 = .ok (.iload_n 1, 1) := by decide +kernel
theorem dX5_enter_50 : decode cX5_enter 50 = .ok (.lload 6, 2) := by decide +kernel
theorem dX5_enter_52 : decode cX5_enter 52 = .ok (.invokevirtual 155, 3) := by decide +kernel
theorem dX5_enter_55 : decode cX5_enter 55 = .ok (.ifCond .ne 6, 3) := by decide +kernel
theorem dX5_enter_58 : decode cX5_enter 58 = .ok (.bipush (-2), 2) := by decide +kernel
theorem dX5_enter_60 : decode cX5_enter 60 = .ok (.ireturn, 1) := by decide +kernel
theorem dX5_enter_61 : decode cX5_enter 61 = .ok (.aload_n 0, 1) := by decide +kernel
theorem dX5_enter_62 : decode cX5_enter 62 = .ok (.getfield 38, 3) := by decide +kernel
theorem dX5_enter_65 : decode cX5_enter 65 = .ok (.iload_n 1, 1) := by decide +kernel
theorem dX5_enter_66 : decode cX5_enter 66 = .ok (.lload 6, 2) := by decide +kernel
theorem dX5_enter_68 : decode cX5_enter 68 = .ok (.l2i, 1) := by decide +kernel
theorem dX5_enter_69 : decode cX5_enter 69 = .ok (.iastore, 1) := by decide +kernel
theorem dX5_enter_70 : decode cX5_enter 70 = .ok (.iconst 1, 1) := by decide +kernel
theorem dX5_enter_71 : decode cX5_enter 71 = .ok (.ireturn, 1) := by decide +kernel
theorem dX5_exact_0 : decode cX5_exact 0 = .ok (.aload_n 0, 1) := by decide +kernel
theorem dX5_exact_1 : decode cX5_exact 1 = .ok (.iload_n 1, 1) := by decide +kernel
theorem dX5_exact_2 : decode cX5_exact 2 = .ok (.invokevirtual 76, 3) := by decide +kernel
theorem dX5_exact_5 : decode cX5_exact 5 = .ok (.ifCond .ne 9, 3) := by decide +kernel
theorem dX5_exact_8 : decode cX5_exact 8 = .ok (.bipush (-2), 2) := by decide +kernel
theorem dX5_exact_10 : decode cX5_exact 10 = .ok (.invokestatic 129, 3) := by decide +kernel
theorem dX5_exact_13 : decode cX5_exact 13 = .ok (.lreturn, 1) := by decide +kernel
theorem dX5_exact_14 : decode cX5_exact 14 = .ok (.aload_n 0, 1) := by decide +kernel
theorem dX5_exact_15 : decode cX5_exact 15 = .ok (.iload_n 1, 1) := by decide +kernel
theorem dX5_exact_16 : decode cX5_exact 16 = .ok (.invokevirtual 165, 3) := by decide +kernel
theorem dX5_exact_19 : decode cX5_exact 19 = .ok (.aload_n 0, 1) := by decide +kernel
theorem dX5_exact_20 : decode cX5_exact 20 = .ok (.getfield 44, 3) := by decide +kernel
theorem dX5_exact_23 : decode cX5_exact 23 = .ok (.iload_n 1, 1) := by decide +kernel
theorem dX5_exact_24 : decode cX5_exact 24 = .ok (.laload, 1) := by decide +kernel
theorem dX5_exact_25 : decode cX5_exact 25 = .ok (.lreturn, 1) := by decide +kernel
theorem dX5_tuned_0 : decode cX5_tuned 0 = .ok (.aload_n 0, 1) := by decide +kernel
theorem dX5_tuned_1 : decode cX5_tuned 1 = .ok (.iload_n 1, 1) := by decide +kernel
theorem dX5_tuned_2 : decode cX5_tuned 2 = .ok (.invokevirtual 76, 3) := by decide +kernel
theorem dX5_tuned_5 : decode cX5_tuned 5 = .ok (.ifCond .ne 9, 3) := by decide +kernel
theorem dX5_tuned_8 : decode cX5_tuned 8 = .ok (.bipush (-2), 2) := by decide +kernel
theorem dX5_tuned_10 : decode cX5_tuned 10 = .ok (.invokestatic 129, 3) := by decide +kernel
theorem dX5_tuned_13 : decode cX5_tuned 13 = .ok (.lreturn, 1) := by decide +kernel
theorem dX5_tuned_14 : decode cX5_tuned 14 = .ok (.aload_n 0, 1) := by decide +kernel
theorem dX5_tuned_15 : decode cX5_tuned 15 = .ok (.iload_n 1, 1) := by decide +kernel
theorem dX5_tuned_16 : decode cX5_tuned 16 = .ok (.invokevirtual 165, 3) := by decide +kernel
theorem dX5_tuned_19 : decode cX5_tuned 19 = .ok (.aload_n 0, 1) := by decide +kernel
theorem dX5_tuned_20 : decode cX5_tuned 20 = .ok (.getfield 47, 3) := by decide +kernel
theorem dX5_tuned_23 : decode cX5_tuned 23 = .ok (.iload_n 1, 1) := by decide +kernel
theorem dX5_tuned_24 : decode cX5_tuned 24 = .ok (.laload, 1) := by decide +kernel
theorem dX5_tuned_25 : decode cX5_tuned 25 = .ok (.lreturn, 1) := by decide +kernel
theorem dX5_missNow_0 : decode cX5_missNow 0 = .ok (.aload_n 0, 1) := by decide +kernel
theorem dX5_missNow_1 : decode cX5_missNow 1 = .ok (.iload_n 1, 1) := by decide +kernel
theorem dX5_missNow_2 : decode cX5_missNow 2 = .ok (.invokevirtual 165, 3) := by decide +kernel
theorem dX5_missNow_5 : decode cX5_missNow 5 = .ok (.aload_n 0, 1) := by decide +kernel
theorem dX5_missNow_6 : decode cX5_missNow 6 = .ok (.getfield 47, 3) := by decide +kernel
theorem dX5_missNow_9 : decode cX5_missNow 9 = .ok (.iload_n 1, 1) := by decide +kernel
theorem dX5_missNow_10 : decode cX5_missNow 10 = .ok (.laload, 1) := by decide +kernel
theorem dX5_missNow_11 : decode cX5_missNow 11 = .ok (.aload_n 0, 1) := by decide +kernel
theorem dX5_missNow_12 : decode cX5_missNow 12 = .ok (.getfield 44, 3) := by decide +kernel
theorem dX5_missNow_15 : decode cX5_missNow 15 = .ok (.iload_n 1, 1) := by decide +kernel
theorem dX5_missNow_16 : decode cX5_missNow 16 = .ok (.laload, 1) := by decide +kernel
theorem dX5_missNow_17 : decode cX5_missNow 17 = .ok (.lsub, 1) := by decide +kernel
theorem dX5_missNow_18 : decode cX5_missNow 18 = .ok (.invokestatic 104, 3) := by decide +kernel
theorem dX5_missNow_21 : decode cX5_missNow 21 = .ok (.lreturn, 1) := by decide +kernel
theorem dX5_miss_0 : decode cX5_miss 0 = .ok (.aload_n 0, 1) := by decide +kernel
theorem dX5_miss_1 : decode cX5_miss 1 = .ok (.iload_n 1, 1) := by decide +kernel
theorem dX5_miss_2 : decode cX5_miss 2 = .ok (.invokevirtual 76, 3) := by decide +kernel
theorem dX5_miss_5 : decode cX5_miss 5 = .ok (.ifCond .eq 11, 3) := by decide +kernel
theorem dX5_miss_8 : decode cX5_miss 8 = .ok (.aload_n 0, 1) := by decide +kernel
theorem dX5_miss_9 : decode cX5_miss 9 = .ok (.iload_n 1, 1) := by decide +kernel
theorem dX5_miss_10 : decode cX5_miss 10 = .ok (.invokevirtual 169, 3) := by decide +kernel
theorem dX5_miss_13 : decode cX5_miss 13 = .ok (.goto 8, 3) := by decide +kernel
theorem dX5_miss_16 : decode cX5_miss 16 = .ok (.bipush (-2), 2) := by decide +kernel
theorem dX5_miss_18 : decode cX5_miss 18 = .ok (.invokestatic 129, 3) := by decide +kernel
theorem dX5_miss_21 : decode cX5_miss 21 = .ok (.lreturn, 1) := by decide +kernel
theorem dX5_leave_0 : decode cX5_leave 0 = .ok (.aload_n 0, 1) := by decide +kernel
theorem dX5_leave_1 : decode cX5_leave 1 = .ok (.iload_n 1, 1) := by decide +kernel
theorem dX5_leave_2 : decode cX5_leave 2 = .ok (.invokevirtual 76, 3) := by decide +kernel
theorem dX5_leave_5 : decode cX5_leave 5 = .ok (.ifCond .ne 5, 3) := by decide +kernel
theorem dX5_leave_8 : decode cX5_leave 8 = .ok (.dconst 0, 1) := by decide +kernel
theorem dX5_leave_9 : decode cX5_leave 9 = .ok (.dreturn, 1) := by decide +kernel
theorem dX5_leave_10 : decode cX5_leave 10 = .ok (.aload_n 0, 1) := by decide +kernel
theorem dX5_leave_11 : decode cX5_leave 11 = .ok (.iload_n 1, 1) := by decide +kernel
theorem dX5_leave_12 : decode cX5_leave 12 = .ok (.invokevirtual 165, 3) := by decide +kernel
theorem dX5_leave_15 : decode cX5_leave 15 = .ok (.aload_n 0, 1) := by decide +kernel
theorem dX5_leave_16 : decode cX5_leave 16 = .ok (.getfield 47, 3) := by decide +kernel
theorem dX5_leave_19 : decode cX5_leave 19 = .ok (.iload_n 1, 1) := by decide +kernel
theorem dX5_leave_20 : decode cX5_leave 20 = .ok (.laload, 1) := by decide +kernel
theorem dX5_leave_21 : decode cX5_leave 21 = .ok (.l2d, 1) := by decide +kernel
theorem dX5_leave_22 : decode cX5_leave 22 = .ok (.ldc2_w 163, 3) := by decide +kernel
theorem dX5_leave_25 : decode cX5_leave 25 = .ok (.ddiv, 1) := by decide +kernel
theorem dX5_leave_26 : decode cX5_leave 26 = .ok (.dreturn, 1) := by decide +kernel
theorem dX5_narrow_0 : decode cX5_narrow 0 = .ok (.aload_n 0, 1) := by decide +kernel
theorem dX5_narrow_1 : decode cX5_narrow 1 = .ok (.iload_n 1, 1) := by decide +kernel
theorem dX5_narrow_2 : decode cX5_narrow 2 = .ok (.invokevirtual 76, 3) := by decide +kernel
theorem dX5_narrow_5 : decode cX5_narrow 5 = .ok (.ifCond .ne 5, 3) := by decide +kernel
theorem dX5_narrow_8 : decode cX5_narrow 8 = .ok (.fconst 0, 1) := by decide +kernel
theorem dX5_narrow_9 : decode cX5_narrow 9 = .ok (.freturn, 1) := by decide +kernel
theorem dX5_narrow_10 : decode cX5_narrow 10 = .ok (.aload_n 0, 1) := by decide +kernel
theorem dX5_narrow_11 : decode cX5_narrow 11 = .ok (.iload_n 1, 1) := by decide +kernel
theorem dX5_narrow_12 : decode cX5_narrow 12 = .ok (.invokevirtual 165, 3) := by decide +kernel
theorem dX5_narrow_15 : decode cX5_narrow 15 = .ok (.aload_n 0, 1) := by decide +kernel
theorem dX5_narrow_16 : decode cX5_narrow 16 = .ok (.getfield 47, 3) := by decide +kernel
theorem dX5_narrow_19 : decode cX5_narrow 19 = .ok (.iload_n 1, 1) := by decide +kernel
theorem dX5_narrow_20 : decode cX5_narrow 20 = .ok (.laload, 1) := by decide +kernel
theorem dX5_narrow_21 : decode cX5_narrow 21 = .ok (.l2d, 1) := by decide +kernel
theorem dX5_narrow_22 : decode cX5_narrow 22 = .ok (.ldc2_w 163, 3) := by decide +kernel
theorem dX5_narrow_25 : decode cX5_narrow 25 = .ok (.ddiv, 1) := by decide +kernel
theorem dX5_narrow_26 : decode cX5_narrow 26 = .ok (.d2f, 1) := by decide +kernel
theorem dX5_narrow_27 : decode cX5_narrow 27 = .ok (.freturn, 1) := by decide +kernel
theorem dX5_rows_0 : decode cX5_rows 0 = .ok (.lconst 1, 1) := by decide +kernel
theorem dX5_rows_1 : decode cX5_rows 1 = .ok (.lstore_n 1, 1) := by decide +kernel
theorem dX5_rows_2 : decode cX5_rows 2 = .ok (.iconst 0, 1) := by decide +kernel
theorem dX5_rows_3 : decode cX5_rows 3 = .ok (.istore_n 3, 1) := by decide +kernel
theorem dX5_rows_4 : decode cX5_rows 4 = .ok (.iload_n 3, 1) := by decide +kernel
theorem dX5_rows_5 : decode cX5_rows 5 = .ok (.aload_n 0, 1) := by decide +kernel
theorem dX5_rows_6 : decode cX5_rows 6 = .ok (.getfield 68, 3) := by decide +kernel
theorem dX5_rows_9 : decode cX5_rows 9 = .ok (.if_icmp .ge 50, 3) := by decide +kernel
theorem dX5_rows_12 : decode cX5_rows 12 = .ok (.aload_n 0, 1) := by decide +kernel
theorem dX5_rows_13 : decode cX5_rows 13 = .ok (.getfield 7, 3) := by decide +kernel
theorem dX5_rows_16 : decode cX5_rows 16 = .ok (.iload_n 3, 1) := by decide +kernel
theorem dX5_rows_17 : decode cX5_rows 17 = .ok (.iaload, 1) := by decide +kernel
theorem dX5_rows_18 : decode cX5_rows 18 = .ok (.ifCond .ne 33, 3) := by decide +kernel
theorem dX5_rows_21 : decode cX5_rows 21 = .ok (.ldc2_w 172, 3) := by decide +kernel
theorem dX5_rows_24 : decode cX5_rows 24 = .ok (.lload_n 1, 1) := by decide +kernel
theorem dX5_rows_25 : decode cX5_rows 25 = .ok (.aload_n 0, 1) := by decide +kernel
theorem dX5_rows_26 : decode cX5_rows 26 = .ok (.getfield 26, 3) := by decide +kernel
theorem dX5_rows_29 : decode cX5_rows 29 = .ok (.iload_n 3, 1) := by decide +kernel
theorem dX5_rows_30 : decode cX5_rows 30 = .ok (.laload, 1) := by decide +kernel
theorem dX5_rows_31 : decode cX5_rows 31 = .ok (.aload_n 0, 1) := by decide +kernel
theorem dX5_rows_32 : decode cX5_rows 32 = .ok (.getfield 22, 3) := by decide +kernel
theorem dX5_rows_35 : decode cX5_rows 35 = .ok (.iload_n 3, 1) := by decide +kernel
theorem dX5_rows_36 : decode cX5_rows 36 = .ok (.laload, 1) := by decide +kernel
theorem dX5_rows_37 : decode cX5_rows 37 = .ok (.lsub, 1) := by decide +kernel
theorem dX5_rows_38 : decode cX5_rows 38 = .ok (.ldc2_w 150, 3) := by decide +kernel
theorem dX5_rows_41 : decode cX5_rows 41 = .ok (.ldiv, 1) := by decide +kernel
theorem dX5_rows_42 : decode cX5_rows 42 = .ok (.lconst 1, 1) := by decide +kernel
theorem dX5_rows_43 : decode cX5_rows 43 = .ok (.ladd, 1) := by decide +kernel
theorem dX5_rows_44 : decode cX5_rows 44 = .ok (.lmul, 1) := by decide +kernel
theorem dX5_rows_45 : decode cX5_rows 45 = .ok (.invokestatic 99, 3) := by decide +kernel
theorem dX5_rows_48 : decode cX5_rows 48 = .ok (.goto 4, 3) := by decide +kernel
theorem dX5_rows_51 : decode cX5_rows 51 = .ok (.lload_n 1, 1) := by decide +kernel
theorem dX5_rows_52 : decode cX5_rows 52 = .ok (.lstore_n 1, 1) := by decide +kernel
theorem dX5_rows_53 : decode cX5_rows 53 = .ok (.iinc 3 1, 3) := by decide +kernel
theorem dX5_rows_56 : decode cX5_rows 56 = .ok (.goto (-52), 3) := by decide +kernel
theorem dX5_rows_59 : decode cX5_rows 59 = .ok (.lload_n 1, 1) := by decide +kernel
theorem dX5_rows_60 : decode cX5_rows 60 = .ok (.l2i, 1) := by decide +kernel
theorem dX5_rows_61 : decode cX5_rows 61 = .ok (.ireturn, 1) := by decide +kernel
theorem dX5_keep_0 : decode cX5_keep 0 = .ok (.iconst 0, 1) := by decide +kernel
theorem dX5_keep_1 : decode cX5_keep 1 = .ok (.istore_n 1, 1) := by decide +kernel
theorem dX5_keep_2 : decode cX5_keep 2 = .ok (.iload_n 1, 1) := by decide +kernel
theorem dX5_keep_3 : decode cX5_keep 3 = .ok (.aload_n 0, 1) := by decide +kernel
theorem dX5_keep_4 : decode cX5_keep 4 = .ok (.getfield 68, 3) := by decide +kernel
theorem dX5_keep_7 : decode cX5_keep 7 = .ok (.if_icmp .ge 51, 3) := by decide +kernel
theorem dX5_keep_10 : decode cX5_keep 10 = .ok (.aload_n 0, 1) := by decide +kernel
theorem dX5_keep_11 : decode cX5_keep 11 = .ok (.getfield 50, 3) := by decide +kernel
theorem dX5_keep_14 : decode cX5_keep 14 = .ok (.iload_n 1, 1) := by decide +kernel
theorem dX5_keep_15 : decode cX5_keep 15 = .ok (.aload_n 0, 1) := by decide +kernel
theorem dX5_keep_16 : decode cX5_keep 16 = .ok (.getfield 38, 3) := by decide +kernel
theorem dX5_keep_19 : decode cX5_keep 19 = .ok (.iload_n 1, 1) := by decide +kernel
theorem dX5_keep_20 : decode cX5_keep 20 = .ok (.iaload, 1) := by decide +kernel
theorem dX5_keep_21 : decode cX5_keep 21 = .ok (.iastore, 1) := by decide +kernel
theorem dX5_keep_22 : decode cX5_keep 22 = .ok (.aload_n 0, 1) := by decide +kernel
theorem dX5_keep_23 : decode cX5_keep 23 = .ok (.getfield 38, 3) := by decide +kernel
theorem dX5_keep_26 : decode cX5_keep 26 = .ok (.iload_n 1, 1) := by decide +kernel
theorem dX5_keep_27 : decode cX5_keep 27 = .ok (.aload_n 0, 1) := by decide +kernel
theorem dX5_keep_28 : decode cX5_keep 28 = .ok (.getfield 7, 3) := by decide +kernel
theorem dX5_keep_31 : decode cX5_keep 31 = .ok (.iload_n 1, 1) := by decide +kernel
theorem dX5_keep_32 : decode cX5_keep 32 = .ok (.iaload, 1) := by decide +kernel
theorem dX5_keep_33 : decode cX5_keep 33 = .ok (.ifCond .ne 12, 3) := by decide +kernel
theorem dX5_keep_36 : decode cX5_keep 36 = .ok (.aload_n 0, 1) := by decide +kernel
theorem dX5_keep_37 : decode cX5_keep 37 = .ok (.getfield 13, 3) := by decide +kernel
theorem dX5_keep_40 : decode cX5_keep 40 = .ok (.iload_n 1, 1) := by decide +kernel
theorem dX5_keep_41 : decode cX5_keep 41 = .ok (.iaload, 1) := by decide +kernel
theorem dX5_keep_42 : decode cX5_keep 42 = .ok (.goto 9, 3) := by decide +kernel
theorem dX5_keep_45 : decode cX5_keep 45 = .ok (.aload_n 0, 1) := by decide +kernel
theorem dX5_keep_46 : decode cX5_keep 46 = .ok (.getfield 38, 3) := by decide +kernel
theorem dX5_keep_49 : decode cX5_keep 49 = .ok (.iload_n 1, 1) := by decide +kernel
theorem dX5_keep_50 : decode cX5_keep 50 = .ok (.iaload, 1) := by decide +kernel
theorem dX5_keep_51 : decode cX5_keep 51 = .ok (.iastore, 1) := by decide +kernel
theorem dX5_keep_52 : decode cX5_keep 52 = .ok (.iinc 1 1, 3) := by decide +kernel
theorem dX5_keep_55 : decode cX5_keep 55 = .ok (.goto (-53), 3) := by decide +kernel
theorem dX5_keep_58 : decode cX5_keep 58 = .ok (.return_, 1) := by decide +kernel
theorem dX5_restore_0 : decode cX5_restore 0 = .ok (.iconst 0, 1) := by decide +kernel
theorem dX5_restore_1 : decode cX5_restore 1 = .ok (.istore_n 1, 1) := by decide +kernel
theorem dX5_restore_2 : decode cX5_restore 2 = .ok (.iload_n 1, 1) := by decide +kernel
theorem dX5_restore_3 : decode cX5_restore 3 = .ok (.aload_n 0, 1) := by decide +kernel
theorem dX5_restore_4 : decode cX5_restore 4 = .ok (.getfield 68, 3) := by decide +kernel
theorem dX5_restore_7 : decode cX5_restore 7 = .ok (.if_icmp .ge 21, 3) := by decide +kernel
theorem dX5_restore_10 : decode cX5_restore 10 = .ok (.aload_n 0, 1) := by decide +kernel
theorem dX5_restore_11 : decode cX5_restore 11 = .ok (.getfield 38, 3) := by decide +kernel
theorem dX5_restore_14 : decode cX5_restore 14 = .ok (.iload_n 1, 1) := by decide +kernel
theorem dX5_restore_15 : decode cX5_restore 15 = .ok (.aload_n 0, 1) := by decide +kernel
theorem dX5_restore_16 : decode cX5_restore 16 = .ok (.getfield 50, 3) := by decide +kernel
theorem dX5_restore_19 : decode cX5_restore 19 = .ok (.iload_n 1, 1) := by decide +kernel
theorem dX5_restore_20 : decode cX5_restore 20 = .ok (.iaload, 1) := by decide +kernel
theorem dX5_restore_21 : decode cX5_restore 21 = .ok (.iastore, 1) := by decide +kernel
theorem dX5_restore_22 : decode cX5_restore 22 = .ok (.iinc 1 1, 3) := by decide +kernel
theorem dX5_restore_25 : decode cX5_restore 25 = .ok (.goto (-23), 3) := by decide +kernel
theorem dX5_restore_28 : decode cX5_restore 28 = .ok (.return_, 1) := by decide +kernel
theorem dX5_goesOn_0 : decode cX5_goesOn 0 = .ok (.aload_n 0, 1) := by decide +kernel
theorem dX5_goesOn_1 : decode cX5_goesOn 1 = .ok (.getfield 68, 3) := by decide +kernel
theorem dX5_goesOn_4 : decode cX5_goesOn 4 = .ok (.iconst 1, 1) := by decide +kernel
theorem dX5_goesOn_5 : decode cX5_goesOn 5 = .ok (.isub, 1) := by decide +kernel
theorem dX5_goesOn_6 : decode cX5_goesOn 6 = .ok (.istore_n 1, 1) := by decide +kernel
theorem dX5_goesOn_7 : decode cX5_goesOn 7 = .ok (.iload_n 1, 1) := by decide +kernel
theorem dX5_goesOn_8 : decode cX5_goesOn 8 = .ok (.ifCond .lt 63, 3) := by decide +kernel
theorem dX5_goesOn_11 : decode cX5_goesOn 11 = .ok (.aload_n 0, 1) := by decide +kernel
theorem dX5_goesOn_12 : decode cX5_goesOn 12 = .ok (.getfield 7, 3) := by decide +kernel
theorem dX5_goesOn_15 : decode cX5_goesOn 15 = .ok (.iload_n 1, 1) := by decide +kernel
theorem dX5_goesOn_16 : decode cX5_goesOn 16 = .ok (.iaload, 1) := by decide +kernel
theorem dX5_goesOn_17 : decode cX5_goesOn 17 = .ok (.ifCond .ne 18, 3) := by decide +kernel
theorem dX5_goesOn_20 : decode cX5_goesOn 20 = .ok (.aload_n 0, 1) := by decide +kernel
theorem dX5_goesOn_21 : decode cX5_goesOn 21 = .ok (.getfield 38, 3) := by decide +kernel
theorem dX5_goesOn_24 : decode cX5_goesOn 24 = .ok (.iload_n 1, 1) := by decide +kernel
theorem dX5_goesOn_25 : decode cX5_goesOn 25 = .ok (.iaload, 1) := by decide +kernel
theorem dX5_goesOn_26 : decode cX5_goesOn 26 = .ok (.aload_n 0, 1) := by decide +kernel
theorem dX5_goesOn_27 : decode cX5_goesOn 27 = .ok (.getfield 16, 3) := by decide +kernel
theorem dX5_goesOn_30 : decode cX5_goesOn 30 = .ok (.iload_n 1, 1) := by decide +kernel
theorem dX5_goesOn_31 : decode cX5_goesOn 31 = .ok (.iaload, 1) := by decide +kernel
theorem dX5_goesOn_32 : decode cX5_goesOn 32 = .ok (.if_icmp .ne 39, 3) := by decide +kernel
theorem dX5_goesOn_35 : decode cX5_goesOn 35 = .ok (.aload_n 0, 1) := by decide +kernel
theorem dX5_goesOn_36 : decode cX5_goesOn 36 = .ok (.getfield 38, 3) := by decide +kernel
theorem dX5_goesOn_39 : decode cX5_goesOn 39 = .ok (.iload_n 1, 1) := by decide +kernel
theorem dX5_goesOn_40 : decode cX5_goesOn 40 = .ok (.aload_n 0, 1) := by decide +kernel
theorem dX5_goesOn_41 : decode cX5_goesOn 41 = .ok (.getfield 7, 3) := by decide +kernel
theorem dX5_goesOn_44 : decode cX5_goesOn 44 = .ok (.iload_n 1, 1) := by decide +kernel
theorem dX5_goesOn_45 : decode cX5_goesOn 45 = .ok (.iaload, 1) := by decide +kernel
theorem dX5_goesOn_46 : decode cX5_goesOn 46 = .ok (.ifCond .ne 12, 3) := by decide +kernel
theorem dX5_goesOn_49 : decode cX5_goesOn 49 = .ok (.aload_n 0, 1) := by decide +kernel
theorem dX5_goesOn_50 : decode cX5_goesOn 50 = .ok (.getfield 13, 3) := by decide +kernel
theorem dX5_goesOn_53 : decode cX5_goesOn 53 = .ok (.iload_n 1, 1) := by decide +kernel
theorem dX5_goesOn_54 : decode cX5_goesOn 54 = .ok (.iaload, 1) := by decide +kernel
theorem dX5_goesOn_55 : decode cX5_goesOn 55 = .ok (.goto 9, 3) := by decide +kernel
theorem dX5_goesOn_58 : decode cX5_goesOn 58 = .ok (.aload_n 0, 1) := by decide +kernel
theorem dX5_goesOn_59 : decode cX5_goesOn 59 = .ok (.getfield 38, 3) := by decide +kernel
theorem dX5_goesOn_62 : decode cX5_goesOn 62 = .ok (.iload_n 1, 1) := by decide +kernel
theorem dX5_goesOn_63 : decode cX5_goesOn 63 = .ok (.iaload, 1) := by decide +kernel
theorem dX5_goesOn_64 : decode cX5_goesOn 64 = .ok (.iastore, 1) := by decide +kernel
theorem dX5_goesOn_65 : decode cX5_goesOn 65 = .ok (.iinc 1 (-1), 3) := by decide +kernel
theorem dX5_goesOn_68 : decode cX5_goesOn 68 = .ok (.goto (-61), 3) := by decide +kernel
theorem dX5_goesOn_71 : decode cX5_goesOn 71 = .ok (.iload_n 1, 1) := by decide +kernel
theorem dX5_goesOn_72 : decode cX5_goesOn 72 = .ok (.ifCond .ge 5, 3) := by decide +kernel
theorem dX5_goesOn_75 : decode cX5_goesOn 75 = .ok (.iconst 0, 1) := by decide +kernel
theorem dX5_goesOn_76 : decode cX5_goesOn 76 = .ok (.ireturn, 1) := by decide +kernel
theorem dX5_goesOn_77 : decode cX5_goesOn 77 = .ok (.aload_n 0, 1) := by decide +kernel
theorem dX5_goesOn_78 : decode cX5_goesOn 78 = .ok (.getfield 38, 3) := by decide +kernel
theorem dX5_goesOn_81 : decode cX5_goesOn 81 = .ok (.iload_n 1, 1) := by decide +kernel
theorem dX5_goesOn_82 : decode cX5_goesOn 82 = .ok (.dup2, 1) := by decide +kernel
theorem dX5_goesOn_83 : decode cX5_goesOn 83 = .ok (.iaload, 1) := by decide +kernel
theorem dX5_goesOn_84 : decode cX5_goesOn 84 = .ok (.sipush 4096, 3) := by decide +kernel
theorem dX5_goesOn_87 : decode cX5_goesOn 87 = .ok (.iadd, 1) := by decide +kernel
theorem dX5_goesOn_88 : decode cX5_goesOn 88 = .ok (.iastore, 1) := by decide +kernel
theorem dX5_goesOn_89 : decode cX5_goesOn 89 = .ok (.iconst 1, 1) := by decide +kernel
theorem dX5_goesOn_90 : decode cX5_goesOn 90 = .ok (.ireturn, 1) := by decide +kernel
theorem dX5_worst_0 : decode cX5_worst 0 = .ok (.aload_n 0, 1) := by decide +kernel
theorem dX5_worst_1 : decode cX5_worst 1 = .ok (.iload_n 1, 1) := by decide +kernel
theorem dX5_worst_2 : decode cX5_worst 2 = .ok (.invokevirtual 76, 3) := by decide +kernel
theorem dX5_worst_5 : decode cX5_worst 5 = .ok (.ifCond .ne 9, 3) := by decide +kernel
theorem dX5_worst_8 : decode cX5_worst 8 = .ok (.bipush (-2), 2) := by decide +kernel
theorem dX5_worst_10 : decode cX5_worst 10 = .ok (.invokestatic 129, 3) := by decide +kernel
theorem dX5_worst_13 : decode cX5_worst 13 = .ok (.lreturn, 1) := by decide +kernel
theorem dX5_worst_14 : decode cX5_worst 14 = .ok (.aload_n 0, 1) := by decide +kernel
theorem dX5_worst_15 : decode cX5_worst 15 = .ok (.invokevirtual 174, 3) := by decide +kernel
theorem dX5_worst_18 : decode cX5_worst 18 = .ok (.sipush 4000, 3) := by decide +kernel
theorem dX5_worst_21 : decode cX5_worst 21 = .ok (.if_icmp .le 9, 3) := by decide +kernel
theorem dX5_worst_24 : decode cX5_worst 24 = .ok (.bipush (-5), 2) := by decide +kernel
theorem dX5_worst_26 : decode cX5_worst 26 = .ok (.invokestatic 129, 3) := by decide +kernel
theorem dX5_worst_29 : decode cX5_worst 29 = .ok (.lreturn, 1) := by decide +kernel
theorem dX5_worst_30 : decode cX5_worst 30 = .ok (.aload_n 0, 1) := by decide +kernel
theorem dX5_worst_31 : decode cX5_worst 31 = .ok (.invokevirtual 178, 3) := by decide +kernel
theorem dX5_worst_34 : decode cX5_worst 34 = .ok (.ldc2_w 181, 3) := by decide +kernel
theorem dX5_worst_37 : decode cX5_worst 37 = .ok (.lstore_n 2, 1) := by decide +kernel
theorem dX5_worst_38 : decode cX5_worst 38 = .ok (.iconst 1, 1) := by decide +kernel
theorem dX5_worst_39 : decode cX5_worst 39 = .ok (.istore 4, 2) := by decide +kernel
theorem dX5_worst_41 : decode cX5_worst 41 = .ok (.iload 4, 2) := by decide +kernel
theorem dX5_worst_43 : decode cX5_worst 43 = .ok (.ifCond .eq 90, 3) := by decide +kernel
theorem dX5_worst_46 : decode cX5_worst 46 = .ok (.aload_n 0, 1) := by decide +kernel
theorem dX5_worst_47 : decode cX5_worst 47 = .ok (.iload_n 1, 1) := by decide +kernel
theorem dX5_worst_48 : decode cX5_worst 48 = .ok (.invokevirtual 169, 3) := by decide +kernel
theorem dX5_worst_51 : decode cX5_worst 51 = .ok (.lstore 5, 2) := by decide +kernel
theorem dX5_worst_53 : decode cX5_worst 53 = .ok (.lload 5, 2) := by decide +kernel
theorem dX5_worst_55 : decode cX5_worst 55 = .ok (.lload_n 2, 1) := by decide +kernel
theorem dX5_worst_56 : decode cX5_worst 56 = .ok (.lcmp, 1) := by decide +kernel
theorem dX5_worst_57 : decode cX5_worst 57 = .ok (.ifCond .le 67, 3) := by decide +kernel
theorem dX5_worst_60 : decode cX5_worst 60 = .ok (.lload 5, 2) := by decide +kernel
theorem dX5_worst_62 : decode cX5_worst 62 = .ok (.lstore_n 2, 1) := by decide +kernel
theorem dX5_worst_63 : decode cX5_worst 63 = .ok (.iconst 0, 1) := by decide +kernel
theorem dX5_worst_64 : decode cX5_worst 64 = .ok (.istore 7, 2) := by decide +kernel
theorem dX5_worst_66 : decode cX5_worst 66 = .ok (.iload 7, 2) := by decide +kernel
theorem dX5_worst_68 : decode cX5_worst 68 = .ok (.bipush 16, 2) := by decide +kernel
theorem dX5_worst_70 : decode cX5_worst 70 = .ok (.if_icmp .ge 54, 3) := by decide +kernel
theorem dX5_worst_73 : decode cX5_worst 73 = .ok (.aload_n 0, 1) := by decide +kernel
theorem dX5_worst_74 : decode cX5_worst 74 = .ok (.getfield 53, 3) := by decide +kernel
theorem dX5_worst_77 : decode cX5_worst 77 = .ok (.iload 7, 2) := by decide +kernel
theorem dX5_worst_79 : decode cX5_worst 79 = .ok (.iload 7, 2) := by decide +kernel
theorem dX5_worst_81 : decode cX5_worst 81 = .ok (.aload_n 0, 1) := by decide +kernel
theorem dX5_worst_82 : decode cX5_worst 82 = .ok (.getfield 68, 3) := by decide +kernel
theorem dX5_worst_85 : decode cX5_worst 85 = .ok (.if_icmp .ge 17, 3) := by decide +kernel
theorem dX5_worst_88 : decode cX5_worst 88 = .ok (.aload_n 0, 1) := by decide +kernel
theorem dX5_worst_89 : decode cX5_worst 89 = .ok (.getfield 7, 3) := by decide +kernel
theorem dX5_worst_92 : decode cX5_worst 92 = .ok (.iload 7, 2) := by decide +kernel
theorem dX5_worst_94 : decode cX5_worst 94 = .ok (.iaload, 1) := by decide +kernel
theorem dX5_worst_95 : decode cX5_worst 95 = .ok (.ifCond .ne 7, 3) := by decide +kernel
theorem dX5_worst_98 : decode cX5_worst 98 = .ok (.iconst 1, 1) := by decide +kernel
theorem dX5_worst_99 : decode cX5_worst 99 = .ok (.goto 4, 3) := by decide +kernel
theorem dX5_worst_102 : decode cX5_worst 102 = .ok (.iconst 0, 1) := by decide +kernel
theorem dX5_worst_103 : decode cX5_worst 103 = .ok (.bastore, 1) := by decide +kernel
theorem dX5_worst_104 : decode cX5_worst 104 = .ok (.aload_n 0, 1) := by decide +kernel
theorem dX5_worst_105 : decode cX5_worst 105 = .ok (.getfield 57, 3) := by decide +kernel
theorem dX5_worst_108 : decode cX5_worst 108 = .ok (.iload 7, 2) := by decide +kernel
theorem dX5_worst_110 : decode cX5_worst 110 = .ok (.aload_n 0, 1) := by decide +kernel
theorem dX5_worst_111 : decode cX5_worst 111 = .ok (.getfield 38, 3) := by decide +kernel
theorem dX5_worst_114 : decode cX5_worst 114 = .ok (.iload 7, 2) := by decide +kernel
theorem dX5_worst_116 : decode cX5_worst 116 = .ok (.iaload, 1) := by decide +kernel
theorem dX5_worst_117 : decode cX5_worst 117 = .ok (.iastore, 1) := by decide +kernel
theorem dX5_worst_118 : decode cX5_worst 118 = .ok (.iinc 7 1, 3) := by decide +kernel
theorem dX5_worst_121 : decode cX5_worst 121 = .ok (.goto (-55), 3) := by decide +kernel
theorem dX5_worst_124 : decode cX5_worst 124 = .ok (.aload_n 0, 1) := by decide +kernel
theorem dX5_worst_125 : decode cX5_worst 125 = .ok (.invokevirtual 183, 3) := by decide +kernel
theorem dX5_worst_128 : decode cX5_worst 128 = .ok (.istore 4, 2) := by decide +kernel
theorem dX5_worst_130 : decode cX5_worst 130 = .ok (.goto (-89), 3) := by decide +kernel
theorem dX5_worst_133 : decode cX5_worst 133 = .ok (.aload_n 0, 1) := by decide +kernel
theorem dX5_worst_134 : decode cX5_worst 134 = .ok (.invokevirtual 187, 3) := by decide +kernel
theorem dX5_worst_137 : decode cX5_worst 137 = .ok (.lload_n 2, 1) := by decide +kernel
theorem dX5_worst_138 : decode cX5_worst 138 = .ok (.lreturn, 1) := by decide +kernel
theorem dX5_worstAt_0 : decode cX5_worstAt 0 = .ok (.iload_n 1, 1) := by decide +kernel
theorem dX5_worstAt_1 : decode cX5_worstAt 1 = .ok (.i2l, 1) := by decide +kernel
theorem dX5_worstAt_2 : decode cX5_worstAt 2 = .ok (.lconst 0, 1) := by decide +kernel
theorem dX5_worstAt_3 : decode cX5_worstAt 3 = .ok (.ldc2_w 190, 3) := by decide +kernel
theorem dX5_worstAt_6 : decode cX5_worstAt 6 = .ok (.invokestatic 72, 3) := by decide +kernel
theorem dX5_worstAt_9 : decode cX5_worstAt 9 = .ok (.ifCond .eq 21, 3) := by decide +kernel
theorem dX5_worstAt_12 : decode cX5_worstAt 12 = .ok (.aload_n 0, 1) := by decide +kernel
theorem dX5_worstAt_13 : decode cX5_worstAt 13 = .ok (.getfield 53, 3) := by decide +kernel
theorem dX5_worstAt_16 : decode cX5_worstAt 16 = .ok (.iload_n 1, 1) := by decide +kernel
theorem dX5_worstAt_17 : decode cX5_worstAt 17 = .ok (.baload, 1) := by decide +kernel
theorem dX5_worstAt_18 : decode cX5_worstAt 18 = .ok (.ifCond .eq 12, 3) := by decide +kernel
theorem dX5_worstAt_21 : decode cX5_worstAt 21 = .ok (.aload_n 0, 1) := by decide +kernel
theorem dX5_worstAt_22 : decode cX5_worstAt 22 = .ok (.getfield 57, 3) := by decide +kernel
theorem dX5_worstAt_25 : decode cX5_worstAt 25 = .ok (.iload_n 1, 1) := by decide +kernel
theorem dX5_worstAt_26 : decode cX5_worstAt 26 = .ok (.iaload, 1) := by decide +kernel
theorem dX5_worstAt_27 : decode cX5_worstAt 27 = .ok (.goto 5, 3) := by decide +kernel
theorem dX5_worstAt_30 : decode cX5_worstAt 30 = .ok (.bipush (-2), 2) := by decide +kernel
theorem dX5_worstAt_32 : decode cX5_worstAt 32 = .ok (.ireturn, 1) := by decide +kernel
theorem dX5_above_0 : decode cX5_above 0 = .ok (.aload_n 0, 1) := by decide +kernel
theorem dX5_above_1 : decode cX5_above 1 = .ok (.iload_n 1, 1) := by decide +kernel
theorem dX5_above_2 : decode cX5_above 2 = .ok (.invokevirtual 76, 3) := by decide +kernel
theorem dX5_above_5 : decode cX5_above 5 = .ok (.ifCond .ne 6, 3) := by decide +kernel
theorem dX5_above_8 : decode cX5_above 8 = .ok (.bipush (-2), 2) := by decide +kernel
theorem dX5_above_10 : decode cX5_above 10 = .ok (.ireturn, 1) := by decide +kernel
theorem dX5_above_11 : decode cX5_above 11 = .ok (.aload_n 0, 1) := by decide +kernel
theorem dX5_above_12 : decode cX5_above 12 = .ok (.invokevirtual 174, 3) := by decide +kernel
theorem dX5_above_15 : decode cX5_above 15 = .ok (.sipush 4000, 3) := by decide +kernel
theorem dX5_above_18 : decode cX5_above 18 = .ok (.if_icmp .le 6, 3) := by decide +kernel
theorem dX5_above_21 : decode cX5_above 21 = .ok (.bipush (-5), 2) := by decide +kernel
theorem dX5_above_23 : decode cX5_above 23 = .ok (.ireturn, 1) := by decide +kernel
theorem dX5_above_24 : decode cX5_above 24 = .ok (.aload_n 0, 1) := by decide +kernel
theorem dX5_above_25 : decode cX5_above 25 = .ok (.invokevirtual 178, 3) := by decide +kernel
theorem dX5_above_28 : decode cX5_above 28 = .ok (.iconst 0, 1) := by decide +kernel
theorem dX5_above_29 : decode cX5_above 29 = .ok (.istore 4, 2) := by decide +kernel
theorem dX5_above_31 : decode cX5_above 31 = .ok (.iconst 1, 1) := by decide +kernel
theorem dX5_above_32 : decode cX5_above 32 = .ok (.istore 5, 2) := by decide +kernel
theorem dX5_above_34 : decode cX5_above 34 = .ok (.iload 5, 2) := by decide +kernel
theorem dX5_above_36 : decode cX5_above 36 = .ok (.ifCond .eq 32, 3) := by decide +kernel
theorem dX5_above_39 : decode cX5_above 39 = .ok (.iload 4, 2) := by decide +kernel
theorem dX5_above_41 : decode cX5_above 41 = .ok (.aload_n 0, 1) := by decide +kernel
theorem dX5_above_42 : decode cX5_above 42 = .ok (.iload_n 1, 1) := by decide +kernel
theorem dX5_above_43 : decode cX5_above 43 = .ok (.invokevirtual 169, 3) := by decide +kernel
theorem dX5_above_46 : decode cX5_above 46 = .ok (.lload_n 2, 1) := by decide +kernel
theorem dX5_above_47 : decode cX5_above 47 = .ok (.lcmp, 1) := by decide +kernel
theorem dX5_above_48 : decode cX5_above 48 = .ok (.ifCond .le 7, 3) := by decide +kernel
theorem dX5_above_51 : decode cX5_above 51 = .ok (.iconst 1, 1) := by decide +kernel
theorem dX5_above_52 : decode cX5_above 52 = .ok (.goto 4, 3) := by decide +kernel
theorem dX5_above_55 : decode cX5_above 55 = .ok (.iconst 0, 1) := by decide +kernel
theorem dX5_above_56 : decode cX5_above 56 = .ok (.iadd, 1) := by decide +kernel
theorem dX5_above_57 : decode cX5_above 57 = .ok (.istore 4, 2) := by decide +kernel
theorem dX5_above_59 : decode cX5_above 59 = .ok (.aload_n 0, 1) := by decide +kernel
theorem dX5_above_60 : decode cX5_above 60 = .ok (.invokevirtual 183, 3) := by decide +kernel
theorem dX5_above_63 : decode cX5_above 63 = .ok (.istore 5, 2) := by decide +kernel
theorem dX5_above_65 : decode cX5_above 65 = .ok (.goto (-31), 3) := by decide +kernel
theorem dX5_above_68 : decode cX5_above 68 = .ok (.aload_n 0, 1) := by decide +kernel
theorem dX5_above_69 : decode cX5_above 69 = .ok (.invokevirtual 187, 3) := by decide +kernel
theorem dX5_above_72 : decode cX5_above 72 = .ok (.iload 4, 2) := by decide +kernel
theorem dX5_above_74 : decode cX5_above 74 = .ok (.ireturn, 1) := by decide +kernel
theorem dX5_works_0 : decode cX5_works 0 = .ok (.iconst 0, 1) := by decide +kernel
theorem dX5_works_1 : decode cX5_works 1 = .ok (.istore_n 1, 1) := by decide +kernel
theorem dX5_works_2 : decode cX5_works 2 = .ok (.iconst 0, 1) := by decide +kernel
theorem dX5_works_3 : decode cX5_works 3 = .ok (.istore_n 2, 1) := by decide +kernel
theorem dX5_works_4 : decode cX5_works 4 = .ok (.iload_n 2, 1) := by decide +kernel
theorem dX5_works_5 : decode cX5_works 5 = .ok (.aload_n 0, 1) := by decide +kernel
theorem dX5_works_6 : decode cX5_works 6 = .ok (.getfield 68, 3) := by decide +kernel
theorem dX5_works_9 : decode cX5_works 9 = .ok (.if_icmp .ge 27, 3) := by decide +kernel
theorem dX5_works_12 : decode cX5_works 12 = .ok (.iload_n 1, 1) := by decide +kernel
theorem dX5_works_13 : decode cX5_works 13 = .ok (.aload_n 0, 1) := by decide +kernel
theorem dX5_works_14 : decode cX5_works 14 = .ok (.getfield 7, 3) := by decide +kernel
theorem dX5_works_17 : decode cX5_works 17 = .ok (.iload_n 2, 1) := by decide +kernel
theorem dX5_works_18 : decode cX5_works 18 = .ok (.iaload, 1) := by decide +kernel
theorem dX5_works_19 : decode cX5_works 19 = .ok (.iconst 1, 1) := by decide +kernel
theorem dX5_works_20 : decode cX5_works 20 = .ok (.if_icmp .le 7, 3) := by decide +kernel
theorem dX5_works_23 : decode cX5_works 23 = .ok (.iconst 1, 1) := by decide +kernel
theorem dX5_works_24 : decode cX5_works 24 = .ok (.goto 4, 3) := by decide +kernel
theorem dX5_works_27 : decode cX5_works 27 = .ok (.iconst 0, 1) := by decide +kernel
theorem dX5_works_28 : decode cX5_works 28 = .ok (.iadd, 1) := by decide +kernel
theorem dX5_works_29 : decode cX5_works 29 = .ok (.istore_n 1, 1) := by decide +kernel
theorem dX5_works_30 : decode cX5_works 30 = .ok (.iinc 2 1, 3) := by decide +kernel
theorem dX5_works_33 : decode cX5_works 33 = .ok (.goto (-29), 3) := by decide +kernel
theorem dX5_works_36 : decode cX5_works 36 = .ok (.iload_n 1, 1) := by decide +kernel
theorem dX5_works_37 : decode cX5_works 37 = .ok (.ireturn, 1) := by decide +kernel
theorem dX5_save_0 : decode cX5_save 0 = .ok (.iconst 0, 1) := by decide +kernel
theorem dX5_save_1 : decode cX5_save 1 = .ok (.istore_n 2, 1) := by decide +kernel
theorem dX5_save_2 : decode cX5_save 2 = .ok (.iload_n 2, 1) := by decide +kernel
theorem dX5_save_3 : decode cX5_save 3 = .ok (.aload_n 0, 1) := by decide +kernel
theorem dX5_save_4 : decode cX5_save 4 = .ok (.getfield 68, 3) := by decide +kernel
theorem dX5_save_7 : decode cX5_save 7 = .ok (.if_icmp .ge 18, 3) := by decide +kernel
theorem dX5_save_10 : decode cX5_save 10 = .ok (.aload_n 1, 1) := by decide +kernel
theorem dX5_save_11 : decode cX5_save 11 = .ok (.iload_n 2, 1) := by decide +kernel
theorem dX5_save_12 : decode cX5_save 12 = .ok (.aload_n 0, 1) := by decide +kernel
theorem dX5_save_13 : decode cX5_save 13 = .ok (.getfield 29, 3) := by decide +kernel
theorem dX5_save_16 : decode cX5_save 16 = .ok (.iload_n 2, 1) := by decide +kernel
theorem dX5_save_17 : decode cX5_save 17 = .ok (.iaload, 1) := by decide +kernel
theorem dX5_save_18 : decode cX5_save 18 = .ok (.iastore, 1) := by decide +kernel
theorem dX5_save_19 : decode cX5_save 19 = .ok (.iinc 2 1, 3) := by decide +kernel
theorem dX5_save_22 : decode cX5_save 22 = .ok (.goto (-20), 3) := by decide +kernel
theorem dX5_save_25 : decode cX5_save 25 = .ok (.return_, 1) := by decide +kernel
theorem dX5_take_0 : decode cX5_take 0 = .ok (.iconst 0, 1) := by decide +kernel
theorem dX5_take_1 : decode cX5_take 1 = .ok (.istore_n 2, 1) := by decide +kernel
theorem dX5_take_2 : decode cX5_take 2 = .ok (.iload_n 2, 1) := by decide +kernel
theorem dX5_take_3 : decode cX5_take 3 = .ok (.aload_n 0, 1) := by decide +kernel
theorem dX5_take_4 : decode cX5_take 4 = .ok (.getfield 68, 3) := by decide +kernel
theorem dX5_take_7 : decode cX5_take 7 = .ok (.if_icmp .ge 18, 3) := by decide +kernel
theorem dX5_take_10 : decode cX5_take 10 = .ok (.aload_n 0, 1) := by decide +kernel
theorem dX5_take_11 : decode cX5_take 11 = .ok (.getfield 29, 3) := by decide +kernel
theorem dX5_take_14 : decode cX5_take 14 = .ok (.iload_n 2, 1) := by decide +kernel
theorem dX5_take_15 : decode cX5_take 15 = .ok (.aload_n 1, 1) := by decide +kernel
theorem dX5_take_16 : decode cX5_take 16 = .ok (.iload_n 2, 1) := by decide +kernel
theorem dX5_take_17 : decode cX5_take 17 = .ok (.iaload, 1) := by decide +kernel
theorem dX5_take_18 : decode cX5_take 18 = .ok (.iastore, 1) := by decide +kernel
theorem dX5_take_19 : decode cX5_take 19 = .ok (.iinc 2 1, 3) := by decide +kernel
theorem dX5_take_22 : decode cX5_take 22 = .ok (.goto (-20), 3) := by decide +kernel
theorem dX5_take_25 : decode cX5_take 25 = .ok (.return_, 1) := by decide +kernel
theorem dX5_setAll_0 : decode cX5_setAll 0 = .ok (.iconst 0, 1) := by decide +kernel
theorem dX5_setAll_1 : decode cX5_setAll 1 = .ok (.istore_n 2, 1) := by decide +kernel
theorem dX5_setAll_2 : decode cX5_setAll 2 = .ok (.iload_n 2, 1) := by decide +kernel
theorem dX5_setAll_3 : decode cX5_setAll 3 = .ok (.aload_n 0, 1) := by decide +kernel
theorem dX5_setAll_4 : decode cX5_setAll 4 = .ok (.getfield 68, 3) := by decide +kernel
theorem dX5_setAll_7 : decode cX5_setAll 7 = .ok (.if_icmp .ge 31, 3) := by decide +kernel
theorem dX5_setAll_10 : decode cX5_setAll 10 = .ok (.aload_n 0, 1) := by decide +kernel
theorem dX5_setAll_11 : decode cX5_setAll 11 = .ok (.getfield 29, 3) := by decide +kernel
theorem dX5_setAll_14 : decode cX5_setAll 14 = .ok (.iload_n 2, 1) := by decide +kernel
theorem dX5_setAll_15 : decode cX5_setAll 15 = .ok (.aload_n 0, 1) := by decide +kernel
theorem dX5_setAll_16 : decode cX5_setAll 16 = .ok (.getfield 7, 3) := by decide +kernel
theorem dX5_setAll_19 : decode cX5_setAll 19 = .ok (.iload_n 2, 1) := by decide +kernel
theorem dX5_setAll_20 : decode cX5_setAll 20 = .ok (.iaload, 1) := by decide +kernel
theorem dX5_setAll_21 : decode cX5_setAll 21 = .ok (.iconst 1, 1) := by decide +kernel
theorem dX5_setAll_22 : decode cX5_setAll 22 = .ok (.if_icmp .le 7, 3) := by decide +kernel
theorem dX5_setAll_25 : decode cX5_setAll 25 = .ok (.iload_n 1, 1) := by decide +kernel
theorem dX5_setAll_26 : decode cX5_setAll 26 = .ok (.goto 5, 3) := by decide +kernel
theorem dX5_setAll_29 : decode cX5_setAll 29 = .ok (.bipush 16, 2) := by decide +kernel
theorem dX5_setAll_31 : decode cX5_setAll 31 = .ok (.iastore, 1) := by decide +kernel
theorem dX5_setAll_32 : decode cX5_setAll 32 = .ok (.iinc 2 1, 3) := by decide +kernel
theorem dX5_setAll_35 : decode cX5_setAll 35 = .ok (.goto (-33), 3) := by decide +kernel
theorem dX5_setAll_38 : decode cX5_setAll 38 = .ok (.return_, 1) := by decide +kernel
theorem dX5_choosesOn_0 : decode cX5_choosesOn 0 = .ok (.aload_n 0, 1) := by decide +kernel
theorem dX5_choosesOn_1 : decode cX5_choosesOn 1 = .ok (.getfield 68, 3) := by decide +kernel
theorem dX5_choosesOn_4 : decode cX5_choosesOn 4 = .ok (.iconst 1, 1) := by decide +kernel
theorem dX5_choosesOn_5 : decode cX5_choosesOn 5 = .ok (.isub, 1) := by decide +kernel
theorem dX5_choosesOn_6 : decode cX5_choosesOn 6 = .ok (.istore_n 1, 1) := by decide +kernel
theorem dX5_choosesOn_7 : decode cX5_choosesOn 7 = .ok (.iload_n 1, 1) := by decide +kernel
theorem dX5_choosesOn_8 : decode cX5_choosesOn 8 = .ok (.ifCond .lt 52, 3) := by decide +kernel
theorem dX5_choosesOn_11 : decode cX5_choosesOn 11 = .ok (.aload_n 0, 1) := by decide +kernel
theorem dX5_choosesOn_12 : decode cX5_choosesOn 12 = .ok (.getfield 7, 3) := by decide +kernel
theorem dX5_choosesOn_15 : decode cX5_choosesOn 15 = .ok (.iload_n 1, 1) := by decide +kernel
theorem dX5_choosesOn_16 : decode cX5_choosesOn 16 = .ok (.iaload, 1) := by decide +kernel
theorem dX5_choosesOn_17 : decode cX5_choosesOn 17 = .ok (.iconst 1, 1) := by decide +kernel
theorem dX5_choosesOn_18 : decode cX5_choosesOn 18 = .ok (.if_icmp .le 14, 3) := by decide +kernel
theorem dX5_choosesOn_21 : decode cX5_choosesOn 21 = .ok (.aload_n 0, 1) := by decide +kernel
theorem dX5_choosesOn_22 : decode cX5_choosesOn 22 = .ok (.getfield 29, 3) := by decide +kernel
theorem dX5_choosesOn_25 : decode cX5_choosesOn 25 = .ok (.iload_n 1, 1) := by decide +kernel
theorem dX5_choosesOn_26 : decode cX5_choosesOn 26 = .ok (.iaload, 1) := by decide +kernel
theorem dX5_choosesOn_27 : decode cX5_choosesOn 27 = .ok (.bipush 16, 2) := by decide +kernel
theorem dX5_choosesOn_29 : decode cX5_choosesOn 29 = .ok (.if_icmp .ne 31, 3) := by decide +kernel
theorem dX5_choosesOn_32 : decode cX5_choosesOn 32 = .ok (.aload_n 0, 1) := by decide +kernel
theorem dX5_choosesOn_33 : decode cX5_choosesOn 33 = .ok (.getfield 29, 3) := by decide +kernel
theorem dX5_choosesOn_36 : decode cX5_choosesOn 36 = .ok (.iload_n 1, 1) := by decide +kernel
theorem dX5_choosesOn_37 : decode cX5_choosesOn 37 = .ok (.aload_n 0, 1) := by decide +kernel
theorem dX5_choosesOn_38 : decode cX5_choosesOn 38 = .ok (.getfield 7, 3) := by decide +kernel
theorem dX5_choosesOn_41 : decode cX5_choosesOn 41 = .ok (.iload_n 1, 1) := by decide +kernel
theorem dX5_choosesOn_42 : decode cX5_choosesOn 42 = .ok (.iaload, 1) := by decide +kernel
theorem dX5_choosesOn_43 : decode cX5_choosesOn 43 = .ok (.iconst 1, 1) := by decide +kernel
theorem dX5_choosesOn_44 : decode cX5_choosesOn 44 = .ok (.if_icmp .le 7, 3) := by decide +kernel
theorem dX5_choosesOn_47 : decode cX5_choosesOn 47 = .ok (.iconst 0, 1) := by decide +kernel
theorem dX5_choosesOn_48 : decode cX5_choosesOn 48 = .ok (.goto 5, 3) := by decide +kernel
theorem dX5_choosesOn_51 : decode cX5_choosesOn 51 = .ok (.bipush 16, 2) := by decide +kernel
theorem dX5_choosesOn_53 : decode cX5_choosesOn 53 = .ok (.iastore, 1) := by decide +kernel
theorem dX5_choosesOn_54 : decode cX5_choosesOn 54 = .ok (.iinc 1 (-1), 3) := by decide +kernel
theorem dX5_choosesOn_57 : decode cX5_choosesOn 57 = .ok (.goto (-50), 3) := by decide +kernel
theorem dX5_choosesOn_60 : decode cX5_choosesOn 60 = .ok (.iload_n 1, 1) := by decide +kernel
theorem dX5_choosesOn_61 : decode cX5_choosesOn 61 = .ok (.ifCond .ge 5, 3) := by decide +kernel
theorem dX5_choosesOn_64 : decode cX5_choosesOn 64 = .ok (.iconst 0, 1) := by decide +kernel
theorem dX5_choosesOn_65 : decode cX5_choosesOn 65 = .ok (.ireturn, 1) := by decide +kernel
theorem dX5_choosesOn_66 : decode cX5_choosesOn 66 = .ok (.aload_n 0, 1) := by decide +kernel
theorem dX5_choosesOn_67 : decode cX5_choosesOn 67 = .ok (.getfield 29, 3) := by decide +kernel
theorem dX5_choosesOn_70 : decode cX5_choosesOn 70 = .ok (.iload_n 1, 1) := by decide +kernel
theorem dX5_choosesOn_71 : decode cX5_choosesOn 71 = .ok (.dup2, 1) := by decide +kernel
theorem dX5_choosesOn_72 : decode cX5_choosesOn 72 = .ok (.iaload, 1) := by decide +kernel
theorem dX5_choosesOn_73 : decode cX5_choosesOn 73 = .ok (.iconst 4, 1) := by decide +kernel
theorem dX5_choosesOn_74 : decode cX5_choosesOn 74 = .ok (.iadd, 1) := by decide +kernel
theorem dX5_choosesOn_75 : decode cX5_choosesOn 75 = .ok (.iastore, 1) := by decide +kernel
theorem dX5_choosesOn_76 : decode cX5_choosesOn 76 = .ok (.iconst 1, 1) := by decide +kernel
theorem dX5_choosesOn_77 : decode cX5_choosesOn 77 = .ok (.ireturn, 1) := by decide +kernel
theorem dX5_least_0 : decode cX5_least 0 = .ok (.aload_n 0, 1) := by decide +kernel
theorem dX5_least_1 : decode cX5_least 1 = .ok (.iload_n 1, 1) := by decide +kernel
theorem dX5_least_2 : decode cX5_least 2 = .ok (.invokevirtual 76, 3) := by decide +kernel
theorem dX5_least_5 : decode cX5_least 5 = .ok (.ifCond .eq 9, 3) := by decide +kernel
theorem dX5_least_8 : decode cX5_least 8 = .ok (.lload_n 2, 1) := by decide +kernel
theorem dX5_least_9 : decode cX5_least 9 = .ok (.lconst 0, 1) := by decide +kernel
theorem dX5_least_10 : decode cX5_least 10 = .ok (.lcmp, 1) := by decide +kernel
theorem dX5_least_11 : decode cX5_least 11 = .ok (.ifCond .ge 6, 3) := by decide +kernel
theorem dX5_least_14 : decode cX5_least 14 = .ok (.bipush (-2), 2) := by decide +kernel
theorem dX5_least_16 : decode cX5_least 16 = .ok (.ireturn, 1) := by decide +kernel
theorem dX5_least_17 : decode cX5_least 17 = .ok (.aload_n 0, 1) := by decide +kernel
theorem dX5_least_18 : decode cX5_least 18 = .ok (.invokevirtual 192, 3) := by decide +kernel
theorem dX5_least_21 : decode cX5_least 21 = .ok (.bipush 6, 2) := by decide +kernel
theorem dX5_least_23 : decode cX5_least 23 = .ok (.if_icmp .le 6, 3) := by decide +kernel
theorem dX5_least_26 : decode cX5_least 26 = .ok (.bipush (-5), 2) := by decide +kernel
theorem dX5_least_28 : decode cX5_least 28 = .ok (.ireturn, 1) := by decide +kernel
theorem dX5_least_29 : decode cX5_least 29 = .ok (.aload_n 0, 1) := by decide +kernel
theorem dX5_least_30 : decode cX5_least 30 = .ok (.aload_n 0, 1) := by decide +kernel
theorem dX5_least_31 : decode cX5_least 31 = .ok (.getfield 60, 3) := by decide +kernel
theorem dX5_least_34 : decode cX5_least 34 = .ok (.invokevirtual 195, 3) := by decide +kernel
theorem dX5_least_37 : decode cX5_least 37 = .ok (.aload_n 0, 1) := by decide +kernel
theorem dX5_least_38 : decode cX5_least 38 = .ok (.iconst 0, 1) := by decide +kernel
theorem dX5_least_39 : decode cX5_least 39 = .ok (.invokevirtual 199, 3) := by decide +kernel
theorem dX5_least_42 : decode cX5_least 42 = .ok (.iconst (-1), 1) := by decide +kernel
theorem dX5_least_43 : decode cX5_least 43 = .ok (.istore 4, 2) := by decide +kernel
theorem dX5_least_45 : decode cX5_least 45 = .ok (.iconst 1, 1) := by decide +kernel
theorem dX5_least_46 : decode cX5_least 46 = .ok (.istore 5, 2) := by decide +kernel
theorem dX5_least_48 : decode cX5_least 48 = .ok (.iload 5, 2) := by decide +kernel
theorem dX5_least_50 : decode cX5_least 50 = .ok (.ifCond .eq 51, 3) := by decide +kernel
theorem dX5_least_53 : decode cX5_least 53 = .ok (.aload_n 0, 1) := by decide +kernel
theorem dX5_least_54 : decode cX5_least 54 = .ok (.iload_n 1, 1) := by decide +kernel
theorem dX5_least_55 : decode cX5_least 55 = .ok (.invokevirtual 132, 3) := by decide +kernel
end
section
theorem dX5_least_58 : decode cX5_least 58 = .ok (.lload_n 2, 1) := by decide +kernel
theorem dX5_least_59 : decode cX5_least 59 = .ok (.lcmp, 1) := by decide +kernel
theorem dX5_least_60 : decode cX5_least 60 = .ok (.ifCond .gt 32, 3) := by decide +kernel
theorem dX5_least_63 : decode cX5_least 63 = .ok (.iload 4, 2) := by decide +kernel
theorem dX5_least_65 : decode cX5_least 65 = .ok (.iconst (-1), 1) := by decide +kernel
theorem dX5_least_66 : decode cX5_least 66 = .ok (.if_icmp .eq 12, 3) := by decide +kernel
theorem dX5_least_69 : decode cX5_least 69 = .ok (.aload_n 0, 1) := by decide +kernel
theorem dX5_least_70 : decode cX5_least 70 = .ok (.invokevirtual 202, 3) := by decide +kernel
theorem dX5_least_73 : decode cX5_least 73 = .ok (.iload 4, 2) := by decide +kernel
theorem dX5_least_75 : decode cX5_least 75 = .ok (.if_icmp .ge 17, 3) := by decide +kernel
theorem dX5_least_78 : decode cX5_least 78 = .ok (.aload_n 0, 1) := by decide +kernel
theorem dX5_least_79 : decode cX5_least 79 = .ok (.invokevirtual 202, 3) := by decide +kernel
theorem dX5_least_82 : decode cX5_least 82 = .ok (.istore 4, 2) := by decide +kernel
theorem dX5_least_84 : decode cX5_least 84 = .ok (.aload_n 0, 1) := by decide +kernel
theorem dX5_least_85 : decode cX5_least 85 = .ok (.aload_n 0, 1) := by decide +kernel
theorem dX5_least_86 : decode cX5_least 86 = .ok (.getfield 63, 3) := by decide +kernel
theorem dX5_least_89 : decode cX5_least 89 = .ok (.invokevirtual 195, 3) := by decide +kernel
theorem dX5_least_92 : decode cX5_least 92 = .ok (.aload_n 0, 1) := by decide +kernel
theorem dX5_least_93 : decode cX5_least 93 = .ok (.invokevirtual 205, 3) := by decide +kernel
theorem dX5_least_96 : decode cX5_least 96 = .ok (.istore 5, 2) := by decide +kernel
theorem dX5_least_98 : decode cX5_least 98 = .ok (.goto (-50), 3) := by decide +kernel
theorem dX5_least_101 : decode cX5_least 101 = .ok (.iload 4, 2) := by decide +kernel
theorem dX5_least_103 : decode cX5_least 103 = .ok (.iconst (-1), 1) := by decide +kernel
theorem dX5_least_104 : decode cX5_least 104 = .ok (.if_icmp .ne 14, 3) := by decide +kernel
theorem dX5_least_107 : decode cX5_least 107 = .ok (.aload_n 0, 1) := by decide +kernel
theorem dX5_least_108 : decode cX5_least 108 = .ok (.aload_n 0, 1) := by decide +kernel
theorem dX5_least_109 : decode cX5_least 109 = .ok (.getfield 60, 3) := by decide +kernel
theorem dX5_least_112 : decode cX5_least 112 = .ok (.invokevirtual 208, 3) := by decide +kernel
theorem dX5_least_115 : decode cX5_least 115 = .ok (.bipush (-5), 2) := by decide +kernel
theorem dX5_least_117 : decode cX5_least 117 = .ok (.ireturn, 1) := by decide +kernel
theorem dX5_least_118 : decode cX5_least 118 = .ok (.aload_n 0, 1) := by decide +kernel
theorem dX5_least_119 : decode cX5_least 119 = .ok (.aload_n 0, 1) := by decide +kernel
theorem dX5_least_120 : decode cX5_least 120 = .ok (.getfield 63, 3) := by decide +kernel
theorem dX5_least_123 : decode cX5_least 123 = .ok (.invokevirtual 208, 3) := by decide +kernel
theorem dX5_least_126 : decode cX5_least 126 = .ok (.iload 4, 2) := by decide +kernel
theorem dX5_least_128 : decode cX5_least 128 = .ok (.ireturn, 1) := by decide +kernel
theorem dX5_trim_0 : decode cX5_trim 0 = .ok (.aload_n 0, 1) := by decide +kernel
theorem dX5_trim_1 : decode cX5_trim 1 = .ok (.iload_n 1, 1) := by decide +kernel
theorem dX5_trim_2 : decode cX5_trim 2 = .ok (.invokevirtual 76, 3) := by decide +kernel
theorem dX5_trim_5 : decode cX5_trim 5 = .ok (.ifCond .eq 9, 3) := by decide +kernel
theorem dX5_trim_8 : decode cX5_trim 8 = .ok (.lload_n 2, 1) := by decide +kernel
theorem dX5_trim_9 : decode cX5_trim 9 = .ok (.lconst 0, 1) := by decide +kernel
theorem dX5_trim_10 : decode cX5_trim 10 = .ok (.lcmp, 1) := by decide +kernel
theorem dX5_trim_11 : decode cX5_trim 11 = .ok (.ifCond .ge 6, 3) := by decide +kernel
theorem dX5_trim_14 : decode cX5_trim 14 = .ok (.bipush (-2), 2) := by decide +kernel
theorem dX5_trim_16 : decode cX5_trim 16 = .ok (.ireturn, 1) := by decide +kernel
theorem dX5_trim_17 : decode cX5_trim 17 = .ok (.aload_n 0, 1) := by decide +kernel
theorem dX5_trim_18 : decode cX5_trim 18 = .ok (.aload_n 0, 1) := by decide +kernel
theorem dX5_trim_19 : decode cX5_trim 19 = .ok (.getfield 60, 3) := by decide +kernel
theorem dX5_trim_22 : decode cX5_trim 22 = .ok (.invokevirtual 195, 3) := by decide +kernel
theorem dX5_trim_25 : decode cX5_trim 25 = .ok (.aload_n 0, 1) := by decide +kernel
theorem dX5_trim_26 : decode cX5_trim 26 = .ok (.bipush 16, 2) := by decide +kernel
theorem dX5_trim_28 : decode cX5_trim 28 = .ok (.invokevirtual 199, 3) := by decide +kernel
theorem dX5_trim_31 : decode cX5_trim 31 = .ok (.aload_n 0, 1) := by decide +kernel
theorem dX5_trim_32 : decode cX5_trim 32 = .ok (.iload_n 1, 1) := by decide +kernel
theorem dX5_trim_33 : decode cX5_trim 33 = .ok (.invokevirtual 132, 3) := by decide +kernel
theorem dX5_trim_36 : decode cX5_trim 36 = .ok (.lload_n 2, 1) := by decide +kernel
theorem dX5_trim_37 : decode cX5_trim 37 = .ok (.lcmp, 1) := by decide +kernel
theorem dX5_trim_38 : decode cX5_trim 38 = .ok (.ifCond .le 14, 3) := by decide +kernel
theorem dX5_trim_41 : decode cX5_trim 41 = .ok (.aload_n 0, 1) := by decide +kernel
theorem dX5_trim_42 : decode cX5_trim 42 = .ok (.aload_n 0, 1) := by decide +kernel
theorem dX5_trim_43 : decode cX5_trim 43 = .ok (.getfield 60, 3) := by decide +kernel
theorem dX5_trim_46 : decode cX5_trim 46 = .ok (.invokevirtual 208, 3) := by decide +kernel
theorem dX5_trim_49 : decode cX5_trim 49 = .ok (.bipush (-5), 2) := by decide +kernel
theorem dX5_trim_51 : decode cX5_trim 51 = .ok (.ireturn, 1) := by decide +kernel
theorem dX5_trim_52 : decode cX5_trim 52 = .ok (.iconst 0, 1) := by decide +kernel
theorem dX5_trim_53 : decode cX5_trim 53 = .ok (.istore 4, 2) := by decide +kernel
theorem dX5_trim_55 : decode cX5_trim 55 = .ok (.iload 4, 2) := by decide +kernel
theorem dX5_trim_57 : decode cX5_trim 57 = .ok (.aload_n 0, 1) := by decide +kernel
theorem dX5_trim_58 : decode cX5_trim 58 = .ok (.getfield 68, 3) := by decide +kernel
theorem dX5_trim_61 : decode cX5_trim 61 = .ok (.if_icmp .ge 80, 3) := by decide +kernel
theorem dX5_trim_64 : decode cX5_trim 64 = .ok (.aload_n 0, 1) := by decide +kernel
theorem dX5_trim_65 : decode cX5_trim 65 = .ok (.getfield 7, 3) := by decide +kernel
theorem dX5_trim_68 : decode cX5_trim 68 = .ok (.iload 4, 2) := by decide +kernel
theorem dX5_trim_70 : decode cX5_trim 70 = .ok (.iaload, 1) := by decide +kernel
theorem dX5_trim_71 : decode cX5_trim 71 = .ok (.iconst 1, 1) := by decide +kernel
theorem dX5_trim_72 : decode cX5_trim 72 = .ok (.if_icmp .le 7, 3) := by decide +kernel
theorem dX5_trim_75 : decode cX5_trim 75 = .ok (.iconst 1, 1) := by decide +kernel
theorem dX5_trim_76 : decode cX5_trim 76 = .ok (.goto 4, 3) := by decide +kernel
theorem dX5_trim_79 : decode cX5_trim 79 = .ok (.iconst 0, 1) := by decide +kernel
theorem dX5_trim_80 : decode cX5_trim 80 = .ok (.istore 5, 2) := by decide +kernel
theorem dX5_trim_82 : decode cX5_trim 82 = .ok (.iload 5, 2) := by decide +kernel
theorem dX5_trim_84 : decode cX5_trim 84 = .ok (.ifCond .eq 51, 3) := by decide +kernel
theorem dX5_trim_87 : decode cX5_trim 87 = .ok (.aload_n 0, 1) := by decide +kernel
theorem dX5_trim_88 : decode cX5_trim 88 = .ok (.getfield 29, 3) := by decide +kernel
theorem dX5_trim_91 : decode cX5_trim 91 = .ok (.iload 4, 2) := by decide +kernel
theorem dX5_trim_93 : decode cX5_trim 93 = .ok (.iaload, 1) := by decide +kernel
theorem dX5_trim_94 : decode cX5_trim 94 = .ok (.ifCond .le 41, 3) := by decide +kernel
theorem dX5_trim_97 : decode cX5_trim 97 = .ok (.aload_n 0, 1) := by decide +kernel
theorem dX5_trim_98 : decode cX5_trim 98 = .ok (.getfield 29, 3) := by decide +kernel
theorem dX5_trim_101 : decode cX5_trim 101 = .ok (.iload 4, 2) := by decide +kernel
theorem dX5_trim_103 : decode cX5_trim 103 = .ok (.dup2, 1) := by decide +kernel
theorem dX5_trim_104 : decode cX5_trim 104 = .ok (.iaload, 1) := by decide +kernel
theorem dX5_trim_105 : decode cX5_trim 105 = .ok (.iconst 1, 1) := by decide +kernel
theorem dX5_trim_106 : decode cX5_trim 106 = .ok (.isub, 1) := by decide +kernel
theorem dX5_trim_107 : decode cX5_trim 107 = .ok (.iastore, 1) := by decide +kernel
theorem dX5_trim_108 : decode cX5_trim 108 = .ok (.aload_n 0, 1) := by decide +kernel
theorem dX5_trim_109 : decode cX5_trim 109 = .ok (.iload_n 1, 1) := by decide +kernel
theorem dX5_trim_110 : decode cX5_trim 110 = .ok (.invokevirtual 132, 3) := by decide +kernel
theorem dX5_trim_113 : decode cX5_trim 113 = .ok (.lload_n 2, 1) := by decide +kernel
theorem dX5_trim_114 : decode cX5_trim 114 = .ok (.lcmp, 1) := by decide +kernel
theorem dX5_trim_115 : decode cX5_trim 115 = .ok (.ifCond .le (-33), 3) := by decide +kernel
theorem dX5_trim_118 : decode cX5_trim 118 = .ok (.aload_n 0, 1) := by decide +kernel
theorem dX5_trim_119 : decode cX5_trim 119 = .ok (.getfield 29, 3) := by decide +kernel
theorem dX5_trim_122 : decode cX5_trim 122 = .ok (.iload 4, 2) := by decide +kernel
theorem dX5_trim_124 : decode cX5_trim 124 = .ok (.dup2, 1) := by decide +kernel
theorem dX5_trim_125 : decode cX5_trim 125 = .ok (.iaload, 1) := by decide +kernel
theorem dX5_trim_126 : decode cX5_trim 126 = .ok (.iconst 1, 1) := by decide +kernel
theorem dX5_trim_127 : decode cX5_trim 127 = .ok (.iadd, 1) := by decide +kernel
theorem dX5_trim_128 : decode cX5_trim 128 = .ok (.iastore, 1) := by decide +kernel
theorem dX5_trim_129 : decode cX5_trim 129 = .ok (.iconst 0, 1) := by decide +kernel
theorem dX5_trim_130 : decode cX5_trim 130 = .ok (.istore 5, 2) := by decide +kernel
theorem dX5_trim_132 : decode cX5_trim 132 = .ok (.goto (-50), 3) := by decide +kernel
theorem dX5_trim_135 : decode cX5_trim 135 = .ok (.iinc 4 1, 3) := by decide +kernel
theorem dX5_trim_138 : decode cX5_trim 138 = .ok (.goto (-83), 3) := by decide +kernel
theorem dX5_trim_141 : decode cX5_trim 141 = .ok (.aload_n 0, 1) := by decide +kernel
theorem dX5_trim_142 : decode cX5_trim 142 = .ok (.invokevirtual 202, 3) := by decide +kernel
theorem dX5_trim_145 : decode cX5_trim 145 = .ok (.ireturn, 1) := by decide +kernel
theorem dX5_floor_0 : decode cX5_floor 0 = .ok (.aload_n 0, 1) := by decide +kernel
theorem dX5_floor_1 : decode cX5_floor 1 = .ok (.iload_n 1, 1) := by decide +kernel
theorem dX5_floor_2 : decode cX5_floor 2 = .ok (.invokevirtual 76, 3) := by decide +kernel
theorem dX5_floor_5 : decode cX5_floor 5 = .ok (.ifCond .ne 9, 3) := by decide +kernel
theorem dX5_floor_8 : decode cX5_floor 8 = .ok (.bipush (-2), 2) := by decide +kernel
theorem dX5_floor_10 : decode cX5_floor 10 = .ok (.invokestatic 129, 3) := by decide +kernel
theorem dX5_floor_13 : decode cX5_floor 13 = .ok (.lreturn, 1) := by decide +kernel
theorem dX5_floor_14 : decode cX5_floor 14 = .ok (.aload_n 0, 1) := by decide +kernel
theorem dX5_floor_15 : decode cX5_floor 15 = .ok (.aload_n 0, 1) := by decide +kernel
theorem dX5_floor_16 : decode cX5_floor 16 = .ok (.getfield 60, 3) := by decide +kernel
theorem dX5_floor_19 : decode cX5_floor 19 = .ok (.invokevirtual 195, 3) := by decide +kernel
theorem dX5_floor_22 : decode cX5_floor 22 = .ok (.aload_n 0, 1) := by decide +kernel
theorem dX5_floor_23 : decode cX5_floor 23 = .ok (.bipush 16, 2) := by decide +kernel
theorem dX5_floor_25 : decode cX5_floor 25 = .ok (.invokevirtual 199, 3) := by decide +kernel
theorem dX5_floor_28 : decode cX5_floor 28 = .ok (.aload_n 0, 1) := by decide +kernel
theorem dX5_floor_29 : decode cX5_floor 29 = .ok (.iload_n 1, 1) := by decide +kernel
theorem dX5_floor_30 : decode cX5_floor 30 = .ok (.invokevirtual 132, 3) := by decide +kernel
theorem dX5_floor_33 : decode cX5_floor 33 = .ok (.lstore_n 2, 1) := by decide +kernel
theorem dX5_floor_34 : decode cX5_floor 34 = .ok (.aload_n 0, 1) := by decide +kernel
theorem dX5_floor_35 : decode cX5_floor 35 = .ok (.aload_n 0, 1) := by decide +kernel
theorem dX5_floor_36 : decode cX5_floor 36 = .ok (.getfield 60, 3) := by decide +kernel
theorem dX5_floor_39 : decode cX5_floor 39 = .ok (.invokevirtual 208, 3) := by decide +kernel
theorem dX5_floor_42 : decode cX5_floor 42 = .ok (.lload_n 2, 1) := by decide +kernel
theorem dX5_floor_43 : decode cX5_floor 43 = .ok (.lreturn, 1) := by decide +kernel
theorem dX5_gainOf_0 : decode cX5_gainOf 0 = .ok (.aload_n 0, 1) := by decide +kernel
theorem dX5_gainOf_1 : decode cX5_gainOf 1 = .ok (.iload_n 1, 1) := by decide +kernel
theorem dX5_gainOf_2 : decode cX5_gainOf 2 = .ok (.invokevirtual 132, 3) := by decide +kernel
theorem dX5_gainOf_5 : decode cX5_gainOf 5 = .ok (.lstore_n 3, 1) := by decide +kernel
theorem dX5_gainOf_6 : decode cX5_gainOf 6 = .ok (.aload_n 0, 1) := by decide +kernel
theorem dX5_gainOf_7 : decode cX5_gainOf 7 = .ok (.getfield 29, 3) := by decide +kernel
theorem dX5_gainOf_10 : decode cX5_gainOf 10 = .ok (.iload_n 2, 1) := by decide +kernel
theorem dX5_gainOf_11 : decode cX5_gainOf 11 = .ok (.iaload, 1) := by decide +kernel
theorem dX5_gainOf_12 : decode cX5_gainOf 12 = .ok (.istore 5, 2) := by decide +kernel
theorem dX5_gainOf_14 : decode cX5_gainOf 14 = .ok (.aload_n 0, 1) := by decide +kernel
theorem dX5_gainOf_15 : decode cX5_gainOf 15 = .ok (.getfield 29, 3) := by decide +kernel
theorem dX5_gainOf_18 : decode cX5_gainOf 18 = .ok (.iload_n 2, 1) := by decide +kernel
theorem dX5_gainOf_19 : decode cX5_gainOf 19 = .ok (.bipush 16, 2) := by decide +kernel
theorem dX5_gainOf_21 : decode cX5_gainOf 21 = .ok (.iastore, 1) := by decide +kernel
theorem dX5_gainOf_22 : decode cX5_gainOf 22 = .ok (.lload_n 3, 1) := by decide +kernel
theorem dX5_gainOf_23 : decode cX5_gainOf 23 = .ok (.aload_n 0, 1) := by decide +kernel
theorem dX5_gainOf_24 : decode cX5_gainOf 24 = .ok (.iload_n 1, 1) := by decide +kernel
theorem dX5_gainOf_25 : decode cX5_gainOf 25 = .ok (.invokevirtual 132, 3) := by decide +kernel
theorem dX5_gainOf_28 : decode cX5_gainOf 28 = .ok (.lsub, 1) := by decide +kernel
theorem dX5_gainOf_29 : decode cX5_gainOf 29 = .ok (.lstore 6, 2) := by decide +kernel
theorem dX5_gainOf_31 : decode cX5_gainOf 31 = .ok (.aload_n 0, 1) := by decide +kernel
theorem dX5_gainOf_32 : decode cX5_gainOf 32 = .ok (.getfield 29, 3) := by decide +kernel
theorem dX5_gainOf_35 : decode cX5_gainOf 35 = .ok (.iload_n 2, 1) := by decide +kernel
theorem dX5_gainOf_36 : decode cX5_gainOf 36 = .ok (.iload 5, 2) := by decide +kernel
theorem dX5_gainOf_38 : decode cX5_gainOf 38 = .ok (.iastore, 1) := by decide +kernel
theorem dX5_gainOf_39 : decode cX5_gainOf 39 = .ok (.lload 6, 2) := by decide +kernel
theorem dX5_gainOf_41 : decode cX5_gainOf 41 = .ok (.lreturn, 1) := by decide +kernel
theorem dX5_gain_0 : decode cX5_gain 0 = .ok (.aload_n 0, 1) := by decide +kernel
theorem dX5_gain_1 : decode cX5_gain 1 = .ok (.iload_n 1, 1) := by decide +kernel
theorem dX5_gain_2 : decode cX5_gain 2 = .ok (.invokevirtual 76, 3) := by decide +kernel
theorem dX5_gain_5 : decode cX5_gain 5 = .ok (.ifCond .eq 20, 3) := by decide +kernel
theorem dX5_gain_8 : decode cX5_gain 8 = .ok (.aload_n 0, 1) := by decide +kernel
theorem dX5_gain_9 : decode cX5_gain 9 = .ok (.iload_n 2, 1) := by decide +kernel
theorem dX5_gain_10 : decode cX5_gain 10 = .ok (.invokevirtual 76, 3) := by decide +kernel
theorem dX5_gain_13 : decode cX5_gain 13 = .ok (.ifCond .eq 12, 3) := by decide +kernel
theorem dX5_gain_16 : decode cX5_gain 16 = .ok (.aload_n 0, 1) := by decide +kernel
theorem dX5_gain_17 : decode cX5_gain 17 = .ok (.iload_n 1, 1) := by decide +kernel
theorem dX5_gain_18 : decode cX5_gain 18 = .ok (.iload_n 2, 1) := by decide +kernel
theorem dX5_gain_19 : decode cX5_gain 19 = .ok (.invokevirtual 211, 3) := by decide +kernel
theorem dX5_gain_22 : decode cX5_gain 22 = .ok (.goto 8, 3) := by decide +kernel
theorem dX5_gain_25 : decode cX5_gain 25 = .ok (.bipush (-2), 2) := by decide +kernel
theorem dX5_gain_27 : decode cX5_gain 27 = .ok (.invokestatic 129, 3) := by decide +kernel
theorem dX5_gain_30 : decode cX5_gain 30 = .ok (.lreturn, 1) := by decide +kernel
theorem dX5_blame_0 : decode cX5_blame 0 = .ok (.aload_n 0, 1) := by decide +kernel
theorem dX5_blame_1 : decode cX5_blame 1 = .ok (.iload_n 1, 1) := by decide +kernel
theorem dX5_blame_2 : decode cX5_blame 2 = .ok (.invokevirtual 76, 3) := by decide +kernel
theorem dX5_blame_5 : decode cX5_blame 5 = .ok (.ifCond .ne 6, 3) := by decide +kernel
theorem dX5_blame_8 : decode cX5_blame 8 = .ok (.bipush (-2), 2) := by decide +kernel
theorem dX5_blame_10 : decode cX5_blame 10 = .ok (.ireturn, 1) := by decide +kernel
theorem dX5_blame_11 : decode cX5_blame 11 = .ok (.iconst (-1), 1) := by decide +kernel
theorem dX5_blame_12 : decode cX5_blame 12 = .ok (.istore_n 2, 1) := by decide +kernel
theorem dX5_blame_13 : decode cX5_blame 13 = .ok (.lconst 0, 1) := by decide +kernel
theorem dX5_blame_14 : decode cX5_blame 14 = .ok (.lstore_n 3, 1) := by decide +kernel
theorem dX5_blame_15 : decode cX5_blame 15 = .ok (.iconst 0, 1) := by decide +kernel
theorem dX5_blame_16 : decode cX5_blame 16 = .ok (.istore 5, 2) := by decide +kernel
theorem dX5_blame_18 : decode cX5_blame 18 = .ok (.iload 5, 2) := by decide +kernel
theorem dX5_blame_20 : decode cX5_blame 20 = .ok (.aload_n 0, 1) := by decide +kernel
theorem dX5_blame_21 : decode cX5_blame 21 = .ok (.getfield 68, 3) := by decide +kernel
theorem dX5_blame_24 : decode cX5_blame 24 = .ok (.if_icmp .ge 46, 3) := by decide +kernel
theorem dX5_blame_27 : decode cX5_blame 27 = .ok (.aload_n 0, 1) := by decide +kernel
theorem dX5_blame_28 : decode cX5_blame 28 = .ok (.getfield 7, 3) := by decide +kernel
theorem dX5_blame_31 : decode cX5_blame 31 = .ok (.iload 5, 2) := by decide +kernel
theorem dX5_blame_33 : decode cX5_blame 33 = .ok (.iaload, 1) := by decide +kernel
theorem dX5_blame_34 : decode cX5_blame 34 = .ok (.iconst 1, 1) := by decide +kernel
theorem dX5_blame_35 : decode cX5_blame 35 = .ok (.if_icmp .le 13, 3) := by decide +kernel
theorem dX5_blame_38 : decode cX5_blame 38 = .ok (.aload_n 0, 1) := by decide +kernel
theorem dX5_blame_39 : decode cX5_blame 39 = .ok (.iload_n 1, 1) := by decide +kernel
theorem dX5_blame_40 : decode cX5_blame 40 = .ok (.iload 5, 2) := by decide +kernel
theorem dX5_blame_42 : decode cX5_blame 42 = .ok (.invokevirtual 211, 3) := by decide +kernel
theorem dX5_blame_45 : decode cX5_blame 45 = .ok (.goto 4, 3) := by decide +kernel
theorem dX5_blame_48 : decode cX5_blame 48 = .ok (.lconst 0, 1) := by decide +kernel
theorem dX5_blame_49 : decode cX5_blame 49 = .ok (.lstore 6, 2) := by decide +kernel
theorem dX5_blame_51 : decode cX5_blame 51 = .ok (.lload 6, 2) := by decide +kernel
theorem dX5_blame_53 : decode cX5_blame 53 = .ok (.lload_n 3, 1) := by decide +kernel
theorem dX5_blame_54 : decode cX5_blame 54 = .ok (.lcmp, 1) := by decide +kernel
theorem dX5_blame_55 : decode cX5_blame 55 = .ok (.ifCond .le 9, 3) := by decide +kernel
theorem dX5_blame_58 : decode cX5_blame 58 = .ok (.lload 6, 2) := by decide +kernel
theorem dX5_blame_60 : decode cX5_blame 60 = .ok (.lstore_n 3, 1) := by decide +kernel
theorem dX5_blame_61 : decode cX5_blame 61 = .ok (.iload 5, 2) := by decide +kernel
theorem dX5_blame_63 : decode cX5_blame 63 = .ok (.istore_n 2, 1) := by decide +kernel
theorem dX5_blame_64 : decode cX5_blame 64 = .ok (.iinc 5 1, 3) := by decide +kernel
theorem dX5_blame_67 : decode cX5_blame 67 = .ok (.goto (-49), 3) := by decide +kernel
theorem dX5_blame_70 : decode cX5_blame 70 = .ok (.iload_n 2, 1) := by decide +kernel
theorem dX5_blame_71 : decode cX5_blame 71 = .ok (.ireturn, 1) := by decide +kernel
theorem dX5_count_0 : decode cX5_count 0 = .ok (.iconst 0, 1) := by decide +kernel
theorem dX5_count_1 : decode cX5_count 1 = .ok (.istore_n 2, 1) := by decide +kernel
theorem dX5_count_2 : decode cX5_count 2 = .ok (.iconst 0, 1) := by decide +kernel
theorem dX5_count_3 : decode cX5_count 3 = .ok (.istore_n 3, 1) := by decide +kernel
theorem dX5_count_4 : decode cX5_count 4 = .ok (.iload_n 3, 1) := by decide +kernel
theorem dX5_count_5 : decode cX5_count 5 = .ok (.aload_n 0, 1) := by decide +kernel
theorem dX5_count_6 : decode cX5_count 6 = .ok (.getfield 68, 3) := by decide +kernel
theorem dX5_count_9 : decode cX5_count 9 = .ok (.if_icmp .ge 26, 3) := by decide +kernel
theorem dX5_count_12 : decode cX5_count 12 = .ok (.iload_n 2, 1) := by decide +kernel
theorem dX5_count_13 : decode cX5_count 13 = .ok (.aload_n 0, 1) := by decide +kernel
theorem dX5_count_14 : decode cX5_count 14 = .ok (.getfield 7, 3) := by decide +kernel
theorem dX5_count_17 : decode cX5_count 17 = .ok (.iload_n 3, 1) := by decide +kernel
theorem dX5_count_18 : decode cX5_count 18 = .ok (.iaload, 1) := by decide +kernel
theorem dX5_count_19 : decode cX5_count 19 = .ok (.ifCond .ne 7, 3) := by decide +kernel
theorem dX5_count_22 : decode cX5_count 22 = .ok (.iconst 1, 1) := by decide +kernel
theorem dX5_count_23 : decode cX5_count 23 = .ok (.goto 4, 3) := by decide +kernel
theorem dX5_count_26 : decode cX5_count 26 = .ok (.iconst 0, 1) := by decide +kernel
theorem dX5_count_27 : decode cX5_count 27 = .ok (.iadd, 1) := by decide +kernel
theorem dX5_count_28 : decode cX5_count 28 = .ok (.istore_n 2, 1) := by decide +kernel
theorem dX5_count_29 : decode cX5_count 29 = .ok (.iinc 3 1, 3) := by decide +kernel
theorem dX5_count_32 : decode cX5_count 32 = .ok (.goto (-28), 3) := by decide +kernel
theorem dX5_count_35 : decode cX5_count 35 = .ok (.iload_n 1, 1) := by decide +kernel
theorem dX5_count_36 : decode cX5_count 36 = .ok (.tableswitch 49 0 3 #[32, 37, 39, 44], 32) := by decide +kernel
theorem dX5_count_68 : decode cX5_count 68 = .ok (.aload_n 0, 1) := by decide +kernel
theorem dX5_count_69 : decode cX5_count 69 = .ok (.getfield 68, 3) := by decide +kernel
theorem dX5_count_72 : decode cX5_count 72 = .ok (.ireturn, 1) := by decide +kernel
theorem dX5_count_73 : decode cX5_count 73 = .ok (.iload_n 2, 1) := by decide +kernel
theorem dX5_count_74 : decode cX5_count 74 = .ok (.ireturn, 1) := by decide +kernel
theorem dX5_count_75 : decode cX5_count 75 = .ok (.aload_n 0, 1) := by decide +kernel
theorem dX5_count_76 : decode cX5_count 76 = .ok (.invokevirtual 202, 3) := by decide +kernel
theorem dX5_count_79 : decode cX5_count 79 = .ok (.ireturn, 1) := by decide +kernel
theorem dX5_count_80 : decode cX5_count 80 = .ok (.aload_n 0, 1) := by decide +kernel
theorem dX5_count_81 : decode cX5_count 81 = .ok (.invokevirtual 192, 3) := by decide +kernel
theorem dX5_count_84 : decode cX5_count 84 = .ok (.ireturn, 1) := by decide +kernel
theorem dX5_count_85 : decode cX5_count 85 = .ok (.bipush (-2), 2) := by decide +kernel
theorem dX5_count_87 : decode cX5_count 87 = .ok (.ireturn, 1) := by decide +kernel
theorem dX5_digest_0 : decode cX5_digest 0 = .ok (.ldc2_w 215, 3) := by decide +kernel
theorem dX5_digest_3 : decode cX5_digest 3 = .ok (.lstore_n 1, 1) := by decide +kernel
theorem dX5_digest_4 : decode cX5_digest 4 = .ok (.iconst 0, 1) := by decide +kernel
theorem dX5_digest_5 : decode cX5_digest 5 = .ok (.istore_n 3, 1) := by decide +kernel
theorem dX5_digest_6 : decode cX5_digest 6 = .ok (.iload_n 3, 1) := by decide +kernel
theorem dX5_digest_7 : decode cX5_digest 7 = .ok (.iconst 4, 1) := by decide +kernel
theorem dX5_digest_8 : decode cX5_digest 8 = .ok (.if_icmp .ge 22, 3) := by decide +kernel
theorem dX5_digest_11 : decode cX5_digest 11 = .ok (.ldc2_w 217, 3) := by decide +kernel
theorem dX5_digest_14 : decode cX5_digest 14 = .ok (.lload_n 1, 1) := by decide +kernel
theorem dX5_digest_15 : decode cX5_digest 15 = .ok (.lmul, 1) := by decide +kernel
theorem dX5_digest_16 : decode cX5_digest 16 = .ok (.aload_n 0, 1) := by decide +kernel
theorem dX5_digest_17 : decode cX5_digest 17 = .ok (.iload_n 3, 1) := by decide +kernel
theorem dX5_digest_18 : decode cX5_digest 18 = .ok (.invokevirtual 219, 3) := by decide +kernel
theorem dX5_digest_21 : decode cX5_digest 21 = .ok (.i2l, 1) := by decide +kernel
theorem dX5_digest_22 : decode cX5_digest 22 = .ok (.ladd, 1) := by decide +kernel
theorem dX5_digest_23 : decode cX5_digest 23 = .ok (.lstore_n 1, 1) := by decide +kernel
theorem dX5_digest_24 : decode cX5_digest 24 = .ok (.iinc 3 1, 3) := by decide +kernel
theorem dX5_digest_27 : decode cX5_digest 27 = .ok (.goto (-21), 3) := by decide +kernel
theorem dX5_digest_30 : decode cX5_digest 30 = .ok (.iconst 0, 1) := by decide +kernel
theorem dX5_digest_31 : decode cX5_digest 31 = .ok (.istore_n 3, 1) := by decide +kernel
theorem dX5_digest_32 : decode cX5_digest 32 = .ok (.iload_n 3, 1) := by decide +kernel
theorem dX5_digest_33 : decode cX5_digest 33 = .ok (.aload_n 0, 1) := by decide +kernel
theorem dX5_digest_34 : decode cX5_digest 34 = .ok (.getfield 68, 3) := by decide +kernel
theorem dX5_digest_37 : decode cX5_digest 37 = .ok (.if_icmp .ge 63, 3) := by decide +kernel
theorem dX5_digest_40 : decode cX5_digest 40 = .ok (.iconst 0, 1) := by decide +kernel
theorem dX5_digest_41 : decode cX5_digest 41 = .ok (.istore 4, 2) := by decide +kernel
theorem dX5_digest_43 : decode cX5_digest 43 = .ok (.iload 4, 2) := by decide +kernel
theorem dX5_digest_45 : decode cX5_digest 45 = .ok (.bipush 10, 2) := by decide +kernel
theorem dX5_digest_47 : decode cX5_digest 47 = .ok (.if_icmp .ge 23, 3) := by decide +kernel
theorem dX5_digest_50 : decode cX5_digest 50 = .ok (.ldc2_w 217, 3) := by decide +kernel
theorem dX5_digest_53 : decode cX5_digest 53 = .ok (.lload_n 1, 1) := by decide +kernel
theorem dX5_digest_54 : decode cX5_digest 54 = .ok (.lmul, 1) := by decide +kernel
theorem dX5_digest_55 : decode cX5_digest 55 = .ok (.aload_n 0, 1) := by decide +kernel
theorem dX5_digest_56 : decode cX5_digest 56 = .ok (.iload_n 3, 1) := by decide +kernel
theorem dX5_digest_57 : decode cX5_digest 57 = .ok (.iload 4, 2) := by decide +kernel
theorem dX5_digest_59 : decode cX5_digest 59 = .ok (.invokevirtual 223, 3) := by decide +kernel
theorem dX5_digest_62 : decode cX5_digest 62 = .ok (.ladd, 1) := by decide +kernel
theorem dX5_digest_63 : decode cX5_digest 63 = .ok (.lstore_n 1, 1) := by decide +kernel
theorem dX5_digest_64 : decode cX5_digest 64 = .ok (.iinc 4 1, 3) := by decide +kernel
theorem dX5_digest_67 : decode cX5_digest 67 = .ok (.goto (-24), 3) := by decide +kernel
theorem dX5_digest_70 : decode cX5_digest 70 = .ok (.ldc2_w 217, 3) := by decide +kernel
theorem dX5_digest_73 : decode cX5_digest 73 = .ok (.lload_n 1, 1) := by decide +kernel
theorem dX5_digest_74 : decode cX5_digest 74 = .ok (.lmul, 1) := by decide +kernel
theorem dX5_digest_75 : decode cX5_digest 75 = .ok (.aload_n 0, 1) := by decide +kernel
theorem dX5_digest_76 : decode cX5_digest 76 = .ok (.iload_n 3, 1) := by decide +kernel
theorem dX5_digest_77 : decode cX5_digest 77 = .ok (.invokevirtual 226, 3) := by decide +kernel
theorem dX5_digest_80 : decode cX5_digest 80 = .ok (.ladd, 1) := by decide +kernel
theorem dX5_digest_81 : decode cX5_digest 81 = .ok (.lstore_n 1, 1) := by decide +kernel
theorem dX5_digest_82 : decode cX5_digest 82 = .ok (.ldc2_w 217, 3) := by decide +kernel
theorem dX5_digest_85 : decode cX5_digest 85 = .ok (.lload_n 1, 1) := by decide +kernel
theorem dX5_digest_86 : decode cX5_digest 86 = .ok (.lmul, 1) := by decide +kernel
theorem dX5_digest_87 : decode cX5_digest 87 = .ok (.aload_n 0, 1) := by decide +kernel
theorem dX5_digest_88 : decode cX5_digest 88 = .ok (.iload_n 3, 1) := by decide +kernel
theorem dX5_digest_89 : decode cX5_digest 89 = .ok (.invokevirtual 229, 3) := by decide +kernel
theorem dX5_digest_92 : decode cX5_digest 92 = .ok (.ladd, 1) := by decide +kernel
theorem dX5_digest_93 : decode cX5_digest 93 = .ok (.lstore_n 1, 1) := by decide +kernel
theorem dX5_digest_94 : decode cX5_digest 94 = .ok (.iinc 3 1, 3) := by decide +kernel
theorem dX5_digest_97 : decode cX5_digest 97 = .ok (.goto (-65), 3) := by decide +kernel
theorem dX5_digest_100 : decode cX5_digest 100 = .ok (.lload_n 1, 1) := by decide +kernel
theorem dX5_digest_101 : decode cX5_digest 101 = .ok (.lreturn, 1) := by decide +kernel
theorem dJ9_abs_067f4_0 : decode cJ9_abs_067f4 0 = .ok (.lload_n 0, 1) := by decide +kernel
theorem dJ9_abs_067f4_1 : decode cJ9_abs_067f4 1 = .ok (.lconst 0, 1) := by decide +kernel
theorem dJ9_abs_067f4_2 : decode cJ9_abs_067f4 2 = .ok (.lcmp, 1) := by decide +kernel
theorem dJ9_abs_067f4_3 : decode cJ9_abs_067f4 3 = .ok (.ifCond .ge 8, 3) := by decide +kernel
theorem dJ9_abs_067f4_6 : decode cJ9_abs_067f4 6 = .ok (.lload_n 0, 1) := by decide +kernel
theorem dJ9_abs_067f4_7 : decode cJ9_abs_067f4 7 = .ok (.lneg, 1) := by decide +kernel
theorem dJ9_abs_067f4_8 : decode cJ9_abs_067f4 8 = .ok (.goto 4, 3) := by decide +kernel
theorem dJ9_abs_067f4_11 : decode cJ9_abs_067f4 11 = .ok (.lload_n 0, 1) := by decide +kernel
theorem dJ9_abs_067f4_12 : decode cJ9_abs_067f4 12 = .ok (.lreturn, 1) := by decide +kernel
theorem dJ9_max_7cf53_0 : decode cJ9_max_7cf53 0 = .ok (.iload_n 0, 1) := by decide +kernel
theorem dJ9_max_7cf53_1 : decode cJ9_max_7cf53 1 = .ok (.iload_n 1, 1) := by decide +kernel
theorem dJ9_max_7cf53_2 : decode cJ9_max_7cf53 2 = .ok (.if_icmp .lt 7, 3) := by decide +kernel
theorem dJ9_max_7cf53_5 : decode cJ9_max_7cf53 5 = .ok (.iload_n 0, 1) := by decide +kernel
theorem dJ9_max_7cf53_6 : decode cJ9_max_7cf53 6 = .ok (.goto 4, 3) := by decide +kernel
theorem dJ9_max_7cf53_9 : decode cJ9_max_7cf53 9 = .ok (.iload_n 1, 1) := by decide +kernel
theorem dJ9_max_7cf53_10 : decode cJ9_max_7cf53 10 = .ok (.ireturn, 1) := by decide +kernel
theorem dJ9_max_f86c9_0 : decode cJ9_max_f86c9 0 = .ok (.lload_n 0, 1) := by decide +kernel
theorem dJ9_max_f86c9_1 : decode cJ9_max_f86c9 1 = .ok (.lload_n 2, 1) := by decide +kernel
theorem dJ9_max_f86c9_2 : decode cJ9_max_f86c9 2 = .ok (.lcmp, 1) := by decide +kernel
theorem dJ9_max_f86c9_3 : decode cJ9_max_f86c9 3 = .ok (.ifCond .lt 7, 3) := by decide +kernel
theorem dJ9_max_f86c9_6 : decode cJ9_max_f86c9 6 = .ok (.lload_n 0, 1) := by decide +kernel
theorem dJ9_max_f86c9_7 : decode cJ9_max_f86c9 7 = .ok (.goto 4, 3) := by decide +kernel
theorem dJ9_max_f86c9_10 : decode cJ9_max_f86c9 10 = .ok (.lload_n 2, 1) := by decide +kernel
theorem dJ9_max_f86c9_11 : decode cJ9_max_f86c9 11 = .ok (.lreturn, 1) := by decide +kernel
theorem dJ9_min_f86c9_0 : decode cJ9_min_f86c9 0 = .ok (.lload_n 0, 1) := by decide +kernel
theorem dJ9_min_f86c9_1 : decode cJ9_min_f86c9 1 = .ok (.lload_n 2, 1) := by decide +kernel
theorem dJ9_min_f86c9_2 : decode cJ9_min_f86c9 2 = .ok (.lcmp, 1) := by decide +kernel
theorem dJ9_min_f86c9_3 : decode cJ9_min_f86c9 3 = .ok (.ifCond .gt 7, 3) := by decide +kernel
theorem dJ9_min_f86c9_6 : decode cJ9_min_f86c9 6 = .ok (.lload_n 0, 1) := by decide +kernel
theorem dJ9_min_f86c9_7 : decode cJ9_min_f86c9 7 = .ok (.goto 4, 3) := by decide +kernel
theorem dJ9_min_f86c9_10 : decode cJ9_min_f86c9 10 = .ok (.lload_n 2, 1) := by decide +kernel
theorem dJ9_min_f86c9_11 : decode cJ9_min_f86c9 11 = .ok (.lreturn, 1) := by decide +kernel
theorem dL_law_0 : decode cL_law 0 = .ok (.new 7, 3) := by decide +kernel
theorem dL_law_3 : decode cL_law 3 = .ok (.dup, 1) := by decide +kernel
theorem dL_law_4 : decode cL_law 4 = .ok (.invokespecial 9, 3) := by decide +kernel
theorem dL_law_7 : decode cL_law 7 = .ok (.astore_n 1, 1) := by decide +kernel
theorem dL_law_8 : decode cL_law 8 = .ok (.new 10, 3) := by decide +kernel
theorem dL_law_11 : decode cL_law 11 = .ok (.dup, 1) := by decide +kernel
theorem dL_law_12 : decode cL_law 12 = .ok (.invokespecial 12, 3) := by decide +kernel
theorem dL_law_15 : decode cL_law 15 = .ok (.astore_n 2, 1) := by decide +kernel
theorem dL_law_16 : decode cL_law 16 = .ok (.iconst 0, 1) := by decide +kernel
theorem dL_law_17 : decode cL_law 17 = .ok (.istore_n 3, 1) := by decide +kernel
theorem dL_law_18 : decode cL_law 18 = .ok (.iload_n 3, 1) := by decide +kernel
theorem dL_law_19 : decode cL_law 19 = .ok (.aload_n 0, 1) := by decide +kernel
theorem dL_law_20 : decode cL_law 20 = .ok (.arraylength, 1) := by decide +kernel
theorem dL_law_21 : decode cL_law 21 = .ok (.iconst 4, 1) := by decide +kernel
theorem dL_law_22 : decode cL_law 22 = .ok (.isub, 1) := by decide +kernel
theorem dL_law_23 : decode cL_law 23 = .ok (.if_icmp .gt 1026, 3) := by decide +kernel
theorem dL_law_26 : decode cL_law 26 = .ok (.aload_n 0, 1) := by decide +kernel
theorem dL_law_27 : decode cL_law 27 = .ok (.iload_n 3, 1) := by decide +kernel
theorem dL_law_28 : decode cL_law 28 = .ok (.iaload, 1) := by decide +kernel
theorem dL_law_29 : decode cL_law 29 = .ok (.bipush 31, 2) := by decide +kernel
theorem dL_law_31 : decode cL_law 31 = .ok (.iand, 1) := by decide +kernel
theorem dL_law_32 : decode cL_law 32 = .ok (.tableswitch 1011 0 26 #[124, 157, 180, 223, 246, 279, 312, 345, 379, 392, 425, 468, 492, 516, 540, 591, 644, 657, 681, 704, 767, 830, 893, 917, 951, 974, 997], 124) := by decide +kernel
theorem dL_law_156 : decode cL_law 156 = .ok (.aload_n 1, 1) := by decide +kernel
theorem dL_law_157 : decode cL_law 157 = .ok (.aload_n 0, 1) := by decide +kernel
theorem dL_law_158 : decode cL_law 158 = .ok (.iload_n 3, 1) := by decide +kernel
theorem dL_law_159 : decode cL_law 159 = .ok (.iconst 1, 1) := by decide +kernel
theorem dL_law_160 : decode cL_law 160 = .ok (.iadd, 1) := by decide +kernel
theorem dL_law_161 : decode cL_law 161 = .ok (.iaload, 1) := by decide +kernel
theorem dL_law_162 : decode cL_law 162 = .ok (.aload_n 0, 1) := by decide +kernel
theorem dL_law_163 : decode cL_law 163 = .ok (.iload_n 3, 1) := by decide +kernel
theorem dL_law_164 : decode cL_law 164 = .ok (.iconst 2, 1) := by decide +kernel
theorem dL_law_165 : decode cL_law 165 = .ok (.iadd, 1) := by decide +kernel
theorem dL_law_166 : decode cL_law 166 = .ok (.iaload, 1) := by decide +kernel
theorem dL_law_167 : decode cL_law 167 = .ok (.invokevirtual 13, 3) := by decide +kernel
theorem dL_law_170 : decode cL_law 170 = .ok (.aload_n 2, 1) := by decide +kernel
theorem dL_law_171 : decode cL_law 171 = .ok (.aload_n 0, 1) := by decide +kernel
theorem dL_law_172 : decode cL_law 172 = .ok (.iload_n 3, 1) := by decide +kernel
theorem dL_law_173 : decode cL_law 173 = .ok (.iconst 1, 1) := by decide +kernel
theorem dL_law_174 : decode cL_law 174 = .ok (.iadd, 1) := by decide +kernel
theorem dL_law_175 : decode cL_law 175 = .ok (.iaload, 1) := by decide +kernel
theorem dL_law_176 : decode cL_law 176 = .ok (.aload_n 0, 1) := by decide +kernel
theorem dL_law_177 : decode cL_law 177 = .ok (.iload_n 3, 1) := by decide +kernel
theorem dL_law_178 : decode cL_law 178 = .ok (.iconst 2, 1) := by decide +kernel
theorem dL_law_179 : decode cL_law 179 = .ok (.iadd, 1) := by decide +kernel
theorem dL_law_180 : decode cL_law 180 = .ok (.iaload, 1) := by decide +kernel
theorem dL_law_181 : decode cL_law 181 = .ok (.invokevirtual 17, 3) := by decide +kernel
theorem dL_law_184 : decode cL_law 184 = .ok (.if_icmp .eq 859, 3) := by decide +kernel
theorem dL_law_187 : decode cL_law 187 = .ok (.iconst 0, 1) := by decide +kernel
theorem dL_law_188 : decode cL_law 188 = .ok (.ireturn, 1) := by decide +kernel
theorem dL_law_189 : decode cL_law 189 = .ok (.aload_n 1, 1) := by decide +kernel
theorem dL_law_190 : decode cL_law 190 = .ok (.aload_n 0, 1) := by decide +kernel
theorem dL_law_191 : decode cL_law 191 = .ok (.iload_n 3, 1) := by decide +kernel
theorem dL_law_192 : decode cL_law 192 = .ok (.iconst 1, 1) := by decide +kernel
theorem dL_law_193 : decode cL_law 193 = .ok (.iadd, 1) := by decide +kernel
theorem dL_law_194 : decode cL_law 194 = .ok (.iaload, 1) := by decide +kernel
theorem dL_law_195 : decode cL_law 195 = .ok (.invokevirtual 18, 3) := by decide +kernel
theorem dL_law_198 : decode cL_law 198 = .ok (.aload_n 2, 1) := by decide +kernel
theorem dL_law_199 : decode cL_law 199 = .ok (.aload_n 0, 1) := by decide +kernel
theorem dL_law_200 : decode cL_law 200 = .ok (.iload_n 3, 1) := by decide +kernel
theorem dL_law_201 : decode cL_law 201 = .ok (.iconst 1, 1) := by decide +kernel
theorem dL_law_202 : decode cL_law 202 = .ok (.iadd, 1) := by decide +kernel
theorem dL_law_203 : decode cL_law 203 = .ok (.iaload, 1) := by decide +kernel
theorem dL_law_204 : decode cL_law 204 = .ok (.invokevirtual 22, 3) := by decide +kernel
theorem dL_law_207 : decode cL_law 207 = .ok (.if_icmp .eq 836, 3) := by decide +kernel
theorem dL_law_210 : decode cL_law 210 = .ok (.iconst 0, 1) := by decide +kernel
theorem dL_law_211 : decode cL_law 211 = .ok (.ireturn, 1) := by decide +kernel
theorem dL_law_212 : decode cL_law 212 = .ok (.aload_n 1, 1) := by decide +kernel
theorem dL_law_213 : decode cL_law 213 = .ok (.aload_n 0, 1) := by decide +kernel
theorem dL_law_214 : decode cL_law 214 = .ok (.iload_n 3, 1) := by decide +kernel
theorem dL_law_215 : decode cL_law 215 = .ok (.iconst 1, 1) := by decide +kernel
theorem dL_law_216 : decode cL_law 216 = .ok (.iadd, 1) := by decide +kernel
theorem dL_law_217 : decode cL_law 217 = .ok (.iaload, 1) := by decide +kernel
theorem dL_law_218 : decode cL_law 218 = .ok (.aload_n 0, 1) := by decide +kernel
theorem dL_law_219 : decode cL_law 219 = .ok (.iload_n 3, 1) := by decide +kernel
theorem dL_law_220 : decode cL_law 220 = .ok (.iconst 2, 1) := by decide +kernel
theorem dL_law_221 : decode cL_law 221 = .ok (.iadd, 1) := by decide +kernel
theorem dL_law_222 : decode cL_law 222 = .ok (.iaload, 1) := by decide +kernel
theorem dL_law_223 : decode cL_law 223 = .ok (.aload_n 0, 1) := by decide +kernel
theorem dL_law_224 : decode cL_law 224 = .ok (.iload_n 3, 1) := by decide +kernel
theorem dL_law_225 : decode cL_law 225 = .ok (.iconst 3, 1) := by decide +kernel
theorem dL_law_226 : decode cL_law 226 = .ok (.iadd, 1) := by decide +kernel
theorem dL_law_227 : decode cL_law 227 = .ok (.iaload, 1) := by decide +kernel
theorem dL_law_228 : decode cL_law 228 = .ok (.invokevirtual 23, 3) := by decide +kernel
theorem dL_law_231 : decode cL_law 231 = .ok (.aload_n 2, 1) := by decide +kernel
theorem dL_law_232 : decode cL_law 232 = .ok (.aload_n 0, 1) := by decide +kernel
theorem dL_law_233 : decode cL_law 233 = .ok (.iload_n 3, 1) := by decide +kernel
theorem dL_law_234 : decode cL_law 234 = .ok (.iconst 1, 1) := by decide +kernel
theorem dL_law_235 : decode cL_law 235 = .ok (.iadd, 1) := by decide +kernel
theorem dL_law_236 : decode cL_law 236 = .ok (.iaload, 1) := by decide +kernel
theorem dL_law_237 : decode cL_law 237 = .ok (.aload_n 0, 1) := by decide +kernel
theorem dL_law_238 : decode cL_law 238 = .ok (.iload_n 3, 1) := by decide +kernel
theorem dL_law_239 : decode cL_law 239 = .ok (.iconst 2, 1) := by decide +kernel
theorem dL_law_240 : decode cL_law 240 = .ok (.iadd, 1) := by decide +kernel
theorem dL_law_241 : decode cL_law 241 = .ok (.iaload, 1) := by decide +kernel
theorem dL_law_242 : decode cL_law 242 = .ok (.aload_n 0, 1) := by decide +kernel
theorem dL_law_243 : decode cL_law 243 = .ok (.iload_n 3, 1) := by decide +kernel
theorem dL_law_244 : decode cL_law 244 = .ok (.iconst 3, 1) := by decide +kernel
theorem dL_law_245 : decode cL_law 245 = .ok (.iadd, 1) := by decide +kernel
theorem dL_law_246 : decode cL_law 246 = .ok (.iaload, 1) := by decide +kernel
theorem dL_law_247 : decode cL_law 247 = .ok (.invokevirtual 27, 3) := by decide +kernel
theorem dL_law_250 : decode cL_law 250 = .ok (.if_icmp .eq 793, 3) := by decide +kernel
theorem dL_law_253 : decode cL_law 253 = .ok (.iconst 0, 1) := by decide +kernel
theorem dL_law_254 : decode cL_law 254 = .ok (.ireturn, 1) := by decide +kernel
theorem dL_law_255 : decode cL_law 255 = .ok (.aload_n 1, 1) := by decide +kernel
theorem dL_law_256 : decode cL_law 256 = .ok (.aload_n 0, 1) := by decide +kernel
theorem dL_law_257 : decode cL_law 257 = .ok (.iload_n 3, 1) := by decide +kernel
theorem dL_law_258 : decode cL_law 258 = .ok (.iconst 1, 1) := by decide +kernel
theorem dL_law_259 : decode cL_law 259 = .ok (.iadd, 1) := by decide +kernel
theorem dL_law_260 : decode cL_law 260 = .ok (.iaload, 1) := by decide +kernel
theorem dL_law_261 : decode cL_law 261 = .ok (.invokevirtual 28, 3) := by decide +kernel
theorem dL_law_264 : decode cL_law 264 = .ok (.aload_n 2, 1) := by decide +kernel
theorem dL_law_265 : decode cL_law 265 = .ok (.aload_n 0, 1) := by decide +kernel
theorem dL_law_266 : decode cL_law 266 = .ok (.iload_n 3, 1) := by decide +kernel
theorem dL_law_267 : decode cL_law 267 = .ok (.iconst 1, 1) := by decide +kernel
theorem dL_law_268 : decode cL_law 268 = .ok (.iadd, 1) := by decide +kernel
theorem dL_law_269 : decode cL_law 269 = .ok (.iaload, 1) := by decide +kernel
theorem dL_law_270 : decode cL_law 270 = .ok (.invokevirtual 31, 3) := by decide +kernel
theorem dL_law_273 : decode cL_law 273 = .ok (.if_icmp .eq 770, 3) := by decide +kernel
theorem dL_law_276 : decode cL_law 276 = .ok (.iconst 0, 1) := by decide +kernel
theorem dL_law_277 : decode cL_law 277 = .ok (.ireturn, 1) := by decide +kernel
theorem dL_law_278 : decode cL_law 278 = .ok (.aload_n 1, 1) := by decide +kernel
theorem dL_law_279 : decode cL_law 279 = .ok (.aload_n 0, 1) := by decide +kernel
theorem dL_law_280 : decode cL_law 280 = .ok (.iload_n 3, 1) := by decide +kernel
theorem dL_law_281 : decode cL_law 281 = .ok (.iconst 1, 1) := by decide +kernel
theorem dL_law_282 : decode cL_law 282 = .ok (.iadd, 1) := by decide +kernel
theorem dL_law_283 : decode cL_law 283 = .ok (.iaload, 1) := by decide +kernel
theorem dL_law_284 : decode cL_law 284 = .ok (.aload_n 0, 1) := by decide +kernel
theorem dL_law_285 : decode cL_law 285 = .ok (.iload_n 3, 1) := by decide +kernel
theorem dL_law_286 : decode cL_law 286 = .ok (.iconst 2, 1) := by decide +kernel
theorem dL_law_287 : decode cL_law 287 = .ok (.iadd, 1) := by decide +kernel
theorem dL_law_288 : decode cL_law 288 = .ok (.iaload, 1) := by decide +kernel
theorem dL_law_289 : decode cL_law 289 = .ok (.invokevirtual 32, 3) := by decide +kernel
theorem dL_law_292 : decode cL_law 292 = .ok (.aload_n 2, 1) := by decide +kernel
theorem dL_law_293 : decode cL_law 293 = .ok (.aload_n 0, 1) := by decide +kernel
theorem dL_law_294 : decode cL_law 294 = .ok (.iload_n 3, 1) := by decide +kernel
theorem dL_law_295 : decode cL_law 295 = .ok (.iconst 1, 1) := by decide +kernel
theorem dL_law_296 : decode cL_law 296 = .ok (.iadd, 1) := by decide +kernel
theorem dL_law_297 : decode cL_law 297 = .ok (.iaload, 1) := by decide +kernel
theorem dL_law_298 : decode cL_law 298 = .ok (.aload_n 0, 1) := by decide +kernel
theorem dL_law_299 : decode cL_law 299 = .ok (.iload_n 3, 1) := by decide +kernel
theorem dL_law_300 : decode cL_law 300 = .ok (.iconst 2, 1) := by decide +kernel
theorem dL_law_301 : decode cL_law 301 = .ok (.iadd, 1) := by decide +kernel
theorem dL_law_302 : decode cL_law 302 = .ok (.iaload, 1) := by decide +kernel
theorem dL_law_303 : decode cL_law 303 = .ok (.invokevirtual 35, 3) := by decide +kernel
theorem dL_law_306 : decode cL_law 306 = .ok (.if_icmp .eq 737, 3) := by decide +kernel
theorem dL_law_309 : decode cL_law 309 = .ok (.iconst 0, 1) := by decide +kernel
theorem dL_law_310 : decode cL_law 310 = .ok (.ireturn, 1) := by decide +kernel
theorem dL_law_311 : decode cL_law 311 = .ok (.aload_n 1, 1) := by decide +kernel
theorem dL_law_312 : decode cL_law 312 = .ok (.aload_n 0, 1) := by decide +kernel
theorem dL_law_313 : decode cL_law 313 = .ok (.iload_n 3, 1) := by decide +kernel
theorem dL_law_314 : decode cL_law 314 = .ok (.iconst 1, 1) := by decide +kernel
theorem dL_law_315 : decode cL_law 315 = .ok (.iadd, 1) := by decide +kernel
theorem dL_law_316 : decode cL_law 316 = .ok (.iaload, 1) := by decide +kernel
theorem dL_law_317 : decode cL_law 317 = .ok (.aload_n 0, 1) := by decide +kernel
theorem dL_law_318 : decode cL_law 318 = .ok (.iload_n 3, 1) := by decide +kernel
theorem dL_law_319 : decode cL_law 319 = .ok (.iconst 2, 1) := by decide +kernel
theorem dL_law_320 : decode cL_law 320 = .ok (.iadd, 1) := by decide +kernel
theorem dL_law_321 : decode cL_law 321 = .ok (.iaload, 1) := by decide +kernel
theorem dL_law_322 : decode cL_law 322 = .ok (.invokevirtual 36, 3) := by decide +kernel
theorem dL_law_325 : decode cL_law 325 = .ok (.aload_n 2, 1) := by decide +kernel
theorem dL_law_326 : decode cL_law 326 = .ok (.aload_n 0, 1) := by decide +kernel
theorem dL_law_327 : decode cL_law 327 = .ok (.iload_n 3, 1) := by decide +kernel
theorem dL_law_328 : decode cL_law 328 = .ok (.iconst 1, 1) := by decide +kernel
theorem dL_law_329 : decode cL_law 329 = .ok (.iadd, 1) := by decide +kernel
theorem dL_law_330 : decode cL_law 330 = .ok (.iaload, 1) := by decide +kernel
theorem dL_law_331 : decode cL_law 331 = .ok (.aload_n 0, 1) := by decide +kernel
theorem dL_law_332 : decode cL_law 332 = .ok (.iload_n 3, 1) := by decide +kernel
theorem dL_law_333 : decode cL_law 333 = .ok (.iconst 2, 1) := by decide +kernel
theorem dL_law_334 : decode cL_law 334 = .ok (.iadd, 1) := by decide +kernel
theorem dL_law_335 : decode cL_law 335 = .ok (.iaload, 1) := by decide +kernel
theorem dL_law_336 : decode cL_law 336 = .ok (.invokevirtual 39, 3) := by decide +kernel
theorem dL_law_339 : decode cL_law 339 = .ok (.if_icmp .eq 704, 3) := by decide +kernel
theorem dL_law_342 : decode cL_law 342 = .ok (.iconst 0, 1) := by decide +kernel
theorem dL_law_343 : decode cL_law 343 = .ok (.ireturn, 1) := by decide +kernel
theorem dL_law_344 : decode cL_law 344 = .ok (.aload_n 1, 1) := by decide +kernel
theorem dL_law_345 : decode cL_law 345 = .ok (.aload_n 0, 1) := by decide +kernel
theorem dL_law_346 : decode cL_law 346 = .ok (.iload_n 3, 1) := by decide +kernel
theorem dL_law_347 : decode cL_law 347 = .ok (.iconst 1, 1) := by decide +kernel
theorem dL_law_348 : decode cL_law 348 = .ok (.iadd, 1) := by decide +kernel
theorem dL_law_349 : decode cL_law 349 = .ok (.iaload, 1) := by decide +kernel
theorem dL_law_350 : decode cL_law 350 = .ok (.aload_n 0, 1) := by decide +kernel
theorem dL_law_351 : decode cL_law 351 = .ok (.iload_n 3, 1) := by decide +kernel
theorem dL_law_352 : decode cL_law 352 = .ok (.iconst 2, 1) := by decide +kernel
theorem dL_law_353 : decode cL_law 353 = .ok (.iadd, 1) := by decide +kernel
theorem dL_law_354 : decode cL_law 354 = .ok (.iaload, 1) := by decide +kernel
theorem dL_law_355 : decode cL_law 355 = .ok (.invokevirtual 40, 3) := by decide +kernel
theorem dL_law_358 : decode cL_law 358 = .ok (.aload_n 2, 1) := by decide +kernel
theorem dL_law_359 : decode cL_law 359 = .ok (.aload_n 0, 1) := by decide +kernel
theorem dL_law_360 : decode cL_law 360 = .ok (.iload_n 3, 1) := by decide +kernel
theorem dL_law_361 : decode cL_law 361 = .ok (.iconst 1, 1) := by decide +kernel
theorem dL_law_362 : decode cL_law 362 = .ok (.iadd, 1) := by decide +kernel
theorem dL_law_363 : decode cL_law 363 = .ok (.iaload, 1) := by decide +kernel
theorem dL_law_364 : decode cL_law 364 = .ok (.aload_n 0, 1) := by decide +kernel
theorem dL_law_365 : decode cL_law 365 = .ok (.iload_n 3, 1) := by decide +kernel
theorem dL_law_366 : decode cL_law 366 = .ok (.iconst 2, 1) := by decide +kernel
theorem dL_law_367 : decode cL_law 367 = .ok (.iadd, 1) := by decide +kernel
theorem dL_law_368 : decode cL_law 368 = .ok (.iaload, 1) := by decide +kernel
theorem dL_law_369 : decode cL_law 369 = .ok (.invokevirtual 43, 3) := by decide +kernel
theorem dL_law_372 : decode cL_law 372 = .ok (.if_icmp .eq 671, 3) := by decide +kernel
theorem dL_law_375 : decode cL_law 375 = .ok (.iconst 0, 1) := by decide +kernel
theorem dL_law_376 : decode cL_law 376 = .ok (.ireturn, 1) := by decide +kernel
theorem dL_law_377 : decode cL_law 377 = .ok (.aload_n 1, 1) := by decide +kernel
theorem dL_law_378 : decode cL_law 378 = .ok (.aload_n 0, 1) := by decide +kernel
theorem dL_law_379 : decode cL_law 379 = .ok (.iload_n 3, 1) := by decide +kernel
theorem dL_law_380 : decode cL_law 380 = .ok (.iconst 1, 1) := by decide +kernel
theorem dL_law_381 : decode cL_law 381 = .ok (.iadd, 1) := by decide +kernel
theorem dL_law_382 : decode cL_law 382 = .ok (.iaload, 1) := by decide +kernel
theorem dL_law_383 : decode cL_law 383 = .ok (.aload_n 0, 1) := by decide +kernel
theorem dL_law_384 : decode cL_law 384 = .ok (.iload_n 3, 1) := by decide +kernel
theorem dL_law_385 : decode cL_law 385 = .ok (.iconst 2, 1) := by decide +kernel
theorem dL_law_386 : decode cL_law 386 = .ok (.iadd, 1) := by decide +kernel
theorem dL_law_387 : decode cL_law 387 = .ok (.iaload, 1) := by decide +kernel
theorem dL_law_388 : decode cL_law 388 = .ok (.invokevirtual 44, 3) := by decide +kernel
theorem dL_law_391 : decode cL_law 391 = .ok (.aload_n 2, 1) := by decide +kernel
theorem dL_law_392 : decode cL_law 392 = .ok (.aload_n 0, 1) := by decide +kernel
theorem dL_law_393 : decode cL_law 393 = .ok (.iload_n 3, 1) := by decide +kernel
theorem dL_law_394 : decode cL_law 394 = .ok (.iconst 1, 1) := by decide +kernel
theorem dL_law_395 : decode cL_law 395 = .ok (.iadd, 1) := by decide +kernel
theorem dL_law_396 : decode cL_law 396 = .ok (.iaload, 1) := by decide +kernel
theorem dL_law_397 : decode cL_law 397 = .ok (.aload_n 0, 1) := by decide +kernel
theorem dL_law_398 : decode cL_law 398 = .ok (.iload_n 3, 1) := by decide +kernel
theorem dL_law_399 : decode cL_law 399 = .ok (.iconst 2, 1) := by decide +kernel
theorem dL_law_400 : decode cL_law 400 = .ok (.iadd, 1) := by decide +kernel
theorem dL_law_401 : decode cL_law 401 = .ok (.iaload, 1) := by decide +kernel
theorem dL_law_402 : decode cL_law 402 = .ok (.invokevirtual 48, 3) := by decide +kernel
theorem dL_law_405 : decode cL_law 405 = .ok (.lcmp, 1) := by decide +kernel
theorem dL_law_406 : decode cL_law 406 = .ok (.ifCond .eq 637, 3) := by decide +kernel
theorem dL_law_409 : decode cL_law 409 = .ok (.iconst 0, 1) := by decide +kernel
theorem dL_law_410 : decode cL_law 410 = .ok (.ireturn, 1) := by decide +kernel
theorem dL_law_411 : decode cL_law 411 = .ok (.aload_n 1, 1) := by decide +kernel
theorem dL_law_412 : decode cL_law 412 = .ok (.invokevirtual 49, 3) := by decide +kernel
theorem dL_law_415 : decode cL_law 415 = .ok (.aload_n 2, 1) := by decide +kernel
theorem dL_law_416 : decode cL_law 416 = .ok (.invokevirtual 53, 3) := by decide +kernel
theorem dL_law_419 : decode cL_law 419 = .ok (.if_icmp .eq 624, 3) := by decide +kernel
theorem dL_law_422 : decode cL_law 422 = .ok (.iconst 0, 1) := by decide +kernel
theorem dL_law_423 : decode cL_law 423 = .ok (.ireturn, 1) := by decide +kernel
theorem dL_law_424 : decode cL_law 424 = .ok (.aload_n 1, 1) := by decide +kernel
theorem dL_law_425 : decode cL_law 425 = .ok (.aload_n 0, 1) := by decide +kernel
theorem dL_law_426 : decode cL_law 426 = .ok (.iload_n 3, 1) := by decide +kernel
theorem dL_law_427 : decode cL_law 427 = .ok (.iconst 1, 1) := by decide +kernel
theorem dL_law_428 : decode cL_law 428 = .ok (.iadd, 1) := by decide +kernel
theorem dL_law_429 : decode cL_law 429 = .ok (.iaload, 1) := by decide +kernel
theorem dL_law_430 : decode cL_law 430 = .ok (.aload_n 0, 1) := by decide +kernel
theorem dL_law_431 : decode cL_law 431 = .ok (.iload_n 3, 1) := by decide +kernel
theorem dL_law_432 : decode cL_law 432 = .ok (.iconst 2, 1) := by decide +kernel
theorem dL_law_433 : decode cL_law 433 = .ok (.iadd, 1) := by decide +kernel
theorem dL_law_434 : decode cL_law 434 = .ok (.iaload, 1) := by decide +kernel
theorem dL_law_435 : decode cL_law 435 = .ok (.invokevirtual 54, 3) := by decide +kernel
theorem dL_law_438 : decode cL_law 438 = .ok (.aload_n 2, 1) := by decide +kernel
theorem dL_law_439 : decode cL_law 439 = .ok (.aload_n 0, 1) := by decide +kernel
theorem dL_law_440 : decode cL_law 440 = .ok (.iload_n 3, 1) := by decide +kernel
theorem dL_law_441 : decode cL_law 441 = .ok (.iconst 1, 1) := by decide +kernel
theorem dL_law_442 : decode cL_law 442 = .ok (.iadd, 1) := by decide +kernel
theorem dL_law_443 : decode cL_law 443 = .ok (.iaload, 1) := by decide +kernel
theorem dL_law_444 : decode cL_law 444 = .ok (.aload_n 0, 1) := by decide +kernel
theorem dL_law_445 : decode cL_law 445 = .ok (.iload_n 3, 1) := by decide +kernel
theorem dL_law_446 : decode cL_law 446 = .ok (.iconst 2, 1) := by decide +kernel
theorem dL_law_447 : decode cL_law 447 = .ok (.iadd, 1) := by decide +kernel
theorem dL_law_448 : decode cL_law 448 = .ok (.iaload, 1) := by decide +kernel
theorem dL_law_449 : decode cL_law 449 = .ok (.invokevirtual 57, 3) := by decide +kernel
theorem dL_law_452 : decode cL_law 452 = .ok (.if_icmp .eq 591, 3) := by decide +kernel
theorem dL_law_455 : decode cL_law 455 = .ok (.iconst 0, 1) := by decide +kernel
theorem dL_law_456 : decode cL_law 456 = .ok (.ireturn, 1) := by decide +kernel
theorem dL_law_457 : decode cL_law 457 = .ok (.aload_n 1, 1) := by decide +kernel
theorem dL_law_458 : decode cL_law 458 = .ok (.aload_n 0, 1) := by decide +kernel
theorem dL_law_459 : decode cL_law 459 = .ok (.iload_n 3, 1) := by decide +kernel
theorem dL_law_460 : decode cL_law 460 = .ok (.iconst 1, 1) := by decide +kernel
theorem dL_law_461 : decode cL_law 461 = .ok (.iadd, 1) := by decide +kernel
theorem dL_law_462 : decode cL_law 462 = .ok (.iaload, 1) := by decide +kernel
theorem dL_law_463 : decode cL_law 463 = .ok (.aload_n 0, 1) := by decide +kernel
theorem dL_law_464 : decode cL_law 464 = .ok (.iload_n 3, 1) := by decide +kernel
theorem dL_law_465 : decode cL_law 465 = .ok (.iconst 2, 1) := by decide +kernel
theorem dL_law_466 : decode cL_law 466 = .ok (.iadd, 1) := by decide +kernel
theorem dL_law_467 : decode cL_law 467 = .ok (.iaload, 1) := by decide +kernel
theorem dL_law_468 : decode cL_law 468 = .ok (.i2d, 1) := by decide +kernel
theorem dL_law_469 : decode cL_law 469 = .ok (.ldc2_w 58, 3) := by decide +kernel
theorem dL_law_472 : decode cL_law 472 = .ok (.dmul, 1) := by decide +kernel
theorem dL_law_473 : decode cL_law 473 = .ok (.invokevirtual 60, 3) := by decide +kernel
theorem dL_law_476 : decode cL_law 476 = .ok (.aload_n 2, 1) := by decide +kernel
theorem dL_law_477 : decode cL_law 477 = .ok (.aload_n 0, 1) := by decide +kernel
theorem dL_law_478 : decode cL_law 478 = .ok (.iload_n 3, 1) := by decide +kernel
theorem dL_law_479 : decode cL_law 479 = .ok (.iconst 1, 1) := by decide +kernel
theorem dL_law_480 : decode cL_law 480 = .ok (.iadd, 1) := by decide +kernel
theorem dL_law_481 : decode cL_law 481 = .ok (.iaload, 1) := by decide +kernel
theorem dL_law_482 : decode cL_law 482 = .ok (.aload_n 0, 1) := by decide +kernel
theorem dL_law_483 : decode cL_law 483 = .ok (.iload_n 3, 1) := by decide +kernel
theorem dL_law_484 : decode cL_law 484 = .ok (.iconst 2, 1) := by decide +kernel
theorem dL_law_485 : decode cL_law 485 = .ok (.iadd, 1) := by decide +kernel
theorem dL_law_486 : decode cL_law 486 = .ok (.iaload, 1) := by decide +kernel
theorem dL_law_487 : decode cL_law 487 = .ok (.i2d, 1) := by decide +kernel
theorem dL_law_488 : decode cL_law 488 = .ok (.ldc2_w 58, 3) := by decide +kernel
theorem dL_law_491 : decode cL_law 491 = .ok (.dmul, 1) := by decide +kernel
theorem dL_law_492 : decode cL_law 492 = .ok (.invokevirtual 64, 3) := by decide +kernel
theorem dL_law_495 : decode cL_law 495 = .ok (.if_icmp .eq 548, 3) := by decide +kernel
theorem dL_law_498 : decode cL_law 498 = .ok (.iconst 0, 1) := by decide +kernel
theorem dL_law_499 : decode cL_law 499 = .ok (.ireturn, 1) := by decide +kernel
theorem dL_law_500 : decode cL_law 500 = .ok (.aload_n 1, 1) := by decide +kernel
theorem dL_law_501 : decode cL_law 501 = .ok (.aload_n 0, 1) := by decide +kernel
theorem dL_law_502 : decode cL_law 502 = .ok (.iload_n 3, 1) := by decide +kernel
theorem dL_law_503 : decode cL_law 503 = .ok (.iconst 1, 1) := by decide +kernel
theorem dL_law_504 : decode cL_law 504 = .ok (.iadd, 1) := by decide +kernel
theorem dL_law_505 : decode cL_law 505 = .ok (.iaload, 1) := by decide +kernel
theorem dL_law_506 : decode cL_law 506 = .ok (.invokevirtual 65, 3) := by decide +kernel
theorem dL_law_509 : decode cL_law 509 = .ok (.aload_n 2, 1) := by decide +kernel
theorem dL_law_510 : decode cL_law 510 = .ok (.aload_n 0, 1) := by decide +kernel
theorem dL_law_511 : decode cL_law 511 = .ok (.iload_n 3, 1) := by decide +kernel
theorem dL_law_512 : decode cL_law 512 = .ok (.iconst 1, 1) := by decide +kernel
theorem dL_law_513 : decode cL_law 513 = .ok (.iadd, 1) := by decide +kernel
theorem dL_law_514 : decode cL_law 514 = .ok (.iaload, 1) := by decide +kernel
theorem dL_law_515 : decode cL_law 515 = .ok (.invokevirtual 69, 3) := by decide +kernel
theorem dL_law_518 : decode cL_law 518 = .ok (.lcmp, 1) := by decide +kernel
theorem dL_law_519 : decode cL_law 519 = .ok (.ifCond .eq 524, 3) := by decide +kernel
theorem dL_law_522 : decode cL_law 522 = .ok (.iconst 0, 1) := by decide +kernel
theorem dL_law_523 : decode cL_law 523 = .ok (.ireturn, 1) := by decide +kernel
theorem dL_law_524 : decode cL_law 524 = .ok (.aload_n 1, 1) := by decide +kernel
theorem dL_law_525 : decode cL_law 525 = .ok (.aload_n 0, 1) := by decide +kernel
theorem dL_law_526 : decode cL_law 526 = .ok (.iload_n 3, 1) := by decide +kernel
theorem dL_law_527 : decode cL_law 527 = .ok (.iconst 1, 1) := by decide +kernel
theorem dL_law_528 : decode cL_law 528 = .ok (.iadd, 1) := by decide +kernel
theorem dL_law_529 : decode cL_law 529 = .ok (.iaload, 1) := by decide +kernel
theorem dL_law_530 : decode cL_law 530 = .ok (.invokevirtual 70, 3) := by decide +kernel
theorem dL_law_533 : decode cL_law 533 = .ok (.aload_n 2, 1) := by decide +kernel
theorem dL_law_534 : decode cL_law 534 = .ok (.aload_n 0, 1) := by decide +kernel
theorem dL_law_535 : decode cL_law 535 = .ok (.iload_n 3, 1) := by decide +kernel
theorem dL_law_536 : decode cL_law 536 = .ok (.iconst 1, 1) := by decide +kernel
theorem dL_law_537 : decode cL_law 537 = .ok (.iadd, 1) := by decide +kernel
theorem dL_law_538 : decode cL_law 538 = .ok (.iaload, 1) := by decide +kernel
theorem dL_law_539 : decode cL_law 539 = .ok (.invokevirtual 73, 3) := by decide +kernel
theorem dL_law_542 : decode cL_law 542 = .ok (.lcmp, 1) := by decide +kernel
theorem dL_law_543 : decode cL_law 543 = .ok (.ifCond .eq 500, 3) := by decide +kernel
theorem dL_law_546 : decode cL_law 546 = .ok (.iconst 0, 1) := by decide +kernel
theorem dL_law_547 : decode cL_law 547 = .ok (.ireturn, 1) := by decide +kernel
theorem dL_law_548 : decode cL_law 548 = .ok (.aload_n 1, 1) := by decide +kernel
theorem dL_law_549 : decode cL_law 549 = .ok (.aload_n 0, 1) := by decide +kernel
theorem dL_law_550 : decode cL_law 550 = .ok (.iload_n 3, 1) := by decide +kernel
theorem dL_law_551 : decode cL_law 551 = .ok (.iconst 1, 1) := by decide +kernel
theorem dL_law_552 : decode cL_law 552 = .ok (.iadd, 1) := by decide +kernel
theorem dL_law_553 : decode cL_law 553 = .ok (.iaload, 1) := by decide +kernel
theorem dL_law_554 : decode cL_law 554 = .ok (.invokevirtual 74, 3) := by decide +kernel
theorem dL_law_557 : decode cL_law 557 = .ok (.aload_n 2, 1) := by decide +kernel
theorem dL_law_558 : decode cL_law 558 = .ok (.aload_n 0, 1) := by decide +kernel
theorem dL_law_559 : decode cL_law 559 = .ok (.iload_n 3, 1) := by decide +kernel
theorem dL_law_560 : decode cL_law 560 = .ok (.iconst 1, 1) := by decide +kernel
theorem dL_law_561 : decode cL_law 561 = .ok (.iadd, 1) := by decide +kernel
theorem dL_law_562 : decode cL_law 562 = .ok (.iaload, 1) := by decide +kernel
theorem dL_law_563 : decode cL_law 563 = .ok (.invokevirtual 77, 3) := by decide +kernel
theorem dL_law_566 : decode cL_law 566 = .ok (.lcmp, 1) := by decide +kernel
theorem dL_law_567 : decode cL_law 567 = .ok (.ifCond .eq 476, 3) := by decide +kernel
theorem dL_law_570 : decode cL_law 570 = .ok (.iconst 0, 1) := by decide +kernel
theorem dL_law_571 : decode cL_law 571 = .ok (.ireturn, 1) := by decide +kernel
theorem dL_law_572 : decode cL_law 572 = .ok (.aload_n 1, 1) := by decide +kernel
theorem dL_law_573 : decode cL_law 573 = .ok (.aload_n 0, 1) := by decide +kernel
theorem dL_law_574 : decode cL_law 574 = .ok (.iload_n 3, 1) := by decide +kernel
theorem dL_law_575 : decode cL_law 575 = .ok (.iconst 1, 1) := by decide +kernel
theorem dL_law_576 : decode cL_law 576 = .ok (.iadd, 1) := by decide +kernel
theorem dL_law_577 : decode cL_law 577 = .ok (.iaload, 1) := by decide +kernel
theorem dL_law_578 : decode cL_law 578 = .ok (.invokevirtual 78, 3) := by decide +kernel
theorem dL_law_581 : decode cL_law 581 = .ok (.dstore 4, 2) := by decide +kernel
theorem dL_law_583 : decode cL_law 583 = .ok (.aload_n 2, 1) := by decide +kernel
theorem dL_law_584 : decode cL_law 584 = .ok (.aload_n 0, 1) := by decide +kernel
theorem dL_law_585 : decode cL_law 585 = .ok (.iload_n 3, 1) := by decide +kernel
theorem dL_law_586 : decode cL_law 586 = .ok (.iconst 1, 1) := by decide +kernel
theorem dL_law_587 : decode cL_law 587 = .ok (.iadd, 1) := by decide +kernel
theorem dL_law_588 : decode cL_law 588 = .ok (.iaload, 1) := by decide +kernel
theorem dL_law_589 : decode cL_law 589 = .ok (.invokevirtual 82, 3) := by decide +kernel
theorem dL_law_592 : decode cL_law 592 = .ok (.dstore 6, 2) := by decide +kernel
theorem dL_law_594 : decode cL_law 594 = .ok (.dload 4, 2) := by decide +kernel
theorem dL_law_596 : decode cL_law 596 = .ok (.dload 6, 2) := by decide +kernel
theorem dL_law_598 : decode cL_law 598 = .ok (.dcmp .l, 1) := by decide +kernel
theorem dL_law_599 : decode cL_law 599 = .ok (.ifCond .eq 21, 3) := by decide +kernel
theorem dL_law_602 : decode cL_law 602 = .ok (.dload 4, 2) := by decide +kernel
theorem dL_law_604 : decode cL_law 604 = .ok (.dload 4, 2) := by decide +kernel
theorem dL_law_606 : decode cL_law 606 = .ok (.dcmp .l, 1) := by decide +kernel
theorem dL_law_607 : decode cL_law 607 = .ok (.ifCond .eq 11, 3) := by decide +kernel
theorem dL_law_610 : decode cL_law 610 = .ok (.dload 6, 2) := by decide +kernel
theorem dL_law_612 : decode cL_law 612 = .ok (.dload 6, 2) := by decide +kernel
theorem dL_law_614 : decode cL_law 614 = .ok (.dcmp .l, 1) := by decide +kernel
theorem dL_law_615 : decode cL_law 615 = .ok (.ifCond .ne 5, 3) := by decide +kernel
theorem dL_law_618 : decode cL_law 618 = .ok (.iconst 0, 1) := by decide +kernel
theorem dL_law_619 : decode cL_law 619 = .ok (.ireturn, 1) := by decide +kernel
theorem dL_law_620 : decode cL_law 620 = .ok (.goto 423, 3) := by decide +kernel
theorem dL_law_623 : decode cL_law 623 = .ok (.aload_n 1, 1) := by decide +kernel
theorem dL_law_624 : decode cL_law 624 = .ok (.aload_n 0, 1) := by decide +kernel
theorem dL_law_625 : decode cL_law 625 = .ok (.iload_n 3, 1) := by decide +kernel
theorem dL_law_626 : decode cL_law 626 = .ok (.iconst 1, 1) := by decide +kernel
theorem dL_law_627 : decode cL_law 627 = .ok (.iadd, 1) := by decide +kernel
theorem dL_law_628 : decode cL_law 628 = .ok (.iaload, 1) := by decide +kernel
theorem dL_law_629 : decode cL_law 629 = .ok (.invokevirtual 83, 3) := by decide +kernel
theorem dL_law_632 : decode cL_law 632 = .ok (.f2d, 1) := by decide +kernel
theorem dL_law_633 : decode cL_law 633 = .ok (.dstore 4, 2) := by decide +kernel
theorem dL_law_635 : decode cL_law 635 = .ok (.aload_n 2, 1) := by decide +kernel
theorem dL_law_636 : decode cL_law 636 = .ok (.aload_n 0, 1) := by decide +kernel
theorem dL_law_637 : decode cL_law 637 = .ok (.iload_n 3, 1) := by decide +kernel
theorem dL_law_638 : decode cL_law 638 = .ok (.iconst 1, 1) := by decide +kernel
theorem dL_law_639 : decode cL_law 639 = .ok (.iadd, 1) := by decide +kernel
theorem dL_law_640 : decode cL_law 640 = .ok (.iaload, 1) := by decide +kernel
theorem dL_law_641 : decode cL_law 641 = .ok (.invokevirtual 87, 3) := by decide +kernel
theorem dL_law_644 : decode cL_law 644 = .ok (.f2d, 1) := by decide +kernel
theorem dL_law_645 : decode cL_law 645 = .ok (.dstore 6, 2) := by decide +kernel
theorem dL_law_647 : decode cL_law 647 = .ok (.dload 4, 2) := by decide +kernel
theorem dL_law_649 : decode cL_law 649 = .ok (.dload 6, 2) := by decide +kernel
theorem dL_law_651 : decode cL_law 651 = .ok (.dcmp .l, 1) := by decide +kernel
theorem dL_law_652 : decode cL_law 652 = .ok (.ifCond .eq 21, 3) := by decide +kernel
theorem dL_law_655 : decode cL_law 655 = .ok (.dload 4, 2) := by decide +kernel
theorem dL_law_657 : decode cL_law 657 = .ok (.dload 4, 2) := by decide +kernel
theorem dL_law_659 : decode cL_law 659 = .ok (.dcmp .l, 1) := by decide +kernel
theorem dL_law_660 : decode cL_law 660 = .ok (.ifCond .eq 11, 3) := by decide +kernel
theorem dL_law_663 : decode cL_law 663 = .ok (.dload 6, 2) := by decide +kernel
theorem dL_law_665 : decode cL_law 665 = .ok (.dload 6, 2) := by decide +kernel
theorem dL_law_667 : decode cL_law 667 = .ok (.dcmp .l, 1) := by decide +kernel
theorem dL_law_668 : decode cL_law 668 = .ok (.ifCond .ne 5, 3) := by decide +kernel
theorem dL_law_671 : decode cL_law 671 = .ok (.iconst 0, 1) := by decide +kernel
theorem dL_law_672 : decode cL_law 672 = .ok (.ireturn, 1) := by decide +kernel
theorem dL_law_673 : decode cL_law 673 = .ok (.goto 370, 3) := by decide +kernel
theorem dL_law_676 : decode cL_law 676 = .ok (.aload_n 1, 1) := by decide +kernel
theorem dL_law_677 : decode cL_law 677 = .ok (.invokevirtual 88, 3) := by decide +kernel
theorem dL_law_680 : decode cL_law 680 = .ok (.aload_n 2, 1) := by decide +kernel
theorem dL_law_681 : decode cL_law 681 = .ok (.invokevirtual 91, 3) := by decide +kernel
theorem dL_law_684 : decode cL_law 684 = .ok (.if_icmp .eq 359, 3) := by decide +kernel
theorem dL_law_687 : decode cL_law 687 = .ok (.iconst 0, 1) := by decide +kernel
theorem dL_law_688 : decode cL_law 688 = .ok (.ireturn, 1) := by decide +kernel
theorem dL_law_689 : decode cL_law 689 = .ok (.aload_n 1, 1) := by decide +kernel
theorem dL_law_690 : decode cL_law 690 = .ok (.aload_n 0, 1) := by decide +kernel
theorem dL_law_691 : decode cL_law 691 = .ok (.iload_n 3, 1) := by decide +kernel
theorem dL_law_692 : decode cL_law 692 = .ok (.iconst 1, 1) := by decide +kernel
theorem dL_law_693 : decode cL_law 693 = .ok (.iadd, 1) := by decide +kernel
theorem dL_law_694 : decode cL_law 694 = .ok (.iaload, 1) := by decide +kernel
theorem dL_law_695 : decode cL_law 695 = .ok (.invokevirtual 92, 3) := by decide +kernel
theorem dL_law_698 : decode cL_law 698 = .ok (.aload_n 2, 1) := by decide +kernel
theorem dL_law_699 : decode cL_law 699 = .ok (.aload_n 0, 1) := by decide +kernel
theorem dL_law_700 : decode cL_law 700 = .ok (.iload_n 3, 1) := by decide +kernel
theorem dL_law_701 : decode cL_law 701 = .ok (.iconst 1, 1) := by decide +kernel
theorem dL_law_702 : decode cL_law 702 = .ok (.iadd, 1) := by decide +kernel
theorem dL_law_703 : decode cL_law 703 = .ok (.iaload, 1) := by decide +kernel
theorem dL_law_704 : decode cL_law 704 = .ok (.invokevirtual 95, 3) := by decide +kernel
theorem dL_law_707 : decode cL_law 707 = .ok (.lcmp, 1) := by decide +kernel
theorem dL_law_708 : decode cL_law 708 = .ok (.ifCond .eq 335, 3) := by decide +kernel
theorem dL_law_711 : decode cL_law 711 = .ok (.iconst 0, 1) := by decide +kernel
theorem dL_law_712 : decode cL_law 712 = .ok (.ireturn, 1) := by decide +kernel
theorem dL_law_713 : decode cL_law 713 = .ok (.aload_n 1, 1) := by decide +kernel
theorem dL_law_714 : decode cL_law 714 = .ok (.aload_n 0, 1) := by decide +kernel
theorem dL_law_715 : decode cL_law 715 = .ok (.iload_n 3, 1) := by decide +kernel
theorem dL_law_716 : decode cL_law 716 = .ok (.iconst 1, 1) := by decide +kernel
theorem dL_law_717 : decode cL_law 717 = .ok (.iadd, 1) := by decide +kernel
theorem dL_law_718 : decode cL_law 718 = .ok (.iaload, 1) := by decide +kernel
theorem dL_law_719 : decode cL_law 719 = .ok (.invokevirtual 96, 3) := by decide +kernel
theorem dL_law_722 : decode cL_law 722 = .ok (.aload_n 2, 1) := by decide +kernel
theorem dL_law_723 : decode cL_law 723 = .ok (.aload_n 0, 1) := by decide +kernel
theorem dL_law_724 : decode cL_law 724 = .ok (.iload_n 3, 1) := by decide +kernel
theorem dL_law_725 : decode cL_law 725 = .ok (.iconst 1, 1) := by decide +kernel
theorem dL_law_726 : decode cL_law 726 = .ok (.iadd, 1) := by decide +kernel
theorem dL_law_727 : decode cL_law 727 = .ok (.iaload, 1) := by decide +kernel
theorem dL_law_728 : decode cL_law 728 = .ok (.invokevirtual 99, 3) := by decide +kernel
theorem dL_law_731 : decode cL_law 731 = .ok (.if_icmp .eq 312, 3) := by decide +kernel
theorem dL_law_734 : decode cL_law 734 = .ok (.iconst 0, 1) := by decide +kernel
theorem dL_law_735 : decode cL_law 735 = .ok (.ireturn, 1) := by decide +kernel
theorem dL_law_736 : decode cL_law 736 = .ok (.aload_n 1, 1) := by decide +kernel
theorem dL_law_737 : decode cL_law 737 = .ok (.aload_n 0, 1) := by decide +kernel
theorem dL_law_738 : decode cL_law 738 = .ok (.iload_n 3, 1) := by decide +kernel
theorem dL_law_739 : decode cL_law 739 = .ok (.iconst 1, 1) := by decide +kernel
theorem dL_law_740 : decode cL_law 740 = .ok (.iadd, 1) := by decide +kernel
theorem dL_law_741 : decode cL_law 741 = .ok (.iaload, 1) := by decide +kernel
theorem dL_law_742 : decode cL_law 742 = .ok (.aload_n 0, 1) := by decide +kernel
theorem dL_law_743 : decode cL_law 743 = .ok (.iload_n 3, 1) := by decide +kernel
theorem dL_law_744 : decode cL_law 744 = .ok (.iconst 2, 1) := by decide +kernel
theorem dL_law_745 : decode cL_law 745 = .ok (.iadd, 1) := by decide +kernel
theorem dL_law_746 : decode cL_law 746 = .ok (.iaload, 1) := by decide +kernel
theorem dL_law_747 : decode cL_law 747 = .ok (.i2l, 1) := by decide +kernel
theorem dL_law_748 : decode cL_law 748 = .ok (.bipush 32, 2) := by decide +kernel
theorem dL_law_750 : decode cL_law 750 = .ok (.lshl, 1) := by decide +kernel
theorem dL_law_751 : decode cL_law 751 = .ok (.aload_n 0, 1) := by decide +kernel
theorem dL_law_752 : decode cL_law 752 = .ok (.iload_n 3, 1) := by decide +kernel
theorem dL_law_753 : decode cL_law 753 = .ok (.iconst 3, 1) := by decide +kernel
theorem dL_law_754 : decode cL_law 754 = .ok (.iadd, 1) := by decide +kernel
theorem dL_law_755 : decode cL_law 755 = .ok (.iaload, 1) := by decide +kernel
theorem dL_law_756 : decode cL_law 756 = .ok (.i2l, 1) := by decide +kernel
theorem dL_law_757 : decode cL_law 757 = .ok (.ldc2_w 100, 3) := by decide +kernel
theorem dL_law_760 : decode cL_law 760 = .ok (.land, 1) := by decide +kernel
theorem dL_law_761 : decode cL_law 761 = .ok (.lor, 1) := by decide +kernel
theorem dL_law_762 : decode cL_law 762 = .ok (.invokevirtual 102, 3) := by decide +kernel
theorem dL_law_765 : decode cL_law 765 = .ok (.aload_n 2, 1) := by decide +kernel
theorem dL_law_766 : decode cL_law 766 = .ok (.aload_n 0, 1) := by decide +kernel
theorem dL_law_767 : decode cL_law 767 = .ok (.iload_n 3, 1) := by decide +kernel
theorem dL_law_768 : decode cL_law 768 = .ok (.iconst 1, 1) := by decide +kernel
theorem dL_law_769 : decode cL_law 769 = .ok (.iadd, 1) := by decide +kernel
theorem dL_law_770 : decode cL_law 770 = .ok (.iaload, 1) := by decide +kernel
theorem dL_law_771 : decode cL_law 771 = .ok (.aload_n 0, 1) := by decide +kernel
theorem dL_law_772 : decode cL_law 772 = .ok (.iload_n 3, 1) := by decide +kernel
theorem dL_law_773 : decode cL_law 773 = .ok (.iconst 2, 1) := by decide +kernel
theorem dL_law_774 : decode cL_law 774 = .ok (.iadd, 1) := by decide +kernel
theorem dL_law_775 : decode cL_law 775 = .ok (.iaload, 1) := by decide +kernel
theorem dL_law_776 : decode cL_law 776 = .ok (.i2l, 1) := by decide +kernel
theorem dL_law_777 : decode cL_law 777 = .ok (.bipush 32, 2) := by decide +kernel
theorem dL_law_779 : decode cL_law 779 = .ok (.lshl, 1) := by decide +kernel
theorem dL_law_780 : decode cL_law 780 = .ok (.aload_n 0, 1) := by decide +kernel
theorem dL_law_781 : decode cL_law 781 = .ok (.iload_n 3, 1) := by decide +kernel
theorem dL_law_782 : decode cL_law 782 = .ok (.iconst 3, 1) := by decide +kernel
theorem dL_law_783 : decode cL_law 783 = .ok (.iadd, 1) := by decide +kernel
theorem dL_law_784 : decode cL_law 784 = .ok (.iaload, 1) := by decide +kernel
theorem dL_law_785 : decode cL_law 785 = .ok (.i2l, 1) := by decide +kernel
theorem dL_law_786 : decode cL_law 786 = .ok (.ldc2_w 100, 3) := by decide +kernel
theorem dL_law_789 : decode cL_law 789 = .ok (.land, 1) := by decide +kernel
theorem dL_law_790 : decode cL_law 790 = .ok (.lor, 1) := by decide +kernel
theorem dL_law_791 : decode cL_law 791 = .ok (.invokevirtual 106, 3) := by decide +kernel
theorem dL_law_794 : decode cL_law 794 = .ok (.if_icmp .eq 249, 3) := by decide +kernel
theorem dL_law_797 : decode cL_law 797 = .ok (.iconst 0, 1) := by decide +kernel
theorem dL_law_798 : decode cL_law 798 = .ok (.ireturn, 1) := by decide +kernel
theorem dL_law_799 : decode cL_law 799 = .ok (.aload_n 1, 1) := by decide +kernel
theorem dL_law_800 : decode cL_law 800 = .ok (.aload_n 0, 1) := by decide +kernel
theorem dL_law_801 : decode cL_law 801 = .ok (.iload_n 3, 1) := by decide +kernel
theorem dL_law_802 : decode cL_law 802 = .ok (.iconst 1, 1) := by decide +kernel
theorem dL_law_803 : decode cL_law 803 = .ok (.iadd, 1) := by decide +kernel
theorem dL_law_804 : decode cL_law 804 = .ok (.iaload, 1) := by decide +kernel
theorem dL_law_805 : decode cL_law 805 = .ok (.aload_n 0, 1) := by decide +kernel
theorem dL_law_806 : decode cL_law 806 = .ok (.iload_n 3, 1) := by decide +kernel
theorem dL_law_807 : decode cL_law 807 = .ok (.iconst 2, 1) := by decide +kernel
theorem dL_law_808 : decode cL_law 808 = .ok (.iadd, 1) := by decide +kernel
theorem dL_law_809 : decode cL_law 809 = .ok (.iaload, 1) := by decide +kernel
theorem dL_law_810 : decode cL_law 810 = .ok (.i2l, 1) := by decide +kernel
theorem dL_law_811 : decode cL_law 811 = .ok (.bipush 32, 2) := by decide +kernel
theorem dL_law_813 : decode cL_law 813 = .ok (.lshl, 1) := by decide +kernel
theorem dL_law_814 : decode cL_law 814 = .ok (.aload_n 0, 1) := by decide +kernel
theorem dL_law_815 : decode cL_law 815 = .ok (.iload_n 3, 1) := by decide +kernel
theorem dL_law_816 : decode cL_law 816 = .ok (.iconst 3, 1) := by decide +kernel
theorem dL_law_817 : decode cL_law 817 = .ok (.iadd, 1) := by decide +kernel
theorem dL_law_818 : decode cL_law 818 = .ok (.iaload, 1) := by decide +kernel
theorem dL_law_819 : decode cL_law 819 = .ok (.i2l, 1) := by decide +kernel
theorem dL_law_820 : decode cL_law 820 = .ok (.ldc2_w 100, 3) := by decide +kernel
theorem dL_law_823 : decode cL_law 823 = .ok (.land, 1) := by decide +kernel
theorem dL_law_824 : decode cL_law 824 = .ok (.lor, 1) := by decide +kernel
theorem dL_law_825 : decode cL_law 825 = .ok (.invokevirtual 107, 3) := by decide +kernel
theorem dL_law_828 : decode cL_law 828 = .ok (.aload_n 2, 1) := by decide +kernel
theorem dL_law_829 : decode cL_law 829 = .ok (.aload_n 0, 1) := by decide +kernel
theorem dL_law_830 : decode cL_law 830 = .ok (.iload_n 3, 1) := by decide +kernel
theorem dL_law_831 : decode cL_law 831 = .ok (.iconst 1, 1) := by decide +kernel
theorem dL_law_832 : decode cL_law 832 = .ok (.iadd, 1) := by decide +kernel
theorem dL_law_833 : decode cL_law 833 = .ok (.iaload, 1) := by decide +kernel
theorem dL_law_834 : decode cL_law 834 = .ok (.aload_n 0, 1) := by decide +kernel
theorem dL_law_835 : decode cL_law 835 = .ok (.iload_n 3, 1) := by decide +kernel
theorem dL_law_836 : decode cL_law 836 = .ok (.iconst 2, 1) := by decide +kernel
theorem dL_law_837 : decode cL_law 837 = .ok (.iadd, 1) := by decide +kernel
theorem dL_law_838 : decode cL_law 838 = .ok (.iaload, 1) := by decide +kernel
theorem dL_law_839 : decode cL_law 839 = .ok (.i2l, 1) := by decide +kernel
theorem dL_law_840 : decode cL_law 840 = .ok (.bipush 32, 2) := by decide +kernel
theorem dL_law_842 : decode cL_law 842 = .ok (.lshl, 1) := by decide +kernel
theorem dL_law_843 : decode cL_law 843 = .ok (.aload_n 0, 1) := by decide +kernel
end
section
theorem dL_law_844 : decode cL_law 844 = .ok (.iload_n 3, 1) := by decide +kernel
theorem dL_law_845 : decode cL_law 845 = .ok (.iconst 3, 1) := by decide +kernel
theorem dL_law_846 : decode cL_law 846 = .ok (.iadd, 1) := by decide +kernel
theorem dL_law_847 : decode cL_law 847 = .ok (.iaload, 1) := by decide +kernel
theorem dL_law_848 : decode cL_law 848 = .ok (.i2l, 1) := by decide +kernel
theorem dL_law_849 : decode cL_law 849 = .ok (.ldc2_w 100, 3) := by decide +kernel
theorem dL_law_852 : decode cL_law 852 = .ok (.land, 1) := by decide +kernel
theorem dL_law_853 : decode cL_law 853 = .ok (.lor, 1) := by decide +kernel
theorem dL_law_854 : decode cL_law 854 = .ok (.invokevirtual 110, 3) := by decide +kernel
theorem dL_law_857 : decode cL_law 857 = .ok (.if_icmp .eq 186, 3) := by decide +kernel
theorem dL_law_860 : decode cL_law 860 = .ok (.iconst 0, 1) := by decide +kernel
theorem dL_law_861 : decode cL_law 861 = .ok (.ireturn, 1) := by decide +kernel
theorem dL_law_862 : decode cL_law 862 = .ok (.aload_n 1, 1) := by decide +kernel
theorem dL_law_863 : decode cL_law 863 = .ok (.aload_n 0, 1) := by decide +kernel
theorem dL_law_864 : decode cL_law 864 = .ok (.iload_n 3, 1) := by decide +kernel
theorem dL_law_865 : decode cL_law 865 = .ok (.iconst 1, 1) := by decide +kernel
theorem dL_law_866 : decode cL_law 866 = .ok (.iadd, 1) := by decide +kernel
theorem dL_law_867 : decode cL_law 867 = .ok (.iaload, 1) := by decide +kernel
theorem dL_law_868 : decode cL_law 868 = .ok (.aload_n 0, 1) := by decide +kernel
theorem dL_law_869 : decode cL_law 869 = .ok (.iload_n 3, 1) := by decide +kernel
theorem dL_law_870 : decode cL_law 870 = .ok (.iconst 2, 1) := by decide +kernel
theorem dL_law_871 : decode cL_law 871 = .ok (.iadd, 1) := by decide +kernel
theorem dL_law_872 : decode cL_law 872 = .ok (.iaload, 1) := by decide +kernel
theorem dL_law_873 : decode cL_law 873 = .ok (.i2l, 1) := by decide +kernel
theorem dL_law_874 : decode cL_law 874 = .ok (.bipush 32, 2) := by decide +kernel
theorem dL_law_876 : decode cL_law 876 = .ok (.lshl, 1) := by decide +kernel
theorem dL_law_877 : decode cL_law 877 = .ok (.aload_n 0, 1) := by decide +kernel
theorem dL_law_878 : decode cL_law 878 = .ok (.iload_n 3, 1) := by decide +kernel
theorem dL_law_879 : decode cL_law 879 = .ok (.iconst 3, 1) := by decide +kernel
theorem dL_law_880 : decode cL_law 880 = .ok (.iadd, 1) := by decide +kernel
theorem dL_law_881 : decode cL_law 881 = .ok (.iaload, 1) := by decide +kernel
theorem dL_law_882 : decode cL_law 882 = .ok (.i2l, 1) := by decide +kernel
theorem dL_law_883 : decode cL_law 883 = .ok (.ldc2_w 100, 3) := by decide +kernel
theorem dL_law_886 : decode cL_law 886 = .ok (.land, 1) := by decide +kernel
theorem dL_law_887 : decode cL_law 887 = .ok (.lor, 1) := by decide +kernel
theorem dL_law_888 : decode cL_law 888 = .ok (.invokevirtual 111, 3) := by decide +kernel
theorem dL_law_891 : decode cL_law 891 = .ok (.aload_n 2, 1) := by decide +kernel
theorem dL_law_892 : decode cL_law 892 = .ok (.aload_n 0, 1) := by decide +kernel
theorem dL_law_893 : decode cL_law 893 = .ok (.iload_n 3, 1) := by decide +kernel
theorem dL_law_894 : decode cL_law 894 = .ok (.iconst 1, 1) := by decide +kernel
theorem dL_law_895 : decode cL_law 895 = .ok (.iadd, 1) := by decide +kernel
theorem dL_law_896 : decode cL_law 896 = .ok (.iaload, 1) := by decide +kernel
theorem dL_law_897 : decode cL_law 897 = .ok (.aload_n 0, 1) := by decide +kernel
theorem dL_law_898 : decode cL_law 898 = .ok (.iload_n 3, 1) := by decide +kernel
theorem dL_law_899 : decode cL_law 899 = .ok (.iconst 2, 1) := by decide +kernel
theorem dL_law_900 : decode cL_law 900 = .ok (.iadd, 1) := by decide +kernel
theorem dL_law_901 : decode cL_law 901 = .ok (.iaload, 1) := by decide +kernel
theorem dL_law_902 : decode cL_law 902 = .ok (.i2l, 1) := by decide +kernel
theorem dL_law_903 : decode cL_law 903 = .ok (.bipush 32, 2) := by decide +kernel
theorem dL_law_905 : decode cL_law 905 = .ok (.lshl, 1) := by decide +kernel
theorem dL_law_906 : decode cL_law 906 = .ok (.aload_n 0, 1) := by decide +kernel
theorem dL_law_907 : decode cL_law 907 = .ok (.iload_n 3, 1) := by decide +kernel
theorem dL_law_908 : decode cL_law 908 = .ok (.iconst 3, 1) := by decide +kernel
theorem dL_law_909 : decode cL_law 909 = .ok (.iadd, 1) := by decide +kernel
theorem dL_law_910 : decode cL_law 910 = .ok (.iaload, 1) := by decide +kernel
theorem dL_law_911 : decode cL_law 911 = .ok (.i2l, 1) := by decide +kernel
theorem dL_law_912 : decode cL_law 912 = .ok (.ldc2_w 100, 3) := by decide +kernel
theorem dL_law_915 : decode cL_law 915 = .ok (.land, 1) := by decide +kernel
theorem dL_law_916 : decode cL_law 916 = .ok (.lor, 1) := by decide +kernel
theorem dL_law_917 : decode cL_law 917 = .ok (.invokevirtual 114, 3) := by decide +kernel
theorem dL_law_920 : decode cL_law 920 = .ok (.if_icmp .eq 123, 3) := by decide +kernel
theorem dL_law_923 : decode cL_law 923 = .ok (.iconst 0, 1) := by decide +kernel
theorem dL_law_924 : decode cL_law 924 = .ok (.ireturn, 1) := by decide +kernel
theorem dL_law_925 : decode cL_law 925 = .ok (.aload_n 1, 1) := by decide +kernel
theorem dL_law_926 : decode cL_law 926 = .ok (.aload_n 0, 1) := by decide +kernel
theorem dL_law_927 : decode cL_law 927 = .ok (.iload_n 3, 1) := by decide +kernel
theorem dL_law_928 : decode cL_law 928 = .ok (.iconst 1, 1) := by decide +kernel
theorem dL_law_929 : decode cL_law 929 = .ok (.iadd, 1) := by decide +kernel
theorem dL_law_930 : decode cL_law 930 = .ok (.iaload, 1) := by decide +kernel
theorem dL_law_931 : decode cL_law 931 = .ok (.invokevirtual 115, 3) := by decide +kernel
theorem dL_law_934 : decode cL_law 934 = .ok (.aload_n 2, 1) := by decide +kernel
theorem dL_law_935 : decode cL_law 935 = .ok (.aload_n 0, 1) := by decide +kernel
theorem dL_law_936 : decode cL_law 936 = .ok (.iload_n 3, 1) := by decide +kernel
theorem dL_law_937 : decode cL_law 937 = .ok (.iconst 1, 1) := by decide +kernel
theorem dL_law_938 : decode cL_law 938 = .ok (.iadd, 1) := by decide +kernel
theorem dL_law_939 : decode cL_law 939 = .ok (.iaload, 1) := by decide +kernel
theorem dL_law_940 : decode cL_law 940 = .ok (.invokevirtual 118, 3) := by decide +kernel
theorem dL_law_943 : decode cL_law 943 = .ok (.lcmp, 1) := by decide +kernel
theorem dL_law_944 : decode cL_law 944 = .ok (.ifCond .eq 99, 3) := by decide +kernel
theorem dL_law_947 : decode cL_law 947 = .ok (.iconst 0, 1) := by decide +kernel
theorem dL_law_948 : decode cL_law 948 = .ok (.ireturn, 1) := by decide +kernel
theorem dL_law_949 : decode cL_law 949 = .ok (.aload_n 1, 1) := by decide +kernel
theorem dL_law_950 : decode cL_law 950 = .ok (.aload_n 0, 1) := by decide +kernel
theorem dL_law_951 : decode cL_law 951 = .ok (.iload_n 3, 1) := by decide +kernel
theorem dL_law_952 : decode cL_law 952 = .ok (.iconst 1, 1) := by decide +kernel
theorem dL_law_953 : decode cL_law 953 = .ok (.iadd, 1) := by decide +kernel
theorem dL_law_954 : decode cL_law 954 = .ok (.iaload, 1) := by decide +kernel
theorem dL_law_955 : decode cL_law 955 = .ok (.aload_n 0, 1) := by decide +kernel
theorem dL_law_956 : decode cL_law 956 = .ok (.iload_n 3, 1) := by decide +kernel
theorem dL_law_957 : decode cL_law 957 = .ok (.iconst 2, 1) := by decide +kernel
theorem dL_law_958 : decode cL_law 958 = .ok (.iadd, 1) := by decide +kernel
theorem dL_law_959 : decode cL_law 959 = .ok (.iaload, 1) := by decide +kernel
theorem dL_law_960 : decode cL_law 960 = .ok (.invokevirtual 119, 3) := by decide +kernel
theorem dL_law_963 : decode cL_law 963 = .ok (.aload_n 2, 1) := by decide +kernel
theorem dL_law_964 : decode cL_law 964 = .ok (.aload_n 0, 1) := by decide +kernel
theorem dL_law_965 : decode cL_law 965 = .ok (.iload_n 3, 1) := by decide +kernel
theorem dL_law_966 : decode cL_law 966 = .ok (.iconst 1, 1) := by decide +kernel
theorem dL_law_967 : decode cL_law 967 = .ok (.iadd, 1) := by decide +kernel
theorem dL_law_968 : decode cL_law 968 = .ok (.iaload, 1) := by decide +kernel
theorem dL_law_969 : decode cL_law 969 = .ok (.aload_n 0, 1) := by decide +kernel
theorem dL_law_970 : decode cL_law 970 = .ok (.iload_n 3, 1) := by decide +kernel
theorem dL_law_971 : decode cL_law 971 = .ok (.iconst 2, 1) := by decide +kernel
theorem dL_law_972 : decode cL_law 972 = .ok (.iadd, 1) := by decide +kernel
theorem dL_law_973 : decode cL_law 973 = .ok (.iaload, 1) := by decide +kernel
theorem dL_law_974 : decode cL_law 974 = .ok (.invokevirtual 122, 3) := by decide +kernel
theorem dL_law_977 : decode cL_law 977 = .ok (.lcmp, 1) := by decide +kernel
theorem dL_law_978 : decode cL_law 978 = .ok (.ifCond .eq 65, 3) := by decide +kernel
theorem dL_law_981 : decode cL_law 981 = .ok (.iconst 0, 1) := by decide +kernel
theorem dL_law_982 : decode cL_law 982 = .ok (.ireturn, 1) := by decide +kernel
theorem dL_law_983 : decode cL_law 983 = .ok (.aload_n 1, 1) := by decide +kernel
theorem dL_law_984 : decode cL_law 984 = .ok (.aload_n 0, 1) := by decide +kernel
theorem dL_law_985 : decode cL_law 985 = .ok (.iload_n 3, 1) := by decide +kernel
theorem dL_law_986 : decode cL_law 986 = .ok (.iconst 1, 1) := by decide +kernel
theorem dL_law_987 : decode cL_law 987 = .ok (.iadd, 1) := by decide +kernel
theorem dL_law_988 : decode cL_law 988 = .ok (.iaload, 1) := by decide +kernel
theorem dL_law_989 : decode cL_law 989 = .ok (.invokevirtual 123, 3) := by decide +kernel
theorem dL_law_992 : decode cL_law 992 = .ok (.aload_n 2, 1) := by decide +kernel
theorem dL_law_993 : decode cL_law 993 = .ok (.aload_n 0, 1) := by decide +kernel
theorem dL_law_994 : decode cL_law 994 = .ok (.iload_n 3, 1) := by decide +kernel
theorem dL_law_995 : decode cL_law 995 = .ok (.iconst 1, 1) := by decide +kernel
theorem dL_law_996 : decode cL_law 996 = .ok (.iadd, 1) := by decide +kernel
theorem dL_law_997 : decode cL_law 997 = .ok (.iaload, 1) := by decide +kernel
theorem dL_law_998 : decode cL_law 998 = .ok (.invokevirtual 126, 3) := by decide +kernel
theorem dL_law_1001 : decode cL_law 1001 = .ok (.if_icmp .eq 42, 3) := by decide +kernel
theorem dL_law_1004 : decode cL_law 1004 = .ok (.iconst 0, 1) := by decide +kernel
theorem dL_law_1005 : decode cL_law 1005 = .ok (.ireturn, 1) := by decide +kernel
theorem dL_law_1006 : decode cL_law 1006 = .ok (.aload_n 1, 1) := by decide +kernel
theorem dL_law_1007 : decode cL_law 1007 = .ok (.aload_n 0, 1) := by decide +kernel
theorem dL_law_1008 : decode cL_law 1008 = .ok (.iload_n 3, 1) := by decide +kernel
theorem dL_law_1009 : decode cL_law 1009 = .ok (.iconst 1, 1) := by decide +kernel
theorem dL_law_1010 : decode cL_law 1010 = .ok (.iadd, 1) := by decide +kernel
theorem dL_law_1011 : decode cL_law 1011 = .ok (.iaload, 1) := by decide +kernel
theorem dL_law_1012 : decode cL_law 1012 = .ok (.invokevirtual 127, 3) := by decide +kernel
theorem dL_law_1015 : decode cL_law 1015 = .ok (.aload_n 2, 1) := by decide +kernel
theorem dL_law_1016 : decode cL_law 1016 = .ok (.aload_n 0, 1) := by decide +kernel
theorem dL_law_1017 : decode cL_law 1017 = .ok (.iload_n 3, 1) := by decide +kernel
theorem dL_law_1018 : decode cL_law 1018 = .ok (.iconst 1, 1) := by decide +kernel
theorem dL_law_1019 : decode cL_law 1019 = .ok (.iadd, 1) := by decide +kernel
theorem dL_law_1020 : decode cL_law 1020 = .ok (.iaload, 1) := by decide +kernel
theorem dL_law_1021 : decode cL_law 1021 = .ok (.invokevirtual 130, 3) := by decide +kernel
theorem dL_law_1024 : decode cL_law 1024 = .ok (.if_icmp .eq 19, 3) := by decide +kernel
theorem dL_law_1027 : decode cL_law 1027 = .ok (.iconst 0, 1) := by decide +kernel
theorem dL_law_1028 : decode cL_law 1028 = .ok (.ireturn, 1) := by decide +kernel
theorem dL_law_1029 : decode cL_law 1029 = .ok (.aload_n 1, 1) := by decide +kernel
theorem dL_law_1030 : decode cL_law 1030 = .ok (.invokevirtual 131, 3) := by decide +kernel
theorem dL_law_1033 : decode cL_law 1033 = .ok (.aload_n 2, 1) := by decide +kernel
theorem dL_law_1034 : decode cL_law 1034 = .ok (.invokevirtual 135, 3) := by decide +kernel
theorem dL_law_1037 : decode cL_law 1037 = .ok (.lcmp, 1) := by decide +kernel
theorem dL_law_1038 : decode cL_law 1038 = .ok (.ifCond .eq 5, 3) := by decide +kernel
theorem dL_law_1041 : decode cL_law 1041 = .ok (.iconst 0, 1) := by decide +kernel
theorem dL_law_1042 : decode cL_law 1042 = .ok (.ireturn, 1) := by decide +kernel
theorem dL_law_1043 : decode cL_law 1043 = .ok (.iinc 3 4, 3) := by decide +kernel
theorem dL_law_1046 : decode cL_law 1046 = .ok (.goto (-1028), 3) := by decide +kernel
theorem dL_law_1049 : decode cL_law 1049 = .ok (.iconst 1, 1) := by decide +kernel
theorem dL_law_1050 : decode cL_law 1050 = .ok (.ireturn, 1) := by decide +kernel
end
section
/-! BASE: words, the generic world bundle GB, rows over it, calls over it -/
def lw_gd : List Cond := lw_tbl.filter goodWord
theorem gd_of {w : Cond} (h : w ∈ lw_tbl) (g : goodWord w = true) : w ∈ lw_gd := List.mem_filter.mpr ⟨h, g⟩
theorem gd_good {w : Cond} (h : w ∈ lw_gd) : (w.onTables && w.keeps) = true ∨ ∃ ty, w = .arrayClass ty := good_of_word (List.mem_filter.mp h).2
theorem gd_tbl {args : Array Value} {s : State} (hts : ∀ w ∈ lw_tbl, w.before args s = true) : ∀ w ∈ lw_gd, w.before args s = true := fun w h => hts w (List.mem_filter.mp h).1
def wsm (y : MethodName) (cc : ByteArray) (nL : Nat) (ret : Option FieldType) : List Cond := .code y cc nL ret :: lw_gd
theorem good_wsm {y : MethodName} {cc : ByteArray} {nL : Nat} {ret : Option FieldType} (h : Cond.code y cc nL ret ∈ lw_gd) : GoodIn lw_gd (wsm y cc nL ret) := fun w hw => by
  rcases List.mem_cons.mp hw with rfl | hw
  · exact ⟨h, gd_good h⟩
  · exact ⟨hw, gd_good hw⟩
theorem good_V {own C : String} {idx : Nat} {y : MethodName} {cc : ByteArray} {nL : Nat} {ret : Option FieldType} (h1 : Cond.methodLink own idx y ∈ lw_gd) (h2 : Cond.instanceMethod y ∈ lw_gd) (h3 : Cond.selects C y y ∈ lw_gd) (h4 : Cond.initialized C ∈ lw_gd) (h : Cond.code y cc nL ret ∈ lw_gd) : GoodIn lw_gd (wsV own idx C y (wsm y cc nL ret)) := fun w hw => by
  unfold wsV at hw
  rcases List.mem_append.mp hw with hw | hw
  · have : w ∈ lw_gd := by
      simp only [List.mem_cons, List.not_mem_nil, or_false] at hw
      rcases hw with rfl | rfl | rfl | rfl <;> assumption
    exact ⟨this, gd_good this⟩
  · exact good_wsm h w hw
theorem good_S {own : String} {idx : Nat} {y : MethodName} {cc : ByteArray} {nL : Nat} {ret : Option FieldType} (h1 : Cond.methodLink own idx y ∈ lw_gd) (h2 : Cond.static y ∈ lw_gd) (h4 : Cond.initialized own ∈ lw_gd) (h : Cond.code y cc nL ret ∈ lw_gd) : GoodIn lw_gd (wsS own idx y (wsm y cc nL ret)) := fun w hw => by
  unfold wsS at hw
  rcases List.mem_append.mp hw with hw | hw
  · have : w ∈ lw_gd := by
      simp only [List.mem_cons, List.not_mem_nil, or_false] at hw
      rcases hw with rfl | rfl | rfl <;> assumption
    exact ⟨this, gd_good this⟩
  · exact good_wsm h w hw
-- the classes whose objects the worlds hold
abbrev classes : List vw_C := [(RX0, TX0, 2), (RX1, TX1, 5), (RX2, TX2, 11), (RX3, TX3, 5), (RX4, TX4, 3), (RX5, TX5, 19)]
abbrev TI : Type := Nat → Nat → Int32
abbrev TJ : Type := Nat → Nat → Int64
abbrev SS : Type := TI × TJ
def sI (I : TI) (c : Nat) (f : Nat → Int32) : TI := fun c' => if c' = c then f else I c'
def sJ (J : TJ) (c : Nat) (f : Nat → Int64) : TJ := fun c' => if c' = c then f else J c'
def uI (I : TI) (c k : Nat) (v : Int32) : TI := sI I c (upd (I c) k v)
def uJ (J : TJ) (c k : Nat) (v : Int64) : TJ := sJ J c (vp_updL (J c) k v)
/-- an index into a row of sixteen -/
abbrev okx (i : Int32) : Prop := ¬ i < 0 ∧ i.toNatClampNeg < 16
theorem okx_in {i : Int32} (h : okx i) : vp_in i 16 := fun q => q.elim h.1 (fun z => absurd h.2 (Nat.not_lt.mpr z))
abbrev okd (r : UInt64) : Prop := r &&& 0x7fffffffffffffff ≤ 0x7ff0000000000000
abbrev okf (r : UInt32) : Prop := r &&& 0x7fffffff ≤ 0x7f800000
/-- a call's answer goes on -/
def bnd {α β : Type} (o : Option (α × SS)) (f : α → TI → TJ → Option β) : Option β := match o with
  | none => none
  | some (a, I, J) => f a I J
theorem bnd_some {α β : Type} {o : Option (α × SS)} {f : α → TI → TJ → Option β} {b : β} (h : bnd o f = some b) : ∃ a I J, o = some (a, I, J) ∧ f a I J = some b := by
  match o, h with
  | some (a, I, J), h => exact ⟨a, I, J, rfl, h⟩
theorem bnd_of {α β : Type} {o : Option (α × SS)} {f : α → TI → TJ → Option β} {a : α} {I : TI} {J : TJ} (h : o = some (a, I, J)) : bnd o f = f a I J := by rw [h]; rfl
-- the private links between nest mates, which no word list carries
def xN (U : State) : Prop := va_Nw (.methodLinkNest "BitTuner$Program" 40 ⟨"BitTuner", "hasTwoParts", "(I)Z"⟩ "BitTuner") U ∧ va_Nw (.methodLinkNest "BitTuner$Value" 67 ⟨"BitTuner", "result", "(IJJ)J"⟩ "BitTuner") U ∧ va_Nw (.methodLinkNest "BitTuner$Widths" 112 ⟨"BitTuner", "hasTwoParts", "(I)Z"⟩ "BitTuner") U ∧ va_Nw (.methodLinkNest "BitTuner$Runs" 58 ⟨"BitTuner", "hasTwoParts", "(I)Z"⟩ "BitTuner") U ∧ va_Nw (.methodLinkNest "BitTuner$Runs" 76 ⟨"BitTuner", "result", "(IJJ)J"⟩ "BitTuner") U
theorem xN.warm {s U : State} (hW : s.WarmedH U.vm) (h : xN s) : xN U := ⟨va_Nw.warmM hW h.1, va_Nw.warmM hW h.2.1, va_Nw.warmM hW h.2.2.1, va_Nw.warmM hW h.2.2.2.1, va_Nw.warmM hW h.2.2.2.2⟩
theorem xN.same {s U : State} (e : s.vm = U.vm) (h : xN s) : xN U := ⟨va_Nw.same rfl e h.1, va_Nw.same rfl e h.2.1, va_Nw.same rfl e h.2.2.1, va_Nw.same rfl e h.2.2.2.1, va_Nw.same rfl e h.2.2.2.2⟩
def gA (L : List Nat) (sz : Nat) : Nat → Prop := fun q => q ∈ L ∨ sz ≤ q
theorem gA_mono {L : List Nat} {a b q : Nat} (h : a ≤ b) (hq : gA L b q) : gA L a q := hq.elim Or.inl (fun z => Or.inr (Nat.le_trans h z))
def GB (D : va_G) (wd : TI → TJ → va_W) (tys : List (ClassId × FieldType)) (L : List Nat) (s : State) (H : Heap) (locs : List Loc) (I : TI) (J : TJ) : Prop :=
  va_P D classes (wd I J) H ∧ va_D (gA L s.heap.size) (wd I J) ∧ va_K D classes tys s ∧ va_S (gA L s.heap.size) s.heap H locs ∧ xN s
def gPre (D : va_G) (wd : TI → TJ → va_W) (tys : List (ClassId × FieldType)) (sz : Nat) (I : TI) (J : TJ) (U : State) : Prop :=
  U.heap.size = sz ∧ va_P D classes (wd I J) U.heap ∧ va_K D classes tys U ∧ va_D (fun _ => True) (wd I J) ∧ xN U
def gPost (D : va_G) (wd : TI → TJ → va_W) (tys : List (ClassId × FieldType)) (L : List Nat) (sz : Nat) (u : SS) (t : State) : Prop :=
  va_P D classes (wd u.1 u.2) t.heap ∧ va_K D classes tys t ∧ va_D (gA L sz) (wd u.1 u.2)
abbrev gQi (D : va_G) (wd : TI → TJ → va_W) (tys : List (ClassId × FieldType)) (L : List Nat) (sz : Nat) (r : Int32 × SS) := va_Qi (fun (q : Int32) (u : SS) => (q, u) = r) (gPost D wd tys L sz) (gA L sz)
abbrev gQl (D : va_G) (wd : TI → TJ → va_W) (tys : List (ClassId × FieldType)) (L : List Nat) (sz : Nat) (r : Int64 × SS) := va_Ql (fun (q : Int64) (u : SS) => (q, u) = r) (gPost D wd tys L sz) (gA L sz)
abbrev gQd (D : va_G) (wd : TI → TJ → va_W) (tys : List (ClassId × FieldType)) (L : List Nat) (sz : Nat) (r : UInt64 × SS) := va_Qd (fun (q : UInt64) (u : SS) => (q, u) = r) (gPost D wd tys L sz) (gA L sz)
abbrev gQf (D : va_G) (wd : TI → TJ → va_W) (tys : List (ClassId × FieldType)) (L : List Nat) (sz : Nat) (r : UInt32 × SS) := va_Qf (fun (q : UInt32) (u : SS) => (q, u) = r) (gPost D wd tys L sz) (gA L sz)
abbrev gQv (D : va_G) (wd : TI → TJ → va_W) (tys : List (ClassId × FieldType)) (L : List Nat) (sz : Nat) (r : Unit × SS) := va_Qv (fun (u : SS) => ((), u) = r) (gPost D wd tys L sz) (gA L sz)
abbrev rmd (d : Nat) : Room := { frames := d, cells := 0, slots := 0, locals := 60 * d }
def KX (p : Program) (s : State) (m : MethodId) (args : Array Value) (meth : Method) (c : Code) (own : String) (cc : ByteArray) (nL : Nat) (ret : Option FieldType) : Prop :=
  p.tables.exec = Jvm.exec ∧ c.code = cc ∧ c.maxLocals = nL ∧ s.vm.findClass own = some m.cls ∧ (∀ w ∈ lw_gd, w.before args s = true) ∧ meth.sig.returnType = ret ∧ meth.locks = false
section GX
variable {p : Program} {l : Launch} {e : Env} {R : Room} {s : State} {m : MethodId} {args : Array Value} {below : List Frame} {meth : Method} {c : Code} {H : Heap} {locs : List Loc} {Q : State → Prop}
variable {own : String} {cc : ByteArray} {nL : Nat} {ret : Option FieldType} {D : va_G} {wd : TI → TJ → va_W} {tys : List (ClassId × FieldType)} {L : List Nat} {I I' : TI} {J J' : TJ}
variable {pc : Nat} {ls : Array Slot} {rest st0 : List Value}
theorem KX.hx (C : KX p s m args meth c own cc nL ret) : p.tables.exec = Jvm.exec := C.1
theorem KX.hb (C : KX p s m args meth c own cc nL ret) : c.code = cc := C.2.1
theorem KX.hml (C : KX p s m args meth c own cc nL ret) : c.maxLocals = nL := C.2.2.1
theorem KX.hown (C : KX p s m args meth c own cc nL ret) : s.vm.findClass own = some m.cls := C.2.2.2.1
theorem KX.hts (C : KX p s m args meth c own cc nL ret) : ∀ w ∈ lw_gd, w.before args s = true := C.2.2.2.2.1
theorem KX.hr (C : KX p s m args meth c own cc nL ret) : meth.sig.returnType = ret := C.2.2.2.2.2.1
theorem KX.hlk (C : KX p s m args meth c own cc nL ret) : meth.locks = false := C.2.2.2.2.2.2
theorem KX.fix (C : KX p s m args meth c own cc nL ret) : CallFix p m c cc nL s args lw_gd own := ⟨C.1, C.2.1, C.2.2.1, C.2.2.2.1, C.2.2.2.2.1⟩
theorem GB.P (h : GB D wd tys L s H locs I J) : va_P D classes (wd I J) H := h.1
theorem GB.D' (h : GB D wd tys L s H locs I J) : va_D (gA L s.heap.size) (wd I J) := h.2.1
theorem GB.K (h : GB D wd tys L s H locs I J) : va_K D classes tys s := h.2.2.1
theorem GB.S (h : GB D wd tys L s H locs I J) : va_S (gA L s.heap.size) s.heap H locs := h.2.2.2.1
theorem GB.N (h : GB D wd tys L s H locs I J) : xN s := h.2.2.2.2
theorem g_get (C : KX p s m args meth c own cc nL ret) (hB : GB D wd tys L s H locs I J) (q0 : Nat) {a ci : Nat} {fs : List Value} {Cn : String} {T : u_T} {N : Nat} (he : (wd I J)[q0]? = some (a, .inr (ci, fs))) (hc : classes[ci]? = some (Cn, T, N)) (hin : ∀ w ∈ u_ws Cn T N, w ∈ lw_gd) (k : Nat) (hk : k < N) {index : Nat} (hl : Cond.fieldLink own index (T k).1 (T k).2.1 (T k).2.2.1 ∈ lw_gd) {v : Value} (hv : fs[k]? = some v) (hdg : decode cc pc = .ok (.getfield index, 3)) (kk : W p l e R s m args below meth c H locs 0 0 Q (F0 m (pc + 3) ls (v :: rest))) : W p l e R s m args below meth c H locs 0 0 Q (F0 m pc ls (.ref a :: rest)) :=
  va_get C.hx C.hb C.hts hin C.hown hB.K hB.P q0 he hc k hk (C.hts _ hl) (fun _ h => h) hv hdg kk
theorem g_put (C : KX p s m args meth c own cc nL ret) (hB : GB D wd tys L s H locs I J) (q0 : Nat) {a ci : Nat} {fs : List Value} {Cn : String} {T : u_T} {N : Nat} (he : (wd I J)[q0]? = some (a, .inr (ci, fs))) (hc : classes[ci]? = some (Cn, T, N)) (hin : ∀ w ∈ u_ws Cn T N, w ∈ lw_gd) (ty0 : Nat → FieldType) (hty : ∀ k, k < N → parseFieldDescriptor (T k).2.2.1 = some (ty0 k)) (hnm : ∀ a, a < N → ∀ b, b < N → a ≠ b → (T a).2.1 ≠ (T b).2.1) (k : Nat) (hk : k < N) {index : Nat} (hl : Cond.fieldLink own index (T k).1 (T k).2.1 (T k).2.2.1 ∈ lw_gd) (hfin : (T k).2.2.2 = false) {v : Value} (hn : narrow (ty0 k) v = v) (hfit : fits (ty0 k) v = true) (hlen : k < fs.length)
    (heq : (wd I J).set q0 (a, .inr (ci, fs.set k v)) = wd I' J') (hdg : decode cc pc = .ok (.putfield index, 3)) (kk : ∀ (H1 : Heap) (locs1 : List Loc), GB D wd tys L s H1 locs1 I' J' → W p l e R s m args below meth c H1 locs1 0 0 Q (F0 m (pc + 3) ls rest)) : W p l e R s m args below meth c H locs 0 0 Q (F0 m pc ls (v :: .ref a :: rest)) := by
  refine va_put C.hx C.hb C.hts hin ty0 hty hnm C.hown hB.K hB.P hB.D' hB.S q0 he hc k hk (C.hts _ hl) (fun _ h => h) hfin (hty k hk) hn hfit hlen hdg (fun H1 locs1 hP hD hS => ?_)
  rw [heq] at hP hD
  exact kk H1 locs1 ⟨hP, hD, hB.K, hS, hB.N⟩
theorem g_iald (C : KX p s m args meth c own cc nL ret) (hB : GB D wd tys L s H locs I J) (q0 t0 : Nat) {a : Nat} {cA : ClassId} {f : Nat → Int32} (ha : (wd I J)[q0]? = some (a, .inl (cA, 16, .inl f))) (ht : tys[t0]? = some (cA, .int)) {i : Int32} (hin : okx i) (hdg : decode cc pc = .ok (.iaload, 1)) (kk : W p l e R s m args below meth c H locs 0 0 Q (F0 m (pc + 1) ls (.int (f i.toNatClampNeg) :: rest))) : W p l e R s m args below meth c H locs 0 0 Q (F0 m pc ls (.int i :: .ref a :: rest)) :=
  va_iald C.hx C.hb hB.K hB.P q0 t0 ha ht (okx_in hin) hdg kk
theorem g_zald (C : KX p s m args meth c own cc nL ret) (hB : GB D wd tys L s H locs I J) (q0 t0 : Nat) {a : Nat} {cA : ClassId} {f : Nat → Int32} (ha : (wd I J)[q0]? = some (a, .inl (cA, 16, .inl f))) (ht : tys[t0]? = some (cA, .boolean)) {i : Int32} (hin : okx i) (hdg : decode cc pc = .ok (.baload, 1)) (kk : W p l e R s m args below meth c H locs 0 0 Q (F0 m (pc + 1) ls (.int (f i.toNatClampNeg) :: rest))) : W p l e R s m args below meth c H locs 0 0 Q (F0 m pc ls (.int i :: .ref a :: rest)) :=
  va_zald C.hx C.hb hB.K hB.P q0 t0 ha ht (okx_in hin) hdg kk
theorem g_lald (C : KX p s m args meth c own cc nL ret) (hB : GB D wd tys L s H locs I J) (q0 t0 : Nat) {a : Nat} {cA : ClassId} {f : Nat → Int64} (ha : (wd I J)[q0]? = some (a, .inl (cA, 16, .inr (.inl f)))) (ht : tys[t0]? = some (cA, .long)) {i : Int32} (hin : okx i) (hdg : decode cc pc = .ok (.laload, 1)) (kk : W p l e R s m args below meth c H locs 0 0 Q (F0 m (pc + 1) ls (.long (f i.toNatClampNeg) :: rest))) : W p l e R s m args below meth c H locs 0 0 Q (F0 m pc ls (.int i :: .ref a :: rest)) :=
  va_lald C.hx C.hb hB.K hB.P q0 t0 ha ht (okx_in hin) hdg kk
theorem g_aald (C : KX p s m args meth c own cc nL ret) (hB : GB D wd tys L s H locs I J) (q0 t0 : Nat) {a : Nat} {cA : ClassId} {f : Nat → Nat} {Cn : String} (ha : (wd I J)[q0]? = some (a, .inl (cA, 16, .inr (.inr (.inr (.inr (fun k => some (f k)))))))) (ht : tys[t0]? = some (cA, .object Cn)) {i : Int32} (hin : okx i) (hdg : decode cc pc = .ok (.aaload, 1)) (kk : W p l e R s m args below meth c H locs 0 0 Q (F0 m (pc + 1) ls (.ref (f i.toNatClampNeg) :: rest))) : W p l e R s m args below meth c H locs 0 0 Q (F0 m pc ls (.int i :: .ref a :: rest)) :=
  va_aldq C.hx C.hb hB.K hB.P q0 t0 ha ht (okx_in hin) hdg kk
theorem g_iast (C : KX p s m args meth c own cc nL ret) (hB : GB D wd tys L s H locs I J) (q0 t0 : Nat) {a : Nat} {cA : ClassId} {f : Nat → Int32} (ha : (wd I J)[q0]? = some (a, .inl (cA, 16, .inl f))) (ht : tys[t0]? = some (cA, .int)) {i x : Int32} (hin : okx i) (heq : (wd I J).set q0 (a, .inl (cA, 16, .inl (upd f i.toNatClampNeg x))) = wd I' J') (hdg : decode cc pc = .ok (.iastore, 1)) (kk : ∀ (H1 : Heap) (locs1 : List Loc), GB D wd tys L s H1 locs1 I' J' → W p l e R s m args below meth c H1 locs1 0 0 Q (F0 m (pc + 1) ls rest)) : W p l e R s m args below meth c H locs 0 0 Q (F0 m pc ls (.int x :: .int i :: .ref a :: rest)) := by
  refine va_iast C.hx C.hb hB.K hB.P hB.D' hB.S q0 t0 ha ht (okx_in hin) hdg (fun H1 locs1 hP hD hS => ?_)
  rw [heq] at hP hD
  exact kk H1 locs1 ⟨hP, hD, hB.K, hS, hB.N⟩
theorem g_zast (C : KX p s m args meth c own cc nL ret) (hB : GB D wd tys L s H locs I J) (q0 t0 : Nat) {a : Nat} {cA : ClassId} {f : Nat → Int32} (ha : (wd I J)[q0]? = some (a, .inl (cA, 16, .inl f))) (ht : tys[t0]? = some (cA, .boolean)) {i x : Int32} (hin : okx i) (heq : (wd I J).set q0 (a, .inl (cA, 16, .inl (upd f i.toNatClampNeg (vp_nar .boolean x)))) = wd I' J') (hdg : decode cc pc = .ok (.bastore, 1)) (kk : ∀ (H1 : Heap) (locs1 : List Loc), GB D wd tys L s H1 locs1 I' J' → W p l e R s m args below meth c H1 locs1 0 0 Q (F0 m (pc + 1) ls rest)) : W p l e R s m args below meth c H locs 0 0 Q (F0 m pc ls (.int x :: .int i :: .ref a :: rest)) := by
  refine va_zast C.hx C.hb hB.K hB.P hB.D' hB.S q0 t0 ha ht (okx_in hin) hdg (fun H1 locs1 hP hD hS => ?_)
  rw [heq] at hP hD
  exact kk H1 locs1 ⟨hP, hD, hB.K, hS, hB.N⟩
theorem g_last (C : KX p s m args meth c own cc nL ret) (hB : GB D wd tys L s H locs I J) (q0 t0 : Nat) {a : Nat} {cA : ClassId} {f : Nat → Int64} (ha : (wd I J)[q0]? = some (a, .inl (cA, 16, .inr (.inl f)))) (ht : tys[t0]? = some (cA, .long)) {i : Int32} {x : Int64} (hin : okx i) (heq : (wd I J).set q0 (a, .inl (cA, 16, .inr (.inl (vp_updL f i.toNatClampNeg x)))) = wd I' J') (hdg : decode cc pc = .ok (.lastore, 1)) (kk : ∀ (H1 : Heap) (locs1 : List Loc), GB D wd tys L s H1 locs1 I' J' → W p l e R s m args below meth c H1 locs1 0 0 Q (F0 m (pc + 1) ls rest)) : W p l e R s m args below meth c H locs 0 0 Q (F0 m pc ls (.long x :: .int i :: .ref a :: rest)) := by
  refine va_last C.hx C.hb hB.K hB.P hB.D' hB.S q0 t0 ha ht (okx_in hin) hdg (fun H1 locs1 hP hD hS => ?_)
  rw [heq] at hP hD
  exact kk H1 locs1 ⟨hP, hD, hB.K, hS, hB.N⟩
-- calls
theorem gpre_blind {sz : Nat} {As : List Value} : FrameBlind (va_Pc As (gPre D wd tys sz I J)) := fun a U g mk q => by
  obtain ⟨q0, q1, qP, qK, qD, qN⟩ := q
  exact ⟨q0, q1, qP, va_K.moved (u := U) (U := U.calling g mk a) (Vm.Alike.refl U.vm) qK, qD, xN.same (s := U) (U := U.calling g mk a) rfl qN⟩
theorem gpre_at (hB : GB D wd tys L s H locs I J) {As : List Value} : ∀ U : State, U.heap = H → s.WarmedH U.vm → va_Pc As (gPre D wd tys H.size I J) As.toArray U := fun U hU hW =>
  ⟨rfl, by rw [hU], by rw [hU]; exact hB.P, va_K.moved hW.alike hB.K, hB.D'.weaken (fun _ _ _ _ => trivial), xN.warm hW hB.N⟩
variable {y : MethodName} {cy : ByteArray} {ny : Nat} {rety : Option FieldType} {rm : Room} {Qc : Array Value → State → Outcome → State → Prop} {free : Addr → Prop} {b index : Nat} {As : List Value}
theorem g_runV (C : KX p s m args meth c own cc nL ret) (hB : GB D wd tys L s H locs I J) (As : List Value) (rest : List Value) (hM : Met l y (wsm y cy ny rety) rm (va_Pc (.ref b :: As) (gPre D wd tys H.size I J)) Qc 0 0 free) (q0 : Nat) {ci : Nat} {fs : List Value} {Cn : String} {T : u_T} {N : Nat} (he : (wd I J)[q0]? = some (b, .inr (ci, fs))) (hc : classes[ci]? = some (Cn, T, N)) (h1 : Cond.methodLink own index y ∈ lw_gd) (h2 : Cond.instanceMethod y ∈ lw_gd) (h3 : Cond.selects Cn y y ∈ lw_gd) (h4 : Cond.initialized Cn ∈ lw_gd) (h : Cond.code y cy ny rety ∈ lw_gd)
    (hrm : rm.cells = 0 ∧ rm.slots = 0) (hd : y.cls = Cn ∧ y.cls ≠ "java/lang/invoke/MethodHandle" ∧ y.cls ≠ "java/lang/invoke/VarHandle" ∧ (parseMethodDescriptor y.desc).map (fun d => d.parameters.length) = some As.length) (hR : rm.frames + 1 ≤ R.frames ∧ 8 + (ny + 11) + rm.locals ≤ R.locals) (hsz : ls.size = nL) (hst : st0 = As.reverse ++ .ref b :: rest) (hW : (rest.map fun v => v.category).sum ≤ 8) (hdg : decode cc pc = .ok (.invokevirtual index, 3)) : va_Run p l e R s m args below meth c H locs 0 0 0 0 (F0 m pc ls st0) rest (Qc (Value.ref b :: As).toArray) free := by
  subst hst
  exact va_runV C.fix hM (cwV As.length C.hts (good_V h1 h2 h3 h4 h) rfl hrm.1 hrm.2 hd hR) ⟨gpre_blind, va_recv hB.K hB.P hc he, gpre_at hB⟩ rfl rfl hsz rfl (lv_room hW) hdg ⟨Nat.zero_le _, Nat.zero_le _⟩
theorem g_runS (C : KX p s m args meth c own cc nL ret) (hB : GB D wd tys L s H locs I J) (As : List Value) (rest : List Value) (hM : Met l y (wsm y cy ny rety) rm (va_Pc As (gPre D wd tys H.size I J)) Qc 0 0 free) (h1 : Cond.methodLink own index y ∈ lw_gd) (h2 : Cond.static y ∈ lw_gd) (h4 : Cond.initialized own ∈ lw_gd) (h : Cond.code y cy ny rety ∈ lw_gd)
    (hrm : rm.cells = 0 ∧ rm.slots = 0) (hd : y.cls = own ∧ y.cls ≠ "java/lang/invoke/MethodHandle" ∧ y.cls ≠ "java/lang/invoke/VarHandle" ∧ (parseMethodDescriptor y.desc).map (fun d => d.parameters.length) = some As.length) (hR : rm.frames + 1 ≤ R.frames ∧ 8 + (ny + 11) + rm.locals ≤ R.locals) (hsz : ls.size = nL) (hst : st0 = As.reverse ++ rest) (hW : (rest.map fun v => v.category).sum ≤ 8) (hdg : decode cc pc = .ok (.invokestatic index, 3)) : va_Run p l e R s m args below meth c H locs 0 0 0 0 (F0 m pc ls st0) rest (Qc As.toArray) free := by
  subst hst
  exact va_runS C.fix hM (cwS As.length C.hts (good_S h1 h2 h4 h) rfl hrm.1 hrm.2 hd hR) ⟨gpre_blind, gpre_at hB⟩ rfl rfl hsz rfl (lv_room hW) hdg ⟨Nat.zero_le _, Nat.zero_le _⟩
theorem g_runSN (C : KX p s m args meth c own cc nL ret) (hB : GB D wd tys L s H locs I J) (As : List Value) (rest : List Value) {host : String} (hM : Met l y (wsm y cy ny rety) rm (va_Pc As (gPre D wd tys H.size I J)) Qc 0 0 free) (h1 : va_Nw (.methodLinkNest own index y host) s) (h2 : Cond.static y ∈ lw_gd) (h4 : Cond.initialized y.cls ∈ lw_gd) (h : Cond.code y cy ny rety ∈ lw_gd)
    (hrm : rm.cells = 0 ∧ rm.slots = 0) (hd : y.cls ≠ "java/lang/invoke/MethodHandle" ∧ y.cls ≠ "java/lang/invoke/VarHandle" ∧ (parseMethodDescriptor y.desc).map (fun d => d.parameters.length) = some As.length) (hR : rm.frames + 1 ≤ R.frames ∧ 8 + (ny + 11) + rm.locals ≤ R.locals) (hsz : ls.size = nL) (hst : st0 = As.reverse ++ rest) (hW : (rest.map fun v => v.category).sum ≤ 8) (hdg : decode cc pc = .ok (.invokestatic index, 3)) : va_Run p l e R s m args below meth c H locs 0 0 0 0 (F0 m pc ls st0) rest (Qc As.toArray) free := by
  subst hst
  exact va_runSN C.fix hM ⟨va_cnB As.length C.hts (good_wsm h) rfl hrm.1 hrm.2 h1 (C.hts _ h4) hd hR, C.hts _ h2, trivial⟩ ⟨gpre_blind, gpre_at hB⟩ rfl rfl hsz rfl (lv_room hW) hdg ⟨Nat.zero_le _, Nat.zero_le _⟩
theorem g_goi (hB : GB D wd tys L s H locs I J) {a : Array Value} {r : Int32} (hr : va_Run p l e R s m args below meth c H locs 0 0 0 0 (F0 m pc ls st0) rest (gQi D wd tys L H.size (r, I', J') a) (gA L H.size)) (kk : ∀ (H1 : Heap) (locs1 : List Loc), GB D wd tys L s H1 locs1 I' J' → W p l e R s m args below meth c H1 locs1 0 0 Q (F0 m (pc + 3) ls (.int r :: rest))) : W p l e R s m args below meth c H locs 0 0 Q (F0 m pc ls st0) := by
  refine va_calli hr hB.S (fun q _ h => gA_mono hB.S.1 h) (fun q h => gA_mono hB.S.1 h) (fun r' u t H1 locs1 ht hvm hw hBt hz hk hS => ?_)
  cases hw
  obtain ⟨hP1, hK1, hD1⟩ := hBt
  rw [ht] at hP1
  exact kk H1 locs1 ⟨hP1, hD1.weaken (fun _ _ _ h => gA_mono hB.S.1 h), hB.K, hS, hB.N⟩
theorem g_gol (hB : GB D wd tys L s H locs I J) {a : Array Value} {r : Int64} (hr : va_Run p l e R s m args below meth c H locs 0 0 0 0 (F0 m pc ls st0) rest (gQl D wd tys L H.size (r, I', J') a) (gA L H.size)) (kk : ∀ (H1 : Heap) (locs1 : List Loc), GB D wd tys L s H1 locs1 I' J' → W p l e R s m args below meth c H1 locs1 0 0 Q (F0 m (pc + 3) ls (.long r :: rest))) : W p l e R s m args below meth c H locs 0 0 Q (F0 m pc ls st0) := by
  refine va_calll hr hB.S (fun q _ h => gA_mono hB.S.1 h) (fun q h => gA_mono hB.S.1 h) (fun r' u t H1 locs1 ht hvm hw hBt hz hk hS => ?_)
  cases hw
  obtain ⟨hP1, hK1, hD1⟩ := hBt
  rw [ht] at hP1
  exact kk H1 locs1 ⟨hP1, hD1.weaken (fun _ _ _ h => gA_mono hB.S.1 h), hB.K, hS, hB.N⟩
theorem g_god (hB : GB D wd tys L s H locs I J) {a : Array Value} {r : UInt64} (hr : va_Run p l e R s m args below meth c H locs 0 0 0 0 (F0 m pc ls st0) rest (gQd D wd tys L H.size (r, I', J') a) (gA L H.size)) (kk : ∀ (H1 : Heap) (locs1 : List Loc), GB D wd tys L s H1 locs1 I' J' → W p l e R s m args below meth c H1 locs1 0 0 Q (F0 m (pc + 3) ls (.double r :: rest))) : W p l e R s m args below meth c H locs 0 0 Q (F0 m pc ls st0) := by
  refine va_calld hr hB.S (fun q _ h => gA_mono hB.S.1 h) (fun q h => gA_mono hB.S.1 h) (fun r' u t H1 locs1 ht hvm hw hBt hz hk hS => ?_)
  cases hw
  obtain ⟨hP1, hK1, hD1⟩ := hBt
  rw [ht] at hP1
  exact kk H1 locs1 ⟨hP1, hD1.weaken (fun _ _ _ h => gA_mono hB.S.1 h), hB.K, hS, hB.N⟩
theorem g_gov (hB : GB D wd tys L s H locs I J) {a : Array Value} {r : Unit} (hr : va_Run p l e R s m args below meth c H locs 0 0 0 0 (F0 m pc ls st0) rest (gQv D wd tys L H.size (r, I', J') a) (gA L H.size)) (kk : ∀ (H1 : Heap) (locs1 : List Loc), GB D wd tys L s H1 locs1 I' J' → W p l e R s m args below meth c H1 locs1 0 0 Q (F0 m (pc + 3) ls rest)) : W p l e R s m args below meth c H locs 0 0 Q (F0 m pc ls st0) := by
  refine va_callv hr hB.S (fun q _ h => gA_mono hB.S.1 h) (fun q h => gA_mono hB.S.1 h) (fun u t H1 locs1 ht hvm hw hBt hz hk hS => ?_)
  cases hw
  obtain ⟨hP1, hK1, hD1⟩ := hBt
  rw [ht] at hP1
  exact kk H1 locs1 ⟨hP1, hD1.weaken (fun _ _ _ h => gA_mono hB.S.1 h), hB.K, hS, hB.N⟩
-- returns
theorem g_post (hB : GB D wd tys L s H locs I J) {t : State} (ht : t.heap = H) (hW : s.WarmedH t.vm) : gPost D wd tys L s.heap.size (I, J) t := ⟨by rw [ht]; exact hB.P, va_K.moved hW.alike hB.K, hB.D'⟩
theorem g_iret (C : KX p s m args meth c own cc nL (some .int)) (hB : GB D wd tys L s H locs I J) {r : Int32} {z : Int32 × SS} (h : some (r, I, J) = some z) (hdg : decode cc pc = .ok (.ireturn, 1)) : W p l e R s m args below meth c H locs 0 0 (MQ below (gQi D wd tys L s.heap.size z) args s 0 0 (gA L s.heap.size)) (F0 m pc ls [.int r]) := by
  cases h
  exact W.iret C.hx C.hb C.hr (fun t ht hW => ⟨⟨r, (I, J), rfl, rfl, g_post hB ht hW⟩, hB.S.F ht⟩) hB.S.2.2 hdg C.hlk
theorem g_zret (C : KX p s m args meth c own cc nL (some .boolean)) (hB : GB D wd tys L s H locs I J) {r : Int32} {z : Int32 × SS} (h : some (r, I, J) = some z) (hn : narrow .boolean (.int r) = .int r) (hdg : decode cc pc = .ok (.ireturn, 1)) : W p l e R s m args below meth c H locs 0 0 (MQ below (gQi D wd tys L s.heap.size z) args s 0 0 (gA L s.heap.size)) (F0 m pc ls [.int r]) := by
  cases h
  exact W.zret C.hx C.hb C.hr hn (fun t ht hW => ⟨⟨r, (I, J), rfl, rfl, g_post hB ht hW⟩, hB.S.F ht⟩) hB.S.2.2 hdg C.hlk
theorem g_lret (C : KX p s m args meth c own cc nL (some .long)) (hB : GB D wd tys L s H locs I J) {r : Int64} {z : Int64 × SS} (h : some (r, I, J) = some z) (hdg : decode cc pc = .ok (.lreturn, 1)) : W p l e R s m args below meth c H locs 0 0 (MQ below (gQl D wd tys L s.heap.size z) args s 0 0 (gA L s.heap.size)) (F0 m pc ls [.long r]) := by
  cases h
  exact W.lret C.hx C.hb C.hr (fun t ht hW => ⟨⟨r, (I, J), rfl, rfl, g_post hB ht hW⟩, hB.S.F ht⟩) hB.S.2.2 hdg C.hlk
theorem g_dret (C : KX p s m args meth c own cc nL (some .double)) (hB : GB D wd tys L s H locs I J) {r : UInt64} {z : UInt64 × SS} (h : some (r, I, J) = some z) (hdg : decode cc pc = .ok (.dreturn, 1)) : W p l e R s m args below meth c H locs 0 0 (MQ below (gQd D wd tys L s.heap.size z) args s 0 0 (gA L s.heap.size)) (F0 m pc ls [.double r]) := by
  cases h
  exact W.dret C.hx C.hb C.hr (fun t ht hW => ⟨⟨r, (I, J), rfl, rfl, g_post hB ht hW⟩, hB.S.F ht⟩) hB.S.2.2 hdg C.hlk
theorem g_fret (C : KX p s m args meth c own cc nL (some .float)) (hB : GB D wd tys L s H locs I J) {r : UInt32} {z : UInt32 × SS} (h : some (r, I, J) = some z) (hdg : decode cc pc = .ok (.freturn, 1)) : W p l e R s m args below meth c H locs 0 0 (MQ below (gQf D wd tys L s.heap.size z) args s 0 0 (gA L s.heap.size)) (F0 m pc ls [.float r]) := by
  cases h
  exact W.fret C.hx C.hb C.hr (fun t ht hW => ⟨⟨r, (I, J), rfl, rfl, g_post hB ht hW⟩, hB.S.F ht⟩) hB.S.2.2 hdg C.hlk
theorem g_vret (C : KX p s m args meth c own cc nL none) (hB : GB D wd tys L s H locs I J) {z : Unit × SS} (h : some ((), I, J) = some z) (hdg : decode cc pc = .ok (.return_, 1)) : W p l e R s m args below meth c H locs 0 0 (MQ below (gQv D wd tys L s.heap.size z) args s 0 0 (gA L s.heap.size)) (F0 m pc ls []) := by
  cases h
  exact W.vret C.hx C.hb C.hr (fun t ht hW => ⟨⟨(I, J), rfl, rfl, g_post hB ht hW⟩, hB.S.F ht⟩) hB.S.2.2 hdg C.hlk
-- a contract's entry
theorem g_met {Qc : Array Value → State → Outcome → State → Prop} {d : Nat} (hy : plainName y.cls = true) (hWL : ∀ (I : TI) (J : TJ) (k : Nat) (q : Nat × va_E), (wd I J)[k]? = some q → q.1 ∈ L) {sz : Nat}
    (body : ∀ p e s m below meth c, s.heap.size = sz → KX p s m As.toArray meth c y.cls cy ny rety → GB D wd tys L s s.heap [] I J → ∀ ls : Array Slot, lv_has ls ny (lv_args 0 As) → W p l e (rmd d) s m As.toArray below meth c s.heap [] 0 0 (MQ below Qc As.toArray s 0 0 (gA L sz)) (F0 m 0 ls [])) (hlen : (lg_sl As).length ≤ ny) :
    Met l y (wsm y cy ny rety) (rmd d) (va_Pc As (gPre D wd tys sz I J)) Qc 0 0 (gA L sz) := by
  refine Met.ofW (cc := cy) (maxL := ny) (ret := rety) hy rfl ?_
  intro p e s m args below meth c s₁ B hml hv
  obtain ⟨rfl, hsz, hP, hK, hD0, hN⟩ := hv
  have hts := atoms_spec (ws := wsm y cy ny rety) B.pre
  have hl := lv_entry As (n := ny) hlen
  rw [lg_entry_eq]
  generalize (lg_sl As ++ List.replicate (ny - (lg_sl As).length) Slot.unset).toArray = ls at hl ⊢
  exact body p e s m below meth c hsz ⟨B.exec, B.bytes, hml, findClass_of_methodNamed B.named, fun w h => hts w (List.mem_cons_of_mem _ h), B.returns, B.notSynchronized⟩ ⟨hP, hD0.weaken (fun k q hk _ => Or.inl (hWL I J k q hk)), hK, va_S.rf, hN⟩ ls hl
-- compares of longs
theorem g_lcmp_le (C : KX p s m args meth c own cc nL ret) {x y : Int64} {off : Int} {tgt : Nat} (h1 : decode cc pc = .ok (.lcmp, 1)) (h2 : decode cc (pc + 1) = .ok (.ifCond .le off, 3)) (ht : ((pc + 1 : Nat) : Int) + off = (tgt : Int)) (kt : x ≤ y → W p l e R s m args below meth c H locs 0 0 Q (F0 m tgt ls rest)) (kf : ¬ x ≤ y → W p l e R s m args below meth c H locs 0 0 Q (F0 m (pc + 1 + 3) ls rest)) : W p l e R s m args below meth c H locs 0 0 Q (F0 m pc ls (.long y :: .long x :: rest)) := by
  refine W.lcmp C.hx C.hb h1 ?_
  have e : (lg_cmp x y ≤ 0) ↔ x ≤ y := by
    unfold lg_cmp
    simp only [gt_iff_lt, Int64.lt_iff_toInt_lt, Int64.le_iff_toInt_le, ← Int64.toInt_inj]
    repeat' split
    all_goals simp_all
    all_goals omega
  exact lv_if_le C.hx C.hb h2 ht (fun h => kt (e.mp h)) (fun h => kf (fun z => h (e.mpr z)))
theorem g_lcmp_ge (C : KX p s m args meth c own cc nL ret) {x y : Int64} {off : Int} {tgt : Nat} (h1 : decode cc pc = .ok (.lcmp, 1)) (h2 : decode cc (pc + 1) = .ok (.ifCond .ge off, 3)) (ht : ((pc + 1 : Nat) : Int) + off = (tgt : Int)) (kt : y ≤ x → W p l e R s m args below meth c H locs 0 0 Q (F0 m tgt ls rest)) (kf : ¬ y ≤ x → W p l e R s m args below meth c H locs 0 0 Q (F0 m (pc + 1 + 3) ls rest)) : W p l e R s m args below meth c H locs 0 0 Q (F0 m pc ls (.long y :: .long x :: rest)) := by
  refine W.lcmp C.hx C.hb h1 ?_
  exact lv_if_ge C.hx C.hb h2 ht (fun h => kt ((lg_cmp_ge x y).mp h)) (fun h => kf (fun z => h ((lg_cmp_ge x y).mpr z)))
theorem g_lcmp_lt (C : KX p s m args meth c own cc nL ret) {x y : Int64} {off : Int} {tgt : Nat} (h1 : decode cc pc = .ok (.lcmp, 1)) (h2 : decode cc (pc + 1) = .ok (.ifCond .lt off, 3)) (ht : ((pc + 1 : Nat) : Int) + off = (tgt : Int)) (kt : x < y → W p l e R s m args below meth c H locs 0 0 Q (F0 m tgt ls rest)) (kf : ¬ x < y → W p l e R s m args below meth c H locs 0 0 Q (F0 m (pc + 1 + 3) ls rest)) : W p l e R s m args below meth c H locs 0 0 Q (F0 m pc ls (.long y :: .long x :: rest)) := by
  refine W.lcmp C.hx C.hb h1 ?_
  have e : (lg_cmp x y < 0) ↔ x < y := by
    unfold lg_cmp
    simp only [gt_iff_lt, Int64.lt_iff_toInt_lt, Int64.le_iff_toInt_le, ← Int64.toInt_inj]
    repeat' split
    all_goals simp_all
    all_goals omega
  exact lv_if_lt C.hx C.hb h2 ht (fun h => kt (e.mp h)) (fun h => kf (fun z => h (e.mpr z)))
theorem g_lcmp_gt (C : KX p s m args meth c own cc nL ret) {x y : Int64} {off : Int} {tgt : Nat} (h1 : decode cc pc = .ok (.lcmp, 1)) (h2 : decode cc (pc + 1) = .ok (.ifCond .gt off, 3)) (ht : ((pc + 1 : Nat) : Int) + off = (tgt : Int)) (kt : y < x → W p l e R s m args below meth c H locs 0 0 Q (F0 m tgt ls rest)) (kf : ¬ y < x → W p l e R s m args below meth c H locs 0 0 Q (F0 m (pc + 1 + 3) ls rest)) : W p l e R s m args below meth c H locs 0 0 Q (F0 m pc ls (.long y :: .long x :: rest)) := by
  refine W.lcmp C.hx C.hb h1 ?_
  have e : (0 < lg_cmp x y) ↔ y < x := by
    unfold lg_cmp
    simp only [gt_iff_lt, Int64.lt_iff_toInt_lt, Int64.le_iff_toInt_le, ← Int64.toInt_inj]
    repeat' split
    all_goals simp_all
    all_goals omega
  exact lv_if_gt C.hx C.hb h2 ht (fun h => kt (e.mp h)) (fun h => kf (fun z => h (e.mpr z)))
theorem lg_cmp_zero (x y : Int64) : lg_cmp x y = 0 ↔ x = y := by
  unfold lg_cmp
  simp only [gt_iff_lt, Int64.lt_iff_toInt_lt, Int64.le_iff_toInt_le, ← Int64.toInt_inj]
  repeat' split
  all_goals simp_all
  all_goals omega
theorem g_lcmp_eq (C : KX p s m args meth c own cc nL ret) {x y : Int64} {off : Int} {tgt : Nat} (h1 : decode cc pc = .ok (.lcmp, 1)) (h2 : decode cc (pc + 1) = .ok (.ifCond .eq off, 3)) (ht : ((pc + 1 : Nat) : Int) + off = (tgt : Int)) (kt : x = y → W p l e R s m args below meth c H locs 0 0 Q (F0 m tgt ls rest)) (kf : ¬ x = y → W p l e R s m args below meth c H locs 0 0 Q (F0 m (pc + 1 + 3) ls rest)) : W p l e R s m args below meth c H locs 0 0 Q (F0 m pc ls (.long y :: .long x :: rest)) := by
  refine W.lcmp C.hx C.hb h1 ?_
  exact lv_if_eq C.hx C.hb h2 ht (fun h => kt ((lg_cmp_zero x y).mp h)) (fun h => kf (fun z => h ((lg_cmp_zero x y).mpr z)))
theorem g_lcmp_ne (C : KX p s m args meth c own cc nL ret) {x y : Int64} {off : Int} {tgt : Nat} (h1 : decode cc pc = .ok (.lcmp, 1)) (h2 : decode cc (pc + 1) = .ok (.ifCond .ne off, 3)) (ht : ((pc + 1 : Nat) : Int) + off = (tgt : Int)) (kt : ¬ x = y → W p l e R s m args below meth c H locs 0 0 Q (F0 m tgt ls rest)) (kf : x = y → W p l e R s m args below meth c H locs 0 0 Q (F0 m (pc + 1 + 3) ls rest)) : W p l e R s m args below meth c H locs 0 0 Q (F0 m pc ls (.long y :: .long x :: rest)) := by
  refine W.lcmp C.hx C.hb h1 ?_
  exact lv_if_ne C.hx C.hb h2 ht (fun h => kt (fun z => h ((lg_cmp_zero x y).mpr z))) (fun h => kf ((lg_cmp_zero x y).mp h))
end GX
theorem ts_ne {x : Int32} {k : Int} (y : Int32) (hy : y.toInt = k) (h : ¬ x = y) : x.toInt ≠ k := fun e => h (Int32.toInt_inj.mp (e.trans hy.symm))
end
section
/-! the words of the tables, one by one -/
theorem tm_0 {w : Cond} (h : w ∈ k2_sels lw_privs) : w ∈ lw_tbl := List.mem_append_left _ h
theorem tm_1 {w : Cond} (h : w ∈ tables_1_1) : w ∈ lw_tbl := List.mem_append_right _ (List.mem_append_left _ h)
theorem tm_2 {w : Cond} (h : w ∈ tables_1_2) : w ∈ lw_tbl := List.mem_append_right _ (List.mem_append_right _ (List.mem_append_left _ h))
theorem tm_3 {w : Cond} (h : w ∈ tables_1_3) : w ∈ lw_tbl := List.mem_append_right _ (List.mem_append_right _ (List.mem_append_right _ (List.mem_append_left _ h)))
theorem tm_4 {w : Cond} (h : w ∈ tables_1_4) : w ∈ lw_tbl := List.mem_append_right _ (List.mem_append_right _ (List.mem_append_right _ (List.mem_append_right _ h)))
set_option maxRecDepth 20000 in
theorem tw_0 : Cond.selects "BitTuner$Value" yX2_spanProduct yX2_spanProduct ∈ lw_gd := gd_of (tm_0 (List.mem_of_getElem? (i := 0) rfl)) rfl
set_option maxRecDepth 20000 in
theorem tw_1 : Cond.selects "BitTuner$Value" yX2_spanAmount yX2_spanAmount ∈ lw_gd := gd_of (tm_0 (List.mem_of_getElem? (i := 1) rfl)) rfl
set_option maxRecDepth 20000 in
theorem tw_2 : Cond.selects "BitTuner$Widths" yX3_tryAsTold yX3_tryAsTold ∈ lw_gd := gd_of (tm_0 (List.mem_of_getElem? (i := 2) rfl)) rfl
set_option maxRecDepth 20000 in
theorem tw_3 : Cond.selects "BitTuner$Widths" yX3_boundTried yX3_boundTried ∈ lw_gd := gd_of (tm_0 (List.mem_of_getElem? (i := 3) rfl)) rfl
set_option maxRecDepth 20000 in
theorem tw_4 : Cond.selects "BitTuner$Widths" yX3_boundFromParts yX3_boundFromParts ∈ lw_gd := gd_of (tm_0 (List.mem_of_getElem? (i := 4) rfl)) rfl
set_option maxRecDepth 20000 in
theorem tw_5 : Cond.selects "BitTuner$Widths" yX3_boundOfProduct yX3_boundOfProduct ∈ lw_gd := gd_of (tm_0 (List.mem_of_getElem? (i := 5) rfl)) rfl
set_option maxRecDepth 20000 in
theorem tw_6 : Cond.selects "BitTuner$Runs" yX1_workOut yX1_workOut ∈ lw_gd := gd_of (tm_0 (List.mem_of_getElem? (i := 6) rfl)) rfl
set_option maxRecDepth 20000 in
theorem tw_7 : Cond.selects "BitTuner$Runs" yX1_toFirstRow yX1_toFirstRow ∈ lw_gd := gd_of (tm_0 (List.mem_of_getElem? (i := 7) rfl)) rfl
set_option maxRecDepth 20000 in
theorem tw_8 : Cond.selects "BitTuner$Runs" yX1_keepRow yX1_keepRow ∈ lw_gd := gd_of (tm_0 (List.mem_of_getElem? (i := 8) rfl)) rfl
set_option maxRecDepth 20000 in
theorem tw_9 : Cond.selects "BitTuner$Runs" yX1_toNextRow yX1_toNextRow ∈ lw_gd := gd_of (tm_0 (List.mem_of_getElem? (i := 9) rfl)) rfl
set_option maxRecDepth 20000 in
theorem tw_10 : Cond.selects "BitTuner$Widths" yX3_tryWidest yX3_tryWidest ∈ lw_gd := gd_of (tm_0 (List.mem_of_getElem? (i := 10) rfl)) rfl
set_option maxRecDepth 20000 in
theorem tw_11 : Cond.selects "BitTuner$Widths" yX3_choose yX3_choose ∈ lw_gd := gd_of (tm_0 (List.mem_of_getElem? (i := 11) rfl)) rfl
set_option maxRecDepth 20000 in
theorem tw_12 : Cond.selects "BitTuner$Widths" yX3_take yX3_take ∈ lw_gd := gd_of (tm_0 (List.mem_of_getElem? (i := 12) rfl)) rfl
set_option maxRecDepth 20000 in
theorem tw_13 : Cond.selects "BitTuner$Widths" yX3_lessen yX3_lessen ∈ lw_gd := gd_of (tm_0 (List.mem_of_getElem? (i := 13) rfl)) rfl
set_option maxRecDepth 20000 in
theorem tw_14 : Cond.selects "BitTunerModel" yX5_lays yX5_lays ∈ lw_gd := gd_of (tm_0 (List.mem_of_getElem? (i := 14) rfl)) rfl
set_option maxRecDepth 20000 in
theorem tw_15 : Cond.selects "BitTunerModel" yX5_isValue yX5_isValue ∈ lw_gd := gd_of (tm_0 (List.mem_of_getElem? (i := 15) rfl)) rfl
set_option maxRecDepth 20000 in
theorem tw_16 : Cond.selects "BitTunerModel" yX5_isWork yX5_isWork ∈ lw_gd := gd_of (tm_0 (List.mem_of_getElem? (i := 16) rfl)) rfl
set_option maxRecDepth 20000 in
theorem tw_17 : Cond.selects "BitTunerModel" yX5_bound yX5_bound ∈ lw_gd := gd_of (tm_0 (List.mem_of_getElem? (i := 17) rfl)) rfl
set_option maxRecDepth 20000 in
theorem tw_18 : Cond.selects "BitTunerModel" yX5_greatest yX5_greatest ∈ lw_gd := gd_of (tm_0 (List.mem_of_getElem? (i := 18) rfl)) rfl
set_option maxRecDepth 20000 in
theorem tw_19 : Cond.selects "BitTunerModel" yX5_isInput yX5_isInput ∈ lw_gd := gd_of (tm_0 (List.mem_of_getElem? (i := 19) rfl)) rfl
set_option maxRecDepth 20000 in
theorem tw_20 : Cond.selects "BitTunerModel" yX5_isOf yX5_isOf ∈ lw_gd := gd_of (tm_0 (List.mem_of_getElem? (i := 20) rfl)) rfl
set_option maxRecDepth 20000 in
theorem tw_21 : Cond.selects "BitTunerModel" yX5_runs yX5_runs ∈ lw_gd := gd_of (tm_0 (List.mem_of_getElem? (i := 21) rfl)) rfl
set_option maxRecDepth 20000 in
theorem tw_22 : Cond.selects "BitTunerModel" yX5_missNow yX5_missNow ∈ lw_gd := gd_of (tm_0 (List.mem_of_getElem? (i := 22) rfl)) rfl
set_option maxRecDepth 20000 in
theorem tw_23 : Cond.selects "BitTunerModel" yX5_keep yX5_keep ∈ lw_gd := gd_of (tm_0 (List.mem_of_getElem? (i := 23) rfl)) rfl
set_option maxRecDepth 20000 in
theorem tw_24 : Cond.selects "BitTunerModel" yX5_goesOn yX5_goesOn ∈ lw_gd := gd_of (tm_0 (List.mem_of_getElem? (i := 24) rfl)) rfl
set_option maxRecDepth 20000 in
theorem tw_25 : Cond.selects "BitTunerModel" yX5_restore yX5_restore ∈ lw_gd := gd_of (tm_0 (List.mem_of_getElem? (i := 25) rfl)) rfl
set_option maxRecDepth 20000 in
theorem tw_26 : Cond.selects "BitTunerModel" yX5_works yX5_works ∈ lw_gd := gd_of (tm_0 (List.mem_of_getElem? (i := 26) rfl)) rfl
set_option maxRecDepth 20000 in
theorem tw_27 : Cond.selects "BitTunerModel" yX5_save yX5_save ∈ lw_gd := gd_of (tm_0 (List.mem_of_getElem? (i := 27) rfl)) rfl
set_option maxRecDepth 20000 in
theorem tw_28 : Cond.selects "BitTunerModel" yX5_setAll yX5_setAll ∈ lw_gd := gd_of (tm_0 (List.mem_of_getElem? (i := 28) rfl)) rfl
set_option maxRecDepth 20000 in
theorem tw_29 : Cond.selects "BitTunerModel" yX5_choosesOn yX5_choosesOn ∈ lw_gd := gd_of (tm_0 (List.mem_of_getElem? (i := 29) rfl)) rfl
set_option maxRecDepth 20000 in
theorem tw_30 : Cond.selects "BitTunerModel" yX5_take yX5_take ∈ lw_gd := gd_of (tm_0 (List.mem_of_getElem? (i := 30) rfl)) rfl
set_option maxRecDepth 20000 in
theorem tw_31 : Cond.selects "BitTunerModel" yX5_gainOf yX5_gainOf ∈ lw_gd := gd_of (tm_0 (List.mem_of_getElem? (i := 31) rfl)) rfl
set_option maxRecDepth 20000 in
theorem tw_32 : Cond.initialized "BitTunerLaw" ∈ lw_gd := gd_of (tm_1 (List.mem_of_getElem? (i := 0) rfl)) rfl
set_option maxRecDepth 20000 in
theorem tw_33 : Cond.initialized "BitTuner" ∈ lw_gd := gd_of (tm_1 (List.mem_of_getElem? (i := 1) rfl)) rfl
set_option maxRecDepth 20000 in
theorem tw_34 : Cond.initialized "BitTuner$Program" ∈ lw_gd := gd_of (tm_1 (List.mem_of_getElem? (i := 2) rfl)) rfl
set_option maxRecDepth 20000 in
theorem tw_35 : Cond.initialized "BitTuner$Value" ∈ lw_gd := gd_of (tm_1 (List.mem_of_getElem? (i := 3) rfl)) rfl
set_option maxRecDepth 20000 in
theorem tw_36 : Cond.initialized "BitTuner$Runs" ∈ lw_gd := gd_of (tm_1 (List.mem_of_getElem? (i := 4) rfl)) rfl
set_option maxRecDepth 20000 in
theorem tw_37 : Cond.initialized "BitTuner$Widths" ∈ lw_gd := gd_of (tm_1 (List.mem_of_getElem? (i := 5) rfl)) rfl
set_option maxRecDepth 20000 in
theorem tw_38 : Cond.initialized "BitTunerModel" ∈ lw_gd := gd_of (tm_1 (List.mem_of_getElem? (i := 6) rfl)) rfl
set_option maxRecDepth 20000 in
theorem tw_39 : Cond.initialized "java/lang/Math" ∈ lw_gd := gd_of (tm_1 (List.mem_of_getElem? (i := 7) rfl)) rfl
set_option maxRecDepth 20000 in
theorem tw_40 : Cond.initialized "java/lang/System" ∈ lw_gd := gd_of (tm_1 (List.mem_of_getElem? (i := 8) rfl)) rfl
set_option maxRecDepth 20000 in
theorem tw_41 : Cond.classLink "BitTunerLaw" 7 "BitTuner" ∈ lw_gd := gd_of (tm_1 (List.mem_of_getElem? (i := 9) rfl)) rfl
set_option maxRecDepth 20000 in
theorem tw_42 : Cond.instantiable "BitTuner" 3 ∈ lw_gd := gd_of (tm_1 (List.mem_of_getElem? (i := 10) rfl)) rfl
set_option maxRecDepth 20000 in
theorem tw_43 : Cond.methodLink "BitTunerLaw" 9 yX4_init ∈ lw_gd := gd_of (tm_1 (List.mem_of_getElem? (i := 11) rfl)) rfl
set_option maxRecDepth 20000 in
theorem tw_44 : Cond.instanceMethod yX4_init ∈ lw_gd := gd_of (tm_1 (List.mem_of_getElem? (i := 12) rfl)) rfl
set_option maxRecDepth 20000 in
theorem tw_45 : Cond.code yX4_init cX4_init 1 none ∈ lw_gd := gd_of (tm_1 (List.mem_of_getElem? (i := 13) rfl)) rfl
set_option maxRecDepth 20000 in
theorem tw_46 : Cond.methodLink "BitTuner" 1 objectInit ∈ lw_gd := gd_of (tm_1 (List.mem_of_getElem? (i := 14) rfl)) rfl
set_option maxRecDepth 20000 in
theorem tw_47 : Cond.instanceMethod objectInit ∈ lw_gd := gd_of (tm_1 (List.mem_of_getElem? (i := 15) rfl)) rfl
set_option maxRecDepth 20000 in
theorem tw_48 : Cond.code objectInit ⟨#[0xb1]⟩ 1 none ∈ lw_gd := gd_of (tm_1 (List.mem_of_getElem? (i := 16) rfl)) rfl
set_option maxRecDepth 20000 in
theorem tw_49 : Cond.classLink "BitTuner" 7 "BitTuner$Program" ∈ lw_gd := gd_of (tm_1 (List.mem_of_getElem? (i := 17) rfl)) rfl
set_option maxRecDepth 20000 in
theorem tw_50 : Cond.instantiable "BitTuner$Program" 2 ∈ lw_gd := gd_of (tm_1 (List.mem_of_getElem? (i := 18) rfl)) rfl
set_option maxRecDepth 20000 in
theorem tw_51 : Cond.methodLink "BitTuner" 9 yX0_init ∈ lw_gd := gd_of (tm_1 (List.mem_of_getElem? (i := 19) rfl)) rfl
set_option maxRecDepth 20000 in
theorem tw_52 : Cond.instanceMethod yX0_init ∈ lw_gd := gd_of (tm_1 (List.mem_of_getElem? (i := 20) rfl)) rfl
set_option maxRecDepth 20000 in
theorem tw_53 : Cond.code yX0_init cX0_init 2 none ∈ lw_gd := gd_of (tm_1 (List.mem_of_getElem? (i := 21) rfl)) rfl
set_option maxRecDepth 20000 in
theorem tw_54 : Cond.methodLink "BitTuner$Program" 3 objectInit ∈ lw_gd := gd_of (tm_1 (List.mem_of_getElem? (i := 22) rfl)) rfl
set_option maxRecDepth 20000 in
theorem tw_55 : Cond.classLink "BitTuner$Program" 9 "BitTuner$Value" ∈ lw_gd := gd_of (tm_1 (List.mem_of_getElem? (i := 23) rfl)) rfl
set_option maxRecDepth 20000 in
theorem tw_57 : Cond.instantiable "BitTuner$Value" 11 ∈ lw_gd := gd_of (tm_1 (List.mem_of_getElem? (i := 25) rfl)) rfl
set_option maxRecDepth 20000 in
theorem tw_59 : Cond.instanceMethod yX2_init ∈ lw_gd := gd_of (tm_1 (List.mem_of_getElem? (i := 27) rfl)) rfl
set_option maxRecDepth 20000 in
theorem tw_60 : Cond.code yX2_init cX2_init 1 none ∈ lw_gd := gd_of (tm_1 (List.mem_of_getElem? (i := 28) rfl)) rfl
set_option maxRecDepth 20000 in
theorem tw_61 : Cond.methodLink "BitTuner$Value" 3 objectInit ∈ lw_gd := gd_of (tm_1 (List.mem_of_getElem? (i := 29) rfl)) rfl
set_option maxRecDepth 20000 in
theorem tw_62 : Cond.fieldLink "BitTuner$Value" 9 "BitTuner$Value" "kind" "I" ∈ lw_gd := gd_of (tm_1 (List.mem_of_getElem? (i := 30) rfl)) rfl
set_option maxRecDepth 20000 in
theorem tw_63 : Cond.fieldLink "BitTuner$Program" 26 "BitTuner$Value" "kind" "I" ∈ lw_gd := gd_of (tm_1 (List.mem_of_getElem? (i := 31) rfl)) rfl
set_option maxRecDepth 20000 in
theorem tw_64 : Cond.fieldLink "BitTuner$Runs" 55 "BitTuner$Value" "kind" "I" ∈ lw_gd := gd_of (tm_1 (List.mem_of_getElem? (i := 32) rfl)) rfl
set_option maxRecDepth 20000 in
theorem tw_65 : Cond.fieldLink "BitTuner" 75 "BitTuner$Value" "kind" "I" ∈ lw_gd := gd_of (tm_1 (List.mem_of_getElem? (i := 33) rfl)) rfl
set_option maxRecDepth 20000 in
theorem tw_66 : Cond.fieldLink "BitTuner$Widths" 109 "BitTuner$Value" "kind" "I" ∈ lw_gd := gd_of (tm_1 (List.mem_of_getElem? (i := 34) rfl)) rfl
set_option maxRecDepth 20000 in
theorem tw_67 : Cond.fieldLink "BitTuner$Value" 15 "BitTuner$Value" "a" "I" ∈ lw_gd := gd_of (tm_1 (List.mem_of_getElem? (i := 35) rfl)) rfl
set_option maxRecDepth 20000 in
theorem tw_68 : Cond.fieldLink "BitTuner$Runs" 65 "BitTuner$Value" "a" "I" ∈ lw_gd := gd_of (tm_1 (List.mem_of_getElem? (i := 36) rfl)) rfl
set_option maxRecDepth 20000 in
theorem tw_69 : Cond.fieldLink "BitTuner" 78 "BitTuner$Value" "a" "I" ∈ lw_gd := gd_of (tm_1 (List.mem_of_getElem? (i := 37) rfl)) rfl
set_option maxRecDepth 20000 in
theorem tw_70 : Cond.fieldLink "BitTuner$Widths" 106 "BitTuner$Value" "a" "I" ∈ lw_gd := gd_of (tm_1 (List.mem_of_getElem? (i := 38) rfl)) rfl
set_option maxRecDepth 20000 in
theorem tw_71 : Cond.fieldLink "BitTuner$Value" 18 "BitTuner$Value" "b" "I" ∈ lw_gd := gd_of (tm_1 (List.mem_of_getElem? (i := 39) rfl)) rfl
set_option maxRecDepth 20000 in
theorem tw_72 : Cond.fieldLink "BitTuner$Runs" 62 "BitTuner$Value" "b" "I" ∈ lw_gd := gd_of (tm_1 (List.mem_of_getElem? (i := 40) rfl)) rfl
set_option maxRecDepth 20000 in
theorem tw_73 : Cond.fieldLink "BitTuner" 81 "BitTuner$Value" "b" "I" ∈ lw_gd := gd_of (tm_1 (List.mem_of_getElem? (i := 41) rfl)) rfl
set_option maxRecDepth 20000 in
theorem tw_74 : Cond.fieldLink "BitTuner$Widths" 115 "BitTuner$Value" "b" "I" ∈ lw_gd := gd_of (tm_1 (List.mem_of_getElem? (i := 42) rfl)) rfl
set_option maxRecDepth 20000 in
theorem tw_75 : Cond.fieldLink "BitTuner$Value" 21 "BitTuner$Value" "degree" "I" ∈ lw_gd := gd_of (tm_1 (List.mem_of_getElem? (i := 43) rfl)) rfl
set_option maxRecDepth 20000 in
theorem tw_76 : Cond.fieldLink "BitTuner" 84 "BitTuner$Value" "degree" "I" ∈ lw_gd := gd_of (tm_1 (List.mem_of_getElem? (i := 44) rfl)) rfl
set_option maxRecDepth 20000 in
theorem tw_77 : Cond.fieldLink "BitTuner$Value" 24 "BitTuner$Value" "bits" "I" ∈ lw_gd := gd_of (tm_1 (List.mem_of_getElem? (i := 45) rfl)) rfl
set_option maxRecDepth 20000 in
theorem tw_78 : Cond.fieldLink "BitTuner$Runs" 79 "BitTuner$Value" "bits" "I" ∈ lw_gd := gd_of (tm_1 (List.mem_of_getElem? (i := 46) rfl)) rfl
set_option maxRecDepth 20000 in
theorem tw_79 : Cond.fieldLink "BitTuner" 60 "BitTuner$Value" "bits" "I" ∈ lw_gd := gd_of (tm_1 (List.mem_of_getElem? (i := 47) rfl)) rfl
set_option maxRecDepth 20000 in
theorem tw_80 : Cond.fieldLink "BitTuner$Program" 53 "BitTuner$Value" "bits" "I" ∈ lw_gd := gd_of (tm_1 (List.mem_of_getElem? (i := 48) rfl)) rfl
set_option maxRecDepth 20000 in
theorem tw_81 : Cond.fieldLink "BitTuner$Widths" 103 "BitTuner$Value" "bits" "I" ∈ lw_gd := gd_of (tm_1 (List.mem_of_getElem? (i := 49) rfl)) rfl
set_option maxRecDepth 20000 in
theorem tw_82 : Cond.fieldLink "BitTuner$Value" 27 "BitTuner$Value" "rounding" "I" ∈ lw_gd := gd_of (tm_1 (List.mem_of_getElem? (i := 50) rfl)) rfl
set_option maxRecDepth 20000 in
theorem tw_83 : Cond.fieldLink "BitTuner$Runs" 82 "BitTuner$Value" "rounding" "I" ∈ lw_gd := gd_of (tm_1 (List.mem_of_getElem? (i := 51) rfl)) rfl
set_option maxRecDepth 20000 in
theorem tw_84 : Cond.fieldLink "BitTuner" 65 "BitTuner$Value" "rounding" "I" ∈ lw_gd := gd_of (tm_1 (List.mem_of_getElem? (i := 52) rfl)) rfl
set_option maxRecDepth 20000 in
theorem tw_85 : Cond.fieldLink "BitTuner$Widths" 130 "BitTuner$Value" "rounding" "I" ∈ lw_gd := gd_of (tm_1 (List.mem_of_getElem? (i := 53) rfl)) rfl
set_option maxRecDepth 20000 in
theorem tw_86 : Cond.fieldLink "BitTuner$Value" 30 "BitTuner$Value" "weight" "I" ∈ lw_gd := gd_of (tm_1 (List.mem_of_getElem? (i := 54) rfl)) rfl
set_option maxRecDepth 20000 in
theorem tw_87 : Cond.fieldLink "BitTuner" 68 "BitTuner$Value" "weight" "I" ∈ lw_gd := gd_of (tm_1 (List.mem_of_getElem? (i := 55) rfl)) rfl
set_option maxRecDepth 20000 in
theorem tw_88 : Cond.fieldLink "BitTuner$Program" 50 "BitTuner$Value" "weight" "I" ∈ lw_gd := gd_of (tm_1 (List.mem_of_getElem? (i := 56) rfl)) rfl
set_option maxRecDepth 20000 in
theorem tw_89 : Cond.fieldLink "BitTuner$Widths" 97 "BitTuner$Value" "weight" "I" ∈ lw_gd := gd_of (tm_1 (List.mem_of_getElem? (i := 57) rfl)) rfl
set_option maxRecDepth 20000 in
theorem tw_90 : Cond.fieldLink "BitTuner$Value" 36 "BitTuner$Value" "low" "J" ∈ lw_gd := gd_of (tm_1 (List.mem_of_getElem? (i := 58) rfl)) rfl
set_option maxRecDepth 20000 in
theorem tw_91 : Cond.fieldLink "BitTuner$Runs" 109 "BitTuner$Value" "low" "J" ∈ lw_gd := gd_of (tm_1 (List.mem_of_getElem? (i := 59) rfl)) rfl
set_option maxRecDepth 20000 in
theorem tw_92 : Cond.fieldLink "BitTuner" 87 "BitTuner$Value" "low" "J" ∈ lw_gd := gd_of (tm_1 (List.mem_of_getElem? (i := 60) rfl)) rfl
set_option maxRecDepth 20000 in
theorem tw_93 : Cond.fieldLink "BitTuner$Value" 40 "BitTuner$Value" "high" "J" ∈ lw_gd := gd_of (tm_1 (List.mem_of_getElem? (i := 61) rfl)) rfl
set_option maxRecDepth 20000 in
theorem tw_94 : Cond.fieldLink "BitTuner$Runs" 105 "BitTuner$Value" "high" "J" ∈ lw_gd := gd_of (tm_1 (List.mem_of_getElem? (i := 62) rfl)) rfl
set_option maxRecDepth 20000 in
theorem tw_95 : Cond.fieldLink "BitTuner" 91 "BitTuner$Value" "high" "J" ∈ lw_gd := gd_of (tm_1 (List.mem_of_getElem? (i := 63) rfl)) rfl
set_option maxRecDepth 20000 in
theorem tw_96 : Cond.fieldLink "BitTuner$Value" 53 "BitTuner$Value" "reach" "J" ∈ lw_gd := gd_of (tm_1 (List.mem_of_getElem? (i := 64) rfl)) rfl
set_option maxRecDepth 20000 in
theorem tw_97 : Cond.fieldLink "BitTuner$Widths" 139 "BitTuner$Value" "reach" "J" ∈ lw_gd := gd_of (tm_1 (List.mem_of_getElem? (i := 65) rfl)) rfl
set_option maxRecDepth 20000 in
theorem tw_98 : Cond.fieldLink "BitTuner$Runs" 35 "BitTuner$Value" "units" "I" ∈ lw_gd := gd_of (tm_1 (List.mem_of_getElem? (i := 66) rfl)) rfl
set_option maxRecDepth 20000 in
theorem tw_99 : Cond.fieldLink "BitTuner$Value" 33 "BitTuner$Value" "units" "I" ∈ lw_gd := gd_of (tm_1 (List.mem_of_getElem? (i := 67) rfl)) rfl
set_option maxRecDepth 20000 in
theorem tw_100 : Cond.fieldLink "BitTuner" 107 "BitTuner$Value" "units" "I" ∈ lw_gd := gd_of (tm_1 (List.mem_of_getElem? (i := 68) rfl)) rfl
set_option maxRecDepth 20000 in
theorem tw_124 : Cond.fieldLink "BitTuner$Program" 11 "BitTuner$Program" "values" "[LBitTuner$Value;" ∈ lw_gd := gd_of (tm_1 (List.mem_of_getElem? (i := 92) rfl)) rfl
set_option maxRecDepth 20000 in
theorem tw_125 : Cond.fieldLink "BitTuner$Runs" 29 "BitTuner$Program" "values" "[LBitTuner$Value;" ∈ lw_gd := gd_of (tm_1 (List.mem_of_getElem? (i := 93) rfl)) rfl
set_option maxRecDepth 20000 in
theorem tw_126 : Cond.fieldLink "BitTuner" 56 "BitTuner$Program" "values" "[LBitTuner$Value;" ∈ lw_gd := gd_of (tm_1 (List.mem_of_getElem? (i := 94) rfl)) rfl
set_option maxRecDepth 20000 in
theorem tw_127 : Cond.fieldLink "BitTuner$Widths" 87 "BitTuner$Program" "values" "[LBitTuner$Value;" ∈ lw_gd := gd_of (tm_1 (List.mem_of_getElem? (i := 95) rfl)) rfl
set_option maxRecDepth 20000 in
theorem tw_128 : Cond.fieldLink "BitTuner$Program" 18 "BitTuner$Program" "many" "I" ∈ lw_gd := gd_of (tm_1 (List.mem_of_getElem? (i := 96) rfl)) rfl
set_option maxRecDepth 20000 in
theorem tw_129 : Cond.fieldLink "BitTuner" 49 "BitTuner$Program" "many" "I" ∈ lw_gd := gd_of (tm_1 (List.mem_of_getElem? (i := 97) rfl)) rfl
set_option maxRecDepth 20000 in
theorem tw_130 : Cond.fieldLink "BitTuner$Widths" 43 "BitTuner$Program" "many" "I" ∈ lw_gd := gd_of (tm_1 (List.mem_of_getElem? (i := 98) rfl)) rfl
set_option maxRecDepth 20000 in
theorem tw_131 : Cond.fieldLink "BitTuner$Runs" 100 "BitTuner$Program" "many" "I" ∈ lw_gd := gd_of (tm_1 (List.mem_of_getElem? (i := 99) rfl)) rfl
set_option maxRecDepth 20000 in
theorem tw_137 : Cond.classLink "BitTuner" 16 "BitTuner$Runs" ∈ lw_gd := gd_of (tm_1 (List.mem_of_getElem? (i := 105) rfl)) rfl
set_option maxRecDepth 20000 in
theorem tw_138 : Cond.instantiable "BitTuner$Runs" 5 ∈ lw_gd := gd_of (tm_1 (List.mem_of_getElem? (i := 106) rfl)) rfl
set_option maxRecDepth 20000 in
theorem tw_139 : Cond.methodLink "BitTuner" 18 yX1_init ∈ lw_gd := gd_of (tm_1 (List.mem_of_getElem? (i := 107) rfl)) rfl
set_option maxRecDepth 20000 in
theorem tw_140 : Cond.instanceMethod yX1_init ∈ lw_gd := gd_of (tm_1 (List.mem_of_getElem? (i := 108) rfl)) rfl
set_option maxRecDepth 20000 in
theorem tw_141 : Cond.code yX1_init cX1_init 3 none ∈ lw_gd := gd_of (tm_1 (List.mem_of_getElem? (i := 109) rfl)) rfl
set_option maxRecDepth 20000 in
theorem tw_142 : Cond.methodLink "BitTuner$Runs" 3 objectInit ∈ lw_gd := gd_of (tm_1 (List.mem_of_getElem? (i := 110) rfl)) rfl
set_option maxRecDepth 20000 in
theorem tw_143 : Cond.fieldLink "BitTuner$Runs" 9 "BitTuner$Runs" "program" "LBitTuner$Program;" ∈ lw_gd := gd_of (tm_1 (List.mem_of_getElem? (i := 111) rfl)) rfl
set_option maxRecDepth 20000 in
theorem tw_144 : Cond.fieldLink "BitTuner$Runs" 15 "BitTuner$Runs" "row" "[I" ∈ lw_gd := gd_of (tm_1 (List.mem_of_getElem? (i := 112) rfl)) rfl
set_option maxRecDepth 20000 in
theorem tw_145 : Cond.fieldLink "BitTuner$Runs" 19 "BitTuner$Runs" "exacts" "[J" ∈ lw_gd := gd_of (tm_1 (List.mem_of_getElem? (i := 113) rfl)) rfl
set_option maxRecDepth 20000 in
theorem tw_146 : Cond.fieldLink "BitTuner" 124 "BitTuner$Runs" "exacts" "[J" ∈ lw_gd := gd_of (tm_1 (List.mem_of_getElem? (i := 114) rfl)) rfl
set_option maxRecDepth 20000 in
theorem tw_147 : Cond.fieldLink "BitTuner$Runs" 23 "BitTuner$Runs" "tuneds" "[J" ∈ lw_gd := gd_of (tm_1 (List.mem_of_getElem? (i := 115) rfl)) rfl
set_option maxRecDepth 20000 in
theorem tw_148 : Cond.fieldLink "BitTuner" 128 "BitTuner$Runs" "tuneds" "[J" ∈ lw_gd := gd_of (tm_1 (List.mem_of_getElem? (i := 116) rfl)) rfl
set_option maxRecDepth 20000 in
theorem tw_149 : Cond.fieldLink "BitTuner$Runs" 26 "BitTuner$Runs" "worstRow" "[I" ∈ lw_gd := gd_of (tm_1 (List.mem_of_getElem? (i := 117) rfl)) rfl
set_option maxRecDepth 20000 in
theorem tw_150 : Cond.fieldLink "BitTuner" 150 "BitTuner$Runs" "worstRow" "[I" ∈ lw_gd := gd_of (tm_1 (List.mem_of_getElem? (i := 118) rfl)) rfl
set_option maxRecDepth 20000 in
theorem tw_164 : Cond.classLink "BitTuner" 25 "BitTuner$Widths" ∈ lw_gd := gd_of (tm_1 (List.mem_of_getElem? (i := 132) rfl)) rfl
set_option maxRecDepth 20000 in
theorem tw_165 : Cond.instantiable "BitTuner$Widths" 5 ∈ lw_gd := gd_of (tm_1 (List.mem_of_getElem? (i := 133) rfl)) rfl
set_option maxRecDepth 20000 in
theorem tw_166 : Cond.methodLink "BitTuner" 27 yX3_init ∈ lw_gd := gd_of (tm_1 (List.mem_of_getElem? (i := 134) rfl)) rfl
set_option maxRecDepth 20000 in
theorem tw_167 : Cond.instanceMethod yX3_init ∈ lw_gd := gd_of (tm_1 (List.mem_of_getElem? (i := 135) rfl)) rfl
set_option maxRecDepth 20000 in
theorem tw_168 : Cond.code yX3_init cX3_init 2 none ∈ lw_gd := gd_of (tm_1 (List.mem_of_getElem? (i := 136) rfl)) rfl
set_option maxRecDepth 20000 in
theorem tw_169 : Cond.methodLink "BitTuner$Widths" 3 objectInit ∈ lw_gd := gd_of (tm_1 (List.mem_of_getElem? (i := 137) rfl)) rfl
set_option maxRecDepth 20000 in
theorem tw_170 : Cond.fieldLink "BitTuner$Widths" 9 "BitTuner$Widths" "program" "LBitTuner$Program;" ∈ lw_gd := gd_of (tm_1 (List.mem_of_getElem? (i := 138) rfl)) rfl
set_option maxRecDepth 20000 in
theorem tw_171 : Cond.fieldLink "BitTuner$Widths" 15 "BitTuner$Widths" "trial" "[I" ∈ lw_gd := gd_of (tm_1 (List.mem_of_getElem? (i := 139) rfl)) rfl
set_option maxRecDepth 20000 in
theorem tw_172 : Cond.fieldLink "BitTuner$Widths" 19 "BitTuner$Widths" "bounds" "[J" ∈ lw_gd := gd_of (tm_1 (List.mem_of_getElem? (i := 140) rfl)) rfl
set_option maxRecDepth 20000 in
theorem tw_173 : Cond.fieldLink "BitTuner$Widths" 23 "BitTuner$Widths" "cheapest" "[I" ∈ lw_gd := gd_of (tm_1 (List.mem_of_getElem? (i := 141) rfl)) rfl
set_option maxRecDepth 20000 in
theorem tw_174 : Cond.fieldLink "BitTuner$Widths" 26 "BitTuner$Widths" "cheapestPrice" "I" ∈ lw_gd := gd_of (tm_1 (List.mem_of_getElem? (i := 142) rfl)) rfl
set_option maxRecDepth 20000 in
theorem tw_186 : Cond.fieldLink "BitTuner" 10 "BitTuner" "program" "LBitTuner$Program;" ∈ lw_gd := gd_of (tm_1 (List.mem_of_getElem? (i := 154) rfl)) rfl
set_option maxRecDepth 20000 in
theorem tw_187 : Cond.fieldLink "BitTuner" 21 "BitTuner" "runs" "LBitTuner$Runs;" ∈ lw_gd := gd_of (tm_1 (List.mem_of_getElem? (i := 155) rfl)) rfl
set_option maxRecDepth 20000 in
theorem tw_188 : Cond.fieldLink "BitTuner" 28 "BitTuner" "widths" "LBitTuner$Widths;" ∈ lw_gd := gd_of (tm_1 (List.mem_of_getElem? (i := 156) rfl)) rfl
set_option maxRecDepth 20000 in
theorem tw_196 : Cond.methodLink "BitTunerLaw" 13 yX4_input ∈ lw_gd := gd_of (tm_1 (List.mem_of_getElem? (i := 164) rfl)) rfl
set_option maxRecDepth 20000 in
theorem tw_197 : Cond.instanceMethod yX4_input ∈ lw_gd := gd_of (tm_1 (List.mem_of_getElem? (i := 165) rfl)) rfl
set_option maxRecDepth 20000 in
theorem tw_198 : Cond.selects "BitTuner" yX4_input yX4_input ∈ lw_gd := gd_of (tm_1 (List.mem_of_getElem? (i := 166) rfl)) rfl
set_option maxRecDepth 20000 in
theorem tw_199 : Cond.code yX4_input cX4_input 3 (some .int) ∈ lw_gd := gd_of (tm_1 (List.mem_of_getElem? (i := 167) rfl)) rfl
set_option maxRecDepth 20000 in
theorem tw_200 : Cond.methodLink "BitTuner" 32 yX4_isGivable ∈ lw_gd := gd_of (tm_1 (List.mem_of_getElem? (i := 168) rfl)) rfl
set_option maxRecDepth 20000 in
theorem tw_201 : Cond.static yX4_isGivable ∈ lw_gd := gd_of (tm_1 (List.mem_of_getElem? (i := 169) rfl)) rfl
set_option maxRecDepth 20000 in
theorem tw_202 : Cond.code yX4_isGivable cX4_isGivable 1 (some .boolean) ∈ lw_gd := gd_of (tm_1 (List.mem_of_getElem? (i := 170) rfl)) rfl
set_option maxRecDepth 20000 in
theorem tw_203 : Cond.methodLink "BitTuner" 104 yX4_isStep ∈ lw_gd := gd_of (tm_1 (List.mem_of_getElem? (i := 171) rfl)) rfl
set_option maxRecDepth 20000 in
theorem tw_204 : Cond.static yX4_isStep ∈ lw_gd := gd_of (tm_1 (List.mem_of_getElem? (i := 172) rfl)) rfl
set_option maxRecDepth 20000 in
theorem tw_205 : Cond.code yX4_isStep cX4_isStep 1 (some .boolean) ∈ lw_gd := gd_of (tm_1 (List.mem_of_getElem? (i := 173) rfl)) rfl
set_option maxRecDepth 20000 in
theorem tw_206 : Cond.constant "BitTuner" 201 (-4194304) ∈ lw_gd := gd_of (tm_1 (List.mem_of_getElem? (i := 174) rfl)) rfl
set_option maxRecDepth 20000 in
theorem tw_207 : Cond.constant "BitTuner" 202 (4194304) ∈ lw_gd := gd_of (tm_1 (List.mem_of_getElem? (i := 175) rfl)) rfl
set_option maxRecDepth 20000 in
theorem tw_208 : Cond.methodLink "BitTuner" 36 yX0_addGiven ∈ lw_gd := gd_of (tm_1 (List.mem_of_getElem? (i := 176) rfl)) rfl
set_option maxRecDepth 20000 in
theorem tw_209 : Cond.instanceMethod yX0_addGiven ∈ lw_gd := gd_of (tm_1 (List.mem_of_getElem? (i := 177) rfl)) rfl
set_option maxRecDepth 20000 in
theorem tw_210 : Cond.selects "BitTuner$Program" yX0_addGiven yX0_addGiven ∈ lw_gd := gd_of (tm_1 (List.mem_of_getElem? (i := 178) rfl)) rfl
set_option maxRecDepth 20000 in
theorem tw_211 : Cond.code yX0_addGiven cX0_addGiven 5 (some .int) ∈ lw_gd := gd_of (tm_1 (List.mem_of_getElem? (i := 179) rfl)) rfl
set_option maxRecDepth 20000 in
theorem tw_212 : Cond.methodLink "BitTuner$Program" 33 yX2_begin ∈ lw_gd := gd_of (tm_1 (List.mem_of_getElem? (i := 180) rfl)) rfl
set_option maxRecDepth 20000 in
theorem tw_213 : Cond.instanceMethod yX2_begin ∈ lw_gd := gd_of (tm_1 (List.mem_of_getElem? (i := 181) rfl)) rfl
set_option maxRecDepth 20000 in
theorem tw_214 : Cond.selects "BitTuner$Value" yX2_begin yX2_begin ∈ lw_gd := gd_of (tm_1 (List.mem_of_getElem? (i := 182) rfl)) rfl
set_option maxRecDepth 20000 in
theorem tw_215 : Cond.code yX2_begin cX2_begin 4 none ∈ lw_gd := gd_of (tm_1 (List.mem_of_getElem? (i := 183) rfl)) rfl
set_option maxRecDepth 20000 in
theorem tw_216 : Cond.methodLink "BitTuner$Program" 37 yX2_spanGiven ∈ lw_gd := gd_of (tm_1 (List.mem_of_getElem? (i := 184) rfl)) rfl
set_option maxRecDepth 20000 in
theorem tw_217 : Cond.instanceMethod yX2_spanGiven ∈ lw_gd := gd_of (tm_1 (List.mem_of_getElem? (i := 185) rfl)) rfl
set_option maxRecDepth 20000 in
theorem tw_218 : Cond.selects "BitTuner$Value" yX2_spanGiven yX2_spanGiven ∈ lw_gd := gd_of (tm_1 (List.mem_of_getElem? (i := 186) rfl)) rfl
set_option maxRecDepth 20000 in
theorem tw_219 : Cond.code yX2_spanGiven cX2_spanGiven 1 none ∈ lw_gd := gd_of (tm_1 (List.mem_of_getElem? (i := 187) rfl)) rfl
set_option maxRecDepth 20000 in
theorem tw_220 : Cond.methodLink "BitTuner$Value" 43 Lib.MathLoose.abs_long.x ∈ lw_gd := gd_of (tm_1 (List.mem_of_getElem? (i := 188) rfl)) rfl
set_option maxRecDepth 20000 in
theorem tw_221 : Cond.static Lib.MathLoose.abs_long.x ∈ lw_gd := gd_of (tm_1 (List.mem_of_getElem? (i := 189) rfl)) rfl
set_option maxRecDepth 20000 in
theorem tw_222 : Cond.code Lib.MathLoose.abs_long.x Lib.MathLoose.abs_long.code 2 (some .long) ∈ lw_gd := gd_of (tm_1 (List.mem_of_getElem? (i := 190) rfl)) rfl
set_option maxRecDepth 20000 in
theorem tw_223 : Cond.methodLink "BitTuner$Value" 49 Lib.MathLoose.max_long.x ∈ lw_gd := gd_of (tm_1 (List.mem_of_getElem? (i := 191) rfl)) rfl
set_option maxRecDepth 20000 in
theorem tw_224 : Cond.static Lib.MathLoose.max_long.x ∈ lw_gd := gd_of (tm_1 (List.mem_of_getElem? (i := 192) rfl)) rfl
set_option maxRecDepth 20000 in
theorem tw_225 : Cond.code Lib.MathLoose.max_long.x Lib.MathLoose.max_long.code 4 (some .long) ∈ lw_gd := gd_of (tm_1 (List.mem_of_getElem? (i := 193) rfl)) rfl
set_option maxRecDepth 20000 in
theorem tw_226 : Cond.methodLink "BitTunerLaw" 18 yX4_fixed ∈ lw_gd := gd_of (tm_1 (List.mem_of_getElem? (i := 194) rfl)) rfl
set_option maxRecDepth 20000 in
theorem tw_227 : Cond.instanceMethod yX4_fixed ∈ lw_gd := gd_of (tm_1 (List.mem_of_getElem? (i := 195) rfl)) rfl
set_option maxRecDepth 20000 in
theorem tw_228 : Cond.selects "BitTuner" yX4_fixed yX4_fixed ∈ lw_gd := gd_of (tm_1 (List.mem_of_getElem? (i := 196) rfl)) rfl
set_option maxRecDepth 20000 in
theorem tw_229 : Cond.code yX4_fixed cX4_fixed 2 (some .int) ∈ lw_gd := gd_of (tm_1 (List.mem_of_getElem? (i := 197) rfl)) rfl
set_option maxRecDepth 20000 in
theorem tw_230 : Cond.methodLink "BitTunerLaw" 23 yX4_work ∈ lw_gd := gd_of (tm_1 (List.mem_of_getElem? (i := 198) rfl)) rfl
set_option maxRecDepth 20000 in
theorem tw_231 : Cond.instanceMethod yX4_work ∈ lw_gd := gd_of (tm_1 (List.mem_of_getElem? (i := 199) rfl)) rfl
set_option maxRecDepth 20000 in
theorem tw_232 : Cond.selects "BitTuner" yX4_work yX4_work ∈ lw_gd := gd_of (tm_1 (List.mem_of_getElem? (i := 200) rfl)) rfl
set_option maxRecDepth 20000 in
theorem tw_233 : Cond.code yX4_work cX4_work 5 (some .int) ∈ lw_gd := gd_of (tm_1 (List.mem_of_getElem? (i := 201) rfl)) rfl
set_option maxRecDepth 20000 in
theorem tw_234 : Cond.methodLink "BitTuner" 40 yX0_has ∈ lw_gd := gd_of (tm_1 (List.mem_of_getElem? (i := 202) rfl)) rfl
set_option maxRecDepth 20000 in
theorem tw_235 : Cond.instanceMethod yX0_has ∈ lw_gd := gd_of (tm_1 (List.mem_of_getElem? (i := 203) rfl)) rfl
set_option maxRecDepth 20000 in
theorem tw_236 : Cond.selects "BitTuner$Program" yX0_has yX0_has ∈ lw_gd := gd_of (tm_1 (List.mem_of_getElem? (i := 204) rfl)) rfl
set_option maxRecDepth 20000 in
theorem tw_237 : Cond.code yX0_has cX0_has 2 (some .boolean) ∈ lw_gd := gd_of (tm_1 (List.mem_of_getElem? (i := 205) rfl)) rfl
set_option maxRecDepth 20000 in
theorem tw_238 : Cond.methodLink "BitTuner" 43 yX4_hasTwoParts ∈ lw_gd := gd_of (tm_1 (List.mem_of_getElem? (i := 206) rfl)) rfl
set_option maxRecDepth 20000 in
theorem tw_239 : Cond.static yX4_hasTwoParts ∈ lw_gd := gd_of (tm_1 (List.mem_of_getElem? (i := 207) rfl)) rfl
set_option maxRecDepth 20000 in
theorem tw_240 : Cond.code yX4_hasTwoParts cX4_hasTwoParts 1 (some .boolean) ∈ lw_gd := gd_of (tm_1 (List.mem_of_getElem? (i := 208) rfl)) rfl
set_option maxRecDepth 20000 in
theorem tw_241 : Cond.methodLink "BitTuner" 46 yX0_addWorked ∈ lw_gd := gd_of (tm_1 (List.mem_of_getElem? (i := 209) rfl)) rfl
set_option maxRecDepth 20000 in
theorem tw_242 : Cond.instanceMethod yX0_addWorked ∈ lw_gd := gd_of (tm_1 (List.mem_of_getElem? (i := 210) rfl)) rfl
set_option maxRecDepth 20000 in
theorem tw_243 : Cond.selects "BitTuner$Program" yX0_addWorked yX0_addWorked ∈ lw_gd := gd_of (tm_1 (List.mem_of_getElem? (i := 211) rfl)) rfl
set_option maxRecDepth 20000 in
theorem tw_244 : Cond.code yX0_addWorked cX0_addWorked 5 (some .int) ∈ lw_gd := gd_of (tm_1 (List.mem_of_getElem? (i := 212) rfl)) rfl
set_option maxRecDepth 20000 in
theorem tw_246 : Cond.methodLink "BitTuner$Program" 43 yX2_spanWorked ∈ lw_gd := gd_of (tm_1 (List.mem_of_getElem? (i := 214) rfl)) rfl
set_option maxRecDepth 20000 in
theorem tw_247 : Cond.instanceMethod yX2_spanWorked ∈ lw_gd := gd_of (tm_1 (List.mem_of_getElem? (i := 215) rfl)) rfl
set_option maxRecDepth 20000 in
theorem tw_248 : Cond.selects "BitTuner$Value" yX2_spanWorked yX2_spanWorked ∈ lw_gd := gd_of (tm_1 (List.mem_of_getElem? (i := 216) rfl)) rfl
set_option maxRecDepth 20000 in
theorem tw_249 : Cond.code yX2_spanWorked cX2_spanWorked 3 none ∈ lw_gd := gd_of (tm_1 (List.mem_of_getElem? (i := 217) rfl)) rfl
set_option maxRecDepth 20000 in
theorem tw_250 : Cond.methodLink "BitTuner$Value" 56 Lib.Math.max.name ∈ lw_gd := gd_of (tm_1 (List.mem_of_getElem? (i := 218) rfl)) rfl
set_option maxRecDepth 20000 in
theorem tw_251 : Cond.static Lib.Math.max.name ∈ lw_gd := gd_of (tm_1 (List.mem_of_getElem? (i := 219) rfl)) rfl
set_option maxRecDepth 20000 in
theorem tw_252 : Cond.code Lib.Math.max.name Lib.Math.max.code 2 (some .int) ∈ lw_gd := gd_of (tm_1 (List.mem_of_getElem? (i := 220) rfl)) rfl
set_option maxRecDepth 20000 in
theorem tw_253 : Cond.methodLink "BitTuner$Value" 59 yX2_spanProduct ∈ lw_gd := gd_of (tm_1 (List.mem_of_getElem? (i := 221) rfl)) rfl
set_option maxRecDepth 20000 in
theorem tw_255 : Cond.instanceMethod yX2_spanProduct ∈ lw_gd := gd_of (tm_1 (List.mem_of_getElem? (i := 223) rfl)) rfl
set_option maxRecDepth 20000 in
theorem tw_256 : Cond.code yX2_spanProduct cX2_spanProduct 11 none ∈ lw_gd := gd_of (tm_1 (List.mem_of_getElem? (i := 224) rfl)) rfl
set_option maxRecDepth 20000 in
theorem tw_257 : Cond.methodLink "BitTuner$Value" 71 Lib.MathLoose.min_long.x ∈ lw_gd := gd_of (tm_1 (List.mem_of_getElem? (i := 225) rfl)) rfl
set_option maxRecDepth 20000 in
theorem tw_258 : Cond.static Lib.MathLoose.min_long.x ∈ lw_gd := gd_of (tm_1 (List.mem_of_getElem? (i := 226) rfl)) rfl
set_option maxRecDepth 20000 in
theorem tw_259 : Cond.code Lib.MathLoose.min_long.x Lib.MathLoose.min_long.code 4 (some .long) ∈ lw_gd := gd_of (tm_1 (List.mem_of_getElem? (i := 227) rfl)) rfl
set_option maxRecDepth 20000 in
theorem tw_260 : Cond.methodLink "BitTuner$Value" 63 yX2_spanAmount ∈ lw_gd := gd_of (tm_1 (List.mem_of_getElem? (i := 228) rfl)) rfl
set_option maxRecDepth 20000 in
theorem tw_262 : Cond.instanceMethod yX2_spanAmount ∈ lw_gd := gd_of (tm_1 (List.mem_of_getElem? (i := 230) rfl)) rfl
set_option maxRecDepth 20000 in
theorem tw_263 : Cond.code yX2_spanAmount cX2_spanAmount 3 none ∈ lw_gd := gd_of (tm_1 (List.mem_of_getElem? (i := 231) rfl)) rfl
set_option maxRecDepth 20000 in
theorem tw_265 : Cond.static yX4_result ∈ lw_gd := gd_of (tm_1 (List.mem_of_getElem? (i := 233) rfl)) rfl
set_option maxRecDepth 20000 in
theorem tw_266 : Cond.code yX4_result cX4_result 5 (some .long) ∈ lw_gd := gd_of (tm_1 (List.mem_of_getElem? (i := 234) rfl)) rfl
set_option maxRecDepth 20000 in
theorem tw_267 : Cond.methodLink "BitTuner" 203 Lib.MathLoose.max_long.x ∈ lw_gd := gd_of (tm_1 (List.mem_of_getElem? (i := 235) rfl)) rfl
set_option maxRecDepth 20000 in
theorem tw_268 : Cond.methodLink "BitTuner" 209 Lib.MathLoose.abs_long.x ∈ lw_gd := gd_of (tm_1 (List.mem_of_getElem? (i := 236) rfl)) rfl
set_option maxRecDepth 20000 in
theorem tw_269 : Cond.methodLink "BitTuner$Program" 47 yX2_isWithinLimits ∈ lw_gd := gd_of (tm_1 (List.mem_of_getElem? (i := 237) rfl)) rfl
set_option maxRecDepth 20000 in
theorem tw_270 : Cond.instanceMethod yX2_isWithinLimits ∈ lw_gd := gd_of (tm_1 (List.mem_of_getElem? (i := 238) rfl)) rfl
set_option maxRecDepth 20000 in
theorem tw_271 : Cond.selects "BitTuner$Value" yX2_isWithinLimits yX2_isWithinLimits ∈ lw_gd := gd_of (tm_1 (List.mem_of_getElem? (i := 239) rfl)) rfl
set_option maxRecDepth 20000 in
theorem tw_272 : Cond.code yX2_isWithinLimits cX2_isWithinLimits 1 (some .boolean) ∈ lw_gd := gd_of (tm_2 (List.mem_of_getElem? (i := 0) rfl)) rfl
set_option maxRecDepth 20000 in
theorem tw_273 : Cond.constantLong "BitTuner$Value" 74 (67108864) ∈ lw_gd := gd_of (tm_2 (List.mem_of_getElem? (i := 1) rfl)) rfl
set_option maxRecDepth 20000 in
theorem tw_274 : Cond.methodLink "BitTunerLaw" 28 yX4_cut ∈ lw_gd := gd_of (tm_2 (List.mem_of_getElem? (i := 2) rfl)) rfl
set_option maxRecDepth 20000 in
theorem tw_275 : Cond.instanceMethod yX4_cut ∈ lw_gd := gd_of (tm_2 (List.mem_of_getElem? (i := 3) rfl)) rfl
set_option maxRecDepth 20000 in
theorem tw_276 : Cond.selects "BitTuner" yX4_cut yX4_cut ∈ lw_gd := gd_of (tm_2 (List.mem_of_getElem? (i := 4) rfl)) rfl
set_option maxRecDepth 20000 in
theorem tw_277 : Cond.code yX4_cut cX4_cut 3 (some .int) ∈ lw_gd := gd_of (tm_2 (List.mem_of_getElem? (i := 5) rfl)) rfl
set_option maxRecDepth 20000 in
theorem tw_278 : Cond.methodLink "BitTunerLaw" 32 yX4_bits ∈ lw_gd := gd_of (tm_2 (List.mem_of_getElem? (i := 6) rfl)) rfl
set_option maxRecDepth 20000 in
theorem tw_279 : Cond.instanceMethod yX4_bits ∈ lw_gd := gd_of (tm_2 (List.mem_of_getElem? (i := 7) rfl)) rfl
set_option maxRecDepth 20000 in
theorem tw_280 : Cond.selects "BitTuner" yX4_bits yX4_bits ∈ lw_gd := gd_of (tm_2 (List.mem_of_getElem? (i := 8) rfl)) rfl
set_option maxRecDepth 20000 in
theorem tw_281 : Cond.code yX4_bits cX4_bits 5 (some .int) ∈ lw_gd := gd_of (tm_2 (List.mem_of_getElem? (i := 9) rfl)) rfl
set_option maxRecDepth 20000 in
theorem tw_282 : Cond.methodLink "BitTuner" 53 yX0_isWorked ∈ lw_gd := gd_of (tm_2 (List.mem_of_getElem? (i := 10) rfl)) rfl
set_option maxRecDepth 20000 in
theorem tw_283 : Cond.instanceMethod yX0_isWorked ∈ lw_gd := gd_of (tm_2 (List.mem_of_getElem? (i := 11) rfl)) rfl
set_option maxRecDepth 20000 in
theorem tw_284 : Cond.selects "BitTuner$Program" yX0_isWorked yX0_isWorked ∈ lw_gd := gd_of (tm_2 (List.mem_of_getElem? (i := 12) rfl)) rfl
set_option maxRecDepth 20000 in
theorem tw_285 : Cond.code yX0_isWorked cX0_isWorked 2 (some .boolean) ∈ lw_gd := gd_of (tm_2 (List.mem_of_getElem? (i := 13) rfl)) rfl
set_option maxRecDepth 20000 in
theorem tw_286 : Cond.methodLink "BitTuner$Program" 22 yX0_has ∈ lw_gd := gd_of (tm_2 (List.mem_of_getElem? (i := 14) rfl)) rfl
set_option maxRecDepth 20000 in
theorem tw_287 : Cond.methodLink "BitTuner$Program" 29 yX2_isGiven ∈ lw_gd := gd_of (tm_2 (List.mem_of_getElem? (i := 15) rfl)) rfl
set_option maxRecDepth 20000 in
theorem tw_288 : Cond.instanceMethod yX2_isGiven ∈ lw_gd := gd_of (tm_2 (List.mem_of_getElem? (i := 16) rfl)) rfl
set_option maxRecDepth 20000 in
theorem tw_289 : Cond.selects "BitTuner$Value" yX2_isGiven yX2_isGiven ∈ lw_gd := gd_of (tm_2 (List.mem_of_getElem? (i := 17) rfl)) rfl
set_option maxRecDepth 20000 in
theorem tw_290 : Cond.code yX2_isGiven cX2_isGiven 1 (some .boolean) ∈ lw_gd := gd_of (tm_2 (List.mem_of_getElem? (i := 18) rfl)) rfl
set_option maxRecDepth 20000 in
theorem tw_291 : Cond.methodLink "BitTunerLaw" 36 yX4_rounding ∈ lw_gd := gd_of (tm_2 (List.mem_of_getElem? (i := 19) rfl)) rfl
set_option maxRecDepth 20000 in
theorem tw_292 : Cond.instanceMethod yX4_rounding ∈ lw_gd := gd_of (tm_2 (List.mem_of_getElem? (i := 20) rfl)) rfl
set_option maxRecDepth 20000 in
theorem tw_293 : Cond.selects "BitTuner" yX4_rounding yX4_rounding ∈ lw_gd := gd_of (tm_2 (List.mem_of_getElem? (i := 21) rfl)) rfl
set_option maxRecDepth 20000 in
theorem tw_294 : Cond.code yX4_rounding cX4_rounding 5 (some .int) ∈ lw_gd := gd_of (tm_2 (List.mem_of_getElem? (i := 22) rfl)) rfl
set_option maxRecDepth 20000 in
theorem tw_295 : Cond.methodLink "BitTunerLaw" 40 yX4_weight ∈ lw_gd := gd_of (tm_2 (List.mem_of_getElem? (i := 23) rfl)) rfl
set_option maxRecDepth 20000 in
theorem tw_296 : Cond.instanceMethod yX4_weight ∈ lw_gd := gd_of (tm_2 (List.mem_of_getElem? (i := 24) rfl)) rfl
set_option maxRecDepth 20000 in
theorem tw_297 : Cond.selects "BitTuner" yX4_weight yX4_weight ∈ lw_gd := gd_of (tm_2 (List.mem_of_getElem? (i := 25) rfl)) rfl
set_option maxRecDepth 20000 in
theorem tw_298 : Cond.code yX4_weight cX4_weight 5 (some .int) ∈ lw_gd := gd_of (tm_2 (List.mem_of_getElem? (i := 26) rfl)) rfl
set_option maxRecDepth 20000 in
theorem tw_299 : Cond.methodLink "BitTunerLaw" 44 yX4_about ∈ lw_gd := gd_of (tm_2 (List.mem_of_getElem? (i := 27) rfl)) rfl
set_option maxRecDepth 20000 in
theorem tw_300 : Cond.instanceMethod yX4_about ∈ lw_gd := gd_of (tm_2 (List.mem_of_getElem? (i := 28) rfl)) rfl
set_option maxRecDepth 20000 in
theorem tw_301 : Cond.selects "BitTuner" yX4_about yX4_about ∈ lw_gd := gd_of (tm_2 (List.mem_of_getElem? (i := 29) rfl)) rfl
set_option maxRecDepth 20000 in
theorem tw_302 : Cond.code yX4_about cX4_about 4 (some .long) ∈ lw_gd := gd_of (tm_2 (List.mem_of_getElem? (i := 30) rfl)) rfl
set_option maxRecDepth 20000 in
theorem tw_303 : Cond.methodLink "BitTuner" 71 yX4_refusal ∈ lw_gd := gd_of (tm_2 (List.mem_of_getElem? (i := 31) rfl)) rfl
set_option maxRecDepth 20000 in
theorem tw_304 : Cond.static yX4_refusal ∈ lw_gd := gd_of (tm_2 (List.mem_of_getElem? (i := 32) rfl)) rfl
set_option maxRecDepth 20000 in
theorem tw_305 : Cond.code yX4_refusal cX4_refusal 1 (some .long) ∈ lw_gd := gd_of (tm_2 (List.mem_of_getElem? (i := 33) rfl)) rfl
set_option maxRecDepth 20000 in
theorem tw_306 : Cond.constantLong "BitTuner" 199 (-9223372036854775808) ∈ lw_gd := gd_of (tm_2 (List.mem_of_getElem? (i := 34) rfl)) rfl
set_option maxRecDepth 20000 in
theorem tw_307 : Cond.methodLink "BitTuner" 94 yX3_boundAsTold ∈ lw_gd := gd_of (tm_2 (List.mem_of_getElem? (i := 35) rfl)) rfl
set_option maxRecDepth 20000 in
theorem tw_308 : Cond.instanceMethod yX3_boundAsTold ∈ lw_gd := gd_of (tm_2 (List.mem_of_getElem? (i := 36) rfl)) rfl
set_option maxRecDepth 20000 in
theorem tw_309 : Cond.selects "BitTuner$Widths" yX3_boundAsTold yX3_boundAsTold ∈ lw_gd := gd_of (tm_2 (List.mem_of_getElem? (i := 37) rfl)) rfl
set_option maxRecDepth 20000 in
theorem tw_310 : Cond.code yX3_boundAsTold cX3_boundAsTold 2 (some .long) ∈ lw_gd := gd_of (tm_2 (List.mem_of_getElem? (i := 38) rfl)) rfl
set_option maxRecDepth 20000 in
theorem tw_311 : Cond.methodLink "BitTuner$Widths" 30 yX3_tryAsTold ∈ lw_gd := gd_of (tm_2 (List.mem_of_getElem? (i := 39) rfl)) rfl
set_option maxRecDepth 20000 in
theorem tw_313 : Cond.instanceMethod yX3_tryAsTold ∈ lw_gd := gd_of (tm_2 (List.mem_of_getElem? (i := 41) rfl)) rfl
set_option maxRecDepth 20000 in
theorem tw_314 : Cond.code yX3_tryAsTold cX3_tryAsTold 2 none ∈ lw_gd := gd_of (tm_2 (List.mem_of_getElem? (i := 42) rfl)) rfl
set_option maxRecDepth 20000 in
theorem tw_315 : Cond.methodLink "BitTuner$Widths" 33 yX3_boundTried ∈ lw_gd := gd_of (tm_2 (List.mem_of_getElem? (i := 43) rfl)) rfl
set_option maxRecDepth 20000 in
theorem tw_317 : Cond.instanceMethod yX3_boundTried ∈ lw_gd := gd_of (tm_2 (List.mem_of_getElem? (i := 45) rfl)) rfl
set_option maxRecDepth 20000 in
theorem tw_318 : Cond.code yX3_boundTried cX3_boundTried 3 (some .long) ∈ lw_gd := gd_of (tm_2 (List.mem_of_getElem? (i := 46) rfl)) rfl
set_option maxRecDepth 20000 in
theorem tw_319 : Cond.methodLink "BitTuner$Widths" 100 yX3_boundFromParts ∈ lw_gd := gd_of (tm_2 (List.mem_of_getElem? (i := 47) rfl)) rfl
set_option maxRecDepth 20000 in
theorem tw_321 : Cond.instanceMethod yX3_boundFromParts ∈ lw_gd := gd_of (tm_2 (List.mem_of_getElem? (i := 49) rfl)) rfl
set_option maxRecDepth 20000 in
theorem tw_322 : Cond.code yX3_boundFromParts cX3_boundFromParts 9 (some .long) ∈ lw_gd := gd_of (tm_2 (List.mem_of_getElem? (i := 50) rfl)) rfl
set_option maxRecDepth 20000 in
theorem tw_323 : Cond.methodLink "BitTuner$Widths" 91 yX2_isGiven ∈ lw_gd := gd_of (tm_2 (List.mem_of_getElem? (i := 51) rfl)) rfl
set_option maxRecDepth 20000 in
theorem tw_325 : Cond.methodLink "BitTuner$Widths" 118 yX3_boundOfProduct ∈ lw_gd := gd_of (tm_2 (List.mem_of_getElem? (i := 53) rfl)) rfl
set_option maxRecDepth 20000 in
theorem tw_327 : Cond.instanceMethod yX3_boundOfProduct ∈ lw_gd := gd_of (tm_2 (List.mem_of_getElem? (i := 55) rfl)) rfl
set_option maxRecDepth 20000 in
theorem tw_328 : Cond.code yX3_boundOfProduct cX3_boundOfProduct 12 (some .long) ∈ lw_gd := gd_of (tm_2 (List.mem_of_getElem? (i := 56) rfl)) rfl
set_option maxRecDepth 20000 in
theorem tw_329 : Cond.constantLong "BitTuner$Widths" 128 (1073741824) ∈ lw_gd := gd_of (tm_2 (List.mem_of_getElem? (i := 57) rfl)) rfl
set_option maxRecDepth 20000 in
theorem tw_330 : Cond.constantLong "BitTuner$Widths" 143 (65535) ∈ lw_gd := gd_of (tm_2 (List.mem_of_getElem? (i := 58) rfl)) rfl
set_option maxRecDepth 20000 in
theorem tw_331 : Cond.methodLink "BitTuner$Widths" 122 Lib.MathLoose.max_long.x ∈ lw_gd := gd_of (tm_2 (List.mem_of_getElem? (i := 59) rfl)) rfl
set_option maxRecDepth 20000 in
theorem tw_332 : Cond.methodLink "BitTuner$Widths" 133 yX3_roundingMiss ∈ lw_gd := gd_of (tm_2 (List.mem_of_getElem? (i := 60) rfl)) rfl
set_option maxRecDepth 20000 in
theorem tw_333 : Cond.static yX3_roundingMiss ∈ lw_gd := gd_of (tm_2 (List.mem_of_getElem? (i := 61) rfl)) rfl
set_option maxRecDepth 20000 in
theorem tw_334 : Cond.code yX3_roundingMiss cX3_roundingMiss 4 (some .long) ∈ lw_gd := gd_of (tm_2 (List.mem_of_getElem? (i := 62) rfl)) rfl
set_option maxRecDepth 20000 in
theorem tw_335 : Cond.constantLong "BitTuner$Widths" 145 (65536) ∈ lw_gd := gd_of (tm_2 (List.mem_of_getElem? (i := 63) rfl)) rfl
set_option maxRecDepth 20000 in
theorem tw_336 : Cond.constantLong "BitTuner$Widths" 147 (2) ∈ lw_gd := gd_of (tm_2 (List.mem_of_getElem? (i := 64) rfl)) rfl
set_option maxRecDepth 20000 in
theorem tw_337 : Cond.methodLink "BitTuner$Widths" 136 Lib.MathLoose.min_long.x ∈ lw_gd := gd_of (tm_2 (List.mem_of_getElem? (i := 65) rfl)) rfl
set_option maxRecDepth 20000 in
theorem tw_338 : Cond.methodLink "BitTunerLaw" 49 yX4_price ∈ lw_gd := gd_of (tm_2 (List.mem_of_getElem? (i := 66) rfl)) rfl
set_option maxRecDepth 20000 in
theorem tw_339 : Cond.instanceMethod yX4_price ∈ lw_gd := gd_of (tm_2 (List.mem_of_getElem? (i := 67) rfl)) rfl
set_option maxRecDepth 20000 in
theorem tw_340 : Cond.selects "BitTuner" yX4_price yX4_price ∈ lw_gd := gd_of (tm_2 (List.mem_of_getElem? (i := 68) rfl)) rfl
set_option maxRecDepth 20000 in
theorem tw_341 : Cond.code yX4_price cX4_price 1 (some .int) ∈ lw_gd := gd_of (tm_2 (List.mem_of_getElem? (i := 69) rfl)) rfl
set_option maxRecDepth 20000 in
theorem tw_342 : Cond.methodLink "BitTuner" 97 yX0_priceInAll ∈ lw_gd := gd_of (tm_2 (List.mem_of_getElem? (i := 70) rfl)) rfl
set_option maxRecDepth 20000 in
theorem tw_343 : Cond.instanceMethod yX0_priceInAll ∈ lw_gd := gd_of (tm_2 (List.mem_of_getElem? (i := 71) rfl)) rfl
set_option maxRecDepth 20000 in
theorem tw_344 : Cond.selects "BitTuner$Program" yX0_priceInAll yX0_priceInAll ∈ lw_gd := gd_of (tm_2 (List.mem_of_getElem? (i := 72) rfl)) rfl
set_option maxRecDepth 20000 in
theorem tw_345 : Cond.code yX0_priceInAll cX0_priceInAll 3 (some .int) ∈ lw_gd := gd_of (tm_2 (List.mem_of_getElem? (i := 73) rfl)) rfl
set_option maxRecDepth 20000 in
theorem tw_346 : Cond.methodLink "BitTunerLaw" 54 yX4_set ∈ lw_gd := gd_of (tm_2 (List.mem_of_getElem? (i := 74) rfl)) rfl
set_option maxRecDepth 20000 in
theorem tw_347 : Cond.instanceMethod yX4_set ∈ lw_gd := gd_of (tm_2 (List.mem_of_getElem? (i := 75) rfl)) rfl
set_option maxRecDepth 20000 in
theorem tw_348 : Cond.selects "BitTuner" yX4_set yX4_set ∈ lw_gd := gd_of (tm_2 (List.mem_of_getElem? (i := 76) rfl)) rfl
set_option maxRecDepth 20000 in
theorem tw_349 : Cond.code yX4_set cX4_set 4 (some .int) ∈ lw_gd := gd_of (tm_2 (List.mem_of_getElem? (i := 77) rfl)) rfl
set_option maxRecDepth 20000 in
theorem tw_350 : Cond.methodLink "BitTuner" 101 yX0_isInput ∈ lw_gd := gd_of (tm_2 (List.mem_of_getElem? (i := 78) rfl)) rfl
set_option maxRecDepth 20000 in
theorem tw_351 : Cond.instanceMethod yX0_isInput ∈ lw_gd := gd_of (tm_2 (List.mem_of_getElem? (i := 79) rfl)) rfl
set_option maxRecDepth 20000 in
theorem tw_352 : Cond.selects "BitTuner$Program" yX0_isInput yX0_isInput ∈ lw_gd := gd_of (tm_2 (List.mem_of_getElem? (i := 80) rfl)) rfl
set_option maxRecDepth 20000 in
theorem tw_353 : Cond.code yX0_isInput cX0_isInput 2 (some .boolean) ∈ lw_gd := gd_of (tm_2 (List.mem_of_getElem? (i := 81) rfl)) rfl
set_option maxRecDepth 20000 in
theorem tw_354 : Cond.methodLink "BitTunerLaw" 60 yX4_enter ∈ lw_gd := gd_of (tm_2 (List.mem_of_getElem? (i := 82) rfl)) rfl
set_option maxRecDepth 20000 in
theorem tw_355 : Cond.instanceMethod yX4_enter ∈ lw_gd := gd_of (tm_2 (List.mem_of_getElem? (i := 83) rfl)) rfl
set_option maxRecDepth 20000 in
theorem tw_356 : Cond.selects "BitTuner" yX4_enter yX4_enter ∈ lw_gd := gd_of (tm_2 (List.mem_of_getElem? (i := 84) rfl)) rfl
set_option maxRecDepth 20000 in
theorem tw_357 : Cond.code yX4_enter cX4_enter 7 (some .int) ∈ lw_gd := gd_of (tm_2 (List.mem_of_getElem? (i := 85) rfl)) rfl
set_option maxRecDepth 20000 in
theorem tw_358 : Cond.constantDouble "BitTuner" 110 (13857576053419016192) ∈ lw_gd := gd_of (tm_2 (List.mem_of_getElem? (i := 86) rfl)) rfl
set_option maxRecDepth 20000 in
theorem tw_359 : Cond.constantDouble "BitTuner" 112 (4634204016564240384) ∈ lw_gd := gd_of (tm_2 (List.mem_of_getElem? (i := 87) rfl)) rfl
set_option maxRecDepth 20000 in
theorem tw_360 : Cond.constantDouble "BitTuner" 114 (4625196817309499392) ∈ lw_gd := gd_of (tm_2 (List.mem_of_getElem? (i := 88) rfl)) rfl
set_option maxRecDepth 20000 in
theorem tw_361 : Cond.methodLink "BitTuner" 116 yX4_set ∈ lw_gd := gd_of (tm_2 (List.mem_of_getElem? (i := 89) rfl)) rfl
set_option maxRecDepth 20000 in
theorem tw_362 : Cond.methodLink "BitTunerLaw" 65 yX4_exact ∈ lw_gd := gd_of (tm_2 (List.mem_of_getElem? (i := 90) rfl)) rfl
set_option maxRecDepth 20000 in
theorem tw_363 : Cond.instanceMethod yX4_exact ∈ lw_gd := gd_of (tm_2 (List.mem_of_getElem? (i := 91) rfl)) rfl
set_option maxRecDepth 20000 in
theorem tw_364 : Cond.selects "BitTuner" yX4_exact yX4_exact ∈ lw_gd := gd_of (tm_2 (List.mem_of_getElem? (i := 92) rfl)) rfl
set_option maxRecDepth 20000 in
theorem tw_365 : Cond.code yX4_exact cX4_exact 2 (some .long) ∈ lw_gd := gd_of (tm_2 (List.mem_of_getElem? (i := 93) rfl)) rfl
set_option maxRecDepth 20000 in
theorem tw_366 : Cond.methodLink "BitTuner" 120 yX1_workOutAsSet ∈ lw_gd := gd_of (tm_2 (List.mem_of_getElem? (i := 94) rfl)) rfl
set_option maxRecDepth 20000 in
theorem tw_367 : Cond.instanceMethod yX1_workOutAsSet ∈ lw_gd := gd_of (tm_2 (List.mem_of_getElem? (i := 95) rfl)) rfl
set_option maxRecDepth 20000 in
theorem tw_368 : Cond.selects "BitTuner$Runs" yX1_workOutAsSet yX1_workOutAsSet ∈ lw_gd := gd_of (tm_2 (List.mem_of_getElem? (i := 96) rfl)) rfl
set_option maxRecDepth 20000 in
theorem tw_369 : Cond.code yX1_workOutAsSet cX1_workOutAsSet 3 none ∈ lw_gd := gd_of (tm_2 (List.mem_of_getElem? (i := 97) rfl)) rfl
set_option maxRecDepth 20000 in
theorem tw_370 : Cond.methodLink "BitTuner$Runs" 41 yX1_workOut ∈ lw_gd := gd_of (tm_2 (List.mem_of_getElem? (i := 98) rfl)) rfl
set_option maxRecDepth 20000 in
theorem tw_372 : Cond.instanceMethod yX1_workOut ∈ lw_gd := gd_of (tm_2 (List.mem_of_getElem? (i := 100) rfl)) rfl
set_option maxRecDepth 20000 in
theorem tw_373 : Cond.code yX1_workOut cX1_workOut 5 none ∈ lw_gd := gd_of (tm_2 (List.mem_of_getElem? (i := 101) rfl)) rfl
set_option maxRecDepth 20000 in
theorem tw_374 : Cond.methodLink "BitTuner$Runs" 51 yX2_isGiven ∈ lw_gd := gd_of (tm_2 (List.mem_of_getElem? (i := 102) rfl)) rfl
set_option maxRecDepth 20000 in
theorem tw_376 : Cond.methodLink "BitTuner$Runs" 68 yX1_exactly ∈ lw_gd := gd_of (tm_2 (List.mem_of_getElem? (i := 104) rfl)) rfl
set_option maxRecDepth 20000 in
theorem tw_377 : Cond.static yX1_exactly ∈ lw_gd := gd_of (tm_2 (List.mem_of_getElem? (i := 105) rfl)) rfl
set_option maxRecDepth 20000 in
theorem tw_378 : Cond.code yX1_exactly cX1_exactly 7 (some .long) ∈ lw_gd := gd_of (tm_2 (List.mem_of_getElem? (i := 106) rfl)) rfl
set_option maxRecDepth 20000 in
theorem tw_380 : Cond.methodLink "BitTuner$Runs" 72 yX1_tunedTo ∈ lw_gd := gd_of (tm_2 (List.mem_of_getElem? (i := 108) rfl)) rfl
set_option maxRecDepth 20000 in
theorem tw_381 : Cond.static yX1_tunedTo ∈ lw_gd := gd_of (tm_2 (List.mem_of_getElem? (i := 109) rfl)) rfl
set_option maxRecDepth 20000 in
theorem tw_382 : Cond.code yX1_tunedTo cX1_tunedTo 9 (some .long) ∈ lw_gd := gd_of (tm_2 (List.mem_of_getElem? (i := 110) rfl)) rfl
set_option maxRecDepth 20000 in
theorem tw_383 : Cond.methodLink "BitTuner$Runs" 85 yX1_rounded ∈ lw_gd := gd_of (tm_2 (List.mem_of_getElem? (i := 111) rfl)) rfl
set_option maxRecDepth 20000 in
theorem tw_384 : Cond.static yX1_rounded ∈ lw_gd := gd_of (tm_2 (List.mem_of_getElem? (i := 112) rfl)) rfl
set_option maxRecDepth 20000 in
theorem tw_385 : Cond.code yX1_rounded cX1_rounded 6 (some .long) ∈ lw_gd := gd_of (tm_2 (List.mem_of_getElem? (i := 113) rfl)) rfl
set_option maxRecDepth 20000 in
theorem tw_386 : Cond.constantLong "BitTuner$Runs" 89 (-2147483648) ∈ lw_gd := gd_of (tm_2 (List.mem_of_getElem? (i := 114) rfl)) rfl
set_option maxRecDepth 20000 in
theorem tw_387 : Cond.constantLong "BitTuner$Runs" 91 (2147483648) ∈ lw_gd := gd_of (tm_2 (List.mem_of_getElem? (i := 115) rfl)) rfl
set_option maxRecDepth 20000 in
theorem tw_388 : Cond.methodLink "BitTuner$Runs" 93 Lib.MathLoose.min_long.x ∈ lw_gd := gd_of (tm_2 (List.mem_of_getElem? (i := 116) rfl)) rfl
set_option maxRecDepth 20000 in
theorem tw_389 : Cond.methodLink "BitTuner$Runs" 97 Lib.MathLoose.max_long.x ∈ lw_gd := gd_of (tm_2 (List.mem_of_getElem? (i := 117) rfl)) rfl
set_option maxRecDepth 20000 in
theorem tw_390 : Cond.methodLink "BitTunerLaw" 70 yX4_tuned ∈ lw_gd := gd_of (tm_2 (List.mem_of_getElem? (i := 118) rfl)) rfl
set_option maxRecDepth 20000 in
theorem tw_391 : Cond.instanceMethod yX4_tuned ∈ lw_gd := gd_of (tm_2 (List.mem_of_getElem? (i := 119) rfl)) rfl
set_option maxRecDepth 20000 in
theorem tw_392 : Cond.selects "BitTuner" yX4_tuned yX4_tuned ∈ lw_gd := gd_of (tm_2 (List.mem_of_getElem? (i := 120) rfl)) rfl
set_option maxRecDepth 20000 in
theorem tw_393 : Cond.code yX4_tuned cX4_tuned 2 (some .long) ∈ lw_gd := gd_of (tm_2 (List.mem_of_getElem? (i := 121) rfl)) rfl
set_option maxRecDepth 20000 in
theorem tw_394 : Cond.methodLink "BitTunerLaw" 74 yX4_miss ∈ lw_gd := gd_of (tm_2 (List.mem_of_getElem? (i := 122) rfl)) rfl
set_option maxRecDepth 20000 in
theorem tw_395 : Cond.instanceMethod yX4_miss ∈ lw_gd := gd_of (tm_2 (List.mem_of_getElem? (i := 123) rfl)) rfl
set_option maxRecDepth 20000 in
theorem tw_396 : Cond.selects "BitTuner" yX4_miss yX4_miss ∈ lw_gd := gd_of (tm_2 (List.mem_of_getElem? (i := 124) rfl)) rfl
set_option maxRecDepth 20000 in
theorem tw_397 : Cond.code yX4_miss cX4_miss 2 (some .long) ∈ lw_gd := gd_of (tm_2 (List.mem_of_getElem? (i := 125) rfl)) rfl
set_option maxRecDepth 20000 in
theorem tw_398 : Cond.methodLink "BitTuner" 131 yX1_missOf ∈ lw_gd := gd_of (tm_2 (List.mem_of_getElem? (i := 126) rfl)) rfl
set_option maxRecDepth 20000 in
theorem tw_399 : Cond.instanceMethod yX1_missOf ∈ lw_gd := gd_of (tm_2 (List.mem_of_getElem? (i := 127) rfl)) rfl
set_option maxRecDepth 20000 in
theorem tw_400 : Cond.selects "BitTuner$Runs" yX1_missOf yX1_missOf ∈ lw_gd := gd_of (tm_2 (List.mem_of_getElem? (i := 128) rfl)) rfl
set_option maxRecDepth 20000 in
theorem tw_401 : Cond.code yX1_missOf cX1_missOf 2 (some .long) ∈ lw_gd := gd_of (tm_2 (List.mem_of_getElem? (i := 129) rfl)) rfl
set_option maxRecDepth 20000 in
theorem tw_402 : Cond.methodLink "BitTuner$Runs" 45 Lib.MathLoose.abs_long.x ∈ lw_gd := gd_of (tm_2 (List.mem_of_getElem? (i := 130) rfl)) rfl
set_option maxRecDepth 20000 in
theorem tw_403 : Cond.methodLink "BitTunerLaw" 78 yX4_leave ∈ lw_gd := gd_of (tm_2 (List.mem_of_getElem? (i := 131) rfl)) rfl
set_option maxRecDepth 20000 in
theorem tw_404 : Cond.instanceMethod yX4_leave ∈ lw_gd := gd_of (tm_2 (List.mem_of_getElem? (i := 132) rfl)) rfl
set_option maxRecDepth 20000 in
theorem tw_405 : Cond.selects "BitTuner" yX4_leave yX4_leave ∈ lw_gd := gd_of (tm_2 (List.mem_of_getElem? (i := 133) rfl)) rfl
set_option maxRecDepth 20000 in
theorem tw_406 : Cond.code yX4_leave cX4_leave 2 (some .double) ∈ lw_gd := gd_of (tm_2 (List.mem_of_getElem? (i := 134) rfl)) rfl
set_option maxRecDepth 20000 in
theorem tw_407 : Cond.constantDouble "BitTuner" 134 (4679240012837945344) ∈ lw_gd := gd_of (tm_2 (List.mem_of_getElem? (i := 135) rfl)) rfl
set_option maxRecDepth 20000 in
theorem tw_408 : Cond.methodLink "BitTunerLaw" 83 yX4_narrow ∈ lw_gd := gd_of (tm_2 (List.mem_of_getElem? (i := 136) rfl)) rfl
set_option maxRecDepth 20000 in
theorem tw_409 : Cond.instanceMethod yX4_narrow ∈ lw_gd := gd_of (tm_2 (List.mem_of_getElem? (i := 137) rfl)) rfl
set_option maxRecDepth 20000 in
theorem tw_410 : Cond.selects "BitTuner" yX4_narrow yX4_narrow ∈ lw_gd := gd_of (tm_2 (List.mem_of_getElem? (i := 138) rfl)) rfl
set_option maxRecDepth 20000 in
theorem tw_411 : Cond.code yX4_narrow cX4_narrow 2 (some .float) ∈ lw_gd := gd_of (tm_2 (List.mem_of_getElem? (i := 139) rfl)) rfl
set_option maxRecDepth 20000 in
theorem tw_412 : Cond.methodLink "BitTuner" 136 yX4_leave ∈ lw_gd := gd_of (tm_2 (List.mem_of_getElem? (i := 140) rfl)) rfl
set_option maxRecDepth 20000 in
theorem tw_413 : Cond.methodLink "BitTunerLaw" 88 yX4_rows ∈ lw_gd := gd_of (tm_2 (List.mem_of_getElem? (i := 141) rfl)) rfl
set_option maxRecDepth 20000 in
theorem tw_414 : Cond.instanceMethod yX4_rows ∈ lw_gd := gd_of (tm_2 (List.mem_of_getElem? (i := 142) rfl)) rfl
set_option maxRecDepth 20000 in
theorem tw_415 : Cond.selects "BitTuner" yX4_rows yX4_rows ∈ lw_gd := gd_of (tm_2 (List.mem_of_getElem? (i := 143) rfl)) rfl
set_option maxRecDepth 20000 in
theorem tw_416 : Cond.code yX4_rows cX4_rows 1 (some .int) ∈ lw_gd := gd_of (tm_2 (List.mem_of_getElem? (i := 144) rfl)) rfl
set_option maxRecDepth 20000 in
theorem tw_417 : Cond.methodLink "BitTuner" 140 yX1_rowsInAll ∈ lw_gd := gd_of (tm_2 (List.mem_of_getElem? (i := 145) rfl)) rfl
set_option maxRecDepth 20000 in
theorem tw_418 : Cond.instanceMethod yX1_rowsInAll ∈ lw_gd := gd_of (tm_2 (List.mem_of_getElem? (i := 146) rfl)) rfl
set_option maxRecDepth 20000 in
theorem tw_419 : Cond.selects "BitTuner$Runs" yX1_rowsInAll yX1_rowsInAll ∈ lw_gd := gd_of (tm_2 (List.mem_of_getElem? (i := 147) rfl)) rfl
set_option maxRecDepth 20000 in
theorem tw_420 : Cond.code yX1_rowsInAll cX1_rowsInAll 5 (some .int) ∈ lw_gd := gd_of (tm_2 (List.mem_of_getElem? (i := 148) rfl)) rfl
set_option maxRecDepth 20000 in
theorem tw_421 : Cond.constantLong "BitTuner$Runs" 103 (1000000) ∈ lw_gd := gd_of (tm_2 (List.mem_of_getElem? (i := 149) rfl)) rfl
set_option maxRecDepth 20000 in
theorem tw_422 : Cond.constantLong "BitTuner$Runs" 112 (4096) ∈ lw_gd := gd_of (tm_2 (List.mem_of_getElem? (i := 150) rfl)) rfl
set_option maxRecDepth 20000 in
theorem tw_423 : Cond.methodLink "BitTunerLaw" 92 yX4_worst ∈ lw_gd := gd_of (tm_2 (List.mem_of_getElem? (i := 151) rfl)) rfl
set_option maxRecDepth 20000 in
theorem tw_424 : Cond.instanceMethod yX4_worst ∈ lw_gd := gd_of (tm_2 (List.mem_of_getElem? (i := 152) rfl)) rfl
set_option maxRecDepth 20000 in
theorem tw_425 : Cond.selects "BitTuner" yX4_worst yX4_worst ∈ lw_gd := gd_of (tm_2 (List.mem_of_getElem? (i := 153) rfl)) rfl
set_option maxRecDepth 20000 in
theorem tw_426 : Cond.code yX4_worst cX4_worst 2 (some .long) ∈ lw_gd := gd_of (tm_2 (List.mem_of_getElem? (i := 154) rfl)) rfl
set_option maxRecDepth 20000 in
theorem tw_427 : Cond.methodLink "BitTuner" 143 yX1_areFew ∈ lw_gd := gd_of (tm_2 (List.mem_of_getElem? (i := 155) rfl)) rfl
set_option maxRecDepth 20000 in
theorem tw_428 : Cond.instanceMethod yX1_areFew ∈ lw_gd := gd_of (tm_2 (List.mem_of_getElem? (i := 156) rfl)) rfl
set_option maxRecDepth 20000 in
theorem tw_429 : Cond.selects "BitTuner$Runs" yX1_areFew yX1_areFew ∈ lw_gd := gd_of (tm_2 (List.mem_of_getElem? (i := 157) rfl)) rfl
set_option maxRecDepth 20000 in
theorem tw_430 : Cond.code yX1_areFew cX1_areFew 1 (some .boolean) ∈ lw_gd := gd_of (tm_2 (List.mem_of_getElem? (i := 158) rfl)) rfl
set_option maxRecDepth 20000 in
theorem tw_431 : Cond.methodLink "BitTuner$Runs" 114 yX1_rowsInAll ∈ lw_gd := gd_of (tm_2 (List.mem_of_getElem? (i := 159) rfl)) rfl
set_option maxRecDepth 20000 in
theorem tw_432 : Cond.methodLink "BitTuner" 147 yX1_greatestMiss ∈ lw_gd := gd_of (tm_2 (List.mem_of_getElem? (i := 160) rfl)) rfl
set_option maxRecDepth 20000 in
theorem tw_433 : Cond.instanceMethod yX1_greatestMiss ∈ lw_gd := gd_of (tm_2 (List.mem_of_getElem? (i := 161) rfl)) rfl
set_option maxRecDepth 20000 in
theorem tw_434 : Cond.selects "BitTuner$Runs" yX1_greatestMiss yX1_greatestMiss ∈ lw_gd := gd_of (tm_2 (List.mem_of_getElem? (i := 162) rfl)) rfl
set_option maxRecDepth 20000 in
theorem tw_435 : Cond.code yX1_greatestMiss cX1_greatestMiss 7 (some .long) ∈ lw_gd := gd_of (tm_2 (List.mem_of_getElem? (i := 163) rfl)) rfl
set_option maxRecDepth 20000 in
theorem tw_436 : Cond.constantLong "BitTuner$Runs" 118 (-1) ∈ lw_gd := gd_of (tm_2 (List.mem_of_getElem? (i := 164) rfl)) rfl
set_option maxRecDepth 20000 in
theorem tw_437 : Cond.methodLink "BitTuner$Runs" 120 yX1_toFirstRow ∈ lw_gd := gd_of (tm_2 (List.mem_of_getElem? (i := 165) rfl)) rfl
set_option maxRecDepth 20000 in
theorem tw_439 : Cond.instanceMethod yX1_toFirstRow ∈ lw_gd := gd_of (tm_2 (List.mem_of_getElem? (i := 167) rfl)) rfl
set_option maxRecDepth 20000 in
theorem tw_440 : Cond.code yX1_toFirstRow cX1_toFirstRow 2 none ∈ lw_gd := gd_of (tm_2 (List.mem_of_getElem? (i := 168) rfl)) rfl
set_option maxRecDepth 20000 in
theorem tw_441 : Cond.methodLink "BitTuner$Runs" 123 yX1_missOf ∈ lw_gd := gd_of (tm_2 (List.mem_of_getElem? (i := 169) rfl)) rfl
set_option maxRecDepth 20000 in
theorem tw_442 : Cond.methodLink "BitTuner$Runs" 127 yX1_keepRow ∈ lw_gd := gd_of (tm_2 (List.mem_of_getElem? (i := 170) rfl)) rfl
set_option maxRecDepth 20000 in
theorem tw_444 : Cond.instanceMethod yX1_keepRow ∈ lw_gd := gd_of (tm_2 (List.mem_of_getElem? (i := 172) rfl)) rfl
set_option maxRecDepth 20000 in
theorem tw_445 : Cond.code yX1_keepRow cX1_keepRow 2 none ∈ lw_gd := gd_of (tm_2 (List.mem_of_getElem? (i := 173) rfl)) rfl
set_option maxRecDepth 20000 in
theorem tw_446 : Cond.methodLink "BitTuner$Runs" 133 yX0_isInput ∈ lw_gd := gd_of (tm_2 (List.mem_of_getElem? (i := 174) rfl)) rfl
set_option maxRecDepth 20000 in
theorem tw_447 : Cond.methodLink "BitTuner$Runs" 130 yX1_toNextRow ∈ lw_gd := gd_of (tm_2 (List.mem_of_getElem? (i := 175) rfl)) rfl
set_option maxRecDepth 20000 in
theorem tw_449 : Cond.instanceMethod yX1_toNextRow ∈ lw_gd := gd_of (tm_2 (List.mem_of_getElem? (i := 177) rfl)) rfl
set_option maxRecDepth 20000 in
theorem tw_450 : Cond.code yX1_toNextRow cX1_toNextRow 3 none ∈ lw_gd := gd_of (tm_2 (List.mem_of_getElem? (i := 178) rfl)) rfl
set_option maxRecDepth 20000 in
theorem tw_451 : Cond.methodLink "BitTunerLaw" 96 yX4_worstAt ∈ lw_gd := gd_of (tm_2 (List.mem_of_getElem? (i := 179) rfl)) rfl
set_option maxRecDepth 20000 in
theorem tw_452 : Cond.instanceMethod yX4_worstAt ∈ lw_gd := gd_of (tm_2 (List.mem_of_getElem? (i := 180) rfl)) rfl
set_option maxRecDepth 20000 in
theorem tw_453 : Cond.selects "BitTuner" yX4_worstAt yX4_worstAt ∈ lw_gd := gd_of (tm_2 (List.mem_of_getElem? (i := 181) rfl)) rfl
set_option maxRecDepth 20000 in
theorem tw_454 : Cond.code yX4_worstAt cX4_worstAt 2 (some .int) ∈ lw_gd := gd_of (tm_2 (List.mem_of_getElem? (i := 182) rfl)) rfl
set_option maxRecDepth 20000 in
theorem tw_455 : Cond.methodLink "BitTunerLaw" 102 yX4_above ∈ lw_gd := gd_of (tm_2 (List.mem_of_getElem? (i := 183) rfl)) rfl
set_option maxRecDepth 20000 in
theorem tw_456 : Cond.instanceMethod yX4_above ∈ lw_gd := gd_of (tm_2 (List.mem_of_getElem? (i := 184) rfl)) rfl
set_option maxRecDepth 20000 in
theorem tw_457 : Cond.selects "BitTuner" yX4_above yX4_above ∈ lw_gd := gd_of (tm_2 (List.mem_of_getElem? (i := 185) rfl)) rfl
set_option maxRecDepth 20000 in
theorem tw_458 : Cond.code yX4_above cX4_above 4 (some .int) ∈ lw_gd := gd_of (tm_2 (List.mem_of_getElem? (i := 186) rfl)) rfl
set_option maxRecDepth 20000 in
theorem tw_459 : Cond.methodLink "BitTuner" 154 yX1_rowsAbove ∈ lw_gd := gd_of (tm_2 (List.mem_of_getElem? (i := 187) rfl)) rfl
set_option maxRecDepth 20000 in
theorem tw_460 : Cond.instanceMethod yX1_rowsAbove ∈ lw_gd := gd_of (tm_2 (List.mem_of_getElem? (i := 188) rfl)) rfl
set_option maxRecDepth 20000 in
theorem tw_461 : Cond.selects "BitTuner$Runs" yX1_rowsAbove yX1_rowsAbove ∈ lw_gd := gd_of (tm_2 (List.mem_of_getElem? (i := 189) rfl)) rfl
set_option maxRecDepth 20000 in
theorem tw_462 : Cond.code yX1_rowsAbove cX1_rowsAbove 6 (some .int) ∈ lw_gd := gd_of (tm_2 (List.mem_of_getElem? (i := 190) rfl)) rfl
set_option maxRecDepth 20000 in
theorem tw_463 : Cond.methodLink "BitTunerLaw" 107 yX4_least ∈ lw_gd := gd_of (tm_2 (List.mem_of_getElem? (i := 191) rfl)) rfl
set_option maxRecDepth 20000 in
theorem tw_464 : Cond.instanceMethod yX4_least ∈ lw_gd := gd_of (tm_2 (List.mem_of_getElem? (i := 192) rfl)) rfl
set_option maxRecDepth 20000 in
theorem tw_465 : Cond.selects "BitTuner" yX4_least yX4_least ∈ lw_gd := gd_of (tm_2 (List.mem_of_getElem? (i := 193) rfl)) rfl
set_option maxRecDepth 20000 in
theorem tw_466 : Cond.code yX4_least cX4_least 4 (some .int) ∈ lw_gd := gd_of (tm_2 (List.mem_of_getElem? (i := 194) rfl)) rfl
set_option maxRecDepth 20000 in
theorem tw_467 : Cond.methodLink "BitTuner" 158 yX3_chooseCheapest ∈ lw_gd := gd_of (tm_2 (List.mem_of_getElem? (i := 195) rfl)) rfl
set_option maxRecDepth 20000 in
theorem tw_468 : Cond.instanceMethod yX3_chooseCheapest ∈ lw_gd := gd_of (tm_2 (List.mem_of_getElem? (i := 196) rfl)) rfl
set_option maxRecDepth 20000 in
theorem tw_469 : Cond.selects "BitTuner$Widths" yX3_chooseCheapest yX3_chooseCheapest ∈ lw_gd := gd_of (tm_2 (List.mem_of_getElem? (i := 197) rfl)) rfl
set_option maxRecDepth 20000 in
theorem tw_470 : Cond.code yX3_chooseCheapest cX3_chooseCheapest 4 (some .int) ∈ lw_gd := gd_of (tm_2 (List.mem_of_getElem? (i := 198) rfl)) rfl
set_option maxRecDepth 20000 in
theorem tw_471 : Cond.methodLink "BitTuner$Widths" 71 yX0_workedOnes ∈ lw_gd := gd_of (tm_2 (List.mem_of_getElem? (i := 199) rfl)) rfl
set_option maxRecDepth 20000 in
theorem tw_472 : Cond.instanceMethod yX0_workedOnes ∈ lw_gd := gd_of (tm_2 (List.mem_of_getElem? (i := 200) rfl)) rfl
set_option maxRecDepth 20000 in
theorem tw_473 : Cond.selects "BitTuner$Program" yX0_workedOnes yX0_workedOnes ∈ lw_gd := gd_of (tm_2 (List.mem_of_getElem? (i := 201) rfl)) rfl
set_option maxRecDepth 20000 in
theorem tw_474 : Cond.code yX0_workedOnes cX0_workedOnes 3 (some .int) ∈ lw_gd := gd_of (tm_2 (List.mem_of_getElem? (i := 202) rfl)) rfl
set_option maxRecDepth 20000 in
theorem tw_475 : Cond.methodLink "BitTuner$Widths" 37 yX3_tryWidest ∈ lw_gd := gd_of (tm_2 (List.mem_of_getElem? (i := 203) rfl)) rfl
set_option maxRecDepth 20000 in
theorem tw_477 : Cond.instanceMethod yX3_tryWidest ∈ lw_gd := gd_of (tm_2 (List.mem_of_getElem? (i := 205) rfl)) rfl
set_option maxRecDepth 20000 in
theorem tw_478 : Cond.code yX3_tryWidest cX3_tryWidest 2 none ∈ lw_gd := gd_of (tm_2 (List.mem_of_getElem? (i := 206) rfl)) rfl
set_option maxRecDepth 20000 in
theorem tw_479 : Cond.constant "BitTuner$Widths" 76 (2147483647) ∈ lw_gd := gd_of (tm_2 (List.mem_of_getElem? (i := 207) rfl)) rfl
set_option maxRecDepth 20000 in
theorem tw_480 : Cond.methodLink "BitTuner$Widths" 77 yX3_choose ∈ lw_gd := gd_of (tm_2 (List.mem_of_getElem? (i := 208) rfl)) rfl
set_option maxRecDepth 20000 in
theorem tw_482 : Cond.instanceMethod yX3_choose ∈ lw_gd := gd_of (tm_2 (List.mem_of_getElem? (i := 210) rfl)) rfl
set_option maxRecDepth 20000 in
theorem tw_483 : Cond.code yX3_choose cX3_choose 10 none ∈ lw_gd := gd_of (tm_2 (List.mem_of_getElem? (i := 211) rfl)) rfl
set_option maxRecDepth 20000 in
theorem tw_484 : Cond.methodLink "BitTuner$Widths" 81 arraycopyName ∈ lw_gd := gd_of (tm_2 (List.mem_of_getElem? (i := 212) rfl)) rfl
set_option maxRecDepth 20000 in
theorem tw_485 : Cond.static arraycopyName ∈ lw_gd := gd_of (tm_2 (List.mem_of_getElem? (i := 213) rfl)) rfl
set_option maxRecDepth 20000 in
theorem tw_486 : Cond.native arraycopyName ∈ lw_gd := gd_of (tm_2 (List.mem_of_getElem? (i := 214) rfl)) rfl
set_option maxRecDepth 20000 in
theorem tw_487 : Cond.methodLink "BitTuner$Widths" 63 yX3_take ∈ lw_gd := gd_of (tm_2 (List.mem_of_getElem? (i := 215) rfl)) rfl
set_option maxRecDepth 20000 in
theorem tw_489 : Cond.instanceMethod yX3_take ∈ lw_gd := gd_of (tm_2 (List.mem_of_getElem? (i := 217) rfl)) rfl
set_option maxRecDepth 20000 in
theorem tw_490 : Cond.code yX3_take cX3_take 3 none ∈ lw_gd := gd_of (tm_2 (List.mem_of_getElem? (i := 218) rfl)) rfl
set_option maxRecDepth 20000 in
theorem tw_491 : Cond.methodLink "BitTuner$Widths" 67 yX0_priceInAll ∈ lw_gd := gd_of (tm_2 (List.mem_of_getElem? (i := 219) rfl)) rfl
set_option maxRecDepth 20000 in
theorem tw_492 : Cond.methodLink "BitTunerLaw" 111 yX4_trim ∈ lw_gd := gd_of (tm_2 (List.mem_of_getElem? (i := 220) rfl)) rfl
set_option maxRecDepth 20000 in
theorem tw_493 : Cond.instanceMethod yX4_trim ∈ lw_gd := gd_of (tm_2 (List.mem_of_getElem? (i := 221) rfl)) rfl
set_option maxRecDepth 20000 in
theorem tw_494 : Cond.selects "BitTuner" yX4_trim yX4_trim ∈ lw_gd := gd_of (tm_2 (List.mem_of_getElem? (i := 222) rfl)) rfl
set_option maxRecDepth 20000 in
theorem tw_495 : Cond.code yX4_trim cX4_trim 4 (some .int) ∈ lw_gd := gd_of (tm_2 (List.mem_of_getElem? (i := 223) rfl)) rfl
set_option maxRecDepth 20000 in
theorem tw_496 : Cond.methodLink "BitTuner" 161 yX3_lessenInTurn ∈ lw_gd := gd_of (tm_2 (List.mem_of_getElem? (i := 224) rfl)) rfl
set_option maxRecDepth 20000 in
theorem tw_497 : Cond.instanceMethod yX3_lessenInTurn ∈ lw_gd := gd_of (tm_2 (List.mem_of_getElem? (i := 225) rfl)) rfl
set_option maxRecDepth 20000 in
theorem tw_498 : Cond.selects "BitTuner$Widths" yX3_lessenInTurn yX3_lessenInTurn ∈ lw_gd := gd_of (tm_2 (List.mem_of_getElem? (i := 226) rfl)) rfl
set_option maxRecDepth 20000 in
theorem tw_499 : Cond.code yX3_lessenInTurn cX3_lessenInTurn 5 (some .int) ∈ lw_gd := gd_of (tm_2 (List.mem_of_getElem? (i := 227) rfl)) rfl
set_option maxRecDepth 20000 in
theorem tw_500 : Cond.methodLink "BitTuner$Widths" 56 yX3_boundAtWidest ∈ lw_gd := gd_of (tm_2 (List.mem_of_getElem? (i := 228) rfl)) rfl
set_option maxRecDepth 20000 in
theorem tw_501 : Cond.instanceMethod yX3_boundAtWidest ∈ lw_gd := gd_of (tm_2 (List.mem_of_getElem? (i := 229) rfl)) rfl
set_option maxRecDepth 20000 in
theorem tw_502 : Cond.selects "BitTuner$Widths" yX3_boundAtWidest yX3_boundAtWidest ∈ lw_gd := gd_of (tm_2 (List.mem_of_getElem? (i := 230) rfl)) rfl
set_option maxRecDepth 20000 in
theorem tw_503 : Cond.code yX3_boundAtWidest cX3_boundAtWidest 2 (some .long) ∈ lw_gd := gd_of (tm_2 (List.mem_of_getElem? (i := 231) rfl)) rfl
set_option maxRecDepth 20000 in
theorem tw_504 : Cond.methodLink "BitTuner$Widths" 48 yX0_isWorked ∈ lw_gd := gd_of (tm_2 (List.mem_of_getElem? (i := 232) rfl)) rfl
set_option maxRecDepth 20000 in
theorem tw_505 : Cond.methodLink "BitTuner$Widths" 59 yX3_lessen ∈ lw_gd := gd_of (tm_2 (List.mem_of_getElem? (i := 233) rfl)) rfl
set_option maxRecDepth 20000 in
theorem tw_507 : Cond.instanceMethod yX3_lessen ∈ lw_gd := gd_of (tm_2 (List.mem_of_getElem? (i := 235) rfl)) rfl
set_option maxRecDepth 20000 in
theorem tw_508 : Cond.code yX3_lessen cX3_lessen 6 none ∈ lw_gd := gd_of (tm_2 (List.mem_of_getElem? (i := 236) rfl)) rfl
set_option maxRecDepth 20000 in
theorem tw_509 : Cond.methodLink "BitTunerLaw" 115 yX4_floor ∈ lw_gd := gd_of (tm_2 (List.mem_of_getElem? (i := 237) rfl)) rfl
set_option maxRecDepth 20000 in
theorem tw_510 : Cond.instanceMethod yX4_floor ∈ lw_gd := gd_of (tm_2 (List.mem_of_getElem? (i := 238) rfl)) rfl
set_option maxRecDepth 20000 in
theorem tw_511 : Cond.selects "BitTuner" yX4_floor yX4_floor ∈ lw_gd := gd_of (tm_2 (List.mem_of_getElem? (i := 239) rfl)) rfl
set_option maxRecDepth 20000 in
theorem tw_512 : Cond.code yX4_floor cX4_floor 2 (some .long) ∈ lw_gd := gd_of (tm_3 (List.mem_of_getElem? (i := 0) rfl)) rfl
set_option maxRecDepth 20000 in
theorem tw_513 : Cond.methodLink "BitTuner" 164 yX3_boundAtWidest ∈ lw_gd := gd_of (tm_3 (List.mem_of_getElem? (i := 1) rfl)) rfl
set_option maxRecDepth 20000 in
theorem tw_514 : Cond.methodLink "BitTunerLaw" 119 yX4_gain ∈ lw_gd := gd_of (tm_3 (List.mem_of_getElem? (i := 2) rfl)) rfl
set_option maxRecDepth 20000 in
theorem tw_515 : Cond.instanceMethod yX4_gain ∈ lw_gd := gd_of (tm_3 (List.mem_of_getElem? (i := 3) rfl)) rfl
set_option maxRecDepth 20000 in
theorem tw_516 : Cond.selects "BitTuner" yX4_gain yX4_gain ∈ lw_gd := gd_of (tm_3 (List.mem_of_getElem? (i := 4) rfl)) rfl
set_option maxRecDepth 20000 in
theorem tw_517 : Cond.code yX4_gain cX4_gain 3 (some .long) ∈ lw_gd := gd_of (tm_3 (List.mem_of_getElem? (i := 5) rfl)) rfl
set_option maxRecDepth 20000 in
theorem tw_518 : Cond.methodLink "BitTuner" 167 yX3_gainOf ∈ lw_gd := gd_of (tm_3 (List.mem_of_getElem? (i := 6) rfl)) rfl
set_option maxRecDepth 20000 in
theorem tw_519 : Cond.instanceMethod yX3_gainOf ∈ lw_gd := gd_of (tm_3 (List.mem_of_getElem? (i := 7) rfl)) rfl
set_option maxRecDepth 20000 in
theorem tw_520 : Cond.selects "BitTuner$Widths" yX3_gainOf yX3_gainOf ∈ lw_gd := gd_of (tm_3 (List.mem_of_getElem? (i := 8) rfl)) rfl
set_option maxRecDepth 20000 in
theorem tw_521 : Cond.code yX3_gainOf cX3_gainOf 5 (some .long) ∈ lw_gd := gd_of (tm_3 (List.mem_of_getElem? (i := 9) rfl)) rfl
set_option maxRecDepth 20000 in
theorem tw_522 : Cond.methodLink "BitTuner$Widths" 40 yX3_boundAsTold ∈ lw_gd := gd_of (tm_3 (List.mem_of_getElem? (i := 10) rfl)) rfl
set_option maxRecDepth 20000 in
theorem tw_523 : Cond.methodLink "BitTunerLaw" 123 yX4_blame ∈ lw_gd := gd_of (tm_3 (List.mem_of_getElem? (i := 11) rfl)) rfl
set_option maxRecDepth 20000 in
theorem tw_524 : Cond.instanceMethod yX4_blame ∈ lw_gd := gd_of (tm_3 (List.mem_of_getElem? (i := 12) rfl)) rfl
set_option maxRecDepth 20000 in
theorem tw_525 : Cond.selects "BitTuner" yX4_blame yX4_blame ∈ lw_gd := gd_of (tm_3 (List.mem_of_getElem? (i := 13) rfl)) rfl
set_option maxRecDepth 20000 in
theorem tw_526 : Cond.code yX4_blame cX4_blame 2 (some .int) ∈ lw_gd := gd_of (tm_3 (List.mem_of_getElem? (i := 14) rfl)) rfl
set_option maxRecDepth 20000 in
theorem tw_527 : Cond.methodLink "BitTuner" 171 yX3_mostToBlame ∈ lw_gd := gd_of (tm_3 (List.mem_of_getElem? (i := 15) rfl)) rfl
set_option maxRecDepth 20000 in
theorem tw_528 : Cond.instanceMethod yX3_mostToBlame ∈ lw_gd := gd_of (tm_3 (List.mem_of_getElem? (i := 16) rfl)) rfl
set_option maxRecDepth 20000 in
theorem tw_529 : Cond.selects "BitTuner$Widths" yX3_mostToBlame yX3_mostToBlame ∈ lw_gd := gd_of (tm_3 (List.mem_of_getElem? (i := 17) rfl)) rfl
set_option maxRecDepth 20000 in
theorem tw_530 : Cond.code yX3_mostToBlame cX3_mostToBlame 8 (some .int) ∈ lw_gd := gd_of (tm_3 (List.mem_of_getElem? (i := 18) rfl)) rfl
set_option maxRecDepth 20000 in
theorem tw_531 : Cond.methodLink "BitTuner$Widths" 52 yX3_gainOf ∈ lw_gd := gd_of (tm_3 (List.mem_of_getElem? (i := 19) rfl)) rfl
set_option maxRecDepth 20000 in
theorem tw_532 : Cond.methodLink "BitTunerLaw" 127 yX4_count ∈ lw_gd := gd_of (tm_3 (List.mem_of_getElem? (i := 20) rfl)) rfl
set_option maxRecDepth 20000 in
theorem tw_533 : Cond.instanceMethod yX4_count ∈ lw_gd := gd_of (tm_3 (List.mem_of_getElem? (i := 21) rfl)) rfl
set_option maxRecDepth 20000 in
theorem tw_534 : Cond.selects "BitTuner" yX4_count yX4_count ∈ lw_gd := gd_of (tm_3 (List.mem_of_getElem? (i := 22) rfl)) rfl
set_option maxRecDepth 20000 in
theorem tw_535 : Cond.code yX4_count cX4_count 2 (some .int) ∈ lw_gd := gd_of (tm_3 (List.mem_of_getElem? (i := 23) rfl)) rfl
set_option maxRecDepth 20000 in
theorem tw_536 : Cond.methodLink "BitTuner" 175 yX0_inputs ∈ lw_gd := gd_of (tm_3 (List.mem_of_getElem? (i := 24) rfl)) rfl
set_option maxRecDepth 20000 in
theorem tw_537 : Cond.instanceMethod yX0_inputs ∈ lw_gd := gd_of (tm_3 (List.mem_of_getElem? (i := 25) rfl)) rfl
set_option maxRecDepth 20000 in
theorem tw_538 : Cond.selects "BitTuner$Program" yX0_inputs yX0_inputs ∈ lw_gd := gd_of (tm_3 (List.mem_of_getElem? (i := 26) rfl)) rfl
set_option maxRecDepth 20000 in
theorem tw_539 : Cond.code yX0_inputs cX0_inputs 3 (some .int) ∈ lw_gd := gd_of (tm_3 (List.mem_of_getElem? (i := 27) rfl)) rfl
set_option maxRecDepth 20000 in
theorem tw_540 : Cond.methodLink "BitTuner" 178 yX0_workedOnes ∈ lw_gd := gd_of (tm_3 (List.mem_of_getElem? (i := 28) rfl)) rfl
set_option maxRecDepth 20000 in
theorem tw_541 : Cond.methodLink "BitTunerLaw" 131 yX4_digest ∈ lw_gd := gd_of (tm_3 (List.mem_of_getElem? (i := 29) rfl)) rfl
set_option maxRecDepth 20000 in
theorem tw_542 : Cond.instanceMethod yX4_digest ∈ lw_gd := gd_of (tm_3 (List.mem_of_getElem? (i := 30) rfl)) rfl
set_option maxRecDepth 20000 in
theorem tw_543 : Cond.selects "BitTuner" yX4_digest yX4_digest ∈ lw_gd := gd_of (tm_3 (List.mem_of_getElem? (i := 31) rfl)) rfl
set_option maxRecDepth 20000 in
theorem tw_544 : Cond.code yX4_digest cX4_digest 5 (some .long) ∈ lw_gd := gd_of (tm_3 (List.mem_of_getElem? (i := 32) rfl)) rfl
set_option maxRecDepth 20000 in
theorem tw_545 : Cond.constantLong "BitTuner" 181 (17) ∈ lw_gd := gd_of (tm_3 (List.mem_of_getElem? (i := 33) rfl)) rfl
set_option maxRecDepth 20000 in
theorem tw_546 : Cond.constantLong "BitTuner" 183 (31) ∈ lw_gd := gd_of (tm_3 (List.mem_of_getElem? (i := 34) rfl)) rfl
set_option maxRecDepth 20000 in
theorem tw_547 : Cond.methodLink "BitTuner" 185 yX4_count ∈ lw_gd := gd_of (tm_3 (List.mem_of_getElem? (i := 35) rfl)) rfl
set_option maxRecDepth 20000 in
theorem tw_548 : Cond.methodLink "BitTuner" 188 yX4_about ∈ lw_gd := gd_of (tm_3 (List.mem_of_getElem? (i := 36) rfl)) rfl
set_option maxRecDepth 20000 in
theorem tw_549 : Cond.methodLink "BitTuner" 191 yX4_exact ∈ lw_gd := gd_of (tm_3 (List.mem_of_getElem? (i := 37) rfl)) rfl
set_option maxRecDepth 20000 in
theorem tw_550 : Cond.methodLink "BitTuner" 194 yX4_tuned ∈ lw_gd := gd_of (tm_3 (List.mem_of_getElem? (i := 38) rfl)) rfl
set_option maxRecDepth 20000 in
theorem tw_551 : Cond.classLink "BitTunerLaw" 10 "BitTunerModel" ∈ lw_gd := gd_of (tm_3 (List.mem_of_getElem? (i := 39) rfl)) rfl
set_option maxRecDepth 20000 in
theorem tw_552 : Cond.instantiable "BitTunerModel" 19 ∈ lw_gd := gd_of (tm_3 (List.mem_of_getElem? (i := 40) rfl)) rfl
set_option maxRecDepth 20000 in
theorem tw_553 : Cond.methodLink "BitTunerLaw" 12 yX5_init ∈ lw_gd := gd_of (tm_3 (List.mem_of_getElem? (i := 41) rfl)) rfl
set_option maxRecDepth 20000 in
theorem tw_554 : Cond.instanceMethod yX5_init ∈ lw_gd := gd_of (tm_3 (List.mem_of_getElem? (i := 42) rfl)) rfl
set_option maxRecDepth 20000 in
theorem tw_555 : Cond.code yX5_init cX5_init 1 none ∈ lw_gd := gd_of (tm_3 (List.mem_of_getElem? (i := 43) rfl)) rfl
set_option maxRecDepth 20000 in
theorem tw_556 : Cond.methodLink "BitTunerModel" 1 objectInit ∈ lw_gd := gd_of (tm_3 (List.mem_of_getElem? (i := 44) rfl)) rfl
set_option maxRecDepth 20000 in
theorem tw_557 : Cond.fieldLink "BitTunerModel" 68 "BitTunerModel" "values" "I" ∈ lw_gd := gd_of (tm_3 (List.mem_of_getElem? (i := 45) rfl)) rfl
set_option maxRecDepth 20000 in
theorem tw_558 : Cond.fieldLink "BitTunerModel" 7 "BitTunerModel" "kinds" "[I" ∈ lw_gd := gd_of (tm_3 (List.mem_of_getElem? (i := 46) rfl)) rfl
set_option maxRecDepth 20000 in
theorem tw_559 : Cond.fieldLink "BitTunerModel" 13 "BitTunerModel" "a" "[I" ∈ lw_gd := gd_of (tm_3 (List.mem_of_getElem? (i := 47) rfl)) rfl
set_option maxRecDepth 20000 in
theorem tw_560 : Cond.fieldLink "BitTunerModel" 16 "BitTunerModel" "b" "[I" ∈ lw_gd := gd_of (tm_3 (List.mem_of_getElem? (i := 48) rfl)) rfl
set_option maxRecDepth 20000 in
theorem tw_561 : Cond.fieldLink "BitTunerModel" 19 "BitTunerModel" "degrees" "[I" ∈ lw_gd := gd_of (tm_3 (List.mem_of_getElem? (i := 49) rfl)) rfl
set_option maxRecDepth 20000 in
theorem tw_562 : Cond.fieldLink "BitTunerModel" 22 "BitTunerModel" "leasts" "[J" ∈ lw_gd := gd_of (tm_3 (List.mem_of_getElem? (i := 50) rfl)) rfl
set_option maxRecDepth 20000 in
theorem tw_563 : Cond.fieldLink "BitTunerModel" 26 "BitTunerModel" "mosts" "[J" ∈ lw_gd := gd_of (tm_3 (List.mem_of_getElem? (i := 51) rfl)) rfl
set_option maxRecDepth 20000 in
theorem tw_564 : Cond.fieldLink "BitTunerModel" 29 "BitTunerModel" "bits" "[I" ∈ lw_gd := gd_of (tm_3 (List.mem_of_getElem? (i := 52) rfl)) rfl
set_option maxRecDepth 20000 in
theorem tw_565 : Cond.fieldLink "BitTunerModel" 32 "BitTunerModel" "roundings" "[I" ∈ lw_gd := gd_of (tm_3 (List.mem_of_getElem? (i := 53) rfl)) rfl
set_option maxRecDepth 20000 in
theorem tw_566 : Cond.fieldLink "BitTunerModel" 35 "BitTunerModel" "weights" "[I" ∈ lw_gd := gd_of (tm_3 (List.mem_of_getElem? (i := 54) rfl)) rfl
set_option maxRecDepth 20000 in
theorem tw_567 : Cond.fieldLink "BitTunerModel" 38 "BitTunerModel" "setTo" "[I" ∈ lw_gd := gd_of (tm_3 (List.mem_of_getElem? (i := 55) rfl)) rfl
set_option maxRecDepth 20000 in
theorem tw_568 : Cond.fieldLink "BitTunerModel" 41 "BitTunerModel" "bounds" "[J" ∈ lw_gd := gd_of (tm_3 (List.mem_of_getElem? (i := 56) rfl)) rfl
set_option maxRecDepth 20000 in
theorem tw_569 : Cond.fieldLink "BitTunerModel" 44 "BitTunerModel" "exacts" "[J" ∈ lw_gd := gd_of (tm_3 (List.mem_of_getElem? (i := 57) rfl)) rfl
set_option maxRecDepth 20000 in
theorem tw_570 : Cond.fieldLink "BitTunerModel" 47 "BitTunerModel" "tuneds" "[J" ∈ lw_gd := gd_of (tm_3 (List.mem_of_getElem? (i := 58) rfl)) rfl
set_option maxRecDepth 20000 in
theorem tw_571 : Cond.fieldLink "BitTunerModel" 50 "BitTunerModel" "kept" "[I" ∈ lw_gd := gd_of (tm_3 (List.mem_of_getElem? (i := 59) rfl)) rfl
set_option maxRecDepth 20000 in
theorem tw_572 : Cond.fieldLink "BitTunerModel" 53 "BitTunerModel" "wasInput" "[Z" ∈ lw_gd := gd_of (tm_3 (List.mem_of_getElem? (i := 60) rfl)) rfl
set_option maxRecDepth 20000 in
theorem tw_573 : Cond.fieldLink "BitTunerModel" 57 "BitTunerModel" "worstOf" "[I" ∈ lw_gd := gd_of (tm_3 (List.mem_of_getElem? (i := 61) rfl)) rfl
set_option maxRecDepth 20000 in
theorem tw_574 : Cond.fieldLink "BitTunerModel" 60 "BitTunerModel" "were" "[I" ∈ lw_gd := gd_of (tm_3 (List.mem_of_getElem? (i := 62) rfl)) rfl
set_option maxRecDepth 20000 in
theorem tw_575 : Cond.fieldLink "BitTunerModel" 63 "BitTunerModel" "best" "[I" ∈ lw_gd := gd_of (tm_3 (List.mem_of_getElem? (i := 63) rfl)) rfl
set_option maxRecDepth 20000 in
theorem tw_616 : Cond.methodLink "BitTunerLaw" 17 yX5_input ∈ lw_gd := gd_of (tm_3 (List.mem_of_getElem? (i := 104) rfl)) rfl
set_option maxRecDepth 20000 in
theorem tw_617 : Cond.instanceMethod yX5_input ∈ lw_gd := gd_of (tm_3 (List.mem_of_getElem? (i := 105) rfl)) rfl
set_option maxRecDepth 20000 in
theorem tw_618 : Cond.selects "BitTunerModel" yX5_input yX5_input ∈ lw_gd := gd_of (tm_3 (List.mem_of_getElem? (i := 106) rfl)) rfl
set_option maxRecDepth 20000 in
theorem tw_619 : Cond.code yX5_input cX5_input 3 (some .int) ∈ lw_gd := gd_of (tm_3 (List.mem_of_getElem? (i := 107) rfl)) rfl
set_option maxRecDepth 20000 in
theorem tw_620 : Cond.methodLink "BitTunerModel" 84 yX5_isNumber ∈ lw_gd := gd_of (tm_3 (List.mem_of_getElem? (i := 108) rfl)) rfl
set_option maxRecDepth 20000 in
theorem tw_621 : Cond.static yX5_isNumber ∈ lw_gd := gd_of (tm_3 (List.mem_of_getElem? (i := 109) rfl)) rfl
set_option maxRecDepth 20000 in
theorem tw_622 : Cond.code yX5_isNumber cX5_isNumber 1 (some .boolean) ∈ lw_gd := gd_of (tm_3 (List.mem_of_getElem? (i := 110) rfl)) rfl
set_option maxRecDepth 20000 in
theorem tw_623 : Cond.constantLong "BitTunerModel" 80 (-4194304) ∈ lw_gd := gd_of (tm_3 (List.mem_of_getElem? (i := 111) rfl)) rfl
set_option maxRecDepth 20000 in
theorem tw_624 : Cond.constantLong "BitTunerModel" 82 (4194304) ∈ lw_gd := gd_of (tm_3 (List.mem_of_getElem? (i := 112) rfl)) rfl
set_option maxRecDepth 20000 in
theorem tw_625 : Cond.methodLink "BitTunerModel" 72 yX5_in ∈ lw_gd := gd_of (tm_3 (List.mem_of_getElem? (i := 113) rfl)) rfl
set_option maxRecDepth 20000 in
theorem tw_626 : Cond.static yX5_in ∈ lw_gd := gd_of (tm_3 (List.mem_of_getElem? (i := 114) rfl)) rfl
set_option maxRecDepth 20000 in
theorem tw_627 : Cond.code yX5_in cX5_in 6 (some .boolean) ∈ lw_gd := gd_of (tm_3 (List.mem_of_getElem? (i := 115) rfl)) rfl
set_option maxRecDepth 20000 in
theorem tw_628 : Cond.methodLink "BitTunerModel" 87 yX5_lays ∈ lw_gd := gd_of (tm_3 (List.mem_of_getElem? (i := 116) rfl)) rfl
set_option maxRecDepth 20000 in
theorem tw_630 : Cond.instanceMethod yX5_lays ∈ lw_gd := gd_of (tm_3 (List.mem_of_getElem? (i := 118) rfl)) rfl
set_option maxRecDepth 20000 in
theorem tw_631 : Cond.code yX5_lays cX5_lays 9 (some .int) ∈ lw_gd := gd_of (tm_3 (List.mem_of_getElem? (i := 119) rfl)) rfl
set_option maxRecDepth 20000 in
theorem tw_632 : Cond.methodLink "BitTunerLaw" 22 yX5_fixed ∈ lw_gd := gd_of (tm_3 (List.mem_of_getElem? (i := 120) rfl)) rfl
set_option maxRecDepth 20000 in
theorem tw_633 : Cond.instanceMethod yX5_fixed ∈ lw_gd := gd_of (tm_3 (List.mem_of_getElem? (i := 121) rfl)) rfl
set_option maxRecDepth 20000 in
theorem tw_634 : Cond.selects "BitTunerModel" yX5_fixed yX5_fixed ∈ lw_gd := gd_of (tm_3 (List.mem_of_getElem? (i := 122) rfl)) rfl
set_option maxRecDepth 20000 in
theorem tw_635 : Cond.code yX5_fixed cX5_fixed 2 (some .int) ∈ lw_gd := gd_of (tm_3 (List.mem_of_getElem? (i := 123) rfl)) rfl
set_option maxRecDepth 20000 in
theorem tw_636 : Cond.methodLink "BitTunerLaw" 27 yX5_work ∈ lw_gd := gd_of (tm_3 (List.mem_of_getElem? (i := 124) rfl)) rfl
set_option maxRecDepth 20000 in
theorem tw_637 : Cond.instanceMethod yX5_work ∈ lw_gd := gd_of (tm_3 (List.mem_of_getElem? (i := 125) rfl)) rfl
set_option maxRecDepth 20000 in
theorem tw_638 : Cond.selects "BitTunerModel" yX5_work yX5_work ∈ lw_gd := gd_of (tm_3 (List.mem_of_getElem? (i := 126) rfl)) rfl
set_option maxRecDepth 20000 in
theorem tw_639 : Cond.code yX5_work cX5_work 17 (some .int) ∈ lw_gd := gd_of (tm_3 (List.mem_of_getElem? (i := 127) rfl)) rfl
set_option maxRecDepth 20000 in
theorem tw_640 : Cond.constantLong "BitTunerModel" 91 (2) ∈ lw_gd := gd_of (tm_3 (List.mem_of_getElem? (i := 128) rfl)) rfl
set_option maxRecDepth 20000 in
theorem tw_641 : Cond.constantLong "BitTunerModel" 93 (7) ∈ lw_gd := gd_of (tm_3 (List.mem_of_getElem? (i := 129) rfl)) rfl
set_option maxRecDepth 20000 in
theorem tw_642 : Cond.methodLink "BitTunerModel" 76 yX5_isValue ∈ lw_gd := gd_of (tm_3 (List.mem_of_getElem? (i := 130) rfl)) rfl
set_option maxRecDepth 20000 in
theorem tw_644 : Cond.instanceMethod yX5_isValue ∈ lw_gd := gd_of (tm_3 (List.mem_of_getElem? (i := 132) rfl)) rfl
set_option maxRecDepth 20000 in
theorem tw_645 : Cond.code yX5_isValue cX5_isValue 2 (some .boolean) ∈ lw_gd := gd_of (tm_3 (List.mem_of_getElem? (i := 133) rfl)) rfl
set_option maxRecDepth 20000 in
theorem tw_646 : Cond.methodLink "BitTunerModel" 95 yX5_max ∈ lw_gd := gd_of (tm_3 (List.mem_of_getElem? (i := 134) rfl)) rfl
set_option maxRecDepth 20000 in
theorem tw_647 : Cond.static yX5_max ∈ lw_gd := gd_of (tm_3 (List.mem_of_getElem? (i := 135) rfl)) rfl
set_option maxRecDepth 20000 in
theorem tw_648 : Cond.code yX5_max cX5_max 4 (some .long) ∈ lw_gd := gd_of (tm_3 (List.mem_of_getElem? (i := 136) rfl)) rfl
set_option maxRecDepth 20000 in
theorem tw_649 : Cond.methodLink "BitTunerModel" 99 yX5_min ∈ lw_gd := gd_of (tm_3 (List.mem_of_getElem? (i := 137) rfl)) rfl
set_option maxRecDepth 20000 in
theorem tw_650 : Cond.static yX5_min ∈ lw_gd := gd_of (tm_3 (List.mem_of_getElem? (i := 138) rfl)) rfl
set_option maxRecDepth 20000 in
theorem tw_651 : Cond.code yX5_min cX5_min 4 (some .long) ∈ lw_gd := gd_of (tm_3 (List.mem_of_getElem? (i := 139) rfl)) rfl
set_option maxRecDepth 20000 in
theorem tw_652 : Cond.constantLong "BitTunerModel" 102 (65536) ∈ lw_gd := gd_of (tm_3 (List.mem_of_getElem? (i := 140) rfl)) rfl
set_option maxRecDepth 20000 in
theorem tw_653 : Cond.methodLink "BitTunerModel" 104 yX5_amount ∈ lw_gd := gd_of (tm_3 (List.mem_of_getElem? (i := 141) rfl)) rfl
set_option maxRecDepth 20000 in
theorem tw_654 : Cond.static yX5_amount ∈ lw_gd := gd_of (tm_3 (List.mem_of_getElem? (i := 142) rfl)) rfl
set_option maxRecDepth 20000 in
theorem tw_655 : Cond.code yX5_amount cX5_amount 2 (some .long) ∈ lw_gd := gd_of (tm_3 (List.mem_of_getElem? (i := 143) rfl)) rfl
set_option maxRecDepth 20000 in
theorem tw_656 : Cond.constantLong "BitTunerModel" 108 (-67108864) ∈ lw_gd := gd_of (tm_3 (List.mem_of_getElem? (i := 144) rfl)) rfl
set_option maxRecDepth 20000 in
theorem tw_657 : Cond.constantLong "BitTunerModel" 110 (67108864) ∈ lw_gd := gd_of (tm_3 (List.mem_of_getElem? (i := 145) rfl)) rfl
set_option maxRecDepth 20000 in
theorem tw_658 : Cond.methodLink "BitTunerLaw" 31 yX5_cut ∈ lw_gd := gd_of (tm_3 (List.mem_of_getElem? (i := 146) rfl)) rfl
set_option maxRecDepth 20000 in
theorem tw_659 : Cond.instanceMethod yX5_cut ∈ lw_gd := gd_of (tm_3 (List.mem_of_getElem? (i := 147) rfl)) rfl
set_option maxRecDepth 20000 in
theorem tw_660 : Cond.selects "BitTunerModel" yX5_cut yX5_cut ∈ lw_gd := gd_of (tm_3 (List.mem_of_getElem? (i := 148) rfl)) rfl
set_option maxRecDepth 20000 in
theorem tw_661 : Cond.code yX5_cut cX5_cut 3 (some .int) ∈ lw_gd := gd_of (tm_3 (List.mem_of_getElem? (i := 149) rfl)) rfl
set_option maxRecDepth 20000 in
theorem tw_662 : Cond.methodLink "BitTunerLaw" 35 yX5_bits ∈ lw_gd := gd_of (tm_3 (List.mem_of_getElem? (i := 150) rfl)) rfl
set_option maxRecDepth 20000 in
theorem tw_663 : Cond.instanceMethod yX5_bits ∈ lw_gd := gd_of (tm_3 (List.mem_of_getElem? (i := 151) rfl)) rfl
set_option maxRecDepth 20000 in
theorem tw_664 : Cond.selects "BitTunerModel" yX5_bits yX5_bits ∈ lw_gd := gd_of (tm_3 (List.mem_of_getElem? (i := 152) rfl)) rfl
set_option maxRecDepth 20000 in
theorem tw_665 : Cond.code yX5_bits cX5_bits 4 (some .int) ∈ lw_gd := gd_of (tm_3 (List.mem_of_getElem? (i := 153) rfl)) rfl
set_option maxRecDepth 20000 in
theorem tw_666 : Cond.methodLink "BitTunerModel" 112 yX5_isWork ∈ lw_gd := gd_of (tm_3 (List.mem_of_getElem? (i := 154) rfl)) rfl
set_option maxRecDepth 20000 in
theorem tw_668 : Cond.instanceMethod yX5_isWork ∈ lw_gd := gd_of (tm_3 (List.mem_of_getElem? (i := 156) rfl)) rfl
set_option maxRecDepth 20000 in
theorem tw_669 : Cond.code yX5_isWork cX5_isWork 2 (some .boolean) ∈ lw_gd := gd_of (tm_3 (List.mem_of_getElem? (i := 157) rfl)) rfl
set_option maxRecDepth 20000 in
theorem tw_670 : Cond.constantLong "BitTunerModel" 115 (16) ∈ lw_gd := gd_of (tm_3 (List.mem_of_getElem? (i := 158) rfl)) rfl
set_option maxRecDepth 20000 in
theorem tw_671 : Cond.methodLink "BitTunerLaw" 39 yX5_rounding ∈ lw_gd := gd_of (tm_3 (List.mem_of_getElem? (i := 159) rfl)) rfl
set_option maxRecDepth 20000 in
theorem tw_672 : Cond.instanceMethod yX5_rounding ∈ lw_gd := gd_of (tm_3 (List.mem_of_getElem? (i := 160) rfl)) rfl
set_option maxRecDepth 20000 in
theorem tw_673 : Cond.selects "BitTunerModel" yX5_rounding yX5_rounding ∈ lw_gd := gd_of (tm_3 (List.mem_of_getElem? (i := 161) rfl)) rfl
set_option maxRecDepth 20000 in
theorem tw_674 : Cond.code yX5_rounding cX5_rounding 4 (some .int) ∈ lw_gd := gd_of (tm_3 (List.mem_of_getElem? (i := 162) rfl)) rfl
set_option maxRecDepth 20000 in
theorem tw_675 : Cond.methodLink "BitTunerLaw" 43 yX5_weight ∈ lw_gd := gd_of (tm_3 (List.mem_of_getElem? (i := 163) rfl)) rfl
set_option maxRecDepth 20000 in
theorem tw_676 : Cond.instanceMethod yX5_weight ∈ lw_gd := gd_of (tm_3 (List.mem_of_getElem? (i := 164) rfl)) rfl
set_option maxRecDepth 20000 in
theorem tw_677 : Cond.selects "BitTunerModel" yX5_weight yX5_weight ∈ lw_gd := gd_of (tm_3 (List.mem_of_getElem? (i := 165) rfl)) rfl
set_option maxRecDepth 20000 in
theorem tw_678 : Cond.code yX5_weight cX5_weight 4 (some .int) ∈ lw_gd := gd_of (tm_3 (List.mem_of_getElem? (i := 166) rfl)) rfl
set_option maxRecDepth 20000 in
theorem tw_679 : Cond.constantLong "BitTunerModel" 117 (100) ∈ lw_gd := gd_of (tm_3 (List.mem_of_getElem? (i := 167) rfl)) rfl
set_option maxRecDepth 20000 in
theorem tw_680 : Cond.methodLink "BitTunerLaw" 48 yX5_about ∈ lw_gd := gd_of (tm_3 (List.mem_of_getElem? (i := 168) rfl)) rfl
set_option maxRecDepth 20000 in
theorem tw_681 : Cond.instanceMethod yX5_about ∈ lw_gd := gd_of (tm_3 (List.mem_of_getElem? (i := 169) rfl)) rfl
set_option maxRecDepth 20000 in
theorem tw_682 : Cond.selects "BitTunerModel" yX5_about yX5_about ∈ lw_gd := gd_of (tm_3 (List.mem_of_getElem? (i := 170) rfl)) rfl
set_option maxRecDepth 20000 in
theorem tw_683 : Cond.code yX5_about cX5_about 3 (some .long) ∈ lw_gd := gd_of (tm_3 (List.mem_of_getElem? (i := 171) rfl)) rfl
set_option maxRecDepth 20000 in
theorem tw_684 : Cond.methodLink "BitTunerModel" 129 yX5_no ∈ lw_gd := gd_of (tm_3 (List.mem_of_getElem? (i := 172) rfl)) rfl
set_option maxRecDepth 20000 in
theorem tw_685 : Cond.static yX5_no ∈ lw_gd := gd_of (tm_3 (List.mem_of_getElem? (i := 173) rfl)) rfl
set_option maxRecDepth 20000 in
theorem tw_686 : Cond.code yX5_no cX5_no 1 (some .long) ∈ lw_gd := gd_of (tm_3 (List.mem_of_getElem? (i := 174) rfl)) rfl
set_option maxRecDepth 20000 in
theorem tw_687 : Cond.constantLong "BitTunerModel" 66 (-9223372036854775808) ∈ lw_gd := gd_of (tm_3 (List.mem_of_getElem? (i := 175) rfl)) rfl
set_option maxRecDepth 20000 in
theorem tw_688 : Cond.methodLink "BitTunerModel" 132 yX5_bound ∈ lw_gd := gd_of (tm_3 (List.mem_of_getElem? (i := 176) rfl)) rfl
set_option maxRecDepth 20000 in
theorem tw_690 : Cond.instanceMethod yX5_bound ∈ lw_gd := gd_of (tm_3 (List.mem_of_getElem? (i := 178) rfl)) rfl
set_option maxRecDepth 20000 in
theorem tw_691 : Cond.code yX5_bound cX5_bound 12 (some .long) ∈ lw_gd := gd_of (tm_3 (List.mem_of_getElem? (i := 179) rfl)) rfl
set_option maxRecDepth 20000 in
theorem tw_692 : Cond.constant "BitTunerModel" 119 (65536) ∈ lw_gd := gd_of (tm_3 (List.mem_of_getElem? (i := 180) rfl)) rfl
set_option maxRecDepth 20000 in
theorem tw_693 : Cond.constantLong "BitTunerModel" 120 (1073741824) ∈ lw_gd := gd_of (tm_3 (List.mem_of_getElem? (i := 181) rfl)) rfl
set_option maxRecDepth 20000 in
theorem tw_694 : Cond.methodLink "BitTunerModel" 122 yX5_greatest ∈ lw_gd := gd_of (tm_3 (List.mem_of_getElem? (i := 182) rfl)) rfl
set_option maxRecDepth 20000 in
theorem tw_696 : Cond.instanceMethod yX5_greatest ∈ lw_gd := gd_of (tm_3 (List.mem_of_getElem? (i := 184) rfl)) rfl
set_option maxRecDepth 20000 in
theorem tw_697 : Cond.code yX5_greatest cX5_greatest 2 (some .long) ∈ lw_gd := gd_of (tm_3 (List.mem_of_getElem? (i := 185) rfl)) rfl
set_option maxRecDepth 20000 in
theorem tw_698 : Cond.methodLink "BitTunerModel" 126 yX5_up ∈ lw_gd := gd_of (tm_3 (List.mem_of_getElem? (i := 186) rfl)) rfl
set_option maxRecDepth 20000 in
theorem tw_699 : Cond.static yX5_up ∈ lw_gd := gd_of (tm_3 (List.mem_of_getElem? (i := 187) rfl)) rfl
set_option maxRecDepth 20000 in
theorem tw_700 : Cond.code yX5_up cX5_up 2 (some .long) ∈ lw_gd := gd_of (tm_3 (List.mem_of_getElem? (i := 188) rfl)) rfl
set_option maxRecDepth 20000 in
theorem tw_701 : Cond.methodLink "BitTunerLaw" 53 yX5_price ∈ lw_gd := gd_of (tm_3 (List.mem_of_getElem? (i := 189) rfl)) rfl
set_option maxRecDepth 20000 in
theorem tw_702 : Cond.instanceMethod yX5_price ∈ lw_gd := gd_of (tm_3 (List.mem_of_getElem? (i := 190) rfl)) rfl
set_option maxRecDepth 20000 in
theorem tw_703 : Cond.selects "BitTunerModel" yX5_price yX5_price ∈ lw_gd := gd_of (tm_3 (List.mem_of_getElem? (i := 191) rfl)) rfl
set_option maxRecDepth 20000 in
theorem tw_704 : Cond.code yX5_price cX5_price 3 (some .int) ∈ lw_gd := gd_of (tm_3 (List.mem_of_getElem? (i := 192) rfl)) rfl
set_option maxRecDepth 20000 in
theorem tw_705 : Cond.methodLink "BitTunerLaw" 57 yX5_set ∈ lw_gd := gd_of (tm_3 (List.mem_of_getElem? (i := 193) rfl)) rfl
set_option maxRecDepth 20000 in
theorem tw_706 : Cond.instanceMethod yX5_set ∈ lw_gd := gd_of (tm_3 (List.mem_of_getElem? (i := 194) rfl)) rfl
set_option maxRecDepth 20000 in
theorem tw_707 : Cond.selects "BitTunerModel" yX5_set yX5_set ∈ lw_gd := gd_of (tm_3 (List.mem_of_getElem? (i := 195) rfl)) rfl
set_option maxRecDepth 20000 in
theorem tw_708 : Cond.code yX5_set cX5_set 3 (some .int) ∈ lw_gd := gd_of (tm_3 (List.mem_of_getElem? (i := 196) rfl)) rfl
set_option maxRecDepth 20000 in
theorem tw_709 : Cond.methodLink "BitTunerModel" 152 yX5_isInput ∈ lw_gd := gd_of (tm_3 (List.mem_of_getElem? (i := 197) rfl)) rfl
set_option maxRecDepth 20000 in
theorem tw_711 : Cond.instanceMethod yX5_isInput ∈ lw_gd := gd_of (tm_3 (List.mem_of_getElem? (i := 199) rfl)) rfl
set_option maxRecDepth 20000 in
theorem tw_712 : Cond.code yX5_isInput cX5_isInput 2 (some .boolean) ∈ lw_gd := gd_of (tm_3 (List.mem_of_getElem? (i := 200) rfl)) rfl
set_option maxRecDepth 20000 in
theorem tw_713 : Cond.methodLink "BitTunerModel" 155 yX5_isOf ∈ lw_gd := gd_of (tm_3 (List.mem_of_getElem? (i := 201) rfl)) rfl
set_option maxRecDepth 20000 in
theorem tw_715 : Cond.instanceMethod yX5_isOf ∈ lw_gd := gd_of (tm_3 (List.mem_of_getElem? (i := 203) rfl)) rfl
set_option maxRecDepth 20000 in
theorem tw_716 : Cond.code yX5_isOf cX5_isOf 4 (some .boolean) ∈ lw_gd := gd_of (tm_3 (List.mem_of_getElem? (i := 204) rfl)) rfl
set_option maxRecDepth 20000 in
theorem tw_717 : Cond.constantLong "BitTunerModel" 150 (4096) ∈ lw_gd := gd_of (tm_3 (List.mem_of_getElem? (i := 205) rfl)) rfl
set_option maxRecDepth 20000 in
theorem tw_718 : Cond.methodLink "BitTunerLaw" 64 yX5_enter ∈ lw_gd := gd_of (tm_3 (List.mem_of_getElem? (i := 206) rfl)) rfl
set_option maxRecDepth 20000 in
theorem tw_719 : Cond.instanceMethod yX5_enter ∈ lw_gd := gd_of (tm_3 (List.mem_of_getElem? (i := 207) rfl)) rfl
set_option maxRecDepth 20000 in
theorem tw_720 : Cond.selects "BitTunerModel" yX5_enter yX5_enter ∈ lw_gd := gd_of (tm_3 (List.mem_of_getElem? (i := 208) rfl)) rfl
set_option maxRecDepth 20000 in
theorem tw_721 : Cond.code yX5_enter cX5_enter 8 (some .int) ∈ lw_gd := gd_of (tm_3 (List.mem_of_getElem? (i := 209) rfl)) rfl
set_option maxRecDepth 20000 in
theorem tw_722 : Cond.constantDouble "BitTunerModel" 159 (13857576053419016192) ∈ lw_gd := gd_of (tm_3 (List.mem_of_getElem? (i := 210) rfl)) rfl
set_option maxRecDepth 20000 in
theorem tw_723 : Cond.constantDouble "BitTunerModel" 161 (4634204016564240384) ∈ lw_gd := gd_of (tm_3 (List.mem_of_getElem? (i := 211) rfl)) rfl
set_option maxRecDepth 20000 in
theorem tw_724 : Cond.constantDouble "BitTunerModel" 163 (4679240012837945344) ∈ lw_gd := gd_of (tm_3 (List.mem_of_getElem? (i := 212) rfl)) rfl
set_option maxRecDepth 20000 in
theorem tw_725 : Cond.methodLink "BitTunerLaw" 69 yX5_exact ∈ lw_gd := gd_of (tm_3 (List.mem_of_getElem? (i := 213) rfl)) rfl
set_option maxRecDepth 20000 in
theorem tw_726 : Cond.instanceMethod yX5_exact ∈ lw_gd := gd_of (tm_3 (List.mem_of_getElem? (i := 214) rfl)) rfl
set_option maxRecDepth 20000 in
theorem tw_727 : Cond.selects "BitTunerModel" yX5_exact yX5_exact ∈ lw_gd := gd_of (tm_3 (List.mem_of_getElem? (i := 215) rfl)) rfl
set_option maxRecDepth 20000 in
theorem tw_728 : Cond.code yX5_exact cX5_exact 2 (some .long) ∈ lw_gd := gd_of (tm_3 (List.mem_of_getElem? (i := 216) rfl)) rfl
set_option maxRecDepth 20000 in
theorem tw_729 : Cond.methodLink "BitTunerModel" 165 yX5_runs ∈ lw_gd := gd_of (tm_3 (List.mem_of_getElem? (i := 217) rfl)) rfl
set_option maxRecDepth 20000 in
theorem tw_731 : Cond.instanceMethod yX5_runs ∈ lw_gd := gd_of (tm_3 (List.mem_of_getElem? (i := 219) rfl)) rfl
set_option maxRecDepth 20000 in
theorem tw_732 : Cond.code yX5_runs cX5_runs 8 none ∈ lw_gd := gd_of (tm_3 (List.mem_of_getElem? (i := 220) rfl)) rfl
set_option maxRecDepth 20000 in
theorem tw_733 : Cond.methodLink "BitTunerModel" 138 yX5_does ∈ lw_gd := gd_of (tm_3 (List.mem_of_getElem? (i := 221) rfl)) rfl
set_option maxRecDepth 20000 in
theorem tw_734 : Cond.static yX5_does ∈ lw_gd := gd_of (tm_3 (List.mem_of_getElem? (i := 222) rfl)) rfl
set_option maxRecDepth 20000 in
theorem tw_735 : Cond.code yX5_does cX5_does 5 (some .long) ∈ lw_gd := gd_of (tm_3 (List.mem_of_getElem? (i := 223) rfl)) rfl
set_option maxRecDepth 20000 in
theorem tw_736 : Cond.methodLink "BitTunerModel" 142 yX5_rounded ∈ lw_gd := gd_of (tm_3 (List.mem_of_getElem? (i := 224) rfl)) rfl
set_option maxRecDepth 20000 in
theorem tw_737 : Cond.static yX5_rounded ∈ lw_gd := gd_of (tm_3 (List.mem_of_getElem? (i := 225) rfl)) rfl
set_option maxRecDepth 20000 in
theorem tw_738 : Cond.code yX5_rounded cX5_rounded 5 (some .long) ∈ lw_gd := gd_of (tm_3 (List.mem_of_getElem? (i := 226) rfl)) rfl
set_option maxRecDepth 20000 in
theorem tw_739 : Cond.methodLink "BitTunerModel" 135 yX5_floored ∈ lw_gd := gd_of (tm_3 (List.mem_of_getElem? (i := 227) rfl)) rfl
set_option maxRecDepth 20000 in
theorem tw_740 : Cond.static yX5_floored ∈ lw_gd := gd_of (tm_3 (List.mem_of_getElem? (i := 228) rfl)) rfl
set_option maxRecDepth 20000 in
theorem tw_741 : Cond.code yX5_floored cX5_floored 6 (some .long) ∈ lw_gd := gd_of (tm_3 (List.mem_of_getElem? (i := 229) rfl)) rfl
set_option maxRecDepth 20000 in
theorem tw_742 : Cond.constantLong "BitTunerModel" 146 (-2147483648) ∈ lw_gd := gd_of (tm_3 (List.mem_of_getElem? (i := 230) rfl)) rfl
set_option maxRecDepth 20000 in
theorem tw_743 : Cond.constantLong "BitTunerModel" 148 (2147483648) ∈ lw_gd := gd_of (tm_3 (List.mem_of_getElem? (i := 231) rfl)) rfl
set_option maxRecDepth 20000 in
theorem tw_744 : Cond.methodLink "BitTunerLaw" 73 yX5_tuned ∈ lw_gd := gd_of (tm_3 (List.mem_of_getElem? (i := 232) rfl)) rfl
set_option maxRecDepth 20000 in
theorem tw_745 : Cond.instanceMethod yX5_tuned ∈ lw_gd := gd_of (tm_3 (List.mem_of_getElem? (i := 233) rfl)) rfl
set_option maxRecDepth 20000 in
theorem tw_746 : Cond.selects "BitTunerModel" yX5_tuned yX5_tuned ∈ lw_gd := gd_of (tm_3 (List.mem_of_getElem? (i := 234) rfl)) rfl
set_option maxRecDepth 20000 in
theorem tw_747 : Cond.code yX5_tuned cX5_tuned 2 (some .long) ∈ lw_gd := gd_of (tm_3 (List.mem_of_getElem? (i := 235) rfl)) rfl
set_option maxRecDepth 20000 in
theorem tw_748 : Cond.methodLink "BitTunerLaw" 77 yX5_miss ∈ lw_gd := gd_of (tm_3 (List.mem_of_getElem? (i := 236) rfl)) rfl
set_option maxRecDepth 20000 in
theorem tw_749 : Cond.instanceMethod yX5_miss ∈ lw_gd := gd_of (tm_3 (List.mem_of_getElem? (i := 237) rfl)) rfl
set_option maxRecDepth 20000 in
theorem tw_750 : Cond.selects "BitTunerModel" yX5_miss yX5_miss ∈ lw_gd := gd_of (tm_3 (List.mem_of_getElem? (i := 238) rfl)) rfl
set_option maxRecDepth 20000 in
theorem tw_751 : Cond.code yX5_miss cX5_miss 2 (some .long) ∈ lw_gd := gd_of (tm_3 (List.mem_of_getElem? (i := 239) rfl)) rfl
set_option maxRecDepth 20000 in
theorem tw_752 : Cond.methodLink "BitTunerModel" 169 yX5_missNow ∈ lw_gd := gd_of (tm_4 (List.mem_of_getElem? (i := 0) rfl)) rfl
set_option maxRecDepth 20000 in
theorem tw_754 : Cond.instanceMethod yX5_missNow ∈ lw_gd := gd_of (tm_4 (List.mem_of_getElem? (i := 2) rfl)) rfl
set_option maxRecDepth 20000 in
theorem tw_755 : Cond.code yX5_missNow cX5_missNow 2 (some .long) ∈ lw_gd := gd_of (tm_4 (List.mem_of_getElem? (i := 3) rfl)) rfl
set_option maxRecDepth 20000 in
theorem tw_756 : Cond.methodLink "BitTunerLaw" 82 yX5_leave ∈ lw_gd := gd_of (tm_4 (List.mem_of_getElem? (i := 4) rfl)) rfl
set_option maxRecDepth 20000 in
theorem tw_757 : Cond.instanceMethod yX5_leave ∈ lw_gd := gd_of (tm_4 (List.mem_of_getElem? (i := 5) rfl)) rfl
set_option maxRecDepth 20000 in
theorem tw_758 : Cond.selects "BitTunerModel" yX5_leave yX5_leave ∈ lw_gd := gd_of (tm_4 (List.mem_of_getElem? (i := 6) rfl)) rfl
set_option maxRecDepth 20000 in
theorem tw_759 : Cond.code yX5_leave cX5_leave 2 (some .double) ∈ lw_gd := gd_of (tm_4 (List.mem_of_getElem? (i := 7) rfl)) rfl
set_option maxRecDepth 20000 in
theorem tw_760 : Cond.methodLink "BitTunerLaw" 87 yX5_narrow ∈ lw_gd := gd_of (tm_4 (List.mem_of_getElem? (i := 8) rfl)) rfl
set_option maxRecDepth 20000 in
theorem tw_761 : Cond.instanceMethod yX5_narrow ∈ lw_gd := gd_of (tm_4 (List.mem_of_getElem? (i := 9) rfl)) rfl
set_option maxRecDepth 20000 in
theorem tw_762 : Cond.selects "BitTunerModel" yX5_narrow yX5_narrow ∈ lw_gd := gd_of (tm_4 (List.mem_of_getElem? (i := 10) rfl)) rfl
set_option maxRecDepth 20000 in
theorem tw_763 : Cond.code yX5_narrow cX5_narrow 2 (some .float) ∈ lw_gd := gd_of (tm_4 (List.mem_of_getElem? (i := 11) rfl)) rfl
set_option maxRecDepth 20000 in
theorem tw_764 : Cond.methodLink "BitTunerLaw" 91 yX5_rows ∈ lw_gd := gd_of (tm_4 (List.mem_of_getElem? (i := 12) rfl)) rfl
set_option maxRecDepth 20000 in
theorem tw_765 : Cond.instanceMethod yX5_rows ∈ lw_gd := gd_of (tm_4 (List.mem_of_getElem? (i := 13) rfl)) rfl
set_option maxRecDepth 20000 in
theorem tw_766 : Cond.selects "BitTunerModel" yX5_rows yX5_rows ∈ lw_gd := gd_of (tm_4 (List.mem_of_getElem? (i := 14) rfl)) rfl
set_option maxRecDepth 20000 in
theorem tw_767 : Cond.code yX5_rows cX5_rows 4 (some .int) ∈ lw_gd := gd_of (tm_4 (List.mem_of_getElem? (i := 15) rfl)) rfl
set_option maxRecDepth 20000 in
theorem tw_768 : Cond.constantLong "BitTunerModel" 172 (1000000) ∈ lw_gd := gd_of (tm_4 (List.mem_of_getElem? (i := 16) rfl)) rfl
set_option maxRecDepth 20000 in
theorem tw_769 : Cond.methodLink "BitTunerLaw" 95 yX5_worst ∈ lw_gd := gd_of (tm_4 (List.mem_of_getElem? (i := 17) rfl)) rfl
set_option maxRecDepth 20000 in
theorem tw_770 : Cond.instanceMethod yX5_worst ∈ lw_gd := gd_of (tm_4 (List.mem_of_getElem? (i := 18) rfl)) rfl
set_option maxRecDepth 20000 in
theorem tw_771 : Cond.selects "BitTunerModel" yX5_worst yX5_worst ∈ lw_gd := gd_of (tm_4 (List.mem_of_getElem? (i := 19) rfl)) rfl
set_option maxRecDepth 20000 in
theorem tw_772 : Cond.code yX5_worst cX5_worst 8 (some .long) ∈ lw_gd := gd_of (tm_4 (List.mem_of_getElem? (i := 20) rfl)) rfl
set_option maxRecDepth 20000 in
theorem tw_773 : Cond.methodLink "BitTunerModel" 174 yX5_rows ∈ lw_gd := gd_of (tm_4 (List.mem_of_getElem? (i := 21) rfl)) rfl
set_option maxRecDepth 20000 in
theorem tw_774 : Cond.methodLink "BitTunerModel" 178 yX5_keep ∈ lw_gd := gd_of (tm_4 (List.mem_of_getElem? (i := 22) rfl)) rfl
set_option maxRecDepth 20000 in
theorem tw_776 : Cond.instanceMethod yX5_keep ∈ lw_gd := gd_of (tm_4 (List.mem_of_getElem? (i := 24) rfl)) rfl
set_option maxRecDepth 20000 in
theorem tw_777 : Cond.code yX5_keep cX5_keep 2 none ∈ lw_gd := gd_of (tm_4 (List.mem_of_getElem? (i := 25) rfl)) rfl
set_option maxRecDepth 20000 in
theorem tw_778 : Cond.constantLong "BitTunerModel" 181 (-1) ∈ lw_gd := gd_of (tm_4 (List.mem_of_getElem? (i := 26) rfl)) rfl
set_option maxRecDepth 20000 in
theorem tw_779 : Cond.methodLink "BitTunerModel" 183 yX5_goesOn ∈ lw_gd := gd_of (tm_4 (List.mem_of_getElem? (i := 27) rfl)) rfl
set_option maxRecDepth 20000 in
theorem tw_781 : Cond.instanceMethod yX5_goesOn ∈ lw_gd := gd_of (tm_4 (List.mem_of_getElem? (i := 29) rfl)) rfl
set_option maxRecDepth 20000 in
theorem tw_782 : Cond.code yX5_goesOn cX5_goesOn 2 (some .boolean) ∈ lw_gd := gd_of (tm_4 (List.mem_of_getElem? (i := 30) rfl)) rfl
set_option maxRecDepth 20000 in
theorem tw_783 : Cond.methodLink "BitTunerModel" 187 yX5_restore ∈ lw_gd := gd_of (tm_4 (List.mem_of_getElem? (i := 31) rfl)) rfl
set_option maxRecDepth 20000 in
theorem tw_785 : Cond.instanceMethod yX5_restore ∈ lw_gd := gd_of (tm_4 (List.mem_of_getElem? (i := 33) rfl)) rfl
set_option maxRecDepth 20000 in
theorem tw_786 : Cond.code yX5_restore cX5_restore 2 none ∈ lw_gd := gd_of (tm_4 (List.mem_of_getElem? (i := 34) rfl)) rfl
set_option maxRecDepth 20000 in
theorem tw_787 : Cond.methodLink "BitTunerLaw" 99 yX5_worstAt ∈ lw_gd := gd_of (tm_4 (List.mem_of_getElem? (i := 35) rfl)) rfl
set_option maxRecDepth 20000 in
theorem tw_788 : Cond.instanceMethod yX5_worstAt ∈ lw_gd := gd_of (tm_4 (List.mem_of_getElem? (i := 36) rfl)) rfl
set_option maxRecDepth 20000 in
theorem tw_789 : Cond.selects "BitTunerModel" yX5_worstAt yX5_worstAt ∈ lw_gd := gd_of (tm_4 (List.mem_of_getElem? (i := 37) rfl)) rfl
set_option maxRecDepth 20000 in
theorem tw_790 : Cond.code yX5_worstAt cX5_worstAt 2 (some .int) ∈ lw_gd := gd_of (tm_4 (List.mem_of_getElem? (i := 38) rfl)) rfl
set_option maxRecDepth 20000 in
theorem tw_791 : Cond.constantLong "BitTunerModel" 190 (15) ∈ lw_gd := gd_of (tm_4 (List.mem_of_getElem? (i := 39) rfl)) rfl
set_option maxRecDepth 20000 in
theorem tw_792 : Cond.methodLink "BitTunerLaw" 106 yX5_above ∈ lw_gd := gd_of (tm_4 (List.mem_of_getElem? (i := 40) rfl)) rfl
set_option maxRecDepth 20000 in
theorem tw_793 : Cond.instanceMethod yX5_above ∈ lw_gd := gd_of (tm_4 (List.mem_of_getElem? (i := 41) rfl)) rfl
set_option maxRecDepth 20000 in
theorem tw_794 : Cond.selects "BitTunerModel" yX5_above yX5_above ∈ lw_gd := gd_of (tm_4 (List.mem_of_getElem? (i := 42) rfl)) rfl
set_option maxRecDepth 20000 in
theorem tw_795 : Cond.code yX5_above cX5_above 6 (some .int) ∈ lw_gd := gd_of (tm_4 (List.mem_of_getElem? (i := 43) rfl)) rfl
set_option maxRecDepth 20000 in
theorem tw_796 : Cond.methodLink "BitTunerLaw" 110 yX5_least ∈ lw_gd := gd_of (tm_4 (List.mem_of_getElem? (i := 44) rfl)) rfl
set_option maxRecDepth 20000 in
theorem tw_797 : Cond.instanceMethod yX5_least ∈ lw_gd := gd_of (tm_4 (List.mem_of_getElem? (i := 45) rfl)) rfl
set_option maxRecDepth 20000 in
theorem tw_798 : Cond.selects "BitTunerModel" yX5_least yX5_least ∈ lw_gd := gd_of (tm_4 (List.mem_of_getElem? (i := 46) rfl)) rfl
set_option maxRecDepth 20000 in
theorem tw_799 : Cond.code yX5_least cX5_least 6 (some .int) ∈ lw_gd := gd_of (tm_4 (List.mem_of_getElem? (i := 47) rfl)) rfl
set_option maxRecDepth 20000 in
theorem tw_800 : Cond.methodLink "BitTunerModel" 192 yX5_works ∈ lw_gd := gd_of (tm_4 (List.mem_of_getElem? (i := 48) rfl)) rfl
set_option maxRecDepth 20000 in
theorem tw_802 : Cond.instanceMethod yX5_works ∈ lw_gd := gd_of (tm_4 (List.mem_of_getElem? (i := 50) rfl)) rfl
set_option maxRecDepth 20000 in
theorem tw_803 : Cond.code yX5_works cX5_works 3 (some .int) ∈ lw_gd := gd_of (tm_4 (List.mem_of_getElem? (i := 51) rfl)) rfl
set_option maxRecDepth 20000 in
theorem tw_804 : Cond.methodLink "BitTunerModel" 195 yX5_save ∈ lw_gd := gd_of (tm_4 (List.mem_of_getElem? (i := 52) rfl)) rfl
set_option maxRecDepth 20000 in
theorem tw_806 : Cond.instanceMethod yX5_save ∈ lw_gd := gd_of (tm_4 (List.mem_of_getElem? (i := 54) rfl)) rfl
set_option maxRecDepth 20000 in
theorem tw_807 : Cond.code yX5_save cX5_save 3 none ∈ lw_gd := gd_of (tm_4 (List.mem_of_getElem? (i := 55) rfl)) rfl
set_option maxRecDepth 20000 in
theorem tw_808 : Cond.methodLink "BitTunerModel" 199 yX5_setAll ∈ lw_gd := gd_of (tm_4 (List.mem_of_getElem? (i := 56) rfl)) rfl
set_option maxRecDepth 20000 in
theorem tw_810 : Cond.instanceMethod yX5_setAll ∈ lw_gd := gd_of (tm_4 (List.mem_of_getElem? (i := 58) rfl)) rfl
set_option maxRecDepth 20000 in
theorem tw_811 : Cond.code yX5_setAll cX5_setAll 3 none ∈ lw_gd := gd_of (tm_4 (List.mem_of_getElem? (i := 59) rfl)) rfl
set_option maxRecDepth 20000 in
theorem tw_812 : Cond.methodLink "BitTunerModel" 202 yX5_price ∈ lw_gd := gd_of (tm_4 (List.mem_of_getElem? (i := 60) rfl)) rfl
set_option maxRecDepth 20000 in
theorem tw_813 : Cond.methodLink "BitTunerModel" 205 yX5_choosesOn ∈ lw_gd := gd_of (tm_4 (List.mem_of_getElem? (i := 61) rfl)) rfl
set_option maxRecDepth 20000 in
theorem tw_815 : Cond.instanceMethod yX5_choosesOn ∈ lw_gd := gd_of (tm_4 (List.mem_of_getElem? (i := 63) rfl)) rfl
set_option maxRecDepth 20000 in
theorem tw_816 : Cond.code yX5_choosesOn cX5_choosesOn 2 (some .boolean) ∈ lw_gd := gd_of (tm_4 (List.mem_of_getElem? (i := 64) rfl)) rfl
set_option maxRecDepth 20000 in
theorem tw_817 : Cond.methodLink "BitTunerModel" 208 yX5_take ∈ lw_gd := gd_of (tm_4 (List.mem_of_getElem? (i := 65) rfl)) rfl
set_option maxRecDepth 20000 in
theorem tw_819 : Cond.instanceMethod yX5_take ∈ lw_gd := gd_of (tm_4 (List.mem_of_getElem? (i := 67) rfl)) rfl
set_option maxRecDepth 20000 in
theorem tw_820 : Cond.code yX5_take cX5_take 3 none ∈ lw_gd := gd_of (tm_4 (List.mem_of_getElem? (i := 68) rfl)) rfl
set_option maxRecDepth 20000 in
theorem tw_821 : Cond.methodLink "BitTunerLaw" 114 yX5_trim ∈ lw_gd := gd_of (tm_4 (List.mem_of_getElem? (i := 69) rfl)) rfl
set_option maxRecDepth 20000 in
theorem tw_822 : Cond.instanceMethod yX5_trim ∈ lw_gd := gd_of (tm_4 (List.mem_of_getElem? (i := 70) rfl)) rfl
set_option maxRecDepth 20000 in
theorem tw_823 : Cond.selects "BitTunerModel" yX5_trim yX5_trim ∈ lw_gd := gd_of (tm_4 (List.mem_of_getElem? (i := 71) rfl)) rfl
set_option maxRecDepth 20000 in
theorem tw_824 : Cond.code yX5_trim cX5_trim 6 (some .int) ∈ lw_gd := gd_of (tm_4 (List.mem_of_getElem? (i := 72) rfl)) rfl
set_option maxRecDepth 20000 in
theorem tw_825 : Cond.methodLink "BitTunerLaw" 118 yX5_floor ∈ lw_gd := gd_of (tm_4 (List.mem_of_getElem? (i := 73) rfl)) rfl
set_option maxRecDepth 20000 in
theorem tw_826 : Cond.instanceMethod yX5_floor ∈ lw_gd := gd_of (tm_4 (List.mem_of_getElem? (i := 74) rfl)) rfl
set_option maxRecDepth 20000 in
theorem tw_827 : Cond.selects "BitTunerModel" yX5_floor yX5_floor ∈ lw_gd := gd_of (tm_4 (List.mem_of_getElem? (i := 75) rfl)) rfl
set_option maxRecDepth 20000 in
theorem tw_828 : Cond.code yX5_floor cX5_floor 4 (some .long) ∈ lw_gd := gd_of (tm_4 (List.mem_of_getElem? (i := 76) rfl)) rfl
set_option maxRecDepth 20000 in
theorem tw_829 : Cond.methodLink "BitTunerLaw" 122 yX5_gain ∈ lw_gd := gd_of (tm_4 (List.mem_of_getElem? (i := 77) rfl)) rfl
set_option maxRecDepth 20000 in
theorem tw_830 : Cond.instanceMethod yX5_gain ∈ lw_gd := gd_of (tm_4 (List.mem_of_getElem? (i := 78) rfl)) rfl
set_option maxRecDepth 20000 in
theorem tw_831 : Cond.selects "BitTunerModel" yX5_gain yX5_gain ∈ lw_gd := gd_of (tm_4 (List.mem_of_getElem? (i := 79) rfl)) rfl
set_option maxRecDepth 20000 in
theorem tw_832 : Cond.code yX5_gain cX5_gain 3 (some .long) ∈ lw_gd := gd_of (tm_4 (List.mem_of_getElem? (i := 80) rfl)) rfl
set_option maxRecDepth 20000 in
theorem tw_833 : Cond.methodLink "BitTunerModel" 211 yX5_gainOf ∈ lw_gd := gd_of (tm_4 (List.mem_of_getElem? (i := 81) rfl)) rfl
set_option maxRecDepth 20000 in
theorem tw_835 : Cond.instanceMethod yX5_gainOf ∈ lw_gd := gd_of (tm_4 (List.mem_of_getElem? (i := 83) rfl)) rfl
set_option maxRecDepth 20000 in
theorem tw_836 : Cond.code yX5_gainOf cX5_gainOf 8 (some .long) ∈ lw_gd := gd_of (tm_4 (List.mem_of_getElem? (i := 84) rfl)) rfl
set_option maxRecDepth 20000 in
theorem tw_837 : Cond.methodLink "BitTunerLaw" 126 yX5_blame ∈ lw_gd := gd_of (tm_4 (List.mem_of_getElem? (i := 85) rfl)) rfl
set_option maxRecDepth 20000 in
theorem tw_838 : Cond.instanceMethod yX5_blame ∈ lw_gd := gd_of (tm_4 (List.mem_of_getElem? (i := 86) rfl)) rfl
set_option maxRecDepth 20000 in
theorem tw_839 : Cond.selects "BitTunerModel" yX5_blame yX5_blame ∈ lw_gd := gd_of (tm_4 (List.mem_of_getElem? (i := 87) rfl)) rfl
set_option maxRecDepth 20000 in
theorem tw_840 : Cond.code yX5_blame cX5_blame 8 (some .int) ∈ lw_gd := gd_of (tm_4 (List.mem_of_getElem? (i := 88) rfl)) rfl
set_option maxRecDepth 20000 in
theorem tw_841 : Cond.methodLink "BitTunerLaw" 130 yX5_count ∈ lw_gd := gd_of (tm_4 (List.mem_of_getElem? (i := 89) rfl)) rfl
set_option maxRecDepth 20000 in
theorem tw_842 : Cond.instanceMethod yX5_count ∈ lw_gd := gd_of (tm_4 (List.mem_of_getElem? (i := 90) rfl)) rfl
set_option maxRecDepth 20000 in
theorem tw_843 : Cond.selects "BitTunerModel" yX5_count yX5_count ∈ lw_gd := gd_of (tm_4 (List.mem_of_getElem? (i := 91) rfl)) rfl
set_option maxRecDepth 20000 in
theorem tw_844 : Cond.code yX5_count cX5_count 4 (some .int) ∈ lw_gd := gd_of (tm_4 (List.mem_of_getElem? (i := 92) rfl)) rfl
set_option maxRecDepth 20000 in
theorem tw_845 : Cond.methodLink "BitTunerLaw" 135 yX5_digest ∈ lw_gd := gd_of (tm_4 (List.mem_of_getElem? (i := 93) rfl)) rfl
set_option maxRecDepth 20000 in
theorem tw_846 : Cond.instanceMethod yX5_digest ∈ lw_gd := gd_of (tm_4 (List.mem_of_getElem? (i := 94) rfl)) rfl
set_option maxRecDepth 20000 in
theorem tw_847 : Cond.selects "BitTunerModel" yX5_digest yX5_digest ∈ lw_gd := gd_of (tm_4 (List.mem_of_getElem? (i := 95) rfl)) rfl
set_option maxRecDepth 20000 in
theorem tw_848 : Cond.code yX5_digest cX5_digest 5 (some .long) ∈ lw_gd := gd_of (tm_4 (List.mem_of_getElem? (i := 96) rfl)) rfl
set_option maxRecDepth 20000 in
theorem tw_849 : Cond.constantLong "BitTunerModel" 215 (17) ∈ lw_gd := gd_of (tm_4 (List.mem_of_getElem? (i := 97) rfl)) rfl
set_option maxRecDepth 20000 in
theorem tw_850 : Cond.constantLong "BitTunerModel" 217 (31) ∈ lw_gd := gd_of (tm_4 (List.mem_of_getElem? (i := 98) rfl)) rfl
set_option maxRecDepth 20000 in
theorem tw_851 : Cond.methodLink "BitTunerModel" 219 yX5_count ∈ lw_gd := gd_of (tm_4 (List.mem_of_getElem? (i := 99) rfl)) rfl
set_option maxRecDepth 20000 in
theorem tw_852 : Cond.methodLink "BitTunerModel" 223 yX5_about ∈ lw_gd := gd_of (tm_4 (List.mem_of_getElem? (i := 100) rfl)) rfl
set_option maxRecDepth 20000 in
theorem tw_853 : Cond.methodLink "BitTunerModel" 226 yX5_exact ∈ lw_gd := gd_of (tm_4 (List.mem_of_getElem? (i := 101) rfl)) rfl
set_option maxRecDepth 20000 in
theorem tw_854 : Cond.methodLink "BitTunerModel" 229 yX5_tuned ∈ lw_gd := gd_of (tm_4 (List.mem_of_getElem? (i := 102) rfl)) rfl
set_option maxRecDepth 20000 in
theorem tw_855 : Cond.constantDouble "BitTunerLaw" 58 (4593671619917905920) ∈ lw_gd := gd_of (tm_4 (List.mem_of_getElem? (i := 103) rfl)) rfl
set_option maxRecDepth 20000 in
theorem tw_856 : Cond.constantLong "BitTunerLaw" 100 (4294967295) ∈ lw_gd := gd_of (tm_4 (List.mem_of_getElem? (i := 104) rfl)) rfl
theorem inX0 : ∀ w ∈ u_ws RX0 TX0 2, w ∈ lw_gd := fun w h => gd_of ((by decide +kernel : ∀ w ∈ u_ws RX0 TX0 2, w ∈ lw_tbl) w h) ((by decide +kernel : ∀ w ∈ u_ws RX0 TX0 2, goodWord w = true) w h)
theorem inX1 : ∀ w ∈ u_ws RX1 TX1 5, w ∈ lw_gd := fun w h => gd_of ((by decide +kernel : ∀ w ∈ u_ws RX1 TX1 5, w ∈ lw_tbl) w h) ((by decide +kernel : ∀ w ∈ u_ws RX1 TX1 5, goodWord w = true) w h)
theorem inX2 : ∀ w ∈ u_ws RX2 TX2 11, w ∈ lw_gd := fun w h => gd_of ((by decide +kernel : ∀ w ∈ u_ws RX2 TX2 11, w ∈ lw_tbl) w h) ((by decide +kernel : ∀ w ∈ u_ws RX2 TX2 11, goodWord w = true) w h)
theorem inX3 : ∀ w ∈ u_ws RX3 TX3 5, w ∈ lw_gd := fun w h => gd_of ((by decide +kernel : ∀ w ∈ u_ws RX3 TX3 5, w ∈ lw_tbl) w h) ((by decide +kernel : ∀ w ∈ u_ws RX3 TX3 5, goodWord w = true) w h)
theorem inX4 : ∀ w ∈ u_ws RX4 TX4 3, w ∈ lw_gd := fun w h => gd_of ((by decide +kernel : ∀ w ∈ u_ws RX4 TX4 3, w ∈ lw_tbl) w h) ((by decide +kernel : ∀ w ∈ u_ws RX4 TX4 3, goodWord w = true) w h)
theorem inX5 : ∀ w ∈ u_ws RX5 TX5 19, w ∈ lw_gd := fun w h => gd_of ((by decide +kernel : ∀ w ∈ u_ws RX5 TX5 19, w ∈ lw_tbl) w h) ((by decide +kernel : ∀ w ∈ u_ws RX5 TX5 19, goodWord w = true) w h)
end
section
/-! the two worlds: a BitTuner with all that it owns (ids 0..27), a BitTunerModel (ids 0..18) -/
def xval (I : TI) (J : TJ) (k : Nat) : va_E := .inr (2, [.int (I 0 k), .int (I 1 k), .int (I 2 k), .int (I 3 k), .int (I 4 k), .int (I 5 k), .int (I 6 k), .long (J 0 k), .long (J 1 k), .long (J 2 k), .int (I 7 k)])
def xfix (cI cJ cV : ClassId) (ad : Nat → Nat) (I : TI) (J : TJ) : va_W := [(ad 0, .inr (4, [.ref (ad 1), .ref (ad 3), .ref (ad 4)])), (ad 1, .inr (0, [.ref (ad 2), .int (I 12 0)])), (ad 2, .inl (cV, 16, .inr (.inr (.inr (.inr (fun k => some (ad (12 + k)))))))), (ad 3, .inr (1, [.ref (ad 1), .ref (ad 5), .ref (ad 6), .ref (ad 7), .ref (ad 8)])), (ad 4, .inr (3, [.ref (ad 1), .ref (ad 9), .ref (ad 10), .ref (ad 11), .int (I 12 1)])), (ad 5, .inl (cI, 16, .inl (I 8))), (ad 6, .inl (cJ, 16, .inr (.inl (J 3)))), (ad 7, .inl (cJ, 16, .inr (.inl (J 4)))), (ad 8, .inl (cI, 16, .inl (I 9))), (ad 9, .inl (cI, 16, .inl (I 10))), (ad 10, .inl (cJ, 16, .inr (.inl (J 5)))), (ad 11, .inl (cI, 16, .inl (I 11)))]
def xw (cI cJ cV : ClassId) (ad : Nat → Nat) (I : TI) (J : TJ) : va_W := xfix cI cJ cV ad I J ++ (List.range 16).map (fun k => (ad (12 + k), xval I J k))
abbrev xt (cI cJ cV : ClassId) : List (ClassId × FieldType) := [(cI, .int), (cJ, .long), (cV, .object "BitTuner$Value")]
def xL (ad : Nat → Nat) : List Nat := (List.range 28).map ad
abbrev XB (D : va_G) (cI cJ cV : ClassId) (ad : Nat → Nat) (s : State) (H : Heap) (locs : List Loc) (I : TI) (J : TJ) : Prop := GB D (xw cI cJ cV ad) (xt cI cJ cV) (xL ad) s H locs I J
theorem xw_WL {cI cJ cV : ClassId} {ad : Nat → Nat} (I : TI) (J : TJ) (k : Nat) (q : Nat × va_E) (h : (xw cI cJ cV ad I J)[k]? = some q) : q.1 ∈ xL ad := by
  have hm : q ∈ xw cI cJ cV ad I J := List.mem_of_getElem? h
  unfold xw at hm
  unfold xL
  rcases List.mem_append.mp hm with hm | hm
  · unfold xfix at hm
    simp only [List.mem_cons, List.not_mem_nil, or_false] at hm
    rcases hm with rfl | rfl | rfl | rfl | rfl | rfl | rfl | rfl | rfl | rfl | rfl | rfl <;> exact List.mem_map_of_mem (List.mem_range.mpr (by decide))
  · obtain ⟨j, hj, rfl⟩ := List.mem_map.mp hm
    exact List.mem_map_of_mem (List.mem_range.mpr (by have := List.mem_range.mp hj; omega))
theorem xw_val {cI cJ cV : ClassId} {ad : Nat → Nat} {I : TI} {J : TJ} {k : Nat} (hk : k < 16) : (xw cI cJ cV ad I J)[12 + k]? = some (ad (12 + k), xval I J k) := by
  unfold xw
  rw [List.getElem?_append_right (by simp [xfix])]
  simp [xfix, hk]
theorem set_range {α : Type} (n k : Nat) (f : Nat → α) (x : α) : ((List.range n).map f).set k x = (List.range n).map (fun j => if j = k then x else f j) := by
  apply List.ext_getElem?
  intro i
  by_cases h : i < n
  · by_cases e : k = i
    · subst e; simp [List.getElem?_set, h]
    · have e2 : ¬ i = k := fun z => e z.symm
      simp [List.getElem?_set, h, e, e2]
  · simp [List.getElem?_set, h]
theorem xw_set {cI cJ cV : ClassId} {ad : Nat → Nat} {I I' : TI} {J J' : TJ} {k : Nat} {x : va_E} (hf : xfix cI cJ cV ad I J = xfix cI cJ cV ad I' J') (hk : xval I' J' k = x) (ho : ∀ j, j ≠ k → xval I J j = xval I' J' j) : (xw cI cJ cV ad I J).set (12 + k) (ad (12 + k), x) = xw cI cJ cV ad I' J' := by
  unfold xw
  rw [hf, List.set_append_right (12 + k) _ (by simp [xfix])]
  rw [show 12 + k - (xfix cI cJ cV ad I' J').length = k by simp [xfix], set_range]
  congr 1
  apply List.map_congr_left
  intro j _
  by_cases e : j = k
  · subst e; simp [hk]
  · simp [e, ho j e]
theorem sI_ne {I : TI} {c c' : Nat} {f : Nat → Int32} (h : c' ≠ c) : sI I c f c' = I c' := if_neg h
theorem sJ_ne {J : TJ} {c c' : Nat} {f : Nat → Int64} (h : c' ≠ c) : sJ J c f c' = J c' := if_neg h
theorem sI_eq {I : TI} {c : Nat} {f : Nat → Int32} : sI I c f c = f := if_pos rfl
theorem sJ_eq {J : TJ} {c : Nat} {f : Nat → Int64} : sJ J c f c = f := if_pos rfl
theorem upd_eq {f : Nat → Int32} {k : Nat} {v : Int32} : upd f k v k = v := if_pos rfl
theorem upd_ne {f : Nat → Int32} {j k : Nat} {v : Int32} (h : j ≠ k) : upd f k v j = f j := if_neg h
theorem updL_eq {f : Nat → Int64} {k : Nat} {v : Int64} : vp_updL f k v k = v := if_pos rfl
theorem updL_ne {f : Nat → Int64} {j k : Nat} {v : Int64} (h : j ≠ k) : vp_updL f k v j = f j := if_neg h
section XR
variable {p : Program} {l : Launch} {e : Env} {R : Room} {s : State} {m : MethodId} {args : Array Value} {below : List Frame} {meth : Method} {c : Code} {H : Heap} {locs : List Loc} {Q : State → Prop}
variable {own : String} {cc : ByteArray} {nL : Nat} {ret : Option FieldType} {D : va_G} {cI cJ cV : ClassId} {ad : Nat → Nat} {I : TI} {J : TJ}
variable {pc : Nat} {ls : Array Slot} {rest : List Value}
theorem xg_v_kind (C : KX p s m args meth c own cc nL ret) (hB : XB D cI cJ cV ad s H locs I J) {k : Nat} (hk : k < 16) {index : Nat} (hl : Cond.fieldLink own index "BitTuner$Value" "kind" "I" ∈ lw_gd) (hdg : decode cc pc = .ok (.getfield index, 3)) (kk : W p l e R s m args below meth c H locs 0 0 Q (F0 m (pc + 3) ls (.int (I 0 k) :: rest))) : W p l e R s m args below meth c H locs 0 0 Q (F0 m pc ls (.ref (ad (12 + k)) :: rest)) :=
  g_get C hB (12 + k) (xw_val hk) rfl inX2 0 (by decide) hl rfl hdg kk
theorem xg_v_a (C : KX p s m args meth c own cc nL ret) (hB : XB D cI cJ cV ad s H locs I J) {k : Nat} (hk : k < 16) {index : Nat} (hl : Cond.fieldLink own index "BitTuner$Value" "a" "I" ∈ lw_gd) (hdg : decode cc pc = .ok (.getfield index, 3)) (kk : W p l e R s m args below meth c H locs 0 0 Q (F0 m (pc + 3) ls (.int (I 1 k) :: rest))) : W p l e R s m args below meth c H locs 0 0 Q (F0 m pc ls (.ref (ad (12 + k)) :: rest)) :=
  g_get C hB (12 + k) (xw_val hk) rfl inX2 1 (by decide) hl rfl hdg kk
theorem xg_v_b (C : KX p s m args meth c own cc nL ret) (hB : XB D cI cJ cV ad s H locs I J) {k : Nat} (hk : k < 16) {index : Nat} (hl : Cond.fieldLink own index "BitTuner$Value" "b" "I" ∈ lw_gd) (hdg : decode cc pc = .ok (.getfield index, 3)) (kk : W p l e R s m args below meth c H locs 0 0 Q (F0 m (pc + 3) ls (.int (I 2 k) :: rest))) : W p l e R s m args below meth c H locs 0 0 Q (F0 m pc ls (.ref (ad (12 + k)) :: rest)) :=
  g_get C hB (12 + k) (xw_val hk) rfl inX2 2 (by decide) hl rfl hdg kk
theorem xg_v_degree (C : KX p s m args meth c own cc nL ret) (hB : XB D cI cJ cV ad s H locs I J) {k : Nat} (hk : k < 16) {index : Nat} (hl : Cond.fieldLink own index "BitTuner$Value" "degree" "I" ∈ lw_gd) (hdg : decode cc pc = .ok (.getfield index, 3)) (kk : W p l e R s m args below meth c H locs 0 0 Q (F0 m (pc + 3) ls (.int (I 3 k) :: rest))) : W p l e R s m args below meth c H locs 0 0 Q (F0 m pc ls (.ref (ad (12 + k)) :: rest)) :=
  g_get C hB (12 + k) (xw_val hk) rfl inX2 3 (by decide) hl rfl hdg kk
theorem xg_v_bits (C : KX p s m args meth c own cc nL ret) (hB : XB D cI cJ cV ad s H locs I J) {k : Nat} (hk : k < 16) {index : Nat} (hl : Cond.fieldLink own index "BitTuner$Value" "bits" "I" ∈ lw_gd) (hdg : decode cc pc = .ok (.getfield index, 3)) (kk : W p l e R s m args below meth c H locs 0 0 Q (F0 m (pc + 3) ls (.int (I 4 k) :: rest))) : W p l e R s m args below meth c H locs 0 0 Q (F0 m pc ls (.ref (ad (12 + k)) :: rest)) :=
  g_get C hB (12 + k) (xw_val hk) rfl inX2 4 (by decide) hl rfl hdg kk
theorem xg_v_rounding (C : KX p s m args meth c own cc nL ret) (hB : XB D cI cJ cV ad s H locs I J) {k : Nat} (hk : k < 16) {index : Nat} (hl : Cond.fieldLink own index "BitTuner$Value" "rounding" "I" ∈ lw_gd) (hdg : decode cc pc = .ok (.getfield index, 3)) (kk : W p l e R s m args below meth c H locs 0 0 Q (F0 m (pc + 3) ls (.int (I 5 k) :: rest))) : W p l e R s m args below meth c H locs 0 0 Q (F0 m pc ls (.ref (ad (12 + k)) :: rest)) :=
  g_get C hB (12 + k) (xw_val hk) rfl inX2 5 (by decide) hl rfl hdg kk
theorem xg_v_weight (C : KX p s m args meth c own cc nL ret) (hB : XB D cI cJ cV ad s H locs I J) {k : Nat} (hk : k < 16) {index : Nat} (hl : Cond.fieldLink own index "BitTuner$Value" "weight" "I" ∈ lw_gd) (hdg : decode cc pc = .ok (.getfield index, 3)) (kk : W p l e R s m args below meth c H locs 0 0 Q (F0 m (pc + 3) ls (.int (I 6 k) :: rest))) : W p l e R s m args below meth c H locs 0 0 Q (F0 m pc ls (.ref (ad (12 + k)) :: rest)) :=
  g_get C hB (12 + k) (xw_val hk) rfl inX2 6 (by decide) hl rfl hdg kk
theorem xg_v_low (C : KX p s m args meth c own cc nL ret) (hB : XB D cI cJ cV ad s H locs I J) {k : Nat} (hk : k < 16) {index : Nat} (hl : Cond.fieldLink own index "BitTuner$Value" "low" "J" ∈ lw_gd) (hdg : decode cc pc = .ok (.getfield index, 3)) (kk : W p l e R s m args below meth c H locs 0 0 Q (F0 m (pc + 3) ls (.long (J 0 k) :: rest))) : W p l e R s m args below meth c H locs 0 0 Q (F0 m pc ls (.ref (ad (12 + k)) :: rest)) :=
  g_get C hB (12 + k) (xw_val hk) rfl inX2 7 (by decide) hl rfl hdg kk
theorem xg_v_high (C : KX p s m args meth c own cc nL ret) (hB : XB D cI cJ cV ad s H locs I J) {k : Nat} (hk : k < 16) {index : Nat} (hl : Cond.fieldLink own index "BitTuner$Value" "high" "J" ∈ lw_gd) (hdg : decode cc pc = .ok (.getfield index, 3)) (kk : W p l e R s m args below meth c H locs 0 0 Q (F0 m (pc + 3) ls (.long (J 1 k) :: rest))) : W p l e R s m args below meth c H locs 0 0 Q (F0 m pc ls (.ref (ad (12 + k)) :: rest)) :=
  g_get C hB (12 + k) (xw_val hk) rfl inX2 8 (by decide) hl rfl hdg kk
theorem xg_v_reach (C : KX p s m args meth c own cc nL ret) (hB : XB D cI cJ cV ad s H locs I J) {k : Nat} (hk : k < 16) {index : Nat} (hl : Cond.fieldLink own index "BitTuner$Value" "reach" "J" ∈ lw_gd) (hdg : decode cc pc = .ok (.getfield index, 3)) (kk : W p l e R s m args below meth c H locs 0 0 Q (F0 m (pc + 3) ls (.long (J 2 k) :: rest))) : W p l e R s m args below meth c H locs 0 0 Q (F0 m pc ls (.ref (ad (12 + k)) :: rest)) :=
  g_get C hB (12 + k) (xw_val hk) rfl inX2 9 (by decide) hl rfl hdg kk
theorem xg_v_units (C : KX p s m args meth c own cc nL ret) (hB : XB D cI cJ cV ad s H locs I J) {k : Nat} (hk : k < 16) {index : Nat} (hl : Cond.fieldLink own index "BitTuner$Value" "units" "I" ∈ lw_gd) (hdg : decode cc pc = .ok (.getfield index, 3)) (kk : W p l e R s m args below meth c H locs 0 0 Q (F0 m (pc + 3) ls (.int (I 7 k) :: rest))) : W p l e R s m args below meth c H locs 0 0 Q (F0 m pc ls (.ref (ad (12 + k)) :: rest)) :=
  g_get C hB (12 + k) (xw_val hk) rfl inX2 10 (by decide) hl rfl hdg kk
theorem xg_t_program (C : KX p s m args meth c own cc nL ret) (hB : XB D cI cJ cV ad s H locs I J) {index : Nat} (hl : Cond.fieldLink own index "BitTuner" "program" "LBitTuner$Program;" ∈ lw_gd) (hdg : decode cc pc = .ok (.getfield index, 3)) (kk : W p l e R s m args below meth c H locs 0 0 Q (F0 m (pc + 3) ls (.ref (ad 1) :: rest))) : W p l e R s m args below meth c H locs 0 0 Q (F0 m pc ls (.ref (ad 0) :: rest)) :=
  g_get C hB 0 rfl rfl inX4 0 (by decide) hl rfl hdg kk
theorem xg_t_runs (C : KX p s m args meth c own cc nL ret) (hB : XB D cI cJ cV ad s H locs I J) {index : Nat} (hl : Cond.fieldLink own index "BitTuner" "runs" "LBitTuner$Runs;" ∈ lw_gd) (hdg : decode cc pc = .ok (.getfield index, 3)) (kk : W p l e R s m args below meth c H locs 0 0 Q (F0 m (pc + 3) ls (.ref (ad 3) :: rest))) : W p l e R s m args below meth c H locs 0 0 Q (F0 m pc ls (.ref (ad 0) :: rest)) :=
  g_get C hB 0 rfl rfl inX4 1 (by decide) hl rfl hdg kk
theorem xg_t_widths (C : KX p s m args meth c own cc nL ret) (hB : XB D cI cJ cV ad s H locs I J) {index : Nat} (hl : Cond.fieldLink own index "BitTuner" "widths" "LBitTuner$Widths;" ∈ lw_gd) (hdg : decode cc pc = .ok (.getfield index, 3)) (kk : W p l e R s m args below meth c H locs 0 0 Q (F0 m (pc + 3) ls (.ref (ad 4) :: rest))) : W p l e R s m args below meth c H locs 0 0 Q (F0 m pc ls (.ref (ad 0) :: rest)) :=
  g_get C hB 0 rfl rfl inX4 2 (by decide) hl rfl hdg kk
theorem xg_p_values (C : KX p s m args meth c own cc nL ret) (hB : XB D cI cJ cV ad s H locs I J) {index : Nat} (hl : Cond.fieldLink own index "BitTuner$Program" "values" "[LBitTuner$Value;" ∈ lw_gd) (hdg : decode cc pc = .ok (.getfield index, 3)) (kk : W p l e R s m args below meth c H locs 0 0 Q (F0 m (pc + 3) ls (.ref (ad 2) :: rest))) : W p l e R s m args below meth c H locs 0 0 Q (F0 m pc ls (.ref (ad 1) :: rest)) :=
  g_get C hB 1 rfl rfl inX0 0 (by decide) hl rfl hdg kk
theorem xg_p_many (C : KX p s m args meth c own cc nL ret) (hB : XB D cI cJ cV ad s H locs I J) {index : Nat} (hl : Cond.fieldLink own index "BitTuner$Program" "many" "I" ∈ lw_gd) (hdg : decode cc pc = .ok (.getfield index, 3)) (kk : W p l e R s m args below meth c H locs 0 0 Q (F0 m (pc + 3) ls (.int (I 12 0) :: rest))) : W p l e R s m args below meth c H locs 0 0 Q (F0 m pc ls (.ref (ad 1) :: rest)) :=
  g_get C hB 1 rfl rfl inX0 1 (by decide) hl rfl hdg kk
theorem xg_r_program (C : KX p s m args meth c own cc nL ret) (hB : XB D cI cJ cV ad s H locs I J) {index : Nat} (hl : Cond.fieldLink own index "BitTuner$Runs" "program" "LBitTuner$Program;" ∈ lw_gd) (hdg : decode cc pc = .ok (.getfield index, 3)) (kk : W p l e R s m args below meth c H locs 0 0 Q (F0 m (pc + 3) ls (.ref (ad 1) :: rest))) : W p l e R s m args below meth c H locs 0 0 Q (F0 m pc ls (.ref (ad 3) :: rest)) :=
  g_get C hB 3 rfl rfl inX1 0 (by decide) hl rfl hdg kk
theorem xg_r_row (C : KX p s m args meth c own cc nL ret) (hB : XB D cI cJ cV ad s H locs I J) {index : Nat} (hl : Cond.fieldLink own index "BitTuner$Runs" "row" "[I" ∈ lw_gd) (hdg : decode cc pc = .ok (.getfield index, 3)) (kk : W p l e R s m args below meth c H locs 0 0 Q (F0 m (pc + 3) ls (.ref (ad 5) :: rest))) : W p l e R s m args below meth c H locs 0 0 Q (F0 m pc ls (.ref (ad 3) :: rest)) :=
  g_get C hB 3 rfl rfl inX1 1 (by decide) hl rfl hdg kk
theorem xg_r_exacts (C : KX p s m args meth c own cc nL ret) (hB : XB D cI cJ cV ad s H locs I J) {index : Nat} (hl : Cond.fieldLink own index "BitTuner$Runs" "exacts" "[J" ∈ lw_gd) (hdg : decode cc pc = .ok (.getfield index, 3)) (kk : W p l e R s m args below meth c H locs 0 0 Q (F0 m (pc + 3) ls (.ref (ad 6) :: rest))) : W p l e R s m args below meth c H locs 0 0 Q (F0 m pc ls (.ref (ad 3) :: rest)) :=
  g_get C hB 3 rfl rfl inX1 2 (by decide) hl rfl hdg kk
theorem xg_r_tuneds (C : KX p s m args meth c own cc nL ret) (hB : XB D cI cJ cV ad s H locs I J) {index : Nat} (hl : Cond.fieldLink own index "BitTuner$Runs" "tuneds" "[J" ∈ lw_gd) (hdg : decode cc pc = .ok (.getfield index, 3)) (kk : W p l e R s m args below meth c H locs 0 0 Q (F0 m (pc + 3) ls (.ref (ad 7) :: rest))) : W p l e R s m args below meth c H locs 0 0 Q (F0 m pc ls (.ref (ad 3) :: rest)) :=
  g_get C hB 3 rfl rfl inX1 3 (by decide) hl rfl hdg kk
theorem xg_r_worstRow (C : KX p s m args meth c own cc nL ret) (hB : XB D cI cJ cV ad s H locs I J) {index : Nat} (hl : Cond.fieldLink own index "BitTuner$Runs" "worstRow" "[I" ∈ lw_gd) (hdg : decode cc pc = .ok (.getfield index, 3)) (kk : W p l e R s m args below meth c H locs 0 0 Q (F0 m (pc + 3) ls (.ref (ad 8) :: rest))) : W p l e R s m args below meth c H locs 0 0 Q (F0 m pc ls (.ref (ad 3) :: rest)) :=
  g_get C hB 3 rfl rfl inX1 4 (by decide) hl rfl hdg kk
theorem xg_w_program (C : KX p s m args meth c own cc nL ret) (hB : XB D cI cJ cV ad s H locs I J) {index : Nat} (hl : Cond.fieldLink own index "BitTuner$Widths" "program" "LBitTuner$Program;" ∈ lw_gd) (hdg : decode cc pc = .ok (.getfield index, 3)) (kk : W p l e R s m args below meth c H locs 0 0 Q (F0 m (pc + 3) ls (.ref (ad 1) :: rest))) : W p l e R s m args below meth c H locs 0 0 Q (F0 m pc ls (.ref (ad 4) :: rest)) :=
  g_get C hB 4 rfl rfl inX3 0 (by decide) hl rfl hdg kk
theorem xg_w_trial (C : KX p s m args meth c own cc nL ret) (hB : XB D cI cJ cV ad s H locs I J) {index : Nat} (hl : Cond.fieldLink own index "BitTuner$Widths" "trial" "[I" ∈ lw_gd) (hdg : decode cc pc = .ok (.getfield index, 3)) (kk : W p l e R s m args below meth c H locs 0 0 Q (F0 m (pc + 3) ls (.ref (ad 9) :: rest))) : W p l e R s m args below meth c H locs 0 0 Q (F0 m pc ls (.ref (ad 4) :: rest)) :=
  g_get C hB 4 rfl rfl inX3 1 (by decide) hl rfl hdg kk
theorem xg_w_bounds (C : KX p s m args meth c own cc nL ret) (hB : XB D cI cJ cV ad s H locs I J) {index : Nat} (hl : Cond.fieldLink own index "BitTuner$Widths" "bounds" "[J" ∈ lw_gd) (hdg : decode cc pc = .ok (.getfield index, 3)) (kk : W p l e R s m args below meth c H locs 0 0 Q (F0 m (pc + 3) ls (.ref (ad 10) :: rest))) : W p l e R s m args below meth c H locs 0 0 Q (F0 m pc ls (.ref (ad 4) :: rest)) :=
  g_get C hB 4 rfl rfl inX3 2 (by decide) hl rfl hdg kk
theorem xg_w_cheapest (C : KX p s m args meth c own cc nL ret) (hB : XB D cI cJ cV ad s H locs I J) {index : Nat} (hl : Cond.fieldLink own index "BitTuner$Widths" "cheapest" "[I" ∈ lw_gd) (hdg : decode cc pc = .ok (.getfield index, 3)) (kk : W p l e R s m args below meth c H locs 0 0 Q (F0 m (pc + 3) ls (.ref (ad 11) :: rest))) : W p l e R s m args below meth c H locs 0 0 Q (F0 m pc ls (.ref (ad 4) :: rest)) :=
  g_get C hB 4 rfl rfl inX3 3 (by decide) hl rfl hdg kk
theorem xg_w_cheapestPrice (C : KX p s m args meth c own cc nL ret) (hB : XB D cI cJ cV ad s H locs I J) {index : Nat} (hl : Cond.fieldLink own index "BitTuner$Widths" "cheapestPrice" "I" ∈ lw_gd) (hdg : decode cc pc = .ok (.getfield index, 3)) (kk : W p l e R s m args below meth c H locs 0 0 Q (F0 m (pc + 3) ls (.int (I 12 1) :: rest))) : W p l e R s m args below meth c H locs 0 0 Q (F0 m pc ls (.ref (ad 4) :: rest)) :=
  g_get C hB 4 rfl rfl inX3 4 (by decide) hl rfl hdg kk
theorem xp_v_kind (C : KX p s m args meth c own cc nL ret) (hB : XB D cI cJ cV ad s H locs I J) {k : Nat} (hk : k < 16) {index : Nat} (hl : Cond.fieldLink own index "BitTuner$Value" "kind" "I" ∈ lw_gd) {x : Int32} (hdg : decode cc pc = .ok (.putfield index, 3)) (kk : ∀ (H1 : Heap) (locs1 : List Loc), XB D cI cJ cV ad s H1 locs1 (uI I 0 k x) J → W p l e R s m args below meth c H1 locs1 0 0 Q (F0 m (pc + 3) ls rest)) : W p l e R s m args below meth c H locs 0 0 Q (F0 m pc ls (.int x :: .ref (ad (12 + k)) :: rest)) :=
  g_put C hB (12 + k) (xw_val hk) rfl inX2 tyX2 tyX2_ok nmX2 0 (by decide) hl rfl rfl rfl (Nat.le_of_ble_eq_true rfl) (xw_set (by rfl) (by simp [xval, uI, sI, upd]) (fun j h => by simp [xval, uI, sI, upd, h])) hdg kk
theorem xp_v_a (C : KX p s m args meth c own cc nL ret) (hB : XB D cI cJ cV ad s H locs I J) {k : Nat} (hk : k < 16) {index : Nat} (hl : Cond.fieldLink own index "BitTuner$Value" "a" "I" ∈ lw_gd) {x : Int32} (hdg : decode cc pc = .ok (.putfield index, 3)) (kk : ∀ (H1 : Heap) (locs1 : List Loc), XB D cI cJ cV ad s H1 locs1 (uI I 1 k x) J → W p l e R s m args below meth c H1 locs1 0 0 Q (F0 m (pc + 3) ls rest)) : W p l e R s m args below meth c H locs 0 0 Q (F0 m pc ls (.int x :: .ref (ad (12 + k)) :: rest)) :=
  g_put C hB (12 + k) (xw_val hk) rfl inX2 tyX2 tyX2_ok nmX2 1 (by decide) hl rfl rfl rfl (Nat.le_of_ble_eq_true rfl) (xw_set (by rfl) (by simp [xval, uI, sI, upd]) (fun j h => by simp [xval, uI, sI, upd, h])) hdg kk
theorem xp_v_b (C : KX p s m args meth c own cc nL ret) (hB : XB D cI cJ cV ad s H locs I J) {k : Nat} (hk : k < 16) {index : Nat} (hl : Cond.fieldLink own index "BitTuner$Value" "b" "I" ∈ lw_gd) {x : Int32} (hdg : decode cc pc = .ok (.putfield index, 3)) (kk : ∀ (H1 : Heap) (locs1 : List Loc), XB D cI cJ cV ad s H1 locs1 (uI I 2 k x) J → W p l e R s m args below meth c H1 locs1 0 0 Q (F0 m (pc + 3) ls rest)) : W p l e R s m args below meth c H locs 0 0 Q (F0 m pc ls (.int x :: .ref (ad (12 + k)) :: rest)) :=
  g_put C hB (12 + k) (xw_val hk) rfl inX2 tyX2 tyX2_ok nmX2 2 (by decide) hl rfl rfl rfl (Nat.le_of_ble_eq_true rfl) (xw_set (by rfl) (by simp [xval, uI, sI, upd]) (fun j h => by simp [xval, uI, sI, upd, h])) hdg kk
theorem xp_v_degree (C : KX p s m args meth c own cc nL ret) (hB : XB D cI cJ cV ad s H locs I J) {k : Nat} (hk : k < 16) {index : Nat} (hl : Cond.fieldLink own index "BitTuner$Value" "degree" "I" ∈ lw_gd) {x : Int32} (hdg : decode cc pc = .ok (.putfield index, 3)) (kk : ∀ (H1 : Heap) (locs1 : List Loc), XB D cI cJ cV ad s H1 locs1 (uI I 3 k x) J → W p l e R s m args below meth c H1 locs1 0 0 Q (F0 m (pc + 3) ls rest)) : W p l e R s m args below meth c H locs 0 0 Q (F0 m pc ls (.int x :: .ref (ad (12 + k)) :: rest)) :=
  g_put C hB (12 + k) (xw_val hk) rfl inX2 tyX2 tyX2_ok nmX2 3 (by decide) hl rfl rfl rfl (Nat.le_of_ble_eq_true rfl) (xw_set (by rfl) (by simp [xval, uI, sI, upd]) (fun j h => by simp [xval, uI, sI, upd, h])) hdg kk
theorem xp_v_bits (C : KX p s m args meth c own cc nL ret) (hB : XB D cI cJ cV ad s H locs I J) {k : Nat} (hk : k < 16) {index : Nat} (hl : Cond.fieldLink own index "BitTuner$Value" "bits" "I" ∈ lw_gd) {x : Int32} (hdg : decode cc pc = .ok (.putfield index, 3)) (kk : ∀ (H1 : Heap) (locs1 : List Loc), XB D cI cJ cV ad s H1 locs1 (uI I 4 k x) J → W p l e R s m args below meth c H1 locs1 0 0 Q (F0 m (pc + 3) ls rest)) : W p l e R s m args below meth c H locs 0 0 Q (F0 m pc ls (.int x :: .ref (ad (12 + k)) :: rest)) :=
  g_put C hB (12 + k) (xw_val hk) rfl inX2 tyX2 tyX2_ok nmX2 4 (by decide) hl rfl rfl rfl (Nat.le_of_ble_eq_true rfl) (xw_set (by rfl) (by simp [xval, uI, sI, upd]) (fun j h => by simp [xval, uI, sI, upd, h])) hdg kk
theorem xp_v_rounding (C : KX p s m args meth c own cc nL ret) (hB : XB D cI cJ cV ad s H locs I J) {k : Nat} (hk : k < 16) {index : Nat} (hl : Cond.fieldLink own index "BitTuner$Value" "rounding" "I" ∈ lw_gd) {x : Int32} (hdg : decode cc pc = .ok (.putfield index, 3)) (kk : ∀ (H1 : Heap) (locs1 : List Loc), XB D cI cJ cV ad s H1 locs1 (uI I 5 k x) J → W p l e R s m args below meth c H1 locs1 0 0 Q (F0 m (pc + 3) ls rest)) : W p l e R s m args below meth c H locs 0 0 Q (F0 m pc ls (.int x :: .ref (ad (12 + k)) :: rest)) :=
  g_put C hB (12 + k) (xw_val hk) rfl inX2 tyX2 tyX2_ok nmX2 5 (by decide) hl rfl rfl rfl (Nat.le_of_ble_eq_true rfl) (xw_set (by rfl) (by simp [xval, uI, sI, upd]) (fun j h => by simp [xval, uI, sI, upd, h])) hdg kk
theorem xp_v_weight (C : KX p s m args meth c own cc nL ret) (hB : XB D cI cJ cV ad s H locs I J) {k : Nat} (hk : k < 16) {index : Nat} (hl : Cond.fieldLink own index "BitTuner$Value" "weight" "I" ∈ lw_gd) {x : Int32} (hdg : decode cc pc = .ok (.putfield index, 3)) (kk : ∀ (H1 : Heap) (locs1 : List Loc), XB D cI cJ cV ad s H1 locs1 (uI I 6 k x) J → W p l e R s m args below meth c H1 locs1 0 0 Q (F0 m (pc + 3) ls rest)) : W p l e R s m args below meth c H locs 0 0 Q (F0 m pc ls (.int x :: .ref (ad (12 + k)) :: rest)) :=
  g_put C hB (12 + k) (xw_val hk) rfl inX2 tyX2 tyX2_ok nmX2 6 (by decide) hl rfl rfl rfl (Nat.le_of_ble_eq_true rfl) (xw_set (by rfl) (by simp [xval, uI, sI, upd]) (fun j h => by simp [xval, uI, sI, upd, h])) hdg kk
theorem xp_v_low (C : KX p s m args meth c own cc nL ret) (hB : XB D cI cJ cV ad s H locs I J) {k : Nat} (hk : k < 16) {index : Nat} (hl : Cond.fieldLink own index "BitTuner$Value" "low" "J" ∈ lw_gd) {x : Int64} (hdg : decode cc pc = .ok (.putfield index, 3)) (kk : ∀ (H1 : Heap) (locs1 : List Loc), XB D cI cJ cV ad s H1 locs1 I (uJ J 0 k x) → W p l e R s m args below meth c H1 locs1 0 0 Q (F0 m (pc + 3) ls rest)) : W p l e R s m args below meth c H locs 0 0 Q (F0 m pc ls (.long x :: .ref (ad (12 + k)) :: rest)) :=
  g_put C hB (12 + k) (xw_val hk) rfl inX2 tyX2 tyX2_ok nmX2 7 (by decide) hl rfl rfl rfl (Nat.le_of_ble_eq_true rfl) (xw_set (by rfl) (by simp [xval, uJ, sJ, vp_updL]) (fun j h => by simp [xval, uJ, sJ, vp_updL, h])) hdg kk
theorem xp_v_high (C : KX p s m args meth c own cc nL ret) (hB : XB D cI cJ cV ad s H locs I J) {k : Nat} (hk : k < 16) {index : Nat} (hl : Cond.fieldLink own index "BitTuner$Value" "high" "J" ∈ lw_gd) {x : Int64} (hdg : decode cc pc = .ok (.putfield index, 3)) (kk : ∀ (H1 : Heap) (locs1 : List Loc), XB D cI cJ cV ad s H1 locs1 I (uJ J 1 k x) → W p l e R s m args below meth c H1 locs1 0 0 Q (F0 m (pc + 3) ls rest)) : W p l e R s m args below meth c H locs 0 0 Q (F0 m pc ls (.long x :: .ref (ad (12 + k)) :: rest)) :=
  g_put C hB (12 + k) (xw_val hk) rfl inX2 tyX2 tyX2_ok nmX2 8 (by decide) hl rfl rfl rfl (Nat.le_of_ble_eq_true rfl) (xw_set (by rfl) (by simp [xval, uJ, sJ, vp_updL]) (fun j h => by simp [xval, uJ, sJ, vp_updL, h])) hdg kk
theorem xp_v_reach (C : KX p s m args meth c own cc nL ret) (hB : XB D cI cJ cV ad s H locs I J) {k : Nat} (hk : k < 16) {index : Nat} (hl : Cond.fieldLink own index "BitTuner$Value" "reach" "J" ∈ lw_gd) {x : Int64} (hdg : decode cc pc = .ok (.putfield index, 3)) (kk : ∀ (H1 : Heap) (locs1 : List Loc), XB D cI cJ cV ad s H1 locs1 I (uJ J 2 k x) → W p l e R s m args below meth c H1 locs1 0 0 Q (F0 m (pc + 3) ls rest)) : W p l e R s m args below meth c H locs 0 0 Q (F0 m pc ls (.long x :: .ref (ad (12 + k)) :: rest)) :=
  g_put C hB (12 + k) (xw_val hk) rfl inX2 tyX2 tyX2_ok nmX2 9 (by decide) hl rfl rfl rfl (Nat.le_of_ble_eq_true rfl) (xw_set (by rfl) (by simp [xval, uJ, sJ, vp_updL]) (fun j h => by simp [xval, uJ, sJ, vp_updL, h])) hdg kk
theorem xp_v_units (C : KX p s m args meth c own cc nL ret) (hB : XB D cI cJ cV ad s H locs I J) {k : Nat} (hk : k < 16) {index : Nat} (hl : Cond.fieldLink own index "BitTuner$Value" "units" "I" ∈ lw_gd) {x : Int32} (hdg : decode cc pc = .ok (.putfield index, 3)) (kk : ∀ (H1 : Heap) (locs1 : List Loc), XB D cI cJ cV ad s H1 locs1 (uI I 7 k x) J → W p l e R s m args below meth c H1 locs1 0 0 Q (F0 m (pc + 3) ls rest)) : W p l e R s m args below meth c H locs 0 0 Q (F0 m pc ls (.int x :: .ref (ad (12 + k)) :: rest)) :=
  g_put C hB (12 + k) (xw_val hk) rfl inX2 tyX2 tyX2_ok nmX2 10 (by decide) hl rfl rfl rfl (Nat.le_of_ble_eq_true rfl) (xw_set (by rfl) (by simp [xval, uI, sI, upd]) (fun j h => by simp [xval, uI, sI, upd, h])) hdg kk
theorem xp_p_many (C : KX p s m args meth c own cc nL ret) (hB : XB D cI cJ cV ad s H locs I J) {index : Nat} (hl : Cond.fieldLink own index "BitTuner$Program" "many" "I" ∈ lw_gd) {x : Int32} (hdg : decode cc pc = .ok (.putfield index, 3)) (kk : ∀ (H1 : Heap) (locs1 : List Loc), XB D cI cJ cV ad s H1 locs1 (uI I 12 0 x) J → W p l e R s m args below meth c H1 locs1 0 0 Q (F0 m (pc + 3) ls rest)) : W p l e R s m args below meth c H locs 0 0 Q (F0 m pc ls (.int x :: .ref (ad 1) :: rest)) :=
  g_put C hB 1 rfl rfl inX0 tyX0 tyX0_ok nmX0 1 (by decide) hl rfl rfl rfl (Nat.le_of_ble_eq_true rfl) (rfl) hdg kk
theorem xp_w_cheapestPrice (C : KX p s m args meth c own cc nL ret) (hB : XB D cI cJ cV ad s H locs I J) {index : Nat} (hl : Cond.fieldLink own index "BitTuner$Widths" "cheapestPrice" "I" ∈ lw_gd) {x : Int32} (hdg : decode cc pc = .ok (.putfield index, 3)) (kk : ∀ (H1 : Heap) (locs1 : List Loc), XB D cI cJ cV ad s H1 locs1 (uI I 12 1 x) J → W p l e R s m args below meth c H1 locs1 0 0 Q (F0 m (pc + 3) ls rest)) : W p l e R s m args below meth c H locs 0 0 Q (F0 m pc ls (.int x :: .ref (ad 4) :: rest)) :=
  g_put C hB 4 rfl rfl inX3 tyX3 tyX3_ok nmX3 4 (by decide) hl rfl rfl rfl (Nat.le_of_ble_eq_true rfl) (rfl) hdg kk
theorem xa_values_ld (C : KX p s m args meth c own cc nL ret) (hB : XB D cI cJ cV ad s H locs I J) {i : Int32} (hin : okx i) (hdg : decode cc pc = .ok (.aaload, 1)) (kk : W p l e R s m args below meth c H locs 0 0 Q (F0 m (pc + 1) ls (.ref (ad (12 + i.toNatClampNeg)) :: rest))) : W p l e R s m args below meth c H locs 0 0 Q (F0 m pc ls (.int i :: .ref (ad 2) :: rest)) :=
  g_aald C hB 2 2 (f := fun k => ad (12 + k)) rfl rfl hin hdg kk
theorem xa_row_ld (C : KX p s m args meth c own cc nL ret) (hB : XB D cI cJ cV ad s H locs I J) {i : Int32} (hin : okx i) (hdg : decode cc pc = .ok (.iaload, 1)) (kk : W p l e R s m args below meth c H locs 0 0 Q (F0 m (pc + 1) ls (.int (I 8 i.toNatClampNeg) :: rest))) : W p l e R s m args below meth c H locs 0 0 Q (F0 m pc ls (.int i :: .ref (ad 5) :: rest)) :=
  g_iald C hB 5 0 rfl rfl hin hdg kk
theorem xa_row_st (C : KX p s m args meth c own cc nL ret) (hB : XB D cI cJ cV ad s H locs I J) {i x : Int32} (hin : okx i) (hdg : decode cc pc = .ok (.iastore, 1)) (kk : ∀ (H1 : Heap) (locs1 : List Loc), XB D cI cJ cV ad s H1 locs1 (uI I 8 i.toNatClampNeg x) J → W p l e R s m args below meth c H1 locs1 0 0 Q (F0 m (pc + 1) ls rest)) : W p l e R s m args below meth c H locs 0 0 Q (F0 m pc ls (.int x :: .int i :: .ref (ad 5) :: rest)) :=
  g_iast C hB 5 0 rfl rfl hin rfl hdg kk
theorem xa_exacts_ld (C : KX p s m args meth c own cc nL ret) (hB : XB D cI cJ cV ad s H locs I J) {i : Int32} (hin : okx i) (hdg : decode cc pc = .ok (.laload, 1)) (kk : W p l e R s m args below meth c H locs 0 0 Q (F0 m (pc + 1) ls (.long (J 3 i.toNatClampNeg) :: rest))) : W p l e R s m args below meth c H locs 0 0 Q (F0 m pc ls (.int i :: .ref (ad 6) :: rest)) :=
  g_lald C hB 6 1 rfl rfl hin hdg kk
theorem xa_exacts_st (C : KX p s m args meth c own cc nL ret) (hB : XB D cI cJ cV ad s H locs I J) {i : Int32} {x : Int64} (hin : okx i) (hdg : decode cc pc = .ok (.lastore, 1)) (kk : ∀ (H1 : Heap) (locs1 : List Loc), XB D cI cJ cV ad s H1 locs1 I (uJ J 3 i.toNatClampNeg x) → W p l e R s m args below meth c H1 locs1 0 0 Q (F0 m (pc + 1) ls rest)) : W p l e R s m args below meth c H locs 0 0 Q (F0 m pc ls (.long x :: .int i :: .ref (ad 6) :: rest)) :=
  g_last C hB 6 1 rfl rfl hin rfl hdg kk
theorem xa_tuneds_ld (C : KX p s m args meth c own cc nL ret) (hB : XB D cI cJ cV ad s H locs I J) {i : Int32} (hin : okx i) (hdg : decode cc pc = .ok (.laload, 1)) (kk : W p l e R s m args below meth c H locs 0 0 Q (F0 m (pc + 1) ls (.long (J 4 i.toNatClampNeg) :: rest))) : W p l e R s m args below meth c H locs 0 0 Q (F0 m pc ls (.int i :: .ref (ad 7) :: rest)) :=
  g_lald C hB 7 1 rfl rfl hin hdg kk
theorem xa_tuneds_st (C : KX p s m args meth c own cc nL ret) (hB : XB D cI cJ cV ad s H locs I J) {i : Int32} {x : Int64} (hin : okx i) (hdg : decode cc pc = .ok (.lastore, 1)) (kk : ∀ (H1 : Heap) (locs1 : List Loc), XB D cI cJ cV ad s H1 locs1 I (uJ J 4 i.toNatClampNeg x) → W p l e R s m args below meth c H1 locs1 0 0 Q (F0 m (pc + 1) ls rest)) : W p l e R s m args below meth c H locs 0 0 Q (F0 m pc ls (.long x :: .int i :: .ref (ad 7) :: rest)) :=
  g_last C hB 7 1 rfl rfl hin rfl hdg kk
theorem xa_worstRow_ld (C : KX p s m args meth c own cc nL ret) (hB : XB D cI cJ cV ad s H locs I J) {i : Int32} (hin : okx i) (hdg : decode cc pc = .ok (.iaload, 1)) (kk : W p l e R s m args below meth c H locs 0 0 Q (F0 m (pc + 1) ls (.int (I 9 i.toNatClampNeg) :: rest))) : W p l e R s m args below meth c H locs 0 0 Q (F0 m pc ls (.int i :: .ref (ad 8) :: rest)) :=
  g_iald C hB 8 0 rfl rfl hin hdg kk
theorem xa_worstRow_st (C : KX p s m args meth c own cc nL ret) (hB : XB D cI cJ cV ad s H locs I J) {i x : Int32} (hin : okx i) (hdg : decode cc pc = .ok (.iastore, 1)) (kk : ∀ (H1 : Heap) (locs1 : List Loc), XB D cI cJ cV ad s H1 locs1 (uI I 9 i.toNatClampNeg x) J → W p l e R s m args below meth c H1 locs1 0 0 Q (F0 m (pc + 1) ls rest)) : W p l e R s m args below meth c H locs 0 0 Q (F0 m pc ls (.int x :: .int i :: .ref (ad 8) :: rest)) :=
  g_iast C hB 8 0 rfl rfl hin rfl hdg kk
theorem xa_trial_ld (C : KX p s m args meth c own cc nL ret) (hB : XB D cI cJ cV ad s H locs I J) {i : Int32} (hin : okx i) (hdg : decode cc pc = .ok (.iaload, 1)) (kk : W p l e R s m args below meth c H locs 0 0 Q (F0 m (pc + 1) ls (.int (I 10 i.toNatClampNeg) :: rest))) : W p l e R s m args below meth c H locs 0 0 Q (F0 m pc ls (.int i :: .ref (ad 9) :: rest)) :=
  g_iald C hB 9 0 rfl rfl hin hdg kk
theorem xa_trial_st (C : KX p s m args meth c own cc nL ret) (hB : XB D cI cJ cV ad s H locs I J) {i x : Int32} (hin : okx i) (hdg : decode cc pc = .ok (.iastore, 1)) (kk : ∀ (H1 : Heap) (locs1 : List Loc), XB D cI cJ cV ad s H1 locs1 (uI I 10 i.toNatClampNeg x) J → W p l e R s m args below meth c H1 locs1 0 0 Q (F0 m (pc + 1) ls rest)) : W p l e R s m args below meth c H locs 0 0 Q (F0 m pc ls (.int x :: .int i :: .ref (ad 9) :: rest)) :=
  g_iast C hB 9 0 rfl rfl hin rfl hdg kk
theorem xa_bounds_ld (C : KX p s m args meth c own cc nL ret) (hB : XB D cI cJ cV ad s H locs I J) {i : Int32} (hin : okx i) (hdg : decode cc pc = .ok (.laload, 1)) (kk : W p l e R s m args below meth c H locs 0 0 Q (F0 m (pc + 1) ls (.long (J 5 i.toNatClampNeg) :: rest))) : W p l e R s m args below meth c H locs 0 0 Q (F0 m pc ls (.int i :: .ref (ad 10) :: rest)) :=
  g_lald C hB 10 1 rfl rfl hin hdg kk
theorem xa_bounds_st (C : KX p s m args meth c own cc nL ret) (hB : XB D cI cJ cV ad s H locs I J) {i : Int32} {x : Int64} (hin : okx i) (hdg : decode cc pc = .ok (.lastore, 1)) (kk : ∀ (H1 : Heap) (locs1 : List Loc), XB D cI cJ cV ad s H1 locs1 I (uJ J 5 i.toNatClampNeg x) → W p l e R s m args below meth c H1 locs1 0 0 Q (F0 m (pc + 1) ls rest)) : W p l e R s m args below meth c H locs 0 0 Q (F0 m pc ls (.long x :: .int i :: .ref (ad 10) :: rest)) :=
  g_last C hB 10 1 rfl rfl hin rfl hdg kk
theorem xa_cheapest_ld (C : KX p s m args meth c own cc nL ret) (hB : XB D cI cJ cV ad s H locs I J) {i : Int32} (hin : okx i) (hdg : decode cc pc = .ok (.iaload, 1)) (kk : W p l e R s m args below meth c H locs 0 0 Q (F0 m (pc + 1) ls (.int (I 11 i.toNatClampNeg) :: rest))) : W p l e R s m args below meth c H locs 0 0 Q (F0 m pc ls (.int i :: .ref (ad 11) :: rest)) :=
  g_iald C hB 11 0 rfl rfl hin hdg kk
theorem xa_cheapest_st (C : KX p s m args meth c own cc nL ret) (hB : XB D cI cJ cV ad s H locs I J) {i x : Int32} (hin : okx i) (hdg : decode cc pc = .ok (.iastore, 1)) (kk : ∀ (H1 : Heap) (locs1 : List Loc), XB D cI cJ cV ad s H1 locs1 (uI I 11 i.toNatClampNeg x) J → W p l e R s m args below meth c H1 locs1 0 0 Q (F0 m (pc + 1) ls rest)) : W p l e R s m args below meth c H locs 0 0 Q (F0 m pc ls (.int x :: .int i :: .ref (ad 11) :: rest)) :=
  g_iast C hB 11 0 rfl rfl hin rfl hdg kk
end XR
def mw (cI cJ cZ : ClassId) (ad : Nat → Nat) (I : TI) (J : TJ) : va_W := [(ad 0, .inr (5, [.int (I 13 0), .ref (ad 1), .ref (ad 2), .ref (ad 3), .ref (ad 4), .ref (ad 5), .ref (ad 6), .ref (ad 7), .ref (ad 8), .ref (ad 9), .ref (ad 10), .ref (ad 11), .ref (ad 12), .ref (ad 13), .ref (ad 14), .ref (ad 15), .ref (ad 16), .ref (ad 17), .ref (ad 18)])), (ad 1, .inl (cI, 16, .inl (I 0))), (ad 2, .inl (cI, 16, .inl (I 1))), (ad 3, .inl (cI, 16, .inl (I 2))), (ad 4, .inl (cI, 16, .inl (I 3))), (ad 5, .inl (cJ, 16, .inr (.inl (J 0)))), (ad 6, .inl (cJ, 16, .inr (.inl (J 1)))), (ad 7, .inl (cI, 16, .inl (I 4))), (ad 8, .inl (cI, 16, .inl (I 5))), (ad 9, .inl (cI, 16, .inl (I 6))), (ad 10, .inl (cI, 16, .inl (I 7))), (ad 11, .inl (cJ, 16, .inr (.inl (J 2)))), (ad 12, .inl (cJ, 16, .inr (.inl (J 3)))), (ad 13, .inl (cJ, 16, .inr (.inl (J 4)))), (ad 14, .inl (cI, 16, .inl (I 8))), (ad 15, .inl (cZ, 16, .inl (I 9))), (ad 16, .inl (cI, 16, .inl (I 10))), (ad 17, .inl (cI, 16, .inl (I 11))), (ad 18, .inl (cI, 16, .inl (I 12)))]
abbrev mt (cI cJ cZ : ClassId) : List (ClassId × FieldType) := [(cI, .int), (cJ, .long), (cZ, .boolean)]
def mL (ad : Nat → Nat) : List Nat := (List.range 19).map ad
abbrev MB (D : va_G) (cI cJ cZ : ClassId) (ad : Nat → Nat) (s : State) (H : Heap) (locs : List Loc) (I : TI) (J : TJ) : Prop := GB D (mw cI cJ cZ ad) (mt cI cJ cZ) (mL ad) s H locs I J
theorem mw_WL {cI cJ cZ : ClassId} {ad : Nat → Nat} (I : TI) (J : TJ) (k : Nat) (q : Nat × va_E) (h : (mw cI cJ cZ ad I J)[k]? = some q) : q.1 ∈ mL ad := by
  have hm : q ∈ mw cI cJ cZ ad I J := List.mem_of_getElem? h
  unfold mw at hm
  unfold mL
  simp only [List.mem_cons, List.not_mem_nil, or_false] at hm
  rcases hm with rfl | rfl | rfl | rfl | rfl | rfl | rfl | rfl | rfl | rfl | rfl | rfl | rfl | rfl | rfl | rfl | rfl | rfl | rfl <;> exact List.mem_map_of_mem (List.mem_range.mpr (by decide))
section MR
variable {p : Program} {l : Launch} {e : Env} {R : Room} {s : State} {m : MethodId} {args : Array Value} {below : List Frame} {meth : Method} {c : Code} {H : Heap} {locs : List Loc} {Q : State → Prop}
variable {own : String} {cc : ByteArray} {nL : Nat} {ret : Option FieldType} {D : va_G} {cI cJ cZ : ClassId} {ad : Nat → Nat} {I : TI} {J : TJ}
variable {pc : Nat} {ls : Array Slot} {rest : List Value}
theorem mg_values (C : KX p s m args meth c own cc nL ret) (hB : MB D cI cJ cZ ad s H locs I J) {index : Nat} (hl : Cond.fieldLink own index "BitTunerModel" "values" "I" ∈ lw_gd) (hdg : decode cc pc = .ok (.getfield index, 3)) (kk : W p l e R s m args below meth c H locs 0 0 Q (F0 m (pc + 3) ls (.int (I 13 0) :: rest))) : W p l e R s m args below meth c H locs 0 0 Q (F0 m pc ls (.ref (ad 0) :: rest)) :=
  g_get C hB 0 rfl rfl inX5 0 (by decide) hl rfl hdg kk
theorem mg_kinds (C : KX p s m args meth c own cc nL ret) (hB : MB D cI cJ cZ ad s H locs I J) {index : Nat} (hl : Cond.fieldLink own index "BitTunerModel" "kinds" "[I" ∈ lw_gd) (hdg : decode cc pc = .ok (.getfield index, 3)) (kk : W p l e R s m args below meth c H locs 0 0 Q (F0 m (pc + 3) ls (.ref (ad 1) :: rest))) : W p l e R s m args below meth c H locs 0 0 Q (F0 m pc ls (.ref (ad 0) :: rest)) :=
  g_get C hB 0 rfl rfl inX5 1 (by decide) hl rfl hdg kk
theorem mg_a (C : KX p s m args meth c own cc nL ret) (hB : MB D cI cJ cZ ad s H locs I J) {index : Nat} (hl : Cond.fieldLink own index "BitTunerModel" "a" "[I" ∈ lw_gd) (hdg : decode cc pc = .ok (.getfield index, 3)) (kk : W p l e R s m args below meth c H locs 0 0 Q (F0 m (pc + 3) ls (.ref (ad 2) :: rest))) : W p l e R s m args below meth c H locs 0 0 Q (F0 m pc ls (.ref (ad 0) :: rest)) :=
  g_get C hB 0 rfl rfl inX5 2 (by decide) hl rfl hdg kk
theorem mg_b (C : KX p s m args meth c own cc nL ret) (hB : MB D cI cJ cZ ad s H locs I J) {index : Nat} (hl : Cond.fieldLink own index "BitTunerModel" "b" "[I" ∈ lw_gd) (hdg : decode cc pc = .ok (.getfield index, 3)) (kk : W p l e R s m args below meth c H locs 0 0 Q (F0 m (pc + 3) ls (.ref (ad 3) :: rest))) : W p l e R s m args below meth c H locs 0 0 Q (F0 m pc ls (.ref (ad 0) :: rest)) :=
  g_get C hB 0 rfl rfl inX5 3 (by decide) hl rfl hdg kk
theorem mg_degrees (C : KX p s m args meth c own cc nL ret) (hB : MB D cI cJ cZ ad s H locs I J) {index : Nat} (hl : Cond.fieldLink own index "BitTunerModel" "degrees" "[I" ∈ lw_gd) (hdg : decode cc pc = .ok (.getfield index, 3)) (kk : W p l e R s m args below meth c H locs 0 0 Q (F0 m (pc + 3) ls (.ref (ad 4) :: rest))) : W p l e R s m args below meth c H locs 0 0 Q (F0 m pc ls (.ref (ad 0) :: rest)) :=
  g_get C hB 0 rfl rfl inX5 4 (by decide) hl rfl hdg kk
theorem mg_leasts (C : KX p s m args meth c own cc nL ret) (hB : MB D cI cJ cZ ad s H locs I J) {index : Nat} (hl : Cond.fieldLink own index "BitTunerModel" "leasts" "[J" ∈ lw_gd) (hdg : decode cc pc = .ok (.getfield index, 3)) (kk : W p l e R s m args below meth c H locs 0 0 Q (F0 m (pc + 3) ls (.ref (ad 5) :: rest))) : W p l e R s m args below meth c H locs 0 0 Q (F0 m pc ls (.ref (ad 0) :: rest)) :=
  g_get C hB 0 rfl rfl inX5 5 (by decide) hl rfl hdg kk
theorem mg_mosts (C : KX p s m args meth c own cc nL ret) (hB : MB D cI cJ cZ ad s H locs I J) {index : Nat} (hl : Cond.fieldLink own index "BitTunerModel" "mosts" "[J" ∈ lw_gd) (hdg : decode cc pc = .ok (.getfield index, 3)) (kk : W p l e R s m args below meth c H locs 0 0 Q (F0 m (pc + 3) ls (.ref (ad 6) :: rest))) : W p l e R s m args below meth c H locs 0 0 Q (F0 m pc ls (.ref (ad 0) :: rest)) :=
  g_get C hB 0 rfl rfl inX5 6 (by decide) hl rfl hdg kk
theorem mg_bits (C : KX p s m args meth c own cc nL ret) (hB : MB D cI cJ cZ ad s H locs I J) {index : Nat} (hl : Cond.fieldLink own index "BitTunerModel" "bits" "[I" ∈ lw_gd) (hdg : decode cc pc = .ok (.getfield index, 3)) (kk : W p l e R s m args below meth c H locs 0 0 Q (F0 m (pc + 3) ls (.ref (ad 7) :: rest))) : W p l e R s m args below meth c H locs 0 0 Q (F0 m pc ls (.ref (ad 0) :: rest)) :=
  g_get C hB 0 rfl rfl inX5 7 (by decide) hl rfl hdg kk
theorem mg_roundings (C : KX p s m args meth c own cc nL ret) (hB : MB D cI cJ cZ ad s H locs I J) {index : Nat} (hl : Cond.fieldLink own index "BitTunerModel" "roundings" "[I" ∈ lw_gd) (hdg : decode cc pc = .ok (.getfield index, 3)) (kk : W p l e R s m args below meth c H locs 0 0 Q (F0 m (pc + 3) ls (.ref (ad 8) :: rest))) : W p l e R s m args below meth c H locs 0 0 Q (F0 m pc ls (.ref (ad 0) :: rest)) :=
  g_get C hB 0 rfl rfl inX5 8 (by decide) hl rfl hdg kk
theorem mg_weights (C : KX p s m args meth c own cc nL ret) (hB : MB D cI cJ cZ ad s H locs I J) {index : Nat} (hl : Cond.fieldLink own index "BitTunerModel" "weights" "[I" ∈ lw_gd) (hdg : decode cc pc = .ok (.getfield index, 3)) (kk : W p l e R s m args below meth c H locs 0 0 Q (F0 m (pc + 3) ls (.ref (ad 9) :: rest))) : W p l e R s m args below meth c H locs 0 0 Q (F0 m pc ls (.ref (ad 0) :: rest)) :=
  g_get C hB 0 rfl rfl inX5 9 (by decide) hl rfl hdg kk
theorem mg_setTo (C : KX p s m args meth c own cc nL ret) (hB : MB D cI cJ cZ ad s H locs I J) {index : Nat} (hl : Cond.fieldLink own index "BitTunerModel" "setTo" "[I" ∈ lw_gd) (hdg : decode cc pc = .ok (.getfield index, 3)) (kk : W p l e R s m args below meth c H locs 0 0 Q (F0 m (pc + 3) ls (.ref (ad 10) :: rest))) : W p l e R s m args below meth c H locs 0 0 Q (F0 m pc ls (.ref (ad 0) :: rest)) :=
  g_get C hB 0 rfl rfl inX5 10 (by decide) hl rfl hdg kk
theorem mg_bounds (C : KX p s m args meth c own cc nL ret) (hB : MB D cI cJ cZ ad s H locs I J) {index : Nat} (hl : Cond.fieldLink own index "BitTunerModel" "bounds" "[J" ∈ lw_gd) (hdg : decode cc pc = .ok (.getfield index, 3)) (kk : W p l e R s m args below meth c H locs 0 0 Q (F0 m (pc + 3) ls (.ref (ad 11) :: rest))) : W p l e R s m args below meth c H locs 0 0 Q (F0 m pc ls (.ref (ad 0) :: rest)) :=
  g_get C hB 0 rfl rfl inX5 11 (by decide) hl rfl hdg kk
theorem mg_exacts (C : KX p s m args meth c own cc nL ret) (hB : MB D cI cJ cZ ad s H locs I J) {index : Nat} (hl : Cond.fieldLink own index "BitTunerModel" "exacts" "[J" ∈ lw_gd) (hdg : decode cc pc = .ok (.getfield index, 3)) (kk : W p l e R s m args below meth c H locs 0 0 Q (F0 m (pc + 3) ls (.ref (ad 12) :: rest))) : W p l e R s m args below meth c H locs 0 0 Q (F0 m pc ls (.ref (ad 0) :: rest)) :=
  g_get C hB 0 rfl rfl inX5 12 (by decide) hl rfl hdg kk
theorem mg_tuneds (C : KX p s m args meth c own cc nL ret) (hB : MB D cI cJ cZ ad s H locs I J) {index : Nat} (hl : Cond.fieldLink own index "BitTunerModel" "tuneds" "[J" ∈ lw_gd) (hdg : decode cc pc = .ok (.getfield index, 3)) (kk : W p l e R s m args below meth c H locs 0 0 Q (F0 m (pc + 3) ls (.ref (ad 13) :: rest))) : W p l e R s m args below meth c H locs 0 0 Q (F0 m pc ls (.ref (ad 0) :: rest)) :=
  g_get C hB 0 rfl rfl inX5 13 (by decide) hl rfl hdg kk
theorem mg_kept (C : KX p s m args meth c own cc nL ret) (hB : MB D cI cJ cZ ad s H locs I J) {index : Nat} (hl : Cond.fieldLink own index "BitTunerModel" "kept" "[I" ∈ lw_gd) (hdg : decode cc pc = .ok (.getfield index, 3)) (kk : W p l e R s m args below meth c H locs 0 0 Q (F0 m (pc + 3) ls (.ref (ad 14) :: rest))) : W p l e R s m args below meth c H locs 0 0 Q (F0 m pc ls (.ref (ad 0) :: rest)) :=
  g_get C hB 0 rfl rfl inX5 14 (by decide) hl rfl hdg kk
theorem mg_wasInput (C : KX p s m args meth c own cc nL ret) (hB : MB D cI cJ cZ ad s H locs I J) {index : Nat} (hl : Cond.fieldLink own index "BitTunerModel" "wasInput" "[Z" ∈ lw_gd) (hdg : decode cc pc = .ok (.getfield index, 3)) (kk : W p l e R s m args below meth c H locs 0 0 Q (F0 m (pc + 3) ls (.ref (ad 15) :: rest))) : W p l e R s m args below meth c H locs 0 0 Q (F0 m pc ls (.ref (ad 0) :: rest)) :=
  g_get C hB 0 rfl rfl inX5 15 (by decide) hl rfl hdg kk
theorem mg_worstOf (C : KX p s m args meth c own cc nL ret) (hB : MB D cI cJ cZ ad s H locs I J) {index : Nat} (hl : Cond.fieldLink own index "BitTunerModel" "worstOf" "[I" ∈ lw_gd) (hdg : decode cc pc = .ok (.getfield index, 3)) (kk : W p l e R s m args below meth c H locs 0 0 Q (F0 m (pc + 3) ls (.ref (ad 16) :: rest))) : W p l e R s m args below meth c H locs 0 0 Q (F0 m pc ls (.ref (ad 0) :: rest)) :=
  g_get C hB 0 rfl rfl inX5 16 (by decide) hl rfl hdg kk
theorem mg_were (C : KX p s m args meth c own cc nL ret) (hB : MB D cI cJ cZ ad s H locs I J) {index : Nat} (hl : Cond.fieldLink own index "BitTunerModel" "were" "[I" ∈ lw_gd) (hdg : decode cc pc = .ok (.getfield index, 3)) (kk : W p l e R s m args below meth c H locs 0 0 Q (F0 m (pc + 3) ls (.ref (ad 17) :: rest))) : W p l e R s m args below meth c H locs 0 0 Q (F0 m pc ls (.ref (ad 0) :: rest)) :=
  g_get C hB 0 rfl rfl inX5 17 (by decide) hl rfl hdg kk
theorem mg_best (C : KX p s m args meth c own cc nL ret) (hB : MB D cI cJ cZ ad s H locs I J) {index : Nat} (hl : Cond.fieldLink own index "BitTunerModel" "best" "[I" ∈ lw_gd) (hdg : decode cc pc = .ok (.getfield index, 3)) (kk : W p l e R s m args below meth c H locs 0 0 Q (F0 m (pc + 3) ls (.ref (ad 18) :: rest))) : W p l e R s m args below meth c H locs 0 0 Q (F0 m pc ls (.ref (ad 0) :: rest)) :=
  g_get C hB 0 rfl rfl inX5 18 (by decide) hl rfl hdg kk
theorem mp_values (C : KX p s m args meth c own cc nL ret) (hB : MB D cI cJ cZ ad s H locs I J) {index : Nat} (hl : Cond.fieldLink own index "BitTunerModel" "values" "I" ∈ lw_gd) {x : Int32} (hdg : decode cc pc = .ok (.putfield index, 3)) (kk : ∀ (H1 : Heap) (locs1 : List Loc), MB D cI cJ cZ ad s H1 locs1 (uI I 13 0 x) J → W p l e R s m args below meth c H1 locs1 0 0 Q (F0 m (pc + 3) ls rest)) : W p l e R s m args below meth c H locs 0 0 Q (F0 m pc ls (.int x :: .ref (ad 0) :: rest)) :=
  g_put C hB 0 rfl rfl inX5 tyX5 tyX5_ok nmX5 0 (by decide) hl rfl rfl rfl (Nat.le_of_ble_eq_true rfl) rfl hdg kk
theorem ma_kinds_ld (C : KX p s m args meth c own cc nL ret) (hB : MB D cI cJ cZ ad s H locs I J) {i : Int32} (hin : okx i) (hdg : decode cc pc = .ok (.iaload, 1)) (kk : W p l e R s m args below meth c H locs 0 0 Q (F0 m (pc + 1) ls (.int (I 0 i.toNatClampNeg) :: rest))) : W p l e R s m args below meth c H locs 0 0 Q (F0 m pc ls (.int i :: .ref (ad 1) :: rest)) :=
  g_iald C hB 1 0 rfl rfl hin hdg kk
theorem ma_kinds_st (C : KX p s m args meth c own cc nL ret) (hB : MB D cI cJ cZ ad s H locs I J) {i x : Int32} (hin : okx i) (hdg : decode cc pc = .ok (.iastore, 1)) (kk : ∀ (H1 : Heap) (locs1 : List Loc), MB D cI cJ cZ ad s H1 locs1 (uI I 0 i.toNatClampNeg x) J → W p l e R s m args below meth c H1 locs1 0 0 Q (F0 m (pc + 1) ls rest)) : W p l e R s m args below meth c H locs 0 0 Q (F0 m pc ls (.int x :: .int i :: .ref (ad 1) :: rest)) :=
  g_iast C hB 1 0 rfl rfl hin rfl hdg kk
theorem ma_a_ld (C : KX p s m args meth c own cc nL ret) (hB : MB D cI cJ cZ ad s H locs I J) {i : Int32} (hin : okx i) (hdg : decode cc pc = .ok (.iaload, 1)) (kk : W p l e R s m args below meth c H locs 0 0 Q (F0 m (pc + 1) ls (.int (I 1 i.toNatClampNeg) :: rest))) : W p l e R s m args below meth c H locs 0 0 Q (F0 m pc ls (.int i :: .ref (ad 2) :: rest)) :=
  g_iald C hB 2 0 rfl rfl hin hdg kk
theorem ma_a_st (C : KX p s m args meth c own cc nL ret) (hB : MB D cI cJ cZ ad s H locs I J) {i x : Int32} (hin : okx i) (hdg : decode cc pc = .ok (.iastore, 1)) (kk : ∀ (H1 : Heap) (locs1 : List Loc), MB D cI cJ cZ ad s H1 locs1 (uI I 1 i.toNatClampNeg x) J → W p l e R s m args below meth c H1 locs1 0 0 Q (F0 m (pc + 1) ls rest)) : W p l e R s m args below meth c H locs 0 0 Q (F0 m pc ls (.int x :: .int i :: .ref (ad 2) :: rest)) :=
  g_iast C hB 2 0 rfl rfl hin rfl hdg kk
theorem ma_b_ld (C : KX p s m args meth c own cc nL ret) (hB : MB D cI cJ cZ ad s H locs I J) {i : Int32} (hin : okx i) (hdg : decode cc pc = .ok (.iaload, 1)) (kk : W p l e R s m args below meth c H locs 0 0 Q (F0 m (pc + 1) ls (.int (I 2 i.toNatClampNeg) :: rest))) : W p l e R s m args below meth c H locs 0 0 Q (F0 m pc ls (.int i :: .ref (ad 3) :: rest)) :=
  g_iald C hB 3 0 rfl rfl hin hdg kk
theorem ma_b_st (C : KX p s m args meth c own cc nL ret) (hB : MB D cI cJ cZ ad s H locs I J) {i x : Int32} (hin : okx i) (hdg : decode cc pc = .ok (.iastore, 1)) (kk : ∀ (H1 : Heap) (locs1 : List Loc), MB D cI cJ cZ ad s H1 locs1 (uI I 2 i.toNatClampNeg x) J → W p l e R s m args below meth c H1 locs1 0 0 Q (F0 m (pc + 1) ls rest)) : W p l e R s m args below meth c H locs 0 0 Q (F0 m pc ls (.int x :: .int i :: .ref (ad 3) :: rest)) :=
  g_iast C hB 3 0 rfl rfl hin rfl hdg kk
theorem ma_degrees_ld (C : KX p s m args meth c own cc nL ret) (hB : MB D cI cJ cZ ad s H locs I J) {i : Int32} (hin : okx i) (hdg : decode cc pc = .ok (.iaload, 1)) (kk : W p l e R s m args below meth c H locs 0 0 Q (F0 m (pc + 1) ls (.int (I 3 i.toNatClampNeg) :: rest))) : W p l e R s m args below meth c H locs 0 0 Q (F0 m pc ls (.int i :: .ref (ad 4) :: rest)) :=
  g_iald C hB 4 0 rfl rfl hin hdg kk
theorem ma_degrees_st (C : KX p s m args meth c own cc nL ret) (hB : MB D cI cJ cZ ad s H locs I J) {i x : Int32} (hin : okx i) (hdg : decode cc pc = .ok (.iastore, 1)) (kk : ∀ (H1 : Heap) (locs1 : List Loc), MB D cI cJ cZ ad s H1 locs1 (uI I 3 i.toNatClampNeg x) J → W p l e R s m args below meth c H1 locs1 0 0 Q (F0 m (pc + 1) ls rest)) : W p l e R s m args below meth c H locs 0 0 Q (F0 m pc ls (.int x :: .int i :: .ref (ad 4) :: rest)) :=
  g_iast C hB 4 0 rfl rfl hin rfl hdg kk
theorem ma_leasts_ld (C : KX p s m args meth c own cc nL ret) (hB : MB D cI cJ cZ ad s H locs I J) {i : Int32} (hin : okx i) (hdg : decode cc pc = .ok (.laload, 1)) (kk : W p l e R s m args below meth c H locs 0 0 Q (F0 m (pc + 1) ls (.long (J 0 i.toNatClampNeg) :: rest))) : W p l e R s m args below meth c H locs 0 0 Q (F0 m pc ls (.int i :: .ref (ad 5) :: rest)) :=
  g_lald C hB 5 1 rfl rfl hin hdg kk
theorem ma_leasts_st (C : KX p s m args meth c own cc nL ret) (hB : MB D cI cJ cZ ad s H locs I J) {i : Int32} {x : Int64} (hin : okx i) (hdg : decode cc pc = .ok (.lastore, 1)) (kk : ∀ (H1 : Heap) (locs1 : List Loc), MB D cI cJ cZ ad s H1 locs1 I (uJ J 0 i.toNatClampNeg x) → W p l e R s m args below meth c H1 locs1 0 0 Q (F0 m (pc + 1) ls rest)) : W p l e R s m args below meth c H locs 0 0 Q (F0 m pc ls (.long x :: .int i :: .ref (ad 5) :: rest)) :=
  g_last C hB 5 1 rfl rfl hin rfl hdg kk
theorem ma_mosts_ld (C : KX p s m args meth c own cc nL ret) (hB : MB D cI cJ cZ ad s H locs I J) {i : Int32} (hin : okx i) (hdg : decode cc pc = .ok (.laload, 1)) (kk : W p l e R s m args below meth c H locs 0 0 Q (F0 m (pc + 1) ls (.long (J 1 i.toNatClampNeg) :: rest))) : W p l e R s m args below meth c H locs 0 0 Q (F0 m pc ls (.int i :: .ref (ad 6) :: rest)) :=
  g_lald C hB 6 1 rfl rfl hin hdg kk
theorem ma_mosts_st (C : KX p s m args meth c own cc nL ret) (hB : MB D cI cJ cZ ad s H locs I J) {i : Int32} {x : Int64} (hin : okx i) (hdg : decode cc pc = .ok (.lastore, 1)) (kk : ∀ (H1 : Heap) (locs1 : List Loc), MB D cI cJ cZ ad s H1 locs1 I (uJ J 1 i.toNatClampNeg x) → W p l e R s m args below meth c H1 locs1 0 0 Q (F0 m (pc + 1) ls rest)) : W p l e R s m args below meth c H locs 0 0 Q (F0 m pc ls (.long x :: .int i :: .ref (ad 6) :: rest)) :=
  g_last C hB 6 1 rfl rfl hin rfl hdg kk
theorem ma_bits_ld (C : KX p s m args meth c own cc nL ret) (hB : MB D cI cJ cZ ad s H locs I J) {i : Int32} (hin : okx i) (hdg : decode cc pc = .ok (.iaload, 1)) (kk : W p l e R s m args below meth c H locs 0 0 Q (F0 m (pc + 1) ls (.int (I 4 i.toNatClampNeg) :: rest))) : W p l e R s m args below meth c H locs 0 0 Q (F0 m pc ls (.int i :: .ref (ad 7) :: rest)) :=
  g_iald C hB 7 0 rfl rfl hin hdg kk
theorem ma_bits_st (C : KX p s m args meth c own cc nL ret) (hB : MB D cI cJ cZ ad s H locs I J) {i x : Int32} (hin : okx i) (hdg : decode cc pc = .ok (.iastore, 1)) (kk : ∀ (H1 : Heap) (locs1 : List Loc), MB D cI cJ cZ ad s H1 locs1 (uI I 4 i.toNatClampNeg x) J → W p l e R s m args below meth c H1 locs1 0 0 Q (F0 m (pc + 1) ls rest)) : W p l e R s m args below meth c H locs 0 0 Q (F0 m pc ls (.int x :: .int i :: .ref (ad 7) :: rest)) :=
  g_iast C hB 7 0 rfl rfl hin rfl hdg kk
theorem ma_roundings_ld (C : KX p s m args meth c own cc nL ret) (hB : MB D cI cJ cZ ad s H locs I J) {i : Int32} (hin : okx i) (hdg : decode cc pc = .ok (.iaload, 1)) (kk : W p l e R s m args below meth c H locs 0 0 Q (F0 m (pc + 1) ls (.int (I 5 i.toNatClampNeg) :: rest))) : W p l e R s m args below meth c H locs 0 0 Q (F0 m pc ls (.int i :: .ref (ad 8) :: rest)) :=
  g_iald C hB 8 0 rfl rfl hin hdg kk
theorem ma_roundings_st (C : KX p s m args meth c own cc nL ret) (hB : MB D cI cJ cZ ad s H locs I J) {i x : Int32} (hin : okx i) (hdg : decode cc pc = .ok (.iastore, 1)) (kk : ∀ (H1 : Heap) (locs1 : List Loc), MB D cI cJ cZ ad s H1 locs1 (uI I 5 i.toNatClampNeg x) J → W p l e R s m args below meth c H1 locs1 0 0 Q (F0 m (pc + 1) ls rest)) : W p l e R s m args below meth c H locs 0 0 Q (F0 m pc ls (.int x :: .int i :: .ref (ad 8) :: rest)) :=
  g_iast C hB 8 0 rfl rfl hin rfl hdg kk
theorem ma_weights_ld (C : KX p s m args meth c own cc nL ret) (hB : MB D cI cJ cZ ad s H locs I J) {i : Int32} (hin : okx i) (hdg : decode cc pc = .ok (.iaload, 1)) (kk : W p l e R s m args below meth c H locs 0 0 Q (F0 m (pc + 1) ls (.int (I 6 i.toNatClampNeg) :: rest))) : W p l e R s m args below meth c H locs 0 0 Q (F0 m pc ls (.int i :: .ref (ad 9) :: rest)) :=
  g_iald C hB 9 0 rfl rfl hin hdg kk
theorem ma_weights_st (C : KX p s m args meth c own cc nL ret) (hB : MB D cI cJ cZ ad s H locs I J) {i x : Int32} (hin : okx i) (hdg : decode cc pc = .ok (.iastore, 1)) (kk : ∀ (H1 : Heap) (locs1 : List Loc), MB D cI cJ cZ ad s H1 locs1 (uI I 6 i.toNatClampNeg x) J → W p l e R s m args below meth c H1 locs1 0 0 Q (F0 m (pc + 1) ls rest)) : W p l e R s m args below meth c H locs 0 0 Q (F0 m pc ls (.int x :: .int i :: .ref (ad 9) :: rest)) :=
  g_iast C hB 9 0 rfl rfl hin rfl hdg kk
theorem ma_setTo_ld (C : KX p s m args meth c own cc nL ret) (hB : MB D cI cJ cZ ad s H locs I J) {i : Int32} (hin : okx i) (hdg : decode cc pc = .ok (.iaload, 1)) (kk : W p l e R s m args below meth c H locs 0 0 Q (F0 m (pc + 1) ls (.int (I 7 i.toNatClampNeg) :: rest))) : W p l e R s m args below meth c H locs 0 0 Q (F0 m pc ls (.int i :: .ref (ad 10) :: rest)) :=
  g_iald C hB 10 0 rfl rfl hin hdg kk
theorem ma_setTo_st (C : KX p s m args meth c own cc nL ret) (hB : MB D cI cJ cZ ad s H locs I J) {i x : Int32} (hin : okx i) (hdg : decode cc pc = .ok (.iastore, 1)) (kk : ∀ (H1 : Heap) (locs1 : List Loc), MB D cI cJ cZ ad s H1 locs1 (uI I 7 i.toNatClampNeg x) J → W p l e R s m args below meth c H1 locs1 0 0 Q (F0 m (pc + 1) ls rest)) : W p l e R s m args below meth c H locs 0 0 Q (F0 m pc ls (.int x :: .int i :: .ref (ad 10) :: rest)) :=
  g_iast C hB 10 0 rfl rfl hin rfl hdg kk
theorem ma_bounds_ld (C : KX p s m args meth c own cc nL ret) (hB : MB D cI cJ cZ ad s H locs I J) {i : Int32} (hin : okx i) (hdg : decode cc pc = .ok (.laload, 1)) (kk : W p l e R s m args below meth c H locs 0 0 Q (F0 m (pc + 1) ls (.long (J 2 i.toNatClampNeg) :: rest))) : W p l e R s m args below meth c H locs 0 0 Q (F0 m pc ls (.int i :: .ref (ad 11) :: rest)) :=
  g_lald C hB 11 1 rfl rfl hin hdg kk
theorem ma_bounds_st (C : KX p s m args meth c own cc nL ret) (hB : MB D cI cJ cZ ad s H locs I J) {i : Int32} {x : Int64} (hin : okx i) (hdg : decode cc pc = .ok (.lastore, 1)) (kk : ∀ (H1 : Heap) (locs1 : List Loc), MB D cI cJ cZ ad s H1 locs1 I (uJ J 2 i.toNatClampNeg x) → W p l e R s m args below meth c H1 locs1 0 0 Q (F0 m (pc + 1) ls rest)) : W p l e R s m args below meth c H locs 0 0 Q (F0 m pc ls (.long x :: .int i :: .ref (ad 11) :: rest)) :=
  g_last C hB 11 1 rfl rfl hin rfl hdg kk
theorem ma_exacts_ld (C : KX p s m args meth c own cc nL ret) (hB : MB D cI cJ cZ ad s H locs I J) {i : Int32} (hin : okx i) (hdg : decode cc pc = .ok (.laload, 1)) (kk : W p l e R s m args below meth c H locs 0 0 Q (F0 m (pc + 1) ls (.long (J 3 i.toNatClampNeg) :: rest))) : W p l e R s m args below meth c H locs 0 0 Q (F0 m pc ls (.int i :: .ref (ad 12) :: rest)) :=
  g_lald C hB 12 1 rfl rfl hin hdg kk
theorem ma_exacts_st (C : KX p s m args meth c own cc nL ret) (hB : MB D cI cJ cZ ad s H locs I J) {i : Int32} {x : Int64} (hin : okx i) (hdg : decode cc pc = .ok (.lastore, 1)) (kk : ∀ (H1 : Heap) (locs1 : List Loc), MB D cI cJ cZ ad s H1 locs1 I (uJ J 3 i.toNatClampNeg x) → W p l e R s m args below meth c H1 locs1 0 0 Q (F0 m (pc + 1) ls rest)) : W p l e R s m args below meth c H locs 0 0 Q (F0 m pc ls (.long x :: .int i :: .ref (ad 12) :: rest)) :=
  g_last C hB 12 1 rfl rfl hin rfl hdg kk
theorem ma_tuneds_ld (C : KX p s m args meth c own cc nL ret) (hB : MB D cI cJ cZ ad s H locs I J) {i : Int32} (hin : okx i) (hdg : decode cc pc = .ok (.laload, 1)) (kk : W p l e R s m args below meth c H locs 0 0 Q (F0 m (pc + 1) ls (.long (J 4 i.toNatClampNeg) :: rest))) : W p l e R s m args below meth c H locs 0 0 Q (F0 m pc ls (.int i :: .ref (ad 13) :: rest)) :=
  g_lald C hB 13 1 rfl rfl hin hdg kk
theorem ma_tuneds_st (C : KX p s m args meth c own cc nL ret) (hB : MB D cI cJ cZ ad s H locs I J) {i : Int32} {x : Int64} (hin : okx i) (hdg : decode cc pc = .ok (.lastore, 1)) (kk : ∀ (H1 : Heap) (locs1 : List Loc), MB D cI cJ cZ ad s H1 locs1 I (uJ J 4 i.toNatClampNeg x) → W p l e R s m args below meth c H1 locs1 0 0 Q (F0 m (pc + 1) ls rest)) : W p l e R s m args below meth c H locs 0 0 Q (F0 m pc ls (.long x :: .int i :: .ref (ad 13) :: rest)) :=
  g_last C hB 13 1 rfl rfl hin rfl hdg kk
theorem ma_kept_ld (C : KX p s m args meth c own cc nL ret) (hB : MB D cI cJ cZ ad s H locs I J) {i : Int32} (hin : okx i) (hdg : decode cc pc = .ok (.iaload, 1)) (kk : W p l e R s m args below meth c H locs 0 0 Q (F0 m (pc + 1) ls (.int (I 8 i.toNatClampNeg) :: rest))) : W p l e R s m args below meth c H locs 0 0 Q (F0 m pc ls (.int i :: .ref (ad 14) :: rest)) :=
  g_iald C hB 14 0 rfl rfl hin hdg kk
theorem ma_kept_st (C : KX p s m args meth c own cc nL ret) (hB : MB D cI cJ cZ ad s H locs I J) {i x : Int32} (hin : okx i) (hdg : decode cc pc = .ok (.iastore, 1)) (kk : ∀ (H1 : Heap) (locs1 : List Loc), MB D cI cJ cZ ad s H1 locs1 (uI I 8 i.toNatClampNeg x) J → W p l e R s m args below meth c H1 locs1 0 0 Q (F0 m (pc + 1) ls rest)) : W p l e R s m args below meth c H locs 0 0 Q (F0 m pc ls (.int x :: .int i :: .ref (ad 14) :: rest)) :=
  g_iast C hB 14 0 rfl rfl hin rfl hdg kk
theorem ma_wasInput_ld (C : KX p s m args meth c own cc nL ret) (hB : MB D cI cJ cZ ad s H locs I J) {i : Int32} (hin : okx i) (hdg : decode cc pc = .ok (.baload, 1)) (kk : W p l e R s m args below meth c H locs 0 0 Q (F0 m (pc + 1) ls (.int (I 9 i.toNatClampNeg) :: rest))) : W p l e R s m args below meth c H locs 0 0 Q (F0 m pc ls (.int i :: .ref (ad 15) :: rest)) :=
  g_zald C hB 15 2 rfl rfl hin hdg kk
theorem ma_wasInput_st (C : KX p s m args meth c own cc nL ret) (hB : MB D cI cJ cZ ad s H locs I J) {i x : Int32} (hin : okx i) (hdg : decode cc pc = .ok (.bastore, 1)) (kk : ∀ (H1 : Heap) (locs1 : List Loc), MB D cI cJ cZ ad s H1 locs1 (uI I 9 i.toNatClampNeg (vp_nar .boolean x)) J → W p l e R s m args below meth c H1 locs1 0 0 Q (F0 m (pc + 1) ls rest)) : W p l e R s m args below meth c H locs 0 0 Q (F0 m pc ls (.int x :: .int i :: .ref (ad 15) :: rest)) :=
  g_zast C hB 15 2 rfl rfl hin rfl hdg kk
theorem ma_worstOf_ld (C : KX p s m args meth c own cc nL ret) (hB : MB D cI cJ cZ ad s H locs I J) {i : Int32} (hin : okx i) (hdg : decode cc pc = .ok (.iaload, 1)) (kk : W p l e R s m args below meth c H locs 0 0 Q (F0 m (pc + 1) ls (.int (I 10 i.toNatClampNeg) :: rest))) : W p l e R s m args below meth c H locs 0 0 Q (F0 m pc ls (.int i :: .ref (ad 16) :: rest)) :=
  g_iald C hB 16 0 rfl rfl hin hdg kk
theorem ma_worstOf_st (C : KX p s m args meth c own cc nL ret) (hB : MB D cI cJ cZ ad s H locs I J) {i x : Int32} (hin : okx i) (hdg : decode cc pc = .ok (.iastore, 1)) (kk : ∀ (H1 : Heap) (locs1 : List Loc), MB D cI cJ cZ ad s H1 locs1 (uI I 10 i.toNatClampNeg x) J → W p l e R s m args below meth c H1 locs1 0 0 Q (F0 m (pc + 1) ls rest)) : W p l e R s m args below meth c H locs 0 0 Q (F0 m pc ls (.int x :: .int i :: .ref (ad 16) :: rest)) :=
  g_iast C hB 16 0 rfl rfl hin rfl hdg kk
theorem ma_were_ld (C : KX p s m args meth c own cc nL ret) (hB : MB D cI cJ cZ ad s H locs I J) {i : Int32} (hin : okx i) (hdg : decode cc pc = .ok (.iaload, 1)) (kk : W p l e R s m args below meth c H locs 0 0 Q (F0 m (pc + 1) ls (.int (I 11 i.toNatClampNeg) :: rest))) : W p l e R s m args below meth c H locs 0 0 Q (F0 m pc ls (.int i :: .ref (ad 17) :: rest)) :=
  g_iald C hB 17 0 rfl rfl hin hdg kk
theorem ma_were_st (C : KX p s m args meth c own cc nL ret) (hB : MB D cI cJ cZ ad s H locs I J) {i x : Int32} (hin : okx i) (hdg : decode cc pc = .ok (.iastore, 1)) (kk : ∀ (H1 : Heap) (locs1 : List Loc), MB D cI cJ cZ ad s H1 locs1 (uI I 11 i.toNatClampNeg x) J → W p l e R s m args below meth c H1 locs1 0 0 Q (F0 m (pc + 1) ls rest)) : W p l e R s m args below meth c H locs 0 0 Q (F0 m pc ls (.int x :: .int i :: .ref (ad 17) :: rest)) :=
  g_iast C hB 17 0 rfl rfl hin rfl hdg kk
theorem ma_best_ld (C : KX p s m args meth c own cc nL ret) (hB : MB D cI cJ cZ ad s H locs I J) {i : Int32} (hin : okx i) (hdg : decode cc pc = .ok (.iaload, 1)) (kk : W p l e R s m args below meth c H locs 0 0 Q (F0 m (pc + 1) ls (.int (I 12 i.toNatClampNeg) :: rest))) : W p l e R s m args below meth c H locs 0 0 Q (F0 m pc ls (.int i :: .ref (ad 18) :: rest)) :=
  g_iald C hB 18 0 rfl rfl hin hdg kk
theorem ma_best_st (C : KX p s m args meth c own cc nL ret) (hB : MB D cI cJ cZ ad s H locs I J) {i x : Int32} (hin : okx i) (hdg : decode cc pc = .ok (.iastore, 1)) (kk : ∀ (H1 : Heap) (locs1 : List Loc), MB D cI cJ cZ ad s H1 locs1 (uI I 12 i.toNatClampNeg x) J → W p l e R s m args below meth c H1 locs1 0 0 Q (F0 m (pc + 1) ls rest)) : W p l e R s m args below meth c H locs 0 0 Q (F0 m pc ls (.int x :: .int i :: .ref (ad 18) :: rest)) :=
  g_iast C hB 18 0 rfl rfl hin rfl hdg kk
end MR
end
section
/-! what the walks use besides -/
def fuel : Nat := 100000
theorem ite_ck {α : Type} {c : Prop} {_ : Decidable c} {a : Option α} {b : α} (h : (if c then a else none) = some b) : c ∧ a = some b := by
  by_cases q : c
  · rw [if_pos q] at h; exact ⟨q, h⟩
  · rw [if_neg q] at h; cases h
theorem ite_ck0 {α : Type} {c : Prop} {_ : Decidable c} {a : Option α} {b : α} (h : (if c then none else a) = some b) : ¬ c ∧ a = some b := by
  by_cases q : c
  · rw [if_pos q] at h; cases h
  · rw [if_neg q] at h; exact ⟨q, h⟩
theorem x_copy {p : Program} {l : Launch} {e : Env} {R : Room} {s : State} {m : MethodId} {args : Array Value} {below : List Frame} {meth : Method} {c : Code} {H : Heap} {locs : List Loc} {Q : State → Prop} {own : String} {cc : ByteArray} {nL : Nat} {ret : Option FieldType} {D : va_G} {cI cJ cV : ClassId} {ad : Nat → Nat} {I : TI} {J : TJ} {pc : Nat} {ls : Array Slot} {rest : List Value} (C : KX p s m args meth c own cc nL ret) (hB : XB D cI cJ cV ad s H locs I J) (hml : c.maxLocals = ls.size) {index : Nat} (h1 : Cond.methodLink own index arraycopyName ∈ lw_gd) (h2 : Cond.native arraycopyName ∈ lw_gd) (h3 : Cond.static arraycopyName ∈ lw_gd) (h4 : Cond.initialized "java/lang/System" ∈ lw_gd) (hf : 1 ≤ R.frames) (hlo : (rest.map fun v => v.category).sum + (nativeFrameWords "java/lang/System" "arraycopy" 5 + 11) ≤ R.locals) (hdg : decode cc pc = .ok (.invokestatic index, 3)) (kk : ∀ (H1 : Heap) (locs1 : List Loc), XB D cI cJ cV ad s H1 locs1 (sI I 11 (va_cpy (I 10) (I 11) 0 0 16)) J → W p l e R s m args below meth c H1 locs1 0 0 Q (F0 m (pc + 3) ls rest)) : W p l e R s m args below meth c H locs 0 0 Q (F0 m pc ls (.int 16 :: .int 0 :: .ref (ad 11) :: .int 0 :: .ref (ad 9) :: rest)) := by
  refine va_copyi C.hx C.hb hml C.hown (C.hts _ h1) (C.hts _ h2) (C.hts _ h3) (C.hts _ h4) hB.K hB.P hB.D' hB.S 9 11 0 0 rfl rfl rfl rfl rfl (by decide) (by decide) (by decide) (by decide) (by decide) (fun i _ => rfl) hf hlo hdg (fun H1 locs1 hP hD hS => ?_)
  exact kk H1 locs1 ⟨hP, hD, hB.K, hS, hB.N⟩
end
section
/-! BitTuner statics, Value, Program: pure functions out of the bytecode, and the rows that tie them to the machine (by wip/gen/decomp.py) -/
theorem hdX4_hasTwoParts : yX4_hasTwoParts.cls = "BitTuner" ∧ yX4_hasTwoParts.cls ≠ "java/lang/invoke/MethodHandle" ∧ yX4_hasTwoParts.cls ≠ "java/lang/invoke/VarHandle" ∧ (parseMethodDescriptor yX4_hasTwoParts.desc).map (fun d => d.parameters.length) = some 1 := by decide +kernel
def fX4_hasTwoParts  (v0 : Int32) (I : TI) (J : TJ) : Option (Int32 × SS) :=
  if v0 < (2 : Int32) then
  some ((0 : Int32), I, J)
  else
  if (5 : Int32) < v0 then
  some ((0 : Int32), I, J)
  else
  some ((1 : Int32), I, J)
set_option maxHeartbeats 4000000 in
set_option maxRecDepth 100000 in
theorem tX4_hasTwoParts {p : Program} {l : Launch} {e : Env} {s : State} {m : MethodId} {args : Array Value} {below : List Frame} {meth : Method} {c : Code} (C : KX p s m args meth c "BitTuner" cX4_hasTwoParts 1 (some .boolean)) {D : va_G} {cI cJ cV : ClassId} {ad : Nat → Nat} {z : Int32 × SS}   {H : Heap} {locs : List Loc} {ls : Array Slot} {I : TI} {J : TJ} {v0 : Int32} (hB : XB D cI cJ cV ad s H locs I J)  (hl : lv_has ls 1 [(0, .int v0)]) (h : fX4_hasTwoParts v0 I J = some z) : W p l e (rmd 0) s m args below meth c H locs 0 0 (MQ below (gQi D (xw cI cJ cV ad) (xt cI cJ cV) (xL ad) s.heap.size z) args s 0 0 (gA (xL ad) s.heap.size)) (F0 m 0 ls []) := by
  unfold fX4_hasTwoParts at h
  refine lv_iload_n C.hx C.hb dX4_hasTwoParts_0 rfl (lv_at hl 0 rfl) ?_
  refine lv_iconst (v := (2 : Int32)) C.hx C.hb dX4_hasTwoParts_1 (by decide) ?_
  refine lv_icmp_lt (tgt := 14) C.hx C.hb dX4_hasTwoParts_2 (by decide) (fun c_1 => ?_) (fun c_1 => ?_)
  · replace h := (if_pos c_1).symm.trans h
    refine lv_iconst (v := (0 : Int32)) C.hx C.hb dX4_hasTwoParts_14 (by decide) ?_
    exact g_zret C hB h (by decide) dX4_hasTwoParts_15
  · replace h := (if_neg c_1).symm.trans h
    refine lv_iload_n C.hx C.hb dX4_hasTwoParts_5 rfl (lv_at hl 0 rfl) ?_
    refine lv_iconst (v := (5 : Int32)) C.hx C.hb dX4_hasTwoParts_6 (by decide) ?_
    refine lv_icmp_gt (tgt := 14) C.hx C.hb dX4_hasTwoParts_7 (by decide) (fun c_2 => ?_) (fun c_2 => ?_)
    · replace h := (if_pos c_2).symm.trans h
      refine lv_iconst (v := (0 : Int32)) C.hx C.hb dX4_hasTwoParts_14 (by decide) ?_
      exact g_zret C hB h (by decide) dX4_hasTwoParts_15
    · replace h := (if_neg c_2).symm.trans h
      refine lv_iconst (v := (1 : Int32)) C.hx C.hb dX4_hasTwoParts_10 (by decide) ?_
      refine lv_goto (tgt := 15) C.hx C.hb dX4_hasTwoParts_11 (by decide) ?_
      exact g_zret C hB h (by decide) dX4_hasTwoParts_15
set_option maxHeartbeats 4000000 in
set_option maxRecDepth 100000 in
theorem cnX4_hasTwoParts (l : Launch) (D : va_G) (cI cJ cV : ClassId) (ad : Nat → Nat) (sz : Nat) {v0 : Int32} {I : TI} {J : TJ} {z : Int32 × SS}  (h : fX4_hasTwoParts v0 I J = some z) : Met l yX4_hasTwoParts (wsm yX4_hasTwoParts cX4_hasTwoParts 1 (some .boolean)) (rmd 0) (va_Pc [.int v0] (gPre D (xw cI cJ cV ad) (xt cI cJ cV) sz I J)) (gQi D (xw cI cJ cV ad) (xt cI cJ cV) (xL ad) sz z) 0 0 (gA (xL ad) sz) :=
  g_met (by decide) xw_WL (fun p e s m below meth c hsz C hB ls hl => by subst hsz; exact tX4_hasTwoParts C hB  hl h) (Nat.le_of_ble_eq_true rfl)
theorem hdX4_result : yX4_result.cls = "BitTuner" ∧ yX4_result.cls ≠ "java/lang/invoke/MethodHandle" ∧ yX4_result.cls ≠ "java/lang/invoke/VarHandle" ∧ (parseMethodDescriptor yX4_result.desc).map (fun d => d.parameters.length) = some 3 := by decide +kernel
def fX4_result  (v0 : Int32) (v1 : Int64) (v3 : Int64) (I : TI) (J : TJ) : Option (Int64 × SS) :=
  if v0 = 2 then
  some (v1 + v3, I, J)
  else
  if v0 = 3 then
  some (v1 - v3, I, J)
  else
  if v0 = 4 then
  some (v1 * v3, I, J)
  else
  if v0 = 5 then
  some (if v3 < v1 then v1 else v3, I, J)
  else
  if v0 = 6 then
  some (if 0 < v1 then v1 else -v1, I, J)
  else
  some (v1, I, J)
set_option maxHeartbeats 4000000 in
set_option maxRecDepth 100000 in
theorem tX4_result {p : Program} {l : Launch} {e : Env} {s : State} {m : MethodId} {args : Array Value} {below : List Frame} {meth : Method} {c : Code} (C : KX p s m args meth c "BitTuner" cX4_result 5 (some .long)) {D : va_G} {cI cJ cV : ClassId} {ad : Nat → Nat} {z : Int64 × SS}   {H : Heap} {locs : List Loc} {ls : Array Slot} {I : TI} {J : TJ} {v0 : Int32} {v1 : Int64} {v3 : Int64} (hB : XB D cI cJ cV ad s H locs I J)  (hl : lv_has ls 5 [(0, .int v0), (1, .long v1), (3, .long v3)]) (h : fX4_result v0 v1 v3 I J = some z) : W p l e (rmd 1) s m args below meth c H locs 0 0 (MQ below (gQl D (xw cI cJ cV ad) (xt cI cJ cV) (xL ad) s.heap.size z) args s 0 0 (gA (xL ad) s.heap.size)) (F0 m 0 ls []) := by
  unfold fX4_result at h
  refine lv_iload_n C.hx C.hb dX4_result_0 rfl (lv_at hl 0 rfl) ?_
  by_cases c_1 : v0 = 2
  · replace h := (if_pos c_1).symm.trans h
    refine lv_tableIn (tgt := 36) (off := 35) C.hx C.hb dX4_result_1 (by rw [c_1]; decide) (by rw [c_1]; decide) (by rw [c_1]; rfl) (by decide) ?_
    refine lv_lload_n C.hx C.hb dX4_result_36 rfl (lv_at hl 1 rfl) ?_
    refine lv_lload_n C.hx C.hb dX4_result_37 rfl (lv_at hl 2 rfl) ?_
    refine lv_ladd C.hx C.hb dX4_result_38 ?_
    exact g_lret C hB h dX4_result_39
  · replace h := (if_neg c_1).symm.trans h
    by_cases c_2 : v0 = 3
    · replace h := (if_pos c_2).symm.trans h
      refine lv_tableIn (tgt := 40) (off := 39) C.hx C.hb dX4_result_1 (by rw [c_2]; decide) (by rw [c_2]; decide) (by rw [c_2]; rfl) (by decide) ?_
      refine lv_lload_n C.hx C.hb dX4_result_40 rfl (lv_at hl 1 rfl) ?_
      refine lv_lload_n C.hx C.hb dX4_result_41 rfl (lv_at hl 2 rfl) ?_
      refine lv_lsub C.hx C.hb dX4_result_42 ?_
      exact g_lret C hB h dX4_result_43
    · replace h := (if_neg c_2).symm.trans h
      by_cases c_3 : v0 = 4
      · replace h := (if_pos c_3).symm.trans h
        refine lv_tableIn (tgt := 44) (off := 43) C.hx C.hb dX4_result_1 (by rw [c_3]; decide) (by rw [c_3]; decide) (by rw [c_3]; rfl) (by decide) ?_
        refine lv_lload_n C.hx C.hb dX4_result_44 rfl (lv_at hl 1 rfl) ?_
        refine lv_lload_n C.hx C.hb dX4_result_45 rfl (lv_at hl 2 rfl) ?_
        refine lv_lmul C.hx C.hb dX4_result_46 ?_
        exact g_lret C hB h dX4_result_47
      · replace h := (if_neg c_3).symm.trans h
        by_cases c_4 : v0 = 5
        · replace h := (if_pos c_4).symm.trans h
          refine lv_tableIn (tgt := 48) (off := 47) C.hx C.hb dX4_result_1 (by rw [c_4]; decide) (by rw [c_4]; decide) (by rw [c_4]; rfl) (by decide) ?_
          refine lv_lload_n C.hx C.hb dX4_result_48 rfl (lv_at hl 1 rfl) ?_
          refine lv_lload_n C.hx C.hb dX4_result_49 rfl (lv_at hl 2 rfl) ?_
          refine va_mmax_long C.hx C.hb (C.hml.trans hl.1.symm) C.hown (C.hts _ tw_267) (C.hts _ tw_224) (C.hts _ tw_39) (C.hts _ tw_225) (Nat.le_of_ble_eq_true rfl) (Nat.le_of_ble_eq_true rfl) (Nat.zero_le _) (Nat.zero_le _) dX4_result_50 ?_
          exact g_lret C hB h dX4_result_53
        · replace h := (if_neg c_4).symm.trans h
          by_cases c_5 : v0 = 6
          · replace h := (if_pos c_5).symm.trans h
            refine lv_tableIn (tgt := 54) (off := 53) C.hx C.hb dX4_result_1 (by rw [c_5]; decide) (by rw [c_5]; decide) (by rw [c_5]; rfl) (by decide) ?_
            refine lv_lload_n C.hx C.hb dX4_result_54 rfl (lv_at hl 1 rfl) ?_
            refine va_mabs_long C.hx C.hb (C.hml.trans hl.1.symm) C.hown (C.hts _ tw_268) (C.hts _ tw_221) (C.hts _ tw_39) (C.hts _ tw_222) (Nat.le_of_ble_eq_true rfl) (Nat.le_of_ble_eq_true rfl) (Nat.zero_le _) (Nat.zero_le _) dX4_result_55 ?_
            exact g_lret C hB h dX4_result_58
          · replace h := (if_neg c_5).symm.trans h
            refine lv_tableOut (tgt := 59) C.hx C.hb dX4_result_1 (by have z0 := ts_ne (k := 2) (2 : Int32) rfl c_1; have z1 := ts_ne (k := 3) (3 : Int32) rfl c_2; have z2 := ts_ne (k := 4) (4 : Int32) rfl c_3; have z3 := ts_ne (k := 5) (5 : Int32) rfl c_4; have z4 := ts_ne (k := 6) (6 : Int32) rfl c_5; omega) (by decide) ?_
            refine lv_lload_n C.hx C.hb dX4_result_59 rfl (lv_at hl 1 rfl) ?_
            exact g_lret C hB h dX4_result_60
set_option maxHeartbeats 4000000 in
set_option maxRecDepth 100000 in
theorem cnX4_result (l : Launch) (D : va_G) (cI cJ cV : ClassId) (ad : Nat → Nat) (sz : Nat) {v0 : Int32} {v1 : Int64} {v3 : Int64} {I : TI} {J : TJ} {z : Int64 × SS}  (h : fX4_result v0 v1 v3 I J = some z) : Met l yX4_result (wsm yX4_result cX4_result 5 (some .long)) (rmd 1) (va_Pc [.int v0, .long v1, .long v3] (gPre D (xw cI cJ cV ad) (xt cI cJ cV) sz I J)) (gQl D (xw cI cJ cV ad) (xt cI cJ cV) (xL ad) sz z) 0 0 (gA (xL ad) sz) :=
  g_met (by decide) xw_WL (fun p e s m below meth c hsz C hB ls hl => by subst hsz; exact tX4_result C hB  hl h) (Nat.le_of_ble_eq_true rfl)
theorem hdX4_refusal : yX4_refusal.cls = "BitTuner" ∧ yX4_refusal.cls ≠ "java/lang/invoke/MethodHandle" ∧ yX4_refusal.cls ≠ "java/lang/invoke/VarHandle" ∧ (parseMethodDescriptor yX4_refusal.desc).map (fun d => d.parameters.length) = some 1 := by decide +kernel
def fX4_refusal  (v0 : Int32) (I : TI) (J : TJ) : Option (Int64 × SS) :=
  some ((-9223372036854775808 : Int64) - v0.toInt64, I, J)
set_option maxHeartbeats 4000000 in
set_option maxRecDepth 100000 in
theorem tX4_refusal {p : Program} {l : Launch} {e : Env} {s : State} {m : MethodId} {args : Array Value} {below : List Frame} {meth : Method} {c : Code} (C : KX p s m args meth c "BitTuner" cX4_refusal 1 (some .long)) {D : va_G} {cI cJ cV : ClassId} {ad : Nat → Nat} {z : Int64 × SS}   {H : Heap} {locs : List Loc} {ls : Array Slot} {I : TI} {J : TJ} {v0 : Int32} (hB : XB D cI cJ cV ad s H locs I J)  (hl : lv_has ls 1 [(0, .int v0)]) (h : fX4_refusal v0 I J = some z) : W p l e (rmd 0) s m args below meth c H locs 0 0 (MQ below (gQl D (xw cI cJ cV ad) (xt cI cJ cV) (xL ad) s.heap.size z) args s 0 0 (gA (xL ad) s.heap.size)) (F0 m 0 ls []) := by
  unfold fX4_refusal at h
  refine lv_ldc2 C.hx C.hb C.hown (C.hts _ tw_306) dX4_refusal_0 ?_
  refine lv_iload_n C.hx C.hb dX4_refusal_3 rfl (lv_at hl 0 rfl) ?_
  refine lv_i2l C.hx C.hb dX4_refusal_4 rfl ?_
  refine lv_lsub C.hx C.hb dX4_refusal_5 ?_
  exact g_lret C hB h dX4_refusal_6
set_option maxHeartbeats 4000000 in
set_option maxRecDepth 100000 in
theorem cnX4_refusal (l : Launch) (D : va_G) (cI cJ cV : ClassId) (ad : Nat → Nat) (sz : Nat) {v0 : Int32} {I : TI} {J : TJ} {z : Int64 × SS}  (h : fX4_refusal v0 I J = some z) : Met l yX4_refusal (wsm yX4_refusal cX4_refusal 1 (some .long)) (rmd 0) (va_Pc [.int v0] (gPre D (xw cI cJ cV ad) (xt cI cJ cV) sz I J)) (gQl D (xw cI cJ cV ad) (xt cI cJ cV) (xL ad) sz z) 0 0 (gA (xL ad) sz) :=
  g_met (by decide) xw_WL (fun p e s m below meth c hsz C hB ls hl => by subst hsz; exact tX4_refusal C hB  hl h) (Nat.le_of_ble_eq_true rfl)
theorem hdX4_isStep : yX4_isStep.cls = "BitTuner" ∧ yX4_isStep.cls ≠ "java/lang/invoke/MethodHandle" ∧ yX4_isStep.cls ≠ "java/lang/invoke/VarHandle" ∧ (parseMethodDescriptor yX4_isStep.desc).map (fun d => d.parameters.length) = some 1 := by decide +kernel
def fX4_isStep  (v0 : Int32) (I : TI) (J : TJ) : Option (Int32 × SS) :=
  if (v0 - v0 / (4096 : Int32) * (4096 : Int32)) = 0 then
  some ((1 : Int32), I, J)
  else
  some ((0 : Int32), I, J)
set_option maxHeartbeats 4000000 in
set_option maxRecDepth 100000 in
theorem tX4_isStep {p : Program} {l : Launch} {e : Env} {s : State} {m : MethodId} {args : Array Value} {below : List Frame} {meth : Method} {c : Code} (C : KX p s m args meth c "BitTuner" cX4_isStep 1 (some .boolean)) {D : va_G} {cI cJ cV : ClassId} {ad : Nat → Nat} {z : Int32 × SS}   {H : Heap} {locs : List Loc} {ls : Array Slot} {I : TI} {J : TJ} {v0 : Int32} (hB : XB D cI cJ cV ad s H locs I J)  (hl : lv_has ls 1 [(0, .int v0)]) (h : fX4_isStep v0 I J = some z) : W p l e (rmd 0) s m args below meth c H locs 0 0 (MQ below (gQi D (xw cI cJ cV ad) (xt cI cJ cV) (xL ad) s.heap.size z) args s 0 0 (gA (xL ad) s.heap.size)) (F0 m 0 ls []) := by
  unfold fX4_isStep at h
  refine lv_iload_n C.hx C.hb dX4_isStep_0 rfl (lv_at hl 0 rfl) ?_
  refine lv_sipush (v := (4096 : Int32)) C.hx C.hb dX4_isStep_1 (by decide) ?_
  refine lv_irem C.hx C.hb dX4_isStep_4 (by decide) ?_
  refine lv_if_ne (tgt := 12) C.hx C.hb dX4_isStep_5 (by decide) (fun c_1 => ?_) (fun c_1 => ?_)
  · replace h := (if_neg c_1).symm.trans h
    refine lv_iconst (v := (0 : Int32)) C.hx C.hb dX4_isStep_12 (by decide) ?_
    exact g_zret C hB h (by decide) dX4_isStep_13
  · replace h := (if_pos c_1).symm.trans h
    refine lv_iconst (v := (1 : Int32)) C.hx C.hb dX4_isStep_8 (by decide) ?_
    refine lv_goto (tgt := 13) C.hx C.hb dX4_isStep_9 (by decide) ?_
    exact g_zret C hB h (by decide) dX4_isStep_13
set_option maxHeartbeats 4000000 in
set_option maxRecDepth 100000 in
theorem cnX4_isStep (l : Launch) (D : va_G) (cI cJ cV : ClassId) (ad : Nat → Nat) (sz : Nat) {v0 : Int32} {I : TI} {J : TJ} {z : Int32 × SS}  (h : fX4_isStep v0 I J = some z) : Met l yX4_isStep (wsm yX4_isStep cX4_isStep 1 (some .boolean)) (rmd 0) (va_Pc [.int v0] (gPre D (xw cI cJ cV ad) (xt cI cJ cV) sz I J)) (gQi D (xw cI cJ cV ad) (xt cI cJ cV) (xL ad) sz z) 0 0 (gA (xL ad) sz) :=
  g_met (by decide) xw_WL (fun p e s m below meth c hsz C hB ls hl => by subst hsz; exact tX4_isStep C hB  hl h) (Nat.le_of_ble_eq_true rfl)
theorem hdX4_isGivable : yX4_isGivable.cls = "BitTuner" ∧ yX4_isGivable.cls ≠ "java/lang/invoke/MethodHandle" ∧ yX4_isGivable.cls ≠ "java/lang/invoke/VarHandle" ∧ (parseMethodDescriptor yX4_isGivable.desc).map (fun d => d.parameters.length) = some 1 := by decide +kernel
def fX4_isGivable  (v0 : Int32) (I : TI) (J : TJ) : Option (Int32 × SS) :=
  bnd (fX4_isStep v0 I J) (fun q_1 I_1 J_1 =>
  if q_1 = 0 then
  some ((0 : Int32), I_1, J_1)
  else
  if v0 < (-4194304 : Int32) then
  some ((0 : Int32), I_1, J_1)
  else
  if (4194304 : Int32) < v0 then
  some ((0 : Int32), I_1, J_1)
  else
  some ((1 : Int32), I_1, J_1))
set_option maxHeartbeats 4000000 in
set_option maxRecDepth 100000 in
theorem tX4_isGivable {p : Program} {l : Launch} {e : Env} {s : State} {m : MethodId} {args : Array Value} {below : List Frame} {meth : Method} {c : Code} (C : KX p s m args meth c "BitTuner" cX4_isGivable 1 (some .boolean)) {D : va_G} {cI cJ cV : ClassId} {ad : Nat → Nat} {z : Int32 × SS}   {H : Heap} {locs : List Loc} {ls : Array Slot} {I : TI} {J : TJ} {v0 : Int32} (hB : XB D cI cJ cV ad s H locs I J)  (hl : lv_has ls 1 [(0, .int v0)]) (h : fX4_isGivable v0 I J = some z) : W p l e (rmd 1) s m args below meth c H locs 0 0 (MQ below (gQi D (xw cI cJ cV ad) (xt cI cJ cV) (xL ad) s.heap.size z) args s 0 0 (gA (xL ad) s.heap.size)) (F0 m 0 ls []) := by
  unfold fX4_isGivable at h
  refine lv_iload_n C.hx C.hb dX4_isGivable_0 rfl (lv_at hl 0 rfl) ?_
  obtain ⟨q_1, I_1, J_1, hc_1, h⟩ := bnd_some h
  refine g_goi hB (g_runS C hB [.int v0] [] (cnX4_isStep l D cI cJ cV ad H.size  hc_1) tw_203 tw_204 tw_33 tw_205 ⟨rfl, rfl⟩ hdX4_isStep ⟨Nat.le_of_ble_eq_true rfl, Nat.le_of_ble_eq_true rfl⟩ hl.1 rfl (Nat.le_of_ble_eq_true rfl) dX4_isGivable_1) (fun H locs hB => ?_)
  refine lv_if_eq (tgt := 23) C.hx C.hb dX4_isGivable_4 (by decide) (fun c_2 => ?_) (fun c_2 => ?_)
  · replace h := (if_pos c_2).symm.trans h
    refine lv_iconst (v := (0 : Int32)) C.hx C.hb dX4_isGivable_23 (by decide) ?_
    exact g_zret C hB h (by decide) dX4_isGivable_24
  · replace h := (if_neg c_2).symm.trans h
    refine lv_iload_n C.hx C.hb dX4_isGivable_7 rfl (lv_at hl 0 rfl) ?_
    refine lv_ldc C.hx C.hb C.hown (C.hts _ tw_206) dX4_isGivable_8 ?_
    refine lv_icmp_lt (tgt := 23) C.hx C.hb dX4_isGivable_10 (by decide) (fun c_3 => ?_) (fun c_3 => ?_)
    · replace h := (if_pos c_3).symm.trans h
      refine lv_iconst (v := (0 : Int32)) C.hx C.hb dX4_isGivable_23 (by decide) ?_
      exact g_zret C hB h (by decide) dX4_isGivable_24
    · replace h := (if_neg c_3).symm.trans h
      refine lv_iload_n C.hx C.hb dX4_isGivable_13 rfl (lv_at hl 0 rfl) ?_
      refine lv_ldc C.hx C.hb C.hown (C.hts _ tw_207) dX4_isGivable_14 ?_
      refine lv_icmp_gt (tgt := 23) C.hx C.hb dX4_isGivable_16 (by decide) (fun c_4 => ?_) (fun c_4 => ?_)
      · replace h := (if_pos c_4).symm.trans h
        refine lv_iconst (v := (0 : Int32)) C.hx C.hb dX4_isGivable_23 (by decide) ?_
        exact g_zret C hB h (by decide) dX4_isGivable_24
      · replace h := (if_neg c_4).symm.trans h
        refine lv_iconst (v := (1 : Int32)) C.hx C.hb dX4_isGivable_19 (by decide) ?_
        refine lv_goto (tgt := 24) C.hx C.hb dX4_isGivable_20 (by decide) ?_
        exact g_zret C hB h (by decide) dX4_isGivable_24
set_option maxHeartbeats 4000000 in
set_option maxRecDepth 100000 in
theorem cnX4_isGivable (l : Launch) (D : va_G) (cI cJ cV : ClassId) (ad : Nat → Nat) (sz : Nat) {v0 : Int32} {I : TI} {J : TJ} {z : Int32 × SS}  (h : fX4_isGivable v0 I J = some z) : Met l yX4_isGivable (wsm yX4_isGivable cX4_isGivable 1 (some .boolean)) (rmd 1) (va_Pc [.int v0] (gPre D (xw cI cJ cV ad) (xt cI cJ cV) sz I J)) (gQi D (xw cI cJ cV ad) (xt cI cJ cV) (xL ad) sz z) 0 0 (gA (xL ad) sz) :=
  g_met (by decide) xw_WL (fun p e s m below meth c hsz C hB ls hl => by subst hsz; exact tX4_isGivable C hB  hl h) (Nat.le_of_ble_eq_true rfl)
theorem hdX2_isGiven : yX2_isGiven.cls = "BitTuner$Value" ∧ yX2_isGiven.cls ≠ "java/lang/invoke/MethodHandle" ∧ yX2_isGiven.cls ≠ "java/lang/invoke/VarHandle" ∧ (parseMethodDescriptor yX2_isGiven.desc).map (fun d => d.parameters.length) = some 0 := by decide +kernel
def fX2_isGiven  (k0 : Nat) (I : TI) (J : TJ) : Option (Int32 × SS) :=
  if (I 0 k0) = 0 then
  some ((1 : Int32), I, J)
  else
  if (I 0 k0) = (1 : Int32) then
  some ((1 : Int32), I, J)
  else
  some ((0 : Int32), I, J)
set_option maxHeartbeats 4000000 in
set_option maxRecDepth 100000 in
theorem tX2_isGiven {p : Program} {l : Launch} {e : Env} {s : State} {m : MethodId} {args : Array Value} {below : List Frame} {meth : Method} {c : Code} (C : KX p s m args meth c "BitTuner$Value" cX2_isGiven 1 (some .boolean)) {D : va_G} {cI cJ cV : ClassId} {ad : Nat → Nat} {z : Int32 × SS}   {H : Heap} {locs : List Loc} {ls : Array Slot} {I : TI} {J : TJ} {k0 : Nat} (hB : XB D cI cJ cV ad s H locs I J) (hk0 : k0 < 16) (hl : lv_has ls 1 [(0, .ref (ad (12 + k0)))]) (h : fX2_isGiven k0 I J = some z) : W p l e (rmd 0) s m args below meth c H locs 0 0 (MQ below (gQi D (xw cI cJ cV ad) (xt cI cJ cV) (xL ad) s.heap.size z) args s 0 0 (gA (xL ad) s.heap.size)) (F0 m 0 ls []) := by
  unfold fX2_isGiven at h
  refine lv_aload_n C.hx C.hb dX2_isGiven_0 rfl (lv_at hl 0 rfl) ?_
  refine xg_v_kind C hB hk0 tw_62 dX2_isGiven_1 ?_
  refine lv_if_eq (tgt := 15) C.hx C.hb dX2_isGiven_4 (by decide) (fun c_1 => ?_) (fun c_1 => ?_)
  · replace h := (if_pos c_1).symm.trans h
    refine lv_iconst (v := (1 : Int32)) C.hx C.hb dX2_isGiven_15 (by decide) ?_
    refine lv_goto (tgt := 20) C.hx C.hb dX2_isGiven_16 (by decide) ?_
    exact g_zret C hB h (by decide) dX2_isGiven_20
  · replace h := (if_neg c_1).symm.trans h
    refine lv_aload_n C.hx C.hb dX2_isGiven_7 rfl (lv_at hl 0 rfl) ?_
    refine xg_v_kind C hB hk0 tw_62 dX2_isGiven_8 ?_
    refine lv_iconst (v := (1 : Int32)) C.hx C.hb dX2_isGiven_11 (by decide) ?_
    refine lv_icmp_ne (tgt := 19) C.hx C.hb dX2_isGiven_12 (by decide) (fun c_2 => ?_) (fun c_2 => ?_)
    · replace h := (if_neg c_2).symm.trans h
      refine lv_iconst (v := (0 : Int32)) C.hx C.hb dX2_isGiven_19 (by decide) ?_
      exact g_zret C hB h (by decide) dX2_isGiven_20
    · replace h := (if_pos c_2).symm.trans h
      refine lv_iconst (v := (1 : Int32)) C.hx C.hb dX2_isGiven_15 (by decide) ?_
      refine lv_goto (tgt := 20) C.hx C.hb dX2_isGiven_16 (by decide) ?_
      exact g_zret C hB h (by decide) dX2_isGiven_20
set_option maxHeartbeats 4000000 in
set_option maxRecDepth 100000 in
theorem cnX2_isGiven (l : Launch) (D : va_G) (cI cJ cV : ClassId) (ad : Nat → Nat) (sz : Nat) {k0 : Nat} {I : TI} {J : TJ} {z : Int32 × SS} (hk0 : k0 < 16) (h : fX2_isGiven k0 I J = some z) : Met l yX2_isGiven (wsm yX2_isGiven cX2_isGiven 1 (some .boolean)) (rmd 0) (va_Pc [.ref (ad (12 + k0))] (gPre D (xw cI cJ cV ad) (xt cI cJ cV) sz I J)) (gQi D (xw cI cJ cV ad) (xt cI cJ cV) (xL ad) sz z) 0 0 (gA (xL ad) sz) :=
  g_met (by decide) xw_WL (fun p e s m below meth c hsz C hB ls hl => by subst hsz; exact tX2_isGiven C hB hk0 hl h) (Nat.le_of_ble_eq_true rfl)
theorem hdX2_begin : yX2_begin.cls = "BitTuner$Value" ∧ yX2_begin.cls ≠ "java/lang/invoke/MethodHandle" ∧ yX2_begin.cls ≠ "java/lang/invoke/VarHandle" ∧ (parseMethodDescriptor yX2_begin.desc).map (fun d => d.parameters.length) = some 3 := by decide +kernel
def fX2_begin  (k0 : Nat) (v1 : Int32) (v2 : Int32) (v3 : Int32) (I : TI) (J : TJ) : Option (Unit × SS) :=
  some ((), (uI (uI (uI (uI (uI (uI (uI (uI I 0 k0 v1) 1 k0 v2) 2 k0 v3) 3 k0 (1 : Int32)) 4 k0 (16 : Int32)) 5 k0 (0 : Int32)) 6 k0 (1 : Int32)) 7 k0 (0 : Int32)), J)
set_option maxHeartbeats 4000000 in
set_option maxRecDepth 100000 in
theorem tX2_begin {p : Program} {l : Launch} {e : Env} {s : State} {m : MethodId} {args : Array Value} {below : List Frame} {meth : Method} {c : Code} (C : KX p s m args meth c "BitTuner$Value" cX2_begin 4 none) {D : va_G} {cI cJ cV : ClassId} {ad : Nat → Nat} {z : Unit × SS}   {H : Heap} {locs : List Loc} {ls : Array Slot} {I : TI} {J : TJ} {k0 : Nat} {v1 : Int32} {v2 : Int32} {v3 : Int32} (hB : XB D cI cJ cV ad s H locs I J) (hk0 : k0 < 16) (hl : lv_has ls 4 [(0, .ref (ad (12 + k0))), (1, .int v1), (2, .int v2), (3, .int v3)]) (h : fX2_begin k0 v1 v2 v3 I J = some z) : W p l e (rmd 0) s m args below meth c H locs 0 0 (MQ below (gQv D (xw cI cJ cV ad) (xt cI cJ cV) (xL ad) s.heap.size z) args s 0 0 (gA (xL ad) s.heap.size)) (F0 m 0 ls []) := by
  unfold fX2_begin at h
  refine lv_aload_n C.hx C.hb dX2_begin_0 rfl (lv_at hl 0 rfl) ?_
  refine lv_iload_n C.hx C.hb dX2_begin_1 rfl (lv_at hl 1 rfl) ?_
  refine xp_v_kind C hB hk0 tw_62 dX2_begin_2 (fun H locs hB => ?_)
  refine lv_aload_n C.hx C.hb dX2_begin_5 rfl (lv_at hl 0 rfl) ?_
  refine lv_iload_n C.hx C.hb dX2_begin_6 rfl (lv_at hl 2 rfl) ?_
  refine xp_v_a C hB hk0 tw_67 dX2_begin_7 (fun H locs hB => ?_)
  refine lv_aload_n C.hx C.hb dX2_begin_10 rfl (lv_at hl 0 rfl) ?_
  refine lv_iload_n C.hx C.hb dX2_begin_11 rfl (lv_at hl 3 rfl) ?_
  refine xp_v_b C hB hk0 tw_71 dX2_begin_12 (fun H locs hB => ?_)
  refine lv_aload_n C.hx C.hb dX2_begin_15 rfl (lv_at hl 0 rfl) ?_
  refine lv_iconst (v := (1 : Int32)) C.hx C.hb dX2_begin_16 (by decide) ?_
  refine xp_v_degree C hB hk0 tw_75 dX2_begin_17 (fun H locs hB => ?_)
  refine lv_aload_n C.hx C.hb dX2_begin_20 rfl (lv_at hl 0 rfl) ?_
  refine lv_bipush (v := (16 : Int32)) C.hx C.hb dX2_begin_21 (by decide) ?_
  refine xp_v_bits C hB hk0 tw_77 dX2_begin_23 (fun H locs hB => ?_)
  refine lv_aload_n C.hx C.hb dX2_begin_26 rfl (lv_at hl 0 rfl) ?_
  refine lv_iconst (v := (0 : Int32)) C.hx C.hb dX2_begin_27 (by decide) ?_
  refine xp_v_rounding C hB hk0 tw_82 dX2_begin_28 (fun H locs hB => ?_)
  refine lv_aload_n C.hx C.hb dX2_begin_31 rfl (lv_at hl 0 rfl) ?_
  refine lv_iconst (v := (1 : Int32)) C.hx C.hb dX2_begin_32 (by decide) ?_
  refine xp_v_weight C hB hk0 tw_86 dX2_begin_33 (fun H locs hB => ?_)
  refine lv_aload_n C.hx C.hb dX2_begin_36 rfl (lv_at hl 0 rfl) ?_
  refine lv_iconst (v := (0 : Int32)) C.hx C.hb dX2_begin_37 (by decide) ?_
  refine xp_v_units C hB hk0 tw_99 dX2_begin_38 (fun H locs hB => ?_)
  exact g_vret C hB h dX2_begin_41
set_option maxHeartbeats 4000000 in
set_option maxRecDepth 100000 in
theorem cnX2_begin (l : Launch) (D : va_G) (cI cJ cV : ClassId) (ad : Nat → Nat) (sz : Nat) {k0 : Nat} {v1 : Int32} {v2 : Int32} {v3 : Int32} {I : TI} {J : TJ} {z : Unit × SS} (hk0 : k0 < 16) (h : fX2_begin k0 v1 v2 v3 I J = some z) : Met l yX2_begin (wsm yX2_begin cX2_begin 4 none) (rmd 0) (va_Pc [.ref (ad (12 + k0)), .int v1, .int v2, .int v3] (gPre D (xw cI cJ cV ad) (xt cI cJ cV) sz I J)) (gQv D (xw cI cJ cV ad) (xt cI cJ cV) (xL ad) sz z) 0 0 (gA (xL ad) sz) :=
  g_met (by decide) xw_WL (fun p e s m below meth c hsz C hB ls hl => by subst hsz; exact tX2_begin C hB hk0 hl h) (Nat.le_of_ble_eq_true rfl)
theorem hdX2_spanGiven : yX2_spanGiven.cls = "BitTuner$Value" ∧ yX2_spanGiven.cls ≠ "java/lang/invoke/MethodHandle" ∧ yX2_spanGiven.cls ≠ "java/lang/invoke/VarHandle" ∧ (parseMethodDescriptor yX2_spanGiven.desc).map (fun d => d.parameters.length) = some 0 := by decide +kernel
def fX2_spanGiven_30  (k0 : Nat) (w0 : Int64) (w1 : Nat) (I : TI) (J : TJ) : Option (Unit × SS) :=
  some ((), (uI I 7 k0 (I 1 k0)), (uJ (uJ J 1 w1 w0) 2 k0 (if (if 0 < ((uJ J 1 w1 w0) 1 k0) then ((uJ J 1 w1 w0) 1 k0) else -((uJ J 1 w1 w0) 1 k0)) < (if 0 < ((uJ J 1 w1 w0) 0 k0) then ((uJ J 1 w1 w0) 0 k0) else -((uJ J 1 w1 w0) 0 k0)) then (if 0 < ((uJ J 1 w1 w0) 0 k0) then ((uJ J 1 w1 w0) 0 k0) else -((uJ J 1 w1 w0) 0 k0)) else (if 0 < ((uJ J 1 w1 w0) 1 k0) then ((uJ J 1 w1 w0) 1 k0) else -((uJ J 1 w1 w0) 1 k0)))))
set_option maxHeartbeats 4000000 in
set_option maxRecDepth 100000 in
theorem tX2_spanGiven_30 {p : Program} {l : Launch} {e : Env} {s : State} {m : MethodId} {args : Array Value} {below : List Frame} {meth : Method} {c : Code} (C : KX p s m args meth c "BitTuner$Value" cX2_spanGiven 1 none) {D : va_G} {cI cJ cV : ClassId} {ad : Nat → Nat} {z : Unit × SS}   {H : Heap} {locs : List Loc} {ls : Array Slot} {I : TI} {J : TJ} {k0 : Nat} {w0 : Int64} {w1 : Nat} (hB : XB D cI cJ cV ad s H locs I J) (hk0 : k0 < 16) (hw1 : w1 < 16) (hl : lv_has ls 1 [(0, .ref (ad (12 + k0)))]) (h : fX2_spanGiven_30 k0 w0 w1 I J = some z) : W p l e (rmd 1) s m args below meth c H locs 0 0 (MQ below (gQv D (xw cI cJ cV ad) (xt cI cJ cV) (xL ad) s.heap.size z) args s 0 0 (gA (xL ad) s.heap.size)) (F0 m 30 ls [.long w0, .ref (ad (12 + w1))]) := by
  unfold fX2_spanGiven_30 at h
  refine xp_v_high C hB hw1 tw_93 dX2_spanGiven_30 (fun H locs hB => ?_)
  refine lv_aload_n C.hx C.hb dX2_spanGiven_33 rfl (lv_at hl 0 rfl) ?_
  refine lv_aload_n C.hx C.hb dX2_spanGiven_34 rfl (lv_at hl 0 rfl) ?_
  refine xg_v_low C hB hk0 tw_90 dX2_spanGiven_35 ?_
  refine va_mabs_long C.hx C.hb (C.hml.trans hl.1.symm) C.hown (C.hts _ tw_220) (C.hts _ tw_221) (C.hts _ tw_39) (C.hts _ tw_222) (Nat.le_of_ble_eq_true rfl) (Nat.le_of_ble_eq_true rfl) (Nat.zero_le _) (Nat.zero_le _) dX2_spanGiven_38 ?_
  refine lv_aload_n C.hx C.hb dX2_spanGiven_41 rfl (lv_at hl 0 rfl) ?_
  refine xg_v_high C hB hk0 tw_93 dX2_spanGiven_42 ?_
  refine va_mabs_long C.hx C.hb (C.hml.trans hl.1.symm) C.hown (C.hts _ tw_220) (C.hts _ tw_221) (C.hts _ tw_39) (C.hts _ tw_222) (Nat.le_of_ble_eq_true rfl) (Nat.le_of_ble_eq_true rfl) (Nat.zero_le _) (Nat.zero_le _) dX2_spanGiven_45 ?_
  refine va_mmax_long C.hx C.hb (C.hml.trans hl.1.symm) C.hown (C.hts _ tw_223) (C.hts _ tw_224) (C.hts _ tw_39) (C.hts _ tw_225) (Nat.le_of_ble_eq_true rfl) (Nat.le_of_ble_eq_true rfl) (Nat.zero_le _) (Nat.zero_le _) dX2_spanGiven_48 ?_
  refine xp_v_reach C hB hk0 tw_96 dX2_spanGiven_51 (fun H locs hB => ?_)
  refine lv_aload_n C.hx C.hb dX2_spanGiven_54 rfl (lv_at hl 0 rfl) ?_
  refine lv_aload_n C.hx C.hb dX2_spanGiven_55 rfl (lv_at hl 0 rfl) ?_
  refine xg_v_a C hB hk0 tw_67 dX2_spanGiven_56 ?_
  refine xp_v_units C hB hk0 tw_99 dX2_spanGiven_59 (fun H locs hB => ?_)
  exact g_vret C hB h dX2_spanGiven_62
def fX2_spanGiven  (k0 : Nat) (I : TI) (J : TJ) : Option (Unit × SS) :=
  if (I 0 k0) = 0 then
  fX2_spanGiven_30 k0 ((I 2 k0).toInt64) k0 I (uJ J 0 k0 ((I 1 k0).toInt64))
  else
  fX2_spanGiven_30 k0 ((I 1 k0).toInt64) k0 I (uJ J 0 k0 ((I 1 k0).toInt64))
set_option maxHeartbeats 4000000 in
set_option maxRecDepth 100000 in
theorem tX2_spanGiven {p : Program} {l : Launch} {e : Env} {s : State} {m : MethodId} {args : Array Value} {below : List Frame} {meth : Method} {c : Code} (C : KX p s m args meth c "BitTuner$Value" cX2_spanGiven 1 none) {D : va_G} {cI cJ cV : ClassId} {ad : Nat → Nat} {z : Unit × SS}   {H : Heap} {locs : List Loc} {ls : Array Slot} {I : TI} {J : TJ} {k0 : Nat} (hB : XB D cI cJ cV ad s H locs I J) (hk0 : k0 < 16) (hl : lv_has ls 1 [(0, .ref (ad (12 + k0)))]) (h : fX2_spanGiven k0 I J = some z) : W p l e (rmd 1) s m args below meth c H locs 0 0 (MQ below (gQv D (xw cI cJ cV ad) (xt cI cJ cV) (xL ad) s.heap.size z) args s 0 0 (gA (xL ad) s.heap.size)) (F0 m 0 ls []) := by
  unfold fX2_spanGiven at h
  refine lv_aload_n C.hx C.hb dX2_spanGiven_0 rfl (lv_at hl 0 rfl) ?_
  refine lv_aload_n C.hx C.hb dX2_spanGiven_1 rfl (lv_at hl 0 rfl) ?_
  refine xg_v_a C hB hk0 tw_67 dX2_spanGiven_2 ?_
  refine lv_i2l C.hx C.hb dX2_spanGiven_5 rfl ?_
  refine xp_v_low C hB hk0 tw_90 dX2_spanGiven_6 (fun H locs hB => ?_)
  refine lv_aload_n C.hx C.hb dX2_spanGiven_9 rfl (lv_at hl 0 rfl) ?_
  refine lv_aload_n C.hx C.hb dX2_spanGiven_10 rfl (lv_at hl 0 rfl) ?_
  refine xg_v_kind C hB hk0 tw_62 dX2_spanGiven_11 ?_
  refine lv_if_ne (tgt := 25) C.hx C.hb dX2_spanGiven_14 (by decide) (fun c_1 => ?_) (fun c_1 => ?_)
  · replace h := (if_neg c_1).symm.trans h
    refine lv_aload_n C.hx C.hb dX2_spanGiven_25 rfl (lv_at hl 0 rfl) ?_
    refine xg_v_a C hB hk0 tw_67 dX2_spanGiven_26 ?_
    refine lv_i2l C.hx C.hb dX2_spanGiven_29 rfl ?_
    exact tX2_spanGiven_30 C  hB hk0 hk0 (lv_sub hl [0] rfl) h
  · replace h := (if_pos c_1).symm.trans h
    refine lv_aload_n C.hx C.hb dX2_spanGiven_17 rfl (lv_at hl 0 rfl) ?_
    refine xg_v_b C hB hk0 tw_71 dX2_spanGiven_18 ?_
    refine lv_i2l C.hx C.hb dX2_spanGiven_21 rfl ?_
    refine lv_goto (tgt := 30) C.hx C.hb dX2_spanGiven_22 (by decide) ?_
    exact tX2_spanGiven_30 C  hB hk0 hk0 (lv_sub hl [0] rfl) h
set_option maxHeartbeats 4000000 in
set_option maxRecDepth 100000 in
theorem cnX2_spanGiven (l : Launch) (D : va_G) (cI cJ cV : ClassId) (ad : Nat → Nat) (sz : Nat) {k0 : Nat} {I : TI} {J : TJ} {z : Unit × SS} (hk0 : k0 < 16) (h : fX2_spanGiven k0 I J = some z) : Met l yX2_spanGiven (wsm yX2_spanGiven cX2_spanGiven 1 none) (rmd 1) (va_Pc [.ref (ad (12 + k0))] (gPre D (xw cI cJ cV ad) (xt cI cJ cV) sz I J)) (gQv D (xw cI cJ cV ad) (xt cI cJ cV) (xL ad) sz z) 0 0 (gA (xL ad) sz) :=
  g_met (by decide) xw_WL (fun p e s m below meth c hsz C hB ls hl => by subst hsz; exact tX2_spanGiven C hB hk0 hl h) (Nat.le_of_ble_eq_true rfl)
theorem hdX2_spanProduct : yX2_spanProduct.cls = "BitTuner$Value" ∧ yX2_spanProduct.cls ≠ "java/lang/invoke/MethodHandle" ∧ yX2_spanProduct.cls ≠ "java/lang/invoke/VarHandle" ∧ (parseMethodDescriptor yX2_spanProduct.desc).map (fun d => d.parameters.length) = some 2 := by decide +kernel
def fX2_spanProduct  (k0 : Nat) (k1 : Nat) (k2 : Nat) (I : TI) (J : TJ) : Option (Unit × SS) :=
  some ((), I, (uJ (uJ J 0 k0 ((if (if ((J 1 k1) * (J 1 k2)) < ((J 1 k1) * (J 0 k2)) then ((J 1 k1) * (J 1 k2)) else ((J 1 k1) * (J 0 k2))) < (if ((J 0 k1) * (J 1 k2)) < ((J 0 k1) * (J 0 k2)) then ((J 0 k1) * (J 1 k2)) else ((J 0 k1) * (J 0 k2))) then (if ((J 1 k1) * (J 1 k2)) < ((J 1 k1) * (J 0 k2)) then ((J 1 k1) * (J 1 k2)) else ((J 1 k1) * (J 0 k2))) else (if ((J 0 k1) * (J 1 k2)) < ((J 0 k1) * (J 0 k2)) then ((J 0 k1) * (J 1 k2)) else ((J 0 k1) * (J 0 k2)))) >>> ((16 : Int32).toInt64 &&& 63))) 1 k0 ((if (if ((J 1 k1) * (J 1 k2)) < ((J 1 k1) * (J 0 k2)) then ((J 1 k1) * (J 0 k2)) else ((J 1 k1) * (J 1 k2))) < (if ((J 0 k1) * (J 1 k2)) < ((J 0 k1) * (J 0 k2)) then ((J 0 k1) * (J 0 k2)) else ((J 0 k1) * (J 1 k2))) then (if ((J 0 k1) * (J 1 k2)) < ((J 0 k1) * (J 0 k2)) then ((J 0 k1) * (J 0 k2)) else ((J 0 k1) * (J 1 k2))) else (if ((J 1 k1) * (J 1 k2)) < ((J 1 k1) * (J 0 k2)) then ((J 1 k1) * (J 0 k2)) else ((J 1 k1) * (J 1 k2)))) >>> ((16 : Int32).toInt64 &&& 63))))
set_option maxHeartbeats 4000000 in
set_option maxRecDepth 100000 in
theorem tX2_spanProduct {p : Program} {l : Launch} {e : Env} {s : State} {m : MethodId} {args : Array Value} {below : List Frame} {meth : Method} {c : Code} (C : KX p s m args meth c "BitTuner$Value" cX2_spanProduct 11 none) {D : va_G} {cI cJ cV : ClassId} {ad : Nat → Nat} {z : Unit × SS}   {H : Heap} {locs : List Loc} {ls : Array Slot} {I : TI} {J : TJ} {k0 : Nat} {k1 : Nat} {k2 : Nat} (hB : XB D cI cJ cV ad s H locs I J) (hk0 : k0 < 16) (hk1 : k1 < 16) (hk2 : k2 < 16) (hl : lv_has ls 11 [(0, .ref (ad (12 + k0))), (1, .ref (ad (12 + k1))), (2, .ref (ad (12 + k2)))]) (h : fX2_spanProduct k0 k1 k2 I J = some z) : W p l e (rmd 1) s m args below meth c H locs 0 0 (MQ below (gQv D (xw cI cJ cV ad) (xt cI cJ cV) (xL ad) s.heap.size z) args s 0 0 (gA (xL ad) s.heap.size)) (F0 m 0 ls []) := by
  unfold fX2_spanProduct at h
  refine lv_aload_n C.hx C.hb dX2_spanProduct_0 rfl (lv_at hl 1 rfl) ?_
  refine xg_v_low C hB hk1 tw_90 dX2_spanProduct_1 ?_
  refine lv_aload_n C.hx C.hb dX2_spanProduct_4 rfl (lv_at hl 2 rfl) ?_
  refine xg_v_low C hB hk2 tw_90 dX2_spanProduct_5 ?_
  refine lv_lmul C.hx C.hb dX2_spanProduct_8 ?_
  refine lv_lstore_n (lv' := [(3, .long ((J 0 k1) * (J 0 k2))), (0, .ref (ad (12 + k0))), (1, .ref (ad (12 + k1))), (2, .ref (ad (12 + k2)))]) C.hx C.hb dX2_spanProduct_9 rfl hl (by decide) rfl (fun ls hl => ?_)
  refine lv_aload_n C.hx C.hb dX2_spanProduct_10 rfl (lv_at hl 2 rfl) ?_
  refine xg_v_low C hB hk1 tw_90 dX2_spanProduct_11 ?_
  refine lv_aload_n C.hx C.hb dX2_spanProduct_14 rfl (lv_at hl 3 rfl) ?_
  refine xg_v_high C hB hk2 tw_93 dX2_spanProduct_15 ?_
  refine lv_lmul C.hx C.hb dX2_spanProduct_18 ?_
  refine lv_lstore (lv' := [(5, .long ((J 0 k1) * (J 1 k2))), (3, .long ((J 0 k1) * (J 0 k2))), (0, .ref (ad (12 + k0))), (1, .ref (ad (12 + k1))), (2, .ref (ad (12 + k2)))]) C.hx C.hb dX2_spanProduct_19 hl (by decide) rfl (fun ls hl => ?_)
  refine lv_aload_n C.hx C.hb dX2_spanProduct_21 rfl (lv_at hl 3 rfl) ?_
  refine xg_v_high C hB hk1 tw_93 dX2_spanProduct_22 ?_
  refine lv_aload_n C.hx C.hb dX2_spanProduct_25 rfl (lv_at hl 4 rfl) ?_
  refine xg_v_low C hB hk2 tw_90 dX2_spanProduct_26 ?_
  refine lv_lmul C.hx C.hb dX2_spanProduct_29 ?_
  refine lv_lstore (lv' := [(7, .long ((J 1 k1) * (J 0 k2))), (5, .long ((J 0 k1) * (J 1 k2))), (3, .long ((J 0 k1) * (J 0 k2))), (0, .ref (ad (12 + k0))), (1, .ref (ad (12 + k1))), (2, .ref (ad (12 + k2)))]) C.hx C.hb dX2_spanProduct_30 hl (by decide) rfl (fun ls hl => ?_)
  refine lv_aload_n C.hx C.hb dX2_spanProduct_32 rfl (lv_at hl 4 rfl) ?_
  refine xg_v_high C hB hk1 tw_93 dX2_spanProduct_33 ?_
  refine lv_aload_n C.hx C.hb dX2_spanProduct_36 rfl (lv_at hl 5 rfl) ?_
  refine xg_v_high C hB hk2 tw_93 dX2_spanProduct_37 ?_
  refine lv_lmul C.hx C.hb dX2_spanProduct_40 ?_
  refine lv_lstore (lv' := [(9, .long ((J 1 k1) * (J 1 k2))), (7, .long ((J 1 k1) * (J 0 k2))), (5, .long ((J 0 k1) * (J 1 k2))), (3, .long ((J 0 k1) * (J 0 k2))), (0, .ref (ad (12 + k0))), (1, .ref (ad (12 + k1))), (2, .ref (ad (12 + k2)))]) C.hx C.hb dX2_spanProduct_41 hl (by decide) rfl (fun ls hl => ?_)
  refine lv_aload_n C.hx C.hb dX2_spanProduct_43 rfl (lv_at hl 4 rfl) ?_
  refine lv_lload_n C.hx C.hb dX2_spanProduct_44 rfl (lv_at hl 3 rfl) ?_
  refine lv_lload C.hx C.hb dX2_spanProduct_45 (lv_at hl 2 rfl) ?_
  refine va_mmin_long C.hx C.hb (C.hml.trans hl.1.symm) C.hown (C.hts _ tw_257) (C.hts _ tw_258) (C.hts _ tw_39) (C.hts _ tw_259) (Nat.le_of_ble_eq_true rfl) (Nat.le_of_ble_eq_true rfl) (Nat.zero_le _) (Nat.zero_le _) dX2_spanProduct_47 ?_
  refine lv_lload C.hx C.hb dX2_spanProduct_50 (lv_at hl 1 rfl) ?_
  refine lv_lload C.hx C.hb dX2_spanProduct_52 (lv_at hl 0 rfl) ?_
  refine va_mmin_long C.hx C.hb (C.hml.trans hl.1.symm) C.hown (C.hts _ tw_257) (C.hts _ tw_258) (C.hts _ tw_39) (C.hts _ tw_259) (Nat.le_of_ble_eq_true rfl) (Nat.le_of_ble_eq_true rfl) (Nat.zero_le _) (Nat.zero_le _) dX2_spanProduct_54 ?_
  refine va_mmin_long C.hx C.hb (C.hml.trans hl.1.symm) C.hown (C.hts _ tw_257) (C.hts _ tw_258) (C.hts _ tw_39) (C.hts _ tw_259) (Nat.le_of_ble_eq_true rfl) (Nat.le_of_ble_eq_true rfl) (Nat.zero_le _) (Nat.zero_le _) dX2_spanProduct_57 ?_
  refine lv_bipush (v := (16 : Int32)) C.hx C.hb dX2_spanProduct_60 (by decide) ?_
  refine lv_lshr C.hx C.hb dX2_spanProduct_62 rfl ?_
  refine xp_v_low C hB hk0 tw_90 dX2_spanProduct_63 (fun H locs hB => ?_)
  refine lv_aload_n C.hx C.hb dX2_spanProduct_66 rfl (lv_at hl 4 rfl) ?_
  refine lv_lload_n C.hx C.hb dX2_spanProduct_67 rfl (lv_at hl 3 rfl) ?_
  refine lv_lload C.hx C.hb dX2_spanProduct_68 (lv_at hl 2 rfl) ?_
  refine va_mmax_long C.hx C.hb (C.hml.trans hl.1.symm) C.hown (C.hts _ tw_223) (C.hts _ tw_224) (C.hts _ tw_39) (C.hts _ tw_225) (Nat.le_of_ble_eq_true rfl) (Nat.le_of_ble_eq_true rfl) (Nat.zero_le _) (Nat.zero_le _) dX2_spanProduct_70 ?_
  refine lv_lload C.hx C.hb dX2_spanProduct_73 (lv_at hl 1 rfl) ?_
  refine lv_lload C.hx C.hb dX2_spanProduct_75 (lv_at hl 0 rfl) ?_
  refine va_mmax_long C.hx C.hb (C.hml.trans hl.1.symm) C.hown (C.hts _ tw_223) (C.hts _ tw_224) (C.hts _ tw_39) (C.hts _ tw_225) (Nat.le_of_ble_eq_true rfl) (Nat.le_of_ble_eq_true rfl) (Nat.zero_le _) (Nat.zero_le _) dX2_spanProduct_77 ?_
  refine va_mmax_long C.hx C.hb (C.hml.trans hl.1.symm) C.hown (C.hts _ tw_223) (C.hts _ tw_224) (C.hts _ tw_39) (C.hts _ tw_225) (Nat.le_of_ble_eq_true rfl) (Nat.le_of_ble_eq_true rfl) (Nat.zero_le _) (Nat.zero_le _) dX2_spanProduct_80 ?_
  refine lv_bipush (v := (16 : Int32)) C.hx C.hb dX2_spanProduct_83 (by decide) ?_
  refine lv_lshr C.hx C.hb dX2_spanProduct_85 rfl ?_
  refine xp_v_high C hB hk0 tw_93 dX2_spanProduct_86 (fun H locs hB => ?_)
  exact g_vret C hB h dX2_spanProduct_89
set_option maxHeartbeats 4000000 in
set_option maxRecDepth 100000 in
theorem cnX2_spanProduct (l : Launch) (D : va_G) (cI cJ cV : ClassId) (ad : Nat → Nat) (sz : Nat) {k0 : Nat} {k1 : Nat} {k2 : Nat} {I : TI} {J : TJ} {z : Unit × SS} (hk0 : k0 < 16) (hk1 : k1 < 16) (hk2 : k2 < 16) (h : fX2_spanProduct k0 k1 k2 I J = some z) : Met l yX2_spanProduct (wsm yX2_spanProduct cX2_spanProduct 11 none) (rmd 1) (va_Pc [.ref (ad (12 + k0)), .ref (ad (12 + k1)), .ref (ad (12 + k2))] (gPre D (xw cI cJ cV ad) (xt cI cJ cV) sz I J)) (gQv D (xw cI cJ cV ad) (xt cI cJ cV) (xL ad) sz z) 0 0 (gA (xL ad) sz) :=
  g_met (by decide) xw_WL (fun p e s m below meth c hsz C hB ls hl => by subst hsz; exact tX2_spanProduct C hB hk0 hk1 hk2 hl h) (Nat.le_of_ble_eq_true rfl)
theorem hdX2_spanAmount : yX2_spanAmount.cls = "BitTuner$Value" ∧ yX2_spanAmount.cls ≠ "java/lang/invoke/MethodHandle" ∧ yX2_spanAmount.cls ≠ "java/lang/invoke/VarHandle" ∧ (parseMethodDescriptor yX2_spanAmount.desc).map (fun d => d.parameters.length) = some 1 := by decide +kernel
def fX2_spanAmount_23  (k0 : Nat) (k1 : Nat) (w0 : Int32) (I : TI) (J : TJ) : Option (Unit × SS) :=
  if w0 = 0 then
  some ((), I, (uJ (uJ J 0 k0 (if (if 0 < (J 1 k1) then (J 1 k1) else -(J 1 k1)) < (if 0 < (J 0 k1) then (J 0 k1) else -(J 0 k1)) then (if 0 < (J 1 k1) then (J 1 k1) else -(J 1 k1)) else (if 0 < (J 0 k1) then (J 0 k1) else -(J 0 k1)))) 1 k0 ((uJ J 0 k0 (if (if 0 < (J 1 k1) then (J 1 k1) else -(J 1 k1)) < (if 0 < (J 0 k1) then (J 0 k1) else -(J 0 k1)) then (if 0 < (J 1 k1) then (J 1 k1) else -(J 1 k1)) else (if 0 < (J 0 k1) then (J 0 k1) else -(J 0 k1)))) 2 k1)))
  else
  some ((), I, (uJ (uJ J 0 k0 (0 : Int64)) 1 k0 ((uJ J 0 k0 (0 : Int64)) 2 k1)))
set_option maxHeartbeats 4000000 in
set_option maxRecDepth 100000 in
theorem tX2_spanAmount_23 {p : Program} {l : Launch} {e : Env} {s : State} {m : MethodId} {args : Array Value} {below : List Frame} {meth : Method} {c : Code} (C : KX p s m args meth c "BitTuner$Value" cX2_spanAmount 3 none) {D : va_G} {cI cJ cV : ClassId} {ad : Nat → Nat} {z : Unit × SS}   {H : Heap} {locs : List Loc} {ls : Array Slot} {I : TI} {J : TJ} {k0 : Nat} {k1 : Nat} {w0 : Int32} (hB : XB D cI cJ cV ad s H locs I J) (hk0 : k0 < 16) (hk1 : k1 < 16) (hl : lv_has ls 3 [(0, .ref (ad (12 + k0))), (1, .ref (ad (12 + k1)))]) (h : fX2_spanAmount_23 k0 k1 w0 I J = some z) : W p l e (rmd 1) s m args below meth c H locs 0 0 (MQ below (gQv D (xw cI cJ cV ad) (xt cI cJ cV) (xL ad) s.heap.size z) args s 0 0 (gA (xL ad) s.heap.size)) (F0 m 23 ls [.int w0]) := by
  unfold fX2_spanAmount_23 at h
  refine lv_istore_n (lv' := [(2, .int w0), (0, .ref (ad (12 + k0))), (1, .ref (ad (12 + k1)))]) C.hx C.hb dX2_spanAmount_23 rfl hl (by decide) rfl (fun ls hl => ?_)
  refine lv_aload_n C.hx C.hb dX2_spanAmount_24 rfl (lv_at hl 1 rfl) ?_
  refine lv_iload_n C.hx C.hb dX2_spanAmount_25 rfl (lv_at hl 0 rfl) ?_
  refine lv_if_eq (tgt := 33) C.hx C.hb dX2_spanAmount_26 (by decide) (fun c_2 => ?_) (fun c_2 => ?_)
  · replace h := (if_pos c_2).symm.trans h
    refine lv_aload_n C.hx C.hb dX2_spanAmount_33 rfl (lv_at hl 2 rfl) ?_
    refine xg_v_low C hB hk1 tw_90 dX2_spanAmount_34 ?_
    refine va_mabs_long C.hx C.hb (C.hml.trans hl.1.symm) C.hown (C.hts _ tw_220) (C.hts _ tw_221) (C.hts _ tw_39) (C.hts _ tw_222) (Nat.le_of_ble_eq_true rfl) (Nat.le_of_ble_eq_true rfl) (Nat.zero_le _) (Nat.zero_le _) dX2_spanAmount_37 ?_
    refine lv_aload_n C.hx C.hb dX2_spanAmount_40 rfl (lv_at hl 2 rfl) ?_
    refine xg_v_high C hB hk1 tw_93 dX2_spanAmount_41 ?_
    refine va_mabs_long C.hx C.hb (C.hml.trans hl.1.symm) C.hown (C.hts _ tw_220) (C.hts _ tw_221) (C.hts _ tw_39) (C.hts _ tw_222) (Nat.le_of_ble_eq_true rfl) (Nat.le_of_ble_eq_true rfl) (Nat.zero_le _) (Nat.zero_le _) dX2_spanAmount_44 ?_
    refine va_mmin_long C.hx C.hb (C.hml.trans hl.1.symm) C.hown (C.hts _ tw_257) (C.hts _ tw_258) (C.hts _ tw_39) (C.hts _ tw_259) (Nat.le_of_ble_eq_true rfl) (Nat.le_of_ble_eq_true rfl) (Nat.zero_le _) (Nat.zero_le _) dX2_spanAmount_47 ?_
    refine xp_v_low C hB hk0 tw_90 dX2_spanAmount_50 (fun H locs hB => ?_)
    refine lv_aload_n C.hx C.hb dX2_spanAmount_53 rfl (lv_at hl 1 rfl) ?_
    refine lv_aload_n C.hx C.hb dX2_spanAmount_54 rfl (lv_at hl 2 rfl) ?_
    refine xg_v_reach C hB hk1 tw_96 dX2_spanAmount_55 ?_
    refine xp_v_high C hB hk0 tw_93 dX2_spanAmount_58 (fun H locs hB => ?_)
    exact g_vret C hB h dX2_spanAmount_61
  · replace h := (if_neg c_2).symm.trans h
    refine lv_lconst (v := (0 : Int64)) C.hx C.hb dX2_spanAmount_29 (by decide) ?_
    refine lv_goto (tgt := 50) C.hx C.hb dX2_spanAmount_30 (by decide) ?_
    refine xp_v_low C hB hk0 tw_90 dX2_spanAmount_50 (fun H locs hB => ?_)
    refine lv_aload_n C.hx C.hb dX2_spanAmount_53 rfl (lv_at hl 1 rfl) ?_
    refine lv_aload_n C.hx C.hb dX2_spanAmount_54 rfl (lv_at hl 2 rfl) ?_
    refine xg_v_reach C hB hk1 tw_96 dX2_spanAmount_55 ?_
    refine xp_v_high C hB hk0 tw_93 dX2_spanAmount_58 (fun H locs hB => ?_)
    exact g_vret C hB h dX2_spanAmount_61
def fX2_spanAmount_22  (k0 : Nat) (k1 : Nat) (I : TI) (J : TJ) : Option (Unit × SS) :=
  fX2_spanAmount_23 k0 k1 (0 : Int32) I J
set_option maxHeartbeats 4000000 in
set_option maxRecDepth 100000 in
theorem tX2_spanAmount_22 {p : Program} {l : Launch} {e : Env} {s : State} {m : MethodId} {args : Array Value} {below : List Frame} {meth : Method} {c : Code} (C : KX p s m args meth c "BitTuner$Value" cX2_spanAmount 3 none) {D : va_G} {cI cJ cV : ClassId} {ad : Nat → Nat} {z : Unit × SS}   {H : Heap} {locs : List Loc} {ls : Array Slot} {I : TI} {J : TJ} {k0 : Nat} {k1 : Nat} (hB : XB D cI cJ cV ad s H locs I J) (hk0 : k0 < 16) (hk1 : k1 < 16) (hl : lv_has ls 3 [(0, .ref (ad (12 + k0))), (1, .ref (ad (12 + k1)))]) (h : fX2_spanAmount_22 k0 k1 I J = some z) : W p l e (rmd 1) s m args below meth c H locs 0 0 (MQ below (gQv D (xw cI cJ cV ad) (xt cI cJ cV) (xL ad) s.heap.size z) args s 0 0 (gA (xL ad) s.heap.size)) (F0 m 22 ls []) := by
  unfold fX2_spanAmount_22 at h
  refine lv_iconst (v := (0 : Int32)) C.hx C.hb dX2_spanAmount_22 (by decide) ?_
  exact tX2_spanAmount_23 C  hB hk0 hk1 (lv_sub hl [0, 1] rfl) h
def fX2_spanAmount  (k0 : Nat) (k1 : Nat) (I : TI) (J : TJ) : Option (Unit × SS) :=
  if (0 : Int64) < (J 0 k1) then
  fX2_spanAmount_22 k0 k1 I J
  else
  if (J 1 k1) < (0 : Int64) then
  fX2_spanAmount_22 k0 k1 I J
  else
  fX2_spanAmount_23 k0 k1 (1 : Int32) I J
set_option maxHeartbeats 4000000 in
set_option maxRecDepth 100000 in
theorem tX2_spanAmount {p : Program} {l : Launch} {e : Env} {s : State} {m : MethodId} {args : Array Value} {below : List Frame} {meth : Method} {c : Code} (C : KX p s m args meth c "BitTuner$Value" cX2_spanAmount 3 none) {D : va_G} {cI cJ cV : ClassId} {ad : Nat → Nat} {z : Unit × SS}   {H : Heap} {locs : List Loc} {ls : Array Slot} {I : TI} {J : TJ} {k0 : Nat} {k1 : Nat} (hB : XB D cI cJ cV ad s H locs I J) (hk0 : k0 < 16) (hk1 : k1 < 16) (hl : lv_has ls 3 [(0, .ref (ad (12 + k0))), (1, .ref (ad (12 + k1)))]) (h : fX2_spanAmount k0 k1 I J = some z) : W p l e (rmd 1) s m args below meth c H locs 0 0 (MQ below (gQv D (xw cI cJ cV ad) (xt cI cJ cV) (xL ad) s.heap.size z) args s 0 0 (gA (xL ad) s.heap.size)) (F0 m 0 ls []) := by
  unfold fX2_spanAmount at h
  refine lv_aload_n C.hx C.hb dX2_spanAmount_0 rfl (lv_at hl 1 rfl) ?_
  refine xg_v_low C hB hk1 tw_90 dX2_spanAmount_1 ?_
  refine lv_lconst (v := (0 : Int64)) C.hx C.hb dX2_spanAmount_4 (by decide) ?_
  refine g_lcmp_gt C (tgt := 22) dX2_spanAmount_5 dX2_spanAmount_6 (by decide) (fun c_1 => ?_) (fun c_1 => ?_)
  · replace h := (if_pos c_1).symm.trans h
    exact tX2_spanAmount_22 C  hB hk0 hk1 (lv_sub hl [0, 1] rfl) h
  · replace h := (if_neg c_1).symm.trans h
    refine lv_aload_n C.hx C.hb dX2_spanAmount_9 rfl (lv_at hl 1 rfl) ?_
    refine xg_v_high C hB hk1 tw_93 dX2_spanAmount_10 ?_
    refine lv_lconst (v := (0 : Int64)) C.hx C.hb dX2_spanAmount_13 (by decide) ?_
    refine g_lcmp_lt C (tgt := 22) dX2_spanAmount_14 dX2_spanAmount_15 (by decide) (fun c_3 => ?_) (fun c_3 => ?_)
    · replace h := (if_pos c_3).symm.trans h
      exact tX2_spanAmount_22 C  hB hk0 hk1 (lv_sub hl [0, 1] rfl) h
    · replace h := (if_neg c_3).symm.trans h
      refine lv_iconst (v := (1 : Int32)) C.hx C.hb dX2_spanAmount_18 (by decide) ?_
      refine lv_goto (tgt := 23) C.hx C.hb dX2_spanAmount_19 (by decide) ?_
      exact tX2_spanAmount_23 C  hB hk0 hk1 (lv_sub hl [0, 1] rfl) h
set_option maxHeartbeats 4000000 in
set_option maxRecDepth 100000 in
theorem cnX2_spanAmount (l : Launch) (D : va_G) (cI cJ cV : ClassId) (ad : Nat → Nat) (sz : Nat) {k0 : Nat} {k1 : Nat} {I : TI} {J : TJ} {z : Unit × SS} (hk0 : k0 < 16) (hk1 : k1 < 16) (h : fX2_spanAmount k0 k1 I J = some z) : Met l yX2_spanAmount (wsm yX2_spanAmount cX2_spanAmount 3 none) (rmd 1) (va_Pc [.ref (ad (12 + k0)), .ref (ad (12 + k1))] (gPre D (xw cI cJ cV ad) (xt cI cJ cV) sz I J)) (gQv D (xw cI cJ cV ad) (xt cI cJ cV) (xL ad) sz z) 0 0 (gA (xL ad) sz) :=
  g_met (by decide) xw_WL (fun p e s m below meth c hsz C hB ls hl => by subst hsz; exact tX2_spanAmount C hB hk0 hk1 hl h) (Nat.le_of_ble_eq_true rfl)
theorem hdX2_spanWorked : yX2_spanWorked.cls = "BitTuner$Value" ∧ yX2_spanWorked.cls ≠ "java/lang/invoke/MethodHandle" ∧ yX2_spanWorked.cls ≠ "java/lang/invoke/VarHandle" ∧ (parseMethodDescriptor yX2_spanWorked.desc).map (fun d => d.parameters.length) = some 2 := by decide +kernel
def fX2_spanWorked_152  (k0 : Nat) (I : TI) (J : TJ) : Option (Unit × SS) :=
  some ((), I, (uJ J 2 k0 (if (if 0 < (J 1 k0) then (J 1 k0) else -(J 1 k0)) < (if 0 < (J 0 k0) then (J 0 k0) else -(J 0 k0)) then (if 0 < (J 0 k0) then (J 0 k0) else -(J 0 k0)) else (if 0 < (J 1 k0) then (J 1 k0) else -(J 1 k0)))))
set_option maxHeartbeats 4000000 in
set_option maxRecDepth 100000 in
theorem tX2_spanWorked_152 {p : Program} {l : Launch} {e : Env} {s : State} {m : MethodId} {args : Array Value} {below : List Frame} {meth : Method} {c : Code} (C : KX p s m args meth c "BitTuner$Value" cX2_spanWorked 3 none) {D : va_G} {cI cJ cV : ClassId} {ad : Nat → Nat} {z : Unit × SS}   {H : Heap} {locs : List Loc} {ls : Array Slot} {I : TI} {J : TJ} {k0 : Nat} (hB : XB D cI cJ cV ad s H locs I J) (hk0 : k0 < 16) (hl : lv_has ls 3 [(0, .ref (ad (12 + k0)))]) (h : fX2_spanWorked_152 k0 I J = some z) : W p l e (rmd 2) s m args below meth c H locs 0 0 (MQ below (gQv D (xw cI cJ cV ad) (xt cI cJ cV) (xL ad) s.heap.size z) args s 0 0 (gA (xL ad) s.heap.size)) (F0 m 152 ls []) := by
  unfold fX2_spanWorked_152 at h
  refine lv_aload_n C.hx C.hb dX2_spanWorked_152 rfl (lv_at hl 0 rfl) ?_
  refine lv_aload_n C.hx C.hb dX2_spanWorked_153 rfl (lv_at hl 0 rfl) ?_
  refine xg_v_low C hB hk0 tw_90 dX2_spanWorked_154 ?_
  refine va_mabs_long C.hx C.hb (C.hml.trans hl.1.symm) C.hown (C.hts _ tw_220) (C.hts _ tw_221) (C.hts _ tw_39) (C.hts _ tw_222) (Nat.le_of_ble_eq_true rfl) (Nat.le_of_ble_eq_true rfl) (Nat.zero_le _) (Nat.zero_le _) dX2_spanWorked_157 ?_
  refine lv_aload_n C.hx C.hb dX2_spanWorked_160 rfl (lv_at hl 0 rfl) ?_
  refine xg_v_high C hB hk0 tw_93 dX2_spanWorked_161 ?_
  refine va_mabs_long C.hx C.hb (C.hml.trans hl.1.symm) C.hown (C.hts _ tw_220) (C.hts _ tw_221) (C.hts _ tw_39) (C.hts _ tw_222) (Nat.le_of_ble_eq_true rfl) (Nat.le_of_ble_eq_true rfl) (Nat.zero_le _) (Nat.zero_le _) dX2_spanWorked_164 ?_
  refine va_mmax_long C.hx C.hb (C.hml.trans hl.1.symm) C.hown (C.hts _ tw_223) (C.hts _ tw_224) (C.hts _ tw_39) (C.hts _ tw_225) (Nat.le_of_ble_eq_true rfl) (Nat.le_of_ble_eq_true rfl) (Nat.zero_le _) (Nat.zero_le _) dX2_spanWorked_167 ?_
  refine xp_v_reach C hB hk0 tw_96 dX2_spanWorked_170 (fun H locs hB => ?_)
  exact g_vret C hB h dX2_spanWorked_173
def fX2_spanWorked_32  (k0 : Nat) (k1 : Nat) (k2 : Nat) (w0 : Int32) (w1 : Nat) (I : TI) (J : TJ) : Option (Unit × SS) :=
  if ((uI I 3 w1 w0) 0 k0) = 3 then
  fX2_spanWorked_152 k0 (uI I 3 w1 w0) (uJ (uJ J 0 k0 ((J 0 k1) - (J 1 k2))) 1 k0 (((uJ J 0 k0 ((J 0 k1) - (J 1 k2))) 1 k1) - ((uJ J 0 k0 ((J 0 k1) - (J 1 k2))) 0 k2)))
  else
  if ((uI I 3 w1 w0) 0 k0) = 4 then
  bnd (fX2_spanProduct k0 k1 k2 (uI I 3 w1 w0) J) (fun q_4 I_4 J_4 =>
  fX2_spanWorked_152 k0 I_4 J_4)
  else
  if ((uI I 3 w1 w0) 0 k0) = 5 then
  bnd (fX4_result ((uI I 3 w1 w0) 0 k0) (J 0 k1) (J 0 k2) (uI I 3 w1 w0) J) (fun q_6 I_6 J_6 =>
  bnd (fX4_result (I_6 0 k0) ((uJ J_6 0 k0 q_6) 1 k1) ((uJ J_6 0 k0 q_6) 1 k2) I_6 (uJ J_6 0 k0 q_6)) (fun q_7 I_7 J_7 =>
  fX2_spanWorked_152 k0 I_7 (uJ J_7 1 k0 q_7)))
  else
  if ((uI I 3 w1 w0) 0 k0) = 6 then
  bnd (fX2_spanAmount k0 k1 (uI I 3 w1 w0) J) (fun q_9 I_9 J_9 =>
  fX2_spanWorked_152 k0 I_9 J_9)
  else
  bnd (fX4_result ((uI I 3 w1 w0) 0 k0) (J 0 k1) (J 0 k2) (uI I 3 w1 w0) J) (fun q_10 I_10 J_10 =>
  bnd (fX4_result (I_10 0 k0) ((uJ J_10 0 k0 q_10) 1 k1) ((uJ J_10 0 k0 q_10) 1 k2) I_10 (uJ J_10 0 k0 q_10)) (fun q_11 I_11 J_11 =>
  fX2_spanWorked_152 k0 I_11 (uJ J_11 1 k0 q_11)))
set_option maxHeartbeats 4000000 in
set_option maxRecDepth 100000 in
theorem tX2_spanWorked_32 {p : Program} {l : Launch} {e : Env} {s : State} {m : MethodId} {args : Array Value} {below : List Frame} {meth : Method} {c : Code} (C : KX p s m args meth c "BitTuner$Value" cX2_spanWorked 3 none) {D : va_G} {cI cJ cV : ClassId} {ad : Nat → Nat} {z : Unit × SS}   {H : Heap} {locs : List Loc} {ls : Array Slot} {I : TI} {J : TJ} {k0 : Nat} {k1 : Nat} {k2 : Nat} {w0 : Int32} {w1 : Nat} (hB : XB D cI cJ cV ad s H locs I J) (hk0 : k0 < 16) (hk1 : k1 < 16) (hk2 : k2 < 16) (hw1 : w1 < 16) (hl : lv_has ls 3 [(0, .ref (ad (12 + k0))), (1, .ref (ad (12 + k1))), (2, .ref (ad (12 + k2)))]) (h : fX2_spanWorked_32 k0 k1 k2 w0 w1 I J = some z) : W p l e (rmd 2) s m args below meth c H locs 0 0 (MQ below (gQv D (xw cI cJ cV ad) (xt cI cJ cV) (xL ad) s.heap.size z) args s 0 0 (gA (xL ad) s.heap.size)) (F0 m 32 ls [.int w0, .ref (ad (12 + w1))]) := by
  unfold fX2_spanWorked_32 at h
  refine xp_v_degree C hB hw1 tw_75 dX2_spanWorked_32 (fun H locs hB => ?_)
  refine lv_aload_n C.hx C.hb dX2_spanWorked_35 rfl (lv_at hl 0 rfl) ?_
  refine xg_v_kind C hB hk0 tw_62 dX2_spanWorked_36 ?_
  by_cases c_2 : ((uI I 3 w1 w0) 0 k0) = 3
  · replace h := (if_pos c_2).symm.trans h
    refine lv_tableIn (tgt := 68) (off := 29) C.hx C.hb dX2_spanWorked_39 (by rw [c_2]; decide) (by rw [c_2]; decide) (by rw [c_2]; rfl) (by decide) ?_
    refine lv_aload_n C.hx C.hb dX2_spanWorked_68 rfl (lv_at hl 0 rfl) ?_
    refine lv_aload_n C.hx C.hb dX2_spanWorked_69 rfl (lv_at hl 1 rfl) ?_
    refine xg_v_low C hB hk1 tw_90 dX2_spanWorked_70 ?_
    refine lv_aload_n C.hx C.hb dX2_spanWorked_73 rfl (lv_at hl 2 rfl) ?_
    refine xg_v_high C hB hk2 tw_93 dX2_spanWorked_74 ?_
    refine lv_lsub C.hx C.hb dX2_spanWorked_77 ?_
    refine xp_v_low C hB hk0 tw_90 dX2_spanWorked_78 (fun H locs hB => ?_)
    refine lv_aload_n C.hx C.hb dX2_spanWorked_81 rfl (lv_at hl 0 rfl) ?_
    refine lv_aload_n C.hx C.hb dX2_spanWorked_82 rfl (lv_at hl 1 rfl) ?_
    refine xg_v_high C hB hk1 tw_93 dX2_spanWorked_83 ?_
    refine lv_aload_n C.hx C.hb dX2_spanWorked_86 rfl (lv_at hl 2 rfl) ?_
    refine xg_v_low C hB hk2 tw_90 dX2_spanWorked_87 ?_
    refine lv_lsub C.hx C.hb dX2_spanWorked_90 ?_
    refine xp_v_high C hB hk0 tw_93 dX2_spanWorked_91 (fun H locs hB => ?_)
    refine lv_goto (tgt := 152) C.hx C.hb dX2_spanWorked_94 (by decide) ?_
    exact tX2_spanWorked_152 C  hB hk0 (lv_sub hl [0] rfl) h
  · replace h := (if_neg c_2).symm.trans h
    by_cases c_3 : ((uI I 3 w1 w0) 0 k0) = 4
    · replace h := (if_pos c_3).symm.trans h
      refine lv_tableIn (tgt := 97) (off := 58) C.hx C.hb dX2_spanWorked_39 (by rw [c_3]; decide) (by rw [c_3]; decide) (by rw [c_3]; rfl) (by decide) ?_
      refine lv_aload_n C.hx C.hb dX2_spanWorked_97 rfl (lv_at hl 0 rfl) ?_
      refine lv_aload_n C.hx C.hb dX2_spanWorked_98 rfl (lv_at hl 1 rfl) ?_
      refine lv_aload_n C.hx C.hb dX2_spanWorked_99 rfl (lv_at hl 2 rfl) ?_
      obtain ⟨q_4, I_4, J_4, hc_4, h⟩ := bnd_some h
      refine g_gov hB (g_runV C hB [.ref (ad (12 + k1)), .ref (ad (12 + k2))] [] (cnX2_spanProduct l D cI cJ cV ad H.size hk0 hk1 hk2  hc_4) (12 + k0) (xw_val hk0) rfl tw_253 tw_255 tw_0 tw_35 tw_256 ⟨rfl, rfl⟩ hdX2_spanProduct ⟨Nat.le_of_ble_eq_true rfl, Nat.le_of_ble_eq_true rfl⟩ hl.1 rfl (Nat.le_of_ble_eq_true rfl) dX2_spanWorked_100) (fun H locs hB => ?_)
      refine lv_goto (tgt := 152) C.hx C.hb dX2_spanWorked_103 (by decide) ?_
      exact tX2_spanWorked_152 C  hB hk0 (lv_sub hl [0] rfl) h
    · replace h := (if_neg c_3).symm.trans h
      by_cases c_5 : ((uI I 3 w1 w0) 0 k0) = 5
      · replace h := (if_pos c_5).symm.trans h
        refine lv_tableIn (tgt := 114) (off := 75) C.hx C.hb dX2_spanWorked_39 (by rw [c_5]; decide) (by rw [c_5]; decide) (by rw [c_5]; rfl) (by decide) ?_
        refine lv_aload_n C.hx C.hb dX2_spanWorked_114 rfl (lv_at hl 0 rfl) ?_
        refine lv_aload_n C.hx C.hb dX2_spanWorked_115 rfl (lv_at hl 0 rfl) ?_
        refine xg_v_kind C hB hk0 tw_62 dX2_spanWorked_116 ?_
        refine lv_aload_n C.hx C.hb dX2_spanWorked_119 rfl (lv_at hl 1 rfl) ?_
        refine xg_v_low C hB hk1 tw_90 dX2_spanWorked_120 ?_
        refine lv_aload_n C.hx C.hb dX2_spanWorked_123 rfl (lv_at hl 2 rfl) ?_
        refine xg_v_low C hB hk2 tw_90 dX2_spanWorked_124 ?_
        obtain ⟨q_6, I_6, J_6, hc_6, h⟩ := bnd_some h
        refine g_gol hB (g_runSN C hB [.int ((uI I 3 w1 w0) 0 k0), .long (J 0 k1), .long (J 0 k2)] [.ref (ad (12 + k0))] (host := "BitTuner") (cnX4_result l D cI cJ cV ad H.size  hc_6) hB.N.2.1 tw_265 tw_33 tw_266 ⟨rfl, rfl⟩ hdX4_result.2 ⟨Nat.le_of_ble_eq_true rfl, Nat.le_of_ble_eq_true rfl⟩ hl.1 rfl (Nat.le_of_ble_eq_true rfl) dX2_spanWorked_127) (fun H locs hB => ?_)
        refine xp_v_low C hB hk0 tw_90 dX2_spanWorked_130 (fun H locs hB => ?_)
        refine lv_aload_n C.hx C.hb dX2_spanWorked_133 rfl (lv_at hl 0 rfl) ?_
        refine lv_aload_n C.hx C.hb dX2_spanWorked_134 rfl (lv_at hl 0 rfl) ?_
        refine xg_v_kind C hB hk0 tw_62 dX2_spanWorked_135 ?_
        refine lv_aload_n C.hx C.hb dX2_spanWorked_138 rfl (lv_at hl 1 rfl) ?_
        refine xg_v_high C hB hk1 tw_93 dX2_spanWorked_139 ?_
        refine lv_aload_n C.hx C.hb dX2_spanWorked_142 rfl (lv_at hl 2 rfl) ?_
        refine xg_v_high C hB hk2 tw_93 dX2_spanWorked_143 ?_
        obtain ⟨q_7, I_7, J_7, hc_7, h⟩ := bnd_some h
        refine g_gol hB (g_runSN C hB [.int (I_6 0 k0), .long ((uJ J_6 0 k0 q_6) 1 k1), .long ((uJ J_6 0 k0 q_6) 1 k2)] [.ref (ad (12 + k0))] (host := "BitTuner") (cnX4_result l D cI cJ cV ad H.size  hc_7) hB.N.2.1 tw_265 tw_33 tw_266 ⟨rfl, rfl⟩ hdX4_result.2 ⟨Nat.le_of_ble_eq_true rfl, Nat.le_of_ble_eq_true rfl⟩ hl.1 rfl (Nat.le_of_ble_eq_true rfl) dX2_spanWorked_146) (fun H locs hB => ?_)
        refine xp_v_high C hB hk0 tw_93 dX2_spanWorked_149 (fun H locs hB => ?_)
        exact tX2_spanWorked_152 C  hB hk0 (lv_sub hl [0] rfl) h
      · replace h := (if_neg c_5).symm.trans h
        by_cases c_8 : ((uI I 3 w1 w0) 0 k0) = 6
        · replace h := (if_pos c_8).symm.trans h
          refine lv_tableIn (tgt := 106) (off := 67) C.hx C.hb dX2_spanWorked_39 (by rw [c_8]; decide) (by rw [c_8]; decide) (by rw [c_8]; rfl) (by decide) ?_
          refine lv_aload_n C.hx C.hb dX2_spanWorked_106 rfl (lv_at hl 0 rfl) ?_
          refine lv_aload_n C.hx C.hb dX2_spanWorked_107 rfl (lv_at hl 1 rfl) ?_
          obtain ⟨q_9, I_9, J_9, hc_9, h⟩ := bnd_some h
          refine g_gov hB (g_runV C hB [.ref (ad (12 + k1))] [] (cnX2_spanAmount l D cI cJ cV ad H.size hk0 hk1  hc_9) (12 + k0) (xw_val hk0) rfl tw_260 tw_262 tw_1 tw_35 tw_263 ⟨rfl, rfl⟩ hdX2_spanAmount ⟨Nat.le_of_ble_eq_true rfl, Nat.le_of_ble_eq_true rfl⟩ hl.1 rfl (Nat.le_of_ble_eq_true rfl) dX2_spanWorked_108) (fun H locs hB => ?_)
          refine lv_goto (tgt := 152) C.hx C.hb dX2_spanWorked_111 (by decide) ?_
          exact tX2_spanWorked_152 C  hB hk0 (lv_sub hl [0] rfl) h
        · replace h := (if_neg c_8).symm.trans h
          refine lv_tableOut (tgt := 114) C.hx C.hb dX2_spanWorked_39 (by have z0 := ts_ne (k := 3) (3 : Int32) rfl c_2; have z1 := ts_ne (k := 4) (4 : Int32) rfl c_3; have z2 := ts_ne (k := 5) (5 : Int32) rfl c_5; have z3 := ts_ne (k := 6) (6 : Int32) rfl c_8; omega) (by decide) ?_
          refine lv_aload_n C.hx C.hb dX2_spanWorked_114 rfl (lv_at hl 0 rfl) ?_
          refine lv_aload_n C.hx C.hb dX2_spanWorked_115 rfl (lv_at hl 0 rfl) ?_
          refine xg_v_kind C hB hk0 tw_62 dX2_spanWorked_116 ?_
          refine lv_aload_n C.hx C.hb dX2_spanWorked_119 rfl (lv_at hl 1 rfl) ?_
          refine xg_v_low C hB hk1 tw_90 dX2_spanWorked_120 ?_
          refine lv_aload_n C.hx C.hb dX2_spanWorked_123 rfl (lv_at hl 2 rfl) ?_
          refine xg_v_low C hB hk2 tw_90 dX2_spanWorked_124 ?_
          obtain ⟨q_10, I_10, J_10, hc_10, h⟩ := bnd_some h
          refine g_gol hB (g_runSN C hB [.int ((uI I 3 w1 w0) 0 k0), .long (J 0 k1), .long (J 0 k2)] [.ref (ad (12 + k0))] (host := "BitTuner") (cnX4_result l D cI cJ cV ad H.size  hc_10) hB.N.2.1 tw_265 tw_33 tw_266 ⟨rfl, rfl⟩ hdX4_result.2 ⟨Nat.le_of_ble_eq_true rfl, Nat.le_of_ble_eq_true rfl⟩ hl.1 rfl (Nat.le_of_ble_eq_true rfl) dX2_spanWorked_127) (fun H locs hB => ?_)
          refine xp_v_low C hB hk0 tw_90 dX2_spanWorked_130 (fun H locs hB => ?_)
          refine lv_aload_n C.hx C.hb dX2_spanWorked_133 rfl (lv_at hl 0 rfl) ?_
          refine lv_aload_n C.hx C.hb dX2_spanWorked_134 rfl (lv_at hl 0 rfl) ?_
          refine xg_v_kind C hB hk0 tw_62 dX2_spanWorked_135 ?_
          refine lv_aload_n C.hx C.hb dX2_spanWorked_138 rfl (lv_at hl 1 rfl) ?_
          refine xg_v_high C hB hk1 tw_93 dX2_spanWorked_139 ?_
          refine lv_aload_n C.hx C.hb dX2_spanWorked_142 rfl (lv_at hl 2 rfl) ?_
          refine xg_v_high C hB hk2 tw_93 dX2_spanWorked_143 ?_
          obtain ⟨q_11, I_11, J_11, hc_11, h⟩ := bnd_some h
          refine g_gol hB (g_runSN C hB [.int (I_10 0 k0), .long ((uJ J_10 0 k0 q_10) 1 k1), .long ((uJ J_10 0 k0 q_10) 1 k2)] [.ref (ad (12 + k0))] (host := "BitTuner") (cnX4_result l D cI cJ cV ad H.size  hc_11) hB.N.2.1 tw_265 tw_33 tw_266 ⟨rfl, rfl⟩ hdX4_result.2 ⟨Nat.le_of_ble_eq_true rfl, Nat.le_of_ble_eq_true rfl⟩ hl.1 rfl (Nat.le_of_ble_eq_true rfl) dX2_spanWorked_146) (fun H locs hB => ?_)
          refine xp_v_high C hB hk0 tw_93 dX2_spanWorked_149 (fun H locs hB => ?_)
          exact tX2_spanWorked_152 C  hB hk0 (lv_sub hl [0] rfl) h
def fX2_spanWorked  (k0 : Nat) (k1 : Nat) (k2 : Nat) (I : TI) (J : TJ) : Option (Unit × SS) :=
  if (I 0 k0) = (4 : Int32) then
  fX2_spanWorked_32 k0 k1 k2 ((I 3 k1) + (I 3 k2)) k0 I J
  else
  fX2_spanWorked_32 k0 k1 k2 (if (I 3 k1) < (I 3 k2) then (I 3 k2) else (I 3 k1)) k0 I J
set_option maxHeartbeats 4000000 in
set_option maxRecDepth 100000 in
theorem tX2_spanWorked {p : Program} {l : Launch} {e : Env} {s : State} {m : MethodId} {args : Array Value} {below : List Frame} {meth : Method} {c : Code} (C : KX p s m args meth c "BitTuner$Value" cX2_spanWorked 3 none) {D : va_G} {cI cJ cV : ClassId} {ad : Nat → Nat} {z : Unit × SS}   {H : Heap} {locs : List Loc} {ls : Array Slot} {I : TI} {J : TJ} {k0 : Nat} {k1 : Nat} {k2 : Nat} (hB : XB D cI cJ cV ad s H locs I J) (hk0 : k0 < 16) (hk1 : k1 < 16) (hk2 : k2 < 16) (hl : lv_has ls 3 [(0, .ref (ad (12 + k0))), (1, .ref (ad (12 + k1))), (2, .ref (ad (12 + k2)))]) (h : fX2_spanWorked k0 k1 k2 I J = some z) : W p l e (rmd 2) s m args below meth c H locs 0 0 (MQ below (gQv D (xw cI cJ cV ad) (xt cI cJ cV) (xL ad) s.heap.size z) args s 0 0 (gA (xL ad) s.heap.size)) (F0 m 0 ls []) := by
  unfold fX2_spanWorked at h
  refine lv_aload_n C.hx C.hb dX2_spanWorked_0 rfl (lv_at hl 0 rfl) ?_
  refine lv_aload_n C.hx C.hb dX2_spanWorked_1 rfl (lv_at hl 0 rfl) ?_
  refine xg_v_kind C hB hk0 tw_62 dX2_spanWorked_2 ?_
  refine lv_iconst (v := (4 : Int32)) C.hx C.hb dX2_spanWorked_5 (by decide) ?_
  refine lv_icmp_ne (tgt := 21) C.hx C.hb dX2_spanWorked_6 (by decide) (fun c_1 => ?_) (fun c_1 => ?_)
  · replace h := (if_neg c_1).symm.trans h
    refine lv_aload_n C.hx C.hb dX2_spanWorked_21 rfl (lv_at hl 1 rfl) ?_
    refine xg_v_degree C hB hk1 tw_75 dX2_spanWorked_22 ?_
    refine lv_aload_n C.hx C.hb dX2_spanWorked_25 rfl (lv_at hl 2 rfl) ?_
    refine xg_v_degree C hB hk2 tw_75 dX2_spanWorked_26 ?_
    refine va_mmax C.hx C.hb (C.hml.trans hl.1.symm) C.hown (C.hts _ tw_250) (C.hts _ tw_251) (C.hts _ tw_39) (C.hts _ tw_252) (Nat.le_of_ble_eq_true rfl) (Nat.le_of_ble_eq_true rfl) (Nat.zero_le _) (Nat.zero_le _) dX2_spanWorked_29 ?_
    exact tX2_spanWorked_32 C  hB hk0 hk1 hk2 hk0 (lv_sub hl [0, 1, 2] rfl) h
  · replace h := (if_pos c_1).symm.trans h
    refine lv_aload_n C.hx C.hb dX2_spanWorked_9 rfl (lv_at hl 1 rfl) ?_
    refine xg_v_degree C hB hk1 tw_75 dX2_spanWorked_10 ?_
    refine lv_aload_n C.hx C.hb dX2_spanWorked_13 rfl (lv_at hl 2 rfl) ?_
    refine xg_v_degree C hB hk2 tw_75 dX2_spanWorked_14 ?_
    refine lv_iadd C.hx C.hb dX2_spanWorked_17 ?_
    refine lv_goto (tgt := 32) C.hx C.hb dX2_spanWorked_18 (by decide) ?_
    exact tX2_spanWorked_32 C  hB hk0 hk1 hk2 hk0 (lv_sub hl [0, 1, 2] rfl) h
set_option maxHeartbeats 4000000 in
set_option maxRecDepth 100000 in
theorem cnX2_spanWorked (l : Launch) (D : va_G) (cI cJ cV : ClassId) (ad : Nat → Nat) (sz : Nat) {k0 : Nat} {k1 : Nat} {k2 : Nat} {I : TI} {J : TJ} {z : Unit × SS} (hk0 : k0 < 16) (hk1 : k1 < 16) (hk2 : k2 < 16) (h : fX2_spanWorked k0 k1 k2 I J = some z) : Met l yX2_spanWorked (wsm yX2_spanWorked cX2_spanWorked 3 none) (rmd 2) (va_Pc [.ref (ad (12 + k0)), .ref (ad (12 + k1)), .ref (ad (12 + k2))] (gPre D (xw cI cJ cV ad) (xt cI cJ cV) sz I J)) (gQv D (xw cI cJ cV ad) (xt cI cJ cV) (xL ad) sz z) 0 0 (gA (xL ad) sz) :=
  g_met (by decide) xw_WL (fun p e s m below meth c hsz C hB ls hl => by subst hsz; exact tX2_spanWorked C hB hk0 hk1 hk2 hl h) (Nat.le_of_ble_eq_true rfl)
theorem hdX2_isWithinLimits : yX2_isWithinLimits.cls = "BitTuner$Value" ∧ yX2_isWithinLimits.cls ≠ "java/lang/invoke/MethodHandle" ∧ yX2_isWithinLimits.cls ≠ "java/lang/invoke/VarHandle" ∧ (parseMethodDescriptor yX2_isWithinLimits.desc).map (fun d => d.parameters.length) = some 0 := by decide +kernel
def fX2_isWithinLimits  (k0 : Nat) (I : TI) (J : TJ) : Option (Int32 × SS) :=
  if (4 : Int32) < (I 3 k0) then
  some ((0 : Int32), I, J)
  else
  if (67108864 : Int64) < (J 2 k0) then
  some ((0 : Int32), I, J)
  else
  some ((1 : Int32), I, J)
set_option maxHeartbeats 4000000 in
set_option maxRecDepth 100000 in
theorem tX2_isWithinLimits {p : Program} {l : Launch} {e : Env} {s : State} {m : MethodId} {args : Array Value} {below : List Frame} {meth : Method} {c : Code} (C : KX p s m args meth c "BitTuner$Value" cX2_isWithinLimits 1 (some .boolean)) {D : va_G} {cI cJ cV : ClassId} {ad : Nat → Nat} {z : Int32 × SS}   {H : Heap} {locs : List Loc} {ls : Array Slot} {I : TI} {J : TJ} {k0 : Nat} (hB : XB D cI cJ cV ad s H locs I J) (hk0 : k0 < 16) (hl : lv_has ls 1 [(0, .ref (ad (12 + k0)))]) (h : fX2_isWithinLimits k0 I J = some z) : W p l e (rmd 0) s m args below meth c H locs 0 0 (MQ below (gQi D (xw cI cJ cV ad) (xt cI cJ cV) (xL ad) s.heap.size z) args s 0 0 (gA (xL ad) s.heap.size)) (F0 m 0 ls []) := by
  unfold fX2_isWithinLimits at h
  refine lv_aload_n C.hx C.hb dX2_isWithinLimits_0 rfl (lv_at hl 0 rfl) ?_
  refine xg_v_degree C hB hk0 tw_75 dX2_isWithinLimits_1 ?_
  refine lv_iconst (v := (4 : Int32)) C.hx C.hb dX2_isWithinLimits_4 (by decide) ?_
  refine lv_icmp_gt (tgt := 23) C.hx C.hb dX2_isWithinLimits_5 (by decide) (fun c_1 => ?_) (fun c_1 => ?_)
  · replace h := (if_pos c_1).symm.trans h
    refine lv_iconst (v := (0 : Int32)) C.hx C.hb dX2_isWithinLimits_23 (by decide) ?_
    exact g_zret C hB h (by decide) dX2_isWithinLimits_24
  · replace h := (if_neg c_1).symm.trans h
    refine lv_aload_n C.hx C.hb dX2_isWithinLimits_8 rfl (lv_at hl 0 rfl) ?_
    refine xg_v_reach C hB hk0 tw_96 dX2_isWithinLimits_9 ?_
    refine lv_ldc2 C.hx C.hb C.hown (C.hts _ tw_273) dX2_isWithinLimits_12 ?_
    refine g_lcmp_gt C (tgt := 23) dX2_isWithinLimits_15 dX2_isWithinLimits_16 (by decide) (fun c_2 => ?_) (fun c_2 => ?_)
    · replace h := (if_pos c_2).symm.trans h
      refine lv_iconst (v := (0 : Int32)) C.hx C.hb dX2_isWithinLimits_23 (by decide) ?_
      exact g_zret C hB h (by decide) dX2_isWithinLimits_24
    · replace h := (if_neg c_2).symm.trans h
      refine lv_iconst (v := (1 : Int32)) C.hx C.hb dX2_isWithinLimits_19 (by decide) ?_
      refine lv_goto (tgt := 24) C.hx C.hb dX2_isWithinLimits_20 (by decide) ?_
      exact g_zret C hB h (by decide) dX2_isWithinLimits_24
set_option maxHeartbeats 4000000 in
set_option maxRecDepth 100000 in
theorem cnX2_isWithinLimits (l : Launch) (D : va_G) (cI cJ cV : ClassId) (ad : Nat → Nat) (sz : Nat) {k0 : Nat} {I : TI} {J : TJ} {z : Int32 × SS} (hk0 : k0 < 16) (h : fX2_isWithinLimits k0 I J = some z) : Met l yX2_isWithinLimits (wsm yX2_isWithinLimits cX2_isWithinLimits 1 (some .boolean)) (rmd 0) (va_Pc [.ref (ad (12 + k0))] (gPre D (xw cI cJ cV ad) (xt cI cJ cV) sz I J)) (gQi D (xw cI cJ cV ad) (xt cI cJ cV) (xL ad) sz z) 0 0 (gA (xL ad) sz) :=
  g_met (by decide) xw_WL (fun p e s m below meth c hsz C hB ls hl => by subst hsz; exact tX2_isWithinLimits C hB hk0 hl h) (Nat.le_of_ble_eq_true rfl)
theorem hdX0_has : yX0_has.cls = "BitTuner$Program" ∧ yX0_has.cls ≠ "java/lang/invoke/MethodHandle" ∧ yX0_has.cls ≠ "java/lang/invoke/VarHandle" ∧ (parseMethodDescriptor yX0_has.desc).map (fun d => d.parameters.length) = some 1 := by decide +kernel
def fX0_has  (v1 : Int32) (I : TI) (J : TJ) : Option (Int32 × SS) :=
  if v1 < 0 then
  some ((0 : Int32), I, J)
  else
  if (I 12 0) ≤ v1 then
  some ((0 : Int32), I, J)
  else
  some ((1 : Int32), I, J)
set_option maxHeartbeats 4000000 in
set_option maxRecDepth 100000 in
theorem tX0_has {p : Program} {l : Launch} {e : Env} {s : State} {m : MethodId} {args : Array Value} {below : List Frame} {meth : Method} {c : Code} (C : KX p s m args meth c "BitTuner$Program" cX0_has 2 (some .boolean)) {D : va_G} {cI cJ cV : ClassId} {ad : Nat → Nat} {z : Int32 × SS}   {H : Heap} {locs : List Loc} {ls : Array Slot} {I : TI} {J : TJ} {v1 : Int32} (hB : XB D cI cJ cV ad s H locs I J)  (hl : lv_has ls 2 [(0, .ref (ad 1)), (1, .int v1)]) (h : fX0_has v1 I J = some z) : W p l e (rmd 0) s m args below meth c H locs 0 0 (MQ below (gQi D (xw cI cJ cV ad) (xt cI cJ cV) (xL ad) s.heap.size z) args s 0 0 (gA (xL ad) s.heap.size)) (F0 m 0 ls []) := by
  unfold fX0_has at h
  refine lv_iload_n C.hx C.hb dX0_has_0 rfl (lv_at hl 1 rfl) ?_
  refine lv_if_lt (tgt := 16) C.hx C.hb dX0_has_1 (by decide) (fun c_1 => ?_) (fun c_1 => ?_)
  · replace h := (if_pos c_1).symm.trans h
    refine lv_iconst (v := (0 : Int32)) C.hx C.hb dX0_has_16 (by decide) ?_
    exact g_zret C hB h (by decide) dX0_has_17
  · replace h := (if_neg c_1).symm.trans h
    refine lv_iload_n C.hx C.hb dX0_has_4 rfl (lv_at hl 1 rfl) ?_
    refine lv_aload_n C.hx C.hb dX0_has_5 rfl (lv_at hl 0 rfl) ?_
    refine xg_p_many C hB tw_128 dX0_has_6 ?_
    refine lv_icmp_ge (tgt := 16) C.hx C.hb dX0_has_9 (by decide) (fun c_2 => ?_) (fun c_2 => ?_)
    · replace h := (if_pos c_2).symm.trans h
      refine lv_iconst (v := (0 : Int32)) C.hx C.hb dX0_has_16 (by decide) ?_
      exact g_zret C hB h (by decide) dX0_has_17
    · replace h := (if_neg c_2).symm.trans h
      refine lv_iconst (v := (1 : Int32)) C.hx C.hb dX0_has_12 (by decide) ?_
      refine lv_goto (tgt := 17) C.hx C.hb dX0_has_13 (by decide) ?_
      exact g_zret C hB h (by decide) dX0_has_17
set_option maxHeartbeats 4000000 in
set_option maxRecDepth 100000 in
theorem cnX0_has (l : Launch) (D : va_G) (cI cJ cV : ClassId) (ad : Nat → Nat) (sz : Nat) {v1 : Int32} {I : TI} {J : TJ} {z : Int32 × SS}  (h : fX0_has v1 I J = some z) : Met l yX0_has (wsm yX0_has cX0_has 2 (some .boolean)) (rmd 0) (va_Pc [.ref (ad 1), .int v1] (gPre D (xw cI cJ cV ad) (xt cI cJ cV) sz I J)) (gQi D (xw cI cJ cV ad) (xt cI cJ cV) (xL ad) sz z) 0 0 (gA (xL ad) sz) :=
  g_met (by decide) xw_WL (fun p e s m below meth c hsz C hB ls hl => by subst hsz; exact tX0_has C hB  hl h) (Nat.le_of_ble_eq_true rfl)
theorem hdX0_isInput : yX0_isInput.cls = "BitTuner$Program" ∧ yX0_isInput.cls ≠ "java/lang/invoke/MethodHandle" ∧ yX0_isInput.cls ≠ "java/lang/invoke/VarHandle" ∧ (parseMethodDescriptor yX0_isInput.desc).map (fun d => d.parameters.length) = some 1 := by decide +kernel
def fX0_isInput  (v1 : Int32) (I : TI) (J : TJ) : Option (Int32 × SS) :=
  bnd (fX0_has v1 I J) (fun q_1 I_1 J_1 =>
  if q_1 = 0 then
  some ((0 : Int32), I_1, J_1)
  else
  if okx v1 then
  if (I_1 0 v1.toNatClampNeg) = 0 then
  some ((1 : Int32), I_1, J_1)
  else
  some ((0 : Int32), I_1, J_1)
  else none)
set_option maxHeartbeats 4000000 in
set_option maxRecDepth 100000 in
theorem tX0_isInput {p : Program} {l : Launch} {e : Env} {s : State} {m : MethodId} {args : Array Value} {below : List Frame} {meth : Method} {c : Code} (C : KX p s m args meth c "BitTuner$Program" cX0_isInput 2 (some .boolean)) {D : va_G} {cI cJ cV : ClassId} {ad : Nat → Nat} {z : Int32 × SS}   {H : Heap} {locs : List Loc} {ls : Array Slot} {I : TI} {J : TJ} {v1 : Int32} (hB : XB D cI cJ cV ad s H locs I J)  (hl : lv_has ls 2 [(0, .ref (ad 1)), (1, .int v1)]) (h : fX0_isInput v1 I J = some z) : W p l e (rmd 1) s m args below meth c H locs 0 0 (MQ below (gQi D (xw cI cJ cV ad) (xt cI cJ cV) (xL ad) s.heap.size z) args s 0 0 (gA (xL ad) s.heap.size)) (F0 m 0 ls []) := by
  unfold fX0_isInput at h
  refine lv_aload_n C.hx C.hb dX0_isInput_0 rfl (lv_at hl 0 rfl) ?_
  refine lv_iload_n C.hx C.hb dX0_isInput_1 rfl (lv_at hl 1 rfl) ?_
  obtain ⟨q_1, I_1, J_1, hc_1, h⟩ := bnd_some h
  refine g_goi hB (g_runV C hB [.int v1] [] (cnX0_has l D cI cJ cV ad H.size  hc_1) 1 rfl rfl tw_286 tw_235 tw_236 tw_34 tw_237 ⟨rfl, rfl⟩ hdX0_has ⟨Nat.le_of_ble_eq_true rfl, Nat.le_of_ble_eq_true rfl⟩ hl.1 rfl (Nat.le_of_ble_eq_true rfl) dX0_isInput_2) (fun H locs hB => ?_)
  refine lv_if_eq (tgt := 24) C.hx C.hb dX0_isInput_5 (by decide) (fun c_2 => ?_) (fun c_2 => ?_)
  · replace h := (if_pos c_2).symm.trans h
    refine lv_iconst (v := (0 : Int32)) C.hx C.hb dX0_isInput_24 (by decide) ?_
    exact g_zret C hB h (by decide) dX0_isInput_25
  · replace h := (if_neg c_2).symm.trans h
    refine lv_aload_n C.hx C.hb dX0_isInput_8 rfl (lv_at hl 0 rfl) ?_
    refine xg_p_values C hB tw_124 dX0_isInput_9 ?_
    refine lv_iload_n C.hx C.hb dX0_isInput_12 rfl (lv_at hl 1 rfl) ?_
    obtain ⟨c_3, h⟩ := ite_ck h
    refine xa_values_ld C hB c_3 dX0_isInput_13 ?_
    refine xg_v_kind C hB c_3.2 tw_63 dX0_isInput_14 ?_
    refine lv_if_ne (tgt := 24) C.hx C.hb dX0_isInput_17 (by decide) (fun c_4 => ?_) (fun c_4 => ?_)
    · replace h := (if_neg c_4).symm.trans h
      refine lv_iconst (v := (0 : Int32)) C.hx C.hb dX0_isInput_24 (by decide) ?_
      exact g_zret C hB h (by decide) dX0_isInput_25
    · replace h := (if_pos c_4).symm.trans h
      refine lv_iconst (v := (1 : Int32)) C.hx C.hb dX0_isInput_20 (by decide) ?_
      refine lv_goto (tgt := 25) C.hx C.hb dX0_isInput_21 (by decide) ?_
      exact g_zret C hB h (by decide) dX0_isInput_25
set_option maxHeartbeats 4000000 in
set_option maxRecDepth 100000 in
theorem cnX0_isInput (l : Launch) (D : va_G) (cI cJ cV : ClassId) (ad : Nat → Nat) (sz : Nat) {v1 : Int32} {I : TI} {J : TJ} {z : Int32 × SS}  (h : fX0_isInput v1 I J = some z) : Met l yX0_isInput (wsm yX0_isInput cX0_isInput 2 (some .boolean)) (rmd 1) (va_Pc [.ref (ad 1), .int v1] (gPre D (xw cI cJ cV ad) (xt cI cJ cV) sz I J)) (gQi D (xw cI cJ cV ad) (xt cI cJ cV) (xL ad) sz z) 0 0 (gA (xL ad) sz) :=
  g_met (by decide) xw_WL (fun p e s m below meth c hsz C hB ls hl => by subst hsz; exact tX0_isInput C hB  hl h) (Nat.le_of_ble_eq_true rfl)
theorem hdX0_isWorked : yX0_isWorked.cls = "BitTuner$Program" ∧ yX0_isWorked.cls ≠ "java/lang/invoke/MethodHandle" ∧ yX0_isWorked.cls ≠ "java/lang/invoke/VarHandle" ∧ (parseMethodDescriptor yX0_isWorked.desc).map (fun d => d.parameters.length) = some 1 := by decide +kernel
def fX0_isWorked  (v1 : Int32) (I : TI) (J : TJ) : Option (Int32 × SS) :=
  bnd (fX0_has v1 I J) (fun q_1 I_1 J_1 =>
  if q_1 = 0 then
  some ((0 : Int32), I_1, J_1)
  else
  if okx v1 then
  bnd (fX2_isGiven v1.toNatClampNeg I_1 J_1) (fun q_4 I_4 J_4 =>
  if q_4 = 0 then
  some ((1 : Int32), I_4, J_4)
  else
  some ((0 : Int32), I_4, J_4))
  else none)
set_option maxHeartbeats 4000000 in
set_option maxRecDepth 100000 in
theorem tX0_isWorked {p : Program} {l : Launch} {e : Env} {s : State} {m : MethodId} {args : Array Value} {below : List Frame} {meth : Method} {c : Code} (C : KX p s m args meth c "BitTuner$Program" cX0_isWorked 2 (some .boolean)) {D : va_G} {cI cJ cV : ClassId} {ad : Nat → Nat} {z : Int32 × SS}   {H : Heap} {locs : List Loc} {ls : Array Slot} {I : TI} {J : TJ} {v1 : Int32} (hB : XB D cI cJ cV ad s H locs I J)  (hl : lv_has ls 2 [(0, .ref (ad 1)), (1, .int v1)]) (h : fX0_isWorked v1 I J = some z) : W p l e (rmd 1) s m args below meth c H locs 0 0 (MQ below (gQi D (xw cI cJ cV ad) (xt cI cJ cV) (xL ad) s.heap.size z) args s 0 0 (gA (xL ad) s.heap.size)) (F0 m 0 ls []) := by
  unfold fX0_isWorked at h
  refine lv_aload_n C.hx C.hb dX0_isWorked_0 rfl (lv_at hl 0 rfl) ?_
  refine lv_iload_n C.hx C.hb dX0_isWorked_1 rfl (lv_at hl 1 rfl) ?_
  obtain ⟨q_1, I_1, J_1, hc_1, h⟩ := bnd_some h
  refine g_goi hB (g_runV C hB [.int v1] [] (cnX0_has l D cI cJ cV ad H.size  hc_1) 1 rfl rfl tw_286 tw_235 tw_236 tw_34 tw_237 ⟨rfl, rfl⟩ hdX0_has ⟨Nat.le_of_ble_eq_true rfl, Nat.le_of_ble_eq_true rfl⟩ hl.1 rfl (Nat.le_of_ble_eq_true rfl) dX0_isWorked_2) (fun H locs hB => ?_)
  refine lv_if_eq (tgt := 24) C.hx C.hb dX0_isWorked_5 (by decide) (fun c_2 => ?_) (fun c_2 => ?_)
  · replace h := (if_pos c_2).symm.trans h
    refine lv_iconst (v := (0 : Int32)) C.hx C.hb dX0_isWorked_24 (by decide) ?_
    exact g_zret C hB h (by decide) dX0_isWorked_25
  · replace h := (if_neg c_2).symm.trans h
    refine lv_aload_n C.hx C.hb dX0_isWorked_8 rfl (lv_at hl 0 rfl) ?_
    refine xg_p_values C hB tw_124 dX0_isWorked_9 ?_
    refine lv_iload_n C.hx C.hb dX0_isWorked_12 rfl (lv_at hl 1 rfl) ?_
    obtain ⟨c_3, h⟩ := ite_ck h
    refine xa_values_ld C hB c_3 dX0_isWorked_13 ?_
    obtain ⟨q_4, I_4, J_4, hc_4, h⟩ := bnd_some h
    refine g_goi hB (g_runV C hB [] [] (cnX2_isGiven l D cI cJ cV ad H.size c_3.2  hc_4) (12 + v1.toNatClampNeg) (xw_val c_3.2) rfl tw_287 tw_288 tw_289 tw_35 tw_290 ⟨rfl, rfl⟩ hdX2_isGiven ⟨Nat.le_of_ble_eq_true rfl, Nat.le_of_ble_eq_true rfl⟩ hl.1 rfl (Nat.le_of_ble_eq_true rfl) dX0_isWorked_14) (fun H locs hB => ?_)
    refine lv_if_ne (tgt := 24) C.hx C.hb dX0_isWorked_17 (by decide) (fun c_5 => ?_) (fun c_5 => ?_)
    · replace h := (if_neg c_5).symm.trans h
      refine lv_iconst (v := (0 : Int32)) C.hx C.hb dX0_isWorked_24 (by decide) ?_
      exact g_zret C hB h (by decide) dX0_isWorked_25
    · replace h := (if_pos c_5).symm.trans h
      refine lv_iconst (v := (1 : Int32)) C.hx C.hb dX0_isWorked_20 (by decide) ?_
      refine lv_goto (tgt := 25) C.hx C.hb dX0_isWorked_21 (by decide) ?_
      exact g_zret C hB h (by decide) dX0_isWorked_25
set_option maxHeartbeats 4000000 in
set_option maxRecDepth 100000 in
theorem cnX0_isWorked (l : Launch) (D : va_G) (cI cJ cV : ClassId) (ad : Nat → Nat) (sz : Nat) {v1 : Int32} {I : TI} {J : TJ} {z : Int32 × SS}  (h : fX0_isWorked v1 I J = some z) : Met l yX0_isWorked (wsm yX0_isWorked cX0_isWorked 2 (some .boolean)) (rmd 1) (va_Pc [.ref (ad 1), .int v1] (gPre D (xw cI cJ cV ad) (xt cI cJ cV) sz I J)) (gQi D (xw cI cJ cV ad) (xt cI cJ cV) (xL ad) sz z) 0 0 (gA (xL ad) sz) :=
  g_met (by decide) xw_WL (fun p e s m below meth c hsz C hB ls hl => by subst hsz; exact tX0_isWorked C hB  hl h) (Nat.le_of_ble_eq_true rfl)
theorem hdX0_addGiven : yX0_addGiven.cls = "BitTuner$Program" ∧ yX0_addGiven.cls ≠ "java/lang/invoke/MethodHandle" ∧ yX0_addGiven.cls ≠ "java/lang/invoke/VarHandle" ∧ (parseMethodDescriptor yX0_addGiven.desc).map (fun d => d.parameters.length) = some 3 := by decide +kernel
def fX0_addGiven  (v1 : Int32) (v2 : Int32) (v3 : Int32) (I : TI) (J : TJ) : Option (Int32 × SS) :=
  if (I 12 0) < (16 : Int32) then
  if okx (I 12 0) then
  bnd (fX2_begin ((I 12 0).toNatClampNeg) v1 v2 v3 I J) (fun q_3 I_3 J_3 =>
  bnd (fX2_spanGiven ((I 12 0).toNatClampNeg) I_3 J_3) (fun q_4 I_4 J_4 =>
  some (I_4 12 0, (uI I_4 12 0 ((I_4 12 0) + (1 : Int32))), J_4)))
  else none
  else
  some ((-3 : Int32), I, J)
set_option maxHeartbeats 4000000 in
set_option maxRecDepth 100000 in
theorem tX0_addGiven {p : Program} {l : Launch} {e : Env} {s : State} {m : MethodId} {args : Array Value} {below : List Frame} {meth : Method} {c : Code} (C : KX p s m args meth c "BitTuner$Program" cX0_addGiven 5 (some .int)) {D : va_G} {cI cJ cV : ClassId} {ad : Nat → Nat} {z : Int32 × SS}   {H : Heap} {locs : List Loc} {ls : Array Slot} {I : TI} {J : TJ} {v1 : Int32} {v2 : Int32} {v3 : Int32} (hB : XB D cI cJ cV ad s H locs I J)  (hl : lv_has ls 5 [(0, .ref (ad 1)), (1, .int v1), (2, .int v2), (3, .int v3)]) (h : fX0_addGiven v1 v2 v3 I J = some z) : W p l e (rmd 2) s m args below meth c H locs 0 0 (MQ below (gQi D (xw cI cJ cV ad) (xt cI cJ cV) (xL ad) s.heap.size z) args s 0 0 (gA (xL ad) s.heap.size)) (F0 m 0 ls []) := by
  unfold fX0_addGiven at h
  refine lv_aload_n C.hx C.hb dX0_addGiven_0 rfl (lv_at hl 0 rfl) ?_
  refine xg_p_many C hB tw_128 dX0_addGiven_1 ?_
  refine lv_bipush (v := (16 : Int32)) C.hx C.hb dX0_addGiven_4 (by decide) ?_
  refine lv_icmp_lt (tgt := 12) C.hx C.hb dX0_addGiven_6 (by decide) (fun c_1 => ?_) (fun c_1 => ?_)
  · replace h := (if_pos c_1).symm.trans h
    refine lv_aload_n C.hx C.hb dX0_addGiven_12 rfl (lv_at hl 0 rfl) ?_
    refine xg_p_values C hB tw_124 dX0_addGiven_13 ?_
    refine lv_aload_n C.hx C.hb dX0_addGiven_16 rfl (lv_at hl 0 rfl) ?_
    refine xg_p_many C hB tw_128 dX0_addGiven_17 ?_
    obtain ⟨c_2, h⟩ := ite_ck h
    refine xa_values_ld C hB c_2 dX0_addGiven_20 ?_
    refine lv_astore (lv' := [(4, .ref (ad (12 + (I 12 0).toNatClampNeg))), (0, .ref (ad 1)), (1, .int v1), (2, .int v2), (3, .int v3)]) C.hx C.hb dX0_addGiven_21 hl (by decide) rfl (fun ls hl => ?_)
    refine lv_aload C.hx C.hb dX0_addGiven_23 (lv_at hl 0 rfl) ?_
    refine lv_iload_n C.hx C.hb dX0_addGiven_25 rfl (lv_at hl 2 rfl) ?_
    refine lv_iload_n C.hx C.hb dX0_addGiven_26 rfl (lv_at hl 3 rfl) ?_
    refine lv_iload_n C.hx C.hb dX0_addGiven_27 rfl (lv_at hl 4 rfl) ?_
    obtain ⟨q_3, I_3, J_3, hc_3, h⟩ := bnd_some h
    refine g_gov hB (g_runV C hB [.int v1, .int v2, .int v3] [] (cnX2_begin l D cI cJ cV ad H.size c_2.2  hc_3) (12 + ((I 12 0).toNatClampNeg)) (xw_val c_2.2) rfl tw_212 tw_213 tw_214 tw_35 tw_215 ⟨rfl, rfl⟩ hdX2_begin ⟨Nat.le_of_ble_eq_true rfl, Nat.le_of_ble_eq_true rfl⟩ hl.1 rfl (Nat.le_of_ble_eq_true rfl) dX0_addGiven_28) (fun H locs hB => ?_)
    refine lv_aload C.hx C.hb dX0_addGiven_31 (lv_at hl 0 rfl) ?_
    obtain ⟨q_4, I_4, J_4, hc_4, h⟩ := bnd_some h
    refine g_gov hB (g_runV C hB [] [] (cnX2_spanGiven l D cI cJ cV ad H.size c_2.2  hc_4) (12 + ((I 12 0).toNatClampNeg)) (xw_val c_2.2) rfl tw_216 tw_217 tw_218 tw_35 tw_219 ⟨rfl, rfl⟩ hdX2_spanGiven ⟨Nat.le_of_ble_eq_true rfl, Nat.le_of_ble_eq_true rfl⟩ hl.1 rfl (Nat.le_of_ble_eq_true rfl) dX0_addGiven_33) (fun H locs hB => ?_)
    refine lv_aload_n C.hx C.hb dX0_addGiven_36 rfl (lv_at hl 1 rfl) ?_
    refine lv_dup C.hx C.hb dX0_addGiven_37 rfl ?_
    refine xg_p_many C hB tw_128 dX0_addGiven_38 ?_
    refine lv_dup_x1 C.hx C.hb dX0_addGiven_41 rfl rfl ?_
    refine lv_iconst (v := (1 : Int32)) C.hx C.hb dX0_addGiven_42 (by decide) ?_
    refine lv_iadd C.hx C.hb dX0_addGiven_43 ?_
    refine xp_p_many C hB tw_128 dX0_addGiven_44 (fun H locs hB => ?_)
    exact g_iret C hB h dX0_addGiven_47
  · replace h := (if_neg c_1).symm.trans h
    refine lv_bipush (v := (-3 : Int32)) C.hx C.hb dX0_addGiven_9 (by decide) ?_
    exact g_iret C hB h dX0_addGiven_11
set_option maxHeartbeats 4000000 in
set_option maxRecDepth 100000 in
theorem cnX0_addGiven (l : Launch) (D : va_G) (cI cJ cV : ClassId) (ad : Nat → Nat) (sz : Nat) {v1 : Int32} {v2 : Int32} {v3 : Int32} {I : TI} {J : TJ} {z : Int32 × SS}  (h : fX0_addGiven v1 v2 v3 I J = some z) : Met l yX0_addGiven (wsm yX0_addGiven cX0_addGiven 5 (some .int)) (rmd 2) (va_Pc [.ref (ad 1), .int v1, .int v2, .int v3] (gPre D (xw cI cJ cV ad) (xt cI cJ cV) sz I J)) (gQi D (xw cI cJ cV ad) (xt cI cJ cV) (xL ad) sz z) 0 0 (gA (xL ad) sz) :=
  g_met (by decide) xw_WL (fun p e s m below meth c hsz C hB ls hl => by subst hsz; exact tX0_addGiven C hB  hl h) (Nat.le_of_ble_eq_true rfl)
theorem hdX0_addWorked : yX0_addWorked.cls = "BitTuner$Program" ∧ yX0_addWorked.cls ≠ "java/lang/invoke/MethodHandle" ∧ yX0_addWorked.cls ≠ "java/lang/invoke/VarHandle" ∧ (parseMethodDescriptor yX0_addWorked.desc).map (fun d => d.parameters.length) = some 3 := by decide +kernel
def fX0_addWorked_55  (k4 : Nat) (w0 : Int32) (w2 : Nat) (w3 : Nat) (I : TI) (J : TJ) : Option (Int32 × SS) :=
  if okx w0 then
  bnd (fX2_spanWorked w3 w2 w0.toNatClampNeg I J) (fun q_8 I_8 J_8 =>
  bnd (fX2_isWithinLimits k4 I_8 J_8) (fun q_9 I_9 J_9 =>
  if q_9 = 0 then
  some ((-4 : Int32), I_9, J_9)
  else
  some (I_9 12 0, (uI I_9 12 0 ((I_9 12 0) + (1 : Int32))), J_9)))
  else none
set_option maxHeartbeats 4000000 in
set_option maxRecDepth 100000 in
theorem tX0_addWorked_55 {p : Program} {l : Launch} {e : Env} {s : State} {m : MethodId} {args : Array Value} {below : List Frame} {meth : Method} {c : Code} (C : KX p s m args meth c "BitTuner$Program" cX0_addWorked 5 (some .int)) {D : va_G} {cI cJ cV : ClassId} {ad : Nat → Nat} {z : Int32 × SS}   {H : Heap} {locs : List Loc} {ls : Array Slot} {I : TI} {J : TJ} {k4 : Nat} {w0 : Int32} {w2 : Nat} {w3 : Nat} (hB : XB D cI cJ cV ad s H locs I J) (hk4 : k4 < 16) (hw2 : w2 < 16) (hw3 : w3 < 16) (hl : lv_has ls 5 [(0, .ref (ad 1)), (4, .ref (ad (12 + k4)))]) (h : fX0_addWorked_55 k4 w0 w2 w3 I J = some z) : W p l e (rmd 3) s m args below meth c H locs 0 0 (MQ below (gQi D (xw cI cJ cV ad) (xt cI cJ cV) (xL ad) s.heap.size z) args s 0 0 (gA (xL ad) s.heap.size)) (F0 m 55 ls [.int w0, .ref (ad 2), .ref (ad (12 + w2)), .ref (ad (12 + w3))]) := by
  unfold fX0_addWorked_55 at h
  obtain ⟨c_7, h⟩ := ite_ck h
  refine xa_values_ld C hB c_7 dX0_addWorked_55 ?_
  obtain ⟨q_8, I_8, J_8, hc_8, h⟩ := bnd_some h
  refine g_gov hB (g_runV C hB [.ref (ad (12 + w2)), .ref (ad (12 + w0.toNatClampNeg))] [] (cnX2_spanWorked l D cI cJ cV ad H.size hw3 hw2 c_7.2  hc_8) (12 + w3) (xw_val hw3) rfl tw_246 tw_247 tw_248 tw_35 tw_249 ⟨rfl, rfl⟩ hdX2_spanWorked ⟨Nat.le_of_ble_eq_true rfl, Nat.le_of_ble_eq_true rfl⟩ hl.1 rfl (Nat.le_of_ble_eq_true rfl) dX0_addWorked_56) (fun H locs hB => ?_)
  refine lv_aload C.hx C.hb dX0_addWorked_59 (lv_at hl 1 rfl) ?_
  obtain ⟨q_9, I_9, J_9, hc_9, h⟩ := bnd_some h
  refine g_goi hB (g_runV C hB [] [] (cnX2_isWithinLimits l D cI cJ cV ad H.size hk4  hc_9) (12 + k4) (xw_val hk4) rfl tw_269 tw_270 tw_271 tw_35 tw_272 ⟨rfl, rfl⟩ hdX2_isWithinLimits ⟨Nat.le_of_ble_eq_true rfl, Nat.le_of_ble_eq_true rfl⟩ hl.1 rfl (Nat.le_of_ble_eq_true rfl) dX0_addWorked_61) (fun H locs hB => ?_)
  refine lv_if_eq (tgt := 81) C.hx C.hb dX0_addWorked_64 (by decide) (fun c_10 => ?_) (fun c_10 => ?_)
  · replace h := (if_pos c_10).symm.trans h
    refine lv_bipush (v := (-4 : Int32)) C.hx C.hb dX0_addWorked_81 (by decide) ?_
    exact g_iret C hB h dX0_addWorked_83
  · replace h := (if_neg c_10).symm.trans h
    refine lv_aload_n C.hx C.hb dX0_addWorked_67 rfl (lv_at hl 0 rfl) ?_
    refine lv_dup C.hx C.hb dX0_addWorked_68 rfl ?_
    refine xg_p_many C hB tw_128 dX0_addWorked_69 ?_
    refine lv_dup_x1 C.hx C.hb dX0_addWorked_72 rfl rfl ?_
    refine lv_iconst (v := (1 : Int32)) C.hx C.hb dX0_addWorked_73 (by decide) ?_
    refine lv_iadd C.hx C.hb dX0_addWorked_74 ?_
    refine xp_p_many C hB tw_128 dX0_addWorked_75 (fun H locs hB => ?_)
    refine lv_goto (tgt := 83) C.hx C.hb dX0_addWorked_78 (by decide) ?_
    exact g_iret C hB h dX0_addWorked_83
def fX0_addWorked  (v1 : Int32) (v2 : Int32) (v3 : Int32) (I : TI) (J : TJ) : Option (Int32 × SS) :=
  if (I 12 0) < (16 : Int32) then
  if okx (I 12 0) then
  bnd (fX2_begin ((I 12 0).toNatClampNeg) v1 v2 v3 I J) (fun q_3 I_3 J_3 =>
  if okx v2 then
  bnd (fX4_hasTwoParts v1 I_3 J_3) (fun q_5 I_5 J_5 =>
  if q_5 = 0 then
  fX0_addWorked_55 ((I 12 0).toNatClampNeg) v2 v2.toNatClampNeg ((I 12 0).toNatClampNeg) I_5 J_5
  else
  fX0_addWorked_55 ((I 12 0).toNatClampNeg) v3 v2.toNatClampNeg ((I 12 0).toNatClampNeg) I_5 J_5)
  else none)
  else none
  else
  some ((-3 : Int32), I, J)
set_option maxHeartbeats 4000000 in
set_option maxRecDepth 100000 in
theorem tX0_addWorked {p : Program} {l : Launch} {e : Env} {s : State} {m : MethodId} {args : Array Value} {below : List Frame} {meth : Method} {c : Code} (C : KX p s m args meth c "BitTuner$Program" cX0_addWorked 5 (some .int)) {D : va_G} {cI cJ cV : ClassId} {ad : Nat → Nat} {z : Int32 × SS}   {H : Heap} {locs : List Loc} {ls : Array Slot} {I : TI} {J : TJ} {v1 : Int32} {v2 : Int32} {v3 : Int32} (hB : XB D cI cJ cV ad s H locs I J)  (hl : lv_has ls 5 [(0, .ref (ad 1)), (1, .int v1), (2, .int v2), (3, .int v3)]) (h : fX0_addWorked v1 v2 v3 I J = some z) : W p l e (rmd 3) s m args below meth c H locs 0 0 (MQ below (gQi D (xw cI cJ cV ad) (xt cI cJ cV) (xL ad) s.heap.size z) args s 0 0 (gA (xL ad) s.heap.size)) (F0 m 0 ls []) := by
  unfold fX0_addWorked at h
  refine lv_aload_n C.hx C.hb dX0_addWorked_0 rfl (lv_at hl 0 rfl) ?_
  refine xg_p_many C hB tw_128 dX0_addWorked_1 ?_
  refine lv_bipush (v := (16 : Int32)) C.hx C.hb dX0_addWorked_4 (by decide) ?_
  refine lv_icmp_lt (tgt := 12) C.hx C.hb dX0_addWorked_6 (by decide) (fun c_1 => ?_) (fun c_1 => ?_)
  · replace h := (if_pos c_1).symm.trans h
    refine lv_aload_n C.hx C.hb dX0_addWorked_12 rfl (lv_at hl 0 rfl) ?_
    refine xg_p_values C hB tw_124 dX0_addWorked_13 ?_
    refine lv_aload_n C.hx C.hb dX0_addWorked_16 rfl (lv_at hl 0 rfl) ?_
    refine xg_p_many C hB tw_128 dX0_addWorked_17 ?_
    obtain ⟨c_2, h⟩ := ite_ck h
    refine xa_values_ld C hB c_2 dX0_addWorked_20 ?_
    refine lv_astore (lv' := [(4, .ref (ad (12 + (I 12 0).toNatClampNeg))), (0, .ref (ad 1)), (1, .int v1), (2, .int v2), (3, .int v3)]) C.hx C.hb dX0_addWorked_21 hl (by decide) rfl (fun ls hl => ?_)
    refine lv_aload C.hx C.hb dX0_addWorked_23 (lv_at hl 0 rfl) ?_
    refine lv_iload_n C.hx C.hb dX0_addWorked_25 rfl (lv_at hl 2 rfl) ?_
    refine lv_iload_n C.hx C.hb dX0_addWorked_26 rfl (lv_at hl 3 rfl) ?_
    refine lv_iload_n C.hx C.hb dX0_addWorked_27 rfl (lv_at hl 4 rfl) ?_
    obtain ⟨q_3, I_3, J_3, hc_3, h⟩ := bnd_some h
    refine g_gov hB (g_runV C hB [.int v1, .int v2, .int v3] [] (cnX2_begin l D cI cJ cV ad H.size c_2.2  hc_3) (12 + ((I 12 0).toNatClampNeg)) (xw_val c_2.2) rfl tw_212 tw_213 tw_214 tw_35 tw_215 ⟨rfl, rfl⟩ hdX2_begin ⟨Nat.le_of_ble_eq_true rfl, Nat.le_of_ble_eq_true rfl⟩ hl.1 rfl (Nat.le_of_ble_eq_true rfl) dX0_addWorked_28) (fun H locs hB => ?_)
    refine lv_aload C.hx C.hb dX0_addWorked_31 (lv_at hl 0 rfl) ?_
    refine lv_aload_n C.hx C.hb dX0_addWorked_33 rfl (lv_at hl 1 rfl) ?_
    refine xg_p_values C hB tw_124 dX0_addWorked_34 ?_
    refine lv_iload_n C.hx C.hb dX0_addWorked_37 rfl (lv_at hl 3 rfl) ?_
    obtain ⟨c_4, h⟩ := ite_ck h
    refine xa_values_ld C hB c_4 dX0_addWorked_38 ?_
    refine lv_aload_n C.hx C.hb dX0_addWorked_39 rfl (lv_at hl 1 rfl) ?_
    refine xg_p_values C hB tw_124 dX0_addWorked_40 ?_
    refine lv_iload_n C.hx C.hb dX0_addWorked_43 rfl (lv_at hl 2 rfl) ?_
    obtain ⟨q_5, I_5, J_5, hc_5, h⟩ := bnd_some h
    refine g_goi hB (g_runSN C hB [.int v1] [.ref (ad 2), .ref (ad (12 + v2.toNatClampNeg)), .ref (ad (12 + (I 12 0).toNatClampNeg))] (host := "BitTuner") (cnX4_hasTwoParts l D cI cJ cV ad H.size  hc_5) hB.N.1 tw_239 tw_33 tw_240 ⟨rfl, rfl⟩ hdX4_hasTwoParts.2 ⟨Nat.le_of_ble_eq_true rfl, Nat.le_of_ble_eq_true rfl⟩ hl.1 rfl (Nat.le_of_ble_eq_true rfl) dX0_addWorked_44) (fun H locs hB => ?_)
    refine lv_if_eq (tgt := 54) C.hx C.hb dX0_addWorked_47 (by decide) (fun c_6 => ?_) (fun c_6 => ?_)
    · replace h := (if_pos c_6).symm.trans h
      refine lv_iload_n C.hx C.hb dX0_addWorked_54 rfl (lv_at hl 3 rfl) ?_
      exact tX0_addWorked_55 C  hB c_2.2 c_4.2 c_2.2 (lv_sub hl [1, 0] rfl) h
    · replace h := (if_neg c_6).symm.trans h
      refine lv_iload_n C.hx C.hb dX0_addWorked_50 rfl (lv_at hl 4 rfl) ?_
      refine lv_goto (tgt := 55) C.hx C.hb dX0_addWorked_51 (by decide) ?_
      exact tX0_addWorked_55 C  hB c_2.2 c_4.2 c_2.2 (lv_sub hl [1, 0] rfl) h
  · replace h := (if_neg c_1).symm.trans h
    refine lv_bipush (v := (-3 : Int32)) C.hx C.hb dX0_addWorked_9 (by decide) ?_
    exact g_iret C hB h dX0_addWorked_11
set_option maxHeartbeats 4000000 in
set_option maxRecDepth 100000 in
theorem cnX0_addWorked (l : Launch) (D : va_G) (cI cJ cV : ClassId) (ad : Nat → Nat) (sz : Nat) {v1 : Int32} {v2 : Int32} {v3 : Int32} {I : TI} {J : TJ} {z : Int32 × SS}  (h : fX0_addWorked v1 v2 v3 I J = some z) : Met l yX0_addWorked (wsm yX0_addWorked cX0_addWorked 5 (some .int)) (rmd 3) (va_Pc [.ref (ad 1), .int v1, .int v2, .int v3] (gPre D (xw cI cJ cV ad) (xt cI cJ cV) sz I J)) (gQi D (xw cI cJ cV ad) (xt cI cJ cV) (xL ad) sz z) 0 0 (gA (xL ad) sz) :=
  g_met (by decide) xw_WL (fun p e s m below meth c hsz C hB ls hl => by subst hsz; exact tX0_addWorked C hB  hl h) (Nat.le_of_ble_eq_true rfl)
theorem hdX0_inputs : yX0_inputs.cls = "BitTuner$Program" ∧ yX0_inputs.cls ≠ "java/lang/invoke/MethodHandle" ∧ yX0_inputs.cls ≠ "java/lang/invoke/VarHandle" ∧ (parseMethodDescriptor yX0_inputs.desc).map (fun d => d.parameters.length) = some 0 := by decide +kernel
def fX0_inputs_4  : Nat → Int32 → Int32 → TI → TJ → Option (Int32 × SS)
  | 0, _, _, _, _ => none
  | n + 1, v1, v2, I, J =>
    if (I 12 0) ≤ v2 then
    some (v1, I, J)
    else
    if okx v2 then
    if (I 0 v2.toNatClampNeg) = 0 then
    fX0_inputs_4 n (v1 + (1 : Int32)) (v2 + (1 : Int32)) I J
    else
    fX0_inputs_4 n v1 (v2 + (1 : Int32)) I J
    else none
theorem eX0_inputs_4  (n : Nat) (v1 : Int32) (v2 : Int32) (I : TI) (J : TJ) : fX0_inputs_4 (n + 1) v1 v2 I J = (
    if (I 12 0) ≤ v2 then
    some (v1, I, J)
    else
    if okx v2 then
    if (I 0 v2.toNatClampNeg) = 0 then
    fX0_inputs_4 n (v1 + (1 : Int32)) (v2 + (1 : Int32)) I J
    else
    fX0_inputs_4 n v1 (v2 + (1 : Int32)) I J
    else none) := rfl
set_option maxHeartbeats 4000000 in
set_option maxRecDepth 100000 in
theorem tX0_inputs_4 {p : Program} {l : Launch} {e : Env} {s : State} {m : MethodId} {args : Array Value} {below : List Frame} {meth : Method} {c : Code} (C : KX p s m args meth c "BitTuner$Program" cX0_inputs 3 (some .int)) {D : va_G} {cI cJ cV : ClassId} {ad : Nat → Nat} {z : Int32 × SS}   : ∀ (n : Nat), ∀ {H : Heap} {locs : List Loc} {ls : Array Slot} {I : TI} {J : TJ} {v1 : Int32} {v2 : Int32}, XB D cI cJ cV ad s H locs I J → lv_has ls 3 [(0, .ref (ad 1)), (1, .int v1), (2, .int v2)] → fX0_inputs_4 n v1 v2 I J = some z → W p l e (rmd 0) s m args below meth c H locs 0 0 (MQ below (gQi D (xw cI cJ cV ad) (xt cI cJ cV) (xL ad) s.heap.size z) args s 0 0 (gA (xL ad) s.heap.size)) (F0 m 4 ls []) := by
  intro n
  induction n with
  | zero =>
    intro H locs ls I J v1 v2 hB  hl h
    have h : (none : Option (Int32 × SS)) = some z := h
    cases h
  | succ n ih =>
    intro H locs ls I J v1 v2 hB  hl h
    replace h := (eX0_inputs_4 n v1 v2 I J).symm.trans h
    refine lv_iload_n C.hx C.hb dX0_inputs_4 rfl (lv_at hl 2 rfl) ?_
    refine lv_aload_n C.hx C.hb dX0_inputs_5 rfl (lv_at hl 0 rfl) ?_
    refine xg_p_many C hB tw_128 dX0_inputs_6 ?_
    refine lv_icmp_ge (tgt := 33) C.hx C.hb dX0_inputs_9 (by decide) (fun c_1 => ?_) (fun c_1 => ?_)
    · replace h := (if_pos c_1).symm.trans h
      refine lv_iload_n C.hx C.hb dX0_inputs_33 rfl (lv_at hl 1 rfl) ?_
      exact g_iret C hB h dX0_inputs_34
    · replace h := (if_neg c_1).symm.trans h
      refine lv_aload_n C.hx C.hb dX0_inputs_12 rfl (lv_at hl 0 rfl) ?_
      refine xg_p_values C hB tw_124 dX0_inputs_13 ?_
      refine lv_iload_n C.hx C.hb dX0_inputs_16 rfl (lv_at hl 2 rfl) ?_
      obtain ⟨c_2, h⟩ := ite_ck h
      refine xa_values_ld C hB c_2 dX0_inputs_17 ?_
      refine xg_v_kind C hB c_2.2 tw_63 dX0_inputs_18 ?_
      refine lv_if_ne (tgt := 27) C.hx C.hb dX0_inputs_21 (by decide) (fun c_3 => ?_) (fun c_3 => ?_)
      · replace h := (if_neg c_3).symm.trans h
        refine lv_iinc (v := v2 + (1 : Int32)) (lv' := [(2, .int (v2 + (1 : Int32))), (0, .ref (ad 1)), (1, .int v1)]) C.hx C.hb dX0_inputs_27 hl (k := 2) rfl rfl (by decide) rfl (fun ls hl => ?_)
        refine lv_goto (tgt := 4) C.hx C.hb dX0_inputs_30 (by decide) ?_
        exact ih hB (lv_sub hl [1, 2, 0] rfl) h
      · replace h := (if_pos c_3).symm.trans h
        refine lv_iinc (v := v1 + (1 : Int32)) (lv' := [(1, .int (v1 + (1 : Int32))), (0, .ref (ad 1)), (2, .int v2)]) C.hx C.hb dX0_inputs_24 hl (k := 1) rfl rfl (by decide) rfl (fun ls hl => ?_)
        refine lv_iinc (v := v2 + (1 : Int32)) (lv' := [(2, .int (v2 + (1 : Int32))), (1, .int (v1 + (1 : Int32))), (0, .ref (ad 1))]) C.hx C.hb dX0_inputs_27 hl (k := 2) rfl rfl (by decide) rfl (fun ls hl => ?_)
        refine lv_goto (tgt := 4) C.hx C.hb dX0_inputs_30 (by decide) ?_
        exact ih hB (lv_sub hl [2, 1, 0] rfl) h
def fX0_inputs   (I : TI) (J : TJ) : Option (Int32 × SS) :=
  fX0_inputs_4 fuel (0 : Int32) (0 : Int32) I J
set_option maxHeartbeats 4000000 in
set_option maxRecDepth 100000 in
theorem tX0_inputs {p : Program} {l : Launch} {e : Env} {s : State} {m : MethodId} {args : Array Value} {below : List Frame} {meth : Method} {c : Code} (C : KX p s m args meth c "BitTuner$Program" cX0_inputs 3 (some .int)) {D : va_G} {cI cJ cV : ClassId} {ad : Nat → Nat} {z : Int32 × SS}   {H : Heap} {locs : List Loc} {ls : Array Slot} {I : TI} {J : TJ}  (hB : XB D cI cJ cV ad s H locs I J)  (hl : lv_has ls 3 [(0, .ref (ad 1))]) (h : fX0_inputs I J = some z) : W p l e (rmd 0) s m args below meth c H locs 0 0 (MQ below (gQi D (xw cI cJ cV ad) (xt cI cJ cV) (xL ad) s.heap.size z) args s 0 0 (gA (xL ad) s.heap.size)) (F0 m 0 ls []) := by
  unfold fX0_inputs at h
  refine lv_iconst (v := (0 : Int32)) C.hx C.hb dX0_inputs_0 (by decide) ?_
  refine lv_istore_n (lv' := [(1, .int (0 : Int32)), (0, .ref (ad 1))]) C.hx C.hb dX0_inputs_1 rfl hl (by decide) rfl (fun ls hl => ?_)
  refine lv_iconst (v := (0 : Int32)) C.hx C.hb dX0_inputs_2 (by decide) ?_
  refine lv_istore_n (lv' := [(2, .int (0 : Int32)), (1, .int (0 : Int32)), (0, .ref (ad 1))]) C.hx C.hb dX0_inputs_3 rfl hl (by decide) rfl (fun ls hl => ?_)
  exact tX0_inputs_4 C  fuel hB (lv_sub hl [2, 1, 0] rfl) h
set_option maxHeartbeats 4000000 in
set_option maxRecDepth 100000 in
theorem cnX0_inputs (l : Launch) (D : va_G) (cI cJ cV : ClassId) (ad : Nat → Nat) (sz : Nat)  {I : TI} {J : TJ} {z : Int32 × SS}  (h : fX0_inputs I J = some z) : Met l yX0_inputs (wsm yX0_inputs cX0_inputs 3 (some .int)) (rmd 0) (va_Pc [.ref (ad 1)] (gPre D (xw cI cJ cV ad) (xt cI cJ cV) sz I J)) (gQi D (xw cI cJ cV ad) (xt cI cJ cV) (xL ad) sz z) 0 0 (gA (xL ad) sz) :=
  g_met (by decide) xw_WL (fun p e s m below meth c hsz C hB ls hl => by subst hsz; exact tX0_inputs C hB  hl h) (Nat.le_of_ble_eq_true rfl)
theorem hdX0_workedOnes : yX0_workedOnes.cls = "BitTuner$Program" ∧ yX0_workedOnes.cls ≠ "java/lang/invoke/MethodHandle" ∧ yX0_workedOnes.cls ≠ "java/lang/invoke/VarHandle" ∧ (parseMethodDescriptor yX0_workedOnes.desc).map (fun d => d.parameters.length) = some 0 := by decide +kernel
def fX0_workedOnes_4  : Nat → Int32 → Int32 → TI → TJ → Option (Int32 × SS)
  | 0, _, _, _, _ => none
  | n + 1, v1, v2, I, J =>
    if (I 12 0) ≤ v2 then
    some (v1, I, J)
    else
    if okx v2 then
    bnd (fX2_isGiven v2.toNatClampNeg I J) (fun q_3 I_3 J_3 =>
    if q_3 = 0 then
    fX0_workedOnes_4 n (v1 + (1 : Int32)) (v2 + (1 : Int32)) I_3 J_3
    else
    fX0_workedOnes_4 n v1 (v2 + (1 : Int32)) I_3 J_3)
    else none
theorem eX0_workedOnes_4  (n : Nat) (v1 : Int32) (v2 : Int32) (I : TI) (J : TJ) : fX0_workedOnes_4 (n + 1) v1 v2 I J = (
    if (I 12 0) ≤ v2 then
    some (v1, I, J)
    else
    if okx v2 then
    bnd (fX2_isGiven v2.toNatClampNeg I J) (fun q_3 I_3 J_3 =>
    if q_3 = 0 then
    fX0_workedOnes_4 n (v1 + (1 : Int32)) (v2 + (1 : Int32)) I_3 J_3
    else
    fX0_workedOnes_4 n v1 (v2 + (1 : Int32)) I_3 J_3)
    else none) := rfl
set_option maxHeartbeats 4000000 in
set_option maxRecDepth 100000 in
theorem tX0_workedOnes_4 {p : Program} {l : Launch} {e : Env} {s : State} {m : MethodId} {args : Array Value} {below : List Frame} {meth : Method} {c : Code} (C : KX p s m args meth c "BitTuner$Program" cX0_workedOnes 3 (some .int)) {D : va_G} {cI cJ cV : ClassId} {ad : Nat → Nat} {z : Int32 × SS}   : ∀ (n : Nat), ∀ {H : Heap} {locs : List Loc} {ls : Array Slot} {I : TI} {J : TJ} {v1 : Int32} {v2 : Int32}, XB D cI cJ cV ad s H locs I J → lv_has ls 3 [(0, .ref (ad 1)), (1, .int v1), (2, .int v2)] → fX0_workedOnes_4 n v1 v2 I J = some z → W p l e (rmd 1) s m args below meth c H locs 0 0 (MQ below (gQi D (xw cI cJ cV ad) (xt cI cJ cV) (xL ad) s.heap.size z) args s 0 0 (gA (xL ad) s.heap.size)) (F0 m 4 ls []) := by
  intro n
  induction n with
  | zero =>
    intro H locs ls I J v1 v2 hB  hl h
    have h : (none : Option (Int32 × SS)) = some z := h
    cases h
  | succ n ih =>
    intro H locs ls I J v1 v2 hB  hl h
    replace h := (eX0_workedOnes_4 n v1 v2 I J).symm.trans h
    refine lv_iload_n C.hx C.hb dX0_workedOnes_4 rfl (lv_at hl 2 rfl) ?_
    refine lv_aload_n C.hx C.hb dX0_workedOnes_5 rfl (lv_at hl 0 rfl) ?_
    refine xg_p_many C hB tw_128 dX0_workedOnes_6 ?_
    refine lv_icmp_ge (tgt := 33) C.hx C.hb dX0_workedOnes_9 (by decide) (fun c_1 => ?_) (fun c_1 => ?_)
    · replace h := (if_pos c_1).symm.trans h
      refine lv_iload_n C.hx C.hb dX0_workedOnes_33 rfl (lv_at hl 1 rfl) ?_
      exact g_iret C hB h dX0_workedOnes_34
    · replace h := (if_neg c_1).symm.trans h
      refine lv_aload_n C.hx C.hb dX0_workedOnes_12 rfl (lv_at hl 0 rfl) ?_
      refine xg_p_values C hB tw_124 dX0_workedOnes_13 ?_
      refine lv_iload_n C.hx C.hb dX0_workedOnes_16 rfl (lv_at hl 2 rfl) ?_
      obtain ⟨c_2, h⟩ := ite_ck h
      refine xa_values_ld C hB c_2 dX0_workedOnes_17 ?_
      obtain ⟨q_3, I_3, J_3, hc_3, h⟩ := bnd_some h
      refine g_goi hB (g_runV C hB [] [] (cnX2_isGiven l D cI cJ cV ad H.size c_2.2  hc_3) (12 + v2.toNatClampNeg) (xw_val c_2.2) rfl tw_287 tw_288 tw_289 tw_35 tw_290 ⟨rfl, rfl⟩ hdX2_isGiven ⟨Nat.le_of_ble_eq_true rfl, Nat.le_of_ble_eq_true rfl⟩ hl.1 rfl (Nat.le_of_ble_eq_true rfl) dX0_workedOnes_18) (fun H locs hB => ?_)
      refine lv_if_ne (tgt := 27) C.hx C.hb dX0_workedOnes_21 (by decide) (fun c_4 => ?_) (fun c_4 => ?_)
      · replace h := (if_neg c_4).symm.trans h
        refine lv_iinc (v := v2 + (1 : Int32)) (lv' := [(2, .int (v2 + (1 : Int32))), (0, .ref (ad 1)), (1, .int v1)]) C.hx C.hb dX0_workedOnes_27 hl (k := 2) rfl rfl (by decide) rfl (fun ls hl => ?_)
        refine lv_goto (tgt := 4) C.hx C.hb dX0_workedOnes_30 (by decide) ?_
        exact ih hB (lv_sub hl [1, 2, 0] rfl) h
      · replace h := (if_pos c_4).symm.trans h
        refine lv_iinc (v := v1 + (1 : Int32)) (lv' := [(1, .int (v1 + (1 : Int32))), (0, .ref (ad 1)), (2, .int v2)]) C.hx C.hb dX0_workedOnes_24 hl (k := 1) rfl rfl (by decide) rfl (fun ls hl => ?_)
        refine lv_iinc (v := v2 + (1 : Int32)) (lv' := [(2, .int (v2 + (1 : Int32))), (1, .int (v1 + (1 : Int32))), (0, .ref (ad 1))]) C.hx C.hb dX0_workedOnes_27 hl (k := 2) rfl rfl (by decide) rfl (fun ls hl => ?_)
        refine lv_goto (tgt := 4) C.hx C.hb dX0_workedOnes_30 (by decide) ?_
        exact ih hB (lv_sub hl [2, 1, 0] rfl) h
def fX0_workedOnes   (I : TI) (J : TJ) : Option (Int32 × SS) :=
  fX0_workedOnes_4 fuel (0 : Int32) (0 : Int32) I J
set_option maxHeartbeats 4000000 in
set_option maxRecDepth 100000 in
theorem tX0_workedOnes {p : Program} {l : Launch} {e : Env} {s : State} {m : MethodId} {args : Array Value} {below : List Frame} {meth : Method} {c : Code} (C : KX p s m args meth c "BitTuner$Program" cX0_workedOnes 3 (some .int)) {D : va_G} {cI cJ cV : ClassId} {ad : Nat → Nat} {z : Int32 × SS}   {H : Heap} {locs : List Loc} {ls : Array Slot} {I : TI} {J : TJ}  (hB : XB D cI cJ cV ad s H locs I J)  (hl : lv_has ls 3 [(0, .ref (ad 1))]) (h : fX0_workedOnes I J = some z) : W p l e (rmd 1) s m args below meth c H locs 0 0 (MQ below (gQi D (xw cI cJ cV ad) (xt cI cJ cV) (xL ad) s.heap.size z) args s 0 0 (gA (xL ad) s.heap.size)) (F0 m 0 ls []) := by
  unfold fX0_workedOnes at h
  refine lv_iconst (v := (0 : Int32)) C.hx C.hb dX0_workedOnes_0 (by decide) ?_
  refine lv_istore_n (lv' := [(1, .int (0 : Int32)), (0, .ref (ad 1))]) C.hx C.hb dX0_workedOnes_1 rfl hl (by decide) rfl (fun ls hl => ?_)
  refine lv_iconst (v := (0 : Int32)) C.hx C.hb dX0_workedOnes_2 (by decide) ?_
  refine lv_istore_n (lv' := [(2, .int (0 : Int32)), (1, .int (0 : Int32)), (0, .ref (ad 1))]) C.hx C.hb dX0_workedOnes_3 rfl hl (by decide) rfl (fun ls hl => ?_)
  exact tX0_workedOnes_4 C  fuel hB (lv_sub hl [2, 1, 0] rfl) h
set_option maxHeartbeats 4000000 in
set_option maxRecDepth 100000 in
theorem cnX0_workedOnes (l : Launch) (D : va_G) (cI cJ cV : ClassId) (ad : Nat → Nat) (sz : Nat)  {I : TI} {J : TJ} {z : Int32 × SS}  (h : fX0_workedOnes I J = some z) : Met l yX0_workedOnes (wsm yX0_workedOnes cX0_workedOnes 3 (some .int)) (rmd 1) (va_Pc [.ref (ad 1)] (gPre D (xw cI cJ cV ad) (xt cI cJ cV) sz I J)) (gQi D (xw cI cJ cV ad) (xt cI cJ cV) (xL ad) sz z) 0 0 (gA (xL ad) sz) :=
  g_met (by decide) xw_WL (fun p e s m below meth c hsz C hB ls hl => by subst hsz; exact tX0_workedOnes C hB  hl h) (Nat.le_of_ble_eq_true rfl)
theorem hdX0_priceInAll : yX0_priceInAll.cls = "BitTuner$Program" ∧ yX0_priceInAll.cls ≠ "java/lang/invoke/MethodHandle" ∧ yX0_priceInAll.cls ≠ "java/lang/invoke/VarHandle" ∧ (parseMethodDescriptor yX0_priceInAll.desc).map (fun d => d.parameters.length) = some 0 := by decide +kernel
def fX0_priceInAll_4  : Nat → Int32 → Int32 → TI → TJ → Option (Int32 × SS)
  | 0, _, _, _, _ => none
  | n + 1, v1, v2, I, J =>
    if (I 12 0) ≤ v2 then
    some (v1, I, J)
    else
    if okx v2 then
    bnd (fX2_isGiven v2.toNatClampNeg I J) (fun q_3 I_3 J_3 =>
    if q_3 = 0 then
    fX0_priceInAll_4 n (v1 + ((I_3 6 v2.toNatClampNeg) * (I_3 4 v2.toNatClampNeg))) (v2 + (1 : Int32)) I_3 J_3
    else
    fX0_priceInAll_4 n v1 (v2 + (1 : Int32)) I_3 J_3)
    else none
theorem eX0_priceInAll_4  (n : Nat) (v1 : Int32) (v2 : Int32) (I : TI) (J : TJ) : fX0_priceInAll_4 (n + 1) v1 v2 I J = (
    if (I 12 0) ≤ v2 then
    some (v1, I, J)
    else
    if okx v2 then
    bnd (fX2_isGiven v2.toNatClampNeg I J) (fun q_3 I_3 J_3 =>
    if q_3 = 0 then
    fX0_priceInAll_4 n (v1 + ((I_3 6 v2.toNatClampNeg) * (I_3 4 v2.toNatClampNeg))) (v2 + (1 : Int32)) I_3 J_3
    else
    fX0_priceInAll_4 n v1 (v2 + (1 : Int32)) I_3 J_3)
    else none) := rfl
set_option maxHeartbeats 4000000 in
set_option maxRecDepth 100000 in
theorem tX0_priceInAll_4 {p : Program} {l : Launch} {e : Env} {s : State} {m : MethodId} {args : Array Value} {below : List Frame} {meth : Method} {c : Code} (C : KX p s m args meth c "BitTuner$Program" cX0_priceInAll 3 (some .int)) {D : va_G} {cI cJ cV : ClassId} {ad : Nat → Nat} {z : Int32 × SS}   : ∀ (n : Nat), ∀ {H : Heap} {locs : List Loc} {ls : Array Slot} {I : TI} {J : TJ} {v1 : Int32} {v2 : Int32}, XB D cI cJ cV ad s H locs I J → lv_has ls 3 [(0, .ref (ad 1)), (1, .int v1), (2, .int v2)] → fX0_priceInAll_4 n v1 v2 I J = some z → W p l e (rmd 1) s m args below meth c H locs 0 0 (MQ below (gQi D (xw cI cJ cV ad) (xt cI cJ cV) (xL ad) s.heap.size z) args s 0 0 (gA (xL ad) s.heap.size)) (F0 m 4 ls []) := by
  intro n
  induction n with
  | zero =>
    intro H locs ls I J v1 v2 hB  hl h
    have h : (none : Option (Int32 × SS)) = some z := h
    cases h
  | succ n ih =>
    intro H locs ls I J v1 v2 hB  hl h
    replace h := (eX0_priceInAll_4 n v1 v2 I J).symm.trans h
    refine lv_iload_n C.hx C.hb dX0_priceInAll_4 rfl (lv_at hl 2 rfl) ?_
    refine lv_aload_n C.hx C.hb dX0_priceInAll_5 rfl (lv_at hl 0 rfl) ?_
    refine xg_p_many C hB tw_128 dX0_priceInAll_6 ?_
    refine lv_icmp_ge (tgt := 52) C.hx C.hb dX0_priceInAll_9 (by decide) (fun c_1 => ?_) (fun c_1 => ?_)
    · replace h := (if_pos c_1).symm.trans h
      refine lv_iload_n C.hx C.hb dX0_priceInAll_52 rfl (lv_at hl 1 rfl) ?_
      exact g_iret C hB h dX0_priceInAll_53
    · replace h := (if_neg c_1).symm.trans h
      refine lv_aload_n C.hx C.hb dX0_priceInAll_12 rfl (lv_at hl 0 rfl) ?_
      refine xg_p_values C hB tw_124 dX0_priceInAll_13 ?_
      refine lv_iload_n C.hx C.hb dX0_priceInAll_16 rfl (lv_at hl 2 rfl) ?_
      obtain ⟨c_2, h⟩ := ite_ck h
      refine xa_values_ld C hB c_2 dX0_priceInAll_17 ?_
      obtain ⟨q_3, I_3, J_3, hc_3, h⟩ := bnd_some h
      refine g_goi hB (g_runV C hB [] [] (cnX2_isGiven l D cI cJ cV ad H.size c_2.2  hc_3) (12 + v2.toNatClampNeg) (xw_val c_2.2) rfl tw_287 tw_288 tw_289 tw_35 tw_290 ⟨rfl, rfl⟩ hdX2_isGiven ⟨Nat.le_of_ble_eq_true rfl, Nat.le_of_ble_eq_true rfl⟩ hl.1 rfl (Nat.le_of_ble_eq_true rfl) dX0_priceInAll_18) (fun H locs hB => ?_)
      refine lv_if_ne (tgt := 46) C.hx C.hb dX0_priceInAll_21 (by decide) (fun c_4 => ?_) (fun c_4 => ?_)
      · replace h := (if_neg c_4).symm.trans h
        refine lv_iinc (v := v2 + (1 : Int32)) (lv' := [(2, .int (v2 + (1 : Int32))), (0, .ref (ad 1)), (1, .int v1)]) C.hx C.hb dX0_priceInAll_46 hl (k := 2) rfl rfl (by decide) rfl (fun ls hl => ?_)
        refine lv_goto (tgt := 4) C.hx C.hb dX0_priceInAll_49 (by decide) ?_
        exact ih hB (lv_sub hl [1, 2, 0] rfl) h
      · replace h := (if_pos c_4).symm.trans h
        refine lv_iload_n C.hx C.hb dX0_priceInAll_24 rfl (lv_at hl 1 rfl) ?_
        refine lv_aload_n C.hx C.hb dX0_priceInAll_25 rfl (lv_at hl 0 rfl) ?_
        refine xg_p_values C hB tw_124 dX0_priceInAll_26 ?_
        refine lv_iload_n C.hx C.hb dX0_priceInAll_29 rfl (lv_at hl 2 rfl) ?_
        refine xa_values_ld C hB c_2 dX0_priceInAll_30 ?_
        refine xg_v_weight C hB c_2.2 tw_88 dX0_priceInAll_31 ?_
        refine lv_aload_n C.hx C.hb dX0_priceInAll_34 rfl (lv_at hl 0 rfl) ?_
        refine xg_p_values C hB tw_124 dX0_priceInAll_35 ?_
        refine lv_iload_n C.hx C.hb dX0_priceInAll_38 rfl (lv_at hl 2 rfl) ?_
        refine xa_values_ld C hB c_2 dX0_priceInAll_39 ?_
        refine xg_v_bits C hB c_2.2 tw_80 dX0_priceInAll_40 ?_
        refine lv_imul C.hx C.hb dX0_priceInAll_43 ?_
        refine lv_iadd C.hx C.hb dX0_priceInAll_44 ?_
        refine lv_istore_n (lv' := [(1, .int (v1 + ((I_3 6 v2.toNatClampNeg) * (I_3 4 v2.toNatClampNeg)))), (0, .ref (ad 1)), (2, .int v2)]) C.hx C.hb dX0_priceInAll_45 rfl hl (by decide) rfl (fun ls hl => ?_)
        refine lv_iinc (v := v2 + (1 : Int32)) (lv' := [(2, .int (v2 + (1 : Int32))), (1, .int (v1 + ((I_3 6 v2.toNatClampNeg) * (I_3 4 v2.toNatClampNeg)))), (0, .ref (ad 1))]) C.hx C.hb dX0_priceInAll_46 hl (k := 2) rfl rfl (by decide) rfl (fun ls hl => ?_)
        refine lv_goto (tgt := 4) C.hx C.hb dX0_priceInAll_49 (by decide) ?_
        exact ih hB (lv_sub hl [2, 1, 0] rfl) h
def fX0_priceInAll   (I : TI) (J : TJ) : Option (Int32 × SS) :=
  fX0_priceInAll_4 fuel (0 : Int32) (0 : Int32) I J
set_option maxHeartbeats 4000000 in
set_option maxRecDepth 100000 in
theorem tX0_priceInAll {p : Program} {l : Launch} {e : Env} {s : State} {m : MethodId} {args : Array Value} {below : List Frame} {meth : Method} {c : Code} (C : KX p s m args meth c "BitTuner$Program" cX0_priceInAll 3 (some .int)) {D : va_G} {cI cJ cV : ClassId} {ad : Nat → Nat} {z : Int32 × SS}   {H : Heap} {locs : List Loc} {ls : Array Slot} {I : TI} {J : TJ}  (hB : XB D cI cJ cV ad s H locs I J)  (hl : lv_has ls 3 [(0, .ref (ad 1))]) (h : fX0_priceInAll I J = some z) : W p l e (rmd 1) s m args below meth c H locs 0 0 (MQ below (gQi D (xw cI cJ cV ad) (xt cI cJ cV) (xL ad) s.heap.size z) args s 0 0 (gA (xL ad) s.heap.size)) (F0 m 0 ls []) := by
  unfold fX0_priceInAll at h
  refine lv_iconst (v := (0 : Int32)) C.hx C.hb dX0_priceInAll_0 (by decide) ?_
  refine lv_istore_n (lv' := [(1, .int (0 : Int32)), (0, .ref (ad 1))]) C.hx C.hb dX0_priceInAll_1 rfl hl (by decide) rfl (fun ls hl => ?_)
  refine lv_iconst (v := (0 : Int32)) C.hx C.hb dX0_priceInAll_2 (by decide) ?_
  refine lv_istore_n (lv' := [(2, .int (0 : Int32)), (1, .int (0 : Int32)), (0, .ref (ad 1))]) C.hx C.hb dX0_priceInAll_3 rfl hl (by decide) rfl (fun ls hl => ?_)
  exact tX0_priceInAll_4 C  fuel hB (lv_sub hl [2, 1, 0] rfl) h
set_option maxHeartbeats 4000000 in
set_option maxRecDepth 100000 in
theorem cnX0_priceInAll (l : Launch) (D : va_G) (cI cJ cV : ClassId) (ad : Nat → Nat) (sz : Nat)  {I : TI} {J : TJ} {z : Int32 × SS}  (h : fX0_priceInAll I J = some z) : Met l yX0_priceInAll (wsm yX0_priceInAll cX0_priceInAll 3 (some .int)) (rmd 1) (va_Pc [.ref (ad 1)] (gPre D (xw cI cJ cV ad) (xt cI cJ cV) sz I J)) (gQi D (xw cI cJ cV ad) (xt cI cJ cV) (xL ad) sz z) 0 0 (gA (xL ad) sz) :=
  g_met (by decide) xw_WL (fun p e s m below meth c hsz C hB ls hl => by subst hsz; exact tX0_priceInAll C hB  hl h) (Nat.le_of_ble_eq_true rfl)
end
