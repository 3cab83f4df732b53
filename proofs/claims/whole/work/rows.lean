section
-- ===== PART A: goes FIRST, ahead of the names: the tables' words, and 'selects' of the private methods out of them =====
/-- a private method of a class that the tables say can be made, by its rows of tables_1 -/
def lw_okq (q : MethodName × Nat) : Prop := (q.1.cls ≠ "java/lang/invoke/MethodHandle" ∧ q.1.cls ≠ "java/lang/invoke/VarHandle") ∧ Cond.instantiable q.1.cls q.2 ∈ tables_1 ∧ Cond.privateMethod q.1 ∈ tables_1 ∧ Cond.instanceMethod q.1 ∈ tables_1
theorem lw_p0 : lw_okq (⟨"MetAngles", "keep", "(JJ)I"⟩, 5) := ⟨⟨by decide +kernel, by decide +kernel⟩, List.mem_of_getElem? (i := 8) (by decide +kernel), List.mem_of_getElem? (i := 42) (by decide +kernel), List.mem_of_getElem? (i := 43) (by decide +kernel)⟩
theorem lw_p1 : lw_okq (⟨"MetAngles", "turnAt", "(I)LMetAngles$Turn;"⟩, 5) := ⟨⟨by decide +kernel, by decide +kernel⟩, List.mem_of_getElem? (i := 8) (by decide +kernel), List.mem_of_getElem? (i := 97) (by decide +kernel), List.mem_of_getElem? (i := 98) (by decide +kernel)⟩
theorem lw_p2 : lw_okq (⟨"MetAngles", "justOfLength", "(I)I"⟩, 5) := ⟨⟨by decide +kernel, by decide +kernel⟩, List.mem_of_getElem? (i := 8) (by decide +kernel), List.mem_of_getElem? (i := 124) (by decide +kernel), List.mem_of_getElem? (i := 125) (by decide +kernel)⟩
theorem lw_p3 : lw_okq (⟨"MetAngles", "writeInner", "(LMetAngles$Turn;)V"⟩, 5) := ⟨⟨by decide +kernel, by decide +kernel⟩, List.mem_of_getElem? (i := 8) (by decide +kernel), List.mem_of_getElem? (i := 148) (by decide +kernel), List.mem_of_getElem? (i := 149) (by decide +kernel)⟩
theorem lw_p4 : lw_okq (⟨"MetAngles", "nextInAddress", "(II)I"⟩, 5) := ⟨⟨by decide +kernel, by decide +kernel⟩, List.mem_of_getElem? (i := 8) (by decide +kernel), List.mem_of_getElem? (i := 153) (by decide +kernel), List.mem_of_getElem? (i := 154) (by decide +kernel)⟩
theorem lw_p5 : lw_okq (⟨"MetAngles", "agreeInRings", "(LMetAngles$Turn;LMetAngles$Turn;LMetAngles$Turn;I)Z"⟩, 5) := ⟨⟨by decide +kernel, by decide +kernel⟩, List.mem_of_getElem? (i := 8) (by decide +kernel), List.mem_of_getElem? (i := 181) (by decide +kernel), List.mem_of_getElem? (i := 182) (by decide +kernel)⟩
theorem lw_p6 : lw_okq (⟨"MetAngles", "known", "()LMetAngles$Partners;"⟩, 5) := ⟨⟨by decide +kernel, by decide +kernel⟩, List.mem_of_getElem? (i := 8) (by decide +kernel), List.mem_of_getElem? (i := 192) (by decide +kernel), List.mem_of_getElem? (i := 193) (by decide +kernel)⟩
theorem lw_p7 : lw_okq (⟨"MetAngles$Partners", "join", "(II)V"⟩, 4) := ⟨⟨by decide +kernel, by decide +kernel⟩, List.mem_of_getElem? (i := 196) (by decide +kernel), List.mem_of_getElem? (i := 202) (by decide +kernel), List.mem_of_getElem? (i := 203) (by decide +kernel)⟩
theorem lw_p8 : lw_okq (⟨"MetAngles$Partners", "joinFree", "([ZI)V"⟩, 4) := ⟨⟨by decide +kernel, by decide +kernel⟩, List.mem_of_getElem? (i := 196) (by decide +kernel), List.mem_of_getElem? (i := 211) (by decide +kernel), List.mem_of_getElem? (i := 212) (by decide +kernel)⟩
theorem lw_p9 : lw_okq (⟨"MetAngles$Partners", "crossesNone", "(II)Z"⟩, 4) := ⟨⟨by decide +kernel, by decide +kernel⟩, List.mem_of_getElem? (i := 196) (by decide +kernel), List.mem_of_getElem? (i := 220) (by decide +kernel), List.mem_of_getElem? (i := 221) (by decide +kernel)⟩
theorem lw_p10 : lw_okq (⟨"MetAngles$Partners", "isMade", "(I)Z"⟩, 4) := ⟨⟨by decide +kernel, by decide +kernel⟩, List.mem_of_getElem? (i := 196) (by decide +kernel), List.mem_of_getElem? (i := 256) (by decide +kernel), List.mem_of_getElem? (i := 257) (by decide +kernel)⟩
theorem lw_p11 : lw_okq (⟨"MetAngles", "pairOf", "(LMetAngles$Turn;)I"⟩, 5) := ⟨⟨by decide +kernel, by decide +kernel⟩, List.mem_of_getElem? (i := 8) (by decide +kernel), List.mem_of_getElem? (i := 264) (by decide +kernel), List.mem_of_getElem? (i := 265) (by decide +kernel)⟩
theorem lw_p12 : lw_okq (⟨"MetAngles", "pairForPutting", "(LMetAngles$Turn;LMetAngles$Turn;)I"⟩, 5) := ⟨⟨by decide +kernel, by decide +kernel⟩, List.mem_of_getElem? (i := 8) (by decide +kernel), List.mem_of_getElem? (i := 336) (by decide +kernel), List.mem_of_getElem? (i := 337) (by decide +kernel)⟩
theorem lw_p13 : lw_okq (⟨"MetAngles", "digitsTakenOut", "(IILMetAngles$Turn;I)J"⟩, 5) := ⟨⟨by decide +kernel, by decide +kernel⟩, List.mem_of_getElem? (i := 8) (by decide +kernel), List.mem_of_getElem? (i := 344) (by decide +kernel), List.mem_of_getElem? (i := 345) (by decide +kernel)⟩
theorem lw_p14 : lw_okq (⟨"MetAngles", "readAngle", "(LMetAngles$Sheet;J)I"⟩, 5) := ⟨⟨by decide +kernel, by decide +kernel⟩, List.mem_of_getElem? (i := 8) (by decide +kernel), List.mem_of_getElem? (i := 388) (by decide +kernel), List.mem_of_getElem? (i := 389) (by decide +kernel)⟩
theorem lw_p15 : lw_okq (⟨"MetAngles", "amountThatComesBack", "()I"⟩, 5) := ⟨⟨by decide +kernel, by decide +kernel⟩, List.mem_of_getElem? (i := 8) (by decide +kernel), List.mem_of_getElem? (i := 397) (by decide +kernel), List.mem_of_getElem? (i := 398) (by decide +kernel)⟩
def lw_privs_1 : List (MethodName × Nat) := [(⟨"MetAngles", "keep", "(JJ)I"⟩, 5), (⟨"MetAngles", "turnAt", "(I)LMetAngles$Turn;"⟩, 5), (⟨"MetAngles", "justOfLength", "(I)I"⟩, 5), (⟨"MetAngles", "writeInner", "(LMetAngles$Turn;)V"⟩, 5), (⟨"MetAngles", "nextInAddress", "(II)I"⟩, 5), (⟨"MetAngles", "agreeInRings", "(LMetAngles$Turn;LMetAngles$Turn;LMetAngles$Turn;I)Z"⟩, 5), (⟨"MetAngles", "known", "()LMetAngles$Partners;"⟩, 5), (⟨"MetAngles$Partners", "join", "(II)V"⟩, 4), (⟨"MetAngles$Partners", "joinFree", "([ZI)V"⟩, 4), (⟨"MetAngles$Partners", "crossesNone", "(II)Z"⟩, 4), (⟨"MetAngles$Partners", "isMade", "(I)Z"⟩, 4), (⟨"MetAngles", "pairOf", "(LMetAngles$Turn;)I"⟩, 5), (⟨"MetAngles", "pairForPutting", "(LMetAngles$Turn;LMetAngles$Turn;)I"⟩, 5), (⟨"MetAngles", "digitsTakenOut", "(IILMetAngles$Turn;I)J"⟩, 5), (⟨"MetAngles", "readAngle", "(LMetAngles$Sheet;J)I"⟩, 5), (⟨"MetAngles", "amountThatComesBack", "()I"⟩, 5)]
theorem lw_r1 : ∀ q ∈ lw_privs_1, lw_okq q := List.forall_mem_cons.mpr ⟨lw_p0, List.forall_mem_cons.mpr ⟨lw_p1, List.forall_mem_cons.mpr ⟨lw_p2, List.forall_mem_cons.mpr ⟨lw_p3, List.forall_mem_cons.mpr ⟨lw_p4, List.forall_mem_cons.mpr ⟨lw_p5, List.forall_mem_cons.mpr ⟨lw_p6, List.forall_mem_cons.mpr ⟨lw_p7, List.forall_mem_cons.mpr ⟨lw_p8, List.forall_mem_cons.mpr ⟨lw_p9, List.forall_mem_cons.mpr ⟨lw_p10, List.forall_mem_cons.mpr ⟨lw_p11, List.forall_mem_cons.mpr ⟨lw_p12, List.forall_mem_cons.mpr ⟨lw_p13, List.forall_mem_cons.mpr ⟨lw_p14, List.forall_mem_cons.mpr ⟨lw_p15, fun _ h => absurd h List.not_mem_nil⟩⟩⟩⟩⟩⟩⟩⟩⟩⟩⟩⟩⟩⟩⟩⟩
theorem lw_p16 : lw_okq (⟨"MetAngles", "amountOfUnlike", "()I"⟩, 5) := ⟨⟨by decide +kernel, by decide +kernel⟩, List.mem_of_getElem? (i := 8) (by decide +kernel), List.mem_of_getElem? (i := 401) (by decide +kernel), List.mem_of_getElem? (i := 402) (by decide +kernel)⟩
theorem lw_p17 : lw_okq (⟨"MetAngles", "cameEarlier", "(I)Z"⟩, 5) := ⟨⟨by decide +kernel, by decide +kernel⟩, List.mem_of_getElem? (i := 8) (by decide +kernel), List.mem_of_getElem? (i := 405) (by decide +kernel), List.mem_of_getElem? (i := 406) (by decide +kernel)⟩
theorem lw_p18 : lw_okq (⟨"MetAnglesModel", "findPairs", "()V"⟩, 11) := ⟨⟨by decide +kernel, by decide +kernel⟩, List.mem_of_getElem? (i := 409) (by decide +kernel), List.mem_of_getElem? (i := 415) (by decide +kernel), List.mem_of_getElem? (i := 416) (by decide +kernel)⟩
theorem lw_p19 : lw_okq (⟨"MetAnglesModel", "pairs0", "(IJJ)V"⟩, 11) := ⟨⟨by decide +kernel, by decide +kernel⟩, List.mem_of_getElem? (i := 409) (by decide +kernel), List.mem_of_getElem? (i := 419) (by decide +kernel), List.mem_of_getElem? (i := 420) (by decide +kernel)⟩
theorem lw_p20 : lw_okq (⟨"MetAnglesModel", "crosses", "(IJJ)Z"⟩, 11) := ⟨⟨by decide +kernel, by decide +kernel⟩, List.mem_of_getElem? (i := 409) (by decide +kernel), List.mem_of_getElem? (i := 439) (by decide +kernel), List.mem_of_getElem? (i := 440) (by decide +kernel)⟩
theorem lw_p21 : lw_okq (⟨"MetAnglesModel", "comes", "(JJ)I"⟩, 11) := ⟨⟨by decide +kernel, by decide +kernel⟩, List.mem_of_getElem? (i := 409) (by decide +kernel), List.mem_of_getElem? (i := 485) (by decide +kernel), List.mem_of_getElem? (i := 486) (by decide +kernel)⟩
theorem lw_p22 : lw_okq (⟨"MetAnglesModel", "isAngle", "(I)Z"⟩, 11) := ⟨⟨by decide +kernel, by decide +kernel⟩, List.mem_of_getElem? (i := 409) (by decide +kernel), List.mem_of_getElem? (i := 497) (by decide +kernel), List.mem_of_getElem? (i := 498) (by decide +kernel)⟩
theorem lw_p23 : lw_okq (⟨"MetAnglesModel", "letterOf", "(III)I"⟩, 11) := ⟨⟨by decide +kernel, by decide +kernel⟩, List.mem_of_getElem? (i := 409) (by decide +kernel), List.mem_of_getElem? (i := 525) (by decide +kernel), List.mem_of_getElem? (i := 526) (by decide +kernel)⟩
theorem lw_p24 : lw_okq (⟨"MetAnglesModel", "isBack", "(I)Z"⟩, 11) := ⟨⟨by decide +kernel, by decide +kernel⟩, List.mem_of_getElem? (i := 409) (by decide +kernel), List.mem_of_getElem? (i := 536) (by decide +kernel), List.mem_of_getElem? (i := 537) (by decide +kernel)⟩
theorem lw_p25 : lw_okq (⟨"MetAnglesModel", "isSame", "(II)Z"⟩, 11) := ⟨⟨by decide +kernel, by decide +kernel⟩, List.mem_of_getElem? (i := 409) (by decide +kernel), List.mem_of_getElem? (i := 544) (by decide +kernel), List.mem_of_getElem? (i := 545) (by decide +kernel)⟩
theorem lw_p26 : lw_okq (⟨"MetAnglesModel", "liesBetween", "(III)Z"⟩, 11) := ⟨⟨by decide +kernel, by decide +kernel⟩, List.mem_of_getElem? (i := 409) (by decide +kernel), List.mem_of_getElem? (i := 548) (by decide +kernel), List.mem_of_getElem? (i := 549) (by decide +kernel)⟩
theorem lw_p27 : lw_okq (⟨"MetAnglesModel", "isLess", "(II)Z"⟩, 11) := ⟨⟨by decide +kernel, by decide +kernel⟩, List.mem_of_getElem? (i := 409) (by decide +kernel), List.mem_of_getElem? (i := 552) (by decide +kernel), List.mem_of_getElem? (i := 553) (by decide +kernel)⟩
theorem lw_p28 : lw_okq (⟨"MetAnglesModel", "firstOf", "(I)I"⟩, 11) := ⟨⟨by decide +kernel, by decide +kernel⟩, List.mem_of_getElem? (i := 409) (by decide +kernel), List.mem_of_getElem? (i := 570) (by decide +kernel), List.mem_of_getElem? (i := 571) (by decide +kernel)⟩
theorem lw_p29 : lw_okq (⟨"MetAnglesModel", "pairOf", "(I)I"⟩, 11) := ⟨⟨by decide +kernel, by decide +kernel⟩, List.mem_of_getElem? (i := 409) (by decide +kernel), List.mem_of_getElem? (i := 578) (by decide +kernel), List.mem_of_getElem? (i := 579) (by decide +kernel)⟩
theorem lw_p30 : lw_okq (⟨"MetAnglesModel", "holdsAngle", "(II)Z"⟩, 11) := ⟨⟨by decide +kernel, by decide +kernel⟩, List.mem_of_getElem? (i := 409) (by decide +kernel), List.mem_of_getElem? (i := 586) (by decide +kernel), List.mem_of_getElem? (i := 587) (by decide +kernel)⟩
theorem lw_p31 : lw_okq (⟨"MetAnglesModel", "isOrHolds", "(II)Z"⟩, 11) := ⟨⟨by decide +kernel, by decide +kernel⟩, List.mem_of_getElem? (i := 409) (by decide +kernel), List.mem_of_getElem? (i := 594) (by decide +kernel), List.mem_of_getElem? (i := 595) (by decide +kernel)⟩
def lw_privs_2 : List (MethodName × Nat) := [(⟨"MetAngles", "amountOfUnlike", "()I"⟩, 5), (⟨"MetAngles", "cameEarlier", "(I)Z"⟩, 5), (⟨"MetAnglesModel", "findPairs", "()V"⟩, 11), (⟨"MetAnglesModel", "pairs0", "(IJJ)V"⟩, 11), (⟨"MetAnglesModel", "crosses", "(IJJ)Z"⟩, 11), (⟨"MetAnglesModel", "comes", "(JJ)I"⟩, 11), (⟨"MetAnglesModel", "isAngle", "(I)Z"⟩, 11), (⟨"MetAnglesModel", "letterOf", "(III)I"⟩, 11), (⟨"MetAnglesModel", "isBack", "(I)Z"⟩, 11), (⟨"MetAnglesModel", "isSame", "(II)Z"⟩, 11), (⟨"MetAnglesModel", "liesBetween", "(III)Z"⟩, 11), (⟨"MetAnglesModel", "isLess", "(II)Z"⟩, 11), (⟨"MetAnglesModel", "firstOf", "(I)I"⟩, 11), (⟨"MetAnglesModel", "pairOf", "(I)I"⟩, 11), (⟨"MetAnglesModel", "holdsAngle", "(II)Z"⟩, 11), (⟨"MetAnglesModel", "isOrHolds", "(II)Z"⟩, 11)]
theorem lw_r2 : ∀ q ∈ lw_privs_2, lw_okq q := List.forall_mem_cons.mpr ⟨lw_p16, List.forall_mem_cons.mpr ⟨lw_p17, List.forall_mem_cons.mpr ⟨lw_p18, List.forall_mem_cons.mpr ⟨lw_p19, List.forall_mem_cons.mpr ⟨lw_p20, List.forall_mem_cons.mpr ⟨lw_p21, List.forall_mem_cons.mpr ⟨lw_p22, List.forall_mem_cons.mpr ⟨lw_p23, List.forall_mem_cons.mpr ⟨lw_p24, List.forall_mem_cons.mpr ⟨lw_p25, List.forall_mem_cons.mpr ⟨lw_p26, List.forall_mem_cons.mpr ⟨lw_p27, List.forall_mem_cons.mpr ⟨lw_p28, List.forall_mem_cons.mpr ⟨lw_p29, List.forall_mem_cons.mpr ⟨lw_p30, List.forall_mem_cons.mpr ⟨lw_p31, fun _ h => absurd h List.not_mem_nil⟩⟩⟩⟩⟩⟩⟩⟩⟩⟩⟩⟩⟩⟩⟩⟩
theorem lw_p32 : lw_okq (⟨"MetAnglesModel", "within", "(II)J"⟩, 11) := ⟨⟨by decide +kernel, by decide +kernel⟩, List.mem_of_getElem? (i := 409) (by decide +kernel), List.mem_of_getElem? (i := 610) (by decide +kernel), List.mem_of_getElem? (i := 611) (by decide +kernel)⟩
theorem lw_p33 : lw_okq (⟨"MetAnglesModel", "digitOf", "(II)I"⟩, 11) := ⟨⟨by decide +kernel, by decide +kernel⟩, List.mem_of_getElem? (i := 409) (by decide +kernel), List.mem_of_getElem? (i := 618) (by decide +kernel), List.mem_of_getElem? (i := 619) (by decide +kernel)⟩
theorem lw_p34 : lw_okq (⟨"MetAnglesModel", "canPut", "(II)Z"⟩, 11) := ⟨⟨by decide +kernel, by decide +kernel⟩, List.mem_of_getElem? (i := 409) (by decide +kernel), List.mem_of_getElem? (i := 626) (by decide +kernel), List.mem_of_getElem? (i := 627) (by decide +kernel)⟩
def lw_privs_3 : List (MethodName × Nat) := [(⟨"MetAnglesModel", "within", "(II)J"⟩, 11), (⟨"MetAnglesModel", "digitOf", "(II)I"⟩, 11), (⟨"MetAnglesModel", "canPut", "(II)Z"⟩, 11)]
theorem lw_r3 : ∀ q ∈ lw_privs_3, lw_okq q := List.forall_mem_cons.mpr ⟨lw_p32, List.forall_mem_cons.mpr ⟨lw_p33, List.forall_mem_cons.mpr ⟨lw_p34, fun _ h => absurd h List.not_mem_nil⟩⟩⟩
def lw_privs : List (MethodName × Nat) := lw_privs_1 ++ (lw_privs_2 ++ (lw_privs_3))
def lw_tbl : List Cond := k2_sels lw_privs ++ tables_1
theorem lw_privs_ok : ∀ q ∈ lw_privs, lw_okq q := by
  show ∀ q ∈ lw_privs_1 ++ (lw_privs_2 ++ (lw_privs_3)), lw_okq q
  exact List.forall_mem_append.mpr ⟨lw_r1, List.forall_mem_append.mpr ⟨lw_r2, lw_r3⟩⟩
end
section
def RX0 : String := "MetAngles$Partners"
def TX0 : u_T := fun k => match k with
  | 0 => ("MetAngles$Partners", "less", "[I", true)
  | 1 => ("MetAngles$Partners", "greater", "[I", true)
  | 2 => ("MetAngles$Partners", "upTo", "[I", true)
  | _ => ("MetAngles$Partners", "made", "I", false)
def tyX0 : Nat → FieldType := fun k => match k with
  | 0 => .array .int
  | 1 => .array .int
  | 2 => .array .int
  | _ => .int
abbrev wsX00 : List Cond := u_ws RX0 TX0 4
theorem nmX0 : ∀ a, a < 4 → ∀ b, b < 4 → a ≠ b → (TX0 a).2.1 ≠ (TX0 b).2.1 := by decide +kernel
theorem tyX0_ok : ∀ k, k < 4 → parseFieldDescriptor (TX0 k).2.2.1 = some (tyX0 k) := by decide +kernel
abbrev cX0_init : ByteArray := prog_2_method_1_code
def yX0_init : MethodName := ⟨RX0, "<init>", "()V"⟩
abbrev cX0_markFree : ByteArray := prog_2_method_2_code
def yX0_markFree : MethodName := ⟨RX0, "markFree", "([ZI)V"⟩
abbrev cX0_joinFree : ByteArray := prog_2_method_3_code
def yX0_joinFree : MethodName := ⟨RX0, "joinFree", "([ZI)V"⟩
abbrev cX0_join : ByteArray := prog_2_method_4_code
def yX0_join : MethodName := ⟨RX0, "join", "(II)V"⟩
abbrev cX0_crossesNone : ByteArray := prog_2_method_5_code
def yX0_crossesNone : MethodName := ⟨RX0, "crossesNone", "(II)Z"⟩
abbrev cX0_isMade : ByteArray := prog_2_method_6_code
def yX0_isMade : MethodName := ⟨RX0, "isMade", "(I)Z"⟩
abbrev cX0_amountUpTo : ByteArray := prog_2_method_7_code
def yX0_amountUpTo : MethodName := ⟨RX0, "amountUpTo", "(I)I"⟩
abbrev cX0_amountOf : ByteArray := prog_2_method_8_code
def yX0_amountOf : MethodName := ⟨RX0, "amountOf", "(I)I"⟩
abbrev cX0_lengthOf : ByteArray := prog_2_method_9_code
def yX0_lengthOf : MethodName := ⟨RX0, "lengthOf", "(I)I"⟩
abbrev cX0_pairWith : ByteArray := prog_2_method_10_code
def yX0_pairWith : MethodName := ⟨RX0, "pairWith", "(I)I"⟩
abbrev cX0_otherEnd : ByteArray := prog_2_method_11_code
def yX0_otherEnd : MethodName := ⟨RX0, "otherEnd", "(II)I"⟩
abbrev cX0_digitsOf : ByteArray := prog_2_method_12_code
def yX0_digitsOf : MethodName := ⟨RX0, "digitsOf", "(III)I"⟩
abbrev cX0_holdsTurn : ByteArray := prog_2_method_13_code
def yX0_holdsTurn : MethodName := ⟨RX0, "holdsTurn", "(ILMetAngles$Turn;)Z"⟩
abbrev cX0_holdsPair : ByteArray := prog_2_method_14_code
def yX0_holdsPair : MethodName := ⟨RX0, "holdsPair", "(II)Z"⟩
abbrev cX0_nextHolder : ByteArray := prog_2_method_15_code
def yX0_nextHolder : MethodName := ⟨RX0, "nextHolder", "(LMetAngles$Turn;II)I"⟩
abbrev cX0_amountBetween : ByteArray := prog_2_method_16_code
def yX0_amountBetween : MethodName := ⟨RX0, "amountBetween", "(III)I"⟩
abbrev cX0_amountInside : ByteArray := prog_2_method_17_code
def yX0_amountInside : MethodName := ⟨RX0, "amountInside", "(II)I"⟩
def RX1 : String := "MetAngles$Sheet"
def TX1 : u_T := fun k => match k with
  | 0 => ("MetAngles$Sheet", "lane", "I", true)
  | _ => ("MetAngles$Sheet", "cells", "[J", true)
def tyX1 : Nat → FieldType := fun k => match k with
  | 0 => .int
  | _ => .array .long
abbrev wsX10 : List Cond := u_ws RX1 TX1 2
theorem nmX1 : ∀ a, a < 2 → ∀ b, b < 2 → a ≠ b → (TX1 a).2.1 ≠ (TX1 b).2.1 := by decide +kernel
theorem tyX1_ok : ∀ k, k < 2 → parseFieldDescriptor (TX1 k).2.2.1 = some (tyX1 k) := by decide +kernel
abbrev cX1_init : ByteArray := prog_3_method_1_code
def yX1_init : MethodName := ⟨RX1, "<init>", "(II)V"⟩
abbrev cX1_hasCell : ByteArray := prog_3_method_2_code
def yX1_hasCell : MethodName := ⟨RX1, "hasCell", "(J)Z"⟩
def RX2 : String := "MetAngles$Turn"
def TX2 : u_T := fun k => match k with
  | 0 => ("MetAngles$Turn", "up", "I", true)
  | 1 => ("MetAngles$Turn", "low", "I", true)
  | 2 => ("MetAngles$Turn", "tail", "I", true)
  | _ => ("MetAngles$Turn", "length", "I", true)
def tyX2 : Nat → FieldType := fun k => match k with
  | 0 => .int
  | 1 => .int
  | 2 => .int
  | _ => .int
abbrev wsX20 : List Cond := u_ws RX2 TX2 4
theorem nmX2 : ∀ a, a < 4 → ∀ b, b < 4 → a ≠ b → (TX2 a).2.1 ≠ (TX2 b).2.1 := by decide +kernel
theorem tyX2_ok : ∀ k, k < 4 → parseFieldDescriptor (TX2 k).2.2.1 = some (tyX2 k) := by decide +kernel
abbrev cX2_init : ByteArray := prog_4_method_1_code
def yX2_init : MethodName := ⟨RX2, "<init>", "(JJ)V"⟩
abbrev cX2_twosIn : ByteArray := prog_4_method_2_code
def yX2_twosIn : MethodName := ⟨RX2, "twosIn", "(I)I"⟩
abbrev cX2_lengthOfRing : ByteArray := prog_4_method_3_code
def yX2_lengthOfRing : MethodName := ⟨RX2, "lengthOfRing", "(II)I"⟩
abbrev cX2_comesBack : ByteArray := prog_4_method_4_code
def yX2_comesBack : MethodName := ⟨RX2, "comesBack", "()Z"⟩
abbrev cX2_upAfter : ByteArray := prog_4_method_5_code
def yX2_upAfter : MethodName := ⟨RX2, "upAfter", "(I)I"⟩
abbrev cX2_against : ByteArray := prog_4_method_6_code
def yX2_against : MethodName := ⟨RX2, "against", "(LMetAngles$Turn;)I"⟩
abbrev cX2_letterOf : ByteArray := prog_4_method_7_code
def yX2_letterOf : MethodName := ⟨RX2, "letterOf", "(II)I"⟩
abbrev cX2_inParts : ByteArray := prog_4_method_8_code
def yX2_inParts : MethodName := ⟨RX2, "inParts", "()I"⟩
def RX3 : String := "MetAngles"
def TX3 : u_T := fun k => match k with
  | 0 => ("MetAngles", "turns", "[LMetAngles$Turn;", true)
  | 1 => ("MetAngles", "sheets", "[LMetAngles$Sheet;", true)
  | 2 => ("MetAngles", "row", "[I", true)
  | 3 => ("MetAngles", "amount", "I", false)
  | _ => ("MetAngles", "partners", "LMetAngles$Partners;", false)
def tyX3 : Nat → FieldType := fun k => match k with
  | 0 => .array (.object "MetAngles$Turn")
  | 1 => .array (.object "MetAngles$Sheet")
  | 2 => .array .int
  | 3 => .int
  | _ => .object "MetAngles$Partners"
abbrev wsX30 : List Cond := u_ws RX3 TX3 5
theorem nmX3 : ∀ a, a < 5 → ∀ b, b < 5 → a ≠ b → (TX3 a).2.1 ≠ (TX3 b).2.1 := by decide +kernel
theorem tyX3_ok : ∀ k, k < 5 → parseFieldDescriptor (TX3 k).2.2.1 = some (tyX3 k) := by decide +kernel
abbrev cX3_init : ByteArray := prog_1_method_1_code
def yX3_init : MethodName := ⟨RX3, "<init>", "()V"⟩
abbrev cX3_angle : ByteArray := prog_1_method_2_code
def yX3_angle : MethodName := ⟨RX3, "angle", "(JJ)I"⟩
abbrev cX3_drop : ByteArray := prog_1_method_3_code
def yX3_drop : MethodName := ⟨RX3, "drop", "()I"⟩
abbrev cX3_told : ByteArray := prog_1_method_4_code
def yX3_told : MethodName := ⟨RX3, "told", "(II)I"⟩
abbrev cX3_doubled : ByteArray := prog_1_method_5_code
def yX3_doubled : MethodName := ⟨RX3, "doubled", "(III)I"⟩
abbrev cX3_all : ByteArray := prog_1_method_6_code
def yX3_all : MethodName := ⟨RX3, "all", "(I)I"⟩
abbrev cX3_letter : ByteArray := prog_1_method_7_code
def yX3_letter : MethodName := ⟨RX3, "letter", "(III)I"⟩
abbrev cX3_address : ByteArray := prog_1_method_8_code
def yX3_address : MethodName := ⟨RX3, "address", "(II)I"⟩
abbrev cX3_cross : ByteArray := prog_1_method_9_code
def yX3_cross : MethodName := ⟨RX3, "cross", "(IIII)I"⟩
abbrev cX3_meet : ByteArray := prog_1_method_10_code
def yX3_meet : MethodName := ⟨RX3, "meet", "(III)I"⟩
abbrev cX3_pairs : ByteArray := prog_1_method_11_code
def yX3_pairs : MethodName := ⟨RX3, "pairs", "(I)I"⟩
abbrev cX3_pair : ByteArray := prog_1_method_12_code
def yX3_pair : MethodName := ⟨RX3, "pair", "(III)I"⟩
abbrev cX3_partner : ByteArray := prog_1_method_13_code
def yX3_partner : MethodName := ⟨RX3, "partner", "(I)I"⟩
abbrev cX3_held : ByteArray := prog_1_method_14_code
def yX3_held : MethodName := ⟨RX3, "held", "(II)I"⟩
abbrev cX3_holder : ByteArray := prog_1_method_15_code
def yX3_holder : MethodName := ⟨RX3, "holder", "(IIII)I"⟩
abbrev cX3_holds : ByteArray := prog_1_method_16_code
def yX3_holds : MethodName := ⟨RX3, "holds", "(II)I"⟩
abbrev cX3_between : ByteArray := prog_1_method_17_code
def yX3_between : MethodName := ⟨RX3, "between", "(III)I"⟩
abbrev cX3_wide : ByteArray := prog_1_method_18_code
def yX3_wide : MethodName := ⟨RX3, "wide", "(II)I"⟩
abbrev cX3_digit : ByteArray := prog_1_method_19_code
def yX3_digit : MethodName := ⟨RX3, "digit", "(II)I"⟩
abbrev cX3_put : ByteArray := prog_1_method_20_code
def yX3_put : MethodName := ⟨RX3, "put", "(II)I"⟩
abbrev cX3_take : ByteArray := prog_1_method_21_code
def yX3_take : MethodName := ⟨RX3, "take", "(II)I"⟩
abbrev cX3_sheet : ByteArray := prog_1_method_22_code
def yX3_sheet : MethodName := ⟨RX3, "sheet", "(III)I"⟩
abbrev cX3_lay : ByteArray := prog_1_method_23_code
def yX3_lay : MethodName := ⟨RX3, "lay", "(IIJ)I"⟩
abbrev cX3_scan : ByteArray := prog_1_method_24_code
def yX3_scan : MethodName := ⟨RX3, "scan", "(IIII)I"⟩
abbrev cX3_count : ByteArray := prog_1_method_25_code
def yX3_count : MethodName := ⟨RX3, "count", "(I)I"⟩
abbrev cX3_isDoublings : ByteArray := prog_1_method_26_code
def yX3_isDoublings : MethodName := ⟨RX3, "isDoublings", "(I)Z"⟩
abbrev cX3_isLength : ByteArray := prog_1_method_27_code
def yX3_isLength : MethodName := ⟨RX3, "isLength", "(I)Z"⟩
abbrev cX3_isPairedLength : ByteArray := prog_1_method_28_code
def yX3_isPairedLength : MethodName := ⟨RX3, "isPairedLength", "(I)Z"⟩
abbrev cX3_isEither : ByteArray := prog_1_method_29_code
def yX3_isEither : MethodName := ⟨RX3, "isEither", "(I)Z"⟩
abbrev cX3_isSheet : ByteArray := prog_1_method_30_code
def yX3_isSheet : MethodName := ⟨RX3, "isSheet", "(I)Z"⟩
abbrev cX3_isLane : ByteArray := prog_1_method_31_code
def yX3_isLane : MethodName := ⟨RX3, "isLane", "(I)Z"⟩
abbrev cX3_answer : ByteArray := prog_1_method_32_code
def yX3_answer : MethodName := ⟨RX3, "answer", "(Z)I"⟩
abbrev cX3_turnAt : ByteArray := prog_1_method_33_code
def yX3_turnAt : MethodName := ⟨RX3, "turnAt", "(I)LMetAngles$Turn;"⟩
abbrev cX3_keep : ByteArray := prog_1_method_34_code
def yX3_keep : MethodName := ⟨RX3, "keep", "(JJ)I"⟩
abbrev cX3_over : ByteArray := prog_1_method_35_code
def yX3_over : MethodName := ⟨RX3, "over", "(JJ)J"⟩
abbrev cX3_ones : ByteArray := prog_1_method_36_code
def yX3_ones : MethodName := ⟨RX3, "ones", "(I)I"⟩
abbrev cX3_order : ByteArray := prog_1_method_37_code
def yX3_order : MethodName := ⟨RX3, "order", "(JJ)I"⟩
abbrev cX3_greatestShared : ByteArray := prog_1_method_38_code
def yX3_greatestShared : MethodName := ⟨RX3, "greatestShared", "(JJ)J"⟩
abbrev cX3_twice : ByteArray := prog_1_method_39_code
def yX3_twice : MethodName := ⟨RX3, "twice", "(II)I"⟩
abbrev cX3_justOfLength : ByteArray := prog_1_method_40_code
def yX3_justOfLength : MethodName := ⟨RX3, "justOfLength", "(I)I"⟩
abbrev cX3_amountThatComesBack : ByteArray := prog_1_method_41_code
def yX3_amountThatComesBack : MethodName := ⟨RX3, "amountThatComesBack", "()I"⟩
abbrev cX3_amountOfUnlike : ByteArray := prog_1_method_42_code
def yX3_amountOfUnlike : MethodName := ⟨RX3, "amountOfUnlike", "()I"⟩
abbrev cX3_cameEarlier : ByteArray := prog_1_method_43_code
def yX3_cameEarlier : MethodName := ⟨RX3, "cameEarlier", "(I)Z"⟩
abbrev cX3_writeInner : ByteArray := prog_1_method_44_code
def yX3_writeInner : MethodName := ⟨RX3, "writeInner", "(LMetAngles$Turn;)V"⟩
abbrev cX3_nextInAddress : ByteArray := prog_1_method_45_code
def yX3_nextInAddress : MethodName := ⟨RX3, "nextInAddress", "(II)I"⟩
abbrev cX3_agree : ByteArray := prog_1_method_46_code
def yX3_agree : MethodName := ⟨RX3, "agree", "(II)Z"⟩
abbrev cX3_agreeAhead : ByteArray := prog_1_method_47_code
def yX3_agreeAhead : MethodName := ⟨RX3, "agreeAhead", "(LMetAngles$Turn;LMetAngles$Turn;LMetAngles$Turn;I)Z"⟩
abbrev cX3_agreeInRings : ByteArray := prog_1_method_48_code
def yX3_agreeInRings : MethodName := ⟨RX3, "agreeInRings", "(LMetAngles$Turn;LMetAngles$Turn;LMetAngles$Turn;I)Z"⟩
abbrev cX3_known : ByteArray := prog_1_method_49_code
def yX3_known : MethodName := ⟨RX3, "known", "()LMetAngles$Partners;"⟩
abbrev cX3_pairOf : ByteArray := prog_1_method_50_code
def yX3_pairOf : MethodName := ⟨RX3, "pairOf", "(LMetAngles$Turn;)I"⟩
abbrev cX3_pairForPutting : ByteArray := prog_1_method_51_code
def yX3_pairForPutting : MethodName := ⟨RX3, "pairForPutting", "(LMetAngles$Turn;LMetAngles$Turn;)I"⟩
abbrev cX3_digitsTakenOut : ByteArray := prog_1_method_52_code
def yX3_digitsTakenOut : MethodName := ⟨RX3, "digitsTakenOut", "(IILMetAngles$Turn;I)J"⟩
abbrev cX3_readAngle : ByteArray := prog_1_method_53_code
def yX3_readAngle : MethodName := ⟨RX3, "readAngle", "(LMetAngles$Sheet;J)I"⟩
def RX4 : String := "MetAnglesModel"
def TX4 : u_T := fun k => match k with
  | 0 => ("MetAnglesModel", "angles", "I", false)
  | 1 => ("MetAnglesModel", "tops", "[J", true)
  | 2 => ("MetAnglesModel", "downs", "[J", true)
  | 3 => ("MetAnglesModel", "pairMany", "I", false)
  | 4 => ("MetAnglesModel", "pLength", "[I", true)
  | 5 => ("MetAnglesModel", "pLess", "[J", true)
  | 6 => ("MetAnglesModel", "pGreater", "[J", true)
  | 7 => ("MetAnglesModel", "hasPartner", "[Z", true)
  | 8 => ("MetAnglesModel", "lanes", "[I", true)
  | 9 => ("MetAnglesModel", "sizes", "[I", true)
  | _ => ("MetAnglesModel", "cells", "[J", true)
def tyX4 : Nat → FieldType := fun k => match k with
  | 0 => .int
  | 1 => .array .long
  | 2 => .array .long
  | 3 => .int
  | 4 => .array .int
  | 5 => .array .long
  | 6 => .array .long
  | 7 => .array .boolean
  | 8 => .array .int
  | 9 => .array .int
  | _ => .array .long
abbrev wsX40 : List Cond := u_ws RX4 TX4 11
theorem nmX4 : ∀ a, a < 11 → ∀ b, b < 11 → a ≠ b → (TX4 a).2.1 ≠ (TX4 b).2.1 := by decide +kernel
theorem tyX4_ok : ∀ k, k < 11 → parseFieldDescriptor (TX4 k).2.2.1 = some (tyX4 k) := by decide +kernel
abbrev cX4_init : ByteArray := prog_6_method_1_code
def yX4_init : MethodName := ⟨RX4, "<init>", "()V"⟩
abbrev cX4_in : ByteArray := prog_6_method_3_code
def yX4_in : MethodName := ⟨RX4, "in", "(JJJ)Z"⟩
abbrev cX4_isAngle : ByteArray := prog_6_method_4_code
def yX4_isAngle : MethodName := ⟨RX4, "isAngle", "(I)Z"⟩
abbrev cX4_comes : ByteArray := prog_6_method_5_code
def yX4_comes : MethodName := ⟨RX4, "comes", "(JJ)I"⟩
abbrev cX4_angle : ByteArray := prog_6_method_6_code
def yX4_angle : MethodName := ⟨RX4, "angle", "(JJ)I"⟩
abbrev cX4_drop : ByteArray := prog_6_method_7_code
def yX4_drop : MethodName := ⟨RX4, "drop", "()I"⟩
abbrev cX4_tailOf : ByteArray := prog_6_method_8_code
def yX4_tailOf : MethodName := ⟨RX4, "tailOf", "(J)I"⟩
abbrev cX4_lengthOf : ByteArray := prog_6_method_9_code
def yX4_lengthOf : MethodName := ⟨RX4, "lengthOf", "(J)I"⟩
abbrev cX4_told : ByteArray := prog_6_method_10_code
def yX4_told : MethodName := ⟨RX4, "told", "(II)I"⟩
abbrev cX4_after : ByteArray := prog_6_method_11_code
def yX4_after : MethodName := ⟨RX4, "after", "(JJI)J"⟩
abbrev cX4_divisor : ByteArray := prog_6_method_12_code
def yX4_divisor : MethodName := ⟨RX4, "divisor", "(JJ)J"⟩
abbrev cX4_doubled : ByteArray := prog_6_method_13_code
def yX4_doubled : MethodName := ⟨RX4, "doubled", "(III)I"⟩
abbrev cX4_moebius : ByteArray := prog_6_method_14_code
def yX4_moebius : MethodName := ⟨RX4, "moebius", "(I)I"⟩
abbrev cX4_all : ByteArray := prog_6_method_15_code
def yX4_all : MethodName := ⟨RX4, "all", "(I)I"⟩
abbrev cX4_side : ByteArray := prog_6_method_16_code
def yX4_side : MethodName := ⟨RX4, "side", "(JJJJ)I"⟩
abbrev cX4_letterOf : ByteArray := prog_6_method_17_code
def yX4_letterOf : MethodName := ⟨RX4, "letterOf", "(III)I"⟩
abbrev cX4_letter : ByteArray := prog_6_method_18_code
def yX4_letter : MethodName := ⟨RX4, "letter", "(III)I"⟩
abbrev cX4_isBack : ByteArray := prog_6_method_19_code
def yX4_isBack : MethodName := ⟨RX4, "isBack", "(I)Z"⟩
abbrev cX4_address : ByteArray := prog_6_method_20_code
def yX4_address : MethodName := ⟨RX4, "address", "(II)I"⟩
abbrev cX4_isBelow : ByteArray := prog_6_method_21_code
def yX4_isBelow : MethodName := ⟨RX4, "isBelow", "(JJJJ)Z"⟩
abbrev cX4_isLess : ByteArray := prog_6_method_22_code
def yX4_isLess : MethodName := ⟨RX4, "isLess", "(II)Z"⟩
abbrev cX4_isSame : ByteArray := prog_6_method_23_code
def yX4_isSame : MethodName := ⟨RX4, "isSame", "(II)Z"⟩
abbrev cX4_liesBetween : ByteArray := prog_6_method_24_code
def yX4_liesBetween : MethodName := ⟨RX4, "liesBetween", "(III)Z"⟩
abbrev cX4_cross : ByteArray := prog_6_method_25_code
def yX4_cross : MethodName := ⟨RX4, "cross", "(IIII)I"⟩
abbrev cX4_meet : ByteArray := prog_6_method_26_code
def yX4_meet : MethodName := ⟨RX4, "meet", "(III)I"⟩
abbrev cX4_whole : ByteArray := prog_6_method_27_code
def yX4_whole : MethodName := ⟨RX4, "whole", "(I)J"⟩
abbrev cX4_isOfLength : ByteArray := prog_6_method_28_code
def yX4_isOfLength : MethodName := ⟨RX4, "isOfLength", "(JI)Z"⟩
abbrev cX4_crosses : ByteArray := prog_6_method_29_code
def yX4_crosses : MethodName := ⟨RX4, "crosses", "(IJJ)Z"⟩
abbrev cX4_pairs0 : ByteArray := prog_6_method_30_code
def yX4_pairs0 : MethodName := ⟨RX4, "pairs0", "(IJJ)V"⟩
abbrev cX4_findPairs : ByteArray := prog_6_method_31_code
def yX4_findPairs : MethodName := ⟨RX4, "findPairs", "()V"⟩
abbrev cX4_pairs : ByteArray := prog_6_method_32_code
def yX4_pairs : MethodName := ⟨RX4, "pairs", "(I)I"⟩
abbrev cX4_firstOf : ByteArray := prog_6_method_33_code
def yX4_firstOf : MethodName := ⟨RX4, "firstOf", "(I)I"⟩
abbrev cX4_pair : ByteArray := prog_6_method_34_code
def yX4_pair : MethodName := ⟨RX4, "pair", "(III)I"⟩
abbrev cX4_pairOf : ByteArray := prog_6_method_35_code
def yX4_pairOf : MethodName := ⟨RX4, "pairOf", "(I)I"⟩
abbrev cX4_partner : ByteArray := prog_6_method_36_code
def yX4_partner : MethodName := ⟨RX4, "partner", "(I)I"⟩
abbrev cX4_holdsAngle : ByteArray := prog_6_method_37_code
def yX4_holdsAngle : MethodName := ⟨RX4, "holdsAngle", "(II)Z"⟩
abbrev cX4_isOrHolds : ByteArray := prog_6_method_38_code
def yX4_isOrHolds : MethodName := ⟨RX4, "isOrHolds", "(II)Z"⟩
abbrev cX4_held : ByteArray := prog_6_method_39_code
def yX4_held : MethodName := ⟨RX4, "held", "(II)I"⟩
abbrev cX4_holder : ByteArray := prog_6_method_40_code
def yX4_holder : MethodName := ⟨RX4, "holder", "(IIII)I"⟩
abbrev cX4_holds : ByteArray := prog_6_method_41_code
def yX4_holds : MethodName := ⟨RX4, "holds", "(II)I"⟩
abbrev cX4_between : ByteArray := prog_6_method_42_code
def yX4_between : MethodName := ⟨RX4, "between", "(III)I"⟩
abbrev cX4_within : ByteArray := prog_6_method_43_code
def yX4_within : MethodName := ⟨RX4, "within", "(II)J"⟩
abbrev cX4_wide : ByteArray := prog_6_method_44_code
def yX4_wide : MethodName := ⟨RX4, "wide", "(II)I"⟩
abbrev cX4_digitOf : ByteArray := prog_6_method_45_code
def yX4_digitOf : MethodName := ⟨RX4, "digitOf", "(II)I"⟩
abbrev cX4_digit : ByteArray := prog_6_method_46_code
def yX4_digit : MethodName := ⟨RX4, "digit", "(II)I"⟩
abbrev cX4_canPut : ByteArray := prog_6_method_47_code
def yX4_canPut : MethodName := ⟨RX4, "canPut", "(II)Z"⟩
abbrev cX4_put : ByteArray := prog_6_method_48_code
def yX4_put : MethodName := ⟨RX4, "put", "(II)I"⟩
abbrev cX4_take : ByteArray := prog_6_method_49_code
def yX4_take : MethodName := ⟨RX4, "take", "(II)I"⟩
abbrev cX4_isSheet : ByteArray := prog_6_method_50_code
def yX4_isSheet : MethodName := ⟨RX4, "isSheet", "(II)Z"⟩
abbrev cX4_sheet : ByteArray := prog_6_method_51_code
def yX4_sheet : MethodName := ⟨RX4, "sheet", "(III)I"⟩
abbrev cX4_lay : ByteArray := prog_6_method_52_code
def yX4_lay : MethodName := ⟨RX4, "lay", "(IIJ)I"⟩
abbrev cX4_scan : ByteArray := prog_6_method_53_code
def yX4_scan : MethodName := ⟨RX4, "scan", "(IIII)I"⟩
abbrev cX4_count : ByteArray := prog_6_method_54_code
def yX4_count : MethodName := ⟨RX4, "count", "(I)I"⟩
def RJ9 : String := "java/lang/Math"
def TJ9 : u_T := fun k => match k with
  | _ => ("", "", "", false)
def tyJ9 : Nat → FieldType := fun k => match k with
  | _ => .int
abbrev cJ9_max_7cf53 : ByteArray := prog_7_method_65_code
def yJ9_max_7cf53 : MethodName := ⟨RJ9, "max", "(II)I"⟩
abbrev cJ9_min_7cf53 : ByteArray := prog_7_method_69_code
def yJ9_min_7cf53 : MethodName := ⟨RJ9, "min", "(II)I"⟩
def RL : String := "MetAnglesLaw"
abbrev cL_law : ByteArray := code
def yL_law : MethodName := ⟨RL, "law", "([I)Z"⟩
abbrev vwCl : List vw_C := [(RX0, TX0, 4), (RX1, TX1, 2), (RX2, TX2, 4), (RX3, TX3, 5), (RX4, TX4, 11)]
end
section
theorem dJ9_max_7cf53_0 : decode cJ9_max_7cf53 0 = .ok (.iload_n 0, 1) := by decide +kernel
theorem dJ9_max_7cf53_1 : decode cJ9_max_7cf53 1 = .ok (.iload_n 1, 1) := by decide +kernel
theorem dJ9_max_7cf53_2 : decode cJ9_max_7cf53 2 = .ok (.if_icmp .lt 7, 3) := by decide +kernel
theorem dJ9_max_7cf53_5 : decode cJ9_max_7cf53 5 = .ok (.iload_n 0, 1) := by decide +kernel
theorem dJ9_max_7cf53_6 : decode cJ9_max_7cf53 6 = .ok (.goto 4, 3) := by decide +kernel
theorem dJ9_max_7cf53_9 : decode cJ9_max_7cf53 9 = .ok (.iload_n 1, 1) := by decide +kernel
theorem dJ9_max_7cf53_10 : decode cJ9_max_7cf53 10 = .ok (.ireturn, 1) := by decide +kernel
theorem dJ9_min_7cf53_0 : decode cJ9_min_7cf53 0 = .ok (.iload_n 0, 1) := by decide +kernel
theorem dJ9_min_7cf53_1 : decode cJ9_min_7cf53 1 = .ok (.iload_n 1, 1) := by decide +kernel
theorem dJ9_min_7cf53_2 : decode cJ9_min_7cf53 2 = .ok (.if_icmp .gt 7, 3) := by decide +kernel
theorem dJ9_min_7cf53_5 : decode cJ9_min_7cf53 5 = .ok (.iload_n 0, 1) := by decide +kernel
theorem dJ9_min_7cf53_6 : decode cJ9_min_7cf53 6 = .ok (.goto 4, 3) := by decide +kernel
theorem dJ9_min_7cf53_9 : decode cJ9_min_7cf53 9 = .ok (.iload_n 1, 1) := by decide +kernel
theorem dJ9_min_7cf53_10 : decode cJ9_min_7cf53 10 = .ok (.ireturn, 1) := by decide +kernel
end
section
theorem dX0_init_0 : decode cX0_init 0 = .ok (.aload_n 0, 1) := by decide +kernel
theorem dX0_init_1 : decode cX0_init 1 = .ok (.invokespecial 3, 3) := by decide +kernel
theorem dX0_init_4 : decode cX0_init 4 = .ok (.aload_n 0, 1) := by decide +kernel
theorem dX0_init_5 : decode cX0_init 5 = .ok (.sipush 236, 3) := by decide +kernel
theorem dX0_init_8 : decode cX0_init 8 = .ok (.newarray .int, 2) := by decide +kernel
theorem dX0_init_10 : decode cX0_init 10 = .ok (.putfield 9, 3) := by decide +kernel
theorem dX0_init_13 : decode cX0_init 13 = .ok (.aload_n 0, 1) := by decide +kernel
theorem dX0_init_14 : decode cX0_init 14 = .ok (.sipush 236, 3) := by decide +kernel
theorem dX0_init_17 : decode cX0_init 17 = .ok (.newarray .int, 2) := by decide +kernel
theorem dX0_init_19 : decode cX0_init 19 = .ok (.putfield 15, 3) := by decide +kernel
theorem dX0_init_22 : decode cX0_init 22 = .ok (.aload_n 0, 1) := by decide +kernel
theorem dX0_init_23 : decode cX0_init 23 = .ok (.bipush 9, 2) := by decide +kernel
theorem dX0_init_25 : decode cX0_init 25 = .ok (.newarray .int, 2) := by decide +kernel
theorem dX0_init_27 : decode cX0_init 27 = .ok (.putfield 18, 3) := by decide +kernel
theorem dX0_init_30 : decode cX0_init 30 = .ok (.aload_n 0, 1) := by decide +kernel
theorem dX0_init_31 : decode cX0_init 31 = .ok (.iconst 0, 1) := by decide +kernel
theorem dX0_init_32 : decode cX0_init 32 = .ok (.putfield 21, 3) := by decide +kernel
theorem dX0_init_35 : decode cX0_init 35 = .ok (.aload_n 0, 1) := by decide +kernel
theorem dX0_init_36 : decode cX0_init 36 = .ok (.iconst 0, 1) := by decide +kernel
theorem dX0_init_37 : decode cX0_init 37 = .ok (.iconst 0, 1) := by decide +kernel
theorem dX0_init_38 : decode cX0_init 38 = .ok (.invokevirtual 25, 3) := by decide +kernel
theorem dX0_init_41 : decode cX0_init 41 = .ok (.aload_n 0, 1) := by decide +kernel
theorem dX0_init_42 : decode cX0_init 42 = .ok (.getfield 18, 3) := by decide +kernel
theorem dX0_init_45 : decode cX0_init 45 = .ok (.iconst 1, 1) := by decide +kernel
theorem dX0_init_46 : decode cX0_init 46 = .ok (.aload_n 0, 1) := by decide +kernel
theorem dX0_init_47 : decode cX0_init 47 = .ok (.getfield 21, 3) := by decide +kernel
theorem dX0_init_50 : decode cX0_init 50 = .ok (.iastore, 1) := by decide +kernel
theorem dX0_init_51 : decode cX0_init 51 = .ok (.bipush 8, 2) := by decide +kernel
theorem dX0_init_53 : decode cX0_init 53 = .ok (.invokestatic 29, 3) := by decide +kernel
theorem dX0_init_56 : decode cX0_init 56 = .ok (.newarray .boolean, 2) := by decide +kernel
theorem dX0_init_58 : decode cX0_init 58 = .ok (.astore_n 1, 1) := by decide +kernel
theorem dX0_init_59 : decode cX0_init 59 = .ok (.iconst 2, 1) := by decide +kernel
theorem dX0_init_60 : decode cX0_init 60 = .ok (.istore_n 2, 1) := by decide +kernel
theorem dX0_init_61 : decode cX0_init 61 = .ok (.iload_n 2, 1) := by decide +kernel
theorem dX0_init_62 : decode cX0_init 62 = .ok (.bipush 8, 2) := by decide +kernel
theorem dX0_init_64 : decode cX0_init 64 = .ok (.if_icmp .gt 30, 3) := by decide +kernel
theorem dX0_init_67 : decode cX0_init 67 = .ok (.aload_n 1, 1) := by decide +kernel
theorem dX0_init_68 : decode cX0_init 68 = .ok (.iload_n 2, 1) := by decide +kernel
theorem dX0_init_69 : decode cX0_init 69 = .ok (.invokestatic 33, 3) := by decide +kernel
theorem dX0_init_72 : decode cX0_init 72 = .ok (.aload_n 0, 1) := by decide +kernel
theorem dX0_init_73 : decode cX0_init 73 = .ok (.aload_n 1, 1) := by decide +kernel
theorem dX0_init_74 : decode cX0_init 74 = .ok (.iload_n 2, 1) := by decide +kernel
theorem dX0_init_75 : decode cX0_init 75 = .ok (.invokevirtual 37, 3) := by decide +kernel
theorem dX0_init_78 : decode cX0_init 78 = .ok (.aload_n 0, 1) := by decide +kernel
theorem dX0_init_79 : decode cX0_init 79 = .ok (.getfield 18, 3) := by decide +kernel
theorem dX0_init_82 : decode cX0_init 82 = .ok (.iload_n 2, 1) := by decide +kernel
theorem dX0_init_83 : decode cX0_init 83 = .ok (.aload_n 0, 1) := by decide +kernel
theorem dX0_init_84 : decode cX0_init 84 = .ok (.getfield 21, 3) := by decide +kernel
theorem dX0_init_87 : decode cX0_init 87 = .ok (.iastore, 1) := by decide +kernel
theorem dX0_init_88 : decode cX0_init 88 = .ok (.iinc 2 1, 3) := by decide +kernel
theorem dX0_init_91 : decode cX0_init 91 = .ok (.goto (-30), 3) := by decide +kernel
theorem dX0_init_94 : decode cX0_init 94 = .ok (.return_, 1) := by decide +kernel
theorem dX0_markFree_0 : decode cX0_markFree 0 = .ok (.iconst 0, 1) := by decide +kernel
theorem dX0_markFree_1 : decode cX0_markFree 1 = .ok (.istore_n 2, 1) := by decide +kernel
theorem dX0_markFree_2 : decode cX0_markFree 2 = .ok (.iload_n 2, 1) := by decide +kernel
theorem dX0_markFree_3 : decode cX0_markFree 3 = .ok (.iload_n 1, 1) := by decide +kernel
theorem dX0_markFree_4 : decode cX0_markFree 4 = .ok (.invokestatic 29, 3) := by decide +kernel
theorem dX0_markFree_7 : decode cX0_markFree 7 = .ok (.if_icmp .ge 35, 3) := by decide +kernel
theorem dX0_markFree_10 : decode cX0_markFree 10 = .ok (.iload_n 2, 1) := by decide +kernel
theorem dX0_markFree_11 : decode cX0_markFree 11 = .ok (.aload_n 0, 1) := by decide +kernel
theorem dX0_markFree_12 : decode cX0_markFree 12 = .ok (.arraylength, 1) := by decide +kernel
theorem dX0_markFree_13 : decode cX0_markFree 13 = .ok (.if_icmp .ge 29, 3) := by decide +kernel
theorem dX0_markFree_16 : decode cX0_markFree 16 = .ok (.aload_n 0, 1) := by decide +kernel
theorem dX0_markFree_17 : decode cX0_markFree 17 = .ok (.iload_n 2, 1) := by decide +kernel
theorem dX0_markFree_18 : decode cX0_markFree 18 = .ok (.iload_n 2, 1) := by decide +kernel
theorem dX0_markFree_19 : decode cX0_markFree 19 = .ok (.iload_n 1, 1) := by decide +kernel
theorem dX0_markFree_20 : decode cX0_markFree 20 = .ok (.invokestatic 29, 3) := by decide +kernel
theorem dX0_markFree_23 : decode cX0_markFree 23 = .ok (.invokestatic 40, 3) := by decide +kernel
theorem dX0_markFree_26 : decode cX0_markFree 26 = .ok (.iload_n 1, 1) := by decide +kernel
theorem dX0_markFree_27 : decode cX0_markFree 27 = .ok (.if_icmp .ne 7, 3) := by decide +kernel
theorem dX0_markFree_30 : decode cX0_markFree 30 = .ok (.iconst 1, 1) := by decide +kernel
theorem dX0_markFree_31 : decode cX0_markFree 31 = .ok (.goto 4, 3) := by decide +kernel
theorem dX0_markFree_34 : decode cX0_markFree 34 = .ok (.iconst 0, 1) := by decide +kernel
theorem dX0_markFree_35 : decode cX0_markFree 35 = .ok (.bastore, 1) := by decide +kernel
theorem dX0_markFree_36 : decode cX0_markFree 36 = .ok (.iinc 2 1, 3) := by decide +kernel
theorem dX0_markFree_39 : decode cX0_markFree 39 = .ok (.goto (-37), 3) := by decide +kernel
theorem dX0_markFree_42 : decode cX0_markFree 42 = .ok (.return_, 1) := by decide +kernel
theorem dX0_joinFree_0 : decode cX0_joinFree 0 = .ok (.ldc2_w 46, 3) := by decide +kernel
theorem dX0_joinFree_3 : decode cX0_joinFree 3 = .ok (.iload_n 2, 1) := by decide +kernel
theorem dX0_joinFree_4 : decode cX0_joinFree 4 = .ok (.invokestatic 29, 3) := by decide +kernel
theorem dX0_joinFree_7 : decode cX0_joinFree 7 = .ok (.i2l, 1) := by decide +kernel
theorem dX0_joinFree_8 : decode cX0_joinFree 8 = .ok (.invokestatic 48, 3) := by decide +kernel
theorem dX0_joinFree_11 : decode cX0_joinFree 11 = .ok (.l2i, 1) := by decide +kernel
theorem dX0_joinFree_12 : decode cX0_joinFree 12 = .ok (.istore_n 3, 1) := by decide +kernel
theorem dX0_joinFree_13 : decode cX0_joinFree 13 = .ok (.iload_n 2, 1) := by decide +kernel
theorem dX0_joinFree_14 : decode cX0_joinFree 14 = .ok (.invokestatic 29, 3) := by decide +kernel
theorem dX0_joinFree_17 : decode cX0_joinFree 17 = .ok (.aload_n 1, 1) := by decide +kernel
theorem dX0_joinFree_18 : decode cX0_joinFree 18 = .ok (.arraylength, 1) := by decide +kernel
theorem dX0_joinFree_19 : decode cX0_joinFree 19 = .ok (.invokestatic 52, 3) := by decide +kernel
theorem dX0_joinFree_22 : decode cX0_joinFree 22 = .ok (.istore 4, 2) := by decide +kernel
theorem dX0_joinFree_24 : decode cX0_joinFree 24 = .ok (.iconst 0, 1) := by decide +kernel
theorem dX0_joinFree_25 : decode cX0_joinFree 25 = .ok (.istore 5, 2) := by decide +kernel
theorem dX0_joinFree_27 : decode cX0_joinFree 27 = .ok (.iload 5, 2) := by decide +kernel
theorem dX0_joinFree_29 : decode cX0_joinFree 29 = .ok (.iload 4, 2) := by decide +kernel
theorem dX0_joinFree_31 : decode cX0_joinFree 31 = .ok (.if_icmp .ge 79, 3) := by decide +kernel
theorem dX0_joinFree_34 : decode cX0_joinFree 34 = .ok (.iload 5, 2) := by decide +kernel
theorem dX0_joinFree_36 : decode cX0_joinFree 36 = .ok (.iconst 1, 1) := by decide +kernel
theorem dX0_joinFree_37 : decode cX0_joinFree 37 = .ok (.iadd, 1) := by decide +kernel
theorem dX0_joinFree_38 : decode cX0_joinFree 38 = .ok (.istore 6, 2) := by decide +kernel
theorem dX0_joinFree_40 : decode cX0_joinFree 40 = .ok (.iload 6, 2) := by decide +kernel
theorem dX0_joinFree_42 : decode cX0_joinFree 42 = .ok (.iload 4, 2) := by decide +kernel
theorem dX0_joinFree_44 : decode cX0_joinFree 44 = .ok (.if_icmp .ge 60, 3) := by decide +kernel
theorem dX0_joinFree_47 : decode cX0_joinFree 47 = .ok (.aload_n 1, 1) := by decide +kernel
theorem dX0_joinFree_48 : decode cX0_joinFree 48 = .ok (.iload 5, 2) := by decide +kernel
theorem dX0_joinFree_50 : decode cX0_joinFree 50 = .ok (.baload, 1) := by decide +kernel
theorem dX0_joinFree_51 : decode cX0_joinFree 51 = .ok (.ifCond .eq 53, 3) := by decide +kernel
theorem dX0_joinFree_54 : decode cX0_joinFree 54 = .ok (.aload_n 1, 1) := by decide +kernel
theorem dX0_joinFree_55 : decode cX0_joinFree 55 = .ok (.iload 6, 2) := by decide +kernel
theorem dX0_joinFree_57 : decode cX0_joinFree 57 = .ok (.baload, 1) := by decide +kernel
theorem dX0_joinFree_58 : decode cX0_joinFree 58 = .ok (.ifCond .eq 40, 3) := by decide +kernel
theorem dX0_joinFree_61 : decode cX0_joinFree 61 = .ok (.aload_n 0, 1) := by decide +kernel
theorem dX0_joinFree_62 : decode cX0_joinFree 62 = .ok (.iload 5, 2) := by decide +kernel
theorem dX0_joinFree_64 : decode cX0_joinFree 64 = .ok (.iload_n 3, 1) := by decide +kernel
theorem dX0_joinFree_65 : decode cX0_joinFree 65 = .ok (.imul, 1) := by decide +kernel
theorem dX0_joinFree_66 : decode cX0_joinFree 66 = .ok (.iload 6, 2) := by decide +kernel
theorem dX0_joinFree_68 : decode cX0_joinFree 68 = .ok (.iload_n 3, 1) := by decide +kernel
theorem dX0_joinFree_69 : decode cX0_joinFree 69 = .ok (.imul, 1) := by decide +kernel
theorem dX0_joinFree_70 : decode cX0_joinFree 70 = .ok (.invokevirtual 57, 3) := by decide +kernel
theorem dX0_joinFree_73 : decode cX0_joinFree 73 = .ok (.ifCond .eq 25, 3) := by decide +kernel
theorem dX0_joinFree_76 : decode cX0_joinFree 76 = .ok (.aload_n 0, 1) := by decide +kernel
theorem dX0_joinFree_77 : decode cX0_joinFree 77 = .ok (.iload 5, 2) := by decide +kernel
theorem dX0_joinFree_79 : decode cX0_joinFree 79 = .ok (.iload_n 3, 1) := by decide +kernel
theorem dX0_joinFree_80 : decode cX0_joinFree 80 = .ok (.imul, 1) := by decide +kernel
theorem dX0_joinFree_81 : decode cX0_joinFree 81 = .ok (.iload 6, 2) := by decide +kernel
theorem dX0_joinFree_83 : decode cX0_joinFree 83 = .ok (.iload_n 3, 1) := by decide +kernel
theorem dX0_joinFree_84 : decode cX0_joinFree 84 = .ok (.imul, 1) := by decide +kernel
theorem dX0_joinFree_85 : decode cX0_joinFree 85 = .ok (.invokevirtual 25, 3) := by decide +kernel
theorem dX0_joinFree_88 : decode cX0_joinFree 88 = .ok (.aload_n 1, 1) := by decide +kernel
theorem dX0_joinFree_89 : decode cX0_joinFree 89 = .ok (.iload 5, 2) := by decide +kernel
theorem dX0_joinFree_91 : decode cX0_joinFree 91 = .ok (.iconst 0, 1) := by decide +kernel
theorem dX0_joinFree_92 : decode cX0_joinFree 92 = .ok (.bastore, 1) := by decide +kernel
theorem dX0_joinFree_93 : decode cX0_joinFree 93 = .ok (.aload_n 1, 1) := by decide +kernel
theorem dX0_joinFree_94 : decode cX0_joinFree 94 = .ok (.iload 6, 2) := by decide +kernel
theorem dX0_joinFree_96 : decode cX0_joinFree 96 = .ok (.iconst 0, 1) := by decide +kernel
theorem dX0_joinFree_97 : decode cX0_joinFree 97 = .ok (.bastore, 1) := by decide +kernel
theorem dX0_joinFree_98 : decode cX0_joinFree 98 = .ok (.iinc 6 1, 3) := by decide +kernel
theorem dX0_joinFree_101 : decode cX0_joinFree 101 = .ok (.goto (-61), 3) := by decide +kernel
theorem dX0_joinFree_104 : decode cX0_joinFree 104 = .ok (.iinc 5 1, 3) := by decide +kernel
theorem dX0_joinFree_107 : decode cX0_joinFree 107 = .ok (.goto (-80), 3) := by decide +kernel
theorem dX0_joinFree_110 : decode cX0_joinFree 110 = .ok (.return_, 1) := by decide +kernel
theorem dX0_join_0 : decode cX0_join 0 = .ok (.aload_n 0, 1) := by decide +kernel
theorem dX0_join_1 : decode cX0_join 1 = .ok (.getfield 21, 3) := by decide +kernel
theorem dX0_join_4 : decode cX0_join 4 = .ok (.sipush 236, 3) := by decide +kernel
theorem dX0_join_7 : decode cX0_join 7 = .ok (.if_icmp .ge 33, 3) := by decide +kernel
theorem dX0_join_10 : decode cX0_join 10 = .ok (.aload_n 0, 1) := by decide +kernel
theorem dX0_join_11 : decode cX0_join 11 = .ok (.getfield 9, 3) := by decide +kernel
theorem dX0_join_14 : decode cX0_join 14 = .ok (.aload_n 0, 1) := by decide +kernel
theorem dX0_join_15 : decode cX0_join 15 = .ok (.getfield 21, 3) := by decide +kernel
theorem dX0_join_18 : decode cX0_join 18 = .ok (.iload_n 1, 1) := by decide +kernel
theorem dX0_join_19 : decode cX0_join 19 = .ok (.iastore, 1) := by decide +kernel
theorem dX0_join_20 : decode cX0_join 20 = .ok (.aload_n 0, 1) := by decide +kernel
theorem dX0_join_21 : decode cX0_join 21 = .ok (.getfield 15, 3) := by decide +kernel
theorem dX0_join_24 : decode cX0_join 24 = .ok (.aload_n 0, 1) := by decide +kernel
theorem dX0_join_25 : decode cX0_join 25 = .ok (.getfield 21, 3) := by decide +kernel
theorem dX0_join_28 : decode cX0_join 28 = .ok (.iload_n 2, 1) := by decide +kernel
theorem dX0_join_29 : decode cX0_join 29 = .ok (.iastore, 1) := by decide +kernel
theorem dX0_join_30 : decode cX0_join 30 = .ok (.aload_n 0, 1) := by decide +kernel
theorem dX0_join_31 : decode cX0_join 31 = .ok (.dup, 1) := by decide +kernel
theorem dX0_join_32 : decode cX0_join 32 = .ok (.getfield 21, 3) := by decide +kernel
theorem dX0_join_35 : decode cX0_join 35 = .ok (.iconst 1, 1) := by decide +kernel
theorem dX0_join_36 : decode cX0_join 36 = .ok (.iadd, 1) := by decide +kernel
theorem dX0_join_37 : decode cX0_join 37 = .ok (.putfield 21, 3) := by decide +kernel
theorem dX0_join_40 : decode cX0_join 40 = .ok (.return_, 1) := by decide +kernel
theorem dX0_crossesNone_0 : decode cX0_crossesNone 0 = .ok (.iconst 0, 1) := by decide +kernel
theorem dX0_crossesNone_1 : decode cX0_crossesNone 1 = .ok (.istore_n 3, 1) := by decide +kernel
theorem dX0_crossesNone_2 : decode cX0_crossesNone 2 = .ok (.iload_n 3, 1) := by decide +kernel
theorem dX0_crossesNone_3 : decode cX0_crossesNone 3 = .ok (.aload_n 0, 1) := by decide +kernel
theorem dX0_crossesNone_4 : decode cX0_crossesNone 4 = .ok (.getfield 21, 3) := by decide +kernel
theorem dX0_crossesNone_7 : decode cX0_crossesNone 7 = .ok (.if_icmp .ge 73, 3) := by decide +kernel
theorem dX0_crossesNone_10 : decode cX0_crossesNone 10 = .ok (.iload_n 1, 1) := by decide +kernel
theorem dX0_crossesNone_11 : decode cX0_crossesNone 11 = .ok (.i2l, 1) := by decide +kernel
theorem dX0_crossesNone_12 : decode cX0_crossesNone 12 = .ok (.aload_n 0, 1) := by decide +kernel
theorem dX0_crossesNone_13 : decode cX0_crossesNone 13 = .ok (.getfield 9, 3) := by decide +kernel
theorem dX0_crossesNone_16 : decode cX0_crossesNone 16 = .ok (.iload_n 3, 1) := by decide +kernel
theorem dX0_crossesNone_17 : decode cX0_crossesNone 17 = .ok (.iaload, 1) := by decide +kernel
theorem dX0_crossesNone_18 : decode cX0_crossesNone 18 = .ok (.i2l, 1) := by decide +kernel
theorem dX0_crossesNone_19 : decode cX0_crossesNone 19 = .ok (.invokestatic 61, 3) := by decide +kernel
theorem dX0_crossesNone_22 : decode cX0_crossesNone 22 = .ok (.iload_n 1, 1) := by decide +kernel
theorem dX0_crossesNone_23 : decode cX0_crossesNone 23 = .ok (.i2l, 1) := by decide +kernel
theorem dX0_crossesNone_24 : decode cX0_crossesNone 24 = .ok (.aload_n 0, 1) := by decide +kernel
theorem dX0_crossesNone_25 : decode cX0_crossesNone 25 = .ok (.getfield 15, 3) := by decide +kernel
theorem dX0_crossesNone_28 : decode cX0_crossesNone 28 = .ok (.iload_n 3, 1) := by decide +kernel
theorem dX0_crossesNone_29 : decode cX0_crossesNone 29 = .ok (.iaload, 1) := by decide +kernel
theorem dX0_crossesNone_30 : decode cX0_crossesNone 30 = .ok (.i2l, 1) := by decide +kernel
theorem dX0_crossesNone_31 : decode cX0_crossesNone 31 = .ok (.invokestatic 61, 3) := by decide +kernel
theorem dX0_crossesNone_34 : decode cX0_crossesNone 34 = .ok (.imul, 1) := by decide +kernel
theorem dX0_crossesNone_35 : decode cX0_crossesNone 35 = .ok (.istore 4, 2) := by decide +kernel
theorem dX0_crossesNone_37 : decode cX0_crossesNone 37 = .ok (.iload_n 2, 1) := by decide +kernel
theorem dX0_crossesNone_38 : decode cX0_crossesNone 38 = .ok (.i2l, 1) := by decide +kernel
theorem dX0_crossesNone_39 : decode cX0_crossesNone 39 = .ok (.aload_n 0, 1) := by decide +kernel
theorem dX0_crossesNone_40 : decode cX0_crossesNone 40 = .ok (.getfield 9, 3) := by decide +kernel
theorem dX0_crossesNone_43 : decode cX0_crossesNone 43 = .ok (.iload_n 3, 1) := by decide +kernel
theorem dX0_crossesNone_44 : decode cX0_crossesNone 44 = .ok (.iaload, 1) := by decide +kernel
theorem dX0_crossesNone_45 : decode cX0_crossesNone 45 = .ok (.i2l, 1) := by decide +kernel
theorem dX0_crossesNone_46 : decode cX0_crossesNone 46 = .ok (.invokestatic 61, 3) := by decide +kernel
theorem dX0_crossesNone_49 : decode cX0_crossesNone 49 = .ok (.iload_n 2, 1) := by decide +kernel
theorem dX0_crossesNone_50 : decode cX0_crossesNone 50 = .ok (.i2l, 1) := by decide +kernel
theorem dX0_crossesNone_51 : decode cX0_crossesNone 51 = .ok (.aload_n 0, 1) := by decide +kernel
theorem dX0_crossesNone_52 : decode cX0_crossesNone 52 = .ok (.getfield 15, 3) := by decide +kernel
theorem dX0_crossesNone_55 : decode cX0_crossesNone 55 = .ok (.iload_n 3, 1) := by decide +kernel
theorem dX0_crossesNone_56 : decode cX0_crossesNone 56 = .ok (.iaload, 1) := by decide +kernel
theorem dX0_crossesNone_57 : decode cX0_crossesNone 57 = .ok (.i2l, 1) := by decide +kernel
theorem dX0_crossesNone_58 : decode cX0_crossesNone 58 = .ok (.invokestatic 61, 3) := by decide +kernel
theorem dX0_crossesNone_61 : decode cX0_crossesNone 61 = .ok (.imul, 1) := by decide +kernel
theorem dX0_crossesNone_62 : decode cX0_crossesNone 62 = .ok (.istore 5, 2) := by decide +kernel
theorem dX0_crossesNone_64 : decode cX0_crossesNone 64 = .ok (.iload 4, 2) := by decide +kernel
theorem dX0_crossesNone_66 : decode cX0_crossesNone 66 = .ok (.iload 5, 2) := by decide +kernel
theorem dX0_crossesNone_68 : decode cX0_crossesNone 68 = .ok (.imul, 1) := by decide +kernel
theorem dX0_crossesNone_69 : decode cX0_crossesNone 69 = .ok (.ifCond .ge 5, 3) := by decide +kernel
theorem dX0_crossesNone_72 : decode cX0_crossesNone 72 = .ok (.iconst 0, 1) := by decide +kernel
theorem dX0_crossesNone_73 : decode cX0_crossesNone 73 = .ok (.ireturn, 1) := by decide +kernel
theorem dX0_crossesNone_74 : decode cX0_crossesNone 74 = .ok (.iinc 3 1, 3) := by decide +kernel
theorem dX0_crossesNone_77 : decode cX0_crossesNone 77 = .ok (.goto (-75), 3) := by decide +kernel
theorem dX0_crossesNone_80 : decode cX0_crossesNone 80 = .ok (.iconst 1, 1) := by decide +kernel
theorem dX0_crossesNone_81 : decode cX0_crossesNone 81 = .ok (.ireturn, 1) := by decide +kernel
theorem dX0_isMade_0 : decode cX0_isMade 0 = .ok (.iload_n 1, 1) := by decide +kernel
theorem dX0_isMade_1 : decode cX0_isMade 1 = .ok (.ifCond .lt 15, 3) := by decide +kernel
theorem dX0_isMade_4 : decode cX0_isMade 4 = .ok (.iload_n 1, 1) := by decide +kernel
theorem dX0_isMade_5 : decode cX0_isMade 5 = .ok (.aload_n 0, 1) := by decide +kernel
theorem dX0_isMade_6 : decode cX0_isMade 6 = .ok (.getfield 21, 3) := by decide +kernel
theorem dX0_isMade_9 : decode cX0_isMade 9 = .ok (.if_icmp .ge 7, 3) := by decide +kernel
theorem dX0_isMade_12 : decode cX0_isMade 12 = .ok (.iconst 1, 1) := by decide +kernel
theorem dX0_isMade_13 : decode cX0_isMade 13 = .ok (.goto 4, 3) := by decide +kernel
theorem dX0_isMade_16 : decode cX0_isMade 16 = .ok (.iconst 0, 1) := by decide +kernel
theorem dX0_isMade_17 : decode cX0_isMade 17 = .ok (.ireturn, 1) := by decide +kernel
theorem dX0_amountUpTo_0 : decode cX0_amountUpTo 0 = .ok (.iload_n 1, 1) := by decide +kernel
theorem dX0_amountUpTo_1 : decode cX0_amountUpTo 1 = .ok (.iconst 1, 1) := by decide +kernel
theorem dX0_amountUpTo_2 : decode cX0_amountUpTo 2 = .ok (.if_icmp .lt 21, 3) := by decide +kernel
theorem dX0_amountUpTo_5 : decode cX0_amountUpTo 5 = .ok (.iload_n 1, 1) := by decide +kernel
theorem dX0_amountUpTo_6 : decode cX0_amountUpTo 6 = .ok (.aload_n 0, 1) := by decide +kernel
theorem dX0_amountUpTo_7 : decode cX0_amountUpTo 7 = .ok (.getfield 18, 3) := by decide +kernel
theorem dX0_amountUpTo_10 : decode cX0_amountUpTo 10 = .ok (.arraylength, 1) := by decide +kernel
theorem dX0_amountUpTo_11 : decode cX0_amountUpTo 11 = .ok (.if_icmp .ge 12, 3) := by decide +kernel
theorem dX0_amountUpTo_14 : decode cX0_amountUpTo 14 = .ok (.aload_n 0, 1) := by decide +kernel
theorem dX0_amountUpTo_15 : decode cX0_amountUpTo 15 = .ok (.getfield 18, 3) := by decide +kernel
theorem dX0_amountUpTo_18 : decode cX0_amountUpTo 18 = .ok (.iload_n 1, 1) := by decide +kernel
theorem dX0_amountUpTo_19 : decode cX0_amountUpTo 19 = .ok (.iaload, 1) := by decide +kernel
theorem dX0_amountUpTo_20 : decode cX0_amountUpTo 20 = .ok (.goto 4, 3) := by decide +kernel
theorem dX0_amountUpTo_23 : decode cX0_amountUpTo 23 = .ok (.iconst 0, 1) := by decide +kernel
theorem dX0_amountUpTo_24 : decode cX0_amountUpTo 24 = .ok (.ireturn, 1) := by decide +kernel
theorem dX0_amountOf_0 : decode cX0_amountOf 0 = .ok (.aload_n 0, 1) := by decide +kernel
theorem dX0_amountOf_1 : decode cX0_amountOf 1 = .ok (.iload_n 1, 1) := by decide +kernel
theorem dX0_amountOf_2 : decode cX0_amountOf 2 = .ok (.invokevirtual 65, 3) := by decide +kernel
theorem dX0_amountOf_5 : decode cX0_amountOf 5 = .ok (.aload_n 0, 1) := by decide +kernel
theorem dX0_amountOf_6 : decode cX0_amountOf 6 = .ok (.iload_n 1, 1) := by decide +kernel
theorem dX0_amountOf_7 : decode cX0_amountOf 7 = .ok (.iconst 1, 1) := by decide +kernel
theorem dX0_amountOf_8 : decode cX0_amountOf 8 = .ok (.isub, 1) := by decide +kernel
theorem dX0_amountOf_9 : decode cX0_amountOf 9 = .ok (.invokevirtual 65, 3) := by decide +kernel
theorem dX0_amountOf_12 : decode cX0_amountOf 12 = .ok (.isub, 1) := by decide +kernel
theorem dX0_amountOf_13 : decode cX0_amountOf 13 = .ok (.ireturn, 1) := by decide +kernel
theorem dX0_lengthOf_0 : decode cX0_lengthOf 0 = .ok (.iconst 1, 1) := by decide +kernel
theorem dX0_lengthOf_1 : decode cX0_lengthOf 1 = .ok (.istore_n 2, 1) := by decide +kernel
theorem dX0_lengthOf_2 : decode cX0_lengthOf 2 = .ok (.iload_n 2, 1) := by decide +kernel
theorem dX0_lengthOf_3 : decode cX0_lengthOf 3 = .ok (.bipush 8, 2) := by decide +kernel
theorem dX0_lengthOf_5 : decode cX0_lengthOf 5 = .ok (.if_icmp .ge 18, 3) := by decide +kernel
theorem dX0_lengthOf_8 : decode cX0_lengthOf 8 = .ok (.iload_n 1, 1) := by decide +kernel
theorem dX0_lengthOf_9 : decode cX0_lengthOf 9 = .ok (.aload_n 0, 1) := by decide +kernel
theorem dX0_lengthOf_10 : decode cX0_lengthOf 10 = .ok (.iload_n 2, 1) := by decide +kernel
theorem dX0_lengthOf_11 : decode cX0_lengthOf 11 = .ok (.invokevirtual 65, 3) := by decide +kernel
theorem dX0_lengthOf_14 : decode cX0_lengthOf 14 = .ok (.if_icmp .lt 9, 3) := by decide +kernel
theorem dX0_lengthOf_17 : decode cX0_lengthOf 17 = .ok (.iinc 2 1, 3) := by decide +kernel
theorem dX0_lengthOf_20 : decode cX0_lengthOf 20 = .ok (.goto (-18), 3) := by decide +kernel
theorem dX0_lengthOf_23 : decode cX0_lengthOf 23 = .ok (.iload_n 2, 1) := by decide +kernel
theorem dX0_lengthOf_24 : decode cX0_lengthOf 24 = .ok (.ireturn, 1) := by decide +kernel
theorem dX0_pairWith_0 : decode cX0_pairWith 0 = .ok (.iconst 0, 1) := by decide +kernel
theorem dX0_pairWith_1 : decode cX0_pairWith 1 = .ok (.istore_n 2, 1) := by decide +kernel
theorem dX0_pairWith_2 : decode cX0_pairWith 2 = .ok (.iload_n 2, 1) := by decide +kernel
theorem dX0_pairWith_3 : decode cX0_pairWith 3 = .ok (.aload_n 0, 1) := by decide +kernel
theorem dX0_pairWith_4 : decode cX0_pairWith 4 = .ok (.getfield 21, 3) := by decide +kernel
theorem dX0_pairWith_7 : decode cX0_pairWith 7 = .ok (.if_icmp .ge 31, 3) := by decide +kernel
theorem dX0_pairWith_10 : decode cX0_pairWith 10 = .ok (.aload_n 0, 1) := by decide +kernel
theorem dX0_pairWith_11 : decode cX0_pairWith 11 = .ok (.getfield 9, 3) := by decide +kernel
theorem dX0_pairWith_14 : decode cX0_pairWith 14 = .ok (.iload_n 2, 1) := by decide +kernel
theorem dX0_pairWith_15 : decode cX0_pairWith 15 = .ok (.iaload, 1) := by decide +kernel
theorem dX0_pairWith_16 : decode cX0_pairWith 16 = .ok (.iload_n 1, 1) := by decide +kernel
theorem dX0_pairWith_17 : decode cX0_pairWith 17 = .ok (.if_icmp .eq 13, 3) := by decide +kernel
theorem dX0_pairWith_20 : decode cX0_pairWith 20 = .ok (.aload_n 0, 1) := by decide +kernel
theorem dX0_pairWith_21 : decode cX0_pairWith 21 = .ok (.getfield 15, 3) := by decide +kernel
theorem dX0_pairWith_24 : decode cX0_pairWith 24 = .ok (.iload_n 2, 1) := by decide +kernel
theorem dX0_pairWith_25 : decode cX0_pairWith 25 = .ok (.iaload, 1) := by decide +kernel
theorem dX0_pairWith_26 : decode cX0_pairWith 26 = .ok (.iload_n 1, 1) := by decide +kernel
theorem dX0_pairWith_27 : decode cX0_pairWith 27 = .ok (.if_icmp .ne 5, 3) := by decide +kernel
theorem dX0_pairWith_30 : decode cX0_pairWith 30 = .ok (.iload_n 2, 1) := by decide +kernel
theorem dX0_pairWith_31 : decode cX0_pairWith 31 = .ok (.ireturn, 1) := by decide +kernel
theorem dX0_pairWith_32 : decode cX0_pairWith 32 = .ok (.iinc 2 1, 3) := by decide +kernel
theorem dX0_pairWith_35 : decode cX0_pairWith 35 = .ok (.goto (-33), 3) := by decide +kernel
theorem dX0_pairWith_38 : decode cX0_pairWith 38 = .ok (.iconst (-1), 1) := by decide +kernel
theorem dX0_pairWith_39 : decode cX0_pairWith 39 = .ok (.ireturn, 1) := by decide +kernel
theorem dX0_otherEnd_0 : decode cX0_otherEnd 0 = .ok (.aload_n 0, 1) := by decide +kernel
theorem dX0_otherEnd_1 : decode cX0_otherEnd 1 = .ok (.iload_n 1, 1) := by decide +kernel
theorem dX0_otherEnd_2 : decode cX0_otherEnd 2 = .ok (.invokevirtual 68, 3) := by decide +kernel
theorem dX0_otherEnd_5 : decode cX0_otherEnd 5 = .ok (.ifCond .ne 5, 3) := by decide +kernel
theorem dX0_otherEnd_8 : decode cX0_otherEnd 8 = .ok (.iload_n 2, 1) := by decide +kernel
theorem dX0_otherEnd_9 : decode cX0_otherEnd 9 = .ok (.ireturn, 1) := by decide +kernel
theorem dX0_otherEnd_10 : decode cX0_otherEnd 10 = .ok (.aload_n 0, 1) := by decide +kernel
theorem dX0_otherEnd_11 : decode cX0_otherEnd 11 = .ok (.getfield 9, 3) := by decide +kernel
theorem dX0_otherEnd_14 : decode cX0_otherEnd 14 = .ok (.iload_n 1, 1) := by decide +kernel
theorem dX0_otherEnd_15 : decode cX0_otherEnd 15 = .ok (.iaload, 1) := by decide +kernel
theorem dX0_otherEnd_16 : decode cX0_otherEnd 16 = .ok (.iload_n 2, 1) := by decide +kernel
theorem dX0_otherEnd_17 : decode cX0_otherEnd 17 = .ok (.if_icmp .ne 12, 3) := by decide +kernel
theorem dX0_otherEnd_20 : decode cX0_otherEnd 20 = .ok (.aload_n 0, 1) := by decide +kernel
theorem dX0_otherEnd_21 : decode cX0_otherEnd 21 = .ok (.getfield 15, 3) := by decide +kernel
theorem dX0_otherEnd_24 : decode cX0_otherEnd 24 = .ok (.iload_n 1, 1) := by decide +kernel
theorem dX0_otherEnd_25 : decode cX0_otherEnd 25 = .ok (.iaload, 1) := by decide +kernel
theorem dX0_otherEnd_26 : decode cX0_otherEnd 26 = .ok (.goto 9, 3) := by decide +kernel
theorem dX0_otherEnd_29 : decode cX0_otherEnd 29 = .ok (.aload_n 0, 1) := by decide +kernel
theorem dX0_otherEnd_30 : decode cX0_otherEnd 30 = .ok (.getfield 9, 3) := by decide +kernel
theorem dX0_otherEnd_33 : decode cX0_otherEnd 33 = .ok (.iload_n 1, 1) := by decide +kernel
theorem dX0_otherEnd_34 : decode cX0_otherEnd 34 = .ok (.iaload, 1) := by decide +kernel
theorem dX0_otherEnd_35 : decode cX0_otherEnd 35 = .ok (.ireturn, 1) := by decide +kernel
theorem dX0_digitsOf_0 : decode cX0_digitsOf 0 = .ok (.aload_n 0, 1) := by decide +kernel
theorem dX0_digitsOf_1 : decode cX0_digitsOf 1 = .ok (.iload_n 1, 1) := by decide +kernel
theorem dX0_digitsOf_2 : decode cX0_digitsOf 2 = .ok (.invokevirtual 68, 3) := by decide +kernel
theorem dX0_digitsOf_5 : decode cX0_digitsOf 5 = .ok (.ifCond .ne 5, 3) := by decide +kernel
theorem dX0_digitsOf_8 : decode cX0_digitsOf 8 = .ok (.iconst 0, 1) := by decide +kernel
theorem dX0_digitsOf_9 : decode cX0_digitsOf 9 = .ok (.ireturn, 1) := by decide +kernel
theorem dX0_digitsOf_10 : decode cX0_digitsOf 10 = .ok (.iload_n 2, 1) := by decide +kernel
theorem dX0_digitsOf_11 : decode cX0_digitsOf 11 = .ok (.ifCond .ne 13, 3) := by decide +kernel
theorem dX0_digitsOf_14 : decode cX0_digitsOf 14 = .ok (.aload_n 0, 1) := by decide +kernel
theorem dX0_digitsOf_15 : decode cX0_digitsOf 15 = .ok (.getfield 9, 3) := by decide +kernel
theorem dX0_digitsOf_18 : decode cX0_digitsOf 18 = .ok (.iload_n 1, 1) := by decide +kernel
theorem dX0_digitsOf_19 : decode cX0_digitsOf 19 = .ok (.iaload, 1) := by decide +kernel
theorem dX0_digitsOf_20 : decode cX0_digitsOf 20 = .ok (.i2l, 1) := by decide +kernel
theorem dX0_digitsOf_21 : decode cX0_digitsOf 21 = .ok (.goto 10, 3) := by decide +kernel
theorem dX0_digitsOf_24 : decode cX0_digitsOf 24 = .ok (.aload_n 0, 1) := by decide +kernel
theorem dX0_digitsOf_25 : decode cX0_digitsOf 25 = .ok (.getfield 15, 3) := by decide +kernel
theorem dX0_digitsOf_28 : decode cX0_digitsOf 28 = .ok (.iload_n 1, 1) := by decide +kernel
theorem dX0_digitsOf_29 : decode cX0_digitsOf 29 = .ok (.iaload, 1) := by decide +kernel
theorem dX0_digitsOf_30 : decode cX0_digitsOf 30 = .ok (.i2l, 1) := by decide +kernel
theorem dX0_digitsOf_31 : decode cX0_digitsOf 31 = .ok (.ldc2_w 46, 3) := by decide +kernel
theorem dX0_digitsOf_34 : decode cX0_digitsOf 34 = .ok (.iload_n 3, 1) := by decide +kernel
theorem dX0_digitsOf_35 : decode cX0_digitsOf 35 = .ok (.invokestatic 29, 3) := by decide +kernel
theorem dX0_digitsOf_38 : decode cX0_digitsOf 38 = .ok (.i2l, 1) := by decide +kernel
theorem dX0_digitsOf_39 : decode cX0_digitsOf 39 = .ok (.invokestatic 48, 3) := by decide +kernel
theorem dX0_digitsOf_42 : decode cX0_digitsOf 42 = .ok (.invokestatic 48, 3) := by decide +kernel
theorem dX0_digitsOf_45 : decode cX0_digitsOf 45 = .ok (.l2i, 1) := by decide +kernel
theorem dX0_digitsOf_46 : decode cX0_digitsOf 46 = .ok (.ireturn, 1) := by decide +kernel
theorem dX0_holdsTurn_0 : decode cX0_holdsTurn 0 = .ok (.aload_n 2, 1) := by decide +kernel
theorem dX0_holdsTurn_1 : decode cX0_holdsTurn 1 = .ok (.getfield 72, 3) := by decide +kernel
theorem dX0_holdsTurn_4 : decode cX0_holdsTurn 4 = .ok (.i2l, 1) := by decide +kernel
theorem dX0_holdsTurn_5 : decode cX0_holdsTurn 5 = .ok (.ldc2_w 46, 3) := by decide +kernel
theorem dX0_holdsTurn_8 : decode cX0_holdsTurn 8 = .ok (.lmul, 1) := by decide +kernel
theorem dX0_holdsTurn_9 : decode cX0_holdsTurn 9 = .ok (.lstore_n 3, 1) := by decide +kernel
theorem dX0_holdsTurn_10 : decode cX0_holdsTurn 10 = .ok (.aload_n 0, 1) := by decide +kernel
theorem dX0_holdsTurn_11 : decode cX0_holdsTurn 11 = .ok (.iload_n 1, 1) := by decide +kernel
theorem dX0_holdsTurn_12 : decode cX0_holdsTurn 12 = .ok (.invokevirtual 68, 3) := by decide +kernel
theorem dX0_holdsTurn_15 : decode cX0_holdsTurn 15 = .ok (.ifCond .eq 43, 3) := by decide +kernel
theorem dX0_holdsTurn_18 : decode cX0_holdsTurn 18 = .ok (.aload_n 0, 1) := by decide +kernel
theorem dX0_holdsTurn_19 : decode cX0_holdsTurn 19 = .ok (.getfield 9, 3) := by decide +kernel
theorem dX0_holdsTurn_22 : decode cX0_holdsTurn 22 = .ok (.iload_n 1, 1) := by decide +kernel
theorem dX0_holdsTurn_23 : decode cX0_holdsTurn 23 = .ok (.iaload, 1) := by decide +kernel
theorem dX0_holdsTurn_24 : decode cX0_holdsTurn 24 = .ok (.i2l, 1) := by decide +kernel
theorem dX0_holdsTurn_25 : decode cX0_holdsTurn 25 = .ok (.aload_n 2, 1) := by decide +kernel
theorem dX0_holdsTurn_26 : decode cX0_holdsTurn 26 = .ok (.getfield 75, 3) := by decide +kernel
theorem dX0_holdsTurn_29 : decode cX0_holdsTurn 29 = .ok (.i2l, 1) := by decide +kernel
theorem dX0_holdsTurn_30 : decode cX0_holdsTurn 30 = .ok (.lmul, 1) := by decide +kernel
theorem dX0_holdsTurn_31 : decode cX0_holdsTurn 31 = .ok (.lload_n 3, 1) := by decide +kernel
theorem dX0_holdsTurn_32 : decode cX0_holdsTurn 32 = .ok (.lcmp, 1) := by decide +kernel
theorem dX0_holdsTurn_33 : decode cX0_holdsTurn 33 = .ok (.ifCond .gt 25, 3) := by decide +kernel
theorem dX0_holdsTurn_36 : decode cX0_holdsTurn 36 = .ok (.lload_n 3, 1) := by decide +kernel
theorem dX0_holdsTurn_37 : decode cX0_holdsTurn 37 = .ok (.aload_n 0, 1) := by decide +kernel
theorem dX0_holdsTurn_38 : decode cX0_holdsTurn 38 = .ok (.getfield 15, 3) := by decide +kernel
theorem dX0_holdsTurn_41 : decode cX0_holdsTurn 41 = .ok (.iload_n 1, 1) := by decide +kernel
theorem dX0_holdsTurn_42 : decode cX0_holdsTurn 42 = .ok (.iaload, 1) := by decide +kernel
theorem dX0_holdsTurn_43 : decode cX0_holdsTurn 43 = .ok (.i2l, 1) := by decide +kernel
theorem dX0_holdsTurn_44 : decode cX0_holdsTurn 44 = .ok (.aload_n 2, 1) := by decide +kernel
theorem dX0_holdsTurn_45 : decode cX0_holdsTurn 45 = .ok (.getfield 75, 3) := by decide +kernel
theorem dX0_holdsTurn_48 : decode cX0_holdsTurn 48 = .ok (.i2l, 1) := by decide +kernel
theorem dX0_holdsTurn_49 : decode cX0_holdsTurn 49 = .ok (.lmul, 1) := by decide +kernel
theorem dX0_holdsTurn_50 : decode cX0_holdsTurn 50 = .ok (.lcmp, 1) := by decide +kernel
theorem dX0_holdsTurn_51 : decode cX0_holdsTurn 51 = .ok (.ifCond .gt 7, 3) := by decide +kernel
theorem dX0_holdsTurn_54 : decode cX0_holdsTurn 54 = .ok (.iconst 1, 1) := by decide +kernel
theorem dX0_holdsTurn_55 : decode cX0_holdsTurn 55 = .ok (.goto 4, 3) := by decide +kernel
theorem dX0_holdsTurn_58 : decode cX0_holdsTurn 58 = .ok (.iconst 0, 1) := by decide +kernel
theorem dX0_holdsTurn_59 : decode cX0_holdsTurn 59 = .ok (.ireturn, 1) := by decide +kernel
theorem dX0_holdsPair_0 : decode cX0_holdsPair 0 = .ok (.aload_n 0, 1) := by decide +kernel
theorem dX0_holdsPair_1 : decode cX0_holdsPair 1 = .ok (.iload_n 1, 1) := by decide +kernel
theorem dX0_holdsPair_2 : decode cX0_holdsPair 2 = .ok (.invokevirtual 68, 3) := by decide +kernel
theorem dX0_holdsPair_5 : decode cX0_holdsPair 5 = .ok (.ifCond .eq 45, 3) := by decide +kernel
theorem dX0_holdsPair_8 : decode cX0_holdsPair 8 = .ok (.aload_n 0, 1) := by decide +kernel
theorem dX0_holdsPair_9 : decode cX0_holdsPair 9 = .ok (.iload_n 2, 1) := by decide +kernel
theorem dX0_holdsPair_10 : decode cX0_holdsPair 10 = .ok (.invokevirtual 68, 3) := by decide +kernel
theorem dX0_holdsPair_13 : decode cX0_holdsPair 13 = .ok (.ifCond .eq 37, 3) := by decide +kernel
theorem dX0_holdsPair_16 : decode cX0_holdsPair 16 = .ok (.aload_n 0, 1) := by decide +kernel
theorem dX0_holdsPair_17 : decode cX0_holdsPair 17 = .ok (.getfield 9, 3) := by decide +kernel
theorem dX0_holdsPair_20 : decode cX0_holdsPair 20 = .ok (.iload_n 1, 1) := by decide +kernel
theorem dX0_holdsPair_21 : decode cX0_holdsPair 21 = .ok (.iaload, 1) := by decide +kernel
theorem dX0_holdsPair_22 : decode cX0_holdsPair 22 = .ok (.aload_n 0, 1) := by decide +kernel
theorem dX0_holdsPair_23 : decode cX0_holdsPair 23 = .ok (.getfield 9, 3) := by decide +kernel
theorem dX0_holdsPair_26 : decode cX0_holdsPair 26 = .ok (.iload_n 2, 1) := by decide +kernel
theorem dX0_holdsPair_27 : decode cX0_holdsPair 27 = .ok (.iaload, 1) := by decide +kernel
theorem dX0_holdsPair_28 : decode cX0_holdsPair 28 = .ok (.if_icmp .gt 22, 3) := by decide +kernel
theorem dX0_holdsPair_31 : decode cX0_holdsPair 31 = .ok (.aload_n 0, 1) := by decide +kernel
theorem dX0_holdsPair_32 : decode cX0_holdsPair 32 = .ok (.getfield 15, 3) := by decide +kernel
theorem dX0_holdsPair_35 : decode cX0_holdsPair 35 = .ok (.iload_n 2, 1) := by decide +kernel
theorem dX0_holdsPair_36 : decode cX0_holdsPair 36 = .ok (.iaload, 1) := by decide +kernel
theorem dX0_holdsPair_37 : decode cX0_holdsPair 37 = .ok (.aload_n 0, 1) := by decide +kernel
theorem dX0_holdsPair_38 : decode cX0_holdsPair 38 = .ok (.getfield 15, 3) := by decide +kernel
theorem dX0_holdsPair_41 : decode cX0_holdsPair 41 = .ok (.iload_n 1, 1) := by decide +kernel
theorem dX0_holdsPair_42 : decode cX0_holdsPair 42 = .ok (.iaload, 1) := by decide +kernel
theorem dX0_holdsPair_43 : decode cX0_holdsPair 43 = .ok (.if_icmp .gt 7, 3) := by decide +kernel
theorem dX0_holdsPair_46 : decode cX0_holdsPair 46 = .ok (.iconst 1, 1) := by decide +kernel
theorem dX0_holdsPair_47 : decode cX0_holdsPair 47 = .ok (.goto 4, 3) := by decide +kernel
theorem dX0_holdsPair_50 : decode cX0_holdsPair 50 = .ok (.iconst 0, 1) := by decide +kernel
theorem dX0_holdsPair_51 : decode cX0_holdsPair 51 = .ok (.ireturn, 1) := by decide +kernel
theorem dX0_nextHolder_0 : decode cX0_nextHolder 0 = .ok (.aload_n 0, 1) := by decide +kernel
theorem dX0_nextHolder_1 : decode cX0_nextHolder 1 = .ok (.iload_n 3, 1) := by decide +kernel
theorem dX0_nextHolder_2 : decode cX0_nextHolder 2 = .ok (.invokevirtual 68, 3) := by decide +kernel
theorem dX0_nextHolder_5 : decode cX0_nextHolder 5 = .ok (.ifCond .eq 12, 3) := by decide +kernel
theorem dX0_nextHolder_8 : decode cX0_nextHolder 8 = .ok (.aload_n 0, 1) := by decide +kernel
theorem dX0_nextHolder_9 : decode cX0_nextHolder 9 = .ok (.getfield 9, 3) := by decide +kernel
theorem dX0_nextHolder_12 : decode cX0_nextHolder 12 = .ok (.iload_n 3, 1) := by decide +kernel
theorem dX0_nextHolder_13 : decode cX0_nextHolder 13 = .ok (.iaload, 1) := by decide +kernel
theorem dX0_nextHolder_14 : decode cX0_nextHolder 14 = .ok (.goto 4, 3) := by decide +kernel
theorem dX0_nextHolder_17 : decode cX0_nextHolder 17 = .ok (.iconst (-1), 1) := by decide +kernel
theorem dX0_nextHolder_18 : decode cX0_nextHolder 18 = .ok (.istore 4, 2) := by decide +kernel
theorem dX0_nextHolder_20 : decode cX0_nextHolder 20 = .ok (.iconst (-1), 1) := by decide +kernel
theorem dX0_nextHolder_21 : decode cX0_nextHolder 21 = .ok (.istore 5, 2) := by decide +kernel
theorem dX0_nextHolder_23 : decode cX0_nextHolder 23 = .ok (.iconst 0, 1) := by decide +kernel
theorem dX0_nextHolder_24 : decode cX0_nextHolder 24 = .ok (.istore 6, 2) := by decide +kernel
theorem dX0_nextHolder_26 : decode cX0_nextHolder 26 = .ok (.iload 6, 2) := by decide +kernel
theorem dX0_nextHolder_28 : decode cX0_nextHolder 28 = .ok (.aload_n 0, 1) := by decide +kernel
theorem dX0_nextHolder_29 : decode cX0_nextHolder 29 = .ok (.iload_n 2, 1) := by decide +kernel
theorem dX0_nextHolder_30 : decode cX0_nextHolder 30 = .ok (.invokevirtual 65, 3) := by decide +kernel
theorem dX0_nextHolder_33 : decode cX0_nextHolder 33 = .ok (.if_icmp .ge 57, 3) := by decide +kernel
theorem dX0_nextHolder_36 : decode cX0_nextHolder 36 = .ok (.aload_n 0, 1) := by decide +kernel
theorem dX0_nextHolder_37 : decode cX0_nextHolder 37 = .ok (.iload 6, 2) := by decide +kernel
theorem dX0_nextHolder_39 : decode cX0_nextHolder 39 = .ok (.aload_n 1, 1) := by decide +kernel
theorem dX0_nextHolder_40 : decode cX0_nextHolder 40 = .ok (.invokevirtual 78, 3) := by decide +kernel
theorem dX0_nextHolder_43 : decode cX0_nextHolder 43 = .ok (.ifCond .eq 41, 3) := by decide +kernel
theorem dX0_nextHolder_46 : decode cX0_nextHolder 46 = .ok (.aload_n 0, 1) := by decide +kernel
theorem dX0_nextHolder_47 : decode cX0_nextHolder 47 = .ok (.getfield 9, 3) := by decide +kernel
theorem dX0_nextHolder_50 : decode cX0_nextHolder 50 = .ok (.iload 6, 2) := by decide +kernel
theorem dX0_nextHolder_52 : decode cX0_nextHolder 52 = .ok (.iaload, 1) := by decide +kernel
theorem dX0_nextHolder_53 : decode cX0_nextHolder 53 = .ok (.iload 4, 2) := by decide +kernel
theorem dX0_nextHolder_55 : decode cX0_nextHolder 55 = .ok (.if_icmp .le 29, 3) := by decide +kernel
theorem dX0_nextHolder_58 : decode cX0_nextHolder 58 = .ok (.iload 5, 2) := by decide +kernel
theorem dX0_nextHolder_60 : decode cX0_nextHolder 60 = .ok (.ifCond .lt 20, 3) := by decide +kernel
theorem dX0_nextHolder_63 : decode cX0_nextHolder 63 = .ok (.aload_n 0, 1) := by decide +kernel
theorem dX0_nextHolder_64 : decode cX0_nextHolder 64 = .ok (.getfield 9, 3) := by decide +kernel
theorem dX0_nextHolder_67 : decode cX0_nextHolder 67 = .ok (.iload 6, 2) := by decide +kernel
theorem dX0_nextHolder_69 : decode cX0_nextHolder 69 = .ok (.iaload, 1) := by decide +kernel
theorem dX0_nextHolder_70 : decode cX0_nextHolder 70 = .ok (.aload_n 0, 1) := by decide +kernel
theorem dX0_nextHolder_71 : decode cX0_nextHolder 71 = .ok (.getfield 9, 3) := by decide +kernel
theorem dX0_nextHolder_74 : decode cX0_nextHolder 74 = .ok (.iload 5, 2) := by decide +kernel
theorem dX0_nextHolder_76 : decode cX0_nextHolder 76 = .ok (.iaload, 1) := by decide +kernel
theorem dX0_nextHolder_77 : decode cX0_nextHolder 77 = .ok (.if_icmp .ge 7, 3) := by decide +kernel
theorem dX0_nextHolder_80 : decode cX0_nextHolder 80 = .ok (.iload 6, 2) := by decide +kernel
theorem dX0_nextHolder_82 : decode cX0_nextHolder 82 = .ok (.istore 5, 2) := by decide +kernel
theorem dX0_nextHolder_84 : decode cX0_nextHolder 84 = .ok (.iinc 6 1, 3) := by decide +kernel
theorem dX0_nextHolder_87 : decode cX0_nextHolder 87 = .ok (.goto (-61), 3) := by decide +kernel
theorem dX0_nextHolder_90 : decode cX0_nextHolder 90 = .ok (.iload 5, 2) := by decide +kernel
theorem dX0_nextHolder_92 : decode cX0_nextHolder 92 = .ok (.ireturn, 1) := by decide +kernel
theorem dX0_amountBetween_0 : decode cX0_amountBetween 0 = .ok (.iconst 0, 1) := by decide +kernel
theorem dX0_amountBetween_1 : decode cX0_amountBetween 1 = .ok (.istore 4, 2) := by decide +kernel
theorem dX0_amountBetween_3 : decode cX0_amountBetween 3 = .ok (.iconst 0, 1) := by decide +kernel
theorem dX0_amountBetween_4 : decode cX0_amountBetween 4 = .ok (.istore 5, 2) := by decide +kernel
theorem dX0_amountBetween_6 : decode cX0_amountBetween 6 = .ok (.iload 5, 2) := by decide +kernel
theorem dX0_amountBetween_8 : decode cX0_amountBetween 8 = .ok (.aload_n 0, 1) := by decide +kernel
theorem dX0_amountBetween_9 : decode cX0_amountBetween 9 = .ok (.iload_n 3, 1) := by decide +kernel
theorem dX0_amountBetween_10 : decode cX0_amountBetween 10 = .ok (.invokevirtual 65, 3) := by decide +kernel
theorem dX0_amountBetween_13 : decode cX0_amountBetween 13 = .ok (.if_icmp .ge 44, 3) := by decide +kernel
theorem dX0_amountBetween_16 : decode cX0_amountBetween 16 = .ok (.iload 5, 2) := by decide +kernel
theorem dX0_amountBetween_18 : decode cX0_amountBetween 18 = .ok (.iload_n 1, 1) := by decide +kernel
theorem dX0_amountBetween_19 : decode cX0_amountBetween 19 = .ok (.if_icmp .eq 32, 3) := by decide +kernel
theorem dX0_amountBetween_22 : decode cX0_amountBetween 22 = .ok (.iload 5, 2) := by decide +kernel
theorem dX0_amountBetween_24 : decode cX0_amountBetween 24 = .ok (.iload_n 2, 1) := by decide +kernel
theorem dX0_amountBetween_25 : decode cX0_amountBetween 25 = .ok (.if_icmp .eq 26, 3) := by decide +kernel
theorem dX0_amountBetween_28 : decode cX0_amountBetween 28 = .ok (.aload_n 0, 1) := by decide +kernel
theorem dX0_amountBetween_29 : decode cX0_amountBetween 29 = .ok (.iload_n 1, 1) := by decide +kernel
theorem dX0_amountBetween_30 : decode cX0_amountBetween 30 = .ok (.iload 5, 2) := by decide +kernel
theorem dX0_amountBetween_32 : decode cX0_amountBetween 32 = .ok (.invokevirtual 82, 3) := by decide +kernel
theorem dX0_amountBetween_35 : decode cX0_amountBetween 35 = .ok (.ifCond .eq 16, 3) := by decide +kernel
theorem dX0_amountBetween_38 : decode cX0_amountBetween 38 = .ok (.aload_n 0, 1) := by decide +kernel
theorem dX0_amountBetween_39 : decode cX0_amountBetween 39 = .ok (.iload 5, 2) := by decide +kernel
theorem dX0_amountBetween_41 : decode cX0_amountBetween 41 = .ok (.iload_n 2, 1) := by decide +kernel
theorem dX0_amountBetween_42 : decode cX0_amountBetween 42 = .ok (.invokevirtual 82, 3) := by decide +kernel
theorem dX0_amountBetween_45 : decode cX0_amountBetween 45 = .ok (.ifCond .eq 6, 3) := by decide +kernel
theorem dX0_amountBetween_48 : decode cX0_amountBetween 48 = .ok (.iinc 4 1, 3) := by decide +kernel
theorem dX0_amountBetween_51 : decode cX0_amountBetween 51 = .ok (.iinc 5 1, 3) := by decide +kernel
theorem dX0_amountBetween_54 : decode cX0_amountBetween 54 = .ok (.goto (-48), 3) := by decide +kernel
theorem dX0_amountBetween_57 : decode cX0_amountBetween 57 = .ok (.iload 4, 2) := by decide +kernel
theorem dX0_amountBetween_59 : decode cX0_amountBetween 59 = .ok (.ireturn, 1) := by decide +kernel
theorem dX0_amountInside_0 : decode cX0_amountInside 0 = .ok (.aload_n 0, 1) := by decide +kernel
theorem dX0_amountInside_1 : decode cX0_amountInside 1 = .ok (.iload_n 1, 1) := by decide +kernel
theorem dX0_amountInside_2 : decode cX0_amountInside 2 = .ok (.invokevirtual 68, 3) := by decide +kernel
theorem dX0_amountInside_5 : decode cX0_amountInside 5 = .ok (.ifCond .ne 5, 3) := by decide +kernel
theorem dX0_amountInside_8 : decode cX0_amountInside 8 = .ok (.iconst 0, 1) := by decide +kernel
theorem dX0_amountInside_9 : decode cX0_amountInside 9 = .ok (.ireturn, 1) := by decide +kernel
theorem dX0_amountInside_10 : decode cX0_amountInside 10 = .ok (.aload_n 0, 1) := by decide +kernel
theorem dX0_amountInside_11 : decode cX0_amountInside 11 = .ok (.getfield 15, 3) := by decide +kernel
theorem dX0_amountInside_14 : decode cX0_amountInside 14 = .ok (.iload_n 1, 1) := by decide +kernel
theorem dX0_amountInside_15 : decode cX0_amountInside 15 = .ok (.iaload, 1) := by decide +kernel
theorem dX0_amountInside_16 : decode cX0_amountInside 16 = .ok (.i2l, 1) := by decide +kernel
theorem dX0_amountInside_17 : decode cX0_amountInside 17 = .ok (.iload_n 2, 1) := by decide +kernel
theorem dX0_amountInside_18 : decode cX0_amountInside 18 = .ok (.i2l, 1) := by decide +kernel
theorem dX0_amountInside_19 : decode cX0_amountInside 19 = .ok (.lmul, 1) := by decide +kernel
theorem dX0_amountInside_20 : decode cX0_amountInside 20 = .ok (.ldc2_w 46, 3) := by decide +kernel
theorem dX0_amountInside_23 : decode cX0_amountInside 23 = .ok (.invokestatic 48, 3) := by decide +kernel
theorem dX0_amountInside_26 : decode cX0_amountInside 26 = .ok (.lstore_n 3, 1) := by decide +kernel
theorem dX0_amountInside_27 : decode cX0_amountInside 27 = .ok (.aload_n 0, 1) := by decide +kernel
theorem dX0_amountInside_28 : decode cX0_amountInside 28 = .ok (.getfield 9, 3) := by decide +kernel
theorem dX0_amountInside_31 : decode cX0_amountInside 31 = .ok (.iload_n 1, 1) := by decide +kernel
theorem dX0_amountInside_32 : decode cX0_amountInside 32 = .ok (.iaload, 1) := by decide +kernel
theorem dX0_amountInside_33 : decode cX0_amountInside 33 = .ok (.i2l, 1) := by decide +kernel
theorem dX0_amountInside_34 : decode cX0_amountInside 34 = .ok (.iload_n 2, 1) := by decide +kernel
theorem dX0_amountInside_35 : decode cX0_amountInside 35 = .ok (.i2l, 1) := by decide +kernel
theorem dX0_amountInside_36 : decode cX0_amountInside 36 = .ok (.lmul, 1) := by decide +kernel
theorem dX0_amountInside_37 : decode cX0_amountInside 37 = .ok (.ldc2_w 46, 3) := by decide +kernel
theorem dX0_amountInside_40 : decode cX0_amountInside 40 = .ok (.ladd, 1) := by decide +kernel
theorem dX0_amountInside_41 : decode cX0_amountInside 41 = .ok (.lconst 1, 1) := by decide +kernel
theorem dX0_amountInside_42 : decode cX0_amountInside 42 = .ok (.lsub, 1) := by decide +kernel
theorem dX0_amountInside_43 : decode cX0_amountInside 43 = .ok (.ldc2_w 46, 3) := by decide +kernel
theorem dX0_amountInside_46 : decode cX0_amountInside 46 = .ok (.invokestatic 48, 3) := by decide +kernel
theorem dX0_amountInside_49 : decode cX0_amountInside 49 = .ok (.lstore 5, 2) := by decide +kernel
theorem dX0_amountInside_51 : decode cX0_amountInside 51 = .ok (.lload_n 3, 1) := by decide +kernel
theorem dX0_amountInside_52 : decode cX0_amountInside 52 = .ok (.lload 5, 2) := by decide +kernel
theorem dX0_amountInside_54 : decode cX0_amountInside 54 = .ok (.lsub, 1) := by decide +kernel
theorem dX0_amountInside_55 : decode cX0_amountInside 55 = .ok (.lconst 1, 1) := by decide +kernel
theorem dX0_amountInside_56 : decode cX0_amountInside 56 = .ok (.ladd, 1) := by decide +kernel
theorem dX0_amountInside_57 : decode cX0_amountInside 57 = .ok (.l2i, 1) := by decide +kernel
theorem dX0_amountInside_58 : decode cX0_amountInside 58 = .ok (.ireturn, 1) := by decide +kernel
end
section
theorem dX1_init_0 : decode cX1_init 0 = .ok (.aload_n 0, 1) := by decide +kernel
theorem dX1_init_1 : decode cX1_init 1 = .ok (.invokespecial 1, 3) := by decide +kernel
theorem dX1_init_4 : decode cX1_init 4 = .ok (.aload_n 0, 1) := by decide +kernel
theorem dX1_init_5 : decode cX1_init 5 = .ok (.iload_n 1, 1) := by decide +kernel
theorem dX1_init_6 : decode cX1_init 6 = .ok (.putfield 7, 3) := by decide +kernel
theorem dX1_init_9 : decode cX1_init 9 = .ok (.aload_n 0, 1) := by decide +kernel
theorem dX1_init_10 : decode cX1_init 10 = .ok (.iload_n 2, 1) := by decide +kernel
theorem dX1_init_11 : decode cX1_init 11 = .ok (.iconst 0, 1) := by decide +kernel
theorem dX1_init_12 : decode cX1_init 12 = .ok (.invokestatic 13, 3) := by decide +kernel
theorem dX1_init_15 : decode cX1_init 15 = .ok (.newarray .long, 2) := by decide +kernel
theorem dX1_init_17 : decode cX1_init 17 = .ok (.putfield 19, 3) := by decide +kernel
theorem dX1_init_20 : decode cX1_init 20 = .ok (.return_, 1) := by decide +kernel
theorem dX1_hasCell_0 : decode cX1_hasCell 0 = .ok (.lload_n 1, 1) := by decide +kernel
theorem dX1_hasCell_1 : decode cX1_hasCell 1 = .ok (.lconst 0, 1) := by decide +kernel
theorem dX1_hasCell_2 : decode cX1_hasCell 2 = .ok (.lcmp, 1) := by decide +kernel
theorem dX1_hasCell_3 : decode cX1_hasCell 3 = .ok (.ifCond .lt 18, 3) := by decide +kernel
theorem dX1_hasCell_6 : decode cX1_hasCell 6 = .ok (.lload_n 1, 1) := by decide +kernel
theorem dX1_hasCell_7 : decode cX1_hasCell 7 = .ok (.aload_n 0, 1) := by decide +kernel
theorem dX1_hasCell_8 : decode cX1_hasCell 8 = .ok (.getfield 19, 3) := by decide +kernel
theorem dX1_hasCell_11 : decode cX1_hasCell 11 = .ok (.arraylength, 1) := by decide +kernel
theorem dX1_hasCell_12 : decode cX1_hasCell 12 = .ok (.i2l, 1) := by decide +kernel
theorem dX1_hasCell_13 : decode cX1_hasCell 13 = .ok (.lcmp, 1) := by decide +kernel
theorem dX1_hasCell_14 : decode cX1_hasCell 14 = .ok (.ifCond .ge 7, 3) := by decide +kernel
theorem dX1_hasCell_17 : decode cX1_hasCell 17 = .ok (.iconst 1, 1) := by decide +kernel
theorem dX1_hasCell_18 : decode cX1_hasCell 18 = .ok (.goto 4, 3) := by decide +kernel
theorem dX1_hasCell_21 : decode cX1_hasCell 21 = .ok (.iconst 0, 1) := by decide +kernel
theorem dX1_hasCell_22 : decode cX1_hasCell 22 = .ok (.ireturn, 1) := by decide +kernel
end
section
theorem dX2_init_0 : decode cX2_init 0 = .ok (.aload_n 0, 1) := by decide +kernel
theorem dX2_init_1 : decode cX2_init 1 = .ok (.invokespecial 3, 3) := by decide +kernel
theorem dX2_init_4 : decode cX2_init 4 = .ok (.lload_n 1, 1) := by decide +kernel
theorem dX2_init_5 : decode cX2_init 5 = .ok (.lload_n 3, 1) := by decide +kernel
theorem dX2_init_6 : decode cX2_init 6 = .ok (.invokestatic 9, 3) := by decide +kernel
theorem dX2_init_9 : decode cX2_init 9 = .ok (.lstore 5, 2) := by decide +kernel
theorem dX2_init_11 : decode cX2_init 11 = .ok (.aload_n 0, 1) := by decide +kernel
theorem dX2_init_12 : decode cX2_init 12 = .ok (.lload_n 1, 1) := by decide +kernel
theorem dX2_init_13 : decode cX2_init 13 = .ok (.lload 5, 2) := by decide +kernel
theorem dX2_init_15 : decode cX2_init 15 = .ok (.invokestatic 13, 3) := by decide +kernel
theorem dX2_init_18 : decode cX2_init 18 = .ok (.l2i, 1) := by decide +kernel
theorem dX2_init_19 : decode cX2_init 19 = .ok (.putfield 16, 3) := by decide +kernel
theorem dX2_init_22 : decode cX2_init 22 = .ok (.aload_n 0, 1) := by decide +kernel
theorem dX2_init_23 : decode cX2_init 23 = .ok (.lload_n 3, 1) := by decide +kernel
theorem dX2_init_24 : decode cX2_init 24 = .ok (.lload 5, 2) := by decide +kernel
theorem dX2_init_26 : decode cX2_init 26 = .ok (.invokestatic 13, 3) := by decide +kernel
theorem dX2_init_29 : decode cX2_init 29 = .ok (.l2i, 1) := by decide +kernel
theorem dX2_init_30 : decode cX2_init 30 = .ok (.putfield 22, 3) := by decide +kernel
theorem dX2_init_33 : decode cX2_init 33 = .ok (.aload_n 0, 1) := by decide +kernel
theorem dX2_init_34 : decode cX2_init 34 = .ok (.aload_n 0, 1) := by decide +kernel
theorem dX2_init_35 : decode cX2_init 35 = .ok (.getfield 22, 3) := by decide +kernel
theorem dX2_init_38 : decode cX2_init 38 = .ok (.invokestatic 25, 3) := by decide +kernel
theorem dX2_init_41 : decode cX2_init 41 = .ok (.putfield 29, 3) := by decide +kernel
theorem dX2_init_44 : decode cX2_init 44 = .ok (.aload_n 0, 1) := by decide +kernel
theorem dX2_init_45 : decode cX2_init 45 = .ok (.aload_n 0, 1) := by decide +kernel
theorem dX2_init_46 : decode cX2_init 46 = .ok (.aload_n 0, 1) := by decide +kernel
theorem dX2_init_47 : decode cX2_init 47 = .ok (.getfield 29, 3) := by decide +kernel
theorem dX2_init_50 : decode cX2_init 50 = .ok (.invokevirtual 32, 3) := by decide +kernel
theorem dX2_init_53 : decode cX2_init 53 = .ok (.aload_n 0, 1) := by decide +kernel
theorem dX2_init_54 : decode cX2_init 54 = .ok (.getfield 22, 3) := by decide +kernel
theorem dX2_init_57 : decode cX2_init 57 = .ok (.invokestatic 35, 3) := by decide +kernel
theorem dX2_init_60 : decode cX2_init 60 = .ok (.putfield 39, 3) := by decide +kernel
theorem dX2_init_63 : decode cX2_init 63 = .ok (.return_, 1) := by decide +kernel
theorem dX2_twosIn_0 : decode cX2_twosIn 0 = .ok (.iconst 0, 1) := by decide +kernel
theorem dX2_twosIn_1 : decode cX2_twosIn 1 = .ok (.istore_n 1, 1) := by decide +kernel
theorem dX2_twosIn_2 : decode cX2_twosIn 2 = .ok (.iload_n 1, 1) := by decide +kernel
theorem dX2_twosIn_3 : decode cX2_twosIn 3 = .ok (.bipush 30, 2) := by decide +kernel
theorem dX2_twosIn_5 : decode cX2_twosIn 5 = .ok (.if_icmp .ge 17, 3) := by decide +kernel
theorem dX2_twosIn_8 : decode cX2_twosIn 8 = .ok (.iload_n 0, 1) := by decide +kernel
theorem dX2_twosIn_9 : decode cX2_twosIn 9 = .ok (.iload_n 1, 1) := by decide +kernel
theorem dX2_twosIn_10 : decode cX2_twosIn 10 = .ok (.ishr, 1) := by decide +kernel
theorem dX2_twosIn_11 : decode cX2_twosIn 11 = .ok (.iconst 1, 1) := by decide +kernel
theorem dX2_twosIn_12 : decode cX2_twosIn 12 = .ok (.iand, 1) := by decide +kernel
theorem dX2_twosIn_13 : decode cX2_twosIn 13 = .ok (.ifCond .ne 9, 3) := by decide +kernel
theorem dX2_twosIn_16 : decode cX2_twosIn 16 = .ok (.iinc 1 1, 3) := by decide +kernel
theorem dX2_twosIn_19 : decode cX2_twosIn 19 = .ok (.goto (-17), 3) := by decide +kernel
theorem dX2_twosIn_22 : decode cX2_twosIn 22 = .ok (.iload_n 1, 1) := by decide +kernel
theorem dX2_twosIn_23 : decode cX2_twosIn 23 = .ok (.ireturn, 1) := by decide +kernel
theorem dX2_lengthOfRing_0 : decode cX2_lengthOfRing 0 = .ok (.iload_n 0, 1) := by decide +kernel
theorem dX2_lengthOfRing_1 : decode cX2_lengthOfRing 1 = .ok (.iload_n 1, 1) := by decide +kernel
theorem dX2_lengthOfRing_2 : decode cX2_lengthOfRing 2 = .ok (.invokestatic 42, 3) := by decide +kernel
theorem dX2_lengthOfRing_5 : decode cX2_lengthOfRing 5 = .ok (.istore_n 2, 1) := by decide +kernel
theorem dX2_lengthOfRing_6 : decode cX2_lengthOfRing 6 = .ok (.iconst 1, 1) := by decide +kernel
theorem dX2_lengthOfRing_7 : decode cX2_lengthOfRing 7 = .ok (.istore_n 3, 1) := by decide +kernel
theorem dX2_lengthOfRing_8 : decode cX2_lengthOfRing 8 = .ok (.iload_n 3, 1) := by decide +kernel
theorem dX2_lengthOfRing_9 : decode cX2_lengthOfRing 9 = .ok (.iload_n 1, 1) := by decide +kernel
theorem dX2_lengthOfRing_10 : decode cX2_lengthOfRing 10 = .ok (.if_icmp .ge 20, 3) := by decide +kernel
theorem dX2_lengthOfRing_13 : decode cX2_lengthOfRing 13 = .ok (.iload_n 2, 1) := by decide +kernel
theorem dX2_lengthOfRing_14 : decode cX2_lengthOfRing 14 = .ok (.iload_n 0, 1) := by decide +kernel
theorem dX2_lengthOfRing_15 : decode cX2_lengthOfRing 15 = .ok (.if_icmp .eq 15, 3) := by decide +kernel
theorem dX2_lengthOfRing_18 : decode cX2_lengthOfRing 18 = .ok (.iload_n 2, 1) := by decide +kernel
theorem dX2_lengthOfRing_19 : decode cX2_lengthOfRing 19 = .ok (.iload_n 1, 1) := by decide +kernel
theorem dX2_lengthOfRing_20 : decode cX2_lengthOfRing 20 = .ok (.invokestatic 42, 3) := by decide +kernel
theorem dX2_lengthOfRing_23 : decode cX2_lengthOfRing 23 = .ok (.istore_n 2, 1) := by decide +kernel
theorem dX2_lengthOfRing_24 : decode cX2_lengthOfRing 24 = .ok (.iinc 3 1, 3) := by decide +kernel
theorem dX2_lengthOfRing_27 : decode cX2_lengthOfRing 27 = .ok (.goto (-19), 3) := by decide +kernel
theorem dX2_lengthOfRing_30 : decode cX2_lengthOfRing 30 = .ok (.iload_n 3, 1) := by decide +kernel
theorem dX2_lengthOfRing_31 : decode cX2_lengthOfRing 31 = .ok (.ireturn, 1) := by decide +kernel
theorem dX2_comesBack_0 : decode cX2_comesBack 0 = .ok (.aload_n 0, 1) := by decide +kernel
theorem dX2_comesBack_1 : decode cX2_comesBack 1 = .ok (.getfield 29, 3) := by decide +kernel
theorem dX2_comesBack_4 : decode cX2_comesBack 4 = .ok (.ifCond .ne 7, 3) := by decide +kernel
theorem dX2_comesBack_7 : decode cX2_comesBack 7 = .ok (.iconst 1, 1) := by decide +kernel
theorem dX2_comesBack_8 : decode cX2_comesBack 8 = .ok (.goto 4, 3) := by decide +kernel
theorem dX2_comesBack_11 : decode cX2_comesBack 11 = .ok (.iconst 0, 1) := by decide +kernel
theorem dX2_comesBack_12 : decode cX2_comesBack 12 = .ok (.ireturn, 1) := by decide +kernel
theorem dX2_upAfter_0 : decode cX2_upAfter 0 = .ok (.aload_n 0, 1) := by decide +kernel
theorem dX2_upAfter_1 : decode cX2_upAfter 1 = .ok (.getfield 16, 3) := by decide +kernel
theorem dX2_upAfter_4 : decode cX2_upAfter 4 = .ok (.istore_n 2, 1) := by decide +kernel
theorem dX2_upAfter_5 : decode cX2_upAfter 5 = .ok (.iconst 0, 1) := by decide +kernel
theorem dX2_upAfter_6 : decode cX2_upAfter 6 = .ok (.istore_n 3, 1) := by decide +kernel
theorem dX2_upAfter_7 : decode cX2_upAfter 7 = .ok (.iload_n 3, 1) := by decide +kernel
theorem dX2_upAfter_8 : decode cX2_upAfter 8 = .ok (.iload_n 1, 1) := by decide +kernel
theorem dX2_upAfter_9 : decode cX2_upAfter 9 = .ok (.if_icmp .ge 18, 3) := by decide +kernel
theorem dX2_upAfter_12 : decode cX2_upAfter 12 = .ok (.iload_n 2, 1) := by decide +kernel
theorem dX2_upAfter_13 : decode cX2_upAfter 13 = .ok (.aload_n 0, 1) := by decide +kernel
theorem dX2_upAfter_14 : decode cX2_upAfter 14 = .ok (.getfield 22, 3) := by decide +kernel
theorem dX2_upAfter_17 : decode cX2_upAfter 17 = .ok (.invokestatic 42, 3) := by decide +kernel
theorem dX2_upAfter_20 : decode cX2_upAfter 20 = .ok (.istore_n 2, 1) := by decide +kernel
theorem dX2_upAfter_21 : decode cX2_upAfter 21 = .ok (.iinc 3 1, 3) := by decide +kernel
theorem dX2_upAfter_24 : decode cX2_upAfter 24 = .ok (.goto (-17), 3) := by decide +kernel
theorem dX2_upAfter_27 : decode cX2_upAfter 27 = .ok (.iload_n 2, 1) := by decide +kernel
theorem dX2_upAfter_28 : decode cX2_upAfter 28 = .ok (.ireturn, 1) := by decide +kernel
theorem dX2_against_0 : decode cX2_against 0 = .ok (.aload_n 0, 1) := by decide +kernel
theorem dX2_against_1 : decode cX2_against 1 = .ok (.getfield 16, 3) := by decide +kernel
theorem dX2_against_4 : decode cX2_against 4 = .ok (.i2l, 1) := by decide +kernel
theorem dX2_against_5 : decode cX2_against 5 = .ok (.aload_n 1, 1) := by decide +kernel
theorem dX2_against_6 : decode cX2_against 6 = .ok (.getfield 22, 3) := by decide +kernel
theorem dX2_against_9 : decode cX2_against 9 = .ok (.i2l, 1) := by decide +kernel
theorem dX2_against_10 : decode cX2_against 10 = .ok (.lmul, 1) := by decide +kernel
theorem dX2_against_11 : decode cX2_against 11 = .ok (.aload_n 1, 1) := by decide +kernel
theorem dX2_against_12 : decode cX2_against 12 = .ok (.getfield 16, 3) := by decide +kernel
theorem dX2_against_15 : decode cX2_against 15 = .ok (.i2l, 1) := by decide +kernel
theorem dX2_against_16 : decode cX2_against 16 = .ok (.aload_n 0, 1) := by decide +kernel
theorem dX2_against_17 : decode cX2_against 17 = .ok (.getfield 22, 3) := by decide +kernel
theorem dX2_against_20 : decode cX2_against 20 = .ok (.i2l, 1) := by decide +kernel
theorem dX2_against_21 : decode cX2_against 21 = .ok (.lmul, 1) := by decide +kernel
theorem dX2_against_22 : decode cX2_against 22 = .ok (.invokestatic 45, 3) := by decide +kernel
theorem dX2_against_25 : decode cX2_against 25 = .ok (.ireturn, 1) := by decide +kernel
theorem dX2_letterOf_0 : decode cX2_letterOf 0 = .ok (.ldc2_w 49, 3) := by decide +kernel
theorem dX2_letterOf_3 : decode cX2_letterOf 3 = .ok (.iload_n 1, 1) := by decide +kernel
theorem dX2_letterOf_4 : decode cX2_letterOf 4 = .ok (.i2l, 1) := by decide +kernel
theorem dX2_letterOf_5 : decode cX2_letterOf 5 = .ok (.lmul, 1) := by decide +kernel
theorem dX2_letterOf_6 : decode cX2_letterOf 6 = .ok (.aload_n 0, 1) := by decide +kernel
theorem dX2_letterOf_7 : decode cX2_letterOf 7 = .ok (.getfield 22, 3) := by decide +kernel
theorem dX2_letterOf_10 : decode cX2_letterOf 10 = .ok (.i2l, 1) := by decide +kernel
theorem dX2_letterOf_11 : decode cX2_letterOf 11 = .ok (.lmul, 1) := by decide +kernel
theorem dX2_letterOf_12 : decode cX2_letterOf 12 = .ok (.lstore_n 3, 1) := by decide +kernel
theorem dX2_letterOf_13 : decode cX2_letterOf 13 = .ok (.lload_n 3, 1) := by decide +kernel
theorem dX2_letterOf_14 : decode cX2_letterOf 14 = .ok (.aload_n 0, 1) := by decide +kernel
theorem dX2_letterOf_15 : decode cX2_letterOf 15 = .ok (.getfield 16, 3) := by decide +kernel
theorem dX2_letterOf_18 : decode cX2_letterOf 18 = .ok (.i2l, 1) := by decide +kernel
theorem dX2_letterOf_19 : decode cX2_letterOf 19 = .ok (.iload_n 2, 1) := by decide +kernel
theorem dX2_letterOf_20 : decode cX2_letterOf 20 = .ok (.i2l, 1) := by decide +kernel
theorem dX2_letterOf_21 : decode cX2_letterOf 21 = .ok (.lmul, 1) := by decide +kernel
theorem dX2_letterOf_22 : decode cX2_letterOf 22 = .ok (.invokestatic 45, 3) := by decide +kernel
theorem dX2_letterOf_25 : decode cX2_letterOf 25 = .ok (.istore 5, 2) := by decide +kernel
theorem dX2_letterOf_27 : decode cX2_letterOf 27 = .ok (.lload_n 3, 1) := by decide +kernel
theorem dX2_letterOf_28 : decode cX2_letterOf 28 = .ok (.aload_n 0, 1) := by decide +kernel
theorem dX2_letterOf_29 : decode cX2_letterOf 29 = .ok (.getfield 16, 3) := by decide +kernel
theorem dX2_letterOf_32 : decode cX2_letterOf 32 = .ok (.i2l, 1) := by decide +kernel
theorem dX2_letterOf_33 : decode cX2_letterOf 33 = .ok (.aload_n 0, 1) := by decide +kernel
theorem dX2_letterOf_34 : decode cX2_letterOf 34 = .ok (.getfield 22, 3) := by decide +kernel
theorem dX2_letterOf_37 : decode cX2_letterOf 37 = .ok (.i2l, 1) := by decide +kernel
theorem dX2_letterOf_38 : decode cX2_letterOf 38 = .ok (.ladd, 1) := by decide +kernel
theorem dX2_letterOf_39 : decode cX2_letterOf 39 = .ok (.iload_n 2, 1) := by decide +kernel
theorem dX2_letterOf_40 : decode cX2_letterOf 40 = .ok (.i2l, 1) := by decide +kernel
theorem dX2_letterOf_41 : decode cX2_letterOf 41 = .ok (.lmul, 1) := by decide +kernel
theorem dX2_letterOf_42 : decode cX2_letterOf 42 = .ok (.invokestatic 45, 3) := by decide +kernel
theorem dX2_letterOf_45 : decode cX2_letterOf 45 = .ok (.istore 6, 2) := by decide +kernel
theorem dX2_letterOf_47 : decode cX2_letterOf 47 = .ok (.iload 5, 2) := by decide +kernel
theorem dX2_letterOf_49 : decode cX2_letterOf 49 = .ok (.ifCond .eq 8, 3) := by decide +kernel
theorem dX2_letterOf_52 : decode cX2_letterOf 52 = .ok (.iload 6, 2) := by decide +kernel
theorem dX2_letterOf_54 : decode cX2_letterOf 54 = .ok (.ifCond .ne 5, 3) := by decide +kernel
theorem dX2_letterOf_57 : decode cX2_letterOf 57 = .ok (.iconst 2, 1) := by decide +kernel
theorem dX2_letterOf_58 : decode cX2_letterOf 58 = .ok (.ireturn, 1) := by decide +kernel
theorem dX2_letterOf_59 : decode cX2_letterOf 59 = .ok (.iload 5, 2) := by decide +kernel
theorem dX2_letterOf_61 : decode cX2_letterOf 61 = .ok (.ifCond .le 12, 3) := by decide +kernel
theorem dX2_letterOf_64 : decode cX2_letterOf 64 = .ok (.iload 6, 2) := by decide +kernel
theorem dX2_letterOf_66 : decode cX2_letterOf 66 = .ok (.ifCond .ge 7, 3) := by decide +kernel
theorem dX2_letterOf_69 : decode cX2_letterOf 69 = .ok (.iconst 1, 1) := by decide +kernel
theorem dX2_letterOf_70 : decode cX2_letterOf 70 = .ok (.goto 4, 3) := by decide +kernel
theorem dX2_letterOf_73 : decode cX2_letterOf 73 = .ok (.iconst 0, 1) := by decide +kernel
theorem dX2_letterOf_74 : decode cX2_letterOf 74 = .ok (.ireturn, 1) := by decide +kernel
theorem dX2_inParts_0 : decode cX2_inParts 0 = .ok (.aload_n 0, 1) := by decide +kernel
theorem dX2_inParts_1 : decode cX2_inParts 1 = .ok (.getfield 16, 3) := by decide +kernel
theorem dX2_inParts_4 : decode cX2_inParts 4 = .ok (.i2l, 1) := by decide +kernel
theorem dX2_inParts_5 : decode cX2_inParts 5 = .ok (.ldc2_w 51, 3) := by decide +kernel
theorem dX2_inParts_8 : decode cX2_inParts 8 = .ok (.aload_n 0, 1) := by decide +kernel
theorem dX2_inParts_9 : decode cX2_inParts 9 = .ok (.getfield 22, 3) := by decide +kernel
theorem dX2_inParts_12 : decode cX2_inParts 12 = .ok (.i2l, 1) := by decide +kernel
theorem dX2_inParts_13 : decode cX2_inParts 13 = .ok (.invokestatic 13, 3) := by decide +kernel
theorem dX2_inParts_16 : decode cX2_inParts 16 = .ok (.lmul, 1) := by decide +kernel
theorem dX2_inParts_17 : decode cX2_inParts 17 = .ok (.l2i, 1) := by decide +kernel
theorem dX2_inParts_18 : decode cX2_inParts 18 = .ok (.ireturn, 1) := by decide +kernel
end
section
theorem dX3_init_0 : decode cX3_init 0 = .ok (.aload_n 0, 1) := by decide +kernel
theorem dX3_init_1 : decode cX3_init 1 = .ok (.invokespecial 1, 3) := by decide +kernel
theorem dX3_init_4 : decode cX3_init 4 = .ok (.aload_n 0, 1) := by decide +kernel
theorem dX3_init_5 : decode cX3_init 5 = .ok (.bipush 16, 2) := by decide +kernel
theorem dX3_init_7 : decode cX3_init 7 = .ok (.anewarray 9, 3) := by decide +kernel
theorem dX3_init_10 : decode cX3_init 10 = .ok (.putfield 11, 3) := by decide +kernel
theorem dX3_init_13 : decode cX3_init 13 = .ok (.aload_n 0, 1) := by decide +kernel
theorem dX3_init_14 : decode cX3_init 14 = .ok (.iconst 4, 1) := by decide +kernel
theorem dX3_init_15 : decode cX3_init 15 = .ok (.anewarray 15, 3) := by decide +kernel
theorem dX3_init_18 : decode cX3_init 18 = .ok (.putfield 17, 3) := by decide +kernel
theorem dX3_init_21 : decode cX3_init 21 = .ok (.aload_n 0, 1) := by decide +kernel
theorem dX3_init_22 : decode cX3_init 22 = .ok (.sipush 512, 3) := by decide +kernel
theorem dX3_init_25 : decode cX3_init 25 = .ok (.newarray .int, 2) := by decide +kernel
theorem dX3_init_27 : decode cX3_init 27 = .ok (.putfield 21, 3) := by decide +kernel
theorem dX3_init_30 : decode cX3_init 30 = .ok (.aload_n 0, 1) := by decide +kernel
theorem dX3_init_31 : decode cX3_init 31 = .ok (.iconst 0, 1) := by decide +kernel
theorem dX3_init_32 : decode cX3_init 32 = .ok (.putfield 25, 3) := by decide +kernel
theorem dX3_init_35 : decode cX3_init 35 = .ok (.aload_n 0, 1) := by decide +kernel
theorem dX3_init_36 : decode cX3_init 36 = .ok (.aconst_null, 1) := by decide +kernel
theorem dX3_init_37 : decode cX3_init 37 = .ok (.putfield 29, 3) := by decide +kernel
theorem dX3_init_40 : decode cX3_init 40 = .ok (.return_, 1) := by decide +kernel
theorem dX3_angle_0 : decode cX3_angle 0 = .ok (.lload_n 3, 1) := by decide +kernel
theorem dX3_angle_1 : decode cX3_angle 1 = .ok (.lconst 1, 1) := by decide +kernel
theorem dX3_angle_2 : decode cX3_angle 2 = .ok (.lcmp, 1) := by decide +kernel
theorem dX3_angle_3 : decode cX3_angle 3 = .ok (.ifCond .lt 23, 3) := by decide +kernel
theorem dX3_angle_6 : decode cX3_angle 6 = .ok (.lload_n 3, 1) := by decide +kernel
theorem dX3_angle_7 : decode cX3_angle 7 = .ok (.ldc2_w 33, 3) := by decide +kernel
theorem dX3_angle_10 : decode cX3_angle 10 = .ok (.lcmp, 1) := by decide +kernel
theorem dX3_angle_11 : decode cX3_angle 11 = .ok (.ifCond .gt 15, 3) := by decide +kernel
theorem dX3_angle_14 : decode cX3_angle 14 = .ok (.lload_n 1, 1) := by decide +kernel
theorem dX3_angle_15 : decode cX3_angle 15 = .ok (.lconst 0, 1) := by decide +kernel
theorem dX3_angle_16 : decode cX3_angle 16 = .ok (.lcmp, 1) := by decide +kernel
theorem dX3_angle_17 : decode cX3_angle 17 = .ok (.ifCond .lt 9, 3) := by decide +kernel
theorem dX3_angle_20 : decode cX3_angle 20 = .ok (.lload_n 1, 1) := by decide +kernel
theorem dX3_angle_21 : decode cX3_angle 21 = .ok (.lload_n 3, 1) := by decide +kernel
theorem dX3_angle_22 : decode cX3_angle 22 = .ok (.lcmp, 1) := by decide +kernel
theorem dX3_angle_23 : decode cX3_angle 23 = .ok (.ifCond .lt 5, 3) := by decide +kernel
theorem dX3_angle_26 : decode cX3_angle 26 = .ok (.iconst (-1), 1) := by decide +kernel
theorem dX3_angle_27 : decode cX3_angle 27 = .ok (.ireturn, 1) := by decide +kernel
theorem dX3_angle_28 : decode cX3_angle 28 = .ok (.aload_n 0, 1) := by decide +kernel
theorem dX3_angle_29 : decode cX3_angle 29 = .ok (.lload_n 1, 1) := by decide +kernel
theorem dX3_angle_30 : decode cX3_angle 30 = .ok (.lload_n 3, 1) := by decide +kernel
theorem dX3_angle_31 : decode cX3_angle 31 = .ok (.invokevirtual 35, 3) := by decide +kernel
theorem dX3_angle_34 : decode cX3_angle 34 = .ok (.ireturn, 1) := by decide +kernel
theorem dX3_drop_0 : decode cX3_drop 0 = .ok (.aload_n 0, 1) := by decide +kernel
theorem dX3_drop_1 : decode cX3_drop 1 = .ok (.getfield 25, 3) := by decide +kernel
theorem dX3_drop_4 : decode cX3_drop 4 = .ok (.ifCond .ne 6, 3) := by decide +kernel
theorem dX3_drop_7 : decode cX3_drop 7 = .ok (.bipush (-4), 2) := by decide +kernel
theorem dX3_drop_9 : decode cX3_drop 9 = .ok (.ireturn, 1) := by decide +kernel
theorem dX3_drop_10 : decode cX3_drop 10 = .ok (.aload_n 0, 1) := by decide +kernel
theorem dX3_drop_11 : decode cX3_drop 11 = .ok (.dup, 1) := by decide +kernel
theorem dX3_drop_12 : decode cX3_drop 12 = .ok (.getfield 25, 3) := by decide +kernel
theorem dX3_drop_15 : decode cX3_drop 15 = .ok (.iconst 1, 1) := by decide +kernel
theorem dX3_drop_16 : decode cX3_drop 16 = .ok (.isub, 1) := by decide +kernel
theorem dX3_drop_17 : decode cX3_drop 17 = .ok (.putfield 25, 3) := by decide +kernel
theorem dX3_drop_20 : decode cX3_drop 20 = .ok (.aload_n 0, 1) := by decide +kernel
theorem dX3_drop_21 : decode cX3_drop 21 = .ok (.getfield 25, 3) := by decide +kernel
theorem dX3_drop_24 : decode cX3_drop 24 = .ok (.ireturn, 1) := by decide +kernel
theorem dX3_told_0 : decode cX3_told 0 = .ok (.aload_n 0, 1) := by decide +kernel
theorem dX3_told_1 : decode cX3_told 1 = .ok (.iload_n 1, 1) := by decide +kernel
theorem dX3_told_2 : decode cX3_told 2 = .ok (.invokevirtual 39, 3) := by decide +kernel
theorem dX3_told_5 : decode cX3_told 5 = .ok (.astore_n 3, 1) := by decide +kernel
theorem dX3_told_6 : decode cX3_told 6 = .ok (.aload_n 3, 1) := by decide +kernel
theorem dX3_told_7 : decode cX3_told 7 = .ok (.ifnonnull 5, 3) := by decide +kernel
theorem dX3_told_10 : decode cX3_told 10 = .ok (.iconst (-1), 1) := by decide +kernel
theorem dX3_told_11 : decode cX3_told 11 = .ok (.ireturn, 1) := by decide +kernel
theorem dX3_told_12 : decode cX3_told 12 = .ok (.iload_n 2, 1) := by decide +kernel
theorem dX3_told_13 : decode cX3_told 13 = .ok (.tableswitch 51 0 3 #[31, 36, 41, 46], 31) := by decide +kernel
theorem dX3_told_44 : decode cX3_told 44 = .ok (.aload_n 3, 1) := by decide +kernel
theorem dX3_told_45 : decode cX3_told 45 = .ok (.getfield 43, 3) := by decide +kernel
theorem dX3_told_48 : decode cX3_told 48 = .ok (.ireturn, 1) := by decide +kernel
theorem dX3_told_49 : decode cX3_told 49 = .ok (.aload_n 3, 1) := by decide +kernel
theorem dX3_told_50 : decode cX3_told 50 = .ok (.getfield 46, 3) := by decide +kernel
theorem dX3_told_53 : decode cX3_told 53 = .ok (.ireturn, 1) := by decide +kernel
theorem dX3_told_54 : decode cX3_told 54 = .ok (.aload_n 3, 1) := by decide +kernel
theorem dX3_told_55 : decode cX3_told 55 = .ok (.getfield 49, 3) := by decide +kernel
theorem dX3_told_58 : decode cX3_told 58 = .ok (.ireturn, 1) := by decide +kernel
theorem dX3_told_59 : decode cX3_told 59 = .ok (.aload_n 3, 1) := by decide +kernel
theorem dX3_told_60 : decode cX3_told 60 = .ok (.getfield 52, 3) := by decide +kernel
theorem dX3_told_63 : decode cX3_told 63 = .ok (.ireturn, 1) := by decide +kernel
theorem dX3_told_64 : decode cX3_told 64 = .ok (.iconst (-1), 1) := by decide +kernel
theorem dX3_told_65 : decode cX3_told 65 = .ok (.ireturn, 1) := by decide +kernel
theorem dX3_doubled_0 : decode cX3_doubled 0 = .ok (.aload_n 0, 1) := by decide +kernel
theorem dX3_doubled_1 : decode cX3_doubled 1 = .ok (.iload_n 1, 1) := by decide +kernel
theorem dX3_doubled_2 : decode cX3_doubled 2 = .ok (.invokevirtual 39, 3) := by decide +kernel
theorem dX3_doubled_5 : decode cX3_doubled 5 = .ok (.astore 4, 2) := by decide +kernel
theorem dX3_doubled_7 : decode cX3_doubled 7 = .ok (.aload 4, 2) := by decide +kernel
theorem dX3_doubled_9 : decode cX3_doubled 9 = .ok (.ifnull 17, 3) := by decide +kernel
theorem dX3_doubled_12 : decode cX3_doubled 12 = .ok (.iload_n 2, 1) := by decide +kernel
theorem dX3_doubled_13 : decode cX3_doubled 13 = .ok (.invokestatic 55, 3) := by decide +kernel
theorem dX3_doubled_16 : decode cX3_doubled 16 = .ok (.ifCond .eq 10, 3) := by decide +kernel
theorem dX3_doubled_19 : decode cX3_doubled 19 = .ok (.iload_n 3, 1) := by decide +kernel
theorem dX3_doubled_20 : decode cX3_doubled 20 = .ok (.invokestatic 59, 3) := by decide +kernel
theorem dX3_doubled_23 : decode cX3_doubled 23 = .ok (.ifCond .ne 5, 3) := by decide +kernel
theorem dX3_doubled_26 : decode cX3_doubled 26 = .ok (.iconst (-1), 1) := by decide +kernel
theorem dX3_doubled_27 : decode cX3_doubled 27 = .ok (.ireturn, 1) := by decide +kernel
theorem dX3_doubled_28 : decode cX3_doubled 28 = .ok (.aload 4, 2) := by decide +kernel
theorem dX3_doubled_30 : decode cX3_doubled 30 = .ok (.iload_n 2, 1) := by decide +kernel
theorem dX3_doubled_31 : decode cX3_doubled 31 = .ok (.invokevirtual 62, 3) := by decide +kernel
theorem dX3_doubled_34 : decode cX3_doubled 34 = .ok (.istore 5, 2) := by decide +kernel
theorem dX3_doubled_36 : decode cX3_doubled 36 = .ok (.iload 5, 2) := by decide +kernel
theorem dX3_doubled_38 : decode cX3_doubled 38 = .ok (.i2l, 1) := by decide +kernel
theorem dX3_doubled_39 : decode cX3_doubled 39 = .ok (.aload 4, 2) := by decide +kernel
theorem dX3_doubled_41 : decode cX3_doubled 41 = .ok (.getfield 46, 3) := by decide +kernel
theorem dX3_doubled_44 : decode cX3_doubled 44 = .ok (.i2l, 1) := by decide +kernel
theorem dX3_doubled_45 : decode cX3_doubled 45 = .ok (.invokestatic 66, 3) := by decide +kernel
theorem dX3_doubled_48 : decode cX3_doubled 48 = .ok (.lstore 6, 2) := by decide +kernel
theorem dX3_doubled_50 : decode cX3_doubled 50 = .ok (.iload_n 3, 1) := by decide +kernel
theorem dX3_doubled_51 : decode cX3_doubled 51 = .ok (.ifCond .ne 9, 3) := by decide +kernel
theorem dX3_doubled_54 : decode cX3_doubled 54 = .ok (.iload 5, 2) := by decide +kernel
theorem dX3_doubled_56 : decode cX3_doubled 56 = .ok (.i2l, 1) := by decide +kernel
theorem dX3_doubled_57 : decode cX3_doubled 57 = .ok (.goto 9, 3) := by decide +kernel
theorem dX3_doubled_60 : decode cX3_doubled 60 = .ok (.aload 4, 2) := by decide +kernel
theorem dX3_doubled_62 : decode cX3_doubled 62 = .ok (.getfield 46, 3) := by decide +kernel
theorem dX3_doubled_65 : decode cX3_doubled 65 = .ok (.i2l, 1) := by decide +kernel
theorem dX3_doubled_66 : decode cX3_doubled 66 = .ok (.lload 6, 2) := by decide +kernel
theorem dX3_doubled_68 : decode cX3_doubled 68 = .ok (.invokestatic 70, 3) := by decide +kernel
theorem dX3_doubled_71 : decode cX3_doubled 71 = .ok (.l2i, 1) := by decide +kernel
theorem dX3_doubled_72 : decode cX3_doubled 72 = .ok (.ireturn, 1) := by decide +kernel
theorem dX3_all_0 : decode cX3_all 0 = .ok (.iload_n 1, 1) := by decide +kernel
theorem dX3_all_1 : decode cX3_all 1 = .ok (.invokestatic 73, 3) := by decide +kernel
theorem dX3_all_4 : decode cX3_all 4 = .ok (.ifCond .ne 5, 3) := by decide +kernel
theorem dX3_all_7 : decode cX3_all 7 = .ok (.iconst (-1), 1) := by decide +kernel
theorem dX3_all_8 : decode cX3_all 8 = .ok (.ireturn, 1) := by decide +kernel
theorem dX3_all_9 : decode cX3_all 9 = .ok (.iconst 1, 1) := by decide +kernel
theorem dX3_all_10 : decode cX3_all 10 = .ok (.istore_n 2, 1) := by decide +kernel
theorem dX3_all_11 : decode cX3_all 11 = .ok (.iload_n 2, 1) := by decide +kernel
theorem dX3_all_12 : decode cX3_all 12 = .ok (.iload_n 1, 1) := by decide +kernel
theorem dX3_all_13 : decode cX3_all 13 = .ok (.if_icmp .gt 19, 3) := by decide +kernel
theorem dX3_all_16 : decode cX3_all 16 = .ok (.aload_n 0, 1) := by decide +kernel
theorem dX3_all_17 : decode cX3_all 17 = .ok (.getfield 21, 3) := by decide +kernel
theorem dX3_all_20 : decode cX3_all 20 = .ok (.iload_n 2, 1) := by decide +kernel
theorem dX3_all_21 : decode cX3_all 21 = .ok (.iload_n 2, 1) := by decide +kernel
theorem dX3_all_22 : decode cX3_all 22 = .ok (.invokestatic 76, 3) := by decide +kernel
theorem dX3_all_25 : decode cX3_all 25 = .ok (.iastore, 1) := by decide +kernel
theorem dX3_all_26 : decode cX3_all 26 = .ok (.iinc 2 1, 3) := by decide +kernel
theorem dX3_all_29 : decode cX3_all 29 = .ok (.goto (-18), 3) := by decide +kernel
theorem dX3_all_32 : decode cX3_all 32 = .ok (.aload_n 0, 1) := by decide +kernel
theorem dX3_all_33 : decode cX3_all 33 = .ok (.iload_n 1, 1) := by decide +kernel
theorem dX3_all_34 : decode cX3_all 34 = .ok (.invokevirtual 79, 3) := by decide +kernel
theorem dX3_all_37 : decode cX3_all 37 = .ok (.ireturn, 1) := by decide +kernel
theorem dX3_letter_0 : decode cX3_letter 0 = .ok (.aload_n 0, 1) := by decide +kernel
theorem dX3_letter_1 : decode cX3_letter 1 = .ok (.iload_n 1, 1) := by decide +kernel
theorem dX3_letter_2 : decode cX3_letter 2 = .ok (.invokevirtual 39, 3) := by decide +kernel
theorem dX3_letter_5 : decode cX3_letter 5 = .ok (.astore 4, 2) := by decide +kernel
theorem dX3_letter_7 : decode cX3_letter 7 = .ok (.aload_n 0, 1) := by decide +kernel
theorem dX3_letter_8 : decode cX3_letter 8 = .ok (.iload_n 2, 1) := by decide +kernel
theorem dX3_letter_9 : decode cX3_letter 9 = .ok (.invokevirtual 39, 3) := by decide +kernel
theorem dX3_letter_12 : decode cX3_letter 12 = .ok (.astore 5, 2) := by decide +kernel
theorem dX3_letter_14 : decode cX3_letter 14 = .ok (.aload 4, 2) := by decide +kernel
theorem dX3_letter_16 : decode cX3_letter 16 = .ok (.ifnull 15, 3) := by decide +kernel
theorem dX3_letter_19 : decode cX3_letter 19 = .ok (.aload 5, 2) := by decide +kernel
theorem dX3_letter_21 : decode cX3_letter 21 = .ok (.ifnull 10, 3) := by decide +kernel
theorem dX3_letter_24 : decode cX3_letter 24 = .ok (.iload_n 3, 1) := by decide +kernel
theorem dX3_letter_25 : decode cX3_letter 25 = .ok (.invokestatic 55, 3) := by decide +kernel
theorem dX3_letter_28 : decode cX3_letter 28 = .ok (.ifCond .ne 5, 3) := by decide +kernel
theorem dX3_letter_31 : decode cX3_letter 31 = .ok (.iconst (-1), 1) := by decide +kernel
theorem dX3_letter_32 : decode cX3_letter 32 = .ok (.ireturn, 1) := by decide +kernel
theorem dX3_letter_33 : decode cX3_letter 33 = .ok (.aload 5, 2) := by decide +kernel
theorem dX3_letter_35 : decode cX3_letter 35 = .ok (.aload 4, 2) := by decide +kernel
theorem dX3_letter_37 : decode cX3_letter 37 = .ok (.iload_n 3, 1) := by decide +kernel
theorem dX3_letter_38 : decode cX3_letter 38 = .ok (.invokevirtual 62, 3) := by decide +kernel
theorem dX3_letter_41 : decode cX3_letter 41 = .ok (.aload 4, 2) := by decide +kernel
theorem dX3_letter_43 : decode cX3_letter 43 = .ok (.getfield 46, 3) := by decide +kernel
theorem dX3_letter_46 : decode cX3_letter 46 = .ok (.invokevirtual 82, 3) := by decide +kernel
theorem dX3_letter_49 : decode cX3_letter 49 = .ok (.ireturn, 1) := by decide +kernel
theorem dX3_address_0 : decode cX3_address 0 = .ok (.aload_n 0, 1) := by decide +kernel
theorem dX3_address_1 : decode cX3_address 1 = .ok (.iload_n 1, 1) := by decide +kernel
theorem dX3_address_2 : decode cX3_address 2 = .ok (.invokevirtual 39, 3) := by decide +kernel
theorem dX3_address_5 : decode cX3_address 5 = .ok (.astore_n 3, 1) := by decide +kernel
theorem dX3_address_6 : decode cX3_address 6 = .ok (.aload_n 3, 1) := by decide +kernel
theorem dX3_address_7 : decode cX3_address 7 = .ok (.ifnull 7, 3) := by decide +kernel
theorem dX3_address_10 : decode cX3_address 10 = .ok (.iload_n 2, 1) := by decide +kernel
theorem dX3_address_11 : decode cX3_address 11 = .ok (.ifCond .ge 5, 3) := by decide +kernel
theorem dX3_address_14 : decode cX3_address 14 = .ok (.iconst (-1), 1) := by decide +kernel
theorem dX3_address_15 : decode cX3_address 15 = .ok (.ireturn, 1) := by decide +kernel
theorem dX3_address_16 : decode cX3_address 16 = .ok (.aload_n 3, 1) := by decide +kernel
theorem dX3_address_17 : decode cX3_address 17 = .ok (.invokevirtual 86, 3) := by decide +kernel
theorem dX3_address_20 : decode cX3_address 20 = .ok (.ifCond .ne 6, 3) := by decide +kernel
theorem dX3_address_23 : decode cX3_address 23 = .ok (.bipush (-2), 2) := by decide +kernel
theorem dX3_address_25 : decode cX3_address 25 = .ok (.ireturn, 1) := by decide +kernel
theorem dX3_address_26 : decode cX3_address 26 = .ok (.aload_n 0, 1) := by decide +kernel
theorem dX3_address_27 : decode cX3_address 27 = .ok (.aload_n 3, 1) := by decide +kernel
theorem dX3_address_28 : decode cX3_address 28 = .ok (.invokevirtual 90, 3) := by decide +kernel
theorem dX3_address_31 : decode cX3_address 31 = .ok (.iconst 1, 1) := by decide +kernel
theorem dX3_address_32 : decode cX3_address 32 = .ok (.istore 4, 2) := by decide +kernel
theorem dX3_address_34 : decode cX3_address 34 = .ok (.iconst 0, 1) := by decide +kernel
theorem dX3_address_35 : decode cX3_address 35 = .ok (.istore 5, 2) := by decide +kernel
theorem dX3_address_37 : decode cX3_address 37 = .ok (.iload 5, 2) := by decide +kernel
theorem dX3_address_39 : decode cX3_address 39 = .ok (.iload_n 2, 1) := by decide +kernel
theorem dX3_address_40 : decode cX3_address 40 = .ok (.if_icmp .ge 33, 3) := by decide +kernel
theorem dX3_address_43 : decode cX3_address 43 = .ok (.iload 4, 2) := by decide +kernel
theorem dX3_address_45 : decode cX3_address 45 = .ok (.aload_n 3, 1) := by decide +kernel
theorem dX3_address_46 : decode cX3_address 46 = .ok (.getfield 52, 3) := by decide +kernel
theorem dX3_address_49 : decode cX3_address 49 = .ok (.if_icmp .lt 6, 3) := by decide +kernel
theorem dX3_address_52 : decode cX3_address 52 = .ok (.bipush (-4), 2) := by decide +kernel
theorem dX3_address_54 : decode cX3_address 54 = .ok (.ireturn, 1) := by decide +kernel
theorem dX3_address_55 : decode cX3_address 55 = .ok (.aload_n 0, 1) := by decide +kernel
theorem dX3_address_56 : decode cX3_address 56 = .ok (.iload 4, 2) := by decide +kernel
theorem dX3_address_58 : decode cX3_address 58 = .ok (.aload_n 3, 1) := by decide +kernel
theorem dX3_address_59 : decode cX3_address 59 = .ok (.getfield 52, 3) := by decide +kernel
theorem dX3_address_62 : decode cX3_address 62 = .ok (.invokevirtual 94, 3) := by decide +kernel
theorem dX3_address_65 : decode cX3_address 65 = .ok (.istore 4, 2) := by decide +kernel
theorem dX3_address_67 : decode cX3_address 67 = .ok (.iinc 5 1, 3) := by decide +kernel
theorem dX3_address_70 : decode cX3_address 70 = .ok (.goto (-33), 3) := by decide +kernel
theorem dX3_address_73 : decode cX3_address 73 = .ok (.iload 4, 2) := by decide +kernel
theorem dX3_address_75 : decode cX3_address 75 = .ok (.ireturn, 1) := by decide +kernel
theorem dX3_cross_0 : decode cX3_cross 0 = .ok (.aload_n 0, 1) := by decide +kernel
theorem dX3_cross_1 : decode cX3_cross 1 = .ok (.iload_n 1, 1) := by decide +kernel
theorem dX3_cross_2 : decode cX3_cross 2 = .ok (.invokevirtual 39, 3) := by decide +kernel
theorem dX3_cross_5 : decode cX3_cross 5 = .ok (.astore 5, 2) := by decide +kernel
theorem dX3_cross_7 : decode cX3_cross 7 = .ok (.aload_n 0, 1) := by decide +kernel
theorem dX3_cross_8 : decode cX3_cross 8 = .ok (.iload_n 2, 1) := by decide +kernel
theorem dX3_cross_9 : decode cX3_cross 9 = .ok (.invokevirtual 39, 3) := by decide +kernel
theorem dX3_cross_12 : decode cX3_cross 12 = .ok (.astore 6, 2) := by decide +kernel
theorem dX3_cross_14 : decode cX3_cross 14 = .ok (.aload_n 0, 1) := by decide +kernel
theorem dX3_cross_15 : decode cX3_cross 15 = .ok (.iload_n 3, 1) := by decide +kernel
theorem dX3_cross_16 : decode cX3_cross 16 = .ok (.invokevirtual 39, 3) := by decide +kernel
theorem dX3_cross_19 : decode cX3_cross 19 = .ok (.astore 7, 2) := by decide +kernel
theorem dX3_cross_21 : decode cX3_cross 21 = .ok (.aload_n 0, 1) := by decide +kernel
theorem dX3_cross_22 : decode cX3_cross 22 = .ok (.iload 4, 2) := by decide +kernel
theorem dX3_cross_24 : decode cX3_cross 24 = .ok (.invokevirtual 39, 3) := by decide +kernel
theorem dX3_cross_27 : decode cX3_cross 27 = .ok (.astore 8, 2) := by decide +kernel
theorem dX3_cross_29 : decode cX3_cross 29 = .ok (.aload 5, 2) := by decide +kernel
theorem dX3_cross_31 : decode cX3_cross 31 = .ok (.ifnull 18, 3) := by decide +kernel
theorem dX3_cross_34 : decode cX3_cross 34 = .ok (.aload 6, 2) := by decide +kernel
theorem dX3_cross_36 : decode cX3_cross 36 = .ok (.ifnull 13, 3) := by decide +kernel
theorem dX3_cross_39 : decode cX3_cross 39 = .ok (.aload 7, 2) := by decide +kernel
theorem dX3_cross_41 : decode cX3_cross 41 = .ok (.ifnull 8, 3) := by decide +kernel
theorem dX3_cross_44 : decode cX3_cross 44 = .ok (.aload 8, 2) := by decide +kernel
theorem dX3_cross_46 : decode cX3_cross 46 = .ok (.ifnonnull 5, 3) := by decide +kernel
theorem dX3_cross_49 : decode cX3_cross 49 = .ok (.iconst (-1), 1) := by decide +kernel
theorem dX3_cross_50 : decode cX3_cross 50 = .ok (.ireturn, 1) := by decide +kernel
theorem dX3_cross_51 : decode cX3_cross 51 = .ok (.aload 7, 2) := by decide +kernel
theorem dX3_cross_53 : decode cX3_cross 53 = .ok (.aload 5, 2) := by decide +kernel
theorem dX3_cross_55 : decode cX3_cross 55 = .ok (.invokevirtual 97, 3) := by decide +kernel
theorem dX3_cross_58 : decode cX3_cross 58 = .ok (.aload 7, 2) := by decide +kernel
theorem dX3_cross_60 : decode cX3_cross 60 = .ok (.aload 6, 2) := by decide +kernel
theorem dX3_cross_62 : decode cX3_cross 62 = .ok (.invokevirtual 97, 3) := by decide +kernel
theorem dX3_cross_65 : decode cX3_cross 65 = .ok (.imul, 1) := by decide +kernel
theorem dX3_cross_66 : decode cX3_cross 66 = .ok (.istore 9, 2) := by decide +kernel
theorem dX3_cross_68 : decode cX3_cross 68 = .ok (.aload 8, 2) := by decide +kernel
theorem dX3_cross_70 : decode cX3_cross 70 = .ok (.aload 5, 2) := by decide +kernel
theorem dX3_cross_72 : decode cX3_cross 72 = .ok (.invokevirtual 97, 3) := by decide +kernel
theorem dX3_cross_75 : decode cX3_cross 75 = .ok (.aload 8, 2) := by decide +kernel
theorem dX3_cross_77 : decode cX3_cross 77 = .ok (.aload 6, 2) := by decide +kernel
theorem dX3_cross_79 : decode cX3_cross 79 = .ok (.invokevirtual 97, 3) := by decide +kernel
theorem dX3_cross_82 : decode cX3_cross 82 = .ok (.imul, 1) := by decide +kernel
theorem dX3_cross_83 : decode cX3_cross 83 = .ok (.istore 10, 2) := by decide +kernel
theorem dX3_cross_85 : decode cX3_cross 85 = .ok (.iload 9, 2) := by decide +kernel
theorem dX3_cross_87 : decode cX3_cross 87 = .ok (.iload 10, 2) := by decide +kernel
theorem dX3_cross_89 : decode cX3_cross 89 = .ok (.imul, 1) := by decide +kernel
theorem dX3_cross_90 : decode cX3_cross 90 = .ok (.ifCond .ge 7, 3) := by decide +kernel
theorem dX3_cross_93 : decode cX3_cross 93 = .ok (.iconst 1, 1) := by decide +kernel
theorem dX3_cross_94 : decode cX3_cross 94 = .ok (.goto 4, 3) := by decide +kernel
theorem dX3_cross_97 : decode cX3_cross 97 = .ok (.iconst 0, 1) := by decide +kernel
theorem dX3_cross_98 : decode cX3_cross 98 = .ok (.invokestatic 101, 3) := by decide +kernel
theorem dX3_cross_101 : decode cX3_cross 101 = .ok (.ireturn, 1) := by decide +kernel
theorem dX3_meet_0 : decode cX3_meet 0 = .ok (.aload_n 0, 1) := by decide +kernel
theorem dX3_meet_1 : decode cX3_meet 1 = .ok (.iload_n 1, 1) := by decide +kernel
theorem dX3_meet_2 : decode cX3_meet 2 = .ok (.invokevirtual 39, 3) := by decide +kernel
theorem dX3_meet_5 : decode cX3_meet 5 = .ok (.astore 4, 2) := by decide +kernel
theorem dX3_meet_7 : decode cX3_meet 7 = .ok (.aload_n 0, 1) := by decide +kernel
theorem dX3_meet_8 : decode cX3_meet 8 = .ok (.iload_n 2, 1) := by decide +kernel
theorem dX3_meet_9 : decode cX3_meet 9 = .ok (.invokevirtual 39, 3) := by decide +kernel
theorem dX3_meet_12 : decode cX3_meet 12 = .ok (.astore 5, 2) := by decide +kernel
theorem dX3_meet_14 : decode cX3_meet 14 = .ok (.aload_n 0, 1) := by decide +kernel
theorem dX3_meet_15 : decode cX3_meet 15 = .ok (.iload_n 3, 1) := by decide +kernel
theorem dX3_meet_16 : decode cX3_meet 16 = .ok (.invokevirtual 39, 3) := by decide +kernel
theorem dX3_meet_19 : decode cX3_meet 19 = .ok (.astore 6, 2) := by decide +kernel
theorem dX3_meet_21 : decode cX3_meet 21 = .ok (.aload 4, 2) := by decide +kernel
theorem dX3_meet_23 : decode cX3_meet 23 = .ok (.ifnull 13, 3) := by decide +kernel
theorem dX3_meet_26 : decode cX3_meet 26 = .ok (.aload 5, 2) := by decide +kernel
theorem dX3_meet_28 : decode cX3_meet 28 = .ok (.ifnull 8, 3) := by decide +kernel
theorem dX3_meet_31 : decode cX3_meet 31 = .ok (.aload 6, 2) := by decide +kernel
theorem dX3_meet_33 : decode cX3_meet 33 = .ok (.ifnonnull 5, 3) := by decide +kernel
theorem dX3_meet_36 : decode cX3_meet 36 = .ok (.iconst (-1), 1) := by decide +kernel
theorem dX3_meet_37 : decode cX3_meet 37 = .ok (.ireturn, 1) := by decide +kernel
theorem dX3_meet_38 : decode cX3_meet 38 = .ok (.aload 4, 2) := by decide +kernel
theorem dX3_meet_40 : decode cX3_meet 40 = .ok (.getfield 49, 3) := by decide +kernel
theorem dX3_meet_43 : decode cX3_meet 43 = .ok (.aload 5, 2) := by decide +kernel
theorem dX3_meet_45 : decode cX3_meet 45 = .ok (.getfield 49, 3) := by decide +kernel
theorem dX3_meet_48 : decode cX3_meet 48 = .ok (.invokestatic 105, 3) := by decide +kernel
theorem dX3_meet_51 : decode cX3_meet 51 = .ok (.istore 7, 2) := by decide +kernel
theorem dX3_meet_53 : decode cX3_meet 53 = .ok (.aload 4, 2) := by decide +kernel
theorem dX3_meet_55 : decode cX3_meet 55 = .ok (.aload 5, 2) := by decide +kernel
theorem dX3_meet_57 : decode cX3_meet 57 = .ok (.aload 6, 2) := by decide +kernel
theorem dX3_meet_59 : decode cX3_meet 59 = .ok (.iload 7, 2) := by decide +kernel
theorem dX3_meet_61 : decode cX3_meet 61 = .ok (.invokestatic 110, 3) := by decide +kernel
theorem dX3_meet_64 : decode cX3_meet 64 = .ok (.ifCond .eq 22, 3) := by decide +kernel
theorem dX3_meet_67 : decode cX3_meet 67 = .ok (.aload_n 0, 1) := by decide +kernel
theorem dX3_meet_68 : decode cX3_meet 68 = .ok (.aload 4, 2) := by decide +kernel
theorem dX3_meet_70 : decode cX3_meet 70 = .ok (.aload 5, 2) := by decide +kernel
theorem dX3_meet_72 : decode cX3_meet 72 = .ok (.aload 6, 2) := by decide +kernel
theorem dX3_meet_74 : decode cX3_meet 74 = .ok (.iload 7, 2) := by decide +kernel
theorem dX3_meet_76 : decode cX3_meet 76 = .ok (.invokevirtual 114, 3) := by decide +kernel
theorem dX3_meet_79 : decode cX3_meet 79 = .ok (.ifCond .eq 7, 3) := by decide +kernel
theorem dX3_meet_82 : decode cX3_meet 82 = .ok (.iconst 1, 1) := by decide +kernel
theorem dX3_meet_83 : decode cX3_meet 83 = .ok (.goto 4, 3) := by decide +kernel
theorem dX3_meet_86 : decode cX3_meet 86 = .ok (.iconst 0, 1) := by decide +kernel
theorem dX3_meet_87 : decode cX3_meet 87 = .ok (.invokestatic 101, 3) := by decide +kernel
theorem dX3_meet_90 : decode cX3_meet 90 = .ok (.ireturn, 1) := by decide +kernel
theorem dX3_pairs_0 : decode cX3_pairs 0 = .ok (.iload_n 1, 1) := by decide +kernel
theorem dX3_pairs_1 : decode cX3_pairs 1 = .ok (.invokestatic 117, 3) := by decide +kernel
theorem dX3_pairs_4 : decode cX3_pairs 4 = .ok (.ifCond .ne 5, 3) := by decide +kernel
theorem dX3_pairs_7 : decode cX3_pairs 7 = .ok (.iconst (-1), 1) := by decide +kernel
theorem dX3_pairs_8 : decode cX3_pairs 8 = .ok (.ireturn, 1) := by decide +kernel
theorem dX3_pairs_9 : decode cX3_pairs 9 = .ok (.aload_n 0, 1) := by decide +kernel
theorem dX3_pairs_10 : decode cX3_pairs 10 = .ok (.invokevirtual 120, 3) := by decide +kernel
theorem dX3_pairs_13 : decode cX3_pairs 13 = .ok (.iload_n 1, 1) := by decide +kernel
theorem dX3_pairs_14 : decode cX3_pairs 14 = .ok (.invokevirtual 124, 3) := by decide +kernel
theorem dX3_pairs_17 : decode cX3_pairs 17 = .ok (.ireturn, 1) := by decide +kernel
theorem dX3_pair_0 : decode cX3_pair 0 = .ok (.iload_n 1, 1) := by decide +kernel
theorem dX3_pair_1 : decode cX3_pair 1 = .ok (.invokestatic 117, 3) := by decide +kernel
theorem dX3_pair_4 : decode cX3_pair 4 = .ok (.ifCond .eq 14, 3) := by decide +kernel
theorem dX3_pair_7 : decode cX3_pair 7 = .ok (.iload_n 3, 1) := by decide +kernel
theorem dX3_pair_8 : decode cX3_pair 8 = .ok (.invokestatic 59, 3) := by decide +kernel
theorem dX3_pair_11 : decode cX3_pair 11 = .ok (.ifCond .eq 7, 3) := by decide +kernel
theorem dX3_pair_14 : decode cX3_pair 14 = .ok (.iload_n 2, 1) := by decide +kernel
theorem dX3_pair_15 : decode cX3_pair 15 = .ok (.ifCond .ge 5, 3) := by decide +kernel
theorem dX3_pair_18 : decode cX3_pair 18 = .ok (.iconst (-1), 1) := by decide +kernel
theorem dX3_pair_19 : decode cX3_pair 19 = .ok (.ireturn, 1) := by decide +kernel
theorem dX3_pair_20 : decode cX3_pair 20 = .ok (.aload_n 0, 1) := by decide +kernel
theorem dX3_pair_21 : decode cX3_pair 21 = .ok (.invokevirtual 120, 3) := by decide +kernel
theorem dX3_pair_24 : decode cX3_pair 24 = .ok (.astore 4, 2) := by decide +kernel
theorem dX3_pair_26 : decode cX3_pair 26 = .ok (.iload_n 2, 1) := by decide +kernel
theorem dX3_pair_27 : decode cX3_pair 27 = .ok (.aload 4, 2) := by decide +kernel
theorem dX3_pair_29 : decode cX3_pair 29 = .ok (.iload_n 1, 1) := by decide +kernel
theorem dX3_pair_30 : decode cX3_pair 30 = .ok (.invokevirtual 124, 3) := by decide +kernel
theorem dX3_pair_33 : decode cX3_pair 33 = .ok (.if_icmp .lt 6, 3) := by decide +kernel
theorem dX3_pair_36 : decode cX3_pair 36 = .ok (.bipush (-4), 2) := by decide +kernel
theorem dX3_pair_38 : decode cX3_pair 38 = .ok (.ireturn, 1) := by decide +kernel
theorem dX3_pair_39 : decode cX3_pair 39 = .ok (.aload 4, 2) := by decide +kernel
theorem dX3_pair_41 : decode cX3_pair 41 = .ok (.aload 4, 2) := by decide +kernel
theorem dX3_pair_43 : decode cX3_pair 43 = .ok (.iload_n 1, 1) := by decide +kernel
theorem dX3_pair_44 : decode cX3_pair 44 = .ok (.iconst 1, 1) := by decide +kernel
theorem dX3_pair_45 : decode cX3_pair 45 = .ok (.isub, 1) := by decide +kernel
theorem dX3_pair_46 : decode cX3_pair 46 = .ok (.invokevirtual 129, 3) := by decide +kernel
theorem dX3_pair_49 : decode cX3_pair 49 = .ok (.iload_n 2, 1) := by decide +kernel
theorem dX3_pair_50 : decode cX3_pair 50 = .ok (.iadd, 1) := by decide +kernel
theorem dX3_pair_51 : decode cX3_pair 51 = .ok (.iload_n 3, 1) := by decide +kernel
theorem dX3_pair_52 : decode cX3_pair 52 = .ok (.iload_n 1, 1) := by decide +kernel
theorem dX3_pair_53 : decode cX3_pair 53 = .ok (.invokevirtual 132, 3) := by decide +kernel
theorem dX3_pair_56 : decode cX3_pair 56 = .ok (.ireturn, 1) := by decide +kernel
theorem dX3_partner_0 : decode cX3_partner 0 = .ok (.aload_n 0, 1) := by decide +kernel
theorem dX3_partner_1 : decode cX3_partner 1 = .ok (.iload_n 1, 1) := by decide +kernel
theorem dX3_partner_2 : decode cX3_partner 2 = .ok (.invokevirtual 39, 3) := by decide +kernel
theorem dX3_partner_5 : decode cX3_partner 5 = .ok (.astore_n 2, 1) := by decide +kernel
theorem dX3_partner_6 : decode cX3_partner 6 = .ok (.aload_n 2, 1) := by decide +kernel
theorem dX3_partner_7 : decode cX3_partner 7 = .ok (.ifnonnull 5, 3) := by decide +kernel
theorem dX3_partner_10 : decode cX3_partner 10 = .ok (.iconst (-1), 1) := by decide +kernel
theorem dX3_partner_11 : decode cX3_partner 11 = .ok (.ireturn, 1) := by decide +kernel
theorem dX3_partner_12 : decode cX3_partner 12 = .ok (.aload_n 0, 1) := by decide +kernel
theorem dX3_partner_13 : decode cX3_partner 13 = .ok (.aload_n 2, 1) := by decide +kernel
theorem dX3_partner_14 : decode cX3_partner 14 = .ok (.invokevirtual 136, 3) := by decide +kernel
theorem dX3_partner_17 : decode cX3_partner 17 = .ok (.istore_n 3, 1) := by decide +kernel
theorem dX3_partner_18 : decode cX3_partner 18 = .ok (.iload_n 3, 1) := by decide +kernel
theorem dX3_partner_19 : decode cX3_partner 19 = .ok (.ifCond .ge 6, 3) := by decide +kernel
theorem dX3_partner_22 : decode cX3_partner 22 = .ok (.bipush (-2), 2) := by decide +kernel
theorem dX3_partner_24 : decode cX3_partner 24 = .ok (.ireturn, 1) := by decide +kernel
theorem dX3_partner_25 : decode cX3_partner 25 = .ok (.aload_n 0, 1) := by decide +kernel
theorem dX3_partner_26 : decode cX3_partner 26 = .ok (.aload_n 0, 1) := by decide +kernel
theorem dX3_partner_27 : decode cX3_partner 27 = .ok (.invokevirtual 120, 3) := by decide +kernel
theorem dX3_partner_30 : decode cX3_partner 30 = .ok (.iload_n 3, 1) := by decide +kernel
theorem dX3_partner_31 : decode cX3_partner 31 = .ok (.aload_n 2, 1) := by decide +kernel
theorem dX3_partner_32 : decode cX3_partner 32 = .ok (.invokevirtual 139, 3) := by decide +kernel
theorem dX3_partner_35 : decode cX3_partner 35 = .ok (.invokevirtual 143, 3) := by decide +kernel
theorem dX3_partner_38 : decode cX3_partner 38 = .ok (.i2l, 1) := by decide +kernel
theorem dX3_partner_39 : decode cX3_partner 39 = .ok (.ldc2_w 146, 3) := by decide +kernel
theorem dX3_partner_42 : decode cX3_partner 42 = .ok (.invokevirtual 35, 3) := by decide +kernel
theorem dX3_partner_45 : decode cX3_partner 45 = .ok (.ireturn, 1) := by decide +kernel
theorem dX3_held_0 : decode cX3_held 0 = .ok (.aload_n 0, 1) := by decide +kernel
theorem dX3_held_1 : decode cX3_held 1 = .ok (.iload_n 1, 1) := by decide +kernel
theorem dX3_held_2 : decode cX3_held 2 = .ok (.invokevirtual 39, 3) := by decide +kernel
theorem dX3_held_5 : decode cX3_held 5 = .ok (.astore_n 3, 1) := by decide +kernel
theorem dX3_held_6 : decode cX3_held 6 = .ok (.aload_n 3, 1) := by decide +kernel
theorem dX3_held_7 : decode cX3_held 7 = .ok (.ifnull 10, 3) := by decide +kernel
theorem dX3_held_10 : decode cX3_held 10 = .ok (.iload_n 2, 1) := by decide +kernel
theorem dX3_held_11 : decode cX3_held 11 = .ok (.invokestatic 117, 3) := by decide +kernel
theorem dX3_held_14 : decode cX3_held 14 = .ok (.ifCond .ne 5, 3) := by decide +kernel
theorem dX3_held_17 : decode cX3_held 17 = .ok (.iconst (-1), 1) := by decide +kernel
theorem dX3_held_18 : decode cX3_held 18 = .ok (.ireturn, 1) := by decide +kernel
theorem dX3_held_19 : decode cX3_held 19 = .ok (.aload_n 0, 1) := by decide +kernel
theorem dX3_held_20 : decode cX3_held 20 = .ok (.invokevirtual 120, 3) := by decide +kernel
theorem dX3_held_23 : decode cX3_held 23 = .ok (.astore 4, 2) := by decide +kernel
theorem dX3_held_25 : decode cX3_held 25 = .ok (.iconst 0, 1) := by decide +kernel
theorem dX3_held_26 : decode cX3_held 26 = .ok (.istore 5, 2) := by decide +kernel
theorem dX3_held_28 : decode cX3_held 28 = .ok (.iconst 0, 1) := by decide +kernel
theorem dX3_held_29 : decode cX3_held 29 = .ok (.istore 6, 2) := by decide +kernel
theorem dX3_held_31 : decode cX3_held 31 = .ok (.iload 6, 2) := by decide +kernel
theorem dX3_held_33 : decode cX3_held 33 = .ok (.aload 4, 2) := by decide +kernel
theorem dX3_held_35 : decode cX3_held 35 = .ok (.iload_n 2, 1) := by decide +kernel
theorem dX3_held_36 : decode cX3_held 36 = .ok (.invokevirtual 129, 3) := by decide +kernel
theorem dX3_held_39 : decode cX3_held 39 = .ok (.if_icmp .ge 23, 3) := by decide +kernel
theorem dX3_held_42 : decode cX3_held 42 = .ok (.aload 4, 2) := by decide +kernel
theorem dX3_held_44 : decode cX3_held 44 = .ok (.iload 6, 2) := by decide +kernel
theorem dX3_held_46 : decode cX3_held 46 = .ok (.aload_n 3, 1) := by decide +kernel
theorem dX3_held_47 : decode cX3_held 47 = .ok (.invokevirtual 148, 3) := by decide +kernel
theorem dX3_held_50 : decode cX3_held 50 = .ok (.ifCond .eq 6, 3) := by decide +kernel
theorem dX3_held_53 : decode cX3_held 53 = .ok (.iinc 5 1, 3) := by decide +kernel
theorem dX3_held_56 : decode cX3_held 56 = .ok (.iinc 6 1, 3) := by decide +kernel
theorem dX3_held_59 : decode cX3_held 59 = .ok (.goto (-28), 3) := by decide +kernel
theorem dX3_held_62 : decode cX3_held 62 = .ok (.iload 5, 2) := by decide +kernel
theorem dX3_held_64 : decode cX3_held 64 = .ok (.ireturn, 1) := by decide +kernel
theorem dX3_holder_0 : decode cX3_holder 0 = .ok (.aload_n 0, 1) := by decide +kernel
theorem dX3_holder_1 : decode cX3_holder 1 = .ok (.iload_n 1, 1) := by decide +kernel
theorem dX3_holder_2 : decode cX3_holder 2 = .ok (.invokevirtual 39, 3) := by decide +kernel
theorem dX3_holder_5 : decode cX3_holder 5 = .ok (.astore 5, 2) := by decide +kernel
theorem dX3_holder_7 : decode cX3_holder 7 = .ok (.aload 5, 2) := by decide +kernel
theorem dX3_holder_9 : decode cX3_holder 9 = .ok (.ifnull 22, 3) := by decide +kernel
theorem dX3_holder_12 : decode cX3_holder 12 = .ok (.iload_n 2, 1) := by decide +kernel
theorem dX3_holder_13 : decode cX3_holder 13 = .ok (.invokestatic 117, 3) := by decide +kernel
theorem dX3_holder_16 : decode cX3_holder 16 = .ok (.ifCond .eq 15, 3) := by decide +kernel
theorem dX3_holder_19 : decode cX3_holder 19 = .ok (.iload 4, 2) := by decide +kernel
theorem dX3_holder_21 : decode cX3_holder 21 = .ok (.invokestatic 59, 3) := by decide +kernel
theorem dX3_holder_24 : decode cX3_holder 24 = .ok (.ifCond .eq 7, 3) := by decide +kernel
theorem dX3_holder_27 : decode cX3_holder 27 = .ok (.iload_n 3, 1) := by decide +kernel
theorem dX3_holder_28 : decode cX3_holder 28 = .ok (.ifCond .ge 5, 3) := by decide +kernel
theorem dX3_holder_31 : decode cX3_holder 31 = .ok (.iconst (-1), 1) := by decide +kernel
theorem dX3_holder_32 : decode cX3_holder 32 = .ok (.ireturn, 1) := by decide +kernel
theorem dX3_holder_33 : decode cX3_holder 33 = .ok (.aload_n 0, 1) := by decide +kernel
theorem dX3_holder_34 : decode cX3_holder 34 = .ok (.invokevirtual 120, 3) := by decide +kernel
theorem dX3_holder_37 : decode cX3_holder 37 = .ok (.astore 6, 2) := by decide +kernel
theorem dX3_holder_39 : decode cX3_holder 39 = .ok (.aload 6, 2) := by decide +kernel
theorem dX3_holder_41 : decode cX3_holder 41 = .ok (.aload 5, 2) := by decide +kernel
theorem dX3_holder_43 : decode cX3_holder 43 = .ok (.iload_n 2, 1) := by decide +kernel
theorem dX3_holder_44 : decode cX3_holder 44 = .ok (.iconst (-1), 1) := by decide +kernel
theorem dX3_holder_45 : decode cX3_holder 45 = .ok (.invokevirtual 152, 3) := by decide +kernel
theorem dX3_holder_48 : decode cX3_holder 48 = .ok (.istore 7, 2) := by decide +kernel
theorem dX3_holder_50 : decode cX3_holder 50 = .ok (.iconst 0, 1) := by decide +kernel
theorem dX3_holder_51 : decode cX3_holder 51 = .ok (.istore 8, 2) := by decide +kernel
theorem dX3_holder_53 : decode cX3_holder 53 = .ok (.iload 8, 2) := by decide +kernel
theorem dX3_holder_55 : decode cX3_holder 55 = .ok (.iload_n 3, 1) := by decide +kernel
theorem dX3_holder_56 : decode cX3_holder 56 = .ok (.if_icmp .ge 26, 3) := by decide +kernel
theorem dX3_holder_59 : decode cX3_holder 59 = .ok (.iload 7, 2) := by decide +kernel
theorem dX3_holder_61 : decode cX3_holder 61 = .ok (.ifCond .lt 21, 3) := by decide +kernel
theorem dX3_holder_64 : decode cX3_holder 64 = .ok (.aload 6, 2) := by decide +kernel
theorem dX3_holder_66 : decode cX3_holder 66 = .ok (.aload 5, 2) := by decide +kernel
theorem dX3_holder_68 : decode cX3_holder 68 = .ok (.iload_n 2, 1) := by decide +kernel
theorem dX3_holder_69 : decode cX3_holder 69 = .ok (.iload 7, 2) := by decide +kernel
theorem dX3_holder_71 : decode cX3_holder 71 = .ok (.invokevirtual 152, 3) := by decide +kernel
theorem dX3_holder_74 : decode cX3_holder 74 = .ok (.istore 7, 2) := by decide +kernel
theorem dX3_holder_76 : decode cX3_holder 76 = .ok (.iinc 8 1, 3) := by decide +kernel
theorem dX3_holder_79 : decode cX3_holder 79 = .ok (.goto (-26), 3) := by decide +kernel
theorem dX3_holder_82 : decode cX3_holder 82 = .ok (.iload 7, 2) := by decide +kernel
theorem dX3_holder_84 : decode cX3_holder 84 = .ok (.ifCond .ge 6, 3) := by decide +kernel
theorem dX3_holder_87 : decode cX3_holder 87 = .ok (.bipush (-4), 2) := by decide +kernel
theorem dX3_holder_89 : decode cX3_holder 89 = .ok (.ireturn, 1) := by decide +kernel
theorem dX3_holder_90 : decode cX3_holder 90 = .ok (.aload 6, 2) := by decide +kernel
theorem dX3_holder_92 : decode cX3_holder 92 = .ok (.iload 7, 2) := by decide +kernel
theorem dX3_holder_94 : decode cX3_holder 94 = .ok (.invokevirtual 156, 3) := by decide +kernel
theorem dX3_holder_97 : decode cX3_holder 97 = .ok (.istore 8, 2) := by decide +kernel
theorem dX3_holder_99 : decode cX3_holder 99 = .ok (.iload 4, 2) := by decide +kernel
theorem dX3_holder_101 : decode cX3_holder 101 = .ok (.ifCond .ne 8, 3) := by decide +kernel
theorem dX3_holder_104 : decode cX3_holder 104 = .ok (.iload 8, 2) := by decide +kernel
theorem dX3_holder_106 : decode cX3_holder 106 = .ok (.goto 15, 3) := by decide +kernel
theorem dX3_holder_109 : decode cX3_holder 109 = .ok (.iload 7, 2) := by decide +kernel
theorem dX3_holder_111 : decode cX3_holder 111 = .ok (.aload 6, 2) := by decide +kernel
theorem dX3_holder_113 : decode cX3_holder 113 = .ok (.iload 8, 2) := by decide +kernel
theorem dX3_holder_115 : decode cX3_holder 115 = .ok (.iconst 1, 1) := by decide +kernel
theorem dX3_holder_116 : decode cX3_holder 116 = .ok (.isub, 1) := by decide +kernel
theorem dX3_holder_117 : decode cX3_holder 117 = .ok (.invokevirtual 129, 3) := by decide +kernel
theorem dX3_holder_120 : decode cX3_holder 120 = .ok (.isub, 1) := by decide +kernel
theorem dX3_holder_121 : decode cX3_holder 121 = .ok (.ireturn, 1) := by decide +kernel
theorem dX3_holds_0 : decode cX3_holds 0 = .ok (.aload_n 0, 1) := by decide +kernel
theorem dX3_holds_1 : decode cX3_holds 1 = .ok (.iload_n 1, 1) := by decide +kernel
theorem dX3_holds_2 : decode cX3_holds 2 = .ok (.invokevirtual 39, 3) := by decide +kernel
theorem dX3_holds_5 : decode cX3_holds 5 = .ok (.astore_n 3, 1) := by decide +kernel
theorem dX3_holds_6 : decode cX3_holds 6 = .ok (.aload_n 0, 1) := by decide +kernel
theorem dX3_holds_7 : decode cX3_holds 7 = .ok (.iload_n 2, 1) := by decide +kernel
theorem dX3_holds_8 : decode cX3_holds 8 = .ok (.invokevirtual 39, 3) := by decide +kernel
theorem dX3_holds_11 : decode cX3_holds 11 = .ok (.astore 4, 2) := by decide +kernel
theorem dX3_holds_13 : decode cX3_holds 13 = .ok (.aload_n 3, 1) := by decide +kernel
theorem dX3_holds_14 : decode cX3_holds 14 = .ok (.ifnull 8, 3) := by decide +kernel
theorem dX3_holds_17 : decode cX3_holds 17 = .ok (.aload 4, 2) := by decide +kernel
theorem dX3_holds_19 : decode cX3_holds 19 = .ok (.ifnonnull 5, 3) := by decide +kernel
theorem dX3_holds_22 : decode cX3_holds 22 = .ok (.iconst (-1), 1) := by decide +kernel
theorem dX3_holds_23 : decode cX3_holds 23 = .ok (.ireturn, 1) := by decide +kernel
theorem dX3_holds_24 : decode cX3_holds 24 = .ok (.aload_n 0, 1) := by decide +kernel
theorem dX3_holds_25 : decode cX3_holds 25 = .ok (.aload_n 3, 1) := by decide +kernel
theorem dX3_holds_26 : decode cX3_holds 26 = .ok (.invokevirtual 136, 3) := by decide +kernel
theorem dX3_holds_29 : decode cX3_holds 29 = .ok (.istore 5, 2) := by decide +kernel
theorem dX3_holds_31 : decode cX3_holds 31 = .ok (.aload_n 0, 1) := by decide +kernel
theorem dX3_holds_32 : decode cX3_holds 32 = .ok (.aload 4, 2) := by decide +kernel
theorem dX3_holds_34 : decode cX3_holds 34 = .ok (.invokevirtual 136, 3) := by decide +kernel
theorem dX3_holds_37 : decode cX3_holds 37 = .ok (.istore 6, 2) := by decide +kernel
theorem dX3_holds_39 : decode cX3_holds 39 = .ok (.iload 5, 2) := by decide +kernel
theorem dX3_holds_41 : decode cX3_holds 41 = .ok (.ifCond .lt 8, 3) := by decide +kernel
theorem dX3_holds_44 : decode cX3_holds 44 = .ok (.iload 6, 2) := by decide +kernel
theorem dX3_holds_46 : decode cX3_holds 46 = .ok (.ifCond .ge 6, 3) := by decide +kernel
theorem dX3_holds_49 : decode cX3_holds 49 = .ok (.bipush (-2), 2) := by decide +kernel
theorem dX3_holds_51 : decode cX3_holds 51 = .ok (.ireturn, 1) := by decide +kernel
theorem dX3_holds_52 : decode cX3_holds 52 = .ok (.aload_n 0, 1) := by decide +kernel
theorem dX3_holds_53 : decode cX3_holds 53 = .ok (.invokevirtual 120, 3) := by decide +kernel
theorem dX3_holds_56 : decode cX3_holds 56 = .ok (.iload 5, 2) := by decide +kernel
theorem dX3_holds_58 : decode cX3_holds 58 = .ok (.iload 6, 2) := by decide +kernel
theorem dX3_holds_60 : decode cX3_holds 60 = .ok (.invokevirtual 159, 3) := by decide +kernel
theorem dX3_holds_63 : decode cX3_holds 63 = .ok (.invokestatic 101, 3) := by decide +kernel
theorem dX3_holds_66 : decode cX3_holds 66 = .ok (.ireturn, 1) := by decide +kernel
theorem dX3_between_0 : decode cX3_between 0 = .ok (.aload_n 0, 1) := by decide +kernel
theorem dX3_between_1 : decode cX3_between 1 = .ok (.iload_n 1, 1) := by decide +kernel
theorem dX3_between_2 : decode cX3_between 2 = .ok (.invokevirtual 39, 3) := by decide +kernel
theorem dX3_between_5 : decode cX3_between 5 = .ok (.astore 4, 2) := by decide +kernel
theorem dX3_between_7 : decode cX3_between 7 = .ok (.aload_n 0, 1) := by decide +kernel
theorem dX3_between_8 : decode cX3_between 8 = .ok (.iload_n 2, 1) := by decide +kernel
theorem dX3_between_9 : decode cX3_between 9 = .ok (.invokevirtual 39, 3) := by decide +kernel
theorem dX3_between_12 : decode cX3_between 12 = .ok (.astore 5, 2) := by decide +kernel
theorem dX3_between_14 : decode cX3_between 14 = .ok (.aload 4, 2) := by decide +kernel
theorem dX3_between_16 : decode cX3_between 16 = .ok (.ifnull 15, 3) := by decide +kernel
theorem dX3_between_19 : decode cX3_between 19 = .ok (.aload 5, 2) := by decide +kernel
theorem dX3_between_21 : decode cX3_between 21 = .ok (.ifnull 10, 3) := by decide +kernel
theorem dX3_between_24 : decode cX3_between 24 = .ok (.iload_n 3, 1) := by decide +kernel
theorem dX3_between_25 : decode cX3_between 25 = .ok (.invokestatic 117, 3) := by decide +kernel
theorem dX3_between_28 : decode cX3_between 28 = .ok (.ifCond .ne 5, 3) := by decide +kernel
theorem dX3_between_31 : decode cX3_between 31 = .ok (.iconst (-1), 1) := by decide +kernel
theorem dX3_between_32 : decode cX3_between 32 = .ok (.ireturn, 1) := by decide +kernel
theorem dX3_between_33 : decode cX3_between 33 = .ok (.aload_n 0, 1) := by decide +kernel
theorem dX3_between_34 : decode cX3_between 34 = .ok (.aload 4, 2) := by decide +kernel
theorem dX3_between_36 : decode cX3_between 36 = .ok (.invokevirtual 136, 3) := by decide +kernel
theorem dX3_between_39 : decode cX3_between 39 = .ok (.istore 6, 2) := by decide +kernel
theorem dX3_between_41 : decode cX3_between 41 = .ok (.aload_n 0, 1) := by decide +kernel
theorem dX3_between_42 : decode cX3_between 42 = .ok (.aload 5, 2) := by decide +kernel
theorem dX3_between_44 : decode cX3_between 44 = .ok (.invokevirtual 136, 3) := by decide +kernel
theorem dX3_between_47 : decode cX3_between 47 = .ok (.istore 7, 2) := by decide +kernel
theorem dX3_between_49 : decode cX3_between 49 = .ok (.iload 6, 2) := by decide +kernel
theorem dX3_between_51 : decode cX3_between 51 = .ok (.ifCond .lt 8, 3) := by decide +kernel
theorem dX3_between_54 : decode cX3_between 54 = .ok (.iload 7, 2) := by decide +kernel
theorem dX3_between_56 : decode cX3_between 56 = .ok (.ifCond .ge 6, 3) := by decide +kernel
theorem dX3_between_59 : decode cX3_between 59 = .ok (.bipush (-2), 2) := by decide +kernel
theorem dX3_between_61 : decode cX3_between 61 = .ok (.ireturn, 1) := by decide +kernel
theorem dX3_between_62 : decode cX3_between 62 = .ok (.aload_n 0, 1) := by decide +kernel
theorem dX3_between_63 : decode cX3_between 63 = .ok (.invokevirtual 120, 3) := by decide +kernel
theorem dX3_between_66 : decode cX3_between 66 = .ok (.astore 8, 2) := by decide +kernel
theorem dX3_between_68 : decode cX3_between 68 = .ok (.aload 8, 2) := by decide +kernel
theorem dX3_between_70 : decode cX3_between 70 = .ok (.iload 6, 2) := by decide +kernel
theorem dX3_between_72 : decode cX3_between 72 = .ok (.iload 7, 2) := by decide +kernel
theorem dX3_between_74 : decode cX3_between 74 = .ok (.invokevirtual 159, 3) := by decide +kernel
theorem dX3_between_77 : decode cX3_between 77 = .ok (.ifCond .eq 14, 3) := by decide +kernel
theorem dX3_between_80 : decode cX3_between 80 = .ok (.aload 8, 2) := by decide +kernel
theorem dX3_between_82 : decode cX3_between 82 = .ok (.iload 6, 2) := by decide +kernel
theorem dX3_between_84 : decode cX3_between 84 = .ok (.iload 7, 2) := by decide +kernel
theorem dX3_between_86 : decode cX3_between 86 = .ok (.iload_n 3, 1) := by decide +kernel
theorem dX3_between_87 : decode cX3_between 87 = .ok (.invokevirtual 163, 3) := by decide +kernel
theorem dX3_between_90 : decode cX3_between 90 = .ok (.ireturn, 1) := by decide +kernel
theorem dX3_between_91 : decode cX3_between 91 = .ok (.aload 8, 2) := by decide +kernel
theorem dX3_between_93 : decode cX3_between 93 = .ok (.iload 7, 2) := by decide +kernel
theorem dX3_between_95 : decode cX3_between 95 = .ok (.iload 6, 2) := by decide +kernel
theorem dX3_between_97 : decode cX3_between 97 = .ok (.invokevirtual 159, 3) := by decide +kernel
theorem dX3_between_100 : decode cX3_between 100 = .ok (.ifCond .eq 16, 3) := by decide +kernel
theorem dX3_between_103 : decode cX3_between 103 = .ok (.aload 8, 2) := by decide +kernel
theorem dX3_between_105 : decode cX3_between 105 = .ok (.iload 7, 2) := by decide +kernel
theorem dX3_between_107 : decode cX3_between 107 = .ok (.iload 6, 2) := by decide +kernel
theorem dX3_between_109 : decode cX3_between 109 = .ok (.iload_n 3, 1) := by decide +kernel
theorem dX3_between_110 : decode cX3_between 110 = .ok (.invokevirtual 163, 3) := by decide +kernel
theorem dX3_between_113 : decode cX3_between 113 = .ok (.goto 5, 3) := by decide +kernel
theorem dX3_between_116 : decode cX3_between 116 = .ok (.bipush (-2), 2) := by decide +kernel
theorem dX3_between_118 : decode cX3_between 118 = .ok (.ireturn, 1) := by decide +kernel
theorem dX3_wide_0 : decode cX3_wide 0 = .ok (.aload_n 0, 1) := by decide +kernel
theorem dX3_wide_1 : decode cX3_wide 1 = .ok (.iload_n 1, 1) := by decide +kernel
theorem dX3_wide_2 : decode cX3_wide 2 = .ok (.invokevirtual 39, 3) := by decide +kernel
theorem dX3_wide_5 : decode cX3_wide 5 = .ok (.astore_n 3, 1) := by decide +kernel
theorem dX3_wide_6 : decode cX3_wide 6 = .ok (.aload_n 3, 1) := by decide +kernel
theorem dX3_wide_7 : decode cX3_wide 7 = .ok (.ifnull 10, 3) := by decide +kernel
theorem dX3_wide_10 : decode cX3_wide 10 = .ok (.iload_n 2, 1) := by decide +kernel
theorem dX3_wide_11 : decode cX3_wide 11 = .ok (.invokestatic 73, 3) := by decide +kernel
theorem dX3_wide_14 : decode cX3_wide 14 = .ok (.ifCond .ne 5, 3) := by decide +kernel
theorem dX3_wide_17 : decode cX3_wide 17 = .ok (.iconst (-1), 1) := by decide +kernel
theorem dX3_wide_18 : decode cX3_wide 18 = .ok (.ireturn, 1) := by decide +kernel
theorem dX3_wide_19 : decode cX3_wide 19 = .ok (.aload_n 0, 1) := by decide +kernel
theorem dX3_wide_20 : decode cX3_wide 20 = .ok (.aload_n 3, 1) := by decide +kernel
theorem dX3_wide_21 : decode cX3_wide 21 = .ok (.invokevirtual 136, 3) := by decide +kernel
theorem dX3_wide_24 : decode cX3_wide 24 = .ok (.istore 4, 2) := by decide +kernel
theorem dX3_wide_26 : decode cX3_wide 26 = .ok (.iload 4, 2) := by decide +kernel
theorem dX3_wide_28 : decode cX3_wide 28 = .ok (.ifCond .ge 6, 3) := by decide +kernel
theorem dX3_wide_31 : decode cX3_wide 31 = .ok (.bipush (-2), 2) := by decide +kernel
theorem dX3_wide_33 : decode cX3_wide 33 = .ok (.ireturn, 1) := by decide +kernel
theorem dX3_wide_34 : decode cX3_wide 34 = .ok (.iconst 1, 1) := by decide +kernel
theorem dX3_wide_35 : decode cX3_wide 35 = .ok (.istore 5, 2) := by decide +kernel
theorem dX3_wide_37 : decode cX3_wide 37 = .ok (.iload 5, 2) := by decide +kernel
theorem dX3_wide_39 : decode cX3_wide 39 = .ok (.iload_n 2, 1) := by decide +kernel
theorem dX3_wide_40 : decode cX3_wide 40 = .ok (.if_icmp .gt 30, 3) := by decide +kernel
theorem dX3_wide_43 : decode cX3_wide 43 = .ok (.aload_n 0, 1) := by decide +kernel
theorem dX3_wide_44 : decode cX3_wide 44 = .ok (.getfield 21, 3) := by decide +kernel
theorem dX3_wide_47 : decode cX3_wide 47 = .ok (.iload 5, 2) := by decide +kernel
theorem dX3_wide_49 : decode cX3_wide 49 = .ok (.aload_n 0, 1) := by decide +kernel
theorem dX3_wide_50 : decode cX3_wide 50 = .ok (.invokevirtual 120, 3) := by decide +kernel
theorem dX3_wide_53 : decode cX3_wide 53 = .ok (.iload 4, 2) := by decide +kernel
theorem dX3_wide_55 : decode cX3_wide 55 = .ok (.iload 5, 2) := by decide +kernel
theorem dX3_wide_57 : decode cX3_wide 57 = .ok (.invokestatic 76, 3) := by decide +kernel
theorem dX3_wide_60 : decode cX3_wide 60 = .ok (.invokevirtual 166, 3) := by decide +kernel
theorem dX3_wide_63 : decode cX3_wide 63 = .ok (.iastore, 1) := by decide +kernel
theorem dX3_wide_64 : decode cX3_wide 64 = .ok (.iinc 5 1, 3) := by decide +kernel
theorem dX3_wide_67 : decode cX3_wide 67 = .ok (.goto (-30), 3) := by decide +kernel
theorem dX3_wide_70 : decode cX3_wide 70 = .ok (.aload_n 0, 1) := by decide +kernel
theorem dX3_wide_71 : decode cX3_wide 71 = .ok (.iload_n 2, 1) := by decide +kernel
theorem dX3_wide_72 : decode cX3_wide 72 = .ok (.invokevirtual 79, 3) := by decide +kernel
theorem dX3_wide_75 : decode cX3_wide 75 = .ok (.ireturn, 1) := by decide +kernel
theorem dX3_digit_0 : decode cX3_digit 0 = .ok (.aload_n 0, 1) := by decide +kernel
theorem dX3_digit_1 : decode cX3_digit 1 = .ok (.iload_n 1, 1) := by decide +kernel
theorem dX3_digit_2 : decode cX3_digit 2 = .ok (.invokevirtual 39, 3) := by decide +kernel
theorem dX3_digit_5 : decode cX3_digit 5 = .ok (.astore_n 3, 1) := by decide +kernel
theorem dX3_digit_6 : decode cX3_digit 6 = .ok (.aload_n 3, 1) := by decide +kernel
theorem dX3_digit_7 : decode cX3_digit 7 = .ok (.ifnull 10, 3) := by decide +kernel
theorem dX3_digit_10 : decode cX3_digit 10 = .ok (.iload_n 2, 1) := by decide +kernel
theorem dX3_digit_11 : decode cX3_digit 11 = .ok (.invokestatic 55, 3) := by decide +kernel
theorem dX3_digit_14 : decode cX3_digit 14 = .ok (.ifCond .ne 5, 3) := by decide +kernel
theorem dX3_digit_17 : decode cX3_digit 17 = .ok (.iconst (-1), 1) := by decide +kernel
theorem dX3_digit_18 : decode cX3_digit 18 = .ok (.ireturn, 1) := by decide +kernel
theorem dX3_digit_19 : decode cX3_digit 19 = .ok (.aload_n 3, 1) := by decide +kernel
theorem dX3_digit_20 : decode cX3_digit 20 = .ok (.invokevirtual 86, 3) := by decide +kernel
theorem dX3_digit_23 : decode cX3_digit 23 = .ok (.ifCond .ne 6, 3) := by decide +kernel
theorem dX3_digit_26 : decode cX3_digit 26 = .ok (.bipush (-2), 2) := by decide +kernel
theorem dX3_digit_28 : decode cX3_digit 28 = .ok (.ireturn, 1) := by decide +kernel
theorem dX3_digit_29 : decode cX3_digit 29 = .ok (.iconst 2, 1) := by decide +kernel
theorem dX3_digit_30 : decode cX3_digit 30 = .ok (.aload_n 3, 1) := by decide +kernel
theorem dX3_digit_31 : decode cX3_digit 31 = .ok (.iload_n 2, 1) := by decide +kernel
theorem dX3_digit_32 : decode cX3_digit 32 = .ok (.invokevirtual 62, 3) := by decide +kernel
theorem dX3_digit_35 : decode cX3_digit 35 = .ok (.imul, 1) := by decide +kernel
theorem dX3_digit_36 : decode cX3_digit 36 = .ok (.aload_n 3, 1) := by decide +kernel
theorem dX3_digit_37 : decode cX3_digit 37 = .ok (.getfield 46, 3) := by decide +kernel
theorem dX3_digit_40 : decode cX3_digit 40 = .ok (.if_icmp .lt 7, 3) := by decide +kernel
theorem dX3_digit_43 : decode cX3_digit 43 = .ok (.iconst 1, 1) := by decide +kernel
theorem dX3_digit_44 : decode cX3_digit 44 = .ok (.goto 4, 3) := by decide +kernel
theorem dX3_digit_47 : decode cX3_digit 47 = .ok (.iconst 0, 1) := by decide +kernel
theorem dX3_digit_48 : decode cX3_digit 48 = .ok (.invokestatic 101, 3) := by decide +kernel
theorem dX3_digit_51 : decode cX3_digit 51 = .ok (.ireturn, 1) := by decide +kernel
theorem dX3_put_0 : decode cX3_put 0 = .ok (.aload_n 0, 1) := by decide +kernel
theorem dX3_put_1 : decode cX3_put 1 = .ok (.iload_n 1, 1) := by decide +kernel
theorem dX3_put_2 : decode cX3_put 2 = .ok (.invokevirtual 39, 3) := by decide +kernel
theorem dX3_put_5 : decode cX3_put 5 = .ok (.astore_n 3, 1) := by decide +kernel
theorem dX3_put_6 : decode cX3_put 6 = .ok (.aload_n 0, 1) := by decide +kernel
theorem dX3_put_7 : decode cX3_put 7 = .ok (.iload_n 2, 1) := by decide +kernel
theorem dX3_put_8 : decode cX3_put 8 = .ok (.invokevirtual 39, 3) := by decide +kernel
theorem dX3_put_11 : decode cX3_put 11 = .ok (.astore 4, 2) := by decide +kernel
theorem dX3_put_13 : decode cX3_put 13 = .ok (.aload_n 3, 1) := by decide +kernel
theorem dX3_put_14 : decode cX3_put 14 = .ok (.ifnull 8, 3) := by decide +kernel
theorem dX3_put_17 : decode cX3_put 17 = .ok (.aload 4, 2) := by decide +kernel
theorem dX3_put_19 : decode cX3_put 19 = .ok (.ifnonnull 5, 3) := by decide +kernel
theorem dX3_put_22 : decode cX3_put 22 = .ok (.iconst (-1), 1) := by decide +kernel
theorem dX3_put_23 : decode cX3_put 23 = .ok (.ireturn, 1) := by decide +kernel
theorem dX3_put_24 : decode cX3_put 24 = .ok (.aload_n 0, 1) := by decide +kernel
theorem dX3_put_25 : decode cX3_put 25 = .ok (.aload_n 3, 1) := by decide +kernel
theorem dX3_put_26 : decode cX3_put 26 = .ok (.aload 4, 2) := by decide +kernel
theorem dX3_put_28 : decode cX3_put 28 = .ok (.invokevirtual 169, 3) := by decide +kernel
theorem dX3_put_31 : decode cX3_put 31 = .ok (.istore 5, 2) := by decide +kernel
theorem dX3_put_33 : decode cX3_put 33 = .ok (.iload 5, 2) := by decide +kernel
theorem dX3_put_35 : decode cX3_put 35 = .ok (.ifCond .lt 18, 3) := by decide +kernel
theorem dX3_put_38 : decode cX3_put 38 = .ok (.aload_n 3, 1) := by decide +kernel
theorem dX3_put_39 : decode cX3_put 39 = .ok (.getfield 52, 3) := by decide +kernel
theorem dX3_put_42 : decode cX3_put 42 = .ok (.aload 4, 2) := by decide +kernel
theorem dX3_put_44 : decode cX3_put 44 = .ok (.getfield 52, 3) := by decide +kernel
theorem dX3_put_47 : decode cX3_put 47 = .ok (.imul, 1) := by decide +kernel
theorem dX3_put_48 : decode cX3_put 48 = .ok (.bipush 20, 2) := by decide +kernel
theorem dX3_put_50 : decode cX3_put 50 = .ok (.if_icmp .le 6, 3) := by decide +kernel
theorem dX3_put_53 : decode cX3_put 53 = .ok (.bipush (-2), 2) := by decide +kernel
theorem dX3_put_55 : decode cX3_put 55 = .ok (.ireturn, 1) := by decide +kernel
theorem dX3_put_56 : decode cX3_put 56 = .ok (.aload_n 0, 1) := by decide +kernel
theorem dX3_put_57 : decode cX3_put 57 = .ok (.invokevirtual 120, 3) := by decide +kernel
theorem dX3_put_60 : decode cX3_put 60 = .ok (.iload 5, 2) := by decide +kernel
theorem dX3_put_62 : decode cX3_put 62 = .ok (.iconst 0, 1) := by decide +kernel
theorem dX3_put_63 : decode cX3_put 63 = .ok (.aload_n 3, 1) := by decide +kernel
theorem dX3_put_64 : decode cX3_put 64 = .ok (.getfield 52, 3) := by decide +kernel
theorem dX3_put_67 : decode cX3_put 67 = .ok (.invokevirtual 132, 3) := by decide +kernel
theorem dX3_put_70 : decode cX3_put 70 = .ok (.istore 6, 2) := by decide +kernel
theorem dX3_put_72 : decode cX3_put 72 = .ok (.aload_n 0, 1) := by decide +kernel
theorem dX3_put_73 : decode cX3_put 73 = .ok (.invokevirtual 120, 3) := by decide +kernel
theorem dX3_put_76 : decode cX3_put 76 = .ok (.iload 5, 2) := by decide +kernel
theorem dX3_put_78 : decode cX3_put 78 = .ok (.iconst 1, 1) := by decide +kernel
theorem dX3_put_79 : decode cX3_put 79 = .ok (.aload_n 3, 1) := by decide +kernel
theorem dX3_put_80 : decode cX3_put 80 = .ok (.getfield 52, 3) := by decide +kernel
theorem dX3_put_83 : decode cX3_put 83 = .ok (.invokevirtual 132, 3) := by decide +kernel
theorem dX3_put_86 : decode cX3_put 86 = .ok (.istore 7, 2) := by decide +kernel
theorem dX3_put_88 : decode cX3_put 88 = .ok (.lconst 0, 1) := by decide +kernel
theorem dX3_put_89 : decode cX3_put 89 = .ok (.lstore 8, 2) := by decide +kernel
theorem dX3_put_91 : decode cX3_put 91 = .ok (.iconst 0, 1) := by decide +kernel
theorem dX3_put_92 : decode cX3_put 92 = .ok (.istore 10, 2) := by decide +kernel
theorem dX3_put_94 : decode cX3_put 94 = .ok (.iload 10, 2) := by decide +kernel
theorem dX3_put_96 : decode cX3_put 96 = .ok (.aload 4, 2) := by decide +kernel
theorem dX3_put_98 : decode cX3_put 98 = .ok (.getfield 52, 3) := by decide +kernel
theorem dX3_put_101 : decode cX3_put 101 = .ok (.if_icmp .ge 56, 3) := by decide +kernel
theorem dX3_put_104 : decode cX3_put 104 = .ok (.iconst 2, 1) := by decide +kernel
theorem dX3_put_105 : decode cX3_put 105 = .ok (.aload 4, 2) := by decide +kernel
theorem dX3_put_107 : decode cX3_put 107 = .ok (.iload 10, 2) := by decide +kernel
theorem dX3_put_109 : decode cX3_put 109 = .ok (.invokevirtual 62, 3) := by decide +kernel
theorem dX3_put_112 : decode cX3_put 112 = .ok (.imul, 1) := by decide +kernel
theorem dX3_put_113 : decode cX3_put 113 = .ok (.aload 4, 2) := by decide +kernel
theorem dX3_put_115 : decode cX3_put 115 = .ok (.getfield 46, 3) := by decide +kernel
theorem dX3_put_118 : decode cX3_put 118 = .ok (.if_icmp .ge 7, 3) := by decide +kernel
theorem dX3_put_121 : decode cX3_put 121 = .ok (.iconst 1, 1) := by decide +kernel
theorem dX3_put_122 : decode cX3_put 122 = .ok (.goto 4, 3) := by decide +kernel
theorem dX3_put_125 : decode cX3_put 125 = .ok (.iconst 0, 1) := by decide +kernel
theorem dX3_put_126 : decode cX3_put 126 = .ok (.istore 11, 2) := by decide +kernel
theorem dX3_put_128 : decode cX3_put 128 = .ok (.lload 8, 2) := by decide +kernel
theorem dX3_put_130 : decode cX3_put 130 = .ok (.aload_n 3, 1) := by decide +kernel
theorem dX3_put_131 : decode cX3_put 131 = .ok (.getfield 52, 3) := by decide +kernel
theorem dX3_put_134 : decode cX3_put 134 = .ok (.lshl, 1) := by decide +kernel
theorem dX3_put_135 : decode cX3_put 135 = .ok (.iload 11, 2) := by decide +kernel
theorem dX3_put_137 : decode cX3_put 137 = .ok (.ifCond .eq 8, 3) := by decide +kernel
theorem dX3_put_140 : decode cX3_put 140 = .ok (.iload 6, 2) := by decide +kernel
theorem dX3_put_142 : decode cX3_put 142 = .ok (.goto 5, 3) := by decide +kernel
theorem dX3_put_145 : decode cX3_put 145 = .ok (.iload 7, 2) := by decide +kernel
theorem dX3_put_147 : decode cX3_put 147 = .ok (.i2l, 1) := by decide +kernel
theorem dX3_put_148 : decode cX3_put 148 = .ok (.ladd, 1) := by decide +kernel
theorem dX3_put_149 : decode cX3_put 149 = .ok (.lstore 8, 2) := by decide +kernel
theorem dX3_put_151 : decode cX3_put 151 = .ok (.iinc 10 1, 3) := by decide +kernel
theorem dX3_put_154 : decode cX3_put 154 = .ok (.goto (-60), 3) := by decide +kernel
theorem dX3_put_157 : decode cX3_put 157 = .ok (.aload_n 0, 1) := by decide +kernel
theorem dX3_put_158 : decode cX3_put 158 = .ok (.lload 8, 2) := by decide +kernel
theorem dX3_put_160 : decode cX3_put 160 = .ok (.aload_n 3, 1) := by decide +kernel
theorem dX3_put_161 : decode cX3_put 161 = .ok (.getfield 52, 3) := by decide +kernel
theorem dX3_put_164 : decode cX3_put 164 = .ok (.aload 4, 2) := by decide +kernel
theorem dX3_put_166 : decode cX3_put 166 = .ok (.getfield 52, 3) := by decide +kernel
theorem dX3_put_169 : decode cX3_put 169 = .ok (.imul, 1) := by decide +kernel
theorem dX3_put_170 : decode cX3_put 170 = .ok (.invokestatic 76, 3) := by decide +kernel
theorem dX3_put_173 : decode cX3_put 173 = .ok (.i2l, 1) := by decide +kernel
theorem dX3_put_174 : decode cX3_put 174 = .ok (.invokevirtual 35, 3) := by decide +kernel
theorem dX3_put_177 : decode cX3_put 177 = .ok (.ireturn, 1) := by decide +kernel
theorem dX3_take_0 : decode cX3_take 0 = .ok (.aload_n 0, 1) := by decide +kernel
theorem dX3_take_1 : decode cX3_take 1 = .ok (.iload_n 1, 1) := by decide +kernel
theorem dX3_take_2 : decode cX3_take 2 = .ok (.invokevirtual 39, 3) := by decide +kernel
theorem dX3_take_5 : decode cX3_take 5 = .ok (.astore_n 3, 1) := by decide +kernel
theorem dX3_take_6 : decode cX3_take 6 = .ok (.aload_n 0, 1) := by decide +kernel
theorem dX3_take_7 : decode cX3_take 7 = .ok (.iload_n 2, 1) := by decide +kernel
theorem dX3_take_8 : decode cX3_take 8 = .ok (.invokevirtual 39, 3) := by decide +kernel
theorem dX3_take_11 : decode cX3_take 11 = .ok (.astore 4, 2) := by decide +kernel
theorem dX3_take_13 : decode cX3_take 13 = .ok (.aload_n 3, 1) := by decide +kernel
theorem dX3_take_14 : decode cX3_take 14 = .ok (.ifnull 8, 3) := by decide +kernel
theorem dX3_take_17 : decode cX3_take 17 = .ok (.aload 4, 2) := by decide +kernel
theorem dX3_take_19 : decode cX3_take 19 = .ok (.ifnonnull 5, 3) := by decide +kernel
theorem dX3_take_22 : decode cX3_take 22 = .ok (.iconst (-1), 1) := by decide +kernel
theorem dX3_take_23 : decode cX3_take 23 = .ok (.ireturn, 1) := by decide +kernel
theorem dX3_take_24 : decode cX3_take 24 = .ok (.aload_n 0, 1) := by decide +kernel
theorem dX3_take_25 : decode cX3_take 25 = .ok (.aload_n 3, 1) := by decide +kernel
theorem dX3_take_26 : decode cX3_take 26 = .ok (.aload 4, 2) := by decide +kernel
theorem dX3_take_28 : decode cX3_take 28 = .ok (.invokevirtual 169, 3) := by decide +kernel
theorem dX3_take_31 : decode cX3_take 31 = .ok (.istore 5, 2) := by decide +kernel
theorem dX3_take_33 : decode cX3_take 33 = .ok (.iload 5, 2) := by decide +kernel
theorem dX3_take_35 : decode cX3_take 35 = .ok (.ifCond .lt 13, 3) := by decide +kernel
theorem dX3_take_38 : decode cX3_take 38 = .ok (.aload 4, 2) := by decide +kernel
theorem dX3_take_40 : decode cX3_take 40 = .ok (.getfield 52, 3) := by decide +kernel
theorem dX3_take_43 : decode cX3_take 43 = .ok (.bipush 20, 2) := by decide +kernel
theorem dX3_take_45 : decode cX3_take 45 = .ok (.if_icmp .le 6, 3) := by decide +kernel
theorem dX3_take_48 : decode cX3_take 48 = .ok (.bipush (-2), 2) := by decide +kernel
theorem dX3_take_50 : decode cX3_take 50 = .ok (.ireturn, 1) := by decide +kernel
theorem dX3_take_51 : decode cX3_take 51 = .ok (.aload 4, 2) := by decide +kernel
theorem dX3_take_53 : decode cX3_take 53 = .ok (.getfield 52, 3) := by decide +kernel
theorem dX3_take_56 : decode cX3_take 56 = .ok (.i2l, 1) := by decide +kernel
theorem dX3_take_57 : decode cX3_take 57 = .ok (.aload 4, 2) := by decide +kernel
theorem dX3_take_59 : decode cX3_take 59 = .ok (.getfield 52, 3) := by decide +kernel
theorem dX3_take_62 : decode cX3_take 62 = .ok (.i2l, 1) := by decide +kernel
theorem dX3_take_63 : decode cX3_take 63 = .ok (.aload_n 3, 1) := by decide +kernel
theorem dX3_take_64 : decode cX3_take 64 = .ok (.getfield 52, 3) := by decide +kernel
theorem dX3_take_67 : decode cX3_take 67 = .ok (.i2l, 1) := by decide +kernel
theorem dX3_take_68 : decode cX3_take 68 = .ok (.invokestatic 66, 3) := by decide +kernel
theorem dX3_take_71 : decode cX3_take 71 = .ok (.invokestatic 70, 3) := by decide +kernel
theorem dX3_take_74 : decode cX3_take 74 = .ok (.l2i, 1) := by decide +kernel
theorem dX3_take_75 : decode cX3_take 75 = .ok (.istore 6, 2) := by decide +kernel
theorem dX3_take_77 : decode cX3_take 77 = .ok (.aload_n 0, 1) := by decide +kernel
theorem dX3_take_78 : decode cX3_take 78 = .ok (.iload 5, 2) := by decide +kernel
theorem dX3_take_80 : decode cX3_take 80 = .ok (.aload_n 3, 1) := by decide +kernel
theorem dX3_take_81 : decode cX3_take 81 = .ok (.getfield 52, 3) := by decide +kernel
theorem dX3_take_84 : decode cX3_take 84 = .ok (.aload 4, 2) := by decide +kernel
theorem dX3_take_86 : decode cX3_take 86 = .ok (.iload 6, 2) := by decide +kernel
theorem dX3_take_88 : decode cX3_take 88 = .ok (.invokevirtual 173, 3) := by decide +kernel
theorem dX3_take_91 : decode cX3_take 91 = .ok (.lstore 7, 2) := by decide +kernel
theorem dX3_take_93 : decode cX3_take 93 = .ok (.lload 7, 2) := by decide +kernel
theorem dX3_take_95 : decode cX3_take 95 = .ok (.lconst 0, 1) := by decide +kernel
theorem dX3_take_96 : decode cX3_take 96 = .ok (.lcmp, 1) := by decide +kernel
theorem dX3_take_97 : decode cX3_take 97 = .ok (.ifCond .lt 15, 3) := by decide +kernel
theorem dX3_take_100 : decode cX3_take 100 = .ok (.lload 7, 2) := by decide +kernel
theorem dX3_take_102 : decode cX3_take 102 = .ok (.iload 6, 2) := by decide +kernel
theorem dX3_take_104 : decode cX3_take 104 = .ok (.invokestatic 76, 3) := by decide +kernel
theorem dX3_take_107 : decode cX3_take 107 = .ok (.i2l, 1) := by decide +kernel
theorem dX3_take_108 : decode cX3_take 108 = .ok (.lcmp, 1) := by decide +kernel
theorem dX3_take_109 : decode cX3_take 109 = .ok (.ifCond .ne 6, 3) := by decide +kernel
theorem dX3_take_112 : decode cX3_take 112 = .ok (.bipush (-4), 2) := by decide +kernel
theorem dX3_take_114 : decode cX3_take 114 = .ok (.ireturn, 1) := by decide +kernel
theorem dX3_take_115 : decode cX3_take 115 = .ok (.aload_n 0, 1) := by decide +kernel
theorem dX3_take_116 : decode cX3_take 116 = .ok (.lload 7, 2) := by decide +kernel
theorem dX3_take_118 : decode cX3_take 118 = .ok (.iload 6, 2) := by decide +kernel
theorem dX3_take_120 : decode cX3_take 120 = .ok (.invokestatic 76, 3) := by decide +kernel
theorem dX3_take_123 : decode cX3_take 123 = .ok (.i2l, 1) := by decide +kernel
theorem dX3_take_124 : decode cX3_take 124 = .ok (.invokevirtual 35, 3) := by decide +kernel
theorem dX3_take_127 : decode cX3_take 127 = .ok (.ireturn, 1) := by decide +kernel
theorem dX3_sheet_0 : decode cX3_sheet 0 = .ok (.iload_n 1, 1) := by decide +kernel
theorem dX3_sheet_1 : decode cX3_sheet 1 = .ok (.invokestatic 177, 3) := by decide +kernel
theorem dX3_sheet_4 : decode cX3_sheet 4 = .ok (.ifCond .eq 16, 3) := by decide +kernel
theorem dX3_sheet_7 : decode cX3_sheet 7 = .ok (.iload_n 2, 1) := by decide +kernel
theorem dX3_sheet_8 : decode cX3_sheet 8 = .ok (.invokestatic 180, 3) := by decide +kernel
theorem dX3_sheet_11 : decode cX3_sheet 11 = .ok (.ifCond .eq 9, 3) := by decide +kernel
theorem dX3_sheet_14 : decode cX3_sheet 14 = .ok (.iload_n 3, 1) := by decide +kernel
theorem dX3_sheet_15 : decode cX3_sheet 15 = .ok (.bipush 60, 2) := by decide +kernel
theorem dX3_sheet_17 : decode cX3_sheet 17 = .ok (.if_icmp .le 5, 3) := by decide +kernel
theorem dX3_sheet_20 : decode cX3_sheet 20 = .ok (.iconst (-1), 1) := by decide +kernel
theorem dX3_sheet_21 : decode cX3_sheet 21 = .ok (.ireturn, 1) := by decide +kernel
theorem dX3_sheet_22 : decode cX3_sheet 22 = .ok (.iload_n 3, 1) := by decide +kernel
theorem dX3_sheet_23 : decode cX3_sheet 23 = .ok (.ifCond .ge 6, 3) := by decide +kernel
theorem dX3_sheet_26 : decode cX3_sheet 26 = .ok (.bipush (-14), 2) := by decide +kernel
theorem dX3_sheet_28 : decode cX3_sheet 28 = .ok (.ireturn, 1) := by decide +kernel
theorem dX3_sheet_29 : decode cX3_sheet 29 = .ok (.aload_n 0, 1) := by decide +kernel
theorem dX3_sheet_30 : decode cX3_sheet 30 = .ok (.getfield 17, 3) := by decide +kernel
theorem dX3_sheet_33 : decode cX3_sheet 33 = .ok (.iload_n 1, 1) := by decide +kernel
theorem dX3_sheet_34 : decode cX3_sheet 34 = .ok (.new 15, 3) := by decide +kernel
theorem dX3_sheet_37 : decode cX3_sheet 37 = .ok (.dup, 1) := by decide +kernel
theorem dX3_sheet_38 : decode cX3_sheet 38 = .ok (.iload_n 2, 1) := by decide +kernel
theorem dX3_sheet_39 : decode cX3_sheet 39 = .ok (.iload_n 3, 1) := by decide +kernel
theorem dX3_sheet_40 : decode cX3_sheet 40 = .ok (.invokespecial 183, 3) := by decide +kernel
theorem dX3_sheet_43 : decode cX3_sheet 43 = .ok (.aastore, 1) := by decide +kernel
theorem dX3_sheet_44 : decode cX3_sheet 44 = .ok (.iconst 1, 1) := by decide +kernel
theorem dX3_sheet_45 : decode cX3_sheet 45 = .ok (.ireturn, 1) := by decide +kernel
theorem dX3_lay_0 : decode cX3_lay 0 = .ok (.iload_n 1, 1) := by decide +kernel
theorem dX3_lay_1 : decode cX3_lay 1 = .ok (.invokestatic 177, 3) := by decide +kernel
theorem dX3_lay_4 : decode cX3_lay 4 = .ok (.ifCond .ne 5, 3) := by decide +kernel
theorem dX3_lay_7 : decode cX3_lay 7 = .ok (.iconst (-1), 1) := by decide +kernel
theorem dX3_lay_8 : decode cX3_lay 8 = .ok (.ireturn, 1) := by decide +kernel
theorem dX3_lay_9 : decode cX3_lay 9 = .ok (.aload_n 0, 1) := by decide +kernel
theorem dX3_lay_10 : decode cX3_lay 10 = .ok (.getfield 17, 3) := by decide +kernel
theorem dX3_lay_13 : decode cX3_lay 13 = .ok (.iload_n 1, 1) := by decide +kernel
theorem dX3_lay_14 : decode cX3_lay 14 = .ok (.aaload, 1) := by decide +kernel
theorem dX3_lay_15 : decode cX3_lay 15 = .ok (.astore 5, 2) := by decide +kernel
theorem dX3_lay_17 : decode cX3_lay 17 = .ok (.aload 5, 2) := by decide +kernel
theorem dX3_lay_19 : decode cX3_lay 19 = .ok (.ifnonnull 6, 3) := by decide +kernel
theorem dX3_lay_22 : decode cX3_lay 22 = .ok (.bipush (-11), 2) := by decide +kernel
theorem dX3_lay_24 : decode cX3_lay 24 = .ok (.ireturn, 1) := by decide +kernel
theorem dX3_lay_25 : decode cX3_lay 25 = .ok (.aload 5, 2) := by decide +kernel
theorem dX3_lay_27 : decode cX3_lay 27 = .ok (.iload_n 2, 1) := by decide +kernel
theorem dX3_lay_28 : decode cX3_lay 28 = .ok (.i2l, 1) := by decide +kernel
theorem dX3_lay_29 : decode cX3_lay 29 = .ok (.invokevirtual 186, 3) := by decide +kernel
theorem dX3_lay_32 : decode cX3_lay 32 = .ok (.ifCond .ne 6, 3) := by decide +kernel
theorem dX3_lay_35 : decode cX3_lay 35 = .ok (.bipush (-12), 2) := by decide +kernel
theorem dX3_lay_37 : decode cX3_lay 37 = .ok (.ireturn, 1) := by decide +kernel
theorem dX3_lay_38 : decode cX3_lay 38 = .ok (.aload 5, 2) := by decide +kernel
theorem dX3_lay_40 : decode cX3_lay 40 = .ok (.getfield 190, 3) := by decide +kernel
theorem dX3_lay_43 : decode cX3_lay 43 = .ok (.iload_n 2, 1) := by decide +kernel
theorem dX3_lay_44 : decode cX3_lay 44 = .ok (.aload 5, 2) := by decide +kernel
theorem dX3_lay_46 : decode cX3_lay 46 = .ok (.getfield 194, 3) := by decide +kernel
theorem dX3_lay_49 : decode cX3_lay 49 = .ok (.ifCond .ne 9, 3) := by decide +kernel
theorem dX3_lay_52 : decode cX3_lay 52 = .ok (.lload_n 3, 1) := by decide +kernel
theorem dX3_lay_53 : decode cX3_lay 53 = .ok (.l2i, 1) := by decide +kernel
theorem dX3_lay_54 : decode cX3_lay 54 = .ok (.i2l, 1) := by decide +kernel
theorem dX3_lay_55 : decode cX3_lay 55 = .ok (.goto 4, 3) := by decide +kernel
theorem dX3_lay_58 : decode cX3_lay 58 = .ok (.lload_n 3, 1) := by decide +kernel
theorem dX3_lay_59 : decode cX3_lay 59 = .ok (.lastore, 1) := by decide +kernel
theorem dX3_lay_60 : decode cX3_lay 60 = .ok (.iconst 1, 1) := by decide +kernel
theorem dX3_lay_61 : decode cX3_lay 61 = .ok (.ireturn, 1) := by decide +kernel
theorem dX3_scan_0 : decode cX3_scan 0 = .ok (.iload_n 1, 1) := by decide +kernel
theorem dX3_scan_1 : decode cX3_scan 1 = .ok (.invokestatic 177, 3) := by decide +kernel
theorem dX3_scan_4 : decode cX3_scan 4 = .ok (.ifCond .eq 22, 3) := by decide +kernel
theorem dX3_scan_7 : decode cX3_scan 7 = .ok (.iload_n 2, 1) := by decide +kernel
theorem dX3_scan_8 : decode cX3_scan 8 = .ok (.invokestatic 180, 3) := by decide +kernel
theorem dX3_scan_11 : decode cX3_scan 11 = .ok (.ifCond .eq 15, 3) := by decide +kernel
theorem dX3_scan_14 : decode cX3_scan 14 = .ok (.iload 4, 2) := by decide +kernel
theorem dX3_scan_16 : decode cX3_scan 16 = .ok (.ifCond .lt 10, 3) := by decide +kernel
theorem dX3_scan_19 : decode cX3_scan 19 = .ok (.iload 4, 2) := by decide +kernel
theorem dX3_scan_21 : decode cX3_scan 21 = .ok (.bipush 16, 2) := by decide +kernel
theorem dX3_scan_23 : decode cX3_scan 23 = .ok (.if_icmp .le 5, 3) := by decide +kernel
theorem dX3_scan_26 : decode cX3_scan 26 = .ok (.iconst (-1), 1) := by decide +kernel
theorem dX3_scan_27 : decode cX3_scan 27 = .ok (.ireturn, 1) := by decide +kernel
theorem dX3_scan_28 : decode cX3_scan 28 = .ok (.aload_n 0, 1) := by decide +kernel
theorem dX3_scan_29 : decode cX3_scan 29 = .ok (.getfield 17, 3) := by decide +kernel
theorem dX3_scan_32 : decode cX3_scan 32 = .ok (.iload_n 1, 1) := by decide +kernel
theorem dX3_scan_33 : decode cX3_scan 33 = .ok (.aaload, 1) := by decide +kernel
theorem dX3_scan_34 : decode cX3_scan 34 = .ok (.astore 5, 2) := by decide +kernel
theorem dX3_scan_36 : decode cX3_scan 36 = .ok (.aload 5, 2) := by decide +kernel
theorem dX3_scan_38 : decode cX3_scan 38 = .ok (.ifnonnull 6, 3) := by decide +kernel
theorem dX3_scan_41 : decode cX3_scan 41 = .ok (.bipush (-11), 2) := by decide +kernel
theorem dX3_scan_43 : decode cX3_scan 43 = .ok (.ireturn, 1) := by decide +kernel
theorem dX3_scan_44 : decode cX3_scan 44 = .ok (.aload 5, 2) := by decide +kernel
theorem dX3_scan_46 : decode cX3_scan 46 = .ok (.getfield 194, 3) := by decide +kernel
theorem dX3_scan_49 : decode cX3_scan 49 = .ok (.iload_n 2, 1) := by decide +kernel
theorem dX3_scan_50 : decode cX3_scan 50 = .ok (.if_icmp .eq 6, 3) := by decide +kernel
theorem dX3_scan_53 : decode cX3_scan 53 = .ok (.bipush (-13), 2) := by decide +kernel
theorem dX3_scan_55 : decode cX3_scan 55 = .ok (.ireturn, 1) := by decide +kernel
theorem dX3_scan_56 : decode cX3_scan 56 = .ok (.aload_n 0, 1) := by decide +kernel
theorem dX3_scan_57 : decode cX3_scan 57 = .ok (.getfield 25, 3) := by decide +kernel
theorem dX3_scan_60 : decode cX3_scan 60 = .ok (.istore 6, 2) := by decide +kernel
theorem dX3_scan_62 : decode cX3_scan 62 = .ok (.iconst 0, 1) := by decide +kernel
theorem dX3_scan_63 : decode cX3_scan 63 = .ok (.istore 7, 2) := by decide +kernel
theorem dX3_scan_65 : decode cX3_scan 65 = .ok (.iload 7, 2) := by decide +kernel
theorem dX3_scan_67 : decode cX3_scan 67 = .ok (.iload 4, 2) := by decide +kernel
theorem dX3_scan_69 : decode cX3_scan 69 = .ok (.if_icmp .ge 41, 3) := by decide +kernel
theorem dX3_scan_72 : decode cX3_scan 72 = .ok (.aload_n 0, 1) := by decide +kernel
theorem dX3_scan_73 : decode cX3_scan 73 = .ok (.aload 5, 2) := by decide +kernel
theorem dX3_scan_75 : decode cX3_scan 75 = .ok (.iload_n 3, 1) := by decide +kernel
theorem dX3_scan_76 : decode cX3_scan 76 = .ok (.i2l, 1) := by decide +kernel
theorem dX3_scan_77 : decode cX3_scan 77 = .ok (.ldc2_w 197, 3) := by decide +kernel
theorem dX3_scan_80 : decode cX3_scan 80 = .ok (.iload 7, 2) := by decide +kernel
theorem dX3_scan_82 : decode cX3_scan 82 = .ok (.i2l, 1) := by decide +kernel
theorem dX3_scan_83 : decode cX3_scan 83 = .ok (.lmul, 1) := by decide +kernel
theorem dX3_scan_84 : decode cX3_scan 84 = .ok (.ladd, 1) := by decide +kernel
theorem dX3_scan_85 : decode cX3_scan 85 = .ok (.invokevirtual 199, 3) := by decide +kernel
theorem dX3_scan_88 : decode cX3_scan 88 = .ok (.istore 8, 2) := by decide +kernel
theorem dX3_scan_90 : decode cX3_scan 90 = .ok (.iload 8, 2) := by decide +kernel
theorem dX3_scan_92 : decode cX3_scan 92 = .ok (.ifCond .ge 12, 3) := by decide +kernel
theorem dX3_scan_95 : decode cX3_scan 95 = .ok (.aload_n 0, 1) := by decide +kernel
theorem dX3_scan_96 : decode cX3_scan 96 = .ok (.iload 6, 2) := by decide +kernel
theorem dX3_scan_98 : decode cX3_scan 98 = .ok (.putfield 25, 3) := by decide +kernel
theorem dX3_scan_101 : decode cX3_scan 101 = .ok (.iload 8, 2) := by decide +kernel
theorem dX3_scan_103 : decode cX3_scan 103 = .ok (.ireturn, 1) := by decide +kernel
theorem dX3_scan_104 : decode cX3_scan 104 = .ok (.iinc 7 1, 3) := by decide +kernel
theorem dX3_scan_107 : decode cX3_scan 107 = .ok (.goto (-42), 3) := by decide +kernel
theorem dX3_scan_110 : decode cX3_scan 110 = .ok (.aload_n 0, 1) := by decide +kernel
theorem dX3_scan_111 : decode cX3_scan 111 = .ok (.getfield 25, 3) := by decide +kernel
theorem dX3_scan_114 : decode cX3_scan 114 = .ok (.ireturn, 1) := by decide +kernel
theorem dX3_count_0 : decode cX3_count 0 = .ok (.iload_n 1, 1) := by decide +kernel
theorem dX3_count_1 : decode cX3_count 1 = .ok (.tableswitch 42 0 2 #[27, 32, 37], 27) := by decide +kernel
theorem dX3_count_28 : decode cX3_count 28 = .ok (.aload_n 0, 1) := by decide +kernel
theorem dX3_count_29 : decode cX3_count 29 = .ok (.getfield 25, 3) := by decide +kernel
theorem dX3_count_32 : decode cX3_count 32 = .ok (.ireturn, 1) := by decide +kernel
theorem dX3_count_33 : decode cX3_count 33 = .ok (.aload_n 0, 1) := by decide +kernel
theorem dX3_count_34 : decode cX3_count 34 = .ok (.invokevirtual 203, 3) := by decide +kernel
theorem dX3_count_37 : decode cX3_count 37 = .ok (.ireturn, 1) := by decide +kernel
theorem dX3_count_38 : decode cX3_count 38 = .ok (.aload_n 0, 1) := by decide +kernel
theorem dX3_count_39 : decode cX3_count 39 = .ok (.invokevirtual 206, 3) := by decide +kernel
theorem dX3_count_42 : decode cX3_count 42 = .ok (.ireturn, 1) := by decide +kernel
theorem dX3_count_43 : decode cX3_count 43 = .ok (.iconst (-1), 1) := by decide +kernel
theorem dX3_count_44 : decode cX3_count 44 = .ok (.ireturn, 1) := by decide +kernel
theorem dX3_isDoublings_0 : decode cX3_isDoublings 0 = .ok (.iload_n 0, 1) := by decide +kernel
theorem dX3_isDoublings_1 : decode cX3_isDoublings 1 = .ok (.ifCond .lt 13, 3) := by decide +kernel
theorem dX3_isDoublings_4 : decode cX3_isDoublings 4 = .ok (.iload_n 0, 1) := by decide +kernel
theorem dX3_isDoublings_5 : decode cX3_isDoublings 5 = .ok (.bipush 100, 2) := by decide +kernel
theorem dX3_isDoublings_7 : decode cX3_isDoublings 7 = .ok (.if_icmp .gt 7, 3) := by decide +kernel
theorem dX3_isDoublings_10 : decode cX3_isDoublings 10 = .ok (.iconst 1, 1) := by decide +kernel
theorem dX3_isDoublings_11 : decode cX3_isDoublings 11 = .ok (.goto 4, 3) := by decide +kernel
theorem dX3_isDoublings_14 : decode cX3_isDoublings 14 = .ok (.iconst 0, 1) := by decide +kernel
theorem dX3_isDoublings_15 : decode cX3_isDoublings 15 = .ok (.ireturn, 1) := by decide +kernel
theorem dX3_isLength_0 : decode cX3_isLength 0 = .ok (.iload_n 0, 1) := by decide +kernel
theorem dX3_isLength_1 : decode cX3_isLength 1 = .ok (.iconst 1, 1) := by decide +kernel
theorem dX3_isLength_2 : decode cX3_isLength 2 = .ok (.if_icmp .lt 13, 3) := by decide +kernel
theorem dX3_isLength_5 : decode cX3_isLength 5 = .ok (.iload_n 0, 1) := by decide +kernel
theorem dX3_isLength_6 : decode cX3_isLength 6 = .ok (.bipush 20, 2) := by decide +kernel
theorem dX3_isLength_8 : decode cX3_isLength 8 = .ok (.if_icmp .gt 7, 3) := by decide +kernel
theorem dX3_isLength_11 : decode cX3_isLength 11 = .ok (.iconst 1, 1) := by decide +kernel
theorem dX3_isLength_12 : decode cX3_isLength 12 = .ok (.goto 4, 3) := by decide +kernel
theorem dX3_isLength_15 : decode cX3_isLength 15 = .ok (.iconst 0, 1) := by decide +kernel
theorem dX3_isLength_16 : decode cX3_isLength 16 = .ok (.ireturn, 1) := by decide +kernel
theorem dX3_isPairedLength_0 : decode cX3_isPairedLength 0 = .ok (.iload_n 0, 1) := by decide +kernel
theorem dX3_isPairedLength_1 : decode cX3_isPairedLength 1 = .ok (.iconst 1, 1) := by decide +kernel
theorem dX3_isPairedLength_2 : decode cX3_isPairedLength 2 = .ok (.if_icmp .lt 13, 3) := by decide +kernel
theorem dX3_isPairedLength_5 : decode cX3_isPairedLength 5 = .ok (.iload_n 0, 1) := by decide +kernel
theorem dX3_isPairedLength_6 : decode cX3_isPairedLength 6 = .ok (.bipush 8, 2) := by decide +kernel
theorem dX3_isPairedLength_8 : decode cX3_isPairedLength 8 = .ok (.if_icmp .gt 7, 3) := by decide +kernel
theorem dX3_isPairedLength_11 : decode cX3_isPairedLength 11 = .ok (.iconst 1, 1) := by decide +kernel
theorem dX3_isPairedLength_12 : decode cX3_isPairedLength 12 = .ok (.goto 4, 3) := by decide +kernel
theorem dX3_isPairedLength_15 : decode cX3_isPairedLength 15 = .ok (.iconst 0, 1) := by decide +kernel
theorem dX3_isPairedLength_16 : decode cX3_isPairedLength 16 = .ok (.ireturn, 1) := by decide +kernel
theorem dX3_isEither_0 : decode cX3_isEither 0 = .ok (.iload_n 0, 1) := by decide +kernel
theorem dX3_isEither_1 : decode cX3_isEither 1 = .ok (.ifCond .eq 8, 3) := by decide +kernel
theorem dX3_isEither_4 : decode cX3_isEither 4 = .ok (.iload_n 0, 1) := by decide +kernel
theorem dX3_isEither_5 : decode cX3_isEither 5 = .ok (.iconst 1, 1) := by decide +kernel
theorem dX3_isEither_6 : decode cX3_isEither 6 = .ok (.if_icmp .ne 7, 3) := by decide +kernel
theorem dX3_isEither_9 : decode cX3_isEither 9 = .ok (.iconst 1, 1) := by decide +kernel
theorem dX3_isEither_10 : decode cX3_isEither 10 = .ok (.goto 4, 3) := by decide +kernel
theorem dX3_isEither_13 : decode cX3_isEither 13 = .ok (.iconst 0, 1) := by decide +kernel
theorem dX3_isEither_14 : decode cX3_isEither 14 = .ok (.ireturn, 1) := by decide +kernel
theorem dX3_isSheet_0 : decode cX3_isSheet 0 = .ok (.iload_n 0, 1) := by decide +kernel
theorem dX3_isSheet_1 : decode cX3_isSheet 1 = .ok (.ifCond .lt 12, 3) := by decide +kernel
theorem dX3_isSheet_4 : decode cX3_isSheet 4 = .ok (.iload_n 0, 1) := by decide +kernel
theorem dX3_isSheet_5 : decode cX3_isSheet 5 = .ok (.iconst 4, 1) := by decide +kernel
theorem dX3_isSheet_6 : decode cX3_isSheet 6 = .ok (.if_icmp .ge 7, 3) := by decide +kernel
theorem dX3_isSheet_9 : decode cX3_isSheet 9 = .ok (.iconst 1, 1) := by decide +kernel
theorem dX3_isSheet_10 : decode cX3_isSheet 10 = .ok (.goto 4, 3) := by decide +kernel
theorem dX3_isSheet_13 : decode cX3_isSheet 13 = .ok (.iconst 0, 1) := by decide +kernel
theorem dX3_isSheet_14 : decode cX3_isSheet 14 = .ok (.ireturn, 1) := by decide +kernel
theorem dX3_isLane_0 : decode cX3_isLane 0 = .ok (.iload_n 0, 1) := by decide +kernel
theorem dX3_isLane_1 : decode cX3_isLane 1 = .ok (.ifCond .eq 8, 3) := by decide +kernel
theorem dX3_isLane_4 : decode cX3_isLane 4 = .ok (.iload_n 0, 1) := by decide +kernel
theorem dX3_isLane_5 : decode cX3_isLane 5 = .ok (.iconst 1, 1) := by decide +kernel
theorem dX3_isLane_6 : decode cX3_isLane 6 = .ok (.if_icmp .ne 7, 3) := by decide +kernel
theorem dX3_isLane_9 : decode cX3_isLane 9 = .ok (.iconst 1, 1) := by decide +kernel
theorem dX3_isLane_10 : decode cX3_isLane 10 = .ok (.goto 4, 3) := by decide +kernel
theorem dX3_isLane_13 : decode cX3_isLane 13 = .ok (.iconst 0, 1) := by decide +kernel
theorem dX3_isLane_14 : decode cX3_isLane 14 = .ok (.ireturn, 1) := by decide +kernel
theorem dX3_answer_0 : decode cX3_answer 0 = .ok (.iload_n 0, 1) := by decide +kernel
theorem dX3_answer_1 : decode cX3_answer 1 = .ok (.ifCond .eq 7, 3) := by decide +kernel
theorem dX3_answer_4 : decode cX3_answer 4 = .ok (.iconst 1, 1) := by decide +kernel
theorem dX3_answer_5 : decode cX3_answer 5 = .ok (.goto 4, 3) := by decide +kernel
theorem dX3_answer_8 : decode cX3_answer 8 = .ok (.iconst 0, 1) := by decide +kernel
theorem dX3_answer_9 : decode cX3_answer 9 = .ok (.ireturn, 1) := by decide +kernel
theorem dX3_turnAt_0 : decode cX3_turnAt 0 = .ok (.iload_n 1, 1) := by decide +kernel
theorem dX3_turnAt_1 : decode cX3_turnAt 1 = .ok (.ifCond .lt 20, 3) := by decide +kernel
theorem dX3_turnAt_4 : decode cX3_turnAt 4 = .ok (.iload_n 1, 1) := by decide +kernel
theorem dX3_turnAt_5 : decode cX3_turnAt 5 = .ok (.aload_n 0, 1) := by decide +kernel
theorem dX3_turnAt_6 : decode cX3_turnAt 6 = .ok (.getfield 25, 3) := by decide +kernel
theorem dX3_turnAt_9 : decode cX3_turnAt 9 = .ok (.if_icmp .ge 12, 3) := by decide +kernel
theorem dX3_turnAt_12 : decode cX3_turnAt 12 = .ok (.aload_n 0, 1) := by decide +kernel
theorem dX3_turnAt_13 : decode cX3_turnAt 13 = .ok (.getfield 11, 3) := by decide +kernel
theorem dX3_turnAt_16 : decode cX3_turnAt 16 = .ok (.iload_n 1, 1) := by decide +kernel
theorem dX3_turnAt_17 : decode cX3_turnAt 17 = .ok (.aaload, 1) := by decide +kernel
theorem dX3_turnAt_18 : decode cX3_turnAt 18 = .ok (.goto 4, 3) := by decide +kernel
theorem dX3_turnAt_21 : decode cX3_turnAt 21 = .ok (.aconst_null, 1) := by decide +kernel
theorem dX3_turnAt_22 : decode cX3_turnAt 22 = .ok (.areturn, 1) := by decide +kernel
theorem dX3_keep_0 : decode cX3_keep 0 = .ok (.aload_n 0, 1) := by decide +kernel
theorem dX3_keep_1 : decode cX3_keep 1 = .ok (.getfield 25, 3) := by decide +kernel
theorem dX3_keep_4 : decode cX3_keep 4 = .ok (.bipush 16, 2) := by decide +kernel
theorem dX3_keep_6 : decode cX3_keep 6 = .ok (.if_icmp .lt 6, 3) := by decide +kernel
theorem dX3_keep_9 : decode cX3_keep 9 = .ok (.bipush (-3), 2) := by decide +kernel
theorem dX3_keep_11 : decode cX3_keep 11 = .ok (.ireturn, 1) := by decide +kernel
theorem dX3_keep_12 : decode cX3_keep 12 = .ok (.aload_n 0, 1) := by decide +kernel
theorem dX3_keep_13 : decode cX3_keep 13 = .ok (.getfield 11, 3) := by decide +kernel
theorem dX3_keep_16 : decode cX3_keep 16 = .ok (.aload_n 0, 1) := by decide +kernel
theorem dX3_keep_17 : decode cX3_keep 17 = .ok (.getfield 25, 3) := by decide +kernel
theorem dX3_keep_20 : decode cX3_keep 20 = .ok (.new 9, 3) := by decide +kernel
theorem dX3_keep_23 : decode cX3_keep 23 = .ok (.dup, 1) := by decide +kernel
theorem dX3_keep_24 : decode cX3_keep 24 = .ok (.lload_n 1, 1) := by decide +kernel
theorem dX3_keep_25 : decode cX3_keep 25 = .ok (.lload_n 3, 1) := by decide +kernel
theorem dX3_keep_26 : decode cX3_keep 26 = .ok (.invokespecial 209, 3) := by decide +kernel
theorem dX3_keep_29 : decode cX3_keep 29 = .ok (.aastore, 1) := by decide +kernel
theorem dX3_keep_30 : decode cX3_keep 30 = .ok (.aload_n 0, 1) := by decide +kernel
theorem dX3_keep_31 : decode cX3_keep 31 = .ok (.dup, 1) := by decide +kernel
theorem dX3_keep_32 : decode cX3_keep 32 = .ok (.getfield 25, 3) := by decide +kernel
theorem dX3_keep_35 : decode cX3_keep 35 = .ok (.iconst 1, 1) := by decide +kernel
theorem dX3_keep_36 : decode cX3_keep 36 = .ok (.iadd, 1) := by decide +kernel
theorem dX3_keep_37 : decode cX3_keep 37 = .ok (.putfield 25, 3) := by decide +kernel
theorem dX3_keep_40 : decode cX3_keep 40 = .ok (.aload_n 0, 1) := by decide +kernel
theorem dX3_keep_41 : decode cX3_keep 41 = .ok (.getfield 25, 3) := by decide +kernel
theorem dX3_keep_44 : decode cX3_keep 44 = .ok (.iconst 1, 1) := by decide +kernel
theorem dX3_keep_45 : decode cX3_keep 45 = .ok (.isub, 1) := by decide +kernel
theorem dX3_keep_46 : decode cX3_keep 46 = .ok (.ireturn, 1) := by decide +kernel
theorem dX3_over_0 : decode cX3_over 0 = .ok (.lload_n 2, 1) := by decide +kernel
theorem dX3_over_1 : decode cX3_over 1 = .ok (.lconst 0, 1) := by decide +kernel
theorem dX3_over_2 : decode cX3_over 2 = .ok (.lcmp, 1) := by decide +kernel
theorem dX3_over_3 : decode cX3_over 3 = .ok (.ifCond .le 9, 3) := by decide +kernel
theorem dX3_over_6 : decode cX3_over 6 = .ok (.lload_n 0, 1) := by decide +kernel
theorem dX3_over_7 : decode cX3_over 7 = .ok (.lload_n 2, 1) := by decide +kernel
theorem dX3_over_8 : decode cX3_over 8 = .ok (.ldiv, 1) := by decide +kernel
theorem dX3_over_9 : decode cX3_over 9 = .ok (.goto 4, 3) := by decide +kernel
theorem dX3_over_12 : decode cX3_over 12 = .ok (.lconst 0, 1) := by decide +kernel
theorem dX3_over_13 : decode cX3_over 13 = .ok (.lreturn, 1) := by decide +kernel
theorem dX3_ones_0 : decode cX3_ones 0 = .ok (.iconst 1, 1) := by decide +kernel
theorem dX3_ones_1 : decode cX3_ones 1 = .ok (.iload_n 0, 1) := by decide +kernel
theorem dX3_ones_2 : decode cX3_ones 2 = .ok (.ishl, 1) := by decide +kernel
theorem dX3_ones_3 : decode cX3_ones 3 = .ok (.iconst 1, 1) := by decide +kernel
theorem dX3_ones_4 : decode cX3_ones 4 = .ok (.isub, 1) := by decide +kernel
theorem dX3_ones_5 : decode cX3_ones 5 = .ok (.ireturn, 1) := by decide +kernel
theorem dX3_order_0 : decode cX3_order 0 = .ok (.lload_n 0, 1) := by decide +kernel
theorem dX3_order_1 : decode cX3_order 1 = .ok (.lload_n 2, 1) := by decide +kernel
theorem dX3_order_2 : decode cX3_order 2 = .ok (.lcmp, 1) := by decide +kernel
theorem dX3_order_3 : decode cX3_order 3 = .ok (.ifCond .ge 7, 3) := by decide +kernel
theorem dX3_order_6 : decode cX3_order 6 = .ok (.iconst (-1), 1) := by decide +kernel
theorem dX3_order_7 : decode cX3_order 7 = .ok (.goto 14, 3) := by decide +kernel
theorem dX3_order_10 : decode cX3_order 10 = .ok (.lload_n 0, 1) := by decide +kernel
theorem dX3_order_11 : decode cX3_order 11 = .ok (.lload_n 2, 1) := by decide +kernel
theorem dX3_order_12 : decode cX3_order 12 = .ok (.lcmp, 1) := by decide +kernel
theorem dX3_order_13 : decode cX3_order 13 = .ok (.ifCond .le 7, 3) := by decide +kernel
theorem dX3_order_16 : decode cX3_order 16 = .ok (.iconst 1, 1) := by decide +kernel
theorem dX3_order_17 : decode cX3_order 17 = .ok (.goto 4, 3) := by decide +kernel
theorem dX3_order_20 : decode cX3_order 20 = .ok (.iconst 0, 1) := by decide +kernel
theorem dX3_order_21 : decode cX3_order 21 = .ok (.ireturn, 1) := by decide +kernel
theorem dX3_greatestShared_0 : decode cX3_greatestShared 0 = .ok (.lload_n 0, 1) := by decide +kernel
theorem dX3_greatestShared_1 : decode cX3_greatestShared 1 = .ok (.lstore 4, 2) := by decide +kernel
theorem dX3_greatestShared_3 : decode cX3_greatestShared 3 = .ok (.lload_n 2, 1) := by decide +kernel
theorem dX3_greatestShared_4 : decode cX3_greatestShared 4 = .ok (.lstore 6, 2) := by decide +kernel
theorem dX3_greatestShared_6 : decode cX3_greatestShared 6 = .ok (.iconst 0, 1) := by decide +kernel
theorem dX3_greatestShared_7 : decode cX3_greatestShared 7 = .ok (.istore 8, 2) := by decide +kernel
theorem dX3_greatestShared_9 : decode cX3_greatestShared 9 = .ok (.iload 8, 2) := by decide +kernel
theorem dX3_greatestShared_11 : decode cX3_greatestShared 11 = .ok (.sipush 128, 3) := by decide +kernel
theorem dX3_greatestShared_14 : decode cX3_greatestShared 14 = .ok (.if_icmp .ge 31, 3) := by decide +kernel
theorem dX3_greatestShared_17 : decode cX3_greatestShared 17 = .ok (.lload 6, 2) := by decide +kernel
theorem dX3_greatestShared_19 : decode cX3_greatestShared 19 = .ok (.lconst 0, 1) := by decide +kernel
theorem dX3_greatestShared_20 : decode cX3_greatestShared 20 = .ok (.lcmp, 1) := by decide +kernel
theorem dX3_greatestShared_21 : decode cX3_greatestShared 21 = .ok (.ifCond .eq 24, 3) := by decide +kernel
theorem dX3_greatestShared_24 : decode cX3_greatestShared 24 = .ok (.lload 4, 2) := by decide +kernel
theorem dX3_greatestShared_26 : decode cX3_greatestShared 26 = .ok (.lload 6, 2) := by decide +kernel
theorem dX3_greatestShared_28 : decode cX3_greatestShared 28 = .ok (.lrem, 1) := by decide +kernel
theorem dX3_greatestShared_29 : decode cX3_greatestShared 29 = .ok (.lstore 9, 2) := by decide +kernel
theorem dX3_greatestShared_31 : decode cX3_greatestShared 31 = .ok (.lload 6, 2) := by decide +kernel
theorem dX3_greatestShared_33 : decode cX3_greatestShared 33 = .ok (.lstore 4, 2) := by decide +kernel
theorem dX3_greatestShared_35 : decode cX3_greatestShared 35 = .ok (.lload 9, 2) := by decide +kernel
theorem dX3_greatestShared_37 : decode cX3_greatestShared 37 = .ok (.lstore 6, 2) := by decide +kernel
theorem dX3_greatestShared_39 : decode cX3_greatestShared 39 = .ok (.iinc 8 1, 3) := by decide +kernel
theorem dX3_greatestShared_42 : decode cX3_greatestShared 42 = .ok (.goto (-33), 3) := by decide +kernel
theorem dX3_greatestShared_45 : decode cX3_greatestShared 45 = .ok (.lload 4, 2) := by decide +kernel
theorem dX3_greatestShared_47 : decode cX3_greatestShared 47 = .ok (.lreturn, 1) := by decide +kernel
theorem dX3_twice_0 : decode cX3_twice 0 = .ok (.iconst 2, 1) := by decide +kernel
theorem dX3_twice_1 : decode cX3_twice 1 = .ok (.iload_n 0, 1) := by decide +kernel
theorem dX3_twice_2 : decode cX3_twice 2 = .ok (.imul, 1) := by decide +kernel
theorem dX3_twice_3 : decode cX3_twice 3 = .ok (.istore_n 2, 1) := by decide +kernel
theorem dX3_twice_4 : decode cX3_twice 4 = .ok (.iload_n 2, 1) := by decide +kernel
theorem dX3_twice_5 : decode cX3_twice 5 = .ok (.iload_n 1, 1) := by decide +kernel
theorem dX3_twice_6 : decode cX3_twice 6 = .ok (.if_icmp .lt 9, 3) := by decide +kernel
theorem dX3_twice_9 : decode cX3_twice 9 = .ok (.iload_n 2, 1) := by decide +kernel
theorem dX3_twice_10 : decode cX3_twice 10 = .ok (.iload_n 1, 1) := by decide +kernel
theorem dX3_twice_11 : decode cX3_twice 11 = .ok (.isub, 1) := by decide +kernel
theorem dX3_twice_12 : decode cX3_twice 12 = .ok (.goto 4, 3) := by decide +kernel
theorem dX3_twice_15 : decode cX3_twice 15 = .ok (.iload_n 2, 1) := by decide +kernel
theorem dX3_twice_16 : decode cX3_twice 16 = .ok (.ireturn, 1) := by decide +kernel
theorem dX3_justOfLength_0 : decode cX3_justOfLength 0 = .ok (.iconst 1, 1) := by decide +kernel
theorem dX3_justOfLength_1 : decode cX3_justOfLength 1 = .ok (.istore_n 2, 1) := by decide +kernel
theorem dX3_justOfLength_2 : decode cX3_justOfLength 2 = .ok (.iload_n 2, 1) := by decide +kernel
theorem dX3_justOfLength_3 : decode cX3_justOfLength 3 = .ok (.iload_n 1, 1) := by decide +kernel
theorem dX3_justOfLength_4 : decode cX3_justOfLength 4 = .ok (.if_icmp .ge 40, 3) := by decide +kernel
theorem dX3_justOfLength_7 : decode cX3_justOfLength 7 = .ok (.iconst 2, 1) := by decide +kernel
theorem dX3_justOfLength_8 : decode cX3_justOfLength 8 = .ok (.iload_n 2, 1) := by decide +kernel
theorem dX3_justOfLength_9 : decode cX3_justOfLength 9 = .ok (.imul, 1) := by decide +kernel
theorem dX3_justOfLength_10 : decode cX3_justOfLength 10 = .ok (.istore_n 3, 1) := by decide +kernel
theorem dX3_justOfLength_11 : decode cX3_justOfLength 11 = .ok (.iload_n 3, 1) := by decide +kernel
theorem dX3_justOfLength_12 : decode cX3_justOfLength 12 = .ok (.iload_n 1, 1) := by decide +kernel
theorem dX3_justOfLength_13 : decode cX3_justOfLength 13 = .ok (.if_icmp .gt 25, 3) := by decide +kernel
theorem dX3_justOfLength_16 : decode cX3_justOfLength 16 = .ok (.aload_n 0, 1) := by decide +kernel
theorem dX3_justOfLength_17 : decode cX3_justOfLength 17 = .ok (.getfield 21, 3) := by decide +kernel
theorem dX3_justOfLength_20 : decode cX3_justOfLength 20 = .ok (.iload_n 3, 1) := by decide +kernel
theorem dX3_justOfLength_21 : decode cX3_justOfLength 21 = .ok (.dup2, 1) := by decide +kernel
theorem dX3_justOfLength_22 : decode cX3_justOfLength 22 = .ok (.iaload, 1) := by decide +kernel
theorem dX3_justOfLength_23 : decode cX3_justOfLength 23 = .ok (.aload_n 0, 1) := by decide +kernel
theorem dX3_justOfLength_24 : decode cX3_justOfLength 24 = .ok (.getfield 21, 3) := by decide +kernel
theorem dX3_justOfLength_27 : decode cX3_justOfLength 27 = .ok (.iload_n 2, 1) := by decide +kernel
theorem dX3_justOfLength_28 : decode cX3_justOfLength 28 = .ok (.iaload, 1) := by decide +kernel
theorem dX3_justOfLength_29 : decode cX3_justOfLength 29 = .ok (.isub, 1) := by decide +kernel
theorem dX3_justOfLength_30 : decode cX3_justOfLength 30 = .ok (.iastore, 1) := by decide +kernel
theorem dX3_justOfLength_31 : decode cX3_justOfLength 31 = .ok (.iload_n 3, 1) := by decide +kernel
theorem dX3_justOfLength_32 : decode cX3_justOfLength 32 = .ok (.iload_n 2, 1) := by decide +kernel
theorem dX3_justOfLength_33 : decode cX3_justOfLength 33 = .ok (.iadd, 1) := by decide +kernel
theorem dX3_justOfLength_34 : decode cX3_justOfLength 34 = .ok (.istore_n 3, 1) := by decide +kernel
theorem dX3_justOfLength_35 : decode cX3_justOfLength 35 = .ok (.goto (-24), 3) := by decide +kernel
theorem dX3_justOfLength_38 : decode cX3_justOfLength 38 = .ok (.iinc 2 1, 3) := by decide +kernel
theorem dX3_justOfLength_41 : decode cX3_justOfLength 41 = .ok (.goto (-39), 3) := by decide +kernel
theorem dX3_justOfLength_44 : decode cX3_justOfLength 44 = .ok (.aload_n 0, 1) := by decide +kernel
theorem dX3_justOfLength_45 : decode cX3_justOfLength 45 = .ok (.getfield 21, 3) := by decide +kernel
theorem dX3_justOfLength_48 : decode cX3_justOfLength 48 = .ok (.iload_n 1, 1) := by decide +kernel
theorem dX3_justOfLength_49 : decode cX3_justOfLength 49 = .ok (.iaload, 1) := by decide +kernel
theorem dX3_justOfLength_50 : decode cX3_justOfLength 50 = .ok (.ireturn, 1) := by decide +kernel
theorem dX3_amountThatComesBack_0 : decode cX3_amountThatComesBack 0 = .ok (.iconst 0, 1) := by decide +kernel
theorem dX3_amountThatComesBack_1 : decode cX3_amountThatComesBack 1 = .ok (.istore_n 1, 1) := by decide +kernel
theorem dX3_amountThatComesBack_2 : decode cX3_amountThatComesBack 2 = .ok (.iconst 0, 1) := by decide +kernel
theorem dX3_amountThatComesBack_3 : decode cX3_amountThatComesBack 3 = .ok (.istore_n 2, 1) := by decide +kernel
theorem dX3_amountThatComesBack_4 : decode cX3_amountThatComesBack 4 = .ok (.iload_n 2, 1) := by decide +kernel
theorem dX3_amountThatComesBack_5 : decode cX3_amountThatComesBack 5 = .ok (.aload_n 0, 1) := by decide +kernel
theorem dX3_amountThatComesBack_6 : decode cX3_amountThatComesBack 6 = .ok (.getfield 25, 3) := by decide +kernel
theorem dX3_amountThatComesBack_9 : decode cX3_amountThatComesBack 9 = .ok (.if_icmp .ge 29, 3) := by decide +kernel
theorem dX3_amountThatComesBack_12 : decode cX3_amountThatComesBack 12 = .ok (.aload_n 0, 1) := by decide +kernel
theorem dX3_amountThatComesBack_13 : decode cX3_amountThatComesBack 13 = .ok (.iload_n 2, 1) := by decide +kernel
theorem dX3_amountThatComesBack_14 : decode cX3_amountThatComesBack 14 = .ok (.invokevirtual 39, 3) := by decide +kernel
theorem dX3_amountThatComesBack_17 : decode cX3_amountThatComesBack 17 = .ok (.astore_n 3, 1) := by decide +kernel
theorem dX3_amountThatComesBack_18 : decode cX3_amountThatComesBack 18 = .ok (.aload_n 3, 1) := by decide +kernel
theorem dX3_amountThatComesBack_19 : decode cX3_amountThatComesBack 19 = .ok (.ifnull 13, 3) := by decide +kernel
theorem dX3_amountThatComesBack_22 : decode cX3_amountThatComesBack 22 = .ok (.aload_n 3, 1) := by decide +kernel
theorem dX3_amountThatComesBack_23 : decode cX3_amountThatComesBack 23 = .ok (.invokevirtual 86, 3) := by decide +kernel
theorem dX3_amountThatComesBack_26 : decode cX3_amountThatComesBack 26 = .ok (.ifCond .eq 6, 3) := by decide +kernel
theorem dX3_amountThatComesBack_29 : decode cX3_amountThatComesBack 29 = .ok (.iinc 1 1, 3) := by decide +kernel
theorem dX3_amountThatComesBack_32 : decode cX3_amountThatComesBack 32 = .ok (.iinc 2 1, 3) := by decide +kernel
theorem dX3_amountThatComesBack_35 : decode cX3_amountThatComesBack 35 = .ok (.goto (-31), 3) := by decide +kernel
theorem dX3_amountThatComesBack_38 : decode cX3_amountThatComesBack 38 = .ok (.iload_n 1, 1) := by decide +kernel
theorem dX3_amountThatComesBack_39 : decode cX3_amountThatComesBack 39 = .ok (.ireturn, 1) := by decide +kernel
theorem dX3_amountOfUnlike_0 : decode cX3_amountOfUnlike 0 = .ok (.iconst 0, 1) := by decide +kernel
theorem dX3_amountOfUnlike_1 : decode cX3_amountOfUnlike 1 = .ok (.istore_n 1, 1) := by decide +kernel
theorem dX3_amountOfUnlike_2 : decode cX3_amountOfUnlike 2 = .ok (.iconst 0, 1) := by decide +kernel
theorem dX3_amountOfUnlike_3 : decode cX3_amountOfUnlike 3 = .ok (.istore_n 2, 1) := by decide +kernel
theorem dX3_amountOfUnlike_4 : decode cX3_amountOfUnlike 4 = .ok (.iload_n 2, 1) := by decide +kernel
theorem dX3_amountOfUnlike_5 : decode cX3_amountOfUnlike 5 = .ok (.aload_n 0, 1) := by decide +kernel
theorem dX3_amountOfUnlike_6 : decode cX3_amountOfUnlike 6 = .ok (.getfield 25, 3) := by decide +kernel
theorem dX3_amountOfUnlike_9 : decode cX3_amountOfUnlike 9 = .ok (.if_icmp .ge 20, 3) := by decide +kernel
theorem dX3_amountOfUnlike_12 : decode cX3_amountOfUnlike 12 = .ok (.aload_n 0, 1) := by decide +kernel
theorem dX3_amountOfUnlike_13 : decode cX3_amountOfUnlike 13 = .ok (.iload_n 2, 1) := by decide +kernel
theorem dX3_amountOfUnlike_14 : decode cX3_amountOfUnlike 14 = .ok (.invokevirtual 212, 3) := by decide +kernel
theorem dX3_amountOfUnlike_17 : decode cX3_amountOfUnlike 17 = .ok (.ifCond .ne 6, 3) := by decide +kernel
theorem dX3_amountOfUnlike_20 : decode cX3_amountOfUnlike 20 = .ok (.iinc 1 1, 3) := by decide +kernel
theorem dX3_amountOfUnlike_23 : decode cX3_amountOfUnlike 23 = .ok (.iinc 2 1, 3) := by decide +kernel
theorem dX3_amountOfUnlike_26 : decode cX3_amountOfUnlike 26 = .ok (.goto (-22), 3) := by decide +kernel
theorem dX3_amountOfUnlike_29 : decode cX3_amountOfUnlike 29 = .ok (.iload_n 1, 1) := by decide +kernel
theorem dX3_amountOfUnlike_30 : decode cX3_amountOfUnlike 30 = .ok (.ireturn, 1) := by decide +kernel
theorem dX3_cameEarlier_0 : decode cX3_cameEarlier 0 = .ok (.aload_n 0, 1) := by decide +kernel
theorem dX3_cameEarlier_1 : decode cX3_cameEarlier 1 = .ok (.iload_n 1, 1) := by decide +kernel
theorem dX3_cameEarlier_2 : decode cX3_cameEarlier 2 = .ok (.invokevirtual 39, 3) := by decide +kernel
theorem dX3_cameEarlier_5 : decode cX3_cameEarlier 5 = .ok (.astore_n 2, 1) := by decide +kernel
theorem dX3_cameEarlier_6 : decode cX3_cameEarlier 6 = .ok (.iconst 0, 1) := by decide +kernel
theorem dX3_cameEarlier_7 : decode cX3_cameEarlier 7 = .ok (.istore_n 3, 1) := by decide +kernel
theorem dX3_cameEarlier_8 : decode cX3_cameEarlier 8 = .ok (.iload_n 3, 1) := by decide +kernel
theorem dX3_cameEarlier_9 : decode cX3_cameEarlier 9 = .ok (.iload_n 1, 1) := by decide +kernel
theorem dX3_cameEarlier_10 : decode cX3_cameEarlier 10 = .ok (.if_icmp .ge 36, 3) := by decide +kernel
theorem dX3_cameEarlier_13 : decode cX3_cameEarlier 13 = .ok (.aload_n 2, 1) := by decide +kernel
theorem dX3_cameEarlier_14 : decode cX3_cameEarlier 14 = .ok (.ifnull 32, 3) := by decide +kernel
theorem dX3_cameEarlier_17 : decode cX3_cameEarlier 17 = .ok (.aload_n 0, 1) := by decide +kernel
theorem dX3_cameEarlier_18 : decode cX3_cameEarlier 18 = .ok (.iload_n 3, 1) := by decide +kernel
theorem dX3_cameEarlier_19 : decode cX3_cameEarlier 19 = .ok (.invokevirtual 39, 3) := by decide +kernel
theorem dX3_cameEarlier_22 : decode cX3_cameEarlier 22 = .ok (.astore 4, 2) := by decide +kernel
theorem dX3_cameEarlier_24 : decode cX3_cameEarlier 24 = .ok (.aload 4, 2) := by decide +kernel
theorem dX3_cameEarlier_26 : decode cX3_cameEarlier 26 = .ok (.ifnull 14, 3) := by decide +kernel
theorem dX3_cameEarlier_29 : decode cX3_cameEarlier 29 = .ok (.aload_n 2, 1) := by decide +kernel
theorem dX3_cameEarlier_30 : decode cX3_cameEarlier 30 = .ok (.aload 4, 2) := by decide +kernel
theorem dX3_cameEarlier_32 : decode cX3_cameEarlier 32 = .ok (.invokevirtual 97, 3) := by decide +kernel
theorem dX3_cameEarlier_35 : decode cX3_cameEarlier 35 = .ok (.ifCond .ne 5, 3) := by decide +kernel
theorem dX3_cameEarlier_38 : decode cX3_cameEarlier 38 = .ok (.iconst 1, 1) := by decide +kernel
theorem dX3_cameEarlier_39 : decode cX3_cameEarlier 39 = .ok (.ireturn, 1) := by decide +kernel
theorem dX3_cameEarlier_40 : decode cX3_cameEarlier 40 = .ok (.iinc 3 1, 3) := by decide +kernel
theorem dX3_cameEarlier_43 : decode cX3_cameEarlier 43 = .ok (.goto (-35), 3) := by decide +kernel
theorem dX3_cameEarlier_46 : decode cX3_cameEarlier 46 = .ok (.iconst 0, 1) := by decide +kernel
theorem dX3_cameEarlier_47 : decode cX3_cameEarlier 47 = .ok (.ireturn, 1) := by decide +kernel
theorem dX3_writeInner_0 : decode cX3_writeInner 0 = .ok (.aload_n 1, 1) := by decide +kernel
theorem dX3_writeInner_1 : decode cX3_writeInner 1 = .ok (.getfield 43, 3) := by decide +kernel
theorem dX3_writeInner_4 : decode cX3_writeInner 4 = .ok (.istore_n 2, 1) := by decide +kernel
theorem dX3_writeInner_5 : decode cX3_writeInner 5 = .ok (.iconst 0, 1) := by decide +kernel
theorem dX3_writeInner_6 : decode cX3_writeInner 6 = .ok (.istore_n 3, 1) := by decide +kernel
theorem dX3_writeInner_7 : decode cX3_writeInner 7 = .ok (.iload_n 3, 1) := by decide +kernel
theorem dX3_writeInner_8 : decode cX3_writeInner 8 = .ok (.aload_n 1, 1) := by decide +kernel
theorem dX3_writeInner_9 : decode cX3_writeInner 9 = .ok (.getfield 52, 3) := by decide +kernel
theorem dX3_writeInner_12 : decode cX3_writeInner 12 = .ok (.if_icmp .ge 42, 3) := by decide +kernel
theorem dX3_writeInner_15 : decode cX3_writeInner 15 = .ok (.iload_n 3, 1) := by decide +kernel
theorem dX3_writeInner_16 : decode cX3_writeInner 16 = .ok (.aload_n 0, 1) := by decide +kernel
theorem dX3_writeInner_17 : decode cX3_writeInner 17 = .ok (.getfield 21, 3) := by decide +kernel
end
section
theorem dX3_writeInner_20 : decode cX3_writeInner 20 = .ok (.arraylength, 1) := by decide +kernel
theorem dX3_writeInner_21 : decode cX3_writeInner 21 = .ok (.if_icmp .ge 33, 3) := by decide +kernel
theorem dX3_writeInner_24 : decode cX3_writeInner 24 = .ok (.aload_n 0, 1) := by decide +kernel
theorem dX3_writeInner_25 : decode cX3_writeInner 25 = .ok (.getfield 21, 3) := by decide +kernel
theorem dX3_writeInner_28 : decode cX3_writeInner 28 = .ok (.iload_n 3, 1) := by decide +kernel
theorem dX3_writeInner_29 : decode cX3_writeInner 29 = .ok (.aload_n 1, 1) := by decide +kernel
theorem dX3_writeInner_30 : decode cX3_writeInner 30 = .ok (.iload_n 2, 1) := by decide +kernel
theorem dX3_writeInner_31 : decode cX3_writeInner 31 = .ok (.aload_n 1, 1) := by decide +kernel
theorem dX3_writeInner_32 : decode cX3_writeInner 32 = .ok (.getfield 46, 3) := by decide +kernel
theorem dX3_writeInner_35 : decode cX3_writeInner 35 = .ok (.invokevirtual 82, 3) := by decide +kernel
theorem dX3_writeInner_38 : decode cX3_writeInner 38 = .ok (.iastore, 1) := by decide +kernel
theorem dX3_writeInner_39 : decode cX3_writeInner 39 = .ok (.iload_n 2, 1) := by decide +kernel
theorem dX3_writeInner_40 : decode cX3_writeInner 40 = .ok (.aload_n 1, 1) := by decide +kernel
theorem dX3_writeInner_41 : decode cX3_writeInner 41 = .ok (.getfield 46, 3) := by decide +kernel
theorem dX3_writeInner_44 : decode cX3_writeInner 44 = .ok (.invokestatic 215, 3) := by decide +kernel
theorem dX3_writeInner_47 : decode cX3_writeInner 47 = .ok (.istore_n 2, 1) := by decide +kernel
theorem dX3_writeInner_48 : decode cX3_writeInner 48 = .ok (.iinc 3 1, 3) := by decide +kernel
theorem dX3_writeInner_51 : decode cX3_writeInner 51 = .ok (.goto (-44), 3) := by decide +kernel
theorem dX3_writeInner_54 : decode cX3_writeInner 54 = .ok (.return_, 1) := by decide +kernel
theorem dX3_nextInAddress_0 : decode cX3_nextInAddress 0 = .ok (.iload_n 1, 1) := by decide +kernel
theorem dX3_nextInAddress_1 : decode cX3_nextInAddress 1 = .ok (.iconst 1, 1) := by decide +kernel
theorem dX3_nextInAddress_2 : decode cX3_nextInAddress 2 = .ok (.iadd, 1) := by decide +kernel
theorem dX3_nextInAddress_3 : decode cX3_nextInAddress 3 = .ok (.istore_n 3, 1) := by decide +kernel
theorem dX3_nextInAddress_4 : decode cX3_nextInAddress 4 = .ok (.iload_n 3, 1) := by decide +kernel
theorem dX3_nextInAddress_5 : decode cX3_nextInAddress 5 = .ok (.iload_n 2, 1) := by decide +kernel
theorem dX3_nextInAddress_6 : decode cX3_nextInAddress 6 = .ok (.if_icmp .ge 41, 3) := by decide +kernel
theorem dX3_nextInAddress_9 : decode cX3_nextInAddress 9 = .ok (.iload_n 3, 1) := by decide +kernel
theorem dX3_nextInAddress_10 : decode cX3_nextInAddress 10 = .ok (.aload_n 0, 1) := by decide +kernel
theorem dX3_nextInAddress_11 : decode cX3_nextInAddress 11 = .ok (.getfield 21, 3) := by decide +kernel
theorem dX3_nextInAddress_14 : decode cX3_nextInAddress 14 = .ok (.arraylength, 1) := by decide +kernel
theorem dX3_nextInAddress_15 : decode cX3_nextInAddress 15 = .ok (.if_icmp .gt 32, 3) := by decide +kernel
theorem dX3_nextInAddress_18 : decode cX3_nextInAddress 18 = .ok (.aload_n 0, 1) := by decide +kernel
theorem dX3_nextInAddress_19 : decode cX3_nextInAddress 19 = .ok (.getfield 21, 3) := by decide +kernel
theorem dX3_nextInAddress_22 : decode cX3_nextInAddress 22 = .ok (.iload_n 3, 1) := by decide +kernel
theorem dX3_nextInAddress_23 : decode cX3_nextInAddress 23 = .ok (.iconst 1, 1) := by decide +kernel
theorem dX3_nextInAddress_24 : decode cX3_nextInAddress 24 = .ok (.isub, 1) := by decide +kernel
theorem dX3_nextInAddress_25 : decode cX3_nextInAddress 25 = .ok (.iaload, 1) := by decide +kernel
theorem dX3_nextInAddress_26 : decode cX3_nextInAddress 26 = .ok (.aload_n 0, 1) := by decide +kernel
theorem dX3_nextInAddress_27 : decode cX3_nextInAddress 27 = .ok (.getfield 21, 3) := by decide +kernel
theorem dX3_nextInAddress_30 : decode cX3_nextInAddress 30 = .ok (.iload_n 3, 1) := by decide +kernel
theorem dX3_nextInAddress_31 : decode cX3_nextInAddress 31 = .ok (.iconst 1, 1) := by decide +kernel
theorem dX3_nextInAddress_32 : decode cX3_nextInAddress 32 = .ok (.isub, 1) := by decide +kernel
theorem dX3_nextInAddress_33 : decode cX3_nextInAddress 33 = .ok (.iload_n 1, 1) := by decide +kernel
theorem dX3_nextInAddress_34 : decode cX3_nextInAddress 34 = .ok (.isub, 1) := by decide +kernel
theorem dX3_nextInAddress_35 : decode cX3_nextInAddress 35 = .ok (.iaload, 1) := by decide +kernel
theorem dX3_nextInAddress_36 : decode cX3_nextInAddress 36 = .ok (.if_icmp .eq 5, 3) := by decide +kernel
theorem dX3_nextInAddress_39 : decode cX3_nextInAddress 39 = .ok (.iload_n 3, 1) := by decide +kernel
theorem dX3_nextInAddress_40 : decode cX3_nextInAddress 40 = .ok (.ireturn, 1) := by decide +kernel
theorem dX3_nextInAddress_41 : decode cX3_nextInAddress 41 = .ok (.iinc 3 1, 3) := by decide +kernel
theorem dX3_nextInAddress_44 : decode cX3_nextInAddress 44 = .ok (.goto (-40), 3) := by decide +kernel
theorem dX3_nextInAddress_47 : decode cX3_nextInAddress 47 = .ok (.iload_n 2, 1) := by decide +kernel
theorem dX3_nextInAddress_48 : decode cX3_nextInAddress 48 = .ok (.ireturn, 1) := by decide +kernel
theorem dX3_agree_0 : decode cX3_agree 0 = .ok (.iload_n 0, 1) := by decide +kernel
theorem dX3_agree_1 : decode cX3_agree 1 = .ok (.iload_n 1, 1) := by decide +kernel
theorem dX3_agree_2 : decode cX3_agree 2 = .ok (.if_icmp .eq 13, 3) := by decide +kernel
theorem dX3_agree_5 : decode cX3_agree 5 = .ok (.iload_n 0, 1) := by decide +kernel
theorem dX3_agree_6 : decode cX3_agree 6 = .ok (.iconst 2, 1) := by decide +kernel
theorem dX3_agree_7 : decode cX3_agree 7 = .ok (.if_icmp .eq 8, 3) := by decide +kernel
theorem dX3_agree_10 : decode cX3_agree 10 = .ok (.iload_n 1, 1) := by decide +kernel
theorem dX3_agree_11 : decode cX3_agree 11 = .ok (.iconst 2, 1) := by decide +kernel
theorem dX3_agree_12 : decode cX3_agree 12 = .ok (.if_icmp .ne 7, 3) := by decide +kernel
theorem dX3_agree_15 : decode cX3_agree 15 = .ok (.iconst 1, 1) := by decide +kernel
theorem dX3_agree_16 : decode cX3_agree 16 = .ok (.goto 4, 3) := by decide +kernel
theorem dX3_agree_19 : decode cX3_agree 19 = .ok (.iconst 0, 1) := by decide +kernel
theorem dX3_agree_20 : decode cX3_agree 20 = .ok (.ireturn, 1) := by decide +kernel
theorem dX3_agreeAhead_0 : decode cX3_agreeAhead 0 = .ok (.aload_n 0, 1) := by decide +kernel
theorem dX3_agreeAhead_1 : decode cX3_agreeAhead 1 = .ok (.getfield 43, 3) := by decide +kernel
theorem dX3_agreeAhead_4 : decode cX3_agreeAhead 4 = .ok (.istore 4, 2) := by decide +kernel
theorem dX3_agreeAhead_6 : decode cX3_agreeAhead 6 = .ok (.aload_n 1, 1) := by decide +kernel
theorem dX3_agreeAhead_7 : decode cX3_agreeAhead 7 = .ok (.getfield 43, 3) := by decide +kernel
theorem dX3_agreeAhead_10 : decode cX3_agreeAhead 10 = .ok (.istore 5, 2) := by decide +kernel
theorem dX3_agreeAhead_12 : decode cX3_agreeAhead 12 = .ok (.iconst 0, 1) := by decide +kernel
theorem dX3_agreeAhead_13 : decode cX3_agreeAhead 13 = .ok (.istore 6, 2) := by decide +kernel
theorem dX3_agreeAhead_15 : decode cX3_agreeAhead 15 = .ok (.iload 6, 2) := by decide +kernel
theorem dX3_agreeAhead_17 : decode cX3_agreeAhead 17 = .ok (.iload_n 3, 1) := by decide +kernel
theorem dX3_agreeAhead_18 : decode cX3_agreeAhead 18 = .ok (.if_icmp .ge 59, 3) := by decide +kernel
theorem dX3_agreeAhead_21 : decode cX3_agreeAhead 21 = .ok (.aload_n 2, 1) := by decide +kernel
theorem dX3_agreeAhead_22 : decode cX3_agreeAhead 22 = .ok (.iload 4, 2) := by decide +kernel
theorem dX3_agreeAhead_24 : decode cX3_agreeAhead 24 = .ok (.aload_n 0, 1) := by decide +kernel
theorem dX3_agreeAhead_25 : decode cX3_agreeAhead 25 = .ok (.getfield 46, 3) := by decide +kernel
theorem dX3_agreeAhead_28 : decode cX3_agreeAhead 28 = .ok (.invokevirtual 82, 3) := by decide +kernel
theorem dX3_agreeAhead_31 : decode cX3_agreeAhead 31 = .ok (.aload_n 2, 1) := by decide +kernel
theorem dX3_agreeAhead_32 : decode cX3_agreeAhead 32 = .ok (.iload 5, 2) := by decide +kernel
theorem dX3_agreeAhead_34 : decode cX3_agreeAhead 34 = .ok (.aload_n 1, 1) := by decide +kernel
theorem dX3_agreeAhead_35 : decode cX3_agreeAhead 35 = .ok (.getfield 46, 3) := by decide +kernel
theorem dX3_agreeAhead_38 : decode cX3_agreeAhead 38 = .ok (.invokevirtual 82, 3) := by decide +kernel
theorem dX3_agreeAhead_41 : decode cX3_agreeAhead 41 = .ok (.invokestatic 218, 3) := by decide +kernel
theorem dX3_agreeAhead_44 : decode cX3_agreeAhead 44 = .ok (.ifCond .ne 5, 3) := by decide +kernel
theorem dX3_agreeAhead_47 : decode cX3_agreeAhead 47 = .ok (.iconst 0, 1) := by decide +kernel
theorem dX3_agreeAhead_48 : decode cX3_agreeAhead 48 = .ok (.ireturn, 1) := by decide +kernel
theorem dX3_agreeAhead_49 : decode cX3_agreeAhead 49 = .ok (.iload 4, 2) := by decide +kernel
theorem dX3_agreeAhead_51 : decode cX3_agreeAhead 51 = .ok (.aload_n 0, 1) := by decide +kernel
theorem dX3_agreeAhead_52 : decode cX3_agreeAhead 52 = .ok (.getfield 46, 3) := by decide +kernel
theorem dX3_agreeAhead_55 : decode cX3_agreeAhead 55 = .ok (.invokestatic 215, 3) := by decide +kernel
theorem dX3_agreeAhead_58 : decode cX3_agreeAhead 58 = .ok (.istore 4, 2) := by decide +kernel
theorem dX3_agreeAhead_60 : decode cX3_agreeAhead 60 = .ok (.iload 5, 2) := by decide +kernel
theorem dX3_agreeAhead_62 : decode cX3_agreeAhead 62 = .ok (.aload_n 1, 1) := by decide +kernel
theorem dX3_agreeAhead_63 : decode cX3_agreeAhead 63 = .ok (.getfield 46, 3) := by decide +kernel
theorem dX3_agreeAhead_66 : decode cX3_agreeAhead 66 = .ok (.invokestatic 215, 3) := by decide +kernel
theorem dX3_agreeAhead_69 : decode cX3_agreeAhead 69 = .ok (.istore 5, 2) := by decide +kernel
theorem dX3_agreeAhead_71 : decode cX3_agreeAhead 71 = .ok (.iinc 6 1, 3) := by decide +kernel
theorem dX3_agreeAhead_74 : decode cX3_agreeAhead 74 = .ok (.goto (-59), 3) := by decide +kernel
theorem dX3_agreeAhead_77 : decode cX3_agreeAhead 77 = .ok (.iconst 1, 1) := by decide +kernel
theorem dX3_agreeAhead_78 : decode cX3_agreeAhead 78 = .ok (.ireturn, 1) := by decide +kernel
theorem dX3_agreeInRings_0 : decode cX3_agreeInRings 0 = .ok (.aload_n 1, 1) := by decide +kernel
theorem dX3_agreeInRings_1 : decode cX3_agreeInRings 1 = .ok (.getfield 52, 3) := by decide +kernel
theorem dX3_agreeInRings_4 : decode cX3_agreeInRings 4 = .ok (.i2l, 1) := by decide +kernel
theorem dX3_agreeInRings_5 : decode cX3_agreeInRings 5 = .ok (.aload_n 2, 1) := by decide +kernel
theorem dX3_agreeInRings_6 : decode cX3_agreeInRings 6 = .ok (.getfield 52, 3) := by decide +kernel
theorem dX3_agreeInRings_9 : decode cX3_agreeInRings 9 = .ok (.i2l, 1) := by decide +kernel
theorem dX3_agreeInRings_10 : decode cX3_agreeInRings 10 = .ok (.invokestatic 66, 3) := by decide +kernel
theorem dX3_agreeInRings_13 : decode cX3_agreeInRings 13 = .ok (.l2i, 1) := by decide +kernel
theorem dX3_agreeInRings_14 : decode cX3_agreeInRings 14 = .ok (.istore 5, 2) := by decide +kernel
theorem dX3_agreeInRings_16 : decode cX3_agreeInRings 16 = .ok (.iconst 0, 1) := by decide +kernel
theorem dX3_agreeInRings_17 : decode cX3_agreeInRings 17 = .ok (.istore 6, 2) := by decide +kernel
theorem dX3_agreeInRings_19 : decode cX3_agreeInRings 19 = .ok (.iload 6, 2) := by decide +kernel
theorem dX3_agreeInRings_21 : decode cX3_agreeInRings 21 = .ok (.iload 5, 2) := by decide +kernel
theorem dX3_agreeInRings_23 : decode cX3_agreeInRings 23 = .ok (.if_icmp .ge 27, 3) := by decide +kernel
theorem dX3_agreeInRings_26 : decode cX3_agreeInRings 26 = .ok (.iload 6, 2) := by decide +kernel
theorem dX3_agreeInRings_28 : decode cX3_agreeInRings 28 = .ok (.aload_n 0, 1) := by decide +kernel
theorem dX3_agreeInRings_29 : decode cX3_agreeInRings 29 = .ok (.getfield 21, 3) := by decide +kernel
theorem dX3_agreeInRings_32 : decode cX3_agreeInRings 32 = .ok (.arraylength, 1) := by decide +kernel
theorem dX3_agreeInRings_33 : decode cX3_agreeInRings 33 = .ok (.if_icmp .ge 17, 3) := by decide +kernel
theorem dX3_agreeInRings_36 : decode cX3_agreeInRings 36 = .ok (.aload_n 0, 1) := by decide +kernel
theorem dX3_agreeInRings_37 : decode cX3_agreeInRings 37 = .ok (.getfield 21, 3) := by decide +kernel
theorem dX3_agreeInRings_40 : decode cX3_agreeInRings 40 = .ok (.iload 6, 2) := by decide +kernel
theorem dX3_agreeInRings_42 : decode cX3_agreeInRings 42 = .ok (.iconst 0, 1) := by decide +kernel
theorem dX3_agreeInRings_43 : decode cX3_agreeInRings 43 = .ok (.iastore, 1) := by decide +kernel
theorem dX3_agreeInRings_44 : decode cX3_agreeInRings 44 = .ok (.iinc 6 1, 3) := by decide +kernel
theorem dX3_agreeInRings_47 : decode cX3_agreeInRings 47 = .ok (.goto (-28), 3) := by decide +kernel
theorem dX3_agreeInRings_50 : decode cX3_agreeInRings 50 = .ok (.aload_n 1, 1) := by decide +kernel
theorem dX3_agreeInRings_51 : decode cX3_agreeInRings 51 = .ok (.iload 4, 2) := by decide +kernel
theorem dX3_agreeInRings_53 : decode cX3_agreeInRings 53 = .ok (.invokevirtual 62, 3) := by decide +kernel
theorem dX3_agreeInRings_56 : decode cX3_agreeInRings 56 = .ok (.istore 6, 2) := by decide +kernel
theorem dX3_agreeInRings_58 : decode cX3_agreeInRings 58 = .ok (.iconst 0, 1) := by decide +kernel
theorem dX3_agreeInRings_59 : decode cX3_agreeInRings 59 = .ok (.istore 7, 2) := by decide +kernel
theorem dX3_agreeInRings_61 : decode cX3_agreeInRings 61 = .ok (.iconst 0, 1) := by decide +kernel
theorem dX3_agreeInRings_62 : decode cX3_agreeInRings 62 = .ok (.istore 8, 2) := by decide +kernel
theorem dX3_agreeInRings_64 : decode cX3_agreeInRings 64 = .ok (.iload 8, 2) := by decide +kernel
theorem dX3_agreeInRings_66 : decode cX3_agreeInRings 66 = .ok (.aload_n 1, 1) := by decide +kernel
theorem dX3_agreeInRings_67 : decode cX3_agreeInRings 67 = .ok (.getfield 52, 3) := by decide +kernel
theorem dX3_agreeInRings_70 : decode cX3_agreeInRings 70 = .ok (.if_icmp .ge 71, 3) := by decide +kernel
theorem dX3_agreeInRings_73 : decode cX3_agreeInRings 73 = .ok (.iload 7, 2) := by decide +kernel
theorem dX3_agreeInRings_75 : decode cX3_agreeInRings 75 = .ok (.aload_n 0, 1) := by decide +kernel
theorem dX3_agreeInRings_76 : decode cX3_agreeInRings 76 = .ok (.getfield 21, 3) := by decide +kernel
theorem dX3_agreeInRings_79 : decode cX3_agreeInRings 79 = .ok (.arraylength, 1) := by decide +kernel
theorem dX3_agreeInRings_80 : decode cX3_agreeInRings 80 = .ok (.if_icmp .ge 61, 3) := by decide +kernel
theorem dX3_agreeInRings_83 : decode cX3_agreeInRings 83 = .ok (.aload_n 0, 1) := by decide +kernel
theorem dX3_agreeInRings_84 : decode cX3_agreeInRings 84 = .ok (.getfield 21, 3) := by decide +kernel
theorem dX3_agreeInRings_87 : decode cX3_agreeInRings 87 = .ok (.iload 7, 2) := by decide +kernel
theorem dX3_agreeInRings_89 : decode cX3_agreeInRings 89 = .ok (.dup2, 1) := by decide +kernel
theorem dX3_agreeInRings_90 : decode cX3_agreeInRings 90 = .ok (.iaload, 1) := by decide +kernel
theorem dX3_agreeInRings_91 : decode cX3_agreeInRings 91 = .ok (.iconst 1, 1) := by decide +kernel
theorem dX3_agreeInRings_92 : decode cX3_agreeInRings 92 = .ok (.aload_n 3, 1) := by decide +kernel
theorem dX3_agreeInRings_93 : decode cX3_agreeInRings 93 = .ok (.iload 6, 2) := by decide +kernel
theorem dX3_agreeInRings_95 : decode cX3_agreeInRings 95 = .ok (.aload_n 1, 1) := by decide +kernel
theorem dX3_agreeInRings_96 : decode cX3_agreeInRings 96 = .ok (.getfield 46, 3) := by decide +kernel
theorem dX3_agreeInRings_99 : decode cX3_agreeInRings 99 = .ok (.invokevirtual 82, 3) := by decide +kernel
theorem dX3_agreeInRings_102 : decode cX3_agreeInRings 102 = .ok (.ishl, 1) := by decide +kernel
theorem dX3_agreeInRings_103 : decode cX3_agreeInRings 103 = .ok (.ior, 1) := by decide +kernel
theorem dX3_agreeInRings_104 : decode cX3_agreeInRings 104 = .ok (.iastore, 1) := by decide +kernel
theorem dX3_agreeInRings_105 : decode cX3_agreeInRings 105 = .ok (.iload 6, 2) := by decide +kernel
theorem dX3_agreeInRings_107 : decode cX3_agreeInRings 107 = .ok (.aload_n 1, 1) := by decide +kernel
theorem dX3_agreeInRings_108 : decode cX3_agreeInRings 108 = .ok (.getfield 46, 3) := by decide +kernel
theorem dX3_agreeInRings_111 : decode cX3_agreeInRings 111 = .ok (.invokestatic 215, 3) := by decide +kernel
theorem dX3_agreeInRings_114 : decode cX3_agreeInRings 114 = .ok (.istore 6, 2) := by decide +kernel
theorem dX3_agreeInRings_116 : decode cX3_agreeInRings 116 = .ok (.iload 7, 2) := by decide +kernel
theorem dX3_agreeInRings_118 : decode cX3_agreeInRings 118 = .ok (.iconst 1, 1) := by decide +kernel
theorem dX3_agreeInRings_119 : decode cX3_agreeInRings 119 = .ok (.iadd, 1) := by decide +kernel
theorem dX3_agreeInRings_120 : decode cX3_agreeInRings 120 = .ok (.iload 5, 2) := by decide +kernel
theorem dX3_agreeInRings_122 : decode cX3_agreeInRings 122 = .ok (.if_icmp .ge 10, 3) := by decide +kernel
theorem dX3_agreeInRings_125 : decode cX3_agreeInRings 125 = .ok (.iload 7, 2) := by decide +kernel
theorem dX3_agreeInRings_127 : decode cX3_agreeInRings 127 = .ok (.iconst 1, 1) := by decide +kernel
theorem dX3_agreeInRings_128 : decode cX3_agreeInRings 128 = .ok (.iadd, 1) := by decide +kernel
theorem dX3_agreeInRings_129 : decode cX3_agreeInRings 129 = .ok (.goto 4, 3) := by decide +kernel
theorem dX3_agreeInRings_132 : decode cX3_agreeInRings 132 = .ok (.iconst 0, 1) := by decide +kernel
theorem dX3_agreeInRings_133 : decode cX3_agreeInRings 133 = .ok (.istore 7, 2) := by decide +kernel
theorem dX3_agreeInRings_135 : decode cX3_agreeInRings 135 = .ok (.iinc 8 1, 3) := by decide +kernel
theorem dX3_agreeInRings_138 : decode cX3_agreeInRings 138 = .ok (.goto (-74), 3) := by decide +kernel
theorem dX3_agreeInRings_141 : decode cX3_agreeInRings 141 = .ok (.aload_n 2, 1) := by decide +kernel
theorem dX3_agreeInRings_142 : decode cX3_agreeInRings 142 = .ok (.iload 4, 2) := by decide +kernel
theorem dX3_agreeInRings_144 : decode cX3_agreeInRings 144 = .ok (.invokevirtual 62, 3) := by decide +kernel
theorem dX3_agreeInRings_147 : decode cX3_agreeInRings 147 = .ok (.istore 6, 2) := by decide +kernel
theorem dX3_agreeInRings_149 : decode cX3_agreeInRings 149 = .ok (.iconst 0, 1) := by decide +kernel
theorem dX3_agreeInRings_150 : decode cX3_agreeInRings 150 = .ok (.istore 7, 2) := by decide +kernel
theorem dX3_agreeInRings_152 : decode cX3_agreeInRings 152 = .ok (.iconst 0, 1) := by decide +kernel
theorem dX3_agreeInRings_153 : decode cX3_agreeInRings 153 = .ok (.istore 8, 2) := by decide +kernel
theorem dX3_agreeInRings_155 : decode cX3_agreeInRings 155 = .ok (.iload 8, 2) := by decide +kernel
theorem dX3_agreeInRings_157 : decode cX3_agreeInRings 157 = .ok (.aload_n 2, 1) := by decide +kernel
theorem dX3_agreeInRings_158 : decode cX3_agreeInRings 158 = .ok (.getfield 52, 3) := by decide +kernel
theorem dX3_agreeInRings_161 : decode cX3_agreeInRings 161 = .ok (.if_icmp .ge 86, 3) := by decide +kernel
theorem dX3_agreeInRings_164 : decode cX3_agreeInRings 164 = .ok (.iload 7, 2) := by decide +kernel
theorem dX3_agreeInRings_166 : decode cX3_agreeInRings 166 = .ok (.aload_n 0, 1) := by decide +kernel
theorem dX3_agreeInRings_167 : decode cX3_agreeInRings 167 = .ok (.getfield 21, 3) := by decide +kernel
theorem dX3_agreeInRings_170 : decode cX3_agreeInRings 170 = .ok (.arraylength, 1) := by decide +kernel
theorem dX3_agreeInRings_171 : decode cX3_agreeInRings 171 = .ok (.if_icmp .ge 76, 3) := by decide +kernel
theorem dX3_agreeInRings_174 : decode cX3_agreeInRings 174 = .ok (.aload_n 3, 1) := by decide +kernel
theorem dX3_agreeInRings_175 : decode cX3_agreeInRings 175 = .ok (.iload 6, 2) := by decide +kernel
theorem dX3_agreeInRings_177 : decode cX3_agreeInRings 177 = .ok (.aload_n 2, 1) := by decide +kernel
theorem dX3_agreeInRings_178 : decode cX3_agreeInRings 178 = .ok (.getfield 46, 3) := by decide +kernel
theorem dX3_agreeInRings_181 : decode cX3_agreeInRings 181 = .ok (.invokevirtual 82, 3) := by decide +kernel
theorem dX3_agreeInRings_184 : decode cX3_agreeInRings 184 = .ok (.istore 9, 2) := by decide +kernel
theorem dX3_agreeInRings_186 : decode cX3_agreeInRings 186 = .ok (.iload 9, 2) := by decide +kernel
theorem dX3_agreeInRings_188 : decode cX3_agreeInRings 188 = .ok (.iconst 2, 1) := by decide +kernel
theorem dX3_agreeInRings_189 : decode cX3_agreeInRings 189 = .ok (.if_icmp .eq 22, 3) := by decide +kernel
theorem dX3_agreeInRings_192 : decode cX3_agreeInRings 192 = .ok (.aload_n 0, 1) := by decide +kernel
theorem dX3_agreeInRings_193 : decode cX3_agreeInRings 193 = .ok (.getfield 21, 3) := by decide +kernel
theorem dX3_agreeInRings_196 : decode cX3_agreeInRings 196 = .ok (.iload 7, 2) := by decide +kernel
theorem dX3_agreeInRings_198 : decode cX3_agreeInRings 198 = .ok (.iaload, 1) := by decide +kernel
theorem dX3_agreeInRings_199 : decode cX3_agreeInRings 199 = .ok (.iconst 1, 1) := by decide +kernel
theorem dX3_agreeInRings_200 : decode cX3_agreeInRings 200 = .ok (.iconst 1, 1) := by decide +kernel
theorem dX3_agreeInRings_201 : decode cX3_agreeInRings 201 = .ok (.iload 9, 2) := by decide +kernel
theorem dX3_agreeInRings_203 : decode cX3_agreeInRings 203 = .ok (.isub, 1) := by decide +kernel
theorem dX3_agreeInRings_204 : decode cX3_agreeInRings 204 = .ok (.ishl, 1) := by decide +kernel
theorem dX3_agreeInRings_205 : decode cX3_agreeInRings 205 = .ok (.iand, 1) := by decide +kernel
theorem dX3_agreeInRings_206 : decode cX3_agreeInRings 206 = .ok (.ifCond .eq 5, 3) := by decide +kernel
theorem dX3_agreeInRings_209 : decode cX3_agreeInRings 209 = .ok (.iconst 0, 1) := by decide +kernel
theorem dX3_agreeInRings_210 : decode cX3_agreeInRings 210 = .ok (.ireturn, 1) := by decide +kernel
theorem dX3_agreeInRings_211 : decode cX3_agreeInRings 211 = .ok (.iload 6, 2) := by decide +kernel
theorem dX3_agreeInRings_213 : decode cX3_agreeInRings 213 = .ok (.aload_n 2, 1) := by decide +kernel
theorem dX3_agreeInRings_214 : decode cX3_agreeInRings 214 = .ok (.getfield 46, 3) := by decide +kernel
theorem dX3_agreeInRings_217 : decode cX3_agreeInRings 217 = .ok (.invokestatic 215, 3) := by decide +kernel
theorem dX3_agreeInRings_220 : decode cX3_agreeInRings 220 = .ok (.istore 6, 2) := by decide +kernel
theorem dX3_agreeInRings_222 : decode cX3_agreeInRings 222 = .ok (.iload 7, 2) := by decide +kernel
theorem dX3_agreeInRings_224 : decode cX3_agreeInRings 224 = .ok (.iconst 1, 1) := by decide +kernel
theorem dX3_agreeInRings_225 : decode cX3_agreeInRings 225 = .ok (.iadd, 1) := by decide +kernel
theorem dX3_agreeInRings_226 : decode cX3_agreeInRings 226 = .ok (.iload 5, 2) := by decide +kernel
theorem dX3_agreeInRings_228 : decode cX3_agreeInRings 228 = .ok (.if_icmp .ge 10, 3) := by decide +kernel
theorem dX3_agreeInRings_231 : decode cX3_agreeInRings 231 = .ok (.iload 7, 2) := by decide +kernel
theorem dX3_agreeInRings_233 : decode cX3_agreeInRings 233 = .ok (.iconst 1, 1) := by decide +kernel
theorem dX3_agreeInRings_234 : decode cX3_agreeInRings 234 = .ok (.iadd, 1) := by decide +kernel
theorem dX3_agreeInRings_235 : decode cX3_agreeInRings 235 = .ok (.goto 4, 3) := by decide +kernel
theorem dX3_agreeInRings_238 : decode cX3_agreeInRings 238 = .ok (.iconst 0, 1) := by decide +kernel
theorem dX3_agreeInRings_239 : decode cX3_agreeInRings 239 = .ok (.istore 7, 2) := by decide +kernel
theorem dX3_agreeInRings_241 : decode cX3_agreeInRings 241 = .ok (.iinc 8 1, 3) := by decide +kernel
theorem dX3_agreeInRings_244 : decode cX3_agreeInRings 244 = .ok (.goto (-89), 3) := by decide +kernel
theorem dX3_agreeInRings_247 : decode cX3_agreeInRings 247 = .ok (.iconst 1, 1) := by decide +kernel
theorem dX3_agreeInRings_248 : decode cX3_agreeInRings 248 = .ok (.ireturn, 1) := by decide +kernel
theorem dX3_known_0 : decode cX3_known 0 = .ok (.aload_n 0, 1) := by decide +kernel
theorem dX3_known_1 : decode cX3_known 1 = .ok (.getfield 29, 3) := by decide +kernel
theorem dX3_known_4 : decode cX3_known 4 = .ok (.ifnonnull 14, 3) := by decide +kernel
theorem dX3_known_7 : decode cX3_known 7 = .ok (.aload_n 0, 1) := by decide +kernel
theorem dX3_known_8 : decode cX3_known 8 = .ok (.new 125, 3) := by decide +kernel
theorem dX3_known_11 : decode cX3_known 11 = .ok (.dup, 1) := by decide +kernel
theorem dX3_known_12 : decode cX3_known 12 = .ok (.invokespecial 221, 3) := by decide +kernel
theorem dX3_known_15 : decode cX3_known 15 = .ok (.putfield 29, 3) := by decide +kernel
theorem dX3_known_18 : decode cX3_known 18 = .ok (.aload_n 0, 1) := by decide +kernel
theorem dX3_known_19 : decode cX3_known 19 = .ok (.getfield 29, 3) := by decide +kernel
theorem dX3_known_22 : decode cX3_known 22 = .ok (.areturn, 1) := by decide +kernel
theorem dX3_pairOf_0 : decode cX3_pairOf 0 = .ok (.aload_n 1, 1) := by decide +kernel
theorem dX3_pairOf_1 : decode cX3_pairOf 1 = .ok (.invokevirtual 86, 3) := by decide +kernel
theorem dX3_pairOf_4 : decode cX3_pairOf 4 = .ok (.ifCond .eq 27, 3) := by decide +kernel
theorem dX3_pairOf_7 : decode cX3_pairOf 7 = .ok (.aload_n 1, 1) := by decide +kernel
theorem dX3_pairOf_8 : decode cX3_pairOf 8 = .ok (.getfield 52, 3) := by decide +kernel
theorem dX3_pairOf_11 : decode cX3_pairOf 11 = .ok (.invokestatic 117, 3) := by decide +kernel
theorem dX3_pairOf_14 : decode cX3_pairOf 14 = .ok (.ifCond .eq 17, 3) := by decide +kernel
theorem dX3_pairOf_17 : decode cX3_pairOf 17 = .ok (.aload_n 0, 1) := by decide +kernel
theorem dX3_pairOf_18 : decode cX3_pairOf 18 = .ok (.invokevirtual 120, 3) := by decide +kernel
theorem dX3_pairOf_21 : decode cX3_pairOf 21 = .ok (.aload_n 1, 1) := by decide +kernel
theorem dX3_pairOf_22 : decode cX3_pairOf 22 = .ok (.invokevirtual 139, 3) := by decide +kernel
theorem dX3_pairOf_25 : decode cX3_pairOf 25 = .ok (.invokevirtual 222, 3) := by decide +kernel
theorem dX3_pairOf_28 : decode cX3_pairOf 28 = .ok (.goto 4, 3) := by decide +kernel
theorem dX3_pairOf_31 : decode cX3_pairOf 31 = .ok (.iconst (-1), 1) := by decide +kernel
theorem dX3_pairOf_32 : decode cX3_pairOf 32 = .ok (.ireturn, 1) := by decide +kernel
theorem dX3_pairForPutting_0 : decode cX3_pairForPutting 0 = .ok (.aload_n 2, 1) := by decide +kernel
theorem dX3_pairForPutting_1 : decode cX3_pairForPutting 1 = .ok (.invokevirtual 86, 3) := by decide +kernel
theorem dX3_pairForPutting_4 : decode cX3_pairForPutting 4 = .ok (.ifCond .eq 18, 3) := by decide +kernel
theorem dX3_pairForPutting_7 : decode cX3_pairForPutting 7 = .ok (.aload_n 1, 1) := by decide +kernel
theorem dX3_pairForPutting_8 : decode cX3_pairForPutting 8 = .ok (.getfield 43, 3) := by decide +kernel
theorem dX3_pairForPutting_11 : decode cX3_pairForPutting 11 = .ok (.ifCond .eq 11, 3) := by decide +kernel
theorem dX3_pairForPutting_14 : decode cX3_pairForPutting 14 = .ok (.aload_n 0, 1) := by decide +kernel
theorem dX3_pairForPutting_15 : decode cX3_pairForPutting 15 = .ok (.aload_n 1, 1) := by decide +kernel
theorem dX3_pairForPutting_16 : decode cX3_pairForPutting 16 = .ok (.invokevirtual 136, 3) := by decide +kernel
theorem dX3_pairForPutting_19 : decode cX3_pairForPutting 19 = .ok (.goto 4, 3) := by decide +kernel
theorem dX3_pairForPutting_22 : decode cX3_pairForPutting 22 = .ok (.iconst (-1), 1) := by decide +kernel
theorem dX3_pairForPutting_23 : decode cX3_pairForPutting 23 = .ok (.ireturn, 1) := by decide +kernel
theorem dX3_digitsTakenOut_0 : decode cX3_digitsTakenOut 0 = .ok (.aload_n 0, 1) := by decide +kernel
theorem dX3_digitsTakenOut_1 : decode cX3_digitsTakenOut 1 = .ok (.invokevirtual 120, 3) := by decide +kernel
theorem dX3_digitsTakenOut_4 : decode cX3_digitsTakenOut 4 = .ok (.iload_n 1, 1) := by decide +kernel
theorem dX3_digitsTakenOut_5 : decode cX3_digitsTakenOut 5 = .ok (.iconst 0, 1) := by decide +kernel
theorem dX3_digitsTakenOut_6 : decode cX3_digitsTakenOut 6 = .ok (.iload_n 2, 1) := by decide +kernel
theorem dX3_digitsTakenOut_7 : decode cX3_digitsTakenOut 7 = .ok (.invokevirtual 132, 3) := by decide +kernel
theorem dX3_digitsTakenOut_10 : decode cX3_digitsTakenOut 10 = .ok (.istore 5, 2) := by decide +kernel
theorem dX3_digitsTakenOut_12 : decode cX3_digitsTakenOut 12 = .ok (.aload_n 0, 1) := by decide +kernel
theorem dX3_digitsTakenOut_13 : decode cX3_digitsTakenOut 13 = .ok (.invokevirtual 120, 3) := by decide +kernel
theorem dX3_digitsTakenOut_16 : decode cX3_digitsTakenOut 16 = .ok (.iload_n 1, 1) := by decide +kernel
theorem dX3_digitsTakenOut_17 : decode cX3_digitsTakenOut 17 = .ok (.iconst 1, 1) := by decide +kernel
theorem dX3_digitsTakenOut_18 : decode cX3_digitsTakenOut 18 = .ok (.iload_n 2, 1) := by decide +kernel
theorem dX3_digitsTakenOut_19 : decode cX3_digitsTakenOut 19 = .ok (.invokevirtual 132, 3) := by decide +kernel
theorem dX3_digitsTakenOut_22 : decode cX3_digitsTakenOut 22 = .ok (.istore 6, 2) := by decide +kernel
theorem dX3_digitsTakenOut_24 : decode cX3_digitsTakenOut 24 = .ok (.lconst 0, 1) := by decide +kernel
theorem dX3_digitsTakenOut_25 : decode cX3_digitsTakenOut 25 = .ok (.lstore 7, 2) := by decide +kernel
theorem dX3_digitsTakenOut_27 : decode cX3_digitsTakenOut 27 = .ok (.aload_n 3, 1) := by decide +kernel
theorem dX3_digitsTakenOut_28 : decode cX3_digitsTakenOut 28 = .ok (.getfield 43, 3) := by decide +kernel
theorem dX3_digitsTakenOut_31 : decode cX3_digitsTakenOut 31 = .ok (.i2l, 1) := by decide +kernel
theorem dX3_digitsTakenOut_32 : decode cX3_digitsTakenOut 32 = .ok (.lstore 9, 2) := by decide +kernel
theorem dX3_digitsTakenOut_34 : decode cX3_digitsTakenOut 34 = .ok (.iconst 0, 1) := by decide +kernel
theorem dX3_digitsTakenOut_35 : decode cX3_digitsTakenOut 35 = .ok (.istore 11, 2) := by decide +kernel
theorem dX3_digitsTakenOut_37 : decode cX3_digitsTakenOut 37 = .ok (.iload 11, 2) := by decide +kernel
theorem dX3_digitsTakenOut_39 : decode cX3_digitsTakenOut 39 = .ok (.iload 4, 2) := by decide +kernel
theorem dX3_digitsTakenOut_41 : decode cX3_digitsTakenOut 41 = .ok (.if_icmp .ge 89, 3) := by decide +kernel
theorem dX3_digitsTakenOut_44 : decode cX3_digitsTakenOut 44 = .ok (.lload 9, 2) := by decide +kernel
theorem dX3_digitsTakenOut_46 : decode cX3_digitsTakenOut 46 = .ok (.iload_n 2, 1) := by decide +kernel
theorem dX3_digitsTakenOut_47 : decode cX3_digitsTakenOut 47 = .ok (.lshl, 1) := by decide +kernel
theorem dX3_digitsTakenOut_48 : decode cX3_digitsTakenOut 48 = .ok (.lstore 12, 2) := by decide +kernel
theorem dX3_digitsTakenOut_50 : decode cX3_digitsTakenOut 50 = .ok (.lload 12, 2) := by decide +kernel
theorem dX3_digitsTakenOut_52 : decode cX3_digitsTakenOut 52 = .ok (.aload_n 3, 1) := by decide +kernel
theorem dX3_digitsTakenOut_53 : decode cX3_digitsTakenOut 53 = .ok (.getfield 46, 3) := by decide +kernel
theorem dX3_digitsTakenOut_56 : decode cX3_digitsTakenOut 56 = .ok (.i2l, 1) := by decide +kernel
theorem dX3_digitsTakenOut_57 : decode cX3_digitsTakenOut 57 = .ok (.invokestatic 70, 3) := by decide +kernel
theorem dX3_digitsTakenOut_60 : decode cX3_digitsTakenOut 60 = .ok (.lstore 14, 2) := by decide +kernel
theorem dX3_digitsTakenOut_62 : decode cX3_digitsTakenOut 62 = .ok (.lload 14, 2) := by decide +kernel
theorem dX3_digitsTakenOut_64 : decode cX3_digitsTakenOut 64 = .ok (.iload 5, 2) := by decide +kernel
theorem dX3_digitsTakenOut_66 : decode cX3_digitsTakenOut 66 = .ok (.i2l, 1) := by decide +kernel
theorem dX3_digitsTakenOut_67 : decode cX3_digitsTakenOut 67 = .ok (.lcmp, 1) := by decide +kernel
theorem dX3_digitsTakenOut_68 : decode cX3_digitsTakenOut 68 = .ok (.ifCond .eq 16, 3) := by decide +kernel
theorem dX3_digitsTakenOut_71 : decode cX3_digitsTakenOut 71 = .ok (.lload 14, 2) := by decide +kernel
theorem dX3_digitsTakenOut_73 : decode cX3_digitsTakenOut 73 = .ok (.iload 6, 2) := by decide +kernel
theorem dX3_digitsTakenOut_75 : decode cX3_digitsTakenOut 75 = .ok (.i2l, 1) := by decide +kernel
theorem dX3_digitsTakenOut_76 : decode cX3_digitsTakenOut 76 = .ok (.lcmp, 1) := by decide +kernel
theorem dX3_digitsTakenOut_77 : decode cX3_digitsTakenOut 77 = .ok (.ifCond .eq 7, 3) := by decide +kernel
theorem dX3_digitsTakenOut_80 : decode cX3_digitsTakenOut 80 = .ok (.ldc2_w 225, 3) := by decide +kernel
theorem dX3_digitsTakenOut_83 : decode cX3_digitsTakenOut 83 = .ok (.lreturn, 1) := by decide +kernel
theorem dX3_digitsTakenOut_84 : decode cX3_digitsTakenOut 84 = .ok (.ldc2_w 197, 3) := by decide +kernel
theorem dX3_digitsTakenOut_87 : decode cX3_digitsTakenOut 87 = .ok (.lload 7, 2) := by decide +kernel
theorem dX3_digitsTakenOut_89 : decode cX3_digitsTakenOut 89 = .ok (.lmul, 1) := by decide +kernel
theorem dX3_digitsTakenOut_90 : decode cX3_digitsTakenOut 90 = .ok (.lload 14, 2) := by decide +kernel
theorem dX3_digitsTakenOut_92 : decode cX3_digitsTakenOut 92 = .ok (.iload 6, 2) := by decide +kernel
theorem dX3_digitsTakenOut_94 : decode cX3_digitsTakenOut 94 = .ok (.i2l, 1) := by decide +kernel
theorem dX3_digitsTakenOut_95 : decode cX3_digitsTakenOut 95 = .ok (.lcmp, 1) := by decide +kernel
theorem dX3_digitsTakenOut_96 : decode cX3_digitsTakenOut 96 = .ok (.ifCond .ne 7, 3) := by decide +kernel
theorem dX3_digitsTakenOut_99 : decode cX3_digitsTakenOut 99 = .ok (.iconst 1, 1) := by decide +kernel
theorem dX3_digitsTakenOut_100 : decode cX3_digitsTakenOut 100 = .ok (.goto 4, 3) := by decide +kernel
theorem dX3_digitsTakenOut_103 : decode cX3_digitsTakenOut 103 = .ok (.iconst 0, 1) := by decide +kernel
theorem dX3_digitsTakenOut_104 : decode cX3_digitsTakenOut 104 = .ok (.invokestatic 101, 3) := by decide +kernel
theorem dX3_digitsTakenOut_107 : decode cX3_digitsTakenOut 107 = .ok (.i2l, 1) := by decide +kernel
theorem dX3_digitsTakenOut_108 : decode cX3_digitsTakenOut 108 = .ok (.ladd, 1) := by decide +kernel
theorem dX3_digitsTakenOut_109 : decode cX3_digitsTakenOut 109 = .ok (.lstore 7, 2) := by decide +kernel
theorem dX3_digitsTakenOut_111 : decode cX3_digitsTakenOut 111 = .ok (.lload 12, 2) := by decide +kernel
theorem dX3_digitsTakenOut_113 : decode cX3_digitsTakenOut 113 = .ok (.lload 14, 2) := by decide +kernel
theorem dX3_digitsTakenOut_115 : decode cX3_digitsTakenOut 115 = .ok (.aload_n 3, 1) := by decide +kernel
theorem dX3_digitsTakenOut_116 : decode cX3_digitsTakenOut 116 = .ok (.getfield 46, 3) := by decide +kernel
theorem dX3_digitsTakenOut_119 : decode cX3_digitsTakenOut 119 = .ok (.i2l, 1) := by decide +kernel
theorem dX3_digitsTakenOut_120 : decode cX3_digitsTakenOut 120 = .ok (.lmul, 1) := by decide +kernel
theorem dX3_digitsTakenOut_121 : decode cX3_digitsTakenOut 121 = .ok (.lsub, 1) := by decide +kernel
theorem dX3_digitsTakenOut_122 : decode cX3_digitsTakenOut 122 = .ok (.lstore 9, 2) := by decide +kernel
theorem dX3_digitsTakenOut_124 : decode cX3_digitsTakenOut 124 = .ok (.iinc 11 1, 3) := by decide +kernel
theorem dX3_digitsTakenOut_127 : decode cX3_digitsTakenOut 127 = .ok (.goto (-90), 3) := by decide +kernel
theorem dX3_digitsTakenOut_130 : decode cX3_digitsTakenOut 130 = .ok (.lload 7, 2) := by decide +kernel
theorem dX3_digitsTakenOut_132 : decode cX3_digitsTakenOut 132 = .ok (.lreturn, 1) := by decide +kernel
theorem dX3_readAngle_0 : decode cX3_readAngle 0 = .ok (.aload_n 1, 1) := by decide +kernel
theorem dX3_readAngle_1 : decode cX3_readAngle 1 = .ok (.lload_n 2, 1) := by decide +kernel
theorem dX3_readAngle_2 : decode cX3_readAngle 2 = .ok (.invokevirtual 186, 3) := by decide +kernel
theorem dX3_readAngle_5 : decode cX3_readAngle 5 = .ok (.ifCond .eq 13, 3) := by decide +kernel
theorem dX3_readAngle_8 : decode cX3_readAngle 8 = .ok (.aload_n 1, 1) := by decide +kernel
theorem dX3_readAngle_9 : decode cX3_readAngle 9 = .ok (.lload_n 2, 1) := by decide +kernel
theorem dX3_readAngle_10 : decode cX3_readAngle 10 = .ok (.lconst 1, 1) := by decide +kernel
theorem dX3_readAngle_11 : decode cX3_readAngle 11 = .ok (.ladd, 1) := by decide +kernel
theorem dX3_readAngle_12 : decode cX3_readAngle 12 = .ok (.invokevirtual 186, 3) := by decide +kernel
theorem dX3_readAngle_15 : decode cX3_readAngle 15 = .ok (.ifCond .ne 6, 3) := by decide +kernel
theorem dX3_readAngle_18 : decode cX3_readAngle 18 = .ok (.bipush (-12), 2) := by decide +kernel
theorem dX3_readAngle_20 : decode cX3_readAngle 20 = .ok (.ireturn, 1) := by decide +kernel
theorem dX3_readAngle_21 : decode cX3_readAngle 21 = .ok (.aload_n 0, 1) := by decide +kernel
theorem dX3_readAngle_22 : decode cX3_readAngle 22 = .ok (.aload_n 1, 1) := by decide +kernel
theorem dX3_readAngle_23 : decode cX3_readAngle 23 = .ok (.getfield 190, 3) := by decide +kernel
theorem dX3_readAngle_26 : decode cX3_readAngle 26 = .ok (.lload_n 2, 1) := by decide +kernel
theorem dX3_readAngle_27 : decode cX3_readAngle 27 = .ok (.l2i, 1) := by decide +kernel
theorem dX3_readAngle_28 : decode cX3_readAngle 28 = .ok (.laload, 1) := by decide +kernel
theorem dX3_readAngle_29 : decode cX3_readAngle 29 = .ok (.aload_n 1, 1) := by decide +kernel
theorem dX3_readAngle_30 : decode cX3_readAngle 30 = .ok (.getfield 190, 3) := by decide +kernel
theorem dX3_readAngle_33 : decode cX3_readAngle 33 = .ok (.lload_n 2, 1) := by decide +kernel
theorem dX3_readAngle_34 : decode cX3_readAngle 34 = .ok (.l2i, 1) := by decide +kernel
theorem dX3_readAngle_35 : decode cX3_readAngle 35 = .ok (.iconst 1, 1) := by decide +kernel
theorem dX3_readAngle_36 : decode cX3_readAngle 36 = .ok (.iadd, 1) := by decide +kernel
theorem dX3_readAngle_37 : decode cX3_readAngle 37 = .ok (.laload, 1) := by decide +kernel
theorem dX3_readAngle_38 : decode cX3_readAngle 38 = .ok (.invokevirtual 227, 3) := by decide +kernel
theorem dX3_readAngle_41 : decode cX3_readAngle 41 = .ok (.istore 4, 2) := by decide +kernel
theorem dX3_readAngle_43 : decode cX3_readAngle 43 = .ok (.iload 4, 2) := by decide +kernel
theorem dX3_readAngle_45 : decode cX3_readAngle 45 = .ok (.ifCond .ge 11, 3) := by decide +kernel
theorem dX3_readAngle_48 : decode cX3_readAngle 48 = .ok (.bipush (-20), 2) := by decide +kernel
theorem dX3_readAngle_50 : decode cX3_readAngle 50 = .ok (.iload 4, 2) := by decide +kernel
theorem dX3_readAngle_52 : decode cX3_readAngle 52 = .ok (.iadd, 1) := by decide +kernel
theorem dX3_readAngle_53 : decode cX3_readAngle 53 = .ok (.goto 5, 3) := by decide +kernel
theorem dX3_readAngle_56 : decode cX3_readAngle 56 = .ok (.iload 4, 2) := by decide +kernel
theorem dX3_readAngle_58 : decode cX3_readAngle 58 = .ok (.ireturn, 1) := by decide +kernel
end
section
theorem dX4_init_0 : decode cX4_init 0 = .ok (.aload_n 0, 1) := by decide +kernel
theorem dX4_init_1 : decode cX4_init 1 = .ok (.invokespecial 1, 3) := by decide +kernel
theorem dX4_init_4 : decode cX4_init 4 = .ok (.aload_n 0, 1) := by decide +kernel
theorem dX4_init_5 : decode cX4_init 5 = .ok (.bipush 16, 2) := by decide +kernel
theorem dX4_init_7 : decode cX4_init 7 = .ok (.newarray .long, 2) := by decide +kernel
theorem dX4_init_9 : decode cX4_init 9 = .ok (.putfield 7, 3) := by decide +kernel
theorem dX4_init_12 : decode cX4_init 12 = .ok (.aload_n 0, 1) := by decide +kernel
theorem dX4_init_13 : decode cX4_init 13 = .ok (.bipush 16, 2) := by decide +kernel
theorem dX4_init_15 : decode cX4_init 15 = .ok (.newarray .long, 2) := by decide +kernel
theorem dX4_init_17 : decode cX4_init 17 = .ok (.putfield 13, 3) := by decide +kernel
theorem dX4_init_20 : decode cX4_init 20 = .ok (.aload_n 0, 1) := by decide +kernel
theorem dX4_init_21 : decode cX4_init 21 = .ok (.sipush 240, 3) := by decide +kernel
theorem dX4_init_24 : decode cX4_init 24 = .ok (.newarray .int, 2) := by decide +kernel
theorem dX4_init_26 : decode cX4_init 26 = .ok (.putfield 16, 3) := by decide +kernel
theorem dX4_init_29 : decode cX4_init 29 = .ok (.aload_n 0, 1) := by decide +kernel
theorem dX4_init_30 : decode cX4_init 30 = .ok (.sipush 240, 3) := by decide +kernel
theorem dX4_init_33 : decode cX4_init 33 = .ok (.newarray .long, 2) := by decide +kernel
theorem dX4_init_35 : decode cX4_init 35 = .ok (.putfield 20, 3) := by decide +kernel
theorem dX4_init_38 : decode cX4_init 38 = .ok (.aload_n 0, 1) := by decide +kernel
theorem dX4_init_39 : decode cX4_init 39 = .ok (.sipush 240, 3) := by decide +kernel
theorem dX4_init_42 : decode cX4_init 42 = .ok (.newarray .long, 2) := by decide +kernel
theorem dX4_init_44 : decode cX4_init 44 = .ok (.putfield 23, 3) := by decide +kernel
theorem dX4_init_47 : decode cX4_init 47 = .ok (.aload_n 0, 1) := by decide +kernel
theorem dX4_init_48 : decode cX4_init 48 = .ok (.sipush 256, 3) := by decide +kernel
theorem dX4_init_51 : decode cX4_init 51 = .ok (.newarray .boolean, 2) := by decide +kernel
theorem dX4_init_53 : decode cX4_init 53 = .ok (.putfield 26, 3) := by decide +kernel
theorem dX4_init_56 : decode cX4_init 56 = .ok (.aload_n 0, 1) := by decide +kernel
theorem dX4_init_57 : decode cX4_init 57 = .ok (.iconst 4, 1) := by decide +kernel
theorem dX4_init_58 : decode cX4_init 58 = .ok (.newarray .int, 2) := by decide +kernel
theorem dX4_init_60 : decode cX4_init 60 = .ok (.putfield 30, 3) := by decide +kernel
theorem dX4_init_63 : decode cX4_init 63 = .ok (.aload_n 0, 1) := by decide +kernel
theorem dX4_init_64 : decode cX4_init 64 = .ok (.iconst 4, 1) := by decide +kernel
theorem dX4_init_65 : decode cX4_init 65 = .ok (.newarray .int, 2) := by decide +kernel
theorem dX4_init_67 : decode cX4_init 67 = .ok (.putfield 33, 3) := by decide +kernel
theorem dX4_init_70 : decode cX4_init 70 = .ok (.aload_n 0, 1) := by decide +kernel
theorem dX4_init_71 : decode cX4_init 71 = .ok (.sipush 240, 3) := by decide +kernel
theorem dX4_init_74 : decode cX4_init 74 = .ok (.newarray .long, 2) := by decide +kernel
theorem dX4_init_76 : decode cX4_init 76 = .ok (.putfield 36, 3) := by decide +kernel
theorem dX4_init_79 : decode cX4_init 79 = .ok (.iconst 0, 1) := by decide +kernel
theorem dX4_init_80 : decode cX4_init 80 = .ok (.istore_n 1, 1) := by decide +kernel
theorem dX4_init_81 : decode cX4_init 81 = .ok (.iload_n 1, 1) := by decide +kernel
theorem dX4_init_82 : decode cX4_init 82 = .ok (.iconst 4, 1) := by decide +kernel
theorem dX4_init_83 : decode cX4_init 83 = .ok (.if_icmp .ge 17, 3) := by decide +kernel
theorem dX4_init_86 : decode cX4_init 86 = .ok (.aload_n 0, 1) := by decide +kernel
theorem dX4_init_87 : decode cX4_init 87 = .ok (.getfield 30, 3) := by decide +kernel
theorem dX4_init_90 : decode cX4_init 90 = .ok (.iload_n 1, 1) := by decide +kernel
theorem dX4_init_91 : decode cX4_init 91 = .ok (.bipush (-4), 2) := by decide +kernel
theorem dX4_init_93 : decode cX4_init 93 = .ok (.iastore, 1) := by decide +kernel
theorem dX4_init_94 : decode cX4_init 94 = .ok (.iinc 1 1, 3) := by decide +kernel
theorem dX4_init_97 : decode cX4_init 97 = .ok (.goto (-16), 3) := by decide +kernel
theorem dX4_init_100 : decode cX4_init 100 = .ok (.aload_n 0, 1) := by decide +kernel
theorem dX4_init_101 : decode cX4_init 101 = .ok (.invokevirtual 39, 3) := by decide +kernel
theorem dX4_init_104 : decode cX4_init 104 = .ok (.return_, 1) := by decide +kernel
theorem dX4_in_0 : decode cX4_in 0 = .ok (.lload_n 0, 1) := by decide +kernel
theorem dX4_in_1 : decode cX4_in 1 = .ok (.lload_n 2, 1) := by decide +kernel
theorem dX4_in_2 : decode cX4_in 2 = .ok (.lcmp, 1) := by decide +kernel
theorem dX4_in_3 : decode cX4_in 3 = .ok (.ifCond .lt 14, 3) := by decide +kernel
theorem dX4_in_6 : decode cX4_in 6 = .ok (.lload_n 0, 1) := by decide +kernel
theorem dX4_in_7 : decode cX4_in 7 = .ok (.lload 4, 2) := by decide +kernel
theorem dX4_in_9 : decode cX4_in 9 = .ok (.lcmp, 1) := by decide +kernel
theorem dX4_in_10 : decode cX4_in 10 = .ok (.ifCond .gt 7, 3) := by decide +kernel
theorem dX4_in_13 : decode cX4_in 13 = .ok (.iconst 1, 1) := by decide +kernel
theorem dX4_in_14 : decode cX4_in 14 = .ok (.goto 4, 3) := by decide +kernel
theorem dX4_in_17 : decode cX4_in 17 = .ok (.iconst 0, 1) := by decide +kernel
theorem dX4_in_18 : decode cX4_in 18 = .ok (.ireturn, 1) := by decide +kernel
theorem dX4_isAngle_0 : decode cX4_isAngle 0 = .ok (.iload_n 1, 1) := by decide +kernel
theorem dX4_isAngle_1 : decode cX4_isAngle 1 = .ok (.i2l, 1) := by decide +kernel
theorem dX4_isAngle_2 : decode cX4_isAngle 2 = .ok (.lconst 0, 1) := by decide +kernel
theorem dX4_isAngle_3 : decode cX4_isAngle 3 = .ok (.aload_n 0, 1) := by decide +kernel
theorem dX4_isAngle_4 : decode cX4_isAngle 4 = .ok (.getfield 42, 3) := by decide +kernel
theorem dX4_isAngle_7 : decode cX4_isAngle 7 = .ok (.iconst 1, 1) := by decide +kernel
theorem dX4_isAngle_8 : decode cX4_isAngle 8 = .ok (.isub, 1) := by decide +kernel
theorem dX4_isAngle_9 : decode cX4_isAngle 9 = .ok (.i2l, 1) := by decide +kernel
theorem dX4_isAngle_10 : decode cX4_isAngle 10 = .ok (.invokestatic 46, 3) := by decide +kernel
theorem dX4_isAngle_13 : decode cX4_isAngle 13 = .ok (.ireturn, 1) := by decide +kernel
theorem dX4_comes_0 : decode cX4_comes 0 = .ok (.aload_n 0, 1) := by decide +kernel
theorem dX4_comes_1 : decode cX4_comes 1 = .ok (.getfield 42, 3) := by decide +kernel
theorem dX4_comes_4 : decode cX4_comes 4 = .ok (.bipush 16, 2) := by decide +kernel
theorem dX4_comes_6 : decode cX4_comes 6 = .ok (.if_icmp .ne 6, 3) := by decide +kernel
theorem dX4_comes_9 : decode cX4_comes 9 = .ok (.bipush (-3), 2) := by decide +kernel
theorem dX4_comes_11 : decode cX4_comes 11 = .ok (.ireturn, 1) := by decide +kernel
theorem dX4_comes_12 : decode cX4_comes 12 = .ok (.lload_n 1, 1) := by decide +kernel
theorem dX4_comes_13 : decode cX4_comes 13 = .ok (.lstore 5, 2) := by decide +kernel
theorem dX4_comes_15 : decode cX4_comes 15 = .ok (.lload_n 3, 1) := by decide +kernel
theorem dX4_comes_16 : decode cX4_comes 16 = .ok (.lstore 7, 2) := by decide +kernel
theorem dX4_comes_18 : decode cX4_comes 18 = .ok (.lload 7, 2) := by decide +kernel
theorem dX4_comes_20 : decode cX4_comes 20 = .ok (.lconst 0, 1) := by decide +kernel
theorem dX4_comes_21 : decode cX4_comes 21 = .ok (.lcmp, 1) := by decide +kernel
theorem dX4_comes_22 : decode cX4_comes 22 = .ok (.ifCond .eq 21, 3) := by decide +kernel
theorem dX4_comes_25 : decode cX4_comes 25 = .ok (.lload 5, 2) := by decide +kernel
theorem dX4_comes_27 : decode cX4_comes 27 = .ok (.lload 7, 2) := by decide +kernel
theorem dX4_comes_29 : decode cX4_comes 29 = .ok (.lrem, 1) := by decide +kernel
theorem dX4_comes_30 : decode cX4_comes 30 = .ok (.lstore 9, 2) := by decide +kernel
theorem dX4_comes_32 : decode cX4_comes 32 = .ok (.lload 7, 2) := by decide +kernel
theorem dX4_comes_34 : decode cX4_comes 34 = .ok (.lstore 5, 2) := by decide +kernel
theorem dX4_comes_36 : decode cX4_comes 36 = .ok (.lload 9, 2) := by decide +kernel
theorem dX4_comes_38 : decode cX4_comes 38 = .ok (.lstore 7, 2) := by decide +kernel
theorem dX4_comes_40 : decode cX4_comes 40 = .ok (.goto (-22), 3) := by decide +kernel
theorem dX4_comes_43 : decode cX4_comes 43 = .ok (.aload_n 0, 1) := by decide +kernel
theorem dX4_comes_44 : decode cX4_comes 44 = .ok (.getfield 7, 3) := by decide +kernel
theorem dX4_comes_47 : decode cX4_comes 47 = .ok (.aload_n 0, 1) := by decide +kernel
theorem dX4_comes_48 : decode cX4_comes 48 = .ok (.getfield 42, 3) := by decide +kernel
theorem dX4_comes_51 : decode cX4_comes 51 = .ok (.lload_n 1, 1) := by decide +kernel
theorem dX4_comes_52 : decode cX4_comes 52 = .ok (.lload 5, 2) := by decide +kernel
theorem dX4_comes_54 : decode cX4_comes 54 = .ok (.ldiv, 1) := by decide +kernel
theorem dX4_comes_55 : decode cX4_comes 55 = .ok (.lastore, 1) := by decide +kernel
theorem dX4_comes_56 : decode cX4_comes 56 = .ok (.aload_n 0, 1) := by decide +kernel
theorem dX4_comes_57 : decode cX4_comes 57 = .ok (.getfield 13, 3) := by decide +kernel
theorem dX4_comes_60 : decode cX4_comes 60 = .ok (.aload_n 0, 1) := by decide +kernel
theorem dX4_comes_61 : decode cX4_comes 61 = .ok (.getfield 42, 3) := by decide +kernel
theorem dX4_comes_64 : decode cX4_comes 64 = .ok (.lload_n 3, 1) := by decide +kernel
theorem dX4_comes_65 : decode cX4_comes 65 = .ok (.lload 5, 2) := by decide +kernel
theorem dX4_comes_67 : decode cX4_comes 67 = .ok (.ldiv, 1) := by decide +kernel
theorem dX4_comes_68 : decode cX4_comes 68 = .ok (.lastore, 1) := by decide +kernel
theorem dX4_comes_69 : decode cX4_comes 69 = .ok (.aload_n 0, 1) := by decide +kernel
theorem dX4_comes_70 : decode cX4_comes 70 = .ok (.dup, 1) := by decide +kernel
theorem dX4_comes_71 : decode cX4_comes 71 = .ok (.getfield 42, 3) := by decide +kernel
theorem dX4_comes_74 : decode cX4_comes 74 = .ok (.iconst 1, 1) := by decide +kernel
theorem dX4_comes_75 : decode cX4_comes 75 = .ok (.iadd, 1) := by decide +kernel
theorem dX4_comes_76 : decode cX4_comes 76 = .ok (.putfield 42, 3) := by decide +kernel
theorem dX4_comes_79 : decode cX4_comes 79 = .ok (.aload_n 0, 1) := by decide +kernel
theorem dX4_comes_80 : decode cX4_comes 80 = .ok (.getfield 42, 3) := by decide +kernel
theorem dX4_comes_83 : decode cX4_comes 83 = .ok (.iconst 1, 1) := by decide +kernel
theorem dX4_comes_84 : decode cX4_comes 84 = .ok (.isub, 1) := by decide +kernel
theorem dX4_comes_85 : decode cX4_comes 85 = .ok (.ireturn, 1) := by decide +kernel
theorem dX4_angle_0 : decode cX4_angle 0 = .ok (.lload_n 3, 1) := by decide +kernel
theorem dX4_angle_1 : decode cX4_angle 1 = .ok (.lconst 1, 1) := by decide +kernel
theorem dX4_angle_2 : decode cX4_angle 2 = .ok (.ldc2_w 50, 3) := by decide +kernel
theorem dX4_angle_5 : decode cX4_angle 5 = .ok (.invokestatic 46, 3) := by decide +kernel
theorem dX4_angle_8 : decode cX4_angle 8 = .ok (.ifCond .eq 23, 3) := by decide +kernel
theorem dX4_angle_11 : decode cX4_angle 11 = .ok (.lload_n 1, 1) := by decide +kernel
theorem dX4_angle_12 : decode cX4_angle 12 = .ok (.lconst 0, 1) := by decide +kernel
theorem dX4_angle_13 : decode cX4_angle 13 = .ok (.lload_n 3, 1) := by decide +kernel
theorem dX4_angle_14 : decode cX4_angle 14 = .ok (.lconst 1, 1) := by decide +kernel
theorem dX4_angle_15 : decode cX4_angle 15 = .ok (.lsub, 1) := by decide +kernel
theorem dX4_angle_16 : decode cX4_angle 16 = .ok (.invokestatic 46, 3) := by decide +kernel
theorem dX4_angle_19 : decode cX4_angle 19 = .ok (.ifCond .eq 12, 3) := by decide +kernel
theorem dX4_angle_22 : decode cX4_angle 22 = .ok (.aload_n 0, 1) := by decide +kernel
theorem dX4_angle_23 : decode cX4_angle 23 = .ok (.lload_n 1, 1) := by decide +kernel
theorem dX4_angle_24 : decode cX4_angle 24 = .ok (.lload_n 3, 1) := by decide +kernel
theorem dX4_angle_25 : decode cX4_angle 25 = .ok (.invokevirtual 52, 3) := by decide +kernel
theorem dX4_angle_28 : decode cX4_angle 28 = .ok (.goto 4, 3) := by decide +kernel
theorem dX4_angle_31 : decode cX4_angle 31 = .ok (.iconst (-1), 1) := by decide +kernel
theorem dX4_angle_32 : decode cX4_angle 32 = .ok (.ireturn, 1) := by decide +kernel
theorem dX4_drop_0 : decode cX4_drop 0 = .ok (.aload_n 0, 1) := by decide +kernel
theorem dX4_drop_1 : decode cX4_drop 1 = .ok (.getfield 42, 3) := by decide +kernel
theorem dX4_drop_4 : decode cX4_drop 4 = .ok (.ifCond .ne 6, 3) := by decide +kernel
theorem dX4_drop_7 : decode cX4_drop 7 = .ok (.bipush (-4), 2) := by decide +kernel
theorem dX4_drop_9 : decode cX4_drop 9 = .ok (.ireturn, 1) := by decide +kernel
theorem dX4_drop_10 : decode cX4_drop 10 = .ok (.aload_n 0, 1) := by decide +kernel
theorem dX4_drop_11 : decode cX4_drop 11 = .ok (.dup, 1) := by decide +kernel
theorem dX4_drop_12 : decode cX4_drop 12 = .ok (.getfield 42, 3) := by decide +kernel
theorem dX4_drop_15 : decode cX4_drop 15 = .ok (.iconst 1, 1) := by decide +kernel
theorem dX4_drop_16 : decode cX4_drop 16 = .ok (.isub, 1) := by decide +kernel
theorem dX4_drop_17 : decode cX4_drop 17 = .ok (.putfield 42, 3) := by decide +kernel
theorem dX4_drop_20 : decode cX4_drop 20 = .ok (.aload_n 0, 1) := by decide +kernel
theorem dX4_drop_21 : decode cX4_drop 21 = .ok (.getfield 42, 3) := by decide +kernel
theorem dX4_drop_24 : decode cX4_drop 24 = .ok (.ireturn, 1) := by decide +kernel
theorem dX4_tailOf_0 : decode cX4_tailOf 0 = .ok (.iconst 0, 1) := by decide +kernel
theorem dX4_tailOf_1 : decode cX4_tailOf 1 = .ok (.istore_n 2, 1) := by decide +kernel
theorem dX4_tailOf_2 : decode cX4_tailOf 2 = .ok (.lload_n 0, 1) := by decide +kernel
theorem dX4_tailOf_3 : decode cX4_tailOf 3 = .ok (.lstore_n 3, 1) := by decide +kernel
theorem dX4_tailOf_4 : decode cX4_tailOf 4 = .ok (.lload_n 3, 1) := by decide +kernel
theorem dX4_tailOf_5 : decode cX4_tailOf 5 = .ok (.ldc2_w 56, 3) := by decide +kernel
theorem dX4_tailOf_8 : decode cX4_tailOf 8 = .ok (.lrem, 1) := by decide +kernel
theorem dX4_tailOf_9 : decode cX4_tailOf 9 = .ok (.lconst 0, 1) := by decide +kernel
theorem dX4_tailOf_10 : decode cX4_tailOf 10 = .ok (.lcmp, 1) := by decide +kernel
theorem dX4_tailOf_11 : decode cX4_tailOf 11 = .ok (.ifCond .ne 15, 3) := by decide +kernel
theorem dX4_tailOf_14 : decode cX4_tailOf 14 = .ok (.iinc 2 1, 3) := by decide +kernel
theorem dX4_tailOf_17 : decode cX4_tailOf 17 = .ok (.lload_n 3, 1) := by decide +kernel
theorem dX4_tailOf_18 : decode cX4_tailOf 18 = .ok (.ldc2_w 56, 3) := by decide +kernel
theorem dX4_tailOf_21 : decode cX4_tailOf 21 = .ok (.ldiv, 1) := by decide +kernel
theorem dX4_tailOf_22 : decode cX4_tailOf 22 = .ok (.lstore_n 3, 1) := by decide +kernel
theorem dX4_tailOf_23 : decode cX4_tailOf 23 = .ok (.goto (-19), 3) := by decide +kernel
theorem dX4_tailOf_26 : decode cX4_tailOf 26 = .ok (.iload_n 2, 1) := by decide +kernel
theorem dX4_tailOf_27 : decode cX4_tailOf 27 = .ok (.ireturn, 1) := by decide +kernel
theorem dX4_lengthOf_0 : decode cX4_lengthOf 0 = .ok (.lload_n 0, 1) := by decide +kernel
theorem dX4_lengthOf_1 : decode cX4_lengthOf 1 = .ok (.lstore_n 2, 1) := by decide +kernel
theorem dX4_lengthOf_2 : decode cX4_lengthOf 2 = .ok (.lload_n 2, 1) := by decide +kernel
theorem dX4_lengthOf_3 : decode cX4_lengthOf 3 = .ok (.ldc2_w 56, 3) := by decide +kernel
theorem dX4_lengthOf_6 : decode cX4_lengthOf 6 = .ok (.lrem, 1) := by decide +kernel
theorem dX4_lengthOf_7 : decode cX4_lengthOf 7 = .ok (.lconst 0, 1) := by decide +kernel
theorem dX4_lengthOf_8 : decode cX4_lengthOf 8 = .ok (.lcmp, 1) := by decide +kernel
theorem dX4_lengthOf_9 : decode cX4_lengthOf 9 = .ok (.ifCond .ne 12, 3) := by decide +kernel
theorem dX4_lengthOf_12 : decode cX4_lengthOf 12 = .ok (.lload_n 2, 1) := by decide +kernel
theorem dX4_lengthOf_13 : decode cX4_lengthOf 13 = .ok (.ldc2_w 56, 3) := by decide +kernel
theorem dX4_lengthOf_16 : decode cX4_lengthOf 16 = .ok (.ldiv, 1) := by decide +kernel
theorem dX4_lengthOf_17 : decode cX4_lengthOf 17 = .ok (.lstore_n 2, 1) := by decide +kernel
theorem dX4_lengthOf_18 : decode cX4_lengthOf 18 = .ok (.goto (-16), 3) := by decide +kernel
theorem dX4_lengthOf_21 : decode cX4_lengthOf 21 = .ok (.iconst 1, 1) := by decide +kernel
theorem dX4_lengthOf_22 : decode cX4_lengthOf 22 = .ok (.istore 4, 2) := by decide +kernel
theorem dX4_lengthOf_24 : decode cX4_lengthOf 24 = .ok (.ldc2_w 56, 3) := by decide +kernel
theorem dX4_lengthOf_27 : decode cX4_lengthOf 27 = .ok (.lload_n 2, 1) := by decide +kernel
theorem dX4_lengthOf_28 : decode cX4_lengthOf 28 = .ok (.lrem, 1) := by decide +kernel
theorem dX4_lengthOf_29 : decode cX4_lengthOf 29 = .ok (.lstore 5, 2) := by decide +kernel
theorem dX4_lengthOf_31 : decode cX4_lengthOf 31 = .ok (.lload 5, 2) := by decide +kernel
theorem dX4_lengthOf_33 : decode cX4_lengthOf 33 = .ok (.lconst 1, 1) := by decide +kernel
theorem dX4_lengthOf_34 : decode cX4_lengthOf 34 = .ok (.lload_n 2, 1) := by decide +kernel
theorem dX4_lengthOf_35 : decode cX4_lengthOf 35 = .ok (.lrem, 1) := by decide +kernel
theorem dX4_lengthOf_36 : decode cX4_lengthOf 36 = .ok (.lcmp, 1) := by decide +kernel
theorem dX4_lengthOf_37 : decode cX4_lengthOf 37 = .ok (.ifCond .eq 19, 3) := by decide +kernel
theorem dX4_lengthOf_40 : decode cX4_lengthOf 40 = .ok (.ldc2_w 56, 3) := by decide +kernel
theorem dX4_lengthOf_43 : decode cX4_lengthOf 43 = .ok (.lload 5, 2) := by decide +kernel
theorem dX4_lengthOf_45 : decode cX4_lengthOf 45 = .ok (.lmul, 1) := by decide +kernel
theorem dX4_lengthOf_46 : decode cX4_lengthOf 46 = .ok (.lload_n 2, 1) := by decide +kernel
theorem dX4_lengthOf_47 : decode cX4_lengthOf 47 = .ok (.lrem, 1) := by decide +kernel
theorem dX4_lengthOf_48 : decode cX4_lengthOf 48 = .ok (.lstore 5, 2) := by decide +kernel
theorem dX4_lengthOf_50 : decode cX4_lengthOf 50 = .ok (.iinc 4 1, 3) := by decide +kernel
theorem dX4_lengthOf_53 : decode cX4_lengthOf 53 = .ok (.goto (-22), 3) := by decide +kernel
theorem dX4_lengthOf_56 : decode cX4_lengthOf 56 = .ok (.iload 4, 2) := by decide +kernel
theorem dX4_lengthOf_58 : decode cX4_lengthOf 58 = .ok (.ireturn, 1) := by decide +kernel
theorem dX4_told_0 : decode cX4_told 0 = .ok (.aload_n 0, 1) := by decide +kernel
theorem dX4_told_1 : decode cX4_told 1 = .ok (.iload_n 1, 1) := by decide +kernel
theorem dX4_told_2 : decode cX4_told 2 = .ok (.invokevirtual 58, 3) := by decide +kernel
theorem dX4_told_5 : decode cX4_told 5 = .ok (.ifCond .eq 15, 3) := by decide +kernel
theorem dX4_told_8 : decode cX4_told 8 = .ok (.iload_n 2, 1) := by decide +kernel
theorem dX4_told_9 : decode cX4_told 9 = .ok (.i2l, 1) := by decide +kernel
theorem dX4_told_10 : decode cX4_told 10 = .ok (.lconst 0, 1) := by decide +kernel
theorem dX4_told_11 : decode cX4_told 11 = .ok (.ldc2_w 62, 3) := by decide +kernel
theorem dX4_told_14 : decode cX4_told 14 = .ok (.invokestatic 46, 3) := by decide +kernel
theorem dX4_told_17 : decode cX4_told 17 = .ok (.ifCond .ne 5, 3) := by decide +kernel
theorem dX4_told_20 : decode cX4_told 20 = .ok (.iconst (-1), 1) := by decide +kernel
theorem dX4_told_21 : decode cX4_told 21 = .ok (.ireturn, 1) := by decide +kernel
theorem dX4_told_22 : decode cX4_told 22 = .ok (.iload_n 2, 1) := by decide +kernel
theorem dX4_told_23 : decode cX4_told 23 = .ok (.ifCond .ne 13, 3) := by decide +kernel
theorem dX4_told_26 : decode cX4_told 26 = .ok (.aload_n 0, 1) := by decide +kernel
theorem dX4_told_27 : decode cX4_told 27 = .ok (.getfield 7, 3) := by decide +kernel
theorem dX4_told_30 : decode cX4_told 30 = .ok (.iload_n 1, 1) := by decide +kernel
theorem dX4_told_31 : decode cX4_told 31 = .ok (.laload, 1) := by decide +kernel
theorem dX4_told_32 : decode cX4_told 32 = .ok (.l2i, 1) := by decide +kernel
theorem dX4_told_33 : decode cX4_told 33 = .ok (.goto 44, 3) := by decide +kernel
theorem dX4_told_36 : decode cX4_told 36 = .ok (.iload_n 2, 1) := by decide +kernel
theorem dX4_told_37 : decode cX4_told 37 = .ok (.iconst 1, 1) := by decide +kernel
theorem dX4_told_38 : decode cX4_told 38 = .ok (.if_icmp .ne 13, 3) := by decide +kernel
theorem dX4_told_41 : decode cX4_told 41 = .ok (.aload_n 0, 1) := by decide +kernel
theorem dX4_told_42 : decode cX4_told 42 = .ok (.getfield 13, 3) := by decide +kernel
theorem dX4_told_45 : decode cX4_told 45 = .ok (.iload_n 1, 1) := by decide +kernel
theorem dX4_told_46 : decode cX4_told 46 = .ok (.laload, 1) := by decide +kernel
theorem dX4_told_47 : decode cX4_told 47 = .ok (.l2i, 1) := by decide +kernel
theorem dX4_told_48 : decode cX4_told 48 = .ok (.goto 29, 3) := by decide +kernel
theorem dX4_told_51 : decode cX4_told 51 = .ok (.iload_n 2, 1) := by decide +kernel
theorem dX4_told_52 : decode cX4_told 52 = .ok (.iconst 2, 1) := by decide +kernel
theorem dX4_told_53 : decode cX4_told 53 = .ok (.if_icmp .ne 15, 3) := by decide +kernel
theorem dX4_told_56 : decode cX4_told 56 = .ok (.aload_n 0, 1) := by decide +kernel
theorem dX4_told_57 : decode cX4_told 57 = .ok (.getfield 13, 3) := by decide +kernel
theorem dX4_told_60 : decode cX4_told 60 = .ok (.iload_n 1, 1) := by decide +kernel
theorem dX4_told_61 : decode cX4_told 61 = .ok (.laload, 1) := by decide +kernel
theorem dX4_told_62 : decode cX4_told 62 = .ok (.invokestatic 64, 3) := by decide +kernel
theorem dX4_told_65 : decode cX4_told 65 = .ok (.goto 12, 3) := by decide +kernel
theorem dX4_told_68 : decode cX4_told 68 = .ok (.aload_n 0, 1) := by decide +kernel
theorem dX4_told_69 : decode cX4_told 69 = .ok (.getfield 13, 3) := by decide +kernel
theorem dX4_told_72 : decode cX4_told 72 = .ok (.iload_n 1, 1) := by decide +kernel
theorem dX4_told_73 : decode cX4_told 73 = .ok (.laload, 1) := by decide +kernel
theorem dX4_told_74 : decode cX4_told 74 = .ok (.invokestatic 68, 3) := by decide +kernel
theorem dX4_told_77 : decode cX4_told 77 = .ok (.ireturn, 1) := by decide +kernel
theorem dX4_after_0 : decode cX4_after 0 = .ok (.lload_n 0, 1) := by decide +kernel
theorem dX4_after_1 : decode cX4_after 1 = .ok (.lstore 5, 2) := by decide +kernel
theorem dX4_after_3 : decode cX4_after 3 = .ok (.iconst 0, 1) := by decide +kernel
theorem dX4_after_4 : decode cX4_after 4 = .ok (.istore 7, 2) := by decide +kernel
theorem dX4_after_6 : decode cX4_after 6 = .ok (.iload 7, 2) := by decide +kernel
theorem dX4_after_8 : decode cX4_after 8 = .ok (.iload 4, 2) := by decide +kernel
theorem dX4_after_10 : decode cX4_after 10 = .ok (.if_icmp .ge 19, 3) := by decide +kernel
theorem dX4_after_13 : decode cX4_after 13 = .ok (.ldc2_w 56, 3) := by decide +kernel
theorem dX4_after_16 : decode cX4_after 16 = .ok (.lload 5, 2) := by decide +kernel
theorem dX4_after_18 : decode cX4_after 18 = .ok (.lmul, 1) := by decide +kernel
theorem dX4_after_19 : decode cX4_after 19 = .ok (.lload_n 2, 1) := by decide +kernel
theorem dX4_after_20 : decode cX4_after 20 = .ok (.lrem, 1) := by decide +kernel
theorem dX4_after_21 : decode cX4_after 21 = .ok (.lstore 5, 2) := by decide +kernel
theorem dX4_after_23 : decode cX4_after 23 = .ok (.iinc 7 1, 3) := by decide +kernel
theorem dX4_after_26 : decode cX4_after 26 = .ok (.goto (-20), 3) := by decide +kernel
theorem dX4_after_29 : decode cX4_after 29 = .ok (.lload 5, 2) := by decide +kernel
theorem dX4_after_31 : decode cX4_after 31 = .ok (.lreturn, 1) := by decide +kernel
theorem dX4_divisor_0 : decode cX4_divisor 0 = .ok (.lload_n 0, 1) := by decide +kernel
theorem dX4_divisor_1 : decode cX4_divisor 1 = .ok (.lstore 4, 2) := by decide +kernel
theorem dX4_divisor_3 : decode cX4_divisor 3 = .ok (.lload_n 2, 1) := by decide +kernel
theorem dX4_divisor_4 : decode cX4_divisor 4 = .ok (.lstore 6, 2) := by decide +kernel
theorem dX4_divisor_6 : decode cX4_divisor 6 = .ok (.lload 6, 2) := by decide +kernel
theorem dX4_divisor_8 : decode cX4_divisor 8 = .ok (.lconst 0, 1) := by decide +kernel
theorem dX4_divisor_9 : decode cX4_divisor 9 = .ok (.lcmp, 1) := by decide +kernel
theorem dX4_divisor_10 : decode cX4_divisor 10 = .ok (.ifCond .eq 21, 3) := by decide +kernel
theorem dX4_divisor_13 : decode cX4_divisor 13 = .ok (.lload 4, 2) := by decide +kernel
theorem dX4_divisor_15 : decode cX4_divisor 15 = .ok (.lload 6, 2) := by decide +kernel
theorem dX4_divisor_17 : decode cX4_divisor 17 = .ok (.lrem, 1) := by decide +kernel
theorem dX4_divisor_18 : decode cX4_divisor 18 = .ok (.lstore 8, 2) := by decide +kernel
theorem dX4_divisor_20 : decode cX4_divisor 20 = .ok (.lload 6, 2) := by decide +kernel
theorem dX4_divisor_22 : decode cX4_divisor 22 = .ok (.lstore 4, 2) := by decide +kernel
theorem dX4_divisor_24 : decode cX4_divisor 24 = .ok (.lload 8, 2) := by decide +kernel
theorem dX4_divisor_26 : decode cX4_divisor 26 = .ok (.lstore 6, 2) := by decide +kernel
theorem dX4_divisor_28 : decode cX4_divisor 28 = .ok (.goto (-22), 3) := by decide +kernel
theorem dX4_divisor_31 : decode cX4_divisor 31 = .ok (.lload 4, 2) := by decide +kernel
theorem dX4_divisor_33 : decode cX4_divisor 33 = .ok (.lreturn, 1) := by decide +kernel
theorem dX4_doubled_0 : decode cX4_doubled 0 = .ok (.aload_n 0, 1) := by decide +kernel
theorem dX4_doubled_1 : decode cX4_doubled 1 = .ok (.iload_n 1, 1) := by decide +kernel
theorem dX4_doubled_2 : decode cX4_doubled 2 = .ok (.invokevirtual 58, 3) := by decide +kernel
theorem dX4_doubled_5 : decode cX4_doubled 5 = .ok (.ifCond .eq 25, 3) := by decide +kernel
theorem dX4_doubled_8 : decode cX4_doubled 8 = .ok (.iload_n 2, 1) := by decide +kernel
theorem dX4_doubled_9 : decode cX4_doubled 9 = .ok (.i2l, 1) := by decide +kernel
theorem dX4_doubled_10 : decode cX4_doubled 10 = .ok (.lconst 0, 1) := by decide +kernel
theorem dX4_doubled_11 : decode cX4_doubled 11 = .ok (.ldc2_w 71, 3) := by decide +kernel
theorem dX4_doubled_14 : decode cX4_doubled 14 = .ok (.invokestatic 46, 3) := by decide +kernel
theorem dX4_doubled_17 : decode cX4_doubled 17 = .ok (.ifCond .eq 13, 3) := by decide +kernel
theorem dX4_doubled_20 : decode cX4_doubled 20 = .ok (.iload_n 3, 1) := by decide +kernel
theorem dX4_doubled_21 : decode cX4_doubled 21 = .ok (.i2l, 1) := by decide +kernel
theorem dX4_doubled_22 : decode cX4_doubled 22 = .ok (.lconst 0, 1) := by decide +kernel
theorem dX4_doubled_23 : decode cX4_doubled 23 = .ok (.lconst 1, 1) := by decide +kernel
theorem dX4_doubled_24 : decode cX4_doubled 24 = .ok (.invokestatic 46, 3) := by decide +kernel
theorem dX4_doubled_27 : decode cX4_doubled 27 = .ok (.ifCond .ne 5, 3) := by decide +kernel
theorem dX4_doubled_30 : decode cX4_doubled 30 = .ok (.iconst (-1), 1) := by decide +kernel
theorem dX4_doubled_31 : decode cX4_doubled 31 = .ok (.ireturn, 1) := by decide +kernel
theorem dX4_doubled_32 : decode cX4_doubled 32 = .ok (.aload_n 0, 1) := by decide +kernel
theorem dX4_doubled_33 : decode cX4_doubled 33 = .ok (.getfield 7, 3) := by decide +kernel
theorem dX4_doubled_36 : decode cX4_doubled 36 = .ok (.iload_n 1, 1) := by decide +kernel
theorem dX4_doubled_37 : decode cX4_doubled 37 = .ok (.laload, 1) := by decide +kernel
theorem dX4_doubled_38 : decode cX4_doubled 38 = .ok (.aload_n 0, 1) := by decide +kernel
theorem dX4_doubled_39 : decode cX4_doubled 39 = .ok (.getfield 13, 3) := by decide +kernel
theorem dX4_doubled_42 : decode cX4_doubled 42 = .ok (.iload_n 1, 1) := by decide +kernel
theorem dX4_doubled_43 : decode cX4_doubled 43 = .ok (.laload, 1) := by decide +kernel
theorem dX4_doubled_44 : decode cX4_doubled 44 = .ok (.iload_n 2, 1) := by decide +kernel
theorem dX4_doubled_45 : decode cX4_doubled 45 = .ok (.invokestatic 73, 3) := by decide +kernel
theorem dX4_doubled_48 : decode cX4_doubled 48 = .ok (.lstore 4, 2) := by decide +kernel
theorem dX4_doubled_50 : decode cX4_doubled 50 = .ok (.lload 4, 2) := by decide +kernel
theorem dX4_doubled_52 : decode cX4_doubled 52 = .ok (.aload_n 0, 1) := by decide +kernel
theorem dX4_doubled_53 : decode cX4_doubled 53 = .ok (.getfield 13, 3) := by decide +kernel
theorem dX4_doubled_56 : decode cX4_doubled 56 = .ok (.iload_n 1, 1) := by decide +kernel
theorem dX4_doubled_57 : decode cX4_doubled 57 = .ok (.laload, 1) := by decide +kernel
theorem dX4_doubled_58 : decode cX4_doubled 58 = .ok (.invokestatic 77, 3) := by decide +kernel
theorem dX4_doubled_61 : decode cX4_doubled 61 = .ok (.lstore 6, 2) := by decide +kernel
theorem dX4_doubled_63 : decode cX4_doubled 63 = .ok (.iload_n 3, 1) := by decide +kernel
theorem dX4_doubled_64 : decode cX4_doubled 64 = .ok (.ifCond .ne 11, 3) := by decide +kernel
theorem dX4_doubled_67 : decode cX4_doubled 67 = .ok (.lload 4, 2) := by decide +kernel
theorem dX4_doubled_69 : decode cX4_doubled 69 = .ok (.lload 6, 2) := by decide +kernel
theorem dX4_doubled_71 : decode cX4_doubled 71 = .ok (.ldiv, 1) := by decide +kernel
theorem dX4_doubled_72 : decode cX4_doubled 72 = .ok (.goto 12, 3) := by decide +kernel
theorem dX4_doubled_75 : decode cX4_doubled 75 = .ok (.aload_n 0, 1) := by decide +kernel
theorem dX4_doubled_76 : decode cX4_doubled 76 = .ok (.getfield 13, 3) := by decide +kernel
theorem dX4_doubled_79 : decode cX4_doubled 79 = .ok (.iload_n 1, 1) := by decide +kernel
theorem dX4_doubled_80 : decode cX4_doubled 80 = .ok (.laload, 1) := by decide +kernel
theorem dX4_doubled_81 : decode cX4_doubled 81 = .ok (.lload 6, 2) := by decide +kernel
theorem dX4_doubled_83 : decode cX4_doubled 83 = .ok (.ldiv, 1) := by decide +kernel
theorem dX4_doubled_84 : decode cX4_doubled 84 = .ok (.l2i, 1) := by decide +kernel
theorem dX4_doubled_85 : decode cX4_doubled 85 = .ok (.ireturn, 1) := by decide +kernel
theorem dX4_moebius_0 : decode cX4_moebius 0 = .ok (.iconst 1, 1) := by decide +kernel
theorem dX4_moebius_1 : decode cX4_moebius 1 = .ok (.istore_n 1, 1) := by decide +kernel
theorem dX4_moebius_2 : decode cX4_moebius 2 = .ok (.iload_n 0, 1) := by decide +kernel
theorem dX4_moebius_3 : decode cX4_moebius 3 = .ok (.istore_n 2, 1) := by decide +kernel
theorem dX4_moebius_4 : decode cX4_moebius 4 = .ok (.iconst 2, 1) := by decide +kernel
theorem dX4_moebius_5 : decode cX4_moebius 5 = .ok (.istore_n 3, 1) := by decide +kernel
theorem dX4_moebius_6 : decode cX4_moebius 6 = .ok (.iload_n 3, 1) := by decide +kernel
theorem dX4_moebius_7 : decode cX4_moebius 7 = .ok (.iload_n 2, 1) := by decide +kernel
theorem dX4_moebius_8 : decode cX4_moebius 8 = .ok (.if_icmp .gt 32, 3) := by decide +kernel
theorem dX4_moebius_11 : decode cX4_moebius 11 = .ok (.iload_n 2, 1) := by decide +kernel
theorem dX4_moebius_12 : decode cX4_moebius 12 = .ok (.iload_n 3, 1) := by decide +kernel
theorem dX4_moebius_13 : decode cX4_moebius 13 = .ok (.irem, 1) := by decide +kernel
theorem dX4_moebius_14 : decode cX4_moebius 14 = .ok (.ifCond .ne 20, 3) := by decide +kernel
theorem dX4_moebius_17 : decode cX4_moebius 17 = .ok (.iload_n 2, 1) := by decide +kernel
theorem dX4_moebius_18 : decode cX4_moebius 18 = .ok (.iload_n 3, 1) := by decide +kernel
theorem dX4_moebius_19 : decode cX4_moebius 19 = .ok (.idiv, 1) := by decide +kernel
theorem dX4_moebius_20 : decode cX4_moebius 20 = .ok (.istore_n 2, 1) := by decide +kernel
theorem dX4_moebius_21 : decode cX4_moebius 21 = .ok (.iload_n 2, 1) := by decide +kernel
theorem dX4_moebius_22 : decode cX4_moebius 22 = .ok (.iload_n 3, 1) := by decide +kernel
theorem dX4_moebius_23 : decode cX4_moebius 23 = .ok (.irem, 1) := by decide +kernel
theorem dX4_moebius_24 : decode cX4_moebius 24 = .ok (.ifCond .ne 7, 3) := by decide +kernel
theorem dX4_moebius_27 : decode cX4_moebius 27 = .ok (.iconst 0, 1) := by decide +kernel
theorem dX4_moebius_28 : decode cX4_moebius 28 = .ok (.goto 5, 3) := by decide +kernel
theorem dX4_moebius_31 : decode cX4_moebius 31 = .ok (.iload_n 1, 1) := by decide +kernel
theorem dX4_moebius_32 : decode cX4_moebius 32 = .ok (.ineg, 1) := by decide +kernel
theorem dX4_moebius_33 : decode cX4_moebius 33 = .ok (.istore_n 1, 1) := by decide +kernel
theorem dX4_moebius_34 : decode cX4_moebius 34 = .ok (.iinc 3 1, 3) := by decide +kernel
theorem dX4_moebius_37 : decode cX4_moebius 37 = .ok (.goto (-31), 3) := by decide +kernel
theorem dX4_moebius_40 : decode cX4_moebius 40 = .ok (.iload_n 1, 1) := by decide +kernel
theorem dX4_moebius_41 : decode cX4_moebius 41 = .ok (.ireturn, 1) := by decide +kernel
theorem dX4_all_0 : decode cX4_all 0 = .ok (.iload_n 1, 1) := by decide +kernel
theorem dX4_all_1 : decode cX4_all 1 = .ok (.i2l, 1) := by decide +kernel
theorem dX4_all_2 : decode cX4_all 2 = .ok (.lconst 1, 1) := by decide +kernel
theorem dX4_all_3 : decode cX4_all 3 = .ok (.ldc2_w 81, 3) := by decide +kernel
theorem dX4_all_6 : decode cX4_all 6 = .ok (.invokestatic 46, 3) := by decide +kernel
theorem dX4_all_9 : decode cX4_all 9 = .ok (.ifCond .ne 5, 3) := by decide +kernel
theorem dX4_all_12 : decode cX4_all 12 = .ok (.iconst (-1), 1) := by decide +kernel
theorem dX4_all_13 : decode cX4_all 13 = .ok (.ireturn, 1) := by decide +kernel
theorem dX4_all_14 : decode cX4_all 14 = .ok (.iconst 0, 1) := by decide +kernel
theorem dX4_all_15 : decode cX4_all 15 = .ok (.istore_n 2, 1) := by decide +kernel
theorem dX4_all_16 : decode cX4_all 16 = .ok (.iconst 1, 1) := by decide +kernel
theorem dX4_all_17 : decode cX4_all 17 = .ok (.istore_n 3, 1) := by decide +kernel
theorem dX4_all_18 : decode cX4_all 18 = .ok (.iload_n 3, 1) := by decide +kernel
theorem dX4_all_19 : decode cX4_all 19 = .ok (.iload_n 1, 1) := by decide +kernel
theorem dX4_all_20 : decode cX4_all 20 = .ok (.if_icmp .gt 34, 3) := by decide +kernel
theorem dX4_all_23 : decode cX4_all 23 = .ok (.iload_n 2, 1) := by decide +kernel
theorem dX4_all_24 : decode cX4_all 24 = .ok (.iload_n 1, 1) := by decide +kernel
theorem dX4_all_25 : decode cX4_all 25 = .ok (.iload_n 3, 1) := by decide +kernel
theorem dX4_all_26 : decode cX4_all 26 = .ok (.irem, 1) := by decide +kernel
theorem dX4_all_27 : decode cX4_all 27 = .ok (.ifCond .ne 18, 3) := by decide +kernel
theorem dX4_all_30 : decode cX4_all 30 = .ok (.iload_n 1, 1) := by decide +kernel
theorem dX4_all_31 : decode cX4_all 31 = .ok (.iload_n 3, 1) := by decide +kernel
theorem dX4_all_32 : decode cX4_all 32 = .ok (.idiv, 1) := by decide +kernel
theorem dX4_all_33 : decode cX4_all 33 = .ok (.invokestatic 83, 3) := by decide +kernel
theorem dX4_all_36 : decode cX4_all 36 = .ok (.iconst 1, 1) := by decide +kernel
theorem dX4_all_37 : decode cX4_all 37 = .ok (.iload_n 3, 1) := by decide +kernel
theorem dX4_all_38 : decode cX4_all 38 = .ok (.ishl, 1) := by decide +kernel
theorem dX4_all_39 : decode cX4_all 39 = .ok (.iconst 1, 1) := by decide +kernel
theorem dX4_all_40 : decode cX4_all 40 = .ok (.isub, 1) := by decide +kernel
theorem dX4_all_41 : decode cX4_all 41 = .ok (.imul, 1) := by decide +kernel
theorem dX4_all_42 : decode cX4_all 42 = .ok (.goto 4, 3) := by decide +kernel
theorem dX4_all_45 : decode cX4_all 45 = .ok (.iconst 0, 1) := by decide +kernel
theorem dX4_all_46 : decode cX4_all 46 = .ok (.iadd, 1) := by decide +kernel
theorem dX4_all_47 : decode cX4_all 47 = .ok (.istore_n 2, 1) := by decide +kernel
theorem dX4_all_48 : decode cX4_all 48 = .ok (.iinc 3 1, 3) := by decide +kernel
theorem dX4_all_51 : decode cX4_all 51 = .ok (.goto (-33), 3) := by decide +kernel
theorem dX4_all_54 : decode cX4_all 54 = .ok (.iload_n 2, 1) := by decide +kernel
theorem dX4_all_55 : decode cX4_all 55 = .ok (.ireturn, 1) := by decide +kernel
theorem dX4_side_0 : decode cX4_side 0 = .ok (.ldc2_w 56, 3) := by decide +kernel
theorem dX4_side_3 : decode cX4_side 3 = .ok (.lload_n 0, 1) := by decide +kernel
theorem dX4_side_4 : decode cX4_side 4 = .ok (.lmul, 1) := by decide +kernel
theorem dX4_side_5 : decode cX4_side 5 = .ok (.lload 6, 2) := by decide +kernel
theorem dX4_side_7 : decode cX4_side 7 = .ok (.lmul, 1) := by decide +kernel
theorem dX4_side_8 : decode cX4_side 8 = .ok (.lstore 8, 2) := by decide +kernel
theorem dX4_side_10 : decode cX4_side 10 = .ok (.lload 4, 2) := by decide +kernel
theorem dX4_side_12 : decode cX4_side 12 = .ok (.lload_n 2, 1) := by decide +kernel
theorem dX4_side_13 : decode cX4_side 13 = .ok (.lmul, 1) := by decide +kernel
theorem dX4_side_14 : decode cX4_side 14 = .ok (.lstore 10, 2) := by decide +kernel
theorem dX4_side_16 : decode cX4_side 16 = .ok (.lload 4, 2) := by decide +kernel
theorem dX4_side_18 : decode cX4_side 18 = .ok (.lload 6, 2) := by decide +kernel
theorem dX4_side_20 : decode cX4_side 20 = .ok (.ladd, 1) := by decide +kernel
theorem dX4_side_21 : decode cX4_side 21 = .ok (.lload_n 2, 1) := by decide +kernel
theorem dX4_side_22 : decode cX4_side 22 = .ok (.lmul, 1) := by decide +kernel
theorem dX4_side_23 : decode cX4_side 23 = .ok (.lstore 12, 2) := by decide +kernel
theorem dX4_side_25 : decode cX4_side 25 = .ok (.lload 8, 2) := by decide +kernel
theorem dX4_side_27 : decode cX4_side 27 = .ok (.lload 10, 2) := by decide +kernel
theorem dX4_side_29 : decode cX4_side 29 = .ok (.lcmp, 1) := by decide +kernel
theorem dX4_side_30 : decode cX4_side 30 = .ok (.ifCond .eq 11, 3) := by decide +kernel
theorem dX4_side_33 : decode cX4_side 33 = .ok (.lload 8, 2) := by decide +kernel
theorem dX4_side_35 : decode cX4_side 35 = .ok (.lload 12, 2) := by decide +kernel
theorem dX4_side_37 : decode cX4_side 37 = .ok (.lcmp, 1) := by decide +kernel
theorem dX4_side_38 : decode cX4_side 38 = .ok (.ifCond .ne 7, 3) := by decide +kernel
theorem dX4_side_41 : decode cX4_side 41 = .ok (.iconst 2, 1) := by decide +kernel
theorem dX4_side_42 : decode cX4_side 42 = .ok (.goto 24, 3) := by decide +kernel
theorem dX4_side_45 : decode cX4_side 45 = .ok (.lload 8, 2) := by decide +kernel
theorem dX4_side_47 : decode cX4_side 47 = .ok (.lload 10, 2) := by decide +kernel
theorem dX4_side_49 : decode cX4_side 49 = .ok (.lcmp, 1) := by decide +kernel
theorem dX4_side_50 : decode cX4_side 50 = .ok (.ifCond .le 15, 3) := by decide +kernel
theorem dX4_side_53 : decode cX4_side 53 = .ok (.lload 8, 2) := by decide +kernel
theorem dX4_side_55 : decode cX4_side 55 = .ok (.lload 12, 2) := by decide +kernel
theorem dX4_side_57 : decode cX4_side 57 = .ok (.lcmp, 1) := by decide +kernel
theorem dX4_side_58 : decode cX4_side 58 = .ok (.ifCond .ge 7, 3) := by decide +kernel
theorem dX4_side_61 : decode cX4_side 61 = .ok (.iconst 1, 1) := by decide +kernel
theorem dX4_side_62 : decode cX4_side 62 = .ok (.goto 4, 3) := by decide +kernel
theorem dX4_side_65 : decode cX4_side 65 = .ok (.iconst 0, 1) := by decide +kernel
theorem dX4_side_66 : decode cX4_side 66 = .ok (.ireturn, 1) := by decide +kernel
theorem dX4_letterOf_0 : decode cX4_letterOf 0 = .ok (.aload_n 0, 1) := by decide +kernel
theorem dX4_letterOf_1 : decode cX4_letterOf 1 = .ok (.getfield 7, 3) := by decide +kernel
theorem dX4_letterOf_4 : decode cX4_letterOf 4 = .ok (.iload_n 1, 1) := by decide +kernel
theorem dX4_letterOf_5 : decode cX4_letterOf 5 = .ok (.laload, 1) := by decide +kernel
theorem dX4_letterOf_6 : decode cX4_letterOf 6 = .ok (.aload_n 0, 1) := by decide +kernel
theorem dX4_letterOf_7 : decode cX4_letterOf 7 = .ok (.getfield 13, 3) := by decide +kernel
theorem dX4_letterOf_10 : decode cX4_letterOf 10 = .ok (.iload_n 1, 1) := by decide +kernel
theorem dX4_letterOf_11 : decode cX4_letterOf 11 = .ok (.laload, 1) := by decide +kernel
theorem dX4_letterOf_12 : decode cX4_letterOf 12 = .ok (.iload_n 3, 1) := by decide +kernel
theorem dX4_letterOf_13 : decode cX4_letterOf 13 = .ok (.invokestatic 73, 3) := by decide +kernel
theorem dX4_letterOf_16 : decode cX4_letterOf 16 = .ok (.aload_n 0, 1) := by decide +kernel
theorem dX4_letterOf_17 : decode cX4_letterOf 17 = .ok (.getfield 13, 3) := by decide +kernel
theorem dX4_letterOf_20 : decode cX4_letterOf 20 = .ok (.iload_n 1, 1) := by decide +kernel
theorem dX4_letterOf_21 : decode cX4_letterOf 21 = .ok (.laload, 1) := by decide +kernel
theorem dX4_letterOf_22 : decode cX4_letterOf 22 = .ok (.aload_n 0, 1) := by decide +kernel
theorem dX4_letterOf_23 : decode cX4_letterOf 23 = .ok (.getfield 7, 3) := by decide +kernel
theorem dX4_letterOf_26 : decode cX4_letterOf 26 = .ok (.iload_n 2, 1) := by decide +kernel
theorem dX4_letterOf_27 : decode cX4_letterOf 27 = .ok (.laload, 1) := by decide +kernel
theorem dX4_letterOf_28 : decode cX4_letterOf 28 = .ok (.aload_n 0, 1) := by decide +kernel
theorem dX4_letterOf_29 : decode cX4_letterOf 29 = .ok (.getfield 13, 3) := by decide +kernel
theorem dX4_letterOf_32 : decode cX4_letterOf 32 = .ok (.iload_n 2, 1) := by decide +kernel
theorem dX4_letterOf_33 : decode cX4_letterOf 33 = .ok (.laload, 1) := by decide +kernel
theorem dX4_letterOf_34 : decode cX4_letterOf 34 = .ok (.invokestatic 87, 3) := by decide +kernel
theorem dX4_letterOf_37 : decode cX4_letterOf 37 = .ok (.ireturn, 1) := by decide +kernel
theorem dX4_letter_0 : decode cX4_letter 0 = .ok (.aload_n 0, 1) := by decide +kernel
theorem dX4_letter_1 : decode cX4_letter 1 = .ok (.iload_n 1, 1) := by decide +kernel
theorem dX4_letter_2 : decode cX4_letter 2 = .ok (.invokevirtual 58, 3) := by decide +kernel
theorem dX4_letter_5 : decode cX4_letter 5 = .ok (.ifCond .eq 33, 3) := by decide +kernel
theorem dX4_letter_8 : decode cX4_letter 8 = .ok (.aload_n 0, 1) := by decide +kernel
theorem dX4_letter_9 : decode cX4_letter 9 = .ok (.iload_n 2, 1) := by decide +kernel
theorem dX4_letter_10 : decode cX4_letter 10 = .ok (.invokevirtual 58, 3) := by decide +kernel
theorem dX4_letter_13 : decode cX4_letter 13 = .ok (.ifCond .eq 25, 3) := by decide +kernel
theorem dX4_letter_16 : decode cX4_letter 16 = .ok (.iload_n 3, 1) := by decide +kernel
theorem dX4_letter_17 : decode cX4_letter 17 = .ok (.i2l, 1) := by decide +kernel
theorem dX4_letter_18 : decode cX4_letter 18 = .ok (.lconst 0, 1) := by decide +kernel
theorem dX4_letter_19 : decode cX4_letter 19 = .ok (.ldc2_w 71, 3) := by decide +kernel
theorem dX4_letter_22 : decode cX4_letter 22 = .ok (.invokestatic 46, 3) := by decide +kernel
theorem dX4_letter_25 : decode cX4_letter 25 = .ok (.ifCond .eq 13, 3) := by decide +kernel
theorem dX4_letter_28 : decode cX4_letter 28 = .ok (.aload_n 0, 1) := by decide +kernel
theorem dX4_letter_29 : decode cX4_letter 29 = .ok (.iload_n 1, 1) := by decide +kernel
theorem dX4_letter_30 : decode cX4_letter 30 = .ok (.iload_n 2, 1) := by decide +kernel
theorem dX4_letter_31 : decode cX4_letter 31 = .ok (.iload_n 3, 1) := by decide +kernel
theorem dX4_letter_32 : decode cX4_letter 32 = .ok (.invokevirtual 91, 3) := by decide +kernel
theorem dX4_letter_35 : decode cX4_letter 35 = .ok (.goto 4, 3) := by decide +kernel
theorem dX4_letter_38 : decode cX4_letter 38 = .ok (.iconst (-1), 1) := by decide +kernel
theorem dX4_letter_39 : decode cX4_letter 39 = .ok (.ireturn, 1) := by decide +kernel
theorem dX4_isBack_0 : decode cX4_isBack 0 = .ok (.aload_n 0, 1) := by decide +kernel
theorem dX4_isBack_1 : decode cX4_isBack 1 = .ok (.getfield 13, 3) := by decide +kernel
theorem dX4_isBack_4 : decode cX4_isBack 4 = .ok (.iload_n 1, 1) := by decide +kernel
theorem dX4_isBack_5 : decode cX4_isBack 5 = .ok (.laload, 1) := by decide +kernel
theorem dX4_isBack_6 : decode cX4_isBack 6 = .ok (.ldc2_w 56, 3) := by decide +kernel
theorem dX4_isBack_9 : decode cX4_isBack 9 = .ok (.lrem, 1) := by decide +kernel
theorem dX4_isBack_10 : decode cX4_isBack 10 = .ok (.lconst 1, 1) := by decide +kernel
theorem dX4_isBack_11 : decode cX4_isBack 11 = .ok (.lcmp, 1) := by decide +kernel
theorem dX4_isBack_12 : decode cX4_isBack 12 = .ok (.ifCond .ne 7, 3) := by decide +kernel
theorem dX4_isBack_15 : decode cX4_isBack 15 = .ok (.iconst 1, 1) := by decide +kernel
theorem dX4_isBack_16 : decode cX4_isBack 16 = .ok (.goto 4, 3) := by decide +kernel
theorem dX4_isBack_19 : decode cX4_isBack 19 = .ok (.iconst 0, 1) := by decide +kernel
theorem dX4_isBack_20 : decode cX4_isBack 20 = .ok (.ireturn, 1) := by decide +kernel
theorem dX4_address_0 : decode cX4_address 0 = .ok (.aload_n 0, 1) := by decide +kernel
theorem dX4_address_1 : decode cX4_address 1 = .ok (.iload_n 1, 1) := by decide +kernel
theorem dX4_address_2 : decode cX4_address 2 = .ok (.invokevirtual 58, 3) := by decide +kernel
theorem dX4_address_5 : decode cX4_address 5 = .ok (.ifCond .eq 7, 3) := by decide +kernel
theorem dX4_address_8 : decode cX4_address 8 = .ok (.iload_n 2, 1) := by decide +kernel
theorem dX4_address_9 : decode cX4_address 9 = .ok (.ifCond .ge 5, 3) := by decide +kernel
theorem dX4_address_12 : decode cX4_address 12 = .ok (.iconst (-1), 1) := by decide +kernel
theorem dX4_address_13 : decode cX4_address 13 = .ok (.ireturn, 1) := by decide +kernel
theorem dX4_address_14 : decode cX4_address 14 = .ok (.aload_n 0, 1) := by decide +kernel
theorem dX4_address_15 : decode cX4_address 15 = .ok (.iload_n 1, 1) := by decide +kernel
theorem dX4_address_16 : decode cX4_address 16 = .ok (.invokevirtual 95, 3) := by decide +kernel
theorem dX4_address_19 : decode cX4_address 19 = .ok (.ifCond .ne 6, 3) := by decide +kernel
theorem dX4_address_22 : decode cX4_address 22 = .ok (.bipush (-2), 2) := by decide +kernel
theorem dX4_address_24 : decode cX4_address 24 = .ok (.ireturn, 1) := by decide +kernel
theorem dX4_address_25 : decode cX4_address 25 = .ok (.aload_n 0, 1) := by decide +kernel
theorem dX4_address_26 : decode cX4_address 26 = .ok (.getfield 13, 3) := by decide +kernel
theorem dX4_address_29 : decode cX4_address 29 = .ok (.iload_n 1, 1) := by decide +kernel
theorem dX4_address_30 : decode cX4_address 30 = .ok (.laload, 1) := by decide +kernel
theorem dX4_address_31 : decode cX4_address 31 = .ok (.invokestatic 68, 3) := by decide +kernel
theorem dX4_address_34 : decode cX4_address 34 = .ok (.istore_n 3, 1) := by decide +kernel
theorem dX4_address_35 : decode cX4_address 35 = .ok (.iconst 1, 1) := by decide +kernel
theorem dX4_address_36 : decode cX4_address 36 = .ok (.istore 4, 2) := by decide +kernel
theorem dX4_address_38 : decode cX4_address 38 = .ok (.iconst 0, 1) := by decide +kernel
theorem dX4_address_39 : decode cX4_address 39 = .ok (.istore 5, 2) := by decide +kernel
theorem dX4_address_41 : decode cX4_address 41 = .ok (.iload 5, 2) := by decide +kernel
theorem dX4_address_43 : decode cX4_address 43 = .ok (.iload_n 2, 1) := by decide +kernel
theorem dX4_address_44 : decode cX4_address 44 = .ok (.if_icmp .ge 60, 3) := by decide +kernel
theorem dX4_address_47 : decode cX4_address 47 = .ok (.iload 4, 2) := by decide +kernel
theorem dX4_address_49 : decode cX4_address 49 = .ok (.iload_n 3, 1) := by decide +kernel
theorem dX4_address_50 : decode cX4_address 50 = .ok (.if_icmp .ne 6, 3) := by decide +kernel
theorem dX4_address_53 : decode cX4_address 53 = .ok (.bipush (-4), 2) := by decide +kernel
theorem dX4_address_55 : decode cX4_address 55 = .ok (.ireturn, 1) := by decide +kernel
theorem dX4_address_56 : decode cX4_address 56 = .ok (.iload 4, 2) := by decide +kernel
theorem dX4_address_58 : decode cX4_address 58 = .ok (.iconst 1, 1) := by decide +kernel
theorem dX4_address_59 : decode cX4_address 59 = .ok (.iadd, 1) := by decide +kernel
theorem dX4_address_60 : decode cX4_address 60 = .ok (.istore 6, 2) := by decide +kernel
theorem dX4_address_62 : decode cX4_address 62 = .ok (.aload_n 0, 1) := by decide +kernel
theorem dX4_address_63 : decode cX4_address 63 = .ok (.iload_n 1, 1) := by decide +kernel
theorem dX4_address_64 : decode cX4_address 64 = .ok (.iload_n 1, 1) := by decide +kernel
theorem dX4_address_65 : decode cX4_address 65 = .ok (.iload 6, 2) := by decide +kernel
theorem dX4_address_67 : decode cX4_address 67 = .ok (.iconst 1, 1) := by decide +kernel
theorem dX4_address_68 : decode cX4_address 68 = .ok (.isub, 1) := by decide +kernel
theorem dX4_address_69 : decode cX4_address 69 = .ok (.invokevirtual 91, 3) := by decide +kernel
theorem dX4_address_72 : decode cX4_address 72 = .ok (.aload_n 0, 1) := by decide +kernel
theorem dX4_address_73 : decode cX4_address 73 = .ok (.iload_n 1, 1) := by decide +kernel
theorem dX4_address_74 : decode cX4_address 74 = .ok (.iload_n 1, 1) := by decide +kernel
theorem dX4_address_75 : decode cX4_address 75 = .ok (.iload 6, 2) := by decide +kernel
theorem dX4_address_77 : decode cX4_address 77 = .ok (.iconst 1, 1) := by decide +kernel
theorem dX4_address_78 : decode cX4_address 78 = .ok (.isub, 1) := by decide +kernel
theorem dX4_address_79 : decode cX4_address 79 = .ok (.iload 4, 2) := by decide +kernel
theorem dX4_address_81 : decode cX4_address 81 = .ok (.isub, 1) := by decide +kernel
theorem dX4_address_82 : decode cX4_address 82 = .ok (.invokevirtual 91, 3) := by decide +kernel
theorem dX4_address_85 : decode cX4_address 85 = .ok (.if_icmp .ne 9, 3) := by decide +kernel
theorem dX4_address_88 : decode cX4_address 88 = .ok (.iinc 6 1, 3) := by decide +kernel
theorem dX4_address_91 : decode cX4_address 91 = .ok (.goto (-29), 3) := by decide +kernel
theorem dX4_address_94 : decode cX4_address 94 = .ok (.iload 6, 2) := by decide +kernel
theorem dX4_address_96 : decode cX4_address 96 = .ok (.istore 4, 2) := by decide +kernel
theorem dX4_address_98 : decode cX4_address 98 = .ok (.iinc 5 1, 3) := by decide +kernel
theorem dX4_address_101 : decode cX4_address 101 = .ok (.goto (-60), 3) := by decide +kernel
theorem dX4_address_104 : decode cX4_address 104 = .ok (.iload 4, 2) := by decide +kernel
theorem dX4_address_106 : decode cX4_address 106 = .ok (.ireturn, 1) := by decide +kernel
theorem dX4_isBelow_0 : decode cX4_isBelow 0 = .ok (.lload_n 0, 1) := by decide +kernel
theorem dX4_isBelow_1 : decode cX4_isBelow 1 = .ok (.lload 6, 2) := by decide +kernel
theorem dX4_isBelow_3 : decode cX4_isBelow 3 = .ok (.lmul, 1) := by decide +kernel
theorem dX4_isBelow_4 : decode cX4_isBelow 4 = .ok (.lload 4, 2) := by decide +kernel
theorem dX4_isBelow_6 : decode cX4_isBelow 6 = .ok (.lload_n 2, 1) := by decide +kernel
theorem dX4_isBelow_7 : decode cX4_isBelow 7 = .ok (.lmul, 1) := by decide +kernel
theorem dX4_isBelow_8 : decode cX4_isBelow 8 = .ok (.lcmp, 1) := by decide +kernel
theorem dX4_isBelow_9 : decode cX4_isBelow 9 = .ok (.ifCond .ge 7, 3) := by decide +kernel
theorem dX4_isBelow_12 : decode cX4_isBelow 12 = .ok (.iconst 1, 1) := by decide +kernel
theorem dX4_isBelow_13 : decode cX4_isBelow 13 = .ok (.goto 4, 3) := by decide +kernel
theorem dX4_isBelow_16 : decode cX4_isBelow 16 = .ok (.iconst 0, 1) := by decide +kernel
theorem dX4_isBelow_17 : decode cX4_isBelow 17 = .ok (.ireturn, 1) := by decide +kernel
theorem dX4_isLess_0 : decode cX4_isLess 0 = .ok (.aload_n 0, 1) := by decide +kernel
theorem dX4_isLess_1 : decode cX4_isLess 1 = .ok (.getfield 7, 3) := by decide +kernel
theorem dX4_isLess_4 : decode cX4_isLess 4 = .ok (.iload_n 1, 1) := by decide +kernel
theorem dX4_isLess_5 : decode cX4_isLess 5 = .ok (.laload, 1) := by decide +kernel
theorem dX4_isLess_6 : decode cX4_isLess 6 = .ok (.aload_n 0, 1) := by decide +kernel
theorem dX4_isLess_7 : decode cX4_isLess 7 = .ok (.getfield 13, 3) := by decide +kernel
theorem dX4_isLess_10 : decode cX4_isLess 10 = .ok (.iload_n 1, 1) := by decide +kernel
theorem dX4_isLess_11 : decode cX4_isLess 11 = .ok (.laload, 1) := by decide +kernel
theorem dX4_isLess_12 : decode cX4_isLess 12 = .ok (.aload_n 0, 1) := by decide +kernel
theorem dX4_isLess_13 : decode cX4_isLess 13 = .ok (.getfield 7, 3) := by decide +kernel
theorem dX4_isLess_16 : decode cX4_isLess 16 = .ok (.iload_n 2, 1) := by decide +kernel
theorem dX4_isLess_17 : decode cX4_isLess 17 = .ok (.laload, 1) := by decide +kernel
theorem dX4_isLess_18 : decode cX4_isLess 18 = .ok (.aload_n 0, 1) := by decide +kernel
theorem dX4_isLess_19 : decode cX4_isLess 19 = .ok (.getfield 13, 3) := by decide +kernel
theorem dX4_isLess_22 : decode cX4_isLess 22 = .ok (.iload_n 2, 1) := by decide +kernel
theorem dX4_isLess_23 : decode cX4_isLess 23 = .ok (.laload, 1) := by decide +kernel
theorem dX4_isLess_24 : decode cX4_isLess 24 = .ok (.invokestatic 98, 3) := by decide +kernel
theorem dX4_isLess_27 : decode cX4_isLess 27 = .ok (.ireturn, 1) := by decide +kernel
theorem dX4_isSame_0 : decode cX4_isSame 0 = .ok (.aload_n 0, 1) := by decide +kernel
theorem dX4_isSame_1 : decode cX4_isSame 1 = .ok (.getfield 7, 3) := by decide +kernel
theorem dX4_isSame_4 : decode cX4_isSame 4 = .ok (.iload_n 1, 1) := by decide +kernel
theorem dX4_isSame_5 : decode cX4_isSame 5 = .ok (.laload, 1) := by decide +kernel
theorem dX4_isSame_6 : decode cX4_isSame 6 = .ok (.aload_n 0, 1) := by decide +kernel
theorem dX4_isSame_7 : decode cX4_isSame 7 = .ok (.getfield 7, 3) := by decide +kernel
theorem dX4_isSame_10 : decode cX4_isSame 10 = .ok (.iload_n 2, 1) := by decide +kernel
theorem dX4_isSame_11 : decode cX4_isSame 11 = .ok (.laload, 1) := by decide +kernel
theorem dX4_isSame_12 : decode cX4_isSame 12 = .ok (.lcmp, 1) := by decide +kernel
theorem dX4_isSame_13 : decode cX4_isSame 13 = .ok (.ifCond .ne 23, 3) := by decide +kernel
theorem dX4_isSame_16 : decode cX4_isSame 16 = .ok (.aload_n 0, 1) := by decide +kernel
theorem dX4_isSame_17 : decode cX4_isSame 17 = .ok (.getfield 13, 3) := by decide +kernel
theorem dX4_isSame_20 : decode cX4_isSame 20 = .ok (.iload_n 1, 1) := by decide +kernel
theorem dX4_isSame_21 : decode cX4_isSame 21 = .ok (.laload, 1) := by decide +kernel
theorem dX4_isSame_22 : decode cX4_isSame 22 = .ok (.aload_n 0, 1) := by decide +kernel
theorem dX4_isSame_23 : decode cX4_isSame 23 = .ok (.getfield 13, 3) := by decide +kernel
theorem dX4_isSame_26 : decode cX4_isSame 26 = .ok (.iload_n 2, 1) := by decide +kernel
theorem dX4_isSame_27 : decode cX4_isSame 27 = .ok (.laload, 1) := by decide +kernel
theorem dX4_isSame_28 : decode cX4_isSame 28 = .ok (.lcmp, 1) := by decide +kernel
theorem dX4_isSame_29 : decode cX4_isSame 29 = .ok (.ifCond .ne 7, 3) := by decide +kernel
theorem dX4_isSame_32 : decode cX4_isSame 32 = .ok (.iconst 1, 1) := by decide +kernel
theorem dX4_isSame_33 : decode cX4_isSame 33 = .ok (.goto 4, 3) := by decide +kernel
theorem dX4_isSame_36 : decode cX4_isSame 36 = .ok (.iconst 0, 1) := by decide +kernel
theorem dX4_isSame_37 : decode cX4_isSame 37 = .ok (.ireturn, 1) := by decide +kernel
theorem dX4_liesBetween_0 : decode cX4_liesBetween 0 = .ok (.aload_n 0, 1) := by decide +kernel
theorem dX4_liesBetween_1 : decode cX4_liesBetween 1 = .ok (.iload_n 2, 1) := by decide +kernel
theorem dX4_liesBetween_2 : decode cX4_liesBetween 2 = .ok (.iload_n 3, 1) := by decide +kernel
theorem dX4_liesBetween_3 : decode cX4_liesBetween 3 = .ok (.invokevirtual 102, 3) := by decide +kernel
theorem dX4_liesBetween_6 : decode cX4_liesBetween 6 = .ok (.ifCond .eq 29, 3) := by decide +kernel
theorem dX4_liesBetween_9 : decode cX4_liesBetween 9 = .ok (.aload_n 0, 1) := by decide +kernel
theorem dX4_liesBetween_10 : decode cX4_liesBetween 10 = .ok (.iload_n 2, 1) := by decide +kernel
theorem dX4_liesBetween_11 : decode cX4_liesBetween 11 = .ok (.iload_n 1, 1) := by decide +kernel
theorem dX4_liesBetween_12 : decode cX4_liesBetween 12 = .ok (.invokevirtual 102, 3) := by decide +kernel
theorem dX4_liesBetween_15 : decode cX4_liesBetween 15 = .ok (.ifCond .eq 16, 3) := by decide +kernel
theorem dX4_liesBetween_18 : decode cX4_liesBetween 18 = .ok (.aload_n 0, 1) := by decide +kernel
theorem dX4_liesBetween_19 : decode cX4_liesBetween 19 = .ok (.iload_n 1, 1) := by decide +kernel
theorem dX4_liesBetween_20 : decode cX4_liesBetween 20 = .ok (.iload_n 3, 1) := by decide +kernel
theorem dX4_liesBetween_21 : decode cX4_liesBetween 21 = .ok (.invokevirtual 102, 3) := by decide +kernel
theorem dX4_liesBetween_24 : decode cX4_liesBetween 24 = .ok (.ifCond .eq 7, 3) := by decide +kernel
theorem dX4_liesBetween_27 : decode cX4_liesBetween 27 = .ok (.iconst 1, 1) := by decide +kernel
theorem dX4_liesBetween_28 : decode cX4_liesBetween 28 = .ok (.goto 30, 3) := by decide +kernel
theorem dX4_liesBetween_31 : decode cX4_liesBetween 31 = .ok (.iconst 0, 1) := by decide +kernel
theorem dX4_liesBetween_32 : decode cX4_liesBetween 32 = .ok (.goto 26, 3) := by decide +kernel
theorem dX4_liesBetween_35 : decode cX4_liesBetween 35 = .ok (.aload_n 0, 1) := by decide +kernel
theorem dX4_liesBetween_36 : decode cX4_liesBetween 36 = .ok (.iload_n 3, 1) := by decide +kernel
theorem dX4_liesBetween_37 : decode cX4_liesBetween 37 = .ok (.iload_n 1, 1) := by decide +kernel
theorem dX4_liesBetween_38 : decode cX4_liesBetween 38 = .ok (.invokevirtual 102, 3) := by decide +kernel
theorem dX4_liesBetween_41 : decode cX4_liesBetween 41 = .ok (.ifCond .eq 16, 3) := by decide +kernel
theorem dX4_liesBetween_44 : decode cX4_liesBetween 44 = .ok (.aload_n 0, 1) := by decide +kernel
theorem dX4_liesBetween_45 : decode cX4_liesBetween 45 = .ok (.iload_n 1, 1) := by decide +kernel
theorem dX4_liesBetween_46 : decode cX4_liesBetween 46 = .ok (.iload_n 2, 1) := by decide +kernel
theorem dX4_liesBetween_47 : decode cX4_liesBetween 47 = .ok (.invokevirtual 102, 3) := by decide +kernel
theorem dX4_liesBetween_50 : decode cX4_liesBetween 50 = .ok (.ifCond .eq 7, 3) := by decide +kernel
theorem dX4_liesBetween_53 : decode cX4_liesBetween 53 = .ok (.iconst 1, 1) := by decide +kernel
theorem dX4_liesBetween_54 : decode cX4_liesBetween 54 = .ok (.goto 4, 3) := by decide +kernel
theorem dX4_liesBetween_57 : decode cX4_liesBetween 57 = .ok (.iconst 0, 1) := by decide +kernel
theorem dX4_liesBetween_58 : decode cX4_liesBetween 58 = .ok (.ireturn, 1) := by decide +kernel
theorem dX4_cross_0 : decode cX4_cross 0 = .ok (.aload_n 0, 1) := by decide +kernel
theorem dX4_cross_1 : decode cX4_cross 1 = .ok (.iload_n 1, 1) := by decide +kernel
theorem dX4_cross_2 : decode cX4_cross 2 = .ok (.invokevirtual 58, 3) := by decide +kernel
theorem dX4_cross_5 : decode cX4_cross 5 = .ok (.ifCond .eq 28, 3) := by decide +kernel
theorem dX4_cross_8 : decode cX4_cross 8 = .ok (.aload_n 0, 1) := by decide +kernel
theorem dX4_cross_9 : decode cX4_cross 9 = .ok (.iload_n 2, 1) := by decide +kernel
theorem dX4_cross_10 : decode cX4_cross 10 = .ok (.invokevirtual 58, 3) := by decide +kernel
theorem dX4_cross_13 : decode cX4_cross 13 = .ok (.ifCond .eq 20, 3) := by decide +kernel
theorem dX4_cross_16 : decode cX4_cross 16 = .ok (.aload_n 0, 1) := by decide +kernel
theorem dX4_cross_17 : decode cX4_cross 17 = .ok (.iload_n 3, 1) := by decide +kernel
theorem dX4_cross_18 : decode cX4_cross 18 = .ok (.invokevirtual 58, 3) := by decide +kernel
theorem dX4_cross_21 : decode cX4_cross 21 = .ok (.ifCond .eq 12, 3) := by decide +kernel
theorem dX4_cross_24 : decode cX4_cross 24 = .ok (.aload_n 0, 1) := by decide +kernel
theorem dX4_cross_25 : decode cX4_cross 25 = .ok (.iload 4, 2) := by decide +kernel
theorem dX4_cross_27 : decode cX4_cross 27 = .ok (.invokevirtual 58, 3) := by decide +kernel
theorem dX4_cross_30 : decode cX4_cross 30 = .ok (.ifCond .ne 5, 3) := by decide +kernel
theorem dX4_cross_33 : decode cX4_cross 33 = .ok (.iconst (-1), 1) := by decide +kernel
theorem dX4_cross_34 : decode cX4_cross 34 = .ok (.ireturn, 1) := by decide +kernel
theorem dX4_cross_35 : decode cX4_cross 35 = .ok (.aload_n 0, 1) := by decide +kernel
theorem dX4_cross_36 : decode cX4_cross 36 = .ok (.iload_n 1, 1) := by decide +kernel
theorem dX4_cross_37 : decode cX4_cross 37 = .ok (.iload_n 3, 1) := by decide +kernel
theorem dX4_cross_38 : decode cX4_cross 38 = .ok (.invokevirtual 106, 3) := by decide +kernel
theorem dX4_cross_41 : decode cX4_cross 41 = .ok (.ifCond .ne 32, 3) := by decide +kernel
theorem dX4_cross_44 : decode cX4_cross 44 = .ok (.aload_n 0, 1) := by decide +kernel
theorem dX4_cross_45 : decode cX4_cross 45 = .ok (.iload_n 1, 1) := by decide +kernel
theorem dX4_cross_46 : decode cX4_cross 46 = .ok (.iload 4, 2) := by decide +kernel
theorem dX4_cross_48 : decode cX4_cross 48 = .ok (.invokevirtual 106, 3) := by decide +kernel
theorem dX4_cross_51 : decode cX4_cross 51 = .ok (.ifCond .ne 22, 3) := by decide +kernel
theorem dX4_cross_54 : decode cX4_cross 54 = .ok (.aload_n 0, 1) := by decide +kernel
theorem dX4_cross_55 : decode cX4_cross 55 = .ok (.iload_n 2, 1) := by decide +kernel
theorem dX4_cross_56 : decode cX4_cross 56 = .ok (.iload_n 3, 1) := by decide +kernel
theorem dX4_cross_57 : decode cX4_cross 57 = .ok (.invokevirtual 106, 3) := by decide +kernel
theorem dX4_cross_60 : decode cX4_cross 60 = .ok (.ifCond .ne 13, 3) := by decide +kernel
theorem dX4_cross_63 : decode cX4_cross 63 = .ok (.aload_n 0, 1) := by decide +kernel
theorem dX4_cross_64 : decode cX4_cross 64 = .ok (.iload_n 2, 1) := by decide +kernel
theorem dX4_cross_65 : decode cX4_cross 65 = .ok (.iload 4, 2) := by decide +kernel
theorem dX4_cross_67 : decode cX4_cross 67 = .ok (.invokevirtual 106, 3) := by decide +kernel
theorem dX4_cross_70 : decode cX4_cross 70 = .ok (.ifCond .eq 5, 3) := by decide +kernel
theorem dX4_cross_73 : decode cX4_cross 73 = .ok (.iconst 0, 1) := by decide +kernel
theorem dX4_cross_74 : decode cX4_cross 74 = .ok (.ireturn, 1) := by decide +kernel
theorem dX4_cross_75 : decode cX4_cross 75 = .ok (.aload_n 0, 1) := by decide +kernel
theorem dX4_cross_76 : decode cX4_cross 76 = .ok (.iload_n 3, 1) := by decide +kernel
theorem dX4_cross_77 : decode cX4_cross 77 = .ok (.iload_n 1, 1) := by decide +kernel
theorem dX4_cross_78 : decode cX4_cross 78 = .ok (.iload_n 2, 1) := by decide +kernel
theorem dX4_cross_79 : decode cX4_cross 79 = .ok (.invokevirtual 109, 3) := by decide +kernel
theorem dX4_cross_82 : decode cX4_cross 82 = .ok (.aload_n 0, 1) := by decide +kernel
theorem dX4_cross_83 : decode cX4_cross 83 = .ok (.iload 4, 2) := by decide +kernel
theorem dX4_cross_85 : decode cX4_cross 85 = .ok (.iload_n 1, 1) := by decide +kernel
theorem dX4_cross_86 : decode cX4_cross 86 = .ok (.iload_n 2, 1) := by decide +kernel
theorem dX4_cross_87 : decode cX4_cross 87 = .ok (.invokevirtual 109, 3) := by decide +kernel
theorem dX4_cross_90 : decode cX4_cross 90 = .ok (.if_icmp .eq 7, 3) := by decide +kernel
theorem dX4_cross_93 : decode cX4_cross 93 = .ok (.iconst 1, 1) := by decide +kernel
theorem dX4_cross_94 : decode cX4_cross 94 = .ok (.goto 4, 3) := by decide +kernel
theorem dX4_cross_97 : decode cX4_cross 97 = .ok (.iconst 0, 1) := by decide +kernel
theorem dX4_cross_98 : decode cX4_cross 98 = .ok (.ireturn, 1) := by decide +kernel
theorem dX4_meet_0 : decode cX4_meet 0 = .ok (.aload_n 0, 1) := by decide +kernel
theorem dX4_meet_1 : decode cX4_meet 1 = .ok (.iload_n 1, 1) := by decide +kernel
theorem dX4_meet_2 : decode cX4_meet 2 = .ok (.invokevirtual 58, 3) := by decide +kernel
theorem dX4_meet_5 : decode cX4_meet 5 = .ok (.ifCond .eq 19, 3) := by decide +kernel
theorem dX4_meet_8 : decode cX4_meet 8 = .ok (.aload_n 0, 1) := by decide +kernel
theorem dX4_meet_9 : decode cX4_meet 9 = .ok (.iload_n 2, 1) := by decide +kernel
theorem dX4_meet_10 : decode cX4_meet 10 = .ok (.invokevirtual 58, 3) := by decide +kernel
theorem dX4_meet_13 : decode cX4_meet 13 = .ok (.ifCond .eq 11, 3) := by decide +kernel
theorem dX4_meet_16 : decode cX4_meet 16 = .ok (.aload_n 0, 1) := by decide +kernel
theorem dX4_meet_17 : decode cX4_meet 17 = .ok (.iload_n 3, 1) := by decide +kernel
theorem dX4_meet_18 : decode cX4_meet 18 = .ok (.invokevirtual 58, 3) := by decide +kernel
theorem dX4_meet_21 : decode cX4_meet 21 = .ok (.ifCond .ne 5, 3) := by decide +kernel
theorem dX4_meet_24 : decode cX4_meet 24 = .ok (.iconst (-1), 1) := by decide +kernel
theorem dX4_meet_25 : decode cX4_meet 25 = .ok (.ireturn, 1) := by decide +kernel
theorem dX4_meet_26 : decode cX4_meet 26 = .ok (.aload_n 0, 1) := by decide +kernel
theorem dX4_meet_27 : decode cX4_meet 27 = .ok (.getfield 13, 3) := by decide +kernel
theorem dX4_meet_30 : decode cX4_meet 30 = .ok (.iload_n 1, 1) := by decide +kernel
theorem dX4_meet_31 : decode cX4_meet 31 = .ok (.laload, 1) := by decide +kernel
theorem dX4_meet_32 : decode cX4_meet 32 = .ok (.invokestatic 68, 3) := by decide +kernel
theorem dX4_meet_35 : decode cX4_meet 35 = .ok (.istore 4, 2) := by decide +kernel
theorem dX4_meet_37 : decode cX4_meet 37 = .ok (.aload_n 0, 1) := by decide +kernel
theorem dX4_meet_38 : decode cX4_meet 38 = .ok (.getfield 13, 3) := by decide +kernel
theorem dX4_meet_41 : decode cX4_meet 41 = .ok (.iload_n 2, 1) := by decide +kernel
theorem dX4_meet_42 : decode cX4_meet 42 = .ok (.laload, 1) := by decide +kernel
theorem dX4_meet_43 : decode cX4_meet 43 = .ok (.invokestatic 68, 3) := by decide +kernel
theorem dX4_meet_46 : decode cX4_meet 46 = .ok (.istore 5, 2) := by decide +kernel
theorem dX4_meet_48 : decode cX4_meet 48 = .ok (.bipush 10, 2) := by decide +kernel
theorem dX4_meet_50 : decode cX4_meet 50 = .ok (.iload 4, 2) := by decide +kernel
theorem dX4_meet_52 : decode cX4_meet 52 = .ok (.iload 4, 2) := by decide +kernel
theorem dX4_meet_54 : decode cX4_meet 54 = .ok (.i2l, 1) := by decide +kernel
theorem dX4_meet_55 : decode cX4_meet 55 = .ok (.iload 5, 2) := by decide +kernel
theorem dX4_meet_57 : decode cX4_meet 57 = .ok (.i2l, 1) := by decide +kernel
theorem dX4_meet_58 : decode cX4_meet 58 = .ok (.invokestatic 77, 3) := by decide +kernel
theorem dX4_meet_61 : decode cX4_meet 61 = .ok (.l2i, 1) := by decide +kernel
theorem dX4_meet_62 : decode cX4_meet 62 = .ok (.idiv, 1) := by decide +kernel
theorem dX4_meet_63 : decode cX4_meet 63 = .ok (.iload 5, 2) := by decide +kernel
theorem dX4_meet_65 : decode cX4_meet 65 = .ok (.imul, 1) := by decide +kernel
theorem dX4_meet_66 : decode cX4_meet 66 = .ok (.iadd, 1) := by decide +kernel
theorem dX4_meet_67 : decode cX4_meet 67 = .ok (.istore 6, 2) := by decide +kernel
theorem dX4_meet_69 : decode cX4_meet 69 = .ok (.aload_n 0, 1) := by decide +kernel
theorem dX4_meet_70 : decode cX4_meet 70 = .ok (.getfield 7, 3) := by decide +kernel
theorem dX4_meet_73 : decode cX4_meet 73 = .ok (.iload_n 1, 1) := by decide +kernel
theorem dX4_meet_74 : decode cX4_meet 74 = .ok (.laload, 1) := by decide +kernel
theorem dX4_meet_75 : decode cX4_meet 75 = .ok (.lstore 7, 2) := by decide +kernel
theorem dX4_meet_77 : decode cX4_meet 77 = .ok (.aload_n 0, 1) := by decide +kernel
theorem dX4_meet_78 : decode cX4_meet 78 = .ok (.getfield 7, 3) := by decide +kernel
theorem dX4_meet_81 : decode cX4_meet 81 = .ok (.iload_n 2, 1) := by decide +kernel
theorem dX4_meet_82 : decode cX4_meet 82 = .ok (.laload, 1) := by decide +kernel
theorem dX4_meet_83 : decode cX4_meet 83 = .ok (.lstore 9, 2) := by decide +kernel
theorem dX4_meet_85 : decode cX4_meet 85 = .ok (.iconst 1, 1) := by decide +kernel
theorem dX4_meet_86 : decode cX4_meet 86 = .ok (.istore 11, 2) := by decide +kernel
theorem dX4_meet_88 : decode cX4_meet 88 = .ok (.iconst 0, 1) := by decide +kernel
theorem dX4_meet_89 : decode cX4_meet 89 = .ok (.istore 12, 2) := by decide +kernel
theorem dX4_meet_91 : decode cX4_meet 91 = .ok (.iload 12, 2) := by decide +kernel
theorem dX4_meet_93 : decode cX4_meet 93 = .ok (.iload 6, 2) := by decide +kernel
theorem dX4_meet_95 : decode cX4_meet 95 = .ok (.sipush 512, 3) := by decide +kernel
theorem dX4_meet_98 : decode cX4_meet 98 = .ok (.iadd, 1) := by decide +kernel
theorem dX4_meet_99 : decode cX4_meet 99 = .ok (.if_icmp .ge 120, 3) := by decide +kernel
theorem dX4_meet_102 : decode cX4_meet 102 = .ok (.iload 11, 2) := by decide +kernel
theorem dX4_meet_104 : decode cX4_meet 104 = .ok (.ifCond .eq 115, 3) := by decide +kernel
theorem dX4_meet_107 : decode cX4_meet 107 = .ok (.lload 7, 2) := by decide +kernel
theorem dX4_meet_109 : decode cX4_meet 109 = .ok (.aload_n 0, 1) := by decide +kernel
theorem dX4_meet_110 : decode cX4_meet 110 = .ok (.getfield 13, 3) := by decide +kernel
theorem dX4_meet_113 : decode cX4_meet 113 = .ok (.iload_n 1, 1) := by decide +kernel
theorem dX4_meet_114 : decode cX4_meet 114 = .ok (.laload, 1) := by decide +kernel
theorem dX4_meet_115 : decode cX4_meet 115 = .ok (.aload_n 0, 1) := by decide +kernel
theorem dX4_meet_116 : decode cX4_meet 116 = .ok (.getfield 7, 3) := by decide +kernel
theorem dX4_meet_119 : decode cX4_meet 119 = .ok (.iload_n 3, 1) := by decide +kernel
theorem dX4_meet_120 : decode cX4_meet 120 = .ok (.laload, 1) := by decide +kernel
theorem dX4_meet_121 : decode cX4_meet 121 = .ok (.aload_n 0, 1) := by decide +kernel
theorem dX4_meet_122 : decode cX4_meet 122 = .ok (.getfield 13, 3) := by decide +kernel
theorem dX4_meet_125 : decode cX4_meet 125 = .ok (.iload_n 3, 1) := by decide +kernel
theorem dX4_meet_126 : decode cX4_meet 126 = .ok (.laload, 1) := by decide +kernel
theorem dX4_meet_127 : decode cX4_meet 127 = .ok (.invokestatic 87, 3) := by decide +kernel
theorem dX4_meet_130 : decode cX4_meet 130 = .ok (.istore 13, 2) := by decide +kernel
theorem dX4_meet_132 : decode cX4_meet 132 = .ok (.lload 9, 2) := by decide +kernel
theorem dX4_meet_134 : decode cX4_meet 134 = .ok (.aload_n 0, 1) := by decide +kernel
theorem dX4_meet_135 : decode cX4_meet 135 = .ok (.getfield 13, 3) := by decide +kernel
theorem dX4_meet_138 : decode cX4_meet 138 = .ok (.iload_n 2, 1) := by decide +kernel
theorem dX4_meet_139 : decode cX4_meet 139 = .ok (.laload, 1) := by decide +kernel
theorem dX4_meet_140 : decode cX4_meet 140 = .ok (.aload_n 0, 1) := by decide +kernel
theorem dX4_meet_141 : decode cX4_meet 141 = .ok (.getfield 7, 3) := by decide +kernel
theorem dX4_meet_144 : decode cX4_meet 144 = .ok (.iload_n 3, 1) := by decide +kernel
theorem dX4_meet_145 : decode cX4_meet 145 = .ok (.laload, 1) := by decide +kernel
theorem dX4_meet_146 : decode cX4_meet 146 = .ok (.aload_n 0, 1) := by decide +kernel
theorem dX4_meet_147 : decode cX4_meet 147 = .ok (.getfield 13, 3) := by decide +kernel
theorem dX4_meet_150 : decode cX4_meet 150 = .ok (.iload_n 3, 1) := by decide +kernel
theorem dX4_meet_151 : decode cX4_meet 151 = .ok (.laload, 1) := by decide +kernel
theorem dX4_meet_152 : decode cX4_meet 152 = .ok (.invokestatic 87, 3) := by decide +kernel
theorem dX4_meet_155 : decode cX4_meet 155 = .ok (.istore 14, 2) := by decide +kernel
theorem dX4_meet_157 : decode cX4_meet 157 = .ok (.iload 13, 2) := by decide +kernel
theorem dX4_meet_159 : decode cX4_meet 159 = .ok (.iload 14, 2) := by decide +kernel
theorem dX4_meet_161 : decode cX4_meet 161 = .ok (.if_icmp .eq 15, 3) := by decide +kernel
theorem dX4_meet_164 : decode cX4_meet 164 = .ok (.iload 13, 2) := by decide +kernel
theorem dX4_meet_166 : decode cX4_meet 166 = .ok (.iconst 2, 1) := by decide +kernel
theorem dX4_meet_167 : decode cX4_meet 167 = .ok (.if_icmp .eq 9, 3) := by decide +kernel
theorem dX4_meet_170 : decode cX4_meet 170 = .ok (.iload 14, 2) := by decide +kernel
theorem dX4_meet_172 : decode cX4_meet 172 = .ok (.iconst 2, 1) := by decide +kernel
theorem dX4_meet_173 : decode cX4_meet 173 = .ok (.if_icmp .ne 7, 3) := by decide +kernel
theorem dX4_meet_176 : decode cX4_meet 176 = .ok (.iconst 1, 1) := by decide +kernel
theorem dX4_meet_177 : decode cX4_meet 177 = .ok (.goto 4, 3) := by decide +kernel
theorem dX4_meet_180 : decode cX4_meet 180 = .ok (.iconst 0, 1) := by decide +kernel
theorem dX4_meet_181 : decode cX4_meet 181 = .ok (.istore 11, 2) := by decide +kernel
theorem dX4_meet_183 : decode cX4_meet 183 = .ok (.ldc2_w 56, 3) := by decide +kernel
theorem dX4_meet_186 : decode cX4_meet 186 = .ok (.lload 7, 2) := by decide +kernel
theorem dX4_meet_188 : decode cX4_meet 188 = .ok (.lmul, 1) := by decide +kernel
theorem dX4_meet_189 : decode cX4_meet 189 = .ok (.aload_n 0, 1) := by decide +kernel
theorem dX4_meet_190 : decode cX4_meet 190 = .ok (.getfield 13, 3) := by decide +kernel
theorem dX4_meet_193 : decode cX4_meet 193 = .ok (.iload_n 1, 1) := by decide +kernel
theorem dX4_meet_194 : decode cX4_meet 194 = .ok (.laload, 1) := by decide +kernel
theorem dX4_meet_195 : decode cX4_meet 195 = .ok (.lrem, 1) := by decide +kernel
theorem dX4_meet_196 : decode cX4_meet 196 = .ok (.lstore 7, 2) := by decide +kernel
theorem dX4_meet_198 : decode cX4_meet 198 = .ok (.ldc2_w 56, 3) := by decide +kernel
theorem dX4_meet_201 : decode cX4_meet 201 = .ok (.lload 9, 2) := by decide +kernel
theorem dX4_meet_203 : decode cX4_meet 203 = .ok (.lmul, 1) := by decide +kernel
theorem dX4_meet_204 : decode cX4_meet 204 = .ok (.aload_n 0, 1) := by decide +kernel
theorem dX4_meet_205 : decode cX4_meet 205 = .ok (.getfield 13, 3) := by decide +kernel
theorem dX4_meet_208 : decode cX4_meet 208 = .ok (.iload_n 2, 1) := by decide +kernel
theorem dX4_meet_209 : decode cX4_meet 209 = .ok (.laload, 1) := by decide +kernel
theorem dX4_meet_210 : decode cX4_meet 210 = .ok (.lrem, 1) := by decide +kernel
theorem dX4_meet_211 : decode cX4_meet 211 = .ok (.lstore 9, 2) := by decide +kernel
theorem dX4_meet_213 : decode cX4_meet 213 = .ok (.iinc 12 1, 3) := by decide +kernel
theorem dX4_meet_216 : decode cX4_meet 216 = .ok (.goto (-125), 3) := by decide +kernel
theorem dX4_meet_219 : decode cX4_meet 219 = .ok (.iload 11, 2) := by decide +kernel
theorem dX4_meet_221 : decode cX4_meet 221 = .ok (.ifCond .eq 7, 3) := by decide +kernel
theorem dX4_meet_224 : decode cX4_meet 224 = .ok (.iconst 1, 1) := by decide +kernel
theorem dX4_meet_225 : decode cX4_meet 225 = .ok (.goto 4, 3) := by decide +kernel
theorem dX4_meet_228 : decode cX4_meet 228 = .ok (.iconst 0, 1) := by decide +kernel
theorem dX4_meet_229 : decode cX4_meet 229 = .ok (.ireturn, 1) := by decide +kernel
theorem dX4_whole_0 : decode cX4_whole 0 = .ok (.lconst 1, 1) := by decide +kernel
theorem dX4_whole_1 : decode cX4_whole 1 = .ok (.iload_n 0, 1) := by decide +kernel
theorem dX4_whole_2 : decode cX4_whole 2 = .ok (.lshl, 1) := by decide +kernel
theorem dX4_whole_3 : decode cX4_whole 3 = .ok (.lconst 1, 1) := by decide +kernel
theorem dX4_whole_4 : decode cX4_whole 4 = .ok (.lsub, 1) := by decide +kernel
theorem dX4_whole_5 : decode cX4_whole 5 = .ok (.lreturn, 1) := by decide +kernel
theorem dX4_isOfLength_0 : decode cX4_isOfLength 0 = .ok (.iload_n 2, 1) := by decide +kernel
theorem dX4_isOfLength_1 : decode cX4_isOfLength 1 = .ok (.invokestatic 113, 3) := by decide +kernel
theorem dX4_isOfLength_4 : decode cX4_isOfLength 4 = .ok (.lload_n 0, 1) := by decide +kernel
theorem dX4_isOfLength_5 : decode cX4_isOfLength 5 = .ok (.iload_n 2, 1) := by decide +kernel
theorem dX4_isOfLength_6 : decode cX4_isOfLength 6 = .ok (.invokestatic 113, 3) := by decide +kernel
theorem dX4_isOfLength_9 : decode cX4_isOfLength 9 = .ok (.invokestatic 77, 3) := by decide +kernel
theorem dX4_isOfLength_12 : decode cX4_isOfLength 12 = .ok (.ldiv, 1) := by decide +kernel
theorem dX4_isOfLength_13 : decode cX4_isOfLength 13 = .ok (.invokestatic 68, 3) := by decide +kernel
theorem dX4_isOfLength_16 : decode cX4_isOfLength 16 = .ok (.iload_n 2, 1) := by decide +kernel
theorem dX4_isOfLength_17 : decode cX4_isOfLength 17 = .ok (.if_icmp .ne 7, 3) := by decide +kernel
theorem dX4_isOfLength_20 : decode cX4_isOfLength 20 = .ok (.iconst 1, 1) := by decide +kernel
theorem dX4_isOfLength_21 : decode cX4_isOfLength 21 = .ok (.goto 4, 3) := by decide +kernel
theorem dX4_isOfLength_24 : decode cX4_isOfLength 24 = .ok (.iconst 0, 1) := by decide +kernel
theorem dX4_isOfLength_25 : decode cX4_isOfLength 25 = .ok (.ireturn, 1) := by decide +kernel
theorem dX4_crosses_0 : decode cX4_crosses 0 = .ok (.iconst 0, 1) := by decide +kernel
theorem dX4_crosses_1 : decode cX4_crosses 1 = .ok (.istore 6, 2) := by decide +kernel
theorem dX4_crosses_3 : decode cX4_crosses 3 = .ok (.iconst 0, 1) := by decide +kernel
theorem dX4_crosses_4 : decode cX4_crosses 4 = .ok (.istore 7, 2) := by decide +kernel
theorem dX4_crosses_6 : decode cX4_crosses 6 = .ok (.iload 7, 2) := by decide +kernel
theorem dX4_crosses_8 : decode cX4_crosses 8 = .ok (.aload_n 0, 1) := by decide +kernel
theorem dX4_crosses_9 : decode cX4_crosses 9 = .ok (.getfield 117, 3) := by decide +kernel
theorem dX4_crosses_12 : decode cX4_crosses 12 = .ok (.if_icmp .ge 136, 3) := by decide +kernel
theorem dX4_crosses_15 : decode cX4_crosses 15 = .ok (.iload 6, 2) := by decide +kernel
theorem dX4_crosses_17 : decode cX4_crosses 17 = .ok (.ifCond .ne 131, 3) := by decide +kernel
theorem dX4_crosses_20 : decode cX4_crosses 20 = .ok (.aload_n 0, 1) := by decide +kernel
theorem dX4_crosses_21 : decode cX4_crosses 21 = .ok (.getfield 16, 3) := by decide +kernel
theorem dX4_crosses_24 : decode cX4_crosses 24 = .ok (.iload 7, 2) := by decide +kernel
theorem dX4_crosses_26 : decode cX4_crosses 26 = .ok (.iaload, 1) := by decide +kernel
theorem dX4_crosses_27 : decode cX4_crosses 27 = .ok (.invokestatic 113, 3) := by decide +kernel
theorem dX4_crosses_30 : decode cX4_crosses 30 = .ok (.lstore 8, 2) := by decide +kernel
theorem dX4_crosses_32 : decode cX4_crosses 32 = .ok (.lload_n 2, 1) := by decide +kernel
theorem dX4_crosses_33 : decode cX4_crosses 33 = .ok (.iload_n 1, 1) := by decide +kernel
theorem dX4_crosses_34 : decode cX4_crosses 34 = .ok (.invokestatic 113, 3) := by decide +kernel
theorem dX4_crosses_37 : decode cX4_crosses 37 = .ok (.aload_n 0, 1) := by decide +kernel
theorem dX4_crosses_38 : decode cX4_crosses 38 = .ok (.getfield 20, 3) := by decide +kernel
theorem dX4_crosses_41 : decode cX4_crosses 41 = .ok (.iload 7, 2) := by decide +kernel
theorem dX4_crosses_43 : decode cX4_crosses 43 = .ok (.laload, 1) := by decide +kernel
theorem dX4_crosses_44 : decode cX4_crosses 44 = .ok (.lload 8, 2) := by decide +kernel
theorem dX4_crosses_46 : decode cX4_crosses 46 = .ok (.invokestatic 98, 3) := by decide +kernel
theorem dX4_crosses_49 : decode cX4_crosses 49 = .ok (.ifCond .eq 28, 3) := by decide +kernel
theorem dX4_crosses_52 : decode cX4_crosses 52 = .ok (.aload_n 0, 1) := by decide +kernel
theorem dX4_crosses_53 : decode cX4_crosses 53 = .ok (.getfield 20, 3) := by decide +kernel
theorem dX4_crosses_56 : decode cX4_crosses 56 = .ok (.iload 7, 2) := by decide +kernel
theorem dX4_crosses_58 : decode cX4_crosses 58 = .ok (.laload, 1) := by decide +kernel
theorem dX4_crosses_59 : decode cX4_crosses 59 = .ok (.lload 8, 2) := by decide +kernel
theorem dX4_crosses_61 : decode cX4_crosses 61 = .ok (.lload 4, 2) := by decide +kernel
theorem dX4_crosses_63 : decode cX4_crosses 63 = .ok (.iload_n 1, 1) := by decide +kernel
theorem dX4_crosses_64 : decode cX4_crosses 64 = .ok (.invokestatic 113, 3) := by decide +kernel
theorem dX4_crosses_67 : decode cX4_crosses 67 = .ok (.invokestatic 98, 3) := by decide +kernel
theorem dX4_crosses_70 : decode cX4_crosses 70 = .ok (.ifCond .eq 7, 3) := by decide +kernel
theorem dX4_crosses_73 : decode cX4_crosses 73 = .ok (.iconst 1, 1) := by decide +kernel
theorem dX4_crosses_74 : decode cX4_crosses 74 = .ok (.goto 4, 3) := by decide +kernel
theorem dX4_crosses_77 : decode cX4_crosses 77 = .ok (.iconst 0, 1) := by decide +kernel
theorem dX4_crosses_78 : decode cX4_crosses 78 = .ok (.istore 10, 2) := by decide +kernel
theorem dX4_crosses_80 : decode cX4_crosses 80 = .ok (.lload_n 2, 1) := by decide +kernel
theorem dX4_crosses_81 : decode cX4_crosses 81 = .ok (.iload_n 1, 1) := by decide +kernel
theorem dX4_crosses_82 : decode cX4_crosses 82 = .ok (.invokestatic 113, 3) := by decide +kernel
theorem dX4_crosses_85 : decode cX4_crosses 85 = .ok (.aload_n 0, 1) := by decide +kernel
theorem dX4_crosses_86 : decode cX4_crosses 86 = .ok (.getfield 23, 3) := by decide +kernel
theorem dX4_crosses_89 : decode cX4_crosses 89 = .ok (.iload 7, 2) := by decide +kernel
theorem dX4_crosses_91 : decode cX4_crosses 91 = .ok (.laload, 1) := by decide +kernel
theorem dX4_crosses_92 : decode cX4_crosses 92 = .ok (.lload 8, 2) := by decide +kernel
theorem dX4_crosses_94 : decode cX4_crosses 94 = .ok (.invokestatic 98, 3) := by decide +kernel
theorem dX4_crosses_97 : decode cX4_crosses 97 = .ok (.ifCond .eq 28, 3) := by decide +kernel
theorem dX4_crosses_100 : decode cX4_crosses 100 = .ok (.aload_n 0, 1) := by decide +kernel
theorem dX4_crosses_101 : decode cX4_crosses 101 = .ok (.getfield 23, 3) := by decide +kernel
theorem dX4_crosses_104 : decode cX4_crosses 104 = .ok (.iload 7, 2) := by decide +kernel
theorem dX4_crosses_106 : decode cX4_crosses 106 = .ok (.laload, 1) := by decide +kernel
theorem dX4_crosses_107 : decode cX4_crosses 107 = .ok (.lload 8, 2) := by decide +kernel
theorem dX4_crosses_109 : decode cX4_crosses 109 = .ok (.lload 4, 2) := by decide +kernel
theorem dX4_crosses_111 : decode cX4_crosses 111 = .ok (.iload_n 1, 1) := by decide +kernel
theorem dX4_crosses_112 : decode cX4_crosses 112 = .ok (.invokestatic 113, 3) := by decide +kernel
theorem dX4_crosses_115 : decode cX4_crosses 115 = .ok (.invokestatic 98, 3) := by decide +kernel
theorem dX4_crosses_118 : decode cX4_crosses 118 = .ok (.ifCond .eq 7, 3) := by decide +kernel
theorem dX4_crosses_121 : decode cX4_crosses 121 = .ok (.iconst 1, 1) := by decide +kernel
theorem dX4_crosses_122 : decode cX4_crosses 122 = .ok (.goto 4, 3) := by decide +kernel
theorem dX4_crosses_125 : decode cX4_crosses 125 = .ok (.iconst 0, 1) := by decide +kernel
theorem dX4_crosses_126 : decode cX4_crosses 126 = .ok (.istore 11, 2) := by decide +kernel
theorem dX4_crosses_128 : decode cX4_crosses 128 = .ok (.iload 10, 2) := by decide +kernel
theorem dX4_crosses_130 : decode cX4_crosses 130 = .ok (.iload 11, 2) := by decide +kernel
theorem dX4_crosses_132 : decode cX4_crosses 132 = .ok (.if_icmp .eq 7, 3) := by decide +kernel
theorem dX4_crosses_135 : decode cX4_crosses 135 = .ok (.iconst 1, 1) := by decide +kernel
theorem dX4_crosses_136 : decode cX4_crosses 136 = .ok (.goto 4, 3) := by decide +kernel
theorem dX4_crosses_139 : decode cX4_crosses 139 = .ok (.iconst 0, 1) := by decide +kernel
theorem dX4_crosses_140 : decode cX4_crosses 140 = .ok (.istore 6, 2) := by decide +kernel
theorem dX4_crosses_142 : decode cX4_crosses 142 = .ok (.iinc 7 1, 3) := by decide +kernel
theorem dX4_crosses_145 : decode cX4_crosses 145 = .ok (.goto (-139), 3) := by decide +kernel
theorem dX4_crosses_148 : decode cX4_crosses 148 = .ok (.iload 6, 2) := by decide +kernel
theorem dX4_crosses_150 : decode cX4_crosses 150 = .ok (.ireturn, 1) := by decide +kernel
theorem dX4_pairs0_0 : decode cX4_pairs0 0 = .ok (.aload_n 0, 1) := by decide +kernel
theorem dX4_pairs0_1 : decode cX4_pairs0 1 = .ok (.getfield 16, 3) := by decide +kernel
theorem dX4_pairs0_4 : decode cX4_pairs0 4 = .ok (.aload_n 0, 1) := by decide +kernel
theorem dX4_pairs0_5 : decode cX4_pairs0 5 = .ok (.getfield 117, 3) := by decide +kernel
theorem dX4_pairs0_8 : decode cX4_pairs0 8 = .ok (.iload_n 1, 1) := by decide +kernel
theorem dX4_pairs0_9 : decode cX4_pairs0 9 = .ok (.iastore, 1) := by decide +kernel
theorem dX4_pairs0_10 : decode cX4_pairs0 10 = .ok (.aload_n 0, 1) := by decide +kernel
theorem dX4_pairs0_11 : decode cX4_pairs0 11 = .ok (.getfield 20, 3) := by decide +kernel
theorem dX4_pairs0_14 : decode cX4_pairs0 14 = .ok (.aload_n 0, 1) := by decide +kernel
theorem dX4_pairs0_15 : decode cX4_pairs0 15 = .ok (.getfield 117, 3) := by decide +kernel
theorem dX4_pairs0_18 : decode cX4_pairs0 18 = .ok (.lload_n 2, 1) := by decide +kernel
theorem dX4_pairs0_19 : decode cX4_pairs0 19 = .ok (.lastore, 1) := by decide +kernel
theorem dX4_pairs0_20 : decode cX4_pairs0 20 = .ok (.aload_n 0, 1) := by decide +kernel
theorem dX4_pairs0_21 : decode cX4_pairs0 21 = .ok (.getfield 23, 3) := by decide +kernel
theorem dX4_pairs0_24 : decode cX4_pairs0 24 = .ok (.aload_n 0, 1) := by decide +kernel
theorem dX4_pairs0_25 : decode cX4_pairs0 25 = .ok (.getfield 117, 3) := by decide +kernel
theorem dX4_pairs0_28 : decode cX4_pairs0 28 = .ok (.lload 4, 2) := by decide +kernel
theorem dX4_pairs0_30 : decode cX4_pairs0 30 = .ok (.lastore, 1) := by decide +kernel
theorem dX4_pairs0_31 : decode cX4_pairs0 31 = .ok (.aload_n 0, 1) := by decide +kernel
theorem dX4_pairs0_32 : decode cX4_pairs0 32 = .ok (.dup, 1) := by decide +kernel
theorem dX4_pairs0_33 : decode cX4_pairs0 33 = .ok (.getfield 117, 3) := by decide +kernel
theorem dX4_pairs0_36 : decode cX4_pairs0 36 = .ok (.iconst 1, 1) := by decide +kernel
theorem dX4_pairs0_37 : decode cX4_pairs0 37 = .ok (.iadd, 1) := by decide +kernel
theorem dX4_pairs0_38 : decode cX4_pairs0 38 = .ok (.putfield 117, 3) := by decide +kernel
theorem dX4_pairs0_41 : decode cX4_pairs0 41 = .ok (.return_, 1) := by decide +kernel
theorem dX4_findPairs_0 : decode cX4_findPairs 0 = .ok (.aload_n 0, 1) := by decide +kernel
theorem dX4_findPairs_1 : decode cX4_findPairs 1 = .ok (.iconst 1, 1) := by decide +kernel
theorem dX4_findPairs_2 : decode cX4_findPairs 2 = .ok (.lconst 0, 1) := by decide +kernel
theorem dX4_findPairs_3 : decode cX4_findPairs 3 = .ok (.lconst 0, 1) := by decide +kernel
theorem dX4_findPairs_4 : decode cX4_findPairs 4 = .ok (.invokevirtual 120, 3) := by decide +kernel
theorem dX4_findPairs_7 : decode cX4_findPairs 7 = .ok (.iconst 2, 1) := by decide +kernel
theorem dX4_findPairs_8 : decode cX4_findPairs 8 = .ok (.istore_n 1, 1) := by decide +kernel
theorem dX4_findPairs_9 : decode cX4_findPairs 9 = .ok (.iload_n 1, 1) := by decide +kernel
theorem dX4_findPairs_10 : decode cX4_findPairs 10 = .ok (.bipush 8, 2) := by decide +kernel
theorem dX4_findPairs_12 : decode cX4_findPairs 12 = .ok (.if_icmp .gt 140, 3) := by decide +kernel
theorem dX4_findPairs_15 : decode cX4_findPairs 15 = .ok (.iconst 0, 1) := by decide +kernel
theorem dX4_findPairs_16 : decode cX4_findPairs 16 = .ok (.istore_n 2, 1) := by decide +kernel
theorem dX4_findPairs_17 : decode cX4_findPairs 17 = .ok (.iload_n 2, 1) := by decide +kernel
theorem dX4_findPairs_18 : decode cX4_findPairs 18 = .ok (.sipush 256, 3) := by decide +kernel
theorem dX4_findPairs_21 : decode cX4_findPairs 21 = .ok (.if_icmp .ge 44, 3) := by decide +kernel
theorem dX4_findPairs_24 : decode cX4_findPairs 24 = .ok (.aload_n 0, 1) := by decide +kernel
theorem dX4_findPairs_25 : decode cX4_findPairs 25 = .ok (.getfield 26, 3) := by decide +kernel
theorem dX4_findPairs_28 : decode cX4_findPairs 28 = .ok (.iload_n 2, 1) := by decide +kernel
theorem dX4_findPairs_29 : decode cX4_findPairs 29 = .ok (.iload_n 2, 1) := by decide +kernel
theorem dX4_findPairs_30 : decode cX4_findPairs 30 = .ok (.i2l, 1) := by decide +kernel
theorem dX4_findPairs_31 : decode cX4_findPairs 31 = .ok (.lconst 1, 1) := by decide +kernel
theorem dX4_findPairs_32 : decode cX4_findPairs 32 = .ok (.iload_n 1, 1) := by decide +kernel
theorem dX4_findPairs_33 : decode cX4_findPairs 33 = .ok (.invokestatic 113, 3) := by decide +kernel
theorem dX4_findPairs_36 : decode cX4_findPairs 36 = .ok (.lconst 1, 1) := by decide +kernel
theorem dX4_findPairs_37 : decode cX4_findPairs 37 = .ok (.lsub, 1) := by decide +kernel
theorem dX4_findPairs_38 : decode cX4_findPairs 38 = .ok (.invokestatic 46, 3) := by decide +kernel
theorem dX4_findPairs_41 : decode cX4_findPairs 41 = .ok (.ifCond .eq 12, 3) := by decide +kernel
theorem dX4_findPairs_44 : decode cX4_findPairs 44 = .ok (.iload_n 2, 1) := by decide +kernel
theorem dX4_findPairs_45 : decode cX4_findPairs 45 = .ok (.i2l, 1) := by decide +kernel
theorem dX4_findPairs_46 : decode cX4_findPairs 46 = .ok (.iload_n 1, 1) := by decide +kernel
theorem dX4_findPairs_47 : decode cX4_findPairs 47 = .ok (.invokestatic 124, 3) := by decide +kernel
theorem dX4_findPairs_50 : decode cX4_findPairs 50 = .ok (.ifCond .ne 7, 3) := by decide +kernel
theorem dX4_findPairs_53 : decode cX4_findPairs 53 = .ok (.iconst 1, 1) := by decide +kernel
theorem dX4_findPairs_54 : decode cX4_findPairs 54 = .ok (.goto 4, 3) := by decide +kernel
theorem dX4_findPairs_57 : decode cX4_findPairs 57 = .ok (.iconst 0, 1) := by decide +kernel
theorem dX4_findPairs_58 : decode cX4_findPairs 58 = .ok (.bastore, 1) := by decide +kernel
theorem dX4_findPairs_59 : decode cX4_findPairs 59 = .ok (.iinc 2 1, 3) := by decide +kernel
theorem dX4_findPairs_62 : decode cX4_findPairs 62 = .ok (.goto (-45), 3) := by decide +kernel
theorem dX4_findPairs_65 : decode cX4_findPairs 65 = .ok (.iconst 1, 1) := by decide +kernel
theorem dX4_findPairs_66 : decode cX4_findPairs 66 = .ok (.istore_n 2, 1) := by decide +kernel
theorem dX4_findPairs_67 : decode cX4_findPairs 67 = .ok (.iload_n 2, 1) := by decide +kernel
theorem dX4_findPairs_68 : decode cX4_findPairs 68 = .ok (.i2l, 1) := by decide +kernel
theorem dX4_findPairs_69 : decode cX4_findPairs 69 = .ok (.iload_n 1, 1) := by decide +kernel
theorem dX4_findPairs_70 : decode cX4_findPairs 70 = .ok (.invokestatic 113, 3) := by decide +kernel
theorem dX4_findPairs_73 : decode cX4_findPairs 73 = .ok (.lcmp, 1) := by decide +kernel
theorem dX4_findPairs_74 : decode cX4_findPairs 74 = .ok (.ifCond .ge 72, 3) := by decide +kernel
theorem dX4_findPairs_77 : decode cX4_findPairs 77 = .ok (.aload_n 0, 1) := by decide +kernel
theorem dX4_findPairs_78 : decode cX4_findPairs 78 = .ok (.getfield 26, 3) := by decide +kernel
theorem dX4_findPairs_81 : decode cX4_findPairs 81 = .ok (.iload_n 2, 1) := by decide +kernel
theorem dX4_findPairs_82 : decode cX4_findPairs 82 = .ok (.baload, 1) := by decide +kernel
theorem dX4_findPairs_83 : decode cX4_findPairs 83 = .ok (.ifCond .ne 57, 3) := by decide +kernel
theorem dX4_findPairs_86 : decode cX4_findPairs 86 = .ok (.iload_n 2, 1) := by decide +kernel
theorem dX4_findPairs_87 : decode cX4_findPairs 87 = .ok (.iconst 1, 1) := by decide +kernel
theorem dX4_findPairs_88 : decode cX4_findPairs 88 = .ok (.iadd, 1) := by decide +kernel
theorem dX4_findPairs_89 : decode cX4_findPairs 89 = .ok (.istore_n 3, 1) := by decide +kernel
theorem dX4_findPairs_90 : decode cX4_findPairs 90 = .ok (.aload_n 0, 1) := by decide +kernel
theorem dX4_findPairs_91 : decode cX4_findPairs 91 = .ok (.getfield 26, 3) := by decide +kernel
theorem dX4_findPairs_94 : decode cX4_findPairs 94 = .ok (.iload_n 3, 1) := by decide +kernel
theorem dX4_findPairs_95 : decode cX4_findPairs 95 = .ok (.baload, 1) := by decide +kernel
theorem dX4_findPairs_96 : decode cX4_findPairs 96 = .ok (.ifCond .ne 15, 3) := by decide +kernel
theorem dX4_findPairs_99 : decode cX4_findPairs 99 = .ok (.aload_n 0, 1) := by decide +kernel
theorem dX4_findPairs_100 : decode cX4_findPairs 100 = .ok (.iload_n 1, 1) := by decide +kernel
theorem dX4_findPairs_101 : decode cX4_findPairs 101 = .ok (.iload_n 2, 1) := by decide +kernel
theorem dX4_findPairs_102 : decode cX4_findPairs 102 = .ok (.i2l, 1) := by decide +kernel
theorem dX4_findPairs_103 : decode cX4_findPairs 103 = .ok (.iload_n 3, 1) := by decide +kernel
theorem dX4_findPairs_104 : decode cX4_findPairs 104 = .ok (.i2l, 1) := by decide +kernel
theorem dX4_findPairs_105 : decode cX4_findPairs 105 = .ok (.invokevirtual 128, 3) := by decide +kernel
theorem dX4_findPairs_108 : decode cX4_findPairs 108 = .ok (.ifCond .eq 9, 3) := by decide +kernel
theorem dX4_findPairs_111 : decode cX4_findPairs 111 = .ok (.iinc 3 1, 3) := by decide +kernel
theorem dX4_findPairs_114 : decode cX4_findPairs 114 = .ok (.goto (-24), 3) := by decide +kernel
theorem dX4_findPairs_117 : decode cX4_findPairs 117 = .ok (.aload_n 0, 1) := by decide +kernel
theorem dX4_findPairs_118 : decode cX4_findPairs 118 = .ok (.getfield 26, 3) := by decide +kernel
theorem dX4_findPairs_121 : decode cX4_findPairs 121 = .ok (.iload_n 2, 1) := by decide +kernel
theorem dX4_findPairs_122 : decode cX4_findPairs 122 = .ok (.iconst 1, 1) := by decide +kernel
theorem dX4_findPairs_123 : decode cX4_findPairs 123 = .ok (.bastore, 1) := by decide +kernel
theorem dX4_findPairs_124 : decode cX4_findPairs 124 = .ok (.aload_n 0, 1) := by decide +kernel
theorem dX4_findPairs_125 : decode cX4_findPairs 125 = .ok (.getfield 26, 3) := by decide +kernel
theorem dX4_findPairs_128 : decode cX4_findPairs 128 = .ok (.iload_n 3, 1) := by decide +kernel
theorem dX4_findPairs_129 : decode cX4_findPairs 129 = .ok (.iconst 1, 1) := by decide +kernel
theorem dX4_findPairs_130 : decode cX4_findPairs 130 = .ok (.bastore, 1) := by decide +kernel
theorem dX4_findPairs_131 : decode cX4_findPairs 131 = .ok (.aload_n 0, 1) := by decide +kernel
theorem dX4_findPairs_132 : decode cX4_findPairs 132 = .ok (.iload_n 1, 1) := by decide +kernel
theorem dX4_findPairs_133 : decode cX4_findPairs 133 = .ok (.iload_n 2, 1) := by decide +kernel
theorem dX4_findPairs_134 : decode cX4_findPairs 134 = .ok (.i2l, 1) := by decide +kernel
theorem dX4_findPairs_135 : decode cX4_findPairs 135 = .ok (.iload_n 3, 1) := by decide +kernel
theorem dX4_findPairs_136 : decode cX4_findPairs 136 = .ok (.i2l, 1) := by decide +kernel
theorem dX4_findPairs_137 : decode cX4_findPairs 137 = .ok (.invokevirtual 120, 3) := by decide +kernel
theorem dX4_findPairs_140 : decode cX4_findPairs 140 = .ok (.iinc 2 1, 3) := by decide +kernel
theorem dX4_findPairs_143 : decode cX4_findPairs 143 = .ok (.goto (-76), 3) := by decide +kernel
theorem dX4_findPairs_146 : decode cX4_findPairs 146 = .ok (.iinc 1 1, 3) := by decide +kernel
theorem dX4_findPairs_149 : decode cX4_findPairs 149 = .ok (.goto (-140), 3) := by decide +kernel
theorem dX4_findPairs_152 : decode cX4_findPairs 152 = .ok (.return_, 1) := by decide +kernel
theorem dX4_pairs_0 : decode cX4_pairs 0 = .ok (.iload_n 1, 1) := by decide +kernel
theorem dX4_pairs_1 : decode cX4_pairs 1 = .ok (.i2l, 1) := by decide +kernel
theorem dX4_pairs_2 : decode cX4_pairs 2 = .ok (.lconst 1, 1) := by decide +kernel
theorem dX4_pairs_3 : decode cX4_pairs 3 = .ok (.ldc2_w 132, 3) := by decide +kernel
theorem dX4_pairs_6 : decode cX4_pairs 6 = .ok (.invokestatic 46, 3) := by decide +kernel
theorem dX4_pairs_9 : decode cX4_pairs 9 = .ok (.ifCond .ne 5, 3) := by decide +kernel
theorem dX4_pairs_12 : decode cX4_pairs 12 = .ok (.iconst (-1), 1) := by decide +kernel
theorem dX4_pairs_13 : decode cX4_pairs 13 = .ok (.ireturn, 1) := by decide +kernel
theorem dX4_pairs_14 : decode cX4_pairs 14 = .ok (.iconst 0, 1) := by decide +kernel
theorem dX4_pairs_15 : decode cX4_pairs 15 = .ok (.istore_n 2, 1) := by decide +kernel
theorem dX4_pairs_16 : decode cX4_pairs 16 = .ok (.iconst 0, 1) := by decide +kernel
theorem dX4_pairs_17 : decode cX4_pairs 17 = .ok (.istore_n 3, 1) := by decide +kernel
theorem dX4_pairs_18 : decode cX4_pairs 18 = .ok (.iload_n 3, 1) := by decide +kernel
theorem dX4_pairs_19 : decode cX4_pairs 19 = .ok (.aload_n 0, 1) := by decide +kernel
theorem dX4_pairs_20 : decode cX4_pairs 20 = .ok (.getfield 117, 3) := by decide +kernel
theorem dX4_pairs_23 : decode cX4_pairs 23 = .ok (.if_icmp .ge 27, 3) := by decide +kernel
theorem dX4_pairs_26 : decode cX4_pairs 26 = .ok (.iload_n 2, 1) := by decide +kernel
theorem dX4_pairs_27 : decode cX4_pairs 27 = .ok (.aload_n 0, 1) := by decide +kernel
theorem dX4_pairs_28 : decode cX4_pairs 28 = .ok (.getfield 16, 3) := by decide +kernel
theorem dX4_pairs_31 : decode cX4_pairs 31 = .ok (.iload_n 3, 1) := by decide +kernel
theorem dX4_pairs_32 : decode cX4_pairs 32 = .ok (.iaload, 1) := by decide +kernel
theorem dX4_pairs_33 : decode cX4_pairs 33 = .ok (.iload_n 1, 1) := by decide +kernel
theorem dX4_pairs_34 : decode cX4_pairs 34 = .ok (.if_icmp .ne 7, 3) := by decide +kernel
theorem dX4_pairs_37 : decode cX4_pairs 37 = .ok (.iconst 1, 1) := by decide +kernel
theorem dX4_pairs_38 : decode cX4_pairs 38 = .ok (.goto 4, 3) := by decide +kernel
theorem dX4_pairs_41 : decode cX4_pairs 41 = .ok (.iconst 0, 1) := by decide +kernel
theorem dX4_pairs_42 : decode cX4_pairs 42 = .ok (.iadd, 1) := by decide +kernel
theorem dX4_pairs_43 : decode cX4_pairs 43 = .ok (.istore_n 2, 1) := by decide +kernel
theorem dX4_pairs_44 : decode cX4_pairs 44 = .ok (.iinc 3 1, 3) := by decide +kernel
theorem dX4_pairs_47 : decode cX4_pairs 47 = .ok (.goto (-29), 3) := by decide +kernel
theorem dX4_pairs_50 : decode cX4_pairs 50 = .ok (.iload_n 2, 1) := by decide +kernel
theorem dX4_pairs_51 : decode cX4_pairs 51 = .ok (.ireturn, 1) := by decide +kernel
theorem dX4_firstOf_0 : decode cX4_firstOf 0 = .ok (.iconst 0, 1) := by decide +kernel
theorem dX4_firstOf_1 : decode cX4_firstOf 1 = .ok (.istore_n 2, 1) := by decide +kernel
theorem dX4_firstOf_2 : decode cX4_firstOf 2 = .ok (.aload_n 0, 1) := by decide +kernel
theorem dX4_firstOf_3 : decode cX4_firstOf 3 = .ok (.getfield 16, 3) := by decide +kernel
theorem dX4_firstOf_6 : decode cX4_firstOf 6 = .ok (.iload_n 2, 1) := by decide +kernel
theorem dX4_firstOf_7 : decode cX4_firstOf 7 = .ok (.iaload, 1) := by decide +kernel
theorem dX4_firstOf_8 : decode cX4_firstOf 8 = .ok (.iload_n 1, 1) := by decide +kernel
theorem dX4_firstOf_9 : decode cX4_firstOf 9 = .ok (.if_icmp .ge 9, 3) := by decide +kernel
theorem dX4_firstOf_12 : decode cX4_firstOf 12 = .ok (.iinc 2 1, 3) := by decide +kernel
theorem dX4_firstOf_15 : decode cX4_firstOf 15 = .ok (.goto (-13), 3) := by decide +kernel
theorem dX4_firstOf_18 : decode cX4_firstOf 18 = .ok (.iload_n 2, 1) := by decide +kernel
theorem dX4_firstOf_19 : decode cX4_firstOf 19 = .ok (.ireturn, 1) := by decide +kernel
theorem dX4_pair_0 : decode cX4_pair 0 = .ok (.iload_n 1, 1) := by decide +kernel
theorem dX4_pair_1 : decode cX4_pair 1 = .ok (.i2l, 1) := by decide +kernel
theorem dX4_pair_2 : decode cX4_pair 2 = .ok (.lconst 1, 1) := by decide +kernel
theorem dX4_pair_3 : decode cX4_pair 3 = .ok (.ldc2_w 132, 3) := by decide +kernel
theorem dX4_pair_6 : decode cX4_pair 6 = .ok (.invokestatic 46, 3) := by decide +kernel
theorem dX4_pair_9 : decode cX4_pair 9 = .ok (.ifCond .eq 17, 3) := by decide +kernel
theorem dX4_pair_12 : decode cX4_pair 12 = .ok (.iload_n 2, 1) := by decide +kernel
theorem dX4_pair_13 : decode cX4_pair 13 = .ok (.ifCond .lt 13, 3) := by decide +kernel
theorem dX4_pair_16 : decode cX4_pair 16 = .ok (.iload_n 3, 1) := by decide +kernel
theorem dX4_pair_17 : decode cX4_pair 17 = .ok (.i2l, 1) := by decide +kernel
theorem dX4_pair_18 : decode cX4_pair 18 = .ok (.lconst 0, 1) := by decide +kernel
theorem dX4_pair_19 : decode cX4_pair 19 = .ok (.lconst 1, 1) := by decide +kernel
theorem dX4_pair_20 : decode cX4_pair 20 = .ok (.invokestatic 46, 3) := by decide +kernel
theorem dX4_pair_23 : decode cX4_pair 23 = .ok (.ifCond .ne 5, 3) := by decide +kernel
theorem dX4_pair_26 : decode cX4_pair 26 = .ok (.iconst (-1), 1) := by decide +kernel
theorem dX4_pair_27 : decode cX4_pair 27 = .ok (.ireturn, 1) := by decide +kernel
theorem dX4_pair_28 : decode cX4_pair 28 = .ok (.iload_n 2, 1) := by decide +kernel
theorem dX4_pair_29 : decode cX4_pair 29 = .ok (.aload_n 0, 1) := by decide +kernel
theorem dX4_pair_30 : decode cX4_pair 30 = .ok (.iload_n 1, 1) := by decide +kernel
theorem dX4_pair_31 : decode cX4_pair 31 = .ok (.invokevirtual 134, 3) := by decide +kernel
theorem dX4_pair_34 : decode cX4_pair 34 = .ok (.if_icmp .lt 6, 3) := by decide +kernel
theorem dX4_pair_37 : decode cX4_pair 37 = .ok (.bipush (-4), 2) := by decide +kernel
theorem dX4_pair_39 : decode cX4_pair 39 = .ok (.ireturn, 1) := by decide +kernel
theorem dX4_pair_40 : decode cX4_pair 40 = .ok (.aload_n 0, 1) := by decide +kernel
theorem dX4_pair_41 : decode cX4_pair 41 = .ok (.iload_n 1, 1) := by decide +kernel
theorem dX4_pair_42 : decode cX4_pair 42 = .ok (.invokevirtual 137, 3) := by decide +kernel
theorem dX4_pair_45 : decode cX4_pair 45 = .ok (.iload_n 2, 1) := by decide +kernel
theorem dX4_pair_46 : decode cX4_pair 46 = .ok (.iadd, 1) := by decide +kernel
theorem dX4_pair_47 : decode cX4_pair 47 = .ok (.istore 4, 2) := by decide +kernel
theorem dX4_pair_49 : decode cX4_pair 49 = .ok (.iload_n 3, 1) := by decide +kernel
theorem dX4_pair_50 : decode cX4_pair 50 = .ok (.ifCond .ne 13, 3) := by decide +kernel
theorem dX4_pair_53 : decode cX4_pair 53 = .ok (.aload_n 0, 1) := by decide +kernel
theorem dX4_pair_54 : decode cX4_pair 54 = .ok (.getfield 20, 3) := by decide +kernel
theorem dX4_pair_57 : decode cX4_pair 57 = .ok (.iload 4, 2) := by decide +kernel
theorem dX4_pair_59 : decode cX4_pair 59 = .ok (.laload, 1) := by decide +kernel
theorem dX4_pair_60 : decode cX4_pair 60 = .ok (.goto 10, 3) := by decide +kernel
theorem dX4_pair_63 : decode cX4_pair 63 = .ok (.aload_n 0, 1) := by decide +kernel
theorem dX4_pair_64 : decode cX4_pair 64 = .ok (.getfield 23, 3) := by decide +kernel
theorem dX4_pair_67 : decode cX4_pair 67 = .ok (.iload 4, 2) := by decide +kernel
theorem dX4_pair_69 : decode cX4_pair 69 = .ok (.laload, 1) := by decide +kernel
theorem dX4_pair_70 : decode cX4_pair 70 = .ok (.l2i, 1) := by decide +kernel
theorem dX4_pair_71 : decode cX4_pair 71 = .ok (.ireturn, 1) := by decide +kernel
theorem dX4_pairOf_0 : decode cX4_pairOf 0 = .ok (.aload_n 0, 1) := by decide +kernel
theorem dX4_pairOf_1 : decode cX4_pairOf 1 = .ok (.iload_n 1, 1) := by decide +kernel
theorem dX4_pairOf_2 : decode cX4_pairOf 2 = .ok (.invokevirtual 95, 3) := by decide +kernel
theorem dX4_pairOf_5 : decode cX4_pairOf 5 = .ok (.ifCond .ne 6, 3) := by decide +kernel
theorem dX4_pairOf_8 : decode cX4_pairOf 8 = .ok (.bipush (-4), 2) := by decide +kernel
theorem dX4_pairOf_10 : decode cX4_pairOf 10 = .ok (.ireturn, 1) := by decide +kernel
theorem dX4_pairOf_11 : decode cX4_pairOf 11 = .ok (.aload_n 0, 1) := by decide +kernel
theorem dX4_pairOf_12 : decode cX4_pairOf 12 = .ok (.getfield 13, 3) := by decide +kernel
theorem dX4_pairOf_15 : decode cX4_pairOf 15 = .ok (.iload_n 1, 1) := by decide +kernel
theorem dX4_pairOf_16 : decode cX4_pairOf 16 = .ok (.laload, 1) := by decide +kernel
theorem dX4_pairOf_17 : decode cX4_pairOf 17 = .ok (.invokestatic 68, 3) := by decide +kernel
theorem dX4_pairOf_20 : decode cX4_pairOf 20 = .ok (.istore_n 2, 1) := by decide +kernel
theorem dX4_pairOf_21 : decode cX4_pairOf 21 = .ok (.iload_n 2, 1) := by decide +kernel
theorem dX4_pairOf_22 : decode cX4_pairOf 22 = .ok (.bipush 8, 2) := by decide +kernel
theorem dX4_pairOf_24 : decode cX4_pairOf 24 = .ok (.if_icmp .le 6, 3) := by decide +kernel
theorem dX4_pairOf_27 : decode cX4_pairOf 27 = .ok (.bipush (-4), 2) := by decide +kernel
theorem dX4_pairOf_29 : decode cX4_pairOf 29 = .ok (.ireturn, 1) := by decide +kernel
theorem dX4_pairOf_30 : decode cX4_pairOf 30 = .ok (.aload_n 0, 1) := by decide +kernel
theorem dX4_pairOf_31 : decode cX4_pairOf 31 = .ok (.getfield 7, 3) := by decide +kernel
theorem dX4_pairOf_34 : decode cX4_pairOf 34 = .ok (.iload_n 1, 1) := by decide +kernel
theorem dX4_pairOf_35 : decode cX4_pairOf 35 = .ok (.laload, 1) := by decide +kernel
theorem dX4_pairOf_36 : decode cX4_pairOf 36 = .ok (.iload_n 2, 1) := by decide +kernel
theorem dX4_pairOf_37 : decode cX4_pairOf 37 = .ok (.invokestatic 113, 3) := by decide +kernel
theorem dX4_pairOf_40 : decode cX4_pairOf 40 = .ok (.aload_n 0, 1) := by decide +kernel
theorem dX4_pairOf_41 : decode cX4_pairOf 41 = .ok (.getfield 13, 3) := by decide +kernel
theorem dX4_pairOf_44 : decode cX4_pairOf 44 = .ok (.iload_n 1, 1) := by decide +kernel
theorem dX4_pairOf_45 : decode cX4_pairOf 45 = .ok (.laload, 1) := by decide +kernel
theorem dX4_pairOf_46 : decode cX4_pairOf 46 = .ok (.ldiv, 1) := by decide +kernel
theorem dX4_pairOf_47 : decode cX4_pairOf 47 = .ok (.lmul, 1) := by decide +kernel
theorem dX4_pairOf_48 : decode cX4_pairOf 48 = .ok (.lstore_n 3, 1) := by decide +kernel
theorem dX4_pairOf_49 : decode cX4_pairOf 49 = .ok (.iconst 0, 1) := by decide +kernel
theorem dX4_pairOf_50 : decode cX4_pairOf 50 = .ok (.istore 5, 2) := by decide +kernel
theorem dX4_pairOf_52 : decode cX4_pairOf 52 = .ok (.aload_n 0, 1) := by decide +kernel
theorem dX4_pairOf_53 : decode cX4_pairOf 53 = .ok (.getfield 16, 3) := by decide +kernel
theorem dX4_pairOf_56 : decode cX4_pairOf 56 = .ok (.iload 5, 2) := by decide +kernel
theorem dX4_pairOf_58 : decode cX4_pairOf 58 = .ok (.iaload, 1) := by decide +kernel
theorem dX4_pairOf_59 : decode cX4_pairOf 59 = .ok (.iload_n 2, 1) := by decide +kernel
theorem dX4_pairOf_60 : decode cX4_pairOf 60 = .ok (.if_icmp .ne 27, 3) := by decide +kernel
theorem dX4_pairOf_63 : decode cX4_pairOf 63 = .ok (.aload_n 0, 1) := by decide +kernel
theorem dX4_pairOf_64 : decode cX4_pairOf 64 = .ok (.getfield 20, 3) := by decide +kernel
theorem dX4_pairOf_67 : decode cX4_pairOf 67 = .ok (.iload 5, 2) := by decide +kernel
theorem dX4_pairOf_69 : decode cX4_pairOf 69 = .ok (.laload, 1) := by decide +kernel
theorem dX4_pairOf_70 : decode cX4_pairOf 70 = .ok (.lload_n 3, 1) := by decide +kernel
theorem dX4_pairOf_71 : decode cX4_pairOf 71 = .ok (.lcmp, 1) := by decide +kernel
theorem dX4_pairOf_72 : decode cX4_pairOf 72 = .ok (.ifCond .eq 21, 3) := by decide +kernel
theorem dX4_pairOf_75 : decode cX4_pairOf 75 = .ok (.aload_n 0, 1) := by decide +kernel
theorem dX4_pairOf_76 : decode cX4_pairOf 76 = .ok (.getfield 23, 3) := by decide +kernel
theorem dX4_pairOf_79 : decode cX4_pairOf 79 = .ok (.iload 5, 2) := by decide +kernel
theorem dX4_pairOf_81 : decode cX4_pairOf 81 = .ok (.laload, 1) := by decide +kernel
theorem dX4_pairOf_82 : decode cX4_pairOf 82 = .ok (.lload_n 3, 1) := by decide +kernel
theorem dX4_pairOf_83 : decode cX4_pairOf 83 = .ok (.lcmp, 1) := by decide +kernel
theorem dX4_pairOf_84 : decode cX4_pairOf 84 = .ok (.ifCond .eq 9, 3) := by decide +kernel
theorem dX4_pairOf_87 : decode cX4_pairOf 87 = .ok (.iinc 5 1, 3) := by decide +kernel
theorem dX4_pairOf_90 : decode cX4_pairOf 90 = .ok (.goto (-38), 3) := by decide +kernel
theorem dX4_pairOf_93 : decode cX4_pairOf 93 = .ok (.iload 5, 2) := by decide +kernel
theorem dX4_pairOf_95 : decode cX4_pairOf 95 = .ok (.ireturn, 1) := by decide +kernel
theorem dX4_partner_0 : decode cX4_partner 0 = .ok (.aload_n 0, 1) := by decide +kernel
theorem dX4_partner_1 : decode cX4_partner 1 = .ok (.iload_n 1, 1) := by decide +kernel
theorem dX4_partner_2 : decode cX4_partner 2 = .ok (.invokevirtual 58, 3) := by decide +kernel
theorem dX4_partner_5 : decode cX4_partner 5 = .ok (.ifCond .ne 5, 3) := by decide +kernel
theorem dX4_partner_8 : decode cX4_partner 8 = .ok (.iconst (-1), 1) := by decide +kernel
theorem dX4_partner_9 : decode cX4_partner 9 = .ok (.ireturn, 1) := by decide +kernel
theorem dX4_partner_10 : decode cX4_partner 10 = .ok (.aload_n 0, 1) := by decide +kernel
theorem dX4_partner_11 : decode cX4_partner 11 = .ok (.iload_n 1, 1) := by decide +kernel
end
section
theorem dX4_partner_12 : decode cX4_partner 12 = .ok (.invokevirtual 140, 3) := by decide +kernel
theorem dX4_partner_15 : decode cX4_partner 15 = .ok (.istore_n 2, 1) := by decide +kernel
theorem dX4_partner_16 : decode cX4_partner 16 = .ok (.iload_n 2, 1) := by decide +kernel
theorem dX4_partner_17 : decode cX4_partner 17 = .ok (.bipush (-4), 2) := by decide +kernel
theorem dX4_partner_19 : decode cX4_partner 19 = .ok (.if_icmp .ne 6, 3) := by decide +kernel
theorem dX4_partner_22 : decode cX4_partner 22 = .ok (.bipush (-2), 2) := by decide +kernel
theorem dX4_partner_24 : decode cX4_partner 24 = .ok (.ireturn, 1) := by decide +kernel
theorem dX4_partner_25 : decode cX4_partner 25 = .ok (.aload_n 0, 1) := by decide +kernel
theorem dX4_partner_26 : decode cX4_partner 26 = .ok (.getfield 16, 3) := by decide +kernel
theorem dX4_partner_29 : decode cX4_partner 29 = .ok (.iload_n 2, 1) := by decide +kernel
theorem dX4_partner_30 : decode cX4_partner 30 = .ok (.iaload, 1) := by decide +kernel
theorem dX4_partner_31 : decode cX4_partner 31 = .ok (.invokestatic 113, 3) := by decide +kernel
theorem dX4_partner_34 : decode cX4_partner 34 = .ok (.lstore_n 3, 1) := by decide +kernel
theorem dX4_partner_35 : decode cX4_partner 35 = .ok (.aload_n 0, 1) := by decide +kernel
theorem dX4_partner_36 : decode cX4_partner 36 = .ok (.getfield 7, 3) := by decide +kernel
theorem dX4_partner_39 : decode cX4_partner 39 = .ok (.iload_n 1, 1) := by decide +kernel
theorem dX4_partner_40 : decode cX4_partner 40 = .ok (.laload, 1) := by decide +kernel
theorem dX4_partner_41 : decode cX4_partner 41 = .ok (.lload_n 3, 1) := by decide +kernel
theorem dX4_partner_42 : decode cX4_partner 42 = .ok (.aload_n 0, 1) := by decide +kernel
theorem dX4_partner_43 : decode cX4_partner 43 = .ok (.getfield 13, 3) := by decide +kernel
theorem dX4_partner_46 : decode cX4_partner 46 = .ok (.iload_n 1, 1) := by decide +kernel
theorem dX4_partner_47 : decode cX4_partner 47 = .ok (.laload, 1) := by decide +kernel
theorem dX4_partner_48 : decode cX4_partner 48 = .ok (.ldiv, 1) := by decide +kernel
theorem dX4_partner_49 : decode cX4_partner 49 = .ok (.lmul, 1) := by decide +kernel
theorem dX4_partner_50 : decode cX4_partner 50 = .ok (.lstore 5, 2) := by decide +kernel
theorem dX4_partner_52 : decode cX4_partner 52 = .ok (.aload_n 0, 1) := by decide +kernel
theorem dX4_partner_53 : decode cX4_partner 53 = .ok (.lload 5, 2) := by decide +kernel
theorem dX4_partner_55 : decode cX4_partner 55 = .ok (.aload_n 0, 1) := by decide +kernel
theorem dX4_partner_56 : decode cX4_partner 56 = .ok (.getfield 20, 3) := by decide +kernel
theorem dX4_partner_59 : decode cX4_partner 59 = .ok (.iload_n 2, 1) := by decide +kernel
theorem dX4_partner_60 : decode cX4_partner 60 = .ok (.laload, 1) := by decide +kernel
theorem dX4_partner_61 : decode cX4_partner 61 = .ok (.lcmp, 1) := by decide +kernel
theorem dX4_partner_62 : decode cX4_partner 62 = .ok (.ifCond .ne 12, 3) := by decide +kernel
theorem dX4_partner_65 : decode cX4_partner 65 = .ok (.aload_n 0, 1) := by decide +kernel
theorem dX4_partner_66 : decode cX4_partner 66 = .ok (.getfield 23, 3) := by decide +kernel
theorem dX4_partner_69 : decode cX4_partner 69 = .ok (.iload_n 2, 1) := by decide +kernel
theorem dX4_partner_70 : decode cX4_partner 70 = .ok (.laload, 1) := by decide +kernel
theorem dX4_partner_71 : decode cX4_partner 71 = .ok (.goto 9, 3) := by decide +kernel
theorem dX4_partner_74 : decode cX4_partner 74 = .ok (.aload_n 0, 1) := by decide +kernel
theorem dX4_partner_75 : decode cX4_partner 75 = .ok (.getfield 20, 3) := by decide +kernel
theorem dX4_partner_78 : decode cX4_partner 78 = .ok (.iload_n 2, 1) := by decide +kernel
theorem dX4_partner_79 : decode cX4_partner 79 = .ok (.laload, 1) := by decide +kernel
theorem dX4_partner_80 : decode cX4_partner 80 = .ok (.lload_n 3, 1) := by decide +kernel
theorem dX4_partner_81 : decode cX4_partner 81 = .ok (.invokevirtual 52, 3) := by decide +kernel
theorem dX4_partner_84 : decode cX4_partner 84 = .ok (.ireturn, 1) := by decide +kernel
theorem dX4_holdsAngle_0 : decode cX4_holdsAngle 0 = .ok (.aload_n 0, 1) := by decide +kernel
theorem dX4_holdsAngle_1 : decode cX4_holdsAngle 1 = .ok (.getfield 16, 3) := by decide +kernel
theorem dX4_holdsAngle_4 : decode cX4_holdsAngle 4 = .ok (.iload_n 1, 1) := by decide +kernel
theorem dX4_holdsAngle_5 : decode cX4_holdsAngle 5 = .ok (.iaload, 1) := by decide +kernel
theorem dX4_holdsAngle_6 : decode cX4_holdsAngle 6 = .ok (.invokestatic 113, 3) := by decide +kernel
theorem dX4_holdsAngle_9 : decode cX4_holdsAngle 9 = .ok (.lstore_n 3, 1) := by decide +kernel
theorem dX4_holdsAngle_10 : decode cX4_holdsAngle 10 = .ok (.aload_n 0, 1) := by decide +kernel
theorem dX4_holdsAngle_11 : decode cX4_holdsAngle 11 = .ok (.getfield 7, 3) := by decide +kernel
theorem dX4_holdsAngle_14 : decode cX4_holdsAngle 14 = .ok (.iload_n 2, 1) := by decide +kernel
theorem dX4_holdsAngle_15 : decode cX4_holdsAngle 15 = .ok (.laload, 1) := by decide +kernel
theorem dX4_holdsAngle_16 : decode cX4_holdsAngle 16 = .ok (.aload_n 0, 1) := by decide +kernel
theorem dX4_holdsAngle_17 : decode cX4_holdsAngle 17 = .ok (.getfield 13, 3) := by decide +kernel
theorem dX4_holdsAngle_20 : decode cX4_holdsAngle 20 = .ok (.iload_n 2, 1) := by decide +kernel
theorem dX4_holdsAngle_21 : decode cX4_holdsAngle 21 = .ok (.laload, 1) := by decide +kernel
theorem dX4_holdsAngle_22 : decode cX4_holdsAngle 22 = .ok (.aload_n 0, 1) := by decide +kernel
theorem dX4_holdsAngle_23 : decode cX4_holdsAngle 23 = .ok (.getfield 20, 3) := by decide +kernel
theorem dX4_holdsAngle_26 : decode cX4_holdsAngle 26 = .ok (.iload_n 1, 1) := by decide +kernel
theorem dX4_holdsAngle_27 : decode cX4_holdsAngle 27 = .ok (.laload, 1) := by decide +kernel
theorem dX4_holdsAngle_28 : decode cX4_holdsAngle 28 = .ok (.lload_n 3, 1) := by decide +kernel
theorem dX4_holdsAngle_29 : decode cX4_holdsAngle 29 = .ok (.invokestatic 98, 3) := by decide +kernel
theorem dX4_holdsAngle_32 : decode cX4_holdsAngle 32 = .ok (.ifCond .ne 32, 3) := by decide +kernel
theorem dX4_holdsAngle_35 : decode cX4_holdsAngle 35 = .ok (.aload_n 0, 1) := by decide +kernel
theorem dX4_holdsAngle_36 : decode cX4_holdsAngle 36 = .ok (.getfield 23, 3) := by decide +kernel
theorem dX4_holdsAngle_39 : decode cX4_holdsAngle 39 = .ok (.iload_n 1, 1) := by decide +kernel
theorem dX4_holdsAngle_40 : decode cX4_holdsAngle 40 = .ok (.laload, 1) := by decide +kernel
theorem dX4_holdsAngle_41 : decode cX4_holdsAngle 41 = .ok (.lload_n 3, 1) := by decide +kernel
theorem dX4_holdsAngle_42 : decode cX4_holdsAngle 42 = .ok (.aload_n 0, 1) := by decide +kernel
theorem dX4_holdsAngle_43 : decode cX4_holdsAngle 43 = .ok (.getfield 7, 3) := by decide +kernel
theorem dX4_holdsAngle_46 : decode cX4_holdsAngle 46 = .ok (.iload_n 2, 1) := by decide +kernel
theorem dX4_holdsAngle_47 : decode cX4_holdsAngle 47 = .ok (.laload, 1) := by decide +kernel
theorem dX4_holdsAngle_48 : decode cX4_holdsAngle 48 = .ok (.aload_n 0, 1) := by decide +kernel
theorem dX4_holdsAngle_49 : decode cX4_holdsAngle 49 = .ok (.getfield 13, 3) := by decide +kernel
theorem dX4_holdsAngle_52 : decode cX4_holdsAngle 52 = .ok (.iload_n 2, 1) := by decide +kernel
theorem dX4_holdsAngle_53 : decode cX4_holdsAngle 53 = .ok (.laload, 1) := by decide +kernel
theorem dX4_holdsAngle_54 : decode cX4_holdsAngle 54 = .ok (.invokestatic 98, 3) := by decide +kernel
theorem dX4_holdsAngle_57 : decode cX4_holdsAngle 57 = .ok (.ifCond .ne 7, 3) := by decide +kernel
theorem dX4_holdsAngle_60 : decode cX4_holdsAngle 60 = .ok (.iconst 1, 1) := by decide +kernel
theorem dX4_holdsAngle_61 : decode cX4_holdsAngle 61 = .ok (.goto 4, 3) := by decide +kernel
theorem dX4_holdsAngle_64 : decode cX4_holdsAngle 64 = .ok (.iconst 0, 1) := by decide +kernel
theorem dX4_holdsAngle_65 : decode cX4_holdsAngle 65 = .ok (.ireturn, 1) := by decide +kernel
theorem dX4_isOrHolds_0 : decode cX4_isOrHolds 0 = .ok (.aload_n 0, 1) := by decide +kernel
theorem dX4_isOrHolds_1 : decode cX4_isOrHolds 1 = .ok (.getfield 16, 3) := by decide +kernel
theorem dX4_isOrHolds_4 : decode cX4_isOrHolds 4 = .ok (.iload_n 1, 1) := by decide +kernel
theorem dX4_isOrHolds_5 : decode cX4_isOrHolds 5 = .ok (.iaload, 1) := by decide +kernel
theorem dX4_isOrHolds_6 : decode cX4_isOrHolds 6 = .ok (.invokestatic 113, 3) := by decide +kernel
theorem dX4_isOrHolds_9 : decode cX4_isOrHolds 9 = .ok (.lstore_n 3, 1) := by decide +kernel
theorem dX4_isOrHolds_10 : decode cX4_isOrHolds 10 = .ok (.aload_n 0, 1) := by decide +kernel
theorem dX4_isOrHolds_11 : decode cX4_isOrHolds 11 = .ok (.getfield 16, 3) := by decide +kernel
theorem dX4_isOrHolds_14 : decode cX4_isOrHolds 14 = .ok (.iload_n 2, 1) := by decide +kernel
theorem dX4_isOrHolds_15 : decode cX4_isOrHolds 15 = .ok (.iaload, 1) := by decide +kernel
theorem dX4_isOrHolds_16 : decode cX4_isOrHolds 16 = .ok (.invokestatic 113, 3) := by decide +kernel
theorem dX4_isOrHolds_19 : decode cX4_isOrHolds 19 = .ok (.lstore 5, 2) := by decide +kernel
theorem dX4_isOrHolds_21 : decode cX4_isOrHolds 21 = .ok (.aload_n 0, 1) := by decide +kernel
theorem dX4_isOrHolds_22 : decode cX4_isOrHolds 22 = .ok (.getfield 20, 3) := by decide +kernel
theorem dX4_isOrHolds_25 : decode cX4_isOrHolds 25 = .ok (.iload_n 2, 1) := by decide +kernel
theorem dX4_isOrHolds_26 : decode cX4_isOrHolds 26 = .ok (.laload, 1) := by decide +kernel
theorem dX4_isOrHolds_27 : decode cX4_isOrHolds 27 = .ok (.lload 5, 2) := by decide +kernel
theorem dX4_isOrHolds_29 : decode cX4_isOrHolds 29 = .ok (.aload_n 0, 1) := by decide +kernel
theorem dX4_isOrHolds_30 : decode cX4_isOrHolds 30 = .ok (.getfield 20, 3) := by decide +kernel
theorem dX4_isOrHolds_33 : decode cX4_isOrHolds 33 = .ok (.iload_n 1, 1) := by decide +kernel
theorem dX4_isOrHolds_34 : decode cX4_isOrHolds 34 = .ok (.laload, 1) := by decide +kernel
theorem dX4_isOrHolds_35 : decode cX4_isOrHolds 35 = .ok (.lload_n 3, 1) := by decide +kernel
theorem dX4_isOrHolds_36 : decode cX4_isOrHolds 36 = .ok (.invokestatic 98, 3) := by decide +kernel
theorem dX4_isOrHolds_39 : decode cX4_isOrHolds 39 = .ok (.ifCond .ne 28, 3) := by decide +kernel
theorem dX4_isOrHolds_42 : decode cX4_isOrHolds 42 = .ok (.aload_n 0, 1) := by decide +kernel
theorem dX4_isOrHolds_43 : decode cX4_isOrHolds 43 = .ok (.getfield 23, 3) := by decide +kernel
theorem dX4_isOrHolds_46 : decode cX4_isOrHolds 46 = .ok (.iload_n 1, 1) := by decide +kernel
theorem dX4_isOrHolds_47 : decode cX4_isOrHolds 47 = .ok (.laload, 1) := by decide +kernel
theorem dX4_isOrHolds_48 : decode cX4_isOrHolds 48 = .ok (.lload_n 3, 1) := by decide +kernel
theorem dX4_isOrHolds_49 : decode cX4_isOrHolds 49 = .ok (.aload_n 0, 1) := by decide +kernel
theorem dX4_isOrHolds_50 : decode cX4_isOrHolds 50 = .ok (.getfield 23, 3) := by decide +kernel
theorem dX4_isOrHolds_53 : decode cX4_isOrHolds 53 = .ok (.iload_n 2, 1) := by decide +kernel
theorem dX4_isOrHolds_54 : decode cX4_isOrHolds 54 = .ok (.laload, 1) := by decide +kernel
theorem dX4_isOrHolds_55 : decode cX4_isOrHolds 55 = .ok (.lload 5, 2) := by decide +kernel
theorem dX4_isOrHolds_57 : decode cX4_isOrHolds 57 = .ok (.invokestatic 98, 3) := by decide +kernel
theorem dX4_isOrHolds_60 : decode cX4_isOrHolds 60 = .ok (.ifCond .ne 7, 3) := by decide +kernel
theorem dX4_isOrHolds_63 : decode cX4_isOrHolds 63 = .ok (.iconst 1, 1) := by decide +kernel
theorem dX4_isOrHolds_64 : decode cX4_isOrHolds 64 = .ok (.goto 4, 3) := by decide +kernel
theorem dX4_isOrHolds_67 : decode cX4_isOrHolds 67 = .ok (.iconst 0, 1) := by decide +kernel
theorem dX4_isOrHolds_68 : decode cX4_isOrHolds 68 = .ok (.ireturn, 1) := by decide +kernel
theorem dX4_held_0 : decode cX4_held 0 = .ok (.aload_n 0, 1) := by decide +kernel
theorem dX4_held_1 : decode cX4_held 1 = .ok (.iload_n 1, 1) := by decide +kernel
theorem dX4_held_2 : decode cX4_held 2 = .ok (.invokevirtual 58, 3) := by decide +kernel
theorem dX4_held_5 : decode cX4_held 5 = .ok (.ifCond .eq 15, 3) := by decide +kernel
theorem dX4_held_8 : decode cX4_held 8 = .ok (.iload_n 2, 1) := by decide +kernel
theorem dX4_held_9 : decode cX4_held 9 = .ok (.i2l, 1) := by decide +kernel
theorem dX4_held_10 : decode cX4_held 10 = .ok (.lconst 1, 1) := by decide +kernel
theorem dX4_held_11 : decode cX4_held 11 = .ok (.ldc2_w 132, 3) := by decide +kernel
theorem dX4_held_14 : decode cX4_held 14 = .ok (.invokestatic 46, 3) := by decide +kernel
theorem dX4_held_17 : decode cX4_held 17 = .ok (.ifCond .ne 5, 3) := by decide +kernel
theorem dX4_held_20 : decode cX4_held 20 = .ok (.iconst (-1), 1) := by decide +kernel
theorem dX4_held_21 : decode cX4_held 21 = .ok (.ireturn, 1) := by decide +kernel
theorem dX4_held_22 : decode cX4_held 22 = .ok (.iconst 0, 1) := by decide +kernel
theorem dX4_held_23 : decode cX4_held 23 = .ok (.istore_n 3, 1) := by decide +kernel
theorem dX4_held_24 : decode cX4_held 24 = .ok (.iconst 0, 1) := by decide +kernel
theorem dX4_held_25 : decode cX4_held 25 = .ok (.istore 4, 2) := by decide +kernel
theorem dX4_held_27 : decode cX4_held 27 = .ok (.iload 4, 2) := by decide +kernel
theorem dX4_held_29 : decode cX4_held 29 = .ok (.aload_n 0, 1) := by decide +kernel
theorem dX4_held_30 : decode cX4_held 30 = .ok (.getfield 117, 3) := by decide +kernel
theorem dX4_held_33 : decode cX4_held 33 = .ok (.if_icmp .ge 38, 3) := by decide +kernel
theorem dX4_held_36 : decode cX4_held 36 = .ok (.iload_n 3, 1) := by decide +kernel
theorem dX4_held_37 : decode cX4_held 37 = .ok (.aload_n 0, 1) := by decide +kernel
theorem dX4_held_38 : decode cX4_held 38 = .ok (.getfield 16, 3) := by decide +kernel
theorem dX4_held_41 : decode cX4_held 41 = .ok (.iload 4, 2) := by decide +kernel
theorem dX4_held_43 : decode cX4_held 43 = .ok (.iaload, 1) := by decide +kernel
theorem dX4_held_44 : decode cX4_held 44 = .ok (.iload_n 2, 1) := by decide +kernel
theorem dX4_held_45 : decode cX4_held 45 = .ok (.if_icmp .gt 17, 3) := by decide +kernel
theorem dX4_held_48 : decode cX4_held 48 = .ok (.aload_n 0, 1) := by decide +kernel
theorem dX4_held_49 : decode cX4_held 49 = .ok (.iload 4, 2) := by decide +kernel
theorem dX4_held_51 : decode cX4_held 51 = .ok (.iload_n 1, 1) := by decide +kernel
theorem dX4_held_52 : decode cX4_held 52 = .ok (.invokevirtual 143, 3) := by decide +kernel
theorem dX4_held_55 : decode cX4_held 55 = .ok (.ifCond .eq 7, 3) := by decide +kernel
theorem dX4_held_58 : decode cX4_held 58 = .ok (.iconst 1, 1) := by decide +kernel
theorem dX4_held_59 : decode cX4_held 59 = .ok (.goto 4, 3) := by decide +kernel
theorem dX4_held_62 : decode cX4_held 62 = .ok (.iconst 0, 1) := by decide +kernel
theorem dX4_held_63 : decode cX4_held 63 = .ok (.iadd, 1) := by decide +kernel
theorem dX4_held_64 : decode cX4_held 64 = .ok (.istore_n 3, 1) := by decide +kernel
theorem dX4_held_65 : decode cX4_held 65 = .ok (.iinc 4 1, 3) := by decide +kernel
theorem dX4_held_68 : decode cX4_held 68 = .ok (.goto (-41), 3) := by decide +kernel
theorem dX4_held_71 : decode cX4_held 71 = .ok (.iload_n 3, 1) := by decide +kernel
theorem dX4_held_72 : decode cX4_held 72 = .ok (.ireturn, 1) := by decide +kernel
theorem dX4_holder_0 : decode cX4_holder 0 = .ok (.aload_n 0, 1) := by decide +kernel
theorem dX4_holder_1 : decode cX4_holder 1 = .ok (.iload_n 1, 1) := by decide +kernel
theorem dX4_holder_2 : decode cX4_holder 2 = .ok (.invokevirtual 58, 3) := by decide +kernel
theorem dX4_holder_5 : decode cX4_holder 5 = .ok (.ifCond .eq 30, 3) := by decide +kernel
theorem dX4_holder_8 : decode cX4_holder 8 = .ok (.iload_n 2, 1) := by decide +kernel
theorem dX4_holder_9 : decode cX4_holder 9 = .ok (.i2l, 1) := by decide +kernel
theorem dX4_holder_10 : decode cX4_holder 10 = .ok (.lconst 1, 1) := by decide +kernel
theorem dX4_holder_11 : decode cX4_holder 11 = .ok (.ldc2_w 132, 3) := by decide +kernel
theorem dX4_holder_14 : decode cX4_holder 14 = .ok (.invokestatic 46, 3) := by decide +kernel
theorem dX4_holder_17 : decode cX4_holder 17 = .ok (.ifCond .eq 18, 3) := by decide +kernel
theorem dX4_holder_20 : decode cX4_holder 20 = .ok (.iload_n 3, 1) := by decide +kernel
theorem dX4_holder_21 : decode cX4_holder 21 = .ok (.ifCond .lt 14, 3) := by decide +kernel
theorem dX4_holder_24 : decode cX4_holder 24 = .ok (.iload 4, 2) := by decide +kernel
theorem dX4_holder_26 : decode cX4_holder 26 = .ok (.i2l, 1) := by decide +kernel
theorem dX4_holder_27 : decode cX4_holder 27 = .ok (.lconst 0, 1) := by decide +kernel
theorem dX4_holder_28 : decode cX4_holder 28 = .ok (.lconst 1, 1) := by decide +kernel
theorem dX4_holder_29 : decode cX4_holder 29 = .ok (.invokestatic 46, 3) := by decide +kernel
theorem dX4_holder_32 : decode cX4_holder 32 = .ok (.ifCond .ne 5, 3) := by decide +kernel
theorem dX4_holder_35 : decode cX4_holder 35 = .ok (.iconst (-1), 1) := by decide +kernel
theorem dX4_holder_36 : decode cX4_holder 36 = .ok (.ireturn, 1) := by decide +kernel
theorem dX4_holder_37 : decode cX4_holder 37 = .ok (.iconst 0, 1) := by decide +kernel
theorem dX4_holder_38 : decode cX4_holder 38 = .ok (.istore 5, 2) := by decide +kernel
theorem dX4_holder_40 : decode cX4_holder 40 = .ok (.iload 5, 2) := by decide +kernel
theorem dX4_holder_42 : decode cX4_holder 42 = .ok (.aload_n 0, 1) := by decide +kernel
theorem dX4_holder_43 : decode cX4_holder 43 = .ok (.getfield 117, 3) := by decide +kernel
theorem dX4_holder_46 : decode cX4_holder 46 = .ok (.if_icmp .ge 136, 3) := by decide +kernel
theorem dX4_holder_49 : decode cX4_holder 49 = .ok (.aload_n 0, 1) := by decide +kernel
theorem dX4_holder_50 : decode cX4_holder 50 = .ok (.getfield 16, 3) := by decide +kernel
theorem dX4_holder_53 : decode cX4_holder 53 = .ok (.iload 5, 2) := by decide +kernel
theorem dX4_holder_55 : decode cX4_holder 55 = .ok (.iaload, 1) := by decide +kernel
theorem dX4_holder_56 : decode cX4_holder 56 = .ok (.iload_n 2, 1) := by decide +kernel
theorem dX4_holder_57 : decode cX4_holder 57 = .ok (.if_icmp .gt 119, 3) := by decide +kernel
theorem dX4_holder_60 : decode cX4_holder 60 = .ok (.aload_n 0, 1) := by decide +kernel
theorem dX4_holder_61 : decode cX4_holder 61 = .ok (.iload 5, 2) := by decide +kernel
theorem dX4_holder_63 : decode cX4_holder 63 = .ok (.iload_n 1, 1) := by decide +kernel
theorem dX4_holder_64 : decode cX4_holder 64 = .ok (.invokevirtual 143, 3) := by decide +kernel
theorem dX4_holder_67 : decode cX4_holder 67 = .ok (.ifCond .eq 109, 3) := by decide +kernel
theorem dX4_holder_70 : decode cX4_holder 70 = .ok (.iconst 0, 1) := by decide +kernel
theorem dX4_holder_71 : decode cX4_holder 71 = .ok (.istore 6, 2) := by decide +kernel
theorem dX4_holder_73 : decode cX4_holder 73 = .ok (.iconst 0, 1) := by decide +kernel
theorem dX4_holder_74 : decode cX4_holder 74 = .ok (.istore 7, 2) := by decide +kernel
theorem dX4_holder_76 : decode cX4_holder 76 = .ok (.iload 7, 2) := by decide +kernel
theorem dX4_holder_78 : decode cX4_holder 78 = .ok (.aload_n 0, 1) := by decide +kernel
theorem dX4_holder_79 : decode cX4_holder 79 = .ok (.getfield 117, 3) := by decide +kernel
theorem dX4_holder_82 : decode cX4_holder 82 = .ok (.if_icmp .ge 58, 3) := by decide +kernel
theorem dX4_holder_85 : decode cX4_holder 85 = .ok (.iload 6, 2) := by decide +kernel
theorem dX4_holder_87 : decode cX4_holder 87 = .ok (.iload 7, 2) := by decide +kernel
theorem dX4_holder_89 : decode cX4_holder 89 = .ok (.iload 5, 2) := by decide +kernel
theorem dX4_holder_91 : decode cX4_holder 91 = .ok (.if_icmp .eq 39, 3) := by decide +kernel
theorem dX4_holder_94 : decode cX4_holder 94 = .ok (.aload_n 0, 1) := by decide +kernel
theorem dX4_holder_95 : decode cX4_holder 95 = .ok (.getfield 16, 3) := by decide +kernel
theorem dX4_holder_98 : decode cX4_holder 98 = .ok (.iload 7, 2) := by decide +kernel
theorem dX4_holder_100 : decode cX4_holder 100 = .ok (.iaload, 1) := by decide +kernel
theorem dX4_holder_101 : decode cX4_holder 101 = .ok (.iload_n 2, 1) := by decide +kernel
theorem dX4_holder_102 : decode cX4_holder 102 = .ok (.if_icmp .gt 28, 3) := by decide +kernel
theorem dX4_holder_105 : decode cX4_holder 105 = .ok (.aload_n 0, 1) := by decide +kernel
theorem dX4_holder_106 : decode cX4_holder 106 = .ok (.iload 7, 2) := by decide +kernel
theorem dX4_holder_108 : decode cX4_holder 108 = .ok (.iload_n 1, 1) := by decide +kernel
theorem dX4_holder_109 : decode cX4_holder 109 = .ok (.invokevirtual 143, 3) := by decide +kernel
theorem dX4_holder_112 : decode cX4_holder 112 = .ok (.ifCond .eq 18, 3) := by decide +kernel
theorem dX4_holder_115 : decode cX4_holder 115 = .ok (.aload_n 0, 1) := by decide +kernel
theorem dX4_holder_116 : decode cX4_holder 116 = .ok (.iload 7, 2) := by decide +kernel
theorem dX4_holder_118 : decode cX4_holder 118 = .ok (.iload 5, 2) := by decide +kernel
theorem dX4_holder_120 : decode cX4_holder 120 = .ok (.invokevirtual 146, 3) := by decide +kernel
theorem dX4_holder_123 : decode cX4_holder 123 = .ok (.ifCond .eq 7, 3) := by decide +kernel
theorem dX4_holder_126 : decode cX4_holder 126 = .ok (.iconst 1, 1) := by decide +kernel
theorem dX4_holder_127 : decode cX4_holder 127 = .ok (.goto 4, 3) := by decide +kernel
theorem dX4_holder_130 : decode cX4_holder 130 = .ok (.iconst 0, 1) := by decide +kernel
theorem dX4_holder_131 : decode cX4_holder 131 = .ok (.iadd, 1) := by decide +kernel
theorem dX4_holder_132 : decode cX4_holder 132 = .ok (.istore 6, 2) := by decide +kernel
theorem dX4_holder_134 : decode cX4_holder 134 = .ok (.iinc 7 1, 3) := by decide +kernel
theorem dX4_holder_137 : decode cX4_holder 137 = .ok (.goto (-61), 3) := by decide +kernel
theorem dX4_holder_140 : decode cX4_holder 140 = .ok (.iload 6, 2) := by decide +kernel
theorem dX4_holder_142 : decode cX4_holder 142 = .ok (.iload_n 3, 1) := by decide +kernel
theorem dX4_holder_143 : decode cX4_holder 143 = .ok (.if_icmp .ne 33, 3) := by decide +kernel
theorem dX4_holder_146 : decode cX4_holder 146 = .ok (.iload 4, 2) := by decide +kernel
theorem dX4_holder_148 : decode cX4_holder 148 = .ok (.ifCond .ne 13, 3) := by decide +kernel
theorem dX4_holder_151 : decode cX4_holder 151 = .ok (.aload_n 0, 1) := by decide +kernel
theorem dX4_holder_152 : decode cX4_holder 152 = .ok (.getfield 16, 3) := by decide +kernel
theorem dX4_holder_155 : decode cX4_holder 155 = .ok (.iload 5, 2) := by decide +kernel
theorem dX4_holder_157 : decode cX4_holder 157 = .ok (.iaload, 1) := by decide +kernel
theorem dX4_holder_158 : decode cX4_holder 158 = .ok (.goto 17, 3) := by decide +kernel
theorem dX4_holder_161 : decode cX4_holder 161 = .ok (.iload 5, 2) := by decide +kernel
theorem dX4_holder_163 : decode cX4_holder 163 = .ok (.aload_n 0, 1) := by decide +kernel
theorem dX4_holder_164 : decode cX4_holder 164 = .ok (.aload_n 0, 1) := by decide +kernel
theorem dX4_holder_165 : decode cX4_holder 165 = .ok (.getfield 16, 3) := by decide +kernel
theorem dX4_holder_168 : decode cX4_holder 168 = .ok (.iload 5, 2) := by decide +kernel
theorem dX4_holder_170 : decode cX4_holder 170 = .ok (.iaload, 1) := by decide +kernel
theorem dX4_holder_171 : decode cX4_holder 171 = .ok (.invokevirtual 137, 3) := by decide +kernel
theorem dX4_holder_174 : decode cX4_holder 174 = .ok (.isub, 1) := by decide +kernel
theorem dX4_holder_175 : decode cX4_holder 175 = .ok (.ireturn, 1) := by decide +kernel
theorem dX4_holder_176 : decode cX4_holder 176 = .ok (.iinc 5 1, 3) := by decide +kernel
theorem dX4_holder_179 : decode cX4_holder 179 = .ok (.goto (-139), 3) := by decide +kernel
theorem dX4_holder_182 : decode cX4_holder 182 = .ok (.bipush (-4), 2) := by decide +kernel
theorem dX4_holder_184 : decode cX4_holder 184 = .ok (.ireturn, 1) := by decide +kernel
theorem dX4_holds_0 : decode cX4_holds 0 = .ok (.aload_n 0, 1) := by decide +kernel
theorem dX4_holds_1 : decode cX4_holds 1 = .ok (.iload_n 1, 1) := by decide +kernel
theorem dX4_holds_2 : decode cX4_holds 2 = .ok (.invokevirtual 58, 3) := by decide +kernel
theorem dX4_holds_5 : decode cX4_holds 5 = .ok (.ifCond .eq 11, 3) := by decide +kernel
theorem dX4_holds_8 : decode cX4_holds 8 = .ok (.aload_n 0, 1) := by decide +kernel
theorem dX4_holds_9 : decode cX4_holds 9 = .ok (.iload_n 2, 1) := by decide +kernel
theorem dX4_holds_10 : decode cX4_holds 10 = .ok (.invokevirtual 58, 3) := by decide +kernel
theorem dX4_holds_13 : decode cX4_holds 13 = .ok (.ifCond .ne 5, 3) := by decide +kernel
theorem dX4_holds_16 : decode cX4_holds 16 = .ok (.iconst (-1), 1) := by decide +kernel
theorem dX4_holds_17 : decode cX4_holds 17 = .ok (.ireturn, 1) := by decide +kernel
theorem dX4_holds_18 : decode cX4_holds 18 = .ok (.aload_n 0, 1) := by decide +kernel
theorem dX4_holds_19 : decode cX4_holds 19 = .ok (.iload_n 1, 1) := by decide +kernel
theorem dX4_holds_20 : decode cX4_holds 20 = .ok (.invokevirtual 140, 3) := by decide +kernel
theorem dX4_holds_23 : decode cX4_holds 23 = .ok (.istore_n 3, 1) := by decide +kernel
theorem dX4_holds_24 : decode cX4_holds 24 = .ok (.aload_n 0, 1) := by decide +kernel
theorem dX4_holds_25 : decode cX4_holds 25 = .ok (.iload_n 2, 1) := by decide +kernel
theorem dX4_holds_26 : decode cX4_holds 26 = .ok (.invokevirtual 140, 3) := by decide +kernel
theorem dX4_holds_29 : decode cX4_holds 29 = .ok (.istore 4, 2) := by decide +kernel
theorem dX4_holds_31 : decode cX4_holds 31 = .ok (.iload_n 3, 1) := by decide +kernel
theorem dX4_holds_32 : decode cX4_holds 32 = .ok (.bipush (-4), 2) := by decide +kernel
theorem dX4_holds_34 : decode cX4_holds 34 = .ok (.if_icmp .eq 10, 3) := by decide +kernel
theorem dX4_holds_37 : decode cX4_holds 37 = .ok (.iload 4, 2) := by decide +kernel
theorem dX4_holds_39 : decode cX4_holds 39 = .ok (.bipush (-4), 2) := by decide +kernel
theorem dX4_holds_41 : decode cX4_holds 41 = .ok (.if_icmp .ne 8, 3) := by decide +kernel
theorem dX4_holds_44 : decode cX4_holds 44 = .ok (.bipush (-2), 2) := by decide +kernel
theorem dX4_holds_46 : decode cX4_holds 46 = .ok (.goto 18, 3) := by decide +kernel
theorem dX4_holds_49 : decode cX4_holds 49 = .ok (.aload_n 0, 1) := by decide +kernel
theorem dX4_holds_50 : decode cX4_holds 50 = .ok (.iload_n 3, 1) := by decide +kernel
theorem dX4_holds_51 : decode cX4_holds 51 = .ok (.iload 4, 2) := by decide +kernel
theorem dX4_holds_53 : decode cX4_holds 53 = .ok (.invokevirtual 146, 3) := by decide +kernel
theorem dX4_holds_56 : decode cX4_holds 56 = .ok (.ifCond .eq 7, 3) := by decide +kernel
theorem dX4_holds_59 : decode cX4_holds 59 = .ok (.iconst 1, 1) := by decide +kernel
theorem dX4_holds_60 : decode cX4_holds 60 = .ok (.goto 4, 3) := by decide +kernel
theorem dX4_holds_63 : decode cX4_holds 63 = .ok (.iconst 0, 1) := by decide +kernel
theorem dX4_holds_64 : decode cX4_holds 64 = .ok (.ireturn, 1) := by decide +kernel
theorem dX4_between_0 : decode cX4_between 0 = .ok (.aload_n 0, 1) := by decide +kernel
theorem dX4_between_1 : decode cX4_between 1 = .ok (.iload_n 1, 1) := by decide +kernel
theorem dX4_between_2 : decode cX4_between 2 = .ok (.invokevirtual 58, 3) := by decide +kernel
theorem dX4_between_5 : decode cX4_between 5 = .ok (.ifCond .eq 23, 3) := by decide +kernel
theorem dX4_between_8 : decode cX4_between 8 = .ok (.aload_n 0, 1) := by decide +kernel
theorem dX4_between_9 : decode cX4_between 9 = .ok (.iload_n 2, 1) := by decide +kernel
theorem dX4_between_10 : decode cX4_between 10 = .ok (.invokevirtual 58, 3) := by decide +kernel
theorem dX4_between_13 : decode cX4_between 13 = .ok (.ifCond .eq 15, 3) := by decide +kernel
theorem dX4_between_16 : decode cX4_between 16 = .ok (.iload_n 3, 1) := by decide +kernel
theorem dX4_between_17 : decode cX4_between 17 = .ok (.i2l, 1) := by decide +kernel
theorem dX4_between_18 : decode cX4_between 18 = .ok (.lconst 1, 1) := by decide +kernel
theorem dX4_between_19 : decode cX4_between 19 = .ok (.ldc2_w 132, 3) := by decide +kernel
theorem dX4_between_22 : decode cX4_between 22 = .ok (.invokestatic 46, 3) := by decide +kernel
theorem dX4_between_25 : decode cX4_between 25 = .ok (.ifCond .ne 5, 3) := by decide +kernel
theorem dX4_between_28 : decode cX4_between 28 = .ok (.iconst (-1), 1) := by decide +kernel
theorem dX4_between_29 : decode cX4_between 29 = .ok (.ireturn, 1) := by decide +kernel
theorem dX4_between_30 : decode cX4_between 30 = .ok (.aload_n 0, 1) := by decide +kernel
theorem dX4_between_31 : decode cX4_between 31 = .ok (.iload_n 1, 1) := by decide +kernel
theorem dX4_between_32 : decode cX4_between 32 = .ok (.invokevirtual 140, 3) := by decide +kernel
theorem dX4_between_35 : decode cX4_between 35 = .ok (.istore 4, 2) := by decide +kernel
theorem dX4_between_37 : decode cX4_between 37 = .ok (.aload_n 0, 1) := by decide +kernel
theorem dX4_between_38 : decode cX4_between 38 = .ok (.iload_n 2, 1) := by decide +kernel
theorem dX4_between_39 : decode cX4_between 39 = .ok (.invokevirtual 140, 3) := by decide +kernel
theorem dX4_between_42 : decode cX4_between 42 = .ok (.istore 5, 2) := by decide +kernel
theorem dX4_between_44 : decode cX4_between 44 = .ok (.iload 4, 2) := by decide +kernel
theorem dX4_between_46 : decode cX4_between 46 = .ok (.bipush (-4), 2) := by decide +kernel
theorem dX4_between_48 : decode cX4_between 48 = .ok (.if_icmp .eq 32, 3) := by decide +kernel
theorem dX4_between_51 : decode cX4_between 51 = .ok (.iload 5, 2) := by decide +kernel
theorem dX4_between_53 : decode cX4_between 53 = .ok (.bipush (-4), 2) := by decide +kernel
theorem dX4_between_55 : decode cX4_between 55 = .ok (.if_icmp .eq 25, 3) := by decide +kernel
theorem dX4_between_58 : decode cX4_between 58 = .ok (.aload_n 0, 1) := by decide +kernel
theorem dX4_between_59 : decode cX4_between 59 = .ok (.iload 4, 2) := by decide +kernel
theorem dX4_between_61 : decode cX4_between 61 = .ok (.iload 5, 2) := by decide +kernel
theorem dX4_between_63 : decode cX4_between 63 = .ok (.invokevirtual 146, 3) := by decide +kernel
theorem dX4_between_66 : decode cX4_between 66 = .ok (.ifCond .ne 17, 3) := by decide +kernel
theorem dX4_between_69 : decode cX4_between 69 = .ok (.aload_n 0, 1) := by decide +kernel
theorem dX4_between_70 : decode cX4_between 70 = .ok (.iload 5, 2) := by decide +kernel
theorem dX4_between_72 : decode cX4_between 72 = .ok (.iload 4, 2) := by decide +kernel
theorem dX4_between_74 : decode cX4_between 74 = .ok (.invokevirtual 146, 3) := by decide +kernel
theorem dX4_between_77 : decode cX4_between 77 = .ok (.ifCond .ne 6, 3) := by decide +kernel
theorem dX4_between_80 : decode cX4_between 80 = .ok (.bipush (-2), 2) := by decide +kernel
theorem dX4_between_82 : decode cX4_between 82 = .ok (.ireturn, 1) := by decide +kernel
theorem dX4_between_83 : decode cX4_between 83 = .ok (.aload_n 0, 1) := by decide +kernel
theorem dX4_between_84 : decode cX4_between 84 = .ok (.iload 4, 2) := by decide +kernel
theorem dX4_between_86 : decode cX4_between 86 = .ok (.iload 5, 2) := by decide +kernel
theorem dX4_between_88 : decode cX4_between 88 = .ok (.invokevirtual 146, 3) := by decide +kernel
theorem dX4_between_91 : decode cX4_between 91 = .ok (.ifCond .eq 8, 3) := by decide +kernel
theorem dX4_between_94 : decode cX4_between 94 = .ok (.iload 4, 2) := by decide +kernel
theorem dX4_between_96 : decode cX4_between 96 = .ok (.goto 5, 3) := by decide +kernel
theorem dX4_between_99 : decode cX4_between 99 = .ok (.iload 5, 2) := by decide +kernel
theorem dX4_between_101 : decode cX4_between 101 = .ok (.istore 6, 2) := by decide +kernel
theorem dX4_between_103 : decode cX4_between 103 = .ok (.iload 6, 2) := by decide +kernel
theorem dX4_between_105 : decode cX4_between 105 = .ok (.iload 4, 2) := by decide +kernel
theorem dX4_between_107 : decode cX4_between 107 = .ok (.if_icmp .ne 8, 3) := by decide +kernel
theorem dX4_between_110 : decode cX4_between 110 = .ok (.iload 5, 2) := by decide +kernel
theorem dX4_between_112 : decode cX4_between 112 = .ok (.goto 5, 3) := by decide +kernel
theorem dX4_between_115 : decode cX4_between 115 = .ok (.iload 4, 2) := by decide +kernel
theorem dX4_between_117 : decode cX4_between 117 = .ok (.istore 7, 2) := by decide +kernel
theorem dX4_between_119 : decode cX4_between 119 = .ok (.iconst 0, 1) := by decide +kernel
theorem dX4_between_120 : decode cX4_between 120 = .ok (.istore 8, 2) := by decide +kernel
theorem dX4_between_122 : decode cX4_between 122 = .ok (.iconst 0, 1) := by decide +kernel
theorem dX4_between_123 : decode cX4_between 123 = .ok (.istore 9, 2) := by decide +kernel
theorem dX4_between_125 : decode cX4_between 125 = .ok (.iload 9, 2) := by decide +kernel
theorem dX4_between_127 : decode cX4_between 127 = .ok (.aload_n 0, 1) := by decide +kernel
theorem dX4_between_128 : decode cX4_between 128 = .ok (.getfield 117, 3) := by decide +kernel
theorem dX4_between_131 : decode cX4_between 131 = .ok (.if_icmp .ge 66, 3) := by decide +kernel
theorem dX4_between_134 : decode cX4_between 134 = .ok (.iload 8, 2) := by decide +kernel
theorem dX4_between_136 : decode cX4_between 136 = .ok (.iload 9, 2) := by decide +kernel
theorem dX4_between_138 : decode cX4_between 138 = .ok (.iload 6, 2) := by decide +kernel
theorem dX4_between_140 : decode cX4_between 140 = .ok (.if_icmp .eq 47, 3) := by decide +kernel
theorem dX4_between_143 : decode cX4_between 143 = .ok (.iload 9, 2) := by decide +kernel
theorem dX4_between_145 : decode cX4_between 145 = .ok (.iload 7, 2) := by decide +kernel
theorem dX4_between_147 : decode cX4_between 147 = .ok (.if_icmp .eq 40, 3) := by decide +kernel
theorem dX4_between_150 : decode cX4_between 150 = .ok (.aload_n 0, 1) := by decide +kernel
theorem dX4_between_151 : decode cX4_between 151 = .ok (.getfield 16, 3) := by decide +kernel
theorem dX4_between_154 : decode cX4_between 154 = .ok (.iload 9, 2) := by decide +kernel
theorem dX4_between_156 : decode cX4_between 156 = .ok (.iaload, 1) := by decide +kernel
theorem dX4_between_157 : decode cX4_between 157 = .ok (.iload_n 3, 1) := by decide +kernel
theorem dX4_between_158 : decode cX4_between 158 = .ok (.if_icmp .gt 29, 3) := by decide +kernel
theorem dX4_between_161 : decode cX4_between 161 = .ok (.aload_n 0, 1) := by decide +kernel
theorem dX4_between_162 : decode cX4_between 162 = .ok (.iload 6, 2) := by decide +kernel
theorem dX4_between_164 : decode cX4_between 164 = .ok (.iload 9, 2) := by decide +kernel
theorem dX4_between_166 : decode cX4_between 166 = .ok (.invokevirtual 146, 3) := by decide +kernel
theorem dX4_between_169 : decode cX4_between 169 = .ok (.ifCond .eq 18, 3) := by decide +kernel
theorem dX4_between_172 : decode cX4_between 172 = .ok (.aload_n 0, 1) := by decide +kernel
theorem dX4_between_173 : decode cX4_between 173 = .ok (.iload 9, 2) := by decide +kernel
theorem dX4_between_175 : decode cX4_between 175 = .ok (.iload 7, 2) := by decide +kernel
theorem dX4_between_177 : decode cX4_between 177 = .ok (.invokevirtual 146, 3) := by decide +kernel
theorem dX4_between_180 : decode cX4_between 180 = .ok (.ifCond .eq 7, 3) := by decide +kernel
theorem dX4_between_183 : decode cX4_between 183 = .ok (.iconst 1, 1) := by decide +kernel
theorem dX4_between_184 : decode cX4_between 184 = .ok (.goto 4, 3) := by decide +kernel
theorem dX4_between_187 : decode cX4_between 187 = .ok (.iconst 0, 1) := by decide +kernel
theorem dX4_between_188 : decode cX4_between 188 = .ok (.iadd, 1) := by decide +kernel
theorem dX4_between_189 : decode cX4_between 189 = .ok (.istore 8, 2) := by decide +kernel
theorem dX4_between_191 : decode cX4_between 191 = .ok (.iinc 9 1, 3) := by decide +kernel
theorem dX4_between_194 : decode cX4_between 194 = .ok (.goto (-69), 3) := by decide +kernel
theorem dX4_between_197 : decode cX4_between 197 = .ok (.iload 8, 2) := by decide +kernel
theorem dX4_between_199 : decode cX4_between 199 = .ok (.ireturn, 1) := by decide +kernel
theorem dX4_within_0 : decode cX4_within 0 = .ok (.aload_n 0, 1) := by decide +kernel
theorem dX4_within_1 : decode cX4_within 1 = .ok (.getfield 16, 3) := by decide +kernel
theorem dX4_within_4 : decode cX4_within 4 = .ok (.iload_n 1, 1) := by decide +kernel
theorem dX4_within_5 : decode cX4_within 5 = .ok (.iaload, 1) := by decide +kernel
theorem dX4_within_6 : decode cX4_within 6 = .ok (.invokestatic 113, 3) := by decide +kernel
theorem dX4_within_9 : decode cX4_within 9 = .ok (.lstore_n 3, 1) := by decide +kernel
theorem dX4_within_10 : decode cX4_within 10 = .ok (.aload_n 0, 1) := by decide +kernel
theorem dX4_within_11 : decode cX4_within 11 = .ok (.getfield 20, 3) := by decide +kernel
theorem dX4_within_14 : decode cX4_within 14 = .ok (.iload_n 1, 1) := by decide +kernel
theorem dX4_within_15 : decode cX4_within 15 = .ok (.laload, 1) := by decide +kernel
theorem dX4_within_16 : decode cX4_within 16 = .ok (.iload_n 2, 1) := by decide +kernel
theorem dX4_within_17 : decode cX4_within 17 = .ok (.invokestatic 113, 3) := by decide +kernel
theorem dX4_within_20 : decode cX4_within 20 = .ok (.lmul, 1) := by decide +kernel
theorem dX4_within_21 : decode cX4_within 21 = .ok (.lload_n 3, 1) := by decide +kernel
theorem dX4_within_22 : decode cX4_within 22 = .ok (.ladd, 1) := by decide +kernel
theorem dX4_within_23 : decode cX4_within 23 = .ok (.lconst 1, 1) := by decide +kernel
theorem dX4_within_24 : decode cX4_within 24 = .ok (.lsub, 1) := by decide +kernel
theorem dX4_within_25 : decode cX4_within 25 = .ok (.lload_n 3, 1) := by decide +kernel
theorem dX4_within_26 : decode cX4_within 26 = .ok (.ldiv, 1) := by decide +kernel
theorem dX4_within_27 : decode cX4_within 27 = .ok (.lstore 5, 2) := by decide +kernel
theorem dX4_within_29 : decode cX4_within 29 = .ok (.aload_n 0, 1) := by decide +kernel
theorem dX4_within_30 : decode cX4_within 30 = .ok (.getfield 23, 3) := by decide +kernel
theorem dX4_within_33 : decode cX4_within 33 = .ok (.iload_n 1, 1) := by decide +kernel
theorem dX4_within_34 : decode cX4_within 34 = .ok (.laload, 1) := by decide +kernel
theorem dX4_within_35 : decode cX4_within 35 = .ok (.iload_n 2, 1) := by decide +kernel
theorem dX4_within_36 : decode cX4_within 36 = .ok (.invokestatic 113, 3) := by decide +kernel
theorem dX4_within_39 : decode cX4_within 39 = .ok (.lmul, 1) := by decide +kernel
theorem dX4_within_40 : decode cX4_within 40 = .ok (.lload_n 3, 1) := by decide +kernel
theorem dX4_within_41 : decode cX4_within 41 = .ok (.ldiv, 1) := by decide +kernel
theorem dX4_within_42 : decode cX4_within 42 = .ok (.lstore 7, 2) := by decide +kernel
theorem dX4_within_44 : decode cX4_within 44 = .ok (.lload 7, 2) := by decide +kernel
theorem dX4_within_46 : decode cX4_within 46 = .ok (.lload 5, 2) := by decide +kernel
theorem dX4_within_48 : decode cX4_within 48 = .ok (.lsub, 1) := by decide +kernel
theorem dX4_within_49 : decode cX4_within 49 = .ok (.lconst 1, 1) := by decide +kernel
theorem dX4_within_50 : decode cX4_within 50 = .ok (.ladd, 1) := by decide +kernel
theorem dX4_within_51 : decode cX4_within 51 = .ok (.lreturn, 1) := by decide +kernel
theorem dX4_wide_0 : decode cX4_wide 0 = .ok (.aload_n 0, 1) := by decide +kernel
theorem dX4_wide_1 : decode cX4_wide 1 = .ok (.iload_n 1, 1) := by decide +kernel
theorem dX4_wide_2 : decode cX4_wide 2 = .ok (.invokevirtual 58, 3) := by decide +kernel
theorem dX4_wide_5 : decode cX4_wide 5 = .ok (.ifCond .eq 15, 3) := by decide +kernel
theorem dX4_wide_8 : decode cX4_wide 8 = .ok (.iload_n 2, 1) := by decide +kernel
theorem dX4_wide_9 : decode cX4_wide 9 = .ok (.i2l, 1) := by decide +kernel
theorem dX4_wide_10 : decode cX4_wide 10 = .ok (.lconst 1, 1) := by decide +kernel
theorem dX4_wide_11 : decode cX4_wide 11 = .ok (.ldc2_w 81, 3) := by decide +kernel
theorem dX4_wide_14 : decode cX4_wide 14 = .ok (.invokestatic 46, 3) := by decide +kernel
theorem dX4_wide_17 : decode cX4_wide 17 = .ok (.ifCond .ne 5, 3) := by decide +kernel
theorem dX4_wide_20 : decode cX4_wide 20 = .ok (.iconst (-1), 1) := by decide +kernel
theorem dX4_wide_21 : decode cX4_wide 21 = .ok (.ireturn, 1) := by decide +kernel
theorem dX4_wide_22 : decode cX4_wide 22 = .ok (.aload_n 0, 1) := by decide +kernel
theorem dX4_wide_23 : decode cX4_wide 23 = .ok (.iload_n 1, 1) := by decide +kernel
theorem dX4_wide_24 : decode cX4_wide 24 = .ok (.invokevirtual 140, 3) := by decide +kernel
theorem dX4_wide_27 : decode cX4_wide 27 = .ok (.istore_n 3, 1) := by decide +kernel
theorem dX4_wide_28 : decode cX4_wide 28 = .ok (.iload_n 3, 1) := by decide +kernel
theorem dX4_wide_29 : decode cX4_wide 29 = .ok (.bipush (-4), 2) := by decide +kernel
theorem dX4_wide_31 : decode cX4_wide 31 = .ok (.if_icmp .ne 6, 3) := by decide +kernel
theorem dX4_wide_34 : decode cX4_wide 34 = .ok (.bipush (-2), 2) := by decide +kernel
theorem dX4_wide_36 : decode cX4_wide 36 = .ok (.ireturn, 1) := by decide +kernel
theorem dX4_wide_37 : decode cX4_wide 37 = .ok (.lconst 0, 1) := by decide +kernel
theorem dX4_wide_38 : decode cX4_wide 38 = .ok (.lstore 4, 2) := by decide +kernel
theorem dX4_wide_40 : decode cX4_wide 40 = .ok (.iconst 1, 1) := by decide +kernel
theorem dX4_wide_41 : decode cX4_wide 41 = .ok (.istore 6, 2) := by decide +kernel
theorem dX4_wide_43 : decode cX4_wide 43 = .ok (.iload 6, 2) := by decide +kernel
theorem dX4_wide_45 : decode cX4_wide 45 = .ok (.iload_n 2, 1) := by decide +kernel
theorem dX4_wide_46 : decode cX4_wide 46 = .ok (.if_icmp .gt 41, 3) := by decide +kernel
theorem dX4_wide_49 : decode cX4_wide 49 = .ok (.lload 4, 2) := by decide +kernel
theorem dX4_wide_51 : decode cX4_wide 51 = .ok (.iload_n 2, 1) := by decide +kernel
theorem dX4_wide_52 : decode cX4_wide 52 = .ok (.iload 6, 2) := by decide +kernel
theorem dX4_wide_54 : decode cX4_wide 54 = .ok (.irem, 1) := by decide +kernel
theorem dX4_wide_55 : decode cX4_wide 55 = .ok (.ifCond .ne 22, 3) := by decide +kernel
theorem dX4_wide_58 : decode cX4_wide 58 = .ok (.iload_n 2, 1) := by decide +kernel
theorem dX4_wide_59 : decode cX4_wide 59 = .ok (.iload 6, 2) := by decide +kernel
theorem dX4_wide_61 : decode cX4_wide 61 = .ok (.idiv, 1) := by decide +kernel
theorem dX4_wide_62 : decode cX4_wide 62 = .ok (.invokestatic 83, 3) := by decide +kernel
theorem dX4_wide_65 : decode cX4_wide 65 = .ok (.i2l, 1) := by decide +kernel
theorem dX4_wide_66 : decode cX4_wide 66 = .ok (.aload_n 0, 1) := by decide +kernel
theorem dX4_wide_67 : decode cX4_wide 67 = .ok (.iload_n 3, 1) := by decide +kernel
theorem dX4_wide_68 : decode cX4_wide 68 = .ok (.iload 6, 2) := by decide +kernel
theorem dX4_wide_70 : decode cX4_wide 70 = .ok (.invokevirtual 149, 3) := by decide +kernel
theorem dX4_wide_73 : decode cX4_wide 73 = .ok (.lmul, 1) := by decide +kernel
theorem dX4_wide_74 : decode cX4_wide 74 = .ok (.goto 4, 3) := by decide +kernel
theorem dX4_wide_77 : decode cX4_wide 77 = .ok (.lconst 0, 1) := by decide +kernel
theorem dX4_wide_78 : decode cX4_wide 78 = .ok (.ladd, 1) := by decide +kernel
theorem dX4_wide_79 : decode cX4_wide 79 = .ok (.lstore 4, 2) := by decide +kernel
theorem dX4_wide_81 : decode cX4_wide 81 = .ok (.iinc 6 1, 3) := by decide +kernel
theorem dX4_wide_84 : decode cX4_wide 84 = .ok (.goto (-41), 3) := by decide +kernel
theorem dX4_wide_87 : decode cX4_wide 87 = .ok (.lload 4, 2) := by decide +kernel
theorem dX4_wide_89 : decode cX4_wide 89 = .ok (.l2i, 1) := by decide +kernel
theorem dX4_wide_90 : decode cX4_wide 90 = .ok (.ireturn, 1) := by decide +kernel
theorem dX4_digitOf_0 : decode cX4_digitOf 0 = .ok (.ldc2_w 56, 3) := by decide +kernel
theorem dX4_digitOf_3 : decode cX4_digitOf 3 = .ok (.aload_n 0, 1) := by decide +kernel
theorem dX4_digitOf_4 : decode cX4_digitOf 4 = .ok (.getfield 7, 3) := by decide +kernel
theorem dX4_digitOf_7 : decode cX4_digitOf 7 = .ok (.iload_n 1, 1) := by decide +kernel
theorem dX4_digitOf_8 : decode cX4_digitOf 8 = .ok (.laload, 1) := by decide +kernel
theorem dX4_digitOf_9 : decode cX4_digitOf 9 = .ok (.aload_n 0, 1) := by decide +kernel
theorem dX4_digitOf_10 : decode cX4_digitOf 10 = .ok (.getfield 13, 3) := by decide +kernel
theorem dX4_digitOf_13 : decode cX4_digitOf 13 = .ok (.iload_n 1, 1) := by decide +kernel
theorem dX4_digitOf_14 : decode cX4_digitOf 14 = .ok (.laload, 1) := by decide +kernel
theorem dX4_digitOf_15 : decode cX4_digitOf 15 = .ok (.iload_n 2, 1) := by decide +kernel
theorem dX4_digitOf_16 : decode cX4_digitOf 16 = .ok (.invokestatic 73, 3) := by decide +kernel
theorem dX4_digitOf_19 : decode cX4_digitOf 19 = .ok (.lmul, 1) := by decide +kernel
theorem dX4_digitOf_20 : decode cX4_digitOf 20 = .ok (.aload_n 0, 1) := by decide +kernel
theorem dX4_digitOf_21 : decode cX4_digitOf 21 = .ok (.getfield 13, 3) := by decide +kernel
theorem dX4_digitOf_24 : decode cX4_digitOf 24 = .ok (.iload_n 1, 1) := by decide +kernel
theorem dX4_digitOf_25 : decode cX4_digitOf 25 = .ok (.laload, 1) := by decide +kernel
theorem dX4_digitOf_26 : decode cX4_digitOf 26 = .ok (.lcmp, 1) := by decide +kernel
theorem dX4_digitOf_27 : decode cX4_digitOf 27 = .ok (.ifCond .lt 7, 3) := by decide +kernel
theorem dX4_digitOf_30 : decode cX4_digitOf 30 = .ok (.iconst 1, 1) := by decide +kernel
theorem dX4_digitOf_31 : decode cX4_digitOf 31 = .ok (.goto 4, 3) := by decide +kernel
theorem dX4_digitOf_34 : decode cX4_digitOf 34 = .ok (.iconst 0, 1) := by decide +kernel
theorem dX4_digitOf_35 : decode cX4_digitOf 35 = .ok (.ireturn, 1) := by decide +kernel
theorem dX4_digit_0 : decode cX4_digit 0 = .ok (.aload_n 0, 1) := by decide +kernel
theorem dX4_digit_1 : decode cX4_digit 1 = .ok (.iload_n 1, 1) := by decide +kernel
theorem dX4_digit_2 : decode cX4_digit 2 = .ok (.invokevirtual 58, 3) := by decide +kernel
theorem dX4_digit_5 : decode cX4_digit 5 = .ok (.ifCond .eq 15, 3) := by decide +kernel
theorem dX4_digit_8 : decode cX4_digit 8 = .ok (.iload_n 2, 1) := by decide +kernel
theorem dX4_digit_9 : decode cX4_digit 9 = .ok (.i2l, 1) := by decide +kernel
theorem dX4_digit_10 : decode cX4_digit 10 = .ok (.lconst 0, 1) := by decide +kernel
theorem dX4_digit_11 : decode cX4_digit 11 = .ok (.ldc2_w 71, 3) := by decide +kernel
theorem dX4_digit_14 : decode cX4_digit 14 = .ok (.invokestatic 46, 3) := by decide +kernel
theorem dX4_digit_17 : decode cX4_digit 17 = .ok (.ifCond .ne 5, 3) := by decide +kernel
theorem dX4_digit_20 : decode cX4_digit 20 = .ok (.iconst (-1), 1) := by decide +kernel
theorem dX4_digit_21 : decode cX4_digit 21 = .ok (.ireturn, 1) := by decide +kernel
theorem dX4_digit_22 : decode cX4_digit 22 = .ok (.aload_n 0, 1) := by decide +kernel
theorem dX4_digit_23 : decode cX4_digit 23 = .ok (.iload_n 1, 1) := by decide +kernel
theorem dX4_digit_24 : decode cX4_digit 24 = .ok (.invokevirtual 95, 3) := by decide +kernel
theorem dX4_digit_27 : decode cX4_digit 27 = .ok (.ifCond .eq 12, 3) := by decide +kernel
theorem dX4_digit_30 : decode cX4_digit 30 = .ok (.aload_n 0, 1) := by decide +kernel
theorem dX4_digit_31 : decode cX4_digit 31 = .ok (.iload_n 1, 1) := by decide +kernel
theorem dX4_digit_32 : decode cX4_digit 32 = .ok (.iload_n 2, 1) := by decide +kernel
theorem dX4_digit_33 : decode cX4_digit 33 = .ok (.invokevirtual 153, 3) := by decide +kernel
theorem dX4_digit_36 : decode cX4_digit 36 = .ok (.goto 5, 3) := by decide +kernel
theorem dX4_digit_39 : decode cX4_digit 39 = .ok (.bipush (-2), 2) := by decide +kernel
theorem dX4_digit_41 : decode cX4_digit 41 = .ok (.ireturn, 1) := by decide +kernel
theorem dX4_canPut_0 : decode cX4_canPut 0 = .ok (.aload_n 0, 1) := by decide +kernel
theorem dX4_canPut_1 : decode cX4_canPut 1 = .ok (.iload_n 2, 1) := by decide +kernel
theorem dX4_canPut_2 : decode cX4_canPut 2 = .ok (.invokevirtual 95, 3) := by decide +kernel
theorem dX4_canPut_5 : decode cX4_canPut 5 = .ok (.ifCond .eq 28, 3) := by decide +kernel
theorem dX4_canPut_8 : decode cX4_canPut 8 = .ok (.aload_n 0, 1) := by decide +kernel
theorem dX4_canPut_9 : decode cX4_canPut 9 = .ok (.iload_n 1, 1) := by decide +kernel
theorem dX4_canPut_10 : decode cX4_canPut 10 = .ok (.invokevirtual 140, 3) := by decide +kernel
theorem dX4_canPut_13 : decode cX4_canPut 13 = .ok (.bipush (-4), 2) := by decide +kernel
theorem dX4_canPut_15 : decode cX4_canPut 15 = .ok (.if_icmp .eq 18, 3) := by decide +kernel
theorem dX4_canPut_18 : decode cX4_canPut 18 = .ok (.aload_n 0, 1) := by decide +kernel
theorem dX4_canPut_19 : decode cX4_canPut 19 = .ok (.getfield 7, 3) := by decide +kernel
theorem dX4_canPut_22 : decode cX4_canPut 22 = .ok (.iload_n 1, 1) := by decide +kernel
theorem dX4_canPut_23 : decode cX4_canPut 23 = .ok (.laload, 1) := by decide +kernel
theorem dX4_canPut_24 : decode cX4_canPut 24 = .ok (.lconst 0, 1) := by decide +kernel
theorem dX4_canPut_25 : decode cX4_canPut 25 = .ok (.lcmp, 1) := by decide +kernel
theorem dX4_canPut_26 : decode cX4_canPut 26 = .ok (.ifCond .eq 7, 3) := by decide +kernel
theorem dX4_canPut_29 : decode cX4_canPut 29 = .ok (.iconst 1, 1) := by decide +kernel
theorem dX4_canPut_30 : decode cX4_canPut 30 = .ok (.goto 4, 3) := by decide +kernel
theorem dX4_canPut_33 : decode cX4_canPut 33 = .ok (.iconst 0, 1) := by decide +kernel
theorem dX4_canPut_34 : decode cX4_canPut 34 = .ok (.ireturn, 1) := by decide +kernel
theorem dX4_put_0 : decode cX4_put 0 = .ok (.aload_n 0, 1) := by decide +kernel
theorem dX4_put_1 : decode cX4_put 1 = .ok (.iload_n 1, 1) := by decide +kernel
theorem dX4_put_2 : decode cX4_put 2 = .ok (.invokevirtual 58, 3) := by decide +kernel
theorem dX4_put_5 : decode cX4_put 5 = .ok (.ifCond .eq 11, 3) := by decide +kernel
theorem dX4_put_8 : decode cX4_put 8 = .ok (.aload_n 0, 1) := by decide +kernel
theorem dX4_put_9 : decode cX4_put 9 = .ok (.iload_n 2, 1) := by decide +kernel
theorem dX4_put_10 : decode cX4_put 10 = .ok (.invokevirtual 58, 3) := by decide +kernel
theorem dX4_put_13 : decode cX4_put 13 = .ok (.ifCond .ne 5, 3) := by decide +kernel
theorem dX4_put_16 : decode cX4_put 16 = .ok (.iconst (-1), 1) := by decide +kernel
theorem dX4_put_17 : decode cX4_put 17 = .ok (.ireturn, 1) := by decide +kernel
theorem dX4_put_18 : decode cX4_put 18 = .ok (.aload_n 0, 1) := by decide +kernel
theorem dX4_put_19 : decode cX4_put 19 = .ok (.iload_n 1, 1) := by decide +kernel
theorem dX4_put_20 : decode cX4_put 20 = .ok (.iload_n 2, 1) := by decide +kernel
theorem dX4_put_21 : decode cX4_put 21 = .ok (.invokevirtual 157, 3) := by decide +kernel
theorem dX4_put_24 : decode cX4_put 24 = .ok (.ifCond .ne 6, 3) := by decide +kernel
theorem dX4_put_27 : decode cX4_put 27 = .ok (.bipush (-2), 2) := by decide +kernel
theorem dX4_put_29 : decode cX4_put 29 = .ok (.ireturn, 1) := by decide +kernel
theorem dX4_put_30 : decode cX4_put 30 = .ok (.aload_n 0, 1) := by decide +kernel
theorem dX4_put_31 : decode cX4_put 31 = .ok (.iload_n 1, 1) := by decide +kernel
theorem dX4_put_32 : decode cX4_put 32 = .ok (.invokevirtual 140, 3) := by decide +kernel
theorem dX4_put_35 : decode cX4_put 35 = .ok (.istore_n 3, 1) := by decide +kernel
theorem dX4_put_36 : decode cX4_put 36 = .ok (.aload_n 0, 1) := by decide +kernel
theorem dX4_put_37 : decode cX4_put 37 = .ok (.getfield 13, 3) := by decide +kernel
theorem dX4_put_40 : decode cX4_put 40 = .ok (.iload_n 2, 1) := by decide +kernel
theorem dX4_put_41 : decode cX4_put 41 = .ok (.laload, 1) := by decide +kernel
theorem dX4_put_42 : decode cX4_put 42 = .ok (.invokestatic 68, 3) := by decide +kernel
theorem dX4_put_45 : decode cX4_put 45 = .ok (.istore 4, 2) := by decide +kernel
theorem dX4_put_47 : decode cX4_put 47 = .ok (.iload 4, 2) := by decide +kernel
theorem dX4_put_49 : decode cX4_put 49 = .ok (.aload_n 0, 1) := by decide +kernel
theorem dX4_put_50 : decode cX4_put 50 = .ok (.getfield 16, 3) := by decide +kernel
theorem dX4_put_53 : decode cX4_put 53 = .ok (.iload_n 3, 1) := by decide +kernel
theorem dX4_put_54 : decode cX4_put 54 = .ok (.iaload, 1) := by decide +kernel
theorem dX4_put_55 : decode cX4_put 55 = .ok (.imul, 1) := by decide +kernel
theorem dX4_put_56 : decode cX4_put 56 = .ok (.bipush 20, 2) := by decide +kernel
theorem dX4_put_58 : decode cX4_put 58 = .ok (.if_icmp .le 6, 3) := by decide +kernel
theorem dX4_put_61 : decode cX4_put 61 = .ok (.bipush (-2), 2) := by decide +kernel
theorem dX4_put_63 : decode cX4_put 63 = .ok (.ireturn, 1) := by decide +kernel
theorem dX4_put_64 : decode cX4_put 64 = .ok (.lconst 0, 1) := by decide +kernel
theorem dX4_put_65 : decode cX4_put 65 = .ok (.lstore 5, 2) := by decide +kernel
theorem dX4_put_67 : decode cX4_put 67 = .ok (.iconst 0, 1) := by decide +kernel
theorem dX4_put_68 : decode cX4_put 68 = .ok (.istore 7, 2) := by decide +kernel
theorem dX4_put_70 : decode cX4_put 70 = .ok (.iload 7, 2) := by decide +kernel
theorem dX4_put_72 : decode cX4_put 72 = .ok (.iload 4, 2) := by decide +kernel
theorem dX4_put_74 : decode cX4_put 74 = .ok (.if_icmp .ge 47, 3) := by decide +kernel
theorem dX4_put_77 : decode cX4_put 77 = .ok (.lload 5, 2) := by decide +kernel
theorem dX4_put_79 : decode cX4_put 79 = .ok (.aload_n 0, 1) := by decide +kernel
theorem dX4_put_80 : decode cX4_put 80 = .ok (.getfield 16, 3) := by decide +kernel
theorem dX4_put_83 : decode cX4_put 83 = .ok (.iload_n 3, 1) := by decide +kernel
theorem dX4_put_84 : decode cX4_put 84 = .ok (.iaload, 1) := by decide +kernel
theorem dX4_put_85 : decode cX4_put 85 = .ok (.lshl, 1) := by decide +kernel
theorem dX4_put_86 : decode cX4_put 86 = .ok (.aload_n 0, 1) := by decide +kernel
theorem dX4_put_87 : decode cX4_put 87 = .ok (.iload_n 2, 1) := by decide +kernel
theorem dX4_put_88 : decode cX4_put 88 = .ok (.iload 7, 2) := by decide +kernel
theorem dX4_put_90 : decode cX4_put 90 = .ok (.invokevirtual 153, 3) := by decide +kernel
theorem dX4_put_93 : decode cX4_put 93 = .ok (.iconst 1, 1) := by decide +kernel
theorem dX4_put_94 : decode cX4_put 94 = .ok (.if_icmp .ne 12, 3) := by decide +kernel
theorem dX4_put_97 : decode cX4_put 97 = .ok (.aload_n 0, 1) := by decide +kernel
theorem dX4_put_98 : decode cX4_put 98 = .ok (.getfield 23, 3) := by decide +kernel
theorem dX4_put_101 : decode cX4_put 101 = .ok (.iload_n 3, 1) := by decide +kernel
theorem dX4_put_102 : decode cX4_put 102 = .ok (.laload, 1) := by decide +kernel
theorem dX4_put_103 : decode cX4_put 103 = .ok (.goto 9, 3) := by decide +kernel
theorem dX4_put_106 : decode cX4_put 106 = .ok (.aload_n 0, 1) := by decide +kernel
theorem dX4_put_107 : decode cX4_put 107 = .ok (.getfield 20, 3) := by decide +kernel
theorem dX4_put_110 : decode cX4_put 110 = .ok (.iload_n 3, 1) := by decide +kernel
theorem dX4_put_111 : decode cX4_put 111 = .ok (.laload, 1) := by decide +kernel
theorem dX4_put_112 : decode cX4_put 112 = .ok (.ladd, 1) := by decide +kernel
theorem dX4_put_113 : decode cX4_put 113 = .ok (.lstore 5, 2) := by decide +kernel
theorem dX4_put_115 : decode cX4_put 115 = .ok (.iinc 7 1, 3) := by decide +kernel
theorem dX4_put_118 : decode cX4_put 118 = .ok (.goto (-48), 3) := by decide +kernel
theorem dX4_put_121 : decode cX4_put 121 = .ok (.aload_n 0, 1) := by decide +kernel
theorem dX4_put_122 : decode cX4_put 122 = .ok (.lload 5, 2) := by decide +kernel
theorem dX4_put_124 : decode cX4_put 124 = .ok (.iload 4, 2) := by decide +kernel
theorem dX4_put_126 : decode cX4_put 126 = .ok (.aload_n 0, 1) := by decide +kernel
theorem dX4_put_127 : decode cX4_put 127 = .ok (.getfield 16, 3) := by decide +kernel
theorem dX4_put_130 : decode cX4_put 130 = .ok (.iload_n 3, 1) := by decide +kernel
theorem dX4_put_131 : decode cX4_put 131 = .ok (.iaload, 1) := by decide +kernel
theorem dX4_put_132 : decode cX4_put 132 = .ok (.imul, 1) := by decide +kernel
theorem dX4_put_133 : decode cX4_put 133 = .ok (.invokestatic 113, 3) := by decide +kernel
theorem dX4_put_136 : decode cX4_put 136 = .ok (.invokevirtual 52, 3) := by decide +kernel
theorem dX4_put_139 : decode cX4_put 139 = .ok (.ireturn, 1) := by decide +kernel
theorem dX4_take_0 : decode cX4_take 0 = .ok (.aload_n 0, 1) := by decide +kernel
theorem dX4_take_1 : decode cX4_take 1 = .ok (.iload_n 1, 1) := by decide +kernel
theorem dX4_take_2 : decode cX4_take 2 = .ok (.invokevirtual 58, 3) := by decide +kernel
theorem dX4_take_5 : decode cX4_take 5 = .ok (.ifCond .eq 11, 3) := by decide +kernel
theorem dX4_take_8 : decode cX4_take 8 = .ok (.aload_n 0, 1) := by decide +kernel
theorem dX4_take_9 : decode cX4_take 9 = .ok (.iload_n 2, 1) := by decide +kernel
theorem dX4_take_10 : decode cX4_take 10 = .ok (.invokevirtual 58, 3) := by decide +kernel
theorem dX4_take_13 : decode cX4_take 13 = .ok (.ifCond .ne 5, 3) := by decide +kernel
theorem dX4_take_16 : decode cX4_take 16 = .ok (.iconst (-1), 1) := by decide +kernel
theorem dX4_take_17 : decode cX4_take 17 = .ok (.ireturn, 1) := by decide +kernel
theorem dX4_take_18 : decode cX4_take 18 = .ok (.aload_n 0, 1) := by decide +kernel
theorem dX4_take_19 : decode cX4_take 19 = .ok (.iload_n 1, 1) := by decide +kernel
theorem dX4_take_20 : decode cX4_take 20 = .ok (.iload_n 2, 1) := by decide +kernel
theorem dX4_take_21 : decode cX4_take 21 = .ok (.invokevirtual 157, 3) := by decide +kernel
theorem dX4_take_24 : decode cX4_take 24 = .ok (.ifCond .eq 17, 3) := by decide +kernel
theorem dX4_take_27 : decode cX4_take 27 = .ok (.aload_n 0, 1) := by decide +kernel
theorem dX4_take_28 : decode cX4_take 28 = .ok (.getfield 13, 3) := by decide +kernel
theorem dX4_take_31 : decode cX4_take 31 = .ok (.iload_n 2, 1) := by decide +kernel
theorem dX4_take_32 : decode cX4_take 32 = .ok (.laload, 1) := by decide +kernel
theorem dX4_take_33 : decode cX4_take 33 = .ok (.invokestatic 68, 3) := by decide +kernel
theorem dX4_take_36 : decode cX4_take 36 = .ok (.bipush 20, 2) := by decide +kernel
theorem dX4_take_38 : decode cX4_take 38 = .ok (.if_icmp .le 6, 3) := by decide +kernel
theorem dX4_take_41 : decode cX4_take 41 = .ok (.bipush (-2), 2) := by decide +kernel
theorem dX4_take_43 : decode cX4_take 43 = .ok (.ireturn, 1) := by decide +kernel
theorem dX4_take_44 : decode cX4_take 44 = .ok (.aload_n 0, 1) := by decide +kernel
theorem dX4_take_45 : decode cX4_take 45 = .ok (.iload_n 1, 1) := by decide +kernel
theorem dX4_take_46 : decode cX4_take 46 = .ok (.invokevirtual 140, 3) := by decide +kernel
theorem dX4_take_49 : decode cX4_take 49 = .ok (.istore_n 3, 1) := by decide +kernel
theorem dX4_take_50 : decode cX4_take 50 = .ok (.aload_n 0, 1) := by decide +kernel
theorem dX4_take_51 : decode cX4_take 51 = .ok (.getfield 16, 3) := by decide +kernel
theorem dX4_take_54 : decode cX4_take 54 = .ok (.iload_n 3, 1) := by decide +kernel
theorem dX4_take_55 : decode cX4_take 55 = .ok (.iaload, 1) := by decide +kernel
theorem dX4_take_56 : decode cX4_take 56 = .ok (.istore 4, 2) := by decide +kernel
theorem dX4_take_58 : decode cX4_take 58 = .ok (.aload_n 0, 1) := by decide +kernel
theorem dX4_take_59 : decode cX4_take 59 = .ok (.getfield 13, 3) := by decide +kernel
theorem dX4_take_62 : decode cX4_take 62 = .ok (.iload_n 2, 1) := by decide +kernel
theorem dX4_take_63 : decode cX4_take 63 = .ok (.laload, 1) := by decide +kernel
theorem dX4_take_64 : decode cX4_take 64 = .ok (.invokestatic 68, 3) := by decide +kernel
theorem dX4_take_67 : decode cX4_take 67 = .ok (.istore 5, 2) := by decide +kernel
theorem dX4_take_69 : decode cX4_take 69 = .ok (.iload 5, 2) := by decide +kernel
theorem dX4_take_71 : decode cX4_take 71 = .ok (.iload 5, 2) := by decide +kernel
theorem dX4_take_73 : decode cX4_take 73 = .ok (.i2l, 1) := by decide +kernel
theorem dX4_take_74 : decode cX4_take 74 = .ok (.iload 4, 2) := by decide +kernel
theorem dX4_take_76 : decode cX4_take 76 = .ok (.i2l, 1) := by decide +kernel
theorem dX4_take_77 : decode cX4_take 77 = .ok (.invokestatic 77, 3) := by decide +kernel
theorem dX4_take_80 : decode cX4_take 80 = .ok (.l2i, 1) := by decide +kernel
theorem dX4_take_81 : decode cX4_take 81 = .ok (.idiv, 1) := by decide +kernel
theorem dX4_take_82 : decode cX4_take 82 = .ok (.istore 6, 2) := by decide +kernel
theorem dX4_take_84 : decode cX4_take 84 = .ok (.lconst 0, 1) := by decide +kernel
theorem dX4_take_85 : decode cX4_take 85 = .ok (.lstore 7, 2) := by decide +kernel
theorem dX4_take_87 : decode cX4_take 87 = .ok (.iconst 1, 1) := by decide +kernel
theorem dX4_take_88 : decode cX4_take 88 = .ok (.istore 9, 2) := by decide +kernel
theorem dX4_take_90 : decode cX4_take 90 = .ok (.iconst 0, 1) := by decide +kernel
theorem dX4_take_91 : decode cX4_take 91 = .ok (.istore 10, 2) := by decide +kernel
theorem dX4_take_93 : decode cX4_take 93 = .ok (.iload 10, 2) := by decide +kernel
theorem dX4_take_95 : decode cX4_take 95 = .ok (.iload 6, 2) := by decide +kernel
theorem dX4_take_97 : decode cX4_take 97 = .ok (.if_icmp .ge 116, 3) := by decide +kernel
theorem dX4_take_100 : decode cX4_take 100 = .ok (.iload 9, 2) := by decide +kernel
theorem dX4_take_102 : decode cX4_take 102 = .ok (.ifCond .eq 111, 3) := by decide +kernel
theorem dX4_take_105 : decode cX4_take 105 = .ok (.lconst 0, 1) := by decide +kernel
theorem dX4_take_106 : decode cX4_take 106 = .ok (.lstore 11, 2) := by decide +kernel
theorem dX4_take_108 : decode cX4_take 108 = .ok (.iconst 0, 1) := by decide +kernel
theorem dX4_take_109 : decode cX4_take 109 = .ok (.istore 13, 2) := by decide +kernel
theorem dX4_take_111 : decode cX4_take 111 = .ok (.iload 13, 2) := by decide +kernel
theorem dX4_take_113 : decode cX4_take 113 = .ok (.iload 4, 2) := by decide +kernel
theorem dX4_take_115 : decode cX4_take 115 = .ok (.if_icmp .ge 35, 3) := by decide +kernel
theorem dX4_take_118 : decode cX4_take 118 = .ok (.ldc2_w 56, 3) := by decide +kernel
theorem dX4_take_121 : decode cX4_take 121 = .ok (.lload 11, 2) := by decide +kernel
theorem dX4_take_123 : decode cX4_take 123 = .ok (.lmul, 1) := by decide +kernel
theorem dX4_take_124 : decode cX4_take 124 = .ok (.aload_n 0, 1) := by decide +kernel
theorem dX4_take_125 : decode cX4_take 125 = .ok (.iload_n 2, 1) := by decide +kernel
theorem dX4_take_126 : decode cX4_take 126 = .ok (.iload 10, 2) := by decide +kernel
theorem dX4_take_128 : decode cX4_take 128 = .ok (.iload 4, 2) := by decide +kernel
theorem dX4_take_130 : decode cX4_take 130 = .ok (.imul, 1) := by decide +kernel
theorem dX4_take_131 : decode cX4_take 131 = .ok (.iload 13, 2) := by decide +kernel
theorem dX4_take_133 : decode cX4_take 133 = .ok (.iadd, 1) := by decide +kernel
theorem dX4_take_134 : decode cX4_take 134 = .ok (.iload 5, 2) := by decide +kernel
theorem dX4_take_136 : decode cX4_take 136 = .ok (.irem, 1) := by decide +kernel
theorem dX4_take_137 : decode cX4_take 137 = .ok (.invokevirtual 153, 3) := by decide +kernel
theorem dX4_take_140 : decode cX4_take 140 = .ok (.i2l, 1) := by decide +kernel
theorem dX4_take_141 : decode cX4_take 141 = .ok (.ladd, 1) := by decide +kernel
theorem dX4_take_142 : decode cX4_take 142 = .ok (.lstore 11, 2) := by decide +kernel
theorem dX4_take_144 : decode cX4_take 144 = .ok (.iinc 13 1, 3) := by decide +kernel
theorem dX4_take_147 : decode cX4_take 147 = .ok (.goto (-36), 3) := by decide +kernel
theorem dX4_take_150 : decode cX4_take 150 = .ok (.lload 11, 2) := by decide +kernel
theorem dX4_take_152 : decode cX4_take 152 = .ok (.aload_n 0, 1) := by decide +kernel
theorem dX4_take_153 : decode cX4_take 153 = .ok (.getfield 20, 3) := by decide +kernel
theorem dX4_take_156 : decode cX4_take 156 = .ok (.iload_n 3, 1) := by decide +kernel
theorem dX4_take_157 : decode cX4_take 157 = .ok (.laload, 1) := by decide +kernel
theorem dX4_take_158 : decode cX4_take 158 = .ok (.lcmp, 1) := by decide +kernel
theorem dX4_take_159 : decode cX4_take 159 = .ok (.ifCond .eq 15, 3) := by decide +kernel
theorem dX4_take_162 : decode cX4_take 162 = .ok (.lload 11, 2) := by decide +kernel
theorem dX4_take_164 : decode cX4_take 164 = .ok (.aload_n 0, 1) := by decide +kernel
theorem dX4_take_165 : decode cX4_take 165 = .ok (.getfield 23, 3) := by decide +kernel
theorem dX4_take_168 : decode cX4_take 168 = .ok (.iload_n 3, 1) := by decide +kernel
theorem dX4_take_169 : decode cX4_take 169 = .ok (.laload, 1) := by decide +kernel
theorem dX4_take_170 : decode cX4_take 170 = .ok (.lcmp, 1) := by decide +kernel
theorem dX4_take_171 : decode cX4_take 171 = .ok (.ifCond .ne 7, 3) := by decide +kernel
theorem dX4_take_174 : decode cX4_take 174 = .ok (.iconst 1, 1) := by decide +kernel
theorem dX4_take_175 : decode cX4_take 175 = .ok (.goto 4, 3) := by decide +kernel
theorem dX4_take_178 : decode cX4_take 178 = .ok (.iconst 0, 1) := by decide +kernel
theorem dX4_take_179 : decode cX4_take 179 = .ok (.istore 9, 2) := by decide +kernel
theorem dX4_take_181 : decode cX4_take 181 = .ok (.ldc2_w 56, 3) := by decide +kernel
theorem dX4_take_184 : decode cX4_take 184 = .ok (.lload 7, 2) := by decide +kernel
theorem dX4_take_186 : decode cX4_take 186 = .ok (.lmul, 1) := by decide +kernel
theorem dX4_take_187 : decode cX4_take 187 = .ok (.lload 11, 2) := by decide +kernel
theorem dX4_take_189 : decode cX4_take 189 = .ok (.aload_n 0, 1) := by decide +kernel
theorem dX4_take_190 : decode cX4_take 190 = .ok (.getfield 23, 3) := by decide +kernel
theorem dX4_take_193 : decode cX4_take 193 = .ok (.iload_n 3, 1) := by decide +kernel
theorem dX4_take_194 : decode cX4_take 194 = .ok (.laload, 1) := by decide +kernel
theorem dX4_take_195 : decode cX4_take 195 = .ok (.lcmp, 1) := by decide +kernel
theorem dX4_take_196 : decode cX4_take 196 = .ok (.ifCond .ne 7, 3) := by decide +kernel
theorem dX4_take_199 : decode cX4_take 199 = .ok (.lconst 1, 1) := by decide +kernel
theorem dX4_take_200 : decode cX4_take 200 = .ok (.goto 4, 3) := by decide +kernel
theorem dX4_take_203 : decode cX4_take 203 = .ok (.lconst 0, 1) := by decide +kernel
theorem dX4_take_204 : decode cX4_take 204 = .ok (.ladd, 1) := by decide +kernel
theorem dX4_take_205 : decode cX4_take 205 = .ok (.lstore 7, 2) := by decide +kernel
theorem dX4_take_207 : decode cX4_take 207 = .ok (.iinc 10 1, 3) := by decide +kernel
theorem dX4_take_210 : decode cX4_take 210 = .ok (.goto (-117), 3) := by decide +kernel
theorem dX4_take_213 : decode cX4_take 213 = .ok (.iload 9, 2) := by decide +kernel
theorem dX4_take_215 : decode cX4_take 215 = .ok (.ifCond .eq 14, 3) := by decide +kernel
theorem dX4_take_218 : decode cX4_take 218 = .ok (.lload 7, 2) := by decide +kernel
theorem dX4_take_220 : decode cX4_take 220 = .ok (.iload 6, 2) := by decide +kernel
theorem dX4_take_222 : decode cX4_take 222 = .ok (.invokestatic 113, 3) := by decide +kernel
theorem dX4_take_225 : decode cX4_take 225 = .ok (.lcmp, 1) := by decide +kernel
theorem dX4_take_226 : decode cX4_take 226 = .ok (.ifCond .ne 6, 3) := by decide +kernel
theorem dX4_take_229 : decode cX4_take 229 = .ok (.bipush (-4), 2) := by decide +kernel
theorem dX4_take_231 : decode cX4_take 231 = .ok (.ireturn, 1) := by decide +kernel
theorem dX4_take_232 : decode cX4_take 232 = .ok (.aload_n 0, 1) := by decide +kernel
theorem dX4_take_233 : decode cX4_take 233 = .ok (.lload 7, 2) := by decide +kernel
theorem dX4_take_235 : decode cX4_take 235 = .ok (.iload 6, 2) := by decide +kernel
theorem dX4_take_237 : decode cX4_take 237 = .ok (.invokestatic 113, 3) := by decide +kernel
theorem dX4_take_240 : decode cX4_take 240 = .ok (.invokevirtual 52, 3) := by decide +kernel
theorem dX4_take_243 : decode cX4_take 243 = .ok (.ireturn, 1) := by decide +kernel
theorem dX4_isSheet_0 : decode cX4_isSheet 0 = .ok (.iload_n 0, 1) := by decide +kernel
theorem dX4_isSheet_1 : decode cX4_isSheet 1 = .ok (.i2l, 1) := by decide +kernel
theorem dX4_isSheet_2 : decode cX4_isSheet 2 = .ok (.lconst 0, 1) := by decide +kernel
theorem dX4_isSheet_3 : decode cX4_isSheet 3 = .ok (.ldc2_w 62, 3) := by decide +kernel
theorem dX4_isSheet_6 : decode cX4_isSheet 6 = .ok (.invokestatic 46, 3) := by decide +kernel
theorem dX4_isSheet_9 : decode cX4_isSheet 9 = .ok (.ifCond .eq 17, 3) := by decide +kernel
theorem dX4_isSheet_12 : decode cX4_isSheet 12 = .ok (.iload_n 1, 1) := by decide +kernel
theorem dX4_isSheet_13 : decode cX4_isSheet 13 = .ok (.i2l, 1) := by decide +kernel
theorem dX4_isSheet_14 : decode cX4_isSheet 14 = .ok (.lconst 0, 1) := by decide +kernel
theorem dX4_isSheet_15 : decode cX4_isSheet 15 = .ok (.lconst 1, 1) := by decide +kernel
theorem dX4_isSheet_16 : decode cX4_isSheet 16 = .ok (.invokestatic 46, 3) := by decide +kernel
theorem dX4_isSheet_19 : decode cX4_isSheet 19 = .ok (.ifCond .eq 7, 3) := by decide +kernel
theorem dX4_isSheet_22 : decode cX4_isSheet 22 = .ok (.iconst 1, 1) := by decide +kernel
theorem dX4_isSheet_23 : decode cX4_isSheet 23 = .ok (.goto 4, 3) := by decide +kernel
theorem dX4_isSheet_26 : decode cX4_isSheet 26 = .ok (.iconst 0, 1) := by decide +kernel
theorem dX4_isSheet_27 : decode cX4_isSheet 27 = .ok (.ireturn, 1) := by decide +kernel
theorem dX4_sheet_0 : decode cX4_sheet 0 = .ok (.iload_n 1, 1) := by decide +kernel
theorem dX4_sheet_1 : decode cX4_sheet 1 = .ok (.iload_n 2, 1) := by decide +kernel
theorem dX4_sheet_2 : decode cX4_sheet 2 = .ok (.invokestatic 160, 3) := by decide +kernel
theorem dX4_sheet_5 : decode cX4_sheet 5 = .ok (.ifCond .eq 9, 3) := by decide +kernel
theorem dX4_sheet_8 : decode cX4_sheet 8 = .ok (.iload_n 3, 1) := by decide +kernel
theorem dX4_sheet_9 : decode cX4_sheet 9 = .ok (.bipush 60, 2) := by decide +kernel
theorem dX4_sheet_11 : decode cX4_sheet 11 = .ok (.if_icmp .le 5, 3) := by decide +kernel
theorem dX4_sheet_14 : decode cX4_sheet 14 = .ok (.iconst (-1), 1) := by decide +kernel
theorem dX4_sheet_15 : decode cX4_sheet 15 = .ok (.ireturn, 1) := by decide +kernel
theorem dX4_sheet_16 : decode cX4_sheet 16 = .ok (.iload_n 3, 1) := by decide +kernel
theorem dX4_sheet_17 : decode cX4_sheet 17 = .ok (.ifCond .ge 6, 3) := by decide +kernel
theorem dX4_sheet_20 : decode cX4_sheet 20 = .ok (.bipush (-14), 2) := by decide +kernel
theorem dX4_sheet_22 : decode cX4_sheet 22 = .ok (.ireturn, 1) := by decide +kernel
theorem dX4_sheet_23 : decode cX4_sheet 23 = .ok (.aload_n 0, 1) := by decide +kernel
theorem dX4_sheet_24 : decode cX4_sheet 24 = .ok (.getfield 30, 3) := by decide +kernel
theorem dX4_sheet_27 : decode cX4_sheet 27 = .ok (.iload_n 1, 1) := by decide +kernel
theorem dX4_sheet_28 : decode cX4_sheet 28 = .ok (.iload_n 2, 1) := by decide +kernel
theorem dX4_sheet_29 : decode cX4_sheet 29 = .ok (.iastore, 1) := by decide +kernel
theorem dX4_sheet_30 : decode cX4_sheet 30 = .ok (.aload_n 0, 1) := by decide +kernel
theorem dX4_sheet_31 : decode cX4_sheet 31 = .ok (.getfield 33, 3) := by decide +kernel
theorem dX4_sheet_34 : decode cX4_sheet 34 = .ok (.iload_n 1, 1) := by decide +kernel
theorem dX4_sheet_35 : decode cX4_sheet 35 = .ok (.iload_n 3, 1) := by decide +kernel
theorem dX4_sheet_36 : decode cX4_sheet 36 = .ok (.iastore, 1) := by decide +kernel
theorem dX4_sheet_37 : decode cX4_sheet 37 = .ok (.iconst 0, 1) := by decide +kernel
theorem dX4_sheet_38 : decode cX4_sheet 38 = .ok (.istore 4, 2) := by decide +kernel
theorem dX4_sheet_40 : decode cX4_sheet 40 = .ok (.iload 4, 2) := by decide +kernel
theorem dX4_sheet_42 : decode cX4_sheet 42 = .ok (.bipush 60, 2) := by decide +kernel
theorem dX4_sheet_44 : decode cX4_sheet 44 = .ok (.if_icmp .ge 22, 3) := by decide +kernel
theorem dX4_sheet_47 : decode cX4_sheet 47 = .ok (.aload_n 0, 1) := by decide +kernel
theorem dX4_sheet_48 : decode cX4_sheet 48 = .ok (.getfield 36, 3) := by decide +kernel
theorem dX4_sheet_51 : decode cX4_sheet 51 = .ok (.bipush 60, 2) := by decide +kernel
theorem dX4_sheet_53 : decode cX4_sheet 53 = .ok (.iload_n 1, 1) := by decide +kernel
theorem dX4_sheet_54 : decode cX4_sheet 54 = .ok (.imul, 1) := by decide +kernel
theorem dX4_sheet_55 : decode cX4_sheet 55 = .ok (.iload 4, 2) := by decide +kernel
theorem dX4_sheet_57 : decode cX4_sheet 57 = .ok (.iadd, 1) := by decide +kernel
theorem dX4_sheet_58 : decode cX4_sheet 58 = .ok (.lconst 0, 1) := by decide +kernel
theorem dX4_sheet_59 : decode cX4_sheet 59 = .ok (.lastore, 1) := by decide +kernel
theorem dX4_sheet_60 : decode cX4_sheet 60 = .ok (.iinc 4 1, 3) := by decide +kernel
theorem dX4_sheet_63 : decode cX4_sheet 63 = .ok (.goto (-23), 3) := by decide +kernel
theorem dX4_sheet_66 : decode cX4_sheet 66 = .ok (.iconst 1, 1) := by decide +kernel
theorem dX4_sheet_67 : decode cX4_sheet 67 = .ok (.ireturn, 1) := by decide +kernel
theorem dX4_lay_0 : decode cX4_lay 0 = .ok (.iload_n 1, 1) := by decide +kernel
theorem dX4_lay_1 : decode cX4_lay 1 = .ok (.iconst 0, 1) := by decide +kernel
theorem dX4_lay_2 : decode cX4_lay 2 = .ok (.invokestatic 160, 3) := by decide +kernel
theorem dX4_lay_5 : decode cX4_lay 5 = .ok (.ifCond .ne 5, 3) := by decide +kernel
theorem dX4_lay_8 : decode cX4_lay 8 = .ok (.iconst (-1), 1) := by decide +kernel
theorem dX4_lay_9 : decode cX4_lay 9 = .ok (.ireturn, 1) := by decide +kernel
theorem dX4_lay_10 : decode cX4_lay 10 = .ok (.aload_n 0, 1) := by decide +kernel
theorem dX4_lay_11 : decode cX4_lay 11 = .ok (.getfield 30, 3) := by decide +kernel
theorem dX4_lay_14 : decode cX4_lay 14 = .ok (.iload_n 1, 1) := by decide +kernel
theorem dX4_lay_15 : decode cX4_lay 15 = .ok (.iaload, 1) := by decide +kernel
theorem dX4_lay_16 : decode cX4_lay 16 = .ok (.bipush (-4), 2) := by decide +kernel
theorem dX4_lay_18 : decode cX4_lay 18 = .ok (.if_icmp .ne 6, 3) := by decide +kernel
theorem dX4_lay_21 : decode cX4_lay 21 = .ok (.bipush (-11), 2) := by decide +kernel
theorem dX4_lay_23 : decode cX4_lay 23 = .ok (.ireturn, 1) := by decide +kernel
theorem dX4_lay_24 : decode cX4_lay 24 = .ok (.iload_n 2, 1) := by decide +kernel
theorem dX4_lay_25 : decode cX4_lay 25 = .ok (.i2l, 1) := by decide +kernel
theorem dX4_lay_26 : decode cX4_lay 26 = .ok (.lconst 0, 1) := by decide +kernel
theorem dX4_lay_27 : decode cX4_lay 27 = .ok (.aload_n 0, 1) := by decide +kernel
theorem dX4_lay_28 : decode cX4_lay 28 = .ok (.getfield 33, 3) := by decide +kernel
theorem dX4_lay_31 : decode cX4_lay 31 = .ok (.iload_n 1, 1) := by decide +kernel
theorem dX4_lay_32 : decode cX4_lay 32 = .ok (.iaload, 1) := by decide +kernel
theorem dX4_lay_33 : decode cX4_lay 33 = .ok (.iconst 1, 1) := by decide +kernel
theorem dX4_lay_34 : decode cX4_lay 34 = .ok (.isub, 1) := by decide +kernel
theorem dX4_lay_35 : decode cX4_lay 35 = .ok (.i2l, 1) := by decide +kernel
theorem dX4_lay_36 : decode cX4_lay 36 = .ok (.invokestatic 46, 3) := by decide +kernel
theorem dX4_lay_39 : decode cX4_lay 39 = .ok (.ifCond .ne 6, 3) := by decide +kernel
theorem dX4_lay_42 : decode cX4_lay 42 = .ok (.bipush (-12), 2) := by decide +kernel
theorem dX4_lay_44 : decode cX4_lay 44 = .ok (.ireturn, 1) := by decide +kernel
theorem dX4_lay_45 : decode cX4_lay 45 = .ok (.aload_n 0, 1) := by decide +kernel
theorem dX4_lay_46 : decode cX4_lay 46 = .ok (.getfield 36, 3) := by decide +kernel
theorem dX4_lay_49 : decode cX4_lay 49 = .ok (.bipush 60, 2) := by decide +kernel
theorem dX4_lay_51 : decode cX4_lay 51 = .ok (.iload_n 1, 1) := by decide +kernel
theorem dX4_lay_52 : decode cX4_lay 52 = .ok (.imul, 1) := by decide +kernel
theorem dX4_lay_53 : decode cX4_lay 53 = .ok (.iload_n 2, 1) := by decide +kernel
theorem dX4_lay_54 : decode cX4_lay 54 = .ok (.iadd, 1) := by decide +kernel
theorem dX4_lay_55 : decode cX4_lay 55 = .ok (.aload_n 0, 1) := by decide +kernel
theorem dX4_lay_56 : decode cX4_lay 56 = .ok (.getfield 30, 3) := by decide +kernel
theorem dX4_lay_59 : decode cX4_lay 59 = .ok (.iload_n 1, 1) := by decide +kernel
theorem dX4_lay_60 : decode cX4_lay 60 = .ok (.iaload, 1) := by decide +kernel
theorem dX4_lay_61 : decode cX4_lay 61 = .ok (.ifCond .ne 9, 3) := by decide +kernel
theorem dX4_lay_64 : decode cX4_lay 64 = .ok (.lload_n 3, 1) := by decide +kernel
theorem dX4_lay_65 : decode cX4_lay 65 = .ok (.l2i, 1) := by decide +kernel
theorem dX4_lay_66 : decode cX4_lay 66 = .ok (.i2l, 1) := by decide +kernel
theorem dX4_lay_67 : decode cX4_lay 67 = .ok (.goto 4, 3) := by decide +kernel
theorem dX4_lay_70 : decode cX4_lay 70 = .ok (.lload_n 3, 1) := by decide +kernel
theorem dX4_lay_71 : decode cX4_lay 71 = .ok (.lastore, 1) := by decide +kernel
theorem dX4_lay_72 : decode cX4_lay 72 = .ok (.iconst 1, 1) := by decide +kernel
theorem dX4_lay_73 : decode cX4_lay 73 = .ok (.ireturn, 1) := by decide +kernel
theorem dX4_scan_0 : decode cX4_scan 0 = .ok (.iload_n 1, 1) := by decide +kernel
theorem dX4_scan_1 : decode cX4_scan 1 = .ok (.iload_n 2, 1) := by decide +kernel
theorem dX4_scan_2 : decode cX4_scan 2 = .ok (.invokestatic 160, 3) := by decide +kernel
theorem dX4_scan_5 : decode cX4_scan 5 = .ok (.ifCond .eq 16, 3) := by decide +kernel
theorem dX4_scan_8 : decode cX4_scan 8 = .ok (.iload 4, 2) := by decide +kernel
theorem dX4_scan_10 : decode cX4_scan 10 = .ok (.i2l, 1) := by decide +kernel
theorem dX4_scan_11 : decode cX4_scan 11 = .ok (.lconst 0, 1) := by decide +kernel
theorem dX4_scan_12 : decode cX4_scan 12 = .ok (.ldc2_w 163, 3) := by decide +kernel
theorem dX4_scan_15 : decode cX4_scan 15 = .ok (.invokestatic 46, 3) := by decide +kernel
theorem dX4_scan_18 : decode cX4_scan 18 = .ok (.ifCond .ne 5, 3) := by decide +kernel
theorem dX4_scan_21 : decode cX4_scan 21 = .ok (.iconst (-1), 1) := by decide +kernel
theorem dX4_scan_22 : decode cX4_scan 22 = .ok (.ireturn, 1) := by decide +kernel
theorem dX4_scan_23 : decode cX4_scan 23 = .ok (.aload_n 0, 1) := by decide +kernel
theorem dX4_scan_24 : decode cX4_scan 24 = .ok (.getfield 30, 3) := by decide +kernel
theorem dX4_scan_27 : decode cX4_scan 27 = .ok (.iload_n 1, 1) := by decide +kernel
theorem dX4_scan_28 : decode cX4_scan 28 = .ok (.iaload, 1) := by decide +kernel
theorem dX4_scan_29 : decode cX4_scan 29 = .ok (.iload_n 2, 1) := by decide +kernel
theorem dX4_scan_30 : decode cX4_scan 30 = .ok (.if_icmp .eq 22, 3) := by decide +kernel
theorem dX4_scan_33 : decode cX4_scan 33 = .ok (.aload_n 0, 1) := by decide +kernel
theorem dX4_scan_34 : decode cX4_scan 34 = .ok (.getfield 30, 3) := by decide +kernel
theorem dX4_scan_37 : decode cX4_scan 37 = .ok (.iload_n 1, 1) := by decide +kernel
theorem dX4_scan_38 : decode cX4_scan 38 = .ok (.iaload, 1) := by decide +kernel
theorem dX4_scan_39 : decode cX4_scan 39 = .ok (.bipush (-4), 2) := by decide +kernel
theorem dX4_scan_41 : decode cX4_scan 41 = .ok (.if_icmp .ne 8, 3) := by decide +kernel
theorem dX4_scan_44 : decode cX4_scan 44 = .ok (.bipush (-11), 2) := by decide +kernel
theorem dX4_scan_46 : decode cX4_scan 46 = .ok (.goto 5, 3) := by decide +kernel
theorem dX4_scan_49 : decode cX4_scan 49 = .ok (.bipush (-13), 2) := by decide +kernel
theorem dX4_scan_51 : decode cX4_scan 51 = .ok (.ireturn, 1) := by decide +kernel
theorem dX4_scan_52 : decode cX4_scan 52 = .ok (.aload_n 0, 1) := by decide +kernel
theorem dX4_scan_53 : decode cX4_scan 53 = .ok (.getfield 42, 3) := by decide +kernel
theorem dX4_scan_56 : decode cX4_scan 56 = .ok (.istore 5, 2) := by decide +kernel
theorem dX4_scan_58 : decode cX4_scan 58 = .ok (.iconst 0, 1) := by decide +kernel
theorem dX4_scan_59 : decode cX4_scan 59 = .ok (.istore 6, 2) := by decide +kernel
theorem dX4_scan_61 : decode cX4_scan 61 = .ok (.iconst 0, 1) := by decide +kernel
theorem dX4_scan_62 : decode cX4_scan 62 = .ok (.istore 7, 2) := by decide +kernel
theorem dX4_scan_64 : decode cX4_scan 64 = .ok (.iload 7, 2) := by decide +kernel
theorem dX4_scan_66 : decode cX4_scan 66 = .ok (.iload 4, 2) := by decide +kernel
theorem dX4_scan_68 : decode cX4_scan 68 = .ok (.if_icmp .ge 105, 3) := by decide +kernel
theorem dX4_scan_71 : decode cX4_scan 71 = .ok (.iload 6, 2) := by decide +kernel
theorem dX4_scan_73 : decode cX4_scan 73 = .ok (.ifCond .ne 100, 3) := by decide +kernel
theorem dX4_scan_76 : decode cX4_scan 76 = .ok (.iload_n 3, 1) := by decide +kernel
theorem dX4_scan_77 : decode cX4_scan 77 = .ok (.i2l, 1) := by decide +kernel
theorem dX4_scan_78 : decode cX4_scan 78 = .ok (.iconst 2, 1) := by decide +kernel
theorem dX4_scan_79 : decode cX4_scan 79 = .ok (.iload 7, 2) := by decide +kernel
theorem dX4_scan_81 : decode cX4_scan 81 = .ok (.imul, 1) := by decide +kernel
theorem dX4_scan_82 : decode cX4_scan 82 = .ok (.i2l, 1) := by decide +kernel
theorem dX4_scan_83 : decode cX4_scan 83 = .ok (.ladd, 1) := by decide +kernel
theorem dX4_scan_84 : decode cX4_scan 84 = .ok (.lstore 8, 2) := by decide +kernel
theorem dX4_scan_86 : decode cX4_scan 86 = .ok (.lload 8, 2) := by decide +kernel
theorem dX4_scan_88 : decode cX4_scan 88 = .ok (.lconst 0, 1) := by decide +kernel
theorem dX4_scan_89 : decode cX4_scan 89 = .ok (.lcmp, 1) := by decide +kernel
theorem dX4_scan_90 : decode cX4_scan 90 = .ok (.ifCond .lt 20, 3) := by decide +kernel
theorem dX4_scan_93 : decode cX4_scan 93 = .ok (.lload 8, 2) := by decide +kernel
theorem dX4_scan_95 : decode cX4_scan 95 = .ok (.ldc2_w 56, 3) := by decide +kernel
theorem dX4_scan_98 : decode cX4_scan 98 = .ok (.ladd, 1) := by decide +kernel
theorem dX4_scan_99 : decode cX4_scan 99 = .ok (.aload_n 0, 1) := by decide +kernel
theorem dX4_scan_100 : decode cX4_scan 100 = .ok (.getfield 33, 3) := by decide +kernel
theorem dX4_scan_103 : decode cX4_scan 103 = .ok (.iload_n 1, 1) := by decide +kernel
theorem dX4_scan_104 : decode cX4_scan 104 = .ok (.iaload, 1) := by decide +kernel
theorem dX4_scan_105 : decode cX4_scan 105 = .ok (.i2l, 1) := by decide +kernel
theorem dX4_scan_106 : decode cX4_scan 106 = .ok (.lcmp, 1) := by decide +kernel
theorem dX4_scan_107 : decode cX4_scan 107 = .ok (.ifCond .le 10, 3) := by decide +kernel
theorem dX4_scan_110 : decode cX4_scan 110 = .ok (.bipush (-12), 2) := by decide +kernel
theorem dX4_scan_112 : decode cX4_scan 112 = .ok (.istore 6, 2) := by decide +kernel
theorem dX4_scan_114 : decode cX4_scan 114 = .ok (.goto 53, 3) := by decide +kernel
theorem dX4_scan_117 : decode cX4_scan 117 = .ok (.aload_n 0, 1) := by decide +kernel
theorem dX4_scan_118 : decode cX4_scan 118 = .ok (.aload_n 0, 1) := by decide +kernel
theorem dX4_scan_119 : decode cX4_scan 119 = .ok (.getfield 36, 3) := by decide +kernel
theorem dX4_scan_122 : decode cX4_scan 122 = .ok (.bipush 60, 2) := by decide +kernel
theorem dX4_scan_124 : decode cX4_scan 124 = .ok (.iload_n 1, 1) := by decide +kernel
theorem dX4_scan_125 : decode cX4_scan 125 = .ok (.imul, 1) := by decide +kernel
theorem dX4_scan_126 : decode cX4_scan 126 = .ok (.lload 8, 2) := by decide +kernel
theorem dX4_scan_128 : decode cX4_scan 128 = .ok (.l2i, 1) := by decide +kernel
theorem dX4_scan_129 : decode cX4_scan 129 = .ok (.iadd, 1) := by decide +kernel
theorem dX4_scan_130 : decode cX4_scan 130 = .ok (.laload, 1) := by decide +kernel
theorem dX4_scan_131 : decode cX4_scan 131 = .ok (.aload_n 0, 1) := by decide +kernel
theorem dX4_scan_132 : decode cX4_scan 132 = .ok (.getfield 36, 3) := by decide +kernel
theorem dX4_scan_135 : decode cX4_scan 135 = .ok (.bipush 60, 2) := by decide +kernel
theorem dX4_scan_137 : decode cX4_scan 137 = .ok (.iload_n 1, 1) := by decide +kernel
theorem dX4_scan_138 : decode cX4_scan 138 = .ok (.imul, 1) := by decide +kernel
theorem dX4_scan_139 : decode cX4_scan 139 = .ok (.lload 8, 2) := by decide +kernel
theorem dX4_scan_141 : decode cX4_scan 141 = .ok (.l2i, 1) := by decide +kernel
theorem dX4_scan_142 : decode cX4_scan 142 = .ok (.iadd, 1) := by decide +kernel
theorem dX4_scan_143 : decode cX4_scan 143 = .ok (.iconst 1, 1) := by decide +kernel
theorem dX4_scan_144 : decode cX4_scan 144 = .ok (.iadd, 1) := by decide +kernel
theorem dX4_scan_145 : decode cX4_scan 145 = .ok (.laload, 1) := by decide +kernel
theorem dX4_scan_146 : decode cX4_scan 146 = .ok (.invokevirtual 165, 3) := by decide +kernel
theorem dX4_scan_149 : decode cX4_scan 149 = .ok (.istore 10, 2) := by decide +kernel
theorem dX4_scan_151 : decode cX4_scan 151 = .ok (.iload 10, 2) := by decide +kernel
theorem dX4_scan_153 : decode cX4_scan 153 = .ok (.ifCond .ge 11, 3) := by decide +kernel
theorem dX4_scan_156 : decode cX4_scan 156 = .ok (.bipush (-20), 2) := by decide +kernel
theorem dX4_scan_158 : decode cX4_scan 158 = .ok (.iload 10, 2) := by decide +kernel
theorem dX4_scan_160 : decode cX4_scan 160 = .ok (.iadd, 1) := by decide +kernel
theorem dX4_scan_161 : decode cX4_scan 161 = .ok (.goto 4, 3) := by decide +kernel
theorem dX4_scan_164 : decode cX4_scan 164 = .ok (.iconst 0, 1) := by decide +kernel
theorem dX4_scan_165 : decode cX4_scan 165 = .ok (.istore 6, 2) := by decide +kernel
theorem dX4_scan_167 : decode cX4_scan 167 = .ok (.iinc 7 1, 3) := by decide +kernel
theorem dX4_scan_170 : decode cX4_scan 170 = .ok (.goto (-106), 3) := by decide +kernel
theorem dX4_scan_173 : decode cX4_scan 173 = .ok (.aload_n 0, 1) := by decide +kernel
theorem dX4_scan_174 : decode cX4_scan 174 = .ok (.iload 6, 2) := by decide +kernel
theorem dX4_scan_176 : decode cX4_scan 176 = .ok (.ifCond .ge 8, 3) := by decide +kernel
theorem dX4_scan_179 : decode cX4_scan 179 = .ok (.iload 5, 2) := by decide +kernel
theorem dX4_scan_181 : decode cX4_scan 181 = .ok (.goto 7, 3) := by decide +kernel
theorem dX4_scan_184 : decode cX4_scan 184 = .ok (.aload_n 0, 1) := by decide +kernel
theorem dX4_scan_185 : decode cX4_scan 185 = .ok (.getfield 42, 3) := by decide +kernel
theorem dX4_scan_188 : decode cX4_scan 188 = .ok (.putfield 42, 3) := by decide +kernel
theorem dX4_scan_191 : decode cX4_scan 191 = .ok (.iload 6, 2) := by decide +kernel
theorem dX4_scan_193 : decode cX4_scan 193 = .ok (.ifCond .ge 8, 3) := by decide +kernel
theorem dX4_scan_196 : decode cX4_scan 196 = .ok (.iload 6, 2) := by decide +kernel
theorem dX4_scan_198 : decode cX4_scan 198 = .ok (.goto 7, 3) := by decide +kernel
theorem dX4_scan_201 : decode cX4_scan 201 = .ok (.aload_n 0, 1) := by decide +kernel
theorem dX4_scan_202 : decode cX4_scan 202 = .ok (.getfield 42, 3) := by decide +kernel
theorem dX4_scan_205 : decode cX4_scan 205 = .ok (.ireturn, 1) := by decide +kernel
theorem dX4_count_0 : decode cX4_count 0 = .ok (.iconst 0, 1) := by decide +kernel
theorem dX4_count_1 : decode cX4_count 1 = .ok (.istore_n 2, 1) := by decide +kernel
theorem dX4_count_2 : decode cX4_count 2 = .ok (.iconst 0, 1) := by decide +kernel
theorem dX4_count_3 : decode cX4_count 3 = .ok (.istore_n 3, 1) := by decide +kernel
theorem dX4_count_4 : decode cX4_count 4 = .ok (.iconst 0, 1) := by decide +kernel
theorem dX4_count_5 : decode cX4_count 5 = .ok (.istore 4, 2) := by decide +kernel
theorem dX4_count_7 : decode cX4_count 7 = .ok (.iload 4, 2) := by decide +kernel
theorem dX4_count_9 : decode cX4_count 9 = .ok (.aload_n 0, 1) := by decide +kernel
theorem dX4_count_10 : decode cX4_count 10 = .ok (.getfield 42, 3) := by decide +kernel
theorem dX4_count_13 : decode cX4_count 13 = .ok (.if_icmp .ge 81, 3) := by decide +kernel
theorem dX4_count_16 : decode cX4_count 16 = .ok (.iload_n 2, 1) := by decide +kernel
theorem dX4_count_17 : decode cX4_count 17 = .ok (.aload_n 0, 1) := by decide +kernel
theorem dX4_count_18 : decode cX4_count 18 = .ok (.iload 4, 2) := by decide +kernel
theorem dX4_count_20 : decode cX4_count 20 = .ok (.invokevirtual 95, 3) := by decide +kernel
theorem dX4_count_23 : decode cX4_count 23 = .ok (.ifCond .eq 7, 3) := by decide +kernel
theorem dX4_count_26 : decode cX4_count 26 = .ok (.iconst 1, 1) := by decide +kernel
theorem dX4_count_27 : decode cX4_count 27 = .ok (.goto 4, 3) := by decide +kernel
theorem dX4_count_30 : decode cX4_count 30 = .ok (.iconst 0, 1) := by decide +kernel
theorem dX4_count_31 : decode cX4_count 31 = .ok (.iadd, 1) := by decide +kernel
theorem dX4_count_32 : decode cX4_count 32 = .ok (.istore_n 2, 1) := by decide +kernel
theorem dX4_count_33 : decode cX4_count 33 = .ok (.iconst 1, 1) := by decide +kernel
theorem dX4_count_34 : decode cX4_count 34 = .ok (.istore 5, 2) := by decide +kernel
theorem dX4_count_36 : decode cX4_count 36 = .ok (.iconst 0, 1) := by decide +kernel
theorem dX4_count_37 : decode cX4_count 37 = .ok (.istore 6, 2) := by decide +kernel
theorem dX4_count_39 : decode cX4_count 39 = .ok (.iload 6, 2) := by decide +kernel
theorem dX4_count_41 : decode cX4_count 41 = .ok (.iload 4, 2) := by decide +kernel
theorem dX4_count_43 : decode cX4_count 43 = .ok (.if_icmp .ge 32, 3) := by decide +kernel
theorem dX4_count_46 : decode cX4_count 46 = .ok (.iload 5, 2) := by decide +kernel
theorem dX4_count_48 : decode cX4_count 48 = .ok (.ifCond .eq 18, 3) := by decide +kernel
theorem dX4_count_51 : decode cX4_count 51 = .ok (.aload_n 0, 1) := by decide +kernel
theorem dX4_count_52 : decode cX4_count 52 = .ok (.iload 4, 2) := by decide +kernel
theorem dX4_count_54 : decode cX4_count 54 = .ok (.iload 6, 2) := by decide +kernel
theorem dX4_count_56 : decode cX4_count 56 = .ok (.invokevirtual 106, 3) := by decide +kernel
theorem dX4_count_59 : decode cX4_count 59 = .ok (.ifCond .ne 7, 3) := by decide +kernel
theorem dX4_count_62 : decode cX4_count 62 = .ok (.iconst 1, 1) := by decide +kernel
theorem dX4_count_63 : decode cX4_count 63 = .ok (.goto 4, 3) := by decide +kernel
theorem dX4_count_66 : decode cX4_count 66 = .ok (.iconst 0, 1) := by decide +kernel
theorem dX4_count_67 : decode cX4_count 67 = .ok (.istore 5, 2) := by decide +kernel
theorem dX4_count_69 : decode cX4_count 69 = .ok (.iinc 6 1, 3) := by decide +kernel
theorem dX4_count_72 : decode cX4_count 72 = .ok (.goto (-33), 3) := by decide +kernel
theorem dX4_count_75 : decode cX4_count 75 = .ok (.iload_n 3, 1) := by decide +kernel
theorem dX4_count_76 : decode cX4_count 76 = .ok (.iload 5, 2) := by decide +kernel
theorem dX4_count_78 : decode cX4_count 78 = .ok (.ifCond .eq 7, 3) := by decide +kernel
theorem dX4_count_81 : decode cX4_count 81 = .ok (.iconst 1, 1) := by decide +kernel
theorem dX4_count_82 : decode cX4_count 82 = .ok (.goto 4, 3) := by decide +kernel
theorem dX4_count_85 : decode cX4_count 85 = .ok (.iconst 0, 1) := by decide +kernel
theorem dX4_count_86 : decode cX4_count 86 = .ok (.iadd, 1) := by decide +kernel
theorem dX4_count_87 : decode cX4_count 87 = .ok (.istore_n 3, 1) := by decide +kernel
theorem dX4_count_88 : decode cX4_count 88 = .ok (.iinc 4 1, 3) := by decide +kernel
theorem dX4_count_91 : decode cX4_count 91 = .ok (.goto (-84), 3) := by decide +kernel
theorem dX4_count_94 : decode cX4_count 94 = .ok (.iload_n 1, 1) := by decide +kernel
theorem dX4_count_95 : decode cX4_count 95 = .ok (.ifCond .ne 10, 3) := by decide +kernel
theorem dX4_count_98 : decode cX4_count 98 = .ok (.aload_n 0, 1) := by decide +kernel
theorem dX4_count_99 : decode cX4_count 99 = .ok (.getfield 42, 3) := by decide +kernel
theorem dX4_count_102 : decode cX4_count 102 = .ok (.goto 22, 3) := by decide +kernel
theorem dX4_count_105 : decode cX4_count 105 = .ok (.iload_n 1, 1) := by decide +kernel
theorem dX4_count_106 : decode cX4_count 106 = .ok (.iconst 1, 1) := by decide +kernel
theorem dX4_count_107 : decode cX4_count 107 = .ok (.if_icmp .ne 7, 3) := by decide +kernel
theorem dX4_count_110 : decode cX4_count 110 = .ok (.iload_n 2, 1) := by decide +kernel
theorem dX4_count_111 : decode cX4_count 111 = .ok (.goto 13, 3) := by decide +kernel
theorem dX4_count_114 : decode cX4_count 114 = .ok (.iload_n 1, 1) := by decide +kernel
theorem dX4_count_115 : decode cX4_count 115 = .ok (.iconst 2, 1) := by decide +kernel
theorem dX4_count_116 : decode cX4_count 116 = .ok (.if_icmp .ne 7, 3) := by decide +kernel
theorem dX4_count_119 : decode cX4_count 119 = .ok (.iload_n 3, 1) := by decide +kernel
theorem dX4_count_120 : decode cX4_count 120 = .ok (.goto 4, 3) := by decide +kernel
theorem dX4_count_123 : decode cX4_count 123 = .ok (.iconst (-1), 1) := by decide +kernel
theorem dX4_count_124 : decode cX4_count 124 = .ok (.ireturn, 1) := by decide +kernel
end
section
theorem dL_law_0 : decode cL_law 0 = .ok (.new 7, 3) := by decide +kernel
theorem dL_law_3 : decode cL_law 3 = .ok (.dup, 1) := by decide +kernel
theorem dL_law_4 : decode cL_law 4 = .ok (.invokespecial 9, 3) := by decide +kernel
theorem dL_law_7 : decode cL_law 7 = .ok (.astore_n 1, 1) := by decide +kernel
theorem dL_law_8 : decode cL_law 8 = .ok (.new 10, 3) := by decide +kernel
theorem dL_law_11 : decode cL_law 11 = .ok (.dup, 1) := by decide +kernel
theorem dL_law_12 : decode cL_law 12 = .ok (.invokespecial 12, 3) := by decide +kernel
theorem dL_law_15 : decode cL_law 15 = .ok (.astore_n 2, 1) := by decide +kernel
theorem dL_law_16 : decode cL_law 16 = .ok (.iconst 0, 1) := by decide +kernel
theorem dL_law_17 : decode cL_law 17 = .ok (.istore_n 3, 1) := by decide +kernel
theorem dL_law_18 : decode cL_law 18 = .ok (.iload_n 3, 1) := by decide +kernel
theorem dL_law_19 : decode cL_law 19 = .ok (.aload_n 0, 1) := by decide +kernel
theorem dL_law_20 : decode cL_law 20 = .ok (.arraylength, 1) := by decide +kernel
theorem dL_law_21 : decode cL_law 21 = .ok (.iconst 5, 1) := by decide +kernel
theorem dL_law_22 : decode cL_law 22 = .ok (.isub, 1) := by decide +kernel
theorem dL_law_23 : decode cL_law 23 = .ok (.if_icmp .gt 1079, 3) := by decide +kernel
theorem dL_law_26 : decode cL_law 26 = .ok (.aload_n 0, 1) := by decide +kernel
theorem dL_law_27 : decode cL_law 27 = .ok (.iload_n 3, 1) := by decide +kernel
theorem dL_law_28 : decode cL_law 28 = .ok (.iaload, 1) := by decide +kernel
theorem dL_law_29 : decode cL_law 29 = .ok (.bipush 31, 2) := by decide +kernel
theorem dL_law_31 : decode cL_law 31 = .ok (.iand, 1) := by decide +kernel
theorem dL_law_32 : decode cL_law 32 = .ok (.tableswitch 1064 0 23 #[112, 205, 218, 251, 294, 317, 360, 393, 446, 489, 512, 555, 578, 611, 664, 697, 740, 773, 806, 839, 872, 915, 988, 1041], 112) := by decide +kernel
theorem dL_law_144 : decode cL_law 144 = .ok (.aload_n 1, 1) := by decide +kernel
theorem dL_law_145 : decode cL_law 145 = .ok (.aload_n 0, 1) := by decide +kernel
theorem dL_law_146 : decode cL_law 146 = .ok (.iload_n 3, 1) := by decide +kernel
theorem dL_law_147 : decode cL_law 147 = .ok (.iconst 1, 1) := by decide +kernel
theorem dL_law_148 : decode cL_law 148 = .ok (.iadd, 1) := by decide +kernel
theorem dL_law_149 : decode cL_law 149 = .ok (.iaload, 1) := by decide +kernel
theorem dL_law_150 : decode cL_law 150 = .ok (.i2l, 1) := by decide +kernel
theorem dL_law_151 : decode cL_law 151 = .ok (.bipush 32, 2) := by decide +kernel
theorem dL_law_153 : decode cL_law 153 = .ok (.lshl, 1) := by decide +kernel
theorem dL_law_154 : decode cL_law 154 = .ok (.aload_n 0, 1) := by decide +kernel
theorem dL_law_155 : decode cL_law 155 = .ok (.iload_n 3, 1) := by decide +kernel
theorem dL_law_156 : decode cL_law 156 = .ok (.iconst 2, 1) := by decide +kernel
theorem dL_law_157 : decode cL_law 157 = .ok (.iadd, 1) := by decide +kernel
theorem dL_law_158 : decode cL_law 158 = .ok (.iaload, 1) := by decide +kernel
theorem dL_law_159 : decode cL_law 159 = .ok (.i2l, 1) := by decide +kernel
theorem dL_law_160 : decode cL_law 160 = .ok (.ldc2_w 13, 3) := by decide +kernel
theorem dL_law_163 : decode cL_law 163 = .ok (.land, 1) := by decide +kernel
theorem dL_law_164 : decode cL_law 164 = .ok (.lor, 1) := by decide +kernel
theorem dL_law_165 : decode cL_law 165 = .ok (.aload_n 0, 1) := by decide +kernel
theorem dL_law_166 : decode cL_law 166 = .ok (.iload_n 3, 1) := by decide +kernel
theorem dL_law_167 : decode cL_law 167 = .ok (.iconst 3, 1) := by decide +kernel
theorem dL_law_168 : decode cL_law 168 = .ok (.iadd, 1) := by decide +kernel
theorem dL_law_169 : decode cL_law 169 = .ok (.iaload, 1) := by decide +kernel
theorem dL_law_170 : decode cL_law 170 = .ok (.i2l, 1) := by decide +kernel
theorem dL_law_171 : decode cL_law 171 = .ok (.bipush 32, 2) := by decide +kernel
theorem dL_law_173 : decode cL_law 173 = .ok (.lshl, 1) := by decide +kernel
theorem dL_law_174 : decode cL_law 174 = .ok (.aload_n 0, 1) := by decide +kernel
theorem dL_law_175 : decode cL_law 175 = .ok (.iload_n 3, 1) := by decide +kernel
theorem dL_law_176 : decode cL_law 176 = .ok (.iconst 4, 1) := by decide +kernel
theorem dL_law_177 : decode cL_law 177 = .ok (.iadd, 1) := by decide +kernel
theorem dL_law_178 : decode cL_law 178 = .ok (.iaload, 1) := by decide +kernel
theorem dL_law_179 : decode cL_law 179 = .ok (.i2l, 1) := by decide +kernel
theorem dL_law_180 : decode cL_law 180 = .ok (.ldc2_w 13, 3) := by decide +kernel
theorem dL_law_183 : decode cL_law 183 = .ok (.land, 1) := by decide +kernel
theorem dL_law_184 : decode cL_law 184 = .ok (.lor, 1) := by decide +kernel
theorem dL_law_185 : decode cL_law 185 = .ok (.invokevirtual 15, 3) := by decide +kernel
theorem dL_law_188 : decode cL_law 188 = .ok (.aload_n 2, 1) := by decide +kernel
theorem dL_law_189 : decode cL_law 189 = .ok (.aload_n 0, 1) := by decide +kernel
theorem dL_law_190 : decode cL_law 190 = .ok (.iload_n 3, 1) := by decide +kernel
theorem dL_law_191 : decode cL_law 191 = .ok (.iconst 1, 1) := by decide +kernel
theorem dL_law_192 : decode cL_law 192 = .ok (.iadd, 1) := by decide +kernel
theorem dL_law_193 : decode cL_law 193 = .ok (.iaload, 1) := by decide +kernel
theorem dL_law_194 : decode cL_law 194 = .ok (.i2l, 1) := by decide +kernel
theorem dL_law_195 : decode cL_law 195 = .ok (.bipush 32, 2) := by decide +kernel
theorem dL_law_197 : decode cL_law 197 = .ok (.lshl, 1) := by decide +kernel
theorem dL_law_198 : decode cL_law 198 = .ok (.aload_n 0, 1) := by decide +kernel
theorem dL_law_199 : decode cL_law 199 = .ok (.iload_n 3, 1) := by decide +kernel
theorem dL_law_200 : decode cL_law 200 = .ok (.iconst 2, 1) := by decide +kernel
theorem dL_law_201 : decode cL_law 201 = .ok (.iadd, 1) := by decide +kernel
theorem dL_law_202 : decode cL_law 202 = .ok (.iaload, 1) := by decide +kernel
theorem dL_law_203 : decode cL_law 203 = .ok (.i2l, 1) := by decide +kernel
theorem dL_law_204 : decode cL_law 204 = .ok (.ldc2_w 13, 3) := by decide +kernel
theorem dL_law_207 : decode cL_law 207 = .ok (.land, 1) := by decide +kernel
theorem dL_law_208 : decode cL_law 208 = .ok (.lor, 1) := by decide +kernel
theorem dL_law_209 : decode cL_law 209 = .ok (.aload_n 0, 1) := by decide +kernel
theorem dL_law_210 : decode cL_law 210 = .ok (.iload_n 3, 1) := by decide +kernel
theorem dL_law_211 : decode cL_law 211 = .ok (.iconst 3, 1) := by decide +kernel
theorem dL_law_212 : decode cL_law 212 = .ok (.iadd, 1) := by decide +kernel
theorem dL_law_213 : decode cL_law 213 = .ok (.iaload, 1) := by decide +kernel
theorem dL_law_214 : decode cL_law 214 = .ok (.i2l, 1) := by decide +kernel
theorem dL_law_215 : decode cL_law 215 = .ok (.bipush 32, 2) := by decide +kernel
theorem dL_law_217 : decode cL_law 217 = .ok (.lshl, 1) := by decide +kernel
theorem dL_law_218 : decode cL_law 218 = .ok (.aload_n 0, 1) := by decide +kernel
theorem dL_law_219 : decode cL_law 219 = .ok (.iload_n 3, 1) := by decide +kernel
theorem dL_law_220 : decode cL_law 220 = .ok (.iconst 4, 1) := by decide +kernel
theorem dL_law_221 : decode cL_law 221 = .ok (.iadd, 1) := by decide +kernel
theorem dL_law_222 : decode cL_law 222 = .ok (.iaload, 1) := by decide +kernel
theorem dL_law_223 : decode cL_law 223 = .ok (.i2l, 1) := by decide +kernel
theorem dL_law_224 : decode cL_law 224 = .ok (.ldc2_w 13, 3) := by decide +kernel
theorem dL_law_227 : decode cL_law 227 = .ok (.land, 1) := by decide +kernel
theorem dL_law_228 : decode cL_law 228 = .ok (.lor, 1) := by decide +kernel
theorem dL_law_229 : decode cL_law 229 = .ok (.invokevirtual 19, 3) := by decide +kernel
theorem dL_law_232 : decode cL_law 232 = .ok (.if_icmp .eq 864, 3) := by decide +kernel
theorem dL_law_235 : decode cL_law 235 = .ok (.iconst 0, 1) := by decide +kernel
theorem dL_law_236 : decode cL_law 236 = .ok (.ireturn, 1) := by decide +kernel
theorem dL_law_237 : decode cL_law 237 = .ok (.aload_n 1, 1) := by decide +kernel
theorem dL_law_238 : decode cL_law 238 = .ok (.invokevirtual 20, 3) := by decide +kernel
theorem dL_law_241 : decode cL_law 241 = .ok (.aload_n 2, 1) := by decide +kernel
theorem dL_law_242 : decode cL_law 242 = .ok (.invokevirtual 24, 3) := by decide +kernel
theorem dL_law_245 : decode cL_law 245 = .ok (.if_icmp .eq 851, 3) := by decide +kernel
theorem dL_law_248 : decode cL_law 248 = .ok (.iconst 0, 1) := by decide +kernel
theorem dL_law_249 : decode cL_law 249 = .ok (.ireturn, 1) := by decide +kernel
theorem dL_law_250 : decode cL_law 250 = .ok (.aload_n 1, 1) := by decide +kernel
theorem dL_law_251 : decode cL_law 251 = .ok (.aload_n 0, 1) := by decide +kernel
theorem dL_law_252 : decode cL_law 252 = .ok (.iload_n 3, 1) := by decide +kernel
theorem dL_law_253 : decode cL_law 253 = .ok (.iconst 1, 1) := by decide +kernel
theorem dL_law_254 : decode cL_law 254 = .ok (.iadd, 1) := by decide +kernel
theorem dL_law_255 : decode cL_law 255 = .ok (.iaload, 1) := by decide +kernel
theorem dL_law_256 : decode cL_law 256 = .ok (.aload_n 0, 1) := by decide +kernel
theorem dL_law_257 : decode cL_law 257 = .ok (.iload_n 3, 1) := by decide +kernel
theorem dL_law_258 : decode cL_law 258 = .ok (.iconst 2, 1) := by decide +kernel
theorem dL_law_259 : decode cL_law 259 = .ok (.iadd, 1) := by decide +kernel
theorem dL_law_260 : decode cL_law 260 = .ok (.iaload, 1) := by decide +kernel
theorem dL_law_261 : decode cL_law 261 = .ok (.invokevirtual 25, 3) := by decide +kernel
theorem dL_law_264 : decode cL_law 264 = .ok (.aload_n 2, 1) := by decide +kernel
theorem dL_law_265 : decode cL_law 265 = .ok (.aload_n 0, 1) := by decide +kernel
theorem dL_law_266 : decode cL_law 266 = .ok (.iload_n 3, 1) := by decide +kernel
theorem dL_law_267 : decode cL_law 267 = .ok (.iconst 1, 1) := by decide +kernel
theorem dL_law_268 : decode cL_law 268 = .ok (.iadd, 1) := by decide +kernel
theorem dL_law_269 : decode cL_law 269 = .ok (.iaload, 1) := by decide +kernel
theorem dL_law_270 : decode cL_law 270 = .ok (.aload_n 0, 1) := by decide +kernel
theorem dL_law_271 : decode cL_law 271 = .ok (.iload_n 3, 1) := by decide +kernel
theorem dL_law_272 : decode cL_law 272 = .ok (.iconst 2, 1) := by decide +kernel
theorem dL_law_273 : decode cL_law 273 = .ok (.iadd, 1) := by decide +kernel
theorem dL_law_274 : decode cL_law 274 = .ok (.iaload, 1) := by decide +kernel
theorem dL_law_275 : decode cL_law 275 = .ok (.invokevirtual 29, 3) := by decide +kernel
theorem dL_law_278 : decode cL_law 278 = .ok (.if_icmp .eq 818, 3) := by decide +kernel
theorem dL_law_281 : decode cL_law 281 = .ok (.iconst 0, 1) := by decide +kernel
theorem dL_law_282 : decode cL_law 282 = .ok (.ireturn, 1) := by decide +kernel
theorem dL_law_283 : decode cL_law 283 = .ok (.aload_n 1, 1) := by decide +kernel
theorem dL_law_284 : decode cL_law 284 = .ok (.aload_n 0, 1) := by decide +kernel
theorem dL_law_285 : decode cL_law 285 = .ok (.iload_n 3, 1) := by decide +kernel
theorem dL_law_286 : decode cL_law 286 = .ok (.iconst 1, 1) := by decide +kernel
theorem dL_law_287 : decode cL_law 287 = .ok (.iadd, 1) := by decide +kernel
theorem dL_law_288 : decode cL_law 288 = .ok (.iaload, 1) := by decide +kernel
theorem dL_law_289 : decode cL_law 289 = .ok (.aload_n 0, 1) := by decide +kernel
theorem dL_law_290 : decode cL_law 290 = .ok (.iload_n 3, 1) := by decide +kernel
theorem dL_law_291 : decode cL_law 291 = .ok (.iconst 2, 1) := by decide +kernel
theorem dL_law_292 : decode cL_law 292 = .ok (.iadd, 1) := by decide +kernel
theorem dL_law_293 : decode cL_law 293 = .ok (.iaload, 1) := by decide +kernel
theorem dL_law_294 : decode cL_law 294 = .ok (.aload_n 0, 1) := by decide +kernel
theorem dL_law_295 : decode cL_law 295 = .ok (.iload_n 3, 1) := by decide +kernel
theorem dL_law_296 : decode cL_law 296 = .ok (.iconst 3, 1) := by decide +kernel
theorem dL_law_297 : decode cL_law 297 = .ok (.iadd, 1) := by decide +kernel
theorem dL_law_298 : decode cL_law 298 = .ok (.iaload, 1) := by decide +kernel
theorem dL_law_299 : decode cL_law 299 = .ok (.invokevirtual 30, 3) := by decide +kernel
theorem dL_law_302 : decode cL_law 302 = .ok (.aload_n 2, 1) := by decide +kernel
theorem dL_law_303 : decode cL_law 303 = .ok (.aload_n 0, 1) := by decide +kernel
theorem dL_law_304 : decode cL_law 304 = .ok (.iload_n 3, 1) := by decide +kernel
theorem dL_law_305 : decode cL_law 305 = .ok (.iconst 1, 1) := by decide +kernel
theorem dL_law_306 : decode cL_law 306 = .ok (.iadd, 1) := by decide +kernel
theorem dL_law_307 : decode cL_law 307 = .ok (.iaload, 1) := by decide +kernel
theorem dL_law_308 : decode cL_law 308 = .ok (.aload_n 0, 1) := by decide +kernel
theorem dL_law_309 : decode cL_law 309 = .ok (.iload_n 3, 1) := by decide +kernel
theorem dL_law_310 : decode cL_law 310 = .ok (.iconst 2, 1) := by decide +kernel
theorem dL_law_311 : decode cL_law 311 = .ok (.iadd, 1) := by decide +kernel
theorem dL_law_312 : decode cL_law 312 = .ok (.iaload, 1) := by decide +kernel
theorem dL_law_313 : decode cL_law 313 = .ok (.aload_n 0, 1) := by decide +kernel
theorem dL_law_314 : decode cL_law 314 = .ok (.iload_n 3, 1) := by decide +kernel
theorem dL_law_315 : decode cL_law 315 = .ok (.iconst 3, 1) := by decide +kernel
theorem dL_law_316 : decode cL_law 316 = .ok (.iadd, 1) := by decide +kernel
theorem dL_law_317 : decode cL_law 317 = .ok (.iaload, 1) := by decide +kernel
theorem dL_law_318 : decode cL_law 318 = .ok (.invokevirtual 34, 3) := by decide +kernel
theorem dL_law_321 : decode cL_law 321 = .ok (.if_icmp .eq 775, 3) := by decide +kernel
theorem dL_law_324 : decode cL_law 324 = .ok (.iconst 0, 1) := by decide +kernel
theorem dL_law_325 : decode cL_law 325 = .ok (.ireturn, 1) := by decide +kernel
theorem dL_law_326 : decode cL_law 326 = .ok (.aload_n 1, 1) := by decide +kernel
theorem dL_law_327 : decode cL_law 327 = .ok (.aload_n 0, 1) := by decide +kernel
theorem dL_law_328 : decode cL_law 328 = .ok (.iload_n 3, 1) := by decide +kernel
theorem dL_law_329 : decode cL_law 329 = .ok (.iconst 1, 1) := by decide +kernel
theorem dL_law_330 : decode cL_law 330 = .ok (.iadd, 1) := by decide +kernel
theorem dL_law_331 : decode cL_law 331 = .ok (.iaload, 1) := by decide +kernel
theorem dL_law_332 : decode cL_law 332 = .ok (.invokevirtual 35, 3) := by decide +kernel
theorem dL_law_335 : decode cL_law 335 = .ok (.aload_n 2, 1) := by decide +kernel
theorem dL_law_336 : decode cL_law 336 = .ok (.aload_n 0, 1) := by decide +kernel
theorem dL_law_337 : decode cL_law 337 = .ok (.iload_n 3, 1) := by decide +kernel
theorem dL_law_338 : decode cL_law 338 = .ok (.iconst 1, 1) := by decide +kernel
theorem dL_law_339 : decode cL_law 339 = .ok (.iadd, 1) := by decide +kernel
theorem dL_law_340 : decode cL_law 340 = .ok (.iaload, 1) := by decide +kernel
theorem dL_law_341 : decode cL_law 341 = .ok (.invokevirtual 39, 3) := by decide +kernel
theorem dL_law_344 : decode cL_law 344 = .ok (.if_icmp .eq 752, 3) := by decide +kernel
theorem dL_law_347 : decode cL_law 347 = .ok (.iconst 0, 1) := by decide +kernel
theorem dL_law_348 : decode cL_law 348 = .ok (.ireturn, 1) := by decide +kernel
theorem dL_law_349 : decode cL_law 349 = .ok (.aload_n 1, 1) := by decide +kernel
theorem dL_law_350 : decode cL_law 350 = .ok (.aload_n 0, 1) := by decide +kernel
theorem dL_law_351 : decode cL_law 351 = .ok (.iload_n 3, 1) := by decide +kernel
theorem dL_law_352 : decode cL_law 352 = .ok (.iconst 1, 1) := by decide +kernel
theorem dL_law_353 : decode cL_law 353 = .ok (.iadd, 1) := by decide +kernel
theorem dL_law_354 : decode cL_law 354 = .ok (.iaload, 1) := by decide +kernel
theorem dL_law_355 : decode cL_law 355 = .ok (.aload_n 0, 1) := by decide +kernel
theorem dL_law_356 : decode cL_law 356 = .ok (.iload_n 3, 1) := by decide +kernel
theorem dL_law_357 : decode cL_law 357 = .ok (.iconst 2, 1) := by decide +kernel
theorem dL_law_358 : decode cL_law 358 = .ok (.iadd, 1) := by decide +kernel
theorem dL_law_359 : decode cL_law 359 = .ok (.iaload, 1) := by decide +kernel
theorem dL_law_360 : decode cL_law 360 = .ok (.aload_n 0, 1) := by decide +kernel
theorem dL_law_361 : decode cL_law 361 = .ok (.iload_n 3, 1) := by decide +kernel
theorem dL_law_362 : decode cL_law 362 = .ok (.iconst 3, 1) := by decide +kernel
theorem dL_law_363 : decode cL_law 363 = .ok (.iadd, 1) := by decide +kernel
theorem dL_law_364 : decode cL_law 364 = .ok (.iaload, 1) := by decide +kernel
theorem dL_law_365 : decode cL_law 365 = .ok (.invokevirtual 40, 3) := by decide +kernel
theorem dL_law_368 : decode cL_law 368 = .ok (.aload_n 2, 1) := by decide +kernel
theorem dL_law_369 : decode cL_law 369 = .ok (.aload_n 0, 1) := by decide +kernel
theorem dL_law_370 : decode cL_law 370 = .ok (.iload_n 3, 1) := by decide +kernel
theorem dL_law_371 : decode cL_law 371 = .ok (.iconst 1, 1) := by decide +kernel
theorem dL_law_372 : decode cL_law 372 = .ok (.iadd, 1) := by decide +kernel
theorem dL_law_373 : decode cL_law 373 = .ok (.iaload, 1) := by decide +kernel
theorem dL_law_374 : decode cL_law 374 = .ok (.aload_n 0, 1) := by decide +kernel
theorem dL_law_375 : decode cL_law 375 = .ok (.iload_n 3, 1) := by decide +kernel
theorem dL_law_376 : decode cL_law 376 = .ok (.iconst 2, 1) := by decide +kernel
theorem dL_law_377 : decode cL_law 377 = .ok (.iadd, 1) := by decide +kernel
theorem dL_law_378 : decode cL_law 378 = .ok (.iaload, 1) := by decide +kernel
theorem dL_law_379 : decode cL_law 379 = .ok (.aload_n 0, 1) := by decide +kernel
theorem dL_law_380 : decode cL_law 380 = .ok (.iload_n 3, 1) := by decide +kernel
theorem dL_law_381 : decode cL_law 381 = .ok (.iconst 3, 1) := by decide +kernel
theorem dL_law_382 : decode cL_law 382 = .ok (.iadd, 1) := by decide +kernel
theorem dL_law_383 : decode cL_law 383 = .ok (.iaload, 1) := by decide +kernel
theorem dL_law_384 : decode cL_law 384 = .ok (.invokevirtual 43, 3) := by decide +kernel
theorem dL_law_387 : decode cL_law 387 = .ok (.if_icmp .eq 709, 3) := by decide +kernel
theorem dL_law_390 : decode cL_law 390 = .ok (.iconst 0, 1) := by decide +kernel
theorem dL_law_391 : decode cL_law 391 = .ok (.ireturn, 1) := by decide +kernel
theorem dL_law_392 : decode cL_law 392 = .ok (.aload_n 1, 1) := by decide +kernel
theorem dL_law_393 : decode cL_law 393 = .ok (.aload_n 0, 1) := by decide +kernel
theorem dL_law_394 : decode cL_law 394 = .ok (.iload_n 3, 1) := by decide +kernel
theorem dL_law_395 : decode cL_law 395 = .ok (.iconst 1, 1) := by decide +kernel
theorem dL_law_396 : decode cL_law 396 = .ok (.iadd, 1) := by decide +kernel
theorem dL_law_397 : decode cL_law 397 = .ok (.iaload, 1) := by decide +kernel
theorem dL_law_398 : decode cL_law 398 = .ok (.aload_n 0, 1) := by decide +kernel
theorem dL_law_399 : decode cL_law 399 = .ok (.iload_n 3, 1) := by decide +kernel
theorem dL_law_400 : decode cL_law 400 = .ok (.iconst 2, 1) := by decide +kernel
theorem dL_law_401 : decode cL_law 401 = .ok (.iadd, 1) := by decide +kernel
theorem dL_law_402 : decode cL_law 402 = .ok (.iaload, 1) := by decide +kernel
theorem dL_law_403 : decode cL_law 403 = .ok (.invokevirtual 44, 3) := by decide +kernel
theorem dL_law_406 : decode cL_law 406 = .ok (.aload_n 2, 1) := by decide +kernel
theorem dL_law_407 : decode cL_law 407 = .ok (.aload_n 0, 1) := by decide +kernel
theorem dL_law_408 : decode cL_law 408 = .ok (.iload_n 3, 1) := by decide +kernel
theorem dL_law_409 : decode cL_law 409 = .ok (.iconst 1, 1) := by decide +kernel
theorem dL_law_410 : decode cL_law 410 = .ok (.iadd, 1) := by decide +kernel
theorem dL_law_411 : decode cL_law 411 = .ok (.iaload, 1) := by decide +kernel
theorem dL_law_412 : decode cL_law 412 = .ok (.aload_n 0, 1) := by decide +kernel
theorem dL_law_413 : decode cL_law 413 = .ok (.iload_n 3, 1) := by decide +kernel
theorem dL_law_414 : decode cL_law 414 = .ok (.iconst 2, 1) := by decide +kernel
theorem dL_law_415 : decode cL_law 415 = .ok (.iadd, 1) := by decide +kernel
theorem dL_law_416 : decode cL_law 416 = .ok (.iaload, 1) := by decide +kernel
theorem dL_law_417 : decode cL_law 417 = .ok (.invokevirtual 47, 3) := by decide +kernel
theorem dL_law_420 : decode cL_law 420 = .ok (.if_icmp .eq 676, 3) := by decide +kernel
theorem dL_law_423 : decode cL_law 423 = .ok (.iconst 0, 1) := by decide +kernel
theorem dL_law_424 : decode cL_law 424 = .ok (.ireturn, 1) := by decide +kernel
theorem dL_law_425 : decode cL_law 425 = .ok (.aload_n 1, 1) := by decide +kernel
theorem dL_law_426 : decode cL_law 426 = .ok (.aload_n 0, 1) := by decide +kernel
theorem dL_law_427 : decode cL_law 427 = .ok (.iload_n 3, 1) := by decide +kernel
theorem dL_law_428 : decode cL_law 428 = .ok (.iconst 1, 1) := by decide +kernel
theorem dL_law_429 : decode cL_law 429 = .ok (.iadd, 1) := by decide +kernel
theorem dL_law_430 : decode cL_law 430 = .ok (.iaload, 1) := by decide +kernel
theorem dL_law_431 : decode cL_law 431 = .ok (.aload_n 0, 1) := by decide +kernel
theorem dL_law_432 : decode cL_law 432 = .ok (.iload_n 3, 1) := by decide +kernel
theorem dL_law_433 : decode cL_law 433 = .ok (.iconst 2, 1) := by decide +kernel
theorem dL_law_434 : decode cL_law 434 = .ok (.iadd, 1) := by decide +kernel
theorem dL_law_435 : decode cL_law 435 = .ok (.iaload, 1) := by decide +kernel
theorem dL_law_436 : decode cL_law 436 = .ok (.aload_n 0, 1) := by decide +kernel
theorem dL_law_437 : decode cL_law 437 = .ok (.iload_n 3, 1) := by decide +kernel
theorem dL_law_438 : decode cL_law 438 = .ok (.iconst 3, 1) := by decide +kernel
theorem dL_law_439 : decode cL_law 439 = .ok (.iadd, 1) := by decide +kernel
theorem dL_law_440 : decode cL_law 440 = .ok (.iaload, 1) := by decide +kernel
theorem dL_law_441 : decode cL_law 441 = .ok (.aload_n 0, 1) := by decide +kernel
theorem dL_law_442 : decode cL_law 442 = .ok (.iload_n 3, 1) := by decide +kernel
theorem dL_law_443 : decode cL_law 443 = .ok (.iconst 4, 1) := by decide +kernel
theorem dL_law_444 : decode cL_law 444 = .ok (.iadd, 1) := by decide +kernel
theorem dL_law_445 : decode cL_law 445 = .ok (.iaload, 1) := by decide +kernel
theorem dL_law_446 : decode cL_law 446 = .ok (.invokevirtual 48, 3) := by decide +kernel
theorem dL_law_449 : decode cL_law 449 = .ok (.aload_n 2, 1) := by decide +kernel
theorem dL_law_450 : decode cL_law 450 = .ok (.aload_n 0, 1) := by decide +kernel
theorem dL_law_451 : decode cL_law 451 = .ok (.iload_n 3, 1) := by decide +kernel
theorem dL_law_452 : decode cL_law 452 = .ok (.iconst 1, 1) := by decide +kernel
theorem dL_law_453 : decode cL_law 453 = .ok (.iadd, 1) := by decide +kernel
theorem dL_law_454 : decode cL_law 454 = .ok (.iaload, 1) := by decide +kernel
theorem dL_law_455 : decode cL_law 455 = .ok (.aload_n 0, 1) := by decide +kernel
theorem dL_law_456 : decode cL_law 456 = .ok (.iload_n 3, 1) := by decide +kernel
theorem dL_law_457 : decode cL_law 457 = .ok (.iconst 2, 1) := by decide +kernel
theorem dL_law_458 : decode cL_law 458 = .ok (.iadd, 1) := by decide +kernel
theorem dL_law_459 : decode cL_law 459 = .ok (.iaload, 1) := by decide +kernel
theorem dL_law_460 : decode cL_law 460 = .ok (.aload_n 0, 1) := by decide +kernel
theorem dL_law_461 : decode cL_law 461 = .ok (.iload_n 3, 1) := by decide +kernel
theorem dL_law_462 : decode cL_law 462 = .ok (.iconst 3, 1) := by decide +kernel
theorem dL_law_463 : decode cL_law 463 = .ok (.iadd, 1) := by decide +kernel
theorem dL_law_464 : decode cL_law 464 = .ok (.iaload, 1) := by decide +kernel
theorem dL_law_465 : decode cL_law 465 = .ok (.aload_n 0, 1) := by decide +kernel
theorem dL_law_466 : decode cL_law 466 = .ok (.iload_n 3, 1) := by decide +kernel
theorem dL_law_467 : decode cL_law 467 = .ok (.iconst 4, 1) := by decide +kernel
theorem dL_law_468 : decode cL_law 468 = .ok (.iadd, 1) := by decide +kernel
theorem dL_law_469 : decode cL_law 469 = .ok (.iaload, 1) := by decide +kernel
theorem dL_law_470 : decode cL_law 470 = .ok (.invokevirtual 52, 3) := by decide +kernel
theorem dL_law_473 : decode cL_law 473 = .ok (.if_icmp .eq 623, 3) := by decide +kernel
theorem dL_law_476 : decode cL_law 476 = .ok (.iconst 0, 1) := by decide +kernel
theorem dL_law_477 : decode cL_law 477 = .ok (.ireturn, 1) := by decide +kernel
theorem dL_law_478 : decode cL_law 478 = .ok (.aload_n 1, 1) := by decide +kernel
theorem dL_law_479 : decode cL_law 479 = .ok (.aload_n 0, 1) := by decide +kernel
theorem dL_law_480 : decode cL_law 480 = .ok (.iload_n 3, 1) := by decide +kernel
theorem dL_law_481 : decode cL_law 481 = .ok (.iconst 1, 1) := by decide +kernel
theorem dL_law_482 : decode cL_law 482 = .ok (.iadd, 1) := by decide +kernel
theorem dL_law_483 : decode cL_law 483 = .ok (.iaload, 1) := by decide +kernel
theorem dL_law_484 : decode cL_law 484 = .ok (.aload_n 0, 1) := by decide +kernel
theorem dL_law_485 : decode cL_law 485 = .ok (.iload_n 3, 1) := by decide +kernel
theorem dL_law_486 : decode cL_law 486 = .ok (.iconst 2, 1) := by decide +kernel
theorem dL_law_487 : decode cL_law 487 = .ok (.iadd, 1) := by decide +kernel
theorem dL_law_488 : decode cL_law 488 = .ok (.iaload, 1) := by decide +kernel
theorem dL_law_489 : decode cL_law 489 = .ok (.aload_n 0, 1) := by decide +kernel
theorem dL_law_490 : decode cL_law 490 = .ok (.iload_n 3, 1) := by decide +kernel
theorem dL_law_491 : decode cL_law 491 = .ok (.iconst 3, 1) := by decide +kernel
theorem dL_law_492 : decode cL_law 492 = .ok (.iadd, 1) := by decide +kernel
theorem dL_law_493 : decode cL_law 493 = .ok (.iaload, 1) := by decide +kernel
theorem dL_law_494 : decode cL_law 494 = .ok (.invokevirtual 53, 3) := by decide +kernel
theorem dL_law_497 : decode cL_law 497 = .ok (.aload_n 2, 1) := by decide +kernel
theorem dL_law_498 : decode cL_law 498 = .ok (.aload_n 0, 1) := by decide +kernel
theorem dL_law_499 : decode cL_law 499 = .ok (.iload_n 3, 1) := by decide +kernel
theorem dL_law_500 : decode cL_law 500 = .ok (.iconst 1, 1) := by decide +kernel
theorem dL_law_501 : decode cL_law 501 = .ok (.iadd, 1) := by decide +kernel
theorem dL_law_502 : decode cL_law 502 = .ok (.iaload, 1) := by decide +kernel
theorem dL_law_503 : decode cL_law 503 = .ok (.aload_n 0, 1) := by decide +kernel
theorem dL_law_504 : decode cL_law 504 = .ok (.iload_n 3, 1) := by decide +kernel
theorem dL_law_505 : decode cL_law 505 = .ok (.iconst 2, 1) := by decide +kernel
theorem dL_law_506 : decode cL_law 506 = .ok (.iadd, 1) := by decide +kernel
theorem dL_law_507 : decode cL_law 507 = .ok (.iaload, 1) := by decide +kernel
theorem dL_law_508 : decode cL_law 508 = .ok (.aload_n 0, 1) := by decide +kernel
theorem dL_law_509 : decode cL_law 509 = .ok (.iload_n 3, 1) := by decide +kernel
theorem dL_law_510 : decode cL_law 510 = .ok (.iconst 3, 1) := by decide +kernel
theorem dL_law_511 : decode cL_law 511 = .ok (.iadd, 1) := by decide +kernel
theorem dL_law_512 : decode cL_law 512 = .ok (.iaload, 1) := by decide +kernel
theorem dL_law_513 : decode cL_law 513 = .ok (.invokevirtual 56, 3) := by decide +kernel
theorem dL_law_516 : decode cL_law 516 = .ok (.if_icmp .eq 580, 3) := by decide +kernel
theorem dL_law_519 : decode cL_law 519 = .ok (.iconst 0, 1) := by decide +kernel
theorem dL_law_520 : decode cL_law 520 = .ok (.ireturn, 1) := by decide +kernel
theorem dL_law_521 : decode cL_law 521 = .ok (.aload_n 1, 1) := by decide +kernel
theorem dL_law_522 : decode cL_law 522 = .ok (.aload_n 0, 1) := by decide +kernel
theorem dL_law_523 : decode cL_law 523 = .ok (.iload_n 3, 1) := by decide +kernel
theorem dL_law_524 : decode cL_law 524 = .ok (.iconst 1, 1) := by decide +kernel
theorem dL_law_525 : decode cL_law 525 = .ok (.iadd, 1) := by decide +kernel
theorem dL_law_526 : decode cL_law 526 = .ok (.iaload, 1) := by decide +kernel
theorem dL_law_527 : decode cL_law 527 = .ok (.invokevirtual 57, 3) := by decide +kernel
theorem dL_law_530 : decode cL_law 530 = .ok (.aload_n 2, 1) := by decide +kernel
theorem dL_law_531 : decode cL_law 531 = .ok (.aload_n 0, 1) := by decide +kernel
theorem dL_law_532 : decode cL_law 532 = .ok (.iload_n 3, 1) := by decide +kernel
theorem dL_law_533 : decode cL_law 533 = .ok (.iconst 1, 1) := by decide +kernel
theorem dL_law_534 : decode cL_law 534 = .ok (.iadd, 1) := by decide +kernel
theorem dL_law_535 : decode cL_law 535 = .ok (.iaload, 1) := by decide +kernel
theorem dL_law_536 : decode cL_law 536 = .ok (.invokevirtual 60, 3) := by decide +kernel
theorem dL_law_539 : decode cL_law 539 = .ok (.if_icmp .eq 557, 3) := by decide +kernel
theorem dL_law_542 : decode cL_law 542 = .ok (.iconst 0, 1) := by decide +kernel
theorem dL_law_543 : decode cL_law 543 = .ok (.ireturn, 1) := by decide +kernel
theorem dL_law_544 : decode cL_law 544 = .ok (.aload_n 1, 1) := by decide +kernel
theorem dL_law_545 : decode cL_law 545 = .ok (.aload_n 0, 1) := by decide +kernel
theorem dL_law_546 : decode cL_law 546 = .ok (.iload_n 3, 1) := by decide +kernel
theorem dL_law_547 : decode cL_law 547 = .ok (.iconst 1, 1) := by decide +kernel
theorem dL_law_548 : decode cL_law 548 = .ok (.iadd, 1) := by decide +kernel
theorem dL_law_549 : decode cL_law 549 = .ok (.iaload, 1) := by decide +kernel
theorem dL_law_550 : decode cL_law 550 = .ok (.aload_n 0, 1) := by decide +kernel
theorem dL_law_551 : decode cL_law 551 = .ok (.iload_n 3, 1) := by decide +kernel
theorem dL_law_552 : decode cL_law 552 = .ok (.iconst 2, 1) := by decide +kernel
theorem dL_law_553 : decode cL_law 553 = .ok (.iadd, 1) := by decide +kernel
theorem dL_law_554 : decode cL_law 554 = .ok (.iaload, 1) := by decide +kernel
theorem dL_law_555 : decode cL_law 555 = .ok (.aload_n 0, 1) := by decide +kernel
theorem dL_law_556 : decode cL_law 556 = .ok (.iload_n 3, 1) := by decide +kernel
theorem dL_law_557 : decode cL_law 557 = .ok (.iconst 3, 1) := by decide +kernel
theorem dL_law_558 : decode cL_law 558 = .ok (.iadd, 1) := by decide +kernel
theorem dL_law_559 : decode cL_law 559 = .ok (.iaload, 1) := by decide +kernel
theorem dL_law_560 : decode cL_law 560 = .ok (.invokevirtual 61, 3) := by decide +kernel
theorem dL_law_563 : decode cL_law 563 = .ok (.aload_n 2, 1) := by decide +kernel
theorem dL_law_564 : decode cL_law 564 = .ok (.aload_n 0, 1) := by decide +kernel
theorem dL_law_565 : decode cL_law 565 = .ok (.iload_n 3, 1) := by decide +kernel
theorem dL_law_566 : decode cL_law 566 = .ok (.iconst 1, 1) := by decide +kernel
theorem dL_law_567 : decode cL_law 567 = .ok (.iadd, 1) := by decide +kernel
theorem dL_law_568 : decode cL_law 568 = .ok (.iaload, 1) := by decide +kernel
theorem dL_law_569 : decode cL_law 569 = .ok (.aload_n 0, 1) := by decide +kernel
theorem dL_law_570 : decode cL_law 570 = .ok (.iload_n 3, 1) := by decide +kernel
theorem dL_law_571 : decode cL_law 571 = .ok (.iconst 2, 1) := by decide +kernel
theorem dL_law_572 : decode cL_law 572 = .ok (.iadd, 1) := by decide +kernel
theorem dL_law_573 : decode cL_law 573 = .ok (.iaload, 1) := by decide +kernel
theorem dL_law_574 : decode cL_law 574 = .ok (.aload_n 0, 1) := by decide +kernel
theorem dL_law_575 : decode cL_law 575 = .ok (.iload_n 3, 1) := by decide +kernel
theorem dL_law_576 : decode cL_law 576 = .ok (.iconst 3, 1) := by decide +kernel
theorem dL_law_577 : decode cL_law 577 = .ok (.iadd, 1) := by decide +kernel
theorem dL_law_578 : decode cL_law 578 = .ok (.iaload, 1) := by decide +kernel
theorem dL_law_579 : decode cL_law 579 = .ok (.invokevirtual 64, 3) := by decide +kernel
theorem dL_law_582 : decode cL_law 582 = .ok (.if_icmp .eq 514, 3) := by decide +kernel
theorem dL_law_585 : decode cL_law 585 = .ok (.iconst 0, 1) := by decide +kernel
theorem dL_law_586 : decode cL_law 586 = .ok (.ireturn, 1) := by decide +kernel
theorem dL_law_587 : decode cL_law 587 = .ok (.aload_n 1, 1) := by decide +kernel
theorem dL_law_588 : decode cL_law 588 = .ok (.aload_n 0, 1) := by decide +kernel
theorem dL_law_589 : decode cL_law 589 = .ok (.iload_n 3, 1) := by decide +kernel
theorem dL_law_590 : decode cL_law 590 = .ok (.iconst 1, 1) := by decide +kernel
theorem dL_law_591 : decode cL_law 591 = .ok (.iadd, 1) := by decide +kernel
theorem dL_law_592 : decode cL_law 592 = .ok (.iaload, 1) := by decide +kernel
theorem dL_law_593 : decode cL_law 593 = .ok (.invokevirtual 65, 3) := by decide +kernel
theorem dL_law_596 : decode cL_law 596 = .ok (.aload_n 2, 1) := by decide +kernel
theorem dL_law_597 : decode cL_law 597 = .ok (.aload_n 0, 1) := by decide +kernel
theorem dL_law_598 : decode cL_law 598 = .ok (.iload_n 3, 1) := by decide +kernel
theorem dL_law_599 : decode cL_law 599 = .ok (.iconst 1, 1) := by decide +kernel
theorem dL_law_600 : decode cL_law 600 = .ok (.iadd, 1) := by decide +kernel
theorem dL_law_601 : decode cL_law 601 = .ok (.iaload, 1) := by decide +kernel
theorem dL_law_602 : decode cL_law 602 = .ok (.invokevirtual 68, 3) := by decide +kernel
theorem dL_law_605 : decode cL_law 605 = .ok (.if_icmp .eq 491, 3) := by decide +kernel
theorem dL_law_608 : decode cL_law 608 = .ok (.iconst 0, 1) := by decide +kernel
theorem dL_law_609 : decode cL_law 609 = .ok (.ireturn, 1) := by decide +kernel
theorem dL_law_610 : decode cL_law 610 = .ok (.aload_n 1, 1) := by decide +kernel
theorem dL_law_611 : decode cL_law 611 = .ok (.aload_n 0, 1) := by decide +kernel
theorem dL_law_612 : decode cL_law 612 = .ok (.iload_n 3, 1) := by decide +kernel
theorem dL_law_613 : decode cL_law 613 = .ok (.iconst 1, 1) := by decide +kernel
theorem dL_law_614 : decode cL_law 614 = .ok (.iadd, 1) := by decide +kernel
theorem dL_law_615 : decode cL_law 615 = .ok (.iaload, 1) := by decide +kernel
theorem dL_law_616 : decode cL_law 616 = .ok (.aload_n 0, 1) := by decide +kernel
theorem dL_law_617 : decode cL_law 617 = .ok (.iload_n 3, 1) := by decide +kernel
theorem dL_law_618 : decode cL_law 618 = .ok (.iconst 2, 1) := by decide +kernel
theorem dL_law_619 : decode cL_law 619 = .ok (.iadd, 1) := by decide +kernel
theorem dL_law_620 : decode cL_law 620 = .ok (.iaload, 1) := by decide +kernel
theorem dL_law_621 : decode cL_law 621 = .ok (.invokevirtual 69, 3) := by decide +kernel
theorem dL_law_624 : decode cL_law 624 = .ok (.aload_n 2, 1) := by decide +kernel
theorem dL_law_625 : decode cL_law 625 = .ok (.aload_n 0, 1) := by decide +kernel
theorem dL_law_626 : decode cL_law 626 = .ok (.iload_n 3, 1) := by decide +kernel
theorem dL_law_627 : decode cL_law 627 = .ok (.iconst 1, 1) := by decide +kernel
theorem dL_law_628 : decode cL_law 628 = .ok (.iadd, 1) := by decide +kernel
theorem dL_law_629 : decode cL_law 629 = .ok (.iaload, 1) := by decide +kernel
theorem dL_law_630 : decode cL_law 630 = .ok (.aload_n 0, 1) := by decide +kernel
theorem dL_law_631 : decode cL_law 631 = .ok (.iload_n 3, 1) := by decide +kernel
theorem dL_law_632 : decode cL_law 632 = .ok (.iconst 2, 1) := by decide +kernel
theorem dL_law_633 : decode cL_law 633 = .ok (.iadd, 1) := by decide +kernel
theorem dL_law_634 : decode cL_law 634 = .ok (.iaload, 1) := by decide +kernel
theorem dL_law_635 : decode cL_law 635 = .ok (.invokevirtual 72, 3) := by decide +kernel
theorem dL_law_638 : decode cL_law 638 = .ok (.if_icmp .eq 458, 3) := by decide +kernel
theorem dL_law_641 : decode cL_law 641 = .ok (.iconst 0, 1) := by decide +kernel
theorem dL_law_642 : decode cL_law 642 = .ok (.ireturn, 1) := by decide +kernel
theorem dL_law_643 : decode cL_law 643 = .ok (.aload_n 1, 1) := by decide +kernel
theorem dL_law_644 : decode cL_law 644 = .ok (.aload_n 0, 1) := by decide +kernel
theorem dL_law_645 : decode cL_law 645 = .ok (.iload_n 3, 1) := by decide +kernel
theorem dL_law_646 : decode cL_law 646 = .ok (.iconst 1, 1) := by decide +kernel
theorem dL_law_647 : decode cL_law 647 = .ok (.iadd, 1) := by decide +kernel
theorem dL_law_648 : decode cL_law 648 = .ok (.iaload, 1) := by decide +kernel
theorem dL_law_649 : decode cL_law 649 = .ok (.aload_n 0, 1) := by decide +kernel
theorem dL_law_650 : decode cL_law 650 = .ok (.iload_n 3, 1) := by decide +kernel
theorem dL_law_651 : decode cL_law 651 = .ok (.iconst 2, 1) := by decide +kernel
theorem dL_law_652 : decode cL_law 652 = .ok (.iadd, 1) := by decide +kernel
theorem dL_law_653 : decode cL_law 653 = .ok (.iaload, 1) := by decide +kernel
theorem dL_law_654 : decode cL_law 654 = .ok (.aload_n 0, 1) := by decide +kernel
theorem dL_law_655 : decode cL_law 655 = .ok (.iload_n 3, 1) := by decide +kernel
theorem dL_law_656 : decode cL_law 656 = .ok (.iconst 3, 1) := by decide +kernel
theorem dL_law_657 : decode cL_law 657 = .ok (.iadd, 1) := by decide +kernel
theorem dL_law_658 : decode cL_law 658 = .ok (.iaload, 1) := by decide +kernel
theorem dL_law_659 : decode cL_law 659 = .ok (.aload_n 0, 1) := by decide +kernel
theorem dL_law_660 : decode cL_law 660 = .ok (.iload_n 3, 1) := by decide +kernel
theorem dL_law_661 : decode cL_law 661 = .ok (.iconst 4, 1) := by decide +kernel
theorem dL_law_662 : decode cL_law 662 = .ok (.iadd, 1) := by decide +kernel
theorem dL_law_663 : decode cL_law 663 = .ok (.iaload, 1) := by decide +kernel
theorem dL_law_664 : decode cL_law 664 = .ok (.invokevirtual 73, 3) := by decide +kernel
theorem dL_law_667 : decode cL_law 667 = .ok (.aload_n 2, 1) := by decide +kernel
theorem dL_law_668 : decode cL_law 668 = .ok (.aload_n 0, 1) := by decide +kernel
theorem dL_law_669 : decode cL_law 669 = .ok (.iload_n 3, 1) := by decide +kernel
theorem dL_law_670 : decode cL_law 670 = .ok (.iconst 1, 1) := by decide +kernel
theorem dL_law_671 : decode cL_law 671 = .ok (.iadd, 1) := by decide +kernel
theorem dL_law_672 : decode cL_law 672 = .ok (.iaload, 1) := by decide +kernel
theorem dL_law_673 : decode cL_law 673 = .ok (.aload_n 0, 1) := by decide +kernel
theorem dL_law_674 : decode cL_law 674 = .ok (.iload_n 3, 1) := by decide +kernel
theorem dL_law_675 : decode cL_law 675 = .ok (.iconst 2, 1) := by decide +kernel
theorem dL_law_676 : decode cL_law 676 = .ok (.iadd, 1) := by decide +kernel
theorem dL_law_677 : decode cL_law 677 = .ok (.iaload, 1) := by decide +kernel
theorem dL_law_678 : decode cL_law 678 = .ok (.aload_n 0, 1) := by decide +kernel
theorem dL_law_679 : decode cL_law 679 = .ok (.iload_n 3, 1) := by decide +kernel
theorem dL_law_680 : decode cL_law 680 = .ok (.iconst 3, 1) := by decide +kernel
theorem dL_law_681 : decode cL_law 681 = .ok (.iadd, 1) := by decide +kernel
theorem dL_law_682 : decode cL_law 682 = .ok (.iaload, 1) := by decide +kernel
theorem dL_law_683 : decode cL_law 683 = .ok (.aload_n 0, 1) := by decide +kernel
theorem dL_law_684 : decode cL_law 684 = .ok (.iload_n 3, 1) := by decide +kernel
theorem dL_law_685 : decode cL_law 685 = .ok (.iconst 4, 1) := by decide +kernel
theorem dL_law_686 : decode cL_law 686 = .ok (.iadd, 1) := by decide +kernel
theorem dL_law_687 : decode cL_law 687 = .ok (.iaload, 1) := by decide +kernel
theorem dL_law_688 : decode cL_law 688 = .ok (.invokevirtual 76, 3) := by decide +kernel
theorem dL_law_691 : decode cL_law 691 = .ok (.if_icmp .eq 405, 3) := by decide +kernel
theorem dL_law_694 : decode cL_law 694 = .ok (.iconst 0, 1) := by decide +kernel
theorem dL_law_695 : decode cL_law 695 = .ok (.ireturn, 1) := by decide +kernel
theorem dL_law_696 : decode cL_law 696 = .ok (.aload_n 1, 1) := by decide +kernel
theorem dL_law_697 : decode cL_law 697 = .ok (.aload_n 0, 1) := by decide +kernel
theorem dL_law_698 : decode cL_law 698 = .ok (.iload_n 3, 1) := by decide +kernel
theorem dL_law_699 : decode cL_law 699 = .ok (.iconst 1, 1) := by decide +kernel
theorem dL_law_700 : decode cL_law 700 = .ok (.iadd, 1) := by decide +kernel
theorem dL_law_701 : decode cL_law 701 = .ok (.iaload, 1) := by decide +kernel
theorem dL_law_702 : decode cL_law 702 = .ok (.aload_n 0, 1) := by decide +kernel
theorem dL_law_703 : decode cL_law 703 = .ok (.iload_n 3, 1) := by decide +kernel
theorem dL_law_704 : decode cL_law 704 = .ok (.iconst 2, 1) := by decide +kernel
theorem dL_law_705 : decode cL_law 705 = .ok (.iadd, 1) := by decide +kernel
theorem dL_law_706 : decode cL_law 706 = .ok (.iaload, 1) := by decide +kernel
theorem dL_law_707 : decode cL_law 707 = .ok (.invokevirtual 77, 3) := by decide +kernel
theorem dL_law_710 : decode cL_law 710 = .ok (.aload_n 2, 1) := by decide +kernel
theorem dL_law_711 : decode cL_law 711 = .ok (.aload_n 0, 1) := by decide +kernel
theorem dL_law_712 : decode cL_law 712 = .ok (.iload_n 3, 1) := by decide +kernel
theorem dL_law_713 : decode cL_law 713 = .ok (.iconst 1, 1) := by decide +kernel
theorem dL_law_714 : decode cL_law 714 = .ok (.iadd, 1) := by decide +kernel
theorem dL_law_715 : decode cL_law 715 = .ok (.iaload, 1) := by decide +kernel
theorem dL_law_716 : decode cL_law 716 = .ok (.aload_n 0, 1) := by decide +kernel
theorem dL_law_717 : decode cL_law 717 = .ok (.iload_n 3, 1) := by decide +kernel
theorem dL_law_718 : decode cL_law 718 = .ok (.iconst 2, 1) := by decide +kernel
theorem dL_law_719 : decode cL_law 719 = .ok (.iadd, 1) := by decide +kernel
theorem dL_law_720 : decode cL_law 720 = .ok (.iaload, 1) := by decide +kernel
theorem dL_law_721 : decode cL_law 721 = .ok (.invokevirtual 80, 3) := by decide +kernel
theorem dL_law_724 : decode cL_law 724 = .ok (.if_icmp .eq 372, 3) := by decide +kernel
theorem dL_law_727 : decode cL_law 727 = .ok (.iconst 0, 1) := by decide +kernel
theorem dL_law_728 : decode cL_law 728 = .ok (.ireturn, 1) := by decide +kernel
theorem dL_law_729 : decode cL_law 729 = .ok (.aload_n 1, 1) := by decide +kernel
theorem dL_law_730 : decode cL_law 730 = .ok (.aload_n 0, 1) := by decide +kernel
theorem dL_law_731 : decode cL_law 731 = .ok (.iload_n 3, 1) := by decide +kernel
theorem dL_law_732 : decode cL_law 732 = .ok (.iconst 1, 1) := by decide +kernel
theorem dL_law_733 : decode cL_law 733 = .ok (.iadd, 1) := by decide +kernel
theorem dL_law_734 : decode cL_law 734 = .ok (.iaload, 1) := by decide +kernel
theorem dL_law_735 : decode cL_law 735 = .ok (.aload_n 0, 1) := by decide +kernel
theorem dL_law_736 : decode cL_law 736 = .ok (.iload_n 3, 1) := by decide +kernel
theorem dL_law_737 : decode cL_law 737 = .ok (.iconst 2, 1) := by decide +kernel
theorem dL_law_738 : decode cL_law 738 = .ok (.iadd, 1) := by decide +kernel
theorem dL_law_739 : decode cL_law 739 = .ok (.iaload, 1) := by decide +kernel
theorem dL_law_740 : decode cL_law 740 = .ok (.aload_n 0, 1) := by decide +kernel
theorem dL_law_741 : decode cL_law 741 = .ok (.iload_n 3, 1) := by decide +kernel
theorem dL_law_742 : decode cL_law 742 = .ok (.iconst 3, 1) := by decide +kernel
theorem dL_law_743 : decode cL_law 743 = .ok (.iadd, 1) := by decide +kernel
theorem dL_law_744 : decode cL_law 744 = .ok (.iaload, 1) := by decide +kernel
theorem dL_law_745 : decode cL_law 745 = .ok (.invokevirtual 81, 3) := by decide +kernel
theorem dL_law_748 : decode cL_law 748 = .ok (.aload_n 2, 1) := by decide +kernel
theorem dL_law_749 : decode cL_law 749 = .ok (.aload_n 0, 1) := by decide +kernel
theorem dL_law_750 : decode cL_law 750 = .ok (.iload_n 3, 1) := by decide +kernel
theorem dL_law_751 : decode cL_law 751 = .ok (.iconst 1, 1) := by decide +kernel
theorem dL_law_752 : decode cL_law 752 = .ok (.iadd, 1) := by decide +kernel
theorem dL_law_753 : decode cL_law 753 = .ok (.iaload, 1) := by decide +kernel
theorem dL_law_754 : decode cL_law 754 = .ok (.aload_n 0, 1) := by decide +kernel
theorem dL_law_755 : decode cL_law 755 = .ok (.iload_n 3, 1) := by decide +kernel
theorem dL_law_756 : decode cL_law 756 = .ok (.iconst 2, 1) := by decide +kernel
theorem dL_law_757 : decode cL_law 757 = .ok (.iadd, 1) := by decide +kernel
theorem dL_law_758 : decode cL_law 758 = .ok (.iaload, 1) := by decide +kernel
theorem dL_law_759 : decode cL_law 759 = .ok (.aload_n 0, 1) := by decide +kernel
theorem dL_law_760 : decode cL_law 760 = .ok (.iload_n 3, 1) := by decide +kernel
theorem dL_law_761 : decode cL_law 761 = .ok (.iconst 3, 1) := by decide +kernel
theorem dL_law_762 : decode cL_law 762 = .ok (.iadd, 1) := by decide +kernel
theorem dL_law_763 : decode cL_law 763 = .ok (.iaload, 1) := by decide +kernel
theorem dL_law_764 : decode cL_law 764 = .ok (.invokevirtual 84, 3) := by decide +kernel
theorem dL_law_767 : decode cL_law 767 = .ok (.if_icmp .eq 329, 3) := by decide +kernel
theorem dL_law_770 : decode cL_law 770 = .ok (.iconst 0, 1) := by decide +kernel
theorem dL_law_771 : decode cL_law 771 = .ok (.ireturn, 1) := by decide +kernel
theorem dL_law_772 : decode cL_law 772 = .ok (.aload_n 1, 1) := by decide +kernel
theorem dL_law_773 : decode cL_law 773 = .ok (.aload_n 0, 1) := by decide +kernel
theorem dL_law_774 : decode cL_law 774 = .ok (.iload_n 3, 1) := by decide +kernel
theorem dL_law_775 : decode cL_law 775 = .ok (.iconst 1, 1) := by decide +kernel
theorem dL_law_776 : decode cL_law 776 = .ok (.iadd, 1) := by decide +kernel
theorem dL_law_777 : decode cL_law 777 = .ok (.iaload, 1) := by decide +kernel
theorem dL_law_778 : decode cL_law 778 = .ok (.aload_n 0, 1) := by decide +kernel
theorem dL_law_779 : decode cL_law 779 = .ok (.iload_n 3, 1) := by decide +kernel
theorem dL_law_780 : decode cL_law 780 = .ok (.iconst 2, 1) := by decide +kernel
theorem dL_law_781 : decode cL_law 781 = .ok (.iadd, 1) := by decide +kernel
theorem dL_law_782 : decode cL_law 782 = .ok (.iaload, 1) := by decide +kernel
theorem dL_law_783 : decode cL_law 783 = .ok (.invokevirtual 85, 3) := by decide +kernel
theorem dL_law_786 : decode cL_law 786 = .ok (.aload_n 2, 1) := by decide +kernel
theorem dL_law_787 : decode cL_law 787 = .ok (.aload_n 0, 1) := by decide +kernel
theorem dL_law_788 : decode cL_law 788 = .ok (.iload_n 3, 1) := by decide +kernel
theorem dL_law_789 : decode cL_law 789 = .ok (.iconst 1, 1) := by decide +kernel
theorem dL_law_790 : decode cL_law 790 = .ok (.iadd, 1) := by decide +kernel
theorem dL_law_791 : decode cL_law 791 = .ok (.iaload, 1) := by decide +kernel
theorem dL_law_792 : decode cL_law 792 = .ok (.aload_n 0, 1) := by decide +kernel
theorem dL_law_793 : decode cL_law 793 = .ok (.iload_n 3, 1) := by decide +kernel
theorem dL_law_794 : decode cL_law 794 = .ok (.iconst 2, 1) := by decide +kernel
theorem dL_law_795 : decode cL_law 795 = .ok (.iadd, 1) := by decide +kernel
theorem dL_law_796 : decode cL_law 796 = .ok (.iaload, 1) := by decide +kernel
theorem dL_law_797 : decode cL_law 797 = .ok (.invokevirtual 88, 3) := by decide +kernel
theorem dL_law_800 : decode cL_law 800 = .ok (.if_icmp .eq 296, 3) := by decide +kernel
theorem dL_law_803 : decode cL_law 803 = .ok (.iconst 0, 1) := by decide +kernel
theorem dL_law_804 : decode cL_law 804 = .ok (.ireturn, 1) := by decide +kernel
theorem dL_law_805 : decode cL_law 805 = .ok (.aload_n 1, 1) := by decide +kernel
theorem dL_law_806 : decode cL_law 806 = .ok (.aload_n 0, 1) := by decide +kernel
theorem dL_law_807 : decode cL_law 807 = .ok (.iload_n 3, 1) := by decide +kernel
theorem dL_law_808 : decode cL_law 808 = .ok (.iconst 1, 1) := by decide +kernel
theorem dL_law_809 : decode cL_law 809 = .ok (.iadd, 1) := by decide +kernel
theorem dL_law_810 : decode cL_law 810 = .ok (.iaload, 1) := by decide +kernel
theorem dL_law_811 : decode cL_law 811 = .ok (.aload_n 0, 1) := by decide +kernel
theorem dL_law_812 : decode cL_law 812 = .ok (.iload_n 3, 1) := by decide +kernel
theorem dL_law_813 : decode cL_law 813 = .ok (.iconst 2, 1) := by decide +kernel
theorem dL_law_814 : decode cL_law 814 = .ok (.iadd, 1) := by decide +kernel
theorem dL_law_815 : decode cL_law 815 = .ok (.iaload, 1) := by decide +kernel
theorem dL_law_816 : decode cL_law 816 = .ok (.invokevirtual 89, 3) := by decide +kernel
theorem dL_law_819 : decode cL_law 819 = .ok (.aload_n 2, 1) := by decide +kernel
theorem dL_law_820 : decode cL_law 820 = .ok (.aload_n 0, 1) := by decide +kernel
theorem dL_law_821 : decode cL_law 821 = .ok (.iload_n 3, 1) := by decide +kernel
theorem dL_law_822 : decode cL_law 822 = .ok (.iconst 1, 1) := by decide +kernel
theorem dL_law_823 : decode cL_law 823 = .ok (.iadd, 1) := by decide +kernel
theorem dL_law_824 : decode cL_law 824 = .ok (.iaload, 1) := by decide +kernel
theorem dL_law_825 : decode cL_law 825 = .ok (.aload_n 0, 1) := by decide +kernel
theorem dL_law_826 : decode cL_law 826 = .ok (.iload_n 3, 1) := by decide +kernel
theorem dL_law_827 : decode cL_law 827 = .ok (.iconst 2, 1) := by decide +kernel
theorem dL_law_828 : decode cL_law 828 = .ok (.iadd, 1) := by decide +kernel
theorem dL_law_829 : decode cL_law 829 = .ok (.iaload, 1) := by decide +kernel
theorem dL_law_830 : decode cL_law 830 = .ok (.invokevirtual 92, 3) := by decide +kernel
theorem dL_law_833 : decode cL_law 833 = .ok (.if_icmp .eq 263, 3) := by decide +kernel
theorem dL_law_836 : decode cL_law 836 = .ok (.iconst 0, 1) := by decide +kernel
theorem dL_law_837 : decode cL_law 837 = .ok (.ireturn, 1) := by decide +kernel
theorem dL_law_838 : decode cL_law 838 = .ok (.aload_n 1, 1) := by decide +kernel
theorem dL_law_839 : decode cL_law 839 = .ok (.aload_n 0, 1) := by decide +kernel
theorem dL_law_840 : decode cL_law 840 = .ok (.iload_n 3, 1) := by decide +kernel
theorem dL_law_841 : decode cL_law 841 = .ok (.iconst 1, 1) := by decide +kernel
theorem dL_law_842 : decode cL_law 842 = .ok (.iadd, 1) := by decide +kernel
theorem dL_law_843 : decode cL_law 843 = .ok (.iaload, 1) := by decide +kernel
theorem dL_law_844 : decode cL_law 844 = .ok (.aload_n 0, 1) := by decide +kernel
theorem dL_law_845 : decode cL_law 845 = .ok (.iload_n 3, 1) := by decide +kernel
theorem dL_law_846 : decode cL_law 846 = .ok (.iconst 2, 1) := by decide +kernel
theorem dL_law_847 : decode cL_law 847 = .ok (.iadd, 1) := by decide +kernel
theorem dL_law_848 : decode cL_law 848 = .ok (.iaload, 1) := by decide +kernel
theorem dL_law_849 : decode cL_law 849 = .ok (.invokevirtual 93, 3) := by decide +kernel
theorem dL_law_852 : decode cL_law 852 = .ok (.aload_n 2, 1) := by decide +kernel
theorem dL_law_853 : decode cL_law 853 = .ok (.aload_n 0, 1) := by decide +kernel
theorem dL_law_854 : decode cL_law 854 = .ok (.iload_n 3, 1) := by decide +kernel
theorem dL_law_855 : decode cL_law 855 = .ok (.iconst 1, 1) := by decide +kernel
theorem dL_law_856 : decode cL_law 856 = .ok (.iadd, 1) := by decide +kernel
theorem dL_law_857 : decode cL_law 857 = .ok (.iaload, 1) := by decide +kernel
theorem dL_law_858 : decode cL_law 858 = .ok (.aload_n 0, 1) := by decide +kernel
theorem dL_law_859 : decode cL_law 859 = .ok (.iload_n 3, 1) := by decide +kernel
theorem dL_law_860 : decode cL_law 860 = .ok (.iconst 2, 1) := by decide +kernel
theorem dL_law_861 : decode cL_law 861 = .ok (.iadd, 1) := by decide +kernel
theorem dL_law_862 : decode cL_law 862 = .ok (.iaload, 1) := by decide +kernel
theorem dL_law_863 : decode cL_law 863 = .ok (.invokevirtual 96, 3) := by decide +kernel
theorem dL_law_866 : decode cL_law 866 = .ok (.if_icmp .eq 230, 3) := by decide +kernel
theorem dL_law_869 : decode cL_law 869 = .ok (.iconst 0, 1) := by decide +kernel
theorem dL_law_870 : decode cL_law 870 = .ok (.ireturn, 1) := by decide +kernel
theorem dL_law_871 : decode cL_law 871 = .ok (.aload_n 1, 1) := by decide +kernel
theorem dL_law_872 : decode cL_law 872 = .ok (.aload_n 0, 1) := by decide +kernel
theorem dL_law_873 : decode cL_law 873 = .ok (.iload_n 3, 1) := by decide +kernel
theorem dL_law_874 : decode cL_law 874 = .ok (.iconst 1, 1) := by decide +kernel
theorem dL_law_875 : decode cL_law 875 = .ok (.iadd, 1) := by decide +kernel
theorem dL_law_876 : decode cL_law 876 = .ok (.iaload, 1) := by decide +kernel
theorem dL_law_877 : decode cL_law 877 = .ok (.aload_n 0, 1) := by decide +kernel
theorem dL_law_878 : decode cL_law 878 = .ok (.iload_n 3, 1) := by decide +kernel
theorem dL_law_879 : decode cL_law 879 = .ok (.iconst 2, 1) := by decide +kernel
theorem dL_law_880 : decode cL_law 880 = .ok (.iadd, 1) := by decide +kernel
theorem dL_law_881 : decode cL_law 881 = .ok (.iaload, 1) := by decide +kernel
theorem dL_law_882 : decode cL_law 882 = .ok (.invokevirtual 97, 3) := by decide +kernel
theorem dL_law_885 : decode cL_law 885 = .ok (.aload_n 2, 1) := by decide +kernel
theorem dL_law_886 : decode cL_law 886 = .ok (.aload_n 0, 1) := by decide +kernel
theorem dL_law_887 : decode cL_law 887 = .ok (.iload_n 3, 1) := by decide +kernel
theorem dL_law_888 : decode cL_law 888 = .ok (.iconst 1, 1) := by decide +kernel
theorem dL_law_889 : decode cL_law 889 = .ok (.iadd, 1) := by decide +kernel
theorem dL_law_890 : decode cL_law 890 = .ok (.iaload, 1) := by decide +kernel
theorem dL_law_891 : decode cL_law 891 = .ok (.aload_n 0, 1) := by decide +kernel
theorem dL_law_892 : decode cL_law 892 = .ok (.iload_n 3, 1) := by decide +kernel
theorem dL_law_893 : decode cL_law 893 = .ok (.iconst 2, 1) := by decide +kernel
theorem dL_law_894 : decode cL_law 894 = .ok (.iadd, 1) := by decide +kernel
theorem dL_law_895 : decode cL_law 895 = .ok (.iaload, 1) := by decide +kernel
theorem dL_law_896 : decode cL_law 896 = .ok (.invokevirtual 100, 3) := by decide +kernel
theorem dL_law_899 : decode cL_law 899 = .ok (.if_icmp .eq 197, 3) := by decide +kernel
theorem dL_law_902 : decode cL_law 902 = .ok (.iconst 0, 1) := by decide +kernel
theorem dL_law_903 : decode cL_law 903 = .ok (.ireturn, 1) := by decide +kernel
theorem dL_law_904 : decode cL_law 904 = .ok (.aload_n 1, 1) := by decide +kernel
theorem dL_law_905 : decode cL_law 905 = .ok (.aload_n 0, 1) := by decide +kernel
theorem dL_law_906 : decode cL_law 906 = .ok (.iload_n 3, 1) := by decide +kernel
theorem dL_law_907 : decode cL_law 907 = .ok (.iconst 1, 1) := by decide +kernel
theorem dL_law_908 : decode cL_law 908 = .ok (.iadd, 1) := by decide +kernel
theorem dL_law_909 : decode cL_law 909 = .ok (.iaload, 1) := by decide +kernel
theorem dL_law_910 : decode cL_law 910 = .ok (.aload_n 0, 1) := by decide +kernel
theorem dL_law_911 : decode cL_law 911 = .ok (.iload_n 3, 1) := by decide +kernel
theorem dL_law_912 : decode cL_law 912 = .ok (.iconst 2, 1) := by decide +kernel
theorem dL_law_913 : decode cL_law 913 = .ok (.iadd, 1) := by decide +kernel
theorem dL_law_914 : decode cL_law 914 = .ok (.iaload, 1) := by decide +kernel
theorem dL_law_915 : decode cL_law 915 = .ok (.aload_n 0, 1) := by decide +kernel
theorem dL_law_916 : decode cL_law 916 = .ok (.iload_n 3, 1) := by decide +kernel
theorem dL_law_917 : decode cL_law 917 = .ok (.iconst 3, 1) := by decide +kernel
theorem dL_law_918 : decode cL_law 918 = .ok (.iadd, 1) := by decide +kernel
theorem dL_law_919 : decode cL_law 919 = .ok (.iaload, 1) := by decide +kernel
theorem dL_law_920 : decode cL_law 920 = .ok (.invokevirtual 101, 3) := by decide +kernel
theorem dL_law_923 : decode cL_law 923 = .ok (.aload_n 2, 1) := by decide +kernel
theorem dL_law_924 : decode cL_law 924 = .ok (.aload_n 0, 1) := by decide +kernel
theorem dL_law_925 : decode cL_law 925 = .ok (.iload_n 3, 1) := by decide +kernel
theorem dL_law_926 : decode cL_law 926 = .ok (.iconst 1, 1) := by decide +kernel
theorem dL_law_927 : decode cL_law 927 = .ok (.iadd, 1) := by decide +kernel
theorem dL_law_928 : decode cL_law 928 = .ok (.iaload, 1) := by decide +kernel
theorem dL_law_929 : decode cL_law 929 = .ok (.aload_n 0, 1) := by decide +kernel
theorem dL_law_930 : decode cL_law 930 = .ok (.iload_n 3, 1) := by decide +kernel
theorem dL_law_931 : decode cL_law 931 = .ok (.iconst 2, 1) := by decide +kernel
theorem dL_law_932 : decode cL_law 932 = .ok (.iadd, 1) := by decide +kernel
theorem dL_law_933 : decode cL_law 933 = .ok (.iaload, 1) := by decide +kernel
theorem dL_law_934 : decode cL_law 934 = .ok (.aload_n 0, 1) := by decide +kernel
theorem dL_law_935 : decode cL_law 935 = .ok (.iload_n 3, 1) := by decide +kernel
theorem dL_law_936 : decode cL_law 936 = .ok (.iconst 3, 1) := by decide +kernel
theorem dL_law_937 : decode cL_law 937 = .ok (.iadd, 1) := by decide +kernel
theorem dL_law_938 : decode cL_law 938 = .ok (.iaload, 1) := by decide +kernel
theorem dL_law_939 : decode cL_law 939 = .ok (.invokevirtual 104, 3) := by decide +kernel
theorem dL_law_942 : decode cL_law 942 = .ok (.if_icmp .eq 154, 3) := by decide +kernel
theorem dL_law_945 : decode cL_law 945 = .ok (.iconst 0, 1) := by decide +kernel
theorem dL_law_946 : decode cL_law 946 = .ok (.ireturn, 1) := by decide +kernel
theorem dL_law_947 : decode cL_law 947 = .ok (.aload_n 1, 1) := by decide +kernel
theorem dL_law_948 : decode cL_law 948 = .ok (.aload_n 0, 1) := by decide +kernel
theorem dL_law_949 : decode cL_law 949 = .ok (.iload_n 3, 1) := by decide +kernel
theorem dL_law_950 : decode cL_law 950 = .ok (.iconst 1, 1) := by decide +kernel
theorem dL_law_951 : decode cL_law 951 = .ok (.iadd, 1) := by decide +kernel
theorem dL_law_952 : decode cL_law 952 = .ok (.iaload, 1) := by decide +kernel
theorem dL_law_953 : decode cL_law 953 = .ok (.aload_n 0, 1) := by decide +kernel
theorem dL_law_954 : decode cL_law 954 = .ok (.iload_n 3, 1) := by decide +kernel
theorem dL_law_955 : decode cL_law 955 = .ok (.iconst 2, 1) := by decide +kernel
theorem dL_law_956 : decode cL_law 956 = .ok (.iadd, 1) := by decide +kernel
theorem dL_law_957 : decode cL_law 957 = .ok (.iaload, 1) := by decide +kernel
theorem dL_law_958 : decode cL_law 958 = .ok (.aload_n 0, 1) := by decide +kernel
theorem dL_law_959 : decode cL_law 959 = .ok (.iload_n 3, 1) := by decide +kernel
theorem dL_law_960 : decode cL_law 960 = .ok (.iconst 3, 1) := by decide +kernel
theorem dL_law_961 : decode cL_law 961 = .ok (.iadd, 1) := by decide +kernel
theorem dL_law_962 : decode cL_law 962 = .ok (.iaload, 1) := by decide +kernel
theorem dL_law_963 : decode cL_law 963 = .ok (.i2l, 1) := by decide +kernel
theorem dL_law_964 : decode cL_law 964 = .ok (.bipush 32, 2) := by decide +kernel
theorem dL_law_966 : decode cL_law 966 = .ok (.lshl, 1) := by decide +kernel
theorem dL_law_967 : decode cL_law 967 = .ok (.aload_n 0, 1) := by decide +kernel
theorem dL_law_968 : decode cL_law 968 = .ok (.iload_n 3, 1) := by decide +kernel
theorem dL_law_969 : decode cL_law 969 = .ok (.iconst 4, 1) := by decide +kernel
theorem dL_law_970 : decode cL_law 970 = .ok (.iadd, 1) := by decide +kernel
theorem dL_law_971 : decode cL_law 971 = .ok (.iaload, 1) := by decide +kernel
theorem dL_law_972 : decode cL_law 972 = .ok (.i2l, 1) := by decide +kernel
theorem dL_law_973 : decode cL_law 973 = .ok (.ldc2_w 13, 3) := by decide +kernel
theorem dL_law_976 : decode cL_law 976 = .ok (.land, 1) := by decide +kernel
theorem dL_law_977 : decode cL_law 977 = .ok (.lor, 1) := by decide +kernel
theorem dL_law_978 : decode cL_law 978 = .ok (.invokevirtual 105, 3) := by decide +kernel
theorem dL_law_981 : decode cL_law 981 = .ok (.aload_n 2, 1) := by decide +kernel
theorem dL_law_982 : decode cL_law 982 = .ok (.aload_n 0, 1) := by decide +kernel
theorem dL_law_983 : decode cL_law 983 = .ok (.iload_n 3, 1) := by decide +kernel
theorem dL_law_984 : decode cL_law 984 = .ok (.iconst 1, 1) := by decide +kernel
theorem dL_law_985 : decode cL_law 985 = .ok (.iadd, 1) := by decide +kernel
theorem dL_law_986 : decode cL_law 986 = .ok (.iaload, 1) := by decide +kernel
theorem dL_law_987 : decode cL_law 987 = .ok (.aload_n 0, 1) := by decide +kernel
theorem dL_law_988 : decode cL_law 988 = .ok (.iload_n 3, 1) := by decide +kernel
theorem dL_law_989 : decode cL_law 989 = .ok (.iconst 2, 1) := by decide +kernel
theorem dL_law_990 : decode cL_law 990 = .ok (.iadd, 1) := by decide +kernel
theorem dL_law_991 : decode cL_law 991 = .ok (.iaload, 1) := by decide +kernel
theorem dL_law_992 : decode cL_law 992 = .ok (.aload_n 0, 1) := by decide +kernel
theorem dL_law_993 : decode cL_law 993 = .ok (.iload_n 3, 1) := by decide +kernel
theorem dL_law_994 : decode cL_law 994 = .ok (.iconst 3, 1) := by decide +kernel
theorem dL_law_995 : decode cL_law 995 = .ok (.iadd, 1) := by decide +kernel
theorem dL_law_996 : decode cL_law 996 = .ok (.iaload, 1) := by decide +kernel
theorem dL_law_997 : decode cL_law 997 = .ok (.i2l, 1) := by decide +kernel
theorem dL_law_998 : decode cL_law 998 = .ok (.bipush 32, 2) := by decide +kernel
theorem dL_law_1000 : decode cL_law 1000 = .ok (.lshl, 1) := by decide +kernel
theorem dL_law_1001 : decode cL_law 1001 = .ok (.aload_n 0, 1) := by decide +kernel
theorem dL_law_1002 : decode cL_law 1002 = .ok (.iload_n 3, 1) := by decide +kernel
theorem dL_law_1003 : decode cL_law 1003 = .ok (.iconst 4, 1) := by decide +kernel
theorem dL_law_1004 : decode cL_law 1004 = .ok (.iadd, 1) := by decide +kernel
theorem dL_law_1005 : decode cL_law 1005 = .ok (.iaload, 1) := by decide +kernel
theorem dL_law_1006 : decode cL_law 1006 = .ok (.i2l, 1) := by decide +kernel
theorem dL_law_1007 : decode cL_law 1007 = .ok (.ldc2_w 13, 3) := by decide +kernel
theorem dL_law_1010 : decode cL_law 1010 = .ok (.land, 1) := by decide +kernel
theorem dL_law_1011 : decode cL_law 1011 = .ok (.lor, 1) := by decide +kernel
theorem dL_law_1012 : decode cL_law 1012 = .ok (.invokevirtual 109, 3) := by decide +kernel
theorem dL_law_1015 : decode cL_law 1015 = .ok (.if_icmp .eq 81, 3) := by decide +kernel
theorem dL_law_1018 : decode cL_law 1018 = .ok (.iconst 0, 1) := by decide +kernel
theorem dL_law_1019 : decode cL_law 1019 = .ok (.ireturn, 1) := by decide +kernel
theorem dL_law_1020 : decode cL_law 1020 = .ok (.aload_n 1, 1) := by decide +kernel
theorem dL_law_1021 : decode cL_law 1021 = .ok (.aload_n 0, 1) := by decide +kernel
theorem dL_law_1022 : decode cL_law 1022 = .ok (.iload_n 3, 1) := by decide +kernel
theorem dL_law_1023 : decode cL_law 1023 = .ok (.iconst 1, 1) := by decide +kernel
theorem dL_law_1024 : decode cL_law 1024 = .ok (.iadd, 1) := by decide +kernel
theorem dL_law_1025 : decode cL_law 1025 = .ok (.iaload, 1) := by decide +kernel
theorem dL_law_1026 : decode cL_law 1026 = .ok (.aload_n 0, 1) := by decide +kernel
theorem dL_law_1027 : decode cL_law 1027 = .ok (.iload_n 3, 1) := by decide +kernel
theorem dL_law_1028 : decode cL_law 1028 = .ok (.iconst 2, 1) := by decide +kernel
theorem dL_law_1029 : decode cL_law 1029 = .ok (.iadd, 1) := by decide +kernel
theorem dL_law_1030 : decode cL_law 1030 = .ok (.iaload, 1) := by decide +kernel
theorem dL_law_1031 : decode cL_law 1031 = .ok (.aload_n 0, 1) := by decide +kernel
theorem dL_law_1032 : decode cL_law 1032 = .ok (.iload_n 3, 1) := by decide +kernel
theorem dL_law_1033 : decode cL_law 1033 = .ok (.iconst 3, 1) := by decide +kernel
theorem dL_law_1034 : decode cL_law 1034 = .ok (.iadd, 1) := by decide +kernel
theorem dL_law_1035 : decode cL_law 1035 = .ok (.iaload, 1) := by decide +kernel
theorem dL_law_1036 : decode cL_law 1036 = .ok (.aload_n 0, 1) := by decide +kernel
theorem dL_law_1037 : decode cL_law 1037 = .ok (.iload_n 3, 1) := by decide +kernel
theorem dL_law_1038 : decode cL_law 1038 = .ok (.iconst 4, 1) := by decide +kernel
theorem dL_law_1039 : decode cL_law 1039 = .ok (.iadd, 1) := by decide +kernel
theorem dL_law_1040 : decode cL_law 1040 = .ok (.iaload, 1) := by decide +kernel
theorem dL_law_1041 : decode cL_law 1041 = .ok (.invokevirtual 110, 3) := by decide +kernel
theorem dL_law_1044 : decode cL_law 1044 = .ok (.aload_n 2, 1) := by decide +kernel
theorem dL_law_1045 : decode cL_law 1045 = .ok (.aload_n 0, 1) := by decide +kernel
theorem dL_law_1046 : decode cL_law 1046 = .ok (.iload_n 3, 1) := by decide +kernel
theorem dL_law_1047 : decode cL_law 1047 = .ok (.iconst 1, 1) := by decide +kernel
theorem dL_law_1048 : decode cL_law 1048 = .ok (.iadd, 1) := by decide +kernel
theorem dL_law_1049 : decode cL_law 1049 = .ok (.iaload, 1) := by decide +kernel
theorem dL_law_1050 : decode cL_law 1050 = .ok (.aload_n 0, 1) := by decide +kernel
theorem dL_law_1051 : decode cL_law 1051 = .ok (.iload_n 3, 1) := by decide +kernel
theorem dL_law_1052 : decode cL_law 1052 = .ok (.iconst 2, 1) := by decide +kernel
theorem dL_law_1053 : decode cL_law 1053 = .ok (.iadd, 1) := by decide +kernel
theorem dL_law_1054 : decode cL_law 1054 = .ok (.iaload, 1) := by decide +kernel
theorem dL_law_1055 : decode cL_law 1055 = .ok (.aload_n 0, 1) := by decide +kernel
theorem dL_law_1056 : decode cL_law 1056 = .ok (.iload_n 3, 1) := by decide +kernel
theorem dL_law_1057 : decode cL_law 1057 = .ok (.iconst 3, 1) := by decide +kernel
theorem dL_law_1058 : decode cL_law 1058 = .ok (.iadd, 1) := by decide +kernel
theorem dL_law_1059 : decode cL_law 1059 = .ok (.iaload, 1) := by decide +kernel
theorem dL_law_1060 : decode cL_law 1060 = .ok (.aload_n 0, 1) := by decide +kernel
theorem dL_law_1061 : decode cL_law 1061 = .ok (.iload_n 3, 1) := by decide +kernel
theorem dL_law_1062 : decode cL_law 1062 = .ok (.iconst 4, 1) := by decide +kernel
theorem dL_law_1063 : decode cL_law 1063 = .ok (.iadd, 1) := by decide +kernel
theorem dL_law_1064 : decode cL_law 1064 = .ok (.iaload, 1) := by decide +kernel
theorem dL_law_1065 : decode cL_law 1065 = .ok (.invokevirtual 113, 3) := by decide +kernel
theorem dL_law_1068 : decode cL_law 1068 = .ok (.if_icmp .eq 28, 3) := by decide +kernel
theorem dL_law_1071 : decode cL_law 1071 = .ok (.iconst 0, 1) := by decide +kernel
theorem dL_law_1072 : decode cL_law 1072 = .ok (.ireturn, 1) := by decide +kernel
theorem dL_law_1073 : decode cL_law 1073 = .ok (.aload_n 1, 1) := by decide +kernel
theorem dL_law_1074 : decode cL_law 1074 = .ok (.aload_n 0, 1) := by decide +kernel
theorem dL_law_1075 : decode cL_law 1075 = .ok (.iload_n 3, 1) := by decide +kernel
theorem dL_law_1076 : decode cL_law 1076 = .ok (.iconst 1, 1) := by decide +kernel
theorem dL_law_1077 : decode cL_law 1077 = .ok (.iadd, 1) := by decide +kernel
theorem dL_law_1078 : decode cL_law 1078 = .ok (.iaload, 1) := by decide +kernel
theorem dL_law_1079 : decode cL_law 1079 = .ok (.invokevirtual 114, 3) := by decide +kernel
theorem dL_law_1082 : decode cL_law 1082 = .ok (.aload_n 2, 1) := by decide +kernel
theorem dL_law_1083 : decode cL_law 1083 = .ok (.aload_n 0, 1) := by decide +kernel
theorem dL_law_1084 : decode cL_law 1084 = .ok (.iload_n 3, 1) := by decide +kernel
theorem dL_law_1085 : decode cL_law 1085 = .ok (.iconst 1, 1) := by decide +kernel
theorem dL_law_1086 : decode cL_law 1086 = .ok (.iadd, 1) := by decide +kernel
theorem dL_law_1087 : decode cL_law 1087 = .ok (.iaload, 1) := by decide +kernel
theorem dL_law_1088 : decode cL_law 1088 = .ok (.invokevirtual 117, 3) := by decide +kernel
theorem dL_law_1091 : decode cL_law 1091 = .ok (.if_icmp .eq 5, 3) := by decide +kernel
theorem dL_law_1094 : decode cL_law 1094 = .ok (.iconst 0, 1) := by decide +kernel
theorem dL_law_1095 : decode cL_law 1095 = .ok (.ireturn, 1) := by decide +kernel
theorem dL_law_1096 : decode cL_law 1096 = .ok (.iinc 3 5, 3) := by decide +kernel
theorem dL_law_1099 : decode cL_law 1099 = .ok (.goto (-1081), 3) := by decide +kernel
theorem dL_law_1102 : decode cL_law 1102 = .ok (.iconst 1, 1) := by decide +kernel
theorem dL_law_1103 : decode cL_law 1103 = .ok (.ireturn, 1) := by decide +kernel
end
section
def mg_nest : List (String × Nat × MethodName × String) := [("MetAngles$Turn", 9, ⟨"MetAngles", "greatestShared", "(JJ)J"⟩, "MetAngles"), ("MetAngles$Turn", 13, ⟨"MetAngles", "over", "(JJ)J"⟩, "MetAngles"), ("MetAngles$Turn", 42, ⟨"MetAngles", "twice", "(II)I"⟩, "MetAngles"), ("MetAngles$Turn", 45, ⟨"MetAngles", "order", "(JJ)I"⟩, "MetAngles"), ("MetAngles$Partners", 29, ⟨"MetAngles", "ones", "(I)I"⟩, "MetAngles"), ("MetAngles$Partners", 40, ⟨"MetAngles$Turn", "lengthOfRing", "(II)I"⟩, "MetAngles"), ("MetAngles$Partners", 48, ⟨"MetAngles", "over", "(JJ)J"⟩, "MetAngles"), ("MetAngles$Partners", 61, ⟨"MetAngles", "order", "(JJ)I"⟩, "MetAngles")]
end
section
/-! Worlds as maps from addresses to cells; the judgement mg_G: 'if the function F answers o, the machine comes from here to the method's end with o'. -/
abbrev mg_E : Type := (Nat × List Value) ⊕ (Nat × vp_A)
abbrev mg_H : Type := Nat → Option mg_E
abbrev mg_P : Type := va_G × (Nat → ClassId) × Nat
def mg_to (ids : Nat → ClassId) (e : mg_E) : va_E := match e with
  | .inl o => .inr o
  | .inr a => .inl (ids a.1, a.2)
def mg_tys (ids : Nat → ClassId) : List (ClassId × FieldType) := [(ids 0, .int), (ids 1, .boolean), (ids 2, .long), (ids 3, .object RX2), (ids 4, .object RX1)]
def mg_set (w : mg_H) (a : Nat) (e : mg_E) : mg_H := fun q => if q = a then some e else w q
def mg_ws : List Cond := lw_tbl.filter goodWord
theorem mg_in {w : Cond} (i : Nat) (h : lw_tbl[i]? = some w) (g : goodWord w = true) : w ∈ mg_ws := List.mem_filter.mpr ⟨List.mem_of_getElem? h, g⟩
theorem mg_good {y : MethodName} {cc : ByteArray} {n : Nat} {r : Option FieldType} (h : Cond.code y cc n r ∈ mg_ws) : GoodIn mg_ws (Cond.code y cc n r :: mg_ws) := by
  intro w hw
  have hm : w ∈ mg_ws := by
    rcases List.mem_cons.mp hw with rfl | q
    · exact h
    · exact q
  exact ⟨hm, good_of_word (List.mem_filter.mp hm).2⟩
/-- what the tables say, beside the words: the classes, the array classes, the private methods of nest mates -/
def mg_Tb (E : mg_P) (U : State) : Prop := va_K E.1 vwCl (mg_tys E.2.1) U ∧ (∀ q ∈ mg_nest, va_Nw (.methodLinkNest q.1 q.2.1 q.2.2.1 q.2.2.2) U) ∧ va_AO RX2 U ∧ va_AO RX1 U
theorem mg_Tb.warm {E : mg_P} {s U : State} (hW : s.WarmedH U.vm) (h : mg_Tb E s) : mg_Tb E U := ⟨va_K.moved hW.alike h.1, fun q hq => va_Nw.warmM hW (h.2.1 q hq), va_AO.moved hW.alike h.2.2.1, va_AO.moved hW.alike h.2.2.2⟩
theorem mg_Tb.same {E : mg_P} {s U : State} (hv : s.vm = U.vm) (h : mg_Tb E s) : mg_Tb E U := ⟨va_K.moved (by rw [← hv]; exact Vm.Alike.refl _) h.1, fun q hq => va_Nw.same rfl hv (h.2.1 q hq), va_AO.moved (by rw [← hv]; exact Vm.Alike.refl _) h.2.2.1, va_AO.moved (by rw [← hv]; exact Vm.Alike.refl _) h.2.2.2⟩
/-- the heap holds the world -/
def mg_Hd (E : mg_P) (w : mg_H) (H : Heap) : Prop := ∀ (a : Nat) (e : mg_E), w a = some e → va_at E.1 vwCl (a, mg_to E.2.1 e) H ∧ E.2.2 ≤ a
def mg_Ok (E : mg_P) (w : mg_H) (sz : Nat) (s : State) (H : Heap) (locs : List Loc) : Prop := H.size = sz ∧ mg_Hd E w H ∧ E.2.2 ≤ s.heap.size ∧ s.heap.size ≤ sz ∧ (∀ q : Nat, q < E.2.2 → H[q]? = s.heap[q]?) ∧ ∀ l ∈ locs, E.2.2 ≤ l.base
theorem mg_Hd.lt {E : mg_P} {w : mg_H} {H : Heap} (h : mg_Hd E w H) {a : Nat} {e : mg_E} (ha : w a = some e) : a < H.size := (h a e ha).1.lt
theorem mg_Ok.put {E : mg_P} {w : mg_H} {sz : Nat} {s : State} {H H1 : Heap} {locs : List Loc} (h : mg_Ok E w sz s H locs) {a k : Nat} {e0 e : mg_E} (ha : w a = some e0) (z : H1.size = H.size) (oq : ∀ q : Nat, q ≠ a → H1[q]? = H[q]?) (he : va_at E.1 vwCl (a, mg_to E.2.1 e) H1) : mg_Ok E (mg_set w a e) sz s H1 (locs ++ [⟨a, k⟩]) := by
  obtain ⟨h1, h2, h3, h4, h5, h6⟩ := h
  have hB := (h2 a e0 ha).2
  refine ⟨z.trans h1, fun b f hb => ?_, h3, h4, fun q hq => ?_, fun q hq => ?_⟩
  · by_cases hab : b = a
    · subst hab
      rw [mg_set, if_pos rfl] at hb
      cases hb
      exact ⟨he, hB⟩
    · rw [mg_set, if_neg hab] at hb
      exact ⟨(h2 b f hb).1.kept (oq b hab), (h2 b f hb).2⟩
  · rw [oq q (by omega)]; exact h5 q hq
  · rcases List.mem_append.mp hq with h7 | h7
    · exact h6 q h7
    · rw [List.mem_singleton.mp h7]; exact hB
theorem mg_Ok.push {E : mg_P} {w : mg_H} {sz : Nat} {s : State} {H H1 : Heap} {locs : List Loc} (h : mg_Ok E w sz s H locs) {e : mg_E} (z : H1.size = sz + 1) (oq : ∀ q : Nat, q < sz → H1[q]? = H[q]?) (he : va_at E.1 vwCl (sz, mg_to E.2.1 e) H1) : mg_Ok E (mg_set w sz e) (sz + 1) s H1 locs := by
  obtain ⟨h1, h2, h3, h4, h5, h6⟩ := h
  refine ⟨z, fun b f hb => ?_, h3, by omega, fun q hq => ?_, h6⟩
  · by_cases hab : b = sz
    · subst hab
      rw [mg_set, if_pos rfl] at hb
      cases hb
      exact ⟨he, by omega⟩
    · rw [mg_set, if_neg hab] at hb
      have hl := h2.lt hb
      exact ⟨(h2 b f hb).1.kept (oq b (by omega)), (h2 b f hb).2⟩
  · rw [oq q (by omega)]; exact h5 q hq
/-- a method's start and end -/
def mg_Pc (E : mg_P) (av : List Value) (w : mg_H) (sz : Nat) : Array Value → State → Prop := fun v U => v = av.toArray ∧ U.heap.size = sz ∧ mg_Hd E w U.heap ∧ E.2.2 ≤ sz ∧ mg_Tb E U
def mg_Qc (E : mg_P) (r : Option Value) (w : mg_H) (sz : Nat) : Array Value → State → Outcome → State → Prop := fun _ st oc t => oc = .returned r ∧ t.heap.size = sz ∧ mg_Hd E w t.heap ∧ ∀ q : Nat, q < E.2.2 → t.heap[q]? = st.heap[q]?
abbrev mg_R : Type := Option Value × mg_H × Nat × Nat
/-- the contract of a method y at arguments av in the world w: it comes to o -/
def mg_C (E : mg_P) (l : Launch) (y : MethodName) (cc : ByteArray) (maxL : Nat) (ret : Option FieldType) (fr lo : Nat) (av : List Value) (w : mg_H) (sz : Nat) (o : mg_R) : Prop :=
  Met l y (.code y cc maxL ret :: mg_ws) ({ frames := fr, cells := o.2.2.1, slots := o.2.2.2, locals := lo } : Room) (mg_Pc E av w sz) (mg_Qc E o.1 o.2.1 (sz + o.2.2.1)) o.2.2.1 o.2.2.2 (fun q => E.2.2 ≤ q)
theorem mg_blind {E : mg_P} {av : List Value} {w : mg_H} {sz : Nat} : FrameBlind (mg_Pc E av w sz) := fun a U g mk q => by
  obtain ⟨q0, q1, q2, q3, q4⟩ := q
  exact ⟨q0, q1, q2, q3, mg_Tb.same (s := U) (U := U.calling g mk a) rfl q4⟩
/-- what stays the same within a method's body -/
def mg_Cx (E : mg_P) (p : Program) (s : State) (m : MethodId) (args : Array Value) (meth : Method) (c : Code) (cc : ByteArray) (nL : Nat) (ret : Option FieldType) (own : String) : Prop :=
  p.tables.exec = Jvm.exec ∧ c.code = cc ∧ c.maxLocals = nL ∧ s.vm.findClass own = some m.cls ∧ (∀ w ∈ mg_ws, w.before args s = true) ∧ mg_Tb E s ∧ meth.sig.returnType = ret ∧ meth.locks = false
def mg_V (E : mg_P) (p : Program) (l : Launch) (e : Env) (R : Room) (s : State) (m : MethodId) (args : Array Value) (below : List Frame) (meth : Method) (c : Code) (nL : Nat) (Q : State → Prop) (w : mg_H) (sz cells slots pc : Nat) (L : List (Nat × Value)) (st : List Value) : Prop :=
  ∀ (H : Heap) (locs : List Loc) (ls : Array Slot), mg_Ok E w sz s H locs → lv_has ls nL L → W p l e R s m args below meth c H locs cells slots Q (F0 m pc ls st)
/-- where a method ends with o, from a place with so many cells and slots made -/
def mg_Z (E : mg_P) (s : State) (args : Array Value) (below : List Frame) (o : mg_R) (sz cells slots : Nat) : State → Prop := MQ below (mg_Qc E o.1 o.2.1 (sz + o.2.2.1)) args s (cells + o.2.2.1) (slots + o.2.2.2) (fun q => E.2.2 ≤ q)
def mg_G {ρ : Type} (E : mg_P) (p : Program) (l : Launch) (e : Env) (R : Room) (s : State) (m : MethodId) (args : Array Value) (below : List Frame) (meth : Method) (c : Code) (nL : Nat) (out : ρ → mg_R) (F : Option ρ) (w : mg_H) (sz cells slots pc : Nat) (L : List (Nat × Value)) (st : List Value) : Prop :=
  ∀ o : ρ, F = some o → cells + (out o).2.2.1 ≤ R.cells → slots + (out o).2.2.2 ≤ R.slots → mg_V E p l e R s m args below meth c nL (mg_Z E s args below (out o) sz cells slots) w sz cells slots pc L st
/-- what a method's function answers: a value alone (the world stays), a value and a world, these and how many cells and slots came -/
def mg_oR {α : Type} (f : α → Option Value) (w : mg_H) : α → mg_R := fun a => (f a, w, 0, 0)
def mg_oS {α : Type} (f : α → Option Value) : α × mg_H → mg_R := fun o => (f o.1, o.2, 0, 0)
def mg_oA {α : Type} (f : α → Option Value) : α × mg_H × Nat × Nat → mg_R := fun o => (f o.1, o.2)
def mg_vI (r : Int32) : Option Value := some (.int r)
def mg_vL (r : Int64) : Option Value := some (.long r)
def mg_vN (r : Nat) : Option Value := some (.ref r)
def mg_vQ (r : Option Nat) : Option Value := some (va_rf r)
def mg_vV (_ : Unit) : Option Value := none
def mg_bmp {α : Type} (k n : Nat) (o : Option (α × mg_H × Nat × Nat)) : Option (α × mg_H × Nat × Nat) := o.map fun o => (o.1, o.2.1, k + o.2.2.1, n + o.2.2.2)
/-- reading and writing the world -/
def mg_obj (w : mg_H) (ci a : Nat) : Option (List Value) := match w a with
  | some (.inl (c, fs)) => if c = ci then some fs else none
  | _ => none
def mg_arI (w : mg_H) (kd a : Nat) : Option (Nat × (Nat → Int32)) := match w a with
  | some (.inr (k, n, .inl f)) => if k = kd then some (n, f) else none
  | _ => none
def mg_arL (w : mg_H) (a : Nat) : Option (Nat × (Nat → Int64)) := match w a with
  | some (.inr (2, n, .inr (.inl f))) => some (n, f)
  | _ => none
def mg_arQ (w : mg_H) (kd a : Nat) : Option (Nat × (Nat → Option Nat)) := match w a with
  | some (.inr (k, n, .inr (.inr (.inr (.inr f))))) => if k = kd then some (n, f) else none
  | _ => none
def mg_gI (w : mg_H) (ci a k : Nat) : Option Int32 := (mg_obj w ci a).bind fun fs => match fs[k]? with
  | some (.int v) => some v
  | _ => none
def mg_gQ (w : mg_H) (ci a k : Nat) : Option (Option Nat) := (mg_obj w ci a).bind fun fs => match fs[k]? with
  | some (.ref v) => some (some v)
  | some .null => some none
  | _ => none
def mg_pI (w : mg_H) (ci a k : Nat) (v : Int32) : Option mg_H := (mg_obj w ci a).bind fun fs => if k < fs.length then some (mg_set w a (.inl (ci, fs.set k (.int v)))) else none
def mg_pQ (w : mg_H) (ci a k : Nat) (v : Option Nat) : Option mg_H := (mg_obj w ci a).bind fun fs => if k < fs.length then some (mg_set w a (.inl (ci, fs.set k (va_rf v)))) else none
def mg_ix (i : Int32) (n : Nat) : Option Nat := if i < 0 then none else if i.toNatClampNeg < n then some i.toNatClampNeg else none
def mg_ldI (w : mg_H) (kd a : Nat) (i : Int32) : Option Int32 := (mg_arI w kd a).bind fun x => (mg_ix i x.1).map x.2
def mg_ldL (w : mg_H) (a : Nat) (i : Int32) : Option Int64 := (mg_arL w a).bind fun x => (mg_ix i x.1).map x.2
def mg_ldQ (w : mg_H) (kd a : Nat) (i : Int32) : Option (Option Nat) := (mg_arQ w kd a).bind fun x => (mg_ix i x.1).map x.2
def mg_stI (w : mg_H) (a : Nat) (i v : Int32) : Option mg_H := (mg_arI w 0 a).bind fun x => (mg_ix i x.1).map fun k => mg_set w a (.inr (0, x.1, .inl (upd x.2 k v)))
def mg_stZ (w : mg_H) (a : Nat) (i v : Int32) : Option mg_H := (mg_arI w 1 a).bind fun x => (mg_ix i x.1).map fun k => mg_set w a (.inr (1, x.1, .inl (upd x.2 k (vp_nar .boolean v))))
def mg_stL (w : mg_H) (a : Nat) (i : Int32) (v : Int64) : Option mg_H := (mg_arL w a).bind fun x => (mg_ix i x.1).map fun k => mg_set w a (.inr (2, x.1, .inr (.inl (vp_updL x.2 k v))))
def mg_stQ (w : mg_H) (kd ci a : Nat) (i : Int32) (v : Nat) : Option mg_H := (mg_arQ w kd a).bind fun x => (mg_ix i x.1).bind fun k => (mg_obj w ci v).map fun _ => mg_set w a (.inr (kd, x.1, .inr (.inr (.inr (.inr (va_up x.2 k (some v)))))))
def mg_len (w : mg_H) (a : Nat) : Option Int32 := match w a with
  | some (.inr (k, x)) => if k < 5 then some (Int32.ofNat x.1) else none
  | _ => none
def mg_nn {α : Type} (r : Option Nat) (K : Nat → Option α) : Option α := match r with
  | none => none
  | some a => K a
def mg_if0 {α : Type} (r : Option Nat) (A : Option α) (K : Nat → Option α) : Option α := match r with
  | none => A
  | some a => K a
theorem mg_ix_some {i : Int32} {n k : Nat} (h : mg_ix i n = some k) : vp_in i n ∧ k = i.toNatClampNeg := by
  unfold mg_ix at h
  by_cases h1 : i < 0
  · rw [if_pos h1] at h; cases h
  · rw [if_neg h1] at h
    by_cases h2 : i.toNatClampNeg < n
    · rw [if_pos h2] at h
      exact ⟨fun q => q.elim h1 (fun z => by omega), (Option.some.inj h).symm⟩
    · rw [if_neg h2] at h; cases h
theorem mg_obj_some {w : mg_H} {ci a : Nat} {fs : List Value} (h : mg_obj w ci a = some fs) : w a = some (.inl (ci, fs)) := by
  unfold mg_obj at h
  split at h
  · rename_i c fs' he
    by_cases hc : c = ci
    · rw [if_pos hc] at h; cases h; rw [he, hc]
    · rw [if_neg hc] at h; cases h
  · cases h
theorem mg_arI_some {w : mg_H} {kd a : Nat} {x : Nat × (Nat → Int32)} (h : mg_arI w kd a = some x) : w a = some (.inr (kd, x.1, .inl x.2)) := by
  unfold mg_arI at h
  split at h
  · rename_i k n f he
    by_cases hc : k = kd
    · rw [if_pos hc] at h; cases h; rw [he, hc]
    · rw [if_neg hc] at h; cases h
  · cases h
theorem mg_arL_some {w : mg_H} {a : Nat} {x : Nat × (Nat → Int64)} (h : mg_arL w a = some x) : w a = some (.inr (2, x.1, .inr (.inl x.2))) := by
  unfold mg_arL at h
  split at h
  · rename_i n f he
    cases h; exact he
  · cases h
theorem mg_arQ_some {w : mg_H} {kd a : Nat} {x : Nat × (Nat → Option Nat)} (h : mg_arQ w kd a = some x) : w a = some (.inr (kd, x.1, .inr (.inr (.inr (.inr x.2))))) := by
  unfold mg_arQ at h
  split at h
  · rename_i k n f he
    by_cases hc : k = kd
    · rw [if_pos hc] at h; cases h; rw [he, hc]
    · rw [if_neg hc] at h; cases h
  · cases h
theorem mg_gI_some {w : mg_H} {ci a k : Nat} {v : Int32} (h : mg_gI w ci a k = some v) : ∃ fs, w a = some (.inl (ci, fs)) ∧ fs[k]? = some (.int v) := by
  obtain ⟨fs, h1, h2⟩ := Option.bind_eq_some_iff.mp h
  refine ⟨fs, mg_obj_some h1, ?_⟩
  split at h2
  · rename_i x hx
    cases h2; exact hx
  · cases h2
theorem mg_gQ_some {w : mg_H} {ci a k : Nat} {v : Option Nat} (h : mg_gQ w ci a k = some v) : ∃ fs, w a = some (.inl (ci, fs)) ∧ fs[k]? = some (va_rf v) := by
  obtain ⟨fs, h1, h2⟩ := Option.bind_eq_some_iff.mp h
  refine ⟨fs, mg_obj_some h1, ?_⟩
  split at h2
  · rename_i x hx
    cases h2; exact hx
  · rename_i hx
    cases h2; exact hx
  · cases h2
end
section
section MGR
variable {ρ : Type} {E : mg_P} {p : Program} {l : Launch} {e : Env} {R : Room} {s : State} {m : MethodId} {args : Array Value} {below : List Frame} {meth : Method} {c : Code} {cc : ByteArray} {nL : Nat} {ret : Option FieldType} {own : String} {out : ρ → mg_R} {F : Option ρ} {w : mg_H} {sz cells slots pc : Nat} {L : List (Nat × Value)} {st : List Value}
theorem mg_iadd (hC : mg_Cx E p s m args meth c cc nL ret own) {x y : Int32} (hdg : decode cc pc = .ok (.iadd, 1)) (k : mg_G E p l e R s m args below meth c nL out F w sz cells slots (pc + 1) L (.int (x + y) :: st)) : mg_G E p l e R s m args below meth c nL out F w sz cells slots pc L (.int y :: .int x :: st) := fun o hf h1 h2 H locs ls hok hl => lv_iadd hC.1 hC.2.1 hdg (k o hf h1 h2 H locs ls hok hl)
theorem mg_isub (hC : mg_Cx E p s m args meth c cc nL ret own) {x y : Int32} (hdg : decode cc pc = .ok (.isub, 1)) (k : mg_G E p l e R s m args below meth c nL out F w sz cells slots (pc + 1) L (.int (x - y) :: st)) : mg_G E p l e R s m args below meth c nL out F w sz cells slots pc L (.int y :: .int x :: st) := fun o hf h1 h2 H locs ls hok hl => lv_isub hC.1 hC.2.1 hdg (k o hf h1 h2 H locs ls hok hl)
theorem mg_imul (hC : mg_Cx E p s m args meth c cc nL ret own) {x y : Int32} (hdg : decode cc pc = .ok (.imul, 1)) (k : mg_G E p l e R s m args below meth c nL out F w sz cells slots (pc + 1) L (.int (x * y) :: st)) : mg_G E p l e R s m args below meth c nL out F w sz cells slots pc L (.int y :: .int x :: st) := fun o hf h1 h2 H locs ls hok hl => lv_imul hC.1 hC.2.1 hdg (k o hf h1 h2 H locs ls hok hl)
theorem mg_iand (hC : mg_Cx E p s m args meth c cc nL ret own) {x y : Int32} (hdg : decode cc pc = .ok (.iand, 1)) (k : mg_G E p l e R s m args below meth c nL out F w sz cells slots (pc + 1) L (.int (x &&& y) :: st)) : mg_G E p l e R s m args below meth c nL out F w sz cells slots pc L (.int y :: .int x :: st) := fun o hf h1 h2 H locs ls hok hl => lv_iand hC.1 hC.2.1 hdg (k o hf h1 h2 H locs ls hok hl)
theorem mg_ior (hC : mg_Cx E p s m args meth c cc nL ret own) {x y : Int32} (hdg : decode cc pc = .ok (.ior, 1)) (k : mg_G E p l e R s m args below meth c nL out F w sz cells slots (pc + 1) L (.int (x ||| y) :: st)) : mg_G E p l e R s m args below meth c nL out F w sz cells slots pc L (.int y :: .int x :: st) := fun o hf h1 h2 H locs ls hok hl => lv_ior hC.1 hC.2.1 hdg (k o hf h1 h2 H locs ls hok hl)
theorem mg_ishl (hC : mg_Cx E p s m args meth c cc nL ret own) {x y : Int32} (hdg : decode cc pc = .ok (.ishl, 1)) (k : mg_G E p l e R s m args below meth c nL out F w sz cells slots (pc + 1) L (.int (x <<< (y &&& 31)) :: st)) : mg_G E p l e R s m args below meth c nL out F w sz cells slots pc L (.int y :: .int x :: st) := fun o hf h1 h2 H locs ls hok hl => lv_ishl hC.1 hC.2.1 hdg (k o hf h1 h2 H locs ls hok hl)
theorem mg_ishr (hC : mg_Cx E p s m args meth c cc nL ret own) {x y : Int32} (hdg : decode cc pc = .ok (.ishr, 1)) (k : mg_G E p l e R s m args below meth c nL out F w sz cells slots (pc + 1) L (.int (x >>> (y &&& 31)) :: st)) : mg_G E p l e R s m args below meth c nL out F w sz cells slots pc L (.int y :: .int x :: st) := fun o hf h1 h2 H locs ls hok hl => lv_ishr hC.1 hC.2.1 hdg (k o hf h1 h2 H locs ls hok hl)
theorem mg_ladd (hC : mg_Cx E p s m args meth c cc nL ret own) {x y : Int64} (hdg : decode cc pc = .ok (.ladd, 1)) (k : mg_G E p l e R s m args below meth c nL out F w sz cells slots (pc + 1) L (.long (x + y) :: st)) : mg_G E p l e R s m args below meth c nL out F w sz cells slots pc L (.long y :: .long x :: st) := fun o hf h1 h2 H locs ls hok hl => lv_ladd hC.1 hC.2.1 hdg (k o hf h1 h2 H locs ls hok hl)
theorem mg_lsub (hC : mg_Cx E p s m args meth c cc nL ret own) {x y : Int64} (hdg : decode cc pc = .ok (.lsub, 1)) (k : mg_G E p l e R s m args below meth c nL out F w sz cells slots (pc + 1) L (.long (x - y) :: st)) : mg_G E p l e R s m args below meth c nL out F w sz cells slots pc L (.long y :: .long x :: st) := fun o hf h1 h2 H locs ls hok hl => lv_lsub hC.1 hC.2.1 hdg (k o hf h1 h2 H locs ls hok hl)
theorem mg_lmul (hC : mg_Cx E p s m args meth c cc nL ret own) {x y : Int64} (hdg : decode cc pc = .ok (.lmul, 1)) (k : mg_G E p l e R s m args below meth c nL out F w sz cells slots (pc + 1) L (.long (x * y) :: st)) : mg_G E p l e R s m args below meth c nL out F w sz cells slots pc L (.long y :: .long x :: st) := fun o hf h1 h2 H locs ls hok hl => lv_lmul hC.1 hC.2.1 hdg (k o hf h1 h2 H locs ls hok hl)
theorem mg_land (hC : mg_Cx E p s m args meth c cc nL ret own) {x y : Int64} (hdg : decode cc pc = .ok (.land, 1)) (k : mg_G E p l e R s m args below meth c nL out F w sz cells slots (pc + 1) L (.long (x &&& y) :: st)) : mg_G E p l e R s m args below meth c nL out F w sz cells slots pc L (.long y :: .long x :: st) := fun o hf h1 h2 H locs ls hok hl => lv_land hC.1 hC.2.1 hdg (k o hf h1 h2 H locs ls hok hl)
theorem mg_lor (hC : mg_Cx E p s m args meth c cc nL ret own) {x y : Int64} (hdg : decode cc pc = .ok (.lor, 1)) (k : mg_G E p l e R s m args below meth c nL out F w sz cells slots (pc + 1) L (.long (x ||| y) :: st)) : mg_G E p l e R s m args below meth c nL out F w sz cells slots pc L (.long y :: .long x :: st) := fun o hf h1 h2 H locs ls hok hl => lv_lor hC.1 hC.2.1 hdg (k o hf h1 h2 H locs ls hok hl)
theorem mg_ineg (hC : mg_Cx E p s m args meth c cc nL ret own) {x : Int32} (hdg : decode cc pc = .ok (.ineg, 1)) (k : mg_G E p l e R s m args below meth c nL out F w sz cells slots (pc + 1) L (.int (-x) :: st)) : mg_G E p l e R s m args below meth c nL out F w sz cells slots pc L (.int x :: st) := fun o hf h1 h2 H locs ls hok hl => lv_ineg hC.1 hC.2.1 hdg (k o hf h1 h2 H locs ls hok hl)
theorem mg_lshl (hC : mg_Cx E p s m args meth c cc nL ret own) {x : Int64} {y : Int32} (hdg : decode cc pc = .ok (.lshl, 1)) (k : mg_G E p l e R s m args below meth c nL out F w sz cells slots (pc + 1) L (.long (x <<< (y.toInt64 &&& 63)) :: st)) : mg_G E p l e R s m args below meth c nL out F w sz cells slots pc L (.int y :: .long x :: st) := fun o hf h1 h2 H locs ls hok hl => lv_lshl hC.1 hC.2.1 hdg rfl (k o hf h1 h2 H locs ls hok hl)
theorem mg_i2l (hC : mg_Cx E p s m args meth c cc nL ret own) {x : Int32} (hdg : decode cc pc = .ok (.i2l, 1)) (k : mg_G E p l e R s m args below meth c nL out F w sz cells slots (pc + 1) L (.long x.toInt64 :: st)) : mg_G E p l e R s m args below meth c nL out F w sz cells slots pc L (.int x :: st) := fun o hf h1 h2 H locs ls hok hl => lv_i2l hC.1 hC.2.1 hdg rfl (k o hf h1 h2 H locs ls hok hl)
theorem mg_l2i (hC : mg_Cx E p s m args meth c cc nL ret own) {x : Int64} (hdg : decode cc pc = .ok (.l2i, 1)) (k : mg_G E p l e R s m args below meth c nL out F w sz cells slots (pc + 1) L (.int x.toInt32 :: st)) : mg_G E p l e R s m args below meth c nL out F w sz cells slots pc L (.long x :: st) := fun o hf h1 h2 H locs ls hok hl => lv_l2i hC.1 hC.2.1 hdg rfl (k o hf h1 h2 H locs ls hok hl)
theorem mg_lcmp (hC : mg_Cx E p s m args meth c cc nL ret own) {x y : Int64} (hdg : decode cc pc = .ok (.lcmp, 1)) (k : mg_G E p l e R s m args below meth c nL out F w sz cells slots (pc + 1) L (.int (lg_cmp x y) :: st)) : mg_G E p l e R s m args below meth c nL out F w sz cells slots pc L (.long y :: .long x :: st) := fun o hf h1 h2 H locs ls hok hl => W.lcmp hC.1 hC.2.1 hdg (k o hf h1 h2 H locs ls hok hl)
theorem mg_iconst (hC : mg_Cx E p s m args meth c cc nL ret own) {n : Int} (v : Int32) (hdg : decode cc pc = .ok (.iconst n, 1)) (hv : Int32.ofInt n = v) (k : mg_G E p l e R s m args below meth c nL out F w sz cells slots (pc + 1) L (.int v :: st)) : mg_G E p l e R s m args below meth c nL out F w sz cells slots pc L st := fun o hf h1 h2 H locs ls hok hl => lv_iconst hC.1 hC.2.1 hdg hv (k o hf h1 h2 H locs ls hok hl)
theorem mg_bipush (hC : mg_Cx E p s m args meth c cc nL ret own) {n : Int} (v : Int32) (hdg : decode cc pc = .ok (.bipush n, 2)) (hv : (Int8.ofInt n).toInt32 = v) (k : mg_G E p l e R s m args below meth c nL out F w sz cells slots (pc + 2) L (.int v :: st)) : mg_G E p l e R s m args below meth c nL out F w sz cells slots pc L st := fun o hf h1 h2 H locs ls hok hl => lv_bipush hC.1 hC.2.1 hdg hv (k o hf h1 h2 H locs ls hok hl)
theorem mg_sipush (hC : mg_Cx E p s m args meth c cc nL ret own) {n : Int} (v : Int32) (hdg : decode cc pc = .ok (.sipush n, 3)) (hv : (Int16.ofInt n).toInt32 = v) (k : mg_G E p l e R s m args below meth c nL out F w sz cells slots (pc + 3) L (.int v :: st)) : mg_G E p l e R s m args below meth c nL out F w sz cells slots pc L st := fun o hf h1 h2 H locs ls hok hl => lv_sipush hC.1 hC.2.1 hdg hv (k o hf h1 h2 H locs ls hok hl)
theorem mg_lconst (hC : mg_Cx E p s m args meth c cc nL ret own) {n : Fin 2} (v : Int64) (hdg : decode cc pc = .ok (.lconst n, 1)) (hv : Int64.ofNat (n : Nat) = v) (k : mg_G E p l e R s m args below meth c nL out F w sz cells slots (pc + 1) L (.long v :: st)) : mg_G E p l e R s m args below meth c nL out F w sz cells slots pc L st := fun o hf h1 h2 H locs ls hok hl => lv_lconst hC.1 hC.2.1 hdg hv (k o hf h1 h2 H locs ls hok hl)
theorem mg_ldc2 (hC : mg_Cx E p s m args meth c cc nL ret own) {idx : Nat} (v : Int64) (hdg : decode cc pc = .ok (.ldc2_w idx, 3)) (hw : Cond.constantLong own idx v ∈ mg_ws) (k : mg_G E p l e R s m args below meth c nL out F w sz cells slots (pc + 3) L (.long v :: st)) : mg_G E p l e R s m args below meth c nL out F w sz cells slots pc L st := fun o hf h1 h2 H locs ls hok hl => lv_ldc2 hC.1 hC.2.1 hC.2.2.2.1 (hC.2.2.2.2.1 _ hw) hdg (k o hf h1 h2 H locs ls hok hl)
theorem mg_null (hC : mg_Cx E p s m args meth c cc nL ret own)  (hdg : decode cc pc = .ok (.aconst_null, 1)) (k : mg_G E p l e R s m args below meth c nL out F w sz cells slots (pc + 1) L (va_rf none :: st)) : mg_G E p l e R s m args below meth c nL out F w sz cells slots pc L st := fun o hf h1 h2 H locs ls hok hl => lv_null hC.1 hC.2.1 hdg (k o hf h1 h2 H locs ls hok hl)
theorem mg_dup (hC : mg_Cx E p s m args meth c cc nL ret own) {v : Value} (hdg : decode cc pc = .ok (.dup, 1)) (hv : v.category = 1) (k : mg_G E p l e R s m args below meth c nL out F w sz cells slots (pc + 1) L (v :: v :: st)) : mg_G E p l e R s m args below meth c nL out F w sz cells slots pc L (v :: st) := fun o hf h1 h2 H locs ls hok hl => lv_dup hC.1 hC.2.1 hdg hv (k o hf h1 h2 H locs ls hok hl)
theorem mg_pop (hC : mg_Cx E p s m args meth c cc nL ret own) {v : Value} (hdg : decode cc pc = .ok (.pop, 1)) (hv : v.category = 1) (k : mg_G E p l e R s m args below meth c nL out F w sz cells slots (pc + 1) L st) : mg_G E p l e R s m args below meth c nL out F w sz cells slots pc L (v :: st) := fun o hf h1 h2 H locs ls hok hl => lv_pop hC.1 hC.2.1 hdg hv (k o hf h1 h2 H locs ls hok hl)
theorem mg_dup2_11 (hC : mg_Cx E p s m args meth c cc nL ret own) {v u : Value} (hdg : decode cc pc = .ok (.dup2, 1)) (hv : v.category = 1) (hu : u.category = 1) (k : mg_G E p l e R s m args below meth c nL out F w sz cells slots (pc + 1) L (v :: u :: v :: u :: st)) : mg_G E p l e R s m args below meth c nL out F w sz cells slots pc L (v :: u :: st) := fun o hf h1 h2 H locs ls hok hl => lv_dup2_11 hC.1 hC.2.1 hdg hv hu (k o hf h1 h2 H locs ls hok hl)
theorem mg_iload_n (hC : mg_Cx E p s m args meth c cc nL ret own) {j : Fin 4} {x : Int32} (k0 : Nat) (hdg : decode cc pc = .ok (.iload_n j, 1)) (hv : L[k0]? = some ((j : Nat), .int x)) (k : mg_G E p l e R s m args below meth c nL out F w sz cells slots (pc + 1) L (.int x :: st)) : mg_G E p l e R s m args below meth c nL out F w sz cells slots pc L st := fun o hf h1 h2 H locs ls hok hl => lv_iload_n hC.1 hC.2.1 hdg rfl (lv_at hl k0 hv) (k o hf h1 h2 H locs ls hok hl)
theorem mg_iload (hC : mg_Cx E p s m args meth c cc nL ret own) {j : Nat} {x : Int32} (k0 : Nat) (hdg : decode cc pc = .ok (.iload j, 2)) (hv : L[k0]? = some (j, .int x)) (k : mg_G E p l e R s m args below meth c nL out F w sz cells slots (pc + 2) L (.int x :: st)) : mg_G E p l e R s m args below meth c nL out F w sz cells slots pc L st := fun o hf h1 h2 H locs ls hok hl => lv_iload hC.1 hC.2.1 hdg (lv_at hl k0 hv) (k o hf h1 h2 H locs ls hok hl)
theorem mg_lload_n (hC : mg_Cx E p s m args meth c cc nL ret own) {j : Fin 4} {x : Int64} (k0 : Nat) (hdg : decode cc pc = .ok (.lload_n j, 1)) (hv : L[k0]? = some ((j : Nat), .long x)) (k : mg_G E p l e R s m args below meth c nL out F w sz cells slots (pc + 1) L (.long x :: st)) : mg_G E p l e R s m args below meth c nL out F w sz cells slots pc L st := fun o hf h1 h2 H locs ls hok hl => lv_lload_n hC.1 hC.2.1 hdg rfl (lv_at hl k0 hv) (k o hf h1 h2 H locs ls hok hl)
theorem mg_lload (hC : mg_Cx E p s m args meth c cc nL ret own) {j : Nat} {x : Int64} (k0 : Nat) (hdg : decode cc pc = .ok (.lload j, 2)) (hv : L[k0]? = some (j, .long x)) (k : mg_G E p l e R s m args below meth c nL out F w sz cells slots (pc + 2) L (.long x :: st)) : mg_G E p l e R s m args below meth c nL out F w sz cells slots pc L st := fun o hf h1 h2 H locs ls hok hl => lv_lload hC.1 hC.2.1 hdg (lv_at hl k0 hv) (k o hf h1 h2 H locs ls hok hl)
theorem mg_aload_n (hC : mg_Cx E p s m args meth c cc nL ret own) {j : Fin 4} {x : Nat} (k0 : Nat) (hdg : decode cc pc = .ok (.aload_n j, 1)) (hv : L[k0]? = some ((j : Nat), .ref x)) (k : mg_G E p l e R s m args below meth c nL out F w sz cells slots (pc + 1) L (.ref x :: st)) : mg_G E p l e R s m args below meth c nL out F w sz cells slots pc L st := fun o hf h1 h2 H locs ls hok hl => lv_aload_n hC.1 hC.2.1 hdg rfl (lv_at hl k0 hv) (k o hf h1 h2 H locs ls hok hl)
theorem mg_aload (hC : mg_Cx E p s m args meth c cc nL ret own) {j : Nat} {x : Nat} (k0 : Nat) (hdg : decode cc pc = .ok (.aload j, 2)) (hv : L[k0]? = some (j, .ref x)) (k : mg_G E p l e R s m args below meth c nL out F w sz cells slots (pc + 2) L (.ref x :: st)) : mg_G E p l e R s m args below meth c nL out F w sz cells slots pc L st := fun o hf h1 h2 H locs ls hok hl => lv_aload hC.1 hC.2.1 hdg (lv_at hl k0 hv) (k o hf h1 h2 H locs ls hok hl)
theorem mg_aload_nQ (hC : mg_Cx E p s m args meth c cc nL ret own) {j : Fin 4} {r : Option Nat} (k0 : Nat) (hdg : decode cc pc = .ok (.aload_n j, 1)) (hv : L[k0]? = some ((j : Nat), va_rf r)) (k : mg_G E p l e R s m args below meth c nL out F w sz cells slots (pc + 1) L (va_rf r :: st)) : mg_G E p l e R s m args below meth c nL out F w sz cells slots pc L st := fun o hf h1 h2 H locs ls hok hl => by
  cases r with
  | none => exact lv_aload_nN hC.1 hC.2.1 hdg rfl (lv_at hl k0 hv) (k o hf h1 h2 H locs ls hok hl)
  | some a => exact lv_aload_n hC.1 hC.2.1 hdg rfl (lv_at hl k0 hv) (k o hf h1 h2 H locs ls hok hl)
theorem mg_aloadQ (hC : mg_Cx E p s m args meth c cc nL ret own) {j : Nat} {r : Option Nat} (k0 : Nat) (hdg : decode cc pc = .ok (.aload j, 2)) (hv : L[k0]? = some (j, va_rf r)) (k : mg_G E p l e R s m args below meth c nL out F w sz cells slots (pc + 2) L (va_rf r :: st)) : mg_G E p l e R s m args below meth c nL out F w sz cells slots pc L st := fun o hf h1 h2 H locs ls hok hl => by
  cases r with
  | none => exact lv_aloadN hC.1 hC.2.1 hdg (lv_at hl k0 hv) (k o hf h1 h2 H locs ls hok hl)
  | some a => exact lv_aload hC.1 hC.2.1 hdg (lv_at hl k0 hv) (k o hf h1 h2 H locs ls hok hl)
theorem mg_istore_n (hC : mg_Cx E p s m args meth c cc nL ret own) {j : Fin 4} {x : Int32} (L' : List (Nat × Value)) (hdg : decode cc pc = .ok (.istore_n j, 1)) (hn : (j : Nat) < nL) (hL : ((j : Nat), Value.int x) :: L.filter (fun q => !(q.1 == (j : Nat)) && !(q.1 + 1 == (j : Nat) && q.2.category == 2)) = L') (k : mg_G E p l e R s m args below meth c nL out F w sz cells slots (pc + 1) L' st) : mg_G E p l e R s m args below meth c nL out F w sz cells slots pc L (.int x :: st) := fun o hf h1 h2 H locs ls hok hl => lv_istore_n hC.1 hC.2.1 hdg rfl hl hn hL (fun ls' hl' => k o hf h1 h2 H locs ls' hok hl')
theorem mg_istore (hC : mg_Cx E p s m args meth c cc nL ret own) {j : Nat} {x : Int32} (L' : List (Nat × Value)) (hdg : decode cc pc = .ok (.istore j, 2)) (hn : j < nL) (hL : (j, Value.int x) :: L.filter (fun q => !(q.1 == j) && !(q.1 + 1 == j && q.2.category == 2)) = L') (k : mg_G E p l e R s m args below meth c nL out F w sz cells slots (pc + 2) L' st) : mg_G E p l e R s m args below meth c nL out F w sz cells slots pc L (.int x :: st) := fun o hf h1 h2 H locs ls hok hl => lv_istore hC.1 hC.2.1 hdg hl hn hL (fun ls' hl' => k o hf h1 h2 H locs ls' hok hl')
theorem mg_lstore_n (hC : mg_Cx E p s m args meth c cc nL ret own) {j : Fin 4} {x : Int64} (L' : List (Nat × Value)) (hdg : decode cc pc = .ok (.lstore_n j, 1)) (hn : (j : Nat) + 1 < nL) (hL : ((j : Nat), Value.long x) :: L.filter (fun q => !(q.1 == (j : Nat)) && (!(q.1 == (j : Nat) + 1) && !(q.1 + 1 == (j : Nat) && q.2.category == 2))) = L') (k : mg_G E p l e R s m args below meth c nL out F w sz cells slots (pc + 1) L' st) : mg_G E p l e R s m args below meth c nL out F w sz cells slots pc L (.long x :: st) := fun o hf h1 h2 H locs ls hok hl => lv_lstore_n hC.1 hC.2.1 hdg rfl hl hn hL (fun ls' hl' => k o hf h1 h2 H locs ls' hok hl')
theorem mg_lstore (hC : mg_Cx E p s m args meth c cc nL ret own) {j : Nat} {x : Int64} (L' : List (Nat × Value)) (hdg : decode cc pc = .ok (.lstore j, 2)) (hn : j + 1 < nL) (hL : (j, Value.long x) :: L.filter (fun q => !(q.1 == j) && (!(q.1 == j + 1) && !(q.1 + 1 == j && q.2.category == 2))) = L') (k : mg_G E p l e R s m args below meth c nL out F w sz cells slots (pc + 2) L' st) : mg_G E p l e R s m args below meth c nL out F w sz cells slots pc L (.long x :: st) := fun o hf h1 h2 H locs ls hok hl => lv_lstore hC.1 hC.2.1 hdg hl hn hL (fun ls' hl' => k o hf h1 h2 H locs ls' hok hl')
theorem mg_astore_n (hC : mg_Cx E p s m args meth c cc nL ret own) {j : Fin 4} {x : Nat} (L' : List (Nat × Value)) (hdg : decode cc pc = .ok (.astore_n j, 1)) (hn : (j : Nat) < nL) (hL : ((j : Nat), Value.ref x) :: L.filter (fun q => !(q.1 == (j : Nat)) && !(q.1 + 1 == (j : Nat) && q.2.category == 2)) = L') (k : mg_G E p l e R s m args below meth c nL out F w sz cells slots (pc + 1) L' st) : mg_G E p l e R s m args below meth c nL out F w sz cells slots pc L (.ref x :: st) := fun o hf h1 h2 H locs ls hok hl => lv_astore_n hC.1 hC.2.1 hdg rfl hl hn hL (fun ls' hl' => k o hf h1 h2 H locs ls' hok hl')
theorem mg_astore (hC : mg_Cx E p s m args meth c cc nL ret own) {j : Nat} {x : Nat} (L' : List (Nat × Value)) (hdg : decode cc pc = .ok (.astore j, 2)) (hn : j < nL) (hL : (j, Value.ref x) :: L.filter (fun q => !(q.1 == j) && !(q.1 + 1 == j && q.2.category == 2)) = L') (k : mg_G E p l e R s m args below meth c nL out F w sz cells slots (pc + 2) L' st) : mg_G E p l e R s m args below meth c nL out F w sz cells slots pc L (.ref x :: st) := fun o hf h1 h2 H locs ls hok hl => lv_astore hC.1 hC.2.1 hdg hl hn hL (fun ls' hl' => k o hf h1 h2 H locs ls' hok hl')
theorem mg_astore_nQ (hC : mg_Cx E p s m args meth c cc nL ret own) {j : Fin 4} {r : Option Nat} (L' : List (Nat × Value)) (hdg : decode cc pc = .ok (.astore_n j, 1)) (hn : (j : Nat) < nL) (hL : ((j : Nat), va_rf r) :: L.filter (fun q => !(q.1 == (j : Nat)) && !(q.1 + 1 == (j : Nat) && q.2.category == 2)) = L') (k : mg_G E p l e R s m args below meth c nL out F w sz cells slots (pc + 1) L' st) : mg_G E p l e R s m args below meth c nL out F w sz cells slots pc L (va_rf r :: st) := fun o hf h1 h2 H locs ls hok hl => by
  cases r with
  | none => exact lv_astore_nN hC.1 hC.2.1 hdg rfl hl hn hL (fun ls' hl' => k o hf h1 h2 H locs ls' hok hl')
  | some a => exact lv_astore_n hC.1 hC.2.1 hdg rfl hl hn hL (fun ls' hl' => k o hf h1 h2 H locs ls' hok hl')
theorem mg_astoreQ (hC : mg_Cx E p s m args meth c cc nL ret own) {j : Nat} {r : Option Nat} (L' : List (Nat × Value)) (hdg : decode cc pc = .ok (.astore j, 2)) (hn : j < nL) (hL : (j, va_rf r) :: L.filter (fun q => !(q.1 == j) && !(q.1 + 1 == j && q.2.category == 2)) = L') (k : mg_G E p l e R s m args below meth c nL out F w sz cells slots (pc + 2) L' st) : mg_G E p l e R s m args below meth c nL out F w sz cells slots pc L (va_rf r :: st) := fun o hf h1 h2 H locs ls hok hl => by
  cases r with
  | none => exact lv_astoreN hC.1 hC.2.1 hdg hl hn hL (fun ls' hl' => k o hf h1 h2 H locs ls' hok hl')
  | some a => exact lv_astore hC.1 hC.2.1 hdg hl hn hL (fun ls' hl' => k o hf h1 h2 H locs ls' hok hl')
theorem mg_iinc (hC : mg_Cx E p s m args meth c cc nL ret own) {j : Nat} {n : Int} {x : Int32} (k0 : Nat) (v : Int32) (L' : List (Nat × Value)) (hdg : decode cc pc = .ok (.iinc j n, 3)) (hk : L[k0]? = some (j, .int x)) (hv : x + Int32.ofInt n = v) (hn : j < nL) (hL : (j, Value.int v) :: L.filter (fun q => !(q.1 == j) && !(q.1 + 1 == j && q.2.category == 2)) = L') (k : mg_G E p l e R s m args below meth c nL out F w sz cells slots (pc + 3) L' st) : mg_G E p l e R s m args below meth c nL out F w sz cells slots pc L st := fun o hf h1 h2 H locs ls hok hl => lv_iinc hC.1 hC.2.1 hdg hl hk hv hn hL (fun ls' hl' => k o hf h1 h2 H locs ls' hok hl')
theorem mg_sub (ks : List Nat) {L' : List (Nat × Value)} (hL : lv_pick L ks = L') (k : mg_G E p l e R s m args below meth c nL out F w sz cells slots pc L' st) : mg_G E p l e R s m args below meth c nL out F w sz cells slots pc L st := fun o hf h1 h2 H locs ls hok hl => k o hf h1 h2 H locs ls hok (lv_sub hl ks hL)
theorem mg_goto (hC : mg_Cx E p s m args meth c cc nL ret own) {off : Int} (tgt : Nat) (hdg : decode cc pc = .ok (.goto off, 3)) (ht : (pc : Int) + off = (tgt : Int)) (k : mg_G E p l e R s m args below meth c nL out F w sz cells slots tgt L st) : mg_G E p l e R s m args below meth c nL out F w sz cells slots pc L st := fun o hf h1 h2 H locs ls hok hl => lv_goto hC.1 hC.2.1 hdg ht (k o hf h1 h2 H locs ls hok hl)
theorem mg_if_eq (hC : mg_Cx E p s m args meth c cc nL ret own) {x : Int32} {off : Int} (tgt : Nat) {A B : Option ρ} (hdg : decode cc pc = .ok (.ifCond .eq off, 3)) (ht : (pc : Int) + off = (tgt : Int)) (kt : x = 0 → mg_G E p l e R s m args below meth c nL out A w sz cells slots tgt L st) (kf : ¬ x = 0 → mg_G E p l e R s m args below meth c nL out B w sz cells slots (pc + 3) L st) : mg_G E p l e R s m args below meth c nL out (if x = 0 then A else B) w sz cells slots pc L (.int x :: st) := fun o hf h1 h2 H locs ls hok hl => lv_if_eq hC.1 hC.2.1 hdg ht (fun q => kt q o (by rw [if_pos q] at hf; exact hf) h1 h2 H locs ls hok hl) (fun q => kf q o (by rw [if_neg q] at hf; exact hf) h1 h2 H locs ls hok hl)
-- if_eq: x = 0 | ¬ x = 0
theorem mg_icmp_eq (hC : mg_Cx E p s m args meth c cc nL ret own) {x y : Int32} {off : Int} (tgt : Nat) {A B : Option ρ} (hdg : decode cc pc = .ok (.if_icmp .eq off, 3)) (ht : (pc : Int) + off = (tgt : Int)) (kt : x = y → mg_G E p l e R s m args below meth c nL out A w sz cells slots tgt L st) (kf : ¬ x = y → mg_G E p l e R s m args below meth c nL out B w sz cells slots (pc + 3) L st) : mg_G E p l e R s m args below meth c nL out (if x = y then A else B) w sz cells slots pc L (.int y :: .int x :: st) := fun o hf h1 h2 H locs ls hok hl => lv_icmp_eq hC.1 hC.2.1 hdg ht (fun q => kt q o (by rw [if_pos q] at hf; exact hf) h1 h2 H locs ls hok hl) (fun q => kf q o (by rw [if_neg q] at hf; exact hf) h1 h2 H locs ls hok hl)
-- icmp_eq: x = y | ¬ x = y
theorem mg_if_ne (hC : mg_Cx E p s m args meth c cc nL ret own) {x : Int32} {off : Int} (tgt : Nat) {A B : Option ρ} (hdg : decode cc pc = .ok (.ifCond .ne off, 3)) (ht : (pc : Int) + off = (tgt : Int)) (kt : x = 0 → mg_G E p l e R s m args below meth c nL out A w sz cells slots (pc + 3) L st) (kf : ¬ x = 0 → mg_G E p l e R s m args below meth c nL out B w sz cells slots tgt L st) : mg_G E p l e R s m args below meth c nL out (if x = 0 then A else B) w sz cells slots pc L (.int x :: st) := fun o hf h1 h2 H locs ls hok hl => lv_if_ne hC.1 hC.2.1 hdg ht (fun q => kf q o (by rw [if_neg q] at hf; exact hf) h1 h2 H locs ls hok hl) (fun q => kt q o (by rw [if_pos q] at hf; exact hf) h1 h2 H locs ls hok hl)
-- if_ne: ¬ x = 0 | x = 0
theorem mg_icmp_ne (hC : mg_Cx E p s m args meth c cc nL ret own) {x y : Int32} {off : Int} (tgt : Nat) {A B : Option ρ} (hdg : decode cc pc = .ok (.if_icmp .ne off, 3)) (ht : (pc : Int) + off = (tgt : Int)) (kt : x = y → mg_G E p l e R s m args below meth c nL out A w sz cells slots (pc + 3) L st) (kf : ¬ x = y → mg_G E p l e R s m args below meth c nL out B w sz cells slots tgt L st) : mg_G E p l e R s m args below meth c nL out (if x = y then A else B) w sz cells slots pc L (.int y :: .int x :: st) := fun o hf h1 h2 H locs ls hok hl => lv_icmp_ne hC.1 hC.2.1 hdg ht (fun q => kf q o (by rw [if_neg q] at hf; exact hf) h1 h2 H locs ls hok hl) (fun q => kt q o (by rw [if_pos q] at hf; exact hf) h1 h2 H locs ls hok hl)
-- icmp_ne: ¬ x = y | x = y
theorem mg_if_lt (hC : mg_Cx E p s m args meth c cc nL ret own) {x : Int32} {off : Int} (tgt : Nat) {A B : Option ρ} (hdg : decode cc pc = .ok (.ifCond .lt off, 3)) (ht : (pc : Int) + off = (tgt : Int)) (kt : x < 0 → mg_G E p l e R s m args below meth c nL out A w sz cells slots tgt L st) (kf : ¬ x < 0 → mg_G E p l e R s m args below meth c nL out B w sz cells slots (pc + 3) L st) : mg_G E p l e R s m args below meth c nL out (if x < 0 then A else B) w sz cells slots pc L (.int x :: st) := fun o hf h1 h2 H locs ls hok hl => lv_if_lt hC.1 hC.2.1 hdg ht (fun q => kt q o (by rw [if_pos q] at hf; exact hf) h1 h2 H locs ls hok hl) (fun q => kf q o (by rw [if_neg q] at hf; exact hf) h1 h2 H locs ls hok hl)
-- if_lt: x < 0 | ¬ x < 0
theorem mg_icmp_lt (hC : mg_Cx E p s m args meth c cc nL ret own) {x y : Int32} {off : Int} (tgt : Nat) {A B : Option ρ} (hdg : decode cc pc = .ok (.if_icmp .lt off, 3)) (ht : (pc : Int) + off = (tgt : Int)) (kt : x < y → mg_G E p l e R s m args below meth c nL out A w sz cells slots tgt L st) (kf : ¬ x < y → mg_G E p l e R s m args below meth c nL out B w sz cells slots (pc + 3) L st) : mg_G E p l e R s m args below meth c nL out (if x < y then A else B) w sz cells slots pc L (.int y :: .int x :: st) := fun o hf h1 h2 H locs ls hok hl => lv_icmp_lt hC.1 hC.2.1 hdg ht (fun q => kt q o (by rw [if_pos q] at hf; exact hf) h1 h2 H locs ls hok hl) (fun q => kf q o (by rw [if_neg q] at hf; exact hf) h1 h2 H locs ls hok hl)
-- icmp_lt: x < y | ¬ x < y
theorem mg_if_ge (hC : mg_Cx E p s m args meth c cc nL ret own) {x : Int32} {off : Int} (tgt : Nat) {A B : Option ρ} (hdg : decode cc pc = .ok (.ifCond .ge off, 3)) (ht : (pc : Int) + off = (tgt : Int)) (kt : 0 ≤ x → mg_G E p l e R s m args below meth c nL out A w sz cells slots tgt L st) (kf : ¬ 0 ≤ x → mg_G E p l e R s m args below meth c nL out B w sz cells slots (pc + 3) L st) : mg_G E p l e R s m args below meth c nL out (if 0 ≤ x then A else B) w sz cells slots pc L (.int x :: st) := fun o hf h1 h2 H locs ls hok hl => lv_if_ge hC.1 hC.2.1 hdg ht (fun q => kt q o (by rw [if_pos q] at hf; exact hf) h1 h2 H locs ls hok hl) (fun q => kf q o (by rw [if_neg q] at hf; exact hf) h1 h2 H locs ls hok hl)
-- if_ge: 0 ≤ x | ¬ 0 ≤ x
theorem mg_icmp_ge (hC : mg_Cx E p s m args meth c cc nL ret own) {x y : Int32} {off : Int} (tgt : Nat) {A B : Option ρ} (hdg : decode cc pc = .ok (.if_icmp .ge off, 3)) (ht : (pc : Int) + off = (tgt : Int)) (kt : y ≤ x → mg_G E p l e R s m args below meth c nL out A w sz cells slots tgt L st) (kf : ¬ y ≤ x → mg_G E p l e R s m args below meth c nL out B w sz cells slots (pc + 3) L st) : mg_G E p l e R s m args below meth c nL out (if y ≤ x then A else B) w sz cells slots pc L (.int y :: .int x :: st) := fun o hf h1 h2 H locs ls hok hl => lv_icmp_ge hC.1 hC.2.1 hdg ht (fun q => kt q o (by rw [if_pos q] at hf; exact hf) h1 h2 H locs ls hok hl) (fun q => kf q o (by rw [if_neg q] at hf; exact hf) h1 h2 H locs ls hok hl)
-- icmp_ge: y ≤ x | ¬ y ≤ x
theorem mg_if_gt (hC : mg_Cx E p s m args meth c cc nL ret own) {x : Int32} {off : Int} (tgt : Nat) {A B : Option ρ} (hdg : decode cc pc = .ok (.ifCond .gt off, 3)) (ht : (pc : Int) + off = (tgt : Int)) (kt : 0 < x → mg_G E p l e R s m args below meth c nL out A w sz cells slots tgt L st) (kf : ¬ 0 < x → mg_G E p l e R s m args below meth c nL out B w sz cells slots (pc + 3) L st) : mg_G E p l e R s m args below meth c nL out (if 0 < x then A else B) w sz cells slots pc L (.int x :: st) := fun o hf h1 h2 H locs ls hok hl => lv_if_gt hC.1 hC.2.1 hdg ht (fun q => kt q o (by rw [if_pos q] at hf; exact hf) h1 h2 H locs ls hok hl) (fun q => kf q o (by rw [if_neg q] at hf; exact hf) h1 h2 H locs ls hok hl)
-- if_gt: 0 < x | ¬ 0 < x
theorem mg_icmp_gt (hC : mg_Cx E p s m args meth c cc nL ret own) {x y : Int32} {off : Int} (tgt : Nat) {A B : Option ρ} (hdg : decode cc pc = .ok (.if_icmp .gt off, 3)) (ht : (pc : Int) + off = (tgt : Int)) (kt : y < x → mg_G E p l e R s m args below meth c nL out A w sz cells slots tgt L st) (kf : ¬ y < x → mg_G E p l e R s m args below meth c nL out B w sz cells slots (pc + 3) L st) : mg_G E p l e R s m args below meth c nL out (if y < x then A else B) w sz cells slots pc L (.int y :: .int x :: st) := fun o hf h1 h2 H locs ls hok hl => lv_icmp_gt hC.1 hC.2.1 hdg ht (fun q => kt q o (by rw [if_pos q] at hf; exact hf) h1 h2 H locs ls hok hl) (fun q => kf q o (by rw [if_neg q] at hf; exact hf) h1 h2 H locs ls hok hl)
-- icmp_gt: y < x | ¬ y < x
theorem mg_if_le (hC : mg_Cx E p s m args meth c cc nL ret own) {x : Int32} {off : Int} (tgt : Nat) {A B : Option ρ} (hdg : decode cc pc = .ok (.ifCond .le off, 3)) (ht : (pc : Int) + off = (tgt : Int)) (kt : x ≤ 0 → mg_G E p l e R s m args below meth c nL out A w sz cells slots tgt L st) (kf : ¬ x ≤ 0 → mg_G E p l e R s m args below meth c nL out B w sz cells slots (pc + 3) L st) : mg_G E p l e R s m args below meth c nL out (if x ≤ 0 then A else B) w sz cells slots pc L (.int x :: st) := fun o hf h1 h2 H locs ls hok hl => lv_if_le hC.1 hC.2.1 hdg ht (fun q => kt q o (by rw [if_pos q] at hf; exact hf) h1 h2 H locs ls hok hl) (fun q => kf q o (by rw [if_neg q] at hf; exact hf) h1 h2 H locs ls hok hl)
-- if_le: x ≤ 0 | ¬ x ≤ 0
theorem mg_icmp_le (hC : mg_Cx E p s m args meth c cc nL ret own) {x y : Int32} {off : Int} (tgt : Nat) {A B : Option ρ} (hdg : decode cc pc = .ok (.if_icmp .le off, 3)) (ht : (pc : Int) + off = (tgt : Int)) (kt : x ≤ y → mg_G E p l e R s m args below meth c nL out A w sz cells slots tgt L st) (kf : ¬ x ≤ y → mg_G E p l e R s m args below meth c nL out B w sz cells slots (pc + 3) L st) : mg_G E p l e R s m args below meth c nL out (if x ≤ y then A else B) w sz cells slots pc L (.int y :: .int x :: st) := fun o hf h1 h2 H locs ls hok hl => lv_icmp_le hC.1 hC.2.1 hdg ht (fun q => kt q o (by rw [if_pos q] at hf; exact hf) h1 h2 H locs ls hok hl) (fun q => kf q o (by rw [if_neg q] at hf; exact hf) h1 h2 H locs ls hok hl)
-- icmp_le: x ≤ y | ¬ x ≤ y
theorem mg_ifnull (hC : mg_Cx E p s m args meth c cc nL ret own) {r : Option Nat} {off : Int} (tgt : Nat) {A : Option ρ} {K : Nat → Option ρ} (hdg : decode cc pc = .ok (.ifnull off, 3)) (ht : (pc : Int) + off = (tgt : Int)) (k0 : r = none → mg_G E p l e R s m args below meth c nL out A w sz cells slots tgt L st) (k1 : ∀ a : Nat, r = some a → mg_G E p l e R s m args below meth c nL out (K a) w sz cells slots (pc + 3) L st) : mg_G E p l e R s m args below meth c nL out (mg_if0 r A K) w sz cells slots pc L (va_rf r :: st) := fun o hf h1 h2 H locs ls hok hl => by
  cases r with
  | none => exact lv_ifnullN hC.1 hC.2.1 hdg ht (k0 rfl o hf h1 h2 H locs ls hok hl)
  | some a => exact lv_ifnull hC.1 hC.2.1 hdg (k1 a rfl o hf h1 h2 H locs ls hok hl)
theorem mg_ifnonnull (hC : mg_Cx E p s m args meth c cc nL ret own) {r : Option Nat} {off : Int} (tgt : Nat) {A : Option ρ} {K : Nat → Option ρ} (hdg : decode cc pc = .ok (.ifnonnull off, 3)) (ht : (pc : Int) + off = (tgt : Int)) (k0 : r = none → mg_G E p l e R s m args below meth c nL out A w sz cells slots (pc + 3) L st) (k1 : ∀ a : Nat, r = some a → mg_G E p l e R s m args below meth c nL out (K a) w sz cells slots tgt L st) : mg_G E p l e R s m args below meth c nL out (mg_if0 r A K) w sz cells slots pc L (va_rf r :: st) := fun o hf h1 h2 H locs ls hok hl => by
  cases r with
  | none => exact lv_ifnonnullN hC.1 hC.2.1 hdg (k0 rfl o hf h1 h2 H locs ls hok hl)
  | some a => exact lv_ifnonnull hC.1 hC.2.1 hdg ht (k1 a rfl o hf h1 h2 H locs ls hok hl)
theorem mg_deref {r : Option Nat} {K : Nat → Option ρ} (k1 : ∀ a : Nat, r = some a → mg_G E p l e R s m args below meth c nL out (K a) w sz cells slots pc L st) : mg_G E p l e R s m args below meth c nL out (mg_nn r K) w sz cells slots pc L st := fun o hf h1 h2 H locs ls hok hl => by
  cases r with
  | none => cases hf
  | some a => exact k1 a rfl o hf h1 h2 H locs ls hok hl
theorem mg_idiv (hC : mg_Cx E p s m args meth c cc nL ret own) {x y : Int32} (hdg : decode cc pc = .ok (.idiv, 1)) (k : mg_G E p l e R s m args below meth c nL out F w sz cells slots (pc + 1) L (.int (x / y) :: st)) : mg_G E p l e R s m args below meth c nL out (if y = 0 then none else F) w sz cells slots pc L (.int y :: .int x :: st) := fun o hf h1 h2 H locs ls hok hl => by
  by_cases q : y = 0
  · rw [if_pos q] at hf; cases hf
  · rw [if_neg q] at hf; exact lv_idiv hC.1 hC.2.1 hdg q (k o hf h1 h2 H locs ls hok hl)
theorem mg_irem (hC : mg_Cx E p s m args meth c cc nL ret own) {x y : Int32} (hdg : decode cc pc = .ok (.irem, 1)) (k : mg_G E p l e R s m args below meth c nL out F w sz cells slots (pc + 1) L (.int (x - x / y * y) :: st)) : mg_G E p l e R s m args below meth c nL out (if y = 0 then none else F) w sz cells slots pc L (.int y :: .int x :: st) := fun o hf h1 h2 H locs ls hok hl => by
  by_cases q : y = 0
  · rw [if_pos q] at hf; cases hf
  · rw [if_neg q] at hf; exact lv_irem hC.1 hC.2.1 hdg q (k o hf h1 h2 H locs ls hok hl)
theorem mg_ldiv (hC : mg_Cx E p s m args meth c cc nL ret own) {x y : Int64} (hdg : decode cc pc = .ok (.ldiv, 1)) (k : mg_G E p l e R s m args below meth c nL out F w sz cells slots (pc + 1) L (.long (x / y) :: st)) : mg_G E p l e R s m args below meth c nL out (if y = 0 then none else F) w sz cells slots pc L (.long y :: .long x :: st) := fun o hf h1 h2 H locs ls hok hl => by
  by_cases q : y = 0
  · rw [if_pos q] at hf; cases hf
  · rw [if_neg q] at hf; exact lv_ldiv hC.1 hC.2.1 hdg q (k o hf h1 h2 H locs ls hok hl)
theorem mg_lrem (hC : mg_Cx E p s m args meth c cc nL ret own) {x y : Int64} (hdg : decode cc pc = .ok (.lrem, 1)) (k : mg_G E p l e R s m args below meth c nL out F w sz cells slots (pc + 1) L (.long (x - x / y * y) :: st)) : mg_G E p l e R s m args below meth c nL out (if y = 0 then none else F) w sz cells slots pc L (.long y :: .long x :: st) := fun o hf h1 h2 H locs ls hok hl => by
  by_cases q : y = 0
  · rw [if_pos q] at hf; cases hf
  · rw [if_neg q] at hf; exact lv_lrem hC.1 hC.2.1 hdg q (k o hf h1 h2 H locs ls hok hl)
theorem mg_mmax (hC : mg_Cx E p s m args meth c cc nL ret own) {x y : Int32} {idx : Nat} (hdg : decode cc pc = .ok (.invokestatic idx, 3)) (hl1 : Cond.methodLink own idx Lib.Math.max.name ∈ mg_ws) (hl2 : Cond.static Lib.Math.max.name ∈ mg_ws) (hl3 : Cond.initialized "java/lang/Math" ∈ mg_ws) (hl4 : Cond.code Lib.Math.max.name Lib.Math.max.code 2 (some .int) ∈ mg_ws) (hfr : 1 ≤ R.frames) (hlo : (st.map fun v => v.category).sum + 13 ≤ R.locals) (k : mg_G E p l e R s m args below meth c nL out F w sz cells slots (pc + 3) L (.int (if x < y then y else x) :: st)) : mg_G E p l e R s m args below meth c nL out F w sz cells slots pc L (.int y :: .int x :: st) := fun o hf h1 h2 H locs ls hok hl => va_mmax hC.1 hC.2.1 (hC.2.2.1.trans hl.1.symm) hC.2.2.2.1 (hC.2.2.2.2.1 _ hl1) (hC.2.2.2.2.1 _ hl2) (hC.2.2.2.2.1 _ hl3) (hC.2.2.2.2.1 _ hl4) hfr hlo (by omega) (by omega) hdg (k o hf h1 h2 H locs ls hok hl)
theorem mg_mmin (hC : mg_Cx E p s m args meth c cc nL ret own) {x y : Int32} {idx : Nat} (hdg : decode cc pc = .ok (.invokestatic idx, 3)) (hl1 : Cond.methodLink own idx Lib.Math.min.name ∈ mg_ws) (hl2 : Cond.static Lib.Math.min.name ∈ mg_ws) (hl3 : Cond.initialized "java/lang/Math" ∈ mg_ws) (hl4 : Cond.code Lib.Math.min.name Lib.Math.min.code 2 (some .int) ∈ mg_ws) (hfr : 1 ≤ R.frames) (hlo : (st.map fun v => v.category).sum + 13 ≤ R.locals) (k : mg_G E p l e R s m args below meth c nL out F w sz cells slots (pc + 3) L (.int (if y < x then y else x) :: st)) : mg_G E p l e R s m args below meth c nL out F w sz cells slots pc L (.int y :: .int x :: st) := fun o hf h1 h2 H locs ls hok hl => va_mmin hC.1 hC.2.1 (hC.2.2.1.trans hl.1.symm) hC.2.2.2.1 (hC.2.2.2.2.1 _ hl1) (hC.2.2.2.2.1 _ hl2) (hC.2.2.2.2.1 _ hl3) (hC.2.2.2.2.1 _ hl4) hfr hlo (by omega) (by omega) hdg (k o hf h1 h2 H locs ls hok hl)
theorem mg_tswD (hC : mg_Cx E p s m args meth c cc nL ret own) {dflt lo hi : Int} {offs : Array Int} {len : Nat} {x : Int32} (tgt : Nat) (hdg : decode cc pc = .ok (.tableswitch dflt lo hi offs, len)) (h : x.toInt < lo ∨ hi < x.toInt) (ht : (pc : Int) + dflt = (tgt : Int)) (k : mg_G E p l e R s m args below meth c nL out F w sz cells slots tgt L st) : mg_G E p l e R s m args below meth c nL out F w sz cells slots pc L (.int x :: st) := fun o hf h1 h2 H locs ls hok hl => lv_tableOut hC.1 hC.2.1 hdg h ht (k o hf h1 h2 H locs ls hok hl)
theorem mg_tswC (hC : mg_Cx E p s m args meth c cc nL ret own) {dflt lo hi : Int} {offs : Array Int} {len : Nat} {x : Int32} {off : Int} (tgt : Nat) (hdg : decode cc pc = .ok (.tableswitch dflt lo hi offs, len)) (ha : ¬ x.toInt < lo) (hb : ¬ hi < x.toInt) (ho : offs[(x.toInt - lo).toNat]? = some off) (ht : (pc : Int) + off = (tgt : Int)) (k : mg_G E p l e R s m args below meth c nL out F w sz cells slots tgt L st) : mg_G E p l e R s m args below meth c nL out F w sz cells slots pc L (.int x :: st) := fun o hf h1 h2 H locs ls hok hl => lv_tableIn hC.1 hC.2.1 hdg ha hb ho ht (k o hf h1 h2 H locs ls hok hl)
theorem mg_ite {cd : Prop} [Decidable cd] {A B : Option ρ} (kt : cd → mg_G E p l e R s m args below meth c nL out A w sz cells slots pc L st) (kf : ¬ cd → mg_G E p l e R s m args below meth c nL out B w sz cells slots pc L st) : mg_G E p l e R s m args below meth c nL out (if cd then A else B) w sz cells slots pc L st := fun o hf h1 h2 H locs ls hok hl => by
  by_cases q : cd
  · rw [if_pos q] at hf; exact kt q o hf h1 h2 H locs ls hok hl
  · rw [if_neg q] at hf; exact kf q o hf h1 h2 H locs ls hok hl
end MGR
end
section
section MGH
variable {ρ : Type} {E : mg_P} {p : Program} {l : Launch} {e : Env} {R : Room} {s : State} {m : MethodId} {args : Array Value} {below : List Frame} {meth : Method} {c : Code} {cc : ByteArray} {nL : Nat} {ret : Option FieldType} {own : String} {out : ρ → mg_R} {F : Option ρ} {w : mg_H} {sz cells slots pc : Nat} {L : List (Nat × Value)} {st : List Value}
theorem mg_P1 {w : mg_H} {H : Heap} {a : Nat} {x : mg_E} (h : mg_Hd E w H) (ha : w a = some x) : va_P E.1 vwCl [(a, mg_to E.2.1 x)] H := by
  intro k q hk
  match k, hk with
  | 0, hk => cases hk; exact (h a x ha).1
  | k + 1, hk => simp at hk
theorem mg_getI (hC : mg_Cx E p s m args meth c cc nL ret own) {C : String} {T : u_T} {N ci k idx a : Nat} (hin : ∀ x ∈ u_ws C T N, x ∈ mg_ws) (hc : vwCl[ci]? = some (C, T, N)) (hk : k < N) (hlink : Cond.fieldLink own idx (T k).1 (T k).2.1 (T k).2.2.1 ∈ mg_ws) (hdg : decode cc pc = .ok (.getfield idx, 3)) {K : Int32 → Option ρ}
    (kk : ∀ v : Int32, mg_gI w ci a k = some v → mg_G E p l e R s m args below meth c nL out (K v) w sz cells slots (pc + 3) L (.int v :: st)) : mg_G E p l e R s m args below meth c nL out ((mg_gI w ci a k).bind K) w sz cells slots pc L (.ref a :: st) := fun o hf h1 h2 H locs ls hok hl => by
  obtain ⟨v, hv, hf⟩ := Option.bind_eq_some_iff.mp hf
  obtain ⟨fs, ha, hfs⟩ := mg_gI_some hv
  exact va_get (D := E.1) (cl := vwCl) hC.1 hC.2.1 hC.2.2.2.2.1 hin hC.2.2.2.1 hC.2.2.2.2.2.1.1 (mg_P1 hok.2.1 ha) 0 rfl hc k hk (hC.2.2.2.2.1 _ hlink) (fun _ h => h) hfs hdg (kk v hv o hf h1 h2 H locs ls hok hl)
theorem mg_getQ (hC : mg_Cx E p s m args meth c cc nL ret own) {C : String} {T : u_T} {N ci k idx a : Nat} (hin : ∀ x ∈ u_ws C T N, x ∈ mg_ws) (hc : vwCl[ci]? = some (C, T, N)) (hk : k < N) (hlink : Cond.fieldLink own idx (T k).1 (T k).2.1 (T k).2.2.1 ∈ mg_ws) (hdg : decode cc pc = .ok (.getfield idx, 3)) {K : Option Nat → Option ρ}
    (kk : ∀ v : Option Nat, mg_gQ w ci a k = some v → mg_G E p l e R s m args below meth c nL out (K v) w sz cells slots (pc + 3) L (va_rf v :: st)) : mg_G E p l e R s m args below meth c nL out ((mg_gQ w ci a k).bind K) w sz cells slots pc L (.ref a :: st) := fun o hf h1 h2 H locs ls hok hl => by
  obtain ⟨v, hv, hf⟩ := Option.bind_eq_some_iff.mp hf
  obtain ⟨fs, ha, hfs⟩ := mg_gQ_some hv
  exact va_get (D := E.1) (cl := vwCl) hC.1 hC.2.1 hC.2.2.2.2.1 hin hC.2.2.2.1 hC.2.2.2.2.2.1.1 (mg_P1 hok.2.1 ha) 0 rfl hc k hk (hC.2.2.2.2.1 _ hlink) (fun _ h => h) hfs hdg (kk v hv o hf h1 h2 H locs ls hok hl)
/-- a reference that isn't null is read -/
theorem mg_getN (hC : mg_Cx E p s m args meth c cc nL ret own) {C : String} {T : u_T} {N ci k idx a : Nat} (hin : ∀ x ∈ u_ws C T N, x ∈ mg_ws) (hc : vwCl[ci]? = some (C, T, N)) (hk : k < N) (hlink : Cond.fieldLink own idx (T k).1 (T k).2.1 (T k).2.2.1 ∈ mg_ws) (hdg : decode cc pc = .ok (.getfield idx, 3)) {K : Nat → Option ρ}
    (kk : ∀ v : Nat, mg_gQ w ci a k = some (some v) → mg_G E p l e R s m args below meth c nL out (K v) w sz cells slots (pc + 3) L (.ref v :: st)) : mg_G E p l e R s m args below meth c nL out ((mg_gQ w ci a k).bind fun r => mg_nn r K) w sz cells slots pc L (.ref a :: st) :=
  mg_getQ hC hin hc hk hlink hdg (fun v hv => mg_deref (fun b hb => by subst hb; exact kk b hv))
theorem mg_putW (hC : mg_Cx E p s m args meth c cc nL ret own) {C : String} {T : u_T} {N ci k idx a : Nat} (hin : ∀ x ∈ u_ws C T N, x ∈ mg_ws) (hc : vwCl[ci]? = some (C, T, N)) (hk : k < N) (ty0 : Nat → FieldType) (hty : ∀ k, k < N → parseFieldDescriptor (T k).2.2.1 = some (ty0 k)) (hnm : ∀ a, a < N → ∀ b, b < N → a ≠ b → (T a).2.1 ≠ (T b).2.1) (hlink : Cond.fieldLink own idx (T k).1 (T k).2.1 (T k).2.2.1 ∈ mg_ws) (hdg : decode cc pc = .ok (.putfield idx, 3)) {v : Value} (hfin : (T k).2.2.2 = false ∨ ((T k).2.2.2 = true ∧ meth.name = "<init>" ∧ (T k).1 = own)) (hn : narrow (ty0 k) v = v) (hfit : fits (ty0 k) v = true) {fs : List Value} (ha : w a = some (.inl (ci, fs))) (hlf : k < fs.length) {Q : State → Prop}
    {H : Heap} {locs : List Loc} {ls : Array Slot} (hok : mg_Ok E w sz s H locs)
    (kk : ∀ (H1 : Heap) (locs1 : List Loc), mg_Ok E (mg_set w a (.inl (ci, fs.set k v))) sz s H1 locs1 → W p l e R s m args below meth c H1 locs1 cells slots Q (F0 m (pc + 3) ls st)) : W p l e R s m args below meth c H locs cells slots Q (F0 m pc ls (v :: .ref a :: st)) := by
  have hts := hC.2.2.2.2.1
  have hK := hC.2.2.2.2.2.1.1
  have hown := hC.2.2.2.1
  have hap := va_apart (own := own) hts hin ty0 hty hnm hK hc
  obtain ⟨r, h1, cell, q1, q2, q3, q4⟩ := (hok.2.1 a _ ha).1
  have hr : r = (C, T, N) := Option.some.inj (h1.symm.trans hc)
  subst hr
  obtain ⟨hS, hfc, kC, hkC, hkind⟩ := hK.1 ci _ hc
  obtain ⟨cf, kf, fi, f, hi, hsl⟩ := hS k hk
  have hlay := hts _ (hin _ (u_in_lay hk))
  have hst := (u_facts hfc hkC (u_lays hts hin hk) hi).1
  have last : ∀ H' : Heap, H'[a]? = some (cell.setSlot (E.1.2 ci k) v) → H'.size = H.size → (∀ q : Nat, q ≠ a → H'[q]? = H[q]?) → mg_Ok E (mg_set w a (.inl (ci, fs.set k v))) sz s H' (locs ++ [⟨a, E.1.2 ci k⟩]) := fun H' e1 e2 e3 =>
    hok.put ha e2 e3 ⟨_, hc, t_OB.to (V := updV (vp_V fs) k v) ⟨_, e1, q2, q3, t_set q4 hap hk v⟩ (fun j _ => vp_updV_set hlf v j)⟩
  rcases hfin with hfin | ⟨hfin, hin2, hdecl⟩
  · unfold u_lay at hlay
    rw [if_neg (by rw [hfin]; decide)] at hlay
    have h6 := u_store hfc hkC hkind hlay hi (hty k hk) hn hfit
    refine W.putK hC.1 hC.2.1 (f := f) ⟨hown, hts _ hlink, ⟨_, _, _, hi⟩, hst⟩ (by rw [q2]; exact h6) q1 q3 (by rw [hsl]; exact k2_hasslot (q4 k hk)) rfl rfl hdg fun H' e1 e2 e3 => ?_
    rw [hsl] at e1 ⊢
    exact kk H' _ (last H' e1 e2 e3)
  · unfold u_lay at hlay
    rw [if_pos hfin] at hlay
    have hcf : m.cls = cf := by
      obtain ⟨_, _, c', _, _, _, -, -, hf', -, -, -, hown2, -⟩ := Cond.laysFinal_spec hlay
      have e1 : c' = cf := by have := hi.symm.trans hf'; simp at this; exact this.1.symm
      rw [hdecl] at hown2
      rw [← e1]; exact Option.some.inj (hown.symm.trans hown2)
    have h6 := u_fits hfc hkC hkind (Or.inr hlay) hi (hty k hk) hn hfit
    refine W.putFinK hC.1 hC.2.1 hown (hts _ hlink) hi hst hcf hin2 (by rw [q2]; exact h6) q1 q3 (by rw [hsl]; exact k2_hasslot (q4 k hk)) rfl rfl hdg fun H' e1 e2 e3 => ?_
    rw [hsl] at e1 ⊢
    exact kk H' _ (last H' e1 e2 e3)
theorem mg_putI (hC : mg_Cx E p s m args meth c cc nL ret own) {C : String} {T : u_T} {N ci k idx a : Nat} (hin : ∀ x ∈ u_ws C T N, x ∈ mg_ws) (hc : vwCl[ci]? = some (C, T, N)) (hk : k < N) (ty0 : Nat → FieldType) (hty : ∀ k, k < N → parseFieldDescriptor (T k).2.2.1 = some (ty0 k)) (hnm : ∀ a, a < N → ∀ b, b < N → a ≠ b → (T a).2.1 ≠ (T b).2.1) (hlink : Cond.fieldLink own idx (T k).1 (T k).2.1 (T k).2.2.1 ∈ mg_ws) (hdg : decode cc pc = .ok (.putfield idx, 3)) {v : Int32} (hfin : (T k).2.2.2 = false ∨ ((T k).2.2.2 = true ∧ meth.name = "<init>" ∧ (T k).1 = own)) (ht : ty0 k = .int) {K : mg_H → Option ρ}
    (kk : ∀ w2 : mg_H, mg_pI w ci a k v = some w2 → mg_G E p l e R s m args below meth c nL out (K w2) w2 sz cells slots (pc + 3) L st) : mg_G E p l e R s m args below meth c nL out ((mg_pI w ci a k v).bind K) w sz cells slots pc L (.int v :: .ref a :: st) := fun o hf h1 h2 H locs ls hok hl => by
  obtain ⟨w2, hv, hf⟩ := Option.bind_eq_some_iff.mp hf
  obtain ⟨fs, ha, hfs⟩ := Option.bind_eq_some_iff.mp hv
  by_cases hlf : k < fs.length
  · rw [if_pos hlf] at hfs
    cases hfs
    exact mg_putW hC hin hc hk ty0 hty hnm hlink hdg hfin (by rw [ht]; rfl) (by rw [ht]; rfl) (mg_obj_some ha) hlf hok (fun H1 locs1 hok1 => kk _ hv o hf h1 h2 H1 locs1 ls hok1 hl)
  · rw [if_neg hlf] at hfs; cases hfs
theorem mg_putQ (hC : mg_Cx E p s m args meth c cc nL ret own) {C : String} {T : u_T} {N ci k idx a : Nat} (hin : ∀ x ∈ u_ws C T N, x ∈ mg_ws) (hc : vwCl[ci]? = some (C, T, N)) (hk : k < N) (ty0 : Nat → FieldType) (hty : ∀ k, k < N → parseFieldDescriptor (T k).2.2.1 = some (ty0 k)) (hnm : ∀ a, a < N → ∀ b, b < N → a ≠ b → (T a).2.1 ≠ (T b).2.1) (hlink : Cond.fieldLink own idx (T k).1 (T k).2.1 (T k).2.2.1 ∈ mg_ws) (hdg : decode cc pc = .ok (.putfield idx, 3)) {v : Option Nat} (hfin : (T k).2.2.2 = false ∨ ((T k).2.2.2 = true ∧ meth.name = "<init>" ∧ (T k).1 = own)) (hn : ∀ z, narrow (ty0 k) (va_rf z) = va_rf z) (hfit : ∀ z, fits (ty0 k) (va_rf z) = true) {K : mg_H → Option ρ}
    (kk : ∀ w2 : mg_H, mg_pQ w ci a k v = some w2 → mg_G E p l e R s m args below meth c nL out (K w2) w2 sz cells slots (pc + 3) L st) : mg_G E p l e R s m args below meth c nL out ((mg_pQ w ci a k v).bind K) w sz cells slots pc L (va_rf v :: .ref a :: st) := fun o hf h1 h2 H locs ls hok hl => by
  obtain ⟨w2, hv, hf⟩ := Option.bind_eq_some_iff.mp hf
  obtain ⟨fs, ha, hfs⟩ := Option.bind_eq_some_iff.mp hv
  by_cases hlf : k < fs.length
  · rw [if_pos hlf] at hfs
    cases hfs
    exact mg_putW hC hin hc hk ty0 hty hnm hlink hdg hfin (hn v) (hfit v) (mg_obj_some ha) hlf hok (fun H1 locs1 hok1 => kk _ hv o hf h1 h2 H1 locs1 ls hok1 hl)
  · rw [if_neg hlf] at hfs; cases hfs
theorem mg_ldx {α β : Type} {x : Option (Nat × (Nat → α))} {i : Int32} {v : α} (h : (x.bind fun x => (mg_ix i x.1).map x.2) = some v) : ∃ y, x = some y ∧ vp_in i y.1 ∧ v = y.2 i.toNatClampNeg := by
  obtain ⟨y, h1, h2⟩ := Option.bind_eq_some_iff.mp h
  obtain ⟨k, h3, h4⟩ := Option.map_eq_some_iff.mp h2
  obtain ⟨h5, h6⟩ := mg_ix_some h3
  exact ⟨y, h1, h5, by rw [← h4, h6]⟩
theorem mg_iald (hC : mg_Cx E p s m args meth c cc nL ret own) {a : Nat} {i : Int32} (hdg : decode cc pc = .ok (.iaload, 1)) {K : Int32 → Option ρ}
    (kk : ∀ v : Int32, mg_ldI w 0 a i = some v → mg_G E p l e R s m args below meth c nL out (K v) w sz cells slots (pc + 1) L (.int v :: st)) : mg_G E p l e R s m args below meth c nL out ((mg_ldI w 0 a i).bind K) w sz cells slots pc L (.int i :: .ref a :: st) := fun o hf h1 h2 H locs ls hok hl => by
  obtain ⟨v, hv, hf⟩ := Option.bind_eq_some_iff.mp hf
  obtain ⟨y, ha, hi, rfl⟩ := mg_ldx (β := Nat) hv
  exact va_iald (D := E.1) (cl := vwCl) hC.1 hC.2.1 hC.2.2.2.2.2.1.1 (mg_P1 hok.2.1 (mg_arI_some ha)) 0 0 rfl rfl hi hdg (kk _ hv o hf h1 h2 H locs ls hok hl)
theorem mg_zald (hC : mg_Cx E p s m args meth c cc nL ret own) {a : Nat} {i : Int32} (hdg : decode cc pc = .ok (.baload, 1)) {K : Int32 → Option ρ}
    (kk : ∀ v : Int32, mg_ldI w 1 a i = some v → mg_G E p l e R s m args below meth c nL out (K v) w sz cells slots (pc + 1) L (.int v :: st)) : mg_G E p l e R s m args below meth c nL out ((mg_ldI w 1 a i).bind K) w sz cells slots pc L (.int i :: .ref a :: st) := fun o hf h1 h2 H locs ls hok hl => by
  obtain ⟨v, hv, hf⟩ := Option.bind_eq_some_iff.mp hf
  obtain ⟨y, ha, hi, rfl⟩ := mg_ldx (β := Nat) hv
  exact va_zald (D := E.1) (cl := vwCl) hC.1 hC.2.1 hC.2.2.2.2.2.1.1 (mg_P1 hok.2.1 (mg_arI_some ha)) 0 1 rfl rfl hi hdg (kk _ hv o hf h1 h2 H locs ls hok hl)
theorem mg_lald (hC : mg_Cx E p s m args meth c cc nL ret own) {a : Nat} {i : Int32} (hdg : decode cc pc = .ok (.laload, 1)) {K : Int64 → Option ρ}
    (kk : ∀ v : Int64, mg_ldL w a i = some v → mg_G E p l e R s m args below meth c nL out (K v) w sz cells slots (pc + 1) L (.long v :: st)) : mg_G E p l e R s m args below meth c nL out ((mg_ldL w a i).bind K) w sz cells slots pc L (.int i :: .ref a :: st) := fun o hf h1 h2 H locs ls hok hl => by
  obtain ⟨v, hv, hf⟩ := Option.bind_eq_some_iff.mp hf
  obtain ⟨y, ha, hi, rfl⟩ := mg_ldx (β := Nat) hv
  exact va_lald (D := E.1) (cl := vwCl) hC.1 hC.2.1 hC.2.2.2.2.2.1.1 (mg_P1 hok.2.1 (mg_arL_some ha)) 0 2 rfl rfl hi hdg (kk _ hv o hf h1 h2 H locs ls hok hl)
theorem mg_aald (hC : mg_Cx E p s m args meth c cc nL ret own) {kd : Nat} {C : String} (ht : (mg_tys E.2.1)[kd]? = some (E.2.1 kd, .object C)) {a : Nat} {i : Int32} (hdg : decode cc pc = .ok (.aaload, 1)) {K : Option Nat → Option ρ}
    (kk : ∀ v : Option Nat, mg_ldQ w kd a i = some v → mg_G E p l e R s m args below meth c nL out (K v) w sz cells slots (pc + 1) L (va_rf v :: st)) : mg_G E p l e R s m args below meth c nL out ((mg_ldQ w kd a i).bind K) w sz cells slots pc L (.int i :: .ref a :: st) := fun o hf h1 h2 H locs ls hok hl => by
  obtain ⟨v, hv, hf⟩ := Option.bind_eq_some_iff.mp hf
  obtain ⟨y, ha, hi, rfl⟩ := mg_ldx (β := Nat) hv
  exact va_aldq (D := E.1) (cl := vwCl) hC.1 hC.2.1 hC.2.2.2.2.2.1.1 (mg_P1 hok.2.1 (mg_arQ_some ha)) 0 kd rfl ht hi hdg (kk _ hv o hf h1 h2 H locs ls hok hl)
theorem mg_alen (hC : mg_Cx E p s m args meth c cc nL ret own) {a : Nat} (hdg : decode cc pc = .ok (.arraylength, 1)) {K : Int32 → Option ρ}
    (kk : ∀ v : Int32, mg_len w a = some v → mg_G E p l e R s m args below meth c nL out (K v) w sz cells slots (pc + 1) L (.int v :: st)) : mg_G E p l e R s m args below meth c nL out ((mg_len w a).bind K) w sz cells slots pc L (.ref a :: st) := fun o hf h1 h2 H locs ls hok hl => by
  obtain ⟨v, hv, hf⟩ := Option.bind_eq_some_iff.mp hf
  have hv0 := hv
  unfold mg_len at hv
  split at hv
  · rename_i k x ha
    by_cases hk : k < 5
    · rw [if_pos hk] at hv
      cases hv
      obtain ⟨ty, ht⟩ : ∃ ty, (mg_tys E.2.1)[k]? = some (E.2.1 k, ty) := by
        match k, hk with
        | 0, _ => exact ⟨_, rfl⟩
        | 1, _ => exact ⟨_, rfl⟩
        | 2, _ => exact ⟨_, rfl⟩
        | 3, _ => exact ⟨_, rfl⟩
        | 4, _ => exact ⟨_, rfl⟩
      exact va_alen (D := E.1) (cl := vwCl) hC.1 hC.2.1 hC.2.2.2.2.2.1.1 (mg_P1 hok.2.1 ha) 0 k rfl ht rfl hdg (kk _ hv0 o hf h1 h2 H locs ls hok hl)
    · rw [if_neg hk] at hv; cases hv
  · cases hv
theorem mg_stx {α : Type} {x : Option (Nat × (Nat → α))} {i : Int32} {g : Nat × (Nat → α) → Nat → mg_H} {v : mg_H} (h : (x.bind fun x => (mg_ix i x.1).map (g x)) = some v) : ∃ y, x = some y ∧ vp_in i y.1 ∧ v = g y i.toNatClampNeg := by
  obtain ⟨y, h1, h2⟩ := Option.bind_eq_some_iff.mp h
  obtain ⟨k, h3, h4⟩ := Option.map_eq_some_iff.mp h2
  obtain ⟨h5, h6⟩ := mg_ix_some h3
  exact ⟨y, h1, h5, by rw [← h4, h6]⟩
theorem mg_iast (hC : mg_Cx E p s m args meth c cc nL ret own) {a : Nat} {i x : Int32} (hdg : decode cc pc = .ok (.iastore, 1)) {K : mg_H → Option ρ}
    (kk : ∀ w2 : mg_H, mg_stI w a i x = some w2 → mg_G E p l e R s m args below meth c nL out (K w2) w2 sz cells slots (pc + 1) L st) : mg_G E p l e R s m args below meth c nL out ((mg_stI w a i x).bind K) w sz cells slots pc L (.int x :: .int i :: .ref a :: st) := fun o hf h1 h2 H locs ls hok hl => by
  obtain ⟨w2, hv, hf⟩ := Option.bind_eq_some_iff.mp hf
  obtain ⟨y, ha, hi, rfl⟩ := mg_stx hv
  have hw := mg_arI_some ha
  have hat := (hok.2.1 a _ hw).1
  refine W.iast hC.1 hC.2.1 hat ((hC.2.2.2.2.2.1.1.2 0 _ rfl).1 y.1 (fun j => .int (y.2 j))) (fun q => by cases q) (by show ¬ (i < 0 ∨ (arrV _ _ _).slots.size ≤ _); rw [arrV_size]; exact hi) rfl rfl hdg fun H1 e1 z oq => ?_
  refine kk _ hv o hf h1 h2 H1 _ ls (hok.put hw z oq ?_) hl
  show H1[a]? = some (vp_cell _ _)
  rw [e1]
  show some (Cell.setSlot (vp_cell _ _) _ _) = _
  rw [vp_cell_i, vp_cell_i, arrV_store]
  congr 2
  funext q
  by_cases hq : q = i.toNatClampNeg
  · subst hq
    simp [updV, upd]
  · simp [updV, upd, hq]
theorem mg_zast (hC : mg_Cx E p s m args meth c cc nL ret own) {a : Nat} {i x : Int32} (hdg : decode cc pc = .ok (.bastore, 1)) {K : mg_H → Option ρ}
    (kk : ∀ w2 : mg_H, mg_stZ w a i x = some w2 → mg_G E p l e R s m args below meth c nL out (K w2) w2 sz cells slots (pc + 1) L st) : mg_G E p l e R s m args below meth c nL out ((mg_stZ w a i x).bind K) w sz cells slots pc L (.int x :: .int i :: .ref a :: st) := fun o hf h1 h2 H locs ls hok hl => by
  obtain ⟨w2, hv, hf⟩ := Option.bind_eq_some_iff.mp hf
  obtain ⟨y, ha, hi, rfl⟩ := mg_stx hv
  have hw := mg_arI_some ha
  have hat := (hok.2.1 a _ hw).1
  refine W.zast hC.1 hC.2.1 hat ((hC.2.2.2.2.2.1.1.2 1 _ rfl).1 y.1 (fun j => .int (y.2 j))) (fun q => by cases q) (by show ¬ (i < 0 ∨ (arrV _ _ _).slots.size ≤ _); rw [arrV_size]; exact hi) rfl rfl hdg fun H1 e1 z oq => ?_
  refine kk _ hv o hf h1 h2 H1 _ ls (hok.put hw z oq ?_) hl
  show H1[a]? = some (vp_cell _ _)
  rw [e1]
  show some (Cell.setSlot (vp_cell _ _) _ _) = _
  rw [vp_cell_i, vp_cell_i, arrV_store]
  congr 2
  funext q
  by_cases hq : q = i.toNatClampNeg
  · subst hq
    simp [updV, upd, vp_nar]
    try rfl
  · simp [updV, upd, hq]
theorem mg_last (hC : mg_Cx E p s m args meth c cc nL ret own) {a : Nat} {i : Int32} {x : Int64} (hdg : decode cc pc = .ok (.lastore, 1)) {K : mg_H → Option ρ}
    (kk : ∀ w2 : mg_H, mg_stL w a i x = some w2 → mg_G E p l e R s m args below meth c nL out (K w2) w2 sz cells slots (pc + 1) L st) : mg_G E p l e R s m args below meth c nL out ((mg_stL w a i x).bind K) w sz cells slots pc L (.long x :: .int i :: .ref a :: st) := fun o hf h1 h2 H locs ls hok hl => by
  obtain ⟨w2, hv, hf⟩ := Option.bind_eq_some_iff.mp hf
  obtain ⟨y, ha, hi, rfl⟩ := mg_stx hv
  have hw := mg_arL_some ha
  have hat := (hok.2.1 a _ hw).1
  refine W.last hC.1 hC.2.1 hat ((hC.2.2.2.2.2.1.1.2 2 _ rfl).1 y.1 (fun j => .long (y.2 j))) (fun q => by cases q) (by show ¬ (i < 0 ∨ (arrV _ _ _).slots.size ≤ _); rw [arrV_size]; exact hi) rfl rfl hdg fun H1 e1 z oq => ?_
  refine kk _ hv o hf h1 h2 H1 _ ls (hok.put hw z oq ?_) hl
  show H1[a]? = some (vp_cell _ _)
  rw [e1]
  show some (Cell.setSlot (vp_cell _ _) _ _) = _
  rw [vp_cell_l, vp_cell_l, arrV_store]
  congr 2
  funext q
  by_cases hq : q = i.toNatClampNeg
  · subst hq
    simp [updV, vp_updL]
  · simp [updV, vp_updL, hq]
theorem mg_aast (hC : mg_Cx E p s m args meth c cc nL ret own) {kd ci : Nat} {r : vw_C} (ht : (mg_tys E.2.1)[kd]? = some (E.2.1 kd, .object r.1)) (hc : vwCl[ci]? = some r) {a v : Nat} {i : Int32} (hdg : decode cc pc = .ok (.aastore, 1)) {K : mg_H → Option ρ}
    (kk : ∀ w2 : mg_H, mg_stQ w kd ci a i v = some w2 → mg_G E p l e R s m args below meth c nL out (K w2) w2 sz cells slots (pc + 1) L st) : mg_G E p l e R s m args below meth c nL out ((mg_stQ w kd ci a i v).bind K) w sz cells slots pc L (.ref v :: .int i :: .ref a :: st) := fun o hf h1 h2 H locs ls hok hl => by
  obtain ⟨w2, hv, hf⟩ := Option.bind_eq_some_iff.mp hf
  obtain ⟨y, ha, hv2⟩ := Option.bind_eq_some_iff.mp hv
  obtain ⟨k, hk, hv3⟩ := Option.bind_eq_some_iff.mp hv2
  obtain ⟨vs, hvs, hv4⟩ := Option.map_eq_some_iff.mp hv3
  obtain ⟨hin, rfl⟩ := mg_ix_some hk
  subst hv4
  have hK := hC.2.2.2.2.2.1.1
  have hlt : i.toNatClampNeg < y.1 := Nat.not_le.mp fun q => hin (Or.inr q)
  have h0 : ¬ i < 0 := fun q => hin (Or.inl q)
  obtain ⟨r', hr', cellV, g1, g2, g3, -⟩ := (hok.2.1 v _ (mg_obj_some hvs)).1
  have hcls := (hK.1 ci r hc).2
  obtain ⟨kA, comp, k1, k2, k3, -⟩ := (hK.2 kd _ ht).2
  have hcomp : comp = E.1.1 ci := Option.some.inj (k3.symm.trans hcls.1)
  subst hcomp
  obtain ⟨kC, hkC, -⟩ := hcls.2
  have hw := mg_arQ_some ha
  have hat := (hok.2.1 a _ hw).1
  refine W.aast hC.1 hC.2.1 hat (fun q h => by cases h) (fun h => by cases h) k1 k2 rfl hkC ⟨h0, by show _ < (arrV _ _ _).slots.size; rw [arrV_size]; exact hlt⟩ g1 (fun q h => by rw [g3] at h; cases h) (by rw [g2]; exact hkC) (by rw [g2]; exact va_assign hcls) rfl rfl hdg fun H1 e1 z oq => ?_
  refine kk _ hv o hf h1 h2 H1 _ ls (hok.put hw z oq ?_) hl
  show H1[a]? = some (vp_cell _ _)
  rw [e1]
  show some (Cell.setSlot (vp_cell _ _) _ _) = _
  rw [vp_cell_q, vp_cell_q, arrV_store]
  congr 2
  funext q
  by_cases hq : q = i.toNatClampNeg
  · subst hq
    simp [updV, va_up, va_rf]
  · simp [updV, va_up, hq]
end MGH
end
section
section MGK
variable {ρ : Type} {E : mg_P} {p : Program} {l : Launch} {e : Env} {R : Room} {s : State} {m : MethodId} {args : Array Value} {below : List Frame} {meth : Method} {c : Code} {cc : ByteArray} {nL : Nat} {ret : Option FieldType} {own : String} {out : ρ → mg_R} {F : Option ρ} {w : mg_H} {sz cells slots pc : Nat} {L : List (Nat × Value)} {st : List Value}
/-! new objects and arrays: only in functions that count -/
theorem mg_alloc {α : Type} {f : α → Option Value} {K : Option (α × mg_H × Nat × Nat)} {N ln : Nat} {x : mg_E} {st2 : List Value}
    (kk : mg_G E p l e R s m args below meth c nL (mg_oA f) K (mg_set w sz x) (sz + 1) (cells + 1) (slots + N) (pc + ln) L st2)
    (hnew : ∀ (Q : State → Prop) (H : Heap) (locs : List Loc) (ls : Array Slot), mg_Ok E w sz s H locs → cells + 1 ≤ R.cells → slots + N ≤ R.slots → (∀ H1 : Heap, mg_Ok E (mg_set w sz x) (sz + 1) s H1 locs → W p l e R s m args below meth c H1 locs (cells + 1) (slots + N) Q (F0 m (pc + ln) ls st2)) → W p l e R s m args below meth c H locs cells slots Q (F0 m pc ls st)) :
    mg_G E p l e R s m args below meth c nL (mg_oA f) (mg_bmp 1 N K) w sz cells slots pc L st := fun o hf h1 h2 H locs ls hok hl => by
  obtain ⟨o2, hf2, rfl⟩ := Option.map_eq_some_iff.mp hf
  have h1' : cells + (1 + o2.2.2.1) ≤ R.cells := h1
  have h2' : slots + (N + o2.2.2.2) ≤ R.slots := h2
  refine hnew _ H locs ls hok (by omega) (by omega) (fun H1 hok1 => ?_)
  have q := kk o2 hf2 (by show cells + 1 + o2.2.2.1 ≤ _; omega) (by show slots + N + o2.2.2.2 ≤ _; omega) H1 locs ls hok1 hl
  have e1 : mg_Z E s args below (mg_oA f o2) (sz + 1) (cells + 1) (slots + N) = mg_Z E s args below (mg_oA f (o2.1, o2.2.1, 1 + o2.2.2.1, N + o2.2.2.2)) sz cells slots := by
    unfold mg_Z mg_oA
    show MQ below (mg_Qc E (f o2.1) o2.2.1 (sz + 1 + o2.2.2.1)) args s (cells + 1 + o2.2.2.1) (slots + N + o2.2.2.2) _ = MQ below (mg_Qc E (f o2.1) o2.2.1 (sz + (1 + o2.2.2.1))) args s (cells + (1 + o2.2.2.1)) (slots + (N + o2.2.2.2)) _
    rw [Nat.add_assoc, Nat.add_assoc, Nat.add_assoc]
  rw [e1] at q
  exact q
theorem mg_new (hC : mg_Cx E p s m args meth c cc nL ret own) {α : Type} {f : α → Option Value} {K : Option (α × mg_H × Nat × Nat)} {C : String} {T : u_T} {N ci idx : Nat} (hin : ∀ x ∈ u_ws C T N, x ∈ mg_ws) (hc : vwCl[ci]? = some (C, T, N)) (ty0 : Nat → FieldType) (hty : ∀ k, k < N → parseFieldDescriptor (T k).2.2.1 = some (ty0 k)) (fs : List Value) (hfs : ∀ j, j < N → defaultValue (ty0 j) = vp_V fs j) (hcl : Cond.classLink own idx C ∈ mg_ws) (hinst : Cond.instantiable C N ∈ mg_ws) (hini : Cond.initialized C ∈ mg_ws) (hdg : decode cc pc = .ok (.new idx, 3))
    (kk : mg_G E p l e R s m args below meth c nL (mg_oA f) K (mg_set w sz (.inl (ci, fs))) (sz + 1) (cells + 1) (slots + N) (pc + 3) L (.ref sz :: st)) : mg_G E p l e R s m args below meth c nL (mg_oA f) (mg_bmp 1 N K) w sz cells slots pc L st := by
  refine mg_alloc kk (fun Q H locs ls hok h1 h2 k => ?_)
  have hK := hC.2.2.2.2.2.1.1
  have hts := hC.2.2.2.2.1
  have hKn := hK.1 ci _ hc
  refine W.newcK hC.1 hC.2.1 hC.2.2.2.1 (hts _ hcl) (hts _ hinst) (hts _ hini) rfl hdg h1 h2 hKn.2.1 hok.1 fun H1 kC hkC e1 z1 o1 => ?_
  exact k H1 (hok.push z1 o1 ⟨_, hc, (u_born ty0 hts hin hKn hkC e1 hty).to hfs⟩)
theorem mg_newaW (hC : mg_Cx E p s m args meth c cc nL ret own) {α : Type} {f : α → Option Value} {K : Option (α × mg_H × Nat × Nat)} {atype : ArrayType} {ty : FieldType} (hty : newarray.typeOf atype = ty) (kd : Nat) (ht : (mg_tys E.2.1)[kd]? = some (E.2.1 kd, ty)) (hra : ∀ cA, va_RA s cA ty → s.vm.findClass ("[" ++ ty.toString) = some cA) (harr : Cond.arrayClass ty ∈ mg_ws) (hsm : componentBytes ty ≤ 8) {n : Int32} {a0 : Nat → vp_A} (ha : ∀ (cA : ClassId) (N : Nat), vp_cell cA (a0 N) = arrV cA N (fun _ => defaultValue ty)) (hn : ¬ n < 0) (hb : n.toNatClampNeg ≤ 67108864) (hdg : decode cc pc = .ok (.newarray atype, 2))
    (kk : mg_G E p l e R s m args below meth c nL (mg_oA f) K (mg_set w sz (.inr (kd, a0 n.toNatClampNeg))) (sz + 1) (cells + 1) (slots + n.toNatClampNeg) (pc + 2) L (.ref sz :: st)) : mg_G E p l e R s m args below meth c nL (mg_oA f) (mg_bmp 1 n.toNatClampNeg K) w sz cells slots pc L (.int n :: st) := by
  subst hty
  refine mg_alloc kk (fun Q H locs ls hok h1 h2 k => ?_)
  have hK := hC.2.2.2.2.2.1.1
  have hts := hC.2.2.2.2.1
  refine va_newaK hC.1 hC.2.1 (hts _ harr) rfl hdg rfl hn rfl (by
    have h3 : n.toNatClampNeg * componentBytes (newarray.typeOf atype) ≤ 67108864 * 8 := Nat.mul_le_mul hb hsm
    omega) h1 h2 hok.1 fun H1 cA e1 z1 o1 hAr hNm => ?_
  have hcA : cA = E.2.1 kd := Option.some.inj (hNm.symm.trans (hra _ (hK.2 kd _ ht).2))
  subst hcA
  refine k H1 (hok.push z1 o1 ?_)
  show H1[sz]? = some (vp_cell _ _)
  rw [ha]
  exact e1
theorem mg_newI (hC : mg_Cx E p s m args meth c cc nL ret own) {α : Type} {f : α → Option Value} {K : Option (α × mg_H × Nat × Nat)} {atype : ArrayType} (hty : newarray.typeOf atype = .int) (harr : Cond.arrayClass .int ∈ mg_ws) {n : Int32} (hdg : decode cc pc = .ok (.newarray atype, 2))
    (kk : mg_G E p l e R s m args below meth c nL (mg_oA f) K (mg_set w sz (.inr (0, n.toNatClampNeg, .inl (fun _ => 0)))) (sz + 1) (cells + 1) (slots + n.toNatClampNeg) (pc + 2) L (.ref sz :: st)) : mg_G E p l e R s m args below meth c nL (mg_oA f) (if n < 0 ∨ 67108864 < n.toNatClampNeg then none else mg_bmp 1 n.toNatClampNeg K) w sz cells slots pc L (.int n :: st) := fun o hf h1 h2 => by
  by_cases q : n < 0 ∨ 67108864 < n.toNatClampNeg
  · rw [if_pos q] at hf; cases hf
  · rw [if_neg q] at hf
    exact mg_newaW hC hty 0 rfl (fun _ h => h) harr (by decide) (a0 := fun N => (N, .inl (fun _ => 0))) (fun cA N => by rw [vp_cell_i]; rfl) (fun z => q (Or.inl z)) (Nat.not_lt.mp fun z => q (Or.inr z)) hdg kk o hf h1 h2
theorem mg_newZ (hC : mg_Cx E p s m args meth c cc nL ret own) {α : Type} {f : α → Option Value} {K : Option (α × mg_H × Nat × Nat)} {atype : ArrayType} (hty : newarray.typeOf atype = .boolean) (harr : Cond.arrayClass .boolean ∈ mg_ws) {n : Int32} (hdg : decode cc pc = .ok (.newarray atype, 2))
    (kk : mg_G E p l e R s m args below meth c nL (mg_oA f) K (mg_set w sz (.inr (1, n.toNatClampNeg, .inl (fun _ => 0)))) (sz + 1) (cells + 1) (slots + n.toNatClampNeg) (pc + 2) L (.ref sz :: st)) : mg_G E p l e R s m args below meth c nL (mg_oA f) (if n < 0 ∨ 67108864 < n.toNatClampNeg then none else mg_bmp 1 n.toNatClampNeg K) w sz cells slots pc L (.int n :: st) := fun o hf h1 h2 => by
  by_cases q : n < 0 ∨ 67108864 < n.toNatClampNeg
  · rw [if_pos q] at hf; cases hf
  · rw [if_neg q] at hf
    exact mg_newaW hC hty 1 rfl (fun _ h => h) harr (by decide) (a0 := fun N => (N, .inl (fun _ => 0))) (fun cA N => by rw [vp_cell_i]; rfl) (fun z => q (Or.inl z)) (Nat.not_lt.mp fun z => q (Or.inr z)) hdg kk o hf h1 h2
theorem mg_newL (hC : mg_Cx E p s m args meth c cc nL ret own) {α : Type} {f : α → Option Value} {K : Option (α × mg_H × Nat × Nat)} {atype : ArrayType} (hty : newarray.typeOf atype = .long) (harr : Cond.arrayClass .long ∈ mg_ws) {n : Int32} (hdg : decode cc pc = .ok (.newarray atype, 2))
    (kk : mg_G E p l e R s m args below meth c nL (mg_oA f) K (mg_set w sz (.inr (2, n.toNatClampNeg, .inr (.inl (fun _ => 0))))) (sz + 1) (cells + 1) (slots + n.toNatClampNeg) (pc + 2) L (.ref sz :: st)) : mg_G E p l e R s m args below meth c nL (mg_oA f) (if n < 0 ∨ 67108864 < n.toNatClampNeg then none else mg_bmp 1 n.toNatClampNeg K) w sz cells slots pc L (.int n :: st) := fun o hf h1 h2 => by
  by_cases q : n < 0 ∨ 67108864 < n.toNatClampNeg
  · rw [if_pos q] at hf; cases hf
  · rw [if_neg q] at hf
    exact mg_newaW hC hty 2 rfl (fun _ h => h) harr (by decide) (a0 := fun N => (N, .inr (.inl (fun _ => 0)))) (fun cA N => by rw [vp_cell_l]; rfl) (fun z => q (Or.inl z)) (Nat.not_lt.mp fun z => q (Or.inr z)) hdg kk o hf h1 h2
theorem mg_newQ (hC : mg_Cx E p s m args meth c cc nL ret own) {α : Type} {f : α → Option Value} {K : Option (α × mg_H × Nat × Nat)} {C : String} {idx kd : Nat} (ht : (mg_tys E.2.1)[kd]? = some (E.2.1 kd, .object C)) (hover : va_AO C s) (hcl : Cond.classLink own idx C ∈ mg_ws) {n : Int32} (hdg : decode cc pc = .ok (.anewarray idx, 3))
    (kk : mg_G E p l e R s m args below meth c nL (mg_oA f) K (mg_set w sz (.inr (kd, n.toNatClampNeg, .inr (.inr (.inr (.inr (fun _ => none))))))) (sz + 1) (cells + 1) (slots + n.toNatClampNeg) (pc + 3) L (.ref sz :: st)) : mg_G E p l e R s m args below meth c nL (mg_oA f) (if n < 0 ∨ 67108864 < n.toNatClampNeg then none else mg_bmp 1 n.toNatClampNeg K) w sz cells slots pc L (.int n :: st) := fun o hf h1 h2 => by
  by_cases q : n < 0 ∨ 67108864 < n.toNatClampNeg
  · rw [if_pos q] at hf; cases hf
  · rw [if_neg q] at hf
    have hb : n.toNatClampNeg ≤ 67108864 := Nat.not_lt.mp fun z => q (Or.inr z)
    refine mg_alloc kk (fun Q H locs ls hok h1 h2 k => ?_) o hf h1 h2
    have hK := hC.2.2.2.2.2.1.1
    have hts := hC.2.2.2.2.1
    obtain ⟨kA0, comp0, a1, a2, a3, a4⟩ := (hK.2 kd _ ht).2
    refine W.anew hC.1 hC.2.1 hC.2.2.2.1 (hts _ hcl) (va_AO.use hover) rfl hdg rfl (fun z => q (Or.inl z)) (by omega) h1 h2 fun cA kA comp f1 f2 f3 f4 => ?_
    have hcA : cA = E.2.1 kd := Option.some.inj (f1.symm.trans a4)
    subst hcA
    have hz := hok.1
    subst hz
    refine k _ (hok.push (by rw [Array.size_push]) (fun q hq => by rw [Array.getElem?_push, if_neg (Nat.ne_of_lt hq)]) ?_)
    show (H.push _)[H.size]? = some (vp_cell _ _)
    rw [Array.getElem?_push_size, vp_cell_q, ← arrV_new]
    rfl
/-! returns -/
theorem mg_widen {o : mg_R} (h0 : o.2.2.1 = 0) (h1 : o.2.2.2 = 0) {H : Heap} {locs : List Loc} {g : JFrame} (k : W p l e R s m args below meth c H locs cells slots (MQ below (mg_Qc E o.1 o.2.1 sz) args s cells slots (fun q => E.2.2 ≤ q)) g) : W p l e R s m args below meth c H locs cells slots (mg_Z E s args below o sz cells slots) g := by
  unfold mg_Z
  rw [h0, h1]
  exact k
theorem mg_endQ {H : Heap} {locs : List Loc} {r : Option Value} (hok : mg_Ok E w sz s H locs) : ∀ t : State, t.heap = H → s.WarmedH t.vm → mg_Qc E r w sz args s (.returned r) t := fun t ht _ => ⟨rfl, by rw [ht]; exact hok.1, by rw [ht]; exact hok.2.1, fun q hq => by rw [ht]; exact hok.2.2.2.2.1 q hq⟩
theorem mg_iret (hC : mg_Cx E p s m args meth c cc nL (some .int) own) {o : ρ} {v : Int32} (ho : out o = (some (.int v), w, 0, 0)) (hdg : decode cc pc = .ok (.ireturn, 1)) : mg_G E p l e R s m args below meth c nL out (some o) w sz cells slots pc L [.int v] := fun o2 hf h1 h2 H locs ls hok hl => by
  cases hf
  rw [ho]
  exact mg_widen rfl rfl (W.iret hC.1 hC.2.1 hC.2.2.2.2.2.2.1 (mg_endQ hok) hok.2.2.2.2.2 hdg hC.2.2.2.2.2.2.2)
theorem mg_zret (hC : mg_Cx E p s m args meth c cc nL (some .boolean) own) {o : ρ} {v : Int32} (ho : out o = (some (.int v), w, 0, 0)) (hdg : decode cc pc = .ok (.ireturn, 1)) : mg_G E p l e R s m args below meth c nL out (if v &&& 1 = v then some o else none) w sz cells slots pc L [.int v] := fun o2 hf h1 h2 H locs ls hok hl => by
  by_cases q : v &&& 1 = v
  · rw [if_pos q] at hf
    cases hf
    rw [ho]
    exact mg_widen rfl rfl (W.zret hC.1 hC.2.1 hC.2.2.2.2.2.2.1 (by show Value.int (v &&& 1) = _; rw [q]) (mg_endQ hok) hok.2.2.2.2.2 hdg hC.2.2.2.2.2.2.2)
  · rw [if_neg q] at hf; cases hf
theorem mg_zretC (hC : mg_Cx E p s m args meth c cc nL (some .boolean) own) {o : ρ} {v : Int32} (hv : v &&& 1 = v) (ho : out o = (some (.int v), w, 0, 0)) (hdg : decode cc pc = .ok (.ireturn, 1)) : mg_G E p l e R s m args below meth c nL out (some o) w sz cells slots pc L [.int v] := fun o2 hf h1 h2 H locs ls hok hl => by
  cases hf
  rw [ho]
  exact mg_widen rfl rfl (W.zret hC.1 hC.2.1 hC.2.2.2.2.2.2.1 (by show Value.int (v &&& 1) = _; rw [hv]) (mg_endQ hok) hok.2.2.2.2.2 hdg hC.2.2.2.2.2.2.2)
theorem mg_lret (hC : mg_Cx E p s m args meth c cc nL (some .long) own) {o : ρ} {v : Int64} (ho : out o = (some (.long v), w, 0, 0)) (hdg : decode cc pc = .ok (.lreturn, 1)) : mg_G E p l e R s m args below meth c nL out (some o) w sz cells slots pc L [.long v] := fun o2 hf h1 h2 H locs ls hok hl => by
  cases hf
  rw [ho]
  exact mg_widen rfl rfl (W.lret hC.1 hC.2.1 hC.2.2.2.2.2.2.1 (mg_endQ hok) hok.2.2.2.2.2 hdg hC.2.2.2.2.2.2.2)
theorem mg_vret (hC : mg_Cx E p s m args meth c cc nL none own) {o : ρ} (ho : out o = (none, w, 0, 0)) (hdg : decode cc pc = .ok (.return_, 1)) : mg_G E p l e R s m args below meth c nL out (some o) w sz cells slots pc L [] := fun o2 hf h1 h2 H locs ls hok hl => by
  cases hf
  rw [ho]
  exact mg_widen rfl rfl (W.vret hC.1 hC.2.1 hC.2.2.2.2.2.2.1 (mg_endQ hok) hok.2.2.2.2.2 hdg hC.2.2.2.2.2.2.2)
theorem mg_aret {C : String} (hC : mg_Cx E p s m args meth c cc nL (some (.object C)) own) {o : ρ} {r : Option Nat} (ho : out o = (some (va_rf r), w, 0, 0)) (hdg : decode cc pc = .ok (.areturn, 1)) : mg_G E p l e R s m args below meth c nL out (some o) w sz cells slots pc L [va_rf r] := fun o2 hf h1 h2 H locs ls hok hl => by
  cases hf
  rw [ho]
  exact mg_widen rfl rfl (W.aret hC.1 hC.2.1 hC.2.2.2.2.2.2.1 (Or.inl ⟨_, rfl⟩) (by cases r with | none => exact Or.inl rfl | some a => exact Or.inr ⟨a, rfl⟩) (mg_endQ hok) hok.2.2.2.2.2 hdg hC.2.2.2.2.2.2.2)
/-! calls: how one is run, by its kind -/
def mg_Run (E : mg_P) (p : Program) (l : Launch) (e : Env) (R : Room) (s : State) (m : MethodId) (args : Array Value) (below : List Frame) (meth : Method) (c : Code) (nL : Nat) (o : mg_R) (w : mg_H) (sz cells slots pc : Nat) (st0 rest : List Value) : Prop :=
  ∀ (H : Heap) (locs : List Loc) (ls : Array Slot), mg_Ok E w sz s H locs → ls.size = nL → cells + o.2.2.1 ≤ R.cells → slots + o.2.2.2 ≤ R.slots → va_Run p l e R s m args below meth c H locs cells slots o.2.2.1 o.2.2.2 (F0 m pc ls st0) rest (mg_Qc E o.1 o.2.1 (sz + o.2.2.1) #[]) (fun q => E.2.2 ≤ q)
theorem mg_preS {H : Heap} {locs : List Loc} {av : List Value} (hC : mg_Cx E p s m args meth c cc nL ret own) (hok : mg_Ok E w sz s H locs) : PreS s H (mg_Pc E av w sz) av := ⟨mg_blind, fun U hU hW => ⟨rfl, by rw [hU]; exact hok.1, by rw [hU]; exact hok.2.1, Nat.le_trans hok.2.2.1 hok.2.2.2.1, mg_Tb.warm hW hC.2.2.2.2.2.1⟩⟩
theorem mg_runS (hC : mg_Cx E p s m args meth c cc nL ret own) {y : MethodName} {bytes : ByteArray} {maxL fr lo idx n : Nat} {ret2 : Option FieldType} {av rest st0 : List Value} {o : mg_R} (hM : mg_C E l y bytes maxL ret2 fr lo av w sz o) (hcode : Cond.code y bytes maxL ret2 ∈ mg_ws) (hlink : Cond.methodLink own idx y ∈ mg_ws) (hstat : Cond.static y ∈ mg_ws) (hini : Cond.initialized y.cls ∈ mg_ws) (hd : y.cls ≠ "java/lang/invoke/MethodHandle" ∧ y.cls ≠ "java/lang/invoke/VarHandle" ∧ (parseMethodDescriptor y.desc).map (fun d => d.parameters.length) = some n) (hn : av.length = n) (hR : fr + 1 ≤ R.frames ∧ 8 + (maxL + 11) + lo ≤ R.locals) (hst : st0 = av.reverse ++ rest) (hW : (rest.map fun v => v.category).sum ≤ 8) (hdg : decode cc pc = .ok (.invokestatic idx, 3)) : mg_Run E p l e R s m args below meth c nL o w sz cells slots pc st0 rest := fun H locs ls hok hls h1 h2 => by
  have hts := hC.2.2.2.2.1
  exact va_runS (As := av) (rest := rest) ⟨hC.1, hC.2.1, hC.2.2.1, hC.2.2.2.1, hts⟩ hM ⟨callB_of n hts (mg_good hcode) rfl rfl rfl (hts _ hini) (hts _ hlink) hd hR, hts _ hstat⟩ (mg_preS hC hok) rfl hn hls hst (lv_room hW) hdg ⟨h1, h2⟩
theorem mg_runSN (hC : mg_Cx E p s m args meth c cc nL ret own) {y : MethodName} {host : String} {bytes : ByteArray} {maxL fr lo idx n : Nat} {ret2 : Option FieldType} {av rest st0 : List Value} {o : mg_R} (hM : mg_C E l y bytes maxL ret2 fr lo av w sz o) (hcode : Cond.code y bytes maxL ret2 ∈ mg_ws) (hlink : (own, idx, y, host) ∈ mg_nest) (hstat : Cond.static y ∈ mg_ws) (hini : Cond.initialized y.cls ∈ mg_ws) (hd : y.cls ≠ "java/lang/invoke/MethodHandle" ∧ y.cls ≠ "java/lang/invoke/VarHandle" ∧ (parseMethodDescriptor y.desc).map (fun d => d.parameters.length) = some n) (hn : av.length = n) (hR : fr + 1 ≤ R.frames ∧ 8 + (maxL + 11) + lo ≤ R.locals) (hst : st0 = av.reverse ++ rest) (hW : (rest.map fun v => v.category).sum ≤ 8) (hdg : decode cc pc = .ok (.invokestatic idx, 3)) : mg_Run E p l e R s m args below meth c nL o w sz cells slots pc st0 rest := fun H locs ls hok hls h1 h2 => by
  have hts := hC.2.2.2.2.1
  exact va_runSN (As := av) (rest := rest) ⟨hC.1, hC.2.1, hC.2.2.1, hC.2.2.2.1, hts⟩ hM ⟨va_cnB n hts (mg_good hcode) rfl rfl rfl (hC.2.2.2.2.2.1.2.1 _ hlink) (hts _ hini) hd hR, hts _ hstat, trivial⟩ (mg_preS hC hok) rfl hn hls hst (lv_room hW) hdg ⟨h1, h2⟩
theorem mg_runI (hC : mg_Cx E p s m args meth c cc nL ret own) {y : MethodName} {bytes : ByteArray} {maxL fr lo idx n b : Nat} {av rest st0 : List Value} {o : mg_R} (hM : mg_C E l y bytes maxL none fr lo (.ref b :: av) w sz o) (hcode : Cond.code y bytes maxL none ∈ mg_ws) (hlink : Cond.methodLink own idx y ∈ mg_ws) (hinst : Cond.instanceMethod y ∈ mg_ws) (hini : Cond.initialized y.cls ∈ mg_ws) (hy1 : y.name = "<init>") (hd : y.cls ≠ "java/lang/invoke/MethodHandle" ∧ y.cls ≠ "java/lang/invoke/VarHandle" ∧ (parseMethodDescriptor y.desc).map (fun d => d.parameters.length) = some n) (hn : av.length = n) (hR : fr + 1 ≤ R.frames ∧ 8 + (maxL + 11) + lo ≤ R.locals) (hst : st0 = av.reverse ++ .ref b :: rest) (hW : (rest.map fun v => v.category).sum ≤ 8) (hdg : decode cc pc = .ok (.invokespecial idx, 3)) : mg_Run E p l e R s m args below meth c nL o w sz cells slots pc st0 rest := fun H locs ls hok hls h1 h2 => by
  have hts := hC.2.2.2.2.1
  exact va_runI (As := av) (rest := rest) ⟨hC.1, hC.2.1, hC.2.2.1, hC.2.2.2.1, hts⟩ hM (cwI n hts (mg_good hcode) rfl rfl rfl (hts _ hini) (hts _ hlink) (hts _ hinst) hy1 hd hR) (mg_preS hC hok) rfl hn hls hst (lv_room hW) hdg ⟨h1, h2⟩
theorem mg_runV (hC : mg_Cx E p s m args meth c cc nL ret own) {y : MethodName} {bytes : ByteArray} {maxL fr lo idx n b ci : Nat} {ret2 : Option FieldType} {av rest st0 : List Value} {o : mg_R} {q : vw_C} (hc : vwCl[ci]? = some q) (hM : mg_C E l y bytes maxL ret2 fr lo (.ref b :: av) w sz o) (hcode : Cond.code y bytes maxL ret2 ∈ mg_ws) (hlink : Cond.methodLink own idx y ∈ mg_ws) (hinst : Cond.instanceMethod y ∈ mg_ws) (hsel : Cond.selects q.1 y y ∈ mg_ws) (hini : Cond.initialized y.cls ∈ mg_ws) (hd : y.cls ≠ "java/lang/invoke/MethodHandle" ∧ y.cls ≠ "java/lang/invoke/VarHandle" ∧ (parseMethodDescriptor y.desc).map (fun d => d.parameters.length) = some n) (hn : av.length = n) (hR : fr + 1 ≤ R.frames ∧ 8 + (maxL + 11) + lo ≤ R.locals) (hst : st0 = av.reverse ++ .ref b :: rest) (hW : (rest.map fun v => v.category).sum ≤ 8) (hdg : decode cc pc = .ok (.invokevirtual idx, 3)) (hb : (mg_obj w ci b).isSome = true) : mg_Run E p l e R s m args below meth c nL o w sz cells slots pc st0 rest := fun H locs ls hok hls h1 h2 => by
  have hts := hC.2.2.2.2.1
  obtain ⟨fs, hb⟩ := Option.isSome_iff_exists.mp hb
  have hrecv : ∃ cell : Cell, H[b]? = some cell ∧ cell.vm.isStatics = false ∧ s.vm.findClass q.1 = some cell.cls := va_recv (D := E.1) (cl := vwCl) (q0 := 0) hC.2.2.2.2.2.1.1 (mg_P1 hok.2.1 (mg_obj_some hb)) hc rfl
  have hpre := mg_preS (av := .ref b :: av) hC hok
  exact va_runV (As := av) (rest := rest) ⟨hC.1, hC.2.1, hC.2.2.1, hC.2.2.2.1, hts⟩ hM ⟨callB_of n hts (mg_good hcode) rfl rfl rfl (hts _ hini) (hts _ hlink) hd hR, hts _ hinst, hts _ hsel⟩ ⟨hpre.1, hrecv, hpre.2⟩ rfl hn hls hst (lv_room hW) hdg ⟨h1, h2⟩
/-! and how it goes on: the callee answers a value alone, or changes the world, or makes cells -/
theorem mg_after {o : mg_R} {rest st0 : List Value} (hr : mg_Run E p l e R s m args below meth c nL o w sz cells slots pc st0 rest) {H : Heap} {locs : List Loc} {ls : Array Slot} {Q : State → Prop} (hok : mg_Ok E w sz s H locs) (hls : ls.size = nL) (h1 : cells + o.2.2.1 ≤ R.cells) (h2 : slots + o.2.2.2 ≤ R.slots)
    (kk : ∀ (H1 : Heap) (locs1 : List Loc), mg_Ok E o.2.1 (sz + o.2.2.1) s H1 locs1 → W p l e R s m args below meth c H1 locs1 (cells + o.2.2.1) (slots + o.2.2.2) Q (F0 m (pc + 3) ls (o.1.toList ++ rest))) : W p l e R s m args below meth c H locs cells slots Q (F0 m pc ls st0) := by
  intro T hT X
  obtain ⟨v, st₀, t, T', L, h0, X', hL, e1, e2, ⟨hv, hz, hh, hb⟩, stp⟩ := hr H locs ls hok hls h1 h2 T hT X
  cases hv
  obtain ⟨t2, a1, b1⟩ := kk T'.heap (locs ++ L) ⟨by rw [e1]; exact hz, by rw [e1]; exact hh, hok.2.2.1, Nat.le_trans hok.2.2.2.1 (Nat.le_add_right _ _), fun q hq => by rw [e1, hb q hq, h0]; exact hok.2.2.2.2.1 q hq, fun q hq => by
    rcases List.mem_append.mp hq with h | h
    · exact hok.2.2.2.2.2 q h
    · exact hL q h⟩ T' rfl X'
  exact ⟨t2, stp t2 a1, b1⟩
theorem mg_callR {α : Type} {f : α → Option Value} {x : Option α} {K : α → Option ρ} {rest st0 : List Value} (hr : ∀ r, x = some r → mg_Run E p l e R s m args below meth c nL (mg_oR f w r) w sz cells slots pc st0 rest)
    (kk : ∀ r, x = some r → mg_G E p l e R s m args below meth c nL out (K r) w sz cells slots (pc + 3) L ((f r).toList ++ rest)) : mg_G E p l e R s m args below meth c nL out (x.bind K) w sz cells slots pc L st0 := fun o hf h1 h2 H locs ls hok hl => by
  obtain ⟨r, hx, hf⟩ := Option.bind_eq_some_iff.mp hf
  exact mg_after (hr r hx) hok hl.1 (by show cells + 0 ≤ _; omega) (by show slots + 0 ≤ _; omega) (fun H1 locs1 hok1 => kk r hx o hf h1 h2 H1 locs1 ls hok1 hl)
theorem mg_callS {α : Type} {f : α → Option Value} {x : Option (α × mg_H)} {K : α → mg_H → Option ρ} {rest st0 : List Value} (hr : ∀ r, x = some r → mg_Run E p l e R s m args below meth c nL (mg_oS f r) w sz cells slots pc st0 rest)
    (kk : ∀ r w2, x = some (r, w2) → mg_G E p l e R s m args below meth c nL out (K r w2) w2 sz cells slots (pc + 3) L ((f r).toList ++ rest)) : mg_G E p l e R s m args below meth c nL out (x.bind fun o => K o.1 o.2) w sz cells slots pc L st0 := fun o hf h1 h2 H locs ls hok hl => by
  obtain ⟨r, hx, hf⟩ := Option.bind_eq_some_iff.mp hf
  exact mg_after (hr r hx) hok hl.1 (by show cells + 0 ≤ _; omega) (by show slots + 0 ≤ _; omega) (fun H1 locs1 hok1 => kk r.1 r.2 hx o hf h1 h2 H1 locs1 ls hok1 hl)
theorem mg_callA {α β : Type} {f : α → Option Value} {f2 : β → Option Value} {x : Option (α × mg_H × Nat × Nat)} {K : α → mg_H → Nat → Nat → Option (β × mg_H × Nat × Nat)} {rest st0 : List Value} (hr : ∀ r, x = some r → mg_Run E p l e R s m args below meth c nL (mg_oA f r) w sz cells slots pc st0 rest)
    (kk : ∀ r w2 kc ks, x = some (r, w2, kc, ks) → mg_G E p l e R s m args below meth c nL (mg_oA f2) (K r w2 kc ks) w2 (sz + kc) (cells + kc) (slots + ks) (pc + 3) L ((f r).toList ++ rest)) : mg_G E p l e R s m args below meth c nL (mg_oA f2) (x.bind fun o => mg_bmp o.2.2.1 o.2.2.2 (K o.1 o.2.1 o.2.2.1 o.2.2.2)) w sz cells slots pc L st0 := fun o hf h1 h2 H locs ls hok hl => by
  obtain ⟨r, hx, hf⟩ := Option.bind_eq_some_iff.mp hf
  obtain ⟨o2, hf2, rfl⟩ := Option.map_eq_some_iff.mp hf
  have h1' : cells + (r.2.2.1 + o2.2.2.1) ≤ R.cells := h1
  have h2' : slots + (r.2.2.2 + o2.2.2.2) ≤ R.slots := h2
  refine mg_after (hr r hx) hok hl.1 (by show cells + r.2.2.1 ≤ _; omega) (by show slots + r.2.2.2 ≤ _; omega) (fun H1 locs1 hok1 => ?_)
  have q := kk r.1 r.2.1 r.2.2.1 r.2.2.2 hx o2 hf2 (by show cells + r.2.2.1 + o2.2.2.1 ≤ _; omega) (by show slots + r.2.2.2 + o2.2.2.2 ≤ _; omega) H1 locs1 ls hok1 hl
  have e1 : mg_Z E s args below (mg_oA f2 o2) (sz + r.2.2.1) (cells + r.2.2.1) (slots + r.2.2.2) = mg_Z E s args below (mg_oA f2 (o2.1, o2.2.1, r.2.2.1 + o2.2.2.1, r.2.2.2 + o2.2.2.2)) sz cells slots := by
    unfold mg_Z mg_oA
    show MQ below (mg_Qc E (f2 o2.1) o2.2.1 (sz + r.2.2.1 + o2.2.2.1)) args s (cells + r.2.2.1 + o2.2.2.1) (slots + r.2.2.2 + o2.2.2.2) _ = MQ below (mg_Qc E (f2 o2.1) o2.2.1 (sz + (r.2.2.1 + o2.2.2.1))) args s (cells + (r.2.2.1 + o2.2.2.1)) (slots + (r.2.2.2 + o2.2.2.2)) _
    rw [Nat.add_assoc, Nat.add_assoc, Nat.add_assoc]
  rw [e1] at q
  exact q
theorem mg_objInit (hC : mg_Cx E p s m args meth c cc nL ret own) {idx a : Nat} (hlink : Cond.methodLink own idx Lib.objectInit ∈ mg_ws) (hinst : Cond.instanceMethod Lib.objectInit ∈ mg_ws) (hcode : Cond.code Lib.objectInit ⟨#[0xb1]⟩ 1 none ∈ mg_ws) (hfr : 1 ≤ R.frames) (hlo : (st.map fun v => v.category).sum + 12 ≤ R.locals) (hdg : decode cc pc = .ok (.invokespecial idx, 3)) (k : mg_G E p l e R s m args below meth c nL out F w sz cells slots (pc + 3) L st) : mg_G E p l e R s m args below meth c nL out F w sz cells slots pc L (.ref a :: st) := fun o hf h1 h2 H locs ls hok hl => by
  have hts := hC.2.2.2.2.1
  exact W.objInit hC.1 hC.2.1 hC.2.2.2.1 (hts _ hlink) (hts _ hinst) (hts _ hcode) rfl (by rw [hC.2.2.1]; exact hl.1) rfl hdg hfr (by show 2 * 0 + _ + 12 ≤ _; omega) (k o hf h1 h2 H locs ls hok hl)
end MGK
/-- a method's contract out of the judgement at its entry -/
theorem mg_meth {ρ : Type} {out : ρ → mg_R} {F : Option ρ} {o : ρ} {E : mg_P} {l : Launch} {y : MethodName} {cc : ByteArray} {maxL : Nat} {ret : Option FieldType} {fr lo : Nat} {av : List Value} {w : mg_H} {sz : Nat} (hy : plainName y.cls = true) (hln : (lg_sl av).length ≤ maxL) (hf : F = some o)
    (body : ∀ (p : Program) (e : Env) (C S : Nat) (s : State) (m : MethodId) (below : List Frame) (meth : Method) (c : Code), mg_Cx E p s m av.toArray meth c cc maxL ret y.cls → meth.name = y.name → mg_G E p l e ({ frames := fr, cells := C, slots := S, locals := lo } : Room) s m av.toArray below meth c maxL out F w sz 0 0 0 (lv_args 0 av) []) : mg_C E l y cc maxL ret fr lo av w sz (out o) := by
  unfold mg_C
  refine Met.ofW (cc := cc) (maxL := maxL) (ret := ret) hy rfl ?_
  intro p e s m args below meth c s₁ B hml hv
  obtain ⟨rfl, hsz, hh, hB, hT⟩ := hv
  have hts := atoms_spec (ws := .code y cc maxL ret :: mg_ws) B.pre
  have hown : s.vm.findClass y.cls = some m.cls := findClass_of_methodNamed B.named
  have hnm : meth.name = y.name := (name_of_methodNamed B.named B.method).1
  have hl := lv_entry av (n := maxL) hln
  rw [lg_entry_eq]
  have q := body p e (out o).2.2.1 (out o).2.2.2 s m below meth c ⟨B.exec, B.bytes, hml, hown, fun x hx => hts x (List.mem_cons_of_mem _ hx), hT, B.returns, B.notSynchronized⟩ hnm o hf (Nat.le_of_eq (Nat.zero_add _)) (Nat.le_of_eq (Nat.zero_add _)) s.heap [] _ ⟨hsz, hh, by omega, by omega, fun _ _ => rfl, fun _ h => by cases h⟩ hl
  unfold mg_Z at q
  rw [Nat.zero_add, Nat.zero_add] at q
  exact q
end
