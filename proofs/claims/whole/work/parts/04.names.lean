/-! the tables (began as the skeleton's first part) and the names (began as the printed names of the claim) -/
/-- a private method of a class that the tables say can be made, by its rows of tables_1 -/
def lw_okq (q : MethodName × Nat) : Prop := (q.1.cls ≠ "java/lang/invoke/MethodHandle" ∧ q.1.cls ≠ "java/lang/invoke/VarHandle") ∧ Cond.instantiable q.1.cls q.2 ∈ tables_1 ∧ Cond.privateMethod q.1 ∈ tables_1 ∧ Cond.instanceMethod q.1 ∈ tables_1
theorem lw_p0 : lw_okq (⟨"DesignTurns", "isTask", "(I)Z"⟩, 11) := ⟨⟨by decide +kernel, by decide +kernel⟩, List.mem_of_getElem? (i := 15) (by decide +kernel), List.mem_of_getElem? (i := 203) (by decide +kernel), List.mem_of_getElem? (i := 204) (by decide +kernel)⟩
theorem lw_p1 : lw_okq (⟨"DesignTurns$Rings", "lean", "(ILDesignTurns$Table;)V"⟩, 3) := ⟨⟨by decide +kernel, by decide +kernel⟩, List.mem_of_getElem? (i := 47) (by decide +kernel), List.mem_of_getElem? (i := 234) (by decide +kernel), List.mem_of_getElem? (i := 235) (by decide +kernel)⟩
theorem lw_p2 : lw_okq (⟨"DesignTurns$Rings", "number", "(I)V"⟩, 3) := ⟨⟨by decide +kernel, by decide +kernel⟩, List.mem_of_getElem? (i := 47) (by decide +kernel), List.mem_of_getElem? (i := 246) (by decide +kernel), List.mem_of_getElem? (i := 247) (by decide +kernel)⟩
theorem lw_p3 : lw_okq (⟨"DesignTurns$Rings", "nextBlock", "(II)I"⟩, 3) := ⟨⟨by decide +kernel, by decide +kernel⟩, List.mem_of_getElem? (i := 47) (by decide +kernel), List.mem_of_getElem? (i := 250) (by decide +kernel), List.mem_of_getElem? (i := 251) (by decide +kernel)⟩
theorem lw_p4 : lw_okq (⟨"DesignTurns$Rings", "blockAround", "(II)I"⟩, 3) := ⟨⟨by decide +kernel, by decide +kernel⟩, List.mem_of_getElem? (i := 47) (by decide +kernel), List.mem_of_getElem? (i := 254) (by decide +kernel), List.mem_of_getElem? (i := 255) (by decide +kernel)⟩
theorem lw_p5 : lw_okq (⟨"DesignTurns$LeastSearch", "leastAfter", "(IILDesignTurns$Table;)I"⟩, 2) := ⟨⟨by decide +kernel, by decide +kernel⟩, List.mem_of_getElem? (i := 63) (by decide +kernel), List.mem_of_getElem? (i := 283) (by decide +kernel), List.mem_of_getElem? (i := 284) (by decide +kernel)⟩
theorem lw_p6 : lw_okq (⟨"DesignTurns$LeastSearch", "guessWithNext", "(IIILDesignTurns$Table;)I"⟩, 2) := ⟨⟨by decide +kernel, by decide +kernel⟩, List.mem_of_getElem? (i := 63) (by decide +kernel), List.mem_of_getElem? (i := 288) (by decide +kernel), List.mem_of_getElem? (i := 289) (by decide +kernel)⟩
theorem lw_p7 : lw_okq (⟨"DesignTurns$LeastSearch", "firstOfLeast", "(IILDesignTurns$Table;)I"⟩, 2) := ⟨⟨by decide +kernel, by decide +kernel⟩, List.mem_of_getElem? (i := 63) (by decide +kernel), List.mem_of_getElem? (i := 307) (by decide +kernel), List.mem_of_getElem? (i := 308) (by decide +kernel)⟩
theorem lw_p8 : lw_okq (⟨"DesignTurns$Returns", "spentFrom", "(II)J"⟩, 3) := ⟨⟨by decide +kernel, by decide +kernel⟩, List.mem_of_getElem? (i := 78) (by decide +kernel), List.mem_of_getElem? (i := 392) (by decide +kernel), List.mem_of_getElem? (i := 393) (by decide +kernel)⟩
theorem lw_p9 : lw_okq (⟨"DesignTurns$Returns", "refine", "(II)V"⟩, 3) := ⟨⟨by decide +kernel, by decide +kernel⟩, List.mem_of_getElem? (i := 78) (by decide +kernel), List.mem_of_getElem? (i := 399) (by decide +kernel), List.mem_of_getElem? (i := 400) (by decide +kernel)⟩
theorem lw_p10 : lw_okq (⟨"DesignTurns$TeamSearch", "mayBeBetter", "(II)Z"⟩, 7) := ⟨⟨by decide +kernel, by decide +kernel⟩, List.mem_of_getElem? (i := 105) (by decide +kernel), List.mem_of_getElem? (i := 472) (by decide +kernel), List.mem_of_getElem? (i := 473) (by decide +kernel)⟩
theorem lw_p11 : lw_okq (⟨"DesignTurns$TeamSearch", "keep", "(II)V"⟩, 7) := ⟨⟨by decide +kernel, by decide +kernel⟩, List.mem_of_getElem? (i := 105) (by decide +kernel), List.mem_of_getElem? (i := 476) (by decide +kernel), List.mem_of_getElem? (i := 477) (by decide +kernel)⟩
theorem lw_p12 : lw_okq (⟨"DesignTurns$TeamSearch", "cutBefore", "(IILDesignTurns$Table;)I"⟩, 7) := ⟨⟨by decide +kernel, by decide +kernel⟩, List.mem_of_getElem? (i := 105) (by decide +kernel), List.mem_of_getElem? (i := 483) (by decide +kernel), List.mem_of_getElem? (i := 484) (by decide +kernel)⟩
theorem lw_p13 : lw_okq (⟨"DesignTurns$Spread", "strongestLeft", "()I"⟩, 2) := ⟨⟨by decide +kernel, by decide +kernel⟩, List.mem_of_getElem? (i := 133) (by decide +kernel), List.mem_of_getElem? (i := 514) (by decide +kernel), List.mem_of_getElem? (i := 515) (by decide +kernel)⟩
theorem lw_p14 : lw_okq (⟨"DesignTurns$Spread", "isLeft", "(I)Z"⟩, 2) := ⟨⟨by decide +kernel, by decide +kernel⟩, List.mem_of_getElem? (i := 133) (by decide +kernel), List.mem_of_getElem? (i := 518) (by decide +kernel), List.mem_of_getElem? (i := 519) (by decide +kernel)⟩
theorem lw_p15 : lw_okq (⟨"DesignTurns$Spread", "passOn", "(ILDesignTurns$Table;)V"⟩, 2) := ⟨⟨by decide +kernel, by decide +kernel⟩, List.mem_of_getElem? (i := 133) (by decide +kernel), List.mem_of_getElem? (i := 522) (by decide +kernel), List.mem_of_getElem? (i := 523) (by decide +kernel)⟩
def lw_privs_1 : List (MethodName × Nat) := [(⟨"DesignTurns", "isTask", "(I)Z"⟩, 11), (⟨"DesignTurns$Rings", "lean", "(ILDesignTurns$Table;)V"⟩, 3), (⟨"DesignTurns$Rings", "number", "(I)V"⟩, 3), (⟨"DesignTurns$Rings", "nextBlock", "(II)I"⟩, 3), (⟨"DesignTurns$Rings", "blockAround", "(II)I"⟩, 3), (⟨"DesignTurns$LeastSearch", "leastAfter", "(IILDesignTurns$Table;)I"⟩, 2), (⟨"DesignTurns$LeastSearch", "guessWithNext", "(IIILDesignTurns$Table;)I"⟩, 2), (⟨"DesignTurns$LeastSearch", "firstOfLeast", "(IILDesignTurns$Table;)I"⟩, 2), (⟨"DesignTurns$Returns", "spentFrom", "(II)J"⟩, 3), (⟨"DesignTurns$Returns", "refine", "(II)V"⟩, 3), (⟨"DesignTurns$TeamSearch", "mayBeBetter", "(II)Z"⟩, 7), (⟨"DesignTurns$TeamSearch", "keep", "(II)V"⟩, 7), (⟨"DesignTurns$TeamSearch", "cutBefore", "(IILDesignTurns$Table;)I"⟩, 7), (⟨"DesignTurns$Spread", "strongestLeft", "()I"⟩, 2), (⟨"DesignTurns$Spread", "isLeft", "(I)Z"⟩, 2), (⟨"DesignTurns$Spread", "passOn", "(ILDesignTurns$Table;)V"⟩, 2)]
theorem lw_r1 : ∀ q ∈ lw_privs_1, lw_okq q := List.forall_mem_cons.mpr ⟨lw_p0, List.forall_mem_cons.mpr ⟨lw_p1, List.forall_mem_cons.mpr ⟨lw_p2, List.forall_mem_cons.mpr ⟨lw_p3, List.forall_mem_cons.mpr ⟨lw_p4, List.forall_mem_cons.mpr ⟨lw_p5, List.forall_mem_cons.mpr ⟨lw_p6, List.forall_mem_cons.mpr ⟨lw_p7, List.forall_mem_cons.mpr ⟨lw_p8, List.forall_mem_cons.mpr ⟨lw_p9, List.forall_mem_cons.mpr ⟨lw_p10, List.forall_mem_cons.mpr ⟨lw_p11, List.forall_mem_cons.mpr ⟨lw_p12, List.forall_mem_cons.mpr ⟨lw_p13, List.forall_mem_cons.mpr ⟨lw_p14, List.forall_mem_cons.mpr ⟨lw_p15, fun _ h => absurd h List.not_mem_nil⟩⟩⟩⟩⟩⟩⟩⟩⟩⟩⟩⟩⟩⟩⟩⟩
theorem lw_p16 : lw_okq (⟨"DesignTurns", "sumOfTimes", "()I"⟩, 11) := ⟨⟨by decide +kernel, by decide +kernel⟩, List.mem_of_getElem? (i := 15) (by decide +kernel), List.mem_of_getElem? (i := 555) (by decide +kernel), List.mem_of_getElem? (i := 556) (by decide +kernel)⟩
theorem lw_p17 : lw_okq (⟨"DesignTurnsModel", "no", "(I)Z"⟩, 16) := ⟨⟨by decide +kernel, by decide +kernel⟩, List.mem_of_getElem? (i := 559) (by decide +kernel), List.mem_of_getElem? (i := 627) (by decide +kernel), List.mem_of_getElem? (i := 628) (by decide +kernel)⟩
theorem lw_p18 : lw_okq (⟨"DesignTurnsModel", "lean", "()V"⟩, 16) := ⟨⟨by decide +kernel, by decide +kernel⟩, List.mem_of_getElem? (i := 559) (by decide +kernel), List.mem_of_getElem? (i := 644) (by decide +kernel), List.mem_of_getElem? (i := 645) (by decide +kernel)⟩
theorem lw_p19 : lw_okq (⟨"DesignTurnsModel", "numbered", "()I"⟩, 16) := ⟨⟨by decide +kernel, by decide +kernel⟩, List.mem_of_getElem? (i := 559) (by decide +kernel), List.mem_of_getElem? (i := 652) (by decide +kernel), List.mem_of_getElem? (i := 653) (by decide +kernel)⟩
theorem lw_p20 : lw_okq (⟨"DesignTurnsModel", "isNext", "(I)Z"⟩, 16) := ⟨⟨by decide +kernel, by decide +kernel⟩, List.mem_of_getElem? (i := 559) (by decide +kernel), List.mem_of_getElem? (i := 656) (by decide +kernel), List.mem_of_getElem? (i := 657) (by decide +kernel)⟩
theorem lw_p21 : lw_okq (⟨"DesignTurnsModel", "isOne", "(II)Z"⟩, 16) := ⟨⟨by decide +kernel, by decide +kernel⟩, List.mem_of_getElem? (i := 559) (by decide +kernel), List.mem_of_getElem? (i := 660) (by decide +kernel), List.mem_of_getElem? (i := 661) (by decide +kernel)⟩
theorem lw_p22 : lw_okq (⟨"DesignTurnsModel", "leastOf", "()I"⟩, 16) := ⟨⟨by decide +kernel, by decide +kernel⟩, List.mem_of_getElem? (i := 559) (by decide +kernel), List.mem_of_getElem? (i := 672) (by decide +kernel), List.mem_of_getElem? (i := 673) (by decide +kernel)⟩
theorem lw_p23 : lw_okq (⟨"DesignTurnsModel", "guessed", "(II)I"⟩, 16) := ⟨⟨by decide +kernel, by decide +kernel⟩, List.mem_of_getElem? (i := 559) (by decide +kernel), List.mem_of_getElem? (i := 676) (by decide +kernel), List.mem_of_getElem? (i := 677) (by decide +kernel)⟩
theorem lw_p24 : lw_okq (⟨"DesignTurnsModel", "leastRow", "()V"⟩, 16) := ⟨⟨by decide +kernel, by decide +kernel⟩, List.mem_of_getElem? (i := 559) (by decide +kernel), List.mem_of_getElem? (i := 684) (by decide +kernel), List.mem_of_getElem? (i := 685) (by decide +kernel)⟩
theorem lw_p25 : lw_okq (⟨"DesignTurnsModel", "guessOf", "()I"⟩, 16) := ⟨⟨by decide +kernel, by decide +kernel⟩, List.mem_of_getElem? (i := 559) (by decide +kernel), List.mem_of_getElem? (i := 700) (by decide +kernel), List.mem_of_getElem? (i := 701) (by decide +kernel)⟩
theorem lw_p26 : lw_okq (⟨"DesignTurnsModel", "placeOf", "(I)I"⟩, 16) := ⟨⟨by decide +kernel, by decide +kernel⟩, List.mem_of_getElem? (i := 559) (by decide +kernel), List.mem_of_getElem? (i := 716) (by decide +kernel), List.mem_of_getElem? (i := 717) (by decide +kernel)⟩
theorem lw_p27 : lw_okq (⟨"DesignTurnsModel", "meanOf", "(IZ)J"⟩, 16) := ⟨⟨by decide +kernel, by decide +kernel⟩, List.mem_of_getElem? (i := 559) (by decide +kernel), List.mem_of_getElem? (i := 729) (by decide +kernel), List.mem_of_getElem? (i := 730) (by decide +kernel)⟩
theorem lw_p28 : lw_okq (⟨"DesignTurnsModel", "beside", "()I"⟩, 16) := ⟨⟨by decide +kernel, by decide +kernel⟩, List.mem_of_getElem? (i := 559) (by decide +kernel), List.mem_of_getElem? (i := 746) (by decide +kernel), List.mem_of_getElem? (i := 747) (by decide +kernel)⟩
theorem lw_p29 : lw_okq (⟨"DesignTurnsModel", "teams", "(I)V"⟩, 16) := ⟨⟨by decide +kernel, by decide +kernel⟩, List.mem_of_getElem? (i := 559) (by decide +kernel), List.mem_of_getElem? (i := 758) (by decide +kernel), List.mem_of_getElem? (i := 759) (by decide +kernel)⟩
theorem lw_p30 : lw_okq (⟨"DesignTurnsModel", "teamsOf", "(I)I"⟩, 16) := ⟨⟨by decide +kernel, by decide +kernel⟩, List.mem_of_getElem? (i := 559) (by decide +kernel), List.mem_of_getElem? (i := 762) (by decide +kernel), List.mem_of_getElem? (i := 763) (by decide +kernel)⟩
theorem lw_p31 : lw_okq (⟨"DesignTurnsModel", "betweenOf", "()I"⟩, 16) := ⟨⟨by decide +kernel, by decide +kernel⟩, List.mem_of_getElem? (i := 559) (by decide +kernel), List.mem_of_getElem? (i := 766) (by decide +kernel), List.mem_of_getElem? (i := 767) (by decide +kernel)⟩
def lw_privs_2 : List (MethodName × Nat) := [(⟨"DesignTurns", "sumOfTimes", "()I"⟩, 11), (⟨"DesignTurnsModel", "no", "(I)Z"⟩, 16), (⟨"DesignTurnsModel", "lean", "()V"⟩, 16), (⟨"DesignTurnsModel", "numbered", "()I"⟩, 16), (⟨"DesignTurnsModel", "isNext", "(I)Z"⟩, 16), (⟨"DesignTurnsModel", "isOne", "(II)Z"⟩, 16), (⟨"DesignTurnsModel", "leastOf", "()I"⟩, 16), (⟨"DesignTurnsModel", "guessed", "(II)I"⟩, 16), (⟨"DesignTurnsModel", "leastRow", "()V"⟩, 16), (⟨"DesignTurnsModel", "guessOf", "()I"⟩, 16), (⟨"DesignTurnsModel", "placeOf", "(I)I"⟩, 16), (⟨"DesignTurnsModel", "meanOf", "(IZ)J"⟩, 16), (⟨"DesignTurnsModel", "beside", "()I"⟩, 16), (⟨"DesignTurnsModel", "teams", "(I)V"⟩, 16), (⟨"DesignTurnsModel", "teamsOf", "(I)I"⟩, 16), (⟨"DesignTurnsModel", "betweenOf", "()I"⟩, 16)]
theorem lw_r2 : ∀ q ∈ lw_privs_2, lw_okq q := List.forall_mem_cons.mpr ⟨lw_p16, List.forall_mem_cons.mpr ⟨lw_p17, List.forall_mem_cons.mpr ⟨lw_p18, List.forall_mem_cons.mpr ⟨lw_p19, List.forall_mem_cons.mpr ⟨lw_p20, List.forall_mem_cons.mpr ⟨lw_p21, List.forall_mem_cons.mpr ⟨lw_p22, List.forall_mem_cons.mpr ⟨lw_p23, List.forall_mem_cons.mpr ⟨lw_p24, List.forall_mem_cons.mpr ⟨lw_p25, List.forall_mem_cons.mpr ⟨lw_p26, List.forall_mem_cons.mpr ⟨lw_p27, List.forall_mem_cons.mpr ⟨lw_p28, List.forall_mem_cons.mpr ⟨lw_p29, List.forall_mem_cons.mpr ⟨lw_p30, List.forall_mem_cons.mpr ⟨lw_p31, fun _ h => absurd h List.not_mem_nil⟩⟩⟩⟩⟩⟩⟩⟩⟩⟩⟩⟩⟩⟩⟩⟩
theorem lw_p32 : lw_okq (⟨"DesignTurnsModel", "isMore", "()Z"⟩, 16) := ⟨⟨by decide +kernel, by decide +kernel⟩, List.mem_of_getElem? (i := 559) (by decide +kernel), List.mem_of_getElem? (i := 770) (by decide +kernel), List.mem_of_getElem? (i := 771) (by decide +kernel)⟩
theorem lw_p33 : lw_okq (⟨"DesignTurnsModel", "greatest", "(I)I"⟩, 16) := ⟨⟨by decide +kernel, by decide +kernel⟩, List.mem_of_getElem? (i := 559) (by decide +kernel), List.mem_of_getElem? (i := 774) (by decide +kernel), List.mem_of_getElem? (i := 775) (by decide +kernel)⟩
theorem lw_p34 : lw_okq (⟨"DesignTurnsModel", "forces", "(I)V"⟩, 16) := ⟨⟨by decide +kernel, by decide +kernel⟩, List.mem_of_getElem? (i := 559) (by decide +kernel), List.mem_of_getElem? (i := 786) (by decide +kernel), List.mem_of_getElem? (i := 787) (by decide +kernel)⟩
def lw_privs_3 : List (MethodName × Nat) := [(⟨"DesignTurnsModel", "isMore", "()Z"⟩, 16), (⟨"DesignTurnsModel", "greatest", "(I)I"⟩, 16), (⟨"DesignTurnsModel", "forces", "(I)V"⟩, 16)]
theorem lw_r3 : ∀ q ∈ lw_privs_3, lw_okq q := List.forall_mem_cons.mpr ⟨lw_p32, List.forall_mem_cons.mpr ⟨lw_p33, List.forall_mem_cons.mpr ⟨lw_p34, fun _ h => absurd h List.not_mem_nil⟩⟩⟩
def lw_privs : List (MethodName × Nat) := lw_privs_1 ++ (lw_privs_2 ++ (lw_privs_3))
def lw_tbl : List Cond := k2_sels lw_privs ++ tables_1
theorem lw_privs_ok : ∀ q ∈ lw_privs, lw_okq q := by
  show ∀ q ∈ lw_privs_1 ++ (lw_privs_2 ++ (lw_privs_3)), lw_okq q
  exact List.forall_mem_append.mpr ⟨lw_r1, List.forall_mem_append.mpr ⟨lw_r2, lw_r3⟩⟩
def R_law : String := "DesignTurnsLaw"
def RX0 : String := "DesignTurns$Beside"
def TX0 : u_T := fun k => match k with
  | _ => ("DesignTurns$Beside", "endsByPlace", "[I", true)
def tyX0 : Nat → FieldType := fun k => match k with
  | _ => .array .int
abbrev wsX00 : List Cond := u_ws RX0 TX0 1
theorem nmX0 : ∀ a, a < 1 → ∀ b, b < 1 → a ≠ b → (TX0 a).2.1 ≠ (TX0 b).2.1 := by decide +kernel
theorem tyX0_ok : ∀ k, k < 1 → parseFieldDescriptor (TX0 k).2.2.1 = some (tyX0 k) := by decide +kernel
abbrev cX0_init : ByteArray := prog_2_method_1_code
def yX0_init : MethodName := ⟨RX0, "<init>", "()V"⟩
abbrev cX0_endAt : ByteArray := prog_2_method_2_code
def yX0_endAt : MethodName := ⟨RX0, "endAt", "(I)I"⟩
abbrev cX0_latest : ByteArray := prog_2_method_3_code
def yX0_latest : MethodName := ⟨RX0, "latest", "()I"⟩
abbrev cX0_reckon : ByteArray := prog_2_method_4_code
def yX0_reckon : MethodName := ⟨RX0, "reckon", "(LDesignTurns$Order;LDesignTurns$Table;[I)V"⟩
def RX1 : String := "DesignTurns$LeastSearch"
def TX1 : u_T := fun k => match k with
  | 0 => ("DesignTurns$LeastSearch", "guesses", "[I", true)
  | _ => ("DesignTurns$LeastSearch", "order", "LDesignTurns$Order;", true)
def tyX1 : Nat → FieldType := fun k => match k with
  | 0 => .array .int
  | _ => .object "DesignTurns$Order"
abbrev wsX10 : List Cond := u_ws RX1 TX1 2
theorem nmX1 : ∀ a, a < 2 → ∀ b, b < 2 → a ≠ b → (TX1 a).2.1 ≠ (TX1 b).2.1 := by decide +kernel
theorem tyX1_ok : ∀ k, k < 2 → parseFieldDescriptor (TX1 k).2.2.1 = some (tyX1 k) := by decide +kernel
abbrev cX1_init : ByteArray := prog_3_method_1_code
def yX1_init : MethodName := ⟨RX1, "<init>", "()V"⟩
abbrev cX1_leastGuess : ByteArray := prog_3_method_2_code
def yX1_leastGuess : MethodName := ⟨RX1, "leastGuess", "(ILDesignTurns$Table;)I"⟩
abbrev cX1_find : ByteArray := prog_3_method_3_code
def yX1_find : MethodName := ⟨RX1, "find", "(ILDesignTurns$Table;)LDesignTurns$Order;"⟩
abbrev cX1_leastAfter : ByteArray := prog_3_method_4_code
def yX1_leastAfter : MethodName := ⟨RX1, "leastAfter", "(IILDesignTurns$Table;)I"⟩
abbrev cX1_firstOfLeast : ByteArray := prog_3_method_5_code
def yX1_firstOfLeast : MethodName := ⟨RX1, "firstOfLeast", "(IILDesignTurns$Table;)I"⟩
abbrev cX1_guessWithNext : ByteArray := prog_3_method_6_code
def yX1_guessWithNext : MethodName := ⟨RX1, "guessWithNext", "(IIILDesignTurns$Table;)I"⟩
def RX2 : String := "DesignTurns$Order"
def TX2 : u_T := fun k => match k with
  | 0 => ("DesignTurns$Order", "tasks", "[I", true)
  | _ => ("DesignTurns$Order", "length", "I", false)
def tyX2 : Nat → FieldType := fun k => match k with
  | 0 => .array .int
  | _ => .int
abbrev wsX20 : List Cond := u_ws RX2 TX2 2
theorem nmX2 : ∀ a, a < 2 → ∀ b, b < 2 → a ≠ b → (TX2 a).2.1 ≠ (TX2 b).2.1 := by decide +kernel
theorem tyX2_ok : ∀ k, k < 2 → parseFieldDescriptor (TX2 k).2.2.1 = some (tyX2 k) := by decide +kernel
abbrev cX2_init : ByteArray := prog_4_method_1_code
def yX2_init : MethodName := ⟨RX2, "<init>", "()V"⟩
abbrev cX2_hasPlace : ByteArray := prog_4_method_2_code
def yX2_hasPlace : MethodName := ⟨RX2, "hasPlace", "(I)Z"⟩
abbrev cX2_length : ByteArray := prog_4_method_3_code
def yX2_length : MethodName := ⟨RX2, "length", "()I"⟩
abbrev cX2_taskAt : ByteArray := prog_4_method_4_code
def yX2_taskAt : MethodName := ⟨RX2, "taskAt", "(I)I"⟩
abbrev cX2_placeOf : ByteArray := prog_4_method_5_code
def yX2_placeOf : MethodName := ⟨RX2, "placeOf", "(I)I"⟩
abbrev cX2_clear : ByteArray := prog_4_method_6_code
def yX2_clear : MethodName := ⟨RX2, "clear", "()V"⟩
abbrev cX2_add : ByteArray := prog_4_method_7_code
def yX2_add : MethodName := ⟨RX2, "add", "(I)V"⟩
abbrev cX2_restart : ByteArray := prog_4_method_8_code
def yX2_restart : MethodName := ⟨RX2, "restart", "(I)V"⟩
abbrev cX2_become : ByteArray := prog_4_method_9_code
def yX2_become : MethodName := ⟨RX2, "become", "(LDesignTurns$Order;)V"⟩
abbrev cX2_exchange : ByteArray := prog_4_method_10_code
def yX2_exchange : MethodName := ⟨RX2, "exchange", "(II)V"⟩
abbrev cX2_guessOf : ByteArray := prog_4_method_11_code
def yX2_guessOf : MethodName := ⟨RX2, "guessOf", "(LDesignTurns$Table;)I"⟩
def RX3 : String := "DesignTurns$Returns"
def TX3 : u_T := fun k => match k with
  | 0 => ("DesignTurns$Returns", "spent", "[J", true)
  | 1 => ("DesignTurns$Returns", "costsOfOne", "[I", true)
  | _ => ("DesignTurns$Returns", "below", "J", false)
def tyX3 : Nat → FieldType := fun k => match k with
  | 0 => .array .long
  | 1 => .array .int
  | _ => .long
abbrev wsX30 : List Cond := u_ws RX3 TX3 3
theorem nmX3 : ∀ a, a < 3 → ∀ b, b < 3 → a ≠ b → (TX3 a).2.1 ≠ (TX3 b).2.1 := by decide +kernel
theorem tyX3_ok : ∀ k, k < 3 → parseFieldDescriptor (TX3 k).2.2.1 = some (tyX3 k) := by decide +kernel
abbrev cX3_init : ByteArray := prog_5_method_1_code
def yX3_init : MethodName := ⟨RX3, "<init>", "()V"⟩
abbrev cX3_above : ByteArray := prog_5_method_2_code
def yX3_above : MethodName := ⟨RX3, "above", "()J"⟩
abbrev cX3_below : ByteArray := prog_5_method_3_code
def yX3_below : MethodName := ⟨RX3, "below", "()J"⟩
abbrev cX3_reckonOne : ByteArray := prog_5_method_4_code
def yX3_reckonOne : MethodName := ⟨RX3, "reckonOne", "(LDesignTurns$Order;LDesignTurns$Table;I)V"⟩
abbrev cX3_reckon : ByteArray := prog_5_method_5_code
def yX3_reckon : MethodName := ⟨RX3, "reckon", "(LDesignTurns$Order;LDesignTurns$Table;[I)V"⟩
abbrev cX3_spentFrom : ByteArray := prog_5_method_6_code
def yX3_spentFrom : MethodName := ⟨RX3, "spentFrom", "(II)J"⟩
abbrev cX3_refine : ByteArray := prog_5_method_7_code
def yX3_refine : MethodName := ⟨RX3, "refine", "(II)V"⟩
def RX4 : String := "DesignTurns$Rings"
def TX4 : u_T := fun k => match k with
  | 0 => ("DesignTurns$Rings", "leaning", "[I", true)
  | 1 => ("DesignTurns$Rings", "numbers", "[I", true)
  | _ => ("DesignTurns$Rings", "many", "I", false)
def tyX4 : Nat → FieldType := fun k => match k with
  | 0 => .array .int
  | 1 => .array .int
  | _ => .int
abbrev wsX40 : List Cond := u_ws RX4 TX4 3
theorem nmX4 : ∀ a, a < 3 → ∀ b, b < 3 → a ≠ b → (TX4 a).2.1 ≠ (TX4 b).2.1 := by decide +kernel
theorem tyX4_ok : ∀ k, k < 3 → parseFieldDescriptor (TX4 k).2.2.1 = some (tyX4 k) := by decide +kernel
abbrev cX4_init : ByteArray := prog_6_method_1_code
def yX4_init : MethodName := ⟨RX4, "<init>", "()V"⟩
abbrev cX4_isLeaning : ByteArray := prog_6_method_2_code
def yX4_isLeaning : MethodName := ⟨RX4, "isLeaning", "(II)Z"⟩
abbrev cX4_howMany : ByteArray := prog_6_method_3_code
def yX4_howMany : MethodName := ⟨RX4, "howMany", "()I"⟩
abbrev cX4_numberOf : ByteArray := prog_6_method_4_code
def yX4_numberOf : MethodName := ⟨RX4, "numberOf", "(I)I"⟩
abbrev cX4_find : ByteArray := prog_6_method_5_code
def yX4_find : MethodName := ⟨RX4, "find", "(ILDesignTurns$Table;)V"⟩
abbrev cX4_lean : ByteArray := prog_6_method_6_code
def yX4_lean : MethodName := ⟨RX4, "lean", "(ILDesignTurns$Table;)V"⟩
abbrev cX4_number : ByteArray := prog_6_method_7_code
def yX4_number : MethodName := ⟨RX4, "number", "(I)V"⟩
abbrev cX4_nextBlock : ByteArray := prog_6_method_8_code
def yX4_nextBlock : MethodName := ⟨RX4, "nextBlock", "(II)I"⟩
abbrev cX4_blockAround : ByteArray := prog_6_method_9_code
def yX4_blockAround : MethodName := ⟨RX4, "blockAround", "(II)I"⟩
def RX5 : String := "DesignTurns$Spread"
def TX5 : u_T := fun k => match k with
  | 0 => ("DesignTurns$Spread", "forces", "[I", true)
  | _ => ("DesignTurns$Spread", "settled", "I", false)
def tyX5 : Nat → FieldType := fun k => match k with
  | 0 => .array .int
  | _ => .int
abbrev wsX50 : List Cond := u_ws RX5 TX5 2
theorem nmX5 : ∀ a, a < 2 → ∀ b, b < 2 → a ≠ b → (TX5 a).2.1 ≠ (TX5 b).2.1 := by decide +kernel
theorem tyX5_ok : ∀ k, k < 2 → parseFieldDescriptor (TX5 k).2.2.1 = some (tyX5 k) := by decide +kernel
abbrev cX5_init : ByteArray := prog_7_method_1_code
def yX5_init : MethodName := ⟨RX5, "<init>", "()V"⟩
abbrev cX5_forceAt : ByteArray := prog_7_method_2_code
def yX5_forceAt : MethodName := ⟨RX5, "forceAt", "(I)I"⟩
abbrev cX5_howMany : ByteArray := prog_7_method_3_code
def yX5_howMany : MethodName := ⟨RX5, "howMany", "(I)I"⟩
abbrev cX5_from : ByteArray := prog_7_method_4_code
def yX5_from : MethodName := ⟨RX5, "from", "(IILDesignTurns$Table;)V"⟩
abbrev cX5_strongestLeft : ByteArray := prog_7_method_5_code
def yX5_strongestLeft : MethodName := ⟨RX5, "strongestLeft", "()I"⟩
abbrev cX5_passOn : ByteArray := prog_7_method_6_code
def yX5_passOn : MethodName := ⟨RX5, "passOn", "(ILDesignTurns$Table;)V"⟩
abbrev cX5_isLeft : ByteArray := prog_7_method_7_code
def yX5_isLeft : MethodName := ⟨RX5, "isLeft", "(I)Z"⟩
def RX6 : String := "DesignTurns$Table"
def TX6 : u_T := fun k => match k with
  | _ => ("DesignTurns$Table", "values", "[I", true)
def tyX6 : Nat → FieldType := fun k => match k with
  | _ => .array .int
abbrev wsX60 : List Cond := u_ws RX6 TX6 1
theorem nmX6 : ∀ a, a < 1 → ∀ b, b < 1 → a ≠ b → (TX6 a).2.1 ≠ (TX6 b).2.1 := by decide +kernel
theorem tyX6_ok : ∀ k, k < 1 → parseFieldDescriptor (TX6 k).2.2.1 = some (tyX6 k) := by decide +kernel
abbrev cX6_init : ByteArray := prog_8_method_1_code
def yX6_init : MethodName := ⟨RX6, "<init>", "()V"⟩
abbrev cX6_get : ByteArray := prog_8_method_2_code
def yX6_get : MethodName := ⟨RX6, "get", "(II)I"⟩
abbrev cX6_bothWays : ByteArray := prog_8_method_3_code
def yX6_bothWays : MethodName := ⟨RX6, "bothWays", "(II)I"⟩
abbrev cX6_put : ByteArray := prog_8_method_4_code
def yX6_put : MethodName := ⟨RX6, "put", "(III)I"⟩
abbrev cX6_sumOfRow : ByteArray := prog_8_method_5_code
def yX6_sumOfRow : MethodName := ⟨RX6, "sumOfRow", "(I)I"⟩
abbrev cX6_sum : ByteArray := prog_8_method_6_code
def yX6_sum : MethodName := ⟨RX6, "sum", "()I"⟩
abbrev cX6_howMany : ByteArray := prog_8_method_7_code
def yX6_howMany : MethodName := ⟨RX6, "howMany", "()I"⟩
abbrev cX6_holds : ByteArray := prog_8_method_8_code
def yX6_holds : MethodName := ⟨RX6, "holds", "(II)Z"⟩
def RX7 : String := "DesignTurns$TeamSearch"
def TX7 : u_T := fun k => match k with
  | 0 => ("DesignTurns$TeamSearch", "tried", "[I", true)
  | 1 => ("DesignTurns$TeamSearch", "best", "[I", true)
  | 2 => ("DesignTurns$TeamSearch", "sizes", "[I", true)
  | 3 => ("DesignTurns$TeamSearch", "count", "I", false)
  | 4 => ("DesignTurns$TeamSearch", "mostInTeam", "I", false)
  | 5 => ("DesignTurns$TeamSearch", "leastBetween", "I", false)
  | _ => ("DesignTurns$TeamSearch", "fewest", "I", false)
def tyX7 : Nat → FieldType := fun k => match k with
  | 0 => .array .int
  | 1 => .array .int
  | 2 => .array .int
  | 3 => .int
  | 4 => .int
  | 5 => .int
  | _ => .int
abbrev wsX70 : List Cond := u_ws RX7 TX7 7
theorem nmX7 : ∀ a, a < 7 → ∀ b, b < 7 → a ≠ b → (TX7 a).2.1 ≠ (TX7 b).2.1 := by decide +kernel
theorem tyX7_ok : ∀ k, k < 7 → parseFieldDescriptor (TX7 k).2.2.1 = some (tyX7 k) := by decide +kernel
abbrev cX7_init : ByteArray := prog_9_method_1_code
def yX7_init : MethodName := ⟨RX7, "<init>", "()V"⟩
abbrev cX7_leastBetween : ByteArray := prog_9_method_2_code
def yX7_leastBetween : MethodName := ⟨RX7, "leastBetween", "()I"⟩
abbrev cX7_teamOf : ByteArray := prog_9_method_3_code
def yX7_teamOf : MethodName := ⟨RX7, "teamOf", "(I)I"⟩
abbrev cX7_find : ByteArray := prog_9_method_4_code
def yX7_find : MethodName := ⟨RX7, "find", "(ILDesignTurns$Table;I)V"⟩
abbrev cX7_assign : ByteArray := prog_9_method_5_code
def yX7_assign : MethodName := ⟨RX7, "assign", "(LDesignTurns$TeamSearch;LDesignTurns$Table;III)V"⟩
abbrev cX7_mayBeBetter : ByteArray := prog_9_method_6_code
def yX7_mayBeBetter : MethodName := ⟨RX7, "mayBeBetter", "(II)Z"⟩
abbrev cX7_keep : ByteArray := prog_9_method_7_code
def yX7_keep : MethodName := ⟨RX7, "keep", "(II)V"⟩
abbrev cX7_cutBefore : ByteArray := prog_9_method_8_code
def yX7_cutBefore : MethodName := ⟨RX7, "cutBefore", "(IILDesignTurns$Table;)I"⟩
def RX8 : String := "DesignTurns"
def TX8 : u_T := fun k => match k with
  | 0 => ("DesignTurns", "times", "[I", true)
  | 1 => ("DesignTurns", "needs", "LDesignTurns$Table;", true)
  | 2 => ("DesignTurns", "chances", "LDesignTurns$Table;", true)
  | 3 => ("DesignTurns", "toldOrder", "LDesignTurns$Order;", true)
  | 4 => ("DesignTurns", "rings", "LDesignTurns$Rings;", true)
  | 5 => ("DesignTurns", "leastSearch", "LDesignTurns$LeastSearch;", true)
  | 6 => ("DesignTurns", "returns", "LDesignTurns$Returns;", true)
  | 7 => ("DesignTurns", "beside", "LDesignTurns$Beside;", true)
  | 8 => ("DesignTurns", "teamSearch", "LDesignTurns$TeamSearch;", true)
  | 9 => ("DesignTurns", "spread", "LDesignTurns$Spread;", true)
  | _ => ("DesignTurns", "count", "I", false)
def tyX8 : Nat → FieldType := fun k => match k with
  | 0 => .array .int
  | 1 => .object "DesignTurns$Table"
  | 2 => .object "DesignTurns$Table"
  | 3 => .object "DesignTurns$Order"
  | 4 => .object "DesignTurns$Rings"
  | 5 => .object "DesignTurns$LeastSearch"
  | 6 => .object "DesignTurns$Returns"
  | 7 => .object "DesignTurns$Beside"
  | 8 => .object "DesignTurns$TeamSearch"
  | 9 => .object "DesignTurns$Spread"
  | _ => .int
abbrev wsX80 : List Cond := u_ws RX8 TX8 11
theorem nmX8 : ∀ a, a < 11 → ∀ b, b < 11 → a ≠ b → (TX8 a).2.1 ≠ (TX8 b).2.1 := by decide +kernel
theorem tyX8_ok : ∀ k, k < 11 → parseFieldDescriptor (TX8 k).2.2.1 = some (tyX8 k) := by decide +kernel
abbrev cX8_init : ByteArray := prog_1_method_1_code
def yX8_init : MethodName := ⟨RX8, "<init>", "()V"⟩
abbrev cX8_task : ByteArray := prog_1_method_2_code
def yX8_task : MethodName := ⟨RX8, "task", "(I)I"⟩
abbrev cX8_time : ByteArray := prog_1_method_3_code
def yX8_time : MethodName := ⟨RX8, "time", "(II)I"⟩
abbrev cX8_need : ByteArray := prog_1_method_4_code
def yX8_need : MethodName := ⟨RX8, "need", "(III)I"⟩
abbrev cX8_strength : ByteArray := prog_1_method_5_code
def yX8_strength : MethodName := ⟨RX8, "strength", "(II)I"⟩
abbrev cX8_leans : ByteArray := prog_1_method_6_code
def yX8_leans : MethodName := ⟨RX8, "leans", "(II)I"⟩
abbrev cX8_blocks : ByteArray := prog_1_method_7_code
def yX8_blocks : MethodName := ⟨RX8, "blocks", "()I"⟩
abbrev cX8_block : ByteArray := prog_1_method_8_code
def yX8_block : MethodName := ⟨RX8, "block", "(I)I"⟩
abbrev cX8_least : ByteArray := prog_1_method_9_code
def yX8_least : MethodName := ⟨RX8, "least", "()I"⟩
abbrev cX8_leastAt : ByteArray := prog_1_method_10_code
def yX8_leastAt : MethodName := ⟨RX8, "leastAt", "(I)I"⟩
abbrev cX8_saved : ByteArray := prog_1_method_11_code
def yX8_saved : MethodName := ⟨RX8, "saved", "(II)I"⟩
abbrev cX8_at : ByteArray := prog_1_method_12_code
def yX8_at : MethodName := ⟨RX8, "at", "(I)I"⟩
abbrev cX8_swap : ByteArray := prog_1_method_13_code
def yX8_swap : MethodName := ⟨RX8, "swap", "(II)I"⟩
abbrev cX8_take : ByteArray := prog_1_method_14_code
def yX8_take : MethodName := ⟨RX8, "take", "()I"⟩
abbrev cX8_guess : ByteArray := prog_1_method_15_code
def yX8_guess : MethodName := ⟨RX8, "guess", "()I"⟩
abbrev cX8_torn : ByteArray := prog_1_method_16_code
def yX8_torn : MethodName := ⟨RX8, "torn", "(II)I"⟩
abbrev cX8_chance : ByteArray := prog_1_method_17_code
def yX8_chance : MethodName := ⟨RX8, "chance", "(III)I"⟩
abbrev cX8_mean : ByteArray := prog_1_method_18_code
def yX8_mean : MethodName := ⟨RX8, "mean", "(Z)J"⟩
abbrev cX8_often : ByteArray := prog_1_method_19_code
def yX8_often : MethodName := ⟨RX8, "often", "(IZ)J"⟩
abbrev cX8_ends : ByteArray := prog_1_method_20_code
def yX8_ends : MethodName := ⟨RX8, "ends", "(I)I"⟩
abbrev cX8_span : ByteArray := prog_1_method_21_code
def yX8_span : MethodName := ⟨RX8, "span", "()I"⟩
abbrev cX8_between : ByteArray := prog_1_method_22_code
def yX8_between : MethodName := ⟨RX8, "between", "(I)I"⟩
abbrev cX8_team : ByteArray := prog_1_method_23_code
def yX8_team : MethodName := ⟨RX8, "team", "(II)I"⟩
abbrev cX8_force : ByteArray := prog_1_method_24_code
def yX8_force : MethodName := ⟨RX8, "force", "(IIZ)J"⟩
abbrev cX8_reach : ByteArray := prog_1_method_25_code
def yX8_reach : MethodName := ⟨RX8, "reach", "(II)I"⟩
abbrev cX8_total : ByteArray := prog_1_method_26_code
def yX8_total : MethodName := ⟨RX8, "total", "(I)I"⟩
abbrev cX8_isTask : ByteArray := prog_1_method_27_code
def yX8_isTask : MethodName := ⟨RX8, "isTask", "(I)Z"⟩
abbrev cX8_isTime : ByteArray := prog_1_method_28_code
def yX8_isTime : MethodName := ⟨RX8, "isTime", "(I)Z"⟩
abbrev cX8_isTeamSize : ByteArray := prog_1_method_29_code
def yX8_isTeamSize : MethodName := ⟨RX8, "isTeamSize", "(I)Z"⟩
abbrev cX8_sumOfTimes : ByteArray := prog_1_method_30_code
def yX8_sumOfTimes : MethodName := ⟨RX8, "sumOfTimes", "()I"⟩
abbrev cX8_inLeastTerms : ByteArray := prog_1_method_31_code
def yX8_inLeastTerms : MethodName := ⟨RX8, "inLeastTerms", "(JJZ)J"⟩
abbrev cX8_commonDivisor : ByteArray := prog_1_method_32_code
def yX8_commonDivisor : MethodName := ⟨RX8, "commonDivisor", "(JJ)J"⟩
abbrev cX8_valueOf : ByteArray := prog_1_method_33_code
def yX8_valueOf : MethodName := ⟨RX8, "valueOf", "([II)I"⟩
def RX9 : String := "DesignTurnsModel"
def TX9 : u_T := fun k => match k with
  | 0 => ("DesignTurnsModel", "thrown", "I", false)
  | 1 => ("DesignTurnsModel", "tasks", "I", false)
  | 2 => ("DesignTurnsModel", "time", "[I", true)
  | 3 => ("DesignTurnsModel", "need", "[I", true)
  | 4 => ("DesignTurnsModel", "chance", "[I", true)
  | 5 => ("DesignTurnsModel", "order", "[I", true)
  | 6 => ("DesignTurnsModel", "rest", "[I", true)
  | 7 => ("DesignTurnsModel", "leans", "[Z", true)
  | 8 => ("DesignTurnsModel", "block", "[I", true)
  | 9 => ("DesignTurnsModel", "above", "[J", true)
  | 10 => ("DesignTurnsModel", "below", "[J", true)
  | 11 => ("DesignTurnsModel", "ends", "[I", true)
  | 12 => ("DesignTurnsModel", "row", "[I", true)
  | 13 => ("DesignTurnsModel", "best", "[I", true)
  | 14 => ("DesignTurnsModel", "between", "I", false)
  | _ => ("DesignTurnsModel", "force", "[J", true)
def tyX9 : Nat → FieldType := fun k => match k with
  | 0 => .int
  | 1 => .int
  | 2 => .array .int
  | 3 => .array .int
  | 4 => .array .int
  | 5 => .array .int
  | 6 => .array .int
  | 7 => .array .boolean
  | 8 => .array .int
  | 9 => .array .long
  | 10 => .array .long
  | 11 => .array .int
  | 12 => .array .int
  | 13 => .array .int
  | 14 => .int
  | _ => .array .long
abbrev wsX90 : List Cond := u_ws RX9 TX9 16
theorem nmX9 : ∀ a, a < 16 → ∀ b, b < 16 → a ≠ b → (TX9 a).2.1 ≠ (TX9 b).2.1 := by decide +kernel
theorem tyX9_ok : ∀ k, k < 16 → parseFieldDescriptor (TX9 k).2.2.1 = some (tyX9 k) := by decide +kernel
abbrev cX9_init : ByteArray := prog_11_method_1_code
def yX9_init : MethodName := ⟨RX9, "<init>", "()V"⟩
abbrev cX9_in : ByteArray := prog_11_method_3_code
def yX9_in : MethodName := ⟨RX9, "in", "(JJJ)Z"⟩
abbrev cX9_no : ByteArray := prog_11_method_4_code
def yX9_no : MethodName := ⟨RX9, "no", "(I)Z"⟩
abbrev cX9_told : ByteArray := prog_11_method_5_code
def yX9_told : MethodName := ⟨RX9, "told", "(JJZ)J"⟩
abbrev cX9_task : ByteArray := prog_11_method_6_code
def yX9_task : MethodName := ⟨RX9, "task", "(I)I"⟩
abbrev cX9_time : ByteArray := prog_11_method_7_code
def yX9_time : MethodName := ⟨RX9, "time", "(II)I"⟩
abbrev cX9_need : ByteArray := prog_11_method_8_code
def yX9_need : MethodName := ⟨RX9, "need", "(III)I"⟩
abbrev cX9_strength : ByteArray := prog_11_method_9_code
def yX9_strength : MethodName := ⟨RX9, "strength", "(II)I"⟩
abbrev cX9_lean : ByteArray := prog_11_method_10_code
def yX9_lean : MethodName := ⟨RX9, "lean", "()V"⟩
abbrev cX9_leans : ByteArray := prog_11_method_11_code
def yX9_leans : MethodName := ⟨RX9, "leans", "(II)I"⟩
abbrev cX9_isOne : ByteArray := prog_11_method_12_code
def yX9_isOne : MethodName := ⟨RX9, "isOne", "(II)Z"⟩
abbrev cX9_isNext : ByteArray := prog_11_method_13_code
def yX9_isNext : MethodName := ⟨RX9, "isNext", "(I)Z"⟩
abbrev cX9_numbered : ByteArray := prog_11_method_14_code
def yX9_numbered : MethodName := ⟨RX9, "numbered", "()I"⟩
abbrev cX9_blocks : ByteArray := prog_11_method_15_code
def yX9_blocks : MethodName := ⟨RX9, "blocks", "()I"⟩
abbrev cX9_block : ByteArray := prog_11_method_16_code
def yX9_block : MethodName := ⟨RX9, "block", "(I)I"⟩
abbrev cX9_guessed : ByteArray := prog_11_method_17_code
def yX9_guessed : MethodName := ⟨RX9, "guessed", "(II)I"⟩
abbrev cX9_leastOf : ByteArray := prog_11_method_18_code
def yX9_leastOf : MethodName := ⟨RX9, "leastOf", "()I"⟩
abbrev cX9_leastRow : ByteArray := prog_11_method_19_code
def yX9_leastRow : MethodName := ⟨RX9, "leastRow", "()V"⟩
abbrev cX9_least : ByteArray := prog_11_method_20_code
def yX9_least : MethodName := ⟨RX9, "least", "()I"⟩
abbrev cX9_leastAt : ByteArray := prog_11_method_21_code
def yX9_leastAt : MethodName := ⟨RX9, "leastAt", "(I)I"⟩
abbrev cX9_saved : ByteArray := prog_11_method_22_code
def yX9_saved : MethodName := ⟨RX9, "saved", "(II)I"⟩
abbrev cX9_at : ByteArray := prog_11_method_23_code
def yX9_at : MethodName := ⟨RX9, "at", "(I)I"⟩
abbrev cX9_guessOf : ByteArray := prog_11_method_24_code
def yX9_guessOf : MethodName := ⟨RX9, "guessOf", "()I"⟩
abbrev cX9_swap : ByteArray := prog_11_method_25_code
def yX9_swap : MethodName := ⟨RX9, "swap", "(II)I"⟩
abbrev cX9_take : ByteArray := prog_11_method_26_code
def yX9_take : MethodName := ⟨RX9, "take", "()I"⟩
abbrev cX9_guess : ByteArray := prog_11_method_27_code
def yX9_guess : MethodName := ⟨RX9, "guess", "()I"⟩
abbrev cX9_placeOf : ByteArray := prog_11_method_28_code
def yX9_placeOf : MethodName := ⟨RX9, "placeOf", "(I)I"⟩
abbrev cX9_torn : ByteArray := prog_11_method_29_code
def yX9_torn : MethodName := ⟨RX9, "torn", "(II)I"⟩
abbrev cX9_chance : ByteArray := prog_11_method_30_code
def yX9_chance : MethodName := ⟨RX9, "chance", "(III)I"⟩
abbrev cX9_meanOf : ByteArray := prog_11_method_31_code
def yX9_meanOf : MethodName := ⟨RX9, "meanOf", "(IZ)J"⟩
abbrev cX9_mean : ByteArray := prog_11_method_32_code
def yX9_mean : MethodName := ⟨RX9, "mean", "(Z)J"⟩
abbrev cX9_often : ByteArray := prog_11_method_33_code
def yX9_often : MethodName := ⟨RX9, "often", "(IZ)J"⟩
abbrev cX9_beside : ByteArray := prog_11_method_34_code
def yX9_beside : MethodName := ⟨RX9, "beside", "()I"⟩
abbrev cX9_ends : ByteArray := prog_11_method_35_code
def yX9_ends : MethodName := ⟨RX9, "ends", "(I)I"⟩
abbrev cX9_span : ByteArray := prog_11_method_36_code
def yX9_span : MethodName := ⟨RX9, "span", "()I"⟩
abbrev cX9_betweenOf : ByteArray := prog_11_method_37_code
def yX9_betweenOf : MethodName := ⟨RX9, "betweenOf", "()I"⟩
abbrev cX9_teamsOf : ByteArray := prog_11_method_38_code
def yX9_teamsOf : MethodName := ⟨RX9, "teamsOf", "(I)I"⟩
abbrev cX9_isMore : ByteArray := prog_11_method_39_code
def yX9_isMore : MethodName := ⟨RX9, "isMore", "()Z"⟩
abbrev cX9_greatest : ByteArray := prog_11_method_40_code
def yX9_greatest : MethodName := ⟨RX9, "greatest", "(I)I"⟩
abbrev cX9_teams : ByteArray := prog_11_method_41_code
def yX9_teams : MethodName := ⟨RX9, "teams", "(I)V"⟩
abbrev cX9_between : ByteArray := prog_11_method_42_code
def yX9_between : MethodName := ⟨RX9, "between", "(I)I"⟩
abbrev cX9_team : ByteArray := prog_11_method_43_code
def yX9_team : MethodName := ⟨RX9, "team", "(II)I"⟩
abbrev cX9_forces : ByteArray := prog_11_method_44_code
def yX9_forces : MethodName := ⟨RX9, "forces", "(I)V"⟩
abbrev cX9_force : ByteArray := prog_11_method_45_code
def yX9_force : MethodName := ⟨RX9, "force", "(IIZ)J"⟩
abbrev cX9_reach : ByteArray := prog_11_method_46_code
def yX9_reach : MethodName := ⟨RX9, "reach", "(II)I"⟩
abbrev cX9_total : ByteArray := prog_11_method_47_code
def yX9_total : MethodName := ⟨RX9, "total", "(I)I"⟩
def RJ9 : String := "java/lang/Math"
def TJ9 : u_T := fun k => match k with
  | _ => ("", "", "", false)
def tyJ9 : Nat → FieldType := fun k => match k with
  | _ => .int
abbrev wsJ90 : List Cond := u_ws RJ9 TJ9 0
theorem nmJ9 : ∀ a, a < 0 → ∀ b, b < 0 → a ≠ b → (TJ9 a).2.1 ≠ (TJ9 b).2.1 := by decide +kernel
theorem tyJ9_ok : ∀ k, k < 0 → parseFieldDescriptor (TJ9 k).2.2.1 = some (tyJ9 k) := by decide +kernel
abbrev cJ9_max_7cf53 : ByteArray := prog_12_method_65_code
def yJ9_max_7cf53 : MethodName := ⟨RJ9, "max", "(II)I"⟩
abbrev cJ9_min_7cf53 : ByteArray := prog_12_method_69_code
def yJ9_min_7cf53 : MethodName := ⟨RJ9, "min", "(II)I"⟩
def RJ10 : String := "java/lang/System"
def TJ10 : u_T := fun k => match k with
  | _ => ("", "", "", false)
def tyJ10 : Nat → FieldType := fun k => match k with
  | _ => .int
abbrev wsJ100 : List Cond := u_ws RJ10 TJ10 0
theorem nmJ10 : ∀ a, a < 0 → ∀ b, b < 0 → a ≠ b → (TJ10 a).2.1 ≠ (TJ10 b).2.1 := by decide +kernel
theorem tyJ10_ok : ∀ k, k < 0 → parseFieldDescriptor (TJ10 k).2.2.1 = some (tyJ10 k) := by decide +kernel
def RJ7 : String := "java/util/Arrays"
def TJ7 : u_T := fun k => match k with
  | _ => ("", "", "", false)
def tyJ7 : Nat → FieldType := fun k => match k with
  | _ => .int
abbrev wsJ70 : List Cond := u_ws RJ7 TJ7 0
theorem nmJ7 : ∀ a, a < 0 → ∀ b, b < 0 → a ≠ b → (TJ7 a).2.1 ≠ (TJ7 b).2.1 := by decide +kernel
theorem tyJ7_ok : ∀ k, k < 0 → parseFieldDescriptor (TJ7 k).2.2.1 = some (tyJ7 k) := by decide +kernel
abbrev cJ7_fill_d0a16 : ByteArray := prog_14_method_101_code
def yJ7_fill_d0a16 : MethodName := ⟨RJ7, "fill", "([JJ)V"⟩
abbrev cJ7_fill_53178 : ByteArray := prog_14_method_103_code
def yJ7_fill_53178 : MethodName := ⟨RJ7, "fill", "([II)V"⟩
abbrev cL_law : ByteArray := code
def yL_law : MethodName := ⟨R_law, "law", "([I)Z"⟩
abbrev vwCl : List vw_C := [(RX0, TX0, 1), (RX1, TX1, 2), (RX2, TX2, 2), (RX3, TX3, 3), (RX4, TX4, 3), (RX5, TX5, 2), (RX6, TX6, 1), (RX7, TX7, 7), (RX8, TX8, 11), (RX9, TX9, 16)]
def cNs : List (List (String)) := [[RX0, RX1, RX2, RX3, RX4, RX5, RX6, RX7, RX8, RX9, RJ9, RJ7, R_law]]
def cN (c : Nat) : String := mTab cNs "" c
def cTs : List (List (u_T)) := [[TX0, TX1, TX2, TX3, TX4, TX5, TX6, TX7, TX8, TX9]]
def cT (c : Nat) : u_T := mTab cTs TX0 c
def cYs : List (List (Nat → FieldType)) := [[tyX0, tyX1, tyX2, tyX3, tyX4, tyX5, tyX6, tyX7, tyX8, tyX9]]
def cY (c : Nat) : Nat → FieldType := mTab cYs tyX0 c
def cFs : List (List (Nat)) := [[1, 2, 2, 3, 3, 2, 1, 7, 11, 16]]
def cF (c : Nat) : Nat := mTab cFs 0 c
def yNs : List (List (MethodName)) := [[yJ9_max_7cf53, yJ9_min_7cf53, yJ7_fill_d0a16, yJ7_fill_53178, yX6_get, yX6_bothWays, yX6_put, yX6_sumOfRow, yX6_sum, yX6_howMany, yX6_holds, yX2_hasPlace, yX2_length, yX2_taskAt, yX2_placeOf, yX2_clear],
  [yX2_add, yX2_restart, yX2_become, yX2_exchange, yX2_guessOf, yX0_endAt, yX0_latest, yX0_reckon, yX5_forceAt, yX5_howMany, yX5_from, yX5_strongestLeft, yX5_passOn, yX5_isLeft, yX1_leastGuess, yX1_find],
  [yX1_leastAfter, yX1_firstOfLeast, yX1_guessWithNext, yX7_leastBetween, yX7_teamOf, yX7_find, yX7_assign, yX7_mayBeBetter, yX7_keep, yX7_cutBefore, yX3_above, yX3_below, yX3_reckonOne, yX3_reckon, yX3_spentFrom, yX3_refine],
  [yX4_isLeaning, yX4_howMany, yX4_numberOf, yX4_find, yX4_lean, yX4_number, yX4_nextBlock, yX4_blockAround, yX8_task, yX8_time, yX8_need, yX8_strength, yX8_leans, yX8_blocks, yX8_block, yX8_least],
  [yX8_leastAt, yX8_saved, yX8_at, yX8_swap, yX8_take, yX8_guess, yX8_torn, yX8_chance, yX8_mean, yX8_often, yX8_ends, yX8_span, yX8_between, yX8_team, yX8_force, yX8_reach],
  [yX8_total, yX8_isTask, yX8_isTime, yX8_isTeamSize, yX8_sumOfTimes, yX8_inLeastTerms, yX8_commonDivisor, yX8_valueOf, yX9_in, yX9_no, yX9_told, yX9_task, yX9_time, yX9_need, yX9_strength, yX9_lean],
  [yX9_leans, yX9_isOne, yX9_isNext, yX9_numbered, yX9_blocks, yX9_block, yX9_guessed, yX9_leastOf, yX9_leastRow, yX9_least, yX9_leastAt, yX9_saved, yX9_at, yX9_guessOf, yX9_swap, yX9_take],
  [yX9_guess, yX9_placeOf, yX9_torn, yX9_chance, yX9_meanOf, yX9_mean, yX9_often, yX9_beside, yX9_ends, yX9_span, yX9_betweenOf, yX9_teamsOf, yX9_isMore, yX9_greatest, yX9_teams, yX9_between],
  [yX9_team, yX9_forces, yX9_force, yX9_reach, yX9_total, yL_law]]
def yN (m : Nat) : MethodName := mTab yNs yL_law m
def bNs : List (List (ByteArray)) := [[cJ9_max_7cf53, cJ9_min_7cf53, cJ7_fill_d0a16, cJ7_fill_53178, cX6_get, cX6_bothWays, cX6_put, cX6_sumOfRow, cX6_sum, cX6_howMany, cX6_holds, cX2_hasPlace, cX2_length, cX2_taskAt, cX2_placeOf, cX2_clear],
  [cX2_add, cX2_restart, cX2_become, cX2_exchange, cX2_guessOf, cX0_endAt, cX0_latest, cX0_reckon, cX5_forceAt, cX5_howMany, cX5_from, cX5_strongestLeft, cX5_passOn, cX5_isLeft, cX1_leastGuess, cX1_find],
  [cX1_leastAfter, cX1_firstOfLeast, cX1_guessWithNext, cX7_leastBetween, cX7_teamOf, cX7_find, cX7_assign, cX7_mayBeBetter, cX7_keep, cX7_cutBefore, cX3_above, cX3_below, cX3_reckonOne, cX3_reckon, cX3_spentFrom, cX3_refine],
  [cX4_isLeaning, cX4_howMany, cX4_numberOf, cX4_find, cX4_lean, cX4_number, cX4_nextBlock, cX4_blockAround, cX8_task, cX8_time, cX8_need, cX8_strength, cX8_leans, cX8_blocks, cX8_block, cX8_least],
  [cX8_leastAt, cX8_saved, cX8_at, cX8_swap, cX8_take, cX8_guess, cX8_torn, cX8_chance, cX8_mean, cX8_often, cX8_ends, cX8_span, cX8_between, cX8_team, cX8_force, cX8_reach],
  [cX8_total, cX8_isTask, cX8_isTime, cX8_isTeamSize, cX8_sumOfTimes, cX8_inLeastTerms, cX8_commonDivisor, cX8_valueOf, cX9_in, cX9_no, cX9_told, cX9_task, cX9_time, cX9_need, cX9_strength, cX9_lean],
  [cX9_leans, cX9_isOne, cX9_isNext, cX9_numbered, cX9_blocks, cX9_block, cX9_guessed, cX9_leastOf, cX9_leastRow, cX9_least, cX9_leastAt, cX9_saved, cX9_at, cX9_guessOf, cX9_swap, cX9_take],
  [cX9_guess, cX9_placeOf, cX9_torn, cX9_chance, cX9_meanOf, cX9_mean, cX9_often, cX9_beside, cX9_ends, cX9_span, cX9_betweenOf, cX9_teamsOf, cX9_isMore, cX9_greatest, cX9_teams, cX9_between],
  [cX9_team, cX9_forces, cX9_force, cX9_reach, cX9_total, cL_law]]
def bN (m : Nat) : ByteArray := mTab bNs cL_law m
def rNs : List (List (Option FieldType)) := [[some .int, some .int, none, none, some .int, some .int, some .int, some .int, some .int, some .int, some .boolean, some .boolean, some .int, some .int, some .int, none],
  [none, none, none, none, some .int, some .int, some .int, none, some .int, some .int, none, some .int, none, some .boolean, some .int, some (.object "DesignTurns$Order")],
  [some .int, some .int, some .int, some .int, some .int, none, none, some .boolean, none, some .int, some .long, some .long, none, none, some .long, none],
  [some .boolean, some .int, some .int, none, none, none, some .int, some .int, some .int, some .int, some .int, some .int, some .int, some .int, some .int, some .int],
  [some .int, some .int, some .int, some .int, some .int, some .int, some .int, some .int, some .long, some .long, some .int, some .int, some .int, some .int, some .long, some .int],
  [some .int, some .boolean, some .boolean, some .boolean, some .int, some .long, some .long, some .int, some .boolean, some .boolean, some .long, some .int, some .int, some .int, some .int, none],
  [some .int, some .boolean, some .boolean, some .int, some .int, some .int, some .int, some .int, none, some .int, some .int, some .int, some .int, some .int, some .int, some .int],
  [some .int, some .int, some .int, some .int, some .long, some .long, some .long, some .int, some .int, some .int, some .int, some .int, some .boolean, some .int, none, some .int],
  [some .int, none, some .long, some .int, some .int, some .boolean]]
def rN (m : Nat) : Option FieldType := mTab rNs none m
