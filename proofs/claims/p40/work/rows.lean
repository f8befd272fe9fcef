section
/-- a private method of a class that the tables say can be made, by its rows of tables_1 -/
def lw_okq (q : MethodName × Nat) : Prop := (q.1.cls ≠ "java/lang/invoke/MethodHandle" ∧ q.1.cls ≠ "java/lang/invoke/VarHandle") ∧ Cond.instantiable q.1.cls q.2 ∈ tables_1 ∧ Cond.privateMethod q.1 ∈ tables_1 ∧ Cond.instanceMethod q.1 ∈ tables_1
theorem lw_p0 : lw_okq (⟨"Endlessrows", "findRow", "(I)LEndlessrows$Row;"⟩, 6) := ⟨⟨by decide +kernel, by decide +kernel⟩, List.mem_of_getElem? (i := 14) (by decide +kernel), List.mem_of_getElem? (i := 123) (by decide +kernel), List.mem_of_getElem? (i := 124) (by decide +kernel)⟩
theorem lw_p1 : lw_okq (⟨"java/lang/Throwable", "fillInStackTrace", "(I)Ljava/lang/Throwable;"⟩, 6) := ⟨⟨by decide +kernel, by decide +kernel⟩, List.mem_of_getElem? (i := 164) (by decide +kernel), List.mem_of_getElem? (i := 162) (by decide +kernel), List.mem_of_getElem? (i := 163) (by decide +kernel)⟩
theorem lw_p2 : lw_okq (⟨"Endlessrows", "areRowsRising", "()Z"⟩, 6) := ⟨⟨by decide +kernel, by decide +kernel⟩, List.mem_of_getElem? (i := 14) (by decide +kernel), List.mem_of_getElem? (i := 217) (by decide +kernel), List.mem_of_getElem? (i := 218) (by decide +kernel)⟩
theorem lw_p3 : lw_okq (⟨"Endlessrows", "areQueuesWithinLimits", "()Z"⟩, 6) := ⟨⟨by decide +kernel, by decide +kernel⟩, List.mem_of_getElem? (i := 14) (by decide +kernel), List.mem_of_getElem? (i := 225) (by decide +kernel), List.mem_of_getElem? (i := 226) (by decide +kernel)⟩
theorem lw_p4 : lw_okq (⟨"Endlessrows$Well", "takeRows", "([LEndlessrows$Row;)V"⟩, 8) := ⟨⟨by decide +kernel, by decide +kernel⟩, List.mem_of_getElem? (i := 40) (by decide +kernel), List.mem_of_getElem? (i := 250) (by decide +kernel), List.mem_of_getElem? (i := 251) (by decide +kernel)⟩
theorem lw_p5 : lw_okq (⟨"Endlessrows$Queue", "sink", "(I)V"⟩, 2) := ⟨⟨by decide +kernel, by decide +kernel⟩, List.mem_of_getElem? (i := 47) (by decide +kernel), List.mem_of_getElem? (i := 274) (by decide +kernel), List.mem_of_getElem? (i := 275) (by decide +kernel)⟩
theorem lw_p6 : lw_okq (⟨"Endlessrows$Queue", "refill", "(II)V"⟩, 2) := ⟨⟨by decide +kernel, by decide +kernel⟩, List.mem_of_getElem? (i := 47) (by decide +kernel), List.mem_of_getElem? (i := 278) (by decide +kernel), List.mem_of_getElem? (i := 279) (by decide +kernel)⟩
theorem lw_p7 : lw_okq (⟨"Endlessrows$Well", "countOfRows", "(I)I"⟩, 8) := ⟨⟨by decide +kernel, by decide +kernel⟩, List.mem_of_getElem? (i := 40) (by decide +kernel), List.mem_of_getElem? (i := 316) (by decide +kernel), List.mem_of_getElem? (i := 317) (by decide +kernel)⟩
theorem lw_p8 : lw_okq (⟨"Endlessrows$Well", "countOfGrid", "(I)I"⟩, 8) := ⟨⟨by decide +kernel, by decide +kernel⟩, List.mem_of_getElem? (i := 40) (by decide +kernel), List.mem_of_getElem? (i := 330) (by decide +kernel), List.mem_of_getElem? (i := 331) (by decide +kernel)⟩
theorem lw_p9 : lw_okq (⟨"Endlessrows$Well", "gridNumber", "(III)I"⟩, 8) := ⟨⟨by decide +kernel, by decide +kernel⟩, List.mem_of_getElem? (i := 40) (by decide +kernel), List.mem_of_getElem? (i := 334) (by decide +kernel), List.mem_of_getElem? (i := 335) (by decide +kernel)⟩
theorem lw_p10 : lw_okq (⟨"Endlessrows", "doTrialsTellAlike", "()Z"⟩, 6) := ⟨⟨by decide +kernel, by decide +kernel⟩, List.mem_of_getElem? (i := 14) (by decide +kernel), List.mem_of_getElem? (i := 339) (by decide +kernel), List.mem_of_getElem? (i := 340) (by decide +kernel)⟩
theorem lw_p11 : lw_okq (⟨"Endlessrows$Well", "tellPrime", "()V"⟩, 8) := ⟨⟨by decide +kernel, by decide +kernel⟩, List.mem_of_getElem? (i := 40) (by decide +kernel), List.mem_of_getElem? (i := 351) (by decide +kernel), List.mem_of_getElem? (i := 352) (by decide +kernel)⟩
theorem lw_p12 : lw_okq (⟨"Endlessrows$Well", "offerProducts", "(II)V"⟩, 8) := ⟨⟨by decide +kernel, by decide +kernel⟩, List.mem_of_getElem? (i := 40) (by decide +kernel), List.mem_of_getElem? (i := 371) (by decide +kernel), List.mem_of_getElem? (i := 372) (by decide +kernel)⟩
theorem lw_p13 : lw_okq (⟨"Endlessrows$Well", "rankOf", "(I)I"⟩, 8) := ⟨⟨by decide +kernel, by decide +kernel⟩, List.mem_of_getElem? (i := 40) (by decide +kernel), List.mem_of_getElem? (i := 378) (by decide +kernel), List.mem_of_getElem? (i := 379) (by decide +kernel)⟩
theorem lw_p14 : lw_okq (⟨"Endlessrows$Well", "offerOfRow", "(II)V"⟩, 8) := ⟨⟨by decide +kernel, by decide +kernel⟩, List.mem_of_getElem? (i := 40) (by decide +kernel), List.mem_of_getElem? (i := 382) (by decide +kernel), List.mem_of_getElem? (i := 383) (by decide +kernel)⟩
theorem lw_p15 : lw_okq (⟨"Endlessrows$Well", "offerNeighbours", "(III)V"⟩, 8) := ⟨⟨by decide +kernel, by decide +kernel⟩, List.mem_of_getElem? (i := 40) (by decide +kernel), List.mem_of_getElem? (i := 386) (by decide +kernel), List.mem_of_getElem? (i := 387) (by decide +kernel)⟩
def lw_privs_1 : List (MethodName × Nat) := [(⟨"Endlessrows", "findRow", "(I)LEndlessrows$Row;"⟩, 6), (⟨"java/lang/Throwable", "fillInStackTrace", "(I)Ljava/lang/Throwable;"⟩, 6), (⟨"Endlessrows", "areRowsRising", "()Z"⟩, 6), (⟨"Endlessrows", "areQueuesWithinLimits", "()Z"⟩, 6), (⟨"Endlessrows$Well", "takeRows", "([LEndlessrows$Row;)V"⟩, 8), (⟨"Endlessrows$Queue", "sink", "(I)V"⟩, 2), (⟨"Endlessrows$Queue", "refill", "(II)V"⟩, 2), (⟨"Endlessrows$Well", "countOfRows", "(I)I"⟩, 8), (⟨"Endlessrows$Well", "countOfGrid", "(I)I"⟩, 8), (⟨"Endlessrows$Well", "gridNumber", "(III)I"⟩, 8), (⟨"Endlessrows", "doTrialsTellAlike", "()Z"⟩, 6), (⟨"Endlessrows$Well", "tellPrime", "()V"⟩, 8), (⟨"Endlessrows$Well", "offerProducts", "(II)V"⟩, 8), (⟨"Endlessrows$Well", "rankOf", "(I)I"⟩, 8), (⟨"Endlessrows$Well", "offerOfRow", "(II)V"⟩, 8), (⟨"Endlessrows$Well", "offerNeighbours", "(III)V"⟩, 8)]
theorem lw_r1 : ∀ q ∈ lw_privs_1, lw_okq q := List.forall_mem_cons.mpr ⟨lw_p0, List.forall_mem_cons.mpr ⟨lw_p1, List.forall_mem_cons.mpr ⟨lw_p2, List.forall_mem_cons.mpr ⟨lw_p3, List.forall_mem_cons.mpr ⟨lw_p4, List.forall_mem_cons.mpr ⟨lw_p5, List.forall_mem_cons.mpr ⟨lw_p6, List.forall_mem_cons.mpr ⟨lw_p7, List.forall_mem_cons.mpr ⟨lw_p8, List.forall_mem_cons.mpr ⟨lw_p9, List.forall_mem_cons.mpr ⟨lw_p10, List.forall_mem_cons.mpr ⟨lw_p11, List.forall_mem_cons.mpr ⟨lw_p12, List.forall_mem_cons.mpr ⟨lw_p13, List.forall_mem_cons.mpr ⟨lw_p14, List.forall_mem_cons.mpr ⟨lw_p15, fun _ h => absurd h List.not_mem_nil⟩⟩⟩⟩⟩⟩⟩⟩⟩⟩⟩⟩⟩⟩⟩⟩
theorem lw_p16 : lw_okq (⟨"Endlessrows$Well", "offerOfGrid", "(III)V"⟩, 8) := ⟨⟨by decide +kernel, by decide +kernel⟩, List.mem_of_getElem? (i := 40) (by decide +kernel), List.mem_of_getElem? (i := 390) (by decide +kernel), List.mem_of_getElem? (i := 391) (by decide +kernel)⟩
theorem lw_p17 : lw_okq (⟨"Endlessrows", "findWell", "(I)LEndlessrows$Well;"⟩, 6) := ⟨⟨by decide +kernel, by decide +kernel⟩, List.mem_of_getElem? (i := 14) (by decide +kernel), List.mem_of_getElem? (i := 414) (by decide +kernel), List.mem_of_getElem? (i := 415) (by decide +kernel)⟩
theorem lw_p18 : lw_okq (⟨"Endlessrows$Well", "isGrid", "()Z"⟩, 8) := ⟨⟨by decide +kernel, by decide +kernel⟩, List.mem_of_getElem? (i := 40) (by decide +kernel), List.mem_of_getElem? (i := 427) (by decide +kernel), List.mem_of_getElem? (i := 428) (by decide +kernel)⟩
def lw_privs_2 : List (MethodName × Nat) := [(⟨"Endlessrows$Well", "offerOfGrid", "(III)V"⟩, 8), (⟨"Endlessrows", "findWell", "(I)LEndlessrows$Well;"⟩, 6), (⟨"Endlessrows$Well", "isGrid", "()Z"⟩, 8)]
theorem lw_r2 : ∀ q ∈ lw_privs_2, lw_okq q := List.forall_mem_cons.mpr ⟨lw_p16, List.forall_mem_cons.mpr ⟨lw_p17, List.forall_mem_cons.mpr ⟨lw_p18, fun _ h => absurd h List.not_mem_nil⟩⟩⟩
def lw_privs : List (MethodName × Nat) := lw_privs_1 ++ (lw_privs_2)
def lw_tbl : List Cond := k2_sels lw_privs ++ tables_1
theorem lw_privs_ok : ∀ q ∈ lw_privs, lw_okq q := by
  show ∀ q ∈ lw_privs_1 ++ (lw_privs_2), lw_okq q
  exact List.forall_mem_append.mpr ⟨lw_r1, lw_r2⟩

-- ===== end of PART A =====
def RX0 : String := "Endlessrows$Queue"
def TX0 : u_T := fun k => match k with
  | 0 => ("Endlessrows$Queue", "keys", "[I", true)
  | _ => ("Endlessrows$Queue", "size", "I", false)
def tyX0 : Nat → FieldType := fun k => match k with
  | 0 => .array .int
  | _ => .int
abbrev wsX00 : List Cond := u_ws RX0 TX0 2
theorem nmX0 : ∀ a, a < 2 → ∀ b, b < 2 → a ≠ b → (TX0 a).2.1 ≠ (TX0 b).2.1 := by decide +kernel
theorem tyX0_ok : ∀ k, k < 2 → parseFieldDescriptor (TX0 k).2.2.1 = some (tyX0 k) := by decide +kernel
abbrev cX0_init : ByteArray := prog_2_method_1_code
def yX0_init : MethodName := ⟨RX0, "<init>", "()V"⟩
abbrev cX0_keyOf : ByteArray := prog_2_method_2_code
def yX0_keyOf : MethodName := ⟨RX0, "keyOf", "(II)I"⟩
abbrev cX0_numberOf : ByteArray := prog_2_method_3_code
def yX0_numberOf : MethodName := ⟨RX0, "numberOf", "(I)I"⟩
abbrev cX0_tagOf : ByteArray := prog_2_method_4_code
def yX0_tagOf : MethodName := ⟨RX0, "tagOf", "(I)I"⟩
abbrev cX0_firstNumber : ByteArray := prog_2_method_5_code
def yX0_firstNumber : MethodName := ⟨RX0, "firstNumber", "()I"⟩
abbrev cX0_push : ByteArray := prog_2_method_6_code
def yX0_push : MethodName := ⟨RX0, "push", "(I)V"⟩
abbrev cX0_pop : ByteArray := prog_2_method_7_code
def yX0_pop : MethodName := ⟨RX0, "pop", "()I"⟩
abbrev cX0_sink : ByteArray := prog_2_method_8_code
def yX0_sink : MethodName := ⟨RX0, "sink", "(I)V"⟩
abbrev cX0_turnOver : ByteArray := prog_2_method_9_code
def yX0_turnOver : MethodName := ⟨RX0, "turnOver", "()V"⟩
abbrev cX0_remove : ByteArray := prog_2_method_10_code
def yX0_remove : MethodName := ⟨RX0, "remove", "(I)V"⟩
abbrev cX0_refill : ByteArray := prog_2_method_11_code
def yX0_refill : MethodName := ⟨RX0, "refill", "(II)V"⟩
abbrev cX0_holds : ByteArray := prog_2_method_12_code
def yX0_holds : MethodName := ⟨RX0, "holds", "(I)Z"⟩
abbrev cX0_countUpTo : ByteArray := prog_2_method_13_code
def yX0_countUpTo : MethodName := ⟨RX0, "countUpTo", "(I)I"⟩
abbrev cX0_become : ByteArray := prog_2_method_14_code
def yX0_become : MethodName := ⟨RX0, "become", "(LEndlessrows$Queue;)V"⟩
def RX1 : String := "Endlessrows$Row"
def TX1 : u_T := fun k => match k with
  | 0 => ("Endlessrows$Row", "numbers", "[I", true)
  | _ => ("Endlessrows$Row", "count", "I", false)
def tyX1 : Nat → FieldType := fun k => match k with
  | 0 => .array .int
  | _ => .int
abbrev wsX10 : List Cond := u_ws RX1 TX1 2
theorem nmX1 : ∀ a, a < 2 → ∀ b, b < 2 → a ≠ b → (TX1 a).2.1 ≠ (TX1 b).2.1 := by decide +kernel
theorem tyX1_ok : ∀ k, k < 2 → parseFieldDescriptor (TX1 k).2.2.1 = some (tyX1 k) := by decide +kernel
abbrev cX1_init : ByteArray := prog_3_method_1_code
def yX1_init : MethodName := ⟨RX1, "<init>", "()V"⟩
abbrev cX1_numberAt : ByteArray := prog_3_method_2_code
def yX1_numberAt : MethodName := ⟨RX1, "numberAt", "(I)I"⟩
abbrev cX1_append : ByteArray := prog_3_method_3_code
def yX1_append : MethodName := ⟨RX1, "append", "(I)Z"⟩
abbrev cX1_removeLast : ByteArray := prog_3_method_4_code
def yX1_removeLast : MethodName := ⟨RX1, "removeLast", "()I"⟩
abbrev cX1_become : ByteArray := prog_3_method_5_code
def yX1_become : MethodName := ⟨RX1, "become", "(LEndlessrows$Row;)V"⟩
abbrev cX1_countUpTo : ByteArray := prog_3_method_6_code
def yX1_countUpTo : MethodName := ⟨RX1, "countUpTo", "(I)I"⟩
abbrev cX1_isRising : ByteArray := prog_3_method_7_code
def yX1_isRising : MethodName := ⟨RX1, "isRising", "()Z"⟩
def RX2 : String := "Endlessrows$Well"
def TX2 : u_T := fun k => match k with
  | 0 => ("Endlessrows$Well", "rows", "[LEndlessrows$Row;", true)
  | 1 => ("Endlessrows$Well", "queue", "LEndlessrows$Queue;", true)
  | 2 => ("Endlessrows$Well", "kind", "I", false)
  | 3 => ("Endlessrows$Well", "set", "I", false)
  | 4 => ("Endlessrows$Well", "isFalling", "Z", false)
  | 5 => ("Endlessrows$Well", "closedRows", "I", false)
  | 6 => ("Endlessrows$Well", "drawn", "I", false)
  | _ => ("Endlessrows$Well", "lastKey", "I", false)
def tyX2 : Nat → FieldType := fun k => match k with
  | 0 => .array (.object "Endlessrows$Row")
  | 1 => .object "Endlessrows$Queue"
  | 2 => .int
  | 3 => .int
  | 4 => .boolean
  | 5 => .int
  | 6 => .int
  | _ => .int
abbrev wsX20 : List Cond := u_ws RX2 TX2 8
theorem nmX2 : ∀ a, a < 8 → ∀ b, b < 8 → a ≠ b → (TX2 a).2.1 ≠ (TX2 b).2.1 := by decide +kernel
theorem tyX2_ok : ∀ k, k < 8 → parseFieldDescriptor (TX2 k).2.2.1 = some (tyX2 k) := by decide +kernel
abbrev cX2_init : ByteArray := prog_4_method_1_code
def yX2_init : MethodName := ⟨RX2, "<init>", "()V"⟩
abbrev cX2_beginGrid : ByteArray := prog_4_method_2_code
def yX2_beginGrid : MethodName := ⟨RX2, "beginGrid", "(ILEndlessrows$Row;LEndlessrows$Row;LEndlessrows$Row;)V"⟩
abbrev cX2_beginMerged : ByteArray := prog_4_method_3_code
def yX2_beginMerged : MethodName := ⟨RX2, "beginMerged", "([LEndlessrows$Row;IZ)V"⟩
abbrev cX2_begin : ByteArray := prog_4_method_4_code
def yX2_begin : MethodName := ⟨RX2, "begin", "(IIZ)V"⟩
abbrev cX2_restart : ByteArray := prog_4_method_5_code
def yX2_restart : MethodName := ⟨RX2, "restart", "()V"⟩
abbrev cX2_become : ByteArray := prog_4_method_6_code
def yX2_become : MethodName := ⟨RX2, "become", "(LEndlessrows$Well;)V"⟩
abbrev cX2_takeRows : ByteArray := prog_4_method_7_code
def yX2_takeRows : MethodName := ⟨RX2, "takeRows", "([LEndlessrows$Row;)V"⟩
abbrev cX2_tell : ByteArray := prog_4_method_8_code
def yX2_tell : MethodName := ⟨RX2, "tell", "()I"⟩
abbrev cX2_tellBelow : ByteArray := prog_4_method_9_code
def yX2_tellBelow : MethodName := ⟨RX2, "tellBelow", "(II)I"⟩
abbrev cX2_tellPrime : ByteArray := prog_4_method_10_code
def yX2_tellPrime : MethodName := ⟨RX2, "tellPrime", "()V"⟩
abbrev cX2_offerProducts : ByteArray := prog_4_method_11_code
def yX2_offerProducts : MethodName := ⟨RX2, "offerProducts", "(II)V"⟩
abbrev cX2_offerNeighbours : ByteArray := prog_4_method_12_code
def yX2_offerNeighbours : MethodName := ⟨RX2, "offerNeighbours", "(III)V"⟩
abbrev cX2_offerOfGrid : ByteArray := prog_4_method_13_code
def yX2_offerOfGrid : MethodName := ⟨RX2, "offerOfGrid", "(III)V"⟩
abbrev cX2_offerOfRow : ByteArray := prog_4_method_14_code
def yX2_offerOfRow : MethodName := ⟨RX2, "offerOfRow", "(II)V"⟩
abbrev cX2_closeRow : ByteArray := prog_4_method_15_code
def yX2_closeRow : MethodName := ⟨RX2, "closeRow", "(I)I"⟩
abbrev cX2_isEmpty : ByteArray := prog_4_method_16_code
def yX2_isEmpty : MethodName := ⟨RX2, "isEmpty", "()Z"⟩
abbrev cX2_isDry : ByteArray := prog_4_method_17_code
def yX2_isDry : MethodName := ⟨RX2, "isDry", "()Z"⟩
abbrev cX2_nextNumber : ByteArray := prog_4_method_18_code
def yX2_nextNumber : MethodName := ⟨RX2, "nextNumber", "()I"⟩
abbrev cX2_numberBehind : ByteArray := prog_4_method_19_code
def yX2_numberBehind : MethodName := ⟨RX2, "numberBehind", "(I)I"⟩
abbrev cX2_lastNumber : ByteArray := prog_4_method_20_code
def yX2_lastNumber : MethodName := ⟨RX2, "lastNumber", "()I"⟩
abbrev cX2_lastPlace : ByteArray := prog_4_method_21_code
def yX2_lastPlace : MethodName := ⟨RX2, "lastPlace", "(I)I"⟩
abbrev cX2_limit : ByteArray := prog_4_method_22_code
def yX2_limit : MethodName := ⟨RX2, "limit", "()I"⟩
abbrev cX2_hasPlaces : ByteArray := prog_4_method_23_code
def yX2_hasPlaces : MethodName := ⟨RX2, "hasPlaces", "()Z"⟩
abbrev cX2_tagAt : ByteArray := prog_4_method_24_code
def yX2_tagAt : MethodName := ⟨RX2, "tagAt", "(III)I"⟩
abbrev cX2_canCountTo : ByteArray := prog_4_method_25_code
def yX2_canCountTo : MethodName := ⟨RX2, "canCountTo", "(I)Z"⟩
abbrev cX2_countUpTo : ByteArray := prog_4_method_26_code
def yX2_countUpTo : MethodName := ⟨RX2, "countUpTo", "(I)I"⟩
abbrev cX2_countProducts : ByteArray := prog_4_method_27_code
def yX2_countProducts : MethodName := ⟨RX2, "countProducts", "(IIII)I"⟩
abbrev cX2_countOfRows : ByteArray := prog_4_method_28_code
def yX2_countOfRows : MethodName := ⟨RX2, "countOfRows", "(I)I"⟩
abbrev cX2_countPrimes : ByteArray := prog_4_method_29_code
def yX2_countPrimes : MethodName := ⟨RX2, "countPrimes", "(I)I"⟩
abbrev cX2_countOfGrid : ByteArray := prog_4_method_30_code
def yX2_countOfGrid : MethodName := ⟨RX2, "countOfGrid", "(I)I"⟩
abbrev cX2_isGrid : ByteArray := prog_4_method_31_code
def yX2_isGrid : MethodName := ⟨RX2, "isGrid", "()Z"⟩
abbrev cX2_isMember : ByteArray := prog_4_method_32_code
def yX2_isMember : MethodName := ⟨RX2, "isMember", "(II)Z"⟩
abbrev cX2_rankOf : ByteArray := prog_4_method_33_code
def yX2_rankOf : MethodName := ⟨RX2, "rankOf", "(I)I"⟩
abbrev cX2_gridNumber : ByteArray := prog_4_method_34_code
def yX2_gridNumber : MethodName := ⟨RX2, "gridNumber", "(III)I"⟩
abbrev cX2_isPrime : ByteArray := prog_4_method_35_code
def yX2_isPrime : MethodName := ⟨RX2, "isPrime", "(I)Z"⟩
def RX3 : String := "Endlessrows"
def TX3 : u_T := fun k => match k with
  | 0 => ("Endlessrows", "rows", "[LEndlessrows$Row;", true)
  | 1 => ("Endlessrows", "zero", "LEndlessrows$Row;", true)
  | 2 => ("Endlessrows", "wells", "[LEndlessrows$Well;", true)
  | 3 => ("Endlessrows", "trial", "LEndlessrows$Well;", true)
  | 4 => ("Endlessrows", "otherTrial", "LEndlessrows$Well;", true)
  | _ => ("Endlessrows", "knocks", "I", false)
def tyX3 : Nat → FieldType := fun k => match k with
  | 0 => .array (.object "Endlessrows$Row")
  | 1 => .object "Endlessrows$Row"
  | 2 => .array (.object "Endlessrows$Well")
  | 3 => .object "Endlessrows$Well"
  | 4 => .object "Endlessrows$Well"
  | _ => .int
abbrev wsX30 : List Cond := u_ws RX3 TX3 6
theorem nmX3 : ∀ a, a < 6 → ∀ b, b < 6 → a ≠ b → (TX3 a).2.1 ≠ (TX3 b).2.1 := by decide +kernel
theorem tyX3_ok : ∀ k, k < 6 → parseFieldDescriptor (TX3 k).2.2.1 = some (tyX3 k) := by decide +kernel
abbrev cX3_init : ByteArray := prog_1_method_1_code
def yX3_init : MethodName := ⟨RX3, "<init>", "()V"⟩
abbrev cX3_add : ByteArray := prog_1_method_2_code
def yX3_add : MethodName := ⟨RX3, "add", "(II)I"⟩
abbrev cX3_cut : ByteArray := prog_1_method_3_code
def yX3_cut : MethodName := ⟨RX3, "cut", "(I)I"⟩
abbrev cX3_fill : ByteArray := prog_1_method_5_code
def yX3_fill : MethodName := ⟨RX3, "fill", "(IIII)I"⟩
abbrev cX3_rowAt : ByteArray := prog_1_method_6_code
def yX3_rowAt : MethodName := ⟨RX3, "rowAt", "(II)I"⟩
abbrev cX3_rowSize : ByteArray := prog_1_method_7_code
def yX3_rowSize : MethodName := ⟨RX3, "rowSize", "(I)I"⟩
abbrev cX3_least : ByteArray := prog_1_method_9_code
def yX3_least : MethodName := ⟨RX3, "least", "(II)I"⟩
abbrev cX3_powers : ByteArray := prog_1_method_10_code
def yX3_powers : MethodName := ⟨RX3, "powers", "(II)I"⟩
abbrev cX3_sums : ByteArray := prog_1_method_11_code
def yX3_sums : MethodName := ⟨RX3, "sums", "(III)I"⟩
abbrev cX3_triples : ByteArray := prog_1_method_12_code
def yX3_triples : MethodName := ⟨RX3, "triples", "(IIII)I"⟩
abbrev cX3_merge : ByteArray := prog_1_method_13_code
def yX3_merge : MethodName := ⟨RX3, "merge", "(IIZ)I"⟩
abbrev cX3_table : ByteArray := prog_1_method_14_code
def yX3_table : MethodName := ⟨RX3, "table", "(III)I"⟩
abbrev cX3_primes : ByteArray := prog_1_method_15_code
def yX3_primes : MethodName := ⟨RX3, "primes", "(I)I"⟩
abbrev cX3_draw : ByteArray := prog_1_method_16_code
def yX3_draw : MethodName := ⟨RX3, "draw", "(I)I"⟩
abbrev cX3_draws : ByteArray := prog_1_method_17_code
def yX3_draws : MethodName := ⟨RX3, "draws", "(II)I"⟩
abbrev cX3_skip : ByteArray := prog_1_method_18_code
def yX3_skip : MethodName := ⟨RX3, "skip", "(II)I"⟩
abbrev cX3_copy : ByteArray := prog_1_method_19_code
def yX3_copy : MethodName := ⟨RX3, "copy", "(II)I"⟩
abbrev cX3_shake : ByteArray := prog_1_method_20_code
def yX3_shake : MethodName := ⟨RX3, "shake", "(I)I"⟩
abbrev cX3_anew : ByteArray := prog_1_method_21_code
def yX3_anew : MethodName := ⟨RX3, "anew", "(I)I"⟩
abbrev cX3_again : ByteArray := prog_1_method_22_code
def yX3_again : MethodName := ⟨RX3, "again", "(I)I"⟩
abbrev cX3_close : ByteArray := prog_1_method_23_code
def yX3_close : MethodName := ⟨RX3, "close", "(II)I"⟩
abbrev cX3_drop : ByteArray := prog_1_method_24_code
def yX3_drop : MethodName := ⟨RX3, "drop", "(I)I"⟩
abbrev cX3_peek : ByteArray := prog_1_method_26_code
def yX3_peek : MethodName := ⟨RX3, "peek", "(I)I"⟩
abbrev cX3_ofWell : ByteArray := prog_1_method_27_code
def yX3_ofWell : MethodName := ⟨RX3, "ofWell", "(II)I"⟩
abbrev cX3_nth : ByteArray := prog_1_method_28_code
def yX3_nth : MethodName := ⟨RX3, "nth", "(II)I"⟩
abbrev cX3_upTo : ByteArray := prog_1_method_29_code
def yX3_upTo : MethodName := ⟨RX3, "upTo", "(II)I"⟩
abbrev cX3_ways : ByteArray := prog_1_method_30_code
def yX3_ways : MethodName := ⟨RX3, "ways", "(II)I"⟩
abbrev cX3_waits : ByteArray := prog_1_method_31_code
def yX3_waits : MethodName := ⟨RX3, "waits", "(II)I"⟩
abbrev cX3_isAlike : ByteArray := prog_1_method_35_code
def yX3_isAlike : MethodName := ⟨RX3, "isAlike", "(II)Z"⟩
abbrev cX3_house : ByteArray := prog_1_method_36_code
def yX3_house : MethodName := ⟨RX3, "house", "(I)I"⟩
abbrev cX3_isSound : ByteArray := prog_1_method_37_code
def yX3_isSound : MethodName := ⟨RX3, "isSound", "()Z"⟩
abbrev cX3_digest : ByteArray := prog_1_method_38_code
def yX3_digest : MethodName := ⟨RX3, "digest", "()J"⟩
abbrev cX3_findRow : ByteArray := prog_1_method_39_code
def yX3_findRow : MethodName := ⟨RX3, "findRow", "(I)LEndlessrows$Row;"⟩
abbrev cX3_findWell : ByteArray := prog_1_method_40_code
def yX3_findWell : MethodName := ⟨RX3, "findWell", "(I)LEndlessrows$Well;"⟩
abbrev cX3_requirePlace : ByteArray := prog_1_method_41_code
def yX3_requirePlace : MethodName := ⟨RX3, "requirePlace", "(II)V"⟩
abbrev cX3_requireWithin : ByteArray := prog_1_method_42_code
def yX3_requireWithin : MethodName := ⟨RX3, "requireWithin", "(III)V"⟩
abbrev cX3_doTrialsTellAlike : ByteArray := prog_1_method_44_code
def yX3_doTrialsTellAlike : MethodName := ⟨RX3, "doTrialsTellAlike", "()Z"⟩
abbrev cX3_shareOf : ByteArray := prog_1_method_45_code
def yX3_shareOf : MethodName := ⟨RX3, "shareOf", "(LEndlessrows$Well;I)I"⟩
abbrev cX3_areRowsRising : ByteArray := prog_1_method_46_code
def yX3_areRowsRising : MethodName := ⟨RX3, "areRowsRising", "()Z"⟩
abbrev cX3_areQueuesWithinLimits : ByteArray := prog_1_method_47_code
def yX3_areQueuesWithinLimits : MethodName := ⟨RX3, "areQueuesWithinLimits", "()Z"⟩
abbrev cX3_hasToldNoMoreThanIs : ByteArray := prog_1_method_48_code
def yX3_hasToldNoMoreThanIs : MethodName := ⟨RX3, "hasToldNoMoreThanIs", "(LEndlessrows$Well;)Z"⟩
def RJ6 : String := "java/lang/Integer"
abbrev cJ6_bitCount_0f7a4 : ByteArray := prog_10_method_49_code
def yJ6_bitCount_0f7a4 : MethodName := ⟨RJ6, "bitCount", "(I)I"⟩
def RL : String := "EndlessrowsLaw"
abbrev cL_below : ByteArray := method_2_code
def yL_below : MethodName := ⟨RL, "below", "(II)I"⟩
abbrev cL_cell : ByteArray := method_3_code
def yL_cell : MethodName := ⟨RL, "cell", "([II)I"⟩
abbrev cL_roll : ByteArray := method_4_code
def yL_roll : MethodName := ⟨RL, "roll", "([II)I"⟩
abbrev cL_law : ByteArray := code
def yL_law : MethodName := ⟨RL, "law", "([I)Z"⟩
abbrev cL_begin : ByteArray := method_6_code
def yL_begin : MethodName := ⟨RL, "begin", "(LEndlessrows;IIII)V"⟩
abbrev cL_act : ByteArray := method_7_code
def yL_act : MethodName := ⟨RL, "act", "(LEndlessrows;IIII)V"⟩
abbrev cL_isPrime : ByteArray := method_8_code
def yL_isPrime : MethodName := ⟨RL, "isPrime", "(I)Z"⟩
abbrev cL_isCourse : ByteArray := method_9_code
def yL_isCourse : MethodName := ⟨RL, "isCourse", "(LEndlessrows;III)Z"⟩
abbrev cL_isGoing : ByteArray := method_10_code
def yL_isGoing : MethodName := ⟨RL, "isGoing", "(LEndlessrows;III)Z"⟩
abbrev cL_isMerged : ByteArray := method_11_code
def yL_isMerged : MethodName := ⟨RL, "isMerged", "(LEndlessrows;IIIZI)Z"⟩
abbrev cL_exponents : ByteArray := method_12_code
def yL_exponents : MethodName := ⟨RL, "exponents", "(III)I"⟩
abbrev cL_isCounted : ByteArray := method_13_code
def yL_isCounted : MethodName := ⟨RL, "isCounted", "(LEndlessrows;IIII)Z"⟩
/-- the words that every method is given -/
def er_G : List Cond := lw_tbl.filter goodWord
theorem er_in (i : Nat) {w : Cond} (h : lw_tbl[i]? = some w) (hg : goodWord w = true) : w ∈ er_G := List.mem_filter.mpr ⟨List.mem_of_getElem? h, hg⟩
theorem er_good : ∀ w ∈ er_G, goodWord w = true := fun w hw => (List.mem_filter.mp hw).2
theorem er_hts {args : Array Value} {s : State} (h : ∀ w ∈ lw_tbl, w.before args s = true) : ∀ w ∈ er_G, w.before args s = true := fun w hw => h w (List.mem_filter.mp hw).1
end
section
abbrev MT : Type := MethodName × ByteArray × Nat × Option FieldType × Nat × Nat × Bool
def mtN (Y : MT) : MethodName := Y.1
def mtC (Y : MT) : ByteArray := Y.2.1
def mtL (Y : MT) : Nat := Y.2.2.1
def mtR (Y : MT) : Option FieldType := Y.2.2.2.1
def mtK (Y : MT) : Nat := Y.2.2.2.2.1
def mtA (Y : MT) : Nat := Y.2.2.2.2.2.1
def mtS (Y : MT) : Bool := Y.2.2.2.2.2.2
def cN (c : Nat) : String := match c with
  | 0 => RX0
  | 1 => RX1
  | 2 => RX2
  | 3 => RX3
  | 4 => RL
  | _ => RJ6
def tT (c : Nat) : u_T := match c with
  | 0 => TX0
  | 1 => TX1
  | 2 => TX2
  | _ => TX3
def nF (c : Nat) : Nat := match c with
  | 0 => 2
  | 1 => 2
  | 2 => 8
  | _ => 6
def er_cl : List vw_C := [(RX0, TX0, 2), (RX1, TX1, 2), (RX2, TX2, 8), (RX3, TX3, 6)]
def m_Q_keyOf : MT := (yX0_keyOf, cX0_keyOf, 2, (some .int), 0, 2, true)
def m_Q_numberOf : MT := (yX0_numberOf, cX0_numberOf, 1, (some .int), 0, 1, true)
def m_Q_tagOf : MT := (yX0_tagOf, cX0_tagOf, 1, (some .int), 0, 1, true)
def m_Q_firstNumber : MT := (yX0_firstNumber, cX0_firstNumber, 1, (some .int), 0, 0, false)
def m_Q_push : MT := (yX0_push, cX0_push, 3, none, 0, 1, false)
def m_Q_pop : MT := (yX0_pop, cX0_pop, 2, (some .int), 0, 0, false)
def m_Q_sink : MT := (yX0_sink, cX0_sink, 4, none, 0, 1, false)
def m_Q_turnOver : MT := (yX0_turnOver, cX0_turnOver, 3, none, 0, 0, false)
def m_Q_remove : MT := (yX0_remove, cX0_remove, 2, none, 0, 1, false)
def m_Q_refill : MT := (yX0_refill, cX0_refill, 5, none, 0, 2, false)
def m_Q_holds : MT := (yX0_holds, cX0_holds, 3, (some .boolean), 0, 1, false)
def m_Q_countUpTo : MT := (yX0_countUpTo, cX0_countUpTo, 4, (some .int), 0, 1, false)
def m_Q_become : MT := (yX0_become, cX0_become, 2, none, 0, 1, false)
def m_R_numberAt : MT := (yX1_numberAt, cX1_numberAt, 2, (some .int), 1, 1, false)
def m_R_append : MT := (yX1_append, cX1_append, 2, (some .boolean), 1, 1, false)
def m_R_removeLast : MT := (yX1_removeLast, cX1_removeLast, 2, (some .int), 1, 0, false)
def m_R_become : MT := (yX1_become, cX1_become, 2, none, 1, 1, false)
def m_R_countUpTo : MT := (yX1_countUpTo, cX1_countUpTo, 3, (some .int), 1, 1, false)
def m_R_isRising : MT := (yX1_isRising, cX1_isRising, 2, (some .boolean), 1, 0, false)
def m_W_beginGrid : MT := (yX2_beginGrid, cX2_beginGrid, 5, none, 2, 4, false)
def m_W_beginMerged : MT := (yX2_beginMerged, cX2_beginMerged, 4, none, 2, 3, false)
def m_W_begin : MT := (yX2_begin, cX2_begin, 4, none, 2, 3, false)
def m_W_restart : MT := (yX2_restart, cX2_restart, 2, none, 2, 0, false)
def m_W_become : MT := (yX2_become, cX2_become, 2, none, 2, 1, false)
def m_W_takeRows : MT := (yX2_takeRows, cX2_takeRows, 3, none, 2, 1, false)
def m_W_tell : MT := (yX2_tell, cX2_tell, 3, (some .int), 2, 0, false)
def m_W_tellBelow : MT := (yX2_tellBelow, cX2_tellBelow, 4, (some .int), 2, 2, false)
def m_W_tellPrime : MT := (yX2_tellPrime, cX2_tellPrime, 4, none, 2, 0, false)
def m_W_offerProducts : MT := (yX2_offerProducts, cX2_offerProducts, 4, none, 2, 2, false)
def m_W_offerNeighbours : MT := (yX2_offerNeighbours, cX2_offerNeighbours, 4, none, 2, 3, false)
def m_W_offerOfGrid : MT := (yX2_offerOfGrid, cX2_offerOfGrid, 4, none, 2, 3, false)
def m_W_offerOfRow : MT := (yX2_offerOfRow, cX2_offerOfRow, 3, none, 2, 2, false)
def m_W_closeRow : MT := (yX2_closeRow, cX2_closeRow, 4, (some .int), 2, 1, false)
def m_W_isEmpty : MT := (yX2_isEmpty, cX2_isEmpty, 1, (some .boolean), 2, 0, false)
def m_W_isDry : MT := (yX2_isDry, cX2_isDry, 1, (some .boolean), 2, 0, false)
def m_W_nextNumber : MT := (yX2_nextNumber, cX2_nextNumber, 2, (some .int), 2, 0, false)
def m_W_numberBehind : MT := (yX2_numberBehind, cX2_numberBehind, 2, (some .int), 2, 1, false)
def m_W_lastNumber : MT := (yX2_lastNumber, cX2_lastNumber, 1, (some .int), 2, 0, false)
def m_W_lastPlace : MT := (yX2_lastPlace, cX2_lastPlace, 4, (some .int), 2, 1, false)
def m_W_limit : MT := (yX2_limit, cX2_limit, 1, (some .int), 2, 0, false)
def m_W_hasPlaces : MT := (yX2_hasPlaces, cX2_hasPlaces, 1, (some .boolean), 2, 0, false)
def m_W_tagAt : MT := (yX2_tagAt, cX2_tagAt, 6, (some .int), 2, 3, false)
def m_W_canCountTo : MT := (yX2_canCountTo, cX2_canCountTo, 2, (some .boolean), 2, 1, false)
def m_W_countUpTo : MT := (yX2_countUpTo, cX2_countUpTo, 2, (some .int), 2, 1, false)
def m_W_countProducts : MT := (yX2_countProducts, cX2_countProducts, 7, (some .int), 2, 4, true)
def m_W_countOfRows : MT := (yX2_countOfRows, cX2_countOfRows, 4, (some .int), 2, 1, false)
def m_W_countPrimes : MT := (yX2_countPrimes, cX2_countPrimes, 3, (some .int), 2, 1, true)
def m_W_countOfGrid : MT := (yX2_countOfGrid, cX2_countOfGrid, 6, (some .int), 2, 1, false)
def m_W_isGrid : MT := (yX2_isGrid, cX2_isGrid, 1, (some .boolean), 2, 0, false)
def m_W_isMember : MT := (yX2_isMember, cX2_isMember, 2, (some .boolean), 2, 2, true)
def m_W_rankOf : MT := (yX2_rankOf, cX2_rankOf, 2, (some .int), 2, 1, false)
def m_W_gridNumber : MT := (yX2_gridNumber, cX2_gridNumber, 6, (some .int), 2, 3, false)
def m_W_isPrime : MT := (yX2_isPrime, cX2_isPrime, 2, (some .boolean), 2, 1, true)
def m_H_add : MT := (yX3_add, cX3_add, 4, (some .int), 3, 2, false)
def m_H_cut : MT := (yX3_cut, cX3_cut, 3, (some .int), 3, 1, false)
def m_H_fill : MT := (yX3_fill, cX3_fill, 7, (some .int), 3, 4, false)
def m_H_rowAt : MT := (yX3_rowAt, cX3_rowAt, 4, (some .int), 3, 2, false)
def m_H_rowSize : MT := (yX3_rowSize, cX3_rowSize, 2, (some .int), 3, 1, false)
def m_H_least : MT := (yX3_least, cX3_least, 3, (some .int), 3, 2, false)
def m_H_powers : MT := (yX3_powers, cX3_powers, 4, (some .int), 3, 2, false)
def m_H_sums : MT := (yX3_sums, cX3_sums, 5, (some .int), 3, 3, false)
def m_H_triples : MT := (yX3_triples, cX3_triples, 6, (some .int), 3, 4, false)
def m_H_merge : MT := (yX3_merge, cX3_merge, 5, (some .int), 3, 3, false)
def m_H_table : MT := (yX3_table, cX3_table, 5, (some .int), 3, 3, false)
def m_H_primes : MT := (yX3_primes, cX3_primes, 3, (some .int), 3, 1, false)
def m_H_draw : MT := (yX3_draw, cX3_draw, 3, (some .int), 3, 1, false)
def m_H_draws : MT := (yX3_draws, cX3_draws, 4, (some .int), 3, 2, false)
def m_H_skip : MT := (yX3_skip, cX3_skip, 4, (some .int), 3, 2, false)
def m_H_copy : MT := (yX3_copy, cX3_copy, 5, (some .int), 3, 2, false)
def m_H_shake : MT := (yX3_shake, cX3_shake, 3, (some .int), 3, 1, false)
def m_H_anew : MT := (yX3_anew, cX3_anew, 3, (some .int), 3, 1, false)
def m_H_again : MT := (yX3_again, cX3_again, 4, (some .int), 3, 1, false)
def m_H_close : MT := (yX3_close, cX3_close, 4, (some .int), 3, 2, false)
def m_H_drop : MT := (yX3_drop, cX3_drop, 4, (some .int), 3, 1, false)
def m_H_peek : MT := (yX3_peek, cX3_peek, 3, (some .int), 3, 1, false)
def m_H_ofWell : MT := (yX3_ofWell, cX3_ofWell, 4, (some .int), 3, 2, false)
def m_H_nth : MT := (yX3_nth, cX3_nth, 4, (some .int), 3, 2, false)
def m_H_upTo : MT := (yX3_upTo, cX3_upTo, 4, (some .int), 3, 2, false)
def m_H_ways : MT := (yX3_ways, cX3_ways, 4, (some .int), 3, 2, false)
def m_H_waits : MT := (yX3_waits, cX3_waits, 4, (some .int), 3, 2, false)
def m_H_isAlike : MT := (yX3_isAlike, cX3_isAlike, 5, (some .boolean), 3, 2, false)
def m_H_house : MT := (yX3_house, cX3_house, 4, (some .int), 3, 1, false)
def m_H_isSound : MT := (yX3_isSound, cX3_isSound, 2, (some .boolean), 3, 0, false)
def m_H_digest : MT := (yX3_digest, cX3_digest, 6, (some .long), 3, 0, false)
def m_H_findRow : MT := (yX3_findRow, cX3_findRow, 2, (some (.object "Endlessrows$Row")), 3, 1, false)
def m_H_findWell : MT := (yX3_findWell, cX3_findWell, 2, (some (.object "Endlessrows$Well")), 3, 1, false)
def m_H_requirePlace : MT := (yX3_requirePlace, cX3_requirePlace, 2, none, 3, 2, true)
def m_H_requireWithin : MT := (yX3_requireWithin, cX3_requireWithin, 3, none, 3, 3, true)
def m_H_doTrialsTellAlike : MT := (yX3_doTrialsTellAlike, cX3_doTrialsTellAlike, 2, (some .boolean), 3, 0, false)
def m_H_shareOf : MT := (yX3_shareOf, cX3_shareOf, 2, (some .int), 3, 2, true)
def m_H_areRowsRising : MT := (yX3_areRowsRising, cX3_areRowsRising, 2, (some .boolean), 3, 0, false)
def m_H_areQueuesWithinLimits : MT := (yX3_areQueuesWithinLimits, cX3_areQueuesWithinLimits, 2, (some .boolean), 3, 0, false)
def m_H_hasToldNoMoreThanIs : MT := (yX3_hasToldNoMoreThanIs, cX3_hasToldNoMoreThanIs, 2, (some .boolean), 3, 1, true)
def m_J_bitCount : MT := (yJ6_bitCount_0f7a4, cJ6_bitCount_0f7a4, 1, (some .int), 5, 1, true)
def m_L_below : MT := (yL_below, cL_below, 2, (some .int), 4, 2, true)
def m_L_cell : MT := (yL_cell, cL_cell, 2, (some .int), 4, 2, true)
def m_L_roll : MT := (yL_roll, cL_roll, 3, (some .int), 4, 2, true)
def m_L_begin : MT := (yL_begin, cL_begin, 7, none, 4, 5, true)
def m_L_act : MT := (yL_act, cL_act, 5, none, 4, 5, true)
def m_L_isPrime : MT := (yL_isPrime, cL_isPrime, 2, (some .boolean), 4, 1, true)
def m_L_isCourse : MT := (yL_isCourse, cL_isCourse, 13, (some .boolean), 4, 4, true)
def m_L_isGoing : MT := (yL_isGoing, cL_isGoing, 7, (some .boolean), 4, 4, true)
def m_L_isMerged : MT := (yL_isMerged, cL_isMerged, 12, (some .boolean), 4, 6, true)
def m_L_exponents : MT := (yL_exponents, cL_exponents, 5, (some .int), 4, 3, true)
def m_L_isCounted : MT := (yL_isCounted, cL_isCounted, 13, (some .boolean), 4, 5, true)
def m_L_law : MT := (yL_law, code, 6, some .boolean, 4, 1, true)
/-- what the tables say of a method -/
def mtOK (Y : MT) : Prop := Cond.code (mtN Y) (mtC Y) (mtL Y) (mtR Y) ∈ er_G ∧ Cond.initialized (mtN Y).cls ∈ er_G ∧ (mtN Y).cls = cN (mtK Y) ∧ plainName (mtN Y).cls = true ∧ ((mtN Y).cls ≠ "java/lang/invoke/MethodHandle" ∧ (mtN Y).cls ≠ "java/lang/invoke/VarHandle" ∧ (parseMethodDescriptor (mtN Y).desc).map (fun d => d.parameters.length) = some (mtA Y)) ∧ mtL Y ≤ 13 ∧ (if mtS Y = true then Cond.static (mtN Y) ∈ er_G else (Cond.instanceMethod (mtN Y) ∈ er_G ∧ Cond.selects (mtN Y).cls (mtN Y) (mtN Y) ∈ er_G ∧ mtK Y < 4))
theorem m_Q_keyOf_ok : mtOK m_Q_keyOf := ⟨er_in 387 (by decide +kernel) rfl, er_in 23 (by decide +kernel) rfl, rfl, by decide +kernel, ⟨by decide +kernel, by decide +kernel, by decide +kernel⟩, by decide, er_in 386 (by decide +kernel) rfl⟩
theorem m_Q_numberOf_ok : mtOK m_Q_numberOf := ⟨er_in 316 (by decide +kernel) rfl, er_in 23 (by decide +kernel) rfl, rfl, by decide +kernel, ⟨by decide +kernel, by decide +kernel, by decide +kernel⟩, by decide, er_in 315 (by decide +kernel) rfl⟩
theorem m_Q_tagOf_ok : mtOK m_Q_tagOf := ⟨er_in 302 (by decide +kernel) rfl, er_in 23 (by decide +kernel) rfl, rfl, by decide +kernel, ⟨by decide +kernel, by decide +kernel, by decide +kernel⟩, by decide, er_in 301 (by decide +kernel) rfl⟩
theorem m_Q_firstNumber_ok : mtOK m_Q_firstNumber := ⟨er_in 380 (by decide +kernel) rfl, er_in 23 (by decide +kernel) rfl, rfl, by decide +kernel, ⟨by decide +kernel, by decide +kernel, by decide +kernel⟩, by decide, ⟨er_in 378 (by decide +kernel) rfl, er_in 379 (by decide +kernel) rfl, by decide⟩⟩
theorem m_Q_push_ok : mtOK m_Q_push := ⟨er_in 306 (by decide +kernel) rfl, er_in 23 (by decide +kernel) rfl, rfl, by decide +kernel, ⟨by decide +kernel, by decide +kernel, by decide +kernel⟩, by decide, ⟨er_in 304 (by decide +kernel) rfl, er_in 305 (by decide +kernel) rfl, by decide⟩⟩
theorem m_Q_pop_ok : mtOK m_Q_pop := ⟨er_in 291 (by decide +kernel) rfl, er_in 23 (by decide +kernel) rfl, rfl, by decide +kernel, ⟨by decide +kernel, by decide +kernel, by decide +kernel⟩, by decide, ⟨er_in 289 (by decide +kernel) rfl, er_in 290 (by decide +kernel) rfl, by decide⟩⟩
theorem m_Q_sink_ok : mtOK m_Q_sink := ⟨er_in 295 (by decide +kernel) rfl, er_in 23 (by decide +kernel) rfl, rfl, by decide +kernel, ⟨by decide +kernel, by decide +kernel, by decide +kernel⟩, by decide, ⟨er_in 294 (by decide +kernel) rfl, er_in 5 (by decide +kernel) rfl, by decide⟩⟩
theorem m_Q_turnOver_ok : mtOK m_Q_turnOver := ⟨er_in 287 (by decide +kernel) rfl, er_in 23 (by decide +kernel) rfl, rfl, by decide +kernel, ⟨by decide +kernel, by decide +kernel, by decide +kernel⟩, by decide, ⟨er_in 285 (by decide +kernel) rfl, er_in 286 (by decide +kernel) rfl, by decide⟩⟩
theorem m_Q_remove_ok : mtOK m_Q_remove := ⟨er_in 516 (by decide +kernel) rfl, er_in 23 (by decide +kernel) rfl, rfl, by decide +kernel, ⟨by decide +kernel, by decide +kernel, by decide +kernel⟩, by decide, ⟨er_in 514 (by decide +kernel) rfl, er_in 515 (by decide +kernel) rfl, by decide⟩⟩
theorem m_Q_refill_ok : mtOK m_Q_refill := ⟨er_in 299 (by decide +kernel) rfl, er_in 23 (by decide +kernel) rfl, rfl, by decide +kernel, ⟨by decide +kernel, by decide +kernel, by decide +kernel⟩, by decide, ⟨er_in 298 (by decide +kernel) rfl, er_in 6 (by decide +kernel) rfl, by decide⟩⟩
theorem m_Q_holds_ok : mtOK m_Q_holds := ⟨er_in 512 (by decide +kernel) rfl, er_in 23 (by decide +kernel) rfl, rfl, by decide +kernel, ⟨by decide +kernel, by decide +kernel, by decide +kernel⟩, by decide, ⟨er_in 510 (by decide +kernel) rfl, er_in 511 (by decide +kernel) rfl, by decide⟩⟩
theorem m_Q_countUpTo_ok : mtOK m_Q_countUpTo := ⟨er_in 610 (by decide +kernel) rfl, er_in 23 (by decide +kernel) rfl, rfl, by decide +kernel, ⟨by decide +kernel, by decide +kernel, by decide +kernel⟩, by decide, ⟨er_in 608 (by decide +kernel) rfl, er_in 609 (by decide +kernel) rfl, by decide⟩⟩
theorem m_Q_become_ok : mtOK m_Q_become := ⟨er_in 282 (by decide +kernel) rfl, er_in 23 (by decide +kernel) rfl, rfl, by decide +kernel, ⟨by decide +kernel, by decide +kernel, by decide +kernel⟩, by decide, ⟨er_in 280 (by decide +kernel) rfl, er_in 281 (by decide +kernel) rfl, by decide⟩⟩
theorem m_R_numberAt_ok : mtOK m_R_numberAt := ⟨er_in 117 (by decide +kernel) rfl, er_in 21 (by decide +kernel) rfl, rfl, by decide +kernel, ⟨by decide +kernel, by decide +kernel, by decide +kernel⟩, by decide, ⟨er_in 115 (by decide +kernel) rfl, er_in 116 (by decide +kernel) rfl, by decide⟩⟩
theorem m_R_append_ok : mtOK m_R_append := ⟨er_in 113 (by decide +kernel) rfl, er_in 21 (by decide +kernel) rfl, rfl, by decide +kernel, ⟨by decide +kernel, by decide +kernel, by decide +kernel⟩, by decide, ⟨er_in 111 (by decide +kernel) rfl, er_in 112 (by decide +kernel) rfl, by decide⟩⟩
theorem m_R_removeLast_ok : mtOK m_R_removeLast := ⟨er_in 492 (by decide +kernel) rfl, er_in 21 (by decide +kernel) rfl, rfl, by decide +kernel, ⟨by decide +kernel, by decide +kernel, by decide +kernel⟩, by decide, ⟨er_in 490 (by decide +kernel) rfl, er_in 491 (by decide +kernel) rfl, by decide⟩⟩
theorem m_R_become_ok : mtOK m_R_become := ⟨er_in 275 (by decide +kernel) rfl, er_in 21 (by decide +kernel) rfl, rfl, by decide +kernel, ⟨by decide +kernel, by decide +kernel, by decide +kernel⟩, by decide, ⟨er_in 273 (by decide +kernel) rfl, er_in 274 (by decide +kernel) rfl, by decide⟩⟩
theorem m_R_countUpTo_ok : mtOK m_R_countUpTo := ⟨er_in 341 (by decide +kernel) rfl, er_in 21 (by decide +kernel) rfl, rfl, by decide +kernel, ⟨by decide +kernel, by decide +kernel, by decide +kernel⟩, by decide, ⟨er_in 339 (by decide +kernel) rfl, er_in 340 (by decide +kernel) rfl, by decide⟩⟩
theorem m_R_isRising_ok : mtOK m_R_isRising := ⟨er_in 242 (by decide +kernel) rfl, er_in 21 (by decide +kernel) rfl, rfl, by decide +kernel, ⟨by decide +kernel, by decide +kernel, by decide +kernel⟩, by decide, ⟨er_in 240 (by decide +kernel) rfl, er_in 241 (by decide +kernel) rfl, by decide⟩⟩
theorem m_W_beginGrid_ok : mtOK m_W_beginGrid := ⟨er_in 456 (by decide +kernel) rfl, er_in 22 (by decide +kernel) rfl, rfl, by decide +kernel, ⟨by decide +kernel, by decide +kernel, by decide +kernel⟩, by decide, ⟨er_in 454 (by decide +kernel) rfl, er_in 455 (by decide +kernel) rfl, by decide⟩⟩
theorem m_W_beginMerged_ok : mtOK m_W_beginMerged := ⟨er_in 469 (by decide +kernel) rfl, er_in 22 (by decide +kernel) rfl, rfl, by decide +kernel, ⟨by decide +kernel, by decide +kernel, by decide +kernel⟩, by decide, ⟨er_in 467 (by decide +kernel) rfl, er_in 468 (by decide +kernel) rfl, by decide⟩⟩
theorem m_W_begin_ok : mtOK m_W_begin := ⟨er_in 440 (by decide +kernel) rfl, er_in 22 (by decide +kernel) rfl, rfl, by decide +kernel, ⟨by decide +kernel, by decide +kernel, by decide +kernel⟩, by decide, ⟨er_in 438 (by decide +kernel) rfl, er_in 439 (by decide +kernel) rfl, by decide⟩⟩
theorem m_W_restart_ok : mtOK m_W_restart := ⟨er_in 444 (by decide +kernel) rfl, er_in 22 (by decide +kernel) rfl, rfl, by decide +kernel, ⟨by decide +kernel, by decide +kernel, by decide +kernel⟩, by decide, ⟨er_in 442 (by decide +kernel) rfl, er_in 443 (by decide +kernel) rfl, by decide⟩⟩
theorem m_W_become_ok : mtOK m_W_become := ⟨er_in 267 (by decide +kernel) rfl, er_in 22 (by decide +kernel) rfl, rfl, by decide +kernel, ⟨by decide +kernel, by decide +kernel, by decide +kernel⟩, by decide, ⟨er_in 265 (by decide +kernel) rfl, er_in 266 (by decide +kernel) rfl, by decide⟩⟩
theorem m_W_takeRows_ok : mtOK m_W_takeRows := ⟨er_in 271 (by decide +kernel) rfl, er_in 22 (by decide +kernel) rfl, rfl, by decide +kernel, ⟨by decide +kernel, by decide +kernel, by decide +kernel⟩, by decide, ⟨er_in 270 (by decide +kernel) rfl, er_in 4 (by decide +kernel) rfl, by decide⟩⟩
theorem m_W_tell_ok : mtOK m_W_tell := ⟨er_in 368 (by decide +kernel) rfl, er_in 22 (by decide +kernel) rfl, rfl, by decide +kernel, ⟨by decide +kernel, by decide +kernel, by decide +kernel⟩, by decide, ⟨er_in 366 (by decide +kernel) rfl, er_in 367 (by decide +kernel) rfl, by decide⟩⟩
theorem m_W_tellBelow_ok : mtOK m_W_tellBelow := ⟨er_in 526 (by decide +kernel) rfl, er_in 22 (by decide +kernel) rfl, rfl, by decide +kernel, ⟨by decide +kernel, by decide +kernel, by decide +kernel⟩, by decide, ⟨er_in 524 (by decide +kernel) rfl, er_in 525 (by decide +kernel) rfl, by decide⟩⟩
theorem m_W_tellPrime_ok : mtOK m_W_tellPrime := ⟨er_in 372 (by decide +kernel) rfl, er_in 22 (by decide +kernel) rfl, rfl, by decide +kernel, ⟨by decide +kernel, by decide +kernel, by decide +kernel⟩, by decide, ⟨er_in 371 (by decide +kernel) rfl, er_in 11 (by decide +kernel) rfl, by decide⟩⟩
theorem m_W_offerProducts_ok : mtOK m_W_offerProducts := ⟨er_in 392 (by decide +kernel) rfl, er_in 22 (by decide +kernel) rfl, rfl, by decide +kernel, ⟨by decide +kernel, by decide +kernel, by decide +kernel⟩, by decide, ⟨er_in 391 (by decide +kernel) rfl, er_in 12 (by decide +kernel) rfl, by decide⟩⟩
theorem m_W_offerNeighbours_ok : mtOK m_W_offerNeighbours := ⟨er_in 407 (by decide +kernel) rfl, er_in 22 (by decide +kernel) rfl, rfl, by decide +kernel, ⟨by decide +kernel, by decide +kernel, by decide +kernel⟩, by decide, ⟨er_in 406 (by decide +kernel) rfl, er_in 15 (by decide +kernel) rfl, by decide⟩⟩
theorem m_W_offerOfGrid_ok : mtOK m_W_offerOfGrid := ⟨er_in 411 (by decide +kernel) rfl, er_in 22 (by decide +kernel) rfl, rfl, by decide +kernel, ⟨by decide +kernel, by decide +kernel, by decide +kernel⟩, by decide, ⟨er_in 410 (by decide +kernel) rfl, er_in 16 (by decide +kernel) rfl, by decide⟩⟩
theorem m_W_offerOfRow_ok : mtOK m_W_offerOfRow := ⟨er_in 403 (by decide +kernel) rfl, er_in 22 (by decide +kernel) rfl, rfl, by decide +kernel, ⟨by decide +kernel, by decide +kernel, by decide +kernel⟩, by decide, ⟨er_in 402 (by decide +kernel) rfl, er_in 14 (by decide +kernel) rfl, by decide⟩⟩
theorem m_W_closeRow_ok : mtOK m_W_closeRow := ⟨er_in 504 (by decide +kernel) rfl, er_in 22 (by decide +kernel) rfl, rfl, by decide +kernel, ⟨by decide +kernel, by decide +kernel, by decide +kernel⟩, by decide, ⟨er_in 502 (by decide +kernel) rfl, er_in 503 (by decide +kernel) rfl, by decide⟩⟩
theorem m_W_isEmpty_ok : mtOK m_W_isEmpty := ⟨er_in 263 (by decide +kernel) rfl, er_in 22 (by decide +kernel) rfl, rfl, by decide +kernel, ⟨by decide +kernel, by decide +kernel, by decide +kernel⟩, by decide, ⟨er_in 261 (by decide +kernel) rfl, er_in 262 (by decide +kernel) rfl, by decide⟩⟩
theorem m_W_isDry_ok : mtOK m_W_isDry := ⟨er_in 364 (by decide +kernel) rfl, er_in 22 (by decide +kernel) rfl, rfl, by decide +kernel, ⟨by decide +kernel, by decide +kernel, by decide +kernel⟩, by decide, ⟨er_in 362 (by decide +kernel) rfl, er_in 363 (by decide +kernel) rfl, by decide⟩⟩
theorem m_W_nextNumber_ok : mtOK m_W_nextNumber := ⟨er_in 376 (by decide +kernel) rfl, er_in 22 (by decide +kernel) rfl, rfl, by decide +kernel, ⟨by decide +kernel, by decide +kernel, by decide +kernel⟩, by decide, ⟨er_in 374 (by decide +kernel) rfl, er_in 375 (by decide +kernel) rfl, by decide⟩⟩
theorem m_W_numberBehind_ok : mtOK m_W_numberBehind := ⟨er_in 622 (by decide +kernel) rfl, er_in 22 (by decide +kernel) rfl, rfl, by decide +kernel, ⟨by decide +kernel, by decide +kernel, by decide +kernel⟩, by decide, ⟨er_in 620 (by decide +kernel) rfl, er_in 621 (by decide +kernel) rfl, by decide⟩⟩
theorem m_W_lastNumber_ok : mtOK m_W_lastNumber := ⟨er_in 313 (by decide +kernel) rfl, er_in 22 (by decide +kernel) rfl, rfl, by decide +kernel, ⟨by decide +kernel, by decide +kernel, by decide +kernel⟩, by decide, ⟨er_in 311 (by decide +kernel) rfl, er_in 312 (by decide +kernel) rfl, by decide⟩⟩
theorem m_W_lastPlace_ok : mtOK m_W_lastPlace := ⟨er_in 568 (by decide +kernel) rfl, er_in 22 (by decide +kernel) rfl, rfl, by decide +kernel, ⟨by decide +kernel, by decide +kernel, by decide +kernel⟩, by decide, ⟨er_in 566 (by decide +kernel) rfl, er_in 567 (by decide +kernel) rfl, by decide⟩⟩
theorem m_W_limit_ok : mtOK m_W_limit := ⟨er_in 250 (by decide +kernel) rfl, er_in 22 (by decide +kernel) rfl, rfl, by decide +kernel, ⟨by decide +kernel, by decide +kernel, by decide +kernel⟩, by decide, ⟨er_in 248 (by decide +kernel) rfl, er_in 249 (by decide +kernel) rfl, by decide⟩⟩
theorem m_W_hasPlaces_ok : mtOK m_W_hasPlaces := ⟨er_in 572 (by decide +kernel) rfl, er_in 22 (by decide +kernel) rfl, rfl, by decide +kernel, ⟨by decide +kernel, by decide +kernel, by decide +kernel⟩, by decide, ⟨er_in 570 (by decide +kernel) rfl, er_in 571 (by decide +kernel) rfl, by decide⟩⟩
theorem m_W_tagAt_ok : mtOK m_W_tagAt := ⟨er_in 508 (by decide +kernel) rfl, er_in 22 (by decide +kernel) rfl, rfl, by decide +kernel, ⟨by decide +kernel, by decide +kernel, by decide +kernel⟩, by decide, ⟨er_in 506 (by decide +kernel) rfl, er_in 507 (by decide +kernel) rfl, by decide⟩⟩
theorem m_W_canCountTo_ok : mtOK m_W_canCountTo := ⟨er_in 320 (by decide +kernel) rfl, er_in 22 (by decide +kernel) rfl, rfl, by decide +kernel, ⟨by decide +kernel, by decide +kernel, by decide +kernel⟩, by decide, ⟨er_in 318 (by decide +kernel) rfl, er_in 319 (by decide +kernel) rfl, by decide⟩⟩
theorem m_W_countUpTo_ok : mtOK m_W_countUpTo := ⟨er_in 324 (by decide +kernel) rfl, er_in 22 (by decide +kernel) rfl, rfl, by decide +kernel, ⟨by decide +kernel, by decide +kernel, by decide +kernel⟩, by decide, ⟨er_in 322 (by decide +kernel) rfl, er_in 323 (by decide +kernel) rfl, by decide⟩⟩
theorem m_W_countProducts_ok : mtOK m_W_countProducts := ⟨er_in 328 (by decide +kernel) rfl, er_in 22 (by decide +kernel) rfl, rfl, by decide +kernel, ⟨by decide +kernel, by decide +kernel, by decide +kernel⟩, by decide, er_in 327 (by decide +kernel) rfl⟩
theorem m_W_countOfRows_ok : mtOK m_W_countOfRows := ⟨er_in 337 (by decide +kernel) rfl, er_in 22 (by decide +kernel) rfl, rfl, by decide +kernel, ⟨by decide +kernel, by decide +kernel, by decide +kernel⟩, by decide, ⟨er_in 336 (by decide +kernel) rfl, er_in 7 (by decide +kernel) rfl, by decide⟩⟩
theorem m_W_countPrimes_ok : mtOK m_W_countPrimes := ⟨er_in 344 (by decide +kernel) rfl, er_in 22 (by decide +kernel) rfl, rfl, by decide +kernel, ⟨by decide +kernel, by decide +kernel, by decide +kernel⟩, by decide, er_in 343 (by decide +kernel) rfl⟩
theorem m_W_countOfGrid_ok : mtOK m_W_countOfGrid := ⟨er_in 351 (by decide +kernel) rfl, er_in 22 (by decide +kernel) rfl, rfl, by decide +kernel, ⟨by decide +kernel, by decide +kernel, by decide +kernel⟩, by decide, ⟨er_in 350 (by decide +kernel) rfl, er_in 8 (by decide +kernel) rfl, by decide⟩⟩
theorem m_W_isGrid_ok : mtOK m_W_isGrid := ⟨er_in 448 (by decide +kernel) rfl, er_in 22 (by decide +kernel) rfl, rfl, by decide +kernel, ⟨by decide +kernel, by decide +kernel, by decide +kernel⟩, by decide, ⟨er_in 447 (by decide +kernel) rfl, er_in 18 (by decide +kernel) rfl, by decide⟩⟩
theorem m_W_isMember_ok : mtOK m_W_isMember := ⟨er_in 333 (by decide +kernel) rfl, er_in 22 (by decide +kernel) rfl, rfl, by decide +kernel, ⟨by decide +kernel, by decide +kernel, by decide +kernel⟩, by decide, er_in 332 (by decide +kernel) rfl⟩
theorem m_W_rankOf_ok : mtOK m_W_rankOf := ⟨er_in 399 (by decide +kernel) rfl, er_in 22 (by decide +kernel) rfl, rfl, by decide +kernel, ⟨by decide +kernel, by decide +kernel, by decide +kernel⟩, by decide, ⟨er_in 398 (by decide +kernel) rfl, er_in 13 (by decide +kernel) rfl, by decide⟩⟩
theorem m_W_gridNumber_ok : mtOK m_W_gridNumber := ⟨er_in 355 (by decide +kernel) rfl, er_in 22 (by decide +kernel) rfl, rfl, by decide +kernel, ⟨by decide +kernel, by decide +kernel, by decide +kernel⟩, by decide, ⟨er_in 354 (by decide +kernel) rfl, er_in 9 (by decide +kernel) rfl, by decide⟩⟩
theorem m_W_isPrime_ok : mtOK m_W_isPrime := ⟨er_in 347 (by decide +kernel) rfl, er_in 22 (by decide +kernel) rfl, rfl, by decide +kernel, ⟨by decide +kernel, by decide +kernel, by decide +kernel⟩, by decide, er_in 346 (by decide +kernel) rfl⟩
theorem m_H_add_ok : mtOK m_H_add := ⟨er_in 484 (by decide +kernel) rfl, er_in 20 (by decide +kernel) rfl, rfl, by decide +kernel, ⟨by decide +kernel, by decide +kernel, by decide +kernel⟩, by decide, ⟨er_in 482 (by decide +kernel) rfl, er_in 483 (by decide +kernel) rfl, by decide⟩⟩
theorem m_H_cut_ok : mtOK m_H_cut := ⟨er_in 488 (by decide +kernel) rfl, er_in 20 (by decide +kernel) rfl, rfl, by decide +kernel, ⟨by decide +kernel, by decide +kernel, by decide +kernel⟩, by decide, ⟨er_in 486 (by decide +kernel) rfl, er_in 487 (by decide +kernel) rfl, by decide⟩⟩
theorem m_H_fill_ok : mtOK m_H_fill := ⟨er_in 140 (by decide +kernel) rfl, er_in 20 (by decide +kernel) rfl, rfl, by decide +kernel, ⟨by decide +kernel, by decide +kernel, by decide +kernel⟩, by decide, ⟨er_in 138 (by decide +kernel) rfl, er_in 139 (by decide +kernel) rfl, by decide⟩⟩
theorem m_H_rowAt_ok : mtOK m_H_rowAt := ⟨er_in 593 (by decide +kernel) rfl, er_in 20 (by decide +kernel) rfl, rfl, by decide +kernel, ⟨by decide +kernel, by decide +kernel, by decide +kernel⟩, by decide, ⟨er_in 591 (by decide +kernel) rfl, er_in 592 (by decide +kernel) rfl, by decide⟩⟩
theorem m_H_rowSize_ok : mtOK m_H_rowSize := ⟨er_in 589 (by decide +kernel) rfl, er_in 20 (by decide +kernel) rfl, rfl, by decide +kernel, ⟨by decide +kernel, by decide +kernel, by decide +kernel⟩, by decide, ⟨er_in 587 (by decide +kernel) rfl, er_in 588 (by decide +kernel) rfl, by decide⟩⟩
theorem m_H_least_ok : mtOK m_H_least := ⟨er_in 646 (by decide +kernel) rfl, er_in 20 (by decide +kernel) rfl, rfl, by decide +kernel, ⟨by decide +kernel, by decide +kernel, by decide +kernel⟩, by decide, ⟨er_in 644 (by decide +kernel) rfl, er_in 645 (by decide +kernel) rfl, by decide⟩⟩
theorem m_H_powers_ok : mtOK m_H_powers := ⟨er_in 431 (by decide +kernel) rfl, er_in 20 (by decide +kernel) rfl, rfl, by decide +kernel, ⟨by decide +kernel, by decide +kernel, by decide +kernel⟩, by decide, ⟨er_in 429 (by decide +kernel) rfl, er_in 430 (by decide +kernel) rfl, by decide⟩⟩
theorem m_H_sums_ok : mtOK m_H_sums := ⟨er_in 452 (by decide +kernel) rfl, er_in 20 (by decide +kernel) rfl, rfl, by decide +kernel, ⟨by decide +kernel, by decide +kernel, by decide +kernel⟩, by decide, ⟨er_in 450 (by decide +kernel) rfl, er_in 451 (by decide +kernel) rfl, by decide⟩⟩
theorem m_H_triples_ok : mtOK m_H_triples := ⟨er_in 461 (by decide +kernel) rfl, er_in 20 (by decide +kernel) rfl, rfl, by decide +kernel, ⟨by decide +kernel, by decide +kernel, by decide +kernel⟩, by decide, ⟨er_in 459 (by decide +kernel) rfl, er_in 460 (by decide +kernel) rfl, by decide⟩⟩
theorem m_H_merge_ok : mtOK m_H_merge := ⟨er_in 465 (by decide +kernel) rfl, er_in 20 (by decide +kernel) rfl, rfl, by decide +kernel, ⟨by decide +kernel, by decide +kernel, by decide +kernel⟩, by decide, ⟨er_in 463 (by decide +kernel) rfl, er_in 464 (by decide +kernel) rfl, by decide⟩⟩
theorem m_H_table_ok : mtOK m_H_table := ⟨er_in 473 (by decide +kernel) rfl, er_in 20 (by decide +kernel) rfl, rfl, by decide +kernel, ⟨by decide +kernel, by decide +kernel, by decide +kernel⟩, by decide, ⟨er_in 471 (by decide +kernel) rfl, er_in 472 (by decide +kernel) rfl, by decide⟩⟩
theorem m_H_primes_ok : mtOK m_H_primes := ⟨er_in 477 (by decide +kernel) rfl, er_in 20 (by decide +kernel) rfl, rfl, by decide +kernel, ⟨by decide +kernel, by decide +kernel, by decide +kernel⟩, by decide, ⟨er_in 475 (by decide +kernel) rfl, er_in 476 (by decide +kernel) rfl, by decide⟩⟩
theorem m_H_draw_ok : mtOK m_H_draw := ⟨er_in 553 (by decide +kernel) rfl, er_in 20 (by decide +kernel) rfl, rfl, by decide +kernel, ⟨by decide +kernel, by decide +kernel, by decide +kernel⟩, by decide, ⟨er_in 551 (by decide +kernel) rfl, er_in 552 (by decide +kernel) rfl, by decide⟩⟩
theorem m_H_draws_ok : mtOK m_H_draws := ⟨er_in 557 (by decide +kernel) rfl, er_in 20 (by decide +kernel) rfl, rfl, by decide +kernel, ⟨by decide +kernel, by decide +kernel, by decide +kernel⟩, by decide, ⟨er_in 555 (by decide +kernel) rfl, er_in 556 (by decide +kernel) rfl, by decide⟩⟩
theorem m_H_skip_ok : mtOK m_H_skip := ⟨er_in 521 (by decide +kernel) rfl, er_in 20 (by decide +kernel) rfl, rfl, by decide +kernel, ⟨by decide +kernel, by decide +kernel, by decide +kernel⟩, by decide, ⟨er_in 519 (by decide +kernel) rfl, er_in 520 (by decide +kernel) rfl, by decide⟩⟩
theorem m_H_copy_ok : mtOK m_H_copy := ⟨er_in 532 (by decide +kernel) rfl, er_in 20 (by decide +kernel) rfl, rfl, by decide +kernel, ⟨by decide +kernel, by decide +kernel, by decide +kernel⟩, by decide, ⟨er_in 530 (by decide +kernel) rfl, er_in 531 (by decide +kernel) rfl, by decide⟩⟩
theorem m_H_shake_ok : mtOK m_H_shake := ⟨er_in 549 (by decide +kernel) rfl, er_in 20 (by decide +kernel) rfl, rfl, by decide +kernel, ⟨by decide +kernel, by decide +kernel, by decide +kernel⟩, by decide, ⟨er_in 547 (by decide +kernel) rfl, er_in 548 (by decide +kernel) rfl, by decide⟩⟩
theorem m_H_anew_ok : mtOK m_H_anew := ⟨er_in 536 (by decide +kernel) rfl, er_in 20 (by decide +kernel) rfl, rfl, by decide +kernel, ⟨by decide +kernel, by decide +kernel, by decide +kernel⟩, by decide, ⟨er_in 534 (by decide +kernel) rfl, er_in 535 (by decide +kernel) rfl, by decide⟩⟩
theorem m_H_again_ok : mtOK m_H_again := ⟨er_in 541 (by decide +kernel) rfl, er_in 20 (by decide +kernel) rfl, rfl, by decide +kernel, ⟨by decide +kernel, by decide +kernel, by decide +kernel⟩, by decide, ⟨er_in 539 (by decide +kernel) rfl, er_in 540 (by decide +kernel) rfl, by decide⟩⟩
theorem m_H_close_ok : mtOK m_H_close := ⟨er_in 496 (by decide +kernel) rfl, er_in 20 (by decide +kernel) rfl, rfl, by decide +kernel, ⟨by decide +kernel, by decide +kernel, by decide +kernel⟩, by decide, ⟨er_in 494 (by decide +kernel) rfl, er_in 495 (by decide +kernel) rfl, by decide⟩⟩
theorem m_H_drop_ok : mtOK m_H_drop := ⟨er_in 545 (by decide +kernel) rfl, er_in 20 (by decide +kernel) rfl, rfl, by decide +kernel, ⟨by decide +kernel, by decide +kernel, by decide +kernel⟩, by decide, ⟨er_in 543 (by decide +kernel) rfl, er_in 544 (by decide +kernel) rfl, by decide⟩⟩
theorem m_H_peek_ok : mtOK m_H_peek := ⟨er_in 599 (by decide +kernel) rfl, er_in 20 (by decide +kernel) rfl, rfl, by decide +kernel, ⟨by decide +kernel, by decide +kernel, by decide +kernel⟩, by decide, ⟨er_in 597 (by decide +kernel) rfl, er_in 598 (by decide +kernel) rfl, by decide⟩⟩
theorem m_H_ofWell_ok : mtOK m_H_ofWell := ⟨er_in 564 (by decide +kernel) rfl, er_in 20 (by decide +kernel) rfl, rfl, by decide +kernel, ⟨by decide +kernel, by decide +kernel, by decide +kernel⟩, by decide, ⟨er_in 562 (by decide +kernel) rfl, er_in 563 (by decide +kernel) rfl, by decide⟩⟩
theorem m_H_nth_ok : mtOK m_H_nth := ⟨er_in 618 (by decide +kernel) rfl, er_in 20 (by decide +kernel) rfl, rfl, by decide +kernel, ⟨by decide +kernel, by decide +kernel, by decide +kernel⟩, by decide, ⟨er_in 616 (by decide +kernel) rfl, er_in 617 (by decide +kernel) rfl, by decide⟩⟩
theorem m_H_upTo_ok : mtOK m_H_upTo := ⟨er_in 614 (by decide +kernel) rfl, er_in 20 (by decide +kernel) rfl, rfl, by decide +kernel, ⟨by decide +kernel, by decide +kernel, by decide +kernel⟩, by decide, ⟨er_in 612 (by decide +kernel) rfl, er_in 613 (by decide +kernel) rfl, by decide⟩⟩
theorem m_H_ways_ok : mtOK m_H_ways := ⟨er_in 632 (by decide +kernel) rfl, er_in 20 (by decide +kernel) rfl, rfl, by decide +kernel, ⟨by decide +kernel, by decide +kernel, by decide +kernel⟩, by decide, ⟨er_in 630 (by decide +kernel) rfl, er_in 631 (by decide +kernel) rfl, by decide⟩⟩
theorem m_H_waits_ok : mtOK m_H_waits := ⟨er_in 606 (by decide +kernel) rfl, er_in 20 (by decide +kernel) rfl, rfl, by decide +kernel, ⟨by decide +kernel, by decide +kernel, by decide +kernel⟩, by decide, ⟨er_in 604 (by decide +kernel) rfl, er_in 605 (by decide +kernel) rfl, by decide⟩⟩
theorem m_H_isAlike_ok : mtOK m_H_isAlike := ⟨er_in 639 (by decide +kernel) rfl, er_in 20 (by decide +kernel) rfl, rfl, by decide +kernel, ⟨by decide +kernel, by decide +kernel, by decide +kernel⟩, by decide, ⟨er_in 637 (by decide +kernel) rfl, er_in 638 (by decide +kernel) rfl, by decide⟩⟩
theorem m_H_house_ok : mtOK m_H_house := ⟨er_in 582 (by decide +kernel) rfl, er_in 20 (by decide +kernel) rfl, rfl, by decide +kernel, ⟨by decide +kernel, by decide +kernel, by decide +kernel⟩, by decide, ⟨er_in 580 (by decide +kernel) rfl, er_in 581 (by decide +kernel) rfl, by decide⟩⟩
theorem m_H_isSound_ok : mtOK m_H_isSound := ⟨er_in 234 (by decide +kernel) rfl, er_in 20 (by decide +kernel) rfl, rfl, by decide +kernel, ⟨by decide +kernel, by decide +kernel, by decide +kernel⟩, by decide, ⟨er_in 232 (by decide +kernel) rfl, er_in 233 (by decide +kernel) rfl, by decide⟩⟩
theorem m_H_digest_ok : mtOK m_H_digest := ⟨er_in 576 (by decide +kernel) rfl, er_in 20 (by decide +kernel) rfl, rfl, by decide +kernel, ⟨by decide +kernel, by decide +kernel, by decide +kernel⟩, by decide, ⟨er_in 574 (by decide +kernel) rfl, er_in 575 (by decide +kernel) rfl, by decide⟩⟩
theorem m_H_findRow_ok : mtOK m_H_findRow := ⟨er_in 144 (by decide +kernel) rfl, er_in 20 (by decide +kernel) rfl, rfl, by decide +kernel, ⟨by decide +kernel, by decide +kernel, by decide +kernel⟩, by decide, ⟨er_in 143 (by decide +kernel) rfl, er_in 0 (by decide +kernel) rfl, by decide⟩⟩
theorem m_H_findWell_ok : mtOK m_H_findWell := ⟨er_in 435 (by decide +kernel) rfl, er_in 20 (by decide +kernel) rfl, rfl, by decide +kernel, ⟨by decide +kernel, by decide +kernel, by decide +kernel⟩, by decide, ⟨er_in 434 (by decide +kernel) rfl, er_in 17 (by decide +kernel) rfl, by decide⟩⟩
theorem m_H_requirePlace_ok : mtOK m_H_requirePlace := ⟨er_in 499 (by decide +kernel) rfl, er_in 20 (by decide +kernel) rfl, rfl, by decide +kernel, ⟨by decide +kernel, by decide +kernel, by decide +kernel⟩, by decide, er_in 498 (by decide +kernel) rfl⟩
theorem m_H_requireWithin_ok : mtOK m_H_requireWithin := ⟨er_in 214 (by decide +kernel) rfl, er_in 20 (by decide +kernel) rfl, rfl, by decide +kernel, ⟨by decide +kernel, by decide +kernel, by decide +kernel⟩, by decide, er_in 213 (by decide +kernel) rfl⟩
theorem m_H_doTrialsTellAlike_ok : mtOK m_H_doTrialsTellAlike := ⟨er_in 360 (by decide +kernel) rfl, er_in 20 (by decide +kernel) rfl, rfl, by decide +kernel, ⟨by decide +kernel, by decide +kernel, by decide +kernel⟩, by decide, ⟨er_in 359 (by decide +kernel) rfl, er_in 10 (by decide +kernel) rfl, by decide⟩⟩
theorem m_H_shareOf_ok : mtOK m_H_shareOf := ⟨er_in 585 (by decide +kernel) rfl, er_in 20 (by decide +kernel) rfl, rfl, by decide +kernel, ⟨by decide +kernel, by decide +kernel, by decide +kernel⟩, by decide, er_in 584 (by decide +kernel) rfl⟩
theorem m_H_areRowsRising_ok : mtOK m_H_areRowsRising := ⟨er_in 238 (by decide +kernel) rfl, er_in 20 (by decide +kernel) rfl, rfl, by decide +kernel, ⟨by decide +kernel, by decide +kernel, by decide +kernel⟩, by decide, ⟨er_in 237 (by decide +kernel) rfl, er_in 2 (by decide +kernel) rfl, by decide⟩⟩
theorem m_H_areQueuesWithinLimits_ok : mtOK m_H_areQueuesWithinLimits := ⟨er_in 246 (by decide +kernel) rfl, er_in 20 (by decide +kernel) rfl, rfl, by decide +kernel, ⟨by decide +kernel, by decide +kernel, by decide +kernel⟩, by decide, ⟨er_in 245 (by decide +kernel) rfl, er_in 3 (by decide +kernel) rfl, by decide⟩⟩
theorem m_H_hasToldNoMoreThanIs_ok : mtOK m_H_hasToldNoMoreThanIs := ⟨er_in 309 (by decide +kernel) rfl, er_in 20 (by decide +kernel) rfl, rfl, by decide +kernel, ⟨by decide +kernel, by decide +kernel, by decide +kernel⟩, by decide, er_in 308 (by decide +kernel) rfl⟩
theorem m_J_bitCount_ok : mtOK m_J_bitCount := ⟨er_in 253 (by decide +kernel) rfl, er_in 31 (by decide +kernel) rfl, rfl, by decide +kernel, ⟨by decide +kernel, by decide +kernel, by decide +kernel⟩, by decide, er_in 252 (by decide +kernel) rfl⟩
theorem m_L_below_ok : mtOK m_L_below := ⟨er_in 414 (by decide +kernel) rfl, er_in 19 (by decide +kernel) rfl, rfl, by decide +kernel, ⟨by decide +kernel, by decide +kernel, by decide +kernel⟩, by decide, er_in 413 (by decide +kernel) rfl⟩
theorem m_L_cell_ok : mtOK m_L_cell := ⟨er_in 421 (by decide +kernel) rfl, er_in 19 (by decide +kernel) rfl, rfl, by decide +kernel, ⟨by decide +kernel, by decide +kernel, by decide +kernel⟩, by decide, er_in 420 (by decide +kernel) rfl⟩
theorem m_L_roll_ok : mtOK m_L_roll := ⟨er_in 418 (by decide +kernel) rfl, er_in 19 (by decide +kernel) rfl, rfl, by decide +kernel, ⟨by decide +kernel, by decide +kernel, by decide +kernel⟩, by decide, er_in 417 (by decide +kernel) rfl⟩
theorem m_L_begin_ok : mtOK m_L_begin := ⟨er_in 427 (by decide +kernel) rfl, er_in 19 (by decide +kernel) rfl, rfl, by decide +kernel, ⟨by decide +kernel, by decide +kernel, by decide +kernel⟩, by decide, er_in 426 (by decide +kernel) rfl⟩
theorem m_L_act_ok : mtOK m_L_act := ⟨er_in 480 (by decide +kernel) rfl, er_in 19 (by decide +kernel) rfl, rfl, by decide +kernel, ⟨by decide +kernel, by decide +kernel, by decide +kernel⟩, by decide, er_in 479 (by decide +kernel) rfl⟩
theorem m_L_isPrime_ok : mtOK m_L_isPrime := ⟨er_in 628 (by decide +kernel) rfl, er_in 19 (by decide +kernel) rfl, rfl, by decide +kernel, ⟨by decide +kernel, by decide +kernel, by decide +kernel⟩, by decide, er_in 627 (by decide +kernel) rfl⟩
theorem m_L_isCourse_ok : mtOK m_L_isCourse := ⟨er_in 560 (by decide +kernel) rfl, er_in 19 (by decide +kernel) rfl, rfl, by decide +kernel, ⟨by decide +kernel, by decide +kernel, by decide +kernel⟩, by decide, er_in 559 (by decide +kernel) rfl⟩
theorem m_L_isGoing_ok : mtOK m_L_isGoing := ⟨er_in 635 (by decide +kernel) rfl, er_in 19 (by decide +kernel) rfl, rfl, by decide +kernel, ⟨by decide +kernel, by decide +kernel, by decide +kernel⟩, by decide, er_in 634 (by decide +kernel) rfl⟩
theorem m_L_isMerged_ok : mtOK m_L_isMerged := ⟨er_in 642 (by decide +kernel) rfl, er_in 19 (by decide +kernel) rfl, rfl, by decide +kernel, ⟨by decide +kernel, by decide +kernel, by decide +kernel⟩, by decide, er_in 641 (by decide +kernel) rfl⟩
theorem m_L_exponents_ok : mtOK m_L_exponents := ⟨er_in 654 (by decide +kernel) rfl, er_in 19 (by decide +kernel) rfl, rfl, by decide +kernel, ⟨by decide +kernel, by decide +kernel, by decide +kernel⟩, by decide, er_in 653 (by decide +kernel) rfl⟩
theorem m_L_isCounted_ok : mtOK m_L_isCounted := ⟨er_in 649 (by decide +kernel) rfl, er_in 19 (by decide +kernel) rfl, rfl, by decide +kernel, ⟨by decide +kernel, by decide +kernel, by decide +kernel⟩, by decide, er_in 648 (by decide +kernel) rfl⟩
def er_find {α : Type} (l : List (Nat × Nat × α)) (c i : Nat) : Option α := (l.find? (fun q => q.1 == c && q.2.1 == i)).map (fun q => q.2.2)
theorem er_find_mem {α : Type} {l : List (Nat × Nat × α)} {c i : Nat} {x : α} (h : er_find l c i = some x) : (c, i, x) ∈ l := by
  unfold er_find at h
  cases hf : l.find? (fun q => q.1 == c && q.2.1 == i) with
  | none => rw [hf] at h; cases h
  | some q =>
    rw [hf] at h
    have h1 := List.mem_of_find?_eq_some hf
    have h2 := List.find?_some hf
    simp only [Bool.and_eq_true, beq_iff_eq] at h2
    obtain ⟨a, b, z⟩ := q
    simp only [Option.map_some, Option.some.injEq] at h
    obtain ⟨rfl, rfl⟩ := h2
    subst h
    exact h1
def er_calls : List (Nat × Nat × MT) := [(3, 34, m_R_append), (1, 19, m_R_numberAt), (4, 27, m_H_fill), (3, 38, m_H_findRow), (3, 42, m_H_requireWithin), (4, 38, m_H_isSound), (3, 177, m_H_areRowsRising), (3, 234, m_R_isRising), (3, 180, m_H_areQueuesWithinLimits), (3, 150, m_W_limit), (2, 165, m_J_bitCount), (3, 108, m_W_isEmpty), (3, 116, m_W_become), (2, 37, m_W_takeRows), (2, 29, m_R_become), (2, 83, m_Q_become), (3, 120, m_Q_turnOver), (0, 27, m_Q_pop), (0, 23, m_Q_sink), (0, 31, m_Q_refill), (0, 35, m_Q_tagOf), (0, 38, m_Q_push), (3, 183, m_H_hasToldNoMoreThanIs), (3, 132, m_W_lastNumber), (2, 89, m_Q_numberOf), (3, 153, m_W_canCountTo), (3, 156, m_W_countUpTo), (2, 173, m_W_countProducts), (2, 131, m_W_isMember), (2, 177, m_W_countOfRows), (2, 186, m_R_countUpTo), (2, 180, m_W_countPrimes), (2, 156, m_W_isPrime), (2, 183, m_W_countOfGrid), (2, 139, m_W_gridNumber), (2, 143, m_R_numberAt), (3, 170, m_H_doTrialsTellAlike), (3, 101, m_W_isDry), (3, 105, m_W_tell), (2, 86, m_W_tellPrime), (2, 112, m_W_nextNumber), (2, 119, m_Q_firstNumber), (0, 19, m_Q_numberOf), (2, 93, m_Q_pop), (2, 97, m_Q_tagOf), (2, 63, m_Q_keyOf), (2, 67, m_Q_push), (2, 100, m_W_offerProducts), (2, 103, m_W_rankOf), (2, 71, m_W_offerOfRow), (2, 106, m_W_offerNeighbours), (2, 79, m_W_offerOfGrid), (4, 23, m_L_below), (4, 20, m_L_roll), (4, 9, m_L_cell), (4, 31, m_L_begin), (4, 57, m_H_powers), (3, 80, m_H_findWell), (3, 84, m_W_begin), (2, 48, m_W_restart), (2, 75, m_W_isGrid), (4, 60, m_H_sums), (3, 97, m_W_beginGrid), (2, 33, m_W_begin), (4, 64, m_H_triples), (4, 67, m_H_merge), (3, 73, m_W_beginMerged), (4, 71, m_H_table), (4, 74, m_H_primes), (4, 35, m_L_act), (4, 78, m_H_add), (4, 81, m_H_cut), (3, 50, m_R_removeLast), (4, 84, m_H_close), (3, 54, m_H_requirePlace), (3, 135, m_W_closeRow), (2, 146, m_W_tagAt), (2, 149, m_Q_holds), (2, 153, m_Q_remove), (4, 88, m_H_skip), (3, 112, m_W_tellBelow), (2, 109, m_W_isDry), (2, 115, m_W_tell), (4, 91, m_H_copy), (4, 94, m_H_anew), (3, 123, m_W_restart), (4, 97, m_H_again), (4, 100, m_H_drop), (4, 103, m_H_shake), (4, 106, m_H_draw), (4, 109, m_H_draws), (4, 42, m_L_isCourse), (4, 112, m_H_ofWell), (3, 147, m_W_lastPlace), (2, 162, m_W_hasPlaces), (4, 115, m_H_digest), (3, 191, m_H_house), (3, 173, m_H_shareOf), (3, 194, m_H_rowSize), (3, 197, m_H_rowAt), (3, 58, m_R_numberAt), (3, 200, m_H_ofWell), (3, 203, m_H_peek), (3, 141, m_W_nextNumber), (3, 206, m_H_isSound), (4, 120, m_H_waits), (3, 159, m_Q_countUpTo), (4, 123, m_H_upTo), (4, 126, m_H_nth), (3, 77, m_W_numberBehind), (2, 159, m_W_tellBelow), (4, 129, m_H_peek), (4, 137, m_L_isPrime), (4, 141, m_H_ways), (4, 46, m_L_isGoing), (4, 144, m_H_isAlike), (4, 49, m_L_isMerged), (4, 148, m_H_least), (4, 53, m_L_isCounted), (4, 151, m_L_exponents), (4, 162, m_H_rowSize)]
def mthT (c i : Nat) : Option MT := er_find er_calls c i
def lkOK (q : Nat × Nat × MT) : Prop := Cond.methodLink (cN q.1) q.2.1 (mtN q.2.2) ∈ er_G ∧ mtOK q.2.2
theorem lk_3_34_ok : lkOK (3, 34, m_R_append) := ⟨er_in 110 (by decide +kernel) rfl, m_R_append_ok⟩
theorem lk_1_19_ok : lkOK (1, 19, m_R_numberAt) := ⟨er_in 114 (by decide +kernel) rfl, m_R_numberAt_ok⟩
theorem lk_4_27_ok : lkOK (4, 27, m_H_fill) := ⟨er_in 137 (by decide +kernel) rfl, m_H_fill_ok⟩
theorem lk_3_38_ok : lkOK (3, 38, m_H_findRow) := ⟨er_in 141 (by decide +kernel) rfl, m_H_findRow_ok⟩
theorem lk_3_42_ok : lkOK (3, 42, m_H_requireWithin) := ⟨er_in 212 (by decide +kernel) rfl, m_H_requireWithin_ok⟩
theorem lk_4_38_ok : lkOK (4, 38, m_H_isSound) := ⟨er_in 231 (by decide +kernel) rfl, m_H_isSound_ok⟩
theorem lk_3_177_ok : lkOK (3, 177, m_H_areRowsRising) := ⟨er_in 235 (by decide +kernel) rfl, m_H_areRowsRising_ok⟩
theorem lk_3_234_ok : lkOK (3, 234, m_R_isRising) := ⟨er_in 239 (by decide +kernel) rfl, m_R_isRising_ok⟩
theorem lk_3_180_ok : lkOK (3, 180, m_H_areQueuesWithinLimits) := ⟨er_in 243 (by decide +kernel) rfl, m_H_areQueuesWithinLimits_ok⟩
theorem lk_3_150_ok : lkOK (3, 150, m_W_limit) := ⟨er_in 247 (by decide +kernel) rfl, m_W_limit_ok⟩
theorem lk_2_165_ok : lkOK (2, 165, m_J_bitCount) := ⟨er_in 251 (by decide +kernel) rfl, m_J_bitCount_ok⟩
theorem lk_3_108_ok : lkOK (3, 108, m_W_isEmpty) := ⟨er_in 260 (by decide +kernel) rfl, m_W_isEmpty_ok⟩
theorem lk_3_116_ok : lkOK (3, 116, m_W_become) := ⟨er_in 264 (by decide +kernel) rfl, m_W_become_ok⟩
theorem lk_2_37_ok : lkOK (2, 37, m_W_takeRows) := ⟨er_in 268 (by decide +kernel) rfl, m_W_takeRows_ok⟩
theorem lk_2_29_ok : lkOK (2, 29, m_R_become) := ⟨er_in 272 (by decide +kernel) rfl, m_R_become_ok⟩
theorem lk_2_83_ok : lkOK (2, 83, m_Q_become) := ⟨er_in 279 (by decide +kernel) rfl, m_Q_become_ok⟩
theorem lk_3_120_ok : lkOK (3, 120, m_Q_turnOver) := ⟨er_in 284 (by decide +kernel) rfl, m_Q_turnOver_ok⟩
theorem lk_0_27_ok : lkOK (0, 27, m_Q_pop) := ⟨er_in 288 (by decide +kernel) rfl, m_Q_pop_ok⟩
theorem lk_0_23_ok : lkOK (0, 23, m_Q_sink) := ⟨er_in 292 (by decide +kernel) rfl, m_Q_sink_ok⟩
theorem lk_0_31_ok : lkOK (0, 31, m_Q_refill) := ⟨er_in 296 (by decide +kernel) rfl, m_Q_refill_ok⟩
theorem lk_0_35_ok : lkOK (0, 35, m_Q_tagOf) := ⟨er_in 300 (by decide +kernel) rfl, m_Q_tagOf_ok⟩
theorem lk_0_38_ok : lkOK (0, 38, m_Q_push) := ⟨er_in 303 (by decide +kernel) rfl, m_Q_push_ok⟩
theorem lk_3_183_ok : lkOK (3, 183, m_H_hasToldNoMoreThanIs) := ⟨er_in 307 (by decide +kernel) rfl, m_H_hasToldNoMoreThanIs_ok⟩
theorem lk_3_132_ok : lkOK (3, 132, m_W_lastNumber) := ⟨er_in 310 (by decide +kernel) rfl, m_W_lastNumber_ok⟩
theorem lk_2_89_ok : lkOK (2, 89, m_Q_numberOf) := ⟨er_in 314 (by decide +kernel) rfl, m_Q_numberOf_ok⟩
theorem lk_3_153_ok : lkOK (3, 153, m_W_canCountTo) := ⟨er_in 317 (by decide +kernel) rfl, m_W_canCountTo_ok⟩
theorem lk_3_156_ok : lkOK (3, 156, m_W_countUpTo) := ⟨er_in 321 (by decide +kernel) rfl, m_W_countUpTo_ok⟩
theorem lk_2_173_ok : lkOK (2, 173, m_W_countProducts) := ⟨er_in 326 (by decide +kernel) rfl, m_W_countProducts_ok⟩
theorem lk_2_131_ok : lkOK (2, 131, m_W_isMember) := ⟨er_in 331 (by decide +kernel) rfl, m_W_isMember_ok⟩
theorem lk_2_177_ok : lkOK (2, 177, m_W_countOfRows) := ⟨er_in 334 (by decide +kernel) rfl, m_W_countOfRows_ok⟩
theorem lk_2_186_ok : lkOK (2, 186, m_R_countUpTo) := ⟨er_in 338 (by decide +kernel) rfl, m_R_countUpTo_ok⟩
theorem lk_2_180_ok : lkOK (2, 180, m_W_countPrimes) := ⟨er_in 342 (by decide +kernel) rfl, m_W_countPrimes_ok⟩
theorem lk_2_156_ok : lkOK (2, 156, m_W_isPrime) := ⟨er_in 345 (by decide +kernel) rfl, m_W_isPrime_ok⟩
theorem lk_2_183_ok : lkOK (2, 183, m_W_countOfGrid) := ⟨er_in 348 (by decide +kernel) rfl, m_W_countOfGrid_ok⟩
theorem lk_2_139_ok : lkOK (2, 139, m_W_gridNumber) := ⟨er_in 352 (by decide +kernel) rfl, m_W_gridNumber_ok⟩
theorem lk_2_143_ok : lkOK (2, 143, m_R_numberAt) := ⟨er_in 356 (by decide +kernel) rfl, m_R_numberAt_ok⟩
theorem lk_3_170_ok : lkOK (3, 170, m_H_doTrialsTellAlike) := ⟨er_in 357 (by decide +kernel) rfl, m_H_doTrialsTellAlike_ok⟩
theorem lk_3_101_ok : lkOK (3, 101, m_W_isDry) := ⟨er_in 361 (by decide +kernel) rfl, m_W_isDry_ok⟩
theorem lk_3_105_ok : lkOK (3, 105, m_W_tell) := ⟨er_in 365 (by decide +kernel) rfl, m_W_tell_ok⟩
theorem lk_2_86_ok : lkOK (2, 86, m_W_tellPrime) := ⟨er_in 369 (by decide +kernel) rfl, m_W_tellPrime_ok⟩
theorem lk_2_112_ok : lkOK (2, 112, m_W_nextNumber) := ⟨er_in 373 (by decide +kernel) rfl, m_W_nextNumber_ok⟩
theorem lk_2_119_ok : lkOK (2, 119, m_Q_firstNumber) := ⟨er_in 377 (by decide +kernel) rfl, m_Q_firstNumber_ok⟩
theorem lk_0_19_ok : lkOK (0, 19, m_Q_numberOf) := ⟨er_in 381 (by decide +kernel) rfl, m_Q_numberOf_ok⟩
theorem lk_2_93_ok : lkOK (2, 93, m_Q_pop) := ⟨er_in 383 (by decide +kernel) rfl, m_Q_pop_ok⟩
theorem lk_2_97_ok : lkOK (2, 97, m_Q_tagOf) := ⟨er_in 384 (by decide +kernel) rfl, m_Q_tagOf_ok⟩
theorem lk_2_63_ok : lkOK (2, 63, m_Q_keyOf) := ⟨er_in 385 (by decide +kernel) rfl, m_Q_keyOf_ok⟩
theorem lk_2_67_ok : lkOK (2, 67, m_Q_push) := ⟨er_in 388 (by decide +kernel) rfl, m_Q_push_ok⟩
theorem lk_2_100_ok : lkOK (2, 100, m_W_offerProducts) := ⟨er_in 389 (by decide +kernel) rfl, m_W_offerProducts_ok⟩
theorem lk_2_103_ok : lkOK (2, 103, m_W_rankOf) := ⟨er_in 396 (by decide +kernel) rfl, m_W_rankOf_ok⟩
theorem lk_2_71_ok : lkOK (2, 71, m_W_offerOfRow) := ⟨er_in 400 (by decide +kernel) rfl, m_W_offerOfRow_ok⟩
theorem lk_2_106_ok : lkOK (2, 106, m_W_offerNeighbours) := ⟨er_in 404 (by decide +kernel) rfl, m_W_offerNeighbours_ok⟩
theorem lk_2_79_ok : lkOK (2, 79, m_W_offerOfGrid) := ⟨er_in 408 (by decide +kernel) rfl, m_W_offerOfGrid_ok⟩
theorem lk_4_23_ok : lkOK (4, 23, m_L_below) := ⟨er_in 412 (by decide +kernel) rfl, m_L_below_ok⟩
theorem lk_4_20_ok : lkOK (4, 20, m_L_roll) := ⟨er_in 416 (by decide +kernel) rfl, m_L_roll_ok⟩
theorem lk_4_9_ok : lkOK (4, 9, m_L_cell) := ⟨er_in 419 (by decide +kernel) rfl, m_L_cell_ok⟩
theorem lk_4_31_ok : lkOK (4, 31, m_L_begin) := ⟨er_in 425 (by decide +kernel) rfl, m_L_begin_ok⟩
theorem lk_4_57_ok : lkOK (4, 57, m_H_powers) := ⟨er_in 428 (by decide +kernel) rfl, m_H_powers_ok⟩
theorem lk_3_80_ok : lkOK (3, 80, m_H_findWell) := ⟨er_in 432 (by decide +kernel) rfl, m_H_findWell_ok⟩
theorem lk_3_84_ok : lkOK (3, 84, m_W_begin) := ⟨er_in 437 (by decide +kernel) rfl, m_W_begin_ok⟩
theorem lk_2_48_ok : lkOK (2, 48, m_W_restart) := ⟨er_in 441 (by decide +kernel) rfl, m_W_restart_ok⟩
theorem lk_2_75_ok : lkOK (2, 75, m_W_isGrid) := ⟨er_in 445 (by decide +kernel) rfl, m_W_isGrid_ok⟩
theorem lk_4_60_ok : lkOK (4, 60, m_H_sums) := ⟨er_in 449 (by decide +kernel) rfl, m_H_sums_ok⟩
theorem lk_3_97_ok : lkOK (3, 97, m_W_beginGrid) := ⟨er_in 453 (by decide +kernel) rfl, m_W_beginGrid_ok⟩
theorem lk_2_33_ok : lkOK (2, 33, m_W_begin) := ⟨er_in 457 (by decide +kernel) rfl, m_W_begin_ok⟩
theorem lk_4_64_ok : lkOK (4, 64, m_H_triples) := ⟨er_in 458 (by decide +kernel) rfl, m_H_triples_ok⟩
theorem lk_4_67_ok : lkOK (4, 67, m_H_merge) := ⟨er_in 462 (by decide +kernel) rfl, m_H_merge_ok⟩
theorem lk_3_73_ok : lkOK (3, 73, m_W_beginMerged) := ⟨er_in 466 (by decide +kernel) rfl, m_W_beginMerged_ok⟩
theorem lk_4_71_ok : lkOK (4, 71, m_H_table) := ⟨er_in 470 (by decide +kernel) rfl, m_H_table_ok⟩
theorem lk_4_74_ok : lkOK (4, 74, m_H_primes) := ⟨er_in 474 (by decide +kernel) rfl, m_H_primes_ok⟩
theorem lk_4_35_ok : lkOK (4, 35, m_L_act) := ⟨er_in 478 (by decide +kernel) rfl, m_L_act_ok⟩
theorem lk_4_78_ok : lkOK (4, 78, m_H_add) := ⟨er_in 481 (by decide +kernel) rfl, m_H_add_ok⟩
theorem lk_4_81_ok : lkOK (4, 81, m_H_cut) := ⟨er_in 485 (by decide +kernel) rfl, m_H_cut_ok⟩
theorem lk_3_50_ok : lkOK (3, 50, m_R_removeLast) := ⟨er_in 489 (by decide +kernel) rfl, m_R_removeLast_ok⟩
theorem lk_4_84_ok : lkOK (4, 84, m_H_close) := ⟨er_in 493 (by decide +kernel) rfl, m_H_close_ok⟩
theorem lk_3_54_ok : lkOK (3, 54, m_H_requirePlace) := ⟨er_in 497 (by decide +kernel) rfl, m_H_requirePlace_ok⟩
theorem lk_3_135_ok : lkOK (3, 135, m_W_closeRow) := ⟨er_in 501 (by decide +kernel) rfl, m_W_closeRow_ok⟩
theorem lk_2_146_ok : lkOK (2, 146, m_W_tagAt) := ⟨er_in 505 (by decide +kernel) rfl, m_W_tagAt_ok⟩
theorem lk_2_149_ok : lkOK (2, 149, m_Q_holds) := ⟨er_in 509 (by decide +kernel) rfl, m_Q_holds_ok⟩
theorem lk_2_153_ok : lkOK (2, 153, m_Q_remove) := ⟨er_in 513 (by decide +kernel) rfl, m_Q_remove_ok⟩
theorem lk_4_88_ok : lkOK (4, 88, m_H_skip) := ⟨er_in 518 (by decide +kernel) rfl, m_H_skip_ok⟩
theorem lk_3_112_ok : lkOK (3, 112, m_W_tellBelow) := ⟨er_in 523 (by decide +kernel) rfl, m_W_tellBelow_ok⟩
theorem lk_2_109_ok : lkOK (2, 109, m_W_isDry) := ⟨er_in 527 (by decide +kernel) rfl, m_W_isDry_ok⟩
theorem lk_2_115_ok : lkOK (2, 115, m_W_tell) := ⟨er_in 528 (by decide +kernel) rfl, m_W_tell_ok⟩
theorem lk_4_91_ok : lkOK (4, 91, m_H_copy) := ⟨er_in 529 (by decide +kernel) rfl, m_H_copy_ok⟩
theorem lk_4_94_ok : lkOK (4, 94, m_H_anew) := ⟨er_in 533 (by decide +kernel) rfl, m_H_anew_ok⟩
theorem lk_3_123_ok : lkOK (3, 123, m_W_restart) := ⟨er_in 537 (by decide +kernel) rfl, m_W_restart_ok⟩
theorem lk_4_97_ok : lkOK (4, 97, m_H_again) := ⟨er_in 538 (by decide +kernel) rfl, m_H_again_ok⟩
theorem lk_4_100_ok : lkOK (4, 100, m_H_drop) := ⟨er_in 542 (by decide +kernel) rfl, m_H_drop_ok⟩
theorem lk_4_103_ok : lkOK (4, 103, m_H_shake) := ⟨er_in 546 (by decide +kernel) rfl, m_H_shake_ok⟩
theorem lk_4_106_ok : lkOK (4, 106, m_H_draw) := ⟨er_in 550 (by decide +kernel) rfl, m_H_draw_ok⟩
theorem lk_4_109_ok : lkOK (4, 109, m_H_draws) := ⟨er_in 554 (by decide +kernel) rfl, m_H_draws_ok⟩
theorem lk_4_42_ok : lkOK (4, 42, m_L_isCourse) := ⟨er_in 558 (by decide +kernel) rfl, m_L_isCourse_ok⟩
theorem lk_4_112_ok : lkOK (4, 112, m_H_ofWell) := ⟨er_in 561 (by decide +kernel) rfl, m_H_ofWell_ok⟩
theorem lk_3_147_ok : lkOK (3, 147, m_W_lastPlace) := ⟨er_in 565 (by decide +kernel) rfl, m_W_lastPlace_ok⟩
theorem lk_2_162_ok : lkOK (2, 162, m_W_hasPlaces) := ⟨er_in 569 (by decide +kernel) rfl, m_W_hasPlaces_ok⟩
theorem lk_4_115_ok : lkOK (4, 115, m_H_digest) := ⟨er_in 573 (by decide +kernel) rfl, m_H_digest_ok⟩
theorem lk_3_191_ok : lkOK (3, 191, m_H_house) := ⟨er_in 579 (by decide +kernel) rfl, m_H_house_ok⟩
theorem lk_3_173_ok : lkOK (3, 173, m_H_shareOf) := ⟨er_in 583 (by decide +kernel) rfl, m_H_shareOf_ok⟩
theorem lk_3_194_ok : lkOK (3, 194, m_H_rowSize) := ⟨er_in 586 (by decide +kernel) rfl, m_H_rowSize_ok⟩
theorem lk_3_197_ok : lkOK (3, 197, m_H_rowAt) := ⟨er_in 590 (by decide +kernel) rfl, m_H_rowAt_ok⟩
theorem lk_3_58_ok : lkOK (3, 58, m_R_numberAt) := ⟨er_in 594 (by decide +kernel) rfl, m_R_numberAt_ok⟩
theorem lk_3_200_ok : lkOK (3, 200, m_H_ofWell) := ⟨er_in 595 (by decide +kernel) rfl, m_H_ofWell_ok⟩
theorem lk_3_203_ok : lkOK (3, 203, m_H_peek) := ⟨er_in 596 (by decide +kernel) rfl, m_H_peek_ok⟩
theorem lk_3_141_ok : lkOK (3, 141, m_W_nextNumber) := ⟨er_in 600 (by decide +kernel) rfl, m_W_nextNumber_ok⟩
theorem lk_3_206_ok : lkOK (3, 206, m_H_isSound) := ⟨er_in 601 (by decide +kernel) rfl, m_H_isSound_ok⟩
theorem lk_4_120_ok : lkOK (4, 120, m_H_waits) := ⟨er_in 603 (by decide +kernel) rfl, m_H_waits_ok⟩
theorem lk_3_159_ok : lkOK (3, 159, m_Q_countUpTo) := ⟨er_in 607 (by decide +kernel) rfl, m_Q_countUpTo_ok⟩
theorem lk_4_123_ok : lkOK (4, 123, m_H_upTo) := ⟨er_in 611 (by decide +kernel) rfl, m_H_upTo_ok⟩
theorem lk_4_126_ok : lkOK (4, 126, m_H_nth) := ⟨er_in 615 (by decide +kernel) rfl, m_H_nth_ok⟩
theorem lk_3_77_ok : lkOK (3, 77, m_W_numberBehind) := ⟨er_in 619 (by decide +kernel) rfl, m_W_numberBehind_ok⟩
theorem lk_2_159_ok : lkOK (2, 159, m_W_tellBelow) := ⟨er_in 623 (by decide +kernel) rfl, m_W_tellBelow_ok⟩
theorem lk_4_129_ok : lkOK (4, 129, m_H_peek) := ⟨er_in 624 (by decide +kernel) rfl, m_H_peek_ok⟩
theorem lk_4_137_ok : lkOK (4, 137, m_L_isPrime) := ⟨er_in 626 (by decide +kernel) rfl, m_L_isPrime_ok⟩
theorem lk_4_141_ok : lkOK (4, 141, m_H_ways) := ⟨er_in 629 (by decide +kernel) rfl, m_H_ways_ok⟩
theorem lk_4_46_ok : lkOK (4, 46, m_L_isGoing) := ⟨er_in 633 (by decide +kernel) rfl, m_L_isGoing_ok⟩
theorem lk_4_144_ok : lkOK (4, 144, m_H_isAlike) := ⟨er_in 636 (by decide +kernel) rfl, m_H_isAlike_ok⟩
theorem lk_4_49_ok : lkOK (4, 49, m_L_isMerged) := ⟨er_in 640 (by decide +kernel) rfl, m_L_isMerged_ok⟩
theorem lk_4_148_ok : lkOK (4, 148, m_H_least) := ⟨er_in 643 (by decide +kernel) rfl, m_H_least_ok⟩
theorem lk_4_53_ok : lkOK (4, 53, m_L_isCounted) := ⟨er_in 647 (by decide +kernel) rfl, m_L_isCounted_ok⟩
theorem lk_4_151_ok : lkOK (4, 151, m_L_exponents) := ⟨er_in 652 (by decide +kernel) rfl, m_L_exponents_ok⟩
theorem lk_4_162_ok : lkOK (4, 162, m_H_rowSize) := ⟨er_in 657 (by decide +kernel) rfl, m_H_rowSize_ok⟩
set_option maxRecDepth 100000 in
theorem er_calls_ok : ∀ q ∈ er_calls, lkOK q := List.forall_mem_cons.mpr ⟨lk_3_34_ok, List.forall_mem_cons.mpr ⟨lk_1_19_ok, List.forall_mem_cons.mpr ⟨lk_4_27_ok, List.forall_mem_cons.mpr ⟨lk_3_38_ok, List.forall_mem_cons.mpr ⟨lk_3_42_ok, List.forall_mem_cons.mpr ⟨lk_4_38_ok, List.forall_mem_cons.mpr ⟨lk_3_177_ok, List.forall_mem_cons.mpr ⟨lk_3_234_ok, List.forall_mem_cons.mpr ⟨lk_3_180_ok, List.forall_mem_cons.mpr ⟨lk_3_150_ok, List.forall_mem_cons.mpr ⟨lk_2_165_ok, List.forall_mem_cons.mpr ⟨lk_3_108_ok, List.forall_mem_cons.mpr ⟨lk_3_116_ok, List.forall_mem_cons.mpr ⟨lk_2_37_ok, List.forall_mem_cons.mpr ⟨lk_2_29_ok, List.forall_mem_cons.mpr ⟨lk_2_83_ok, List.forall_mem_cons.mpr ⟨lk_3_120_ok, List.forall_mem_cons.mpr ⟨lk_0_27_ok, List.forall_mem_cons.mpr ⟨lk_0_23_ok, List.forall_mem_cons.mpr ⟨lk_0_31_ok, List.forall_mem_cons.mpr ⟨lk_0_35_ok, List.forall_mem_cons.mpr ⟨lk_0_38_ok, List.forall_mem_cons.mpr ⟨lk_3_183_ok, List.forall_mem_cons.mpr ⟨lk_3_132_ok, List.forall_mem_cons.mpr ⟨lk_2_89_ok, List.forall_mem_cons.mpr ⟨lk_3_153_ok, List.forall_mem_cons.mpr ⟨lk_3_156_ok, List.forall_mem_cons.mpr ⟨lk_2_173_ok, List.forall_mem_cons.mpr ⟨lk_2_131_ok, List.forall_mem_cons.mpr ⟨lk_2_177_ok, List.forall_mem_cons.mpr ⟨lk_2_186_ok, List.forall_mem_cons.mpr ⟨lk_2_180_ok, List.forall_mem_cons.mpr ⟨lk_2_156_ok, List.forall_mem_cons.mpr ⟨lk_2_183_ok, List.forall_mem_cons.mpr ⟨lk_2_139_ok, List.forall_mem_cons.mpr ⟨lk_2_143_ok, List.forall_mem_cons.mpr ⟨lk_3_170_ok, List.forall_mem_cons.mpr ⟨lk_3_101_ok, List.forall_mem_cons.mpr ⟨lk_3_105_ok, List.forall_mem_cons.mpr ⟨lk_2_86_ok, List.forall_mem_cons.mpr ⟨lk_2_112_ok, List.forall_mem_cons.mpr ⟨lk_2_119_ok, List.forall_mem_cons.mpr ⟨lk_0_19_ok, List.forall_mem_cons.mpr ⟨lk_2_93_ok, List.forall_mem_cons.mpr ⟨lk_2_97_ok, List.forall_mem_cons.mpr ⟨lk_2_63_ok, List.forall_mem_cons.mpr ⟨lk_2_67_ok, List.forall_mem_cons.mpr ⟨lk_2_100_ok, List.forall_mem_cons.mpr ⟨lk_2_103_ok, List.forall_mem_cons.mpr ⟨lk_2_71_ok, List.forall_mem_cons.mpr ⟨lk_2_106_ok, List.forall_mem_cons.mpr ⟨lk_2_79_ok, List.forall_mem_cons.mpr ⟨lk_4_23_ok, List.forall_mem_cons.mpr ⟨lk_4_20_ok, List.forall_mem_cons.mpr ⟨lk_4_9_ok, List.forall_mem_cons.mpr ⟨lk_4_31_ok, List.forall_mem_cons.mpr ⟨lk_4_57_ok, List.forall_mem_cons.mpr ⟨lk_3_80_ok, List.forall_mem_cons.mpr ⟨lk_3_84_ok, List.forall_mem_cons.mpr ⟨lk_2_48_ok, List.forall_mem_cons.mpr ⟨lk_2_75_ok, List.forall_mem_cons.mpr ⟨lk_4_60_ok, List.forall_mem_cons.mpr ⟨lk_3_97_ok, List.forall_mem_cons.mpr ⟨lk_2_33_ok, List.forall_mem_cons.mpr ⟨lk_4_64_ok, List.forall_mem_cons.mpr ⟨lk_4_67_ok, List.forall_mem_cons.mpr ⟨lk_3_73_ok, List.forall_mem_cons.mpr ⟨lk_4_71_ok, List.forall_mem_cons.mpr ⟨lk_4_74_ok, List.forall_mem_cons.mpr ⟨lk_4_35_ok, List.forall_mem_cons.mpr ⟨lk_4_78_ok, List.forall_mem_cons.mpr ⟨lk_4_81_ok, List.forall_mem_cons.mpr ⟨lk_3_50_ok, List.forall_mem_cons.mpr ⟨lk_4_84_ok, List.forall_mem_cons.mpr ⟨lk_3_54_ok, List.forall_mem_cons.mpr ⟨lk_3_135_ok, List.forall_mem_cons.mpr ⟨lk_2_146_ok, List.forall_mem_cons.mpr ⟨lk_2_149_ok, List.forall_mem_cons.mpr ⟨lk_2_153_ok, List.forall_mem_cons.mpr ⟨lk_4_88_ok, List.forall_mem_cons.mpr ⟨lk_3_112_ok, List.forall_mem_cons.mpr ⟨lk_2_109_ok, List.forall_mem_cons.mpr ⟨lk_2_115_ok, List.forall_mem_cons.mpr ⟨lk_4_91_ok, List.forall_mem_cons.mpr ⟨lk_4_94_ok, List.forall_mem_cons.mpr ⟨lk_3_123_ok, List.forall_mem_cons.mpr ⟨lk_4_97_ok, List.forall_mem_cons.mpr ⟨lk_4_100_ok, List.forall_mem_cons.mpr ⟨lk_4_103_ok, List.forall_mem_cons.mpr ⟨lk_4_106_ok, List.forall_mem_cons.mpr ⟨lk_4_109_ok, List.forall_mem_cons.mpr ⟨lk_4_42_ok, List.forall_mem_cons.mpr ⟨lk_4_112_ok, List.forall_mem_cons.mpr ⟨lk_3_147_ok, List.forall_mem_cons.mpr ⟨lk_2_162_ok, List.forall_mem_cons.mpr ⟨lk_4_115_ok, List.forall_mem_cons.mpr ⟨lk_3_191_ok, List.forall_mem_cons.mpr ⟨lk_3_173_ok, List.forall_mem_cons.mpr ⟨lk_3_194_ok, List.forall_mem_cons.mpr ⟨lk_3_197_ok, List.forall_mem_cons.mpr ⟨lk_3_58_ok, List.forall_mem_cons.mpr ⟨lk_3_200_ok, List.forall_mem_cons.mpr ⟨lk_3_203_ok, List.forall_mem_cons.mpr ⟨lk_3_141_ok, List.forall_mem_cons.mpr ⟨lk_3_206_ok, List.forall_mem_cons.mpr ⟨lk_4_120_ok, List.forall_mem_cons.mpr ⟨lk_3_159_ok, List.forall_mem_cons.mpr ⟨lk_4_123_ok, List.forall_mem_cons.mpr ⟨lk_4_126_ok, List.forall_mem_cons.mpr ⟨lk_3_77_ok, List.forall_mem_cons.mpr ⟨lk_2_159_ok, List.forall_mem_cons.mpr ⟨lk_4_129_ok, List.forall_mem_cons.mpr ⟨lk_4_137_ok, List.forall_mem_cons.mpr ⟨lk_4_141_ok, List.forall_mem_cons.mpr ⟨lk_4_46_ok, List.forall_mem_cons.mpr ⟨lk_4_144_ok, List.forall_mem_cons.mpr ⟨lk_4_49_ok, List.forall_mem_cons.mpr ⟨lk_4_148_ok, List.forall_mem_cons.mpr ⟨lk_4_53_ok, List.forall_mem_cons.mpr ⟨lk_4_151_ok, List.forall_mem_cons.mpr ⟨lk_4_162_ok, fun _ h => absurd h List.not_mem_nil⟩⟩⟩⟩⟩⟩⟩⟩⟩⟩⟩⟩⟩⟩⟩⟩⟩⟩⟩⟩⟩⟩⟩⟩⟩⟩⟩⟩⟩⟩⟩⟩⟩⟩⟩⟩⟩⟩⟩⟩⟩⟩⟩⟩⟩⟩⟩⟩⟩⟩⟩⟩⟩⟩⟩⟩⟩⟩⟩⟩⟩⟩⟩⟩⟩⟩⟩⟩⟩⟩⟩⟩⟩⟩⟩⟩⟩⟩⟩⟩⟩⟩⟩⟩⟩⟩⟩⟩⟩⟩⟩⟩⟩⟩⟩⟩⟩⟩⟩⟩⟩⟩⟩⟩⟩⟩⟩⟩⟩⟩⟩⟩⟩⟩⟩⟩⟩⟩⟩⟩⟩
theorem lk_3_34 : mthT 3 34 = some m_R_append := rfl
theorem lk_1_19 : mthT 1 19 = some m_R_numberAt := rfl
theorem lk_4_27 : mthT 4 27 = some m_H_fill := rfl
theorem lk_3_38 : mthT 3 38 = some m_H_findRow := rfl
theorem lk_3_42 : mthT 3 42 = some m_H_requireWithin := rfl
theorem lk_4_38 : mthT 4 38 = some m_H_isSound := rfl
theorem lk_3_177 : mthT 3 177 = some m_H_areRowsRising := rfl
theorem lk_3_234 : mthT 3 234 = some m_R_isRising := rfl
theorem lk_3_180 : mthT 3 180 = some m_H_areQueuesWithinLimits := rfl
theorem lk_3_150 : mthT 3 150 = some m_W_limit := rfl
theorem lk_2_165 : mthT 2 165 = some m_J_bitCount := rfl
theorem lk_3_108 : mthT 3 108 = some m_W_isEmpty := rfl
theorem lk_3_116 : mthT 3 116 = some m_W_become := rfl
theorem lk_2_37 : mthT 2 37 = some m_W_takeRows := rfl
theorem lk_2_29 : mthT 2 29 = some m_R_become := rfl
theorem lk_2_83 : mthT 2 83 = some m_Q_become := rfl
theorem lk_3_120 : mthT 3 120 = some m_Q_turnOver := rfl
theorem lk_0_27 : mthT 0 27 = some m_Q_pop := rfl
theorem lk_0_23 : mthT 0 23 = some m_Q_sink := rfl
theorem lk_0_31 : mthT 0 31 = some m_Q_refill := rfl
theorem lk_0_35 : mthT 0 35 = some m_Q_tagOf := rfl
theorem lk_0_38 : mthT 0 38 = some m_Q_push := rfl
theorem lk_3_183 : mthT 3 183 = some m_H_hasToldNoMoreThanIs := rfl
theorem lk_3_132 : mthT 3 132 = some m_W_lastNumber := rfl
theorem lk_2_89 : mthT 2 89 = some m_Q_numberOf := rfl
theorem lk_3_153 : mthT 3 153 = some m_W_canCountTo := rfl
theorem lk_3_156 : mthT 3 156 = some m_W_countUpTo := rfl
theorem lk_2_173 : mthT 2 173 = some m_W_countProducts := rfl
theorem lk_2_131 : mthT 2 131 = some m_W_isMember := rfl
theorem lk_2_177 : mthT 2 177 = some m_W_countOfRows := rfl
theorem lk_2_186 : mthT 2 186 = some m_R_countUpTo := rfl
theorem lk_2_180 : mthT 2 180 = some m_W_countPrimes := rfl
theorem lk_2_156 : mthT 2 156 = some m_W_isPrime := rfl
theorem lk_2_183 : mthT 2 183 = some m_W_countOfGrid := rfl
theorem lk_2_139 : mthT 2 139 = some m_W_gridNumber := rfl
theorem lk_2_143 : mthT 2 143 = some m_R_numberAt := rfl
theorem lk_3_170 : mthT 3 170 = some m_H_doTrialsTellAlike := rfl
theorem lk_3_101 : mthT 3 101 = some m_W_isDry := rfl
theorem lk_3_105 : mthT 3 105 = some m_W_tell := rfl
theorem lk_2_86 : mthT 2 86 = some m_W_tellPrime := rfl
theorem lk_2_112 : mthT 2 112 = some m_W_nextNumber := rfl
theorem lk_2_119 : mthT 2 119 = some m_Q_firstNumber := rfl
theorem lk_0_19 : mthT 0 19 = some m_Q_numberOf := rfl
theorem lk_2_93 : mthT 2 93 = some m_Q_pop := rfl
theorem lk_2_97 : mthT 2 97 = some m_Q_tagOf := rfl
theorem lk_2_63 : mthT 2 63 = some m_Q_keyOf := rfl
theorem lk_2_67 : mthT 2 67 = some m_Q_push := rfl
theorem lk_2_100 : mthT 2 100 = some m_W_offerProducts := rfl
theorem lk_2_103 : mthT 2 103 = some m_W_rankOf := rfl
theorem lk_2_71 : mthT 2 71 = some m_W_offerOfRow := rfl
theorem lk_2_106 : mthT 2 106 = some m_W_offerNeighbours := rfl
theorem lk_2_79 : mthT 2 79 = some m_W_offerOfGrid := rfl
theorem lk_4_23 : mthT 4 23 = some m_L_below := rfl
theorem lk_4_20 : mthT 4 20 = some m_L_roll := rfl
theorem lk_4_9 : mthT 4 9 = some m_L_cell := rfl
theorem lk_4_31 : mthT 4 31 = some m_L_begin := rfl
theorem lk_4_57 : mthT 4 57 = some m_H_powers := rfl
theorem lk_3_80 : mthT 3 80 = some m_H_findWell := rfl
theorem lk_3_84 : mthT 3 84 = some m_W_begin := rfl
theorem lk_2_48 : mthT 2 48 = some m_W_restart := rfl
theorem lk_2_75 : mthT 2 75 = some m_W_isGrid := rfl
theorem lk_4_60 : mthT 4 60 = some m_H_sums := rfl
theorem lk_3_97 : mthT 3 97 = some m_W_beginGrid := rfl
theorem lk_2_33 : mthT 2 33 = some m_W_begin := rfl
theorem lk_4_64 : mthT 4 64 = some m_H_triples := rfl
theorem lk_4_67 : mthT 4 67 = some m_H_merge := rfl
theorem lk_3_73 : mthT 3 73 = some m_W_beginMerged := rfl
theorem lk_4_71 : mthT 4 71 = some m_H_table := rfl
theorem lk_4_74 : mthT 4 74 = some m_H_primes := rfl
theorem lk_4_35 : mthT 4 35 = some m_L_act := rfl
theorem lk_4_78 : mthT 4 78 = some m_H_add := rfl
theorem lk_4_81 : mthT 4 81 = some m_H_cut := rfl
theorem lk_3_50 : mthT 3 50 = some m_R_removeLast := rfl
theorem lk_4_84 : mthT 4 84 = some m_H_close := rfl
theorem lk_3_54 : mthT 3 54 = some m_H_requirePlace := rfl
theorem lk_3_135 : mthT 3 135 = some m_W_closeRow := rfl
theorem lk_2_146 : mthT 2 146 = some m_W_tagAt := rfl
theorem lk_2_149 : mthT 2 149 = some m_Q_holds := rfl
theorem lk_2_153 : mthT 2 153 = some m_Q_remove := rfl
theorem lk_4_88 : mthT 4 88 = some m_H_skip := rfl
theorem lk_3_112 : mthT 3 112 = some m_W_tellBelow := rfl
theorem lk_2_109 : mthT 2 109 = some m_W_isDry := rfl
theorem lk_2_115 : mthT 2 115 = some m_W_tell := rfl
theorem lk_4_91 : mthT 4 91 = some m_H_copy := rfl
theorem lk_4_94 : mthT 4 94 = some m_H_anew := rfl
theorem lk_3_123 : mthT 3 123 = some m_W_restart := rfl
theorem lk_4_97 : mthT 4 97 = some m_H_again := rfl
theorem lk_4_100 : mthT 4 100 = some m_H_drop := rfl
theorem lk_4_103 : mthT 4 103 = some m_H_shake := rfl
theorem lk_4_106 : mthT 4 106 = some m_H_draw := rfl
theorem lk_4_109 : mthT 4 109 = some m_H_draws := rfl
theorem lk_4_42 : mthT 4 42 = some m_L_isCourse := rfl
theorem lk_4_112 : mthT 4 112 = some m_H_ofWell := rfl
theorem lk_3_147 : mthT 3 147 = some m_W_lastPlace := rfl
theorem lk_2_162 : mthT 2 162 = some m_W_hasPlaces := rfl
theorem lk_4_115 : mthT 4 115 = some m_H_digest := rfl
theorem lk_3_191 : mthT 3 191 = some m_H_house := rfl
theorem lk_3_173 : mthT 3 173 = some m_H_shareOf := rfl
theorem lk_3_194 : mthT 3 194 = some m_H_rowSize := rfl
theorem lk_3_197 : mthT 3 197 = some m_H_rowAt := rfl
theorem lk_3_58 : mthT 3 58 = some m_R_numberAt := rfl
theorem lk_3_200 : mthT 3 200 = some m_H_ofWell := rfl
theorem lk_3_203 : mthT 3 203 = some m_H_peek := rfl
theorem lk_3_141 : mthT 3 141 = some m_W_nextNumber := rfl
theorem lk_3_206 : mthT 3 206 = some m_H_isSound := rfl
theorem lk_4_120 : mthT 4 120 = some m_H_waits := rfl
theorem lk_3_159 : mthT 3 159 = some m_Q_countUpTo := rfl
theorem lk_4_123 : mthT 4 123 = some m_H_upTo := rfl
theorem lk_4_126 : mthT 4 126 = some m_H_nth := rfl
theorem lk_3_77 : mthT 3 77 = some m_W_numberBehind := rfl
theorem lk_2_159 : mthT 2 159 = some m_W_tellBelow := rfl
theorem lk_4_129 : mthT 4 129 = some m_H_peek := rfl
theorem lk_4_137 : mthT 4 137 = some m_L_isPrime := rfl
theorem lk_4_141 : mthT 4 141 = some m_H_ways := rfl
theorem lk_4_46 : mthT 4 46 = some m_L_isGoing := rfl
theorem lk_4_144 : mthT 4 144 = some m_H_isAlike := rfl
theorem lk_4_49 : mthT 4 49 = some m_L_isMerged := rfl
theorem lk_4_148 : mthT 4 148 = some m_H_least := rfl
theorem lk_4_53 : mthT 4 53 = some m_L_isCounted := rfl
theorem lk_4_151 : mthT 4 151 = some m_L_exponents := rfl
theorem lk_4_162 : mthT 4 162 = some m_H_rowSize := rfl
def er_flds : List (Nat × Nat × Nat × Nat) := [(1, 9, 1, 0), (1, 15, 1, 1), (3, 46, 1, 1), (2, 136, 1, 1), (0, 11, 0, 0), (0, 15, 0, 1), (2, 51, 0, 1), (3, 92, 0, 1), (2, 11, 2, 0), (2, 20, 2, 1), (3, 88, 2, 1), (2, 24, 2, 2), (3, 144, 2, 2), (2, 41, 2, 3), (2, 44, 2, 4), (2, 54, 2, 5), (3, 126, 2, 5), (2, 57, 2, 6), (3, 129, 2, 6), (2, 60, 2, 7), (3, 11, 3, 0), (3, 16, 3, 1), (3, 22, 3, 2), (3, 27, 3, 3), (3, 31, 3, 4), (3, 138, 3, 5)]
def fldT (c i : Nat) : Option (Nat × Nat) := er_find er_flds c i
def er_N : List Cond := [Cond.fieldLinkNest (cN 3) 46 (tT 1 1).1 (tT 1 1).2.1 (tT 1 1).2.2.1 "Endlessrows", Cond.fieldLinkNest (cN 2) 136 (tT 1 1).1 (tT 1 1).2.1 (tT 1 1).2.2.1 "Endlessrows", Cond.fieldLinkNest (cN 2) 51 (tT 0 1).1 (tT 0 1).2.1 (tT 0 1).2.2.1 "Endlessrows", Cond.fieldLinkNest (cN 3) 92 (tT 0 1).1 (tT 0 1).2.1 (tT 0 1).2.2.1 "Endlessrows", Cond.fieldLinkNest (cN 3) 88 (tT 2 1).1 (tT 2 1).2.1 (tT 2 1).2.2.1 "Endlessrows", Cond.fieldLinkNest (cN 3) 144 (tT 2 2).1 (tT 2 2).2.1 (tT 2 2).2.2.1 "Endlessrows", Cond.fieldLinkNest (cN 3) 126 (tT 2 5).1 (tT 2 5).2.1 (tT 2 5).2.2.1 "Endlessrows", Cond.fieldLinkNest (cN 3) 129 (tT 2 6).1 (tT 2 6).2.1 (tT 2 6).2.2.1 "Endlessrows", Cond.fieldLinkNest (cN 2) 127 "Endlessrows" "BASES" "[I" "Endlessrows"]
theorem er_N_tbl : ∀ w ∈ er_N, w ∈ lw_tbl := List.forall_mem_cons.mpr ⟨List.mem_of_getElem? (i := 49) (by decide +kernel), List.forall_mem_cons.mpr ⟨List.mem_of_getElem? (i := 50) (by decide +kernel), List.forall_mem_cons.mpr ⟨List.mem_of_getElem? (i := 73) (by decide +kernel), List.forall_mem_cons.mpr ⟨List.mem_of_getElem? (i := 74) (by decide +kernel), List.forall_mem_cons.mpr ⟨List.mem_of_getElem? (i := 83) (by decide +kernel), List.forall_mem_cons.mpr ⟨List.mem_of_getElem? (i := 85) (by decide +kernel), List.forall_mem_cons.mpr ⟨List.mem_of_getElem? (i := 89) (by decide +kernel), List.forall_mem_cons.mpr ⟨List.mem_of_getElem? (i := 91) (by decide +kernel), List.forall_mem_cons.mpr ⟨List.mem_of_getElem? (i := 329) (by decide +kernel), fun _ h => absurd h List.not_mem_nil⟩⟩⟩⟩⟩⟩⟩⟩⟩
def fkOK (q : Nat × Nat × Nat × Nat) : Prop := q.2.2.1 < 4 ∧ q.2.2.2 < nF q.2.2.1 ∧ (Cond.fieldLink (cN q.1) q.2.1 (tT q.2.2.1 q.2.2.2).1 (tT q.2.2.1 q.2.2.2).2.1 (tT q.2.2.1 q.2.2.2).2.2.1 ∈ er_G ∨ Cond.fieldLinkNest (cN q.1) q.2.1 (tT q.2.2.1 q.2.2.2).1 (tT q.2.2.1 q.2.2.2).2.1 (tT q.2.2.1 q.2.2.2).2.2.1 "Endlessrows" ∈ er_N)
theorem fk_1_9_ok : fkOK (1, 9, 1, 0) := ⟨by decide, by decide, Or.inl (er_in 47 (by decide +kernel) rfl)⟩
theorem fk_1_15_ok : fkOK (1, 15, 1, 1) := ⟨by decide, by decide, Or.inl (er_in 48 (by decide +kernel) rfl)⟩
theorem fk_3_46_ok : fkOK (3, 46, 1, 1) := ⟨by decide, by decide, Or.inr (List.mem_of_getElem? (i := 0) rfl)⟩
theorem fk_2_136_ok : fkOK (2, 136, 1, 1) := ⟨by decide, by decide, Or.inr (List.mem_of_getElem? (i := 1) rfl)⟩
theorem fk_0_11_ok : fkOK (0, 11, 0, 0) := ⟨by decide, by decide, Or.inl (er_in 71 (by decide +kernel) rfl)⟩
theorem fk_0_15_ok : fkOK (0, 15, 0, 1) := ⟨by decide, by decide, Or.inl (er_in 72 (by decide +kernel) rfl)⟩
theorem fk_2_51_ok : fkOK (2, 51, 0, 1) := ⟨by decide, by decide, Or.inr (List.mem_of_getElem? (i := 2) rfl)⟩
theorem fk_3_92_ok : fkOK (3, 92, 0, 1) := ⟨by decide, by decide, Or.inr (List.mem_of_getElem? (i := 3) rfl)⟩
theorem fk_2_11_ok : fkOK (2, 11, 2, 0) := ⟨by decide, by decide, Or.inl (er_in 81 (by decide +kernel) rfl)⟩
theorem fk_2_20_ok : fkOK (2, 20, 2, 1) := ⟨by decide, by decide, Or.inl (er_in 82 (by decide +kernel) rfl)⟩
theorem fk_3_88_ok : fkOK (3, 88, 2, 1) := ⟨by decide, by decide, Or.inr (List.mem_of_getElem? (i := 4) rfl)⟩
theorem fk_2_24_ok : fkOK (2, 24, 2, 2) := ⟨by decide, by decide, Or.inl (er_in 84 (by decide +kernel) rfl)⟩
theorem fk_3_144_ok : fkOK (3, 144, 2, 2) := ⟨by decide, by decide, Or.inr (List.mem_of_getElem? (i := 5) rfl)⟩
theorem fk_2_41_ok : fkOK (2, 41, 2, 3) := ⟨by decide, by decide, Or.inl (er_in 86 (by decide +kernel) rfl)⟩
theorem fk_2_44_ok : fkOK (2, 44, 2, 4) := ⟨by decide, by decide, Or.inl (er_in 87 (by decide +kernel) rfl)⟩
theorem fk_2_54_ok : fkOK (2, 54, 2, 5) := ⟨by decide, by decide, Or.inl (er_in 88 (by decide +kernel) rfl)⟩
theorem fk_3_126_ok : fkOK (3, 126, 2, 5) := ⟨by decide, by decide, Or.inr (List.mem_of_getElem? (i := 6) rfl)⟩
theorem fk_2_57_ok : fkOK (2, 57, 2, 6) := ⟨by decide, by decide, Or.inl (er_in 90 (by decide +kernel) rfl)⟩
theorem fk_3_129_ok : fkOK (3, 129, 2, 6) := ⟨by decide, by decide, Or.inr (List.mem_of_getElem? (i := 7) rfl)⟩
theorem fk_2_60_ok : fkOK (2, 60, 2, 7) := ⟨by decide, by decide, Or.inl (er_in 92 (by decide +kernel) rfl)⟩
theorem fk_3_11_ok : fkOK (3, 11, 3, 0) := ⟨by decide, by decide, Or.inl (er_in 118 (by decide +kernel) rfl)⟩
theorem fk_3_16_ok : fkOK (3, 16, 3, 1) := ⟨by decide, by decide, Or.inl (er_in 119 (by decide +kernel) rfl)⟩
theorem fk_3_22_ok : fkOK (3, 22, 3, 2) := ⟨by decide, by decide, Or.inl (er_in 120 (by decide +kernel) rfl)⟩
theorem fk_3_27_ok : fkOK (3, 27, 3, 3) := ⟨by decide, by decide, Or.inl (er_in 121 (by decide +kernel) rfl)⟩
theorem fk_3_31_ok : fkOK (3, 31, 3, 4) := ⟨by decide, by decide, Or.inl (er_in 122 (by decide +kernel) rfl)⟩
theorem fk_3_138_ok : fkOK (3, 138, 3, 5) := ⟨by decide, by decide, Or.inl (er_in 123 (by decide +kernel) rfl)⟩
set_option maxRecDepth 100000 in
theorem er_flds_ok : ∀ q ∈ er_flds, fkOK q := List.forall_mem_cons.mpr ⟨fk_1_9_ok, List.forall_mem_cons.mpr ⟨fk_1_15_ok, List.forall_mem_cons.mpr ⟨fk_3_46_ok, List.forall_mem_cons.mpr ⟨fk_2_136_ok, List.forall_mem_cons.mpr ⟨fk_0_11_ok, List.forall_mem_cons.mpr ⟨fk_0_15_ok, List.forall_mem_cons.mpr ⟨fk_2_51_ok, List.forall_mem_cons.mpr ⟨fk_3_92_ok, List.forall_mem_cons.mpr ⟨fk_2_11_ok, List.forall_mem_cons.mpr ⟨fk_2_20_ok, List.forall_mem_cons.mpr ⟨fk_3_88_ok, List.forall_mem_cons.mpr ⟨fk_2_24_ok, List.forall_mem_cons.mpr ⟨fk_3_144_ok, List.forall_mem_cons.mpr ⟨fk_2_41_ok, List.forall_mem_cons.mpr ⟨fk_2_44_ok, List.forall_mem_cons.mpr ⟨fk_2_54_ok, List.forall_mem_cons.mpr ⟨fk_3_126_ok, List.forall_mem_cons.mpr ⟨fk_2_57_ok, List.forall_mem_cons.mpr ⟨fk_3_129_ok, List.forall_mem_cons.mpr ⟨fk_2_60_ok, List.forall_mem_cons.mpr ⟨fk_3_11_ok, List.forall_mem_cons.mpr ⟨fk_3_16_ok, List.forall_mem_cons.mpr ⟨fk_3_22_ok, List.forall_mem_cons.mpr ⟨fk_3_27_ok, List.forall_mem_cons.mpr ⟨fk_3_31_ok, List.forall_mem_cons.mpr ⟨fk_3_138_ok, fun _ h => absurd h List.not_mem_nil⟩⟩⟩⟩⟩⟩⟩⟩⟩⟩⟩⟩⟩⟩⟩⟩⟩⟩⟩⟩⟩⟩⟩⟩⟩⟩
theorem fk_1_9 : fldT 1 9 = some (1, 0) := rfl
theorem fk_1_15 : fldT 1 15 = some (1, 1) := rfl
theorem fk_3_46 : fldT 3 46 = some (1, 1) := rfl
theorem fk_2_136 : fldT 2 136 = some (1, 1) := rfl
theorem fk_0_11 : fldT 0 11 = some (0, 0) := rfl
theorem fk_0_15 : fldT 0 15 = some (0, 1) := rfl
theorem fk_2_51 : fldT 2 51 = some (0, 1) := rfl
theorem fk_3_92 : fldT 3 92 = some (0, 1) := rfl
theorem fk_2_11 : fldT 2 11 = some (2, 0) := rfl
theorem fk_2_20 : fldT 2 20 = some (2, 1) := rfl
theorem fk_3_88 : fldT 3 88 = some (2, 1) := rfl
theorem fk_2_24 : fldT 2 24 = some (2, 2) := rfl
theorem fk_3_144 : fldT 3 144 = some (2, 2) := rfl
theorem fk_2_41 : fldT 2 41 = some (2, 3) := rfl
theorem fk_2_44 : fldT 2 44 = some (2, 4) := rfl
theorem fk_2_54 : fldT 2 54 = some (2, 5) := rfl
theorem fk_3_126 : fldT 3 126 = some (2, 5) := rfl
theorem fk_2_57 : fldT 2 57 = some (2, 6) := rfl
theorem fk_3_129 : fldT 3 129 = some (2, 6) := rfl
theorem fk_2_60 : fldT 2 60 = some (2, 7) := rfl
theorem fk_3_11 : fldT 3 11 = some (3, 0) := rfl
theorem fk_3_16 : fldT 3 16 = some (3, 1) := rfl
theorem fk_3_22 : fldT 3 22 = some (3, 2) := rfl
theorem fk_3_27 : fldT 3 27 = some (3, 3) := rfl
theorem fk_3_31 : fldT 3 31 = some (3, 4) := rfl
theorem fk_3_138 : fldT 3 138 = some (3, 5) := rfl
def er_csts : List (Nat × Nat × Int) := [(5, 265, 1431655765), (5, 266, 858993459), (5, 267, 252645135), (2, 135, 100000), (2, 118, 1000000), (4, 7, 2147483647), (4, 8, 790386105), (4, 15, 1028477387), (4, 16, 668265263), (4, 87, 1000001), (3, 111, 1000000), (4, 119, 1000000), (4, 158, 100000)]
def cstT (c i : Nat) : Option Int := er_find er_csts c i
def ckOK (q : Nat × Nat × Int) : Prop := Cond.constant (cN q.1) q.2.1 (Int32.ofInt q.2.2) ∈ er_G
theorem ck_5_265_ok : ckOK (5, 265, 1431655765) := er_in 254 (by decide +kernel) rfl
theorem ck_5_266_ok : ckOK (5, 266, 858993459) := er_in 255 (by decide +kernel) rfl
theorem ck_5_267_ok : ckOK (5, 267, 252645135) := er_in 256 (by decide +kernel) rfl
theorem ck_2_135_ok : ckOK (2, 135, 100000) := er_in 325 (by decide +kernel) rfl
theorem ck_2_118_ok : ckOK (2, 118, 1000000) := er_in 382 (by decide +kernel) rfl
theorem ck_4_7_ok : ckOK (4, 7, 2147483647) := er_in 415 (by decide +kernel) rfl
theorem ck_4_8_ok : ckOK (4, 8, 790386105) := er_in 422 (by decide +kernel) rfl
theorem ck_4_15_ok : ckOK (4, 15, 1028477387) := er_in 423 (by decide +kernel) rfl
theorem ck_4_16_ok : ckOK (4, 16, 668265263) := er_in 424 (by decide +kernel) rfl
theorem ck_4_87_ok : ckOK (4, 87, 1000001) := er_in 517 (by decide +kernel) rfl
theorem ck_3_111_ok : ckOK (3, 111, 1000000) := er_in 522 (by decide +kernel) rfl
theorem ck_4_119_ok : ckOK (4, 119, 1000000) := er_in 602 (by decide +kernel) rfl
theorem ck_4_158_ok : ckOK (4, 158, 100000) := er_in 650 (by decide +kernel) rfl
theorem er_csts_ok : ∀ q ∈ er_csts, ckOK q := List.forall_mem_cons.mpr ⟨ck_5_265_ok, List.forall_mem_cons.mpr ⟨ck_5_266_ok, List.forall_mem_cons.mpr ⟨ck_5_267_ok, List.forall_mem_cons.mpr ⟨ck_2_135_ok, List.forall_mem_cons.mpr ⟨ck_2_118_ok, List.forall_mem_cons.mpr ⟨ck_4_7_ok, List.forall_mem_cons.mpr ⟨ck_4_8_ok, List.forall_mem_cons.mpr ⟨ck_4_15_ok, List.forall_mem_cons.mpr ⟨ck_4_16_ok, List.forall_mem_cons.mpr ⟨ck_4_87_ok, List.forall_mem_cons.mpr ⟨ck_3_111_ok, List.forall_mem_cons.mpr ⟨ck_4_119_ok, List.forall_mem_cons.mpr ⟨ck_4_158_ok, fun _ h => absurd h List.not_mem_nil⟩⟩⟩⟩⟩⟩⟩⟩⟩⟩⟩⟩⟩
theorem ck_5_265 : cstT 5 265 = some (1431655765) := rfl
theorem ck_5_266 : cstT 5 266 = some (858993459) := rfl
theorem ck_5_267 : cstT 5 267 = some (252645135) := rfl
theorem ck_2_135 : cstT 2 135 = some (100000) := rfl
theorem ck_2_118 : cstT 2 118 = some (1000000) := rfl
theorem ck_4_7 : cstT 4 7 = some (2147483647) := rfl
theorem ck_4_8 : cstT 4 8 = some (790386105) := rfl
theorem ck_4_15 : cstT 4 15 = some (1028477387) := rfl
theorem ck_4_16 : cstT 4 16 = some (668265263) := rfl
theorem ck_4_87 : cstT 4 87 = some (1000001) := rfl
theorem ck_3_111 : cstT 3 111 = some (1000000) := rfl
theorem ck_4_119 : cstT 4 119 = some (1000000) := rfl
theorem ck_4_158 : cstT 4 158 = some (100000) := rfl
theorem in_wsX00 : ∀ q ∈ u_ws (cN 0) (tT 0) (nF 0), q ∈ lw_tbl := by decide +kernel
theorem in_wsX10 : ∀ q ∈ u_ws (cN 1) (tT 1) (nF 1), q ∈ lw_tbl := by decide +kernel
theorem in_wsX20 : ∀ q ∈ u_ws (cN 2) (tT 2) (nF 2), q ∈ lw_tbl := by decide +kernel
theorem in_wsX30 : ∀ q ∈ u_ws (cN 3) (tT 3) (nF 3), q ∈ lw_tbl := by decide +kernel
end
section
/-! THE SMALL MACHINE: ints are whole numbers (taken modulo 2^32 where they are compared), an object is a kind and a number; its references never change behind the constructor -/
abbrev AV : Type := Int ⊕ (Int ⊕ (Nat × Nat))
def vI (z : Int) : AV := .inl z
def vL (z : Int) : AV := .inr (.inl z)
def vR (k i : Nat) : AV := .inr (.inr (k, i))
abbrev AMem : Type := Nat → Nat → Nat → Int
abbrev ALs : Type := List (Option AV)
def wI (z : Int) : Int := (z + 2147483648) % 4294967296 - 2147483648
def wL (z : Int) : Int := (z + 9223372036854775808) % 18446744073709551616 - 9223372036854775808
def aup (M : AMem) (k i s : Nat) (v : Int) : AMem := fun k' i' s' => if k' = k ∧ i' = i ∧ s' = s then v else M k' i' s'
def acopy (M : AMem) (k i j n : Nat) : AMem := fun k' i' s' => if k' = k ∧ i' = j ∧ s' < n then M k i s' else M k' i' s'
/-- kinds: 0 Queue, 1 Row, 2 Well, 3 the house; 4 a queue's keys, 5 a row's numbers, 6 a well's rows, 7 the house's rows, 8 its wells, 9 the script, 10 BASES, 11 FEW -/
def okH (k i : Nat) : Bool := match k with
  | 0 => decide (i < 7)
  | 1 => decide (i < 49)
  | 2 => decide (i < 7)
  | 3 => decide (i = 0)
  | 4 => decide (i < 7)
  | 5 => decide (i < 49)
  | 6 => decide (i < 7)
  | 7 => decide (i = 0)
  | 8 => decide (i = 0)
  | 9 => decide (i = 0)
  | 10 => decide (i = 0)
  | 11 => decide (i = 0)
  | _ => false
/-- what a field holds -/
def fval (k i s : Nat) (M : AMem) : AV := match k, s with
  | 0, 0 => vR 4 i
  | 1, 0 => vR 5 i
  | 2, 0 => vR 6 i
  | 2, 1 => vR 0 i
  | 3, 0 => vR 7 0
  | 3, 1 => vR 1 48
  | 3, 2 => vR 8 0
  | 3, 3 => vR 2 5
  | 3, 4 => vR 2 6
  | k, s => vI (M k i s)
/-- which fields are ints -/
def fint (k s : Nat) : Bool := match k, s with
  | 0, 1 => true
  | 1, 1 => true
  | 2, 2 => true
  | 2, 3 => true
  | 2, 4 => true
  | 2, 5 => true
  | 2, 6 => true
  | 2, 7 => true
  | 3, 5 => true
  | _, _ => false
def alen (k : Nat) (M : AMem) : Nat := match k with
  | 4 => 512
  | 5 => 8
  | 6 => 6
  | 7 => 6
  | 8 => 5
  | 9 => (M 9 1 0).toNat
  | 10 => 6
  | 11 => 6
  | _ => 0
def bas (j : Nat) : Int := match j with
  | 0 => 2
  | 1 => 3
  | 2 => 5
  | 3 => 7
  | 4 => 11
  | _ => 13
/-- an int of an int array -/
def aval (k i j : Nat) (M : AMem) : Option Int := match k with
  | 4 => some (M 4 i j)
  | 5 => some (M 5 i j)
  | 9 => some (M 9 0 j)
  | 10 => some (bas j)
  | 11 => some (bas j)
  | _ => none
/-- a reference of an array of references -/
def aref (k i j : Nat) : Option (Nat × Nat) := match k with
  | 6 => some (1, 6 * i + j)
  | 7 => some (1, 42 + j)
  | 8 => some (2, j)
  | _ => none
/-- int operations by Int32 -/
def opAnd (a b : Int) : Int := (Int32.ofInt a &&& Int32.ofInt b).toInt
def opXor (a b : Int) : Int := (Int32.ofInt a ^^^ Int32.ofInt b).toInt
def opShr (a b : Int) : Int := (Int32.ofInt a >>> (Int32.ofInt b &&& 31)).toInt
def opUshr (a b : Int) : Int := (((Int32.ofInt a).toUInt32 >>> ((Int32.ofInt b).toUInt32 &&& Int32.toUInt32 31)).toInt32).toInt
def opCmp (a b : Int) : Int := if wL b < wL a then 1 else if wL a = wL b then 0 else -1
/-- the natives: 0 max, 1 min, 2 arraycopy -/
def bltT (c i : Nat) : Option Nat := er_find [(2, 122, 0), (4, 132, 0), (2, 170, 1), (4, 159, 1), (1, 23, 2), (0, 41, 2)] c i
/-- statics -/
def staT (c i : Nat) : Option Nat := er_find [(2, 127, 10), (4, 154, 11)] c i
def lonT (c i : Nat) : Option Int := er_find [(3, 187, 7980), (3, 189, 31)] c i
def acat (v : AV) : Nat := match v with
  | .inl _ => 1
  | .inr (.inl _) => 2
  | .inr (.inr _) => 1
/-- a step's end: the next place, a call (method, its arguments, the rest of the stack), or the answer -/
abbrev SR : Type := (Nat × ALs × List AV × AMem) ⊕ ((MT × List AV × List AV) ⊕ Option AV)
def nx (pc : Nat) (ls : ALs) (st : List AV) (M : AMem) : Option SR := some (.inl (pc, ls, st, M))
def sI (st : List AV) (f : Int → List AV → Option SR) : Option SR := match st with
  | .inl z :: r => f z r
  | _ => none
def sL (st : List AV) (f : Int → List AV → Option SR) : Option SR := match st with
  | .inr (.inl z) :: r => f z r
  | _ => none
def sR (st : List AV) (f : Nat → Nat → List AV → Option SR) : Option SR := match st with
  | .inr (.inr (k, i)) :: r => if okH k i = true then f k i r else none
  | _ => none
def sA (st : List AV) (f : Nat → Nat → List AV → Option SR) : Option SR := match st with
  | .inr (.inr (k, i)) :: r => f k i r
  | _ => none
def sV (st : List AV) (f : AV → List AV → Option SR) : Option SR := match st with
  | v :: r => f v r
  | _ => none
def gL (ls : ALs) (i : Nat) (f : AV → Option SR) : Option SR := match ls[i]? with
  | some (some v) => f v
  | _ => none
def oG {α : Type} (x : Option α) (f : α → Option SR) : Option SR := match x with
  | some v => f v
  | none => none
/-- may this place of the locals be written: no long is cut -/
def stOK (ls : ALs) (i : Nat) : Bool := decide (i < ls.length) && (match ls[i - 1]? with
  | some (some v) => decide (i = 0) || acat v == 1
  | _ => true)
def jmp (pc : Nat) (off : Int) : Nat := ((pc : Int) + off).toNat
def jok (pc : Nat) (off : Int) : Bool := decide (0 ≤ (pc : Int) + off)
def cmpB (c : ClassFile.Cond) (a b : Int) : Bool := match c with
  | .eq => decide (a = b)
  | .ne => decide (¬ a = b)
  | .lt => decide (a < b)
  | .ge => decide (b ≤ a)
  | .gt => decide (b < a)
  | .le => decide (a ≤ b)
def aLoadI (len n pc i : Nat) (ls : ALs) (st : List AV) (M : AMem) : Option SR := if len = n then gL ls i (fun v => sI [v] (fun z _ => nx (pc + n) ls (vI z :: st) M)) else none
def aLoadL (len n pc i : Nat) (ls : ALs) (st : List AV) (M : AMem) : Option SR := if len = n then gL ls i (fun v => sL [v] (fun z _ => nx (pc + n) ls (vL z :: st) M)) else none
def aLoadA (len n pc i : Nat) (ls : ALs) (st : List AV) (M : AMem) : Option SR := if len = n then gL ls i (fun v => sA [v] (fun k j _ => nx (pc + n) ls (vR k j :: st) M)) else none
def aStoreI (len n pc i : Nat) (ls : ALs) (st : List AV) (M : AMem) : Option SR := if len = n ∧ stOK ls i = true then sI st (fun z r => nx (pc + n) (ls.set i (some (vI z))) r M) else none
def aStoreA (len n pc i : Nat) (ls : ALs) (st : List AV) (M : AMem) : Option SR := if len = n ∧ stOK ls i = true then sA st (fun k j r => nx (pc + n) (ls.set i (some (vR k j))) r M) else none
def aStoreL (len n pc i : Nat) (ls : ALs) (st : List AV) (M : AMem) : Option SR := if len = n ∧ stOK ls i = true ∧ i + 1 < ls.length then sL st (fun v r => nx (pc + n) ((ls.set i (some (vL v))).set (i + 1) none) r M) else none
def aPush (len n pc : Nat) (v : AV) (ls : ALs) (st : List AV) (M : AMem) : Option SR := if len = n then nx (pc + n) ls (v :: st) M else none
def aBin (len pc : Nat) (f : Int → Int → Int) (ls : ALs) (st : List AV) (M : AMem) : Option SR := if len = 1 then sI st (fun b r => sI r (fun a q => nx (pc + 1) ls (vI (f a b) :: q) M)) else none
def aDiv (len pc : Nat) (f : Int → Int → Int) (ls : ALs) (st : List AV) (M : AMem) : Option SR := if len = 1 then sI st (fun b r => if wI b = 0 then none else sI r (fun a q => nx (pc + 1) ls (vI (f (wI a) (wI b)) :: q) M)) else none
def aBr (len pc : Nat) (off : Int) (b : Bool) (ls : ALs) (st : List AV) (M : AMem) : Option SR := if len = 3 ∧ jok pc off = true then (if b = true then nx (jmp pc off) ls st M else nx (pc + 3) ls st M) else none
def aCall (len : Nat) (Y : MT) (as r : List AV) : Option SR := if len = 3 ∧ (r.map acat).sum ≤ 8 ∧ (as.map acat).sum = as.length ∧ as.length ≤ mtL Y then some (.inr (.inl (Y, as, r))) else none
def aVirt (len : Nat) (Y : MT) (st : List AV) : Option SR := if mtS Y = false ∧ mtA Y < st.length then sR (st.drop (mtA Y)) (fun k i r => if k = mtK Y then aCall len Y (vR k i :: (st.take (mtA Y)).reverse) r else none) else none
def aStat (len : Nat) (Y : MT) (st : List AV) : Option SR := if mtS Y = true ∧ mtA Y ≤ st.length then aCall len Y (st.take (mtA Y)).reverse (st.drop (mtA Y)) else none
def aBlt (len pc b : Nat) (ls : ALs) (st : List AV) (M : AMem) : Option SR := if len = 3 ∧ (st.map acat).sum ≤ 8 then (match b with
  | 0 => sI st (fun y r => sI r (fun x q => nx (pc + 3) ls (vI (if wI x < wI y then y else x) :: q) M))
  | 1 => sI st (fun y r => sI r (fun x q => nx (pc + 3) ls (vI (if wI y < wI x then y else x) :: q) M))
  | _ => sI st (fun n r => sI r (fun dp r => sR r (fun k j r => sI r (fun sp r => sR r (fun k' i r => if dp = 0 ∧ sp = 0 ∧ k' = k ∧ (k = 4 ∨ k = 5) ∧ 0 ≤ n ∧ n.toNat ≤ alen k M then nx (pc + 3) ls r (acopy M k i j n.toNat) else none)))))) else none
def aSwT (pc : Nat) (dflt lo hi : Int) (offs : Array Int) (ls : ALs) (st : List AV) (M : AMem) : Option SR := sI st (fun z r => if wI z < lo ∨ hi < wI z then (if jok pc dflt = true then nx (jmp pc dflt) ls r M else none) else oG offs[(wI z - lo).toNat]? (fun off => if jok pc off = true then nx (jmp pc off) ls r M else none))
def aSwL (pc : Nat) (dflt : Int) (ps : Array (Int × Int)) (ls : ALs) (st : List AV) (M : AMem) : Option SR := if (ps.toList.zip (ps.toList.drop 1)).all (fun (a, next) => a.1 < next.1) = true then sI st (fun z r => if jok pc (Op.lookupswitch.offset ps.toList dflt (wI z)) = true then nx (jmp pc (Op.lookupswitch.offset ps.toList dflt (wI z))) ls r M else none) else none
/-- one instruction -/
def ex1 (Y : MT) (ins : ClassFile.Instr) (len pc : Nat) (ls : ALs) (st : List AV) (M : AMem) : Option SR := match ins with
  | .iconst n => aPush len 1 pc (vI n) ls st M
  | .bipush n => if -128 ≤ n ∧ n < 128 then aPush len 2 pc (vI n) ls st M else none
  | .sipush n => if -32768 ≤ n ∧ n < 32768 then aPush len 3 pc (vI n) ls st M else none
  | .ldc i => oG (cstT (mtK Y) i) (fun z => aPush len 2 pc (vI z) ls st M)
  | .ldc_w i => oG (cstT (mtK Y) i) (fun z => aPush len 3 pc (vI z) ls st M)
  | .ldc2_w i => oG (lonT (mtK Y) i) (fun z => aPush len 3 pc (vL z) ls st M)
  | .iload i => aLoadI len 2 pc i ls st M
  | .iload_n i => aLoadI len 1 pc i ls st M
  | .aload i => aLoadA len 2 pc i ls st M
  | .aload_n i => aLoadA len 1 pc i ls st M
  | .lload i => aLoadL len 2 pc i ls st M
  | .lload_n i => aLoadL len 1 pc i ls st M
  | .istore i => aStoreI len 2 pc i ls st M
  | .istore_n i => aStoreI len 1 pc i ls st M
  | .astore i => aStoreA len 2 pc i ls st M
  | .astore_n i => aStoreA len 1 pc i ls st M
  | .lstore i => aStoreL len 2 pc i ls st M
  | .lstore_n i => aStoreL len 1 pc i ls st M
  | .iinc i n => if len = 3 ∧ stOK ls i = true then gL ls i (fun v => sI [v] (fun z _ => nx (pc + 3) (ls.set i (some (vI (z + n)))) st M)) else none
  | .iadd => aBin len pc (fun a b => a + b) ls st M
  | .isub => aBin len pc (fun a b => a - b) ls st M
  | .imul => aBin len pc (fun a b => a * b) ls st M
  | .iand => aBin len pc opAnd ls st M
  | .ixor => aBin len pc opXor ls st M
  | .ishr => aBin len pc opShr ls st M
  | .iushr => aBin len pc opUshr ls st M
  | .idiv => aDiv len pc Int.tdiv ls st M
  | .irem => aDiv len pc Int.tmod ls st M
  | .i2l => if len = 1 then sI st (fun a r => nx (pc + 1) ls (vL (wI a) :: r) M) else none
  | .ladd => if len = 1 then sL st (fun b r => sL r (fun a q => nx (pc + 1) ls (vL (a + b) :: q) M)) else none
  | .lmul => if len = 1 then sL st (fun b r => sL r (fun a q => nx (pc + 1) ls (vL (a * b) :: q) M)) else none
  | .lcmp => if len = 1 then sL st (fun b r => sL r (fun a q => nx (pc + 1) ls (vI (opCmp a b) :: q) M)) else none
  | .dup => if len = 1 then sV st (fun v r => if acat v = 1 then nx (pc + 1) ls (v :: v :: r) M else none) else none
  | .pop => if len = 1 then sV st (fun v r => if acat v = 1 then nx (pc + 1) ls r M else none) else none
  | .ifCond c off => sI st (fun z r => aBr len pc off (cmpB c (wI z) 0) ls r M)
  | .if_icmp c off => sI st (fun b r => sI r (fun a q => aBr len pc off (cmpB c (wI a) (wI b)) ls q M))
  | .goto off => if len = 3 ∧ jok pc off = true then nx (jmp pc off) ls st M else none
  | .tableswitch dflt lo hi offs => aSwT pc dflt lo hi offs ls st M
  | .lookupswitch dflt ps => aSwL pc dflt ps ls st M
  | .getstatic i => if len = 3 then oG (staT (mtK Y) i) (fun k => nx (pc + 3) ls (vR k 0 :: st) M) else none
  | .getfield f => if len = 3 then oG (fldT (mtK Y) f) (fun q => sR st (fun k i r => if k = q.1 then nx (pc + 3) ls (fval k i q.2 M :: r) M else none)) else none
  | .putfield f => if len = 3 then oG (fldT (mtK Y) f) (fun q => sI st (fun z r => sR r (fun k i r => if k = q.1 ∧ fint k q.2 = true ∧ (k = 2 ∧ q.2 = 4 → z = 0 ∨ z = 1) then nx (pc + 3) ls r (aup M k i q.2 z) else none))) else none
  | .arraylength => if len = 1 then sR st (fun k _ r => if 4 ≤ k then nx (pc + 1) ls (vI (alen k M) :: r) M else none) else none
  | .iaload => if len = 1 then sI st (fun j r => sR r (fun k i r => if 0 ≤ wI j ∧ wI j < alen k M then oG (aval k i (wI j).toNat M) (fun z => nx (pc + 1) ls (vI z :: r) M) else none)) else none
  | .iastore => if len = 1 then sI st (fun z r => sI r (fun j r => sR r (fun k i r => if 0 ≤ wI j ∧ wI j < alen k M ∧ (k = 4 ∨ k = 5) then nx (pc + 1) ls r (aup M k i (wI j).toNat z) else none))) else none
  | .aaload => if len = 1 then sI st (fun j r => sR r (fun k i r => if 0 ≤ wI j ∧ wI j < alen k M then oG (aref k i (wI j).toNat) (fun q => nx (pc + 1) ls (vR q.1 q.2 :: r) M) else none)) else none
  | .invokevirtual i => oG (mthT (mtK Y) i) (fun Z => aVirt len Z st)
  | .invokestatic i => match bltT (mtK Y) i with
    | some b => aBlt len pc b ls st M
    | none => oG (mthT (mtK Y) i) (fun Z => aStat len Z st)
  | .ireturn => if len = 1 then sI st (fun z r => if r = [] ∧ (mtR Y = some .int ∨ (mtR Y = some .boolean ∧ (z = 0 ∨ z = 1))) then some (.inr (.inr (some (vI z)))) else none) else none
  | .lreturn => if len = 1 then sL st (fun z r => if r = [] ∧ mtR Y = some .long then some (.inr (.inr (some (vL z)))) else none) else none
  | .areturn => if len = 1 then sA st (fun k i r => if r = [] ∧ (mtR Y = some (.object "Endlessrows$Row") ∨ mtR Y = some (.object "Endlessrows$Well")) then some (.inr (.inr (some (vR k i)))) else none) else none
  | .return_ => if len = 1 ∧ st = [] ∧ mtR Y = none then some (.inr (.inr none)) else none
  | _ => none
/-- a call's first locals -/
def lini (Y : MT) (as : List AV) : ALs := as.map some ++ List.replicate (mtL Y - as.length) none
def run : Nat → Nat → MT → Nat → ALs → List AV → AMem → Option (Option AV × AMem)
  | 0, _, _, _, _, _, _ => none
  | n + 1, d, Y, pc, ls, st, M => match decode (mtC Y) pc with
    | .ok (ins, len) => match ex1 Y ins len pc ls st M with
      | some (.inl (pc', ls', st', M')) => run n d Y pc' ls' st' M'
      | some (.inr (.inl (Z, as, r))) => match d with
        | 0 => none
        | d' + 1 => match run n d' Z 0 (lini Z as) [] M with
          | some (v, M1) => run n (d' + 1) Y (pc + 3) ls (v.toList ++ r) M1
          | none => none
      | some (.inr (.inr v)) => some (v, M)
      | none => none
    | .error _ => none
/-- the walk from here ends with Q -/
def RunQ (d : Nat) (Y : MT) (pc : Nat) (ls : ALs) (st : List AV) (M : AMem) (Q : Option AV → AMem → Prop) : Prop := ∃ n v M', run n d Y pc ls st M = some (v, M') ∧ Q v M'
/-- a call -/
def CallQ (d : Nat) (Y : MT) (as : List AV) (M : AMem) (Q : Option AV → AMem → Prop) : Prop := RunQ d Y 0 (lini Y as) [] M Q
end
section
/-! ints of the small machine and the machine's -/
theorem i_toInt (z : Int) : (Int32.ofInt z).toInt = wI z := by
  rw [Int32.toInt_ofInt, wI, Int.bmod_def]
  rw [show Int32.size = 4294967296 from rfl]
  split <;> omega
theorem l_toInt (z : Int) : (Int64.ofInt z).toInt = wL z := by
  rw [Int64.toInt_ofInt, wL, Int.bmod_def]
  rw [show Int64.size = 18446744073709551616 from rfl]
  split <;> omega
theorem wI_lo (z : Int) : -2147483648 ≤ wI z := by unfold wI; omega
theorem wI_hi (z : Int) : wI z < 2147483648 := by unfold wI; omega
theorem wI_eq {z : Int} (h1 : -2147483648 ≤ z) (h2 : z < 2147483648) : wI z = z := by unfold wI; omega
theorem wI_wI (z : Int) : wI (wI z) = wI z := wI_eq (wI_lo z) (wI_hi z)
theorem i_wI (z : Int) : Int32.ofInt (wI z) = Int32.ofInt z := by
  rw [← Int32.toInt_inj, i_toInt, i_toInt, wI_wI]
theorem i_lt (a b : Int) : Int32.ofInt a < Int32.ofInt b ↔ wI a < wI b := by rw [Int32.lt_iff_toInt_lt, i_toInt, i_toInt]
theorem i_le (a b : Int) : Int32.ofInt a ≤ Int32.ofInt b ↔ wI a ≤ wI b := by rw [Int32.le_iff_toInt_le, i_toInt, i_toInt]
theorem i_eq (a b : Int) : Int32.ofInt a = Int32.ofInt b ↔ wI a = wI b := by rw [← Int32.toInt_inj, i_toInt, i_toInt]
theorem i_of (x : Int32) : Int32.ofInt x.toInt = x := Int32.ofInt_toInt x
theorem i_w (x : Int32) : wI x.toInt = x.toInt := by rw [← i_toInt, i_of]
theorem i_0 : Int32.ofInt 0 = 0 := rfl
theorem i_nat (z : Int) : (Int32.ofInt z).toNatClampNeg = (wI z).toNat := by
  show (Int32.ofInt z).toInt.toNat = _
  rw [i_toInt]
theorem i_in {z : Int} {n : Nat} (h0 : 0 ≤ wI z) (h : wI z < n) : vp_in (Int32.ofInt z) n := by
  rw [vp_in_iff, i_toInt]
  exact ⟨h0, h⟩
theorem i_div (a b : Int) : Int32.ofInt a / Int32.ofInt b = Int32.ofInt (Int.tdiv (wI a) (wI b)) := by
  rw [← Int32.toInt_inj, Int32.toInt_div, i_toInt, i_toInt, Int32.toInt_ofInt]
theorem i_rem (a b : Int) : Int32.ofInt a - Int32.ofInt a / Int32.ofInt b * Int32.ofInt b = Int32.ofInt (Int.tmod (wI a) (wI b)) := by
  rw [i_div, ← i_wI a, ← i_wI b, ← Int32.ofInt_mul, ← Int32.ofInt_sub, Int.tmod_def, Int.mul_comm]
theorem i_l (z : Int) : (Int32.ofInt z).toInt64 = Int64.ofInt (wI z) := by
  rw [← Int64.toInt_inj, Int32.toInt_toInt64, i_toInt, l_toInt]
  have h1 := wI_lo z
  have h2 := wI_hi z
  generalize wI z = y at h1 h2 ⊢
  unfold wL
  omega
theorem i_cmp (a b : Int) : lg_cmp (Int64.ofInt a) (Int64.ofInt b) = Int32.ofInt (opCmp a b) := by
  unfold lg_cmp opCmp
  simp only [gt_iff_lt, Int64.lt_iff_toInt_lt, ← Int64.toInt_inj, l_toInt]
  split
  · rfl
  · split <;> rfl
/-! a step's parts -/
theorem sI_inv {st : List AV} {f : Int → List AV → Option SR} {R : SR} (h : sI st f = some R) : ∃ z r, st = vI z :: r ∧ f z r = some R := by
  unfold sI at h
  split at h
  · exact ⟨_, _, rfl, h⟩
  · cases h
theorem sL_inv {st : List AV} {f : Int → List AV → Option SR} {R : SR} (h : sL st f = some R) : ∃ z r, st = vL z :: r ∧ f z r = some R := by
  unfold sL at h
  split at h
  · exact ⟨_, _, rfl, h⟩
  · cases h
theorem sA_inv {st : List AV} {f : Nat → Nat → List AV → Option SR} {R : SR} (h : sA st f = some R) : ∃ k i r, st = vR k i :: r ∧ f k i r = some R := by
  unfold sA at h
  split at h
  · exact ⟨_, _, _, rfl, h⟩
  · cases h
theorem sR_inv {st : List AV} {f : Nat → Nat → List AV → Option SR} {R : SR} (h : sR st f = some R) : ∃ k i r, st = vR k i :: r ∧ okH k i = true ∧ f k i r = some R := by
  unfold sR at h
  split at h
  · split at h
    · rename_i hk
      exact ⟨_, _, _, rfl, hk, h⟩
    · cases h
  · cases h
theorem sV_inv {st : List AV} {f : AV → List AV → Option SR} {R : SR} (h : sV st f = some R) : ∃ v r, st = v :: r ∧ f v r = some R := by
  unfold sV at h
  split at h
  · exact ⟨_, _, rfl, h⟩
  · cases h
theorem gL_inv {ls : ALs} {i : Nat} {f : AV → Option SR} {R : SR} (h : gL ls i f = some R) : ∃ v, ls[i]? = some (some v) ∧ f v = some R := by
  unfold gL at h
  split at h
  · exact ⟨_, by assumption, h⟩
  · cases h
theorem oG_inv {α : Type} {x : Option α} {f : α → Option SR} {R : SR} (h : oG x f = some R) : ∃ v, x = some v ∧ f v = some R := by
  unfold oG at h
  split at h
  · exact ⟨_, rfl, h⟩
  · cases h
theorem if_inv {c : Prop} [Decidable c] {x : Option SR} {R : SR} (h : (if c then x else none) = some R) : c ∧ x = some R := by
  split at h
  · exact ⟨by assumption, h⟩
  · cases h
theorem nif_inv {c : Prop} [Decidable c] {x : Option SR} {R : SR} (h : (if c then none else x) = some R) : ¬ c ∧ x = some R := by
  split at h
  · cases h
  · exact ⟨by assumption, h⟩
theorem nx_inv {pc pc' : Nat} {ls ls' : ALs} {st st' : List AV} {M M' : AMem} (h : nx pc ls st M = some (.inl (pc', ls', st', M'))) : pc' = pc ∧ ls' = ls ∧ st' = st ∧ M' = M := by
  unfold nx at h
  simp only [Option.some.injEq, Sum.inl.injEq, Prod.mk.injEq] at h
  obtain ⟨a, b, c, d⟩ := h
  exact ⟨a.symm, b.symm, c.symm, d.symm⟩
/-! values -/
def tv (ad : Nat → Nat → Nat) (v : AV) : Value := match v with
  | .inl z => .int (Int32.ofInt z)
  | .inr (.inl z) => .long (Int64.ofInt z)
  | .inr (.inr (k, i)) => .ref (ad k i)
theorem tv_I (ad : Nat → Nat → Nat) (z : Int) : tv ad (vI z) = .int (Int32.ofInt z) := rfl
theorem tv_L (ad : Nat → Nat → Nat) (z : Int) : tv ad (vL z) = .long (Int64.ofInt z) := rfl
theorem tv_R (ad : Nat → Nat → Nat) (k i : Nat) : tv ad (vR k i) = .ref (ad k i) := rfl
theorem tv_cat (ad : Nat → Nat → Nat) (v : AV) : (tv ad v).category = acat v := by
  rcases v with z | z | ⟨k, i⟩ <;> rfl
/-! locals -/
def lpr (ad : Nat → Nat → Nat) : Nat → ALs → List (Nat × Value)
  | _, [] => []
  | n, none :: r => lpr ad (n + 1) r
  | n, some v :: r => (n, tv ad v) :: lpr ad (n + 1) r
theorem mem_lpr {ad : Nat → Nat → Nat} {i : Nat} {x : Value} : ∀ {n : Nat} {ls : ALs}, (i, x) ∈ lpr ad n ls ↔ ∃ v, n ≤ i ∧ ls[i - n]? = some (some v) ∧ x = tv ad v
  | n, [] => by simp [lpr]
  | n, none :: r => by
    rw [lpr, mem_lpr]
    constructor
    · rintro ⟨v, h1, h2, h3⟩
      refine ⟨v, by omega, ?_, h3⟩
      rw [show i - n = (i - (n + 1)) + 1 by omega]
      exact h2
    · rintro ⟨v, h1, h2, h3⟩
      by_cases hi : i = n
      · subst hi
        simp at h2
      · refine ⟨v, by omega, ?_, h3⟩
        rw [show i - n = (i - (n + 1)) + 1 by omega] at h2
        exact h2
  | n, some w :: r => by
    rw [lpr, List.mem_cons, mem_lpr]
    constructor
    · rintro (h | ⟨v, h1, h2, h3⟩)
      · cases h
        exact ⟨w, Nat.le_refl _, by simp, rfl⟩
      · refine ⟨v, by omega, ?_, h3⟩
        rw [show i - n = (i - (n + 1)) + 1 by omega]
        exact h2
    · rintro ⟨v, h1, h2, h3⟩
      by_cases hi : i = n
      · subst hi
        simp at h2
        subst h2
        exact Or.inl (by rw [h3])
      · refine Or.inr ⟨v, by omega, ?_, h3⟩
        rw [show i - n = (i - (n + 1)) + 1 by omega] at h2
        exact h2
def lsR (ad : Nat → Nat → Nat) (ls : ALs) (nL : Nat) (lj : Array Slot) : Prop := ls.length = nL ∧ lv_has lj nL (lpr ad 0 ls)
theorem lsR_at {ad : Nat → Nat → Nat} {ls : ALs} {nL i : Nat} {lj : Array Slot} {v : AV} (h : lsR ad ls nL lj) (hv : ls[i]? = some (some v)) : lj[i]? = some (.val (tv ad v)) :=
  h.2.2.2 (i, tv ad v) (mem_lpr.mpr ⟨v, Nat.zero_le _, hv, rfl⟩)
theorem lsR_set {ad : Nat → Nat → Nat} {ls : ALs} {nL i : Nat} {lj : Array Slot} {v : AV} (hlen : ls.length = nL) (hok : stOK ls i = true)
    (h : lv_has lj nL ((i, tv ad v) :: (lpr ad 0 ls).filter (fun q => !(q.1 == i) && !(q.1 + 1 == i && q.2.category == 2)))) : lsR ad (ls.set i (some v)) nL lj := by
  refine ⟨by rw [List.length_set]; exact hlen, h.1, h.2.1, fun q hq => ?_⟩
  obtain ⟨j, x⟩ := q
  obtain ⟨w, -, h2, rfl⟩ := mem_lpr.mp hq
  rw [Nat.sub_zero] at h2
  by_cases hj : j = i
  · subst hj
    rw [List.getElem?_set_self (by simp only [stOK, Bool.and_eq_true, decide_eq_true_eq] at hok; exact hok.1)] at h2
    cases h2
    exact h.2.2 _ List.mem_cons_self
  · rw [List.getElem?_set_ne (Ne.symm hj)] at h2
    refine h.2.2 (j, tv ad w) (List.mem_cons_of_mem _ (List.mem_filter.mpr ⟨mem_lpr.mpr ⟨w, Nat.zero_le _, h2, rfl⟩, ?_⟩))
    simp only [Bool.and_eq_true, Bool.not_eq_true', beq_eq_false_iff_ne, ne_eq, Bool.and_eq_false_iff]
    refine ⟨hj, ?_⟩
    by_cases hc : j + 1 = i
    · right
      simp only [stOK, Bool.and_eq_true, decide_eq_true_eq] at hok
      have h3 := hok.2
      rw [show i - 1 = j by omega, h2] at h3
      simp only [Bool.or_eq_true, decide_eq_true_eq, beq_iff_eq] at h3
      rw [tv_cat]
      rcases h3 with h3 | h3
      · omega
      · omega
    · exact Or.inl hc
theorem lsR_set2 {ad : Nat → Nat → Nat} {ls : ALs} {nL i : Nat} {lj : Array Slot} {v : AV} (hlen : ls.length = nL) (hok : stOK ls i = true)
    (h : lv_has lj nL ((i, tv ad v) :: (lpr ad 0 ls).filter (fun q => !(q.1 == i) && (!(q.1 == i + 1) && !(q.1 + 1 == i && q.2.category == 2))))) : lsR ad ((ls.set i (some v)).set (i + 1) none) nL lj := by
  refine ⟨by rw [List.length_set, List.length_set]; exact hlen, h.1, h.2.1, fun q hq => ?_⟩
  obtain ⟨j, x⟩ := q
  obtain ⟨w, -, h2, rfl⟩ := mem_lpr.mp hq
  rw [Nat.sub_zero] at h2
  by_cases hj1 : j = i + 1
  · subst hj1
    have h4 := (List.getElem?_eq_some_iff.mp h2).1
    rw [List.length_set] at h4
    rw [List.getElem?_set_self h4] at h2
    cases h2
  rw [List.getElem?_set_ne (Ne.symm hj1)] at h2
  by_cases hj : j = i
  · subst hj
    rw [List.getElem?_set_self (by simp only [stOK, Bool.and_eq_true, decide_eq_true_eq] at hok; exact hok.1)] at h2
    cases h2
    exact h.2.2 _ List.mem_cons_self
  · rw [List.getElem?_set_ne (Ne.symm hj)] at h2
    refine h.2.2 (j, tv ad w) (List.mem_cons_of_mem _ (List.mem_filter.mpr ⟨mem_lpr.mpr ⟨w, Nat.zero_le _, h2, rfl⟩, ?_⟩))
    simp only [Bool.and_eq_true, Bool.not_eq_true', beq_eq_false_iff_ne, ne_eq, Bool.and_eq_false_iff]
    refine ⟨hj, hj1, ?_⟩
    by_cases hc : j + 1 = i
    · right
      simp only [stOK, Bool.and_eq_true, decide_eq_true_eq] at hok
      have h3 := hok.2
      rw [show i - 1 = j by omega, h2] at h3
      simp only [Bool.or_eq_true, decide_eq_true_eq, beq_iff_eq] at h3
      rw [tv_cat]
      rcases h3 with h3 | h3
      · omega
      · omega
    · exact Or.inl hc
/-- a call's locals -/
theorem lsR_ini {ad : Nat → Nat → Nat} (Y : MT) (as : List AV) (hc : ∀ v ∈ as, acat v = 1) (hn : as.length ≤ mtL Y) : lsR ad (lini Y as) (mtL Y) ((lg_sl (as.map (tv ad)) ++ List.replicate (mtL Y - (lg_sl (as.map (tv ad))).length) Slot.unset).toArray) := by
  have hl : (lg_sl (as.map (tv ad))).length = as.length := by
    clear hn
    induction as with
    | nil => rfl
    | cons v r ih =>
      have h1 := hc v List.mem_cons_self
      have h2 := ih (fun w hw => hc w (List.mem_cons_of_mem _ hw))
      simp only [lg_sl, List.map_cons, List.flatMap_cons, List.length_append, List.length_cons] at h2 ⊢
      rw [h2, if_neg (by rw [tv_cat]; omega)]
      simp only [List.length_cons, List.length_nil]
      omega
  have h := lv_entry (as.map (tv ad)) (n := mtL Y) (by rw [hl]; exact hn)
  refine ⟨by simp [lini]; omega, h.1, h.2.1, fun q hq => ?_⟩
  obtain ⟨j, x⟩ := q
  obtain ⟨w, -, h2, rfl⟩ := mem_lpr.mp hq
  rw [Nat.sub_zero] at h2
  have key : ∀ (as : List AV) (n : Nat), (∀ v ∈ as, acat v = 1) → ∀ j w, as[j]? = some w → (n + j, tv ad w) ∈ lv_args n (as.map (tv ad)) := by
    intro as
    induction as with
    | nil => intro n _ j w h; simp at h
    | cons v r ih =>
      intro n hc j w h
      rw [List.map_cons, lv_args, tv_cat, if_neg (by have := hc v List.mem_cons_self; omega)]
      cases j with
      | zero =>
        simp at h
        subst h
        exact List.mem_cons_self
      | succ j =>
        have h3 := ih (n + 1) (fun w hw => hc w (List.mem_cons_of_mem _ hw)) j w (by simpa using h)
        rw [show n + (j + 1) = n + 1 + j by omega]
        exact List.mem_cons_of_mem _ h3
  have h3 : as[j]? = some w := by
    unfold lini at h2
    by_cases hj : j < as.length
    · rw [List.getElem?_append_left (by simpa using hj), List.getElem?_map] at h2
      cases hz : as[j]? with
      | none => rw [hz] at h2; cases h2
      | some y => rw [hz] at h2; simpa using h2
    · rw [List.getElem?_append_right (by simp; omega)] at h2
      have := List.eq_of_mem_replicate (List.mem_of_getElem? h2)
      cases this
  have h4 := key as 0 hc j w h3
  rw [Nat.zero_add] at h4
  exact h.2.2 _ h4
end
section
/-! where the objects lie: behind the first new cell, in the order in which they are made -/
def er_wb (i : Nat) : Nat := if i < 5 then 49 + 16 * i else 5 + 16 * (i - 5)
def er_ro (i : Nat) : Nat := if i < 42 then er_wb (i / 6) + 4 + 2 * (i % 6) else if i < 48 then 37 + 2 * (i - 42) else 2
def er_off (k i : Nat) : Nat := match k with
  | 0 => er_wb i + 2
  | 1 => er_ro i
  | 2 => er_wb i
  | 3 => 0
  | 4 => er_wb i + 3
  | 5 => er_ro i + 1
  | 6 => er_wb i + 1
  | 7 => 1
  | _ => 4
def er_objs : List (Nat × Nat) := [(3, 0), (7, 0), (1, 48), (5, 48), (8, 0), (2, 5), (6, 5), (0, 5), (4, 5), (1, 30), (5, 30), (1, 31), (5, 31), (1, 32), (5, 32), (1, 33), (5, 33), (1, 34), (5, 34), (1, 35), (5, 35), (2, 6), (6, 6), (0, 6), (4, 6), (1, 36), (5, 36), (1, 37), (5, 37), (1, 38), (5, 38), (1, 39), (5, 39), (1, 40), (5, 40), (1, 41), (5, 41), (1, 42), (5, 42), (1, 43), (5, 43), (1, 44), (5, 44), (1, 45), (5, 45), (1, 46), (5, 46), (1, 47), (5, 47), (2, 0), (6, 0), (0, 0), (4, 0), (1, 0), (5, 0), (1, 1), (5, 1), (1, 2), (5, 2), (1, 3), (5, 3), (1, 4), (5, 4), (1, 5), (5, 5), (2, 1), (6, 1), (0, 1), (4, 1), (1, 6), (5, 6), (1, 7), (5, 7), (1, 8), (5, 8), (1, 9), (5, 9), (1, 10), (5, 10), (1, 11), (5, 11), (2, 2), (6, 2), (0, 2), (4, 2), (1, 12), (5, 12), (1, 13), (5, 13), (1, 14), (5, 14), (1, 15), (5, 15), (1, 16), (5, 16), (1, 17), (5, 17), (2, 3), (6, 3), (0, 3), (4, 3), (1, 18), (5, 18), (1, 19), (5, 19), (1, 20), (5, 20), (1, 21), (5, 21), (1, 22), (5, 22), (1, 23), (5, 23), (2, 4), (6, 4), (0, 4), (4, 4), (1, 24), (5, 24), (1, 25), (5, 25), (1, 26), (5, 26), (1, 27), (5, 27), (1, 28), (5, 28), (1, 29), (5, 29)]
theorem er_objs_len : er_objs.length = 129 := by decide +kernel
theorem er_objs_off : ∀ n, n < 129 → (er_objs[n]?).all (fun q => er_off q.1 q.2 == n && decide (q.1 < 9) && okH q.1 q.2) = true := by decide +kernel
theorem er_off_objs0 : ∀ k, k < 9 → ∀ i, i < 49 → okH k i = true → er_objs[er_off k i]? = some (k, i) := by decide +kernel
theorem okH_lt {k i : Nat} (h : okH k i = true) : i < 49 := by
  unfold okH at h
  split at h <;> simp at h <;> omega
theorem er_off_objs {k i : Nat} (hk : k < 9) (h : okH k i = true) : er_objs[er_off k i]? = some (k, i) := er_off_objs0 k hk i (okH_lt h) h
theorem er_objs_at {n : Nat} {q : Nat × Nat} (h : er_objs[n]? = some q) : er_off q.1 q.2 = n ∧ q.1 < 9 ∧ okH q.1 q.2 = true := by
  have hn : n < 129 := by rw [← er_objs_len]; exact (List.getElem?_eq_some_iff.mp h).1
  have h1 := er_objs_off n hn
  rw [h] at h1
  simp only [Option.all_some, Bool.and_eq_true, beq_iff_eq, decide_eq_true_eq] at h1
  exact ⟨h1.1.1, h1.1.2, h1.2⟩
def er_ad (B b tB tF : Nat) (k i : Nat) : Nat := match k with
  | 9 => b
  | 10 => tB
  | 11 => tF
  | k => B + er_off k i
theorem er_ad_lt {B b tB tF k i : Nat} (h : k < 9) : er_ad B b tB tF k i = B + er_off k i := by
  unfold er_ad
  split <;> first | omega | rfl
/-- what lies at an object's place -/
def ent (ad : Nat → Nat → Nat) (cI cR cW : ClassId) (M : AMem) (k i : Nat) : va_E := match k with
  | 4 => .inl (cI, 512, .inl (fun j => Int32.ofInt (M 4 i j)))
  | 5 => .inl (cI, 8, .inl (fun j => Int32.ofInt (M 5 i j)))
  | 6 => .inl (cR, 6, .inr (.inr (.inr (.inr (fun j => (aref 6 i j).map (fun q => ad q.1 q.2))))))
  | 7 => .inl (cR, 6, .inr (.inr (.inr (.inr (fun j => (aref 7 i j).map (fun q => ad q.1 q.2))))))
  | 8 => .inl (cW, 5, .inr (.inr (.inr (.inr (fun j => (aref 8 i j).map (fun q => ad q.1 q.2))))))
  | k => .inr (k, (List.range (nF k)).map (fun s => tv ad (fval k i s M)))
theorem ent_obj (ad : Nat → Nat → Nat) (cI cR cW : ClassId) (M : AMem) {k : Nat} (i : Nat) (h : k < 4) : ent ad cI cR cW M k i = .inr (k, (List.range (nF k)).map (fun s => tv ad (fval k i s M))) := by
  unfold ent
  split <;> first | omega | rfl
theorem fval_congr {M M' : AMem} {k i : Nat} (s : Nat) (h : ∀ s, M' k i s = M k i s) : fval k i s M' = fval k i s M := by
  unfold fval
  split <;> first | rfl | rw [h]
theorem ent_congr {ad : Nat → Nat → Nat} {cI cR cW : ClassId} {M M' : AMem} {k i : Nat} (h : ∀ s, M' k i s = M k i s) : ent ad cI cR cW M' k i = ent ad cI cR cW M k i := by
  unfold ent
  split
  · simp only [h]
  · simp only [h]
  · rfl
  · rfl
  · rfl
  · simp only [fval_congr _ h]
def er_ws (ad : Nat → Nat → Nat) (cI cR cW : ClassId) (M : AMem) : va_W := er_objs.map (fun q => (ad q.1 q.2, ent ad cI cR cW M q.1 q.2))
theorem er_ws_at {ad : Nat → Nat → Nat} {cI cR cW : ClassId} {M : AMem} {k i : Nat} (hk : k < 9) (h : okH k i = true) : (er_ws ad cI cR cW M)[er_off k i]? = some (ad k i, ent ad cI cR cW M k i) := by
  rw [er_ws, List.getElem?_map, er_off_objs hk h]
  rfl
theorem er_ws_set {ad : Nat → Nat → Nat} {cI cR cW : ClassId} {M M' : AMem} {k i : Nat} (hk : k < 9) (h : okH k i = true) (hM : ∀ k' i' s, (k' = k ∧ i' = i → False) → M' k' i' s = M k' i' s) : (er_ws ad cI cR cW M).set (er_off k i) (ad k i, ent ad cI cR cW M' k i) = er_ws ad cI cR cW M' := by
  apply List.ext_getElem?
  intro n
  by_cases hn : er_off k i = n
  · subst hn
    rw [er_ws_at hk h, List.getElem?_set_self]
    exact (List.getElem?_eq_some_iff.mp (er_ws_at (ad := ad) (cI := cI) (cR := cR) (cW := cW) (M := M) hk h)).1
  · rw [List.getElem?_set_ne hn, er_ws, er_ws, List.getElem?_map, List.getElem?_map]
    cases hq : er_objs[n]? with
    | none => rfl
    | some q =>
      have h1 := er_objs_at hq
      simp only [Option.map_some]
      rw [ent_congr (M := M) (M' := M') (k := q.1) (i := q.2) (fun s => hM q.1 q.2 s (fun z => hn (by rw [← z.1, ← z.2]; exact h1.1)))]
theorem er_ws_D (B b tB tF : Nat) (cI cR cW : ClassId) (M : AMem) : va_D (fun q => B ≤ q) (er_ws (er_ad B b tB tF) cI cR cW M) := by
  refine ⟨fun i j p q hi hj hpq => ?_, fun k q hk => ?_⟩
  · rw [er_ws, List.getElem?_map] at hi hj
    cases hx : er_objs[i]? with
    | none => rw [hx] at hi; cases hi
    | some x =>
      cases hy : er_objs[j]? with
      | none => rw [hy] at hj; cases hj
      | some y =>
        rw [hx] at hi
        rw [hy] at hj
        cases hi
        cases hj
        have h1 := er_objs_at hx
        have h2 := er_objs_at hy
        simp only [er_ad_lt h1.2.1, er_ad_lt h2.2.1] at hpq
        omega
  · rw [er_ws, List.getElem?_map] at hk
    cases hx : er_objs[k]? with
    | none => rw [hx] at hk; cases hk
    | some x =>
      rw [hx] at hk
      cases hk
      have h1 := er_objs_at hx
      simp only [er_ad_lt h1.2.1]
      omega
/-- what is so of the start of every method, and never changes: the tables, the script, the two rows of primes -/
def er_S (D : va_G) (cI cR cW : ClassId) (B b L tB tF : Nat) (xs : Nat → Int32) (s : State) : Prop :=
  B ≤ s.heap.size ∧ va_K D er_cl [(cI, .int), (cR, .object RX1), (cW, .object RX2)] s ∧ b < B ∧ va_X b L xs s s.heap ∧
  va_Z RX3 "BASES" "[I" (.ref tB) (fun q => B ≤ q) s s.heap ∧ va_T .int tB 6 (fun j => .int (Int32.ofInt (bas j))) (fun q => B ≤ q) s s.heap ∧
  va_Z RL "FEW" "[I" (.ref tF) (fun q => B ≤ q) s s.heap ∧ va_T .int tF 6 (fun j => .int (Int32.ofInt (bas j))) (fun q => B ≤ q) s s.heap ∧ ∀ w ∈ er_N, va_Nw w s
theorem er_N_warm {s U : State} (hW : s.WarmedH U.vm) (h : ∀ w ∈ er_N, va_Nw w s) : ∀ w ∈ er_N, va_Nw w U := by
  intro w hw
  have h1 := h w hw
  simp only [er_N, List.mem_cons, List.not_mem_nil, or_false] at hw
  rcases hw with rfl | rfl | rfl | rfl | rfl | rfl | rfl | rfl | rfl <;> exact va_Nw.warmF hW h1
theorem er_S_moved {D : va_G} {cI cR cW : ClassId} {B b L tB tF : Nat} {xs : Nat → Int32} {s U : State} (h : er_S D cI cR cW B b L tB tF xs s) (hW : s.WarmedH U.vm) (hz : s.heap.size ≤ U.heap.size) (hk : ∀ q : Nat, q < s.heap.size → ¬ B ≤ q → U.heap[q]? = s.heap[q]?) : er_S D cI cR cW B b L tB tF xs U := by
  obtain ⟨h1, h2, h3, h4, h5, h6, h7, h8, h9⟩ := h
  have hA := hW.alike
  exact ⟨by omega, va_K.moved hA h2, h3, va_X.kept (va_X.moved hA h4) (hk b (by omega) (by omega)), va_Z.kept (va_Z.moved hA h5) hk, va_T.kept (va_T.moved hA h6) hk, va_Z.kept (va_Z.moved hA h7) hk, va_T.kept (va_T.moved hA h8) hk, er_N_warm hW h9⟩
theorem er_S_calling {D : va_G} {cI cR cW : ClassId} {B b L tB tF : Nat} {xs : Nat → Int32} {s : State} (g : JFrame) (mk : MethodId) (a : Array Value) (h : er_S D cI cR cW B b L tB tF xs s) : er_S D cI cR cW B b L tB tF xs (s.calling g mk a) := by
  obtain ⟨h1, h2, h3, h4, h5, h6, h7, h8, h9⟩ := h
  have hA : s.vm.Alike (s.calling g mk a).vm := Vm.Alike.refl s.vm
  exact ⟨h1, va_K.moved hA h2, h3, va_X.moved hA h4, va_Z.moved hA h5, va_T.moved hA h6, va_Z.moved hA h7, va_T.moved hA h8, fun w hw => by
    have h10 := h9 w hw
    simp only [er_N, List.mem_cons, List.not_mem_nil, or_false] at hw
    rcases hw with rfl | rfl | rfl | rfl | rfl | rfl | rfl | rfl | rfl <;> exact va_Nw.same rfl rfl h10⟩
end
section
/-! what a step of each sort says -/
abbrev NX : Type := Nat × ALs × List AV × AMem
theorem aLoadI_inv {len n pc i : Nat} {ls ls' : ALs} {st st' : List AV} {M M' : AMem} {pc' : Nat} (h : aLoadI len n pc i ls st M = some (.inl (pc', ls', st', M'))) : len = n ∧ ∃ z, ls[i]? = some (some (vI z)) ∧ pc' = pc + n ∧ ls' = ls ∧ st' = vI z :: st ∧ M' = M := by
  obtain ⟨h1, h⟩ := if_inv h
  obtain ⟨v, h2, h⟩ := gL_inv h
  obtain ⟨z, r, h3, h⟩ := sI_inv h
  cases h3
  obtain ⟨a, b, c, d⟩ := nx_inv h
  exact ⟨h1, z, h2, a, b, c, d⟩
theorem aLoadL_inv {len n pc i : Nat} {ls ls' : ALs} {st st' : List AV} {M M' : AMem} {pc' : Nat} (h : aLoadL len n pc i ls st M = some (.inl (pc', ls', st', M'))) : len = n ∧ ∃ z, ls[i]? = some (some (vL z)) ∧ pc' = pc + n ∧ ls' = ls ∧ st' = vL z :: st ∧ M' = M := by
  obtain ⟨h1, h⟩ := if_inv h
  obtain ⟨v, h2, h⟩ := gL_inv h
  obtain ⟨z, r, h3, h⟩ := sL_inv h
  cases h3
  obtain ⟨a, b, c, d⟩ := nx_inv h
  exact ⟨h1, z, h2, a, b, c, d⟩
theorem aLoadA_inv {len n pc i : Nat} {ls ls' : ALs} {st st' : List AV} {M M' : AMem} {pc' : Nat} (h : aLoadA len n pc i ls st M = some (.inl (pc', ls', st', M'))) : len = n ∧ ∃ k j, ls[i]? = some (some (vR k j)) ∧ pc' = pc + n ∧ ls' = ls ∧ st' = vR k j :: st ∧ M' = M := by
  obtain ⟨h1, h⟩ := if_inv h
  obtain ⟨v, h2, h⟩ := gL_inv h
  obtain ⟨k, j, r, h3, h⟩ := sA_inv h
  cases h3
  obtain ⟨a, b, c, d⟩ := nx_inv h
  exact ⟨h1, k, j, h2, a, b, c, d⟩
theorem aStoreI_inv {len n pc i : Nat} {ls ls' : ALs} {st st' : List AV} {M M' : AMem} {pc' : Nat} (h : aStoreI len n pc i ls st M = some (.inl (pc', ls', st', M'))) : len = n ∧ stOK ls i = true ∧ ∃ z, st = vI z :: st' ∧ pc' = pc + n ∧ ls' = ls.set i (some (vI z)) ∧ M' = M := by
  obtain ⟨h1, h⟩ := if_inv h
  obtain ⟨z, r, h3, h⟩ := sI_inv h
  obtain ⟨a, b, c, d⟩ := nx_inv h
  exact ⟨h1.1, h1.2, z, by rw [h3, c], a, b, d⟩
theorem aStoreA_inv {len n pc i : Nat} {ls ls' : ALs} {st st' : List AV} {M M' : AMem} {pc' : Nat} (h : aStoreA len n pc i ls st M = some (.inl (pc', ls', st', M'))) : len = n ∧ stOK ls i = true ∧ ∃ k j, st = vR k j :: st' ∧ pc' = pc + n ∧ ls' = ls.set i (some (vR k j)) ∧ M' = M := by
  obtain ⟨h1, h⟩ := if_inv h
  obtain ⟨k, j, r, h3, h⟩ := sA_inv h
  obtain ⟨a, b, c, d⟩ := nx_inv h
  exact ⟨h1.1, h1.2, k, j, by rw [h3, c], a, b, d⟩
theorem aStoreL_inv {len n pc i : Nat} {ls ls' : ALs} {st st' : List AV} {M M' : AMem} {pc' : Nat} (h : aStoreL len n pc i ls st M = some (.inl (pc', ls', st', M'))) : len = n ∧ stOK ls i = true ∧ i + 1 < ls.length ∧ ∃ z, st = vL z :: st' ∧ pc' = pc + n ∧ ls' = (ls.set i (some (vL z))).set (i + 1) none ∧ M' = M := by
  obtain ⟨h1, h⟩ := if_inv h
  obtain ⟨z, r, h3, h⟩ := sL_inv h
  obtain ⟨a, b, c, d⟩ := nx_inv h
  exact ⟨h1.1, h1.2.1, h1.2.2, z, by rw [h3, c], a, b, d⟩
theorem aPush_inv {len n pc : Nat} {v : AV} {ls ls' : ALs} {st st' : List AV} {M M' : AMem} {pc' : Nat} (h : aPush len n pc v ls st M = some (.inl (pc', ls', st', M'))) : len = n ∧ pc' = pc + n ∧ ls' = ls ∧ st' = v :: st ∧ M' = M := by
  obtain ⟨h1, h⟩ := if_inv h
  obtain ⟨a, b, c, d⟩ := nx_inv h
  exact ⟨h1, a, b, c, d⟩
theorem aBin_inv {len pc : Nat} {f : Int → Int → Int} {ls ls' : ALs} {st st' : List AV} {M M' : AMem} {pc' : Nat} (h : aBin len pc f ls st M = some (.inl (pc', ls', st', M'))) : len = 1 ∧ ∃ x y r, st = vI y :: vI x :: r ∧ pc' = pc + 1 ∧ ls' = ls ∧ st' = vI (f x y) :: r ∧ M' = M := by
  obtain ⟨h1, h⟩ := if_inv h
  obtain ⟨y, r, h3, h⟩ := sI_inv h
  obtain ⟨x, q, h4, h⟩ := sI_inv h
  obtain ⟨a, b, c, d⟩ := nx_inv h
  exact ⟨h1, x, y, q, by rw [h3, h4], a, b, c, d⟩
theorem aDiv_inv {len pc : Nat} {f : Int → Int → Int} {ls ls' : ALs} {st st' : List AV} {M M' : AMem} {pc' : Nat} (h : aDiv len pc f ls st M = some (.inl (pc', ls', st', M'))) : len = 1 ∧ ∃ x y r, st = vI y :: vI x :: r ∧ ¬ wI y = 0 ∧ pc' = pc + 1 ∧ ls' = ls ∧ st' = vI (f (wI x) (wI y)) :: r ∧ M' = M := by
  obtain ⟨h1, h⟩ := if_inv h
  obtain ⟨y, r, h3, h⟩ := sI_inv h
  obtain ⟨h5, h⟩ := nif_inv h
  obtain ⟨x, q, h4, h⟩ := sI_inv h
  obtain ⟨a, b, c, d⟩ := nx_inv h
  exact ⟨h1, x, y, q, by rw [h3, h4], h5, a, b, c, d⟩
theorem jmp_eq {pc : Nat} {off : Int} (h : jok pc off = true) : (pc : Int) + off = (jmp pc off : Int) := by
  unfold jok at h
  unfold jmp
  simp only [decide_eq_true_eq] at h
  omega
theorem aBr_inv {len pc : Nat} {off : Int} {bb : Bool} {ls ls' : ALs} {st st' : List AV} {M M' : AMem} {pc' : Nat} (h : aBr len pc off bb ls st M = some (.inl (pc', ls', st', M'))) : len = 3 ∧ (pc : Int) + off = (jmp pc off : Int) ∧ pc' = (if bb = true then jmp pc off else pc + 3) ∧ ls' = ls ∧ st' = st ∧ M' = M := by
  obtain ⟨h1, h⟩ := if_inv h
  cases bb with
  | true =>
    obtain ⟨a, b, c, d⟩ := nx_inv h
    exact ⟨h1.1, jmp_eq h1.2, a, b, c, d⟩
  | false =>
    obtain ⟨a, b, c, d⟩ := nx_inv h
    exact ⟨h1.1, jmp_eq h1.2, a, b, c, d⟩
theorem aSwT_inv {pc : Nat} {dflt lo hi : Int} {offs : Array Int} {ls ls' : ALs} {st st' : List AV} {M M' : AMem} {pc' : Nat} (h : aSwT pc dflt lo hi offs ls st M = some (.inl (pc', ls', st', M'))) : ∃ z, st = vI z :: st' ∧ ls' = ls ∧ M' = M ∧ (((wI z < lo ∨ hi < wI z) ∧ (pc : Int) + dflt = (pc' : Int)) ∨ (¬ (wI z < lo ∨ hi < wI z) ∧ ∃ off, offs[(wI z - lo).toNat]? = some off ∧ (pc : Int) + off = (pc' : Int))) := by
  obtain ⟨z, r, h3, h⟩ := sI_inv h
  split at h
  · rename_i hc
    obtain ⟨h1, h⟩ := if_inv h
    obtain ⟨a, b, c, d⟩ := nx_inv h
    exact ⟨z, by rw [h3, c], b, d, Or.inl ⟨hc, by rw [a]; exact jmp_eq h1⟩⟩
  · rename_i hc
    obtain ⟨off, h2, h⟩ := oG_inv h
    obtain ⟨h1, h⟩ := if_inv h
    obtain ⟨a, b, c, d⟩ := nx_inv h
    exact ⟨z, by rw [h3, c], b, d, Or.inr ⟨hc, off, h2, by rw [a]; exact jmp_eq h1⟩⟩
theorem aSwL_inv {pc : Nat} {dflt : Int} {ps : Array (Int × Int)} {ls ls' : ALs} {st st' : List AV} {M M' : AMem} {pc' : Nat} (h : aSwL pc dflt ps ls st M = some (.inl (pc', ls', st', M'))) : (ps.toList.zip (ps.toList.drop 1)).all (fun (a, next) => a.1 < next.1) = true ∧ ∃ z, st = vI z :: st' ∧ ls' = ls ∧ M' = M ∧ (pc : Int) + Op.lookupswitch.offset ps.toList dflt (wI z) = (pc' : Int) := by
  obtain ⟨h1, h⟩ := if_inv h
  obtain ⟨z, r, h3, h⟩ := sI_inv h
  obtain ⟨h2, h⟩ := if_inv h
  obtain ⟨a, b, c, d⟩ := nx_inv h
  exact ⟨h1, z, by rw [h3, c], b, d, by rw [a]; exact jmp_eq h2⟩
/-- the script, as the memory has it -/
def scrM (L : Nat) (xs : Nat → Int32) (M : AMem) : Prop := M 9 1 0 = L ∧ ∀ j : Nat, j < L → Int32.ofInt (M 9 0 j) = xs j
theorem scrM_aup {L : Nat} {xs : Nat → Int32} {M : AMem} (k i j : Nat) (z : Int) (hk : k ≠ 9) (h : scrM L xs M) : scrM L xs (aup M k i j z) := by
  unfold scrM aup at *
  refine ⟨?_, fun q hq => ?_⟩
  · rw [if_neg (fun x => hk x.1.symm)]
    exact h.1
  · rw [if_neg (fun x => hk x.1.symm)]
    exact h.2 q hq
theorem scrM_acopy {L : Nat} {xs : Nat → Int32} {M : AMem} (k i j n : Nat) (hk : k ≠ 9) (h : scrM L xs M) : scrM L xs (acopy M k i j n) := by
  unfold scrM acopy at *
  refine ⟨?_, fun q hq => ?_⟩
  · rw [if_neg (fun x => hk x.1.symm)]
    exact h.1
  · rw [if_neg (fun x => hk x.1.symm)]
    exact h.2 q hq
theorem aup_out {M : AMem} {k i j : Nat} {z : Int} (k' i' q : Nat) (h : k' = k ∧ i' = i → False) : aup M k i j z k' i' q = M k' i' q := by
  unfold aup
  exact if_neg (fun x => h ⟨x.1, x.2.1⟩)
theorem acopy_out {M : AMem} {k i j n : Nat} (k' i' q : Nat) (h : k' = k ∧ i' = j → False) : acopy M k i j n k' i' q = M k' i' q := by
  unfold acopy
  exact if_neg (fun x => h ⟨x.1, x.2.1⟩)
theorem aBlt_inv {len pc bb : Nat} {ls ls' : ALs} {st st' : List AV} {M M' : AMem} {pc' : Nat} (h : aBlt len pc bb ls st M = some (.inl (pc', ls', st', M'))) : len = 3 ∧ (st.map acat).sum ≤ 8 ∧ pc' = pc + 3 ∧ ls' = ls ∧
    ((bb = 0 ∧ ∃ x y r, st = vI y :: vI x :: r ∧ st' = vI (if wI x < wI y then y else x) :: r ∧ M' = M) ∨ (bb = 1 ∧ ∃ x y r, st = vI y :: vI x :: r ∧ st' = vI (if wI y < wI x then y else x) :: r ∧ M' = M) ∨
     (¬ bb = 0 ∧ ¬ bb = 1 ∧ ∃ n k i j, st = vI n :: vI 0 :: vR k j :: vI 0 :: vR k i :: st' ∧ okH k j = true ∧ okH k i = true ∧ (k = 4 ∨ k = 5) ∧ 0 ≤ n ∧ n.toNat ≤ alen k M ∧ M' = acopy M k i j n.toNat)) := by
  obtain ⟨h1, h⟩ := if_inv h
  refine ⟨h1.1, h1.2, ?_⟩
  split at h
  · obtain ⟨y, r, h3, h⟩ := sI_inv h
    obtain ⟨x, q, h4, h⟩ := sI_inv h
    obtain ⟨a, b, c, d⟩ := nx_inv h
    exact ⟨a, b, Or.inl ⟨rfl, x, y, q, by rw [h3, h4], c, d⟩⟩
  · obtain ⟨y, r, h3, h⟩ := sI_inv h
    obtain ⟨x, q, h4, h⟩ := sI_inv h
    obtain ⟨a, b, c, d⟩ := nx_inv h
    exact ⟨a, b, Or.inr (Or.inl ⟨rfl, x, y, q, by rw [h3, h4], c, d⟩)⟩
  · rename_i hb0 hb1
    obtain ⟨n, r1, h3, h⟩ := sI_inv h
    obtain ⟨dp, r2, h4, h⟩ := sI_inv h
    obtain ⟨k, j, r3, h5, o1, h⟩ := sR_inv h
    obtain ⟨sp, r4, h6, h⟩ := sI_inv h
    obtain ⟨k', i, r5, h7, o2, h⟩ := sR_inv h
    obtain ⟨hc, h⟩ := if_inv h
    obtain ⟨a, b, c, d⟩ := nx_inv h
    obtain ⟨e1, e2, e3, hk, hn, hln⟩ := hc
    subst e1; subst e2; subst e3
    exact ⟨a, b, Or.inr (Or.inr ⟨fun z => hb0 z, fun z => hb1 z, n, k', i, j, by rw [h3, h4, h5, h6, h7, c], o1, o2, hk, hn, hln, d⟩)⟩
end
section
theorem i_eq0 (a : Int) : Int32.ofInt a = 0 ↔ wI a = 0 := i_eq a 0
theorem i_lt0 (a : Int) : Int32.ofInt a < 0 ↔ wI a < 0 := i_lt a 0
theorem i_ge0 (a : Int) : 0 ≤ Int32.ofInt a ↔ 0 ≤ wI a := i_le 0 a
theorem i_gt0 (a : Int) : 0 < Int32.ofInt a ↔ 0 < wI a := i_lt 0 a
theorem i_le0 (a : Int) : Int32.ofInt a ≤ 0 ↔ wI a ≤ 0 := i_le a 0
theorem in_er0 : ∀ q ∈ u_ws (cN 0) (tT 0) (nF 0), q ∈ er_G := fun q hq => List.mem_filter.mpr ⟨in_wsX00 q hq, (by decide +kernel : ∀ q ∈ u_ws (cN 0) (tT 0) (nF 0), goodWord q = true) q hq⟩
theorem in_er1 : ∀ q ∈ u_ws (cN 1) (tT 1) (nF 1), q ∈ er_G := fun q hq => List.mem_filter.mpr ⟨in_wsX10 q hq, (by decide +kernel : ∀ q ∈ u_ws (cN 1) (tT 1) (nF 1), goodWord q = true) q hq⟩
theorem in_er2 : ∀ q ∈ u_ws (cN 2) (tT 2) (nF 2), q ∈ er_G := fun q hq => List.mem_filter.mpr ⟨in_wsX20 q hq, (by decide +kernel : ∀ q ∈ u_ws (cN 2) (tT 2) (nF 2), goodWord q = true) q hq⟩
theorem in_er3 : ∀ q ∈ u_ws (cN 3) (tT 3) (nF 3), q ∈ er_G := fun q hq => List.mem_filter.mpr ⟨in_wsX30 q hq, (by decide +kernel : ∀ q ∈ u_ws (cN 3) (tT 3) (nF 3), goodWord q = true) q hq⟩
theorem in_er {k : Nat} (h : k < 4) : ∀ q ∈ u_ws (cN k) (tT k) (nF k), q ∈ er_G := by
  rcases (show k = 0 ∨ k = 1 ∨ k = 2 ∨ k = 3 by omega) with rfl | rfl | rfl | rfl
  · exact in_er0
  · exact in_er1
  · exact in_er2
  · exact in_er3
def er_ty (k : Nat) : Nat → FieldType := match k with
  | 0 => tyX0
  | 1 => tyX1
  | 2 => tyX2
  | _ => tyX3
theorem er_ty_ok {k : Nat} (h : k < 4) : ∀ j, j < nF k → parseFieldDescriptor (tT k j).2.2.1 = some (er_ty k j) := by
  rcases (show k = 0 ∨ k = 1 ∨ k = 2 ∨ k = 3 by omega) with rfl | rfl | rfl | rfl
  · exact tyX0_ok
  · exact tyX1_ok
  · exact tyX2_ok
  · exact tyX3_ok
theorem er_nm {k : Nat} (h : k < 4) : ∀ a, a < nF k → ∀ b, b < nF k → a ≠ b → (tT k a).2.1 ≠ (tT k b).2.1 := by
  rcases (show k = 0 ∨ k = 1 ∨ k = 2 ∨ k = 3 by omega) with rfl | rfl | rfl | rfl
  · exact nmX0
  · exact nmX1
  · exact nmX2
  · exact nmX3
theorem er_cl_at {k : Nat} (h : k < 4) : er_cl[k]? = some (cN k, tT k, nF k) := by
  rcases (show k = 0 ∨ k = 1 ∨ k = 2 ∨ k = 3 by omega) with rfl | rfl | rfl | rfl <;> rfl
/-- an int field is not final, and of type int or boolean -/
theorem fint_ok : ∀ k, k < 4 → ∀ j, j < nF k → fint k j = true → ((tT k j).2.2.2 = false ∧ (er_ty k j = .int ∨ (er_ty k j = .boolean ∧ k = 2 ∧ j = 4))) := by decide +kernel
theorem fint_lt {k j : Nat} (hk : k < 4) (h : fint k j = true) : j < nF k := by
  unfold fint at h
  split at h <;> first | decide | cases h
theorem fint_val {k i j : Nat} {M : AMem} (h : fint k j = true) : fval k i j M = vI (M k i j) := by
  unfold fint at h
  split at h <;> first | rfl | cases h
theorem fs_at {ad : Nat → Nat → Nat} {k i j : Nat} {M : AMem} (h : j < nF k) : ((List.range (nF k)).map (fun s => tv ad (fval k i s M)))[j]? = some (tv ad (fval k i j M)) := by
  rw [List.getElem?_map, List.getElem?_range h]
  rfl
theorem fs_set {ad : Nat → Nat → Nat} {k i j : Nat} {M : AMem} {z : Int} (h : fint k j = true) : ((List.range (nF k)).map (fun s => tv ad (fval k i s M))).set j (.int (Int32.ofInt z)) = (List.range (nF k)).map (fun s => tv ad (fval k i s (aup M k i j z))) := by
  apply List.ext_getElem?
  intro n
  by_cases hn : j = n
  · subst hn
    by_cases hl : j < nF k
    · rw [List.getElem?_set_self (by simpa using hl), List.getElem?_map, List.getElem?_range hl]
      simp only [Option.map_some]
      rw [fint_val h, tv_I]
      unfold aup
      rw [if_pos ⟨rfl, rfl, rfl⟩]
    · rw [List.getElem?_eq_none (by simpa using Nat.not_lt.mp hl), List.getElem?_eq_none (by simpa using Nat.not_lt.mp hl)]
  · rw [List.getElem?_set_ne hn, List.getElem?_map, List.getElem?_map]
    cases hr : (List.range (nF k))[n]? with
    | none => rfl
    | some q =>
      have hq : q = n := by
        have h1 := (List.getElem?_eq_some_iff.mp hr)
        obtain ⟨h2, h3⟩ := h1
        rw [List.getElem_range] at h3
        exact h3.symm
      subst hq
      simp only [Option.map_some]
      congr 2
      unfold fval
      split <;> first | rfl | (unfold aup; rw [if_neg (fun x => hn x.2.2.symm)])
/-- the tables' words of the natives, the statics and the longs -/
theorem w_max : Cond.static Lib.Math.max.name ∈ er_G ∧ Cond.initialized "java/lang/Math" ∈ er_G ∧ Cond.code Lib.Math.max.name Lib.Math.max.code 2 (some .int) ∈ er_G := ⟨er_in 394 (by decide +kernel) rfl, er_in 30 (by decide +kernel) rfl, er_in 395 (by decide +kernel) rfl⟩
theorem w_min : Cond.static Lib.Math.min.name ∈ er_G ∧ Cond.code Lib.Math.min.name Lib.Math.min.code 2 (some .int) ∈ er_G := ⟨er_in 258 (by decide +kernel) rfl, er_in 259 (by decide +kernel) rfl⟩
theorem w_cpy : Cond.native arraycopyName ∈ er_G ∧ Cond.static arraycopyName ∈ er_G ∧ Cond.initialized "java/lang/System" ∈ er_G := ⟨er_in 278 (by decide +kernel) rfl, er_in 277 (by decide +kernel) rfl, er_in 29 (by decide +kernel) rfl⟩
theorem w_blt {c i bb : Nat} (h : bltT c i = some bb) : (bb = 0 ∧ Cond.methodLink (cN c) i Lib.Math.max.name ∈ er_G) ∨ (bb = 1 ∧ Cond.methodLink (cN c) i Lib.Math.min.name ∈ er_G) ∨ (bb = 2 ∧ Cond.methodLink (cN c) i arraycopyName ∈ er_G) := by
  have h1 := er_find_mem h
  simp only [List.mem_cons, List.not_mem_nil, or_false, Prod.mk.injEq] at h1
  rcases h1 with ⟨rfl, rfl, rfl⟩ | ⟨rfl, rfl, rfl⟩ | ⟨rfl, rfl, rfl⟩ | ⟨rfl, rfl, rfl⟩ | ⟨rfl, rfl, rfl⟩ | ⟨rfl, rfl, rfl⟩
  · exact Or.inl ⟨rfl, er_in 393 (by decide +kernel) rfl⟩
  · exact Or.inl ⟨rfl, er_in 625 (by decide +kernel) rfl⟩
  · exact Or.inr (Or.inl ⟨rfl, er_in 257 (by decide +kernel) rfl⟩)
  · exact Or.inr (Or.inl ⟨rfl, er_in 651 (by decide +kernel) rfl⟩)
  · exact Or.inr (Or.inr ⟨rfl, er_in 276 (by decide +kernel) rfl⟩)
  · exact Or.inr (Or.inr ⟨rfl, er_in 283 (by decide +kernel) rfl⟩)
theorem w_lon {c i : Nat} {z : Int} (h : lonT c i = some z) : Cond.constantLong (cN c) i (Int64.ofInt z) ∈ er_G := by
  have h1 := er_find_mem h
  simp only [List.mem_cons, List.not_mem_nil, or_false, Prod.mk.injEq] at h1
  rcases h1 with ⟨rfl, rfl, rfl⟩ | ⟨rfl, rfl, rfl⟩
  · exact er_in 577 (by decide +kernel) rfl
  · exact er_in 578 (by decide +kernel) rfl
theorem w_sta {c i k : Nat} (h : staT c i = some k) : (k = 10 ∧ Cond.fieldLinkNest (cN c) i "Endlessrows" "BASES" "[I" "Endlessrows" ∈ er_N) ∨ (k = 11 ∧ Cond.fieldLink (cN c) i "EndlessrowsLaw" "FEW" "[I" ∈ er_G) := by
  have h1 := er_find_mem h
  simp only [List.mem_cons, List.not_mem_nil, or_false, Prod.mk.injEq] at h1
  rcases h1 with ⟨rfl, rfl, rfl⟩ | ⟨rfl, rfl, rfl⟩
  · exact Or.inl ⟨rfl, List.mem_of_getElem? (i := 8) rfl⟩
  · exact Or.inr ⟨rfl, er_in 655 (by decide +kernel) rfl⟩
/-- a method's frame: the machine, its code, the words, the room -/
def er_C (D : va_G) (cI cR cW : ClassId) (B b L tB tF : Nat) (xs : Nat → Int32) (Y : MT) (p : Program) (R : Room) (s : State) (m : MethodId) (args : Array Value) (meth : Method) (c : Code) (cells slots : Nat) : Prop :=
  p.tables.exec = Jvm.exec ∧ c.code = mtC Y ∧ meth.sig.returnType = mtR Y ∧ c.maxLocals = mtL Y ∧ s.vm.findClass (cN (mtK Y)) = some m.cls ∧ (∀ w ∈ er_G, w.before args s = true) ∧ er_S D cI cR cW B b L tB tF xs s ∧ cells ≤ R.cells ∧ slots ≤ R.slots ∧ 1 ≤ R.frames ∧ 400 ≤ R.locals
section SIM
variable {p : Program} {l : Launch} {e : Env} {R : Room} {s : State} {m : MethodId} {args : Array Value} {below : List Frame} {meth : Method} {c : Code} {H : Heap} {locs : List Loc} {cells slots : Nat} {Q : State → Prop}
variable {D : va_G} {cI cR cW : ClassId} {B b L tB tF : Nat} {xs : Nat → Int32}
/-- what is left to show behind a step -/
abbrev KN (D : va_G) (cI cR cW : ClassId) (B b L tB tF : Nat) (xs : Nat → Int32) (Y : MT) (p : Program) (l : Launch) (e : Env) (R : Room) (s : State) (m : MethodId) (args : Array Value) (below : List Frame) (meth : Method) (c : Code) (cells slots : Nat) (Q : State → Prop) (pc : Nat) (ls : ALs) (st : List AV) (M : AMem) : Prop :=
  ∀ (H' : Heap) (locs' : List Loc) (lj' : Array Slot), va_P D er_cl (er_ws (er_ad B b tB tF) cI cR cW M) H' → va_S (fun q => B ≤ q) s.heap H' locs' → lsR (er_ad B b tB tF) ls (mtL Y) lj' → scrM L xs M → W p l e R s m args below meth c H' locs' cells slots Q (F0 m pc lj' (st.map (tv (er_ad B b tB tF))))
set_option maxHeartbeats 4000000 in
set_option maxRecDepth 100000 in
theorem step_next {Y : MT} {ins : ClassFile.Instr} {len pc pc' : Nat} {ls ls' : ALs} {st st' : List AV} {M M' : AMem} {lj : Array Slot}
    (C0 : er_C D cI cR cW B b L tB tF xs Y p R s m args meth c cells slots) (hd : decode (mtC Y) pc = .ok (ins, len)) (h : ex1 Y ins len pc ls st M = some (.inl (pc', ls', st', M')))
    (hP : va_P D er_cl (er_ws (er_ad B b tB tF) cI cR cW M) H) (hS : va_S (fun q => B ≤ q) s.heap H locs) (hl : lsR (er_ad B b tB tF) ls (mtL Y) lj) (hM : scrM L xs M)
    (k : KN D cI cR cW B b L tB tF xs Y p l e R s m args below meth c cells slots Q pc' ls' st' M') : W p l e R s m args below meth c H locs cells slots Q (F0 m pc lj (st.map (tv (er_ad B b tB tF)))) := by
  obtain ⟨hx, hb, hr, hml, hown, hts, hS0, hcl, hsl, hfr, hlo⟩ := C0
  have hS0' := hS0
  obtain ⟨hBs, hK, hbB, hX, hZ1, hT1, hZ2, hT2, hN⟩ := hS0'
  have hD := er_ws_D B b tB tF cI cR cW M
  cases ins
  case iconst n =>
    obtain ⟨rfl, rfl, rfl, rfl, rfl⟩ := aPush_inv h
    exact lv_iconst hx hb hd rfl (k _ _ _ hP hS hl hM)
  case bipush n =>
    obtain ⟨hc, h⟩ := if_inv h
    obtain ⟨rfl, rfl, rfl, rfl, rfl⟩ := aPush_inv h
    refine lv_bipush hx hb hd (v := Int32.ofInt n) ?_ (k _ _ _ hP hS hl hM)
    rw [← Int32.toInt_inj, Int8.toInt_toInt32, Int8.toInt_ofInt_of_le (by omega) (by omega), i_toInt, wI_eq (by omega) (by omega)]
  case sipush n =>
    obtain ⟨hc, h⟩ := if_inv h
    obtain ⟨rfl, rfl, rfl, rfl, rfl⟩ := aPush_inv h
    refine lv_sipush hx hb hd (v := Int32.ofInt n) ?_ (k _ _ _ hP hS hl hM)
    rw [← Int32.toInt_inj, Int16.toInt_toInt32, Int16.toInt_ofInt_of_le (by omega) (by omega), i_toInt, wI_eq (by omega) (by omega)]
  case ldc i =>
    obtain ⟨z, hz, h⟩ := oG_inv h
    obtain ⟨rfl, rfl, rfl, rfl, rfl⟩ := aPush_inv h
    exact lv_ldc hx hb hown (hts _ (er_csts_ok _ (er_find_mem hz))) hd (k _ _ _ hP hS hl hM)
  case ldc_w i =>
    obtain ⟨z, hz, h⟩ := oG_inv h
    obtain ⟨rfl, rfl, rfl, rfl, rfl⟩ := aPush_inv h
    exact lv_ldcw hx hb hown (hts _ (er_csts_ok _ (er_find_mem hz))) hd (k _ _ _ hP hS hl hM)
  case ldc2_w i =>
    obtain ⟨z, hz, h⟩ := oG_inv h
    obtain ⟨rfl, rfl, rfl, rfl, rfl⟩ := aPush_inv h
    exact lv_ldc2 hx hb hown (hts _ (w_lon hz)) hd (k _ _ _ hP hS hl hM)
  case iload i =>
    obtain ⟨rfl, z, hv, rfl, rfl, rfl, rfl⟩ := aLoadI_inv h
    exact lv_iload hx hb hd (lsR_at hl hv) (k _ _ _ hP hS hl hM)
  case iload_n i =>
    obtain ⟨rfl, z, hv, rfl, rfl, rfl, rfl⟩ := aLoadI_inv h
    exact lv_iload_n hx hb hd rfl (lsR_at hl hv) (k _ _ _ hP hS hl hM)
  case lload i =>
    obtain ⟨rfl, z, hv, rfl, rfl, rfl, rfl⟩ := aLoadL_inv h
    exact lv_lload hx hb hd (lsR_at hl hv) (k _ _ _ hP hS hl hM)
  case lload_n i =>
    obtain ⟨rfl, z, hv, rfl, rfl, rfl, rfl⟩ := aLoadL_inv h
    exact lv_lload_n hx hb hd rfl (lsR_at hl hv) (k _ _ _ hP hS hl hM)
  case aload i =>
    obtain ⟨rfl, q, j, hv, rfl, rfl, rfl, rfl⟩ := aLoadA_inv h
    exact lv_aload hx hb hd (lsR_at hl hv) (k _ _ _ hP hS hl hM)
  case aload_n i =>
    obtain ⟨rfl, q, j, hv, rfl, rfl, rfl, rfl⟩ := aLoadA_inv h
    exact lv_aload_n hx hb hd rfl (lsR_at hl hv) (k _ _ _ hP hS hl hM)
  case istore i =>
    obtain ⟨rfl, hok, z, rfl, rfl, rfl, rfl⟩ := aStoreI_inv h
    exact lv_istore hx hb hd hl.2 (by have h7 := hl.1; simp only [stOK, Bool.and_eq_true, decide_eq_true_eq] at hok; omega) rfl (fun lj' hl' => k _ _ _ hP hS (lsR_set hl.1 hok hl') hM)
  case istore_n i =>
    obtain ⟨rfl, hok, z, rfl, rfl, rfl, rfl⟩ := aStoreI_inv h
    exact lv_istore_n hx hb hd rfl hl.2 (by have h7 := hl.1; simp only [stOK, Bool.and_eq_true, decide_eq_true_eq] at hok; omega) rfl (fun lj' hl' => k _ _ _ hP hS (lsR_set hl.1 hok hl') hM)
  case astore i =>
    obtain ⟨rfl, hok, q, j, rfl, rfl, rfl, rfl⟩ := aStoreA_inv h
    exact lv_astore hx hb hd hl.2 (by have h7 := hl.1; simp only [stOK, Bool.and_eq_true, decide_eq_true_eq] at hok; omega) rfl (fun lj' hl' => k _ _ _ hP hS (lsR_set hl.1 hok hl') hM)
  case astore_n i =>
    obtain ⟨rfl, hok, q, j, rfl, rfl, rfl, rfl⟩ := aStoreA_inv h
    exact lv_astore_n hx hb hd rfl hl.2 (by have h7 := hl.1; simp only [stOK, Bool.and_eq_true, decide_eq_true_eq] at hok; omega) rfl (fun lj' hl' => k _ _ _ hP hS (lsR_set hl.1 hok hl') hM)
  case lstore i =>
    obtain ⟨rfl, hok, hi, z, rfl, rfl, rfl, rfl⟩ := aStoreL_inv h
    exact lv_lstore hx hb hd hl.2 (by have h7 := hl.1; omega) rfl (fun lj' hl' => k _ _ _ hP hS (lsR_set2 hl.1 hok hl') hM)
  case lstore_n i =>
    obtain ⟨rfl, hok, hi, z, rfl, rfl, rfl, rfl⟩ := aStoreL_inv h
    exact lv_lstore_n hx hb hd rfl hl.2 (by have h7 := hl.1; omega) rfl (fun lj' hl' => k _ _ _ hP hS (lsR_set2 hl.1 hok hl') hM)
  case iinc i n =>
    obtain ⟨hc0, h1⟩ := if_inv h
    clear h
    obtain ⟨hlen, hok⟩ := hc0
    have h := h1
    clear h1
    subst hlen
    obtain ⟨v, hv, h⟩ := gL_inv h
    obtain ⟨z, r, h3, h⟩ := sI_inv h
    cases h3
    obtain ⟨rfl, rfl, rfl, rfl⟩ := nx_inv h
    obtain ⟨kk, hkk⟩ := List.getElem?_of_mem (mem_lpr.mpr ⟨vI z, Nat.zero_le i, hv, rfl⟩ : (i, tv (er_ad B b tB tF) (vI z)) ∈ lpr (er_ad B b tB tF) 0 ls)
    exact lv_iinc hx hb hd hl.2 (k := kk) hkk (Int32.ofInt_add z n).symm (by have h7 := hl.1; simp only [stOK, Bool.and_eq_true, decide_eq_true_eq] at hok; omega) rfl (fun lj' hl' => k _ _ _ hP hS (lsR_set (v := vI (z + n)) hl.1 hok hl') hM)
  case iadd =>
    obtain ⟨rfl, x, y, r, rfl, rfl, rfl, rfl, rfl⟩ := aBin_inv h
    have k1 := k _ _ _ hP hS hl hM
    simp only [List.map_cons, tv_I, Int32.ofInt_add] at k1 ⊢
    exact lv_iadd hx hb hd k1
  case isub =>
    obtain ⟨rfl, x, y, r, rfl, rfl, rfl, rfl, rfl⟩ := aBin_inv h
    have k1 := k _ _ _ hP hS hl hM
    simp only [List.map_cons, tv_I, Int32.ofInt_sub] at k1 ⊢
    exact lv_isub hx hb hd k1
  case imul =>
    obtain ⟨rfl, x, y, r, rfl, rfl, rfl, rfl, rfl⟩ := aBin_inv h
    have k1 := k _ _ _ hP hS hl hM
    simp only [List.map_cons, tv_I, Int32.ofInt_mul] at k1 ⊢
    exact lv_imul hx hb hd k1
  case iand =>
    obtain ⟨rfl, x, y, r, rfl, rfl, rfl, rfl, rfl⟩ := aBin_inv h
    have k1 := k _ _ _ hP hS hl hM
    simp only [List.map_cons, tv_I, opAnd, i_of] at k1 ⊢
    exact lv_iand hx hb hd k1
  case ixor =>
    obtain ⟨rfl, x, y, r, rfl, rfl, rfl, rfl, rfl⟩ := aBin_inv h
    have k1 := k _ _ _ hP hS hl hM
    simp only [List.map_cons, tv_I, opXor, i_of] at k1 ⊢
    exact lv_ixor hx hb hd k1
  case ishr =>
    obtain ⟨rfl, x, y, r, rfl, rfl, rfl, rfl, rfl⟩ := aBin_inv h
    have k1 := k _ _ _ hP hS hl hM
    simp only [List.map_cons, tv_I, opShr, i_of] at k1 ⊢
    exact lv_ishr hx hb hd k1
  case iushr =>
    obtain ⟨rfl, x, y, r, rfl, rfl, rfl, rfl, rfl⟩ := aBin_inv h
    have k1 := k _ _ _ hP hS hl hM
    simp only [List.map_cons, tv_I, opUshr, i_of] at k1 ⊢
    exact lv_iushr hx hb hd rfl k1
  case idiv =>
    obtain ⟨rfl, x, y, r, rfl, hy, rfl, rfl, rfl, rfl⟩ := aDiv_inv h
    have k1 := k _ _ _ hP hS hl hM
    simp only [List.map_cons, tv_I] at k1 ⊢
    rw [← i_div] at k1
    exact lv_idiv hx hb hd (fun q => hy (by have q2 := (i_eq y 0).mp q; rw [q2]; rfl)) k1
  case irem =>
    obtain ⟨rfl, x, y, r, rfl, hy, rfl, rfl, rfl, rfl⟩ := aDiv_inv h
    have k1 := k _ _ _ hP hS hl hM
    simp only [List.map_cons, tv_I] at k1 ⊢
    rw [← i_rem] at k1
    exact lv_irem hx hb hd (fun q => hy (by have q2 := (i_eq y 0).mp q; rw [q2]; rfl)) k1
  case i2l =>
    obtain ⟨rfl, h⟩ := if_inv h
    obtain ⟨z, r, rfl, h⟩ := sI_inv h
    obtain ⟨rfl, rfl, rfl, rfl⟩ := nx_inv h
    exact lv_i2l hx hb hd (i_l z) (k _ _ _ hP hS hl hM)
  case ladd =>
    obtain ⟨rfl, h⟩ := if_inv h
    obtain ⟨y, r, rfl, h⟩ := sL_inv h
    obtain ⟨x, r, rfl, h⟩ := sL_inv h
    obtain ⟨rfl, rfl, rfl, rfl⟩ := nx_inv h
    have k1 := k _ _ _ hP hS hl hM
    simp only [List.map_cons, tv_L, Int64.ofInt_add] at k1 ⊢
    exact lv_ladd hx hb hd k1
  case lmul =>
    obtain ⟨rfl, h⟩ := if_inv h
    obtain ⟨y, r, rfl, h⟩ := sL_inv h
    obtain ⟨x, r, rfl, h⟩ := sL_inv h
    obtain ⟨rfl, rfl, rfl, rfl⟩ := nx_inv h
    have k1 := k _ _ _ hP hS hl hM
    simp only [List.map_cons, tv_L, Int64.ofInt_mul] at k1 ⊢
    exact lv_lmul hx hb hd k1
  case lcmp =>
    obtain ⟨rfl, h⟩ := if_inv h
    obtain ⟨y, r, rfl, h⟩ := sL_inv h
    obtain ⟨x, r, rfl, h⟩ := sL_inv h
    obtain ⟨rfl, rfl, rfl, rfl⟩ := nx_inv h
    have k1 := k _ _ _ hP hS hl hM
    simp only [List.map_cons, tv_L, tv_I, ← i_cmp] at k1 ⊢
    exact W.lcmp hx hb hd k1
  case dup =>
    obtain ⟨rfl, h⟩ := if_inv h
    obtain ⟨v, r, rfl, h⟩ := sV_inv h
    obtain ⟨hc, h⟩ := if_inv h
    obtain ⟨rfl, rfl, rfl, rfl⟩ := nx_inv h
    exact lv_dup hx hb hd (by rw [tv_cat]; exact hc) (k _ _ _ hP hS hl hM)
  case pop =>
    obtain ⟨rfl, h⟩ := if_inv h
    obtain ⟨v, r, rfl, h⟩ := sV_inv h
    obtain ⟨hc, h⟩ := if_inv h
    obtain ⟨rfl, rfl, rfl, rfl⟩ := nx_inv h
    exact lv_pop hx hb hd (by rw [tv_cat]; exact hc) (k _ _ _ hP hS hl hM)
  case ifCond cc off =>
    obtain ⟨x, r, rfl, h⟩ := sI_inv h
    obtain ⟨rfl, ht, rfl, rfl, rfl, rfl⟩ := aBr_inv h
    have kt : cmpB cc (wI x) 0 = true → W p l e R s m args below meth c H locs cells slots Q (F0 m (jmp pc off) lj (List.map (tv (er_ad B b tB tF)) st')) := fun q => by
      have k1 := k _ _ _ hP hS hl hM
      rw [if_pos q] at k1
      exact k1
    have kf : ¬ cmpB cc (wI x) 0 = true → W p l e R s m args below meth c H locs cells slots Q (F0 m (pc + 3) lj (List.map (tv (er_ad B b tB tF)) st')) := fun q => by
      have k1 := k _ _ _ hP hS hl hM
      rw [if_neg q] at k1
      exact k1
    cases cc
    case eq => exact lv_if_eq hx hb hd ht (fun q => kt (decide_eq_true ((i_eq0 x).mp q))) (fun q => kf (fun z => q ((i_eq0 x).mpr (of_decide_eq_true z))))
    case ne => exact lv_if_ne hx hb hd ht (fun q => kt (decide_eq_true ((not_congr (i_eq0 x)).mp q))) (fun q => kf (fun z => absurd ((i_eq0 x).mp q) (of_decide_eq_true z)))
    case lt => exact lv_if_lt hx hb hd ht (fun q => kt (decide_eq_true ((i_lt0 x).mp q))) (fun q => kf (fun z => q ((i_lt0 x).mpr (of_decide_eq_true z))))
    case ge => exact lv_if_ge hx hb hd ht (fun q => kt (decide_eq_true ((i_ge0 x).mp q))) (fun q => kf (fun z => q ((i_ge0 x).mpr (of_decide_eq_true z))))
    case gt => exact lv_if_gt hx hb hd ht (fun q => kt (decide_eq_true ((i_gt0 x).mp q))) (fun q => kf (fun z => q ((i_gt0 x).mpr (of_decide_eq_true z))))
    case le => exact lv_if_le hx hb hd ht (fun q => kt (decide_eq_true ((i_le0 x).mp q))) (fun q => kf (fun z => q ((i_le0 x).mpr (of_decide_eq_true z))))
  case if_icmp cc off =>
    obtain ⟨y, r, rfl, h⟩ := sI_inv h
    obtain ⟨x, r, rfl, h⟩ := sI_inv h
    obtain ⟨rfl, ht, rfl, rfl, rfl, rfl⟩ := aBr_inv h
    have kt : cmpB cc (wI x) (wI y) = true → W p l e R s m args below meth c H locs cells slots Q (F0 m (jmp pc off) lj (List.map (tv (er_ad B b tB tF)) st')) := fun q => by
      have k1 := k _ _ _ hP hS hl hM
      rw [if_pos q] at k1
      exact k1
    have kf : ¬ cmpB cc (wI x) (wI y) = true → W p l e R s m args below meth c H locs cells slots Q (F0 m (pc + 3) lj (List.map (tv (er_ad B b tB tF)) st')) := fun q => by
      have k1 := k _ _ _ hP hS hl hM
      rw [if_neg q] at k1
      exact k1
    cases cc
    case eq => exact lv_icmp_eq hx hb hd ht (fun q => kt (decide_eq_true ((i_eq x y).mp q))) (fun q => kf (fun z => q ((i_eq x y).mpr (of_decide_eq_true z))))
    case ne => exact lv_icmp_ne hx hb hd ht (fun q => kt (decide_eq_true ((not_congr (i_eq x y)).mp q))) (fun q => kf (fun z => absurd ((i_eq x y).mp q) (of_decide_eq_true z)))
    case lt => exact lv_icmp_lt hx hb hd ht (fun q => kt (decide_eq_true ((i_lt x y).mp q))) (fun q => kf (fun z => q ((i_lt x y).mpr (of_decide_eq_true z))))
    case ge => exact lv_icmp_ge hx hb hd ht (fun q => kt (decide_eq_true ((i_le y x).mp q))) (fun q => kf (fun z => q ((i_le y x).mpr (of_decide_eq_true z))))
    case gt => exact lv_icmp_gt hx hb hd ht (fun q => kt (decide_eq_true ((i_lt y x).mp q))) (fun q => kf (fun z => q ((i_lt y x).mpr (of_decide_eq_true z))))
    case le => exact lv_icmp_le hx hb hd ht (fun q => kt (decide_eq_true ((i_le x y).mp q))) (fun q => kf (fun z => q ((i_le x y).mpr (of_decide_eq_true z))))
  case goto off =>
    obtain ⟨hc0, h1⟩ := if_inv h
    clear h
    obtain ⟨hlen, hj⟩ := hc0
    have h := h1
    clear h1
    subst hlen
    obtain ⟨rfl, rfl, rfl, rfl⟩ := nx_inv h
    exact lv_goto hx hb hd (jmp_eq hj) (k _ _ _ hP hS hl hM)
  case tableswitch dflt lo hi offs =>
    obtain ⟨z, rfl, rfl, rfl, ⟨h1, h2⟩ | ⟨h1, off, h2, h3⟩⟩ := aSwT_inv h
    · exact lv_tableOut hx hb hd (by rw [i_toInt]; exact h1) h2 (k _ _ _ hP hS hl hM)
    · exact lv_tableIn hx hb hd (by rw [i_toInt]; exact fun q => h1 (Or.inl q)) (by rw [i_toInt]; exact fun q => h1 (Or.inr q)) (by rw [i_toInt]; exact h2) h3 (k _ _ _ hP hS hl hM)
  case lookupswitch dflt ps =>
    obtain ⟨h1, z, rfl, rfl, rfl, h2⟩ := aSwL_inv h
    exact lv_lookup hx hb hd h1 (by rw [i_toInt]) h2 (k _ _ _ hP hS hl hM)
  case getstatic i =>
    obtain ⟨rfl, h⟩ := if_inv h
    obtain ⟨q, hq, h⟩ := oG_inv h
    obtain ⟨rfl, rfl, rfl, rfl⟩ := nx_inv h
    rcases w_sta hq with ⟨rfl, hw⟩ | ⟨rfl, hw⟩
    · exact va_getsN hx hb hZ1 hS hown (va_Nw.use rfl (hN _ hw)) (fun x h => h) hd (k _ _ _ hP hS hl hM)
    · exact va_gets hx hb hZ2 hS hown (hts _ hw) (fun x h => h) hd (k _ _ _ hP hS hl hM)
  case getfield f =>
    obtain ⟨rfl, h⟩ := if_inv h
    obtain ⟨q, hq, h⟩ := oG_inv h
    obtain ⟨kd, i, r, rfl, hok, h⟩ := sR_inv h
    obtain ⟨hkq, h⟩ := if_inv h
    obtain ⟨rfl, rfl, rfl, rfl⟩ := nx_inv h
    obtain ⟨hk4, hn, hw⟩ := er_flds_ok _ (er_find_mem hq)
    dsimp only at hk4 hn hw
    subst hkq
    have he := er_ws_at (ad := er_ad B b tB tF) (cI := cI) (cR := cR) (cW := cW) (M := M') (show q.1 < 9 by omega) hok
    rw [ent_obj _ _ _ _ _ _ hk4] at he
    rcases hw with hw | hw
    · exact va_get (C := cN q.1) hx hb hts (in_er hk4) hown hK hP _ he (er_cl_at hk4) q.2 hn (hts _ hw) (fun x h => h) (fs_at hn) hd (k _ _ _ hP hS hl hM)
    · exact va_getN (C := cN q.1) hx hb hts (in_er hk4) hown hK hP _ he (er_cl_at hk4) q.2 hn (va_Nw.use rfl (hN _ hw)) (fun x h => h) (fs_at hn) hd (k _ _ _ hP hS hl hM)
  case putfield f =>
    obtain ⟨rfl, h⟩ := if_inv h
    obtain ⟨q, hq, h⟩ := oG_inv h
    obtain ⟨z, r, rfl, h⟩ := sI_inv h
    obtain ⟨kd, i, r, rfl, hok, h⟩ := sR_inv h
    obtain ⟨hc0, h1⟩ := if_inv h
    clear h
    obtain ⟨hkq, hfi, hbo⟩ := hc0
    have h := h1
    clear h1
    obtain ⟨rfl, rfl, rfl, rfl⟩ := nx_inv h
    obtain ⟨hk4, hn, hw⟩ := er_flds_ok _ (er_find_mem hq)
    dsimp only at hk4 hn hw
    subst hkq
    have he := er_ws_at (ad := er_ad B b tB tF) (cI := cI) (cR := cR) (cW := cW) (M := M) (show q.1 < 9 by omega) hok
    rw [ent_obj _ _ _ _ _ _ hk4] at he
    obtain ⟨hfin, hty⟩ := fint_ok q.1 hk4 q.2 hn hfi
    have hnar : narrow (er_ty q.1 q.2) (.int (Int32.ofInt z)) = .int (Int32.ofInt z) ∧ fits (er_ty q.1 q.2) (.int (Int32.ofInt z)) = true := by
      rcases hty with h0 | ⟨h0, h1, h2⟩
      · rw [h0]; exact ⟨rfl, rfl⟩
      · rw [h0]
        rcases hbo ⟨h1, h2⟩ with rfl | rfl
        · exact ⟨rfl, rfl⟩
        · exact ⟨rfl, rfl⟩
    have hset := er_ws_set (ad := er_ad B b tB tF) (cI := cI) (cR := cR) (cW := cW) (M := M) (M' := aup M q.1 i q.2 z) (show q.1 < 9 by omega) hok (fun k' i' s hh => aup_out k' i' s hh)
    rw [ent_obj _ _ _ _ _ _ hk4, ← fs_set hfi] at hset
    rcases hw with hw | hw
    · refine va_put (C := cN q.1) hx hb hts (in_er hk4) (er_ty q.1) (er_ty_ok hk4) (er_nm hk4) hown hK hP hD hS _ he (er_cl_at hk4) q.2 hn (hts _ hw) (fun x h => h) hfin (er_ty_ok hk4 q.2 hn) hnar.1 hnar.2 (by simpa using hn) hd (fun H1 locs1 hP1 hD1 hS1 => ?_)
      rw [tv_I, hset] at hP1
      exact k _ _ _ hP1 hS1 hl (scrM_aup _ _ _ _ (by omega) hM)
    · refine va_putN (C := cN q.1) hx hb hts (in_er hk4) (er_ty q.1) (er_ty_ok hk4) (er_nm hk4) hown hK hP hD hS _ he (er_cl_at hk4) q.2 hn (va_Nw.use rfl (hN _ hw)) (fun x h => h) hfin (er_ty_ok hk4 q.2 hn) hnar.1 hnar.2 (by simpa using hn) hd (fun H1 locs1 hP1 hD1 hS1 => ?_)
      rw [tv_I, hset] at hP1
      exact k _ _ _ hP1 hS1 hl (scrM_aup _ _ _ _ (by omega) hM)
  case arraylength =>
    obtain ⟨rfl, h⟩ := if_inv h
    obtain ⟨kd, i, r, rfl, hok, h⟩ := sR_inv h
    obtain ⟨h4, h⟩ := if_inv h
    obtain ⟨rfl, rfl, rfl, rfl⟩ := nx_inv h
    have k1 := k _ _ _ hP hS hl hM
    have hq : kd = 4 ∨ kd = 5 ∨ kd = 6 ∨ kd = 7 ∨ kd = 8 ∨ kd = 9 ∨ kd = 10 ∨ kd = 11 := by
      unfold okH at hok
      split at hok <;> first | omega | cases hok
    rcases hq with rfl | rfl | rfl | rfl | rfl | rfl | rfl | rfl
    · exact va_alen hx hb hK hP _ 0 (er_ws_at (by omega) hok) rfl rfl hd k1
    · exact va_alen hx hb hK hP _ 0 (er_ws_at (by omega) hok) rfl rfl hd k1
    · exact va_alen hx hb hK hP _ 1 (er_ws_at (by omega) hok) rfl rfl hd k1
    · exact va_alen hx hb hK hP _ 1 (er_ws_at (by omega) hok) rfl rfl hd k1
    · exact va_alen hx hb hK hP _ 2 (er_ws_at (by omega) hok) rfl rfl hd k1
    · simp only [alen, hM.1, Int.toNat_natCast] at k1
      exact va_slen (b := b) hx hb hX (Nat.lt_of_lt_of_le hbB hBs) (Nat.not_le.mpr hbB) hS hd k1
    · exact va_tlen hx hb hT1 hS rfl hd k1
    · exact va_tlen hx hb hT2 hS rfl hd k1
  case iaload =>
    obtain ⟨rfl, h⟩ := if_inv h
    obtain ⟨j, r, rfl, h⟩ := sI_inv h
    obtain ⟨kd, i, r, rfl, hok, h⟩ := sR_inv h
    obtain ⟨hc0, h1⟩ := if_inv h
    clear h
    obtain ⟨h0, hj⟩ := hc0
    have h := h1
    clear h1
    obtain ⟨z, hz, h⟩ := oG_inv h
    obtain ⟨rfl, rfl, rfl, rfl⟩ := nx_inv h
    have k1 := k _ _ _ hP hS hl hM
    have hin := i_in h0 hj
    unfold aval at hz
    split at hz
    · cases hz
      rw [List.map_cons, tv_I, ← i_nat] at k1
      exact va_iald hx hb hK hP _ 0 (er_ws_at (by omega) hok) rfl hin hd k1
    · cases hz
      rw [List.map_cons, tv_I, ← i_nat] at k1
      exact va_iald hx hb hK hP _ 0 (er_ws_at (by omega) hok) rfl hin hd k1
    · cases hz
      have hl9 : alen 9 M' = L := by simp only [alen, hM.1, Int.toNat_natCast]
      rw [hl9] at hin hj
      rw [List.map_cons, tv_I, hM.2 _ (by omega), ← i_nat] at k1
      exact va_sld (b := b) hx hb hX (Nat.lt_of_lt_of_le hbB hBs) (Nat.not_le.mpr hbB) hS hin hd k1
    · cases hz
      exact va_ti hx hb hT1 hS hin (by rw [i_nat]; rfl) hd k1
    · cases hz
      exact va_ti hx hb hT2 hS hin (by rw [i_nat]; rfl) hd k1
    · cases hz
  case iastore =>
    obtain ⟨rfl, h⟩ := if_inv h
    obtain ⟨z, r, rfl, h⟩ := sI_inv h
    obtain ⟨j, r, rfl, h⟩ := sI_inv h
    obtain ⟨kd, i, r, rfl, hok, h⟩ := sR_inv h
    obtain ⟨hc0, h1⟩ := if_inv h
    clear h
    obtain ⟨h0, hj, h45⟩ := hc0
    have h := h1
    clear h1
    obtain ⟨rfl, rfl, rfl, rfl⟩ := nx_inv h
    have hin := i_in h0 hj
    have hset := er_ws_set (ad := er_ad B b tB tF) (cI := cI) (cR := cR) (cW := cW) (M := M) (M' := aup M kd i (wI j).toNat z) (show kd < 9 by omega) hok (fun k' i' s hh => aup_out k' i' s hh)
    have hup : ∀ q : Nat, (fun x : Nat => Int32.ofInt (aup M kd i (wI j).toNat z kd i x)) q = upd (fun x : Nat => Int32.ofInt (M kd i x)) (Int32.ofInt j).toNatClampNeg (Int32.ofInt z) q := by
      intro q
      rw [i_nat]
      unfold upd aup
      by_cases hq : q = (wI j).toNat
      · simp [hq]
      · simp [hq]
    have hup := funext hup
    rcases h45 with rfl | rfl
    · refine va_iast hx hb hK hP hD hS _ 0 (er_ws_at (by omega) hok) rfl hin hd (fun H1 locs1 hP1 hD1 hS1 => ?_)
      rw [← hup] at hP1
      exact k _ _ _ (by rw [← hset]; exact hP1) hS1 hl (scrM_aup _ _ _ _ (by omega) hM)
    · refine va_iast hx hb hK hP hD hS _ 0 (er_ws_at (by omega) hok) rfl hin hd (fun H1 locs1 hP1 hD1 hS1 => ?_)
      rw [← hup] at hP1
      exact k _ _ _ (by rw [← hset]; exact hP1) hS1 hl (scrM_aup _ _ _ _ (by omega) hM)
  case aaload =>
    obtain ⟨rfl, h⟩ := if_inv h
    obtain ⟨j, r, rfl, h⟩ := sI_inv h
    obtain ⟨kd, i, r, rfl, hok, h⟩ := sR_inv h
    obtain ⟨hc0, h1⟩ := if_inv h
    clear h
    obtain ⟨h0, hj⟩ := hc0
    have h := h1
    clear h1
    obtain ⟨q, hq, h⟩ := oG_inv h
    obtain ⟨rfl, rfl, rfl, rfl⟩ := nx_inv h
    have k1 := k _ _ _ hP hS hl hM
    have hin := i_in h0 hj
    have hkd : kd = 6 ∨ kd = 7 ∨ kd = 8 := by
      unfold aref at hq
      split at hq <;> first | omega | cases hq
    have hrf : tv (er_ad B b tB tF) (vR q.1 q.2) = va_rf ((aref kd i (Int32.ofInt j).toNatClampNeg).map (fun q => er_ad B b tB tF q.1 q.2)) := by
      rw [i_nat, hq]
      rfl
    rw [List.map_cons, hrf] at k1
    rcases hkd with rfl | rfl | rfl
    · exact va_aldq hx hb hK hP _ 1 (er_ws_at (by omega) hok) rfl hin hd k1
    · exact va_aldq hx hb hK hP _ 1 (er_ws_at (by omega) hok) rfl hin hd k1
    · exact va_aldq hx hb hK hP _ 2 (er_ws_at (by omega) hok) rfl hin hd k1
  case invokevirtual i =>
    obtain ⟨Z, hZ, h⟩ := oG_inv h
    obtain ⟨hc, h⟩ := if_inv h
    obtain ⟨kd, j, r, h3, hok, h⟩ := sR_inv h
    obtain ⟨hc2, h⟩ := if_inv h
    obtain ⟨hc3, h⟩ := if_inv h
    cases h
  case invokestatic i =>
    simp only [ex1] at h
    cases hbb : bltT (mtK Y) i with
    | none =>
      rw [hbb] at h
      obtain ⟨Z, hZ, h⟩ := oG_inv h
      obtain ⟨hc, h⟩ := if_inv h
      obtain ⟨hc3, h⟩ := if_inv h
      cases h
    | some bb =>
      rw [hbb] at h
      have hsz := hl.2.1
      obtain ⟨rfl, hsum, rfl, rfl, hh⟩ := aBlt_inv h
      have hs2 : ∀ r : List AV, ((r.map (tv (er_ad B b tB tF))).map fun v => v.category).sum = (r.map acat).sum := by
        intro r
        rw [List.map_map]
        congr 1
        exact List.map_congr_left (fun v _ => tv_cat _ v)
      rcases hh with ⟨rfl, x, y, r, rfl, rfl, rfl⟩ | ⟨rfl, x, y, r, rfl, rfl, rfl⟩ | ⟨hb0, hb1, n, kd, i1, j1, rfl, o1, o2, hk, hn, hln, rfl⟩
      · have hw : Cond.methodLink (cN (mtK Y)) i Lib.Math.max.name ∈ er_G := by rcases w_blt hbb with h1 | h1 | h1 <;> first | exact h1.2 | exact absurd h1.1 (by decide)
        have k1 := k _ _ _ hP hS hl hM
        have e1 : tv (er_ad B b tB tF) (vI (if wI x < wI y then y else x)) = .int (if Int32.ofInt x < Int32.ofInt y then Int32.ofInt y else Int32.ofInt x) := by
          rw [tv_I]
          by_cases q : wI x < wI y
          · rw [if_pos q, if_pos ((i_lt x y).mpr q)]
          · rw [if_neg q, if_neg (fun z => q ((i_lt x y).mp z))]
        rw [List.map_cons, e1] at k1
        simp only [List.map_cons, List.sum_cons] at hsum
        exact va_mmax hx hb (by rw [hml, hsz]) hown (hts _ hw) (hts _ w_max.1) (hts _ w_max.2.1) (hts _ w_max.2.2) hfr (by rw [hs2]; omega) hcl hsl hd k1
      · have hw : Cond.methodLink (cN (mtK Y)) i Lib.Math.min.name ∈ er_G := by rcases w_blt hbb with h1 | h1 | h1 <;> first | exact h1.2 | exact absurd h1.1 (by decide)
        have k1 := k _ _ _ hP hS hl hM
        have e1 : tv (er_ad B b tB tF) (vI (if wI y < wI x then y else x)) = .int (if Int32.ofInt y < Int32.ofInt x then Int32.ofInt y else Int32.ofInt x) := by
          rw [tv_I]
          by_cases q : wI y < wI x
          · rw [if_pos q, if_pos ((i_lt y x).mpr q)]
          · rw [if_neg q, if_neg (fun z => q ((i_lt y x).mp z))]
        rw [List.map_cons, e1] at k1
        simp only [List.map_cons, List.sum_cons] at hsum
        exact va_mmin hx hb (by rw [hml, hsz]) hown (hts _ hw) (hts _ w_min.1) (hts _ w_max.2.1) (hts _ w_min.2) hfr (by rw [hs2]; omega) hcl hsl hd k1
      · have hw : Cond.methodLink (cN (mtK Y)) i arraycopyName ∈ er_G := by rcases w_blt hbb with h1 | h1 | h1 <;> first | exact h1.2 | exact absurd h1.1 hb0 | exact absurd h1.1 hb1
        have hset := er_ws_set (ad := er_ad B b tB tF) (cI := cI) (cR := cR) (cW := cW) (M := M) (M' := acopy M kd i1 j1 n.toNat) (show kd < 9 by omega) o1 (fun k' i' s hh => acopy_out k' i' s hh)
        have n0 : Int32.toNatClampNeg (Int32.ofInt 0) = 0 := rfl
        have hal : alen kd M ≤ 512 := by rcases hk with rfl | rfl <;> simp [alen]
        have nn : Int32.toNatClampNeg (Int32.ofInt n) = n.toNat := by rw [i_nat, wI_eq (by omega) (by omega)]
        have hup : ∀ q : Nat, (fun x : Nat => Int32.ofInt (acopy M kd i1 j1 n.toNat kd j1 x)) q = va_cpy (fun x : Nat => Int32.ofInt (M kd i1 x)) (fun x : Nat => Int32.ofInt (M kd j1 x)) (Int32.ofInt 0).toNatClampNeg (Int32.ofInt 0).toNatClampNeg (Int32.ofInt n).toNatClampNeg q := by
          intro q
          rw [n0, nn]
          unfold va_cpy acopy
          by_cases hq : q < n.toNat
          · simp [hq]
          · simp [hq]
        have hup := funext hup
        simp only [List.map_cons, List.sum_cons] at hsum
        have hnw : nativeFrameWords "java/lang/System" "arraycopy" 5 + 11 ≤ 30 := by decide +kernel
        have hneg : ¬ Int32.ofInt n < 0 := fun q => by
          have q2 := (i_lt n 0).mp q
          rw [wI_eq (by omega) (by omega), show wI 0 = 0 from rfl] at q2
          omega
        rcases hk with rfl | rfl
        · refine va_copyi hx hb (by rw [hml, hsz]) hown (hts _ hw) (hts _ w_cpy.1) (hts _ w_cpy.2.1) (hts _ w_cpy.2.2) hK hP hD hS _ _ 0 0 (er_ws_at (by omega) o2) (er_ws_at (by omega) o1) rfl rfl rfl (by decide) (by decide) hneg (by rw [n0, nn]; simp only [alen] at hln; omega) (by rw [n0, nn]; simp only [alen] at hln; omega) (fun _ _ => rfl) hfr (by rw [hs2]; omega) hd (fun H1 locs1 hP1 hD1 hS1 => ?_)
          rw [← hup] at hP1
          exact k _ _ _ (by rw [← hset]; exact hP1) hS1 hl (scrM_acopy _ _ _ _ (by omega) hM)
        · refine va_copyi hx hb (by rw [hml, hsz]) hown (hts _ hw) (hts _ w_cpy.1) (hts _ w_cpy.2.1) (hts _ w_cpy.2.2) hK hP hD hS _ _ 0 0 (er_ws_at (by omega) o2) (er_ws_at (by omega) o1) rfl rfl rfl (by decide) (by decide) hneg (by rw [n0, nn]; simp only [alen] at hln; omega) (by rw [n0, nn]; simp only [alen] at hln; omega) (fun _ _ => rfl) hfr (by rw [hs2]; omega) hd (fun H1 locs1 hP1 hD1 hS1 => ?_)
          rw [← hup] at hP1
          exact k _ _ _ (by rw [← hset]; exact hP1) hS1 hl (scrM_acopy _ _ _ _ (by omega) hM)
  case ireturn =>
    obtain ⟨hc, h⟩ := if_inv h
    obtain ⟨z, r, h3, h⟩ := sI_inv h
    obtain ⟨hc2, h⟩ := if_inv h
    cases h
  case lreturn =>
    obtain ⟨hc, h⟩ := if_inv h
    obtain ⟨z, r, h3, h⟩ := sL_inv h
    obtain ⟨hc2, h⟩ := if_inv h
    cases h
  case areturn =>
    obtain ⟨hc, h⟩ := if_inv h
    obtain ⟨kd, i, r, h3, h⟩ := sA_inv h
    obtain ⟨hc2, h⟩ := if_inv h
    cases h
  case return_ =>
    obtain ⟨hc, h⟩ := if_inv h
    cases h
  all_goals (simp [ex1] at h)
end SIM
end
section
set_option maxHeartbeats 4000000 in
set_option maxRecDepth 100000 in
/-- which instructions call -/
theorem ex1_call {Y Z : MT} {ins : ClassFile.Instr} {len pc : Nat} {ls : ALs} {st as r : List AV} {M : AMem} (h : ex1 Y ins len pc ls st M = some (.inr (.inl (Z, as, r)))) :
    len = 3 ∧ (r.map acat).sum ≤ 8 ∧ (as.map acat).sum = as.length ∧ as.length ≤ mtL Z ∧ ((∃ i k j ps, ins = .invokevirtual i ∧ mthT (mtK Y) i = some Z ∧ mtS Z = false ∧ as = vR k j :: ps ∧ ps.length = mtA Z ∧ st = ps.reverse ++ vR k j :: r ∧ okH k j = true ∧ k = mtK Z) ∨
      (∃ i, ins = .invokestatic i ∧ mthT (mtK Y) i = some Z ∧ mtS Z = true ∧ as.length = mtA Z ∧ st = as.reverse ++ r)) := by
  cases ins
  case invokevirtual i =>
    obtain ⟨Z', hZ, h⟩ := oG_inv h
    obtain ⟨hc, h⟩ := if_inv h
    obtain ⟨kd, j, r', h3, hok, h⟩ := sR_inv h
    obtain ⟨hc2, h⟩ := if_inv h
    obtain ⟨hc3, h⟩ := if_inv h
    simp only [Option.some.injEq, Sum.inr.injEq, Sum.inl.injEq, Prod.mk.injEq] at h
    obtain ⟨rfl, rfl, rfl⟩ := h
    refine ⟨hc3.1, hc3.2.1, hc3.2.2.1, hc3.2.2.2, Or.inl ⟨i, kd, j, (st.take (mtA Z')).reverse, rfl, hZ, hc.1, rfl, ?_, ?_, hok, hc2⟩⟩
    · rw [List.length_reverse, List.length_take]; omega
    · rw [List.reverse_reverse, ← h3, List.take_append_drop]
  case invokestatic i =>
    simp only [ex1] at h
    cases hbb : bltT (mtK Y) i with
    | none =>
      rw [hbb] at h
      obtain ⟨Z', hZ, h⟩ := oG_inv h
      obtain ⟨hc, h⟩ := if_inv h
      obtain ⟨hc3, h⟩ := if_inv h
      simp only [Option.some.injEq, Sum.inr.injEq, Sum.inl.injEq, Prod.mk.injEq] at h
      obtain ⟨rfl, rfl, rfl⟩ := h
      refine ⟨hc3.1, hc3.2.1, hc3.2.2.1, hc3.2.2.2, Or.inr ⟨i, rfl, hZ, hc.1, ?_, ?_⟩⟩
      · rw [List.length_reverse, List.length_take]; omega
      · rw [List.reverse_reverse, List.take_append_drop]
    | some bb =>
      rw [hbb] at h
      exfalso
      simp only [aBlt, sI, sR, nx] at h
      repeat' split at h
      all_goals cases h
  all_goals (exfalso; simp only [ex1, aPush, aLoadI, aLoadL, aLoadA, aStoreI, aStoreA, aStoreL, aBin, aDiv, aBr, aSwT, aSwL, nx, sI, sL, sR, sA, sV, gL, oG] at h)
  all_goals (repeat' split at h)
  all_goals (cases h)
/-- where a walk ends -/
def retAt (Y : MT) (v : Option AV) (pc : Nat) : Prop :=
  (v = none ∧ decode (mtC Y) pc = .ok (.return_, 1) ∧ mtR Y = none) ∨
  (∃ z, v = some (vI z) ∧ decode (mtC Y) pc = .ok (.ireturn, 1) ∧ (mtR Y = some .int ∨ (mtR Y = some .boolean ∧ (z = 0 ∨ z = 1)))) ∨
  (∃ z, v = some (vL z) ∧ decode (mtC Y) pc = .ok (.lreturn, 1) ∧ mtR Y = some .long) ∨
  (∃ k i, v = some (vR k i) ∧ decode (mtC Y) pc = .ok (.areturn, 1) ∧ (mtR Y = some (.object "Endlessrows$Row") ∨ mtR Y = some (.object "Endlessrows$Well")))
set_option maxHeartbeats 4000000 in
set_option maxRecDepth 100000 in
/-- which instructions end -/
theorem ex1_ret {Y : MT} {ins : ClassFile.Instr} {len pc : Nat} {ls : ALs} {st : List AV} {M : AMem} {v : Option AV} (hd : decode (mtC Y) pc = .ok (ins, len)) (h : ex1 Y ins len pc ls st M = some (.inr (.inr v))) : retAt Y v pc ∧ st = v.toList := by
  cases ins
  case ireturn =>
    obtain ⟨hc, h⟩ := if_inv h
    obtain ⟨z, r, h3, h⟩ := sI_inv h
    obtain ⟨hc2, h⟩ := if_inv h
    simp only [Option.some.injEq, Sum.inr.injEq] at h
    subst h
    subst hc
    exact ⟨Or.inr (Or.inl ⟨z, rfl, hd, hc2.2⟩), by rw [h3, hc2.1]; rfl⟩
  case lreturn =>
    obtain ⟨hc, h⟩ := if_inv h
    obtain ⟨z, r, h3, h⟩ := sL_inv h
    obtain ⟨hc2, h⟩ := if_inv h
    simp only [Option.some.injEq, Sum.inr.injEq] at h
    subst h
    subst hc
    exact ⟨Or.inr (Or.inr (Or.inl ⟨z, rfl, hd, hc2.2⟩)), by rw [h3, hc2.1]; rfl⟩
  case areturn =>
    obtain ⟨hc, h⟩ := if_inv h
    obtain ⟨k, i, r, h3, h⟩ := sA_inv h
    obtain ⟨hc2, h⟩ := if_inv h
    simp only [Option.some.injEq, Sum.inr.injEq] at h
    subst h
    subst hc
    exact ⟨Or.inr (Or.inr (Or.inr ⟨k, i, rfl, hd, hc2.2⟩)), by rw [h3, hc2.1]; rfl⟩
  case return_ =>
    obtain ⟨hc, h⟩ := if_inv h
    simp only [Option.some.injEq, Sum.inr.injEq] at h
    subst h
    obtain ⟨h1, h2, h3⟩ := hc
    subst h1
    exact ⟨Or.inl ⟨rfl, hd, h3⟩, h2⟩
  all_goals (exfalso; simp only [ex1, aPush, aLoadI, aLoadL, aLoadA, aStoreI, aStoreA, aStoreL, aBin, aDiv, aBr, aSwT, aSwL, nx, sI, sL, sR, sA, sV, gL, oG, aBlt, aVirt, aStat, aCall] at h)
  all_goals (repeat' split at h)
  all_goals (cases h)
section SIM
variable {p : Program} {l : Launch} {e : Env} {R : Room} {s : State} {m : MethodId} {args : Array Value} {below : List Frame} {meth : Method} {c : Code} {H : Heap} {locs : List Loc} {cells slots : Nat} {Q : State → Prop}
variable {D : va_G} {cI cR cW : ClassId} {B b L tB tF : Nat} {xs : Nat → Int32}
/-- a call's end -/
def er_Q (D : va_G) (cI cR cW : ClassId) (B b L tB tF : Nat) (xs : Nat → Int32) (v : Option AV) (M1 : AMem) : Array Value → State → Outcome → State → Prop := fun _ st oc t =>
  oc = .returned (v.map (tv (er_ad B b tB tF))) ∧ va_P D er_cl (er_ws (er_ad B b tB tF) cI cR cW M1) t.heap ∧ scrM L xs M1 ∧ va_F (fun q => B ≤ q) st t
/-- a call's start -/
def er_P (D : va_G) (cI cR cW : ClassId) (B b L tB tF : Nat) (xs : Nat → Int32) (as : List AV) (M : AMem) : Array Value → State → Prop :=
  va_Pc (as.map (tv (er_ad B b tB tF))) (fun U => er_S D cI cR cW B b L tB tF xs U ∧ va_P D er_cl (er_ws (er_ad B b tB tF) cI cR cW M) U.heap)
def er_w (Y : MT) : List Cond := Cond.code (mtN Y) (mtC Y) (mtL Y) (mtR Y) :: er_G
def er_R (d : Nat) : Room := { frames := d + 1, cells := 0, slots := 0, locals := 40 * d + 400 }
theorem er_P_blind {as : List AV} {M : AMem} : FrameBlind (er_P D cI cR cW B b L tB tF xs as M) := by
  intro a U g mk h
  obtain ⟨h1, h2, h3⟩ := h
  exact ⟨h1, er_S_calling g mk a h2, h3⟩
theorem er_call {pc : Nat} {lj : Array Slot} {rest st0 : List Value} {a : Array Value} {v : Option AV} {M1 : AMem}
    (hr : va_Run p l e R s m args below meth c H locs cells slots 0 0 (F0 m pc lj st0) rest (er_Q D cI cR cW B b L tB tF xs v M1 a) (fun q => B ≤ q)) (hS : va_S (fun q => B ≤ q) s.heap H locs)
    (kk : ∀ (H1 : Heap) (locs1 : List Loc), va_P D er_cl (er_ws (er_ad B b tB tF) cI cR cW M1) H1 → scrM L xs M1 → va_S (fun q => B ≤ q) s.heap H1 locs1 → W p l e R s m args below meth c H1 locs1 cells slots Q (F0 m (pc + 3) lj ((v.map (tv (er_ad B b tB tF))).toList ++ rest))) : W p l e R s m args below meth c H locs cells slots Q (F0 m pc lj st0) := by
  intro T hT X
  obtain ⟨w, st₀, t, T', L', h0, X', hL, e1, e2, ⟨hv, hP, hM, hz, hk⟩, st⟩ := hr T hT X
  simp only [Outcome.returned.injEq] at hv
  subst hv
  rw [h0] at hz hk
  obtain ⟨t2, a1, b1⟩ := kk T'.heap (locs ++ L') (by rw [e1]; exact hP) hM ⟨Nat.le_trans hS.1 (by rw [e1]; exact hz), fun q h1 h2 => by rw [e1, hk q (Nat.lt_of_lt_of_le h1 hS.1) h2]; exact hS.2.1 q h1 h2, fun q hq => by
      rcases List.mem_append.mp hq with h | h
      · exact hS.2.2 q h
      · exact hL q h⟩ T' rfl X'
  exact ⟨t2, st t2 a1, b1⟩
/-- from here the machine comes to the same end -/
def SimOK (l : Launch) (D : va_G) (cI cR cW : ClassId) (B b L tB tF : Nat) (xs : Nat → Int32) (d : Nat) (Y : MT) (pc : Nat) (ls : ALs) (st : List AV) (M : AMem) (v : Option AV) (M1 : AMem) : Prop :=
  ∀ (p : Program) (e : Env) (R : Room) (s : State) (m : MethodId) (args : Array Value) (below : List Frame) (meth : Method) (c : Code) (H : Heap) (locs : List Loc) (cells slots : Nat) (Q : State → Prop) (lj : Array Slot),
    er_C D cI cR cW B b L tB tF xs Y p R s m args meth c cells slots → d + 1 ≤ R.frames → 40 * d + 400 ≤ R.locals →
    va_P D er_cl (er_ws (er_ad B b tB tF) cI cR cW M) H → va_S (fun q => B ≤ q) s.heap H locs → lsR (er_ad B b tB tF) ls (mtL Y) lj → scrM L xs M →
    (∀ (pc' : Nat) (lj' : Array Slot) (H' : Heap) (locs' : List Loc), retAt Y v pc' → va_P D er_cl (er_ws (er_ad B b tB tF) cI cR cW M1) H' → va_S (fun q => B ≤ q) s.heap H' locs' → scrM L xs M1 → W p l e R s m args below meth c H' locs' cells slots Q (F0 m pc' lj' (v.toList.map (tv (er_ad B b tB tF))))) →
    W p l e R s m args below meth c H locs cells slots Q (F0 m pc lj (st.map (tv (er_ad B b tB tF))))
set_option maxHeartbeats 4000000 in
theorem met_of {d : Nat} {Z : MT} {as : List AV} {M M1 : AMem} {v : Option AV} (hZ : mtOK Z) (hc : ∀ x ∈ as, acat x = 1) (hn : as.length ≤ mtL Z) (hM : scrM L xs M) (h : SimOK l D cI cR cW B b L tB tF xs d Z 0 (lini Z as) [] M v M1) :
    Met l (mtN Z) (er_w Z) (er_R d) (er_P D cI cR cW B b L tB tF xs as M) (er_Q D cI cR cW B b L tB tF xs v M1) 0 0 (fun q => B ≤ q) := by
  refine Met.ofW (cc := mtC Z) (maxL := mtL Z) (ret := mtR Z) hZ.2.2.2.1 rfl ?_
  intro p e s m args below meth c s₁ BB hml hv
  obtain ⟨rfl, hS0, hP⟩ := hv
  have hts := atoms_spec (ws := er_w Z) BB.pre
  have hown : s.vm.findClass (mtN Z).cls = some m.cls := findClass_of_methodNamed BB.named
  rw [hZ.2.2.1] at hown
  rw [lg_entry_eq]
  have hlocks := BB.notSynchronized
  have hr := BB.returns
  have hx := BB.exec
  have hb := BB.bytes
  refine h p e (er_R d) s m _ below meth c s.heap [] 0 0 _ _ ⟨hx, hb, hr, hml, hown, fun w hw => hts w (List.mem_cons_of_mem _ hw), hS0, Nat.le_refl 0, Nat.le_refl 0, by show 1 ≤ d + 1; omega, by show 400 ≤ 40 * d + 400; omega⟩ (Nat.le_refl _) (Nat.le_refl _) hP va_S.rf (lsR_ini Z as hc hn) hM ?_
  intro pc' lj' H' locs' hra hP' hS' hM'
  have hq : ∀ t : State, t.heap = H' → s.WarmedH t.vm → er_Q D cI cR cW B b L tB tF xs v M1 (as.map (tv (er_ad B b tB tF))).toArray s (.returned (v.map (tv (er_ad B b tB tF)))) t := fun t ht _ => ⟨rfl, by rw [ht]; exact hP', hM', hS'.F ht⟩
  rcases hra with ⟨rfl, hd, hret⟩ | ⟨z, rfl, hd, hret | ⟨hret, hz⟩⟩ | ⟨z, rfl, hd, hret⟩ | ⟨k, i, rfl, hd, hret⟩
  · exact W.vret hx hb (hr.trans hret) hq hS'.2.2 hd
  · exact W.iret hx hb (hr.trans hret) hq hS'.2.2 hd
  · exact W.zret hx hb (hr.trans hret) (by rcases hz with rfl | rfl <;> rfl) hq hS'.2.2 hd
  · exact W.lret hx hb (hr.trans hret) hq hS'.2.2 hd
  · rcases hret with hret | hret
    · exact W.aret hx hb (hr.trans hret) (Or.inl ⟨_, rfl⟩) (Or.inr ⟨_, rfl⟩) hq hS'.2.2 hd
    · exact W.aret hx hb (hr.trans hret) (Or.inl ⟨_, rfl⟩) (Or.inr ⟨_, rfl⟩) hq hS'.2.2 hd
end SIM
end
section
theorem mthT_ok {c i : Nat} {Z : MT} (h : mthT c i = some Z) : Cond.methodLink (cN c) i (mtN Z) ∈ er_G ∧ mtOK Z := er_calls_ok _ (er_find_mem h)
theorem er_good_in (Y : MT) (h : Cond.code (mtN Y) (mtC Y) (mtL Y) (mtR Y) ∈ er_G) : GoodIn er_G (er_w Y) := fun w hw => by
  have h1 : w ∈ er_G := by
    rcases List.mem_cons.mp hw with rfl | h1
    · exact h
    · exact h1
  exact ⟨h1, good_of_word (er_good w h1)⟩
set_option maxRecDepth 20000 in
theorem room_ar {a d x : Nat} (h : a ≤ 13) (h2 : 40 * (d + 1) + 400 ≤ x) : 8 + (a + 11) + (40 * d + 400) ≤ x := by omega
theorem er_good_1 {w : Cond} (h : w ∈ er_G) : w ∈ er_G ∧ ((w.onTables && w.keeps) = true ∨ ∃ ty, w = .arrayClass ty) := ⟨h, good_of_word (er_good w h)⟩
theorem acat_le {as : List AV} (h : (as.map acat).sum = as.length) : ∀ x ∈ as, acat x = 1 := by
  induction as with
  | nil => intro x hx; cases hx
  | cons v r ih =>
    have hv : 1 ≤ acat v := by rcases v with z | z | ⟨k, i⟩ <;> simp [acat]
    have hr : ∀ r : List AV, r.length ≤ (r.map acat).sum := by
      intro r
      induction r with
      | nil => simp
      | cons w r ih =>
        have hw : 1 ≤ acat w := by rcases w with z | z | ⟨k, i⟩ <;> simp [acat]
        simp only [List.map_cons, List.sum_cons, List.length_cons]
        omega
    have h2 := hr r
    simp only [List.map_cons, List.sum_cons, List.length_cons] at h
    intro x hx
    rcases List.mem_cons.mp hx with rfl | hx
    · omega
    · exact ih (by omega) x hx
section SIM
variable {D : va_G} {cI cR cW : ClassId} {B b L tB tF : Nat} {xs : Nat → Int32}
set_option maxHeartbeats 4000000 in
theorem sim (l : Launch) : ∀ (n d : Nat) (Y : MT) (pc : Nat) (ls : ALs) (st : List AV) (M : AMem) (v : Option AV) (M1 : AMem), run n d Y pc ls st M = some (v, M1) → SimOK l D cI cR cW B b L tB tF xs d Y pc ls st M v M1 := by
  intro n
  induction n with
  | zero => intro d Y pc ls st M v M1 h; simp [run] at h
  | succ n ih =>
    intro d Y pc ls st M v M1 h
    unfold run at h
    cases hd : decode (mtC Y) pc with
    | error er => rw [hd] at h; cases h
    | ok q =>
      obtain ⟨ins, len⟩ := q
      rw [hd] at h
      dsimp only at h
      cases hx1 : ex1 Y ins len pc ls st M with
      | none => rw [hx1] at h; cases h
      | some R1 =>
        rw [hx1] at h
        rcases R1 with ⟨pc', ls', st', M'⟩ | ⟨Z, as, r⟩ | w
        · -- a step
          dsimp only at h
          intro p e R s m args below meth c H locs cells slots Q lj C0 hR1 hR2 hP hS hl hM hE
          exact step_next C0 hd hx1 hP hS hl hM (fun H' locs' lj' hP' hS' hl' hM' => ih d Y pc' ls' st' M' v M1 h p e R s m args below meth c H' locs' cells slots Q lj' C0 hR1 hR2 hP' hS' hl' hM' hE)
        · -- a call
          dsimp only at h
          cases d with
          | zero => cases h
          | succ d' =>
            dsimp only at h
            cases hz : run n d' Z 0 (lini Z as) [] M with
            | none => rw [hz] at h; cases h
            | some q =>
              obtain ⟨w, M2⟩ := q
              rw [hz] at h
              dsimp only at h
              intro p e R s m args below meth c H locs cells slots Q lj C0 hR1 hR2 hP hS hl hM hE
              obtain ⟨hlen, hsum, hcat, hasl, hk⟩ := ex1_call hx1
              subst hlen
              have hC := C0
              obtain ⟨hx, hb, hr, hml, hown, hts, hS0, hcl, hsl, hfr, hlo⟩ := hC
              have hmt : mtOK Z ∧ ∃ i, Cond.methodLink (cN (mtK Y)) i (mtN Z) ∈ er_G ∧ ((ins = .invokevirtual i ∧ mtS Z = false ∧ ∃ k j ps, as = vR k j :: ps ∧ ps.length = mtA Z ∧ st = ps.reverse ++ vR k j :: r ∧ okH k j = true ∧ k = mtK Z) ∨ (ins = .invokestatic i ∧ mtS Z = true ∧ as.length = mtA Z ∧ st = as.reverse ++ r)) := by
                rcases hk with ⟨i, k, j, ps, h1, h2, h3, h4, h5, h6, h7, h8⟩ | ⟨i, h1, h2, h3, h4, h5⟩
                · exact ⟨(mthT_ok h2).2, i, (mthT_ok h2).1, Or.inl ⟨h1, h3, k, j, ps, h4, h5, h6, h7, h8⟩⟩
                · exact ⟨(mthT_ok h2).2, i, (mthT_ok h2).1, Or.inr ⟨h1, h3, h4, h5⟩⟩
              obtain ⟨hZ, i, hlk, hk⟩ := hmt
              have hZ0 := hZ
              obtain ⟨z1, z2, z3, z4, z5, z6, z7⟩ := hZ
              have hM1 : Met l (mtN Z) (er_w Z) (er_R d') (er_P D cI cR cW B b L tB tF xs as M) (er_Q D cI cR cW B b L tB tF xs w M2) 0 0 (fun q => B ≤ q) := met_of hZ0 (acat_le hcat) hasl hM (ih d' Z 0 (lini Z as) [] M w M2 hz)
              have hroom : (er_R d').frames + 1 ≤ R.frames ∧ 8 + (mtL Z + 11) + (er_R d').locals ≤ R.locals := by
                constructor
                · show d' + 1 + 1 ≤ R.frames
                  omega
                · exact room_ar z6 hR2
              have hs2 : ((r.map (tv (er_ad B b tB tF))).map fun v => v.category).sum = (r.map acat).sum := by
                rw [List.map_map]
                congr 1
                exact List.map_congr_left (fun v _ => tv_cat _ v)
              have hPc : ∀ U : State, U.heap = H → s.WarmedH U.vm → er_P D cI cR cW B b L tB tF xs as M (as.map (tv (er_ad B b tB tF))).toArray U := fun U hU hW => ⟨rfl, er_S_moved hS0 hW (by rw [hU]; exact hS.1) (fun q h1 h2 => by rw [hU]; exact hS.2.1 q h1 h2), by rw [hU]; exact hP⟩
              have hgo : ∀ (H1 : Heap) (locs1 : List Loc), va_P D er_cl (er_ws (er_ad B b tB tF) cI cR cW M2) H1 → scrM L xs M2 → va_S (fun q => B ≤ q) s.heap H1 locs1 → W p l e R s m args below meth c H1 locs1 cells slots Q (F0 m (pc + 3) lj ((w.map (tv (er_ad B b tB tF))).toList ++ r.map (tv (er_ad B b tB tF)))) := by
                intro H1 locs1 hP1 hM2 hS1
                have h9 := ih (d' + 1) Y (pc + 3) ls (w.toList ++ r) M2 v M1 h p e R s m args below meth c H1 locs1 cells slots Q lj C0 hR1 hR2 hP1 hS1 hl hM2 hE
                rw [List.map_append] at h9
                cases w with
                | none => exact h9
                | some w => exact h9
              rcases hk with ⟨h1, h3, k, j, ps, h4, h5, h6, h7, h8⟩ | ⟨h1, h3, h4, h5⟩
              · subst h1
                rw [h3] at z7
                simp only [Bool.false_eq_true, if_false] at z7
                obtain ⟨z7, z8, z9⟩ := z7
                subst h8
                subst h4
                have he := er_ws_at (ad := er_ad B b tB tF) (cI := cI) (cR := cR) (cW := cW) (M := M) (show mtK Z < 9 by omega) h7
                rw [ent_obj _ _ _ _ _ _ z9] at he
                have hK := hS0.2.1
                have hrec := va_recv hK hP (er_cl_at z9) he
                refine er_call (va_runV (As := ps.map (tv (er_ad B b tB tF))) (b := er_ad B b tB tF (mtK Z) j) (C := (mtN Z).cls) (n := mtA Z) (index := i) ⟨hx, hb, hml, hown, hts⟩ hM1
                  ⟨⟨rfl, rfl, hroom.1, hroom.2, pay_in hts (er_good_in Z z1), List.mem_cons_self, hts _ z1, hts _ z2, ⟨z5.1, z5.2.1⟩, fun sig hsig => by
                    have h2 := z5.2.2
                    rw [hsig] at h2
                    exact (Option.some.inj h2).symm, hts _ hlk⟩, hts _ z7, hts _ z8⟩
                  ⟨er_P_blind, by rw [z3]; exact hrec, hPc⟩ rfl (by rw [List.length_map]; exact h5) hl.2.1 (by
                    show st.map (tv (er_ad B b tB tF)) = _
                    rw [h6, List.map_append, List.map_reverse, List.map_cons]
                    rfl) (lv_room (by rw [hs2]; exact hsum)) hd ⟨by omega, by omega⟩) hS hgo
              · subst h1
                rw [h3] at z7
                simp only [if_true] at z7
                exact er_call (va_runS (As := as.map (tv (er_ad B b tB tF))) (n := mtA Z) (index := i) ⟨hx, hb, hml, hown, hts⟩ hM1
                  ⟨⟨rfl, rfl, hroom.1, hroom.2, pay_in hts (er_good_in Z z1), List.mem_cons_self, hts _ z1, hts _ z2, ⟨z5.1, z5.2.1⟩, fun sig hsig => by
                    have h2 := z5.2.2
                    rw [hsig] at h2
                    exact (Option.some.inj h2).symm, hts _ hlk⟩, hts _ z7⟩
                  ⟨er_P_blind, hPc⟩ rfl (by rw [List.length_map]; exact h4) hl.2.1 (by
                    show st.map (tv (er_ad B b tB tF)) = _
                    rw [h5, List.map_append, List.map_reverse]) (lv_room (by rw [hs2]; exact hsum)) hd ⟨by omega, by omega⟩) hS hgo
        · -- the end
          dsimp only at h
          obtain ⟨h1, h2⟩ := ex1_ret hd hx1
          simp only [Option.some.injEq, Prod.mk.injEq] at h
          obtain ⟨rfl, rfl⟩ := h
          intro p e R s m args below meth c H locs cells slots Q lj C0 hR1 hR2 hP hS hl hM hE
          rw [h2]
          exact hE pc lj H locs h1 hP hS hM
end SIM
end
section
theorem run_mono : ∀ {n d : Nat} {Y : MT} {pc : Nat} {ls : ALs} {st : List AV} {M : AMem} {x : Option AV × AMem} (k : Nat), run n d Y pc ls st M = some x → run (n + k) d Y pc ls st M = some x := by
  intro n
  induction n with
  | zero => intro d Y pc ls st M x k h; simp [run] at h
  | succ n ih =>
    intro d Y pc ls st M x k h
    rw [show n + 1 + k = (n + k) + 1 by omega]
    unfold run at h ⊢
    cases hd : decode (mtC Y) pc with
    | error er => rw [hd] at h; cases h
    | ok q =>
      obtain ⟨ins, len⟩ := q
      rw [hd] at h
      dsimp only at h ⊢
      cases hx1 : ex1 Y ins len pc ls st M with
      | none => rw [hx1] at h; cases h
      | some R1 =>
        rw [hx1] at h
        rcases R1 with ⟨pc', ls', st', M'⟩ | ⟨Z, as, r⟩ | w
        · exact ih k h
        · dsimp only at h ⊢
          cases d with
          | zero => cases h
          | succ d' =>
            dsimp only at h ⊢
            cases hz : run n d' Z 0 (lini Z as) [] M with
            | none => rw [hz] at h; cases h
            | some q =>
              rw [hz] at h
              rw [ih k hz]
              exact ih k h
        · exact h
section RULES
variable {d : Nat} {Y : MT} {pc : Nat} {ls : ALs} {st : List AV} {M : AMem} {Q : Option AV → AMem → Prop}
theorem q_next {ins : ClassFile.Instr} {len pc' : Nat} {ls' : ALs} {st' : List AV} {M' : AMem} (hd : decode (mtC Y) pc = .ok (ins, len)) (hx : ex1 Y ins len pc ls st M = some (.inl (pc', ls', st', M'))) (k : RunQ d Y pc' ls' st' M' Q) : RunQ d Y pc ls st M Q := by
  obtain ⟨n, v, M1, h1, h2⟩ := k
  refine ⟨n + 1, v, M1, ?_, h2⟩
  unfold run
  rw [hd]
  dsimp only
  rw [hx]
  exact h1
theorem q_ret {ins : ClassFile.Instr} {len : Nat} {v : Option AV} (hd : decode (mtC Y) pc = .ok (ins, len)) (hx : ex1 Y ins len pc ls st M = some (.inr (.inr v))) (k : Q v M) : RunQ d Y pc ls st M Q := by
  refine ⟨1, v, M, ?_, k⟩
  unfold run
  rw [hd]
  dsimp only
  rw [hx]
theorem q_call {ins : ClassFile.Instr} {len : Nat} {Z : MT} {as r : List AV} (hd : decode (mtC Y) pc = .ok (ins, len)) (hx : ex1 Y ins len pc ls st M = some (.inr (.inl (Z, as, r)))) (k : CallQ d Z as M (fun v M1 => RunQ (d + 1) Y (pc + 3) ls (v.toList ++ r) M1 Q)) : RunQ (d + 1) Y pc ls st M Q := by
  obtain ⟨n, v, M1, h1, n2, v2, M2, h2, h3⟩ := k
  refine ⟨n + n2 + 1, v2, M2, ?_, h3⟩
  unfold run
  rw [hd]
  dsimp only
  rw [hx]
  dsimp only
  rw [run_mono n2 h1]
  dsimp only
  rw [Nat.add_comm n n2]
  exact run_mono n h2
theorem RunQ.mono {Q' : Option AV → AMem → Prop} (h : RunQ d Y pc ls st M Q) (k : ∀ v M', Q v M' → Q' v M') : RunQ d Y pc ls st M Q' := by
  obtain ⟨n, v, M1, h1, h2⟩ := h
  exact ⟨n, v, M1, h1, k _ _ h2⟩
def CallI (d : Nat) (Y : MT) (as : List AV) (M : AMem) (Q : Int → AMem → Prop) : Prop := CallQ d Y as M (fun v M1 => ∃ x, v = some (vI x) ∧ Q x M1)
def CallL (d : Nat) (Y : MT) (as : List AV) (M : AMem) (Q : Int → AMem → Prop) : Prop := CallQ d Y as M (fun v M1 => ∃ x, v = some (vL x) ∧ Q x M1)
def CallV (d : Nat) (Y : MT) (as : List AV) (M : AMem) (Q : AMem → Prop) : Prop := CallQ d Y as M (fun v M1 => v = none ∧ Q M1)
def CallR (d : Nat) (kd : Nat) (Y : MT) (as : List AV) (M : AMem) (Q : Nat → AMem → Prop) : Prop := CallQ d Y as M (fun v M1 => ∃ i, v = some (vR kd i) ∧ Q i M1)
theorem CallI.mono {as : List AV} {P P' : Int → AMem → Prop} (k : ∀ x M', P x M' → P' x M') (h : CallI d Y as M P) : CallI d Y as M P' := RunQ.mono h (fun _ _ ⟨x, e, hx⟩ => ⟨x, e, k _ _ hx⟩)
theorem CallL.mono {as : List AV} {P P' : Int → AMem → Prop} (k : ∀ x M', P x M' → P' x M') (h : CallL d Y as M P) : CallL d Y as M P' := RunQ.mono h (fun _ _ ⟨x, e, hx⟩ => ⟨x, e, k _ _ hx⟩)
theorem CallV.mono {as : List AV} {P P' : AMem → Prop} (k : ∀ M', P M' → P' M') (h : CallV d Y as M P) : CallV d Y as M P' := RunQ.mono h (fun _ _ ⟨e, hx⟩ => ⟨e, k _ hx⟩)
theorem CallR.mono {kd : Nat} {as : List AV} {P P' : Nat → AMem → Prop} (k : ∀ x M', P x M' → P' x M') (h : CallR d kd Y as M P) : CallR d kd Y as M P' := RunQ.mono h (fun _ _ ⟨x, e, hx⟩ => ⟨x, e, k _ _ hx⟩)
/-- the call's form, virtual -/
theorem ex1_virt {i : Nat} {Z : MT} {k j : Nat} {ps r : List AV} (hm : mthT (mtK Y) i = some Z) (hs : mtS Z = false) (hn : ps.length = mtA Z) (hst : st = ps.reverse ++ vR k j :: r) (ho : okH k j = true) (hk : k = mtK Z) (h8 : (r.map acat).sum ≤ 8) (hc : ((vR k j :: ps).map acat).sum = (vR k j :: ps).length) (hl : (vR k j :: ps).length ≤ mtL Z) : ex1 Y (.invokevirtual i) 3 pc ls st M = some (.inr (.inl (Z, vR k j :: ps, r))) := by
  have e1 : st.drop (mtA Z) = vR k j :: r := by rw [hst, ← hn, ← List.length_reverse, List.drop_left]
  have e2 : (st.take (mtA Z)).reverse = ps := by rw [hst, ← hn, ← List.length_reverse, List.take_left, List.reverse_reverse]
  have e3 : mtA Z < st.length := by rw [hst, ← hn]; simp
  unfold ex1
  simp only [hm, oG, aVirt, hs, e1, e2, e3, and_self, if_true]
  show (if okH k j = true then _ else _) = _
  rw [if_pos ho, if_pos hk, aCall, if_pos ⟨rfl, h8, hc, hl⟩]
theorem ex1_stat {i : Nat} {Z : MT} {as r : List AV} (hb : bltT (mtK Y) i = none) (hm : mthT (mtK Y) i = some Z) (hs : mtS Z = true) (hn : as.length = mtA Z) (hst : st = as.reverse ++ r) (h8 : (r.map acat).sum ≤ 8) (hc : (as.map acat).sum = as.length) (hl : as.length ≤ mtL Z) : ex1 Y (.invokestatic i) 3 pc ls st M = some (.inr (.inl (Z, as, r))) := by
  have e1 : st.drop (mtA Z) = r := by rw [hst, ← hn, ← List.length_reverse, List.drop_left]
  have e2 : (st.take (mtA Z)).reverse = as := by rw [hst, ← hn, ← List.length_reverse, List.take_left, List.reverse_reverse]
  have e3 : mtA Z ≤ st.length := by rw [hst, ← hn]; simp
  unfold ex1
  simp only [hb, hm, oG, aStat, hs, e1, e2, e3, and_self, if_true]
  rw [aCall, if_pos ⟨rfl, h8, hc, hl⟩]

theorem q_vI {i : Nat} {Z : MT} {k j : Nat} (pc : Nat) (ps r : List AV) (hd : decode (mtC Y) pc = .ok (.invokevirtual i, 3)) (hm : mthT (mtK Y) i = some Z) (hs : mtS Z = false) (hn : ps.length = mtA Z) (hst : st = ps.reverse ++ vR k j :: r) (ho : okH k j = true) (hk : k = mtK Z) (h8 : Nat.ble (r.map acat).sum 8 = true) (hc : ((vR k j :: ps).map acat).sum = (vR k j :: ps).length) (hl : Nat.ble (vR k j :: ps).length (mtL Z) = true)
    (kk : CallI d Z (vR k j :: ps) M (fun x M1 => RunQ (d + 1) Y (pc + 3) ls (vI x :: r) M1 Q)) : RunQ (d + 1) Y pc ls st M Q := by
  refine q_call hd (ex1_virt hm hs hn hst ho hk (Nat.le_of_ble_eq_true h8) hc (Nat.le_of_ble_eq_true hl)) (RunQ.mono kk ?_)
  rintro v M1 ⟨x, rfl, hx⟩; exact hx
theorem q_sI {i : Nat} {Z : MT} (pc : Nat) (as r : List AV) (hd : decode (mtC Y) pc = .ok (.invokestatic i, 3)) (hb : bltT (mtK Y) i = none) (hm : mthT (mtK Y) i = some Z) (hs : mtS Z = true) (hn : as.length = mtA Z) (hst : st = as.reverse ++ r) (h8 : Nat.ble (r.map acat).sum 8 = true) (hc : (as.map acat).sum = as.length) (hl : Nat.ble as.length (mtL Z) = true)
    (kk : CallI d Z as M (fun x M1 => RunQ (d + 1) Y (pc + 3) ls (vI x :: r) M1 Q)) : RunQ (d + 1) Y pc ls st M Q := by
  refine q_call hd (ex1_stat hb hm hs hn hst (Nat.le_of_ble_eq_true h8) hc (Nat.le_of_ble_eq_true hl)) (RunQ.mono kk ?_)
  rintro v M1 ⟨x, rfl, hx⟩; exact hx
theorem q_vL {i : Nat} {Z : MT} {k j : Nat} (pc : Nat) (ps r : List AV) (hd : decode (mtC Y) pc = .ok (.invokevirtual i, 3)) (hm : mthT (mtK Y) i = some Z) (hs : mtS Z = false) (hn : ps.length = mtA Z) (hst : st = ps.reverse ++ vR k j :: r) (ho : okH k j = true) (hk : k = mtK Z) (h8 : Nat.ble (r.map acat).sum 8 = true) (hc : ((vR k j :: ps).map acat).sum = (vR k j :: ps).length) (hl : Nat.ble (vR k j :: ps).length (mtL Z) = true)
    (kk : CallL d Z (vR k j :: ps) M (fun x M1 => RunQ (d + 1) Y (pc + 3) ls (vL x :: r) M1 Q)) : RunQ (d + 1) Y pc ls st M Q := by
  refine q_call hd (ex1_virt hm hs hn hst ho hk (Nat.le_of_ble_eq_true h8) hc (Nat.le_of_ble_eq_true hl)) (RunQ.mono kk ?_)
  rintro v M1 ⟨x, rfl, hx⟩; exact hx
theorem q_sL {i : Nat} {Z : MT} (pc : Nat) (as r : List AV) (hd : decode (mtC Y) pc = .ok (.invokestatic i, 3)) (hb : bltT (mtK Y) i = none) (hm : mthT (mtK Y) i = some Z) (hs : mtS Z = true) (hn : as.length = mtA Z) (hst : st = as.reverse ++ r) (h8 : Nat.ble (r.map acat).sum 8 = true) (hc : (as.map acat).sum = as.length) (hl : Nat.ble as.length (mtL Z) = true)
    (kk : CallL d Z as M (fun x M1 => RunQ (d + 1) Y (pc + 3) ls (vL x :: r) M1 Q)) : RunQ (d + 1) Y pc ls st M Q := by
  refine q_call hd (ex1_stat hb hm hs hn hst (Nat.le_of_ble_eq_true h8) hc (Nat.le_of_ble_eq_true hl)) (RunQ.mono kk ?_)
  rintro v M1 ⟨x, rfl, hx⟩; exact hx
theorem q_vV {i : Nat} {Z : MT} {k j : Nat} (pc : Nat) (ps r : List AV) (hd : decode (mtC Y) pc = .ok (.invokevirtual i, 3)) (hm : mthT (mtK Y) i = some Z) (hs : mtS Z = false) (hn : ps.length = mtA Z) (hst : st = ps.reverse ++ vR k j :: r) (ho : okH k j = true) (hk : k = mtK Z) (h8 : Nat.ble (r.map acat).sum 8 = true) (hc : ((vR k j :: ps).map acat).sum = (vR k j :: ps).length) (hl : Nat.ble (vR k j :: ps).length (mtL Z) = true)
    (kk : CallV d Z (vR k j :: ps) M (fun M1 => RunQ (d + 1) Y (pc + 3) ls (r) M1 Q)) : RunQ (d + 1) Y pc ls st M Q := by
  refine q_call hd (ex1_virt hm hs hn hst ho hk (Nat.le_of_ble_eq_true h8) hc (Nat.le_of_ble_eq_true hl)) (RunQ.mono kk ?_)
  rintro v M1 ⟨rfl, hx⟩; exact hx
theorem q_sV {i : Nat} {Z : MT} (pc : Nat) (as r : List AV) (hd : decode (mtC Y) pc = .ok (.invokestatic i, 3)) (hb : bltT (mtK Y) i = none) (hm : mthT (mtK Y) i = some Z) (hs : mtS Z = true) (hn : as.length = mtA Z) (hst : st = as.reverse ++ r) (h8 : Nat.ble (r.map acat).sum 8 = true) (hc : (as.map acat).sum = as.length) (hl : Nat.ble as.length (mtL Z) = true)
    (kk : CallV d Z as M (fun M1 => RunQ (d + 1) Y (pc + 3) ls (r) M1 Q)) : RunQ (d + 1) Y pc ls st M Q := by
  refine q_call hd (ex1_stat hb hm hs hn hst (Nat.le_of_ble_eq_true h8) hc (Nat.le_of_ble_eq_true hl)) (RunQ.mono kk ?_)
  rintro v M1 ⟨rfl, hx⟩; exact hx
theorem q_vR {i : Nat} {Z : MT} {k j : Nat} {kd : Nat} (pc : Nat) (ps r : List AV) (hd : decode (mtC Y) pc = .ok (.invokevirtual i, 3)) (hm : mthT (mtK Y) i = some Z) (hs : mtS Z = false) (hn : ps.length = mtA Z) (hst : st = ps.reverse ++ vR k j :: r) (ho : okH k j = true) (hk : k = mtK Z) (h8 : Nat.ble (r.map acat).sum 8 = true) (hc : ((vR k j :: ps).map acat).sum = (vR k j :: ps).length) (hl : Nat.ble (vR k j :: ps).length (mtL Z) = true)
    (kk : CallR d kd Z (vR k j :: ps) M (fun x M1 => RunQ (d + 1) Y (pc + 3) ls (vR kd x :: r) M1 Q)) : RunQ (d + 1) Y pc ls st M Q := by
  refine q_call hd (ex1_virt hm hs hn hst ho hk (Nat.le_of_ble_eq_true h8) hc (Nat.le_of_ble_eq_true hl)) (RunQ.mono kk ?_)
  rintro v M1 ⟨x, rfl, hx⟩; exact hx
theorem q_sR {i : Nat} {Z : MT} {kd : Nat} (pc : Nat) (as r : List AV) (hd : decode (mtC Y) pc = .ok (.invokestatic i, 3)) (hb : bltT (mtK Y) i = none) (hm : mthT (mtK Y) i = some Z) (hs : mtS Z = true) (hn : as.length = mtA Z) (hst : st = as.reverse ++ r) (h8 : Nat.ble (r.map acat).sum 8 = true) (hc : (as.map acat).sum = as.length) (hl : Nat.ble as.length (mtL Z) = true)
    (kk : CallR d kd Z as M (fun x M1 => RunQ (d + 1) Y (pc + 3) ls (vR kd x :: r) M1 Q)) : RunQ (d + 1) Y pc ls st M Q := by
  refine q_call hd (ex1_stat hb hm hs hn hst (Nat.le_of_ble_eq_true h8) hc (Nat.le_of_ble_eq_true hl)) (RunQ.mono kk ?_)
  rintro v M1 ⟨x, rfl, hx⟩; exact hx
theorem q_iconst {n : Int} (pc : Nat) (hd : decode (mtC Y) pc = .ok (.iconst n, 1)) (k : RunQ d Y (pc + 1) ls (vI n :: st) M Q) : RunQ d Y pc ls (st) M Q := q_next hd (rfl) k
theorem q_bipush {n : Int} (pc : Nat) (hd : decode (mtC Y) pc = .ok (.bipush n, 2)) (hn : -128 ≤ n ∧ n < 128) (k : RunQ d Y (pc + 2) ls (vI n :: st) M Q) : RunQ d Y pc ls (st) M Q := q_next hd (by show (if _ then _ else _) = _; rw [if_pos hn]; rfl) k
theorem q_sipush {n : Int} (pc : Nat) (hd : decode (mtC Y) pc = .ok (.sipush n, 3)) (hn : -32768 ≤ n ∧ n < 32768) (k : RunQ d Y (pc + 3) ls (vI n :: st) M Q) : RunQ d Y pc ls (st) M Q := q_next hd (by show (if _ then _ else _) = _; rw [if_pos hn]; rfl) k
theorem q_ldc {i : Nat} {z : Int} (pc : Nat) (hd : decode (mtC Y) pc = .ok (.ldc i, 2)) (hc : cstT (mtK Y) i = some z) (k : RunQ d Y (pc + 2) ls (vI z :: st) M Q) : RunQ d Y pc ls (st) M Q := q_next hd (by show oG (cstT (mtK Y) i) _ = _; rw [hc]; rfl) k
theorem q_ldc_w {i : Nat} {z : Int} (pc : Nat) (hd : decode (mtC Y) pc = .ok (.ldc_w i, 3)) (hc : cstT (mtK Y) i = some z) (k : RunQ d Y (pc + 3) ls (vI z :: st) M Q) : RunQ d Y pc ls (st) M Q := q_next hd (by show oG (cstT (mtK Y) i) _ = _; rw [hc]; rfl) k
theorem q_ldc2_w {i : Nat} {z : Int} (pc : Nat) (hd : decode (mtC Y) pc = .ok (.ldc2_w i, 3)) (hc : lonT (mtK Y) i = some z) (k : RunQ d Y (pc + 3) ls (vL z :: st) M Q) : RunQ d Y pc ls (st) M Q := q_next hd (by show oG (lonT (mtK Y) i) _ = _; rw [hc]; rfl) k
theorem q_iload {i : Nat} {z : Int} (pc : Nat) (hd : decode (mtC Y) pc = .ok (.iload i, 2)) (hv : ls[(i : Nat)]? = some (some (vI z))) (k : RunQ d Y (pc + 2) ls (vI z :: st) M Q) : RunQ d Y pc ls (st) M Q := q_next hd (by show aLoadI 2 2 pc i ls st M = _; rw [aLoadI, if_pos rfl, gL, hv]; rfl) k
theorem q_iload_n {i : Fin 4} {z : Int} (pc : Nat) (hd : decode (mtC Y) pc = .ok (.iload_n i, 1)) (hv : ls[(i : Nat)]? = some (some (vI z))) (k : RunQ d Y (pc + 1) ls (vI z :: st) M Q) : RunQ d Y pc ls (st) M Q := q_next hd (by show aLoadI 1 1 pc i ls st M = _; rw [aLoadI, if_pos rfl, gL, hv]; rfl) k
theorem q_lload {i : Nat} {z : Int} (pc : Nat) (hd : decode (mtC Y) pc = .ok (.lload i, 2)) (hv : ls[(i : Nat)]? = some (some (vL z))) (k : RunQ d Y (pc + 2) ls (vL z :: st) M Q) : RunQ d Y pc ls (st) M Q := q_next hd (by show aLoadL 2 2 pc i ls st M = _; rw [aLoadL, if_pos rfl, gL, hv]; rfl) k
theorem q_lload_n {i : Fin 4} {z : Int} (pc : Nat) (hd : decode (mtC Y) pc = .ok (.lload_n i, 1)) (hv : ls[(i : Nat)]? = some (some (vL z))) (k : RunQ d Y (pc + 1) ls (vL z :: st) M Q) : RunQ d Y pc ls (st) M Q := q_next hd (by show aLoadL 1 1 pc i ls st M = _; rw [aLoadL, if_pos rfl, gL, hv]; rfl) k
theorem q_aload {i : Nat} {a j : Nat} (pc : Nat) (hd : decode (mtC Y) pc = .ok (.aload i, 2)) (hv : ls[(i : Nat)]? = some (some (vR a j))) (k : RunQ d Y (pc + 2) ls (vR a j :: st) M Q) : RunQ d Y pc ls (st) M Q := q_next hd (by show aLoadA 2 2 pc i ls st M = _; rw [aLoadA, if_pos rfl, gL, hv]; rfl) k
theorem q_aload_n {i : Fin 4} {a j : Nat} (pc : Nat) (hd : decode (mtC Y) pc = .ok (.aload_n i, 1)) (hv : ls[(i : Nat)]? = some (some (vR a j))) (k : RunQ d Y (pc + 1) ls (vR a j :: st) M Q) : RunQ d Y pc ls (st) M Q := q_next hd (by show aLoadA 1 1 pc i ls st M = _; rw [aLoadA, if_pos rfl, gL, hv]; rfl) k
theorem q_istore {i : Nat} {z : Int} {ls' : ALs} (pc : Nat) (hd : decode (mtC Y) pc = .ok (.istore i, 2)) (hok : stOK ls (i : Nat) = true) (hl : ls.set (i : Nat) (some (vI z)) = ls') (k : RunQ d Y (pc + 2) ls' (st) M Q) : RunQ d Y pc ls (vI z :: st) M Q := q_next hd (by show aStoreI 2 2 pc i ls _ M = _; rw [aStoreI, if_pos ⟨rfl, hok⟩, ← hl]; rfl) k
theorem q_istore_n {i : Fin 4} {z : Int} {ls' : ALs} (pc : Nat) (hd : decode (mtC Y) pc = .ok (.istore_n i, 1)) (hok : stOK ls (i : Nat) = true) (hl : ls.set (i : Nat) (some (vI z)) = ls') (k : RunQ d Y (pc + 1) ls' (st) M Q) : RunQ d Y pc ls (vI z :: st) M Q := q_next hd (by show aStoreI 1 1 pc i ls _ M = _; rw [aStoreI, if_pos ⟨rfl, hok⟩, ← hl]; rfl) k
theorem q_astore {i : Nat} {a j : Nat} {ls' : ALs} (pc : Nat) (hd : decode (mtC Y) pc = .ok (.astore i, 2)) (hok : stOK ls (i : Nat) = true) (hl : ls.set (i : Nat) (some (vR a j)) = ls') (k : RunQ d Y (pc + 2) ls' (st) M Q) : RunQ d Y pc ls (vR a j :: st) M Q := q_next hd (by show aStoreA 2 2 pc i ls _ M = _; rw [aStoreA, if_pos ⟨rfl, hok⟩, ← hl]; rfl) k
theorem q_astore_n {i : Fin 4} {a j : Nat} {ls' : ALs} (pc : Nat) (hd : decode (mtC Y) pc = .ok (.astore_n i, 1)) (hok : stOK ls (i : Nat) = true) (hl : ls.set (i : Nat) (some (vR a j)) = ls') (k : RunQ d Y (pc + 1) ls' (st) M Q) : RunQ d Y pc ls (vR a j :: st) M Q := q_next hd (by show aStoreA 1 1 pc i ls _ M = _; rw [aStoreA, if_pos ⟨rfl, hok⟩, ← hl]; rfl) k
theorem q_lstore {i : Nat} {z : Int} {ls' : ALs} (pc : Nat) (hd : decode (mtC Y) pc = .ok (.lstore i, 2)) (hok : stOK ls (i : Nat) = true) (hi : Nat.ble ((i : Nat) + 1 + 1) ls.length = true) (hl : (ls.set (i : Nat) (some (vL z))).set ((i : Nat) + 1) none = ls') (k : RunQ d Y (pc + 2) ls' (st) M Q) : RunQ d Y pc ls (vL z :: st) M Q := q_next hd (by show aStoreL 2 2 pc i ls _ M = _; rw [aStoreL, if_pos ⟨rfl, hok, Nat.le_of_ble_eq_true hi⟩, ← hl]; rfl) k
theorem q_lstore_n {i : Fin 4} {z : Int} {ls' : ALs} (pc : Nat) (hd : decode (mtC Y) pc = .ok (.lstore_n i, 1)) (hok : stOK ls (i : Nat) = true) (hi : Nat.ble ((i : Nat) + 1 + 1) ls.length = true) (hl : (ls.set (i : Nat) (some (vL z))).set ((i : Nat) + 1) none = ls') (k : RunQ d Y (pc + 1) ls' (st) M Q) : RunQ d Y pc ls (vL z :: st) M Q := q_next hd (by show aStoreL 1 1 pc i ls _ M = _; rw [aStoreL, if_pos ⟨rfl, hok, Nat.le_of_ble_eq_true hi⟩, ← hl]; rfl) k
theorem q_iinc {i : Nat} {n z : Int} {ls' : ALs} (pc : Nat) (hd : decode (mtC Y) pc = .ok (.iinc i n, 3)) (hok : stOK ls i = true) (hv : ls[i]? = some (some (vI z))) (hl : ls.set i (some (vI (z + n))) = ls') (k : RunQ d Y (pc + 3) ls' (st) M Q) : RunQ d Y pc ls (st) M Q := q_next hd (by show (if _ then _ else _) = _; rw [if_pos ⟨rfl, hok⟩, gL, hv, ← hl]; rfl) k
theorem q_iadd {x y : Int} (pc : Nat) (hd : decode (mtC Y) pc = .ok (.iadd, 1)) (k : RunQ d Y (pc + 1) ls (vI (x + y) :: st) M Q) : RunQ d Y pc ls (vI y :: vI x :: st) M Q := q_next hd (rfl) k
theorem q_isub {x y : Int} (pc : Nat) (hd : decode (mtC Y) pc = .ok (.isub, 1)) (k : RunQ d Y (pc + 1) ls (vI (x - y) :: st) M Q) : RunQ d Y pc ls (vI y :: vI x :: st) M Q := q_next hd (rfl) k
theorem q_imul {x y : Int} (pc : Nat) (hd : decode (mtC Y) pc = .ok (.imul, 1)) (k : RunQ d Y (pc + 1) ls (vI (x * y) :: st) M Q) : RunQ d Y pc ls (vI y :: vI x :: st) M Q := q_next hd (rfl) k
theorem q_iand {x y : Int} (pc : Nat) (hd : decode (mtC Y) pc = .ok (.iand, 1)) (k : RunQ d Y (pc + 1) ls (vI (opAnd x y) :: st) M Q) : RunQ d Y pc ls (vI y :: vI x :: st) M Q := q_next hd (rfl) k
theorem q_ixor {x y : Int} (pc : Nat) (hd : decode (mtC Y) pc = .ok (.ixor, 1)) (k : RunQ d Y (pc + 1) ls (vI (opXor x y) :: st) M Q) : RunQ d Y pc ls (vI y :: vI x :: st) M Q := q_next hd (rfl) k
theorem q_ishr {x y : Int} (pc : Nat) (hd : decode (mtC Y) pc = .ok (.ishr, 1)) (k : RunQ d Y (pc + 1) ls (vI (opShr x y) :: st) M Q) : RunQ d Y pc ls (vI y :: vI x :: st) M Q := q_next hd (rfl) k
theorem q_iushr {x y : Int} (pc : Nat) (hd : decode (mtC Y) pc = .ok (.iushr, 1)) (k : RunQ d Y (pc + 1) ls (vI (opUshr x y) :: st) M Q) : RunQ d Y pc ls (vI y :: vI x :: st) M Q := q_next hd (rfl) k
theorem q_idiv {x y : Int} (pc : Nat) (hd : decode (mtC Y) pc = .ok (.idiv, 1)) (hy : ¬ wI y = 0) (k : RunQ d Y (pc + 1) ls (vI (Int.tdiv (wI x) (wI y)) :: st) M Q) : RunQ d Y pc ls (vI y :: vI x :: st) M Q := q_next hd (by show aDiv 1 pc _ ls _ M = _; rw [aDiv, if_pos rfl]; show (if wI y = 0 then none else _) = _; rw [if_neg hy]; rfl) k
theorem q_irem {x y : Int} (pc : Nat) (hd : decode (mtC Y) pc = .ok (.irem, 1)) (hy : ¬ wI y = 0) (k : RunQ d Y (pc + 1) ls (vI (Int.tmod (wI x) (wI y)) :: st) M Q) : RunQ d Y pc ls (vI y :: vI x :: st) M Q := q_next hd (by show aDiv 1 pc _ ls _ M = _; rw [aDiv, if_pos rfl]; show (if wI y = 0 then none else _) = _; rw [if_neg hy]; rfl) k
theorem q_i2l {x : Int} (pc : Nat) (hd : decode (mtC Y) pc = .ok (.i2l, 1)) (k : RunQ d Y (pc + 1) ls (vL (wI x) :: st) M Q) : RunQ d Y pc ls (vI x :: st) M Q := q_next hd (rfl) k
theorem q_ladd {x y : Int} (pc : Nat) (hd : decode (mtC Y) pc = .ok (.ladd, 1)) (k : RunQ d Y (pc + 1) ls (vL (x + y) :: st) M Q) : RunQ d Y pc ls (vL y :: vL x :: st) M Q := q_next hd (rfl) k
theorem q_lmul {x y : Int} (pc : Nat) (hd : decode (mtC Y) pc = .ok (.lmul, 1)) (k : RunQ d Y (pc + 1) ls (vL (x * y) :: st) M Q) : RunQ d Y pc ls (vL y :: vL x :: st) M Q := q_next hd (rfl) k
theorem q_lcmp {x y : Int} (pc : Nat) (hd : decode (mtC Y) pc = .ok (.lcmp, 1)) (k : RunQ d Y (pc + 1) ls (vI (opCmp x y) :: st) M Q) : RunQ d Y pc ls (vL y :: vL x :: st) M Q := q_next hd (rfl) k
theorem q_dup {v : AV} (pc : Nat) (hd : decode (mtC Y) pc = .ok (.dup, 1)) (hv : acat v = 1) (k : RunQ d Y (pc + 1) ls (v :: v :: st) M Q) : RunQ d Y pc ls (v :: st) M Q := q_next hd (by show (if 1 = 1 then _ else none) = _; rw [if_pos rfl]; show (if acat v = 1 then _ else _) = _; rw [if_pos hv]; rfl) k
theorem q_pop {v : AV} (pc : Nat) (hd : decode (mtC Y) pc = .ok (.pop, 1)) (hv : acat v = 1) (k : RunQ d Y (pc + 1) ls (st) M Q) : RunQ d Y pc ls (v :: st) M Q := q_next hd (by show (if 1 = 1 then _ else none) = _; rw [if_pos rfl]; show (if acat v = 1 then _ else _) = _; rw [if_pos hv]; rfl) k
theorem q_if_eq {x : Int} {off : Int} (pc tgt : Nat) (hd : decode (mtC Y) pc = .ok (.ifCond .eq off, 3)) (hj : jok pc off = true) (ht : jmp pc off = tgt) (kt : wI x = 0 → RunQ d Y tgt ls st M Q) (kf : ¬ (wI x = 0) → RunQ d Y (pc + 3) ls st M Q) : RunQ d Y pc ls (vI x :: st) M Q := by
  by_cases h : wI x = 0
  · refine q_next hd (pc' := tgt) ?_ (kt h)
    show aBr 3 pc off (decide (wI x = 0)) ls st M = _
    rw [aBr, if_pos ⟨rfl, hj⟩, if_pos (decide_eq_true h), ht]
    rfl
  · refine q_next hd ?_ (kf h)
    show aBr 3 pc off (decide (wI x = 0)) ls st M = _
    rw [aBr, if_pos ⟨rfl, hj⟩, if_neg (fun z => h (of_decide_eq_true z))]
    rfl
theorem q_icmp_eq {x y : Int} {off : Int} (pc tgt : Nat) (hd : decode (mtC Y) pc = .ok (.if_icmp .eq off, 3)) (hj : jok pc off = true) (ht : jmp pc off = tgt) (kt : wI x = wI y → RunQ d Y tgt ls st M Q) (kf : ¬ (wI x = wI y) → RunQ d Y (pc + 3) ls st M Q) : RunQ d Y pc ls (vI y :: vI x :: st) M Q := by
  by_cases h : wI x = wI y
  · refine q_next hd (pc' := tgt) ?_ (kt h)
    show aBr 3 pc off (decide (wI x = wI y)) ls st M = _
    rw [aBr, if_pos ⟨rfl, hj⟩, if_pos (decide_eq_true h), ht]
    rfl
  · refine q_next hd ?_ (kf h)
    show aBr 3 pc off (decide (wI x = wI y)) ls st M = _
    rw [aBr, if_pos ⟨rfl, hj⟩, if_neg (fun z => h (of_decide_eq_true z))]
    rfl
theorem q_if_ne {x : Int} {off : Int} (pc tgt : Nat) (hd : decode (mtC Y) pc = .ok (.ifCond .ne off, 3)) (hj : jok pc off = true) (ht : jmp pc off = tgt) (kt : ¬ wI x = 0 → RunQ d Y tgt ls st M Q) (kf : ¬ (¬ wI x = 0) → RunQ d Y (pc + 3) ls st M Q) : RunQ d Y pc ls (vI x :: st) M Q := by
  by_cases h : ¬ wI x = 0
  · refine q_next hd (pc' := tgt) ?_ (kt h)
    show aBr 3 pc off (decide (¬ wI x = 0)) ls st M = _
    rw [aBr, if_pos ⟨rfl, hj⟩, if_pos (decide_eq_true h), ht]
    rfl
  · refine q_next hd ?_ (kf h)
    show aBr 3 pc off (decide (¬ wI x = 0)) ls st M = _
    rw [aBr, if_pos ⟨rfl, hj⟩, if_neg (fun z => h (of_decide_eq_true z))]
    rfl
theorem q_icmp_ne {x y : Int} {off : Int} (pc tgt : Nat) (hd : decode (mtC Y) pc = .ok (.if_icmp .ne off, 3)) (hj : jok pc off = true) (ht : jmp pc off = tgt) (kt : ¬ wI x = wI y → RunQ d Y tgt ls st M Q) (kf : ¬ (¬ wI x = wI y) → RunQ d Y (pc + 3) ls st M Q) : RunQ d Y pc ls (vI y :: vI x :: st) M Q := by
  by_cases h : ¬ wI x = wI y
  · refine q_next hd (pc' := tgt) ?_ (kt h)
    show aBr 3 pc off (decide (¬ wI x = wI y)) ls st M = _
    rw [aBr, if_pos ⟨rfl, hj⟩, if_pos (decide_eq_true h), ht]
    rfl
  · refine q_next hd ?_ (kf h)
    show aBr 3 pc off (decide (¬ wI x = wI y)) ls st M = _
    rw [aBr, if_pos ⟨rfl, hj⟩, if_neg (fun z => h (of_decide_eq_true z))]
    rfl
theorem q_if_lt {x : Int} {off : Int} (pc tgt : Nat) (hd : decode (mtC Y) pc = .ok (.ifCond .lt off, 3)) (hj : jok pc off = true) (ht : jmp pc off = tgt) (kt : wI x < 0 → RunQ d Y tgt ls st M Q) (kf : ¬ (wI x < 0) → RunQ d Y (pc + 3) ls st M Q) : RunQ d Y pc ls (vI x :: st) M Q := by
  by_cases h : wI x < 0
  · refine q_next hd (pc' := tgt) ?_ (kt h)
    show aBr 3 pc off (decide (wI x < 0)) ls st M = _
    rw [aBr, if_pos ⟨rfl, hj⟩, if_pos (decide_eq_true h), ht]
    rfl
  · refine q_next hd ?_ (kf h)
    show aBr 3 pc off (decide (wI x < 0)) ls st M = _
    rw [aBr, if_pos ⟨rfl, hj⟩, if_neg (fun z => h (of_decide_eq_true z))]
    rfl
theorem q_icmp_lt {x y : Int} {off : Int} (pc tgt : Nat) (hd : decode (mtC Y) pc = .ok (.if_icmp .lt off, 3)) (hj : jok pc off = true) (ht : jmp pc off = tgt) (kt : wI x < wI y → RunQ d Y tgt ls st M Q) (kf : ¬ (wI x < wI y) → RunQ d Y (pc + 3) ls st M Q) : RunQ d Y pc ls (vI y :: vI x :: st) M Q := by
  by_cases h : wI x < wI y
  · refine q_next hd (pc' := tgt) ?_ (kt h)
    show aBr 3 pc off (decide (wI x < wI y)) ls st M = _
    rw [aBr, if_pos ⟨rfl, hj⟩, if_pos (decide_eq_true h), ht]
    rfl
  · refine q_next hd ?_ (kf h)
    show aBr 3 pc off (decide (wI x < wI y)) ls st M = _
    rw [aBr, if_pos ⟨rfl, hj⟩, if_neg (fun z => h (of_decide_eq_true z))]
    rfl
theorem q_if_ge {x : Int} {off : Int} (pc tgt : Nat) (hd : decode (mtC Y) pc = .ok (.ifCond .ge off, 3)) (hj : jok pc off = true) (ht : jmp pc off = tgt) (kt : 0 ≤ wI x → RunQ d Y tgt ls st M Q) (kf : ¬ (0 ≤ wI x) → RunQ d Y (pc + 3) ls st M Q) : RunQ d Y pc ls (vI x :: st) M Q := by
  by_cases h : 0 ≤ wI x
  · refine q_next hd (pc' := tgt) ?_ (kt h)
    show aBr 3 pc off (decide (0 ≤ wI x)) ls st M = _
    rw [aBr, if_pos ⟨rfl, hj⟩, if_pos (decide_eq_true h), ht]
    rfl
  · refine q_next hd ?_ (kf h)
    show aBr 3 pc off (decide (0 ≤ wI x)) ls st M = _
    rw [aBr, if_pos ⟨rfl, hj⟩, if_neg (fun z => h (of_decide_eq_true z))]
    rfl
theorem q_icmp_ge {x y : Int} {off : Int} (pc tgt : Nat) (hd : decode (mtC Y) pc = .ok (.if_icmp .ge off, 3)) (hj : jok pc off = true) (ht : jmp pc off = tgt) (kt : wI y ≤ wI x → RunQ d Y tgt ls st M Q) (kf : ¬ (wI y ≤ wI x) → RunQ d Y (pc + 3) ls st M Q) : RunQ d Y pc ls (vI y :: vI x :: st) M Q := by
  by_cases h : wI y ≤ wI x
  · refine q_next hd (pc' := tgt) ?_ (kt h)
    show aBr 3 pc off (decide (wI y ≤ wI x)) ls st M = _
    rw [aBr, if_pos ⟨rfl, hj⟩, if_pos (decide_eq_true h), ht]
    rfl
  · refine q_next hd ?_ (kf h)
    show aBr 3 pc off (decide (wI y ≤ wI x)) ls st M = _
    rw [aBr, if_pos ⟨rfl, hj⟩, if_neg (fun z => h (of_decide_eq_true z))]
    rfl
theorem q_if_gt {x : Int} {off : Int} (pc tgt : Nat) (hd : decode (mtC Y) pc = .ok (.ifCond .gt off, 3)) (hj : jok pc off = true) (ht : jmp pc off = tgt) (kt : 0 < wI x → RunQ d Y tgt ls st M Q) (kf : ¬ (0 < wI x) → RunQ d Y (pc + 3) ls st M Q) : RunQ d Y pc ls (vI x :: st) M Q := by
  by_cases h : 0 < wI x
  · refine q_next hd (pc' := tgt) ?_ (kt h)
    show aBr 3 pc off (decide (0 < wI x)) ls st M = _
    rw [aBr, if_pos ⟨rfl, hj⟩, if_pos (decide_eq_true h), ht]
    rfl
  · refine q_next hd ?_ (kf h)
    show aBr 3 pc off (decide (0 < wI x)) ls st M = _
    rw [aBr, if_pos ⟨rfl, hj⟩, if_neg (fun z => h (of_decide_eq_true z))]
    rfl
theorem q_icmp_gt {x y : Int} {off : Int} (pc tgt : Nat) (hd : decode (mtC Y) pc = .ok (.if_icmp .gt off, 3)) (hj : jok pc off = true) (ht : jmp pc off = tgt) (kt : wI y < wI x → RunQ d Y tgt ls st M Q) (kf : ¬ (wI y < wI x) → RunQ d Y (pc + 3) ls st M Q) : RunQ d Y pc ls (vI y :: vI x :: st) M Q := by
  by_cases h : wI y < wI x
  · refine q_next hd (pc' := tgt) ?_ (kt h)
    show aBr 3 pc off (decide (wI y < wI x)) ls st M = _
    rw [aBr, if_pos ⟨rfl, hj⟩, if_pos (decide_eq_true h), ht]
    rfl
  · refine q_next hd ?_ (kf h)
    show aBr 3 pc off (decide (wI y < wI x)) ls st M = _
    rw [aBr, if_pos ⟨rfl, hj⟩, if_neg (fun z => h (of_decide_eq_true z))]
    rfl
theorem q_if_le {x : Int} {off : Int} (pc tgt : Nat) (hd : decode (mtC Y) pc = .ok (.ifCond .le off, 3)) (hj : jok pc off = true) (ht : jmp pc off = tgt) (kt : wI x ≤ 0 → RunQ d Y tgt ls st M Q) (kf : ¬ (wI x ≤ 0) → RunQ d Y (pc + 3) ls st M Q) : RunQ d Y pc ls (vI x :: st) M Q := by
  by_cases h : wI x ≤ 0
  · refine q_next hd (pc' := tgt) ?_ (kt h)
    show aBr 3 pc off (decide (wI x ≤ 0)) ls st M = _
    rw [aBr, if_pos ⟨rfl, hj⟩, if_pos (decide_eq_true h), ht]
    rfl
  · refine q_next hd ?_ (kf h)
    show aBr 3 pc off (decide (wI x ≤ 0)) ls st M = _
    rw [aBr, if_pos ⟨rfl, hj⟩, if_neg (fun z => h (of_decide_eq_true z))]
    rfl
theorem q_icmp_le {x y : Int} {off : Int} (pc tgt : Nat) (hd : decode (mtC Y) pc = .ok (.if_icmp .le off, 3)) (hj : jok pc off = true) (ht : jmp pc off = tgt) (kt : wI x ≤ wI y → RunQ d Y tgt ls st M Q) (kf : ¬ (wI x ≤ wI y) → RunQ d Y (pc + 3) ls st M Q) : RunQ d Y pc ls (vI y :: vI x :: st) M Q := by
  by_cases h : wI x ≤ wI y
  · refine q_next hd (pc' := tgt) ?_ (kt h)
    show aBr 3 pc off (decide (wI x ≤ wI y)) ls st M = _
    rw [aBr, if_pos ⟨rfl, hj⟩, if_pos (decide_eq_true h), ht]
    rfl
  · refine q_next hd ?_ (kf h)
    show aBr 3 pc off (decide (wI x ≤ wI y)) ls st M = _
    rw [aBr, if_pos ⟨rfl, hj⟩, if_neg (fun z => h (of_decide_eq_true z))]
    rfl
theorem q_goto {off : Int} (pc tgt : Nat) (hd : decode (mtC Y) pc = .ok (.goto off, 3)) (hj : jok pc off = true) (ht : jmp pc off = tgt) (k : RunQ d Y tgt ls st M Q) : RunQ d Y pc ls st M Q := by
  refine q_next hd ?_ k
  show (if 3 = 3 ∧ jok pc off = true then _ else _) = _
  rw [if_pos ⟨rfl, hj⟩, ht]
  rfl
theorem q_tsw {dflt lo hi : Int} {offs : Array Int} {len : Nat} {z : Int} (pc : Nat) (hd : decode (mtC Y) pc = .ok (.tableswitch dflt lo hi offs, len)) (hj : jok pc dflt = true) (kout : (wI z < lo ∨ hi < wI z) → RunQ d Y (jmp pc dflt) ls st M Q)
    (kin : lo ≤ wI z → wI z ≤ hi → ∃ off, offs[(wI z - lo).toNat]? = some off ∧ jok pc off = true ∧ RunQ d Y (jmp pc off) ls st M Q) : RunQ d Y pc ls (vI z :: st) M Q := by
  by_cases h : wI z < lo ∨ hi < wI z
  · refine q_next hd ?_ (kout h)
    show (if wI z < lo ∨ hi < wI z then _ else _) = _
    rw [if_pos h, if_pos hj]
    rfl
  · obtain ⟨off, h1, h2, h3⟩ := kin (by omega) (by omega)
    refine q_next hd ?_ h3
    show (if wI z < lo ∨ hi < wI z then _ else _) = _
    rw [if_neg h, h1]
    show (if jok pc off = true then _ else _) = _
    rw [if_pos h2]
    rfl
theorem q_lsw {dflt : Int} {ps : Array (Int × Int)} {len : Nat} {z : Int} (pc tgt : Nat) (hd : decode (mtC Y) pc = .ok (.lookupswitch dflt ps, len)) (hs : (ps.toList.zip (ps.toList.drop 1)).all (fun (a, next) => a.1 < next.1) = true) (hj : jok pc (Op.lookupswitch.offset ps.toList dflt (wI z)) = true) (ht : jmp pc (Op.lookupswitch.offset ps.toList dflt (wI z)) = tgt) (k : RunQ d Y tgt ls st M Q) : RunQ d Y pc ls (vI z :: st) M Q := by
  refine q_next hd ?_ k
  show aSwL pc dflt ps ls (vI z :: st) M = _
  rw [aSwL, if_pos hs]
  show (if jok pc _ = true then _ else _) = _
  rw [if_pos hj, ht]
  rfl
theorem q_getstatic {i a : Nat} (pc : Nat) (hd : decode (mtC Y) pc = .ok (.getstatic i, 3)) (hf : staT (mtK Y) i = some a) (k : RunQ d Y (pc + 3) ls (vR a 0 :: st) M Q) : RunQ d Y pc ls st M Q := q_next hd (by show (if 3 = 3 then _ else none) = _; rw [if_pos rfl, hf]; rfl) k
theorem q_getfield {f a i s : Nat} {v : AV} (pc : Nat) (hd : decode (mtC Y) pc = .ok (.getfield f, 3)) (hf : fldT (mtK Y) f = some (a, s)) (ho : okH a i = true) (hv : fval a i s M = v) (k : RunQ d Y (pc + 3) ls (v :: st) M Q) : RunQ d Y pc ls (vR a i :: st) M Q := q_next hd (by
  show (if 3 = 3 then _ else none) = _
  rw [if_pos rfl, hf]
  show (if okH a i = true then _ else _) = _
  rw [if_pos ho]
  show (if a = a then _ else _) = _
  rw [if_pos rfl, ← hv]
  rfl) k
theorem q_putfield {f a i s : Nat} {z : Int} (pc : Nat) (hd : decode (mtC Y) pc = .ok (.putfield f, 3)) (hf : fldT (mtK Y) f = some (a, s)) (ho : okH a i = true) (hi : fint a s = true) (hz : a = 2 ∧ s = 4 → z = 0 ∨ z = 1) (k : RunQ d Y (pc + 3) ls st (aup M a i s z) Q) : RunQ d Y pc ls (vI z :: vR a i :: st) M Q := q_next hd (by
  show (if 3 = 3 then _ else none) = _
  rw [if_pos rfl, hf]
  show (if okH a i = true then _ else _) = _
  rw [if_pos ho]
  show (if a = a ∧ fint a s = true ∧ (a = 2 ∧ s = 4 → z = 0 ∨ z = 1) then _ else _) = _
  rw [if_pos ⟨rfl, hi, hz⟩]
  rfl) k
theorem q_alen {a i : Nat} {z : Int} (pc : Nat) (hd : decode (mtC Y) pc = .ok (.arraylength, 1)) (ho : okH a i = true) (h4 : Nat.ble 4 a = true) (hz : (alen a M : Int) = z) (k : RunQ d Y (pc + 1) ls (vI z :: st) M Q) : RunQ d Y pc ls (vR a i :: st) M Q := q_next hd (by
  show (if 1 = 1 then _ else none) = _
  rw [if_pos rfl]
  show (if okH a i = true then _ else _) = _
  rw [if_pos ho]
  show (if 4 ≤ a then _ else _) = _
  rw [if_pos (Nat.le_of_ble_eq_true h4), ← hz]
  rfl) k
theorem q_iaload {a i : Nat} {j z : Int} {n : Nat} (pc : Nat) (hd : decode (mtC Y) pc = .ok (.iaload, 1)) (ho : okH a i = true) (hn : alen a M = n) (hj : 0 ≤ wI j ∧ wI j < n) (hz : aval a i (wI j).toNat M = some z) (k : RunQ d Y (pc + 1) ls (vI z :: st) M Q) : RunQ d Y pc ls (vI j :: vR a i :: st) M Q := q_next hd (by
  show (if 1 = 1 then _ else none) = _
  rw [if_pos rfl]
  show (if okH a i = true then _ else _) = _
  rw [if_pos ho]
  show (if 0 ≤ wI j ∧ wI j < alen a M then _ else _) = _
  rw [hn, if_pos hj, hz]
  rfl) k
theorem q_iastore {a i : Nat} {j z : Int} {n : Nat} (pc : Nat) (hd : decode (mtC Y) pc = .ok (.iastore, 1)) (ho : okH a i = true) (hn : alen a M = n) (hj : 0 ≤ wI j ∧ wI j < n) (h45 : a = 4 ∨ a = 5) (k : RunQ d Y (pc + 1) ls st (aup M a i (wI j).toNat z) Q) : RunQ d Y pc ls (vI z :: vI j :: vR a i :: st) M Q := q_next hd (by
  show (if 1 = 1 then _ else none) = _
  rw [if_pos rfl]
  show (if okH a i = true then _ else _) = _
  rw [if_pos ho]
  show (if 0 ≤ wI j ∧ wI j < alen a M ∧ (a = 4 ∨ a = 5) then _ else _) = _
  rw [hn, if_pos ⟨hj.1, hj.2, h45⟩]
  rfl) k
theorem q_aaload {a i : Nat} {j : Int} {n kd x : Nat} (pc : Nat) (hd : decode (mtC Y) pc = .ok (.aaload, 1)) (ho : okH a i = true) (hn : alen a M = n) (hj : 0 ≤ wI j ∧ wI j < n) (hz : aref a i (wI j).toNat = some (kd, x)) (k : RunQ d Y (pc + 1) ls (vR kd x :: st) M Q) : RunQ d Y pc ls (vI j :: vR a i :: st) M Q := q_next hd (by
  show (if 1 = 1 then _ else none) = _
  rw [if_pos rfl]
  show (if okH a i = true then _ else _) = _
  rw [if_pos ho]
  show (if 0 ≤ wI j ∧ wI j < alen a M then _ else _) = _
  rw [hn, if_pos hj, hz]
  rfl) k
theorem q_max {i : Nat} {x y : Int} (pc : Nat) (hd : decode (mtC Y) pc = .ok (.invokestatic i, 3)) (hb : bltT (mtK Y) i = some 0) (h8 : Nat.ble ((vI y :: vI x :: st).map acat).sum 8 = true) (k : RunQ d Y (pc + 3) ls (vI (if wI x < wI y then y else x) :: st) M Q) : RunQ d Y pc ls (vI y :: vI x :: st) M Q := q_next hd (by
  show (match bltT (mtK Y) i with
    | some b => aBlt 3 pc b ls (vI y :: vI x :: st) M
    | none => _) = _
  rw [hb]
  show aBlt 3 pc 0 ls _ M = _
  rw [aBlt, if_pos ⟨rfl, Nat.le_of_ble_eq_true h8⟩]
  rfl) k
theorem q_min {i : Nat} {x y : Int} (pc : Nat) (hd : decode (mtC Y) pc = .ok (.invokestatic i, 3)) (hb : bltT (mtK Y) i = some 1) (h8 : Nat.ble ((vI y :: vI x :: st).map acat).sum 8 = true) (k : RunQ d Y (pc + 3) ls (vI (if wI y < wI x then y else x) :: st) M Q) : RunQ d Y pc ls (vI y :: vI x :: st) M Q := q_next hd (by
  show (match bltT (mtK Y) i with
    | some b => aBlt 3 pc b ls (vI y :: vI x :: st) M
    | none => _) = _
  rw [hb]
  show aBlt 3 pc 1 ls _ M = _
  rw [aBlt, if_pos ⟨rfl, Nat.le_of_ble_eq_true h8⟩]
  rfl) k
theorem q_copy {i kd a b' : Nat} {n : Int} (pc : Nat) (hd : decode (mtC Y) pc = .ok (.invokestatic i, 3)) (hb : bltT (mtK Y) i = some 2) (h8 : Nat.ble ((vI n :: vI 0 :: vR kd b' :: vI 0 :: vR kd a :: st).map acat).sum 8 = true) (o1 : okH kd b' = true) (o2 : okH kd a = true) (h45 : kd = 4 ∨ kd = 5) (hn : 0 ≤ n ∧ n.toNat ≤ alen kd M) (k : RunQ d Y (pc + 3) ls st (acopy M kd a b' n.toNat) Q) : RunQ d Y pc ls (vI n :: vI 0 :: vR kd b' :: vI 0 :: vR kd a :: st) M Q := q_next hd (by
  show (match bltT (mtK Y) i with
    | some b => aBlt 3 pc b ls (vI n :: vI 0 :: vR kd b' :: vI 0 :: vR kd a :: st) M
    | none => _) = _
  rw [hb]
  show aBlt 3 pc 2 ls _ M = _
  rw [aBlt, if_pos ⟨rfl, Nat.le_of_ble_eq_true h8⟩]
  show (if okH kd b' = true then _ else _) = _
  rw [if_pos o1]
  show (if okH kd a = true then _ else _) = _
  rw [if_pos o2]
  show (if (0 : Int) = 0 ∧ (0 : Int) = 0 ∧ kd = kd ∧ (kd = 4 ∨ kd = 5) ∧ 0 ≤ n ∧ n.toNat ≤ alen kd M then _ else _) = _
  rw [if_pos ⟨rfl, rfl, rfl, h45, hn.1, hn.2⟩]
  all_goals first | rfl | (intro h; cases h)) k
theorem q_iret {z : Int} (pc : Nat) (hd : decode (mtC Y) pc = .ok (.ireturn, 1)) (hr : mtR Y = some .int) (k : Q (some (vI z)) M) : RunQ d Y pc ls [vI z] M Q := q_ret hd (by
  show (if 1 = 1 then _ else none) = _
  rw [if_pos rfl]
  show (if ([] : List AV) = [] ∧ (mtR Y = some .int ∨ (mtR Y = some .boolean ∧ (z = 0 ∨ z = 1))) then _ else _) = _
  rw [if_pos ⟨rfl, Or.inl hr⟩]) k
theorem q_zret {z : Int} (pc : Nat) (hd : decode (mtC Y) pc = .ok (.ireturn, 1)) (hr : mtR Y = some .boolean) (hz : z = 0 ∨ z = 1) (k : Q (some (vI z)) M) : RunQ d Y pc ls [vI z] M Q := q_ret hd (by
  show (if 1 = 1 then _ else none) = _
  rw [if_pos rfl]
  show (if ([] : List AV) = [] ∧ (mtR Y = some .int ∨ (mtR Y = some .boolean ∧ (z = 0 ∨ z = 1))) then _ else _) = _
  rw [if_pos ⟨rfl, Or.inr ⟨hr, hz⟩⟩]) k
theorem q_lret {z : Int} (pc : Nat) (hd : decode (mtC Y) pc = .ok (.lreturn, 1)) (hr : mtR Y = some .long) (k : Q (some (vL z)) M) : RunQ d Y pc ls [vL z] M Q := q_ret hd (by
  show (if 1 = 1 then _ else none) = _
  rw [if_pos rfl]
  show (if ([] : List AV) = [] ∧ mtR Y = some .long then _ else _) = _
  rw [if_pos ⟨rfl, hr⟩]) k
theorem q_aret {a i : Nat} (pc : Nat) (hd : decode (mtC Y) pc = .ok (.areturn, 1)) (hr : mtR Y = some (.object "Endlessrows$Row") ∨ mtR Y = some (.object "Endlessrows$Well")) (k : Q (some (vR a i)) M) : RunQ d Y pc ls [vR a i] M Q := q_ret hd (by
  show (if 1 = 1 then _ else none) = _
  rw [if_pos rfl]
  show (if ([] : List AV) = [] ∧ _ then _ else _) = _
  rw [if_pos ⟨rfl, hr⟩]) k
theorem q_vret (pc : Nat) (hd : decode (mtC Y) pc = .ok (.return_, 1)) (hr : mtR Y = none) (k : Q none M) : RunQ d Y pc ls [] M Q := q_ret hd (by
  show (if 1 = 1 ∧ ([] : List AV) = [] ∧ mtR Y = none then _ else _) = _
  rw [if_pos ⟨rfl, rfl, hr⟩]) k
end RULES
theorem ok_r6 {i : Nat} {j : Int} (h : okH 6 i = true) (hj : 0 ≤ wI j ∧ wI j < (6 : Nat)) : okH 1 (6 * i + (wI j).toNat) = true := by
  simp only [okH, decide_eq_true_eq] at h ⊢
  omega
theorem ok_r7 {j : Int} (hj : 0 ≤ wI j ∧ wI j < (6 : Nat)) : okH 1 (42 + (wI j).toNat) = true := by
  simp only [okH, decide_eq_true_eq]
  omega
theorem ok_w8 {j : Int} (hj : 0 ≤ wI j ∧ wI j < (5 : Nat)) : okH 2 (wI j).toNat = true := by
  simp only [okH, decide_eq_true_eq]
  omega
end
section
theorem k_Q_keyOf_0 : decode (mtC m_Q_keyOf) 0 = .ok (.iload_n 0, 1) := by decide +kernel
theorem k_Q_keyOf_1 : decode (mtC m_Q_keyOf) 1 = .ok (.sipush 1024, 3) := by decide +kernel
theorem k_Q_keyOf_4 : decode (mtC m_Q_keyOf) 4 = .ok (.imul, 1) := by decide +kernel
theorem k_Q_keyOf_5 : decode (mtC m_Q_keyOf) 5 = .ok (.iload_n 1, 1) := by decide +kernel
theorem k_Q_keyOf_6 : decode (mtC m_Q_keyOf) 6 = .ok (.iadd, 1) := by decide +kernel
theorem k_Q_keyOf_7 : decode (mtC m_Q_keyOf) 7 = .ok (.ireturn, 1) := by decide +kernel
set_option maxHeartbeats 4000000 in
set_option maxRecDepth 100000 in
theorem T_Q_keyOf_0 {d : Nat} {x0 : Int} {x1 : Int} {M : AMem} {Q : Option AV → AMem → Prop}  (h : Q (some (vI ((x0 * 1024) + x1))) M) : RunQ d m_Q_keyOf 0 [some (vI x0), some (vI x1)] [] M Q := by
  refine q_iload_n 0 k_Q_keyOf_0 rfl ?_
  refine q_sipush 1 k_Q_keyOf_1 (by decide) ?_
  refine q_imul 4 k_Q_keyOf_4 ?_
  refine q_iload_n 5 k_Q_keyOf_5 rfl ?_
  refine q_iadd 6 k_Q_keyOf_6 ?_
  exact q_iret 7 k_Q_keyOf_7 rfl h
theorem k_Q_numberOf_0 : decode (mtC m_Q_numberOf) 0 = .ok (.iload_n 0, 1) := by decide +kernel
theorem k_Q_numberOf_1 : decode (mtC m_Q_numberOf) 1 = .ok (.sipush 1024, 3) := by decide +kernel
theorem k_Q_numberOf_4 : decode (mtC m_Q_numberOf) 4 = .ok (.idiv, 1) := by decide +kernel
theorem k_Q_numberOf_5 : decode (mtC m_Q_numberOf) 5 = .ok (.ireturn, 1) := by decide +kernel
set_option maxHeartbeats 4000000 in
set_option maxRecDepth 100000 in
theorem T_Q_numberOf_0 {d : Nat} {x0 : Int} {M : AMem} {Q : Option AV → AMem → Prop}  (h : Q (some (vI (Int.tdiv (wI x0) (1024)))) M) : RunQ d m_Q_numberOf 0 [some (vI x0)] [] M Q := by
  refine q_iload_n 0 k_Q_numberOf_0 rfl ?_
  refine q_sipush 1 k_Q_numberOf_1 (by decide) ?_
  refine q_idiv 4 k_Q_numberOf_4 (by decide) ?_
  exact q_iret 5 k_Q_numberOf_5 rfl h
theorem k_Q_tagOf_0 : decode (mtC m_Q_tagOf) 0 = .ok (.iload_n 0, 1) := by decide +kernel
theorem k_Q_tagOf_1 : decode (mtC m_Q_tagOf) 1 = .ok (.sipush 1024, 3) := by decide +kernel
theorem k_Q_tagOf_4 : decode (mtC m_Q_tagOf) 4 = .ok (.irem, 1) := by decide +kernel
theorem k_Q_tagOf_5 : decode (mtC m_Q_tagOf) 5 = .ok (.ireturn, 1) := by decide +kernel
set_option maxHeartbeats 4000000 in
set_option maxRecDepth 100000 in
theorem T_Q_tagOf_0 {d : Nat} {x0 : Int} {M : AMem} {Q : Option AV → AMem → Prop}  (h : Q (some (vI (Int.tmod (wI x0) (1024)))) M) : RunQ d m_Q_tagOf 0 [some (vI x0)] [] M Q := by
  refine q_iload_n 0 k_Q_tagOf_0 rfl ?_
  refine q_sipush 1 k_Q_tagOf_1 (by decide) ?_
  refine q_irem 4 k_Q_tagOf_4 (by decide) ?_
  exact q_iret 5 k_Q_tagOf_5 rfl h
theorem k_Q_firstNumber_0 : decode (mtC m_Q_firstNumber) 0 = .ok (.aload_n 0, 1) := by decide +kernel
theorem k_Q_firstNumber_1 : decode (mtC m_Q_firstNumber) 1 = .ok (.getfield 15, 3) := by decide +kernel
theorem k_Q_firstNumber_4 : decode (mtC m_Q_firstNumber) 4 = .ok (.ifCond .gt 7, 3) := by decide +kernel
theorem k_Q_firstNumber_7 : decode (mtC m_Q_firstNumber) 7 = .ok (.iconst (-1), 1) := by decide +kernel
theorem k_Q_firstNumber_8 : decode (mtC m_Q_firstNumber) 8 = .ok (.goto 12, 3) := by decide +kernel
theorem k_Q_firstNumber_11 : decode (mtC m_Q_firstNumber) 11 = .ok (.aload_n 0, 1) := by decide +kernel
theorem k_Q_firstNumber_12 : decode (mtC m_Q_firstNumber) 12 = .ok (.getfield 11, 3) := by decide +kernel
theorem k_Q_firstNumber_15 : decode (mtC m_Q_firstNumber) 15 = .ok (.iconst 0, 1) := by decide +kernel
theorem k_Q_firstNumber_16 : decode (mtC m_Q_firstNumber) 16 = .ok (.iaload, 1) := by decide +kernel
theorem k_Q_firstNumber_17 : decode (mtC m_Q_firstNumber) 17 = .ok (.invokestatic 19, 3) := by decide +kernel
theorem k_Q_firstNumber_20 : decode (mtC m_Q_firstNumber) 20 = .ok (.ireturn, 1) := by decide +kernel
set_option maxHeartbeats 4000000 in
set_option maxRecDepth 100000 in
theorem T_Q_firstNumber_0 {d : Nat} {i0 : Nat} {M : AMem} {Q : Option AV → AMem → Prop} (o0 : okH 0 i0 = true) (h : ((0 < wI (M 0 i0 1)) → CallI d m_Q_numberOf [vI (M 4 i0 0)] M (fun y2 M1 => Q (some (vI y2)) M1)) ∧ (¬ (0 < wI (M 0 i0 1)) → Q (some (vI (-1))) M)) : RunQ (d + 1) m_Q_firstNumber 0 [some (vR 0 i0)] [] M Q := by
  refine q_aload_n 0 k_Q_firstNumber_0 rfl ?_
  refine q_getfield 1 k_Q_firstNumber_1 fk_0_15 o0 (v := vI (M 0 i0 1)) rfl ?_
  refine q_if_gt 4 11 k_Q_firstNumber_4 rfl rfl (fun c4 => ?_) (fun c4 => ?_)
  · have ht := h.1 c4
    refine q_aload_n 11 k_Q_firstNumber_11 rfl ?_
    refine q_getfield 12 k_Q_firstNumber_12 fk_0_11 o0 (v := vR 4 i0) rfl ?_
    refine q_iconst 15 k_Q_firstNumber_15 ?_
    refine q_iaload 16 k_Q_firstNumber_16 o0 (n := 512) rfl ⟨by decide, by decide⟩ (z := (M 4 i0 0)) rfl ?_
    refine q_sI 17 [vI (M 4 i0 0)] [] k_Q_firstNumber_17 rfl lk_0_19 rfl rfl rfl rfl rfl rfl (CallI.mono (fun y2 M1 h3 => ?_) ht)
    exact q_iret 20 k_Q_firstNumber_20 rfl h3
  · have hf := h.2 c4
    refine q_iconst 7 k_Q_firstNumber_7 ?_
    refine q_goto 8 20 k_Q_firstNumber_8 rfl rfl ?_
    exact q_iret 20 k_Q_firstNumber_20 rfl hf
theorem k_Q_push_0 : decode (mtC m_Q_push) 0 = .ok (.aload_n 0, 1) := by decide +kernel
theorem k_Q_push_1 : decode (mtC m_Q_push) 1 = .ok (.getfield 15, 3) := by decide +kernel
theorem k_Q_push_4 : decode (mtC m_Q_push) 4 = .ok (.ifCond .lt 15, 3) := by decide +kernel
theorem k_Q_push_7 : decode (mtC m_Q_push) 7 = .ok (.aload_n 0, 1) := by decide +kernel
theorem k_Q_push_8 : decode (mtC m_Q_push) 8 = .ok (.getfield 15, 3) := by decide +kernel
theorem k_Q_push_11 : decode (mtC m_Q_push) 11 = .ok (.aload_n 0, 1) := by decide +kernel
theorem k_Q_push_12 : decode (mtC m_Q_push) 12 = .ok (.getfield 11, 3) := by decide +kernel
theorem k_Q_push_15 : decode (mtC m_Q_push) 15 = .ok (.arraylength, 1) := by decide +kernel
theorem k_Q_push_16 : decode (mtC m_Q_push) 16 = .ok (.if_icmp .lt 4, 3) := by decide +kernel
theorem k_Q_push_19 : decode (mtC m_Q_push) 19 = .ok (.return_, 1) := by decide +kernel
theorem k_Q_push_20 : decode (mtC m_Q_push) 20 = .ok (.aload_n 0, 1) := by decide +kernel
theorem k_Q_push_21 : decode (mtC m_Q_push) 21 = .ok (.getfield 15, 3) := by decide +kernel
theorem k_Q_push_24 : decode (mtC m_Q_push) 24 = .ok (.istore_n 2, 1) := by decide +kernel
theorem k_Q_push_25 : decode (mtC m_Q_push) 25 = .ok (.aload_n 0, 1) := by decide +kernel
theorem k_Q_push_26 : decode (mtC m_Q_push) 26 = .ok (.dup, 1) := by decide +kernel
theorem k_Q_push_27 : decode (mtC m_Q_push) 27 = .ok (.getfield 15, 3) := by decide +kernel
theorem k_Q_push_30 : decode (mtC m_Q_push) 30 = .ok (.iconst 1, 1) := by decide +kernel
theorem k_Q_push_31 : decode (mtC m_Q_push) 31 = .ok (.iadd, 1) := by decide +kernel
theorem k_Q_push_32 : decode (mtC m_Q_push) 32 = .ok (.putfield 15, 3) := by decide +kernel
theorem k_Q_push_35 : decode (mtC m_Q_push) 35 = .ok (.iload_n 2, 1) := by decide +kernel
theorem k_Q_push_36 : decode (mtC m_Q_push) 36 = .ok (.ifCond .le 42, 3) := by decide +kernel
theorem k_Q_push_39 : decode (mtC m_Q_push) 39 = .ok (.aload_n 0, 1) := by decide +kernel
theorem k_Q_push_40 : decode (mtC m_Q_push) 40 = .ok (.getfield 11, 3) := by decide +kernel
theorem k_Q_push_43 : decode (mtC m_Q_push) 43 = .ok (.iload_n 2, 1) := by decide +kernel
theorem k_Q_push_44 : decode (mtC m_Q_push) 44 = .ok (.iconst 1, 1) := by decide +kernel
theorem k_Q_push_45 : decode (mtC m_Q_push) 45 = .ok (.isub, 1) := by decide +kernel
theorem k_Q_push_46 : decode (mtC m_Q_push) 46 = .ok (.iconst 2, 1) := by decide +kernel
theorem k_Q_push_47 : decode (mtC m_Q_push) 47 = .ok (.idiv, 1) := by decide +kernel
theorem k_Q_push_48 : decode (mtC m_Q_push) 48 = .ok (.iaload, 1) := by decide +kernel
theorem k_Q_push_49 : decode (mtC m_Q_push) 49 = .ok (.iload_n 1, 1) := by decide +kernel
theorem k_Q_push_50 : decode (mtC m_Q_push) 50 = .ok (.if_icmp .le 28, 3) := by decide +kernel
theorem k_Q_push_53 : decode (mtC m_Q_push) 53 = .ok (.aload_n 0, 1) := by decide +kernel
theorem k_Q_push_54 : decode (mtC m_Q_push) 54 = .ok (.getfield 11, 3) := by decide +kernel
theorem k_Q_push_57 : decode (mtC m_Q_push) 57 = .ok (.iload_n 2, 1) := by decide +kernel
theorem k_Q_push_58 : decode (mtC m_Q_push) 58 = .ok (.aload_n 0, 1) := by decide +kernel
theorem k_Q_push_59 : decode (mtC m_Q_push) 59 = .ok (.getfield 11, 3) := by decide +kernel
theorem k_Q_push_62 : decode (mtC m_Q_push) 62 = .ok (.iload_n 2, 1) := by decide +kernel
theorem k_Q_push_63 : decode (mtC m_Q_push) 63 = .ok (.iconst 1, 1) := by decide +kernel
theorem k_Q_push_64 : decode (mtC m_Q_push) 64 = .ok (.isub, 1) := by decide +kernel
theorem k_Q_push_65 : decode (mtC m_Q_push) 65 = .ok (.iconst 2, 1) := by decide +kernel
theorem k_Q_push_66 : decode (mtC m_Q_push) 66 = .ok (.idiv, 1) := by decide +kernel
theorem k_Q_push_67 : decode (mtC m_Q_push) 67 = .ok (.iaload, 1) := by decide +kernel
theorem k_Q_push_68 : decode (mtC m_Q_push) 68 = .ok (.iastore, 1) := by decide +kernel
theorem k_Q_push_69 : decode (mtC m_Q_push) 69 = .ok (.iload_n 2, 1) := by decide +kernel
theorem k_Q_push_70 : decode (mtC m_Q_push) 70 = .ok (.iconst 1, 1) := by decide +kernel
theorem k_Q_push_71 : decode (mtC m_Q_push) 71 = .ok (.isub, 1) := by decide +kernel
theorem k_Q_push_72 : decode (mtC m_Q_push) 72 = .ok (.iconst 2, 1) := by decide +kernel
theorem k_Q_push_73 : decode (mtC m_Q_push) 73 = .ok (.idiv, 1) := by decide +kernel
theorem k_Q_push_74 : decode (mtC m_Q_push) 74 = .ok (.istore_n 2, 1) := by decide +kernel
theorem k_Q_push_75 : decode (mtC m_Q_push) 75 = .ok (.goto (-40), 3) := by decide +kernel
theorem k_Q_push_78 : decode (mtC m_Q_push) 78 = .ok (.aload_n 0, 1) := by decide +kernel
theorem k_Q_push_79 : decode (mtC m_Q_push) 79 = .ok (.getfield 11, 3) := by decide +kernel
theorem k_Q_push_82 : decode (mtC m_Q_push) 82 = .ok (.iload_n 2, 1) := by decide +kernel
theorem k_Q_push_83 : decode (mtC m_Q_push) 83 = .ok (.iload_n 1, 1) := by decide +kernel
theorem k_Q_push_84 : decode (mtC m_Q_push) 84 = .ok (.iastore, 1) := by decide +kernel
theorem k_Q_push_85 : decode (mtC m_Q_push) 85 = .ok (.return_, 1) := by decide +kernel
set_option maxHeartbeats 4000000 in
set_option maxRecDepth 100000 in
theorem T_Q_push_0 {d : Nat} {i0 : Nat} {x1 : Int} {M : AMem} {Q : Option AV → AMem → Prop} (o0 : okH 0 i0 = true) (h : ((wI (M 0 i0 1) < 0) → Q none M) ∧ (¬ (wI (M 0 i0 1) < 0) → ((wI (M 0 i0 1) < 512) → RunQ d m_Q_push 35 [some (vR 0 i0), some (vI x1), some (vI (M 0 i0 1))] [] (aup M 0 i0 1 ((M 0 i0 1) + 1)) Q) ∧ (¬ (wI (M 0 i0 1) < 512) → Q none M))) : RunQ d m_Q_push 0 [some (vR 0 i0), some (vI x1), none] [] M Q := by
  refine q_aload_n 0 k_Q_push_0 rfl ?_
  refine q_getfield 1 k_Q_push_1 fk_0_15 o0 (v := vI (M 0 i0 1)) rfl ?_
  refine q_if_lt 4 19 k_Q_push_4 rfl rfl (fun c4 => ?_) (fun c4 => ?_)
  · have ht := h.1 c4
    exact q_vret 19 k_Q_push_19 rfl ht
  · have hf := h.2 c4
    refine q_aload_n 7 k_Q_push_7 rfl ?_
    refine q_getfield 8 k_Q_push_8 fk_0_15 o0 (v := vI (M 0 i0 1)) rfl ?_
    refine q_aload_n 11 k_Q_push_11 rfl ?_
    refine q_getfield 12 k_Q_push_12 fk_0_11 o0 (v := vR 4 i0) rfl ?_
    refine q_alen 15 k_Q_push_15 o0 rfl (z := 512) rfl ?_
    refine q_icmp_lt 16 20 k_Q_push_16 rfl rfl (fun c16 => ?_) (fun c16 => ?_)
    · have hft := hf.1 c16
      refine q_aload_n 20 k_Q_push_20 rfl ?_
      refine q_getfield 21 k_Q_push_21 fk_0_15 o0 (v := vI (M 0 i0 1)) rfl ?_
      refine q_istore_n 24 k_Q_push_24 (ls' := [some (vR 0 i0), some (vI x1), some (vI (M 0 i0 1))]) rfl rfl ?_
      refine q_aload_n 25 k_Q_push_25 rfl ?_
      refine q_dup 26 k_Q_push_26 rfl ?_
      refine q_getfield 27 k_Q_push_27 fk_0_15 o0 (v := vI (M 0 i0 1)) rfl ?_
      refine q_iconst 30 k_Q_push_30 ?_
      refine q_iadd 31 k_Q_push_31 ?_
      refine q_putfield 32 k_Q_push_32 fk_0_15 o0 rfl (fun z => absurd z (by decide)) ?_
      exact hft
    · have hff := hf.2 c16
      exact q_vret 19 k_Q_push_19 rfl hff
set_option maxHeartbeats 4000000 in
set_option maxRecDepth 100000 in
theorem T_Q_push_35 {d : Nat} {i0 : Nat} {x1 : Int} {x2 : Int} {M : AMem} {Q : Option AV → AMem → Prop} (o0 : okH 0 i0 = true) (h : ((wI x2 ≤ 0) → (0 ≤ wI x2 ∧ wI x2 < (512 : Nat)) ∧ (Q none (aup M 4 i0 ((wI x2).toNat) x1))) ∧ (¬ (wI x2 ≤ 0) → (0 ≤ wI (Int.tdiv (wI (x2 - 1)) (2)) ∧ wI (Int.tdiv (wI (x2 - 1)) (2)) < (512 : Nat)) ∧ (((wI (M 4 i0 ((wI (Int.tdiv (wI (x2 - 1)) (2))).toNat)) ≤ wI x1) → (0 ≤ wI x2 ∧ wI x2 < (512 : Nat)) ∧ (Q none (aup M 4 i0 ((wI x2).toNat) x1))) ∧ (¬ (wI (M 4 i0 ((wI (Int.tdiv (wI (x2 - 1)) (2))).toNat)) ≤ wI x1) → (0 ≤ wI (Int.tdiv (wI (x2 - 1)) (2)) ∧ wI (Int.tdiv (wI (x2 - 1)) (2)) < (512 : Nat)) ∧ ((0 ≤ wI x2 ∧ wI x2 < (512 : Nat)) ∧ (RunQ d m_Q_push 35 [some (vR 0 i0), some (vI x1), some (vI (Int.tdiv (wI (x2 - 1)) (2)))] [] (aup M 4 i0 ((wI x2).toNat) (M 4 i0 ((wI (Int.tdiv (wI (x2 - 1)) (2))).toNat))) Q)))))) : RunQ d m_Q_push 35 [some (vR 0 i0), some (vI x1), some (vI x2)] [] M Q := by
  refine q_iload_n 35 k_Q_push_35 rfl ?_
  refine q_if_le 36 78 k_Q_push_36 rfl rfl (fun c36 => ?_) (fun c36 => ?_)
  · have ht := h.1 c36
    refine q_aload_n 78 k_Q_push_78 rfl ?_
    refine q_getfield 79 k_Q_push_79 fk_0_11 o0 (v := vR 4 i0) rfl ?_
    refine q_iload_n 82 k_Q_push_82 rfl ?_
    refine q_iload_n 83 k_Q_push_83 rfl ?_
    refine q_iastore 84 k_Q_push_84 o0 (n := 512) rfl ht.1 (Or.inl rfl) ?_
    have ht' := ht.2
    exact q_vret 85 k_Q_push_85 rfl ht'
  · have hf := h.2 c36
    refine q_aload_n 39 k_Q_push_39 rfl ?_
    refine q_getfield 40 k_Q_push_40 fk_0_11 o0 (v := vR 4 i0) rfl ?_
    refine q_iload_n 43 k_Q_push_43 rfl ?_
    refine q_iconst 44 k_Q_push_44 ?_
    refine q_isub 45 k_Q_push_45 ?_
    refine q_iconst 46 k_Q_push_46 ?_
    refine q_idiv 47 k_Q_push_47 (by decide) ?_
    have hb1 := hf.1
    refine q_iaload 48 k_Q_push_48 o0 (n := 512) rfl hb1 (z := (M 4 i0 ((wI (Int.tdiv (wI (x2 - 1)) (2))).toNat))) rfl ?_
    have hf' := hf.2
    refine q_iload_n 49 k_Q_push_49 rfl ?_
    refine q_icmp_le 50 78 k_Q_push_50 rfl rfl (fun c50 => ?_) (fun c50 => ?_)
    · have hf't := hf'.1 c50
      refine q_aload_n 78 k_Q_push_78 rfl ?_
      refine q_getfield 79 k_Q_push_79 fk_0_11 o0 (v := vR 4 i0) rfl ?_
      refine q_iload_n 82 k_Q_push_82 rfl ?_
      refine q_iload_n 83 k_Q_push_83 rfl ?_
      refine q_iastore 84 k_Q_push_84 o0 (n := 512) rfl hf't.1 (Or.inl rfl) ?_
      have hf't' := hf't.2
      exact q_vret 85 k_Q_push_85 rfl hf't'
    · have hf'f := hf'.2 c50
      refine q_aload_n 53 k_Q_push_53 rfl ?_
      refine q_getfield 54 k_Q_push_54 fk_0_11 o0 (v := vR 4 i0) rfl ?_
      refine q_iload_n 57 k_Q_push_57 rfl ?_
      refine q_aload_n 58 k_Q_push_58 rfl ?_
      refine q_getfield 59 k_Q_push_59 fk_0_11 o0 (v := vR 4 i0) rfl ?_
      refine q_iload_n 62 k_Q_push_62 rfl ?_
      refine q_iconst 63 k_Q_push_63 ?_
      refine q_isub 64 k_Q_push_64 ?_
      refine q_iconst 65 k_Q_push_65 ?_
      refine q_idiv 66 k_Q_push_66 (by decide) ?_
      have hb2 := hf'f.1
      refine q_iaload 67 k_Q_push_67 o0 (n := 512) rfl hb2 (z := (M 4 i0 ((wI (Int.tdiv (wI (x2 - 1)) (2))).toNat))) rfl ?_
      have hf'f' := hf'f.2
      refine q_iastore 68 k_Q_push_68 o0 (n := 512) rfl hf'f'.1 (Or.inl rfl) ?_
      have hf'f'' := hf'f'.2
      refine q_iload_n 69 k_Q_push_69 rfl ?_
      refine q_iconst 70 k_Q_push_70 ?_
      refine q_isub 71 k_Q_push_71 ?_
      refine q_iconst 72 k_Q_push_72 ?_
      refine q_idiv 73 k_Q_push_73 (by decide) ?_
      refine q_istore_n 74 k_Q_push_74 (ls' := [some (vR 0 i0), some (vI x1), some (vI (Int.tdiv (wI (x2 - 1)) (2)))]) rfl rfl ?_
      refine q_goto 75 35 k_Q_push_75 rfl rfl ?_
      exact hf'f''
theorem k_Q_pop_0 : decode (mtC m_Q_pop) 0 = .ok (.aload_n 0, 1) := by decide +kernel
theorem k_Q_pop_1 : decode (mtC m_Q_pop) 1 = .ok (.getfield 15, 3) := by decide +kernel
theorem k_Q_pop_4 : decode (mtC m_Q_pop) 4 = .ok (.ifCond .le 15, 3) := by decide +kernel
theorem k_Q_pop_7 : decode (mtC m_Q_pop) 7 = .ok (.aload_n 0, 1) := by decide +kernel
theorem k_Q_pop_8 : decode (mtC m_Q_pop) 8 = .ok (.getfield 15, 3) := by decide +kernel
theorem k_Q_pop_11 : decode (mtC m_Q_pop) 11 = .ok (.aload_n 0, 1) := by decide +kernel
theorem k_Q_pop_12 : decode (mtC m_Q_pop) 12 = .ok (.getfield 11, 3) := by decide +kernel
theorem k_Q_pop_15 : decode (mtC m_Q_pop) 15 = .ok (.arraylength, 1) := by decide +kernel
theorem k_Q_pop_16 : decode (mtC m_Q_pop) 16 = .ok (.if_icmp .le 5, 3) := by decide +kernel
theorem k_Q_pop_19 : decode (mtC m_Q_pop) 19 = .ok (.iconst (-1), 1) := by decide +kernel
theorem k_Q_pop_20 : decode (mtC m_Q_pop) 20 = .ok (.ireturn, 1) := by decide +kernel
theorem k_Q_pop_21 : decode (mtC m_Q_pop) 21 = .ok (.aload_n 0, 1) := by decide +kernel
theorem k_Q_pop_22 : decode (mtC m_Q_pop) 22 = .ok (.getfield 11, 3) := by decide +kernel
theorem k_Q_pop_25 : decode (mtC m_Q_pop) 25 = .ok (.iconst 0, 1) := by decide +kernel
theorem k_Q_pop_26 : decode (mtC m_Q_pop) 26 = .ok (.iaload, 1) := by decide +kernel
theorem k_Q_pop_27 : decode (mtC m_Q_pop) 27 = .ok (.istore_n 1, 1) := by decide +kernel
theorem k_Q_pop_28 : decode (mtC m_Q_pop) 28 = .ok (.aload_n 0, 1) := by decide +kernel
theorem k_Q_pop_29 : decode (mtC m_Q_pop) 29 = .ok (.dup, 1) := by decide +kernel
theorem k_Q_pop_30 : decode (mtC m_Q_pop) 30 = .ok (.getfield 15, 3) := by decide +kernel
theorem k_Q_pop_33 : decode (mtC m_Q_pop) 33 = .ok (.iconst 1, 1) := by decide +kernel
theorem k_Q_pop_34 : decode (mtC m_Q_pop) 34 = .ok (.isub, 1) := by decide +kernel
theorem k_Q_pop_35 : decode (mtC m_Q_pop) 35 = .ok (.putfield 15, 3) := by decide +kernel
theorem k_Q_pop_38 : decode (mtC m_Q_pop) 38 = .ok (.aload_n 0, 1) := by decide +kernel
theorem k_Q_pop_39 : decode (mtC m_Q_pop) 39 = .ok (.aload_n 0, 1) := by decide +kernel
theorem k_Q_pop_40 : decode (mtC m_Q_pop) 40 = .ok (.getfield 11, 3) := by decide +kernel
theorem k_Q_pop_43 : decode (mtC m_Q_pop) 43 = .ok (.aload_n 0, 1) := by decide +kernel
theorem k_Q_pop_44 : decode (mtC m_Q_pop) 44 = .ok (.getfield 15, 3) := by decide +kernel
theorem k_Q_pop_47 : decode (mtC m_Q_pop) 47 = .ok (.iaload, 1) := by decide +kernel
theorem k_Q_pop_48 : decode (mtC m_Q_pop) 48 = .ok (.invokevirtual 23, 3) := by decide +kernel
theorem k_Q_pop_51 : decode (mtC m_Q_pop) 51 = .ok (.iload_n 1, 1) := by decide +kernel
theorem k_Q_pop_52 : decode (mtC m_Q_pop) 52 = .ok (.ireturn, 1) := by decide +kernel
set_option maxHeartbeats 4000000 in
set_option maxRecDepth 100000 in
theorem T_Q_pop_0 {d : Nat} {i0 : Nat} {M : AMem} {Q : Option AV → AMem → Prop} (o0 : okH 0 i0 = true) (h : ((wI (M 0 i0 1) ≤ 0) → Q (some (vI (-1))) M) ∧ (¬ (wI (M 0 i0 1) ≤ 0) → ((wI (M 0 i0 1) ≤ 512) → (0 ≤ wI ((M 0 i0 1) - 1) ∧ wI ((M 0 i0 1) - 1) < (512 : Nat)) ∧ (CallV d m_Q_sink [vR 0 i0, vI (M 4 i0 ((wI ((M 0 i0 1) - 1)).toNat))] (aup M 0 i0 1 ((M 0 i0 1) - 1)) (fun M2 => Q (some (vI (M 4 i0 0))) M2))) ∧ (¬ (wI (M 0 i0 1) ≤ 512) → Q (some (vI (-1))) M))) : RunQ (d + 1) m_Q_pop 0 [some (vR 0 i0), none] [] M Q := by
  refine q_aload_n 0 k_Q_pop_0 rfl ?_
  refine q_getfield 1 k_Q_pop_1 fk_0_15 o0 (v := vI (M 0 i0 1)) rfl ?_
  refine q_if_le 4 19 k_Q_pop_4 rfl rfl (fun c4 => ?_) (fun c4 => ?_)
  · have ht := h.1 c4
    refine q_iconst 19 k_Q_pop_19 ?_
    exact q_iret 20 k_Q_pop_20 rfl ht
  · have hf := h.2 c4
    refine q_aload_n 7 k_Q_pop_7 rfl ?_
    refine q_getfield 8 k_Q_pop_8 fk_0_15 o0 (v := vI (M 0 i0 1)) rfl ?_
    refine q_aload_n 11 k_Q_pop_11 rfl ?_
    refine q_getfield 12 k_Q_pop_12 fk_0_11 o0 (v := vR 4 i0) rfl ?_
    refine q_alen 15 k_Q_pop_15 o0 rfl (z := 512) rfl ?_
    refine q_icmp_le 16 21 k_Q_pop_16 rfl rfl (fun c16 => ?_) (fun c16 => ?_)
    · have hft := hf.1 c16
      refine q_aload_n 21 k_Q_pop_21 rfl ?_
      refine q_getfield 22 k_Q_pop_22 fk_0_11 o0 (v := vR 4 i0) rfl ?_
      refine q_iconst 25 k_Q_pop_25 ?_
      refine q_iaload 26 k_Q_pop_26 o0 (n := 512) rfl ⟨by decide, by decide⟩ (z := (M 4 i0 0)) rfl ?_
      refine q_istore_n 27 k_Q_pop_27 (ls' := [some (vR 0 i0), some (vI (M 4 i0 0))]) rfl rfl ?_
      refine q_aload_n 28 k_Q_pop_28 rfl ?_
      refine q_dup 29 k_Q_pop_29 rfl ?_
      refine q_getfield 30 k_Q_pop_30 fk_0_15 o0 (v := vI (M 0 i0 1)) rfl ?_
      refine q_iconst 33 k_Q_pop_33 ?_
      refine q_isub 34 k_Q_pop_34 ?_
      refine q_putfield 35 k_Q_pop_35 fk_0_15 o0 rfl (fun z => absurd z (by decide)) ?_
      refine q_aload_n 38 k_Q_pop_38 rfl ?_
      refine q_aload_n 39 k_Q_pop_39 rfl ?_
      refine q_getfield 40 k_Q_pop_40 fk_0_11 o0 (v := vR 4 i0) rfl ?_
      refine q_aload_n 43 k_Q_pop_43 rfl ?_
      refine q_getfield 44 k_Q_pop_44 fk_0_15 o0 (v := vI ((M 0 i0 1) - 1)) (by simp [fval, aup]) ?_
      have hb1 := hft.1
      refine q_iaload 47 k_Q_pop_47 o0 (n := 512) rfl hb1 (z := (M 4 i0 ((wI ((M 0 i0 1) - 1)).toNat))) (by simp [aval, aup]) ?_
      have hft' := hft.2
      refine q_vV 48 [vI (M 4 i0 ((wI ((M 0 i0 1) - 1)).toNat))] [] k_Q_pop_48 lk_0_23 rfl rfl rfl o0 rfl rfl rfl rfl (CallV.mono (fun M2 h4 => ?_) hft')
      refine q_iload_n 51 k_Q_pop_51 rfl ?_
      exact q_iret 52 k_Q_pop_52 rfl h4
    · have hff := hf.2 c16
      refine q_iconst 19 k_Q_pop_19 ?_
      exact q_iret 20 k_Q_pop_20 rfl hff
theorem k_Q_sink_0 : decode (mtC m_Q_sink) 0 = .ok (.iconst 0, 1) := by decide +kernel
theorem k_Q_sink_1 : decode (mtC m_Q_sink) 1 = .ok (.istore_n 2, 1) := by decide +kernel
theorem k_Q_sink_2 : decode (mtC m_Q_sink) 2 = .ok (.iconst 1, 1) := by decide +kernel
theorem k_Q_sink_3 : decode (mtC m_Q_sink) 3 = .ok (.istore_n 3, 1) := by decide +kernel
theorem k_Q_sink_4 : decode (mtC m_Q_sink) 4 = .ok (.iload_n 3, 1) := by decide +kernel
theorem k_Q_sink_5 : decode (mtC m_Q_sink) 5 = .ok (.aload_n 0, 1) := by decide +kernel
theorem k_Q_sink_6 : decode (mtC m_Q_sink) 6 = .ok (.getfield 15, 3) := by decide +kernel
theorem k_Q_sink_9 : decode (mtC m_Q_sink) 9 = .ok (.if_icmp .ge 89, 3) := by decide +kernel
theorem k_Q_sink_12 : decode (mtC m_Q_sink) 12 = .ok (.iload_n 3, 1) := by decide +kernel
theorem k_Q_sink_13 : decode (mtC m_Q_sink) 13 = .ok (.aload_n 0, 1) := by decide +kernel
theorem k_Q_sink_14 : decode (mtC m_Q_sink) 14 = .ok (.getfield 11, 3) := by decide +kernel
theorem k_Q_sink_17 : decode (mtC m_Q_sink) 17 = .ok (.arraylength, 1) := by decide +kernel
theorem k_Q_sink_18 : decode (mtC m_Q_sink) 18 = .ok (.if_icmp .ge 80, 3) := by decide +kernel
theorem k_Q_sink_21 : decode (mtC m_Q_sink) 21 = .ok (.iload_n 3, 1) := by decide +kernel
theorem k_Q_sink_22 : decode (mtC m_Q_sink) 22 = .ok (.iconst 1, 1) := by decide +kernel
theorem k_Q_sink_23 : decode (mtC m_Q_sink) 23 = .ok (.iadd, 1) := by decide +kernel
theorem k_Q_sink_24 : decode (mtC m_Q_sink) 24 = .ok (.aload_n 0, 1) := by decide +kernel
theorem k_Q_sink_25 : decode (mtC m_Q_sink) 25 = .ok (.getfield 15, 3) := by decide +kernel
theorem k_Q_sink_28 : decode (mtC m_Q_sink) 28 = .ok (.if_icmp .ge 34, 3) := by decide +kernel
theorem k_Q_sink_31 : decode (mtC m_Q_sink) 31 = .ok (.iload_n 3, 1) := by decide +kernel
theorem k_Q_sink_32 : decode (mtC m_Q_sink) 32 = .ok (.iconst 1, 1) := by decide +kernel
theorem k_Q_sink_33 : decode (mtC m_Q_sink) 33 = .ok (.iadd, 1) := by decide +kernel
theorem k_Q_sink_34 : decode (mtC m_Q_sink) 34 = .ok (.aload_n 0, 1) := by decide +kernel
theorem k_Q_sink_35 : decode (mtC m_Q_sink) 35 = .ok (.getfield 11, 3) := by decide +kernel
theorem k_Q_sink_38 : decode (mtC m_Q_sink) 38 = .ok (.arraylength, 1) := by decide +kernel
theorem k_Q_sink_39 : decode (mtC m_Q_sink) 39 = .ok (.if_icmp .ge 23, 3) := by decide +kernel
theorem k_Q_sink_42 : decode (mtC m_Q_sink) 42 = .ok (.aload_n 0, 1) := by decide +kernel
theorem k_Q_sink_43 : decode (mtC m_Q_sink) 43 = .ok (.getfield 11, 3) := by decide +kernel
theorem k_Q_sink_46 : decode (mtC m_Q_sink) 46 = .ok (.iload_n 3, 1) := by decide +kernel
theorem k_Q_sink_47 : decode (mtC m_Q_sink) 47 = .ok (.iconst 1, 1) := by decide +kernel
theorem k_Q_sink_48 : decode (mtC m_Q_sink) 48 = .ok (.iadd, 1) := by decide +kernel
theorem k_Q_sink_49 : decode (mtC m_Q_sink) 49 = .ok (.iaload, 1) := by decide +kernel
theorem k_Q_sink_50 : decode (mtC m_Q_sink) 50 = .ok (.aload_n 0, 1) := by decide +kernel
theorem k_Q_sink_51 : decode (mtC m_Q_sink) 51 = .ok (.getfield 11, 3) := by decide +kernel
theorem k_Q_sink_54 : decode (mtC m_Q_sink) 54 = .ok (.iload_n 3, 1) := by decide +kernel
theorem k_Q_sink_55 : decode (mtC m_Q_sink) 55 = .ok (.iaload, 1) := by decide +kernel
theorem k_Q_sink_56 : decode (mtC m_Q_sink) 56 = .ok (.if_icmp .ge 6, 3) := by decide +kernel
theorem k_Q_sink_59 : decode (mtC m_Q_sink) 59 = .ok (.iinc 3 1, 3) := by decide +kernel
theorem k_Q_sink_62 : decode (mtC m_Q_sink) 62 = .ok (.aload_n 0, 1) := by decide +kernel
theorem k_Q_sink_63 : decode (mtC m_Q_sink) 63 = .ok (.getfield 11, 3) := by decide +kernel
theorem k_Q_sink_66 : decode (mtC m_Q_sink) 66 = .ok (.iload_n 3, 1) := by decide +kernel
theorem k_Q_sink_67 : decode (mtC m_Q_sink) 67 = .ok (.iaload, 1) := by decide +kernel
theorem k_Q_sink_68 : decode (mtC m_Q_sink) 68 = .ok (.iload_n 1, 1) := by decide +kernel
theorem k_Q_sink_69 : decode (mtC m_Q_sink) 69 = .ok (.if_icmp .le 6, 3) := by decide +kernel
theorem k_Q_sink_72 : decode (mtC m_Q_sink) 72 = .ok (.goto 26, 3) := by decide +kernel
theorem k_Q_sink_75 : decode (mtC m_Q_sink) 75 = .ok (.aload_n 0, 1) := by decide +kernel
theorem k_Q_sink_76 : decode (mtC m_Q_sink) 76 = .ok (.getfield 11, 3) := by decide +kernel
theorem k_Q_sink_79 : decode (mtC m_Q_sink) 79 = .ok (.iload_n 2, 1) := by decide +kernel
theorem k_Q_sink_80 : decode (mtC m_Q_sink) 80 = .ok (.aload_n 0, 1) := by decide +kernel
theorem k_Q_sink_81 : decode (mtC m_Q_sink) 81 = .ok (.getfield 11, 3) := by decide +kernel
theorem k_Q_sink_84 : decode (mtC m_Q_sink) 84 = .ok (.iload_n 3, 1) := by decide +kernel
theorem k_Q_sink_85 : decode (mtC m_Q_sink) 85 = .ok (.iaload, 1) := by decide +kernel
theorem k_Q_sink_86 : decode (mtC m_Q_sink) 86 = .ok (.iastore, 1) := by decide +kernel
theorem k_Q_sink_87 : decode (mtC m_Q_sink) 87 = .ok (.iload_n 3, 1) := by decide +kernel
theorem k_Q_sink_88 : decode (mtC m_Q_sink) 88 = .ok (.istore_n 2, 1) := by decide +kernel
theorem k_Q_sink_89 : decode (mtC m_Q_sink) 89 = .ok (.iconst 2, 1) := by decide +kernel
theorem k_Q_sink_90 : decode (mtC m_Q_sink) 90 = .ok (.iload_n 2, 1) := by decide +kernel
theorem k_Q_sink_91 : decode (mtC m_Q_sink) 91 = .ok (.imul, 1) := by decide +kernel
theorem k_Q_sink_92 : decode (mtC m_Q_sink) 92 = .ok (.iconst 1, 1) := by decide +kernel
theorem k_Q_sink_93 : decode (mtC m_Q_sink) 93 = .ok (.iadd, 1) := by decide +kernel
theorem k_Q_sink_94 : decode (mtC m_Q_sink) 94 = .ok (.istore_n 3, 1) := by decide +kernel
theorem k_Q_sink_95 : decode (mtC m_Q_sink) 95 = .ok (.goto (-91), 3) := by decide +kernel
theorem k_Q_sink_98 : decode (mtC m_Q_sink) 98 = .ok (.aload_n 0, 1) := by decide +kernel
theorem k_Q_sink_99 : decode (mtC m_Q_sink) 99 = .ok (.getfield 11, 3) := by decide +kernel
theorem k_Q_sink_102 : decode (mtC m_Q_sink) 102 = .ok (.iload_n 2, 1) := by decide +kernel
theorem k_Q_sink_103 : decode (mtC m_Q_sink) 103 = .ok (.iload_n 1, 1) := by decide +kernel
theorem k_Q_sink_104 : decode (mtC m_Q_sink) 104 = .ok (.iastore, 1) := by decide +kernel
theorem k_Q_sink_105 : decode (mtC m_Q_sink) 105 = .ok (.return_, 1) := by decide +kernel
set_option maxHeartbeats 4000000 in
set_option maxRecDepth 100000 in
theorem T_Q_sink_0 {d : Nat} {i0 : Nat} {x1 : Int} {M : AMem} {Q : Option AV → AMem → Prop} (o0 : okH 0 i0 = true) (h : RunQ d m_Q_sink 4 [some (vR 0 i0), some (vI x1), some (vI 0), some (vI 1)] [] M Q) : RunQ d m_Q_sink 0 [some (vR 0 i0), some (vI x1), none, none] [] M Q := by
  refine q_iconst 0 k_Q_sink_0 ?_
  refine q_istore_n 1 k_Q_sink_1 (ls' := [some (vR 0 i0), some (vI x1), some (vI 0), none]) rfl rfl ?_
  refine q_iconst 2 k_Q_sink_2 ?_
  refine q_istore_n 3 k_Q_sink_3 (ls' := [some (vR 0 i0), some (vI x1), some (vI 0), some (vI 1)]) rfl rfl ?_
  exact h
set_option maxHeartbeats 4000000 in
set_option maxRecDepth 100000 in
theorem T_Q_sink_4 {d : Nat} {i0 : Nat} {x1 : Int} {x2 : Int} {x3 : Int} {M : AMem} {Q : Option AV → AMem → Prop} (o0 : okH 0 i0 = true) (h : ((wI (M 0 i0 1) ≤ wI x3) → (0 ≤ wI x2 ∧ wI x2 < (512 : Nat)) ∧ (Q none (aup M 4 i0 ((wI x2).toNat) x1))) ∧ (¬ (wI (M 0 i0 1) ≤ wI x3) → ((512 ≤ wI x3) → (0 ≤ wI x2 ∧ wI x2 < (512 : Nat)) ∧ (Q none (aup M 4 i0 ((wI x2).toNat) x1))) ∧ (¬ (512 ≤ wI x3) → ((wI (M 0 i0 1) ≤ wI (x3 + 1)) → (0 ≤ wI x3 ∧ wI x3 < (512 : Nat)) ∧ (((wI (M 4 i0 ((wI x3).toNat)) ≤ wI x1) → (0 ≤ wI x3 ∧ wI x3 < (512 : Nat)) ∧ ((0 ≤ wI x2 ∧ wI x2 < (512 : Nat)) ∧ (RunQ d m_Q_sink 4 [some (vR 0 i0), some (vI x1), some (vI x3), some (vI ((2 * x3) + 1))] [] (aup M 4 i0 ((wI x2).toNat) (M 4 i0 ((wI x3).toNat))) Q))) ∧ (¬ (wI (M 4 i0 ((wI x3).toNat)) ≤ wI x1) → (0 ≤ wI x2 ∧ wI x2 < (512 : Nat)) ∧ (Q none (aup M 4 i0 ((wI x2).toNat) x1))))) ∧ (¬ (wI (M 0 i0 1) ≤ wI (x3 + 1)) → ((512 ≤ wI (x3 + 1)) → (0 ≤ wI x3 ∧ wI x3 < (512 : Nat)) ∧ (((wI (M 4 i0 ((wI x3).toNat)) ≤ wI x1) → (0 ≤ wI x3 ∧ wI x3 < (512 : Nat)) ∧ ((0 ≤ wI x2 ∧ wI x2 < (512 : Nat)) ∧ (RunQ d m_Q_sink 4 [some (vR 0 i0), some (vI x1), some (vI x3), some (vI ((2 * x3) + 1))] [] (aup M 4 i0 ((wI x2).toNat) (M 4 i0 ((wI x3).toNat))) Q))) ∧ (¬ (wI (M 4 i0 ((wI x3).toNat)) ≤ wI x1) → (0 ≤ wI x2 ∧ wI x2 < (512 : Nat)) ∧ (Q none (aup M 4 i0 ((wI x2).toNat) x1))))) ∧ (¬ (512 ≤ wI (x3 + 1)) → (0 ≤ wI (x3 + 1) ∧ wI (x3 + 1) < (512 : Nat)) ∧ ((0 ≤ wI x3 ∧ wI x3 < (512 : Nat)) ∧ (((wI (M 4 i0 ((wI x3).toNat)) ≤ wI (M 4 i0 ((wI (x3 + 1)).toNat))) → (0 ≤ wI x3 ∧ wI x3 < (512 : Nat)) ∧ (((wI (M 4 i0 ((wI x3).toNat)) ≤ wI x1) → (0 ≤ wI x3 ∧ wI x3 < (512 : Nat)) ∧ ((0 ≤ wI x2 ∧ wI x2 < (512 : Nat)) ∧ (RunQ d m_Q_sink 4 [some (vR 0 i0), some (vI x1), some (vI x3), some (vI ((2 * x3) + 1))] [] (aup M 4 i0 ((wI x2).toNat) (M 4 i0 ((wI x3).toNat))) Q))) ∧ (¬ (wI (M 4 i0 ((wI x3).toNat)) ≤ wI x1) → (0 ≤ wI x2 ∧ wI x2 < (512 : Nat)) ∧ (Q none (aup M 4 i0 ((wI x2).toNat) x1))))) ∧ (¬ (wI (M 4 i0 ((wI x3).toNat)) ≤ wI (M 4 i0 ((wI (x3 + 1)).toNat))) → (0 ≤ wI (x3 + 1) ∧ wI (x3 + 1) < (512 : Nat)) ∧ (((wI (M 4 i0 ((wI (x3 + 1)).toNat)) ≤ wI x1) → (0 ≤ wI (x3 + 1) ∧ wI (x3 + 1) < (512 : Nat)) ∧ ((0 ≤ wI x2 ∧ wI x2 < (512 : Nat)) ∧ (RunQ d m_Q_sink 4 [some (vR 0 i0), some (vI x1), some (vI (x3 + 1)), some (vI ((2 * (x3 + 1)) + 1))] [] (aup M 4 i0 ((wI x2).toNat) (M 4 i0 ((wI (x3 + 1)).toNat))) Q))) ∧ (¬ (wI (M 4 i0 ((wI (x3 + 1)).toNat)) ≤ wI x1) → (0 ≤ wI x2 ∧ wI x2 < (512 : Nat)) ∧ (Q none (aup M 4 i0 ((wI x2).toNat) x1)))))))))))) : RunQ d m_Q_sink 4 [some (vR 0 i0), some (vI x1), some (vI x2), some (vI x3)] [] M Q := by
  refine q_iload_n 4 k_Q_sink_4 rfl ?_
  refine q_aload_n 5 k_Q_sink_5 rfl ?_
  refine q_getfield 6 k_Q_sink_6 fk_0_15 o0 (v := vI (M 0 i0 1)) rfl ?_
  refine q_icmp_ge 9 98 k_Q_sink_9 rfl rfl (fun c9 => ?_) (fun c9 => ?_)
  · have ht := h.1 c9
    refine q_aload_n 98 k_Q_sink_98 rfl ?_
    refine q_getfield 99 k_Q_sink_99 fk_0_11 o0 (v := vR 4 i0) rfl ?_
    refine q_iload_n 102 k_Q_sink_102 rfl ?_
    refine q_iload_n 103 k_Q_sink_103 rfl ?_
    refine q_iastore 104 k_Q_sink_104 o0 (n := 512) rfl ht.1 (Or.inl rfl) ?_
    have ht' := ht.2
    exact q_vret 105 k_Q_sink_105 rfl ht'
  · have hf := h.2 c9
    refine q_iload_n 12 k_Q_sink_12 rfl ?_
    refine q_aload_n 13 k_Q_sink_13 rfl ?_
    refine q_getfield 14 k_Q_sink_14 fk_0_11 o0 (v := vR 4 i0) rfl ?_
    refine q_alen 17 k_Q_sink_17 o0 rfl (z := 512) rfl ?_
    refine q_icmp_ge 18 98 k_Q_sink_18 rfl rfl (fun c18 => ?_) (fun c18 => ?_)
    · have hft := hf.1 c18
      refine q_aload_n 98 k_Q_sink_98 rfl ?_
      refine q_getfield 99 k_Q_sink_99 fk_0_11 o0 (v := vR 4 i0) rfl ?_
      refine q_iload_n 102 k_Q_sink_102 rfl ?_
      refine q_iload_n 103 k_Q_sink_103 rfl ?_
      refine q_iastore 104 k_Q_sink_104 o0 (n := 512) rfl hft.1 (Or.inl rfl) ?_
      have hft' := hft.2
      exact q_vret 105 k_Q_sink_105 rfl hft'
    · have hff := hf.2 c18
      refine q_iload_n 21 k_Q_sink_21 rfl ?_
      refine q_iconst 22 k_Q_sink_22 ?_
      refine q_iadd 23 k_Q_sink_23 ?_
      refine q_aload_n 24 k_Q_sink_24 rfl ?_
      refine q_getfield 25 k_Q_sink_25 fk_0_15 o0 (v := vI (M 0 i0 1)) rfl ?_
      refine q_icmp_ge 28 62 k_Q_sink_28 rfl rfl (fun c28 => ?_) (fun c28 => ?_)
      · have hfft := hff.1 c28
        refine q_aload_n 62 k_Q_sink_62 rfl ?_
        refine q_getfield 63 k_Q_sink_63 fk_0_11 o0 (v := vR 4 i0) rfl ?_
        refine q_iload_n 66 k_Q_sink_66 rfl ?_
        have hb1 := hfft.1
        refine q_iaload 67 k_Q_sink_67 o0 (n := 512) rfl hb1 (z := (M 4 i0 ((wI x3).toNat))) rfl ?_
        have hfft' := hfft.2
        refine q_iload_n 68 k_Q_sink_68 rfl ?_
        refine q_icmp_le 69 75 k_Q_sink_69 rfl rfl (fun c69 => ?_) (fun c69 => ?_)
        · have hfft't := hfft'.1 c69
          refine q_aload_n 75 k_Q_sink_75 rfl ?_
          refine q_getfield 76 k_Q_sink_76 fk_0_11 o0 (v := vR 4 i0) rfl ?_
          refine q_iload_n 79 k_Q_sink_79 rfl ?_
          refine q_aload_n 80 k_Q_sink_80 rfl ?_
          refine q_getfield 81 k_Q_sink_81 fk_0_11 o0 (v := vR 4 i0) rfl ?_
          refine q_iload_n 84 k_Q_sink_84 rfl ?_
          have hb2 := hfft't.1
          refine q_iaload 85 k_Q_sink_85 o0 (n := 512) rfl hb2 (z := (M 4 i0 ((wI x3).toNat))) rfl ?_
          have hfft't' := hfft't.2
          refine q_iastore 86 k_Q_sink_86 o0 (n := 512) rfl hfft't'.1 (Or.inl rfl) ?_
          have hfft't'' := hfft't'.2
          refine q_iload_n 87 k_Q_sink_87 rfl ?_
          refine q_istore_n 88 k_Q_sink_88 (ls' := [some (vR 0 i0), some (vI x1), some (vI x3), some (vI x3)]) rfl rfl ?_
          refine q_iconst 89 k_Q_sink_89 ?_
          refine q_iload_n 90 k_Q_sink_90 rfl ?_
          refine q_imul 91 k_Q_sink_91 ?_
          refine q_iconst 92 k_Q_sink_92 ?_
          refine q_iadd 93 k_Q_sink_93 ?_
          refine q_istore_n 94 k_Q_sink_94 (ls' := [some (vR 0 i0), some (vI x1), some (vI x3), some (vI ((2 * x3) + 1))]) rfl rfl ?_
          refine q_goto 95 4 k_Q_sink_95 rfl rfl ?_
          exact hfft't''
        · have hfft'f := hfft'.2 c69
          refine q_goto 72 98 k_Q_sink_72 rfl rfl ?_
          refine q_aload_n 98 k_Q_sink_98 rfl ?_
          refine q_getfield 99 k_Q_sink_99 fk_0_11 o0 (v := vR 4 i0) rfl ?_
          refine q_iload_n 102 k_Q_sink_102 rfl ?_
          refine q_iload_n 103 k_Q_sink_103 rfl ?_
          refine q_iastore 104 k_Q_sink_104 o0 (n := 512) rfl hfft'f.1 (Or.inl rfl) ?_
          have hfft'f' := hfft'f.2
          exact q_vret 105 k_Q_sink_105 rfl hfft'f'
      · have hfff := hff.2 c28
        refine q_iload_n 31 k_Q_sink_31 rfl ?_
        refine q_iconst 32 k_Q_sink_32 ?_
        refine q_iadd 33 k_Q_sink_33 ?_
        refine q_aload_n 34 k_Q_sink_34 rfl ?_
        refine q_getfield 35 k_Q_sink_35 fk_0_11 o0 (v := vR 4 i0) rfl ?_
        refine q_alen 38 k_Q_sink_38 o0 rfl (z := 512) rfl ?_
        refine q_icmp_ge 39 62 k_Q_sink_39 rfl rfl (fun c39 => ?_) (fun c39 => ?_)
        · have hffft := hfff.1 c39
          refine q_aload_n 62 k_Q_sink_62 rfl ?_
          refine q_getfield 63 k_Q_sink_63 fk_0_11 o0 (v := vR 4 i0) rfl ?_
          refine q_iload_n 66 k_Q_sink_66 rfl ?_
          have hb3 := hffft.1
          refine q_iaload 67 k_Q_sink_67 o0 (n := 512) rfl hb3 (z := (M 4 i0 ((wI x3).toNat))) rfl ?_
          have hffft' := hffft.2
          refine q_iload_n 68 k_Q_sink_68 rfl ?_
          refine q_icmp_le 69 75 k_Q_sink_69 rfl rfl (fun c69 => ?_) (fun c69 => ?_)
          · have hffft't := hffft'.1 c69
            refine q_aload_n 75 k_Q_sink_75 rfl ?_
            refine q_getfield 76 k_Q_sink_76 fk_0_11 o0 (v := vR 4 i0) rfl ?_
            refine q_iload_n 79 k_Q_sink_79 rfl ?_
            refine q_aload_n 80 k_Q_sink_80 rfl ?_
            refine q_getfield 81 k_Q_sink_81 fk_0_11 o0 (v := vR 4 i0) rfl ?_
            refine q_iload_n 84 k_Q_sink_84 rfl ?_
            have hb4 := hffft't.1
            refine q_iaload 85 k_Q_sink_85 o0 (n := 512) rfl hb4 (z := (M 4 i0 ((wI x3).toNat))) rfl ?_
            have hffft't' := hffft't.2
            refine q_iastore 86 k_Q_sink_86 o0 (n := 512) rfl hffft't'.1 (Or.inl rfl) ?_
            have hffft't'' := hffft't'.2
            refine q_iload_n 87 k_Q_sink_87 rfl ?_
            refine q_istore_n 88 k_Q_sink_88 (ls' := [some (vR 0 i0), some (vI x1), some (vI x3), some (vI x3)]) rfl rfl ?_
            refine q_iconst 89 k_Q_sink_89 ?_
            refine q_iload_n 90 k_Q_sink_90 rfl ?_
            refine q_imul 91 k_Q_sink_91 ?_
            refine q_iconst 92 k_Q_sink_92 ?_
            refine q_iadd 93 k_Q_sink_93 ?_
            refine q_istore_n 94 k_Q_sink_94 (ls' := [some (vR 0 i0), some (vI x1), some (vI x3), some (vI ((2 * x3) + 1))]) rfl rfl ?_
            refine q_goto 95 4 k_Q_sink_95 rfl rfl ?_
            exact hffft't''
          · have hffft'f := hffft'.2 c69
            refine q_goto 72 98 k_Q_sink_72 rfl rfl ?_
            refine q_aload_n 98 k_Q_sink_98 rfl ?_
            refine q_getfield 99 k_Q_sink_99 fk_0_11 o0 (v := vR 4 i0) rfl ?_
            refine q_iload_n 102 k_Q_sink_102 rfl ?_
            refine q_iload_n 103 k_Q_sink_103 rfl ?_
            refine q_iastore 104 k_Q_sink_104 o0 (n := 512) rfl hffft'f.1 (Or.inl rfl) ?_
            have hffft'f' := hffft'f.2
            exact q_vret 105 k_Q_sink_105 rfl hffft'f'
        · have hffff := hfff.2 c39
          refine q_aload_n 42 k_Q_sink_42 rfl ?_
          refine q_getfield 43 k_Q_sink_43 fk_0_11 o0 (v := vR 4 i0) rfl ?_
          refine q_iload_n 46 k_Q_sink_46 rfl ?_
          refine q_iconst 47 k_Q_sink_47 ?_
          refine q_iadd 48 k_Q_sink_48 ?_
          have hb5 := hffff.1
          refine q_iaload 49 k_Q_sink_49 o0 (n := 512) rfl hb5 (z := (M 4 i0 ((wI (x3 + 1)).toNat))) rfl ?_
          have hffff' := hffff.2
          refine q_aload_n 50 k_Q_sink_50 rfl ?_
          refine q_getfield 51 k_Q_sink_51 fk_0_11 o0 (v := vR 4 i0) rfl ?_
          refine q_iload_n 54 k_Q_sink_54 rfl ?_
          have hb6 := hffff'.1
          refine q_iaload 55 k_Q_sink_55 o0 (n := 512) rfl hb6 (z := (M 4 i0 ((wI x3).toNat))) rfl ?_
          have hffff'' := hffff'.2
          refine q_icmp_ge 56 62 k_Q_sink_56 rfl rfl (fun c56 => ?_) (fun c56 => ?_)
          · have hffff''t := hffff''.1 c56
            refine q_aload_n 62 k_Q_sink_62 rfl ?_
            refine q_getfield 63 k_Q_sink_63 fk_0_11 o0 (v := vR 4 i0) rfl ?_
            refine q_iload_n 66 k_Q_sink_66 rfl ?_
            have hb7 := hffff''t.1
            refine q_iaload 67 k_Q_sink_67 o0 (n := 512) rfl hb7 (z := (M 4 i0 ((wI x3).toNat))) rfl ?_
            have hffff''t' := hffff''t.2
            refine q_iload_n 68 k_Q_sink_68 rfl ?_
            refine q_icmp_le 69 75 k_Q_sink_69 rfl rfl (fun c69 => ?_) (fun c69 => ?_)
            · have hffff''t't := hffff''t'.1 c69
              refine q_aload_n 75 k_Q_sink_75 rfl ?_
              refine q_getfield 76 k_Q_sink_76 fk_0_11 o0 (v := vR 4 i0) rfl ?_
              refine q_iload_n 79 k_Q_sink_79 rfl ?_
              refine q_aload_n 80 k_Q_sink_80 rfl ?_
              refine q_getfield 81 k_Q_sink_81 fk_0_11 o0 (v := vR 4 i0) rfl ?_
              refine q_iload_n 84 k_Q_sink_84 rfl ?_
              have hb8 := hffff''t't.1
              refine q_iaload 85 k_Q_sink_85 o0 (n := 512) rfl hb8 (z := (M 4 i0 ((wI x3).toNat))) rfl ?_
              have hffff''t't' := hffff''t't.2
              refine q_iastore 86 k_Q_sink_86 o0 (n := 512) rfl hffff''t't'.1 (Or.inl rfl) ?_
              have hffff''t't'' := hffff''t't'.2
              refine q_iload_n 87 k_Q_sink_87 rfl ?_
              refine q_istore_n 88 k_Q_sink_88 (ls' := [some (vR 0 i0), some (vI x1), some (vI x3), some (vI x3)]) rfl rfl ?_
              refine q_iconst 89 k_Q_sink_89 ?_
              refine q_iload_n 90 k_Q_sink_90 rfl ?_
              refine q_imul 91 k_Q_sink_91 ?_
              refine q_iconst 92 k_Q_sink_92 ?_
              refine q_iadd 93 k_Q_sink_93 ?_
              refine q_istore_n 94 k_Q_sink_94 (ls' := [some (vR 0 i0), some (vI x1), some (vI x3), some (vI ((2 * x3) + 1))]) rfl rfl ?_
              refine q_goto 95 4 k_Q_sink_95 rfl rfl ?_
              exact hffff''t't''
            · have hffff''t'f := hffff''t'.2 c69
              refine q_goto 72 98 k_Q_sink_72 rfl rfl ?_
              refine q_aload_n 98 k_Q_sink_98 rfl ?_
              refine q_getfield 99 k_Q_sink_99 fk_0_11 o0 (v := vR 4 i0) rfl ?_
              refine q_iload_n 102 k_Q_sink_102 rfl ?_
              refine q_iload_n 103 k_Q_sink_103 rfl ?_
              refine q_iastore 104 k_Q_sink_104 o0 (n := 512) rfl hffff''t'f.1 (Or.inl rfl) ?_
              have hffff''t'f' := hffff''t'f.2
              exact q_vret 105 k_Q_sink_105 rfl hffff''t'f'
          · have hffff''f := hffff''.2 c56
            refine q_iinc 59 k_Q_sink_59 (ls' := [some (vR 0 i0), some (vI x1), some (vI x2), some (vI (x3 + 1))]) rfl rfl rfl ?_
            refine q_aload_n 62 k_Q_sink_62 rfl ?_
            refine q_getfield 63 k_Q_sink_63 fk_0_11 o0 (v := vR 4 i0) rfl ?_
            refine q_iload_n 66 k_Q_sink_66 rfl ?_
            have hb9 := hffff''f.1
            refine q_iaload 67 k_Q_sink_67 o0 (n := 512) rfl hb9 (z := (M 4 i0 ((wI (x3 + 1)).toNat))) rfl ?_
            have hffff''f' := hffff''f.2
            refine q_iload_n 68 k_Q_sink_68 rfl ?_
            refine q_icmp_le 69 75 k_Q_sink_69 rfl rfl (fun c69 => ?_) (fun c69 => ?_)
            · have hffff''f't := hffff''f'.1 c69
              refine q_aload_n 75 k_Q_sink_75 rfl ?_
              refine q_getfield 76 k_Q_sink_76 fk_0_11 o0 (v := vR 4 i0) rfl ?_
              refine q_iload_n 79 k_Q_sink_79 rfl ?_
              refine q_aload_n 80 k_Q_sink_80 rfl ?_
              refine q_getfield 81 k_Q_sink_81 fk_0_11 o0 (v := vR 4 i0) rfl ?_
              refine q_iload_n 84 k_Q_sink_84 rfl ?_
              have hb10 := hffff''f't.1
              refine q_iaload 85 k_Q_sink_85 o0 (n := 512) rfl hb10 (z := (M 4 i0 ((wI (x3 + 1)).toNat))) rfl ?_
              have hffff''f't' := hffff''f't.2
              refine q_iastore 86 k_Q_sink_86 o0 (n := 512) rfl hffff''f't'.1 (Or.inl rfl) ?_
              have hffff''f't'' := hffff''f't'.2
              refine q_iload_n 87 k_Q_sink_87 rfl ?_
              refine q_istore_n 88 k_Q_sink_88 (ls' := [some (vR 0 i0), some (vI x1), some (vI (x3 + 1)), some (vI (x3 + 1))]) rfl rfl ?_
              refine q_iconst 89 k_Q_sink_89 ?_
              refine q_iload_n 90 k_Q_sink_90 rfl ?_
              refine q_imul 91 k_Q_sink_91 ?_
              refine q_iconst 92 k_Q_sink_92 ?_
              refine q_iadd 93 k_Q_sink_93 ?_
              refine q_istore_n 94 k_Q_sink_94 (ls' := [some (vR 0 i0), some (vI x1), some (vI (x3 + 1)), some (vI ((2 * (x3 + 1)) + 1))]) rfl rfl ?_
              refine q_goto 95 4 k_Q_sink_95 rfl rfl ?_
              exact hffff''f't''
            · have hffff''f'f := hffff''f'.2 c69
              refine q_goto 72 98 k_Q_sink_72 rfl rfl ?_
              refine q_aload_n 98 k_Q_sink_98 rfl ?_
              refine q_getfield 99 k_Q_sink_99 fk_0_11 o0 (v := vR 4 i0) rfl ?_
              refine q_iload_n 102 k_Q_sink_102 rfl ?_
              refine q_iload_n 103 k_Q_sink_103 rfl ?_
              refine q_iastore 104 k_Q_sink_104 o0 (n := 512) rfl hffff''f'f.1 (Or.inl rfl) ?_
              have hffff''f'f' := hffff''f'f.2
              exact q_vret 105 k_Q_sink_105 rfl hffff''f'f'
theorem k_Q_turnOver_0 : decode (mtC m_Q_turnOver) 0 = .ok (.aload_n 0, 1) := by decide +kernel
theorem k_Q_turnOver_1 : decode (mtC m_Q_turnOver) 1 = .ok (.getfield 15, 3) := by decide +kernel
theorem k_Q_turnOver_4 : decode (mtC m_Q_turnOver) 4 = .ok (.istore_n 1, 1) := by decide +kernel
theorem k_Q_turnOver_5 : decode (mtC m_Q_turnOver) 5 = .ok (.iload_n 1, 1) := by decide +kernel
theorem k_Q_turnOver_6 : decode (mtC m_Q_turnOver) 6 = .ok (.iconst 1, 1) := by decide +kernel
theorem k_Q_turnOver_7 : decode (mtC m_Q_turnOver) 7 = .ok (.isub, 1) := by decide +kernel
theorem k_Q_turnOver_8 : decode (mtC m_Q_turnOver) 8 = .ok (.istore_n 2, 1) := by decide +kernel
theorem k_Q_turnOver_9 : decode (mtC m_Q_turnOver) 9 = .ok (.iload_n 2, 1) := by decide +kernel
theorem k_Q_turnOver_10 : decode (mtC m_Q_turnOver) 10 = .ok (.ifCond .lt 28, 3) := by decide +kernel
theorem k_Q_turnOver_13 : decode (mtC m_Q_turnOver) 13 = .ok (.iload_n 2, 1) := by decide +kernel
theorem k_Q_turnOver_14 : decode (mtC m_Q_turnOver) 14 = .ok (.aload_n 0, 1) := by decide +kernel
theorem k_Q_turnOver_15 : decode (mtC m_Q_turnOver) 15 = .ok (.getfield 11, 3) := by decide +kernel
theorem k_Q_turnOver_18 : decode (mtC m_Q_turnOver) 18 = .ok (.arraylength, 1) := by decide +kernel
theorem k_Q_turnOver_19 : decode (mtC m_Q_turnOver) 19 = .ok (.if_icmp .ge 19, 3) := by decide +kernel
theorem k_Q_turnOver_22 : decode (mtC m_Q_turnOver) 22 = .ok (.aload_n 0, 1) := by decide +kernel
theorem k_Q_turnOver_23 : decode (mtC m_Q_turnOver) 23 = .ok (.getfield 11, 3) := by decide +kernel
theorem k_Q_turnOver_26 : decode (mtC m_Q_turnOver) 26 = .ok (.iload_n 2, 1) := by decide +kernel
theorem k_Q_turnOver_27 : decode (mtC m_Q_turnOver) 27 = .ok (.aload_n 0, 1) := by decide +kernel
theorem k_Q_turnOver_28 : decode (mtC m_Q_turnOver) 28 = .ok (.invokevirtual 27, 3) := by decide +kernel
theorem k_Q_turnOver_31 : decode (mtC m_Q_turnOver) 31 = .ok (.iastore, 1) := by decide +kernel
theorem k_Q_turnOver_32 : decode (mtC m_Q_turnOver) 32 = .ok (.iinc 2 (-1), 3) := by decide +kernel
theorem k_Q_turnOver_35 : decode (mtC m_Q_turnOver) 35 = .ok (.goto (-26), 3) := by decide +kernel
theorem k_Q_turnOver_38 : decode (mtC m_Q_turnOver) 38 = .ok (.aload_n 0, 1) := by decide +kernel
theorem k_Q_turnOver_39 : decode (mtC m_Q_turnOver) 39 = .ok (.iload_n 1, 1) := by decide +kernel
theorem k_Q_turnOver_40 : decode (mtC m_Q_turnOver) 40 = .ok (.iconst (-1), 1) := by decide +kernel
theorem k_Q_turnOver_41 : decode (mtC m_Q_turnOver) 41 = .ok (.invokevirtual 31, 3) := by decide +kernel
theorem k_Q_turnOver_44 : decode (mtC m_Q_turnOver) 44 = .ok (.return_, 1) := by decide +kernel
set_option maxHeartbeats 4000000 in
set_option maxRecDepth 100000 in
theorem T_Q_turnOver_0 {d : Nat} {i0 : Nat} {M : AMem} {Q : Option AV → AMem → Prop} (o0 : okH 0 i0 = true) (h : RunQ (d + 1) m_Q_turnOver 9 [some (vR 0 i0), some (vI (M 0 i0 1)), some (vI ((M 0 i0 1) - 1))] [] M Q) : RunQ (d + 1) m_Q_turnOver 0 [some (vR 0 i0), none, none] [] M Q := by
  refine q_aload_n 0 k_Q_turnOver_0 rfl ?_
  refine q_getfield 1 k_Q_turnOver_1 fk_0_15 o0 (v := vI (M 0 i0 1)) rfl ?_
  refine q_istore_n 4 k_Q_turnOver_4 (ls' := [some (vR 0 i0), some (vI (M 0 i0 1)), none]) rfl rfl ?_
  refine q_iload_n 5 k_Q_turnOver_5 rfl ?_
  refine q_iconst 6 k_Q_turnOver_6 ?_
  refine q_isub 7 k_Q_turnOver_7 ?_
  refine q_istore_n 8 k_Q_turnOver_8 (ls' := [some (vR 0 i0), some (vI (M 0 i0 1)), some (vI ((M 0 i0 1) - 1))]) rfl rfl ?_
  exact h
set_option maxHeartbeats 4000000 in
set_option maxRecDepth 100000 in
theorem T_Q_turnOver_9 {d : Nat} {i0 : Nat} {x1 : Int} {x2 : Int} {M : AMem} {Q : Option AV → AMem → Prop} (o0 : okH 0 i0 = true) (h : ((wI x2 < 0) → CallV d m_Q_refill [vR 0 i0, vI x1, vI (-1)] M (fun M1 => Q none M1)) ∧ (¬ (wI x2 < 0) → ((512 ≤ wI x2) → CallV d m_Q_refill [vR 0 i0, vI x1, vI (-1)] M (fun M3 => Q none M3)) ∧ (¬ (512 ≤ wI x2) → CallI d m_Q_pop [vR 0 i0] M (fun y6 M5 => (0 ≤ wI x2 ∧ wI x2 < (512 : Nat)) ∧ (RunQ (d + 1) m_Q_turnOver 9 [some (vR 0 i0), some (vI x1), some (vI (x2 + (-1)))] [] (aup M5 4 i0 ((wI x2).toNat) y6) Q))))) : RunQ (d + 1) m_Q_turnOver 9 [some (vR 0 i0), some (vI x1), some (vI x2)] [] M Q := by
  refine q_iload_n 9 k_Q_turnOver_9 rfl ?_
  refine q_if_lt 10 38 k_Q_turnOver_10 rfl rfl (fun c10 => ?_) (fun c10 => ?_)
  · have ht := h.1 c10
    refine q_aload_n 38 k_Q_turnOver_38 rfl ?_
    refine q_iload_n 39 k_Q_turnOver_39 rfl ?_
    refine q_iconst 40 k_Q_turnOver_40 ?_
    refine q_vV 41 [vI x1, vI (-1)] [] k_Q_turnOver_41 lk_0_31 rfl rfl rfl o0 rfl rfl rfl rfl (CallV.mono (fun M1 h7 => ?_) ht)
    exact q_vret 44 k_Q_turnOver_44 rfl h7
  · have hf := h.2 c10
    refine q_iload_n 13 k_Q_turnOver_13 rfl ?_
    refine q_aload_n 14 k_Q_turnOver_14 rfl ?_
    refine q_getfield 15 k_Q_turnOver_15 fk_0_11 o0 (v := vR 4 i0) rfl ?_
    refine q_alen 18 k_Q_turnOver_18 o0 rfl (z := 512) rfl ?_
    refine q_icmp_ge 19 38 k_Q_turnOver_19 rfl rfl (fun c19 => ?_) (fun c19 => ?_)
    · have hft := hf.1 c19
      refine q_aload_n 38 k_Q_turnOver_38 rfl ?_
      refine q_iload_n 39 k_Q_turnOver_39 rfl ?_
      refine q_iconst 40 k_Q_turnOver_40 ?_
      refine q_vV 41 [vI x1, vI (-1)] [] k_Q_turnOver_41 lk_0_31 rfl rfl rfl o0 rfl rfl rfl rfl (CallV.mono (fun M3 h8 => ?_) hft)
      exact q_vret 44 k_Q_turnOver_44 rfl h8
    · have hff := hf.2 c19
      refine q_aload_n 22 k_Q_turnOver_22 rfl ?_
      refine q_getfield 23 k_Q_turnOver_23 fk_0_11 o0 (v := vR 4 i0) rfl ?_
      refine q_iload_n 26 k_Q_turnOver_26 rfl ?_
      refine q_aload_n 27 k_Q_turnOver_27 rfl ?_
      refine q_vI 28 [] [vI x2, vR 4 i0] k_Q_turnOver_28 lk_0_27 rfl rfl rfl o0 rfl rfl rfl rfl (CallI.mono (fun y6 M5 h9 => ?_) hff)
      refine q_iastore 31 k_Q_turnOver_31 o0 (n := 512) rfl h9.1 (Or.inl rfl) ?_
      have h9' := h9.2
      refine q_iinc 32 k_Q_turnOver_32 (ls' := [some (vR 0 i0), some (vI x1), some (vI (x2 + (-1)))]) rfl rfl rfl ?_
      refine q_goto 35 9 k_Q_turnOver_35 rfl rfl ?_
      exact h9'
theorem k_Q_remove_0 : decode (mtC m_Q_remove) 0 = .ok (.aload_n 0, 1) := by decide +kernel
theorem k_Q_remove_1 : decode (mtC m_Q_remove) 1 = .ok (.aload_n 0, 1) := by decide +kernel
theorem k_Q_remove_2 : decode (mtC m_Q_remove) 2 = .ok (.getfield 15, 3) := by decide +kernel
theorem k_Q_remove_5 : decode (mtC m_Q_remove) 5 = .ok (.iload_n 1, 1) := by decide +kernel
theorem k_Q_remove_6 : decode (mtC m_Q_remove) 6 = .ok (.invokevirtual 31, 3) := by decide +kernel
theorem k_Q_remove_9 : decode (mtC m_Q_remove) 9 = .ok (.return_, 1) := by decide +kernel
set_option maxHeartbeats 4000000 in
set_option maxRecDepth 100000 in
theorem T_Q_remove_0 {d : Nat} {i0 : Nat} {x1 : Int} {M : AMem} {Q : Option AV → AMem → Prop} (o0 : okH 0 i0 = true) (h : CallV d m_Q_refill [vR 0 i0, vI (M 0 i0 1), vI x1] M (fun M1 => Q none M1)) : RunQ (d + 1) m_Q_remove 0 [some (vR 0 i0), some (vI x1)] [] M Q := by
  refine q_aload_n 0 k_Q_remove_0 rfl ?_
  refine q_aload_n 1 k_Q_remove_1 rfl ?_
  refine q_getfield 2 k_Q_remove_2 fk_0_15 o0 (v := vI (M 0 i0 1)) rfl ?_
  refine q_iload_n 5 k_Q_remove_5 rfl ?_
  refine q_vV 6 [vI (M 0 i0 1), vI x1] [] k_Q_remove_6 lk_0_31 rfl rfl rfl o0 rfl rfl rfl rfl (CallV.mono (fun M1 h3 => ?_) h)
  exact q_vret 9 k_Q_remove_9 rfl h3
theorem k_Q_refill_0 : decode (mtC m_Q_refill) 0 = .ok (.aload_n 0, 1) := by decide +kernel
theorem k_Q_refill_1 : decode (mtC m_Q_refill) 1 = .ok (.iconst 0, 1) := by decide +kernel
theorem k_Q_refill_2 : decode (mtC m_Q_refill) 2 = .ok (.putfield 15, 3) := by decide +kernel
theorem k_Q_refill_5 : decode (mtC m_Q_refill) 5 = .ok (.iconst 0, 1) := by decide +kernel
theorem k_Q_refill_6 : decode (mtC m_Q_refill) 6 = .ok (.istore_n 3, 1) := by decide +kernel
theorem k_Q_refill_7 : decode (mtC m_Q_refill) 7 = .ok (.iload_n 3, 1) := by decide +kernel
theorem k_Q_refill_8 : decode (mtC m_Q_refill) 8 = .ok (.iload_n 1, 1) := by decide +kernel
theorem k_Q_refill_9 : decode (mtC m_Q_refill) 9 = .ok (.if_icmp .ge 41, 3) := by decide +kernel
theorem k_Q_refill_12 : decode (mtC m_Q_refill) 12 = .ok (.iload_n 3, 1) := by decide +kernel
theorem k_Q_refill_13 : decode (mtC m_Q_refill) 13 = .ok (.aload_n 0, 1) := by decide +kernel
theorem k_Q_refill_14 : decode (mtC m_Q_refill) 14 = .ok (.getfield 11, 3) := by decide +kernel
theorem k_Q_refill_17 : decode (mtC m_Q_refill) 17 = .ok (.arraylength, 1) := by decide +kernel
theorem k_Q_refill_18 : decode (mtC m_Q_refill) 18 = .ok (.if_icmp .ge 32, 3) := by decide +kernel
theorem k_Q_refill_21 : decode (mtC m_Q_refill) 21 = .ok (.aload_n 0, 1) := by decide +kernel
theorem k_Q_refill_22 : decode (mtC m_Q_refill) 22 = .ok (.getfield 11, 3) := by decide +kernel
theorem k_Q_refill_25 : decode (mtC m_Q_refill) 25 = .ok (.iload_n 3, 1) := by decide +kernel
theorem k_Q_refill_26 : decode (mtC m_Q_refill) 26 = .ok (.iaload, 1) := by decide +kernel
theorem k_Q_refill_27 : decode (mtC m_Q_refill) 27 = .ok (.istore 4, 2) := by decide +kernel
theorem k_Q_refill_29 : decode (mtC m_Q_refill) 29 = .ok (.iload 4, 2) := by decide +kernel
theorem k_Q_refill_31 : decode (mtC m_Q_refill) 31 = .ok (.invokestatic 35, 3) := by decide +kernel
theorem k_Q_refill_34 : decode (mtC m_Q_refill) 34 = .ok (.iload_n 2, 1) := by decide +kernel
theorem k_Q_refill_35 : decode (mtC m_Q_refill) 35 = .ok (.if_icmp .eq 9, 3) := by decide +kernel
theorem k_Q_refill_38 : decode (mtC m_Q_refill) 38 = .ok (.aload_n 0, 1) := by decide +kernel
theorem k_Q_refill_39 : decode (mtC m_Q_refill) 39 = .ok (.iload 4, 2) := by decide +kernel
theorem k_Q_refill_41 : decode (mtC m_Q_refill) 41 = .ok (.invokevirtual 38, 3) := by decide +kernel
theorem k_Q_refill_44 : decode (mtC m_Q_refill) 44 = .ok (.iinc 3 1, 3) := by decide +kernel
theorem k_Q_refill_47 : decode (mtC m_Q_refill) 47 = .ok (.goto (-40), 3) := by decide +kernel
theorem k_Q_refill_50 : decode (mtC m_Q_refill) 50 = .ok (.return_, 1) := by decide +kernel
set_option maxHeartbeats 4000000 in
set_option maxRecDepth 100000 in
theorem T_Q_refill_0 {d : Nat} {i0 : Nat} {x1 : Int} {x2 : Int} {M : AMem} {Q : Option AV → AMem → Prop} (o0 : okH 0 i0 = true) (h : RunQ (d + 1) m_Q_refill 7 [some (vR 0 i0), some (vI x1), some (vI x2), some (vI 0), none] [] (aup M 0 i0 1 0) Q) : RunQ (d + 1) m_Q_refill 0 [some (vR 0 i0), some (vI x1), some (vI x2), none, none] [] M Q := by
  refine q_aload_n 0 k_Q_refill_0 rfl ?_
  refine q_iconst 1 k_Q_refill_1 ?_
  refine q_putfield 2 k_Q_refill_2 fk_0_15 o0 rfl (fun z => absurd z (by decide)) ?_
  refine q_iconst 5 k_Q_refill_5 ?_
  refine q_istore_n 6 k_Q_refill_6 (ls' := [some (vR 0 i0), some (vI x1), some (vI x2), some (vI 0), none]) rfl rfl ?_
  exact h
set_option maxHeartbeats 4000000 in
set_option maxRecDepth 100000 in
theorem T_Q_refill_7 {d : Nat} {i0 : Nat} {x1 : Int} {x2 : Int} {x3 : Int} {M : AMem} {Q : Option AV → AMem → Prop} (o0 : okH 0 i0 = true) (h : ((wI x1 ≤ wI x3) → Q none M) ∧ (¬ (wI x1 ≤ wI x3) → ((512 ≤ wI x3) → Q none M) ∧ (¬ (512 ≤ wI x3) → (0 ≤ wI x3 ∧ wI x3 < (512 : Nat)) ∧ (CallI d m_Q_tagOf [vI (M 4 i0 ((wI x3).toNat))] M (fun y3 M2 => ((wI y3 = wI x2) → RunQ (d + 1) m_Q_refill 7 [some (vR 0 i0), some (vI x1), some (vI x2), some (vI (x3 + 1)), some (vI (M 4 i0 ((wI x3).toNat)))] [] M2 Q) ∧ (¬ (wI y3 = wI x2) → CallV d m_Q_push [vR 0 i0, vI (M 4 i0 ((wI x3).toNat))] M2 (fun M4 => RunQ (d + 1) m_Q_refill 7 [some (vR 0 i0), some (vI x1), some (vI x2), some (vI (x3 + 1)), some (vI (M 4 i0 ((wI x3).toNat)))] [] M4 Q))))))) : RunQ (d + 1) m_Q_refill 7 [some (vR 0 i0), some (vI x1), some (vI x2), some (vI x3), none] [] M Q := by
  refine q_iload_n 7 k_Q_refill_7 rfl ?_
  refine q_iload_n 8 k_Q_refill_8 rfl ?_
  refine q_icmp_ge 9 50 k_Q_refill_9 rfl rfl (fun c9 => ?_) (fun c9 => ?_)
  · have ht := h.1 c9
    exact q_vret 50 k_Q_refill_50 rfl ht
  · have hf := h.2 c9
    refine q_iload_n 12 k_Q_refill_12 rfl ?_
    refine q_aload_n 13 k_Q_refill_13 rfl ?_
    refine q_getfield 14 k_Q_refill_14 fk_0_11 o0 (v := vR 4 i0) rfl ?_
    refine q_alen 17 k_Q_refill_17 o0 rfl (z := 512) rfl ?_
    refine q_icmp_ge 18 50 k_Q_refill_18 rfl rfl (fun c18 => ?_) (fun c18 => ?_)
    · have hft := hf.1 c18
      exact q_vret 50 k_Q_refill_50 rfl hft
    · have hff := hf.2 c18
      refine q_aload_n 21 k_Q_refill_21 rfl ?_
      refine q_getfield 22 k_Q_refill_22 fk_0_11 o0 (v := vR 4 i0) rfl ?_
      refine q_iload_n 25 k_Q_refill_25 rfl ?_
      have hb1 := hff.1
      refine q_iaload 26 k_Q_refill_26 o0 (n := 512) rfl hb1 (z := (M 4 i0 ((wI x3).toNat))) rfl ?_
      have hff' := hff.2
      refine q_istore 27 k_Q_refill_27 (ls' := [some (vR 0 i0), some (vI x1), some (vI x2), some (vI x3), some (vI (M 4 i0 ((wI x3).toNat)))]) rfl rfl ?_
      refine q_iload 29 k_Q_refill_29 rfl ?_
      refine q_sI 31 [vI (M 4 i0 ((wI x3).toNat))] [] k_Q_refill_31 rfl lk_0_35 rfl rfl rfl rfl rfl rfl (CallI.mono (fun y3 M2 h6 => ?_) hff')
      refine q_iload_n 34 k_Q_refill_34 rfl ?_
      refine q_icmp_eq 35 44 k_Q_refill_35 rfl rfl (fun c35 => ?_) (fun c35 => ?_)
      · have h6t := h6.1 c35
        refine q_iinc 44 k_Q_refill_44 (ls' := [some (vR 0 i0), some (vI x1), some (vI x2), some (vI (x3 + 1)), some (vI (M 4 i0 ((wI x3).toNat)))]) rfl rfl rfl ?_
        refine q_goto 47 7 k_Q_refill_47 rfl rfl ?_
        exact h6t
      · have h6f := h6.2 c35
        refine q_aload_n 38 k_Q_refill_38 rfl ?_
        refine q_iload 39 k_Q_refill_39 rfl ?_
        refine q_vV 41 [vI (M 4 i0 ((wI x3).toNat))] [] k_Q_refill_41 lk_0_38 rfl rfl rfl o0 rfl rfl rfl rfl (CallV.mono (fun M4 h7 => ?_) h6f)
        refine q_iinc 44 k_Q_refill_44 (ls' := [some (vR 0 i0), some (vI x1), some (vI x2), some (vI (x3 + 1)), some (vI (M 4 i0 ((wI x3).toNat)))]) rfl rfl rfl ?_
        refine q_goto 47 7 k_Q_refill_47 rfl rfl ?_
        exact h7
theorem k_Q_holds_0 : decode (mtC m_Q_holds) 0 = .ok (.iconst 0, 1) := by decide +kernel
theorem k_Q_holds_1 : decode (mtC m_Q_holds) 1 = .ok (.istore_n 2, 1) := by decide +kernel
theorem k_Q_holds_2 : decode (mtC m_Q_holds) 2 = .ok (.iload_n 2, 1) := by decide +kernel
theorem k_Q_holds_3 : decode (mtC m_Q_holds) 3 = .ok (.aload_n 0, 1) := by decide +kernel
theorem k_Q_holds_4 : decode (mtC m_Q_holds) 4 = .ok (.getfield 15, 3) := by decide +kernel
theorem k_Q_holds_7 : decode (mtC m_Q_holds) 7 = .ok (.if_icmp .ge 33, 3) := by decide +kernel
theorem k_Q_holds_10 : decode (mtC m_Q_holds) 10 = .ok (.iload_n 2, 1) := by decide +kernel
theorem k_Q_holds_11 : decode (mtC m_Q_holds) 11 = .ok (.aload_n 0, 1) := by decide +kernel
theorem k_Q_holds_12 : decode (mtC m_Q_holds) 12 = .ok (.getfield 11, 3) := by decide +kernel
theorem k_Q_holds_15 : decode (mtC m_Q_holds) 15 = .ok (.arraylength, 1) := by decide +kernel
theorem k_Q_holds_16 : decode (mtC m_Q_holds) 16 = .ok (.if_icmp .ge 24, 3) := by decide +kernel
theorem k_Q_holds_19 : decode (mtC m_Q_holds) 19 = .ok (.aload_n 0, 1) := by decide +kernel
theorem k_Q_holds_20 : decode (mtC m_Q_holds) 20 = .ok (.getfield 11, 3) := by decide +kernel
theorem k_Q_holds_23 : decode (mtC m_Q_holds) 23 = .ok (.iload_n 2, 1) := by decide +kernel
theorem k_Q_holds_24 : decode (mtC m_Q_holds) 24 = .ok (.iaload, 1) := by decide +kernel
theorem k_Q_holds_25 : decode (mtC m_Q_holds) 25 = .ok (.invokestatic 35, 3) := by decide +kernel
theorem k_Q_holds_28 : decode (mtC m_Q_holds) 28 = .ok (.iload_n 1, 1) := by decide +kernel
theorem k_Q_holds_29 : decode (mtC m_Q_holds) 29 = .ok (.if_icmp .ne 5, 3) := by decide +kernel
theorem k_Q_holds_32 : decode (mtC m_Q_holds) 32 = .ok (.iconst 1, 1) := by decide +kernel
theorem k_Q_holds_33 : decode (mtC m_Q_holds) 33 = .ok (.ireturn, 1) := by decide +kernel
theorem k_Q_holds_34 : decode (mtC m_Q_holds) 34 = .ok (.iinc 2 1, 3) := by decide +kernel
theorem k_Q_holds_37 : decode (mtC m_Q_holds) 37 = .ok (.goto (-35), 3) := by decide +kernel
theorem k_Q_holds_40 : decode (mtC m_Q_holds) 40 = .ok (.iconst 0, 1) := by decide +kernel
theorem k_Q_holds_41 : decode (mtC m_Q_holds) 41 = .ok (.ireturn, 1) := by decide +kernel
set_option maxHeartbeats 4000000 in
set_option maxRecDepth 100000 in
theorem T_Q_holds_0 {d : Nat} {i0 : Nat} {x1 : Int} {M : AMem} {Q : Option AV → AMem → Prop} (o0 : okH 0 i0 = true) (h : RunQ (d + 1) m_Q_holds 2 [some (vR 0 i0), some (vI x1), some (vI 0)] [] M Q) : RunQ (d + 1) m_Q_holds 0 [some (vR 0 i0), some (vI x1), none] [] M Q := by
  refine q_iconst 0 k_Q_holds_0 ?_
  refine q_istore_n 1 k_Q_holds_1 (ls' := [some (vR 0 i0), some (vI x1), some (vI 0)]) rfl rfl ?_
  exact h
set_option maxHeartbeats 4000000 in
set_option maxRecDepth 100000 in
theorem T_Q_holds_2 {d : Nat} {i0 : Nat} {x1 : Int} {x2 : Int} {M : AMem} {Q : Option AV → AMem → Prop} (o0 : okH 0 i0 = true) (h : ((wI (M 0 i0 1) ≤ wI x2) → Q (some (vI 0)) M) ∧ (¬ (wI (M 0 i0 1) ≤ wI x2) → ((512 ≤ wI x2) → Q (some (vI 0)) M) ∧ (¬ (512 ≤ wI x2) → (0 ≤ wI x2 ∧ wI x2 < (512 : Nat)) ∧ (CallI d m_Q_tagOf [vI (M 4 i0 ((wI x2).toNat))] M (fun y3 M2 => ((¬ wI y3 = wI x1) → RunQ (d + 1) m_Q_holds 2 [some (vR 0 i0), some (vI x1), some (vI (x2 + 1))] [] M2 Q) ∧ (¬ (¬ wI y3 = wI x1) → Q (some (vI 1)) M2)))))) : RunQ (d + 1) m_Q_holds 2 [some (vR 0 i0), some (vI x1), some (vI x2)] [] M Q := by
  refine q_iload_n 2 k_Q_holds_2 rfl ?_
  refine q_aload_n 3 k_Q_holds_3 rfl ?_
  refine q_getfield 4 k_Q_holds_4 fk_0_15 o0 (v := vI (M 0 i0 1)) rfl ?_
  refine q_icmp_ge 7 40 k_Q_holds_7 rfl rfl (fun c7 => ?_) (fun c7 => ?_)
  · have ht := h.1 c7
    refine q_iconst 40 k_Q_holds_40 ?_
    exact q_zret 41 k_Q_holds_41 rfl (Or.inl rfl) ht
  · have hf := h.2 c7
    refine q_iload_n 10 k_Q_holds_10 rfl ?_
    refine q_aload_n 11 k_Q_holds_11 rfl ?_
    refine q_getfield 12 k_Q_holds_12 fk_0_11 o0 (v := vR 4 i0) rfl ?_
    refine q_alen 15 k_Q_holds_15 o0 rfl (z := 512) rfl ?_
    refine q_icmp_ge 16 40 k_Q_holds_16 rfl rfl (fun c16 => ?_) (fun c16 => ?_)
    · have hft := hf.1 c16
      refine q_iconst 40 k_Q_holds_40 ?_
      exact q_zret 41 k_Q_holds_41 rfl (Or.inl rfl) hft
    · have hff := hf.2 c16
      refine q_aload_n 19 k_Q_holds_19 rfl ?_
      refine q_getfield 20 k_Q_holds_20 fk_0_11 o0 (v := vR 4 i0) rfl ?_
      refine q_iload_n 23 k_Q_holds_23 rfl ?_
      have hb1 := hff.1
      refine q_iaload 24 k_Q_holds_24 o0 (n := 512) rfl hb1 (z := (M 4 i0 ((wI x2).toNat))) rfl ?_
      have hff' := hff.2
      refine q_sI 25 [vI (M 4 i0 ((wI x2).toNat))] [] k_Q_holds_25 rfl lk_0_35 rfl rfl rfl rfl rfl rfl (CallI.mono (fun y3 M2 h4 => ?_) hff')
      refine q_iload_n 28 k_Q_holds_28 rfl ?_
      refine q_icmp_ne 29 34 k_Q_holds_29 rfl rfl (fun c29 => ?_) (fun c29 => ?_)
      · have h4t := h4.1 c29
        refine q_iinc 34 k_Q_holds_34 (ls' := [some (vR 0 i0), some (vI x1), some (vI (x2 + 1))]) rfl rfl rfl ?_
        refine q_goto 37 2 k_Q_holds_37 rfl rfl ?_
        exact h4t
      · have h4f := h4.2 c29
        refine q_iconst 32 k_Q_holds_32 ?_
        exact q_zret 33 k_Q_holds_33 rfl (Or.inr rfl) h4f
theorem k_Q_countUpTo_0 : decode (mtC m_Q_countUpTo) 0 = .ok (.iconst 0, 1) := by decide +kernel
theorem k_Q_countUpTo_1 : decode (mtC m_Q_countUpTo) 1 = .ok (.istore_n 2, 1) := by decide +kernel
theorem k_Q_countUpTo_2 : decode (mtC m_Q_countUpTo) 2 = .ok (.iconst 0, 1) := by decide +kernel
theorem k_Q_countUpTo_3 : decode (mtC m_Q_countUpTo) 3 = .ok (.istore_n 3, 1) := by decide +kernel
theorem k_Q_countUpTo_4 : decode (mtC m_Q_countUpTo) 4 = .ok (.iload_n 3, 1) := by decide +kernel
theorem k_Q_countUpTo_5 : decode (mtC m_Q_countUpTo) 5 = .ok (.aload_n 0, 1) := by decide +kernel
theorem k_Q_countUpTo_6 : decode (mtC m_Q_countUpTo) 6 = .ok (.getfield 15, 3) := by decide +kernel
theorem k_Q_countUpTo_9 : decode (mtC m_Q_countUpTo) 9 = .ok (.if_icmp .ge 34, 3) := by decide +kernel
theorem k_Q_countUpTo_12 : decode (mtC m_Q_countUpTo) 12 = .ok (.iload_n 3, 1) := by decide +kernel
theorem k_Q_countUpTo_13 : decode (mtC m_Q_countUpTo) 13 = .ok (.aload_n 0, 1) := by decide +kernel
theorem k_Q_countUpTo_14 : decode (mtC m_Q_countUpTo) 14 = .ok (.getfield 11, 3) := by decide +kernel
theorem k_Q_countUpTo_17 : decode (mtC m_Q_countUpTo) 17 = .ok (.arraylength, 1) := by decide +kernel
theorem k_Q_countUpTo_18 : decode (mtC m_Q_countUpTo) 18 = .ok (.if_icmp .ge 25, 3) := by decide +kernel
theorem k_Q_countUpTo_21 : decode (mtC m_Q_countUpTo) 21 = .ok (.aload_n 0, 1) := by decide +kernel
theorem k_Q_countUpTo_22 : decode (mtC m_Q_countUpTo) 22 = .ok (.getfield 11, 3) := by decide +kernel
theorem k_Q_countUpTo_25 : decode (mtC m_Q_countUpTo) 25 = .ok (.iload_n 3, 1) := by decide +kernel
theorem k_Q_countUpTo_26 : decode (mtC m_Q_countUpTo) 26 = .ok (.iaload, 1) := by decide +kernel
theorem k_Q_countUpTo_27 : decode (mtC m_Q_countUpTo) 27 = .ok (.invokestatic 19, 3) := by decide +kernel
theorem k_Q_countUpTo_30 : decode (mtC m_Q_countUpTo) 30 = .ok (.iload_n 1, 1) := by decide +kernel
theorem k_Q_countUpTo_31 : decode (mtC m_Q_countUpTo) 31 = .ok (.if_icmp .gt 6, 3) := by decide +kernel
theorem k_Q_countUpTo_34 : decode (mtC m_Q_countUpTo) 34 = .ok (.iinc 2 1, 3) := by decide +kernel
theorem k_Q_countUpTo_37 : decode (mtC m_Q_countUpTo) 37 = .ok (.iinc 3 1, 3) := by decide +kernel
theorem k_Q_countUpTo_40 : decode (mtC m_Q_countUpTo) 40 = .ok (.goto (-36), 3) := by decide +kernel
theorem k_Q_countUpTo_43 : decode (mtC m_Q_countUpTo) 43 = .ok (.iload_n 2, 1) := by decide +kernel
theorem k_Q_countUpTo_44 : decode (mtC m_Q_countUpTo) 44 = .ok (.ireturn, 1) := by decide +kernel
set_option maxHeartbeats 4000000 in
set_option maxRecDepth 100000 in
theorem T_Q_countUpTo_0 {d : Nat} {i0 : Nat} {x1 : Int} {M : AMem} {Q : Option AV → AMem → Prop} (o0 : okH 0 i0 = true) (h : RunQ (d + 1) m_Q_countUpTo 4 [some (vR 0 i0), some (vI x1), some (vI 0), some (vI 0)] [] M Q) : RunQ (d + 1) m_Q_countUpTo 0 [some (vR 0 i0), some (vI x1), none, none] [] M Q := by
  refine q_iconst 0 k_Q_countUpTo_0 ?_
  refine q_istore_n 1 k_Q_countUpTo_1 (ls' := [some (vR 0 i0), some (vI x1), some (vI 0), none]) rfl rfl ?_
  refine q_iconst 2 k_Q_countUpTo_2 ?_
  refine q_istore_n 3 k_Q_countUpTo_3 (ls' := [some (vR 0 i0), some (vI x1), some (vI 0), some (vI 0)]) rfl rfl ?_
  exact h
set_option maxHeartbeats 4000000 in
set_option maxRecDepth 100000 in
theorem T_Q_countUpTo_4 {d : Nat} {i0 : Nat} {x1 : Int} {x2 : Int} {x3 : Int} {M : AMem} {Q : Option AV → AMem → Prop} (o0 : okH 0 i0 = true) (h : ((wI (M 0 i0 1) ≤ wI x3) → Q (some (vI x2)) M) ∧ (¬ (wI (M 0 i0 1) ≤ wI x3) → ((512 ≤ wI x3) → Q (some (vI x2)) M) ∧ (¬ (512 ≤ wI x3) → (0 ≤ wI x3 ∧ wI x3 < (512 : Nat)) ∧ (CallI d m_Q_numberOf [vI (M 4 i0 ((wI x3).toNat))] M (fun y3 M2 => ((wI x1 < wI y3) → RunQ (d + 1) m_Q_countUpTo 4 [some (vR 0 i0), some (vI x1), some (vI x2), some (vI (x3 + 1))] [] M2 Q) ∧ (¬ (wI x1 < wI y3) → RunQ (d + 1) m_Q_countUpTo 4 [some (vR 0 i0), some (vI x1), some (vI (x2 + 1)), some (vI (x3 + 1))] [] M2 Q)))))) : RunQ (d + 1) m_Q_countUpTo 4 [some (vR 0 i0), some (vI x1), some (vI x2), some (vI x3)] [] M Q := by
  refine q_iload_n 4 k_Q_countUpTo_4 rfl ?_
  refine q_aload_n 5 k_Q_countUpTo_5 rfl ?_
  refine q_getfield 6 k_Q_countUpTo_6 fk_0_15 o0 (v := vI (M 0 i0 1)) rfl ?_
  refine q_icmp_ge 9 43 k_Q_countUpTo_9 rfl rfl (fun c9 => ?_) (fun c9 => ?_)
  · have ht := h.1 c9
    refine q_iload_n 43 k_Q_countUpTo_43 rfl ?_
    exact q_iret 44 k_Q_countUpTo_44 rfl ht
  · have hf := h.2 c9
    refine q_iload_n 12 k_Q_countUpTo_12 rfl ?_
    refine q_aload_n 13 k_Q_countUpTo_13 rfl ?_
    refine q_getfield 14 k_Q_countUpTo_14 fk_0_11 o0 (v := vR 4 i0) rfl ?_
    refine q_alen 17 k_Q_countUpTo_17 o0 rfl (z := 512) rfl ?_
    refine q_icmp_ge 18 43 k_Q_countUpTo_18 rfl rfl (fun c18 => ?_) (fun c18 => ?_)
    · have hft := hf.1 c18
      refine q_iload_n 43 k_Q_countUpTo_43 rfl ?_
      exact q_iret 44 k_Q_countUpTo_44 rfl hft
    · have hff := hf.2 c18
      refine q_aload_n 21 k_Q_countUpTo_21 rfl ?_
      refine q_getfield 22 k_Q_countUpTo_22 fk_0_11 o0 (v := vR 4 i0) rfl ?_
      refine q_iload_n 25 k_Q_countUpTo_25 rfl ?_
      have hb1 := hff.1
      refine q_iaload 26 k_Q_countUpTo_26 o0 (n := 512) rfl hb1 (z := (M 4 i0 ((wI x3).toNat))) rfl ?_
      have hff' := hff.2
      refine q_sI 27 [vI (M 4 i0 ((wI x3).toNat))] [] k_Q_countUpTo_27 rfl lk_0_19 rfl rfl rfl rfl rfl rfl (CallI.mono (fun y3 M2 h4 => ?_) hff')
      refine q_iload_n 30 k_Q_countUpTo_30 rfl ?_
      refine q_icmp_gt 31 37 k_Q_countUpTo_31 rfl rfl (fun c31 => ?_) (fun c31 => ?_)
      · have h4t := h4.1 c31
        refine q_iinc 37 k_Q_countUpTo_37 (ls' := [some (vR 0 i0), some (vI x1), some (vI x2), some (vI (x3 + 1))]) rfl rfl rfl ?_
        refine q_goto 40 4 k_Q_countUpTo_40 rfl rfl ?_
        exact h4t
      · have h4f := h4.2 c31
        refine q_iinc 34 k_Q_countUpTo_34 (ls' := [some (vR 0 i0), some (vI x1), some (vI (x2 + 1)), some (vI x3)]) rfl rfl rfl ?_
        refine q_iinc 37 k_Q_countUpTo_37 (ls' := [some (vR 0 i0), some (vI x1), some (vI (x2 + 1)), some (vI (x3 + 1))]) rfl rfl rfl ?_
        refine q_goto 40 4 k_Q_countUpTo_40 rfl rfl ?_
        exact h4f
theorem k_Q_become_0 : decode (mtC m_Q_become) 0 = .ok (.aload_n 1, 1) := by decide +kernel
theorem k_Q_become_1 : decode (mtC m_Q_become) 1 = .ok (.getfield 11, 3) := by decide +kernel
theorem k_Q_become_4 : decode (mtC m_Q_become) 4 = .ok (.iconst 0, 1) := by decide +kernel
theorem k_Q_become_5 : decode (mtC m_Q_become) 5 = .ok (.aload_n 0, 1) := by decide +kernel
theorem k_Q_become_6 : decode (mtC m_Q_become) 6 = .ok (.getfield 11, 3) := by decide +kernel
theorem k_Q_become_9 : decode (mtC m_Q_become) 9 = .ok (.iconst 0, 1) := by decide +kernel
theorem k_Q_become_10 : decode (mtC m_Q_become) 10 = .ok (.sipush 512, 3) := by decide +kernel
theorem k_Q_become_13 : decode (mtC m_Q_become) 13 = .ok (.invokestatic 41, 3) := by decide +kernel
theorem k_Q_become_16 : decode (mtC m_Q_become) 16 = .ok (.aload_n 0, 1) := by decide +kernel
theorem k_Q_become_17 : decode (mtC m_Q_become) 17 = .ok (.aload_n 1, 1) := by decide +kernel
theorem k_Q_become_18 : decode (mtC m_Q_become) 18 = .ok (.getfield 15, 3) := by decide +kernel
theorem k_Q_become_21 : decode (mtC m_Q_become) 21 = .ok (.putfield 15, 3) := by decide +kernel
theorem k_Q_become_24 : decode (mtC m_Q_become) 24 = .ok (.return_, 1) := by decide +kernel
set_option maxHeartbeats 4000000 in
set_option maxRecDepth 100000 in
theorem T_Q_become_0 {d : Nat} {i0 : Nat} {i1 : Nat} {M : AMem} {Q : Option AV → AMem → Prop} (o0 : okH 0 i0 = true) (o1 : okH 0 i1 = true) (h : Q none (aup (acopy M 4 i1 i0 512) 0 i0 1 ((acopy M 4 i1 i0 512) 0 i1 1))) : RunQ d m_Q_become 0 [some (vR 0 i0), some (vR 0 i1)] [] M Q := by
  refine q_aload_n 0 k_Q_become_0 rfl ?_
  refine q_getfield 1 k_Q_become_1 fk_0_11 o1 (v := vR 4 i1) rfl ?_
  refine q_iconst 4 k_Q_become_4 ?_
  refine q_aload_n 5 k_Q_become_5 rfl ?_
  refine q_getfield 6 k_Q_become_6 fk_0_11 o0 (v := vR 4 i0) rfl ?_
  refine q_iconst 9 k_Q_become_9 ?_
  refine q_sipush 10 k_Q_become_10 (by decide) ?_
  refine q_copy 13 k_Q_become_13 rfl rfl o0 o1 (Or.inl rfl) ⟨by decide, by simp [alen]⟩ ?_
  refine q_aload_n 16 k_Q_become_16 rfl ?_
  refine q_aload_n 17 k_Q_become_17 rfl ?_
  refine q_getfield 18 k_Q_become_18 fk_0_15 o1 (v := vI ((acopy M 4 i1 i0 512) 0 i1 1)) rfl ?_
  refine q_putfield 21 k_Q_become_21 fk_0_15 o0 rfl (fun z => absurd z (by decide)) ?_
  exact q_vret 24 k_Q_become_24 rfl h
theorem k_R_numberAt_0 : decode (mtC m_R_numberAt) 0 = .ok (.iload_n 1, 1) := by decide +kernel
theorem k_R_numberAt_1 : decode (mtC m_R_numberAt) 1 = .ok (.ifCond .lt 20, 3) := by decide +kernel
theorem k_R_numberAt_4 : decode (mtC m_R_numberAt) 4 = .ok (.iload_n 1, 1) := by decide +kernel
theorem k_R_numberAt_5 : decode (mtC m_R_numberAt) 5 = .ok (.aload_n 0, 1) := by decide +kernel
theorem k_R_numberAt_6 : decode (mtC m_R_numberAt) 6 = .ok (.getfield 15, 3) := by decide +kernel
theorem k_R_numberAt_9 : decode (mtC m_R_numberAt) 9 = .ok (.if_icmp .ge 12, 3) := by decide +kernel
theorem k_R_numberAt_12 : decode (mtC m_R_numberAt) 12 = .ok (.iload_n 1, 1) := by decide +kernel
theorem k_R_numberAt_13 : decode (mtC m_R_numberAt) 13 = .ok (.aload_n 0, 1) := by decide +kernel
theorem k_R_numberAt_14 : decode (mtC m_R_numberAt) 14 = .ok (.getfield 9, 3) := by decide +kernel
theorem k_R_numberAt_17 : decode (mtC m_R_numberAt) 17 = .ok (.arraylength, 1) := by decide +kernel
theorem k_R_numberAt_18 : decode (mtC m_R_numberAt) 18 = .ok (.if_icmp .lt 7, 3) := by decide +kernel
theorem k_R_numberAt_21 : decode (mtC m_R_numberAt) 21 = .ok (.iconst (-1), 1) := by decide +kernel
theorem k_R_numberAt_22 : decode (mtC m_R_numberAt) 22 = .ok (.goto 9, 3) := by decide +kernel
theorem k_R_numberAt_25 : decode (mtC m_R_numberAt) 25 = .ok (.aload_n 0, 1) := by decide +kernel
theorem k_R_numberAt_26 : decode (mtC m_R_numberAt) 26 = .ok (.getfield 9, 3) := by decide +kernel
theorem k_R_numberAt_29 : decode (mtC m_R_numberAt) 29 = .ok (.iload_n 1, 1) := by decide +kernel
theorem k_R_numberAt_30 : decode (mtC m_R_numberAt) 30 = .ok (.iaload, 1) := by decide +kernel
theorem k_R_numberAt_31 : decode (mtC m_R_numberAt) 31 = .ok (.ireturn, 1) := by decide +kernel
set_option maxHeartbeats 4000000 in
set_option maxRecDepth 100000 in
theorem T_R_numberAt_0 {d : Nat} {i0 : Nat} {x1 : Int} {M : AMem} {Q : Option AV → AMem → Prop} (o0 : okH 1 i0 = true) (h : ((wI x1 < 0) → Q (some (vI (-1))) M) ∧ (¬ (wI x1 < 0) → ((wI (M 1 i0 1) ≤ wI x1) → Q (some (vI (-1))) M) ∧ (¬ (wI (M 1 i0 1) ≤ wI x1) → ((wI x1 < 8) → (0 ≤ wI x1 ∧ wI x1 < (8 : Nat)) ∧ (Q (some (vI (M 5 i0 ((wI x1).toNat)))) M)) ∧ (¬ (wI x1 < 8) → Q (some (vI (-1))) M)))) : RunQ d m_R_numberAt 0 [some (vR 1 i0), some (vI x1)] [] M Q := by
  refine q_iload_n 0 k_R_numberAt_0 rfl ?_
  refine q_if_lt 1 21 k_R_numberAt_1 rfl rfl (fun c1 => ?_) (fun c1 => ?_)
  · have ht := h.1 c1
    refine q_iconst 21 k_R_numberAt_21 ?_
    refine q_goto 22 31 k_R_numberAt_22 rfl rfl ?_
    exact q_iret 31 k_R_numberAt_31 rfl ht
  · have hf := h.2 c1
    refine q_iload_n 4 k_R_numberAt_4 rfl ?_
    refine q_aload_n 5 k_R_numberAt_5 rfl ?_
    refine q_getfield 6 k_R_numberAt_6 fk_1_15 o0 (v := vI (M 1 i0 1)) rfl ?_
    refine q_icmp_ge 9 21 k_R_numberAt_9 rfl rfl (fun c9 => ?_) (fun c9 => ?_)
    · have hft := hf.1 c9
      refine q_iconst 21 k_R_numberAt_21 ?_
      refine q_goto 22 31 k_R_numberAt_22 rfl rfl ?_
      exact q_iret 31 k_R_numberAt_31 rfl hft
    · have hff := hf.2 c9
      refine q_iload_n 12 k_R_numberAt_12 rfl ?_
      refine q_aload_n 13 k_R_numberAt_13 rfl ?_
      refine q_getfield 14 k_R_numberAt_14 fk_1_9 o0 (v := vR 5 i0) rfl ?_
      refine q_alen 17 k_R_numberAt_17 o0 rfl (z := 8) rfl ?_
      refine q_icmp_lt 18 25 k_R_numberAt_18 rfl rfl (fun c18 => ?_) (fun c18 => ?_)
      · have hfft := hff.1 c18
        refine q_aload_n 25 k_R_numberAt_25 rfl ?_
        refine q_getfield 26 k_R_numberAt_26 fk_1_9 o0 (v := vR 5 i0) rfl ?_
        refine q_iload_n 29 k_R_numberAt_29 rfl ?_
        have hb1 := hfft.1
        refine q_iaload 30 k_R_numberAt_30 o0 (n := 8) rfl hb1 (z := (M 5 i0 ((wI x1).toNat))) rfl ?_
        have hfft' := hfft.2
        exact q_iret 31 k_R_numberAt_31 rfl hfft'
      · have hfff := hff.2 c18
        refine q_iconst 21 k_R_numberAt_21 ?_
        refine q_goto 22 31 k_R_numberAt_22 rfl rfl ?_
        exact q_iret 31 k_R_numberAt_31 rfl hfff
theorem k_R_append_0 : decode (mtC m_R_append) 0 = .ok (.aload_n 0, 1) := by decide +kernel
theorem k_R_append_1 : decode (mtC m_R_append) 1 = .ok (.getfield 15, 3) := by decide +kernel
theorem k_R_append_4 : decode (mtC m_R_append) 4 = .ok (.ifCond .lt 29, 3) := by decide +kernel
theorem k_R_append_7 : decode (mtC m_R_append) 7 = .ok (.aload_n 0, 1) := by decide +kernel
theorem k_R_append_8 : decode (mtC m_R_append) 8 = .ok (.getfield 15, 3) := by decide +kernel
theorem k_R_append_11 : decode (mtC m_R_append) 11 = .ok (.aload_n 0, 1) := by decide +kernel
theorem k_R_append_12 : decode (mtC m_R_append) 12 = .ok (.getfield 9, 3) := by decide +kernel
theorem k_R_append_15 : decode (mtC m_R_append) 15 = .ok (.arraylength, 1) := by decide +kernel
theorem k_R_append_16 : decode (mtC m_R_append) 16 = .ok (.if_icmp .ge 17, 3) := by decide +kernel
theorem k_R_append_19 : decode (mtC m_R_append) 19 = .ok (.aload_n 0, 1) := by decide +kernel
theorem k_R_append_20 : decode (mtC m_R_append) 20 = .ok (.aload_n 0, 1) := by decide +kernel
theorem k_R_append_21 : decode (mtC m_R_append) 21 = .ok (.getfield 15, 3) := by decide +kernel
theorem k_R_append_24 : decode (mtC m_R_append) 24 = .ok (.iconst 1, 1) := by decide +kernel
theorem k_R_append_25 : decode (mtC m_R_append) 25 = .ok (.isub, 1) := by decide +kernel
theorem k_R_append_26 : decode (mtC m_R_append) 26 = .ok (.invokevirtual 19, 3) := by decide +kernel
theorem k_R_append_29 : decode (mtC m_R_append) 29 = .ok (.iload_n 1, 1) := by decide +kernel
theorem k_R_append_30 : decode (mtC m_R_append) 30 = .ok (.if_icmp .le 5, 3) := by decide +kernel
theorem k_R_append_33 : decode (mtC m_R_append) 33 = .ok (.iconst 0, 1) := by decide +kernel
theorem k_R_append_34 : decode (mtC m_R_append) 34 = .ok (.ireturn, 1) := by decide +kernel
theorem k_R_append_35 : decode (mtC m_R_append) 35 = .ok (.aload_n 0, 1) := by decide +kernel
theorem k_R_append_36 : decode (mtC m_R_append) 36 = .ok (.getfield 9, 3) := by decide +kernel
theorem k_R_append_39 : decode (mtC m_R_append) 39 = .ok (.aload_n 0, 1) := by decide +kernel
theorem k_R_append_40 : decode (mtC m_R_append) 40 = .ok (.getfield 15, 3) := by decide +kernel
theorem k_R_append_43 : decode (mtC m_R_append) 43 = .ok (.iload_n 1, 1) := by decide +kernel
theorem k_R_append_44 : decode (mtC m_R_append) 44 = .ok (.iastore, 1) := by decide +kernel
theorem k_R_append_45 : decode (mtC m_R_append) 45 = .ok (.aload_n 0, 1) := by decide +kernel
theorem k_R_append_46 : decode (mtC m_R_append) 46 = .ok (.dup, 1) := by decide +kernel
theorem k_R_append_47 : decode (mtC m_R_append) 47 = .ok (.getfield 15, 3) := by decide +kernel
theorem k_R_append_50 : decode (mtC m_R_append) 50 = .ok (.iconst 1, 1) := by decide +kernel
theorem k_R_append_51 : decode (mtC m_R_append) 51 = .ok (.iadd, 1) := by decide +kernel
theorem k_R_append_52 : decode (mtC m_R_append) 52 = .ok (.putfield 15, 3) := by decide +kernel
theorem k_R_append_55 : decode (mtC m_R_append) 55 = .ok (.iconst 1, 1) := by decide +kernel
theorem k_R_append_56 : decode (mtC m_R_append) 56 = .ok (.ireturn, 1) := by decide +kernel
set_option maxHeartbeats 4000000 in
set_option maxRecDepth 100000 in
theorem T_R_append_0 {d : Nat} {i0 : Nat} {x1 : Int} {M : AMem} {Q : Option AV → AMem → Prop} (o0 : okH 1 i0 = true) (h : ((wI (M 1 i0 1) < 0) → Q (some (vI 0)) M) ∧ (¬ (wI (M 1 i0 1) < 0) → ((8 ≤ wI (M 1 i0 1)) → Q (some (vI 0)) M) ∧ (¬ (8 ≤ wI (M 1 i0 1)) → CallI d m_R_numberAt [vR 1 i0, vI ((M 1 i0 1) - 1)] M (fun y2 M1 => ((wI y2 ≤ wI x1) → (0 ≤ wI (M1 1 i0 1) ∧ wI (M1 1 i0 1) < (8 : Nat)) ∧ (Q (some (vI 1)) (aup (aup M1 5 i0 ((wI (M1 1 i0 1)).toNat) x1) 1 i0 1 ((M1 1 i0 1) + 1)))) ∧ (¬ (wI y2 ≤ wI x1) → Q (some (vI 0)) M1))))) : RunQ (d + 1) m_R_append 0 [some (vR 1 i0), some (vI x1)] [] M Q := by
  refine q_aload_n 0 k_R_append_0 rfl ?_
  refine q_getfield 1 k_R_append_1 fk_1_15 o0 (v := vI (M 1 i0 1)) rfl ?_
  refine q_if_lt 4 33 k_R_append_4 rfl rfl (fun c4 => ?_) (fun c4 => ?_)
  · have ht := h.1 c4
    refine q_iconst 33 k_R_append_33 ?_
    exact q_zret 34 k_R_append_34 rfl (Or.inl rfl) ht
  · have hf := h.2 c4
    refine q_aload_n 7 k_R_append_7 rfl ?_
    refine q_getfield 8 k_R_append_8 fk_1_15 o0 (v := vI (M 1 i0 1)) rfl ?_
    refine q_aload_n 11 k_R_append_11 rfl ?_
    refine q_getfield 12 k_R_append_12 fk_1_9 o0 (v := vR 5 i0) rfl ?_
    refine q_alen 15 k_R_append_15 o0 rfl (z := 8) rfl ?_
    refine q_icmp_ge 16 33 k_R_append_16 rfl rfl (fun c16 => ?_) (fun c16 => ?_)
    · have hft := hf.1 c16
      refine q_iconst 33 k_R_append_33 ?_
      exact q_zret 34 k_R_append_34 rfl (Or.inl rfl) hft
    · have hff := hf.2 c16
      refine q_aload_n 19 k_R_append_19 rfl ?_
      refine q_aload_n 20 k_R_append_20 rfl ?_
      refine q_getfield 21 k_R_append_21 fk_1_15 o0 (v := vI (M 1 i0 1)) rfl ?_
      refine q_iconst 24 k_R_append_24 ?_
      refine q_isub 25 k_R_append_25 ?_
      refine q_vI 26 [vI ((M 1 i0 1) - 1)] [] k_R_append_26 lk_1_19 rfl rfl rfl o0 rfl rfl rfl rfl (CallI.mono (fun y2 M1 h3 => ?_) hff)
      refine q_iload_n 29 k_R_append_29 rfl ?_
      refine q_icmp_le 30 35 k_R_append_30 rfl rfl (fun c30 => ?_) (fun c30 => ?_)
      · have h3t := h3.1 c30
        refine q_aload_n 35 k_R_append_35 rfl ?_
        refine q_getfield 36 k_R_append_36 fk_1_9 o0 (v := vR 5 i0) rfl ?_
        refine q_aload_n 39 k_R_append_39 rfl ?_
        refine q_getfield 40 k_R_append_40 fk_1_15 o0 (v := vI (M1 1 i0 1)) rfl ?_
        refine q_iload_n 43 k_R_append_43 rfl ?_
        refine q_iastore 44 k_R_append_44 o0 (n := 8) rfl h3t.1 (Or.inr rfl) ?_
        have h3t' := h3t.2
        refine q_aload_n 45 k_R_append_45 rfl ?_
        refine q_dup 46 k_R_append_46 rfl ?_
        refine q_getfield 47 k_R_append_47 fk_1_15 o0 (v := vI (M1 1 i0 1)) (by simp [fval, aup]) ?_
        refine q_iconst 50 k_R_append_50 ?_
        refine q_iadd 51 k_R_append_51 ?_
        refine q_putfield 52 k_R_append_52 fk_1_15 o0 rfl (fun z => absurd z (by decide)) ?_
        refine q_iconst 55 k_R_append_55 ?_
        exact q_zret 56 k_R_append_56 rfl (Or.inr rfl) h3t'
      · have h3f := h3.2 c30
        refine q_iconst 33 k_R_append_33 ?_
        exact q_zret 34 k_R_append_34 rfl (Or.inl rfl) h3f
theorem k_R_removeLast_0 : decode (mtC m_R_removeLast) 0 = .ok (.aload_n 0, 1) := by decide +kernel
theorem k_R_removeLast_1 : decode (mtC m_R_removeLast) 1 = .ok (.aload_n 0, 1) := by decide +kernel
theorem k_R_removeLast_2 : decode (mtC m_R_removeLast) 2 = .ok (.getfield 15, 3) := by decide +kernel
theorem k_R_removeLast_5 : decode (mtC m_R_removeLast) 5 = .ok (.iconst 1, 1) := by decide +kernel
theorem k_R_removeLast_6 : decode (mtC m_R_removeLast) 6 = .ok (.isub, 1) := by decide +kernel
theorem k_R_removeLast_7 : decode (mtC m_R_removeLast) 7 = .ok (.invokevirtual 19, 3) := by decide +kernel
theorem k_R_removeLast_10 : decode (mtC m_R_removeLast) 10 = .ok (.istore_n 1, 1) := by decide +kernel
theorem k_R_removeLast_11 : decode (mtC m_R_removeLast) 11 = .ok (.aload_n 0, 1) := by decide +kernel
theorem k_R_removeLast_12 : decode (mtC m_R_removeLast) 12 = .ok (.dup, 1) := by decide +kernel
theorem k_R_removeLast_13 : decode (mtC m_R_removeLast) 13 = .ok (.getfield 15, 3) := by decide +kernel
theorem k_R_removeLast_16 : decode (mtC m_R_removeLast) 16 = .ok (.iconst 1, 1) := by decide +kernel
theorem k_R_removeLast_17 : decode (mtC m_R_removeLast) 17 = .ok (.isub, 1) := by decide +kernel
theorem k_R_removeLast_18 : decode (mtC m_R_removeLast) 18 = .ok (.putfield 15, 3) := by decide +kernel
theorem k_R_removeLast_21 : decode (mtC m_R_removeLast) 21 = .ok (.iload_n 1, 1) := by decide +kernel
theorem k_R_removeLast_22 : decode (mtC m_R_removeLast) 22 = .ok (.ireturn, 1) := by decide +kernel
set_option maxHeartbeats 4000000 in
set_option maxRecDepth 100000 in
theorem T_R_removeLast_0 {d : Nat} {i0 : Nat} {M : AMem} {Q : Option AV → AMem → Prop} (o0 : okH 1 i0 = true) (h : CallI d m_R_numberAt [vR 1 i0, vI ((M 1 i0 1) - 1)] M (fun y2 M1 => Q (some (vI y2)) (aup M1 1 i0 1 ((M1 1 i0 1) - 1)))) : RunQ (d + 1) m_R_removeLast 0 [some (vR 1 i0), none] [] M Q := by
  refine q_aload_n 0 k_R_removeLast_0 rfl ?_
  refine q_aload_n 1 k_R_removeLast_1 rfl ?_
  refine q_getfield 2 k_R_removeLast_2 fk_1_15 o0 (v := vI (M 1 i0 1)) rfl ?_
  refine q_iconst 5 k_R_removeLast_5 ?_
  refine q_isub 6 k_R_removeLast_6 ?_
  refine q_vI 7 [vI ((M 1 i0 1) - 1)] [] k_R_removeLast_7 lk_1_19 rfl rfl rfl o0 rfl rfl rfl rfl (CallI.mono (fun y2 M1 h3 => ?_) h)
  refine q_istore_n 10 k_R_removeLast_10 (ls' := [some (vR 1 i0), some (vI y2)]) rfl rfl ?_
  refine q_aload_n 11 k_R_removeLast_11 rfl ?_
  refine q_dup 12 k_R_removeLast_12 rfl ?_
  refine q_getfield 13 k_R_removeLast_13 fk_1_15 o0 (v := vI (M1 1 i0 1)) rfl ?_
  refine q_iconst 16 k_R_removeLast_16 ?_
  refine q_isub 17 k_R_removeLast_17 ?_
  refine q_putfield 18 k_R_removeLast_18 fk_1_15 o0 rfl (fun z => absurd z (by decide)) ?_
  refine q_iload_n 21 k_R_removeLast_21 rfl ?_
  exact q_iret 22 k_R_removeLast_22 rfl h3
theorem k_R_become_0 : decode (mtC m_R_become) 0 = .ok (.aload_n 1, 1) := by decide +kernel
theorem k_R_become_1 : decode (mtC m_R_become) 1 = .ok (.getfield 9, 3) := by decide +kernel
theorem k_R_become_4 : decode (mtC m_R_become) 4 = .ok (.iconst 0, 1) := by decide +kernel
theorem k_R_become_5 : decode (mtC m_R_become) 5 = .ok (.aload_n 0, 1) := by decide +kernel
theorem k_R_become_6 : decode (mtC m_R_become) 6 = .ok (.getfield 9, 3) := by decide +kernel
theorem k_R_become_9 : decode (mtC m_R_become) 9 = .ok (.iconst 0, 1) := by decide +kernel
theorem k_R_become_10 : decode (mtC m_R_become) 10 = .ok (.bipush 8, 2) := by decide +kernel
theorem k_R_become_12 : decode (mtC m_R_become) 12 = .ok (.invokestatic 23, 3) := by decide +kernel
theorem k_R_become_15 : decode (mtC m_R_become) 15 = .ok (.aload_n 0, 1) := by decide +kernel
theorem k_R_become_16 : decode (mtC m_R_become) 16 = .ok (.aload_n 1, 1) := by decide +kernel
theorem k_R_become_17 : decode (mtC m_R_become) 17 = .ok (.getfield 15, 3) := by decide +kernel
theorem k_R_become_20 : decode (mtC m_R_become) 20 = .ok (.putfield 15, 3) := by decide +kernel
theorem k_R_become_23 : decode (mtC m_R_become) 23 = .ok (.return_, 1) := by decide +kernel
set_option maxHeartbeats 4000000 in
set_option maxRecDepth 100000 in
theorem T_R_become_0 {d : Nat} {i0 : Nat} {i1 : Nat} {M : AMem} {Q : Option AV → AMem → Prop} (o0 : okH 1 i0 = true) (o1 : okH 1 i1 = true) (h : Q none (aup (acopy M 5 i1 i0 8) 1 i0 1 ((acopy M 5 i1 i0 8) 1 i1 1))) : RunQ d m_R_become 0 [some (vR 1 i0), some (vR 1 i1)] [] M Q := by
  refine q_aload_n 0 k_R_become_0 rfl ?_
  refine q_getfield 1 k_R_become_1 fk_1_9 o1 (v := vR 5 i1) rfl ?_
  refine q_iconst 4 k_R_become_4 ?_
  refine q_aload_n 5 k_R_become_5 rfl ?_
  refine q_getfield 6 k_R_become_6 fk_1_9 o0 (v := vR 5 i0) rfl ?_
  refine q_iconst 9 k_R_become_9 ?_
  refine q_bipush 10 k_R_become_10 (by decide) ?_
  refine q_copy 12 k_R_become_12 rfl rfl o0 o1 (Or.inr rfl) ⟨by decide, by simp [alen]⟩ ?_
  refine q_aload_n 15 k_R_become_15 rfl ?_
  refine q_aload_n 16 k_R_become_16 rfl ?_
  refine q_getfield 17 k_R_become_17 fk_1_15 o1 (v := vI ((acopy M 5 i1 i0 8) 1 i1 1)) rfl ?_
  refine q_putfield 20 k_R_become_20 fk_1_15 o0 rfl (fun z => absurd z (by decide)) ?_
  exact q_vret 23 k_R_become_23 rfl h
theorem k_R_countUpTo_0 : decode (mtC m_R_countUpTo) 0 = .ok (.iconst 0, 1) := by decide +kernel
theorem k_R_countUpTo_1 : decode (mtC m_R_countUpTo) 1 = .ok (.istore_n 2, 1) := by decide +kernel
theorem k_R_countUpTo_2 : decode (mtC m_R_countUpTo) 2 = .ok (.iload_n 2, 1) := by decide +kernel
theorem k_R_countUpTo_3 : decode (mtC m_R_countUpTo) 3 = .ok (.aload_n 0, 1) := by decide +kernel
theorem k_R_countUpTo_4 : decode (mtC m_R_countUpTo) 4 = .ok (.getfield 15, 3) := by decide +kernel
theorem k_R_countUpTo_7 : decode (mtC m_R_countUpTo) 7 = .ok (.if_icmp .ge 18, 3) := by decide +kernel
theorem k_R_countUpTo_10 : decode (mtC m_R_countUpTo) 10 = .ok (.aload_n 0, 1) := by decide +kernel
theorem k_R_countUpTo_11 : decode (mtC m_R_countUpTo) 11 = .ok (.iload_n 2, 1) := by decide +kernel
theorem k_R_countUpTo_12 : decode (mtC m_R_countUpTo) 12 = .ok (.invokevirtual 19, 3) := by decide +kernel
theorem k_R_countUpTo_15 : decode (mtC m_R_countUpTo) 15 = .ok (.iload_n 1, 1) := by decide +kernel
theorem k_R_countUpTo_16 : decode (mtC m_R_countUpTo) 16 = .ok (.if_icmp .gt 9, 3) := by decide +kernel
theorem k_R_countUpTo_19 : decode (mtC m_R_countUpTo) 19 = .ok (.iinc 2 1, 3) := by decide +kernel
theorem k_R_countUpTo_22 : decode (mtC m_R_countUpTo) 22 = .ok (.goto (-20), 3) := by decide +kernel
theorem k_R_countUpTo_25 : decode (mtC m_R_countUpTo) 25 = .ok (.iload_n 2, 1) := by decide +kernel
theorem k_R_countUpTo_26 : decode (mtC m_R_countUpTo) 26 = .ok (.ireturn, 1) := by decide +kernel
set_option maxHeartbeats 4000000 in
set_option maxRecDepth 100000 in
theorem T_R_countUpTo_0 {d : Nat} {i0 : Nat} {x1 : Int} {M : AMem} {Q : Option AV → AMem → Prop} (o0 : okH 1 i0 = true) (h : RunQ (d + 1) m_R_countUpTo 2 [some (vR 1 i0), some (vI x1), some (vI 0)] [] M Q) : RunQ (d + 1) m_R_countUpTo 0 [some (vR 1 i0), some (vI x1), none] [] M Q := by
  refine q_iconst 0 k_R_countUpTo_0 ?_
  refine q_istore_n 1 k_R_countUpTo_1 (ls' := [some (vR 1 i0), some (vI x1), some (vI 0)]) rfl rfl ?_
  exact h
set_option maxHeartbeats 4000000 in
set_option maxRecDepth 100000 in
theorem T_R_countUpTo_2 {d : Nat} {i0 : Nat} {x1 : Int} {x2 : Int} {M : AMem} {Q : Option AV → AMem → Prop} (o0 : okH 1 i0 = true) (h : ((wI (M 1 i0 1) ≤ wI x2) → Q (some (vI x2)) M) ∧ (¬ (wI (M 1 i0 1) ≤ wI x2) → CallI d m_R_numberAt [vR 1 i0, vI x2] M (fun y2 M1 => ((wI x1 < wI y2) → Q (some (vI x2)) M1) ∧ (¬ (wI x1 < wI y2) → RunQ (d + 1) m_R_countUpTo 2 [some (vR 1 i0), some (vI x1), some (vI (x2 + 1))] [] M1 Q)))) : RunQ (d + 1) m_R_countUpTo 2 [some (vR 1 i0), some (vI x1), some (vI x2)] [] M Q := by
  refine q_iload_n 2 k_R_countUpTo_2 rfl ?_
  refine q_aload_n 3 k_R_countUpTo_3 rfl ?_
  refine q_getfield 4 k_R_countUpTo_4 fk_1_15 o0 (v := vI (M 1 i0 1)) rfl ?_
  refine q_icmp_ge 7 25 k_R_countUpTo_7 rfl rfl (fun c7 => ?_) (fun c7 => ?_)
  · have ht := h.1 c7
    refine q_iload_n 25 k_R_countUpTo_25 rfl ?_
    exact q_iret 26 k_R_countUpTo_26 rfl ht
  · have hf := h.2 c7
    refine q_aload_n 10 k_R_countUpTo_10 rfl ?_
    refine q_iload_n 11 k_R_countUpTo_11 rfl ?_
    refine q_vI 12 [vI x2] [] k_R_countUpTo_12 lk_1_19 rfl rfl rfl o0 rfl rfl rfl rfl (CallI.mono (fun y2 M1 h3 => ?_) hf)
    refine q_iload_n 15 k_R_countUpTo_15 rfl ?_
    refine q_icmp_gt 16 25 k_R_countUpTo_16 rfl rfl (fun c16 => ?_) (fun c16 => ?_)
    · have h3t := h3.1 c16
      refine q_iload_n 25 k_R_countUpTo_25 rfl ?_
      exact q_iret 26 k_R_countUpTo_26 rfl h3t
    · have h3f := h3.2 c16
      refine q_iinc 19 k_R_countUpTo_19 (ls' := [some (vR 1 i0), some (vI x1), some (vI (x2 + 1))]) rfl rfl rfl ?_
      refine q_goto 22 2 k_R_countUpTo_22 rfl rfl ?_
      exact h3f
theorem k_R_isRising_0 : decode (mtC m_R_isRising) 0 = .ok (.iconst 1, 1) := by decide +kernel
theorem k_R_isRising_1 : decode (mtC m_R_isRising) 1 = .ok (.istore_n 1, 1) := by decide +kernel
theorem k_R_isRising_2 : decode (mtC m_R_isRising) 2 = .ok (.iload_n 1, 1) := by decide +kernel
theorem k_R_isRising_3 : decode (mtC m_R_isRising) 3 = .ok (.aload_n 0, 1) := by decide +kernel
theorem k_R_isRising_4 : decode (mtC m_R_isRising) 4 = .ok (.getfield 15, 3) := by decide +kernel
theorem k_R_isRising_7 : decode (mtC m_R_isRising) 7 = .ok (.if_icmp .ge 26, 3) := by decide +kernel
theorem k_R_isRising_10 : decode (mtC m_R_isRising) 10 = .ok (.aload_n 0, 1) := by decide +kernel
theorem k_R_isRising_11 : decode (mtC m_R_isRising) 11 = .ok (.iload_n 1, 1) := by decide +kernel
theorem k_R_isRising_12 : decode (mtC m_R_isRising) 12 = .ok (.invokevirtual 19, 3) := by decide +kernel
theorem k_R_isRising_15 : decode (mtC m_R_isRising) 15 = .ok (.aload_n 0, 1) := by decide +kernel
theorem k_R_isRising_16 : decode (mtC m_R_isRising) 16 = .ok (.iload_n 1, 1) := by decide +kernel
theorem k_R_isRising_17 : decode (mtC m_R_isRising) 17 = .ok (.iconst 1, 1) := by decide +kernel
theorem k_R_isRising_18 : decode (mtC m_R_isRising) 18 = .ok (.isub, 1) := by decide +kernel
theorem k_R_isRising_19 : decode (mtC m_R_isRising) 19 = .ok (.invokevirtual 19, 3) := by decide +kernel
theorem k_R_isRising_22 : decode (mtC m_R_isRising) 22 = .ok (.if_icmp .ge 5, 3) := by decide +kernel
theorem k_R_isRising_25 : decode (mtC m_R_isRising) 25 = .ok (.iconst 0, 1) := by decide +kernel
theorem k_R_isRising_26 : decode (mtC m_R_isRising) 26 = .ok (.ireturn, 1) := by decide +kernel
theorem k_R_isRising_27 : decode (mtC m_R_isRising) 27 = .ok (.iinc 1 1, 3) := by decide +kernel
theorem k_R_isRising_30 : decode (mtC m_R_isRising) 30 = .ok (.goto (-28), 3) := by decide +kernel
theorem k_R_isRising_33 : decode (mtC m_R_isRising) 33 = .ok (.iconst 1, 1) := by decide +kernel
theorem k_R_isRising_34 : decode (mtC m_R_isRising) 34 = .ok (.ireturn, 1) := by decide +kernel
set_option maxHeartbeats 4000000 in
set_option maxRecDepth 100000 in
theorem T_R_isRising_0 {d : Nat} {i0 : Nat} {M : AMem} {Q : Option AV → AMem → Prop} (o0 : okH 1 i0 = true) (h : RunQ (d + 1) m_R_isRising 2 [some (vR 1 i0), some (vI 1)] [] M Q) : RunQ (d + 1) m_R_isRising 0 [some (vR 1 i0), none] [] M Q := by
  refine q_iconst 0 k_R_isRising_0 ?_
  refine q_istore_n 1 k_R_isRising_1 (ls' := [some (vR 1 i0), some (vI 1)]) rfl rfl ?_
  exact h
set_option maxHeartbeats 4000000 in
set_option maxRecDepth 100000 in
theorem T_R_isRising_2 {d : Nat} {i0 : Nat} {x1 : Int} {M : AMem} {Q : Option AV → AMem → Prop} (o0 : okH 1 i0 = true) (h : ((wI (M 1 i0 1) ≤ wI x1) → Q (some (vI 1)) M) ∧ (¬ (wI (M 1 i0 1) ≤ wI x1) → CallI d m_R_numberAt [vR 1 i0, vI x1] M (fun y2 M1 => CallI d m_R_numberAt [vR 1 i0, vI (x1 - 1)] M1 (fun y4 M3 => ((wI y4 ≤ wI y2) → RunQ (d + 1) m_R_isRising 2 [some (vR 1 i0), some (vI (x1 + 1))] [] M3 Q) ∧ (¬ (wI y4 ≤ wI y2) → Q (some (vI 0)) M3))))) : RunQ (d + 1) m_R_isRising 2 [some (vR 1 i0), some (vI x1)] [] M Q := by
  refine q_iload_n 2 k_R_isRising_2 rfl ?_
  refine q_aload_n 3 k_R_isRising_3 rfl ?_
  refine q_getfield 4 k_R_isRising_4 fk_1_15 o0 (v := vI (M 1 i0 1)) rfl ?_
  refine q_icmp_ge 7 33 k_R_isRising_7 rfl rfl (fun c7 => ?_) (fun c7 => ?_)
  · have ht := h.1 c7
    refine q_iconst 33 k_R_isRising_33 ?_
    exact q_zret 34 k_R_isRising_34 rfl (Or.inr rfl) ht
  · have hf := h.2 c7
    refine q_aload_n 10 k_R_isRising_10 rfl ?_
    refine q_iload_n 11 k_R_isRising_11 rfl ?_
    refine q_vI 12 [vI x1] [] k_R_isRising_12 lk_1_19 rfl rfl rfl o0 rfl rfl rfl rfl (CallI.mono (fun y2 M1 h5 => ?_) hf)
    refine q_aload_n 15 k_R_isRising_15 rfl ?_
    refine q_iload_n 16 k_R_isRising_16 rfl ?_
    refine q_iconst 17 k_R_isRising_17 ?_
    refine q_isub 18 k_R_isRising_18 ?_
    refine q_vI 19 [vI (x1 - 1)] [vI y2] k_R_isRising_19 lk_1_19 rfl rfl rfl o0 rfl rfl rfl rfl (CallI.mono (fun y4 M3 h6 => ?_) h5)
    refine q_icmp_ge 22 27 k_R_isRising_22 rfl rfl (fun c22 => ?_) (fun c22 => ?_)
    · have h6t := h6.1 c22
      refine q_iinc 27 k_R_isRising_27 (ls' := [some (vR 1 i0), some (vI (x1 + 1))]) rfl rfl rfl ?_
      refine q_goto 30 2 k_R_isRising_30 rfl rfl ?_
      exact h6t
    · have h6f := h6.2 c22
      refine q_iconst 25 k_R_isRising_25 ?_
      exact q_zret 26 k_R_isRising_26 rfl (Or.inl rfl) h6f
end
section
theorem k_W_beginGrid_0 : decode (mtC m_W_beginGrid) 0 = .ok (.aload_n 0, 1) := by decide +kernel
theorem k_W_beginGrid_1 : decode (mtC m_W_beginGrid) 1 = .ok (.getfield 11, 3) := by decide +kernel
theorem k_W_beginGrid_4 : decode (mtC m_W_beginGrid) 4 = .ok (.iconst 0, 1) := by decide +kernel
theorem k_W_beginGrid_5 : decode (mtC m_W_beginGrid) 5 = .ok (.aaload, 1) := by decide +kernel
theorem k_W_beginGrid_6 : decode (mtC m_W_beginGrid) 6 = .ok (.aload_n 2, 1) := by decide +kernel
theorem k_W_beginGrid_7 : decode (mtC m_W_beginGrid) 7 = .ok (.invokevirtual 29, 3) := by decide +kernel
theorem k_W_beginGrid_10 : decode (mtC m_W_beginGrid) 10 = .ok (.aload_n 0, 1) := by decide +kernel
theorem k_W_beginGrid_11 : decode (mtC m_W_beginGrid) 11 = .ok (.getfield 11, 3) := by decide +kernel
theorem k_W_beginGrid_14 : decode (mtC m_W_beginGrid) 14 = .ok (.iconst 1, 1) := by decide +kernel
theorem k_W_beginGrid_15 : decode (mtC m_W_beginGrid) 15 = .ok (.aaload, 1) := by decide +kernel
theorem k_W_beginGrid_16 : decode (mtC m_W_beginGrid) 16 = .ok (.aload_n 3, 1) := by decide +kernel
theorem k_W_beginGrid_17 : decode (mtC m_W_beginGrid) 17 = .ok (.invokevirtual 29, 3) := by decide +kernel
theorem k_W_beginGrid_20 : decode (mtC m_W_beginGrid) 20 = .ok (.aload_n 0, 1) := by decide +kernel
theorem k_W_beginGrid_21 : decode (mtC m_W_beginGrid) 21 = .ok (.getfield 11, 3) := by decide +kernel
theorem k_W_beginGrid_24 : decode (mtC m_W_beginGrid) 24 = .ok (.iconst 2, 1) := by decide +kernel
theorem k_W_beginGrid_25 : decode (mtC m_W_beginGrid) 25 = .ok (.aaload, 1) := by decide +kernel
theorem k_W_beginGrid_26 : decode (mtC m_W_beginGrid) 26 = .ok (.aload 4, 2) := by decide +kernel
theorem k_W_beginGrid_28 : decode (mtC m_W_beginGrid) 28 = .ok (.invokevirtual 29, 3) := by decide +kernel
theorem k_W_beginGrid_31 : decode (mtC m_W_beginGrid) 31 = .ok (.aload_n 0, 1) := by decide +kernel
theorem k_W_beginGrid_32 : decode (mtC m_W_beginGrid) 32 = .ok (.iload_n 1, 1) := by decide +kernel
theorem k_W_beginGrid_33 : decode (mtC m_W_beginGrid) 33 = .ok (.iconst 0, 1) := by decide +kernel
theorem k_W_beginGrid_34 : decode (mtC m_W_beginGrid) 34 = .ok (.iconst 0, 1) := by decide +kernel
theorem k_W_beginGrid_35 : decode (mtC m_W_beginGrid) 35 = .ok (.invokevirtual 33, 3) := by decide +kernel
theorem k_W_beginGrid_38 : decode (mtC m_W_beginGrid) 38 = .ok (.return_, 1) := by decide +kernel
set_option maxHeartbeats 4000000 in
set_option maxRecDepth 100000 in
theorem T_W_beginGrid_0 {d : Nat} {i0 : Nat} {x1 : Int} {i2 : Nat} {i3 : Nat} {i4 : Nat} {M : AMem} {Q : Option AV → AMem → Prop} (o0 : okH 2 i0 = true) (o2 : okH 1 i2 = true) (o3 : okH 1 i3 = true) (o4 : okH 1 i4 = true) (h : CallV d m_R_become [vR 1 (6 * i0 + 0), vR 1 i2] M (fun M1 => CallV d m_R_become [vR 1 (6 * i0 + 1), vR 1 i3] M1 (fun M3 => CallV d m_R_become [vR 1 (6 * i0 + 2), vR 1 i4] M3 (fun M5 => CallV d m_W_begin [vR 2 i0, vI x1, vI 0, vI 0] M5 (fun M7 => Q none M7))))) : RunQ (d + 1) m_W_beginGrid 0 [some (vR 2 i0), some (vI x1), some (vR 1 i2), some (vR 1 i3), some (vR 1 i4)] [] M Q := by
  refine q_aload_n 0 k_W_beginGrid_0 rfl ?_
  refine q_getfield 1 k_W_beginGrid_1 fk_2_11 o0 (v := vR 6 i0) rfl ?_
  refine q_iconst 4 k_W_beginGrid_4 ?_
  refine q_aaload 5 k_W_beginGrid_5 o0 (n := 6) rfl ⟨by decide, by decide⟩ (kd := 1) (x := (6 * i0 + 0)) rfl ?_
  refine q_aload_n 6 k_W_beginGrid_6 rfl ?_
  refine q_vV 7 [vR 1 i2] [] k_W_beginGrid_7 lk_2_29 rfl rfl rfl (ok_r6 (j := 0) o0 ⟨by decide, by decide⟩) rfl rfl rfl rfl (CallV.mono (fun M1 h9 => ?_) h)
  refine q_aload_n 10 k_W_beginGrid_10 rfl ?_
  refine q_getfield 11 k_W_beginGrid_11 fk_2_11 o0 (v := vR 6 i0) rfl ?_
  refine q_iconst 14 k_W_beginGrid_14 ?_
  refine q_aaload 15 k_W_beginGrid_15 o0 (n := 6) rfl ⟨by decide, by decide⟩ (kd := 1) (x := (6 * i0 + 1)) rfl ?_
  refine q_aload_n 16 k_W_beginGrid_16 rfl ?_
  refine q_vV 17 [vR 1 i3] [] k_W_beginGrid_17 lk_2_29 rfl rfl rfl (ok_r6 (j := 1) o0 ⟨by decide, by decide⟩) rfl rfl rfl rfl (CallV.mono (fun M3 h10 => ?_) h9)
  refine q_aload_n 20 k_W_beginGrid_20 rfl ?_
  refine q_getfield 21 k_W_beginGrid_21 fk_2_11 o0 (v := vR 6 i0) rfl ?_
  refine q_iconst 24 k_W_beginGrid_24 ?_
  refine q_aaload 25 k_W_beginGrid_25 o0 (n := 6) rfl ⟨by decide, by decide⟩ (kd := 1) (x := (6 * i0 + 2)) rfl ?_
  refine q_aload 26 k_W_beginGrid_26 rfl ?_
  refine q_vV 28 [vR 1 i4] [] k_W_beginGrid_28 lk_2_29 rfl rfl rfl (ok_r6 (j := 2) o0 ⟨by decide, by decide⟩) rfl rfl rfl rfl (CallV.mono (fun M5 h11 => ?_) h10)
  refine q_aload_n 31 k_W_beginGrid_31 rfl ?_
  refine q_iload_n 32 k_W_beginGrid_32 rfl ?_
  refine q_iconst 33 k_W_beginGrid_33 ?_
  refine q_iconst 34 k_W_beginGrid_34 ?_
  refine q_vV 35 [vI x1, vI 0, vI 0] [] k_W_beginGrid_35 lk_2_33 rfl rfl rfl o0 rfl rfl rfl rfl (CallV.mono (fun M7 h12 => ?_) h11)
  exact q_vret 38 k_W_beginGrid_38 rfl h12
theorem k_W_beginMerged_0 : decode (mtC m_W_beginMerged) 0 = .ok (.aload_n 0, 1) := by decide +kernel
theorem k_W_beginMerged_1 : decode (mtC m_W_beginMerged) 1 = .ok (.aload_n 1, 1) := by decide +kernel
theorem k_W_beginMerged_2 : decode (mtC m_W_beginMerged) 2 = .ok (.invokevirtual 37, 3) := by decide +kernel
theorem k_W_beginMerged_5 : decode (mtC m_W_beginMerged) 5 = .ok (.aload_n 0, 1) := by decide +kernel
theorem k_W_beginMerged_6 : decode (mtC m_W_beginMerged) 6 = .ok (.iconst 3, 1) := by decide +kernel
theorem k_W_beginMerged_7 : decode (mtC m_W_beginMerged) 7 = .ok (.iload_n 2, 1) := by decide +kernel
theorem k_W_beginMerged_8 : decode (mtC m_W_beginMerged) 8 = .ok (.iload_n 3, 1) := by decide +kernel
theorem k_W_beginMerged_9 : decode (mtC m_W_beginMerged) 9 = .ok (.invokevirtual 33, 3) := by decide +kernel
theorem k_W_beginMerged_12 : decode (mtC m_W_beginMerged) 12 = .ok (.return_, 1) := by decide +kernel
set_option maxHeartbeats 4000000 in
set_option maxRecDepth 100000 in
theorem T_W_beginMerged_0_w {d : Nat} {i0 : Nat} {i1 : Nat} {x2 : Int} {x3 : Int} {M : AMem} {Q : Option AV → AMem → Prop} (o0 : okH 2 i0 = true) (o1 : okH 6 i1 = true) (h : CallV d m_W_takeRows [vR 2 i0, vR 6 i1] M (fun M1 => CallV d m_W_begin [vR 2 i0, vI 3, vI x2, vI x3] M1 (fun M3 => Q none M3))) : RunQ (d + 1) m_W_beginMerged 0 [some (vR 2 i0), some (vR 6 i1), some (vI x2), some (vI x3)] [] M Q := by
  refine q_aload_n 0 k_W_beginMerged_0 rfl ?_
  refine q_aload_n 1 k_W_beginMerged_1 rfl ?_
  refine q_vV 2 [vR 6 i1] [] k_W_beginMerged_2 lk_2_37 rfl rfl rfl o0 rfl rfl rfl rfl (CallV.mono (fun M1 h5 => ?_) h)
  refine q_aload_n 5 k_W_beginMerged_5 rfl ?_
  refine q_iconst 6 k_W_beginMerged_6 ?_
  refine q_iload_n 7 k_W_beginMerged_7 rfl ?_
  refine q_iload_n 8 k_W_beginMerged_8 rfl ?_
  refine q_vV 9 [vI 3, vI x2, vI x3] [] k_W_beginMerged_9 lk_2_33 rfl rfl rfl o0 rfl rfl rfl rfl (CallV.mono (fun M3 h6 => ?_) h5)
  exact q_vret 12 k_W_beginMerged_12 rfl h6
set_option maxHeartbeats 4000000 in
set_option maxRecDepth 100000 in
theorem T_W_beginMerged_0_h {d : Nat} {i0 : Nat} {x2 : Int} {x3 : Int} {M : AMem} {Q : Option AV → AMem → Prop} (o0 : okH 2 i0 = true) (h : CallV d m_W_takeRows [vR 2 i0, vR 7 0] M (fun M1 => CallV d m_W_begin [vR 2 i0, vI 3, vI x2, vI x3] M1 (fun M3 => Q none M3))) : RunQ (d + 1) m_W_beginMerged 0 [some (vR 2 i0), some (vR 7 0), some (vI x2), some (vI x3)] [] M Q := by
  refine q_aload_n 0 k_W_beginMerged_0 rfl ?_
  refine q_aload_n 1 k_W_beginMerged_1 rfl ?_
  refine q_vV 2 [vR 7 0] [] k_W_beginMerged_2 lk_2_37 rfl rfl rfl o0 rfl rfl rfl rfl (CallV.mono (fun M1 h5 => ?_) h)
  refine q_aload_n 5 k_W_beginMerged_5 rfl ?_
  refine q_iconst 6 k_W_beginMerged_6 ?_
  refine q_iload_n 7 k_W_beginMerged_7 rfl ?_
  refine q_iload_n 8 k_W_beginMerged_8 rfl ?_
  refine q_vV 9 [vI 3, vI x2, vI x3] [] k_W_beginMerged_9 lk_2_33 rfl rfl rfl o0 rfl rfl rfl rfl (CallV.mono (fun M3 h6 => ?_) h5)
  exact q_vret 12 k_W_beginMerged_12 rfl h6
theorem k_W_begin_0 : decode (mtC m_W_begin) 0 = .ok (.aload_n 0, 1) := by decide +kernel
theorem k_W_begin_1 : decode (mtC m_W_begin) 1 = .ok (.iload_n 1, 1) := by decide +kernel
theorem k_W_begin_2 : decode (mtC m_W_begin) 2 = .ok (.putfield 24, 3) := by decide +kernel
theorem k_W_begin_5 : decode (mtC m_W_begin) 5 = .ok (.aload_n 0, 1) := by decide +kernel
theorem k_W_begin_6 : decode (mtC m_W_begin) 6 = .ok (.iload_n 2, 1) := by decide +kernel
theorem k_W_begin_7 : decode (mtC m_W_begin) 7 = .ok (.putfield 41, 3) := by decide +kernel
theorem k_W_begin_10 : decode (mtC m_W_begin) 10 = .ok (.aload_n 0, 1) := by decide +kernel
theorem k_W_begin_11 : decode (mtC m_W_begin) 11 = .ok (.iload_n 3, 1) := by decide +kernel
theorem k_W_begin_12 : decode (mtC m_W_begin) 12 = .ok (.putfield 44, 3) := by decide +kernel
theorem k_W_begin_15 : decode (mtC m_W_begin) 15 = .ok (.aload_n 0, 1) := by decide +kernel
theorem k_W_begin_16 : decode (mtC m_W_begin) 16 = .ok (.invokevirtual 48, 3) := by decide +kernel
theorem k_W_begin_19 : decode (mtC m_W_begin) 19 = .ok (.return_, 1) := by decide +kernel
set_option maxHeartbeats 4000000 in
set_option maxRecDepth 100000 in
theorem T_W_begin_0 {d : Nat} {i0 : Nat} {x1 : Int} {x2 : Int} {x3 : Int} {M : AMem} {Q : Option AV → AMem → Prop} (o0 : okH 2 i0 = true) (h : (x3 = 0 ∨ x3 = 1) ∧ (CallV d m_W_restart [vR 2 i0] (aup (aup (aup M 2 i0 2 x1) 2 i0 3 x2) 2 i0 4 x3) (fun M1 => Q none M1))) : RunQ (d + 1) m_W_begin 0 [some (vR 2 i0), some (vI x1), some (vI x2), some (vI x3)] [] M Q := by
  refine q_aload_n 0 k_W_begin_0 rfl ?_
  refine q_iload_n 1 k_W_begin_1 rfl ?_
  refine q_putfield 2 k_W_begin_2 fk_2_24 o0 rfl (fun z => absurd z (by decide)) ?_
  refine q_aload_n 5 k_W_begin_5 rfl ?_
  refine q_iload_n 6 k_W_begin_6 rfl ?_
  refine q_putfield 7 k_W_begin_7 fk_2_41 o0 rfl (fun z => absurd z (by decide)) ?_
  refine q_aload_n 10 k_W_begin_10 rfl ?_
  refine q_iload_n 11 k_W_begin_11 rfl ?_
  refine q_putfield 12 k_W_begin_12 fk_2_44 o0 rfl (fun _ => h.1) ?_
  have h' := h.2
  refine q_aload_n 15 k_W_begin_15 rfl ?_
  refine q_vV 16 [] [] k_W_begin_16 lk_2_48 rfl rfl rfl o0 rfl rfl rfl rfl (CallV.mono (fun M1 h3 => ?_) h')
  exact q_vret 19 k_W_begin_19 rfl h3
theorem k_W_restart_0 : decode (mtC m_W_restart) 0 = .ok (.aload_n 0, 1) := by decide +kernel
theorem k_W_restart_1 : decode (mtC m_W_restart) 1 = .ok (.getfield 20, 3) := by decide +kernel
theorem k_W_restart_4 : decode (mtC m_W_restart) 4 = .ok (.iconst 0, 1) := by decide +kernel
theorem k_W_restart_5 : decode (mtC m_W_restart) 5 = .ok (.putfield 51, 3) := by decide +kernel
theorem k_W_restart_8 : decode (mtC m_W_restart) 8 = .ok (.aload_n 0, 1) := by decide +kernel
theorem k_W_restart_9 : decode (mtC m_W_restart) 9 = .ok (.iconst 0, 1) := by decide +kernel
theorem k_W_restart_10 : decode (mtC m_W_restart) 10 = .ok (.putfield 54, 3) := by decide +kernel
theorem k_W_restart_13 : decode (mtC m_W_restart) 13 = .ok (.aload_n 0, 1) := by decide +kernel
theorem k_W_restart_14 : decode (mtC m_W_restart) 14 = .ok (.iconst 0, 1) := by decide +kernel
theorem k_W_restart_15 : decode (mtC m_W_restart) 15 = .ok (.putfield 57, 3) := by decide +kernel
theorem k_W_restart_18 : decode (mtC m_W_restart) 18 = .ok (.aload_n 0, 1) := by decide +kernel
theorem k_W_restart_19 : decode (mtC m_W_restart) 19 = .ok (.iconst 0, 1) := by decide +kernel
theorem k_W_restart_20 : decode (mtC m_W_restart) 20 = .ok (.putfield 60, 3) := by decide +kernel
theorem k_W_restart_23 : decode (mtC m_W_restart) 23 = .ok (.aload_n 0, 1) := by decide +kernel
theorem k_W_restart_24 : decode (mtC m_W_restart) 24 = .ok (.getfield 24, 3) := by decide +kernel
theorem k_W_restart_27 : decode (mtC m_W_restart) 27 = .ok (.ifCond .ne 18, 3) := by decide +kernel
theorem k_W_restart_30 : decode (mtC m_W_restart) 30 = .ok (.aload_n 0, 1) := by decide +kernel
theorem k_W_restart_31 : decode (mtC m_W_restart) 31 = .ok (.getfield 20, 3) := by decide +kernel
theorem k_W_restart_34 : decode (mtC m_W_restart) 34 = .ok (.iconst 1, 1) := by decide +kernel
theorem k_W_restart_35 : decode (mtC m_W_restart) 35 = .ok (.iconst 0, 1) := by decide +kernel
theorem k_W_restart_36 : decode (mtC m_W_restart) 36 = .ok (.invokestatic 63, 3) := by decide +kernel
theorem k_W_restart_39 : decode (mtC m_W_restart) 39 = .ok (.invokevirtual 67, 3) := by decide +kernel
theorem k_W_restart_42 : decode (mtC m_W_restart) 42 = .ok (.goto 51, 3) := by decide +kernel
theorem k_W_restart_45 : decode (mtC m_W_restart) 45 = .ok (.aload_n 0, 1) := by decide +kernel
theorem k_W_restart_46 : decode (mtC m_W_restart) 46 = .ok (.getfield 24, 3) := by decide +kernel
theorem k_W_restart_49 : decode (mtC m_W_restart) 49 = .ok (.iconst 3, 1) := by decide +kernel
theorem k_W_restart_50 : decode (mtC m_W_restart) 50 = .ok (.if_icmp .ne 29, 3) := by decide +kernel
theorem k_W_restart_53 : decode (mtC m_W_restart) 53 = .ok (.iconst 0, 1) := by decide +kernel
theorem k_W_restart_54 : decode (mtC m_W_restart) 54 = .ok (.istore_n 1, 1) := by decide +kernel
theorem k_W_restart_55 : decode (mtC m_W_restart) 55 = .ok (.iload_n 1, 1) := by decide +kernel
theorem k_W_restart_56 : decode (mtC m_W_restart) 56 = .ok (.aload_n 0, 1) := by decide +kernel
theorem k_W_restart_57 : decode (mtC m_W_restart) 57 = .ok (.getfield 11, 3) := by decide +kernel
theorem k_W_restart_60 : decode (mtC m_W_restart) 60 = .ok (.arraylength, 1) := by decide +kernel
theorem k_W_restart_61 : decode (mtC m_W_restart) 61 = .ok (.if_icmp .ge 15, 3) := by decide +kernel
theorem k_W_restart_64 : decode (mtC m_W_restart) 64 = .ok (.aload_n 0, 1) := by decide +kernel
theorem k_W_restart_65 : decode (mtC m_W_restart) 65 = .ok (.iload_n 1, 1) := by decide +kernel
theorem k_W_restart_66 : decode (mtC m_W_restart) 66 = .ok (.iconst 0, 1) := by decide +kernel
theorem k_W_restart_67 : decode (mtC m_W_restart) 67 = .ok (.invokevirtual 71, 3) := by decide +kernel
theorem k_W_restart_70 : decode (mtC m_W_restart) 70 = .ok (.iinc 1 1, 3) := by decide +kernel
theorem k_W_restart_73 : decode (mtC m_W_restart) 73 = .ok (.goto (-18), 3) := by decide +kernel
theorem k_W_restart_76 : decode (mtC m_W_restart) 76 = .ok (.goto 17, 3) := by decide +kernel
theorem k_W_restart_79 : decode (mtC m_W_restart) 79 = .ok (.aload_n 0, 1) := by decide +kernel
theorem k_W_restart_80 : decode (mtC m_W_restart) 80 = .ok (.invokevirtual 75, 3) := by decide +kernel
theorem k_W_restart_83 : decode (mtC m_W_restart) 83 = .ok (.ifCond .eq 10, 3) := by decide +kernel
theorem k_W_restart_86 : decode (mtC m_W_restart) 86 = .ok (.aload_n 0, 1) := by decide +kernel
theorem k_W_restart_87 : decode (mtC m_W_restart) 87 = .ok (.iconst 0, 1) := by decide +kernel
theorem k_W_restart_88 : decode (mtC m_W_restart) 88 = .ok (.iconst 0, 1) := by decide +kernel
theorem k_W_restart_89 : decode (mtC m_W_restart) 89 = .ok (.iconst 0, 1) := by decide +kernel
theorem k_W_restart_90 : decode (mtC m_W_restart) 90 = .ok (.invokevirtual 79, 3) := by decide +kernel
theorem k_W_restart_93 : decode (mtC m_W_restart) 93 = .ok (.return_, 1) := by decide +kernel
set_option maxHeartbeats 4000000 in
set_option maxRecDepth 100000 in
theorem T_W_restart_0 {d : Nat} {i0 : Nat} {M : AMem} {Q : Option AV → AMem → Prop} (o0 : okH 2 i0 = true) (h : ((¬ wI (M 2 i0 2) = 0) → ((¬ wI (M 2 i0 2) = 3) → CallI d m_W_isGrid [vR 2 i0] (aup (aup (aup (aup M 0 i0 1 0) 2 i0 5 0) 2 i0 6 0) 2 i0 7 0) (fun y2 M1 => ((wI y2 = 0) → Q none M1) ∧ (¬ (wI y2 = 0) → CallV d m_W_offerOfGrid [vR 2 i0, vI 0, vI 0, vI 0] M1 (fun M3 => Q none M3)))) ∧ (¬ (¬ wI (M 2 i0 2) = 3) → RunQ (d + 1) m_W_restart 55 [some (vR 2 i0), some (vI 0)] [] (aup (aup (aup (aup M 0 i0 1 0) 2 i0 5 0) 2 i0 6 0) 2 i0 7 0) Q)) ∧ (¬ (¬ wI (M 2 i0 2) = 0) → CallI d m_Q_keyOf [vI 1, vI 0] (aup (aup (aup (aup M 0 i0 1 0) 2 i0 5 0) 2 i0 6 0) 2 i0 7 0) (fun y6 M5 => CallV d m_Q_push [vR 0 i0, vI y6] M5 (fun M7 => Q none M7)))) : RunQ (d + 1) m_W_restart 0 [some (vR 2 i0), none] [] M Q := by
  refine q_aload_n 0 k_W_restart_0 rfl ?_
  refine q_getfield 1 k_W_restart_1 fk_2_20 o0 (v := vR 0 i0) rfl ?_
  refine q_iconst 4 k_W_restart_4 ?_
  refine q_putfield 5 k_W_restart_5 fk_2_51 o0 rfl (fun z => absurd z (by decide)) ?_
  refine q_aload_n 8 k_W_restart_8 rfl ?_
  refine q_iconst 9 k_W_restart_9 ?_
  refine q_putfield 10 k_W_restart_10 fk_2_54 o0 rfl (fun z => absurd z (by decide)) ?_
  refine q_aload_n 13 k_W_restart_13 rfl ?_
  refine q_iconst 14 k_W_restart_14 ?_
  refine q_putfield 15 k_W_restart_15 fk_2_57 o0 rfl (fun z => absurd z (by decide)) ?_
  refine q_aload_n 18 k_W_restart_18 rfl ?_
  refine q_iconst 19 k_W_restart_19 ?_
  refine q_putfield 20 k_W_restart_20 fk_2_60 o0 rfl (fun z => absurd z (by decide)) ?_
  refine q_aload_n 23 k_W_restart_23 rfl ?_
  refine q_getfield 24 k_W_restart_24 fk_2_24 o0 (v := vI (M 2 i0 2)) (by simp [fval, aup]) ?_
  refine q_if_ne 27 45 k_W_restart_27 rfl rfl (fun c27 => ?_) (fun c27 => ?_)
  · have ht := h.1 c27
    refine q_aload_n 45 k_W_restart_45 rfl ?_
    refine q_getfield 46 k_W_restart_46 fk_2_24 o0 (v := vI (M 2 i0 2)) (by simp [fval, aup]) ?_
    refine q_iconst 49 k_W_restart_49 ?_
    refine q_icmp_ne 50 79 k_W_restart_50 rfl rfl (fun c50 => ?_) (fun c50 => ?_)
    · have htt := ht.1 c50
      refine q_aload_n 79 k_W_restart_79 rfl ?_
      refine q_vI 80 [] [] k_W_restart_80 lk_2_75 rfl rfl rfl o0 rfl rfl rfl rfl (CallI.mono (fun y2 M1 h9 => ?_) htt)
      refine q_if_eq 83 93 k_W_restart_83 rfl rfl (fun c83 => ?_) (fun c83 => ?_)
      · have h9t := h9.1 c83
        exact q_vret 93 k_W_restart_93 rfl h9t
      · have h9f := h9.2 c83
        refine q_aload_n 86 k_W_restart_86 rfl ?_
        refine q_iconst 87 k_W_restart_87 ?_
        refine q_iconst 88 k_W_restart_88 ?_
        refine q_iconst 89 k_W_restart_89 ?_
        refine q_vV 90 [vI 0, vI 0, vI 0] [] k_W_restart_90 lk_2_79 rfl rfl rfl o0 rfl rfl rfl rfl (CallV.mono (fun M3 h10 => ?_) h9f)
        exact q_vret 93 k_W_restart_93 rfl h10
    · have htf := ht.2 c50
      refine q_iconst 53 k_W_restart_53 ?_
      refine q_istore_n 54 k_W_restart_54 (ls' := [some (vR 2 i0), some (vI 0)]) rfl rfl ?_
      exact htf
  · have hf := h.2 c27
    refine q_aload_n 30 k_W_restart_30 rfl ?_
    refine q_getfield 31 k_W_restart_31 fk_2_20 o0 (v := vR 0 i0) rfl ?_
    refine q_iconst 34 k_W_restart_34 ?_
    refine q_iconst 35 k_W_restart_35 ?_
    refine q_sI 36 [vI 1, vI 0] [vR 0 i0] k_W_restart_36 rfl lk_2_63 rfl rfl rfl rfl rfl rfl (CallI.mono (fun y6 M5 h11 => ?_) hf)
    refine q_vV 39 [vI y6] [] k_W_restart_39 lk_2_67 rfl rfl rfl o0 rfl rfl rfl rfl (CallV.mono (fun M7 h12 => ?_) h11)
    refine q_goto 42 93 k_W_restart_42 rfl rfl ?_
    exact q_vret 93 k_W_restart_93 rfl h12
set_option maxHeartbeats 4000000 in
set_option maxRecDepth 100000 in
theorem T_W_restart_55 {d : Nat} {i0 : Nat} {x1 : Int} {M : AMem} {Q : Option AV → AMem → Prop} (o0 : okH 2 i0 = true) (h : ((6 ≤ wI x1) → Q none M) ∧ (¬ (6 ≤ wI x1) → CallV d m_W_offerOfRow [vR 2 i0, vI x1, vI 0] M (fun M1 => RunQ (d + 1) m_W_restart 55 [some (vR 2 i0), some (vI (x1 + 1))] [] M1 Q))) : RunQ (d + 1) m_W_restart 55 [some (vR 2 i0), some (vI x1)] [] M Q := by
  refine q_iload_n 55 k_W_restart_55 rfl ?_
  refine q_aload_n 56 k_W_restart_56 rfl ?_
  refine q_getfield 57 k_W_restart_57 fk_2_11 o0 (v := vR 6 i0) rfl ?_
  refine q_alen 60 k_W_restart_60 o0 rfl (z := 6) rfl ?_
  refine q_icmp_ge 61 76 k_W_restart_61 rfl rfl (fun c61 => ?_) (fun c61 => ?_)
  · have ht := h.1 c61
    refine q_goto 76 93 k_W_restart_76 rfl rfl ?_
    exact q_vret 93 k_W_restart_93 rfl ht
  · have hf := h.2 c61
    refine q_aload_n 64 k_W_restart_64 rfl ?_
    refine q_iload_n 65 k_W_restart_65 rfl ?_
    refine q_iconst 66 k_W_restart_66 ?_
    refine q_vV 67 [vI x1, vI 0] [] k_W_restart_67 lk_2_71 rfl rfl rfl o0 rfl rfl rfl rfl (CallV.mono (fun M1 h3 => ?_) hf)
    refine q_iinc 70 k_W_restart_70 (ls' := [some (vR 2 i0), some (vI (x1 + 1))]) rfl rfl rfl ?_
    refine q_goto 73 55 k_W_restart_73 rfl rfl ?_
    exact h3
theorem k_W_become_0 : decode (mtC m_W_become) 0 = .ok (.aload_n 0, 1) := by decide +kernel
theorem k_W_become_1 : decode (mtC m_W_become) 1 = .ok (.aload_n 1, 1) := by decide +kernel
theorem k_W_become_2 : decode (mtC m_W_become) 2 = .ok (.getfield 11, 3) := by decide +kernel
theorem k_W_become_5 : decode (mtC m_W_become) 5 = .ok (.invokevirtual 37, 3) := by decide +kernel
theorem k_W_become_8 : decode (mtC m_W_become) 8 = .ok (.aload_n 0, 1) := by decide +kernel
theorem k_W_become_9 : decode (mtC m_W_become) 9 = .ok (.getfield 20, 3) := by decide +kernel
theorem k_W_become_12 : decode (mtC m_W_become) 12 = .ok (.aload_n 1, 1) := by decide +kernel
theorem k_W_become_13 : decode (mtC m_W_become) 13 = .ok (.getfield 20, 3) := by decide +kernel
theorem k_W_become_16 : decode (mtC m_W_become) 16 = .ok (.invokevirtual 83, 3) := by decide +kernel
theorem k_W_become_19 : decode (mtC m_W_become) 19 = .ok (.aload_n 0, 1) := by decide +kernel
theorem k_W_become_20 : decode (mtC m_W_become) 20 = .ok (.aload_n 1, 1) := by decide +kernel
theorem k_W_become_21 : decode (mtC m_W_become) 21 = .ok (.getfield 24, 3) := by decide +kernel
theorem k_W_become_24 : decode (mtC m_W_become) 24 = .ok (.putfield 24, 3) := by decide +kernel
theorem k_W_become_27 : decode (mtC m_W_become) 27 = .ok (.aload_n 0, 1) := by decide +kernel
theorem k_W_become_28 : decode (mtC m_W_become) 28 = .ok (.aload_n 1, 1) := by decide +kernel
theorem k_W_become_29 : decode (mtC m_W_become) 29 = .ok (.getfield 41, 3) := by decide +kernel
theorem k_W_become_32 : decode (mtC m_W_become) 32 = .ok (.putfield 41, 3) := by decide +kernel
theorem k_W_become_35 : decode (mtC m_W_become) 35 = .ok (.aload_n 0, 1) := by decide +kernel
theorem k_W_become_36 : decode (mtC m_W_become) 36 = .ok (.aload_n 1, 1) := by decide +kernel
theorem k_W_become_37 : decode (mtC m_W_become) 37 = .ok (.getfield 44, 3) := by decide +kernel
theorem k_W_become_40 : decode (mtC m_W_become) 40 = .ok (.putfield 44, 3) := by decide +kernel
theorem k_W_become_43 : decode (mtC m_W_become) 43 = .ok (.aload_n 0, 1) := by decide +kernel
theorem k_W_become_44 : decode (mtC m_W_become) 44 = .ok (.aload_n 1, 1) := by decide +kernel
theorem k_W_become_45 : decode (mtC m_W_become) 45 = .ok (.getfield 54, 3) := by decide +kernel
theorem k_W_become_48 : decode (mtC m_W_become) 48 = .ok (.putfield 54, 3) := by decide +kernel
theorem k_W_become_51 : decode (mtC m_W_become) 51 = .ok (.aload_n 0, 1) := by decide +kernel
theorem k_W_become_52 : decode (mtC m_W_become) 52 = .ok (.aload_n 1, 1) := by decide +kernel
theorem k_W_become_53 : decode (mtC m_W_become) 53 = .ok (.getfield 57, 3) := by decide +kernel
theorem k_W_become_56 : decode (mtC m_W_become) 56 = .ok (.putfield 57, 3) := by decide +kernel
theorem k_W_become_59 : decode (mtC m_W_become) 59 = .ok (.aload_n 0, 1) := by decide +kernel
theorem k_W_become_60 : decode (mtC m_W_become) 60 = .ok (.aload_n 1, 1) := by decide +kernel
theorem k_W_become_61 : decode (mtC m_W_become) 61 = .ok (.getfield 60, 3) := by decide +kernel
theorem k_W_become_64 : decode (mtC m_W_become) 64 = .ok (.putfield 60, 3) := by decide +kernel
theorem k_W_become_67 : decode (mtC m_W_become) 67 = .ok (.return_, 1) := by decide +kernel
set_option maxHeartbeats 4000000 in
set_option maxRecDepth 100000 in
theorem T_W_become_0 {d : Nat} {i0 : Nat} {i1 : Nat} {M : AMem} {Q : Option AV → AMem → Prop} (o0 : okH 2 i0 = true) (o1 : okH 2 i1 = true) (h : CallV d m_W_takeRows [vR 2 i0, vR 6 i1] M (fun M1 => CallV d m_Q_become [vR 0 i0, vR 0 i1] M1 (fun M3 => ((M3 2 i1 4) = 0 ∨ (M3 2 i1 4) = 1) ∧ (Q none (aup (aup (aup (aup (aup (aup M3 2 i0 2 (M3 2 i1 2)) 2 i0 3 (M3 2 i1 3)) 2 i0 4 (M3 2 i1 4)) 2 i0 5 (M3 2 i1 5)) 2 i0 6 (M3 2 i1 6)) 2 i0 7 (M3 2 i1 7)))))) : RunQ (d + 1) m_W_become 0 [some (vR 2 i0), some (vR 2 i1)] [] M Q := by
  refine q_aload_n 0 k_W_become_0 rfl ?_
  refine q_aload_n 1 k_W_become_1 rfl ?_
  refine q_getfield 2 k_W_become_2 fk_2_11 o1 (v := vR 6 i1) rfl ?_
  refine q_vV 5 [vR 6 i1] [] k_W_become_5 lk_2_37 rfl rfl rfl o0 rfl rfl rfl rfl (CallV.mono (fun M1 h5 => ?_) h)
  refine q_aload_n 8 k_W_become_8 rfl ?_
  refine q_getfield 9 k_W_become_9 fk_2_20 o0 (v := vR 0 i0) rfl ?_
  refine q_aload_n 12 k_W_become_12 rfl ?_
  refine q_getfield 13 k_W_become_13 fk_2_20 o1 (v := vR 0 i1) rfl ?_
  refine q_vV 16 [vR 0 i1] [] k_W_become_16 lk_2_83 rfl rfl rfl o0 rfl rfl rfl rfl (CallV.mono (fun M3 h6 => ?_) h5)
  refine q_aload_n 19 k_W_become_19 rfl ?_
  refine q_aload_n 20 k_W_become_20 rfl ?_
  refine q_getfield 21 k_W_become_21 fk_2_24 o1 (v := vI (M3 2 i1 2)) rfl ?_
  refine q_putfield 24 k_W_become_24 fk_2_24 o0 rfl (fun z => absurd z (by decide)) ?_
  refine q_aload_n 27 k_W_become_27 rfl ?_
  refine q_aload_n 28 k_W_become_28 rfl ?_
  refine q_getfield 29 k_W_become_29 fk_2_41 o1 (v := vI (M3 2 i1 3)) (by simp [fval, aup]) ?_
  refine q_putfield 32 k_W_become_32 fk_2_41 o0 rfl (fun z => absurd z (by decide)) ?_
  refine q_aload_n 35 k_W_become_35 rfl ?_
  refine q_aload_n 36 k_W_become_36 rfl ?_
  refine q_getfield 37 k_W_become_37 fk_2_44 o1 (v := vI (M3 2 i1 4)) (by simp [fval, aup]) ?_
  refine q_putfield 40 k_W_become_40 fk_2_44 o0 rfl (fun _ => h6.1) ?_
  have h6' := h6.2
  refine q_aload_n 43 k_W_become_43 rfl ?_
  refine q_aload_n 44 k_W_become_44 rfl ?_
  refine q_getfield 45 k_W_become_45 fk_2_54 o1 (v := vI (M3 2 i1 5)) (by simp [fval, aup]) ?_
  refine q_putfield 48 k_W_become_48 fk_2_54 o0 rfl (fun z => absurd z (by decide)) ?_
  refine q_aload_n 51 k_W_become_51 rfl ?_
  refine q_aload_n 52 k_W_become_52 rfl ?_
  refine q_getfield 53 k_W_become_53 fk_2_57 o1 (v := vI (M3 2 i1 6)) (by simp [fval, aup]) ?_
  refine q_putfield 56 k_W_become_56 fk_2_57 o0 rfl (fun z => absurd z (by decide)) ?_
  refine q_aload_n 59 k_W_become_59 rfl ?_
  refine q_aload_n 60 k_W_become_60 rfl ?_
  refine q_getfield 61 k_W_become_61 fk_2_60 o1 (v := vI (M3 2 i1 7)) (by simp [fval, aup]) ?_
  refine q_putfield 64 k_W_become_64 fk_2_60 o0 rfl (fun z => absurd z (by decide)) ?_
  exact q_vret 67 k_W_become_67 rfl h6'
theorem k_W_takeRows_0 : decode (mtC m_W_takeRows) 0 = .ok (.iconst 0, 1) := by decide +kernel
theorem k_W_takeRows_1 : decode (mtC m_W_takeRows) 1 = .ok (.istore_n 2, 1) := by decide +kernel
theorem k_W_takeRows_2 : decode (mtC m_W_takeRows) 2 = .ok (.iload_n 2, 1) := by decide +kernel
theorem k_W_takeRows_3 : decode (mtC m_W_takeRows) 3 = .ok (.aload_n 0, 1) := by decide +kernel
theorem k_W_takeRows_4 : decode (mtC m_W_takeRows) 4 = .ok (.getfield 11, 3) := by decide +kernel
theorem k_W_takeRows_7 : decode (mtC m_W_takeRows) 7 = .ok (.arraylength, 1) := by decide +kernel
theorem k_W_takeRows_8 : decode (mtC m_W_takeRows) 8 = .ok (.if_icmp .ge 27, 3) := by decide +kernel
theorem k_W_takeRows_11 : decode (mtC m_W_takeRows) 11 = .ok (.iload_n 2, 1) := by decide +kernel
theorem k_W_takeRows_12 : decode (mtC m_W_takeRows) 12 = .ok (.aload_n 1, 1) := by decide +kernel
theorem k_W_takeRows_13 : decode (mtC m_W_takeRows) 13 = .ok (.arraylength, 1) := by decide +kernel
theorem k_W_takeRows_14 : decode (mtC m_W_takeRows) 14 = .ok (.if_icmp .ge 21, 3) := by decide +kernel
theorem k_W_takeRows_17 : decode (mtC m_W_takeRows) 17 = .ok (.aload_n 0, 1) := by decide +kernel
theorem k_W_takeRows_18 : decode (mtC m_W_takeRows) 18 = .ok (.getfield 11, 3) := by decide +kernel
theorem k_W_takeRows_21 : decode (mtC m_W_takeRows) 21 = .ok (.iload_n 2, 1) := by decide +kernel
theorem k_W_takeRows_22 : decode (mtC m_W_takeRows) 22 = .ok (.aaload, 1) := by decide +kernel
theorem k_W_takeRows_23 : decode (mtC m_W_takeRows) 23 = .ok (.aload_n 1, 1) := by decide +kernel
theorem k_W_takeRows_24 : decode (mtC m_W_takeRows) 24 = .ok (.iload_n 2, 1) := by decide +kernel
theorem k_W_takeRows_25 : decode (mtC m_W_takeRows) 25 = .ok (.aaload, 1) := by decide +kernel
theorem k_W_takeRows_26 : decode (mtC m_W_takeRows) 26 = .ok (.invokevirtual 29, 3) := by decide +kernel
theorem k_W_takeRows_29 : decode (mtC m_W_takeRows) 29 = .ok (.iinc 2 1, 3) := by decide +kernel
theorem k_W_takeRows_32 : decode (mtC m_W_takeRows) 32 = .ok (.goto (-30), 3) := by decide +kernel
theorem k_W_takeRows_35 : decode (mtC m_W_takeRows) 35 = .ok (.return_, 1) := by decide +kernel
set_option maxHeartbeats 4000000 in
set_option maxRecDepth 100000 in
theorem T_W_takeRows_0_w {d : Nat} {i0 : Nat} {i1 : Nat} {M : AMem} {Q : Option AV → AMem → Prop} (o0 : okH 2 i0 = true) (o1 : okH 6 i1 = true) (h : RunQ (d + 1) m_W_takeRows 2 [some (vR 2 i0), some (vR 6 i1), some (vI 0)] [] M Q) : RunQ (d + 1) m_W_takeRows 0 [some (vR 2 i0), some (vR 6 i1), none] [] M Q := by
  refine q_iconst 0 k_W_takeRows_0 ?_
  refine q_istore_n 1 k_W_takeRows_1 (ls' := [some (vR 2 i0), some (vR 6 i1), some (vI 0)]) rfl rfl ?_
  exact h
set_option maxHeartbeats 4000000 in
set_option maxRecDepth 100000 in
theorem T_W_takeRows_2_w {d : Nat} {i0 : Nat} {i1 : Nat} {x2 : Int} {M : AMem} {Q : Option AV → AMem → Prop} (o0 : okH 2 i0 = true) (o1 : okH 6 i1 = true) (h : ((6 ≤ wI x2) → Q none M) ∧ (¬ (6 ≤ wI x2) → ((6 ≤ wI x2) → Q none M) ∧ (¬ (6 ≤ wI x2) → (0 ≤ wI x2 ∧ wI x2 < (6 : Nat)) ∧ ((0 ≤ wI x2 ∧ wI x2 < (6 : Nat)) ∧ (CallV d m_R_become [vR 1 (6 * i0 + (wI x2).toNat), vR 1 (6 * i1 + (wI x2).toNat)] M (fun M3 => RunQ (d + 1) m_W_takeRows 2 [some (vR 2 i0), some (vR 6 i1), some (vI (x2 + 1))] [] M3 Q)))))) : RunQ (d + 1) m_W_takeRows 2 [some (vR 2 i0), some (vR 6 i1), some (vI x2)] [] M Q := by
  refine q_iload_n 2 k_W_takeRows_2 rfl ?_
  refine q_aload_n 3 k_W_takeRows_3 rfl ?_
  refine q_getfield 4 k_W_takeRows_4 fk_2_11 o0 (v := vR 6 i0) rfl ?_
  refine q_alen 7 k_W_takeRows_7 o0 rfl (z := 6) rfl ?_
  refine q_icmp_ge 8 35 k_W_takeRows_8 rfl rfl (fun c8 => ?_) (fun c8 => ?_)
  · have ht := h.1 c8
    exact q_vret 35 k_W_takeRows_35 rfl ht
  · have hf := h.2 c8
    refine q_iload_n 11 k_W_takeRows_11 rfl ?_
    refine q_aload_n 12 k_W_takeRows_12 rfl ?_
    refine q_alen 13 k_W_takeRows_13 o1 rfl (z := 6) rfl ?_
    refine q_icmp_ge 14 35 k_W_takeRows_14 rfl rfl (fun c14 => ?_) (fun c14 => ?_)
    · have hft := hf.1 c14
      exact q_vret 35 k_W_takeRows_35 rfl hft
    · have hff := hf.2 c14
      refine q_aload_n 17 k_W_takeRows_17 rfl ?_
      refine q_getfield 18 k_W_takeRows_18 fk_2_11 o0 (v := vR 6 i0) rfl ?_
      refine q_iload_n 21 k_W_takeRows_21 rfl ?_
      have hb1 := hff.1
      refine q_aaload 22 k_W_takeRows_22 o0 (n := 6) rfl hb1 (kd := 1) (x := (6 * i0 + (wI x2).toNat)) rfl ?_
      have hff' := hff.2
      refine q_aload_n 23 k_W_takeRows_23 rfl ?_
      refine q_iload_n 24 k_W_takeRows_24 rfl ?_
      have hb2 := hff'.1
      refine q_aaload 25 k_W_takeRows_25 o1 (n := 6) rfl hb2 (kd := 1) (x := (6 * i1 + (wI x2).toNat)) rfl ?_
      have hff'' := hff'.2
      refine q_vV 26 [vR 1 (6 * i1 + (wI x2).toNat)] [] k_W_takeRows_26 lk_2_29 rfl rfl rfl (ok_r6 o0 hb1) rfl rfl rfl rfl (CallV.mono (fun M3 h5 => ?_) hff'')
      refine q_iinc 29 k_W_takeRows_29 (ls' := [some (vR 2 i0), some (vR 6 i1), some (vI (x2 + 1))]) rfl rfl rfl ?_
      refine q_goto 32 2 k_W_takeRows_32 rfl rfl ?_
      exact h5
set_option maxHeartbeats 4000000 in
set_option maxRecDepth 100000 in
theorem T_W_takeRows_0_h {d : Nat} {i0 : Nat} {M : AMem} {Q : Option AV → AMem → Prop} (o0 : okH 2 i0 = true) (h : RunQ (d + 1) m_W_takeRows 2 [some (vR 2 i0), some (vR 7 0), some (vI 0)] [] M Q) : RunQ (d + 1) m_W_takeRows 0 [some (vR 2 i0), some (vR 7 0), none] [] M Q := by
  refine q_iconst 0 k_W_takeRows_0 ?_
  refine q_istore_n 1 k_W_takeRows_1 (ls' := [some (vR 2 i0), some (vR 7 0), some (vI 0)]) rfl rfl ?_
  exact h
set_option maxHeartbeats 4000000 in
set_option maxRecDepth 100000 in
theorem T_W_takeRows_2_h {d : Nat} {i0 : Nat} {x2 : Int} {M : AMem} {Q : Option AV → AMem → Prop} (o0 : okH 2 i0 = true) (h : ((6 ≤ wI x2) → Q none M) ∧ (¬ (6 ≤ wI x2) → ((6 ≤ wI x2) → Q none M) ∧ (¬ (6 ≤ wI x2) → (0 ≤ wI x2 ∧ wI x2 < (6 : Nat)) ∧ ((0 ≤ wI x2 ∧ wI x2 < (6 : Nat)) ∧ (CallV d m_R_become [vR 1 (6 * i0 + (wI x2).toNat), vR 1 (42 + (wI x2).toNat)] M (fun M3 => RunQ (d + 1) m_W_takeRows 2 [some (vR 2 i0), some (vR 7 0), some (vI (x2 + 1))] [] M3 Q)))))) : RunQ (d + 1) m_W_takeRows 2 [some (vR 2 i0), some (vR 7 0), some (vI x2)] [] M Q := by
  refine q_iload_n 2 k_W_takeRows_2 rfl ?_
  refine q_aload_n 3 k_W_takeRows_3 rfl ?_
  refine q_getfield 4 k_W_takeRows_4 fk_2_11 o0 (v := vR 6 i0) rfl ?_
  refine q_alen 7 k_W_takeRows_7 o0 rfl (z := 6) rfl ?_
  refine q_icmp_ge 8 35 k_W_takeRows_8 rfl rfl (fun c8 => ?_) (fun c8 => ?_)
  · have ht := h.1 c8
    exact q_vret 35 k_W_takeRows_35 rfl ht
  · have hf := h.2 c8
    refine q_iload_n 11 k_W_takeRows_11 rfl ?_
    refine q_aload_n 12 k_W_takeRows_12 rfl ?_
    refine q_alen 13 k_W_takeRows_13 rfl rfl (z := 6) rfl ?_
    refine q_icmp_ge 14 35 k_W_takeRows_14 rfl rfl (fun c14 => ?_) (fun c14 => ?_)
    · have hft := hf.1 c14
      exact q_vret 35 k_W_takeRows_35 rfl hft
    · have hff := hf.2 c14
      refine q_aload_n 17 k_W_takeRows_17 rfl ?_
      refine q_getfield 18 k_W_takeRows_18 fk_2_11 o0 (v := vR 6 i0) rfl ?_
      refine q_iload_n 21 k_W_takeRows_21 rfl ?_
      have hb1 := hff.1
      refine q_aaload 22 k_W_takeRows_22 o0 (n := 6) rfl hb1 (kd := 1) (x := (6 * i0 + (wI x2).toNat)) rfl ?_
      have hff' := hff.2
      refine q_aload_n 23 k_W_takeRows_23 rfl ?_
      refine q_iload_n 24 k_W_takeRows_24 rfl ?_
      have hb2 := hff'.1
      refine q_aaload 25 k_W_takeRows_25 rfl (n := 6) rfl hb2 (kd := 1) (x := (42 + (wI x2).toNat)) rfl ?_
      have hff'' := hff'.2
      refine q_vV 26 [vR 1 (42 + (wI x2).toNat)] [] k_W_takeRows_26 lk_2_29 rfl rfl rfl (ok_r6 o0 hb1) rfl rfl rfl rfl (CallV.mono (fun M3 h5 => ?_) hff'')
      refine q_iinc 29 k_W_takeRows_29 (ls' := [some (vR 2 i0), some (vR 7 0), some (vI (x2 + 1))]) rfl rfl rfl ?_
      refine q_goto 32 2 k_W_takeRows_32 rfl rfl ?_
      exact h5
theorem k_W_tell_0 : decode (mtC m_W_tell) 0 = .ok (.aload_n 0, 1) := by decide +kernel
theorem k_W_tell_1 : decode (mtC m_W_tell) 1 = .ok (.dup, 1) := by decide +kernel
theorem k_W_tell_2 : decode (mtC m_W_tell) 2 = .ok (.getfield 57, 3) := by decide +kernel
theorem k_W_tell_5 : decode (mtC m_W_tell) 5 = .ok (.iconst 1, 1) := by decide +kernel
theorem k_W_tell_6 : decode (mtC m_W_tell) 6 = .ok (.iadd, 1) := by decide +kernel
theorem k_W_tell_7 : decode (mtC m_W_tell) 7 = .ok (.putfield 57, 3) := by decide +kernel
theorem k_W_tell_10 : decode (mtC m_W_tell) 10 = .ok (.aload_n 0, 1) := by decide +kernel
theorem k_W_tell_11 : decode (mtC m_W_tell) 11 = .ok (.getfield 24, 3) := by decide +kernel
theorem k_W_tell_14 : decode (mtC m_W_tell) 14 = .ok (.iconst 5, 1) := by decide +kernel
theorem k_W_tell_15 : decode (mtC m_W_tell) 15 = .ok (.if_icmp .ne 15, 3) := by decide +kernel
theorem k_W_tell_18 : decode (mtC m_W_tell) 18 = .ok (.aload_n 0, 1) := by decide +kernel
theorem k_W_tell_19 : decode (mtC m_W_tell) 19 = .ok (.invokevirtual 86, 3) := by decide +kernel
theorem k_W_tell_22 : decode (mtC m_W_tell) 22 = .ok (.aload_n 0, 1) := by decide +kernel
theorem k_W_tell_23 : decode (mtC m_W_tell) 23 = .ok (.getfield 60, 3) := by decide +kernel
theorem k_W_tell_26 : decode (mtC m_W_tell) 26 = .ok (.invokestatic 89, 3) := by decide +kernel
theorem k_W_tell_29 : decode (mtC m_W_tell) 29 = .ok (.ireturn, 1) := by decide +kernel
theorem k_W_tell_30 : decode (mtC m_W_tell) 30 = .ok (.aload_n 0, 1) := by decide +kernel
theorem k_W_tell_31 : decode (mtC m_W_tell) 31 = .ok (.aload_n 0, 1) := by decide +kernel
theorem k_W_tell_32 : decode (mtC m_W_tell) 32 = .ok (.getfield 20, 3) := by decide +kernel
theorem k_W_tell_35 : decode (mtC m_W_tell) 35 = .ok (.invokevirtual 93, 3) := by decide +kernel
theorem k_W_tell_38 : decode (mtC m_W_tell) 38 = .ok (.putfield 60, 3) := by decide +kernel
theorem k_W_tell_41 : decode (mtC m_W_tell) 41 = .ok (.aload_n 0, 1) := by decide +kernel
theorem k_W_tell_42 : decode (mtC m_W_tell) 42 = .ok (.getfield 60, 3) := by decide +kernel
theorem k_W_tell_45 : decode (mtC m_W_tell) 45 = .ok (.invokestatic 89, 3) := by decide +kernel
theorem k_W_tell_48 : decode (mtC m_W_tell) 48 = .ok (.istore_n 1, 1) := by decide +kernel
theorem k_W_tell_49 : decode (mtC m_W_tell) 49 = .ok (.aload_n 0, 1) := by decide +kernel
theorem k_W_tell_50 : decode (mtC m_W_tell) 50 = .ok (.getfield 60, 3) := by decide +kernel
theorem k_W_tell_53 : decode (mtC m_W_tell) 53 = .ok (.invokestatic 97, 3) := by decide +kernel
theorem k_W_tell_56 : decode (mtC m_W_tell) 56 = .ok (.istore_n 2, 1) := by decide +kernel
theorem k_W_tell_57 : decode (mtC m_W_tell) 57 = .ok (.aload_n 0, 1) := by decide +kernel
theorem k_W_tell_58 : decode (mtC m_W_tell) 58 = .ok (.getfield 24, 3) := by decide +kernel
theorem k_W_tell_61 : decode (mtC m_W_tell) 61 = .ok (.ifCond .ne 12, 3) := by decide +kernel
theorem k_W_tell_64 : decode (mtC m_W_tell) 64 = .ok (.aload_n 0, 1) := by decide +kernel
theorem k_W_tell_65 : decode (mtC m_W_tell) 65 = .ok (.iload_n 1, 1) := by decide +kernel
theorem k_W_tell_66 : decode (mtC m_W_tell) 66 = .ok (.iload_n 2, 1) := by decide +kernel
theorem k_W_tell_67 : decode (mtC m_W_tell) 67 = .ok (.invokevirtual 100, 3) := by decide +kernel
theorem k_W_tell_70 : decode (mtC m_W_tell) 70 = .ok (.goto 54, 3) := by decide +kernel
theorem k_W_tell_73 : decode (mtC m_W_tell) 73 = .ok (.aload_n 0, 1) := by decide +kernel
theorem k_W_tell_74 : decode (mtC m_W_tell) 74 = .ok (.getfield 24, 3) := by decide +kernel
theorem k_W_tell_77 : decode (mtC m_W_tell) 77 = .ok (.iconst 3, 1) := by decide +kernel
theorem k_W_tell_78 : decode (mtC m_W_tell) 78 = .ok (.if_icmp .ne 27, 3) := by decide +kernel
theorem k_W_tell_81 : decode (mtC m_W_tell) 81 = .ok (.aload_n 0, 1) := by decide +kernel
theorem k_W_tell_82 : decode (mtC m_W_tell) 82 = .ok (.aload_n 0, 1) := by decide +kernel
theorem k_W_tell_83 : decode (mtC m_W_tell) 83 = .ok (.iload_n 2, 1) := by decide +kernel
theorem k_W_tell_84 : decode (mtC m_W_tell) 84 = .ok (.bipush 64, 2) := by decide +kernel
theorem k_W_tell_86 : decode (mtC m_W_tell) 86 = .ok (.idiv, 1) := by decide +kernel
theorem k_W_tell_87 : decode (mtC m_W_tell) 87 = .ok (.invokevirtual 103, 3) := by decide +kernel
theorem k_W_tell_90 : decode (mtC m_W_tell) 90 = .ok (.iload_n 2, 1) := by decide +kernel
theorem k_W_tell_91 : decode (mtC m_W_tell) 91 = .ok (.bipush 8, 2) := by decide +kernel
theorem k_W_tell_93 : decode (mtC m_W_tell) 93 = .ok (.idiv, 1) := by decide +kernel
theorem k_W_tell_94 : decode (mtC m_W_tell) 94 = .ok (.bipush 8, 2) := by decide +kernel
theorem k_W_tell_96 : decode (mtC m_W_tell) 96 = .ok (.irem, 1) := by decide +kernel
theorem k_W_tell_97 : decode (mtC m_W_tell) 97 = .ok (.iconst 1, 1) := by decide +kernel
theorem k_W_tell_98 : decode (mtC m_W_tell) 98 = .ok (.iadd, 1) := by decide +kernel
theorem k_W_tell_99 : decode (mtC m_W_tell) 99 = .ok (.invokevirtual 71, 3) := by decide +kernel
theorem k_W_tell_102 : decode (mtC m_W_tell) 102 = .ok (.goto 22, 3) := by decide +kernel
theorem k_W_tell_105 : decode (mtC m_W_tell) 105 = .ok (.aload_n 0, 1) := by decide +kernel
theorem k_W_tell_106 : decode (mtC m_W_tell) 106 = .ok (.iload_n 2, 1) := by decide +kernel
theorem k_W_tell_107 : decode (mtC m_W_tell) 107 = .ok (.bipush 64, 2) := by decide +kernel
theorem k_W_tell_109 : decode (mtC m_W_tell) 109 = .ok (.idiv, 1) := by decide +kernel
theorem k_W_tell_110 : decode (mtC m_W_tell) 110 = .ok (.iload_n 2, 1) := by decide +kernel
theorem k_W_tell_111 : decode (mtC m_W_tell) 111 = .ok (.bipush 8, 2) := by decide +kernel
theorem k_W_tell_113 : decode (mtC m_W_tell) 113 = .ok (.idiv, 1) := by decide +kernel
theorem k_W_tell_114 : decode (mtC m_W_tell) 114 = .ok (.bipush 8, 2) := by decide +kernel
theorem k_W_tell_116 : decode (mtC m_W_tell) 116 = .ok (.irem, 1) := by decide +kernel
theorem k_W_tell_117 : decode (mtC m_W_tell) 117 = .ok (.iload_n 2, 1) := by decide +kernel
theorem k_W_tell_118 : decode (mtC m_W_tell) 118 = .ok (.bipush 8, 2) := by decide +kernel
theorem k_W_tell_120 : decode (mtC m_W_tell) 120 = .ok (.irem, 1) := by decide +kernel
theorem k_W_tell_121 : decode (mtC m_W_tell) 121 = .ok (.invokevirtual 106, 3) := by decide +kernel
theorem k_W_tell_124 : decode (mtC m_W_tell) 124 = .ok (.iload_n 1, 1) := by decide +kernel
theorem k_W_tell_125 : decode (mtC m_W_tell) 125 = .ok (.ireturn, 1) := by decide +kernel
set_option maxHeartbeats 4000000 in
set_option maxRecDepth 100000 in
theorem T_W_tell_0 {d : Nat} {i0 : Nat} {M : AMem} {Q : Option AV → AMem → Prop} (o0 : okH 2 i0 = true) (h : ((¬ wI (M 2 i0 2) = 5) → CallI d m_Q_pop [vR 0 i0] (aup M 2 i0 6 ((M 2 i0 6) + 1)) (fun y2 M1 => CallI d m_Q_numberOf [vI y2] (aup M1 2 i0 7 y2) (fun y4 M3 => CallI d m_Q_tagOf [vI (M3 2 i0 7)] M3 (fun y6 M5 => ((¬ wI (M5 2 i0 2) = 0) → ((¬ wI (M5 2 i0 2) = 3) → CallV d m_W_offerNeighbours [vR 2 i0, vI (Int.tdiv (wI y6) (64)), vI (Int.tmod (wI (Int.tdiv (wI y6) (8))) (8)), vI (Int.tmod (wI y6) (8))] M5 (fun M7 => Q (some (vI y4)) M7)) ∧ (¬ (¬ wI (M5 2 i0 2) = 3) → CallI d m_W_rankOf [vR 2 i0, vI (Int.tdiv (wI y6) (64))] M5 (fun y10 M9 => CallV d m_W_offerOfRow [vR 2 i0, vI y10, vI ((Int.tmod (wI (Int.tdiv (wI y6) (8))) (8)) + 1)] M9 (fun M11 => Q (some (vI y4)) M11)))) ∧ (¬ (¬ wI (M5 2 i0 2) = 0) → CallV d m_W_offerProducts [vR 2 i0, vI y4, vI y6] M5 (fun M13 => Q (some (vI y4)) M13)))))) ∧ (¬ (¬ wI (M 2 i0 2) = 5) → CallV d m_W_tellPrime [vR 2 i0] (aup M 2 i0 6 ((M 2 i0 6) + 1)) (fun M15 => CallI d m_Q_numberOf [vI (M15 2 i0 7)] M15 (fun y18 M17 => Q (some (vI y18)) M17)))) : RunQ (d + 1) m_W_tell 0 [some (vR 2 i0), none, none] [] M Q := by
  refine q_aload_n 0 k_W_tell_0 rfl ?_
  refine q_dup 1 k_W_tell_1 rfl ?_
  refine q_getfield 2 k_W_tell_2 fk_2_57 o0 (v := vI (M 2 i0 6)) rfl ?_
  refine q_iconst 5 k_W_tell_5 ?_
  refine q_iadd 6 k_W_tell_6 ?_
  refine q_putfield 7 k_W_tell_7 fk_2_57 o0 rfl (fun z => absurd z (by decide)) ?_
  refine q_aload_n 10 k_W_tell_10 rfl ?_
  refine q_getfield 11 k_W_tell_11 fk_2_24 o0 (v := vI (M 2 i0 2)) (by simp [fval, aup]) ?_
  refine q_iconst 14 k_W_tell_14 ?_
  refine q_icmp_ne 15 30 k_W_tell_15 rfl rfl (fun c15 => ?_) (fun c15 => ?_)
  · have ht := h.1 c15
    refine q_aload_n 30 k_W_tell_30 rfl ?_
    refine q_aload_n 31 k_W_tell_31 rfl ?_
    refine q_getfield 32 k_W_tell_32 fk_2_20 o0 (v := vR 0 i0) rfl ?_
    refine q_vI 35 [] [vR 2 i0] k_W_tell_35 lk_2_93 rfl rfl rfl o0 rfl rfl rfl rfl (CallI.mono (fun y2 M1 h19 => ?_) ht)
    refine q_putfield 38 k_W_tell_38 fk_2_60 o0 rfl (fun z => absurd z (by decide)) ?_
    refine q_aload_n 41 k_W_tell_41 rfl ?_
    refine q_getfield 42 k_W_tell_42 fk_2_60 o0 (v := vI y2) (by simp [fval, aup]) ?_
    refine q_sI 45 [vI y2] [] k_W_tell_45 rfl lk_2_89 rfl rfl rfl rfl rfl rfl (CallI.mono (fun y4 M3 h20 => ?_) h19)
    refine q_istore_n 48 k_W_tell_48 (ls' := [some (vR 2 i0), some (vI y4), none]) rfl rfl ?_
    refine q_aload_n 49 k_W_tell_49 rfl ?_
    refine q_getfield 50 k_W_tell_50 fk_2_60 o0 (v := vI (M3 2 i0 7)) rfl ?_
    refine q_sI 53 [vI (M3 2 i0 7)] [] k_W_tell_53 rfl lk_2_97 rfl rfl rfl rfl rfl rfl (CallI.mono (fun y6 M5 h21 => ?_) h20)
    refine q_istore_n 56 k_W_tell_56 (ls' := [some (vR 2 i0), some (vI y4), some (vI y6)]) rfl rfl ?_
    refine q_aload_n 57 k_W_tell_57 rfl ?_
    refine q_getfield 58 k_W_tell_58 fk_2_24 o0 (v := vI (M5 2 i0 2)) rfl ?_
    refine q_if_ne 61 73 k_W_tell_61 rfl rfl (fun c61 => ?_) (fun c61 => ?_)
    · have h21t := h21.1 c61
      refine q_aload_n 73 k_W_tell_73 rfl ?_
      refine q_getfield 74 k_W_tell_74 fk_2_24 o0 (v := vI (M5 2 i0 2)) rfl ?_
      refine q_iconst 77 k_W_tell_77 ?_
      refine q_icmp_ne 78 105 k_W_tell_78 rfl rfl (fun c78 => ?_) (fun c78 => ?_)
      · have h21tt := h21t.1 c78
        refine q_aload_n 105 k_W_tell_105 rfl ?_
        refine q_iload_n 106 k_W_tell_106 rfl ?_
        refine q_bipush 107 k_W_tell_107 (by decide) ?_
        refine q_idiv 109 k_W_tell_109 (by decide) ?_
        refine q_iload_n 110 k_W_tell_110 rfl ?_
        refine q_bipush 111 k_W_tell_111 (by decide) ?_
        refine q_idiv 113 k_W_tell_113 (by decide) ?_
        refine q_bipush 114 k_W_tell_114 (by decide) ?_
        refine q_irem 116 k_W_tell_116 (by decide) ?_
        refine q_iload_n 117 k_W_tell_117 rfl ?_
        refine q_bipush 118 k_W_tell_118 (by decide) ?_
        refine q_irem 120 k_W_tell_120 (by decide) ?_
        refine q_vV 121 [vI (Int.tdiv (wI y6) (64)), vI (Int.tmod (wI (Int.tdiv (wI y6) (8))) (8)), vI (Int.tmod (wI y6) (8))] [] k_W_tell_121 lk_2_106 rfl rfl rfl o0 rfl rfl rfl rfl (CallV.mono (fun M7 h22 => ?_) h21tt)
        refine q_iload_n 124 k_W_tell_124 rfl ?_
        exact q_iret 125 k_W_tell_125 rfl h22
      · have h21tf := h21t.2 c78
        refine q_aload_n 81 k_W_tell_81 rfl ?_
        refine q_aload_n 82 k_W_tell_82 rfl ?_
        refine q_iload_n 83 k_W_tell_83 rfl ?_
        refine q_bipush 84 k_W_tell_84 (by decide) ?_
        refine q_idiv 86 k_W_tell_86 (by decide) ?_
        refine q_vI 87 [vI (Int.tdiv (wI y6) (64))] [vR 2 i0] k_W_tell_87 lk_2_103 rfl rfl rfl o0 rfl rfl rfl rfl (CallI.mono (fun y10 M9 h23 => ?_) h21tf)
        refine q_iload_n 90 k_W_tell_90 rfl ?_
        refine q_bipush 91 k_W_tell_91 (by decide) ?_
        refine q_idiv 93 k_W_tell_93 (by decide) ?_
        refine q_bipush 94 k_W_tell_94 (by decide) ?_
        refine q_irem 96 k_W_tell_96 (by decide) ?_
        refine q_iconst 97 k_W_tell_97 ?_
        refine q_iadd 98 k_W_tell_98 ?_
        refine q_vV 99 [vI y10, vI ((Int.tmod (wI (Int.tdiv (wI y6) (8))) (8)) + 1)] [] k_W_tell_99 lk_2_71 rfl rfl rfl o0 rfl rfl rfl rfl (CallV.mono (fun M11 h24 => ?_) h23)
        refine q_goto 102 124 k_W_tell_102 rfl rfl ?_
        refine q_iload_n 124 k_W_tell_124 rfl ?_
        exact q_iret 125 k_W_tell_125 rfl h24
    · have h21f := h21.2 c61
      refine q_aload_n 64 k_W_tell_64 rfl ?_
      refine q_iload_n 65 k_W_tell_65 rfl ?_
      refine q_iload_n 66 k_W_tell_66 rfl ?_
      refine q_vV 67 [vI y4, vI y6] [] k_W_tell_67 lk_2_100 rfl rfl rfl o0 rfl rfl rfl rfl (CallV.mono (fun M13 h25 => ?_) h21f)
      refine q_goto 70 124 k_W_tell_70 rfl rfl ?_
      refine q_iload_n 124 k_W_tell_124 rfl ?_
      exact q_iret 125 k_W_tell_125 rfl h25
  · have hf := h.2 c15
    refine q_aload_n 18 k_W_tell_18 rfl ?_
    refine q_vV 19 [] [] k_W_tell_19 lk_2_86 rfl rfl rfl o0 rfl rfl rfl rfl (CallV.mono (fun M15 h26 => ?_) hf)
    refine q_aload_n 22 k_W_tell_22 rfl ?_
    refine q_getfield 23 k_W_tell_23 fk_2_60 o0 (v := vI (M15 2 i0 7)) rfl ?_
    refine q_sI 26 [vI (M15 2 i0 7)] [] k_W_tell_26 rfl lk_2_89 rfl rfl rfl rfl rfl rfl (CallI.mono (fun y18 M17 h27 => ?_) h26)
    exact q_iret 29 k_W_tell_29 rfl h27
theorem k_W_tellBelow_0 : decode (mtC m_W_tellBelow) 0 = .ok (.iconst 0, 1) := by decide +kernel
theorem k_W_tellBelow_1 : decode (mtC m_W_tellBelow) 1 = .ok (.istore_n 3, 1) := by decide +kernel
theorem k_W_tellBelow_2 : decode (mtC m_W_tellBelow) 2 = .ok (.iload_n 3, 1) := by decide +kernel
theorem k_W_tellBelow_3 : decode (mtC m_W_tellBelow) 3 = .ok (.iload_n 2, 1) := by decide +kernel
theorem k_W_tellBelow_4 : decode (mtC m_W_tellBelow) 4 = .ok (.if_icmp .ge 29, 3) := by decide +kernel
theorem k_W_tellBelow_7 : decode (mtC m_W_tellBelow) 7 = .ok (.aload_n 0, 1) := by decide +kernel
theorem k_W_tellBelow_8 : decode (mtC m_W_tellBelow) 8 = .ok (.invokevirtual 109, 3) := by decide +kernel
theorem k_W_tellBelow_11 : decode (mtC m_W_tellBelow) 11 = .ok (.ifCond .ne 22, 3) := by decide +kernel
theorem k_W_tellBelow_14 : decode (mtC m_W_tellBelow) 14 = .ok (.aload_n 0, 1) := by decide +kernel
theorem k_W_tellBelow_15 : decode (mtC m_W_tellBelow) 15 = .ok (.invokevirtual 112, 3) := by decide +kernel
theorem k_W_tellBelow_18 : decode (mtC m_W_tellBelow) 18 = .ok (.iload_n 1, 1) := by decide +kernel
theorem k_W_tellBelow_19 : decode (mtC m_W_tellBelow) 19 = .ok (.if_icmp .ge 14, 3) := by decide +kernel
theorem k_W_tellBelow_22 : decode (mtC m_W_tellBelow) 22 = .ok (.aload_n 0, 1) := by decide +kernel
theorem k_W_tellBelow_23 : decode (mtC m_W_tellBelow) 23 = .ok (.invokevirtual 115, 3) := by decide +kernel
theorem k_W_tellBelow_26 : decode (mtC m_W_tellBelow) 26 = .ok (.pop, 1) := by decide +kernel
theorem k_W_tellBelow_27 : decode (mtC m_W_tellBelow) 27 = .ok (.iinc 3 1, 3) := by decide +kernel
theorem k_W_tellBelow_30 : decode (mtC m_W_tellBelow) 30 = .ok (.goto (-28), 3) := by decide +kernel
theorem k_W_tellBelow_33 : decode (mtC m_W_tellBelow) 33 = .ok (.iload_n 3, 1) := by decide +kernel
theorem k_W_tellBelow_34 : decode (mtC m_W_tellBelow) 34 = .ok (.ireturn, 1) := by decide +kernel
set_option maxHeartbeats 4000000 in
set_option maxRecDepth 100000 in
theorem T_W_tellBelow_0 {d : Nat} {i0 : Nat} {x1 : Int} {x2 : Int} {M : AMem} {Q : Option AV → AMem → Prop} (o0 : okH 2 i0 = true) (h : RunQ (d + 1) m_W_tellBelow 2 [some (vR 2 i0), some (vI x1), some (vI x2), some (vI 0)] [] M Q) : RunQ (d + 1) m_W_tellBelow 0 [some (vR 2 i0), some (vI x1), some (vI x2), none] [] M Q := by
  refine q_iconst 0 k_W_tellBelow_0 ?_
  refine q_istore_n 1 k_W_tellBelow_1 (ls' := [some (vR 2 i0), some (vI x1), some (vI x2), some (vI 0)]) rfl rfl ?_
  exact h
set_option maxHeartbeats 4000000 in
set_option maxRecDepth 100000 in
theorem T_W_tellBelow_2 {d : Nat} {i0 : Nat} {x1 : Int} {x2 : Int} {x3 : Int} {M : AMem} {Q : Option AV → AMem → Prop} (o0 : okH 2 i0 = true) (h : ((wI x2 ≤ wI x3) → Q (some (vI x3)) M) ∧ (¬ (wI x2 ≤ wI x3) → CallI d m_W_isDry [vR 2 i0] M (fun y2 M1 => ((¬ wI y2 = 0) → Q (some (vI x3)) M1) ∧ (¬ (¬ wI y2 = 0) → CallI d m_W_nextNumber [vR 2 i0] M1 (fun y4 M3 => ((wI x1 ≤ wI y4) → Q (some (vI x3)) M3) ∧ (¬ (wI x1 ≤ wI y4) → CallI d m_W_tell [vR 2 i0] M3 (fun y6 M5 => RunQ (d + 1) m_W_tellBelow 2 [some (vR 2 i0), some (vI x1), some (vI x2), some (vI (x3 + 1))] [] M5 Q))))))) : RunQ (d + 1) m_W_tellBelow 2 [some (vR 2 i0), some (vI x1), some (vI x2), some (vI x3)] [] M Q := by
  refine q_iload_n 2 k_W_tellBelow_2 rfl ?_
  refine q_iload_n 3 k_W_tellBelow_3 rfl ?_
  refine q_icmp_ge 4 33 k_W_tellBelow_4 rfl rfl (fun c4 => ?_) (fun c4 => ?_)
  · have ht := h.1 c4
    refine q_iload_n 33 k_W_tellBelow_33 rfl ?_
    exact q_iret 34 k_W_tellBelow_34 rfl ht
  · have hf := h.2 c4
    refine q_aload_n 7 k_W_tellBelow_7 rfl ?_
    refine q_vI 8 [] [] k_W_tellBelow_8 lk_2_109 rfl rfl rfl o0 rfl rfl rfl rfl (CallI.mono (fun y2 M1 h7 => ?_) hf)
    refine q_if_ne 11 33 k_W_tellBelow_11 rfl rfl (fun c11 => ?_) (fun c11 => ?_)
    · have h7t := h7.1 c11
      refine q_iload_n 33 k_W_tellBelow_33 rfl ?_
      exact q_iret 34 k_W_tellBelow_34 rfl h7t
    · have h7f := h7.2 c11
      refine q_aload_n 14 k_W_tellBelow_14 rfl ?_
      refine q_vI 15 [] [] k_W_tellBelow_15 lk_2_112 rfl rfl rfl o0 rfl rfl rfl rfl (CallI.mono (fun y4 M3 h8 => ?_) h7f)
      refine q_iload_n 18 k_W_tellBelow_18 rfl ?_
      refine q_icmp_ge 19 33 k_W_tellBelow_19 rfl rfl (fun c19 => ?_) (fun c19 => ?_)
      · have h8t := h8.1 c19
        refine q_iload_n 33 k_W_tellBelow_33 rfl ?_
        exact q_iret 34 k_W_tellBelow_34 rfl h8t
      · have h8f := h8.2 c19
        refine q_aload_n 22 k_W_tellBelow_22 rfl ?_
        refine q_vI 23 [] [] k_W_tellBelow_23 lk_2_115 rfl rfl rfl o0 rfl rfl rfl rfl (CallI.mono (fun y6 M5 h9 => ?_) h8f)
        refine q_pop 26 k_W_tellBelow_26 rfl ?_
        refine q_iinc 27 k_W_tellBelow_27 (ls' := [some (vR 2 i0), some (vI x1), some (vI x2), some (vI (x3 + 1))]) rfl rfl rfl ?_
        refine q_goto 30 2 k_W_tellBelow_30 rfl rfl ?_
        exact h9
theorem k_W_tellPrime_0 : decode (mtC m_W_tellPrime) 0 = .ok (.aload_n 0, 1) := by decide +kernel
theorem k_W_tellPrime_1 : decode (mtC m_W_tellPrime) 1 = .ok (.invokevirtual 112, 3) := by decide +kernel
theorem k_W_tellPrime_4 : decode (mtC m_W_tellPrime) 4 = .ok (.istore_n 1, 1) := by decide +kernel
theorem k_W_tellPrime_5 : decode (mtC m_W_tellPrime) 5 = .ok (.iconst 0, 1) := by decide +kernel
theorem k_W_tellPrime_6 : decode (mtC m_W_tellPrime) 6 = .ok (.istore_n 2, 1) := by decide +kernel
theorem k_W_tellPrime_7 : decode (mtC m_W_tellPrime) 7 = .ok (.iload_n 2, 1) := by decide +kernel
theorem k_W_tellPrime_8 : decode (mtC m_W_tellPrime) 8 = .ok (.ldc 118, 2) := by decide +kernel
theorem k_W_tellPrime_10 : decode (mtC m_W_tellPrime) 10 = .ok (.if_icmp .ge 55, 3) := by decide +kernel
theorem k_W_tellPrime_13 : decode (mtC m_W_tellPrime) 13 = .ok (.aload_n 0, 1) := by decide +kernel
theorem k_W_tellPrime_14 : decode (mtC m_W_tellPrime) 14 = .ok (.getfield 20, 3) := by decide +kernel
theorem k_W_tellPrime_17 : decode (mtC m_W_tellPrime) 17 = .ok (.getfield 51, 3) := by decide +kernel
theorem k_W_tellPrime_20 : decode (mtC m_W_tellPrime) 20 = .ok (.ifCond .le 45, 3) := by decide +kernel
theorem k_W_tellPrime_23 : decode (mtC m_W_tellPrime) 23 = .ok (.aload_n 0, 1) := by decide +kernel
theorem k_W_tellPrime_24 : decode (mtC m_W_tellPrime) 24 = .ok (.getfield 20, 3) := by decide +kernel
theorem k_W_tellPrime_27 : decode (mtC m_W_tellPrime) 27 = .ok (.invokevirtual 119, 3) := by decide +kernel
theorem k_W_tellPrime_30 : decode (mtC m_W_tellPrime) 30 = .ok (.iload_n 1, 1) := by decide +kernel
theorem k_W_tellPrime_31 : decode (mtC m_W_tellPrime) 31 = .ok (.if_icmp .gt 34, 3) := by decide +kernel
theorem k_W_tellPrime_34 : decode (mtC m_W_tellPrime) 34 = .ok (.aload_n 0, 1) := by decide +kernel
theorem k_W_tellPrime_35 : decode (mtC m_W_tellPrime) 35 = .ok (.getfield 20, 3) := by decide +kernel
theorem k_W_tellPrime_38 : decode (mtC m_W_tellPrime) 38 = .ok (.invokevirtual 93, 3) := by decide +kernel
theorem k_W_tellPrime_41 : decode (mtC m_W_tellPrime) 41 = .ok (.istore_n 3, 1) := by decide +kernel
theorem k_W_tellPrime_42 : decode (mtC m_W_tellPrime) 42 = .ok (.aload_n 0, 1) := by decide +kernel
theorem k_W_tellPrime_43 : decode (mtC m_W_tellPrime) 43 = .ok (.getfield 20, 3) := by decide +kernel
theorem k_W_tellPrime_46 : decode (mtC m_W_tellPrime) 46 = .ok (.iload_n 3, 1) := by decide +kernel
theorem k_W_tellPrime_47 : decode (mtC m_W_tellPrime) 47 = .ok (.iload_n 3, 1) := by decide +kernel
theorem k_W_tellPrime_48 : decode (mtC m_W_tellPrime) 48 = .ok (.invokestatic 97, 3) := by decide +kernel
theorem k_W_tellPrime_51 : decode (mtC m_W_tellPrime) 51 = .ok (.iconst 0, 1) := by decide +kernel
theorem k_W_tellPrime_52 : decode (mtC m_W_tellPrime) 52 = .ok (.invokestatic 63, 3) := by decide +kernel
theorem k_W_tellPrime_55 : decode (mtC m_W_tellPrime) 55 = .ok (.iadd, 1) := by decide +kernel
theorem k_W_tellPrime_56 : decode (mtC m_W_tellPrime) 56 = .ok (.invokevirtual 67, 3) := by decide +kernel
theorem k_W_tellPrime_59 : decode (mtC m_W_tellPrime) 59 = .ok (.iinc 2 1, 3) := by decide +kernel
theorem k_W_tellPrime_62 : decode (mtC m_W_tellPrime) 62 = .ok (.goto (-55), 3) := by decide +kernel
theorem k_W_tellPrime_65 : decode (mtC m_W_tellPrime) 65 = .ok (.aload_n 0, 1) := by decide +kernel
theorem k_W_tellPrime_66 : decode (mtC m_W_tellPrime) 66 = .ok (.iload_n 1, 1) := by decide +kernel
theorem k_W_tellPrime_67 : decode (mtC m_W_tellPrime) 67 = .ok (.iload_n 1, 1) := by decide +kernel
theorem k_W_tellPrime_68 : decode (mtC m_W_tellPrime) 68 = .ok (.invokestatic 63, 3) := by decide +kernel
theorem k_W_tellPrime_71 : decode (mtC m_W_tellPrime) 71 = .ok (.putfield 60, 3) := by decide +kernel
theorem k_W_tellPrime_74 : decode (mtC m_W_tellPrime) 74 = .ok (.aload_n 0, 1) := by decide +kernel
theorem k_W_tellPrime_75 : decode (mtC m_W_tellPrime) 75 = .ok (.getfield 20, 3) := by decide +kernel
theorem k_W_tellPrime_78 : decode (mtC m_W_tellPrime) 78 = .ok (.iload_n 1, 1) := by decide +kernel
theorem k_W_tellPrime_79 : decode (mtC m_W_tellPrime) 79 = .ok (.iload_n 1, 1) := by decide +kernel
theorem k_W_tellPrime_80 : decode (mtC m_W_tellPrime) 80 = .ok (.imul, 1) := by decide +kernel
theorem k_W_tellPrime_81 : decode (mtC m_W_tellPrime) 81 = .ok (.iload_n 1, 1) := by decide +kernel
theorem k_W_tellPrime_82 : decode (mtC m_W_tellPrime) 82 = .ok (.invokestatic 63, 3) := by decide +kernel
theorem k_W_tellPrime_85 : decode (mtC m_W_tellPrime) 85 = .ok (.invokevirtual 67, 3) := by decide +kernel
theorem k_W_tellPrime_88 : decode (mtC m_W_tellPrime) 88 = .ok (.return_, 1) := by decide +kernel
set_option maxHeartbeats 4000000 in
set_option maxRecDepth 100000 in
theorem T_W_tellPrime_0 {d : Nat} {i0 : Nat} {M : AMem} {Q : Option AV → AMem → Prop} (o0 : okH 2 i0 = true) (h : CallI d m_W_nextNumber [vR 2 i0] M (fun y2 M1 => RunQ (d + 1) m_W_tellPrime 7 [some (vR 2 i0), some (vI y2), some (vI 0), none] [] M1 Q)) : RunQ (d + 1) m_W_tellPrime 0 [some (vR 2 i0), none, none, none] [] M Q := by
  refine q_aload_n 0 k_W_tellPrime_0 rfl ?_
  refine q_vI 1 [] [] k_W_tellPrime_1 lk_2_112 rfl rfl rfl o0 rfl rfl rfl rfl (CallI.mono (fun y2 M1 h3 => ?_) h)
  refine q_istore_n 4 k_W_tellPrime_4 (ls' := [some (vR 2 i0), some (vI y2), none, none]) rfl rfl ?_
  refine q_iconst 5 k_W_tellPrime_5 ?_
  refine q_istore_n 6 k_W_tellPrime_6 (ls' := [some (vR 2 i0), some (vI y2), some (vI 0), none]) rfl rfl ?_
  exact h3
set_option maxHeartbeats 4000000 in
set_option maxRecDepth 100000 in
theorem T_W_tellPrime_7 {d : Nat} {i0 : Nat} {x1 : Int} {x2 : Int} {M : AMem} {Q : Option AV → AMem → Prop} (o0 : okH 2 i0 = true) (h : ((1000000 ≤ wI x2) → CallI d m_Q_keyOf [vI x1, vI x1] M (fun y2 M1 => CallI d m_Q_keyOf [vI (x1 * x1), vI x1] (aup M1 2 i0 7 y2) (fun y4 M3 => CallV d m_Q_push [vR 0 i0, vI y4] M3 (fun M5 => Q none M5)))) ∧ (¬ (1000000 ≤ wI x2) → ((wI (M 0 i0 1) ≤ 0) → CallI d m_Q_keyOf [vI x1, vI x1] M (fun y8 M7 => CallI d m_Q_keyOf [vI (x1 * x1), vI x1] (aup M7 2 i0 7 y8) (fun y10 M9 => CallV d m_Q_push [vR 0 i0, vI y10] M9 (fun M11 => Q none M11)))) ∧ (¬ (wI (M 0 i0 1) ≤ 0) → CallI d m_Q_firstNumber [vR 0 i0] M (fun y14 M13 => ((wI x1 < wI y14) → CallI d m_Q_keyOf [vI x1, vI x1] M13 (fun y16 M15 => CallI d m_Q_keyOf [vI (x1 * x1), vI x1] (aup M15 2 i0 7 y16) (fun y18 M17 => CallV d m_Q_push [vR 0 i0, vI y18] M17 (fun M19 => Q none M19)))) ∧ (¬ (wI x1 < wI y14) → CallI d m_Q_pop [vR 0 i0] M13 (fun y22 M21 => CallI d m_Q_tagOf [vI y22] M21 (fun y24 M23 => CallI d m_Q_keyOf [vI y24, vI 0] M23 (fun y26 M25 => CallV d m_Q_push [vR 0 i0, vI (y22 + y26)] M25 (fun M27 => RunQ (d + 1) m_W_tellPrime 7 [some (vR 2 i0), some (vI x1), some (vI (x2 + 1)), some (vI y22)] [] M27 Q))))))))) : RunQ (d + 1) m_W_tellPrime 7 [some (vR 2 i0), some (vI x1), some (vI x2), none] [] M Q := by
  refine q_iload_n 7 k_W_tellPrime_7 rfl ?_
  refine q_ldc 8 k_W_tellPrime_8 ck_2_118 ?_
  refine q_icmp_ge 10 65 k_W_tellPrime_10 rfl rfl (fun c10 => ?_) (fun c10 => ?_)
  · have ht := h.1 c10
    refine q_aload_n 65 k_W_tellPrime_65 rfl ?_
    refine q_iload_n 66 k_W_tellPrime_66 rfl ?_
    refine q_iload_n 67 k_W_tellPrime_67 rfl ?_
    refine q_sI 68 [vI x1, vI x1] [vR 2 i0] k_W_tellPrime_68 rfl lk_2_63 rfl rfl rfl rfl rfl rfl (CallI.mono (fun y2 M1 h29 => ?_) ht)
    refine q_putfield 71 k_W_tellPrime_71 fk_2_60 o0 rfl (fun z => absurd z (by decide)) ?_
    refine q_aload_n 74 k_W_tellPrime_74 rfl ?_
    refine q_getfield 75 k_W_tellPrime_75 fk_2_20 o0 (v := vR 0 i0) rfl ?_
    refine q_iload_n 78 k_W_tellPrime_78 rfl ?_
    refine q_iload_n 79 k_W_tellPrime_79 rfl ?_
    refine q_imul 80 k_W_tellPrime_80 ?_
    refine q_iload_n 81 k_W_tellPrime_81 rfl ?_
    refine q_sI 82 [vI (x1 * x1), vI x1] [vR 0 i0] k_W_tellPrime_82 rfl lk_2_63 rfl rfl rfl rfl rfl rfl (CallI.mono (fun y4 M3 h30 => ?_) h29)
    refine q_vV 85 [vI y4] [] k_W_tellPrime_85 lk_2_67 rfl rfl rfl o0 rfl rfl rfl rfl (CallV.mono (fun M5 h31 => ?_) h30)
    exact q_vret 88 k_W_tellPrime_88 rfl h31
  · have hf := h.2 c10
    refine q_aload_n 13 k_W_tellPrime_13 rfl ?_
    refine q_getfield 14 k_W_tellPrime_14 fk_2_20 o0 (v := vR 0 i0) rfl ?_
    refine q_getfield 17 k_W_tellPrime_17 fk_2_51 o0 (v := vI (M 0 i0 1)) rfl ?_
    refine q_if_le 20 65 k_W_tellPrime_20 rfl rfl (fun c20 => ?_) (fun c20 => ?_)
    · have hft := hf.1 c20
      refine q_aload_n 65 k_W_tellPrime_65 rfl ?_
      refine q_iload_n 66 k_W_tellPrime_66 rfl ?_
      refine q_iload_n 67 k_W_tellPrime_67 rfl ?_
      refine q_sI 68 [vI x1, vI x1] [vR 2 i0] k_W_tellPrime_68 rfl lk_2_63 rfl rfl rfl rfl rfl rfl (CallI.mono (fun y8 M7 h32 => ?_) hft)
      refine q_putfield 71 k_W_tellPrime_71 fk_2_60 o0 rfl (fun z => absurd z (by decide)) ?_
      refine q_aload_n 74 k_W_tellPrime_74 rfl ?_
      refine q_getfield 75 k_W_tellPrime_75 fk_2_20 o0 (v := vR 0 i0) rfl ?_
      refine q_iload_n 78 k_W_tellPrime_78 rfl ?_
      refine q_iload_n 79 k_W_tellPrime_79 rfl ?_
      refine q_imul 80 k_W_tellPrime_80 ?_
      refine q_iload_n 81 k_W_tellPrime_81 rfl ?_
      refine q_sI 82 [vI (x1 * x1), vI x1] [vR 0 i0] k_W_tellPrime_82 rfl lk_2_63 rfl rfl rfl rfl rfl rfl (CallI.mono (fun y10 M9 h33 => ?_) h32)
      refine q_vV 85 [vI y10] [] k_W_tellPrime_85 lk_2_67 rfl rfl rfl o0 rfl rfl rfl rfl (CallV.mono (fun M11 h34 => ?_) h33)
      exact q_vret 88 k_W_tellPrime_88 rfl h34
    · have hff := hf.2 c20
      refine q_aload_n 23 k_W_tellPrime_23 rfl ?_
      refine q_getfield 24 k_W_tellPrime_24 fk_2_20 o0 (v := vR 0 i0) rfl ?_
      refine q_vI 27 [] [] k_W_tellPrime_27 lk_2_119 rfl rfl rfl o0 rfl rfl rfl rfl (CallI.mono (fun y14 M13 h35 => ?_) hff)
      refine q_iload_n 30 k_W_tellPrime_30 rfl ?_
      refine q_icmp_gt 31 65 k_W_tellPrime_31 rfl rfl (fun c31 => ?_) (fun c31 => ?_)
      · have h35t := h35.1 c31
        refine q_aload_n 65 k_W_tellPrime_65 rfl ?_
        refine q_iload_n 66 k_W_tellPrime_66 rfl ?_
        refine q_iload_n 67 k_W_tellPrime_67 rfl ?_
        refine q_sI 68 [vI x1, vI x1] [vR 2 i0] k_W_tellPrime_68 rfl lk_2_63 rfl rfl rfl rfl rfl rfl (CallI.mono (fun y16 M15 h36 => ?_) h35t)
        refine q_putfield 71 k_W_tellPrime_71 fk_2_60 o0 rfl (fun z => absurd z (by decide)) ?_
        refine q_aload_n 74 k_W_tellPrime_74 rfl ?_
        refine q_getfield 75 k_W_tellPrime_75 fk_2_20 o0 (v := vR 0 i0) rfl ?_
        refine q_iload_n 78 k_W_tellPrime_78 rfl ?_
        refine q_iload_n 79 k_W_tellPrime_79 rfl ?_
        refine q_imul 80 k_W_tellPrime_80 ?_
        refine q_iload_n 81 k_W_tellPrime_81 rfl ?_
        refine q_sI 82 [vI (x1 * x1), vI x1] [vR 0 i0] k_W_tellPrime_82 rfl lk_2_63 rfl rfl rfl rfl rfl rfl (CallI.mono (fun y18 M17 h37 => ?_) h36)
        refine q_vV 85 [vI y18] [] k_W_tellPrime_85 lk_2_67 rfl rfl rfl o0 rfl rfl rfl rfl (CallV.mono (fun M19 h38 => ?_) h37)
        exact q_vret 88 k_W_tellPrime_88 rfl h38
      · have h35f := h35.2 c31
        refine q_aload_n 34 k_W_tellPrime_34 rfl ?_
        refine q_getfield 35 k_W_tellPrime_35 fk_2_20 o0 (v := vR 0 i0) rfl ?_
        refine q_vI 38 [] [] k_W_tellPrime_38 lk_2_93 rfl rfl rfl o0 rfl rfl rfl rfl (CallI.mono (fun y22 M21 h39 => ?_) h35f)
        refine q_istore_n 41 k_W_tellPrime_41 (ls' := [some (vR 2 i0), some (vI x1), some (vI x2), some (vI y22)]) rfl rfl ?_
        refine q_aload_n 42 k_W_tellPrime_42 rfl ?_
        refine q_getfield 43 k_W_tellPrime_43 fk_2_20 o0 (v := vR 0 i0) rfl ?_
        refine q_iload_n 46 k_W_tellPrime_46 rfl ?_
        refine q_iload_n 47 k_W_tellPrime_47 rfl ?_
        refine q_sI 48 [vI y22] [vI y22, vR 0 i0] k_W_tellPrime_48 rfl lk_2_97 rfl rfl rfl rfl rfl rfl (CallI.mono (fun y24 M23 h40 => ?_) h39)
        refine q_iconst 51 k_W_tellPrime_51 ?_
        refine q_sI 52 [vI y24, vI 0] [vI y22, vR 0 i0] k_W_tellPrime_52 rfl lk_2_63 rfl rfl rfl rfl rfl rfl (CallI.mono (fun y26 M25 h41 => ?_) h40)
        refine q_iadd 55 k_W_tellPrime_55 ?_
        refine q_vV 56 [vI (y22 + y26)] [] k_W_tellPrime_56 lk_2_67 rfl rfl rfl o0 rfl rfl rfl rfl (CallV.mono (fun M27 h42 => ?_) h41)
        refine q_iinc 59 k_W_tellPrime_59 (ls' := [some (vR 2 i0), some (vI x1), some (vI (x2 + 1)), some (vI y22)]) rfl rfl rfl ?_
        refine q_goto 62 7 k_W_tellPrime_62 rfl rfl ?_
        exact h42
theorem k_W_offerProducts_0 : decode (mtC m_W_offerProducts) 0 = .ok (.iload_n 2, 1) := by decide +kernel
theorem k_W_offerProducts_1 : decode (mtC m_W_offerProducts) 1 = .ok (.iconst 0, 1) := by decide +kernel
theorem k_W_offerProducts_2 : decode (mtC m_W_offerProducts) 2 = .ok (.invokestatic 122, 3) := by decide +kernel
theorem k_W_offerProducts_5 : decode (mtC m_W_offerProducts) 5 = .ok (.istore_n 3, 1) := by decide +kernel
theorem k_W_offerProducts_6 : decode (mtC m_W_offerProducts) 6 = .ok (.iload_n 3, 1) := by decide +kernel
theorem k_W_offerProducts_7 : decode (mtC m_W_offerProducts) 7 = .ok (.getstatic 127, 3) := by decide +kernel
theorem k_W_offerProducts_10 : decode (mtC m_W_offerProducts) 10 = .ok (.arraylength, 1) := by decide +kernel
theorem k_W_offerProducts_11 : decode (mtC m_W_offerProducts) 11 = .ok (.if_icmp .ge 50, 3) := by decide +kernel
theorem k_W_offerProducts_14 : decode (mtC m_W_offerProducts) 14 = .ok (.aload_n 0, 1) := by decide +kernel
theorem k_W_offerProducts_15 : decode (mtC m_W_offerProducts) 15 = .ok (.getfield 41, 3) := by decide +kernel
theorem k_W_offerProducts_18 : decode (mtC m_W_offerProducts) 18 = .ok (.iload_n 3, 1) := by decide +kernel
theorem k_W_offerProducts_19 : decode (mtC m_W_offerProducts) 19 = .ok (.invokestatic 131, 3) := by decide +kernel
theorem k_W_offerProducts_22 : decode (mtC m_W_offerProducts) 22 = .ok (.ifCond .eq 33, 3) := by decide +kernel
theorem k_W_offerProducts_25 : decode (mtC m_W_offerProducts) 25 = .ok (.iload_n 1, 1) := by decide +kernel
theorem k_W_offerProducts_26 : decode (mtC m_W_offerProducts) 26 = .ok (.getstatic 127, 3) := by decide +kernel
theorem k_W_offerProducts_29 : decode (mtC m_W_offerProducts) 29 = .ok (.iload_n 3, 1) := by decide +kernel
theorem k_W_offerProducts_30 : decode (mtC m_W_offerProducts) 30 = .ok (.iaload, 1) := by decide +kernel
theorem k_W_offerProducts_31 : decode (mtC m_W_offerProducts) 31 = .ok (.imul, 1) := by decide +kernel
theorem k_W_offerProducts_32 : decode (mtC m_W_offerProducts) 32 = .ok (.ldc 135, 2) := by decide +kernel
theorem k_W_offerProducts_34 : decode (mtC m_W_offerProducts) 34 = .ok (.if_icmp .gt 21, 3) := by decide +kernel
theorem k_W_offerProducts_37 : decode (mtC m_W_offerProducts) 37 = .ok (.aload_n 0, 1) := by decide +kernel
theorem k_W_offerProducts_38 : decode (mtC m_W_offerProducts) 38 = .ok (.getfield 20, 3) := by decide +kernel
theorem k_W_offerProducts_41 : decode (mtC m_W_offerProducts) 41 = .ok (.iload_n 1, 1) := by decide +kernel
theorem k_W_offerProducts_42 : decode (mtC m_W_offerProducts) 42 = .ok (.getstatic 127, 3) := by decide +kernel
theorem k_W_offerProducts_45 : decode (mtC m_W_offerProducts) 45 = .ok (.iload_n 3, 1) := by decide +kernel
theorem k_W_offerProducts_46 : decode (mtC m_W_offerProducts) 46 = .ok (.iaload, 1) := by decide +kernel
theorem k_W_offerProducts_47 : decode (mtC m_W_offerProducts) 47 = .ok (.imul, 1) := by decide +kernel
theorem k_W_offerProducts_48 : decode (mtC m_W_offerProducts) 48 = .ok (.iload_n 3, 1) := by decide +kernel
theorem k_W_offerProducts_49 : decode (mtC m_W_offerProducts) 49 = .ok (.invokestatic 63, 3) := by decide +kernel
theorem k_W_offerProducts_52 : decode (mtC m_W_offerProducts) 52 = .ok (.invokevirtual 67, 3) := by decide +kernel
theorem k_W_offerProducts_55 : decode (mtC m_W_offerProducts) 55 = .ok (.iinc 3 1, 3) := by decide +kernel
theorem k_W_offerProducts_58 : decode (mtC m_W_offerProducts) 58 = .ok (.goto (-52), 3) := by decide +kernel
theorem k_W_offerProducts_61 : decode (mtC m_W_offerProducts) 61 = .ok (.return_, 1) := by decide +kernel
set_option maxHeartbeats 4000000 in
set_option maxRecDepth 100000 in
theorem T_W_offerProducts_0 {d : Nat} {i0 : Nat} {x1 : Int} {x2 : Int} {M : AMem} {Q : Option AV → AMem → Prop} (o0 : okH 2 i0 = true) (h : RunQ (d + 1) m_W_offerProducts 6 [some (vR 2 i0), some (vI x1), some (vI x2), some (vI (if wI x2 < 0 then 0 else x2))] [] M Q) : RunQ (d + 1) m_W_offerProducts 0 [some (vR 2 i0), some (vI x1), some (vI x2), none] [] M Q := by
  refine q_iload_n 0 k_W_offerProducts_0 rfl ?_
  refine q_iconst 1 k_W_offerProducts_1 ?_
  refine q_max 2 k_W_offerProducts_2 rfl rfl ?_
  refine q_istore_n 5 k_W_offerProducts_5 (ls' := [some (vR 2 i0), some (vI x1), some (vI x2), some (vI (if wI x2 < 0 then 0 else x2))]) rfl rfl ?_
  exact h
set_option maxHeartbeats 4000000 in
set_option maxRecDepth 100000 in
theorem T_W_offerProducts_6 {d : Nat} {i0 : Nat} {x1 : Int} {x2 : Int} {x3 : Int} {M : AMem} {Q : Option AV → AMem → Prop} (o0 : okH 2 i0 = true) (h : ((6 ≤ wI x3) → Q none M) ∧ (¬ (6 ≤ wI x3) → CallI d m_W_isMember [vI (M 2 i0 3), vI x3] M (fun y2 M1 => ((wI y2 = 0) → RunQ (d + 1) m_W_offerProducts 6 [some (vR 2 i0), some (vI x1), some (vI x2), some (vI (x3 + 1))] [] M1 Q) ∧ (¬ (wI y2 = 0) → (0 ≤ wI x3 ∧ wI x3 < (6 : Nat)) ∧ (((100000 < wI (x1 * (bas (wI x3).toNat))) → RunQ (d + 1) m_W_offerProducts 6 [some (vR 2 i0), some (vI x1), some (vI x2), some (vI (x3 + 1))] [] M1 Q) ∧ (¬ (100000 < wI (x1 * (bas (wI x3).toNat))) → (0 ≤ wI x3 ∧ wI x3 < (6 : Nat)) ∧ (CallI d m_Q_keyOf [vI (x1 * (bas (wI x3).toNat)), vI x3] M1 (fun y6 M5 => CallV d m_Q_push [vR 0 i0, vI y6] M5 (fun M7 => RunQ (d + 1) m_W_offerProducts 6 [some (vR 2 i0), some (vI x1), some (vI x2), some (vI (x3 + 1))] [] M7 Q))))))))) : RunQ (d + 1) m_W_offerProducts 6 [some (vR 2 i0), some (vI x1), some (vI x2), some (vI x3)] [] M Q := by
  refine q_iload_n 6 k_W_offerProducts_6 rfl ?_
  refine q_getstatic 7 k_W_offerProducts_7 (a := 10) rfl ?_
  refine q_alen 10 k_W_offerProducts_10 rfl rfl (z := 6) rfl ?_
  refine q_icmp_ge 11 61 k_W_offerProducts_11 rfl rfl (fun c11 => ?_) (fun c11 => ?_)
  · have ht := h.1 c11
    exact q_vret 61 k_W_offerProducts_61 rfl ht
  · have hf := h.2 c11
    refine q_aload_n 14 k_W_offerProducts_14 rfl ?_
    refine q_getfield 15 k_W_offerProducts_15 fk_2_41 o0 (v := vI (M 2 i0 3)) rfl ?_
    refine q_iload_n 18 k_W_offerProducts_18 rfl ?_
    refine q_sI 19 [vI (M 2 i0 3), vI x3] [] k_W_offerProducts_19 rfl lk_2_131 rfl rfl rfl rfl rfl rfl (CallI.mono (fun y2 M1 h9 => ?_) hf)
    refine q_if_eq 22 55 k_W_offerProducts_22 rfl rfl (fun c22 => ?_) (fun c22 => ?_)
    · have h9t := h9.1 c22
      refine q_iinc 55 k_W_offerProducts_55 (ls' := [some (vR 2 i0), some (vI x1), some (vI x2), some (vI (x3 + 1))]) rfl rfl rfl ?_
      refine q_goto 58 6 k_W_offerProducts_58 rfl rfl ?_
      exact h9t
    · have h9f := h9.2 c22
      refine q_iload_n 25 k_W_offerProducts_25 rfl ?_
      refine q_getstatic 26 k_W_offerProducts_26 (a := 10) rfl ?_
      refine q_iload_n 29 k_W_offerProducts_29 rfl ?_
      have hb3 := h9f.1
      refine q_iaload 30 k_W_offerProducts_30 rfl (n := 6) rfl hb3 (z := (bas (wI x3).toNat)) rfl ?_
      have h9f' := h9f.2
      refine q_imul 31 k_W_offerProducts_31 ?_
      refine q_ldc 32 k_W_offerProducts_32 ck_2_135 ?_
      refine q_icmp_gt 34 55 k_W_offerProducts_34 rfl rfl (fun c34 => ?_) (fun c34 => ?_)
      · have h9f't := h9f'.1 c34
        refine q_iinc 55 k_W_offerProducts_55 (ls' := [some (vR 2 i0), some (vI x1), some (vI x2), some (vI (x3 + 1))]) rfl rfl rfl ?_
        refine q_goto 58 6 k_W_offerProducts_58 rfl rfl ?_
        exact h9f't
      · have h9f'f := h9f'.2 c34
        refine q_aload_n 37 k_W_offerProducts_37 rfl ?_
        refine q_getfield 38 k_W_offerProducts_38 fk_2_20 o0 (v := vR 0 i0) rfl ?_
        refine q_iload_n 41 k_W_offerProducts_41 rfl ?_
        refine q_getstatic 42 k_W_offerProducts_42 (a := 10) rfl ?_
        refine q_iload_n 45 k_W_offerProducts_45 rfl ?_
        have hb4 := h9f'f.1
        refine q_iaload 46 k_W_offerProducts_46 rfl (n := 6) rfl hb4 (z := (bas (wI x3).toNat)) rfl ?_
        have h9f'f' := h9f'f.2
        refine q_imul 47 k_W_offerProducts_47 ?_
        refine q_iload_n 48 k_W_offerProducts_48 rfl ?_
        refine q_sI 49 [vI (x1 * (bas (wI x3).toNat)), vI x3] [vR 0 i0] k_W_offerProducts_49 rfl lk_2_63 rfl rfl rfl rfl rfl rfl (CallI.mono (fun y6 M5 h10 => ?_) h9f'f')
        refine q_vV 52 [vI y6] [] k_W_offerProducts_52 lk_2_67 rfl rfl rfl o0 rfl rfl rfl rfl (CallV.mono (fun M7 h11 => ?_) h10)
        refine q_iinc 55 k_W_offerProducts_55 (ls' := [some (vR 2 i0), some (vI x1), some (vI x2), some (vI (x3 + 1))]) rfl rfl rfl ?_
        refine q_goto 58 6 k_W_offerProducts_58 rfl rfl ?_
        exact h11
theorem k_W_offerNeighbours_0 : decode (mtC m_W_offerNeighbours) 0 = .ok (.aload_n 0, 1) := by decide +kernel
theorem k_W_offerNeighbours_1 : decode (mtC m_W_offerNeighbours) 1 = .ok (.iload_n 1, 1) := by decide +kernel
theorem k_W_offerNeighbours_2 : decode (mtC m_W_offerNeighbours) 2 = .ok (.iload_n 2, 1) := by decide +kernel
theorem k_W_offerNeighbours_3 : decode (mtC m_W_offerNeighbours) 3 = .ok (.iload_n 3, 1) := by decide +kernel
theorem k_W_offerNeighbours_4 : decode (mtC m_W_offerNeighbours) 4 = .ok (.iconst 1, 1) := by decide +kernel
theorem k_W_offerNeighbours_5 : decode (mtC m_W_offerNeighbours) 5 = .ok (.iadd, 1) := by decide +kernel
theorem k_W_offerNeighbours_6 : decode (mtC m_W_offerNeighbours) 6 = .ok (.invokevirtual 79, 3) := by decide +kernel
theorem k_W_offerNeighbours_9 : decode (mtC m_W_offerNeighbours) 9 = .ok (.iload_n 3, 1) := by decide +kernel
theorem k_W_offerNeighbours_10 : decode (mtC m_W_offerNeighbours) 10 = .ok (.ifCond .ne 25, 3) := by decide +kernel
theorem k_W_offerNeighbours_13 : decode (mtC m_W_offerNeighbours) 13 = .ok (.aload_n 0, 1) := by decide +kernel
theorem k_W_offerNeighbours_14 : decode (mtC m_W_offerNeighbours) 14 = .ok (.iload_n 1, 1) := by decide +kernel
theorem k_W_offerNeighbours_15 : decode (mtC m_W_offerNeighbours) 15 = .ok (.iload_n 2, 1) := by decide +kernel
theorem k_W_offerNeighbours_16 : decode (mtC m_W_offerNeighbours) 16 = .ok (.iconst 1, 1) := by decide +kernel
theorem k_W_offerNeighbours_17 : decode (mtC m_W_offerNeighbours) 17 = .ok (.iadd, 1) := by decide +kernel
theorem k_W_offerNeighbours_18 : decode (mtC m_W_offerNeighbours) 18 = .ok (.iconst 0, 1) := by decide +kernel
theorem k_W_offerNeighbours_19 : decode (mtC m_W_offerNeighbours) 19 = .ok (.invokevirtual 79, 3) := by decide +kernel
theorem k_W_offerNeighbours_22 : decode (mtC m_W_offerNeighbours) 22 = .ok (.iload_n 2, 1) := by decide +kernel
theorem k_W_offerNeighbours_23 : decode (mtC m_W_offerNeighbours) 23 = .ok (.ifCond .ne 12, 3) := by decide +kernel
theorem k_W_offerNeighbours_26 : decode (mtC m_W_offerNeighbours) 26 = .ok (.aload_n 0, 1) := by decide +kernel
theorem k_W_offerNeighbours_27 : decode (mtC m_W_offerNeighbours) 27 = .ok (.iload_n 1, 1) := by decide +kernel
theorem k_W_offerNeighbours_28 : decode (mtC m_W_offerNeighbours) 28 = .ok (.iconst 1, 1) := by decide +kernel
theorem k_W_offerNeighbours_29 : decode (mtC m_W_offerNeighbours) 29 = .ok (.iadd, 1) := by decide +kernel
theorem k_W_offerNeighbours_30 : decode (mtC m_W_offerNeighbours) 30 = .ok (.iconst 0, 1) := by decide +kernel
theorem k_W_offerNeighbours_31 : decode (mtC m_W_offerNeighbours) 31 = .ok (.iconst 0, 1) := by decide +kernel
theorem k_W_offerNeighbours_32 : decode (mtC m_W_offerNeighbours) 32 = .ok (.invokevirtual 79, 3) := by decide +kernel
theorem k_W_offerNeighbours_35 : decode (mtC m_W_offerNeighbours) 35 = .ok (.return_, 1) := by decide +kernel
set_option maxHeartbeats 4000000 in
set_option maxRecDepth 100000 in
theorem T_W_offerNeighbours_0 {d : Nat} {i0 : Nat} {x1 : Int} {x2 : Int} {x3 : Int} {M : AMem} {Q : Option AV → AMem → Prop} (o0 : okH 2 i0 = true) (h : CallV d m_W_offerOfGrid [vR 2 i0, vI x1, vI x2, vI (x3 + 1)] M (fun M1 => ((¬ wI x3 = 0) → Q none M1) ∧ (¬ (¬ wI x3 = 0) → CallV d m_W_offerOfGrid [vR 2 i0, vI x1, vI (x2 + 1), vI 0] M1 (fun M3 => ((¬ wI x2 = 0) → Q none M3) ∧ (¬ (¬ wI x2 = 0) → CallV d m_W_offerOfGrid [vR 2 i0, vI (x1 + 1), vI 0, vI 0] M3 (fun M5 => Q none M5)))))) : RunQ (d + 1) m_W_offerNeighbours 0 [some (vR 2 i0), some (vI x1), some (vI x2), some (vI x3)] [] M Q := by
  refine q_aload_n 0 k_W_offerNeighbours_0 rfl ?_
  refine q_iload_n 1 k_W_offerNeighbours_1 rfl ?_
  refine q_iload_n 2 k_W_offerNeighbours_2 rfl ?_
  refine q_iload_n 3 k_W_offerNeighbours_3 rfl ?_
  refine q_iconst 4 k_W_offerNeighbours_4 ?_
  refine q_iadd 5 k_W_offerNeighbours_5 ?_
  refine q_vV 6 [vI x1, vI x2, vI (x3 + 1)] [] k_W_offerNeighbours_6 lk_2_79 rfl rfl rfl o0 rfl rfl rfl rfl (CallV.mono (fun M1 h7 => ?_) h)
  refine q_iload_n 9 k_W_offerNeighbours_9 rfl ?_
  refine q_if_ne 10 35 k_W_offerNeighbours_10 rfl rfl (fun c10 => ?_) (fun c10 => ?_)
  · have h7t := h7.1 c10
    exact q_vret 35 k_W_offerNeighbours_35 rfl h7t
  · have h7f := h7.2 c10
    refine q_aload_n 13 k_W_offerNeighbours_13 rfl ?_
    refine q_iload_n 14 k_W_offerNeighbours_14 rfl ?_
    refine q_iload_n 15 k_W_offerNeighbours_15 rfl ?_
    refine q_iconst 16 k_W_offerNeighbours_16 ?_
    refine q_iadd 17 k_W_offerNeighbours_17 ?_
    refine q_iconst 18 k_W_offerNeighbours_18 ?_
    refine q_vV 19 [vI x1, vI (x2 + 1), vI 0] [] k_W_offerNeighbours_19 lk_2_79 rfl rfl rfl o0 rfl rfl rfl rfl (CallV.mono (fun M3 h8 => ?_) h7f)
    refine q_iload_n 22 k_W_offerNeighbours_22 rfl ?_
    refine q_if_ne 23 35 k_W_offerNeighbours_23 rfl rfl (fun c23 => ?_) (fun c23 => ?_)
    · have h8t := h8.1 c23
      exact q_vret 35 k_W_offerNeighbours_35 rfl h8t
    · have h8f := h8.2 c23
      refine q_aload_n 26 k_W_offerNeighbours_26 rfl ?_
      refine q_iload_n 27 k_W_offerNeighbours_27 rfl ?_
      refine q_iconst 28 k_W_offerNeighbours_28 ?_
      refine q_iadd 29 k_W_offerNeighbours_29 ?_
      refine q_iconst 30 k_W_offerNeighbours_30 ?_
      refine q_iconst 31 k_W_offerNeighbours_31 ?_
      refine q_vV 32 [vI (x1 + 1), vI 0, vI 0] [] k_W_offerNeighbours_32 lk_2_79 rfl rfl rfl o0 rfl rfl rfl rfl (CallV.mono (fun M5 h9 => ?_) h8f)
      exact q_vret 35 k_W_offerNeighbours_35 rfl h9
theorem k_W_offerOfGrid_0 : decode (mtC m_W_offerOfGrid) 0 = .ok (.iload_n 1, 1) := by decide +kernel
theorem k_W_offerOfGrid_1 : decode (mtC m_W_offerOfGrid) 1 = .ok (.aload_n 0, 1) := by decide +kernel
theorem k_W_offerOfGrid_2 : decode (mtC m_W_offerOfGrid) 2 = .ok (.getfield 11, 3) := by decide +kernel
theorem k_W_offerOfGrid_5 : decode (mtC m_W_offerOfGrid) 5 = .ok (.iconst 0, 1) := by decide +kernel
theorem k_W_offerOfGrid_6 : decode (mtC m_W_offerOfGrid) 6 = .ok (.aaload, 1) := by decide +kernel
theorem k_W_offerOfGrid_7 : decode (mtC m_W_offerOfGrid) 7 = .ok (.getfield 136, 3) := by decide +kernel
theorem k_W_offerOfGrid_10 : decode (mtC m_W_offerOfGrid) 10 = .ok (.if_icmp .ge 57, 3) := by decide +kernel
theorem k_W_offerOfGrid_13 : decode (mtC m_W_offerOfGrid) 13 = .ok (.iload_n 2, 1) := by decide +kernel
theorem k_W_offerOfGrid_14 : decode (mtC m_W_offerOfGrid) 14 = .ok (.aload_n 0, 1) := by decide +kernel
theorem k_W_offerOfGrid_15 : decode (mtC m_W_offerOfGrid) 15 = .ok (.getfield 11, 3) := by decide +kernel
theorem k_W_offerOfGrid_18 : decode (mtC m_W_offerOfGrid) 18 = .ok (.iconst 1, 1) := by decide +kernel
theorem k_W_offerOfGrid_19 : decode (mtC m_W_offerOfGrid) 19 = .ok (.aaload, 1) := by decide +kernel
theorem k_W_offerOfGrid_20 : decode (mtC m_W_offerOfGrid) 20 = .ok (.getfield 136, 3) := by decide +kernel
theorem k_W_offerOfGrid_23 : decode (mtC m_W_offerOfGrid) 23 = .ok (.if_icmp .ge 44, 3) := by decide +kernel
theorem k_W_offerOfGrid_26 : decode (mtC m_W_offerOfGrid) 26 = .ok (.iload_n 3, 1) := by decide +kernel
theorem k_W_offerOfGrid_27 : decode (mtC m_W_offerOfGrid) 27 = .ok (.aload_n 0, 1) := by decide +kernel
theorem k_W_offerOfGrid_28 : decode (mtC m_W_offerOfGrid) 28 = .ok (.getfield 11, 3) := by decide +kernel
theorem k_W_offerOfGrid_31 : decode (mtC m_W_offerOfGrid) 31 = .ok (.iconst 2, 1) := by decide +kernel
theorem k_W_offerOfGrid_32 : decode (mtC m_W_offerOfGrid) 32 = .ok (.aaload, 1) := by decide +kernel
theorem k_W_offerOfGrid_33 : decode (mtC m_W_offerOfGrid) 33 = .ok (.getfield 136, 3) := by decide +kernel
theorem k_W_offerOfGrid_36 : decode (mtC m_W_offerOfGrid) 36 = .ok (.if_icmp .ge 31, 3) := by decide +kernel
theorem k_W_offerOfGrid_39 : decode (mtC m_W_offerOfGrid) 39 = .ok (.aload_n 0, 1) := by decide +kernel
theorem k_W_offerOfGrid_40 : decode (mtC m_W_offerOfGrid) 40 = .ok (.getfield 20, 3) := by decide +kernel
theorem k_W_offerOfGrid_43 : decode (mtC m_W_offerOfGrid) 43 = .ok (.aload_n 0, 1) := by decide +kernel
theorem k_W_offerOfGrid_44 : decode (mtC m_W_offerOfGrid) 44 = .ok (.iload_n 1, 1) := by decide +kernel
theorem k_W_offerOfGrid_45 : decode (mtC m_W_offerOfGrid) 45 = .ok (.iload_n 2, 1) := by decide +kernel
theorem k_W_offerOfGrid_46 : decode (mtC m_W_offerOfGrid) 46 = .ok (.iload_n 3, 1) := by decide +kernel
theorem k_W_offerOfGrid_47 : decode (mtC m_W_offerOfGrid) 47 = .ok (.invokevirtual 139, 3) := by decide +kernel
theorem k_W_offerOfGrid_50 : decode (mtC m_W_offerOfGrid) 50 = .ok (.iload_n 1, 1) := by decide +kernel
theorem k_W_offerOfGrid_51 : decode (mtC m_W_offerOfGrid) 51 = .ok (.bipush 8, 2) := by decide +kernel
theorem k_W_offerOfGrid_53 : decode (mtC m_W_offerOfGrid) 53 = .ok (.imul, 1) := by decide +kernel
theorem k_W_offerOfGrid_54 : decode (mtC m_W_offerOfGrid) 54 = .ok (.iload_n 2, 1) := by decide +kernel
theorem k_W_offerOfGrid_55 : decode (mtC m_W_offerOfGrid) 55 = .ok (.iadd, 1) := by decide +kernel
theorem k_W_offerOfGrid_56 : decode (mtC m_W_offerOfGrid) 56 = .ok (.bipush 8, 2) := by decide +kernel
theorem k_W_offerOfGrid_58 : decode (mtC m_W_offerOfGrid) 58 = .ok (.imul, 1) := by decide +kernel
theorem k_W_offerOfGrid_59 : decode (mtC m_W_offerOfGrid) 59 = .ok (.iload_n 3, 1) := by decide +kernel
theorem k_W_offerOfGrid_60 : decode (mtC m_W_offerOfGrid) 60 = .ok (.iadd, 1) := by decide +kernel
theorem k_W_offerOfGrid_61 : decode (mtC m_W_offerOfGrid) 61 = .ok (.invokestatic 63, 3) := by decide +kernel
theorem k_W_offerOfGrid_64 : decode (mtC m_W_offerOfGrid) 64 = .ok (.invokevirtual 67, 3) := by decide +kernel
theorem k_W_offerOfGrid_67 : decode (mtC m_W_offerOfGrid) 67 = .ok (.return_, 1) := by decide +kernel
set_option maxHeartbeats 4000000 in
set_option maxRecDepth 100000 in
theorem T_W_offerOfGrid_0 {d : Nat} {i0 : Nat} {x1 : Int} {x2 : Int} {x3 : Int} {M : AMem} {Q : Option AV → AMem → Prop} (o0 : okH 2 i0 = true) (h : ((wI (M 1 (6 * i0 + 0) 1) ≤ wI x1) → Q none M) ∧ (¬ (wI (M 1 (6 * i0 + 0) 1) ≤ wI x1) → ((wI (M 1 (6 * i0 + 1) 1) ≤ wI x2) → Q none M) ∧ (¬ (wI (M 1 (6 * i0 + 1) 1) ≤ wI x2) → ((wI (M 1 (6 * i0 + 2) 1) ≤ wI x3) → Q none M) ∧ (¬ (wI (M 1 (6 * i0 + 2) 1) ≤ wI x3) → CallI d m_W_gridNumber [vR 2 i0, vI x1, vI x2, vI x3] M (fun y2 M1 => CallI d m_Q_keyOf [vI y2, vI ((((x1 * 8) + x2) * 8) + x3)] M1 (fun y4 M3 => CallV d m_Q_push [vR 0 i0, vI y4] M3 (fun M5 => Q none M5))))))) : RunQ (d + 1) m_W_offerOfGrid 0 [some (vR 2 i0), some (vI x1), some (vI x2), some (vI x3)] [] M Q := by
  refine q_iload_n 0 k_W_offerOfGrid_0 rfl ?_
  refine q_aload_n 1 k_W_offerOfGrid_1 rfl ?_
  refine q_getfield 2 k_W_offerOfGrid_2 fk_2_11 o0 (v := vR 6 i0) rfl ?_
  refine q_iconst 5 k_W_offerOfGrid_5 ?_
  refine q_aaload 6 k_W_offerOfGrid_6 o0 (n := 6) rfl ⟨by decide, by decide⟩ (kd := 1) (x := (6 * i0 + 0)) rfl ?_
  refine q_getfield 7 k_W_offerOfGrid_7 fk_2_136 (ok_r6 (j := 0) o0 ⟨by decide, by decide⟩) (v := vI (M 1 (6 * i0 + 0) 1)) rfl ?_
  refine q_icmp_ge 10 67 k_W_offerOfGrid_10 rfl rfl (fun c10 => ?_) (fun c10 => ?_)
  · have ht := h.1 c10
    exact q_vret 67 k_W_offerOfGrid_67 rfl ht
  · have hf := h.2 c10
    refine q_iload_n 13 k_W_offerOfGrid_13 rfl ?_
    refine q_aload_n 14 k_W_offerOfGrid_14 rfl ?_
    refine q_getfield 15 k_W_offerOfGrid_15 fk_2_11 o0 (v := vR 6 i0) rfl ?_
    refine q_iconst 18 k_W_offerOfGrid_18 ?_
    refine q_aaload 19 k_W_offerOfGrid_19 o0 (n := 6) rfl ⟨by decide, by decide⟩ (kd := 1) (x := (6 * i0 + 1)) rfl ?_
    refine q_getfield 20 k_W_offerOfGrid_20 fk_2_136 (ok_r6 (j := 1) o0 ⟨by decide, by decide⟩) (v := vI (M 1 (6 * i0 + 1) 1)) rfl ?_
    refine q_icmp_ge 23 67 k_W_offerOfGrid_23 rfl rfl (fun c23 => ?_) (fun c23 => ?_)
    · have hft := hf.1 c23
      exact q_vret 67 k_W_offerOfGrid_67 rfl hft
    · have hff := hf.2 c23
      refine q_iload_n 26 k_W_offerOfGrid_26 rfl ?_
      refine q_aload_n 27 k_W_offerOfGrid_27 rfl ?_
      refine q_getfield 28 k_W_offerOfGrid_28 fk_2_11 o0 (v := vR 6 i0) rfl ?_
      refine q_iconst 31 k_W_offerOfGrid_31 ?_
      refine q_aaload 32 k_W_offerOfGrid_32 o0 (n := 6) rfl ⟨by decide, by decide⟩ (kd := 1) (x := (6 * i0 + 2)) rfl ?_
      refine q_getfield 33 k_W_offerOfGrid_33 fk_2_136 (ok_r6 (j := 2) o0 ⟨by decide, by decide⟩) (v := vI (M 1 (6 * i0 + 2) 1)) rfl ?_
      refine q_icmp_ge 36 67 k_W_offerOfGrid_36 rfl rfl (fun c36 => ?_) (fun c36 => ?_)
      · have hfft := hff.1 c36
        exact q_vret 67 k_W_offerOfGrid_67 rfl hfft
      · have hfff := hff.2 c36
        refine q_aload_n 39 k_W_offerOfGrid_39 rfl ?_
        refine q_getfield 40 k_W_offerOfGrid_40 fk_2_20 o0 (v := vR 0 i0) rfl ?_
        refine q_aload_n 43 k_W_offerOfGrid_43 rfl ?_
        refine q_iload_n 44 k_W_offerOfGrid_44 rfl ?_
        refine q_iload_n 45 k_W_offerOfGrid_45 rfl ?_
        refine q_iload_n 46 k_W_offerOfGrid_46 rfl ?_
        refine q_vI 47 [vI x1, vI x2, vI x3] [vR 0 i0] k_W_offerOfGrid_47 lk_2_139 rfl rfl rfl o0 rfl rfl rfl rfl (CallI.mono (fun y2 M1 h7 => ?_) hfff)
        refine q_iload_n 50 k_W_offerOfGrid_50 rfl ?_
        refine q_bipush 51 k_W_offerOfGrid_51 (by decide) ?_
        refine q_imul 53 k_W_offerOfGrid_53 ?_
        refine q_iload_n 54 k_W_offerOfGrid_54 rfl ?_
        refine q_iadd 55 k_W_offerOfGrid_55 ?_
        refine q_bipush 56 k_W_offerOfGrid_56 (by decide) ?_
        refine q_imul 58 k_W_offerOfGrid_58 ?_
        refine q_iload_n 59 k_W_offerOfGrid_59 rfl ?_
        refine q_iadd 60 k_W_offerOfGrid_60 ?_
        refine q_sI 61 [vI y2, vI ((((x1 * 8) + x2) * 8) + x3)] [vR 0 i0] k_W_offerOfGrid_61 rfl lk_2_63 rfl rfl rfl rfl rfl rfl (CallI.mono (fun y4 M3 h8 => ?_) h7)
        refine q_vV 64 [vI y4] [] k_W_offerOfGrid_64 lk_2_67 rfl rfl rfl o0 rfl rfl rfl rfl (CallV.mono (fun M5 h9 => ?_) h8)
        exact q_vret 67 k_W_offerOfGrid_67 rfl h9
theorem k_W_offerOfRow_0 : decode (mtC m_W_offerOfRow) 0 = .ok (.iload_n 1, 1) := by decide +kernel
theorem k_W_offerOfRow_1 : decode (mtC m_W_offerOfRow) 1 = .ok (.ifCond .lt 36, 3) := by decide +kernel
theorem k_W_offerOfRow_4 : decode (mtC m_W_offerOfRow) 4 = .ok (.iload_n 1, 1) := by decide +kernel
theorem k_W_offerOfRow_5 : decode (mtC m_W_offerOfRow) 5 = .ok (.aload_n 0, 1) := by decide +kernel
theorem k_W_offerOfRow_6 : decode (mtC m_W_offerOfRow) 6 = .ok (.getfield 11, 3) := by decide +kernel
theorem k_W_offerOfRow_9 : decode (mtC m_W_offerOfRow) 9 = .ok (.arraylength, 1) := by decide +kernel
theorem k_W_offerOfRow_10 : decode (mtC m_W_offerOfRow) 10 = .ok (.if_icmp .ge 27, 3) := by decide +kernel
theorem k_W_offerOfRow_13 : decode (mtC m_W_offerOfRow) 13 = .ok (.aload_n 0, 1) := by decide +kernel
theorem k_W_offerOfRow_14 : decode (mtC m_W_offerOfRow) 14 = .ok (.getfield 41, 3) := by decide +kernel
theorem k_W_offerOfRow_17 : decode (mtC m_W_offerOfRow) 17 = .ok (.iload_n 1, 1) := by decide +kernel
theorem k_W_offerOfRow_18 : decode (mtC m_W_offerOfRow) 18 = .ok (.invokestatic 131, 3) := by decide +kernel
theorem k_W_offerOfRow_21 : decode (mtC m_W_offerOfRow) 21 = .ok (.ifCond .eq 16, 3) := by decide +kernel
theorem k_W_offerOfRow_24 : decode (mtC m_W_offerOfRow) 24 = .ok (.iload_n 2, 1) := by decide +kernel
theorem k_W_offerOfRow_25 : decode (mtC m_W_offerOfRow) 25 = .ok (.aload_n 0, 1) := by decide +kernel
theorem k_W_offerOfRow_26 : decode (mtC m_W_offerOfRow) 26 = .ok (.getfield 11, 3) := by decide +kernel
theorem k_W_offerOfRow_29 : decode (mtC m_W_offerOfRow) 29 = .ok (.iload_n 1, 1) := by decide +kernel
theorem k_W_offerOfRow_30 : decode (mtC m_W_offerOfRow) 30 = .ok (.aaload, 1) := by decide +kernel
theorem k_W_offerOfRow_31 : decode (mtC m_W_offerOfRow) 31 = .ok (.getfield 136, 3) := by decide +kernel
theorem k_W_offerOfRow_34 : decode (mtC m_W_offerOfRow) 34 = .ok (.if_icmp .lt 4, 3) := by decide +kernel
theorem k_W_offerOfRow_37 : decode (mtC m_W_offerOfRow) 37 = .ok (.return_, 1) := by decide +kernel
theorem k_W_offerOfRow_38 : decode (mtC m_W_offerOfRow) 38 = .ok (.aload_n 0, 1) := by decide +kernel
theorem k_W_offerOfRow_39 : decode (mtC m_W_offerOfRow) 39 = .ok (.getfield 20, 3) := by decide +kernel
theorem k_W_offerOfRow_42 : decode (mtC m_W_offerOfRow) 42 = .ok (.aload_n 0, 1) := by decide +kernel
theorem k_W_offerOfRow_43 : decode (mtC m_W_offerOfRow) 43 = .ok (.getfield 11, 3) := by decide +kernel
theorem k_W_offerOfRow_46 : decode (mtC m_W_offerOfRow) 46 = .ok (.iload_n 1, 1) := by decide +kernel
theorem k_W_offerOfRow_47 : decode (mtC m_W_offerOfRow) 47 = .ok (.aaload, 1) := by decide +kernel
theorem k_W_offerOfRow_48 : decode (mtC m_W_offerOfRow) 48 = .ok (.iload_n 2, 1) := by decide +kernel
theorem k_W_offerOfRow_49 : decode (mtC m_W_offerOfRow) 49 = .ok (.invokevirtual 143, 3) := by decide +kernel
theorem k_W_offerOfRow_52 : decode (mtC m_W_offerOfRow) 52 = .ok (.aload_n 0, 1) := by decide +kernel
theorem k_W_offerOfRow_53 : decode (mtC m_W_offerOfRow) 53 = .ok (.iload_n 1, 1) := by decide +kernel
theorem k_W_offerOfRow_54 : decode (mtC m_W_offerOfRow) 54 = .ok (.invokevirtual 103, 3) := by decide +kernel
theorem k_W_offerOfRow_57 : decode (mtC m_W_offerOfRow) 57 = .ok (.bipush 8, 2) := by decide +kernel
theorem k_W_offerOfRow_59 : decode (mtC m_W_offerOfRow) 59 = .ok (.imul, 1) := by decide +kernel
theorem k_W_offerOfRow_60 : decode (mtC m_W_offerOfRow) 60 = .ok (.iload_n 2, 1) := by decide +kernel
theorem k_W_offerOfRow_61 : decode (mtC m_W_offerOfRow) 61 = .ok (.iadd, 1) := by decide +kernel
theorem k_W_offerOfRow_62 : decode (mtC m_W_offerOfRow) 62 = .ok (.bipush 8, 2) := by decide +kernel
theorem k_W_offerOfRow_64 : decode (mtC m_W_offerOfRow) 64 = .ok (.imul, 1) := by decide +kernel
theorem k_W_offerOfRow_65 : decode (mtC m_W_offerOfRow) 65 = .ok (.invokestatic 63, 3) := by decide +kernel
theorem k_W_offerOfRow_68 : decode (mtC m_W_offerOfRow) 68 = .ok (.invokevirtual 67, 3) := by decide +kernel
theorem k_W_offerOfRow_71 : decode (mtC m_W_offerOfRow) 71 = .ok (.return_, 1) := by decide +kernel
set_option maxHeartbeats 4000000 in
set_option maxRecDepth 100000 in
theorem T_W_offerOfRow_0 {d : Nat} {i0 : Nat} {x1 : Int} {x2 : Int} {M : AMem} {Q : Option AV → AMem → Prop} (o0 : okH 2 i0 = true) (h : ((wI x1 < 0) → Q none M) ∧ (¬ (wI x1 < 0) → ((6 ≤ wI x1) → Q none M) ∧ (¬ (6 ≤ wI x1) → CallI d m_W_isMember [vI (M 2 i0 3), vI x1] M (fun y2 M1 => ((wI y2 = 0) → Q none M1) ∧ (¬ (wI y2 = 0) → (0 ≤ wI x1 ∧ wI x1 < (6 : Nat)) ∧ (((wI x2 < wI (M1 1 (6 * i0 + (wI x1).toNat) 1)) → (0 ≤ wI x1 ∧ wI x1 < (6 : Nat)) ∧ (CallI d m_R_numberAt [vR 1 (6 * i0 + (wI x1).toNat), vI x2] M1 (fun y6 M5 => CallI d m_W_rankOf [vR 2 i0, vI x1] M5 (fun y8 M7 => CallI d m_Q_keyOf [vI y6, vI (((y8 * 8) + x2) * 8)] M7 (fun y10 M9 => CallV d m_Q_push [vR 0 i0, vI y10] M9 (fun M11 => Q none M11)))))) ∧ (¬ (wI x2 < wI (M1 1 (6 * i0 + (wI x1).toNat) 1)) → Q none M1))))))) : RunQ (d + 1) m_W_offerOfRow 0 [some (vR 2 i0), some (vI x1), some (vI x2)] [] M Q := by
  refine q_iload_n 0 k_W_offerOfRow_0 rfl ?_
  refine q_if_lt 1 37 k_W_offerOfRow_1 rfl rfl (fun c1 => ?_) (fun c1 => ?_)
  · have ht := h.1 c1
    exact q_vret 37 k_W_offerOfRow_37 rfl ht
  · have hf := h.2 c1
    refine q_iload_n 4 k_W_offerOfRow_4 rfl ?_
    refine q_aload_n 5 k_W_offerOfRow_5 rfl ?_
    refine q_getfield 6 k_W_offerOfRow_6 fk_2_11 o0 (v := vR 6 i0) rfl ?_
    refine q_alen 9 k_W_offerOfRow_9 o0 rfl (z := 6) rfl ?_
    refine q_icmp_ge 10 37 k_W_offerOfRow_10 rfl rfl (fun c10 => ?_) (fun c10 => ?_)
    · have hft := hf.1 c10
      exact q_vret 37 k_W_offerOfRow_37 rfl hft
    · have hff := hf.2 c10
      refine q_aload_n 13 k_W_offerOfRow_13 rfl ?_
      refine q_getfield 14 k_W_offerOfRow_14 fk_2_41 o0 (v := vI (M 2 i0 3)) rfl ?_
      refine q_iload_n 17 k_W_offerOfRow_17 rfl ?_
      refine q_sI 18 [vI (M 2 i0 3), vI x1] [] k_W_offerOfRow_18 rfl lk_2_131 rfl rfl rfl rfl rfl rfl (CallI.mono (fun y2 M1 h13 => ?_) hff)
      refine q_if_eq 21 37 k_W_offerOfRow_21 rfl rfl (fun c21 => ?_) (fun c21 => ?_)
      · have h13t := h13.1 c21
        exact q_vret 37 k_W_offerOfRow_37 rfl h13t
      · have h13f := h13.2 c21
        refine q_iload_n 24 k_W_offerOfRow_24 rfl ?_
        refine q_aload_n 25 k_W_offerOfRow_25 rfl ?_
        refine q_getfield 26 k_W_offerOfRow_26 fk_2_11 o0 (v := vR 6 i0) rfl ?_
        refine q_iload_n 29 k_W_offerOfRow_29 rfl ?_
        have hb3 := h13f.1
        refine q_aaload 30 k_W_offerOfRow_30 o0 (n := 6) rfl hb3 (kd := 1) (x := (6 * i0 + (wI x1).toNat)) rfl ?_
        have h13f' := h13f.2
        refine q_getfield 31 k_W_offerOfRow_31 fk_2_136 (ok_r6 o0 hb3) (v := vI (M1 1 (6 * i0 + (wI x1).toNat) 1)) rfl ?_
        refine q_icmp_lt 34 38 k_W_offerOfRow_34 rfl rfl (fun c34 => ?_) (fun c34 => ?_)
        · have h13f't := h13f'.1 c34
          refine q_aload_n 38 k_W_offerOfRow_38 rfl ?_
          refine q_getfield 39 k_W_offerOfRow_39 fk_2_20 o0 (v := vR 0 i0) rfl ?_
          refine q_aload_n 42 k_W_offerOfRow_42 rfl ?_
          refine q_getfield 43 k_W_offerOfRow_43 fk_2_11 o0 (v := vR 6 i0) rfl ?_
          refine q_iload_n 46 k_W_offerOfRow_46 rfl ?_
          have hb4 := h13f't.1
          refine q_aaload 47 k_W_offerOfRow_47 o0 (n := 6) rfl hb4 (kd := 1) (x := (6 * i0 + (wI x1).toNat)) rfl ?_
          have h13f't' := h13f't.2
          refine q_iload_n 48 k_W_offerOfRow_48 rfl ?_
          refine q_vI 49 [vI x2] [vR 0 i0] k_W_offerOfRow_49 lk_2_143 rfl rfl rfl (ok_r6 o0 hb4) rfl rfl rfl rfl (CallI.mono (fun y6 M5 h14 => ?_) h13f't')
          refine q_aload_n 52 k_W_offerOfRow_52 rfl ?_
          refine q_iload_n 53 k_W_offerOfRow_53 rfl ?_
          refine q_vI 54 [vI x1] [vI y6, vR 0 i0] k_W_offerOfRow_54 lk_2_103 rfl rfl rfl o0 rfl rfl rfl rfl (CallI.mono (fun y8 M7 h15 => ?_) h14)
          refine q_bipush 57 k_W_offerOfRow_57 (by decide) ?_
          refine q_imul 59 k_W_offerOfRow_59 ?_
          refine q_iload_n 60 k_W_offerOfRow_60 rfl ?_
          refine q_iadd 61 k_W_offerOfRow_61 ?_
          refine q_bipush 62 k_W_offerOfRow_62 (by decide) ?_
          refine q_imul 64 k_W_offerOfRow_64 ?_
          refine q_sI 65 [vI y6, vI (((y8 * 8) + x2) * 8)] [vR 0 i0] k_W_offerOfRow_65 rfl lk_2_63 rfl rfl rfl rfl rfl rfl (CallI.mono (fun y10 M9 h16 => ?_) h15)
          refine q_vV 68 [vI y10] [] k_W_offerOfRow_68 lk_2_67 rfl rfl rfl o0 rfl rfl rfl rfl (CallV.mono (fun M11 h17 => ?_) h16)
          exact q_vret 71 k_W_offerOfRow_71 rfl h17
        · have h13f'f := h13f'.2 c34
          exact q_vret 37 k_W_offerOfRow_37 rfl h13f'f
theorem k_W_closeRow_0 : decode (mtC m_W_closeRow) 0 = .ok (.aload_n 0, 1) := by decide +kernel
theorem k_W_closeRow_1 : decode (mtC m_W_closeRow) 1 = .ok (.getfield 24, 3) := by decide +kernel
theorem k_W_closeRow_4 : decode (mtC m_W_closeRow) 4 = .ok (.iconst 3, 1) := by decide +kernel
theorem k_W_closeRow_5 : decode (mtC m_W_closeRow) 5 = .ok (.if_icmp .ne 16, 3) := by decide +kernel
theorem k_W_closeRow_8 : decode (mtC m_W_closeRow) 8 = .ok (.iload_n 1, 1) := by decide +kernel
theorem k_W_closeRow_9 : decode (mtC m_W_closeRow) 9 = .ok (.ifCond .lt 12, 3) := by decide +kernel
theorem k_W_closeRow_12 : decode (mtC m_W_closeRow) 12 = .ok (.iload_n 1, 1) := by decide +kernel
theorem k_W_closeRow_13 : decode (mtC m_W_closeRow) 13 = .ok (.aload_n 0, 1) := by decide +kernel
theorem k_W_closeRow_14 : decode (mtC m_W_closeRow) 14 = .ok (.getfield 11, 3) := by decide +kernel
theorem k_W_closeRow_17 : decode (mtC m_W_closeRow) 17 = .ok (.arraylength, 1) := by decide +kernel
theorem k_W_closeRow_18 : decode (mtC m_W_closeRow) 18 = .ok (.if_icmp .lt 6, 3) := by decide +kernel
theorem k_W_closeRow_21 : decode (mtC m_W_closeRow) 21 = .ok (.bipush (-9), 2) := by decide +kernel
theorem k_W_closeRow_23 : decode (mtC m_W_closeRow) 23 = .ok (.ireturn, 1) := by decide +kernel
theorem k_W_closeRow_24 : decode (mtC m_W_closeRow) 24 = .ok (.iconst 0, 1) := by decide +kernel
theorem k_W_closeRow_25 : decode (mtC m_W_closeRow) 25 = .ok (.istore_n 2, 1) := by decide +kernel
theorem k_W_closeRow_26 : decode (mtC m_W_closeRow) 26 = .ok (.iload_n 2, 1) := by decide +kernel
theorem k_W_closeRow_27 : decode (mtC m_W_closeRow) 27 = .ok (.aload_n 0, 1) := by decide +kernel
theorem k_W_closeRow_28 : decode (mtC m_W_closeRow) 28 = .ok (.getfield 11, 3) := by decide +kernel
theorem k_W_closeRow_31 : decode (mtC m_W_closeRow) 31 = .ok (.iload_n 1, 1) := by decide +kernel
theorem k_W_closeRow_32 : decode (mtC m_W_closeRow) 32 = .ok (.aaload, 1) := by decide +kernel
theorem k_W_closeRow_33 : decode (mtC m_W_closeRow) 33 = .ok (.getfield 136, 3) := by decide +kernel
theorem k_W_closeRow_36 : decode (mtC m_W_closeRow) 36 = .ok (.if_icmp .ge 58, 3) := by decide +kernel
theorem k_W_closeRow_39 : decode (mtC m_W_closeRow) 39 = .ok (.aload_n 0, 1) := by decide +kernel
theorem k_W_closeRow_40 : decode (mtC m_W_closeRow) 40 = .ok (.iload_n 1, 1) := by decide +kernel
theorem k_W_closeRow_41 : decode (mtC m_W_closeRow) 41 = .ok (.iload_n 2, 1) := by decide +kernel
theorem k_W_closeRow_42 : decode (mtC m_W_closeRow) 42 = .ok (.iconst 0, 1) := by decide +kernel
theorem k_W_closeRow_43 : decode (mtC m_W_closeRow) 43 = .ok (.invokevirtual 146, 3) := by decide +kernel
theorem k_W_closeRow_46 : decode (mtC m_W_closeRow) 46 = .ok (.istore_n 3, 1) := by decide +kernel
theorem k_W_closeRow_47 : decode (mtC m_W_closeRow) 47 = .ok (.aload_n 0, 1) := by decide +kernel
theorem k_W_closeRow_48 : decode (mtC m_W_closeRow) 48 = .ok (.getfield 20, 3) := by decide +kernel
theorem k_W_closeRow_51 : decode (mtC m_W_closeRow) 51 = .ok (.iload_n 3, 1) := by decide +kernel
theorem k_W_closeRow_52 : decode (mtC m_W_closeRow) 52 = .ok (.invokevirtual 149, 3) := by decide +kernel
theorem k_W_closeRow_55 : decode (mtC m_W_closeRow) 55 = .ok (.ifCond .eq 33, 3) := by decide +kernel
theorem k_W_closeRow_58 : decode (mtC m_W_closeRow) 58 = .ok (.aload_n 0, 1) := by decide +kernel
theorem k_W_closeRow_59 : decode (mtC m_W_closeRow) 59 = .ok (.getfield 20, 3) := by decide +kernel
theorem k_W_closeRow_62 : decode (mtC m_W_closeRow) 62 = .ok (.iload_n 3, 1) := by decide +kernel
theorem k_W_closeRow_63 : decode (mtC m_W_closeRow) 63 = .ok (.invokevirtual 153, 3) := by decide +kernel
theorem k_W_closeRow_66 : decode (mtC m_W_closeRow) 66 = .ok (.aload_n 0, 1) := by decide +kernel
theorem k_W_closeRow_67 : decode (mtC m_W_closeRow) 67 = .ok (.dup, 1) := by decide +kernel
theorem k_W_closeRow_68 : decode (mtC m_W_closeRow) 68 = .ok (.getfield 54, 3) := by decide +kernel
theorem k_W_closeRow_71 : decode (mtC m_W_closeRow) 71 = .ok (.iconst 1, 1) := by decide +kernel
theorem k_W_closeRow_72 : decode (mtC m_W_closeRow) 72 = .ok (.iadd, 1) := by decide +kernel
theorem k_W_closeRow_73 : decode (mtC m_W_closeRow) 73 = .ok (.putfield 54, 3) := by decide +kernel
theorem k_W_closeRow_76 : decode (mtC m_W_closeRow) 76 = .ok (.aload_n 0, 1) := by decide +kernel
theorem k_W_closeRow_77 : decode (mtC m_W_closeRow) 77 = .ok (.getfield 11, 3) := by decide +kernel
theorem k_W_closeRow_80 : decode (mtC m_W_closeRow) 80 = .ok (.iload_n 1, 1) := by decide +kernel
theorem k_W_closeRow_81 : decode (mtC m_W_closeRow) 81 = .ok (.aaload, 1) := by decide +kernel
theorem k_W_closeRow_82 : decode (mtC m_W_closeRow) 82 = .ok (.getfield 136, 3) := by decide +kernel
theorem k_W_closeRow_85 : decode (mtC m_W_closeRow) 85 = .ok (.iload_n 2, 1) := by decide +kernel
theorem k_W_closeRow_86 : decode (mtC m_W_closeRow) 86 = .ok (.isub, 1) := by decide +kernel
theorem k_W_closeRow_87 : decode (mtC m_W_closeRow) 87 = .ok (.ireturn, 1) := by decide +kernel
theorem k_W_closeRow_88 : decode (mtC m_W_closeRow) 88 = .ok (.iinc 2 1, 3) := by decide +kernel
theorem k_W_closeRow_91 : decode (mtC m_W_closeRow) 91 = .ok (.goto (-65), 3) := by decide +kernel
theorem k_W_closeRow_94 : decode (mtC m_W_closeRow) 94 = .ok (.bipush (-9), 2) := by decide +kernel
theorem k_W_closeRow_96 : decode (mtC m_W_closeRow) 96 = .ok (.ireturn, 1) := by decide +kernel
set_option maxHeartbeats 4000000 in
set_option maxRecDepth 100000 in
theorem T_W_closeRow_0 {d : Nat} {i0 : Nat} {x1 : Int} {M : AMem} {Q : Option AV → AMem → Prop} (o0 : okH 2 i0 = true) (h : ((¬ wI (M 2 i0 2) = 3) → Q (some (vI (-9))) M) ∧ (¬ (¬ wI (M 2 i0 2) = 3) → ((wI x1 < 0) → Q (some (vI (-9))) M) ∧ (¬ (wI x1 < 0) → ((wI x1 < 6) → RunQ (d + 1) m_W_closeRow 26 [some (vR 2 i0), some (vI x1), some (vI 0), none] [] M Q) ∧ (¬ (wI x1 < 6) → Q (some (vI (-9))) M)))) : RunQ (d + 1) m_W_closeRow 0 [some (vR 2 i0), some (vI x1), none, none] [] M Q := by
  refine q_aload_n 0 k_W_closeRow_0 rfl ?_
  refine q_getfield 1 k_W_closeRow_1 fk_2_24 o0 (v := vI (M 2 i0 2)) rfl ?_
  refine q_iconst 4 k_W_closeRow_4 ?_
  refine q_icmp_ne 5 21 k_W_closeRow_5 rfl rfl (fun c5 => ?_) (fun c5 => ?_)
  · have ht := h.1 c5
    refine q_bipush 21 k_W_closeRow_21 (by decide) ?_
    exact q_iret 23 k_W_closeRow_23 rfl ht
  · have hf := h.2 c5
    refine q_iload_n 8 k_W_closeRow_8 rfl ?_
    refine q_if_lt 9 21 k_W_closeRow_9 rfl rfl (fun c9 => ?_) (fun c9 => ?_)
    · have hft := hf.1 c9
      refine q_bipush 21 k_W_closeRow_21 (by decide) ?_
      exact q_iret 23 k_W_closeRow_23 rfl hft
    · have hff := hf.2 c9
      refine q_iload_n 12 k_W_closeRow_12 rfl ?_
      refine q_aload_n 13 k_W_closeRow_13 rfl ?_
      refine q_getfield 14 k_W_closeRow_14 fk_2_11 o0 (v := vR 6 i0) rfl ?_
      refine q_alen 17 k_W_closeRow_17 o0 rfl (z := 6) rfl ?_
      refine q_icmp_lt 18 24 k_W_closeRow_18 rfl rfl (fun c18 => ?_) (fun c18 => ?_)
      · have hfft := hff.1 c18
        refine q_iconst 24 k_W_closeRow_24 ?_
        refine q_istore_n 25 k_W_closeRow_25 (ls' := [some (vR 2 i0), some (vI x1), some (vI 0), none]) rfl rfl ?_
        exact hfft
      · have hfff := hff.2 c18
        refine q_bipush 21 k_W_closeRow_21 (by decide) ?_
        exact q_iret 23 k_W_closeRow_23 rfl hfff
set_option maxHeartbeats 4000000 in
set_option maxRecDepth 100000 in
theorem T_W_closeRow_26 {d : Nat} {i0 : Nat} {x1 : Int} {x2 : Int} {M : AMem} {Q : Option AV → AMem → Prop} (o0 : okH 2 i0 = true) (h : (0 ≤ wI x1 ∧ wI x1 < (6 : Nat)) ∧ (((wI (M 1 (6 * i0 + (wI x1).toNat) 1) ≤ wI x2) → Q (some (vI (-9))) M) ∧ (¬ (wI (M 1 (6 * i0 + (wI x1).toNat) 1) ≤ wI x2) → CallI d m_W_tagAt [vR 2 i0, vI x1, vI x2, vI 0] M (fun y3 M2 => CallI d m_Q_holds [vR 0 i0, vI y3] M2 (fun y5 M4 => ((wI y5 = 0) → RunQ (d + 1) m_W_closeRow 26 [some (vR 2 i0), some (vI x1), some (vI (x2 + 1)), some (vI y3)] [] M4 Q) ∧ (¬ (wI y5 = 0) → CallV d m_Q_remove [vR 0 i0, vI y3] M4 (fun M6 => (0 ≤ wI x1 ∧ wI x1 < (6 : Nat)) ∧ (Q (some (vI ((M6 1 (6 * i0 + (wI x1).toNat) 1) - x2))) (aup M6 2 i0 5 ((M6 2 i0 5) + 1)))))))))) : RunQ (d + 1) m_W_closeRow 26 [some (vR 2 i0), some (vI x1), some (vI x2), none] [] M Q := by
  refine q_iload_n 26 k_W_closeRow_26 rfl ?_
  refine q_aload_n 27 k_W_closeRow_27 rfl ?_
  refine q_getfield 28 k_W_closeRow_28 fk_2_11 o0 (v := vR 6 i0) rfl ?_
  refine q_iload_n 31 k_W_closeRow_31 rfl ?_
  have hb1 := h.1
  refine q_aaload 32 k_W_closeRow_32 o0 (n := 6) rfl hb1 (kd := 1) (x := (6 * i0 + (wI x1).toNat)) rfl ?_
  have h' := h.2
  refine q_getfield 33 k_W_closeRow_33 fk_2_136 (ok_r6 o0 hb1) (v := vI (M 1 (6 * i0 + (wI x1).toNat) 1)) rfl ?_
  refine q_icmp_ge 36 94 k_W_closeRow_36 rfl rfl (fun c36 => ?_) (fun c36 => ?_)
  · have h't := h'.1 c36
    refine q_bipush 94 k_W_closeRow_94 (by decide) ?_
    exact q_iret 96 k_W_closeRow_96 rfl h't
  · have h'f := h'.2 c36
    refine q_aload_n 39 k_W_closeRow_39 rfl ?_
    refine q_iload_n 40 k_W_closeRow_40 rfl ?_
    refine q_iload_n 41 k_W_closeRow_41 rfl ?_
    refine q_iconst 42 k_W_closeRow_42 ?_
    refine q_vI 43 [vI x1, vI x2, vI 0] [] k_W_closeRow_43 lk_2_146 rfl rfl rfl o0 rfl rfl rfl rfl (CallI.mono (fun y3 M2 h9 => ?_) h'f)
    refine q_istore_n 46 k_W_closeRow_46 (ls' := [some (vR 2 i0), some (vI x1), some (vI x2), some (vI y3)]) rfl rfl ?_
    refine q_aload_n 47 k_W_closeRow_47 rfl ?_
    refine q_getfield 48 k_W_closeRow_48 fk_2_20 o0 (v := vR 0 i0) rfl ?_
    refine q_iload_n 51 k_W_closeRow_51 rfl ?_
    refine q_vI 52 [vI y3] [] k_W_closeRow_52 lk_2_149 rfl rfl rfl o0 rfl rfl rfl rfl (CallI.mono (fun y5 M4 h10 => ?_) h9)
    refine q_if_eq 55 88 k_W_closeRow_55 rfl rfl (fun c55 => ?_) (fun c55 => ?_)
    · have h10t := h10.1 c55
      refine q_iinc 88 k_W_closeRow_88 (ls' := [some (vR 2 i0), some (vI x1), some (vI (x2 + 1)), some (vI y3)]) rfl rfl rfl ?_
      refine q_goto 91 26 k_W_closeRow_91 rfl rfl ?_
      exact h10t
    · have h10f := h10.2 c55
      refine q_aload_n 58 k_W_closeRow_58 rfl ?_
      refine q_getfield 59 k_W_closeRow_59 fk_2_20 o0 (v := vR 0 i0) rfl ?_
      refine q_iload_n 62 k_W_closeRow_62 rfl ?_
      refine q_vV 63 [vI y3] [] k_W_closeRow_63 lk_2_153 rfl rfl rfl o0 rfl rfl rfl rfl (CallV.mono (fun M6 h11 => ?_) h10f)
      refine q_aload_n 66 k_W_closeRow_66 rfl ?_
      refine q_dup 67 k_W_closeRow_67 rfl ?_
      refine q_getfield 68 k_W_closeRow_68 fk_2_54 o0 (v := vI (M6 2 i0 5)) rfl ?_
      refine q_iconst 71 k_W_closeRow_71 ?_
      refine q_iadd 72 k_W_closeRow_72 ?_
      refine q_putfield 73 k_W_closeRow_73 fk_2_54 o0 rfl (fun z => absurd z (by decide)) ?_
      refine q_aload_n 76 k_W_closeRow_76 rfl ?_
      refine q_getfield 77 k_W_closeRow_77 fk_2_11 o0 (v := vR 6 i0) rfl ?_
      refine q_iload_n 80 k_W_closeRow_80 rfl ?_
      have hb8 := h11.1
      refine q_aaload 81 k_W_closeRow_81 o0 (n := 6) rfl hb8 (kd := 1) (x := (6 * i0 + (wI x1).toNat)) rfl ?_
      have h11' := h11.2
      refine q_getfield 82 k_W_closeRow_82 fk_2_136 (ok_r6 o0 hb8) (v := vI (M6 1 (6 * i0 + (wI x1).toNat) 1)) (by simp [fval, aup]) ?_
      refine q_iload_n 85 k_W_closeRow_85 rfl ?_
      refine q_isub 86 k_W_closeRow_86 ?_
      exact q_iret 87 k_W_closeRow_87 rfl h11'
theorem k_W_isEmpty_0 : decode (mtC m_W_isEmpty) 0 = .ok (.aload_n 0, 1) := by decide +kernel
theorem k_W_isEmpty_1 : decode (mtC m_W_isEmpty) 1 = .ok (.getfield 24, 3) := by decide +kernel
theorem k_W_isEmpty_4 : decode (mtC m_W_isEmpty) 4 = .ok (.iconst (-1), 1) := by decide +kernel
theorem k_W_isEmpty_5 : decode (mtC m_W_isEmpty) 5 = .ok (.if_icmp .ne 7, 3) := by decide +kernel
theorem k_W_isEmpty_8 : decode (mtC m_W_isEmpty) 8 = .ok (.iconst 1, 1) := by decide +kernel
theorem k_W_isEmpty_9 : decode (mtC m_W_isEmpty) 9 = .ok (.goto 4, 3) := by decide +kernel
theorem k_W_isEmpty_12 : decode (mtC m_W_isEmpty) 12 = .ok (.iconst 0, 1) := by decide +kernel
theorem k_W_isEmpty_13 : decode (mtC m_W_isEmpty) 13 = .ok (.ireturn, 1) := by decide +kernel
set_option maxHeartbeats 4000000 in
set_option maxRecDepth 100000 in
theorem T_W_isEmpty_0 {d : Nat} {i0 : Nat} {M : AMem} {Q : Option AV → AMem → Prop} (o0 : okH 2 i0 = true) (h : ((¬ wI (M 2 i0 2) = (-1)) → Q (some (vI 0)) M) ∧ (¬ (¬ wI (M 2 i0 2) = (-1)) → Q (some (vI 1)) M)) : RunQ d m_W_isEmpty 0 [some (vR 2 i0)] [] M Q := by
  refine q_aload_n 0 k_W_isEmpty_0 rfl ?_
  refine q_getfield 1 k_W_isEmpty_1 fk_2_24 o0 (v := vI (M 2 i0 2)) rfl ?_
  refine q_iconst 4 k_W_isEmpty_4 ?_
  refine q_icmp_ne 5 12 k_W_isEmpty_5 rfl rfl (fun c5 => ?_) (fun c5 => ?_)
  · have ht := h.1 c5
    refine q_iconst 12 k_W_isEmpty_12 ?_
    exact q_zret 13 k_W_isEmpty_13 rfl (Or.inl rfl) ht
  · have hf := h.2 c5
    refine q_iconst 8 k_W_isEmpty_8 ?_
    refine q_goto 9 13 k_W_isEmpty_9 rfl rfl ?_
    exact q_zret 13 k_W_isEmpty_13 rfl (Or.inr rfl) hf
theorem k_W_isDry_0 : decode (mtC m_W_isDry) 0 = .ok (.aload_n 0, 1) := by decide +kernel
theorem k_W_isDry_1 : decode (mtC m_W_isDry) 1 = .ok (.getfield 57, 3) := by decide +kernel
theorem k_W_isDry_4 : decode (mtC m_W_isDry) 4 = .ok (.bipush 100, 2) := by decide +kernel
theorem k_W_isDry_6 : decode (mtC m_W_isDry) 6 = .ok (.if_icmp .ge 21, 3) := by decide +kernel
theorem k_W_isDry_9 : decode (mtC m_W_isDry) 9 = .ok (.aload_n 0, 1) := by decide +kernel
theorem k_W_isDry_10 : decode (mtC m_W_isDry) 10 = .ok (.getfield 24, 3) := by decide +kernel
theorem k_W_isDry_13 : decode (mtC m_W_isDry) 13 = .ok (.iconst 5, 1) := by decide +kernel
theorem k_W_isDry_14 : decode (mtC m_W_isDry) 14 = .ok (.if_icmp .eq 17, 3) := by decide +kernel
theorem k_W_isDry_17 : decode (mtC m_W_isDry) 17 = .ok (.aload_n 0, 1) := by decide +kernel
theorem k_W_isDry_18 : decode (mtC m_W_isDry) 18 = .ok (.getfield 20, 3) := by decide +kernel
theorem k_W_isDry_21 : decode (mtC m_W_isDry) 21 = .ok (.getfield 51, 3) := by decide +kernel
theorem k_W_isDry_24 : decode (mtC m_W_isDry) 24 = .ok (.ifCond .ne 7, 3) := by decide +kernel
theorem k_W_isDry_27 : decode (mtC m_W_isDry) 27 = .ok (.iconst 1, 1) := by decide +kernel
theorem k_W_isDry_28 : decode (mtC m_W_isDry) 28 = .ok (.goto 4, 3) := by decide +kernel
theorem k_W_isDry_31 : decode (mtC m_W_isDry) 31 = .ok (.iconst 0, 1) := by decide +kernel
theorem k_W_isDry_32 : decode (mtC m_W_isDry) 32 = .ok (.ireturn, 1) := by decide +kernel
set_option maxHeartbeats 4000000 in
set_option maxRecDepth 100000 in
theorem T_W_isDry_0 {d : Nat} {i0 : Nat} {M : AMem} {Q : Option AV → AMem → Prop} (o0 : okH 2 i0 = true) (h : ((100 ≤ wI (M 2 i0 6)) → Q (some (vI 1)) M) ∧ (¬ (100 ≤ wI (M 2 i0 6)) → ((wI (M 2 i0 2) = 5) → Q (some (vI 0)) M) ∧ (¬ (wI (M 2 i0 2) = 5) → ((¬ wI (M 0 i0 1) = 0) → Q (some (vI 0)) M) ∧ (¬ (¬ wI (M 0 i0 1) = 0) → Q (some (vI 1)) M)))) : RunQ d m_W_isDry 0 [some (vR 2 i0)] [] M Q := by
  refine q_aload_n 0 k_W_isDry_0 rfl ?_
  refine q_getfield 1 k_W_isDry_1 fk_2_57 o0 (v := vI (M 2 i0 6)) rfl ?_
  refine q_bipush 4 k_W_isDry_4 (by decide) ?_
  refine q_icmp_ge 6 27 k_W_isDry_6 rfl rfl (fun c6 => ?_) (fun c6 => ?_)
  · have ht := h.1 c6
    refine q_iconst 27 k_W_isDry_27 ?_
    refine q_goto 28 32 k_W_isDry_28 rfl rfl ?_
    exact q_zret 32 k_W_isDry_32 rfl (Or.inr rfl) ht
  · have hf := h.2 c6
    refine q_aload_n 9 k_W_isDry_9 rfl ?_
    refine q_getfield 10 k_W_isDry_10 fk_2_24 o0 (v := vI (M 2 i0 2)) rfl ?_
    refine q_iconst 13 k_W_isDry_13 ?_
    refine q_icmp_eq 14 31 k_W_isDry_14 rfl rfl (fun c14 => ?_) (fun c14 => ?_)
    · have hft := hf.1 c14
      refine q_iconst 31 k_W_isDry_31 ?_
      exact q_zret 32 k_W_isDry_32 rfl (Or.inl rfl) hft
    · have hff := hf.2 c14
      refine q_aload_n 17 k_W_isDry_17 rfl ?_
      refine q_getfield 18 k_W_isDry_18 fk_2_20 o0 (v := vR 0 i0) rfl ?_
      refine q_getfield 21 k_W_isDry_21 fk_2_51 o0 (v := vI (M 0 i0 1)) rfl ?_
      refine q_if_ne 24 31 k_W_isDry_24 rfl rfl (fun c24 => ?_) (fun c24 => ?_)
      · have hfft := hff.1 c24
        refine q_iconst 31 k_W_isDry_31 ?_
        exact q_zret 32 k_W_isDry_32 rfl (Or.inl rfl) hfft
      · have hfff := hff.2 c24
        refine q_iconst 27 k_W_isDry_27 ?_
        refine q_goto 28 32 k_W_isDry_28 rfl rfl ?_
        exact q_zret 32 k_W_isDry_32 rfl (Or.inr rfl) hfff
theorem k_W_nextNumber_0 : decode (mtC m_W_nextNumber) 0 = .ok (.aload_n 0, 1) := by decide +kernel
theorem k_W_nextNumber_1 : decode (mtC m_W_nextNumber) 1 = .ok (.getfield 24, 3) := by decide +kernel
theorem k_W_nextNumber_4 : decode (mtC m_W_nextNumber) 4 = .ok (.iconst 5, 1) := by decide +kernel
theorem k_W_nextNumber_5 : decode (mtC m_W_nextNumber) 5 = .ok (.if_icmp .eq 11, 3) := by decide +kernel
theorem k_W_nextNumber_8 : decode (mtC m_W_nextNumber) 8 = .ok (.aload_n 0, 1) := by decide +kernel
theorem k_W_nextNumber_9 : decode (mtC m_W_nextNumber) 9 = .ok (.getfield 20, 3) := by decide +kernel
theorem k_W_nextNumber_12 : decode (mtC m_W_nextNumber) 12 = .ok (.invokevirtual 119, 3) := by decide +kernel
theorem k_W_nextNumber_15 : decode (mtC m_W_nextNumber) 15 = .ok (.ireturn, 1) := by decide +kernel
theorem k_W_nextNumber_16 : decode (mtC m_W_nextNumber) 16 = .ok (.aload_n 0, 1) := by decide +kernel
theorem k_W_nextNumber_17 : decode (mtC m_W_nextNumber) 17 = .ok (.getfield 60, 3) := by decide +kernel
theorem k_W_nextNumber_20 : decode (mtC m_W_nextNumber) 20 = .ok (.invokestatic 89, 3) := by decide +kernel
theorem k_W_nextNumber_23 : decode (mtC m_W_nextNumber) 23 = .ok (.iconst 1, 1) := by decide +kernel
theorem k_W_nextNumber_24 : decode (mtC m_W_nextNumber) 24 = .ok (.iadd, 1) := by decide +kernel
theorem k_W_nextNumber_25 : decode (mtC m_W_nextNumber) 25 = .ok (.istore_n 1, 1) := by decide +kernel
theorem k_W_nextNumber_26 : decode (mtC m_W_nextNumber) 26 = .ok (.iload_n 1, 1) := by decide +kernel
theorem k_W_nextNumber_27 : decode (mtC m_W_nextNumber) 27 = .ok (.sipush 600, 3) := by decide +kernel
theorem k_W_nextNumber_30 : decode (mtC m_W_nextNumber) 30 = .ok (.if_icmp .gt 18, 3) := by decide +kernel
theorem k_W_nextNumber_33 : decode (mtC m_W_nextNumber) 33 = .ok (.iload_n 1, 1) := by decide +kernel
theorem k_W_nextNumber_34 : decode (mtC m_W_nextNumber) 34 = .ok (.invokestatic 156, 3) := by decide +kernel
theorem k_W_nextNumber_37 : decode (mtC m_W_nextNumber) 37 = .ok (.ifCond .eq 5, 3) := by decide +kernel
theorem k_W_nextNumber_40 : decode (mtC m_W_nextNumber) 40 = .ok (.iload_n 1, 1) := by decide +kernel
theorem k_W_nextNumber_41 : decode (mtC m_W_nextNumber) 41 = .ok (.ireturn, 1) := by decide +kernel
theorem k_W_nextNumber_42 : decode (mtC m_W_nextNumber) 42 = .ok (.iinc 1 1, 3) := by decide +kernel
theorem k_W_nextNumber_45 : decode (mtC m_W_nextNumber) 45 = .ok (.goto (-19), 3) := by decide +kernel
theorem k_W_nextNumber_48 : decode (mtC m_W_nextNumber) 48 = .ok (.iconst (-1), 1) := by decide +kernel
theorem k_W_nextNumber_49 : decode (mtC m_W_nextNumber) 49 = .ok (.ireturn, 1) := by decide +kernel
set_option maxHeartbeats 4000000 in
set_option maxRecDepth 100000 in
theorem T_W_nextNumber_0 {d : Nat} {i0 : Nat} {M : AMem} {Q : Option AV → AMem → Prop} (o0 : okH 2 i0 = true) (h : ((wI (M 2 i0 2) = 5) → CallI d m_Q_numberOf [vI (M 2 i0 7)] M (fun y2 M1 => RunQ (d + 1) m_W_nextNumber 26 [some (vR 2 i0), some (vI (y2 + 1))] [] M1 Q)) ∧ (¬ (wI (M 2 i0 2) = 5) → CallI d m_Q_firstNumber [vR 0 i0] M (fun y4 M3 => Q (some (vI y4)) M3))) : RunQ (d + 1) m_W_nextNumber 0 [some (vR 2 i0), none] [] M Q := by
  refine q_aload_n 0 k_W_nextNumber_0 rfl ?_
  refine q_getfield 1 k_W_nextNumber_1 fk_2_24 o0 (v := vI (M 2 i0 2)) rfl ?_
  refine q_iconst 4 k_W_nextNumber_4 ?_
  refine q_icmp_eq 5 16 k_W_nextNumber_5 rfl rfl (fun c5 => ?_) (fun c5 => ?_)
  · have ht := h.1 c5
    refine q_aload_n 16 k_W_nextNumber_16 rfl ?_
    refine q_getfield 17 k_W_nextNumber_17 fk_2_60 o0 (v := vI (M 2 i0 7)) rfl ?_
    refine q_sI 20 [vI (M 2 i0 7)] [] k_W_nextNumber_20 rfl lk_2_89 rfl rfl rfl rfl rfl rfl (CallI.mono (fun y2 M1 h5 => ?_) ht)
    refine q_iconst 23 k_W_nextNumber_23 ?_
    refine q_iadd 24 k_W_nextNumber_24 ?_
    refine q_istore_n 25 k_W_nextNumber_25 (ls' := [some (vR 2 i0), some (vI (y2 + 1))]) rfl rfl ?_
    exact h5
  · have hf := h.2 c5
    refine q_aload_n 8 k_W_nextNumber_8 rfl ?_
    refine q_getfield 9 k_W_nextNumber_9 fk_2_20 o0 (v := vR 0 i0) rfl ?_
    refine q_vI 12 [] [] k_W_nextNumber_12 lk_2_119 rfl rfl rfl o0 rfl rfl rfl rfl (CallI.mono (fun y4 M3 h6 => ?_) hf)
    exact q_iret 15 k_W_nextNumber_15 rfl h6
set_option maxHeartbeats 4000000 in
set_option maxRecDepth 100000 in
theorem T_W_nextNumber_26 {d : Nat} {i0 : Nat} {x1 : Int} {M : AMem} {Q : Option AV → AMem → Prop} (o0 : okH 2 i0 = true) (h : ((600 < wI x1) → Q (some (vI (-1))) M) ∧ (¬ (600 < wI x1) → CallI d m_W_isPrime [vI x1] M (fun y2 M1 => ((wI y2 = 0) → RunQ (d + 1) m_W_nextNumber 26 [some (vR 2 i0), some (vI (x1 + 1))] [] M1 Q) ∧ (¬ (wI y2 = 0) → Q (some (vI x1)) M1)))) : RunQ (d + 1) m_W_nextNumber 26 [some (vR 2 i0), some (vI x1)] [] M Q := by
  refine q_iload_n 26 k_W_nextNumber_26 rfl ?_
  refine q_sipush 27 k_W_nextNumber_27 (by decide) ?_
  refine q_icmp_gt 30 48 k_W_nextNumber_30 rfl rfl (fun c30 => ?_) (fun c30 => ?_)
  · have ht := h.1 c30
    refine q_iconst 48 k_W_nextNumber_48 ?_
    exact q_iret 49 k_W_nextNumber_49 rfl ht
  · have hf := h.2 c30
    refine q_iload_n 33 k_W_nextNumber_33 rfl ?_
    refine q_sI 34 [vI x1] [] k_W_nextNumber_34 rfl lk_2_156 rfl rfl rfl rfl rfl rfl (CallI.mono (fun y2 M1 h3 => ?_) hf)
    refine q_if_eq 37 42 k_W_nextNumber_37 rfl rfl (fun c37 => ?_) (fun c37 => ?_)
    · have h3t := h3.1 c37
      refine q_iinc 42 k_W_nextNumber_42 (ls' := [some (vR 2 i0), some (vI (x1 + 1))]) rfl rfl rfl ?_
      refine q_goto 45 26 k_W_nextNumber_45 rfl rfl ?_
      exact h3t
    · have h3f := h3.2 c37
      refine q_iload_n 40 k_W_nextNumber_40 rfl ?_
      exact q_iret 41 k_W_nextNumber_41 rfl h3f
theorem k_W_numberBehind_0 : decode (mtC m_W_numberBehind) 0 = .ok (.aload_n 0, 1) := by decide +kernel
theorem k_W_numberBehind_1 : decode (mtC m_W_numberBehind) 1 = .ok (.ldc 118, 2) := by decide +kernel
theorem k_W_numberBehind_3 : decode (mtC m_W_numberBehind) 3 = .ok (.iload_n 1, 1) := by decide +kernel
theorem k_W_numberBehind_4 : decode (mtC m_W_numberBehind) 4 = .ok (.invokevirtual 159, 3) := by decide +kernel
theorem k_W_numberBehind_7 : decode (mtC m_W_numberBehind) 7 = .ok (.pop, 1) := by decide +kernel
theorem k_W_numberBehind_8 : decode (mtC m_W_numberBehind) 8 = .ok (.aload_n 0, 1) := by decide +kernel
theorem k_W_numberBehind_9 : decode (mtC m_W_numberBehind) 9 = .ok (.invokevirtual 109, 3) := by decide +kernel
theorem k_W_numberBehind_12 : decode (mtC m_W_numberBehind) 12 = .ok (.ifCond .eq 7, 3) := by decide +kernel
theorem k_W_numberBehind_15 : decode (mtC m_W_numberBehind) 15 = .ok (.iconst (-1), 1) := by decide +kernel
theorem k_W_numberBehind_16 : decode (mtC m_W_numberBehind) 16 = .ok (.goto 7, 3) := by decide +kernel
theorem k_W_numberBehind_19 : decode (mtC m_W_numberBehind) 19 = .ok (.aload_n 0, 1) := by decide +kernel
theorem k_W_numberBehind_20 : decode (mtC m_W_numberBehind) 20 = .ok (.invokevirtual 112, 3) := by decide +kernel
theorem k_W_numberBehind_23 : decode (mtC m_W_numberBehind) 23 = .ok (.ireturn, 1) := by decide +kernel
set_option maxHeartbeats 4000000 in
set_option maxRecDepth 100000 in
theorem T_W_numberBehind_0 {d : Nat} {i0 : Nat} {x1 : Int} {M : AMem} {Q : Option AV → AMem → Prop} (o0 : okH 2 i0 = true) (h : CallI d m_W_tellBelow [vR 2 i0, vI 1000000, vI x1] M (fun y2 M1 => CallI d m_W_isDry [vR 2 i0] M1 (fun y4 M3 => ((wI y4 = 0) → CallI d m_W_nextNumber [vR 2 i0] M3 (fun y6 M5 => Q (some (vI y6)) M5)) ∧ (¬ (wI y4 = 0) → Q (some (vI (-1))) M3)))) : RunQ (d + 1) m_W_numberBehind 0 [some (vR 2 i0), some (vI x1)] [] M Q := by
  refine q_aload_n 0 k_W_numberBehind_0 rfl ?_
  refine q_ldc 1 k_W_numberBehind_1 ck_2_118 ?_
  refine q_iload_n 3 k_W_numberBehind_3 rfl ?_
  refine q_vI 4 [vI 1000000, vI x1] [] k_W_numberBehind_4 lk_2_159 rfl rfl rfl o0 rfl rfl rfl rfl (CallI.mono (fun y2 M1 h7 => ?_) h)
  refine q_pop 7 k_W_numberBehind_7 rfl ?_
  refine q_aload_n 8 k_W_numberBehind_8 rfl ?_
  refine q_vI 9 [] [] k_W_numberBehind_9 lk_2_109 rfl rfl rfl o0 rfl rfl rfl rfl (CallI.mono (fun y4 M3 h8 => ?_) h7)
  refine q_if_eq 12 19 k_W_numberBehind_12 rfl rfl (fun c12 => ?_) (fun c12 => ?_)
  · have h8t := h8.1 c12
    refine q_aload_n 19 k_W_numberBehind_19 rfl ?_
    refine q_vI 20 [] [] k_W_numberBehind_20 lk_2_112 rfl rfl rfl o0 rfl rfl rfl rfl (CallI.mono (fun y6 M5 h9 => ?_) h8t)
    exact q_iret 23 k_W_numberBehind_23 rfl h9
  · have h8f := h8.2 c12
    refine q_iconst 15 k_W_numberBehind_15 ?_
    refine q_goto 16 23 k_W_numberBehind_16 rfl rfl ?_
    exact q_iret 23 k_W_numberBehind_23 rfl h8f
theorem k_W_lastNumber_0 : decode (mtC m_W_lastNumber) 0 = .ok (.aload_n 0, 1) := by decide +kernel
theorem k_W_lastNumber_1 : decode (mtC m_W_lastNumber) 1 = .ok (.getfield 57, 3) := by decide +kernel
theorem k_W_lastNumber_4 : decode (mtC m_W_lastNumber) 4 = .ok (.ifCond .ne 7, 3) := by decide +kernel
theorem k_W_lastNumber_7 : decode (mtC m_W_lastNumber) 7 = .ok (.iconst (-1), 1) := by decide +kernel
theorem k_W_lastNumber_8 : decode (mtC m_W_lastNumber) 8 = .ok (.goto 10, 3) := by decide +kernel
theorem k_W_lastNumber_11 : decode (mtC m_W_lastNumber) 11 = .ok (.aload_n 0, 1) := by decide +kernel
theorem k_W_lastNumber_12 : decode (mtC m_W_lastNumber) 12 = .ok (.getfield 60, 3) := by decide +kernel
theorem k_W_lastNumber_15 : decode (mtC m_W_lastNumber) 15 = .ok (.invokestatic 89, 3) := by decide +kernel
theorem k_W_lastNumber_18 : decode (mtC m_W_lastNumber) 18 = .ok (.ireturn, 1) := by decide +kernel
set_option maxHeartbeats 4000000 in
set_option maxRecDepth 100000 in
theorem T_W_lastNumber_0 {d : Nat} {i0 : Nat} {M : AMem} {Q : Option AV → AMem → Prop} (o0 : okH 2 i0 = true) (h : ((¬ wI (M 2 i0 6) = 0) → CallI d m_Q_numberOf [vI (M 2 i0 7)] M (fun y2 M1 => Q (some (vI y2)) M1)) ∧ (¬ (¬ wI (M 2 i0 6) = 0) → Q (some (vI (-1))) M)) : RunQ (d + 1) m_W_lastNumber 0 [some (vR 2 i0)] [] M Q := by
  refine q_aload_n 0 k_W_lastNumber_0 rfl ?_
  refine q_getfield 1 k_W_lastNumber_1 fk_2_57 o0 (v := vI (M 2 i0 6)) rfl ?_
  refine q_if_ne 4 11 k_W_lastNumber_4 rfl rfl (fun c4 => ?_) (fun c4 => ?_)
  · have ht := h.1 c4
    refine q_aload_n 11 k_W_lastNumber_11 rfl ?_
    refine q_getfield 12 k_W_lastNumber_12 fk_2_60 o0 (v := vI (M 2 i0 7)) rfl ?_
    refine q_sI 15 [vI (M 2 i0 7)] [] k_W_lastNumber_15 rfl lk_2_89 rfl rfl rfl rfl rfl rfl (CallI.mono (fun y2 M1 h3 => ?_) ht)
    exact q_iret 18 k_W_lastNumber_18 rfl h3
  · have hf := h.2 c4
    refine q_iconst 7 k_W_lastNumber_7 ?_
    refine q_goto 8 18 k_W_lastNumber_8 rfl rfl ?_
    exact q_iret 18 k_W_lastNumber_18 rfl hf
theorem k_W_lastPlace_0 : decode (mtC m_W_lastPlace) 0 = .ok (.aload_n 0, 1) := by decide +kernel
theorem k_W_lastPlace_1 : decode (mtC m_W_lastPlace) 1 = .ok (.getfield 57, 3) := by decide +kernel
theorem k_W_lastPlace_4 : decode (mtC m_W_lastPlace) 4 = .ok (.ifCond .eq 23, 3) := by decide +kernel
theorem k_W_lastPlace_7 : decode (mtC m_W_lastPlace) 7 = .ok (.aload_n 0, 1) := by decide +kernel
theorem k_W_lastPlace_8 : decode (mtC m_W_lastPlace) 8 = .ok (.invokevirtual 162, 3) := by decide +kernel
theorem k_W_lastPlace_11 : decode (mtC m_W_lastPlace) 11 = .ok (.ifCond .eq 16, 3) := by decide +kernel
theorem k_W_lastPlace_14 : decode (mtC m_W_lastPlace) 14 = .ok (.iload_n 1, 1) := by decide +kernel
theorem k_W_lastPlace_15 : decode (mtC m_W_lastPlace) 15 = .ok (.iconst 3, 1) := by decide +kernel
theorem k_W_lastPlace_16 : decode (mtC m_W_lastPlace) 16 = .ok (.if_icmp .ne 13, 3) := by decide +kernel
theorem k_W_lastPlace_19 : decode (mtC m_W_lastPlace) 19 = .ok (.aload_n 0, 1) := by decide +kernel
theorem k_W_lastPlace_20 : decode (mtC m_W_lastPlace) 20 = .ok (.getfield 24, 3) := by decide +kernel
theorem k_W_lastPlace_23 : decode (mtC m_W_lastPlace) 23 = .ok (.iconst 2, 1) := by decide +kernel
theorem k_W_lastPlace_24 : decode (mtC m_W_lastPlace) 24 = .ok (.if_icmp .eq 5, 3) := by decide +kernel
theorem k_W_lastPlace_27 : decode (mtC m_W_lastPlace) 27 = .ok (.iconst (-1), 1) := by decide +kernel
theorem k_W_lastPlace_28 : decode (mtC m_W_lastPlace) 28 = .ok (.ireturn, 1) := by decide +kernel
theorem k_W_lastPlace_29 : decode (mtC m_W_lastPlace) 29 = .ok (.aload_n 0, 1) := by decide +kernel
theorem k_W_lastPlace_30 : decode (mtC m_W_lastPlace) 30 = .ok (.getfield 60, 3) := by decide +kernel
theorem k_W_lastPlace_33 : decode (mtC m_W_lastPlace) 33 = .ok (.invokestatic 97, 3) := by decide +kernel
theorem k_W_lastPlace_36 : decode (mtC m_W_lastPlace) 36 = .ok (.istore_n 2, 1) := by decide +kernel
theorem k_W_lastPlace_37 : decode (mtC m_W_lastPlace) 37 = .ok (.iload_n 1, 1) := by decide +kernel
theorem k_W_lastPlace_38 : decode (mtC m_W_lastPlace) 38 = .ok (.iconst 1, 1) := by decide +kernel
theorem k_W_lastPlace_39 : decode (mtC m_W_lastPlace) 39 = .ok (.if_icmp .ne 26, 3) := by decide +kernel
theorem k_W_lastPlace_42 : decode (mtC m_W_lastPlace) 42 = .ok (.iload_n 2, 1) := by decide +kernel
theorem k_W_lastPlace_43 : decode (mtC m_W_lastPlace) 43 = .ok (.bipush 64, 2) := by decide +kernel
theorem k_W_lastPlace_45 : decode (mtC m_W_lastPlace) 45 = .ok (.idiv, 1) := by decide +kernel
theorem k_W_lastPlace_46 : decode (mtC m_W_lastPlace) 46 = .ok (.istore_n 3, 1) := by decide +kernel
theorem k_W_lastPlace_47 : decode (mtC m_W_lastPlace) 47 = .ok (.aload_n 0, 1) := by decide +kernel
theorem k_W_lastPlace_48 : decode (mtC m_W_lastPlace) 48 = .ok (.getfield 24, 3) := by decide +kernel
theorem k_W_lastPlace_51 : decode (mtC m_W_lastPlace) 51 = .ok (.iconst 3, 1) := by decide +kernel
theorem k_W_lastPlace_52 : decode (mtC m_W_lastPlace) 52 = .ok (.if_icmp .ne 11, 3) := by decide +kernel
theorem k_W_lastPlace_55 : decode (mtC m_W_lastPlace) 55 = .ok (.aload_n 0, 1) := by decide +kernel
theorem k_W_lastPlace_56 : decode (mtC m_W_lastPlace) 56 = .ok (.iload_n 3, 1) := by decide +kernel
theorem k_W_lastPlace_57 : decode (mtC m_W_lastPlace) 57 = .ok (.invokevirtual 103, 3) := by decide +kernel
theorem k_W_lastPlace_60 : decode (mtC m_W_lastPlace) 60 = .ok (.goto 4, 3) := by decide +kernel
theorem k_W_lastPlace_63 : decode (mtC m_W_lastPlace) 63 = .ok (.iload_n 3, 1) := by decide +kernel
theorem k_W_lastPlace_64 : decode (mtC m_W_lastPlace) 64 = .ok (.ireturn, 1) := by decide +kernel
theorem k_W_lastPlace_65 : decode (mtC m_W_lastPlace) 65 = .ok (.iload_n 1, 1) := by decide +kernel
theorem k_W_lastPlace_66 : decode (mtC m_W_lastPlace) 66 = .ok (.iconst 2, 1) := by decide +kernel
theorem k_W_lastPlace_67 : decode (mtC m_W_lastPlace) 67 = .ok (.if_icmp .ne 13, 3) := by decide +kernel
theorem k_W_lastPlace_70 : decode (mtC m_W_lastPlace) 70 = .ok (.iload_n 2, 1) := by decide +kernel
theorem k_W_lastPlace_71 : decode (mtC m_W_lastPlace) 71 = .ok (.bipush 8, 2) := by decide +kernel
theorem k_W_lastPlace_73 : decode (mtC m_W_lastPlace) 73 = .ok (.idiv, 1) := by decide +kernel
theorem k_W_lastPlace_74 : decode (mtC m_W_lastPlace) 74 = .ok (.bipush 8, 2) := by decide +kernel
theorem k_W_lastPlace_76 : decode (mtC m_W_lastPlace) 76 = .ok (.irem, 1) := by decide +kernel
theorem k_W_lastPlace_77 : decode (mtC m_W_lastPlace) 77 = .ok (.goto 7, 3) := by decide +kernel
theorem k_W_lastPlace_80 : decode (mtC m_W_lastPlace) 80 = .ok (.iload_n 2, 1) := by decide +kernel
theorem k_W_lastPlace_81 : decode (mtC m_W_lastPlace) 81 = .ok (.bipush 8, 2) := by decide +kernel
theorem k_W_lastPlace_83 : decode (mtC m_W_lastPlace) 83 = .ok (.irem, 1) := by decide +kernel
theorem k_W_lastPlace_84 : decode (mtC m_W_lastPlace) 84 = .ok (.ireturn, 1) := by decide +kernel
set_option maxHeartbeats 4000000 in
set_option maxRecDepth 100000 in
theorem T_W_lastPlace_0 {d : Nat} {i0 : Nat} {x1 : Int} {M : AMem} {Q : Option AV → AMem → Prop} (o0 : okH 2 i0 = true) (h : ((wI (M 2 i0 6) = 0) → Q (some (vI (-1))) M) ∧ (¬ (wI (M 2 i0 6) = 0) → CallI d m_W_hasPlaces [vR 2 i0] M (fun y2 M1 => ((wI y2 = 0) → Q (some (vI (-1))) M1) ∧ (¬ (wI y2 = 0) → ((¬ wI x1 = 3) → CallI d m_Q_tagOf [vI (M1 2 i0 7)] M1 (fun y4 M3 => ((¬ wI x1 = 1) → ((¬ wI x1 = 2) → Q (some (vI (Int.tmod (wI y4) (8)))) M3) ∧ (¬ (¬ wI x1 = 2) → Q (some (vI (Int.tmod (wI (Int.tdiv (wI y4) (8))) (8)))) M3)) ∧ (¬ (¬ wI x1 = 1) → ((¬ wI (M3 2 i0 2) = 3) → Q (some (vI (Int.tdiv (wI y4) (64)))) M3) ∧ (¬ (¬ wI (M3 2 i0 2) = 3) → CallI d m_W_rankOf [vR 2 i0, vI (Int.tdiv (wI y4) (64))] M3 (fun y6 M5 => Q (some (vI y6)) M5))))) ∧ (¬ (¬ wI x1 = 3) → ((wI (M1 2 i0 2) = 2) → CallI d m_Q_tagOf [vI (M1 2 i0 7)] M1 (fun y8 M7 => ((¬ wI x1 = 1) → ((¬ wI x1 = 2) → Q (some (vI (Int.tmod (wI y8) (8)))) M7) ∧ (¬ (¬ wI x1 = 2) → Q (some (vI (Int.tmod (wI (Int.tdiv (wI y8) (8))) (8)))) M7)) ∧ (¬ (¬ wI x1 = 1) → ((¬ wI (M7 2 i0 2) = 3) → Q (some (vI (Int.tdiv (wI y8) (64)))) M7) ∧ (¬ (¬ wI (M7 2 i0 2) = 3) → CallI d m_W_rankOf [vR 2 i0, vI (Int.tdiv (wI y8) (64))] M7 (fun y10 M9 => Q (some (vI y10)) M9))))) ∧ (¬ (wI (M1 2 i0 2) = 2) → Q (some (vI (-1))) M1)))))) : RunQ (d + 1) m_W_lastPlace 0 [some (vR 2 i0), some (vI x1), none, none] [] M Q := by
  refine q_aload_n 0 k_W_lastPlace_0 rfl ?_
  refine q_getfield 1 k_W_lastPlace_1 fk_2_57 o0 (v := vI (M 2 i0 6)) rfl ?_
  refine q_if_eq 4 27 k_W_lastPlace_4 rfl rfl (fun c4 => ?_) (fun c4 => ?_)
  · have ht := h.1 c4
    refine q_iconst 27 k_W_lastPlace_27 ?_
    exact q_iret 28 k_W_lastPlace_28 rfl ht
  · have hf := h.2 c4
    refine q_aload_n 7 k_W_lastPlace_7 rfl ?_
    refine q_vI 8 [] [] k_W_lastPlace_8 lk_2_162 rfl rfl rfl o0 rfl rfl rfl rfl (CallI.mono (fun y2 M1 h11 => ?_) hf)
    refine q_if_eq 11 27 k_W_lastPlace_11 rfl rfl (fun c11 => ?_) (fun c11 => ?_)
    · have h11t := h11.1 c11
      refine q_iconst 27 k_W_lastPlace_27 ?_
      exact q_iret 28 k_W_lastPlace_28 rfl h11t
    · have h11f := h11.2 c11
      refine q_iload_n 14 k_W_lastPlace_14 rfl ?_
      refine q_iconst 15 k_W_lastPlace_15 ?_
      refine q_icmp_ne 16 29 k_W_lastPlace_16 rfl rfl (fun c16 => ?_) (fun c16 => ?_)
      · have h11ft := h11f.1 c16
        refine q_aload_n 29 k_W_lastPlace_29 rfl ?_
        refine q_getfield 30 k_W_lastPlace_30 fk_2_60 o0 (v := vI (M1 2 i0 7)) rfl ?_
        refine q_sI 33 [vI (M1 2 i0 7)] [] k_W_lastPlace_33 rfl lk_2_97 rfl rfl rfl rfl rfl rfl (CallI.mono (fun y4 M3 h12 => ?_) h11ft)
        refine q_istore_n 36 k_W_lastPlace_36 (ls' := [some (vR 2 i0), some (vI x1), some (vI y4), none]) rfl rfl ?_
        refine q_iload_n 37 k_W_lastPlace_37 rfl ?_
        refine q_iconst 38 k_W_lastPlace_38 ?_
        refine q_icmp_ne 39 65 k_W_lastPlace_39 rfl rfl (fun c39 => ?_) (fun c39 => ?_)
        · have h12t := h12.1 c39
          refine q_iload_n 65 k_W_lastPlace_65 rfl ?_
          refine q_iconst 66 k_W_lastPlace_66 ?_
          refine q_icmp_ne 67 80 k_W_lastPlace_67 rfl rfl (fun c67 => ?_) (fun c67 => ?_)
          · have h12tt := h12t.1 c67
            refine q_iload_n 80 k_W_lastPlace_80 rfl ?_
            refine q_bipush 81 k_W_lastPlace_81 (by decide) ?_
            refine q_irem 83 k_W_lastPlace_83 (by decide) ?_
            exact q_iret 84 k_W_lastPlace_84 rfl h12tt
          · have h12tf := h12t.2 c67
            refine q_iload_n 70 k_W_lastPlace_70 rfl ?_
            refine q_bipush 71 k_W_lastPlace_71 (by decide) ?_
            refine q_idiv 73 k_W_lastPlace_73 (by decide) ?_
            refine q_bipush 74 k_W_lastPlace_74 (by decide) ?_
            refine q_irem 76 k_W_lastPlace_76 (by decide) ?_
            refine q_goto 77 84 k_W_lastPlace_77 rfl rfl ?_
            exact q_iret 84 k_W_lastPlace_84 rfl h12tf
        · have h12f := h12.2 c39
          refine q_iload_n 42 k_W_lastPlace_42 rfl ?_
          refine q_bipush 43 k_W_lastPlace_43 (by decide) ?_
          refine q_idiv 45 k_W_lastPlace_45 (by decide) ?_
          refine q_istore_n 46 k_W_lastPlace_46 (ls' := [some (vR 2 i0), some (vI x1), some (vI y4), some (vI (Int.tdiv (wI y4) (64)))]) rfl rfl ?_
          refine q_aload_n 47 k_W_lastPlace_47 rfl ?_
          refine q_getfield 48 k_W_lastPlace_48 fk_2_24 o0 (v := vI (M3 2 i0 2)) rfl ?_
          refine q_iconst 51 k_W_lastPlace_51 ?_
          refine q_icmp_ne 52 63 k_W_lastPlace_52 rfl rfl (fun c52 => ?_) (fun c52 => ?_)
          · have h12ft := h12f.1 c52
            refine q_iload_n 63 k_W_lastPlace_63 rfl ?_
            exact q_iret 64 k_W_lastPlace_64 rfl h12ft
          · have h12ff := h12f.2 c52
            refine q_aload_n 55 k_W_lastPlace_55 rfl ?_
            refine q_iload_n 56 k_W_lastPlace_56 rfl ?_
            refine q_vI 57 [vI (Int.tdiv (wI y4) (64))] [] k_W_lastPlace_57 lk_2_103 rfl rfl rfl o0 rfl rfl rfl rfl (CallI.mono (fun y6 M5 h13 => ?_) h12ff)
            refine q_goto 60 64 k_W_lastPlace_60 rfl rfl ?_
            exact q_iret 64 k_W_lastPlace_64 rfl h13
      · have h11ff := h11f.2 c16
        refine q_aload_n 19 k_W_lastPlace_19 rfl ?_
        refine q_getfield 20 k_W_lastPlace_20 fk_2_24 o0 (v := vI (M1 2 i0 2)) rfl ?_
        refine q_iconst 23 k_W_lastPlace_23 ?_
        refine q_icmp_eq 24 29 k_W_lastPlace_24 rfl rfl (fun c24 => ?_) (fun c24 => ?_)
        · have h11fft := h11ff.1 c24
          refine q_aload_n 29 k_W_lastPlace_29 rfl ?_
          refine q_getfield 30 k_W_lastPlace_30 fk_2_60 o0 (v := vI (M1 2 i0 7)) rfl ?_
          refine q_sI 33 [vI (M1 2 i0 7)] [] k_W_lastPlace_33 rfl lk_2_97 rfl rfl rfl rfl rfl rfl (CallI.mono (fun y8 M7 h14 => ?_) h11fft)
          refine q_istore_n 36 k_W_lastPlace_36 (ls' := [some (vR 2 i0), some (vI x1), some (vI y8), none]) rfl rfl ?_
          refine q_iload_n 37 k_W_lastPlace_37 rfl ?_
          refine q_iconst 38 k_W_lastPlace_38 ?_
          refine q_icmp_ne 39 65 k_W_lastPlace_39 rfl rfl (fun c39 => ?_) (fun c39 => ?_)
          · have h14t := h14.1 c39
            refine q_iload_n 65 k_W_lastPlace_65 rfl ?_
            refine q_iconst 66 k_W_lastPlace_66 ?_
            refine q_icmp_ne 67 80 k_W_lastPlace_67 rfl rfl (fun c67 => ?_) (fun c67 => ?_)
            · have h14tt := h14t.1 c67
              refine q_iload_n 80 k_W_lastPlace_80 rfl ?_
              refine q_bipush 81 k_W_lastPlace_81 (by decide) ?_
              refine q_irem 83 k_W_lastPlace_83 (by decide) ?_
              exact q_iret 84 k_W_lastPlace_84 rfl h14tt
            · have h14tf := h14t.2 c67
              refine q_iload_n 70 k_W_lastPlace_70 rfl ?_
              refine q_bipush 71 k_W_lastPlace_71 (by decide) ?_
              refine q_idiv 73 k_W_lastPlace_73 (by decide) ?_
              refine q_bipush 74 k_W_lastPlace_74 (by decide) ?_
              refine q_irem 76 k_W_lastPlace_76 (by decide) ?_
              refine q_goto 77 84 k_W_lastPlace_77 rfl rfl ?_
              exact q_iret 84 k_W_lastPlace_84 rfl h14tf
          · have h14f := h14.2 c39
            refine q_iload_n 42 k_W_lastPlace_42 rfl ?_
            refine q_bipush 43 k_W_lastPlace_43 (by decide) ?_
            refine q_idiv 45 k_W_lastPlace_45 (by decide) ?_
            refine q_istore_n 46 k_W_lastPlace_46 (ls' := [some (vR 2 i0), some (vI x1), some (vI y8), some (vI (Int.tdiv (wI y8) (64)))]) rfl rfl ?_
            refine q_aload_n 47 k_W_lastPlace_47 rfl ?_
            refine q_getfield 48 k_W_lastPlace_48 fk_2_24 o0 (v := vI (M7 2 i0 2)) rfl ?_
            refine q_iconst 51 k_W_lastPlace_51 ?_
            refine q_icmp_ne 52 63 k_W_lastPlace_52 rfl rfl (fun c52 => ?_) (fun c52 => ?_)
            · have h14ft := h14f.1 c52
              refine q_iload_n 63 k_W_lastPlace_63 rfl ?_
              exact q_iret 64 k_W_lastPlace_64 rfl h14ft
            · have h14ff := h14f.2 c52
              refine q_aload_n 55 k_W_lastPlace_55 rfl ?_
              refine q_iload_n 56 k_W_lastPlace_56 rfl ?_
              refine q_vI 57 [vI (Int.tdiv (wI y8) (64))] [] k_W_lastPlace_57 lk_2_103 rfl rfl rfl o0 rfl rfl rfl rfl (CallI.mono (fun y10 M9 h15 => ?_) h14ff)
              refine q_goto 60 64 k_W_lastPlace_60 rfl rfl ?_
              exact q_iret 64 k_W_lastPlace_64 rfl h15
        · have h11fff := h11ff.2 c24
          refine q_iconst 27 k_W_lastPlace_27 ?_
          exact q_iret 28 k_W_lastPlace_28 rfl h11fff
theorem k_W_limit_0 : decode (mtC m_W_limit) 0 = .ok (.aload_n 0, 1) := by decide +kernel
theorem k_W_limit_1 : decode (mtC m_W_limit) 1 = .ok (.getfield 24, 3) := by decide +kernel
theorem k_W_limit_4 : decode (mtC m_W_limit) 4 = .ok (.tableswitch 111 0 4 #[36, 53, 72, 103, 53], 36) := by decide +kernel
theorem k_W_limit_40 : decode (mtC m_W_limit) 40 = .ok (.iconst 1, 1) := by decide +kernel
theorem k_W_limit_41 : decode (mtC m_W_limit) 41 = .ok (.aload_n 0, 1) := by decide +kernel
theorem k_W_limit_42 : decode (mtC m_W_limit) 42 = .ok (.getfield 57, 3) := by decide +kernel
theorem k_W_limit_45 : decode (mtC m_W_limit) 45 = .ok (.aload_n 0, 1) := by decide +kernel
theorem k_W_limit_46 : decode (mtC m_W_limit) 46 = .ok (.getfield 41, 3) := by decide +kernel
theorem k_W_limit_49 : decode (mtC m_W_limit) 49 = .ok (.invokestatic 165, 3) := by decide +kernel
theorem k_W_limit_52 : decode (mtC m_W_limit) 52 = .ok (.iconst 1, 1) := by decide +kernel
theorem k_W_limit_53 : decode (mtC m_W_limit) 53 = .ok (.isub, 1) := by decide +kernel
theorem k_W_limit_54 : decode (mtC m_W_limit) 54 = .ok (.imul, 1) := by decide +kernel
theorem k_W_limit_55 : decode (mtC m_W_limit) 55 = .ok (.iadd, 1) := by decide +kernel
theorem k_W_limit_56 : decode (mtC m_W_limit) 56 = .ok (.ireturn, 1) := by decide +kernel
theorem k_W_limit_57 : decode (mtC m_W_limit) 57 = .ok (.aload_n 0, 1) := by decide +kernel
theorem k_W_limit_58 : decode (mtC m_W_limit) 58 = .ok (.getfield 57, 3) := by decide +kernel
theorem k_W_limit_61 : decode (mtC m_W_limit) 61 = .ok (.iconst 1, 1) := by decide +kernel
theorem k_W_limit_62 : decode (mtC m_W_limit) 62 = .ok (.iadd, 1) := by decide +kernel
theorem k_W_limit_63 : decode (mtC m_W_limit) 63 = .ok (.aload_n 0, 1) := by decide +kernel
theorem k_W_limit_64 : decode (mtC m_W_limit) 64 = .ok (.getfield 11, 3) := by decide +kernel
theorem k_W_limit_67 : decode (mtC m_W_limit) 67 = .ok (.iconst 0, 1) := by decide +kernel
theorem k_W_limit_68 : decode (mtC m_W_limit) 68 = .ok (.aaload, 1) := by decide +kernel
theorem k_W_limit_69 : decode (mtC m_W_limit) 69 = .ok (.getfield 136, 3) := by decide +kernel
theorem k_W_limit_72 : decode (mtC m_W_limit) 72 = .ok (.invokestatic 170, 3) := by decide +kernel
theorem k_W_limit_75 : decode (mtC m_W_limit) 75 = .ok (.ireturn, 1) := by decide +kernel
theorem k_W_limit_76 : decode (mtC m_W_limit) 76 = .ok (.iconst 2, 1) := by decide +kernel
theorem k_W_limit_77 : decode (mtC m_W_limit) 77 = .ok (.aload_n 0, 1) := by decide +kernel
theorem k_W_limit_78 : decode (mtC m_W_limit) 78 = .ok (.getfield 57, 3) := by decide +kernel
theorem k_W_limit_81 : decode (mtC m_W_limit) 81 = .ok (.imul, 1) := by decide +kernel
theorem k_W_limit_82 : decode (mtC m_W_limit) 82 = .ok (.iconst 1, 1) := by decide +kernel
theorem k_W_limit_83 : decode (mtC m_W_limit) 83 = .ok (.iadd, 1) := by decide +kernel
theorem k_W_limit_84 : decode (mtC m_W_limit) 84 = .ok (.aload_n 0, 1) := by decide +kernel
theorem k_W_limit_85 : decode (mtC m_W_limit) 85 = .ok (.getfield 11, 3) := by decide +kernel
theorem k_W_limit_88 : decode (mtC m_W_limit) 88 = .ok (.iconst 0, 1) := by decide +kernel
theorem k_W_limit_89 : decode (mtC m_W_limit) 89 = .ok (.aaload, 1) := by decide +kernel
theorem k_W_limit_90 : decode (mtC m_W_limit) 90 = .ok (.getfield 136, 3) := by decide +kernel
theorem k_W_limit_93 : decode (mtC m_W_limit) 93 = .ok (.aload_n 0, 1) := by decide +kernel
theorem k_W_limit_94 : decode (mtC m_W_limit) 94 = .ok (.getfield 11, 3) := by decide +kernel
theorem k_W_limit_97 : decode (mtC m_W_limit) 97 = .ok (.iconst 1, 1) := by decide +kernel
theorem k_W_limit_98 : decode (mtC m_W_limit) 98 = .ok (.aaload, 1) := by decide +kernel
theorem k_W_limit_99 : decode (mtC m_W_limit) 99 = .ok (.getfield 136, 3) := by decide +kernel
theorem k_W_limit_102 : decode (mtC m_W_limit) 102 = .ok (.imul, 1) := by decide +kernel
theorem k_W_limit_103 : decode (mtC m_W_limit) 103 = .ok (.invokestatic 170, 3) := by decide +kernel
theorem k_W_limit_106 : decode (mtC m_W_limit) 106 = .ok (.ireturn, 1) := by decide +kernel
theorem k_W_limit_107 : decode (mtC m_W_limit) 107 = .ok (.aload_n 0, 1) := by decide +kernel
theorem k_W_limit_108 : decode (mtC m_W_limit) 108 = .ok (.getfield 41, 3) := by decide +kernel
theorem k_W_limit_111 : decode (mtC m_W_limit) 111 = .ok (.invokestatic 165, 3) := by decide +kernel
theorem k_W_limit_114 : decode (mtC m_W_limit) 114 = .ok (.ireturn, 1) := by decide +kernel
theorem k_W_limit_115 : decode (mtC m_W_limit) 115 = .ok (.aload_n 0, 1) := by decide +kernel
theorem k_W_limit_116 : decode (mtC m_W_limit) 116 = .ok (.getfield 57, 3) := by decide +kernel
theorem k_W_limit_119 : decode (mtC m_W_limit) 119 = .ok (.ireturn, 1) := by decide +kernel
set_option maxHeartbeats 4000000 in
set_option maxRecDepth 100000 in
theorem T_W_limit_0 {d : Nat} {i0 : Nat} {M : AMem} {Q : Option AV → AMem → Prop} (o0 : okH 2 i0 = true) (h : (wI (M 2 i0 2) = 0 → CallI d m_J_bitCount [vI (M 2 i0 3)] M (fun y2 M1 => Q (some (vI (1 + ((M 2 i0 6) * (y2 - 1))))) M1)) ∧ (wI (M 2 i0 2) = 1 → Q (some (vI (if wI (M 1 (6 * i0 + 0) 1) < wI ((M 2 i0 6) + 1) then (M 1 (6 * i0 + 0) 1) else ((M 2 i0 6) + 1)))) M) ∧ (wI (M 2 i0 2) = 2 → Q (some (vI (if wI ((M 1 (6 * i0 + 0) 1) * (M 1 (6 * i0 + 1) 1)) < wI ((2 * (M 2 i0 6)) + 1) then ((M 1 (6 * i0 + 0) 1) * (M 1 (6 * i0 + 1) 1)) else ((2 * (M 2 i0 6)) + 1)))) M) ∧ (wI (M 2 i0 2) = 3 → CallI d m_J_bitCount [vI (M 2 i0 3)] M (fun y4 M3 => Q (some (vI y4)) M3)) ∧ (wI (M 2 i0 2) = 4 → Q (some (vI (if wI (M 1 (6 * i0 + 0) 1) < wI ((M 2 i0 6) + 1) then (M 1 (6 * i0 + 0) 1) else ((M 2 i0 6) + 1)))) M) ∧ ((wI (M 2 i0 2) < 0 ∨ 4 < wI (M 2 i0 2)) → Q (some (vI (M 2 i0 6))) M)) : RunQ (d + 1) m_W_limit 0 [some (vR 2 i0)] [] M Q := by
  refine q_aload_n 0 k_W_limit_0 rfl ?_
  refine q_getfield 1 k_W_limit_1 fk_2_24 o0 (v := vI (M 2 i0 2)) rfl ?_
  refine q_tsw 4 k_W_limit_4 rfl (fun c => ?_) (fun c1 c2 => ?_)
  · show RunQ _ _ 115 _ _ _ _
    have hd := h.2.2.2.2.2 c
    refine q_aload_n 115 k_W_limit_115 rfl ?_
    refine q_getfield 116 k_W_limit_116 fk_2_57 o0 (v := vI (M 2 i0 6)) rfl ?_
    exact q_iret 119 k_W_limit_119 rfl hd
  · have cq : wI (M 2 i0 2) = 0 ∨ wI (M 2 i0 2) = 1 ∨ wI (M 2 i0 2) = 2 ∨ wI (M 2 i0 2) = 3 ∨ wI (M 2 i0 2) = 4 := by omega
    rcases cq with cq | cq | cq | cq | cq
    · refine ⟨36, by rw [cq]; rfl, rfl, ?_⟩
      show RunQ _ _ 40 _ _ _ _
      have h0 := h.1 cq
      refine q_iconst 40 k_W_limit_40 ?_
      refine q_aload_n 41 k_W_limit_41 rfl ?_
      refine q_getfield 42 k_W_limit_42 fk_2_57 o0 (v := vI (M 2 i0 6)) rfl ?_
      refine q_aload_n 45 k_W_limit_45 rfl ?_
      refine q_getfield 46 k_W_limit_46 fk_2_41 o0 (v := vI (M 2 i0 3)) rfl ?_
      refine q_sI 49 [vI (M 2 i0 3)] [vI (M 2 i0 6), vI 1] k_W_limit_49 rfl lk_2_165 rfl rfl rfl rfl rfl rfl (CallI.mono (fun y2 M1 h5 => ?_) h0)
      refine q_iconst 52 k_W_limit_52 ?_
      refine q_isub 53 k_W_limit_53 ?_
      refine q_imul 54 k_W_limit_54 ?_
      refine q_iadd 55 k_W_limit_55 ?_
      exact q_iret 56 k_W_limit_56 rfl h5
    · refine ⟨53, by rw [cq]; rfl, rfl, ?_⟩
      show RunQ _ _ 57 _ _ _ _
      have h1 := h.2.1 cq
      refine q_aload_n 57 k_W_limit_57 rfl ?_
      refine q_getfield 58 k_W_limit_58 fk_2_57 o0 (v := vI (M 2 i0 6)) rfl ?_
      refine q_iconst 61 k_W_limit_61 ?_
      refine q_iadd 62 k_W_limit_62 ?_
      refine q_aload_n 63 k_W_limit_63 rfl ?_
      refine q_getfield 64 k_W_limit_64 fk_2_11 o0 (v := vR 6 i0) rfl ?_
      refine q_iconst 67 k_W_limit_67 ?_
      refine q_aaload 68 k_W_limit_68 o0 (n := 6) rfl ⟨by decide, by decide⟩ (kd := 1) (x := (6 * i0 + 0)) rfl ?_
      refine q_getfield 69 k_W_limit_69 fk_2_136 (ok_r6 (j := 0) o0 ⟨by decide, by decide⟩) (v := vI (M 1 (6 * i0 + 0) 1)) rfl ?_
      refine q_min 72 k_W_limit_72 rfl rfl ?_
      exact q_iret 75 k_W_limit_75 rfl h1
    · refine ⟨72, by rw [cq]; rfl, rfl, ?_⟩
      show RunQ _ _ 76 _ _ _ _
      have h2 := h.2.2.1 cq
      refine q_iconst 76 k_W_limit_76 ?_
      refine q_aload_n 77 k_W_limit_77 rfl ?_
      refine q_getfield 78 k_W_limit_78 fk_2_57 o0 (v := vI (M 2 i0 6)) rfl ?_
      refine q_imul 81 k_W_limit_81 ?_
      refine q_iconst 82 k_W_limit_82 ?_
      refine q_iadd 83 k_W_limit_83 ?_
      refine q_aload_n 84 k_W_limit_84 rfl ?_
      refine q_getfield 85 k_W_limit_85 fk_2_11 o0 (v := vR 6 i0) rfl ?_
      refine q_iconst 88 k_W_limit_88 ?_
      refine q_aaload 89 k_W_limit_89 o0 (n := 6) rfl ⟨by decide, by decide⟩ (kd := 1) (x := (6 * i0 + 0)) rfl ?_
      refine q_getfield 90 k_W_limit_90 fk_2_136 (ok_r6 (j := 0) o0 ⟨by decide, by decide⟩) (v := vI (M 1 (6 * i0 + 0) 1)) rfl ?_
      refine q_aload_n 93 k_W_limit_93 rfl ?_
      refine q_getfield 94 k_W_limit_94 fk_2_11 o0 (v := vR 6 i0) rfl ?_
      refine q_iconst 97 k_W_limit_97 ?_
      refine q_aaload 98 k_W_limit_98 o0 (n := 6) rfl ⟨by decide, by decide⟩ (kd := 1) (x := (6 * i0 + 1)) rfl ?_
      refine q_getfield 99 k_W_limit_99 fk_2_136 (ok_r6 (j := 1) o0 ⟨by decide, by decide⟩) (v := vI (M 1 (6 * i0 + 1) 1)) rfl ?_
      refine q_imul 102 k_W_limit_102 ?_
      refine q_min 103 k_W_limit_103 rfl rfl ?_
      exact q_iret 106 k_W_limit_106 rfl h2
    · refine ⟨103, by rw [cq]; rfl, rfl, ?_⟩
      show RunQ _ _ 107 _ _ _ _
      have h3 := h.2.2.2.1 cq
      refine q_aload_n 107 k_W_limit_107 rfl ?_
      refine q_getfield 108 k_W_limit_108 fk_2_41 o0 (v := vI (M 2 i0 3)) rfl ?_
      refine q_sI 111 [vI (M 2 i0 3)] [] k_W_limit_111 rfl lk_2_165 rfl rfl rfl rfl rfl rfl (CallI.mono (fun y4 M3 h6 => ?_) h3)
      exact q_iret 114 k_W_limit_114 rfl h6
    · refine ⟨53, by rw [cq]; rfl, rfl, ?_⟩
      show RunQ _ _ 57 _ _ _ _
      have h4 := h.2.2.2.2.1 cq
      refine q_aload_n 57 k_W_limit_57 rfl ?_
      refine q_getfield 58 k_W_limit_58 fk_2_57 o0 (v := vI (M 2 i0 6)) rfl ?_
      refine q_iconst 61 k_W_limit_61 ?_
      refine q_iadd 62 k_W_limit_62 ?_
      refine q_aload_n 63 k_W_limit_63 rfl ?_
      refine q_getfield 64 k_W_limit_64 fk_2_11 o0 (v := vR 6 i0) rfl ?_
      refine q_iconst 67 k_W_limit_67 ?_
      refine q_aaload 68 k_W_limit_68 o0 (n := 6) rfl ⟨by decide, by decide⟩ (kd := 1) (x := (6 * i0 + 0)) rfl ?_
      refine q_getfield 69 k_W_limit_69 fk_2_136 (ok_r6 (j := 0) o0 ⟨by decide, by decide⟩) (v := vI (M 1 (6 * i0 + 0) 1)) rfl ?_
      refine q_min 72 k_W_limit_72 rfl rfl ?_
      exact q_iret 75 k_W_limit_75 rfl h4
theorem k_W_hasPlaces_0 : decode (mtC m_W_hasPlaces) 0 = .ok (.aload_n 0, 1) := by decide +kernel
theorem k_W_hasPlaces_1 : decode (mtC m_W_hasPlaces) 1 = .ok (.getfield 24, 3) := by decide +kernel
theorem k_W_hasPlaces_4 : decode (mtC m_W_hasPlaces) 4 = .ok (.iconst 3, 1) := by decide +kernel
theorem k_W_hasPlaces_5 : decode (mtC m_W_hasPlaces) 5 = .ok (.if_icmp .eq 10, 3) := by decide +kernel
theorem k_W_hasPlaces_8 : decode (mtC m_W_hasPlaces) 8 = .ok (.aload_n 0, 1) := by decide +kernel
theorem k_W_hasPlaces_9 : decode (mtC m_W_hasPlaces) 9 = .ok (.invokevirtual 75, 3) := by decide +kernel
theorem k_W_hasPlaces_12 : decode (mtC m_W_hasPlaces) 12 = .ok (.ifCond .eq 7, 3) := by decide +kernel
theorem k_W_hasPlaces_15 : decode (mtC m_W_hasPlaces) 15 = .ok (.iconst 1, 1) := by decide +kernel
theorem k_W_hasPlaces_16 : decode (mtC m_W_hasPlaces) 16 = .ok (.goto 4, 3) := by decide +kernel
theorem k_W_hasPlaces_19 : decode (mtC m_W_hasPlaces) 19 = .ok (.iconst 0, 1) := by decide +kernel
theorem k_W_hasPlaces_20 : decode (mtC m_W_hasPlaces) 20 = .ok (.ireturn, 1) := by decide +kernel
set_option maxHeartbeats 4000000 in
set_option maxRecDepth 100000 in
theorem T_W_hasPlaces_0 {d : Nat} {i0 : Nat} {M : AMem} {Q : Option AV → AMem → Prop} (o0 : okH 2 i0 = true) (h : ((wI (M 2 i0 2) = 3) → Q (some (vI 1)) M) ∧ (¬ (wI (M 2 i0 2) = 3) → CallI d m_W_isGrid [vR 2 i0] M (fun y2 M1 => ((wI y2 = 0) → Q (some (vI 0)) M1) ∧ (¬ (wI y2 = 0) → Q (some (vI 1)) M1)))) : RunQ (d + 1) m_W_hasPlaces 0 [some (vR 2 i0)] [] M Q := by
  refine q_aload_n 0 k_W_hasPlaces_0 rfl ?_
  refine q_getfield 1 k_W_hasPlaces_1 fk_2_24 o0 (v := vI (M 2 i0 2)) rfl ?_
  refine q_iconst 4 k_W_hasPlaces_4 ?_
  refine q_icmp_eq 5 15 k_W_hasPlaces_5 rfl rfl (fun c5 => ?_) (fun c5 => ?_)
  · have ht := h.1 c5
    refine q_iconst 15 k_W_hasPlaces_15 ?_
    refine q_goto 16 20 k_W_hasPlaces_16 rfl rfl ?_
    exact q_zret 20 k_W_hasPlaces_20 rfl (Or.inr rfl) ht
  · have hf := h.2 c5
    refine q_aload_n 8 k_W_hasPlaces_8 rfl ?_
    refine q_vI 9 [] [] k_W_hasPlaces_9 lk_2_75 rfl rfl rfl o0 rfl rfl rfl rfl (CallI.mono (fun y2 M1 h3 => ?_) hf)
    refine q_if_eq 12 19 k_W_hasPlaces_12 rfl rfl (fun c12 => ?_) (fun c12 => ?_)
    · have h3t := h3.1 c12
      refine q_iconst 19 k_W_hasPlaces_19 ?_
      exact q_zret 20 k_W_hasPlaces_20 rfl (Or.inl rfl) h3t
    · have h3f := h3.2 c12
      refine q_iconst 15 k_W_hasPlaces_15 ?_
      refine q_goto 16 20 k_W_hasPlaces_16 rfl rfl ?_
      exact q_zret 20 k_W_hasPlaces_20 rfl (Or.inr rfl) h3f
theorem k_W_tagAt_0 : decode (mtC m_W_tagAt) 0 = .ok (.aload_n 0, 1) := by decide +kernel
theorem k_W_tagAt_1 : decode (mtC m_W_tagAt) 1 = .ok (.getfield 24, 3) := by decide +kernel
theorem k_W_tagAt_4 : decode (mtC m_W_tagAt) 4 = .ok (.iconst 2, 1) := by decide +kernel
theorem k_W_tagAt_5 : decode (mtC m_W_tagAt) 5 = .ok (.if_icmp .ne 7, 3) := by decide +kernel
theorem k_W_tagAt_8 : decode (mtC m_W_tagAt) 8 = .ok (.iload_n 3, 1) := by decide +kernel
theorem k_W_tagAt_9 : decode (mtC m_W_tagAt) 9 = .ok (.goto 4, 3) := by decide +kernel
theorem k_W_tagAt_12 : decode (mtC m_W_tagAt) 12 = .ok (.iconst 0, 1) := by decide +kernel
theorem k_W_tagAt_13 : decode (mtC m_W_tagAt) 13 = .ok (.istore 4, 2) := by decide +kernel
theorem k_W_tagAt_15 : decode (mtC m_W_tagAt) 15 = .ok (.aload_n 0, 1) := by decide +kernel
theorem k_W_tagAt_16 : decode (mtC m_W_tagAt) 16 = .ok (.getfield 24, 3) := by decide +kernel
theorem k_W_tagAt_19 : decode (mtC m_W_tagAt) 19 = .ok (.iconst 3, 1) := by decide +kernel
theorem k_W_tagAt_20 : decode (mtC m_W_tagAt) 20 = .ok (.if_icmp .ne 8, 3) := by decide +kernel
theorem k_W_tagAt_23 : decode (mtC m_W_tagAt) 23 = .ok (.bipush 6, 2) := by decide +kernel
theorem k_W_tagAt_25 : decode (mtC m_W_tagAt) 25 = .ok (.goto 5, 3) := by decide +kernel
theorem k_W_tagAt_28 : decode (mtC m_W_tagAt) 28 = .ok (.bipush 8, 2) := by decide +kernel
theorem k_W_tagAt_30 : decode (mtC m_W_tagAt) 30 = .ok (.istore 5, 2) := by decide +kernel
theorem k_W_tagAt_32 : decode (mtC m_W_tagAt) 32 = .ok (.iload_n 1, 1) := by decide +kernel
theorem k_W_tagAt_33 : decode (mtC m_W_tagAt) 33 = .ok (.ifCond .lt 31, 3) := by decide +kernel
theorem k_W_tagAt_36 : decode (mtC m_W_tagAt) 36 = .ok (.iload_n 1, 1) := by decide +kernel
theorem k_W_tagAt_37 : decode (mtC m_W_tagAt) 37 = .ok (.iload 5, 2) := by decide +kernel
theorem k_W_tagAt_39 : decode (mtC m_W_tagAt) 39 = .ok (.if_icmp .ge 25, 3) := by decide +kernel
theorem k_W_tagAt_42 : decode (mtC m_W_tagAt) 42 = .ok (.iload_n 2, 1) := by decide +kernel
theorem k_W_tagAt_43 : decode (mtC m_W_tagAt) 43 = .ok (.ifCond .lt 21, 3) := by decide +kernel
theorem k_W_tagAt_46 : decode (mtC m_W_tagAt) 46 = .ok (.iload_n 2, 1) := by decide +kernel
theorem k_W_tagAt_47 : decode (mtC m_W_tagAt) 47 = .ok (.bipush 8, 2) := by decide +kernel
theorem k_W_tagAt_49 : decode (mtC m_W_tagAt) 49 = .ok (.if_icmp .ge 15, 3) := by decide +kernel
theorem k_W_tagAt_52 : decode (mtC m_W_tagAt) 52 = .ok (.iload 4, 2) := by decide +kernel
theorem k_W_tagAt_54 : decode (mtC m_W_tagAt) 54 = .ok (.ifCond .lt 10, 3) := by decide +kernel
theorem k_W_tagAt_57 : decode (mtC m_W_tagAt) 57 = .ok (.iload 4, 2) := by decide +kernel
theorem k_W_tagAt_59 : decode (mtC m_W_tagAt) 59 = .ok (.bipush 8, 2) := by decide +kernel
theorem k_W_tagAt_61 : decode (mtC m_W_tagAt) 61 = .ok (.if_icmp .lt 5, 3) := by decide +kernel
theorem k_W_tagAt_64 : decode (mtC m_W_tagAt) 64 = .ok (.iconst (-1), 1) := by decide +kernel
theorem k_W_tagAt_65 : decode (mtC m_W_tagAt) 65 = .ok (.ireturn, 1) := by decide +kernel
theorem k_W_tagAt_66 : decode (mtC m_W_tagAt) 66 = .ok (.aload_n 0, 1) := by decide +kernel
theorem k_W_tagAt_67 : decode (mtC m_W_tagAt) 67 = .ok (.getfield 24, 3) := by decide +kernel
theorem k_W_tagAt_70 : decode (mtC m_W_tagAt) 70 = .ok (.iconst 3, 1) := by decide +kernel
theorem k_W_tagAt_71 : decode (mtC m_W_tagAt) 71 = .ok (.if_icmp .ne 11, 3) := by decide +kernel
theorem k_W_tagAt_74 : decode (mtC m_W_tagAt) 74 = .ok (.aload_n 0, 1) := by decide +kernel
theorem k_W_tagAt_75 : decode (mtC m_W_tagAt) 75 = .ok (.iload_n 1, 1) := by decide +kernel
theorem k_W_tagAt_76 : decode (mtC m_W_tagAt) 76 = .ok (.invokevirtual 103, 3) := by decide +kernel
theorem k_W_tagAt_79 : decode (mtC m_W_tagAt) 79 = .ok (.goto 4, 3) := by decide +kernel
theorem k_W_tagAt_82 : decode (mtC m_W_tagAt) 82 = .ok (.iload_n 1, 1) := by decide +kernel
theorem k_W_tagAt_83 : decode (mtC m_W_tagAt) 83 = .ok (.bipush 8, 2) := by decide +kernel
theorem k_W_tagAt_85 : decode (mtC m_W_tagAt) 85 = .ok (.imul, 1) := by decide +kernel
theorem k_W_tagAt_86 : decode (mtC m_W_tagAt) 86 = .ok (.iload_n 2, 1) := by decide +kernel
theorem k_W_tagAt_87 : decode (mtC m_W_tagAt) 87 = .ok (.iadd, 1) := by decide +kernel
theorem k_W_tagAt_88 : decode (mtC m_W_tagAt) 88 = .ok (.bipush 8, 2) := by decide +kernel
theorem k_W_tagAt_90 : decode (mtC m_W_tagAt) 90 = .ok (.imul, 1) := by decide +kernel
theorem k_W_tagAt_91 : decode (mtC m_W_tagAt) 91 = .ok (.iload 4, 2) := by decide +kernel
theorem k_W_tagAt_93 : decode (mtC m_W_tagAt) 93 = .ok (.iadd, 1) := by decide +kernel
theorem k_W_tagAt_94 : decode (mtC m_W_tagAt) 94 = .ok (.ireturn, 1) := by decide +kernel
set_option maxHeartbeats 4000000 in
set_option maxRecDepth 100000 in
theorem T_W_tagAt_0 {d : Nat} {i0 : Nat} {x1 : Int} {x2 : Int} {x3 : Int} {M : AMem} {Q : Option AV → AMem → Prop} (o0 : okH 2 i0 = true) (h : ((¬ wI (M 2 i0 2) = 2) → ((¬ wI (M 2 i0 2) = 3) → ((wI x1 < 0) → Q (some (vI (-1))) M) ∧ (¬ (wI x1 < 0) → ((8 ≤ wI x1) → Q (some (vI (-1))) M) ∧ (¬ (8 ≤ wI x1) → ((wI x2 < 0) → Q (some (vI (-1))) M) ∧ (¬ (wI x2 < 0) → ((8 ≤ wI x2) → Q (some (vI (-1))) M) ∧ (¬ (8 ≤ wI x2) → ((¬ wI (M 2 i0 2) = 3) → Q (some (vI ((((x1 * 8) + x2) * 8) + 0))) M) ∧ (¬ (¬ wI (M 2 i0 2) = 3) → CallI d m_W_rankOf [vR 2 i0, vI x1] M (fun y2 M1 => Q (some (vI ((((y2 * 8) + x2) * 8) + 0))) M1))))))) ∧ (¬ (¬ wI (M 2 i0 2) = 3) → ((wI x1 < 0) → Q (some (vI (-1))) M) ∧ (¬ (wI x1 < 0) → ((6 ≤ wI x1) → Q (some (vI (-1))) M) ∧ (¬ (6 ≤ wI x1) → ((wI x2 < 0) → Q (some (vI (-1))) M) ∧ (¬ (wI x2 < 0) → ((8 ≤ wI x2) → Q (some (vI (-1))) M) ∧ (¬ (8 ≤ wI x2) → ((¬ wI (M 2 i0 2) = 3) → Q (some (vI ((((x1 * 8) + x2) * 8) + 0))) M) ∧ (¬ (¬ wI (M 2 i0 2) = 3) → CallI d m_W_rankOf [vR 2 i0, vI x1] M (fun y4 M3 => Q (some (vI ((((y4 * 8) + x2) * 8) + 0))) M3)))))))) ∧ (¬ (¬ wI (M 2 i0 2) = 2) → ((¬ wI (M 2 i0 2) = 3) → ((wI x1 < 0) → Q (some (vI (-1))) M) ∧ (¬ (wI x1 < 0) → ((8 ≤ wI x1) → Q (some (vI (-1))) M) ∧ (¬ (8 ≤ wI x1) → ((wI x2 < 0) → Q (some (vI (-1))) M) ∧ (¬ (wI x2 < 0) → ((8 ≤ wI x2) → Q (some (vI (-1))) M) ∧ (¬ (8 ≤ wI x2) → ((wI x3 < 0) → Q (some (vI (-1))) M) ∧ (¬ (wI x3 < 0) → ((wI x3 < 8) → ((¬ wI (M 2 i0 2) = 3) → Q (some (vI ((((x1 * 8) + x2) * 8) + x3))) M) ∧ (¬ (¬ wI (M 2 i0 2) = 3) → CallI d m_W_rankOf [vR 2 i0, vI x1] M (fun y6 M5 => Q (some (vI ((((y6 * 8) + x2) * 8) + x3))) M5))) ∧ (¬ (wI x3 < 8) → Q (some (vI (-1))) M))))))) ∧ (¬ (¬ wI (M 2 i0 2) = 3) → ((wI x1 < 0) → Q (some (vI (-1))) M) ∧ (¬ (wI x1 < 0) → ((6 ≤ wI x1) → Q (some (vI (-1))) M) ∧ (¬ (6 ≤ wI x1) → ((wI x2 < 0) → Q (some (vI (-1))) M) ∧ (¬ (wI x2 < 0) → ((8 ≤ wI x2) → Q (some (vI (-1))) M) ∧ (¬ (8 ≤ wI x2) → ((wI x3 < 0) → Q (some (vI (-1))) M) ∧ (¬ (wI x3 < 0) → ((wI x3 < 8) → ((¬ wI (M 2 i0 2) = 3) → Q (some (vI ((((x1 * 8) + x2) * 8) + x3))) M) ∧ (¬ (¬ wI (M 2 i0 2) = 3) → CallI d m_W_rankOf [vR 2 i0, vI x1] M (fun y8 M7 => Q (some (vI ((((y8 * 8) + x2) * 8) + x3))) M7))) ∧ (¬ (wI x3 < 8) → Q (some (vI (-1))) M))))))))) : RunQ (d + 1) m_W_tagAt 0 [some (vR 2 i0), some (vI x1), some (vI x2), some (vI x3), none, none] [] M Q := by
  refine q_aload_n 0 k_W_tagAt_0 rfl ?_
  refine q_getfield 1 k_W_tagAt_1 fk_2_24 o0 (v := vI (M 2 i0 2)) rfl ?_
  refine q_iconst 4 k_W_tagAt_4 ?_
  refine q_icmp_ne 5 12 k_W_tagAt_5 rfl rfl (fun c5 => ?_) (fun c5 => ?_)
  · have ht := h.1 c5
    refine q_iconst 12 k_W_tagAt_12 ?_
    refine q_istore 13 k_W_tagAt_13 (ls' := [some (vR 2 i0), some (vI x1), some (vI x2), some (vI x3), some (vI 0), none]) rfl rfl ?_
    refine q_aload_n 15 k_W_tagAt_15 rfl ?_
    refine q_getfield 16 k_W_tagAt_16 fk_2_24 o0 (v := vI (M 2 i0 2)) rfl ?_
    refine q_iconst 19 k_W_tagAt_19 ?_
    refine q_icmp_ne 20 28 k_W_tagAt_20 rfl rfl (fun c20 => ?_) (fun c20 => ?_)
    · have htt := ht.1 c20
      refine q_bipush 28 k_W_tagAt_28 (by decide) ?_
      refine q_istore 30 k_W_tagAt_30 (ls' := [some (vR 2 i0), some (vI x1), some (vI x2), some (vI x3), some (vI 0), some (vI 8)]) rfl rfl ?_
      refine q_iload_n 32 k_W_tagAt_32 rfl ?_
      refine q_if_lt 33 64 k_W_tagAt_33 rfl rfl (fun c33 => ?_) (fun c33 => ?_)
      · have httt := htt.1 c33
        refine q_iconst 64 k_W_tagAt_64 ?_
        exact q_iret 65 k_W_tagAt_65 rfl httt
      · have httf := htt.2 c33
        refine q_iload_n 36 k_W_tagAt_36 rfl ?_
        refine q_iload 37 k_W_tagAt_37 rfl ?_
        refine q_icmp_ge 39 64 k_W_tagAt_39 rfl rfl (fun c39 => ?_) (fun c39 => ?_)
        · have httft := httf.1 c39
          refine q_iconst 64 k_W_tagAt_64 ?_
          exact q_iret 65 k_W_tagAt_65 rfl httft
        · have httff := httf.2 c39
          refine q_iload_n 42 k_W_tagAt_42 rfl ?_
          refine q_if_lt 43 64 k_W_tagAt_43 rfl rfl (fun c43 => ?_) (fun c43 => ?_)
          · have httfft := httff.1 c43
            refine q_iconst 64 k_W_tagAt_64 ?_
            exact q_iret 65 k_W_tagAt_65 rfl httfft
          · have httfff := httff.2 c43
            refine q_iload_n 46 k_W_tagAt_46 rfl ?_
            refine q_bipush 47 k_W_tagAt_47 (by decide) ?_
            refine q_icmp_ge 49 64 k_W_tagAt_49 rfl rfl (fun c49 => ?_) (fun c49 => ?_)
            · have httffft := httfff.1 c49
              refine q_iconst 64 k_W_tagAt_64 ?_
              exact q_iret 65 k_W_tagAt_65 rfl httffft
            · have httffff := httfff.2 c49
              refine q_iload 52 k_W_tagAt_52 rfl ?_
              refine q_if_lt 54 64 k_W_tagAt_54 rfl rfl (fun c => absurd c (by decide)) (fun _ => ?_)
              refine q_iload 57 k_W_tagAt_57 rfl ?_
              refine q_bipush 59 k_W_tagAt_59 (by decide) ?_
              refine q_icmp_lt 61 66 k_W_tagAt_61 rfl rfl (fun _ => ?_) (fun c => absurd (by decide) c)
              refine q_aload_n 66 k_W_tagAt_66 rfl ?_
              refine q_getfield 67 k_W_tagAt_67 fk_2_24 o0 (v := vI (M 2 i0 2)) rfl ?_
              refine q_iconst 70 k_W_tagAt_70 ?_
              refine q_icmp_ne 71 82 k_W_tagAt_71 rfl rfl (fun c71 => ?_) (fun c71 => ?_)
              · have httfffft := httffff.1 c71
                refine q_iload_n 82 k_W_tagAt_82 rfl ?_
                refine q_bipush 83 k_W_tagAt_83 (by decide) ?_
                refine q_imul 85 k_W_tagAt_85 ?_
                refine q_iload_n 86 k_W_tagAt_86 rfl ?_
                refine q_iadd 87 k_W_tagAt_87 ?_
                refine q_bipush 88 k_W_tagAt_88 (by decide) ?_
                refine q_imul 90 k_W_tagAt_90 ?_
                refine q_iload 91 k_W_tagAt_91 rfl ?_
                refine q_iadd 93 k_W_tagAt_93 ?_
                exact q_iret 94 k_W_tagAt_94 rfl httfffft
              · have httfffff := httffff.2 c71
                refine q_aload_n 74 k_W_tagAt_74 rfl ?_
                refine q_iload_n 75 k_W_tagAt_75 rfl ?_
                refine q_vI 76 [vI x1] [] k_W_tagAt_76 lk_2_103 rfl rfl rfl o0 rfl rfl rfl rfl (CallI.mono (fun y2 M1 h9 => ?_) httfffff)
                refine q_goto 79 83 k_W_tagAt_79 rfl rfl ?_
                refine q_bipush 83 k_W_tagAt_83 (by decide) ?_
                refine q_imul 85 k_W_tagAt_85 ?_
                refine q_iload_n 86 k_W_tagAt_86 rfl ?_
                refine q_iadd 87 k_W_tagAt_87 ?_
                refine q_bipush 88 k_W_tagAt_88 (by decide) ?_
                refine q_imul 90 k_W_tagAt_90 ?_
                refine q_iload 91 k_W_tagAt_91 rfl ?_
                refine q_iadd 93 k_W_tagAt_93 ?_
                exact q_iret 94 k_W_tagAt_94 rfl h9
    · have htf := ht.2 c20
      refine q_bipush 23 k_W_tagAt_23 (by decide) ?_
      refine q_goto 25 30 k_W_tagAt_25 rfl rfl ?_
      refine q_istore 30 k_W_tagAt_30 (ls' := [some (vR 2 i0), some (vI x1), some (vI x2), some (vI x3), some (vI 0), some (vI 6)]) rfl rfl ?_
      refine q_iload_n 32 k_W_tagAt_32 rfl ?_
      refine q_if_lt 33 64 k_W_tagAt_33 rfl rfl (fun c33 => ?_) (fun c33 => ?_)
      · have htft := htf.1 c33
        refine q_iconst 64 k_W_tagAt_64 ?_
        exact q_iret 65 k_W_tagAt_65 rfl htft
      · have htff := htf.2 c33
        refine q_iload_n 36 k_W_tagAt_36 rfl ?_
        refine q_iload 37 k_W_tagAt_37 rfl ?_
        refine q_icmp_ge 39 64 k_W_tagAt_39 rfl rfl (fun c39 => ?_) (fun c39 => ?_)
        · have htfft := htff.1 c39
          refine q_iconst 64 k_W_tagAt_64 ?_
          exact q_iret 65 k_W_tagAt_65 rfl htfft
        · have htfff := htff.2 c39
          refine q_iload_n 42 k_W_tagAt_42 rfl ?_
          refine q_if_lt 43 64 k_W_tagAt_43 rfl rfl (fun c43 => ?_) (fun c43 => ?_)
          · have htffft := htfff.1 c43
            refine q_iconst 64 k_W_tagAt_64 ?_
            exact q_iret 65 k_W_tagAt_65 rfl htffft
          · have htffff := htfff.2 c43
            refine q_iload_n 46 k_W_tagAt_46 rfl ?_
            refine q_bipush 47 k_W_tagAt_47 (by decide) ?_
            refine q_icmp_ge 49 64 k_W_tagAt_49 rfl rfl (fun c49 => ?_) (fun c49 => ?_)
            · have htfffft := htffff.1 c49
              refine q_iconst 64 k_W_tagAt_64 ?_
              exact q_iret 65 k_W_tagAt_65 rfl htfffft
            · have htfffff := htffff.2 c49
              refine q_iload 52 k_W_tagAt_52 rfl ?_
              refine q_if_lt 54 64 k_W_tagAt_54 rfl rfl (fun c => absurd c (by decide)) (fun _ => ?_)
              refine q_iload 57 k_W_tagAt_57 rfl ?_
              refine q_bipush 59 k_W_tagAt_59 (by decide) ?_
              refine q_icmp_lt 61 66 k_W_tagAt_61 rfl rfl (fun _ => ?_) (fun c => absurd (by decide) c)
              refine q_aload_n 66 k_W_tagAt_66 rfl ?_
              refine q_getfield 67 k_W_tagAt_67 fk_2_24 o0 (v := vI (M 2 i0 2)) rfl ?_
              refine q_iconst 70 k_W_tagAt_70 ?_
              refine q_icmp_ne 71 82 k_W_tagAt_71 rfl rfl (fun c71 => ?_) (fun c71 => ?_)
              · have htffffft := htfffff.1 c71
                refine q_iload_n 82 k_W_tagAt_82 rfl ?_
                refine q_bipush 83 k_W_tagAt_83 (by decide) ?_
                refine q_imul 85 k_W_tagAt_85 ?_
                refine q_iload_n 86 k_W_tagAt_86 rfl ?_
                refine q_iadd 87 k_W_tagAt_87 ?_
                refine q_bipush 88 k_W_tagAt_88 (by decide) ?_
                refine q_imul 90 k_W_tagAt_90 ?_
                refine q_iload 91 k_W_tagAt_91 rfl ?_
                refine q_iadd 93 k_W_tagAt_93 ?_
                exact q_iret 94 k_W_tagAt_94 rfl htffffft
              · have htffffff := htfffff.2 c71
                refine q_aload_n 74 k_W_tagAt_74 rfl ?_
                refine q_iload_n 75 k_W_tagAt_75 rfl ?_
                refine q_vI 76 [vI x1] [] k_W_tagAt_76 lk_2_103 rfl rfl rfl o0 rfl rfl rfl rfl (CallI.mono (fun y4 M3 h10 => ?_) htffffff)
                refine q_goto 79 83 k_W_tagAt_79 rfl rfl ?_
                refine q_bipush 83 k_W_tagAt_83 (by decide) ?_
                refine q_imul 85 k_W_tagAt_85 ?_
                refine q_iload_n 86 k_W_tagAt_86 rfl ?_
                refine q_iadd 87 k_W_tagAt_87 ?_
                refine q_bipush 88 k_W_tagAt_88 (by decide) ?_
                refine q_imul 90 k_W_tagAt_90 ?_
                refine q_iload 91 k_W_tagAt_91 rfl ?_
                refine q_iadd 93 k_W_tagAt_93 ?_
                exact q_iret 94 k_W_tagAt_94 rfl h10
  · have hf := h.2 c5
    refine q_iload_n 8 k_W_tagAt_8 rfl ?_
    refine q_goto 9 13 k_W_tagAt_9 rfl rfl ?_
    refine q_istore 13 k_W_tagAt_13 (ls' := [some (vR 2 i0), some (vI x1), some (vI x2), some (vI x3), some (vI x3), none]) rfl rfl ?_
    refine q_aload_n 15 k_W_tagAt_15 rfl ?_
    refine q_getfield 16 k_W_tagAt_16 fk_2_24 o0 (v := vI (M 2 i0 2)) rfl ?_
    refine q_iconst 19 k_W_tagAt_19 ?_
    refine q_icmp_ne 20 28 k_W_tagAt_20 rfl rfl (fun c20 => ?_) (fun c20 => ?_)
    · have hft := hf.1 c20
      refine q_bipush 28 k_W_tagAt_28 (by decide) ?_
      refine q_istore 30 k_W_tagAt_30 (ls' := [some (vR 2 i0), some (vI x1), some (vI x2), some (vI x3), some (vI x3), some (vI 8)]) rfl rfl ?_
      refine q_iload_n 32 k_W_tagAt_32 rfl ?_
      refine q_if_lt 33 64 k_W_tagAt_33 rfl rfl (fun c33 => ?_) (fun c33 => ?_)
      · have hftt := hft.1 c33
        refine q_iconst 64 k_W_tagAt_64 ?_
        exact q_iret 65 k_W_tagAt_65 rfl hftt
      · have hftf := hft.2 c33
        refine q_iload_n 36 k_W_tagAt_36 rfl ?_
        refine q_iload 37 k_W_tagAt_37 rfl ?_
        refine q_icmp_ge 39 64 k_W_tagAt_39 rfl rfl (fun c39 => ?_) (fun c39 => ?_)
        · have hftft := hftf.1 c39
          refine q_iconst 64 k_W_tagAt_64 ?_
          exact q_iret 65 k_W_tagAt_65 rfl hftft
        · have hftff := hftf.2 c39
          refine q_iload_n 42 k_W_tagAt_42 rfl ?_
          refine q_if_lt 43 64 k_W_tagAt_43 rfl rfl (fun c43 => ?_) (fun c43 => ?_)
          · have hftfft := hftff.1 c43
            refine q_iconst 64 k_W_tagAt_64 ?_
            exact q_iret 65 k_W_tagAt_65 rfl hftfft
          · have hftfff := hftff.2 c43
            refine q_iload_n 46 k_W_tagAt_46 rfl ?_
            refine q_bipush 47 k_W_tagAt_47 (by decide) ?_
            refine q_icmp_ge 49 64 k_W_tagAt_49 rfl rfl (fun c49 => ?_) (fun c49 => ?_)
            · have hftffft := hftfff.1 c49
              refine q_iconst 64 k_W_tagAt_64 ?_
              exact q_iret 65 k_W_tagAt_65 rfl hftffft
            · have hftffff := hftfff.2 c49
              refine q_iload 52 k_W_tagAt_52 rfl ?_
              refine q_if_lt 54 64 k_W_tagAt_54 rfl rfl (fun c54 => ?_) (fun c54 => ?_)
              · have hftfffft := hftffff.1 c54
                refine q_iconst 64 k_W_tagAt_64 ?_
                exact q_iret 65 k_W_tagAt_65 rfl hftfffft
              · have hftfffff := hftffff.2 c54
                refine q_iload 57 k_W_tagAt_57 rfl ?_
                refine q_bipush 59 k_W_tagAt_59 (by decide) ?_
                refine q_icmp_lt 61 66 k_W_tagAt_61 rfl rfl (fun c61 => ?_) (fun c61 => ?_)
                · have hftffffft := hftfffff.1 c61
                  refine q_aload_n 66 k_W_tagAt_66 rfl ?_
                  refine q_getfield 67 k_W_tagAt_67 fk_2_24 o0 (v := vI (M 2 i0 2)) rfl ?_
                  refine q_iconst 70 k_W_tagAt_70 ?_
                  refine q_icmp_ne 71 82 k_W_tagAt_71 rfl rfl (fun c71 => ?_) (fun c71 => ?_)
                  · have hftffffftt := hftffffft.1 c71
                    refine q_iload_n 82 k_W_tagAt_82 rfl ?_
                    refine q_bipush 83 k_W_tagAt_83 (by decide) ?_
                    refine q_imul 85 k_W_tagAt_85 ?_
                    refine q_iload_n 86 k_W_tagAt_86 rfl ?_
                    refine q_iadd 87 k_W_tagAt_87 ?_
                    refine q_bipush 88 k_W_tagAt_88 (by decide) ?_
                    refine q_imul 90 k_W_tagAt_90 ?_
                    refine q_iload 91 k_W_tagAt_91 rfl ?_
                    refine q_iadd 93 k_W_tagAt_93 ?_
                    exact q_iret 94 k_W_tagAt_94 rfl hftffffftt
                  · have hftffffftf := hftffffft.2 c71
                    refine q_aload_n 74 k_W_tagAt_74 rfl ?_
                    refine q_iload_n 75 k_W_tagAt_75 rfl ?_
                    refine q_vI 76 [vI x1] [] k_W_tagAt_76 lk_2_103 rfl rfl rfl o0 rfl rfl rfl rfl (CallI.mono (fun y6 M5 h11 => ?_) hftffffftf)
                    refine q_goto 79 83 k_W_tagAt_79 rfl rfl ?_
                    refine q_bipush 83 k_W_tagAt_83 (by decide) ?_
                    refine q_imul 85 k_W_tagAt_85 ?_
                    refine q_iload_n 86 k_W_tagAt_86 rfl ?_
                    refine q_iadd 87 k_W_tagAt_87 ?_
                    refine q_bipush 88 k_W_tagAt_88 (by decide) ?_
                    refine q_imul 90 k_W_tagAt_90 ?_
                    refine q_iload 91 k_W_tagAt_91 rfl ?_
                    refine q_iadd 93 k_W_tagAt_93 ?_
                    exact q_iret 94 k_W_tagAt_94 rfl h11
                · have hftffffff := hftfffff.2 c61
                  refine q_iconst 64 k_W_tagAt_64 ?_
                  exact q_iret 65 k_W_tagAt_65 rfl hftffffff
    · have hff := hf.2 c20
      refine q_bipush 23 k_W_tagAt_23 (by decide) ?_
      refine q_goto 25 30 k_W_tagAt_25 rfl rfl ?_
      refine q_istore 30 k_W_tagAt_30 (ls' := [some (vR 2 i0), some (vI x1), some (vI x2), some (vI x3), some (vI x3), some (vI 6)]) rfl rfl ?_
      refine q_iload_n 32 k_W_tagAt_32 rfl ?_
      refine q_if_lt 33 64 k_W_tagAt_33 rfl rfl (fun c33 => ?_) (fun c33 => ?_)
      · have hfft := hff.1 c33
        refine q_iconst 64 k_W_tagAt_64 ?_
        exact q_iret 65 k_W_tagAt_65 rfl hfft
      · have hfff := hff.2 c33
        refine q_iload_n 36 k_W_tagAt_36 rfl ?_
        refine q_iload 37 k_W_tagAt_37 rfl ?_
        refine q_icmp_ge 39 64 k_W_tagAt_39 rfl rfl (fun c39 => ?_) (fun c39 => ?_)
        · have hffft := hfff.1 c39
          refine q_iconst 64 k_W_tagAt_64 ?_
          exact q_iret 65 k_W_tagAt_65 rfl hffft
        · have hffff := hfff.2 c39
          refine q_iload_n 42 k_W_tagAt_42 rfl ?_
          refine q_if_lt 43 64 k_W_tagAt_43 rfl rfl (fun c43 => ?_) (fun c43 => ?_)
          · have hfffft := hffff.1 c43
            refine q_iconst 64 k_W_tagAt_64 ?_
            exact q_iret 65 k_W_tagAt_65 rfl hfffft
          · have hfffff := hffff.2 c43
            refine q_iload_n 46 k_W_tagAt_46 rfl ?_
            refine q_bipush 47 k_W_tagAt_47 (by decide) ?_
            refine q_icmp_ge 49 64 k_W_tagAt_49 rfl rfl (fun c49 => ?_) (fun c49 => ?_)
            · have hffffft := hfffff.1 c49
              refine q_iconst 64 k_W_tagAt_64 ?_
              exact q_iret 65 k_W_tagAt_65 rfl hffffft
            · have hffffff := hfffff.2 c49
              refine q_iload 52 k_W_tagAt_52 rfl ?_
              refine q_if_lt 54 64 k_W_tagAt_54 rfl rfl (fun c54 => ?_) (fun c54 => ?_)
              · have hfffffft := hffffff.1 c54
                refine q_iconst 64 k_W_tagAt_64 ?_
                exact q_iret 65 k_W_tagAt_65 rfl hfffffft
              · have hfffffff := hffffff.2 c54
                refine q_iload 57 k_W_tagAt_57 rfl ?_
                refine q_bipush 59 k_W_tagAt_59 (by decide) ?_
                refine q_icmp_lt 61 66 k_W_tagAt_61 rfl rfl (fun c61 => ?_) (fun c61 => ?_)
                · have hffffffft := hfffffff.1 c61
                  refine q_aload_n 66 k_W_tagAt_66 rfl ?_
                  refine q_getfield 67 k_W_tagAt_67 fk_2_24 o0 (v := vI (M 2 i0 2)) rfl ?_
                  refine q_iconst 70 k_W_tagAt_70 ?_
                  refine q_icmp_ne 71 82 k_W_tagAt_71 rfl rfl (fun c71 => ?_) (fun c71 => ?_)
                  · have hffffffftt := hffffffft.1 c71
                    refine q_iload_n 82 k_W_tagAt_82 rfl ?_
                    refine q_bipush 83 k_W_tagAt_83 (by decide) ?_
                    refine q_imul 85 k_W_tagAt_85 ?_
                    refine q_iload_n 86 k_W_tagAt_86 rfl ?_
                    refine q_iadd 87 k_W_tagAt_87 ?_
                    refine q_bipush 88 k_W_tagAt_88 (by decide) ?_
                    refine q_imul 90 k_W_tagAt_90 ?_
                    refine q_iload 91 k_W_tagAt_91 rfl ?_
                    refine q_iadd 93 k_W_tagAt_93 ?_
                    exact q_iret 94 k_W_tagAt_94 rfl hffffffftt
                  · have hffffffftf := hffffffft.2 c71
                    refine q_aload_n 74 k_W_tagAt_74 rfl ?_
                    refine q_iload_n 75 k_W_tagAt_75 rfl ?_
                    refine q_vI 76 [vI x1] [] k_W_tagAt_76 lk_2_103 rfl rfl rfl o0 rfl rfl rfl rfl (CallI.mono (fun y8 M7 h12 => ?_) hffffffftf)
                    refine q_goto 79 83 k_W_tagAt_79 rfl rfl ?_
                    refine q_bipush 83 k_W_tagAt_83 (by decide) ?_
                    refine q_imul 85 k_W_tagAt_85 ?_
                    refine q_iload_n 86 k_W_tagAt_86 rfl ?_
                    refine q_iadd 87 k_W_tagAt_87 ?_
                    refine q_bipush 88 k_W_tagAt_88 (by decide) ?_
                    refine q_imul 90 k_W_tagAt_90 ?_
                    refine q_iload 91 k_W_tagAt_91 rfl ?_
                    refine q_iadd 93 k_W_tagAt_93 ?_
                    exact q_iret 94 k_W_tagAt_94 rfl h12
                · have hffffffff := hfffffff.2 c61
                  refine q_iconst 64 k_W_tagAt_64 ?_
                  exact q_iret 65 k_W_tagAt_65 rfl hffffffff
theorem k_W_canCountTo_0 : decode (mtC m_W_canCountTo) 0 = .ok (.aload_n 0, 1) := by decide +kernel
theorem k_W_canCountTo_1 : decode (mtC m_W_canCountTo) 1 = .ok (.getfield 24, 3) := by decide +kernel
theorem k_W_canCountTo_4 : decode (mtC m_W_canCountTo) 4 = .ok (.iconst (-1), 1) := by decide +kernel
theorem k_W_canCountTo_5 : decode (mtC m_W_canCountTo) 5 = .ok (.if_icmp .eq 22, 3) := by decide +kernel
theorem k_W_canCountTo_8 : decode (mtC m_W_canCountTo) 8 = .ok (.aload_n 0, 1) := by decide +kernel
theorem k_W_canCountTo_9 : decode (mtC m_W_canCountTo) 9 = .ok (.getfield 24, 3) := by decide +kernel
theorem k_W_canCountTo_12 : decode (mtC m_W_canCountTo) 12 = .ok (.iconst 5, 1) := by decide +kernel
theorem k_W_canCountTo_13 : decode (mtC m_W_canCountTo) 13 = .ok (.if_icmp .ne 10, 3) := by decide +kernel
theorem k_W_canCountTo_16 : decode (mtC m_W_canCountTo) 16 = .ok (.iload_n 1, 1) := by decide +kernel
theorem k_W_canCountTo_17 : decode (mtC m_W_canCountTo) 17 = .ok (.sipush 600, 3) := by decide +kernel
theorem k_W_canCountTo_20 : decode (mtC m_W_canCountTo) 20 = .ok (.if_icmp .gt 7, 3) := by decide +kernel
theorem k_W_canCountTo_23 : decode (mtC m_W_canCountTo) 23 = .ok (.iconst 1, 1) := by decide +kernel
theorem k_W_canCountTo_24 : decode (mtC m_W_canCountTo) 24 = .ok (.goto 4, 3) := by decide +kernel
theorem k_W_canCountTo_27 : decode (mtC m_W_canCountTo) 27 = .ok (.iconst 0, 1) := by decide +kernel
theorem k_W_canCountTo_28 : decode (mtC m_W_canCountTo) 28 = .ok (.ireturn, 1) := by decide +kernel
set_option maxHeartbeats 4000000 in
set_option maxRecDepth 100000 in
theorem T_W_canCountTo_0 {d : Nat} {i0 : Nat} {x1 : Int} {M : AMem} {Q : Option AV → AMem → Prop} (o0 : okH 2 i0 = true) (h : ((wI (M 2 i0 2) = (-1)) → Q (some (vI 0)) M) ∧ (¬ (wI (M 2 i0 2) = (-1)) → ((¬ wI (M 2 i0 2) = 5) → Q (some (vI 1)) M) ∧ (¬ (¬ wI (M 2 i0 2) = 5) → ((600 < wI x1) → Q (some (vI 0)) M) ∧ (¬ (600 < wI x1) → Q (some (vI 1)) M)))) : RunQ d m_W_canCountTo 0 [some (vR 2 i0), some (vI x1)] [] M Q := by
  refine q_aload_n 0 k_W_canCountTo_0 rfl ?_
  refine q_getfield 1 k_W_canCountTo_1 fk_2_24 o0 (v := vI (M 2 i0 2)) rfl ?_
  refine q_iconst 4 k_W_canCountTo_4 ?_
  refine q_icmp_eq 5 27 k_W_canCountTo_5 rfl rfl (fun c5 => ?_) (fun c5 => ?_)
  · have ht := h.1 c5
    refine q_iconst 27 k_W_canCountTo_27 ?_
    exact q_zret 28 k_W_canCountTo_28 rfl (Or.inl rfl) ht
  · have hf := h.2 c5
    refine q_aload_n 8 k_W_canCountTo_8 rfl ?_
    refine q_getfield 9 k_W_canCountTo_9 fk_2_24 o0 (v := vI (M 2 i0 2)) rfl ?_
    refine q_iconst 12 k_W_canCountTo_12 ?_
    refine q_icmp_ne 13 23 k_W_canCountTo_13 rfl rfl (fun c13 => ?_) (fun c13 => ?_)
    · have hft := hf.1 c13
      refine q_iconst 23 k_W_canCountTo_23 ?_
      refine q_goto 24 28 k_W_canCountTo_24 rfl rfl ?_
      exact q_zret 28 k_W_canCountTo_28 rfl (Or.inr rfl) hft
    · have hff := hf.2 c13
      refine q_iload_n 16 k_W_canCountTo_16 rfl ?_
      refine q_sipush 17 k_W_canCountTo_17 (by decide) ?_
      refine q_icmp_gt 20 27 k_W_canCountTo_20 rfl rfl (fun c20 => ?_) (fun c20 => ?_)
      · have hfft := hff.1 c20
        refine q_iconst 27 k_W_canCountTo_27 ?_
        exact q_zret 28 k_W_canCountTo_28 rfl (Or.inl rfl) hfft
      · have hfff := hff.2 c20
        refine q_iconst 23 k_W_canCountTo_23 ?_
        refine q_goto 24 28 k_W_canCountTo_24 rfl rfl ?_
        exact q_zret 28 k_W_canCountTo_28 rfl (Or.inr rfl) hfff
theorem k_W_countUpTo_0 : decode (mtC m_W_countUpTo) 0 = .ok (.aload_n 0, 1) := by decide +kernel
theorem k_W_countUpTo_1 : decode (mtC m_W_countUpTo) 1 = .ok (.getfield 24, 3) := by decide +kernel
theorem k_W_countUpTo_4 : decode (mtC m_W_countUpTo) 4 = .ok (.lookupswitch 63 #[(0, 36), (3, 52), (5, 58)], 36) := by decide +kernel
theorem k_W_countUpTo_40 : decode (mtC m_W_countUpTo) 40 = .ok (.aload_n 0, 1) := by decide +kernel
theorem k_W_countUpTo_41 : decode (mtC m_W_countUpTo) 41 = .ok (.getfield 41, 3) := by decide +kernel
theorem k_W_countUpTo_44 : decode (mtC m_W_countUpTo) 44 = .ok (.iconst 1, 1) := by decide +kernel
theorem k_W_countUpTo_45 : decode (mtC m_W_countUpTo) 45 = .ok (.iload_n 1, 1) := by decide +kernel
theorem k_W_countUpTo_46 : decode (mtC m_W_countUpTo) 46 = .ok (.ldc 135, 2) := by decide +kernel
theorem k_W_countUpTo_48 : decode (mtC m_W_countUpTo) 48 = .ok (.invokestatic 170, 3) := by decide +kernel
theorem k_W_countUpTo_51 : decode (mtC m_W_countUpTo) 51 = .ok (.iconst 0, 1) := by decide +kernel
theorem k_W_countUpTo_52 : decode (mtC m_W_countUpTo) 52 = .ok (.invokestatic 173, 3) := by decide +kernel
theorem k_W_countUpTo_55 : decode (mtC m_W_countUpTo) 55 = .ok (.ireturn, 1) := by decide +kernel
theorem k_W_countUpTo_56 : decode (mtC m_W_countUpTo) 56 = .ok (.aload_n 0, 1) := by decide +kernel
theorem k_W_countUpTo_57 : decode (mtC m_W_countUpTo) 57 = .ok (.iload_n 1, 1) := by decide +kernel
theorem k_W_countUpTo_58 : decode (mtC m_W_countUpTo) 58 = .ok (.invokevirtual 177, 3) := by decide +kernel
theorem k_W_countUpTo_61 : decode (mtC m_W_countUpTo) 61 = .ok (.ireturn, 1) := by decide +kernel
theorem k_W_countUpTo_62 : decode (mtC m_W_countUpTo) 62 = .ok (.iload_n 1, 1) := by decide +kernel
theorem k_W_countUpTo_63 : decode (mtC m_W_countUpTo) 63 = .ok (.invokestatic 180, 3) := by decide +kernel
theorem k_W_countUpTo_66 : decode (mtC m_W_countUpTo) 66 = .ok (.ireturn, 1) := by decide +kernel
theorem k_W_countUpTo_67 : decode (mtC m_W_countUpTo) 67 = .ok (.aload_n 0, 1) := by decide +kernel
theorem k_W_countUpTo_68 : decode (mtC m_W_countUpTo) 68 = .ok (.iload_n 1, 1) := by decide +kernel
theorem k_W_countUpTo_69 : decode (mtC m_W_countUpTo) 69 = .ok (.invokevirtual 183, 3) := by decide +kernel
theorem k_W_countUpTo_72 : decode (mtC m_W_countUpTo) 72 = .ok (.ireturn, 1) := by decide +kernel
set_option maxHeartbeats 4000000 in
set_option maxRecDepth 100000 in
theorem T_W_countUpTo_0 {d : Nat} {i0 : Nat} {x1 : Int} {M : AMem} {Q : Option AV → AMem → Prop} (o0 : okH 2 i0 = true) (h : (wI (M 2 i0 2) = 0 → CallI d m_W_countProducts [vI (M 2 i0 3), vI 1, vI (if 100000 < wI x1 then 100000 else x1), vI 0] M (fun y2 M1 => Q (some (vI y2)) M1)) ∧ (wI (M 2 i0 2) = 3 → CallI d m_W_countOfRows [vR 2 i0, vI x1] M (fun y4 M3 => Q (some (vI y4)) M3)) ∧ (wI (M 2 i0 2) = 5 → CallI d m_W_countPrimes [vI x1] M (fun y6 M5 => Q (some (vI y6)) M5)) ∧ (¬ wI (M 2 i0 2) = 0 → ¬ wI (M 2 i0 2) = 3 → ¬ wI (M 2 i0 2) = 5 → CallI d m_W_countOfGrid [vR 2 i0, vI x1] M (fun y8 M7 => Q (some (vI y8)) M7))) : RunQ (d + 1) m_W_countUpTo 0 [some (vR 2 i0), some (vI x1)] [] M Q := by
  refine q_aload_n 0 k_W_countUpTo_0 rfl ?_
  refine q_getfield 1 k_W_countUpTo_1 fk_2_24 o0 (v := vI (M 2 i0 2)) rfl ?_
  by_cases cq0 : wI (M 2 i0 2) = 0
  · refine q_lsw 4 40 k_W_countUpTo_4 rfl (by rw [cq0]; rfl) (by rw [cq0]; rfl) ?_
    have h0 := h.1 cq0
    refine q_aload_n 40 k_W_countUpTo_40 rfl ?_
    refine q_getfield 41 k_W_countUpTo_41 fk_2_41 o0 (v := vI (M 2 i0 3)) rfl ?_
    refine q_iconst 44 k_W_countUpTo_44 ?_
    refine q_iload_n 45 k_W_countUpTo_45 rfl ?_
    refine q_ldc 46 k_W_countUpTo_46 ck_2_135 ?_
    refine q_min 48 k_W_countUpTo_48 rfl rfl ?_
    refine q_iconst 51 k_W_countUpTo_51 ?_
    refine q_sI 52 [vI (M 2 i0 3), vI 1, vI (if 100000 < wI x1 then 100000 else x1), vI 0] [] k_W_countUpTo_52 rfl lk_2_173 rfl rfl rfl rfl rfl rfl (CallI.mono (fun y2 M1 h9 => ?_) h0)
    exact q_iret 55 k_W_countUpTo_55 rfl h9
  by_cases cq1 : wI (M 2 i0 2) = 3
  · refine q_lsw 4 56 k_W_countUpTo_4 rfl (by rw [cq1]; rfl) (by rw [cq1]; rfl) ?_
    have h1 := h.2.1 cq1
    refine q_aload_n 56 k_W_countUpTo_56 rfl ?_
    refine q_iload_n 57 k_W_countUpTo_57 rfl ?_
    refine q_vI 58 [vI x1] [] k_W_countUpTo_58 lk_2_177 rfl rfl rfl o0 rfl rfl rfl rfl (CallI.mono (fun y4 M3 h10 => ?_) h1)
    exact q_iret 61 k_W_countUpTo_61 rfl h10
  by_cases cq2 : wI (M 2 i0 2) = 5
  · refine q_lsw 4 62 k_W_countUpTo_4 rfl (by rw [cq2]; rfl) (by rw [cq2]; rfl) ?_
    have h2 := h.2.2.1 cq2
    refine q_iload_n 62 k_W_countUpTo_62 rfl ?_
    refine q_sI 63 [vI x1] [] k_W_countUpTo_63 rfl lk_2_180 rfl rfl rfl rfl rfl rfl (CallI.mono (fun y6 M5 h11 => ?_) h2)
    exact q_iret 66 k_W_countUpTo_66 rfl h11
  have lz : Op.lookupswitch.offset [(0, 36), (3, 52), (5, 58)] 63 (wI (M 2 i0 2)) = 63 := by rw [Op.lookupswitch.offset_cons, if_neg (fun z => cq0 z.symm), Op.lookupswitch.offset_cons, if_neg (fun z => cq1 z.symm), Op.lookupswitch.offset_cons, if_neg (fun z => cq2 z.symm)]; rfl
  refine q_lsw 4 67 k_W_countUpTo_4 rfl (by show jok 4 (Op.lookupswitch.offset _ _ _) = true; erw [lz]; rfl) (by show jmp 4 (Op.lookupswitch.offset _ _ _) = _; erw [lz]; rfl) ?_
  have hd := h.2.2.2 cq0 cq1 cq2
  refine q_aload_n 67 k_W_countUpTo_67 rfl ?_
  refine q_iload_n 68 k_W_countUpTo_68 rfl ?_
  refine q_vI 69 [vI x1] [] k_W_countUpTo_69 lk_2_183 rfl rfl rfl o0 rfl rfl rfl rfl (CallI.mono (fun y8 M7 h12 => ?_) hd)
  exact q_iret 72 k_W_countUpTo_72 rfl h12
theorem k_W_countProducts_0 : decode (mtC m_W_countProducts) 0 = .ok (.iload_n 3, 1) := by decide +kernel
theorem k_W_countProducts_1 : decode (mtC m_W_countProducts) 1 = .ok (.ifCond .lt 11, 3) := by decide +kernel
theorem k_W_countProducts_4 : decode (mtC m_W_countProducts) 4 = .ok (.iload_n 3, 1) := by decide +kernel
theorem k_W_countProducts_5 : decode (mtC m_W_countProducts) 5 = .ok (.getstatic 127, 3) := by decide +kernel
theorem k_W_countProducts_8 : decode (mtC m_W_countProducts) 8 = .ok (.arraylength, 1) := by decide +kernel
theorem k_W_countProducts_9 : decode (mtC m_W_countProducts) 9 = .ok (.if_icmp .lt 14, 3) := by decide +kernel
theorem k_W_countProducts_12 : decode (mtC m_W_countProducts) 12 = .ok (.iload_n 1, 1) := by decide +kernel
theorem k_W_countProducts_13 : decode (mtC m_W_countProducts) 13 = .ok (.iload_n 2, 1) := by decide +kernel
theorem k_W_countProducts_14 : decode (mtC m_W_countProducts) 14 = .ok (.if_icmp .gt 7, 3) := by decide +kernel
theorem k_W_countProducts_17 : decode (mtC m_W_countProducts) 17 = .ok (.iconst 1, 1) := by decide +kernel
theorem k_W_countProducts_18 : decode (mtC m_W_countProducts) 18 = .ok (.goto 4, 3) := by decide +kernel
theorem k_W_countProducts_21 : decode (mtC m_W_countProducts) 21 = .ok (.iconst 0, 1) := by decide +kernel
theorem k_W_countProducts_22 : decode (mtC m_W_countProducts) 22 = .ok (.ireturn, 1) := by decide +kernel
theorem k_W_countProducts_23 : decode (mtC m_W_countProducts) 23 = .ok (.iload_n 0, 1) := by decide +kernel
theorem k_W_countProducts_24 : decode (mtC m_W_countProducts) 24 = .ok (.iload_n 3, 1) := by decide +kernel
theorem k_W_countProducts_25 : decode (mtC m_W_countProducts) 25 = .ok (.invokestatic 131, 3) := by decide +kernel
theorem k_W_countProducts_28 : decode (mtC m_W_countProducts) 28 = .ok (.ifCond .ne 13, 3) := by decide +kernel
theorem k_W_countProducts_31 : decode (mtC m_W_countProducts) 31 = .ok (.iload_n 0, 1) := by decide +kernel
theorem k_W_countProducts_32 : decode (mtC m_W_countProducts) 32 = .ok (.iload_n 1, 1) := by decide +kernel
theorem k_W_countProducts_33 : decode (mtC m_W_countProducts) 33 = .ok (.iload_n 2, 1) := by decide +kernel
theorem k_W_countProducts_34 : decode (mtC m_W_countProducts) 34 = .ok (.iload_n 3, 1) := by decide +kernel
theorem k_W_countProducts_35 : decode (mtC m_W_countProducts) 35 = .ok (.iconst 1, 1) := by decide +kernel
theorem k_W_countProducts_36 : decode (mtC m_W_countProducts) 36 = .ok (.iadd, 1) := by decide +kernel
theorem k_W_countProducts_37 : decode (mtC m_W_countProducts) 37 = .ok (.invokestatic 173, 3) := by decide +kernel
theorem k_W_countProducts_40 : decode (mtC m_W_countProducts) 40 = .ok (.ireturn, 1) := by decide +kernel
theorem k_W_countProducts_41 : decode (mtC m_W_countProducts) 41 = .ok (.iconst 0, 1) := by decide +kernel
theorem k_W_countProducts_42 : decode (mtC m_W_countProducts) 42 = .ok (.istore 4, 2) := by decide +kernel
theorem k_W_countProducts_44 : decode (mtC m_W_countProducts) 44 = .ok (.iload_n 1, 1) := by decide +kernel
theorem k_W_countProducts_45 : decode (mtC m_W_countProducts) 45 = .ok (.istore 5, 2) := by decide +kernel
theorem k_W_countProducts_47 : decode (mtC m_W_countProducts) 47 = .ok (.iconst 0, 1) := by decide +kernel
theorem k_W_countProducts_48 : decode (mtC m_W_countProducts) 48 = .ok (.istore 6, 2) := by decide +kernel
theorem k_W_countProducts_50 : decode (mtC m_W_countProducts) 50 = .ok (.iload 6, 2) := by decide +kernel
theorem k_W_countProducts_52 : decode (mtC m_W_countProducts) 52 = .ok (.bipush 17, 2) := by decide +kernel
theorem k_W_countProducts_54 : decode (mtC m_W_countProducts) 54 = .ok (.if_icmp .ge 40, 3) := by decide +kernel
theorem k_W_countProducts_57 : decode (mtC m_W_countProducts) 57 = .ok (.iload 5, 2) := by decide +kernel
theorem k_W_countProducts_59 : decode (mtC m_W_countProducts) 59 = .ok (.iload_n 2, 1) := by decide +kernel
theorem k_W_countProducts_60 : decode (mtC m_W_countProducts) 60 = .ok (.if_icmp .gt 34, 3) := by decide +kernel
theorem k_W_countProducts_63 : decode (mtC m_W_countProducts) 63 = .ok (.iload 4, 2) := by decide +kernel
theorem k_W_countProducts_65 : decode (mtC m_W_countProducts) 65 = .ok (.iload_n 0, 1) := by decide +kernel
theorem k_W_countProducts_66 : decode (mtC m_W_countProducts) 66 = .ok (.iload 5, 2) := by decide +kernel
theorem k_W_countProducts_68 : decode (mtC m_W_countProducts) 68 = .ok (.iload_n 2, 1) := by decide +kernel
theorem k_W_countProducts_69 : decode (mtC m_W_countProducts) 69 = .ok (.iload_n 3, 1) := by decide +kernel
theorem k_W_countProducts_70 : decode (mtC m_W_countProducts) 70 = .ok (.iconst 1, 1) := by decide +kernel
theorem k_W_countProducts_71 : decode (mtC m_W_countProducts) 71 = .ok (.iadd, 1) := by decide +kernel
theorem k_W_countProducts_72 : decode (mtC m_W_countProducts) 72 = .ok (.invokestatic 173, 3) := by decide +kernel
theorem k_W_countProducts_75 : decode (mtC m_W_countProducts) 75 = .ok (.iadd, 1) := by decide +kernel
theorem k_W_countProducts_76 : decode (mtC m_W_countProducts) 76 = .ok (.istore 4, 2) := by decide +kernel
theorem k_W_countProducts_78 : decode (mtC m_W_countProducts) 78 = .ok (.iload 5, 2) := by decide +kernel
theorem k_W_countProducts_80 : decode (mtC m_W_countProducts) 80 = .ok (.getstatic 127, 3) := by decide +kernel
theorem k_W_countProducts_83 : decode (mtC m_W_countProducts) 83 = .ok (.iload_n 3, 1) := by decide +kernel
theorem k_W_countProducts_84 : decode (mtC m_W_countProducts) 84 = .ok (.iaload, 1) := by decide +kernel
theorem k_W_countProducts_85 : decode (mtC m_W_countProducts) 85 = .ok (.imul, 1) := by decide +kernel
theorem k_W_countProducts_86 : decode (mtC m_W_countProducts) 86 = .ok (.istore 5, 2) := by decide +kernel
theorem k_W_countProducts_88 : decode (mtC m_W_countProducts) 88 = .ok (.iinc 6 1, 3) := by decide +kernel
theorem k_W_countProducts_91 : decode (mtC m_W_countProducts) 91 = .ok (.goto (-41), 3) := by decide +kernel
theorem k_W_countProducts_94 : decode (mtC m_W_countProducts) 94 = .ok (.iload 4, 2) := by decide +kernel
theorem k_W_countProducts_96 : decode (mtC m_W_countProducts) 96 = .ok (.ireturn, 1) := by decide +kernel
set_option maxHeartbeats 4000000 in
set_option maxRecDepth 100000 in
theorem T_W_countProducts_0 {d : Nat} {x0 : Int} {x1 : Int} {x2 : Int} {x3 : Int} {M : AMem} {Q : Option AV → AMem → Prop}  (h : ((wI x3 < 0) → ((wI x2 < wI x1) → Q (some (vI 0)) M) ∧ (¬ (wI x2 < wI x1) → Q (some (vI 1)) M)) ∧ (¬ (wI x3 < 0) → ((wI x3 < 6) → CallI d m_W_isMember [vI x0, vI x3] M (fun y2 M1 => ((¬ wI y2 = 0) → RunQ (d + 1) m_W_countProducts 50 [some (vI x0), some (vI x1), some (vI x2), some (vI x3), some (vI 0), some (vI x1), some (vI 0)] [] M1 Q) ∧ (¬ (¬ wI y2 = 0) → CallI d m_W_countProducts [vI x0, vI x1, vI x2, vI (x3 + 1)] M1 (fun y4 M3 => Q (some (vI y4)) M3)))) ∧ (¬ (wI x3 < 6) → ((wI x2 < wI x1) → Q (some (vI 0)) M) ∧ (¬ (wI x2 < wI x1) → Q (some (vI 1)) M)))) : RunQ (d + 1) m_W_countProducts 0 [some (vI x0), some (vI x1), some (vI x2), some (vI x3), none, none, none] [] M Q := by
  refine q_iload_n 0 k_W_countProducts_0 rfl ?_
  refine q_if_lt 1 12 k_W_countProducts_1 rfl rfl (fun c1 => ?_) (fun c1 => ?_)
  · have ht := h.1 c1
    refine q_iload_n 12 k_W_countProducts_12 rfl ?_
    refine q_iload_n 13 k_W_countProducts_13 rfl ?_
    refine q_icmp_gt 14 21 k_W_countProducts_14 rfl rfl (fun c14 => ?_) (fun c14 => ?_)
    · have htt := ht.1 c14
      refine q_iconst 21 k_W_countProducts_21 ?_
      exact q_iret 22 k_W_countProducts_22 rfl htt
    · have htf := ht.2 c14
      refine q_iconst 17 k_W_countProducts_17 ?_
      refine q_goto 18 22 k_W_countProducts_18 rfl rfl ?_
      exact q_iret 22 k_W_countProducts_22 rfl htf
  · have hf := h.2 c1
    refine q_iload_n 4 k_W_countProducts_4 rfl ?_
    refine q_getstatic 5 k_W_countProducts_5 (a := 10) rfl ?_
    refine q_alen 8 k_W_countProducts_8 rfl rfl (z := 6) rfl ?_
    refine q_icmp_lt 9 23 k_W_countProducts_9 rfl rfl (fun c9 => ?_) (fun c9 => ?_)
    · have hft := hf.1 c9
      refine q_iload_n 23 k_W_countProducts_23 rfl ?_
      refine q_iload_n 24 k_W_countProducts_24 rfl ?_
      refine q_sI 25 [vI x0, vI x3] [] k_W_countProducts_25 rfl lk_2_131 rfl rfl rfl rfl rfl rfl (CallI.mono (fun y2 M1 h5 => ?_) hft)
      refine q_if_ne 28 41 k_W_countProducts_28 rfl rfl (fun c28 => ?_) (fun c28 => ?_)
      · have h5t := h5.1 c28
        refine q_iconst 41 k_W_countProducts_41 ?_
        refine q_istore 42 k_W_countProducts_42 (ls' := [some (vI x0), some (vI x1), some (vI x2), some (vI x3), some (vI 0), none, none]) rfl rfl ?_
        refine q_iload_n 44 k_W_countProducts_44 rfl ?_
        refine q_istore 45 k_W_countProducts_45 (ls' := [some (vI x0), some (vI x1), some (vI x2), some (vI x3), some (vI 0), some (vI x1), none]) rfl rfl ?_
        refine q_iconst 47 k_W_countProducts_47 ?_
        refine q_istore 48 k_W_countProducts_48 (ls' := [some (vI x0), some (vI x1), some (vI x2), some (vI x3), some (vI 0), some (vI x1), some (vI 0)]) rfl rfl ?_
        exact h5t
      · have h5f := h5.2 c28
        refine q_iload_n 31 k_W_countProducts_31 rfl ?_
        refine q_iload_n 32 k_W_countProducts_32 rfl ?_
        refine q_iload_n 33 k_W_countProducts_33 rfl ?_
        refine q_iload_n 34 k_W_countProducts_34 rfl ?_
        refine q_iconst 35 k_W_countProducts_35 ?_
        refine q_iadd 36 k_W_countProducts_36 ?_
        refine q_sI 37 [vI x0, vI x1, vI x2, vI (x3 + 1)] [] k_W_countProducts_37 rfl lk_2_173 rfl rfl rfl rfl rfl rfl (CallI.mono (fun y4 M3 h6 => ?_) h5f)
        exact q_iret 40 k_W_countProducts_40 rfl h6
    · have hff := hf.2 c9
      refine q_iload_n 12 k_W_countProducts_12 rfl ?_
      refine q_iload_n 13 k_W_countProducts_13 rfl ?_
      refine q_icmp_gt 14 21 k_W_countProducts_14 rfl rfl (fun c14 => ?_) (fun c14 => ?_)
      · have hfft := hff.1 c14
        refine q_iconst 21 k_W_countProducts_21 ?_
        exact q_iret 22 k_W_countProducts_22 rfl hfft
      · have hfff := hff.2 c14
        refine q_iconst 17 k_W_countProducts_17 ?_
        refine q_goto 18 22 k_W_countProducts_18 rfl rfl ?_
        exact q_iret 22 k_W_countProducts_22 rfl hfff
set_option maxHeartbeats 4000000 in
set_option maxRecDepth 100000 in
theorem T_W_countProducts_50 {d : Nat} {x0 : Int} {x1 : Int} {x2 : Int} {x3 : Int} {x4 : Int} {x5 : Int} {x6 : Int} {M : AMem} {Q : Option AV → AMem → Prop}  (h : ((17 ≤ wI x6) → Q (some (vI x4)) M) ∧ (¬ (17 ≤ wI x6) → ((wI x2 < wI x5) → Q (some (vI x4)) M) ∧ (¬ (wI x2 < wI x5) → CallI d m_W_countProducts [vI x0, vI x5, vI x2, vI (x3 + 1)] M (fun y2 M1 => (0 ≤ wI x3 ∧ wI x3 < (6 : Nat)) ∧ (RunQ (d + 1) m_W_countProducts 50 [some (vI x0), some (vI x1), some (vI x2), some (vI x3), some (vI (x4 + y2)), some (vI (x5 * (bas (wI x3).toNat))), some (vI (x6 + 1))] [] M1 Q))))) : RunQ (d + 1) m_W_countProducts 50 [some (vI x0), some (vI x1), some (vI x2), some (vI x3), some (vI x4), some (vI x5), some (vI x6)] [] M Q := by
  refine q_iload 50 k_W_countProducts_50 rfl ?_
  refine q_bipush 52 k_W_countProducts_52 (by decide) ?_
  refine q_icmp_ge 54 94 k_W_countProducts_54 rfl rfl (fun c54 => ?_) (fun c54 => ?_)
  · have ht := h.1 c54
    refine q_iload 94 k_W_countProducts_94 rfl ?_
    exact q_iret 96 k_W_countProducts_96 rfl ht
  · have hf := h.2 c54
    refine q_iload 57 k_W_countProducts_57 rfl ?_
    refine q_iload_n 59 k_W_countProducts_59 rfl ?_
    refine q_icmp_gt 60 94 k_W_countProducts_60 rfl rfl (fun c60 => ?_) (fun c60 => ?_)
    · have hft := hf.1 c60
      refine q_iload 94 k_W_countProducts_94 rfl ?_
      exact q_iret 96 k_W_countProducts_96 rfl hft
    · have hff := hf.2 c60
      refine q_iload 63 k_W_countProducts_63 rfl ?_
      refine q_iload_n 65 k_W_countProducts_65 rfl ?_
      refine q_iload 66 k_W_countProducts_66 rfl ?_
      refine q_iload_n 68 k_W_countProducts_68 rfl ?_
      refine q_iload_n 69 k_W_countProducts_69 rfl ?_
      refine q_iconst 70 k_W_countProducts_70 ?_
      refine q_iadd 71 k_W_countProducts_71 ?_
      refine q_sI 72 [vI x0, vI x5, vI x2, vI (x3 + 1)] [vI x4] k_W_countProducts_72 rfl lk_2_173 rfl rfl rfl rfl rfl rfl (CallI.mono (fun y2 M1 h4 => ?_) hff)
      refine q_iadd 75 k_W_countProducts_75 ?_
      refine q_istore 76 k_W_countProducts_76 (ls' := [some (vI x0), some (vI x1), some (vI x2), some (vI x3), some (vI (x4 + y2)), some (vI x5), some (vI x6)]) rfl rfl ?_
      refine q_iload 78 k_W_countProducts_78 rfl ?_
      refine q_getstatic 80 k_W_countProducts_80 (a := 10) rfl ?_
      refine q_iload_n 83 k_W_countProducts_83 rfl ?_
      have hb3 := h4.1
      refine q_iaload 84 k_W_countProducts_84 rfl (n := 6) rfl hb3 (z := (bas (wI x3).toNat)) rfl ?_
      have h4' := h4.2
      refine q_imul 85 k_W_countProducts_85 ?_
      refine q_istore 86 k_W_countProducts_86 (ls' := [some (vI x0), some (vI x1), some (vI x2), some (vI x3), some (vI (x4 + y2)), some (vI (x5 * (bas (wI x3).toNat))), some (vI x6)]) rfl rfl ?_
      refine q_iinc 88 k_W_countProducts_88 (ls' := [some (vI x0), some (vI x1), some (vI x2), some (vI x3), some (vI (x4 + y2)), some (vI (x5 * (bas (wI x3).toNat))), some (vI (x6 + 1))]) rfl rfl rfl ?_
      refine q_goto 91 50 k_W_countProducts_91 rfl rfl ?_
      exact h4'
theorem k_W_countOfRows_0 : decode (mtC m_W_countOfRows) 0 = .ok (.iconst 0, 1) := by decide +kernel
theorem k_W_countOfRows_1 : decode (mtC m_W_countOfRows) 1 = .ok (.istore_n 2, 1) := by decide +kernel
theorem k_W_countOfRows_2 : decode (mtC m_W_countOfRows) 2 = .ok (.iconst 0, 1) := by decide +kernel
theorem k_W_countOfRows_3 : decode (mtC m_W_countOfRows) 3 = .ok (.istore_n 3, 1) := by decide +kernel
theorem k_W_countOfRows_4 : decode (mtC m_W_countOfRows) 4 = .ok (.iload_n 3, 1) := by decide +kernel
theorem k_W_countOfRows_5 : decode (mtC m_W_countOfRows) 5 = .ok (.aload_n 0, 1) := by decide +kernel
theorem k_W_countOfRows_6 : decode (mtC m_W_countOfRows) 6 = .ok (.getfield 11, 3) := by decide +kernel
theorem k_W_countOfRows_9 : decode (mtC m_W_countOfRows) 9 = .ok (.arraylength, 1) := by decide +kernel
theorem k_W_countOfRows_10 : decode (mtC m_W_countOfRows) 10 = .ok (.if_icmp .ge 33, 3) := by decide +kernel
theorem k_W_countOfRows_13 : decode (mtC m_W_countOfRows) 13 = .ok (.aload_n 0, 1) := by decide +kernel
theorem k_W_countOfRows_14 : decode (mtC m_W_countOfRows) 14 = .ok (.getfield 41, 3) := by decide +kernel
theorem k_W_countOfRows_17 : decode (mtC m_W_countOfRows) 17 = .ok (.iload_n 3, 1) := by decide +kernel
theorem k_W_countOfRows_18 : decode (mtC m_W_countOfRows) 18 = .ok (.invokestatic 131, 3) := by decide +kernel
theorem k_W_countOfRows_21 : decode (mtC m_W_countOfRows) 21 = .ok (.ifCond .eq 16, 3) := by decide +kernel
theorem k_W_countOfRows_24 : decode (mtC m_W_countOfRows) 24 = .ok (.iload_n 2, 1) := by decide +kernel
theorem k_W_countOfRows_25 : decode (mtC m_W_countOfRows) 25 = .ok (.aload_n 0, 1) := by decide +kernel
theorem k_W_countOfRows_26 : decode (mtC m_W_countOfRows) 26 = .ok (.getfield 11, 3) := by decide +kernel
theorem k_W_countOfRows_29 : decode (mtC m_W_countOfRows) 29 = .ok (.iload_n 3, 1) := by decide +kernel
theorem k_W_countOfRows_30 : decode (mtC m_W_countOfRows) 30 = .ok (.aaload, 1) := by decide +kernel
theorem k_W_countOfRows_31 : decode (mtC m_W_countOfRows) 31 = .ok (.iload_n 1, 1) := by decide +kernel
theorem k_W_countOfRows_32 : decode (mtC m_W_countOfRows) 32 = .ok (.invokevirtual 186, 3) := by decide +kernel
theorem k_W_countOfRows_35 : decode (mtC m_W_countOfRows) 35 = .ok (.iadd, 1) := by decide +kernel
theorem k_W_countOfRows_36 : decode (mtC m_W_countOfRows) 36 = .ok (.istore_n 2, 1) := by decide +kernel
theorem k_W_countOfRows_37 : decode (mtC m_W_countOfRows) 37 = .ok (.iinc 3 1, 3) := by decide +kernel
theorem k_W_countOfRows_40 : decode (mtC m_W_countOfRows) 40 = .ok (.goto (-36), 3) := by decide +kernel
theorem k_W_countOfRows_43 : decode (mtC m_W_countOfRows) 43 = .ok (.iload_n 2, 1) := by decide +kernel
theorem k_W_countOfRows_44 : decode (mtC m_W_countOfRows) 44 = .ok (.ireturn, 1) := by decide +kernel
set_option maxHeartbeats 4000000 in
set_option maxRecDepth 100000 in
theorem T_W_countOfRows_0 {d : Nat} {i0 : Nat} {x1 : Int} {M : AMem} {Q : Option AV → AMem → Prop} (o0 : okH 2 i0 = true) (h : RunQ (d + 1) m_W_countOfRows 4 [some (vR 2 i0), some (vI x1), some (vI 0), some (vI 0)] [] M Q) : RunQ (d + 1) m_W_countOfRows 0 [some (vR 2 i0), some (vI x1), none, none] [] M Q := by
  refine q_iconst 0 k_W_countOfRows_0 ?_
  refine q_istore_n 1 k_W_countOfRows_1 (ls' := [some (vR 2 i0), some (vI x1), some (vI 0), none]) rfl rfl ?_
  refine q_iconst 2 k_W_countOfRows_2 ?_
  refine q_istore_n 3 k_W_countOfRows_3 (ls' := [some (vR 2 i0), some (vI x1), some (vI 0), some (vI 0)]) rfl rfl ?_
  exact h
set_option maxHeartbeats 4000000 in
set_option maxRecDepth 100000 in
theorem T_W_countOfRows_4 {d : Nat} {i0 : Nat} {x1 : Int} {x2 : Int} {x3 : Int} {M : AMem} {Q : Option AV → AMem → Prop} (o0 : okH 2 i0 = true) (h : ((6 ≤ wI x3) → Q (some (vI x2)) M) ∧ (¬ (6 ≤ wI x3) → CallI d m_W_isMember [vI (M 2 i0 3), vI x3] M (fun y2 M1 => ((wI y2 = 0) → RunQ (d + 1) m_W_countOfRows 4 [some (vR 2 i0), some (vI x1), some (vI x2), some (vI (x3 + 1))] [] M1 Q) ∧ (¬ (wI y2 = 0) → (0 ≤ wI x3 ∧ wI x3 < (6 : Nat)) ∧ (CallI d m_R_countUpTo [vR 1 (6 * i0 + (wI x3).toNat), vI x1] M1 (fun y5 M4 => RunQ (d + 1) m_W_countOfRows 4 [some (vR 2 i0), some (vI x1), some (vI (x2 + y5)), some (vI (x3 + 1))] [] M4 Q)))))) : RunQ (d + 1) m_W_countOfRows 4 [some (vR 2 i0), some (vI x1), some (vI x2), some (vI x3)] [] M Q := by
  refine q_iload_n 4 k_W_countOfRows_4 rfl ?_
  refine q_aload_n 5 k_W_countOfRows_5 rfl ?_
  refine q_getfield 6 k_W_countOfRows_6 fk_2_11 o0 (v := vR 6 i0) rfl ?_
  refine q_alen 9 k_W_countOfRows_9 o0 rfl (z := 6) rfl ?_
  refine q_icmp_ge 10 43 k_W_countOfRows_10 rfl rfl (fun c10 => ?_) (fun c10 => ?_)
  · have ht := h.1 c10
    refine q_iload_n 43 k_W_countOfRows_43 rfl ?_
    exact q_iret 44 k_W_countOfRows_44 rfl ht
  · have hf := h.2 c10
    refine q_aload_n 13 k_W_countOfRows_13 rfl ?_
    refine q_getfield 14 k_W_countOfRows_14 fk_2_41 o0 (v := vI (M 2 i0 3)) rfl ?_
    refine q_iload_n 17 k_W_countOfRows_17 rfl ?_
    refine q_sI 18 [vI (M 2 i0 3), vI x3] [] k_W_countOfRows_18 rfl lk_2_131 rfl rfl rfl rfl rfl rfl (CallI.mono (fun y2 M1 h6 => ?_) hf)
    refine q_if_eq 21 37 k_W_countOfRows_21 rfl rfl (fun c21 => ?_) (fun c21 => ?_)
    · have h6t := h6.1 c21
      refine q_iinc 37 k_W_countOfRows_37 (ls' := [some (vR 2 i0), some (vI x1), some (vI x2), some (vI (x3 + 1))]) rfl rfl rfl ?_
      refine q_goto 40 4 k_W_countOfRows_40 rfl rfl ?_
      exact h6t
    · have h6f := h6.2 c21
      refine q_iload_n 24 k_W_countOfRows_24 rfl ?_
      refine q_aload_n 25 k_W_countOfRows_25 rfl ?_
      refine q_getfield 26 k_W_countOfRows_26 fk_2_11 o0 (v := vR 6 i0) rfl ?_
      refine q_iload_n 29 k_W_countOfRows_29 rfl ?_
      have hb3 := h6f.1
      refine q_aaload 30 k_W_countOfRows_30 o0 (n := 6) rfl hb3 (kd := 1) (x := (6 * i0 + (wI x3).toNat)) rfl ?_
      have h6f' := h6f.2
      refine q_iload_n 31 k_W_countOfRows_31 rfl ?_
      refine q_vI 32 [vI x1] [vI x2] k_W_countOfRows_32 lk_2_186 rfl rfl rfl (ok_r6 o0 hb3) rfl rfl rfl rfl (CallI.mono (fun y5 M4 h7 => ?_) h6f')
      refine q_iadd 35 k_W_countOfRows_35 ?_
      refine q_istore_n 36 k_W_countOfRows_36 (ls' := [some (vR 2 i0), some (vI x1), some (vI (x2 + y5)), some (vI x3)]) rfl rfl ?_
      refine q_iinc 37 k_W_countOfRows_37 (ls' := [some (vR 2 i0), some (vI x1), some (vI (x2 + y5)), some (vI (x3 + 1))]) rfl rfl rfl ?_
      refine q_goto 40 4 k_W_countOfRows_40 rfl rfl ?_
      exact h7
theorem k_W_countPrimes_0 : decode (mtC m_W_countPrimes) 0 = .ok (.iconst 0, 1) := by decide +kernel
theorem k_W_countPrimes_1 : decode (mtC m_W_countPrimes) 1 = .ok (.istore_n 1, 1) := by decide +kernel
theorem k_W_countPrimes_2 : decode (mtC m_W_countPrimes) 2 = .ok (.iconst 2, 1) := by decide +kernel
theorem k_W_countPrimes_3 : decode (mtC m_W_countPrimes) 3 = .ok (.istore_n 2, 1) := by decide +kernel
theorem k_W_countPrimes_4 : decode (mtC m_W_countPrimes) 4 = .ok (.iload_n 2, 1) := by decide +kernel
theorem k_W_countPrimes_5 : decode (mtC m_W_countPrimes) 5 = .ok (.iload_n 0, 1) := by decide +kernel
theorem k_W_countPrimes_6 : decode (mtC m_W_countPrimes) 6 = .ok (.if_icmp .gt 26, 3) := by decide +kernel
theorem k_W_countPrimes_9 : decode (mtC m_W_countPrimes) 9 = .ok (.iload_n 2, 1) := by decide +kernel
theorem k_W_countPrimes_10 : decode (mtC m_W_countPrimes) 10 = .ok (.sipush 600, 3) := by decide +kernel
theorem k_W_countPrimes_13 : decode (mtC m_W_countPrimes) 13 = .ok (.if_icmp .gt 19, 3) := by decide +kernel
theorem k_W_countPrimes_16 : decode (mtC m_W_countPrimes) 16 = .ok (.iload_n 2, 1) := by decide +kernel
theorem k_W_countPrimes_17 : decode (mtC m_W_countPrimes) 17 = .ok (.invokestatic 156, 3) := by decide +kernel
theorem k_W_countPrimes_20 : decode (mtC m_W_countPrimes) 20 = .ok (.ifCond .eq 6, 3) := by decide +kernel
theorem k_W_countPrimes_23 : decode (mtC m_W_countPrimes) 23 = .ok (.iinc 1 1, 3) := by decide +kernel
theorem k_W_countPrimes_26 : decode (mtC m_W_countPrimes) 26 = .ok (.iinc 2 1, 3) := by decide +kernel
theorem k_W_countPrimes_29 : decode (mtC m_W_countPrimes) 29 = .ok (.goto (-25), 3) := by decide +kernel
theorem k_W_countPrimes_32 : decode (mtC m_W_countPrimes) 32 = .ok (.iload_n 1, 1) := by decide +kernel
theorem k_W_countPrimes_33 : decode (mtC m_W_countPrimes) 33 = .ok (.ireturn, 1) := by decide +kernel
set_option maxHeartbeats 4000000 in
set_option maxRecDepth 100000 in
theorem T_W_countPrimes_0 {d : Nat} {x0 : Int} {M : AMem} {Q : Option AV → AMem → Prop}  (h : RunQ (d + 1) m_W_countPrimes 4 [some (vI x0), some (vI 0), some (vI 2)] [] M Q) : RunQ (d + 1) m_W_countPrimes 0 [some (vI x0), none, none] [] M Q := by
  refine q_iconst 0 k_W_countPrimes_0 ?_
  refine q_istore_n 1 k_W_countPrimes_1 (ls' := [some (vI x0), some (vI 0), none]) rfl rfl ?_
  refine q_iconst 2 k_W_countPrimes_2 ?_
  refine q_istore_n 3 k_W_countPrimes_3 (ls' := [some (vI x0), some (vI 0), some (vI 2)]) rfl rfl ?_
  exact h
set_option maxHeartbeats 4000000 in
set_option maxRecDepth 100000 in
theorem T_W_countPrimes_4 {d : Nat} {x0 : Int} {x1 : Int} {x2 : Int} {M : AMem} {Q : Option AV → AMem → Prop}  (h : ((wI x0 < wI x2) → Q (some (vI x1)) M) ∧ (¬ (wI x0 < wI x2) → ((600 < wI x2) → Q (some (vI x1)) M) ∧ (¬ (600 < wI x2) → CallI d m_W_isPrime [vI x2] M (fun y2 M1 => ((wI y2 = 0) → RunQ (d + 1) m_W_countPrimes 4 [some (vI x0), some (vI x1), some (vI (x2 + 1))] [] M1 Q) ∧ (¬ (wI y2 = 0) → RunQ (d + 1) m_W_countPrimes 4 [some (vI x0), some (vI (x1 + 1)), some (vI (x2 + 1))] [] M1 Q))))) : RunQ (d + 1) m_W_countPrimes 4 [some (vI x0), some (vI x1), some (vI x2)] [] M Q := by
  refine q_iload_n 4 k_W_countPrimes_4 rfl ?_
  refine q_iload_n 5 k_W_countPrimes_5 rfl ?_
  refine q_icmp_gt 6 32 k_W_countPrimes_6 rfl rfl (fun c6 => ?_) (fun c6 => ?_)
  · have ht := h.1 c6
    refine q_iload_n 32 k_W_countPrimes_32 rfl ?_
    exact q_iret 33 k_W_countPrimes_33 rfl ht
  · have hf := h.2 c6
    refine q_iload_n 9 k_W_countPrimes_9 rfl ?_
    refine q_sipush 10 k_W_countPrimes_10 (by decide) ?_
    refine q_icmp_gt 13 32 k_W_countPrimes_13 rfl rfl (fun c13 => ?_) (fun c13 => ?_)
    · have hft := hf.1 c13
      refine q_iload_n 32 k_W_countPrimes_32 rfl ?_
      exact q_iret 33 k_W_countPrimes_33 rfl hft
    · have hff := hf.2 c13
      refine q_iload_n 16 k_W_countPrimes_16 rfl ?_
      refine q_sI 17 [vI x2] [] k_W_countPrimes_17 rfl lk_2_156 rfl rfl rfl rfl rfl rfl (CallI.mono (fun y2 M1 h3 => ?_) hff)
      refine q_if_eq 20 26 k_W_countPrimes_20 rfl rfl (fun c20 => ?_) (fun c20 => ?_)
      · have h3t := h3.1 c20
        refine q_iinc 26 k_W_countPrimes_26 (ls' := [some (vI x0), some (vI x1), some (vI (x2 + 1))]) rfl rfl rfl ?_
        refine q_goto 29 4 k_W_countPrimes_29 rfl rfl ?_
        exact h3t
      · have h3f := h3.2 c20
        refine q_iinc 23 k_W_countPrimes_23 (ls' := [some (vI x0), some (vI (x1 + 1)), some (vI x2)]) rfl rfl rfl ?_
        refine q_iinc 26 k_W_countPrimes_26 (ls' := [some (vI x0), some (vI (x1 + 1)), some (vI (x2 + 1))]) rfl rfl rfl ?_
        refine q_goto 29 4 k_W_countPrimes_29 rfl rfl ?_
        exact h3f
theorem k_W_countOfGrid_0 : decode (mtC m_W_countOfGrid) 0 = .ok (.iconst 0, 1) := by decide +kernel
theorem k_W_countOfGrid_1 : decode (mtC m_W_countOfGrid) 1 = .ok (.istore_n 2, 1) := by decide +kernel
theorem k_W_countOfGrid_2 : decode (mtC m_W_countOfGrid) 2 = .ok (.iconst 0, 1) := by decide +kernel
theorem k_W_countOfGrid_3 : decode (mtC m_W_countOfGrid) 3 = .ok (.istore_n 3, 1) := by decide +kernel
theorem k_W_countOfGrid_4 : decode (mtC m_W_countOfGrid) 4 = .ok (.iload_n 3, 1) := by decide +kernel
theorem k_W_countOfGrid_5 : decode (mtC m_W_countOfGrid) 5 = .ok (.aload_n 0, 1) := by decide +kernel
theorem k_W_countOfGrid_6 : decode (mtC m_W_countOfGrid) 6 = .ok (.getfield 11, 3) := by decide +kernel
theorem k_W_countOfGrid_9 : decode (mtC m_W_countOfGrid) 9 = .ok (.iconst 0, 1) := by decide +kernel
theorem k_W_countOfGrid_10 : decode (mtC m_W_countOfGrid) 10 = .ok (.aaload, 1) := by decide +kernel
theorem k_W_countOfGrid_11 : decode (mtC m_W_countOfGrid) 11 = .ok (.getfield 136, 3) := by decide +kernel
theorem k_W_countOfGrid_14 : decode (mtC m_W_countOfGrid) 14 = .ok (.if_icmp .ge 71, 3) := by decide +kernel
theorem k_W_countOfGrid_17 : decode (mtC m_W_countOfGrid) 17 = .ok (.iconst 0, 1) := by decide +kernel
theorem k_W_countOfGrid_18 : decode (mtC m_W_countOfGrid) 18 = .ok (.istore 4, 2) := by decide +kernel
theorem k_W_countOfGrid_20 : decode (mtC m_W_countOfGrid) 20 = .ok (.iload 4, 2) := by decide +kernel
theorem k_W_countOfGrid_22 : decode (mtC m_W_countOfGrid) 22 = .ok (.aload_n 0, 1) := by decide +kernel
theorem k_W_countOfGrid_23 : decode (mtC m_W_countOfGrid) 23 = .ok (.getfield 11, 3) := by decide +kernel
theorem k_W_countOfGrid_26 : decode (mtC m_W_countOfGrid) 26 = .ok (.iconst 1, 1) := by decide +kernel
theorem k_W_countOfGrid_27 : decode (mtC m_W_countOfGrid) 27 = .ok (.aaload, 1) := by decide +kernel
theorem k_W_countOfGrid_28 : decode (mtC m_W_countOfGrid) 28 = .ok (.getfield 136, 3) := by decide +kernel
theorem k_W_countOfGrid_31 : decode (mtC m_W_countOfGrid) 31 = .ok (.if_icmp .ge 48, 3) := by decide +kernel
theorem k_W_countOfGrid_34 : decode (mtC m_W_countOfGrid) 34 = .ok (.iconst 0, 1) := by decide +kernel
theorem k_W_countOfGrid_35 : decode (mtC m_W_countOfGrid) 35 = .ok (.istore 5, 2) := by decide +kernel
theorem k_W_countOfGrid_37 : decode (mtC m_W_countOfGrid) 37 = .ok (.iload 5, 2) := by decide +kernel
theorem k_W_countOfGrid_39 : decode (mtC m_W_countOfGrid) 39 = .ok (.aload_n 0, 1) := by decide +kernel
theorem k_W_countOfGrid_40 : decode (mtC m_W_countOfGrid) 40 = .ok (.getfield 11, 3) := by decide +kernel
theorem k_W_countOfGrid_43 : decode (mtC m_W_countOfGrid) 43 = .ok (.iconst 2, 1) := by decide +kernel
theorem k_W_countOfGrid_44 : decode (mtC m_W_countOfGrid) 44 = .ok (.aaload, 1) := by decide +kernel
theorem k_W_countOfGrid_45 : decode (mtC m_W_countOfGrid) 45 = .ok (.getfield 136, 3) := by decide +kernel
theorem k_W_countOfGrid_48 : decode (mtC m_W_countOfGrid) 48 = .ok (.if_icmp .ge 25, 3) := by decide +kernel
theorem k_W_countOfGrid_51 : decode (mtC m_W_countOfGrid) 51 = .ok (.aload_n 0, 1) := by decide +kernel
theorem k_W_countOfGrid_52 : decode (mtC m_W_countOfGrid) 52 = .ok (.iload_n 3, 1) := by decide +kernel
theorem k_W_countOfGrid_53 : decode (mtC m_W_countOfGrid) 53 = .ok (.iload 4, 2) := by decide +kernel
theorem k_W_countOfGrid_55 : decode (mtC m_W_countOfGrid) 55 = .ok (.iload 5, 2) := by decide +kernel
theorem k_W_countOfGrid_57 : decode (mtC m_W_countOfGrid) 57 = .ok (.invokevirtual 139, 3) := by decide +kernel
theorem k_W_countOfGrid_60 : decode (mtC m_W_countOfGrid) 60 = .ok (.iload_n 1, 1) := by decide +kernel
theorem k_W_countOfGrid_61 : decode (mtC m_W_countOfGrid) 61 = .ok (.if_icmp .gt 6, 3) := by decide +kernel
theorem k_W_countOfGrid_64 : decode (mtC m_W_countOfGrid) 64 = .ok (.iinc 2 1, 3) := by decide +kernel
theorem k_W_countOfGrid_67 : decode (mtC m_W_countOfGrid) 67 = .ok (.iinc 5 1, 3) := by decide +kernel
theorem k_W_countOfGrid_70 : decode (mtC m_W_countOfGrid) 70 = .ok (.goto (-33), 3) := by decide +kernel
theorem k_W_countOfGrid_73 : decode (mtC m_W_countOfGrid) 73 = .ok (.iinc 4 1, 3) := by decide +kernel
theorem k_W_countOfGrid_76 : decode (mtC m_W_countOfGrid) 76 = .ok (.goto (-56), 3) := by decide +kernel
theorem k_W_countOfGrid_79 : decode (mtC m_W_countOfGrid) 79 = .ok (.iinc 3 1, 3) := by decide +kernel
theorem k_W_countOfGrid_82 : decode (mtC m_W_countOfGrid) 82 = .ok (.goto (-78), 3) := by decide +kernel
theorem k_W_countOfGrid_85 : decode (mtC m_W_countOfGrid) 85 = .ok (.iload_n 2, 1) := by decide +kernel
theorem k_W_countOfGrid_86 : decode (mtC m_W_countOfGrid) 86 = .ok (.ireturn, 1) := by decide +kernel
set_option maxHeartbeats 4000000 in
set_option maxRecDepth 100000 in
theorem T_W_countOfGrid_0 {d : Nat} {i0 : Nat} {x1 : Int} {M : AMem} {Q : Option AV → AMem → Prop} (o0 : okH 2 i0 = true) (h : RunQ (d + 1) m_W_countOfGrid 4 [some (vR 2 i0), some (vI x1), some (vI 0), some (vI 0), none, none] [] M Q) : RunQ (d + 1) m_W_countOfGrid 0 [some (vR 2 i0), some (vI x1), none, none, none, none] [] M Q := by
  refine q_iconst 0 k_W_countOfGrid_0 ?_
  refine q_istore_n 1 k_W_countOfGrid_1 (ls' := [some (vR 2 i0), some (vI x1), some (vI 0), none, none, none]) rfl rfl ?_
  refine q_iconst 2 k_W_countOfGrid_2 ?_
  refine q_istore_n 3 k_W_countOfGrid_3 (ls' := [some (vR 2 i0), some (vI x1), some (vI 0), some (vI 0), none, none]) rfl rfl ?_
  exact h
set_option maxHeartbeats 4000000 in
set_option maxRecDepth 100000 in
theorem T_W_countOfGrid_4 {d : Nat} {i0 : Nat} {x1 : Int} {x2 : Int} {x3 : Int} {M : AMem} {Q : Option AV → AMem → Prop} (o0 : okH 2 i0 = true) (h : ((wI (M 1 (6 * i0 + 0) 1) ≤ wI x3) → Q (some (vI x2)) M) ∧ (¬ (wI (M 1 (6 * i0 + 0) 1) ≤ wI x3) → RunQ (d + 1) m_W_countOfGrid 20 [some (vR 2 i0), some (vI x1), some (vI x2), some (vI x3), some (vI 0), none] [] M Q)) : RunQ (d + 1) m_W_countOfGrid 4 [some (vR 2 i0), some (vI x1), some (vI x2), some (vI x3), none, none] [] M Q := by
  refine q_iload_n 4 k_W_countOfGrid_4 rfl ?_
  refine q_aload_n 5 k_W_countOfGrid_5 rfl ?_
  refine q_getfield 6 k_W_countOfGrid_6 fk_2_11 o0 (v := vR 6 i0) rfl ?_
  refine q_iconst 9 k_W_countOfGrid_9 ?_
  refine q_aaload 10 k_W_countOfGrid_10 o0 (n := 6) rfl ⟨by decide, by decide⟩ (kd := 1) (x := (6 * i0 + 0)) rfl ?_
  refine q_getfield 11 k_W_countOfGrid_11 fk_2_136 (ok_r6 (j := 0) o0 ⟨by decide, by decide⟩) (v := vI (M 1 (6 * i0 + 0) 1)) rfl ?_
  refine q_icmp_ge 14 85 k_W_countOfGrid_14 rfl rfl (fun c14 => ?_) (fun c14 => ?_)
  · have ht := h.1 c14
    refine q_iload_n 85 k_W_countOfGrid_85 rfl ?_
    exact q_iret 86 k_W_countOfGrid_86 rfl ht
  · have hf := h.2 c14
    refine q_iconst 17 k_W_countOfGrid_17 ?_
    refine q_istore 18 k_W_countOfGrid_18 (ls' := [some (vR 2 i0), some (vI x1), some (vI x2), some (vI x3), some (vI 0), none]) rfl rfl ?_
    exact hf
set_option maxHeartbeats 4000000 in
set_option maxRecDepth 100000 in
theorem T_W_countOfGrid_20 {d : Nat} {i0 : Nat} {x1 : Int} {x2 : Int} {x3 : Int} {x4 : Int} {M : AMem} {Q : Option AV → AMem → Prop} (o0 : okH 2 i0 = true) (h : ((wI (M 1 (6 * i0 + 1) 1) ≤ wI x4) → RunQ (d + 1) m_W_countOfGrid 4 [some (vR 2 i0), some (vI x1), some (vI x2), some (vI (x3 + 1)), some (vI x4), none] [] M Q) ∧ (¬ (wI (M 1 (6 * i0 + 1) 1) ≤ wI x4) → RunQ (d + 1) m_W_countOfGrid 37 [some (vR 2 i0), some (vI x1), some (vI x2), some (vI x3), some (vI x4), some (vI 0)] [] M Q)) : RunQ (d + 1) m_W_countOfGrid 20 [some (vR 2 i0), some (vI x1), some (vI x2), some (vI x3), some (vI x4), none] [] M Q := by
  refine q_iload 20 k_W_countOfGrid_20 rfl ?_
  refine q_aload_n 22 k_W_countOfGrid_22 rfl ?_
  refine q_getfield 23 k_W_countOfGrid_23 fk_2_11 o0 (v := vR 6 i0) rfl ?_
  refine q_iconst 26 k_W_countOfGrid_26 ?_
  refine q_aaload 27 k_W_countOfGrid_27 o0 (n := 6) rfl ⟨by decide, by decide⟩ (kd := 1) (x := (6 * i0 + 1)) rfl ?_
  refine q_getfield 28 k_W_countOfGrid_28 fk_2_136 (ok_r6 (j := 1) o0 ⟨by decide, by decide⟩) (v := vI (M 1 (6 * i0 + 1) 1)) rfl ?_
  refine q_icmp_ge 31 79 k_W_countOfGrid_31 rfl rfl (fun c31 => ?_) (fun c31 => ?_)
  · have ht := h.1 c31
    refine q_iinc 79 k_W_countOfGrid_79 (ls' := [some (vR 2 i0), some (vI x1), some (vI x2), some (vI (x3 + 1)), some (vI x4), none]) rfl rfl rfl ?_
    refine q_goto 82 4 k_W_countOfGrid_82 rfl rfl ?_
    exact ht
  · have hf := h.2 c31
    refine q_iconst 34 k_W_countOfGrid_34 ?_
    refine q_istore 35 k_W_countOfGrid_35 (ls' := [some (vR 2 i0), some (vI x1), some (vI x2), some (vI x3), some (vI x4), some (vI 0)]) rfl rfl ?_
    exact hf
set_option maxHeartbeats 4000000 in
set_option maxRecDepth 100000 in
theorem T_W_countOfGrid_37 {d : Nat} {i0 : Nat} {x1 : Int} {x2 : Int} {x3 : Int} {x4 : Int} {x5 : Int} {M : AMem} {Q : Option AV → AMem → Prop} (o0 : okH 2 i0 = true) (h : ((wI (M 1 (6 * i0 + 2) 1) ≤ wI x5) → RunQ (d + 1) m_W_countOfGrid 20 [some (vR 2 i0), some (vI x1), some (vI x2), some (vI x3), some (vI (x4 + 1)), some (vI x5)] [] M Q) ∧ (¬ (wI (M 1 (6 * i0 + 2) 1) ≤ wI x5) → CallI d m_W_gridNumber [vR 2 i0, vI x3, vI x4, vI x5] M (fun y2 M1 => ((wI x1 < wI y2) → RunQ (d + 1) m_W_countOfGrid 37 [some (vR 2 i0), some (vI x1), some (vI x2), some (vI x3), some (vI x4), some (vI (x5 + 1))] [] M1 Q) ∧ (¬ (wI x1 < wI y2) → RunQ (d + 1) m_W_countOfGrid 37 [some (vR 2 i0), some (vI x1), some (vI (x2 + 1)), some (vI x3), some (vI x4), some (vI (x5 + 1))] [] M1 Q)))) : RunQ (d + 1) m_W_countOfGrid 37 [some (vR 2 i0), some (vI x1), some (vI x2), some (vI x3), some (vI x4), some (vI x5)] [] M Q := by
  refine q_iload 37 k_W_countOfGrid_37 rfl ?_
  refine q_aload_n 39 k_W_countOfGrid_39 rfl ?_
  refine q_getfield 40 k_W_countOfGrid_40 fk_2_11 o0 (v := vR 6 i0) rfl ?_
  refine q_iconst 43 k_W_countOfGrid_43 ?_
  refine q_aaload 44 k_W_countOfGrid_44 o0 (n := 6) rfl ⟨by decide, by decide⟩ (kd := 1) (x := (6 * i0 + 2)) rfl ?_
  refine q_getfield 45 k_W_countOfGrid_45 fk_2_136 (ok_r6 (j := 2) o0 ⟨by decide, by decide⟩) (v := vI (M 1 (6 * i0 + 2) 1)) rfl ?_
  refine q_icmp_ge 48 73 k_W_countOfGrid_48 rfl rfl (fun c48 => ?_) (fun c48 => ?_)
  · have ht := h.1 c48
    refine q_iinc 73 k_W_countOfGrid_73 (ls' := [some (vR 2 i0), some (vI x1), some (vI x2), some (vI x3), some (vI (x4 + 1)), some (vI x5)]) rfl rfl rfl ?_
    refine q_goto 76 20 k_W_countOfGrid_76 rfl rfl ?_
    exact ht
  · have hf := h.2 c48
    refine q_aload_n 51 k_W_countOfGrid_51 rfl ?_
    refine q_iload_n 52 k_W_countOfGrid_52 rfl ?_
    refine q_iload 53 k_W_countOfGrid_53 rfl ?_
    refine q_iload 55 k_W_countOfGrid_55 rfl ?_
    refine q_vI 57 [vI x3, vI x4, vI x5] [] k_W_countOfGrid_57 lk_2_139 rfl rfl rfl o0 rfl rfl rfl rfl (CallI.mono (fun y2 M1 h3 => ?_) hf)
    refine q_iload_n 60 k_W_countOfGrid_60 rfl ?_
    refine q_icmp_gt 61 67 k_W_countOfGrid_61 rfl rfl (fun c61 => ?_) (fun c61 => ?_)
    · have h3t := h3.1 c61
      refine q_iinc 67 k_W_countOfGrid_67 (ls' := [some (vR 2 i0), some (vI x1), some (vI x2), some (vI x3), some (vI x4), some (vI (x5 + 1))]) rfl rfl rfl ?_
      refine q_goto 70 37 k_W_countOfGrid_70 rfl rfl ?_
      exact h3t
    · have h3f := h3.2 c61
      refine q_iinc 64 k_W_countOfGrid_64 (ls' := [some (vR 2 i0), some (vI x1), some (vI (x2 + 1)), some (vI x3), some (vI x4), some (vI x5)]) rfl rfl rfl ?_
      refine q_iinc 67 k_W_countOfGrid_67 (ls' := [some (vR 2 i0), some (vI x1), some (vI (x2 + 1)), some (vI x3), some (vI x4), some (vI (x5 + 1))]) rfl rfl rfl ?_
      refine q_goto 70 37 k_W_countOfGrid_70 rfl rfl ?_
      exact h3f
theorem k_W_isGrid_0 : decode (mtC m_W_isGrid) 0 = .ok (.aload_n 0, 1) := by decide +kernel
theorem k_W_isGrid_1 : decode (mtC m_W_isGrid) 1 = .ok (.getfield 24, 3) := by decide +kernel
theorem k_W_isGrid_4 : decode (mtC m_W_isGrid) 4 = .ok (.iconst 1, 1) := by decide +kernel
theorem k_W_isGrid_5 : decode (mtC m_W_isGrid) 5 = .ok (.if_icmp .eq 19, 3) := by decide +kernel
theorem k_W_isGrid_8 : decode (mtC m_W_isGrid) 8 = .ok (.aload_n 0, 1) := by decide +kernel
theorem k_W_isGrid_9 : decode (mtC m_W_isGrid) 9 = .ok (.getfield 24, 3) := by decide +kernel
theorem k_W_isGrid_12 : decode (mtC m_W_isGrid) 12 = .ok (.iconst 2, 1) := by decide +kernel
theorem k_W_isGrid_13 : decode (mtC m_W_isGrid) 13 = .ok (.if_icmp .eq 11, 3) := by decide +kernel
theorem k_W_isGrid_16 : decode (mtC m_W_isGrid) 16 = .ok (.aload_n 0, 1) := by decide +kernel
theorem k_W_isGrid_17 : decode (mtC m_W_isGrid) 17 = .ok (.getfield 24, 3) := by decide +kernel
theorem k_W_isGrid_20 : decode (mtC m_W_isGrid) 20 = .ok (.iconst 4, 1) := by decide +kernel
theorem k_W_isGrid_21 : decode (mtC m_W_isGrid) 21 = .ok (.if_icmp .ne 7, 3) := by decide +kernel
theorem k_W_isGrid_24 : decode (mtC m_W_isGrid) 24 = .ok (.iconst 1, 1) := by decide +kernel
theorem k_W_isGrid_25 : decode (mtC m_W_isGrid) 25 = .ok (.goto 4, 3) := by decide +kernel
theorem k_W_isGrid_28 : decode (mtC m_W_isGrid) 28 = .ok (.iconst 0, 1) := by decide +kernel
theorem k_W_isGrid_29 : decode (mtC m_W_isGrid) 29 = .ok (.ireturn, 1) := by decide +kernel
set_option maxHeartbeats 4000000 in
set_option maxRecDepth 100000 in
theorem T_W_isGrid_0 {d : Nat} {i0 : Nat} {M : AMem} {Q : Option AV → AMem → Prop} (o0 : okH 2 i0 = true) (h : ((wI (M 2 i0 2) = 1) → Q (some (vI 1)) M) ∧ (¬ (wI (M 2 i0 2) = 1) → ((wI (M 2 i0 2) = 2) → Q (some (vI 1)) M) ∧ (¬ (wI (M 2 i0 2) = 2) → ((¬ wI (M 2 i0 2) = 4) → Q (some (vI 0)) M) ∧ (¬ (¬ wI (M 2 i0 2) = 4) → Q (some (vI 1)) M)))) : RunQ d m_W_isGrid 0 [some (vR 2 i0)] [] M Q := by
  refine q_aload_n 0 k_W_isGrid_0 rfl ?_
  refine q_getfield 1 k_W_isGrid_1 fk_2_24 o0 (v := vI (M 2 i0 2)) rfl ?_
  refine q_iconst 4 k_W_isGrid_4 ?_
  refine q_icmp_eq 5 24 k_W_isGrid_5 rfl rfl (fun c5 => ?_) (fun c5 => ?_)
  · have ht := h.1 c5
    refine q_iconst 24 k_W_isGrid_24 ?_
    refine q_goto 25 29 k_W_isGrid_25 rfl rfl ?_
    exact q_zret 29 k_W_isGrid_29 rfl (Or.inr rfl) ht
  · have hf := h.2 c5
    refine q_aload_n 8 k_W_isGrid_8 rfl ?_
    refine q_getfield 9 k_W_isGrid_9 fk_2_24 o0 (v := vI (M 2 i0 2)) rfl ?_
    refine q_iconst 12 k_W_isGrid_12 ?_
    refine q_icmp_eq 13 24 k_W_isGrid_13 rfl rfl (fun c13 => ?_) (fun c13 => ?_)
    · have hft := hf.1 c13
      refine q_iconst 24 k_W_isGrid_24 ?_
      refine q_goto 25 29 k_W_isGrid_25 rfl rfl ?_
      exact q_zret 29 k_W_isGrid_29 rfl (Or.inr rfl) hft
    · have hff := hf.2 c13
      refine q_aload_n 16 k_W_isGrid_16 rfl ?_
      refine q_getfield 17 k_W_isGrid_17 fk_2_24 o0 (v := vI (M 2 i0 2)) rfl ?_
      refine q_iconst 20 k_W_isGrid_20 ?_
      refine q_icmp_ne 21 28 k_W_isGrid_21 rfl rfl (fun c21 => ?_) (fun c21 => ?_)
      · have hfft := hff.1 c21
        refine q_iconst 28 k_W_isGrid_28 ?_
        exact q_zret 29 k_W_isGrid_29 rfl (Or.inl rfl) hfft
      · have hfff := hff.2 c21
        refine q_iconst 24 k_W_isGrid_24 ?_
        refine q_goto 25 29 k_W_isGrid_25 rfl rfl ?_
        exact q_zret 29 k_W_isGrid_29 rfl (Or.inr rfl) hfff
theorem k_W_isMember_0 : decode (mtC m_W_isMember) 0 = .ok (.iload_n 0, 1) := by decide +kernel
theorem k_W_isMember_1 : decode (mtC m_W_isMember) 1 = .ok (.iload_n 1, 1) := by decide +kernel
theorem k_W_isMember_2 : decode (mtC m_W_isMember) 2 = .ok (.ishr, 1) := by decide +kernel
theorem k_W_isMember_3 : decode (mtC m_W_isMember) 3 = .ok (.iconst 1, 1) := by decide +kernel
theorem k_W_isMember_4 : decode (mtC m_W_isMember) 4 = .ok (.iand, 1) := by decide +kernel
theorem k_W_isMember_5 : decode (mtC m_W_isMember) 5 = .ok (.iconst 1, 1) := by decide +kernel
theorem k_W_isMember_6 : decode (mtC m_W_isMember) 6 = .ok (.if_icmp .ne 7, 3) := by decide +kernel
theorem k_W_isMember_9 : decode (mtC m_W_isMember) 9 = .ok (.iconst 1, 1) := by decide +kernel
theorem k_W_isMember_10 : decode (mtC m_W_isMember) 10 = .ok (.goto 4, 3) := by decide +kernel
theorem k_W_isMember_13 : decode (mtC m_W_isMember) 13 = .ok (.iconst 0, 1) := by decide +kernel
theorem k_W_isMember_14 : decode (mtC m_W_isMember) 14 = .ok (.ireturn, 1) := by decide +kernel
set_option maxHeartbeats 4000000 in
set_option maxRecDepth 100000 in
theorem T_W_isMember_0 {d : Nat} {x0 : Int} {x1 : Int} {M : AMem} {Q : Option AV → AMem → Prop}  (h : ((¬ wI (opAnd (opShr x0 x1) 1) = 1) → Q (some (vI 0)) M) ∧ (¬ (¬ wI (opAnd (opShr x0 x1) 1) = 1) → Q (some (vI 1)) M)) : RunQ d m_W_isMember 0 [some (vI x0), some (vI x1)] [] M Q := by
  refine q_iload_n 0 k_W_isMember_0 rfl ?_
  refine q_iload_n 1 k_W_isMember_1 rfl ?_
  refine q_ishr 2 k_W_isMember_2 ?_
  refine q_iconst 3 k_W_isMember_3 ?_
  refine q_iand 4 k_W_isMember_4 ?_
  refine q_iconst 5 k_W_isMember_5 ?_
  refine q_icmp_ne 6 13 k_W_isMember_6 rfl rfl (fun c6 => ?_) (fun c6 => ?_)
  · have ht := h.1 c6
    refine q_iconst 13 k_W_isMember_13 ?_
    exact q_zret 14 k_W_isMember_14 rfl (Or.inl rfl) ht
  · have hf := h.2 c6
    refine q_iconst 9 k_W_isMember_9 ?_
    refine q_goto 10 14 k_W_isMember_10 rfl rfl ?_
    exact q_zret 14 k_W_isMember_14 rfl (Or.inr rfl) hf
theorem k_W_rankOf_0 : decode (mtC m_W_rankOf) 0 = .ok (.aload_n 0, 1) := by decide +kernel
theorem k_W_rankOf_1 : decode (mtC m_W_rankOf) 1 = .ok (.getfield 44, 3) := by decide +kernel
theorem k_W_rankOf_4 : decode (mtC m_W_rankOf) 4 = .ok (.ifCond .eq 9, 3) := by decide +kernel
theorem k_W_rankOf_7 : decode (mtC m_W_rankOf) 7 = .ok (.iconst 5, 1) := by decide +kernel
theorem k_W_rankOf_8 : decode (mtC m_W_rankOf) 8 = .ok (.iload_n 1, 1) := by decide +kernel
theorem k_W_rankOf_9 : decode (mtC m_W_rankOf) 9 = .ok (.isub, 1) := by decide +kernel
theorem k_W_rankOf_10 : decode (mtC m_W_rankOf) 10 = .ok (.goto 4, 3) := by decide +kernel
theorem k_W_rankOf_13 : decode (mtC m_W_rankOf) 13 = .ok (.iload_n 1, 1) := by decide +kernel
theorem k_W_rankOf_14 : decode (mtC m_W_rankOf) 14 = .ok (.ireturn, 1) := by decide +kernel
set_option maxHeartbeats 4000000 in
set_option maxRecDepth 100000 in
theorem T_W_rankOf_0 {d : Nat} {i0 : Nat} {x1 : Int} {M : AMem} {Q : Option AV → AMem → Prop} (o0 : okH 2 i0 = true) (h : ((wI (M 2 i0 4) = 0) → Q (some (vI x1)) M) ∧ (¬ (wI (M 2 i0 4) = 0) → Q (some (vI (5 - x1))) M)) : RunQ d m_W_rankOf 0 [some (vR 2 i0), some (vI x1)] [] M Q := by
  refine q_aload_n 0 k_W_rankOf_0 rfl ?_
  refine q_getfield 1 k_W_rankOf_1 fk_2_44 o0 (v := vI (M 2 i0 4)) rfl ?_
  refine q_if_eq 4 13 k_W_rankOf_4 rfl rfl (fun c4 => ?_) (fun c4 => ?_)
  · have ht := h.1 c4
    refine q_iload_n 13 k_W_rankOf_13 rfl ?_
    exact q_iret 14 k_W_rankOf_14 rfl ht
  · have hf := h.2 c4
    refine q_iconst 7 k_W_rankOf_7 ?_
    refine q_iload_n 8 k_W_rankOf_8 rfl ?_
    refine q_isub 9 k_W_rankOf_9 ?_
    refine q_goto 10 14 k_W_rankOf_10 rfl rfl ?_
    exact q_iret 14 k_W_rankOf_14 rfl hf
theorem k_W_gridNumber_0 : decode (mtC m_W_gridNumber) 0 = .ok (.aload_n 0, 1) := by decide +kernel
theorem k_W_gridNumber_1 : decode (mtC m_W_gridNumber) 1 = .ok (.getfield 11, 3) := by decide +kernel
theorem k_W_gridNumber_4 : decode (mtC m_W_gridNumber) 4 = .ok (.iconst 0, 1) := by decide +kernel
theorem k_W_gridNumber_5 : decode (mtC m_W_gridNumber) 5 = .ok (.aaload, 1) := by decide +kernel
theorem k_W_gridNumber_6 : decode (mtC m_W_gridNumber) 6 = .ok (.iload_n 1, 1) := by decide +kernel
theorem k_W_gridNumber_7 : decode (mtC m_W_gridNumber) 7 = .ok (.invokevirtual 143, 3) := by decide +kernel
theorem k_W_gridNumber_10 : decode (mtC m_W_gridNumber) 10 = .ok (.istore 4, 2) := by decide +kernel
theorem k_W_gridNumber_12 : decode (mtC m_W_gridNumber) 12 = .ok (.aload_n 0, 1) := by decide +kernel
theorem k_W_gridNumber_13 : decode (mtC m_W_gridNumber) 13 = .ok (.getfield 11, 3) := by decide +kernel
theorem k_W_gridNumber_16 : decode (mtC m_W_gridNumber) 16 = .ok (.iconst 1, 1) := by decide +kernel
theorem k_W_gridNumber_17 : decode (mtC m_W_gridNumber) 17 = .ok (.aaload, 1) := by decide +kernel
theorem k_W_gridNumber_18 : decode (mtC m_W_gridNumber) 18 = .ok (.iload_n 2, 1) := by decide +kernel
theorem k_W_gridNumber_19 : decode (mtC m_W_gridNumber) 19 = .ok (.invokevirtual 143, 3) := by decide +kernel
theorem k_W_gridNumber_22 : decode (mtC m_W_gridNumber) 22 = .ok (.istore 5, 2) := by decide +kernel
theorem k_W_gridNumber_24 : decode (mtC m_W_gridNumber) 24 = .ok (.aload_n 0, 1) := by decide +kernel
theorem k_W_gridNumber_25 : decode (mtC m_W_gridNumber) 25 = .ok (.getfield 24, 3) := by decide +kernel
theorem k_W_gridNumber_28 : decode (mtC m_W_gridNumber) 28 = .ok (.iconst 4, 1) := by decide +kernel
theorem k_W_gridNumber_29 : decode (mtC m_W_gridNumber) 29 = .ok (.if_icmp .ne 11, 3) := by decide +kernel
theorem k_W_gridNumber_32 : decode (mtC m_W_gridNumber) 32 = .ok (.iload 4, 2) := by decide +kernel
theorem k_W_gridNumber_34 : decode (mtC m_W_gridNumber) 34 = .ok (.iload 5, 2) := by decide +kernel
theorem k_W_gridNumber_36 : decode (mtC m_W_gridNumber) 36 = .ok (.imul, 1) := by decide +kernel
theorem k_W_gridNumber_37 : decode (mtC m_W_gridNumber) 37 = .ok (.goto 19, 3) := by decide +kernel
theorem k_W_gridNumber_40 : decode (mtC m_W_gridNumber) 40 = .ok (.iload 4, 2) := by decide +kernel
theorem k_W_gridNumber_42 : decode (mtC m_W_gridNumber) 42 = .ok (.iload 5, 2) := by decide +kernel
theorem k_W_gridNumber_44 : decode (mtC m_W_gridNumber) 44 = .ok (.iadd, 1) := by decide +kernel
theorem k_W_gridNumber_45 : decode (mtC m_W_gridNumber) 45 = .ok (.aload_n 0, 1) := by decide +kernel
theorem k_W_gridNumber_46 : decode (mtC m_W_gridNumber) 46 = .ok (.getfield 11, 3) := by decide +kernel
theorem k_W_gridNumber_49 : decode (mtC m_W_gridNumber) 49 = .ok (.iconst 2, 1) := by decide +kernel
theorem k_W_gridNumber_50 : decode (mtC m_W_gridNumber) 50 = .ok (.aaload, 1) := by decide +kernel
theorem k_W_gridNumber_51 : decode (mtC m_W_gridNumber) 51 = .ok (.iload_n 3, 1) := by decide +kernel
theorem k_W_gridNumber_52 : decode (mtC m_W_gridNumber) 52 = .ok (.invokevirtual 143, 3) := by decide +kernel
theorem k_W_gridNumber_55 : decode (mtC m_W_gridNumber) 55 = .ok (.iadd, 1) := by decide +kernel
theorem k_W_gridNumber_56 : decode (mtC m_W_gridNumber) 56 = .ok (.ireturn, 1) := by decide +kernel
set_option maxHeartbeats 4000000 in
set_option maxRecDepth 100000 in
theorem T_W_gridNumber_0 {d : Nat} {i0 : Nat} {x1 : Int} {x2 : Int} {x3 : Int} {M : AMem} {Q : Option AV → AMem → Prop} (o0 : okH 2 i0 = true) (h : CallI d m_R_numberAt [vR 1 (6 * i0 + 0), vI x1] M (fun y2 M1 => CallI d m_R_numberAt [vR 1 (6 * i0 + 1), vI x2] M1 (fun y4 M3 => ((¬ wI (M3 2 i0 2) = 4) → CallI d m_R_numberAt [vR 1 (6 * i0 + 2), vI x3] M3 (fun y6 M5 => Q (some (vI ((y2 + y4) + y6))) M5)) ∧ (¬ (¬ wI (M3 2 i0 2) = 4) → Q (some (vI (y2 * y4))) M3)))) : RunQ (d + 1) m_W_gridNumber 0 [some (vR 2 i0), some (vI x1), some (vI x2), some (vI x3), none, none] [] M Q := by
  refine q_aload_n 0 k_W_gridNumber_0 rfl ?_
  refine q_getfield 1 k_W_gridNumber_1 fk_2_11 o0 (v := vR 6 i0) rfl ?_
  refine q_iconst 4 k_W_gridNumber_4 ?_
  refine q_aaload 5 k_W_gridNumber_5 o0 (n := 6) rfl ⟨by decide, by decide⟩ (kd := 1) (x := (6 * i0 + 0)) rfl ?_
  refine q_iload_n 6 k_W_gridNumber_6 rfl ?_
  refine q_vI 7 [vI x1] [] k_W_gridNumber_7 lk_2_143 rfl rfl rfl (ok_r6 (j := 0) o0 ⟨by decide, by decide⟩) rfl rfl rfl rfl (CallI.mono (fun y2 M1 h7 => ?_) h)
  refine q_istore 10 k_W_gridNumber_10 (ls' := [some (vR 2 i0), some (vI x1), some (vI x2), some (vI x3), some (vI y2), none]) rfl rfl ?_
  refine q_aload_n 12 k_W_gridNumber_12 rfl ?_
  refine q_getfield 13 k_W_gridNumber_13 fk_2_11 o0 (v := vR 6 i0) rfl ?_
  refine q_iconst 16 k_W_gridNumber_16 ?_
  refine q_aaload 17 k_W_gridNumber_17 o0 (n := 6) rfl ⟨by decide, by decide⟩ (kd := 1) (x := (6 * i0 + 1)) rfl ?_
  refine q_iload_n 18 k_W_gridNumber_18 rfl ?_
  refine q_vI 19 [vI x2] [] k_W_gridNumber_19 lk_2_143 rfl rfl rfl (ok_r6 (j := 1) o0 ⟨by decide, by decide⟩) rfl rfl rfl rfl (CallI.mono (fun y4 M3 h8 => ?_) h7)
  refine q_istore 22 k_W_gridNumber_22 (ls' := [some (vR 2 i0), some (vI x1), some (vI x2), some (vI x3), some (vI y2), some (vI y4)]) rfl rfl ?_
  refine q_aload_n 24 k_W_gridNumber_24 rfl ?_
  refine q_getfield 25 k_W_gridNumber_25 fk_2_24 o0 (v := vI (M3 2 i0 2)) rfl ?_
  refine q_iconst 28 k_W_gridNumber_28 ?_
  refine q_icmp_ne 29 40 k_W_gridNumber_29 rfl rfl (fun c29 => ?_) (fun c29 => ?_)
  · have h8t := h8.1 c29
    refine q_iload 40 k_W_gridNumber_40 rfl ?_
    refine q_iload 42 k_W_gridNumber_42 rfl ?_
    refine q_iadd 44 k_W_gridNumber_44 ?_
    refine q_aload_n 45 k_W_gridNumber_45 rfl ?_
    refine q_getfield 46 k_W_gridNumber_46 fk_2_11 o0 (v := vR 6 i0) rfl ?_
    refine q_iconst 49 k_W_gridNumber_49 ?_
    refine q_aaload 50 k_W_gridNumber_50 o0 (n := 6) rfl ⟨by decide, by decide⟩ (kd := 1) (x := (6 * i0 + 2)) rfl ?_
    refine q_iload_n 51 k_W_gridNumber_51 rfl ?_
    refine q_vI 52 [vI x3] [vI (y2 + y4)] k_W_gridNumber_52 lk_2_143 rfl rfl rfl (ok_r6 (j := 2) o0 ⟨by decide, by decide⟩) rfl rfl rfl rfl (CallI.mono (fun y6 M5 h9 => ?_) h8t)
    refine q_iadd 55 k_W_gridNumber_55 ?_
    exact q_iret 56 k_W_gridNumber_56 rfl h9
  · have h8f := h8.2 c29
    refine q_iload 32 k_W_gridNumber_32 rfl ?_
    refine q_iload 34 k_W_gridNumber_34 rfl ?_
    refine q_imul 36 k_W_gridNumber_36 ?_
    refine q_goto 37 56 k_W_gridNumber_37 rfl rfl ?_
    exact q_iret 56 k_W_gridNumber_56 rfl h8f
theorem k_W_isPrime_0 : decode (mtC m_W_isPrime) 0 = .ok (.iconst 2, 1) := by decide +kernel
theorem k_W_isPrime_1 : decode (mtC m_W_isPrime) 1 = .ok (.istore_n 1, 1) := by decide +kernel
theorem k_W_isPrime_2 : decode (mtC m_W_isPrime) 2 = .ok (.iload_n 1, 1) := by decide +kernel
theorem k_W_isPrime_3 : decode (mtC m_W_isPrime) 3 = .ok (.iload_n 1, 1) := by decide +kernel
theorem k_W_isPrime_4 : decode (mtC m_W_isPrime) 4 = .ok (.imul, 1) := by decide +kernel
theorem k_W_isPrime_5 : decode (mtC m_W_isPrime) 5 = .ok (.iload_n 0, 1) := by decide +kernel
theorem k_W_isPrime_6 : decode (mtC m_W_isPrime) 6 = .ok (.if_icmp .gt 17, 3) := by decide +kernel
theorem k_W_isPrime_9 : decode (mtC m_W_isPrime) 9 = .ok (.iload_n 0, 1) := by decide +kernel
theorem k_W_isPrime_10 : decode (mtC m_W_isPrime) 10 = .ok (.iload_n 1, 1) := by decide +kernel
theorem k_W_isPrime_11 : decode (mtC m_W_isPrime) 11 = .ok (.irem, 1) := by decide +kernel
theorem k_W_isPrime_12 : decode (mtC m_W_isPrime) 12 = .ok (.ifCond .ne 5, 3) := by decide +kernel
theorem k_W_isPrime_15 : decode (mtC m_W_isPrime) 15 = .ok (.iconst 0, 1) := by decide +kernel
theorem k_W_isPrime_16 : decode (mtC m_W_isPrime) 16 = .ok (.ireturn, 1) := by decide +kernel
theorem k_W_isPrime_17 : decode (mtC m_W_isPrime) 17 = .ok (.iinc 1 1, 3) := by decide +kernel
theorem k_W_isPrime_20 : decode (mtC m_W_isPrime) 20 = .ok (.goto (-18), 3) := by decide +kernel
theorem k_W_isPrime_23 : decode (mtC m_W_isPrime) 23 = .ok (.iload_n 0, 1) := by decide +kernel
theorem k_W_isPrime_24 : decode (mtC m_W_isPrime) 24 = .ok (.iconst 1, 1) := by decide +kernel
theorem k_W_isPrime_25 : decode (mtC m_W_isPrime) 25 = .ok (.if_icmp .le 7, 3) := by decide +kernel
theorem k_W_isPrime_28 : decode (mtC m_W_isPrime) 28 = .ok (.iconst 1, 1) := by decide +kernel
theorem k_W_isPrime_29 : decode (mtC m_W_isPrime) 29 = .ok (.goto 4, 3) := by decide +kernel
theorem k_W_isPrime_32 : decode (mtC m_W_isPrime) 32 = .ok (.iconst 0, 1) := by decide +kernel
theorem k_W_isPrime_33 : decode (mtC m_W_isPrime) 33 = .ok (.ireturn, 1) := by decide +kernel
set_option maxHeartbeats 4000000 in
set_option maxRecDepth 100000 in
theorem T_W_isPrime_0 {d : Nat} {x0 : Int} {M : AMem} {Q : Option AV → AMem → Prop}  (h : RunQ d m_W_isPrime 2 [some (vI x0), some (vI 2)] [] M Q) : RunQ d m_W_isPrime 0 [some (vI x0), none] [] M Q := by
  refine q_iconst 0 k_W_isPrime_0 ?_
  refine q_istore_n 1 k_W_isPrime_1 (ls' := [some (vI x0), some (vI 2)]) rfl rfl ?_
  exact h
set_option maxHeartbeats 4000000 in
set_option maxRecDepth 100000 in
theorem T_W_isPrime_2 {d : Nat} {x0 : Int} {x1 : Int} {M : AMem} {Q : Option AV → AMem → Prop}  (h : ((wI x0 < wI (x1 * x1)) → ((wI x0 ≤ 1) → Q (some (vI 0)) M) ∧ (¬ (wI x0 ≤ 1) → Q (some (vI 1)) M)) ∧ (¬ (wI x0 < wI (x1 * x1)) → (¬ wI x1 = 0) ∧ (((¬ wI (Int.tmod (wI x0) (wI x1)) = 0) → RunQ d m_W_isPrime 2 [some (vI x0), some (vI (x1 + 1))] [] M Q) ∧ (¬ (¬ wI (Int.tmod (wI x0) (wI x1)) = 0) → Q (some (vI 0)) M)))) : RunQ d m_W_isPrime 2 [some (vI x0), some (vI x1)] [] M Q := by
  refine q_iload_n 2 k_W_isPrime_2 rfl ?_
  refine q_iload_n 3 k_W_isPrime_3 rfl ?_
  refine q_imul 4 k_W_isPrime_4 ?_
  refine q_iload_n 5 k_W_isPrime_5 rfl ?_
  refine q_icmp_gt 6 23 k_W_isPrime_6 rfl rfl (fun c6 => ?_) (fun c6 => ?_)
  · have ht := h.1 c6
    refine q_iload_n 23 k_W_isPrime_23 rfl ?_
    refine q_iconst 24 k_W_isPrime_24 ?_
    refine q_icmp_le 25 32 k_W_isPrime_25 rfl rfl (fun c25 => ?_) (fun c25 => ?_)
    · have htt := ht.1 c25
      refine q_iconst 32 k_W_isPrime_32 ?_
      exact q_zret 33 k_W_isPrime_33 rfl (Or.inl rfl) htt
    · have htf := ht.2 c25
      refine q_iconst 28 k_W_isPrime_28 ?_
      refine q_goto 29 33 k_W_isPrime_29 rfl rfl ?_
      exact q_zret 33 k_W_isPrime_33 rfl (Or.inr rfl) htf
  · have hf := h.2 c6
    refine q_iload_n 9 k_W_isPrime_9 rfl ?_
    refine q_iload_n 10 k_W_isPrime_10 rfl ?_
    refine q_irem 11 k_W_isPrime_11 hf.1 ?_
    have hf' := hf.2
    refine q_if_ne 12 17 k_W_isPrime_12 rfl rfl (fun c12 => ?_) (fun c12 => ?_)
    · have hf't := hf'.1 c12
      refine q_iinc 17 k_W_isPrime_17 (ls' := [some (vI x0), some (vI (x1 + 1))]) rfl rfl rfl ?_
      refine q_goto 20 2 k_W_isPrime_20 rfl rfl ?_
      exact hf't
    · have hf'f := hf'.2 c12
      refine q_iconst 15 k_W_isPrime_15 ?_
      exact q_zret 16 k_W_isPrime_16 rfl (Or.inl rfl) hf'f
theorem k_J_bitCount_0 : decode (mtC m_J_bitCount) 0 = .ok (.iload_n 0, 1) := by decide +kernel
theorem k_J_bitCount_1 : decode (mtC m_J_bitCount) 1 = .ok (.iload_n 0, 1) := by decide +kernel
theorem k_J_bitCount_2 : decode (mtC m_J_bitCount) 2 = .ok (.iconst 1, 1) := by decide +kernel
theorem k_J_bitCount_3 : decode (mtC m_J_bitCount) 3 = .ok (.iushr, 1) := by decide +kernel
theorem k_J_bitCount_4 : decode (mtC m_J_bitCount) 4 = .ok (.ldc_w 265, 3) := by decide +kernel
theorem k_J_bitCount_7 : decode (mtC m_J_bitCount) 7 = .ok (.iand, 1) := by decide +kernel
theorem k_J_bitCount_8 : decode (mtC m_J_bitCount) 8 = .ok (.isub, 1) := by decide +kernel
theorem k_J_bitCount_9 : decode (mtC m_J_bitCount) 9 = .ok (.istore_n 0, 1) := by decide +kernel
theorem k_J_bitCount_10 : decode (mtC m_J_bitCount) 10 = .ok (.iload_n 0, 1) := by decide +kernel
theorem k_J_bitCount_11 : decode (mtC m_J_bitCount) 11 = .ok (.ldc_w 266, 3) := by decide +kernel
theorem k_J_bitCount_14 : decode (mtC m_J_bitCount) 14 = .ok (.iand, 1) := by decide +kernel
theorem k_J_bitCount_15 : decode (mtC m_J_bitCount) 15 = .ok (.iload_n 0, 1) := by decide +kernel
theorem k_J_bitCount_16 : decode (mtC m_J_bitCount) 16 = .ok (.iconst 2, 1) := by decide +kernel
theorem k_J_bitCount_17 : decode (mtC m_J_bitCount) 17 = .ok (.iushr, 1) := by decide +kernel
theorem k_J_bitCount_18 : decode (mtC m_J_bitCount) 18 = .ok (.ldc_w 266, 3) := by decide +kernel
theorem k_J_bitCount_21 : decode (mtC m_J_bitCount) 21 = .ok (.iand, 1) := by decide +kernel
theorem k_J_bitCount_22 : decode (mtC m_J_bitCount) 22 = .ok (.iadd, 1) := by decide +kernel
theorem k_J_bitCount_23 : decode (mtC m_J_bitCount) 23 = .ok (.istore_n 0, 1) := by decide +kernel
theorem k_J_bitCount_24 : decode (mtC m_J_bitCount) 24 = .ok (.iload_n 0, 1) := by decide +kernel
theorem k_J_bitCount_25 : decode (mtC m_J_bitCount) 25 = .ok (.iload_n 0, 1) := by decide +kernel
theorem k_J_bitCount_26 : decode (mtC m_J_bitCount) 26 = .ok (.iconst 4, 1) := by decide +kernel
theorem k_J_bitCount_27 : decode (mtC m_J_bitCount) 27 = .ok (.iushr, 1) := by decide +kernel
theorem k_J_bitCount_28 : decode (mtC m_J_bitCount) 28 = .ok (.iadd, 1) := by decide +kernel
theorem k_J_bitCount_29 : decode (mtC m_J_bitCount) 29 = .ok (.ldc_w 267, 3) := by decide +kernel
theorem k_J_bitCount_32 : decode (mtC m_J_bitCount) 32 = .ok (.iand, 1) := by decide +kernel
theorem k_J_bitCount_33 : decode (mtC m_J_bitCount) 33 = .ok (.istore_n 0, 1) := by decide +kernel
theorem k_J_bitCount_34 : decode (mtC m_J_bitCount) 34 = .ok (.iload_n 0, 1) := by decide +kernel
theorem k_J_bitCount_35 : decode (mtC m_J_bitCount) 35 = .ok (.iload_n 0, 1) := by decide +kernel
theorem k_J_bitCount_36 : decode (mtC m_J_bitCount) 36 = .ok (.bipush 8, 2) := by decide +kernel
theorem k_J_bitCount_38 : decode (mtC m_J_bitCount) 38 = .ok (.iushr, 1) := by decide +kernel
theorem k_J_bitCount_39 : decode (mtC m_J_bitCount) 39 = .ok (.iadd, 1) := by decide +kernel
theorem k_J_bitCount_40 : decode (mtC m_J_bitCount) 40 = .ok (.istore_n 0, 1) := by decide +kernel
theorem k_J_bitCount_41 : decode (mtC m_J_bitCount) 41 = .ok (.iload_n 0, 1) := by decide +kernel
theorem k_J_bitCount_42 : decode (mtC m_J_bitCount) 42 = .ok (.iload_n 0, 1) := by decide +kernel
theorem k_J_bitCount_43 : decode (mtC m_J_bitCount) 43 = .ok (.bipush 16, 2) := by decide +kernel
theorem k_J_bitCount_45 : decode (mtC m_J_bitCount) 45 = .ok (.iushr, 1) := by decide +kernel
theorem k_J_bitCount_46 : decode (mtC m_J_bitCount) 46 = .ok (.iadd, 1) := by decide +kernel
theorem k_J_bitCount_47 : decode (mtC m_J_bitCount) 47 = .ok (.istore_n 0, 1) := by decide +kernel
theorem k_J_bitCount_48 : decode (mtC m_J_bitCount) 48 = .ok (.iload_n 0, 1) := by decide +kernel
theorem k_J_bitCount_49 : decode (mtC m_J_bitCount) 49 = .ok (.bipush 63, 2) := by decide +kernel
theorem k_J_bitCount_51 : decode (mtC m_J_bitCount) 51 = .ok (.iand, 1) := by decide +kernel
theorem k_J_bitCount_52 : decode (mtC m_J_bitCount) 52 = .ok (.ireturn, 1) := by decide +kernel
set_option maxHeartbeats 4000000 in
set_option maxRecDepth 100000 in
theorem T_J_bitCount_0 {d : Nat} {x0 : Int} {M : AMem} {Q : Option AV → AMem → Prop}  (h : Q (some (vI (opAnd (((opAnd (((opAnd (x0 - (opAnd (opUshr x0 1) 1431655765)) 858993459) + (opAnd (opUshr (x0 - (opAnd (opUshr x0 1) 1431655765)) 2) 858993459)) + (opUshr ((opAnd (x0 - (opAnd (opUshr x0 1) 1431655765)) 858993459) + (opAnd (opUshr (x0 - (opAnd (opUshr x0 1) 1431655765)) 2) 858993459)) 4)) 252645135) + (opUshr (opAnd (((opAnd (x0 - (opAnd (opUshr x0 1) 1431655765)) 858993459) + (opAnd (opUshr (x0 - (opAnd (opUshr x0 1) 1431655765)) 2) 858993459)) + (opUshr ((opAnd (x0 - (opAnd (opUshr x0 1) 1431655765)) 858993459) + (opAnd (opUshr (x0 - (opAnd (opUshr x0 1) 1431655765)) 2) 858993459)) 4)) 252645135) 8)) + (opUshr ((opAnd (((opAnd (x0 - (opAnd (opUshr x0 1) 1431655765)) 858993459) + (opAnd (opUshr (x0 - (opAnd (opUshr x0 1) 1431655765)) 2) 858993459)) + (opUshr ((opAnd (x0 - (opAnd (opUshr x0 1) 1431655765)) 858993459) + (opAnd (opUshr (x0 - (opAnd (opUshr x0 1) 1431655765)) 2) 858993459)) 4)) 252645135) + (opUshr (opAnd (((opAnd (x0 - (opAnd (opUshr x0 1) 1431655765)) 858993459) + (opAnd (opUshr (x0 - (opAnd (opUshr x0 1) 1431655765)) 2) 858993459)) + (opUshr ((opAnd (x0 - (opAnd (opUshr x0 1) 1431655765)) 858993459) + (opAnd (opUshr (x0 - (opAnd (opUshr x0 1) 1431655765)) 2) 858993459)) 4)) 252645135) 8)) 16)) 63))) M) : RunQ d m_J_bitCount 0 [some (vI x0)] [] M Q := by
  refine q_iload_n 0 k_J_bitCount_0 rfl ?_
  refine q_iload_n 1 k_J_bitCount_1 rfl ?_
  refine q_iconst 2 k_J_bitCount_2 ?_
  refine q_iushr 3 k_J_bitCount_3 ?_
  refine q_ldc_w 4 k_J_bitCount_4 ck_5_265 ?_
  refine q_iand 7 k_J_bitCount_7 ?_
  refine q_isub 8 k_J_bitCount_8 ?_
  refine q_istore_n 9 k_J_bitCount_9 (ls' := [some (vI (x0 - (opAnd (opUshr x0 1) 1431655765)))]) rfl rfl ?_
  refine q_iload_n 10 k_J_bitCount_10 rfl ?_
  refine q_ldc_w 11 k_J_bitCount_11 ck_5_266 ?_
  refine q_iand 14 k_J_bitCount_14 ?_
  refine q_iload_n 15 k_J_bitCount_15 rfl ?_
  refine q_iconst 16 k_J_bitCount_16 ?_
  refine q_iushr 17 k_J_bitCount_17 ?_
  refine q_ldc_w 18 k_J_bitCount_18 ck_5_266 ?_
  refine q_iand 21 k_J_bitCount_21 ?_
  refine q_iadd 22 k_J_bitCount_22 ?_
  refine q_istore_n 23 k_J_bitCount_23 (ls' := [some (vI ((opAnd (x0 - (opAnd (opUshr x0 1) 1431655765)) 858993459) + (opAnd (opUshr (x0 - (opAnd (opUshr x0 1) 1431655765)) 2) 858993459)))]) rfl rfl ?_
  refine q_iload_n 24 k_J_bitCount_24 rfl ?_
  refine q_iload_n 25 k_J_bitCount_25 rfl ?_
  refine q_iconst 26 k_J_bitCount_26 ?_
  refine q_iushr 27 k_J_bitCount_27 ?_
  refine q_iadd 28 k_J_bitCount_28 ?_
  refine q_ldc_w 29 k_J_bitCount_29 ck_5_267 ?_
  refine q_iand 32 k_J_bitCount_32 ?_
  refine q_istore_n 33 k_J_bitCount_33 (ls' := [some (vI (opAnd (((opAnd (x0 - (opAnd (opUshr x0 1) 1431655765)) 858993459) + (opAnd (opUshr (x0 - (opAnd (opUshr x0 1) 1431655765)) 2) 858993459)) + (opUshr ((opAnd (x0 - (opAnd (opUshr x0 1) 1431655765)) 858993459) + (opAnd (opUshr (x0 - (opAnd (opUshr x0 1) 1431655765)) 2) 858993459)) 4)) 252645135))]) rfl rfl ?_
  refine q_iload_n 34 k_J_bitCount_34 rfl ?_
  refine q_iload_n 35 k_J_bitCount_35 rfl ?_
  refine q_bipush 36 k_J_bitCount_36 (by decide) ?_
  refine q_iushr 38 k_J_bitCount_38 ?_
  refine q_iadd 39 k_J_bitCount_39 ?_
  refine q_istore_n 40 k_J_bitCount_40 (ls' := [some (vI ((opAnd (((opAnd (x0 - (opAnd (opUshr x0 1) 1431655765)) 858993459) + (opAnd (opUshr (x0 - (opAnd (opUshr x0 1) 1431655765)) 2) 858993459)) + (opUshr ((opAnd (x0 - (opAnd (opUshr x0 1) 1431655765)) 858993459) + (opAnd (opUshr (x0 - (opAnd (opUshr x0 1) 1431655765)) 2) 858993459)) 4)) 252645135) + (opUshr (opAnd (((opAnd (x0 - (opAnd (opUshr x0 1) 1431655765)) 858993459) + (opAnd (opUshr (x0 - (opAnd (opUshr x0 1) 1431655765)) 2) 858993459)) + (opUshr ((opAnd (x0 - (opAnd (opUshr x0 1) 1431655765)) 858993459) + (opAnd (opUshr (x0 - (opAnd (opUshr x0 1) 1431655765)) 2) 858993459)) 4)) 252645135) 8)))]) rfl rfl ?_
  refine q_iload_n 41 k_J_bitCount_41 rfl ?_
  refine q_iload_n 42 k_J_bitCount_42 rfl ?_
  refine q_bipush 43 k_J_bitCount_43 (by decide) ?_
  refine q_iushr 45 k_J_bitCount_45 ?_
  refine q_iadd 46 k_J_bitCount_46 ?_
  refine q_istore_n 47 k_J_bitCount_47 (ls' := [some (vI (((opAnd (((opAnd (x0 - (opAnd (opUshr x0 1) 1431655765)) 858993459) + (opAnd (opUshr (x0 - (opAnd (opUshr x0 1) 1431655765)) 2) 858993459)) + (opUshr ((opAnd (x0 - (opAnd (opUshr x0 1) 1431655765)) 858993459) + (opAnd (opUshr (x0 - (opAnd (opUshr x0 1) 1431655765)) 2) 858993459)) 4)) 252645135) + (opUshr (opAnd (((opAnd (x0 - (opAnd (opUshr x0 1) 1431655765)) 858993459) + (opAnd (opUshr (x0 - (opAnd (opUshr x0 1) 1431655765)) 2) 858993459)) + (opUshr ((opAnd (x0 - (opAnd (opUshr x0 1) 1431655765)) 858993459) + (opAnd (opUshr (x0 - (opAnd (opUshr x0 1) 1431655765)) 2) 858993459)) 4)) 252645135) 8)) + (opUshr ((opAnd (((opAnd (x0 - (opAnd (opUshr x0 1) 1431655765)) 858993459) + (opAnd (opUshr (x0 - (opAnd (opUshr x0 1) 1431655765)) 2) 858993459)) + (opUshr ((opAnd (x0 - (opAnd (opUshr x0 1) 1431655765)) 858993459) + (opAnd (opUshr (x0 - (opAnd (opUshr x0 1) 1431655765)) 2) 858993459)) 4)) 252645135) + (opUshr (opAnd (((opAnd (x0 - (opAnd (opUshr x0 1) 1431655765)) 858993459) + (opAnd (opUshr (x0 - (opAnd (opUshr x0 1) 1431655765)) 2) 858993459)) + (opUshr ((opAnd (x0 - (opAnd (opUshr x0 1) 1431655765)) 858993459) + (opAnd (opUshr (x0 - (opAnd (opUshr x0 1) 1431655765)) 2) 858993459)) 4)) 252645135) 8)) 16)))]) rfl rfl ?_
  refine q_iload_n 48 k_J_bitCount_48 rfl ?_
  refine q_bipush 49 k_J_bitCount_49 (by decide) ?_
  refine q_iand 51 k_J_bitCount_51 ?_
  exact q_iret 52 k_J_bitCount_52 rfl h
end
section
theorem k_H_add_0 : decode (mtC m_H_add) 0 = .ok (.aload_n 0, 1) := by decide +kernel
theorem k_H_add_1 : decode (mtC m_H_add) 1 = .ok (.iload_n 1, 1) := by decide +kernel
theorem k_H_add_2 : decode (mtC m_H_add) 2 = .ok (.invokevirtual 38, 3) := by decide +kernel
theorem k_H_add_5 : decode (mtC m_H_add) 5 = .ok (.astore_n 3, 1) := by decide +kernel
theorem k_H_add_6 : decode (mtC m_H_add) 6 = .ok (.iload_n 2, 1) := by decide +kernel
theorem k_H_add_7 : decode (mtC m_H_add) 7 = .ok (.iconst 0, 1) := by decide +kernel
theorem k_H_add_8 : decode (mtC m_H_add) 8 = .ok (.sipush 999, 3) := by decide +kernel
theorem k_H_add_11 : decode (mtC m_H_add) 11 = .ok (.invokestatic 42, 3) := by decide +kernel
theorem k_H_add_14 : decode (mtC m_H_add) 14 = .ok (.aload_n 3, 1) := by decide +kernel
theorem k_H_add_15 : decode (mtC m_H_add) 15 = .ok (.iload_n 2, 1) := by decide +kernel
theorem k_H_add_16 : decode (mtC m_H_add) 16 = .ok (.invokevirtual 34, 3) := by decide +kernel
theorem k_H_add_19 : decode (mtC m_H_add) 19 = .ok (.ifCond .eq 10, 3) := by decide +kernel
theorem k_H_add_22 : decode (mtC m_H_add) 22 = .ok (.aload_n 3, 1) := by decide +kernel
theorem k_H_add_23 : decode (mtC m_H_add) 23 = .ok (.getfield 46, 3) := by decide +kernel
theorem k_H_add_26 : decode (mtC m_H_add) 26 = .ok (.goto 5, 3) := by decide +kernel
theorem k_H_add_29 : decode (mtC m_H_add) 29 = .ok (.bipush (-9), 2) := by decide +kernel
theorem k_H_add_31 : decode (mtC m_H_add) 31 = .ok (.ireturn, 1) := by decide +kernel
set_option maxHeartbeats 4000000 in
set_option maxRecDepth 100000 in
theorem T_H_add_0 {d : Nat} {x1 : Int} {x2 : Int} {M : AMem} {Q : Option AV → AMem → Prop}  (h : CallR d 1 m_H_findRow [vR 3 0, vI x1] M (fun r2 M1 => okH 1 r2 = true ∧ (CallV d m_H_requireWithin [vI x2, vI 0, vI 999] M1 (fun M4 => CallI d m_R_append [vR 1 r2, vI x2] M4 (fun y7 M6 => ((wI y7 = 0) → Q (some (vI (-9))) M6) ∧ (¬ (wI y7 = 0) → Q (some (vI (M6 1 r2 1))) M6)))))) : RunQ (d + 1) m_H_add 0 [some (vR 3 0), some (vI x1), some (vI x2), none] [] M Q := by
  refine q_aload_n 0 k_H_add_0 rfl ?_
  refine q_iload_n 1 k_H_add_1 rfl ?_
  refine q_vR 2 [vI x1] [] k_H_add_2 lk_3_38 rfl rfl rfl rfl rfl rfl rfl rfl (CallR.mono (fun r2 M1 h8 => ?_) h)
  have ok3 := h8.1
  have h8' := h8.2
  refine q_astore_n 5 k_H_add_5 (ls' := [some (vR 3 0), some (vI x1), some (vI x2), some (vR 1 r2)]) rfl rfl ?_
  refine q_iload_n 6 k_H_add_6 rfl ?_
  refine q_iconst 7 k_H_add_7 ?_
  refine q_sipush 8 k_H_add_8 (by decide) ?_
  refine q_sV 11 [vI x2, vI 0, vI 999] [] k_H_add_11 rfl lk_3_42 rfl rfl rfl rfl rfl rfl (CallV.mono (fun M4 h9 => ?_) h8')
  refine q_aload_n 14 k_H_add_14 rfl ?_
  refine q_iload_n 15 k_H_add_15 rfl ?_
  refine q_vI 16 [vI x2] [] k_H_add_16 lk_3_34 rfl rfl rfl ok3 rfl rfl rfl rfl (CallI.mono (fun y7 M6 h10 => ?_) h9)
  refine q_if_eq 19 29 k_H_add_19 rfl rfl (fun c19 => ?_) (fun c19 => ?_)
  · have h10t := h10.1 c19
    refine q_bipush 29 k_H_add_29 (by decide) ?_
    exact q_iret 31 k_H_add_31 rfl h10t
  · have h10f := h10.2 c19
    refine q_aload_n 22 k_H_add_22 rfl ?_
    refine q_getfield 23 k_H_add_23 fk_3_46 ok3 (v := vI (M6 1 r2 1)) rfl ?_
    refine q_goto 26 31 k_H_add_26 rfl rfl ?_
    exact q_iret 31 k_H_add_31 rfl h10f
theorem k_H_cut_0 : decode (mtC m_H_cut) 0 = .ok (.aload_n 0, 1) := by decide +kernel
theorem k_H_cut_1 : decode (mtC m_H_cut) 1 = .ok (.iload_n 1, 1) := by decide +kernel
theorem k_H_cut_2 : decode (mtC m_H_cut) 2 = .ok (.invokevirtual 38, 3) := by decide +kernel
theorem k_H_cut_5 : decode (mtC m_H_cut) 5 = .ok (.astore_n 2, 1) := by decide +kernel
theorem k_H_cut_6 : decode (mtC m_H_cut) 6 = .ok (.aload_n 2, 1) := by decide +kernel
theorem k_H_cut_7 : decode (mtC m_H_cut) 7 = .ok (.getfield 46, 3) := by decide +kernel
theorem k_H_cut_10 : decode (mtC m_H_cut) 10 = .ok (.ifCond .ne 6, 3) := by decide +kernel
theorem k_H_cut_13 : decode (mtC m_H_cut) 13 = .ok (.bipush (-9), 2) := by decide +kernel
theorem k_H_cut_15 : decode (mtC m_H_cut) 15 = .ok (.ireturn, 1) := by decide +kernel
theorem k_H_cut_16 : decode (mtC m_H_cut) 16 = .ok (.aload_n 2, 1) := by decide +kernel
theorem k_H_cut_17 : decode (mtC m_H_cut) 17 = .ok (.invokevirtual 50, 3) := by decide +kernel
theorem k_H_cut_20 : decode (mtC m_H_cut) 20 = .ok (.ireturn, 1) := by decide +kernel
set_option maxHeartbeats 4000000 in
set_option maxRecDepth 100000 in
theorem T_H_cut_0 {d : Nat} {x1 : Int} {M : AMem} {Q : Option AV → AMem → Prop}  (h : CallR d 1 m_H_findRow [vR 3 0, vI x1] M (fun r2 M1 => okH 1 r2 = true ∧ (((¬ wI (M1 1 r2 1) = 0) → CallI d m_R_removeLast [vR 1 r2] M1 (fun y5 M4 => Q (some (vI y5)) M4)) ∧ (¬ (¬ wI (M1 1 r2 1) = 0) → Q (some (vI (-9))) M1)))) : RunQ (d + 1) m_H_cut 0 [some (vR 3 0), some (vI x1), none] [] M Q := by
  refine q_aload_n 0 k_H_cut_0 rfl ?_
  refine q_iload_n 1 k_H_cut_1 rfl ?_
  refine q_vR 2 [vI x1] [] k_H_cut_2 lk_3_38 rfl rfl rfl rfl rfl rfl rfl rfl (CallR.mono (fun r2 M1 h6 => ?_) h)
  have ok3 := h6.1
  have h6' := h6.2
  refine q_astore_n 5 k_H_cut_5 (ls' := [some (vR 3 0), some (vI x1), some (vR 1 r2)]) rfl rfl ?_
  refine q_aload_n 6 k_H_cut_6 rfl ?_
  refine q_getfield 7 k_H_cut_7 fk_3_46 ok3 (v := vI (M1 1 r2 1)) rfl ?_
  refine q_if_ne 10 16 k_H_cut_10 rfl rfl (fun c10 => ?_) (fun c10 => ?_)
  · have h6't := h6'.1 c10
    refine q_aload_n 16 k_H_cut_16 rfl ?_
    refine q_vI 17 [] [] k_H_cut_17 lk_3_50 rfl rfl rfl ok3 rfl rfl rfl rfl (CallI.mono (fun y5 M4 h7 => ?_) h6't)
    exact q_iret 20 k_H_cut_20 rfl h7
  · have h6'f := h6'.2 c10
    refine q_bipush 13 k_H_cut_13 (by decide) ?_
    exact q_iret 15 k_H_cut_15 rfl h6'f
theorem k_H_fill_0 : decode (mtC m_H_fill) 0 = .ok (.aload_n 0, 1) := by decide +kernel
theorem k_H_fill_1 : decode (mtC m_H_fill) 1 = .ok (.iload_n 1, 1) := by decide +kernel
theorem k_H_fill_2 : decode (mtC m_H_fill) 2 = .ok (.invokevirtual 38, 3) := by decide +kernel
theorem k_H_fill_5 : decode (mtC m_H_fill) 5 = .ok (.astore 5, 2) := by decide +kernel
theorem k_H_fill_7 : decode (mtC m_H_fill) 7 = .ok (.iload_n 2, 1) := by decide +kernel
theorem k_H_fill_8 : decode (mtC m_H_fill) 8 = .ok (.iconst 0, 1) := by decide +kernel
theorem k_H_fill_9 : decode (mtC m_H_fill) 9 = .ok (.bipush 99, 2) := by decide +kernel
theorem k_H_fill_11 : decode (mtC m_H_fill) 11 = .ok (.invokestatic 42, 3) := by decide +kernel
theorem k_H_fill_14 : decode (mtC m_H_fill) 14 = .ok (.iload_n 3, 1) := by decide +kernel
theorem k_H_fill_15 : decode (mtC m_H_fill) 15 = .ok (.iconst 0, 1) := by decide +kernel
theorem k_H_fill_16 : decode (mtC m_H_fill) 16 = .ok (.bipush 99, 2) := by decide +kernel
theorem k_H_fill_18 : decode (mtC m_H_fill) 18 = .ok (.invokestatic 42, 3) := by decide +kernel
theorem k_H_fill_21 : decode (mtC m_H_fill) 21 = .ok (.iload 4, 2) := by decide +kernel
theorem k_H_fill_23 : decode (mtC m_H_fill) 23 = .ok (.iconst 1, 1) := by decide +kernel
theorem k_H_fill_24 : decode (mtC m_H_fill) 24 = .ok (.bipush 8, 2) := by decide +kernel
theorem k_H_fill_26 : decode (mtC m_H_fill) 26 = .ok (.invokestatic 42, 3) := by decide +kernel
theorem k_H_fill_29 : decode (mtC m_H_fill) 29 = .ok (.aload 5, 2) := by decide +kernel
theorem k_H_fill_31 : decode (mtC m_H_fill) 31 = .ok (.iconst 0, 1) := by decide +kernel
theorem k_H_fill_32 : decode (mtC m_H_fill) 32 = .ok (.putfield 46, 3) := by decide +kernel
theorem k_H_fill_35 : decode (mtC m_H_fill) 35 = .ok (.iconst 0, 1) := by decide +kernel
theorem k_H_fill_36 : decode (mtC m_H_fill) 36 = .ok (.istore 6, 2) := by decide +kernel
theorem k_H_fill_38 : decode (mtC m_H_fill) 38 = .ok (.iload 6, 2) := by decide +kernel
theorem k_H_fill_40 : decode (mtC m_H_fill) 40 = .ok (.iload 4, 2) := by decide +kernel
theorem k_H_fill_42 : decode (mtC m_H_fill) 42 = .ok (.if_icmp .ge 21, 3) := by decide +kernel
theorem k_H_fill_45 : decode (mtC m_H_fill) 45 = .ok (.aload 5, 2) := by decide +kernel
theorem k_H_fill_47 : decode (mtC m_H_fill) 47 = .ok (.iload_n 2, 1) := by decide +kernel
theorem k_H_fill_48 : decode (mtC m_H_fill) 48 = .ok (.iload 6, 2) := by decide +kernel
theorem k_H_fill_50 : decode (mtC m_H_fill) 50 = .ok (.iload_n 3, 1) := by decide +kernel
theorem k_H_fill_51 : decode (mtC m_H_fill) 51 = .ok (.imul, 1) := by decide +kernel
theorem k_H_fill_52 : decode (mtC m_H_fill) 52 = .ok (.iadd, 1) := by decide +kernel
theorem k_H_fill_53 : decode (mtC m_H_fill) 53 = .ok (.invokevirtual 34, 3) := by decide +kernel
theorem k_H_fill_56 : decode (mtC m_H_fill) 56 = .ok (.pop, 1) := by decide +kernel
theorem k_H_fill_57 : decode (mtC m_H_fill) 57 = .ok (.iinc 6 1, 3) := by decide +kernel
theorem k_H_fill_60 : decode (mtC m_H_fill) 60 = .ok (.goto (-22), 3) := by decide +kernel
theorem k_H_fill_63 : decode (mtC m_H_fill) 63 = .ok (.iload_n 2, 1) := by decide +kernel
theorem k_H_fill_64 : decode (mtC m_H_fill) 64 = .ok (.iload 4, 2) := by decide +kernel
theorem k_H_fill_66 : decode (mtC m_H_fill) 66 = .ok (.iconst 1, 1) := by decide +kernel
theorem k_H_fill_67 : decode (mtC m_H_fill) 67 = .ok (.isub, 1) := by decide +kernel
theorem k_H_fill_68 : decode (mtC m_H_fill) 68 = .ok (.iload_n 3, 1) := by decide +kernel
theorem k_H_fill_69 : decode (mtC m_H_fill) 69 = .ok (.imul, 1) := by decide +kernel
theorem k_H_fill_70 : decode (mtC m_H_fill) 70 = .ok (.iadd, 1) := by decide +kernel
theorem k_H_fill_71 : decode (mtC m_H_fill) 71 = .ok (.ireturn, 1) := by decide +kernel
set_option maxHeartbeats 4000000 in
set_option maxRecDepth 100000 in
theorem T_H_fill_0 {d : Nat} {x1 : Int} {x2 : Int} {x3 : Int} {x4 : Int} {M : AMem} {Q : Option AV → AMem → Prop}  (h : CallR d 1 m_H_findRow [vR 3 0, vI x1] M (fun r2 M1 => okH 1 r2 = true ∧ (CallV d m_H_requireWithin [vI x2, vI 0, vI 99] M1 (fun M4 => CallV d m_H_requireWithin [vI x3, vI 0, vI 99] M4 (fun M6 => CallV d m_H_requireWithin [vI x4, vI 1, vI 8] M6 (fun M8 => RunQ (d + 1) m_H_fill 38 [some (vR 3 0), some (vI x1), some (vI x2), some (vI x3), some (vI x4), some (vR 1 r2), some (vI 0)] [] (aup M8 1 r2 1 0) Q)))))) : RunQ (d + 1) m_H_fill 0 [some (vR 3 0), some (vI x1), some (vI x2), some (vI x3), some (vI x4), none, none] [] M Q := by
  refine q_aload_n 0 k_H_fill_0 rfl ?_
  refine q_iload_n 1 k_H_fill_1 rfl ?_
  refine q_vR 2 [vI x1] [] k_H_fill_2 lk_3_38 rfl rfl rfl rfl rfl rfl rfl rfl (CallR.mono (fun r2 M1 h10 => ?_) h)
  have ok3 := h10.1
  have h10' := h10.2
  refine q_astore 5 k_H_fill_5 (ls' := [some (vR 3 0), some (vI x1), some (vI x2), some (vI x3), some (vI x4), some (vR 1 r2), none]) rfl rfl ?_
  refine q_iload_n 7 k_H_fill_7 rfl ?_
  refine q_iconst 8 k_H_fill_8 ?_
  refine q_bipush 9 k_H_fill_9 (by decide) ?_
  refine q_sV 11 [vI x2, vI 0, vI 99] [] k_H_fill_11 rfl lk_3_42 rfl rfl rfl rfl rfl rfl (CallV.mono (fun M4 h11 => ?_) h10')
  refine q_iload_n 14 k_H_fill_14 rfl ?_
  refine q_iconst 15 k_H_fill_15 ?_
  refine q_bipush 16 k_H_fill_16 (by decide) ?_
  refine q_sV 18 [vI x3, vI 0, vI 99] [] k_H_fill_18 rfl lk_3_42 rfl rfl rfl rfl rfl rfl (CallV.mono (fun M6 h12 => ?_) h11)
  refine q_iload 21 k_H_fill_21 rfl ?_
  refine q_iconst 23 k_H_fill_23 ?_
  refine q_bipush 24 k_H_fill_24 (by decide) ?_
  refine q_sV 26 [vI x4, vI 1, vI 8] [] k_H_fill_26 rfl lk_3_42 rfl rfl rfl rfl rfl rfl (CallV.mono (fun M8 h13 => ?_) h12)
  refine q_aload 29 k_H_fill_29 rfl ?_
  refine q_iconst 31 k_H_fill_31 ?_
  refine q_putfield 32 k_H_fill_32 fk_3_46 ok3 rfl (fun z => absurd z (by decide)) ?_
  refine q_iconst 35 k_H_fill_35 ?_
  refine q_istore 36 k_H_fill_36 (ls' := [some (vR 3 0), some (vI x1), some (vI x2), some (vI x3), some (vI x4), some (vR 1 r2), some (vI 0)]) rfl rfl ?_
  exact h13
set_option maxHeartbeats 4000000 in
set_option maxRecDepth 100000 in
theorem T_H_fill_38 {d : Nat} {x1 : Int} {x2 : Int} {x3 : Int} {x4 : Int} {i5 : Nat} {x6 : Int} {M : AMem} {Q : Option AV → AMem → Prop} (o5 : okH 1 i5 = true) (h : ((wI x4 ≤ wI x6) → Q (some (vI (x2 + ((x4 - 1) * x3)))) M) ∧ (¬ (wI x4 ≤ wI x6) → CallI d m_R_append [vR 1 i5, vI (x2 + (x6 * x3))] M (fun y2 M1 => RunQ (d + 1) m_H_fill 38 [some (vR 3 0), some (vI x1), some (vI x2), some (vI x3), some (vI x4), some (vR 1 i5), some (vI (x6 + 1))] [] M1 Q))) : RunQ (d + 1) m_H_fill 38 [some (vR 3 0), some (vI x1), some (vI x2), some (vI x3), some (vI x4), some (vR 1 i5), some (vI x6)] [] M Q := by
  refine q_iload 38 k_H_fill_38 rfl ?_
  refine q_iload 40 k_H_fill_40 rfl ?_
  refine q_icmp_ge 42 63 k_H_fill_42 rfl rfl (fun c42 => ?_) (fun c42 => ?_)
  · have ht := h.1 c42
    refine q_iload_n 63 k_H_fill_63 rfl ?_
    refine q_iload 64 k_H_fill_64 rfl ?_
    refine q_iconst 66 k_H_fill_66 ?_
    refine q_isub 67 k_H_fill_67 ?_
    refine q_iload_n 68 k_H_fill_68 rfl ?_
    refine q_imul 69 k_H_fill_69 ?_
    refine q_iadd 70 k_H_fill_70 ?_
    exact q_iret 71 k_H_fill_71 rfl ht
  · have hf := h.2 c42
    refine q_aload 45 k_H_fill_45 rfl ?_
    refine q_iload_n 47 k_H_fill_47 rfl ?_
    refine q_iload 48 k_H_fill_48 rfl ?_
    refine q_iload_n 50 k_H_fill_50 rfl ?_
    refine q_imul 51 k_H_fill_51 ?_
    refine q_iadd 52 k_H_fill_52 ?_
    refine q_vI 53 [vI (x2 + (x6 * x3))] [] k_H_fill_53 lk_3_34 rfl rfl rfl o5 rfl rfl rfl rfl (CallI.mono (fun y2 M1 h3 => ?_) hf)
    refine q_pop 56 k_H_fill_56 rfl ?_
    refine q_iinc 57 k_H_fill_57 (ls' := [some (vR 3 0), some (vI x1), some (vI x2), some (vI x3), some (vI x4), some (vR 1 i5), some (vI (x6 + 1))]) rfl rfl rfl ?_
    refine q_goto 60 38 k_H_fill_60 rfl rfl ?_
    exact h3
theorem k_H_rowAt_0 : decode (mtC m_H_rowAt) 0 = .ok (.aload_n 0, 1) := by decide +kernel
theorem k_H_rowAt_1 : decode (mtC m_H_rowAt) 1 = .ok (.iload_n 1, 1) := by decide +kernel
theorem k_H_rowAt_2 : decode (mtC m_H_rowAt) 2 = .ok (.invokevirtual 38, 3) := by decide +kernel
theorem k_H_rowAt_5 : decode (mtC m_H_rowAt) 5 = .ok (.astore_n 3, 1) := by decide +kernel
theorem k_H_rowAt_6 : decode (mtC m_H_rowAt) 6 = .ok (.iload_n 2, 1) := by decide +kernel
theorem k_H_rowAt_7 : decode (mtC m_H_rowAt) 7 = .ok (.bipush 8, 2) := by decide +kernel
theorem k_H_rowAt_9 : decode (mtC m_H_rowAt) 9 = .ok (.invokestatic 54, 3) := by decide +kernel
theorem k_H_rowAt_12 : decode (mtC m_H_rowAt) 12 = .ok (.aload_n 3, 1) := by decide +kernel
theorem k_H_rowAt_13 : decode (mtC m_H_rowAt) 13 = .ok (.iload_n 2, 1) := by decide +kernel
theorem k_H_rowAt_14 : decode (mtC m_H_rowAt) 14 = .ok (.invokevirtual 58, 3) := by decide +kernel
theorem k_H_rowAt_17 : decode (mtC m_H_rowAt) 17 = .ok (.ireturn, 1) := by decide +kernel
set_option maxHeartbeats 4000000 in
set_option maxRecDepth 100000 in
theorem T_H_rowAt_0 {d : Nat} {x1 : Int} {x2 : Int} {M : AMem} {Q : Option AV → AMem → Prop}  (h : CallR d 1 m_H_findRow [vR 3 0, vI x1] M (fun r2 M1 => okH 1 r2 = true ∧ (CallV d m_H_requirePlace [vI x2, vI 8] M1 (fun M4 => CallI d m_R_numberAt [vR 1 r2, vI x2] M4 (fun y7 M6 => Q (some (vI y7)) M6))))) : RunQ (d + 1) m_H_rowAt 0 [some (vR 3 0), some (vI x1), some (vI x2), none] [] M Q := by
  refine q_aload_n 0 k_H_rowAt_0 rfl ?_
  refine q_iload_n 1 k_H_rowAt_1 rfl ?_
  refine q_vR 2 [vI x1] [] k_H_rowAt_2 lk_3_38 rfl rfl rfl rfl rfl rfl rfl rfl (CallR.mono (fun r2 M1 h8 => ?_) h)
  have ok3 := h8.1
  have h8' := h8.2
  refine q_astore_n 5 k_H_rowAt_5 (ls' := [some (vR 3 0), some (vI x1), some (vI x2), some (vR 1 r2)]) rfl rfl ?_
  refine q_iload_n 6 k_H_rowAt_6 rfl ?_
  refine q_bipush 7 k_H_rowAt_7 (by decide) ?_
  refine q_sV 9 [vI x2, vI 8] [] k_H_rowAt_9 rfl lk_3_54 rfl rfl rfl rfl rfl rfl (CallV.mono (fun M4 h9 => ?_) h8')
  refine q_aload_n 12 k_H_rowAt_12 rfl ?_
  refine q_iload_n 13 k_H_rowAt_13 rfl ?_
  refine q_vI 14 [vI x2] [] k_H_rowAt_14 lk_3_58 rfl rfl rfl ok3 rfl rfl rfl rfl (CallI.mono (fun y7 M6 h10 => ?_) h9)
  exact q_iret 17 k_H_rowAt_17 rfl h10
theorem k_H_rowSize_0 : decode (mtC m_H_rowSize) 0 = .ok (.aload_n 0, 1) := by decide +kernel
theorem k_H_rowSize_1 : decode (mtC m_H_rowSize) 1 = .ok (.iload_n 1, 1) := by decide +kernel
theorem k_H_rowSize_2 : decode (mtC m_H_rowSize) 2 = .ok (.invokevirtual 38, 3) := by decide +kernel
theorem k_H_rowSize_5 : decode (mtC m_H_rowSize) 5 = .ok (.getfield 46, 3) := by decide +kernel
theorem k_H_rowSize_8 : decode (mtC m_H_rowSize) 8 = .ok (.ireturn, 1) := by decide +kernel
set_option maxHeartbeats 4000000 in
set_option maxRecDepth 100000 in
theorem T_H_rowSize_0 {d : Nat} {x1 : Int} {M : AMem} {Q : Option AV → AMem → Prop}  (h : CallR d 1 m_H_findRow [vR 3 0, vI x1] M (fun r2 M1 => okH 1 r2 = true ∧ (Q (some (vI (M1 1 r2 1))) M1))) : RunQ (d + 1) m_H_rowSize 0 [some (vR 3 0), some (vI x1)] [] M Q := by
  refine q_aload_n 0 k_H_rowSize_0 rfl ?_
  refine q_iload_n 1 k_H_rowSize_1 rfl ?_
  refine q_vR 2 [vI x1] [] k_H_rowSize_2 lk_3_38 rfl rfl rfl rfl rfl rfl rfl rfl (CallR.mono (fun r2 M1 h4 => ?_) h)
  have ok3 := h4.1
  have h4' := h4.2
  refine q_getfield 5 k_H_rowSize_5 fk_3_46 ok3 (v := vI (M1 1 r2 1)) rfl ?_
  exact q_iret 8 k_H_rowSize_8 rfl h4'
theorem k_H_least_0 : decode (mtC m_H_least) 0 = .ok (.iload_n 1, 1) := by decide +kernel
theorem k_H_least_1 : decode (mtC m_H_least) 1 = .ok (.iconst 1, 1) := by decide +kernel
theorem k_H_least_2 : decode (mtC m_H_least) 2 = .ok (.bipush 63, 2) := by decide +kernel
theorem k_H_least_4 : decode (mtC m_H_least) 4 = .ok (.invokestatic 42, 3) := by decide +kernel
theorem k_H_least_7 : decode (mtC m_H_least) 7 = .ok (.iload_n 2, 1) := by decide +kernel
theorem k_H_least_8 : decode (mtC m_H_least) 8 = .ok (.iconst 0, 1) := by decide +kernel
theorem k_H_least_9 : decode (mtC m_H_least) 9 = .ok (.bipush 47, 2) := by decide +kernel
theorem k_H_least_11 : decode (mtC m_H_least) 11 = .ok (.invokestatic 42, 3) := by decide +kernel
theorem k_H_least_14 : decode (mtC m_H_least) 14 = .ok (.aload_n 0, 1) := by decide +kernel
theorem k_H_least_15 : decode (mtC m_H_least) 15 = .ok (.getfield 27, 3) := by decide +kernel
theorem k_H_least_18 : decode (mtC m_H_least) 18 = .ok (.aload_n 0, 1) := by decide +kernel
theorem k_H_least_19 : decode (mtC m_H_least) 19 = .ok (.getfield 11, 3) := by decide +kernel
theorem k_H_least_22 : decode (mtC m_H_least) 22 = .ok (.iload_n 1, 1) := by decide +kernel
theorem k_H_least_23 : decode (mtC m_H_least) 23 = .ok (.iconst 0, 1) := by decide +kernel
theorem k_H_least_24 : decode (mtC m_H_least) 24 = .ok (.invokevirtual 73, 3) := by decide +kernel
theorem k_H_least_27 : decode (mtC m_H_least) 27 = .ok (.aload_n 0, 1) := by decide +kernel
theorem k_H_least_28 : decode (mtC m_H_least) 28 = .ok (.getfield 27, 3) := by decide +kernel
theorem k_H_least_31 : decode (mtC m_H_least) 31 = .ok (.iload_n 2, 1) := by decide +kernel
theorem k_H_least_32 : decode (mtC m_H_least) 32 = .ok (.invokevirtual 77, 3) := by decide +kernel
theorem k_H_least_35 : decode (mtC m_H_least) 35 = .ok (.ireturn, 1) := by decide +kernel
set_option maxHeartbeats 4000000 in
set_option maxRecDepth 100000 in
theorem T_H_least_0 {d : Nat} {x1 : Int} {x2 : Int} {M : AMem} {Q : Option AV → AMem → Prop}  (h : CallV d m_H_requireWithin [vI x1, vI 1, vI 63] M (fun M1 => CallV d m_H_requireWithin [vI x2, vI 0, vI 47] M1 (fun M3 => CallV d m_W_beginMerged [vR 2 5, vR 7 0, vI x1, vI 0] M3 (fun M5 => CallI d m_W_numberBehind [vR 2 5, vI x2] M5 (fun y8 M7 => Q (some (vI y8)) M7))))) : RunQ (d + 1) m_H_least 0 [some (vR 3 0), some (vI x1), some (vI x2)] [] M Q := by
  refine q_iload_n 0 k_H_least_0 rfl ?_
  refine q_iconst 1 k_H_least_1 ?_
  refine q_bipush 2 k_H_least_2 (by decide) ?_
  refine q_sV 4 [vI x1, vI 1, vI 63] [] k_H_least_4 rfl lk_3_42 rfl rfl rfl rfl rfl rfl (CallV.mono (fun M1 h9 => ?_) h)
  refine q_iload_n 7 k_H_least_7 rfl ?_
  refine q_iconst 8 k_H_least_8 ?_
  refine q_bipush 9 k_H_least_9 (by decide) ?_
  refine q_sV 11 [vI x2, vI 0, vI 47] [] k_H_least_11 rfl lk_3_42 rfl rfl rfl rfl rfl rfl (CallV.mono (fun M3 h10 => ?_) h9)
  refine q_aload_n 14 k_H_least_14 rfl ?_
  refine q_getfield 15 k_H_least_15 fk_3_27 rfl (v := vR 2 5) rfl ?_
  refine q_aload_n 18 k_H_least_18 rfl ?_
  refine q_getfield 19 k_H_least_19 fk_3_11 rfl (v := vR 7 0) rfl ?_
  refine q_iload_n 22 k_H_least_22 rfl ?_
  refine q_iconst 23 k_H_least_23 ?_
  refine q_vV 24 [vR 7 0, vI x1, vI 0] [] k_H_least_24 lk_3_73 rfl rfl rfl rfl rfl rfl rfl rfl (CallV.mono (fun M5 h11 => ?_) h10)
  refine q_aload_n 27 k_H_least_27 rfl ?_
  refine q_getfield 28 k_H_least_28 fk_3_27 rfl (v := vR 2 5) rfl ?_
  refine q_iload_n 31 k_H_least_31 rfl ?_
  refine q_vI 32 [vI x2] [] k_H_least_32 lk_3_77 rfl rfl rfl rfl rfl rfl rfl rfl (CallI.mono (fun y8 M7 h12 => ?_) h11)
  exact q_iret 35 k_H_least_35 rfl h12
theorem k_H_powers_0 : decode (mtC m_H_powers) 0 = .ok (.aload_n 0, 1) := by decide +kernel
theorem k_H_powers_1 : decode (mtC m_H_powers) 1 = .ok (.iload_n 1, 1) := by decide +kernel
theorem k_H_powers_2 : decode (mtC m_H_powers) 2 = .ok (.invokevirtual 80, 3) := by decide +kernel
theorem k_H_powers_5 : decode (mtC m_H_powers) 5 = .ok (.astore_n 3, 1) := by decide +kernel
theorem k_H_powers_6 : decode (mtC m_H_powers) 6 = .ok (.iload_n 2, 1) := by decide +kernel
theorem k_H_powers_7 : decode (mtC m_H_powers) 7 = .ok (.iconst 1, 1) := by decide +kernel
theorem k_H_powers_8 : decode (mtC m_H_powers) 8 = .ok (.bipush 63, 2) := by decide +kernel
theorem k_H_powers_10 : decode (mtC m_H_powers) 10 = .ok (.invokestatic 42, 3) := by decide +kernel
theorem k_H_powers_13 : decode (mtC m_H_powers) 13 = .ok (.aload_n 3, 1) := by decide +kernel
theorem k_H_powers_14 : decode (mtC m_H_powers) 14 = .ok (.iconst 0, 1) := by decide +kernel
theorem k_H_powers_15 : decode (mtC m_H_powers) 15 = .ok (.iload_n 2, 1) := by decide +kernel
theorem k_H_powers_16 : decode (mtC m_H_powers) 16 = .ok (.iconst 0, 1) := by decide +kernel
theorem k_H_powers_17 : decode (mtC m_H_powers) 17 = .ok (.invokevirtual 84, 3) := by decide +kernel
theorem k_H_powers_20 : decode (mtC m_H_powers) 20 = .ok (.aload_n 3, 1) := by decide +kernel
theorem k_H_powers_21 : decode (mtC m_H_powers) 21 = .ok (.getfield 88, 3) := by decide +kernel
theorem k_H_powers_24 : decode (mtC m_H_powers) 24 = .ok (.getfield 92, 3) := by decide +kernel
theorem k_H_powers_27 : decode (mtC m_H_powers) 27 = .ok (.ireturn, 1) := by decide +kernel
set_option maxHeartbeats 4000000 in
set_option maxRecDepth 100000 in
theorem T_H_powers_0 {d : Nat} {x1 : Int} {x2 : Int} {M : AMem} {Q : Option AV → AMem → Prop}  (h : CallR d 2 m_H_findWell [vR 3 0, vI x1] M (fun r2 M1 => okH 2 r2 = true ∧ (CallV d m_H_requireWithin [vI x2, vI 1, vI 63] M1 (fun M4 => CallV d m_W_begin [vR 2 r2, vI 0, vI x2, vI 0] M4 (fun M6 => Q (some (vI (M6 0 r2 1))) M6))))) : RunQ (d + 1) m_H_powers 0 [some (vR 3 0), some (vI x1), some (vI x2), none] [] M Q := by
  refine q_aload_n 0 k_H_powers_0 rfl ?_
  refine q_iload_n 1 k_H_powers_1 rfl ?_
  refine q_vR 2 [vI x1] [] k_H_powers_2 lk_3_80 rfl rfl rfl rfl rfl rfl rfl rfl (CallR.mono (fun r2 M1 h8 => ?_) h)
  have ok3 := h8.1
  have h8' := h8.2
  refine q_astore_n 5 k_H_powers_5 (ls' := [some (vR 3 0), some (vI x1), some (vI x2), some (vR 2 r2)]) rfl rfl ?_
  refine q_iload_n 6 k_H_powers_6 rfl ?_
  refine q_iconst 7 k_H_powers_7 ?_
  refine q_bipush 8 k_H_powers_8 (by decide) ?_
  refine q_sV 10 [vI x2, vI 1, vI 63] [] k_H_powers_10 rfl lk_3_42 rfl rfl rfl rfl rfl rfl (CallV.mono (fun M4 h9 => ?_) h8')
  refine q_aload_n 13 k_H_powers_13 rfl ?_
  refine q_iconst 14 k_H_powers_14 ?_
  refine q_iload_n 15 k_H_powers_15 rfl ?_
  refine q_iconst 16 k_H_powers_16 ?_
  refine q_vV 17 [vI 0, vI x2, vI 0] [] k_H_powers_17 lk_3_84 rfl rfl rfl ok3 rfl rfl rfl rfl (CallV.mono (fun M6 h10 => ?_) h9)
  refine q_aload_n 20 k_H_powers_20 rfl ?_
  refine q_getfield 21 k_H_powers_21 fk_3_88 ok3 (v := vR 0 r2) rfl ?_
  refine q_getfield 24 k_H_powers_24 fk_3_92 ok3 (v := vI (M6 0 r2 1)) rfl ?_
  exact q_iret 27 k_H_powers_27 rfl h10
theorem k_H_sums_0 : decode (mtC m_H_sums) 0 = .ok (.aload_n 0, 1) := by decide +kernel
theorem k_H_sums_1 : decode (mtC m_H_sums) 1 = .ok (.iload_n 1, 1) := by decide +kernel
theorem k_H_sums_2 : decode (mtC m_H_sums) 2 = .ok (.invokevirtual 80, 3) := by decide +kernel
theorem k_H_sums_5 : decode (mtC m_H_sums) 5 = .ok (.astore 4, 2) := by decide +kernel
theorem k_H_sums_7 : decode (mtC m_H_sums) 7 = .ok (.aload 4, 2) := by decide +kernel
theorem k_H_sums_9 : decode (mtC m_H_sums) 9 = .ok (.iconst 1, 1) := by decide +kernel
theorem k_H_sums_10 : decode (mtC m_H_sums) 10 = .ok (.aload_n 0, 1) := by decide +kernel
theorem k_H_sums_11 : decode (mtC m_H_sums) 11 = .ok (.iload_n 2, 1) := by decide +kernel
theorem k_H_sums_12 : decode (mtC m_H_sums) 12 = .ok (.invokevirtual 38, 3) := by decide +kernel
theorem k_H_sums_15 : decode (mtC m_H_sums) 15 = .ok (.aload_n 0, 1) := by decide +kernel
theorem k_H_sums_16 : decode (mtC m_H_sums) 16 = .ok (.iload_n 3, 1) := by decide +kernel
theorem k_H_sums_17 : decode (mtC m_H_sums) 17 = .ok (.invokevirtual 38, 3) := by decide +kernel
theorem k_H_sums_20 : decode (mtC m_H_sums) 20 = .ok (.aload_n 0, 1) := by decide +kernel
theorem k_H_sums_21 : decode (mtC m_H_sums) 21 = .ok (.getfield 16, 3) := by decide +kernel
theorem k_H_sums_24 : decode (mtC m_H_sums) 24 = .ok (.invokevirtual 97, 3) := by decide +kernel
theorem k_H_sums_27 : decode (mtC m_H_sums) 27 = .ok (.aload 4, 2) := by decide +kernel
theorem k_H_sums_29 : decode (mtC m_H_sums) 29 = .ok (.getfield 88, 3) := by decide +kernel
theorem k_H_sums_32 : decode (mtC m_H_sums) 32 = .ok (.getfield 92, 3) := by decide +kernel
theorem k_H_sums_35 : decode (mtC m_H_sums) 35 = .ok (.ireturn, 1) := by decide +kernel
set_option maxHeartbeats 4000000 in
set_option maxRecDepth 100000 in
theorem T_H_sums_0 {d : Nat} {x1 : Int} {x2 : Int} {x3 : Int} {M : AMem} {Q : Option AV → AMem → Prop}  (h : CallR d 2 m_H_findWell [vR 3 0, vI x1] M (fun r2 M1 => okH 2 r2 = true ∧ (CallR d 1 m_H_findRow [vR 3 0, vI x2] M1 (fun r5 M4 => okH 1 r5 = true ∧ (CallR d 1 m_H_findRow [vR 3 0, vI x3] M4 (fun r8 M7 => okH 1 r8 = true ∧ (CallV d m_W_beginGrid [vR 2 r2, vI 1, vR 1 r5, vR 1 r8, vR 1 48] M7 (fun M10 => Q (some (vI (M10 0 r2 1))) M10)))))))) : RunQ (d + 1) m_H_sums 0 [some (vR 3 0), some (vI x1), some (vI x2), some (vI x3), none] [] M Q := by
  refine q_aload_n 0 k_H_sums_0 rfl ?_
  refine q_iload_n 1 k_H_sums_1 rfl ?_
  refine q_vR 2 [vI x1] [] k_H_sums_2 lk_3_80 rfl rfl rfl rfl rfl rfl rfl rfl (CallR.mono (fun r2 M1 h12 => ?_) h)
  have ok3 := h12.1
  have h12' := h12.2
  refine q_astore 5 k_H_sums_5 (ls' := [some (vR 3 0), some (vI x1), some (vI x2), some (vI x3), some (vR 2 r2)]) rfl rfl ?_
  refine q_aload 7 k_H_sums_7 rfl ?_
  refine q_iconst 9 k_H_sums_9 ?_
  refine q_aload_n 10 k_H_sums_10 rfl ?_
  refine q_iload_n 11 k_H_sums_11 rfl ?_
  refine q_vR 12 [vI x2] [vI 1, vR 2 r2] k_H_sums_12 lk_3_38 rfl rfl rfl rfl rfl rfl rfl rfl (CallR.mono (fun r5 M4 h13 => ?_) h12')
  have ok6 := h13.1
  have h13' := h13.2
  refine q_aload_n 15 k_H_sums_15 rfl ?_
  refine q_iload_n 16 k_H_sums_16 rfl ?_
  refine q_vR 17 [vI x3] [vR 1 r5, vI 1, vR 2 r2] k_H_sums_17 lk_3_38 rfl rfl rfl rfl rfl rfl rfl rfl (CallR.mono (fun r8 M7 h14 => ?_) h13')
  have ok9 := h14.1
  have h14' := h14.2
  refine q_aload_n 20 k_H_sums_20 rfl ?_
  refine q_getfield 21 k_H_sums_21 fk_3_16 rfl (v := vR 1 48) rfl ?_
  refine q_vV 24 [vI 1, vR 1 r5, vR 1 r8, vR 1 48] [] k_H_sums_24 lk_3_97 rfl rfl rfl ok3 rfl rfl rfl rfl (CallV.mono (fun M10 h15 => ?_) h14')
  refine q_aload 27 k_H_sums_27 rfl ?_
  refine q_getfield 29 k_H_sums_29 fk_3_88 ok3 (v := vR 0 r2) rfl ?_
  refine q_getfield 32 k_H_sums_32 fk_3_92 ok3 (v := vI (M10 0 r2 1)) rfl ?_
  exact q_iret 35 k_H_sums_35 rfl h15
theorem k_H_triples_0 : decode (mtC m_H_triples) 0 = .ok (.aload_n 0, 1) := by decide +kernel
theorem k_H_triples_1 : decode (mtC m_H_triples) 1 = .ok (.iload_n 1, 1) := by decide +kernel
theorem k_H_triples_2 : decode (mtC m_H_triples) 2 = .ok (.invokevirtual 80, 3) := by decide +kernel
theorem k_H_triples_5 : decode (mtC m_H_triples) 5 = .ok (.astore 5, 2) := by decide +kernel
theorem k_H_triples_7 : decode (mtC m_H_triples) 7 = .ok (.aload 5, 2) := by decide +kernel
theorem k_H_triples_9 : decode (mtC m_H_triples) 9 = .ok (.iconst 2, 1) := by decide +kernel
theorem k_H_triples_10 : decode (mtC m_H_triples) 10 = .ok (.aload_n 0, 1) := by decide +kernel
theorem k_H_triples_11 : decode (mtC m_H_triples) 11 = .ok (.iload_n 2, 1) := by decide +kernel
theorem k_H_triples_12 : decode (mtC m_H_triples) 12 = .ok (.invokevirtual 38, 3) := by decide +kernel
theorem k_H_triples_15 : decode (mtC m_H_triples) 15 = .ok (.aload_n 0, 1) := by decide +kernel
theorem k_H_triples_16 : decode (mtC m_H_triples) 16 = .ok (.iload_n 3, 1) := by decide +kernel
theorem k_H_triples_17 : decode (mtC m_H_triples) 17 = .ok (.invokevirtual 38, 3) := by decide +kernel
theorem k_H_triples_20 : decode (mtC m_H_triples) 20 = .ok (.aload_n 0, 1) := by decide +kernel
theorem k_H_triples_21 : decode (mtC m_H_triples) 21 = .ok (.iload 4, 2) := by decide +kernel
theorem k_H_triples_23 : decode (mtC m_H_triples) 23 = .ok (.invokevirtual 38, 3) := by decide +kernel
theorem k_H_triples_26 : decode (mtC m_H_triples) 26 = .ok (.invokevirtual 97, 3) := by decide +kernel
theorem k_H_triples_29 : decode (mtC m_H_triples) 29 = .ok (.aload 5, 2) := by decide +kernel
theorem k_H_triples_31 : decode (mtC m_H_triples) 31 = .ok (.getfield 88, 3) := by decide +kernel
theorem k_H_triples_34 : decode (mtC m_H_triples) 34 = .ok (.getfield 92, 3) := by decide +kernel
theorem k_H_triples_37 : decode (mtC m_H_triples) 37 = .ok (.ireturn, 1) := by decide +kernel
set_option maxHeartbeats 4000000 in
set_option maxRecDepth 100000 in
theorem T_H_triples_0 {d : Nat} {x1 : Int} {x2 : Int} {x3 : Int} {x4 : Int} {M : AMem} {Q : Option AV → AMem → Prop}  (h : CallR d 2 m_H_findWell [vR 3 0, vI x1] M (fun r2 M1 => okH 2 r2 = true ∧ (CallR d 1 m_H_findRow [vR 3 0, vI x2] M1 (fun r5 M4 => okH 1 r5 = true ∧ (CallR d 1 m_H_findRow [vR 3 0, vI x3] M4 (fun r8 M7 => okH 1 r8 = true ∧ (CallR d 1 m_H_findRow [vR 3 0, vI x4] M7 (fun r11 M10 => okH 1 r11 = true ∧ (CallV d m_W_beginGrid [vR 2 r2, vI 2, vR 1 r5, vR 1 r8, vR 1 r11] M10 (fun M13 => Q (some (vI (M13 0 r2 1))) M13)))))))))) : RunQ (d + 1) m_H_triples 0 [some (vR 3 0), some (vI x1), some (vI x2), some (vI x3), some (vI x4), none] [] M Q := by
  refine q_aload_n 0 k_H_triples_0 rfl ?_
  refine q_iload_n 1 k_H_triples_1 rfl ?_
  refine q_vR 2 [vI x1] [] k_H_triples_2 lk_3_80 rfl rfl rfl rfl rfl rfl rfl rfl (CallR.mono (fun r2 M1 h15 => ?_) h)
  have ok3 := h15.1
  have h15' := h15.2
  refine q_astore 5 k_H_triples_5 (ls' := [some (vR 3 0), some (vI x1), some (vI x2), some (vI x3), some (vI x4), some (vR 2 r2)]) rfl rfl ?_
  refine q_aload 7 k_H_triples_7 rfl ?_
  refine q_iconst 9 k_H_triples_9 ?_
  refine q_aload_n 10 k_H_triples_10 rfl ?_
  refine q_iload_n 11 k_H_triples_11 rfl ?_
  refine q_vR 12 [vI x2] [vI 2, vR 2 r2] k_H_triples_12 lk_3_38 rfl rfl rfl rfl rfl rfl rfl rfl (CallR.mono (fun r5 M4 h16 => ?_) h15')
  have ok6 := h16.1
  have h16' := h16.2
  refine q_aload_n 15 k_H_triples_15 rfl ?_
  refine q_iload_n 16 k_H_triples_16 rfl ?_
  refine q_vR 17 [vI x3] [vR 1 r5, vI 2, vR 2 r2] k_H_triples_17 lk_3_38 rfl rfl rfl rfl rfl rfl rfl rfl (CallR.mono (fun r8 M7 h17 => ?_) h16')
  have ok9 := h17.1
  have h17' := h17.2
  refine q_aload_n 20 k_H_triples_20 rfl ?_
  refine q_iload 21 k_H_triples_21 rfl ?_
  refine q_vR 23 [vI x4] [vR 1 r8, vR 1 r5, vI 2, vR 2 r2] k_H_triples_23 lk_3_38 rfl rfl rfl rfl rfl rfl rfl rfl (CallR.mono (fun r11 M10 h18 => ?_) h17')
  have ok12 := h18.1
  have h18' := h18.2
  refine q_vV 26 [vI 2, vR 1 r5, vR 1 r8, vR 1 r11] [] k_H_triples_26 lk_3_97 rfl rfl rfl ok3 rfl rfl rfl rfl (CallV.mono (fun M13 h19 => ?_) h18')
  refine q_aload 29 k_H_triples_29 rfl ?_
  refine q_getfield 31 k_H_triples_31 fk_3_88 ok3 (v := vR 0 r2) rfl ?_
  refine q_getfield 34 k_H_triples_34 fk_3_92 ok3 (v := vI (M13 0 r2 1)) rfl ?_
  exact q_iret 37 k_H_triples_37 rfl h19
theorem k_H_merge_0 : decode (mtC m_H_merge) 0 = .ok (.aload_n 0, 1) := by decide +kernel
theorem k_H_merge_1 : decode (mtC m_H_merge) 1 = .ok (.iload_n 1, 1) := by decide +kernel
theorem k_H_merge_2 : decode (mtC m_H_merge) 2 = .ok (.invokevirtual 80, 3) := by decide +kernel
theorem k_H_merge_5 : decode (mtC m_H_merge) 5 = .ok (.astore 4, 2) := by decide +kernel
theorem k_H_merge_7 : decode (mtC m_H_merge) 7 = .ok (.iload_n 2, 1) := by decide +kernel
theorem k_H_merge_8 : decode (mtC m_H_merge) 8 = .ok (.iconst 1, 1) := by decide +kernel
theorem k_H_merge_9 : decode (mtC m_H_merge) 9 = .ok (.bipush 63, 2) := by decide +kernel
theorem k_H_merge_11 : decode (mtC m_H_merge) 11 = .ok (.invokestatic 42, 3) := by decide +kernel
theorem k_H_merge_14 : decode (mtC m_H_merge) 14 = .ok (.aload 4, 2) := by decide +kernel
theorem k_H_merge_16 : decode (mtC m_H_merge) 16 = .ok (.aload_n 0, 1) := by decide +kernel
theorem k_H_merge_17 : decode (mtC m_H_merge) 17 = .ok (.getfield 11, 3) := by decide +kernel
theorem k_H_merge_20 : decode (mtC m_H_merge) 20 = .ok (.iload_n 2, 1) := by decide +kernel
theorem k_H_merge_21 : decode (mtC m_H_merge) 21 = .ok (.iload_n 3, 1) := by decide +kernel
theorem k_H_merge_22 : decode (mtC m_H_merge) 22 = .ok (.invokevirtual 73, 3) := by decide +kernel
theorem k_H_merge_25 : decode (mtC m_H_merge) 25 = .ok (.aload 4, 2) := by decide +kernel
theorem k_H_merge_27 : decode (mtC m_H_merge) 27 = .ok (.getfield 88, 3) := by decide +kernel
theorem k_H_merge_30 : decode (mtC m_H_merge) 30 = .ok (.getfield 92, 3) := by decide +kernel
theorem k_H_merge_33 : decode (mtC m_H_merge) 33 = .ok (.ireturn, 1) := by decide +kernel
set_option maxHeartbeats 4000000 in
set_option maxRecDepth 100000 in
theorem T_H_merge_0 {d : Nat} {x1 : Int} {x2 : Int} {x3 : Int} {M : AMem} {Q : Option AV → AMem → Prop}  (h : CallR d 2 m_H_findWell [vR 3 0, vI x1] M (fun r2 M1 => okH 2 r2 = true ∧ (CallV d m_H_requireWithin [vI x2, vI 1, vI 63] M1 (fun M4 => CallV d m_W_beginMerged [vR 2 r2, vR 7 0, vI x2, vI x3] M4 (fun M6 => Q (some (vI (M6 0 r2 1))) M6))))) : RunQ (d + 1) m_H_merge 0 [some (vR 3 0), some (vI x1), some (vI x2), some (vI x3), none] [] M Q := by
  refine q_aload_n 0 k_H_merge_0 rfl ?_
  refine q_iload_n 1 k_H_merge_1 rfl ?_
  refine q_vR 2 [vI x1] [] k_H_merge_2 lk_3_80 rfl rfl rfl rfl rfl rfl rfl rfl (CallR.mono (fun r2 M1 h8 => ?_) h)
  have ok3 := h8.1
  have h8' := h8.2
  refine q_astore 5 k_H_merge_5 (ls' := [some (vR 3 0), some (vI x1), some (vI x2), some (vI x3), some (vR 2 r2)]) rfl rfl ?_
  refine q_iload_n 7 k_H_merge_7 rfl ?_
  refine q_iconst 8 k_H_merge_8 ?_
  refine q_bipush 9 k_H_merge_9 (by decide) ?_
  refine q_sV 11 [vI x2, vI 1, vI 63] [] k_H_merge_11 rfl lk_3_42 rfl rfl rfl rfl rfl rfl (CallV.mono (fun M4 h9 => ?_) h8')
  refine q_aload 14 k_H_merge_14 rfl ?_
  refine q_aload_n 16 k_H_merge_16 rfl ?_
  refine q_getfield 17 k_H_merge_17 fk_3_11 rfl (v := vR 7 0) rfl ?_
  refine q_iload_n 20 k_H_merge_20 rfl ?_
  refine q_iload_n 21 k_H_merge_21 rfl ?_
  refine q_vV 22 [vR 7 0, vI x2, vI x3] [] k_H_merge_22 lk_3_73 rfl rfl rfl ok3 rfl rfl rfl rfl (CallV.mono (fun M6 h10 => ?_) h9)
  refine q_aload 25 k_H_merge_25 rfl ?_
  refine q_getfield 27 k_H_merge_27 fk_3_88 ok3 (v := vR 0 r2) rfl ?_
  refine q_getfield 30 k_H_merge_30 fk_3_92 ok3 (v := vI (M6 0 r2 1)) rfl ?_
  exact q_iret 33 k_H_merge_33 rfl h10
theorem k_H_table_0 : decode (mtC m_H_table) 0 = .ok (.aload_n 0, 1) := by decide +kernel
theorem k_H_table_1 : decode (mtC m_H_table) 1 = .ok (.iload_n 1, 1) := by decide +kernel
theorem k_H_table_2 : decode (mtC m_H_table) 2 = .ok (.invokevirtual 80, 3) := by decide +kernel
theorem k_H_table_5 : decode (mtC m_H_table) 5 = .ok (.astore 4, 2) := by decide +kernel
theorem k_H_table_7 : decode (mtC m_H_table) 7 = .ok (.aload 4, 2) := by decide +kernel
theorem k_H_table_9 : decode (mtC m_H_table) 9 = .ok (.iconst 4, 1) := by decide +kernel
theorem k_H_table_10 : decode (mtC m_H_table) 10 = .ok (.aload_n 0, 1) := by decide +kernel
theorem k_H_table_11 : decode (mtC m_H_table) 11 = .ok (.iload_n 2, 1) := by decide +kernel
theorem k_H_table_12 : decode (mtC m_H_table) 12 = .ok (.invokevirtual 38, 3) := by decide +kernel
theorem k_H_table_15 : decode (mtC m_H_table) 15 = .ok (.aload_n 0, 1) := by decide +kernel
theorem k_H_table_16 : decode (mtC m_H_table) 16 = .ok (.iload_n 3, 1) := by decide +kernel
theorem k_H_table_17 : decode (mtC m_H_table) 17 = .ok (.invokevirtual 38, 3) := by decide +kernel
theorem k_H_table_20 : decode (mtC m_H_table) 20 = .ok (.aload_n 0, 1) := by decide +kernel
theorem k_H_table_21 : decode (mtC m_H_table) 21 = .ok (.getfield 16, 3) := by decide +kernel
theorem k_H_table_24 : decode (mtC m_H_table) 24 = .ok (.invokevirtual 97, 3) := by decide +kernel
theorem k_H_table_27 : decode (mtC m_H_table) 27 = .ok (.aload 4, 2) := by decide +kernel
theorem k_H_table_29 : decode (mtC m_H_table) 29 = .ok (.getfield 88, 3) := by decide +kernel
theorem k_H_table_32 : decode (mtC m_H_table) 32 = .ok (.getfield 92, 3) := by decide +kernel
theorem k_H_table_35 : decode (mtC m_H_table) 35 = .ok (.ireturn, 1) := by decide +kernel
set_option maxHeartbeats 4000000 in
set_option maxRecDepth 100000 in
theorem T_H_table_0 {d : Nat} {x1 : Int} {x2 : Int} {x3 : Int} {M : AMem} {Q : Option AV → AMem → Prop}  (h : CallR d 2 m_H_findWell [vR 3 0, vI x1] M (fun r2 M1 => okH 2 r2 = true ∧ (CallR d 1 m_H_findRow [vR 3 0, vI x2] M1 (fun r5 M4 => okH 1 r5 = true ∧ (CallR d 1 m_H_findRow [vR 3 0, vI x3] M4 (fun r8 M7 => okH 1 r8 = true ∧ (CallV d m_W_beginGrid [vR 2 r2, vI 4, vR 1 r5, vR 1 r8, vR 1 48] M7 (fun M10 => Q (some (vI (M10 0 r2 1))) M10)))))))) : RunQ (d + 1) m_H_table 0 [some (vR 3 0), some (vI x1), some (vI x2), some (vI x3), none] [] M Q := by
  refine q_aload_n 0 k_H_table_0 rfl ?_
  refine q_iload_n 1 k_H_table_1 rfl ?_
  refine q_vR 2 [vI x1] [] k_H_table_2 lk_3_80 rfl rfl rfl rfl rfl rfl rfl rfl (CallR.mono (fun r2 M1 h12 => ?_) h)
  have ok3 := h12.1
  have h12' := h12.2
  refine q_astore 5 k_H_table_5 (ls' := [some (vR 3 0), some (vI x1), some (vI x2), some (vI x3), some (vR 2 r2)]) rfl rfl ?_
  refine q_aload 7 k_H_table_7 rfl ?_
  refine q_iconst 9 k_H_table_9 ?_
  refine q_aload_n 10 k_H_table_10 rfl ?_
  refine q_iload_n 11 k_H_table_11 rfl ?_
  refine q_vR 12 [vI x2] [vI 4, vR 2 r2] k_H_table_12 lk_3_38 rfl rfl rfl rfl rfl rfl rfl rfl (CallR.mono (fun r5 M4 h13 => ?_) h12')
  have ok6 := h13.1
  have h13' := h13.2
  refine q_aload_n 15 k_H_table_15 rfl ?_
  refine q_iload_n 16 k_H_table_16 rfl ?_
  refine q_vR 17 [vI x3] [vR 1 r5, vI 4, vR 2 r2] k_H_table_17 lk_3_38 rfl rfl rfl rfl rfl rfl rfl rfl (CallR.mono (fun r8 M7 h14 => ?_) h13')
  have ok9 := h14.1
  have h14' := h14.2
  refine q_aload_n 20 k_H_table_20 rfl ?_
  refine q_getfield 21 k_H_table_21 fk_3_16 rfl (v := vR 1 48) rfl ?_
  refine q_vV 24 [vI 4, vR 1 r5, vR 1 r8, vR 1 48] [] k_H_table_24 lk_3_97 rfl rfl rfl ok3 rfl rfl rfl rfl (CallV.mono (fun M10 h15 => ?_) h14')
  refine q_aload 27 k_H_table_27 rfl ?_
  refine q_getfield 29 k_H_table_29 fk_3_88 ok3 (v := vR 0 r2) rfl ?_
  refine q_getfield 32 k_H_table_32 fk_3_92 ok3 (v := vI (M10 0 r2 1)) rfl ?_
  exact q_iret 35 k_H_table_35 rfl h15
theorem k_H_primes_0 : decode (mtC m_H_primes) 0 = .ok (.aload_n 0, 1) := by decide +kernel
theorem k_H_primes_1 : decode (mtC m_H_primes) 1 = .ok (.iload_n 1, 1) := by decide +kernel
theorem k_H_primes_2 : decode (mtC m_H_primes) 2 = .ok (.invokevirtual 80, 3) := by decide +kernel
theorem k_H_primes_5 : decode (mtC m_H_primes) 5 = .ok (.astore_n 2, 1) := by decide +kernel
theorem k_H_primes_6 : decode (mtC m_H_primes) 6 = .ok (.aload_n 2, 1) := by decide +kernel
theorem k_H_primes_7 : decode (mtC m_H_primes) 7 = .ok (.iconst 5, 1) := by decide +kernel
theorem k_H_primes_8 : decode (mtC m_H_primes) 8 = .ok (.iconst 0, 1) := by decide +kernel
theorem k_H_primes_9 : decode (mtC m_H_primes) 9 = .ok (.iconst 0, 1) := by decide +kernel
theorem k_H_primes_10 : decode (mtC m_H_primes) 10 = .ok (.invokevirtual 84, 3) := by decide +kernel
theorem k_H_primes_13 : decode (mtC m_H_primes) 13 = .ok (.aload_n 2, 1) := by decide +kernel
theorem k_H_primes_14 : decode (mtC m_H_primes) 14 = .ok (.getfield 88, 3) := by decide +kernel
theorem k_H_primes_17 : decode (mtC m_H_primes) 17 = .ok (.getfield 92, 3) := by decide +kernel
theorem k_H_primes_20 : decode (mtC m_H_primes) 20 = .ok (.ireturn, 1) := by decide +kernel
set_option maxHeartbeats 4000000 in
set_option maxRecDepth 100000 in
theorem T_H_primes_0 {d : Nat} {x1 : Int} {M : AMem} {Q : Option AV → AMem → Prop}  (h : CallR d 2 m_H_findWell [vR 3 0, vI x1] M (fun r2 M1 => okH 2 r2 = true ∧ (CallV d m_W_begin [vR 2 r2, vI 5, vI 0, vI 0] M1 (fun M4 => Q (some (vI (M4 0 r2 1))) M4)))) : RunQ (d + 1) m_H_primes 0 [some (vR 3 0), some (vI x1), none] [] M Q := by
  refine q_aload_n 0 k_H_primes_0 rfl ?_
  refine q_iload_n 1 k_H_primes_1 rfl ?_
  refine q_vR 2 [vI x1] [] k_H_primes_2 lk_3_80 rfl rfl rfl rfl rfl rfl rfl rfl (CallR.mono (fun r2 M1 h6 => ?_) h)
  have ok3 := h6.1
  have h6' := h6.2
  refine q_astore_n 5 k_H_primes_5 (ls' := [some (vR 3 0), some (vI x1), some (vR 2 r2)]) rfl rfl ?_
  refine q_aload_n 6 k_H_primes_6 rfl ?_
  refine q_iconst 7 k_H_primes_7 ?_
  refine q_iconst 8 k_H_primes_8 ?_
  refine q_iconst 9 k_H_primes_9 ?_
  refine q_vV 10 [vI 5, vI 0, vI 0] [] k_H_primes_10 lk_3_84 rfl rfl rfl ok3 rfl rfl rfl rfl (CallV.mono (fun M4 h7 => ?_) h6')
  refine q_aload_n 13 k_H_primes_13 rfl ?_
  refine q_getfield 14 k_H_primes_14 fk_3_88 ok3 (v := vR 0 r2) rfl ?_
  refine q_getfield 17 k_H_primes_17 fk_3_92 ok3 (v := vI (M4 0 r2 1)) rfl ?_
  exact q_iret 20 k_H_primes_20 rfl h7
theorem k_H_draw_0 : decode (mtC m_H_draw) 0 = .ok (.aload_n 0, 1) := by decide +kernel
theorem k_H_draw_1 : decode (mtC m_H_draw) 1 = .ok (.iload_n 1, 1) := by decide +kernel
theorem k_H_draw_2 : decode (mtC m_H_draw) 2 = .ok (.invokevirtual 80, 3) := by decide +kernel
theorem k_H_draw_5 : decode (mtC m_H_draw) 5 = .ok (.astore_n 2, 1) := by decide +kernel
theorem k_H_draw_6 : decode (mtC m_H_draw) 6 = .ok (.aload_n 2, 1) := by decide +kernel
theorem k_H_draw_7 : decode (mtC m_H_draw) 7 = .ok (.invokevirtual 101, 3) := by decide +kernel
theorem k_H_draw_10 : decode (mtC m_H_draw) 10 = .ok (.ifCond .eq 6, 3) := by decide +kernel
theorem k_H_draw_13 : decode (mtC m_H_draw) 13 = .ok (.bipush (-9), 2) := by decide +kernel
theorem k_H_draw_15 : decode (mtC m_H_draw) 15 = .ok (.ireturn, 1) := by decide +kernel
theorem k_H_draw_16 : decode (mtC m_H_draw) 16 = .ok (.aload_n 2, 1) := by decide +kernel
theorem k_H_draw_17 : decode (mtC m_H_draw) 17 = .ok (.invokevirtual 105, 3) := by decide +kernel
theorem k_H_draw_20 : decode (mtC m_H_draw) 20 = .ok (.ireturn, 1) := by decide +kernel
set_option maxHeartbeats 4000000 in
set_option maxRecDepth 100000 in
theorem T_H_draw_0 {d : Nat} {x1 : Int} {M : AMem} {Q : Option AV → AMem → Prop}  (h : CallR d 2 m_H_findWell [vR 3 0, vI x1] M (fun r2 M1 => okH 2 r2 = true ∧ (CallI d m_W_isDry [vR 2 r2] M1 (fun y5 M4 => ((wI y5 = 0) → CallI d m_W_tell [vR 2 r2] M4 (fun y7 M6 => Q (some (vI y7)) M6)) ∧ (¬ (wI y5 = 0) → Q (some (vI (-9))) M4))))) : RunQ (d + 1) m_H_draw 0 [some (vR 3 0), some (vI x1), none] [] M Q := by
  refine q_aload_n 0 k_H_draw_0 rfl ?_
  refine q_iload_n 1 k_H_draw_1 rfl ?_
  refine q_vR 2 [vI x1] [] k_H_draw_2 lk_3_80 rfl rfl rfl rfl rfl rfl rfl rfl (CallR.mono (fun r2 M1 h8 => ?_) h)
  have ok3 := h8.1
  have h8' := h8.2
  refine q_astore_n 5 k_H_draw_5 (ls' := [some (vR 3 0), some (vI x1), some (vR 2 r2)]) rfl rfl ?_
  refine q_aload_n 6 k_H_draw_6 rfl ?_
  refine q_vI 7 [] [] k_H_draw_7 lk_3_101 rfl rfl rfl ok3 rfl rfl rfl rfl (CallI.mono (fun y5 M4 h9 => ?_) h8')
  refine q_if_eq 10 16 k_H_draw_10 rfl rfl (fun c10 => ?_) (fun c10 => ?_)
  · have h9t := h9.1 c10
    refine q_aload_n 16 k_H_draw_16 rfl ?_
    refine q_vI 17 [] [] k_H_draw_17 lk_3_105 rfl rfl rfl ok3 rfl rfl rfl rfl (CallI.mono (fun y7 M6 h10 => ?_) h9t)
    exact q_iret 20 k_H_draw_20 rfl h10
  · have h9f := h9.2 c10
    refine q_bipush 13 k_H_draw_13 (by decide) ?_
    exact q_iret 15 k_H_draw_15 rfl h9f
theorem k_H_draws_0 : decode (mtC m_H_draws) 0 = .ok (.aload_n 0, 1) := by decide +kernel
theorem k_H_draws_1 : decode (mtC m_H_draws) 1 = .ok (.iload_n 1, 1) := by decide +kernel
theorem k_H_draws_2 : decode (mtC m_H_draws) 2 = .ok (.invokevirtual 80, 3) := by decide +kernel
theorem k_H_draws_5 : decode (mtC m_H_draws) 5 = .ok (.astore_n 3, 1) := by decide +kernel
theorem k_H_draws_6 : decode (mtC m_H_draws) 6 = .ok (.iload_n 2, 1) := by decide +kernel
theorem k_H_draws_7 : decode (mtC m_H_draws) 7 = .ok (.iconst 1, 1) := by decide +kernel
theorem k_H_draws_8 : decode (mtC m_H_draws) 8 = .ok (.bipush 20, 2) := by decide +kernel
theorem k_H_draws_10 : decode (mtC m_H_draws) 10 = .ok (.invokestatic 42, 3) := by decide +kernel
theorem k_H_draws_13 : decode (mtC m_H_draws) 13 = .ok (.aload_n 3, 1) := by decide +kernel
theorem k_H_draws_14 : decode (mtC m_H_draws) 14 = .ok (.invokevirtual 108, 3) := by decide +kernel
theorem k_H_draws_17 : decode (mtC m_H_draws) 17 = .ok (.ifCond .eq 8, 3) := by decide +kernel
theorem k_H_draws_20 : decode (mtC m_H_draws) 20 = .ok (.bipush (-9), 2) := by decide +kernel
theorem k_H_draws_22 : decode (mtC m_H_draws) 22 = .ok (.goto 10, 3) := by decide +kernel
theorem k_H_draws_25 : decode (mtC m_H_draws) 25 = .ok (.aload_n 3, 1) := by decide +kernel
theorem k_H_draws_26 : decode (mtC m_H_draws) 26 = .ok (.ldc 111, 2) := by decide +kernel
theorem k_H_draws_28 : decode (mtC m_H_draws) 28 = .ok (.iload_n 2, 1) := by decide +kernel
theorem k_H_draws_29 : decode (mtC m_H_draws) 29 = .ok (.invokevirtual 112, 3) := by decide +kernel
theorem k_H_draws_32 : decode (mtC m_H_draws) 32 = .ok (.ireturn, 1) := by decide +kernel
set_option maxHeartbeats 4000000 in
set_option maxRecDepth 100000 in
theorem T_H_draws_0 {d : Nat} {x1 : Int} {x2 : Int} {M : AMem} {Q : Option AV → AMem → Prop}  (h : CallR d 2 m_H_findWell [vR 3 0, vI x1] M (fun r2 M1 => okH 2 r2 = true ∧ (CallV d m_H_requireWithin [vI x2, vI 1, vI 20] M1 (fun M4 => CallI d m_W_isEmpty [vR 2 r2] M4 (fun y7 M6 => ((wI y7 = 0) → CallI d m_W_tellBelow [vR 2 r2, vI 1000000, vI x2] M6 (fun y9 M8 => Q (some (vI y9)) M8)) ∧ (¬ (wI y7 = 0) → Q (some (vI (-9))) M6)))))) : RunQ (d + 1) m_H_draws 0 [some (vR 3 0), some (vI x1), some (vI x2), none] [] M Q := by
  refine q_aload_n 0 k_H_draws_0 rfl ?_
  refine q_iload_n 1 k_H_draws_1 rfl ?_
  refine q_vR 2 [vI x1] [] k_H_draws_2 lk_3_80 rfl rfl rfl rfl rfl rfl rfl rfl (CallR.mono (fun r2 M1 h10 => ?_) h)
  have ok3 := h10.1
  have h10' := h10.2
  refine q_astore_n 5 k_H_draws_5 (ls' := [some (vR 3 0), some (vI x1), some (vI x2), some (vR 2 r2)]) rfl rfl ?_
  refine q_iload_n 6 k_H_draws_6 rfl ?_
  refine q_iconst 7 k_H_draws_7 ?_
  refine q_bipush 8 k_H_draws_8 (by decide) ?_
  refine q_sV 10 [vI x2, vI 1, vI 20] [] k_H_draws_10 rfl lk_3_42 rfl rfl rfl rfl rfl rfl (CallV.mono (fun M4 h11 => ?_) h10')
  refine q_aload_n 13 k_H_draws_13 rfl ?_
  refine q_vI 14 [] [] k_H_draws_14 lk_3_108 rfl rfl rfl ok3 rfl rfl rfl rfl (CallI.mono (fun y7 M6 h12 => ?_) h11)
  refine q_if_eq 17 25 k_H_draws_17 rfl rfl (fun c17 => ?_) (fun c17 => ?_)
  · have h12t := h12.1 c17
    refine q_aload_n 25 k_H_draws_25 rfl ?_
    refine q_ldc 26 k_H_draws_26 ck_3_111 ?_
    refine q_iload_n 28 k_H_draws_28 rfl ?_
    refine q_vI 29 [vI 1000000, vI x2] [] k_H_draws_29 lk_3_112 rfl rfl rfl ok3 rfl rfl rfl rfl (CallI.mono (fun y9 M8 h13 => ?_) h12t)
    exact q_iret 32 k_H_draws_32 rfl h13
  · have h12f := h12.2 c17
    refine q_bipush 20 k_H_draws_20 (by decide) ?_
    refine q_goto 22 32 k_H_draws_22 rfl rfl ?_
    exact q_iret 32 k_H_draws_32 rfl h12f
theorem k_H_skip_0 : decode (mtC m_H_skip) 0 = .ok (.aload_n 0, 1) := by decide +kernel
theorem k_H_skip_1 : decode (mtC m_H_skip) 1 = .ok (.iload_n 1, 1) := by decide +kernel
theorem k_H_skip_2 : decode (mtC m_H_skip) 2 = .ok (.invokevirtual 80, 3) := by decide +kernel
theorem k_H_skip_5 : decode (mtC m_H_skip) 5 = .ok (.astore_n 3, 1) := by decide +kernel
theorem k_H_skip_6 : decode (mtC m_H_skip) 6 = .ok (.iload_n 2, 1) := by decide +kernel
theorem k_H_skip_7 : decode (mtC m_H_skip) 7 = .ok (.iconst 0, 1) := by decide +kernel
theorem k_H_skip_8 : decode (mtC m_H_skip) 8 = .ok (.ldc 111, 2) := by decide +kernel
theorem k_H_skip_10 : decode (mtC m_H_skip) 10 = .ok (.invokestatic 42, 3) := by decide +kernel
theorem k_H_skip_13 : decode (mtC m_H_skip) 13 = .ok (.aload_n 3, 1) := by decide +kernel
theorem k_H_skip_14 : decode (mtC m_H_skip) 14 = .ok (.invokevirtual 108, 3) := by decide +kernel
theorem k_H_skip_17 : decode (mtC m_H_skip) 17 = .ok (.ifCond .eq 8, 3) := by decide +kernel
theorem k_H_skip_20 : decode (mtC m_H_skip) 20 = .ok (.bipush (-9), 2) := by decide +kernel
theorem k_H_skip_22 : decode (mtC m_H_skip) 22 = .ok (.goto 10, 3) := by decide +kernel
theorem k_H_skip_25 : decode (mtC m_H_skip) 25 = .ok (.aload_n 3, 1) := by decide +kernel
theorem k_H_skip_26 : decode (mtC m_H_skip) 26 = .ok (.iload_n 2, 1) := by decide +kernel
theorem k_H_skip_27 : decode (mtC m_H_skip) 27 = .ok (.bipush 20, 2) := by decide +kernel
theorem k_H_skip_29 : decode (mtC m_H_skip) 29 = .ok (.invokevirtual 112, 3) := by decide +kernel
theorem k_H_skip_32 : decode (mtC m_H_skip) 32 = .ok (.ireturn, 1) := by decide +kernel
set_option maxHeartbeats 4000000 in
set_option maxRecDepth 100000 in
theorem T_H_skip_0 {d : Nat} {x1 : Int} {x2 : Int} {M : AMem} {Q : Option AV → AMem → Prop}  (h : CallR d 2 m_H_findWell [vR 3 0, vI x1] M (fun r2 M1 => okH 2 r2 = true ∧ (CallV d m_H_requireWithin [vI x2, vI 0, vI 1000000] M1 (fun M4 => CallI d m_W_isEmpty [vR 2 r2] M4 (fun y7 M6 => ((wI y7 = 0) → CallI d m_W_tellBelow [vR 2 r2, vI x2, vI 20] M6 (fun y9 M8 => Q (some (vI y9)) M8)) ∧ (¬ (wI y7 = 0) → Q (some (vI (-9))) M6)))))) : RunQ (d + 1) m_H_skip 0 [some (vR 3 0), some (vI x1), some (vI x2), none] [] M Q := by
  refine q_aload_n 0 k_H_skip_0 rfl ?_
  refine q_iload_n 1 k_H_skip_1 rfl ?_
  refine q_vR 2 [vI x1] [] k_H_skip_2 lk_3_80 rfl rfl rfl rfl rfl rfl rfl rfl (CallR.mono (fun r2 M1 h10 => ?_) h)
  have ok3 := h10.1
  have h10' := h10.2
  refine q_astore_n 5 k_H_skip_5 (ls' := [some (vR 3 0), some (vI x1), some (vI x2), some (vR 2 r2)]) rfl rfl ?_
  refine q_iload_n 6 k_H_skip_6 rfl ?_
  refine q_iconst 7 k_H_skip_7 ?_
  refine q_ldc 8 k_H_skip_8 ck_3_111 ?_
  refine q_sV 10 [vI x2, vI 0, vI 1000000] [] k_H_skip_10 rfl lk_3_42 rfl rfl rfl rfl rfl rfl (CallV.mono (fun M4 h11 => ?_) h10')
  refine q_aload_n 13 k_H_skip_13 rfl ?_
  refine q_vI 14 [] [] k_H_skip_14 lk_3_108 rfl rfl rfl ok3 rfl rfl rfl rfl (CallI.mono (fun y7 M6 h12 => ?_) h11)
  refine q_if_eq 17 25 k_H_skip_17 rfl rfl (fun c17 => ?_) (fun c17 => ?_)
  · have h12t := h12.1 c17
    refine q_aload_n 25 k_H_skip_25 rfl ?_
    refine q_iload_n 26 k_H_skip_26 rfl ?_
    refine q_bipush 27 k_H_skip_27 (by decide) ?_
    refine q_vI 29 [vI x2, vI 20] [] k_H_skip_29 lk_3_112 rfl rfl rfl ok3 rfl rfl rfl rfl (CallI.mono (fun y9 M8 h13 => ?_) h12t)
    exact q_iret 32 k_H_skip_32 rfl h13
  · have h12f := h12.2 c17
    refine q_bipush 20 k_H_skip_20 (by decide) ?_
    refine q_goto 22 32 k_H_skip_22 rfl rfl ?_
    exact q_iret 32 k_H_skip_32 rfl h12f
theorem k_H_copy_0 : decode (mtC m_H_copy) 0 = .ok (.aload_n 0, 1) := by decide +kernel
theorem k_H_copy_1 : decode (mtC m_H_copy) 1 = .ok (.iload_n 1, 1) := by decide +kernel
theorem k_H_copy_2 : decode (mtC m_H_copy) 2 = .ok (.invokevirtual 80, 3) := by decide +kernel
theorem k_H_copy_5 : decode (mtC m_H_copy) 5 = .ok (.astore_n 3, 1) := by decide +kernel
theorem k_H_copy_6 : decode (mtC m_H_copy) 6 = .ok (.aload_n 0, 1) := by decide +kernel
theorem k_H_copy_7 : decode (mtC m_H_copy) 7 = .ok (.iload_n 2, 1) := by decide +kernel
theorem k_H_copy_8 : decode (mtC m_H_copy) 8 = .ok (.invokevirtual 80, 3) := by decide +kernel
theorem k_H_copy_11 : decode (mtC m_H_copy) 11 = .ok (.astore 4, 2) := by decide +kernel
theorem k_H_copy_13 : decode (mtC m_H_copy) 13 = .ok (.aload 4, 2) := by decide +kernel
theorem k_H_copy_15 : decode (mtC m_H_copy) 15 = .ok (.aload_n 3, 1) := by decide +kernel
theorem k_H_copy_16 : decode (mtC m_H_copy) 16 = .ok (.invokevirtual 116, 3) := by decide +kernel
theorem k_H_copy_19 : decode (mtC m_H_copy) 19 = .ok (.aload 4, 2) := by decide +kernel
theorem k_H_copy_21 : decode (mtC m_H_copy) 21 = .ok (.getfield 88, 3) := by decide +kernel
theorem k_H_copy_24 : decode (mtC m_H_copy) 24 = .ok (.getfield 92, 3) := by decide +kernel
theorem k_H_copy_27 : decode (mtC m_H_copy) 27 = .ok (.ireturn, 1) := by decide +kernel
set_option maxHeartbeats 4000000 in
set_option maxRecDepth 100000 in
theorem T_H_copy_0 {d : Nat} {x1 : Int} {x2 : Int} {M : AMem} {Q : Option AV → AMem → Prop}  (h : CallR d 2 m_H_findWell [vR 3 0, vI x1] M (fun r2 M1 => okH 2 r2 = true ∧ (CallR d 2 m_H_findWell [vR 3 0, vI x2] M1 (fun r5 M4 => okH 2 r5 = true ∧ (CallV d m_W_become [vR 2 r5, vR 2 r2] M4 (fun M7 => Q (some (vI (M7 0 r5 1))) M7)))))) : RunQ (d + 1) m_H_copy 0 [some (vR 3 0), some (vI x1), some (vI x2), none, none] [] M Q := by
  refine q_aload_n 0 k_H_copy_0 rfl ?_
  refine q_iload_n 1 k_H_copy_1 rfl ?_
  refine q_vR 2 [vI x1] [] k_H_copy_2 lk_3_80 rfl rfl rfl rfl rfl rfl rfl rfl (CallR.mono (fun r2 M1 h9 => ?_) h)
  have ok3 := h9.1
  have h9' := h9.2
  refine q_astore_n 5 k_H_copy_5 (ls' := [some (vR 3 0), some (vI x1), some (vI x2), some (vR 2 r2), none]) rfl rfl ?_
  refine q_aload_n 6 k_H_copy_6 rfl ?_
  refine q_iload_n 7 k_H_copy_7 rfl ?_
  refine q_vR 8 [vI x2] [] k_H_copy_8 lk_3_80 rfl rfl rfl rfl rfl rfl rfl rfl (CallR.mono (fun r5 M4 h10 => ?_) h9')
  have ok6 := h10.1
  have h10' := h10.2
  refine q_astore 11 k_H_copy_11 (ls' := [some (vR 3 0), some (vI x1), some (vI x2), some (vR 2 r2), some (vR 2 r5)]) rfl rfl ?_
  refine q_aload 13 k_H_copy_13 rfl ?_
  refine q_aload_n 15 k_H_copy_15 rfl ?_
  refine q_vV 16 [vR 2 r2] [] k_H_copy_16 lk_3_116 rfl rfl rfl ok6 rfl rfl rfl rfl (CallV.mono (fun M7 h11 => ?_) h10')
  refine q_aload 19 k_H_copy_19 rfl ?_
  refine q_getfield 21 k_H_copy_21 fk_3_88 ok6 (v := vR 0 r5) rfl ?_
  refine q_getfield 24 k_H_copy_24 fk_3_92 ok6 (v := vI (M7 0 r5 1)) rfl ?_
  exact q_iret 27 k_H_copy_27 rfl h11
theorem k_H_shake_0 : decode (mtC m_H_shake) 0 = .ok (.aload_n 0, 1) := by decide +kernel
theorem k_H_shake_1 : decode (mtC m_H_shake) 1 = .ok (.iload_n 1, 1) := by decide +kernel
theorem k_H_shake_2 : decode (mtC m_H_shake) 2 = .ok (.invokevirtual 80, 3) := by decide +kernel
theorem k_H_shake_5 : decode (mtC m_H_shake) 5 = .ok (.astore_n 2, 1) := by decide +kernel
theorem k_H_shake_6 : decode (mtC m_H_shake) 6 = .ok (.aload_n 2, 1) := by decide +kernel
theorem k_H_shake_7 : decode (mtC m_H_shake) 7 = .ok (.invokevirtual 108, 3) := by decide +kernel
theorem k_H_shake_10 : decode (mtC m_H_shake) 10 = .ok (.ifCond .eq 6, 3) := by decide +kernel
theorem k_H_shake_13 : decode (mtC m_H_shake) 13 = .ok (.bipush (-9), 2) := by decide +kernel
theorem k_H_shake_15 : decode (mtC m_H_shake) 15 = .ok (.ireturn, 1) := by decide +kernel
theorem k_H_shake_16 : decode (mtC m_H_shake) 16 = .ok (.aload_n 2, 1) := by decide +kernel
theorem k_H_shake_17 : decode (mtC m_H_shake) 17 = .ok (.getfield 88, 3) := by decide +kernel
theorem k_H_shake_20 : decode (mtC m_H_shake) 20 = .ok (.invokevirtual 120, 3) := by decide +kernel
theorem k_H_shake_23 : decode (mtC m_H_shake) 23 = .ok (.aload_n 2, 1) := by decide +kernel
theorem k_H_shake_24 : decode (mtC m_H_shake) 24 = .ok (.getfield 88, 3) := by decide +kernel
theorem k_H_shake_27 : decode (mtC m_H_shake) 27 = .ok (.getfield 92, 3) := by decide +kernel
theorem k_H_shake_30 : decode (mtC m_H_shake) 30 = .ok (.ireturn, 1) := by decide +kernel
set_option maxHeartbeats 4000000 in
set_option maxRecDepth 100000 in
theorem T_H_shake_0 {d : Nat} {x1 : Int} {M : AMem} {Q : Option AV → AMem → Prop}  (h : CallR d 2 m_H_findWell [vR 3 0, vI x1] M (fun r2 M1 => okH 2 r2 = true ∧ (CallI d m_W_isEmpty [vR 2 r2] M1 (fun y5 M4 => ((wI y5 = 0) → CallV d m_Q_turnOver [vR 0 r2] M4 (fun M6 => Q (some (vI (M6 0 r2 1))) M6)) ∧ (¬ (wI y5 = 0) → Q (some (vI (-9))) M4))))) : RunQ (d + 1) m_H_shake 0 [some (vR 3 0), some (vI x1), none] [] M Q := by
  refine q_aload_n 0 k_H_shake_0 rfl ?_
  refine q_iload_n 1 k_H_shake_1 rfl ?_
  refine q_vR 2 [vI x1] [] k_H_shake_2 lk_3_80 rfl rfl rfl rfl rfl rfl rfl rfl (CallR.mono (fun r2 M1 h8 => ?_) h)
  have ok3 := h8.1
  have h8' := h8.2
  refine q_astore_n 5 k_H_shake_5 (ls' := [some (vR 3 0), some (vI x1), some (vR 2 r2)]) rfl rfl ?_
  refine q_aload_n 6 k_H_shake_6 rfl ?_
  refine q_vI 7 [] [] k_H_shake_7 lk_3_108 rfl rfl rfl ok3 rfl rfl rfl rfl (CallI.mono (fun y5 M4 h9 => ?_) h8')
  refine q_if_eq 10 16 k_H_shake_10 rfl rfl (fun c10 => ?_) (fun c10 => ?_)
  · have h9t := h9.1 c10
    refine q_aload_n 16 k_H_shake_16 rfl ?_
    refine q_getfield 17 k_H_shake_17 fk_3_88 ok3 (v := vR 0 r2) rfl ?_
    refine q_vV 20 [] [] k_H_shake_20 lk_3_120 rfl rfl rfl ok3 rfl rfl rfl rfl (CallV.mono (fun M6 h10 => ?_) h9t)
    refine q_aload_n 23 k_H_shake_23 rfl ?_
    refine q_getfield 24 k_H_shake_24 fk_3_88 ok3 (v := vR 0 r2) rfl ?_
    refine q_getfield 27 k_H_shake_27 fk_3_92 ok3 (v := vI (M6 0 r2 1)) rfl ?_
    exact q_iret 30 k_H_shake_30 rfl h10
  · have h9f := h9.2 c10
    refine q_bipush 13 k_H_shake_13 (by decide) ?_
    exact q_iret 15 k_H_shake_15 rfl h9f
theorem k_H_anew_0 : decode (mtC m_H_anew) 0 = .ok (.aload_n 0, 1) := by decide +kernel
theorem k_H_anew_1 : decode (mtC m_H_anew) 1 = .ok (.iload_n 1, 1) := by decide +kernel
theorem k_H_anew_2 : decode (mtC m_H_anew) 2 = .ok (.invokevirtual 80, 3) := by decide +kernel
theorem k_H_anew_5 : decode (mtC m_H_anew) 5 = .ok (.astore_n 2, 1) := by decide +kernel
theorem k_H_anew_6 : decode (mtC m_H_anew) 6 = .ok (.aload_n 2, 1) := by decide +kernel
theorem k_H_anew_7 : decode (mtC m_H_anew) 7 = .ok (.invokevirtual 108, 3) := by decide +kernel
theorem k_H_anew_10 : decode (mtC m_H_anew) 10 = .ok (.ifCond .eq 6, 3) := by decide +kernel
theorem k_H_anew_13 : decode (mtC m_H_anew) 13 = .ok (.bipush (-9), 2) := by decide +kernel
theorem k_H_anew_15 : decode (mtC m_H_anew) 15 = .ok (.ireturn, 1) := by decide +kernel
theorem k_H_anew_16 : decode (mtC m_H_anew) 16 = .ok (.aload_n 2, 1) := by decide +kernel
theorem k_H_anew_17 : decode (mtC m_H_anew) 17 = .ok (.invokevirtual 123, 3) := by decide +kernel
theorem k_H_anew_20 : decode (mtC m_H_anew) 20 = .ok (.aload_n 2, 1) := by decide +kernel
theorem k_H_anew_21 : decode (mtC m_H_anew) 21 = .ok (.getfield 88, 3) := by decide +kernel
theorem k_H_anew_24 : decode (mtC m_H_anew) 24 = .ok (.getfield 92, 3) := by decide +kernel
theorem k_H_anew_27 : decode (mtC m_H_anew) 27 = .ok (.ireturn, 1) := by decide +kernel
set_option maxHeartbeats 4000000 in
set_option maxRecDepth 100000 in
theorem T_H_anew_0 {d : Nat} {x1 : Int} {M : AMem} {Q : Option AV → AMem → Prop}  (h : CallR d 2 m_H_findWell [vR 3 0, vI x1] M (fun r2 M1 => okH 2 r2 = true ∧ (CallI d m_W_isEmpty [vR 2 r2] M1 (fun y5 M4 => ((wI y5 = 0) → CallV d m_W_restart [vR 2 r2] M4 (fun M6 => Q (some (vI (M6 0 r2 1))) M6)) ∧ (¬ (wI y5 = 0) → Q (some (vI (-9))) M4))))) : RunQ (d + 1) m_H_anew 0 [some (vR 3 0), some (vI x1), none] [] M Q := by
  refine q_aload_n 0 k_H_anew_0 rfl ?_
  refine q_iload_n 1 k_H_anew_1 rfl ?_
  refine q_vR 2 [vI x1] [] k_H_anew_2 lk_3_80 rfl rfl rfl rfl rfl rfl rfl rfl (CallR.mono (fun r2 M1 h8 => ?_) h)
  have ok3 := h8.1
  have h8' := h8.2
  refine q_astore_n 5 k_H_anew_5 (ls' := [some (vR 3 0), some (vI x1), some (vR 2 r2)]) rfl rfl ?_
  refine q_aload_n 6 k_H_anew_6 rfl ?_
  refine q_vI 7 [] [] k_H_anew_7 lk_3_108 rfl rfl rfl ok3 rfl rfl rfl rfl (CallI.mono (fun y5 M4 h9 => ?_) h8')
  refine q_if_eq 10 16 k_H_anew_10 rfl rfl (fun c10 => ?_) (fun c10 => ?_)
  · have h9t := h9.1 c10
    refine q_aload_n 16 k_H_anew_16 rfl ?_
    refine q_vV 17 [] [] k_H_anew_17 lk_3_123 rfl rfl rfl ok3 rfl rfl rfl rfl (CallV.mono (fun M6 h10 => ?_) h9t)
    refine q_aload_n 20 k_H_anew_20 rfl ?_
    refine q_getfield 21 k_H_anew_21 fk_3_88 ok3 (v := vR 0 r2) rfl ?_
    refine q_getfield 24 k_H_anew_24 fk_3_92 ok3 (v := vI (M6 0 r2 1)) rfl ?_
    exact q_iret 27 k_H_anew_27 rfl h10
  · have h9f := h9.2 c10
    refine q_bipush 13 k_H_anew_13 (by decide) ?_
    exact q_iret 15 k_H_anew_15 rfl h9f
theorem k_H_again_0 : decode (mtC m_H_again) 0 = .ok (.aload_n 0, 1) := by decide +kernel
theorem k_H_again_1 : decode (mtC m_H_again) 1 = .ok (.iload_n 1, 1) := by decide +kernel
theorem k_H_again_2 : decode (mtC m_H_again) 2 = .ok (.invokevirtual 80, 3) := by decide +kernel
theorem k_H_again_5 : decode (mtC m_H_again) 5 = .ok (.astore_n 2, 1) := by decide +kernel
theorem k_H_again_6 : decode (mtC m_H_again) 6 = .ok (.aload_n 2, 1) := by decide +kernel
theorem k_H_again_7 : decode (mtC m_H_again) 7 = .ok (.invokevirtual 108, 3) := by decide +kernel
theorem k_H_again_10 : decode (mtC m_H_again) 10 = .ok (.ifCond .ne 10, 3) := by decide +kernel
theorem k_H_again_13 : decode (mtC m_H_again) 13 = .ok (.aload_n 2, 1) := by decide +kernel
theorem k_H_again_14 : decode (mtC m_H_again) 14 = .ok (.getfield 126, 3) := by decide +kernel
theorem k_H_again_17 : decode (mtC m_H_again) 17 = .ok (.ifCond .eq 6, 3) := by decide +kernel
theorem k_H_again_20 : decode (mtC m_H_again) 20 = .ok (.bipush (-9), 2) := by decide +kernel
theorem k_H_again_22 : decode (mtC m_H_again) 22 = .ok (.ireturn, 1) := by decide +kernel
theorem k_H_again_23 : decode (mtC m_H_again) 23 = .ok (.aload_n 2, 1) := by decide +kernel
theorem k_H_again_24 : decode (mtC m_H_again) 24 = .ok (.getfield 129, 3) := by decide +kernel
theorem k_H_again_27 : decode (mtC m_H_again) 27 = .ok (.istore_n 3, 1) := by decide +kernel
theorem k_H_again_28 : decode (mtC m_H_again) 28 = .ok (.aload_n 2, 1) := by decide +kernel
theorem k_H_again_29 : decode (mtC m_H_again) 29 = .ok (.invokevirtual 123, 3) := by decide +kernel
theorem k_H_again_32 : decode (mtC m_H_again) 32 = .ok (.aload_n 2, 1) := by decide +kernel
theorem k_H_again_33 : decode (mtC m_H_again) 33 = .ok (.ldc 111, 2) := by decide +kernel
theorem k_H_again_35 : decode (mtC m_H_again) 35 = .ok (.iload_n 3, 1) := by decide +kernel
theorem k_H_again_36 : decode (mtC m_H_again) 36 = .ok (.invokevirtual 112, 3) := by decide +kernel
theorem k_H_again_39 : decode (mtC m_H_again) 39 = .ok (.pop, 1) := by decide +kernel
theorem k_H_again_40 : decode (mtC m_H_again) 40 = .ok (.aload_n 2, 1) := by decide +kernel
theorem k_H_again_41 : decode (mtC m_H_again) 41 = .ok (.invokevirtual 132, 3) := by decide +kernel
theorem k_H_again_44 : decode (mtC m_H_again) 44 = .ok (.ireturn, 1) := by decide +kernel
set_option maxHeartbeats 4000000 in
set_option maxRecDepth 100000 in
theorem T_H_again_0 {d : Nat} {x1 : Int} {M : AMem} {Q : Option AV → AMem → Prop}  (h : CallR d 2 m_H_findWell [vR 3 0, vI x1] M (fun r2 M1 => okH 2 r2 = true ∧ (CallI d m_W_isEmpty [vR 2 r2] M1 (fun y5 M4 => ((¬ wI y5 = 0) → Q (some (vI (-9))) M4) ∧ (¬ (¬ wI y5 = 0) → ((wI (M4 2 r2 5) = 0) → CallV d m_W_restart [vR 2 r2] M4 (fun M6 => CallI d m_W_tellBelow [vR 2 r2, vI 1000000, vI (M4 2 r2 6)] M6 (fun y9 M8 => CallI d m_W_lastNumber [vR 2 r2] M8 (fun y11 M10 => Q (some (vI y11)) M10)))) ∧ (¬ (wI (M4 2 r2 5) = 0) → Q (some (vI (-9))) M4)))))) : RunQ (d + 1) m_H_again 0 [some (vR 3 0), some (vI x1), none, none] [] M Q := by
  refine q_aload_n 0 k_H_again_0 rfl ?_
  refine q_iload_n 1 k_H_again_1 rfl ?_
  refine q_vR 2 [vI x1] [] k_H_again_2 lk_3_80 rfl rfl rfl rfl rfl rfl rfl rfl (CallR.mono (fun r2 M1 h12 => ?_) h)
  have ok3 := h12.1
  have h12' := h12.2
  refine q_astore_n 5 k_H_again_5 (ls' := [some (vR 3 0), some (vI x1), some (vR 2 r2), none]) rfl rfl ?_
  refine q_aload_n 6 k_H_again_6 rfl ?_
  refine q_vI 7 [] [] k_H_again_7 lk_3_108 rfl rfl rfl ok3 rfl rfl rfl rfl (CallI.mono (fun y5 M4 h13 => ?_) h12')
  refine q_if_ne 10 20 k_H_again_10 rfl rfl (fun c10 => ?_) (fun c10 => ?_)
  · have h13t := h13.1 c10
    refine q_bipush 20 k_H_again_20 (by decide) ?_
    exact q_iret 22 k_H_again_22 rfl h13t
  · have h13f := h13.2 c10
    refine q_aload_n 13 k_H_again_13 rfl ?_
    refine q_getfield 14 k_H_again_14 fk_3_126 ok3 (v := vI (M4 2 r2 5)) rfl ?_
    refine q_if_eq 17 23 k_H_again_17 rfl rfl (fun c17 => ?_) (fun c17 => ?_)
    · have h13ft := h13f.1 c17
      refine q_aload_n 23 k_H_again_23 rfl ?_
      refine q_getfield 24 k_H_again_24 fk_3_129 ok3 (v := vI (M4 2 r2 6)) rfl ?_
      refine q_istore_n 27 k_H_again_27 (ls' := [some (vR 3 0), some (vI x1), some (vR 2 r2), some (vI (M4 2 r2 6))]) rfl rfl ?_
      refine q_aload_n 28 k_H_again_28 rfl ?_
      refine q_vV 29 [] [] k_H_again_29 lk_3_123 rfl rfl rfl ok3 rfl rfl rfl rfl (CallV.mono (fun M6 h14 => ?_) h13ft)
      refine q_aload_n 32 k_H_again_32 rfl ?_
      refine q_ldc 33 k_H_again_33 ck_3_111 ?_
      refine q_iload_n 35 k_H_again_35 rfl ?_
      refine q_vI 36 [vI 1000000, vI (M4 2 r2 6)] [] k_H_again_36 lk_3_112 rfl rfl rfl ok3 rfl rfl rfl rfl (CallI.mono (fun y9 M8 h15 => ?_) h14)
      refine q_pop 39 k_H_again_39 rfl ?_
      refine q_aload_n 40 k_H_again_40 rfl ?_
      refine q_vI 41 [] [] k_H_again_41 lk_3_132 rfl rfl rfl ok3 rfl rfl rfl rfl (CallI.mono (fun y11 M10 h16 => ?_) h15)
      exact q_iret 44 k_H_again_44 rfl h16
    · have h13ff := h13f.2 c17
      refine q_bipush 20 k_H_again_20 (by decide) ?_
      exact q_iret 22 k_H_again_22 rfl h13ff
theorem k_H_close_0 : decode (mtC m_H_close) 0 = .ok (.aload_n 0, 1) := by decide +kernel
theorem k_H_close_1 : decode (mtC m_H_close) 1 = .ok (.iload_n 1, 1) := by decide +kernel
theorem k_H_close_2 : decode (mtC m_H_close) 2 = .ok (.invokevirtual 80, 3) := by decide +kernel
theorem k_H_close_5 : decode (mtC m_H_close) 5 = .ok (.astore_n 3, 1) := by decide +kernel
theorem k_H_close_6 : decode (mtC m_H_close) 6 = .ok (.iload_n 2, 1) := by decide +kernel
theorem k_H_close_7 : decode (mtC m_H_close) 7 = .ok (.bipush 6, 2) := by decide +kernel
theorem k_H_close_9 : decode (mtC m_H_close) 9 = .ok (.invokestatic 54, 3) := by decide +kernel
theorem k_H_close_12 : decode (mtC m_H_close) 12 = .ok (.aload_n 3, 1) := by decide +kernel
theorem k_H_close_13 : decode (mtC m_H_close) 13 = .ok (.iload_n 2, 1) := by decide +kernel
theorem k_H_close_14 : decode (mtC m_H_close) 14 = .ok (.invokevirtual 135, 3) := by decide +kernel
theorem k_H_close_17 : decode (mtC m_H_close) 17 = .ok (.ireturn, 1) := by decide +kernel
set_option maxHeartbeats 4000000 in
set_option maxRecDepth 100000 in
theorem T_H_close_0 {d : Nat} {x1 : Int} {x2 : Int} {M : AMem} {Q : Option AV → AMem → Prop}  (h : CallR d 2 m_H_findWell [vR 3 0, vI x1] M (fun r2 M1 => okH 2 r2 = true ∧ (CallV d m_H_requirePlace [vI x2, vI 6] M1 (fun M4 => CallI d m_W_closeRow [vR 2 r2, vI x2] M4 (fun y7 M6 => Q (some (vI y7)) M6))))) : RunQ (d + 1) m_H_close 0 [some (vR 3 0), some (vI x1), some (vI x2), none] [] M Q := by
  refine q_aload_n 0 k_H_close_0 rfl ?_
  refine q_iload_n 1 k_H_close_1 rfl ?_
  refine q_vR 2 [vI x1] [] k_H_close_2 lk_3_80 rfl rfl rfl rfl rfl rfl rfl rfl (CallR.mono (fun r2 M1 h8 => ?_) h)
  have ok3 := h8.1
  have h8' := h8.2
  refine q_astore_n 5 k_H_close_5 (ls' := [some (vR 3 0), some (vI x1), some (vI x2), some (vR 2 r2)]) rfl rfl ?_
  refine q_iload_n 6 k_H_close_6 rfl ?_
  refine q_bipush 7 k_H_close_7 (by decide) ?_
  refine q_sV 9 [vI x2, vI 6] [] k_H_close_9 rfl lk_3_54 rfl rfl rfl rfl rfl rfl (CallV.mono (fun M4 h9 => ?_) h8')
  refine q_aload_n 12 k_H_close_12 rfl ?_
  refine q_iload_n 13 k_H_close_13 rfl ?_
  refine q_vI 14 [vI x2] [] k_H_close_14 lk_3_135 rfl rfl rfl ok3 rfl rfl rfl rfl (CallI.mono (fun y7 M6 h10 => ?_) h9)
  exact q_iret 17 k_H_close_17 rfl h10
theorem k_H_drop_0 : decode (mtC m_H_drop) 0 = .ok (.aload_n 0, 1) := by decide +kernel
theorem k_H_drop_1 : decode (mtC m_H_drop) 1 = .ok (.iload_n 1, 1) := by decide +kernel
theorem k_H_drop_2 : decode (mtC m_H_drop) 2 = .ok (.invokevirtual 80, 3) := by decide +kernel
theorem k_H_drop_5 : decode (mtC m_H_drop) 5 = .ok (.astore_n 2, 1) := by decide +kernel
theorem k_H_drop_6 : decode (mtC m_H_drop) 6 = .ok (.aload_n 2, 1) := by decide +kernel
theorem k_H_drop_7 : decode (mtC m_H_drop) 7 = .ok (.getfield 129, 3) := by decide +kernel
theorem k_H_drop_10 : decode (mtC m_H_drop) 10 = .ok (.istore_n 3, 1) := by decide +kernel
theorem k_H_drop_11 : decode (mtC m_H_drop) 11 = .ok (.aload_n 2, 1) := by decide +kernel
theorem k_H_drop_12 : decode (mtC m_H_drop) 12 = .ok (.iconst (-1), 1) := by decide +kernel
theorem k_H_drop_13 : decode (mtC m_H_drop) 13 = .ok (.iconst 0, 1) := by decide +kernel
theorem k_H_drop_14 : decode (mtC m_H_drop) 14 = .ok (.iconst 0, 1) := by decide +kernel
theorem k_H_drop_15 : decode (mtC m_H_drop) 15 = .ok (.invokevirtual 84, 3) := by decide +kernel
theorem k_H_drop_18 : decode (mtC m_H_drop) 18 = .ok (.iload_n 3, 1) := by decide +kernel
theorem k_H_drop_19 : decode (mtC m_H_drop) 19 = .ok (.ireturn, 1) := by decide +kernel
set_option maxHeartbeats 4000000 in
set_option maxRecDepth 100000 in
theorem T_H_drop_0 {d : Nat} {x1 : Int} {M : AMem} {Q : Option AV → AMem → Prop}  (h : CallR d 2 m_H_findWell [vR 3 0, vI x1] M (fun r2 M1 => okH 2 r2 = true ∧ (CallV d m_W_begin [vR 2 r2, vI (-1), vI 0, vI 0] M1 (fun M4 => Q (some (vI (M1 2 r2 6))) M4)))) : RunQ (d + 1) m_H_drop 0 [some (vR 3 0), some (vI x1), none, none] [] M Q := by
  refine q_aload_n 0 k_H_drop_0 rfl ?_
  refine q_iload_n 1 k_H_drop_1 rfl ?_
  refine q_vR 2 [vI x1] [] k_H_drop_2 lk_3_80 rfl rfl rfl rfl rfl rfl rfl rfl (CallR.mono (fun r2 M1 h6 => ?_) h)
  have ok3 := h6.1
  have h6' := h6.2
  refine q_astore_n 5 k_H_drop_5 (ls' := [some (vR 3 0), some (vI x1), some (vR 2 r2), none]) rfl rfl ?_
  refine q_aload_n 6 k_H_drop_6 rfl ?_
  refine q_getfield 7 k_H_drop_7 fk_3_129 ok3 (v := vI (M1 2 r2 6)) rfl ?_
  refine q_istore_n 10 k_H_drop_10 (ls' := [some (vR 3 0), some (vI x1), some (vR 2 r2), some (vI (M1 2 r2 6))]) rfl rfl ?_
  refine q_aload_n 11 k_H_drop_11 rfl ?_
  refine q_iconst 12 k_H_drop_12 ?_
  refine q_iconst 13 k_H_drop_13 ?_
  refine q_iconst 14 k_H_drop_14 ?_
  refine q_vV 15 [vI (-1), vI 0, vI 0] [] k_H_drop_15 lk_3_84 rfl rfl rfl ok3 rfl rfl rfl rfl (CallV.mono (fun M4 h7 => ?_) h6')
  refine q_iload_n 18 k_H_drop_18 rfl ?_
  exact q_iret 19 k_H_drop_19 rfl h7
theorem k_H_peek_0 : decode (mtC m_H_peek) 0 = .ok (.aload_n 0, 1) := by decide +kernel
theorem k_H_peek_1 : decode (mtC m_H_peek) 1 = .ok (.iload_n 1, 1) := by decide +kernel
theorem k_H_peek_2 : decode (mtC m_H_peek) 2 = .ok (.invokevirtual 80, 3) := by decide +kernel
theorem k_H_peek_5 : decode (mtC m_H_peek) 5 = .ok (.astore_n 2, 1) := by decide +kernel
theorem k_H_peek_6 : decode (mtC m_H_peek) 6 = .ok (.aload_n 2, 1) := by decide +kernel
theorem k_H_peek_7 : decode (mtC m_H_peek) 7 = .ok (.invokevirtual 101, 3) := by decide +kernel
theorem k_H_peek_10 : decode (mtC m_H_peek) 10 = .ok (.ifCond .eq 8, 3) := by decide +kernel
theorem k_H_peek_13 : decode (mtC m_H_peek) 13 = .ok (.bipush (-9), 2) := by decide +kernel
theorem k_H_peek_15 : decode (mtC m_H_peek) 15 = .ok (.goto 7, 3) := by decide +kernel
theorem k_H_peek_18 : decode (mtC m_H_peek) 18 = .ok (.aload_n 2, 1) := by decide +kernel
theorem k_H_peek_19 : decode (mtC m_H_peek) 19 = .ok (.invokevirtual 141, 3) := by decide +kernel
theorem k_H_peek_22 : decode (mtC m_H_peek) 22 = .ok (.ireturn, 1) := by decide +kernel
set_option maxHeartbeats 4000000 in
set_option maxRecDepth 100000 in
theorem T_H_peek_0 {d : Nat} {x1 : Int} {M : AMem} {Q : Option AV → AMem → Prop}  (h : CallR d 2 m_H_findWell [vR 3 0, vI x1] M (fun r2 M1 => okH 2 r2 = true ∧ (CallI d m_W_isDry [vR 2 r2] M1 (fun y5 M4 => ((wI y5 = 0) → CallI d m_W_nextNumber [vR 2 r2] M4 (fun y7 M6 => Q (some (vI y7)) M6)) ∧ (¬ (wI y5 = 0) → Q (some (vI (-9))) M4))))) : RunQ (d + 1) m_H_peek 0 [some (vR 3 0), some (vI x1), none] [] M Q := by
  refine q_aload_n 0 k_H_peek_0 rfl ?_
  refine q_iload_n 1 k_H_peek_1 rfl ?_
  refine q_vR 2 [vI x1] [] k_H_peek_2 lk_3_80 rfl rfl rfl rfl rfl rfl rfl rfl (CallR.mono (fun r2 M1 h8 => ?_) h)
  have ok3 := h8.1
  have h8' := h8.2
  refine q_astore_n 5 k_H_peek_5 (ls' := [some (vR 3 0), some (vI x1), some (vR 2 r2)]) rfl rfl ?_
  refine q_aload_n 6 k_H_peek_6 rfl ?_
  refine q_vI 7 [] [] k_H_peek_7 lk_3_101 rfl rfl rfl ok3 rfl rfl rfl rfl (CallI.mono (fun y5 M4 h9 => ?_) h8')
  refine q_if_eq 10 18 k_H_peek_10 rfl rfl (fun c10 => ?_) (fun c10 => ?_)
  · have h9t := h9.1 c10
    refine q_aload_n 18 k_H_peek_18 rfl ?_
    refine q_vI 19 [] [] k_H_peek_19 lk_3_141 rfl rfl rfl ok3 rfl rfl rfl rfl (CallI.mono (fun y7 M6 h10 => ?_) h9t)
    exact q_iret 22 k_H_peek_22 rfl h10
  · have h9f := h9.2 c10
    refine q_bipush 13 k_H_peek_13 (by decide) ?_
    refine q_goto 15 22 k_H_peek_15 rfl rfl ?_
    exact q_iret 22 k_H_peek_22 rfl h9f
theorem k_H_ofWell_0 : decode (mtC m_H_ofWell) 0 = .ok (.aload_n 0, 1) := by decide +kernel
theorem k_H_ofWell_1 : decode (mtC m_H_ofWell) 1 = .ok (.iload_n 1, 1) := by decide +kernel
theorem k_H_ofWell_2 : decode (mtC m_H_ofWell) 2 = .ok (.invokevirtual 80, 3) := by decide +kernel
theorem k_H_ofWell_5 : decode (mtC m_H_ofWell) 5 = .ok (.astore_n 3, 1) := by decide +kernel
theorem k_H_ofWell_6 : decode (mtC m_H_ofWell) 6 = .ok (.iload_n 2, 1) := by decide +kernel
theorem k_H_ofWell_7 : decode (mtC m_H_ofWell) 7 = .ok (.iconst 0, 1) := by decide +kernel
theorem k_H_ofWell_8 : decode (mtC m_H_ofWell) 8 = .ok (.bipush 9, 2) := by decide +kernel
theorem k_H_ofWell_10 : decode (mtC m_H_ofWell) 10 = .ok (.invokestatic 42, 3) := by decide +kernel
theorem k_H_ofWell_13 : decode (mtC m_H_ofWell) 13 = .ok (.iload_n 2, 1) := by decide +kernel
theorem k_H_ofWell_14 : decode (mtC m_H_ofWell) 14 = .ok (.tableswitch 116 0 8 #[50, 55, 60, 68, 73, 79, 85, 91, 111], 50) := by decide +kernel
theorem k_H_ofWell_64 : decode (mtC m_H_ofWell) 64 = .ok (.aload_n 3, 1) := by decide +kernel
theorem k_H_ofWell_65 : decode (mtC m_H_ofWell) 65 = .ok (.getfield 144, 3) := by decide +kernel
theorem k_H_ofWell_68 : decode (mtC m_H_ofWell) 68 = .ok (.ireturn, 1) := by decide +kernel
theorem k_H_ofWell_69 : decode (mtC m_H_ofWell) 69 = .ok (.aload_n 3, 1) := by decide +kernel
theorem k_H_ofWell_70 : decode (mtC m_H_ofWell) 70 = .ok (.getfield 129, 3) := by decide +kernel
theorem k_H_ofWell_73 : decode (mtC m_H_ofWell) 73 = .ok (.ireturn, 1) := by decide +kernel
theorem k_H_ofWell_74 : decode (mtC m_H_ofWell) 74 = .ok (.aload_n 3, 1) := by decide +kernel
theorem k_H_ofWell_75 : decode (mtC m_H_ofWell) 75 = .ok (.getfield 88, 3) := by decide +kernel
theorem k_H_ofWell_78 : decode (mtC m_H_ofWell) 78 = .ok (.getfield 92, 3) := by decide +kernel
theorem k_H_ofWell_81 : decode (mtC m_H_ofWell) 81 = .ok (.ireturn, 1) := by decide +kernel
theorem k_H_ofWell_82 : decode (mtC m_H_ofWell) 82 = .ok (.aload_n 3, 1) := by decide +kernel
theorem k_H_ofWell_83 : decode (mtC m_H_ofWell) 83 = .ok (.invokevirtual 132, 3) := by decide +kernel
theorem k_H_ofWell_86 : decode (mtC m_H_ofWell) 86 = .ok (.ireturn, 1) := by decide +kernel
theorem k_H_ofWell_87 : decode (mtC m_H_ofWell) 87 = .ok (.aload_n 3, 1) := by decide +kernel
theorem k_H_ofWell_88 : decode (mtC m_H_ofWell) 88 = .ok (.iconst 1, 1) := by decide +kernel
theorem k_H_ofWell_89 : decode (mtC m_H_ofWell) 89 = .ok (.invokevirtual 147, 3) := by decide +kernel
theorem k_H_ofWell_92 : decode (mtC m_H_ofWell) 92 = .ok (.ireturn, 1) := by decide +kernel
theorem k_H_ofWell_93 : decode (mtC m_H_ofWell) 93 = .ok (.aload_n 3, 1) := by decide +kernel
theorem k_H_ofWell_94 : decode (mtC m_H_ofWell) 94 = .ok (.iconst 2, 1) := by decide +kernel
theorem k_H_ofWell_95 : decode (mtC m_H_ofWell) 95 = .ok (.invokevirtual 147, 3) := by decide +kernel
theorem k_H_ofWell_98 : decode (mtC m_H_ofWell) 98 = .ok (.ireturn, 1) := by decide +kernel
theorem k_H_ofWell_99 : decode (mtC m_H_ofWell) 99 = .ok (.aload_n 3, 1) := by decide +kernel
theorem k_H_ofWell_100 : decode (mtC m_H_ofWell) 100 = .ok (.iconst 3, 1) := by decide +kernel
theorem k_H_ofWell_101 : decode (mtC m_H_ofWell) 101 = .ok (.invokevirtual 147, 3) := by decide +kernel
theorem k_H_ofWell_104 : decode (mtC m_H_ofWell) 104 = .ok (.ireturn, 1) := by decide +kernel
theorem k_H_ofWell_105 : decode (mtC m_H_ofWell) 105 = .ok (.aload_n 3, 1) := by decide +kernel
theorem k_H_ofWell_106 : decode (mtC m_H_ofWell) 106 = .ok (.invokevirtual 108, 3) := by decide +kernel
theorem k_H_ofWell_109 : decode (mtC m_H_ofWell) 109 = .ok (.ifCond .ne 14, 3) := by decide +kernel
theorem k_H_ofWell_112 : decode (mtC m_H_ofWell) 112 = .ok (.aload_n 3, 1) := by decide +kernel
theorem k_H_ofWell_113 : decode (mtC m_H_ofWell) 113 = .ok (.invokevirtual 101, 3) := by decide +kernel
theorem k_H_ofWell_116 : decode (mtC m_H_ofWell) 116 = .ok (.ifCond .eq 7, 3) := by decide +kernel
theorem k_H_ofWell_119 : decode (mtC m_H_ofWell) 119 = .ok (.iconst 1, 1) := by decide +kernel
theorem k_H_ofWell_120 : decode (mtC m_H_ofWell) 120 = .ok (.goto 4, 3) := by decide +kernel
theorem k_H_ofWell_123 : decode (mtC m_H_ofWell) 123 = .ok (.iconst 0, 1) := by decide +kernel
theorem k_H_ofWell_124 : decode (mtC m_H_ofWell) 124 = .ok (.ireturn, 1) := by decide +kernel
theorem k_H_ofWell_125 : decode (mtC m_H_ofWell) 125 = .ok (.aload_n 3, 1) := by decide +kernel
theorem k_H_ofWell_126 : decode (mtC m_H_ofWell) 126 = .ok (.invokevirtual 150, 3) := by decide +kernel
theorem k_H_ofWell_129 : decode (mtC m_H_ofWell) 129 = .ok (.ireturn, 1) := by decide +kernel
theorem k_H_ofWell_130 : decode (mtC m_H_ofWell) 130 = .ok (.aload_n 3, 1) := by decide +kernel
theorem k_H_ofWell_131 : decode (mtC m_H_ofWell) 131 = .ok (.getfield 126, 3) := by decide +kernel
theorem k_H_ofWell_134 : decode (mtC m_H_ofWell) 134 = .ok (.ireturn, 1) := by decide +kernel
set_option maxHeartbeats 4000000 in
set_option maxRecDepth 100000 in
theorem T_H_ofWell_0 {d : Nat} {x1 : Int} {x2 : Int} {M : AMem} {Q : Option AV → AMem → Prop}  (h : CallR d 2 m_H_findWell [vR 3 0, vI x1] M (fun r2 M1 => okH 2 r2 = true ∧ (CallV d m_H_requireWithin [vI x2, vI 0, vI 9] M1 (fun M4 => (wI x2 = 0 → Q (some (vI (M4 2 r2 2))) M4) ∧ (wI x2 = 1 → Q (some (vI (M4 2 r2 6))) M4) ∧ (wI x2 = 2 → Q (some (vI (M4 0 r2 1))) M4) ∧ (wI x2 = 3 → CallI d m_W_lastNumber [vR 2 r2] M4 (fun y7 M6 => Q (some (vI y7)) M6)) ∧ (wI x2 = 4 → CallI d m_W_lastPlace [vR 2 r2, vI 1] M4 (fun y9 M8 => Q (some (vI y9)) M8)) ∧ (wI x2 = 5 → CallI d m_W_lastPlace [vR 2 r2, vI 2] M4 (fun y11 M10 => Q (some (vI y11)) M10)) ∧ (wI x2 = 6 → CallI d m_W_lastPlace [vR 2 r2, vI 3] M4 (fun y13 M12 => Q (some (vI y13)) M12)) ∧ (wI x2 = 7 → CallI d m_W_isEmpty [vR 2 r2] M4 (fun y15 M14 => ((¬ wI y15 = 0) → Q (some (vI 0)) M14) ∧ (¬ (¬ wI y15 = 0) → CallI d m_W_isDry [vR 2 r2] M14 (fun y17 M16 => ((wI y17 = 0) → Q (some (vI 0)) M16) ∧ (¬ (wI y17 = 0) → Q (some (vI 1)) M16))))) ∧ (wI x2 = 8 → CallI d m_W_limit [vR 2 r2] M4 (fun y19 M18 => Q (some (vI y19)) M18)) ∧ ((wI x2 < 0 ∨ 8 < wI x2) → Q (some (vI (M4 2 r2 5))) M4))))) : RunQ (d + 1) m_H_ofWell 0 [some (vR 3 0), some (vI x1), some (vI x2), none] [] M Q := by
  refine q_aload_n 0 k_H_ofWell_0 rfl ?_
  refine q_iload_n 1 k_H_ofWell_1 rfl ?_
  refine q_vR 2 [vI x1] [] k_H_ofWell_2 lk_3_80 rfl rfl rfl rfl rfl rfl rfl rfl (CallR.mono (fun r2 M1 h20 => ?_) h)
  have ok3 := h20.1
  have h20' := h20.2
  refine q_astore_n 5 k_H_ofWell_5 (ls' := [some (vR 3 0), some (vI x1), some (vI x2), some (vR 2 r2)]) rfl rfl ?_
  refine q_iload_n 6 k_H_ofWell_6 rfl ?_
  refine q_iconst 7 k_H_ofWell_7 ?_
  refine q_bipush 8 k_H_ofWell_8 (by decide) ?_
  refine q_sV 10 [vI x2, vI 0, vI 9] [] k_H_ofWell_10 rfl lk_3_42 rfl rfl rfl rfl rfl rfl (CallV.mono (fun M4 h21 => ?_) h20')
  refine q_iload_n 13 k_H_ofWell_13 rfl ?_
  refine q_tsw 14 k_H_ofWell_14 rfl (fun c => ?_) (fun c1 c2 => ?_)
  · show RunQ _ _ 130 _ _ _ _
    have h21d := h21.2.2.2.2.2.2.2.2.2 c
    refine q_aload_n 130 k_H_ofWell_130 rfl ?_
    refine q_getfield 131 k_H_ofWell_131 fk_3_126 ok3 (v := vI (M4 2 r2 5)) rfl ?_
    exact q_iret 134 k_H_ofWell_134 rfl h21d
  · have cq : wI x2 = 0 ∨ wI x2 = 1 ∨ wI x2 = 2 ∨ wI x2 = 3 ∨ wI x2 = 4 ∨ wI x2 = 5 ∨ wI x2 = 6 ∨ wI x2 = 7 ∨ wI x2 = 8 := by omega
    rcases cq with cq | cq | cq | cq | cq | cq | cq | cq | cq
    · refine ⟨50, by rw [cq]; rfl, rfl, ?_⟩
      show RunQ _ _ 64 _ _ _ _
      have h210 := h21.1 cq
      refine q_aload_n 64 k_H_ofWell_64 rfl ?_
      refine q_getfield 65 k_H_ofWell_65 fk_3_144 ok3 (v := vI (M4 2 r2 2)) rfl ?_
      exact q_iret 68 k_H_ofWell_68 rfl h210
    · refine ⟨55, by rw [cq]; rfl, rfl, ?_⟩
      show RunQ _ _ 69 _ _ _ _
      have h211 := h21.2.1 cq
      refine q_aload_n 69 k_H_ofWell_69 rfl ?_
      refine q_getfield 70 k_H_ofWell_70 fk_3_129 ok3 (v := vI (M4 2 r2 6)) rfl ?_
      exact q_iret 73 k_H_ofWell_73 rfl h211
    · refine ⟨60, by rw [cq]; rfl, rfl, ?_⟩
      show RunQ _ _ 74 _ _ _ _
      have h212 := h21.2.2.1 cq
      refine q_aload_n 74 k_H_ofWell_74 rfl ?_
      refine q_getfield 75 k_H_ofWell_75 fk_3_88 ok3 (v := vR 0 r2) rfl ?_
      refine q_getfield 78 k_H_ofWell_78 fk_3_92 ok3 (v := vI (M4 0 r2 1)) rfl ?_
      exact q_iret 81 k_H_ofWell_81 rfl h212
    · refine ⟨68, by rw [cq]; rfl, rfl, ?_⟩
      show RunQ _ _ 82 _ _ _ _
      have h213 := h21.2.2.2.1 cq
      refine q_aload_n 82 k_H_ofWell_82 rfl ?_
      refine q_vI 83 [] [] k_H_ofWell_83 lk_3_132 rfl rfl rfl ok3 rfl rfl rfl rfl (CallI.mono (fun y7 M6 h22 => ?_) h213)
      exact q_iret 86 k_H_ofWell_86 rfl h22
    · refine ⟨73, by rw [cq]; rfl, rfl, ?_⟩
      show RunQ _ _ 87 _ _ _ _
      have h214 := h21.2.2.2.2.1 cq
      refine q_aload_n 87 k_H_ofWell_87 rfl ?_
      refine q_iconst 88 k_H_ofWell_88 ?_
      refine q_vI 89 [vI 1] [] k_H_ofWell_89 lk_3_147 rfl rfl rfl ok3 rfl rfl rfl rfl (CallI.mono (fun y9 M8 h23 => ?_) h214)
      exact q_iret 92 k_H_ofWell_92 rfl h23
    · refine ⟨79, by rw [cq]; rfl, rfl, ?_⟩
      show RunQ _ _ 93 _ _ _ _
      have h215 := h21.2.2.2.2.2.1 cq
      refine q_aload_n 93 k_H_ofWell_93 rfl ?_
      refine q_iconst 94 k_H_ofWell_94 ?_
      refine q_vI 95 [vI 2] [] k_H_ofWell_95 lk_3_147 rfl rfl rfl ok3 rfl rfl rfl rfl (CallI.mono (fun y11 M10 h24 => ?_) h215)
      exact q_iret 98 k_H_ofWell_98 rfl h24
    · refine ⟨85, by rw [cq]; rfl, rfl, ?_⟩
      show RunQ _ _ 99 _ _ _ _
      have h216 := h21.2.2.2.2.2.2.1 cq
      refine q_aload_n 99 k_H_ofWell_99 rfl ?_
      refine q_iconst 100 k_H_ofWell_100 ?_
      refine q_vI 101 [vI 3] [] k_H_ofWell_101 lk_3_147 rfl rfl rfl ok3 rfl rfl rfl rfl (CallI.mono (fun y13 M12 h25 => ?_) h216)
      exact q_iret 104 k_H_ofWell_104 rfl h25
    · refine ⟨91, by rw [cq]; rfl, rfl, ?_⟩
      show RunQ _ _ 105 _ _ _ _
      have h217 := h21.2.2.2.2.2.2.2.1 cq
      refine q_aload_n 105 k_H_ofWell_105 rfl ?_
      refine q_vI 106 [] [] k_H_ofWell_106 lk_3_108 rfl rfl rfl ok3 rfl rfl rfl rfl (CallI.mono (fun y15 M14 h26 => ?_) h217)
      refine q_if_ne 109 123 k_H_ofWell_109 rfl rfl (fun c109 => ?_) (fun c109 => ?_)
      · have h26t := h26.1 c109
        refine q_iconst 123 k_H_ofWell_123 ?_
        exact q_iret 124 k_H_ofWell_124 rfl h26t
      · have h26f := h26.2 c109
        refine q_aload_n 112 k_H_ofWell_112 rfl ?_
        refine q_vI 113 [] [] k_H_ofWell_113 lk_3_101 rfl rfl rfl ok3 rfl rfl rfl rfl (CallI.mono (fun y17 M16 h27 => ?_) h26f)
        refine q_if_eq 116 123 k_H_ofWell_116 rfl rfl (fun c116 => ?_) (fun c116 => ?_)
        · have h27t := h27.1 c116
          refine q_iconst 123 k_H_ofWell_123 ?_
          exact q_iret 124 k_H_ofWell_124 rfl h27t
        · have h27f := h27.2 c116
          refine q_iconst 119 k_H_ofWell_119 ?_
          refine q_goto 120 124 k_H_ofWell_120 rfl rfl ?_
          exact q_iret 124 k_H_ofWell_124 rfl h27f
    · refine ⟨111, by rw [cq]; rfl, rfl, ?_⟩
      show RunQ _ _ 125 _ _ _ _
      have h218 := h21.2.2.2.2.2.2.2.2.1 cq
      refine q_aload_n 125 k_H_ofWell_125 rfl ?_
      refine q_vI 126 [] [] k_H_ofWell_126 lk_3_150 rfl rfl rfl ok3 rfl rfl rfl rfl (CallI.mono (fun y19 M18 h28 => ?_) h218)
      exact q_iret 129 k_H_ofWell_129 rfl h28
theorem k_H_nth_0 : decode (mtC m_H_nth) 0 = .ok (.aload_n 0, 1) := by decide +kernel
theorem k_H_nth_1 : decode (mtC m_H_nth) 1 = .ok (.iload_n 1, 1) := by decide +kernel
theorem k_H_nth_2 : decode (mtC m_H_nth) 2 = .ok (.invokevirtual 80, 3) := by decide +kernel
theorem k_H_nth_5 : decode (mtC m_H_nth) 5 = .ok (.astore_n 3, 1) := by decide +kernel
theorem k_H_nth_6 : decode (mtC m_H_nth) 6 = .ok (.iload_n 2, 1) := by decide +kernel
theorem k_H_nth_7 : decode (mtC m_H_nth) 7 = .ok (.iconst 0, 1) := by decide +kernel
theorem k_H_nth_8 : decode (mtC m_H_nth) 8 = .ok (.bipush 99, 2) := by decide +kernel
theorem k_H_nth_10 : decode (mtC m_H_nth) 10 = .ok (.invokestatic 42, 3) := by decide +kernel
theorem k_H_nth_13 : decode (mtC m_H_nth) 13 = .ok (.aload_n 3, 1) := by decide +kernel
theorem k_H_nth_14 : decode (mtC m_H_nth) 14 = .ok (.invokevirtual 108, 3) := by decide +kernel
theorem k_H_nth_17 : decode (mtC m_H_nth) 17 = .ok (.ifCond .eq 6, 3) := by decide +kernel
theorem k_H_nth_20 : decode (mtC m_H_nth) 20 = .ok (.bipush (-9), 2) := by decide +kernel
theorem k_H_nth_22 : decode (mtC m_H_nth) 22 = .ok (.ireturn, 1) := by decide +kernel
theorem k_H_nth_23 : decode (mtC m_H_nth) 23 = .ok (.aload_n 0, 1) := by decide +kernel
theorem k_H_nth_24 : decode (mtC m_H_nth) 24 = .ok (.getfield 27, 3) := by decide +kernel
theorem k_H_nth_27 : decode (mtC m_H_nth) 27 = .ok (.aload_n 3, 1) := by decide +kernel
theorem k_H_nth_28 : decode (mtC m_H_nth) 28 = .ok (.invokevirtual 116, 3) := by decide +kernel
theorem k_H_nth_31 : decode (mtC m_H_nth) 31 = .ok (.aload_n 0, 1) := by decide +kernel
theorem k_H_nth_32 : decode (mtC m_H_nth) 32 = .ok (.getfield 27, 3) := by decide +kernel
theorem k_H_nth_35 : decode (mtC m_H_nth) 35 = .ok (.invokevirtual 123, 3) := by decide +kernel
theorem k_H_nth_38 : decode (mtC m_H_nth) 38 = .ok (.aload_n 0, 1) := by decide +kernel
theorem k_H_nth_39 : decode (mtC m_H_nth) 39 = .ok (.getfield 27, 3) := by decide +kernel
theorem k_H_nth_42 : decode (mtC m_H_nth) 42 = .ok (.iload_n 2, 1) := by decide +kernel
theorem k_H_nth_43 : decode (mtC m_H_nth) 43 = .ok (.invokevirtual 77, 3) := by decide +kernel
theorem k_H_nth_46 : decode (mtC m_H_nth) 46 = .ok (.ireturn, 1) := by decide +kernel
set_option maxHeartbeats 4000000 in
set_option maxRecDepth 100000 in
theorem T_H_nth_0 {d : Nat} {x1 : Int} {x2 : Int} {M : AMem} {Q : Option AV → AMem → Prop}  (h : CallR d 2 m_H_findWell [vR 3 0, vI x1] M (fun r2 M1 => okH 2 r2 = true ∧ (CallV d m_H_requireWithin [vI x2, vI 0, vI 99] M1 (fun M4 => CallI d m_W_isEmpty [vR 2 r2] M4 (fun y7 M6 => ((wI y7 = 0) → CallV d m_W_become [vR 2 5, vR 2 r2] M6 (fun M8 => CallV d m_W_restart [vR 2 5] M8 (fun M10 => CallI d m_W_numberBehind [vR 2 5, vI x2] M10 (fun y13 M12 => Q (some (vI y13)) M12)))) ∧ (¬ (wI y7 = 0) → Q (some (vI (-9))) M6)))))) : RunQ (d + 1) m_H_nth 0 [some (vR 3 0), some (vI x1), some (vI x2), none] [] M Q := by
  refine q_aload_n 0 k_H_nth_0 rfl ?_
  refine q_iload_n 1 k_H_nth_1 rfl ?_
  refine q_vR 2 [vI x1] [] k_H_nth_2 lk_3_80 rfl rfl rfl rfl rfl rfl rfl rfl (CallR.mono (fun r2 M1 h14 => ?_) h)
  have ok3 := h14.1
  have h14' := h14.2
  refine q_astore_n 5 k_H_nth_5 (ls' := [some (vR 3 0), some (vI x1), some (vI x2), some (vR 2 r2)]) rfl rfl ?_
  refine q_iload_n 6 k_H_nth_6 rfl ?_
  refine q_iconst 7 k_H_nth_7 ?_
  refine q_bipush 8 k_H_nth_8 (by decide) ?_
  refine q_sV 10 [vI x2, vI 0, vI 99] [] k_H_nth_10 rfl lk_3_42 rfl rfl rfl rfl rfl rfl (CallV.mono (fun M4 h15 => ?_) h14')
  refine q_aload_n 13 k_H_nth_13 rfl ?_
  refine q_vI 14 [] [] k_H_nth_14 lk_3_108 rfl rfl rfl ok3 rfl rfl rfl rfl (CallI.mono (fun y7 M6 h16 => ?_) h15)
  refine q_if_eq 17 23 k_H_nth_17 rfl rfl (fun c17 => ?_) (fun c17 => ?_)
  · have h16t := h16.1 c17
    refine q_aload_n 23 k_H_nth_23 rfl ?_
    refine q_getfield 24 k_H_nth_24 fk_3_27 rfl (v := vR 2 5) rfl ?_
    refine q_aload_n 27 k_H_nth_27 rfl ?_
    refine q_vV 28 [vR 2 r2] [] k_H_nth_28 lk_3_116 rfl rfl rfl rfl rfl rfl rfl rfl (CallV.mono (fun M8 h17 => ?_) h16t)
    refine q_aload_n 31 k_H_nth_31 rfl ?_
    refine q_getfield 32 k_H_nth_32 fk_3_27 rfl (v := vR 2 5) rfl ?_
    refine q_vV 35 [] [] k_H_nth_35 lk_3_123 rfl rfl rfl rfl rfl rfl rfl rfl (CallV.mono (fun M10 h18 => ?_) h17)
    refine q_aload_n 38 k_H_nth_38 rfl ?_
    refine q_getfield 39 k_H_nth_39 fk_3_27 rfl (v := vR 2 5) rfl ?_
    refine q_iload_n 42 k_H_nth_42 rfl ?_
    refine q_vI 43 [vI x2] [] k_H_nth_43 lk_3_77 rfl rfl rfl rfl rfl rfl rfl rfl (CallI.mono (fun y13 M12 h19 => ?_) h18)
    exact q_iret 46 k_H_nth_46 rfl h19
  · have h16f := h16.2 c17
    refine q_bipush 20 k_H_nth_20 (by decide) ?_
    exact q_iret 22 k_H_nth_22 rfl h16f
theorem k_H_upTo_0 : decode (mtC m_H_upTo) 0 = .ok (.aload_n 0, 1) := by decide +kernel
theorem k_H_upTo_1 : decode (mtC m_H_upTo) 1 = .ok (.iload_n 1, 1) := by decide +kernel
theorem k_H_upTo_2 : decode (mtC m_H_upTo) 2 = .ok (.invokevirtual 80, 3) := by decide +kernel
theorem k_H_upTo_5 : decode (mtC m_H_upTo) 5 = .ok (.astore_n 3, 1) := by decide +kernel
theorem k_H_upTo_6 : decode (mtC m_H_upTo) 6 = .ok (.iload_n 2, 1) := by decide +kernel
theorem k_H_upTo_7 : decode (mtC m_H_upTo) 7 = .ok (.iconst 0, 1) := by decide +kernel
theorem k_H_upTo_8 : decode (mtC m_H_upTo) 8 = .ok (.ldc 111, 2) := by decide +kernel
theorem k_H_upTo_10 : decode (mtC m_H_upTo) 10 = .ok (.invokestatic 42, 3) := by decide +kernel
theorem k_H_upTo_13 : decode (mtC m_H_upTo) 13 = .ok (.aload_n 3, 1) := by decide +kernel
theorem k_H_upTo_14 : decode (mtC m_H_upTo) 14 = .ok (.iload_n 2, 1) := by decide +kernel
theorem k_H_upTo_15 : decode (mtC m_H_upTo) 15 = .ok (.invokevirtual 153, 3) := by decide +kernel
theorem k_H_upTo_18 : decode (mtC m_H_upTo) 18 = .ok (.ifCond .eq 11, 3) := by decide +kernel
theorem k_H_upTo_21 : decode (mtC m_H_upTo) 21 = .ok (.aload_n 3, 1) := by decide +kernel
theorem k_H_upTo_22 : decode (mtC m_H_upTo) 22 = .ok (.iload_n 2, 1) := by decide +kernel
theorem k_H_upTo_23 : decode (mtC m_H_upTo) 23 = .ok (.invokevirtual 156, 3) := by decide +kernel
theorem k_H_upTo_26 : decode (mtC m_H_upTo) 26 = .ok (.goto 5, 3) := by decide +kernel
theorem k_H_upTo_29 : decode (mtC m_H_upTo) 29 = .ok (.bipush (-9), 2) := by decide +kernel
theorem k_H_upTo_31 : decode (mtC m_H_upTo) 31 = .ok (.ireturn, 1) := by decide +kernel
set_option maxHeartbeats 4000000 in
set_option maxRecDepth 100000 in
theorem T_H_upTo_0 {d : Nat} {x1 : Int} {x2 : Int} {M : AMem} {Q : Option AV → AMem → Prop}  (h : CallR d 2 m_H_findWell [vR 3 0, vI x1] M (fun r2 M1 => okH 2 r2 = true ∧ (CallV d m_H_requireWithin [vI x2, vI 0, vI 1000000] M1 (fun M4 => CallI d m_W_canCountTo [vR 2 r2, vI x2] M4 (fun y7 M6 => ((wI y7 = 0) → Q (some (vI (-9))) M6) ∧ (¬ (wI y7 = 0) → CallI d m_W_countUpTo [vR 2 r2, vI x2] M6 (fun y9 M8 => Q (some (vI y9)) M8))))))) : RunQ (d + 1) m_H_upTo 0 [some (vR 3 0), some (vI x1), some (vI x2), none] [] M Q := by
  refine q_aload_n 0 k_H_upTo_0 rfl ?_
  refine q_iload_n 1 k_H_upTo_1 rfl ?_
  refine q_vR 2 [vI x1] [] k_H_upTo_2 lk_3_80 rfl rfl rfl rfl rfl rfl rfl rfl (CallR.mono (fun r2 M1 h10 => ?_) h)
  have ok3 := h10.1
  have h10' := h10.2
  refine q_astore_n 5 k_H_upTo_5 (ls' := [some (vR 3 0), some (vI x1), some (vI x2), some (vR 2 r2)]) rfl rfl ?_
  refine q_iload_n 6 k_H_upTo_6 rfl ?_
  refine q_iconst 7 k_H_upTo_7 ?_
  refine q_ldc 8 k_H_upTo_8 ck_3_111 ?_
  refine q_sV 10 [vI x2, vI 0, vI 1000000] [] k_H_upTo_10 rfl lk_3_42 rfl rfl rfl rfl rfl rfl (CallV.mono (fun M4 h11 => ?_) h10')
  refine q_aload_n 13 k_H_upTo_13 rfl ?_
  refine q_iload_n 14 k_H_upTo_14 rfl ?_
  refine q_vI 15 [vI x2] [] k_H_upTo_15 lk_3_153 rfl rfl rfl ok3 rfl rfl rfl rfl (CallI.mono (fun y7 M6 h12 => ?_) h11)
  refine q_if_eq 18 29 k_H_upTo_18 rfl rfl (fun c18 => ?_) (fun c18 => ?_)
  · have h12t := h12.1 c18
    refine q_bipush 29 k_H_upTo_29 (by decide) ?_
    exact q_iret 31 k_H_upTo_31 rfl h12t
  · have h12f := h12.2 c18
    refine q_aload_n 21 k_H_upTo_21 rfl ?_
    refine q_iload_n 22 k_H_upTo_22 rfl ?_
    refine q_vI 23 [vI x2] [] k_H_upTo_23 lk_3_156 rfl rfl rfl ok3 rfl rfl rfl rfl (CallI.mono (fun y9 M8 h13 => ?_) h12f)
    refine q_goto 26 31 k_H_upTo_26 rfl rfl ?_
    exact q_iret 31 k_H_upTo_31 rfl h13
theorem k_H_ways_0 : decode (mtC m_H_ways) 0 = .ok (.aload_n 0, 1) := by decide +kernel
theorem k_H_ways_1 : decode (mtC m_H_ways) 1 = .ok (.iload_n 1, 1) := by decide +kernel
theorem k_H_ways_2 : decode (mtC m_H_ways) 2 = .ok (.invokevirtual 80, 3) := by decide +kernel
theorem k_H_ways_5 : decode (mtC m_H_ways) 5 = .ok (.astore_n 3, 1) := by decide +kernel
theorem k_H_ways_6 : decode (mtC m_H_ways) 6 = .ok (.iload_n 2, 1) := by decide +kernel
theorem k_H_ways_7 : decode (mtC m_H_ways) 7 = .ok (.iconst 0, 1) := by decide +kernel
theorem k_H_ways_8 : decode (mtC m_H_ways) 8 = .ok (.ldc 111, 2) := by decide +kernel
theorem k_H_ways_10 : decode (mtC m_H_ways) 10 = .ok (.invokestatic 42, 3) := by decide +kernel
theorem k_H_ways_13 : decode (mtC m_H_ways) 13 = .ok (.aload_n 3, 1) := by decide +kernel
theorem k_H_ways_14 : decode (mtC m_H_ways) 14 = .ok (.iload_n 2, 1) := by decide +kernel
theorem k_H_ways_15 : decode (mtC m_H_ways) 15 = .ok (.invokevirtual 153, 3) := by decide +kernel
theorem k_H_ways_18 : decode (mtC m_H_ways) 18 = .ok (.ifCond .ne 6, 3) := by decide +kernel
theorem k_H_ways_21 : decode (mtC m_H_ways) 21 = .ok (.bipush (-9), 2) := by decide +kernel
theorem k_H_ways_23 : decode (mtC m_H_ways) 23 = .ok (.ireturn, 1) := by decide +kernel
theorem k_H_ways_24 : decode (mtC m_H_ways) 24 = .ok (.aload_n 3, 1) := by decide +kernel
theorem k_H_ways_25 : decode (mtC m_H_ways) 25 = .ok (.iload_n 2, 1) := by decide +kernel
theorem k_H_ways_26 : decode (mtC m_H_ways) 26 = .ok (.invokevirtual 156, 3) := by decide +kernel
theorem k_H_ways_29 : decode (mtC m_H_ways) 29 = .ok (.aload_n 3, 1) := by decide +kernel
theorem k_H_ways_30 : decode (mtC m_H_ways) 30 = .ok (.iload_n 2, 1) := by decide +kernel
theorem k_H_ways_31 : decode (mtC m_H_ways) 31 = .ok (.iconst 1, 1) := by decide +kernel
theorem k_H_ways_32 : decode (mtC m_H_ways) 32 = .ok (.isub, 1) := by decide +kernel
theorem k_H_ways_33 : decode (mtC m_H_ways) 33 = .ok (.invokevirtual 156, 3) := by decide +kernel
theorem k_H_ways_36 : decode (mtC m_H_ways) 36 = .ok (.isub, 1) := by decide +kernel
theorem k_H_ways_37 : decode (mtC m_H_ways) 37 = .ok (.ireturn, 1) := by decide +kernel
set_option maxHeartbeats 4000000 in
set_option maxRecDepth 100000 in
theorem T_H_ways_0 {d : Nat} {x1 : Int} {x2 : Int} {M : AMem} {Q : Option AV → AMem → Prop}  (h : CallR d 2 m_H_findWell [vR 3 0, vI x1] M (fun r2 M1 => okH 2 r2 = true ∧ (CallV d m_H_requireWithin [vI x2, vI 0, vI 1000000] M1 (fun M4 => CallI d m_W_canCountTo [vR 2 r2, vI x2] M4 (fun y7 M6 => ((¬ wI y7 = 0) → CallI d m_W_countUpTo [vR 2 r2, vI x2] M6 (fun y9 M8 => CallI d m_W_countUpTo [vR 2 r2, vI (x2 - 1)] M8 (fun y11 M10 => Q (some (vI (y9 - y11))) M10))) ∧ (¬ (¬ wI y7 = 0) → Q (some (vI (-9))) M6)))))) : RunQ (d + 1) m_H_ways 0 [some (vR 3 0), some (vI x1), some (vI x2), none] [] M Q := by
  refine q_aload_n 0 k_H_ways_0 rfl ?_
  refine q_iload_n 1 k_H_ways_1 rfl ?_
  refine q_vR 2 [vI x1] [] k_H_ways_2 lk_3_80 rfl rfl rfl rfl rfl rfl rfl rfl (CallR.mono (fun r2 M1 h12 => ?_) h)
  have ok3 := h12.1
  have h12' := h12.2
  refine q_astore_n 5 k_H_ways_5 (ls' := [some (vR 3 0), some (vI x1), some (vI x2), some (vR 2 r2)]) rfl rfl ?_
  refine q_iload_n 6 k_H_ways_6 rfl ?_
  refine q_iconst 7 k_H_ways_7 ?_
  refine q_ldc 8 k_H_ways_8 ck_3_111 ?_
  refine q_sV 10 [vI x2, vI 0, vI 1000000] [] k_H_ways_10 rfl lk_3_42 rfl rfl rfl rfl rfl rfl (CallV.mono (fun M4 h13 => ?_) h12')
  refine q_aload_n 13 k_H_ways_13 rfl ?_
  refine q_iload_n 14 k_H_ways_14 rfl ?_
  refine q_vI 15 [vI x2] [] k_H_ways_15 lk_3_153 rfl rfl rfl ok3 rfl rfl rfl rfl (CallI.mono (fun y7 M6 h14 => ?_) h13)
  refine q_if_ne 18 24 k_H_ways_18 rfl rfl (fun c18 => ?_) (fun c18 => ?_)
  · have h14t := h14.1 c18
    refine q_aload_n 24 k_H_ways_24 rfl ?_
    refine q_iload_n 25 k_H_ways_25 rfl ?_
    refine q_vI 26 [vI x2] [] k_H_ways_26 lk_3_156 rfl rfl rfl ok3 rfl rfl rfl rfl (CallI.mono (fun y9 M8 h15 => ?_) h14t)
    refine q_aload_n 29 k_H_ways_29 rfl ?_
    refine q_iload_n 30 k_H_ways_30 rfl ?_
    refine q_iconst 31 k_H_ways_31 ?_
    refine q_isub 32 k_H_ways_32 ?_
    refine q_vI 33 [vI (x2 - 1)] [vI y9] k_H_ways_33 lk_3_156 rfl rfl rfl ok3 rfl rfl rfl rfl (CallI.mono (fun y11 M10 h16 => ?_) h15)
    refine q_isub 36 k_H_ways_36 ?_
    exact q_iret 37 k_H_ways_37 rfl h16
  · have h14f := h14.2 c18
    refine q_bipush 21 k_H_ways_21 (by decide) ?_
    exact q_iret 23 k_H_ways_23 rfl h14f
theorem k_H_waits_0 : decode (mtC m_H_waits) 0 = .ok (.aload_n 0, 1) := by decide +kernel
theorem k_H_waits_1 : decode (mtC m_H_waits) 1 = .ok (.iload_n 1, 1) := by decide +kernel
theorem k_H_waits_2 : decode (mtC m_H_waits) 2 = .ok (.invokevirtual 80, 3) := by decide +kernel
theorem k_H_waits_5 : decode (mtC m_H_waits) 5 = .ok (.astore_n 3, 1) := by decide +kernel
theorem k_H_waits_6 : decode (mtC m_H_waits) 6 = .ok (.iload_n 2, 1) := by decide +kernel
theorem k_H_waits_7 : decode (mtC m_H_waits) 7 = .ok (.iconst 0, 1) := by decide +kernel
theorem k_H_waits_8 : decode (mtC m_H_waits) 8 = .ok (.ldc 111, 2) := by decide +kernel
theorem k_H_waits_10 : decode (mtC m_H_waits) 10 = .ok (.invokestatic 42, 3) := by decide +kernel
theorem k_H_waits_13 : decode (mtC m_H_waits) 13 = .ok (.aload_n 3, 1) := by decide +kernel
theorem k_H_waits_14 : decode (mtC m_H_waits) 14 = .ok (.invokevirtual 108, 3) := by decide +kernel
theorem k_H_waits_17 : decode (mtC m_H_waits) 17 = .ok (.ifCond .eq 8, 3) := by decide +kernel
theorem k_H_waits_20 : decode (mtC m_H_waits) 20 = .ok (.bipush (-9), 2) := by decide +kernel
theorem k_H_waits_22 : decode (mtC m_H_waits) 22 = .ok (.goto 11, 3) := by decide +kernel
theorem k_H_waits_25 : decode (mtC m_H_waits) 25 = .ok (.aload_n 3, 1) := by decide +kernel
theorem k_H_waits_26 : decode (mtC m_H_waits) 26 = .ok (.getfield 88, 3) := by decide +kernel
theorem k_H_waits_29 : decode (mtC m_H_waits) 29 = .ok (.iload_n 2, 1) := by decide +kernel
theorem k_H_waits_30 : decode (mtC m_H_waits) 30 = .ok (.invokevirtual 159, 3) := by decide +kernel
theorem k_H_waits_33 : decode (mtC m_H_waits) 33 = .ok (.ireturn, 1) := by decide +kernel
set_option maxHeartbeats 4000000 in
set_option maxRecDepth 100000 in
theorem T_H_waits_0 {d : Nat} {x1 : Int} {x2 : Int} {M : AMem} {Q : Option AV → AMem → Prop}  (h : CallR d 2 m_H_findWell [vR 3 0, vI x1] M (fun r2 M1 => okH 2 r2 = true ∧ (CallV d m_H_requireWithin [vI x2, vI 0, vI 1000000] M1 (fun M4 => CallI d m_W_isEmpty [vR 2 r2] M4 (fun y7 M6 => ((wI y7 = 0) → CallI d m_Q_countUpTo [vR 0 r2, vI x2] M6 (fun y9 M8 => Q (some (vI y9)) M8)) ∧ (¬ (wI y7 = 0) → Q (some (vI (-9))) M6)))))) : RunQ (d + 1) m_H_waits 0 [some (vR 3 0), some (vI x1), some (vI x2), none] [] M Q := by
  refine q_aload_n 0 k_H_waits_0 rfl ?_
  refine q_iload_n 1 k_H_waits_1 rfl ?_
  refine q_vR 2 [vI x1] [] k_H_waits_2 lk_3_80 rfl rfl rfl rfl rfl rfl rfl rfl (CallR.mono (fun r2 M1 h10 => ?_) h)
  have ok3 := h10.1
  have h10' := h10.2
  refine q_astore_n 5 k_H_waits_5 (ls' := [some (vR 3 0), some (vI x1), some (vI x2), some (vR 2 r2)]) rfl rfl ?_
  refine q_iload_n 6 k_H_waits_6 rfl ?_
  refine q_iconst 7 k_H_waits_7 ?_
  refine q_ldc 8 k_H_waits_8 ck_3_111 ?_
  refine q_sV 10 [vI x2, vI 0, vI 1000000] [] k_H_waits_10 rfl lk_3_42 rfl rfl rfl rfl rfl rfl (CallV.mono (fun M4 h11 => ?_) h10')
  refine q_aload_n 13 k_H_waits_13 rfl ?_
  refine q_vI 14 [] [] k_H_waits_14 lk_3_108 rfl rfl rfl ok3 rfl rfl rfl rfl (CallI.mono (fun y7 M6 h12 => ?_) h11)
  refine q_if_eq 17 25 k_H_waits_17 rfl rfl (fun c17 => ?_) (fun c17 => ?_)
  · have h12t := h12.1 c17
    refine q_aload_n 25 k_H_waits_25 rfl ?_
    refine q_getfield 26 k_H_waits_26 fk_3_88 ok3 (v := vR 0 r2) rfl ?_
    refine q_iload_n 29 k_H_waits_29 rfl ?_
    refine q_vI 30 [vI x2] [] k_H_waits_30 lk_3_159 rfl rfl rfl ok3 rfl rfl rfl rfl (CallI.mono (fun y9 M8 h13 => ?_) h12t)
    exact q_iret 33 k_H_waits_33 rfl h13
  · have h12f := h12.2 c17
    refine q_bipush 20 k_H_waits_20 (by decide) ?_
    refine q_goto 22 33 k_H_waits_22 rfl rfl ?_
    exact q_iret 33 k_H_waits_33 rfl h12f
theorem k_H_isAlike_0 : decode (mtC m_H_isAlike) 0 = .ok (.aload_n 0, 1) := by decide +kernel
theorem k_H_isAlike_1 : decode (mtC m_H_isAlike) 1 = .ok (.iload_n 1, 1) := by decide +kernel
theorem k_H_isAlike_2 : decode (mtC m_H_isAlike) 2 = .ok (.invokevirtual 80, 3) := by decide +kernel
theorem k_H_isAlike_5 : decode (mtC m_H_isAlike) 5 = .ok (.astore_n 3, 1) := by decide +kernel
theorem k_H_isAlike_6 : decode (mtC m_H_isAlike) 6 = .ok (.aload_n 0, 1) := by decide +kernel
theorem k_H_isAlike_7 : decode (mtC m_H_isAlike) 7 = .ok (.iload_n 2, 1) := by decide +kernel
theorem k_H_isAlike_8 : decode (mtC m_H_isAlike) 8 = .ok (.invokevirtual 80, 3) := by decide +kernel
theorem k_H_isAlike_11 : decode (mtC m_H_isAlike) 11 = .ok (.astore 4, 2) := by decide +kernel
theorem k_H_isAlike_13 : decode (mtC m_H_isAlike) 13 = .ok (.aload_n 0, 1) := by decide +kernel
theorem k_H_isAlike_14 : decode (mtC m_H_isAlike) 14 = .ok (.getfield 27, 3) := by decide +kernel
theorem k_H_isAlike_17 : decode (mtC m_H_isAlike) 17 = .ok (.aload_n 3, 1) := by decide +kernel
theorem k_H_isAlike_18 : decode (mtC m_H_isAlike) 18 = .ok (.invokevirtual 116, 3) := by decide +kernel
theorem k_H_isAlike_21 : decode (mtC m_H_isAlike) 21 = .ok (.aload_n 0, 1) := by decide +kernel
theorem k_H_isAlike_22 : decode (mtC m_H_isAlike) 22 = .ok (.getfield 31, 3) := by decide +kernel
theorem k_H_isAlike_25 : decode (mtC m_H_isAlike) 25 = .ok (.aload 4, 2) := by decide +kernel
theorem k_H_isAlike_27 : decode (mtC m_H_isAlike) 27 = .ok (.invokevirtual 116, 3) := by decide +kernel
theorem k_H_isAlike_30 : decode (mtC m_H_isAlike) 30 = .ok (.aload_n 0, 1) := by decide +kernel
theorem k_H_isAlike_31 : decode (mtC m_H_isAlike) 31 = .ok (.invokevirtual 170, 3) := by decide +kernel
theorem k_H_isAlike_34 : decode (mtC m_H_isAlike) 34 = .ok (.ireturn, 1) := by decide +kernel
set_option maxHeartbeats 4000000 in
set_option maxRecDepth 100000 in
theorem T_H_isAlike_0 {d : Nat} {x1 : Int} {x2 : Int} {M : AMem} {Q : Option AV → AMem → Prop}  (h : CallR d 2 m_H_findWell [vR 3 0, vI x1] M (fun r2 M1 => okH 2 r2 = true ∧ (CallR d 2 m_H_findWell [vR 3 0, vI x2] M1 (fun r5 M4 => okH 2 r5 = true ∧ (CallV d m_W_become [vR 2 5, vR 2 r2] M4 (fun M7 => CallV d m_W_become [vR 2 6, vR 2 r5] M7 (fun M9 => CallI d m_H_doTrialsTellAlike [vR 3 0] M9 (fun y12 M11 => (y12 = 0 ∨ y12 = 1) ∧ Q (some (vI y12)) M11)))))))) : RunQ (d + 1) m_H_isAlike 0 [some (vR 3 0), some (vI x1), some (vI x2), none, none] [] M Q := by
  refine q_aload_n 0 k_H_isAlike_0 rfl ?_
  refine q_iload_n 1 k_H_isAlike_1 rfl ?_
  refine q_vR 2 [vI x1] [] k_H_isAlike_2 lk_3_80 rfl rfl rfl rfl rfl rfl rfl rfl (CallR.mono (fun r2 M1 h13 => ?_) h)
  have ok3 := h13.1
  have h13' := h13.2
  refine q_astore_n 5 k_H_isAlike_5 (ls' := [some (vR 3 0), some (vI x1), some (vI x2), some (vR 2 r2), none]) rfl rfl ?_
  refine q_aload_n 6 k_H_isAlike_6 rfl ?_
  refine q_iload_n 7 k_H_isAlike_7 rfl ?_
  refine q_vR 8 [vI x2] [] k_H_isAlike_8 lk_3_80 rfl rfl rfl rfl rfl rfl rfl rfl (CallR.mono (fun r5 M4 h14 => ?_) h13')
  have ok6 := h14.1
  have h14' := h14.2
  refine q_astore 11 k_H_isAlike_11 (ls' := [some (vR 3 0), some (vI x1), some (vI x2), some (vR 2 r2), some (vR 2 r5)]) rfl rfl ?_
  refine q_aload_n 13 k_H_isAlike_13 rfl ?_
  refine q_getfield 14 k_H_isAlike_14 fk_3_27 rfl (v := vR 2 5) rfl ?_
  refine q_aload_n 17 k_H_isAlike_17 rfl ?_
  refine q_vV 18 [vR 2 r2] [] k_H_isAlike_18 lk_3_116 rfl rfl rfl rfl rfl rfl rfl rfl (CallV.mono (fun M7 h15 => ?_) h14')
  refine q_aload_n 21 k_H_isAlike_21 rfl ?_
  refine q_getfield 22 k_H_isAlike_22 fk_3_31 rfl (v := vR 2 6) rfl ?_
  refine q_aload 25 k_H_isAlike_25 rfl ?_
  refine q_vV 27 [vR 2 r5] [] k_H_isAlike_27 lk_3_116 rfl rfl rfl rfl rfl rfl rfl rfl (CallV.mono (fun M9 h16 => ?_) h15)
  refine q_aload_n 30 k_H_isAlike_30 rfl ?_
  refine q_vI 31 [] [] k_H_isAlike_31 lk_3_170 rfl rfl rfl rfl rfl rfl rfl rfl (CallI.mono (fun y12 M11 h17 => ?_) h16)
  exact q_zret 34 k_H_isAlike_34 rfl h17.1 h17.2
theorem k_H_house_0 : decode (mtC m_H_house) 0 = .ok (.iload_n 1, 1) := by decide +kernel
theorem k_H_house_1 : decode (mtC m_H_house) 1 = .ok (.iconst 0, 1) := by decide +kernel
theorem k_H_house_2 : decode (mtC m_H_house) 2 = .ok (.iconst 5, 1) := by decide +kernel
theorem k_H_house_3 : decode (mtC m_H_house) 3 = .ok (.invokestatic 42, 3) := by decide +kernel
theorem k_H_house_6 : decode (mtC m_H_house) 6 = .ok (.iload_n 1, 1) := by decide +kernel
theorem k_H_house_7 : decode (mtC m_H_house) 7 = .ok (.iconst 5, 1) := by decide +kernel
theorem k_H_house_8 : decode (mtC m_H_house) 8 = .ok (.if_icmp .ne 8, 3) := by decide +kernel
theorem k_H_house_11 : decode (mtC m_H_house) 11 = .ok (.aload_n 0, 1) := by decide +kernel
theorem k_H_house_12 : decode (mtC m_H_house) 12 = .ok (.getfield 138, 3) := by decide +kernel
theorem k_H_house_15 : decode (mtC m_H_house) 15 = .ok (.ireturn, 1) := by decide +kernel
theorem k_H_house_16 : decode (mtC m_H_house) 16 = .ok (.iconst 0, 1) := by decide +kernel
theorem k_H_house_17 : decode (mtC m_H_house) 17 = .ok (.istore_n 2, 1) := by decide +kernel
theorem k_H_house_18 : decode (mtC m_H_house) 18 = .ok (.iload_n 1, 1) := by decide +kernel
theorem k_H_house_19 : decode (mtC m_H_house) 19 = .ok (.iconst 4, 1) := by decide +kernel
theorem k_H_house_20 : decode (mtC m_H_house) 20 = .ok (.if_icmp .ne 34, 3) := by decide +kernel
theorem k_H_house_23 : decode (mtC m_H_house) 23 = .ok (.iconst 0, 1) := by decide +kernel
theorem k_H_house_24 : decode (mtC m_H_house) 24 = .ok (.istore_n 3, 1) := by decide +kernel
theorem k_H_house_25 : decode (mtC m_H_house) 25 = .ok (.iload_n 3, 1) := by decide +kernel
theorem k_H_house_26 : decode (mtC m_H_house) 26 = .ok (.aload_n 0, 1) := by decide +kernel
theorem k_H_house_27 : decode (mtC m_H_house) 27 = .ok (.getfield 11, 3) := by decide +kernel
theorem k_H_house_30 : decode (mtC m_H_house) 30 = .ok (.arraylength, 1) := by decide +kernel
theorem k_H_house_31 : decode (mtC m_H_house) 31 = .ok (.if_icmp .ge 21, 3) := by decide +kernel
theorem k_H_house_34 : decode (mtC m_H_house) 34 = .ok (.iload_n 2, 1) := by decide +kernel
theorem k_H_house_35 : decode (mtC m_H_house) 35 = .ok (.aload_n 0, 1) := by decide +kernel
theorem k_H_house_36 : decode (mtC m_H_house) 36 = .ok (.getfield 11, 3) := by decide +kernel
theorem k_H_house_39 : decode (mtC m_H_house) 39 = .ok (.iload_n 3, 1) := by decide +kernel
theorem k_H_house_40 : decode (mtC m_H_house) 40 = .ok (.aaload, 1) := by decide +kernel
theorem k_H_house_41 : decode (mtC m_H_house) 41 = .ok (.getfield 46, 3) := by decide +kernel
theorem k_H_house_44 : decode (mtC m_H_house) 44 = .ok (.iadd, 1) := by decide +kernel
theorem k_H_house_45 : decode (mtC m_H_house) 45 = .ok (.istore_n 2, 1) := by decide +kernel
theorem k_H_house_46 : decode (mtC m_H_house) 46 = .ok (.iinc 3 1, 3) := by decide +kernel
theorem k_H_house_49 : decode (mtC m_H_house) 49 = .ok (.goto (-24), 3) := by decide +kernel
theorem k_H_house_52 : decode (mtC m_H_house) 52 = .ok (.iload_n 2, 1) := by decide +kernel
theorem k_H_house_53 : decode (mtC m_H_house) 53 = .ok (.ireturn, 1) := by decide +kernel
theorem k_H_house_54 : decode (mtC m_H_house) 54 = .ok (.iconst 0, 1) := by decide +kernel
theorem k_H_house_55 : decode (mtC m_H_house) 55 = .ok (.istore_n 3, 1) := by decide +kernel
theorem k_H_house_56 : decode (mtC m_H_house) 56 = .ok (.iload_n 3, 1) := by decide +kernel
theorem k_H_house_57 : decode (mtC m_H_house) 57 = .ok (.aload_n 0, 1) := by decide +kernel
theorem k_H_house_58 : decode (mtC m_H_house) 58 = .ok (.getfield 22, 3) := by decide +kernel
theorem k_H_house_61 : decode (mtC m_H_house) 61 = .ok (.arraylength, 1) := by decide +kernel
theorem k_H_house_62 : decode (mtC m_H_house) 62 = .ok (.if_icmp .ge 22, 3) := by decide +kernel
theorem k_H_house_65 : decode (mtC m_H_house) 65 = .ok (.iload_n 2, 1) := by decide +kernel
theorem k_H_house_66 : decode (mtC m_H_house) 66 = .ok (.aload_n 0, 1) := by decide +kernel
theorem k_H_house_67 : decode (mtC m_H_house) 67 = .ok (.getfield 22, 3) := by decide +kernel
theorem k_H_house_70 : decode (mtC m_H_house) 70 = .ok (.iload_n 3, 1) := by decide +kernel
theorem k_H_house_71 : decode (mtC m_H_house) 71 = .ok (.aaload, 1) := by decide +kernel
theorem k_H_house_72 : decode (mtC m_H_house) 72 = .ok (.iload_n 1, 1) := by decide +kernel
theorem k_H_house_73 : decode (mtC m_H_house) 73 = .ok (.invokestatic 173, 3) := by decide +kernel
theorem k_H_house_76 : decode (mtC m_H_house) 76 = .ok (.iadd, 1) := by decide +kernel
theorem k_H_house_77 : decode (mtC m_H_house) 77 = .ok (.istore_n 2, 1) := by decide +kernel
theorem k_H_house_78 : decode (mtC m_H_house) 78 = .ok (.iinc 3 1, 3) := by decide +kernel
theorem k_H_house_81 : decode (mtC m_H_house) 81 = .ok (.goto (-25), 3) := by decide +kernel
theorem k_H_house_84 : decode (mtC m_H_house) 84 = .ok (.iload_n 2, 1) := by decide +kernel
theorem k_H_house_85 : decode (mtC m_H_house) 85 = .ok (.ireturn, 1) := by decide +kernel
set_option maxHeartbeats 4000000 in
set_option maxRecDepth 100000 in
theorem T_H_house_0 {d : Nat} {x1 : Int} {M : AMem} {Q : Option AV → AMem → Prop}  (h : CallV d m_H_requireWithin [vI x1, vI 0, vI 5] M (fun M1 => ((¬ wI x1 = 5) → ((¬ wI x1 = 4) → RunQ (d + 1) m_H_house 56 [some (vR 3 0), some (vI x1), some (vI 0), some (vI 0)] [] M1 Q) ∧ (¬ (¬ wI x1 = 4) → RunQ (d + 1) m_H_house 25 [some (vR 3 0), some (vI x1), some (vI 0), some (vI 0)] [] M1 Q)) ∧ (¬ (¬ wI x1 = 5) → Q (some (vI (M1 3 0 5))) M1))) : RunQ (d + 1) m_H_house 0 [some (vR 3 0), some (vI x1), none, none] [] M Q := by
  refine q_iload_n 0 k_H_house_0 rfl ?_
  refine q_iconst 1 k_H_house_1 ?_
  refine q_iconst 2 k_H_house_2 ?_
  refine q_sV 3 [vI x1, vI 0, vI 5] [] k_H_house_3 rfl lk_3_42 rfl rfl rfl rfl rfl rfl (CallV.mono (fun M1 h3 => ?_) h)
  refine q_iload_n 6 k_H_house_6 rfl ?_
  refine q_iconst 7 k_H_house_7 ?_
  refine q_icmp_ne 8 16 k_H_house_8 rfl rfl (fun c8 => ?_) (fun c8 => ?_)
  · have h3t := h3.1 c8
    refine q_iconst 16 k_H_house_16 ?_
    refine q_istore_n 17 k_H_house_17 (ls' := [some (vR 3 0), some (vI x1), some (vI 0), none]) rfl rfl ?_
    refine q_iload_n 18 k_H_house_18 rfl ?_
    refine q_iconst 19 k_H_house_19 ?_
    refine q_icmp_ne 20 54 k_H_house_20 rfl rfl (fun c20 => ?_) (fun c20 => ?_)
    · have h3tt := h3t.1 c20
      refine q_iconst 54 k_H_house_54 ?_
      refine q_istore_n 55 k_H_house_55 (ls' := [some (vR 3 0), some (vI x1), some (vI 0), some (vI 0)]) rfl rfl ?_
      exact h3tt
    · have h3tf := h3t.2 c20
      refine q_iconst 23 k_H_house_23 ?_
      refine q_istore_n 24 k_H_house_24 (ls' := [some (vR 3 0), some (vI x1), some (vI 0), some (vI 0)]) rfl rfl ?_
      exact h3tf
  · have h3f := h3.2 c8
    refine q_aload_n 11 k_H_house_11 rfl ?_
    refine q_getfield 12 k_H_house_12 fk_3_138 rfl (v := vI (M1 3 0 5)) rfl ?_
    exact q_iret 15 k_H_house_15 rfl h3f
set_option maxHeartbeats 4000000 in
set_option maxRecDepth 100000 in
theorem T_H_house_56 {d : Nat} {x1 : Int} {x2 : Int} {x3 : Int} {M : AMem} {Q : Option AV → AMem → Prop}  (h : ((5 ≤ wI x3) → Q (some (vI x2)) M) ∧ (¬ (5 ≤ wI x3) → (0 ≤ wI x3 ∧ wI x3 < (5 : Nat)) ∧ (CallI d m_H_shareOf [vR 2 ((wI x3).toNat), vI x1] M (fun y3 M2 => RunQ (d + 1) m_H_house 56 [some (vR 3 0), some (vI x1), some (vI (x2 + y3)), some (vI (x3 + 1))] [] M2 Q)))) : RunQ (d + 1) m_H_house 56 [some (vR 3 0), some (vI x1), some (vI x2), some (vI x3)] [] M Q := by
  refine q_iload_n 56 k_H_house_56 rfl ?_
  refine q_aload_n 57 k_H_house_57 rfl ?_
  refine q_getfield 58 k_H_house_58 fk_3_22 rfl (v := vR 8 0) rfl ?_
  refine q_alen 61 k_H_house_61 rfl rfl (z := 5) rfl ?_
  refine q_icmp_ge 62 84 k_H_house_62 rfl rfl (fun c62 => ?_) (fun c62 => ?_)
  · have ht := h.1 c62
    refine q_iload_n 84 k_H_house_84 rfl ?_
    exact q_iret 85 k_H_house_85 rfl ht
  · have hf := h.2 c62
    refine q_iload_n 65 k_H_house_65 rfl ?_
    refine q_aload_n 66 k_H_house_66 rfl ?_
    refine q_getfield 67 k_H_house_67 fk_3_22 rfl (v := vR 8 0) rfl ?_
    refine q_iload_n 70 k_H_house_70 rfl ?_
    have hb1 := hf.1
    refine q_aaload 71 k_H_house_71 rfl (n := 5) rfl hb1 (kd := 2) (x := (wI x3).toNat) rfl ?_
    have hf' := hf.2
    refine q_iload_n 72 k_H_house_72 rfl ?_
    refine q_sI 73 [vR 2 ((wI x3).toNat), vI x1] [vI x2] k_H_house_73 rfl lk_3_173 rfl rfl rfl rfl rfl rfl (CallI.mono (fun y3 M2 h4 => ?_) hf')
    refine q_iadd 76 k_H_house_76 ?_
    refine q_istore_n 77 k_H_house_77 (ls' := [some (vR 3 0), some (vI x1), some (vI (x2 + y3)), some (vI x3)]) rfl rfl ?_
    refine q_iinc 78 k_H_house_78 (ls' := [some (vR 3 0), some (vI x1), some (vI (x2 + y3)), some (vI (x3 + 1))]) rfl rfl rfl ?_
    refine q_goto 81 56 k_H_house_81 rfl rfl ?_
    exact h4
set_option maxHeartbeats 4000000 in
set_option maxRecDepth 100000 in
theorem T_H_house_25 {d : Nat} {x1 : Int} {x2 : Int} {x3 : Int} {M : AMem} {Q : Option AV → AMem → Prop}  (h : ((6 ≤ wI x3) → Q (some (vI x2)) M) ∧ (¬ (6 ≤ wI x3) → (0 ≤ wI x3 ∧ wI x3 < (6 : Nat)) ∧ (RunQ (d + 1) m_H_house 25 [some (vR 3 0), some (vI x1), some (vI (x2 + (M 1 (42 + (wI x3).toNat) 1))), some (vI (x3 + 1))] [] M Q))) : RunQ (d + 1) m_H_house 25 [some (vR 3 0), some (vI x1), some (vI x2), some (vI x3)] [] M Q := by
  refine q_iload_n 25 k_H_house_25 rfl ?_
  refine q_aload_n 26 k_H_house_26 rfl ?_
  refine q_getfield 27 k_H_house_27 fk_3_11 rfl (v := vR 7 0) rfl ?_
  refine q_alen 30 k_H_house_30 rfl rfl (z := 6) rfl ?_
  refine q_icmp_ge 31 52 k_H_house_31 rfl rfl (fun c31 => ?_) (fun c31 => ?_)
  · have ht := h.1 c31
    refine q_iload_n 52 k_H_house_52 rfl ?_
    exact q_iret 53 k_H_house_53 rfl ht
  · have hf := h.2 c31
    refine q_iload_n 34 k_H_house_34 rfl ?_
    refine q_aload_n 35 k_H_house_35 rfl ?_
    refine q_getfield 36 k_H_house_36 fk_3_11 rfl (v := vR 7 0) rfl ?_
    refine q_iload_n 39 k_H_house_39 rfl ?_
    have hb1 := hf.1
    refine q_aaload 40 k_H_house_40 rfl (n := 6) rfl hb1 (kd := 1) (x := (42 + (wI x3).toNat)) rfl ?_
    have hf' := hf.2
    refine q_getfield 41 k_H_house_41 fk_3_46 (ok_r7 hb1) (v := vI (M 1 (42 + (wI x3).toNat) 1)) rfl ?_
    refine q_iadd 44 k_H_house_44 ?_
    refine q_istore_n 45 k_H_house_45 (ls' := [some (vR 3 0), some (vI x1), some (vI (x2 + (M 1 (42 + (wI x3).toNat) 1))), some (vI x3)]) rfl rfl ?_
    refine q_iinc 46 k_H_house_46 (ls' := [some (vR 3 0), some (vI x1), some (vI (x2 + (M 1 (42 + (wI x3).toNat) 1))), some (vI (x3 + 1))]) rfl rfl rfl ?_
    refine q_goto 49 25 k_H_house_49 rfl rfl ?_
    exact hf'
theorem k_H_isSound_0 : decode (mtC m_H_isSound) 0 = .ok (.aload_n 0, 1) := by decide +kernel
theorem k_H_isSound_1 : decode (mtC m_H_isSound) 1 = .ok (.invokevirtual 177, 3) := by decide +kernel
theorem k_H_isSound_4 : decode (mtC m_H_isSound) 4 = .ok (.ifCond .eq 10, 3) := by decide +kernel
theorem k_H_isSound_7 : decode (mtC m_H_isSound) 7 = .ok (.aload_n 0, 1) := by decide +kernel
theorem k_H_isSound_8 : decode (mtC m_H_isSound) 8 = .ok (.invokevirtual 180, 3) := by decide +kernel
theorem k_H_isSound_11 : decode (mtC m_H_isSound) 11 = .ok (.ifCond .ne 5, 3) := by decide +kernel
theorem k_H_isSound_14 : decode (mtC m_H_isSound) 14 = .ok (.iconst 0, 1) := by decide +kernel
theorem k_H_isSound_15 : decode (mtC m_H_isSound) 15 = .ok (.ireturn, 1) := by decide +kernel
theorem k_H_isSound_16 : decode (mtC m_H_isSound) 16 = .ok (.iconst 0, 1) := by decide +kernel
theorem k_H_isSound_17 : decode (mtC m_H_isSound) 17 = .ok (.istore_n 1, 1) := by decide +kernel
theorem k_H_isSound_18 : decode (mtC m_H_isSound) 18 = .ok (.iload_n 1, 1) := by decide +kernel
theorem k_H_isSound_19 : decode (mtC m_H_isSound) 19 = .ok (.aload_n 0, 1) := by decide +kernel
theorem k_H_isSound_20 : decode (mtC m_H_isSound) 20 = .ok (.getfield 22, 3) := by decide +kernel
theorem k_H_isSound_23 : decode (mtC m_H_isSound) 23 = .ok (.arraylength, 1) := by decide +kernel
theorem k_H_isSound_24 : decode (mtC m_H_isSound) 24 = .ok (.if_icmp .ge 82, 3) := by decide +kernel
theorem k_H_isSound_27 : decode (mtC m_H_isSound) 27 = .ok (.aload_n 0, 1) := by decide +kernel
theorem k_H_isSound_28 : decode (mtC m_H_isSound) 28 = .ok (.getfield 22, 3) := by decide +kernel
theorem k_H_isSound_31 : decode (mtC m_H_isSound) 31 = .ok (.iload_n 1, 1) := by decide +kernel
theorem k_H_isSound_32 : decode (mtC m_H_isSound) 32 = .ok (.aaload, 1) := by decide +kernel
theorem k_H_isSound_33 : decode (mtC m_H_isSound) 33 = .ok (.invokevirtual 108, 3) := by decide +kernel
theorem k_H_isSound_36 : decode (mtC m_H_isSound) 36 = .ok (.ifCond .ne 64, 3) := by decide +kernel
theorem k_H_isSound_39 : decode (mtC m_H_isSound) 39 = .ok (.aload_n 0, 1) := by decide +kernel
theorem k_H_isSound_40 : decode (mtC m_H_isSound) 40 = .ok (.getfield 27, 3) := by decide +kernel
theorem k_H_isSound_43 : decode (mtC m_H_isSound) 43 = .ok (.aload_n 0, 1) := by decide +kernel
theorem k_H_isSound_44 : decode (mtC m_H_isSound) 44 = .ok (.getfield 22, 3) := by decide +kernel
theorem k_H_isSound_47 : decode (mtC m_H_isSound) 47 = .ok (.iload_n 1, 1) := by decide +kernel
theorem k_H_isSound_48 : decode (mtC m_H_isSound) 48 = .ok (.aaload, 1) := by decide +kernel
theorem k_H_isSound_49 : decode (mtC m_H_isSound) 49 = .ok (.invokevirtual 116, 3) := by decide +kernel
theorem k_H_isSound_52 : decode (mtC m_H_isSound) 52 = .ok (.aload_n 0, 1) := by decide +kernel
theorem k_H_isSound_53 : decode (mtC m_H_isSound) 53 = .ok (.getfield 31, 3) := by decide +kernel
theorem k_H_isSound_56 : decode (mtC m_H_isSound) 56 = .ok (.aload_n 0, 1) := by decide +kernel
theorem k_H_isSound_57 : decode (mtC m_H_isSound) 57 = .ok (.getfield 22, 3) := by decide +kernel
theorem k_H_isSound_60 : decode (mtC m_H_isSound) 60 = .ok (.iload_n 1, 1) := by decide +kernel
theorem k_H_isSound_61 : decode (mtC m_H_isSound) 61 = .ok (.aaload, 1) := by decide +kernel
theorem k_H_isSound_62 : decode (mtC m_H_isSound) 62 = .ok (.invokevirtual 116, 3) := by decide +kernel
theorem k_H_isSound_65 : decode (mtC m_H_isSound) 65 = .ok (.aload_n 0, 1) := by decide +kernel
theorem k_H_isSound_66 : decode (mtC m_H_isSound) 66 = .ok (.getfield 31, 3) := by decide +kernel
theorem k_H_isSound_69 : decode (mtC m_H_isSound) 69 = .ok (.getfield 88, 3) := by decide +kernel
theorem k_H_isSound_72 : decode (mtC m_H_isSound) 72 = .ok (.invokevirtual 120, 3) := by decide +kernel
theorem k_H_isSound_75 : decode (mtC m_H_isSound) 75 = .ok (.aload_n 0, 1) := by decide +kernel
theorem k_H_isSound_76 : decode (mtC m_H_isSound) 76 = .ok (.getfield 22, 3) := by decide +kernel
theorem k_H_isSound_79 : decode (mtC m_H_isSound) 79 = .ok (.iload_n 1, 1) := by decide +kernel
theorem k_H_isSound_80 : decode (mtC m_H_isSound) 80 = .ok (.aaload, 1) := by decide +kernel
theorem k_H_isSound_81 : decode (mtC m_H_isSound) 81 = .ok (.invokestatic 183, 3) := by decide +kernel
theorem k_H_isSound_84 : decode (mtC m_H_isSound) 84 = .ok (.ifCond .eq 14, 3) := by decide +kernel
theorem k_H_isSound_87 : decode (mtC m_H_isSound) 87 = .ok (.aload_n 0, 1) := by decide +kernel
theorem k_H_isSound_88 : decode (mtC m_H_isSound) 88 = .ok (.invokevirtual 170, 3) := by decide +kernel
theorem k_H_isSound_91 : decode (mtC m_H_isSound) 91 = .ok (.ifCond .eq 7, 3) := by decide +kernel
theorem k_H_isSound_94 : decode (mtC m_H_isSound) 94 = .ok (.iconst 1, 1) := by decide +kernel
theorem k_H_isSound_95 : decode (mtC m_H_isSound) 95 = .ok (.goto 4, 3) := by decide +kernel
theorem k_H_isSound_98 : decode (mtC m_H_isSound) 98 = .ok (.iconst 0, 1) := by decide +kernel
theorem k_H_isSound_99 : decode (mtC m_H_isSound) 99 = .ok (.ireturn, 1) := by decide +kernel
theorem k_H_isSound_100 : decode (mtC m_H_isSound) 100 = .ok (.iinc 1 1, 3) := by decide +kernel
theorem k_H_isSound_103 : decode (mtC m_H_isSound) 103 = .ok (.goto (-85), 3) := by decide +kernel
theorem k_H_isSound_106 : decode (mtC m_H_isSound) 106 = .ok (.iconst 1, 1) := by decide +kernel
theorem k_H_isSound_107 : decode (mtC m_H_isSound) 107 = .ok (.ireturn, 1) := by decide +kernel
set_option maxHeartbeats 4000000 in
set_option maxRecDepth 100000 in
theorem T_H_isSound_0 {d : Nat}  {M : AMem} {Q : Option AV → AMem → Prop}  (h : CallI d m_H_areRowsRising [vR 3 0] M (fun y2 M1 => ((wI y2 = 0) → Q (some (vI 0)) M1) ∧ (¬ (wI y2 = 0) → CallI d m_H_areQueuesWithinLimits [vR 3 0] M1 (fun y4 M3 => ((¬ wI y4 = 0) → RunQ (d + 1) m_H_isSound 18 [some (vR 3 0), some (vI 0)] [] M3 Q) ∧ (¬ (¬ wI y4 = 0) → Q (some (vI 0)) M3))))) : RunQ (d + 1) m_H_isSound 0 [some (vR 3 0), none] [] M Q := by
  refine q_aload_n 0 k_H_isSound_0 rfl ?_
  refine q_vI 1 [] [] k_H_isSound_1 lk_3_177 rfl rfl rfl rfl rfl rfl rfl rfl (CallI.mono (fun y2 M1 h5 => ?_) h)
  refine q_if_eq 4 14 k_H_isSound_4 rfl rfl (fun c4 => ?_) (fun c4 => ?_)
  · have h5t := h5.1 c4
    refine q_iconst 14 k_H_isSound_14 ?_
    exact q_zret 15 k_H_isSound_15 rfl (Or.inl rfl) h5t
  · have h5f := h5.2 c4
    refine q_aload_n 7 k_H_isSound_7 rfl ?_
    refine q_vI 8 [] [] k_H_isSound_8 lk_3_180 rfl rfl rfl rfl rfl rfl rfl rfl (CallI.mono (fun y4 M3 h6 => ?_) h5f)
    refine q_if_ne 11 16 k_H_isSound_11 rfl rfl (fun c11 => ?_) (fun c11 => ?_)
    · have h6t := h6.1 c11
      refine q_iconst 16 k_H_isSound_16 ?_
      refine q_istore_n 17 k_H_isSound_17 (ls' := [some (vR 3 0), some (vI 0)]) rfl rfl ?_
      exact h6t
    · have h6f := h6.2 c11
      refine q_iconst 14 k_H_isSound_14 ?_
      exact q_zret 15 k_H_isSound_15 rfl (Or.inl rfl) h6f
set_option maxHeartbeats 4000000 in
set_option maxRecDepth 100000 in
theorem T_H_isSound_18 {d : Nat} {x1 : Int} {M : AMem} {Q : Option AV → AMem → Prop}  (h : ((5 ≤ wI x1) → Q (some (vI 1)) M) ∧ (¬ (5 ≤ wI x1) → (0 ≤ wI x1 ∧ wI x1 < (5 : Nat)) ∧ (CallI d m_W_isEmpty [vR 2 ((wI x1).toNat)] M (fun y3 M2 => ((¬ wI y3 = 0) → RunQ (d + 1) m_H_isSound 18 [some (vR 3 0), some (vI (x1 + 1))] [] M2 Q) ∧ (¬ (¬ wI y3 = 0) → (0 ≤ wI x1 ∧ wI x1 < (5 : Nat)) ∧ (CallV d m_W_become [vR 2 5, vR 2 ((wI x1).toNat)] M2 (fun M5 => (0 ≤ wI x1 ∧ wI x1 < (5 : Nat)) ∧ (CallV d m_W_become [vR 2 6, vR 2 ((wI x1).toNat)] M5 (fun M8 => CallV d m_Q_turnOver [vR 0 6] M8 (fun M10 => (0 ≤ wI x1 ∧ wI x1 < (5 : Nat)) ∧ (CallI d m_H_hasToldNoMoreThanIs [vR 2 ((wI x1).toNat)] M10 (fun y14 M13 => ((wI y14 = 0) → Q (some (vI 0)) M13) ∧ (¬ (wI y14 = 0) → CallI d m_H_doTrialsTellAlike [vR 3 0] M13 (fun y16 M15 => ((wI y16 = 0) → Q (some (vI 0)) M15) ∧ (¬ (wI y16 = 0) → Q (some (vI 1)) M15))))))))))))))) : RunQ (d + 1) m_H_isSound 18 [some (vR 3 0), some (vI x1)] [] M Q := by
  refine q_iload_n 18 k_H_isSound_18 rfl ?_
  refine q_aload_n 19 k_H_isSound_19 rfl ?_
  refine q_getfield 20 k_H_isSound_20 fk_3_22 rfl (v := vR 8 0) rfl ?_
  refine q_alen 23 k_H_isSound_23 rfl rfl (z := 5) rfl ?_
  refine q_icmp_ge 24 106 k_H_isSound_24 rfl rfl (fun c24 => ?_) (fun c24 => ?_)
  · have ht := h.1 c24
    refine q_iconst 106 k_H_isSound_106 ?_
    exact q_zret 107 k_H_isSound_107 rfl (Or.inr rfl) ht
  · have hf := h.2 c24
    refine q_aload_n 27 k_H_isSound_27 rfl ?_
    refine q_getfield 28 k_H_isSound_28 fk_3_22 rfl (v := vR 8 0) rfl ?_
    refine q_iload_n 31 k_H_isSound_31 rfl ?_
    have hb1 := hf.1
    refine q_aaload 32 k_H_isSound_32 rfl (n := 5) rfl hb1 (kd := 2) (x := (wI x1).toNat) rfl ?_
    have hf' := hf.2
    refine q_vI 33 [] [] k_H_isSound_33 lk_3_108 rfl rfl rfl (ok_w8 hb1) rfl rfl rfl rfl (CallI.mono (fun y3 M2 h17 => ?_) hf')
    refine q_if_ne 36 100 k_H_isSound_36 rfl rfl (fun c36 => ?_) (fun c36 => ?_)
    · have h17t := h17.1 c36
      refine q_iinc 100 k_H_isSound_100 (ls' := [some (vR 3 0), some (vI (x1 + 1))]) rfl rfl rfl ?_
      refine q_goto 103 18 k_H_isSound_103 rfl rfl ?_
      exact h17t
    · have h17f := h17.2 c36
      refine q_aload_n 39 k_H_isSound_39 rfl ?_
      refine q_getfield 40 k_H_isSound_40 fk_3_27 rfl (v := vR 2 5) rfl ?_
      refine q_aload_n 43 k_H_isSound_43 rfl ?_
      refine q_getfield 44 k_H_isSound_44 fk_3_22 rfl (v := vR 8 0) rfl ?_
      refine q_iload_n 47 k_H_isSound_47 rfl ?_
      have hb4 := h17f.1
      refine q_aaload 48 k_H_isSound_48 rfl (n := 5) rfl hb4 (kd := 2) (x := (wI x1).toNat) rfl ?_
      have h17f' := h17f.2
      refine q_vV 49 [vR 2 ((wI x1).toNat)] [] k_H_isSound_49 lk_3_116 rfl rfl rfl rfl rfl rfl rfl rfl (CallV.mono (fun M5 h18 => ?_) h17f')
      refine q_aload_n 52 k_H_isSound_52 rfl ?_
      refine q_getfield 53 k_H_isSound_53 fk_3_31 rfl (v := vR 2 6) rfl ?_
      refine q_aload_n 56 k_H_isSound_56 rfl ?_
      refine q_getfield 57 k_H_isSound_57 fk_3_22 rfl (v := vR 8 0) rfl ?_
      refine q_iload_n 60 k_H_isSound_60 rfl ?_
      have hb7 := h18.1
      refine q_aaload 61 k_H_isSound_61 rfl (n := 5) rfl hb7 (kd := 2) (x := (wI x1).toNat) rfl ?_
      have h18' := h18.2
      refine q_vV 62 [vR 2 ((wI x1).toNat)] [] k_H_isSound_62 lk_3_116 rfl rfl rfl rfl rfl rfl rfl rfl (CallV.mono (fun M8 h19 => ?_) h18')
      refine q_aload_n 65 k_H_isSound_65 rfl ?_
      refine q_getfield 66 k_H_isSound_66 fk_3_31 rfl (v := vR 2 6) rfl ?_
      refine q_getfield 69 k_H_isSound_69 fk_3_88 rfl (v := vR 0 6) rfl ?_
      refine q_vV 72 [] [] k_H_isSound_72 lk_3_120 rfl rfl rfl rfl rfl rfl rfl rfl (CallV.mono (fun M10 h20 => ?_) h19)
      refine q_aload_n 75 k_H_isSound_75 rfl ?_
      refine q_getfield 76 k_H_isSound_76 fk_3_22 rfl (v := vR 8 0) rfl ?_
      refine q_iload_n 79 k_H_isSound_79 rfl ?_
      have hb12 := h20.1
      refine q_aaload 80 k_H_isSound_80 rfl (n := 5) rfl hb12 (kd := 2) (x := (wI x1).toNat) rfl ?_
      have h20' := h20.2
      refine q_sI 81 [vR 2 ((wI x1).toNat)] [] k_H_isSound_81 rfl lk_3_183 rfl rfl rfl rfl rfl rfl (CallI.mono (fun y14 M13 h21 => ?_) h20')
      refine q_if_eq 84 98 k_H_isSound_84 rfl rfl (fun c84 => ?_) (fun c84 => ?_)
      · have h21t := h21.1 c84
        refine q_iconst 98 k_H_isSound_98 ?_
        exact q_zret 99 k_H_isSound_99 rfl (Or.inl rfl) h21t
      · have h21f := h21.2 c84
        refine q_aload_n 87 k_H_isSound_87 rfl ?_
        refine q_vI 88 [] [] k_H_isSound_88 lk_3_170 rfl rfl rfl rfl rfl rfl rfl rfl (CallI.mono (fun y16 M15 h22 => ?_) h21f)
        refine q_if_eq 91 98 k_H_isSound_91 rfl rfl (fun c91 => ?_) (fun c91 => ?_)
        · have h22t := h22.1 c91
          refine q_iconst 98 k_H_isSound_98 ?_
          exact q_zret 99 k_H_isSound_99 rfl (Or.inl rfl) h22t
        · have h22f := h22.2 c91
          refine q_iconst 94 k_H_isSound_94 ?_
          refine q_goto 95 99 k_H_isSound_95 rfl rfl ?_
          exact q_zret 99 k_H_isSound_99 rfl (Or.inr rfl) h22f
theorem k_H_digest_0 : decode (mtC m_H_digest) 0 = .ok (.ldc2_w 187, 3) := by decide +kernel
theorem k_H_digest_3 : decode (mtC m_H_digest) 3 = .ok (.lstore_n 1, 1) := by decide +kernel
theorem k_H_digest_4 : decode (mtC m_H_digest) 4 = .ok (.iconst 0, 1) := by decide +kernel
theorem k_H_digest_5 : decode (mtC m_H_digest) 5 = .ok (.istore_n 3, 1) := by decide +kernel
theorem k_H_digest_6 : decode (mtC m_H_digest) 6 = .ok (.iload_n 3, 1) := by decide +kernel
theorem k_H_digest_7 : decode (mtC m_H_digest) 7 = .ok (.bipush 6, 2) := by decide +kernel
theorem k_H_digest_9 : decode (mtC m_H_digest) 9 = .ok (.if_icmp .ge 22, 3) := by decide +kernel
theorem k_H_digest_12 : decode (mtC m_H_digest) 12 = .ok (.lload_n 1, 1) := by decide +kernel
theorem k_H_digest_13 : decode (mtC m_H_digest) 13 = .ok (.ldc2_w 189, 3) := by decide +kernel
theorem k_H_digest_16 : decode (mtC m_H_digest) 16 = .ok (.lmul, 1) := by decide +kernel
theorem k_H_digest_17 : decode (mtC m_H_digest) 17 = .ok (.aload_n 0, 1) := by decide +kernel
theorem k_H_digest_18 : decode (mtC m_H_digest) 18 = .ok (.iload_n 3, 1) := by decide +kernel
theorem k_H_digest_19 : decode (mtC m_H_digest) 19 = .ok (.invokevirtual 191, 3) := by decide +kernel
theorem k_H_digest_22 : decode (mtC m_H_digest) 22 = .ok (.i2l, 1) := by decide +kernel
theorem k_H_digest_23 : decode (mtC m_H_digest) 23 = .ok (.ladd, 1) := by decide +kernel
theorem k_H_digest_24 : decode (mtC m_H_digest) 24 = .ok (.lstore_n 1, 1) := by decide +kernel
theorem k_H_digest_25 : decode (mtC m_H_digest) 25 = .ok (.iinc 3 1, 3) := by decide +kernel
theorem k_H_digest_28 : decode (mtC m_H_digest) 28 = .ok (.goto (-22), 3) := by decide +kernel
theorem k_H_digest_31 : decode (mtC m_H_digest) 31 = .ok (.iconst 0, 1) := by decide +kernel
theorem k_H_digest_32 : decode (mtC m_H_digest) 32 = .ok (.istore_n 3, 1) := by decide +kernel
theorem k_H_digest_33 : decode (mtC m_H_digest) 33 = .ok (.iload_n 3, 1) := by decide +kernel
theorem k_H_digest_34 : decode (mtC m_H_digest) 34 = .ok (.bipush 6, 2) := by decide +kernel
theorem k_H_digest_36 : decode (mtC m_H_digest) 36 = .ok (.if_icmp .ge 57, 3) := by decide +kernel
theorem k_H_digest_39 : decode (mtC m_H_digest) 39 = .ok (.aload_n 0, 1) := by decide +kernel
theorem k_H_digest_40 : decode (mtC m_H_digest) 40 = .ok (.iload_n 3, 1) := by decide +kernel
theorem k_H_digest_41 : decode (mtC m_H_digest) 41 = .ok (.invokevirtual 194, 3) := by decide +kernel
theorem k_H_digest_44 : decode (mtC m_H_digest) 44 = .ok (.istore 4, 2) := by decide +kernel
theorem k_H_digest_46 : decode (mtC m_H_digest) 46 = .ok (.lload_n 1, 1) := by decide +kernel
theorem k_H_digest_47 : decode (mtC m_H_digest) 47 = .ok (.ldc2_w 189, 3) := by decide +kernel
theorem k_H_digest_50 : decode (mtC m_H_digest) 50 = .ok (.lmul, 1) := by decide +kernel
theorem k_H_digest_51 : decode (mtC m_H_digest) 51 = .ok (.iload 4, 2) := by decide +kernel
theorem k_H_digest_53 : decode (mtC m_H_digest) 53 = .ok (.i2l, 1) := by decide +kernel
theorem k_H_digest_54 : decode (mtC m_H_digest) 54 = .ok (.ladd, 1) := by decide +kernel
theorem k_H_digest_55 : decode (mtC m_H_digest) 55 = .ok (.lstore_n 1, 1) := by decide +kernel
theorem k_H_digest_56 : decode (mtC m_H_digest) 56 = .ok (.iconst 0, 1) := by decide +kernel
theorem k_H_digest_57 : decode (mtC m_H_digest) 57 = .ok (.istore 5, 2) := by decide +kernel
theorem k_H_digest_59 : decode (mtC m_H_digest) 59 = .ok (.iload 5, 2) := by decide +kernel
theorem k_H_digest_61 : decode (mtC m_H_digest) 61 = .ok (.iload 4, 2) := by decide +kernel
theorem k_H_digest_63 : decode (mtC m_H_digest) 63 = .ok (.if_icmp .ge 24, 3) := by decide +kernel
theorem k_H_digest_66 : decode (mtC m_H_digest) 66 = .ok (.lload_n 1, 1) := by decide +kernel
theorem k_H_digest_67 : decode (mtC m_H_digest) 67 = .ok (.ldc2_w 189, 3) := by decide +kernel
theorem k_H_digest_70 : decode (mtC m_H_digest) 70 = .ok (.lmul, 1) := by decide +kernel
theorem k_H_digest_71 : decode (mtC m_H_digest) 71 = .ok (.aload_n 0, 1) := by decide +kernel
theorem k_H_digest_72 : decode (mtC m_H_digest) 72 = .ok (.iload_n 3, 1) := by decide +kernel
theorem k_H_digest_73 : decode (mtC m_H_digest) 73 = .ok (.iload 5, 2) := by decide +kernel
theorem k_H_digest_75 : decode (mtC m_H_digest) 75 = .ok (.invokevirtual 197, 3) := by decide +kernel
theorem k_H_digest_78 : decode (mtC m_H_digest) 78 = .ok (.i2l, 1) := by decide +kernel
theorem k_H_digest_79 : decode (mtC m_H_digest) 79 = .ok (.ladd, 1) := by decide +kernel
theorem k_H_digest_80 : decode (mtC m_H_digest) 80 = .ok (.lstore_n 1, 1) := by decide +kernel
theorem k_H_digest_81 : decode (mtC m_H_digest) 81 = .ok (.iinc 5 1, 3) := by decide +kernel
theorem k_H_digest_84 : decode (mtC m_H_digest) 84 = .ok (.goto (-25), 3) := by decide +kernel
theorem k_H_digest_87 : decode (mtC m_H_digest) 87 = .ok (.iinc 3 1, 3) := by decide +kernel
theorem k_H_digest_90 : decode (mtC m_H_digest) 90 = .ok (.goto (-57), 3) := by decide +kernel
theorem k_H_digest_93 : decode (mtC m_H_digest) 93 = .ok (.iconst 0, 1) := by decide +kernel
theorem k_H_digest_94 : decode (mtC m_H_digest) 94 = .ok (.istore_n 3, 1) := by decide +kernel
theorem k_H_digest_95 : decode (mtC m_H_digest) 95 = .ok (.iload_n 3, 1) := by decide +kernel
theorem k_H_digest_96 : decode (mtC m_H_digest) 96 = .ok (.iconst 5, 1) := by decide +kernel
theorem k_H_digest_97 : decode (mtC m_H_digest) 97 = .ok (.if_icmp .ge 53, 3) := by decide +kernel
theorem k_H_digest_100 : decode (mtC m_H_digest) 100 = .ok (.iconst 0, 1) := by decide +kernel
theorem k_H_digest_101 : decode (mtC m_H_digest) 101 = .ok (.istore 4, 2) := by decide +kernel
theorem k_H_digest_103 : decode (mtC m_H_digest) 103 = .ok (.iload 4, 2) := by decide +kernel
theorem k_H_digest_105 : decode (mtC m_H_digest) 105 = .ok (.bipush 10, 2) := by decide +kernel
theorem k_H_digest_107 : decode (mtC m_H_digest) 107 = .ok (.if_icmp .ge 24, 3) := by decide +kernel
theorem k_H_digest_110 : decode (mtC m_H_digest) 110 = .ok (.lload_n 1, 1) := by decide +kernel
theorem k_H_digest_111 : decode (mtC m_H_digest) 111 = .ok (.ldc2_w 189, 3) := by decide +kernel
theorem k_H_digest_114 : decode (mtC m_H_digest) 114 = .ok (.lmul, 1) := by decide +kernel
theorem k_H_digest_115 : decode (mtC m_H_digest) 115 = .ok (.aload_n 0, 1) := by decide +kernel
theorem k_H_digest_116 : decode (mtC m_H_digest) 116 = .ok (.iload_n 3, 1) := by decide +kernel
theorem k_H_digest_117 : decode (mtC m_H_digest) 117 = .ok (.iload 4, 2) := by decide +kernel
theorem k_H_digest_119 : decode (mtC m_H_digest) 119 = .ok (.invokevirtual 200, 3) := by decide +kernel
theorem k_H_digest_122 : decode (mtC m_H_digest) 122 = .ok (.i2l, 1) := by decide +kernel
theorem k_H_digest_123 : decode (mtC m_H_digest) 123 = .ok (.ladd, 1) := by decide +kernel
theorem k_H_digest_124 : decode (mtC m_H_digest) 124 = .ok (.lstore_n 1, 1) := by decide +kernel
theorem k_H_digest_125 : decode (mtC m_H_digest) 125 = .ok (.iinc 4 1, 3) := by decide +kernel
theorem k_H_digest_128 : decode (mtC m_H_digest) 128 = .ok (.goto (-25), 3) := by decide +kernel
theorem k_H_digest_131 : decode (mtC m_H_digest) 131 = .ok (.lload_n 1, 1) := by decide +kernel
theorem k_H_digest_132 : decode (mtC m_H_digest) 132 = .ok (.ldc2_w 189, 3) := by decide +kernel
theorem k_H_digest_135 : decode (mtC m_H_digest) 135 = .ok (.lmul, 1) := by decide +kernel
theorem k_H_digest_136 : decode (mtC m_H_digest) 136 = .ok (.aload_n 0, 1) := by decide +kernel
theorem k_H_digest_137 : decode (mtC m_H_digest) 137 = .ok (.iload_n 3, 1) := by decide +kernel
theorem k_H_digest_138 : decode (mtC m_H_digest) 138 = .ok (.invokevirtual 203, 3) := by decide +kernel
theorem k_H_digest_141 : decode (mtC m_H_digest) 141 = .ok (.i2l, 1) := by decide +kernel
theorem k_H_digest_142 : decode (mtC m_H_digest) 142 = .ok (.ladd, 1) := by decide +kernel
theorem k_H_digest_143 : decode (mtC m_H_digest) 143 = .ok (.lstore_n 1, 1) := by decide +kernel
theorem k_H_digest_144 : decode (mtC m_H_digest) 144 = .ok (.iinc 3 1, 3) := by decide +kernel
theorem k_H_digest_147 : decode (mtC m_H_digest) 147 = .ok (.goto (-52), 3) := by decide +kernel
theorem k_H_digest_150 : decode (mtC m_H_digest) 150 = .ok (.lload_n 1, 1) := by decide +kernel
theorem k_H_digest_151 : decode (mtC m_H_digest) 151 = .ok (.ldc2_w 189, 3) := by decide +kernel
theorem k_H_digest_154 : decode (mtC m_H_digest) 154 = .ok (.lmul, 1) := by decide +kernel
theorem k_H_digest_155 : decode (mtC m_H_digest) 155 = .ok (.aload_n 0, 1) := by decide +kernel
theorem k_H_digest_156 : decode (mtC m_H_digest) 156 = .ok (.invokevirtual 206, 3) := by decide +kernel
theorem k_H_digest_159 : decode (mtC m_H_digest) 159 = .ok (.ifCond .eq 7, 3) := by decide +kernel
theorem k_H_digest_162 : decode (mtC m_H_digest) 162 = .ok (.iconst 1, 1) := by decide +kernel
theorem k_H_digest_163 : decode (mtC m_H_digest) 163 = .ok (.goto 4, 3) := by decide +kernel
theorem k_H_digest_166 : decode (mtC m_H_digest) 166 = .ok (.iconst 0, 1) := by decide +kernel
theorem k_H_digest_167 : decode (mtC m_H_digest) 167 = .ok (.i2l, 1) := by decide +kernel
theorem k_H_digest_168 : decode (mtC m_H_digest) 168 = .ok (.ladd, 1) := by decide +kernel
theorem k_H_digest_169 : decode (mtC m_H_digest) 169 = .ok (.lreturn, 1) := by decide +kernel
set_option maxHeartbeats 4000000 in
set_option maxRecDepth 100000 in
theorem T_H_digest_0 {d : Nat}  {M : AMem} {Q : Option AV → AMem → Prop}  (h : RunQ (d + 1) m_H_digest 6 [some (vR 3 0), some (vL 7980), none, some (vI 0), none, none] [] M Q) : RunQ (d + 1) m_H_digest 0 [some (vR 3 0), none, none, none, none, none] [] M Q := by
  refine q_ldc2_w 0 k_H_digest_0 (z := 7980) rfl ?_
  refine q_lstore_n 3 k_H_digest_3 (ls' := [some (vR 3 0), some (vL 7980), none, none, none, none]) rfl rfl rfl ?_
  refine q_iconst 4 k_H_digest_4 ?_
  refine q_istore_n 5 k_H_digest_5 (ls' := [some (vR 3 0), some (vL 7980), none, some (vI 0), none, none]) rfl rfl ?_
  exact h
set_option maxHeartbeats 4000000 in
set_option maxRecDepth 100000 in
theorem T_H_digest_6 {d : Nat} {x1 : Int} {x3 : Int} {M : AMem} {Q : Option AV → AMem → Prop}  (h : ((6 ≤ wI x3) → RunQ (d + 1) m_H_digest 33 [some (vR 3 0), some (vL x1), none, some (vI 0), none, none] [] M Q) ∧ (¬ (6 ≤ wI x3) → CallI d m_H_house [vR 3 0, vI x3] M (fun y2 M1 => RunQ (d + 1) m_H_digest 6 [some (vR 3 0), some (vL ((x1 * 31) + (wI y2))), none, some (vI (x3 + 1)), none, none] [] M1 Q))) : RunQ (d + 1) m_H_digest 6 [some (vR 3 0), some (vL x1), none, some (vI x3), none, none] [] M Q := by
  refine q_iload_n 6 k_H_digest_6 rfl ?_
  refine q_bipush 7 k_H_digest_7 (by decide) ?_
  refine q_icmp_ge 9 31 k_H_digest_9 rfl rfl (fun c9 => ?_) (fun c9 => ?_)
  · have ht := h.1 c9
    refine q_iconst 31 k_H_digest_31 ?_
    refine q_istore_n 32 k_H_digest_32 (ls' := [some (vR 3 0), some (vL x1), none, some (vI 0), none, none]) rfl rfl ?_
    exact ht
  · have hf := h.2 c9
    refine q_lload_n 12 k_H_digest_12 rfl ?_
    refine q_ldc2_w 13 k_H_digest_13 (z := 31) rfl ?_
    refine q_lmul 16 k_H_digest_16 ?_
    refine q_aload_n 17 k_H_digest_17 rfl ?_
    refine q_iload_n 18 k_H_digest_18 rfl ?_
    refine q_vI 19 [vI x3] [vL (x1 * 31)] k_H_digest_19 lk_3_191 rfl rfl rfl rfl rfl rfl rfl rfl (CallI.mono (fun y2 M1 h3 => ?_) hf)
    refine q_i2l 22 k_H_digest_22 ?_
    refine q_ladd 23 k_H_digest_23 ?_
    refine q_lstore_n 24 k_H_digest_24 (ls' := [some (vR 3 0), some (vL ((x1 * 31) + (wI y2))), none, some (vI x3), none, none]) rfl rfl rfl ?_
    refine q_iinc 25 k_H_digest_25 (ls' := [some (vR 3 0), some (vL ((x1 * 31) + (wI y2))), none, some (vI (x3 + 1)), none, none]) rfl rfl rfl ?_
    refine q_goto 28 6 k_H_digest_28 rfl rfl ?_
    exact h3
set_option maxHeartbeats 4000000 in
set_option maxRecDepth 100000 in
theorem T_H_digest_33 {d : Nat} {x1 : Int} {x3 : Int} {M : AMem} {Q : Option AV → AMem → Prop}  (h : ((6 ≤ wI x3) → RunQ (d + 1) m_H_digest 95 [some (vR 3 0), some (vL x1), none, some (vI 0), none, none] [] M Q) ∧ (¬ (6 ≤ wI x3) → CallI d m_H_rowSize [vR 3 0, vI x3] M (fun y2 M1 => RunQ (d + 1) m_H_digest 59 [some (vR 3 0), some (vL ((x1 * 31) + (wI y2))), none, some (vI x3), some (vI y2), some (vI 0)] [] M1 Q))) : RunQ (d + 1) m_H_digest 33 [some (vR 3 0), some (vL x1), none, some (vI x3), none, none] [] M Q := by
  refine q_iload_n 33 k_H_digest_33 rfl ?_
  refine q_bipush 34 k_H_digest_34 (by decide) ?_
  refine q_icmp_ge 36 93 k_H_digest_36 rfl rfl (fun c36 => ?_) (fun c36 => ?_)
  · have ht := h.1 c36
    refine q_iconst 93 k_H_digest_93 ?_
    refine q_istore_n 94 k_H_digest_94 (ls' := [some (vR 3 0), some (vL x1), none, some (vI 0), none, none]) rfl rfl ?_
    exact ht
  · have hf := h.2 c36
    refine q_aload_n 39 k_H_digest_39 rfl ?_
    refine q_iload_n 40 k_H_digest_40 rfl ?_
    refine q_vI 41 [vI x3] [] k_H_digest_41 lk_3_194 rfl rfl rfl rfl rfl rfl rfl rfl (CallI.mono (fun y2 M1 h3 => ?_) hf)
    refine q_istore 44 k_H_digest_44 (ls' := [some (vR 3 0), some (vL x1), none, some (vI x3), some (vI y2), none]) rfl rfl ?_
    refine q_lload_n 46 k_H_digest_46 rfl ?_
    refine q_ldc2_w 47 k_H_digest_47 (z := 31) rfl ?_
    refine q_lmul 50 k_H_digest_50 ?_
    refine q_iload 51 k_H_digest_51 rfl ?_
    refine q_i2l 53 k_H_digest_53 ?_
    refine q_ladd 54 k_H_digest_54 ?_
    refine q_lstore_n 55 k_H_digest_55 (ls' := [some (vR 3 0), some (vL ((x1 * 31) + (wI y2))), none, some (vI x3), some (vI y2), none]) rfl rfl rfl ?_
    refine q_iconst 56 k_H_digest_56 ?_
    refine q_istore 57 k_H_digest_57 (ls' := [some (vR 3 0), some (vL ((x1 * 31) + (wI y2))), none, some (vI x3), some (vI y2), some (vI 0)]) rfl rfl ?_
    exact h3
set_option maxHeartbeats 4000000 in
set_option maxRecDepth 100000 in
theorem T_H_digest_95 {d : Nat} {x1 : Int} {x3 : Int} {M : AMem} {Q : Option AV → AMem → Prop}  (h : ((5 ≤ wI x3) → CallI d m_H_isSound [vR 3 0] M (fun y2 M1 => ((wI y2 = 0) → Q (some (vL ((x1 * 31) + (0)))) M1) ∧ (¬ (wI y2 = 0) → Q (some (vL ((x1 * 31) + (1)))) M1))) ∧ (¬ (5 ≤ wI x3) → RunQ (d + 1) m_H_digest 103 [some (vR 3 0), some (vL x1), none, some (vI x3), some (vI 0), none] [] M Q)) : RunQ (d + 1) m_H_digest 95 [some (vR 3 0), some (vL x1), none, some (vI x3), none, none] [] M Q := by
  refine q_iload_n 95 k_H_digest_95 rfl ?_
  refine q_iconst 96 k_H_digest_96 ?_
  refine q_icmp_ge 97 150 k_H_digest_97 rfl rfl (fun c97 => ?_) (fun c97 => ?_)
  · have ht := h.1 c97
    refine q_lload_n 150 k_H_digest_150 rfl ?_
    refine q_ldc2_w 151 k_H_digest_151 (z := 31) rfl ?_
    refine q_lmul 154 k_H_digest_154 ?_
    refine q_aload_n 155 k_H_digest_155 rfl ?_
    refine q_vI 156 [] [vL (x1 * 31)] k_H_digest_156 lk_3_206 rfl rfl rfl rfl rfl rfl rfl rfl (CallI.mono (fun y2 M1 h3 => ?_) ht)
    refine q_if_eq 159 166 k_H_digest_159 rfl rfl (fun c159 => ?_) (fun c159 => ?_)
    · have h3t := h3.1 c159
      refine q_iconst 166 k_H_digest_166 ?_
      refine q_i2l 167 k_H_digest_167 ?_
      refine q_ladd 168 k_H_digest_168 ?_
      exact q_lret 169 k_H_digest_169 rfl h3t
    · have h3f := h3.2 c159
      refine q_iconst 162 k_H_digest_162 ?_
      refine q_goto 163 167 k_H_digest_163 rfl rfl ?_
      refine q_i2l 167 k_H_digest_167 ?_
      refine q_ladd 168 k_H_digest_168 ?_
      exact q_lret 169 k_H_digest_169 rfl h3f
  · have hf := h.2 c97
    refine q_iconst 100 k_H_digest_100 ?_
    refine q_istore 101 k_H_digest_101 (ls' := [some (vR 3 0), some (vL x1), none, some (vI x3), some (vI 0), none]) rfl rfl ?_
    exact hf
set_option maxHeartbeats 4000000 in
set_option maxRecDepth 100000 in
theorem T_H_digest_59 {d : Nat} {x1 : Int} {x3 : Int} {x4 : Int} {x5 : Int} {M : AMem} {Q : Option AV → AMem → Prop}  (h : ((wI x4 ≤ wI x5) → RunQ (d + 1) m_H_digest 33 [some (vR 3 0), some (vL x1), none, some (vI (x3 + 1)), some (vI x4), some (vI x5)] [] M Q) ∧ (¬ (wI x4 ≤ wI x5) → CallI d m_H_rowAt [vR 3 0, vI x3, vI x5] M (fun y2 M1 => RunQ (d + 1) m_H_digest 59 [some (vR 3 0), some (vL ((x1 * 31) + (wI y2))), none, some (vI x3), some (vI x4), some (vI (x5 + 1))] [] M1 Q))) : RunQ (d + 1) m_H_digest 59 [some (vR 3 0), some (vL x1), none, some (vI x3), some (vI x4), some (vI x5)] [] M Q := by
  refine q_iload 59 k_H_digest_59 rfl ?_
  refine q_iload 61 k_H_digest_61 rfl ?_
  refine q_icmp_ge 63 87 k_H_digest_63 rfl rfl (fun c63 => ?_) (fun c63 => ?_)
  · have ht := h.1 c63
    refine q_iinc 87 k_H_digest_87 (ls' := [some (vR 3 0), some (vL x1), none, some (vI (x3 + 1)), some (vI x4), some (vI x5)]) rfl rfl rfl ?_
    refine q_goto 90 33 k_H_digest_90 rfl rfl ?_
    exact ht
  · have hf := h.2 c63
    refine q_lload_n 66 k_H_digest_66 rfl ?_
    refine q_ldc2_w 67 k_H_digest_67 (z := 31) rfl ?_
    refine q_lmul 70 k_H_digest_70 ?_
    refine q_aload_n 71 k_H_digest_71 rfl ?_
    refine q_iload_n 72 k_H_digest_72 rfl ?_
    refine q_iload 73 k_H_digest_73 rfl ?_
    refine q_vI 75 [vI x3, vI x5] [vL (x1 * 31)] k_H_digest_75 lk_3_197 rfl rfl rfl rfl rfl rfl rfl rfl (CallI.mono (fun y2 M1 h3 => ?_) hf)
    refine q_i2l 78 k_H_digest_78 ?_
    refine q_ladd 79 k_H_digest_79 ?_
    refine q_lstore_n 80 k_H_digest_80 (ls' := [some (vR 3 0), some (vL ((x1 * 31) + (wI y2))), none, some (vI x3), some (vI x4), some (vI x5)]) rfl rfl rfl ?_
    refine q_iinc 81 k_H_digest_81 (ls' := [some (vR 3 0), some (vL ((x1 * 31) + (wI y2))), none, some (vI x3), some (vI x4), some (vI (x5 + 1))]) rfl rfl rfl ?_
    refine q_goto 84 59 k_H_digest_84 rfl rfl ?_
    exact h3
set_option maxHeartbeats 4000000 in
set_option maxRecDepth 100000 in
theorem T_H_digest_103 {d : Nat} {x1 : Int} {x3 : Int} {x4 : Int} {M : AMem} {Q : Option AV → AMem → Prop}  (h : ((10 ≤ wI x4) → CallI d m_H_peek [vR 3 0, vI x3] M (fun y2 M1 => RunQ (d + 1) m_H_digest 95 [some (vR 3 0), some (vL ((x1 * 31) + (wI y2))), none, some (vI (x3 + 1)), some (vI x4), none] [] M1 Q)) ∧ (¬ (10 ≤ wI x4) → CallI d m_H_ofWell [vR 3 0, vI x3, vI x4] M (fun y4 M3 => RunQ (d + 1) m_H_digest 103 [some (vR 3 0), some (vL ((x1 * 31) + (wI y4))), none, some (vI x3), some (vI (x4 + 1)), none] [] M3 Q))) : RunQ (d + 1) m_H_digest 103 [some (vR 3 0), some (vL x1), none, some (vI x3), some (vI x4), none] [] M Q := by
  refine q_iload 103 k_H_digest_103 rfl ?_
  refine q_bipush 105 k_H_digest_105 (by decide) ?_
  refine q_icmp_ge 107 131 k_H_digest_107 rfl rfl (fun c107 => ?_) (fun c107 => ?_)
  · have ht := h.1 c107
    refine q_lload_n 131 k_H_digest_131 rfl ?_
    refine q_ldc2_w 132 k_H_digest_132 (z := 31) rfl ?_
    refine q_lmul 135 k_H_digest_135 ?_
    refine q_aload_n 136 k_H_digest_136 rfl ?_
    refine q_iload_n 137 k_H_digest_137 rfl ?_
    refine q_vI 138 [vI x3] [vL (x1 * 31)] k_H_digest_138 lk_3_203 rfl rfl rfl rfl rfl rfl rfl rfl (CallI.mono (fun y2 M1 h5 => ?_) ht)
    refine q_i2l 141 k_H_digest_141 ?_
    refine q_ladd 142 k_H_digest_142 ?_
    refine q_lstore_n 143 k_H_digest_143 (ls' := [some (vR 3 0), some (vL ((x1 * 31) + (wI y2))), none, some (vI x3), some (vI x4), none]) rfl rfl rfl ?_
    refine q_iinc 144 k_H_digest_144 (ls' := [some (vR 3 0), some (vL ((x1 * 31) + (wI y2))), none, some (vI (x3 + 1)), some (vI x4), none]) rfl rfl rfl ?_
    refine q_goto 147 95 k_H_digest_147 rfl rfl ?_
    exact h5
  · have hf := h.2 c107
    refine q_lload_n 110 k_H_digest_110 rfl ?_
    refine q_ldc2_w 111 k_H_digest_111 (z := 31) rfl ?_
    refine q_lmul 114 k_H_digest_114 ?_
    refine q_aload_n 115 k_H_digest_115 rfl ?_
    refine q_iload_n 116 k_H_digest_116 rfl ?_
    refine q_iload 117 k_H_digest_117 rfl ?_
    refine q_vI 119 [vI x3, vI x4] [vL (x1 * 31)] k_H_digest_119 lk_3_200 rfl rfl rfl rfl rfl rfl rfl rfl (CallI.mono (fun y4 M3 h6 => ?_) hf)
    refine q_i2l 122 k_H_digest_122 ?_
    refine q_ladd 123 k_H_digest_123 ?_
    refine q_lstore_n 124 k_H_digest_124 (ls' := [some (vR 3 0), some (vL ((x1 * 31) + (wI y4))), none, some (vI x3), some (vI x4), none]) rfl rfl rfl ?_
    refine q_iinc 125 k_H_digest_125 (ls' := [some (vR 3 0), some (vL ((x1 * 31) + (wI y4))), none, some (vI x3), some (vI (x4 + 1)), none]) rfl rfl rfl ?_
    refine q_goto 128 103 k_H_digest_128 rfl rfl ?_
    exact h6
theorem k_H_findRow_0 : decode (mtC m_H_findRow) 0 = .ok (.iload_n 1, 1) := by decide +kernel
theorem k_H_findRow_1 : decode (mtC m_H_findRow) 1 = .ok (.ifCond .lt 12, 3) := by decide +kernel
theorem k_H_findRow_4 : decode (mtC m_H_findRow) 4 = .ok (.iload_n 1, 1) := by decide +kernel
theorem k_H_findRow_5 : decode (mtC m_H_findRow) 5 = .ok (.aload_n 0, 1) := by decide +kernel
theorem k_H_findRow_6 : decode (mtC m_H_findRow) 6 = .ok (.getfield 11, 3) := by decide +kernel
theorem k_H_findRow_9 : decode (mtC m_H_findRow) 9 = .ok (.arraylength, 1) := by decide +kernel
theorem k_H_findRow_10 : decode (mtC m_H_findRow) 10 = .ok (.if_icmp .lt 13, 3) := by decide +kernel
theorem k_H_findRow_13 : decode (mtC m_H_findRow) 13 = .ok (.new 209, 3) := by decide +kernel
theorem k_H_findRow_16 : decode (mtC m_H_findRow) 16 = .ok (.dup, 1) := by decide +kernel
theorem k_H_findRow_17 : decode (mtC m_H_findRow) 17 = .ok (.ldc 211, 2) := by decide +kernel
theorem k_H_findRow_19 : decode (mtC m_H_findRow) 19 = .ok (.invokespecial 213, 3) := by decide +kernel
theorem k_H_findRow_22 : decode (mtC m_H_findRow) 22 = .ok (.athrow, 1) := by decide +kernel
theorem k_H_findRow_23 : decode (mtC m_H_findRow) 23 = .ok (.aload_n 0, 1) := by decide +kernel
theorem k_H_findRow_24 : decode (mtC m_H_findRow) 24 = .ok (.getfield 11, 3) := by decide +kernel
theorem k_H_findRow_27 : decode (mtC m_H_findRow) 27 = .ok (.iload_n 1, 1) := by decide +kernel
theorem k_H_findRow_28 : decode (mtC m_H_findRow) 28 = .ok (.aaload, 1) := by decide +kernel
theorem k_H_findRow_29 : decode (mtC m_H_findRow) 29 = .ok (.areturn, 1) := by decide +kernel
set_option maxHeartbeats 4000000 in
set_option maxRecDepth 100000 in
theorem T_H_findRow_0 {d : Nat} {x1 : Int} {M : AMem} {Q : Option AV → AMem → Prop}  (h : ((wI x1 < 0) → False) ∧ (¬ (wI x1 < 0) → ((wI x1 < 6) → (0 ≤ wI x1 ∧ wI x1 < (6 : Nat)) ∧ (Q (some (vR 1 (42 + (wI x1).toNat))) M)) ∧ (¬ (wI x1 < 6) → False))) : RunQ d m_H_findRow 0 [some (vR 3 0), some (vI x1)] [] M Q := by
  refine q_iload_n 0 k_H_findRow_0 rfl ?_
  refine q_if_lt 1 13 k_H_findRow_1 rfl rfl (fun c1 => ?_) (fun c1 => ?_)
  · have ht := h.1 c1
    exact ht.elim
  · have hf := h.2 c1
    refine q_iload_n 4 k_H_findRow_4 rfl ?_
    refine q_aload_n 5 k_H_findRow_5 rfl ?_
    refine q_getfield 6 k_H_findRow_6 fk_3_11 rfl (v := vR 7 0) rfl ?_
    refine q_alen 9 k_H_findRow_9 rfl rfl (z := 6) rfl ?_
    refine q_icmp_lt 10 23 k_H_findRow_10 rfl rfl (fun c10 => ?_) (fun c10 => ?_)
    · have hft := hf.1 c10
      refine q_aload_n 23 k_H_findRow_23 rfl ?_
      refine q_getfield 24 k_H_findRow_24 fk_3_11 rfl (v := vR 7 0) rfl ?_
      refine q_iload_n 27 k_H_findRow_27 rfl ?_
      have hb1 := hft.1
      refine q_aaload 28 k_H_findRow_28 rfl (n := 6) rfl hb1 (kd := 1) (x := (42 + (wI x1).toNat)) rfl ?_
      have hft' := hft.2
      exact q_aret 29 k_H_findRow_29 (by first | exact Or.inl rfl | exact Or.inr rfl) hft'
    · have hff := hf.2 c10
      exact hff.elim
theorem k_H_findWell_0 : decode (mtC m_H_findWell) 0 = .ok (.iload_n 1, 1) := by decide +kernel
theorem k_H_findWell_1 : decode (mtC m_H_findWell) 1 = .ok (.ifCond .lt 12, 3) := by decide +kernel
theorem k_H_findWell_4 : decode (mtC m_H_findWell) 4 = .ok (.iload_n 1, 1) := by decide +kernel
theorem k_H_findWell_5 : decode (mtC m_H_findWell) 5 = .ok (.aload_n 0, 1) := by decide +kernel
theorem k_H_findWell_6 : decode (mtC m_H_findWell) 6 = .ok (.getfield 22, 3) := by decide +kernel
theorem k_H_findWell_9 : decode (mtC m_H_findWell) 9 = .ok (.arraylength, 1) := by decide +kernel
theorem k_H_findWell_10 : decode (mtC m_H_findWell) 10 = .ok (.if_icmp .lt 13, 3) := by decide +kernel
theorem k_H_findWell_13 : decode (mtC m_H_findWell) 13 = .ok (.new 209, 3) := by decide +kernel
theorem k_H_findWell_16 : decode (mtC m_H_findWell) 16 = .ok (.dup, 1) := by decide +kernel
theorem k_H_findWell_17 : decode (mtC m_H_findWell) 17 = .ok (.ldc 216, 2) := by decide +kernel
theorem k_H_findWell_19 : decode (mtC m_H_findWell) 19 = .ok (.invokespecial 213, 3) := by decide +kernel
theorem k_H_findWell_22 : decode (mtC m_H_findWell) 22 = .ok (.athrow, 1) := by decide +kernel
theorem k_H_findWell_23 : decode (mtC m_H_findWell) 23 = .ok (.aload_n 0, 1) := by decide +kernel
theorem k_H_findWell_24 : decode (mtC m_H_findWell) 24 = .ok (.getfield 22, 3) := by decide +kernel
theorem k_H_findWell_27 : decode (mtC m_H_findWell) 27 = .ok (.iload_n 1, 1) := by decide +kernel
theorem k_H_findWell_28 : decode (mtC m_H_findWell) 28 = .ok (.aaload, 1) := by decide +kernel
theorem k_H_findWell_29 : decode (mtC m_H_findWell) 29 = .ok (.areturn, 1) := by decide +kernel
set_option maxHeartbeats 4000000 in
set_option maxRecDepth 100000 in
theorem T_H_findWell_0 {d : Nat} {x1 : Int} {M : AMem} {Q : Option AV → AMem → Prop}  (h : ((wI x1 < 0) → False) ∧ (¬ (wI x1 < 0) → ((wI x1 < 5) → (0 ≤ wI x1 ∧ wI x1 < (5 : Nat)) ∧ (Q (some (vR 2 ((wI x1).toNat))) M)) ∧ (¬ (wI x1 < 5) → False))) : RunQ d m_H_findWell 0 [some (vR 3 0), some (vI x1)] [] M Q := by
  refine q_iload_n 0 k_H_findWell_0 rfl ?_
  refine q_if_lt 1 13 k_H_findWell_1 rfl rfl (fun c1 => ?_) (fun c1 => ?_)
  · have ht := h.1 c1
    exact ht.elim
  · have hf := h.2 c1
    refine q_iload_n 4 k_H_findWell_4 rfl ?_
    refine q_aload_n 5 k_H_findWell_5 rfl ?_
    refine q_getfield 6 k_H_findWell_6 fk_3_22 rfl (v := vR 8 0) rfl ?_
    refine q_alen 9 k_H_findWell_9 rfl rfl (z := 5) rfl ?_
    refine q_icmp_lt 10 23 k_H_findWell_10 rfl rfl (fun c10 => ?_) (fun c10 => ?_)
    · have hft := hf.1 c10
      refine q_aload_n 23 k_H_findWell_23 rfl ?_
      refine q_getfield 24 k_H_findWell_24 fk_3_22 rfl (v := vR 8 0) rfl ?_
      refine q_iload_n 27 k_H_findWell_27 rfl ?_
      have hb1 := hft.1
      refine q_aaload 28 k_H_findWell_28 rfl (n := 5) rfl hb1 (kd := 2) (x := (wI x1).toNat) rfl ?_
      have hft' := hft.2
      exact q_aret 29 k_H_findWell_29 (by first | exact Or.inl rfl | exact Or.inr rfl) hft'
    · have hff := hf.2 c10
      exact hff.elim
theorem k_H_requirePlace_0 : decode (mtC m_H_requirePlace) 0 = .ok (.iload_n 0, 1) := by decide +kernel
theorem k_H_requirePlace_1 : decode (mtC m_H_requirePlace) 1 = .ok (.ifCond .lt 8, 3) := by decide +kernel
theorem k_H_requirePlace_4 : decode (mtC m_H_requirePlace) 4 = .ok (.iload_n 0, 1) := by decide +kernel
theorem k_H_requirePlace_5 : decode (mtC m_H_requirePlace) 5 = .ok (.iload_n 1, 1) := by decide +kernel
theorem k_H_requirePlace_6 : decode (mtC m_H_requirePlace) 6 = .ok (.if_icmp .lt 13, 3) := by decide +kernel
theorem k_H_requirePlace_9 : decode (mtC m_H_requirePlace) 9 = .ok (.new 209, 3) := by decide +kernel
theorem k_H_requirePlace_12 : decode (mtC m_H_requirePlace) 12 = .ok (.dup, 1) := by decide +kernel
theorem k_H_requirePlace_13 : decode (mtC m_H_requirePlace) 13 = .ok (.ldc 218, 2) := by decide +kernel
theorem k_H_requirePlace_15 : decode (mtC m_H_requirePlace) 15 = .ok (.invokespecial 213, 3) := by decide +kernel
theorem k_H_requirePlace_18 : decode (mtC m_H_requirePlace) 18 = .ok (.athrow, 1) := by decide +kernel
theorem k_H_requirePlace_19 : decode (mtC m_H_requirePlace) 19 = .ok (.return_, 1) := by decide +kernel
set_option maxHeartbeats 4000000 in
set_option maxRecDepth 100000 in
theorem T_H_requirePlace_0 {d : Nat} {x0 : Int} {x1 : Int} {M : AMem} {Q : Option AV → AMem → Prop}  (h : ((wI x0 < 0) → False) ∧ (¬ (wI x0 < 0) → ((wI x0 < wI x1) → Q none M) ∧ (¬ (wI x0 < wI x1) → False))) : RunQ d m_H_requirePlace 0 [some (vI x0), some (vI x1)] [] M Q := by
  refine q_iload_n 0 k_H_requirePlace_0 rfl ?_
  refine q_if_lt 1 9 k_H_requirePlace_1 rfl rfl (fun c1 => ?_) (fun c1 => ?_)
  · have ht := h.1 c1
    exact ht.elim
  · have hf := h.2 c1
    refine q_iload_n 4 k_H_requirePlace_4 rfl ?_
    refine q_iload_n 5 k_H_requirePlace_5 rfl ?_
    refine q_icmp_lt 6 19 k_H_requirePlace_6 rfl rfl (fun c6 => ?_) (fun c6 => ?_)
    · have hft := hf.1 c6
      exact q_vret 19 k_H_requirePlace_19 rfl hft
    · have hff := hf.2 c6
      exact hff.elim
theorem k_H_requireWithin_0 : decode (mtC m_H_requireWithin) 0 = .ok (.iload_n 0, 1) := by decide +kernel
theorem k_H_requireWithin_1 : decode (mtC m_H_requireWithin) 1 = .ok (.iload_n 1, 1) := by decide +kernel
theorem k_H_requireWithin_2 : decode (mtC m_H_requireWithin) 2 = .ok (.if_icmp .lt 8, 3) := by decide +kernel
theorem k_H_requireWithin_5 : decode (mtC m_H_requireWithin) 5 = .ok (.iload_n 0, 1) := by decide +kernel
theorem k_H_requireWithin_6 : decode (mtC m_H_requireWithin) 6 = .ok (.iload_n 2, 1) := by decide +kernel
theorem k_H_requireWithin_7 : decode (mtC m_H_requireWithin) 7 = .ok (.if_icmp .le 13, 3) := by decide +kernel
theorem k_H_requireWithin_10 : decode (mtC m_H_requireWithin) 10 = .ok (.new 220, 3) := by decide +kernel
theorem k_H_requireWithin_13 : decode (mtC m_H_requireWithin) 13 = .ok (.dup, 1) := by decide +kernel
theorem k_H_requireWithin_14 : decode (mtC m_H_requireWithin) 14 = .ok (.ldc 222, 2) := by decide +kernel
theorem k_H_requireWithin_16 : decode (mtC m_H_requireWithin) 16 = .ok (.invokespecial 224, 3) := by decide +kernel
theorem k_H_requireWithin_19 : decode (mtC m_H_requireWithin) 19 = .ok (.athrow, 1) := by decide +kernel
theorem k_H_requireWithin_20 : decode (mtC m_H_requireWithin) 20 = .ok (.return_, 1) := by decide +kernel
set_option maxHeartbeats 4000000 in
set_option maxRecDepth 100000 in
theorem T_H_requireWithin_0 {d : Nat} {x0 : Int} {x1 : Int} {x2 : Int} {M : AMem} {Q : Option AV → AMem → Prop}  (h : ((wI x0 < wI x1) → False) ∧ (¬ (wI x0 < wI x1) → ((wI x0 ≤ wI x2) → Q none M) ∧ (¬ (wI x0 ≤ wI x2) → False))) : RunQ d m_H_requireWithin 0 [some (vI x0), some (vI x1), some (vI x2)] [] M Q := by
  refine q_iload_n 0 k_H_requireWithin_0 rfl ?_
  refine q_iload_n 1 k_H_requireWithin_1 rfl ?_
  refine q_icmp_lt 2 10 k_H_requireWithin_2 rfl rfl (fun c2 => ?_) (fun c2 => ?_)
  · have ht := h.1 c2
    exact ht.elim
  · have hf := h.2 c2
    refine q_iload_n 5 k_H_requireWithin_5 rfl ?_
    refine q_iload_n 6 k_H_requireWithin_6 rfl ?_
    refine q_icmp_le 7 20 k_H_requireWithin_7 rfl rfl (fun c7 => ?_) (fun c7 => ?_)
    · have hft := hf.1 c7
      exact q_vret 20 k_H_requireWithin_20 rfl hft
    · have hff := hf.2 c7
      exact hff.elim
theorem k_H_doTrialsTellAlike_0 : decode (mtC m_H_doTrialsTellAlike) 0 = .ok (.iconst 0, 1) := by decide +kernel
theorem k_H_doTrialsTellAlike_1 : decode (mtC m_H_doTrialsTellAlike) 1 = .ok (.istore_n 1, 1) := by decide +kernel
theorem k_H_doTrialsTellAlike_2 : decode (mtC m_H_doTrialsTellAlike) 2 = .ok (.iload_n 1, 1) := by decide +kernel
theorem k_H_doTrialsTellAlike_3 : decode (mtC m_H_doTrialsTellAlike) 3 = .ok (.bipush 8, 2) := by decide +kernel
theorem k_H_doTrialsTellAlike_5 : decode (mtC m_H_doTrialsTellAlike) 5 = .ok (.if_icmp .ge 74, 3) := by decide +kernel
theorem k_H_doTrialsTellAlike_8 : decode (mtC m_H_doTrialsTellAlike) 8 = .ok (.aload_n 0, 1) := by decide +kernel
theorem k_H_doTrialsTellAlike_9 : decode (mtC m_H_doTrialsTellAlike) 9 = .ok (.getfield 27, 3) := by decide +kernel
theorem k_H_doTrialsTellAlike_12 : decode (mtC m_H_doTrialsTellAlike) 12 = .ok (.invokevirtual 101, 3) := by decide +kernel
theorem k_H_doTrialsTellAlike_15 : decode (mtC m_H_doTrialsTellAlike) 15 = .ok (.ifCond .ne 13, 3) := by decide +kernel
theorem k_H_doTrialsTellAlike_18 : decode (mtC m_H_doTrialsTellAlike) 18 = .ok (.aload_n 0, 1) := by decide +kernel
theorem k_H_doTrialsTellAlike_19 : decode (mtC m_H_doTrialsTellAlike) 19 = .ok (.getfield 31, 3) := by decide +kernel
theorem k_H_doTrialsTellAlike_22 : decode (mtC m_H_doTrialsTellAlike) 22 = .ok (.invokevirtual 101, 3) := by decide +kernel
theorem k_H_doTrialsTellAlike_25 : decode (mtC m_H_doTrialsTellAlike) 25 = .ok (.ifCond .eq 29, 3) := by decide +kernel
theorem k_H_doTrialsTellAlike_28 : decode (mtC m_H_doTrialsTellAlike) 28 = .ok (.aload_n 0, 1) := by decide +kernel
theorem k_H_doTrialsTellAlike_29 : decode (mtC m_H_doTrialsTellAlike) 29 = .ok (.getfield 27, 3) := by decide +kernel
theorem k_H_doTrialsTellAlike_32 : decode (mtC m_H_doTrialsTellAlike) 32 = .ok (.invokevirtual 101, 3) := by decide +kernel
theorem k_H_doTrialsTellAlike_35 : decode (mtC m_H_doTrialsTellAlike) 35 = .ok (.ifCond .eq 17, 3) := by decide +kernel
theorem k_H_doTrialsTellAlike_38 : decode (mtC m_H_doTrialsTellAlike) 38 = .ok (.aload_n 0, 1) := by decide +kernel
theorem k_H_doTrialsTellAlike_39 : decode (mtC m_H_doTrialsTellAlike) 39 = .ok (.getfield 31, 3) := by decide +kernel
theorem k_H_doTrialsTellAlike_42 : decode (mtC m_H_doTrialsTellAlike) 42 = .ok (.invokevirtual 101, 3) := by decide +kernel
theorem k_H_doTrialsTellAlike_45 : decode (mtC m_H_doTrialsTellAlike) 45 = .ok (.ifCond .eq 7, 3) := by decide +kernel
theorem k_H_doTrialsTellAlike_48 : decode (mtC m_H_doTrialsTellAlike) 48 = .ok (.iconst 1, 1) := by decide +kernel
theorem k_H_doTrialsTellAlike_49 : decode (mtC m_H_doTrialsTellAlike) 49 = .ok (.goto 4, 3) := by decide +kernel
theorem k_H_doTrialsTellAlike_52 : decode (mtC m_H_doTrialsTellAlike) 52 = .ok (.iconst 0, 1) := by decide +kernel
theorem k_H_doTrialsTellAlike_53 : decode (mtC m_H_doTrialsTellAlike) 53 = .ok (.ireturn, 1) := by decide +kernel
theorem k_H_doTrialsTellAlike_54 : decode (mtC m_H_doTrialsTellAlike) 54 = .ok (.aload_n 0, 1) := by decide +kernel
theorem k_H_doTrialsTellAlike_55 : decode (mtC m_H_doTrialsTellAlike) 55 = .ok (.getfield 27, 3) := by decide +kernel
theorem k_H_doTrialsTellAlike_58 : decode (mtC m_H_doTrialsTellAlike) 58 = .ok (.invokevirtual 105, 3) := by decide +kernel
theorem k_H_doTrialsTellAlike_61 : decode (mtC m_H_doTrialsTellAlike) 61 = .ok (.aload_n 0, 1) := by decide +kernel
theorem k_H_doTrialsTellAlike_62 : decode (mtC m_H_doTrialsTellAlike) 62 = .ok (.getfield 31, 3) := by decide +kernel
theorem k_H_doTrialsTellAlike_65 : decode (mtC m_H_doTrialsTellAlike) 65 = .ok (.invokevirtual 105, 3) := by decide +kernel
theorem k_H_doTrialsTellAlike_68 : decode (mtC m_H_doTrialsTellAlike) 68 = .ok (.if_icmp .eq 5, 3) := by decide +kernel
theorem k_H_doTrialsTellAlike_71 : decode (mtC m_H_doTrialsTellAlike) 71 = .ok (.iconst 0, 1) := by decide +kernel
theorem k_H_doTrialsTellAlike_72 : decode (mtC m_H_doTrialsTellAlike) 72 = .ok (.ireturn, 1) := by decide +kernel
theorem k_H_doTrialsTellAlike_73 : decode (mtC m_H_doTrialsTellAlike) 73 = .ok (.iinc 1 1, 3) := by decide +kernel
theorem k_H_doTrialsTellAlike_76 : decode (mtC m_H_doTrialsTellAlike) 76 = .ok (.goto (-74), 3) := by decide +kernel
theorem k_H_doTrialsTellAlike_79 : decode (mtC m_H_doTrialsTellAlike) 79 = .ok (.iconst 1, 1) := by decide +kernel
theorem k_H_doTrialsTellAlike_80 : decode (mtC m_H_doTrialsTellAlike) 80 = .ok (.ireturn, 1) := by decide +kernel
set_option maxHeartbeats 4000000 in
set_option maxRecDepth 100000 in
theorem T_H_doTrialsTellAlike_0 {d : Nat}  {M : AMem} {Q : Option AV → AMem → Prop}  (h : RunQ (d + 1) m_H_doTrialsTellAlike 2 [some (vR 3 0), some (vI 0)] [] M Q) : RunQ (d + 1) m_H_doTrialsTellAlike 0 [some (vR 3 0), none] [] M Q := by
  refine q_iconst 0 k_H_doTrialsTellAlike_0 ?_
  refine q_istore_n 1 k_H_doTrialsTellAlike_1 (ls' := [some (vR 3 0), some (vI 0)]) rfl rfl ?_
  exact h
set_option maxHeartbeats 4000000 in
set_option maxRecDepth 100000 in
theorem T_H_doTrialsTellAlike_2 {d : Nat} {x1 : Int} {M : AMem} {Q : Option AV → AMem → Prop}  (h : ((8 ≤ wI x1) → Q (some (vI 1)) M) ∧ (¬ (8 ≤ wI x1) → CallI d m_W_isDry [vR 2 5] M (fun y2 M1 => ((¬ wI y2 = 0) → CallI d m_W_isDry [vR 2 5] M1 (fun y4 M3 => ((wI y4 = 0) → Q (some (vI 0)) M3) ∧ (¬ (wI y4 = 0) → CallI d m_W_isDry [vR 2 6] M3 (fun y6 M5 => ((wI y6 = 0) → Q (some (vI 0)) M5) ∧ (¬ (wI y6 = 0) → Q (some (vI 1)) M5))))) ∧ (¬ (¬ wI y2 = 0) → CallI d m_W_isDry [vR 2 6] M1 (fun y8 M7 => ((wI y8 = 0) → CallI d m_W_tell [vR 2 5] M7 (fun y10 M9 => CallI d m_W_tell [vR 2 6] M9 (fun y12 M11 => ((wI y10 = wI y12) → RunQ (d + 1) m_H_doTrialsTellAlike 2 [some (vR 3 0), some (vI (x1 + 1))] [] M11 Q) ∧ (¬ (wI y10 = wI y12) → Q (some (vI 0)) M11)))) ∧ (¬ (wI y8 = 0) → CallI d m_W_isDry [vR 2 5] M7 (fun y14 M13 => ((wI y14 = 0) → Q (some (vI 0)) M13) ∧ (¬ (wI y14 = 0) → CallI d m_W_isDry [vR 2 6] M13 (fun y16 M15 => ((wI y16 = 0) → Q (some (vI 0)) M15) ∧ (¬ (wI y16 = 0) → Q (some (vI 1)) M15)))))))))) : RunQ (d + 1) m_H_doTrialsTellAlike 2 [some (vR 3 0), some (vI x1)] [] M Q := by
  refine q_iload_n 2 k_H_doTrialsTellAlike_2 rfl ?_
  refine q_bipush 3 k_H_doTrialsTellAlike_3 (by decide) ?_
  refine q_icmp_ge 5 79 k_H_doTrialsTellAlike_5 rfl rfl (fun c5 => ?_) (fun c5 => ?_)
  · have ht := h.1 c5
    refine q_iconst 79 k_H_doTrialsTellAlike_79 ?_
    exact q_zret 80 k_H_doTrialsTellAlike_80 rfl (Or.inr rfl) ht
  · have hf := h.2 c5
    refine q_aload_n 8 k_H_doTrialsTellAlike_8 rfl ?_
    refine q_getfield 9 k_H_doTrialsTellAlike_9 fk_3_27 rfl (v := vR 2 5) rfl ?_
    refine q_vI 12 [] [] k_H_doTrialsTellAlike_12 lk_3_101 rfl rfl rfl rfl rfl rfl rfl rfl (CallI.mono (fun y2 M1 h17 => ?_) hf)
    refine q_if_ne 15 28 k_H_doTrialsTellAlike_15 rfl rfl (fun c15 => ?_) (fun c15 => ?_)
    · have h17t := h17.1 c15
      refine q_aload_n 28 k_H_doTrialsTellAlike_28 rfl ?_
      refine q_getfield 29 k_H_doTrialsTellAlike_29 fk_3_27 rfl (v := vR 2 5) rfl ?_
      refine q_vI 32 [] [] k_H_doTrialsTellAlike_32 lk_3_101 rfl rfl rfl rfl rfl rfl rfl rfl (CallI.mono (fun y4 M3 h18 => ?_) h17t)
      refine q_if_eq 35 52 k_H_doTrialsTellAlike_35 rfl rfl (fun c35 => ?_) (fun c35 => ?_)
      · have h18t := h18.1 c35
        refine q_iconst 52 k_H_doTrialsTellAlike_52 ?_
        exact q_zret 53 k_H_doTrialsTellAlike_53 rfl (Or.inl rfl) h18t
      · have h18f := h18.2 c35
        refine q_aload_n 38 k_H_doTrialsTellAlike_38 rfl ?_
        refine q_getfield 39 k_H_doTrialsTellAlike_39 fk_3_31 rfl (v := vR 2 6) rfl ?_
        refine q_vI 42 [] [] k_H_doTrialsTellAlike_42 lk_3_101 rfl rfl rfl rfl rfl rfl rfl rfl (CallI.mono (fun y6 M5 h19 => ?_) h18f)
        refine q_if_eq 45 52 k_H_doTrialsTellAlike_45 rfl rfl (fun c45 => ?_) (fun c45 => ?_)
        · have h19t := h19.1 c45
          refine q_iconst 52 k_H_doTrialsTellAlike_52 ?_
          exact q_zret 53 k_H_doTrialsTellAlike_53 rfl (Or.inl rfl) h19t
        · have h19f := h19.2 c45
          refine q_iconst 48 k_H_doTrialsTellAlike_48 ?_
          refine q_goto 49 53 k_H_doTrialsTellAlike_49 rfl rfl ?_
          exact q_zret 53 k_H_doTrialsTellAlike_53 rfl (Or.inr rfl) h19f
    · have h17f := h17.2 c15
      refine q_aload_n 18 k_H_doTrialsTellAlike_18 rfl ?_
      refine q_getfield 19 k_H_doTrialsTellAlike_19 fk_3_31 rfl (v := vR 2 6) rfl ?_
      refine q_vI 22 [] [] k_H_doTrialsTellAlike_22 lk_3_101 rfl rfl rfl rfl rfl rfl rfl rfl (CallI.mono (fun y8 M7 h20 => ?_) h17f)
      refine q_if_eq 25 54 k_H_doTrialsTellAlike_25 rfl rfl (fun c25 => ?_) (fun c25 => ?_)
      · have h20t := h20.1 c25
        refine q_aload_n 54 k_H_doTrialsTellAlike_54 rfl ?_
        refine q_getfield 55 k_H_doTrialsTellAlike_55 fk_3_27 rfl (v := vR 2 5) rfl ?_
        refine q_vI 58 [] [] k_H_doTrialsTellAlike_58 lk_3_105 rfl rfl rfl rfl rfl rfl rfl rfl (CallI.mono (fun y10 M9 h21 => ?_) h20t)
        refine q_aload_n 61 k_H_doTrialsTellAlike_61 rfl ?_
        refine q_getfield 62 k_H_doTrialsTellAlike_62 fk_3_31 rfl (v := vR 2 6) rfl ?_
        refine q_vI 65 [] [vI y10] k_H_doTrialsTellAlike_65 lk_3_105 rfl rfl rfl rfl rfl rfl rfl rfl (CallI.mono (fun y12 M11 h22 => ?_) h21)
        refine q_icmp_eq 68 73 k_H_doTrialsTellAlike_68 rfl rfl (fun c68 => ?_) (fun c68 => ?_)
        · have h22t := h22.1 c68
          refine q_iinc 73 k_H_doTrialsTellAlike_73 (ls' := [some (vR 3 0), some (vI (x1 + 1))]) rfl rfl rfl ?_
          refine q_goto 76 2 k_H_doTrialsTellAlike_76 rfl rfl ?_
          exact h22t
        · have h22f := h22.2 c68
          refine q_iconst 71 k_H_doTrialsTellAlike_71 ?_
          exact q_zret 72 k_H_doTrialsTellAlike_72 rfl (Or.inl rfl) h22f
      · have h20f := h20.2 c25
        refine q_aload_n 28 k_H_doTrialsTellAlike_28 rfl ?_
        refine q_getfield 29 k_H_doTrialsTellAlike_29 fk_3_27 rfl (v := vR 2 5) rfl ?_
        refine q_vI 32 [] [] k_H_doTrialsTellAlike_32 lk_3_101 rfl rfl rfl rfl rfl rfl rfl rfl (CallI.mono (fun y14 M13 h23 => ?_) h20f)
        refine q_if_eq 35 52 k_H_doTrialsTellAlike_35 rfl rfl (fun c35 => ?_) (fun c35 => ?_)
        · have h23t := h23.1 c35
          refine q_iconst 52 k_H_doTrialsTellAlike_52 ?_
          exact q_zret 53 k_H_doTrialsTellAlike_53 rfl (Or.inl rfl) h23t
        · have h23f := h23.2 c35
          refine q_aload_n 38 k_H_doTrialsTellAlike_38 rfl ?_
          refine q_getfield 39 k_H_doTrialsTellAlike_39 fk_3_31 rfl (v := vR 2 6) rfl ?_
          refine q_vI 42 [] [] k_H_doTrialsTellAlike_42 lk_3_101 rfl rfl rfl rfl rfl rfl rfl rfl (CallI.mono (fun y16 M15 h24 => ?_) h23f)
          refine q_if_eq 45 52 k_H_doTrialsTellAlike_45 rfl rfl (fun c45 => ?_) (fun c45 => ?_)
          · have h24t := h24.1 c45
            refine q_iconst 52 k_H_doTrialsTellAlike_52 ?_
            exact q_zret 53 k_H_doTrialsTellAlike_53 rfl (Or.inl rfl) h24t
          · have h24f := h24.2 c45
            refine q_iconst 48 k_H_doTrialsTellAlike_48 ?_
            refine q_goto 49 53 k_H_doTrialsTellAlike_49 rfl rfl ?_
            exact q_zret 53 k_H_doTrialsTellAlike_53 rfl (Or.inr rfl) h24f
theorem k_H_shareOf_0 : decode (mtC m_H_shareOf) 0 = .ok (.iload_n 1, 1) := by decide +kernel
theorem k_H_shareOf_1 : decode (mtC m_H_shareOf) 1 = .ok (.tableswitch 65 0 2 #[27, 40, 60], 27) := by decide +kernel
theorem k_H_shareOf_28 : decode (mtC m_H_shareOf) 28 = .ok (.aload_n 0, 1) := by decide +kernel
theorem k_H_shareOf_29 : decode (mtC m_H_shareOf) 29 = .ok (.invokevirtual 108, 3) := by decide +kernel
theorem k_H_shareOf_32 : decode (mtC m_H_shareOf) 32 = .ok (.ifCond .eq 7, 3) := by decide +kernel
theorem k_H_shareOf_35 : decode (mtC m_H_shareOf) 35 = .ok (.iconst 0, 1) := by decide +kernel
theorem k_H_shareOf_36 : decode (mtC m_H_shareOf) 36 = .ok (.goto 4, 3) := by decide +kernel
theorem k_H_shareOf_39 : decode (mtC m_H_shareOf) 39 = .ok (.iconst 1, 1) := by decide +kernel
theorem k_H_shareOf_40 : decode (mtC m_H_shareOf) 40 = .ok (.ireturn, 1) := by decide +kernel
theorem k_H_shareOf_41 : decode (mtC m_H_shareOf) 41 = .ok (.aload_n 0, 1) := by decide +kernel
theorem k_H_shareOf_42 : decode (mtC m_H_shareOf) 42 = .ok (.invokevirtual 108, 3) := by decide +kernel
theorem k_H_shareOf_45 : decode (mtC m_H_shareOf) 45 = .ok (.ifCond .ne 14, 3) := by decide +kernel
theorem k_H_shareOf_48 : decode (mtC m_H_shareOf) 48 = .ok (.aload_n 0, 1) := by decide +kernel
theorem k_H_shareOf_49 : decode (mtC m_H_shareOf) 49 = .ok (.invokevirtual 101, 3) := by decide +kernel
theorem k_H_shareOf_52 : decode (mtC m_H_shareOf) 52 = .ok (.ifCond .eq 7, 3) := by decide +kernel
theorem k_H_shareOf_55 : decode (mtC m_H_shareOf) 55 = .ok (.iconst 1, 1) := by decide +kernel
theorem k_H_shareOf_56 : decode (mtC m_H_shareOf) 56 = .ok (.goto 4, 3) := by decide +kernel
theorem k_H_shareOf_59 : decode (mtC m_H_shareOf) 59 = .ok (.iconst 0, 1) := by decide +kernel
theorem k_H_shareOf_60 : decode (mtC m_H_shareOf) 60 = .ok (.ireturn, 1) := by decide +kernel
theorem k_H_shareOf_61 : decode (mtC m_H_shareOf) 61 = .ok (.aload_n 0, 1) := by decide +kernel
theorem k_H_shareOf_62 : decode (mtC m_H_shareOf) 62 = .ok (.getfield 129, 3) := by decide +kernel
theorem k_H_shareOf_65 : decode (mtC m_H_shareOf) 65 = .ok (.ireturn, 1) := by decide +kernel
theorem k_H_shareOf_66 : decode (mtC m_H_shareOf) 66 = .ok (.aload_n 0, 1) := by decide +kernel
theorem k_H_shareOf_67 : decode (mtC m_H_shareOf) 67 = .ok (.getfield 88, 3) := by decide +kernel
theorem k_H_shareOf_70 : decode (mtC m_H_shareOf) 70 = .ok (.getfield 92, 3) := by decide +kernel
theorem k_H_shareOf_73 : decode (mtC m_H_shareOf) 73 = .ok (.ireturn, 1) := by decide +kernel
set_option maxHeartbeats 4000000 in
set_option maxRecDepth 100000 in
theorem T_H_shareOf_0 {d : Nat} {i0 : Nat} {x1 : Int} {M : AMem} {Q : Option AV → AMem → Prop} (o0 : okH 2 i0 = true) (h : (wI x1 = 0 → CallI d m_W_isEmpty [vR 2 i0] M (fun y2 M1 => ((wI y2 = 0) → Q (some (vI 1)) M1) ∧ (¬ (wI y2 = 0) → Q (some (vI 0)) M1))) ∧ (wI x1 = 1 → CallI d m_W_isEmpty [vR 2 i0] M (fun y4 M3 => ((¬ wI y4 = 0) → Q (some (vI 0)) M3) ∧ (¬ (¬ wI y4 = 0) → CallI d m_W_isDry [vR 2 i0] M3 (fun y6 M5 => ((wI y6 = 0) → Q (some (vI 0)) M5) ∧ (¬ (wI y6 = 0) → Q (some (vI 1)) M5))))) ∧ (wI x1 = 2 → Q (some (vI (M 2 i0 6))) M) ∧ ((wI x1 < 0 ∨ 2 < wI x1) → Q (some (vI (M 0 i0 1))) M)) : RunQ (d + 1) m_H_shareOf 0 [some (vR 2 i0), some (vI x1)] [] M Q := by
  refine q_iload_n 0 k_H_shareOf_0 rfl ?_
  refine q_tsw 1 k_H_shareOf_1 rfl (fun c => ?_) (fun c1 c2 => ?_)
  · show RunQ _ _ 66 _ _ _ _
    have hd := h.2.2.2 c
    refine q_aload_n 66 k_H_shareOf_66 rfl ?_
    refine q_getfield 67 k_H_shareOf_67 fk_3_88 o0 (v := vR 0 i0) rfl ?_
    refine q_getfield 70 k_H_shareOf_70 fk_3_92 o0 (v := vI (M 0 i0 1)) rfl ?_
    exact q_iret 73 k_H_shareOf_73 rfl hd
  · have cq : wI x1 = 0 ∨ wI x1 = 1 ∨ wI x1 = 2 := by omega
    rcases cq with cq | cq | cq
    · refine ⟨27, by rw [cq]; rfl, rfl, ?_⟩
      show RunQ _ _ 28 _ _ _ _
      have h0 := h.1 cq
      refine q_aload_n 28 k_H_shareOf_28 rfl ?_
      refine q_vI 29 [] [] k_H_shareOf_29 lk_3_108 rfl rfl rfl o0 rfl rfl rfl rfl (CallI.mono (fun y2 M1 h7 => ?_) h0)
      refine q_if_eq 32 39 k_H_shareOf_32 rfl rfl (fun c32 => ?_) (fun c32 => ?_)
      · have h7t := h7.1 c32
        refine q_iconst 39 k_H_shareOf_39 ?_
        exact q_iret 40 k_H_shareOf_40 rfl h7t
      · have h7f := h7.2 c32
        refine q_iconst 35 k_H_shareOf_35 ?_
        refine q_goto 36 40 k_H_shareOf_36 rfl rfl ?_
        exact q_iret 40 k_H_shareOf_40 rfl h7f
    · refine ⟨40, by rw [cq]; rfl, rfl, ?_⟩
      show RunQ _ _ 41 _ _ _ _
      have h1 := h.2.1 cq
      refine q_aload_n 41 k_H_shareOf_41 rfl ?_
      refine q_vI 42 [] [] k_H_shareOf_42 lk_3_108 rfl rfl rfl o0 rfl rfl rfl rfl (CallI.mono (fun y4 M3 h8 => ?_) h1)
      refine q_if_ne 45 59 k_H_shareOf_45 rfl rfl (fun c45 => ?_) (fun c45 => ?_)
      · have h8t := h8.1 c45
        refine q_iconst 59 k_H_shareOf_59 ?_
        exact q_iret 60 k_H_shareOf_60 rfl h8t
      · have h8f := h8.2 c45
        refine q_aload_n 48 k_H_shareOf_48 rfl ?_
        refine q_vI 49 [] [] k_H_shareOf_49 lk_3_101 rfl rfl rfl o0 rfl rfl rfl rfl (CallI.mono (fun y6 M5 h9 => ?_) h8f)
        refine q_if_eq 52 59 k_H_shareOf_52 rfl rfl (fun c52 => ?_) (fun c52 => ?_)
        · have h9t := h9.1 c52
          refine q_iconst 59 k_H_shareOf_59 ?_
          exact q_iret 60 k_H_shareOf_60 rfl h9t
        · have h9f := h9.2 c52
          refine q_iconst 55 k_H_shareOf_55 ?_
          refine q_goto 56 60 k_H_shareOf_56 rfl rfl ?_
          exact q_iret 60 k_H_shareOf_60 rfl h9f
    · refine ⟨60, by rw [cq]; rfl, rfl, ?_⟩
      show RunQ _ _ 61 _ _ _ _
      have h2 := h.2.2.1 cq
      refine q_aload_n 61 k_H_shareOf_61 rfl ?_
      refine q_getfield 62 k_H_shareOf_62 fk_3_129 o0 (v := vI (M 2 i0 6)) rfl ?_
      exact q_iret 65 k_H_shareOf_65 rfl h2
theorem k_H_areRowsRising_0 : decode (mtC m_H_areRowsRising) 0 = .ok (.iconst 0, 1) := by decide +kernel
theorem k_H_areRowsRising_1 : decode (mtC m_H_areRowsRising) 1 = .ok (.istore_n 1, 1) := by decide +kernel
theorem k_H_areRowsRising_2 : decode (mtC m_H_areRowsRising) 2 = .ok (.iload_n 1, 1) := by decide +kernel
theorem k_H_areRowsRising_3 : decode (mtC m_H_areRowsRising) 3 = .ok (.aload_n 0, 1) := by decide +kernel
theorem k_H_areRowsRising_4 : decode (mtC m_H_areRowsRising) 4 = .ok (.getfield 11, 3) := by decide +kernel
theorem k_H_areRowsRising_7 : decode (mtC m_H_areRowsRising) 7 = .ok (.arraylength, 1) := by decide +kernel
theorem k_H_areRowsRising_8 : decode (mtC m_H_areRowsRising) 8 = .ok (.if_icmp .ge 23, 3) := by decide +kernel
theorem k_H_areRowsRising_11 : decode (mtC m_H_areRowsRising) 11 = .ok (.aload_n 0, 1) := by decide +kernel
theorem k_H_areRowsRising_12 : decode (mtC m_H_areRowsRising) 12 = .ok (.getfield 11, 3) := by decide +kernel
theorem k_H_areRowsRising_15 : decode (mtC m_H_areRowsRising) 15 = .ok (.iload_n 1, 1) := by decide +kernel
theorem k_H_areRowsRising_16 : decode (mtC m_H_areRowsRising) 16 = .ok (.aaload, 1) := by decide +kernel
theorem k_H_areRowsRising_17 : decode (mtC m_H_areRowsRising) 17 = .ok (.invokevirtual 234, 3) := by decide +kernel
theorem k_H_areRowsRising_20 : decode (mtC m_H_areRowsRising) 20 = .ok (.ifCond .ne 5, 3) := by decide +kernel
theorem k_H_areRowsRising_23 : decode (mtC m_H_areRowsRising) 23 = .ok (.iconst 0, 1) := by decide +kernel
theorem k_H_areRowsRising_24 : decode (mtC m_H_areRowsRising) 24 = .ok (.ireturn, 1) := by decide +kernel
theorem k_H_areRowsRising_25 : decode (mtC m_H_areRowsRising) 25 = .ok (.iinc 1 1, 3) := by decide +kernel
theorem k_H_areRowsRising_28 : decode (mtC m_H_areRowsRising) 28 = .ok (.goto (-26), 3) := by decide +kernel
theorem k_H_areRowsRising_31 : decode (mtC m_H_areRowsRising) 31 = .ok (.iconst 1, 1) := by decide +kernel
theorem k_H_areRowsRising_32 : decode (mtC m_H_areRowsRising) 32 = .ok (.ireturn, 1) := by decide +kernel
set_option maxHeartbeats 4000000 in
set_option maxRecDepth 100000 in
theorem T_H_areRowsRising_0 {d : Nat}  {M : AMem} {Q : Option AV → AMem → Prop}  (h : RunQ (d + 1) m_H_areRowsRising 2 [some (vR 3 0), some (vI 0)] [] M Q) : RunQ (d + 1) m_H_areRowsRising 0 [some (vR 3 0), none] [] M Q := by
  refine q_iconst 0 k_H_areRowsRising_0 ?_
  refine q_istore_n 1 k_H_areRowsRising_1 (ls' := [some (vR 3 0), some (vI 0)]) rfl rfl ?_
  exact h
set_option maxHeartbeats 4000000 in
set_option maxRecDepth 100000 in
theorem T_H_areRowsRising_2 {d : Nat} {x1 : Int} {M : AMem} {Q : Option AV → AMem → Prop}  (h : ((6 ≤ wI x1) → Q (some (vI 1)) M) ∧ (¬ (6 ≤ wI x1) → (0 ≤ wI x1 ∧ wI x1 < (6 : Nat)) ∧ (CallI d m_R_isRising [vR 1 (42 + (wI x1).toNat)] M (fun y3 M2 => ((¬ wI y3 = 0) → RunQ (d + 1) m_H_areRowsRising 2 [some (vR 3 0), some (vI (x1 + 1))] [] M2 Q) ∧ (¬ (¬ wI y3 = 0) → Q (some (vI 0)) M2))))) : RunQ (d + 1) m_H_areRowsRising 2 [some (vR 3 0), some (vI x1)] [] M Q := by
  refine q_iload_n 2 k_H_areRowsRising_2 rfl ?_
  refine q_aload_n 3 k_H_areRowsRising_3 rfl ?_
  refine q_getfield 4 k_H_areRowsRising_4 fk_3_11 rfl (v := vR 7 0) rfl ?_
  refine q_alen 7 k_H_areRowsRising_7 rfl rfl (z := 6) rfl ?_
  refine q_icmp_ge 8 31 k_H_areRowsRising_8 rfl rfl (fun c8 => ?_) (fun c8 => ?_)
  · have ht := h.1 c8
    refine q_iconst 31 k_H_areRowsRising_31 ?_
    exact q_zret 32 k_H_areRowsRising_32 rfl (Or.inr rfl) ht
  · have hf := h.2 c8
    refine q_aload_n 11 k_H_areRowsRising_11 rfl ?_
    refine q_getfield 12 k_H_areRowsRising_12 fk_3_11 rfl (v := vR 7 0) rfl ?_
    refine q_iload_n 15 k_H_areRowsRising_15 rfl ?_
    have hb1 := hf.1
    refine q_aaload 16 k_H_areRowsRising_16 rfl (n := 6) rfl hb1 (kd := 1) (x := (42 + (wI x1).toNat)) rfl ?_
    have hf' := hf.2
    refine q_vI 17 [] [] k_H_areRowsRising_17 lk_3_234 rfl rfl rfl (ok_r7 hb1) rfl rfl rfl rfl (CallI.mono (fun y3 M2 h4 => ?_) hf')
    refine q_if_ne 20 25 k_H_areRowsRising_20 rfl rfl (fun c20 => ?_) (fun c20 => ?_)
    · have h4t := h4.1 c20
      refine q_iinc 25 k_H_areRowsRising_25 (ls' := [some (vR 3 0), some (vI (x1 + 1))]) rfl rfl rfl ?_
      refine q_goto 28 2 k_H_areRowsRising_28 rfl rfl ?_
      exact h4t
    · have h4f := h4.2 c20
      refine q_iconst 23 k_H_areRowsRising_23 ?_
      exact q_zret 24 k_H_areRowsRising_24 rfl (Or.inl rfl) h4f
theorem k_H_areQueuesWithinLimits_0 : decode (mtC m_H_areQueuesWithinLimits) 0 = .ok (.iconst 0, 1) := by decide +kernel
theorem k_H_areQueuesWithinLimits_1 : decode (mtC m_H_areQueuesWithinLimits) 1 = .ok (.istore_n 1, 1) := by decide +kernel
theorem k_H_areQueuesWithinLimits_2 : decode (mtC m_H_areQueuesWithinLimits) 2 = .ok (.iload_n 1, 1) := by decide +kernel
theorem k_H_areQueuesWithinLimits_3 : decode (mtC m_H_areQueuesWithinLimits) 3 = .ok (.aload_n 0, 1) := by decide +kernel
theorem k_H_areQueuesWithinLimits_4 : decode (mtC m_H_areQueuesWithinLimits) 4 = .ok (.getfield 22, 3) := by decide +kernel
theorem k_H_areQueuesWithinLimits_7 : decode (mtC m_H_areQueuesWithinLimits) 7 = .ok (.arraylength, 1) := by decide +kernel
theorem k_H_areQueuesWithinLimits_8 : decode (mtC m_H_areQueuesWithinLimits) 8 = .ok (.if_icmp .ge 35, 3) := by decide +kernel
theorem k_H_areQueuesWithinLimits_11 : decode (mtC m_H_areQueuesWithinLimits) 11 = .ok (.aload_n 0, 1) := by decide +kernel
theorem k_H_areQueuesWithinLimits_12 : decode (mtC m_H_areQueuesWithinLimits) 12 = .ok (.getfield 22, 3) := by decide +kernel
theorem k_H_areQueuesWithinLimits_15 : decode (mtC m_H_areQueuesWithinLimits) 15 = .ok (.iload_n 1, 1) := by decide +kernel
theorem k_H_areQueuesWithinLimits_16 : decode (mtC m_H_areQueuesWithinLimits) 16 = .ok (.aaload, 1) := by decide +kernel
theorem k_H_areQueuesWithinLimits_17 : decode (mtC m_H_areQueuesWithinLimits) 17 = .ok (.getfield 88, 3) := by decide +kernel
theorem k_H_areQueuesWithinLimits_20 : decode (mtC m_H_areQueuesWithinLimits) 20 = .ok (.getfield 92, 3) := by decide +kernel
theorem k_H_areQueuesWithinLimits_23 : decode (mtC m_H_areQueuesWithinLimits) 23 = .ok (.aload_n 0, 1) := by decide +kernel
theorem k_H_areQueuesWithinLimits_24 : decode (mtC m_H_areQueuesWithinLimits) 24 = .ok (.getfield 22, 3) := by decide +kernel
theorem k_H_areQueuesWithinLimits_27 : decode (mtC m_H_areQueuesWithinLimits) 27 = .ok (.iload_n 1, 1) := by decide +kernel
theorem k_H_areQueuesWithinLimits_28 : decode (mtC m_H_areQueuesWithinLimits) 28 = .ok (.aaload, 1) := by decide +kernel
theorem k_H_areQueuesWithinLimits_29 : decode (mtC m_H_areQueuesWithinLimits) 29 = .ok (.invokevirtual 150, 3) := by decide +kernel
theorem k_H_areQueuesWithinLimits_32 : decode (mtC m_H_areQueuesWithinLimits) 32 = .ok (.if_icmp .le 5, 3) := by decide +kernel
theorem k_H_areQueuesWithinLimits_35 : decode (mtC m_H_areQueuesWithinLimits) 35 = .ok (.iconst 0, 1) := by decide +kernel
theorem k_H_areQueuesWithinLimits_36 : decode (mtC m_H_areQueuesWithinLimits) 36 = .ok (.ireturn, 1) := by decide +kernel
theorem k_H_areQueuesWithinLimits_37 : decode (mtC m_H_areQueuesWithinLimits) 37 = .ok (.iinc 1 1, 3) := by decide +kernel
theorem k_H_areQueuesWithinLimits_40 : decode (mtC m_H_areQueuesWithinLimits) 40 = .ok (.goto (-38), 3) := by decide +kernel
theorem k_H_areQueuesWithinLimits_43 : decode (mtC m_H_areQueuesWithinLimits) 43 = .ok (.iconst 1, 1) := by decide +kernel
theorem k_H_areQueuesWithinLimits_44 : decode (mtC m_H_areQueuesWithinLimits) 44 = .ok (.ireturn, 1) := by decide +kernel
set_option maxHeartbeats 4000000 in
set_option maxRecDepth 100000 in
theorem T_H_areQueuesWithinLimits_0 {d : Nat}  {M : AMem} {Q : Option AV → AMem → Prop}  (h : RunQ (d + 1) m_H_areQueuesWithinLimits 2 [some (vR 3 0), some (vI 0)] [] M Q) : RunQ (d + 1) m_H_areQueuesWithinLimits 0 [some (vR 3 0), none] [] M Q := by
  refine q_iconst 0 k_H_areQueuesWithinLimits_0 ?_
  refine q_istore_n 1 k_H_areQueuesWithinLimits_1 (ls' := [some (vR 3 0), some (vI 0)]) rfl rfl ?_
  exact h
set_option maxHeartbeats 4000000 in
set_option maxRecDepth 100000 in
theorem T_H_areQueuesWithinLimits_2 {d : Nat} {x1 : Int} {M : AMem} {Q : Option AV → AMem → Prop}  (h : ((5 ≤ wI x1) → Q (some (vI 1)) M) ∧ (¬ (5 ≤ wI x1) → (0 ≤ wI x1 ∧ wI x1 < (5 : Nat)) ∧ ((0 ≤ wI x1 ∧ wI x1 < (5 : Nat)) ∧ (CallI d m_W_limit [vR 2 ((wI x1).toNat)] M (fun y4 M3 => ((wI (M 0 ((wI x1).toNat) 1) ≤ wI y4) → RunQ (d + 1) m_H_areQueuesWithinLimits 2 [some (vR 3 0), some (vI (x1 + 1))] [] M3 Q) ∧ (¬ (wI (M 0 ((wI x1).toNat) 1) ≤ wI y4) → Q (some (vI 0)) M3)))))) : RunQ (d + 1) m_H_areQueuesWithinLimits 2 [some (vR 3 0), some (vI x1)] [] M Q := by
  refine q_iload_n 2 k_H_areQueuesWithinLimits_2 rfl ?_
  refine q_aload_n 3 k_H_areQueuesWithinLimits_3 rfl ?_
  refine q_getfield 4 k_H_areQueuesWithinLimits_4 fk_3_22 rfl (v := vR 8 0) rfl ?_
  refine q_alen 7 k_H_areQueuesWithinLimits_7 rfl rfl (z := 5) rfl ?_
  refine q_icmp_ge 8 43 k_H_areQueuesWithinLimits_8 rfl rfl (fun c8 => ?_) (fun c8 => ?_)
  · have ht := h.1 c8
    refine q_iconst 43 k_H_areQueuesWithinLimits_43 ?_
    exact q_zret 44 k_H_areQueuesWithinLimits_44 rfl (Or.inr rfl) ht
  · have hf := h.2 c8
    refine q_aload_n 11 k_H_areQueuesWithinLimits_11 rfl ?_
    refine q_getfield 12 k_H_areQueuesWithinLimits_12 fk_3_22 rfl (v := vR 8 0) rfl ?_
    refine q_iload_n 15 k_H_areQueuesWithinLimits_15 rfl ?_
    have hb1 := hf.1
    refine q_aaload 16 k_H_areQueuesWithinLimits_16 rfl (n := 5) rfl hb1 (kd := 2) (x := (wI x1).toNat) rfl ?_
    have hf' := hf.2
    refine q_getfield 17 k_H_areQueuesWithinLimits_17 fk_3_88 (ok_w8 hb1) (v := vR 0 ((wI x1).toNat)) rfl ?_
    refine q_getfield 20 k_H_areQueuesWithinLimits_20 fk_3_92 (ok_w8 hb1) (v := vI (M 0 ((wI x1).toNat) 1)) rfl ?_
    refine q_aload_n 23 k_H_areQueuesWithinLimits_23 rfl ?_
    refine q_getfield 24 k_H_areQueuesWithinLimits_24 fk_3_22 rfl (v := vR 8 0) rfl ?_
    refine q_iload_n 27 k_H_areQueuesWithinLimits_27 rfl ?_
    have hb2 := hf'.1
    refine q_aaload 28 k_H_areQueuesWithinLimits_28 rfl (n := 5) rfl hb2 (kd := 2) (x := (wI x1).toNat) rfl ?_
    have hf'' := hf'.2
    refine q_vI 29 [] [vI (M 0 ((wI x1).toNat) 1)] k_H_areQueuesWithinLimits_29 lk_3_150 rfl rfl rfl (ok_w8 hb2) rfl rfl rfl rfl (CallI.mono (fun y4 M3 h5 => ?_) hf'')
    refine q_icmp_le 32 37 k_H_areQueuesWithinLimits_32 rfl rfl (fun c32 => ?_) (fun c32 => ?_)
    · have h5t := h5.1 c32
      refine q_iinc 37 k_H_areQueuesWithinLimits_37 (ls' := [some (vR 3 0), some (vI (x1 + 1))]) rfl rfl rfl ?_
      refine q_goto 40 2 k_H_areQueuesWithinLimits_40 rfl rfl ?_
      exact h5t
    · have h5f := h5.2 c32
      refine q_iconst 35 k_H_areQueuesWithinLimits_35 ?_
      exact q_zret 36 k_H_areQueuesWithinLimits_36 rfl (Or.inl rfl) h5f
theorem k_H_hasToldNoMoreThanIs_0 : decode (mtC m_H_hasToldNoMoreThanIs) 0 = .ok (.aload_n 0, 1) := by decide +kernel
theorem k_H_hasToldNoMoreThanIs_1 : decode (mtC m_H_hasToldNoMoreThanIs) 1 = .ok (.invokevirtual 132, 3) := by decide +kernel
theorem k_H_hasToldNoMoreThanIs_4 : decode (mtC m_H_hasToldNoMoreThanIs) 4 = .ok (.istore_n 1, 1) := by decide +kernel
theorem k_H_hasToldNoMoreThanIs_5 : decode (mtC m_H_hasToldNoMoreThanIs) 5 = .ok (.iload_n 1, 1) := by decide +kernel
theorem k_H_hasToldNoMoreThanIs_6 : decode (mtC m_H_hasToldNoMoreThanIs) 6 = .ok (.iconst (-1), 1) := by decide +kernel
theorem k_H_hasToldNoMoreThanIs_7 : decode (mtC m_H_hasToldNoMoreThanIs) 7 = .ok (.if_icmp .eq 18, 3) := by decide +kernel
theorem k_H_hasToldNoMoreThanIs_10 : decode (mtC m_H_hasToldNoMoreThanIs) 10 = .ok (.aload_n 0, 1) := by decide +kernel
theorem k_H_hasToldNoMoreThanIs_11 : decode (mtC m_H_hasToldNoMoreThanIs) 11 = .ok (.getfield 126, 3) := by decide +kernel
theorem k_H_hasToldNoMoreThanIs_14 : decode (mtC m_H_hasToldNoMoreThanIs) 14 = .ok (.ifCond .ne 11, 3) := by decide +kernel
theorem k_H_hasToldNoMoreThanIs_17 : decode (mtC m_H_hasToldNoMoreThanIs) 17 = .ok (.aload_n 0, 1) := by decide +kernel
theorem k_H_hasToldNoMoreThanIs_18 : decode (mtC m_H_hasToldNoMoreThanIs) 18 = .ok (.iload_n 1, 1) := by decide +kernel
theorem k_H_hasToldNoMoreThanIs_19 : decode (mtC m_H_hasToldNoMoreThanIs) 19 = .ok (.invokevirtual 153, 3) := by decide +kernel
theorem k_H_hasToldNoMoreThanIs_22 : decode (mtC m_H_hasToldNoMoreThanIs) 22 = .ok (.ifCond .ne 5, 3) := by decide +kernel
theorem k_H_hasToldNoMoreThanIs_25 : decode (mtC m_H_hasToldNoMoreThanIs) 25 = .ok (.iconst 1, 1) := by decide +kernel
theorem k_H_hasToldNoMoreThanIs_26 : decode (mtC m_H_hasToldNoMoreThanIs) 26 = .ok (.ireturn, 1) := by decide +kernel
theorem k_H_hasToldNoMoreThanIs_27 : decode (mtC m_H_hasToldNoMoreThanIs) 27 = .ok (.aload_n 0, 1) := by decide +kernel
theorem k_H_hasToldNoMoreThanIs_28 : decode (mtC m_H_hasToldNoMoreThanIs) 28 = .ok (.getfield 129, 3) := by decide +kernel
theorem k_H_hasToldNoMoreThanIs_31 : decode (mtC m_H_hasToldNoMoreThanIs) 31 = .ok (.aload_n 0, 1) := by decide +kernel
theorem k_H_hasToldNoMoreThanIs_32 : decode (mtC m_H_hasToldNoMoreThanIs) 32 = .ok (.iload_n 1, 1) := by decide +kernel
theorem k_H_hasToldNoMoreThanIs_33 : decode (mtC m_H_hasToldNoMoreThanIs) 33 = .ok (.invokevirtual 156, 3) := by decide +kernel
theorem k_H_hasToldNoMoreThanIs_36 : decode (mtC m_H_hasToldNoMoreThanIs) 36 = .ok (.if_icmp .gt 7, 3) := by decide +kernel
theorem k_H_hasToldNoMoreThanIs_39 : decode (mtC m_H_hasToldNoMoreThanIs) 39 = .ok (.iconst 1, 1) := by decide +kernel
theorem k_H_hasToldNoMoreThanIs_40 : decode (mtC m_H_hasToldNoMoreThanIs) 40 = .ok (.goto 4, 3) := by decide +kernel
theorem k_H_hasToldNoMoreThanIs_43 : decode (mtC m_H_hasToldNoMoreThanIs) 43 = .ok (.iconst 0, 1) := by decide +kernel
theorem k_H_hasToldNoMoreThanIs_44 : decode (mtC m_H_hasToldNoMoreThanIs) 44 = .ok (.ireturn, 1) := by decide +kernel
set_option maxHeartbeats 4000000 in
set_option maxRecDepth 100000 in
theorem T_H_hasToldNoMoreThanIs_0 {d : Nat} {i0 : Nat} {M : AMem} {Q : Option AV → AMem → Prop} (o0 : okH 2 i0 = true) (h : CallI d m_W_lastNumber [vR 2 i0] M (fun y2 M1 => ((wI y2 = (-1)) → Q (some (vI 1)) M1) ∧ (¬ (wI y2 = (-1)) → ((¬ wI (M1 2 i0 5) = 0) → Q (some (vI 1)) M1) ∧ (¬ (¬ wI (M1 2 i0 5) = 0) → CallI d m_W_canCountTo [vR 2 i0, vI y2] M1 (fun y4 M3 => ((¬ wI y4 = 0) → CallI d m_W_countUpTo [vR 2 i0, vI y2] M3 (fun y6 M5 => ((wI y6 < wI (M3 2 i0 6)) → Q (some (vI 0)) M5) ∧ (¬ (wI y6 < wI (M3 2 i0 6)) → Q (some (vI 1)) M5))) ∧ (¬ (¬ wI y4 = 0) → Q (some (vI 1)) M3)))))) : RunQ (d + 1) m_H_hasToldNoMoreThanIs 0 [some (vR 2 i0), none] [] M Q := by
  refine q_aload_n 0 k_H_hasToldNoMoreThanIs_0 rfl ?_
  refine q_vI 1 [] [] k_H_hasToldNoMoreThanIs_1 lk_3_132 rfl rfl rfl o0 rfl rfl rfl rfl (CallI.mono (fun y2 M1 h7 => ?_) h)
  refine q_istore_n 4 k_H_hasToldNoMoreThanIs_4 (ls' := [some (vR 2 i0), some (vI y2)]) rfl rfl ?_
  refine q_iload_n 5 k_H_hasToldNoMoreThanIs_5 rfl ?_
  refine q_iconst 6 k_H_hasToldNoMoreThanIs_6 ?_
  refine q_icmp_eq 7 25 k_H_hasToldNoMoreThanIs_7 rfl rfl (fun c7 => ?_) (fun c7 => ?_)
  · have h7t := h7.1 c7
    refine q_iconst 25 k_H_hasToldNoMoreThanIs_25 ?_
    exact q_zret 26 k_H_hasToldNoMoreThanIs_26 rfl (Or.inr rfl) h7t
  · have h7f := h7.2 c7
    refine q_aload_n 10 k_H_hasToldNoMoreThanIs_10 rfl ?_
    refine q_getfield 11 k_H_hasToldNoMoreThanIs_11 fk_3_126 o0 (v := vI (M1 2 i0 5)) rfl ?_
    refine q_if_ne 14 25 k_H_hasToldNoMoreThanIs_14 rfl rfl (fun c14 => ?_) (fun c14 => ?_)
    · have h7ft := h7f.1 c14
      refine q_iconst 25 k_H_hasToldNoMoreThanIs_25 ?_
      exact q_zret 26 k_H_hasToldNoMoreThanIs_26 rfl (Or.inr rfl) h7ft
    · have h7ff := h7f.2 c14
      refine q_aload_n 17 k_H_hasToldNoMoreThanIs_17 rfl ?_
      refine q_iload_n 18 k_H_hasToldNoMoreThanIs_18 rfl ?_
      refine q_vI 19 [vI y2] [] k_H_hasToldNoMoreThanIs_19 lk_3_153 rfl rfl rfl o0 rfl rfl rfl rfl (CallI.mono (fun y4 M3 h8 => ?_) h7ff)
      refine q_if_ne 22 27 k_H_hasToldNoMoreThanIs_22 rfl rfl (fun c22 => ?_) (fun c22 => ?_)
      · have h8t := h8.1 c22
        refine q_aload_n 27 k_H_hasToldNoMoreThanIs_27 rfl ?_
        refine q_getfield 28 k_H_hasToldNoMoreThanIs_28 fk_3_129 o0 (v := vI (M3 2 i0 6)) rfl ?_
        refine q_aload_n 31 k_H_hasToldNoMoreThanIs_31 rfl ?_
        refine q_iload_n 32 k_H_hasToldNoMoreThanIs_32 rfl ?_
        refine q_vI 33 [vI y2] [vI (M3 2 i0 6)] k_H_hasToldNoMoreThanIs_33 lk_3_156 rfl rfl rfl o0 rfl rfl rfl rfl (CallI.mono (fun y6 M5 h9 => ?_) h8t)
        refine q_icmp_gt 36 43 k_H_hasToldNoMoreThanIs_36 rfl rfl (fun c36 => ?_) (fun c36 => ?_)
        · have h9t := h9.1 c36
          refine q_iconst 43 k_H_hasToldNoMoreThanIs_43 ?_
          exact q_zret 44 k_H_hasToldNoMoreThanIs_44 rfl (Or.inl rfl) h9t
        · have h9f := h9.2 c36
          refine q_iconst 39 k_H_hasToldNoMoreThanIs_39 ?_
          refine q_goto 40 44 k_H_hasToldNoMoreThanIs_40 rfl rfl ?_
          exact q_zret 44 k_H_hasToldNoMoreThanIs_44 rfl (Or.inr rfl) h9f
      · have h8f := h8.2 c22
        refine q_iconst 25 k_H_hasToldNoMoreThanIs_25 ?_
        exact q_zret 26 k_H_hasToldNoMoreThanIs_26 rfl (Or.inr rfl) h8f
end
