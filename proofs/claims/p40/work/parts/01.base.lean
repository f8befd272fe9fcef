/-- a private method of a class that the tables say can be made, by its rows of tables_1 -/
def lw_okq (q : MethodName × Nat) : Prop := (q.1.cls ≠ "java/lang/invoke/MethodHandle" ∧ q.1.cls ≠ "java/lang/invoke/VarHandle") ∧ Cond.instantiable q.1.cls q.2 ∈ tables_1 ∧ Cond.privateMethod q.1 ∈ tables_1 ∧ Cond.instanceMethod q.1 ∈ tables_1
theorem lw_p0 : lw_okq (⟨"Endlessrows", "findRow", "(I)LEndlessrows$Row;"⟩, 6) := ⟨⟨by decide +kernel, by decide +kernel⟩, List.mem_of_getElem? (i := 14) (by decide +kernel), List.mem_of_getElem? (i := 123) (by decide +kernel), List.mem_of_getElem? (i := 124) (by decide +kernel)⟩
theorem lw_p1 : lw_okq (⟨"java/lang/Throwable", "fillInStackTrace", "(I)Ljava/lang/Throwable;"⟩, 6) := ⟨⟨by decide +kernel, by decide +kernel⟩, List.mem_of_getElem? (i := 164) (by decide +kernel), List.mem_of_getElem? (i := 162) (by decide +kernel), List.mem_of_getElem? (i := 163) (by decide +kernel)⟩
theorem lw_p2 : lw_okq (⟨"Endlessrows", "areRowsRising", "()Z"⟩, 6) := ⟨⟨by decide +kernel, by decide +kernel⟩, List.mem_of_getElem? (i := 14) (by decide +kernel), List.mem_of_getElem? (i := 217) (by decide +kernel), List.mem_of_getElem? (i := 218) (by decide +kernel)⟩
theorem lw_p3 : lw_okq (⟨"Endlessrows", "areQueuesWithinLimits", "()Z"⟩, 6) := ⟨⟨by decide +kernel, by decide +kernel⟩, List.mem_of_getElem? (i := 14) (by decide +kernel), List.mem_of_getElem? (i := 225) (by decide +kernel), List.mem_of_getElem? (i := 226) (by decide +kernel)⟩
theorem lw_p4 : lw_okq (⟨"Endlessrows$Well", "takeRows", "([LEndlessrows$Row;)V"⟩, 8) := ⟨⟨by decide +kernel, by decide +kernel⟩, List.mem_of_getElem? (i := 40) (by decide +kernel), List.mem_of_getElem? (i := 250) (by decide +kernel), List.mem_of_getElem? (i := 251) (by decide +kernel)⟩
theorem lw_p5 : lw_okq (⟨"Endlessrows$Queue", "sink", "(I)V"⟩, 2) := ⟨⟨by decide +kernel, by decide +kernel⟩, List.mem_of_getElem? (i := 47) (by decide +kernel), List.mem_of_getElem? (i := 274) (by decide +kernel), List.mem_of_getElem? (i := 275) (by decide +kernel)⟩
theorem lw_p6 : lw_okq (⟨"Endlessrows$Queue", "refill", "(II)V"⟩, 2) := ⟨⟨by decide +kernel, by decide +kernel⟩, List.mem_of_getElem? (i := 47) (by decide +kernel), List.mem_of_getElem? (i := 278) (by decide +kernel), List.mem_of_getElem? (i := 279) (by decide +kernel)⟩
theorem lw_p7 : lw_okq (⟨"Endlessrows$Well", "countOfRows", "(I)I"⟩, 8) := ⟨⟨by decide +kernel, by decide +kernel⟩, List.mem_of_getElem? (i := 40) (by decide +kernel), List.mem_of_getElem? (i := 316) (by decide +kernel), List.mem_of_getElem? (i := 317) (by decide +kernel)⟩
theorem lw_p8 : lw_okq (⟨"Endlessrows$Well", "countOfGrid", "(I)I"⟩, 8) := ⟨⟨by decide +kernel, by decide +kernel⟩, List.mem_of_getElem? (i := 40) (by decide +kernel), List.mem_of_getElem? (i := 330) (by decide +kernel), List.mem_of_getElem? (i := 331) (by decide +kernel)⟩
theorem lw_p9 : lw_okq (⟨"Endlessrows$Well", "gridNumber", "(III)I"⟩, 8) := ⟨⟨by decide +kernel, by decide +kernel⟩, List.mem_of_getElem? (i := 40) (by decide +kernel), List.mem_of_getElem? (i := 334) (by decide +kernel), List.mem_of_getElem? (i := 335) (by decide +kernel)⟩
theorem lw_p10 : lw_okq (⟨"Endlessrows", "doTrialsTellAlike", "()Z"⟩, 6) := ⟨⟨by decide +kernel, by decide +kernel⟩, List.mem_of_getElem? (i := 14) (by decide +kernel), List.mem_of_getElem? (i := 339) (by decide +kernel), List.mem_of_getElem? (i := 340) (by decide +kernel)⟩
theorem lw_p11 : lw_okq (⟨"Endlessrows$Well", "tellPrime", "()V"⟩, 8) := ⟨⟨by decide +kernel, by decide +kernel⟩, List.mem_of_getElem? (i := 40) (by decide +kernel), List.mem_of_getElem? (i := 351) (by decide +kernel), List.mem_of_getElem? (i := 352) (by decide +kernel)⟩
theorem lw_p12 : lw_okq (⟨"Endlessrows$Well", "offerProducts", "(II)V"⟩, 8) := ⟨⟨by decide +kernel, by decide +kernel⟩, List.mem_of_getElem? (i := 40) (by decide +kernel), List.mem_of_getElem? (i := 371) (by decide +kernel), List.mem_of_getElem? (i := 372) (by decide +kernel)⟩
theorem lw_p13 : lw_okq (⟨"Endlessrows$Well", "rankOf", "(I)I"⟩, 8) := ⟨⟨by decide +kernel, by decide +kernel⟩, List.mem_of_getElem? (i := 40) (by decide +kernel), List.mem_of_getElem? (i := 378) (by decide +kernel), List.mem_of_getElem? (i := 379) (by decide +kernel)⟩
theorem lw_p14 : lw_okq (⟨"Endlessrows$Well", "offerOfRow", "(II)V"⟩, 8) := ⟨⟨by decide +kernel, by decide +kernel⟩, List.mem_of_getElem? (i := 40) (by decide +kernel), List.mem_of_getElem? (i := 382) (by decide +kernel), List.mem_of_getElem? (i := 383) (by decide +kernel)⟩
theorem lw_p15 : lw_okq (⟨"Endlessrows$Well", "offerNeighbours", "(III)V"⟩, 8) := ⟨⟨by decide +kernel, by decide +kernel⟩, List.mem_of_getElem? (i := 40) (by decide +kernel), List.mem_of_getElem? (i := 386) (by decide +kernel), List.mem_of_getElem? (i := 387) (by decide +kernel)⟩
def lw_privs_1 : List (MethodName × Nat) := [(⟨"Endlessrows", "findRow", "(I)LEndlessrows$Row;"⟩, 6), (⟨"java/lang/Throwable", "fillInStackTrace", "(I)Ljava/lang/Throwable;"⟩, 6), (⟨"Endlessrows", "areRowsRising", "()Z"⟩, 6), (⟨"Endlessrows", "areQueuesWithinLimits", "()Z"⟩, 6), (⟨"Endlessrows$Well", "takeRows", "([LEndlessrows$Row;)V"⟩, 8), (⟨"Endlessrows$Queue", "sink", "(I)V"⟩, 2), (⟨"Endlessrows$Queue", "refill", "(II)V"⟩, 2), (⟨"Endlessrows$Well", "countOfRows", "(I)I"⟩, 8), (⟨"Endlessrows$Well", "countOfGrid", "(I)I"⟩, 8), (⟨"Endlessrows$Well", "gridNumber", "(III)I"⟩, 8), (⟨"Endlessrows", "doTrialsTellAlike", "()Z"⟩, 6), (⟨"Endlessrows$Well", "tellPrime", "()V"⟩, 8), (⟨"Endlessrows$Well", "offerProducts", "(II)V"⟩, 8), (⟨"Endlessrows$Well", "rankOf", "(I)I"⟩, 8), (⟨"Endlessrows$Well", "offerOfRow", "(II)V"⟩, 8), (⟨"Endlessrows$Well", "offerNeighbours", "(III)V"⟩, 8)]
theorem lw_r1 : ∀ q ∈ lw_privs_1, lw_okq q := List.forall_mem_cons.mpr ⟨lw_p0, List.forall_mem_cons.mpr ⟨lw_p1, List.forall_mem_cons.mpr ⟨lw_p2, List.forall_mem_cons.mpr ⟨lw_p3, List.forall_mem_cons.mpr ⟨lw_p4, List.forall_mem_cons.mpr ⟨lw_p5, List.forall_mem_cons.mpr ⟨lw_p6, List.forall_mem_cons.mpr ⟨lw_p7, List.forall_mem_cons.mpr ⟨lw_p8, List.forall_mem_cons.mpr ⟨lw_p9, List.forall_mem_cons.mpr ⟨lw_p10, List.forall_mem_cons.mpr ⟨lw_p11, List.forall_mem_cons.mpr ⟨lw_p12, List.forall_mem_cons.mpr ⟨lw_p13, List.forall_mem_cons.mpr ⟨lw_p14, List.forall_mem_cons.mpr ⟨lw_p15, fun _ h => absurd h List.not_mem_nil⟩⟩⟩⟩⟩⟩⟩⟩⟩⟩⟩⟩⟩⟩⟩⟩
theorem lw_p16 : lw_okq (⟨"Endlessrows$Well", "offerOfGrid", "(III)V"⟩, 8) := ⟨⟨by decide +kernel, by decide +kernel⟩, List.mem_of_getElem? (i := 40) (by decide +kernel), List.mem_of_getElem? (i := 390) (by decide +kernel), List.mem_of_getElem? (i := 391) (by decide +kernel)⟩
theorem lw_p17 : lw_okq (⟨"Endlessrows", "findWell", "(I)LEndlessrows$Well;"⟩, 6) := ⟨⟨by decide +kernel, by decide +kernel⟩, List.mem_of_getElem? (i := 14) (by decide +kernel), List.mem_of_getElem? (i := 414) (by decide +kernel), List.mem_of_getElem? (i := 415) (by decide +kernel)⟩
theorem lw_p18 : lw_okq (⟨"Endlessrows$Well", "isGrid", "()Z"⟩, 8) := ⟨⟨by decide +kernel, by decide +kernel⟩, List.mem_of_getElem? (i := 40) (by decide +kernel), List.mem_of_getElem? (i := 427) (by decide +kernel), List.mem_of_getElem? (i := 428) (by decide +kernel)⟩
def lw_privs_2 : List (MethodName × Nat) := [(⟨"Endlessrows$Well", "offerOfGrid", "(III)V"⟩, 8), (⟨"Endlessrows", "findWell", "(I)LEndlessrows$Well;"⟩, 6), (⟨"Endlessrows$Well", "isGrid", "()Z"⟩, 8)]
theorem lw_r2 : ∀ q ∈ lw_privs_2, lw_okq q := List.forall_mem_cons.mpr ⟨lw_p16, List.forall_mem_cons.mpr ⟨lw_p17, List.forall_mem_cons.mpr ⟨lw_p18, fun _ h => absurd h List.not_mem_nil⟩⟩⟩
def lw_privs : List (MethodName × Nat) := lw_privs_1 ++ (lw_privs_2)
def lw_tbl : List Cond := k2_sels lw_privs ++ tables_1
theorem lw_privs_ok : ∀ q ∈ lw_privs, lw_okq q := by
  show ∀ q ∈ lw_privs_1 ++ (lw_privs_2), lw_okq q
  exact List.forall_mem_append.mpr ⟨lw_r1, lw_r2⟩

-- ===== end of PART A =====
def RX0 : String := "Endlessrows$Queue"
def TX0 : u_T := fun k => match k with
  | 0 => ("Endlessrows$Queue", "keys", "[I", true)
  | _ => ("Endlessrows$Queue", "size", "I", false)
def tyX0 : Nat → FieldType := fun k => match k with
  | 0 => .array .int
  | _ => .int
abbrev wsX00 : List Cond := u_ws RX0 TX0 2
theorem nmX0 : ∀ a, a < 2 → ∀ b, b < 2 → a ≠ b → (TX0 a).2.1 ≠ (TX0 b).2.1 := by decide +kernel
theorem tyX0_ok : ∀ k, k < 2 → parseFieldDescriptor (TX0 k).2.2.1 = some (tyX0 k) := by decide +kernel
abbrev cX0_init : ByteArray := prog_2_method_1_code
def yX0_init : MethodName := ⟨RX0, "<init>", "()V"⟩
abbrev cX0_keyOf : ByteArray := prog_2_method_2_code
def yX0_keyOf : MethodName := ⟨RX0, "keyOf", "(II)I"⟩
abbrev cX0_numberOf : ByteArray := prog_2_method_3_code
def yX0_numberOf : MethodName := ⟨RX0, "numberOf", "(I)I"⟩
abbrev cX0_tagOf : ByteArray := prog_2_method_4_code
def yX0_tagOf : MethodName := ⟨RX0, "tagOf", "(I)I"⟩
abbrev cX0_firstNumber : ByteArray := prog_2_method_5_code
def yX0_firstNumber : MethodName := ⟨RX0, "firstNumber", "()I"⟩
abbrev cX0_push : ByteArray := prog_2_method_6_code
def yX0_push : MethodName := ⟨RX0, "push", "(I)V"⟩
abbrev cX0_pop : ByteArray := prog_2_method_7_code
def yX0_pop : MethodName := ⟨RX0, "pop", "()I"⟩
abbrev cX0_sink : ByteArray := prog_2_method_8_code
def yX0_sink : MethodName := ⟨RX0, "sink", "(I)V"⟩
abbrev cX0_turnOver : ByteArray := prog_2_method_9_code
def yX0_turnOver : MethodName := ⟨RX0, "turnOver", "()V"⟩
abbrev cX0_remove : ByteArray := prog_2_method_10_code
def yX0_remove : MethodName := ⟨RX0, "remove", "(I)V"⟩
abbrev cX0_refill : ByteArray := prog_2_method_11_code
def yX0_refill : MethodName := ⟨RX0, "refill", "(II)V"⟩
abbrev cX0_holds : ByteArray := prog_2_method_12_code
def yX0_holds : MethodName := ⟨RX0, "holds", "(I)Z"⟩
abbrev cX0_countUpTo : ByteArray := prog_2_method_13_code
def yX0_countUpTo : MethodName := ⟨RX0, "countUpTo", "(I)I"⟩
abbrev cX0_become : ByteArray := prog_2_method_14_code
def yX0_become : MethodName := ⟨RX0, "become", "(LEndlessrows$Queue;)V"⟩
def RX1 : String := "Endlessrows$Row"
def TX1 : u_T := fun k => match k with
  | 0 => ("Endlessrows$Row", "numbers", "[I", true)
  | _ => ("Endlessrows$Row", "count", "I", false)
def tyX1 : Nat → FieldType := fun k => match k with
  | 0 => .array .int
  | _ => .int
abbrev wsX10 : List Cond := u_ws RX1 TX1 2
theorem nmX1 : ∀ a, a < 2 → ∀ b, b < 2 → a ≠ b → (TX1 a).2.1 ≠ (TX1 b).2.1 := by decide +kernel
theorem tyX1_ok : ∀ k, k < 2 → parseFieldDescriptor (TX1 k).2.2.1 = some (tyX1 k) := by decide +kernel
abbrev cX1_init : ByteArray := prog_3_method_1_code
def yX1_init : MethodName := ⟨RX1, "<init>", "()V"⟩
abbrev cX1_numberAt : ByteArray := prog_3_method_2_code
def yX1_numberAt : MethodName := ⟨RX1, "numberAt", "(I)I"⟩
abbrev cX1_append : ByteArray := prog_3_method_3_code
def yX1_append : MethodName := ⟨RX1, "append", "(I)Z"⟩
abbrev cX1_removeLast : ByteArray := prog_3_method_4_code
def yX1_removeLast : MethodName := ⟨RX1, "removeLast", "()I"⟩
abbrev cX1_become : ByteArray := prog_3_method_5_code
def yX1_become : MethodName := ⟨RX1, "become", "(LEndlessrows$Row;)V"⟩
abbrev cX1_countUpTo : ByteArray := prog_3_method_6_code
def yX1_countUpTo : MethodName := ⟨RX1, "countUpTo", "(I)I"⟩
abbrev cX1_isRising : ByteArray := prog_3_method_7_code
def yX1_isRising : MethodName := ⟨RX1, "isRising", "()Z"⟩
def RX2 : String := "Endlessrows$Well"
def TX2 : u_T := fun k => match k with
  | 0 => ("Endlessrows$Well", "rows", "[LEndlessrows$Row;", true)
  | 1 => ("Endlessrows$Well", "queue", "LEndlessrows$Queue;", true)
  | 2 => ("Endlessrows$Well", "kind", "I", false)
  | 3 => ("Endlessrows$Well", "set", "I", false)
  | 4 => ("Endlessrows$Well", "isFalling", "Z", false)
  | 5 => ("Endlessrows$Well", "closedRows", "I", false)
  | 6 => ("Endlessrows$Well", "drawn", "I", false)
  | _ => ("Endlessrows$Well", "lastKey", "I", false)
def tyX2 : Nat → FieldType := fun k => match k with
  | 0 => .array (.object "Endlessrows$Row")
  | 1 => .object "Endlessrows$Queue"
  | 2 => .int
  | 3 => .int
  | 4 => .boolean
  | 5 => .int
  | 6 => .int
  | _ => .int
abbrev wsX20 : List Cond := u_ws RX2 TX2 8
theorem nmX2 : ∀ a, a < 8 → ∀ b, b < 8 → a ≠ b → (TX2 a).2.1 ≠ (TX2 b).2.1 := by decide +kernel
theorem tyX2_ok : ∀ k, k < 8 → parseFieldDescriptor (TX2 k).2.2.1 = some (tyX2 k) := by decide +kernel
abbrev cX2_init : ByteArray := prog_4_method_1_code
def yX2_init : MethodName := ⟨RX2, "<init>", "()V"⟩
abbrev cX2_beginGrid : ByteArray := prog_4_method_2_code
def yX2_beginGrid : MethodName := ⟨RX2, "beginGrid", "(ILEndlessrows$Row;LEndlessrows$Row;LEndlessrows$Row;)V"⟩
abbrev cX2_beginMerged : ByteArray := prog_4_method_3_code
def yX2_beginMerged : MethodName := ⟨RX2, "beginMerged", "([LEndlessrows$Row;IZ)V"⟩
abbrev cX2_begin : ByteArray := prog_4_method_4_code
def yX2_begin : MethodName := ⟨RX2, "begin", "(IIZ)V"⟩
abbrev cX2_restart : ByteArray := prog_4_method_5_code
def yX2_restart : MethodName := ⟨RX2, "restart", "()V"⟩
abbrev cX2_become : ByteArray := prog_4_method_6_code
def yX2_become : MethodName := ⟨RX2, "become", "(LEndlessrows$Well;)V"⟩
abbrev cX2_takeRows : ByteArray := prog_4_method_7_code
def yX2_takeRows : MethodName := ⟨RX2, "takeRows", "([LEndlessrows$Row;)V"⟩
abbrev cX2_tell : ByteArray := prog_4_method_8_code
def yX2_tell : MethodName := ⟨RX2, "tell", "()I"⟩
abbrev cX2_tellBelow : ByteArray := prog_4_method_9_code
def yX2_tellBelow : MethodName := ⟨RX2, "tellBelow", "(II)I"⟩
abbrev cX2_tellPrime : ByteArray := prog_4_method_10_code
def yX2_tellPrime : MethodName := ⟨RX2, "tellPrime", "()V"⟩
abbrev cX2_offerProducts : ByteArray := prog_4_method_11_code
def yX2_offerProducts : MethodName := ⟨RX2, "offerProducts", "(II)V"⟩
abbrev cX2_offerNeighbours : ByteArray := prog_4_method_12_code
def yX2_offerNeighbours : MethodName := ⟨RX2, "offerNeighbours", "(III)V"⟩
abbrev cX2_offerOfGrid : ByteArray := prog_4_method_13_code
def yX2_offerOfGrid : MethodName := ⟨RX2, "offerOfGrid", "(III)V"⟩
abbrev cX2_offerOfRow : ByteArray := prog_4_method_14_code
def yX2_offerOfRow : MethodName := ⟨RX2, "offerOfRow", "(II)V"⟩
abbrev cX2_closeRow : ByteArray := prog_4_method_15_code
def yX2_closeRow : MethodName := ⟨RX2, "closeRow", "(I)I"⟩
abbrev cX2_isEmpty : ByteArray := prog_4_method_16_code
def yX2_isEmpty : MethodName := ⟨RX2, "isEmpty", "()Z"⟩
abbrev cX2_isDry : ByteArray := prog_4_method_17_code
def yX2_isDry : MethodName := ⟨RX2, "isDry", "()Z"⟩
abbrev cX2_nextNumber : ByteArray := prog_4_method_18_code
def yX2_nextNumber : MethodName := ⟨RX2, "nextNumber", "()I"⟩
abbrev cX2_numberBehind : ByteArray := prog_4_method_19_code
def yX2_numberBehind : MethodName := ⟨RX2, "numberBehind", "(I)I"⟩
abbrev cX2_lastNumber : ByteArray := prog_4_method_20_code
def yX2_lastNumber : MethodName := ⟨RX2, "lastNumber", "()I"⟩
abbrev cX2_lastPlace : ByteArray := prog_4_method_21_code
def yX2_lastPlace : MethodName := ⟨RX2, "lastPlace", "(I)I"⟩
abbrev cX2_limit : ByteArray := prog_4_method_22_code
def yX2_limit : MethodName := ⟨RX2, "limit", "()I"⟩
abbrev cX2_hasPlaces : ByteArray := prog_4_method_23_code
def yX2_hasPlaces : MethodName := ⟨RX2, "hasPlaces", "()Z"⟩
abbrev cX2_tagAt : ByteArray := prog_4_method_24_code
def yX2_tagAt : MethodName := ⟨RX2, "tagAt", "(III)I"⟩
abbrev cX2_canCountTo : ByteArray := prog_4_method_25_code
def yX2_canCountTo : MethodName := ⟨RX2, "canCountTo", "(I)Z"⟩
abbrev cX2_countUpTo : ByteArray := prog_4_method_26_code
def yX2_countUpTo : MethodName := ⟨RX2, "countUpTo", "(I)I"⟩
abbrev cX2_countProducts : ByteArray := prog_4_method_27_code
def yX2_countProducts : MethodName := ⟨RX2, "countProducts", "(IIII)I"⟩
abbrev cX2_countOfRows : ByteArray := prog_4_method_28_code
def yX2_countOfRows : MethodName := ⟨RX2, "countOfRows", "(I)I"⟩
abbrev cX2_countPrimes : ByteArray := prog_4_method_29_code
def yX2_countPrimes : MethodName := ⟨RX2, "countPrimes", "(I)I"⟩
abbrev cX2_countOfGrid : ByteArray := prog_4_method_30_code
def yX2_countOfGrid : MethodName := ⟨RX2, "countOfGrid", "(I)I"⟩
abbrev cX2_isGrid : ByteArray := prog_4_method_31_code
def yX2_isGrid : MethodName := ⟨RX2, "isGrid", "()Z"⟩
abbrev cX2_isMember : ByteArray := prog_4_method_32_code
def yX2_isMember : MethodName := ⟨RX2, "isMember", "(II)Z"⟩
abbrev cX2_rankOf : ByteArray := prog_4_method_33_code
def yX2_rankOf : MethodName := ⟨RX2, "rankOf", "(I)I"⟩
abbrev cX2_gridNumber : ByteArray := prog_4_method_34_code
def yX2_gridNumber : MethodName := ⟨RX2, "gridNumber", "(III)I"⟩
abbrev cX2_isPrime : ByteArray := prog_4_method_35_code
def yX2_isPrime : MethodName := ⟨RX2, "isPrime", "(I)Z"⟩
def RX3 : String := "Endlessrows"
def TX3 : u_T := fun k => match k with
  | 0 => ("Endlessrows", "rows", "[LEndlessrows$Row;", true)
  | 1 => ("Endlessrows", "zero", "LEndlessrows$Row;", true)
  | 2 => ("Endlessrows", "wells", "[LEndlessrows$Well;", true)
  | 3 => ("Endlessrows", "trial", "LEndlessrows$Well;", true)
  | 4 => ("Endlessrows", "otherTrial", "LEndlessrows$Well;", true)
  | _ => ("Endlessrows", "knocks", "I", false)
def tyX3 : Nat → FieldType := fun k => match k with
  | 0 => .array (.object "Endlessrows$Row")
  | 1 => .object "Endlessrows$Row"
  | 2 => .array (.object "Endlessrows$Well")
  | 3 => .object "Endlessrows$Well"
  | 4 => .object "Endlessrows$Well"
  | _ => .int
abbrev wsX30 : List Cond := u_ws RX3 TX3 6
theorem nmX3 : ∀ a, a < 6 → ∀ b, b < 6 → a ≠ b → (TX3 a).2.1 ≠ (TX3 b).2.1 := by decide +kernel
theorem tyX3_ok : ∀ k, k < 6 → parseFieldDescriptor (TX3 k).2.2.1 = some (tyX3 k) := by decide +kernel
abbrev cX3_init : ByteArray := prog_1_method_1_code
def yX3_init : MethodName := ⟨RX3, "<init>", "()V"⟩
abbrev cX3_add : ByteArray := prog_1_method_2_code
def yX3_add : MethodName := ⟨RX3, "add", "(II)I"⟩
abbrev cX3_cut : ByteArray := prog_1_method_3_code
def yX3_cut : MethodName := ⟨RX3, "cut", "(I)I"⟩
abbrev cX3_fill : ByteArray := prog_1_method_5_code
def yX3_fill : MethodName := ⟨RX3, "fill", "(IIII)I"⟩
abbrev cX3_rowAt : ByteArray := prog_1_method_6_code
def yX3_rowAt : MethodName := ⟨RX3, "rowAt", "(II)I"⟩
abbrev cX3_rowSize : ByteArray := prog_1_method_7_code
def yX3_rowSize : MethodName := ⟨RX3, "rowSize", "(I)I"⟩
abbrev cX3_least : ByteArray := prog_1_method_9_code
def yX3_least : MethodName := ⟨RX3, "least", "(II)I"⟩
abbrev cX3_powers : ByteArray := prog_1_method_10_code
def yX3_powers : MethodName := ⟨RX3, "powers", "(II)I"⟩
abbrev cX3_sums : ByteArray := prog_1_method_11_code
def yX3_sums : MethodName := ⟨RX3, "sums", "(III)I"⟩
abbrev cX3_triples : ByteArray := prog_1_method_12_code
def yX3_triples : MethodName := ⟨RX3, "triples", "(IIII)I"⟩
abbrev cX3_merge : ByteArray := prog_1_method_13_code
def yX3_merge : MethodName := ⟨RX3, "merge", "(IIZ)I"⟩
abbrev cX3_table : ByteArray := prog_1_method_14_code
def yX3_table : MethodName := ⟨RX3, "table", "(III)I"⟩
abbrev cX3_primes : ByteArray := prog_1_method_15_code
def yX3_primes : MethodName := ⟨RX3, "primes", "(I)I"⟩
abbrev cX3_draw : ByteArray := prog_1_method_16_code
def yX3_draw : MethodName := ⟨RX3, "draw", "(I)I"⟩
abbrev cX3_draws : ByteArray := prog_1_method_17_code
def yX3_draws : MethodName := ⟨RX3, "draws", "(II)I"⟩
abbrev cX3_skip : ByteArray := prog_1_method_18_code
def yX3_skip : MethodName := ⟨RX3, "skip", "(II)I"⟩
abbrev cX3_copy : ByteArray := prog_1_method_19_code
def yX3_copy : MethodName := ⟨RX3, "copy", "(II)I"⟩
abbrev cX3_shake : ByteArray := prog_1_method_20_code
def yX3_shake : MethodName := ⟨RX3, "shake", "(I)I"⟩
abbrev cX3_anew : ByteArray := prog_1_method_21_code
def yX3_anew : MethodName := ⟨RX3, "anew", "(I)I"⟩
abbrev cX3_again : ByteArray := prog_1_method_22_code
def yX3_again : MethodName := ⟨RX3, "again", "(I)I"⟩
abbrev cX3_close : ByteArray := prog_1_method_23_code
def yX3_close : MethodName := ⟨RX3, "close", "(II)I"⟩
abbrev cX3_drop : ByteArray := prog_1_method_24_code
def yX3_drop : MethodName := ⟨RX3, "drop", "(I)I"⟩
abbrev cX3_peek : ByteArray := prog_1_method_26_code
def yX3_peek : MethodName := ⟨RX3, "peek", "(I)I"⟩
abbrev cX3_ofWell : ByteArray := prog_1_method_27_code
def yX3_ofWell : MethodName := ⟨RX3, "ofWell", "(II)I"⟩
abbrev cX3_nth : ByteArray := prog_1_method_28_code
def yX3_nth : MethodName := ⟨RX3, "nth", "(II)I"⟩
abbrev cX3_upTo : ByteArray := prog_1_method_29_code
def yX3_upTo : MethodName := ⟨RX3, "upTo", "(II)I"⟩
abbrev cX3_ways : ByteArray := prog_1_method_30_code
def yX3_ways : MethodName := ⟨RX3, "ways", "(II)I"⟩
abbrev cX3_waits : ByteArray := prog_1_method_31_code
def yX3_waits : MethodName := ⟨RX3, "waits", "(II)I"⟩
abbrev cX3_isAlike : ByteArray := prog_1_method_35_code
def yX3_isAlike : MethodName := ⟨RX3, "isAlike", "(II)Z"⟩
abbrev cX3_house : ByteArray := prog_1_method_36_code
def yX3_house : MethodName := ⟨RX3, "house", "(I)I"⟩
abbrev cX3_isSound : ByteArray := prog_1_method_37_code
def yX3_isSound : MethodName := ⟨RX3, "isSound", "()Z"⟩
abbrev cX3_digest : ByteArray := prog_1_method_38_code
def yX3_digest : MethodName := ⟨RX3, "digest", "()J"⟩
abbrev cX3_findRow : ByteArray := prog_1_method_39_code
def yX3_findRow : MethodName := ⟨RX3, "findRow", "(I)LEndlessrows$Row;"⟩
abbrev cX3_findWell : ByteArray := prog_1_method_40_code
def yX3_findWell : MethodName := ⟨RX3, "findWell", "(I)LEndlessrows$Well;"⟩
abbrev cX3_requirePlace : ByteArray := prog_1_method_41_code
def yX3_requirePlace : MethodName := ⟨RX3, "requirePlace", "(II)V"⟩
abbrev cX3_requireWithin : ByteArray := prog_1_method_42_code
def yX3_requireWithin : MethodName := ⟨RX3, "requireWithin", "(III)V"⟩
abbrev cX3_doTrialsTellAlike : ByteArray := prog_1_method_44_code
def yX3_doTrialsTellAlike : MethodName := ⟨RX3, "doTrialsTellAlike", "()Z"⟩
abbrev cX3_shareOf : ByteArray := prog_1_method_45_code
def yX3_shareOf : MethodName := ⟨RX3, "shareOf", "(LEndlessrows$Well;I)I"⟩
abbrev cX3_areRowsRising : ByteArray := prog_1_method_46_code
def yX3_areRowsRising : MethodName := ⟨RX3, "areRowsRising", "()Z"⟩
abbrev cX3_areQueuesWithinLimits : ByteArray := prog_1_method_47_code
def yX3_areQueuesWithinLimits : MethodName := ⟨RX3, "areQueuesWithinLimits", "()Z"⟩
abbrev cX3_hasToldNoMoreThanIs : ByteArray := prog_1_method_48_code
def yX3_hasToldNoMoreThanIs : MethodName := ⟨RX3, "hasToldNoMoreThanIs", "(LEndlessrows$Well;)Z"⟩
def RJ6 : String := "java/lang/Integer"
abbrev cJ6_bitCount_0f7a4 : ByteArray := prog_10_method_49_code
def yJ6_bitCount_0f7a4 : MethodName := ⟨RJ6, "bitCount", "(I)I"⟩
def RL : String := "EndlessrowsLaw"
abbrev cL_below : ByteArray := method_2_code
def yL_below : MethodName := ⟨RL, "below", "(II)I"⟩
abbrev cL_cell : ByteArray := method_3_code
def yL_cell : MethodName := ⟨RL, "cell", "([II)I"⟩
abbrev cL_roll : ByteArray := method_4_code
def yL_roll : MethodName := ⟨RL, "roll", "([II)I"⟩
abbrev cL_law : ByteArray := code
def yL_law : MethodName := ⟨RL, "law", "([I)Z"⟩
abbrev cL_begin : ByteArray := method_6_code
def yL_begin : MethodName := ⟨RL, "begin", "(LEndlessrows;IIII)V"⟩
abbrev cL_act : ByteArray := method_7_code
def yL_act : MethodName := ⟨RL, "act", "(LEndlessrows;IIII)V"⟩
abbrev cL_isPrime : ByteArray := method_8_code
def yL_isPrime : MethodName := ⟨RL, "isPrime", "(I)Z"⟩
abbrev cL_isCourse : ByteArray := method_9_code
def yL_isCourse : MethodName := ⟨RL, "isCourse", "(LEndlessrows;III)Z"⟩
abbrev cL_isGoing : ByteArray := method_10_code
def yL_isGoing : MethodName := ⟨RL, "isGoing", "(LEndlessrows;III)Z"⟩
abbrev cL_isMerged : ByteArray := method_11_code
def yL_isMerged : MethodName := ⟨RL, "isMerged", "(LEndlessrows;IIIZI)Z"⟩
abbrev cL_exponents : ByteArray := method_12_code
def yL_exponents : MethodName := ⟨RL, "exponents", "(III)I"⟩
abbrev cL_isCounted : ByteArray := method_13_code
def yL_isCounted : MethodName := ⟨RL, "isCounted", "(LEndlessrows;IIII)Z"⟩
/-- the words that every method is given -/
def er_G : List Cond := lw_tbl.filter goodWord
theorem er_in (i : Nat) {w : Cond} (h : lw_tbl[i]? = some w) (hg : goodWord w = true) : w ∈ er_G := List.mem_filter.mpr ⟨List.mem_of_getElem? h, hg⟩
theorem er_good : ∀ w ∈ er_G, goodWord w = true := fun w hw => (List.mem_filter.mp hw).2
theorem er_hts {args : Array Value} {s : State} (h : ∀ w ∈ lw_tbl, w.before args s = true) : ∀ w ∈ er_G, w.before args s = true := fun w hw => h w (List.mem_filter.mp hw).1
