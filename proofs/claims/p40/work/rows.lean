section
/-- a private method of a class that the tables say can be made, by its rows of tables_1 -/
def lw_okq (q : MethodName × Nat) : Prop := (q.1.cls ≠ "java/lang/invoke/MethodHandle" ∧ q.1.cls ≠ "java/lang/invoke/VarHandle") ∧ Cond.instantiable q.1.cls q.2 ∈ tables_1 ∧ Cond.privateMethod q.1 ∈ tables_1 ∧ Cond.instanceMethod q.1 ∈ tables_1
theorem lw_p0 : lw_okq (⟨"Endlessrows", "findRow", "(I)LEndlessrows$Row;"⟩, 6) := ⟨⟨by decide +kernel, by decide +kernel⟩, List.mem_of_getElem? (i := 14) (by decide +kernel), List.mem_of_getElem? (i := 123) (by decide +kernel), List.mem_of_getElem? (i := 124) (by decide +kernel)⟩
theorem lw_p1 : lw_okq (⟨"java/lang/Throwable", "fillInStackTrace", "(I)Ljava/lang/Throwable;"⟩, 6) := ⟨⟨by decide +kernel, by decide +kernel⟩, List.mem_of_getElem? (i := 164) (by decide +kernel), List.mem_of_getElem? (i := 162) (by decide +kernel), List.mem_of_getElem? (i := 163) (by decide +kernel)⟩
theorem lw_p2 : lw_okq (⟨"Endlessrows", "areRowsRising", "()Z"⟩, 6) := ⟨⟨by decide +kernel, by decide +kernel⟩, List.mem_of_getElem? (i := 14) (by decide +kernel), List.mem_of_getElem? (i := 217) (by decide +kernel), List.mem_of_getElem? (i := 218) (by decide +kernel)⟩
theorem lw_p3 : lw_okq (⟨"Endlessrows", "areQueuesWithinLimits", "()Z"⟩, 6) := ⟨⟨by decide +kernel, by decide +kernel⟩, List.mem_of_getElem? (i := 14) (by decide +kernel), List.mem_of_getElem? (i := 225) (by decide +kernel), List.mem_of_getElem? (i := 226) (by decide +kernel)⟩
theorem lw_p4 : lw_okq (⟨"Endlessrows$Well", "takeRows", "([LEndlessrows$Row;)V"⟩, 8) := ⟨⟨by decide +kernel, by decide +kernel⟩, List.mem_of_getElem? (i := 40) (by decide +kernel), List.mem_of_getElem? (i := 250) (by decide +kernel), List.mem_of_getElem? (i := 251) (by decide +kernel)⟩
theorem lw_p5 : lw_okq (⟨"Endlessrows$Queue", "sink", "(I)V"⟩, 2) := ⟨⟨by decide +kernel, by decide +kernel⟩, List.mem_of_getElem? (i := 47) (by decide +kernel), List.mem_of_getElem? (i := 274) (by decide +kernel), List.mem_of_getElem? (i := 275) (by decide +kernel)⟩
theorem lw_p6 : lw_okq (⟨"Endlessrows$Queue", "refill", "(II)V"⟩, 2) := ⟨⟨by decide +kernel, by decide +kernel⟩, List.mem_of_getElem? (i := 47) (by decide +kernel), List.mem_of_getElem? (i := 278) (by decide +kernel), List.mem_of_getElem? (i := 279) (by decide +kernel)⟩
theorem lw_p7 : lw_okq (⟨"Endlessrows$Well", "countOfRows", "(I)I"⟩, 8) := ⟨⟨by decide +kernel, by decide +kernel⟩, List.mem_of_getElem? (i := 40) (by decide +kernel), List.mem_of_getElem? (i := 316) (by decide +kernel), List.mem_of_getElem? (i := 317) (by decide +kernel)⟩
theorem lw_p8 : lw_okq (⟨"Endlessrows$Well", "countOfGrid", "(I)I"⟩, 8) := ⟨⟨by decide +kernel, by decide +kernel⟩, List.mem_of_getElem? (i := 40) (by decide +kernel), List.mem_of_getElem? (i := 330) (by decide +kernel), List.mem_of_getElem? (i := 331) (by decide +kernel)⟩
theorem lw_p9 : lw_okq (⟨"Endlessrows$Well", "gridNumber", "(III)I"⟩, 8) := ⟨⟨by decide +kernel, by decide +kernel⟩, List.mem_of_getElem? (i := 40) (by decide +kernel), List.mem_of_getElem? (i := 334) (by decide +kernel), List.mem_of_getElem? (i := 335) (by decide +kernel)⟩
theorem lw_p10 : lw_okq (⟨"Endlessrows", "doTrialsTellAlike", "()Z"⟩, 6) := ⟨⟨by decide +kernel, by decide +kernel⟩, List.mem_of_getElem? (i := 14) (by decide +kernel), List.mem_of_getElem? (i := 339) (by decide +kernel), List.mem_of_getElem? (i := 340) (by decide +kernel)⟩
theorem lw_p11 : lw_okq (⟨"Endlessrows$Well", "tellPrime", "()V"⟩, 8) := ⟨⟨by decide +kernel, by decide +kernel⟩, List.mem_of_getElem? (i := 40) (by decide +kernel), List.mem_of_getElem? (i := 351) (by decide +kernel), List.mem_of_getElem? (i := 352) (by decide +kernel)⟩
theorem lw_p12 : lw_okq (⟨"Endlessrows$Well", "offerProducts", "(II)V"⟩, 8) := ⟨⟨by decide +kernel, by decide +kernel⟩, List.mem_of_getElem? (i := 40) (by decide +kernel), List.mem_of_getElem? (i := 371) (by decide +kernel), List.mem_of_getElem? (i := 372) (by decide +kernel)⟩
theorem lw_p13 : lw_okq (⟨"Endlessrows$Well", "rankOf", "(I)I"⟩, 8) := ⟨⟨by decide +kernel, by decide +kernel⟩, List.mem_of_getElem? (i := 40) (by decide +kernel), List.mem_of_getElem? (i := 378) (by decide +kernel), List.mem_of_getElem? (i := 379) (by decide +kernel)⟩
theorem lw_p14 : lw_okq (⟨"Endlessrows$Well", "offerOfRow", "(II)V"⟩, 8) := ⟨⟨by decide +kernel, by decide +kernel⟩, List.mem_of_getElem? (i := 40) (by decide +kernel), List.mem_of_getElem? (i := 382) (by decide +kernel), List.mem_of_getElem? (i := 383) (by decide +kernel)⟩
theorem lw_p15 : lw_okq (⟨"Endlessrows$Well", "offerNeighbours", "(III)V"⟩, 8) := ⟨⟨by decide +kernel, by decide +kernel⟩, List.mem_of_getElem? (i := 40) (by decide +kernel), List.mem_of_getElem? (i := 386) (by decide +kernel), List.mem_of_getElem? (i := 387) (by decide +kernel)⟩
def lw_privs_1 : List (MethodName × Nat) := [(⟨"Endlessrows", "findRow", "(I)LEndlessrows$Row;"⟩, 6), (⟨"java/lang/Throwable", "fillInStackTrace", "(I)Ljava/lang/Throwable;"⟩, 6), (⟨"Endlessrows", "areRowsRising", "()Z"⟩, 6), (⟨"Endlessrows", "areQueuesWithinLimits", "()Z"⟩, 6), (⟨"Endlessrows$Well", "takeRows", "([LEndlessrows$Row;)V"⟩, 8), (⟨"Endlessrows$Queue", "sink", "(I)V"⟩, 2), (⟨"Endlessrows$Queue", "refill", "(II)V"⟩, 2), (⟨"Endlessrows$Well", "countOfRows", "(I)I"⟩, 8), (⟨"Endlessrows$Well", "countOfGrid", "(I)I"⟩, 8), (⟨"Endlessrows$Well", "gridNumber", "(III)I"⟩, 8), (⟨"Endlessrows", "doTrialsTellAlike", "()Z"⟩, 6), (⟨"Endlessrows$Well", "tellPrime", "()V"⟩, 8), (⟨"Endlessrows$Well", "offerProducts", "(II)V"⟩, 8), (⟨"Endlessrows$Well", "rankOf", "(I)I"⟩, 8), (⟨"Endlessrows$Well", "offerOfRow", "(II)V"⟩, 8), (⟨"Endlessrows$Well", "offerNeighbours", "(III)V"⟩, 8)]
theorem lw_r1 : ∀ q ∈ lw_privs_1, lw_okq q := List.forall_mem_cons.mpr ⟨lw_p0, List.forall_mem_cons.mpr ⟨lw_p1, List.forall_mem_cons.mpr ⟨lw_p2, List.forall_mem_cons.mpr ⟨lw_p3, List.forall_mem_cons.mpr ⟨lw_p4, List.forall_mem_cons.mpr ⟨lw_p5, List.forall_mem_cons.mpr ⟨lw_p6, List.forall_mem_cons.mpr ⟨lw_p7, List.forall_mem_cons.mpr ⟨lw_p8, List.forall_mem_cons.mpr ⟨lw_p9, List.forall_mem_cons.mpr ⟨lw_p10, List.forall_mem_cons.mpr ⟨lw_p11, List.forall_mem_cons.mpr ⟨lw_p12, List.forall_mem_cons.mpr ⟨lw_p13, List.forall_mem_cons.mpr ⟨lw_p14, List.forall_mem_cons.mpr ⟨lw_p15, fun _ h => absurd h List.not_mem_nil⟩⟩⟩⟩⟩⟩⟩⟩⟩⟩⟩⟩⟩⟩⟩⟩
theorem lw_p16 : lw_okq (⟨"Endlessrows$Well", "offerOfGrid", "(III)V"⟩, 8) := ⟨⟨by decide +kernel, by decide +kernel⟩, List.mem_of_getElem? (i := 40) (by decide +kernel), List.mem_of_getElem? (i := 390) (by decide +kernel), List.mem_of_getElem? (i := 391) (by decide +kernel)⟩
theorem lw_p17 : lw_okq (⟨"Endlessrows", "findWell", "(I)LEndlessrows$Well;"⟩, 6) := ⟨⟨by decide +kernel, by decide +kernel⟩, List.mem_of_getElem? (i := 14) (by decide +kernel), List.mem_of_getElem? (i := 414) (by decide +kernel), List.mem_of_getElem? (i := 415) (by decide +kernel)⟩
theorem lw_p18 : lw_okq (⟨"Endlessrows$Well", "isGrid", "()Z"⟩, 8) := ⟨⟨by decide +kernel, by decide +kernel⟩, List.mem_of_getElem? (i := 40) (by decide +kernel), List.mem_of_getElem? (i := 427) (by decide +kernel), List.mem_of_getElem? (i := 428) (by decide +kernel)⟩
def lw_privs_2 : List (MethodName × Nat) := [(⟨"Endlessrows$Well", "offerOfGrid", "(III)V"⟩, 8), (⟨"Endlessrows", "findWell", "(I)LEndlessrows$Well;"⟩, 6), (⟨"Endlessrows$Well", "isGrid", "()Z"⟩, 8)]
theorem lw_r2 : ∀ q ∈ lw_privs_2, lw_okq q := List.forall_mem_cons.mpr ⟨lw_p16, List.forall_mem_cons.mpr ⟨lw_p17, List.forall_mem_cons.mpr ⟨lw_p18, fun _ h => absurd h List.not_mem_nil⟩⟩⟩
def lw_privs : List (MethodName × Nat) := lw_privs_1 ++ (lw_privs_2)
def lw_tbl : List Cond := k2_sels lw_privs ++ tables_1
theorem lw_privs_ok : ∀ q ∈ lw_privs, lw_okq q := by
  show ∀ q ∈ lw_privs_1 ++ (lw_privs_2), lw_okq q
  exact List.forall_mem_append.mpr ⟨lw_r1, lw_r2⟩

-- ===== end of PART A =====
def RX0 : String := "Endlessrows$Queue"
def TX0 : u_T := fun k => match k with
  | 0 => ("Endlessrows$Queue", "keys", "[I", true)
  | _ => ("Endlessrows$Queue", "size", "I", false)
def tyX0 : Nat → FieldType := fun k => match k with
  | 0 => .array .int
  | _ => .int
abbrev wsX00 : List Cond := u_ws RX0 TX0 2
theorem nmX0 : ∀ a, a < 2 → ∀ b, b < 2 → a ≠ b → (TX0 a).2.1 ≠ (TX0 b).2.1 := by decide +kernel
theorem tyX0_ok : ∀ k, k < 2 → parseFieldDescriptor (TX0 k).2.2.1 = some (tyX0 k) := by decide +kernel
abbrev cX0_init : ByteArray := prog_2_method_1_code
def yX0_init : MethodName := ⟨RX0, "<init>", "()V"⟩
abbrev cX0_keyOf : ByteArray := prog_2_method_2_code
def yX0_keyOf : MethodName := ⟨RX0, "keyOf", "(II)I"⟩
abbrev cX0_numberOf : ByteArray := prog_2_method_3_code
def yX0_numberOf : MethodName := ⟨RX0, "numberOf", "(I)I"⟩
abbrev cX0_tagOf : ByteArray := prog_2_method_4_code
def yX0_tagOf : MethodName := ⟨RX0, "tagOf", "(I)I"⟩
abbrev cX0_firstNumber : ByteArray := prog_2_method_5_code
def yX0_firstNumber : MethodName := ⟨RX0, "firstNumber", "()I"⟩
abbrev cX0_push : ByteArray := prog_2_method_6_code
def yX0_push : MethodName := ⟨RX0, "push", "(I)V"⟩
abbrev cX0_pop : ByteArray := prog_2_method_7_code
def yX0_pop : MethodName := ⟨RX0, "pop", "()I"⟩
abbrev cX0_sink : ByteArray := prog_2_method_8_code
def yX0_sink : MethodName := ⟨RX0, "sink", "(I)V"⟩
abbrev cX0_turnOver : ByteArray := prog_2_method_9_code
def yX0_turnOver : MethodName := ⟨RX0, "turnOver", "()V"⟩
abbrev cX0_remove : ByteArray := prog_2_method_10_code
def yX0_remove : MethodName := ⟨RX0, "remove", "(I)V"⟩
abbrev cX0_refill : ByteArray := prog_2_method_11_code
def yX0_refill : MethodName := ⟨RX0, "refill", "(II)V"⟩
abbrev cX0_holds : ByteArray := prog_2_method_12_code
def yX0_holds : MethodName := ⟨RX0, "holds", "(I)Z"⟩
abbrev cX0_countUpTo : ByteArray := prog_2_method_13_code
def yX0_countUpTo : MethodName := ⟨RX0, "countUpTo", "(I)I"⟩
abbrev cX0_become : ByteArray := prog_2_method_14_code
def yX0_become : MethodName := ⟨RX0, "become", "(LEndlessrows$Queue;)V"⟩
def RX1 : String := "Endlessrows$Row"
def TX1 : u_T := fun k => match k with
  | 0 => ("Endlessrows$Row", "numbers", "[I", true)
  | _ => ("Endlessrows$Row", "count", "I", false)
def tyX1 : Nat → FieldType := fun k => match k with
  | 0 => .array .int
  | _ => .int
abbrev wsX10 : List Cond := u_ws RX1 TX1 2
theorem nmX1 : ∀ a, a < 2 → ∀ b, b < 2 → a ≠ b → (TX1 a).2.1 ≠ (TX1 b).2.1 := by decide +kernel
theorem tyX1_ok : ∀ k, k < 2 → parseFieldDescriptor (TX1 k).2.2.1 = some (tyX1 k) := by decide +kernel
abbrev cX1_init : ByteArray := prog_3_method_1_code
def yX1_init : MethodName := ⟨RX1, "<init>", "()V"⟩
abbrev cX1_numberAt : ByteArray := prog_3_method_2_code
def yX1_numberAt : MethodName := ⟨RX1, "numberAt", "(I)I"⟩
abbrev cX1_append : ByteArray := prog_3_method_3_code
def yX1_append : MethodName := ⟨RX1, "append", "(I)Z"⟩
abbrev cX1_removeLast : ByteArray := prog_3_method_4_code
def yX1_removeLast : MethodName := ⟨RX1, "removeLast", "()I"⟩
abbrev cX1_become : ByteArray := prog_3_method_5_code
def yX1_become : MethodName := ⟨RX1, "become", "(LEndlessrows$Row;)V"⟩
abbrev cX1_countUpTo : ByteArray := prog_3_method_6_code
def yX1_countUpTo : MethodName := ⟨RX1, "countUpTo", "(I)I"⟩
abbrev cX1_isRising : ByteArray := prog_3_method_7_code
def yX1_isRising : MethodName := ⟨RX1, "isRising", "()Z"⟩
def RX2 : String := "Endlessrows$Well"
def TX2 : u_T := fun k => match k with
  | 0 => ("Endlessrows$Well", "rows", "[LEndlessrows$Row;", true)
  | 1 => ("Endlessrows$Well", "queue", "LEndlessrows$Queue;", true)
  | 2 => ("Endlessrows$Well", "kind", "I", false)
  | 3 => ("Endlessrows$Well", "set", "I", false)
  | 4 => ("Endlessrows$Well", "isFalling", "Z", false)
  | 5 => ("Endlessrows$Well", "closedRows", "I", false)
  | 6 => ("Endlessrows$Well", "drawn", "I", false)
  | _ => ("Endlessrows$Well", "lastKey", "I", false)
def tyX2 : Nat → FieldType := fun k => match k with
  | 0 => .array (.object "Endlessrows$Row")
  | 1 => .object "Endlessrows$Queue"
  | 2 => .int
  | 3 => .int
  | 4 => .boolean
  | 5 => .int
  | 6 => .int
  | _ => .int
abbrev wsX20 : List Cond := u_ws RX2 TX2 8
theorem nmX2 : ∀ a, a < 8 → ∀ b, b < 8 → a ≠ b → (TX2 a).2.1 ≠ (TX2 b).2.1 := by decide +kernel
theorem tyX2_ok : ∀ k, k < 8 → parseFieldDescriptor (TX2 k).2.2.1 = some (tyX2 k) := by decide +kernel
abbrev cX2_init : ByteArray := prog_4_method_1_code
def yX2_init : MethodName := ⟨RX2, "<init>", "()V"⟩
abbrev cX2_beginGrid : ByteArray := prog_4_method_2_code
def yX2_beginGrid : MethodName := ⟨RX2, "beginGrid", "(ILEndlessrows$Row;LEndlessrows$Row;LEndlessrows$Row;)V"⟩
abbrev cX2_beginMerged : ByteArray := prog_4_method_3_code
def yX2_beginMerged : MethodName := ⟨RX2, "beginMerged", "([LEndlessrows$Row;IZ)V"⟩
abbrev cX2_begin : ByteArray := prog_4_method_4_code
def yX2_begin : MethodName := ⟨RX2, "begin", "(IIZ)V"⟩
abbrev cX2_restart : ByteArray := prog_4_method_5_code
def yX2_restart : MethodName := ⟨RX2, "restart", "()V"⟩
abbrev cX2_become : ByteArray := prog_4_method_6_code
def yX2_become : MethodName := ⟨RX2, "become", "(LEndlessrows$Well;)V"⟩
abbrev cX2_takeRows : ByteArray := prog_4_method_7_code
def yX2_takeRows : MethodName := ⟨RX2, "takeRows", "([LEndlessrows$Row;)V"⟩
abbrev cX2_tell : ByteArray := prog_4_method_8_code
def yX2_tell : MethodName := ⟨RX2, "tell", "()I"⟩
abbrev cX2_tellBelow : ByteArray := prog_4_method_9_code
def yX2_tellBelow : MethodName := ⟨RX2, "tellBelow", "(II)I"⟩
abbrev cX2_tellPrime : ByteArray := prog_4_method_10_code
def yX2_tellPrime : MethodName := ⟨RX2, "tellPrime", "()V"⟩
abbrev cX2_offerProducts : ByteArray := prog_4_method_11_code
def yX2_offerProducts : MethodName := ⟨RX2, "offerProducts", "(II)V"⟩
abbrev cX2_offerNeighbours : ByteArray := prog_4_method_12_code
def yX2_offerNeighbours : MethodName := ⟨RX2, "offerNeighbours", "(III)V"⟩
abbrev cX2_offerOfGrid : ByteArray := prog_4_method_13_code
def yX2_offerOfGrid : MethodName := ⟨RX2, "offerOfGrid", "(III)V"⟩
abbrev cX2_offerOfRow : ByteArray := prog_4_method_14_code
def yX2_offerOfRow : MethodName := ⟨RX2, "offerOfRow", "(II)V"⟩
abbrev cX2_closeRow : ByteArray := prog_4_method_15_code
def yX2_closeRow : MethodName := ⟨RX2, "closeRow", "(I)I"⟩
abbrev cX2_isEmpty : ByteArray := prog_4_method_16_code
def yX2_isEmpty : MethodName := ⟨RX2, "isEmpty", "()Z"⟩
abbrev cX2_isDry : ByteArray := prog_4_method_17_code
def yX2_isDry : MethodName := ⟨RX2, "isDry", "()Z"⟩
abbrev cX2_nextNumber : ByteArray := prog_4_method_18_code
def yX2_nextNumber : MethodName := ⟨RX2, "nextNumber", "()I"⟩
abbrev cX2_numberBehind : ByteArray := prog_4_method_19_code
def yX2_numberBehind : MethodName := ⟨RX2, "numberBehind", "(I)I"⟩
abbrev cX2_lastNumber : ByteArray := prog_4_method_20_code
def yX2_lastNumber : MethodName := ⟨RX2, "lastNumber", "()I"⟩
abbrev cX2_lastPlace : ByteArray := prog_4_method_21_code
def yX2_lastPlace : MethodName := ⟨RX2, "lastPlace", "(I)I"⟩
abbrev cX2_limit : ByteArray := prog_4_method_22_code
def yX2_limit : MethodName := ⟨RX2, "limit", "()I"⟩
abbrev cX2_hasPlaces : ByteArray := prog_4_method_23_code
def yX2_hasPlaces : MethodName := ⟨RX2, "hasPlaces", "()Z"⟩
abbrev cX2_tagAt : ByteArray := prog_4_method_24_code
def yX2_tagAt : MethodName := ⟨RX2, "tagAt", "(III)I"⟩
abbrev cX2_canCountTo : ByteArray := prog_4_method_25_code
def yX2_canCountTo : MethodName := ⟨RX2, "canCountTo", "(I)Z"⟩
abbrev cX2_countUpTo : ByteArray := prog_4_method_26_code
def yX2_countUpTo : MethodName := ⟨RX2, "countUpTo", "(I)I"⟩
abbrev cX2_countProducts : ByteArray := prog_4_method_27_code
def yX2_countProducts : MethodName := ⟨RX2, "countProducts", "(IIII)I"⟩
abbrev cX2_countOfRows : ByteArray := prog_4_method_28_code
def yX2_countOfRows : MethodName := ⟨RX2, "countOfRows", "(I)I"⟩
abbrev cX2_countPrimes : ByteArray := prog_4_method_29_code
def yX2_countPrimes : MethodName := ⟨RX2, "countPrimes", "(I)I"⟩
abbrev cX2_countOfGrid : ByteArray := prog_4_method_30_code
def yX2_countOfGrid : MethodName := ⟨RX2, "countOfGrid", "(I)I"⟩
abbrev cX2_isGrid : ByteArray := prog_4_method_31_code
def yX2_isGrid : MethodName := ⟨RX2, "isGrid", "()Z"⟩
abbrev cX2_isMember : ByteArray := prog_4_method_32_code
def yX2_isMember : MethodName := ⟨RX2, "isMember", "(II)Z"⟩
abbrev cX2_rankOf : ByteArray := prog_4_method_33_code
def yX2_rankOf : MethodName := ⟨RX2, "rankOf", "(I)I"⟩
abbrev cX2_gridNumber : ByteArray := prog_4_method_34_code
def yX2_gridNumber : MethodName := ⟨RX2, "gridNumber", "(III)I"⟩
abbrev cX2_isPrime : ByteArray := prog_4_method_35_code
def yX2_isPrime : MethodName := ⟨RX2, "isPrime", "(I)Z"⟩
def RX3 : String := "Endlessrows"
def TX3 : u_T := fun k => match k with
  | 0 => ("Endlessrows", "rows", "[LEndlessrows$Row;", true)
  | 1 => ("Endlessrows", "zero", "LEndlessrows$Row;", true)
  | 2 => ("Endlessrows", "wells", "[LEndlessrows$Well;", true)
  | 3 => ("Endlessrows", "trial", "LEndlessrows$Well;", true)
  | 4 => ("Endlessrows", "otherTrial", "LEndlessrows$Well;", true)
  | _ => ("Endlessrows", "knocks", "I", false)
def tyX3 : Nat → FieldType := fun k => match k with
  | 0 => .array (.object "Endlessrows$Row")
  | 1 => .object "Endlessrows$Row"
  | 2 => .array (.object "Endlessrows$Well")
  | 3 => .object "Endlessrows$Well"
  | 4 => .object "Endlessrows$Well"
  | _ => .int
abbrev wsX30 : List Cond := u_ws RX3 TX3 6
theorem nmX3 : ∀ a, a < 6 → ∀ b, b < 6 → a ≠ b → (TX3 a).2.1 ≠ (TX3 b).2.1 := by decide +kernel
theorem tyX3_ok : ∀ k, k < 6 → parseFieldDescriptor (TX3 k).2.2.1 = some (tyX3 k) := by decide +kernel
abbrev cX3_init : ByteArray := prog_1_method_1_code
def yX3_init : MethodName := ⟨RX3, "<init>", "()V"⟩
abbrev cX3_add : ByteArray := prog_1_method_2_code
def yX3_add : MethodName := ⟨RX3, "add", "(II)I"⟩
abbrev cX3_cut : ByteArray := prog_1_method_3_code
def yX3_cut : MethodName := ⟨RX3, "cut", "(I)I"⟩
abbrev cX3_fill : ByteArray := prog_1_method_5_code
def yX3_fill : MethodName := ⟨RX3, "fill", "(IIII)I"⟩
abbrev cX3_rowAt : ByteArray := prog_1_method_6_code
def yX3_rowAt : MethodName := ⟨RX3, "rowAt", "(II)I"⟩
abbrev cX3_rowSize : ByteArray := prog_1_method_7_code
def yX3_rowSize : MethodName := ⟨RX3, "rowSize", "(I)I"⟩
abbrev cX3_least : ByteArray := prog_1_method_9_code
def yX3_least : MethodName := ⟨RX3, "least", "(II)I"⟩
abbrev cX3_powers : ByteArray := prog_1_method_10_code
def yX3_powers : MethodName := ⟨RX3, "powers", "(II)I"⟩
abbrev cX3_sums : ByteArray := prog_1_method_11_code
def yX3_sums : MethodName := ⟨RX3, "sums", "(III)I"⟩
abbrev cX3_triples : ByteArray := prog_1_method_12_code
def yX3_triples : MethodName := ⟨RX3, "triples", "(IIII)I"⟩
abbrev cX3_merge : ByteArray := prog_1_method_13_code
def yX3_merge : MethodName := ⟨RX3, "merge", "(IIZ)I"⟩
abbrev cX3_table : ByteArray := prog_1_method_14_code
def yX3_table : MethodName := ⟨RX3, "table", "(III)I"⟩
abbrev cX3_primes : ByteArray := prog_1_method_15_code
def yX3_primes : MethodName := ⟨RX3, "primes", "(I)I"⟩
abbrev cX3_draw : ByteArray := prog_1_method_16_code
def yX3_draw : MethodName := ⟨RX3, "draw", "(I)I"⟩
abbrev cX3_draws : ByteArray := prog_1_method_17_code
def yX3_draws : MethodName := ⟨RX3, "draws", "(II)I"⟩
abbrev cX3_skip : ByteArray := prog_1_method_18_code
def yX3_skip : MethodName := ⟨RX3, "skip", "(II)I"⟩
abbrev cX3_copy : ByteArray := prog_1_method_19_code
def yX3_copy : MethodName := ⟨RX3, "copy", "(II)I"⟩
abbrev cX3_shake : ByteArray := prog_1_method_20_code
def yX3_shake : MethodName := ⟨RX3, "shake", "(I)I"⟩
abbrev cX3_anew : ByteArray := prog_1_method_21_code
def yX3_anew : MethodName := ⟨RX3, "anew", "(I)I"⟩
abbrev cX3_again : ByteArray := prog_1_method_22_code
def yX3_again : MethodName := ⟨RX3, "again", "(I)I"⟩
abbrev cX3_close : ByteArray := prog_1_method_23_code
def yX3_close : MethodName := ⟨RX3, "close", "(II)I"⟩
abbrev cX3_drop : ByteArray := prog_1_method_24_code
def yX3_drop : MethodName := ⟨RX3, "drop", "(I)I"⟩
abbrev cX3_peek : ByteArray := prog_1_method_26_code
def yX3_peek : MethodName := ⟨RX3, "peek", "(I)I"⟩
abbrev cX3_ofWell : ByteArray := prog_1_method_27_code
def yX3_ofWell : MethodName := ⟨RX3, "ofWell", "(II)I"⟩
abbrev cX3_nth : ByteArray := prog_1_method_28_code
def yX3_nth : MethodName := ⟨RX3, "nth", "(II)I"⟩
abbrev cX3_upTo : ByteArray := prog_1_method_29_code
def yX3_upTo : MethodName := ⟨RX3, "upTo", "(II)I"⟩
abbrev cX3_ways : ByteArray := prog_1_method_30_code
def yX3_ways : MethodName := ⟨RX3, "ways", "(II)I"⟩
abbrev cX3_waits : ByteArray := prog_1_method_31_code
def yX3_waits : MethodName := ⟨RX3, "waits", "(II)I"⟩
abbrev cX3_isAlike : ByteArray := prog_1_method_35_code
def yX3_isAlike : MethodName := ⟨RX3, "isAlike", "(II)Z"⟩
abbrev cX3_house : ByteArray := prog_1_method_36_code
def yX3_house : MethodName := ⟨RX3, "house", "(I)I"⟩
abbrev cX3_isSound : ByteArray := prog_1_method_37_code
def yX3_isSound : MethodName := ⟨RX3, "isSound", "()Z"⟩
abbrev cX3_digest : ByteArray := prog_1_method_38_code
def yX3_digest : MethodName := ⟨RX3, "digest", "()J"⟩
abbrev cX3_findRow : ByteArray := prog_1_method_39_code
def yX3_findRow : MethodName := ⟨RX3, "findRow", "(I)LEndlessrows$Row;"⟩
abbrev cX3_findWell : ByteArray := prog_1_method_40_code
def yX3_findWell : MethodName := ⟨RX3, "findWell", "(I)LEndlessrows$Well;"⟩
abbrev cX3_requirePlace : ByteArray := prog_1_method_41_code
def yX3_requirePlace : MethodName := ⟨RX3, "requirePlace", "(II)V"⟩
abbrev cX3_requireWithin : ByteArray := prog_1_method_42_code
def yX3_requireWithin : MethodName := ⟨RX3, "requireWithin", "(III)V"⟩
abbrev cX3_doTrialsTellAlike : ByteArray := prog_1_method_44_code
def yX3_doTrialsTellAlike : MethodName := ⟨RX3, "doTrialsTellAlike", "()Z"⟩
abbrev cX3_shareOf : ByteArray := prog_1_method_45_code
def yX3_shareOf : MethodName := ⟨RX3, "shareOf", "(LEndlessrows$Well;I)I"⟩
abbrev cX3_areRowsRising : ByteArray := prog_1_method_46_code
def yX3_areRowsRising : MethodName := ⟨RX3, "areRowsRising", "()Z"⟩
abbrev cX3_areQueuesWithinLimits : ByteArray := prog_1_method_47_code
def yX3_areQueuesWithinLimits : MethodName := ⟨RX3, "areQueuesWithinLimits", "()Z"⟩
abbrev cX3_hasToldNoMoreThanIs : ByteArray := prog_1_method_48_code
def yX3_hasToldNoMoreThanIs : MethodName := ⟨RX3, "hasToldNoMoreThanIs", "(LEndlessrows$Well;)Z"⟩
def RJ6 : String := "java/lang/Integer"
abbrev cJ6_bitCount_0f7a4 : ByteArray := prog_10_method_49_code
def yJ6_bitCount_0f7a4 : MethodName := ⟨RJ6, "bitCount", "(I)I"⟩
def RL : String := "EndlessrowsLaw"
abbrev cL_below : ByteArray := method_2_code
def yL_below : MethodName := ⟨RL, "below", "(II)I"⟩
abbrev cL_cell : ByteArray := method_3_code
def yL_cell : MethodName := ⟨RL, "cell", "([II)I"⟩
abbrev cL_roll : ByteArray := method_4_code
def yL_roll : MethodName := ⟨RL, "roll", "([II)I"⟩
abbrev cL_law : ByteArray := code
def yL_law : MethodName := ⟨RL, "law", "([I)Z"⟩
abbrev cL_begin : ByteArray := method_6_code
def yL_begin : MethodName := ⟨RL, "begin", "(LEndlessrows;IIII)V"⟩
abbrev cL_act : ByteArray := method_7_code
def yL_act : MethodName := ⟨RL, "act", "(LEndlessrows;IIII)V"⟩
abbrev cL_isPrime : ByteArray := method_8_code
def yL_isPrime : MethodName := ⟨RL, "isPrime", "(I)Z"⟩
abbrev cL_isCourse : ByteArray := method_9_code
def yL_isCourse : MethodName := ⟨RL, "isCourse", "(LEndlessrows;III)Z"⟩
abbrev cL_isGoing : ByteArray := method_10_code
def yL_isGoing : MethodName := ⟨RL, "isGoing", "(LEndlessrows;III)Z"⟩
abbrev cL_isMerged : ByteArray := method_11_code
def yL_isMerged : MethodName := ⟨RL, "isMerged", "(LEndlessrows;IIIZI)Z"⟩
abbrev cL_exponents : ByteArray := method_12_code
def yL_exponents : MethodName := ⟨RL, "exponents", "(III)I"⟩
abbrev cL_isCounted : ByteArray := method_13_code
def yL_isCounted : MethodName := ⟨RL, "isCounted", "(LEndlessrows;IIII)Z"⟩
/-- the words that every method is given -/
def er_G : List Cond := lw_tbl.filter goodWord
theorem er_in (i : Nat) {w : Cond} (h : lw_tbl[i]? = some w) (hg : goodWord w = true) : w ∈ er_G := List.mem_filter.mpr ⟨List.mem_of_getElem? h, hg⟩
theorem er_good : ∀ w ∈ er_G, goodWord w = true := fun w hw => (List.mem_filter.mp hw).2
theorem er_hts {args : Array Value} {s : State} (h : ∀ w ∈ lw_tbl, w.before args s = true) : ∀ w ∈ er_G, w.before args s = true := fun w hw => h w (List.mem_filter.mp hw).1
end
section
abbrev MT : Type := MethodName × ByteArray × Nat × Option FieldType × Nat × Nat × Bool
def mtN (Y : MT) : MethodName := Y.1
def mtC (Y : MT) : ByteArray := Y.2.1
def mtL (Y : MT) : Nat := Y.2.2.1
def mtR (Y : MT) : Option FieldType := Y.2.2.2.1
def mtK (Y : MT) : Nat := Y.2.2.2.2.1
def mtA (Y : MT) : Nat := Y.2.2.2.2.2.1
def mtS (Y : MT) : Bool := Y.2.2.2.2.2.2
def cN (c : Nat) : String := match c with
  | 0 => RX0
  | 1 => RX1
  | 2 => RX2
  | 3 => RX3
  | 4 => RL
  | _ => RJ6
def tT (c : Nat) : u_T := match c with
  | 0 => TX0
  | 1 => TX1
  | 2 => TX2
  | _ => TX3
def nF (c : Nat) : Nat := match c with
  | 0 => 2
  | 1 => 2
  | 2 => 8
  | _ => 6
def er_cl : List vw_C := [(RX0, TX0, 2), (RX1, TX1, 2), (RX2, TX2, 8), (RX3, TX3, 6)]
def m_Q_keyOf : MT := (yX0_keyOf, cX0_keyOf, 2, (some .int), 0, 2, true)
def m_Q_numberOf : MT := (yX0_numberOf, cX0_numberOf, 1, (some .int), 0, 1, true)
def m_Q_tagOf : MT := (yX0_tagOf, cX0_tagOf, 1, (some .int), 0, 1, true)
def m_Q_firstNumber : MT := (yX0_firstNumber, cX0_firstNumber, 1, (some .int), 0, 0, false)
def m_Q_push : MT := (yX0_push, cX0_push, 3, none, 0, 1, false)
def m_Q_pop : MT := (yX0_pop, cX0_pop, 2, (some .int), 0, 0, false)
def m_Q_sink : MT := (yX0_sink, cX0_sink, 4, none, 0, 1, false)
def m_Q_turnOver : MT := (yX0_turnOver, cX0_turnOver, 3, none, 0, 0, false)
def m_Q_remove : MT := (yX0_remove, cX0_remove, 2, none, 0, 1, false)
def m_Q_refill : MT := (yX0_refill, cX0_refill, 5, none, 0, 2, false)
def m_Q_holds : MT := (yX0_holds, cX0_holds, 3, (some .boolean), 0, 1, false)
def m_Q_countUpTo : MT := (yX0_countUpTo, cX0_countUpTo, 4, (some .int), 0, 1, false)
def m_Q_become : MT := (yX0_become, cX0_become, 2, none, 0, 1, false)
def m_R_numberAt : MT := (yX1_numberAt, cX1_numberAt, 2, (some .int), 1, 1, false)
def m_R_append : MT := (yX1_append, cX1_append, 2, (some .boolean), 1, 1, false)
def m_R_removeLast : MT := (yX1_removeLast, cX1_removeLast, 2, (some .int), 1, 0, false)
def m_R_become : MT := (yX1_become, cX1_become, 2, none, 1, 1, false)
def m_R_countUpTo : MT := (yX1_countUpTo, cX1_countUpTo, 3, (some .int), 1, 1, false)
def m_R_isRising : MT := (yX1_isRising, cX1_isRising, 2, (some .boolean), 1, 0, false)
def m_W_beginGrid : MT := (yX2_beginGrid, cX2_beginGrid, 5, none, 2, 4, false)
def m_W_beginMerged : MT := (yX2_beginMerged, cX2_beginMerged, 4, none, 2, 3, false)
def m_W_begin : MT := (yX2_begin, cX2_begin, 4, none, 2, 3, false)
def m_W_restart : MT := (yX2_restart, cX2_restart, 2, none, 2, 0, false)
def m_W_become : MT := (yX2_become, cX2_become, 2, none, 2, 1, false)
def m_W_takeRows : MT := (yX2_takeRows, cX2_takeRows, 3, none, 2, 1, false)
def m_W_tell : MT := (yX2_tell, cX2_tell, 3, (some .int), 2, 0, false)
def m_W_tellBelow : MT := (yX2_tellBelow, cX2_tellBelow, 4, (some .int), 2, 2, false)
def m_W_tellPrime : MT := (yX2_tellPrime, cX2_tellPrime, 4, none, 2, 0, false)
def m_W_offerProducts : MT := (yX2_offerProducts, cX2_offerProducts, 4, none, 2, 2, false)
def m_W_offerNeighbours : MT := (yX2_offerNeighbours, cX2_offerNeighbours, 4, none, 2, 3, false)
def m_W_offerOfGrid : MT := (yX2_offerOfGrid, cX2_offerOfGrid, 4, none, 2, 3, false)
def m_W_offerOfRow : MT := (yX2_offerOfRow, cX2_offerOfRow, 3, none, 2, 2, false)
def m_W_closeRow : MT := (yX2_closeRow, cX2_closeRow, 4, (some .int), 2, 1, false)
def m_W_isEmpty : MT := (yX2_isEmpty, cX2_isEmpty, 1, (some .boolean), 2, 0, false)
def m_W_isDry : MT := (yX2_isDry, cX2_isDry, 1, (some .boolean), 2, 0, false)
def m_W_nextNumber : MT := (yX2_nextNumber, cX2_nextNumber, 2, (some .int), 2, 0, false)
def m_W_numberBehind : MT := (yX2_numberBehind, cX2_numberBehind, 2, (some .int), 2, 1, false)
def m_W_lastNumber : MT := (yX2_lastNumber, cX2_lastNumber, 1, (some .int), 2, 0, false)
def m_W_lastPlace : MT := (yX2_lastPlace, cX2_lastPlace, 4, (some .int), 2, 1, false)
def m_W_limit : MT := (yX2_limit, cX2_limit, 1, (some .int), 2, 0, false)
def m_W_hasPlaces : MT := (yX2_hasPlaces, cX2_hasPlaces, 1, (some .boolean), 2, 0, false)
def m_W_tagAt : MT := (yX2_tagAt, cX2_tagAt, 6, (some .int), 2, 3, false)
def m_W_canCountTo : MT := (yX2_canCountTo, cX2_canCountTo, 2, (some .boolean), 2, 1, false)
def m_W_countUpTo : MT := (yX2_countUpTo, cX2_countUpTo, 2, (some .int), 2, 1, false)
def m_W_countProducts : MT := (yX2_countProducts, cX2_countProducts, 7, (some .int), 2, 4, true)
def m_W_countOfRows : MT := (yX2_countOfRows, cX2_countOfRows, 4, (some .int), 2, 1, false)
def m_W_countPrimes : MT := (yX2_countPrimes, cX2_countPrimes, 3, (some .int), 2, 1, true)
def m_W_countOfGrid : MT := (yX2_countOfGrid, cX2_countOfGrid, 6, (some .int), 2, 1, false)
def m_W_isGrid : MT := (yX2_isGrid, cX2_isGrid, 1, (some .boolean), 2, 0, false)
def m_W_isMember : MT := (yX2_isMember, cX2_isMember, 2, (some .boolean), 2, 2, true)
def m_W_rankOf : MT := (yX2_rankOf, cX2_rankOf, 2, (some .int), 2, 1, false)
def m_W_gridNumber : MT := (yX2_gridNumber, cX2_gridNumber, 6, (some .int), 2, 3, false)
def m_W_isPrime : MT := (yX2_isPrime, cX2_isPrime, 2, (some .boolean), 2, 1, true)
def m_H_add : MT := (yX3_add, cX3_add, 4, (some .int), 3, 2, false)
def m_H_cut : MT := (yX3_cut, cX3_cut, 3, (some .int), 3, 1, false)
def m_H_fill : MT := (yX3_fill, cX3_fill, 7, (some .int), 3, 4, false)
def m_H_rowAt : MT := (yX3_rowAt, cX3_rowAt, 4, (some .int), 3, 2, false)
def m_H_rowSize : MT := (yX3_rowSize, cX3_rowSize, 2, (some .int), 3, 1, false)
def m_H_least : MT := (yX3_least, cX3_least, 3, (some .int), 3, 2, false)
def m_H_powers : MT := (yX3_powers, cX3_powers, 4, (some .int), 3, 2, false)
def m_H_sums : MT := (yX3_sums, cX3_sums, 5, (some .int), 3, 3, false)
def m_H_triples : MT := (yX3_triples, cX3_triples, 6, (some .int), 3, 4, false)
def m_H_merge : MT := (yX3_merge, cX3_merge, 5, (some .int), 3, 3, false)
def m_H_table : MT := (yX3_table, cX3_table, 5, (some .int), 3, 3, false)
def m_H_primes : MT := (yX3_primes, cX3_primes, 3, (some .int), 3, 1, false)
def m_H_draw : MT := (yX3_draw, cX3_draw, 3, (some .int), 3, 1, false)
def m_H_draws : MT := (yX3_draws, cX3_draws, 4, (some .int), 3, 2, false)
def m_H_skip : MT := (yX3_skip, cX3_skip, 4, (some .int), 3, 2, false)
def m_H_copy : MT := (yX3_copy, cX3_copy, 5, (some .int), 3, 2, false)
def m_H_shake : MT := (yX3_shake, cX3_shake, 3, (some .int), 3, 1, false)
def m_H_anew : MT := (yX3_anew, cX3_anew, 3, (some .int), 3, 1, false)
def m_H_again : MT := (yX3_again, cX3_again, 4, (some .int), 3, 1, false)
def m_H_close : MT := (yX3_close, cX3_close, 4, (some .int), 3, 2, false)
def m_H_drop : MT := (yX3_drop, cX3_drop, 4, (some .int), 3, 1, false)
def m_H_peek : MT := (yX3_peek, cX3_peek, 3, (some .int), 3, 1, false)
def m_H_ofWell : MT := (yX3_ofWell, cX3_ofWell, 4, (some .int), 3, 2, false)
def m_H_nth : MT := (yX3_nth, cX3_nth, 4, (some .int), 3, 2, false)
def m_H_upTo : MT := (yX3_upTo, cX3_upTo, 4, (some .int), 3, 2, false)
def m_H_ways : MT := (yX3_ways, cX3_ways, 4, (some .int), 3, 2, false)
def m_H_waits : MT := (yX3_waits, cX3_waits, 4, (some .int), 3, 2, false)
def m_H_isAlike : MT := (yX3_isAlike, cX3_isAlike, 5, (some .boolean), 3, 2, false)
def m_H_house : MT := (yX3_house, cX3_house, 4, (some .int), 3, 1, false)
def m_H_isSound : MT := (yX3_isSound, cX3_isSound, 2, (some .boolean), 3, 0, false)
def m_H_digest : MT := (yX3_digest, cX3_digest, 6, (some .long), 3, 0, false)
def m_H_findRow : MT := (yX3_findRow, cX3_findRow, 2, (some (.object "Endlessrows$Row")), 3, 1, false)
def m_H_findWell : MT := (yX3_findWell, cX3_findWell, 2, (some (.object "Endlessrows$Well")), 3, 1, false)
def m_H_requirePlace : MT := (yX3_requirePlace, cX3_requirePlace, 2, none, 3, 2, true)
def m_H_requireWithin : MT := (yX3_requireWithin, cX3_requireWithin, 3, none, 3, 3, true)
def m_H_doTrialsTellAlike : MT := (yX3_doTrialsTellAlike, cX3_doTrialsTellAlike, 2, (some .boolean), 3, 0, false)
def m_H_shareOf : MT := (yX3_shareOf, cX3_shareOf, 2, (some .int), 3, 2, true)
def m_H_areRowsRising : MT := (yX3_areRowsRising, cX3_areRowsRising, 2, (some .boolean), 3, 0, false)
def m_H_areQueuesWithinLimits : MT := (yX3_areQueuesWithinLimits, cX3_areQueuesWithinLimits, 2, (some .boolean), 3, 0, false)
def m_H_hasToldNoMoreThanIs : MT := (yX3_hasToldNoMoreThanIs, cX3_hasToldNoMoreThanIs, 2, (some .boolean), 3, 1, true)
def m_J_bitCount : MT := (yJ6_bitCount_0f7a4, cJ6_bitCount_0f7a4, 1, (some .int), 5, 1, true)
def m_L_below : MT := (yL_below, cL_below, 2, (some .int), 4, 2, true)
def m_L_cell : MT := (yL_cell, cL_cell, 2, (some .int), 4, 2, true)
def m_L_roll : MT := (yL_roll, cL_roll, 3, (some .int), 4, 2, true)
def m_L_begin : MT := (yL_begin, cL_begin, 7, none, 4, 5, true)
def m_L_act : MT := (yL_act, cL_act, 5, none, 4, 5, true)
def m_L_isPrime : MT := (yL_isPrime, cL_isPrime, 2, (some .boolean), 4, 1, true)
def m_L_isCourse : MT := (yL_isCourse, cL_isCourse, 13, (some .boolean), 4, 4, true)
def m_L_isGoing : MT := (yL_isGoing, cL_isGoing, 7, (some .boolean), 4, 4, true)
def m_L_isMerged : MT := (yL_isMerged, cL_isMerged, 12, (some .boolean), 4, 6, true)
def m_L_exponents : MT := (yL_exponents, cL_exponents, 5, (some .int), 4, 3, true)
def m_L_isCounted : MT := (yL_isCounted, cL_isCounted, 13, (some .boolean), 4, 5, true)
def m_L_law : MT := (yL_law, code, 6, some .boolean, 4, 1, true)
/-- what the tables say of a method -/
def mtOK (Y : MT) : Prop := Cond.code (mtN Y) (mtC Y) (mtL Y) (mtR Y) ∈ er_G ∧ Cond.initialized (mtN Y).cls ∈ er_G ∧ (mtN Y).cls = cN (mtK Y) ∧ plainName (mtN Y).cls = true ∧ ((mtN Y).cls ≠ "java/lang/invoke/MethodHandle" ∧ (mtN Y).cls ≠ "java/lang/invoke/VarHandle" ∧ (parseMethodDescriptor (mtN Y).desc).map (fun d => d.parameters.length) = some (mtA Y)) ∧ mtL Y ≤ 13 ∧ (if mtS Y = true then Cond.static (mtN Y) ∈ er_G else (Cond.instanceMethod (mtN Y) ∈ er_G ∧ Cond.selects (mtN Y).cls (mtN Y) (mtN Y) ∈ er_G ∧ mtK Y < 4))
theorem m_Q_keyOf_ok : mtOK m_Q_keyOf := ⟨er_in 387 (by decide +kernel) rfl, er_in 23 (by decide +kernel) rfl, rfl, by decide +kernel, ⟨by decide +kernel, by decide +kernel, by decide +kernel⟩, by decide, er_in 386 (by decide +kernel) rfl⟩
theorem m_Q_numberOf_ok : mtOK m_Q_numberOf := ⟨er_in 316 (by decide +kernel) rfl, er_in 23 (by decide +kernel) rfl, rfl, by decide +kernel, ⟨by decide +kernel, by decide +kernel, by decide +kernel⟩, by decide, er_in 315 (by decide +kernel) rfl⟩
theorem m_Q_tagOf_ok : mtOK m_Q_tagOf := ⟨er_in 302 (by decide +kernel) rfl, er_in 23 (by decide +kernel) rfl, rfl, by decide +kernel, ⟨by decide +kernel, by decide +kernel, by decide +kernel⟩, by decide, er_in 301 (by decide +kernel) rfl⟩
theorem m_Q_firstNumber_ok : mtOK m_Q_firstNumber := ⟨er_in 380 (by decide +kernel) rfl, er_in 23 (by decide +kernel) rfl, rfl, by decide +kernel, ⟨by decide +kernel, by decide +kernel, by decide +kernel⟩, by decide, ⟨er_in 378 (by decide +kernel) rfl, er_in 379 (by decide +kernel) rfl, by decide⟩⟩
theorem m_Q_push_ok : mtOK m_Q_push := ⟨er_in 306 (by decide +kernel) rfl, er_in 23 (by decide +kernel) rfl, rfl, by decide +kernel, ⟨by decide +kernel, by decide +kernel, by decide +kernel⟩, by decide, ⟨er_in 304 (by decide +kernel) rfl, er_in 305 (by decide +kernel) rfl, by decide⟩⟩
theorem m_Q_pop_ok : mtOK m_Q_pop := ⟨er_in 291 (by decide +kernel) rfl, er_in 23 (by decide +kernel) rfl, rfl, by decide +kernel, ⟨by decide +kernel, by decide +kernel, by decide +kernel⟩, by decide, ⟨er_in 289 (by decide +kernel) rfl, er_in 290 (by decide +kernel) rfl, by decide⟩⟩
theorem m_Q_sink_ok : mtOK m_Q_sink := ⟨er_in 295 (by decide +kernel) rfl, er_in 23 (by decide +kernel) rfl, rfl, by decide +kernel, ⟨by decide +kernel, by decide +kernel, by decide +kernel⟩, by decide, ⟨er_in 294 (by decide +kernel) rfl, er_in 5 (by decide +kernel) rfl, by decide⟩⟩
theorem m_Q_turnOver_ok : mtOK m_Q_turnOver := ⟨er_in 287 (by decide +kernel) rfl, er_in 23 (by decide +kernel) rfl, rfl, by decide +kernel, ⟨by decide +kernel, by decide +kernel, by decide +kernel⟩, by decide, ⟨er_in 285 (by decide +kernel) rfl, er_in 286 (by decide +kernel) rfl, by decide⟩⟩
theorem m_Q_remove_ok : mtOK m_Q_remove := ⟨er_in 516 (by decide +kernel) rfl, er_in 23 (by decide +kernel) rfl, rfl, by decide +kernel, ⟨by decide +kernel, by decide +kernel, by decide +kernel⟩, by decide, ⟨er_in 514 (by decide +kernel) rfl, er_in 515 (by decide +kernel) rfl, by decide⟩⟩
theorem m_Q_refill_ok : mtOK m_Q_refill := ⟨er_in 299 (by decide +kernel) rfl, er_in 23 (by decide +kernel) rfl, rfl, by decide +kernel, ⟨by decide +kernel, by decide +kernel, by decide +kernel⟩, by decide, ⟨er_in 298 (by decide +kernel) rfl, er_in 6 (by decide +kernel) rfl, by decide⟩⟩
theorem m_Q_holds_ok : mtOK m_Q_holds := ⟨er_in 512 (by decide +kernel) rfl, er_in 23 (by decide +kernel) rfl, rfl, by decide +kernel, ⟨by decide +kernel, by decide +kernel, by decide +kernel⟩, by decide, ⟨er_in 510 (by decide +kernel) rfl, er_in 511 (by decide +kernel) rfl, by decide⟩⟩
theorem m_Q_countUpTo_ok : mtOK m_Q_countUpTo := ⟨er_in 610 (by decide +kernel) rfl, er_in 23 (by decide +kernel) rfl, rfl, by decide +kernel, ⟨by decide +kernel, by decide +kernel, by decide +kernel⟩, by decide, ⟨er_in 608 (by decide +kernel) rfl, er_in 609 (by decide +kernel) rfl, by decide⟩⟩
theorem m_Q_become_ok : mtOK m_Q_become := ⟨er_in 282 (by decide +kernel) rfl, er_in 23 (by decide +kernel) rfl, rfl, by decide +kernel, ⟨by decide +kernel, by decide +kernel, by decide +kernel⟩, by decide, ⟨er_in 280 (by decide +kernel) rfl, er_in 281 (by decide +kernel) rfl, by decide⟩⟩
theorem m_R_numberAt_ok : mtOK m_R_numberAt := ⟨er_in 117 (by decide +kernel) rfl, er_in 21 (by decide +kernel) rfl, rfl, by decide +kernel, ⟨by decide +kernel, by decide +kernel, by decide +kernel⟩, by decide, ⟨er_in 115 (by decide +kernel) rfl, er_in 116 (by decide +kernel) rfl, by decide⟩⟩
theorem m_R_append_ok : mtOK m_R_append := ⟨er_in 113 (by decide +kernel) rfl, er_in 21 (by decide +kernel) rfl, rfl, by decide +kernel, ⟨by decide +kernel, by decide +kernel, by decide +kernel⟩, by decide, ⟨er_in 111 (by decide +kernel) rfl, er_in 112 (by decide +kernel) rfl, by decide⟩⟩
theorem m_R_removeLast_ok : mtOK m_R_removeLast := ⟨er_in 492 (by decide +kernel) rfl, er_in 21 (by decide +kernel) rfl, rfl, by decide +kernel, ⟨by decide +kernel, by decide +kernel, by decide +kernel⟩, by decide, ⟨er_in 490 (by decide +kernel) rfl, er_in 491 (by decide +kernel) rfl, by decide⟩⟩
theorem m_R_become_ok : mtOK m_R_become := ⟨er_in 275 (by decide +kernel) rfl, er_in 21 (by decide +kernel) rfl, rfl, by decide +kernel, ⟨by decide +kernel, by decide +kernel, by decide +kernel⟩, by decide, ⟨er_in 273 (by decide +kernel) rfl, er_in 274 (by decide +kernel) rfl, by decide⟩⟩
theorem m_R_countUpTo_ok : mtOK m_R_countUpTo := ⟨er_in 341 (by decide +kernel) rfl, er_in 21 (by decide +kernel) rfl, rfl, by decide +kernel, ⟨by decide +kernel, by decide +kernel, by decide +kernel⟩, by decide, ⟨er_in 339 (by decide +kernel) rfl, er_in 340 (by decide +kernel) rfl, by decide⟩⟩
theorem m_R_isRising_ok : mtOK m_R_isRising := ⟨er_in 242 (by decide +kernel) rfl, er_in 21 (by decide +kernel) rfl, rfl, by decide +kernel, ⟨by decide +kernel, by decide +kernel, by decide +kernel⟩, by decide, ⟨er_in 240 (by decide +kernel) rfl, er_in 241 (by decide +kernel) rfl, by decide⟩⟩
theorem m_W_beginGrid_ok : mtOK m_W_beginGrid := ⟨er_in 456 (by decide +kernel) rfl, er_in 22 (by decide +kernel) rfl, rfl, by decide +kernel, ⟨by decide +kernel, by decide +kernel, by decide +kernel⟩, by decide, ⟨er_in 454 (by decide +kernel) rfl, er_in 455 (by decide +kernel) rfl, by decide⟩⟩
theorem m_W_beginMerged_ok : mtOK m_W_beginMerged := ⟨er_in 469 (by decide +kernel) rfl, er_in 22 (by decide +kernel) rfl, rfl, by decide +kernel, ⟨by decide +kernel, by decide +kernel, by decide +kernel⟩, by decide, ⟨er_in 467 (by decide +kernel) rfl, er_in 468 (by decide +kernel) rfl, by decide⟩⟩
theorem m_W_begin_ok : mtOK m_W_begin := ⟨er_in 440 (by decide +kernel) rfl, er_in 22 (by decide +kernel) rfl, rfl, by decide +kernel, ⟨by decide +kernel, by decide +kernel, by decide +kernel⟩, by decide, ⟨er_in 438 (by decide +kernel) rfl, er_in 439 (by decide +kernel) rfl, by decide⟩⟩
theorem m_W_restart_ok : mtOK m_W_restart := ⟨er_in 444 (by decide +kernel) rfl, er_in 22 (by decide +kernel) rfl, rfl, by decide +kernel, ⟨by decide +kernel, by decide +kernel, by decide +kernel⟩, by decide, ⟨er_in 442 (by decide +kernel) rfl, er_in 443 (by decide +kernel) rfl, by decide⟩⟩
theorem m_W_become_ok : mtOK m_W_become := ⟨er_in 267 (by decide +kernel) rfl, er_in 22 (by decide +kernel) rfl, rfl, by decide +kernel, ⟨by decide +kernel, by decide +kernel, by decide +kernel⟩, by decide, ⟨er_in 265 (by decide +kernel) rfl, er_in 266 (by decide +kernel) rfl, by decide⟩⟩
theorem m_W_takeRows_ok : mtOK m_W_takeRows := ⟨er_in 271 (by decide +kernel) rfl, er_in 22 (by decide +kernel) rfl, rfl, by decide +kernel, ⟨by decide +kernel, by decide +kernel, by decide +kernel⟩, by decide, ⟨er_in 270 (by decide +kernel) rfl, er_in 4 (by decide +kernel) rfl, by decide⟩⟩
theorem m_W_tell_ok : mtOK m_W_tell := ⟨er_in 368 (by decide +kernel) rfl, er_in 22 (by decide +kernel) rfl, rfl, by decide +kernel, ⟨by decide +kernel, by decide +kernel, by decide +kernel⟩, by decide, ⟨er_in 366 (by decide +kernel) rfl, er_in 367 (by decide +kernel) rfl, by decide⟩⟩
theorem m_W_tellBelow_ok : mtOK m_W_tellBelow := ⟨er_in 526 (by decide +kernel) rfl, er_in 22 (by decide +kernel) rfl, rfl, by decide +kernel, ⟨by decide +kernel, by decide +kernel, by decide +kernel⟩, by decide, ⟨er_in 524 (by decide +kernel) rfl, er_in 525 (by decide +kernel) rfl, by decide⟩⟩
theorem m_W_tellPrime_ok : mtOK m_W_tellPrime := ⟨er_in 372 (by decide +kernel) rfl, er_in 22 (by decide +kernel) rfl, rfl, by decide +kernel, ⟨by decide +kernel, by decide +kernel, by decide +kernel⟩, by decide, ⟨er_in 371 (by decide +kernel) rfl, er_in 11 (by decide +kernel) rfl, by decide⟩⟩
theorem m_W_offerProducts_ok : mtOK m_W_offerProducts := ⟨er_in 392 (by decide +kernel) rfl, er_in 22 (by decide +kernel) rfl, rfl, by decide +kernel, ⟨by decide +kernel, by decide +kernel, by decide +kernel⟩, by decide, ⟨er_in 391 (by decide +kernel) rfl, er_in 12 (by decide +kernel) rfl, by decide⟩⟩
theorem m_W_offerNeighbours_ok : mtOK m_W_offerNeighbours := ⟨er_in 407 (by decide +kernel) rfl, er_in 22 (by decide +kernel) rfl, rfl, by decide +kernel, ⟨by decide +kernel, by decide +kernel, by decide +kernel⟩, by decide, ⟨er_in 406 (by decide +kernel) rfl, er_in 15 (by decide +kernel) rfl, by decide⟩⟩
theorem m_W_offerOfGrid_ok : mtOK m_W_offerOfGrid := ⟨er_in 411 (by decide +kernel) rfl, er_in 22 (by decide +kernel) rfl, rfl, by decide +kernel, ⟨by decide +kernel, by decide +kernel, by decide +kernel⟩, by decide, ⟨er_in 410 (by decide +kernel) rfl, er_in 16 (by decide +kernel) rfl, by decide⟩⟩
theorem m_W_offerOfRow_ok : mtOK m_W_offerOfRow := ⟨er_in 403 (by decide +kernel) rfl, er_in 22 (by decide +kernel) rfl, rfl, by decide +kernel, ⟨by decide +kernel, by decide +kernel, by decide +kernel⟩, by decide, ⟨er_in 402 (by decide +kernel) rfl, er_in 14 (by decide +kernel) rfl, by decide⟩⟩
theorem m_W_closeRow_ok : mtOK m_W_closeRow := ⟨er_in 504 (by decide +kernel) rfl, er_in 22 (by decide +kernel) rfl, rfl, by decide +kernel, ⟨by decide +kernel, by decide +kernel, by decide +kernel⟩, by decide, ⟨er_in 502 (by decide +kernel) rfl, er_in 503 (by decide +kernel) rfl, by decide⟩⟩
theorem m_W_isEmpty_ok : mtOK m_W_isEmpty := ⟨er_in 263 (by decide +kernel) rfl, er_in 22 (by decide +kernel) rfl, rfl, by decide +kernel, ⟨by decide +kernel, by decide +kernel, by decide +kernel⟩, by decide, ⟨er_in 261 (by decide +kernel) rfl, er_in 262 (by decide +kernel) rfl, by decide⟩⟩
theorem m_W_isDry_ok : mtOK m_W_isDry := ⟨er_in 364 (by decide +kernel) rfl, er_in 22 (by decide +kernel) rfl, rfl, by decide +kernel, ⟨by decide +kernel, by decide +kernel, by decide +kernel⟩, by decide, ⟨er_in 362 (by decide +kernel) rfl, er_in 363 (by decide +kernel) rfl, by decide⟩⟩
theorem m_W_nextNumber_ok : mtOK m_W_nextNumber := ⟨er_in 376 (by decide +kernel) rfl, er_in 22 (by decide +kernel) rfl, rfl, by decide +kernel, ⟨by decide +kernel, by decide +kernel, by decide +kernel⟩, by decide, ⟨er_in 374 (by decide +kernel) rfl, er_in 375 (by decide +kernel) rfl, by decide⟩⟩
theorem m_W_numberBehind_ok : mtOK m_W_numberBehind := ⟨er_in 622 (by decide +kernel) rfl, er_in 22 (by decide +kernel) rfl, rfl, by decide +kernel, ⟨by decide +kernel, by decide +kernel, by decide +kernel⟩, by decide, ⟨er_in 620 (by decide +kernel) rfl, er_in 621 (by decide +kernel) rfl, by decide⟩⟩
theorem m_W_lastNumber_ok : mtOK m_W_lastNumber := ⟨er_in 313 (by decide +kernel) rfl, er_in 22 (by decide +kernel) rfl, rfl, by decide +kernel, ⟨by decide +kernel, by decide +kernel, by decide +kernel⟩, by decide, ⟨er_in 311 (by decide +kernel) rfl, er_in 312 (by decide +kernel) rfl, by decide⟩⟩
theorem m_W_lastPlace_ok : mtOK m_W_lastPlace := ⟨er_in 568 (by decide +kernel) rfl, er_in 22 (by decide +kernel) rfl, rfl, by decide +kernel, ⟨by decide +kernel, by decide +kernel, by decide +kernel⟩, by decide, ⟨er_in 566 (by decide +kernel) rfl, er_in 567 (by decide +kernel) rfl, by decide⟩⟩
theorem m_W_limit_ok : mtOK m_W_limit := ⟨er_in 250 (by decide +kernel) rfl, er_in 22 (by decide +kernel) rfl, rfl, by decide +kernel, ⟨by decide +kernel, by decide +kernel, by decide +kernel⟩, by decide, ⟨er_in 248 (by decide +kernel) rfl, er_in 249 (by decide +kernel) rfl, by decide⟩⟩
theorem m_W_hasPlaces_ok : mtOK m_W_hasPlaces := ⟨er_in 572 (by decide +kernel) rfl, er_in 22 (by decide +kernel) rfl, rfl, by decide +kernel, ⟨by decide +kernel, by decide +kernel, by decide +kernel⟩, by decide, ⟨er_in 570 (by decide +kernel) rfl, er_in 571 (by decide +kernel) rfl, by decide⟩⟩
theorem m_W_tagAt_ok : mtOK m_W_tagAt := ⟨er_in 508 (by decide +kernel) rfl, er_in 22 (by decide +kernel) rfl, rfl, by decide +kernel, ⟨by decide +kernel, by decide +kernel, by decide +kernel⟩, by decide, ⟨er_in 506 (by decide +kernel) rfl, er_in 507 (by decide +kernel) rfl, by decide⟩⟩
theorem m_W_canCountTo_ok : mtOK m_W_canCountTo := ⟨er_in 320 (by decide +kernel) rfl, er_in 22 (by decide +kernel) rfl, rfl, by decide +kernel, ⟨by decide +kernel, by decide +kernel, by decide +kernel⟩, by decide, ⟨er_in 318 (by decide +kernel) rfl, er_in 319 (by decide +kernel) rfl, by decide⟩⟩
theorem m_W_countUpTo_ok : mtOK m_W_countUpTo := ⟨er_in 324 (by decide +kernel) rfl, er_in 22 (by decide +kernel) rfl, rfl, by decide +kernel, ⟨by decide +kernel, by decide +kernel, by decide +kernel⟩, by decide, ⟨er_in 322 (by decide +kernel) rfl, er_in 323 (by decide +kernel) rfl, by decide⟩⟩
theorem m_W_countProducts_ok : mtOK m_W_countProducts := ⟨er_in 328 (by decide +kernel) rfl, er_in 22 (by decide +kernel) rfl, rfl, by decide +kernel, ⟨by decide +kernel, by decide +kernel, by decide +kernel⟩, by decide, er_in 327 (by decide +kernel) rfl⟩
theorem m_W_countOfRows_ok : mtOK m_W_countOfRows := ⟨er_in 337 (by decide +kernel) rfl, er_in 22 (by decide +kernel) rfl, rfl, by decide +kernel, ⟨by decide +kernel, by decide +kernel, by decide +kernel⟩, by decide, ⟨er_in 336 (by decide +kernel) rfl, er_in 7 (by decide +kernel) rfl, by decide⟩⟩
theorem m_W_countPrimes_ok : mtOK m_W_countPrimes := ⟨er_in 344 (by decide +kernel) rfl, er_in 22 (by decide +kernel) rfl, rfl, by decide +kernel, ⟨by decide +kernel, by decide +kernel, by decide +kernel⟩, by decide, er_in 343 (by decide +kernel) rfl⟩
theorem m_W_countOfGrid_ok : mtOK m_W_countOfGrid := ⟨er_in 351 (by decide +kernel) rfl, er_in 22 (by decide +kernel) rfl, rfl, by decide +kernel, ⟨by decide +kernel, by decide +kernel, by decide +kernel⟩, by decide, ⟨er_in 350 (by decide +kernel) rfl, er_in 8 (by decide +kernel) rfl, by decide⟩⟩
theorem m_W_isGrid_ok : mtOK m_W_isGrid := ⟨er_in 448 (by decide +kernel) rfl, er_in 22 (by decide +kernel) rfl, rfl, by decide +kernel, ⟨by decide +kernel, by decide +kernel, by decide +kernel⟩, by decide, ⟨er_in 447 (by decide +kernel) rfl, er_in 18 (by decide +kernel) rfl, by decide⟩⟩
theorem m_W_isMember_ok : mtOK m_W_isMember := ⟨er_in 333 (by decide +kernel) rfl, er_in 22 (by decide +kernel) rfl, rfl, by decide +kernel, ⟨by decide +kernel, by decide +kernel, by decide +kernel⟩, by decide, er_in 332 (by decide +kernel) rfl⟩
theorem m_W_rankOf_ok : mtOK m_W_rankOf := ⟨er_in 399 (by decide +kernel) rfl, er_in 22 (by decide +kernel) rfl, rfl, by decide +kernel, ⟨by decide +kernel, by decide +kernel, by decide +kernel⟩, by decide, ⟨er_in 398 (by decide +kernel) rfl, er_in 13 (by decide +kernel) rfl, by decide⟩⟩
theorem m_W_gridNumber_ok : mtOK m_W_gridNumber := ⟨er_in 355 (by decide +kernel) rfl, er_in 22 (by decide +kernel) rfl, rfl, by decide +kernel, ⟨by decide +kernel, by decide +kernel, by decide +kernel⟩, by decide, ⟨er_in 354 (by decide +kernel) rfl, er_in 9 (by decide +kernel) rfl, by decide⟩⟩
theorem m_W_isPrime_ok : mtOK m_W_isPrime := ⟨er_in 347 (by decide +kernel) rfl, er_in 22 (by decide +kernel) rfl, rfl, by decide +kernel, ⟨by decide +kernel, by decide +kernel, by decide +kernel⟩, by decide, er_in 346 (by decide +kernel) rfl⟩
theorem m_H_add_ok : mtOK m_H_add := ⟨er_in 484 (by decide +kernel) rfl, er_in 20 (by decide +kernel) rfl, rfl, by decide +kernel, ⟨by decide +kernel, by decide +kernel, by decide +kernel⟩, by decide, ⟨er_in 482 (by decide +kernel) rfl, er_in 483 (by decide +kernel) rfl, by decide⟩⟩
theorem m_H_cut_ok : mtOK m_H_cut := ⟨er_in 488 (by decide +kernel) rfl, er_in 20 (by decide +kernel) rfl, rfl, by decide +kernel, ⟨by decide +kernel, by decide +kernel, by decide +kernel⟩, by decide, ⟨er_in 486 (by decide +kernel) rfl, er_in 487 (by decide +kernel) rfl, by decide⟩⟩
theorem m_H_fill_ok : mtOK m_H_fill := ⟨er_in 140 (by decide +kernel) rfl, er_in 20 (by decide +kernel) rfl, rfl, by decide +kernel, ⟨by decide +kernel, by decide +kernel, by decide +kernel⟩, by decide, ⟨er_in 138 (by decide +kernel) rfl, er_in 139 (by decide +kernel) rfl, by decide⟩⟩
theorem m_H_rowAt_ok : mtOK m_H_rowAt := ⟨er_in 593 (by decide +kernel) rfl, er_in 20 (by decide +kernel) rfl, rfl, by decide +kernel, ⟨by decide +kernel, by decide +kernel, by decide +kernel⟩, by decide, ⟨er_in 591 (by decide +kernel) rfl, er_in 592 (by decide +kernel) rfl, by decide⟩⟩
theorem m_H_rowSize_ok : mtOK m_H_rowSize := ⟨er_in 589 (by decide +kernel) rfl, er_in 20 (by decide +kernel) rfl, rfl, by decide +kernel, ⟨by decide +kernel, by decide +kernel, by decide +kernel⟩, by decide, ⟨er_in 587 (by decide +kernel) rfl, er_in 588 (by decide +kernel) rfl, by decide⟩⟩
theorem m_H_least_ok : mtOK m_H_least := ⟨er_in 646 (by decide +kernel) rfl, er_in 20 (by decide +kernel) rfl, rfl, by decide +kernel, ⟨by decide +kernel, by decide +kernel, by decide +kernel⟩, by decide, ⟨er_in 644 (by decide +kernel) rfl, er_in 645 (by decide +kernel) rfl, by decide⟩⟩
theorem m_H_powers_ok : mtOK m_H_powers := ⟨er_in 431 (by decide +kernel) rfl, er_in 20 (by decide +kernel) rfl, rfl, by decide +kernel, ⟨by decide +kernel, by decide +kernel, by decide +kernel⟩, by decide, ⟨er_in 429 (by decide +kernel) rfl, er_in 430 (by decide +kernel) rfl, by decide⟩⟩
theorem m_H_sums_ok : mtOK m_H_sums := ⟨er_in 452 (by decide +kernel) rfl, er_in 20 (by decide +kernel) rfl, rfl, by decide +kernel, ⟨by decide +kernel, by decide +kernel, by decide +kernel⟩, by decide, ⟨er_in 450 (by decide +kernel) rfl, er_in 451 (by decide +kernel) rfl, by decide⟩⟩
theorem m_H_triples_ok : mtOK m_H_triples := ⟨er_in 461 (by decide +kernel) rfl, er_in 20 (by decide +kernel) rfl, rfl, by decide +kernel, ⟨by decide +kernel, by decide +kernel, by decide +kernel⟩, by decide, ⟨er_in 459 (by decide +kernel) rfl, er_in 460 (by decide +kernel) rfl, by decide⟩⟩
theorem m_H_merge_ok : mtOK m_H_merge := ⟨er_in 465 (by decide +kernel) rfl, er_in 20 (by decide +kernel) rfl, rfl, by decide +kernel, ⟨by decide +kernel, by decide +kernel, by decide +kernel⟩, by decide, ⟨er_in 463 (by decide +kernel) rfl, er_in 464 (by decide +kernel) rfl, by decide⟩⟩
theorem m_H_table_ok : mtOK m_H_table := ⟨er_in 473 (by decide +kernel) rfl, er_in 20 (by decide +kernel) rfl, rfl, by decide +kernel, ⟨by decide +kernel, by decide +kernel, by decide +kernel⟩, by decide, ⟨er_in 471 (by decide +kernel) rfl, er_in 472 (by decide +kernel) rfl, by decide⟩⟩
theorem m_H_primes_ok : mtOK m_H_primes := ⟨er_in 477 (by decide +kernel) rfl, er_in 20 (by decide +kernel) rfl, rfl, by decide +kernel, ⟨by decide +kernel, by decide +kernel, by decide +kernel⟩, by decide, ⟨er_in 475 (by decide +kernel) rfl, er_in 476 (by decide +kernel) rfl, by decide⟩⟩
theorem m_H_draw_ok : mtOK m_H_draw := ⟨er_in 553 (by decide +kernel) rfl, er_in 20 (by decide +kernel) rfl, rfl, by decide +kernel, ⟨by decide +kernel, by decide +kernel, by decide +kernel⟩, by decide, ⟨er_in 551 (by decide +kernel) rfl, er_in 552 (by decide +kernel) rfl, by decide⟩⟩
theorem m_H_draws_ok : mtOK m_H_draws := ⟨er_in 557 (by decide +kernel) rfl, er_in 20 (by decide +kernel) rfl, rfl, by decide +kernel, ⟨by decide +kernel, by decide +kernel, by decide +kernel⟩, by decide, ⟨er_in 555 (by decide +kernel) rfl, er_in 556 (by decide +kernel) rfl, by decide⟩⟩
theorem m_H_skip_ok : mtOK m_H_skip := ⟨er_in 521 (by decide +kernel) rfl, er_in 20 (by decide +kernel) rfl, rfl, by decide +kernel, ⟨by decide +kernel, by decide +kernel, by decide +kernel⟩, by decide, ⟨er_in 519 (by decide +kernel) rfl, er_in 520 (by decide +kernel) rfl, by decide⟩⟩
theorem m_H_copy_ok : mtOK m_H_copy := ⟨er_in 532 (by decide +kernel) rfl, er_in 20 (by decide +kernel) rfl, rfl, by decide +kernel, ⟨by decide +kernel, by decide +kernel, by decide +kernel⟩, by decide, ⟨er_in 530 (by decide +kernel) rfl, er_in 531 (by decide +kernel) rfl, by decide⟩⟩
theorem m_H_shake_ok : mtOK m_H_shake := ⟨er_in 549 (by decide +kernel) rfl, er_in 20 (by decide +kernel) rfl, rfl, by decide +kernel, ⟨by decide +kernel, by decide +kernel, by decide +kernel⟩, by decide, ⟨er_in 547 (by decide +kernel) rfl, er_in 548 (by decide +kernel) rfl, by decide⟩⟩
theorem m_H_anew_ok : mtOK m_H_anew := ⟨er_in 536 (by decide +kernel) rfl, er_in 20 (by decide +kernel) rfl, rfl, by decide +kernel, ⟨by decide +kernel, by decide +kernel, by decide +kernel⟩, by decide, ⟨er_in 534 (by decide +kernel) rfl, er_in 535 (by decide +kernel) rfl, by decide⟩⟩
theorem m_H_again_ok : mtOK m_H_again := ⟨er_in 541 (by decide +kernel) rfl, er_in 20 (by decide +kernel) rfl, rfl, by decide +kernel, ⟨by decide +kernel, by decide +kernel, by decide +kernel⟩, by decide, ⟨er_in 539 (by decide +kernel) rfl, er_in 540 (by decide +kernel) rfl, by decide⟩⟩
theorem m_H_close_ok : mtOK m_H_close := ⟨er_in 496 (by decide +kernel) rfl, er_in 20 (by decide +kernel) rfl, rfl, by decide +kernel, ⟨by decide +kernel, by decide +kernel, by decide +kernel⟩, by decide, ⟨er_in 494 (by decide +kernel) rfl, er_in 495 (by decide +kernel) rfl, by decide⟩⟩
theorem m_H_drop_ok : mtOK m_H_drop := ⟨er_in 545 (by decide +kernel) rfl, er_in 20 (by decide +kernel) rfl, rfl, by decide +kernel, ⟨by decide +kernel, by decide +kernel, by decide +kernel⟩, by decide, ⟨er_in 543 (by decide +kernel) rfl, er_in 544 (by decide +kernel) rfl, by decide⟩⟩
theorem m_H_peek_ok : mtOK m_H_peek := ⟨er_in 599 (by decide +kernel) rfl, er_in 20 (by decide +kernel) rfl, rfl, by decide +kernel, ⟨by decide +kernel, by decide +kernel, by decide +kernel⟩, by decide, ⟨er_in 597 (by decide +kernel) rfl, er_in 598 (by decide +kernel) rfl, by decide⟩⟩
theorem m_H_ofWell_ok : mtOK m_H_ofWell := ⟨er_in 564 (by decide +kernel) rfl, er_in 20 (by decide +kernel) rfl, rfl, by decide +kernel, ⟨by decide +kernel, by decide +kernel, by decide +kernel⟩, by decide, ⟨er_in 562 (by decide +kernel) rfl, er_in 563 (by decide +kernel) rfl, by decide⟩⟩
theorem m_H_nth_ok : mtOK m_H_nth := ⟨er_in 618 (by decide +kernel) rfl, er_in 20 (by decide +kernel) rfl, rfl, by decide +kernel, ⟨by decide +kernel, by decide +kernel, by decide +kernel⟩, by decide, ⟨er_in 616 (by decide +kernel) rfl, er_in 617 (by decide +kernel) rfl, by decide⟩⟩
theorem m_H_upTo_ok : mtOK m_H_upTo := ⟨er_in 614 (by decide +kernel) rfl, er_in 20 (by decide +kernel) rfl, rfl, by decide +kernel, ⟨by decide +kernel, by decide +kernel, by decide +kernel⟩, by decide, ⟨er_in 612 (by decide +kernel) rfl, er_in 613 (by decide +kernel) rfl, by decide⟩⟩
theorem m_H_ways_ok : mtOK m_H_ways := ⟨er_in 632 (by decide +kernel) rfl, er_in 20 (by decide +kernel) rfl, rfl, by decide +kernel, ⟨by decide +kernel, by decide +kernel, by decide +kernel⟩, by decide, ⟨er_in 630 (by decide +kernel) rfl, er_in 631 (by decide +kernel) rfl, by decide⟩⟩
theorem m_H_waits_ok : mtOK m_H_waits := ⟨er_in 606 (by decide +kernel) rfl, er_in 20 (by decide +kernel) rfl, rfl, by decide +kernel, ⟨by decide +kernel, by decide +kernel, by decide +kernel⟩, by decide, ⟨er_in 604 (by decide +kernel) rfl, er_in 605 (by decide +kernel) rfl, by decide⟩⟩
theorem m_H_isAlike_ok : mtOK m_H_isAlike := ⟨er_in 639 (by decide +kernel) rfl, er_in 20 (by decide +kernel) rfl, rfl, by decide +kernel, ⟨by decide +kernel, by decide +kernel, by decide +kernel⟩, by decide, ⟨er_in 637 (by decide +kernel) rfl, er_in 638 (by decide +kernel) rfl, by decide⟩⟩
theorem m_H_house_ok : mtOK m_H_house := ⟨er_in 582 (by decide +kernel) rfl, er_in 20 (by decide +kernel) rfl, rfl, by decide +kernel, ⟨by decide +kernel, by decide +kernel, by decide +kernel⟩, by decide, ⟨er_in 580 (by decide +kernel) rfl, er_in 581 (by decide +kernel) rfl, by decide⟩⟩
theorem m_H_isSound_ok : mtOK m_H_isSound := ⟨er_in 234 (by decide +kernel) rfl, er_in 20 (by decide +kernel) rfl, rfl, by decide +kernel, ⟨by decide +kernel, by decide +kernel, by decide +kernel⟩, by decide, ⟨er_in 232 (by decide +kernel) rfl, er_in 233 (by decide +kernel) rfl, by decide⟩⟩
theorem m_H_digest_ok : mtOK m_H_digest := ⟨er_in 576 (by decide +kernel) rfl, er_in 20 (by decide +kernel) rfl, rfl, by decide +kernel, ⟨by decide +kernel, by decide +kernel, by decide +kernel⟩, by decide, ⟨er_in 574 (by decide +kernel) rfl, er_in 575 (by decide +kernel) rfl, by decide⟩⟩
theorem m_H_findRow_ok : mtOK m_H_findRow := ⟨er_in 144 (by decide +kernel) rfl, er_in 20 (by decide +kernel) rfl, rfl, by decide +kernel, ⟨by decide +kernel, by decide +kernel, by decide +kernel⟩, by decide, ⟨er_in 143 (by decide +kernel) rfl, er_in 0 (by decide +kernel) rfl, by decide⟩⟩
theorem m_H_findWell_ok : mtOK m_H_findWell := ⟨er_in 435 (by decide +kernel) rfl, er_in 20 (by decide +kernel) rfl, rfl, by decide +kernel, ⟨by decide +kernel, by decide +kernel, by decide +kernel⟩, by decide, ⟨er_in 434 (by decide +kernel) rfl, er_in 17 (by decide +kernel) rfl, by decide⟩⟩
theorem m_H_requirePlace_ok : mtOK m_H_requirePlace := ⟨er_in 499 (by decide +kernel) rfl, er_in 20 (by decide +kernel) rfl, rfl, by decide +kernel, ⟨by decide +kernel, by decide +kernel, by decide +kernel⟩, by decide, er_in 498 (by decide +kernel) rfl⟩
theorem m_H_requireWithin_ok : mtOK m_H_requireWithin := ⟨er_in 214 (by decide +kernel) rfl, er_in 20 (by decide +kernel) rfl, rfl, by decide +kernel, ⟨by decide +kernel, by decide +kernel, by decide +kernel⟩, by decide, er_in 213 (by decide +kernel) rfl⟩
theorem m_H_doTrialsTellAlike_ok : mtOK m_H_doTrialsTellAlike := ⟨er_in 360 (by decide +kernel) rfl, er_in 20 (by decide +kernel) rfl, rfl, by decide +kernel, ⟨by decide +kernel, by decide +kernel, by decide +kernel⟩, by decide, ⟨er_in 359 (by decide +kernel) rfl, er_in 10 (by decide +kernel) rfl, by decide⟩⟩
theorem m_H_shareOf_ok : mtOK m_H_shareOf := ⟨er_in 585 (by decide +kernel) rfl, er_in 20 (by decide +kernel) rfl, rfl, by decide +kernel, ⟨by decide +kernel, by decide +kernel, by decide +kernel⟩, by decide, er_in 584 (by decide +kernel) rfl⟩
theorem m_H_areRowsRising_ok : mtOK m_H_areRowsRising := ⟨er_in 238 (by decide +kernel) rfl, er_in 20 (by decide +kernel) rfl, rfl, by decide +kernel, ⟨by decide +kernel, by decide +kernel, by decide +kernel⟩, by decide, ⟨er_in 237 (by decide +kernel) rfl, er_in 2 (by decide +kernel) rfl, by decide⟩⟩
theorem m_H_areQueuesWithinLimits_ok : mtOK m_H_areQueuesWithinLimits := ⟨er_in 246 (by decide +kernel) rfl, er_in 20 (by decide +kernel) rfl, rfl, by decide +kernel, ⟨by decide +kernel, by decide +kernel, by decide +kernel⟩, by decide, ⟨er_in 245 (by decide +kernel) rfl, er_in 3 (by decide +kernel) rfl, by decide⟩⟩
theorem m_H_hasToldNoMoreThanIs_ok : mtOK m_H_hasToldNoMoreThanIs := ⟨er_in 309 (by decide +kernel) rfl, er_in 20 (by decide +kernel) rfl, rfl, by decide +kernel, ⟨by decide +kernel, by decide +kernel, by decide +kernel⟩, by decide, er_in 308 (by decide +kernel) rfl⟩
theorem m_J_bitCount_ok : mtOK m_J_bitCount := ⟨er_in 253 (by decide +kernel) rfl, er_in 31 (by decide +kernel) rfl, rfl, by decide +kernel, ⟨by decide +kernel, by decide +kernel, by decide +kernel⟩, by decide, er_in 252 (by decide +kernel) rfl⟩
theorem m_L_below_ok : mtOK m_L_below := ⟨er_in 414 (by decide +kernel) rfl, er_in 19 (by decide +kernel) rfl, rfl, by decide +kernel, ⟨by decide +kernel, by decide +kernel, by decide +kernel⟩, by decide, er_in 413 (by decide +kernel) rfl⟩
theorem m_L_cell_ok : mtOK m_L_cell := ⟨er_in 421 (by decide +kernel) rfl, er_in 19 (by decide +kernel) rfl, rfl, by decide +kernel, ⟨by decide +kernel, by decide +kernel, by decide +kernel⟩, by decide, er_in 420 (by decide +kernel) rfl⟩
theorem m_L_roll_ok : mtOK m_L_roll := ⟨er_in 418 (by decide +kernel) rfl, er_in 19 (by decide +kernel) rfl, rfl, by decide +kernel, ⟨by decide +kernel, by decide +kernel, by decide +kernel⟩, by decide, er_in 417 (by decide +kernel) rfl⟩
theorem m_L_begin_ok : mtOK m_L_begin := ⟨er_in 427 (by decide +kernel) rfl, er_in 19 (by decide +kernel) rfl, rfl, by decide +kernel, ⟨by decide +kernel, by decide +kernel, by decide +kernel⟩, by decide, er_in 426 (by decide +kernel) rfl⟩
theorem m_L_act_ok : mtOK m_L_act := ⟨er_in 480 (by decide +kernel) rfl, er_in 19 (by decide +kernel) rfl, rfl, by decide +kernel, ⟨by decide +kernel, by decide +kernel, by decide +kernel⟩, by decide, er_in 479 (by decide +kernel) rfl⟩
theorem m_L_isPrime_ok : mtOK m_L_isPrime := ⟨er_in 628 (by decide +kernel) rfl, er_in 19 (by decide +kernel) rfl, rfl, by decide +kernel, ⟨by decide +kernel, by decide +kernel, by decide +kernel⟩, by decide, er_in 627 (by decide +kernel) rfl⟩
theorem m_L_isCourse_ok : mtOK m_L_isCourse := ⟨er_in 560 (by decide +kernel) rfl, er_in 19 (by decide +kernel) rfl, rfl, by decide +kernel, ⟨by decide +kernel, by decide +kernel, by decide +kernel⟩, by decide, er_in 559 (by decide +kernel) rfl⟩
theorem m_L_isGoing_ok : mtOK m_L_isGoing := ⟨er_in 635 (by decide +kernel) rfl, er_in 19 (by decide +kernel) rfl, rfl, by decide +kernel, ⟨by decide +kernel, by decide +kernel, by decide +kernel⟩, by decide, er_in 634 (by decide +kernel) rfl⟩
theorem m_L_isMerged_ok : mtOK m_L_isMerged := ⟨er_in 642 (by decide +kernel) rfl, er_in 19 (by decide +kernel) rfl, rfl, by decide +kernel, ⟨by decide +kernel, by decide +kernel, by decide +kernel⟩, by decide, er_in 641 (by decide +kernel) rfl⟩
theorem m_L_exponents_ok : mtOK m_L_exponents := ⟨er_in 654 (by decide +kernel) rfl, er_in 19 (by decide +kernel) rfl, rfl, by decide +kernel, ⟨by decide +kernel, by decide +kernel, by decide +kernel⟩, by decide, er_in 653 (by decide +kernel) rfl⟩
theorem m_L_isCounted_ok : mtOK m_L_isCounted := ⟨er_in 649 (by decide +kernel) rfl, er_in 19 (by decide +kernel) rfl, rfl, by decide +kernel, ⟨by decide +kernel, by decide +kernel, by decide +kernel⟩, by decide, er_in 648 (by decide +kernel) rfl⟩
def er_find {α : Type} (l : List (Nat × Nat × α)) (c i : Nat) : Option α := (l.find? (fun q => q.1 == c && q.2.1 == i)).map (fun q => q.2.2)
theorem er_find_mem {α : Type} {l : List (Nat × Nat × α)} {c i : Nat} {x : α} (h : er_find l c i = some x) : (c, i, x) ∈ l := by
  unfold er_find at h
  cases hf : l.find? (fun q => q.1 == c && q.2.1 == i) with
  | none => rw [hf] at h; cases h
  | some q =>
    rw [hf] at h
    have h1 := List.mem_of_find?_eq_some hf
    have h2 := List.find?_some hf
    simp only [Bool.and_eq_true, beq_iff_eq] at h2
    obtain ⟨a, b, z⟩ := q
    simp only [Option.map_some, Option.some.injEq] at h
    obtain ⟨rfl, rfl⟩ := h2
    subst h
    exact h1
def er_calls : List (Nat × Nat × MT) := [(3, 34, m_R_append), (1, 19, m_R_numberAt), (4, 27, m_H_fill), (3, 38, m_H_findRow), (3, 42, m_H_requireWithin), (4, 38, m_H_isSound), (3, 177, m_H_areRowsRising), (3, 234, m_R_isRising), (3, 180, m_H_areQueuesWithinLimits), (3, 150, m_W_limit), (2, 165, m_J_bitCount), (3, 108, m_W_isEmpty), (3, 116, m_W_become), (2, 37, m_W_takeRows), (2, 29, m_R_become), (2, 83, m_Q_become), (3, 120, m_Q_turnOver), (0, 27, m_Q_pop), (0, 23, m_Q_sink), (0, 31, m_Q_refill), (0, 35, m_Q_tagOf), (0, 38, m_Q_push), (3, 183, m_H_hasToldNoMoreThanIs), (3, 132, m_W_lastNumber), (2, 89, m_Q_numberOf), (3, 153, m_W_canCountTo), (3, 156, m_W_countUpTo), (2, 173, m_W_countProducts), (2, 131, m_W_isMember), (2, 177, m_W_countOfRows), (2, 186, m_R_countUpTo), (2, 180, m_W_countPrimes), (2, 156, m_W_isPrime), (2, 183, m_W_countOfGrid), (2, 139, m_W_gridNumber), (2, 143, m_R_numberAt), (3, 170, m_H_doTrialsTellAlike), (3, 101, m_W_isDry), (3, 105, m_W_tell), (2, 86, m_W_tellPrime), (2, 112, m_W_nextNumber), (2, 119, m_Q_firstNumber), (0, 19, m_Q_numberOf), (2, 93, m_Q_pop), (2, 97, m_Q_tagOf), (2, 63, m_Q_keyOf), (2, 67, m_Q_push), (2, 100, m_W_offerProducts), (2, 103, m_W_rankOf), (2, 71, m_W_offerOfRow), (2, 106, m_W_offerNeighbours), (2, 79, m_W_offerOfGrid), (4, 23, m_L_below), (4, 20, m_L_roll), (4, 9, m_L_cell), (4, 31, m_L_begin), (4, 57, m_H_powers), (3, 80, m_H_findWell), (3, 84, m_W_begin), (2, 48, m_W_restart), (2, 75, m_W_isGrid), (4, 60, m_H_sums), (3, 97, m_W_beginGrid), (2, 33, m_W_begin), (4, 64, m_H_triples), (4, 67, m_H_merge), (3, 73, m_W_beginMerged), (4, 71, m_H_table), (4, 74, m_H_primes), (4, 35, m_L_act), (4, 78, m_H_add), (4, 81, m_H_cut), (3, 50, m_R_removeLast), (4, 84, m_H_close), (3, 54, m_H_requirePlace), (3, 135, m_W_closeRow), (2, 146, m_W_tagAt), (2, 149, m_Q_holds), (2, 153, m_Q_remove), (4, 88, m_H_skip), (3, 112, m_W_tellBelow), (2, 109, m_W_isDry), (2, 115, m_W_tell), (4, 91, m_H_copy), (4, 94, m_H_anew), (3, 123, m_W_restart), (4, 97, m_H_again), (4, 100, m_H_drop), (4, 103, m_H_shake), (4, 106, m_H_draw), (4, 109, m_H_draws), (4, 42, m_L_isCourse), (4, 112, m_H_ofWell), (3, 147, m_W_lastPlace), (2, 162, m_W_hasPlaces), (4, 115, m_H_digest), (3, 191, m_H_house), (3, 173, m_H_shareOf), (3, 194, m_H_rowSize), (3, 197, m_H_rowAt), (3, 58, m_R_numberAt), (3, 200, m_H_ofWell), (3, 203, m_H_peek), (3, 141, m_W_nextNumber), (3, 206, m_H_isSound), (4, 120, m_H_waits), (3, 159, m_Q_countUpTo), (4, 123, m_H_upTo), (4, 126, m_H_nth), (3, 77, m_W_numberBehind), (2, 159, m_W_tellBelow), (4, 129, m_H_peek), (4, 137, m_L_isPrime), (4, 141, m_H_ways), (4, 46, m_L_isGoing), (4, 144, m_H_isAlike), (4, 49, m_L_isMerged), (4, 148, m_H_least), (4, 53, m_L_isCounted), (4, 151, m_L_exponents), (4, 162, m_H_rowSize)]
def mthT (c i : Nat) : Option MT := er_find er_calls c i
def lkOK (q : Nat × Nat × MT) : Prop := Cond.methodLink (cN q.1) q.2.1 (mtN q.2.2) ∈ er_G ∧ mtOK q.2.2
theorem lk_3_34_ok : lkOK (3, 34, m_R_append) := ⟨er_in 110 (by decide +kernel) rfl, m_R_append_ok⟩
theorem lk_1_19_ok : lkOK (1, 19, m_R_numberAt) := ⟨er_in 114 (by decide +kernel) rfl, m_R_numberAt_ok⟩
theorem lk_4_27_ok : lkOK (4, 27, m_H_fill) := ⟨er_in 137 (by decide +kernel) rfl, m_H_fill_ok⟩
theorem lk_3_38_ok : lkOK (3, 38, m_H_findRow) := ⟨er_in 141 (by decide +kernel) rfl, m_H_findRow_ok⟩
theorem lk_3_42_ok : lkOK (3, 42, m_H_requireWithin) := ⟨er_in 212 (by decide +kernel) rfl, m_H_requireWithin_ok⟩
theorem lk_4_38_ok : lkOK (4, 38, m_H_isSound) := ⟨er_in 231 (by decide +kernel) rfl, m_H_isSound_ok⟩
theorem lk_3_177_ok : lkOK (3, 177, m_H_areRowsRising) := ⟨er_in 235 (by decide +kernel) rfl, m_H_areRowsRising_ok⟩
theorem lk_3_234_ok : lkOK (3, 234, m_R_isRising) := ⟨er_in 239 (by decide +kernel) rfl, m_R_isRising_ok⟩
theorem lk_3_180_ok : lkOK (3, 180, m_H_areQueuesWithinLimits) := ⟨er_in 243 (by decide +kernel) rfl, m_H_areQueuesWithinLimits_ok⟩
theorem lk_3_150_ok : lkOK (3, 150, m_W_limit) := ⟨er_in 247 (by decide +kernel) rfl, m_W_limit_ok⟩
theorem lk_2_165_ok : lkOK (2, 165, m_J_bitCount) := ⟨er_in 251 (by decide +kernel) rfl, m_J_bitCount_ok⟩
theorem lk_3_108_ok : lkOK (3, 108, m_W_isEmpty) := ⟨er_in 260 (by decide +kernel) rfl, m_W_isEmpty_ok⟩
theorem lk_3_116_ok : lkOK (3, 116, m_W_become) := ⟨er_in 264 (by decide +kernel) rfl, m_W_become_ok⟩
theorem lk_2_37_ok : lkOK (2, 37, m_W_takeRows) := ⟨er_in 268 (by decide +kernel) rfl, m_W_takeRows_ok⟩
theorem lk_2_29_ok : lkOK (2, 29, m_R_become) := ⟨er_in 272 (by decide +kernel) rfl, m_R_become_ok⟩
theorem lk_2_83_ok : lkOK (2, 83, m_Q_become) := ⟨er_in 279 (by decide +kernel) rfl, m_Q_become_ok⟩
theorem lk_3_120_ok : lkOK (3, 120, m_Q_turnOver) := ⟨er_in 284 (by decide +kernel) rfl, m_Q_turnOver_ok⟩
theorem lk_0_27_ok : lkOK (0, 27, m_Q_pop) := ⟨er_in 288 (by decide +kernel) rfl, m_Q_pop_ok⟩
theorem lk_0_23_ok : lkOK (0, 23, m_Q_sink) := ⟨er_in 292 (by decide +kernel) rfl, m_Q_sink_ok⟩
theorem lk_0_31_ok : lkOK (0, 31, m_Q_refill) := ⟨er_in 296 (by decide +kernel) rfl, m_Q_refill_ok⟩
theorem lk_0_35_ok : lkOK (0, 35, m_Q_tagOf) := ⟨er_in 300 (by decide +kernel) rfl, m_Q_tagOf_ok⟩
theorem lk_0_38_ok : lkOK (0, 38, m_Q_push) := ⟨er_in 303 (by decide +kernel) rfl, m_Q_push_ok⟩
theorem lk_3_183_ok : lkOK (3, 183, m_H_hasToldNoMoreThanIs) := ⟨er_in 307 (by decide +kernel) rfl, m_H_hasToldNoMoreThanIs_ok⟩
theorem lk_3_132_ok : lkOK (3, 132, m_W_lastNumber) := ⟨er_in 310 (by decide +kernel) rfl, m_W_lastNumber_ok⟩
theorem lk_2_89_ok : lkOK (2, 89, m_Q_numberOf) := ⟨er_in 314 (by decide +kernel) rfl, m_Q_numberOf_ok⟩
theorem lk_3_153_ok : lkOK (3, 153, m_W_canCountTo) := ⟨er_in 317 (by decide +kernel) rfl, m_W_canCountTo_ok⟩
theorem lk_3_156_ok : lkOK (3, 156, m_W_countUpTo) := ⟨er_in 321 (by decide +kernel) rfl, m_W_countUpTo_ok⟩
theorem lk_2_173_ok : lkOK (2, 173, m_W_countProducts) := ⟨er_in 326 (by decide +kernel) rfl, m_W_countProducts_ok⟩
theorem lk_2_131_ok : lkOK (2, 131, m_W_isMember) := ⟨er_in 331 (by decide +kernel) rfl, m_W_isMember_ok⟩
theorem lk_2_177_ok : lkOK (2, 177, m_W_countOfRows) := ⟨er_in 334 (by decide +kernel) rfl, m_W_countOfRows_ok⟩
theorem lk_2_186_ok : lkOK (2, 186, m_R_countUpTo) := ⟨er_in 338 (by decide +kernel) rfl, m_R_countUpTo_ok⟩
theorem lk_2_180_ok : lkOK (2, 180, m_W_countPrimes) := ⟨er_in 342 (by decide +kernel) rfl, m_W_countPrimes_ok⟩
theorem lk_2_156_ok : lkOK (2, 156, m_W_isPrime) := ⟨er_in 345 (by decide +kernel) rfl, m_W_isPrime_ok⟩
theorem lk_2_183_ok : lkOK (2, 183, m_W_countOfGrid) := ⟨er_in 348 (by decide +kernel) rfl, m_W_countOfGrid_ok⟩
theorem lk_2_139_ok : lkOK (2, 139, m_W_gridNumber) := ⟨er_in 352 (by decide +kernel) rfl, m_W_gridNumber_ok⟩
theorem lk_2_143_ok : lkOK (2, 143, m_R_numberAt) := ⟨er_in 356 (by decide +kernel) rfl, m_R_numberAt_ok⟩
theorem lk_3_170_ok : lkOK (3, 170, m_H_doTrialsTellAlike) := ⟨er_in 357 (by decide +kernel) rfl, m_H_doTrialsTellAlike_ok⟩
theorem lk_3_101_ok : lkOK (3, 101, m_W_isDry) := ⟨er_in 361 (by decide +kernel) rfl, m_W_isDry_ok⟩
theorem lk_3_105_ok : lkOK (3, 105, m_W_tell) := ⟨er_in 365 (by decide +kernel) rfl, m_W_tell_ok⟩
theorem lk_2_86_ok : lkOK (2, 86, m_W_tellPrime) := ⟨er_in 369 (by decide +kernel) rfl, m_W_tellPrime_ok⟩
theorem lk_2_112_ok : lkOK (2, 112, m_W_nextNumber) := ⟨er_in 373 (by decide +kernel) rfl, m_W_nextNumber_ok⟩
theorem lk_2_119_ok : lkOK (2, 119, m_Q_firstNumber) := ⟨er_in 377 (by decide +kernel) rfl, m_Q_firstNumber_ok⟩
theorem lk_0_19_ok : lkOK (0, 19, m_Q_numberOf) := ⟨er_in 381 (by decide +kernel) rfl, m_Q_numberOf_ok⟩
theorem lk_2_93_ok : lkOK (2, 93, m_Q_pop) := ⟨er_in 383 (by decide +kernel) rfl, m_Q_pop_ok⟩
theorem lk_2_97_ok : lkOK (2, 97, m_Q_tagOf) := ⟨er_in 384 (by decide +kernel) rfl, m_Q_tagOf_ok⟩
theorem lk_2_63_ok : lkOK (2, 63, m_Q_keyOf) := ⟨er_in 385 (by decide +kernel) rfl, m_Q_keyOf_ok⟩
theorem lk_2_67_ok : lkOK (2, 67, m_Q_push) := ⟨er_in 388 (by decide +kernel) rfl, m_Q_push_ok⟩
theorem lk_2_100_ok : lkOK (2, 100, m_W_offerProducts) := ⟨er_in 389 (by decide +kernel) rfl, m_W_offerProducts_ok⟩
theorem lk_2_103_ok : lkOK (2, 103, m_W_rankOf) := ⟨er_in 396 (by decide +kernel) rfl, m_W_rankOf_ok⟩
theorem lk_2_71_ok : lkOK (2, 71, m_W_offerOfRow) := ⟨er_in 400 (by decide +kernel) rfl, m_W_offerOfRow_ok⟩
theorem lk_2_106_ok : lkOK (2, 106, m_W_offerNeighbours) := ⟨er_in 404 (by decide +kernel) rfl, m_W_offerNeighbours_ok⟩
theorem lk_2_79_ok : lkOK (2, 79, m_W_offerOfGrid) := ⟨er_in 408 (by decide +kernel) rfl, m_W_offerOfGrid_ok⟩
theorem lk_4_23_ok : lkOK (4, 23, m_L_below) := ⟨er_in 412 (by decide +kernel) rfl, m_L_below_ok⟩
theorem lk_4_20_ok : lkOK (4, 20, m_L_roll) := ⟨er_in 416 (by decide +kernel) rfl, m_L_roll_ok⟩
theorem lk_4_9_ok : lkOK (4, 9, m_L_cell) := ⟨er_in 419 (by decide +kernel) rfl, m_L_cell_ok⟩
theorem lk_4_31_ok : lkOK (4, 31, m_L_begin) := ⟨er_in 425 (by decide +kernel) rfl, m_L_begin_ok⟩
theorem lk_4_57_ok : lkOK (4, 57, m_H_powers) := ⟨er_in 428 (by decide +kernel) rfl, m_H_powers_ok⟩
theorem lk_3_80_ok : lkOK (3, 80, m_H_findWell) := ⟨er_in 432 (by decide +kernel) rfl, m_H_findWell_ok⟩
theorem lk_3_84_ok : lkOK (3, 84, m_W_begin) := ⟨er_in 437 (by decide +kernel) rfl, m_W_begin_ok⟩
theorem lk_2_48_ok : lkOK (2, 48, m_W_restart) := ⟨er_in 441 (by decide +kernel) rfl, m_W_restart_ok⟩
theorem lk_2_75_ok : lkOK (2, 75, m_W_isGrid) := ⟨er_in 445 (by decide +kernel) rfl, m_W_isGrid_ok⟩
theorem lk_4_60_ok : lkOK (4, 60, m_H_sums) := ⟨er_in 449 (by decide +kernel) rfl, m_H_sums_ok⟩
theorem lk_3_97_ok : lkOK (3, 97, m_W_beginGrid) := ⟨er_in 453 (by decide +kernel) rfl, m_W_beginGrid_ok⟩
theorem lk_2_33_ok : lkOK (2, 33, m_W_begin) := ⟨er_in 457 (by decide +kernel) rfl, m_W_begin_ok⟩
theorem lk_4_64_ok : lkOK (4, 64, m_H_triples) := ⟨er_in 458 (by decide +kernel) rfl, m_H_triples_ok⟩
theorem lk_4_67_ok : lkOK (4, 67, m_H_merge) := ⟨er_in 462 (by decide +kernel) rfl, m_H_merge_ok⟩
theorem lk_3_73_ok : lkOK (3, 73, m_W_beginMerged) := ⟨er_in 466 (by decide +kernel) rfl, m_W_beginMerged_ok⟩
theorem lk_4_71_ok : lkOK (4, 71, m_H_table) := ⟨er_in 470 (by decide +kernel) rfl, m_H_table_ok⟩
theorem lk_4_74_ok : lkOK (4, 74, m_H_primes) := ⟨er_in 474 (by decide +kernel) rfl, m_H_primes_ok⟩
theorem lk_4_35_ok : lkOK (4, 35, m_L_act) := ⟨er_in 478 (by decide +kernel) rfl, m_L_act_ok⟩
theorem lk_4_78_ok : lkOK (4, 78, m_H_add) := ⟨er_in 481 (by decide +kernel) rfl, m_H_add_ok⟩
theorem lk_4_81_ok : lkOK (4, 81, m_H_cut) := ⟨er_in 485 (by decide +kernel) rfl, m_H_cut_ok⟩
theorem lk_3_50_ok : lkOK (3, 50, m_R_removeLast) := ⟨er_in 489 (by decide +kernel) rfl, m_R_removeLast_ok⟩
theorem lk_4_84_ok : lkOK (4, 84, m_H_close) := ⟨er_in 493 (by decide +kernel) rfl, m_H_close_ok⟩
theorem lk_3_54_ok : lkOK (3, 54, m_H_requirePlace) := ⟨er_in 497 (by decide +kernel) rfl, m_H_requirePlace_ok⟩
theorem lk_3_135_ok : lkOK (3, 135, m_W_closeRow) := ⟨er_in 501 (by decide +kernel) rfl, m_W_closeRow_ok⟩
theorem lk_2_146_ok : lkOK (2, 146, m_W_tagAt) := ⟨er_in 505 (by decide +kernel) rfl, m_W_tagAt_ok⟩
theorem lk_2_149_ok : lkOK (2, 149, m_Q_holds) := ⟨er_in 509 (by decide +kernel) rfl, m_Q_holds_ok⟩
theorem lk_2_153_ok : lkOK (2, 153, m_Q_remove) := ⟨er_in 513 (by decide +kernel) rfl, m_Q_remove_ok⟩
theorem lk_4_88_ok : lkOK (4, 88, m_H_skip) := ⟨er_in 518 (by decide +kernel) rfl, m_H_skip_ok⟩
theorem lk_3_112_ok : lkOK (3, 112, m_W_tellBelow) := ⟨er_in 523 (by decide +kernel) rfl, m_W_tellBelow_ok⟩
theorem lk_2_109_ok : lkOK (2, 109, m_W_isDry) := ⟨er_in 527 (by decide +kernel) rfl, m_W_isDry_ok⟩
theorem lk_2_115_ok : lkOK (2, 115, m_W_tell) := ⟨er_in 528 (by decide +kernel) rfl, m_W_tell_ok⟩
theorem lk_4_91_ok : lkOK (4, 91, m_H_copy) := ⟨er_in 529 (by decide +kernel) rfl, m_H_copy_ok⟩
theorem lk_4_94_ok : lkOK (4, 94, m_H_anew) := ⟨er_in 533 (by decide +kernel) rfl, m_H_anew_ok⟩
theorem lk_3_123_ok : lkOK (3, 123, m_W_restart) := ⟨er_in 537 (by decide +kernel) rfl, m_W_restart_ok⟩
theorem lk_4_97_ok : lkOK (4, 97, m_H_again) := ⟨er_in 538 (by decide +kernel) rfl, m_H_again_ok⟩
theorem lk_4_100_ok : lkOK (4, 100, m_H_drop) := ⟨er_in 542 (by decide +kernel) rfl, m_H_drop_ok⟩
theorem lk_4_103_ok : lkOK (4, 103, m_H_shake) := ⟨er_in 546 (by decide +kernel) rfl, m_H_shake_ok⟩
theorem lk_4_106_ok : lkOK (4, 106, m_H_draw) := ⟨er_in 550 (by decide +kernel) rfl, m_H_draw_ok⟩
theorem lk_4_109_ok : lkOK (4, 109, m_H_draws) := ⟨er_in 554 (by decide +kernel) rfl, m_H_draws_ok⟩
theorem lk_4_42_ok : lkOK (4, 42, m_L_isCourse) := ⟨er_in 558 (by decide +kernel) rfl, m_L_isCourse_ok⟩
theorem lk_4_112_ok : lkOK (4, 112, m_H_ofWell) := ⟨er_in 561 (by decide +kernel) rfl, m_H_ofWell_ok⟩
theorem lk_3_147_ok : lkOK (3, 147, m_W_lastPlace) := ⟨er_in 565 (by decide +kernel) rfl, m_W_lastPlace_ok⟩
theorem lk_2_162_ok : lkOK (2, 162, m_W_hasPlaces) := ⟨er_in 569 (by decide +kernel) rfl, m_W_hasPlaces_ok⟩
theorem lk_4_115_ok : lkOK (4, 115, m_H_digest) := ⟨er_in 573 (by decide +kernel) rfl, m_H_digest_ok⟩
theorem lk_3_191_ok : lkOK (3, 191, m_H_house) := ⟨er_in 579 (by decide +kernel) rfl, m_H_house_ok⟩
theorem lk_3_173_ok : lkOK (3, 173, m_H_shareOf) := ⟨er_in 583 (by decide +kernel) rfl, m_H_shareOf_ok⟩
theorem lk_3_194_ok : lkOK (3, 194, m_H_rowSize) := ⟨er_in 586 (by decide +kernel) rfl, m_H_rowSize_ok⟩
theorem lk_3_197_ok : lkOK (3, 197, m_H_rowAt) := ⟨er_in 590 (by decide +kernel) rfl, m_H_rowAt_ok⟩
theorem lk_3_58_ok : lkOK (3, 58, m_R_numberAt) := ⟨er_in 594 (by decide +kernel) rfl, m_R_numberAt_ok⟩
theorem lk_3_200_ok : lkOK (3, 200, m_H_ofWell) := ⟨er_in 595 (by decide +kernel) rfl, m_H_ofWell_ok⟩
theorem lk_3_203_ok : lkOK (3, 203, m_H_peek) := ⟨er_in 596 (by decide +kernel) rfl, m_H_peek_ok⟩
theorem lk_3_141_ok : lkOK (3, 141, m_W_nextNumber) := ⟨er_in 600 (by decide +kernel) rfl, m_W_nextNumber_ok⟩
theorem lk_3_206_ok : lkOK (3, 206, m_H_isSound) := ⟨er_in 601 (by decide +kernel) rfl, m_H_isSound_ok⟩
theorem lk_4_120_ok : lkOK (4, 120, m_H_waits) := ⟨er_in 603 (by decide +kernel) rfl, m_H_waits_ok⟩
theorem lk_3_159_ok : lkOK (3, 159, m_Q_countUpTo) := ⟨er_in 607 (by decide +kernel) rfl, m_Q_countUpTo_ok⟩
theorem lk_4_123_ok : lkOK (4, 123, m_H_upTo) := ⟨er_in 611 (by decide +kernel) rfl, m_H_upTo_ok⟩
theorem lk_4_126_ok : lkOK (4, 126, m_H_nth) := ⟨er_in 615 (by decide +kernel) rfl, m_H_nth_ok⟩
theorem lk_3_77_ok : lkOK (3, 77, m_W_numberBehind) := ⟨er_in 619 (by decide +kernel) rfl, m_W_numberBehind_ok⟩
theorem lk_2_159_ok : lkOK (2, 159, m_W_tellBelow) := ⟨er_in 623 (by decide +kernel) rfl, m_W_tellBelow_ok⟩
theorem lk_4_129_ok : lkOK (4, 129, m_H_peek) := ⟨er_in 624 (by decide +kernel) rfl, m_H_peek_ok⟩
theorem lk_4_137_ok : lkOK (4, 137, m_L_isPrime) := ⟨er_in 626 (by decide +kernel) rfl, m_L_isPrime_ok⟩
theorem lk_4_141_ok : lkOK (4, 141, m_H_ways) := ⟨er_in 629 (by decide +kernel) rfl, m_H_ways_ok⟩
theorem lk_4_46_ok : lkOK (4, 46, m_L_isGoing) := ⟨er_in 633 (by decide +kernel) rfl, m_L_isGoing_ok⟩
theorem lk_4_144_ok : lkOK (4, 144, m_H_isAlike) := ⟨er_in 636 (by decide +kernel) rfl, m_H_isAlike_ok⟩
theorem lk_4_49_ok : lkOK (4, 49, m_L_isMerged) := ⟨er_in 640 (by decide +kernel) rfl, m_L_isMerged_ok⟩
theorem lk_4_148_ok : lkOK (4, 148, m_H_least) := ⟨er_in 643 (by decide +kernel) rfl, m_H_least_ok⟩
theorem lk_4_53_ok : lkOK (4, 53, m_L_isCounted) := ⟨er_in 647 (by decide +kernel) rfl, m_L_isCounted_ok⟩
theorem lk_4_151_ok : lkOK (4, 151, m_L_exponents) := ⟨er_in 652 (by decide +kernel) rfl, m_L_exponents_ok⟩
theorem lk_4_162_ok : lkOK (4, 162, m_H_rowSize) := ⟨er_in 657 (by decide +kernel) rfl, m_H_rowSize_ok⟩
set_option maxRecDepth 100000 in
theorem er_calls_ok : ∀ q ∈ er_calls, lkOK q := List.forall_mem_cons.mpr ⟨lk_3_34_ok, List.forall_mem_cons.mpr ⟨lk_1_19_ok, List.forall_mem_cons.mpr ⟨lk_4_27_ok, List.forall_mem_cons.mpr ⟨lk_3_38_ok, List.forall_mem_cons.mpr ⟨lk_3_42_ok, List.forall_mem_cons.mpr ⟨lk_4_38_ok, List.forall_mem_cons.mpr ⟨lk_3_177_ok, List.forall_mem_cons.mpr ⟨lk_3_234_ok, List.forall_mem_cons.mpr ⟨lk_3_180_ok, List.forall_mem_cons.mpr ⟨lk_3_150_ok, List.forall_mem_cons.mpr ⟨lk_2_165_ok, List.forall_mem_cons.mpr ⟨lk_3_108_ok, List.forall_mem_cons.mpr ⟨lk_3_116_ok, List.forall_mem_cons.mpr ⟨lk_2_37_ok, List.forall_mem_cons.mpr ⟨lk_2_29_ok, List.forall_mem_cons.mpr ⟨lk_2_83_ok, List.forall_mem_cons.mpr ⟨lk_3_120_ok, List.forall_mem_cons.mpr ⟨lk_0_27_ok, List.forall_mem_cons.mpr ⟨lk_0_23_ok, List.forall_mem_cons.mpr ⟨lk_0_31_ok, List.forall_mem_cons.mpr ⟨lk_0_35_ok, List.forall_mem_cons.mpr ⟨lk_0_38_ok, List.forall_mem_cons.mpr ⟨lk_3_183_ok, List.forall_mem_cons.mpr ⟨lk_3_132_ok, List.forall_mem_cons.mpr ⟨lk_2_89_ok, List.forall_mem_cons.mpr ⟨lk_3_153_ok, List.forall_mem_cons.mpr ⟨lk_3_156_ok, List.forall_mem_cons.mpr ⟨lk_2_173_ok, List.forall_mem_cons.mpr ⟨lk_2_131_ok, List.forall_mem_cons.mpr ⟨lk_2_177_ok, List.forall_mem_cons.mpr ⟨lk_2_186_ok, List.forall_mem_cons.mpr ⟨lk_2_180_ok, List.forall_mem_cons.mpr ⟨lk_2_156_ok, List.forall_mem_cons.mpr ⟨lk_2_183_ok, List.forall_mem_cons.mpr ⟨lk_2_139_ok, List.forall_mem_cons.mpr ⟨lk_2_143_ok, List.forall_mem_cons.mpr ⟨lk_3_170_ok, List.forall_mem_cons.mpr ⟨lk_3_101_ok, List.forall_mem_cons.mpr ⟨lk_3_105_ok, List.forall_mem_cons.mpr ⟨lk_2_86_ok, List.forall_mem_cons.mpr ⟨lk_2_112_ok, List.forall_mem_cons.mpr ⟨lk_2_119_ok, List.forall_mem_cons.mpr ⟨lk_0_19_ok, List.forall_mem_cons.mpr ⟨lk_2_93_ok, List.forall_mem_cons.mpr ⟨lk_2_97_ok, List.forall_mem_cons.mpr ⟨lk_2_63_ok, List.forall_mem_cons.mpr ⟨lk_2_67_ok, List.forall_mem_cons.mpr ⟨lk_2_100_ok, List.forall_mem_cons.mpr ⟨lk_2_103_ok, List.forall_mem_cons.mpr ⟨lk_2_71_ok, List.forall_mem_cons.mpr ⟨lk_2_106_ok, List.forall_mem_cons.mpr ⟨lk_2_79_ok, List.forall_mem_cons.mpr ⟨lk_4_23_ok, List.forall_mem_cons.mpr ⟨lk_4_20_ok, List.forall_mem_cons.mpr ⟨lk_4_9_ok, List.forall_mem_cons.mpr ⟨lk_4_31_ok, List.forall_mem_cons.mpr ⟨lk_4_57_ok, List.forall_mem_cons.mpr ⟨lk_3_80_ok, List.forall_mem_cons.mpr ⟨lk_3_84_ok, List.forall_mem_cons.mpr ⟨lk_2_48_ok, List.forall_mem_cons.mpr ⟨lk_2_75_ok, List.forall_mem_cons.mpr ⟨lk_4_60_ok, List.forall_mem_cons.mpr ⟨lk_3_97_ok, List.forall_mem_cons.mpr ⟨lk_2_33_ok, List.forall_mem_cons.mpr ⟨lk_4_64_ok, List.forall_mem_cons.mpr ⟨lk_4_67_ok, List.forall_mem_cons.mpr ⟨lk_3_73_ok, List.forall_mem_cons.mpr ⟨lk_4_71_ok, List.forall_mem_cons.mpr ⟨lk_4_74_ok, List.forall_mem_cons.mpr ⟨lk_4_35_ok, List.forall_mem_cons.mpr ⟨lk_4_78_ok, List.forall_mem_cons.mpr ⟨lk_4_81_ok, List.forall_mem_cons.mpr ⟨lk_3_50_ok, List.forall_mem_cons.mpr ⟨lk_4_84_ok, List.forall_mem_cons.mpr ⟨lk_3_54_ok, List.forall_mem_cons.mpr ⟨lk_3_135_ok, List.forall_mem_cons.mpr ⟨lk_2_146_ok, List.forall_mem_cons.mpr ⟨lk_2_149_ok, List.forall_mem_cons.mpr ⟨lk_2_153_ok, List.forall_mem_cons.mpr ⟨lk_4_88_ok, List.forall_mem_cons.mpr ⟨lk_3_112_ok, List.forall_mem_cons.mpr ⟨lk_2_109_ok, List.forall_mem_cons.mpr ⟨lk_2_115_ok, List.forall_mem_cons.mpr ⟨lk_4_91_ok, List.forall_mem_cons.mpr ⟨lk_4_94_ok, List.forall_mem_cons.mpr ⟨lk_3_123_ok, List.forall_mem_cons.mpr ⟨lk_4_97_ok, List.forall_mem_cons.mpr ⟨lk_4_100_ok, List.forall_mem_cons.mpr ⟨lk_4_103_ok, List.forall_mem_cons.mpr ⟨lk_4_106_ok, List.forall_mem_cons.mpr ⟨lk_4_109_ok, List.forall_mem_cons.mpr ⟨lk_4_42_ok, List.forall_mem_cons.mpr ⟨lk_4_112_ok, List.forall_mem_cons.mpr ⟨lk_3_147_ok, List.forall_mem_cons.mpr ⟨lk_2_162_ok, List.forall_mem_cons.mpr ⟨lk_4_115_ok, List.forall_mem_cons.mpr ⟨lk_3_191_ok, List.forall_mem_cons.mpr ⟨lk_3_173_ok, List.forall_mem_cons.mpr ⟨lk_3_194_ok, List.forall_mem_cons.mpr ⟨lk_3_197_ok, List.forall_mem_cons.mpr ⟨lk_3_58_ok, List.forall_mem_cons.mpr ⟨lk_3_200_ok, List.forall_mem_cons.mpr ⟨lk_3_203_ok, List.forall_mem_cons.mpr ⟨lk_3_141_ok, List.forall_mem_cons.mpr ⟨lk_3_206_ok, List.forall_mem_cons.mpr ⟨lk_4_120_ok, List.forall_mem_cons.mpr ⟨lk_3_159_ok, List.forall_mem_cons.mpr ⟨lk_4_123_ok, List.forall_mem_cons.mpr ⟨lk_4_126_ok, List.forall_mem_cons.mpr ⟨lk_3_77_ok, List.forall_mem_cons.mpr ⟨lk_2_159_ok, List.forall_mem_cons.mpr ⟨lk_4_129_ok, List.forall_mem_cons.mpr ⟨lk_4_137_ok, List.forall_mem_cons.mpr ⟨lk_4_141_ok, List.forall_mem_cons.mpr ⟨lk_4_46_ok, List.forall_mem_cons.mpr ⟨lk_4_144_ok, List.forall_mem_cons.mpr ⟨lk_4_49_ok, List.forall_mem_cons.mpr ⟨lk_4_148_ok, List.forall_mem_cons.mpr ⟨lk_4_53_ok, List.forall_mem_cons.mpr ⟨lk_4_151_ok, List.forall_mem_cons.mpr ⟨lk_4_162_ok, fun _ h => absurd h List.not_mem_nil⟩⟩⟩⟩⟩⟩⟩⟩⟩⟩⟩⟩⟩⟩⟩⟩⟩⟩⟩⟩⟩⟩⟩⟩⟩⟩⟩⟩⟩⟩⟩⟩⟩⟩⟩⟩⟩⟩⟩⟩⟩⟩⟩⟩⟩⟩⟩⟩⟩⟩⟩⟩⟩⟩⟩⟩⟩⟩⟩⟩⟩⟩⟩⟩⟩⟩⟩⟩⟩⟩⟩⟩⟩⟩⟩⟩⟩⟩⟩⟩⟩⟩⟩⟩⟩⟩⟩⟩⟩⟩⟩⟩⟩⟩⟩⟩⟩⟩⟩⟩⟩⟩⟩⟩⟩⟩⟩⟩⟩⟩⟩⟩⟩⟩⟩⟩⟩⟩⟩⟩⟩
theorem lk_3_34 : mthT 3 34 = some m_R_append := rfl
theorem lk_1_19 : mthT 1 19 = some m_R_numberAt := rfl
theorem lk_4_27 : mthT 4 27 = some m_H_fill := rfl
theorem lk_3_38 : mthT 3 38 = some m_H_findRow := rfl
theorem lk_3_42 : mthT 3 42 = some m_H_requireWithin := rfl
theorem lk_4_38 : mthT 4 38 = some m_H_isSound := rfl
theorem lk_3_177 : mthT 3 177 = some m_H_areRowsRising := rfl
theorem lk_3_234 : mthT 3 234 = some m_R_isRising := rfl
theorem lk_3_180 : mthT 3 180 = some m_H_areQueuesWithinLimits := rfl
theorem lk_3_150 : mthT 3 150 = some m_W_limit := rfl
theorem lk_2_165 : mthT 2 165 = some m_J_bitCount := rfl
theorem lk_3_108 : mthT 3 108 = some m_W_isEmpty := rfl
theorem lk_3_116 : mthT 3 116 = some m_W_become := rfl
theorem lk_2_37 : mthT 2 37 = some m_W_takeRows := rfl
theorem lk_2_29 : mthT 2 29 = some m_R_become := rfl
theorem lk_2_83 : mthT 2 83 = some m_Q_become := rfl
theorem lk_3_120 : mthT 3 120 = some m_Q_turnOver := rfl
theorem lk_0_27 : mthT 0 27 = some m_Q_pop := rfl
theorem lk_0_23 : mthT 0 23 = some m_Q_sink := rfl
theorem lk_0_31 : mthT 0 31 = some m_Q_refill := rfl
theorem lk_0_35 : mthT 0 35 = some m_Q_tagOf := rfl
theorem lk_0_38 : mthT 0 38 = some m_Q_push := rfl
theorem lk_3_183 : mthT 3 183 = some m_H_hasToldNoMoreThanIs := rfl
theorem lk_3_132 : mthT 3 132 = some m_W_lastNumber := rfl
theorem lk_2_89 : mthT 2 89 = some m_Q_numberOf := rfl
theorem lk_3_153 : mthT 3 153 = some m_W_canCountTo := rfl
theorem lk_3_156 : mthT 3 156 = some m_W_countUpTo := rfl
theorem lk_2_173 : mthT 2 173 = some m_W_countProducts := rfl
theorem lk_2_131 : mthT 2 131 = some m_W_isMember := rfl
theorem lk_2_177 : mthT 2 177 = some m_W_countOfRows := rfl
theorem lk_2_186 : mthT 2 186 = some m_R_countUpTo := rfl
theorem lk_2_180 : mthT 2 180 = some m_W_countPrimes := rfl
theorem lk_2_156 : mthT 2 156 = some m_W_isPrime := rfl
theorem lk_2_183 : mthT 2 183 = some m_W_countOfGrid := rfl
theorem lk_2_139 : mthT 2 139 = some m_W_gridNumber := rfl
theorem lk_2_143 : mthT 2 143 = some m_R_numberAt := rfl
theorem lk_3_170 : mthT 3 170 = some m_H_doTrialsTellAlike := rfl
theorem lk_3_101 : mthT 3 101 = some m_W_isDry := rfl
theorem lk_3_105 : mthT 3 105 = some m_W_tell := rfl
theorem lk_2_86 : mthT 2 86 = some m_W_tellPrime := rfl
theorem lk_2_112 : mthT 2 112 = some m_W_nextNumber := rfl
theorem lk_2_119 : mthT 2 119 = some m_Q_firstNumber := rfl
theorem lk_0_19 : mthT 0 19 = some m_Q_numberOf := rfl
theorem lk_2_93 : mthT 2 93 = some m_Q_pop := rfl
theorem lk_2_97 : mthT 2 97 = some m_Q_tagOf := rfl
theorem lk_2_63 : mthT 2 63 = some m_Q_keyOf := rfl
theorem lk_2_67 : mthT 2 67 = some m_Q_push := rfl
theorem lk_2_100 : mthT 2 100 = some m_W_offerProducts := rfl
theorem lk_2_103 : mthT 2 103 = some m_W_rankOf := rfl
theorem lk_2_71 : mthT 2 71 = some m_W_offerOfRow := rfl
theorem lk_2_106 : mthT 2 106 = some m_W_offerNeighbours := rfl
theorem lk_2_79 : mthT 2 79 = some m_W_offerOfGrid := rfl
theorem lk_4_23 : mthT 4 23 = some m_L_below := rfl
theorem lk_4_20 : mthT 4 20 = some m_L_roll := rfl
theorem lk_4_9 : mthT 4 9 = some m_L_cell := rfl
theorem lk_4_31 : mthT 4 31 = some m_L_begin := rfl
theorem lk_4_57 : mthT 4 57 = some m_H_powers := rfl
theorem lk_3_80 : mthT 3 80 = some m_H_findWell := rfl
theorem lk_3_84 : mthT 3 84 = some m_W_begin := rfl
theorem lk_2_48 : mthT 2 48 = some m_W_restart := rfl
theorem lk_2_75 : mthT 2 75 = some m_W_isGrid := rfl
theorem lk_4_60 : mthT 4 60 = some m_H_sums := rfl
theorem lk_3_97 : mthT 3 97 = some m_W_beginGrid := rfl
theorem lk_2_33 : mthT 2 33 = some m_W_begin := rfl
theorem lk_4_64 : mthT 4 64 = some m_H_triples := rfl
theorem lk_4_67 : mthT 4 67 = some m_H_merge := rfl
theorem lk_3_73 : mthT 3 73 = some m_W_beginMerged := rfl
theorem lk_4_71 : mthT 4 71 = some m_H_table := rfl
theorem lk_4_74 : mthT 4 74 = some m_H_primes := rfl
theorem lk_4_35 : mthT 4 35 = some m_L_act := rfl
theorem lk_4_78 : mthT 4 78 = some m_H_add := rfl
theorem lk_4_81 : mthT 4 81 = some m_H_cut := rfl
theorem lk_3_50 : mthT 3 50 = some m_R_removeLast := rfl
theorem lk_4_84 : mthT 4 84 = some m_H_close := rfl
theorem lk_3_54 : mthT 3 54 = some m_H_requirePlace := rfl
theorem lk_3_135 : mthT 3 135 = some m_W_closeRow := rfl
theorem lk_2_146 : mthT 2 146 = some m_W_tagAt := rfl
theorem lk_2_149 : mthT 2 149 = some m_Q_holds := rfl
theorem lk_2_153 : mthT 2 153 = some m_Q_remove := rfl
theorem lk_4_88 : mthT 4 88 = some m_H_skip := rfl
theorem lk_3_112 : mthT 3 112 = some m_W_tellBelow := rfl
theorem lk_2_109 : mthT 2 109 = some m_W_isDry := rfl
theorem lk_2_115 : mthT 2 115 = some m_W_tell := rfl
theorem lk_4_91 : mthT 4 91 = some m_H_copy := rfl
theorem lk_4_94 : mthT 4 94 = some m_H_anew := rfl
theorem lk_3_123 : mthT 3 123 = some m_W_restart := rfl
theorem lk_4_97 : mthT 4 97 = some m_H_again := rfl
theorem lk_4_100 : mthT 4 100 = some m_H_drop := rfl
theorem lk_4_103 : mthT 4 103 = some m_H_shake := rfl
theorem lk_4_106 : mthT 4 106 = some m_H_draw := rfl
theorem lk_4_109 : mthT 4 109 = some m_H_draws := rfl
theorem lk_4_42 : mthT 4 42 = some m_L_isCourse := rfl
theorem lk_4_112 : mthT 4 112 = some m_H_ofWell := rfl
theorem lk_3_147 : mthT 3 147 = some m_W_lastPlace := rfl
theorem lk_2_162 : mthT 2 162 = some m_W_hasPlaces := rfl
theorem lk_4_115 : mthT 4 115 = some m_H_digest := rfl
theorem lk_3_191 : mthT 3 191 = some m_H_house := rfl
theorem lk_3_173 : mthT 3 173 = some m_H_shareOf := rfl
theorem lk_3_194 : mthT 3 194 = some m_H_rowSize := rfl
theorem lk_3_197 : mthT 3 197 = some m_H_rowAt := rfl
theorem lk_3_58 : mthT 3 58 = some m_R_numberAt := rfl
theorem lk_3_200 : mthT 3 200 = some m_H_ofWell := rfl
theorem lk_3_203 : mthT 3 203 = some m_H_peek := rfl
theorem lk_3_141 : mthT 3 141 = some m_W_nextNumber := rfl
theorem lk_3_206 : mthT 3 206 = some m_H_isSound := rfl
theorem lk_4_120 : mthT 4 120 = some m_H_waits := rfl
theorem lk_3_159 : mthT 3 159 = some m_Q_countUpTo := rfl
theorem lk_4_123 : mthT 4 123 = some m_H_upTo := rfl
theorem lk_4_126 : mthT 4 126 = some m_H_nth := rfl
theorem lk_3_77 : mthT 3 77 = some m_W_numberBehind := rfl
theorem lk_2_159 : mthT 2 159 = some m_W_tellBelow := rfl
theorem lk_4_129 : mthT 4 129 = some m_H_peek := rfl
theorem lk_4_137 : mthT 4 137 = some m_L_isPrime := rfl
theorem lk_4_141 : mthT 4 141 = some m_H_ways := rfl
theorem lk_4_46 : mthT 4 46 = some m_L_isGoing := rfl
theorem lk_4_144 : mthT 4 144 = some m_H_isAlike := rfl
theorem lk_4_49 : mthT 4 49 = some m_L_isMerged := rfl
theorem lk_4_148 : mthT 4 148 = some m_H_least := rfl
theorem lk_4_53 : mthT 4 53 = some m_L_isCounted := rfl
theorem lk_4_151 : mthT 4 151 = some m_L_exponents := rfl
theorem lk_4_162 : mthT 4 162 = some m_H_rowSize := rfl
def er_flds : List (Nat × Nat × Nat × Nat) := [(1, 9, 1, 0), (1, 15, 1, 1), (3, 46, 1, 1), (2, 136, 1, 1), (0, 11, 0, 0), (0, 15, 0, 1), (2, 51, 0, 1), (3, 92, 0, 1), (2, 11, 2, 0), (2, 20, 2, 1), (3, 88, 2, 1), (2, 24, 2, 2), (3, 144, 2, 2), (2, 41, 2, 3), (2, 44, 2, 4), (2, 54, 2, 5), (3, 126, 2, 5), (2, 57, 2, 6), (3, 129, 2, 6), (2, 60, 2, 7), (3, 11, 3, 0), (3, 16, 3, 1), (3, 22, 3, 2), (3, 27, 3, 3), (3, 31, 3, 4), (3, 138, 3, 5)]
def fldT (c i : Nat) : Option (Nat × Nat) := er_find er_flds c i
def er_N : List Cond := [Cond.fieldLinkNest (cN 3) 46 (tT 1 1).1 (tT 1 1).2.1 (tT 1 1).2.2.1 "Endlessrows", Cond.fieldLinkNest (cN 2) 136 (tT 1 1).1 (tT 1 1).2.1 (tT 1 1).2.2.1 "Endlessrows", Cond.fieldLinkNest (cN 2) 51 (tT 0 1).1 (tT 0 1).2.1 (tT 0 1).2.2.1 "Endlessrows", Cond.fieldLinkNest (cN 3) 92 (tT 0 1).1 (tT 0 1).2.1 (tT 0 1).2.2.1 "Endlessrows", Cond.fieldLinkNest (cN 3) 88 (tT 2 1).1 (tT 2 1).2.1 (tT 2 1).2.2.1 "Endlessrows", Cond.fieldLinkNest (cN 3) 144 (tT 2 2).1 (tT 2 2).2.1 (tT 2 2).2.2.1 "Endlessrows", Cond.fieldLinkNest (cN 3) 126 (tT 2 5).1 (tT 2 5).2.1 (tT 2 5).2.2.1 "Endlessrows", Cond.fieldLinkNest (cN 3) 129 (tT 2 6).1 (tT 2 6).2.1 (tT 2 6).2.2.1 "Endlessrows", Cond.fieldLinkNest (cN 2) 127 "Endlessrows" "BASES" "[I" "Endlessrows"]
theorem er_N_tbl : ∀ w ∈ er_N, w ∈ lw_tbl := List.forall_mem_cons.mpr ⟨List.mem_of_getElem? (i := 49) (by decide +kernel), List.forall_mem_cons.mpr ⟨List.mem_of_getElem? (i := 50) (by decide +kernel), List.forall_mem_cons.mpr ⟨List.mem_of_getElem? (i := 73) (by decide +kernel), List.forall_mem_cons.mpr ⟨List.mem_of_getElem? (i := 74) (by decide +kernel), List.forall_mem_cons.mpr ⟨List.mem_of_getElem? (i := 83) (by decide +kernel), List.forall_mem_cons.mpr ⟨List.mem_of_getElem? (i := 85) (by decide +kernel), List.forall_mem_cons.mpr ⟨List.mem_of_getElem? (i := 89) (by decide +kernel), List.forall_mem_cons.mpr ⟨List.mem_of_getElem? (i := 91) (by decide +kernel), List.forall_mem_cons.mpr ⟨List.mem_of_getElem? (i := 329) (by decide +kernel), fun _ h => absurd h List.not_mem_nil⟩⟩⟩⟩⟩⟩⟩⟩⟩
def fkOK (q : Nat × Nat × Nat × Nat) : Prop := q.2.2.1 < 4 ∧ q.2.2.2 < nF q.2.2.1 ∧ (Cond.fieldLink (cN q.1) q.2.1 (tT q.2.2.1 q.2.2.2).1 (tT q.2.2.1 q.2.2.2).2.1 (tT q.2.2.1 q.2.2.2).2.2.1 ∈ er_G ∨ Cond.fieldLinkNest (cN q.1) q.2.1 (tT q.2.2.1 q.2.2.2).1 (tT q.2.2.1 q.2.2.2).2.1 (tT q.2.2.1 q.2.2.2).2.2.1 "Endlessrows" ∈ er_N)
theorem fk_1_9_ok : fkOK (1, 9, 1, 0) := ⟨by decide, by decide, Or.inl (er_in 47 (by decide +kernel) rfl)⟩
theorem fk_1_15_ok : fkOK (1, 15, 1, 1) := ⟨by decide, by decide, Or.inl (er_in 48 (by decide +kernel) rfl)⟩
theorem fk_3_46_ok : fkOK (3, 46, 1, 1) := ⟨by decide, by decide, Or.inr (List.mem_of_getElem? (i := 0) rfl)⟩
theorem fk_2_136_ok : fkOK (2, 136, 1, 1) := ⟨by decide, by decide, Or.inr (List.mem_of_getElem? (i := 1) rfl)⟩
theorem fk_0_11_ok : fkOK (0, 11, 0, 0) := ⟨by decide, by decide, Or.inl (er_in 71 (by decide +kernel) rfl)⟩
theorem fk_0_15_ok : fkOK (0, 15, 0, 1) := ⟨by decide, by decide, Or.inl (er_in 72 (by decide +kernel) rfl)⟩
theorem fk_2_51_ok : fkOK (2, 51, 0, 1) := ⟨by decide, by decide, Or.inr (List.mem_of_getElem? (i := 2) rfl)⟩
theorem fk_3_92_ok : fkOK (3, 92, 0, 1) := ⟨by decide, by decide, Or.inr (List.mem_of_getElem? (i := 3) rfl)⟩
theorem fk_2_11_ok : fkOK (2, 11, 2, 0) := ⟨by decide, by decide, Or.inl (er_in 81 (by decide +kernel) rfl)⟩
theorem fk_2_20_ok : fkOK (2, 20, 2, 1) := ⟨by decide, by decide, Or.inl (er_in 82 (by decide +kernel) rfl)⟩
theorem fk_3_88_ok : fkOK (3, 88, 2, 1) := ⟨by decide, by decide, Or.inr (List.mem_of_getElem? (i := 4) rfl)⟩
theorem fk_2_24_ok : fkOK (2, 24, 2, 2) := ⟨by decide, by decide, Or.inl (er_in 84 (by decide +kernel) rfl)⟩
theorem fk_3_144_ok : fkOK (3, 144, 2, 2) := ⟨by decide, by decide, Or.inr (List.mem_of_getElem? (i := 5) rfl)⟩
theorem fk_2_41_ok : fkOK (2, 41, 2, 3) := ⟨by decide, by decide, Or.inl (er_in 86 (by decide +kernel) rfl)⟩
theorem fk_2_44_ok : fkOK (2, 44, 2, 4) := ⟨by decide, by decide, Or.inl (er_in 87 (by decide +kernel) rfl)⟩
theorem fk_2_54_ok : fkOK (2, 54, 2, 5) := ⟨by decide, by decide, Or.inl (er_in 88 (by decide +kernel) rfl)⟩
theorem fk_3_126_ok : fkOK (3, 126, 2, 5) := ⟨by decide, by decide, Or.inr (List.mem_of_getElem? (i := 6) rfl)⟩
theorem fk_2_57_ok : fkOK (2, 57, 2, 6) := ⟨by decide, by decide, Or.inl (er_in 90 (by decide +kernel) rfl)⟩
theorem fk_3_129_ok : fkOK (3, 129, 2, 6) := ⟨by decide, by decide, Or.inr (List.mem_of_getElem? (i := 7) rfl)⟩
theorem fk_2_60_ok : fkOK (2, 60, 2, 7) := ⟨by decide, by decide, Or.inl (er_in 92 (by decide +kernel) rfl)⟩
theorem fk_3_11_ok : fkOK (3, 11, 3, 0) := ⟨by decide, by decide, Or.inl (er_in 118 (by decide +kernel) rfl)⟩
theorem fk_3_16_ok : fkOK (3, 16, 3, 1) := ⟨by decide, by decide, Or.inl (er_in 119 (by decide +kernel) rfl)⟩
theorem fk_3_22_ok : fkOK (3, 22, 3, 2) := ⟨by decide, by decide, Or.inl (er_in 120 (by decide +kernel) rfl)⟩
theorem fk_3_27_ok : fkOK (3, 27, 3, 3) := ⟨by decide, by decide, Or.inl (er_in 121 (by decide +kernel) rfl)⟩
theorem fk_3_31_ok : fkOK (3, 31, 3, 4) := ⟨by decide, by decide, Or.inl (er_in 122 (by decide +kernel) rfl)⟩
theorem fk_3_138_ok : fkOK (3, 138, 3, 5) := ⟨by decide, by decide, Or.inl (er_in 123 (by decide +kernel) rfl)⟩
set_option maxRecDepth 100000 in
theorem er_flds_ok : ∀ q ∈ er_flds, fkOK q := List.forall_mem_cons.mpr ⟨fk_1_9_ok, List.forall_mem_cons.mpr ⟨fk_1_15_ok, List.forall_mem_cons.mpr ⟨fk_3_46_ok, List.forall_mem_cons.mpr ⟨fk_2_136_ok, List.forall_mem_cons.mpr ⟨fk_0_11_ok, List.forall_mem_cons.mpr ⟨fk_0_15_ok, List.forall_mem_cons.mpr ⟨fk_2_51_ok, List.forall_mem_cons.mpr ⟨fk_3_92_ok, List.forall_mem_cons.mpr ⟨fk_2_11_ok, List.forall_mem_cons.mpr ⟨fk_2_20_ok, List.forall_mem_cons.mpr ⟨fk_3_88_ok, List.forall_mem_cons.mpr ⟨fk_2_24_ok, List.forall_mem_cons.mpr ⟨fk_3_144_ok, List.forall_mem_cons.mpr ⟨fk_2_41_ok, List.forall_mem_cons.mpr ⟨fk_2_44_ok, List.forall_mem_cons.mpr ⟨fk_2_54_ok, List.forall_mem_cons.mpr ⟨fk_3_126_ok, List.forall_mem_cons.mpr ⟨fk_2_57_ok, List.forall_mem_cons.mpr ⟨fk_3_129_ok, List.forall_mem_cons.mpr ⟨fk_2_60_ok, List.forall_mem_cons.mpr ⟨fk_3_11_ok, List.forall_mem_cons.mpr ⟨fk_3_16_ok, List.forall_mem_cons.mpr ⟨fk_3_22_ok, List.forall_mem_cons.mpr ⟨fk_3_27_ok, List.forall_mem_cons.mpr ⟨fk_3_31_ok, List.forall_mem_cons.mpr ⟨fk_3_138_ok, fun _ h => absurd h List.not_mem_nil⟩⟩⟩⟩⟩⟩⟩⟩⟩⟩⟩⟩⟩⟩⟩⟩⟩⟩⟩⟩⟩⟩⟩⟩⟩⟩
theorem fk_1_9 : fldT 1 9 = some (1, 0) := rfl
theorem fk_1_15 : fldT 1 15 = some (1, 1) := rfl
theorem fk_3_46 : fldT 3 46 = some (1, 1) := rfl
theorem fk_2_136 : fldT 2 136 = some (1, 1) := rfl
theorem fk_0_11 : fldT 0 11 = some (0, 0) := rfl
theorem fk_0_15 : fldT 0 15 = some (0, 1) := rfl
theorem fk_2_51 : fldT 2 51 = some (0, 1) := rfl
theorem fk_3_92 : fldT 3 92 = some (0, 1) := rfl
theorem fk_2_11 : fldT 2 11 = some (2, 0) := rfl
theorem fk_2_20 : fldT 2 20 = some (2, 1) := rfl
theorem fk_3_88 : fldT 3 88 = some (2, 1) := rfl
theorem fk_2_24 : fldT 2 24 = some (2, 2) := rfl
theorem fk_3_144 : fldT 3 144 = some (2, 2) := rfl
theorem fk_2_41 : fldT 2 41 = some (2, 3) := rfl
theorem fk_2_44 : fldT 2 44 = some (2, 4) := rfl
theorem fk_2_54 : fldT 2 54 = some (2, 5) := rfl
theorem fk_3_126 : fldT 3 126 = some (2, 5) := rfl
theorem fk_2_57 : fldT 2 57 = some (2, 6) := rfl
theorem fk_3_129 : fldT 3 129 = some (2, 6) := rfl
theorem fk_2_60 : fldT 2 60 = some (2, 7) := rfl
theorem fk_3_11 : fldT 3 11 = some (3, 0) := rfl
theorem fk_3_16 : fldT 3 16 = some (3, 1) := rfl
theorem fk_3_22 : fldT 3 22 = some (3, 2) := rfl
theorem fk_3_27 : fldT 3 27 = some (3, 3) := rfl
theorem fk_3_31 : fldT 3 31 = some (3, 4) := rfl
theorem fk_3_138 : fldT 3 138 = some (3, 5) := rfl
def er_csts : List (Nat × Nat × Int) := [(5, 265, 1431655765), (5, 266, 858993459), (5, 267, 252645135), (2, 135, 100000), (2, 118, 1000000), (4, 7, 2147483647), (4, 8, 790386105), (4, 15, 1028477387), (4, 16, 668265263), (4, 87, 1000001), (3, 111, 1000000), (4, 119, 1000000), (4, 158, 100000)]
def cstT (c i : Nat) : Option Int := er_find er_csts c i
def ckOK (q : Nat × Nat × Int) : Prop := Cond.constant (cN q.1) q.2.1 (Int32.ofInt q.2.2) ∈ er_G
theorem ck_5_265_ok : ckOK (5, 265, 1431655765) := er_in 254 (by decide +kernel) rfl
theorem ck_5_266_ok : ckOK (5, 266, 858993459) := er_in 255 (by decide +kernel) rfl
theorem ck_5_267_ok : ckOK (5, 267, 252645135) := er_in 256 (by decide +kernel) rfl
theorem ck_2_135_ok : ckOK (2, 135, 100000) := er_in 325 (by decide +kernel) rfl
theorem ck_2_118_ok : ckOK (2, 118, 1000000) := er_in 382 (by decide +kernel) rfl
theorem ck_4_7_ok : ckOK (4, 7, 2147483647) := er_in 415 (by decide +kernel) rfl
theorem ck_4_8_ok : ckOK (4, 8, 790386105) := er_in 422 (by decide +kernel) rfl
theorem ck_4_15_ok : ckOK (4, 15, 1028477387) := er_in 423 (by decide +kernel) rfl
theorem ck_4_16_ok : ckOK (4, 16, 668265263) := er_in 424 (by decide +kernel) rfl
theorem ck_4_87_ok : ckOK (4, 87, 1000001) := er_in 517 (by decide +kernel) rfl
theorem ck_3_111_ok : ckOK (3, 111, 1000000) := er_in 522 (by decide +kernel) rfl
theorem ck_4_119_ok : ckOK (4, 119, 1000000) := er_in 602 (by decide +kernel) rfl
theorem ck_4_158_ok : ckOK (4, 158, 100000) := er_in 650 (by decide +kernel) rfl
theorem er_csts_ok : ∀ q ∈ er_csts, ckOK q := List.forall_mem_cons.mpr ⟨ck_5_265_ok, List.forall_mem_cons.mpr ⟨ck_5_266_ok, List.forall_mem_cons.mpr ⟨ck_5_267_ok, List.forall_mem_cons.mpr ⟨ck_2_135_ok, List.forall_mem_cons.mpr ⟨ck_2_118_ok, List.forall_mem_cons.mpr ⟨ck_4_7_ok, List.forall_mem_cons.mpr ⟨ck_4_8_ok, List.forall_mem_cons.mpr ⟨ck_4_15_ok, List.forall_mem_cons.mpr ⟨ck_4_16_ok, List.forall_mem_cons.mpr ⟨ck_4_87_ok, List.forall_mem_cons.mpr ⟨ck_3_111_ok, List.forall_mem_cons.mpr ⟨ck_4_119_ok, List.forall_mem_cons.mpr ⟨ck_4_158_ok, fun _ h => absurd h List.not_mem_nil⟩⟩⟩⟩⟩⟩⟩⟩⟩⟩⟩⟩⟩
theorem ck_5_265 : cstT 5 265 = some (1431655765) := rfl
theorem ck_5_266 : cstT 5 266 = some (858993459) := rfl
theorem ck_5_267 : cstT 5 267 = some (252645135) := rfl
theorem ck_2_135 : cstT 2 135 = some (100000) := rfl
theorem ck_2_118 : cstT 2 118 = some (1000000) := rfl
theorem ck_4_7 : cstT 4 7 = some (2147483647) := rfl
theorem ck_4_8 : cstT 4 8 = some (790386105) := rfl
theorem ck_4_15 : cstT 4 15 = some (1028477387) := rfl
theorem ck_4_16 : cstT 4 16 = some (668265263) := rfl
theorem ck_4_87 : cstT 4 87 = some (1000001) := rfl
theorem ck_3_111 : cstT 3 111 = some (1000000) := rfl
theorem ck_4_119 : cstT 4 119 = some (1000000) := rfl
theorem ck_4_158 : cstT 4 158 = some (100000) := rfl
theorem in_wsX00 : ∀ q ∈ u_ws (cN 0) (tT 0) (nF 0), q ∈ lw_tbl := by decide +kernel
theorem in_wsX10 : ∀ q ∈ u_ws (cN 1) (tT 1) (nF 1), q ∈ lw_tbl := by decide +kernel
theorem in_wsX20 : ∀ q ∈ u_ws (cN 2) (tT 2) (nF 2), q ∈ lw_tbl := by decide +kernel
theorem in_wsX30 : ∀ q ∈ u_ws (cN 3) (tT 3) (nF 3), q ∈ lw_tbl := by decide +kernel
end
section
/-! THE SMALL MACHINE: ints are whole numbers (taken modulo 2^32 where they are compared), an object is a kind and a number; its references never change behind the constructor -/
abbrev AV : Type := Int ⊕ (Int ⊕ (Nat × Nat))
def vI (z : Int) : AV := .inl z
def vL (z : Int) : AV := .inr (.inl z)
def vR (k i : Nat) : AV := .inr (.inr (k, i))
abbrev AMem : Type := Nat → Nat → Nat → Int
abbrev ALs : Type := List (Option AV)
def wI (z : Int) : Int := (z + 2147483648) % 4294967296 - 2147483648
def wL (z : Int) : Int := (z + 9223372036854775808) % 18446744073709551616 - 9223372036854775808
def aup (M : AMem) (k i s : Nat) (v : Int) : AMem := fun k' i' s' => if k' = k ∧ i' = i ∧ s' = s then v else M k' i' s'
def acopy (M : AMem) (k i j n : Nat) : AMem := fun k' i' s' => if k' = k ∧ i' = j ∧ s' < n then M k i s' else M k' i' s'
/-- kinds: 0 Queue, 1 Row, 2 Well, 3 the house; 4 a queue's keys, 5 a row's numbers, 6 a well's rows, 7 the house's rows, 8 its wells, 9 the script, 10 BASES, 11 FEW -/
def okH (k i : Nat) : Bool := match k with
  | 0 => decide (i < 7)
  | 1 => decide (i < 49)
  | 2 => decide (i < 7)
  | 3 => decide (i = 0)
  | 4 => decide (i < 7)
  | 5 => decide (i < 49)
  | 6 => decide (i < 7)
  | 7 => decide (i = 0)
  | 8 => decide (i = 0)
  | 9 => decide (i = 0)
  | 10 => decide (i = 0)
  | 11 => decide (i = 0)
  | _ => false
/-- what a field holds -/
def fval (k i s : Nat) (M : AMem) : AV := match k, s with
  | 0, 0 => vR 4 i
  | 1, 0 => vR 5 i
  | 2, 0 => vR 6 i
  | 2, 1 => vR 0 i
  | 3, 0 => vR 7 0
  | 3, 1 => vR 1 48
  | 3, 2 => vR 8 0
  | 3, 3 => vR 2 5
  | 3, 4 => vR 2 6
  | k, s => vI (M k i s)
/-- which fields are ints -/
def fint (k s : Nat) : Bool := match k, s with
  | 0, 1 => true
  | 1, 1 => true
  | 2, 2 => true
  | 2, 3 => true
  | 2, 4 => true
  | 2, 5 => true
  | 2, 6 => true
  | 2, 7 => true
  | 3, 5 => true
  | _, _ => false
def alen (k : Nat) (M : AMem) : Nat := match k with
  | 4 => 512
  | 5 => 8
  | 6 => 6
  | 7 => 6
  | 8 => 5
  | 9 => (M 9 1 0).toNat
  | 10 => 6
  | 11 => 6
  | _ => 0
def bas (j : Nat) : Int := match j with
  | 0 => 2
  | 1 => 3
  | 2 => 5
  | 3 => 7
  | 4 => 11
  | _ => 13
/-- an int of an int array -/
def aval (k i j : Nat) (M : AMem) : Option Int := match k with
  | 4 => some (M 4 i j)
  | 5 => some (M 5 i j)
  | 9 => some (M 9 0 j)
  | 10 => some (bas j)
  | 11 => some (bas j)
  | _ => none
/-- a reference of an array of references -/
def aref (k i j : Nat) : Option (Nat × Nat) := match k with
  | 6 => some (1, 6 * i + j)
  | 7 => some (1, 42 + j)
  | 8 => some (2, j)
  | _ => none
/-- int operations by Int32 -/
def opAnd (a b : Int) : Int := (Int32.ofInt a &&& Int32.ofInt b).toInt
def opXor (a b : Int) : Int := (Int32.ofInt a ^^^ Int32.ofInt b).toInt
def opShr (a b : Int) : Int := (Int32.ofInt a >>> (Int32.ofInt b &&& 31)).toInt
def opUshr (a b : Int) : Int := (((Int32.ofInt a).toUInt32 >>> ((Int32.ofInt b).toUInt32 &&& Int32.toUInt32 31)).toInt32).toInt
def opCmp (a b : Int) : Int := if wL b < wL a then 1 else if wL a = wL b then 0 else -1
/-- the natives: 0 max, 1 min, 2 arraycopy -/
def bltT (c i : Nat) : Option Nat := er_find [(2, 122, 0), (4, 132, 0), (2, 170, 1), (4, 159, 1), (1, 23, 2), (0, 41, 2)] c i
/-- statics -/
def staT (c i : Nat) : Option Nat := er_find [(2, 127, 10), (4, 154, 11)] c i
def lonT (c i : Nat) : Option Int := er_find [(3, 187, 7980), (3, 189, 31)] c i
def acat (v : AV) : Nat := match v with
  | .inl _ => 1
  | .inr (.inl _) => 2
  | .inr (.inr _) => 1
/-- a step's end: the next place, a call (method, its arguments, the rest of the stack), or the answer -/
abbrev SR : Type := (Nat × ALs × List AV × AMem) ⊕ ((MT × List AV × List AV) ⊕ Option AV)
def nx (pc : Nat) (ls : ALs) (st : List AV) (M : AMem) : Option SR := some (.inl (pc, ls, st, M))
def sI (st : List AV) (f : Int → List AV → Option SR) : Option SR := match st with
  | .inl z :: r => f z r
  | _ => none
def sL (st : List AV) (f : Int → List AV → Option SR) : Option SR := match st with
  | .inr (.inl z) :: r => f z r
  | _ => none
def sR (st : List AV) (f : Nat → Nat → List AV → Option SR) : Option SR := match st with
  | .inr (.inr (k, i)) :: r => if okH k i = true then f k i r else none
  | _ => none
def sA (st : List AV) (f : Nat → Nat → List AV → Option SR) : Option SR := match st with
  | .inr (.inr (k, i)) :: r => f k i r
  | _ => none
def sV (st : List AV) (f : AV → List AV → Option SR) : Option SR := match st with
  | v :: r => f v r
  | _ => none
def gL (ls : ALs) (i : Nat) (f : AV → Option SR) : Option SR := match ls[i]? with
  | some (some v) => f v
  | _ => none
def oG {α : Type} (x : Option α) (f : α → Option SR) : Option SR := match x with
  | some v => f v
  | none => none
/-- may this place of the locals be written: no long is cut -/
def stOK (ls : ALs) (i : Nat) : Bool := decide (i < ls.length) && (match ls[i - 1]? with
  | some (some v) => decide (i = 0) || acat v == 1
  | _ => true)
def jmp (pc : Nat) (off : Int) : Nat := ((pc : Int) + off).toNat
def jok (pc : Nat) (off : Int) : Bool := decide (0 ≤ (pc : Int) + off)
def cmpB (c : ClassFile.Cond) (a b : Int) : Bool := match c with
  | .eq => decide (a = b)
  | .ne => decide (¬ a = b)
  | .lt => decide (a < b)
  | .ge => decide (b ≤ a)
  | .gt => decide (b < a)
  | .le => decide (a ≤ b)
def aLoadI (len n pc i : Nat) (ls : ALs) (st : List AV) (M : AMem) : Option SR := if len = n then gL ls i (fun v => sI [v] (fun z _ => nx (pc + n) ls (vI z :: st) M)) else none
def aLoadL (len n pc i : Nat) (ls : ALs) (st : List AV) (M : AMem) : Option SR := if len = n then gL ls i (fun v => sL [v] (fun z _ => nx (pc + n) ls (vL z :: st) M)) else none
def aLoadA (len n pc i : Nat) (ls : ALs) (st : List AV) (M : AMem) : Option SR := if len = n then gL ls i (fun v => sA [v] (fun k j _ => nx (pc + n) ls (vR k j :: st) M)) else none
def aStoreI (len n pc i : Nat) (ls : ALs) (st : List AV) (M : AMem) : Option SR := if len = n ∧ stOK ls i = true then sI st (fun z r => nx (pc + n) (ls.set i (some (vI z))) r M) else none
def aStoreA (len n pc i : Nat) (ls : ALs) (st : List AV) (M : AMem) : Option SR := if len = n ∧ stOK ls i = true then sA st (fun k j r => nx (pc + n) (ls.set i (some (vR k j))) r M) else none
def aStoreL (len n pc i : Nat) (ls : ALs) (st : List AV) (M : AMem) : Option SR := if len = n ∧ stOK ls i = true ∧ i + 1 < ls.length then sL st (fun v r => nx (pc + n) ((ls.set i (some (vL v))).set (i + 1) none) r M) else none
def aPush (len n pc : Nat) (v : AV) (ls : ALs) (st : List AV) (M : AMem) : Option SR := if len = n then nx (pc + n) ls (v :: st) M else none
def aBin (len pc : Nat) (f : Int → Int → Int) (ls : ALs) (st : List AV) (M : AMem) : Option SR := if len = 1 then sI st (fun b r => sI r (fun a q => nx (pc + 1) ls (vI (f a b) :: q) M)) else none
def aDiv (len pc : Nat) (f : Int → Int → Int) (ls : ALs) (st : List AV) (M : AMem) : Option SR := if len = 1 then sI st (fun b r => if wI b = 0 then none else sI r (fun a q => nx (pc + 1) ls (vI (f (wI a) (wI b)) :: q) M)) else none
def aBr (len pc : Nat) (off : Int) (b : Bool) (ls : ALs) (st : List AV) (M : AMem) : Option SR := if len = 3 ∧ jok pc off = true then (if b = true then nx (jmp pc off) ls st M else nx (pc + 3) ls st M) else none
def aCall (len : Nat) (Y : MT) (as r : List AV) : Option SR := if len = 3 ∧ (r.map acat).sum ≤ 8 ∧ (as.map acat).sum = as.length ∧ as.length ≤ mtL Y then some (.inr (.inl (Y, as, r))) else none
def aVirt (len : Nat) (Y : MT) (st : List AV) : Option SR := if mtS Y = false ∧ mtA Y < st.length then sR (st.drop (mtA Y)) (fun k i r => if k = mtK Y then aCall len Y (vR k i :: (st.take (mtA Y)).reverse) r else none) else none
def aStat (len : Nat) (Y : MT) (st : List AV) : Option SR := if mtS Y = true ∧ mtA Y ≤ st.length then aCall len Y (st.take (mtA Y)).reverse (st.drop (mtA Y)) else none
def aBlt (len pc b : Nat) (ls : ALs) (st : List AV) (M : AMem) : Option SR := if len = 3 ∧ (st.map acat).sum ≤ 8 then (match b with
  | 0 => sI st (fun y r => sI r (fun x q => nx (pc + 3) ls (vI (if wI x < wI y then y else x) :: q) M))
  | 1 => sI st (fun y r => sI r (fun x q => nx (pc + 3) ls (vI (if wI y < wI x then y else x) :: q) M))
  | _ => sI st (fun n r => sI r (fun dp r => sR r (fun k j r => sI r (fun sp r => sR r (fun k' i r => if dp = 0 ∧ sp = 0 ∧ k' = k ∧ (k = 4 ∨ k = 5) ∧ 0 ≤ n ∧ n.toNat ≤ alen k M then nx (pc + 3) ls r (acopy M k i j n.toNat) else none)))))) else none
def aSwT (pc : Nat) (dflt lo hi : Int) (offs : Array Int) (ls : ALs) (st : List AV) (M : AMem) : Option SR := sI st (fun z r => if wI z < lo ∨ hi < wI z then (if jok pc dflt = true then nx (jmp pc dflt) ls r M else none) else oG offs[(wI z - lo).toNat]? (fun off => if jok pc off = true then nx (jmp pc off) ls r M else none))
def aSwL (pc : Nat) (dflt : Int) (ps : Array (Int × Int)) (ls : ALs) (st : List AV) (M : AMem) : Option SR := if (ps.toList.zip (ps.toList.drop 1)).all (fun (a, next) => a.1 < next.1) = true then sI st (fun z r => if jok pc (Op.lookupswitch.offset ps.toList dflt (wI z)) = true then nx (jmp pc (Op.lookupswitch.offset ps.toList dflt (wI z))) ls r M else none) else none
/-- one instruction -/
def ex1 (Y : MT) (ins : ClassFile.Instr) (len pc : Nat) (ls : ALs) (st : List AV) (M : AMem) : Option SR := match ins with
  | .iconst n => aPush len 1 pc (vI n) ls st M
  | .bipush n => if -128 ≤ n ∧ n < 128 then aPush len 2 pc (vI n) ls st M else none
  | .sipush n => if -32768 ≤ n ∧ n < 32768 then aPush len 3 pc (vI n) ls st M else none
  | .ldc i => oG (cstT (mtK Y) i) (fun z => aPush len 2 pc (vI z) ls st M)
  | .ldc_w i => oG (cstT (mtK Y) i) (fun z => aPush len 3 pc (vI z) ls st M)
  | .ldc2_w i => oG (lonT (mtK Y) i) (fun z => aPush len 3 pc (vL z) ls st M)
  | .iload i => aLoadI len 2 pc i ls st M
  | .iload_n i => aLoadI len 1 pc i ls st M
  | .aload i => aLoadA len 2 pc i ls st M
  | .aload_n i => aLoadA len 1 pc i ls st M
  | .lload i => aLoadL len 2 pc i ls st M
  | .lload_n i => aLoadL len 1 pc i ls st M
  | .istore i => aStoreI len 2 pc i ls st M
  | .istore_n i => aStoreI len 1 pc i ls st M
  | .astore i => aStoreA len 2 pc i ls st M
  | .astore_n i => aStoreA len 1 pc i ls st M
  | .lstore i => aStoreL len 2 pc i ls st M
  | .lstore_n i => aStoreL len 1 pc i ls st M
  | .iinc i n => if len = 3 ∧ stOK ls i = true then gL ls i (fun v => sI [v] (fun z _ => nx (pc + 3) (ls.set i (some (vI (z + n)))) st M)) else none
  | .iadd => aBin len pc (fun a b => a + b) ls st M
  | .isub => aBin len pc (fun a b => a - b) ls st M
  | .imul => aBin len pc (fun a b => a * b) ls st M
  | .iand => aBin len pc opAnd ls st M
  | .ixor => aBin len pc opXor ls st M
  | .ishr => aBin len pc opShr ls st M
  | .iushr => aBin len pc opUshr ls st M
  | .idiv => aDiv len pc Int.tdiv ls st M
  | .irem => aDiv len pc Int.tmod ls st M
  | .i2l => if len = 1 then sI st (fun a r => nx (pc + 1) ls (vL (wI a) :: r) M) else none
  | .ladd => if len = 1 then sL st (fun b r => sL r (fun a q => nx (pc + 1) ls (vL (a + b) :: q) M)) else none
  | .lmul => if len = 1 then sL st (fun b r => sL r (fun a q => nx (pc + 1) ls (vL (a * b) :: q) M)) else none
  | .lcmp => if len = 1 then sL st (fun b r => sL r (fun a q => nx (pc + 1) ls (vI (opCmp a b) :: q) M)) else none
  | .dup => if len = 1 then sV st (fun v r => if acat v = 1 then nx (pc + 1) ls (v :: v :: r) M else none) else none
  | .pop => if len = 1 then sV st (fun v r => if acat v = 1 then nx (pc + 1) ls r M else none) else none
  | .ifCond c off => sI st (fun z r => aBr len pc off (cmpB c (wI z) 0) ls r M)
  | .if_icmp c off => sI st (fun b r => sI r (fun a q => aBr len pc off (cmpB c (wI a) (wI b)) ls q M))
  | .goto off => if len = 3 ∧ jok pc off = true then nx (jmp pc off) ls st M else none
  | .tableswitch dflt lo hi offs => aSwT pc dflt lo hi offs ls st M
  | .lookupswitch dflt ps => aSwL pc dflt ps ls st M
  | .getstatic i => if len = 3 then oG (staT (mtK Y) i) (fun k => nx (pc + 3) ls (vR k 0 :: st) M) else none
  | .getfield f => if len = 3 then oG (fldT (mtK Y) f) (fun q => sR st (fun k i r => if k = q.1 then nx (pc + 3) ls (fval k i q.2 M :: r) M else none)) else none
  | .putfield f => if len = 3 then oG (fldT (mtK Y) f) (fun q => sI st (fun z r => sR r (fun k i r => if k = q.1 ∧ fint k q.2 = true ∧ (k = 2 ∧ q.2 = 4 → z = 0 ∨ z = 1) then nx (pc + 3) ls r (aup M k i q.2 z) else none))) else none
  | .arraylength => if len = 1 then sR st (fun k _ r => if 4 ≤ k then nx (pc + 1) ls (vI (alen k M) :: r) M else none) else none
  | .iaload => if len = 1 then sI st (fun j r => sR r (fun k i r => if 0 ≤ wI j ∧ wI j < alen k M then oG (aval k i (wI j).toNat M) (fun z => nx (pc + 1) ls (vI z :: r) M) else none)) else none
  | .iastore => if len = 1 then sI st (fun z r => sI r (fun j r => sR r (fun k i r => if 0 ≤ wI j ∧ wI j < alen k M ∧ (k = 4 ∨ k = 5) then nx (pc + 1) ls r (aup M k i (wI j).toNat z) else none))) else none
  | .aaload => if len = 1 then sI st (fun j r => sR r (fun k i r => if 0 ≤ wI j ∧ wI j < alen k M then oG (aref k i (wI j).toNat) (fun q => nx (pc + 1) ls (vR q.1 q.2 :: r) M) else none)) else none
  | .invokevirtual i => oG (mthT (mtK Y) i) (fun Z => aVirt len Z st)
  | .invokestatic i => match bltT (mtK Y) i with
    | some b => aBlt len pc b ls st M
    | none => oG (mthT (mtK Y) i) (fun Z => aStat len Z st)
  | .ireturn => if len = 1 then sI st (fun z r => if r = [] ∧ (mtR Y = some .int ∨ (mtR Y = some .boolean ∧ (z = 0 ∨ z = 1))) then some (.inr (.inr (some (vI z)))) else none) else none
  | .lreturn => if len = 1 then sL st (fun z r => if r = [] ∧ mtR Y = some .long then some (.inr (.inr (some (vL z)))) else none) else none
  | .areturn => if len = 1 then sA st (fun k i r => if r = [] ∧ (mtR Y = some (.object "Endlessrows$Row") ∨ mtR Y = some (.object "Endlessrows$Well")) then some (.inr (.inr (some (vR k i)))) else none) else none
  | .return_ => if len = 1 ∧ st = [] ∧ mtR Y = none then some (.inr (.inr none)) else none
  | _ => none
/-- a call's first locals -/
def lini (Y : MT) (as : List AV) : ALs := as.map some ++ List.replicate (mtL Y - as.length) none
def run : Nat → Nat → MT → Nat → ALs → List AV → AMem → Option (Option AV × AMem)
  | 0, _, _, _, _, _, _ => none
  | n + 1, d, Y, pc, ls, st, M => match decode (mtC Y) pc with
    | .ok (ins, len) => match ex1 Y ins len pc ls st M with
      | some (.inl (pc', ls', st', M')) => run n d Y pc' ls' st' M'
      | some (.inr (.inl (Z, as, r))) => match d with
        | 0 => none
        | d' + 1 => match run n d' Z 0 (lini Z as) [] M with
          | some (v, M1) => run n (d' + 1) Y (pc + 3) ls (v.toList ++ r) M1
          | none => none
      | some (.inr (.inr v)) => some (v, M)
      | none => none
    | .error _ => none
/-- the walk from here ends with Q -/
def RunQ (d : Nat) (Y : MT) (pc : Nat) (ls : ALs) (st : List AV) (M : AMem) (Q : Option AV → AMem → Prop) : Prop := ∃ n v M', run n d Y pc ls st M = some (v, M') ∧ Q v M'
/-- a call -/
def CallQ (d : Nat) (Y : MT) (as : List AV) (M : AMem) (Q : Option AV → AMem → Prop) : Prop := RunQ d Y 0 (lini Y as) [] M Q
end
section
/-! ints of the small machine and the machine's -/
theorem i_toInt (z : Int) : (Int32.ofInt z).toInt = wI z := by
  rw [Int32.toInt_ofInt, wI, Int.bmod_def]
  rw [show Int32.size = 4294967296 from rfl]
  split <;> omega
theorem l_toInt (z : Int) : (Int64.ofInt z).toInt = wL z := by
  rw [Int64.toInt_ofInt, wL, Int.bmod_def]
  rw [show Int64.size = 18446744073709551616 from rfl]
  split <;> omega
theorem wI_lo (z : Int) : -2147483648 ≤ wI z := by unfold wI; omega
theorem wI_hi (z : Int) : wI z < 2147483648 := by unfold wI; omega
theorem wI_eq {z : Int} (h1 : -2147483648 ≤ z) (h2 : z < 2147483648) : wI z = z := by unfold wI; omega
theorem wI_wI (z : Int) : wI (wI z) = wI z := wI_eq (wI_lo z) (wI_hi z)
theorem i_wI (z : Int) : Int32.ofInt (wI z) = Int32.ofInt z := by
  rw [← Int32.toInt_inj, i_toInt, i_toInt, wI_wI]
theorem i_lt (a b : Int) : Int32.ofInt a < Int32.ofInt b ↔ wI a < wI b := by rw [Int32.lt_iff_toInt_lt, i_toInt, i_toInt]
theorem i_le (a b : Int) : Int32.ofInt a ≤ Int32.ofInt b ↔ wI a ≤ wI b := by rw [Int32.le_iff_toInt_le, i_toInt, i_toInt]
theorem i_eq (a b : Int) : Int32.ofInt a = Int32.ofInt b ↔ wI a = wI b := by rw [← Int32.toInt_inj, i_toInt, i_toInt]
theorem i_of (x : Int32) : Int32.ofInt x.toInt = x := Int32.ofInt_toInt x
theorem i_w (x : Int32) : wI x.toInt = x.toInt := by rw [← i_toInt, i_of]
theorem i_0 : Int32.ofInt 0 = 0 := rfl
theorem i_nat (z : Int) : (Int32.ofInt z).toNatClampNeg = (wI z).toNat := by
  show (Int32.ofInt z).toInt.toNat = _
  rw [i_toInt]
theorem i_in {z : Int} {n : Nat} (h0 : 0 ≤ wI z) (h : wI z < n) : vp_in (Int32.ofInt z) n := by
  rw [vp_in_iff, i_toInt]
  exact ⟨h0, h⟩
theorem i_div (a b : Int) : Int32.ofInt a / Int32.ofInt b = Int32.ofInt (Int.tdiv (wI a) (wI b)) := by
  rw [← Int32.toInt_inj, Int32.toInt_div, i_toInt, i_toInt, Int32.toInt_ofInt]
theorem i_rem (a b : Int) : Int32.ofInt a - Int32.ofInt a / Int32.ofInt b * Int32.ofInt b = Int32.ofInt (Int.tmod (wI a) (wI b)) := by
  rw [i_div, ← i_wI a, ← i_wI b, ← Int32.ofInt_mul, ← Int32.ofInt_sub, Int.tmod_def, Int.mul_comm]
theorem i_l (z : Int) : (Int32.ofInt z).toInt64 = Int64.ofInt (wI z) := by
  rw [← Int64.toInt_inj, Int32.toInt_toInt64, i_toInt, l_toInt]
  have h1 := wI_lo z
  have h2 := wI_hi z
  generalize wI z = y at h1 h2 ⊢
  unfold wL
  omega
theorem i_cmp (a b : Int) : lg_cmp (Int64.ofInt a) (Int64.ofInt b) = Int32.ofInt (opCmp a b) := by
  unfold lg_cmp opCmp
  simp only [gt_iff_lt, Int64.lt_iff_toInt_lt, ← Int64.toInt_inj, l_toInt]
  split
  · rfl
  · split <;> rfl
/-! a step's parts -/
theorem sI_inv {st : List AV} {f : Int → List AV → Option SR} {R : SR} (h : sI st f = some R) : ∃ z r, st = vI z :: r ∧ f z r = some R := by
  unfold sI at h
  split at h
  · exact ⟨_, _, rfl, h⟩
  · cases h
theorem sL_inv {st : List AV} {f : Int → List AV → Option SR} {R : SR} (h : sL st f = some R) : ∃ z r, st = vL z :: r ∧ f z r = some R := by
  unfold sL at h
  split at h
  · exact ⟨_, _, rfl, h⟩
  · cases h
theorem sA_inv {st : List AV} {f : Nat → Nat → List AV → Option SR} {R : SR} (h : sA st f = some R) : ∃ k i r, st = vR k i :: r ∧ f k i r = some R := by
  unfold sA at h
  split at h
  · exact ⟨_, _, _, rfl, h⟩
  · cases h
theorem sR_inv {st : List AV} {f : Nat → Nat → List AV → Option SR} {R : SR} (h : sR st f = some R) : ∃ k i r, st = vR k i :: r ∧ okH k i = true ∧ f k i r = some R := by
  unfold sR at h
  split at h
  · split at h
    · rename_i hk
      exact ⟨_, _, _, rfl, hk, h⟩
    · cases h
  · cases h
theorem sV_inv {st : List AV} {f : AV → List AV → Option SR} {R : SR} (h : sV st f = some R) : ∃ v r, st = v :: r ∧ f v r = some R := by
  unfold sV at h
  split at h
  · exact ⟨_, _, rfl, h⟩
  · cases h
theorem gL_inv {ls : ALs} {i : Nat} {f : AV → Option SR} {R : SR} (h : gL ls i f = some R) : ∃ v, ls[i]? = some (some v) ∧ f v = some R := by
  unfold gL at h
  split at h
  · exact ⟨_, by assumption, h⟩
  · cases h
theorem oG_inv {α : Type} {x : Option α} {f : α → Option SR} {R : SR} (h : oG x f = some R) : ∃ v, x = some v ∧ f v = some R := by
  unfold oG at h
  split at h
  · exact ⟨_, rfl, h⟩
  · cases h
theorem if_inv {c : Prop} [Decidable c] {x : Option SR} {R : SR} (h : (if c then x else none) = some R) : c ∧ x = some R := by
  split at h
  · exact ⟨by assumption, h⟩
  · cases h
theorem nif_inv {c : Prop} [Decidable c] {x : Option SR} {R : SR} (h : (if c then none else x) = some R) : ¬ c ∧ x = some R := by
  split at h
  · cases h
  · exact ⟨by assumption, h⟩
theorem nx_inv {pc pc' : Nat} {ls ls' : ALs} {st st' : List AV} {M M' : AMem} (h : nx pc ls st M = some (.inl (pc', ls', st', M'))) : pc' = pc ∧ ls' = ls ∧ st' = st ∧ M' = M := by
  unfold nx at h
  simp only [Option.some.injEq, Sum.inl.injEq, Prod.mk.injEq] at h
  obtain ⟨a, b, c, d⟩ := h
  exact ⟨a.symm, b.symm, c.symm, d.symm⟩
/-! values -/
def tv (ad : Nat → Nat → Nat) (v : AV) : Value := match v with
  | .inl z => .int (Int32.ofInt z)
  | .inr (.inl z) => .long (Int64.ofInt z)
  | .inr (.inr (k, i)) => .ref (ad k i)
theorem tv_I (ad : Nat → Nat → Nat) (z : Int) : tv ad (vI z) = .int (Int32.ofInt z) := rfl
theorem tv_L (ad : Nat → Nat → Nat) (z : Int) : tv ad (vL z) = .long (Int64.ofInt z) := rfl
theorem tv_R (ad : Nat → Nat → Nat) (k i : Nat) : tv ad (vR k i) = .ref (ad k i) := rfl
theorem tv_cat (ad : Nat → Nat → Nat) (v : AV) : (tv ad v).category = acat v := by
  rcases v with z | z | ⟨k, i⟩ <;> rfl
/-! locals -/
def lpr (ad : Nat → Nat → Nat) : Nat → ALs → List (Nat × Value)
  | _, [] => []
  | n, none :: r => lpr ad (n + 1) r
  | n, some v :: r => (n, tv ad v) :: lpr ad (n + 1) r
theorem mem_lpr {ad : Nat → Nat → Nat} {i : Nat} {x : Value} : ∀ {n : Nat} {ls : ALs}, (i, x) ∈ lpr ad n ls ↔ ∃ v, n ≤ i ∧ ls[i - n]? = some (some v) ∧ x = tv ad v
  | n, [] => by simp [lpr]
  | n, none :: r => by
    rw [lpr, mem_lpr]
    constructor
    · rintro ⟨v, h1, h2, h3⟩
      refine ⟨v, by omega, ?_, h3⟩
      rw [show i - n = (i - (n + 1)) + 1 by omega]
      exact h2
    · rintro ⟨v, h1, h2, h3⟩
      by_cases hi : i = n
      · subst hi
        simp at h2
      · refine ⟨v, by omega, ?_, h3⟩
        rw [show i - n = (i - (n + 1)) + 1 by omega] at h2
        exact h2
  | n, some w :: r => by
    rw [lpr, List.mem_cons, mem_lpr]
    constructor
    · rintro (h | ⟨v, h1, h2, h3⟩)
      · cases h
        exact ⟨w, Nat.le_refl _, by simp, rfl⟩
      · refine ⟨v, by omega, ?_, h3⟩
        rw [show i - n = (i - (n + 1)) + 1 by omega]
        exact h2
    · rintro ⟨v, h1, h2, h3⟩
      by_cases hi : i = n
      · subst hi
        simp at h2
        subst h2
        exact Or.inl (by rw [h3])
      · refine Or.inr ⟨v, by omega, ?_, h3⟩
        rw [show i - n = (i - (n + 1)) + 1 by omega] at h2
        exact h2
def lsR (ad : Nat → Nat → Nat) (ls : ALs) (nL : Nat) (lj : Array Slot) : Prop := ls.length = nL ∧ lv_has lj nL (lpr ad 0 ls)
theorem lsR_at {ad : Nat → Nat → Nat} {ls : ALs} {nL i : Nat} {lj : Array Slot} {v : AV} (h : lsR ad ls nL lj) (hv : ls[i]? = some (some v)) : lj[i]? = some (.val (tv ad v)) :=
  h.2.2.2 (i, tv ad v) (mem_lpr.mpr ⟨v, Nat.zero_le _, hv, rfl⟩)
theorem lsR_set {ad : Nat → Nat → Nat} {ls : ALs} {nL i : Nat} {lj : Array Slot} {v : AV} (hlen : ls.length = nL) (hok : stOK ls i = true)
    (h : lv_has lj nL ((i, tv ad v) :: (lpr ad 0 ls).filter (fun q => !(q.1 == i) && !(q.1 + 1 == i && q.2.category == 2)))) : lsR ad (ls.set i (some v)) nL lj := by
  refine ⟨by rw [List.length_set]; exact hlen, h.1, h.2.1, fun q hq => ?_⟩
  obtain ⟨j, x⟩ := q
  obtain ⟨w, -, h2, rfl⟩ := mem_lpr.mp hq
  rw [Nat.sub_zero] at h2
  by_cases hj : j = i
  · subst hj
    rw [List.getElem?_set_self (by simp only [stOK, Bool.and_eq_true, decide_eq_true_eq] at hok; exact hok.1)] at h2
    cases h2
    exact h.2.2 _ List.mem_cons_self
  · rw [List.getElem?_set_ne (Ne.symm hj)] at h2
    refine h.2.2 (j, tv ad w) (List.mem_cons_of_mem _ (List.mem_filter.mpr ⟨mem_lpr.mpr ⟨w, Nat.zero_le _, h2, rfl⟩, ?_⟩))
    simp only [Bool.and_eq_true, Bool.not_eq_true', beq_eq_false_iff_ne, ne_eq, Bool.and_eq_false_iff]
    refine ⟨hj, ?_⟩
    by_cases hc : j + 1 = i
    · right
      simp only [stOK, Bool.and_eq_true, decide_eq_true_eq] at hok
      have h3 := hok.2
      rw [show i - 1 = j by omega, h2] at h3
      simp only [Bool.or_eq_true, decide_eq_true_eq, beq_iff_eq] at h3
      rw [tv_cat]
      rcases h3 with h3 | h3
      · omega
      · omega
    · exact Or.inl hc
theorem lsR_set2 {ad : Nat → Nat → Nat} {ls : ALs} {nL i : Nat} {lj : Array Slot} {v : AV} (hlen : ls.length = nL) (hok : stOK ls i = true)
    (h : lv_has lj nL ((i, tv ad v) :: (lpr ad 0 ls).filter (fun q => !(q.1 == i) && (!(q.1 == i + 1) && !(q.1 + 1 == i && q.2.category == 2))))) : lsR ad ((ls.set i (some v)).set (i + 1) none) nL lj := by
  refine ⟨by rw [List.length_set, List.length_set]; exact hlen, h.1, h.2.1, fun q hq => ?_⟩
  obtain ⟨j, x⟩ := q
  obtain ⟨w, -, h2, rfl⟩ := mem_lpr.mp hq
  rw [Nat.sub_zero] at h2
  by_cases hj1 : j = i + 1
  · subst hj1
    have h4 := (List.getElem?_eq_some_iff.mp h2).1
    rw [List.length_set] at h4
    rw [List.getElem?_set_self h4] at h2
    cases h2
  rw [List.getElem?_set_ne (Ne.symm hj1)] at h2
  by_cases hj : j = i
  · subst hj
    rw [List.getElem?_set_self (by simp only [stOK, Bool.and_eq_true, decide_eq_true_eq] at hok; exact hok.1)] at h2
    cases h2
    exact h.2.2 _ List.mem_cons_self
  · rw [List.getElem?_set_ne (Ne.symm hj)] at h2
    refine h.2.2 (j, tv ad w) (List.mem_cons_of_mem _ (List.mem_filter.mpr ⟨mem_lpr.mpr ⟨w, Nat.zero_le _, h2, rfl⟩, ?_⟩))
    simp only [Bool.and_eq_true, Bool.not_eq_true', beq_eq_false_iff_ne, ne_eq, Bool.and_eq_false_iff]
    refine ⟨hj, hj1, ?_⟩
    by_cases hc : j + 1 = i
    · right
      simp only [stOK, Bool.and_eq_true, decide_eq_true_eq] at hok
      have h3 := hok.2
      rw [show i - 1 = j by omega, h2] at h3
      simp only [Bool.or_eq_true, decide_eq_true_eq, beq_iff_eq] at h3
      rw [tv_cat]
      rcases h3 with h3 | h3
      · omega
      · omega
    · exact Or.inl hc
/-- a call's locals -/
theorem lsR_ini {ad : Nat → Nat → Nat} (Y : MT) (as : List AV) (hc : ∀ v ∈ as, acat v = 1) (hn : as.length ≤ mtL Y) : lsR ad (lini Y as) (mtL Y) ((lg_sl (as.map (tv ad)) ++ List.replicate (mtL Y - (lg_sl (as.map (tv ad))).length) Slot.unset).toArray) := by
  have hl : (lg_sl (as.map (tv ad))).length = as.length := by
    clear hn
    induction as with
    | nil => rfl
    | cons v r ih =>
      have h1 := hc v List.mem_cons_self
      have h2 := ih (fun w hw => hc w (List.mem_cons_of_mem _ hw))
      simp only [lg_sl, List.map_cons, List.flatMap_cons, List.length_append, List.length_cons] at h2 ⊢
      rw [h2, if_neg (by rw [tv_cat]; omega)]
      simp only [List.length_cons, List.length_nil]
      omega
  have h := lv_entry (as.map (tv ad)) (n := mtL Y) (by rw [hl]; exact hn)
  refine ⟨by simp [lini]; omega, h.1, h.2.1, fun q hq => ?_⟩
  obtain ⟨j, x⟩ := q
  obtain ⟨w, -, h2, rfl⟩ := mem_lpr.mp hq
  rw [Nat.sub_zero] at h2
  have key : ∀ (as : List AV) (n : Nat), (∀ v ∈ as, acat v = 1) → ∀ j w, as[j]? = some w → (n + j, tv ad w) ∈ lv_args n (as.map (tv ad)) := by
    intro as
    induction as with
    | nil => intro n _ j w h; simp at h
    | cons v r ih =>
      intro n hc j w h
      rw [List.map_cons, lv_args, tv_cat, if_neg (by have := hc v List.mem_cons_self; omega)]
      cases j with
      | zero =>
        simp at h
        subst h
        exact List.mem_cons_self
      | succ j =>
        have h3 := ih (n + 1) (fun w hw => hc w (List.mem_cons_of_mem _ hw)) j w (by simpa using h)
        rw [show n + (j + 1) = n + 1 + j by omega]
        exact List.mem_cons_of_mem _ h3
  have h3 : as[j]? = some w := by
    unfold lini at h2
    by_cases hj : j < as.length
    · rw [List.getElem?_append_left (by simpa using hj), List.getElem?_map] at h2
      cases hz : as[j]? with
      | none => rw [hz] at h2; cases h2
      | some y => rw [hz] at h2; simpa using h2
    · rw [List.getElem?_append_right (by simp; omega)] at h2
      have := List.eq_of_mem_replicate (List.mem_of_getElem? h2)
      cases this
  have h4 := key as 0 hc j w h3
  rw [Nat.zero_add] at h4
  exact h.2.2 _ h4
end
section
/-! where the objects lie: behind the first new cell, in the order in which they are made -/
def er_wb (i : Nat) : Nat := if i < 5 then 49 + 16 * i else 5 + 16 * (i - 5)
def er_ro (i : Nat) : Nat := if i < 42 then er_wb (i / 6) + 4 + 2 * (i % 6) else if i < 48 then 37 + 2 * (i - 42) else 2
def er_off (k i : Nat) : Nat := match k with
  | 0 => er_wb i + 2
  | 1 => er_ro i
  | 2 => er_wb i
  | 3 => 0
  | 4 => er_wb i + 3
  | 5 => er_ro i + 1
  | 6 => er_wb i + 1
  | 7 => 1
  | _ => 4
def er_objs : List (Nat × Nat) := [(3, 0), (7, 0), (1, 48), (5, 48), (8, 0), (2, 5), (6, 5), (0, 5), (4, 5), (1, 30), (5, 30), (1, 31), (5, 31), (1, 32), (5, 32), (1, 33), (5, 33), (1, 34), (5, 34), (1, 35), (5, 35), (2, 6), (6, 6), (0, 6), (4, 6), (1, 36), (5, 36), (1, 37), (5, 37), (1, 38), (5, 38), (1, 39), (5, 39), (1, 40), (5, 40), (1, 41), (5, 41), (1, 42), (5, 42), (1, 43), (5, 43), (1, 44), (5, 44), (1, 45), (5, 45), (1, 46), (5, 46), (1, 47), (5, 47), (2, 0), (6, 0), (0, 0), (4, 0), (1, 0), (5, 0), (1, 1), (5, 1), (1, 2), (5, 2), (1, 3), (5, 3), (1, 4), (5, 4), (1, 5), (5, 5), (2, 1), (6, 1), (0, 1), (4, 1), (1, 6), (5, 6), (1, 7), (5, 7), (1, 8), (5, 8), (1, 9), (5, 9), (1, 10), (5, 10), (1, 11), (5, 11), (2, 2), (6, 2), (0, 2), (4, 2), (1, 12), (5, 12), (1, 13), (5, 13), (1, 14), (5, 14), (1, 15), (5, 15), (1, 16), (5, 16), (1, 17), (5, 17), (2, 3), (6, 3), (0, 3), (4, 3), (1, 18), (5, 18), (1, 19), (5, 19), (1, 20), (5, 20), (1, 21), (5, 21), (1, 22), (5, 22), (1, 23), (5, 23), (2, 4), (6, 4), (0, 4), (4, 4), (1, 24), (5, 24), (1, 25), (5, 25), (1, 26), (5, 26), (1, 27), (5, 27), (1, 28), (5, 28), (1, 29), (5, 29)]
theorem er_objs_len : er_objs.length = 129 := by decide +kernel
theorem er_objs_off : ∀ n, n < 129 → (er_objs[n]?).all (fun q => er_off q.1 q.2 == n && decide (q.1 < 9) && okH q.1 q.2) = true := by decide +kernel
theorem er_off_objs0 : ∀ k, k < 9 → ∀ i, i < 49 → okH k i = true → er_objs[er_off k i]? = some (k, i) := by decide +kernel
theorem okH_lt {k i : Nat} (h : okH k i = true) : i < 49 := by
  unfold okH at h
  split at h <;> simp at h <;> omega
theorem er_off_objs {k i : Nat} (hk : k < 9) (h : okH k i = true) : er_objs[er_off k i]? = some (k, i) := er_off_objs0 k hk i (okH_lt h) h
theorem er_objs_at {n : Nat} {q : Nat × Nat} (h : er_objs[n]? = some q) : er_off q.1 q.2 = n ∧ q.1 < 9 ∧ okH q.1 q.2 = true := by
  have hn : n < 129 := by rw [← er_objs_len]; exact (List.getElem?_eq_some_iff.mp h).1
  have h1 := er_objs_off n hn
  rw [h] at h1
  simp only [Option.all_some, Bool.and_eq_true, beq_iff_eq, decide_eq_true_eq] at h1
  exact ⟨h1.1.1, h1.1.2, h1.2⟩
def er_ad (B b tB tF : Nat) (k i : Nat) : Nat := match k with
  | 9 => b
  | 10 => tB
  | 11 => tF
  | k => B + er_off k i
theorem er_ad_lt {B b tB tF k i : Nat} (h : k < 9) : er_ad B b tB tF k i = B + er_off k i := by
  unfold er_ad
  split <;> first | omega | rfl
/-- what lies at an object's place -/
def ent (ad : Nat → Nat → Nat) (cI cR cW : ClassId) (M : AMem) (k i : Nat) : va_E := match k with
  | 4 => .inl (cI, 512, .inl (fun j => Int32.ofInt (M 4 i j)))
  | 5 => .inl (cI, 8, .inl (fun j => Int32.ofInt (M 5 i j)))
  | 6 => .inl (cR, 6, .inr (.inr (.inr (.inr (fun j => (aref 6 i j).map (fun q => ad q.1 q.2))))))
  | 7 => .inl (cR, 6, .inr (.inr (.inr (.inr (fun j => (aref 7 i j).map (fun q => ad q.1 q.2))))))
  | 8 => .inl (cW, 5, .inr (.inr (.inr (.inr (fun j => (aref 8 i j).map (fun q => ad q.1 q.2))))))
  | k => .inr (k, (List.range (nF k)).map (fun s => tv ad (fval k i s M)))
theorem ent_obj (ad : Nat → Nat → Nat) (cI cR cW : ClassId) (M : AMem) {k : Nat} (i : Nat) (h : k < 4) : ent ad cI cR cW M k i = .inr (k, (List.range (nF k)).map (fun s => tv ad (fval k i s M))) := by
  unfold ent
  split <;> first | omega | rfl
theorem fval_congr {M M' : AMem} {k i : Nat} (s : Nat) (h : ∀ s, M' k i s = M k i s) : fval k i s M' = fval k i s M := by
  unfold fval
  split <;> first | rfl | rw [h]
theorem ent_congr {ad : Nat → Nat → Nat} {cI cR cW : ClassId} {M M' : AMem} {k i : Nat} (h : ∀ s, M' k i s = M k i s) : ent ad cI cR cW M' k i = ent ad cI cR cW M k i := by
  unfold ent
  split
  · simp only [h]
  · simp only [h]
  · rfl
  · rfl
  · rfl
  · simp only [fval_congr _ h]
def er_ws (ad : Nat → Nat → Nat) (cI cR cW : ClassId) (M : AMem) : va_W := er_objs.map (fun q => (ad q.1 q.2, ent ad cI cR cW M q.1 q.2))
theorem er_ws_at {ad : Nat → Nat → Nat} {cI cR cW : ClassId} {M : AMem} {k i : Nat} (hk : k < 9) (h : okH k i = true) : (er_ws ad cI cR cW M)[er_off k i]? = some (ad k i, ent ad cI cR cW M k i) := by
  rw [er_ws, List.getElem?_map, er_off_objs hk h]
  rfl
theorem er_ws_set {ad : Nat → Nat → Nat} {cI cR cW : ClassId} {M M' : AMem} {k i : Nat} (hk : k < 9) (h : okH k i = true) (hM : ∀ k' i' s, (k' = k ∧ i' = i → False) → M' k' i' s = M k' i' s) : (er_ws ad cI cR cW M).set (er_off k i) (ad k i, ent ad cI cR cW M' k i) = er_ws ad cI cR cW M' := by
  apply List.ext_getElem?
  intro n
  by_cases hn : er_off k i = n
  · subst hn
    rw [er_ws_at hk h, List.getElem?_set_self]
    exact (List.getElem?_eq_some_iff.mp (er_ws_at (ad := ad) (cI := cI) (cR := cR) (cW := cW) (M := M) hk h)).1
  · rw [List.getElem?_set_ne hn, er_ws, er_ws, List.getElem?_map, List.getElem?_map]
    cases hq : er_objs[n]? with
    | none => rfl
    | some q =>
      have h1 := er_objs_at hq
      simp only [Option.map_some]
      rw [ent_congr (M := M) (M' := M') (k := q.1) (i := q.2) (fun s => hM q.1 q.2 s (fun z => hn (by rw [← z.1, ← z.2]; exact h1.1)))]
theorem er_ws_D (B b tB tF : Nat) (cI cR cW : ClassId) (M : AMem) : va_D (fun q => B ≤ q) (er_ws (er_ad B b tB tF) cI cR cW M) := by
  refine ⟨fun i j p q hi hj hpq => ?_, fun k q hk => ?_⟩
  · rw [er_ws, List.getElem?_map] at hi hj
    cases hx : er_objs[i]? with
    | none => rw [hx] at hi; cases hi
    | some x =>
      cases hy : er_objs[j]? with
      | none => rw [hy] at hj; cases hj
      | some y =>
        rw [hx] at hi
        rw [hy] at hj
        cases hi
        cases hj
        have h1 := er_objs_at hx
        have h2 := er_objs_at hy
        simp only [er_ad_lt h1.2.1, er_ad_lt h2.2.1] at hpq
        omega
  · rw [er_ws, List.getElem?_map] at hk
    cases hx : er_objs[k]? with
    | none => rw [hx] at hk; cases hk
    | some x =>
      rw [hx] at hk
      cases hk
      have h1 := er_objs_at hx
      simp only [er_ad_lt h1.2.1]
      omega
/-- what is so of the start of every method, and never changes: the tables, the script, the two rows of primes -/
def er_S (D : va_G) (cI cR cW : ClassId) (B b L tB tF : Nat) (xs : Nat → Int32) (s : State) : Prop :=
  B ≤ s.heap.size ∧ va_K D er_cl [(cI, .int), (cR, .object RX1), (cW, .object RX2)] s ∧ b < B ∧ va_X b L xs s s.heap ∧
  va_Z RX3 "BASES" "[I" (.ref tB) (fun q => B ≤ q) s s.heap ∧ va_T .int tB 6 (fun j => .int (Int32.ofInt (bas j))) (fun q => B ≤ q) s s.heap ∧
  va_Z RL "FEW" "[I" (.ref tF) (fun q => B ≤ q) s s.heap ∧ va_T .int tF 6 (fun j => .int (Int32.ofInt (bas j))) (fun q => B ≤ q) s s.heap ∧ ∀ w ∈ er_N, va_Nw w s
theorem er_N_warm {s U : State} (hW : s.WarmedH U.vm) (h : ∀ w ∈ er_N, va_Nw w s) : ∀ w ∈ er_N, va_Nw w U := by
  intro w hw
  have h1 := h w hw
  simp only [er_N, List.mem_cons, List.not_mem_nil, or_false] at hw
  rcases hw with rfl | rfl | rfl | rfl | rfl | rfl | rfl | rfl | rfl <;> exact va_Nw.warmF hW h1
theorem er_S_moved {D : va_G} {cI cR cW : ClassId} {B b L tB tF : Nat} {xs : Nat → Int32} {s U : State} (h : er_S D cI cR cW B b L tB tF xs s) (hW : s.WarmedH U.vm) (hz : s.heap.size ≤ U.heap.size) (hk : ∀ q : Nat, q < s.heap.size → ¬ B ≤ q → U.heap[q]? = s.heap[q]?) : er_S D cI cR cW B b L tB tF xs U := by
  obtain ⟨h1, h2, h3, h4, h5, h6, h7, h8, h9⟩ := h
  have hA := hW.alike
  exact ⟨by omega, va_K.moved hA h2, h3, va_X.kept (va_X.moved hA h4) (hk b (by omega) (by omega)), va_Z.kept (va_Z.moved hA h5) hk, va_T.kept (va_T.moved hA h6) hk, va_Z.kept (va_Z.moved hA h7) hk, va_T.kept (va_T.moved hA h8) hk, er_N_warm hW h9⟩
theorem er_S_calling {D : va_G} {cI cR cW : ClassId} {B b L tB tF : Nat} {xs : Nat → Int32} {s : State} (g : JFrame) (mk : MethodId) (a : Array Value) (h : er_S D cI cR cW B b L tB tF xs s) : er_S D cI cR cW B b L tB tF xs (s.calling g mk a) := by
  obtain ⟨h1, h2, h3, h4, h5, h6, h7, h8, h9⟩ := h
  have hA : s.vm.Alike (s.calling g mk a).vm := Vm.Alike.refl s.vm
  exact ⟨h1, va_K.moved hA h2, h3, va_X.moved hA h4, va_Z.moved hA h5, va_T.moved hA h6, va_Z.moved hA h7, va_T.moved hA h8, fun w hw => by
    have h10 := h9 w hw
    simp only [er_N, List.mem_cons, List.not_mem_nil, or_false] at hw
    rcases hw with rfl | rfl | rfl | rfl | rfl | rfl | rfl | rfl | rfl <;> exact va_Nw.same rfl rfl h10⟩
end
section
/-! what a step of each sort says -/
abbrev NX : Type := Nat × ALs × List AV × AMem
theorem aLoadI_inv {len n pc i : Nat} {ls ls' : ALs} {st st' : List AV} {M M' : AMem} {pc' : Nat} (h : aLoadI len n pc i ls st M = some (.inl (pc', ls', st', M'))) : len = n ∧ ∃ z, ls[i]? = some (some (vI z)) ∧ pc' = pc + n ∧ ls' = ls ∧ st' = vI z :: st ∧ M' = M := by
  obtain ⟨h1, h⟩ := if_inv h
  obtain ⟨v, h2, h⟩ := gL_inv h
  obtain ⟨z, r, h3, h⟩ := sI_inv h
  cases h3
  obtain ⟨a, b, c, d⟩ := nx_inv h
  exact ⟨h1, z, h2, a, b, c, d⟩
theorem aLoadL_inv {len n pc i : Nat} {ls ls' : ALs} {st st' : List AV} {M M' : AMem} {pc' : Nat} (h : aLoadL len n pc i ls st M = some (.inl (pc', ls', st', M'))) : len = n ∧ ∃ z, ls[i]? = some (some (vL z)) ∧ pc' = pc + n ∧ ls' = ls ∧ st' = vL z :: st ∧ M' = M := by
  obtain ⟨h1, h⟩ := if_inv h
  obtain ⟨v, h2, h⟩ := gL_inv h
  obtain ⟨z, r, h3, h⟩ := sL_inv h
  cases h3
  obtain ⟨a, b, c, d⟩ := nx_inv h
  exact ⟨h1, z, h2, a, b, c, d⟩
theorem aLoadA_inv {len n pc i : Nat} {ls ls' : ALs} {st st' : List AV} {M M' : AMem} {pc' : Nat} (h : aLoadA len n pc i ls st M = some (.inl (pc', ls', st', M'))) : len = n ∧ ∃ k j, ls[i]? = some (some (vR k j)) ∧ pc' = pc + n ∧ ls' = ls ∧ st' = vR k j :: st ∧ M' = M := by
  obtain ⟨h1, h⟩ := if_inv h
  obtain ⟨v, h2, h⟩ := gL_inv h
  obtain ⟨k, j, r, h3, h⟩ := sA_inv h
  cases h3
  obtain ⟨a, b, c, d⟩ := nx_inv h
  exact ⟨h1, k, j, h2, a, b, c, d⟩
theorem aStoreI_inv {len n pc i : Nat} {ls ls' : ALs} {st st' : List AV} {M M' : AMem} {pc' : Nat} (h : aStoreI len n pc i ls st M = some (.inl (pc', ls', st', M'))) : len = n ∧ stOK ls i = true ∧ ∃ z, st = vI z :: st' ∧ pc' = pc + n ∧ ls' = ls.set i (some (vI z)) ∧ M' = M := by
  obtain ⟨h1, h⟩ := if_inv h
  obtain ⟨z, r, h3, h⟩ := sI_inv h
  obtain ⟨a, b, c, d⟩ := nx_inv h
  exact ⟨h1.1, h1.2, z, by rw [h3, c], a, b, d⟩
theorem aStoreA_inv {len n pc i : Nat} {ls ls' : ALs} {st st' : List AV} {M M' : AMem} {pc' : Nat} (h : aStoreA len n pc i ls st M = some (.inl (pc', ls', st', M'))) : len = n ∧ stOK ls i = true ∧ ∃ k j, st = vR k j :: st' ∧ pc' = pc + n ∧ ls' = ls.set i (some (vR k j)) ∧ M' = M := by
  obtain ⟨h1, h⟩ := if_inv h
  obtain ⟨k, j, r, h3, h⟩ := sA_inv h
  obtain ⟨a, b, c, d⟩ := nx_inv h
  exact ⟨h1.1, h1.2, k, j, by rw [h3, c], a, b, d⟩
theorem aStoreL_inv {len n pc i : Nat} {ls ls' : ALs} {st st' : List AV} {M M' : AMem} {pc' : Nat} (h : aStoreL len n pc i ls st M = some (.inl (pc', ls', st', M'))) : len = n ∧ stOK ls i = true ∧ i + 1 < ls.length ∧ ∃ z, st = vL z :: st' ∧ pc' = pc + n ∧ ls' = (ls.set i (some (vL z))).set (i + 1) none ∧ M' = M := by
  obtain ⟨h1, h⟩ := if_inv h
  obtain ⟨z, r, h3, h⟩ := sL_inv h
  obtain ⟨a, b, c, d⟩ := nx_inv h
  exact ⟨h1.1, h1.2.1, h1.2.2, z, by rw [h3, c], a, b, d⟩
theorem aPush_inv {len n pc : Nat} {v : AV} {ls ls' : ALs} {st st' : List AV} {M M' : AMem} {pc' : Nat} (h : aPush len n pc v ls st M = some (.inl (pc', ls', st', M'))) : len = n ∧ pc' = pc + n ∧ ls' = ls ∧ st' = v :: st ∧ M' = M := by
  obtain ⟨h1, h⟩ := if_inv h
  obtain ⟨a, b, c, d⟩ := nx_inv h
  exact ⟨h1, a, b, c, d⟩
theorem aBin_inv {len pc : Nat} {f : Int → Int → Int} {ls ls' : ALs} {st st' : List AV} {M M' : AMem} {pc' : Nat} (h : aBin len pc f ls st M = some (.inl (pc', ls', st', M'))) : len = 1 ∧ ∃ x y r, st = vI y :: vI x :: r ∧ pc' = pc + 1 ∧ ls' = ls ∧ st' = vI (f x y) :: r ∧ M' = M := by
  obtain ⟨h1, h⟩ := if_inv h
  obtain ⟨y, r, h3, h⟩ := sI_inv h
  obtain ⟨x, q, h4, h⟩ := sI_inv h
  obtain ⟨a, b, c, d⟩ := nx_inv h
  exact ⟨h1, x, y, q, by rw [h3, h4], a, b, c, d⟩
theorem aDiv_inv {len pc : Nat} {f : Int → Int → Int} {ls ls' : ALs} {st st' : List AV} {M M' : AMem} {pc' : Nat} (h : aDiv len pc f ls st M = some (.inl (pc', ls', st', M'))) : len = 1 ∧ ∃ x y r, st = vI y :: vI x :: r ∧ ¬ wI y = 0 ∧ pc' = pc + 1 ∧ ls' = ls ∧ st' = vI (f (wI x) (wI y)) :: r ∧ M' = M := by
  obtain ⟨h1, h⟩ := if_inv h
  obtain ⟨y, r, h3, h⟩ := sI_inv h
  obtain ⟨h5, h⟩ := nif_inv h
  obtain ⟨x, q, h4, h⟩ := sI_inv h
  obtain ⟨a, b, c, d⟩ := nx_inv h
  exact ⟨h1, x, y, q, by rw [h3, h4], h5, a, b, c, d⟩
theorem jmp_eq {pc : Nat} {off : Int} (h : jok pc off = true) : (pc : Int) + off = (jmp pc off : Int) := by
  unfold jok at h
  unfold jmp
  simp only [decide_eq_true_eq] at h
  omega
theorem aBr_inv {len pc : Nat} {off : Int} {bb : Bool} {ls ls' : ALs} {st st' : List AV} {M M' : AMem} {pc' : Nat} (h : aBr len pc off bb ls st M = some (.inl (pc', ls', st', M'))) : len = 3 ∧ (pc : Int) + off = (jmp pc off : Int) ∧ pc' = (if bb = true then jmp pc off else pc + 3) ∧ ls' = ls ∧ st' = st ∧ M' = M := by
  obtain ⟨h1, h⟩ := if_inv h
  cases bb with
  | true =>
    obtain ⟨a, b, c, d⟩ := nx_inv h
    exact ⟨h1.1, jmp_eq h1.2, a, b, c, d⟩
  | false =>
    obtain ⟨a, b, c, d⟩ := nx_inv h
    exact ⟨h1.1, jmp_eq h1.2, a, b, c, d⟩
theorem aSwT_inv {pc : Nat} {dflt lo hi : Int} {offs : Array Int} {ls ls' : ALs} {st st' : List AV} {M M' : AMem} {pc' : Nat} (h : aSwT pc dflt lo hi offs ls st M = some (.inl (pc', ls', st', M'))) : ∃ z, st = vI z :: st' ∧ ls' = ls ∧ M' = M ∧ (((wI z < lo ∨ hi < wI z) ∧ (pc : Int) + dflt = (pc' : Int)) ∨ (¬ (wI z < lo ∨ hi < wI z) ∧ ∃ off, offs[(wI z - lo).toNat]? = some off ∧ (pc : Int) + off = (pc' : Int))) := by
  obtain ⟨z, r, h3, h⟩ := sI_inv h
  split at h
  · rename_i hc
    obtain ⟨h1, h⟩ := if_inv h
    obtain ⟨a, b, c, d⟩ := nx_inv h
    exact ⟨z, by rw [h3, c], b, d, Or.inl ⟨hc, by rw [a]; exact jmp_eq h1⟩⟩
  · rename_i hc
    obtain ⟨off, h2, h⟩ := oG_inv h
    obtain ⟨h1, h⟩ := if_inv h
    obtain ⟨a, b, c, d⟩ := nx_inv h
    exact ⟨z, by rw [h3, c], b, d, Or.inr ⟨hc, off, h2, by rw [a]; exact jmp_eq h1⟩⟩
theorem aSwL_inv {pc : Nat} {dflt : Int} {ps : Array (Int × Int)} {ls ls' : ALs} {st st' : List AV} {M M' : AMem} {pc' : Nat} (h : aSwL pc dflt ps ls st M = some (.inl (pc', ls', st', M'))) : (ps.toList.zip (ps.toList.drop 1)).all (fun (a, next) => a.1 < next.1) = true ∧ ∃ z, st = vI z :: st' ∧ ls' = ls ∧ M' = M ∧ (pc : Int) + Op.lookupswitch.offset ps.toList dflt (wI z) = (pc' : Int) := by
  obtain ⟨h1, h⟩ := if_inv h
  obtain ⟨z, r, h3, h⟩ := sI_inv h
  obtain ⟨h2, h⟩ := if_inv h
  obtain ⟨a, b, c, d⟩ := nx_inv h
  exact ⟨h1, z, by rw [h3, c], b, d, by rw [a]; exact jmp_eq h2⟩
/-- the script, as the memory has it -/
def scrM (L : Nat) (xs : Nat → Int32) (M : AMem) : Prop := M 9 1 0 = L ∧ ∀ j : Nat, j < L → Int32.ofInt (M 9 0 j) = xs j
theorem scrM_aup {L : Nat} {xs : Nat → Int32} {M : AMem} (k i j : Nat) (z : Int) (hk : k ≠ 9) (h : scrM L xs M) : scrM L xs (aup M k i j z) := by
  unfold scrM aup at *
  refine ⟨?_, fun q hq => ?_⟩
  · rw [if_neg (fun x => hk x.1.symm)]
    exact h.1
  · rw [if_neg (fun x => hk x.1.symm)]
    exact h.2 q hq
theorem scrM_acopy {L : Nat} {xs : Nat → Int32} {M : AMem} (k i j n : Nat) (hk : k ≠ 9) (h : scrM L xs M) : scrM L xs (acopy M k i j n) := by
  unfold scrM acopy at *
  refine ⟨?_, fun q hq => ?_⟩
  · rw [if_neg (fun x => hk x.1.symm)]
    exact h.1
  · rw [if_neg (fun x => hk x.1.symm)]
    exact h.2 q hq
theorem aup_out {M : AMem} {k i j : Nat} {z : Int} (k' i' q : Nat) (h : k' = k ∧ i' = i → False) : aup M k i j z k' i' q = M k' i' q := by
  unfold aup
  exact if_neg (fun x => h ⟨x.1, x.2.1⟩)
theorem acopy_out {M : AMem} {k i j n : Nat} (k' i' q : Nat) (h : k' = k ∧ i' = j → False) : acopy M k i j n k' i' q = M k' i' q := by
  unfold acopy
  exact if_neg (fun x => h ⟨x.1, x.2.1⟩)
theorem aBlt_inv {len pc bb : Nat} {ls ls' : ALs} {st st' : List AV} {M M' : AMem} {pc' : Nat} (h : aBlt len pc bb ls st M = some (.inl (pc', ls', st', M'))) : len = 3 ∧ (st.map acat).sum ≤ 8 ∧ pc' = pc + 3 ∧ ls' = ls ∧
    ((bb = 0 ∧ ∃ x y r, st = vI y :: vI x :: r ∧ st' = vI (if wI x < wI y then y else x) :: r ∧ M' = M) ∨ (bb = 1 ∧ ∃ x y r, st = vI y :: vI x :: r ∧ st' = vI (if wI y < wI x then y else x) :: r ∧ M' = M) ∨
     (¬ bb = 0 ∧ ¬ bb = 1 ∧ ∃ n k i j, st = vI n :: vI 0 :: vR k j :: vI 0 :: vR k i :: st' ∧ okH k j = true ∧ okH k i = true ∧ (k = 4 ∨ k = 5) ∧ 0 ≤ n ∧ n.toNat ≤ alen k M ∧ M' = acopy M k i j n.toNat)) := by
  obtain ⟨h1, h⟩ := if_inv h
  refine ⟨h1.1, h1.2, ?_⟩
  split at h
  · obtain ⟨y, r, h3, h⟩ := sI_inv h
    obtain ⟨x, q, h4, h⟩ := sI_inv h
    obtain ⟨a, b, c, d⟩ := nx_inv h
    exact ⟨a, b, Or.inl ⟨rfl, x, y, q, by rw [h3, h4], c, d⟩⟩
  · obtain ⟨y, r, h3, h⟩ := sI_inv h
    obtain ⟨x, q, h4, h⟩ := sI_inv h
    obtain ⟨a, b, c, d⟩ := nx_inv h
    exact ⟨a, b, Or.inr (Or.inl ⟨rfl, x, y, q, by rw [h3, h4], c, d⟩)⟩
  · rename_i hb0 hb1
    obtain ⟨n, r1, h3, h⟩ := sI_inv h
    obtain ⟨dp, r2, h4, h⟩ := sI_inv h
    obtain ⟨k, j, r3, h5, o1, h⟩ := sR_inv h
    obtain ⟨sp, r4, h6, h⟩ := sI_inv h
    obtain ⟨k', i, r5, h7, o2, h⟩ := sR_inv h
    obtain ⟨hc, h⟩ := if_inv h
    obtain ⟨a, b, c, d⟩ := nx_inv h
    obtain ⟨e1, e2, e3, hk, hn, hln⟩ := hc
    subst e1; subst e2; subst e3
    exact ⟨a, b, Or.inr (Or.inr ⟨fun z => hb0 z, fun z => hb1 z, n, k', i, j, by rw [h3, h4, h5, h6, h7, c], o1, o2, hk, hn, hln, d⟩)⟩
end
section
theorem i_eq0 (a : Int) : Int32.ofInt a = 0 ↔ wI a = 0 := i_eq a 0
theorem i_lt0 (a : Int) : Int32.ofInt a < 0 ↔ wI a < 0 := i_lt a 0
theorem i_ge0 (a : Int) : 0 ≤ Int32.ofInt a ↔ 0 ≤ wI a := i_le 0 a
theorem i_gt0 (a : Int) : 0 < Int32.ofInt a ↔ 0 < wI a := i_lt 0 a
theorem i_le0 (a : Int) : Int32.ofInt a ≤ 0 ↔ wI a ≤ 0 := i_le a 0
theorem in_er0 : ∀ q ∈ u_ws (cN 0) (tT 0) (nF 0), q ∈ er_G := fun q hq => List.mem_filter.mpr ⟨in_wsX00 q hq, (by decide +kernel : ∀ q ∈ u_ws (cN 0) (tT 0) (nF 0), goodWord q = true) q hq⟩
theorem in_er1 : ∀ q ∈ u_ws (cN 1) (tT 1) (nF 1), q ∈ er_G := fun q hq => List.mem_filter.mpr ⟨in_wsX10 q hq, (by decide +kernel : ∀ q ∈ u_ws (cN 1) (tT 1) (nF 1), goodWord q = true) q hq⟩
theorem in_er2 : ∀ q ∈ u_ws (cN 2) (tT 2) (nF 2), q ∈ er_G := fun q hq => List.mem_filter.mpr ⟨in_wsX20 q hq, (by decide +kernel : ∀ q ∈ u_ws (cN 2) (tT 2) (nF 2), goodWord q = true) q hq⟩
theorem in_er3 : ∀ q ∈ u_ws (cN 3) (tT 3) (nF 3), q ∈ er_G := fun q hq => List.mem_filter.mpr ⟨in_wsX30 q hq, (by decide +kernel : ∀ q ∈ u_ws (cN 3) (tT 3) (nF 3), goodWord q = true) q hq⟩
theorem in_er {k : Nat} (h : k < 4) : ∀ q ∈ u_ws (cN k) (tT k) (nF k), q ∈ er_G := by
  rcases (show k = 0 ∨ k = 1 ∨ k = 2 ∨ k = 3 by omega) with rfl | rfl | rfl | rfl
  · exact in_er0
  · exact in_er1
  · exact in_er2
  · exact in_er3
def er_ty (k : Nat) : Nat → FieldType := match k with
  | 0 => tyX0
  | 1 => tyX1
  | 2 => tyX2
  | _ => tyX3
theorem er_ty_ok {k : Nat} (h : k < 4) : ∀ j, j < nF k → parseFieldDescriptor (tT k j).2.2.1 = some (er_ty k j) := by
  rcases (show k = 0 ∨ k = 1 ∨ k = 2 ∨ k = 3 by omega) with rfl | rfl | rfl | rfl
  · exact tyX0_ok
  · exact tyX1_ok
  · exact tyX2_ok
  · exact tyX3_ok
theorem er_nm {k : Nat} (h : k < 4) : ∀ a, a < nF k → ∀ b, b < nF k → a ≠ b → (tT k a).2.1 ≠ (tT k b).2.1 := by
  rcases (show k = 0 ∨ k = 1 ∨ k = 2 ∨ k = 3 by omega) with rfl | rfl | rfl | rfl
  · exact nmX0
  · exact nmX1
  · exact nmX2
  · exact nmX3
theorem er_cl_at {k : Nat} (h : k < 4) : er_cl[k]? = some (cN k, tT k, nF k) := by
  rcases (show k = 0 ∨ k = 1 ∨ k = 2 ∨ k = 3 by omega) with rfl | rfl | rfl | rfl <;> rfl
/-- an int field is not final, and of type int or boolean -/
theorem fint_ok : ∀ k, k < 4 → ∀ j, j < nF k → fint k j = true → ((tT k j).2.2.2 = false ∧ (er_ty k j = .int ∨ (er_ty k j = .boolean ∧ k = 2 ∧ j = 4))) := by decide +kernel
theorem fint_lt {k j : Nat} (hk : k < 4) (h : fint k j = true) : j < nF k := by
  unfold fint at h
  split at h <;> first | decide | cases h
theorem fint_val {k i j : Nat} {M : AMem} (h : fint k j = true) : fval k i j M = vI (M k i j) := by
  unfold fint at h
  split at h <;> first | rfl | cases h
theorem fs_at {ad : Nat → Nat → Nat} {k i j : Nat} {M : AMem} (h : j < nF k) : ((List.range (nF k)).map (fun s => tv ad (fval k i s M)))[j]? = some (tv ad (fval k i j M)) := by
  rw [List.getElem?_map, List.getElem?_range h]
  rfl
theorem fs_set {ad : Nat → Nat → Nat} {k i j : Nat} {M : AMem} {z : Int} (h : fint k j = true) : ((List.range (nF k)).map (fun s => tv ad (fval k i s M))).set j (.int (Int32.ofInt z)) = (List.range (nF k)).map (fun s => tv ad (fval k i s (aup M k i j z))) := by
  apply List.ext_getElem?
  intro n
  by_cases hn : j = n
  · subst hn
    by_cases hl : j < nF k
    · rw [List.getElem?_set_self (by simpa using hl), List.getElem?_map, List.getElem?_range hl]
      simp only [Option.map_some]
      rw [fint_val h, tv_I]
      unfold aup
      rw [if_pos ⟨rfl, rfl, rfl⟩]
    · rw [List.getElem?_eq_none (by simpa using Nat.not_lt.mp hl), List.getElem?_eq_none (by simpa using Nat.not_lt.mp hl)]
  · rw [List.getElem?_set_ne hn, List.getElem?_map, List.getElem?_map]
    cases hr : (List.range (nF k))[n]? with
    | none => rfl
    | some q =>
      have hq : q = n := by
        have h1 := (List.getElem?_eq_some_iff.mp hr)
        obtain ⟨h2, h3⟩ := h1
        rw [List.getElem_range] at h3
        exact h3.symm
      subst hq
      simp only [Option.map_some]
      congr 2
      unfold fval
      split <;> first | rfl | (unfold aup; rw [if_neg (fun x => hn x.2.2.symm)])
/-- the tables' words of the natives, the statics and the longs -/
theorem w_max : Cond.static Lib.Math.max.name ∈ er_G ∧ Cond.initialized "java/lang/Math" ∈ er_G ∧ Cond.code Lib.Math.max.name Lib.Math.max.code 2 (some .int) ∈ er_G := ⟨er_in 394 (by decide +kernel) rfl, er_in 30 (by decide +kernel) rfl, er_in 395 (by decide +kernel) rfl⟩
theorem w_min : Cond.static Lib.Math.min.name ∈ er_G ∧ Cond.code Lib.Math.min.name Lib.Math.min.code 2 (some .int) ∈ er_G := ⟨er_in 258 (by decide +kernel) rfl, er_in 259 (by decide +kernel) rfl⟩
theorem w_cpy : Cond.native arraycopyName ∈ er_G ∧ Cond.static arraycopyName ∈ er_G ∧ Cond.initialized "java/lang/System" ∈ er_G := ⟨er_in 278 (by decide +kernel) rfl, er_in 277 (by decide +kernel) rfl, er_in 29 (by decide +kernel) rfl⟩
theorem w_blt {c i bb : Nat} (h : bltT c i = some bb) : (bb = 0 ∧ Cond.methodLink (cN c) i Lib.Math.max.name ∈ er_G) ∨ (bb = 1 ∧ Cond.methodLink (cN c) i Lib.Math.min.name ∈ er_G) ∨ (bb = 2 ∧ Cond.methodLink (cN c) i arraycopyName ∈ er_G) := by
  have h1 := er_find_mem h
  simp only [List.mem_cons, List.not_mem_nil, or_false, Prod.mk.injEq] at h1
  rcases h1 with ⟨rfl, rfl, rfl⟩ | ⟨rfl, rfl, rfl⟩ | ⟨rfl, rfl, rfl⟩ | ⟨rfl, rfl, rfl⟩ | ⟨rfl, rfl, rfl⟩ | ⟨rfl, rfl, rfl⟩
  · exact Or.inl ⟨rfl, er_in 393 (by decide +kernel) rfl⟩
  · exact Or.inl ⟨rfl, er_in 625 (by decide +kernel) rfl⟩
  · exact Or.inr (Or.inl ⟨rfl, er_in 257 (by decide +kernel) rfl⟩)
  · exact Or.inr (Or.inl ⟨rfl, er_in 651 (by decide +kernel) rfl⟩)
  · exact Or.inr (Or.inr ⟨rfl, er_in 276 (by decide +kernel) rfl⟩)
  · exact Or.inr (Or.inr ⟨rfl, er_in 283 (by decide +kernel) rfl⟩)
theorem w_lon {c i : Nat} {z : Int} (h : lonT c i = some z) : Cond.constantLong (cN c) i (Int64.ofInt z) ∈ er_G := by
  have h1 := er_find_mem h
  simp only [List.mem_cons, List.not_mem_nil, or_false, Prod.mk.injEq] at h1
  rcases h1 with ⟨rfl, rfl, rfl⟩ | ⟨rfl, rfl, rfl⟩
  · exact er_in 577 (by decide +kernel) rfl
  · exact er_in 578 (by decide +kernel) rfl
theorem w_sta {c i k : Nat} (h : staT c i = some k) : (k = 10 ∧ Cond.fieldLinkNest (cN c) i "Endlessrows" "BASES" "[I" "Endlessrows" ∈ er_N) ∨ (k = 11 ∧ Cond.fieldLink (cN c) i "EndlessrowsLaw" "FEW" "[I" ∈ er_G) := by
  have h1 := er_find_mem h
  simp only [List.mem_cons, List.not_mem_nil, or_false, Prod.mk.injEq] at h1
  rcases h1 with ⟨rfl, rfl, rfl⟩ | ⟨rfl, rfl, rfl⟩
  · exact Or.inl ⟨rfl, List.mem_of_getElem? (i := 8) rfl⟩
  · exact Or.inr ⟨rfl, er_in 655 (by decide +kernel) rfl⟩
/-- a method's frame: the machine, its code, the words, the room -/
def er_C (D : va_G) (cI cR cW : ClassId) (B b L tB tF : Nat) (xs : Nat → Int32) (Y : MT) (p : Program) (R : Room) (s : State) (m : MethodId) (args : Array Value) (meth : Method) (c : Code) (cells slots : Nat) : Prop :=
  p.tables.exec = Jvm.exec ∧ c.code = mtC Y ∧ meth.sig.returnType = mtR Y ∧ c.maxLocals = mtL Y ∧ s.vm.findClass (cN (mtK Y)) = some m.cls ∧ (∀ w ∈ er_G, w.before args s = true) ∧ er_S D cI cR cW B b L tB tF xs s ∧ cells ≤ R.cells ∧ slots ≤ R.slots ∧ 1 ≤ R.frames ∧ 400 ≤ R.locals
section SIM
variable {p : Program} {l : Launch} {e : Env} {R : Room} {s : State} {m : MethodId} {args : Array Value} {below : List Frame} {meth : Method} {c : Code} {H : Heap} {locs : List Loc} {cells slots : Nat} {Q : State → Prop}
variable {D : va_G} {cI cR cW : ClassId} {B b L tB tF : Nat} {xs : Nat → Int32}
/-- what is left to show behind a step -/
abbrev KN (D : va_G) (cI cR cW : ClassId) (B b L tB tF : Nat) (xs : Nat → Int32) (Y : MT) (p : Program) (l : Launch) (e : Env) (R : Room) (s : State) (m : MethodId) (args : Array Value) (below : List Frame) (meth : Method) (c : Code) (cells slots : Nat) (Q : State → Prop) (pc : Nat) (ls : ALs) (st : List AV) (M : AMem) : Prop :=
  ∀ (H' : Heap) (locs' : List Loc) (lj' : Array Slot), va_P D er_cl (er_ws (er_ad B b tB tF) cI cR cW M) H' → va_S (fun q => B ≤ q) s.heap H' locs' → lsR (er_ad B b tB tF) ls (mtL Y) lj' → scrM L xs M → W p l e R s m args below meth c H' locs' cells slots Q (F0 m pc lj' (st.map (tv (er_ad B b tB tF))))
set_option maxHeartbeats 4000000 in
set_option maxRecDepth 100000 in
theorem step_next {Y : MT} {ins : ClassFile.Instr} {len pc pc' : Nat} {ls ls' : ALs} {st st' : List AV} {M M' : AMem} {lj : Array Slot}
    (C0 : er_C D cI cR cW B b L tB tF xs Y p R s m args meth c cells slots) (hd : decode (mtC Y) pc = .ok (ins, len)) (h : ex1 Y ins len pc ls st M = some (.inl (pc', ls', st', M')))
    (hP : va_P D er_cl (er_ws (er_ad B b tB tF) cI cR cW M) H) (hS : va_S (fun q => B ≤ q) s.heap H locs) (hl : lsR (er_ad B b tB tF) ls (mtL Y) lj) (hM : scrM L xs M)
    (k : KN D cI cR cW B b L tB tF xs Y p l e R s m args below meth c cells slots Q pc' ls' st' M') : W p l e R s m args below meth c H locs cells slots Q (F0 m pc lj (st.map (tv (er_ad B b tB tF)))) := by
  obtain ⟨hx, hb, hr, hml, hown, hts, hS0, hcl, hsl, hfr, hlo⟩ := C0
  have hS0' := hS0
  obtain ⟨hBs, hK, hbB, hX, hZ1, hT1, hZ2, hT2, hN⟩ := hS0'
  have hD := er_ws_D B b tB tF cI cR cW M
  cases ins
  case iconst n =>
    obtain ⟨rfl, rfl, rfl, rfl, rfl⟩ := aPush_inv h
    exact lv_iconst hx hb hd rfl (k _ _ _ hP hS hl hM)
  case bipush n =>
    obtain ⟨hc, h⟩ := if_inv h
    obtain ⟨rfl, rfl, rfl, rfl, rfl⟩ := aPush_inv h
    refine lv_bipush hx hb hd (v := Int32.ofInt n) ?_ (k _ _ _ hP hS hl hM)
    rw [← Int32.toInt_inj, Int8.toInt_toInt32, Int8.toInt_ofInt_of_le (by omega) (by omega), i_toInt, wI_eq (by omega) (by omega)]
  case sipush n =>
    obtain ⟨hc, h⟩ := if_inv h
    obtain ⟨rfl, rfl, rfl, rfl, rfl⟩ := aPush_inv h
    refine lv_sipush hx hb hd (v := Int32.ofInt n) ?_ (k _ _ _ hP hS hl hM)
    rw [← Int32.toInt_inj, Int16.toInt_toInt32, Int16.toInt_ofInt_of_le (by omega) (by omega), i_toInt, wI_eq (by omega) (by omega)]
  case ldc i =>
    obtain ⟨z, hz, h⟩ := oG_inv h
    obtain ⟨rfl, rfl, rfl, rfl, rfl⟩ := aPush_inv h
    exact lv_ldc hx hb hown (hts _ (er_csts_ok _ (er_find_mem hz))) hd (k _ _ _ hP hS hl hM)
  case ldc_w i =>
    obtain ⟨z, hz, h⟩ := oG_inv h
    obtain ⟨rfl, rfl, rfl, rfl, rfl⟩ := aPush_inv h
    exact lv_ldcw hx hb hown (hts _ (er_csts_ok _ (er_find_mem hz))) hd (k _ _ _ hP hS hl hM)
  case ldc2_w i =>
    obtain ⟨z, hz, h⟩ := oG_inv h
    obtain ⟨rfl, rfl, rfl, rfl, rfl⟩ := aPush_inv h
    exact lv_ldc2 hx hb hown (hts _ (w_lon hz)) hd (k _ _ _ hP hS hl hM)
  case iload i =>
    obtain ⟨rfl, z, hv, rfl, rfl, rfl, rfl⟩ := aLoadI_inv h
    exact lv_iload hx hb hd (lsR_at hl hv) (k _ _ _ hP hS hl hM)
  case iload_n i =>
    obtain ⟨rfl, z, hv, rfl, rfl, rfl, rfl⟩ := aLoadI_inv h
    exact lv_iload_n hx hb hd rfl (lsR_at hl hv) (k _ _ _ hP hS hl hM)
  case lload i =>
    obtain ⟨rfl, z, hv, rfl, rfl, rfl, rfl⟩ := aLoadL_inv h
    exact lv_lload hx hb hd (lsR_at hl hv) (k _ _ _ hP hS hl hM)
  case lload_n i =>
    obtain ⟨rfl, z, hv, rfl, rfl, rfl, rfl⟩ := aLoadL_inv h
    exact lv_lload_n hx hb hd rfl (lsR_at hl hv) (k _ _ _ hP hS hl hM)
  case aload i =>
    obtain ⟨rfl, q, j, hv, rfl, rfl, rfl, rfl⟩ := aLoadA_inv h
    exact lv_aload hx hb hd (lsR_at hl hv) (k _ _ _ hP hS hl hM)
  case aload_n i =>
    obtain ⟨rfl, q, j, hv, rfl, rfl, rfl, rfl⟩ := aLoadA_inv h
    exact lv_aload_n hx hb hd rfl (lsR_at hl hv) (k _ _ _ hP hS hl hM)
  case istore i =>
    obtain ⟨rfl, hok, z, rfl, rfl, rfl, rfl⟩ := aStoreI_inv h
    exact lv_istore hx hb hd hl.2 (by have h7 := hl.1; simp only [stOK, Bool.and_eq_true, decide_eq_true_eq] at hok; omega) rfl (fun lj' hl' => k _ _ _ hP hS (lsR_set hl.1 hok hl') hM)
  case istore_n i =>
    obtain ⟨rfl, hok, z, rfl, rfl, rfl, rfl⟩ := aStoreI_inv h
    exact lv_istore_n hx hb hd rfl hl.2 (by have h7 := hl.1; simp only [stOK, Bool.and_eq_true, decide_eq_true_eq] at hok; omega) rfl (fun lj' hl' => k _ _ _ hP hS (lsR_set hl.1 hok hl') hM)
  case astore i =>
    obtain ⟨rfl, hok, q, j, rfl, rfl, rfl, rfl⟩ := aStoreA_inv h
    exact lv_astore hx hb hd hl.2 (by have h7 := hl.1; simp only [stOK, Bool.and_eq_true, decide_eq_true_eq] at hok; omega) rfl (fun lj' hl' => k _ _ _ hP hS (lsR_set hl.1 hok hl') hM)
  case astore_n i =>
    obtain ⟨rfl, hok, q, j, rfl, rfl, rfl, rfl⟩ := aStoreA_inv h
    exact lv_astore_n hx hb hd rfl hl.2 (by have h7 := hl.1; simp only [stOK, Bool.and_eq_true, decide_eq_true_eq] at hok; omega) rfl (fun lj' hl' => k _ _ _ hP hS (lsR_set hl.1 hok hl') hM)
  case lstore i =>
    obtain ⟨rfl, hok, hi, z, rfl, rfl, rfl, rfl⟩ := aStoreL_inv h
    exact lv_lstore hx hb hd hl.2 (by have h7 := hl.1; omega) rfl (fun lj' hl' => k _ _ _ hP hS (lsR_set2 hl.1 hok hl') hM)
  case lstore_n i =>
    obtain ⟨rfl, hok, hi, z, rfl, rfl, rfl, rfl⟩ := aStoreL_inv h
    exact lv_lstore_n hx hb hd rfl hl.2 (by have h7 := hl.1; omega) rfl (fun lj' hl' => k _ _ _ hP hS (lsR_set2 hl.1 hok hl') hM)
  case iinc i n =>
    obtain ⟨hc0, h1⟩ := if_inv h
    clear h
    obtain ⟨hlen, hok⟩ := hc0
    have h := h1
    clear h1
    subst hlen
    obtain ⟨v, hv, h⟩ := gL_inv h
    obtain ⟨z, r, h3, h⟩ := sI_inv h
    cases h3
    obtain ⟨rfl, rfl, rfl, rfl⟩ := nx_inv h
    obtain ⟨kk, hkk⟩ := List.getElem?_of_mem (mem_lpr.mpr ⟨vI z, Nat.zero_le i, hv, rfl⟩ : (i, tv (er_ad B b tB tF) (vI z)) ∈ lpr (er_ad B b tB tF) 0 ls)
    exact lv_iinc hx hb hd hl.2 (k := kk) hkk (Int32.ofInt_add z n).symm (by have h7 := hl.1; simp only [stOK, Bool.and_eq_true, decide_eq_true_eq] at hok; omega) rfl (fun lj' hl' => k _ _ _ hP hS (lsR_set (v := vI (z + n)) hl.1 hok hl') hM)
  case iadd =>
    obtain ⟨rfl, x, y, r, rfl, rfl, rfl, rfl, rfl⟩ := aBin_inv h
    have k1 := k _ _ _ hP hS hl hM
    simp only [List.map_cons, tv_I, Int32.ofInt_add] at k1 ⊢
    exact lv_iadd hx hb hd k1
  case isub =>
    obtain ⟨rfl, x, y, r, rfl, rfl, rfl, rfl, rfl⟩ := aBin_inv h
    have k1 := k _ _ _ hP hS hl hM
    simp only [List.map_cons, tv_I, Int32.ofInt_sub] at k1 ⊢
    exact lv_isub hx hb hd k1
  case imul =>
    obtain ⟨rfl, x, y, r, rfl, rfl, rfl, rfl, rfl⟩ := aBin_inv h
    have k1 := k _ _ _ hP hS hl hM
    simp only [List.map_cons, tv_I, Int32.ofInt_mul] at k1 ⊢
    exact lv_imul hx hb hd k1
  case iand =>
    obtain ⟨rfl, x, y, r, rfl, rfl, rfl, rfl, rfl⟩ := aBin_inv h
    have k1 := k _ _ _ hP hS hl hM
    simp only [List.map_cons, tv_I, opAnd, i_of] at k1 ⊢
    exact lv_iand hx hb hd k1
  case ixor =>
    obtain ⟨rfl, x, y, r, rfl, rfl, rfl, rfl, rfl⟩ := aBin_inv h
    have k1 := k _ _ _ hP hS hl hM
    simp only [List.map_cons, tv_I, opXor, i_of] at k1 ⊢
    exact lv_ixor hx hb hd k1
  case ishr =>
    obtain ⟨rfl, x, y, r, rfl, rfl, rfl, rfl, rfl⟩ := aBin_inv h
    have k1 := k _ _ _ hP hS hl hM
    simp only [List.map_cons, tv_I, opShr, i_of] at k1 ⊢
    exact lv_ishr hx hb hd k1
  case iushr =>
    obtain ⟨rfl, x, y, r, rfl, rfl, rfl, rfl, rfl⟩ := aBin_inv h
    have k1 := k _ _ _ hP hS hl hM
    simp only [List.map_cons, tv_I, opUshr, i_of] at k1 ⊢
    exact lv_iushr hx hb hd rfl k1
  case idiv =>
    obtain ⟨rfl, x, y, r, rfl, hy, rfl, rfl, rfl, rfl⟩ := aDiv_inv h
    have k1 := k _ _ _ hP hS hl hM
    simp only [List.map_cons, tv_I] at k1 ⊢
    rw [← i_div] at k1
    exact lv_idiv hx hb hd (fun q => hy (by have q2 := (i_eq y 0).mp q; rw [q2]; rfl)) k1
  case irem =>
    obtain ⟨rfl, x, y, r, rfl, hy, rfl, rfl, rfl, rfl⟩ := aDiv_inv h
    have k1 := k _ _ _ hP hS hl hM
    simp only [List.map_cons, tv_I] at k1 ⊢
    rw [← i_rem] at k1
    exact lv_irem hx hb hd (fun q => hy (by have q2 := (i_eq y 0).mp q; rw [q2]; rfl)) k1
  case i2l =>
    obtain ⟨rfl, h⟩ := if_inv h
    obtain ⟨z, r, rfl, h⟩ := sI_inv h
    obtain ⟨rfl, rfl, rfl, rfl⟩ := nx_inv h
    exact lv_i2l hx hb hd (i_l z) (k _ _ _ hP hS hl hM)
  case ladd =>
    obtain ⟨rfl, h⟩ := if_inv h
    obtain ⟨y, r, rfl, h⟩ := sL_inv h
    obtain ⟨x, r, rfl, h⟩ := sL_inv h
    obtain ⟨rfl, rfl, rfl, rfl⟩ := nx_inv h
    have k1 := k _ _ _ hP hS hl hM
    simp only [List.map_cons, tv_L, Int64.ofInt_add] at k1 ⊢
    exact lv_ladd hx hb hd k1
  case lmul =>
    obtain ⟨rfl, h⟩ := if_inv h
    obtain ⟨y, r, rfl, h⟩ := sL_inv h
    obtain ⟨x, r, rfl, h⟩ := sL_inv h
    obtain ⟨rfl, rfl, rfl, rfl⟩ := nx_inv h
    have k1 := k _ _ _ hP hS hl hM
    simp only [List.map_cons, tv_L, Int64.ofInt_mul] at k1 ⊢
    exact lv_lmul hx hb hd k1
  case lcmp =>
    obtain ⟨rfl, h⟩ := if_inv h
    obtain ⟨y, r, rfl, h⟩ := sL_inv h
    obtain ⟨x, r, rfl, h⟩ := sL_inv h
    obtain ⟨rfl, rfl, rfl, rfl⟩ := nx_inv h
    have k1 := k _ _ _ hP hS hl hM
    simp only [List.map_cons, tv_L, tv_I, ← i_cmp] at k1 ⊢
    exact W.lcmp hx hb hd k1
  case dup =>
    obtain ⟨rfl, h⟩ := if_inv h
    obtain ⟨v, r, rfl, h⟩ := sV_inv h
    obtain ⟨hc, h⟩ := if_inv h
    obtain ⟨rfl, rfl, rfl, rfl⟩ := nx_inv h
    exact lv_dup hx hb hd (by rw [tv_cat]; exact hc) (k _ _ _ hP hS hl hM)
  case pop =>
    obtain ⟨rfl, h⟩ := if_inv h
    obtain ⟨v, r, rfl, h⟩ := sV_inv h
    obtain ⟨hc, h⟩ := if_inv h
    obtain ⟨rfl, rfl, rfl, rfl⟩ := nx_inv h
    exact lv_pop hx hb hd (by rw [tv_cat]; exact hc) (k _ _ _ hP hS hl hM)
  case ifCond cc off =>
    obtain ⟨x, r, rfl, h⟩ := sI_inv h
    obtain ⟨rfl, ht, rfl, rfl, rfl, rfl⟩ := aBr_inv h
    have kt : cmpB cc (wI x) 0 = true → W p l e R s m args below meth c H locs cells slots Q (F0 m (jmp pc off) lj (List.map (tv (er_ad B b tB tF)) st')) := fun q => by
      have k1 := k _ _ _ hP hS hl hM
      rw [if_pos q] at k1
      exact k1
    have kf : ¬ cmpB cc (wI x) 0 = true → W p l e R s m args below meth c H locs cells slots Q (F0 m (pc + 3) lj (List.map (tv (er_ad B b tB tF)) st')) := fun q => by
      have k1 := k _ _ _ hP hS hl hM
      rw [if_neg q] at k1
      exact k1
    cases cc
    case eq => exact lv_if_eq hx hb hd ht (fun q => kt (decide_eq_true ((i_eq0 x).mp q))) (fun q => kf (fun z => q ((i_eq0 x).mpr (of_decide_eq_true z))))
    case ne => exact lv_if_ne hx hb hd ht (fun q => kt (decide_eq_true ((not_congr (i_eq0 x)).mp q))) (fun q => kf (fun z => absurd ((i_eq0 x).mp q) (of_decide_eq_true z)))
    case lt => exact lv_if_lt hx hb hd ht (fun q => kt (decide_eq_true ((i_lt0 x).mp q))) (fun q => kf (fun z => q ((i_lt0 x).mpr (of_decide_eq_true z))))
    case ge => exact lv_if_ge hx hb hd ht (fun q => kt (decide_eq_true ((i_ge0 x).mp q))) (fun q => kf (fun z => q ((i_ge0 x).mpr (of_decide_eq_true z))))
    case gt => exact lv_if_gt hx hb hd ht (fun q => kt (decide_eq_true ((i_gt0 x).mp q))) (fun q => kf (fun z => q ((i_gt0 x).mpr (of_decide_eq_true z))))
    case le => exact lv_if_le hx hb hd ht (fun q => kt (decide_eq_true ((i_le0 x).mp q))) (fun q => kf (fun z => q ((i_le0 x).mpr (of_decide_eq_true z))))
  case if_icmp cc off =>
    obtain ⟨y, r, rfl, h⟩ := sI_inv h
    obtain ⟨x, r, rfl, h⟩ := sI_inv h
    obtain ⟨rfl, ht, rfl, rfl, rfl, rfl⟩ := aBr_inv h
    have kt : cmpB cc (wI x) (wI y) = true → W p l e R s m args below meth c H locs cells slots Q (F0 m (jmp pc off) lj (List.map (tv (er_ad B b tB tF)) st')) := fun q => by
      have k1 := k _ _ _ hP hS hl hM
      rw [if_pos q] at k1
      exact k1
    have kf : ¬ cmpB cc (wI x) (wI y) = true → W p l e R s m args below meth c H locs cells slots Q (F0 m (pc + 3) lj (List.map (tv (er_ad B b tB tF)) st')) := fun q => by
      have k1 := k _ _ _ hP hS hl hM
      rw [if_neg q] at k1
      exact k1
    cases cc
    case eq => exact lv_icmp_eq hx hb hd ht (fun q => kt (decide_eq_true ((i_eq x y).mp q))) (fun q => kf (fun z => q ((i_eq x y).mpr (of_decide_eq_true z))))
    case ne => exact lv_icmp_ne hx hb hd ht (fun q => kt (decide_eq_true ((not_congr (i_eq x y)).mp q))) (fun q => kf (fun z => absurd ((i_eq x y).mp q) (of_decide_eq_true z)))
    case lt => exact lv_icmp_lt hx hb hd ht (fun q => kt (decide_eq_true ((i_lt x y).mp q))) (fun q => kf (fun z => q ((i_lt x y).mpr (of_decide_eq_true z))))
    case ge => exact lv_icmp_ge hx hb hd ht (fun q => kt (decide_eq_true ((i_le y x).mp q))) (fun q => kf (fun z => q ((i_le y x).mpr (of_decide_eq_true z))))
    case gt => exact lv_icmp_gt hx hb hd ht (fun q => kt (decide_eq_true ((i_lt y x).mp q))) (fun q => kf (fun z => q ((i_lt y x).mpr (of_decide_eq_true z))))
    case le => exact lv_icmp_le hx hb hd ht (fun q => kt (decide_eq_true ((i_le x y).mp q))) (fun q => kf (fun z => q ((i_le x y).mpr (of_decide_eq_true z))))
  case goto off =>
    obtain ⟨hc0, h1⟩ := if_inv h
    clear h
    obtain ⟨hlen, hj⟩ := hc0
    have h := h1
    clear h1
    subst hlen
    obtain ⟨rfl, rfl, rfl, rfl⟩ := nx_inv h
    exact lv_goto hx hb hd (jmp_eq hj) (k _ _ _ hP hS hl hM)
  case tableswitch dflt lo hi offs =>
    obtain ⟨z, rfl, rfl, rfl, ⟨h1, h2⟩ | ⟨h1, off, h2, h3⟩⟩ := aSwT_inv h
    · exact lv_tableOut hx hb hd (by rw [i_toInt]; exact h1) h2 (k _ _ _ hP hS hl hM)
    · exact lv_tableIn hx hb hd (by rw [i_toInt]; exact fun q => h1 (Or.inl q)) (by rw [i_toInt]; exact fun q => h1 (Or.inr q)) (by rw [i_toInt]; exact h2) h3 (k _ _ _ hP hS hl hM)
  case lookupswitch dflt ps =>
    obtain ⟨h1, z, rfl, rfl, rfl, h2⟩ := aSwL_inv h
    exact lv_lookup hx hb hd h1 (by rw [i_toInt]) h2 (k _ _ _ hP hS hl hM)
  case getstatic i =>
    obtain ⟨rfl, h⟩ := if_inv h
    obtain ⟨q, hq, h⟩ := oG_inv h
    obtain ⟨rfl, rfl, rfl, rfl⟩ := nx_inv h
    rcases w_sta hq with ⟨rfl, hw⟩ | ⟨rfl, hw⟩
    · exact va_getsN hx hb hZ1 hS hown (va_Nw.use rfl (hN _ hw)) (fun x h => h) hd (k _ _ _ hP hS hl hM)
    · exact va_gets hx hb hZ2 hS hown (hts _ hw) (fun x h => h) hd (k _ _ _ hP hS hl hM)
  case getfield f =>
    obtain ⟨rfl, h⟩ := if_inv h
    obtain ⟨q, hq, h⟩ := oG_inv h
    obtain ⟨kd, i, r, rfl, hok, h⟩ := sR_inv h
    obtain ⟨hkq, h⟩ := if_inv h
    obtain ⟨rfl, rfl, rfl, rfl⟩ := nx_inv h
    obtain ⟨hk4, hn, hw⟩ := er_flds_ok _ (er_find_mem hq)
    dsimp only at hk4 hn hw
    subst hkq
    have he := er_ws_at (ad := er_ad B b tB tF) (cI := cI) (cR := cR) (cW := cW) (M := M') (show q.1 < 9 by omega) hok
    rw [ent_obj _ _ _ _ _ _ hk4] at he
    rcases hw with hw | hw
    · exact va_get (C := cN q.1) hx hb hts (in_er hk4) hown hK hP _ he (er_cl_at hk4) q.2 hn (hts _ hw) (fun x h => h) (fs_at hn) hd (k _ _ _ hP hS hl hM)
    · exact va_getN (C := cN q.1) hx hb hts (in_er hk4) hown hK hP _ he (er_cl_at hk4) q.2 hn (va_Nw.use rfl (hN _ hw)) (fun x h => h) (fs_at hn) hd (k _ _ _ hP hS hl hM)
  case putfield f =>
    obtain ⟨rfl, h⟩ := if_inv h
    obtain ⟨q, hq, h⟩ := oG_inv h
    obtain ⟨z, r, rfl, h⟩ := sI_inv h
    obtain ⟨kd, i, r, rfl, hok, h⟩ := sR_inv h
    obtain ⟨hc0, h1⟩ := if_inv h
    clear h
    obtain ⟨hkq, hfi, hbo⟩ := hc0
    have h := h1
    clear h1
    obtain ⟨rfl, rfl, rfl, rfl⟩ := nx_inv h
    obtain ⟨hk4, hn, hw⟩ := er_flds_ok _ (er_find_mem hq)
    dsimp only at hk4 hn hw
    subst hkq
    have he := er_ws_at (ad := er_ad B b tB tF) (cI := cI) (cR := cR) (cW := cW) (M := M) (show q.1 < 9 by omega) hok
    rw [ent_obj _ _ _ _ _ _ hk4] at he
    obtain ⟨hfin, hty⟩ := fint_ok q.1 hk4 q.2 hn hfi
    have hnar : narrow (er_ty q.1 q.2) (.int (Int32.ofInt z)) = .int (Int32.ofInt z) ∧ fits (er_ty q.1 q.2) (.int (Int32.ofInt z)) = true := by
      rcases hty with h0 | ⟨h0, h1, h2⟩
      · rw [h0]; exact ⟨rfl, rfl⟩
      · rw [h0]
        rcases hbo ⟨h1, h2⟩ with rfl | rfl
        · exact ⟨rfl, rfl⟩
        · exact ⟨rfl, rfl⟩
    have hset := er_ws_set (ad := er_ad B b tB tF) (cI := cI) (cR := cR) (cW := cW) (M := M) (M' := aup M q.1 i q.2 z) (show q.1 < 9 by omega) hok (fun k' i' s hh => aup_out k' i' s hh)
    rw [ent_obj _ _ _ _ _ _ hk4, ← fs_set hfi] at hset
    rcases hw with hw | hw
    · refine va_put (C := cN q.1) hx hb hts (in_er hk4) (er_ty q.1) (er_ty_ok hk4) (er_nm hk4) hown hK hP hD hS _ he (er_cl_at hk4) q.2 hn (hts _ hw) (fun x h => h) hfin (er_ty_ok hk4 q.2 hn) hnar.1 hnar.2 (by simpa using hn) hd (fun H1 locs1 hP1 hD1 hS1 => ?_)
      rw [tv_I, hset] at hP1
      exact k _ _ _ hP1 hS1 hl (scrM_aup _ _ _ _ (by omega) hM)
    · refine va_putN (C := cN q.1) hx hb hts (in_er hk4) (er_ty q.1) (er_ty_ok hk4) (er_nm hk4) hown hK hP hD hS _ he (er_cl_at hk4) q.2 hn (va_Nw.use rfl (hN _ hw)) (fun x h => h) hfin (er_ty_ok hk4 q.2 hn) hnar.1 hnar.2 (by simpa using hn) hd (fun H1 locs1 hP1 hD1 hS1 => ?_)
      rw [tv_I, hset] at hP1
      exact k _ _ _ hP1 hS1 hl (scrM_aup _ _ _ _ (by omega) hM)
  case arraylength =>
    obtain ⟨rfl, h⟩ := if_inv h
    obtain ⟨kd, i, r, rfl, hok, h⟩ := sR_inv h
    obtain ⟨h4, h⟩ := if_inv h
    obtain ⟨rfl, rfl, rfl, rfl⟩ := nx_inv h
    have k1 := k _ _ _ hP hS hl hM
    have hq : kd = 4 ∨ kd = 5 ∨ kd = 6 ∨ kd = 7 ∨ kd = 8 ∨ kd = 9 ∨ kd = 10 ∨ kd = 11 := by
      unfold okH at hok
      split at hok <;> first | omega | cases hok
    rcases hq with rfl | rfl | rfl | rfl | rfl | rfl | rfl | rfl
    · exact va_alen hx hb hK hP _ 0 (er_ws_at (by omega) hok) rfl rfl hd k1
    · exact va_alen hx hb hK hP _ 0 (er_ws_at (by omega) hok) rfl rfl hd k1
    · exact va_alen hx hb hK hP _ 1 (er_ws_at (by omega) hok) rfl rfl hd k1
    · exact va_alen hx hb hK hP _ 1 (er_ws_at (by omega) hok) rfl rfl hd k1
    · exact va_alen hx hb hK hP _ 2 (er_ws_at (by omega) hok) rfl rfl hd k1
    · simp only [alen, hM.1, Int.toNat_natCast] at k1
      exact va_slen (b := b) hx hb hX (Nat.lt_of_lt_of_le hbB hBs) (Nat.not_le.mpr hbB) hS hd k1
    · exact va_tlen hx hb hT1 hS rfl hd k1
    · exact va_tlen hx hb hT2 hS rfl hd k1
  case iaload =>
    obtain ⟨rfl, h⟩ := if_inv h
    obtain ⟨j, r, rfl, h⟩ := sI_inv h
    obtain ⟨kd, i, r, rfl, hok, h⟩ := sR_inv h
    obtain ⟨hc0, h1⟩ := if_inv h
    clear h
    obtain ⟨h0, hj⟩ := hc0
    have h := h1
    clear h1
    obtain ⟨z, hz, h⟩ := oG_inv h
    obtain ⟨rfl, rfl, rfl, rfl⟩ := nx_inv h
    have k1 := k _ _ _ hP hS hl hM
    have hin := i_in h0 hj
    unfold aval at hz
    split at hz
    · cases hz
      rw [List.map_cons, tv_I, ← i_nat] at k1
      exact va_iald hx hb hK hP _ 0 (er_ws_at (by omega) hok) rfl hin hd k1
    · cases hz
      rw [List.map_cons, tv_I, ← i_nat] at k1
      exact va_iald hx hb hK hP _ 0 (er_ws_at (by omega) hok) rfl hin hd k1
    · cases hz
      have hl9 : alen 9 M' = L := by simp only [alen, hM.1, Int.toNat_natCast]
      rw [hl9] at hin hj
      rw [List.map_cons, tv_I, hM.2 _ (by omega), ← i_nat] at k1
      exact va_sld (b := b) hx hb hX (Nat.lt_of_lt_of_le hbB hBs) (Nat.not_le.mpr hbB) hS hin hd k1
    · cases hz
      exact va_ti hx hb hT1 hS hin (by rw [i_nat]; rfl) hd k1
    · cases hz
      exact va_ti hx hb hT2 hS hin (by rw [i_nat]; rfl) hd k1
    · cases hz
  case iastore =>
    obtain ⟨rfl, h⟩ := if_inv h
    obtain ⟨z, r, rfl, h⟩ := sI_inv h
    obtain ⟨j, r, rfl, h⟩ := sI_inv h
    obtain ⟨kd, i, r, rfl, hok, h⟩ := sR_inv h
    obtain ⟨hc0, h1⟩ := if_inv h
    clear h
    obtain ⟨h0, hj, h45⟩ := hc0
    have h := h1
    clear h1
    obtain ⟨rfl, rfl, rfl, rfl⟩ := nx_inv h
    have hin := i_in h0 hj
    have hset := er_ws_set (ad := er_ad B b tB tF) (cI := cI) (cR := cR) (cW := cW) (M := M) (M' := aup M kd i (wI j).toNat z) (show kd < 9 by omega) hok (fun k' i' s hh => aup_out k' i' s hh)
    have hup : ∀ q : Nat, (fun x : Nat => Int32.ofInt (aup M kd i (wI j).toNat z kd i x)) q = upd (fun x : Nat => Int32.ofInt (M kd i x)) (Int32.ofInt j).toNatClampNeg (Int32.ofInt z) q := by
      intro q
      rw [i_nat]
      unfold upd aup
      by_cases hq : q = (wI j).toNat
      · simp [hq]
      · simp [hq]
    have hup := funext hup
    rcases h45 with rfl | rfl
    · refine va_iast hx hb hK hP hD hS _ 0 (er_ws_at (by omega) hok) rfl hin hd (fun H1 locs1 hP1 hD1 hS1 => ?_)
      rw [← hup] at hP1
      exact k _ _ _ (by rw [← hset]; exact hP1) hS1 hl (scrM_aup _ _ _ _ (by omega) hM)
    · refine va_iast hx hb hK hP hD hS _ 0 (er_ws_at (by omega) hok) rfl hin hd (fun H1 locs1 hP1 hD1 hS1 => ?_)
      rw [← hup] at hP1
      exact k _ _ _ (by rw [← hset]; exact hP1) hS1 hl (scrM_aup _ _ _ _ (by omega) hM)
  case aaload =>
    obtain ⟨rfl, h⟩ := if_inv h
    obtain ⟨j, r, rfl, h⟩ := sI_inv h
    obtain ⟨kd, i, r, rfl, hok, h⟩ := sR_inv h
    obtain ⟨hc0, h1⟩ := if_inv h
    clear h
    obtain ⟨h0, hj⟩ := hc0
    have h := h1
    clear h1
    obtain ⟨q, hq, h⟩ := oG_inv h
    obtain ⟨rfl, rfl, rfl, rfl⟩ := nx_inv h
    have k1 := k _ _ _ hP hS hl hM
    have hin := i_in h0 hj
    have hkd : kd = 6 ∨ kd = 7 ∨ kd = 8 := by
      unfold aref at hq
      split at hq <;> first | omega | cases hq
    have hrf : tv (er_ad B b tB tF) (vR q.1 q.2) = va_rf ((aref kd i (Int32.ofInt j).toNatClampNeg).map (fun q => er_ad B b tB tF q.1 q.2)) := by
      rw [i_nat, hq]
      rfl
    rw [List.map_cons, hrf] at k1
    rcases hkd with rfl | rfl | rfl
    · exact va_aldq hx hb hK hP _ 1 (er_ws_at (by omega) hok) rfl hin hd k1
    · exact va_aldq hx hb hK hP _ 1 (er_ws_at (by omega) hok) rfl hin hd k1
    · exact va_aldq hx hb hK hP _ 2 (er_ws_at (by omega) hok) rfl hin hd k1
  case invokevirtual i =>
    obtain ⟨Z, hZ, h⟩ := oG_inv h
    obtain ⟨hc, h⟩ := if_inv h
    obtain ⟨kd, j, r, h3, hok, h⟩ := sR_inv h
    obtain ⟨hc2, h⟩ := if_inv h
    obtain ⟨hc3, h⟩ := if_inv h
    cases h
  case invokestatic i =>
    simp only [ex1] at h
    cases hbb : bltT (mtK Y) i with
    | none =>
      rw [hbb] at h
      obtain ⟨Z, hZ, h⟩ := oG_inv h
      obtain ⟨hc, h⟩ := if_inv h
      obtain ⟨hc3, h⟩ := if_inv h
      cases h
    | some bb =>
      rw [hbb] at h
      have hsz := hl.2.1
      obtain ⟨rfl, hsum, rfl, rfl, hh⟩ := aBlt_inv h
      have hs2 : ∀ r : List AV, ((r.map (tv (er_ad B b tB tF))).map fun v => v.category).sum = (r.map acat).sum := by
        intro r
        rw [List.map_map]
        congr 1
        exact List.map_congr_left (fun v _ => tv_cat _ v)
      rcases hh with ⟨rfl, x, y, r, rfl, rfl, rfl⟩ | ⟨rfl, x, y, r, rfl, rfl, rfl⟩ | ⟨hb0, hb1, n, kd, i1, j1, rfl, o1, o2, hk, hn, hln, rfl⟩
      · have hw : Cond.methodLink (cN (mtK Y)) i Lib.Math.max.name ∈ er_G := by rcases w_blt hbb with h1 | h1 | h1 <;> first | exact h1.2 | exact absurd h1.1 (by decide)
        have k1 := k _ _ _ hP hS hl hM
        have e1 : tv (er_ad B b tB tF) (vI (if wI x < wI y then y else x)) = .int (if Int32.ofInt x < Int32.ofInt y then Int32.ofInt y else Int32.ofInt x) := by
          rw [tv_I]
          by_cases q : wI x < wI y
          · rw [if_pos q, if_pos ((i_lt x y).mpr q)]
          · rw [if_neg q, if_neg (fun z => q ((i_lt x y).mp z))]
        rw [List.map_cons, e1] at k1
        simp only [List.map_cons, List.sum_cons] at hsum
        exact va_mmax hx hb (by rw [hml, hsz]) hown (hts _ hw) (hts _ w_max.1) (hts _ w_max.2.1) (hts _ w_max.2.2) hfr (by rw [hs2]; omega) hcl hsl hd k1
      · have hw : Cond.methodLink (cN (mtK Y)) i Lib.Math.min.name ∈ er_G := by rcases w_blt hbb with h1 | h1 | h1 <;> first | exact h1.2 | exact absurd h1.1 (by decide)
        have k1 := k _ _ _ hP hS hl hM
        have e1 : tv (er_ad B b tB tF) (vI (if wI y < wI x then y else x)) = .int (if Int32.ofInt y < Int32.ofInt x then Int32.ofInt y else Int32.ofInt x) := by
          rw [tv_I]
          by_cases q : wI y < wI x
          · rw [if_pos q, if_pos ((i_lt y x).mpr q)]
          · rw [if_neg q, if_neg (fun z => q ((i_lt y x).mp z))]
        rw [List.map_cons, e1] at k1
        simp only [List.map_cons, List.sum_cons] at hsum
        exact va_mmin hx hb (by rw [hml, hsz]) hown (hts _ hw) (hts _ w_min.1) (hts _ w_max.2.1) (hts _ w_min.2) hfr (by rw [hs2]; omega) hcl hsl hd k1
      · have hw : Cond.methodLink (cN (mtK Y)) i arraycopyName ∈ er_G := by rcases w_blt hbb with h1 | h1 | h1 <;> first | exact h1.2 | exact absurd h1.1 hb0 | exact absurd h1.1 hb1
        have hset := er_ws_set (ad := er_ad B b tB tF) (cI := cI) (cR := cR) (cW := cW) (M := M) (M' := acopy M kd i1 j1 n.toNat) (show kd < 9 by omega) o1 (fun k' i' s hh => acopy_out k' i' s hh)
        have n0 : Int32.toNatClampNeg (Int32.ofInt 0) = 0 := rfl
        have hal : alen kd M ≤ 512 := by rcases hk with rfl | rfl <;> simp [alen]
        have nn : Int32.toNatClampNeg (Int32.ofInt n) = n.toNat := by rw [i_nat, wI_eq (by omega) (by omega)]
        have hup : ∀ q : Nat, (fun x : Nat => Int32.ofInt (acopy M kd i1 j1 n.toNat kd j1 x)) q = va_cpy (fun x : Nat => Int32.ofInt (M kd i1 x)) (fun x : Nat => Int32.ofInt (M kd j1 x)) (Int32.ofInt 0).toNatClampNeg (Int32.ofInt 0).toNatClampNeg (Int32.ofInt n).toNatClampNeg q := by
          intro q
          rw [n0, nn]
          unfold va_cpy acopy
          by_cases hq : q < n.toNat
          · simp [hq]
          · simp [hq]
        have hup := funext hup
        simp only [List.map_cons, List.sum_cons] at hsum
        have hnw : nativeFrameWords "java/lang/System" "arraycopy" 5 + 11 ≤ 30 := by decide +kernel
        have hneg : ¬ Int32.ofInt n < 0 := fun q => by
          have q2 := (i_lt n 0).mp q
          rw [wI_eq (by omega) (by omega), show wI 0 = 0 from rfl] at q2
          omega
        rcases hk with rfl | rfl
        · refine va_copyi hx hb (by rw [hml, hsz]) hown (hts _ hw) (hts _ w_cpy.1) (hts _ w_cpy.2.1) (hts _ w_cpy.2.2) hK hP hD hS _ _ 0 0 (er_ws_at (by omega) o2) (er_ws_at (by omega) o1) rfl rfl rfl (by decide) (by decide) hneg (by rw [n0, nn]; simp only [alen] at hln; omega) (by rw [n0, nn]; simp only [alen] at hln; omega) (fun _ _ => rfl) hfr (by rw [hs2]; omega) hd (fun H1 locs1 hP1 hD1 hS1 => ?_)
          rw [← hup] at hP1
          exact k _ _ _ (by rw [← hset]; exact hP1) hS1 hl (scrM_acopy _ _ _ _ (by omega) hM)
        · refine va_copyi hx hb (by rw [hml, hsz]) hown (hts _ hw) (hts _ w_cpy.1) (hts _ w_cpy.2.1) (hts _ w_cpy.2.2) hK hP hD hS _ _ 0 0 (er_ws_at (by omega) o2) (er_ws_at (by omega) o1) rfl rfl rfl (by decide) (by decide) hneg (by rw [n0, nn]; simp only [alen] at hln; omega) (by rw [n0, nn]; simp only [alen] at hln; omega) (fun _ _ => rfl) hfr (by rw [hs2]; omega) hd (fun H1 locs1 hP1 hD1 hS1 => ?_)
          rw [← hup] at hP1
          exact k _ _ _ (by rw [← hset]; exact hP1) hS1 hl (scrM_acopy _ _ _ _ (by omega) hM)
  case ireturn =>
    obtain ⟨hc, h⟩ := if_inv h
    obtain ⟨z, r, h3, h⟩ := sI_inv h
    obtain ⟨hc2, h⟩ := if_inv h
    cases h
  case lreturn =>
    obtain ⟨hc, h⟩ := if_inv h
    obtain ⟨z, r, h3, h⟩ := sL_inv h
    obtain ⟨hc2, h⟩ := if_inv h
    cases h
  case areturn =>
    obtain ⟨hc, h⟩ := if_inv h
    obtain ⟨kd, i, r, h3, h⟩ := sA_inv h
    obtain ⟨hc2, h⟩ := if_inv h
    cases h
  case return_ =>
    obtain ⟨hc, h⟩ := if_inv h
    cases h
  all_goals (simp [ex1] at h)
end SIM
end
section
set_option maxHeartbeats 4000000 in
set_option maxRecDepth 100000 in
/-- which instructions call -/
theorem ex1_call {Y Z : MT} {ins : ClassFile.Instr} {len pc : Nat} {ls : ALs} {st as r : List AV} {M : AMem} (h : ex1 Y ins len pc ls st M = some (.inr (.inl (Z, as, r)))) :
    len = 3 ∧ (r.map acat).sum ≤ 8 ∧ (as.map acat).sum = as.length ∧ as.length ≤ mtL Z ∧ ((∃ i k j ps, ins = .invokevirtual i ∧ mthT (mtK Y) i = some Z ∧ mtS Z = false ∧ as = vR k j :: ps ∧ ps.length = mtA Z ∧ st = ps.reverse ++ vR k j :: r ∧ okH k j = true ∧ k = mtK Z) ∨
      (∃ i, ins = .invokestatic i ∧ mthT (mtK Y) i = some Z ∧ mtS Z = true ∧ as.length = mtA Z ∧ st = as.reverse ++ r)) := by
  cases ins
  case invokevirtual i =>
    obtain ⟨Z', hZ, h⟩ := oG_inv h
    obtain ⟨hc, h⟩ := if_inv h
    obtain ⟨kd, j, r', h3, hok, h⟩ := sR_inv h
    obtain ⟨hc2, h⟩ := if_inv h
    obtain ⟨hc3, h⟩ := if_inv h
    simp only [Option.some.injEq, Sum.inr.injEq, Sum.inl.injEq, Prod.mk.injEq] at h
    obtain ⟨rfl, rfl, rfl⟩ := h
    refine ⟨hc3.1, hc3.2.1, hc3.2.2.1, hc3.2.2.2, Or.inl ⟨i, kd, j, (st.take (mtA Z')).reverse, rfl, hZ, hc.1, rfl, ?_, ?_, hok, hc2⟩⟩
    · rw [List.length_reverse, List.length_take]; omega
    · rw [List.reverse_reverse, ← h3, List.take_append_drop]
  case invokestatic i =>
    simp only [ex1] at h
    cases hbb : bltT (mtK Y) i with
    | none =>
      rw [hbb] at h
      obtain ⟨Z', hZ, h⟩ := oG_inv h
      obtain ⟨hc, h⟩ := if_inv h
      obtain ⟨hc3, h⟩ := if_inv h
      simp only [Option.some.injEq, Sum.inr.injEq, Sum.inl.injEq, Prod.mk.injEq] at h
      obtain ⟨rfl, rfl, rfl⟩ := h
      refine ⟨hc3.1, hc3.2.1, hc3.2.2.1, hc3.2.2.2, Or.inr ⟨i, rfl, hZ, hc.1, ?_, ?_⟩⟩
      · rw [List.length_reverse, List.length_take]; omega
      · rw [List.reverse_reverse, List.take_append_drop]
    | some bb =>
      rw [hbb] at h
      exfalso
      simp only [aBlt, sI, sR, nx] at h
      repeat' split at h
      all_goals cases h
  all_goals (exfalso; simp only [ex1, aPush, aLoadI, aLoadL, aLoadA, aStoreI, aStoreA, aStoreL, aBin, aDiv, aBr, aSwT, aSwL, nx, sI, sL, sR, sA, sV, gL, oG] at h)
  all_goals (repeat' split at h)
  all_goals (cases h)
/-- where a walk ends -/
def retAt (Y : MT) (v : Option AV) (pc : Nat) : Prop :=
  (v = none ∧ decode (mtC Y) pc = .ok (.return_, 1) ∧ mtR Y = none) ∨
  (∃ z, v = some (vI z) ∧ decode (mtC Y) pc = .ok (.ireturn, 1) ∧ (mtR Y = some .int ∨ (mtR Y = some .boolean ∧ (z = 0 ∨ z = 1)))) ∨
  (∃ z, v = some (vL z) ∧ decode (mtC Y) pc = .ok (.lreturn, 1) ∧ mtR Y = some .long) ∨
  (∃ k i, v = some (vR k i) ∧ decode (mtC Y) pc = .ok (.areturn, 1) ∧ (mtR Y = some (.object "Endlessrows$Row") ∨ mtR Y = some (.object "Endlessrows$Well")))
set_option maxHeartbeats 4000000 in
set_option maxRecDepth 100000 in
/-- which instructions end -/
theorem ex1_ret {Y : MT} {ins : ClassFile.Instr} {len pc : Nat} {ls : ALs} {st : List AV} {M : AMem} {v : Option AV} (hd : decode (mtC Y) pc = .ok (ins, len)) (h : ex1 Y ins len pc ls st M = some (.inr (.inr v))) : retAt Y v pc ∧ st = v.toList := by
  cases ins
  case ireturn =>
    obtain ⟨hc, h⟩ := if_inv h
    obtain ⟨z, r, h3, h⟩ := sI_inv h
    obtain ⟨hc2, h⟩ := if_inv h
    simp only [Option.some.injEq, Sum.inr.injEq] at h
    subst h
    subst hc
    exact ⟨Or.inr (Or.inl ⟨z, rfl, hd, hc2.2⟩), by rw [h3, hc2.1]; rfl⟩
  case lreturn =>
    obtain ⟨hc, h⟩ := if_inv h
    obtain ⟨z, r, h3, h⟩ := sL_inv h
    obtain ⟨hc2, h⟩ := if_inv h
    simp only [Option.some.injEq, Sum.inr.injEq] at h
    subst h
    subst hc
    exact ⟨Or.inr (Or.inr (Or.inl ⟨z, rfl, hd, hc2.2⟩)), by rw [h3, hc2.1]; rfl⟩
  case areturn =>
    obtain ⟨hc, h⟩ := if_inv h
    obtain ⟨k, i, r, h3, h⟩ := sA_inv h
    obtain ⟨hc2, h⟩ := if_inv h
    simp only [Option.some.injEq, Sum.inr.injEq] at h
    subst h
    subst hc
    exact ⟨Or.inr (Or.inr (Or.inr ⟨k, i, rfl, hd, hc2.2⟩)), by rw [h3, hc2.1]; rfl⟩
  case return_ =>
    obtain ⟨hc, h⟩ := if_inv h
    simp only [Option.some.injEq, Sum.inr.injEq] at h
    subst h
    obtain ⟨h1, h2, h3⟩ := hc
    subst h1
    exact ⟨Or.inl ⟨rfl, hd, h3⟩, h2⟩
  all_goals (exfalso; simp only [ex1, aPush, aLoadI, aLoadL, aLoadA, aStoreI, aStoreA, aStoreL, aBin, aDiv, aBr, aSwT, aSwL, nx, sI, sL, sR, sA, sV, gL, oG, aBlt, aVirt, aStat, aCall] at h)
  all_goals (repeat' split at h)
  all_goals (cases h)
section SIM
variable {p : Program} {l : Launch} {e : Env} {R : Room} {s : State} {m : MethodId} {args : Array Value} {below : List Frame} {meth : Method} {c : Code} {H : Heap} {locs : List Loc} {cells slots : Nat} {Q : State → Prop}
variable {D : va_G} {cI cR cW : ClassId} {B b L tB tF : Nat} {xs : Nat → Int32}
/-- a call's end -/
def er_Q (D : va_G) (cI cR cW : ClassId) (B b L tB tF : Nat) (xs : Nat → Int32) (v : Option AV) (M1 : AMem) : Array Value → State → Outcome → State → Prop := fun _ st oc t =>
  oc = .returned (v.map (tv (er_ad B b tB tF))) ∧ va_P D er_cl (er_ws (er_ad B b tB tF) cI cR cW M1) t.heap ∧ scrM L xs M1 ∧ va_F (fun q => B ≤ q) st t
/-- a call's start -/
def er_P (D : va_G) (cI cR cW : ClassId) (B b L tB tF : Nat) (xs : Nat → Int32) (as : List AV) (M : AMem) : Array Value → State → Prop :=
  va_Pc (as.map (tv (er_ad B b tB tF))) (fun U => er_S D cI cR cW B b L tB tF xs U ∧ va_P D er_cl (er_ws (er_ad B b tB tF) cI cR cW M) U.heap)
def er_w (Y : MT) : List Cond := Cond.code (mtN Y) (mtC Y) (mtL Y) (mtR Y) :: er_G
def er_R (d : Nat) : Room := { frames := d + 1, cells := 0, slots := 0, locals := 40 * d + 400 }
theorem er_P_blind {as : List AV} {M : AMem} : FrameBlind (er_P D cI cR cW B b L tB tF xs as M) := by
  intro a U g mk h
  obtain ⟨h1, h2, h3⟩ := h
  exact ⟨h1, er_S_calling g mk a h2, h3⟩
theorem er_call {pc : Nat} {lj : Array Slot} {rest st0 : List Value} {a : Array Value} {v : Option AV} {M1 : AMem}
    (hr : va_Run p l e R s m args below meth c H locs cells slots 0 0 (F0 m pc lj st0) rest (er_Q D cI cR cW B b L tB tF xs v M1 a) (fun q => B ≤ q)) (hS : va_S (fun q => B ≤ q) s.heap H locs)
    (kk : ∀ (H1 : Heap) (locs1 : List Loc), va_P D er_cl (er_ws (er_ad B b tB tF) cI cR cW M1) H1 → scrM L xs M1 → va_S (fun q => B ≤ q) s.heap H1 locs1 → W p l e R s m args below meth c H1 locs1 cells slots Q (F0 m (pc + 3) lj ((v.map (tv (er_ad B b tB tF))).toList ++ rest))) : W p l e R s m args below meth c H locs cells slots Q (F0 m pc lj st0) := by
  intro T hT X
  obtain ⟨w, st₀, t, T', L', h0, X', hL, e1, e2, ⟨hv, hP, hM, hz, hk⟩, st⟩ := hr T hT X
  simp only [Outcome.returned.injEq] at hv
  subst hv
  rw [h0] at hz hk
  obtain ⟨t2, a1, b1⟩ := kk T'.heap (locs ++ L') (by rw [e1]; exact hP) hM ⟨Nat.le_trans hS.1 (by rw [e1]; exact hz), fun q h1 h2 => by rw [e1, hk q (Nat.lt_of_lt_of_le h1 hS.1) h2]; exact hS.2.1 q h1 h2, fun q hq => by
      rcases List.mem_append.mp hq with h | h
      · exact hS.2.2 q h
      · exact hL q h⟩ T' rfl X'
  exact ⟨t2, st t2 a1, b1⟩
/-- from here the machine comes to the same end -/
def SimOK (l : Launch) (D : va_G) (cI cR cW : ClassId) (B b L tB tF : Nat) (xs : Nat → Int32) (d : Nat) (Y : MT) (pc : Nat) (ls : ALs) (st : List AV) (M : AMem) (v : Option AV) (M1 : AMem) : Prop :=
  ∀ (p : Program) (e : Env) (R : Room) (s : State) (m : MethodId) (args : Array Value) (below : List Frame) (meth : Method) (c : Code) (H : Heap) (locs : List Loc) (cells slots : Nat) (Q : State → Prop) (lj : Array Slot),
    er_C D cI cR cW B b L tB tF xs Y p R s m args meth c cells slots → d + 1 ≤ R.frames → 40 * d + 400 ≤ R.locals →
    va_P D er_cl (er_ws (er_ad B b tB tF) cI cR cW M) H → va_S (fun q => B ≤ q) s.heap H locs → lsR (er_ad B b tB tF) ls (mtL Y) lj → scrM L xs M →
    (∀ (pc' : Nat) (lj' : Array Slot) (H' : Heap) (locs' : List Loc), retAt Y v pc' → va_P D er_cl (er_ws (er_ad B b tB tF) cI cR cW M1) H' → va_S (fun q => B ≤ q) s.heap H' locs' → scrM L xs M1 → W p l e R s m args below meth c H' locs' cells slots Q (F0 m pc' lj' (v.toList.map (tv (er_ad B b tB tF))))) →
    W p l e R s m args below meth c H locs cells slots Q (F0 m pc lj (st.map (tv (er_ad B b tB tF))))
set_option maxHeartbeats 4000000 in
theorem met_of {d : Nat} {Z : MT} {as : List AV} {M M1 : AMem} {v : Option AV} (hZ : mtOK Z) (hc : ∀ x ∈ as, acat x = 1) (hn : as.length ≤ mtL Z) (hM : scrM L xs M) (h : SimOK l D cI cR cW B b L tB tF xs d Z 0 (lini Z as) [] M v M1) :
    Met l (mtN Z) (er_w Z) (er_R d) (er_P D cI cR cW B b L tB tF xs as M) (er_Q D cI cR cW B b L tB tF xs v M1) 0 0 (fun q => B ≤ q) := by
  refine Met.ofW (cc := mtC Z) (maxL := mtL Z) (ret := mtR Z) hZ.2.2.2.1 rfl ?_
  intro p e s m args below meth c s₁ BB hml hv
  obtain ⟨rfl, hS0, hP⟩ := hv
  have hts := atoms_spec (ws := er_w Z) BB.pre
  have hown : s.vm.findClass (mtN Z).cls = some m.cls := findClass_of_methodNamed BB.named
  rw [hZ.2.2.1] at hown
  rw [lg_entry_eq]
  have hlocks := BB.notSynchronized
  have hr := BB.returns
  have hx := BB.exec
  have hb := BB.bytes
  refine h p e (er_R d) s m _ below meth c s.heap [] 0 0 _ _ ⟨hx, hb, hr, hml, hown, fun w hw => hts w (List.mem_cons_of_mem _ hw), hS0, Nat.le_refl 0, Nat.le_refl 0, by show 1 ≤ d + 1; omega, by show 400 ≤ 40 * d + 400; omega⟩ (Nat.le_refl _) (Nat.le_refl _) hP va_S.rf (lsR_ini Z as hc hn) hM ?_
  intro pc' lj' H' locs' hra hP' hS' hM'
  have hq : ∀ t : State, t.heap = H' → s.WarmedH t.vm → er_Q D cI cR cW B b L tB tF xs v M1 (as.map (tv (er_ad B b tB tF))).toArray s (.returned (v.map (tv (er_ad B b tB tF)))) t := fun t ht _ => ⟨rfl, by rw [ht]; exact hP', hM', hS'.F ht⟩
  rcases hra with ⟨rfl, hd, hret⟩ | ⟨z, rfl, hd, hret | ⟨hret, hz⟩⟩ | ⟨z, rfl, hd, hret⟩ | ⟨k, i, rfl, hd, hret⟩
  · exact W.vret hx hb (hr.trans hret) hq hS'.2.2 hd
  · exact W.iret hx hb (hr.trans hret) hq hS'.2.2 hd
  · exact W.zret hx hb (hr.trans hret) (by rcases hz with rfl | rfl <;> rfl) hq hS'.2.2 hd
  · exact W.lret hx hb (hr.trans hret) hq hS'.2.2 hd
  · rcases hret with hret | hret
    · exact W.aret hx hb (hr.trans hret) (Or.inl ⟨_, rfl⟩) (Or.inr ⟨_, rfl⟩) hq hS'.2.2 hd
    · exact W.aret hx hb (hr.trans hret) (Or.inl ⟨_, rfl⟩) (Or.inr ⟨_, rfl⟩) hq hS'.2.2 hd
end SIM
end
section
theorem mthT_ok {c i : Nat} {Z : MT} (h : mthT c i = some Z) : Cond.methodLink (cN c) i (mtN Z) ∈ er_G ∧ mtOK Z := er_calls_ok _ (er_find_mem h)
theorem er_good_in (Y : MT) (h : Cond.code (mtN Y) (mtC Y) (mtL Y) (mtR Y) ∈ er_G) : GoodIn er_G (er_w Y) := fun w hw => by
  have h1 : w ∈ er_G := by
    rcases List.mem_cons.mp hw with rfl | h1
    · exact h
    · exact h1
  exact ⟨h1, good_of_word (er_good w h1)⟩
set_option maxRecDepth 20000 in
theorem room_ar {a d x : Nat} (h : a ≤ 13) (h2 : 40 * (d + 1) + 400 ≤ x) : 8 + (a + 11) + (40 * d + 400) ≤ x := by omega
theorem er_good_1 {w : Cond} (h : w ∈ er_G) : w ∈ er_G ∧ ((w.onTables && w.keeps) = true ∨ ∃ ty, w = .arrayClass ty) := ⟨h, good_of_word (er_good w h)⟩
theorem acat_le {as : List AV} (h : (as.map acat).sum = as.length) : ∀ x ∈ as, acat x = 1 := by
  induction as with
  | nil => intro x hx; cases hx
  | cons v r ih =>
    have hv : 1 ≤ acat v := by rcases v with z | z | ⟨k, i⟩ <;> simp [acat]
    have hr : ∀ r : List AV, r.length ≤ (r.map acat).sum := by
      intro r
      induction r with
      | nil => simp
      | cons w r ih =>
        have hw : 1 ≤ acat w := by rcases w with z | z | ⟨k, i⟩ <;> simp [acat]
        simp only [List.map_cons, List.sum_cons, List.length_cons]
        omega
    have h2 := hr r
    simp only [List.map_cons, List.sum_cons, List.length_cons] at h
    intro x hx
    rcases List.mem_cons.mp hx with rfl | hx
    · omega
    · exact ih (by omega) x hx
section SIM
variable {D : va_G} {cI cR cW : ClassId} {B b L tB tF : Nat} {xs : Nat → Int32}
set_option maxHeartbeats 4000000 in
theorem sim (l : Launch) : ∀ (n d : Nat) (Y : MT) (pc : Nat) (ls : ALs) (st : List AV) (M : AMem) (v : Option AV) (M1 : AMem), run n d Y pc ls st M = some (v, M1) → SimOK l D cI cR cW B b L tB tF xs d Y pc ls st M v M1 := by
  intro n
  induction n with
  | zero => intro d Y pc ls st M v M1 h; simp [run] at h
  | succ n ih =>
    intro d Y pc ls st M v M1 h
    unfold run at h
    cases hd : decode (mtC Y) pc with
    | error er => rw [hd] at h; cases h
    | ok q =>
      obtain ⟨ins, len⟩ := q
      rw [hd] at h
      dsimp only at h
      cases hx1 : ex1 Y ins len pc ls st M with
      | none => rw [hx1] at h; cases h
      | some R1 =>
        rw [hx1] at h
        rcases R1 with ⟨pc', ls', st', M'⟩ | ⟨Z, as, r⟩ | w
        · -- a step
          dsimp only at h
          intro p e R s m args below meth c H locs cells slots Q lj C0 hR1 hR2 hP hS hl hM hE
          exact step_next C0 hd hx1 hP hS hl hM (fun H' locs' lj' hP' hS' hl' hM' => ih d Y pc' ls' st' M' v M1 h p e R s m args below meth c H' locs' cells slots Q lj' C0 hR1 hR2 hP' hS' hl' hM' hE)
        · -- a call
          dsimp only at h
          cases d with
          | zero => cases h
          | succ d' =>
            dsimp only at h
            cases hz : run n d' Z 0 (lini Z as) [] M with
            | none => rw [hz] at h; cases h
            | some q =>
              obtain ⟨w, M2⟩ := q
              rw [hz] at h
              dsimp only at h
              intro p e R s m args below meth c H locs cells slots Q lj C0 hR1 hR2 hP hS hl hM hE
              obtain ⟨hlen, hsum, hcat, hasl, hk⟩ := ex1_call hx1
              subst hlen
              have hC := C0
              obtain ⟨hx, hb, hr, hml, hown, hts, hS0, hcl, hsl, hfr, hlo⟩ := hC
              have hmt : mtOK Z ∧ ∃ i, Cond.methodLink (cN (mtK Y)) i (mtN Z) ∈ er_G ∧ ((ins = .invokevirtual i ∧ mtS Z = false ∧ ∃ k j ps, as = vR k j :: ps ∧ ps.length = mtA Z ∧ st = ps.reverse ++ vR k j :: r ∧ okH k j = true ∧ k = mtK Z) ∨ (ins = .invokestatic i ∧ mtS Z = true ∧ as.length = mtA Z ∧ st = as.reverse ++ r)) := by
                rcases hk with ⟨i, k, j, ps, h1, h2, h3, h4, h5, h6, h7, h8⟩ | ⟨i, h1, h2, h3, h4, h5⟩
                · exact ⟨(mthT_ok h2).2, i, (mthT_ok h2).1, Or.inl ⟨h1, h3, k, j, ps, h4, h5, h6, h7, h8⟩⟩
                · exact ⟨(mthT_ok h2).2, i, (mthT_ok h2).1, Or.inr ⟨h1, h3, h4, h5⟩⟩
              obtain ⟨hZ, i, hlk, hk⟩ := hmt
              have hZ0 := hZ
              obtain ⟨z1, z2, z3, z4, z5, z6, z7⟩ := hZ
              have hM1 : Met l (mtN Z) (er_w Z) (er_R d') (er_P D cI cR cW B b L tB tF xs as M) (er_Q D cI cR cW B b L tB tF xs w M2) 0 0 (fun q => B ≤ q) := met_of hZ0 (acat_le hcat) hasl hM (ih d' Z 0 (lini Z as) [] M w M2 hz)
              have hroom : (er_R d').frames + 1 ≤ R.frames ∧ 8 + (mtL Z + 11) + (er_R d').locals ≤ R.locals := by
                constructor
                · show d' + 1 + 1 ≤ R.frames
                  omega
                · exact room_ar z6 hR2
              have hs2 : ((r.map (tv (er_ad B b tB tF))).map fun v => v.category).sum = (r.map acat).sum := by
                rw [List.map_map]
                congr 1
                exact List.map_congr_left (fun v _ => tv_cat _ v)
              have hPc : ∀ U : State, U.heap = H → s.WarmedH U.vm → er_P D cI cR cW B b L tB tF xs as M (as.map (tv (er_ad B b tB tF))).toArray U := fun U hU hW => ⟨rfl, er_S_moved hS0 hW (by rw [hU]; exact hS.1) (fun q h1 h2 => by rw [hU]; exact hS.2.1 q h1 h2), by rw [hU]; exact hP⟩
              have hgo : ∀ (H1 : Heap) (locs1 : List Loc), va_P D er_cl (er_ws (er_ad B b tB tF) cI cR cW M2) H1 → scrM L xs M2 → va_S (fun q => B ≤ q) s.heap H1 locs1 → W p l e R s m args below meth c H1 locs1 cells slots Q (F0 m (pc + 3) lj ((w.map (tv (er_ad B b tB tF))).toList ++ r.map (tv (er_ad B b tB tF)))) := by
                intro H1 locs1 hP1 hM2 hS1
                have h9 := ih (d' + 1) Y (pc + 3) ls (w.toList ++ r) M2 v M1 h p e R s m args below meth c H1 locs1 cells slots Q lj C0 hR1 hR2 hP1 hS1 hl hM2 hE
                rw [List.map_append] at h9
                cases w with
                | none => exact h9
                | some w => exact h9
              rcases hk with ⟨h1, h3, k, j, ps, h4, h5, h6, h7, h8⟩ | ⟨h1, h3, h4, h5⟩
              · subst h1
                rw [h3] at z7
                simp only [Bool.false_eq_true, if_false] at z7
                obtain ⟨z7, z8, z9⟩ := z7
                subst h8
                subst h4
                have he := er_ws_at (ad := er_ad B b tB tF) (cI := cI) (cR := cR) (cW := cW) (M := M) (show mtK Z < 9 by omega) h7
                rw [ent_obj _ _ _ _ _ _ z9] at he
                have hK := hS0.2.1
                have hrec := va_recv hK hP (er_cl_at z9) he
                refine er_call (va_runV (As := ps.map (tv (er_ad B b tB tF))) (b := er_ad B b tB tF (mtK Z) j) (C := (mtN Z).cls) (n := mtA Z) (index := i) ⟨hx, hb, hml, hown, hts⟩ hM1
                  ⟨⟨rfl, rfl, hroom.1, hroom.2, pay_in hts (er_good_in Z z1), List.mem_cons_self, hts _ z1, hts _ z2, ⟨z5.1, z5.2.1⟩, fun sig hsig => by
                    have h2 := z5.2.2
                    rw [hsig] at h2
                    exact (Option.some.inj h2).symm, hts _ hlk⟩, hts _ z7, hts _ z8⟩
                  ⟨er_P_blind, by rw [z3]; exact hrec, hPc⟩ rfl (by rw [List.length_map]; exact h5) hl.2.1 (by
                    show st.map (tv (er_ad B b tB tF)) = _
                    rw [h6, List.map_append, List.map_reverse, List.map_cons]
                    rfl) (lv_room (by rw [hs2]; exact hsum)) hd ⟨by omega, by omega⟩) hS hgo
              · subst h1
                rw [h3] at z7
                simp only [if_true] at z7
                exact er_call (va_runS (As := as.map (tv (er_ad B b tB tF))) (n := mtA Z) (index := i) ⟨hx, hb, hml, hown, hts⟩ hM1
                  ⟨⟨rfl, rfl, hroom.1, hroom.2, pay_in hts (er_good_in Z z1), List.mem_cons_self, hts _ z1, hts _ z2, ⟨z5.1, z5.2.1⟩, fun sig hsig => by
                    have h2 := z5.2.2
                    rw [hsig] at h2
                    exact (Option.some.inj h2).symm, hts _ hlk⟩, hts _ z7⟩
                  ⟨er_P_blind, hPc⟩ rfl (by rw [List.length_map]; exact h4) hl.2.1 (by
                    show st.map (tv (er_ad B b tB tF)) = _
                    rw [h5, List.map_append, List.map_reverse]) (lv_room (by rw [hs2]; exact hsum)) hd ⟨by omega, by omega⟩) hS hgo
        · -- the end
          dsimp only at h
          obtain ⟨h1, h2⟩ := ex1_ret hd hx1
          simp only [Option.some.injEq, Prod.mk.injEq] at h
          obtain ⟨rfl, rfl⟩ := h
          intro p e R s m args below meth c H locs cells slots Q lj C0 hR1 hR2 hP hS hl hM hE
          rw [h2]
          exact hE pc lj H locs h1 hP hS hM
end SIM
end
section
theorem run_mono : ∀ {n d : Nat} {Y : MT} {pc : Nat} {ls : ALs} {st : List AV} {M : AMem} {x : Option AV × AMem} (k : Nat), run n d Y pc ls st M = some x → run (n + k) d Y pc ls st M = some x := by
  intro n
  induction n with
  | zero => intro d Y pc ls st M x k h; simp [run] at h
  | succ n ih =>
    intro d Y pc ls st M x k h
    rw [show n + 1 + k = (n + k) + 1 by omega]
    unfold run at h ⊢
    cases hd : decode (mtC Y) pc with
    | error er => rw [hd] at h; cases h
    | ok q =>
      obtain ⟨ins, len⟩ := q
      rw [hd] at h
      dsimp only at h ⊢
      cases hx1 : ex1 Y ins len pc ls st M with
      | none => rw [hx1] at h; cases h
      | some R1 =>
        rw [hx1] at h
        rcases R1 with ⟨pc', ls', st', M'⟩ | ⟨Z, as, r⟩ | w
        · exact ih k h
        · dsimp only at h ⊢
          cases d with
          | zero => cases h
          | succ d' =>
            dsimp only at h ⊢
            cases hz : run n d' Z 0 (lini Z as) [] M with
            | none => rw [hz] at h; cases h
            | some q =>
              rw [hz] at h
              rw [ih k hz]
              exact ih k h
        · exact h
section RULES
variable {d : Nat} {Y : MT} {pc : Nat} {ls : ALs} {st : List AV} {M : AMem} {Q : Option AV → AMem → Prop}
theorem q_next {ins : ClassFile.Instr} {len pc' : Nat} {ls' : ALs} {st' : List AV} {M' : AMem} (hd : decode (mtC Y) pc = .ok (ins, len)) (hx : ex1 Y ins len pc ls st M = some (.inl (pc', ls', st', M'))) (k : RunQ d Y pc' ls' st' M' Q) : RunQ d Y pc ls st M Q := by
  obtain ⟨n, v, M1, h1, h2⟩ := k
  refine ⟨n + 1, v, M1, ?_, h2⟩
  unfold run
  rw [hd]
  dsimp only
  rw [hx]
  exact h1
theorem q_ret {ins : ClassFile.Instr} {len : Nat} {v : Option AV} (hd : decode (mtC Y) pc = .ok (ins, len)) (hx : ex1 Y ins len pc ls st M = some (.inr (.inr v))) (k : Q v M) : RunQ d Y pc ls st M Q := by
  refine ⟨1, v, M, ?_, k⟩
  unfold run
  rw [hd]
  dsimp only
  rw [hx]
theorem q_call {ins : ClassFile.Instr} {len : Nat} {Z : MT} {as r : List AV} (hd : decode (mtC Y) pc = .ok (ins, len)) (hx : ex1 Y ins len pc ls st M = some (.inr (.inl (Z, as, r)))) (k : CallQ d Z as M (fun v M1 => RunQ (d + 1) Y (pc + 3) ls (v.toList ++ r) M1 Q)) : RunQ (d + 1) Y pc ls st M Q := by
  obtain ⟨n, v, M1, h1, n2, v2, M2, h2, h3⟩ := k
  refine ⟨n + n2 + 1, v2, M2, ?_, h3⟩
  unfold run
  rw [hd]
  dsimp only
  rw [hx]
  dsimp only
  rw [run_mono n2 h1]
  dsimp only
  rw [Nat.add_comm n n2]
  exact run_mono n h2
theorem RunQ.mono {Q' : Option AV → AMem → Prop} (h : RunQ d Y pc ls st M Q) (k : ∀ v M', Q v M' → Q' v M') : RunQ d Y pc ls st M Q' := by
  obtain ⟨n, v, M1, h1, h2⟩ := h
  exact ⟨n, v, M1, h1, k _ _ h2⟩
def CallI (d : Nat) (Y : MT) (as : List AV) (M : AMem) (Q : Int → AMem → Prop) : Prop := CallQ d Y as M (fun v M1 => ∃ x, v = some (vI x) ∧ Q x M1)
def CallL (d : Nat) (Y : MT) (as : List AV) (M : AMem) (Q : Int → AMem → Prop) : Prop := CallQ d Y as M (fun v M1 => ∃ x, v = some (vL x) ∧ Q x M1)
def CallV (d : Nat) (Y : MT) (as : List AV) (M : AMem) (Q : AMem → Prop) : Prop := CallQ d Y as M (fun v M1 => v = none ∧ Q M1)
def CallR (d : Nat) (kd : Nat) (Y : MT) (as : List AV) (M : AMem) (Q : Nat → AMem → Prop) : Prop := CallQ d Y as M (fun v M1 => ∃ i, v = some (vR kd i) ∧ Q i M1)
theorem CallI.mono {as : List AV} {P P' : Int → AMem → Prop} (k : ∀ x M', P x M' → P' x M') (h : CallI d Y as M P) : CallI d Y as M P' := RunQ.mono h (fun _ _ ⟨x, e, hx⟩ => ⟨x, e, k _ _ hx⟩)
theorem CallL.mono {as : List AV} {P P' : Int → AMem → Prop} (k : ∀ x M', P x M' → P' x M') (h : CallL d Y as M P) : CallL d Y as M P' := RunQ.mono h (fun _ _ ⟨x, e, hx⟩ => ⟨x, e, k _ _ hx⟩)
theorem CallV.mono {as : List AV} {P P' : AMem → Prop} (k : ∀ M', P M' → P' M') (h : CallV d Y as M P) : CallV d Y as M P' := RunQ.mono h (fun _ _ ⟨e, hx⟩ => ⟨e, k _ hx⟩)
theorem CallR.mono {kd : Nat} {as : List AV} {P P' : Nat → AMem → Prop} (k : ∀ x M', P x M' → P' x M') (h : CallR d kd Y as M P) : CallR d kd Y as M P' := RunQ.mono h (fun _ _ ⟨x, e, hx⟩ => ⟨x, e, k _ _ hx⟩)
/-- the call's form, virtual -/
theorem ex1_virt {i : Nat} {Z : MT} {k j : Nat} {ps r : List AV} (hm : mthT (mtK Y) i = some Z) (hs : mtS Z = false) (hn : ps.length = mtA Z) (hst : st = ps.reverse ++ vR k j :: r) (ho : okH k j = true) (hk : k = mtK Z) (h8 : (r.map acat).sum ≤ 8) (hc : ((vR k j :: ps).map acat).sum = (vR k j :: ps).length) (hl : (vR k j :: ps).length ≤ mtL Z) : ex1 Y (.invokevirtual i) 3 pc ls st M = some (.inr (.inl (Z, vR k j :: ps, r))) := by
  have e1 : st.drop (mtA Z) = vR k j :: r := by rw [hst, ← hn, ← List.length_reverse, List.drop_left]
  have e2 : (st.take (mtA Z)).reverse = ps := by rw [hst, ← hn, ← List.length_reverse, List.take_left, List.reverse_reverse]
  have e3 : mtA Z < st.length := by rw [hst, ← hn]; simp
  unfold ex1
  simp only [hm, oG, aVirt, hs, e1, e2, e3, and_self, if_true]
  show (if okH k j = true then _ else _) = _
  rw [if_pos ho, if_pos hk, aCall, if_pos ⟨rfl, h8, hc, hl⟩]
theorem ex1_stat {i : Nat} {Z : MT} {as r : List AV} (hb : bltT (mtK Y) i = none) (hm : mthT (mtK Y) i = some Z) (hs : mtS Z = true) (hn : as.length = mtA Z) (hst : st = as.reverse ++ r) (h8 : (r.map acat).sum ≤ 8) (hc : (as.map acat).sum = as.length) (hl : as.length ≤ mtL Z) : ex1 Y (.invokestatic i) 3 pc ls st M = some (.inr (.inl (Z, as, r))) := by
  have e1 : st.drop (mtA Z) = r := by rw [hst, ← hn, ← List.length_reverse, List.drop_left]
  have e2 : (st.take (mtA Z)).reverse = as := by rw [hst, ← hn, ← List.length_reverse, List.take_left, List.reverse_reverse]
  have e3 : mtA Z ≤ st.length := by rw [hst, ← hn]; simp
  unfold ex1
  simp only [hb, hm, oG, aStat, hs, e1, e2, e3, and_self, if_true]
  rw [aCall, if_pos ⟨rfl, h8, hc, hl⟩]

theorem q_vI {i : Nat} {Z : MT} {k j : Nat} (pc : Nat) (ps r : List AV) (hd : decode (mtC Y) pc = .ok (.invokevirtual i, 3)) (hm : mthT (mtK Y) i = some Z) (hs : mtS Z = false) (hn : ps.length = mtA Z) (hst : st = ps.reverse ++ vR k j :: r) (ho : okH k j = true) (hk : k = mtK Z) (h8 : Nat.ble (r.map acat).sum 8 = true) (hc : ((vR k j :: ps).map acat).sum = (vR k j :: ps).length) (hl : Nat.ble (vR k j :: ps).length (mtL Z) = true)
    (kk : CallI d Z (vR k j :: ps) M (fun x M1 => RunQ (d + 1) Y (pc + 3) ls (vI x :: r) M1 Q)) : RunQ (d + 1) Y pc ls st M Q := by
  refine q_call hd (ex1_virt hm hs hn hst ho hk (Nat.le_of_ble_eq_true h8) hc (Nat.le_of_ble_eq_true hl)) (RunQ.mono kk ?_)
  rintro v M1 ⟨x, rfl, hx⟩; exact hx
theorem q_sI {i : Nat} {Z : MT} (pc : Nat) (as r : List AV) (hd : decode (mtC Y) pc = .ok (.invokestatic i, 3)) (hb : bltT (mtK Y) i = none) (hm : mthT (mtK Y) i = some Z) (hs : mtS Z = true) (hn : as.length = mtA Z) (hst : st = as.reverse ++ r) (h8 : Nat.ble (r.map acat).sum 8 = true) (hc : (as.map acat).sum = as.length) (hl : Nat.ble as.length (mtL Z) = true)
    (kk : CallI d Z as M (fun x M1 => RunQ (d + 1) Y (pc + 3) ls (vI x :: r) M1 Q)) : RunQ (d + 1) Y pc ls st M Q := by
  refine q_call hd (ex1_stat hb hm hs hn hst (Nat.le_of_ble_eq_true h8) hc (Nat.le_of_ble_eq_true hl)) (RunQ.mono kk ?_)
  rintro v M1 ⟨x, rfl, hx⟩; exact hx
theorem q_vL {i : Nat} {Z : MT} {k j : Nat} (pc : Nat) (ps r : List AV) (hd : decode (mtC Y) pc = .ok (.invokevirtual i, 3)) (hm : mthT (mtK Y) i = some Z) (hs : mtS Z = false) (hn : ps.length = mtA Z) (hst : st = ps.reverse ++ vR k j :: r) (ho : okH k j = true) (hk : k = mtK Z) (h8 : Nat.ble (r.map acat).sum 8 = true) (hc : ((vR k j :: ps).map acat).sum = (vR k j :: ps).length) (hl : Nat.ble (vR k j :: ps).length (mtL Z) = true)
    (kk : CallL d Z (vR k j :: ps) M (fun x M1 => RunQ (d + 1) Y (pc + 3) ls (vL x :: r) M1 Q)) : RunQ (d + 1) Y pc ls st M Q := by
  refine q_call hd (ex1_virt hm hs hn hst ho hk (Nat.le_of_ble_eq_true h8) hc (Nat.le_of_ble_eq_true hl)) (RunQ.mono kk ?_)
  rintro v M1 ⟨x, rfl, hx⟩; exact hx
theorem q_sL {i : Nat} {Z : MT} (pc : Nat) (as r : List AV) (hd : decode (mtC Y) pc = .ok (.invokestatic i, 3)) (hb : bltT (mtK Y) i = none) (hm : mthT (mtK Y) i = some Z) (hs : mtS Z = true) (hn : as.length = mtA Z) (hst : st = as.reverse ++ r) (h8 : Nat.ble (r.map acat).sum 8 = true) (hc : (as.map acat).sum = as.length) (hl : Nat.ble as.length (mtL Z) = true)
    (kk : CallL d Z as M (fun x M1 => RunQ (d + 1) Y (pc + 3) ls (vL x :: r) M1 Q)) : RunQ (d + 1) Y pc ls st M Q := by
  refine q_call hd (ex1_stat hb hm hs hn hst (Nat.le_of_ble_eq_true h8) hc (Nat.le_of_ble_eq_true hl)) (RunQ.mono kk ?_)
  rintro v M1 ⟨x, rfl, hx⟩; exact hx
theorem q_vV {i : Nat} {Z : MT} {k j : Nat} (pc : Nat) (ps r : List AV) (hd : decode (mtC Y) pc = .ok (.invokevirtual i, 3)) (hm : mthT (mtK Y) i = some Z) (hs : mtS Z = false) (hn : ps.length = mtA Z) (hst : st = ps.reverse ++ vR k j :: r) (ho : okH k j = true) (hk : k = mtK Z) (h8 : Nat.ble (r.map acat).sum 8 = true) (hc : ((vR k j :: ps).map acat).sum = (vR k j :: ps).length) (hl : Nat.ble (vR k j :: ps).length (mtL Z) = true)
    (kk : CallV d Z (vR k j :: ps) M (fun M1 => RunQ (d + 1) Y (pc + 3) ls (r) M1 Q)) : RunQ (d + 1) Y pc ls st M Q := by
  refine q_call hd (ex1_virt hm hs hn hst ho hk (Nat.le_of_ble_eq_true h8) hc (Nat.le_of_ble_eq_true hl)) (RunQ.mono kk ?_)
  rintro v M1 ⟨rfl, hx⟩; exact hx
theorem q_sV {i : Nat} {Z : MT} (pc : Nat) (as r : List AV) (hd : decode (mtC Y) pc = .ok (.invokestatic i, 3)) (hb : bltT (mtK Y) i = none) (hm : mthT (mtK Y) i = some Z) (hs : mtS Z = true) (hn : as.length = mtA Z) (hst : st = as.reverse ++ r) (h8 : Nat.ble (r.map acat).sum 8 = true) (hc : (as.map acat).sum = as.length) (hl : Nat.ble as.length (mtL Z) = true)
    (kk : CallV d Z as M (fun M1 => RunQ (d + 1) Y (pc + 3) ls (r) M1 Q)) : RunQ (d + 1) Y pc ls st M Q := by
  refine q_call hd (ex1_stat hb hm hs hn hst (Nat.le_of_ble_eq_true h8) hc (Nat.le_of_ble_eq_true hl)) (RunQ.mono kk ?_)
  rintro v M1 ⟨rfl, hx⟩; exact hx
theorem q_vR {i : Nat} {Z : MT} {k j : Nat} {kd : Nat} (pc : Nat) (ps r : List AV) (hd : decode (mtC Y) pc = .ok (.invokevirtual i, 3)) (hm : mthT (mtK Y) i = some Z) (hs : mtS Z = false) (hn : ps.length = mtA Z) (hst : st = ps.reverse ++ vR k j :: r) (ho : okH k j = true) (hk : k = mtK Z) (h8 : Nat.ble (r.map acat).sum 8 = true) (hc : ((vR k j :: ps).map acat).sum = (vR k j :: ps).length) (hl : Nat.ble (vR k j :: ps).length (mtL Z) = true)
    (kk : CallR d kd Z (vR k j :: ps) M (fun x M1 => RunQ (d + 1) Y (pc + 3) ls (vR kd x :: r) M1 Q)) : RunQ (d + 1) Y pc ls st M Q := by
  refine q_call hd (ex1_virt hm hs hn hst ho hk (Nat.le_of_ble_eq_true h8) hc (Nat.le_of_ble_eq_true hl)) (RunQ.mono kk ?_)
  rintro v M1 ⟨x, rfl, hx⟩; exact hx
theorem q_sR {i : Nat} {Z : MT} {kd : Nat} (pc : Nat) (as r : List AV) (hd : decode (mtC Y) pc = .ok (.invokestatic i, 3)) (hb : bltT (mtK Y) i = none) (hm : mthT (mtK Y) i = some Z) (hs : mtS Z = true) (hn : as.length = mtA Z) (hst : st = as.reverse ++ r) (h8 : Nat.ble (r.map acat).sum 8 = true) (hc : (as.map acat).sum = as.length) (hl : Nat.ble as.length (mtL Z) = true)
    (kk : CallR d kd Z as M (fun x M1 => RunQ (d + 1) Y (pc + 3) ls (vR kd x :: r) M1 Q)) : RunQ (d + 1) Y pc ls st M Q := by
  refine q_call hd (ex1_stat hb hm hs hn hst (Nat.le_of_ble_eq_true h8) hc (Nat.le_of_ble_eq_true hl)) (RunQ.mono kk ?_)
  rintro v M1 ⟨x, rfl, hx⟩; exact hx
theorem q_iconst {n : Int} (pc : Nat) (hd : decode (mtC Y) pc = .ok (.iconst n, 1)) (k : RunQ d Y (pc + 1) ls (vI n :: st) M Q) : RunQ d Y pc ls (st) M Q := q_next hd (rfl) k
theorem q_bipush {n : Int} (pc : Nat) (hd : decode (mtC Y) pc = .ok (.bipush n, 2)) (hn : -128 ≤ n ∧ n < 128) (k : RunQ d Y (pc + 2) ls (vI n :: st) M Q) : RunQ d Y pc ls (st) M Q := q_next hd (by show (if _ then _ else _) = _; rw [if_pos hn]; rfl) k
theorem q_sipush {n : Int} (pc : Nat) (hd : decode (mtC Y) pc = .ok (.sipush n, 3)) (hn : -32768 ≤ n ∧ n < 32768) (k : RunQ d Y (pc + 3) ls (vI n :: st) M Q) : RunQ d Y pc ls (st) M Q := q_next hd (by show (if _ then _ else _) = _; rw [if_pos hn]; rfl) k
theorem q_ldc {i : Nat} {z : Int} (pc : Nat) (hd : decode (mtC Y) pc = .ok (.ldc i, 2)) (hc : cstT (mtK Y) i = some z) (k : RunQ d Y (pc + 2) ls (vI z :: st) M Q) : RunQ d Y pc ls (st) M Q := q_next hd (by show oG (cstT (mtK Y) i) _ = _; rw [hc]; rfl) k
theorem q_ldc_w {i : Nat} {z : Int} (pc : Nat) (hd : decode (mtC Y) pc = .ok (.ldc_w i, 3)) (hc : cstT (mtK Y) i = some z) (k : RunQ d Y (pc + 3) ls (vI z :: st) M Q) : RunQ d Y pc ls (st) M Q := q_next hd (by show oG (cstT (mtK Y) i) _ = _; rw [hc]; rfl) k
theorem q_ldc2_w {i : Nat} {z : Int} (pc : Nat) (hd : decode (mtC Y) pc = .ok (.ldc2_w i, 3)) (hc : lonT (mtK Y) i = some z) (k : RunQ d Y (pc + 3) ls (vL z :: st) M Q) : RunQ d Y pc ls (st) M Q := q_next hd (by show oG (lonT (mtK Y) i) _ = _; rw [hc]; rfl) k
theorem q_iload {i : Nat} {z : Int} (pc : Nat) (hd : decode (mtC Y) pc = .ok (.iload i, 2)) (hv : ls[(i : Nat)]? = some (some (vI z))) (k : RunQ d Y (pc + 2) ls (vI z :: st) M Q) : RunQ d Y pc ls (st) M Q := q_next hd (by show aLoadI 2 2 pc i ls st M = _; rw [aLoadI, if_pos rfl, gL, hv]; rfl) k
theorem q_iload_n {i : Fin 4} {z : Int} (pc : Nat) (hd : decode (mtC Y) pc = .ok (.iload_n i, 1)) (hv : ls[(i : Nat)]? = some (some (vI z))) (k : RunQ d Y (pc + 1) ls (vI z :: st) M Q) : RunQ d Y pc ls (st) M Q := q_next hd (by show aLoadI 1 1 pc i ls st M = _; rw [aLoadI, if_pos rfl, gL, hv]; rfl) k
theorem q_lload {i : Nat} {z : Int} (pc : Nat) (hd : decode (mtC Y) pc = .ok (.lload i, 2)) (hv : ls[(i : Nat)]? = some (some (vL z))) (k : RunQ d Y (pc + 2) ls (vL z :: st) M Q) : RunQ d Y pc ls (st) M Q := q_next hd (by show aLoadL 2 2 pc i ls st M = _; rw [aLoadL, if_pos rfl, gL, hv]; rfl) k
theorem q_lload_n {i : Fin 4} {z : Int} (pc : Nat) (hd : decode (mtC Y) pc = .ok (.lload_n i, 1)) (hv : ls[(i : Nat)]? = some (some (vL z))) (k : RunQ d Y (pc + 1) ls (vL z :: st) M Q) : RunQ d Y pc ls (st) M Q := q_next hd (by show aLoadL 1 1 pc i ls st M = _; rw [aLoadL, if_pos rfl, gL, hv]; rfl) k
theorem q_aload {i : Nat} {a j : Nat} (pc : Nat) (hd : decode (mtC Y) pc = .ok (.aload i, 2)) (hv : ls[(i : Nat)]? = some (some (vR a j))) (k : RunQ d Y (pc + 2) ls (vR a j :: st) M Q) : RunQ d Y pc ls (st) M Q := q_next hd (by show aLoadA 2 2 pc i ls st M = _; rw [aLoadA, if_pos rfl, gL, hv]; rfl) k
theorem q_aload_n {i : Fin 4} {a j : Nat} (pc : Nat) (hd : decode (mtC Y) pc = .ok (.aload_n i, 1)) (hv : ls[(i : Nat)]? = some (some (vR a j))) (k : RunQ d Y (pc + 1) ls (vR a j :: st) M Q) : RunQ d Y pc ls (st) M Q := q_next hd (by show aLoadA 1 1 pc i ls st M = _; rw [aLoadA, if_pos rfl, gL, hv]; rfl) k
theorem q_istore {i : Nat} {z : Int} {ls' : ALs} (pc : Nat) (hd : decode (mtC Y) pc = .ok (.istore i, 2)) (hok : stOK ls (i : Nat) = true) (hl : ls.set (i : Nat) (some (vI z)) = ls') (k : RunQ d Y (pc + 2) ls' (st) M Q) : RunQ d Y pc ls (vI z :: st) M Q := q_next hd (by show aStoreI 2 2 pc i ls _ M = _; rw [aStoreI, if_pos ⟨rfl, hok⟩, ← hl]; rfl) k
theorem q_istore_n {i : Fin 4} {z : Int} {ls' : ALs} (pc : Nat) (hd : decode (mtC Y) pc = .ok (.istore_n i, 1)) (hok : stOK ls (i : Nat) = true) (hl : ls.set (i : Nat) (some (vI z)) = ls') (k : RunQ d Y (pc + 1) ls' (st) M Q) : RunQ d Y pc ls (vI z :: st) M Q := q_next hd (by show aStoreI 1 1 pc i ls _ M = _; rw [aStoreI, if_pos ⟨rfl, hok⟩, ← hl]; rfl) k
theorem q_astore {i : Nat} {a j : Nat} {ls' : ALs} (pc : Nat) (hd : decode (mtC Y) pc = .ok (.astore i, 2)) (hok : stOK ls (i : Nat) = true) (hl : ls.set (i : Nat) (some (vR a j)) = ls') (k : RunQ d Y (pc + 2) ls' (st) M Q) : RunQ d Y pc ls (vR a j :: st) M Q := q_next hd (by show aStoreA 2 2 pc i ls _ M = _; rw [aStoreA, if_pos ⟨rfl, hok⟩, ← hl]; rfl) k
theorem q_astore_n {i : Fin 4} {a j : Nat} {ls' : ALs} (pc : Nat) (hd : decode (mtC Y) pc = .ok (.astore_n i, 1)) (hok : stOK ls (i : Nat) = true) (hl : ls.set (i : Nat) (some (vR a j)) = ls') (k : RunQ d Y (pc + 1) ls' (st) M Q) : RunQ d Y pc ls (vR a j :: st) M Q := q_next hd (by show aStoreA 1 1 pc i ls _ M = _; rw [aStoreA, if_pos ⟨rfl, hok⟩, ← hl]; rfl) k
theorem q_lstore {i : Nat} {z : Int} {ls' : ALs} (pc : Nat) (hd : decode (mtC Y) pc = .ok (.lstore i, 2)) (hok : stOK ls (i : Nat) = true) (hi : Nat.ble ((i : Nat) + 1 + 1) ls.length = true) (hl : (ls.set (i : Nat) (some (vL z))).set ((i : Nat) + 1) none = ls') (k : RunQ d Y (pc + 2) ls' (st) M Q) : RunQ d Y pc ls (vL z :: st) M Q := q_next hd (by show aStoreL 2 2 pc i ls _ M = _; rw [aStoreL, if_pos ⟨rfl, hok, Nat.le_of_ble_eq_true hi⟩, ← hl]; rfl) k
theorem q_lstore_n {i : Fin 4} {z : Int} {ls' : ALs} (pc : Nat) (hd : decode (mtC Y) pc = .ok (.lstore_n i, 1)) (hok : stOK ls (i : Nat) = true) (hi : Nat.ble ((i : Nat) + 1 + 1) ls.length = true) (hl : (ls.set (i : Nat) (some (vL z))).set ((i : Nat) + 1) none = ls') (k : RunQ d Y (pc + 1) ls' (st) M Q) : RunQ d Y pc ls (vL z :: st) M Q := q_next hd (by show aStoreL 1 1 pc i ls _ M = _; rw [aStoreL, if_pos ⟨rfl, hok, Nat.le_of_ble_eq_true hi⟩, ← hl]; rfl) k
theorem q_iinc {i : Nat} {n z : Int} {ls' : ALs} (pc : Nat) (hd : decode (mtC Y) pc = .ok (.iinc i n, 3)) (hok : stOK ls i = true) (hv : ls[i]? = some (some (vI z))) (hl : ls.set i (some (vI (z + n))) = ls') (k : RunQ d Y (pc + 3) ls' (st) M Q) : RunQ d Y pc ls (st) M Q := q_next hd (by show (if _ then _ else _) = _; rw [if_pos ⟨rfl, hok⟩, gL, hv, ← hl]; rfl) k
theorem q_iadd {x y : Int} (pc : Nat) (hd : decode (mtC Y) pc = .ok (.iadd, 1)) (k : RunQ d Y (pc + 1) ls (vI (x + y) :: st) M Q) : RunQ d Y pc ls (vI y :: vI x :: st) M Q := q_next hd (rfl) k
theorem q_isub {x y : Int} (pc : Nat) (hd : decode (mtC Y) pc = .ok (.isub, 1)) (k : RunQ d Y (pc + 1) ls (vI (x - y) :: st) M Q) : RunQ d Y pc ls (vI y :: vI x :: st) M Q := q_next hd (rfl) k
theorem q_imul {x y : Int} (pc : Nat) (hd : decode (mtC Y) pc = .ok (.imul, 1)) (k : RunQ d Y (pc + 1) ls (vI (x * y) :: st) M Q) : RunQ d Y pc ls (vI y :: vI x :: st) M Q := q_next hd (rfl) k
theorem q_iand {x y : Int} (pc : Nat) (hd : decode (mtC Y) pc = .ok (.iand, 1)) (k : RunQ d Y (pc + 1) ls (vI (opAnd x y) :: st) M Q) : RunQ d Y pc ls (vI y :: vI x :: st) M Q := q_next hd (rfl) k
theorem q_ixor {x y : Int} (pc : Nat) (hd : decode (mtC Y) pc = .ok (.ixor, 1)) (k : RunQ d Y (pc + 1) ls (vI (opXor x y) :: st) M Q) : RunQ d Y pc ls (vI y :: vI x :: st) M Q := q_next hd (rfl) k
theorem q_ishr {x y : Int} (pc : Nat) (hd : decode (mtC Y) pc = .ok (.ishr, 1)) (k : RunQ d Y (pc + 1) ls (vI (opShr x y) :: st) M Q) : RunQ d Y pc ls (vI y :: vI x :: st) M Q := q_next hd (rfl) k
theorem q_iushr {x y : Int} (pc : Nat) (hd : decode (mtC Y) pc = .ok (.iushr, 1)) (k : RunQ d Y (pc + 1) ls (vI (opUshr x y) :: st) M Q) : RunQ d Y pc ls (vI y :: vI x :: st) M Q := q_next hd (rfl) k
theorem q_idiv {x y : Int} (pc : Nat) (hd : decode (mtC Y) pc = .ok (.idiv, 1)) (hy : ¬ wI y = 0) (k : RunQ d Y (pc + 1) ls (vI (Int.tdiv (wI x) (wI y)) :: st) M Q) : RunQ d Y pc ls (vI y :: vI x :: st) M Q := q_next hd (by show aDiv 1 pc _ ls _ M = _; rw [aDiv, if_pos rfl]; show (if wI y = 0 then none else _) = _; rw [if_neg hy]; rfl) k
theorem q_irem {x y : Int} (pc : Nat) (hd : decode (mtC Y) pc = .ok (.irem, 1)) (hy : ¬ wI y = 0) (k : RunQ d Y (pc + 1) ls (vI (Int.tmod (wI x) (wI y)) :: st) M Q) : RunQ d Y pc ls (vI y :: vI x :: st) M Q := q_next hd (by show aDiv 1 pc _ ls _ M = _; rw [aDiv, if_pos rfl]; show (if wI y = 0 then none else _) = _; rw [if_neg hy]; rfl) k
theorem q_i2l {x : Int} (pc : Nat) (hd : decode (mtC Y) pc = .ok (.i2l, 1)) (k : RunQ d Y (pc + 1) ls (vL (wI x) :: st) M Q) : RunQ d Y pc ls (vI x :: st) M Q := q_next hd (rfl) k
theorem q_ladd {x y : Int} (pc : Nat) (hd : decode (mtC Y) pc = .ok (.ladd, 1)) (k : RunQ d Y (pc + 1) ls (vL (x + y) :: st) M Q) : RunQ d Y pc ls (vL y :: vL x :: st) M Q := q_next hd (rfl) k
theorem q_lmul {x y : Int} (pc : Nat) (hd : decode (mtC Y) pc = .ok (.lmul, 1)) (k : RunQ d Y (pc + 1) ls (vL (x * y) :: st) M Q) : RunQ d Y pc ls (vL y :: vL x :: st) M Q := q_next hd (rfl) k
theorem q_lcmp {x y : Int} (pc : Nat) (hd : decode (mtC Y) pc = .ok (.lcmp, 1)) (k : RunQ d Y (pc + 1) ls (vI (opCmp x y) :: st) M Q) : RunQ d Y pc ls (vL y :: vL x :: st) M Q := q_next hd (rfl) k
theorem q_dup {v : AV} (pc : Nat) (hd : decode (mtC Y) pc = .ok (.dup, 1)) (hv : acat v = 1) (k : RunQ d Y (pc + 1) ls (v :: v :: st) M Q) : RunQ d Y pc ls (v :: st) M Q := q_next hd (by show (if 1 = 1 then _ else none) = _; rw [if_pos rfl]; show (if acat v = 1 then _ else _) = _; rw [if_pos hv]; rfl) k
theorem q_pop {v : AV} (pc : Nat) (hd : decode (mtC Y) pc = .ok (.pop, 1)) (hv : acat v = 1) (k : RunQ d Y (pc + 1) ls (st) M Q) : RunQ d Y pc ls (v :: st) M Q := q_next hd (by show (if 1 = 1 then _ else none) = _; rw [if_pos rfl]; show (if acat v = 1 then _ else _) = _; rw [if_pos hv]; rfl) k
theorem q_if_eq {x : Int} {off : Int} (pc tgt : Nat) (hd : decode (mtC Y) pc = .ok (.ifCond .eq off, 3)) (hj : jok pc off = true) (ht : jmp pc off = tgt) (kt : wI x = 0 → RunQ d Y tgt ls st M Q) (kf : ¬ (wI x = 0) → RunQ d Y (pc + 3) ls st M Q) : RunQ d Y pc ls (vI x :: st) M Q := by
  by_cases h : wI x = 0
  · refine q_next hd (pc' := tgt) ?_ (kt h)
    show aBr 3 pc off (decide (wI x = 0)) ls st M = _
    rw [aBr, if_pos ⟨rfl, hj⟩, if_pos (decide_eq_true h), ht]
    rfl
  · refine q_next hd ?_ (kf h)
    show aBr 3 pc off (decide (wI x = 0)) ls st M = _
    rw [aBr, if_pos ⟨rfl, hj⟩, if_neg (fun z => h (of_decide_eq_true z))]
    rfl
theorem q_icmp_eq {x y : Int} {off : Int} (pc tgt : Nat) (hd : decode (mtC Y) pc = .ok (.if_icmp .eq off, 3)) (hj : jok pc off = true) (ht : jmp pc off = tgt) (kt : wI x = wI y → RunQ d Y tgt ls st M Q) (kf : ¬ (wI x = wI y) → RunQ d Y (pc + 3) ls st M Q) : RunQ d Y pc ls (vI y :: vI x :: st) M Q := by
  by_cases h : wI x = wI y
  · refine q_next hd (pc' := tgt) ?_ (kt h)
    show aBr 3 pc off (decide (wI x = wI y)) ls st M = _
    rw [aBr, if_pos ⟨rfl, hj⟩, if_pos (decide_eq_true h), ht]
    rfl
  · refine q_next hd ?_ (kf h)
    show aBr 3 pc off (decide (wI x = wI y)) ls st M = _
    rw [aBr, if_pos ⟨rfl, hj⟩, if_neg (fun z => h (of_decide_eq_true z))]
    rfl
theorem q_if_ne {x : Int} {off : Int} (pc tgt : Nat) (hd : decode (mtC Y) pc = .ok (.ifCond .ne off, 3)) (hj : jok pc off = true) (ht : jmp pc off = tgt) (kt : ¬ wI x = 0 → RunQ d Y tgt ls st M Q) (kf : ¬ (¬ wI x = 0) → RunQ d Y (pc + 3) ls st M Q) : RunQ d Y pc ls (vI x :: st) M Q := by
  by_cases h : ¬ wI x = 0
  · refine q_next hd (pc' := tgt) ?_ (kt h)
    show aBr 3 pc off (decide (¬ wI x = 0)) ls st M = _
    rw [aBr, if_pos ⟨rfl, hj⟩, if_pos (decide_eq_true h), ht]
    rfl
  · refine q_next hd ?_ (kf h)
    show aBr 3 pc off (decide (¬ wI x = 0)) ls st M = _
    rw [aBr, if_pos ⟨rfl, hj⟩, if_neg (fun z => h (of_decide_eq_true z))]
    rfl
theorem q_icmp_ne {x y : Int} {off : Int} (pc tgt : Nat) (hd : decode (mtC Y) pc = .ok (.if_icmp .ne off, 3)) (hj : jok pc off = true) (ht : jmp pc off = tgt) (kt : ¬ wI x = wI y → RunQ d Y tgt ls st M Q) (kf : ¬ (¬ wI x = wI y) → RunQ d Y (pc + 3) ls st M Q) : RunQ d Y pc ls (vI y :: vI x :: st) M Q := by
  by_cases h : ¬ wI x = wI y
  · refine q_next hd (pc' := tgt) ?_ (kt h)
    show aBr 3 pc off (decide (¬ wI x = wI y)) ls st M = _
    rw [aBr, if_pos ⟨rfl, hj⟩, if_pos (decide_eq_true h), ht]
    rfl
  · refine q_next hd ?_ (kf h)
    show aBr 3 pc off (decide (¬ wI x = wI y)) ls st M = _
    rw [aBr, if_pos ⟨rfl, hj⟩, if_neg (fun z => h (of_decide_eq_true z))]
    rfl
theorem q_if_lt {x : Int} {off : Int} (pc tgt : Nat) (hd : decode (mtC Y) pc = .ok (.ifCond .lt off, 3)) (hj : jok pc off = true) (ht : jmp pc off = tgt) (kt : wI x < 0 → RunQ d Y tgt ls st M Q) (kf : ¬ (wI x < 0) → RunQ d Y (pc + 3) ls st M Q) : RunQ d Y pc ls (vI x :: st) M Q := by
  by_cases h : wI x < 0
  · refine q_next hd (pc' := tgt) ?_ (kt h)
    show aBr 3 pc off (decide (wI x < 0)) ls st M = _
    rw [aBr, if_pos ⟨rfl, hj⟩, if_pos (decide_eq_true h), ht]
    rfl
  · refine q_next hd ?_ (kf h)
    show aBr 3 pc off (decide (wI x < 0)) ls st M = _
    rw [aBr, if_pos ⟨rfl, hj⟩, if_neg (fun z => h (of_decide_eq_true z))]
    rfl
theorem q_icmp_lt {x y : Int} {off : Int} (pc tgt : Nat) (hd : decode (mtC Y) pc = .ok (.if_icmp .lt off, 3)) (hj : jok pc off = true) (ht : jmp pc off = tgt) (kt : wI x < wI y → RunQ d Y tgt ls st M Q) (kf : ¬ (wI x < wI y) → RunQ d Y (pc + 3) ls st M Q) : RunQ d Y pc ls (vI y :: vI x :: st) M Q := by
  by_cases h : wI x < wI y
  · refine q_next hd (pc' := tgt) ?_ (kt h)
    show aBr 3 pc off (decide (wI x < wI y)) ls st M = _
    rw [aBr, if_pos ⟨rfl, hj⟩, if_pos (decide_eq_true h), ht]
    rfl
  · refine q_next hd ?_ (kf h)
    show aBr 3 pc off (decide (wI x < wI y)) ls st M = _
    rw [aBr, if_pos ⟨rfl, hj⟩, if_neg (fun z => h (of_decide_eq_true z))]
    rfl
theorem q_if_ge {x : Int} {off : Int} (pc tgt : Nat) (hd : decode (mtC Y) pc = .ok (.ifCond .ge off, 3)) (hj : jok pc off = true) (ht : jmp pc off = tgt) (kt : 0 ≤ wI x → RunQ d Y tgt ls st M Q) (kf : ¬ (0 ≤ wI x) → RunQ d Y (pc + 3) ls st M Q) : RunQ d Y pc ls (vI x :: st) M Q := by
  by_cases h : 0 ≤ wI x
  · refine q_next hd (pc' := tgt) ?_ (kt h)
    show aBr 3 pc off (decide (0 ≤ wI x)) ls st M = _
    rw [aBr, if_pos ⟨rfl, hj⟩, if_pos (decide_eq_true h), ht]
    rfl
  · refine q_next hd ?_ (kf h)
    show aBr 3 pc off (decide (0 ≤ wI x)) ls st M = _
    rw [aBr, if_pos ⟨rfl, hj⟩, if_neg (fun z => h (of_decide_eq_true z))]
    rfl
theorem q_icmp_ge {x y : Int} {off : Int} (pc tgt : Nat) (hd : decode (mtC Y) pc = .ok (.if_icmp .ge off, 3)) (hj : jok pc off = true) (ht : jmp pc off = tgt) (kt : wI y ≤ wI x → RunQ d Y tgt ls st M Q) (kf : ¬ (wI y ≤ wI x) → RunQ d Y (pc + 3) ls st M Q) : RunQ d Y pc ls (vI y :: vI x :: st) M Q := by
  by_cases h : wI y ≤ wI x
  · refine q_next hd (pc' := tgt) ?_ (kt h)
    show aBr 3 pc off (decide (wI y ≤ wI x)) ls st M = _
    rw [aBr, if_pos ⟨rfl, hj⟩, if_pos (decide_eq_true h), ht]
    rfl
  · refine q_next hd ?_ (kf h)
    show aBr 3 pc off (decide (wI y ≤ wI x)) ls st M = _
    rw [aBr, if_pos ⟨rfl, hj⟩, if_neg (fun z => h (of_decide_eq_true z))]
    rfl
theorem q_if_gt {x : Int} {off : Int} (pc tgt : Nat) (hd : decode (mtC Y) pc = .ok (.ifCond .gt off, 3)) (hj : jok pc off = true) (ht : jmp pc off = tgt) (kt : 0 < wI x → RunQ d Y tgt ls st M Q) (kf : ¬ (0 < wI x) → RunQ d Y (pc + 3) ls st M Q) : RunQ d Y pc ls (vI x :: st) M Q := by
  by_cases h : 0 < wI x
  · refine q_next hd (pc' := tgt) ?_ (kt h)
    show aBr 3 pc off (decide (0 < wI x)) ls st M = _
    rw [aBr, if_pos ⟨rfl, hj⟩, if_pos (decide_eq_true h), ht]
    rfl
  · refine q_next hd ?_ (kf h)
    show aBr 3 pc off (decide (0 < wI x)) ls st M = _
    rw [aBr, if_pos ⟨rfl, hj⟩, if_neg (fun z => h (of_decide_eq_true z))]
    rfl
theorem q_icmp_gt {x y : Int} {off : Int} (pc tgt : Nat) (hd : decode (mtC Y) pc = .ok (.if_icmp .gt off, 3)) (hj : jok pc off = true) (ht : jmp pc off = tgt) (kt : wI y < wI x → RunQ d Y tgt ls st M Q) (kf : ¬ (wI y < wI x) → RunQ d Y (pc + 3) ls st M Q) : RunQ d Y pc ls (vI y :: vI x :: st) M Q := by
  by_cases h : wI y < wI x
  · refine q_next hd (pc' := tgt) ?_ (kt h)
    show aBr 3 pc off (decide (wI y < wI x)) ls st M = _
    rw [aBr, if_pos ⟨rfl, hj⟩, if_pos (decide_eq_true h), ht]
    rfl
  · refine q_next hd ?_ (kf h)
    show aBr 3 pc off (decide (wI y < wI x)) ls st M = _
    rw [aBr, if_pos ⟨rfl, hj⟩, if_neg (fun z => h (of_decide_eq_true z))]
    rfl
theorem q_if_le {x : Int} {off : Int} (pc tgt : Nat) (hd : decode (mtC Y) pc = .ok (.ifCond .le off, 3)) (hj : jok pc off = true) (ht : jmp pc off = tgt) (kt : wI x ≤ 0 → RunQ d Y tgt ls st M Q) (kf : ¬ (wI x ≤ 0) → RunQ d Y (pc + 3) ls st M Q) : RunQ d Y pc ls (vI x :: st) M Q := by
  by_cases h : wI x ≤ 0
  · refine q_next hd (pc' := tgt) ?_ (kt h)
    show aBr 3 pc off (decide (wI x ≤ 0)) ls st M = _
    rw [aBr, if_pos ⟨rfl, hj⟩, if_pos (decide_eq_true h), ht]
    rfl
  · refine q_next hd ?_ (kf h)
    show aBr 3 pc off (decide (wI x ≤ 0)) ls st M = _
    rw [aBr, if_pos ⟨rfl, hj⟩, if_neg (fun z => h (of_decide_eq_true z))]
    rfl
theorem q_icmp_le {x y : Int} {off : Int} (pc tgt : Nat) (hd : decode (mtC Y) pc = .ok (.if_icmp .le off, 3)) (hj : jok pc off = true) (ht : jmp pc off = tgt) (kt : wI x ≤ wI y → RunQ d Y tgt ls st M Q) (kf : ¬ (wI x ≤ wI y) → RunQ d Y (pc + 3) ls st M Q) : RunQ d Y pc ls (vI y :: vI x :: st) M Q := by
  by_cases h : wI x ≤ wI y
  · refine q_next hd (pc' := tgt) ?_ (kt h)
    show aBr 3 pc off (decide (wI x ≤ wI y)) ls st M = _
    rw [aBr, if_pos ⟨rfl, hj⟩, if_pos (decide_eq_true h), ht]
    rfl
  · refine q_next hd ?_ (kf h)
    show aBr 3 pc off (decide (wI x ≤ wI y)) ls st M = _
    rw [aBr, if_pos ⟨rfl, hj⟩, if_neg (fun z => h (of_decide_eq_true z))]
    rfl
theorem q_goto {off : Int} (pc tgt : Nat) (hd : decode (mtC Y) pc = .ok (.goto off, 3)) (hj : jok pc off = true) (ht : jmp pc off = tgt) (k : RunQ d Y tgt ls st M Q) : RunQ d Y pc ls st M Q := by
  refine q_next hd ?_ k
  show (if 3 = 3 ∧ jok pc off = true then _ else _) = _
  rw [if_pos ⟨rfl, hj⟩, ht]
  rfl
theorem q_tsw {dflt lo hi : Int} {offs : Array Int} {len : Nat} {z : Int} (pc : Nat) (hd : decode (mtC Y) pc = .ok (.tableswitch dflt lo hi offs, len)) (hj : jok pc dflt = true) (kout : (wI z < lo ∨ hi < wI z) → RunQ d Y (jmp pc dflt) ls st M Q)
    (kin : lo ≤ wI z → wI z ≤ hi → ∃ off, offs[(wI z - lo).toNat]? = some off ∧ jok pc off = true ∧ RunQ d Y (jmp pc off) ls st M Q) : RunQ d Y pc ls (vI z :: st) M Q := by
  by_cases h : wI z < lo ∨ hi < wI z
  · refine q_next hd ?_ (kout h)
    show (if wI z < lo ∨ hi < wI z then _ else _) = _
    rw [if_pos h, if_pos hj]
    rfl
  · obtain ⟨off, h1, h2, h3⟩ := kin (by omega) (by omega)
    refine q_next hd ?_ h3
    show (if wI z < lo ∨ hi < wI z then _ else _) = _
    rw [if_neg h, h1]
    show (if jok pc off = true then _ else _) = _
    rw [if_pos h2]
    rfl
theorem q_lsw {dflt : Int} {ps : Array (Int × Int)} {len : Nat} {z : Int} (pc tgt : Nat) (hd : decode (mtC Y) pc = .ok (.lookupswitch dflt ps, len)) (hs : (ps.toList.zip (ps.toList.drop 1)).all (fun (a, next) => a.1 < next.1) = true) (hj : jok pc (Op.lookupswitch.offset ps.toList dflt (wI z)) = true) (ht : jmp pc (Op.lookupswitch.offset ps.toList dflt (wI z)) = tgt) (k : RunQ d Y tgt ls st M Q) : RunQ d Y pc ls (vI z :: st) M Q := by
  refine q_next hd ?_ k
  show aSwL pc dflt ps ls (vI z :: st) M = _
  rw [aSwL, if_pos hs]
  show (if jok pc _ = true then _ else _) = _
  rw [if_pos hj, ht]
  rfl
theorem q_getstatic {i a : Nat} (pc : Nat) (hd : decode (mtC Y) pc = .ok (.getstatic i, 3)) (hf : staT (mtK Y) i = some a) (k : RunQ d Y (pc + 3) ls (vR a 0 :: st) M Q) : RunQ d Y pc ls st M Q := q_next hd (by show (if 3 = 3 then _ else none) = _; rw [if_pos rfl, hf]; rfl) k
theorem q_getfield {f a i s : Nat} {v : AV} (pc : Nat) (hd : decode (mtC Y) pc = .ok (.getfield f, 3)) (hf : fldT (mtK Y) f = some (a, s)) (ho : okH a i = true) (hv : fval a i s M = v) (k : RunQ d Y (pc + 3) ls (v :: st) M Q) : RunQ d Y pc ls (vR a i :: st) M Q := q_next hd (by
  show (if 3 = 3 then _ else none) = _
  rw [if_pos rfl, hf]
  show (if okH a i = true then _ else _) = _
  rw [if_pos ho]
  show (if a = a then _ else _) = _
  rw [if_pos rfl, ← hv]
  rfl) k
theorem q_putfield {f a i s : Nat} {z : Int} (pc : Nat) (hd : decode (mtC Y) pc = .ok (.putfield f, 3)) (hf : fldT (mtK Y) f = some (a, s)) (ho : okH a i = true) (hi : fint a s = true) (hz : a = 2 ∧ s = 4 → z = 0 ∨ z = 1) (k : RunQ d Y (pc + 3) ls st (aup M a i s z) Q) : RunQ d Y pc ls (vI z :: vR a i :: st) M Q := q_next hd (by
  show (if 3 = 3 then _ else none) = _
  rw [if_pos rfl, hf]
  show (if okH a i = true then _ else _) = _
  rw [if_pos ho]
  show (if a = a ∧ fint a s = true ∧ (a = 2 ∧ s = 4 → z = 0 ∨ z = 1) then _ else _) = _
  rw [if_pos ⟨rfl, hi, hz⟩]
  rfl) k
theorem q_alen {a i : Nat} {z : Int} (pc : Nat) (hd : decode (mtC Y) pc = .ok (.arraylength, 1)) (ho : okH a i = true) (h4 : Nat.ble 4 a = true) (hz : (alen a M : Int) = z) (k : RunQ d Y (pc + 1) ls (vI z :: st) M Q) : RunQ d Y pc ls (vR a i :: st) M Q := q_next hd (by
  show (if 1 = 1 then _ else none) = _
  rw [if_pos rfl]
  show (if okH a i = true then _ else _) = _
  rw [if_pos ho]
  show (if 4 ≤ a then _ else _) = _
  rw [if_pos (Nat.le_of_ble_eq_true h4), ← hz]
  rfl) k
theorem q_iaload {a i : Nat} {j z : Int} {n : Nat} (pc : Nat) (hd : decode (mtC Y) pc = .ok (.iaload, 1)) (ho : okH a i = true) (hn : alen a M = n) (hj : 0 ≤ wI j ∧ wI j < n) (hz : aval a i (wI j).toNat M = some z) (k : RunQ d Y (pc + 1) ls (vI z :: st) M Q) : RunQ d Y pc ls (vI j :: vR a i :: st) M Q := q_next hd (by
  show (if 1 = 1 then _ else none) = _
  rw [if_pos rfl]
  show (if okH a i = true then _ else _) = _
  rw [if_pos ho]
  show (if 0 ≤ wI j ∧ wI j < alen a M then _ else _) = _
  rw [hn, if_pos hj, hz]
  rfl) k
theorem q_iastore {a i : Nat} {j z : Int} {n : Nat} (pc : Nat) (hd : decode (mtC Y) pc = .ok (.iastore, 1)) (ho : okH a i = true) (hn : alen a M = n) (hj : 0 ≤ wI j ∧ wI j < n) (h45 : a = 4 ∨ a = 5) (k : RunQ d Y (pc + 1) ls st (aup M a i (wI j).toNat z) Q) : RunQ d Y pc ls (vI z :: vI j :: vR a i :: st) M Q := q_next hd (by
  show (if 1 = 1 then _ else none) = _
  rw [if_pos rfl]
  show (if okH a i = true then _ else _) = _
  rw [if_pos ho]
  show (if 0 ≤ wI j ∧ wI j < alen a M ∧ (a = 4 ∨ a = 5) then _ else _) = _
  rw [hn, if_pos ⟨hj.1, hj.2, h45⟩]
  rfl) k
theorem q_aaload {a i : Nat} {j : Int} {n kd x : Nat} (pc : Nat) (hd : decode (mtC Y) pc = .ok (.aaload, 1)) (ho : okH a i = true) (hn : alen a M = n) (hj : 0 ≤ wI j ∧ wI j < n) (hz : aref a i (wI j).toNat = some (kd, x)) (k : RunQ d Y (pc + 1) ls (vR kd x :: st) M Q) : RunQ d Y pc ls (vI j :: vR a i :: st) M Q := q_next hd (by
  show (if 1 = 1 then _ else none) = _
  rw [if_pos rfl]
  show (if okH a i = true then _ else _) = _
  rw [if_pos ho]
  show (if 0 ≤ wI j ∧ wI j < alen a M then _ else _) = _
  rw [hn, if_pos hj, hz]
  rfl) k
theorem q_max {i : Nat} {x y : Int} (pc : Nat) (hd : decode (mtC Y) pc = .ok (.invokestatic i, 3)) (hb : bltT (mtK Y) i = some 0) (h8 : Nat.ble ((vI y :: vI x :: st).map acat).sum 8 = true) (k : RunQ d Y (pc + 3) ls (vI (if wI x < wI y then y else x) :: st) M Q) : RunQ d Y pc ls (vI y :: vI x :: st) M Q := q_next hd (by
  show (match bltT (mtK Y) i with
    | some b => aBlt 3 pc b ls (vI y :: vI x :: st) M
    | none => _) = _
  rw [hb]
  show aBlt 3 pc 0 ls _ M = _
  rw [aBlt, if_pos ⟨rfl, Nat.le_of_ble_eq_true h8⟩]
  rfl) k
theorem q_min {i : Nat} {x y : Int} (pc : Nat) (hd : decode (mtC Y) pc = .ok (.invokestatic i, 3)) (hb : bltT (mtK Y) i = some 1) (h8 : Nat.ble ((vI y :: vI x :: st).map acat).sum 8 = true) (k : RunQ d Y (pc + 3) ls (vI (if wI y < wI x then y else x) :: st) M Q) : RunQ d Y pc ls (vI y :: vI x :: st) M Q := q_next hd (by
  show (match bltT (mtK Y) i with
    | some b => aBlt 3 pc b ls (vI y :: vI x :: st) M
    | none => _) = _
  rw [hb]
  show aBlt 3 pc 1 ls _ M = _
  rw [aBlt, if_pos ⟨rfl, Nat.le_of_ble_eq_true h8⟩]
  rfl) k
theorem q_copy {i kd a b' : Nat} {n : Int} (pc : Nat) (hd : decode (mtC Y) pc = .ok (.invokestatic i, 3)) (hb : bltT (mtK Y) i = some 2) (h8 : Nat.ble ((vI n :: vI 0 :: vR kd b' :: vI 0 :: vR kd a :: st).map acat).sum 8 = true) (o1 : okH kd b' = true) (o2 : okH kd a = true) (h45 : kd = 4 ∨ kd = 5) (hn : 0 ≤ n ∧ n.toNat ≤ alen kd M) (k : RunQ d Y (pc + 3) ls st (acopy M kd a b' n.toNat) Q) : RunQ d Y pc ls (vI n :: vI 0 :: vR kd b' :: vI 0 :: vR kd a :: st) M Q := q_next hd (by
  show (match bltT (mtK Y) i with
    | some b => aBlt 3 pc b ls (vI n :: vI 0 :: vR kd b' :: vI 0 :: vR kd a :: st) M
    | none => _) = _
  rw [hb]
  show aBlt 3 pc 2 ls _ M = _
  rw [aBlt, if_pos ⟨rfl, Nat.le_of_ble_eq_true h8⟩]
  show (if okH kd b' = true then _ else _) = _
  rw [if_pos o1]
  show (if okH kd a = true then _ else _) = _
  rw [if_pos o2]
  show (if (0 : Int) = 0 ∧ (0 : Int) = 0 ∧ kd = kd ∧ (kd = 4 ∨ kd = 5) ∧ 0 ≤ n ∧ n.toNat ≤ alen kd M then _ else _) = _
  rw [if_pos ⟨rfl, rfl, rfl, h45, hn.1, hn.2⟩]
  all_goals first | rfl | (intro h; cases h)) k
theorem q_iret {z : Int} (pc : Nat) (hd : decode (mtC Y) pc = .ok (.ireturn, 1)) (hr : mtR Y = some .int) (k : Q (some (vI z)) M) : RunQ d Y pc ls [vI z] M Q := q_ret hd (by
  show (if 1 = 1 then _ else none) = _
  rw [if_pos rfl]
  show (if ([] : List AV) = [] ∧ (mtR Y = some .int ∨ (mtR Y = some .boolean ∧ (z = 0 ∨ z = 1))) then _ else _) = _
  rw [if_pos ⟨rfl, Or.inl hr⟩]) k
theorem q_zret {z : Int} (pc : Nat) (hd : decode (mtC Y) pc = .ok (.ireturn, 1)) (hr : mtR Y = some .boolean) (hz : z = 0 ∨ z = 1) (k : Q (some (vI z)) M) : RunQ d Y pc ls [vI z] M Q := q_ret hd (by
  show (if 1 = 1 then _ else none) = _
  rw [if_pos rfl]
  show (if ([] : List AV) = [] ∧ (mtR Y = some .int ∨ (mtR Y = some .boolean ∧ (z = 0 ∨ z = 1))) then _ else _) = _
  rw [if_pos ⟨rfl, Or.inr ⟨hr, hz⟩⟩]) k
theorem q_lret {z : Int} (pc : Nat) (hd : decode (mtC Y) pc = .ok (.lreturn, 1)) (hr : mtR Y = some .long) (k : Q (some (vL z)) M) : RunQ d Y pc ls [vL z] M Q := q_ret hd (by
  show (if 1 = 1 then _ else none) = _
  rw [if_pos rfl]
  show (if ([] : List AV) = [] ∧ mtR Y = some .long then _ else _) = _
  rw [if_pos ⟨rfl, hr⟩]) k
theorem q_aret {a i : Nat} (pc : Nat) (hd : decode (mtC Y) pc = .ok (.areturn, 1)) (hr : mtR Y = some (.object "Endlessrows$Row") ∨ mtR Y = some (.object "Endlessrows$Well")) (k : Q (some (vR a i)) M) : RunQ d Y pc ls [vR a i] M Q := q_ret hd (by
  show (if 1 = 1 then _ else none) = _
  rw [if_pos rfl]
  show (if ([] : List AV) = [] ∧ _ then _ else _) = _
  rw [if_pos ⟨rfl, hr⟩]) k
theorem q_vret (pc : Nat) (hd : decode (mtC Y) pc = .ok (.return_, 1)) (hr : mtR Y = none) (k : Q none M) : RunQ d Y pc ls [] M Q := q_ret hd (by
  show (if 1 = 1 ∧ ([] : List AV) = [] ∧ mtR Y = none then _ else _) = _
  rw [if_pos ⟨rfl, rfl, hr⟩]) k
end RULES
theorem ok_r6 {i : Nat} {j : Int} (h : okH 6 i = true) (hj : 0 ≤ wI j ∧ wI j < (6 : Nat)) : okH 1 (6 * i + (wI j).toNat) = true := by
  simp only [okH, decide_eq_true_eq] at h ⊢
  omega
theorem ok_r7 {j : Int} (hj : 0 ≤ wI j ∧ wI j < (6 : Nat)) : okH 1 (42 + (wI j).toNat) = true := by
  simp only [okH, decide_eq_true_eq]
  omega
theorem ok_w8 {j : Int} (hj : 0 ≤ wI j ∧ wI j < (5 : Nat)) : okH 2 (wI j).toNat = true := by
  simp only [okH, decide_eq_true_eq]
  omega
end
