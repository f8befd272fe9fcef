abbrev MT : Type := MethodName × ByteArray × Nat × Option FieldType × Nat × Nat × Bool
def mtN (Y : MT) : MethodName := Y.1
def mtC (Y : MT) : ByteArray := Y.2.1
def mtL (Y : MT) : Nat := Y.2.2.1
def mtR (Y : MT) : Option FieldType := Y.2.2.2.1
def mtK (Y : MT) : Nat := Y.2.2.2.2.1
def mtA (Y : MT) : Nat := Y.2.2.2.2.2.1
def mtS (Y : MT) : Bool := Y.2.2.2.2.2.2
def cN (c : Nat) : String := match c with
  | 0 => RX0
  | 1 => RX1
  | 2 => RX2
  | 3 => RX3
  | 4 => RL
  | _ => RJ6
def tT (c : Nat) : u_T := match c with
  | 0 => TX0
  | 1 => TX1
  | 2 => TX2
  | _ => TX3
def nF (c : Nat) : Nat := match c with
  | 0 => 2
  | 1 => 2
  | 2 => 8
  | _ => 6
def er_cl : List vw_C := [(RX0, TX0, 2), (RX1, TX1, 2), (RX2, TX2, 8), (RX3, TX3, 6)]
def m_Q_keyOf : MT := (yX0_keyOf, cX0_keyOf, 2, (some .int), 0, 2, true)
def m_Q_numberOf : MT := (yX0_numberOf, cX0_numberOf, 1, (some .int), 0, 1, true)
def m_Q_tagOf : MT := (yX0_tagOf, cX0_tagOf, 1, (some .int), 0, 1, true)
def m_Q_firstNumber : MT := (yX0_firstNumber, cX0_firstNumber, 1, (some .int), 0, 0, false)
def m_Q_push : MT := (yX0_push, cX0_push, 3, none, 0, 1, false)
def m_Q_pop : MT := (yX0_pop, cX0_pop, 2, (some .int), 0, 0, false)
def m_Q_sink : MT := (yX0_sink, cX0_sink, 4, none, 0, 1, false)
def m_Q_turnOver : MT := (yX0_turnOver, cX0_turnOver, 3, none, 0, 0, false)
def m_Q_remove : MT := (yX0_remove, cX0_remove, 2, none, 0, 1, false)
def m_Q_refill : MT := (yX0_refill, cX0_refill, 5, none, 0, 2, false)
def m_Q_holds : MT := (yX0_holds, cX0_holds, 3, (some .boolean), 0, 1, false)
def m_Q_countUpTo : MT := (yX0_countUpTo, cX0_countUpTo, 4, (some .int), 0, 1, false)
def m_Q_become : MT := (yX0_become, cX0_become, 2, none, 0, 1, false)
def m_R_numberAt : MT := (yX1_numberAt, cX1_numberAt, 2, (some .int), 1, 1, false)
def m_R_append : MT := (yX1_append, cX1_append, 2, (some .boolean), 1, 1, false)
def m_R_removeLast : MT := (yX1_removeLast, cX1_removeLast, 2, (some .int), 1, 0, false)
def m_R_become : MT := (yX1_become, cX1_become, 2, none, 1, 1, false)
def m_R_countUpTo : MT := (yX1_countUpTo, cX1_countUpTo, 3, (some .int), 1, 1, false)
def m_R_isRising : MT := (yX1_isRising, cX1_isRising, 2, (some .boolean), 1, 0, false)
def m_W_beginGrid : MT := (yX2_beginGrid, cX2_beginGrid, 5, none, 2, 4, false)
def m_W_beginMerged : MT := (yX2_beginMerged, cX2_beginMerged, 4, none, 2, 3, false)
def m_W_begin : MT := (yX2_begin, cX2_begin, 4, none, 2, 3, false)
def m_W_restart : MT := (yX2_restart, cX2_restart, 2, none, 2, 0, false)
def m_W_become : MT := (yX2_become, cX2_become, 2, none, 2, 1, false)
def m_W_takeRows : MT := (yX2_takeRows, cX2_takeRows, 3, none, 2, 1, false)
def m_W_tell : MT := (yX2_tell, cX2_tell, 3, (some .int), 2, 0, false)
def m_W_tellBelow : MT := (yX2_tellBelow, cX2_tellBelow, 4, (some .int), 2, 2, false)
def m_W_tellPrime : MT := (yX2_tellPrime, cX2_tellPrime, 4, none, 2, 0, false)
def m_W_offerProducts : MT := (yX2_offerProducts, cX2_offerProducts, 4, none, 2, 2, false)
def m_W_offerNeighbours : MT := (yX2_offerNeighbours, cX2_offerNeighbours, 4, none, 2, 3, false)
def m_W_offerOfGrid : MT := (yX2_offerOfGrid, cX2_offerOfGrid, 4, none, 2, 3, false)
def m_W_offerOfRow : MT := (yX2_offerOfRow, cX2_offerOfRow, 3, none, 2, 2, false)
def m_W_closeRow : MT := (yX2_closeRow, cX2_closeRow, 4, (some .int), 2, 1, false)
def m_W_isEmpty : MT := (yX2_isEmpty, cX2_isEmpty, 1, (some .boolean), 2, 0, false)
def m_W_isDry : MT := (yX2_isDry, cX2_isDry, 1, (some .boolean), 2, 0, false)
def m_W_nextNumber : MT := (yX2_nextNumber, cX2_nextNumber, 2, (some .int), 2, 0, false)
def m_W_numberBehind : MT := (yX2_numberBehind, cX2_numberBehind, 2, (some .int), 2, 1, false)
def m_W_lastNumber : MT := (yX2_lastNumber, cX2_lastNumber, 1, (some .int), 2, 0, false)
def m_W_lastPlace : MT := (yX2_lastPlace, cX2_lastPlace, 4, (some .int), 2, 1, false)
def m_W_limit : MT := (yX2_limit, cX2_limit, 1, (some .int), 2, 0, false)
def m_W_hasPlaces : MT := (yX2_hasPlaces, cX2_hasPlaces, 1, (some .boolean), 2, 0, false)
def m_W_tagAt : MT := (yX2_tagAt, cX2_tagAt, 6, (some .int), 2, 3, false)
def m_W_canCountTo : MT := (yX2_canCountTo, cX2_canCountTo, 2, (some .boolean), 2, 1, false)
def m_W_countUpTo : MT := (yX2_countUpTo, cX2_countUpTo, 2, (some .int), 2, 1, false)
def m_W_countProducts : MT := (yX2_countProducts, cX2_countProducts, 7, (some .int), 2, 4, true)
def m_W_countOfRows : MT := (yX2_countOfRows, cX2_countOfRows, 4, (some .int), 2, 1, false)
def m_W_countPrimes : MT := (yX2_countPrimes, cX2_countPrimes, 3, (some .int), 2, 1, true)
def m_W_countOfGrid : MT := (yX2_countOfGrid, cX2_countOfGrid, 6, (some .int), 2, 1, false)
def m_W_isGrid : MT := (yX2_isGrid, cX2_isGrid, 1, (some .boolean), 2, 0, false)
def m_W_isMember : MT := (yX2_isMember, cX2_isMember, 2, (some .boolean), 2, 2, true)
def m_W_rankOf : MT := (yX2_rankOf, cX2_rankOf, 2, (some .int), 2, 1, false)
def m_W_gridNumber : MT := (yX2_gridNumber, cX2_gridNumber, 6, (some .int), 2, 3, false)
def m_W_isPrime : MT := (yX2_isPrime, cX2_isPrime, 2, (some .boolean), 2, 1, true)
def m_H_add : MT := (yX3_add, cX3_add, 4, (some .int), 3, 2, false)
def m_H_cut : MT := (yX3_cut, cX3_cut, 3, (some .int), 3, 1, false)
def m_H_fill : MT := (yX3_fill, cX3_fill, 7, (some .int), 3, 4, false)
def m_H_rowAt : MT := (yX3_rowAt, cX3_rowAt, 4, (some .int), 3, 2, false)
def m_H_rowSize : MT := (yX3_rowSize, cX3_rowSize, 2, (some .int), 3, 1, false)
def m_H_least : MT := (yX3_least, cX3_least, 3, (some .int), 3, 2, false)
def m_H_powers : MT := (yX3_powers, cX3_powers, 4, (some .int), 3, 2, false)
def m_H_sums : MT := (yX3_sums, cX3_sums, 5, (some .int), 3, 3, false)
def m_H_triples : MT := (yX3_triples, cX3_triples, 6, (some .int), 3, 4, false)
def m_H_merge : MT := (yX3_merge, cX3_merge, 5, (some .int), 3, 3, false)
def m_H_table : MT := (yX3_table, cX3_table, 5, (some .int), 3, 3, false)
def m_H_primes : MT := (yX3_primes, cX3_primes, 3, (some .int), 3, 1, false)
def m_H_draw : MT := (yX3_draw, cX3_draw, 3, (some .int), 3, 1, false)
def m_H_draws : MT := (yX3_draws, cX3_draws, 4, (some .int), 3, 2, false)
def m_H_skip : MT := (yX3_skip, cX3_skip, 4, (some .int), 3, 2, false)
def m_H_copy : MT := (yX3_copy, cX3_copy, 5, (some .int), 3, 2, false)
def m_H_shake : MT := (yX3_shake, cX3_shake, 3, (some .int), 3, 1, false)
def m_H_anew : MT := (yX3_anew, cX3_anew, 3, (some .int), 3, 1, false)
def m_H_again : MT := (yX3_again, cX3_again, 4, (some .int), 3, 1, false)
def m_H_close : MT := (yX3_close, cX3_close, 4, (some .int), 3, 2, false)
def m_H_drop : MT := (yX3_drop, cX3_drop, 4, (some .int), 3, 1, false)
def m_H_peek : MT := (yX3_peek, cX3_peek, 3, (some .int), 3, 1, false)
def m_H_ofWell : MT := (yX3_ofWell, cX3_ofWell, 4, (some .int), 3, 2, false)
def m_H_nth : MT := (yX3_nth, cX3_nth, 4, (some .int), 3, 2, false)
def m_H_upTo : MT := (yX3_upTo, cX3_upTo, 4, (some .int), 3, 2, false)
def m_H_ways : MT := (yX3_ways, cX3_ways, 4, (some .int), 3, 2, false)
def m_H_waits : MT := (yX3_waits, cX3_waits, 4, (some .int), 3, 2, false)
def m_H_isAlike : MT := (yX3_isAlike, cX3_isAlike, 5, (some .boolean), 3, 2, false)
def m_H_house : MT := (yX3_house, cX3_house, 4, (some .int), 3, 1, false)
def m_H_isSound : MT := (yX3_isSound, cX3_isSound, 2, (some .boolean), 3, 0, false)
def m_H_digest : MT := (yX3_digest, cX3_digest, 6, (some .long), 3, 0, false)
def m_H_findRow : MT := (yX3_findRow, cX3_findRow, 2, (some (.object "Endlessrows$Row")), 3, 1, false)
def m_H_findWell : MT := (yX3_findWell, cX3_findWell, 2, (some (.object "Endlessrows$Well")), 3, 1, false)
def m_H_requirePlace : MT := (yX3_requirePlace, cX3_requirePlace, 2, none, 3, 2, true)
def m_H_requireWithin : MT := (yX3_requireWithin, cX3_requireWithin, 3, none, 3, 3, true)
def m_H_doTrialsTellAlike : MT := (yX3_doTrialsTellAlike, cX3_doTrialsTellAlike, 2, (some .boolean), 3, 0, false)
def m_H_shareOf : MT := (yX3_shareOf, cX3_shareOf, 2, (some .int), 3, 2, true)
def m_H_areRowsRising : MT := (yX3_areRowsRising, cX3_areRowsRising, 2, (some .boolean), 3, 0, false)
def m_H_areQueuesWithinLimits : MT := (yX3_areQueuesWithinLimits, cX3_areQueuesWithinLimits, 2, (some .boolean), 3, 0, false)
def m_H_hasToldNoMoreThanIs : MT := (yX3_hasToldNoMoreThanIs, cX3_hasToldNoMoreThanIs, 2, (some .boolean), 3, 1, true)
def m_J_bitCount : MT := (yJ6_bitCount_0f7a4, cJ6_bitCount_0f7a4, 1, (some .int), 5, 1, true)
def m_L_below : MT := (yL_below, cL_below, 2, (some .int), 4, 2, true)
def m_L_cell : MT := (yL_cell, cL_cell, 2, (some .int), 4, 2, true)
def m_L_roll : MT := (yL_roll, cL_roll, 3, (some .int), 4, 2, true)
def m_L_begin : MT := (yL_begin, cL_begin, 7, none, 4, 5, true)
def m_L_act : MT := (yL_act, cL_act, 5, none, 4, 5, true)
def m_L_isPrime : MT := (yL_isPrime, cL_isPrime, 2, (some .boolean), 4, 1, true)
def m_L_isCourse : MT := (yL_isCourse, cL_isCourse, 13, (some .boolean), 4, 4, true)
def m_L_isGoing : MT := (yL_isGoing, cL_isGoing, 7, (some .boolean), 4, 4, true)
def m_L_isMerged : MT := (yL_isMerged, cL_isMerged, 12, (some .boolean), 4, 6, true)
def m_L_exponents : MT := (yL_exponents, cL_exponents, 5, (some .int), 4, 3, true)
def m_L_isCounted : MT := (yL_isCounted, cL_isCounted, 13, (some .boolean), 4, 5, true)
def m_L_law : MT := (yL_law, code, 6, some .boolean, 4, 1, true)
/-- what the tables say of a method -/
def mtOK (Y : MT) : Prop := Cond.code (mtN Y) (mtC Y) (mtL Y) (mtR Y) ∈ er_G ∧ Cond.initialized (mtN Y).cls ∈ er_G ∧ (mtN Y).cls = cN (mtK Y) ∧ plainName (mtN Y).cls = true ∧ ((mtN Y).cls ≠ "java/lang/invoke/MethodHandle" ∧ (mtN Y).cls ≠ "java/lang/invoke/VarHandle" ∧ (parseMethodDescriptor (mtN Y).desc).map (fun d => d.parameters.length) = some (mtA Y)) ∧ mtL Y ≤ 13 ∧ (if mtS Y = true then Cond.static (mtN Y) ∈ er_G else (Cond.instanceMethod (mtN Y) ∈ er_G ∧ Cond.selects (mtN Y).cls (mtN Y) (mtN Y) ∈ er_G ∧ mtK Y < 4))
theorem m_Q_keyOf_ok : mtOK m_Q_keyOf := ⟨er_in 387 (by decide +kernel) rfl, er_in 23 (by decide +kernel) rfl, rfl, by decide +kernel, ⟨by decide +kernel, by decide +kernel, by decide +kernel⟩, by decide, er_in 386 (by decide +kernel) rfl⟩
theorem m_Q_numberOf_ok : mtOK m_Q_numberOf := ⟨er_in 316 (by decide +kernel) rfl, er_in 23 (by decide +kernel) rfl, rfl, by decide +kernel, ⟨by decide +kernel, by decide +kernel, by decide +kernel⟩, by decide, er_in 315 (by decide +kernel) rfl⟩
theorem m_Q_tagOf_ok : mtOK m_Q_tagOf := ⟨er_in 302 (by decide +kernel) rfl, er_in 23 (by decide +kernel) rfl, rfl, by decide +kernel, ⟨by decide +kernel, by decide +kernel, by decide +kernel⟩, by decide, er_in 301 (by decide +kernel) rfl⟩
theorem m_Q_firstNumber_ok : mtOK m_Q_firstNumber := ⟨er_in 380 (by decide +kernel) rfl, er_in 23 (by decide +kernel) rfl, rfl, by decide +kernel, ⟨by decide +kernel, by decide +kernel, by decide +kernel⟩, by decide, ⟨er_in 378 (by decide +kernel) rfl, er_in 379 (by decide +kernel) rfl, by decide⟩⟩
theorem m_Q_push_ok : mtOK m_Q_push := ⟨er_in 306 (by decide +kernel) rfl, er_in 23 (by decide +kernel) rfl, rfl, by decide +kernel, ⟨by decide +kernel, by decide +kernel, by decide +kernel⟩, by decide, ⟨er_in 304 (by decide +kernel) rfl, er_in 305 (by decide +kernel) rfl, by decide⟩⟩
theorem m_Q_pop_ok : mtOK m_Q_pop := ⟨er_in 291 (by decide +kernel) rfl, er_in 23 (by decide +kernel) rfl, rfl, by decide +kernel, ⟨by decide +kernel, by decide +kernel, by decide +kernel⟩, by decide, ⟨er_in 289 (by decide +kernel) rfl, er_in 290 (by decide +kernel) rfl, by decide⟩⟩
theorem m_Q_sink_ok : mtOK m_Q_sink := ⟨er_in 295 (by decide +kernel) rfl, er_in 23 (by decide +kernel) rfl, rfl, by decide +kernel, ⟨by decide +kernel, by decide +kernel, by decide +kernel⟩, by decide, ⟨er_in 294 (by decide +kernel) rfl, er_in 5 (by decide +kernel) rfl, by decide⟩⟩
theorem m_Q_turnOver_ok : mtOK m_Q_turnOver := ⟨er_in 287 (by decide +kernel) rfl, er_in 23 (by decide +kernel) rfl, rfl, by decide +kernel, ⟨by decide +kernel, by decide +kernel, by decide +kernel⟩, by decide, ⟨er_in 285 (by decide +kernel) rfl, er_in 286 (by decide +kernel) rfl, by decide⟩⟩
theorem m_Q_remove_ok : mtOK m_Q_remove := ⟨er_in 516 (by decide +kernel) rfl, er_in 23 (by decide +kernel) rfl, rfl, by decide +kernel, ⟨by decide +kernel, by decide +kernel, by decide +kernel⟩, by decide, ⟨er_in 514 (by decide +kernel) rfl, er_in 515 (by decide +kernel) rfl, by decide⟩⟩
theorem m_Q_refill_ok : mtOK m_Q_refill := ⟨er_in 299 (by decide +kernel) rfl, er_in 23 (by decide +kernel) rfl, rfl, by decide +kernel, ⟨by decide +kernel, by decide +kernel, by decide +kernel⟩, by decide, ⟨er_in 298 (by decide +kernel) rfl, er_in 6 (by decide +kernel) rfl, by decide⟩⟩
theorem m_Q_holds_ok : mtOK m_Q_holds := ⟨er_in 512 (by decide +kernel) rfl, er_in 23 (by decide +kernel) rfl, rfl, by decide +kernel, ⟨by decide +kernel, by decide +kernel, by decide +kernel⟩, by decide, ⟨er_in 510 (by decide +kernel) rfl, er_in 511 (by decide +kernel) rfl, by decide⟩⟩
theorem m_Q_countUpTo_ok : mtOK m_Q_countUpTo := ⟨er_in 610 (by decide +kernel) rfl, er_in 23 (by decide +kernel) rfl, rfl, by decide +kernel, ⟨by decide +kernel, by decide +kernel, by decide +kernel⟩, by decide, ⟨er_in 608 (by decide +kernel) rfl, er_in 609 (by decide +kernel) rfl, by decide⟩⟩
theorem m_Q_become_ok : mtOK m_Q_become := ⟨er_in 282 (by decide +kernel) rfl, er_in 23 (by decide +kernel) rfl, rfl, by decide +kernel, ⟨by decide +kernel, by decide +kernel, by decide +kernel⟩, by decide, ⟨er_in 280 (by decide +kernel) rfl, er_in 281 (by decide +kernel) rfl, by decide⟩⟩
theorem m_R_numberAt_ok : mtOK m_R_numberAt := ⟨er_in 117 (by decide +kernel) rfl, er_in 21 (by decide +kernel) rfl, rfl, by decide +kernel, ⟨by decide +kernel, by decide +kernel, by decide +kernel⟩, by decide, ⟨er_in 115 (by decide +kernel) rfl, er_in 116 (by decide +kernel) rfl, by decide⟩⟩
theorem m_R_append_ok : mtOK m_R_append := ⟨er_in 113 (by decide +kernel) rfl, er_in 21 (by decide +kernel) rfl, rfl, by decide +kernel, ⟨by decide +kernel, by decide +kernel, by decide +kernel⟩, by decide, ⟨er_in 111 (by decide +kernel) rfl, er_in 112 (by decide +kernel) rfl, by decide⟩⟩
theorem m_R_removeLast_ok : mtOK m_R_removeLast := ⟨er_in 492 (by decide +kernel) rfl, er_in 21 (by decide +kernel) rfl, rfl, by decide +kernel, ⟨by decide +kernel, by decide +kernel, by decide +kernel⟩, by decide, ⟨er_in 490 (by decide +kernel) rfl, er_in 491 (by decide +kernel) rfl, by decide⟩⟩
theorem m_R_become_ok : mtOK m_R_become := ⟨er_in 275 (by decide +kernel) rfl, er_in 21 (by decide +kernel) rfl, rfl, by decide +kernel, ⟨by decide +kernel, by decide +kernel, by decide +kernel⟩, by decide, ⟨er_in 273 (by decide +kernel) rfl, er_in 274 (by decide +kernel) rfl, by decide⟩⟩
theorem m_R_countUpTo_ok : mtOK m_R_countUpTo := ⟨er_in 341 (by decide +kernel) rfl, er_in 21 (by decide +kernel) rfl, rfl, by decide +kernel, ⟨by decide +kernel, by decide +kernel, by decide +kernel⟩, by decide, ⟨er_in 339 (by decide +kernel) rfl, er_in 340 (by decide +kernel) rfl, by decide⟩⟩
theorem m_R_isRising_ok : mtOK m_R_isRising := ⟨er_in 242 (by decide +kernel) rfl, er_in 21 (by decide +kernel) rfl, rfl, by decide +kernel, ⟨by decide +kernel, by decide +kernel, by decide +kernel⟩, by decide, ⟨er_in 240 (by decide +kernel) rfl, er_in 241 (by decide +kernel) rfl, by decide⟩⟩
theorem m_W_beginGrid_ok : mtOK m_W_beginGrid := ⟨er_in 456 (by decide +kernel) rfl, er_in 22 (by decide +kernel) rfl, rfl, by decide +kernel, ⟨by decide +kernel, by decide +kernel, by decide +kernel⟩, by decide, ⟨er_in 454 (by decide +kernel) rfl, er_in 455 (by decide +kernel) rfl, by decide⟩⟩
theorem m_W_beginMerged_ok : mtOK m_W_beginMerged := ⟨er_in 469 (by decide +kernel) rfl, er_in 22 (by decide +kernel) rfl, rfl, by decide +kernel, ⟨by decide +kernel, by decide +kernel, by decide +kernel⟩, by decide, ⟨er_in 467 (by decide +kernel) rfl, er_in 468 (by decide +kernel) rfl, by decide⟩⟩
theorem m_W_begin_ok : mtOK m_W_begin := ⟨er_in 440 (by decide +kernel) rfl, er_in 22 (by decide +kernel) rfl, rfl, by decide +kernel, ⟨by decide +kernel, by decide +kernel, by decide +kernel⟩, by decide, ⟨er_in 438 (by decide +kernel) rfl, er_in 439 (by decide +kernel) rfl, by decide⟩⟩
theorem m_W_restart_ok : mtOK m_W_restart := ⟨er_in 444 (by decide +kernel) rfl, er_in 22 (by decide +kernel) rfl, rfl, by decide +kernel, ⟨by decide +kernel, by decide +kernel, by decide +kernel⟩, by decide, ⟨er_in 442 (by decide +kernel) rfl, er_in 443 (by decide +kernel) rfl, by decide⟩⟩
theorem m_W_become_ok : mtOK m_W_become := ⟨er_in 267 (by decide +kernel) rfl, er_in 22 (by decide +kernel) rfl, rfl, by decide +kernel, ⟨by decide +kernel, by decide +kernel, by decide +kernel⟩, by decide, ⟨er_in 265 (by decide +kernel) rfl, er_in 266 (by decide +kernel) rfl, by decide⟩⟩
theorem m_W_takeRows_ok : mtOK m_W_takeRows := ⟨er_in 271 (by decide +kernel) rfl, er_in 22 (by decide +kernel) rfl, rfl, by decide +kernel, ⟨by decide +kernel, by decide +kernel, by decide +kernel⟩, by decide, ⟨er_in 270 (by decide +kernel) rfl, er_in 4 (by decide +kernel) rfl, by decide⟩⟩
theorem m_W_tell_ok : mtOK m_W_tell := ⟨er_in 368 (by decide +kernel) rfl, er_in 22 (by decide +kernel) rfl, rfl, by decide +kernel, ⟨by decide +kernel, by decide +kernel, by decide +kernel⟩, by decide, ⟨er_in 366 (by decide +kernel) rfl, er_in 367 (by decide +kernel) rfl, by decide⟩⟩
theorem m_W_tellBelow_ok : mtOK m_W_tellBelow := ⟨er_in 526 (by decide +kernel) rfl, er_in 22 (by decide +kernel) rfl, rfl, by decide +kernel, ⟨by decide +kernel, by decide +kernel, by decide +kernel⟩, by decide, ⟨er_in 524 (by decide +kernel) rfl, er_in 525 (by decide +kernel) rfl, by decide⟩⟩
theorem m_W_tellPrime_ok : mtOK m_W_tellPrime := ⟨er_in 372 (by decide +kernel) rfl, er_in 22 (by decide +kernel) rfl, rfl, by decide +kernel, ⟨by decide +kernel, by decide +kernel, by decide +kernel⟩, by decide, ⟨er_in 371 (by decide +kernel) rfl, er_in 11 (by decide +kernel) rfl, by decide⟩⟩
theorem m_W_offerProducts_ok : mtOK m_W_offerProducts := ⟨er_in 392 (by decide +kernel) rfl, er_in 22 (by decide +kernel) rfl, rfl, by decide +kernel, ⟨by decide +kernel, by decide +kernel, by decide +kernel⟩, by decide, ⟨er_in 391 (by decide +kernel) rfl, er_in 12 (by decide +kernel) rfl, by decide⟩⟩
theorem m_W_offerNeighbours_ok : mtOK m_W_offerNeighbours := ⟨er_in 407 (by decide +kernel) rfl, er_in 22 (by decide +kernel) rfl, rfl, by decide +kernel, ⟨by decide +kernel, by decide +kernel, by decide +kernel⟩, by decide, ⟨er_in 406 (by decide +kernel) rfl, er_in 15 (by decide +kernel) rfl, by decide⟩⟩
theorem m_W_offerOfGrid_ok : mtOK m_W_offerOfGrid := ⟨er_in 411 (by decide +kernel) rfl, er_in 22 (by decide +kernel) rfl, rfl, by decide +kernel, ⟨by decide +kernel, by decide +kernel, by decide +kernel⟩, by decide, ⟨er_in 410 (by decide +kernel) rfl, er_in 16 (by decide +kernel) rfl, by decide⟩⟩
theorem m_W_offerOfRow_ok : mtOK m_W_offerOfRow := ⟨er_in 403 (by decide +kernel) rfl, er_in 22 (by decide +kernel) rfl, rfl, by decide +kernel, ⟨by decide +kernel, by decide +kernel, by decide +kernel⟩, by decide, ⟨er_in 402 (by decide +kernel) rfl, er_in 14 (by decide +kernel) rfl, by decide⟩⟩
theorem m_W_closeRow_ok : mtOK m_W_closeRow := ⟨er_in 504 (by decide +kernel) rfl, er_in 22 (by decide +kernel) rfl, rfl, by decide +kernel, ⟨by decide +kernel, by decide +kernel, by decide +kernel⟩, by decide, ⟨er_in 502 (by decide +kernel) rfl, er_in 503 (by decide +kernel) rfl, by decide⟩⟩
theorem m_W_isEmpty_ok : mtOK m_W_isEmpty := ⟨er_in 263 (by decide +kernel) rfl, er_in 22 (by decide +kernel) rfl, rfl, by decide +kernel, ⟨by decide +kernel, by decide +kernel, by decide +kernel⟩, by decide, ⟨er_in 261 (by decide +kernel) rfl, er_in 262 (by decide +kernel) rfl, by decide⟩⟩
theorem m_W_isDry_ok : mtOK m_W_isDry := ⟨er_in 364 (by decide +kernel) rfl, er_in 22 (by decide +kernel) rfl, rfl, by decide +kernel, ⟨by decide +kernel, by decide +kernel, by decide +kernel⟩, by decide, ⟨er_in 362 (by decide +kernel) rfl, er_in 363 (by decide +kernel) rfl, by decide⟩⟩
theorem m_W_nextNumber_ok : mtOK m_W_nextNumber := ⟨er_in 376 (by decide +kernel) rfl, er_in 22 (by decide +kernel) rfl, rfl, by decide +kernel, ⟨by decide +kernel, by decide +kernel, by decide +kernel⟩, by decide, ⟨er_in 374 (by decide +kernel) rfl, er_in 375 (by decide +kernel) rfl, by decide⟩⟩
theorem m_W_numberBehind_ok : mtOK m_W_numberBehind := ⟨er_in 622 (by decide +kernel) rfl, er_in 22 (by decide +kernel) rfl, rfl, by decide +kernel, ⟨by decide +kernel, by decide +kernel, by decide +kernel⟩, by decide, ⟨er_in 620 (by decide +kernel) rfl, er_in 621 (by decide +kernel) rfl, by decide⟩⟩
theorem m_W_lastNumber_ok : mtOK m_W_lastNumber := ⟨er_in 313 (by decide +kernel) rfl, er_in 22 (by decide +kernel) rfl, rfl, by decide +kernel, ⟨by decide +kernel, by decide +kernel, by decide +kernel⟩, by decide, ⟨er_in 311 (by decide +kernel) rfl, er_in 312 (by decide +kernel) rfl, by decide⟩⟩
theorem m_W_lastPlace_ok : mtOK m_W_lastPlace := ⟨er_in 568 (by decide +kernel) rfl, er_in 22 (by decide +kernel) rfl, rfl, by decide +kernel, ⟨by decide +kernel, by decide +kernel, by decide +kernel⟩, by decide, ⟨er_in 566 (by decide +kernel) rfl, er_in 567 (by decide +kernel) rfl, by decide⟩⟩
theorem m_W_limit_ok : mtOK m_W_limit := ⟨er_in 250 (by decide +kernel) rfl, er_in 22 (by decide +kernel) rfl, rfl, by decide +kernel, ⟨by decide +kernel, by decide +kernel, by decide +kernel⟩, by decide, ⟨er_in 248 (by decide +kernel) rfl, er_in 249 (by decide +kernel) rfl, by decide⟩⟩
theorem m_W_hasPlaces_ok : mtOK m_W_hasPlaces := ⟨er_in 572 (by decide +kernel) rfl, er_in 22 (by decide +kernel) rfl, rfl, by decide +kernel, ⟨by decide +kernel, by decide +kernel, by decide +kernel⟩, by decide, ⟨er_in 570 (by decide +kernel) rfl, er_in 571 (by decide +kernel) rfl, by decide⟩⟩
theorem m_W_tagAt_ok : mtOK m_W_tagAt := ⟨er_in 508 (by decide +kernel) rfl, er_in 22 (by decide +kernel) rfl, rfl, by decide +kernel, ⟨by decide +kernel, by decide +kernel, by decide +kernel⟩, by decide, ⟨er_in 506 (by decide +kernel) rfl, er_in 507 (by decide +kernel) rfl, by decide⟩⟩
theorem m_W_canCountTo_ok : mtOK m_W_canCountTo := ⟨er_in 320 (by decide +kernel) rfl, er_in 22 (by decide +kernel) rfl, rfl, by decide +kernel, ⟨by decide +kernel, by decide +kernel, by decide +kernel⟩, by decide, ⟨er_in 318 (by decide +kernel) rfl, er_in 319 (by decide +kernel) rfl, by decide⟩⟩
theorem m_W_countUpTo_ok : mtOK m_W_countUpTo := ⟨er_in 324 (by decide +kernel) rfl, er_in 22 (by decide +kernel) rfl, rfl, by decide +kernel, ⟨by decide +kernel, by decide +kernel, by decide +kernel⟩, by decide, ⟨er_in 322 (by decide +kernel) rfl, er_in 323 (by decide +kernel) rfl, by decide⟩⟩
theorem m_W_countProducts_ok : mtOK m_W_countProducts := ⟨er_in 328 (by decide +kernel) rfl, er_in 22 (by decide +kernel) rfl, rfl, by decide +kernel, ⟨by decide +kernel, by decide +kernel, by decide +kernel⟩, by decide, er_in 327 (by decide +kernel) rfl⟩
theorem m_W_countOfRows_ok : mtOK m_W_countOfRows := ⟨er_in 337 (by decide +kernel) rfl, er_in 22 (by decide +kernel) rfl, rfl, by decide +kernel, ⟨by decide +kernel, by decide +kernel, by decide +kernel⟩, by decide, ⟨er_in 336 (by decide +kernel) rfl, er_in 7 (by decide +kernel) rfl, by decide⟩⟩
theorem m_W_countPrimes_ok : mtOK m_W_countPrimes := ⟨er_in 344 (by decide +kernel) rfl, er_in 22 (by decide +kernel) rfl, rfl, by decide +kernel, ⟨by decide +kernel, by decide +kernel, by decide +kernel⟩, by decide, er_in 343 (by decide +kernel) rfl⟩
theorem m_W_countOfGrid_ok : mtOK m_W_countOfGrid := ⟨er_in 351 (by decide +kernel) rfl, er_in 22 (by decide +kernel) rfl, rfl, by decide +kernel, ⟨by decide +kernel, by decide +kernel, by decide +kernel⟩, by decide, ⟨er_in 350 (by decide +kernel) rfl, er_in 8 (by decide +kernel) rfl, by decide⟩⟩
theorem m_W_isGrid_ok : mtOK m_W_isGrid := ⟨er_in 448 (by decide +kernel) rfl, er_in 22 (by decide +kernel) rfl, rfl, by decide +kernel, ⟨by decide +kernel, by decide +kernel, by decide +kernel⟩, by decide, ⟨er_in 447 (by decide +kernel) rfl, er_in 18 (by decide +kernel) rfl, by decide⟩⟩
theorem m_W_isMember_ok : mtOK m_W_isMember := ⟨er_in 333 (by decide +kernel) rfl, er_in 22 (by decide +kernel) rfl, rfl, by decide +kernel, ⟨by decide +kernel, by decide +kernel, by decide +kernel⟩, by decide, er_in 332 (by decide +kernel) rfl⟩
theorem m_W_rankOf_ok : mtOK m_W_rankOf := ⟨er_in 399 (by decide +kernel) rfl, er_in 22 (by decide +kernel) rfl, rfl, by decide +kernel, ⟨by decide +kernel, by decide +kernel, by decide +kernel⟩, by decide, ⟨er_in 398 (by decide +kernel) rfl, er_in 13 (by decide +kernel) rfl, by decide⟩⟩
theorem m_W_gridNumber_ok : mtOK m_W_gridNumber := ⟨er_in 355 (by decide +kernel) rfl, er_in 22 (by decide +kernel) rfl, rfl, by decide +kernel, ⟨by decide +kernel, by decide +kernel, by decide +kernel⟩, by decide, ⟨er_in 354 (by decide +kernel) rfl, er_in 9 (by decide +kernel) rfl, by decide⟩⟩
theorem m_W_isPrime_ok : mtOK m_W_isPrime := ⟨er_in 347 (by decide +kernel) rfl, er_in 22 (by decide +kernel) rfl, rfl, by decide +kernel, ⟨by decide +kernel, by decide +kernel, by decide +kernel⟩, by decide, er_in 346 (by decide +kernel) rfl⟩
theorem m_H_add_ok : mtOK m_H_add := ⟨er_in 484 (by decide +kernel) rfl, er_in 20 (by decide +kernel) rfl, rfl, by decide +kernel, ⟨by decide +kernel, by decide +kernel, by decide +kernel⟩, by decide, ⟨er_in 482 (by decide +kernel) rfl, er_in 483 (by decide +kernel) rfl, by decide⟩⟩
theorem m_H_cut_ok : mtOK m_H_cut := ⟨er_in 488 (by decide +kernel) rfl, er_in 20 (by decide +kernel) rfl, rfl, by decide +kernel, ⟨by decide +kernel, by decide +kernel, by decide +kernel⟩, by decide, ⟨er_in 486 (by decide +kernel) rfl, er_in 487 (by decide +kernel) rfl, by decide⟩⟩
theorem m_H_fill_ok : mtOK m_H_fill := ⟨er_in 140 (by decide +kernel) rfl, er_in 20 (by decide +kernel) rfl, rfl, by decide +kernel, ⟨by decide +kernel, by decide +kernel, by decide +kernel⟩, by decide, ⟨er_in 138 (by decide +kernel) rfl, er_in 139 (by decide +kernel) rfl, by decide⟩⟩
theorem m_H_rowAt_ok : mtOK m_H_rowAt := ⟨er_in 593 (by decide +kernel) rfl, er_in 20 (by decide +kernel) rfl, rfl, by decide +kernel, ⟨by decide +kernel, by decide +kernel, by decide +kernel⟩, by decide, ⟨er_in 591 (by decide +kernel) rfl, er_in 592 (by decide +kernel) rfl, by decide⟩⟩
theorem m_H_rowSize_ok : mtOK m_H_rowSize := ⟨er_in 589 (by decide +kernel) rfl, er_in 20 (by decide +kernel) rfl, rfl, by decide +kernel, ⟨by decide +kernel, by decide +kernel, by decide +kernel⟩, by decide, ⟨er_in 587 (by decide +kernel) rfl, er_in 588 (by decide +kernel) rfl, by decide⟩⟩
theorem m_H_least_ok : mtOK m_H_least := ⟨er_in 646 (by decide +kernel) rfl, er_in 20 (by decide +kernel) rfl, rfl, by decide +kernel, ⟨by decide +kernel, by decide +kernel, by decide +kernel⟩, by decide, ⟨er_in 644 (by decide +kernel) rfl, er_in 645 (by decide +kernel) rfl, by decide⟩⟩
theorem m_H_powers_ok : mtOK m_H_powers := ⟨er_in 431 (by decide +kernel) rfl, er_in 20 (by decide +kernel) rfl, rfl, by decide +kernel, ⟨by decide +kernel, by decide +kernel, by decide +kernel⟩, by decide, ⟨er_in 429 (by decide +kernel) rfl, er_in 430 (by decide +kernel) rfl, by decide⟩⟩
theorem m_H_sums_ok : mtOK m_H_sums := ⟨er_in 452 (by decide +kernel) rfl, er_in 20 (by decide +kernel) rfl, rfl, by decide +kernel, ⟨by decide +kernel, by decide +kernel, by decide +kernel⟩, by decide, ⟨er_in 450 (by decide +kernel) rfl, er_in 451 (by decide +kernel) rfl, by decide⟩⟩
theorem m_H_triples_ok : mtOK m_H_triples := ⟨er_in 461 (by decide +kernel) rfl, er_in 20 (by decide +kernel) rfl, rfl, by decide +kernel, ⟨by decide +kernel, by decide +kernel, by decide +kernel⟩, by decide, ⟨er_in 459 (by decide +kernel) rfl, er_in 460 (by decide +kernel) rfl, by decide⟩⟩
theorem m_H_merge_ok : mtOK m_H_merge := ⟨er_in 465 (by decide +kernel) rfl, er_in 20 (by decide +kernel) rfl, rfl, by decide +kernel, ⟨by decide +kernel, by decide +kernel, by decide +kernel⟩, by decide, ⟨er_in 463 (by decide +kernel) rfl, er_in 464 (by decide +kernel) rfl, by decide⟩⟩
theorem m_H_table_ok : mtOK m_H_table := ⟨er_in 473 (by decide +kernel) rfl, er_in 20 (by decide +kernel) rfl, rfl, by decide +kernel, ⟨by decide +kernel, by decide +kernel, by decide +kernel⟩, by decide, ⟨er_in 471 (by decide +kernel) rfl, er_in 472 (by decide +kernel) rfl, by decide⟩⟩
theorem m_H_primes_ok : mtOK m_H_primes := ⟨er_in 477 (by decide +kernel) rfl, er_in 20 (by decide +kernel) rfl, rfl, by decide +kernel, ⟨by decide +kernel, by decide +kernel, by decide +kernel⟩, by decide, ⟨er_in 475 (by decide +kernel) rfl, er_in 476 (by decide +kernel) rfl, by decide⟩⟩
theorem m_H_draw_ok : mtOK m_H_draw := ⟨er_in 553 (by decide +kernel) rfl, er_in 20 (by decide +kernel) rfl, rfl, by decide +kernel, ⟨by decide +kernel, by decide +kernel, by decide +kernel⟩, by decide, ⟨er_in 551 (by decide +kernel) rfl, er_in 552 (by decide +kernel) rfl, by decide⟩⟩
theorem m_H_draws_ok : mtOK m_H_draws := ⟨er_in 557 (by decide +kernel) rfl, er_in 20 (by decide +kernel) rfl, rfl, by decide +kernel, ⟨by decide +kernel, by decide +kernel, by decide +kernel⟩, by decide, ⟨er_in 555 (by decide +kernel) rfl, er_in 556 (by decide +kernel) rfl, by decide⟩⟩
theorem m_H_skip_ok : mtOK m_H_skip := ⟨er_in 521 (by decide +kernel) rfl, er_in 20 (by decide +kernel) rfl, rfl, by decide +kernel, ⟨by decide +kernel, by decide +kernel, by decide +kernel⟩, by decide, ⟨er_in 519 (by decide +kernel) rfl, er_in 520 (by decide +kernel) rfl, by decide⟩⟩
theorem m_H_copy_ok : mtOK m_H_copy := ⟨er_in 532 (by decide +kernel) rfl, er_in 20 (by decide +kernel) rfl, rfl, by decide +kernel, ⟨by decide +kernel, by decide +kernel, by decide +kernel⟩, by decide, ⟨er_in 530 (by decide +kernel) rfl, er_in 531 (by decide +kernel) rfl, by decide⟩⟩
theorem m_H_shake_ok : mtOK m_H_shake := ⟨er_in 549 (by decide +kernel) rfl, er_in 20 (by decide +kernel) rfl, rfl, by decide +kernel, ⟨by decide +kernel, by decide +kernel, by decide +kernel⟩, by decide, ⟨er_in 547 (by decide +kernel) rfl, er_in 548 (by decide +kernel) rfl, by decide⟩⟩
theorem m_H_anew_ok : mtOK m_H_anew := ⟨er_in 536 (by decide +kernel) rfl, er_in 20 (by decide +kernel) rfl, rfl, by decide +kernel, ⟨by decide +kernel, by decide +kernel, by decide +kernel⟩, by decide, ⟨er_in 534 (by decide +kernel) rfl, er_in 535 (by decide +kernel) rfl, by decide⟩⟩
theorem m_H_again_ok : mtOK m_H_again := ⟨er_in 541 (by decide +kernel) rfl, er_in 20 (by decide +kernel) rfl, rfl, by decide +kernel, ⟨by decide +kernel, by decide +kernel, by decide +kernel⟩, by decide, ⟨er_in 539 (by decide +kernel) rfl, er_in 540 (by decide +kernel) rfl, by decide⟩⟩
theorem m_H_close_ok : mtOK m_H_close := ⟨er_in 496 (by decide +kernel) rfl, er_in 20 (by decide +kernel) rfl, rfl, by decide +kernel, ⟨by decide +kernel, by decide +kernel, by decide +kernel⟩, by decide, ⟨er_in 494 (by decide +kernel) rfl, er_in 495 (by decide +kernel) rfl, by decide⟩⟩
theorem m_H_drop_ok : mtOK m_H_drop := ⟨er_in 545 (by decide +kernel) rfl, er_in 20 (by decide +kernel) rfl, rfl, by decide +kernel, ⟨by decide +kernel, by decide +kernel, by decide +kernel⟩, by decide, ⟨er_in 543 (by decide +kernel) rfl, er_in 544 (by decide +kernel) rfl, by decide⟩⟩
theorem m_H_peek_ok : mtOK m_H_peek := ⟨er_in 599 (by decide +kernel) rfl, er_in 20 (by decide +kernel) rfl, rfl, by decide +kernel, ⟨by decide +kernel, by decide +kernel, by decide +kernel⟩, by decide, ⟨er_in 597 (by decide +kernel) rfl, er_in 598 (by decide +kernel) rfl, by decide⟩⟩
theorem m_H_ofWell_ok : mtOK m_H_ofWell := ⟨er_in 564 (by decide +kernel) rfl, er_in 20 (by decide +kernel) rfl, rfl, by decide +kernel, ⟨by decide +kernel, by decide +kernel, by decide +kernel⟩, by decide, ⟨er_in 562 (by decide +kernel) rfl, er_in 563 (by decide +kernel) rfl, by decide⟩⟩
theorem m_H_nth_ok : mtOK m_H_nth := ⟨er_in 618 (by decide +kernel) rfl, er_in 20 (by decide +kernel) rfl, rfl, by decide +kernel, ⟨by decide +kernel, by decide +kernel, by decide +kernel⟩, by decide, ⟨er_in 616 (by decide +kernel) rfl, er_in 617 (by decide +kernel) rfl, by decide⟩⟩
theorem m_H_upTo_ok : mtOK m_H_upTo := ⟨er_in 614 (by decide +kernel) rfl, er_in 20 (by decide +kernel) rfl, rfl, by decide +kernel, ⟨by decide +kernel, by decide +kernel, by decide +kernel⟩, by decide, ⟨er_in 612 (by decide +kernel) rfl, er_in 613 (by decide +kernel) rfl, by decide⟩⟩
theorem m_H_ways_ok : mtOK m_H_ways := ⟨er_in 632 (by decide +kernel) rfl, er_in 20 (by decide +kernel) rfl, rfl, by decide +kernel, ⟨by decide +kernel, by decide +kernel, by decide +kernel⟩, by decide, ⟨er_in 630 (by decide +kernel) rfl, er_in 631 (by decide +kernel) rfl, by decide⟩⟩
theorem m_H_waits_ok : mtOK m_H_waits := ⟨er_in 606 (by decide +kernel) rfl, er_in 20 (by decide +kernel) rfl, rfl, by decide +kernel, ⟨by decide +kernel, by decide +kernel, by decide +kernel⟩, by decide, ⟨er_in 604 (by decide +kernel) rfl, er_in 605 (by decide +kernel) rfl, by decide⟩⟩
theorem m_H_isAlike_ok : mtOK m_H_isAlike := ⟨er_in 639 (by decide +kernel) rfl, er_in 20 (by decide +kernel) rfl, rfl, by decide +kernel, ⟨by decide +kernel, by decide +kernel, by decide +kernel⟩, by decide, ⟨er_in 637 (by decide +kernel) rfl, er_in 638 (by decide +kernel) rfl, by decide⟩⟩
theorem m_H_house_ok : mtOK m_H_house := ⟨er_in 582 (by decide +kernel) rfl, er_in 20 (by decide +kernel) rfl, rfl, by decide +kernel, ⟨by decide +kernel, by decide +kernel, by decide +kernel⟩, by decide, ⟨er_in 580 (by decide +kernel) rfl, er_in 581 (by decide +kernel) rfl, by decide⟩⟩
theorem m_H_isSound_ok : mtOK m_H_isSound := ⟨er_in 234 (by decide +kernel) rfl, er_in 20 (by decide +kernel) rfl, rfl, by decide +kernel, ⟨by decide +kernel, by decide +kernel, by decide +kernel⟩, by decide, ⟨er_in 232 (by decide +kernel) rfl, er_in 233 (by decide +kernel) rfl, by decide⟩⟩
theorem m_H_digest_ok : mtOK m_H_digest := ⟨er_in 576 (by decide +kernel) rfl, er_in 20 (by decide +kernel) rfl, rfl, by decide +kernel, ⟨by decide +kernel, by decide +kernel, by decide +kernel⟩, by decide, ⟨er_in 574 (by decide +kernel) rfl, er_in 575 (by decide +kernel) rfl, by decide⟩⟩
theorem m_H_findRow_ok : mtOK m_H_findRow := ⟨er_in 144 (by decide +kernel) rfl, er_in 20 (by decide +kernel) rfl, rfl, by decide +kernel, ⟨by decide +kernel, by decide +kernel, by decide +kernel⟩, by decide, ⟨er_in 143 (by decide +kernel) rfl, er_in 0 (by decide +kernel) rfl, by decide⟩⟩
theorem m_H_findWell_ok : mtOK m_H_findWell := ⟨er_in 435 (by decide +kernel) rfl, er_in 20 (by decide +kernel) rfl, rfl, by decide +kernel, ⟨by decide +kernel, by decide +kernel, by decide +kernel⟩, by decide, ⟨er_in 434 (by decide +kernel) rfl, er_in 17 (by decide +kernel) rfl, by decide⟩⟩
theorem m_H_requirePlace_ok : mtOK m_H_requirePlace := ⟨er_in 499 (by decide +kernel) rfl, er_in 20 (by decide +kernel) rfl, rfl, by decide +kernel, ⟨by decide +kernel, by decide +kernel, by decide +kernel⟩, by decide, er_in 498 (by decide +kernel) rfl⟩
theorem m_H_requireWithin_ok : mtOK m_H_requireWithin := ⟨er_in 214 (by decide +kernel) rfl, er_in 20 (by decide +kernel) rfl, rfl, by decide +kernel, ⟨by decide +kernel, by decide +kernel, by decide +kernel⟩, by decide, er_in 213 (by decide +kernel) rfl⟩
theorem m_H_doTrialsTellAlike_ok : mtOK m_H_doTrialsTellAlike := ⟨er_in 360 (by decide +kernel) rfl, er_in 20 (by decide +kernel) rfl, rfl, by decide +kernel, ⟨by decide +kernel, by decide +kernel, by decide +kernel⟩, by decide, ⟨er_in 359 (by decide +kernel) rfl, er_in 10 (by decide +kernel) rfl, by decide⟩⟩
theorem m_H_shareOf_ok : mtOK m_H_shareOf := ⟨er_in 585 (by decide +kernel) rfl, er_in 20 (by decide +kernel) rfl, rfl, by decide +kernel, ⟨by decide +kernel, by decide +kernel, by decide +kernel⟩, by decide, er_in 584 (by decide +kernel) rfl⟩
theorem m_H_areRowsRising_ok : mtOK m_H_areRowsRising := ⟨er_in 238 (by decide +kernel) rfl, er_in 20 (by decide +kernel) rfl, rfl, by decide +kernel, ⟨by decide +kernel, by decide +kernel, by decide +kernel⟩, by decide, ⟨er_in 237 (by decide +kernel) rfl, er_in 2 (by decide +kernel) rfl, by decide⟩⟩
theorem m_H_areQueuesWithinLimits_ok : mtOK m_H_areQueuesWithinLimits := ⟨er_in 246 (by decide +kernel) rfl, er_in 20 (by decide +kernel) rfl, rfl, by decide +kernel, ⟨by decide +kernel, by decide +kernel, by decide +kernel⟩, by decide, ⟨er_in 245 (by decide +kernel) rfl, er_in 3 (by decide +kernel) rfl, by decide⟩⟩
theorem m_H_hasToldNoMoreThanIs_ok : mtOK m_H_hasToldNoMoreThanIs := ⟨er_in 309 (by decide +kernel) rfl, er_in 20 (by decide +kernel) rfl, rfl, by decide +kernel, ⟨by decide +kernel, by decide +kernel, by decide +kernel⟩, by decide, er_in 308 (by decide +kernel) rfl⟩
theorem m_J_bitCount_ok : mtOK m_J_bitCount := ⟨er_in 253 (by decide +kernel) rfl, er_in 31 (by decide +kernel) rfl, rfl, by decide +kernel, ⟨by decide +kernel, by decide +kernel, by decide +kernel⟩, by decide, er_in 252 (by decide +kernel) rfl⟩
theorem m_L_below_ok : mtOK m_L_below := ⟨er_in 414 (by decide +kernel) rfl, er_in 19 (by decide +kernel) rfl, rfl, by decide +kernel, ⟨by decide +kernel, by decide +kernel, by decide +kernel⟩, by decide, er_in 413 (by decide +kernel) rfl⟩
theorem m_L_cell_ok : mtOK m_L_cell := ⟨er_in 421 (by decide +kernel) rfl, er_in 19 (by decide +kernel) rfl, rfl, by decide +kernel, ⟨by decide +kernel, by decide +kernel, by decide +kernel⟩, by decide, er_in 420 (by decide +kernel) rfl⟩
theorem m_L_roll_ok : mtOK m_L_roll := ⟨er_in 418 (by decide +kernel) rfl, er_in 19 (by decide +kernel) rfl, rfl, by decide +kernel, ⟨by decide +kernel, by decide +kernel, by decide +kernel⟩, by decide, er_in 417 (by decide +kernel) rfl⟩
theorem m_L_begin_ok : mtOK m_L_begin := ⟨er_in 427 (by decide +kernel) rfl, er_in 19 (by decide +kernel) rfl, rfl, by decide +kernel, ⟨by decide +kernel, by decide +kernel, by decide +kernel⟩, by decide, er_in 426 (by decide +kernel) rfl⟩
theorem m_L_act_ok : mtOK m_L_act := ⟨er_in 480 (by decide +kernel) rfl, er_in 19 (by decide +kernel) rfl, rfl, by decide +kernel, ⟨by decide +kernel, by decide +kernel, by decide +kernel⟩, by decide, er_in 479 (by decide +kernel) rfl⟩
theorem m_L_isPrime_ok : mtOK m_L_isPrime := ⟨er_in 628 (by decide +kernel) rfl, er_in 19 (by decide +kernel) rfl, rfl, by decide +kernel, ⟨by decide +kernel, by decide +kernel, by decide +kernel⟩, by decide, er_in 627 (by decide +kernel) rfl⟩
theorem m_L_isCourse_ok : mtOK m_L_isCourse := ⟨er_in 560 (by decide +kernel) rfl, er_in 19 (by decide +kernel) rfl, rfl, by decide +kernel, ⟨by decide +kernel, by decide +kernel, by decide +kernel⟩, by decide, er_in 559 (by decide +kernel) rfl⟩
theorem m_L_isGoing_ok : mtOK m_L_isGoing := ⟨er_in 635 (by decide +kernel) rfl, er_in 19 (by decide +kernel) rfl, rfl, by decide +kernel, ⟨by decide +kernel, by decide +kernel, by decide +kernel⟩, by decide, er_in 634 (by decide +kernel) rfl⟩
theorem m_L_isMerged_ok : mtOK m_L_isMerged := ⟨er_in 642 (by decide +kernel) rfl, er_in 19 (by decide +kernel) rfl, rfl, by decide +kernel, ⟨by decide +kernel, by decide +kernel, by decide +kernel⟩, by decide, er_in 641 (by decide +kernel) rfl⟩
theorem m_L_exponents_ok : mtOK m_L_exponents := ⟨er_in 654 (by decide +kernel) rfl, er_in 19 (by decide +kernel) rfl, rfl, by decide +kernel, ⟨by decide +kernel, by decide +kernel, by decide +kernel⟩, by decide, er_in 653 (by decide +kernel) rfl⟩
theorem m_L_isCounted_ok : mtOK m_L_isCounted := ⟨er_in 649 (by decide +kernel) rfl, er_in 19 (by decide +kernel) rfl, rfl, by decide +kernel, ⟨by decide +kernel, by decide +kernel, by decide +kernel⟩, by decide, er_in 648 (by decide +kernel) rfl⟩
def er_find {α : Type} (l : List (Nat × Nat × α)) (c i : Nat) : Option α := (l.find? (fun q => q.1 == c && q.2.1 == i)).map (fun q => q.2.2)
theorem er_find_mem {α : Type} {l : List (Nat × Nat × α)} {c i : Nat} {x : α} (h : er_find l c i = some x) : (c, i, x) ∈ l := by
  unfold er_find at h
  cases hf : l.find? (fun q => q.1 == c && q.2.1 == i) with
  | none => rw [hf] at h; cases h
  | some q =>
    rw [hf] at h
    have h1 := List.mem_of_find?_eq_some hf
    have h2 := List.find?_some hf
    simp only [Bool.and_eq_true, beq_iff_eq] at h2
    obtain ⟨a, b, z⟩ := q
    simp only [Option.map_some, Option.some.injEq] at h
    obtain ⟨rfl, rfl⟩ := h2
    subst h
    exact h1
def er_calls : List (Nat × Nat × MT) := [(3, 34, m_R_append), (1, 19, m_R_numberAt), (4, 27, m_H_fill), (3, 38, m_H_findRow), (3, 42, m_H_requireWithin), (4, 38, m_H_isSound), (3, 177, m_H_areRowsRising), (3, 234, m_R_isRising), (3, 180, m_H_areQueuesWithinLimits), (3, 150, m_W_limit), (2, 165, m_J_bitCount), (3, 108, m_W_isEmpty), (3, 116, m_W_become), (2, 37, m_W_takeRows), (2, 29, m_R_become), (2, 83, m_Q_become), (3, 120, m_Q_turnOver), (0, 27, m_Q_pop), (0, 23, m_Q_sink), (0, 31, m_Q_refill), (0, 35, m_Q_tagOf), (0, 38, m_Q_push), (3, 183, m_H_hasToldNoMoreThanIs), (3, 132, m_W_lastNumber), (2, 89, m_Q_numberOf), (3, 153, m_W_canCountTo), (3, 156, m_W_countUpTo), (2, 173, m_W_countProducts), (2, 131, m_W_isMember), (2, 177, m_W_countOfRows), (2, 186, m_R_countUpTo), (2, 180, m_W_countPrimes), (2, 156, m_W_isPrime), (2, 183, m_W_countOfGrid), (2, 139, m_W_gridNumber), (2, 143, m_R_numberAt), (3, 170, m_H_doTrialsTellAlike), (3, 101, m_W_isDry), (3, 105, m_W_tell), (2, 86, m_W_tellPrime), (2, 112, m_W_nextNumber), (2, 119, m_Q_firstNumber), (0, 19, m_Q_numberOf), (2, 93, m_Q_pop), (2, 97, m_Q_tagOf), (2, 63, m_Q_keyOf), (2, 67, m_Q_push), (2, 100, m_W_offerProducts), (2, 103, m_W_rankOf), (2, 71, m_W_offerOfRow), (2, 106, m_W_offerNeighbours), (2, 79, m_W_offerOfGrid), (4, 23, m_L_below), (4, 20, m_L_roll), (4, 9, m_L_cell), (4, 31, m_L_begin), (4, 57, m_H_powers), (3, 80, m_H_findWell), (3, 84, m_W_begin), (2, 48, m_W_restart), (2, 75, m_W_isGrid), (4, 60, m_H_sums), (3, 97, m_W_beginGrid), (2, 33, m_W_begin), (4, 64, m_H_triples), (4, 67, m_H_merge), (3, 73, m_W_beginMerged), (4, 71, m_H_table), (4, 74, m_H_primes), (4, 35, m_L_act), (4, 78, m_H_add), (4, 81, m_H_cut), (3, 50, m_R_removeLast), (4, 84, m_H_close), (3, 54, m_H_requirePlace), (3, 135, m_W_closeRow), (2, 146, m_W_tagAt), (2, 149, m_Q_holds), (2, 153, m_Q_remove), (4, 88, m_H_skip), (3, 112, m_W_tellBelow), (2, 109, m_W_isDry), (2, 115, m_W_tell), (4, 91, m_H_copy), (4, 94, m_H_anew), (3, 123, m_W_restart), (4, 97, m_H_again), (4, 100, m_H_drop), (4, 103, m_H_shake), (4, 106, m_H_draw), (4, 109, m_H_draws), (4, 42, m_L_isCourse), (4, 112, m_H_ofWell), (3, 147, m_W_lastPlace), (2, 162, m_W_hasPlaces), (4, 115, m_H_digest), (3, 191, m_H_house), (3, 173, m_H_shareOf), (3, 194, m_H_rowSize), (3, 197, m_H_rowAt), (3, 58, m_R_numberAt), (3, 200, m_H_ofWell), (3, 203, m_H_peek), (3, 141, m_W_nextNumber), (3, 206, m_H_isSound), (4, 120, m_H_waits), (3, 159, m_Q_countUpTo), (4, 123, m_H_upTo), (4, 126, m_H_nth), (3, 77, m_W_numberBehind), (2, 159, m_W_tellBelow), (4, 129, m_H_peek), (4, 137, m_L_isPrime), (4, 141, m_H_ways), (4, 46, m_L_isGoing), (4, 144, m_H_isAlike), (4, 49, m_L_isMerged), (4, 148, m_H_least), (4, 53, m_L_isCounted), (4, 151, m_L_exponents), (4, 162, m_H_rowSize)]
def mthT (c i : Nat) : Option MT := er_find er_calls c i
def lkOK (q : Nat × Nat × MT) : Prop := Cond.methodLink (cN q.1) q.2.1 (mtN q.2.2) ∈ er_G ∧ mtOK q.2.2
theorem lk_3_34_ok : lkOK (3, 34, m_R_append) := ⟨er_in 110 (by decide +kernel) rfl, m_R_append_ok⟩
theorem lk_1_19_ok : lkOK (1, 19, m_R_numberAt) := ⟨er_in 114 (by decide +kernel) rfl, m_R_numberAt_ok⟩
theorem lk_4_27_ok : lkOK (4, 27, m_H_fill) := ⟨er_in 137 (by decide +kernel) rfl, m_H_fill_ok⟩
theorem lk_3_38_ok : lkOK (3, 38, m_H_findRow) := ⟨er_in 141 (by decide +kernel) rfl, m_H_findRow_ok⟩
theorem lk_3_42_ok : lkOK (3, 42, m_H_requireWithin) := ⟨er_in 212 (by decide +kernel) rfl, m_H_requireWithin_ok⟩
theorem lk_4_38_ok : lkOK (4, 38, m_H_isSound) := ⟨er_in 231 (by decide +kernel) rfl, m_H_isSound_ok⟩
theorem lk_3_177_ok : lkOK (3, 177, m_H_areRowsRising) := ⟨er_in 235 (by decide +kernel) rfl, m_H_areRowsRising_ok⟩
theorem lk_3_234_ok : lkOK (3, 234, m_R_isRising) := ⟨er_in 239 (by decide +kernel) rfl, m_R_isRising_ok⟩
theorem lk_3_180_ok : lkOK (3, 180, m_H_areQueuesWithinLimits) := ⟨er_in 243 (by decide +kernel) rfl, m_H_areQueuesWithinLimits_ok⟩
theorem lk_3_150_ok : lkOK (3, 150, m_W_limit) := ⟨er_in 247 (by decide +kernel) rfl, m_W_limit_ok⟩
theorem lk_2_165_ok : lkOK (2, 165, m_J_bitCount) := ⟨er_in 251 (by decide +kernel) rfl, m_J_bitCount_ok⟩
theorem lk_3_108_ok : lkOK (3, 108, m_W_isEmpty) := ⟨er_in 260 (by decide +kernel) rfl, m_W_isEmpty_ok⟩
theorem lk_3_116_ok : lkOK (3, 116, m_W_become) := ⟨er_in 264 (by decide +kernel) rfl, m_W_become_ok⟩
theorem lk_2_37_ok : lkOK (2, 37, m_W_takeRows) := ⟨er_in 268 (by decide +kernel) rfl, m_W_takeRows_ok⟩
theorem lk_2_29_ok : lkOK (2, 29, m_R_become) := ⟨er_in 272 (by decide +kernel) rfl, m_R_become_ok⟩
theorem lk_2_83_ok : lkOK (2, 83, m_Q_become) := ⟨er_in 279 (by decide +kernel) rfl, m_Q_become_ok⟩
theorem lk_3_120_ok : lkOK (3, 120, m_Q_turnOver) := ⟨er_in 284 (by decide +kernel) rfl, m_Q_turnOver_ok⟩
theorem lk_0_27_ok : lkOK (0, 27, m_Q_pop) := ⟨er_in 288 (by decide +kernel) rfl, m_Q_pop_ok⟩
theorem lk_0_23_ok : lkOK (0, 23, m_Q_sink) := ⟨er_in 292 (by decide +kernel) rfl, m_Q_sink_ok⟩
theorem lk_0_31_ok : lkOK (0, 31, m_Q_refill) := ⟨er_in 296 (by decide +kernel) rfl, m_Q_refill_ok⟩
theorem lk_0_35_ok : lkOK (0, 35, m_Q_tagOf) := ⟨er_in 300 (by decide +kernel) rfl, m_Q_tagOf_ok⟩
theorem lk_0_38_ok : lkOK (0, 38, m_Q_push) := ⟨er_in 303 (by decide +kernel) rfl, m_Q_push_ok⟩
theorem lk_3_183_ok : lkOK (3, 183, m_H_hasToldNoMoreThanIs) := ⟨er_in 307 (by decide +kernel) rfl, m_H_hasToldNoMoreThanIs_ok⟩
theorem lk_3_132_ok : lkOK (3, 132, m_W_lastNumber) := ⟨er_in 310 (by decide +kernel) rfl, m_W_lastNumber_ok⟩
theorem lk_2_89_ok : lkOK (2, 89, m_Q_numberOf) := ⟨er_in 314 (by decide +kernel) rfl, m_Q_numberOf_ok⟩
theorem lk_3_153_ok : lkOK (3, 153, m_W_canCountTo) := ⟨er_in 317 (by decide +kernel) rfl, m_W_canCountTo_ok⟩
theorem lk_3_156_ok : lkOK (3, 156, m_W_countUpTo) := ⟨er_in 321 (by decide +kernel) rfl, m_W_countUpTo_ok⟩
theorem lk_2_173_ok : lkOK (2, 173, m_W_countProducts) := ⟨er_in 326 (by decide +kernel) rfl, m_W_countProducts_ok⟩
theorem lk_2_131_ok : lkOK (2, 131, m_W_isMember) := ⟨er_in 331 (by decide +kernel) rfl, m_W_isMember_ok⟩
theorem lk_2_177_ok : lkOK (2, 177, m_W_countOfRows) := ⟨er_in 334 (by decide +kernel) rfl, m_W_countOfRows_ok⟩
theorem lk_2_186_ok : lkOK (2, 186, m_R_countUpTo) := ⟨er_in 338 (by decide +kernel) rfl, m_R_countUpTo_ok⟩
theorem lk_2_180_ok : lkOK (2, 180, m_W_countPrimes) := ⟨er_in 342 (by decide +kernel) rfl, m_W_countPrimes_ok⟩
theorem lk_2_156_ok : lkOK (2, 156, m_W_isPrime) := ⟨er_in 345 (by decide +kernel) rfl, m_W_isPrime_ok⟩
theorem lk_2_183_ok : lkOK (2, 183, m_W_countOfGrid) := ⟨er_in 348 (by decide +kernel) rfl, m_W_countOfGrid_ok⟩
theorem lk_2_139_ok : lkOK (2, 139, m_W_gridNumber) := ⟨er_in 352 (by decide +kernel) rfl, m_W_gridNumber_ok⟩
theorem lk_2_143_ok : lkOK (2, 143, m_R_numberAt) := ⟨er_in 356 (by decide +kernel) rfl, m_R_numberAt_ok⟩
theorem lk_3_170_ok : lkOK (3, 170, m_H_doTrialsTellAlike) := ⟨er_in 357 (by decide +kernel) rfl, m_H_doTrialsTellAlike_ok⟩
theorem lk_3_101_ok : lkOK (3, 101, m_W_isDry) := ⟨er_in 361 (by decide +kernel) rfl, m_W_isDry_ok⟩
theorem lk_3_105_ok : lkOK (3, 105, m_W_tell) := ⟨er_in 365 (by decide +kernel) rfl, m_W_tell_ok⟩
theorem lk_2_86_ok : lkOK (2, 86, m_W_tellPrime) := ⟨er_in 369 (by decide +kernel) rfl, m_W_tellPrime_ok⟩
theorem lk_2_112_ok : lkOK (2, 112, m_W_nextNumber) := ⟨er_in 373 (by decide +kernel) rfl, m_W_nextNumber_ok⟩
theorem lk_2_119_ok : lkOK (2, 119, m_Q_firstNumber) := ⟨er_in 377 (by decide +kernel) rfl, m_Q_firstNumber_ok⟩
theorem lk_0_19_ok : lkOK (0, 19, m_Q_numberOf) := ⟨er_in 381 (by decide +kernel) rfl, m_Q_numberOf_ok⟩
theorem lk_2_93_ok : lkOK (2, 93, m_Q_pop) := ⟨er_in 383 (by decide +kernel) rfl, m_Q_pop_ok⟩
theorem lk_2_97_ok : lkOK (2, 97, m_Q_tagOf) := ⟨er_in 384 (by decide +kernel) rfl, m_Q_tagOf_ok⟩
theorem lk_2_63_ok : lkOK (2, 63, m_Q_keyOf) := ⟨er_in 385 (by decide +kernel) rfl, m_Q_keyOf_ok⟩
theorem lk_2_67_ok : lkOK (2, 67, m_Q_push) := ⟨er_in 388 (by decide +kernel) rfl, m_Q_push_ok⟩
theorem lk_2_100_ok : lkOK (2, 100, m_W_offerProducts) := ⟨er_in 389 (by decide +kernel) rfl, m_W_offerProducts_ok⟩
theorem lk_2_103_ok : lkOK (2, 103, m_W_rankOf) := ⟨er_in 396 (by decide +kernel) rfl, m_W_rankOf_ok⟩
theorem lk_2_71_ok : lkOK (2, 71, m_W_offerOfRow) := ⟨er_in 400 (by decide +kernel) rfl, m_W_offerOfRow_ok⟩
theorem lk_2_106_ok : lkOK (2, 106, m_W_offerNeighbours) := ⟨er_in 404 (by decide +kernel) rfl, m_W_offerNeighbours_ok⟩
theorem lk_2_79_ok : lkOK (2, 79, m_W_offerOfGrid) := ⟨er_in 408 (by decide +kernel) rfl, m_W_offerOfGrid_ok⟩
theorem lk_4_23_ok : lkOK (4, 23, m_L_below) := ⟨er_in 412 (by decide +kernel) rfl, m_L_below_ok⟩
theorem lk_4_20_ok : lkOK (4, 20, m_L_roll) := ⟨er_in 416 (by decide +kernel) rfl, m_L_roll_ok⟩
theorem lk_4_9_ok : lkOK (4, 9, m_L_cell) := ⟨er_in 419 (by decide +kernel) rfl, m_L_cell_ok⟩
theorem lk_4_31_ok : lkOK (4, 31, m_L_begin) := ⟨er_in 425 (by decide +kernel) rfl, m_L_begin_ok⟩
theorem lk_4_57_ok : lkOK (4, 57, m_H_powers) := ⟨er_in 428 (by decide +kernel) rfl, m_H_powers_ok⟩
theorem lk_3_80_ok : lkOK (3, 80, m_H_findWell) := ⟨er_in 432 (by decide +kernel) rfl, m_H_findWell_ok⟩
theorem lk_3_84_ok : lkOK (3, 84, m_W_begin) := ⟨er_in 437 (by decide +kernel) rfl, m_W_begin_ok⟩
theorem lk_2_48_ok : lkOK (2, 48, m_W_restart) := ⟨er_in 441 (by decide +kernel) rfl, m_W_restart_ok⟩
theorem lk_2_75_ok : lkOK (2, 75, m_W_isGrid) := ⟨er_in 445 (by decide +kernel) rfl, m_W_isGrid_ok⟩
theorem lk_4_60_ok : lkOK (4, 60, m_H_sums) := ⟨er_in 449 (by decide +kernel) rfl, m_H_sums_ok⟩
theorem lk_3_97_ok : lkOK (3, 97, m_W_beginGrid) := ⟨er_in 453 (by decide +kernel) rfl, m_W_beginGrid_ok⟩
theorem lk_2_33_ok : lkOK (2, 33, m_W_begin) := ⟨er_in 457 (by decide +kernel) rfl, m_W_begin_ok⟩
theorem lk_4_64_ok : lkOK (4, 64, m_H_triples) := ⟨er_in 458 (by decide +kernel) rfl, m_H_triples_ok⟩
theorem lk_4_67_ok : lkOK (4, 67, m_H_merge) := ⟨er_in 462 (by decide +kernel) rfl, m_H_merge_ok⟩
theorem lk_3_73_ok : lkOK (3, 73, m_W_beginMerged) := ⟨er_in 466 (by decide +kernel) rfl, m_W_beginMerged_ok⟩
theorem lk_4_71_ok : lkOK (4, 71, m_H_table) := ⟨er_in 470 (by decide +kernel) rfl, m_H_table_ok⟩
theorem lk_4_74_ok : lkOK (4, 74, m_H_primes) := ⟨er_in 474 (by decide +kernel) rfl, m_H_primes_ok⟩
theorem lk_4_35_ok : lkOK (4, 35, m_L_act) := ⟨er_in 478 (by decide +kernel) rfl, m_L_act_ok⟩
theorem lk_4_78_ok : lkOK (4, 78, m_H_add) := ⟨er_in 481 (by decide +kernel) rfl, m_H_add_ok⟩
theorem lk_4_81_ok : lkOK (4, 81, m_H_cut) := ⟨er_in 485 (by decide +kernel) rfl, m_H_cut_ok⟩
theorem lk_3_50_ok : lkOK (3, 50, m_R_removeLast) := ⟨er_in 489 (by decide +kernel) rfl, m_R_removeLast_ok⟩
theorem lk_4_84_ok : lkOK (4, 84, m_H_close) := ⟨er_in 493 (by decide +kernel) rfl, m_H_close_ok⟩
theorem lk_3_54_ok : lkOK (3, 54, m_H_requirePlace) := ⟨er_in 497 (by decide +kernel) rfl, m_H_requirePlace_ok⟩
theorem lk_3_135_ok : lkOK (3, 135, m_W_closeRow) := ⟨er_in 501 (by decide +kernel) rfl, m_W_closeRow_ok⟩
theorem lk_2_146_ok : lkOK (2, 146, m_W_tagAt) := ⟨er_in 505 (by decide +kernel) rfl, m_W_tagAt_ok⟩
theorem lk_2_149_ok : lkOK (2, 149, m_Q_holds) := ⟨er_in 509 (by decide +kernel) rfl, m_Q_holds_ok⟩
theorem lk_2_153_ok : lkOK (2, 153, m_Q_remove) := ⟨er_in 513 (by decide +kernel) rfl, m_Q_remove_ok⟩
theorem lk_4_88_ok : lkOK (4, 88, m_H_skip) := ⟨er_in 518 (by decide +kernel) rfl, m_H_skip_ok⟩
theorem lk_3_112_ok : lkOK (3, 112, m_W_tellBelow) := ⟨er_in 523 (by decide +kernel) rfl, m_W_tellBelow_ok⟩
theorem lk_2_109_ok : lkOK (2, 109, m_W_isDry) := ⟨er_in 527 (by decide +kernel) rfl, m_W_isDry_ok⟩
theorem lk_2_115_ok : lkOK (2, 115, m_W_tell) := ⟨er_in 528 (by decide +kernel) rfl, m_W_tell_ok⟩
theorem lk_4_91_ok : lkOK (4, 91, m_H_copy) := ⟨er_in 529 (by decide +kernel) rfl, m_H_copy_ok⟩
theorem lk_4_94_ok : lkOK (4, 94, m_H_anew) := ⟨er_in 533 (by decide +kernel) rfl, m_H_anew_ok⟩
theorem lk_3_123_ok : lkOK (3, 123, m_W_restart) := ⟨er_in 537 (by decide +kernel) rfl, m_W_restart_ok⟩
theorem lk_4_97_ok : lkOK (4, 97, m_H_again) := ⟨er_in 538 (by decide +kernel) rfl, m_H_again_ok⟩
theorem lk_4_100_ok : lkOK (4, 100, m_H_drop) := ⟨er_in 542 (by decide +kernel) rfl, m_H_drop_ok⟩
theorem lk_4_103_ok : lkOK (4, 103, m_H_shake) := ⟨er_in 546 (by decide +kernel) rfl, m_H_shake_ok⟩
theorem lk_4_106_ok : lkOK (4, 106, m_H_draw) := ⟨er_in 550 (by decide +kernel) rfl, m_H_draw_ok⟩
theorem lk_4_109_ok : lkOK (4, 109, m_H_draws) := ⟨er_in 554 (by decide +kernel) rfl, m_H_draws_ok⟩
theorem lk_4_42_ok : lkOK (4, 42, m_L_isCourse) := ⟨er_in 558 (by decide +kernel) rfl, m_L_isCourse_ok⟩
theorem lk_4_112_ok : lkOK (4, 112, m_H_ofWell) := ⟨er_in 561 (by decide +kernel) rfl, m_H_ofWell_ok⟩
theorem lk_3_147_ok : lkOK (3, 147, m_W_lastPlace) := ⟨er_in 565 (by decide +kernel) rfl, m_W_lastPlace_ok⟩
theorem lk_2_162_ok : lkOK (2, 162, m_W_hasPlaces) := ⟨er_in 569 (by decide +kernel) rfl, m_W_hasPlaces_ok⟩
theorem lk_4_115_ok : lkOK (4, 115, m_H_digest) := ⟨er_in 573 (by decide +kernel) rfl, m_H_digest_ok⟩
theorem lk_3_191_ok : lkOK (3, 191, m_H_house) := ⟨er_in 579 (by decide +kernel) rfl, m_H_house_ok⟩
theorem lk_3_173_ok : lkOK (3, 173, m_H_shareOf) := ⟨er_in 583 (by decide +kernel) rfl, m_H_shareOf_ok⟩
theorem lk_3_194_ok : lkOK (3, 194, m_H_rowSize) := ⟨er_in 586 (by decide +kernel) rfl, m_H_rowSize_ok⟩
theorem lk_3_197_ok : lkOK (3, 197, m_H_rowAt) := ⟨er_in 590 (by decide +kernel) rfl, m_H_rowAt_ok⟩
theorem lk_3_58_ok : lkOK (3, 58, m_R_numberAt) := ⟨er_in 594 (by decide +kernel) rfl, m_R_numberAt_ok⟩
theorem lk_3_200_ok : lkOK (3, 200, m_H_ofWell) := ⟨er_in 595 (by decide +kernel) rfl, m_H_ofWell_ok⟩
theorem lk_3_203_ok : lkOK (3, 203, m_H_peek) := ⟨er_in 596 (by decide +kernel) rfl, m_H_peek_ok⟩
theorem lk_3_141_ok : lkOK (3, 141, m_W_nextNumber) := ⟨er_in 600 (by decide +kernel) rfl, m_W_nextNumber_ok⟩
theorem lk_3_206_ok : lkOK (3, 206, m_H_isSound) := ⟨er_in 601 (by decide +kernel) rfl, m_H_isSound_ok⟩
theorem lk_4_120_ok : lkOK (4, 120, m_H_waits) := ⟨er_in 603 (by decide +kernel) rfl, m_H_waits_ok⟩
theorem lk_3_159_ok : lkOK (3, 159, m_Q_countUpTo) := ⟨er_in 607 (by decide +kernel) rfl, m_Q_countUpTo_ok⟩
theorem lk_4_123_ok : lkOK (4, 123, m_H_upTo) := ⟨er_in 611 (by decide +kernel) rfl, m_H_upTo_ok⟩
theorem lk_4_126_ok : lkOK (4, 126, m_H_nth) := ⟨er_in 615 (by decide +kernel) rfl, m_H_nth_ok⟩
theorem lk_3_77_ok : lkOK (3, 77, m_W_numberBehind) := ⟨er_in 619 (by decide +kernel) rfl, m_W_numberBehind_ok⟩
theorem lk_2_159_ok : lkOK (2, 159, m_W_tellBelow) := ⟨er_in 623 (by decide +kernel) rfl, m_W_tellBelow_ok⟩
theorem lk_4_129_ok : lkOK (4, 129, m_H_peek) := ⟨er_in 624 (by decide +kernel) rfl, m_H_peek_ok⟩
theorem lk_4_137_ok : lkOK (4, 137, m_L_isPrime) := ⟨er_in 626 (by decide +kernel) rfl, m_L_isPrime_ok⟩
theorem lk_4_141_ok : lkOK (4, 141, m_H_ways) := ⟨er_in 629 (by decide +kernel) rfl, m_H_ways_ok⟩
theorem lk_4_46_ok : lkOK (4, 46, m_L_isGoing) := ⟨er_in 633 (by decide +kernel) rfl, m_L_isGoing_ok⟩
theorem lk_4_144_ok : lkOK (4, 144, m_H_isAlike) := ⟨er_in 636 (by decide +kernel) rfl, m_H_isAlike_ok⟩
theorem lk_4_49_ok : lkOK (4, 49, m_L_isMerged) := ⟨er_in 640 (by decide +kernel) rfl, m_L_isMerged_ok⟩
theorem lk_4_148_ok : lkOK (4, 148, m_H_least) := ⟨er_in 643 (by decide +kernel) rfl, m_H_least_ok⟩
theorem lk_4_53_ok : lkOK (4, 53, m_L_isCounted) := ⟨er_in 647 (by decide +kernel) rfl, m_L_isCounted_ok⟩
theorem lk_4_151_ok : lkOK (4, 151, m_L_exponents) := ⟨er_in 652 (by decide +kernel) rfl, m_L_exponents_ok⟩
theorem lk_4_162_ok : lkOK (4, 162, m_H_rowSize) := ⟨er_in 657 (by decide +kernel) rfl, m_H_rowSize_ok⟩
set_option maxRecDepth 100000 in
theorem er_calls_ok : ∀ q ∈ er_calls, lkOK q := List.forall_mem_cons.mpr ⟨lk_3_34_ok, List.forall_mem_cons.mpr ⟨lk_1_19_ok, List.forall_mem_cons.mpr ⟨lk_4_27_ok, List.forall_mem_cons.mpr ⟨lk_3_38_ok, List.forall_mem_cons.mpr ⟨lk_3_42_ok, List.forall_mem_cons.mpr ⟨lk_4_38_ok, List.forall_mem_cons.mpr ⟨lk_3_177_ok, List.forall_mem_cons.mpr ⟨lk_3_234_ok, List.forall_mem_cons.mpr ⟨lk_3_180_ok, List.forall_mem_cons.mpr ⟨lk_3_150_ok, List.forall_mem_cons.mpr ⟨lk_2_165_ok, List.forall_mem_cons.mpr ⟨lk_3_108_ok, List.forall_mem_cons.mpr ⟨lk_3_116_ok, List.forall_mem_cons.mpr ⟨lk_2_37_ok, List.forall_mem_cons.mpr ⟨lk_2_29_ok, List.forall_mem_cons.mpr ⟨lk_2_83_ok, List.forall_mem_cons.mpr ⟨lk_3_120_ok, List.forall_mem_cons.mpr ⟨lk_0_27_ok, List.forall_mem_cons.mpr ⟨lk_0_23_ok, List.forall_mem_cons.mpr ⟨lk_0_31_ok, List.forall_mem_cons.mpr ⟨lk_0_35_ok, List.forall_mem_cons.mpr ⟨lk_0_38_ok, List.forall_mem_cons.mpr ⟨lk_3_183_ok, List.forall_mem_cons.mpr ⟨lk_3_132_ok, List.forall_mem_cons.mpr ⟨lk_2_89_ok, List.forall_mem_cons.mpr ⟨lk_3_153_ok, List.forall_mem_cons.mpr ⟨lk_3_156_ok, List.forall_mem_cons.mpr ⟨lk_2_173_ok, List.forall_mem_cons.mpr ⟨lk_2_131_ok, List.forall_mem_cons.mpr ⟨lk_2_177_ok, List.forall_mem_cons.mpr ⟨lk_2_186_ok, List.forall_mem_cons.mpr ⟨lk_2_180_ok, List.forall_mem_cons.mpr ⟨lk_2_156_ok, List.forall_mem_cons.mpr ⟨lk_2_183_ok, List.forall_mem_cons.mpr ⟨lk_2_139_ok, List.forall_mem_cons.mpr ⟨lk_2_143_ok, List.forall_mem_cons.mpr ⟨lk_3_170_ok, List.forall_mem_cons.mpr ⟨lk_3_101_ok, List.forall_mem_cons.mpr ⟨lk_3_105_ok, List.forall_mem_cons.mpr ⟨lk_2_86_ok, List.forall_mem_cons.mpr ⟨lk_2_112_ok, List.forall_mem_cons.mpr ⟨lk_2_119_ok, List.forall_mem_cons.mpr ⟨lk_0_19_ok, List.forall_mem_cons.mpr ⟨lk_2_93_ok, List.forall_mem_cons.mpr ⟨lk_2_97_ok, List.forall_mem_cons.mpr ⟨lk_2_63_ok, List.forall_mem_cons.mpr ⟨lk_2_67_ok, List.forall_mem_cons.mpr ⟨lk_2_100_ok, List.forall_mem_cons.mpr ⟨lk_2_103_ok, List.forall_mem_cons.mpr ⟨lk_2_71_ok, List.forall_mem_cons.mpr ⟨lk_2_106_ok, List.forall_mem_cons.mpr ⟨lk_2_79_ok, List.forall_mem_cons.mpr ⟨lk_4_23_ok, List.forall_mem_cons.mpr ⟨lk_4_20_ok, List.forall_mem_cons.mpr ⟨lk_4_9_ok, List.forall_mem_cons.mpr ⟨lk_4_31_ok, List.forall_mem_cons.mpr ⟨lk_4_57_ok, List.forall_mem_cons.mpr ⟨lk_3_80_ok, List.forall_mem_cons.mpr ⟨lk_3_84_ok, List.forall_mem_cons.mpr ⟨lk_2_48_ok, List.forall_mem_cons.mpr ⟨lk_2_75_ok, List.forall_mem_cons.mpr ⟨lk_4_60_ok, List.forall_mem_cons.mpr ⟨lk_3_97_ok, List.forall_mem_cons.mpr ⟨lk_2_33_ok, List.forall_mem_cons.mpr ⟨lk_4_64_ok, List.forall_mem_cons.mpr ⟨lk_4_67_ok, List.forall_mem_cons.mpr ⟨lk_3_73_ok, List.forall_mem_cons.mpr ⟨lk_4_71_ok, List.forall_mem_cons.mpr ⟨lk_4_74_ok, List.forall_mem_cons.mpr ⟨lk_4_35_ok, List.forall_mem_cons.mpr ⟨lk_4_78_ok, List.forall_mem_cons.mpr ⟨lk_4_81_ok, List.forall_mem_cons.mpr ⟨lk_3_50_ok, List.forall_mem_cons.mpr ⟨lk_4_84_ok, List.forall_mem_cons.mpr ⟨lk_3_54_ok, List.forall_mem_cons.mpr ⟨lk_3_135_ok, List.forall_mem_cons.mpr ⟨lk_2_146_ok, List.forall_mem_cons.mpr ⟨lk_2_149_ok, List.forall_mem_cons.mpr ⟨lk_2_153_ok, List.forall_mem_cons.mpr ⟨lk_4_88_ok, List.forall_mem_cons.mpr ⟨lk_3_112_ok, List.forall_mem_cons.mpr ⟨lk_2_109_ok, List.forall_mem_cons.mpr ⟨lk_2_115_ok, List.forall_mem_cons.mpr ⟨lk_4_91_ok, List.forall_mem_cons.mpr ⟨lk_4_94_ok, List.forall_mem_cons.mpr ⟨lk_3_123_ok, List.forall_mem_cons.mpr ⟨lk_4_97_ok, List.forall_mem_cons.mpr ⟨lk_4_100_ok, List.forall_mem_cons.mpr ⟨lk_4_103_ok, List.forall_mem_cons.mpr ⟨lk_4_106_ok, List.forall_mem_cons.mpr ⟨lk_4_109_ok, List.forall_mem_cons.mpr ⟨lk_4_42_ok, List.forall_mem_cons.mpr ⟨lk_4_112_ok, List.forall_mem_cons.mpr ⟨lk_3_147_ok, List.forall_mem_cons.mpr ⟨lk_2_162_ok, List.forall_mem_cons.mpr ⟨lk_4_115_ok, List.forall_mem_cons.mpr ⟨lk_3_191_ok, List.forall_mem_cons.mpr ⟨lk_3_173_ok, List.forall_mem_cons.mpr ⟨lk_3_194_ok, List.forall_mem_cons.mpr ⟨lk_3_197_ok, List.forall_mem_cons.mpr ⟨lk_3_58_ok, List.forall_mem_cons.mpr ⟨lk_3_200_ok, List.forall_mem_cons.mpr ⟨lk_3_203_ok, List.forall_mem_cons.mpr ⟨lk_3_141_ok, List.forall_mem_cons.mpr ⟨lk_3_206_ok, List.forall_mem_cons.mpr ⟨lk_4_120_ok, List.forall_mem_cons.mpr ⟨lk_3_159_ok, List.forall_mem_cons.mpr ⟨lk_4_123_ok, List.forall_mem_cons.mpr ⟨lk_4_126_ok, List.forall_mem_cons.mpr ⟨lk_3_77_ok, List.forall_mem_cons.mpr ⟨lk_2_159_ok, List.forall_mem_cons.mpr ⟨lk_4_129_ok, List.forall_mem_cons.mpr ⟨lk_4_137_ok, List.forall_mem_cons.mpr ⟨lk_4_141_ok, List.forall_mem_cons.mpr ⟨lk_4_46_ok, List.forall_mem_cons.mpr ⟨lk_4_144_ok, List.forall_mem_cons.mpr ⟨lk_4_49_ok, List.forall_mem_cons.mpr ⟨lk_4_148_ok, List.forall_mem_cons.mpr ⟨lk_4_53_ok, List.forall_mem_cons.mpr ⟨lk_4_151_ok, List.forall_mem_cons.mpr ⟨lk_4_162_ok, fun _ h => absurd h List.not_mem_nil⟩⟩⟩⟩⟩⟩⟩⟩⟩⟩⟩⟩⟩⟩⟩⟩⟩⟩⟩⟩⟩⟩⟩⟩⟩⟩⟩⟩⟩⟩⟩⟩⟩⟩⟩⟩⟩⟩⟩⟩⟩⟩⟩⟩⟩⟩⟩⟩⟩⟩⟩⟩⟩⟩⟩⟩⟩⟩⟩⟩⟩⟩⟩⟩⟩⟩⟩⟩⟩⟩⟩⟩⟩⟩⟩⟩⟩⟩⟩⟩⟩⟩⟩⟩⟩⟩⟩⟩⟩⟩⟩⟩⟩⟩⟩⟩⟩⟩⟩⟩⟩⟩⟩⟩⟩⟩⟩⟩⟩⟩⟩⟩⟩⟩⟩⟩⟩⟩⟩⟩⟩
theorem lk_3_34 : mthT 3 34 = some m_R_append := rfl
theorem lk_1_19 : mthT 1 19 = some m_R_numberAt := rfl
theorem lk_4_27 : mthT 4 27 = some m_H_fill := rfl
theorem lk_3_38 : mthT 3 38 = some m_H_findRow := rfl
theorem lk_3_42 : mthT 3 42 = some m_H_requireWithin := rfl
theorem lk_4_38 : mthT 4 38 = some m_H_isSound := rfl
theorem lk_3_177 : mthT 3 177 = some m_H_areRowsRising := rfl
theorem lk_3_234 : mthT 3 234 = some m_R_isRising := rfl
theorem lk_3_180 : mthT 3 180 = some m_H_areQueuesWithinLimits := rfl
theorem lk_3_150 : mthT 3 150 = some m_W_limit := rfl
theorem lk_2_165 : mthT 2 165 = some m_J_bitCount := rfl
theorem lk_3_108 : mthT 3 108 = some m_W_isEmpty := rfl
theorem lk_3_116 : mthT 3 116 = some m_W_become := rfl
theorem lk_2_37 : mthT 2 37 = some m_W_takeRows := rfl
theorem lk_2_29 : mthT 2 29 = some m_R_become := rfl
theorem lk_2_83 : mthT 2 83 = some m_Q_become := rfl
theorem lk_3_120 : mthT 3 120 = some m_Q_turnOver := rfl
theorem lk_0_27 : mthT 0 27 = some m_Q_pop := rfl
theorem lk_0_23 : mthT 0 23 = some m_Q_sink := rfl
theorem lk_0_31 : mthT 0 31 = some m_Q_refill := rfl
theorem lk_0_35 : mthT 0 35 = some m_Q_tagOf := rfl
theorem lk_0_38 : mthT 0 38 = some m_Q_push := rfl
theorem lk_3_183 : mthT 3 183 = some m_H_hasToldNoMoreThanIs := rfl
theorem lk_3_132 : mthT 3 132 = some m_W_lastNumber := rfl
theorem lk_2_89 : mthT 2 89 = some m_Q_numberOf := rfl
theorem lk_3_153 : mthT 3 153 = some m_W_canCountTo := rfl
theorem lk_3_156 : mthT 3 156 = some m_W_countUpTo := rfl
theorem lk_2_173 : mthT 2 173 = some m_W_countProducts := rfl
theorem lk_2_131 : mthT 2 131 = some m_W_isMember := rfl
theorem lk_2_177 : mthT 2 177 = some m_W_countOfRows := rfl
theorem lk_2_186 : mthT 2 186 = some m_R_countUpTo := rfl
theorem lk_2_180 : mthT 2 180 = some m_W_countPrimes := rfl
theorem lk_2_156 : mthT 2 156 = some m_W_isPrime := rfl
theorem lk_2_183 : mthT 2 183 = some m_W_countOfGrid := rfl
theorem lk_2_139 : mthT 2 139 = some m_W_gridNumber := rfl
theorem lk_2_143 : mthT 2 143 = some m_R_numberAt := rfl
theorem lk_3_170 : mthT 3 170 = some m_H_doTrialsTellAlike := rfl
theorem lk_3_101 : mthT 3 101 = some m_W_isDry := rfl
theorem lk_3_105 : mthT 3 105 = some m_W_tell := rfl
theorem lk_2_86 : mthT 2 86 = some m_W_tellPrime := rfl
theorem lk_2_112 : mthT 2 112 = some m_W_nextNumber := rfl
theorem lk_2_119 : mthT 2 119 = some m_Q_firstNumber := rfl
theorem lk_0_19 : mthT 0 19 = some m_Q_numberOf := rfl
theorem lk_2_93 : mthT 2 93 = some m_Q_pop := rfl
theorem lk_2_97 : mthT 2 97 = some m_Q_tagOf := rfl
theorem lk_2_63 : mthT 2 63 = some m_Q_keyOf := rfl
theorem lk_2_67 : mthT 2 67 = some m_Q_push := rfl
theorem lk_2_100 : mthT 2 100 = some m_W_offerProducts := rfl
theorem lk_2_103 : mthT 2 103 = some m_W_rankOf := rfl
theorem lk_2_71 : mthT 2 71 = some m_W_offerOfRow := rfl
theorem lk_2_106 : mthT 2 106 = some m_W_offerNeighbours := rfl
theorem lk_2_79 : mthT 2 79 = some m_W_offerOfGrid := rfl
theorem lk_4_23 : mthT 4 23 = some m_L_below := rfl
theorem lk_4_20 : mthT 4 20 = some m_L_roll := rfl
theorem lk_4_9 : mthT 4 9 = some m_L_cell := rfl
theorem lk_4_31 : mthT 4 31 = some m_L_begin := rfl
theorem lk_4_57 : mthT 4 57 = some m_H_powers := rfl
theorem lk_3_80 : mthT 3 80 = some m_H_findWell := rfl
theorem lk_3_84 : mthT 3 84 = some m_W_begin := rfl
theorem lk_2_48 : mthT 2 48 = some m_W_restart := rfl
theorem lk_2_75 : mthT 2 75 = some m_W_isGrid := rfl
theorem lk_4_60 : mthT 4 60 = some m_H_sums := rfl
theorem lk_3_97 : mthT 3 97 = some m_W_beginGrid := rfl
theorem lk_2_33 : mthT 2 33 = some m_W_begin := rfl
theorem lk_4_64 : mthT 4 64 = some m_H_triples := rfl
theorem lk_4_67 : mthT 4 67 = some m_H_merge := rfl
theorem lk_3_73 : mthT 3 73 = some m_W_beginMerged := rfl
theorem lk_4_71 : mthT 4 71 = some m_H_table := rfl
theorem lk_4_74 : mthT 4 74 = some m_H_primes := rfl
theorem lk_4_35 : mthT 4 35 = some m_L_act := rfl
theorem lk_4_78 : mthT 4 78 = some m_H_add := rfl
theorem lk_4_81 : mthT 4 81 = some m_H_cut := rfl
theorem lk_3_50 : mthT 3 50 = some m_R_removeLast := rfl
theorem lk_4_84 : mthT 4 84 = some m_H_close := rfl
theorem lk_3_54 : mthT 3 54 = some m_H_requirePlace := rfl
theorem lk_3_135 : mthT 3 135 = some m_W_closeRow := rfl
theorem lk_2_146 : mthT 2 146 = some m_W_tagAt := rfl
theorem lk_2_149 : mthT 2 149 = some m_Q_holds := rfl
theorem lk_2_153 : mthT 2 153 = some m_Q_remove := rfl
theorem lk_4_88 : mthT 4 88 = some m_H_skip := rfl
theorem lk_3_112 : mthT 3 112 = some m_W_tellBelow := rfl
theorem lk_2_109 : mthT 2 109 = some m_W_isDry := rfl
theorem lk_2_115 : mthT 2 115 = some m_W_tell := rfl
theorem lk_4_91 : mthT 4 91 = some m_H_copy := rfl
theorem lk_4_94 : mthT 4 94 = some m_H_anew := rfl
theorem lk_3_123 : mthT 3 123 = some m_W_restart := rfl
theorem lk_4_97 : mthT 4 97 = some m_H_again := rfl
theorem lk_4_100 : mthT 4 100 = some m_H_drop := rfl
theorem lk_4_103 : mthT 4 103 = some m_H_shake := rfl
theorem lk_4_106 : mthT 4 106 = some m_H_draw := rfl
theorem lk_4_109 : mthT 4 109 = some m_H_draws := rfl
theorem lk_4_42 : mthT 4 42 = some m_L_isCourse := rfl
theorem lk_4_112 : mthT 4 112 = some m_H_ofWell := rfl
theorem lk_3_147 : mthT 3 147 = some m_W_lastPlace := rfl
theorem lk_2_162 : mthT 2 162 = some m_W_hasPlaces := rfl
theorem lk_4_115 : mthT 4 115 = some m_H_digest := rfl
theorem lk_3_191 : mthT 3 191 = some m_H_house := rfl
theorem lk_3_173 : mthT 3 173 = some m_H_shareOf := rfl
theorem lk_3_194 : mthT 3 194 = some m_H_rowSize := rfl
theorem lk_3_197 : mthT 3 197 = some m_H_rowAt := rfl
theorem lk_3_58 : mthT 3 58 = some m_R_numberAt := rfl
theorem lk_3_200 : mthT 3 200 = some m_H_ofWell := rfl
theorem lk_3_203 : mthT 3 203 = some m_H_peek := rfl
theorem lk_3_141 : mthT 3 141 = some m_W_nextNumber := rfl
theorem lk_3_206 : mthT 3 206 = some m_H_isSound := rfl
theorem lk_4_120 : mthT 4 120 = some m_H_waits := rfl
theorem lk_3_159 : mthT 3 159 = some m_Q_countUpTo := rfl
theorem lk_4_123 : mthT 4 123 = some m_H_upTo := rfl
theorem lk_4_126 : mthT 4 126 = some m_H_nth := rfl
theorem lk_3_77 : mthT 3 77 = some m_W_numberBehind := rfl
theorem lk_2_159 : mthT 2 159 = some m_W_tellBelow := rfl
theorem lk_4_129 : mthT 4 129 = some m_H_peek := rfl
theorem lk_4_137 : mthT 4 137 = some m_L_isPrime := rfl
theorem lk_4_141 : mthT 4 141 = some m_H_ways := rfl
theorem lk_4_46 : mthT 4 46 = some m_L_isGoing := rfl
theorem lk_4_144 : mthT 4 144 = some m_H_isAlike := rfl
theorem lk_4_49 : mthT 4 49 = some m_L_isMerged := rfl
theorem lk_4_148 : mthT 4 148 = some m_H_least := rfl
theorem lk_4_53 : mthT 4 53 = some m_L_isCounted := rfl
theorem lk_4_151 : mthT 4 151 = some m_L_exponents := rfl
theorem lk_4_162 : mthT 4 162 = some m_H_rowSize := rfl
def er_flds : List (Nat × Nat × Nat × Nat) := [(1, 9, 1, 0), (1, 15, 1, 1), (3, 46, 1, 1), (2, 136, 1, 1), (0, 11, 0, 0), (0, 15, 0, 1), (2, 51, 0, 1), (3, 92, 0, 1), (2, 11, 2, 0), (2, 20, 2, 1), (3, 88, 2, 1), (2, 24, 2, 2), (3, 144, 2, 2), (2, 41, 2, 3), (2, 44, 2, 4), (2, 54, 2, 5), (3, 126, 2, 5), (2, 57, 2, 6), (3, 129, 2, 6), (2, 60, 2, 7), (3, 11, 3, 0), (3, 16, 3, 1), (3, 22, 3, 2), (3, 27, 3, 3), (3, 31, 3, 4), (3, 138, 3, 5)]
def fldT (c i : Nat) : Option (Nat × Nat) := er_find er_flds c i
def er_N : List Cond := [Cond.fieldLinkNest (cN 3) 46 (tT 1 1).1 (tT 1 1).2.1 (tT 1 1).2.2.1 "Endlessrows", Cond.fieldLinkNest (cN 2) 136 (tT 1 1).1 (tT 1 1).2.1 (tT 1 1).2.2.1 "Endlessrows", Cond.fieldLinkNest (cN 2) 51 (tT 0 1).1 (tT 0 1).2.1 (tT 0 1).2.2.1 "Endlessrows", Cond.fieldLinkNest (cN 3) 92 (tT 0 1).1 (tT 0 1).2.1 (tT 0 1).2.2.1 "Endlessrows", Cond.fieldLinkNest (cN 3) 88 (tT 2 1).1 (tT 2 1).2.1 (tT 2 1).2.2.1 "Endlessrows", Cond.fieldLinkNest (cN 3) 144 (tT 2 2).1 (tT 2 2).2.1 (tT 2 2).2.2.1 "Endlessrows", Cond.fieldLinkNest (cN 3) 126 (tT 2 5).1 (tT 2 5).2.1 (tT 2 5).2.2.1 "Endlessrows", Cond.fieldLinkNest (cN 3) 129 (tT 2 6).1 (tT 2 6).2.1 (tT 2 6).2.2.1 "Endlessrows", Cond.fieldLinkNest (cN 2) 127 "Endlessrows" "BASES" "[I" "Endlessrows"]
theorem er_N_tbl : ∀ w ∈ er_N, w ∈ lw_tbl := List.forall_mem_cons.mpr ⟨List.mem_of_getElem? (i := 49) (by decide +kernel), List.forall_mem_cons.mpr ⟨List.mem_of_getElem? (i := 50) (by decide +kernel), List.forall_mem_cons.mpr ⟨List.mem_of_getElem? (i := 73) (by decide +kernel), List.forall_mem_cons.mpr ⟨List.mem_of_getElem? (i := 74) (by decide +kernel), List.forall_mem_cons.mpr ⟨List.mem_of_getElem? (i := 83) (by decide +kernel), List.forall_mem_cons.mpr ⟨List.mem_of_getElem? (i := 85) (by decide +kernel), List.forall_mem_cons.mpr ⟨List.mem_of_getElem? (i := 89) (by decide +kernel), List.forall_mem_cons.mpr ⟨List.mem_of_getElem? (i := 91) (by decide +kernel), List.forall_mem_cons.mpr ⟨List.mem_of_getElem? (i := 329) (by decide +kernel), fun _ h => absurd h List.not_mem_nil⟩⟩⟩⟩⟩⟩⟩⟩⟩
def fkOK (q : Nat × Nat × Nat × Nat) : Prop := q.2.2.1 < 4 ∧ q.2.2.2 < nF q.2.2.1 ∧ (Cond.fieldLink (cN q.1) q.2.1 (tT q.2.2.1 q.2.2.2).1 (tT q.2.2.1 q.2.2.2).2.1 (tT q.2.2.1 q.2.2.2).2.2.1 ∈ er_G ∨ Cond.fieldLinkNest (cN q.1) q.2.1 (tT q.2.2.1 q.2.2.2).1 (tT q.2.2.1 q.2.2.2).2.1 (tT q.2.2.1 q.2.2.2).2.2.1 "Endlessrows" ∈ er_N)
theorem fk_1_9_ok : fkOK (1, 9, 1, 0) := ⟨by decide, by decide, Or.inl (er_in 47 (by decide +kernel) rfl)⟩
theorem fk_1_15_ok : fkOK (1, 15, 1, 1) := ⟨by decide, by decide, Or.inl (er_in 48 (by decide +kernel) rfl)⟩
theorem fk_3_46_ok : fkOK (3, 46, 1, 1) := ⟨by decide, by decide, Or.inr (List.mem_of_getElem? (i := 0) rfl)⟩
theorem fk_2_136_ok : fkOK (2, 136, 1, 1) := ⟨by decide, by decide, Or.inr (List.mem_of_getElem? (i := 1) rfl)⟩
theorem fk_0_11_ok : fkOK (0, 11, 0, 0) := ⟨by decide, by decide, Or.inl (er_in 71 (by decide +kernel) rfl)⟩
theorem fk_0_15_ok : fkOK (0, 15, 0, 1) := ⟨by decide, by decide, Or.inl (er_in 72 (by decide +kernel) rfl)⟩
theorem fk_2_51_ok : fkOK (2, 51, 0, 1) := ⟨by decide, by decide, Or.inr (List.mem_of_getElem? (i := 2) rfl)⟩
theorem fk_3_92_ok : fkOK (3, 92, 0, 1) := ⟨by decide, by decide, Or.inr (List.mem_of_getElem? (i := 3) rfl)⟩
theorem fk_2_11_ok : fkOK (2, 11, 2, 0) := ⟨by decide, by decide, Or.inl (er_in 81 (by decide +kernel) rfl)⟩
theorem fk_2_20_ok : fkOK (2, 20, 2, 1) := ⟨by decide, by decide, Or.inl (er_in 82 (by decide +kernel) rfl)⟩
theorem fk_3_88_ok : fkOK (3, 88, 2, 1) := ⟨by decide, by decide, Or.inr (List.mem_of_getElem? (i := 4) rfl)⟩
theorem fk_2_24_ok : fkOK (2, 24, 2, 2) := ⟨by decide, by decide, Or.inl (er_in 84 (by decide +kernel) rfl)⟩
theorem fk_3_144_ok : fkOK (3, 144, 2, 2) := ⟨by decide, by decide, Or.inr (List.mem_of_getElem? (i := 5) rfl)⟩
theorem fk_2_41_ok : fkOK (2, 41, 2, 3) := ⟨by decide, by decide, Or.inl (er_in 86 (by decide +kernel) rfl)⟩
theorem fk_2_44_ok : fkOK (2, 44, 2, 4) := ⟨by decide, by decide, Or.inl (er_in 87 (by decide +kernel) rfl)⟩
theorem fk_2_54_ok : fkOK (2, 54, 2, 5) := ⟨by decide, by decide, Or.inl (er_in 88 (by decide +kernel) rfl)⟩
theorem fk_3_126_ok : fkOK (3, 126, 2, 5) := ⟨by decide, by decide, Or.inr (List.mem_of_getElem? (i := 6) rfl)⟩
theorem fk_2_57_ok : fkOK (2, 57, 2, 6) := ⟨by decide, by decide, Or.inl (er_in 90 (by decide +kernel) rfl)⟩
theorem fk_3_129_ok : fkOK (3, 129, 2, 6) := ⟨by decide, by decide, Or.inr (List.mem_of_getElem? (i := 7) rfl)⟩
theorem fk_2_60_ok : fkOK (2, 60, 2, 7) := ⟨by decide, by decide, Or.inl (er_in 92 (by decide +kernel) rfl)⟩
theorem fk_3_11_ok : fkOK (3, 11, 3, 0) := ⟨by decide, by decide, Or.inl (er_in 118 (by decide +kernel) rfl)⟩
theorem fk_3_16_ok : fkOK (3, 16, 3, 1) := ⟨by decide, by decide, Or.inl (er_in 119 (by decide +kernel) rfl)⟩
theorem fk_3_22_ok : fkOK (3, 22, 3, 2) := ⟨by decide, by decide, Or.inl (er_in 120 (by decide +kernel) rfl)⟩
theorem fk_3_27_ok : fkOK (3, 27, 3, 3) := ⟨by decide, by decide, Or.inl (er_in 121 (by decide +kernel) rfl)⟩
theorem fk_3_31_ok : fkOK (3, 31, 3, 4) := ⟨by decide, by decide, Or.inl (er_in 122 (by decide +kernel) rfl)⟩
theorem fk_3_138_ok : fkOK (3, 138, 3, 5) := ⟨by decide, by decide, Or.inl (er_in 123 (by decide +kernel) rfl)⟩
set_option maxRecDepth 100000 in
theorem er_flds_ok : ∀ q ∈ er_flds, fkOK q := List.forall_mem_cons.mpr ⟨fk_1_9_ok, List.forall_mem_cons.mpr ⟨fk_1_15_ok, List.forall_mem_cons.mpr ⟨fk_3_46_ok, List.forall_mem_cons.mpr ⟨fk_2_136_ok, List.forall_mem_cons.mpr ⟨fk_0_11_ok, List.forall_mem_cons.mpr ⟨fk_0_15_ok, List.forall_mem_cons.mpr ⟨fk_2_51_ok, List.forall_mem_cons.mpr ⟨fk_3_92_ok, List.forall_mem_cons.mpr ⟨fk_2_11_ok, List.forall_mem_cons.mpr ⟨fk_2_20_ok, List.forall_mem_cons.mpr ⟨fk_3_88_ok, List.forall_mem_cons.mpr ⟨fk_2_24_ok, List.forall_mem_cons.mpr ⟨fk_3_144_ok, List.forall_mem_cons.mpr ⟨fk_2_41_ok, List.forall_mem_cons.mpr ⟨fk_2_44_ok, List.forall_mem_cons.mpr ⟨fk_2_54_ok, List.forall_mem_cons.mpr ⟨fk_3_126_ok, List.forall_mem_cons.mpr ⟨fk_2_57_ok, List.forall_mem_cons.mpr ⟨fk_3_129_ok, List.forall_mem_cons.mpr ⟨fk_2_60_ok, List.forall_mem_cons.mpr ⟨fk_3_11_ok, List.forall_mem_cons.mpr ⟨fk_3_16_ok, List.forall_mem_cons.mpr ⟨fk_3_22_ok, List.forall_mem_cons.mpr ⟨fk_3_27_ok, List.forall_mem_cons.mpr ⟨fk_3_31_ok, List.forall_mem_cons.mpr ⟨fk_3_138_ok, fun _ h => absurd h List.not_mem_nil⟩⟩⟩⟩⟩⟩⟩⟩⟩⟩⟩⟩⟩⟩⟩⟩⟩⟩⟩⟩⟩⟩⟩⟩⟩⟩
theorem fk_1_9 : fldT 1 9 = some (1, 0) := rfl
theorem fk_1_15 : fldT 1 15 = some (1, 1) := rfl
theorem fk_3_46 : fldT 3 46 = some (1, 1) := rfl
theorem fk_2_136 : fldT 2 136 = some (1, 1) := rfl
theorem fk_0_11 : fldT 0 11 = some (0, 0) := rfl
theorem fk_0_15 : fldT 0 15 = some (0, 1) := rfl
theorem fk_2_51 : fldT 2 51 = some (0, 1) := rfl
theorem fk_3_92 : fldT 3 92 = some (0, 1) := rfl
theorem fk_2_11 : fldT 2 11 = some (2, 0) := rfl
theorem fk_2_20 : fldT 2 20 = some (2, 1) := rfl
theorem fk_3_88 : fldT 3 88 = some (2, 1) := rfl
theorem fk_2_24 : fldT 2 24 = some (2, 2) := rfl
theorem fk_3_144 : fldT 3 144 = some (2, 2) := rfl
theorem fk_2_41 : fldT 2 41 = some (2, 3) := rfl
theorem fk_2_44 : fldT 2 44 = some (2, 4) := rfl
theorem fk_2_54 : fldT 2 54 = some (2, 5) := rfl
theorem fk_3_126 : fldT 3 126 = some (2, 5) := rfl
theorem fk_2_57 : fldT 2 57 = some (2, 6) := rfl
theorem fk_3_129 : fldT 3 129 = some (2, 6) := rfl
theorem fk_2_60 : fldT 2 60 = some (2, 7) := rfl
theorem fk_3_11 : fldT 3 11 = some (3, 0) := rfl
theorem fk_3_16 : fldT 3 16 = some (3, 1) := rfl
theorem fk_3_22 : fldT 3 22 = some (3, 2) := rfl
theorem fk_3_27 : fldT 3 27 = some (3, 3) := rfl
theorem fk_3_31 : fldT 3 31 = some (3, 4) := rfl
theorem fk_3_138 : fldT 3 138 = some (3, 5) := rfl
def er_csts : List (Nat × Nat × Int) := [(5, 265, 1431655765), (5, 266, 858993459), (5, 267, 252645135), (2, 135, 100000), (2, 118, 1000000), (4, 7, 2147483647), (4, 8, 790386105), (4, 15, 1028477387), (4, 16, 668265263), (4, 87, 1000001), (3, 111, 1000000), (4, 119, 1000000), (4, 158, 100000)]
def cstT (c i : Nat) : Option Int := er_find er_csts c i
def ckOK (q : Nat × Nat × Int) : Prop := Cond.constant (cN q.1) q.2.1 (Int32.ofInt q.2.2) ∈ er_G
theorem ck_5_265_ok : ckOK (5, 265, 1431655765) := er_in 254 (by decide +kernel) rfl
theorem ck_5_266_ok : ckOK (5, 266, 858993459) := er_in 255 (by decide +kernel) rfl
theorem ck_5_267_ok : ckOK (5, 267, 252645135) := er_in 256 (by decide +kernel) rfl
theorem ck_2_135_ok : ckOK (2, 135, 100000) := er_in 325 (by decide +kernel) rfl
theorem ck_2_118_ok : ckOK (2, 118, 1000000) := er_in 382 (by decide +kernel) rfl
theorem ck_4_7_ok : ckOK (4, 7, 2147483647) := er_in 415 (by decide +kernel) rfl
theorem ck_4_8_ok : ckOK (4, 8, 790386105) := er_in 422 (by decide +kernel) rfl
theorem ck_4_15_ok : ckOK (4, 15, 1028477387) := er_in 423 (by decide +kernel) rfl
theorem ck_4_16_ok : ckOK (4, 16, 668265263) := er_in 424 (by decide +kernel) rfl
theorem ck_4_87_ok : ckOK (4, 87, 1000001) := er_in 517 (by decide +kernel) rfl
theorem ck_3_111_ok : ckOK (3, 111, 1000000) := er_in 522 (by decide +kernel) rfl
theorem ck_4_119_ok : ckOK (4, 119, 1000000) := er_in 602 (by decide +kernel) rfl
theorem ck_4_158_ok : ckOK (4, 158, 100000) := er_in 650 (by decide +kernel) rfl
theorem er_csts_ok : ∀ q ∈ er_csts, ckOK q := List.forall_mem_cons.mpr ⟨ck_5_265_ok, List.forall_mem_cons.mpr ⟨ck_5_266_ok, List.forall_mem_cons.mpr ⟨ck_5_267_ok, List.forall_mem_cons.mpr ⟨ck_2_135_ok, List.forall_mem_cons.mpr ⟨ck_2_118_ok, List.forall_mem_cons.mpr ⟨ck_4_7_ok, List.forall_mem_cons.mpr ⟨ck_4_8_ok, List.forall_mem_cons.mpr ⟨ck_4_15_ok, List.forall_mem_cons.mpr ⟨ck_4_16_ok, List.forall_mem_cons.mpr ⟨ck_4_87_ok, List.forall_mem_cons.mpr ⟨ck_3_111_ok, List.forall_mem_cons.mpr ⟨ck_4_119_ok, List.forall_mem_cons.mpr ⟨ck_4_158_ok, fun _ h => absurd h List.not_mem_nil⟩⟩⟩⟩⟩⟩⟩⟩⟩⟩⟩⟩⟩
theorem ck_5_265 : cstT 5 265 = some (1431655765) := rfl
theorem ck_5_266 : cstT 5 266 = some (858993459) := rfl
theorem ck_5_267 : cstT 5 267 = some (252645135) := rfl
theorem ck_2_135 : cstT 2 135 = some (100000) := rfl
theorem ck_2_118 : cstT 2 118 = some (1000000) := rfl
theorem ck_4_7 : cstT 4 7 = some (2147483647) := rfl
theorem ck_4_8 : cstT 4 8 = some (790386105) := rfl
theorem ck_4_15 : cstT 4 15 = some (1028477387) := rfl
theorem ck_4_16 : cstT 4 16 = some (668265263) := rfl
theorem ck_4_87 : cstT 4 87 = some (1000001) := rfl
theorem ck_3_111 : cstT 3 111 = some (1000000) := rfl
theorem ck_4_119 : cstT 4 119 = some (1000000) := rfl
theorem ck_4_158 : cstT 4 158 = some (100000) := rfl
theorem in_wsX00 : ∀ q ∈ u_ws (cN 0) (tT 0) (nF 0), q ∈ lw_tbl := by decide +kernel
theorem in_wsX10 : ∀ q ∈ u_ws (cN 1) (tT 1) (nF 1), q ∈ lw_tbl := by decide +kernel
theorem in_wsX20 : ∀ q ∈ u_ws (cN 2) (tT 2) (nF 2), q ∈ lw_tbl := by decide +kernel
theorem in_wsX30 : ∀ q ∈ u_ws (cN 3) (tT 3) (nF 3), q ∈ lw_tbl := by decide +kernel
