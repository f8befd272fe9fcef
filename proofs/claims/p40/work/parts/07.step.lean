theorem i_eq0 (a : Int) : Int32.ofInt a = 0 ↔ wI a = 0 := i_eq a 0
theorem i_lt0 (a : Int) : Int32.ofInt a < 0 ↔ wI a < 0 := i_lt a 0
theorem i_ge0 (a : Int) : 0 ≤ Int32.ofInt a ↔ 0 ≤ wI a := i_le 0 a
theorem i_gt0 (a : Int) : 0 < Int32.ofInt a ↔ 0 < wI a := i_lt 0 a
theorem i_le0 (a : Int) : Int32.ofInt a ≤ 0 ↔ wI a ≤ 0 := i_le a 0
theorem in_er0 : ∀ q ∈ u_ws (cN 0) (tT 0) (nF 0), q ∈ er_G := fun q hq => List.mem_filter.mpr ⟨in_wsX00 q hq, (by decide +kernel : ∀ q ∈ u_ws (cN 0) (tT 0) (nF 0), goodWord q = true) q hq⟩
theorem in_er1 : ∀ q ∈ u_ws (cN 1) (tT 1) (nF 1), q ∈ er_G := fun q hq => List.mem_filter.mpr ⟨in_wsX10 q hq, (by decide +kernel : ∀ q ∈ u_ws (cN 1) (tT 1) (nF 1), goodWord q = true) q hq⟩
theorem in_er2 : ∀ q ∈ u_ws (cN 2) (tT 2) (nF 2), q ∈ er_G := fun q hq => List.mem_filter.mpr ⟨in_wsX20 q hq, (by decide +kernel : ∀ q ∈ u_ws (cN 2) (tT 2) (nF 2), goodWord q = true) q hq⟩
theorem in_er3 : ∀ q ∈ u_ws (cN 3) (tT 3) (nF 3), q ∈ er_G := fun q hq => List.mem_filter.mpr ⟨in_wsX30 q hq, (by decide +kernel : ∀ q ∈ u_ws (cN 3) (tT 3) (nF 3), goodWord q = true) q hq⟩
theorem in_er {k : Nat} (h : k < 4) : ∀ q ∈ u_ws (cN k) (tT k) (nF k), q ∈ er_G := by
  rcases (show k = 0 ∨ k = 1 ∨ k = 2 ∨ k = 3 by omega) with rfl | rfl | rfl | rfl
  · exact in_er0
  · exact in_er1
  · exact in_er2
  · exact in_er3
def er_ty (k : Nat) : Nat → FieldType := match k with
  | 0 => tyX0
  | 1 => tyX1
  | 2 => tyX2
  | _ => tyX3
theorem er_ty_ok {k : Nat} (h : k < 4) : ∀ j, j < nF k → parseFieldDescriptor (tT k j).2.2.1 = some (er_ty k j) := by
  rcases (show k = 0 ∨ k = 1 ∨ k = 2 ∨ k = 3 by omega) with rfl | rfl | rfl | rfl
  · exact tyX0_ok
  · exact tyX1_ok
  · exact tyX2_ok
  · exact tyX3_ok
theorem er_nm {k : Nat} (h : k < 4) : ∀ a, a < nF k → ∀ b, b < nF k → a ≠ b → (tT k a).2.1 ≠ (tT k b).2.1 := by
  rcases (show k = 0 ∨ k = 1 ∨ k = 2 ∨ k = 3 by omega) with rfl | rfl | rfl | rfl
  · exact nmX0
  · exact nmX1
  · exact nmX2
  · exact nmX3
theorem er_cl_at {k : Nat} (h : k < 4) : er_cl[k]? = some (cN k, tT k, nF k) := by
  rcases (show k = 0 ∨ k = 1 ∨ k = 2 ∨ k = 3 by omega) with rfl | rfl | rfl | rfl <;> rfl
/-- an int field is not final, and of type int or boolean -/
theorem fint_ok : ∀ k, k < 4 → ∀ j, j < nF k → fint k j = true → ((tT k j).2.2.2 = false ∧ (er_ty k j = .int ∨ (er_ty k j = .boolean ∧ k = 2 ∧ j = 4))) := by decide +kernel
theorem fint_lt {k j : Nat} (hk : k < 4) (h : fint k j = true) : j < nF k := by
  unfold fint at h
  split at h <;> first | decide | cases h
theorem fint_val {k i j : Nat} {M : AMem} (h : fint k j = true) : fval k i j M = vI (M k i j) := by
  unfold fint at h
  split at h <;> first | rfl | cases h
theorem fs_at {ad : Nat → Nat → Nat} {k i j : Nat} {M : AMem} (h : j < nF k) : ((List.range (nF k)).map (fun s => tv ad (fval k i s M)))[j]? = some (tv ad (fval k i j M)) := by
  rw [List.getElem?_map, List.getElem?_range h]
  rfl
theorem fs_set {ad : Nat → Nat → Nat} {k i j : Nat} {M : AMem} {z : Int} (h : fint k j = true) : ((List.range (nF k)).map (fun s => tv ad (fval k i s M))).set j (.int (Int32.ofInt z)) = (List.range (nF k)).map (fun s => tv ad (fval k i s (aup M k i j z))) := by
  apply List.ext_getElem?
  intro n
  by_cases hn : j = n
  · subst hn
    by_cases hl : j < nF k
    · rw [List.getElem?_set_self (by simpa using hl), List.getElem?_map, List.getElem?_range hl]
      simp only [Option.map_some]
      rw [fint_val h, tv_I]
      unfold aup
      rw [if_pos ⟨rfl, rfl, rfl⟩]
    · rw [List.getElem?_eq_none (by simpa using Nat.not_lt.mp hl), List.getElem?_eq_none (by simpa using Nat.not_lt.mp hl)]
  · rw [List.getElem?_set_ne hn, List.getElem?_map, List.getElem?_map]
    cases hr : (List.range (nF k))[n]? with
    | none => rfl
    | some q =>
      have hq : q = n := by
        have h1 := (List.getElem?_eq_some_iff.mp hr)
        obtain ⟨h2, h3⟩ := h1
        rw [List.getElem_range] at h3
        exact h3.symm
      subst hq
      simp only [Option.map_some]
      congr 2
      unfold fval
      split <;> first | rfl | (unfold aup; rw [if_neg (fun x => hn x.2.2.symm)])
/-- the tables' words of the natives, the statics and the longs -/
theorem w_max : Cond.static Lib.Math.max.name ∈ er_G ∧ Cond.initialized "java/lang/Math" ∈ er_G ∧ Cond.code Lib.Math.max.name Lib.Math.max.code 2 (some .int) ∈ er_G := ⟨er_in 394 (by decide +kernel) rfl, er_in 30 (by decide +kernel) rfl, er_in 395 (by decide +kernel) rfl⟩
theorem w_min : Cond.static Lib.Math.min.name ∈ er_G ∧ Cond.code Lib.Math.min.name Lib.Math.min.code 2 (some .int) ∈ er_G := ⟨er_in 258 (by decide +kernel) rfl, er_in 259 (by decide +kernel) rfl⟩
theorem w_cpy : Cond.native arraycopyName ∈ er_G ∧ Cond.static arraycopyName ∈ er_G ∧ Cond.initialized "java/lang/System" ∈ er_G := ⟨er_in 278 (by decide +kernel) rfl, er_in 277 (by decide +kernel) rfl, er_in 29 (by decide +kernel) rfl⟩
theorem w_blt {c i bb : Nat} (h : bltT c i = some bb) : (bb = 0 ∧ Cond.methodLink (cN c) i Lib.Math.max.name ∈ er_G) ∨ (bb = 1 ∧ Cond.methodLink (cN c) i Lib.Math.min.name ∈ er_G) ∨ (bb = 2 ∧ Cond.methodLink (cN c) i arraycopyName ∈ er_G) := by
  have h1 := er_find_mem h
  simp only [List.mem_cons, List.not_mem_nil, or_false, Prod.mk.injEq] at h1
  rcases h1 with ⟨rfl, rfl, rfl⟩ | ⟨rfl, rfl, rfl⟩ | ⟨rfl, rfl, rfl⟩ | ⟨rfl, rfl, rfl⟩ | ⟨rfl, rfl, rfl⟩ | ⟨rfl, rfl, rfl⟩
  · exact Or.inl ⟨rfl, er_in 393 (by decide +kernel) rfl⟩
  · exact Or.inl ⟨rfl, er_in 625 (by decide +kernel) rfl⟩
  · exact Or.inr (Or.inl ⟨rfl, er_in 257 (by decide +kernel) rfl⟩)
  · exact Or.inr (Or.inl ⟨rfl, er_in 651 (by decide +kernel) rfl⟩)
  · exact Or.inr (Or.inr ⟨rfl, er_in 276 (by decide +kernel) rfl⟩)
  · exact Or.inr (Or.inr ⟨rfl, er_in 283 (by decide +kernel) rfl⟩)
theorem w_lon {c i : Nat} {z : Int} (h : lonT c i = some z) : Cond.constantLong (cN c) i (Int64.ofInt z) ∈ er_G := by
  have h1 := er_find_mem h
  simp only [List.mem_cons, List.not_mem_nil, or_false, Prod.mk.injEq] at h1
  rcases h1 with ⟨rfl, rfl, rfl⟩ | ⟨rfl, rfl, rfl⟩
  · exact er_in 577 (by decide +kernel) rfl
  · exact er_in 578 (by decide +kernel) rfl
theorem w_sta {c i k : Nat} (h : staT c i = some k) : (k = 10 ∧ Cond.fieldLinkNest (cN c) i "Endlessrows" "BASES" "[I" "Endlessrows" ∈ er_N) ∨ (k = 11 ∧ Cond.fieldLink (cN c) i "EndlessrowsLaw" "FEW" "[I" ∈ er_G) := by
  have h1 := er_find_mem h
  simp only [List.mem_cons, List.not_mem_nil, or_false, Prod.mk.injEq] at h1
  rcases h1 with ⟨rfl, rfl, rfl⟩ | ⟨rfl, rfl, rfl⟩
  · exact Or.inl ⟨rfl, List.mem_of_getElem? (i := 8) rfl⟩
  · exact Or.inr ⟨rfl, er_in 655 (by decide +kernel) rfl⟩
/-- a method's frame: the machine, its code, the words, the room -/
def er_C (D : va_G) (cI cR cW : ClassId) (B b L tB tF : Nat) (xs : Nat → Int32) (Y : MT) (p : Program) (R : Room) (s : State) (m : MethodId) (args : Array Value) (meth : Method) (c : Code) (cells slots : Nat) : Prop :=
  p.tables.exec = Jvm.exec ∧ c.code = mtC Y ∧ meth.sig.returnType = mtR Y ∧ c.maxLocals = mtL Y ∧ s.vm.findClass (cN (mtK Y)) = some m.cls ∧ (∀ w ∈ er_G, w.before args s = true) ∧ er_S D cI cR cW B b L tB tF xs s ∧ cells ≤ R.cells ∧ slots ≤ R.slots ∧ 1 ≤ R.frames ∧ 400 ≤ R.locals
section SIM
variable {p : Program} {l : Launch} {e : Env} {R : Room} {s : State} {m : MethodId} {args : Array Value} {below : List Frame} {meth : Method} {c : Code} {H : Heap} {locs : List Loc} {cells slots : Nat} {Q : State → Prop}
variable {D : va_G} {cI cR cW : ClassId} {B b L tB tF : Nat} {xs : Nat → Int32}
/-- what is left to show behind a step -/
abbrev KN (D : va_G) (cI cR cW : ClassId) (B b L tB tF : Nat) (xs : Nat → Int32) (Y : MT) (p : Program) (l : Launch) (e : Env) (R : Room) (s : State) (m : MethodId) (args : Array Value) (below : List Frame) (meth : Method) (c : Code) (cells slots : Nat) (Q : State → Prop) (pc : Nat) (ls : ALs) (st : List AV) (M : AMem) : Prop :=
  ∀ (H' : Heap) (locs' : List Loc) (lj' : Array Slot), va_P D er_cl (er_ws (er_ad B b tB tF) cI cR cW M) H' → va_S (fun q => B ≤ q) s.heap H' locs' → lsR (er_ad B b tB tF) ls (mtL Y) lj' → scrM L xs M → W p l e R s m args below meth c H' locs' cells slots Q (F0 m pc lj' (st.map (tv (er_ad B b tB tF))))
set_option maxHeartbeats 4000000 in
set_option maxRecDepth 100000 in
theorem step_next {Y : MT} {ins : ClassFile.Instr} {len pc pc' : Nat} {ls ls' : ALs} {st st' : List AV} {M M' : AMem} {lj : Array Slot}
    (C0 : er_C D cI cR cW B b L tB tF xs Y p R s m args meth c cells slots) (hd : decode (mtC Y) pc = .ok (ins, len)) (h : ex1 Y ins len pc ls st M = some (.inl (pc', ls', st', M')))
    (hP : va_P D er_cl (er_ws (er_ad B b tB tF) cI cR cW M) H) (hS : va_S (fun q => B ≤ q) s.heap H locs) (hl : lsR (er_ad B b tB tF) ls (mtL Y) lj) (hM : scrM L xs M)
    (k : KN D cI cR cW B b L tB tF xs Y p l e R s m args below meth c cells slots Q pc' ls' st' M') : W p l e R s m args below meth c H locs cells slots Q (F0 m pc lj (st.map (tv (er_ad B b tB tF)))) := by
  obtain ⟨hx, hb, hr, hml, hown, hts, hS0, hcl, hsl, hfr, hlo⟩ := C0
  have hS0' := hS0
  obtain ⟨hBs, hK, hbB, hX, hZ1, hT1, hZ2, hT2, hN⟩ := hS0'
  have hD := er_ws_D B b tB tF cI cR cW M
  cases ins
  case iconst n =>
    obtain ⟨rfl, rfl, rfl, rfl, rfl⟩ := aPush_inv h
    exact lv_iconst hx hb hd rfl (k _ _ _ hP hS hl hM)
  case bipush n =>
    obtain ⟨hc, h⟩ := if_inv h
    obtain ⟨rfl, rfl, rfl, rfl, rfl⟩ := aPush_inv h
    refine lv_bipush hx hb hd (v := Int32.ofInt n) ?_ (k _ _ _ hP hS hl hM)
    rw [← Int32.toInt_inj, Int8.toInt_toInt32, Int8.toInt_ofInt_of_le (by omega) (by omega), i_toInt, wI_eq (by omega) (by omega)]
  case sipush n =>
    obtain ⟨hc, h⟩ := if_inv h
    obtain ⟨rfl, rfl, rfl, rfl, rfl⟩ := aPush_inv h
    refine lv_sipush hx hb hd (v := Int32.ofInt n) ?_ (k _ _ _ hP hS hl hM)
    rw [← Int32.toInt_inj, Int16.toInt_toInt32, Int16.toInt_ofInt_of_le (by omega) (by omega), i_toInt, wI_eq (by omega) (by omega)]
  case ldc i =>
    obtain ⟨z, hz, h⟩ := oG_inv h
    obtain ⟨rfl, rfl, rfl, rfl, rfl⟩ := aPush_inv h
    exact lv_ldc hx hb hown (hts _ (er_csts_ok _ (er_find_mem hz))) hd (k _ _ _ hP hS hl hM)
  case ldc_w i =>
    obtain ⟨z, hz, h⟩ := oG_inv h
    obtain ⟨rfl, rfl, rfl, rfl, rfl⟩ := aPush_inv h
    exact lv_ldcw hx hb hown (hts _ (er_csts_ok _ (er_find_mem hz))) hd (k _ _ _ hP hS hl hM)
  case ldc2_w i =>
    obtain ⟨z, hz, h⟩ := oG_inv h
    obtain ⟨rfl, rfl, rfl, rfl, rfl⟩ := aPush_inv h
    exact lv_ldc2 hx hb hown (hts _ (w_lon hz)) hd (k _ _ _ hP hS hl hM)
  case iload i =>
    obtain ⟨rfl, z, hv, rfl, rfl, rfl, rfl⟩ := aLoadI_inv h
    exact lv_iload hx hb hd (lsR_at hl hv) (k _ _ _ hP hS hl hM)
  case iload_n i =>
    obtain ⟨rfl, z, hv, rfl, rfl, rfl, rfl⟩ := aLoadI_inv h
    exact lv_iload_n hx hb hd rfl (lsR_at hl hv) (k _ _ _ hP hS hl hM)
  case lload i =>
    obtain ⟨rfl, z, hv, rfl, rfl, rfl, rfl⟩ := aLoadL_inv h
    exact lv_lload hx hb hd (lsR_at hl hv) (k _ _ _ hP hS hl hM)
  case lload_n i =>
    obtain ⟨rfl, z, hv, rfl, rfl, rfl, rfl⟩ := aLoadL_inv h
    exact lv_lload_n hx hb hd rfl (lsR_at hl hv) (k _ _ _ hP hS hl hM)
  case aload i =>
    obtain ⟨rfl, q, j, hv, rfl, rfl, rfl, rfl⟩ := aLoadA_inv h
    exact lv_aload hx hb hd (lsR_at hl hv) (k _ _ _ hP hS hl hM)
  case aload_n i =>
    obtain ⟨rfl, q, j, hv, rfl, rfl, rfl, rfl⟩ := aLoadA_inv h
    exact lv_aload_n hx hb hd rfl (lsR_at hl hv) (k _ _ _ hP hS hl hM)
  case istore i =>
    obtain ⟨rfl, hok, z, rfl, rfl, rfl, rfl⟩ := aStoreI_inv h
    exact lv_istore hx hb hd hl.2 (by have h7 := hl.1; simp only [stOK, Bool.and_eq_true, decide_eq_true_eq] at hok; omega) rfl (fun lj' hl' => k _ _ _ hP hS (lsR_set hl.1 hok hl') hM)
  case istore_n i =>
    obtain ⟨rfl, hok, z, rfl, rfl, rfl, rfl⟩ := aStoreI_inv h
    exact lv_istore_n hx hb hd rfl hl.2 (by have h7 := hl.1; simp only [stOK, Bool.and_eq_true, decide_eq_true_eq] at hok; omega) rfl (fun lj' hl' => k _ _ _ hP hS (lsR_set hl.1 hok hl') hM)
  case astore i =>
    obtain ⟨rfl, hok, q, j, rfl, rfl, rfl, rfl⟩ := aStoreA_inv h
    exact lv_astore hx hb hd hl.2 (by have h7 := hl.1; simp only [stOK, Bool.and_eq_true, decide_eq_true_eq] at hok; omega) rfl (fun lj' hl' => k _ _ _ hP hS (lsR_set hl.1 hok hl') hM)
  case astore_n i =>
    obtain ⟨rfl, hok, q, j, rfl, rfl, rfl, rfl⟩ := aStoreA_inv h
    exact lv_astore_n hx hb hd rfl hl.2 (by have h7 := hl.1; simp only [stOK, Bool.and_eq_true, decide_eq_true_eq] at hok; omega) rfl (fun lj' hl' => k _ _ _ hP hS (lsR_set hl.1 hok hl') hM)
  case lstore i =>
    obtain ⟨rfl, hok, hi, z, rfl, rfl, rfl, rfl⟩ := aStoreL_inv h
    exact lv_lstore hx hb hd hl.2 (by have h7 := hl.1; omega) rfl (fun lj' hl' => k _ _ _ hP hS (lsR_set2 hl.1 hok hl') hM)
  case lstore_n i =>
    obtain ⟨rfl, hok, hi, z, rfl, rfl, rfl, rfl⟩ := aStoreL_inv h
    exact lv_lstore_n hx hb hd rfl hl.2 (by have h7 := hl.1; omega) rfl (fun lj' hl' => k _ _ _ hP hS (lsR_set2 hl.1 hok hl') hM)
  case iinc i n =>
    obtain ⟨hc0, h1⟩ := if_inv h
    clear h
    obtain ⟨hlen, hok⟩ := hc0
    have h := h1
    clear h1
    subst hlen
    obtain ⟨v, hv, h⟩ := gL_inv h
    obtain ⟨z, r, h3, h⟩ := sI_inv h
    cases h3
    obtain ⟨rfl, rfl, rfl, rfl⟩ := nx_inv h
    obtain ⟨kk, hkk⟩ := List.getElem?_of_mem (mem_lpr.mpr ⟨vI z, Nat.zero_le i, hv, rfl⟩ : (i, tv (er_ad B b tB tF) (vI z)) ∈ lpr (er_ad B b tB tF) 0 ls)
    exact lv_iinc hx hb hd hl.2 (k := kk) hkk (Int32.ofInt_add z n).symm (by have h7 := hl.1; simp only [stOK, Bool.and_eq_true, decide_eq_true_eq] at hok; omega) rfl (fun lj' hl' => k _ _ _ hP hS (lsR_set (v := vI (z + n)) hl.1 hok hl') hM)
  case iadd =>
    obtain ⟨rfl, x, y, r, rfl, rfl, rfl, rfl, rfl⟩ := aBin_inv h
    have k1 := k _ _ _ hP hS hl hM
    simp only [List.map_cons, tv_I, Int32.ofInt_add] at k1 ⊢
    exact lv_iadd hx hb hd k1
  case isub =>
    obtain ⟨rfl, x, y, r, rfl, rfl, rfl, rfl, rfl⟩ := aBin_inv h
    have k1 := k _ _ _ hP hS hl hM
    simp only [List.map_cons, tv_I, Int32.ofInt_sub] at k1 ⊢
    exact lv_isub hx hb hd k1
  case imul =>
    obtain ⟨rfl, x, y, r, rfl, rfl, rfl, rfl, rfl⟩ := aBin_inv h
    have k1 := k _ _ _ hP hS hl hM
    simp only [List.map_cons, tv_I, Int32.ofInt_mul] at k1 ⊢
    exact lv_imul hx hb hd k1
  case iand =>
    obtain ⟨rfl, x, y, r, rfl, rfl, rfl, rfl, rfl⟩ := aBin_inv h
    have k1 := k _ _ _ hP hS hl hM
    simp only [List.map_cons, tv_I, opAnd, i_of] at k1 ⊢
    exact lv_iand hx hb hd k1
  case ixor =>
    obtain ⟨rfl, x, y, r, rfl, rfl, rfl, rfl, rfl⟩ := aBin_inv h
    have k1 := k _ _ _ hP hS hl hM
    simp only [List.map_cons, tv_I, opXor, i_of] at k1 ⊢
    exact lv_ixor hx hb hd k1
  case ishr =>
    obtain ⟨rfl, x, y, r, rfl, rfl, rfl, rfl, rfl⟩ := aBin_inv h
    have k1 := k _ _ _ hP hS hl hM
    simp only [List.map_cons, tv_I, opShr, i_of] at k1 ⊢
    exact lv_ishr hx hb hd k1
  case iushr =>
    obtain ⟨rfl, x, y, r, rfl, rfl, rfl, rfl, rfl⟩ := aBin_inv h
    have k1 := k _ _ _ hP hS hl hM
    simp only [List.map_cons, tv_I, opUshr, i_of] at k1 ⊢
    exact lv_iushr hx hb hd rfl k1
  case idiv =>
    obtain ⟨rfl, x, y, r, rfl, hy, rfl, rfl, rfl, rfl⟩ := aDiv_inv h
    have k1 := k _ _ _ hP hS hl hM
    simp only [List.map_cons, tv_I] at k1 ⊢
    rw [← i_div] at k1
    exact lv_idiv hx hb hd (fun q => hy (by have q2 := (i_eq y 0).mp q; rw [q2]; rfl)) k1
  case irem =>
    obtain ⟨rfl, x, y, r, rfl, hy, rfl, rfl, rfl, rfl⟩ := aDiv_inv h
    have k1 := k _ _ _ hP hS hl hM
    simp only [List.map_cons, tv_I] at k1 ⊢
    rw [← i_rem] at k1
    exact lv_irem hx hb hd (fun q => hy (by have q2 := (i_eq y 0).mp q; rw [q2]; rfl)) k1
  case i2l =>
    obtain ⟨rfl, h⟩ := if_inv h
    obtain ⟨z, r, rfl, h⟩ := sI_inv h
    obtain ⟨rfl, rfl, rfl, rfl⟩ := nx_inv h
    exact lv_i2l hx hb hd (i_l z) (k _ _ _ hP hS hl hM)
  case ladd =>
    obtain ⟨rfl, h⟩ := if_inv h
    obtain ⟨y, r, rfl, h⟩ := sL_inv h
    obtain ⟨x, r, rfl, h⟩ := sL_inv h
    obtain ⟨rfl, rfl, rfl, rfl⟩ := nx_inv h
    have k1 := k _ _ _ hP hS hl hM
    simp only [List.map_cons, tv_L, Int64.ofInt_add] at k1 ⊢
    exact lv_ladd hx hb hd k1
  case lmul =>
    obtain ⟨rfl, h⟩ := if_inv h
    obtain ⟨y, r, rfl, h⟩ := sL_inv h
    obtain ⟨x, r, rfl, h⟩ := sL_inv h
    obtain ⟨rfl, rfl, rfl, rfl⟩ := nx_inv h
    have k1 := k _ _ _ hP hS hl hM
    simp only [List.map_cons, tv_L, Int64.ofInt_mul] at k1 ⊢
    exact lv_lmul hx hb hd k1
  case lcmp =>
    obtain ⟨rfl, h⟩ := if_inv h
    obtain ⟨y, r, rfl, h⟩ := sL_inv h
    obtain ⟨x, r, rfl, h⟩ := sL_inv h
    obtain ⟨rfl, rfl, rfl, rfl⟩ := nx_inv h
    have k1 := k _ _ _ hP hS hl hM
    simp only [List.map_cons, tv_L, tv_I, ← i_cmp] at k1 ⊢
    exact W.lcmp hx hb hd k1
  case dup =>
    obtain ⟨rfl, h⟩ := if_inv h
    obtain ⟨v, r, rfl, h⟩ := sV_inv h
    obtain ⟨hc, h⟩ := if_inv h
    obtain ⟨rfl, rfl, rfl, rfl⟩ := nx_inv h
    exact lv_dup hx hb hd (by rw [tv_cat]; exact hc) (k _ _ _ hP hS hl hM)
  case pop =>
    obtain ⟨rfl, h⟩ := if_inv h
    obtain ⟨v, r, rfl, h⟩ := sV_inv h
    obtain ⟨hc, h⟩ := if_inv h
    obtain ⟨rfl, rfl, rfl, rfl⟩ := nx_inv h
    exact lv_pop hx hb hd (by rw [tv_cat]; exact hc) (k _ _ _ hP hS hl hM)
  case ifCond cc off =>
    obtain ⟨x, r, rfl, h⟩ := sI_inv h
    obtain ⟨rfl, ht, rfl, rfl, rfl, rfl⟩ := aBr_inv h
    have kt : cmpB cc (wI x) 0 = true → W p l e R s m args below meth c H locs cells slots Q (F0 m (jmp pc off) lj (List.map (tv (er_ad B b tB tF)) st')) := fun q => by
      have k1 := k _ _ _ hP hS hl hM
      rw [if_pos q] at k1
      exact k1
    have kf : ¬ cmpB cc (wI x) 0 = true → W p l e R s m args below meth c H locs cells slots Q (F0 m (pc + 3) lj (List.map (tv (er_ad B b tB tF)) st')) := fun q => by
      have k1 := k _ _ _ hP hS hl hM
      rw [if_neg q] at k1
      exact k1
    cases cc
    case eq => exact lv_if_eq hx hb hd ht (fun q => kt (decide_eq_true ((i_eq0 x).mp q))) (fun q => kf (fun z => q ((i_eq0 x).mpr (of_decide_eq_true z))))
    case ne => exact lv_if_ne hx hb hd ht (fun q => kt (decide_eq_true ((not_congr (i_eq0 x)).mp q))) (fun q => kf (fun z => absurd ((i_eq0 x).mp q) (of_decide_eq_true z)))
    case lt => exact lv_if_lt hx hb hd ht (fun q => kt (decide_eq_true ((i_lt0 x).mp q))) (fun q => kf (fun z => q ((i_lt0 x).mpr (of_decide_eq_true z))))
    case ge => exact lv_if_ge hx hb hd ht (fun q => kt (decide_eq_true ((i_ge0 x).mp q))) (fun q => kf (fun z => q ((i_ge0 x).mpr (of_decide_eq_true z))))
    case gt => exact lv_if_gt hx hb hd ht (fun q => kt (decide_eq_true ((i_gt0 x).mp q))) (fun q => kf (fun z => q ((i_gt0 x).mpr (of_decide_eq_true z))))
    case le => exact lv_if_le hx hb hd ht (fun q => kt (decide_eq_true ((i_le0 x).mp q))) (fun q => kf (fun z => q ((i_le0 x).mpr (of_decide_eq_true z))))
  case if_icmp cc off =>
    obtain ⟨y, r, rfl, h⟩ := sI_inv h
    obtain ⟨x, r, rfl, h⟩ := sI_inv h
    obtain ⟨rfl, ht, rfl, rfl, rfl, rfl⟩ := aBr_inv h
    have kt : cmpB cc (wI x) (wI y) = true → W p l e R s m args below meth c H locs cells slots Q (F0 m (jmp pc off) lj (List.map (tv (er_ad B b tB tF)) st')) := fun q => by
      have k1 := k _ _ _ hP hS hl hM
      rw [if_pos q] at k1
      exact k1
    have kf : ¬ cmpB cc (wI x) (wI y) = true → W p l e R s m args below meth c H locs cells slots Q (F0 m (pc + 3) lj (List.map (tv (er_ad B b tB tF)) st')) := fun q => by
      have k1 := k _ _ _ hP hS hl hM
      rw [if_neg q] at k1
      exact k1
    cases cc
    case eq => exact lv_icmp_eq hx hb hd ht (fun q => kt (decide_eq_true ((i_eq x y).mp q))) (fun q => kf (fun z => q ((i_eq x y).mpr (of_decide_eq_true z))))
    case ne => exact lv_icmp_ne hx hb hd ht (fun q => kt (decide_eq_true ((not_congr (i_eq x y)).mp q))) (fun q => kf (fun z => absurd ((i_eq x y).mp q) (of_decide_eq_true z)))
    case lt => exact lv_icmp_lt hx hb hd ht (fun q => kt (decide_eq_true ((i_lt x y).mp q))) (fun q => kf (fun z => q ((i_lt x y).mpr (of_decide_eq_true z))))
    case ge => exact lv_icmp_ge hx hb hd ht (fun q => kt (decide_eq_true ((i_le y x).mp q))) (fun q => kf (fun z => q ((i_le y x).mpr (of_decide_eq_true z))))
    case gt => exact lv_icmp_gt hx hb hd ht (fun q => kt (decide_eq_true ((i_lt y x).mp q))) (fun q => kf (fun z => q ((i_lt y x).mpr (of_decide_eq_true z))))
    case le => exact lv_icmp_le hx hb hd ht (fun q => kt (decide_eq_true ((i_le x y).mp q))) (fun q => kf (fun z => q ((i_le x y).mpr (of_decide_eq_true z))))
  case goto off =>
    obtain ⟨hc0, h1⟩ := if_inv h
    clear h
    obtain ⟨hlen, hj⟩ := hc0
    have h := h1
    clear h1
    subst hlen
    obtain ⟨rfl, rfl, rfl, rfl⟩ := nx_inv h
    exact lv_goto hx hb hd (jmp_eq hj) (k _ _ _ hP hS hl hM)
  case tableswitch dflt lo hi offs =>
    obtain ⟨z, rfl, rfl, rfl, ⟨h1, h2⟩ | ⟨h1, off, h2, h3⟩⟩ := aSwT_inv h
    · exact lv_tableOut hx hb hd (by rw [i_toInt]; exact h1) h2 (k _ _ _ hP hS hl hM)
    · exact lv_tableIn hx hb hd (by rw [i_toInt]; exact fun q => h1 (Or.inl q)) (by rw [i_toInt]; exact fun q => h1 (Or.inr q)) (by rw [i_toInt]; exact h2) h3 (k _ _ _ hP hS hl hM)
  case lookupswitch dflt ps =>
    obtain ⟨h1, z, rfl, rfl, rfl, h2⟩ := aSwL_inv h
    exact lv_lookup hx hb hd h1 (by rw [i_toInt]) h2 (k _ _ _ hP hS hl hM)
  case getstatic i =>
    obtain ⟨rfl, h⟩ := if_inv h
    obtain ⟨q, hq, h⟩ := oG_inv h
    obtain ⟨rfl, rfl, rfl, rfl⟩ := nx_inv h
    rcases w_sta hq with ⟨rfl, hw⟩ | ⟨rfl, hw⟩
    · exact va_getsN hx hb hZ1 hS hown (va_Nw.use rfl (hN _ hw)) (fun x h => h) hd (k _ _ _ hP hS hl hM)
    · exact va_gets hx hb hZ2 hS hown (hts _ hw) (fun x h => h) hd (k _ _ _ hP hS hl hM)
  case getfield f =>
    obtain ⟨rfl, h⟩ := if_inv h
    obtain ⟨q, hq, h⟩ := oG_inv h
    obtain ⟨kd, i, r, rfl, hok, h⟩ := sR_inv h
    obtain ⟨hkq, h⟩ := if_inv h
    obtain ⟨rfl, rfl, rfl, rfl⟩ := nx_inv h
    obtain ⟨hk4, hn, hw⟩ := er_flds_ok _ (er_find_mem hq)
    dsimp only at hk4 hn hw
    subst hkq
    have he := er_ws_at (ad := er_ad B b tB tF) (cI := cI) (cR := cR) (cW := cW) (M := M') (show q.1 < 9 by omega) hok
    rw [ent_obj _ _ _ _ _ _ hk4] at he
    rcases hw with hw | hw
    · exact va_get (C := cN q.1) hx hb hts (in_er hk4) hown hK hP _ he (er_cl_at hk4) q.2 hn (hts _ hw) (fun x h => h) (fs_at hn) hd (k _ _ _ hP hS hl hM)
    · exact va_getN (C := cN q.1) hx hb hts (in_er hk4) hown hK hP _ he (er_cl_at hk4) q.2 hn (va_Nw.use rfl (hN _ hw)) (fun x h => h) (fs_at hn) hd (k _ _ _ hP hS hl hM)
  case putfield f =>
    obtain ⟨rfl, h⟩ := if_inv h
    obtain ⟨q, hq, h⟩ := oG_inv h
    obtain ⟨z, r, rfl, h⟩ := sI_inv h
    obtain ⟨kd, i, r, rfl, hok, h⟩ := sR_inv h
    obtain ⟨hc0, h1⟩ := if_inv h
    clear h
    obtain ⟨hkq, hfi, hbo⟩ := hc0
    have h := h1
    clear h1
    obtain ⟨rfl, rfl, rfl, rfl⟩ := nx_inv h
    obtain ⟨hk4, hn, hw⟩ := er_flds_ok _ (er_find_mem hq)
    dsimp only at hk4 hn hw
    subst hkq
    have he := er_ws_at (ad := er_ad B b tB tF) (cI := cI) (cR := cR) (cW := cW) (M := M) (show q.1 < 9 by omega) hok
    rw [ent_obj _ _ _ _ _ _ hk4] at he
    obtain ⟨hfin, hty⟩ := fint_ok q.1 hk4 q.2 hn hfi
    have hnar : narrow (er_ty q.1 q.2) (.int (Int32.ofInt z)) = .int (Int32.ofInt z) ∧ fits (er_ty q.1 q.2) (.int (Int32.ofInt z)) = true := by
      rcases hty with h0 | ⟨h0, h1, h2⟩
      · rw [h0]; exact ⟨rfl, rfl⟩
      · rw [h0]
        rcases hbo ⟨h1, h2⟩ with rfl | rfl
        · exact ⟨rfl, rfl⟩
        · exact ⟨rfl, rfl⟩
    have hset := er_ws_set (ad := er_ad B b tB tF) (cI := cI) (cR := cR) (cW := cW) (M := M) (M' := aup M q.1 i q.2 z) (show q.1 < 9 by omega) hok (fun k' i' s hh => aup_out k' i' s hh)
    rw [ent_obj _ _ _ _ _ _ hk4, ← fs_set hfi] at hset
    rcases hw with hw | hw
    · refine va_put (C := cN q.1) hx hb hts (in_er hk4) (er_ty q.1) (er_ty_ok hk4) (er_nm hk4) hown hK hP hD hS _ he (er_cl_at hk4) q.2 hn (hts _ hw) (fun x h => h) hfin (er_ty_ok hk4 q.2 hn) hnar.1 hnar.2 (by simpa using hn) hd (fun H1 locs1 hP1 hD1 hS1 => ?_)
      rw [tv_I, hset] at hP1
      exact k _ _ _ hP1 hS1 hl (scrM_aup _ _ _ _ (by omega) hM)
    · refine va_putN (C := cN q.1) hx hb hts (in_er hk4) (er_ty q.1) (er_ty_ok hk4) (er_nm hk4) hown hK hP hD hS _ he (er_cl_at hk4) q.2 hn (va_Nw.use rfl (hN _ hw)) (fun x h => h) hfin (er_ty_ok hk4 q.2 hn) hnar.1 hnar.2 (by simpa using hn) hd (fun H1 locs1 hP1 hD1 hS1 => ?_)
      rw [tv_I, hset] at hP1
      exact k _ _ _ hP1 hS1 hl (scrM_aup _ _ _ _ (by omega) hM)
  case arraylength =>
    obtain ⟨rfl, h⟩ := if_inv h
    obtain ⟨kd, i, r, rfl, hok, h⟩ := sR_inv h
    obtain ⟨h4, h⟩ := if_inv h
    obtain ⟨rfl, rfl, rfl, rfl⟩ := nx_inv h
    have k1 := k _ _ _ hP hS hl hM
    have hq : kd = 4 ∨ kd = 5 ∨ kd = 6 ∨ kd = 7 ∨ kd = 8 ∨ kd = 9 ∨ kd = 10 ∨ kd = 11 := by
      unfold okH at hok
      split at hok <;> first | omega | cases hok
    rcases hq with rfl | rfl | rfl | rfl | rfl | rfl | rfl | rfl
    · exact va_alen hx hb hK hP _ 0 (er_ws_at (by omega) hok) rfl rfl hd k1
    · exact va_alen hx hb hK hP _ 0 (er_ws_at (by omega) hok) rfl rfl hd k1
    · exact va_alen hx hb hK hP _ 1 (er_ws_at (by omega) hok) rfl rfl hd k1
    · exact va_alen hx hb hK hP _ 1 (er_ws_at (by omega) hok) rfl rfl hd k1
    · exact va_alen hx hb hK hP _ 2 (er_ws_at (by omega) hok) rfl rfl hd k1
    · simp only [alen, hM.1, Int.toNat_natCast] at k1
      exact va_slen (b := b) hx hb hX (Nat.lt_of_lt_of_le hbB hBs) (Nat.not_le.mpr hbB) hS hd k1
    · exact va_tlen hx hb hT1 hS rfl hd k1
    · exact va_tlen hx hb hT2 hS rfl hd k1
  case iaload =>
    obtain ⟨rfl, h⟩ := if_inv h
    obtain ⟨j, r, rfl, h⟩ := sI_inv h
    obtain ⟨kd, i, r, rfl, hok, h⟩ := sR_inv h
    obtain ⟨hc0, h1⟩ := if_inv h
    clear h
    obtain ⟨h0, hj⟩ := hc0
    have h := h1
    clear h1
    obtain ⟨z, hz, h⟩ := oG_inv h
    obtain ⟨rfl, rfl, rfl, rfl⟩ := nx_inv h
    have k1 := k _ _ _ hP hS hl hM
    have hin := i_in h0 hj
    unfold aval at hz
    split at hz
    · cases hz
      rw [List.map_cons, tv_I, ← i_nat] at k1
      exact va_iald hx hb hK hP _ 0 (er_ws_at (by omega) hok) rfl hin hd k1
    · cases hz
      rw [List.map_cons, tv_I, ← i_nat] at k1
      exact va_iald hx hb hK hP _ 0 (er_ws_at (by omega) hok) rfl hin hd k1
    · cases hz
      have hl9 : alen 9 M' = L := by simp only [alen, hM.1, Int.toNat_natCast]
      rw [hl9] at hin hj
      rw [List.map_cons, tv_I, hM.2 _ (by omega), ← i_nat] at k1
      exact va_sld (b := b) hx hb hX (Nat.lt_of_lt_of_le hbB hBs) (Nat.not_le.mpr hbB) hS hin hd k1
    · cases hz
      exact va_ti hx hb hT1 hS hin (by rw [i_nat]; rfl) hd k1
    · cases hz
      exact va_ti hx hb hT2 hS hin (by rw [i_nat]; rfl) hd k1
    · cases hz
  case iastore =>
    obtain ⟨rfl, h⟩ := if_inv h
    obtain ⟨z, r, rfl, h⟩ := sI_inv h
    obtain ⟨j, r, rfl, h⟩ := sI_inv h
    obtain ⟨kd, i, r, rfl, hok, h⟩ := sR_inv h
    obtain ⟨hc0, h1⟩ := if_inv h
    clear h
    obtain ⟨h0, hj, h45⟩ := hc0
    have h := h1
    clear h1
    obtain ⟨rfl, rfl, rfl, rfl⟩ := nx_inv h
    have hin := i_in h0 hj
    have hset := er_ws_set (ad := er_ad B b tB tF) (cI := cI) (cR := cR) (cW := cW) (M := M) (M' := aup M kd i (wI j).toNat z) (show kd < 9 by omega) hok (fun k' i' s hh => aup_out k' i' s hh)
    have hup : ∀ q : Nat, (fun x : Nat => Int32.ofInt (aup M kd i (wI j).toNat z kd i x)) q = upd (fun x : Nat => Int32.ofInt (M kd i x)) (Int32.ofInt j).toNatClampNeg (Int32.ofInt z) q := by
      intro q
      rw [i_nat]
      unfold upd aup
      by_cases hq : q = (wI j).toNat
      · simp [hq]
      · simp [hq]
    have hup := funext hup
    rcases h45 with rfl | rfl
    · refine va_iast hx hb hK hP hD hS _ 0 (er_ws_at (by omega) hok) rfl hin hd (fun H1 locs1 hP1 hD1 hS1 => ?_)
      rw [← hup] at hP1
      exact k _ _ _ (by rw [← hset]; exact hP1) hS1 hl (scrM_aup _ _ _ _ (by omega) hM)
    · refine va_iast hx hb hK hP hD hS _ 0 (er_ws_at (by omega) hok) rfl hin hd (fun H1 locs1 hP1 hD1 hS1 => ?_)
      rw [← hup] at hP1
      exact k _ _ _ (by rw [← hset]; exact hP1) hS1 hl (scrM_aup _ _ _ _ (by omega) hM)
  case aaload =>
    obtain ⟨rfl, h⟩ := if_inv h
    obtain ⟨j, r, rfl, h⟩ := sI_inv h
    obtain ⟨kd, i, r, rfl, hok, h⟩ := sR_inv h
    obtain ⟨hc0, h1⟩ := if_inv h
    clear h
    obtain ⟨h0, hj⟩ := hc0
    have h := h1
    clear h1
    obtain ⟨q, hq, h⟩ := oG_inv h
    obtain ⟨rfl, rfl, rfl, rfl⟩ := nx_inv h
    have k1 := k _ _ _ hP hS hl hM
    have hin := i_in h0 hj
    have hkd : kd = 6 ∨ kd = 7 ∨ kd = 8 := by
      unfold aref at hq
      split at hq <;> first | omega | cases hq
    have hrf : tv (er_ad B b tB tF) (vR q.1 q.2) = va_rf ((aref kd i (Int32.ofInt j).toNatClampNeg).map (fun q => er_ad B b tB tF q.1 q.2)) := by
      rw [i_nat, hq]
      rfl
    rw [List.map_cons, hrf] at k1
    rcases hkd with rfl | rfl | rfl
    · exact va_aldq hx hb hK hP _ 1 (er_ws_at (by omega) hok) rfl hin hd k1
    · exact va_aldq hx hb hK hP _ 1 (er_ws_at (by omega) hok) rfl hin hd k1
    · exact va_aldq hx hb hK hP _ 2 (er_ws_at (by omega) hok) rfl hin hd k1
  case invokevirtual i =>
    obtain ⟨Z, hZ, h⟩ := oG_inv h
    obtain ⟨hc, h⟩ := if_inv h
    obtain ⟨kd, j, r, h3, hok, h⟩ := sR_inv h
    obtain ⟨hc2, h⟩ := if_inv h
    obtain ⟨hc3, h⟩ := if_inv h
    cases h
  case invokestatic i =>
    simp only [ex1] at h
    cases hbb : bltT (mtK Y) i with
    | none =>
      rw [hbb] at h
      obtain ⟨Z, hZ, h⟩ := oG_inv h
      obtain ⟨hc, h⟩ := if_inv h
      obtain ⟨hc3, h⟩ := if_inv h
      cases h
    | some bb =>
      rw [hbb] at h
      have hsz := hl.2.1
      obtain ⟨rfl, hsum, rfl, rfl, hh⟩ := aBlt_inv h
      have hs2 : ∀ r : List AV, ((r.map (tv (er_ad B b tB tF))).map fun v => v.category).sum = (r.map acat).sum := by
        intro r
        rw [List.map_map]
        congr 1
        exact List.map_congr_left (fun v _ => tv_cat _ v)
      rcases hh with ⟨rfl, x, y, r, rfl, rfl, rfl⟩ | ⟨rfl, x, y, r, rfl, rfl, rfl⟩ | ⟨hb0, hb1, n, kd, i1, j1, rfl, o1, o2, hk, hn, hln, rfl⟩
      · have hw : Cond.methodLink (cN (mtK Y)) i Lib.Math.max.name ∈ er_G := by rcases w_blt hbb with h1 | h1 | h1 <;> first | exact h1.2 | exact absurd h1.1 (by decide)
        have k1 := k _ _ _ hP hS hl hM
        have e1 : tv (er_ad B b tB tF) (vI (if wI x < wI y then y else x)) = .int (if Int32.ofInt x < Int32.ofInt y then Int32.ofInt y else Int32.ofInt x) := by
          rw [tv_I]
          by_cases q : wI x < wI y
          · rw [if_pos q, if_pos ((i_lt x y).mpr q)]
          · rw [if_neg q, if_neg (fun z => q ((i_lt x y).mp z))]
        rw [List.map_cons, e1] at k1
        simp only [List.map_cons, List.sum_cons] at hsum
        exact va_mmax hx hb (by rw [hml, hsz]) hown (hts _ hw) (hts _ w_max.1) (hts _ w_max.2.1) (hts _ w_max.2.2) hfr (by rw [hs2]; omega) hcl hsl hd k1
      · have hw : Cond.methodLink (cN (mtK Y)) i Lib.Math.min.name ∈ er_G := by rcases w_blt hbb with h1 | h1 | h1 <;> first | exact h1.2 | exact absurd h1.1 (by decide)
        have k1 := k _ _ _ hP hS hl hM
        have e1 : tv (er_ad B b tB tF) (vI (if wI y < wI x then y else x)) = .int (if Int32.ofInt y < Int32.ofInt x then Int32.ofInt y else Int32.ofInt x) := by
          rw [tv_I]
          by_cases q : wI y < wI x
          · rw [if_pos q, if_pos ((i_lt y x).mpr q)]
          · rw [if_neg q, if_neg (fun z => q ((i_lt y x).mp z))]
        rw [List.map_cons, e1] at k1
        simp only [List.map_cons, List.sum_cons] at hsum
        exact va_mmin hx hb (by rw [hml, hsz]) hown (hts _ hw) (hts _ w_min.1) (hts _ w_max.2.1) (hts _ w_min.2) hfr (by rw [hs2]; omega) hcl hsl hd k1
      · have hw : Cond.methodLink (cN (mtK Y)) i arraycopyName ∈ er_G := by rcases w_blt hbb with h1 | h1 | h1 <;> first | exact h1.2 | exact absurd h1.1 hb0 | exact absurd h1.1 hb1
        have hset := er_ws_set (ad := er_ad B b tB tF) (cI := cI) (cR := cR) (cW := cW) (M := M) (M' := acopy M kd i1 j1 n.toNat) (show kd < 9 by omega) o1 (fun k' i' s hh => acopy_out k' i' s hh)
        have n0 : Int32.toNatClampNeg (Int32.ofInt 0) = 0 := rfl
        have hal : alen kd M ≤ 512 := by rcases hk with rfl | rfl <;> simp [alen]
        have nn : Int32.toNatClampNeg (Int32.ofInt n) = n.toNat := by rw [i_nat, wI_eq (by omega) (by omega)]
        have hup : ∀ q : Nat, (fun x : Nat => Int32.ofInt (acopy M kd i1 j1 n.toNat kd j1 x)) q = va_cpy (fun x : Nat => Int32.ofInt (M kd i1 x)) (fun x : Nat => Int32.ofInt (M kd j1 x)) (Int32.ofInt 0).toNatClampNeg (Int32.ofInt 0).toNatClampNeg (Int32.ofInt n).toNatClampNeg q := by
          intro q
          rw [n0, nn]
          unfold va_cpy acopy
          by_cases hq : q < n.toNat
          · simp [hq]
          · simp [hq]
        have hup := funext hup
        simp only [List.map_cons, List.sum_cons] at hsum
        have hnw : nativeFrameWords "java/lang/System" "arraycopy" 5 + 11 ≤ 30 := by decide +kernel
        have hneg : ¬ Int32.ofInt n < 0 := fun q => by
          have q2 := (i_lt n 0).mp q
          rw [wI_eq (by omega) (by omega), show wI 0 = 0 from rfl] at q2
          omega
        rcases hk with rfl | rfl
        · refine va_copyi hx hb (by rw [hml, hsz]) hown (hts _ hw) (hts _ w_cpy.1) (hts _ w_cpy.2.1) (hts _ w_cpy.2.2) hK hP hD hS _ _ 0 0 (er_ws_at (by omega) o2) (er_ws_at (by omega) o1) rfl rfl rfl (by decide) (by decide) hneg (by rw [n0, nn]; simp only [alen] at hln; omega) (by rw [n0, nn]; simp only [alen] at hln; omega) (fun _ _ => rfl) hfr (by rw [hs2]; omega) hd (fun H1 locs1 hP1 hD1 hS1 => ?_)
          rw [← hup] at hP1
          exact k _ _ _ (by rw [← hset]; exact hP1) hS1 hl (scrM_acopy _ _ _ _ (by omega) hM)
        · refine va_copyi hx hb (by rw [hml, hsz]) hown (hts _ hw) (hts _ w_cpy.1) (hts _ w_cpy.2.1) (hts _ w_cpy.2.2) hK hP hD hS _ _ 0 0 (er_ws_at (by omega) o2) (er_ws_at (by omega) o1) rfl rfl rfl (by decide) (by decide) hneg (by rw [n0, nn]; simp only [alen] at hln; omega) (by rw [n0, nn]; simp only [alen] at hln; omega) (fun _ _ => rfl) hfr (by rw [hs2]; omega) hd (fun H1 locs1 hP1 hD1 hS1 => ?_)
          rw [← hup] at hP1
          exact k _ _ _ (by rw [← hset]; exact hP1) hS1 hl (scrM_acopy _ _ _ _ (by omega) hM)
  case ireturn =>
    obtain ⟨hc, h⟩ := if_inv h
    obtain ⟨z, r, h3, h⟩ := sI_inv h
    obtain ⟨hc2, h⟩ := if_inv h
    cases h
  case lreturn =>
    obtain ⟨hc, h⟩ := if_inv h
    obtain ⟨z, r, h3, h⟩ := sL_inv h
    obtain ⟨hc2, h⟩ := if_inv h
    cases h
  case areturn =>
    obtain ⟨hc, h⟩ := if_inv h
    obtain ⟨kd, i, r, h3, h⟩ := sA_inv h
    obtain ⟨hc2, h⟩ := if_inv h
    cases h
  case return_ =>
    obtain ⟨hc, h⟩ := if_inv h
    cases h
  all_goals (simp [ex1] at h)
end SIM
