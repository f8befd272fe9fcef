/-! THE CONSTRUCTORS of a row and of a queue -/
theorem dX0_init_0 : decode cX0_init 0 = .ok (.aload_n 0, 1) := by decide +kernel
theorem dX0_init_1 : decode cX0_init 1 = .ok (.invokespecial 3, 3) := by decide +kernel
theorem dX0_init_4 : decode cX0_init 4 = .ok (.aload_n 0, 1) := by decide +kernel
theorem dX0_init_5 : decode cX0_init 5 = .ok (.sipush 512, 3) := by decide +kernel
theorem dX0_init_8 : decode cX0_init 8 = .ok (.newarray .int, 2) := by decide +kernel
theorem dX0_init_10 : decode cX0_init 10 = .ok (.putfield 11, 3) := by decide +kernel
theorem dX0_init_13 : decode cX0_init 13 = .ok (.return_, 1) := by decide +kernel
theorem dX1_init_0 : decode cX1_init 0 = .ok (.aload_n 0, 1) := by decide +kernel
theorem dX1_init_1 : decode cX1_init 1 = .ok (.invokespecial 3, 3) := by decide +kernel
theorem dX1_init_4 : decode cX1_init 4 = .ok (.aload_n 0, 1) := by decide +kernel
theorem dX1_init_5 : decode cX1_init 5 = .ok (.bipush 8, 2) := by decide +kernel
theorem dX1_init_7 : decode cX1_init 7 = .ok (.newarray .int, 2) := by decide +kernel
theorem dX1_init_9 : decode cX1_init 9 = .ok (.putfield 9, 3) := by decide +kernel
theorem dX1_init_12 : decode cX1_init 12 = .ok (.return_, 1) := by decide +kernel
theorem dX2_init_0 : decode cX2_init 0 = .ok (.aload_n 0, 1) := by decide +kernel
theorem dX2_init_1 : decode cX2_init 1 = .ok (.invokespecial 3, 3) := by decide +kernel
theorem dX2_init_4 : decode cX2_init 4 = .ok (.aload_n 0, 1) := by decide +kernel
theorem dX2_init_5 : decode cX2_init 5 = .ok (.bipush 6, 2) := by decide +kernel
theorem dX2_init_7 : decode cX2_init 7 = .ok (.anewarray 9, 3) := by decide +kernel
theorem dX2_init_10 : decode cX2_init 10 = .ok (.putfield 11, 3) := by decide +kernel
theorem dX2_init_13 : decode cX2_init 13 = .ok (.aload_n 0, 1) := by decide +kernel
theorem dX2_init_14 : decode cX2_init 14 = .ok (.new 17, 3) := by decide +kernel
theorem dX2_init_17 : decode cX2_init 17 = .ok (.dup, 1) := by decide +kernel
theorem dX2_init_18 : decode cX2_init 18 = .ok (.invokespecial 19, 3) := by decide +kernel
theorem dX2_init_21 : decode cX2_init 21 = .ok (.putfield 20, 3) := by decide +kernel
theorem dX2_init_24 : decode cX2_init 24 = .ok (.aload_n 0, 1) := by decide +kernel
theorem dX2_init_25 : decode cX2_init 25 = .ok (.iconst (-1), 1) := by decide +kernel
theorem dX2_init_26 : decode cX2_init 26 = .ok (.putfield 24, 3) := by decide +kernel
theorem dX2_init_29 : decode cX2_init 29 = .ok (.iconst 0, 1) := by decide +kernel
theorem dX2_init_30 : decode cX2_init 30 = .ok (.istore_n 1, 1) := by decide +kernel
theorem dX2_init_31 : decode cX2_init 31 = .ok (.iload_n 1, 1) := by decide +kernel
theorem dX2_init_32 : decode cX2_init 32 = .ok (.aload_n 0, 1) := by decide +kernel
theorem dX2_init_33 : decode cX2_init 33 = .ok (.getfield 11, 3) := by decide +kernel
theorem dX2_init_36 : decode cX2_init 36 = .ok (.arraylength, 1) := by decide +kernel
theorem dX2_init_37 : decode cX2_init 37 = .ok (.if_icmp .ge 22, 3) := by decide +kernel
theorem dX2_init_40 : decode cX2_init 40 = .ok (.aload_n 0, 1) := by decide +kernel
theorem dX2_init_41 : decode cX2_init 41 = .ok (.getfield 11, 3) := by decide +kernel
theorem dX2_init_44 : decode cX2_init 44 = .ok (.iload_n 1, 1) := by decide +kernel
theorem dX2_init_45 : decode cX2_init 45 = .ok (.new 9, 3) := by decide +kernel
theorem dX2_init_48 : decode cX2_init 48 = .ok (.dup, 1) := by decide +kernel
theorem dX2_init_49 : decode cX2_init 49 = .ok (.invokespecial 28, 3) := by decide +kernel
theorem dX2_init_52 : decode cX2_init 52 = .ok (.aastore, 1) := by decide +kernel
theorem dX2_init_53 : decode cX2_init 53 = .ok (.iinc 1 1, 3) := by decide +kernel
theorem dX2_init_56 : decode cX2_init 56 = .ok (.goto (-25), 3) := by decide +kernel
theorem dX2_init_59 : decode cX2_init 59 = .ok (.return_, 1) := by decide +kernel
theorem dX3_init_0 : decode cX3_init 0 = .ok (.aload_n 0, 1) := by decide +kernel
theorem dX3_init_1 : decode cX3_init 1 = .ok (.invokespecial 1, 3) := by decide +kernel
theorem dX3_init_4 : decode cX3_init 4 = .ok (.aload_n 0, 1) := by decide +kernel
theorem dX3_init_5 : decode cX3_init 5 = .ok (.bipush 6, 2) := by decide +kernel
theorem dX3_init_7 : decode cX3_init 7 = .ok (.anewarray 9, 3) := by decide +kernel
theorem dX3_init_10 : decode cX3_init 10 = .ok (.putfield 11, 3) := by decide +kernel
theorem dX3_init_13 : decode cX3_init 13 = .ok (.aload_n 0, 1) := by decide +kernel
theorem dX3_init_14 : decode cX3_init 14 = .ok (.new 9, 3) := by decide +kernel
theorem dX3_init_17 : decode cX3_init 17 = .ok (.dup, 1) := by decide +kernel
theorem dX3_init_18 : decode cX3_init 18 = .ok (.invokespecial 15, 3) := by decide +kernel
theorem dX3_init_21 : decode cX3_init 21 = .ok (.putfield 16, 3) := by decide +kernel
theorem dX3_init_24 : decode cX3_init 24 = .ok (.aload_n 0, 1) := by decide +kernel
theorem dX3_init_25 : decode cX3_init 25 = .ok (.iconst 5, 1) := by decide +kernel
theorem dX3_init_26 : decode cX3_init 26 = .ok (.anewarray 20, 3) := by decide +kernel
theorem dX3_init_29 : decode cX3_init 29 = .ok (.putfield 22, 3) := by decide +kernel
theorem dX3_init_32 : decode cX3_init 32 = .ok (.aload_n 0, 1) := by decide +kernel
theorem dX3_init_33 : decode cX3_init 33 = .ok (.new 20, 3) := by decide +kernel
theorem dX3_init_36 : decode cX3_init 36 = .ok (.dup, 1) := by decide +kernel
theorem dX3_init_37 : decode cX3_init 37 = .ok (.invokespecial 26, 3) := by decide +kernel
theorem dX3_init_40 : decode cX3_init 40 = .ok (.putfield 27, 3) := by decide +kernel
theorem dX3_init_43 : decode cX3_init 43 = .ok (.aload_n 0, 1) := by decide +kernel
theorem dX3_init_44 : decode cX3_init 44 = .ok (.new 20, 3) := by decide +kernel
theorem dX3_init_47 : decode cX3_init 47 = .ok (.dup, 1) := by decide +kernel
theorem dX3_init_48 : decode cX3_init 48 = .ok (.invokespecial 26, 3) := by decide +kernel
theorem dX3_init_51 : decode cX3_init 51 = .ok (.putfield 31, 3) := by decide +kernel
theorem dX3_init_54 : decode cX3_init 54 = .ok (.iconst 0, 1) := by decide +kernel
theorem dX3_init_55 : decode cX3_init 55 = .ok (.istore_n 1, 1) := by decide +kernel
theorem dX3_init_56 : decode cX3_init 56 = .ok (.iload_n 1, 1) := by decide +kernel
theorem dX3_init_57 : decode cX3_init 57 = .ok (.aload_n 0, 1) := by decide +kernel
theorem dX3_init_58 : decode cX3_init 58 = .ok (.getfield 11, 3) := by decide +kernel
theorem dX3_init_61 : decode cX3_init 61 = .ok (.arraylength, 1) := by decide +kernel
theorem dX3_init_62 : decode cX3_init 62 = .ok (.if_icmp .ge 22, 3) := by decide +kernel
theorem dX3_init_65 : decode cX3_init 65 = .ok (.aload_n 0, 1) := by decide +kernel
theorem dX3_init_66 : decode cX3_init 66 = .ok (.getfield 11, 3) := by decide +kernel
theorem dX3_init_69 : decode cX3_init 69 = .ok (.iload_n 1, 1) := by decide +kernel
theorem dX3_init_70 : decode cX3_init 70 = .ok (.new 9, 3) := by decide +kernel
theorem dX3_init_73 : decode cX3_init 73 = .ok (.dup, 1) := by decide +kernel
theorem dX3_init_74 : decode cX3_init 74 = .ok (.invokespecial 15, 3) := by decide +kernel
theorem dX3_init_77 : decode cX3_init 77 = .ok (.aastore, 1) := by decide +kernel
theorem dX3_init_78 : decode cX3_init 78 = .ok (.iinc 1 1, 3) := by decide +kernel
theorem dX3_init_81 : decode cX3_init 81 = .ok (.goto (-25), 3) := by decide +kernel
theorem dX3_init_84 : decode cX3_init 84 = .ok (.iconst 0, 1) := by decide +kernel
theorem dX3_init_85 : decode cX3_init 85 = .ok (.istore_n 1, 1) := by decide +kernel
theorem dX3_init_86 : decode cX3_init 86 = .ok (.iload_n 1, 1) := by decide +kernel
theorem dX3_init_87 : decode cX3_init 87 = .ok (.aload_n 0, 1) := by decide +kernel
theorem dX3_init_88 : decode cX3_init 88 = .ok (.getfield 22, 3) := by decide +kernel
theorem dX3_init_91 : decode cX3_init 91 = .ok (.arraylength, 1) := by decide +kernel
theorem dX3_init_92 : decode cX3_init 92 = .ok (.if_icmp .ge 22, 3) := by decide +kernel
theorem dX3_init_95 : decode cX3_init 95 = .ok (.aload_n 0, 1) := by decide +kernel
theorem dX3_init_96 : decode cX3_init 96 = .ok (.getfield 22, 3) := by decide +kernel
theorem dX3_init_99 : decode cX3_init 99 = .ok (.iload_n 1, 1) := by decide +kernel
theorem dX3_init_100 : decode cX3_init 100 = .ok (.new 20, 3) := by decide +kernel
theorem dX3_init_103 : decode cX3_init 103 = .ok (.dup, 1) := by decide +kernel
theorem dX3_init_104 : decode cX3_init 104 = .ok (.invokespecial 26, 3) := by decide +kernel
theorem dX3_init_107 : decode cX3_init 107 = .ok (.aastore, 1) := by decide +kernel
theorem dX3_init_108 : decode cX3_init 108 = .ok (.iinc 1 1, 3) := by decide +kernel
theorem dX3_init_111 : decode cX3_init 111 = .ok (.goto (-25), 3) := by decide +kernel
theorem dX3_init_114 : decode cX3_init 114 = .ok (.aload_n 0, 1) := by decide +kernel
theorem dX3_init_115 : decode cX3_init 115 = .ok (.getfield 16, 3) := by decide +kernel
theorem dX3_init_118 : decode cX3_init 118 = .ok (.iconst 0, 1) := by decide +kernel
theorem dX3_init_119 : decode cX3_init 119 = .ok (.invokevirtual 34, 3) := by decide +kernel
theorem dX3_init_122 : decode cX3_init 122 = .ok (.pop, 1) := by decide +kernel
theorem dX3_init_123 : decode cX3_init 123 = .ok (.return_, 1) := by decide +kernel
theorem gw_i_Q : Cond.initialized RX0 ∈ er_G := er_in 23 (by decide +kernel) rfl
theorem gw_i_R : Cond.initialized RX1 ∈ er_G := er_in 21 (by decide +kernel) rfl
theorem gw_i_W : Cond.initialized RX2 ∈ er_G := er_in 22 (by decide +kernel) rfl
theorem gw_i_H : Cond.initialized RX3 ∈ er_G := er_in 20 (by decide +kernel) rfl
theorem gw_n_Q : Cond.instantiable RX0 2 ∈ er_G := er_in 66 (by decide +kernel) rfl
theorem gw_n_R : Cond.instantiable RX1 2 ∈ er_G := er_in 42 (by decide +kernel) rfl
theorem gw_n_W : Cond.instantiable RX2 8 ∈ er_G := er_in 59 (by decide +kernel) rfl
theorem gw_n_H : Cond.instantiable RX3 6 ∈ er_G := er_in 33 (by decide +kernel) rfl
theorem gw_oi : Cond.instanceMethod objectInit ∈ er_G := er_in 38 (by decide +kernel) rfl
theorem gw_oc : Cond.code objectInit ⟨#[0xb1]⟩ 1 none ∈ er_G := er_in 39 (by decide +kernel) rfl
theorem gw_aI : Cond.arrayClass .int ∈ er_G := er_in 56 (by decide +kernel) rfl
theorem gw_oQ : Cond.methodLink RX0 3 objectInit ∈ er_G := er_in 70 (by decide +kernel) rfl
theorem gw_oR : Cond.methodLink RX1 3 objectInit ∈ er_G := er_in 46 (by decide +kernel) rfl
theorem gw_oW : Cond.methodLink RX2 3 objectInit ∈ er_G := er_in 63 (by decide +kernel) rfl
theorem gw_oH : Cond.methodLink RX3 1 objectInit ∈ er_G := er_in 37 (by decide +kernel) rfl
theorem gw_fQ0 : Cond.fieldLink RX0 11 "Endlessrows$Queue" "keys" "[I" ∈ er_G := er_in 71 (by decide +kernel) rfl
theorem gw_fR0 : Cond.fieldLink RX1 9 "Endlessrows$Row" "numbers" "[I" ∈ er_G := er_in 47 (by decide +kernel) rfl
theorem gw_fW0 : Cond.fieldLink RX2 11 "Endlessrows$Well" "rows" "[LEndlessrows$Row;" ∈ er_G := er_in 81 (by decide +kernel) rfl
theorem gw_fW1 : Cond.fieldLink RX2 20 "Endlessrows$Well" "queue" "LEndlessrows$Queue;" ∈ er_G := er_in 82 (by decide +kernel) rfl
theorem gw_fW2 : Cond.fieldLink RX2 24 "Endlessrows$Well" "kind" "I" ∈ er_G := er_in 84 (by decide +kernel) rfl
theorem gw_fH0 : Cond.fieldLink RX3 11 "Endlessrows" "rows" "[LEndlessrows$Row;" ∈ er_G := er_in 118 (by decide +kernel) rfl
theorem gw_fH1 : Cond.fieldLink RX3 16 "Endlessrows" "zero" "LEndlessrows$Row;" ∈ er_G := er_in 119 (by decide +kernel) rfl
theorem gw_fH2 : Cond.fieldLink RX3 22 "Endlessrows" "wells" "[LEndlessrows$Well;" ∈ er_G := er_in 120 (by decide +kernel) rfl
theorem gw_fH3 : Cond.fieldLink RX3 27 "Endlessrows" "trial" "LEndlessrows$Well;" ∈ er_G := er_in 121 (by decide +kernel) rfl
theorem gw_fH4 : Cond.fieldLink RX3 31 "Endlessrows" "otherTrial" "LEndlessrows$Well;" ∈ er_G := er_in 122 (by decide +kernel) rfl
theorem gw_cWR : Cond.classLink RX2 9 RX1 ∈ er_G := er_in 64 (by decide +kernel) rfl
theorem gw_cWQ : Cond.classLink RX2 17 RX0 ∈ er_G := er_in 65 (by decide +kernel) rfl
theorem gw_cHR : Cond.classLink RX3 9 RX1 ∈ er_G := er_in 40 (by decide +kernel) rfl
theorem gw_cHW : Cond.classLink RX3 20 RX2 ∈ er_G := er_in 57 (by decide +kernel) rfl
theorem gw_cLH : Cond.classLink RL 17 RX3 ∈ er_G := er_in 32 (by decide +kernel) rfl
theorem gw_mLH : Cond.methodLink RL 19 yX3_init ∈ er_G := er_in 34 (by decide +kernel) rfl
theorem gw_mHW : Cond.methodLink RX3 26 yX2_init ∈ er_G := er_in 60 (by decide +kernel) rfl
theorem gw_jQ : Cond.instanceMethod yX0_init ∈ er_G := er_in 68 (by decide +kernel) rfl
theorem gw_jR : Cond.instanceMethod yX1_init ∈ er_G := er_in 44 (by decide +kernel) rfl
theorem gw_jW : Cond.instanceMethod yX2_init ∈ er_G := er_in 61 (by decide +kernel) rfl
theorem gw_jH : Cond.instanceMethod yX3_init ∈ er_G := er_in 35 (by decide +kernel) rfl
theorem gw_kQ : Cond.code yX0_init cX0_init 1 none ∈ er_G := er_in 69 (by decide +kernel) rfl
theorem gw_kR : Cond.code yX1_init cX1_init 1 none ∈ er_G := er_in 45 (by decide +kernel) rfl
theorem gw_kW : Cond.code yX2_init cX2_init 2 none ∈ er_G := er_in 62 (by decide +kernel) rfl
theorem gw_kH : Cond.code yX3_init cX3_init 2 none ∈ er_G := er_in 36 (by decide +kernel) rfl
abbrev iw_Q : List Cond := Cond.code yX0_init cX0_init 1 none :: er_G
abbrev iw_R : List Cond := Cond.code yX1_init cX1_init 1 none :: er_G
abbrev iw_W : List Cond := Cond.code yX2_init cX2_init 2 none :: er_G
abbrev iw_H : List Cond := Cond.code yX3_init cX3_init 2 none :: er_G
theorem iw_good {w : Cond} (h : w ∈ er_G) : GoodIn er_G (w :: er_G) := fun v hv => by
  have hv : v ∈ er_G := by
    rcases List.mem_cons.mp hv with rfl | hv
    · exact h
    · exact hv
  exact ⟨hv, good_of_word (er_good v hv)⟩
theorem in_wsX00_good : ∀ q ∈ u_ws RX0 TX0 2, goodWord q = true := by decide +kernel
theorem in_wsX10_good : ∀ q ∈ u_ws RX1 TX1 2, goodWord q = true := by decide +kernel
theorem in_wsX20_good : ∀ q ∈ u_ws RX2 TX2 8, goodWord q = true := by decide +kernel
theorem in_wsX30_good : ∀ q ∈ u_ws RX3 TX3 6, goodWord q = true := by decide +kernel
/-- what is so of the tables while objects are made -/
def er_k3 (D : va_G) (cI cR cW : ClassId) (s : State) : Prop := va_K D er_cl [(cI, .int), (cR, .object RX1), (cW, .object RX2)] s ∧ va_AO RX1 s ∧ va_AO RX2 s ∧ va_Nw (.methodLinkNest RX3 15 yX1_init RX3) s ∧ va_Nw (.methodLinkNest RX2 19 yX0_init RX3) s ∧ va_Nw (.methodLinkNest RX2 28 yX1_init RX3) s
theorem er_k3.moved {D : va_G} {cI cR cW : ClassId} {s U : State} (hW : s.WarmedH U.vm) (h : er_k3 D cI cR cW s) : er_k3 D cI cR cW U :=
  ⟨va_K.moved hW.alike h.1, va_AO.moved hW.alike h.2.1, va_AO.moved hW.alike h.2.2.1, va_Nw.warmM hW h.2.2.2.1, va_Nw.warmM hW h.2.2.2.2.1, va_Nw.warmM hW h.2.2.2.2.2⟩
theorem er_k3.calling {D : va_G} {cI cR cW : ClassId} {s : State} (g : JFrame) (mk : MethodId) (a : Array Value) (h : er_k3 D cI cR cW s) : er_k3 D cI cR cW (s.calling g mk a) := by
  have hA : s.vm.Alike (s.calling g mk a).vm := Vm.Alike.refl s.vm
  exact ⟨va_K.moved hA h.1, va_AO.moved hA h.2.1, va_AO.moved hA h.2.2.1, va_Nw.same rfl rfl h.2.2.2.1, va_Nw.same rfl rfl h.2.2.2.2.1, va_Nw.same rfl rfl h.2.2.2.2.2⟩
def rowW (cI : ClassId) (a : Nat) : va_W := [(a, .inr (1, [.ref (a + 1), .int 0])), (a + 1, .inl (cI, 8, .inl (fun _ => 0)))]
def queueW (cI : ClassId) (a : Nat) : va_W := [(a, .inr (0, [.ref (a + 1), .int 0])), (a + 1, .inl (cI, 512, .inl (fun _ => 0)))]
/-- a constructor's start and end -/
def i_P (D : va_G) (cI cR cW : ClassId) (k : Nat) (fs : List Value) (h0 : Nat) : Array Value → State → Prop := va_Pc [.ref h0] (fun U => U.heap.size = h0 + 1 ∧ va_P D er_cl [(h0, .inr (k, fs))] U.heap ∧ er_k3 D cI cR cW U)
def i_Q (D : va_G) (ws : va_W) (h0 : Nat) : Array Value → State → Outcome → State → Prop := va_Qv (fun _ : Unit => True) (fun _ t => Ct D ws h0 t.heap) (fun q => h0 ≤ q)
set_option maxHeartbeats 4000000 in
set_option maxRecDepth 100000 in
theorem I_R (l : Launch) (D : va_G) (cI cR cW : ClassId) (h0 : Nat) : Met l yX1_init iw_R ({ frames := 1, cells := 1, slots := 8, locals := 40 }) (i_P D cI cR cW 1 [.null, .int 0] h0) (i_Q D (rowW cI h0) h0) 1 8 (fun q => h0 ≤ q) := by
  refine Met.ofW (cc := cX1_init) (maxL := 1) (ret := none) (by decide) rfl ?_
  intro p e s m args below meth c s₁ B hml hv
  obtain ⟨rfl, hsz, hP, hK⟩ := hv
  have hx := B.exec
  have hb := B.bytes
  have hr := B.returns
  have hts := atoms_spec (ws := iw_R) B.pre
  have htg : ∀ w ∈ er_G, w.before _ s = true := fun w hw => hts w (List.mem_cons_of_mem _ hw)
  have htl : ∀ w ∈ u_ws RX1 TX1 2, w ∈ er_G := fun w hw => List.mem_filter.mpr ⟨in_wsX10 w hw, in_wsX10_good w hw⟩
  have hown : s.vm.findClass RX1 = some m.cls := findClass_of_methodNamed B.named
  have hin : meth.name = "<init>" := (name_of_methodNamed B.named B.method).1
  have hC : Ct D [(h0, .inr (1, [.null, .int 0]))] h0 s.heap := Ct.one hP hsz
  have hA : ∀ q : Nat, s.heap.size ≤ q → h0 ≤ q := fun q h => by omega
  have hS : va_S (fun q => h0 ≤ q) s.heap s.heap [] := va_S.rf
  have hl := lv_entry ([.ref h0]) (n := 1) (Nat.le_of_ble_eq_true rfl)
  rw [lg_entry_eq]
  generalize (lg_sl ([.ref h0]) ++ List.replicate (1 - (lg_sl ([.ref h0])).length) Slot.unset).toArray = ls at hl ⊢
  have hl : lv_has ls 1 [(0, .ref h0)] := hl
  refine lv_aload_n hx hb dX1_init_0 rfl (lv_at hl 0 rfl) ?_
  refine W.objInit hx hb hown (htg _ gw_oR) (htg _ gw_oi) (htg _ gw_oc) rfl (by rw [hml]; exact hl.1) rfl dX1_init_1 (Nat.le_of_ble_eq_true rfl) (Nat.le_of_ble_eq_true rfl) ?_
  refine W.eq (g2 := F0 m 4 ls []) rfl ?_
  refine lv_aload_n hx hb dX1_init_4 rfl (lv_at hl 0 rfl) ?_
  refine lv_bipush (v := 8) hx hb dX1_init_5 (by decide) ?_
  refine va_newa (atype := .int) (N' := 8) (a0 := (8, .inl (fun _ => 0))) hx hb (htg _ gw_aI) rfl hK.1 hP (hC.D (Nat.le_refl _)) hS hA (fun cA => rfl) (by decide) (by decide) (Nat.le_of_ble_eq_true rfl) (Nat.le_of_ble_eq_true rfl) (Nat.le_of_ble_eq_true rfl) dX1_init_7 (fun q cA H hK1 hP hD hS => ?_)
  refine W_sz fun hsz1 => ?_
  obtain rfl : cA = cI := K_int hK.1 hK1
  obtain ⟨rfl, hC⟩ := hC.new (Nat.le_refl _) hP hD (by rw [hsz] at hsz1; exact hsz1) (hD.2 1 _ rfl)
  refine va_putF (T := TX1) (C := RX1) (own := RX1) (N := 2) (ci := 1) (q0 := 0) hx hb htg htl tyX1 tyX1_ok nmX1 hown hK.1 hC.1 hD hS rfl rfl 0 (by decide) (htg _ gw_fR0) (fun x h => h) rfl hin rfl (ty := .array .int) rfl rfl rfl (by decide) dX1_init_9 (fun H1 locs1 hP1 hD1 hS1 => ?_)
  refine W_sz fun hsz2 => ?_
  have hlt := (hP1 1 _ rfl).lt
  have hC1 : Ct D (rowW cA h0) h0 H1 := by
    have := hC.set (k0 := 0) (a := h0) rfl hP1 (by have := hC.2.2; have h2 : h0 + 1 < H1.size := hlt; rw [this]; exact h2) (by have := hC.2.2; rw [this]; rw [hsz] at hsz2; exact hsz2)
    exact this
  exact W.vret hx hb hr (fun t ht hW => ⟨⟨(), rfl, trivial, by show Ct D _ h0 t.heap; rw [ht]; exact hC1⟩, hS1.F ht⟩) hS1.2.2 dX1_init_12
set_option maxHeartbeats 4000000 in
set_option maxRecDepth 100000 in
theorem I_Q (l : Launch) (D : va_G) (cI cR cW : ClassId) (h0 : Nat) : Met l yX0_init iw_Q ({ frames := 1, cells := 1, slots := 512, locals := 40 }) (i_P D cI cR cW 0 [.null, .int 0] h0) (i_Q D (queueW cI h0) h0) 1 512 (fun q => h0 ≤ q) := by
  refine Met.ofW (cc := cX0_init) (maxL := 1) (ret := none) (by decide) rfl ?_
  intro p e s m args below meth c s₁ B hml hv
  obtain ⟨rfl, hsz, hP, hK⟩ := hv
  have hx := B.exec
  have hb := B.bytes
  have hr := B.returns
  have hts := atoms_spec (ws := iw_Q) B.pre
  have htg : ∀ w ∈ er_G, w.before _ s = true := fun w hw => hts w (List.mem_cons_of_mem _ hw)
  have htl : ∀ w ∈ u_ws RX0 TX0 2, w ∈ er_G := fun w hw => List.mem_filter.mpr ⟨in_wsX00 w hw, in_wsX00_good w hw⟩
  have hown : s.vm.findClass RX0 = some m.cls := findClass_of_methodNamed B.named
  have hin : meth.name = "<init>" := (name_of_methodNamed B.named B.method).1
  have hC : Ct D [(h0, .inr (0, [.null, .int 0]))] h0 s.heap := Ct.one hP hsz
  have hA : ∀ q : Nat, s.heap.size ≤ q → h0 ≤ q := fun q h => by omega
  have hS : va_S (fun q => h0 ≤ q) s.heap s.heap [] := va_S.rf
  have hl := lv_entry ([.ref h0]) (n := 1) (Nat.le_of_ble_eq_true rfl)
  rw [lg_entry_eq]
  generalize (lg_sl ([.ref h0]) ++ List.replicate (1 - (lg_sl ([.ref h0])).length) Slot.unset).toArray = ls at hl ⊢
  have hl : lv_has ls 1 [(0, .ref h0)] := hl
  refine lv_aload_n hx hb dX0_init_0 rfl (lv_at hl 0 rfl) ?_
  refine W.objInit hx hb hown (htg _ gw_oQ) (htg _ gw_oi) (htg _ gw_oc) rfl (by rw [hml]; exact hl.1) rfl dX0_init_1 (Nat.le_of_ble_eq_true rfl) (Nat.le_of_ble_eq_true rfl) ?_
  refine W.eq (g2 := F0 m 4 ls []) rfl ?_
  refine lv_aload_n hx hb dX0_init_4 rfl (lv_at hl 0 rfl) ?_
  refine lv_sipush (v := 512) hx hb dX0_init_5 (by decide) ?_
  refine va_newa (atype := .int) (N' := 512) (a0 := (512, .inl (fun _ => 0))) hx hb (htg _ gw_aI) rfl hK.1 hP (hC.D (Nat.le_refl _)) hS hA (fun cA => rfl) (by decide) (by decide) (Nat.le_of_ble_eq_true rfl) (Nat.le_of_ble_eq_true rfl) (Nat.le_of_ble_eq_true rfl) dX0_init_8 (fun q cA H hK1 hP hD hS => ?_)
  refine W_sz fun hsz1 => ?_
  obtain rfl : cA = cI := K_int hK.1 hK1
  obtain ⟨rfl, hC⟩ := hC.new (Nat.le_refl _) hP hD (by rw [hsz] at hsz1; exact hsz1) (hD.2 1 _ rfl)
  refine va_putF (T := TX0) (C := RX0) (own := RX0) (N := 2) (ci := 0) (q0 := 0) hx hb htg htl tyX0 tyX0_ok nmX0 hown hK.1 hC.1 hD hS rfl rfl 0 (by decide) (htg _ gw_fQ0) (fun x h => h) rfl hin rfl (ty := .array .int) rfl rfl rfl (by decide) dX0_init_10 (fun H1 locs1 hP1 hD1 hS1 => ?_)
  refine W_sz fun hsz2 => ?_
  have hlt := (hP1 1 _ rfl).lt
  have hC1 : Ct D (queueW cA h0) h0 H1 := by
    have := hC.set (k0 := 0) (a := h0) rfl hP1 (by have := hC.2.2; have h2 : h0 + 1 < H1.size := hlt; rw [this]; exact h2) (by have := hC.2.2; rw [this]; rw [hsz] at hsz2; exact hsz2)
    exact this
  exact W.vret hx hb hr (fun t ht hW => ⟨⟨(), rfl, trivial, by show Ct D _ h0 t.heap; rw [ht]; exact hC1⟩, hS1.F ht⟩) hS1.2.2 dX0_init_13
