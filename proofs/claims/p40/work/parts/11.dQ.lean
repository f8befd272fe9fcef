theorem k_Q_keyOf_0 : decode (mtC m_Q_keyOf) 0 = .ok (.iload_n 0, 1) := by decide +kernel
theorem k_Q_keyOf_1 : decode (mtC m_Q_keyOf) 1 = .ok (.sipush 1024, 3) := by decide +kernel
theorem k_Q_keyOf_4 : decode (mtC m_Q_keyOf) 4 = .ok (.imul, 1) := by decide +kernel
theorem k_Q_keyOf_5 : decode (mtC m_Q_keyOf) 5 = .ok (.iload_n 1, 1) := by decide +kernel
theorem k_Q_keyOf_6 : decode (mtC m_Q_keyOf) 6 = .ok (.iadd, 1) := by decide +kernel
theorem k_Q_keyOf_7 : decode (mtC m_Q_keyOf) 7 = .ok (.ireturn, 1) := by decide +kernel
set_option maxHeartbeats 4000000 in
set_option maxRecDepth 100000 in
theorem T_Q_keyOf_0 {d : Nat} {x0 : Int} {x1 : Int} {M : AMem} {Q : Option AV → AMem → Prop}  (h : Q (some (vI ((x0 * 1024) + x1))) M) : RunQ d m_Q_keyOf 0 [some (vI x0), some (vI x1)] [] M Q := by
  refine q_iload_n 0 k_Q_keyOf_0 rfl ?_
  refine q_sipush 1 k_Q_keyOf_1 (by decide) ?_
  refine q_imul 4 k_Q_keyOf_4 ?_
  refine q_iload_n 5 k_Q_keyOf_5 rfl ?_
  refine q_iadd 6 k_Q_keyOf_6 ?_
  exact q_iret 7 k_Q_keyOf_7 rfl h
theorem k_Q_numberOf_0 : decode (mtC m_Q_numberOf) 0 = .ok (.iload_n 0, 1) := by decide +kernel
theorem k_Q_numberOf_1 : decode (mtC m_Q_numberOf) 1 = .ok (.sipush 1024, 3) := by decide +kernel
theorem k_Q_numberOf_4 : decode (mtC m_Q_numberOf) 4 = .ok (.idiv, 1) := by decide +kernel
theorem k_Q_numberOf_5 : decode (mtC m_Q_numberOf) 5 = .ok (.ireturn, 1) := by decide +kernel
set_option maxHeartbeats 4000000 in
set_option maxRecDepth 100000 in
theorem T_Q_numberOf_0 {d : Nat} {x0 : Int} {M : AMem} {Q : Option AV → AMem → Prop}  (h : Q (some (vI (Int.tdiv (wI x0) (1024)))) M) : RunQ d m_Q_numberOf 0 [some (vI x0)] [] M Q := by
  refine q_iload_n 0 k_Q_numberOf_0 rfl ?_
  refine q_sipush 1 k_Q_numberOf_1 (by decide) ?_
  refine q_idiv 4 k_Q_numberOf_4 (by decide) ?_
  exact q_iret 5 k_Q_numberOf_5 rfl h
theorem k_Q_tagOf_0 : decode (mtC m_Q_tagOf) 0 = .ok (.iload_n 0, 1) := by decide +kernel
theorem k_Q_tagOf_1 : decode (mtC m_Q_tagOf) 1 = .ok (.sipush 1024, 3) := by decide +kernel
theorem k_Q_tagOf_4 : decode (mtC m_Q_tagOf) 4 = .ok (.irem, 1) := by decide +kernel
theorem k_Q_tagOf_5 : decode (mtC m_Q_tagOf) 5 = .ok (.ireturn, 1) := by decide +kernel
set_option maxHeartbeats 4000000 in
set_option maxRecDepth 100000 in
theorem T_Q_tagOf_0 {d : Nat} {x0 : Int} {M : AMem} {Q : Option AV → AMem → Prop}  (h : Q (some (vI (Int.tmod (wI x0) (1024)))) M) : RunQ d m_Q_tagOf 0 [some (vI x0)] [] M Q := by
  refine q_iload_n 0 k_Q_tagOf_0 rfl ?_
  refine q_sipush 1 k_Q_tagOf_1 (by decide) ?_
  refine q_irem 4 k_Q_tagOf_4 (by decide) ?_
  exact q_iret 5 k_Q_tagOf_5 rfl h
theorem k_Q_firstNumber_0 : decode (mtC m_Q_firstNumber) 0 = .ok (.aload_n 0, 1) := by decide +kernel
theorem k_Q_firstNumber_1 : decode (mtC m_Q_firstNumber) 1 = .ok (.getfield 15, 3) := by decide +kernel
theorem k_Q_firstNumber_4 : decode (mtC m_Q_firstNumber) 4 = .ok (.ifCond .gt 7, 3) := by decide +kernel
theorem k_Q_firstNumber_7 : decode (mtC m_Q_firstNumber) 7 = .ok (.iconst (-1), 1) := by decide +kernel
theorem k_Q_firstNumber_8 : decode (mtC m_Q_firstNumber) 8 = .ok (.goto 12, 3) := by decide +kernel
theorem k_Q_firstNumber_11 : decode (mtC m_Q_firstNumber) 11 = .ok (.aload_n 0, 1) := by decide +kernel
theorem k_Q_firstNumber_12 : decode (mtC m_Q_firstNumber) 12 = .ok (.getfield 11, 3) := by decide +kernel
theorem k_Q_firstNumber_15 : decode (mtC m_Q_firstNumber) 15 = .ok (.iconst 0, 1) := by decide +kernel
theorem k_Q_firstNumber_16 : decode (mtC m_Q_firstNumber) 16 = .ok (.iaload, 1) := by decide +kernel
theorem k_Q_firstNumber_17 : decode (mtC m_Q_firstNumber) 17 = .ok (.invokestatic 19, 3) := by decide +kernel
theorem k_Q_firstNumber_20 : decode (mtC m_Q_firstNumber) 20 = .ok (.ireturn, 1) := by decide +kernel
set_option maxHeartbeats 4000000 in
set_option maxRecDepth 100000 in
theorem T_Q_firstNumber_0 {d : Nat} {i0 : Nat} {M : AMem} {Q : Option AV → AMem → Prop} (o0 : okH 0 i0 = true) (h : ((0 < wI (M 0 i0 1)) → CallI d m_Q_numberOf [vI (M 4 i0 0)] M (fun y2 M1 => Q (some (vI y2)) M1)) ∧ (¬ (0 < wI (M 0 i0 1)) → Q (some (vI (-1))) M)) : RunQ (d + 1) m_Q_firstNumber 0 [some (vR 0 i0)] [] M Q := by
  refine q_aload_n 0 k_Q_firstNumber_0 rfl ?_
  refine q_getfield 1 k_Q_firstNumber_1 fk_0_15 o0 (v := vI (M 0 i0 1)) rfl ?_
  refine q_if_gt 4 11 k_Q_firstNumber_4 rfl rfl (fun c4 => ?_) (fun c4 => ?_)
  · have ht := h.1 c4
    refine q_aload_n 11 k_Q_firstNumber_11 rfl ?_
    refine q_getfield 12 k_Q_firstNumber_12 fk_0_11 o0 (v := vR 4 i0) rfl ?_
    refine q_iconst 15 k_Q_firstNumber_15 ?_
    refine q_iaload 16 k_Q_firstNumber_16 o0 (n := 512) rfl ⟨by decide, by decide⟩ (z := (M 4 i0 0)) rfl ?_
    refine q_sI 17 [vI (M 4 i0 0)] [] k_Q_firstNumber_17 rfl lk_0_19 rfl rfl rfl rfl rfl rfl (CallI.mono (fun y2 M1 h3 => ?_) ht)
    exact q_iret 20 k_Q_firstNumber_20 rfl h3
  · have hf := h.2 c4
    refine q_iconst 7 k_Q_firstNumber_7 ?_
    refine q_goto 8 20 k_Q_firstNumber_8 rfl rfl ?_
    exact q_iret 20 k_Q_firstNumber_20 rfl hf
theorem k_Q_push_0 : decode (mtC m_Q_push) 0 = .ok (.aload_n 0, 1) := by decide +kernel
theorem k_Q_push_1 : decode (mtC m_Q_push) 1 = .ok (.getfield 15, 3) := by decide +kernel
theorem k_Q_push_4 : decode (mtC m_Q_push) 4 = .ok (.ifCond .lt 15, 3) := by decide +kernel
theorem k_Q_push_7 : decode (mtC m_Q_push) 7 = .ok (.aload_n 0, 1) := by decide +kernel
theorem k_Q_push_8 : decode (mtC m_Q_push) 8 = .ok (.getfield 15, 3) := by decide +kernel
theorem k_Q_push_11 : decode (mtC m_Q_push) 11 = .ok (.aload_n 0, 1) := by decide +kernel
theorem k_Q_push_12 : decode (mtC m_Q_push) 12 = .ok (.getfield 11, 3) := by decide +kernel
theorem k_Q_push_15 : decode (mtC m_Q_push) 15 = .ok (.arraylength, 1) := by decide +kernel
theorem k_Q_push_16 : decode (mtC m_Q_push) 16 = .ok (.if_icmp .lt 4, 3) := by decide +kernel
theorem k_Q_push_19 : decode (mtC m_Q_push) 19 = .ok (.return_, 1) := by decide +kernel
theorem k_Q_push_20 : decode (mtC m_Q_push) 20 = .ok (.aload_n 0, 1) := by decide +kernel
theorem k_Q_push_21 : decode (mtC m_Q_push) 21 = .ok (.getfield 15, 3) := by decide +kernel
theorem k_Q_push_24 : decode (mtC m_Q_push) 24 = .ok (.istore_n 2, 1) := by decide +kernel
theorem k_Q_push_25 : decode (mtC m_Q_push) 25 = .ok (.aload_n 0, 1) := by decide +kernel
theorem k_Q_push_26 : decode (mtC m_Q_push) 26 = .ok (.dup, 1) := by decide +kernel
theorem k_Q_push_27 : decode (mtC m_Q_push) 27 = .ok (.getfield 15, 3) := by decide +kernel
theorem k_Q_push_30 : decode (mtC m_Q_push) 30 = .ok (.iconst 1, 1) := by decide +kernel
theorem k_Q_push_31 : decode (mtC m_Q_push) 31 = .ok (.iadd, 1) := by decide +kernel
theorem k_Q_push_32 : decode (mtC m_Q_push) 32 = .ok (.putfield 15, 3) := by decide +kernel
theorem k_Q_push_35 : decode (mtC m_Q_push) 35 = .ok (.iload_n 2, 1) := by decide +kernel
theorem k_Q_push_36 : decode (mtC m_Q_push) 36 = .ok (.ifCond .le 42, 3) := by decide +kernel
theorem k_Q_push_39 : decode (mtC m_Q_push) 39 = .ok (.aload_n 0, 1) := by decide +kernel
theorem k_Q_push_40 : decode (mtC m_Q_push) 40 = .ok (.getfield 11, 3) := by decide +kernel
theorem k_Q_push_43 : decode (mtC m_Q_push) 43 = .ok (.iload_n 2, 1) := by decide +kernel
theorem k_Q_push_44 : decode (mtC m_Q_push) 44 = .ok (.iconst 1, 1) := by decide +kernel
theorem k_Q_push_45 : decode (mtC m_Q_push) 45 = .ok (.isub, 1) := by decide +kernel
theorem k_Q_push_46 : decode (mtC m_Q_push) 46 = .ok (.iconst 2, 1) := by decide +kernel
theorem k_Q_push_47 : decode (mtC m_Q_push) 47 = .ok (.idiv, 1) := by decide +kernel
theorem k_Q_push_48 : decode (mtC m_Q_push) 48 = .ok (.iaload, 1) := by decide +kernel
theorem k_Q_push_49 : decode (mtC m_Q_push) 49 = .ok (.iload_n 1, 1) := by decide +kernel
theorem k_Q_push_50 : decode (mtC m_Q_push) 50 = .ok (.if_icmp .le 28, 3) := by decide +kernel
theorem k_Q_push_53 : decode (mtC m_Q_push) 53 = .ok (.aload_n 0, 1) := by decide +kernel
theorem k_Q_push_54 : decode (mtC m_Q_push) 54 = .ok (.getfield 11, 3) := by decide +kernel
theorem k_Q_push_57 : decode (mtC m_Q_push) 57 = .ok (.iload_n 2, 1) := by decide +kernel
theorem k_Q_push_58 : decode (mtC m_Q_push) 58 = .ok (.aload_n 0, 1) := by decide +kernel
theorem k_Q_push_59 : decode (mtC m_Q_push) 59 = .ok (.getfield 11, 3) := by decide +kernel
theorem k_Q_push_62 : decode (mtC m_Q_push) 62 = .ok (.iload_n 2, 1) := by decide +kernel
theorem k_Q_push_63 : decode (mtC m_Q_push) 63 = .ok (.iconst 1, 1) := by decide +kernel
theorem k_Q_push_64 : decode (mtC m_Q_push) 64 = .ok (.isub, 1) := by decide +kernel
theorem k_Q_push_65 : decode (mtC m_Q_push) 65 = .ok (.iconst 2, 1) := by decide +kernel
theorem k_Q_push_66 : decode (mtC m_Q_push) 66 = .ok (.idiv, 1) := by decide +kernel
theorem k_Q_push_67 : decode (mtC m_Q_push) 67 = .ok (.iaload, 1) := by decide +kernel
theorem k_Q_push_68 : decode (mtC m_Q_push) 68 = .ok (.iastore, 1) := by decide +kernel
theorem k_Q_push_69 : decode (mtC m_Q_push) 69 = .ok (.iload_n 2, 1) := by decide +kernel
theorem k_Q_push_70 : decode (mtC m_Q_push) 70 = .ok (.iconst 1, 1) := by decide +kernel
theorem k_Q_push_71 : decode (mtC m_Q_push) 71 = .ok (.isub, 1) := by decide +kernel
theorem k_Q_push_72 : decode (mtC m_Q_push) 72 = .ok (.iconst 2, 1) := by decide +kernel
theorem k_Q_push_73 : decode (mtC m_Q_push) 73 = .ok (.idiv, 1) := by decide +kernel
theorem k_Q_push_74 : decode (mtC m_Q_push) 74 = .ok (.istore_n 2, 1) := by decide +kernel
theorem k_Q_push_75 : decode (mtC m_Q_push) 75 = .ok (.goto (-40), 3) := by decide +kernel
theorem k_Q_push_78 : decode (mtC m_Q_push) 78 = .ok (.aload_n 0, 1) := by decide +kernel
theorem k_Q_push_79 : decode (mtC m_Q_push) 79 = .ok (.getfield 11, 3) := by decide +kernel
theorem k_Q_push_82 : decode (mtC m_Q_push) 82 = .ok (.iload_n 2, 1) := by decide +kernel
theorem k_Q_push_83 : decode (mtC m_Q_push) 83 = .ok (.iload_n 1, 1) := by decide +kernel
theorem k_Q_push_84 : decode (mtC m_Q_push) 84 = .ok (.iastore, 1) := by decide +kernel
theorem k_Q_push_85 : decode (mtC m_Q_push) 85 = .ok (.return_, 1) := by decide +kernel
set_option maxHeartbeats 4000000 in
set_option maxRecDepth 100000 in
theorem T_Q_push_0 {d : Nat} {i0 : Nat} {x1 : Int} {M : AMem} {Q : Option AV → AMem → Prop} (o0 : okH 0 i0 = true) (h : ((wI (M 0 i0 1) < 0) → Q none M) ∧ (¬ (wI (M 0 i0 1) < 0) → ((wI (M 0 i0 1) < 512) → RunQ d m_Q_push 35 [some (vR 0 i0), some (vI x1), some (vI (M 0 i0 1))] [] (aup M 0 i0 1 ((M 0 i0 1) + 1)) Q) ∧ (¬ (wI (M 0 i0 1) < 512) → Q none M))) : RunQ d m_Q_push 0 [some (vR 0 i0), some (vI x1), none] [] M Q := by
  refine q_aload_n 0 k_Q_push_0 rfl ?_
  refine q_getfield 1 k_Q_push_1 fk_0_15 o0 (v := vI (M 0 i0 1)) rfl ?_
  refine q_if_lt 4 19 k_Q_push_4 rfl rfl (fun c4 => ?_) (fun c4 => ?_)
  · have ht := h.1 c4
    exact q_vret 19 k_Q_push_19 rfl ht
  · have hf := h.2 c4
    refine q_aload_n 7 k_Q_push_7 rfl ?_
    refine q_getfield 8 k_Q_push_8 fk_0_15 o0 (v := vI (M 0 i0 1)) rfl ?_
    refine q_aload_n 11 k_Q_push_11 rfl ?_
    refine q_getfield 12 k_Q_push_12 fk_0_11 o0 (v := vR 4 i0) rfl ?_
    refine q_alen 15 k_Q_push_15 o0 rfl (z := 512) rfl ?_
    refine q_icmp_lt 16 20 k_Q_push_16 rfl rfl (fun c16 => ?_) (fun c16 => ?_)
    · have hft := hf.1 c16
      refine q_aload_n 20 k_Q_push_20 rfl ?_
      refine q_getfield 21 k_Q_push_21 fk_0_15 o0 (v := vI (M 0 i0 1)) rfl ?_
      refine q_istore_n 24 k_Q_push_24 (ls' := [some (vR 0 i0), some (vI x1), some (vI (M 0 i0 1))]) rfl rfl ?_
      refine q_aload_n 25 k_Q_push_25 rfl ?_
      refine q_dup 26 k_Q_push_26 rfl ?_
      refine q_getfield 27 k_Q_push_27 fk_0_15 o0 (v := vI (M 0 i0 1)) rfl ?_
      refine q_iconst 30 k_Q_push_30 ?_
      refine q_iadd 31 k_Q_push_31 ?_
      refine q_putfield 32 k_Q_push_32 fk_0_15 o0 rfl (fun z => absurd z (by decide)) ?_
      exact hft
    · have hff := hf.2 c16
      exact q_vret 19 k_Q_push_19 rfl hff
set_option maxHeartbeats 4000000 in
set_option maxRecDepth 100000 in
theorem T_Q_push_35 {d : Nat} {i0 : Nat} {x1 : Int} {x2 : Int} {M : AMem} {Q : Option AV → AMem → Prop} (o0 : okH 0 i0 = true) (h : ((wI x2 ≤ 0) → (0 ≤ wI x2 ∧ wI x2 < (512 : Nat)) ∧ (Q none (aup M 4 i0 ((wI x2).toNat) x1))) ∧ (¬ (wI x2 ≤ 0) → (0 ≤ wI (Int.tdiv (wI (x2 - 1)) (2)) ∧ wI (Int.tdiv (wI (x2 - 1)) (2)) < (512 : Nat)) ∧ (((wI (M 4 i0 ((wI (Int.tdiv (wI (x2 - 1)) (2))).toNat)) ≤ wI x1) → (0 ≤ wI x2 ∧ wI x2 < (512 : Nat)) ∧ (Q none (aup M 4 i0 ((wI x2).toNat) x1))) ∧ (¬ (wI (M 4 i0 ((wI (Int.tdiv (wI (x2 - 1)) (2))).toNat)) ≤ wI x1) → (0 ≤ wI (Int.tdiv (wI (x2 - 1)) (2)) ∧ wI (Int.tdiv (wI (x2 - 1)) (2)) < (512 : Nat)) ∧ ((0 ≤ wI x2 ∧ wI x2 < (512 : Nat)) ∧ (RunQ d m_Q_push 35 [some (vR 0 i0), some (vI x1), some (vI (Int.tdiv (wI (x2 - 1)) (2)))] [] (aup M 4 i0 ((wI x2).toNat) (M 4 i0 ((wI (Int.tdiv (wI (x2 - 1)) (2))).toNat))) Q)))))) : RunQ d m_Q_push 35 [some (vR 0 i0), some (vI x1), some (vI x2)] [] M Q := by
  refine q_iload_n 35 k_Q_push_35 rfl ?_
  refine q_if_le 36 78 k_Q_push_36 rfl rfl (fun c36 => ?_) (fun c36 => ?_)
  · have ht := h.1 c36
    refine q_aload_n 78 k_Q_push_78 rfl ?_
    refine q_getfield 79 k_Q_push_79 fk_0_11 o0 (v := vR 4 i0) rfl ?_
    refine q_iload_n 82 k_Q_push_82 rfl ?_
    refine q_iload_n 83 k_Q_push_83 rfl ?_
    refine q_iastore 84 k_Q_push_84 o0 (n := 512) rfl ht.1 (Or.inl rfl) ?_
    have ht' := ht.2
    exact q_vret 85 k_Q_push_85 rfl ht'
  · have hf := h.2 c36
    refine q_aload_n 39 k_Q_push_39 rfl ?_
    refine q_getfield 40 k_Q_push_40 fk_0_11 o0 (v := vR 4 i0) rfl ?_
    refine q_iload_n 43 k_Q_push_43 rfl ?_
    refine q_iconst 44 k_Q_push_44 ?_
    refine q_isub 45 k_Q_push_45 ?_
    refine q_iconst 46 k_Q_push_46 ?_
    refine q_idiv 47 k_Q_push_47 (by decide) ?_
    have hb1 := hf.1
    refine q_iaload 48 k_Q_push_48 o0 (n := 512) rfl hb1 (z := (M 4 i0 ((wI (Int.tdiv (wI (x2 - 1)) (2))).toNat))) rfl ?_
    have hf' := hf.2
    refine q_iload_n 49 k_Q_push_49 rfl ?_
    refine q_icmp_le 50 78 k_Q_push_50 rfl rfl (fun c50 => ?_) (fun c50 => ?_)
    · have hf't := hf'.1 c50
      refine q_aload_n 78 k_Q_push_78 rfl ?_
      refine q_getfield 79 k_Q_push_79 fk_0_11 o0 (v := vR 4 i0) rfl ?_
      refine q_iload_n 82 k_Q_push_82 rfl ?_
      refine q_iload_n 83 k_Q_push_83 rfl ?_
      refine q_iastore 84 k_Q_push_84 o0 (n := 512) rfl hf't.1 (Or.inl rfl) ?_
      have hf't' := hf't.2
      exact q_vret 85 k_Q_push_85 rfl hf't'
    · have hf'f := hf'.2 c50
      refine q_aload_n 53 k_Q_push_53 rfl ?_
      refine q_getfield 54 k_Q_push_54 fk_0_11 o0 (v := vR 4 i0) rfl ?_
      refine q_iload_n 57 k_Q_push_57 rfl ?_
      refine q_aload_n 58 k_Q_push_58 rfl ?_
      refine q_getfield 59 k_Q_push_59 fk_0_11 o0 (v := vR 4 i0) rfl ?_
      refine q_iload_n 62 k_Q_push_62 rfl ?_
      refine q_iconst 63 k_Q_push_63 ?_
      refine q_isub 64 k_Q_push_64 ?_
      refine q_iconst 65 k_Q_push_65 ?_
      refine q_idiv 66 k_Q_push_66 (by decide) ?_
      have hb2 := hf'f.1
      refine q_iaload 67 k_Q_push_67 o0 (n := 512) rfl hb2 (z := (M 4 i0 ((wI (Int.tdiv (wI (x2 - 1)) (2))).toNat))) rfl ?_
      have hf'f' := hf'f.2
      refine q_iastore 68 k_Q_push_68 o0 (n := 512) rfl hf'f'.1 (Or.inl rfl) ?_
      have hf'f'' := hf'f'.2
      refine q_iload_n 69 k_Q_push_69 rfl ?_
      refine q_iconst 70 k_Q_push_70 ?_
      refine q_isub 71 k_Q_push_71 ?_
      refine q_iconst 72 k_Q_push_72 ?_
      refine q_idiv 73 k_Q_push_73 (by decide) ?_
      refine q_istore_n 74 k_Q_push_74 (ls' := [some (vR 0 i0), some (vI x1), some (vI (Int.tdiv (wI (x2 - 1)) (2)))]) rfl rfl ?_
      refine q_goto 75 35 k_Q_push_75 rfl rfl ?_
      exact hf'f''
theorem k_Q_pop_0 : decode (mtC m_Q_pop) 0 = .ok (.aload_n 0, 1) := by decide +kernel
theorem k_Q_pop_1 : decode (mtC m_Q_pop) 1 = .ok (.getfield 15, 3) := by decide +kernel
theorem k_Q_pop_4 : decode (mtC m_Q_pop) 4 = .ok (.ifCond .le 15, 3) := by decide +kernel
theorem k_Q_pop_7 : decode (mtC m_Q_pop) 7 = .ok (.aload_n 0, 1) := by decide +kernel
theorem k_Q_pop_8 : decode (mtC m_Q_pop) 8 = .ok (.getfield 15, 3) := by decide +kernel
theorem k_Q_pop_11 : decode (mtC m_Q_pop) 11 = .ok (.aload_n 0, 1) := by decide +kernel
theorem k_Q_pop_12 : decode (mtC m_Q_pop) 12 = .ok (.getfield 11, 3) := by decide +kernel
theorem k_Q_pop_15 : decode (mtC m_Q_pop) 15 = .ok (.arraylength, 1) := by decide +kernel
theorem k_Q_pop_16 : decode (mtC m_Q_pop) 16 = .ok (.if_icmp .le 5, 3) := by decide +kernel
theorem k_Q_pop_19 : decode (mtC m_Q_pop) 19 = .ok (.iconst (-1), 1) := by decide +kernel
theorem k_Q_pop_20 : decode (mtC m_Q_pop) 20 = .ok (.ireturn, 1) := by decide +kernel
theorem k_Q_pop_21 : decode (mtC m_Q_pop) 21 = .ok (.aload_n 0, 1) := by decide +kernel
theorem k_Q_pop_22 : decode (mtC m_Q_pop) 22 = .ok (.getfield 11, 3) := by decide +kernel
theorem k_Q_pop_25 : decode (mtC m_Q_pop) 25 = .ok (.iconst 0, 1) := by decide +kernel
theorem k_Q_pop_26 : decode (mtC m_Q_pop) 26 = .ok (.iaload, 1) := by decide +kernel
theorem k_Q_pop_27 : decode (mtC m_Q_pop) 27 = .ok (.istore_n 1, 1) := by decide +kernel
theorem k_Q_pop_28 : decode (mtC m_Q_pop) 28 = .ok (.aload_n 0, 1) := by decide +kernel
theorem k_Q_pop_29 : decode (mtC m_Q_pop) 29 = .ok (.dup, 1) := by decide +kernel
theorem k_Q_pop_30 : decode (mtC m_Q_pop) 30 = .ok (.getfield 15, 3) := by decide +kernel
theorem k_Q_pop_33 : decode (mtC m_Q_pop) 33 = .ok (.iconst 1, 1) := by decide +kernel
theorem k_Q_pop_34 : decode (mtC m_Q_pop) 34 = .ok (.isub, 1) := by decide +kernel
theorem k_Q_pop_35 : decode (mtC m_Q_pop) 35 = .ok (.putfield 15, 3) := by decide +kernel
theorem k_Q_pop_38 : decode (mtC m_Q_pop) 38 = .ok (.aload_n 0, 1) := by decide +kernel
theorem k_Q_pop_39 : decode (mtC m_Q_pop) 39 = .ok (.aload_n 0, 1) := by decide +kernel
theorem k_Q_pop_40 : decode (mtC m_Q_pop) 40 = .ok (.getfield 11, 3) := by decide +kernel
theorem k_Q_pop_43 : decode (mtC m_Q_pop) 43 = .ok (.aload_n 0, 1) := by decide +kernel
theorem k_Q_pop_44 : decode (mtC m_Q_pop) 44 = .ok (.getfield 15, 3) := by decide +kernel
theorem k_Q_pop_47 : decode (mtC m_Q_pop) 47 = .ok (.iaload, 1) := by decide +kernel
theorem k_Q_pop_48 : decode (mtC m_Q_pop) 48 = .ok (.invokevirtual 23, 3) := by decide +kernel
theorem k_Q_pop_51 : decode (mtC m_Q_pop) 51 = .ok (.iload_n 1, 1) := by decide +kernel
theorem k_Q_pop_52 : decode (mtC m_Q_pop) 52 = .ok (.ireturn, 1) := by decide +kernel
set_option maxHeartbeats 4000000 in
set_option maxRecDepth 100000 in
theorem T_Q_pop_0 {d : Nat} {i0 : Nat} {M : AMem} {Q : Option AV → AMem → Prop} (o0 : okH 0 i0 = true) (h : ((wI (M 0 i0 1) ≤ 0) → Q (some (vI (-1))) M) ∧ (¬ (wI (M 0 i0 1) ≤ 0) → ((wI (M 0 i0 1) ≤ 512) → (0 ≤ wI ((M 0 i0 1) - 1) ∧ wI ((M 0 i0 1) - 1) < (512 : Nat)) ∧ (CallV d m_Q_sink [vR 0 i0, vI (M 4 i0 ((wI ((M 0 i0 1) - 1)).toNat))] (aup M 0 i0 1 ((M 0 i0 1) - 1)) (fun M2 => Q (some (vI (M 4 i0 0))) M2))) ∧ (¬ (wI (M 0 i0 1) ≤ 512) → Q (some (vI (-1))) M))) : RunQ (d + 1) m_Q_pop 0 [some (vR 0 i0), none] [] M Q := by
  refine q_aload_n 0 k_Q_pop_0 rfl ?_
  refine q_getfield 1 k_Q_pop_1 fk_0_15 o0 (v := vI (M 0 i0 1)) rfl ?_
  refine q_if_le 4 19 k_Q_pop_4 rfl rfl (fun c4 => ?_) (fun c4 => ?_)
  · have ht := h.1 c4
    refine q_iconst 19 k_Q_pop_19 ?_
    exact q_iret 20 k_Q_pop_20 rfl ht
  · have hf := h.2 c4
    refine q_aload_n 7 k_Q_pop_7 rfl ?_
    refine q_getfield 8 k_Q_pop_8 fk_0_15 o0 (v := vI (M 0 i0 1)) rfl ?_
    refine q_aload_n 11 k_Q_pop_11 rfl ?_
    refine q_getfield 12 k_Q_pop_12 fk_0_11 o0 (v := vR 4 i0) rfl ?_
    refine q_alen 15 k_Q_pop_15 o0 rfl (z := 512) rfl ?_
    refine q_icmp_le 16 21 k_Q_pop_16 rfl rfl (fun c16 => ?_) (fun c16 => ?_)
    · have hft := hf.1 c16
      refine q_aload_n 21 k_Q_pop_21 rfl ?_
      refine q_getfield 22 k_Q_pop_22 fk_0_11 o0 (v := vR 4 i0) rfl ?_
      refine q_iconst 25 k_Q_pop_25 ?_
      refine q_iaload 26 k_Q_pop_26 o0 (n := 512) rfl ⟨by decide, by decide⟩ (z := (M 4 i0 0)) rfl ?_
      refine q_istore_n 27 k_Q_pop_27 (ls' := [some (vR 0 i0), some (vI (M 4 i0 0))]) rfl rfl ?_
      refine q_aload_n 28 k_Q_pop_28 rfl ?_
      refine q_dup 29 k_Q_pop_29 rfl ?_
      refine q_getfield 30 k_Q_pop_30 fk_0_15 o0 (v := vI (M 0 i0 1)) rfl ?_
      refine q_iconst 33 k_Q_pop_33 ?_
      refine q_isub 34 k_Q_pop_34 ?_
      refine q_putfield 35 k_Q_pop_35 fk_0_15 o0 rfl (fun z => absurd z (by decide)) ?_
      refine q_aload_n 38 k_Q_pop_38 rfl ?_
      refine q_aload_n 39 k_Q_pop_39 rfl ?_
      refine q_getfield 40 k_Q_pop_40 fk_0_11 o0 (v := vR 4 i0) rfl ?_
      refine q_aload_n 43 k_Q_pop_43 rfl ?_
      refine q_getfield 44 k_Q_pop_44 fk_0_15 o0 (v := vI ((M 0 i0 1) - 1)) (by simp [fval, aup]) ?_
      have hb1 := hft.1
      refine q_iaload 47 k_Q_pop_47 o0 (n := 512) rfl hb1 (z := (M 4 i0 ((wI ((M 0 i0 1) - 1)).toNat))) (by simp [aval, aup]) ?_
      have hft' := hft.2
      refine q_vV 48 [vI (M 4 i0 ((wI ((M 0 i0 1) - 1)).toNat))] [] k_Q_pop_48 lk_0_23 rfl rfl rfl o0 rfl rfl rfl rfl (CallV.mono (fun M2 h4 => ?_) hft')
      refine q_iload_n 51 k_Q_pop_51 rfl ?_
      exact q_iret 52 k_Q_pop_52 rfl h4
    · have hff := hf.2 c16
      refine q_iconst 19 k_Q_pop_19 ?_
      exact q_iret 20 k_Q_pop_20 rfl hff
theorem k_Q_sink_0 : decode (mtC m_Q_sink) 0 = .ok (.iconst 0, 1) := by decide +kernel
theorem k_Q_sink_1 : decode (mtC m_Q_sink) 1 = .ok (.istore_n 2, 1) := by decide +kernel
theorem k_Q_sink_2 : decode (mtC m_Q_sink) 2 = .ok (.iconst 1, 1) := by decide +kernel
theorem k_Q_sink_3 : decode (mtC m_Q_sink) 3 = .ok (.istore_n 3, 1) := by decide +kernel
theorem k_Q_sink_4 : decode (mtC m_Q_sink) 4 = .ok (.iload_n 3, 1) := by decide +kernel
theorem k_Q_sink_5 : decode (mtC m_Q_sink) 5 = .ok (.aload_n 0, 1) := by decide +kernel
theorem k_Q_sink_6 : decode (mtC m_Q_sink) 6 = .ok (.getfield 15, 3) := by decide +kernel
theorem k_Q_sink_9 : decode (mtC m_Q_sink) 9 = .ok (.if_icmp .ge 89, 3) := by decide +kernel
theorem k_Q_sink_12 : decode (mtC m_Q_sink) 12 = .ok (.iload_n 3, 1) := by decide +kernel
theorem k_Q_sink_13 : decode (mtC m_Q_sink) 13 = .ok (.aload_n 0, 1) := by decide +kernel
theorem k_Q_sink_14 : decode (mtC m_Q_sink) 14 = .ok (.getfield 11, 3) := by decide +kernel
theorem k_Q_sink_17 : decode (mtC m_Q_sink) 17 = .ok (.arraylength, 1) := by decide +kernel
theorem k_Q_sink_18 : decode (mtC m_Q_sink) 18 = .ok (.if_icmp .ge 80, 3) := by decide +kernel
theorem k_Q_sink_21 : decode (mtC m_Q_sink) 21 = .ok (.iload_n 3, 1) := by decide +kernel
theorem k_Q_sink_22 : decode (mtC m_Q_sink) 22 = .ok (.iconst 1, 1) := by decide +kernel
theorem k_Q_sink_23 : decode (mtC m_Q_sink) 23 = .ok (.iadd, 1) := by decide +kernel
theorem k_Q_sink_24 : decode (mtC m_Q_sink) 24 = .ok (.aload_n 0, 1) := by decide +kernel
theorem k_Q_sink_25 : decode (mtC m_Q_sink) 25 = .ok (.getfield 15, 3) := by decide +kernel
theorem k_Q_sink_28 : decode (mtC m_Q_sink) 28 = .ok (.if_icmp .ge 34, 3) := by decide +kernel
theorem k_Q_sink_31 : decode (mtC m_Q_sink) 31 = .ok (.iload_n 3, 1) := by decide +kernel
theorem k_Q_sink_32 : decode (mtC m_Q_sink) 32 = .ok (.iconst 1, 1) := by decide +kernel
theorem k_Q_sink_33 : decode (mtC m_Q_sink) 33 = .ok (.iadd, 1) := by decide +kernel
theorem k_Q_sink_34 : decode (mtC m_Q_sink) 34 = .ok (.aload_n 0, 1) := by decide +kernel
theorem k_Q_sink_35 : decode (mtC m_Q_sink) 35 = .ok (.getfield 11, 3) := by decide +kernel
theorem k_Q_sink_38 : decode (mtC m_Q_sink) 38 = .ok (.arraylength, 1) := by decide +kernel
theorem k_Q_sink_39 : decode (mtC m_Q_sink) 39 = .ok (.if_icmp .ge 23, 3) := by decide +kernel
theorem k_Q_sink_42 : decode (mtC m_Q_sink) 42 = .ok (.aload_n 0, 1) := by decide +kernel
theorem k_Q_sink_43 : decode (mtC m_Q_sink) 43 = .ok (.getfield 11, 3) := by decide +kernel
theorem k_Q_sink_46 : decode (mtC m_Q_sink) 46 = .ok (.iload_n 3, 1) := by decide +kernel
theorem k_Q_sink_47 : decode (mtC m_Q_sink) 47 = .ok (.iconst 1, 1) := by decide +kernel
theorem k_Q_sink_48 : decode (mtC m_Q_sink) 48 = .ok (.iadd, 1) := by decide +kernel
theorem k_Q_sink_49 : decode (mtC m_Q_sink) 49 = .ok (.iaload, 1) := by decide +kernel
theorem k_Q_sink_50 : decode (mtC m_Q_sink) 50 = .ok (.aload_n 0, 1) := by decide +kernel
theorem k_Q_sink_51 : decode (mtC m_Q_sink) 51 = .ok (.getfield 11, 3) := by decide +kernel
theorem k_Q_sink_54 : decode (mtC m_Q_sink) 54 = .ok (.iload_n 3, 1) := by decide +kernel
theorem k_Q_sink_55 : decode (mtC m_Q_sink) 55 = .ok (.iaload, 1) := by decide +kernel
theorem k_Q_sink_56 : decode (mtC m_Q_sink) 56 = .ok (.if_icmp .ge 6, 3) := by decide +kernel
theorem k_Q_sink_59 : decode (mtC m_Q_sink) 59 = .ok (.iinc 3 1, 3) := by decide +kernel
theorem k_Q_sink_62 : decode (mtC m_Q_sink) 62 = .ok (.aload_n 0, 1) := by decide +kernel
theorem k_Q_sink_63 : decode (mtC m_Q_sink) 63 = .ok (.getfield 11, 3) := by decide +kernel
theorem k_Q_sink_66 : decode (mtC m_Q_sink) 66 = .ok (.iload_n 3, 1) := by decide +kernel
theorem k_Q_sink_67 : decode (mtC m_Q_sink) 67 = .ok (.iaload, 1) := by decide +kernel
theorem k_Q_sink_68 : decode (mtC m_Q_sink) 68 = .ok (.iload_n 1, 1) := by decide +kernel
theorem k_Q_sink_69 : decode (mtC m_Q_sink) 69 = .ok (.if_icmp .le 6, 3) := by decide +kernel
theorem k_Q_sink_72 : decode (mtC m_Q_sink) 72 = .ok (.goto 26, 3) := by decide +kernel
theorem k_Q_sink_75 : decode (mtC m_Q_sink) 75 = .ok (.aload_n 0, 1) := by decide +kernel
theorem k_Q_sink_76 : decode (mtC m_Q_sink) 76 = .ok (.getfield 11, 3) := by decide +kernel
theorem k_Q_sink_79 : decode (mtC m_Q_sink) 79 = .ok (.iload_n 2, 1) := by decide +kernel
theorem k_Q_sink_80 : decode (mtC m_Q_sink) 80 = .ok (.aload_n 0, 1) := by decide +kernel
theorem k_Q_sink_81 : decode (mtC m_Q_sink) 81 = .ok (.getfield 11, 3) := by decide +kernel
theorem k_Q_sink_84 : decode (mtC m_Q_sink) 84 = .ok (.iload_n 3, 1) := by decide +kernel
theorem k_Q_sink_85 : decode (mtC m_Q_sink) 85 = .ok (.iaload, 1) := by decide +kernel
theorem k_Q_sink_86 : decode (mtC m_Q_sink) 86 = .ok (.iastore, 1) := by decide +kernel
theorem k_Q_sink_87 : decode (mtC m_Q_sink) 87 = .ok (.iload_n 3, 1) := by decide +kernel
theorem k_Q_sink_88 : decode (mtC m_Q_sink) 88 = .ok (.istore_n 2, 1) := by decide +kernel
theorem k_Q_sink_89 : decode (mtC m_Q_sink) 89 = .ok (.iconst 2, 1) := by decide +kernel
theorem k_Q_sink_90 : decode (mtC m_Q_sink) 90 = .ok (.iload_n 2, 1) := by decide +kernel
theorem k_Q_sink_91 : decode (mtC m_Q_sink) 91 = .ok (.imul, 1) := by decide +kernel
theorem k_Q_sink_92 : decode (mtC m_Q_sink) 92 = .ok (.iconst 1, 1) := by decide +kernel
theorem k_Q_sink_93 : decode (mtC m_Q_sink) 93 = .ok (.iadd, 1) := by decide +kernel
theorem k_Q_sink_94 : decode (mtC m_Q_sink) 94 = .ok (.istore_n 3, 1) := by decide +kernel
theorem k_Q_sink_95 : decode (mtC m_Q_sink) 95 = .ok (.goto (-91), 3) := by decide +kernel
theorem k_Q_sink_98 : decode (mtC m_Q_sink) 98 = .ok (.aload_n 0, 1) := by decide +kernel
theorem k_Q_sink_99 : decode (mtC m_Q_sink) 99 = .ok (.getfield 11, 3) := by decide +kernel
theorem k_Q_sink_102 : decode (mtC m_Q_sink) 102 = .ok (.iload_n 2, 1) := by decide +kernel
theorem k_Q_sink_103 : decode (mtC m_Q_sink) 103 = .ok (.iload_n 1, 1) := by decide +kernel
theorem k_Q_sink_104 : decode (mtC m_Q_sink) 104 = .ok (.iastore, 1) := by decide +kernel
theorem k_Q_sink_105 : decode (mtC m_Q_sink) 105 = .ok (.return_, 1) := by decide +kernel
set_option maxHeartbeats 4000000 in
set_option maxRecDepth 100000 in
theorem T_Q_sink_0 {d : Nat} {i0 : Nat} {x1 : Int} {M : AMem} {Q : Option AV → AMem → Prop} (o0 : okH 0 i0 = true) (h : RunQ d m_Q_sink 4 [some (vR 0 i0), some (vI x1), some (vI 0), some (vI 1)] [] M Q) : RunQ d m_Q_sink 0 [some (vR 0 i0), some (vI x1), none, none] [] M Q := by
  refine q_iconst 0 k_Q_sink_0 ?_
  refine q_istore_n 1 k_Q_sink_1 (ls' := [some (vR 0 i0), some (vI x1), some (vI 0), none]) rfl rfl ?_
  refine q_iconst 2 k_Q_sink_2 ?_
  refine q_istore_n 3 k_Q_sink_3 (ls' := [some (vR 0 i0), some (vI x1), some (vI 0), some (vI 1)]) rfl rfl ?_
  exact h
set_option maxHeartbeats 4000000 in
set_option maxRecDepth 100000 in
theorem T_Q_sink_4 {d : Nat} {i0 : Nat} {x1 : Int} {x2 : Int} {x3 : Int} {M : AMem} {Q : Option AV → AMem → Prop} (o0 : okH 0 i0 = true) (h : ((wI (M 0 i0 1) ≤ wI x3) → (0 ≤ wI x2 ∧ wI x2 < (512 : Nat)) ∧ (Q none (aup M 4 i0 ((wI x2).toNat) x1))) ∧ (¬ (wI (M 0 i0 1) ≤ wI x3) → ((512 ≤ wI x3) → (0 ≤ wI x2 ∧ wI x2 < (512 : Nat)) ∧ (Q none (aup M 4 i0 ((wI x2).toNat) x1))) ∧ (¬ (512 ≤ wI x3) → ((wI (M 0 i0 1) ≤ wI (x3 + 1)) → (0 ≤ wI x3 ∧ wI x3 < (512 : Nat)) ∧ (((wI (M 4 i0 ((wI x3).toNat)) ≤ wI x1) → (0 ≤ wI x3 ∧ wI x3 < (512 : Nat)) ∧ ((0 ≤ wI x2 ∧ wI x2 < (512 : Nat)) ∧ (RunQ d m_Q_sink 4 [some (vR 0 i0), some (vI x1), some (vI x3), some (vI ((2 * x3) + 1))] [] (aup M 4 i0 ((wI x2).toNat) (M 4 i0 ((wI x3).toNat))) Q))) ∧ (¬ (wI (M 4 i0 ((wI x3).toNat)) ≤ wI x1) → (0 ≤ wI x2 ∧ wI x2 < (512 : Nat)) ∧ (Q none (aup M 4 i0 ((wI x2).toNat) x1))))) ∧ (¬ (wI (M 0 i0 1) ≤ wI (x3 + 1)) → ((512 ≤ wI (x3 + 1)) → (0 ≤ wI x3 ∧ wI x3 < (512 : Nat)) ∧ (((wI (M 4 i0 ((wI x3).toNat)) ≤ wI x1) → (0 ≤ wI x3 ∧ wI x3 < (512 : Nat)) ∧ ((0 ≤ wI x2 ∧ wI x2 < (512 : Nat)) ∧ (RunQ d m_Q_sink 4 [some (vR 0 i0), some (vI x1), some (vI x3), some (vI ((2 * x3) + 1))] [] (aup M 4 i0 ((wI x2).toNat) (M 4 i0 ((wI x3).toNat))) Q))) ∧ (¬ (wI (M 4 i0 ((wI x3).toNat)) ≤ wI x1) → (0 ≤ wI x2 ∧ wI x2 < (512 : Nat)) ∧ (Q none (aup M 4 i0 ((wI x2).toNat) x1))))) ∧ (¬ (512 ≤ wI (x3 + 1)) → (0 ≤ wI (x3 + 1) ∧ wI (x3 + 1) < (512 : Nat)) ∧ ((0 ≤ wI x3 ∧ wI x3 < (512 : Nat)) ∧ (((wI (M 4 i0 ((wI x3).toNat)) ≤ wI (M 4 i0 ((wI (x3 + 1)).toNat))) → (0 ≤ wI x3 ∧ wI x3 < (512 : Nat)) ∧ (((wI (M 4 i0 ((wI x3).toNat)) ≤ wI x1) → (0 ≤ wI x3 ∧ wI x3 < (512 : Nat)) ∧ ((0 ≤ wI x2 ∧ wI x2 < (512 : Nat)) ∧ (RunQ d m_Q_sink 4 [some (vR 0 i0), some (vI x1), some (vI x3), some (vI ((2 * x3) + 1))] [] (aup M 4 i0 ((wI x2).toNat) (M 4 i0 ((wI x3).toNat))) Q))) ∧ (¬ (wI (M 4 i0 ((wI x3).toNat)) ≤ wI x1) → (0 ≤ wI x2 ∧ wI x2 < (512 : Nat)) ∧ (Q none (aup M 4 i0 ((wI x2).toNat) x1))))) ∧ (¬ (wI (M 4 i0 ((wI x3).toNat)) ≤ wI (M 4 i0 ((wI (x3 + 1)).toNat))) → (0 ≤ wI (x3 + 1) ∧ wI (x3 + 1) < (512 : Nat)) ∧ (((wI (M 4 i0 ((wI (x3 + 1)).toNat)) ≤ wI x1) → (0 ≤ wI (x3 + 1) ∧ wI (x3 + 1) < (512 : Nat)) ∧ ((0 ≤ wI x2 ∧ wI x2 < (512 : Nat)) ∧ (RunQ d m_Q_sink 4 [some (vR 0 i0), some (vI x1), some (vI (x3 + 1)), some (vI ((2 * (x3 + 1)) + 1))] [] (aup M 4 i0 ((wI x2).toNat) (M 4 i0 ((wI (x3 + 1)).toNat))) Q))) ∧ (¬ (wI (M 4 i0 ((wI (x3 + 1)).toNat)) ≤ wI x1) → (0 ≤ wI x2 ∧ wI x2 < (512 : Nat)) ∧ (Q none (aup M 4 i0 ((wI x2).toNat) x1)))))))))))) : RunQ d m_Q_sink 4 [some (vR 0 i0), some (vI x1), some (vI x2), some (vI x3)] [] M Q := by
  refine q_iload_n 4 k_Q_sink_4 rfl ?_
  refine q_aload_n 5 k_Q_sink_5 rfl ?_
  refine q_getfield 6 k_Q_sink_6 fk_0_15 o0 (v := vI (M 0 i0 1)) rfl ?_
  refine q_icmp_ge 9 98 k_Q_sink_9 rfl rfl (fun c9 => ?_) (fun c9 => ?_)
  · have ht := h.1 c9
    refine q_aload_n 98 k_Q_sink_98 rfl ?_
    refine q_getfield 99 k_Q_sink_99 fk_0_11 o0 (v := vR 4 i0) rfl ?_
    refine q_iload_n 102 k_Q_sink_102 rfl ?_
    refine q_iload_n 103 k_Q_sink_103 rfl ?_
    refine q_iastore 104 k_Q_sink_104 o0 (n := 512) rfl ht.1 (Or.inl rfl) ?_
    have ht' := ht.2
    exact q_vret 105 k_Q_sink_105 rfl ht'
  · have hf := h.2 c9
    refine q_iload_n 12 k_Q_sink_12 rfl ?_
    refine q_aload_n 13 k_Q_sink_13 rfl ?_
    refine q_getfield 14 k_Q_sink_14 fk_0_11 o0 (v := vR 4 i0) rfl ?_
    refine q_alen 17 k_Q_sink_17 o0 rfl (z := 512) rfl ?_
    refine q_icmp_ge 18 98 k_Q_sink_18 rfl rfl (fun c18 => ?_) (fun c18 => ?_)
    · have hft := hf.1 c18
      refine q_aload_n 98 k_Q_sink_98 rfl ?_
      refine q_getfield 99 k_Q_sink_99 fk_0_11 o0 (v := vR 4 i0) rfl ?_
      refine q_iload_n 102 k_Q_sink_102 rfl ?_
      refine q_iload_n 103 k_Q_sink_103 rfl ?_
      refine q_iastore 104 k_Q_sink_104 o0 (n := 512) rfl hft.1 (Or.inl rfl) ?_
      have hft' := hft.2
      exact q_vret 105 k_Q_sink_105 rfl hft'
    · have hff := hf.2 c18
      refine q_iload_n 21 k_Q_sink_21 rfl ?_
      refine q_iconst 22 k_Q_sink_22 ?_
      refine q_iadd 23 k_Q_sink_23 ?_
      refine q_aload_n 24 k_Q_sink_24 rfl ?_
      refine q_getfield 25 k_Q_sink_25 fk_0_15 o0 (v := vI (M 0 i0 1)) rfl ?_
      refine q_icmp_ge 28 62 k_Q_sink_28 rfl rfl (fun c28 => ?_) (fun c28 => ?_)
      · have hfft := hff.1 c28
        refine q_aload_n 62 k_Q_sink_62 rfl ?_
        refine q_getfield 63 k_Q_sink_63 fk_0_11 o0 (v := vR 4 i0) rfl ?_
        refine q_iload_n 66 k_Q_sink_66 rfl ?_
        have hb1 := hfft.1
        refine q_iaload 67 k_Q_sink_67 o0 (n := 512) rfl hb1 (z := (M 4 i0 ((wI x3).toNat))) rfl ?_
        have hfft' := hfft.2
        refine q_iload_n 68 k_Q_sink_68 rfl ?_
        refine q_icmp_le 69 75 k_Q_sink_69 rfl rfl (fun c69 => ?_) (fun c69 => ?_)
        · have hfft't := hfft'.1 c69
          refine q_aload_n 75 k_Q_sink_75 rfl ?_
          refine q_getfield 76 k_Q_sink_76 fk_0_11 o0 (v := vR 4 i0) rfl ?_
          refine q_iload_n 79 k_Q_sink_79 rfl ?_
          refine q_aload_n 80 k_Q_sink_80 rfl ?_
          refine q_getfield 81 k_Q_sink_81 fk_0_11 o0 (v := vR 4 i0) rfl ?_
          refine q_iload_n 84 k_Q_sink_84 rfl ?_
          have hb2 := hfft't.1
          refine q_iaload 85 k_Q_sink_85 o0 (n := 512) rfl hb2 (z := (M 4 i0 ((wI x3).toNat))) rfl ?_
          have hfft't' := hfft't.2
          refine q_iastore 86 k_Q_sink_86 o0 (n := 512) rfl hfft't'.1 (Or.inl rfl) ?_
          have hfft't'' := hfft't'.2
          refine q_iload_n 87 k_Q_sink_87 rfl ?_
          refine q_istore_n 88 k_Q_sink_88 (ls' := [some (vR 0 i0), some (vI x1), some (vI x3), some (vI x3)]) rfl rfl ?_
          refine q_iconst 89 k_Q_sink_89 ?_
          refine q_iload_n 90 k_Q_sink_90 rfl ?_
          refine q_imul 91 k_Q_sink_91 ?_
          refine q_iconst 92 k_Q_sink_92 ?_
          refine q_iadd 93 k_Q_sink_93 ?_
          refine q_istore_n 94 k_Q_sink_94 (ls' := [some (vR 0 i0), some (vI x1), some (vI x3), some (vI ((2 * x3) + 1))]) rfl rfl ?_
          refine q_goto 95 4 k_Q_sink_95 rfl rfl ?_
          exact hfft't''
        · have hfft'f := hfft'.2 c69
          refine q_goto 72 98 k_Q_sink_72 rfl rfl ?_
          refine q_aload_n 98 k_Q_sink_98 rfl ?_
          refine q_getfield 99 k_Q_sink_99 fk_0_11 o0 (v := vR 4 i0) rfl ?_
          refine q_iload_n 102 k_Q_sink_102 rfl ?_
          refine q_iload_n 103 k_Q_sink_103 rfl ?_
          refine q_iastore 104 k_Q_sink_104 o0 (n := 512) rfl hfft'f.1 (Or.inl rfl) ?_
          have hfft'f' := hfft'f.2
          exact q_vret 105 k_Q_sink_105 rfl hfft'f'
      · have hfff := hff.2 c28
        refine q_iload_n 31 k_Q_sink_31 rfl ?_
        refine q_iconst 32 k_Q_sink_32 ?_
        refine q_iadd 33 k_Q_sink_33 ?_
        refine q_aload_n 34 k_Q_sink_34 rfl ?_
        refine q_getfield 35 k_Q_sink_35 fk_0_11 o0 (v := vR 4 i0) rfl ?_
        refine q_alen 38 k_Q_sink_38 o0 rfl (z := 512) rfl ?_
        refine q_icmp_ge 39 62 k_Q_sink_39 rfl rfl (fun c39 => ?_) (fun c39 => ?_)
        · have hffft := hfff.1 c39
          refine q_aload_n 62 k_Q_sink_62 rfl ?_
          refine q_getfield 63 k_Q_sink_63 fk_0_11 o0 (v := vR 4 i0) rfl ?_
          refine q_iload_n 66 k_Q_sink_66 rfl ?_
          have hb3 := hffft.1
          refine q_iaload 67 k_Q_sink_67 o0 (n := 512) rfl hb3 (z := (M 4 i0 ((wI x3).toNat))) rfl ?_
          have hffft' := hffft.2
          refine q_iload_n 68 k_Q_sink_68 rfl ?_
          refine q_icmp_le 69 75 k_Q_sink_69 rfl rfl (fun c69 => ?_) (fun c69 => ?_)
          · have hffft't := hffft'.1 c69
            refine q_aload_n 75 k_Q_sink_75 rfl ?_
            refine q_getfield 76 k_Q_sink_76 fk_0_11 o0 (v := vR 4 i0) rfl ?_
            refine q_iload_n 79 k_Q_sink_79 rfl ?_
            refine q_aload_n 80 k_Q_sink_80 rfl ?_
            refine q_getfield 81 k_Q_sink_81 fk_0_11 o0 (v := vR 4 i0) rfl ?_
            refine q_iload_n 84 k_Q_sink_84 rfl ?_
            have hb4 := hffft't.1
            refine q_iaload 85 k_Q_sink_85 o0 (n := 512) rfl hb4 (z := (M 4 i0 ((wI x3).toNat))) rfl ?_
            have hffft't' := hffft't.2
            refine q_iastore 86 k_Q_sink_86 o0 (n := 512) rfl hffft't'.1 (Or.inl rfl) ?_
            have hffft't'' := hffft't'.2
            refine q_iload_n 87 k_Q_sink_87 rfl ?_
            refine q_istore_n 88 k_Q_sink_88 (ls' := [some (vR 0 i0), some (vI x1), some (vI x3), some (vI x3)]) rfl rfl ?_
            refine q_iconst 89 k_Q_sink_89 ?_
            refine q_iload_n 90 k_Q_sink_90 rfl ?_
            refine q_imul 91 k_Q_sink_91 ?_
            refine q_iconst 92 k_Q_sink_92 ?_
            refine q_iadd 93 k_Q_sink_93 ?_
            refine q_istore_n 94 k_Q_sink_94 (ls' := [some (vR 0 i0), some (vI x1), some (vI x3), some (vI ((2 * x3) + 1))]) rfl rfl ?_
            refine q_goto 95 4 k_Q_sink_95 rfl rfl ?_
            exact hffft't''
          · have hffft'f := hffft'.2 c69
            refine q_goto 72 98 k_Q_sink_72 rfl rfl ?_
            refine q_aload_n 98 k_Q_sink_98 rfl ?_
            refine q_getfield 99 k_Q_sink_99 fk_0_11 o0 (v := vR 4 i0) rfl ?_
            refine q_iload_n 102 k_Q_sink_102 rfl ?_
            refine q_iload_n 103 k_Q_sink_103 rfl ?_
            refine q_iastore 104 k_Q_sink_104 o0 (n := 512) rfl hffft'f.1 (Or.inl rfl) ?_
            have hffft'f' := hffft'f.2
            exact q_vret 105 k_Q_sink_105 rfl hffft'f'
        · have hffff := hfff.2 c39
          refine q_aload_n 42 k_Q_sink_42 rfl ?_
          refine q_getfield 43 k_Q_sink_43 fk_0_11 o0 (v := vR 4 i0) rfl ?_
          refine q_iload_n 46 k_Q_sink_46 rfl ?_
          refine q_iconst 47 k_Q_sink_47 ?_
          refine q_iadd 48 k_Q_sink_48 ?_
          have hb5 := hffff.1
          refine q_iaload 49 k_Q_sink_49 o0 (n := 512) rfl hb5 (z := (M 4 i0 ((wI (x3 + 1)).toNat))) rfl ?_
          have hffff' := hffff.2
          refine q_aload_n 50 k_Q_sink_50 rfl ?_
          refine q_getfield 51 k_Q_sink_51 fk_0_11 o0 (v := vR 4 i0) rfl ?_
          refine q_iload_n 54 k_Q_sink_54 rfl ?_
          have hb6 := hffff'.1
          refine q_iaload 55 k_Q_sink_55 o0 (n := 512) rfl hb6 (z := (M 4 i0 ((wI x3).toNat))) rfl ?_
          have hffff'' := hffff'.2
          refine q_icmp_ge 56 62 k_Q_sink_56 rfl rfl (fun c56 => ?_) (fun c56 => ?_)
          · have hffff''t := hffff''.1 c56
            refine q_aload_n 62 k_Q_sink_62 rfl ?_
            refine q_getfield 63 k_Q_sink_63 fk_0_11 o0 (v := vR 4 i0) rfl ?_
            refine q_iload_n 66 k_Q_sink_66 rfl ?_
            have hb7 := hffff''t.1
            refine q_iaload 67 k_Q_sink_67 o0 (n := 512) rfl hb7 (z := (M 4 i0 ((wI x3).toNat))) rfl ?_
            have hffff''t' := hffff''t.2
            refine q_iload_n 68 k_Q_sink_68 rfl ?_
            refine q_icmp_le 69 75 k_Q_sink_69 rfl rfl (fun c69 => ?_) (fun c69 => ?_)
            · have hffff''t't := hffff''t'.1 c69
              refine q_aload_n 75 k_Q_sink_75 rfl ?_
              refine q_getfield 76 k_Q_sink_76 fk_0_11 o0 (v := vR 4 i0) rfl ?_
              refine q_iload_n 79 k_Q_sink_79 rfl ?_
              refine q_aload_n 80 k_Q_sink_80 rfl ?_
              refine q_getfield 81 k_Q_sink_81 fk_0_11 o0 (v := vR 4 i0) rfl ?_
              refine q_iload_n 84 k_Q_sink_84 rfl ?_
              have hb8 := hffff''t't.1
              refine q_iaload 85 k_Q_sink_85 o0 (n := 512) rfl hb8 (z := (M 4 i0 ((wI x3).toNat))) rfl ?_
              have hffff''t't' := hffff''t't.2
              refine q_iastore 86 k_Q_sink_86 o0 (n := 512) rfl hffff''t't'.1 (Or.inl rfl) ?_
              have hffff''t't'' := hffff''t't'.2
              refine q_iload_n 87 k_Q_sink_87 rfl ?_
              refine q_istore_n 88 k_Q_sink_88 (ls' := [some (vR 0 i0), some (vI x1), some (vI x3), some (vI x3)]) rfl rfl ?_
              refine q_iconst 89 k_Q_sink_89 ?_
              refine q_iload_n 90 k_Q_sink_90 rfl ?_
              refine q_imul 91 k_Q_sink_91 ?_
              refine q_iconst 92 k_Q_sink_92 ?_
              refine q_iadd 93 k_Q_sink_93 ?_
              refine q_istore_n 94 k_Q_sink_94 (ls' := [some (vR 0 i0), some (vI x1), some (vI x3), some (vI ((2 * x3) + 1))]) rfl rfl ?_
              refine q_goto 95 4 k_Q_sink_95 rfl rfl ?_
              exact hffff''t't''
            · have hffff''t'f := hffff''t'.2 c69
              refine q_goto 72 98 k_Q_sink_72 rfl rfl ?_
              refine q_aload_n 98 k_Q_sink_98 rfl ?_
              refine q_getfield 99 k_Q_sink_99 fk_0_11 o0 (v := vR 4 i0) rfl ?_
              refine q_iload_n 102 k_Q_sink_102 rfl ?_
              refine q_iload_n 103 k_Q_sink_103 rfl ?_
              refine q_iastore 104 k_Q_sink_104 o0 (n := 512) rfl hffff''t'f.1 (Or.inl rfl) ?_
              have hffff''t'f' := hffff''t'f.2
              exact q_vret 105 k_Q_sink_105 rfl hffff''t'f'
          · have hffff''f := hffff''.2 c56
            refine q_iinc 59 k_Q_sink_59 (ls' := [some (vR 0 i0), some (vI x1), some (vI x2), some (vI (x3 + 1))]) rfl rfl rfl ?_
            refine q_aload_n 62 k_Q_sink_62 rfl ?_
            refine q_getfield 63 k_Q_sink_63 fk_0_11 o0 (v := vR 4 i0) rfl ?_
            refine q_iload_n 66 k_Q_sink_66 rfl ?_
            have hb9 := hffff''f.1
            refine q_iaload 67 k_Q_sink_67 o0 (n := 512) rfl hb9 (z := (M 4 i0 ((wI (x3 + 1)).toNat))) rfl ?_
            have hffff''f' := hffff''f.2
            refine q_iload_n 68 k_Q_sink_68 rfl ?_
            refine q_icmp_le 69 75 k_Q_sink_69 rfl rfl (fun c69 => ?_) (fun c69 => ?_)
            · have hffff''f't := hffff''f'.1 c69
              refine q_aload_n 75 k_Q_sink_75 rfl ?_
              refine q_getfield 76 k_Q_sink_76 fk_0_11 o0 (v := vR 4 i0) rfl ?_
              refine q_iload_n 79 k_Q_sink_79 rfl ?_
              refine q_aload_n 80 k_Q_sink_80 rfl ?_
              refine q_getfield 81 k_Q_sink_81 fk_0_11 o0 (v := vR 4 i0) rfl ?_
              refine q_iload_n 84 k_Q_sink_84 rfl ?_
              have hb10 := hffff''f't.1
              refine q_iaload 85 k_Q_sink_85 o0 (n := 512) rfl hb10 (z := (M 4 i0 ((wI (x3 + 1)).toNat))) rfl ?_
              have hffff''f't' := hffff''f't.2
              refine q_iastore 86 k_Q_sink_86 o0 (n := 512) rfl hffff''f't'.1 (Or.inl rfl) ?_
              have hffff''f't'' := hffff''f't'.2
              refine q_iload_n 87 k_Q_sink_87 rfl ?_
              refine q_istore_n 88 k_Q_sink_88 (ls' := [some (vR 0 i0), some (vI x1), some (vI (x3 + 1)), some (vI (x3 + 1))]) rfl rfl ?_
              refine q_iconst 89 k_Q_sink_89 ?_
              refine q_iload_n 90 k_Q_sink_90 rfl ?_
              refine q_imul 91 k_Q_sink_91 ?_
              refine q_iconst 92 k_Q_sink_92 ?_
              refine q_iadd 93 k_Q_sink_93 ?_
              refine q_istore_n 94 k_Q_sink_94 (ls' := [some (vR 0 i0), some (vI x1), some (vI (x3 + 1)), some (vI ((2 * (x3 + 1)) + 1))]) rfl rfl ?_
              refine q_goto 95 4 k_Q_sink_95 rfl rfl ?_
              exact hffff''f't''
            · have hffff''f'f := hffff''f'.2 c69
              refine q_goto 72 98 k_Q_sink_72 rfl rfl ?_
              refine q_aload_n 98 k_Q_sink_98 rfl ?_
              refine q_getfield 99 k_Q_sink_99 fk_0_11 o0 (v := vR 4 i0) rfl ?_
              refine q_iload_n 102 k_Q_sink_102 rfl ?_
              refine q_iload_n 103 k_Q_sink_103 rfl ?_
              refine q_iastore 104 k_Q_sink_104 o0 (n := 512) rfl hffff''f'f.1 (Or.inl rfl) ?_
              have hffff''f'f' := hffff''f'f.2
              exact q_vret 105 k_Q_sink_105 rfl hffff''f'f'
theorem k_Q_turnOver_0 : decode (mtC m_Q_turnOver) 0 = .ok (.aload_n 0, 1) := by decide +kernel
theorem k_Q_turnOver_1 : decode (mtC m_Q_turnOver) 1 = .ok (.getfield 15, 3) := by decide +kernel
theorem k_Q_turnOver_4 : decode (mtC m_Q_turnOver) 4 = .ok (.istore_n 1, 1) := by decide +kernel
theorem k_Q_turnOver_5 : decode (mtC m_Q_turnOver) 5 = .ok (.iload_n 1, 1) := by decide +kernel
theorem k_Q_turnOver_6 : decode (mtC m_Q_turnOver) 6 = .ok (.iconst 1, 1) := by decide +kernel
theorem k_Q_turnOver_7 : decode (mtC m_Q_turnOver) 7 = .ok (.isub, 1) := by decide +kernel
theorem k_Q_turnOver_8 : decode (mtC m_Q_turnOver) 8 = .ok (.istore_n 2, 1) := by decide +kernel
theorem k_Q_turnOver_9 : decode (mtC m_Q_turnOver) 9 = .ok (.iload_n 2, 1) := by decide +kernel
theorem k_Q_turnOver_10 : decode (mtC m_Q_turnOver) 10 = .ok (.ifCond .lt 28, 3) := by decide +kernel
theorem k_Q_turnOver_13 : decode (mtC m_Q_turnOver) 13 = .ok (.iload_n 2, 1) := by decide +kernel
theorem k_Q_turnOver_14 : decode (mtC m_Q_turnOver) 14 = .ok (.aload_n 0, 1) := by decide +kernel
theorem k_Q_turnOver_15 : decode (mtC m_Q_turnOver) 15 = .ok (.getfield 11, 3) := by decide +kernel
theorem k_Q_turnOver_18 : decode (mtC m_Q_turnOver) 18 = .ok (.arraylength, 1) := by decide +kernel
theorem k_Q_turnOver_19 : decode (mtC m_Q_turnOver) 19 = .ok (.if_icmp .ge 19, 3) := by decide +kernel
theorem k_Q_turnOver_22 : decode (mtC m_Q_turnOver) 22 = .ok (.aload_n 0, 1) := by decide +kernel
theorem k_Q_turnOver_23 : decode (mtC m_Q_turnOver) 23 = .ok (.getfield 11, 3) := by decide +kernel
theorem k_Q_turnOver_26 : decode (mtC m_Q_turnOver) 26 = .ok (.iload_n 2, 1) := by decide +kernel
theorem k_Q_turnOver_27 : decode (mtC m_Q_turnOver) 27 = .ok (.aload_n 0, 1) := by decide +kernel
theorem k_Q_turnOver_28 : decode (mtC m_Q_turnOver) 28 = .ok (.invokevirtual 27, 3) := by decide +kernel
theorem k_Q_turnOver_31 : decode (mtC m_Q_turnOver) 31 = .ok (.iastore, 1) := by decide +kernel
theorem k_Q_turnOver_32 : decode (mtC m_Q_turnOver) 32 = .ok (.iinc 2 (-1), 3) := by decide +kernel
theorem k_Q_turnOver_35 : decode (mtC m_Q_turnOver) 35 = .ok (.goto (-26), 3) := by decide +kernel
theorem k_Q_turnOver_38 : decode (mtC m_Q_turnOver) 38 = .ok (.aload_n 0, 1) := by decide +kernel
theorem k_Q_turnOver_39 : decode (mtC m_Q_turnOver) 39 = .ok (.iload_n 1, 1) := by decide +kernel
theorem k_Q_turnOver_40 : decode (mtC m_Q_turnOver) 40 = .ok (.iconst (-1), 1) := by decide +kernel
theorem k_Q_turnOver_41 : decode (mtC m_Q_turnOver) 41 = .ok (.invokevirtual 31, 3) := by decide +kernel
theorem k_Q_turnOver_44 : decode (mtC m_Q_turnOver) 44 = .ok (.return_, 1) := by decide +kernel
set_option maxHeartbeats 4000000 in
set_option maxRecDepth 100000 in
theorem T_Q_turnOver_0 {d : Nat} {i0 : Nat} {M : AMem} {Q : Option AV → AMem → Prop} (o0 : okH 0 i0 = true) (h : RunQ (d + 1) m_Q_turnOver 9 [some (vR 0 i0), some (vI (M 0 i0 1)), some (vI ((M 0 i0 1) - 1))] [] M Q) : RunQ (d + 1) m_Q_turnOver 0 [some (vR 0 i0), none, none] [] M Q := by
  refine q_aload_n 0 k_Q_turnOver_0 rfl ?_
  refine q_getfield 1 k_Q_turnOver_1 fk_0_15 o0 (v := vI (M 0 i0 1)) rfl ?_
  refine q_istore_n 4 k_Q_turnOver_4 (ls' := [some (vR 0 i0), some (vI (M 0 i0 1)), none]) rfl rfl ?_
  refine q_iload_n 5 k_Q_turnOver_5 rfl ?_
  refine q_iconst 6 k_Q_turnOver_6 ?_
  refine q_isub 7 k_Q_turnOver_7 ?_
  refine q_istore_n 8 k_Q_turnOver_8 (ls' := [some (vR 0 i0), some (vI (M 0 i0 1)), some (vI ((M 0 i0 1) - 1))]) rfl rfl ?_
  exact h
set_option maxHeartbeats 4000000 in
set_option maxRecDepth 100000 in
theorem T_Q_turnOver_9 {d : Nat} {i0 : Nat} {x1 : Int} {x2 : Int} {M : AMem} {Q : Option AV → AMem → Prop} (o0 : okH 0 i0 = true) (h : ((wI x2 < 0) → CallV d m_Q_refill [vR 0 i0, vI x1, vI (-1)] M (fun M1 => Q none M1)) ∧ (¬ (wI x2 < 0) → ((512 ≤ wI x2) → CallV d m_Q_refill [vR 0 i0, vI x1, vI (-1)] M (fun M3 => Q none M3)) ∧ (¬ (512 ≤ wI x2) → CallI d m_Q_pop [vR 0 i0] M (fun y6 M5 => (0 ≤ wI x2 ∧ wI x2 < (512 : Nat)) ∧ (RunQ (d + 1) m_Q_turnOver 9 [some (vR 0 i0), some (vI x1), some (vI (x2 + (-1)))] [] (aup M5 4 i0 ((wI x2).toNat) y6) Q))))) : RunQ (d + 1) m_Q_turnOver 9 [some (vR 0 i0), some (vI x1), some (vI x2)] [] M Q := by
  refine q_iload_n 9 k_Q_turnOver_9 rfl ?_
  refine q_if_lt 10 38 k_Q_turnOver_10 rfl rfl (fun c10 => ?_) (fun c10 => ?_)
  · have ht := h.1 c10
    refine q_aload_n 38 k_Q_turnOver_38 rfl ?_
    refine q_iload_n 39 k_Q_turnOver_39 rfl ?_
    refine q_iconst 40 k_Q_turnOver_40 ?_
    refine q_vV 41 [vI x1, vI (-1)] [] k_Q_turnOver_41 lk_0_31 rfl rfl rfl o0 rfl rfl rfl rfl (CallV.mono (fun M1 h7 => ?_) ht)
    exact q_vret 44 k_Q_turnOver_44 rfl h7
  · have hf := h.2 c10
    refine q_iload_n 13 k_Q_turnOver_13 rfl ?_
    refine q_aload_n 14 k_Q_turnOver_14 rfl ?_
    refine q_getfield 15 k_Q_turnOver_15 fk_0_11 o0 (v := vR 4 i0) rfl ?_
    refine q_alen 18 k_Q_turnOver_18 o0 rfl (z := 512) rfl ?_
    refine q_icmp_ge 19 38 k_Q_turnOver_19 rfl rfl (fun c19 => ?_) (fun c19 => ?_)
    · have hft := hf.1 c19
      refine q_aload_n 38 k_Q_turnOver_38 rfl ?_
      refine q_iload_n 39 k_Q_turnOver_39 rfl ?_
      refine q_iconst 40 k_Q_turnOver_40 ?_
      refine q_vV 41 [vI x1, vI (-1)] [] k_Q_turnOver_41 lk_0_31 rfl rfl rfl o0 rfl rfl rfl rfl (CallV.mono (fun M3 h8 => ?_) hft)
      exact q_vret 44 k_Q_turnOver_44 rfl h8
    · have hff := hf.2 c19
      refine q_aload_n 22 k_Q_turnOver_22 rfl ?_
      refine q_getfield 23 k_Q_turnOver_23 fk_0_11 o0 (v := vR 4 i0) rfl ?_
      refine q_iload_n 26 k_Q_turnOver_26 rfl ?_
      refine q_aload_n 27 k_Q_turnOver_27 rfl ?_
      refine q_vI 28 [] [vI x2, vR 4 i0] k_Q_turnOver_28 lk_0_27 rfl rfl rfl o0 rfl rfl rfl rfl (CallI.mono (fun y6 M5 h9 => ?_) hff)
      refine q_iastore 31 k_Q_turnOver_31 o0 (n := 512) rfl h9.1 (Or.inl rfl) ?_
      have h9' := h9.2
      refine q_iinc 32 k_Q_turnOver_32 (ls' := [some (vR 0 i0), some (vI x1), some (vI (x2 + (-1)))]) rfl rfl rfl ?_
      refine q_goto 35 9 k_Q_turnOver_35 rfl rfl ?_
      exact h9'
theorem k_Q_remove_0 : decode (mtC m_Q_remove) 0 = .ok (.aload_n 0, 1) := by decide +kernel
theorem k_Q_remove_1 : decode (mtC m_Q_remove) 1 = .ok (.aload_n 0, 1) := by decide +kernel
theorem k_Q_remove_2 : decode (mtC m_Q_remove) 2 = .ok (.getfield 15, 3) := by decide +kernel
theorem k_Q_remove_5 : decode (mtC m_Q_remove) 5 = .ok (.iload_n 1, 1) := by decide +kernel
theorem k_Q_remove_6 : decode (mtC m_Q_remove) 6 = .ok (.invokevirtual 31, 3) := by decide +kernel
theorem k_Q_remove_9 : decode (mtC m_Q_remove) 9 = .ok (.return_, 1) := by decide +kernel
set_option maxHeartbeats 4000000 in
set_option maxRecDepth 100000 in
theorem T_Q_remove_0 {d : Nat} {i0 : Nat} {x1 : Int} {M : AMem} {Q : Option AV → AMem → Prop} (o0 : okH 0 i0 = true) (h : CallV d m_Q_refill [vR 0 i0, vI (M 0 i0 1), vI x1] M (fun M1 => Q none M1)) : RunQ (d + 1) m_Q_remove 0 [some (vR 0 i0), some (vI x1)] [] M Q := by
  refine q_aload_n 0 k_Q_remove_0 rfl ?_
  refine q_aload_n 1 k_Q_remove_1 rfl ?_
  refine q_getfield 2 k_Q_remove_2 fk_0_15 o0 (v := vI (M 0 i0 1)) rfl ?_
  refine q_iload_n 5 k_Q_remove_5 rfl ?_
  refine q_vV 6 [vI (M 0 i0 1), vI x1] [] k_Q_remove_6 lk_0_31 rfl rfl rfl o0 rfl rfl rfl rfl (CallV.mono (fun M1 h3 => ?_) h)
  exact q_vret 9 k_Q_remove_9 rfl h3
theorem k_Q_refill_0 : decode (mtC m_Q_refill) 0 = .ok (.aload_n 0, 1) := by decide +kernel
theorem k_Q_refill_1 : decode (mtC m_Q_refill) 1 = .ok (.iconst 0, 1) := by decide +kernel
theorem k_Q_refill_2 : decode (mtC m_Q_refill) 2 = .ok (.putfield 15, 3) := by decide +kernel
theorem k_Q_refill_5 : decode (mtC m_Q_refill) 5 = .ok (.iconst 0, 1) := by decide +kernel
theorem k_Q_refill_6 : decode (mtC m_Q_refill) 6 = .ok (.istore_n 3, 1) := by decide +kernel
theorem k_Q_refill_7 : decode (mtC m_Q_refill) 7 = .ok (.iload_n 3, 1) := by decide +kernel
theorem k_Q_refill_8 : decode (mtC m_Q_refill) 8 = .ok (.iload_n 1, 1) := by decide +kernel
theorem k_Q_refill_9 : decode (mtC m_Q_refill) 9 = .ok (.if_icmp .ge 41, 3) := by decide +kernel
theorem k_Q_refill_12 : decode (mtC m_Q_refill) 12 = .ok (.iload_n 3, 1) := by decide +kernel
theorem k_Q_refill_13 : decode (mtC m_Q_refill) 13 = .ok (.aload_n 0, 1) := by decide +kernel
theorem k_Q_refill_14 : decode (mtC m_Q_refill) 14 = .ok (.getfield 11, 3) := by decide +kernel
theorem k_Q_refill_17 : decode (mtC m_Q_refill) 17 = .ok (.arraylength, 1) := by decide +kernel
theorem k_Q_refill_18 : decode (mtC m_Q_refill) 18 = .ok (.if_icmp .ge 32, 3) := by decide +kernel
theorem k_Q_refill_21 : decode (mtC m_Q_refill) 21 = .ok (.aload_n 0, 1) := by decide +kernel
theorem k_Q_refill_22 : decode (mtC m_Q_refill) 22 = .ok (.getfield 11, 3) := by decide +kernel
theorem k_Q_refill_25 : decode (mtC m_Q_refill) 25 = .ok (.iload_n 3, 1) := by decide +kernel
theorem k_Q_refill_26 : decode (mtC m_Q_refill) 26 = .ok (.iaload, 1) := by decide +kernel
theorem k_Q_refill_27 : decode (mtC m_Q_refill) 27 = .ok (.istore 4, 2) := by decide +kernel
theorem k_Q_refill_29 : decode (mtC m_Q_refill) 29 = .ok (.iload 4, 2) := by decide +kernel
theorem k_Q_refill_31 : decode (mtC m_Q_refill) 31 = .ok (.invokestatic 35, 3) := by decide +kernel
theorem k_Q_refill_34 : decode (mtC m_Q_refill) 34 = .ok (.iload_n 2, 1) := by decide +kernel
theorem k_Q_refill_35 : decode (mtC m_Q_refill) 35 = .ok (.if_icmp .eq 9, 3) := by decide +kernel
theorem k_Q_refill_38 : decode (mtC m_Q_refill) 38 = .ok (.aload_n 0, 1) := by decide +kernel
theorem k_Q_refill_39 : decode (mtC m_Q_refill) 39 = .ok (.iload 4, 2) := by decide +kernel
theorem k_Q_refill_41 : decode (mtC m_Q_refill) 41 = .ok (.invokevirtual 38, 3) := by decide +kernel
theorem k_Q_refill_44 : decode (mtC m_Q_refill) 44 = .ok (.iinc 3 1, 3) := by decide +kernel
theorem k_Q_refill_47 : decode (mtC m_Q_refill) 47 = .ok (.goto (-40), 3) := by decide +kernel
theorem k_Q_refill_50 : decode (mtC m_Q_refill) 50 = .ok (.return_, 1) := by decide +kernel
set_option maxHeartbeats 4000000 in
set_option maxRecDepth 100000 in
theorem T_Q_refill_0 {d : Nat} {i0 : Nat} {x1 : Int} {x2 : Int} {M : AMem} {Q : Option AV → AMem → Prop} (o0 : okH 0 i0 = true) (h : RunQ (d + 1) m_Q_refill 7 [some (vR 0 i0), some (vI x1), some (vI x2), some (vI 0), none] [] (aup M 0 i0 1 0) Q) : RunQ (d + 1) m_Q_refill 0 [some (vR 0 i0), some (vI x1), some (vI x2), none, none] [] M Q := by
  refine q_aload_n 0 k_Q_refill_0 rfl ?_
  refine q_iconst 1 k_Q_refill_1 ?_
  refine q_putfield 2 k_Q_refill_2 fk_0_15 o0 rfl (fun z => absurd z (by decide)) ?_
  refine q_iconst 5 k_Q_refill_5 ?_
  refine q_istore_n 6 k_Q_refill_6 (ls' := [some (vR 0 i0), some (vI x1), some (vI x2), some (vI 0), none]) rfl rfl ?_
  exact h
set_option maxHeartbeats 4000000 in
set_option maxRecDepth 100000 in
theorem T_Q_refill_7 {d : Nat} {i0 : Nat} {x1 : Int} {x2 : Int} {x3 : Int} {u4 : Option AV} {M : AMem} {Q : Option AV → AMem → Prop} (o0 : okH 0 i0 = true) (h : ((wI x1 ≤ wI x3) → Q none M) ∧ (¬ (wI x1 ≤ wI x3) → ((512 ≤ wI x3) → Q none M) ∧ (¬ (512 ≤ wI x3) → (0 ≤ wI x3 ∧ wI x3 < (512 : Nat)) ∧ (CallI d m_Q_tagOf [vI (M 4 i0 ((wI x3).toNat))] M (fun y3 M2 => ((wI y3 = wI x2) → RunQ (d + 1) m_Q_refill 7 [some (vR 0 i0), some (vI x1), some (vI x2), some (vI (x3 + 1)), some (vI (M 4 i0 ((wI x3).toNat)))] [] M2 Q) ∧ (¬ (wI y3 = wI x2) → CallV d m_Q_push [vR 0 i0, vI (M 4 i0 ((wI x3).toNat))] M2 (fun M4 => RunQ (d + 1) m_Q_refill 7 [some (vR 0 i0), some (vI x1), some (vI x2), some (vI (x3 + 1)), some (vI (M 4 i0 ((wI x3).toNat)))] [] M4 Q))))))) : RunQ (d + 1) m_Q_refill 7 [some (vR 0 i0), some (vI x1), some (vI x2), some (vI x3), u4] [] M Q := by
  refine q_iload_n 7 k_Q_refill_7 rfl ?_
  refine q_iload_n 8 k_Q_refill_8 rfl ?_
  refine q_icmp_ge 9 50 k_Q_refill_9 rfl rfl (fun c9 => ?_) (fun c9 => ?_)
  · have ht := h.1 c9
    exact q_vret 50 k_Q_refill_50 rfl ht
  · have hf := h.2 c9
    refine q_iload_n 12 k_Q_refill_12 rfl ?_
    refine q_aload_n 13 k_Q_refill_13 rfl ?_
    refine q_getfield 14 k_Q_refill_14 fk_0_11 o0 (v := vR 4 i0) rfl ?_
    refine q_alen 17 k_Q_refill_17 o0 rfl (z := 512) rfl ?_
    refine q_icmp_ge 18 50 k_Q_refill_18 rfl rfl (fun c18 => ?_) (fun c18 => ?_)
    · have hft := hf.1 c18
      exact q_vret 50 k_Q_refill_50 rfl hft
    · have hff := hf.2 c18
      refine q_aload_n 21 k_Q_refill_21 rfl ?_
      refine q_getfield 22 k_Q_refill_22 fk_0_11 o0 (v := vR 4 i0) rfl ?_
      refine q_iload_n 25 k_Q_refill_25 rfl ?_
      have hb1 := hff.1
      refine q_iaload 26 k_Q_refill_26 o0 (n := 512) rfl hb1 (z := (M 4 i0 ((wI x3).toNat))) rfl ?_
      have hff' := hff.2
      refine q_istore 27 k_Q_refill_27 (ls' := [some (vR 0 i0), some (vI x1), some (vI x2), some (vI x3), some (vI (M 4 i0 ((wI x3).toNat)))]) rfl rfl ?_
      refine q_iload 29 k_Q_refill_29 rfl ?_
      refine q_sI 31 [vI (M 4 i0 ((wI x3).toNat))] [] k_Q_refill_31 rfl lk_0_35 rfl rfl rfl rfl rfl rfl (CallI.mono (fun y3 M2 h6 => ?_) hff')
      refine q_iload_n 34 k_Q_refill_34 rfl ?_
      refine q_icmp_eq 35 44 k_Q_refill_35 rfl rfl (fun c35 => ?_) (fun c35 => ?_)
      · have h6t := h6.1 c35
        refine q_iinc 44 k_Q_refill_44 (ls' := [some (vR 0 i0), some (vI x1), some (vI x2), some (vI (x3 + 1)), some (vI (M 4 i0 ((wI x3).toNat)))]) rfl rfl rfl ?_
        refine q_goto 47 7 k_Q_refill_47 rfl rfl ?_
        exact h6t
      · have h6f := h6.2 c35
        refine q_aload_n 38 k_Q_refill_38 rfl ?_
        refine q_iload 39 k_Q_refill_39 rfl ?_
        refine q_vV 41 [vI (M 4 i0 ((wI x3).toNat))] [] k_Q_refill_41 lk_0_38 rfl rfl rfl o0 rfl rfl rfl rfl (CallV.mono (fun M4 h7 => ?_) h6f)
        refine q_iinc 44 k_Q_refill_44 (ls' := [some (vR 0 i0), some (vI x1), some (vI x2), some (vI (x3 + 1)), some (vI (M 4 i0 ((wI x3).toNat)))]) rfl rfl rfl ?_
        refine q_goto 47 7 k_Q_refill_47 rfl rfl ?_
        exact h7
theorem k_Q_holds_0 : decode (mtC m_Q_holds) 0 = .ok (.iconst 0, 1) := by decide +kernel
theorem k_Q_holds_1 : decode (mtC m_Q_holds) 1 = .ok (.istore_n 2, 1) := by decide +kernel
theorem k_Q_holds_2 : decode (mtC m_Q_holds) 2 = .ok (.iload_n 2, 1) := by decide +kernel
theorem k_Q_holds_3 : decode (mtC m_Q_holds) 3 = .ok (.aload_n 0, 1) := by decide +kernel
theorem k_Q_holds_4 : decode (mtC m_Q_holds) 4 = .ok (.getfield 15, 3) := by decide +kernel
theorem k_Q_holds_7 : decode (mtC m_Q_holds) 7 = .ok (.if_icmp .ge 33, 3) := by decide +kernel
theorem k_Q_holds_10 : decode (mtC m_Q_holds) 10 = .ok (.iload_n 2, 1) := by decide +kernel
theorem k_Q_holds_11 : decode (mtC m_Q_holds) 11 = .ok (.aload_n 0, 1) := by decide +kernel
theorem k_Q_holds_12 : decode (mtC m_Q_holds) 12 = .ok (.getfield 11, 3) := by decide +kernel
theorem k_Q_holds_15 : decode (mtC m_Q_holds) 15 = .ok (.arraylength, 1) := by decide +kernel
theorem k_Q_holds_16 : decode (mtC m_Q_holds) 16 = .ok (.if_icmp .ge 24, 3) := by decide +kernel
theorem k_Q_holds_19 : decode (mtC m_Q_holds) 19 = .ok (.aload_n 0, 1) := by decide +kernel
theorem k_Q_holds_20 : decode (mtC m_Q_holds) 20 = .ok (.getfield 11, 3) := by decide +kernel
theorem k_Q_holds_23 : decode (mtC m_Q_holds) 23 = .ok (.iload_n 2, 1) := by decide +kernel
theorem k_Q_holds_24 : decode (mtC m_Q_holds) 24 = .ok (.iaload, 1) := by decide +kernel
theorem k_Q_holds_25 : decode (mtC m_Q_holds) 25 = .ok (.invokestatic 35, 3) := by decide +kernel
theorem k_Q_holds_28 : decode (mtC m_Q_holds) 28 = .ok (.iload_n 1, 1) := by decide +kernel
theorem k_Q_holds_29 : decode (mtC m_Q_holds) 29 = .ok (.if_icmp .ne 5, 3) := by decide +kernel
theorem k_Q_holds_32 : decode (mtC m_Q_holds) 32 = .ok (.iconst 1, 1) := by decide +kernel
theorem k_Q_holds_33 : decode (mtC m_Q_holds) 33 = .ok (.ireturn, 1) := by decide +kernel
theorem k_Q_holds_34 : decode (mtC m_Q_holds) 34 = .ok (.iinc 2 1, 3) := by decide +kernel
theorem k_Q_holds_37 : decode (mtC m_Q_holds) 37 = .ok (.goto (-35), 3) := by decide +kernel
theorem k_Q_holds_40 : decode (mtC m_Q_holds) 40 = .ok (.iconst 0, 1) := by decide +kernel
theorem k_Q_holds_41 : decode (mtC m_Q_holds) 41 = .ok (.ireturn, 1) := by decide +kernel
set_option maxHeartbeats 4000000 in
set_option maxRecDepth 100000 in
theorem T_Q_holds_0 {d : Nat} {i0 : Nat} {x1 : Int} {M : AMem} {Q : Option AV → AMem → Prop} (o0 : okH 0 i0 = true) (h : RunQ (d + 1) m_Q_holds 2 [some (vR 0 i0), some (vI x1), some (vI 0)] [] M Q) : RunQ (d + 1) m_Q_holds 0 [some (vR 0 i0), some (vI x1), none] [] M Q := by
  refine q_iconst 0 k_Q_holds_0 ?_
  refine q_istore_n 1 k_Q_holds_1 (ls' := [some (vR 0 i0), some (vI x1), some (vI 0)]) rfl rfl ?_
  exact h
set_option maxHeartbeats 4000000 in
set_option maxRecDepth 100000 in
theorem T_Q_holds_2 {d : Nat} {i0 : Nat} {x1 : Int} {x2 : Int} {M : AMem} {Q : Option AV → AMem → Prop} (o0 : okH 0 i0 = true) (h : ((wI (M 0 i0 1) ≤ wI x2) → Q (some (vI 0)) M) ∧ (¬ (wI (M 0 i0 1) ≤ wI x2) → ((512 ≤ wI x2) → Q (some (vI 0)) M) ∧ (¬ (512 ≤ wI x2) → (0 ≤ wI x2 ∧ wI x2 < (512 : Nat)) ∧ (CallI d m_Q_tagOf [vI (M 4 i0 ((wI x2).toNat))] M (fun y3 M2 => ((¬ wI y3 = wI x1) → RunQ (d + 1) m_Q_holds 2 [some (vR 0 i0), some (vI x1), some (vI (x2 + 1))] [] M2 Q) ∧ (¬ (¬ wI y3 = wI x1) → Q (some (vI 1)) M2)))))) : RunQ (d + 1) m_Q_holds 2 [some (vR 0 i0), some (vI x1), some (vI x2)] [] M Q := by
  refine q_iload_n 2 k_Q_holds_2 rfl ?_
  refine q_aload_n 3 k_Q_holds_3 rfl ?_
  refine q_getfield 4 k_Q_holds_4 fk_0_15 o0 (v := vI (M 0 i0 1)) rfl ?_
  refine q_icmp_ge 7 40 k_Q_holds_7 rfl rfl (fun c7 => ?_) (fun c7 => ?_)
  · have ht := h.1 c7
    refine q_iconst 40 k_Q_holds_40 ?_
    exact q_zret 41 k_Q_holds_41 rfl (Or.inl rfl) ht
  · have hf := h.2 c7
    refine q_iload_n 10 k_Q_holds_10 rfl ?_
    refine q_aload_n 11 k_Q_holds_11 rfl ?_
    refine q_getfield 12 k_Q_holds_12 fk_0_11 o0 (v := vR 4 i0) rfl ?_
    refine q_alen 15 k_Q_holds_15 o0 rfl (z := 512) rfl ?_
    refine q_icmp_ge 16 40 k_Q_holds_16 rfl rfl (fun c16 => ?_) (fun c16 => ?_)
    · have hft := hf.1 c16
      refine q_iconst 40 k_Q_holds_40 ?_
      exact q_zret 41 k_Q_holds_41 rfl (Or.inl rfl) hft
    · have hff := hf.2 c16
      refine q_aload_n 19 k_Q_holds_19 rfl ?_
      refine q_getfield 20 k_Q_holds_20 fk_0_11 o0 (v := vR 4 i0) rfl ?_
      refine q_iload_n 23 k_Q_holds_23 rfl ?_
      have hb1 := hff.1
      refine q_iaload 24 k_Q_holds_24 o0 (n := 512) rfl hb1 (z := (M 4 i0 ((wI x2).toNat))) rfl ?_
      have hff' := hff.2
      refine q_sI 25 [vI (M 4 i0 ((wI x2).toNat))] [] k_Q_holds_25 rfl lk_0_35 rfl rfl rfl rfl rfl rfl (CallI.mono (fun y3 M2 h4 => ?_) hff')
      refine q_iload_n 28 k_Q_holds_28 rfl ?_
      refine q_icmp_ne 29 34 k_Q_holds_29 rfl rfl (fun c29 => ?_) (fun c29 => ?_)
      · have h4t := h4.1 c29
        refine q_iinc 34 k_Q_holds_34 (ls' := [some (vR 0 i0), some (vI x1), some (vI (x2 + 1))]) rfl rfl rfl ?_
        refine q_goto 37 2 k_Q_holds_37 rfl rfl ?_
        exact h4t
      · have h4f := h4.2 c29
        refine q_iconst 32 k_Q_holds_32 ?_
        exact q_zret 33 k_Q_holds_33 rfl (Or.inr rfl) h4f
theorem k_Q_countUpTo_0 : decode (mtC m_Q_countUpTo) 0 = .ok (.iconst 0, 1) := by decide +kernel
theorem k_Q_countUpTo_1 : decode (mtC m_Q_countUpTo) 1 = .ok (.istore_n 2, 1) := by decide +kernel
theorem k_Q_countUpTo_2 : decode (mtC m_Q_countUpTo) 2 = .ok (.iconst 0, 1) := by decide +kernel
theorem k_Q_countUpTo_3 : decode (mtC m_Q_countUpTo) 3 = .ok (.istore_n 3, 1) := by decide +kernel
theorem k_Q_countUpTo_4 : decode (mtC m_Q_countUpTo) 4 = .ok (.iload_n 3, 1) := by decide +kernel
theorem k_Q_countUpTo_5 : decode (mtC m_Q_countUpTo) 5 = .ok (.aload_n 0, 1) := by decide +kernel
theorem k_Q_countUpTo_6 : decode (mtC m_Q_countUpTo) 6 = .ok (.getfield 15, 3) := by decide +kernel
theorem k_Q_countUpTo_9 : decode (mtC m_Q_countUpTo) 9 = .ok (.if_icmp .ge 34, 3) := by decide +kernel
theorem k_Q_countUpTo_12 : decode (mtC m_Q_countUpTo) 12 = .ok (.iload_n 3, 1) := by decide +kernel
theorem k_Q_countUpTo_13 : decode (mtC m_Q_countUpTo) 13 = .ok (.aload_n 0, 1) := by decide +kernel
theorem k_Q_countUpTo_14 : decode (mtC m_Q_countUpTo) 14 = .ok (.getfield 11, 3) := by decide +kernel
theorem k_Q_countUpTo_17 : decode (mtC m_Q_countUpTo) 17 = .ok (.arraylength, 1) := by decide +kernel
theorem k_Q_countUpTo_18 : decode (mtC m_Q_countUpTo) 18 = .ok (.if_icmp .ge 25, 3) := by decide +kernel
theorem k_Q_countUpTo_21 : decode (mtC m_Q_countUpTo) 21 = .ok (.aload_n 0, 1) := by decide +kernel
theorem k_Q_countUpTo_22 : decode (mtC m_Q_countUpTo) 22 = .ok (.getfield 11, 3) := by decide +kernel
theorem k_Q_countUpTo_25 : decode (mtC m_Q_countUpTo) 25 = .ok (.iload_n 3, 1) := by decide +kernel
theorem k_Q_countUpTo_26 : decode (mtC m_Q_countUpTo) 26 = .ok (.iaload, 1) := by decide +kernel
theorem k_Q_countUpTo_27 : decode (mtC m_Q_countUpTo) 27 = .ok (.invokestatic 19, 3) := by decide +kernel
theorem k_Q_countUpTo_30 : decode (mtC m_Q_countUpTo) 30 = .ok (.iload_n 1, 1) := by decide +kernel
theorem k_Q_countUpTo_31 : decode (mtC m_Q_countUpTo) 31 = .ok (.if_icmp .gt 6, 3) := by decide +kernel
theorem k_Q_countUpTo_34 : decode (mtC m_Q_countUpTo) 34 = .ok (.iinc 2 1, 3) := by decide +kernel
theorem k_Q_countUpTo_37 : decode (mtC m_Q_countUpTo) 37 = .ok (.iinc 3 1, 3) := by decide +kernel
theorem k_Q_countUpTo_40 : decode (mtC m_Q_countUpTo) 40 = .ok (.goto (-36), 3) := by decide +kernel
theorem k_Q_countUpTo_43 : decode (mtC m_Q_countUpTo) 43 = .ok (.iload_n 2, 1) := by decide +kernel
theorem k_Q_countUpTo_44 : decode (mtC m_Q_countUpTo) 44 = .ok (.ireturn, 1) := by decide +kernel
set_option maxHeartbeats 4000000 in
set_option maxRecDepth 100000 in
theorem T_Q_countUpTo_0 {d : Nat} {i0 : Nat} {x1 : Int} {M : AMem} {Q : Option AV → AMem → Prop} (o0 : okH 0 i0 = true) (h : RunQ (d + 1) m_Q_countUpTo 4 [some (vR 0 i0), some (vI x1), some (vI 0), some (vI 0)] [] M Q) : RunQ (d + 1) m_Q_countUpTo 0 [some (vR 0 i0), some (vI x1), none, none] [] M Q := by
  refine q_iconst 0 k_Q_countUpTo_0 ?_
  refine q_istore_n 1 k_Q_countUpTo_1 (ls' := [some (vR 0 i0), some (vI x1), some (vI 0), none]) rfl rfl ?_
  refine q_iconst 2 k_Q_countUpTo_2 ?_
  refine q_istore_n 3 k_Q_countUpTo_3 (ls' := [some (vR 0 i0), some (vI x1), some (vI 0), some (vI 0)]) rfl rfl ?_
  exact h
set_option maxHeartbeats 4000000 in
set_option maxRecDepth 100000 in
theorem T_Q_countUpTo_4 {d : Nat} {i0 : Nat} {x1 : Int} {x2 : Int} {x3 : Int} {M : AMem} {Q : Option AV → AMem → Prop} (o0 : okH 0 i0 = true) (h : ((wI (M 0 i0 1) ≤ wI x3) → Q (some (vI x2)) M) ∧ (¬ (wI (M 0 i0 1) ≤ wI x3) → ((512 ≤ wI x3) → Q (some (vI x2)) M) ∧ (¬ (512 ≤ wI x3) → (0 ≤ wI x3 ∧ wI x3 < (512 : Nat)) ∧ (CallI d m_Q_numberOf [vI (M 4 i0 ((wI x3).toNat))] M (fun y3 M2 => ((wI x1 < wI y3) → RunQ (d + 1) m_Q_countUpTo 4 [some (vR 0 i0), some (vI x1), some (vI x2), some (vI (x3 + 1))] [] M2 Q) ∧ (¬ (wI x1 < wI y3) → RunQ (d + 1) m_Q_countUpTo 4 [some (vR 0 i0), some (vI x1), some (vI (x2 + 1)), some (vI (x3 + 1))] [] M2 Q)))))) : RunQ (d + 1) m_Q_countUpTo 4 [some (vR 0 i0), some (vI x1), some (vI x2), some (vI x3)] [] M Q := by
  refine q_iload_n 4 k_Q_countUpTo_4 rfl ?_
  refine q_aload_n 5 k_Q_countUpTo_5 rfl ?_
  refine q_getfield 6 k_Q_countUpTo_6 fk_0_15 o0 (v := vI (M 0 i0 1)) rfl ?_
  refine q_icmp_ge 9 43 k_Q_countUpTo_9 rfl rfl (fun c9 => ?_) (fun c9 => ?_)
  · have ht := h.1 c9
    refine q_iload_n 43 k_Q_countUpTo_43 rfl ?_
    exact q_iret 44 k_Q_countUpTo_44 rfl ht
  · have hf := h.2 c9
    refine q_iload_n 12 k_Q_countUpTo_12 rfl ?_
    refine q_aload_n 13 k_Q_countUpTo_13 rfl ?_
    refine q_getfield 14 k_Q_countUpTo_14 fk_0_11 o0 (v := vR 4 i0) rfl ?_
    refine q_alen 17 k_Q_countUpTo_17 o0 rfl (z := 512) rfl ?_
    refine q_icmp_ge 18 43 k_Q_countUpTo_18 rfl rfl (fun c18 => ?_) (fun c18 => ?_)
    · have hft := hf.1 c18
      refine q_iload_n 43 k_Q_countUpTo_43 rfl ?_
      exact q_iret 44 k_Q_countUpTo_44 rfl hft
    · have hff := hf.2 c18
      refine q_aload_n 21 k_Q_countUpTo_21 rfl ?_
      refine q_getfield 22 k_Q_countUpTo_22 fk_0_11 o0 (v := vR 4 i0) rfl ?_
      refine q_iload_n 25 k_Q_countUpTo_25 rfl ?_
      have hb1 := hff.1
      refine q_iaload 26 k_Q_countUpTo_26 o0 (n := 512) rfl hb1 (z := (M 4 i0 ((wI x3).toNat))) rfl ?_
      have hff' := hff.2
      refine q_sI 27 [vI (M 4 i0 ((wI x3).toNat))] [] k_Q_countUpTo_27 rfl lk_0_19 rfl rfl rfl rfl rfl rfl (CallI.mono (fun y3 M2 h4 => ?_) hff')
      refine q_iload_n 30 k_Q_countUpTo_30 rfl ?_
      refine q_icmp_gt 31 37 k_Q_countUpTo_31 rfl rfl (fun c31 => ?_) (fun c31 => ?_)
      · have h4t := h4.1 c31
        refine q_iinc 37 k_Q_countUpTo_37 (ls' := [some (vR 0 i0), some (vI x1), some (vI x2), some (vI (x3 + 1))]) rfl rfl rfl ?_
        refine q_goto 40 4 k_Q_countUpTo_40 rfl rfl ?_
        exact h4t
      · have h4f := h4.2 c31
        refine q_iinc 34 k_Q_countUpTo_34 (ls' := [some (vR 0 i0), some (vI x1), some (vI (x2 + 1)), some (vI x3)]) rfl rfl rfl ?_
        refine q_iinc 37 k_Q_countUpTo_37 (ls' := [some (vR 0 i0), some (vI x1), some (vI (x2 + 1)), some (vI (x3 + 1))]) rfl rfl rfl ?_
        refine q_goto 40 4 k_Q_countUpTo_40 rfl rfl ?_
        exact h4f
theorem k_Q_become_0 : decode (mtC m_Q_become) 0 = .ok (.aload_n 1, 1) := by decide +kernel
theorem k_Q_become_1 : decode (mtC m_Q_become) 1 = .ok (.getfield 11, 3) := by decide +kernel
theorem k_Q_become_4 : decode (mtC m_Q_become) 4 = .ok (.iconst 0, 1) := by decide +kernel
theorem k_Q_become_5 : decode (mtC m_Q_become) 5 = .ok (.aload_n 0, 1) := by decide +kernel
theorem k_Q_become_6 : decode (mtC m_Q_become) 6 = .ok (.getfield 11, 3) := by decide +kernel
theorem k_Q_become_9 : decode (mtC m_Q_become) 9 = .ok (.iconst 0, 1) := by decide +kernel
theorem k_Q_become_10 : decode (mtC m_Q_become) 10 = .ok (.sipush 512, 3) := by decide +kernel
theorem k_Q_become_13 : decode (mtC m_Q_become) 13 = .ok (.invokestatic 41, 3) := by decide +kernel
theorem k_Q_become_16 : decode (mtC m_Q_become) 16 = .ok (.aload_n 0, 1) := by decide +kernel
theorem k_Q_become_17 : decode (mtC m_Q_become) 17 = .ok (.aload_n 1, 1) := by decide +kernel
theorem k_Q_become_18 : decode (mtC m_Q_become) 18 = .ok (.getfield 15, 3) := by decide +kernel
theorem k_Q_become_21 : decode (mtC m_Q_become) 21 = .ok (.putfield 15, 3) := by decide +kernel
theorem k_Q_become_24 : decode (mtC m_Q_become) 24 = .ok (.return_, 1) := by decide +kernel
set_option maxHeartbeats 4000000 in
set_option maxRecDepth 100000 in
theorem T_Q_become_0 {d : Nat} {i0 : Nat} {i1 : Nat} {M : AMem} {Q : Option AV → AMem → Prop} (o0 : okH 0 i0 = true) (o1 : okH 0 i1 = true) (h : Q none (aup (acopy M 4 i1 i0 512) 0 i0 1 ((acopy M 4 i1 i0 512) 0 i1 1))) : RunQ d m_Q_become 0 [some (vR 0 i0), some (vR 0 i1)] [] M Q := by
  refine q_aload_n 0 k_Q_become_0 rfl ?_
  refine q_getfield 1 k_Q_become_1 fk_0_11 o1 (v := vR 4 i1) rfl ?_
  refine q_iconst 4 k_Q_become_4 ?_
  refine q_aload_n 5 k_Q_become_5 rfl ?_
  refine q_getfield 6 k_Q_become_6 fk_0_11 o0 (v := vR 4 i0) rfl ?_
  refine q_iconst 9 k_Q_become_9 ?_
  refine q_sipush 10 k_Q_become_10 (by decide) ?_
  refine q_copy 13 k_Q_become_13 rfl rfl o0 o1 (Or.inl rfl) ⟨by decide, by simp [alen]⟩ ?_
  refine q_aload_n 16 k_Q_become_16 rfl ?_
  refine q_aload_n 17 k_Q_become_17 rfl ?_
  refine q_getfield 18 k_Q_become_18 fk_0_15 o1 (v := vI ((acopy M 4 i1 i0 512) 0 i1 1)) rfl ?_
  refine q_putfield 21 k_Q_become_21 fk_0_15 o0 rfl (fun z => absurd z (by decide)) ?_
  exact q_vret 24 k_Q_become_24 rfl h
theorem k_R_numberAt_0 : decode (mtC m_R_numberAt) 0 = .ok (.iload_n 1, 1) := by decide +kernel
theorem k_R_numberAt_1 : decode (mtC m_R_numberAt) 1 = .ok (.ifCond .lt 20, 3) := by decide +kernel
theorem k_R_numberAt_4 : decode (mtC m_R_numberAt) 4 = .ok (.iload_n 1, 1) := by decide +kernel
theorem k_R_numberAt_5 : decode (mtC m_R_numberAt) 5 = .ok (.aload_n 0, 1) := by decide +kernel
theorem k_R_numberAt_6 : decode (mtC m_R_numberAt) 6 = .ok (.getfield 15, 3) := by decide +kernel
theorem k_R_numberAt_9 : decode (mtC m_R_numberAt) 9 = .ok (.if_icmp .ge 12, 3) := by decide +kernel
theorem k_R_numberAt_12 : decode (mtC m_R_numberAt) 12 = .ok (.iload_n 1, 1) := by decide +kernel
theorem k_R_numberAt_13 : decode (mtC m_R_numberAt) 13 = .ok (.aload_n 0, 1) := by decide +kernel
theorem k_R_numberAt_14 : decode (mtC m_R_numberAt) 14 = .ok (.getfield 9, 3) := by decide +kernel
theorem k_R_numberAt_17 : decode (mtC m_R_numberAt) 17 = .ok (.arraylength, 1) := by decide +kernel
theorem k_R_numberAt_18 : decode (mtC m_R_numberAt) 18 = .ok (.if_icmp .lt 7, 3) := by decide +kernel
theorem k_R_numberAt_21 : decode (mtC m_R_numberAt) 21 = .ok (.iconst (-1), 1) := by decide +kernel
theorem k_R_numberAt_22 : decode (mtC m_R_numberAt) 22 = .ok (.goto 9, 3) := by decide +kernel
theorem k_R_numberAt_25 : decode (mtC m_R_numberAt) 25 = .ok (.aload_n 0, 1) := by decide +kernel
theorem k_R_numberAt_26 : decode (mtC m_R_numberAt) 26 = .ok (.getfield 9, 3) := by decide +kernel
theorem k_R_numberAt_29 : decode (mtC m_R_numberAt) 29 = .ok (.iload_n 1, 1) := by decide +kernel
theorem k_R_numberAt_30 : decode (mtC m_R_numberAt) 30 = .ok (.iaload, 1) := by decide +kernel
theorem k_R_numberAt_31 : decode (mtC m_R_numberAt) 31 = .ok (.ireturn, 1) := by decide +kernel
set_option maxHeartbeats 4000000 in
set_option maxRecDepth 100000 in
theorem T_R_numberAt_0 {d : Nat} {i0 : Nat} {x1 : Int} {M : AMem} {Q : Option AV → AMem → Prop} (o0 : okH 1 i0 = true) (h : ((wI x1 < 0) → Q (some (vI (-1))) M) ∧ (¬ (wI x1 < 0) → ((wI (M 1 i0 1) ≤ wI x1) → Q (some (vI (-1))) M) ∧ (¬ (wI (M 1 i0 1) ≤ wI x1) → ((wI x1 < 8) → (0 ≤ wI x1 ∧ wI x1 < (8 : Nat)) ∧ (Q (some (vI (M 5 i0 ((wI x1).toNat)))) M)) ∧ (¬ (wI x1 < 8) → Q (some (vI (-1))) M)))) : RunQ d m_R_numberAt 0 [some (vR 1 i0), some (vI x1)] [] M Q := by
  refine q_iload_n 0 k_R_numberAt_0 rfl ?_
  refine q_if_lt 1 21 k_R_numberAt_1 rfl rfl (fun c1 => ?_) (fun c1 => ?_)
  · have ht := h.1 c1
    refine q_iconst 21 k_R_numberAt_21 ?_
    refine q_goto 22 31 k_R_numberAt_22 rfl rfl ?_
    exact q_iret 31 k_R_numberAt_31 rfl ht
  · have hf := h.2 c1
    refine q_iload_n 4 k_R_numberAt_4 rfl ?_
    refine q_aload_n 5 k_R_numberAt_5 rfl ?_
    refine q_getfield 6 k_R_numberAt_6 fk_1_15 o0 (v := vI (M 1 i0 1)) rfl ?_
    refine q_icmp_ge 9 21 k_R_numberAt_9 rfl rfl (fun c9 => ?_) (fun c9 => ?_)
    · have hft := hf.1 c9
      refine q_iconst 21 k_R_numberAt_21 ?_
      refine q_goto 22 31 k_R_numberAt_22 rfl rfl ?_
      exact q_iret 31 k_R_numberAt_31 rfl hft
    · have hff := hf.2 c9
      refine q_iload_n 12 k_R_numberAt_12 rfl ?_
      refine q_aload_n 13 k_R_numberAt_13 rfl ?_
      refine q_getfield 14 k_R_numberAt_14 fk_1_9 o0 (v := vR 5 i0) rfl ?_
      refine q_alen 17 k_R_numberAt_17 o0 rfl (z := 8) rfl ?_
      refine q_icmp_lt 18 25 k_R_numberAt_18 rfl rfl (fun c18 => ?_) (fun c18 => ?_)
      · have hfft := hff.1 c18
        refine q_aload_n 25 k_R_numberAt_25 rfl ?_
        refine q_getfield 26 k_R_numberAt_26 fk_1_9 o0 (v := vR 5 i0) rfl ?_
        refine q_iload_n 29 k_R_numberAt_29 rfl ?_
        have hb1 := hfft.1
        refine q_iaload 30 k_R_numberAt_30 o0 (n := 8) rfl hb1 (z := (M 5 i0 ((wI x1).toNat))) rfl ?_
        have hfft' := hfft.2
        exact q_iret 31 k_R_numberAt_31 rfl hfft'
      · have hfff := hff.2 c18
        refine q_iconst 21 k_R_numberAt_21 ?_
        refine q_goto 22 31 k_R_numberAt_22 rfl rfl ?_
        exact q_iret 31 k_R_numberAt_31 rfl hfff
theorem k_R_append_0 : decode (mtC m_R_append) 0 = .ok (.aload_n 0, 1) := by decide +kernel
theorem k_R_append_1 : decode (mtC m_R_append) 1 = .ok (.getfield 15, 3) := by decide +kernel
theorem k_R_append_4 : decode (mtC m_R_append) 4 = .ok (.ifCond .lt 29, 3) := by decide +kernel
theorem k_R_append_7 : decode (mtC m_R_append) 7 = .ok (.aload_n 0, 1) := by decide +kernel
theorem k_R_append_8 : decode (mtC m_R_append) 8 = .ok (.getfield 15, 3) := by decide +kernel
theorem k_R_append_11 : decode (mtC m_R_append) 11 = .ok (.aload_n 0, 1) := by decide +kernel
theorem k_R_append_12 : decode (mtC m_R_append) 12 = .ok (.getfield 9, 3) := by decide +kernel
theorem k_R_append_15 : decode (mtC m_R_append) 15 = .ok (.arraylength, 1) := by decide +kernel
theorem k_R_append_16 : decode (mtC m_R_append) 16 = .ok (.if_icmp .ge 17, 3) := by decide +kernel
theorem k_R_append_19 : decode (mtC m_R_append) 19 = .ok (.aload_n 0, 1) := by decide +kernel
theorem k_R_append_20 : decode (mtC m_R_append) 20 = .ok (.aload_n 0, 1) := by decide +kernel
theorem k_R_append_21 : decode (mtC m_R_append) 21 = .ok (.getfield 15, 3) := by decide +kernel
theorem k_R_append_24 : decode (mtC m_R_append) 24 = .ok (.iconst 1, 1) := by decide +kernel
theorem k_R_append_25 : decode (mtC m_R_append) 25 = .ok (.isub, 1) := by decide +kernel
theorem k_R_append_26 : decode (mtC m_R_append) 26 = .ok (.invokevirtual 19, 3) := by decide +kernel
theorem k_R_append_29 : decode (mtC m_R_append) 29 = .ok (.iload_n 1, 1) := by decide +kernel
theorem k_R_append_30 : decode (mtC m_R_append) 30 = .ok (.if_icmp .le 5, 3) := by decide +kernel
theorem k_R_append_33 : decode (mtC m_R_append) 33 = .ok (.iconst 0, 1) := by decide +kernel
theorem k_R_append_34 : decode (mtC m_R_append) 34 = .ok (.ireturn, 1) := by decide +kernel
theorem k_R_append_35 : decode (mtC m_R_append) 35 = .ok (.aload_n 0, 1) := by decide +kernel
theorem k_R_append_36 : decode (mtC m_R_append) 36 = .ok (.getfield 9, 3) := by decide +kernel
theorem k_R_append_39 : decode (mtC m_R_append) 39 = .ok (.aload_n 0, 1) := by decide +kernel
theorem k_R_append_40 : decode (mtC m_R_append) 40 = .ok (.getfield 15, 3) := by decide +kernel
theorem k_R_append_43 : decode (mtC m_R_append) 43 = .ok (.iload_n 1, 1) := by decide +kernel
theorem k_R_append_44 : decode (mtC m_R_append) 44 = .ok (.iastore, 1) := by decide +kernel
theorem k_R_append_45 : decode (mtC m_R_append) 45 = .ok (.aload_n 0, 1) := by decide +kernel
theorem k_R_append_46 : decode (mtC m_R_append) 46 = .ok (.dup, 1) := by decide +kernel
theorem k_R_append_47 : decode (mtC m_R_append) 47 = .ok (.getfield 15, 3) := by decide +kernel
theorem k_R_append_50 : decode (mtC m_R_append) 50 = .ok (.iconst 1, 1) := by decide +kernel
theorem k_R_append_51 : decode (mtC m_R_append) 51 = .ok (.iadd, 1) := by decide +kernel
theorem k_R_append_52 : decode (mtC m_R_append) 52 = .ok (.putfield 15, 3) := by decide +kernel
theorem k_R_append_55 : decode (mtC m_R_append) 55 = .ok (.iconst 1, 1) := by decide +kernel
theorem k_R_append_56 : decode (mtC m_R_append) 56 = .ok (.ireturn, 1) := by decide +kernel
set_option maxHeartbeats 4000000 in
set_option maxRecDepth 100000 in
theorem T_R_append_0 {d : Nat} {i0 : Nat} {x1 : Int} {M : AMem} {Q : Option AV → AMem → Prop} (o0 : okH 1 i0 = true) (h : ((wI (M 1 i0 1) < 0) → Q (some (vI 0)) M) ∧ (¬ (wI (M 1 i0 1) < 0) → ((8 ≤ wI (M 1 i0 1)) → Q (some (vI 0)) M) ∧ (¬ (8 ≤ wI (M 1 i0 1)) → CallI d m_R_numberAt [vR 1 i0, vI ((M 1 i0 1) - 1)] M (fun y2 M1 => ((wI y2 ≤ wI x1) → (0 ≤ wI (M1 1 i0 1) ∧ wI (M1 1 i0 1) < (8 : Nat)) ∧ (Q (some (vI 1)) (aup (aup M1 5 i0 ((wI (M1 1 i0 1)).toNat) x1) 1 i0 1 ((M1 1 i0 1) + 1)))) ∧ (¬ (wI y2 ≤ wI x1) → Q (some (vI 0)) M1))))) : RunQ (d + 1) m_R_append 0 [some (vR 1 i0), some (vI x1)] [] M Q := by
  refine q_aload_n 0 k_R_append_0 rfl ?_
  refine q_getfield 1 k_R_append_1 fk_1_15 o0 (v := vI (M 1 i0 1)) rfl ?_
  refine q_if_lt 4 33 k_R_append_4 rfl rfl (fun c4 => ?_) (fun c4 => ?_)
  · have ht := h.1 c4
    refine q_iconst 33 k_R_append_33 ?_
    exact q_zret 34 k_R_append_34 rfl (Or.inl rfl) ht
  · have hf := h.2 c4
    refine q_aload_n 7 k_R_append_7 rfl ?_
    refine q_getfield 8 k_R_append_8 fk_1_15 o0 (v := vI (M 1 i0 1)) rfl ?_
    refine q_aload_n 11 k_R_append_11 rfl ?_
    refine q_getfield 12 k_R_append_12 fk_1_9 o0 (v := vR 5 i0) rfl ?_
    refine q_alen 15 k_R_append_15 o0 rfl (z := 8) rfl ?_
    refine q_icmp_ge 16 33 k_R_append_16 rfl rfl (fun c16 => ?_) (fun c16 => ?_)
    · have hft := hf.1 c16
      refine q_iconst 33 k_R_append_33 ?_
      exact q_zret 34 k_R_append_34 rfl (Or.inl rfl) hft
    · have hff := hf.2 c16
      refine q_aload_n 19 k_R_append_19 rfl ?_
      refine q_aload_n 20 k_R_append_20 rfl ?_
      refine q_getfield 21 k_R_append_21 fk_1_15 o0 (v := vI (M 1 i0 1)) rfl ?_
      refine q_iconst 24 k_R_append_24 ?_
      refine q_isub 25 k_R_append_25 ?_
      refine q_vI 26 [vI ((M 1 i0 1) - 1)] [] k_R_append_26 lk_1_19 rfl rfl rfl o0 rfl rfl rfl rfl (CallI.mono (fun y2 M1 h3 => ?_) hff)
      refine q_iload_n 29 k_R_append_29 rfl ?_
      refine q_icmp_le 30 35 k_R_append_30 rfl rfl (fun c30 => ?_) (fun c30 => ?_)
      · have h3t := h3.1 c30
        refine q_aload_n 35 k_R_append_35 rfl ?_
        refine q_getfield 36 k_R_append_36 fk_1_9 o0 (v := vR 5 i0) rfl ?_
        refine q_aload_n 39 k_R_append_39 rfl ?_
        refine q_getfield 40 k_R_append_40 fk_1_15 o0 (v := vI (M1 1 i0 1)) rfl ?_
        refine q_iload_n 43 k_R_append_43 rfl ?_
        refine q_iastore 44 k_R_append_44 o0 (n := 8) rfl h3t.1 (Or.inr rfl) ?_
        have h3t' := h3t.2
        refine q_aload_n 45 k_R_append_45 rfl ?_
        refine q_dup 46 k_R_append_46 rfl ?_
        refine q_getfield 47 k_R_append_47 fk_1_15 o0 (v := vI (M1 1 i0 1)) (by simp [fval, aup]) ?_
        refine q_iconst 50 k_R_append_50 ?_
        refine q_iadd 51 k_R_append_51 ?_
        refine q_putfield 52 k_R_append_52 fk_1_15 o0 rfl (fun z => absurd z (by decide)) ?_
        refine q_iconst 55 k_R_append_55 ?_
        exact q_zret 56 k_R_append_56 rfl (Or.inr rfl) h3t'
      · have h3f := h3.2 c30
        refine q_iconst 33 k_R_append_33 ?_
        exact q_zret 34 k_R_append_34 rfl (Or.inl rfl) h3f
theorem k_R_removeLast_0 : decode (mtC m_R_removeLast) 0 = .ok (.aload_n 0, 1) := by decide +kernel
theorem k_R_removeLast_1 : decode (mtC m_R_removeLast) 1 = .ok (.aload_n 0, 1) := by decide +kernel
theorem k_R_removeLast_2 : decode (mtC m_R_removeLast) 2 = .ok (.getfield 15, 3) := by decide +kernel
theorem k_R_removeLast_5 : decode (mtC m_R_removeLast) 5 = .ok (.iconst 1, 1) := by decide +kernel
theorem k_R_removeLast_6 : decode (mtC m_R_removeLast) 6 = .ok (.isub, 1) := by decide +kernel
theorem k_R_removeLast_7 : decode (mtC m_R_removeLast) 7 = .ok (.invokevirtual 19, 3) := by decide +kernel
theorem k_R_removeLast_10 : decode (mtC m_R_removeLast) 10 = .ok (.istore_n 1, 1) := by decide +kernel
theorem k_R_removeLast_11 : decode (mtC m_R_removeLast) 11 = .ok (.aload_n 0, 1) := by decide +kernel
theorem k_R_removeLast_12 : decode (mtC m_R_removeLast) 12 = .ok (.dup, 1) := by decide +kernel
theorem k_R_removeLast_13 : decode (mtC m_R_removeLast) 13 = .ok (.getfield 15, 3) := by decide +kernel
theorem k_R_removeLast_16 : decode (mtC m_R_removeLast) 16 = .ok (.iconst 1, 1) := by decide +kernel
theorem k_R_removeLast_17 : decode (mtC m_R_removeLast) 17 = .ok (.isub, 1) := by decide +kernel
theorem k_R_removeLast_18 : decode (mtC m_R_removeLast) 18 = .ok (.putfield 15, 3) := by decide +kernel
theorem k_R_removeLast_21 : decode (mtC m_R_removeLast) 21 = .ok (.iload_n 1, 1) := by decide +kernel
theorem k_R_removeLast_22 : decode (mtC m_R_removeLast) 22 = .ok (.ireturn, 1) := by decide +kernel
set_option maxHeartbeats 4000000 in
set_option maxRecDepth 100000 in
theorem T_R_removeLast_0 {d : Nat} {i0 : Nat} {M : AMem} {Q : Option AV → AMem → Prop} (o0 : okH 1 i0 = true) (h : CallI d m_R_numberAt [vR 1 i0, vI ((M 1 i0 1) - 1)] M (fun y2 M1 => Q (some (vI y2)) (aup M1 1 i0 1 ((M1 1 i0 1) - 1)))) : RunQ (d + 1) m_R_removeLast 0 [some (vR 1 i0), none] [] M Q := by
  refine q_aload_n 0 k_R_removeLast_0 rfl ?_
  refine q_aload_n 1 k_R_removeLast_1 rfl ?_
  refine q_getfield 2 k_R_removeLast_2 fk_1_15 o0 (v := vI (M 1 i0 1)) rfl ?_
  refine q_iconst 5 k_R_removeLast_5 ?_
  refine q_isub 6 k_R_removeLast_6 ?_
  refine q_vI 7 [vI ((M 1 i0 1) - 1)] [] k_R_removeLast_7 lk_1_19 rfl rfl rfl o0 rfl rfl rfl rfl (CallI.mono (fun y2 M1 h3 => ?_) h)
  refine q_istore_n 10 k_R_removeLast_10 (ls' := [some (vR 1 i0), some (vI y2)]) rfl rfl ?_
  refine q_aload_n 11 k_R_removeLast_11 rfl ?_
  refine q_dup 12 k_R_removeLast_12 rfl ?_
  refine q_getfield 13 k_R_removeLast_13 fk_1_15 o0 (v := vI (M1 1 i0 1)) rfl ?_
  refine q_iconst 16 k_R_removeLast_16 ?_
  refine q_isub 17 k_R_removeLast_17 ?_
  refine q_putfield 18 k_R_removeLast_18 fk_1_15 o0 rfl (fun z => absurd z (by decide)) ?_
  refine q_iload_n 21 k_R_removeLast_21 rfl ?_
  exact q_iret 22 k_R_removeLast_22 rfl h3
theorem k_R_become_0 : decode (mtC m_R_become) 0 = .ok (.aload_n 1, 1) := by decide +kernel
theorem k_R_become_1 : decode (mtC m_R_become) 1 = .ok (.getfield 9, 3) := by decide +kernel
theorem k_R_become_4 : decode (mtC m_R_become) 4 = .ok (.iconst 0, 1) := by decide +kernel
theorem k_R_become_5 : decode (mtC m_R_become) 5 = .ok (.aload_n 0, 1) := by decide +kernel
theorem k_R_become_6 : decode (mtC m_R_become) 6 = .ok (.getfield 9, 3) := by decide +kernel
theorem k_R_become_9 : decode (mtC m_R_become) 9 = .ok (.iconst 0, 1) := by decide +kernel
theorem k_R_become_10 : decode (mtC m_R_become) 10 = .ok (.bipush 8, 2) := by decide +kernel
theorem k_R_become_12 : decode (mtC m_R_become) 12 = .ok (.invokestatic 23, 3) := by decide +kernel
theorem k_R_become_15 : decode (mtC m_R_become) 15 = .ok (.aload_n 0, 1) := by decide +kernel
theorem k_R_become_16 : decode (mtC m_R_become) 16 = .ok (.aload_n 1, 1) := by decide +kernel
theorem k_R_become_17 : decode (mtC m_R_become) 17 = .ok (.getfield 15, 3) := by decide +kernel
theorem k_R_become_20 : decode (mtC m_R_become) 20 = .ok (.putfield 15, 3) := by decide +kernel
theorem k_R_become_23 : decode (mtC m_R_become) 23 = .ok (.return_, 1) := by decide +kernel
set_option maxHeartbeats 4000000 in
set_option maxRecDepth 100000 in
theorem T_R_become_0 {d : Nat} {i0 : Nat} {i1 : Nat} {M : AMem} {Q : Option AV → AMem → Prop} (o0 : okH 1 i0 = true) (o1 : okH 1 i1 = true) (h : Q none (aup (acopy M 5 i1 i0 8) 1 i0 1 ((acopy M 5 i1 i0 8) 1 i1 1))) : RunQ d m_R_become 0 [some (vR 1 i0), some (vR 1 i1)] [] M Q := by
  refine q_aload_n 0 k_R_become_0 rfl ?_
  refine q_getfield 1 k_R_become_1 fk_1_9 o1 (v := vR 5 i1) rfl ?_
  refine q_iconst 4 k_R_become_4 ?_
  refine q_aload_n 5 k_R_become_5 rfl ?_
  refine q_getfield 6 k_R_become_6 fk_1_9 o0 (v := vR 5 i0) rfl ?_
  refine q_iconst 9 k_R_become_9 ?_
  refine q_bipush 10 k_R_become_10 (by decide) ?_
  refine q_copy 12 k_R_become_12 rfl rfl o0 o1 (Or.inr rfl) ⟨by decide, by simp [alen]⟩ ?_
  refine q_aload_n 15 k_R_become_15 rfl ?_
  refine q_aload_n 16 k_R_become_16 rfl ?_
  refine q_getfield 17 k_R_become_17 fk_1_15 o1 (v := vI ((acopy M 5 i1 i0 8) 1 i1 1)) rfl ?_
  refine q_putfield 20 k_R_become_20 fk_1_15 o0 rfl (fun z => absurd z (by decide)) ?_
  exact q_vret 23 k_R_become_23 rfl h
theorem k_R_countUpTo_0 : decode (mtC m_R_countUpTo) 0 = .ok (.iconst 0, 1) := by decide +kernel
theorem k_R_countUpTo_1 : decode (mtC m_R_countUpTo) 1 = .ok (.istore_n 2, 1) := by decide +kernel
theorem k_R_countUpTo_2 : decode (mtC m_R_countUpTo) 2 = .ok (.iload_n 2, 1) := by decide +kernel
theorem k_R_countUpTo_3 : decode (mtC m_R_countUpTo) 3 = .ok (.aload_n 0, 1) := by decide +kernel
theorem k_R_countUpTo_4 : decode (mtC m_R_countUpTo) 4 = .ok (.getfield 15, 3) := by decide +kernel
theorem k_R_countUpTo_7 : decode (mtC m_R_countUpTo) 7 = .ok (.if_icmp .ge 18, 3) := by decide +kernel
theorem k_R_countUpTo_10 : decode (mtC m_R_countUpTo) 10 = .ok (.aload_n 0, 1) := by decide +kernel
theorem k_R_countUpTo_11 : decode (mtC m_R_countUpTo) 11 = .ok (.iload_n 2, 1) := by decide +kernel
theorem k_R_countUpTo_12 : decode (mtC m_R_countUpTo) 12 = .ok (.invokevirtual 19, 3) := by decide +kernel
theorem k_R_countUpTo_15 : decode (mtC m_R_countUpTo) 15 = .ok (.iload_n 1, 1) := by decide +kernel
theorem k_R_countUpTo_16 : decode (mtC m_R_countUpTo) 16 = .ok (.if_icmp .gt 9, 3) := by decide +kernel
theorem k_R_countUpTo_19 : decode (mtC m_R_countUpTo) 19 = .ok (.iinc 2 1, 3) := by decide +kernel
theorem k_R_countUpTo_22 : decode (mtC m_R_countUpTo) 22 = .ok (.goto (-20), 3) := by decide +kernel
theorem k_R_countUpTo_25 : decode (mtC m_R_countUpTo) 25 = .ok (.iload_n 2, 1) := by decide +kernel
theorem k_R_countUpTo_26 : decode (mtC m_R_countUpTo) 26 = .ok (.ireturn, 1) := by decide +kernel
set_option maxHeartbeats 4000000 in
set_option maxRecDepth 100000 in
theorem T_R_countUpTo_0 {d : Nat} {i0 : Nat} {x1 : Int} {M : AMem} {Q : Option AV → AMem → Prop} (o0 : okH 1 i0 = true) (h : RunQ (d + 1) m_R_countUpTo 2 [some (vR 1 i0), some (vI x1), some (vI 0)] [] M Q) : RunQ (d + 1) m_R_countUpTo 0 [some (vR 1 i0), some (vI x1), none] [] M Q := by
  refine q_iconst 0 k_R_countUpTo_0 ?_
  refine q_istore_n 1 k_R_countUpTo_1 (ls' := [some (vR 1 i0), some (vI x1), some (vI 0)]) rfl rfl ?_
  exact h
set_option maxHeartbeats 4000000 in
set_option maxRecDepth 100000 in
theorem T_R_countUpTo_2 {d : Nat} {i0 : Nat} {x1 : Int} {x2 : Int} {M : AMem} {Q : Option AV → AMem → Prop} (o0 : okH 1 i0 = true) (h : ((wI (M 1 i0 1) ≤ wI x2) → Q (some (vI x2)) M) ∧ (¬ (wI (M 1 i0 1) ≤ wI x2) → CallI d m_R_numberAt [vR 1 i0, vI x2] M (fun y2 M1 => ((wI x1 < wI y2) → Q (some (vI x2)) M1) ∧ (¬ (wI x1 < wI y2) → RunQ (d + 1) m_R_countUpTo 2 [some (vR 1 i0), some (vI x1), some (vI (x2 + 1))] [] M1 Q)))) : RunQ (d + 1) m_R_countUpTo 2 [some (vR 1 i0), some (vI x1), some (vI x2)] [] M Q := by
  refine q_iload_n 2 k_R_countUpTo_2 rfl ?_
  refine q_aload_n 3 k_R_countUpTo_3 rfl ?_
  refine q_getfield 4 k_R_countUpTo_4 fk_1_15 o0 (v := vI (M 1 i0 1)) rfl ?_
  refine q_icmp_ge 7 25 k_R_countUpTo_7 rfl rfl (fun c7 => ?_) (fun c7 => ?_)
  · have ht := h.1 c7
    refine q_iload_n 25 k_R_countUpTo_25 rfl ?_
    exact q_iret 26 k_R_countUpTo_26 rfl ht
  · have hf := h.2 c7
    refine q_aload_n 10 k_R_countUpTo_10 rfl ?_
    refine q_iload_n 11 k_R_countUpTo_11 rfl ?_
    refine q_vI 12 [vI x2] [] k_R_countUpTo_12 lk_1_19 rfl rfl rfl o0 rfl rfl rfl rfl (CallI.mono (fun y2 M1 h3 => ?_) hf)
    refine q_iload_n 15 k_R_countUpTo_15 rfl ?_
    refine q_icmp_gt 16 25 k_R_countUpTo_16 rfl rfl (fun c16 => ?_) (fun c16 => ?_)
    · have h3t := h3.1 c16
      refine q_iload_n 25 k_R_countUpTo_25 rfl ?_
      exact q_iret 26 k_R_countUpTo_26 rfl h3t
    · have h3f := h3.2 c16
      refine q_iinc 19 k_R_countUpTo_19 (ls' := [some (vR 1 i0), some (vI x1), some (vI (x2 + 1))]) rfl rfl rfl ?_
      refine q_goto 22 2 k_R_countUpTo_22 rfl rfl ?_
      exact h3f
theorem k_R_isRising_0 : decode (mtC m_R_isRising) 0 = .ok (.iconst 1, 1) := by decide +kernel
theorem k_R_isRising_1 : decode (mtC m_R_isRising) 1 = .ok (.istore_n 1, 1) := by decide +kernel
theorem k_R_isRising_2 : decode (mtC m_R_isRising) 2 = .ok (.iload_n 1, 1) := by decide +kernel
theorem k_R_isRising_3 : decode (mtC m_R_isRising) 3 = .ok (.aload_n 0, 1) := by decide +kernel
theorem k_R_isRising_4 : decode (mtC m_R_isRising) 4 = .ok (.getfield 15, 3) := by decide +kernel
theorem k_R_isRising_7 : decode (mtC m_R_isRising) 7 = .ok (.if_icmp .ge 26, 3) := by decide +kernel
theorem k_R_isRising_10 : decode (mtC m_R_isRising) 10 = .ok (.aload_n 0, 1) := by decide +kernel
theorem k_R_isRising_11 : decode (mtC m_R_isRising) 11 = .ok (.iload_n 1, 1) := by decide +kernel
theorem k_R_isRising_12 : decode (mtC m_R_isRising) 12 = .ok (.invokevirtual 19, 3) := by decide +kernel
theorem k_R_isRising_15 : decode (mtC m_R_isRising) 15 = .ok (.aload_n 0, 1) := by decide +kernel
theorem k_R_isRising_16 : decode (mtC m_R_isRising) 16 = .ok (.iload_n 1, 1) := by decide +kernel
theorem k_R_isRising_17 : decode (mtC m_R_isRising) 17 = .ok (.iconst 1, 1) := by decide +kernel
theorem k_R_isRising_18 : decode (mtC m_R_isRising) 18 = .ok (.isub, 1) := by decide +kernel
theorem k_R_isRising_19 : decode (mtC m_R_isRising) 19 = .ok (.invokevirtual 19, 3) := by decide +kernel
theorem k_R_isRising_22 : decode (mtC m_R_isRising) 22 = .ok (.if_icmp .ge 5, 3) := by decide +kernel
theorem k_R_isRising_25 : decode (mtC m_R_isRising) 25 = .ok (.iconst 0, 1) := by decide +kernel
theorem k_R_isRising_26 : decode (mtC m_R_isRising) 26 = .ok (.ireturn, 1) := by decide +kernel
theorem k_R_isRising_27 : decode (mtC m_R_isRising) 27 = .ok (.iinc 1 1, 3) := by decide +kernel
theorem k_R_isRising_30 : decode (mtC m_R_isRising) 30 = .ok (.goto (-28), 3) := by decide +kernel
theorem k_R_isRising_33 : decode (mtC m_R_isRising) 33 = .ok (.iconst 1, 1) := by decide +kernel
theorem k_R_isRising_34 : decode (mtC m_R_isRising) 34 = .ok (.ireturn, 1) := by decide +kernel
set_option maxHeartbeats 4000000 in
set_option maxRecDepth 100000 in
theorem T_R_isRising_0 {d : Nat} {i0 : Nat} {M : AMem} {Q : Option AV → AMem → Prop} (o0 : okH 1 i0 = true) (h : RunQ (d + 1) m_R_isRising 2 [some (vR 1 i0), some (vI 1)] [] M Q) : RunQ (d + 1) m_R_isRising 0 [some (vR 1 i0), none] [] M Q := by
  refine q_iconst 0 k_R_isRising_0 ?_
  refine q_istore_n 1 k_R_isRising_1 (ls' := [some (vR 1 i0), some (vI 1)]) rfl rfl ?_
  exact h
set_option maxHeartbeats 4000000 in
set_option maxRecDepth 100000 in
theorem T_R_isRising_2 {d : Nat} {i0 : Nat} {x1 : Int} {M : AMem} {Q : Option AV → AMem → Prop} (o0 : okH 1 i0 = true) (h : ((wI (M 1 i0 1) ≤ wI x1) → Q (some (vI 1)) M) ∧ (¬ (wI (M 1 i0 1) ≤ wI x1) → CallI d m_R_numberAt [vR 1 i0, vI x1] M (fun y2 M1 => CallI d m_R_numberAt [vR 1 i0, vI (x1 - 1)] M1 (fun y4 M3 => ((wI y4 ≤ wI y2) → RunQ (d + 1) m_R_isRising 2 [some (vR 1 i0), some (vI (x1 + 1))] [] M3 Q) ∧ (¬ (wI y4 ≤ wI y2) → Q (some (vI 0)) M3))))) : RunQ (d + 1) m_R_isRising 2 [some (vR 1 i0), some (vI x1)] [] M Q := by
  refine q_iload_n 2 k_R_isRising_2 rfl ?_
  refine q_aload_n 3 k_R_isRising_3 rfl ?_
  refine q_getfield 4 k_R_isRising_4 fk_1_15 o0 (v := vI (M 1 i0 1)) rfl ?_
  refine q_icmp_ge 7 33 k_R_isRising_7 rfl rfl (fun c7 => ?_) (fun c7 => ?_)
  · have ht := h.1 c7
    refine q_iconst 33 k_R_isRising_33 ?_
    exact q_zret 34 k_R_isRising_34 rfl (Or.inr rfl) ht
  · have hf := h.2 c7
    refine q_aload_n 10 k_R_isRising_10 rfl ?_
    refine q_iload_n 11 k_R_isRising_11 rfl ?_
    refine q_vI 12 [vI x1] [] k_R_isRising_12 lk_1_19 rfl rfl rfl o0 rfl rfl rfl rfl (CallI.mono (fun y2 M1 h5 => ?_) hf)
    refine q_aload_n 15 k_R_isRising_15 rfl ?_
    refine q_iload_n 16 k_R_isRising_16 rfl ?_
    refine q_iconst 17 k_R_isRising_17 ?_
    refine q_isub 18 k_R_isRising_18 ?_
    refine q_vI 19 [vI (x1 - 1)] [vI y2] k_R_isRising_19 lk_1_19 rfl rfl rfl o0 rfl rfl rfl rfl (CallI.mono (fun y4 M3 h6 => ?_) h5)
    refine q_icmp_ge 22 27 k_R_isRising_22 rfl rfl (fun c22 => ?_) (fun c22 => ?_)
    · have h6t := h6.1 c22
      refine q_iinc 27 k_R_isRising_27 (ls' := [some (vR 1 i0), some (vI (x1 + 1))]) rfl rfl rfl ?_
      refine q_goto 30 2 k_R_isRising_30 rfl rfl ?_
      exact h6t
    · have h6f := h6.2 c22
      refine q_iconst 25 k_R_isRising_25 ?_
      exact q_zret 26 k_R_isRising_26 rfl (Or.inl rfl) h6f
