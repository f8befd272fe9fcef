theorem k_H_add_0 : decode (mtC m_H_add) 0 = .ok (.aload_n 0, 1) := by decide +kernel
theorem k_H_add_1 : decode (mtC m_H_add) 1 = .ok (.iload_n 1, 1) := by decide +kernel
theorem k_H_add_2 : decode (mtC m_H_add) 2 = .ok (.invokevirtual 38, 3) := by decide +kernel
theorem k_H_add_5 : decode (mtC m_H_add) 5 = .ok (.astore_n 3, 1) := by decide +kernel
theorem k_H_add_6 : decode (mtC m_H_add) 6 = .ok (.iload_n 2, 1) := by decide +kernel
theorem k_H_add_7 : decode (mtC m_H_add) 7 = .ok (.iconst 0, 1) := by decide +kernel
theorem k_H_add_8 : decode (mtC m_H_add) 8 = .ok (.sipush 999, 3) := by decide +kernel
theorem k_H_add_11 : decode (mtC m_H_add) 11 = .ok (.invokestatic 42, 3) := by decide +kernel
theorem k_H_add_14 : decode (mtC m_H_add) 14 = .ok (.aload_n 3, 1) := by decide +kernel
theorem k_H_add_15 : decode (mtC m_H_add) 15 = .ok (.iload_n 2, 1) := by decide +kernel
theorem k_H_add_16 : decode (mtC m_H_add) 16 = .ok (.invokevirtual 34, 3) := by decide +kernel
theorem k_H_add_19 : decode (mtC m_H_add) 19 = .ok (.ifCond .eq 10, 3) := by decide +kernel
theorem k_H_add_22 : decode (mtC m_H_add) 22 = .ok (.aload_n 3, 1) := by decide +kernel
theorem k_H_add_23 : decode (mtC m_H_add) 23 = .ok (.getfield 46, 3) := by decide +kernel
theorem k_H_add_26 : decode (mtC m_H_add) 26 = .ok (.goto 5, 3) := by decide +kernel
theorem k_H_add_29 : decode (mtC m_H_add) 29 = .ok (.bipush (-9), 2) := by decide +kernel
theorem k_H_add_31 : decode (mtC m_H_add) 31 = .ok (.ireturn, 1) := by decide +kernel
set_option maxHeartbeats 4000000 in
set_option maxRecDepth 100000 in
theorem T_H_add_0 {d : Nat} {x1 : Int} {x2 : Int} {M : AMem} {Q : Option AV → AMem → Prop}  (h : CallR d 1 m_H_findRow [vR 3 0, vI x1] M (fun r2 M1 => okH 1 r2 = true ∧ (CallV d m_H_requireWithin [vI x2, vI 0, vI 999] M1 (fun M4 => CallI d m_R_append [vR 1 r2, vI x2] M4 (fun y7 M6 => ((wI y7 = 0) → Q (some (vI (-9))) M6) ∧ (¬ (wI y7 = 0) → Q (some (vI (M6 1 r2 1))) M6)))))) : RunQ (d + 1) m_H_add 0 [some (vR 3 0), some (vI x1), some (vI x2), none] [] M Q := by
  refine q_aload_n 0 k_H_add_0 rfl ?_
  refine q_iload_n 1 k_H_add_1 rfl ?_
  refine q_vR 2 [vI x1] [] k_H_add_2 lk_3_38 rfl rfl rfl rfl rfl rfl rfl rfl (CallR.mono (fun r2 M1 h8 => ?_) h)
  have ok3 := h8.1
  have h8' := h8.2
  refine q_astore_n 5 k_H_add_5 (ls' := [some (vR 3 0), some (vI x1), some (vI x2), some (vR 1 r2)]) rfl rfl ?_
  refine q_iload_n 6 k_H_add_6 rfl ?_
  refine q_iconst 7 k_H_add_7 ?_
  refine q_sipush 8 k_H_add_8 (by decide) ?_
  refine q_sV 11 [vI x2, vI 0, vI 999] [] k_H_add_11 rfl lk_3_42 rfl rfl rfl rfl rfl rfl (CallV.mono (fun M4 h9 => ?_) h8')
  refine q_aload_n 14 k_H_add_14 rfl ?_
  refine q_iload_n 15 k_H_add_15 rfl ?_
  refine q_vI 16 [vI x2] [] k_H_add_16 lk_3_34 rfl rfl rfl ok3 rfl rfl rfl rfl (CallI.mono (fun y7 M6 h10 => ?_) h9)
  refine q_if_eq 19 29 k_H_add_19 rfl rfl (fun c19 => ?_) (fun c19 => ?_)
  · have h10t := h10.1 c19
    refine q_bipush 29 k_H_add_29 (by decide) ?_
    exact q_iret 31 k_H_add_31 rfl h10t
  · have h10f := h10.2 c19
    refine q_aload_n 22 k_H_add_22 rfl ?_
    refine q_getfield 23 k_H_add_23 fk_3_46 ok3 (v := vI (M6 1 r2 1)) rfl ?_
    refine q_goto 26 31 k_H_add_26 rfl rfl ?_
    exact q_iret 31 k_H_add_31 rfl h10f
theorem k_H_cut_0 : decode (mtC m_H_cut) 0 = .ok (.aload_n 0, 1) := by decide +kernel
theorem k_H_cut_1 : decode (mtC m_H_cut) 1 = .ok (.iload_n 1, 1) := by decide +kernel
theorem k_H_cut_2 : decode (mtC m_H_cut) 2 = .ok (.invokevirtual 38, 3) := by decide +kernel
theorem k_H_cut_5 : decode (mtC m_H_cut) 5 = .ok (.astore_n 2, 1) := by decide +kernel
theorem k_H_cut_6 : decode (mtC m_H_cut) 6 = .ok (.aload_n 2, 1) := by decide +kernel
theorem k_H_cut_7 : decode (mtC m_H_cut) 7 = .ok (.getfield 46, 3) := by decide +kernel
theorem k_H_cut_10 : decode (mtC m_H_cut) 10 = .ok (.ifCond .ne 6, 3) := by decide +kernel
theorem k_H_cut_13 : decode (mtC m_H_cut) 13 = .ok (.bipush (-9), 2) := by decide +kernel
theorem k_H_cut_15 : decode (mtC m_H_cut) 15 = .ok (.ireturn, 1) := by decide +kernel
theorem k_H_cut_16 : decode (mtC m_H_cut) 16 = .ok (.aload_n 2, 1) := by decide +kernel
theorem k_H_cut_17 : decode (mtC m_H_cut) 17 = .ok (.invokevirtual 50, 3) := by decide +kernel
theorem k_H_cut_20 : decode (mtC m_H_cut) 20 = .ok (.ireturn, 1) := by decide +kernel
set_option maxHeartbeats 4000000 in
set_option maxRecDepth 100000 in
theorem T_H_cut_0 {d : Nat} {x1 : Int} {M : AMem} {Q : Option AV → AMem → Prop}  (h : CallR d 1 m_H_findRow [vR 3 0, vI x1] M (fun r2 M1 => okH 1 r2 = true ∧ (((¬ wI (M1 1 r2 1) = 0) → CallI d m_R_removeLast [vR 1 r2] M1 (fun y5 M4 => Q (some (vI y5)) M4)) ∧ (¬ (¬ wI (M1 1 r2 1) = 0) → Q (some (vI (-9))) M1)))) : RunQ (d + 1) m_H_cut 0 [some (vR 3 0), some (vI x1), none] [] M Q := by
  refine q_aload_n 0 k_H_cut_0 rfl ?_
  refine q_iload_n 1 k_H_cut_1 rfl ?_
  refine q_vR 2 [vI x1] [] k_H_cut_2 lk_3_38 rfl rfl rfl rfl rfl rfl rfl rfl (CallR.mono (fun r2 M1 h6 => ?_) h)
  have ok3 := h6.1
  have h6' := h6.2
  refine q_astore_n 5 k_H_cut_5 (ls' := [some (vR 3 0), some (vI x1), some (vR 1 r2)]) rfl rfl ?_
  refine q_aload_n 6 k_H_cut_6 rfl ?_
  refine q_getfield 7 k_H_cut_7 fk_3_46 ok3 (v := vI (M1 1 r2 1)) rfl ?_
  refine q_if_ne 10 16 k_H_cut_10 rfl rfl (fun c10 => ?_) (fun c10 => ?_)
  · have h6't := h6'.1 c10
    refine q_aload_n 16 k_H_cut_16 rfl ?_
    refine q_vI 17 [] [] k_H_cut_17 lk_3_50 rfl rfl rfl ok3 rfl rfl rfl rfl (CallI.mono (fun y5 M4 h7 => ?_) h6't)
    exact q_iret 20 k_H_cut_20 rfl h7
  · have h6'f := h6'.2 c10
    refine q_bipush 13 k_H_cut_13 (by decide) ?_
    exact q_iret 15 k_H_cut_15 rfl h6'f
theorem k_H_fill_0 : decode (mtC m_H_fill) 0 = .ok (.aload_n 0, 1) := by decide +kernel
theorem k_H_fill_1 : decode (mtC m_H_fill) 1 = .ok (.iload_n 1, 1) := by decide +kernel
theorem k_H_fill_2 : decode (mtC m_H_fill) 2 = .ok (.invokevirtual 38, 3) := by decide +kernel
theorem k_H_fill_5 : decode (mtC m_H_fill) 5 = .ok (.astore 5, 2) := by decide +kernel
theorem k_H_fill_7 : decode (mtC m_H_fill) 7 = .ok (.iload_n 2, 1) := by decide +kernel
theorem k_H_fill_8 : decode (mtC m_H_fill) 8 = .ok (.iconst 0, 1) := by decide +kernel
theorem k_H_fill_9 : decode (mtC m_H_fill) 9 = .ok (.bipush 99, 2) := by decide +kernel
theorem k_H_fill_11 : decode (mtC m_H_fill) 11 = .ok (.invokestatic 42, 3) := by decide +kernel
theorem k_H_fill_14 : decode (mtC m_H_fill) 14 = .ok (.iload_n 3, 1) := by decide +kernel
theorem k_H_fill_15 : decode (mtC m_H_fill) 15 = .ok (.iconst 0, 1) := by decide +kernel
theorem k_H_fill_16 : decode (mtC m_H_fill) 16 = .ok (.bipush 99, 2) := by decide +kernel
theorem k_H_fill_18 : decode (mtC m_H_fill) 18 = .ok (.invokestatic 42, 3) := by decide +kernel
theorem k_H_fill_21 : decode (mtC m_H_fill) 21 = .ok (.iload 4, 2) := by decide +kernel
theorem k_H_fill_23 : decode (mtC m_H_fill) 23 = .ok (.iconst 1, 1) := by decide +kernel
theorem k_H_fill_24 : decode (mtC m_H_fill) 24 = .ok (.bipush 8, 2) := by decide +kernel
theorem k_H_fill_26 : decode (mtC m_H_fill) 26 = .ok (.invokestatic 42, 3) := by decide +kernel
theorem k_H_fill_29 : decode (mtC m_H_fill) 29 = .ok (.aload 5, 2) := by decide +kernel
theorem k_H_fill_31 : decode (mtC m_H_fill) 31 = .ok (.iconst 0, 1) := by decide +kernel
theorem k_H_fill_32 : decode (mtC m_H_fill) 32 = .ok (.putfield 46, 3) := by decide +kernel
theorem k_H_fill_35 : decode (mtC m_H_fill) 35 = .ok (.iconst 0, 1) := by decide +kernel
theorem k_H_fill_36 : decode (mtC m_H_fill) 36 = .ok (.istore 6, 2) := by decide +kernel
theorem k_H_fill_38 : decode (mtC m_H_fill) 38 = .ok (.iload 6, 2) := by decide +kernel
theorem k_H_fill_40 : decode (mtC m_H_fill) 40 = .ok (.iload 4, 2) := by decide +kernel
theorem k_H_fill_42 : decode (mtC m_H_fill) 42 = .ok (.if_icmp .ge 21, 3) := by decide +kernel
theorem k_H_fill_45 : decode (mtC m_H_fill) 45 = .ok (.aload 5, 2) := by decide +kernel
theorem k_H_fill_47 : decode (mtC m_H_fill) 47 = .ok (.iload_n 2, 1) := by decide +kernel
theorem k_H_fill_48 : decode (mtC m_H_fill) 48 = .ok (.iload 6, 2) := by decide +kernel
theorem k_H_fill_50 : decode (mtC m_H_fill) 50 = .ok (.iload_n 3, 1) := by decide +kernel
theorem k_H_fill_51 : decode (mtC m_H_fill) 51 = .ok (.imul, 1) := by decide +kernel
theorem k_H_fill_52 : decode (mtC m_H_fill) 52 = .ok (.iadd, 1) := by decide +kernel
theorem k_H_fill_53 : decode (mtC m_H_fill) 53 = .ok (.invokevirtual 34, 3) := by decide +kernel
theorem k_H_fill_56 : decode (mtC m_H_fill) 56 = .ok (.pop, 1) := by decide +kernel
theorem k_H_fill_57 : decode (mtC m_H_fill) 57 = .ok (.iinc 6 1, 3) := by decide +kernel
theorem k_H_fill_60 : decode (mtC m_H_fill) 60 = .ok (.goto (-22), 3) := by decide +kernel
theorem k_H_fill_63 : decode (mtC m_H_fill) 63 = .ok (.iload_n 2, 1) := by decide +kernel
theorem k_H_fill_64 : decode (mtC m_H_fill) 64 = .ok (.iload 4, 2) := by decide +kernel
theorem k_H_fill_66 : decode (mtC m_H_fill) 66 = .ok (.iconst 1, 1) := by decide +kernel
theorem k_H_fill_67 : decode (mtC m_H_fill) 67 = .ok (.isub, 1) := by decide +kernel
theorem k_H_fill_68 : decode (mtC m_H_fill) 68 = .ok (.iload_n 3, 1) := by decide +kernel
theorem k_H_fill_69 : decode (mtC m_H_fill) 69 = .ok (.imul, 1) := by decide +kernel
theorem k_H_fill_70 : decode (mtC m_H_fill) 70 = .ok (.iadd, 1) := by decide +kernel
theorem k_H_fill_71 : decode (mtC m_H_fill) 71 = .ok (.ireturn, 1) := by decide +kernel
set_option maxHeartbeats 4000000 in
set_option maxRecDepth 100000 in
theorem T_H_fill_0 {d : Nat} {x1 : Int} {x2 : Int} {x3 : Int} {x4 : Int} {M : AMem} {Q : Option AV → AMem → Prop}  (h : CallR d 1 m_H_findRow [vR 3 0, vI x1] M (fun r2 M1 => okH 1 r2 = true ∧ (CallV d m_H_requireWithin [vI x2, vI 0, vI 99] M1 (fun M4 => CallV d m_H_requireWithin [vI x3, vI 0, vI 99] M4 (fun M6 => CallV d m_H_requireWithin [vI x4, vI 1, vI 8] M6 (fun M8 => RunQ (d + 1) m_H_fill 38 [some (vR 3 0), some (vI x1), some (vI x2), some (vI x3), some (vI x4), some (vR 1 r2), some (vI 0)] [] (aup M8 1 r2 1 0) Q)))))) : RunQ (d + 1) m_H_fill 0 [some (vR 3 0), some (vI x1), some (vI x2), some (vI x3), some (vI x4), none, none] [] M Q := by
  refine q_aload_n 0 k_H_fill_0 rfl ?_
  refine q_iload_n 1 k_H_fill_1 rfl ?_
  refine q_vR 2 [vI x1] [] k_H_fill_2 lk_3_38 rfl rfl rfl rfl rfl rfl rfl rfl (CallR.mono (fun r2 M1 h10 => ?_) h)
  have ok3 := h10.1
  have h10' := h10.2
  refine q_astore 5 k_H_fill_5 (ls' := [some (vR 3 0), some (vI x1), some (vI x2), some (vI x3), some (vI x4), some (vR 1 r2), none]) rfl rfl ?_
  refine q_iload_n 7 k_H_fill_7 rfl ?_
  refine q_iconst 8 k_H_fill_8 ?_
  refine q_bipush 9 k_H_fill_9 (by decide) ?_
  refine q_sV 11 [vI x2, vI 0, vI 99] [] k_H_fill_11 rfl lk_3_42 rfl rfl rfl rfl rfl rfl (CallV.mono (fun M4 h11 => ?_) h10')
  refine q_iload_n 14 k_H_fill_14 rfl ?_
  refine q_iconst 15 k_H_fill_15 ?_
  refine q_bipush 16 k_H_fill_16 (by decide) ?_
  refine q_sV 18 [vI x3, vI 0, vI 99] [] k_H_fill_18 rfl lk_3_42 rfl rfl rfl rfl rfl rfl (CallV.mono (fun M6 h12 => ?_) h11)
  refine q_iload 21 k_H_fill_21 rfl ?_
  refine q_iconst 23 k_H_fill_23 ?_
  refine q_bipush 24 k_H_fill_24 (by decide) ?_
  refine q_sV 26 [vI x4, vI 1, vI 8] [] k_H_fill_26 rfl lk_3_42 rfl rfl rfl rfl rfl rfl (CallV.mono (fun M8 h13 => ?_) h12)
  refine q_aload 29 k_H_fill_29 rfl ?_
  refine q_iconst 31 k_H_fill_31 ?_
  refine q_putfield 32 k_H_fill_32 fk_3_46 ok3 rfl (fun z => absurd z (by decide)) ?_
  refine q_iconst 35 k_H_fill_35 ?_
  refine q_istore 36 k_H_fill_36 (ls' := [some (vR 3 0), some (vI x1), some (vI x2), some (vI x3), some (vI x4), some (vR 1 r2), some (vI 0)]) rfl rfl ?_
  exact h13
set_option maxHeartbeats 4000000 in
set_option maxRecDepth 100000 in
theorem T_H_fill_38 {d : Nat} {x1 : Int} {x2 : Int} {x3 : Int} {x4 : Int} {i5 : Nat} {x6 : Int} {M : AMem} {Q : Option AV → AMem → Prop} (o5 : okH 1 i5 = true) (h : ((wI x4 ≤ wI x6) → Q (some (vI (x2 + ((x4 - 1) * x3)))) M) ∧ (¬ (wI x4 ≤ wI x6) → CallI d m_R_append [vR 1 i5, vI (x2 + (x6 * x3))] M (fun y2 M1 => RunQ (d + 1) m_H_fill 38 [some (vR 3 0), some (vI x1), some (vI x2), some (vI x3), some (vI x4), some (vR 1 i5), some (vI (x6 + 1))] [] M1 Q))) : RunQ (d + 1) m_H_fill 38 [some (vR 3 0), some (vI x1), some (vI x2), some (vI x3), some (vI x4), some (vR 1 i5), some (vI x6)] [] M Q := by
  refine q_iload 38 k_H_fill_38 rfl ?_
  refine q_iload 40 k_H_fill_40 rfl ?_
  refine q_icmp_ge 42 63 k_H_fill_42 rfl rfl (fun c42 => ?_) (fun c42 => ?_)
  · have ht := h.1 c42
    refine q_iload_n 63 k_H_fill_63 rfl ?_
    refine q_iload 64 k_H_fill_64 rfl ?_
    refine q_iconst 66 k_H_fill_66 ?_
    refine q_isub 67 k_H_fill_67 ?_
    refine q_iload_n 68 k_H_fill_68 rfl ?_
    refine q_imul 69 k_H_fill_69 ?_
    refine q_iadd 70 k_H_fill_70 ?_
    exact q_iret 71 k_H_fill_71 rfl ht
  · have hf := h.2 c42
    refine q_aload 45 k_H_fill_45 rfl ?_
    refine q_iload_n 47 k_H_fill_47 rfl ?_
    refine q_iload 48 k_H_fill_48 rfl ?_
    refine q_iload_n 50 k_H_fill_50 rfl ?_
    refine q_imul 51 k_H_fill_51 ?_
    refine q_iadd 52 k_H_fill_52 ?_
    refine q_vI 53 [vI (x2 + (x6 * x3))] [] k_H_fill_53 lk_3_34 rfl rfl rfl o5 rfl rfl rfl rfl (CallI.mono (fun y2 M1 h3 => ?_) hf)
    refine q_pop 56 k_H_fill_56 rfl ?_
    refine q_iinc 57 k_H_fill_57 (ls' := [some (vR 3 0), some (vI x1), some (vI x2), some (vI x3), some (vI x4), some (vR 1 i5), some (vI (x6 + 1))]) rfl rfl rfl ?_
    refine q_goto 60 38 k_H_fill_60 rfl rfl ?_
    exact h3
theorem k_H_rowAt_0 : decode (mtC m_H_rowAt) 0 = .ok (.aload_n 0, 1) := by decide +kernel
theorem k_H_rowAt_1 : decode (mtC m_H_rowAt) 1 = .ok (.iload_n 1, 1) := by decide +kernel
theorem k_H_rowAt_2 : decode (mtC m_H_rowAt) 2 = .ok (.invokevirtual 38, 3) := by decide +kernel
theorem k_H_rowAt_5 : decode (mtC m_H_rowAt) 5 = .ok (.astore_n 3, 1) := by decide +kernel
theorem k_H_rowAt_6 : decode (mtC m_H_rowAt) 6 = .ok (.iload_n 2, 1) := by decide +kernel
theorem k_H_rowAt_7 : decode (mtC m_H_rowAt) 7 = .ok (.bipush 8, 2) := by decide +kernel
theorem k_H_rowAt_9 : decode (mtC m_H_rowAt) 9 = .ok (.invokestatic 54, 3) := by decide +kernel
theorem k_H_rowAt_12 : decode (mtC m_H_rowAt) 12 = .ok (.aload_n 3, 1) := by decide +kernel
theorem k_H_rowAt_13 : decode (mtC m_H_rowAt) 13 = .ok (.iload_n 2, 1) := by decide +kernel
theorem k_H_rowAt_14 : decode (mtC m_H_rowAt) 14 = .ok (.invokevirtual 58, 3) := by decide +kernel
theorem k_H_rowAt_17 : decode (mtC m_H_rowAt) 17 = .ok (.ireturn, 1) := by decide +kernel
set_option maxHeartbeats 4000000 in
set_option maxRecDepth 100000 in
theorem T_H_rowAt_0 {d : Nat} {x1 : Int} {x2 : Int} {M : AMem} {Q : Option AV → AMem → Prop}  (h : CallR d 1 m_H_findRow [vR 3 0, vI x1] M (fun r2 M1 => okH 1 r2 = true ∧ (CallV d m_H_requirePlace [vI x2, vI 8] M1 (fun M4 => CallI d m_R_numberAt [vR 1 r2, vI x2] M4 (fun y7 M6 => Q (some (vI y7)) M6))))) : RunQ (d + 1) m_H_rowAt 0 [some (vR 3 0), some (vI x1), some (vI x2), none] [] M Q := by
  refine q_aload_n 0 k_H_rowAt_0 rfl ?_
  refine q_iload_n 1 k_H_rowAt_1 rfl ?_
  refine q_vR 2 [vI x1] [] k_H_rowAt_2 lk_3_38 rfl rfl rfl rfl rfl rfl rfl rfl (CallR.mono (fun r2 M1 h8 => ?_) h)
  have ok3 := h8.1
  have h8' := h8.2
  refine q_astore_n 5 k_H_rowAt_5 (ls' := [some (vR 3 0), some (vI x1), some (vI x2), some (vR 1 r2)]) rfl rfl ?_
  refine q_iload_n 6 k_H_rowAt_6 rfl ?_
  refine q_bipush 7 k_H_rowAt_7 (by decide) ?_
  refine q_sV 9 [vI x2, vI 8] [] k_H_rowAt_9 rfl lk_3_54 rfl rfl rfl rfl rfl rfl (CallV.mono (fun M4 h9 => ?_) h8')
  refine q_aload_n 12 k_H_rowAt_12 rfl ?_
  refine q_iload_n 13 k_H_rowAt_13 rfl ?_
  refine q_vI 14 [vI x2] [] k_H_rowAt_14 lk_3_58 rfl rfl rfl ok3 rfl rfl rfl rfl (CallI.mono (fun y7 M6 h10 => ?_) h9)
  exact q_iret 17 k_H_rowAt_17 rfl h10
theorem k_H_rowSize_0 : decode (mtC m_H_rowSize) 0 = .ok (.aload_n 0, 1) := by decide +kernel
theorem k_H_rowSize_1 : decode (mtC m_H_rowSize) 1 = .ok (.iload_n 1, 1) := by decide +kernel
theorem k_H_rowSize_2 : decode (mtC m_H_rowSize) 2 = .ok (.invokevirtual 38, 3) := by decide +kernel
theorem k_H_rowSize_5 : decode (mtC m_H_rowSize) 5 = .ok (.getfield 46, 3) := by decide +kernel
theorem k_H_rowSize_8 : decode (mtC m_H_rowSize) 8 = .ok (.ireturn, 1) := by decide +kernel
set_option maxHeartbeats 4000000 in
set_option maxRecDepth 100000 in
theorem T_H_rowSize_0 {d : Nat} {x1 : Int} {M : AMem} {Q : Option AV → AMem → Prop}  (h : CallR d 1 m_H_findRow [vR 3 0, vI x1] M (fun r2 M1 => okH 1 r2 = true ∧ (Q (some (vI (M1 1 r2 1))) M1))) : RunQ (d + 1) m_H_rowSize 0 [some (vR 3 0), some (vI x1)] [] M Q := by
  refine q_aload_n 0 k_H_rowSize_0 rfl ?_
  refine q_iload_n 1 k_H_rowSize_1 rfl ?_
  refine q_vR 2 [vI x1] [] k_H_rowSize_2 lk_3_38 rfl rfl rfl rfl rfl rfl rfl rfl (CallR.mono (fun r2 M1 h4 => ?_) h)
  have ok3 := h4.1
  have h4' := h4.2
  refine q_getfield 5 k_H_rowSize_5 fk_3_46 ok3 (v := vI (M1 1 r2 1)) rfl ?_
  exact q_iret 8 k_H_rowSize_8 rfl h4'
theorem k_H_least_0 : decode (mtC m_H_least) 0 = .ok (.iload_n 1, 1) := by decide +kernel
theorem k_H_least_1 : decode (mtC m_H_least) 1 = .ok (.iconst 1, 1) := by decide +kernel
theorem k_H_least_2 : decode (mtC m_H_least) 2 = .ok (.bipush 63, 2) := by decide +kernel
theorem k_H_least_4 : decode (mtC m_H_least) 4 = .ok (.invokestatic 42, 3) := by decide +kernel
theorem k_H_least_7 : decode (mtC m_H_least) 7 = .ok (.iload_n 2, 1) := by decide +kernel
theorem k_H_least_8 : decode (mtC m_H_least) 8 = .ok (.iconst 0, 1) := by decide +kernel
theorem k_H_least_9 : decode (mtC m_H_least) 9 = .ok (.bipush 47, 2) := by decide +kernel
theorem k_H_least_11 : decode (mtC m_H_least) 11 = .ok (.invokestatic 42, 3) := by decide +kernel
theorem k_H_least_14 : decode (mtC m_H_least) 14 = .ok (.aload_n 0, 1) := by decide +kernel
theorem k_H_least_15 : decode (mtC m_H_least) 15 = .ok (.getfield 27, 3) := by decide +kernel
theorem k_H_least_18 : decode (mtC m_H_least) 18 = .ok (.aload_n 0, 1) := by decide +kernel
theorem k_H_least_19 : decode (mtC m_H_least) 19 = .ok (.getfield 11, 3) := by decide +kernel
theorem k_H_least_22 : decode (mtC m_H_least) 22 = .ok (.iload_n 1, 1) := by decide +kernel
theorem k_H_least_23 : decode (mtC m_H_least) 23 = .ok (.iconst 0, 1) := by decide +kernel
theorem k_H_least_24 : decode (mtC m_H_least) 24 = .ok (.invokevirtual 73, 3) := by decide +kernel
theorem k_H_least_27 : decode (mtC m_H_least) 27 = .ok (.aload_n 0, 1) := by decide +kernel
theorem k_H_least_28 : decode (mtC m_H_least) 28 = .ok (.getfield 27, 3) := by decide +kernel
theorem k_H_least_31 : decode (mtC m_H_least) 31 = .ok (.iload_n 2, 1) := by decide +kernel
theorem k_H_least_32 : decode (mtC m_H_least) 32 = .ok (.invokevirtual 77, 3) := by decide +kernel
theorem k_H_least_35 : decode (mtC m_H_least) 35 = .ok (.ireturn, 1) := by decide +kernel
set_option maxHeartbeats 4000000 in
set_option maxRecDepth 100000 in
theorem T_H_least_0 {d : Nat} {x1 : Int} {x2 : Int} {M : AMem} {Q : Option AV → AMem → Prop}  (h : CallV d m_H_requireWithin [vI x1, vI 1, vI 63] M (fun M1 => CallV d m_H_requireWithin [vI x2, vI 0, vI 47] M1 (fun M3 => CallV d m_W_beginMerged [vR 2 5, vR 7 0, vI x1, vI 0] M3 (fun M5 => CallI d m_W_numberBehind [vR 2 5, vI x2] M5 (fun y8 M7 => Q (some (vI y8)) M7))))) : RunQ (d + 1) m_H_least 0 [some (vR 3 0), some (vI x1), some (vI x2)] [] M Q := by
  refine q_iload_n 0 k_H_least_0 rfl ?_
  refine q_iconst 1 k_H_least_1 ?_
  refine q_bipush 2 k_H_least_2 (by decide) ?_
  refine q_sV 4 [vI x1, vI 1, vI 63] [] k_H_least_4 rfl lk_3_42 rfl rfl rfl rfl rfl rfl (CallV.mono (fun M1 h9 => ?_) h)
  refine q_iload_n 7 k_H_least_7 rfl ?_
  refine q_iconst 8 k_H_least_8 ?_
  refine q_bipush 9 k_H_least_9 (by decide) ?_
  refine q_sV 11 [vI x2, vI 0, vI 47] [] k_H_least_11 rfl lk_3_42 rfl rfl rfl rfl rfl rfl (CallV.mono (fun M3 h10 => ?_) h9)
  refine q_aload_n 14 k_H_least_14 rfl ?_
  refine q_getfield 15 k_H_least_15 fk_3_27 rfl (v := vR 2 5) rfl ?_
  refine q_aload_n 18 k_H_least_18 rfl ?_
  refine q_getfield 19 k_H_least_19 fk_3_11 rfl (v := vR 7 0) rfl ?_
  refine q_iload_n 22 k_H_least_22 rfl ?_
  refine q_iconst 23 k_H_least_23 ?_
  refine q_vV 24 [vR 7 0, vI x1, vI 0] [] k_H_least_24 lk_3_73 rfl rfl rfl rfl rfl rfl rfl rfl (CallV.mono (fun M5 h11 => ?_) h10)
  refine q_aload_n 27 k_H_least_27 rfl ?_
  refine q_getfield 28 k_H_least_28 fk_3_27 rfl (v := vR 2 5) rfl ?_
  refine q_iload_n 31 k_H_least_31 rfl ?_
  refine q_vI 32 [vI x2] [] k_H_least_32 lk_3_77 rfl rfl rfl rfl rfl rfl rfl rfl (CallI.mono (fun y8 M7 h12 => ?_) h11)
  exact q_iret 35 k_H_least_35 rfl h12
theorem k_H_powers_0 : decode (mtC m_H_powers) 0 = .ok (.aload_n 0, 1) := by decide +kernel
theorem k_H_powers_1 : decode (mtC m_H_powers) 1 = .ok (.iload_n 1, 1) := by decide +kernel
theorem k_H_powers_2 : decode (mtC m_H_powers) 2 = .ok (.invokevirtual 80, 3) := by decide +kernel
theorem k_H_powers_5 : decode (mtC m_H_powers) 5 = .ok (.astore_n 3, 1) := by decide +kernel
theorem k_H_powers_6 : decode (mtC m_H_powers) 6 = .ok (.iload_n 2, 1) := by decide +kernel
theorem k_H_powers_7 : decode (mtC m_H_powers) 7 = .ok (.iconst 1, 1) := by decide +kernel
theorem k_H_powers_8 : decode (mtC m_H_powers) 8 = .ok (.bipush 63, 2) := by decide +kernel
theorem k_H_powers_10 : decode (mtC m_H_powers) 10 = .ok (.invokestatic 42, 3) := by decide +kernel
theorem k_H_powers_13 : decode (mtC m_H_powers) 13 = .ok (.aload_n 3, 1) := by decide +kernel
theorem k_H_powers_14 : decode (mtC m_H_powers) 14 = .ok (.iconst 0, 1) := by decide +kernel
theorem k_H_powers_15 : decode (mtC m_H_powers) 15 = .ok (.iload_n 2, 1) := by decide +kernel
theorem k_H_powers_16 : decode (mtC m_H_powers) 16 = .ok (.iconst 0, 1) := by decide +kernel
theorem k_H_powers_17 : decode (mtC m_H_powers) 17 = .ok (.invokevirtual 84, 3) := by decide +kernel
theorem k_H_powers_20 : decode (mtC m_H_powers) 20 = .ok (.aload_n 3, 1) := by decide +kernel
theorem k_H_powers_21 : decode (mtC m_H_powers) 21 = .ok (.getfield 88, 3) := by decide +kernel
theorem k_H_powers_24 : decode (mtC m_H_powers) 24 = .ok (.getfield 92, 3) := by decide +kernel
theorem k_H_powers_27 : decode (mtC m_H_powers) 27 = .ok (.ireturn, 1) := by decide +kernel
set_option maxHeartbeats 4000000 in
set_option maxRecDepth 100000 in
theorem T_H_powers_0 {d : Nat} {x1 : Int} {x2 : Int} {M : AMem} {Q : Option AV → AMem → Prop}  (h : CallR d 2 m_H_findWell [vR 3 0, vI x1] M (fun r2 M1 => okH 2 r2 = true ∧ (CallV d m_H_requireWithin [vI x2, vI 1, vI 63] M1 (fun M4 => CallV d m_W_begin [vR 2 r2, vI 0, vI x2, vI 0] M4 (fun M6 => Q (some (vI (M6 0 r2 1))) M6))))) : RunQ (d + 1) m_H_powers 0 [some (vR 3 0), some (vI x1), some (vI x2), none] [] M Q := by
  refine q_aload_n 0 k_H_powers_0 rfl ?_
  refine q_iload_n 1 k_H_powers_1 rfl ?_
  refine q_vR 2 [vI x1] [] k_H_powers_2 lk_3_80 rfl rfl rfl rfl rfl rfl rfl rfl (CallR.mono (fun r2 M1 h8 => ?_) h)
  have ok3 := h8.1
  have h8' := h8.2
  refine q_astore_n 5 k_H_powers_5 (ls' := [some (vR 3 0), some (vI x1), some (vI x2), some (vR 2 r2)]) rfl rfl ?_
  refine q_iload_n 6 k_H_powers_6 rfl ?_
  refine q_iconst 7 k_H_powers_7 ?_
  refine q_bipush 8 k_H_powers_8 (by decide) ?_
  refine q_sV 10 [vI x2, vI 1, vI 63] [] k_H_powers_10 rfl lk_3_42 rfl rfl rfl rfl rfl rfl (CallV.mono (fun M4 h9 => ?_) h8')
  refine q_aload_n 13 k_H_powers_13 rfl ?_
  refine q_iconst 14 k_H_powers_14 ?_
  refine q_iload_n 15 k_H_powers_15 rfl ?_
  refine q_iconst 16 k_H_powers_16 ?_
  refine q_vV 17 [vI 0, vI x2, vI 0] [] k_H_powers_17 lk_3_84 rfl rfl rfl ok3 rfl rfl rfl rfl (CallV.mono (fun M6 h10 => ?_) h9)
  refine q_aload_n 20 k_H_powers_20 rfl ?_
  refine q_getfield 21 k_H_powers_21 fk_3_88 ok3 (v := vR 0 r2) rfl ?_
  refine q_getfield 24 k_H_powers_24 fk_3_92 ok3 (v := vI (M6 0 r2 1)) rfl ?_
  exact q_iret 27 k_H_powers_27 rfl h10
theorem k_H_sums_0 : decode (mtC m_H_sums) 0 = .ok (.aload_n 0, 1) := by decide +kernel
theorem k_H_sums_1 : decode (mtC m_H_sums) 1 = .ok (.iload_n 1, 1) := by decide +kernel
theorem k_H_sums_2 : decode (mtC m_H_sums) 2 = .ok (.invokevirtual 80, 3) := by decide +kernel
theorem k_H_sums_5 : decode (mtC m_H_sums) 5 = .ok (.astore 4, 2) := by decide +kernel
theorem k_H_sums_7 : decode (mtC m_H_sums) 7 = .ok (.aload 4, 2) := by decide +kernel
theorem k_H_sums_9 : decode (mtC m_H_sums) 9 = .ok (.iconst 1, 1) := by decide +kernel
theorem k_H_sums_10 : decode (mtC m_H_sums) 10 = .ok (.aload_n 0, 1) := by decide +kernel
theorem k_H_sums_11 : decode (mtC m_H_sums) 11 = .ok (.iload_n 2, 1) := by decide +kernel
theorem k_H_sums_12 : decode (mtC m_H_sums) 12 = .ok (.invokevirtual 38, 3) := by decide +kernel
theorem k_H_sums_15 : decode (mtC m_H_sums) 15 = .ok (.aload_n 0, 1) := by decide +kernel
theorem k_H_sums_16 : decode (mtC m_H_sums) 16 = .ok (.iload_n 3, 1) := by decide +kernel
theorem k_H_sums_17 : decode (mtC m_H_sums) 17 = .ok (.invokevirtual 38, 3) := by decide +kernel
theorem k_H_sums_20 : decode (mtC m_H_sums) 20 = .ok (.aload_n 0, 1) := by decide +kernel
theorem k_H_sums_21 : decode (mtC m_H_sums) 21 = .ok (.getfield 16, 3) := by decide +kernel
theorem k_H_sums_24 : decode (mtC m_H_sums) 24 = .ok (.invokevirtual 97, 3) := by decide +kernel
theorem k_H_sums_27 : decode (mtC m_H_sums) 27 = .ok (.aload 4, 2) := by decide +kernel
theorem k_H_sums_29 : decode (mtC m_H_sums) 29 = .ok (.getfield 88, 3) := by decide +kernel
theorem k_H_sums_32 : decode (mtC m_H_sums) 32 = .ok (.getfield 92, 3) := by decide +kernel
theorem k_H_sums_35 : decode (mtC m_H_sums) 35 = .ok (.ireturn, 1) := by decide +kernel
set_option maxHeartbeats 4000000 in
set_option maxRecDepth 100000 in
theorem T_H_sums_0 {d : Nat} {x1 : Int} {x2 : Int} {x3 : Int} {M : AMem} {Q : Option AV → AMem → Prop}  (h : CallR d 2 m_H_findWell [vR 3 0, vI x1] M (fun r2 M1 => okH 2 r2 = true ∧ (CallR d 1 m_H_findRow [vR 3 0, vI x2] M1 (fun r5 M4 => okH 1 r5 = true ∧ (CallR d 1 m_H_findRow [vR 3 0, vI x3] M4 (fun r8 M7 => okH 1 r8 = true ∧ (CallV d m_W_beginGrid [vR 2 r2, vI 1, vR 1 r5, vR 1 r8, vR 1 48] M7 (fun M10 => Q (some (vI (M10 0 r2 1))) M10)))))))) : RunQ (d + 1) m_H_sums 0 [some (vR 3 0), some (vI x1), some (vI x2), some (vI x3), none] [] M Q := by
  refine q_aload_n 0 k_H_sums_0 rfl ?_
  refine q_iload_n 1 k_H_sums_1 rfl ?_
  refine q_vR 2 [vI x1] [] k_H_sums_2 lk_3_80 rfl rfl rfl rfl rfl rfl rfl rfl (CallR.mono (fun r2 M1 h12 => ?_) h)
  have ok3 := h12.1
  have h12' := h12.2
  refine q_astore 5 k_H_sums_5 (ls' := [some (vR 3 0), some (vI x1), some (vI x2), some (vI x3), some (vR 2 r2)]) rfl rfl ?_
  refine q_aload 7 k_H_sums_7 rfl ?_
  refine q_iconst 9 k_H_sums_9 ?_
  refine q_aload_n 10 k_H_sums_10 rfl ?_
  refine q_iload_n 11 k_H_sums_11 rfl ?_
  refine q_vR 12 [vI x2] [vI 1, vR 2 r2] k_H_sums_12 lk_3_38 rfl rfl rfl rfl rfl rfl rfl rfl (CallR.mono (fun r5 M4 h13 => ?_) h12')
  have ok6 := h13.1
  have h13' := h13.2
  refine q_aload_n 15 k_H_sums_15 rfl ?_
  refine q_iload_n 16 k_H_sums_16 rfl ?_
  refine q_vR 17 [vI x3] [vR 1 r5, vI 1, vR 2 r2] k_H_sums_17 lk_3_38 rfl rfl rfl rfl rfl rfl rfl rfl (CallR.mono (fun r8 M7 h14 => ?_) h13')
  have ok9 := h14.1
  have h14' := h14.2
  refine q_aload_n 20 k_H_sums_20 rfl ?_
  refine q_getfield 21 k_H_sums_21 fk_3_16 rfl (v := vR 1 48) rfl ?_
  refine q_vV 24 [vI 1, vR 1 r5, vR 1 r8, vR 1 48] [] k_H_sums_24 lk_3_97 rfl rfl rfl ok3 rfl rfl rfl rfl (CallV.mono (fun M10 h15 => ?_) h14')
  refine q_aload 27 k_H_sums_27 rfl ?_
  refine q_getfield 29 k_H_sums_29 fk_3_88 ok3 (v := vR 0 r2) rfl ?_
  refine q_getfield 32 k_H_sums_32 fk_3_92 ok3 (v := vI (M10 0 r2 1)) rfl ?_
  exact q_iret 35 k_H_sums_35 rfl h15
theorem k_H_triples_0 : decode (mtC m_H_triples) 0 = .ok (.aload_n 0, 1) := by decide +kernel
theorem k_H_triples_1 : decode (mtC m_H_triples) 1 = .ok (.iload_n 1, 1) := by decide +kernel
theorem k_H_triples_2 : decode (mtC m_H_triples) 2 = .ok (.invokevirtual 80, 3) := by decide +kernel
theorem k_H_triples_5 : decode (mtC m_H_triples) 5 = .ok (.astore 5, 2) := by decide +kernel
theorem k_H_triples_7 : decode (mtC m_H_triples) 7 = .ok (.aload 5, 2) := by decide +kernel
theorem k_H_triples_9 : decode (mtC m_H_triples) 9 = .ok (.iconst 2, 1) := by decide +kernel
theorem k_H_triples_10 : decode (mtC m_H_triples) 10 = .ok (.aload_n 0, 1) := by decide +kernel
theorem k_H_triples_11 : decode (mtC m_H_triples) 11 = .ok (.iload_n 2, 1) := by decide +kernel
theorem k_H_triples_12 : decode (mtC m_H_triples) 12 = .ok (.invokevirtual 38, 3) := by decide +kernel
theorem k_H_triples_15 : decode (mtC m_H_triples) 15 = .ok (.aload_n 0, 1) := by decide +kernel
theorem k_H_triples_16 : decode (mtC m_H_triples) 16 = .ok (.iload_n 3, 1) := by decide +kernel
theorem k_H_triples_17 : decode (mtC m_H_triples) 17 = .ok (.invokevirtual 38, 3) := by decide +kernel
theorem k_H_triples_20 : decode (mtC m_H_triples) 20 = .ok (.aload_n 0, 1) := by decide +kernel
theorem k_H_triples_21 : decode (mtC m_H_triples) 21 = .ok (.iload 4, 2) := by decide +kernel
theorem k_H_triples_23 : decode (mtC m_H_triples) 23 = .ok (.invokevirtual 38, 3) := by decide +kernel
theorem k_H_triples_26 : decode (mtC m_H_triples) 26 = .ok (.invokevirtual 97, 3) := by decide +kernel
theorem k_H_triples_29 : decode (mtC m_H_triples) 29 = .ok (.aload 5, 2) := by decide +kernel
theorem k_H_triples_31 : decode (mtC m_H_triples) 31 = .ok (.getfield 88, 3) := by decide +kernel
theorem k_H_triples_34 : decode (mtC m_H_triples) 34 = .ok (.getfield 92, 3) := by decide +kernel
theorem k_H_triples_37 : decode (mtC m_H_triples) 37 = .ok (.ireturn, 1) := by decide +kernel
set_option maxHeartbeats 4000000 in
set_option maxRecDepth 100000 in
theorem T_H_triples_0 {d : Nat} {x1 : Int} {x2 : Int} {x3 : Int} {x4 : Int} {M : AMem} {Q : Option AV → AMem → Prop}  (h : CallR d 2 m_H_findWell [vR 3 0, vI x1] M (fun r2 M1 => okH 2 r2 = true ∧ (CallR d 1 m_H_findRow [vR 3 0, vI x2] M1 (fun r5 M4 => okH 1 r5 = true ∧ (CallR d 1 m_H_findRow [vR 3 0, vI x3] M4 (fun r8 M7 => okH 1 r8 = true ∧ (CallR d 1 m_H_findRow [vR 3 0, vI x4] M7 (fun r11 M10 => okH 1 r11 = true ∧ (CallV d m_W_beginGrid [vR 2 r2, vI 2, vR 1 r5, vR 1 r8, vR 1 r11] M10 (fun M13 => Q (some (vI (M13 0 r2 1))) M13)))))))))) : RunQ (d + 1) m_H_triples 0 [some (vR 3 0), some (vI x1), some (vI x2), some (vI x3), some (vI x4), none] [] M Q := by
  refine q_aload_n 0 k_H_triples_0 rfl ?_
  refine q_iload_n 1 k_H_triples_1 rfl ?_
  refine q_vR 2 [vI x1] [] k_H_triples_2 lk_3_80 rfl rfl rfl rfl rfl rfl rfl rfl (CallR.mono (fun r2 M1 h15 => ?_) h)
  have ok3 := h15.1
  have h15' := h15.2
  refine q_astore 5 k_H_triples_5 (ls' := [some (vR 3 0), some (vI x1), some (vI x2), some (vI x3), some (vI x4), some (vR 2 r2)]) rfl rfl ?_
  refine q_aload 7 k_H_triples_7 rfl ?_
  refine q_iconst 9 k_H_triples_9 ?_
  refine q_aload_n 10 k_H_triples_10 rfl ?_
  refine q_iload_n 11 k_H_triples_11 rfl ?_
  refine q_vR 12 [vI x2] [vI 2, vR 2 r2] k_H_triples_12 lk_3_38 rfl rfl rfl rfl rfl rfl rfl rfl (CallR.mono (fun r5 M4 h16 => ?_) h15')
  have ok6 := h16.1
  have h16' := h16.2
  refine q_aload_n 15 k_H_triples_15 rfl ?_
  refine q_iload_n 16 k_H_triples_16 rfl ?_
  refine q_vR 17 [vI x3] [vR 1 r5, vI 2, vR 2 r2] k_H_triples_17 lk_3_38 rfl rfl rfl rfl rfl rfl rfl rfl (CallR.mono (fun r8 M7 h17 => ?_) h16')
  have ok9 := h17.1
  have h17' := h17.2
  refine q_aload_n 20 k_H_triples_20 rfl ?_
  refine q_iload 21 k_H_triples_21 rfl ?_
  refine q_vR 23 [vI x4] [vR 1 r8, vR 1 r5, vI 2, vR 2 r2] k_H_triples_23 lk_3_38 rfl rfl rfl rfl rfl rfl rfl rfl (CallR.mono (fun r11 M10 h18 => ?_) h17')
  have ok12 := h18.1
  have h18' := h18.2
  refine q_vV 26 [vI 2, vR 1 r5, vR 1 r8, vR 1 r11] [] k_H_triples_26 lk_3_97 rfl rfl rfl ok3 rfl rfl rfl rfl (CallV.mono (fun M13 h19 => ?_) h18')
  refine q_aload 29 k_H_triples_29 rfl ?_
  refine q_getfield 31 k_H_triples_31 fk_3_88 ok3 (v := vR 0 r2) rfl ?_
  refine q_getfield 34 k_H_triples_34 fk_3_92 ok3 (v := vI (M13 0 r2 1)) rfl ?_
  exact q_iret 37 k_H_triples_37 rfl h19
theorem k_H_merge_0 : decode (mtC m_H_merge) 0 = .ok (.aload_n 0, 1) := by decide +kernel
theorem k_H_merge_1 : decode (mtC m_H_merge) 1 = .ok (.iload_n 1, 1) := by decide +kernel
theorem k_H_merge_2 : decode (mtC m_H_merge) 2 = .ok (.invokevirtual 80, 3) := by decide +kernel
theorem k_H_merge_5 : decode (mtC m_H_merge) 5 = .ok (.astore 4, 2) := by decide +kernel
theorem k_H_merge_7 : decode (mtC m_H_merge) 7 = .ok (.iload_n 2, 1) := by decide +kernel
theorem k_H_merge_8 : decode (mtC m_H_merge) 8 = .ok (.iconst 1, 1) := by decide +kernel
theorem k_H_merge_9 : decode (mtC m_H_merge) 9 = .ok (.bipush 63, 2) := by decide +kernel
theorem k_H_merge_11 : decode (mtC m_H_merge) 11 = .ok (.invokestatic 42, 3) := by decide +kernel
theorem k_H_merge_14 : decode (mtC m_H_merge) 14 = .ok (.aload 4, 2) := by decide +kernel
theorem k_H_merge_16 : decode (mtC m_H_merge) 16 = .ok (.aload_n 0, 1) := by decide +kernel
theorem k_H_merge_17 : decode (mtC m_H_merge) 17 = .ok (.getfield 11, 3) := by decide +kernel
theorem k_H_merge_20 : decode (mtC m_H_merge) 20 = .ok (.iload_n 2, 1) := by decide +kernel
theorem k_H_merge_21 : decode (mtC m_H_merge) 21 = .ok (.iload_n 3, 1) := by decide +kernel
theorem k_H_merge_22 : decode (mtC m_H_merge) 22 = .ok (.invokevirtual 73, 3) := by decide +kernel
theorem k_H_merge_25 : decode (mtC m_H_merge) 25 = .ok (.aload 4, 2) := by decide +kernel
theorem k_H_merge_27 : decode (mtC m_H_merge) 27 = .ok (.getfield 88, 3) := by decide +kernel
theorem k_H_merge_30 : decode (mtC m_H_merge) 30 = .ok (.getfield 92, 3) := by decide +kernel
theorem k_H_merge_33 : decode (mtC m_H_merge) 33 = .ok (.ireturn, 1) := by decide +kernel
set_option maxHeartbeats 4000000 in
set_option maxRecDepth 100000 in
theorem T_H_merge_0 {d : Nat} {x1 : Int} {x2 : Int} {x3 : Int} {M : AMem} {Q : Option AV → AMem → Prop}  (h : CallR d 2 m_H_findWell [vR 3 0, vI x1] M (fun r2 M1 => okH 2 r2 = true ∧ (CallV d m_H_requireWithin [vI x2, vI 1, vI 63] M1 (fun M4 => CallV d m_W_beginMerged [vR 2 r2, vR 7 0, vI x2, vI x3] M4 (fun M6 => Q (some (vI (M6 0 r2 1))) M6))))) : RunQ (d + 1) m_H_merge 0 [some (vR 3 0), some (vI x1), some (vI x2), some (vI x3), none] [] M Q := by
  refine q_aload_n 0 k_H_merge_0 rfl ?_
  refine q_iload_n 1 k_H_merge_1 rfl ?_
  refine q_vR 2 [vI x1] [] k_H_merge_2 lk_3_80 rfl rfl rfl rfl rfl rfl rfl rfl (CallR.mono (fun r2 M1 h8 => ?_) h)
  have ok3 := h8.1
  have h8' := h8.2
  refine q_astore 5 k_H_merge_5 (ls' := [some (vR 3 0), some (vI x1), some (vI x2), some (vI x3), some (vR 2 r2)]) rfl rfl ?_
  refine q_iload_n 7 k_H_merge_7 rfl ?_
  refine q_iconst 8 k_H_merge_8 ?_
  refine q_bipush 9 k_H_merge_9 (by decide) ?_
  refine q_sV 11 [vI x2, vI 1, vI 63] [] k_H_merge_11 rfl lk_3_42 rfl rfl rfl rfl rfl rfl (CallV.mono (fun M4 h9 => ?_) h8')
  refine q_aload 14 k_H_merge_14 rfl ?_
  refine q_aload_n 16 k_H_merge_16 rfl ?_
  refine q_getfield 17 k_H_merge_17 fk_3_11 rfl (v := vR 7 0) rfl ?_
  refine q_iload_n 20 k_H_merge_20 rfl ?_
  refine q_iload_n 21 k_H_merge_21 rfl ?_
  refine q_vV 22 [vR 7 0, vI x2, vI x3] [] k_H_merge_22 lk_3_73 rfl rfl rfl ok3 rfl rfl rfl rfl (CallV.mono (fun M6 h10 => ?_) h9)
  refine q_aload 25 k_H_merge_25 rfl ?_
  refine q_getfield 27 k_H_merge_27 fk_3_88 ok3 (v := vR 0 r2) rfl ?_
  refine q_getfield 30 k_H_merge_30 fk_3_92 ok3 (v := vI (M6 0 r2 1)) rfl ?_
  exact q_iret 33 k_H_merge_33 rfl h10
theorem k_H_table_0 : decode (mtC m_H_table) 0 = .ok (.aload_n 0, 1) := by decide +kernel
theorem k_H_table_1 : decode (mtC m_H_table) 1 = .ok (.iload_n 1, 1) := by decide +kernel
theorem k_H_table_2 : decode (mtC m_H_table) 2 = .ok (.invokevirtual 80, 3) := by decide +kernel
theorem k_H_table_5 : decode (mtC m_H_table) 5 = .ok (.astore 4, 2) := by decide +kernel
theorem k_H_table_7 : decode (mtC m_H_table) 7 = .ok (.aload 4, 2) := by decide +kernel
theorem k_H_table_9 : decode (mtC m_H_table) 9 = .ok (.iconst 4, 1) := by decide +kernel
theorem k_H_table_10 : decode (mtC m_H_table) 10 = .ok (.aload_n 0, 1) := by decide +kernel
theorem k_H_table_11 : decode (mtC m_H_table) 11 = .ok (.iload_n 2, 1) := by decide +kernel
theorem k_H_table_12 : decode (mtC m_H_table) 12 = .ok (.invokevirtual 38, 3) := by decide +kernel
theorem k_H_table_15 : decode (mtC m_H_table) 15 = .ok (.aload_n 0, 1) := by decide +kernel
theorem k_H_table_16 : decode (mtC m_H_table) 16 = .ok (.iload_n 3, 1) := by decide +kernel
theorem k_H_table_17 : decode (mtC m_H_table) 17 = .ok (.invokevirtual 38, 3) := by decide +kernel
theorem k_H_table_20 : decode (mtC m_H_table) 20 = .ok (.aload_n 0, 1) := by decide +kernel
theorem k_H_table_21 : decode (mtC m_H_table) 21 = .ok (.getfield 16, 3) := by decide +kernel
theorem k_H_table_24 : decode (mtC m_H_table) 24 = .ok (.invokevirtual 97, 3) := by decide +kernel
theorem k_H_table_27 : decode (mtC m_H_table) 27 = .ok (.aload 4, 2) := by decide +kernel
theorem k_H_table_29 : decode (mtC m_H_table) 29 = .ok (.getfield 88, 3) := by decide +kernel
theorem k_H_table_32 : decode (mtC m_H_table) 32 = .ok (.getfield 92, 3) := by decide +kernel
theorem k_H_table_35 : decode (mtC m_H_table) 35 = .ok (.ireturn, 1) := by decide +kernel
set_option maxHeartbeats 4000000 in
set_option maxRecDepth 100000 in
theorem T_H_table_0 {d : Nat} {x1 : Int} {x2 : Int} {x3 : Int} {M : AMem} {Q : Option AV → AMem → Prop}  (h : CallR d 2 m_H_findWell [vR 3 0, vI x1] M (fun r2 M1 => okH 2 r2 = true ∧ (CallR d 1 m_H_findRow [vR 3 0, vI x2] M1 (fun r5 M4 => okH 1 r5 = true ∧ (CallR d 1 m_H_findRow [vR 3 0, vI x3] M4 (fun r8 M7 => okH 1 r8 = true ∧ (CallV d m_W_beginGrid [vR 2 r2, vI 4, vR 1 r5, vR 1 r8, vR 1 48] M7 (fun M10 => Q (some (vI (M10 0 r2 1))) M10)))))))) : RunQ (d + 1) m_H_table 0 [some (vR 3 0), some (vI x1), some (vI x2), some (vI x3), none] [] M Q := by
  refine q_aload_n 0 k_H_table_0 rfl ?_
  refine q_iload_n 1 k_H_table_1 rfl ?_
  refine q_vR 2 [vI x1] [] k_H_table_2 lk_3_80 rfl rfl rfl rfl rfl rfl rfl rfl (CallR.mono (fun r2 M1 h12 => ?_) h)
  have ok3 := h12.1
  have h12' := h12.2
  refine q_astore 5 k_H_table_5 (ls' := [some (vR 3 0), some (vI x1), some (vI x2), some (vI x3), some (vR 2 r2)]) rfl rfl ?_
  refine q_aload 7 k_H_table_7 rfl ?_
  refine q_iconst 9 k_H_table_9 ?_
  refine q_aload_n 10 k_H_table_10 rfl ?_
  refine q_iload_n 11 k_H_table_11 rfl ?_
  refine q_vR 12 [vI x2] [vI 4, vR 2 r2] k_H_table_12 lk_3_38 rfl rfl rfl rfl rfl rfl rfl rfl (CallR.mono (fun r5 M4 h13 => ?_) h12')
  have ok6 := h13.1
  have h13' := h13.2
  refine q_aload_n 15 k_H_table_15 rfl ?_
  refine q_iload_n 16 k_H_table_16 rfl ?_
  refine q_vR 17 [vI x3] [vR 1 r5, vI 4, vR 2 r2] k_H_table_17 lk_3_38 rfl rfl rfl rfl rfl rfl rfl rfl (CallR.mono (fun r8 M7 h14 => ?_) h13')
  have ok9 := h14.1
  have h14' := h14.2
  refine q_aload_n 20 k_H_table_20 rfl ?_
  refine q_getfield 21 k_H_table_21 fk_3_16 rfl (v := vR 1 48) rfl ?_
  refine q_vV 24 [vI 4, vR 1 r5, vR 1 r8, vR 1 48] [] k_H_table_24 lk_3_97 rfl rfl rfl ok3 rfl rfl rfl rfl (CallV.mono (fun M10 h15 => ?_) h14')
  refine q_aload 27 k_H_table_27 rfl ?_
  refine q_getfield 29 k_H_table_29 fk_3_88 ok3 (v := vR 0 r2) rfl ?_
  refine q_getfield 32 k_H_table_32 fk_3_92 ok3 (v := vI (M10 0 r2 1)) rfl ?_
  exact q_iret 35 k_H_table_35 rfl h15
theorem k_H_primes_0 : decode (mtC m_H_primes) 0 = .ok (.aload_n 0, 1) := by decide +kernel
theorem k_H_primes_1 : decode (mtC m_H_primes) 1 = .ok (.iload_n 1, 1) := by decide +kernel
theorem k_H_primes_2 : decode (mtC m_H_primes) 2 = .ok (.invokevirtual 80, 3) := by decide +kernel
theorem k_H_primes_5 : decode (mtC m_H_primes) 5 = .ok (.astore_n 2, 1) := by decide +kernel
theorem k_H_primes_6 : decode (mtC m_H_primes) 6 = .ok (.aload_n 2, 1) := by decide +kernel
theorem k_H_primes_7 : decode (mtC m_H_primes) 7 = .ok (.iconst 5, 1) := by decide +kernel
theorem k_H_primes_8 : decode (mtC m_H_primes) 8 = .ok (.iconst 0, 1) := by decide +kernel
theorem k_H_primes_9 : decode (mtC m_H_primes) 9 = .ok (.iconst 0, 1) := by decide +kernel
theorem k_H_primes_10 : decode (mtC m_H_primes) 10 = .ok (.invokevirtual 84, 3) := by decide +kernel
theorem k_H_primes_13 : decode (mtC m_H_primes) 13 = .ok (.aload_n 2, 1) := by decide +kernel
theorem k_H_primes_14 : decode (mtC m_H_primes) 14 = .ok (.getfield 88, 3) := by decide +kernel
theorem k_H_primes_17 : decode (mtC m_H_primes) 17 = .ok (.getfield 92, 3) := by decide +kernel
theorem k_H_primes_20 : decode (mtC m_H_primes) 20 = .ok (.ireturn, 1) := by decide +kernel
set_option maxHeartbeats 4000000 in
set_option maxRecDepth 100000 in
theorem T_H_primes_0 {d : Nat} {x1 : Int} {M : AMem} {Q : Option AV → AMem → Prop}  (h : CallR d 2 m_H_findWell [vR 3 0, vI x1] M (fun r2 M1 => okH 2 r2 = true ∧ (CallV d m_W_begin [vR 2 r2, vI 5, vI 0, vI 0] M1 (fun M4 => Q (some (vI (M4 0 r2 1))) M4)))) : RunQ (d + 1) m_H_primes 0 [some (vR 3 0), some (vI x1), none] [] M Q := by
  refine q_aload_n 0 k_H_primes_0 rfl ?_
  refine q_iload_n 1 k_H_primes_1 rfl ?_
  refine q_vR 2 [vI x1] [] k_H_primes_2 lk_3_80 rfl rfl rfl rfl rfl rfl rfl rfl (CallR.mono (fun r2 M1 h6 => ?_) h)
  have ok3 := h6.1
  have h6' := h6.2
  refine q_astore_n 5 k_H_primes_5 (ls' := [some (vR 3 0), some (vI x1), some (vR 2 r2)]) rfl rfl ?_
  refine q_aload_n 6 k_H_primes_6 rfl ?_
  refine q_iconst 7 k_H_primes_7 ?_
  refine q_iconst 8 k_H_primes_8 ?_
  refine q_iconst 9 k_H_primes_9 ?_
  refine q_vV 10 [vI 5, vI 0, vI 0] [] k_H_primes_10 lk_3_84 rfl rfl rfl ok3 rfl rfl rfl rfl (CallV.mono (fun M4 h7 => ?_) h6')
  refine q_aload_n 13 k_H_primes_13 rfl ?_
  refine q_getfield 14 k_H_primes_14 fk_3_88 ok3 (v := vR 0 r2) rfl ?_
  refine q_getfield 17 k_H_primes_17 fk_3_92 ok3 (v := vI (M4 0 r2 1)) rfl ?_
  exact q_iret 20 k_H_primes_20 rfl h7
theorem k_H_draw_0 : decode (mtC m_H_draw) 0 = .ok (.aload_n 0, 1) := by decide +kernel
theorem k_H_draw_1 : decode (mtC m_H_draw) 1 = .ok (.iload_n 1, 1) := by decide +kernel
theorem k_H_draw_2 : decode (mtC m_H_draw) 2 = .ok (.invokevirtual 80, 3) := by decide +kernel
theorem k_H_draw_5 : decode (mtC m_H_draw) 5 = .ok (.astore_n 2, 1) := by decide +kernel
theorem k_H_draw_6 : decode (mtC m_H_draw) 6 = .ok (.aload_n 2, 1) := by decide +kernel
theorem k_H_draw_7 : decode (mtC m_H_draw) 7 = .ok (.invokevirtual 101, 3) := by decide +kernel
theorem k_H_draw_10 : decode (mtC m_H_draw) 10 = .ok (.ifCond .eq 6, 3) := by decide +kernel
theorem k_H_draw_13 : decode (mtC m_H_draw) 13 = .ok (.bipush (-9), 2) := by decide +kernel
theorem k_H_draw_15 : decode (mtC m_H_draw) 15 = .ok (.ireturn, 1) := by decide +kernel
theorem k_H_draw_16 : decode (mtC m_H_draw) 16 = .ok (.aload_n 2, 1) := by decide +kernel
theorem k_H_draw_17 : decode (mtC m_H_draw) 17 = .ok (.invokevirtual 105, 3) := by decide +kernel
theorem k_H_draw_20 : decode (mtC m_H_draw) 20 = .ok (.ireturn, 1) := by decide +kernel
set_option maxHeartbeats 4000000 in
set_option maxRecDepth 100000 in
theorem T_H_draw_0 {d : Nat} {x1 : Int} {M : AMem} {Q : Option AV → AMem → Prop}  (h : CallR d 2 m_H_findWell [vR 3 0, vI x1] M (fun r2 M1 => okH 2 r2 = true ∧ (CallI d m_W_isDry [vR 2 r2] M1 (fun y5 M4 => ((wI y5 = 0) → CallI d m_W_tell [vR 2 r2] M4 (fun y7 M6 => Q (some (vI y7)) M6)) ∧ (¬ (wI y5 = 0) → Q (some (vI (-9))) M4))))) : RunQ (d + 1) m_H_draw 0 [some (vR 3 0), some (vI x1), none] [] M Q := by
  refine q_aload_n 0 k_H_draw_0 rfl ?_
  refine q_iload_n 1 k_H_draw_1 rfl ?_
  refine q_vR 2 [vI x1] [] k_H_draw_2 lk_3_80 rfl rfl rfl rfl rfl rfl rfl rfl (CallR.mono (fun r2 M1 h8 => ?_) h)
  have ok3 := h8.1
  have h8' := h8.2
  refine q_astore_n 5 k_H_draw_5 (ls' := [some (vR 3 0), some (vI x1), some (vR 2 r2)]) rfl rfl ?_
  refine q_aload_n 6 k_H_draw_6 rfl ?_
  refine q_vI 7 [] [] k_H_draw_7 lk_3_101 rfl rfl rfl ok3 rfl rfl rfl rfl (CallI.mono (fun y5 M4 h9 => ?_) h8')
  refine q_if_eq 10 16 k_H_draw_10 rfl rfl (fun c10 => ?_) (fun c10 => ?_)
  · have h9t := h9.1 c10
    refine q_aload_n 16 k_H_draw_16 rfl ?_
    refine q_vI 17 [] [] k_H_draw_17 lk_3_105 rfl rfl rfl ok3 rfl rfl rfl rfl (CallI.mono (fun y7 M6 h10 => ?_) h9t)
    exact q_iret 20 k_H_draw_20 rfl h10
  · have h9f := h9.2 c10
    refine q_bipush 13 k_H_draw_13 (by decide) ?_
    exact q_iret 15 k_H_draw_15 rfl h9f
theorem k_H_draws_0 : decode (mtC m_H_draws) 0 = .ok (.aload_n 0, 1) := by decide +kernel
theorem k_H_draws_1 : decode (mtC m_H_draws) 1 = .ok (.iload_n 1, 1) := by decide +kernel
theorem k_H_draws_2 : decode (mtC m_H_draws) 2 = .ok (.invokevirtual 80, 3) := by decide +kernel
theorem k_H_draws_5 : decode (mtC m_H_draws) 5 = .ok (.astore_n 3, 1) := by decide +kernel
theorem k_H_draws_6 : decode (mtC m_H_draws) 6 = .ok (.iload_n 2, 1) := by decide +kernel
theorem k_H_draws_7 : decode (mtC m_H_draws) 7 = .ok (.iconst 1, 1) := by decide +kernel
theorem k_H_draws_8 : decode (mtC m_H_draws) 8 = .ok (.bipush 20, 2) := by decide +kernel
theorem k_H_draws_10 : decode (mtC m_H_draws) 10 = .ok (.invokestatic 42, 3) := by decide +kernel
theorem k_H_draws_13 : decode (mtC m_H_draws) 13 = .ok (.aload_n 3, 1) := by decide +kernel
theorem k_H_draws_14 : decode (mtC m_H_draws) 14 = .ok (.invokevirtual 108, 3) := by decide +kernel
theorem k_H_draws_17 : decode (mtC m_H_draws) 17 = .ok (.ifCond .eq 8, 3) := by decide +kernel
theorem k_H_draws_20 : decode (mtC m_H_draws) 20 = .ok (.bipush (-9), 2) := by decide +kernel
theorem k_H_draws_22 : decode (mtC m_H_draws) 22 = .ok (.goto 10, 3) := by decide +kernel
theorem k_H_draws_25 : decode (mtC m_H_draws) 25 = .ok (.aload_n 3, 1) := by decide +kernel
theorem k_H_draws_26 : decode (mtC m_H_draws) 26 = .ok (.ldc 111, 2) := by decide +kernel
theorem k_H_draws_28 : decode (mtC m_H_draws) 28 = .ok (.iload_n 2, 1) := by decide +kernel
theorem k_H_draws_29 : decode (mtC m_H_draws) 29 = .ok (.invokevirtual 112, 3) := by decide +kernel
theorem k_H_draws_32 : decode (mtC m_H_draws) 32 = .ok (.ireturn, 1) := by decide +kernel
set_option maxHeartbeats 4000000 in
set_option maxRecDepth 100000 in
theorem T_H_draws_0 {d : Nat} {x1 : Int} {x2 : Int} {M : AMem} {Q : Option AV → AMem → Prop}  (h : CallR d 2 m_H_findWell [vR 3 0, vI x1] M (fun r2 M1 => okH 2 r2 = true ∧ (CallV d m_H_requireWithin [vI x2, vI 1, vI 20] M1 (fun M4 => CallI d m_W_isEmpty [vR 2 r2] M4 (fun y7 M6 => ((wI y7 = 0) → CallI d m_W_tellBelow [vR 2 r2, vI 1000000, vI x2] M6 (fun y9 M8 => Q (some (vI y9)) M8)) ∧ (¬ (wI y7 = 0) → Q (some (vI (-9))) M6)))))) : RunQ (d + 1) m_H_draws 0 [some (vR 3 0), some (vI x1), some (vI x2), none] [] M Q := by
  refine q_aload_n 0 k_H_draws_0 rfl ?_
  refine q_iload_n 1 k_H_draws_1 rfl ?_
  refine q_vR 2 [vI x1] [] k_H_draws_2 lk_3_80 rfl rfl rfl rfl rfl rfl rfl rfl (CallR.mono (fun r2 M1 h10 => ?_) h)
  have ok3 := h10.1
  have h10' := h10.2
  refine q_astore_n 5 k_H_draws_5 (ls' := [some (vR 3 0), some (vI x1), some (vI x2), some (vR 2 r2)]) rfl rfl ?_
  refine q_iload_n 6 k_H_draws_6 rfl ?_
  refine q_iconst 7 k_H_draws_7 ?_
  refine q_bipush 8 k_H_draws_8 (by decide) ?_
  refine q_sV 10 [vI x2, vI 1, vI 20] [] k_H_draws_10 rfl lk_3_42 rfl rfl rfl rfl rfl rfl (CallV.mono (fun M4 h11 => ?_) h10')
  refine q_aload_n 13 k_H_draws_13 rfl ?_
  refine q_vI 14 [] [] k_H_draws_14 lk_3_108 rfl rfl rfl ok3 rfl rfl rfl rfl (CallI.mono (fun y7 M6 h12 => ?_) h11)
  refine q_if_eq 17 25 k_H_draws_17 rfl rfl (fun c17 => ?_) (fun c17 => ?_)
  · have h12t := h12.1 c17
    refine q_aload_n 25 k_H_draws_25 rfl ?_
    refine q_ldc 26 k_H_draws_26 ck_3_111 ?_
    refine q_iload_n 28 k_H_draws_28 rfl ?_
    refine q_vI 29 [vI 1000000, vI x2] [] k_H_draws_29 lk_3_112 rfl rfl rfl ok3 rfl rfl rfl rfl (CallI.mono (fun y9 M8 h13 => ?_) h12t)
    exact q_iret 32 k_H_draws_32 rfl h13
  · have h12f := h12.2 c17
    refine q_bipush 20 k_H_draws_20 (by decide) ?_
    refine q_goto 22 32 k_H_draws_22 rfl rfl ?_
    exact q_iret 32 k_H_draws_32 rfl h12f
theorem k_H_skip_0 : decode (mtC m_H_skip) 0 = .ok (.aload_n 0, 1) := by decide +kernel
theorem k_H_skip_1 : decode (mtC m_H_skip) 1 = .ok (.iload_n 1, 1) := by decide +kernel
theorem k_H_skip_2 : decode (mtC m_H_skip) 2 = .ok (.invokevirtual 80, 3) := by decide +kernel
theorem k_H_skip_5 : decode (mtC m_H_skip) 5 = .ok (.astore_n 3, 1) := by decide +kernel
theorem k_H_skip_6 : decode (mtC m_H_skip) 6 = .ok (.iload_n 2, 1) := by decide +kernel
theorem k_H_skip_7 : decode (mtC m_H_skip) 7 = .ok (.iconst 0, 1) := by decide +kernel
theorem k_H_skip_8 : decode (mtC m_H_skip) 8 = .ok (.ldc 111, 2) := by decide +kernel
theorem k_H_skip_10 : decode (mtC m_H_skip) 10 = .ok (.invokestatic 42, 3) := by decide +kernel
theorem k_H_skip_13 : decode (mtC m_H_skip) 13 = .ok (.aload_n 3, 1) := by decide +kernel
theorem k_H_skip_14 : decode (mtC m_H_skip) 14 = .ok (.invokevirtual 108, 3) := by decide +kernel
theorem k_H_skip_17 : decode (mtC m_H_skip) 17 = .ok (.ifCond .eq 8, 3) := by decide +kernel
theorem k_H_skip_20 : decode (mtC m_H_skip) 20 = .ok (.bipush (-9), 2) := by decide +kernel
theorem k_H_skip_22 : decode (mtC m_H_skip) 22 = .ok (.goto 10, 3) := by decide +kernel
theorem k_H_skip_25 : decode (mtC m_H_skip) 25 = .ok (.aload_n 3, 1) := by decide +kernel
theorem k_H_skip_26 : decode (mtC m_H_skip) 26 = .ok (.iload_n 2, 1) := by decide +kernel
theorem k_H_skip_27 : decode (mtC m_H_skip) 27 = .ok (.bipush 20, 2) := by decide +kernel
theorem k_H_skip_29 : decode (mtC m_H_skip) 29 = .ok (.invokevirtual 112, 3) := by decide +kernel
theorem k_H_skip_32 : decode (mtC m_H_skip) 32 = .ok (.ireturn, 1) := by decide +kernel
set_option maxHeartbeats 4000000 in
set_option maxRecDepth 100000 in
theorem T_H_skip_0 {d : Nat} {x1 : Int} {x2 : Int} {M : AMem} {Q : Option AV → AMem → Prop}  (h : CallR d 2 m_H_findWell [vR 3 0, vI x1] M (fun r2 M1 => okH 2 r2 = true ∧ (CallV d m_H_requireWithin [vI x2, vI 0, vI 1000000] M1 (fun M4 => CallI d m_W_isEmpty [vR 2 r2] M4 (fun y7 M6 => ((wI y7 = 0) → CallI d m_W_tellBelow [vR 2 r2, vI x2, vI 20] M6 (fun y9 M8 => Q (some (vI y9)) M8)) ∧ (¬ (wI y7 = 0) → Q (some (vI (-9))) M6)))))) : RunQ (d + 1) m_H_skip 0 [some (vR 3 0), some (vI x1), some (vI x2), none] [] M Q := by
  refine q_aload_n 0 k_H_skip_0 rfl ?_
  refine q_iload_n 1 k_H_skip_1 rfl ?_
  refine q_vR 2 [vI x1] [] k_H_skip_2 lk_3_80 rfl rfl rfl rfl rfl rfl rfl rfl (CallR.mono (fun r2 M1 h10 => ?_) h)
  have ok3 := h10.1
  have h10' := h10.2
  refine q_astore_n 5 k_H_skip_5 (ls' := [some (vR 3 0), some (vI x1), some (vI x2), some (vR 2 r2)]) rfl rfl ?_
  refine q_iload_n 6 k_H_skip_6 rfl ?_
  refine q_iconst 7 k_H_skip_7 ?_
  refine q_ldc 8 k_H_skip_8 ck_3_111 ?_
  refine q_sV 10 [vI x2, vI 0, vI 1000000] [] k_H_skip_10 rfl lk_3_42 rfl rfl rfl rfl rfl rfl (CallV.mono (fun M4 h11 => ?_) h10')
  refine q_aload_n 13 k_H_skip_13 rfl ?_
  refine q_vI 14 [] [] k_H_skip_14 lk_3_108 rfl rfl rfl ok3 rfl rfl rfl rfl (CallI.mono (fun y7 M6 h12 => ?_) h11)
  refine q_if_eq 17 25 k_H_skip_17 rfl rfl (fun c17 => ?_) (fun c17 => ?_)
  · have h12t := h12.1 c17
    refine q_aload_n 25 k_H_skip_25 rfl ?_
    refine q_iload_n 26 k_H_skip_26 rfl ?_
    refine q_bipush 27 k_H_skip_27 (by decide) ?_
    refine q_vI 29 [vI x2, vI 20] [] k_H_skip_29 lk_3_112 rfl rfl rfl ok3 rfl rfl rfl rfl (CallI.mono (fun y9 M8 h13 => ?_) h12t)
    exact q_iret 32 k_H_skip_32 rfl h13
  · have h12f := h12.2 c17
    refine q_bipush 20 k_H_skip_20 (by decide) ?_
    refine q_goto 22 32 k_H_skip_22 rfl rfl ?_
    exact q_iret 32 k_H_skip_32 rfl h12f
theorem k_H_copy_0 : decode (mtC m_H_copy) 0 = .ok (.aload_n 0, 1) := by decide +kernel
theorem k_H_copy_1 : decode (mtC m_H_copy) 1 = .ok (.iload_n 1, 1) := by decide +kernel
theorem k_H_copy_2 : decode (mtC m_H_copy) 2 = .ok (.invokevirtual 80, 3) := by decide +kernel
theorem k_H_copy_5 : decode (mtC m_H_copy) 5 = .ok (.astore_n 3, 1) := by decide +kernel
theorem k_H_copy_6 : decode (mtC m_H_copy) 6 = .ok (.aload_n 0, 1) := by decide +kernel
theorem k_H_copy_7 : decode (mtC m_H_copy) 7 = .ok (.iload_n 2, 1) := by decide +kernel
theorem k_H_copy_8 : decode (mtC m_H_copy) 8 = .ok (.invokevirtual 80, 3) := by decide +kernel
theorem k_H_copy_11 : decode (mtC m_H_copy) 11 = .ok (.astore 4, 2) := by decide +kernel
theorem k_H_copy_13 : decode (mtC m_H_copy) 13 = .ok (.aload 4, 2) := by decide +kernel
theorem k_H_copy_15 : decode (mtC m_H_copy) 15 = .ok (.aload_n 3, 1) := by decide +kernel
theorem k_H_copy_16 : decode (mtC m_H_copy) 16 = .ok (.invokevirtual 116, 3) := by decide +kernel
theorem k_H_copy_19 : decode (mtC m_H_copy) 19 = .ok (.aload 4, 2) := by decide +kernel
theorem k_H_copy_21 : decode (mtC m_H_copy) 21 = .ok (.getfield 88, 3) := by decide +kernel
theorem k_H_copy_24 : decode (mtC m_H_copy) 24 = .ok (.getfield 92, 3) := by decide +kernel
theorem k_H_copy_27 : decode (mtC m_H_copy) 27 = .ok (.ireturn, 1) := by decide +kernel
set_option maxHeartbeats 4000000 in
set_option maxRecDepth 100000 in
theorem T_H_copy_0 {d : Nat} {x1 : Int} {x2 : Int} {M : AMem} {Q : Option AV → AMem → Prop}  (h : CallR d 2 m_H_findWell [vR 3 0, vI x1] M (fun r2 M1 => okH 2 r2 = true ∧ (CallR d 2 m_H_findWell [vR 3 0, vI x2] M1 (fun r5 M4 => okH 2 r5 = true ∧ (CallV d m_W_become [vR 2 r5, vR 2 r2] M4 (fun M7 => Q (some (vI (M7 0 r5 1))) M7)))))) : RunQ (d + 1) m_H_copy 0 [some (vR 3 0), some (vI x1), some (vI x2), none, none] [] M Q := by
  refine q_aload_n 0 k_H_copy_0 rfl ?_
  refine q_iload_n 1 k_H_copy_1 rfl ?_
  refine q_vR 2 [vI x1] [] k_H_copy_2 lk_3_80 rfl rfl rfl rfl rfl rfl rfl rfl (CallR.mono (fun r2 M1 h9 => ?_) h)
  have ok3 := h9.1
  have h9' := h9.2
  refine q_astore_n 5 k_H_copy_5 (ls' := [some (vR 3 0), some (vI x1), some (vI x2), some (vR 2 r2), none]) rfl rfl ?_
  refine q_aload_n 6 k_H_copy_6 rfl ?_
  refine q_iload_n 7 k_H_copy_7 rfl ?_
  refine q_vR 8 [vI x2] [] k_H_copy_8 lk_3_80 rfl rfl rfl rfl rfl rfl rfl rfl (CallR.mono (fun r5 M4 h10 => ?_) h9')
  have ok6 := h10.1
  have h10' := h10.2
  refine q_astore 11 k_H_copy_11 (ls' := [some (vR 3 0), some (vI x1), some (vI x2), some (vR 2 r2), some (vR 2 r5)]) rfl rfl ?_
  refine q_aload 13 k_H_copy_13 rfl ?_
  refine q_aload_n 15 k_H_copy_15 rfl ?_
  refine q_vV 16 [vR 2 r2] [] k_H_copy_16 lk_3_116 rfl rfl rfl ok6 rfl rfl rfl rfl (CallV.mono (fun M7 h11 => ?_) h10')
  refine q_aload 19 k_H_copy_19 rfl ?_
  refine q_getfield 21 k_H_copy_21 fk_3_88 ok6 (v := vR 0 r5) rfl ?_
  refine q_getfield 24 k_H_copy_24 fk_3_92 ok6 (v := vI (M7 0 r5 1)) rfl ?_
  exact q_iret 27 k_H_copy_27 rfl h11
theorem k_H_shake_0 : decode (mtC m_H_shake) 0 = .ok (.aload_n 0, 1) := by decide +kernel
theorem k_H_shake_1 : decode (mtC m_H_shake) 1 = .ok (.iload_n 1, 1) := by decide +kernel
theorem k_H_shake_2 : decode (mtC m_H_shake) 2 = .ok (.invokevirtual 80, 3) := by decide +kernel
theorem k_H_shake_5 : decode (mtC m_H_shake) 5 = .ok (.astore_n 2, 1) := by decide +kernel
theorem k_H_shake_6 : decode (mtC m_H_shake) 6 = .ok (.aload_n 2, 1) := by decide +kernel
theorem k_H_shake_7 : decode (mtC m_H_shake) 7 = .ok (.invokevirtual 108, 3) := by decide +kernel
theorem k_H_shake_10 : decode (mtC m_H_shake) 10 = .ok (.ifCond .eq 6, 3) := by decide +kernel
theorem k_H_shake_13 : decode (mtC m_H_shake) 13 = .ok (.bipush (-9), 2) := by decide +kernel
theorem k_H_shake_15 : decode (mtC m_H_shake) 15 = .ok (.ireturn, 1) := by decide +kernel
theorem k_H_shake_16 : decode (mtC m_H_shake) 16 = .ok (.aload_n 2, 1) := by decide +kernel
theorem k_H_shake_17 : decode (mtC m_H_shake) 17 = .ok (.getfield 88, 3) := by decide +kernel
theorem k_H_shake_20 : decode (mtC m_H_shake) 20 = .ok (.invokevirtual 120, 3) := by decide +kernel
theorem k_H_shake_23 : decode (mtC m_H_shake) 23 = .ok (.aload_n 2, 1) := by decide +kernel
theorem k_H_shake_24 : decode (mtC m_H_shake) 24 = .ok (.getfield 88, 3) := by decide +kernel
theorem k_H_shake_27 : decode (mtC m_H_shake) 27 = .ok (.getfield 92, 3) := by decide +kernel
theorem k_H_shake_30 : decode (mtC m_H_shake) 30 = .ok (.ireturn, 1) := by decide +kernel
set_option maxHeartbeats 4000000 in
set_option maxRecDepth 100000 in
theorem T_H_shake_0 {d : Nat} {x1 : Int} {M : AMem} {Q : Option AV → AMem → Prop}  (h : CallR d 2 m_H_findWell [vR 3 0, vI x1] M (fun r2 M1 => okH 2 r2 = true ∧ (CallI d m_W_isEmpty [vR 2 r2] M1 (fun y5 M4 => ((wI y5 = 0) → CallV d m_Q_turnOver [vR 0 r2] M4 (fun M6 => Q (some (vI (M6 0 r2 1))) M6)) ∧ (¬ (wI y5 = 0) → Q (some (vI (-9))) M4))))) : RunQ (d + 1) m_H_shake 0 [some (vR 3 0), some (vI x1), none] [] M Q := by
  refine q_aload_n 0 k_H_shake_0 rfl ?_
  refine q_iload_n 1 k_H_shake_1 rfl ?_
  refine q_vR 2 [vI x1] [] k_H_shake_2 lk_3_80 rfl rfl rfl rfl rfl rfl rfl rfl (CallR.mono (fun r2 M1 h8 => ?_) h)
  have ok3 := h8.1
  have h8' := h8.2
  refine q_astore_n 5 k_H_shake_5 (ls' := [some (vR 3 0), some (vI x1), some (vR 2 r2)]) rfl rfl ?_
  refine q_aload_n 6 k_H_shake_6 rfl ?_
  refine q_vI 7 [] [] k_H_shake_7 lk_3_108 rfl rfl rfl ok3 rfl rfl rfl rfl (CallI.mono (fun y5 M4 h9 => ?_) h8')
  refine q_if_eq 10 16 k_H_shake_10 rfl rfl (fun c10 => ?_) (fun c10 => ?_)
  · have h9t := h9.1 c10
    refine q_aload_n 16 k_H_shake_16 rfl ?_
    refine q_getfield 17 k_H_shake_17 fk_3_88 ok3 (v := vR 0 r2) rfl ?_
    refine q_vV 20 [] [] k_H_shake_20 lk_3_120 rfl rfl rfl ok3 rfl rfl rfl rfl (CallV.mono (fun M6 h10 => ?_) h9t)
    refine q_aload_n 23 k_H_shake_23 rfl ?_
    refine q_getfield 24 k_H_shake_24 fk_3_88 ok3 (v := vR 0 r2) rfl ?_
    refine q_getfield 27 k_H_shake_27 fk_3_92 ok3 (v := vI (M6 0 r2 1)) rfl ?_
    exact q_iret 30 k_H_shake_30 rfl h10
  · have h9f := h9.2 c10
    refine q_bipush 13 k_H_shake_13 (by decide) ?_
    exact q_iret 15 k_H_shake_15 rfl h9f
theorem k_H_anew_0 : decode (mtC m_H_anew) 0 = .ok (.aload_n 0, 1) := by decide +kernel
theorem k_H_anew_1 : decode (mtC m_H_anew) 1 = .ok (.iload_n 1, 1) := by decide +kernel
theorem k_H_anew_2 : decode (mtC m_H_anew) 2 = .ok (.invokevirtual 80, 3) := by decide +kernel
theorem k_H_anew_5 : decode (mtC m_H_anew) 5 = .ok (.astore_n 2, 1) := by decide +kernel
theorem k_H_anew_6 : decode (mtC m_H_anew) 6 = .ok (.aload_n 2, 1) := by decide +kernel
theorem k_H_anew_7 : decode (mtC m_H_anew) 7 = .ok (.invokevirtual 108, 3) := by decide +kernel
theorem k_H_anew_10 : decode (mtC m_H_anew) 10 = .ok (.ifCond .eq 6, 3) := by decide +kernel
theorem k_H_anew_13 : decode (mtC m_H_anew) 13 = .ok (.bipush (-9), 2) := by decide +kernel
theorem k_H_anew_15 : decode (mtC m_H_anew) 15 = .ok (.ireturn, 1) := by decide +kernel
theorem k_H_anew_16 : decode (mtC m_H_anew) 16 = .ok (.aload_n 2, 1) := by decide +kernel
theorem k_H_anew_17 : decode (mtC m_H_anew) 17 = .ok (.invokevirtual 123, 3) := by decide +kernel
theorem k_H_anew_20 : decode (mtC m_H_anew) 20 = .ok (.aload_n 2, 1) := by decide +kernel
theorem k_H_anew_21 : decode (mtC m_H_anew) 21 = .ok (.getfield 88, 3) := by decide +kernel
theorem k_H_anew_24 : decode (mtC m_H_anew) 24 = .ok (.getfield 92, 3) := by decide +kernel
theorem k_H_anew_27 : decode (mtC m_H_anew) 27 = .ok (.ireturn, 1) := by decide +kernel
set_option maxHeartbeats 4000000 in
set_option maxRecDepth 100000 in
theorem T_H_anew_0 {d : Nat} {x1 : Int} {M : AMem} {Q : Option AV → AMem → Prop}  (h : CallR d 2 m_H_findWell [vR 3 0, vI x1] M (fun r2 M1 => okH 2 r2 = true ∧ (CallI d m_W_isEmpty [vR 2 r2] M1 (fun y5 M4 => ((wI y5 = 0) → CallV d m_W_restart [vR 2 r2] M4 (fun M6 => Q (some (vI (M6 0 r2 1))) M6)) ∧ (¬ (wI y5 = 0) → Q (some (vI (-9))) M4))))) : RunQ (d + 1) m_H_anew 0 [some (vR 3 0), some (vI x1), none] [] M Q := by
  refine q_aload_n 0 k_H_anew_0 rfl ?_
  refine q_iload_n 1 k_H_anew_1 rfl ?_
  refine q_vR 2 [vI x1] [] k_H_anew_2 lk_3_80 rfl rfl rfl rfl rfl rfl rfl rfl (CallR.mono (fun r2 M1 h8 => ?_) h)
  have ok3 := h8.1
  have h8' := h8.2
  refine q_astore_n 5 k_H_anew_5 (ls' := [some (vR 3 0), some (vI x1), some (vR 2 r2)]) rfl rfl ?_
  refine q_aload_n 6 k_H_anew_6 rfl ?_
  refine q_vI 7 [] [] k_H_anew_7 lk_3_108 rfl rfl rfl ok3 rfl rfl rfl rfl (CallI.mono (fun y5 M4 h9 => ?_) h8')
  refine q_if_eq 10 16 k_H_anew_10 rfl rfl (fun c10 => ?_) (fun c10 => ?_)
  · have h9t := h9.1 c10
    refine q_aload_n 16 k_H_anew_16 rfl ?_
    refine q_vV 17 [] [] k_H_anew_17 lk_3_123 rfl rfl rfl ok3 rfl rfl rfl rfl (CallV.mono (fun M6 h10 => ?_) h9t)
    refine q_aload_n 20 k_H_anew_20 rfl ?_
    refine q_getfield 21 k_H_anew_21 fk_3_88 ok3 (v := vR 0 r2) rfl ?_
    refine q_getfield 24 k_H_anew_24 fk_3_92 ok3 (v := vI (M6 0 r2 1)) rfl ?_
    exact q_iret 27 k_H_anew_27 rfl h10
  · have h9f := h9.2 c10
    refine q_bipush 13 k_H_anew_13 (by decide) ?_
    exact q_iret 15 k_H_anew_15 rfl h9f
theorem k_H_again_0 : decode (mtC m_H_again) 0 = .ok (.aload_n 0, 1) := by decide +kernel
theorem k_H_again_1 : decode (mtC m_H_again) 1 = .ok (.iload_n 1, 1) := by decide +kernel
theorem k_H_again_2 : decode (mtC m_H_again) 2 = .ok (.invokevirtual 80, 3) := by decide +kernel
theorem k_H_again_5 : decode (mtC m_H_again) 5 = .ok (.astore_n 2, 1) := by decide +kernel
theorem k_H_again_6 : decode (mtC m_H_again) 6 = .ok (.aload_n 2, 1) := by decide +kernel
theorem k_H_again_7 : decode (mtC m_H_again) 7 = .ok (.invokevirtual 108, 3) := by decide +kernel
theorem k_H_again_10 : decode (mtC m_H_again) 10 = .ok (.ifCond .ne 10, 3) := by decide +kernel
theorem k_H_again_13 : decode (mtC m_H_again) 13 = .ok (.aload_n 2, 1) := by decide +kernel
theorem k_H_again_14 : decode (mtC m_H_again) 14 = .ok (.getfield 126, 3) := by decide +kernel
theorem k_H_again_17 : decode (mtC m_H_again) 17 = .ok (.ifCond .eq 6, 3) := by decide +kernel
theorem k_H_again_20 : decode (mtC m_H_again) 20 = .ok (.bipush (-9), 2) := by decide +kernel
theorem k_H_again_22 : decode (mtC m_H_again) 22 = .ok (.ireturn, 1) := by decide +kernel
theorem k_H_again_23 : decode (mtC m_H_again) 23 = .ok (.aload_n 2, 1) := by decide +kernel
theorem k_H_again_24 : decode (mtC m_H_again) 24 = .ok (.getfield 129, 3) := by decide +kernel
theorem k_H_again_27 : decode (mtC m_H_again) 27 = .ok (.istore_n 3, 1) := by decide +kernel
theorem k_H_again_28 : decode (mtC m_H_again) 28 = .ok (.aload_n 2, 1) := by decide +kernel
theorem k_H_again_29 : decode (mtC m_H_again) 29 = .ok (.invokevirtual 123, 3) := by decide +kernel
theorem k_H_again_32 : decode (mtC m_H_again) 32 = .ok (.aload_n 2, 1) := by decide +kernel
theorem k_H_again_33 : decode (mtC m_H_again) 33 = .ok (.ldc 111, 2) := by decide +kernel
theorem k_H_again_35 : decode (mtC m_H_again) 35 = .ok (.iload_n 3, 1) := by decide +kernel
theorem k_H_again_36 : decode (mtC m_H_again) 36 = .ok (.invokevirtual 112, 3) := by decide +kernel
theorem k_H_again_39 : decode (mtC m_H_again) 39 = .ok (.pop, 1) := by decide +kernel
theorem k_H_again_40 : decode (mtC m_H_again) 40 = .ok (.aload_n 2, 1) := by decide +kernel
theorem k_H_again_41 : decode (mtC m_H_again) 41 = .ok (.invokevirtual 132, 3) := by decide +kernel
theorem k_H_again_44 : decode (mtC m_H_again) 44 = .ok (.ireturn, 1) := by decide +kernel
set_option maxHeartbeats 4000000 in
set_option maxRecDepth 100000 in
theorem T_H_again_0 {d : Nat} {x1 : Int} {M : AMem} {Q : Option AV → AMem → Prop}  (h : CallR d 2 m_H_findWell [vR 3 0, vI x1] M (fun r2 M1 => okH 2 r2 = true ∧ (CallI d m_W_isEmpty [vR 2 r2] M1 (fun y5 M4 => ((¬ wI y5 = 0) → Q (some (vI (-9))) M4) ∧ (¬ (¬ wI y5 = 0) → ((wI (M4 2 r2 5) = 0) → CallV d m_W_restart [vR 2 r2] M4 (fun M6 => CallI d m_W_tellBelow [vR 2 r2, vI 1000000, vI (M4 2 r2 6)] M6 (fun y9 M8 => CallI d m_W_lastNumber [vR 2 r2] M8 (fun y11 M10 => Q (some (vI y11)) M10)))) ∧ (¬ (wI (M4 2 r2 5) = 0) → Q (some (vI (-9))) M4)))))) : RunQ (d + 1) m_H_again 0 [some (vR 3 0), some (vI x1), none, none] [] M Q := by
  refine q_aload_n 0 k_H_again_0 rfl ?_
  refine q_iload_n 1 k_H_again_1 rfl ?_
  refine q_vR 2 [vI x1] [] k_H_again_2 lk_3_80 rfl rfl rfl rfl rfl rfl rfl rfl (CallR.mono (fun r2 M1 h12 => ?_) h)
  have ok3 := h12.1
  have h12' := h12.2
  refine q_astore_n 5 k_H_again_5 (ls' := [some (vR 3 0), some (vI x1), some (vR 2 r2), none]) rfl rfl ?_
  refine q_aload_n 6 k_H_again_6 rfl ?_
  refine q_vI 7 [] [] k_H_again_7 lk_3_108 rfl rfl rfl ok3 rfl rfl rfl rfl (CallI.mono (fun y5 M4 h13 => ?_) h12')
  refine q_if_ne 10 20 k_H_again_10 rfl rfl (fun c10 => ?_) (fun c10 => ?_)
  · have h13t := h13.1 c10
    refine q_bipush 20 k_H_again_20 (by decide) ?_
    exact q_iret 22 k_H_again_22 rfl h13t
  · have h13f := h13.2 c10
    refine q_aload_n 13 k_H_again_13 rfl ?_
    refine q_getfield 14 k_H_again_14 fk_3_126 ok3 (v := vI (M4 2 r2 5)) rfl ?_
    refine q_if_eq 17 23 k_H_again_17 rfl rfl (fun c17 => ?_) (fun c17 => ?_)
    · have h13ft := h13f.1 c17
      refine q_aload_n 23 k_H_again_23 rfl ?_
      refine q_getfield 24 k_H_again_24 fk_3_129 ok3 (v := vI (M4 2 r2 6)) rfl ?_
      refine q_istore_n 27 k_H_again_27 (ls' := [some (vR 3 0), some (vI x1), some (vR 2 r2), some (vI (M4 2 r2 6))]) rfl rfl ?_
      refine q_aload_n 28 k_H_again_28 rfl ?_
      refine q_vV 29 [] [] k_H_again_29 lk_3_123 rfl rfl rfl ok3 rfl rfl rfl rfl (CallV.mono (fun M6 h14 => ?_) h13ft)
      refine q_aload_n 32 k_H_again_32 rfl ?_
      refine q_ldc 33 k_H_again_33 ck_3_111 ?_
      refine q_iload_n 35 k_H_again_35 rfl ?_
      refine q_vI 36 [vI 1000000, vI (M4 2 r2 6)] [] k_H_again_36 lk_3_112 rfl rfl rfl ok3 rfl rfl rfl rfl (CallI.mono (fun y9 M8 h15 => ?_) h14)
      refine q_pop 39 k_H_again_39 rfl ?_
      refine q_aload_n 40 k_H_again_40 rfl ?_
      refine q_vI 41 [] [] k_H_again_41 lk_3_132 rfl rfl rfl ok3 rfl rfl rfl rfl (CallI.mono (fun y11 M10 h16 => ?_) h15)
      exact q_iret 44 k_H_again_44 rfl h16
    · have h13ff := h13f.2 c17
      refine q_bipush 20 k_H_again_20 (by decide) ?_
      exact q_iret 22 k_H_again_22 rfl h13ff
theorem k_H_close_0 : decode (mtC m_H_close) 0 = .ok (.aload_n 0, 1) := by decide +kernel
theorem k_H_close_1 : decode (mtC m_H_close) 1 = .ok (.iload_n 1, 1) := by decide +kernel
theorem k_H_close_2 : decode (mtC m_H_close) 2 = .ok (.invokevirtual 80, 3) := by decide +kernel
theorem k_H_close_5 : decode (mtC m_H_close) 5 = .ok (.astore_n 3, 1) := by decide +kernel
theorem k_H_close_6 : decode (mtC m_H_close) 6 = .ok (.iload_n 2, 1) := by decide +kernel
theorem k_H_close_7 : decode (mtC m_H_close) 7 = .ok (.bipush 6, 2) := by decide +kernel
theorem k_H_close_9 : decode (mtC m_H_close) 9 = .ok (.invokestatic 54, 3) := by decide +kernel
theorem k_H_close_12 : decode (mtC m_H_close) 12 = .ok (.aload_n 3, 1) := by decide +kernel
theorem k_H_close_13 : decode (mtC m_H_close) 13 = .ok (.iload_n 2, 1) := by decide +kernel
theorem k_H_close_14 : decode (mtC m_H_close) 14 = .ok (.invokevirtual 135, 3) := by decide +kernel
theorem k_H_close_17 : decode (mtC m_H_close) 17 = .ok (.ireturn, 1) := by decide +kernel
set_option maxHeartbeats 4000000 in
set_option maxRecDepth 100000 in
theorem T_H_close_0 {d : Nat} {x1 : Int} {x2 : Int} {M : AMem} {Q : Option AV → AMem → Prop}  (h : CallR d 2 m_H_findWell [vR 3 0, vI x1] M (fun r2 M1 => okH 2 r2 = true ∧ (CallV d m_H_requirePlace [vI x2, vI 6] M1 (fun M4 => CallI d m_W_closeRow [vR 2 r2, vI x2] M4 (fun y7 M6 => Q (some (vI y7)) M6))))) : RunQ (d + 1) m_H_close 0 [some (vR 3 0), some (vI x1), some (vI x2), none] [] M Q := by
  refine q_aload_n 0 k_H_close_0 rfl ?_
  refine q_iload_n 1 k_H_close_1 rfl ?_
  refine q_vR 2 [vI x1] [] k_H_close_2 lk_3_80 rfl rfl rfl rfl rfl rfl rfl rfl (CallR.mono (fun r2 M1 h8 => ?_) h)
  have ok3 := h8.1
  have h8' := h8.2
  refine q_astore_n 5 k_H_close_5 (ls' := [some (vR 3 0), some (vI x1), some (vI x2), some (vR 2 r2)]) rfl rfl ?_
  refine q_iload_n 6 k_H_close_6 rfl ?_
  refine q_bipush 7 k_H_close_7 (by decide) ?_
  refine q_sV 9 [vI x2, vI 6] [] k_H_close_9 rfl lk_3_54 rfl rfl rfl rfl rfl rfl (CallV.mono (fun M4 h9 => ?_) h8')
  refine q_aload_n 12 k_H_close_12 rfl ?_
  refine q_iload_n 13 k_H_close_13 rfl ?_
  refine q_vI 14 [vI x2] [] k_H_close_14 lk_3_135 rfl rfl rfl ok3 rfl rfl rfl rfl (CallI.mono (fun y7 M6 h10 => ?_) h9)
  exact q_iret 17 k_H_close_17 rfl h10
theorem k_H_drop_0 : decode (mtC m_H_drop) 0 = .ok (.aload_n 0, 1) := by decide +kernel
theorem k_H_drop_1 : decode (mtC m_H_drop) 1 = .ok (.iload_n 1, 1) := by decide +kernel
theorem k_H_drop_2 : decode (mtC m_H_drop) 2 = .ok (.invokevirtual 80, 3) := by decide +kernel
theorem k_H_drop_5 : decode (mtC m_H_drop) 5 = .ok (.astore_n 2, 1) := by decide +kernel
theorem k_H_drop_6 : decode (mtC m_H_drop) 6 = .ok (.aload_n 2, 1) := by decide +kernel
theorem k_H_drop_7 : decode (mtC m_H_drop) 7 = .ok (.getfield 129, 3) := by decide +kernel
theorem k_H_drop_10 : decode (mtC m_H_drop) 10 = .ok (.istore_n 3, 1) := by decide +kernel
theorem k_H_drop_11 : decode (mtC m_H_drop) 11 = .ok (.aload_n 2, 1) := by decide +kernel
theorem k_H_drop_12 : decode (mtC m_H_drop) 12 = .ok (.iconst (-1), 1) := by decide +kernel
theorem k_H_drop_13 : decode (mtC m_H_drop) 13 = .ok (.iconst 0, 1) := by decide +kernel
theorem k_H_drop_14 : decode (mtC m_H_drop) 14 = .ok (.iconst 0, 1) := by decide +kernel
theorem k_H_drop_15 : decode (mtC m_H_drop) 15 = .ok (.invokevirtual 84, 3) := by decide +kernel
theorem k_H_drop_18 : decode (mtC m_H_drop) 18 = .ok (.iload_n 3, 1) := by decide +kernel
theorem k_H_drop_19 : decode (mtC m_H_drop) 19 = .ok (.ireturn, 1) := by decide +kernel
set_option maxHeartbeats 4000000 in
set_option maxRecDepth 100000 in
theorem T_H_drop_0 {d : Nat} {x1 : Int} {M : AMem} {Q : Option AV → AMem → Prop}  (h : CallR d 2 m_H_findWell [vR 3 0, vI x1] M (fun r2 M1 => okH 2 r2 = true ∧ (CallV d m_W_begin [vR 2 r2, vI (-1), vI 0, vI 0] M1 (fun M4 => Q (some (vI (M1 2 r2 6))) M4)))) : RunQ (d + 1) m_H_drop 0 [some (vR 3 0), some (vI x1), none, none] [] M Q := by
  refine q_aload_n 0 k_H_drop_0 rfl ?_
  refine q_iload_n 1 k_H_drop_1 rfl ?_
  refine q_vR 2 [vI x1] [] k_H_drop_2 lk_3_80 rfl rfl rfl rfl rfl rfl rfl rfl (CallR.mono (fun r2 M1 h6 => ?_) h)
  have ok3 := h6.1
  have h6' := h6.2
  refine q_astore_n 5 k_H_drop_5 (ls' := [some (vR 3 0), some (vI x1), some (vR 2 r2), none]) rfl rfl ?_
  refine q_aload_n 6 k_H_drop_6 rfl ?_
  refine q_getfield 7 k_H_drop_7 fk_3_129 ok3 (v := vI (M1 2 r2 6)) rfl ?_
  refine q_istore_n 10 k_H_drop_10 (ls' := [some (vR 3 0), some (vI x1), some (vR 2 r2), some (vI (M1 2 r2 6))]) rfl rfl ?_
  refine q_aload_n 11 k_H_drop_11 rfl ?_
  refine q_iconst 12 k_H_drop_12 ?_
  refine q_iconst 13 k_H_drop_13 ?_
  refine q_iconst 14 k_H_drop_14 ?_
  refine q_vV 15 [vI (-1), vI 0, vI 0] [] k_H_drop_15 lk_3_84 rfl rfl rfl ok3 rfl rfl rfl rfl (CallV.mono (fun M4 h7 => ?_) h6')
  refine q_iload_n 18 k_H_drop_18 rfl ?_
  exact q_iret 19 k_H_drop_19 rfl h7
theorem k_H_peek_0 : decode (mtC m_H_peek) 0 = .ok (.aload_n 0, 1) := by decide +kernel
theorem k_H_peek_1 : decode (mtC m_H_peek) 1 = .ok (.iload_n 1, 1) := by decide +kernel
theorem k_H_peek_2 : decode (mtC m_H_peek) 2 = .ok (.invokevirtual 80, 3) := by decide +kernel
theorem k_H_peek_5 : decode (mtC m_H_peek) 5 = .ok (.astore_n 2, 1) := by decide +kernel
theorem k_H_peek_6 : decode (mtC m_H_peek) 6 = .ok (.aload_n 2, 1) := by decide +kernel
theorem k_H_peek_7 : decode (mtC m_H_peek) 7 = .ok (.invokevirtual 101, 3) := by decide +kernel
theorem k_H_peek_10 : decode (mtC m_H_peek) 10 = .ok (.ifCond .eq 8, 3) := by decide +kernel
theorem k_H_peek_13 : decode (mtC m_H_peek) 13 = .ok (.bipush (-9), 2) := by decide +kernel
theorem k_H_peek_15 : decode (mtC m_H_peek) 15 = .ok (.goto 7, 3) := by decide +kernel
theorem k_H_peek_18 : decode (mtC m_H_peek) 18 = .ok (.aload_n 2, 1) := by decide +kernel
theorem k_H_peek_19 : decode (mtC m_H_peek) 19 = .ok (.invokevirtual 141, 3) := by decide +kernel
theorem k_H_peek_22 : decode (mtC m_H_peek) 22 = .ok (.ireturn, 1) := by decide +kernel
set_option maxHeartbeats 4000000 in
set_option maxRecDepth 100000 in
theorem T_H_peek_0 {d : Nat} {x1 : Int} {M : AMem} {Q : Option AV → AMem → Prop}  (h : CallR d 2 m_H_findWell [vR 3 0, vI x1] M (fun r2 M1 => okH 2 r2 = true ∧ (CallI d m_W_isDry [vR 2 r2] M1 (fun y5 M4 => ((wI y5 = 0) → CallI d m_W_nextNumber [vR 2 r2] M4 (fun y7 M6 => Q (some (vI y7)) M6)) ∧ (¬ (wI y5 = 0) → Q (some (vI (-9))) M4))))) : RunQ (d + 1) m_H_peek 0 [some (vR 3 0), some (vI x1), none] [] M Q := by
  refine q_aload_n 0 k_H_peek_0 rfl ?_
  refine q_iload_n 1 k_H_peek_1 rfl ?_
  refine q_vR 2 [vI x1] [] k_H_peek_2 lk_3_80 rfl rfl rfl rfl rfl rfl rfl rfl (CallR.mono (fun r2 M1 h8 => ?_) h)
  have ok3 := h8.1
  have h8' := h8.2
  refine q_astore_n 5 k_H_peek_5 (ls' := [some (vR 3 0), some (vI x1), some (vR 2 r2)]) rfl rfl ?_
  refine q_aload_n 6 k_H_peek_6 rfl ?_
  refine q_vI 7 [] [] k_H_peek_7 lk_3_101 rfl rfl rfl ok3 rfl rfl rfl rfl (CallI.mono (fun y5 M4 h9 => ?_) h8')
  refine q_if_eq 10 18 k_H_peek_10 rfl rfl (fun c10 => ?_) (fun c10 => ?_)
  · have h9t := h9.1 c10
    refine q_aload_n 18 k_H_peek_18 rfl ?_
    refine q_vI 19 [] [] k_H_peek_19 lk_3_141 rfl rfl rfl ok3 rfl rfl rfl rfl (CallI.mono (fun y7 M6 h10 => ?_) h9t)
    exact q_iret 22 k_H_peek_22 rfl h10
  · have h9f := h9.2 c10
    refine q_bipush 13 k_H_peek_13 (by decide) ?_
    refine q_goto 15 22 k_H_peek_15 rfl rfl ?_
    exact q_iret 22 k_H_peek_22 rfl h9f
theorem k_H_ofWell_0 : decode (mtC m_H_ofWell) 0 = .ok (.aload_n 0, 1) := by decide +kernel
theorem k_H_ofWell_1 : decode (mtC m_H_ofWell) 1 = .ok (.iload_n 1, 1) := by decide +kernel
theorem k_H_ofWell_2 : decode (mtC m_H_ofWell) 2 = .ok (.invokevirtual 80, 3) := by decide +kernel
theorem k_H_ofWell_5 : decode (mtC m_H_ofWell) 5 = .ok (.astore_n 3, 1) := by decide +kernel
theorem k_H_ofWell_6 : decode (mtC m_H_ofWell) 6 = .ok (.iload_n 2, 1) := by decide +kernel
theorem k_H_ofWell_7 : decode (mtC m_H_ofWell) 7 = .ok (.iconst 0, 1) := by decide +kernel
theorem k_H_ofWell_8 : decode (mtC m_H_ofWell) 8 = .ok (.bipush 9, 2) := by decide +kernel
theorem k_H_ofWell_10 : decode (mtC m_H_ofWell) 10 = .ok (.invokestatic 42, 3) := by decide +kernel
theorem k_H_ofWell_13 : decode (mtC m_H_ofWell) 13 = .ok (.iload_n 2, 1) := by decide +kernel
theorem k_H_ofWell_14 : decode (mtC m_H_ofWell) 14 = .ok (.tableswitch 116 0 8 #[50, 55, 60, 68, 73, 79, 85, 91, 111], 50) := by decide +kernel
theorem k_H_ofWell_64 : decode (mtC m_H_ofWell) 64 = .ok (.aload_n 3, 1) := by decide +kernel
theorem k_H_ofWell_65 : decode (mtC m_H_ofWell) 65 = .ok (.getfield 144, 3) := by decide +kernel
theorem k_H_ofWell_68 : decode (mtC m_H_ofWell) 68 = .ok (.ireturn, 1) := by decide +kernel
theorem k_H_ofWell_69 : decode (mtC m_H_ofWell) 69 = .ok (.aload_n 3, 1) := by decide +kernel
theorem k_H_ofWell_70 : decode (mtC m_H_ofWell) 70 = .ok (.getfield 129, 3) := by decide +kernel
theorem k_H_ofWell_73 : decode (mtC m_H_ofWell) 73 = .ok (.ireturn, 1) := by decide +kernel
theorem k_H_ofWell_74 : decode (mtC m_H_ofWell) 74 = .ok (.aload_n 3, 1) := by decide +kernel
theorem k_H_ofWell_75 : decode (mtC m_H_ofWell) 75 = .ok (.getfield 88, 3) := by decide +kernel
theorem k_H_ofWell_78 : decode (mtC m_H_ofWell) 78 = .ok (.getfield 92, 3) := by decide +kernel
theorem k_H_ofWell_81 : decode (mtC m_H_ofWell) 81 = .ok (.ireturn, 1) := by decide +kernel
theorem k_H_ofWell_82 : decode (mtC m_H_ofWell) 82 = .ok (.aload_n 3, 1) := by decide +kernel
theorem k_H_ofWell_83 : decode (mtC m_H_ofWell) 83 = .ok (.invokevirtual 132, 3) := by decide +kernel
theorem k_H_ofWell_86 : decode (mtC m_H_ofWell) 86 = .ok (.ireturn, 1) := by decide +kernel
theorem k_H_ofWell_87 : decode (mtC m_H_ofWell) 87 = .ok (.aload_n 3, 1) := by decide +kernel
theorem k_H_ofWell_88 : decode (mtC m_H_ofWell) 88 = .ok (.iconst 1, 1) := by decide +kernel
theorem k_H_ofWell_89 : decode (mtC m_H_ofWell) 89 = .ok (.invokevirtual 147, 3) := by decide +kernel
theorem k_H_ofWell_92 : decode (mtC m_H_ofWell) 92 = .ok (.ireturn, 1) := by decide +kernel
theorem k_H_ofWell_93 : decode (mtC m_H_ofWell) 93 = .ok (.aload_n 3, 1) := by decide +kernel
theorem k_H_ofWell_94 : decode (mtC m_H_ofWell) 94 = .ok (.iconst 2, 1) := by decide +kernel
theorem k_H_ofWell_95 : decode (mtC m_H_ofWell) 95 = .ok (.invokevirtual 147, 3) := by decide +kernel
theorem k_H_ofWell_98 : decode (mtC m_H_ofWell) 98 = .ok (.ireturn, 1) := by decide +kernel
theorem k_H_ofWell_99 : decode (mtC m_H_ofWell) 99 = .ok (.aload_n 3, 1) := by decide +kernel
theorem k_H_ofWell_100 : decode (mtC m_H_ofWell) 100 = .ok (.iconst 3, 1) := by decide +kernel
theorem k_H_ofWell_101 : decode (mtC m_H_ofWell) 101 = .ok (.invokevirtual 147, 3) := by decide +kernel
theorem k_H_ofWell_104 : decode (mtC m_H_ofWell) 104 = .ok (.ireturn, 1) := by decide +kernel
theorem k_H_ofWell_105 : decode (mtC m_H_ofWell) 105 = .ok (.aload_n 3, 1) := by decide +kernel
theorem k_H_ofWell_106 : decode (mtC m_H_ofWell) 106 = .ok (.invokevirtual 108, 3) := by decide +kernel
theorem k_H_ofWell_109 : decode (mtC m_H_ofWell) 109 = .ok (.ifCond .ne 14, 3) := by decide +kernel
theorem k_H_ofWell_112 : decode (mtC m_H_ofWell) 112 = .ok (.aload_n 3, 1) := by decide +kernel
theorem k_H_ofWell_113 : decode (mtC m_H_ofWell) 113 = .ok (.invokevirtual 101, 3) := by decide +kernel
theorem k_H_ofWell_116 : decode (mtC m_H_ofWell) 116 = .ok (.ifCond .eq 7, 3) := by decide +kernel
theorem k_H_ofWell_119 : decode (mtC m_H_ofWell) 119 = .ok (.iconst 1, 1) := by decide +kernel
theorem k_H_ofWell_120 : decode (mtC m_H_ofWell) 120 = .ok (.goto 4, 3) := by decide +kernel
theorem k_H_ofWell_123 : decode (mtC m_H_ofWell) 123 = .ok (.iconst 0, 1) := by decide +kernel
theorem k_H_ofWell_124 : decode (mtC m_H_ofWell) 124 = .ok (.ireturn, 1) := by decide +kernel
theorem k_H_ofWell_125 : decode (mtC m_H_ofWell) 125 = .ok (.aload_n 3, 1) := by decide +kernel
theorem k_H_ofWell_126 : decode (mtC m_H_ofWell) 126 = .ok (.invokevirtual 150, 3) := by decide +kernel
theorem k_H_ofWell_129 : decode (mtC m_H_ofWell) 129 = .ok (.ireturn, 1) := by decide +kernel
theorem k_H_ofWell_130 : decode (mtC m_H_ofWell) 130 = .ok (.aload_n 3, 1) := by decide +kernel
theorem k_H_ofWell_131 : decode (mtC m_H_ofWell) 131 = .ok (.getfield 126, 3) := by decide +kernel
theorem k_H_ofWell_134 : decode (mtC m_H_ofWell) 134 = .ok (.ireturn, 1) := by decide +kernel
set_option maxHeartbeats 4000000 in
set_option maxRecDepth 100000 in
theorem T_H_ofWell_0 {d : Nat} {x1 : Int} {x2 : Int} {M : AMem} {Q : Option AV → AMem → Prop}  (h : CallR d 2 m_H_findWell [vR 3 0, vI x1] M (fun r2 M1 => okH 2 r2 = true ∧ (CallV d m_H_requireWithin [vI x2, vI 0, vI 9] M1 (fun M4 => (wI x2 = 0 → Q (some (vI (M4 2 r2 2))) M4) ∧ (wI x2 = 1 → Q (some (vI (M4 2 r2 6))) M4) ∧ (wI x2 = 2 → Q (some (vI (M4 0 r2 1))) M4) ∧ (wI x2 = 3 → CallI d m_W_lastNumber [vR 2 r2] M4 (fun y7 M6 => Q (some (vI y7)) M6)) ∧ (wI x2 = 4 → CallI d m_W_lastPlace [vR 2 r2, vI 1] M4 (fun y9 M8 => Q (some (vI y9)) M8)) ∧ (wI x2 = 5 → CallI d m_W_lastPlace [vR 2 r2, vI 2] M4 (fun y11 M10 => Q (some (vI y11)) M10)) ∧ (wI x2 = 6 → CallI d m_W_lastPlace [vR 2 r2, vI 3] M4 (fun y13 M12 => Q (some (vI y13)) M12)) ∧ (wI x2 = 7 → CallI d m_W_isEmpty [vR 2 r2] M4 (fun y15 M14 => ((¬ wI y15 = 0) → Q (some (vI 0)) M14) ∧ (¬ (¬ wI y15 = 0) → CallI d m_W_isDry [vR 2 r2] M14 (fun y17 M16 => ((wI y17 = 0) → Q (some (vI 0)) M16) ∧ (¬ (wI y17 = 0) → Q (some (vI 1)) M16))))) ∧ (wI x2 = 8 → CallI d m_W_limit [vR 2 r2] M4 (fun y19 M18 => Q (some (vI y19)) M18)) ∧ ((wI x2 < 0 ∨ 8 < wI x2) → Q (some (vI (M4 2 r2 5))) M4))))) : RunQ (d + 1) m_H_ofWell 0 [some (vR 3 0), some (vI x1), some (vI x2), none] [] M Q := by
  refine q_aload_n 0 k_H_ofWell_0 rfl ?_
  refine q_iload_n 1 k_H_ofWell_1 rfl ?_
  refine q_vR 2 [vI x1] [] k_H_ofWell_2 lk_3_80 rfl rfl rfl rfl rfl rfl rfl rfl (CallR.mono (fun r2 M1 h20 => ?_) h)
  have ok3 := h20.1
  have h20' := h20.2
  refine q_astore_n 5 k_H_ofWell_5 (ls' := [some (vR 3 0), some (vI x1), some (vI x2), some (vR 2 r2)]) rfl rfl ?_
  refine q_iload_n 6 k_H_ofWell_6 rfl ?_
  refine q_iconst 7 k_H_ofWell_7 ?_
  refine q_bipush 8 k_H_ofWell_8 (by decide) ?_
  refine q_sV 10 [vI x2, vI 0, vI 9] [] k_H_ofWell_10 rfl lk_3_42 rfl rfl rfl rfl rfl rfl (CallV.mono (fun M4 h21 => ?_) h20')
  refine q_iload_n 13 k_H_ofWell_13 rfl ?_
  refine q_tsw 14 k_H_ofWell_14 rfl (fun c => ?_) (fun c1 c2 => ?_)
  · show RunQ _ _ 130 _ _ _ _
    have h21d := h21.2.2.2.2.2.2.2.2.2 c
    refine q_aload_n 130 k_H_ofWell_130 rfl ?_
    refine q_getfield 131 k_H_ofWell_131 fk_3_126 ok3 (v := vI (M4 2 r2 5)) rfl ?_
    exact q_iret 134 k_H_ofWell_134 rfl h21d
  · have cq : wI x2 = 0 ∨ wI x2 = 1 ∨ wI x2 = 2 ∨ wI x2 = 3 ∨ wI x2 = 4 ∨ wI x2 = 5 ∨ wI x2 = 6 ∨ wI x2 = 7 ∨ wI x2 = 8 := by omega
    rcases cq with cq | cq | cq | cq | cq | cq | cq | cq | cq
    · refine ⟨50, by rw [cq]; rfl, rfl, ?_⟩
      show RunQ _ _ 64 _ _ _ _
      have h210 := h21.1 cq
      refine q_aload_n 64 k_H_ofWell_64 rfl ?_
      refine q_getfield 65 k_H_ofWell_65 fk_3_144 ok3 (v := vI (M4 2 r2 2)) rfl ?_
      exact q_iret 68 k_H_ofWell_68 rfl h210
    · refine ⟨55, by rw [cq]; rfl, rfl, ?_⟩
      show RunQ _ _ 69 _ _ _ _
      have h211 := h21.2.1 cq
      refine q_aload_n 69 k_H_ofWell_69 rfl ?_
      refine q_getfield 70 k_H_ofWell_70 fk_3_129 ok3 (v := vI (M4 2 r2 6)) rfl ?_
      exact q_iret 73 k_H_ofWell_73 rfl h211
    · refine ⟨60, by rw [cq]; rfl, rfl, ?_⟩
      show RunQ _ _ 74 _ _ _ _
      have h212 := h21.2.2.1 cq
      refine q_aload_n 74 k_H_ofWell_74 rfl ?_
      refine q_getfield 75 k_H_ofWell_75 fk_3_88 ok3 (v := vR 0 r2) rfl ?_
      refine q_getfield 78 k_H_ofWell_78 fk_3_92 ok3 (v := vI (M4 0 r2 1)) rfl ?_
      exact q_iret 81 k_H_ofWell_81 rfl h212
    · refine ⟨68, by rw [cq]; rfl, rfl, ?_⟩
      show RunQ _ _ 82 _ _ _ _
      have h213 := h21.2.2.2.1 cq
      refine q_aload_n 82 k_H_ofWell_82 rfl ?_
      refine q_vI 83 [] [] k_H_ofWell_83 lk_3_132 rfl rfl rfl ok3 rfl rfl rfl rfl (CallI.mono (fun y7 M6 h22 => ?_) h213)
      exact q_iret 86 k_H_ofWell_86 rfl h22
    · refine ⟨73, by rw [cq]; rfl, rfl, ?_⟩
      show RunQ _ _ 87 _ _ _ _
      have h214 := h21.2.2.2.2.1 cq
      refine q_aload_n 87 k_H_ofWell_87 rfl ?_
      refine q_iconst 88 k_H_ofWell_88 ?_
      refine q_vI 89 [vI 1] [] k_H_ofWell_89 lk_3_147 rfl rfl rfl ok3 rfl rfl rfl rfl (CallI.mono (fun y9 M8 h23 => ?_) h214)
      exact q_iret 92 k_H_ofWell_92 rfl h23
    · refine ⟨79, by rw [cq]; rfl, rfl, ?_⟩
      show RunQ _ _ 93 _ _ _ _
      have h215 := h21.2.2.2.2.2.1 cq
      refine q_aload_n 93 k_H_ofWell_93 rfl ?_
      refine q_iconst 94 k_H_ofWell_94 ?_
      refine q_vI 95 [vI 2] [] k_H_ofWell_95 lk_3_147 rfl rfl rfl ok3 rfl rfl rfl rfl (CallI.mono (fun y11 M10 h24 => ?_) h215)
      exact q_iret 98 k_H_ofWell_98 rfl h24
    · refine ⟨85, by rw [cq]; rfl, rfl, ?_⟩
      show RunQ _ _ 99 _ _ _ _
      have h216 := h21.2.2.2.2.2.2.1 cq
      refine q_aload_n 99 k_H_ofWell_99 rfl ?_
      refine q_iconst 100 k_H_ofWell_100 ?_
      refine q_vI 101 [vI 3] [] k_H_ofWell_101 lk_3_147 rfl rfl rfl ok3 rfl rfl rfl rfl (CallI.mono (fun y13 M12 h25 => ?_) h216)
      exact q_iret 104 k_H_ofWell_104 rfl h25
    · refine ⟨91, by rw [cq]; rfl, rfl, ?_⟩
      show RunQ _ _ 105 _ _ _ _
      have h217 := h21.2.2.2.2.2.2.2.1 cq
      refine q_aload_n 105 k_H_ofWell_105 rfl ?_
      refine q_vI 106 [] [] k_H_ofWell_106 lk_3_108 rfl rfl rfl ok3 rfl rfl rfl rfl (CallI.mono (fun y15 M14 h26 => ?_) h217)
      refine q_if_ne 109 123 k_H_ofWell_109 rfl rfl (fun c109 => ?_) (fun c109 => ?_)
      · have h26t := h26.1 c109
        refine q_iconst 123 k_H_ofWell_123 ?_
        exact q_iret 124 k_H_ofWell_124 rfl h26t
      · have h26f := h26.2 c109
        refine q_aload_n 112 k_H_ofWell_112 rfl ?_
        refine q_vI 113 [] [] k_H_ofWell_113 lk_3_101 rfl rfl rfl ok3 rfl rfl rfl rfl (CallI.mono (fun y17 M16 h27 => ?_) h26f)
        refine q_if_eq 116 123 k_H_ofWell_116 rfl rfl (fun c116 => ?_) (fun c116 => ?_)
        · have h27t := h27.1 c116
          refine q_iconst 123 k_H_ofWell_123 ?_
          exact q_iret 124 k_H_ofWell_124 rfl h27t
        · have h27f := h27.2 c116
          refine q_iconst 119 k_H_ofWell_119 ?_
          refine q_goto 120 124 k_H_ofWell_120 rfl rfl ?_
          exact q_iret 124 k_H_ofWell_124 rfl h27f
    · refine ⟨111, by rw [cq]; rfl, rfl, ?_⟩
      show RunQ _ _ 125 _ _ _ _
      have h218 := h21.2.2.2.2.2.2.2.2.1 cq
      refine q_aload_n 125 k_H_ofWell_125 rfl ?_
      refine q_vI 126 [] [] k_H_ofWell_126 lk_3_150 rfl rfl rfl ok3 rfl rfl rfl rfl (CallI.mono (fun y19 M18 h28 => ?_) h218)
      exact q_iret 129 k_H_ofWell_129 rfl h28
theorem k_H_nth_0 : decode (mtC m_H_nth) 0 = .ok (.aload_n 0, 1) := by decide +kernel
theorem k_H_nth_1 : decode (mtC m_H_nth) 1 = .ok (.iload_n 1, 1) := by decide +kernel
theorem k_H_nth_2 : decode (mtC m_H_nth) 2 = .ok (.invokevirtual 80, 3) := by decide +kernel
theorem k_H_nth_5 : decode (mtC m_H_nth) 5 = .ok (.astore_n 3, 1) := by decide +kernel
theorem k_H_nth_6 : decode (mtC m_H_nth) 6 = .ok (.iload_n 2, 1) := by decide +kernel
theorem k_H_nth_7 : decode (mtC m_H_nth) 7 = .ok (.iconst 0, 1) := by decide +kernel
theorem k_H_nth_8 : decode (mtC m_H_nth) 8 = .ok (.bipush 99, 2) := by decide +kernel
theorem k_H_nth_10 : decode (mtC m_H_nth) 10 = .ok (.invokestatic 42, 3) := by decide +kernel
theorem k_H_nth_13 : decode (mtC m_H_nth) 13 = .ok (.aload_n 3, 1) := by decide +kernel
theorem k_H_nth_14 : decode (mtC m_H_nth) 14 = .ok (.invokevirtual 108, 3) := by decide +kernel
theorem k_H_nth_17 : decode (mtC m_H_nth) 17 = .ok (.ifCond .eq 6, 3) := by decide +kernel
theorem k_H_nth_20 : decode (mtC m_H_nth) 20 = .ok (.bipush (-9), 2) := by decide +kernel
theorem k_H_nth_22 : decode (mtC m_H_nth) 22 = .ok (.ireturn, 1) := by decide +kernel
theorem k_H_nth_23 : decode (mtC m_H_nth) 23 = .ok (.aload_n 0, 1) := by decide +kernel
theorem k_H_nth_24 : decode (mtC m_H_nth) 24 = .ok (.getfield 27, 3) := by decide +kernel
theorem k_H_nth_27 : decode (mtC m_H_nth) 27 = .ok (.aload_n 3, 1) := by decide +kernel
theorem k_H_nth_28 : decode (mtC m_H_nth) 28 = .ok (.invokevirtual 116, 3) := by decide +kernel
theorem k_H_nth_31 : decode (mtC m_H_nth) 31 = .ok (.aload_n 0, 1) := by decide +kernel
theorem k_H_nth_32 : decode (mtC m_H_nth) 32 = .ok (.getfield 27, 3) := by decide +kernel
theorem k_H_nth_35 : decode (mtC m_H_nth) 35 = .ok (.invokevirtual 123, 3) := by decide +kernel
theorem k_H_nth_38 : decode (mtC m_H_nth) 38 = .ok (.aload_n 0, 1) := by decide +kernel
theorem k_H_nth_39 : decode (mtC m_H_nth) 39 = .ok (.getfield 27, 3) := by decide +kernel
theorem k_H_nth_42 : decode (mtC m_H_nth) 42 = .ok (.iload_n 2, 1) := by decide +kernel
theorem k_H_nth_43 : decode (mtC m_H_nth) 43 = .ok (.invokevirtual 77, 3) := by decide +kernel
theorem k_H_nth_46 : decode (mtC m_H_nth) 46 = .ok (.ireturn, 1) := by decide +kernel
set_option maxHeartbeats 4000000 in
set_option maxRecDepth 100000 in
theorem T_H_nth_0 {d : Nat} {x1 : Int} {x2 : Int} {M : AMem} {Q : Option AV → AMem → Prop}  (h : CallR d 2 m_H_findWell [vR 3 0, vI x1] M (fun r2 M1 => okH 2 r2 = true ∧ (CallV d m_H_requireWithin [vI x2, vI 0, vI 99] M1 (fun M4 => CallI d m_W_isEmpty [vR 2 r2] M4 (fun y7 M6 => ((wI y7 = 0) → CallV d m_W_become [vR 2 5, vR 2 r2] M6 (fun M8 => CallV d m_W_restart [vR 2 5] M8 (fun M10 => CallI d m_W_numberBehind [vR 2 5, vI x2] M10 (fun y13 M12 => Q (some (vI y13)) M12)))) ∧ (¬ (wI y7 = 0) → Q (some (vI (-9))) M6)))))) : RunQ (d + 1) m_H_nth 0 [some (vR 3 0), some (vI x1), some (vI x2), none] [] M Q := by
  refine q_aload_n 0 k_H_nth_0 rfl ?_
  refine q_iload_n 1 k_H_nth_1 rfl ?_
  refine q_vR 2 [vI x1] [] k_H_nth_2 lk_3_80 rfl rfl rfl rfl rfl rfl rfl rfl (CallR.mono (fun r2 M1 h14 => ?_) h)
  have ok3 := h14.1
  have h14' := h14.2
  refine q_astore_n 5 k_H_nth_5 (ls' := [some (vR 3 0), some (vI x1), some (vI x2), some (vR 2 r2)]) rfl rfl ?_
  refine q_iload_n 6 k_H_nth_6 rfl ?_
  refine q_iconst 7 k_H_nth_7 ?_
  refine q_bipush 8 k_H_nth_8 (by decide) ?_
  refine q_sV 10 [vI x2, vI 0, vI 99] [] k_H_nth_10 rfl lk_3_42 rfl rfl rfl rfl rfl rfl (CallV.mono (fun M4 h15 => ?_) h14')
  refine q_aload_n 13 k_H_nth_13 rfl ?_
  refine q_vI 14 [] [] k_H_nth_14 lk_3_108 rfl rfl rfl ok3 rfl rfl rfl rfl (CallI.mono (fun y7 M6 h16 => ?_) h15)
  refine q_if_eq 17 23 k_H_nth_17 rfl rfl (fun c17 => ?_) (fun c17 => ?_)
  · have h16t := h16.1 c17
    refine q_aload_n 23 k_H_nth_23 rfl ?_
    refine q_getfield 24 k_H_nth_24 fk_3_27 rfl (v := vR 2 5) rfl ?_
    refine q_aload_n 27 k_H_nth_27 rfl ?_
    refine q_vV 28 [vR 2 r2] [] k_H_nth_28 lk_3_116 rfl rfl rfl rfl rfl rfl rfl rfl (CallV.mono (fun M8 h17 => ?_) h16t)
    refine q_aload_n 31 k_H_nth_31 rfl ?_
    refine q_getfield 32 k_H_nth_32 fk_3_27 rfl (v := vR 2 5) rfl ?_
    refine q_vV 35 [] [] k_H_nth_35 lk_3_123 rfl rfl rfl rfl rfl rfl rfl rfl (CallV.mono (fun M10 h18 => ?_) h17)
    refine q_aload_n 38 k_H_nth_38 rfl ?_
    refine q_getfield 39 k_H_nth_39 fk_3_27 rfl (v := vR 2 5) rfl ?_
    refine q_iload_n 42 k_H_nth_42 rfl ?_
    refine q_vI 43 [vI x2] [] k_H_nth_43 lk_3_77 rfl rfl rfl rfl rfl rfl rfl rfl (CallI.mono (fun y13 M12 h19 => ?_) h18)
    exact q_iret 46 k_H_nth_46 rfl h19
  · have h16f := h16.2 c17
    refine q_bipush 20 k_H_nth_20 (by decide) ?_
    exact q_iret 22 k_H_nth_22 rfl h16f
theorem k_H_upTo_0 : decode (mtC m_H_upTo) 0 = .ok (.aload_n 0, 1) := by decide +kernel
theorem k_H_upTo_1 : decode (mtC m_H_upTo) 1 = .ok (.iload_n 1, 1) := by decide +kernel
theorem k_H_upTo_2 : decode (mtC m_H_upTo) 2 = .ok (.invokevirtual 80, 3) := by decide +kernel
theorem k_H_upTo_5 : decode (mtC m_H_upTo) 5 = .ok (.astore_n 3, 1) := by decide +kernel
theorem k_H_upTo_6 : decode (mtC m_H_upTo) 6 = .ok (.iload_n 2, 1) := by decide +kernel
theorem k_H_upTo_7 : decode (mtC m_H_upTo) 7 = .ok (.iconst 0, 1) := by decide +kernel
theorem k_H_upTo_8 : decode (mtC m_H_upTo) 8 = .ok (.ldc 111, 2) := by decide +kernel
theorem k_H_upTo_10 : decode (mtC m_H_upTo) 10 = .ok (.invokestatic 42, 3) := by decide +kernel
theorem k_H_upTo_13 : decode (mtC m_H_upTo) 13 = .ok (.aload_n 3, 1) := by decide +kernel
theorem k_H_upTo_14 : decode (mtC m_H_upTo) 14 = .ok (.iload_n 2, 1) := by decide +kernel
theorem k_H_upTo_15 : decode (mtC m_H_upTo) 15 = .ok (.invokevirtual 153, 3) := by decide +kernel
theorem k_H_upTo_18 : decode (mtC m_H_upTo) 18 = .ok (.ifCond .eq 11, 3) := by decide +kernel
theorem k_H_upTo_21 : decode (mtC m_H_upTo) 21 = .ok (.aload_n 3, 1) := by decide +kernel
theorem k_H_upTo_22 : decode (mtC m_H_upTo) 22 = .ok (.iload_n 2, 1) := by decide +kernel
theorem k_H_upTo_23 : decode (mtC m_H_upTo) 23 = .ok (.invokevirtual 156, 3) := by decide +kernel
theorem k_H_upTo_26 : decode (mtC m_H_upTo) 26 = .ok (.goto 5, 3) := by decide +kernel
theorem k_H_upTo_29 : decode (mtC m_H_upTo) 29 = .ok (.bipush (-9), 2) := by decide +kernel
theorem k_H_upTo_31 : decode (mtC m_H_upTo) 31 = .ok (.ireturn, 1) := by decide +kernel
set_option maxHeartbeats 4000000 in
set_option maxRecDepth 100000 in
theorem T_H_upTo_0 {d : Nat} {x1 : Int} {x2 : Int} {M : AMem} {Q : Option AV → AMem → Prop}  (h : CallR d 2 m_H_findWell [vR 3 0, vI x1] M (fun r2 M1 => okH 2 r2 = true ∧ (CallV d m_H_requireWithin [vI x2, vI 0, vI 1000000] M1 (fun M4 => CallI d m_W_canCountTo [vR 2 r2, vI x2] M4 (fun y7 M6 => ((wI y7 = 0) → Q (some (vI (-9))) M6) ∧ (¬ (wI y7 = 0) → CallI d m_W_countUpTo [vR 2 r2, vI x2] M6 (fun y9 M8 => Q (some (vI y9)) M8))))))) : RunQ (d + 1) m_H_upTo 0 [some (vR 3 0), some (vI x1), some (vI x2), none] [] M Q := by
  refine q_aload_n 0 k_H_upTo_0 rfl ?_
  refine q_iload_n 1 k_H_upTo_1 rfl ?_
  refine q_vR 2 [vI x1] [] k_H_upTo_2 lk_3_80 rfl rfl rfl rfl rfl rfl rfl rfl (CallR.mono (fun r2 M1 h10 => ?_) h)
  have ok3 := h10.1
  have h10' := h10.2
  refine q_astore_n 5 k_H_upTo_5 (ls' := [some (vR 3 0), some (vI x1), some (vI x2), some (vR 2 r2)]) rfl rfl ?_
  refine q_iload_n 6 k_H_upTo_6 rfl ?_
  refine q_iconst 7 k_H_upTo_7 ?_
  refine q_ldc 8 k_H_upTo_8 ck_3_111 ?_
  refine q_sV 10 [vI x2, vI 0, vI 1000000] [] k_H_upTo_10 rfl lk_3_42 rfl rfl rfl rfl rfl rfl (CallV.mono (fun M4 h11 => ?_) h10')
  refine q_aload_n 13 k_H_upTo_13 rfl ?_
  refine q_iload_n 14 k_H_upTo_14 rfl ?_
  refine q_vI 15 [vI x2] [] k_H_upTo_15 lk_3_153 rfl rfl rfl ok3 rfl rfl rfl rfl (CallI.mono (fun y7 M6 h12 => ?_) h11)
  refine q_if_eq 18 29 k_H_upTo_18 rfl rfl (fun c18 => ?_) (fun c18 => ?_)
  · have h12t := h12.1 c18
    refine q_bipush 29 k_H_upTo_29 (by decide) ?_
    exact q_iret 31 k_H_upTo_31 rfl h12t
  · have h12f := h12.2 c18
    refine q_aload_n 21 k_H_upTo_21 rfl ?_
    refine q_iload_n 22 k_H_upTo_22 rfl ?_
    refine q_vI 23 [vI x2] [] k_H_upTo_23 lk_3_156 rfl rfl rfl ok3 rfl rfl rfl rfl (CallI.mono (fun y9 M8 h13 => ?_) h12f)
    refine q_goto 26 31 k_H_upTo_26 rfl rfl ?_
    exact q_iret 31 k_H_upTo_31 rfl h13
theorem k_H_ways_0 : decode (mtC m_H_ways) 0 = .ok (.aload_n 0, 1) := by decide +kernel
theorem k_H_ways_1 : decode (mtC m_H_ways) 1 = .ok (.iload_n 1, 1) := by decide +kernel
theorem k_H_ways_2 : decode (mtC m_H_ways) 2 = .ok (.invokevirtual 80, 3) := by decide +kernel
theorem k_H_ways_5 : decode (mtC m_H_ways) 5 = .ok (.astore_n 3, 1) := by decide +kernel
theorem k_H_ways_6 : decode (mtC m_H_ways) 6 = .ok (.iload_n 2, 1) := by decide +kernel
theorem k_H_ways_7 : decode (mtC m_H_ways) 7 = .ok (.iconst 0, 1) := by decide +kernel
theorem k_H_ways_8 : decode (mtC m_H_ways) 8 = .ok (.ldc 111, 2) := by decide +kernel
theorem k_H_ways_10 : decode (mtC m_H_ways) 10 = .ok (.invokestatic 42, 3) := by decide +kernel
theorem k_H_ways_13 : decode (mtC m_H_ways) 13 = .ok (.aload_n 3, 1) := by decide +kernel
theorem k_H_ways_14 : decode (mtC m_H_ways) 14 = .ok (.iload_n 2, 1) := by decide +kernel
theorem k_H_ways_15 : decode (mtC m_H_ways) 15 = .ok (.invokevirtual 153, 3) := by decide +kernel
theorem k_H_ways_18 : decode (mtC m_H_ways) 18 = .ok (.ifCond .ne 6, 3) := by decide +kernel
theorem k_H_ways_21 : decode (mtC m_H_ways) 21 = .ok (.bipush (-9), 2) := by decide +kernel
theorem k_H_ways_23 : decode (mtC m_H_ways) 23 = .ok (.ireturn, 1) := by decide +kernel
theorem k_H_ways_24 : decode (mtC m_H_ways) 24 = .ok (.aload_n 3, 1) := by decide +kernel
theorem k_H_ways_25 : decode (mtC m_H_ways) 25 = .ok (.iload_n 2, 1) := by decide +kernel
theorem k_H_ways_26 : decode (mtC m_H_ways) 26 = .ok (.invokevirtual 156, 3) := by decide +kernel
theorem k_H_ways_29 : decode (mtC m_H_ways) 29 = .ok (.aload_n 3, 1) := by decide +kernel
theorem k_H_ways_30 : decode (mtC m_H_ways) 30 = .ok (.iload_n 2, 1) := by decide +kernel
theorem k_H_ways_31 : decode (mtC m_H_ways) 31 = .ok (.iconst 1, 1) := by decide +kernel
theorem k_H_ways_32 : decode (mtC m_H_ways) 32 = .ok (.isub, 1) := by decide +kernel
theorem k_H_ways_33 : decode (mtC m_H_ways) 33 = .ok (.invokevirtual 156, 3) := by decide +kernel
theorem k_H_ways_36 : decode (mtC m_H_ways) 36 = .ok (.isub, 1) := by decide +kernel
theorem k_H_ways_37 : decode (mtC m_H_ways) 37 = .ok (.ireturn, 1) := by decide +kernel
set_option maxHeartbeats 4000000 in
set_option maxRecDepth 100000 in
theorem T_H_ways_0 {d : Nat} {x1 : Int} {x2 : Int} {M : AMem} {Q : Option AV → AMem → Prop}  (h : CallR d 2 m_H_findWell [vR 3 0, vI x1] M (fun r2 M1 => okH 2 r2 = true ∧ (CallV d m_H_requireWithin [vI x2, vI 0, vI 1000000] M1 (fun M4 => CallI d m_W_canCountTo [vR 2 r2, vI x2] M4 (fun y7 M6 => ((¬ wI y7 = 0) → CallI d m_W_countUpTo [vR 2 r2, vI x2] M6 (fun y9 M8 => CallI d m_W_countUpTo [vR 2 r2, vI (x2 - 1)] M8 (fun y11 M10 => Q (some (vI (y9 - y11))) M10))) ∧ (¬ (¬ wI y7 = 0) → Q (some (vI (-9))) M6)))))) : RunQ (d + 1) m_H_ways 0 [some (vR 3 0), some (vI x1), some (vI x2), none] [] M Q := by
  refine q_aload_n 0 k_H_ways_0 rfl ?_
  refine q_iload_n 1 k_H_ways_1 rfl ?_
  refine q_vR 2 [vI x1] [] k_H_ways_2 lk_3_80 rfl rfl rfl rfl rfl rfl rfl rfl (CallR.mono (fun r2 M1 h12 => ?_) h)
  have ok3 := h12.1
  have h12' := h12.2
  refine q_astore_n 5 k_H_ways_5 (ls' := [some (vR 3 0), some (vI x1), some (vI x2), some (vR 2 r2)]) rfl rfl ?_
  refine q_iload_n 6 k_H_ways_6 rfl ?_
  refine q_iconst 7 k_H_ways_7 ?_
  refine q_ldc 8 k_H_ways_8 ck_3_111 ?_
  refine q_sV 10 [vI x2, vI 0, vI 1000000] [] k_H_ways_10 rfl lk_3_42 rfl rfl rfl rfl rfl rfl (CallV.mono (fun M4 h13 => ?_) h12')
  refine q_aload_n 13 k_H_ways_13 rfl ?_
  refine q_iload_n 14 k_H_ways_14 rfl ?_
  refine q_vI 15 [vI x2] [] k_H_ways_15 lk_3_153 rfl rfl rfl ok3 rfl rfl rfl rfl (CallI.mono (fun y7 M6 h14 => ?_) h13)
  refine q_if_ne 18 24 k_H_ways_18 rfl rfl (fun c18 => ?_) (fun c18 => ?_)
  · have h14t := h14.1 c18
    refine q_aload_n 24 k_H_ways_24 rfl ?_
    refine q_iload_n 25 k_H_ways_25 rfl ?_
    refine q_vI 26 [vI x2] [] k_H_ways_26 lk_3_156 rfl rfl rfl ok3 rfl rfl rfl rfl (CallI.mono (fun y9 M8 h15 => ?_) h14t)
    refine q_aload_n 29 k_H_ways_29 rfl ?_
    refine q_iload_n 30 k_H_ways_30 rfl ?_
    refine q_iconst 31 k_H_ways_31 ?_
    refine q_isub 32 k_H_ways_32 ?_
    refine q_vI 33 [vI (x2 - 1)] [vI y9] k_H_ways_33 lk_3_156 rfl rfl rfl ok3 rfl rfl rfl rfl (CallI.mono (fun y11 M10 h16 => ?_) h15)
    refine q_isub 36 k_H_ways_36 ?_
    exact q_iret 37 k_H_ways_37 rfl h16
  · have h14f := h14.2 c18
    refine q_bipush 21 k_H_ways_21 (by decide) ?_
    exact q_iret 23 k_H_ways_23 rfl h14f
theorem k_H_waits_0 : decode (mtC m_H_waits) 0 = .ok (.aload_n 0, 1) := by decide +kernel
theorem k_H_waits_1 : decode (mtC m_H_waits) 1 = .ok (.iload_n 1, 1) := by decide +kernel
theorem k_H_waits_2 : decode (mtC m_H_waits) 2 = .ok (.invokevirtual 80, 3) := by decide +kernel
theorem k_H_waits_5 : decode (mtC m_H_waits) 5 = .ok (.astore_n 3, 1) := by decide +kernel
theorem k_H_waits_6 : decode (mtC m_H_waits) 6 = .ok (.iload_n 2, 1) := by decide +kernel
theorem k_H_waits_7 : decode (mtC m_H_waits) 7 = .ok (.iconst 0, 1) := by decide +kernel
theorem k_H_waits_8 : decode (mtC m_H_waits) 8 = .ok (.ldc 111, 2) := by decide +kernel
theorem k_H_waits_10 : decode (mtC m_H_waits) 10 = .ok (.invokestatic 42, 3) := by decide +kernel
theorem k_H_waits_13 : decode (mtC m_H_waits) 13 = .ok (.aload_n 3, 1) := by decide +kernel
theorem k_H_waits_14 : decode (mtC m_H_waits) 14 = .ok (.invokevirtual 108, 3) := by decide +kernel
theorem k_H_waits_17 : decode (mtC m_H_waits) 17 = .ok (.ifCond .eq 8, 3) := by decide +kernel
theorem k_H_waits_20 : decode (mtC m_H_waits) 20 = .ok (.bipush (-9), 2) := by decide +kernel
theorem k_H_waits_22 : decode (mtC m_H_waits) 22 = .ok (.goto 11, 3) := by decide +kernel
theorem k_H_waits_25 : decode (mtC m_H_waits) 25 = .ok (.aload_n 3, 1) := by decide +kernel
theorem k_H_waits_26 : decode (mtC m_H_waits) 26 = .ok (.getfield 88, 3) := by decide +kernel
theorem k_H_waits_29 : decode (mtC m_H_waits) 29 = .ok (.iload_n 2, 1) := by decide +kernel
theorem k_H_waits_30 : decode (mtC m_H_waits) 30 = .ok (.invokevirtual 159, 3) := by decide +kernel
theorem k_H_waits_33 : decode (mtC m_H_waits) 33 = .ok (.ireturn, 1) := by decide +kernel
set_option maxHeartbeats 4000000 in
set_option maxRecDepth 100000 in
theorem T_H_waits_0 {d : Nat} {x1 : Int} {x2 : Int} {M : AMem} {Q : Option AV → AMem → Prop}  (h : CallR d 2 m_H_findWell [vR 3 0, vI x1] M (fun r2 M1 => okH 2 r2 = true ∧ (CallV d m_H_requireWithin [vI x2, vI 0, vI 1000000] M1 (fun M4 => CallI d m_W_isEmpty [vR 2 r2] M4 (fun y7 M6 => ((wI y7 = 0) → CallI d m_Q_countUpTo [vR 0 r2, vI x2] M6 (fun y9 M8 => Q (some (vI y9)) M8)) ∧ (¬ (wI y7 = 0) → Q (some (vI (-9))) M6)))))) : RunQ (d + 1) m_H_waits 0 [some (vR 3 0), some (vI x1), some (vI x2), none] [] M Q := by
  refine q_aload_n 0 k_H_waits_0 rfl ?_
  refine q_iload_n 1 k_H_waits_1 rfl ?_
  refine q_vR 2 [vI x1] [] k_H_waits_2 lk_3_80 rfl rfl rfl rfl rfl rfl rfl rfl (CallR.mono (fun r2 M1 h10 => ?_) h)
  have ok3 := h10.1
  have h10' := h10.2
  refine q_astore_n 5 k_H_waits_5 (ls' := [some (vR 3 0), some (vI x1), some (vI x2), some (vR 2 r2)]) rfl rfl ?_
  refine q_iload_n 6 k_H_waits_6 rfl ?_
  refine q_iconst 7 k_H_waits_7 ?_
  refine q_ldc 8 k_H_waits_8 ck_3_111 ?_
  refine q_sV 10 [vI x2, vI 0, vI 1000000] [] k_H_waits_10 rfl lk_3_42 rfl rfl rfl rfl rfl rfl (CallV.mono (fun M4 h11 => ?_) h10')
  refine q_aload_n 13 k_H_waits_13 rfl ?_
  refine q_vI 14 [] [] k_H_waits_14 lk_3_108 rfl rfl rfl ok3 rfl rfl rfl rfl (CallI.mono (fun y7 M6 h12 => ?_) h11)
  refine q_if_eq 17 25 k_H_waits_17 rfl rfl (fun c17 => ?_) (fun c17 => ?_)
  · have h12t := h12.1 c17
    refine q_aload_n 25 k_H_waits_25 rfl ?_
    refine q_getfield 26 k_H_waits_26 fk_3_88 ok3 (v := vR 0 r2) rfl ?_
    refine q_iload_n 29 k_H_waits_29 rfl ?_
    refine q_vI 30 [vI x2] [] k_H_waits_30 lk_3_159 rfl rfl rfl ok3 rfl rfl rfl rfl (CallI.mono (fun y9 M8 h13 => ?_) h12t)
    exact q_iret 33 k_H_waits_33 rfl h13
  · have h12f := h12.2 c17
    refine q_bipush 20 k_H_waits_20 (by decide) ?_
    refine q_goto 22 33 k_H_waits_22 rfl rfl ?_
    exact q_iret 33 k_H_waits_33 rfl h12f
theorem k_H_isAlike_0 : decode (mtC m_H_isAlike) 0 = .ok (.aload_n 0, 1) := by decide +kernel
theorem k_H_isAlike_1 : decode (mtC m_H_isAlike) 1 = .ok (.iload_n 1, 1) := by decide +kernel
theorem k_H_isAlike_2 : decode (mtC m_H_isAlike) 2 = .ok (.invokevirtual 80, 3) := by decide +kernel
theorem k_H_isAlike_5 : decode (mtC m_H_isAlike) 5 = .ok (.astore_n 3, 1) := by decide +kernel
theorem k_H_isAlike_6 : decode (mtC m_H_isAlike) 6 = .ok (.aload_n 0, 1) := by decide +kernel
theorem k_H_isAlike_7 : decode (mtC m_H_isAlike) 7 = .ok (.iload_n 2, 1) := by decide +kernel
theorem k_H_isAlike_8 : decode (mtC m_H_isAlike) 8 = .ok (.invokevirtual 80, 3) := by decide +kernel
theorem k_H_isAlike_11 : decode (mtC m_H_isAlike) 11 = .ok (.astore 4, 2) := by decide +kernel
theorem k_H_isAlike_13 : decode (mtC m_H_isAlike) 13 = .ok (.aload_n 0, 1) := by decide +kernel
theorem k_H_isAlike_14 : decode (mtC m_H_isAlike) 14 = .ok (.getfield 27, 3) := by decide +kernel
theorem k_H_isAlike_17 : decode (mtC m_H_isAlike) 17 = .ok (.aload_n 3, 1) := by decide +kernel
theorem k_H_isAlike_18 : decode (mtC m_H_isAlike) 18 = .ok (.invokevirtual 116, 3) := by decide +kernel
theorem k_H_isAlike_21 : decode (mtC m_H_isAlike) 21 = .ok (.aload_n 0, 1) := by decide +kernel
theorem k_H_isAlike_22 : decode (mtC m_H_isAlike) 22 = .ok (.getfield 31, 3) := by decide +kernel
theorem k_H_isAlike_25 : decode (mtC m_H_isAlike) 25 = .ok (.aload 4, 2) := by decide +kernel
theorem k_H_isAlike_27 : decode (mtC m_H_isAlike) 27 = .ok (.invokevirtual 116, 3) := by decide +kernel
theorem k_H_isAlike_30 : decode (mtC m_H_isAlike) 30 = .ok (.aload_n 0, 1) := by decide +kernel
theorem k_H_isAlike_31 : decode (mtC m_H_isAlike) 31 = .ok (.invokevirtual 170, 3) := by decide +kernel
theorem k_H_isAlike_34 : decode (mtC m_H_isAlike) 34 = .ok (.ireturn, 1) := by decide +kernel
set_option maxHeartbeats 4000000 in
set_option maxRecDepth 100000 in
theorem T_H_isAlike_0 {d : Nat} {x1 : Int} {x2 : Int} {M : AMem} {Q : Option AV → AMem → Prop}  (h : CallR d 2 m_H_findWell [vR 3 0, vI x1] M (fun r2 M1 => okH 2 r2 = true ∧ (CallR d 2 m_H_findWell [vR 3 0, vI x2] M1 (fun r5 M4 => okH 2 r5 = true ∧ (CallV d m_W_become [vR 2 5, vR 2 r2] M4 (fun M7 => CallV d m_W_become [vR 2 6, vR 2 r5] M7 (fun M9 => CallI d m_H_doTrialsTellAlike [vR 3 0] M9 (fun y12 M11 => (y12 = 0 ∨ y12 = 1) ∧ Q (some (vI y12)) M11)))))))) : RunQ (d + 1) m_H_isAlike 0 [some (vR 3 0), some (vI x1), some (vI x2), none, none] [] M Q := by
  refine q_aload_n 0 k_H_isAlike_0 rfl ?_
  refine q_iload_n 1 k_H_isAlike_1 rfl ?_
  refine q_vR 2 [vI x1] [] k_H_isAlike_2 lk_3_80 rfl rfl rfl rfl rfl rfl rfl rfl (CallR.mono (fun r2 M1 h13 => ?_) h)
  have ok3 := h13.1
  have h13' := h13.2
  refine q_astore_n 5 k_H_isAlike_5 (ls' := [some (vR 3 0), some (vI x1), some (vI x2), some (vR 2 r2), none]) rfl rfl ?_
  refine q_aload_n 6 k_H_isAlike_6 rfl ?_
  refine q_iload_n 7 k_H_isAlike_7 rfl ?_
  refine q_vR 8 [vI x2] [] k_H_isAlike_8 lk_3_80 rfl rfl rfl rfl rfl rfl rfl rfl (CallR.mono (fun r5 M4 h14 => ?_) h13')
  have ok6 := h14.1
  have h14' := h14.2
  refine q_astore 11 k_H_isAlike_11 (ls' := [some (vR 3 0), some (vI x1), some (vI x2), some (vR 2 r2), some (vR 2 r5)]) rfl rfl ?_
  refine q_aload_n 13 k_H_isAlike_13 rfl ?_
  refine q_getfield 14 k_H_isAlike_14 fk_3_27 rfl (v := vR 2 5) rfl ?_
  refine q_aload_n 17 k_H_isAlike_17 rfl ?_
  refine q_vV 18 [vR 2 r2] [] k_H_isAlike_18 lk_3_116 rfl rfl rfl rfl rfl rfl rfl rfl (CallV.mono (fun M7 h15 => ?_) h14')
  refine q_aload_n 21 k_H_isAlike_21 rfl ?_
  refine q_getfield 22 k_H_isAlike_22 fk_3_31 rfl (v := vR 2 6) rfl ?_
  refine q_aload 25 k_H_isAlike_25 rfl ?_
  refine q_vV 27 [vR 2 r5] [] k_H_isAlike_27 lk_3_116 rfl rfl rfl rfl rfl rfl rfl rfl (CallV.mono (fun M9 h16 => ?_) h15)
  refine q_aload_n 30 k_H_isAlike_30 rfl ?_
  refine q_vI 31 [] [] k_H_isAlike_31 lk_3_170 rfl rfl rfl rfl rfl rfl rfl rfl (CallI.mono (fun y12 M11 h17 => ?_) h16)
  exact q_zret 34 k_H_isAlike_34 rfl h17.1 h17.2
theorem k_H_house_0 : decode (mtC m_H_house) 0 = .ok (.iload_n 1, 1) := by decide +kernel
theorem k_H_house_1 : decode (mtC m_H_house) 1 = .ok (.iconst 0, 1) := by decide +kernel
theorem k_H_house_2 : decode (mtC m_H_house) 2 = .ok (.iconst 5, 1) := by decide +kernel
theorem k_H_house_3 : decode (mtC m_H_house) 3 = .ok (.invokestatic 42, 3) := by decide +kernel
theorem k_H_house_6 : decode (mtC m_H_house) 6 = .ok (.iload_n 1, 1) := by decide +kernel
theorem k_H_house_7 : decode (mtC m_H_house) 7 = .ok (.iconst 5, 1) := by decide +kernel
theorem k_H_house_8 : decode (mtC m_H_house) 8 = .ok (.if_icmp .ne 8, 3) := by decide +kernel
theorem k_H_house_11 : decode (mtC m_H_house) 11 = .ok (.aload_n 0, 1) := by decide +kernel
theorem k_H_house_12 : decode (mtC m_H_house) 12 = .ok (.getfield 138, 3) := by decide +kernel
theorem k_H_house_15 : decode (mtC m_H_house) 15 = .ok (.ireturn, 1) := by decide +kernel
theorem k_H_house_16 : decode (mtC m_H_house) 16 = .ok (.iconst 0, 1) := by decide +kernel
theorem k_H_house_17 : decode (mtC m_H_house) 17 = .ok (.istore_n 2, 1) := by decide +kernel
theorem k_H_house_18 : decode (mtC m_H_house) 18 = .ok (.iload_n 1, 1) := by decide +kernel
theorem k_H_house_19 : decode (mtC m_H_house) 19 = .ok (.iconst 4, 1) := by decide +kernel
theorem k_H_house_20 : decode (mtC m_H_house) 20 = .ok (.if_icmp .ne 34, 3) := by decide +kernel
theorem k_H_house_23 : decode (mtC m_H_house) 23 = .ok (.iconst 0, 1) := by decide +kernel
theorem k_H_house_24 : decode (mtC m_H_house) 24 = .ok (.istore_n 3, 1) := by decide +kernel
theorem k_H_house_25 : decode (mtC m_H_house) 25 = .ok (.iload_n 3, 1) := by decide +kernel
theorem k_H_house_26 : decode (mtC m_H_house) 26 = .ok (.aload_n 0, 1) := by decide +kernel
theorem k_H_house_27 : decode (mtC m_H_house) 27 = .ok (.getfield 11, 3) := by decide +kernel
theorem k_H_house_30 : decode (mtC m_H_house) 30 = .ok (.arraylength, 1) := by decide +kernel
theorem k_H_house_31 : decode (mtC m_H_house) 31 = .ok (.if_icmp .ge 21, 3) := by decide +kernel
theorem k_H_house_34 : decode (mtC m_H_house) 34 = .ok (.iload_n 2, 1) := by decide +kernel
theorem k_H_house_35 : decode (mtC m_H_house) 35 = .ok (.aload_n 0, 1) := by decide +kernel
theorem k_H_house_36 : decode (mtC m_H_house) 36 = .ok (.getfield 11, 3) := by decide +kernel
theorem k_H_house_39 : decode (mtC m_H_house) 39 = .ok (.iload_n 3, 1) := by decide +kernel
theorem k_H_house_40 : decode (mtC m_H_house) 40 = .ok (.aaload, 1) := by decide +kernel
theorem k_H_house_41 : decode (mtC m_H_house) 41 = .ok (.getfield 46, 3) := by decide +kernel
theorem k_H_house_44 : decode (mtC m_H_house) 44 = .ok (.iadd, 1) := by decide +kernel
theorem k_H_house_45 : decode (mtC m_H_house) 45 = .ok (.istore_n 2, 1) := by decide +kernel
theorem k_H_house_46 : decode (mtC m_H_house) 46 = .ok (.iinc 3 1, 3) := by decide +kernel
theorem k_H_house_49 : decode (mtC m_H_house) 49 = .ok (.goto (-24), 3) := by decide +kernel
theorem k_H_house_52 : decode (mtC m_H_house) 52 = .ok (.iload_n 2, 1) := by decide +kernel
theorem k_H_house_53 : decode (mtC m_H_house) 53 = .ok (.ireturn, 1) := by decide +kernel
theorem k_H_house_54 : decode (mtC m_H_house) 54 = .ok (.iconst 0, 1) := by decide +kernel
theorem k_H_house_55 : decode (mtC m_H_house) 55 = .ok (.istore_n 3, 1) := by decide +kernel
theorem k_H_house_56 : decode (mtC m_H_house) 56 = .ok (.iload_n 3, 1) := by decide +kernel
theorem k_H_house_57 : decode (mtC m_H_house) 57 = .ok (.aload_n 0, 1) := by decide +kernel
theorem k_H_house_58 : decode (mtC m_H_house) 58 = .ok (.getfield 22, 3) := by decide +kernel
theorem k_H_house_61 : decode (mtC m_H_house) 61 = .ok (.arraylength, 1) := by decide +kernel
theorem k_H_house_62 : decode (mtC m_H_house) 62 = .ok (.if_icmp .ge 22, 3) := by decide +kernel
theorem k_H_house_65 : decode (mtC m_H_house) 65 = .ok (.iload_n 2, 1) := by decide +kernel
theorem k_H_house_66 : decode (mtC m_H_house) 66 = .ok (.aload_n 0, 1) := by decide +kernel
theorem k_H_house_67 : decode (mtC m_H_house) 67 = .ok (.getfield 22, 3) := by decide +kernel
theorem k_H_house_70 : decode (mtC m_H_house) 70 = .ok (.iload_n 3, 1) := by decide +kernel
theorem k_H_house_71 : decode (mtC m_H_house) 71 = .ok (.aaload, 1) := by decide +kernel
theorem k_H_house_72 : decode (mtC m_H_house) 72 = .ok (.iload_n 1, 1) := by decide +kernel
theorem k_H_house_73 : decode (mtC m_H_house) 73 = .ok (.invokestatic 173, 3) := by decide +kernel
theorem k_H_house_76 : decode (mtC m_H_house) 76 = .ok (.iadd, 1) := by decide +kernel
theorem k_H_house_77 : decode (mtC m_H_house) 77 = .ok (.istore_n 2, 1) := by decide +kernel
theorem k_H_house_78 : decode (mtC m_H_house) 78 = .ok (.iinc 3 1, 3) := by decide +kernel
theorem k_H_house_81 : decode (mtC m_H_house) 81 = .ok (.goto (-25), 3) := by decide +kernel
theorem k_H_house_84 : decode (mtC m_H_house) 84 = .ok (.iload_n 2, 1) := by decide +kernel
theorem k_H_house_85 : decode (mtC m_H_house) 85 = .ok (.ireturn, 1) := by decide +kernel
set_option maxHeartbeats 4000000 in
set_option maxRecDepth 100000 in
theorem T_H_house_0 {d : Nat} {x1 : Int} {M : AMem} {Q : Option AV → AMem → Prop}  (h : CallV d m_H_requireWithin [vI x1, vI 0, vI 5] M (fun M1 => ((¬ wI x1 = 5) → ((¬ wI x1 = 4) → RunQ (d + 1) m_H_house 56 [some (vR 3 0), some (vI x1), some (vI 0), some (vI 0)] [] M1 Q) ∧ (¬ (¬ wI x1 = 4) → RunQ (d + 1) m_H_house 25 [some (vR 3 0), some (vI x1), some (vI 0), some (vI 0)] [] M1 Q)) ∧ (¬ (¬ wI x1 = 5) → Q (some (vI (M1 3 0 5))) M1))) : RunQ (d + 1) m_H_house 0 [some (vR 3 0), some (vI x1), none, none] [] M Q := by
  refine q_iload_n 0 k_H_house_0 rfl ?_
  refine q_iconst 1 k_H_house_1 ?_
  refine q_iconst 2 k_H_house_2 ?_
  refine q_sV 3 [vI x1, vI 0, vI 5] [] k_H_house_3 rfl lk_3_42 rfl rfl rfl rfl rfl rfl (CallV.mono (fun M1 h3 => ?_) h)
  refine q_iload_n 6 k_H_house_6 rfl ?_
  refine q_iconst 7 k_H_house_7 ?_
  refine q_icmp_ne 8 16 k_H_house_8 rfl rfl (fun c8 => ?_) (fun c8 => ?_)
  · have h3t := h3.1 c8
    refine q_iconst 16 k_H_house_16 ?_
    refine q_istore_n 17 k_H_house_17 (ls' := [some (vR 3 0), some (vI x1), some (vI 0), none]) rfl rfl ?_
    refine q_iload_n 18 k_H_house_18 rfl ?_
    refine q_iconst 19 k_H_house_19 ?_
    refine q_icmp_ne 20 54 k_H_house_20 rfl rfl (fun c20 => ?_) (fun c20 => ?_)
    · have h3tt := h3t.1 c20
      refine q_iconst 54 k_H_house_54 ?_
      refine q_istore_n 55 k_H_house_55 (ls' := [some (vR 3 0), some (vI x1), some (vI 0), some (vI 0)]) rfl rfl ?_
      exact h3tt
    · have h3tf := h3t.2 c20
      refine q_iconst 23 k_H_house_23 ?_
      refine q_istore_n 24 k_H_house_24 (ls' := [some (vR 3 0), some (vI x1), some (vI 0), some (vI 0)]) rfl rfl ?_
      exact h3tf
  · have h3f := h3.2 c8
    refine q_aload_n 11 k_H_house_11 rfl ?_
    refine q_getfield 12 k_H_house_12 fk_3_138 rfl (v := vI (M1 3 0 5)) rfl ?_
    exact q_iret 15 k_H_house_15 rfl h3f
set_option maxHeartbeats 4000000 in
set_option maxRecDepth 100000 in
theorem T_H_house_56 {d : Nat} {x1 : Int} {x2 : Int} {x3 : Int} {M : AMem} {Q : Option AV → AMem → Prop}  (h : ((5 ≤ wI x3) → Q (some (vI x2)) M) ∧ (¬ (5 ≤ wI x3) → (0 ≤ wI x3 ∧ wI x3 < (5 : Nat)) ∧ (CallI d m_H_shareOf [vR 2 ((wI x3).toNat), vI x1] M (fun y3 M2 => RunQ (d + 1) m_H_house 56 [some (vR 3 0), some (vI x1), some (vI (x2 + y3)), some (vI (x3 + 1))] [] M2 Q)))) : RunQ (d + 1) m_H_house 56 [some (vR 3 0), some (vI x1), some (vI x2), some (vI x3)] [] M Q := by
  refine q_iload_n 56 k_H_house_56 rfl ?_
  refine q_aload_n 57 k_H_house_57 rfl ?_
  refine q_getfield 58 k_H_house_58 fk_3_22 rfl (v := vR 8 0) rfl ?_
  refine q_alen 61 k_H_house_61 rfl rfl (z := 5) rfl ?_
  refine q_icmp_ge 62 84 k_H_house_62 rfl rfl (fun c62 => ?_) (fun c62 => ?_)
  · have ht := h.1 c62
    refine q_iload_n 84 k_H_house_84 rfl ?_
    exact q_iret 85 k_H_house_85 rfl ht
  · have hf := h.2 c62
    refine q_iload_n 65 k_H_house_65 rfl ?_
    refine q_aload_n 66 k_H_house_66 rfl ?_
    refine q_getfield 67 k_H_house_67 fk_3_22 rfl (v := vR 8 0) rfl ?_
    refine q_iload_n 70 k_H_house_70 rfl ?_
    have hb1 := hf.1
    refine q_aaload 71 k_H_house_71 rfl (n := 5) rfl hb1 (kd := 2) (x := (wI x3).toNat) rfl ?_
    have hf' := hf.2
    refine q_iload_n 72 k_H_house_72 rfl ?_
    refine q_sI 73 [vR 2 ((wI x3).toNat), vI x1] [vI x2] k_H_house_73 rfl lk_3_173 rfl rfl rfl rfl rfl rfl (CallI.mono (fun y3 M2 h4 => ?_) hf')
    refine q_iadd 76 k_H_house_76 ?_
    refine q_istore_n 77 k_H_house_77 (ls' := [some (vR 3 0), some (vI x1), some (vI (x2 + y3)), some (vI x3)]) rfl rfl ?_
    refine q_iinc 78 k_H_house_78 (ls' := [some (vR 3 0), some (vI x1), some (vI (x2 + y3)), some (vI (x3 + 1))]) rfl rfl rfl ?_
    refine q_goto 81 56 k_H_house_81 rfl rfl ?_
    exact h4
set_option maxHeartbeats 4000000 in
set_option maxRecDepth 100000 in
theorem T_H_house_25 {d : Nat} {x1 : Int} {x2 : Int} {x3 : Int} {M : AMem} {Q : Option AV → AMem → Prop}  (h : ((6 ≤ wI x3) → Q (some (vI x2)) M) ∧ (¬ (6 ≤ wI x3) → (0 ≤ wI x3 ∧ wI x3 < (6 : Nat)) ∧ (RunQ (d + 1) m_H_house 25 [some (vR 3 0), some (vI x1), some (vI (x2 + (M 1 (42 + (wI x3).toNat) 1))), some (vI (x3 + 1))] [] M Q))) : RunQ (d + 1) m_H_house 25 [some (vR 3 0), some (vI x1), some (vI x2), some (vI x3)] [] M Q := by
  refine q_iload_n 25 k_H_house_25 rfl ?_
  refine q_aload_n 26 k_H_house_26 rfl ?_
  refine q_getfield 27 k_H_house_27 fk_3_11 rfl (v := vR 7 0) rfl ?_
  refine q_alen 30 k_H_house_30 rfl rfl (z := 6) rfl ?_
  refine q_icmp_ge 31 52 k_H_house_31 rfl rfl (fun c31 => ?_) (fun c31 => ?_)
  · have ht := h.1 c31
    refine q_iload_n 52 k_H_house_52 rfl ?_
    exact q_iret 53 k_H_house_53 rfl ht
  · have hf := h.2 c31
    refine q_iload_n 34 k_H_house_34 rfl ?_
    refine q_aload_n 35 k_H_house_35 rfl ?_
    refine q_getfield 36 k_H_house_36 fk_3_11 rfl (v := vR 7 0) rfl ?_
    refine q_iload_n 39 k_H_house_39 rfl ?_
    have hb1 := hf.1
    refine q_aaload 40 k_H_house_40 rfl (n := 6) rfl hb1 (kd := 1) (x := (42 + (wI x3).toNat)) rfl ?_
    have hf' := hf.2
    refine q_getfield 41 k_H_house_41 fk_3_46 (ok_r7 hb1) (v := vI (M 1 (42 + (wI x3).toNat) 1)) rfl ?_
    refine q_iadd 44 k_H_house_44 ?_
    refine q_istore_n 45 k_H_house_45 (ls' := [some (vR 3 0), some (vI x1), some (vI (x2 + (M 1 (42 + (wI x3).toNat) 1))), some (vI x3)]) rfl rfl ?_
    refine q_iinc 46 k_H_house_46 (ls' := [some (vR 3 0), some (vI x1), some (vI (x2 + (M 1 (42 + (wI x3).toNat) 1))), some (vI (x3 + 1))]) rfl rfl rfl ?_
    refine q_goto 49 25 k_H_house_49 rfl rfl ?_
    exact hf'
theorem k_H_isSound_0 : decode (mtC m_H_isSound) 0 = .ok (.aload_n 0, 1) := by decide +kernel
theorem k_H_isSound_1 : decode (mtC m_H_isSound) 1 = .ok (.invokevirtual 177, 3) := by decide +kernel
theorem k_H_isSound_4 : decode (mtC m_H_isSound) 4 = .ok (.ifCond .eq 10, 3) := by decide +kernel
theorem k_H_isSound_7 : decode (mtC m_H_isSound) 7 = .ok (.aload_n 0, 1) := by decide +kernel
theorem k_H_isSound_8 : decode (mtC m_H_isSound) 8 = .ok (.invokevirtual 180, 3) := by decide +kernel
theorem k_H_isSound_11 : decode (mtC m_H_isSound) 11 = .ok (.ifCond .ne 5, 3) := by decide +kernel
theorem k_H_isSound_14 : decode (mtC m_H_isSound) 14 = .ok (.iconst 0, 1) := by decide +kernel
theorem k_H_isSound_15 : decode (mtC m_H_isSound) 15 = .ok (.ireturn, 1) := by decide +kernel
theorem k_H_isSound_16 : decode (mtC m_H_isSound) 16 = .ok (.iconst 0, 1) := by decide +kernel
theorem k_H_isSound_17 : decode (mtC m_H_isSound) 17 = .ok (.istore_n 1, 1) := by decide +kernel
theorem k_H_isSound_18 : decode (mtC m_H_isSound) 18 = .ok (.iload_n 1, 1) := by decide +kernel
theorem k_H_isSound_19 : decode (mtC m_H_isSound) 19 = .ok (.aload_n 0, 1) := by decide +kernel
theorem k_H_isSound_20 : decode (mtC m_H_isSound) 20 = .ok (.getfield 22, 3) := by decide +kernel
theorem k_H_isSound_23 : decode (mtC m_H_isSound) 23 = .ok (.arraylength, 1) := by decide +kernel
theorem k_H_isSound_24 : decode (mtC m_H_isSound) 24 = .ok (.if_icmp .ge 82, 3) := by decide +kernel
theorem k_H_isSound_27 : decode (mtC m_H_isSound) 27 = .ok (.aload_n 0, 1) := by decide +kernel
theorem k_H_isSound_28 : decode (mtC m_H_isSound) 28 = .ok (.getfield 22, 3) := by decide +kernel
theorem k_H_isSound_31 : decode (mtC m_H_isSound) 31 = .ok (.iload_n 1, 1) := by decide +kernel
theorem k_H_isSound_32 : decode (mtC m_H_isSound) 32 = .ok (.aaload, 1) := by decide +kernel
theorem k_H_isSound_33 : decode (mtC m_H_isSound) 33 = .ok (.invokevirtual 108, 3) := by decide +kernel
theorem k_H_isSound_36 : decode (mtC m_H_isSound) 36 = .ok (.ifCond .ne 64, 3) := by decide +kernel
theorem k_H_isSound_39 : decode (mtC m_H_isSound) 39 = .ok (.aload_n 0, 1) := by decide +kernel
theorem k_H_isSound_40 : decode (mtC m_H_isSound) 40 = .ok (.getfield 27, 3) := by decide +kernel
theorem k_H_isSound_43 : decode (mtC m_H_isSound) 43 = .ok (.aload_n 0, 1) := by decide +kernel
theorem k_H_isSound_44 : decode (mtC m_H_isSound) 44 = .ok (.getfield 22, 3) := by decide +kernel
theorem k_H_isSound_47 : decode (mtC m_H_isSound) 47 = .ok (.iload_n 1, 1) := by decide +kernel
theorem k_H_isSound_48 : decode (mtC m_H_isSound) 48 = .ok (.aaload, 1) := by decide +kernel
theorem k_H_isSound_49 : decode (mtC m_H_isSound) 49 = .ok (.invokevirtual 116, 3) := by decide +kernel
theorem k_H_isSound_52 : decode (mtC m_H_isSound) 52 = .ok (.aload_n 0, 1) := by decide +kernel
theorem k_H_isSound_53 : decode (mtC m_H_isSound) 53 = .ok (.getfield 31, 3) := by decide +kernel
theorem k_H_isSound_56 : decode (mtC m_H_isSound) 56 = .ok (.aload_n 0, 1) := by decide +kernel
theorem k_H_isSound_57 : decode (mtC m_H_isSound) 57 = .ok (.getfield 22, 3) := by decide +kernel
theorem k_H_isSound_60 : decode (mtC m_H_isSound) 60 = .ok (.iload_n 1, 1) := by decide +kernel
theorem k_H_isSound_61 : decode (mtC m_H_isSound) 61 = .ok (.aaload, 1) := by decide +kernel
theorem k_H_isSound_62 : decode (mtC m_H_isSound) 62 = .ok (.invokevirtual 116, 3) := by decide +kernel
theorem k_H_isSound_65 : decode (mtC m_H_isSound) 65 = .ok (.aload_n 0, 1) := by decide +kernel
theorem k_H_isSound_66 : decode (mtC m_H_isSound) 66 = .ok (.getfield 31, 3) := by decide +kernel
theorem k_H_isSound_69 : decode (mtC m_H_isSound) 69 = .ok (.getfield 88, 3) := by decide +kernel
theorem k_H_isSound_72 : decode (mtC m_H_isSound) 72 = .ok (.invokevirtual 120, 3) := by decide +kernel
theorem k_H_isSound_75 : decode (mtC m_H_isSound) 75 = .ok (.aload_n 0, 1) := by decide +kernel
theorem k_H_isSound_76 : decode (mtC m_H_isSound) 76 = .ok (.getfield 22, 3) := by decide +kernel
theorem k_H_isSound_79 : decode (mtC m_H_isSound) 79 = .ok (.iload_n 1, 1) := by decide +kernel
theorem k_H_isSound_80 : decode (mtC m_H_isSound) 80 = .ok (.aaload, 1) := by decide +kernel
theorem k_H_isSound_81 : decode (mtC m_H_isSound) 81 = .ok (.invokestatic 183, 3) := by decide +kernel
theorem k_H_isSound_84 : decode (mtC m_H_isSound) 84 = .ok (.ifCond .eq 14, 3) := by decide +kernel
theorem k_H_isSound_87 : decode (mtC m_H_isSound) 87 = .ok (.aload_n 0, 1) := by decide +kernel
theorem k_H_isSound_88 : decode (mtC m_H_isSound) 88 = .ok (.invokevirtual 170, 3) := by decide +kernel
theorem k_H_isSound_91 : decode (mtC m_H_isSound) 91 = .ok (.ifCond .eq 7, 3) := by decide +kernel
theorem k_H_isSound_94 : decode (mtC m_H_isSound) 94 = .ok (.iconst 1, 1) := by decide +kernel
theorem k_H_isSound_95 : decode (mtC m_H_isSound) 95 = .ok (.goto 4, 3) := by decide +kernel
theorem k_H_isSound_98 : decode (mtC m_H_isSound) 98 = .ok (.iconst 0, 1) := by decide +kernel
theorem k_H_isSound_99 : decode (mtC m_H_isSound) 99 = .ok (.ireturn, 1) := by decide +kernel
theorem k_H_isSound_100 : decode (mtC m_H_isSound) 100 = .ok (.iinc 1 1, 3) := by decide +kernel
theorem k_H_isSound_103 : decode (mtC m_H_isSound) 103 = .ok (.goto (-85), 3) := by decide +kernel
theorem k_H_isSound_106 : decode (mtC m_H_isSound) 106 = .ok (.iconst 1, 1) := by decide +kernel
theorem k_H_isSound_107 : decode (mtC m_H_isSound) 107 = .ok (.ireturn, 1) := by decide +kernel
set_option maxHeartbeats 4000000 in
set_option maxRecDepth 100000 in
theorem T_H_isSound_0 {d : Nat}  {M : AMem} {Q : Option AV → AMem → Prop}  (h : CallI d m_H_areRowsRising [vR 3 0] M (fun y2 M1 => ((wI y2 = 0) → Q (some (vI 0)) M1) ∧ (¬ (wI y2 = 0) → CallI d m_H_areQueuesWithinLimits [vR 3 0] M1 (fun y4 M3 => ((¬ wI y4 = 0) → RunQ (d + 1) m_H_isSound 18 [some (vR 3 0), some (vI 0)] [] M3 Q) ∧ (¬ (¬ wI y4 = 0) → Q (some (vI 0)) M3))))) : RunQ (d + 1) m_H_isSound 0 [some (vR 3 0), none] [] M Q := by
  refine q_aload_n 0 k_H_isSound_0 rfl ?_
  refine q_vI 1 [] [] k_H_isSound_1 lk_3_177 rfl rfl rfl rfl rfl rfl rfl rfl (CallI.mono (fun y2 M1 h5 => ?_) h)
  refine q_if_eq 4 14 k_H_isSound_4 rfl rfl (fun c4 => ?_) (fun c4 => ?_)
  · have h5t := h5.1 c4
    refine q_iconst 14 k_H_isSound_14 ?_
    exact q_zret 15 k_H_isSound_15 rfl (Or.inl rfl) h5t
  · have h5f := h5.2 c4
    refine q_aload_n 7 k_H_isSound_7 rfl ?_
    refine q_vI 8 [] [] k_H_isSound_8 lk_3_180 rfl rfl rfl rfl rfl rfl rfl rfl (CallI.mono (fun y4 M3 h6 => ?_) h5f)
    refine q_if_ne 11 16 k_H_isSound_11 rfl rfl (fun c11 => ?_) (fun c11 => ?_)
    · have h6t := h6.1 c11
      refine q_iconst 16 k_H_isSound_16 ?_
      refine q_istore_n 17 k_H_isSound_17 (ls' := [some (vR 3 0), some (vI 0)]) rfl rfl ?_
      exact h6t
    · have h6f := h6.2 c11
      refine q_iconst 14 k_H_isSound_14 ?_
      exact q_zret 15 k_H_isSound_15 rfl (Or.inl rfl) h6f
set_option maxHeartbeats 4000000 in
set_option maxRecDepth 100000 in
theorem T_H_isSound_18 {d : Nat} {x1 : Int} {M : AMem} {Q : Option AV → AMem → Prop}  (h : ((5 ≤ wI x1) → Q (some (vI 1)) M) ∧ (¬ (5 ≤ wI x1) → (0 ≤ wI x1 ∧ wI x1 < (5 : Nat)) ∧ (CallI d m_W_isEmpty [vR 2 ((wI x1).toNat)] M (fun y3 M2 => ((¬ wI y3 = 0) → RunQ (d + 1) m_H_isSound 18 [some (vR 3 0), some (vI (x1 + 1))] [] M2 Q) ∧ (¬ (¬ wI y3 = 0) → (0 ≤ wI x1 ∧ wI x1 < (5 : Nat)) ∧ (CallV d m_W_become [vR 2 5, vR 2 ((wI x1).toNat)] M2 (fun M5 => (0 ≤ wI x1 ∧ wI x1 < (5 : Nat)) ∧ (CallV d m_W_become [vR 2 6, vR 2 ((wI x1).toNat)] M5 (fun M8 => CallV d m_Q_turnOver [vR 0 6] M8 (fun M10 => (0 ≤ wI x1 ∧ wI x1 < (5 : Nat)) ∧ (CallI d m_H_hasToldNoMoreThanIs [vR 2 ((wI x1).toNat)] M10 (fun y14 M13 => ((wI y14 = 0) → Q (some (vI 0)) M13) ∧ (¬ (wI y14 = 0) → CallI d m_H_doTrialsTellAlike [vR 3 0] M13 (fun y16 M15 => ((wI y16 = 0) → Q (some (vI 0)) M15) ∧ (¬ (wI y16 = 0) → Q (some (vI 1)) M15))))))))))))))) : RunQ (d + 1) m_H_isSound 18 [some (vR 3 0), some (vI x1)] [] M Q := by
  refine q_iload_n 18 k_H_isSound_18 rfl ?_
  refine q_aload_n 19 k_H_isSound_19 rfl ?_
  refine q_getfield 20 k_H_isSound_20 fk_3_22 rfl (v := vR 8 0) rfl ?_
  refine q_alen 23 k_H_isSound_23 rfl rfl (z := 5) rfl ?_
  refine q_icmp_ge 24 106 k_H_isSound_24 rfl rfl (fun c24 => ?_) (fun c24 => ?_)
  · have ht := h.1 c24
    refine q_iconst 106 k_H_isSound_106 ?_
    exact q_zret 107 k_H_isSound_107 rfl (Or.inr rfl) ht
  · have hf := h.2 c24
    refine q_aload_n 27 k_H_isSound_27 rfl ?_
    refine q_getfield 28 k_H_isSound_28 fk_3_22 rfl (v := vR 8 0) rfl ?_
    refine q_iload_n 31 k_H_isSound_31 rfl ?_
    have hb1 := hf.1
    refine q_aaload 32 k_H_isSound_32 rfl (n := 5) rfl hb1 (kd := 2) (x := (wI x1).toNat) rfl ?_
    have hf' := hf.2
    refine q_vI 33 [] [] k_H_isSound_33 lk_3_108 rfl rfl rfl (ok_w8 hb1) rfl rfl rfl rfl (CallI.mono (fun y3 M2 h17 => ?_) hf')
    refine q_if_ne 36 100 k_H_isSound_36 rfl rfl (fun c36 => ?_) (fun c36 => ?_)
    · have h17t := h17.1 c36
      refine q_iinc 100 k_H_isSound_100 (ls' := [some (vR 3 0), some (vI (x1 + 1))]) rfl rfl rfl ?_
      refine q_goto 103 18 k_H_isSound_103 rfl rfl ?_
      exact h17t
    · have h17f := h17.2 c36
      refine q_aload_n 39 k_H_isSound_39 rfl ?_
      refine q_getfield 40 k_H_isSound_40 fk_3_27 rfl (v := vR 2 5) rfl ?_
      refine q_aload_n 43 k_H_isSound_43 rfl ?_
      refine q_getfield 44 k_H_isSound_44 fk_3_22 rfl (v := vR 8 0) rfl ?_
      refine q_iload_n 47 k_H_isSound_47 rfl ?_
      have hb4 := h17f.1
      refine q_aaload 48 k_H_isSound_48 rfl (n := 5) rfl hb4 (kd := 2) (x := (wI x1).toNat) rfl ?_
      have h17f' := h17f.2
      refine q_vV 49 [vR 2 ((wI x1).toNat)] [] k_H_isSound_49 lk_3_116 rfl rfl rfl rfl rfl rfl rfl rfl (CallV.mono (fun M5 h18 => ?_) h17f')
      refine q_aload_n 52 k_H_isSound_52 rfl ?_
      refine q_getfield 53 k_H_isSound_53 fk_3_31 rfl (v := vR 2 6) rfl ?_
      refine q_aload_n 56 k_H_isSound_56 rfl ?_
      refine q_getfield 57 k_H_isSound_57 fk_3_22 rfl (v := vR 8 0) rfl ?_
      refine q_iload_n 60 k_H_isSound_60 rfl ?_
      have hb7 := h18.1
      refine q_aaload 61 k_H_isSound_61 rfl (n := 5) rfl hb7 (kd := 2) (x := (wI x1).toNat) rfl ?_
      have h18' := h18.2
      refine q_vV 62 [vR 2 ((wI x1).toNat)] [] k_H_isSound_62 lk_3_116 rfl rfl rfl rfl rfl rfl rfl rfl (CallV.mono (fun M8 h19 => ?_) h18')
      refine q_aload_n 65 k_H_isSound_65 rfl ?_
      refine q_getfield 66 k_H_isSound_66 fk_3_31 rfl (v := vR 2 6) rfl ?_
      refine q_getfield 69 k_H_isSound_69 fk_3_88 rfl (v := vR 0 6) rfl ?_
      refine q_vV 72 [] [] k_H_isSound_72 lk_3_120 rfl rfl rfl rfl rfl rfl rfl rfl (CallV.mono (fun M10 h20 => ?_) h19)
      refine q_aload_n 75 k_H_isSound_75 rfl ?_
      refine q_getfield 76 k_H_isSound_76 fk_3_22 rfl (v := vR 8 0) rfl ?_
      refine q_iload_n 79 k_H_isSound_79 rfl ?_
      have hb12 := h20.1
      refine q_aaload 80 k_H_isSound_80 rfl (n := 5) rfl hb12 (kd := 2) (x := (wI x1).toNat) rfl ?_
      have h20' := h20.2
      refine q_sI 81 [vR 2 ((wI x1).toNat)] [] k_H_isSound_81 rfl lk_3_183 rfl rfl rfl rfl rfl rfl (CallI.mono (fun y14 M13 h21 => ?_) h20')
      refine q_if_eq 84 98 k_H_isSound_84 rfl rfl (fun c84 => ?_) (fun c84 => ?_)
      · have h21t := h21.1 c84
        refine q_iconst 98 k_H_isSound_98 ?_
        exact q_zret 99 k_H_isSound_99 rfl (Or.inl rfl) h21t
      · have h21f := h21.2 c84
        refine q_aload_n 87 k_H_isSound_87 rfl ?_
        refine q_vI 88 [] [] k_H_isSound_88 lk_3_170 rfl rfl rfl rfl rfl rfl rfl rfl (CallI.mono (fun y16 M15 h22 => ?_) h21f)
        refine q_if_eq 91 98 k_H_isSound_91 rfl rfl (fun c91 => ?_) (fun c91 => ?_)
        · have h22t := h22.1 c91
          refine q_iconst 98 k_H_isSound_98 ?_
          exact q_zret 99 k_H_isSound_99 rfl (Or.inl rfl) h22t
        · have h22f := h22.2 c91
          refine q_iconst 94 k_H_isSound_94 ?_
          refine q_goto 95 99 k_H_isSound_95 rfl rfl ?_
          exact q_zret 99 k_H_isSound_99 rfl (Or.inr rfl) h22f
theorem k_H_digest_0 : decode (mtC m_H_digest) 0 = .ok (.ldc2_w 187, 3) := by decide +kernel
theorem k_H_digest_3 : decode (mtC m_H_digest) 3 = .ok (.lstore_n 1, 1) := by decide +kernel
theorem k_H_digest_4 : decode (mtC m_H_digest) 4 = .ok (.iconst 0, 1) := by decide +kernel
theorem k_H_digest_5 : decode (mtC m_H_digest) 5 = .ok (.istore_n 3, 1) := by decide +kernel
theorem k_H_digest_6 : decode (mtC m_H_digest) 6 = .ok (.iload_n 3, 1) := by decide +kernel
theorem k_H_digest_7 : decode (mtC m_H_digest) 7 = .ok (.bipush 6, 2) := by decide +kernel
theorem k_H_digest_9 : decode (mtC m_H_digest) 9 = .ok (.if_icmp .ge 22, 3) := by decide +kernel
theorem k_H_digest_12 : decode (mtC m_H_digest) 12 = .ok (.lload_n 1, 1) := by decide +kernel
theorem k_H_digest_13 : decode (mtC m_H_digest) 13 = .ok (.ldc2_w 189, 3) := by decide +kernel
theorem k_H_digest_16 : decode (mtC m_H_digest) 16 = .ok (.lmul, 1) := by decide +kernel
theorem k_H_digest_17 : decode (mtC m_H_digest) 17 = .ok (.aload_n 0, 1) := by decide +kernel
theorem k_H_digest_18 : decode (mtC m_H_digest) 18 = .ok (.iload_n 3, 1) := by decide +kernel
theorem k_H_digest_19 : decode (mtC m_H_digest) 19 = .ok (.invokevirtual 191, 3) := by decide +kernel
theorem k_H_digest_22 : decode (mtC m_H_digest) 22 = .ok (.i2l, 1) := by decide +kernel
theorem k_H_digest_23 : decode (mtC m_H_digest) 23 = .ok (.ladd, 1) := by decide +kernel
theorem k_H_digest_24 : decode (mtC m_H_digest) 24 = .ok (.lstore_n 1, 1) := by decide +kernel
theorem k_H_digest_25 : decode (mtC m_H_digest) 25 = .ok (.iinc 3 1, 3) := by decide +kernel
theorem k_H_digest_28 : decode (mtC m_H_digest) 28 = .ok (.goto (-22), 3) := by decide +kernel
theorem k_H_digest_31 : decode (mtC m_H_digest) 31 = .ok (.iconst 0, 1) := by decide +kernel
theorem k_H_digest_32 : decode (mtC m_H_digest) 32 = .ok (.istore_n 3, 1) := by decide +kernel
theorem k_H_digest_33 : decode (mtC m_H_digest) 33 = .ok (.iload_n 3, 1) := by decide +kernel
theorem k_H_digest_34 : decode (mtC m_H_digest) 34 = .ok (.bipush 6, 2) := by decide +kernel
theorem k_H_digest_36 : decode (mtC m_H_digest) 36 = .ok (.if_icmp .ge 57, 3) := by decide +kernel
theorem k_H_digest_39 : decode (mtC m_H_digest) 39 = .ok (.aload_n 0, 1) := by decide +kernel
theorem k_H_digest_40 : decode (mtC m_H_digest) 40 = .ok (.iload_n 3, 1) := by decide +kernel
theorem k_H_digest_41 : decode (mtC m_H_digest) 41 = .ok (.invokevirtual 194, 3) := by decide +kernel
theorem k_H_digest_44 : decode (mtC m_H_digest) 44 = .ok (.istore 4, 2) := by decide +kernel
theorem k_H_digest_46 : decode (mtC m_H_digest) 46 = .ok (.lload_n 1, 1) := by decide +kernel
theorem k_H_digest_47 : decode (mtC m_H_digest) 47 = .ok (.ldc2_w 189, 3) := by decide +kernel
theorem k_H_digest_50 : decode (mtC m_H_digest) 50 = .ok (.lmul, 1) := by decide +kernel
theorem k_H_digest_51 : decode (mtC m_H_digest) 51 = .ok (.iload 4, 2) := by decide +kernel
theorem k_H_digest_53 : decode (mtC m_H_digest) 53 = .ok (.i2l, 1) := by decide +kernel
theorem k_H_digest_54 : decode (mtC m_H_digest) 54 = .ok (.ladd, 1) := by decide +kernel
theorem k_H_digest_55 : decode (mtC m_H_digest) 55 = .ok (.lstore_n 1, 1) := by decide +kernel
theorem k_H_digest_56 : decode (mtC m_H_digest) 56 = .ok (.iconst 0, 1) := by decide +kernel
theorem k_H_digest_57 : decode (mtC m_H_digest) 57 = .ok (.istore 5, 2) := by decide +kernel
theorem k_H_digest_59 : decode (mtC m_H_digest) 59 = .ok (.iload 5, 2) := by decide +kernel
theorem k_H_digest_61 : decode (mtC m_H_digest) 61 = .ok (.iload 4, 2) := by decide +kernel
theorem k_H_digest_63 : decode (mtC m_H_digest) 63 = .ok (.if_icmp .ge 24, 3) := by decide +kernel
theorem k_H_digest_66 : decode (mtC m_H_digest) 66 = .ok (.lload_n 1, 1) := by decide +kernel
theorem k_H_digest_67 : decode (mtC m_H_digest) 67 = .ok (.ldc2_w 189, 3) := by decide +kernel
theorem k_H_digest_70 : decode (mtC m_H_digest) 70 = .ok (.lmul, 1) := by decide +kernel
theorem k_H_digest_71 : decode (mtC m_H_digest) 71 = .ok (.aload_n 0, 1) := by decide +kernel
theorem k_H_digest_72 : decode (mtC m_H_digest) 72 = .ok (.iload_n 3, 1) := by decide +kernel
theorem k_H_digest_73 : decode (mtC m_H_digest) 73 = .ok (.iload 5, 2) := by decide +kernel
theorem k_H_digest_75 : decode (mtC m_H_digest) 75 = .ok (.invokevirtual 197, 3) := by decide +kernel
theorem k_H_digest_78 : decode (mtC m_H_digest) 78 = .ok (.i2l, 1) := by decide +kernel
theorem k_H_digest_79 : decode (mtC m_H_digest) 79 = .ok (.ladd, 1) := by decide +kernel
theorem k_H_digest_80 : decode (mtC m_H_digest) 80 = .ok (.lstore_n 1, 1) := by decide +kernel
theorem k_H_digest_81 : decode (mtC m_H_digest) 81 = .ok (.iinc 5 1, 3) := by decide +kernel
theorem k_H_digest_84 : decode (mtC m_H_digest) 84 = .ok (.goto (-25), 3) := by decide +kernel
theorem k_H_digest_87 : decode (mtC m_H_digest) 87 = .ok (.iinc 3 1, 3) := by decide +kernel
theorem k_H_digest_90 : decode (mtC m_H_digest) 90 = .ok (.goto (-57), 3) := by decide +kernel
theorem k_H_digest_93 : decode (mtC m_H_digest) 93 = .ok (.iconst 0, 1) := by decide +kernel
theorem k_H_digest_94 : decode (mtC m_H_digest) 94 = .ok (.istore_n 3, 1) := by decide +kernel
theorem k_H_digest_95 : decode (mtC m_H_digest) 95 = .ok (.iload_n 3, 1) := by decide +kernel
theorem k_H_digest_96 : decode (mtC m_H_digest) 96 = .ok (.iconst 5, 1) := by decide +kernel
theorem k_H_digest_97 : decode (mtC m_H_digest) 97 = .ok (.if_icmp .ge 53, 3) := by decide +kernel
theorem k_H_digest_100 : decode (mtC m_H_digest) 100 = .ok (.iconst 0, 1) := by decide +kernel
theorem k_H_digest_101 : decode (mtC m_H_digest) 101 = .ok (.istore 4, 2) := by decide +kernel
theorem k_H_digest_103 : decode (mtC m_H_digest) 103 = .ok (.iload 4, 2) := by decide +kernel
theorem k_H_digest_105 : decode (mtC m_H_digest) 105 = .ok (.bipush 10, 2) := by decide +kernel
theorem k_H_digest_107 : decode (mtC m_H_digest) 107 = .ok (.if_icmp .ge 24, 3) := by decide +kernel
theorem k_H_digest_110 : decode (mtC m_H_digest) 110 = .ok (.lload_n 1, 1) := by decide +kernel
theorem k_H_digest_111 : decode (mtC m_H_digest) 111 = .ok (.ldc2_w 189, 3) := by decide +kernel
theorem k_H_digest_114 : decode (mtC m_H_digest) 114 = .ok (.lmul, 1) := by decide +kernel
theorem k_H_digest_115 : decode (mtC m_H_digest) 115 = .ok (.aload_n 0, 1) := by decide +kernel
theorem k_H_digest_116 : decode (mtC m_H_digest) 116 = .ok (.iload_n 3, 1) := by decide +kernel
theorem k_H_digest_117 : decode (mtC m_H_digest) 117 = .ok (.iload 4, 2) := by decide +kernel
theorem k_H_digest_119 : decode (mtC m_H_digest) 119 = .ok (.invokevirtual 200, 3) := by decide +kernel
theorem k_H_digest_122 : decode (mtC m_H_digest) 122 = .ok (.i2l, 1) := by decide +kernel
theorem k_H_digest_123 : decode (mtC m_H_digest) 123 = .ok (.ladd, 1) := by decide +kernel
theorem k_H_digest_124 : decode (mtC m_H_digest) 124 = .ok (.lstore_n 1, 1) := by decide +kernel
theorem k_H_digest_125 : decode (mtC m_H_digest) 125 = .ok (.iinc 4 1, 3) := by decide +kernel
theorem k_H_digest_128 : decode (mtC m_H_digest) 128 = .ok (.goto (-25), 3) := by decide +kernel
theorem k_H_digest_131 : decode (mtC m_H_digest) 131 = .ok (.lload_n 1, 1) := by decide +kernel
theorem k_H_digest_132 : decode (mtC m_H_digest) 132 = .ok (.ldc2_w 189, 3) := by decide +kernel
theorem k_H_digest_135 : decode (mtC m_H_digest) 135 = .ok (.lmul, 1) := by decide +kernel
theorem k_H_digest_136 : decode (mtC m_H_digest) 136 = .ok (.aload_n 0, 1) := by decide +kernel
theorem k_H_digest_137 : decode (mtC m_H_digest) 137 = .ok (.iload_n 3, 1) := by decide +kernel
theorem k_H_digest_138 : decode (mtC m_H_digest) 138 = .ok (.invokevirtual 203, 3) := by decide +kernel
theorem k_H_digest_141 : decode (mtC m_H_digest) 141 = .ok (.i2l, 1) := by decide +kernel
theorem k_H_digest_142 : decode (mtC m_H_digest) 142 = .ok (.ladd, 1) := by decide +kernel
theorem k_H_digest_143 : decode (mtC m_H_digest) 143 = .ok (.lstore_n 1, 1) := by decide +kernel
theorem k_H_digest_144 : decode (mtC m_H_digest) 144 = .ok (.iinc 3 1, 3) := by decide +kernel
theorem k_H_digest_147 : decode (mtC m_H_digest) 147 = .ok (.goto (-52), 3) := by decide +kernel
theorem k_H_digest_150 : decode (mtC m_H_digest) 150 = .ok (.lload_n 1, 1) := by decide +kernel
theorem k_H_digest_151 : decode (mtC m_H_digest) 151 = .ok (.ldc2_w 189, 3) := by decide +kernel
theorem k_H_digest_154 : decode (mtC m_H_digest) 154 = .ok (.lmul, 1) := by decide +kernel
theorem k_H_digest_155 : decode (mtC m_H_digest) 155 = .ok (.aload_n 0, 1) := by decide +kernel
theorem k_H_digest_156 : decode (mtC m_H_digest) 156 = .ok (.invokevirtual 206, 3) := by decide +kernel
theorem k_H_digest_159 : decode (mtC m_H_digest) 159 = .ok (.ifCond .eq 7, 3) := by decide +kernel
theorem k_H_digest_162 : decode (mtC m_H_digest) 162 = .ok (.iconst 1, 1) := by decide +kernel
theorem k_H_digest_163 : decode (mtC m_H_digest) 163 = .ok (.goto 4, 3) := by decide +kernel
theorem k_H_digest_166 : decode (mtC m_H_digest) 166 = .ok (.iconst 0, 1) := by decide +kernel
theorem k_H_digest_167 : decode (mtC m_H_digest) 167 = .ok (.i2l, 1) := by decide +kernel
theorem k_H_digest_168 : decode (mtC m_H_digest) 168 = .ok (.ladd, 1) := by decide +kernel
theorem k_H_digest_169 : decode (mtC m_H_digest) 169 = .ok (.lreturn, 1) := by decide +kernel
set_option maxHeartbeats 4000000 in
set_option maxRecDepth 100000 in
theorem T_H_digest_0 {d : Nat}  {M : AMem} {Q : Option AV → AMem → Prop}  (h : RunQ (d + 1) m_H_digest 6 [some (vR 3 0), some (vL 7980), none, some (vI 0), none, none] [] M Q) : RunQ (d + 1) m_H_digest 0 [some (vR 3 0), none, none, none, none, none] [] M Q := by
  refine q_ldc2_w 0 k_H_digest_0 (z := 7980) rfl ?_
  refine q_lstore_n 3 k_H_digest_3 (ls' := [some (vR 3 0), some (vL 7980), none, none, none, none]) rfl rfl rfl ?_
  refine q_iconst 4 k_H_digest_4 ?_
  refine q_istore_n 5 k_H_digest_5 (ls' := [some (vR 3 0), some (vL 7980), none, some (vI 0), none, none]) rfl rfl ?_
  exact h
set_option maxHeartbeats 4000000 in
set_option maxRecDepth 100000 in
theorem T_H_digest_6 {d : Nat} {x1 : Int} {x3 : Int} {M : AMem} {Q : Option AV → AMem → Prop}  (h : ((6 ≤ wI x3) → RunQ (d + 1) m_H_digest 33 [some (vR 3 0), some (vL x1), none, some (vI 0), none, none] [] M Q) ∧ (¬ (6 ≤ wI x3) → CallI d m_H_house [vR 3 0, vI x3] M (fun y2 M1 => RunQ (d + 1) m_H_digest 6 [some (vR 3 0), some (vL ((x1 * 31) + (wI y2))), none, some (vI (x3 + 1)), none, none] [] M1 Q))) : RunQ (d + 1) m_H_digest 6 [some (vR 3 0), some (vL x1), none, some (vI x3), none, none] [] M Q := by
  refine q_iload_n 6 k_H_digest_6 rfl ?_
  refine q_bipush 7 k_H_digest_7 (by decide) ?_
  refine q_icmp_ge 9 31 k_H_digest_9 rfl rfl (fun c9 => ?_) (fun c9 => ?_)
  · have ht := h.1 c9
    refine q_iconst 31 k_H_digest_31 ?_
    refine q_istore_n 32 k_H_digest_32 (ls' := [some (vR 3 0), some (vL x1), none, some (vI 0), none, none]) rfl rfl ?_
    exact ht
  · have hf := h.2 c9
    refine q_lload_n 12 k_H_digest_12 rfl ?_
    refine q_ldc2_w 13 k_H_digest_13 (z := 31) rfl ?_
    refine q_lmul 16 k_H_digest_16 ?_
    refine q_aload_n 17 k_H_digest_17 rfl ?_
    refine q_iload_n 18 k_H_digest_18 rfl ?_
    refine q_vI 19 [vI x3] [vL (x1 * 31)] k_H_digest_19 lk_3_191 rfl rfl rfl rfl rfl rfl rfl rfl (CallI.mono (fun y2 M1 h3 => ?_) hf)
    refine q_i2l 22 k_H_digest_22 ?_
    refine q_ladd 23 k_H_digest_23 ?_
    refine q_lstore_n 24 k_H_digest_24 (ls' := [some (vR 3 0), some (vL ((x1 * 31) + (wI y2))), none, some (vI x3), none, none]) rfl rfl rfl ?_
    refine q_iinc 25 k_H_digest_25 (ls' := [some (vR 3 0), some (vL ((x1 * 31) + (wI y2))), none, some (vI (x3 + 1)), none, none]) rfl rfl rfl ?_
    refine q_goto 28 6 k_H_digest_28 rfl rfl ?_
    exact h3
set_option maxHeartbeats 4000000 in
set_option maxRecDepth 100000 in
theorem T_H_digest_33 {d : Nat} {x1 : Int} {x3 : Int} {u4 : Option AV} {u5 : Option AV} {M : AMem} {Q : Option AV → AMem → Prop}  (h : ((6 ≤ wI x3) → RunQ (d + 1) m_H_digest 95 [some (vR 3 0), some (vL x1), none, some (vI 0), u4, u5] [] M Q) ∧ (¬ (6 ≤ wI x3) → CallI d m_H_rowSize [vR 3 0, vI x3] M (fun y2 M1 => RunQ (d + 1) m_H_digest 59 [some (vR 3 0), some (vL ((x1 * 31) + (wI y2))), none, some (vI x3), some (vI y2), some (vI 0)] [] M1 Q))) : RunQ (d + 1) m_H_digest 33 [some (vR 3 0), some (vL x1), none, some (vI x3), u4, u5] [] M Q := by
  refine q_iload_n 33 k_H_digest_33 rfl ?_
  refine q_bipush 34 k_H_digest_34 (by decide) ?_
  refine q_icmp_ge 36 93 k_H_digest_36 rfl rfl (fun c36 => ?_) (fun c36 => ?_)
  · have ht := h.1 c36
    refine q_iconst 93 k_H_digest_93 ?_
    refine q_istore_n 94 k_H_digest_94 (ls' := [some (vR 3 0), some (vL x1), none, some (vI 0), u4, u5]) rfl rfl ?_
    exact ht
  · have hf := h.2 c36
    refine q_aload_n 39 k_H_digest_39 rfl ?_
    refine q_iload_n 40 k_H_digest_40 rfl ?_
    refine q_vI 41 [vI x3] [] k_H_digest_41 lk_3_194 rfl rfl rfl rfl rfl rfl rfl rfl (CallI.mono (fun y2 M1 h3 => ?_) hf)
    refine q_istore 44 k_H_digest_44 (ls' := [some (vR 3 0), some (vL x1), none, some (vI x3), some (vI y2), u5]) rfl rfl ?_
    refine q_lload_n 46 k_H_digest_46 rfl ?_
    refine q_ldc2_w 47 k_H_digest_47 (z := 31) rfl ?_
    refine q_lmul 50 k_H_digest_50 ?_
    refine q_iload 51 k_H_digest_51 rfl ?_
    refine q_i2l 53 k_H_digest_53 ?_
    refine q_ladd 54 k_H_digest_54 ?_
    refine q_lstore_n 55 k_H_digest_55 (ls' := [some (vR 3 0), some (vL ((x1 * 31) + (wI y2))), none, some (vI x3), some (vI y2), u5]) rfl rfl rfl ?_
    refine q_iconst 56 k_H_digest_56 ?_
    refine q_istore 57 k_H_digest_57 (ls' := [some (vR 3 0), some (vL ((x1 * 31) + (wI y2))), none, some (vI x3), some (vI y2), some (vI 0)]) rfl rfl ?_
    exact h3
set_option maxHeartbeats 4000000 in
set_option maxRecDepth 100000 in
theorem T_H_digest_95 {d : Nat} {x1 : Int} {x3 : Int} {u4 : Option AV} {u5 : Option AV} {M : AMem} {Q : Option AV → AMem → Prop}  (h : ((5 ≤ wI x3) → CallI d m_H_isSound [vR 3 0] M (fun y2 M1 => ((wI y2 = 0) → Q (some (vL ((x1 * 31) + (0)))) M1) ∧ (¬ (wI y2 = 0) → Q (some (vL ((x1 * 31) + (1)))) M1))) ∧ (¬ (5 ≤ wI x3) → RunQ (d + 1) m_H_digest 103 [some (vR 3 0), some (vL x1), none, some (vI x3), some (vI 0), u5] [] M Q)) : RunQ (d + 1) m_H_digest 95 [some (vR 3 0), some (vL x1), none, some (vI x3), u4, u5] [] M Q := by
  refine q_iload_n 95 k_H_digest_95 rfl ?_
  refine q_iconst 96 k_H_digest_96 ?_
  refine q_icmp_ge 97 150 k_H_digest_97 rfl rfl (fun c97 => ?_) (fun c97 => ?_)
  · have ht := h.1 c97
    refine q_lload_n 150 k_H_digest_150 rfl ?_
    refine q_ldc2_w 151 k_H_digest_151 (z := 31) rfl ?_
    refine q_lmul 154 k_H_digest_154 ?_
    refine q_aload_n 155 k_H_digest_155 rfl ?_
    refine q_vI 156 [] [vL (x1 * 31)] k_H_digest_156 lk_3_206 rfl rfl rfl rfl rfl rfl rfl rfl (CallI.mono (fun y2 M1 h3 => ?_) ht)
    refine q_if_eq 159 166 k_H_digest_159 rfl rfl (fun c159 => ?_) (fun c159 => ?_)
    · have h3t := h3.1 c159
      refine q_iconst 166 k_H_digest_166 ?_
      refine q_i2l 167 k_H_digest_167 ?_
      refine q_ladd 168 k_H_digest_168 ?_
      exact q_lret 169 k_H_digest_169 rfl h3t
    · have h3f := h3.2 c159
      refine q_iconst 162 k_H_digest_162 ?_
      refine q_goto 163 167 k_H_digest_163 rfl rfl ?_
      refine q_i2l 167 k_H_digest_167 ?_
      refine q_ladd 168 k_H_digest_168 ?_
      exact q_lret 169 k_H_digest_169 rfl h3f
  · have hf := h.2 c97
    refine q_iconst 100 k_H_digest_100 ?_
    refine q_istore 101 k_H_digest_101 (ls' := [some (vR 3 0), some (vL x1), none, some (vI x3), some (vI 0), u5]) rfl rfl ?_
    exact hf
set_option maxHeartbeats 4000000 in
set_option maxRecDepth 100000 in
theorem T_H_digest_59 {d : Nat} {x1 : Int} {x3 : Int} {x4 : Int} {x5 : Int} {M : AMem} {Q : Option AV → AMem → Prop}  (h : ((wI x4 ≤ wI x5) → RunQ (d + 1) m_H_digest 33 [some (vR 3 0), some (vL x1), none, some (vI (x3 + 1)), some (vI x4), some (vI x5)] [] M Q) ∧ (¬ (wI x4 ≤ wI x5) → CallI d m_H_rowAt [vR 3 0, vI x3, vI x5] M (fun y2 M1 => RunQ (d + 1) m_H_digest 59 [some (vR 3 0), some (vL ((x1 * 31) + (wI y2))), none, some (vI x3), some (vI x4), some (vI (x5 + 1))] [] M1 Q))) : RunQ (d + 1) m_H_digest 59 [some (vR 3 0), some (vL x1), none, some (vI x3), some (vI x4), some (vI x5)] [] M Q := by
  refine q_iload 59 k_H_digest_59 rfl ?_
  refine q_iload 61 k_H_digest_61 rfl ?_
  refine q_icmp_ge 63 87 k_H_digest_63 rfl rfl (fun c63 => ?_) (fun c63 => ?_)
  · have ht := h.1 c63
    refine q_iinc 87 k_H_digest_87 (ls' := [some (vR 3 0), some (vL x1), none, some (vI (x3 + 1)), some (vI x4), some (vI x5)]) rfl rfl rfl ?_
    refine q_goto 90 33 k_H_digest_90 rfl rfl ?_
    exact ht
  · have hf := h.2 c63
    refine q_lload_n 66 k_H_digest_66 rfl ?_
    refine q_ldc2_w 67 k_H_digest_67 (z := 31) rfl ?_
    refine q_lmul 70 k_H_digest_70 ?_
    refine q_aload_n 71 k_H_digest_71 rfl ?_
    refine q_iload_n 72 k_H_digest_72 rfl ?_
    refine q_iload 73 k_H_digest_73 rfl ?_
    refine q_vI 75 [vI x3, vI x5] [vL (x1 * 31)] k_H_digest_75 lk_3_197 rfl rfl rfl rfl rfl rfl rfl rfl (CallI.mono (fun y2 M1 h3 => ?_) hf)
    refine q_i2l 78 k_H_digest_78 ?_
    refine q_ladd 79 k_H_digest_79 ?_
    refine q_lstore_n 80 k_H_digest_80 (ls' := [some (vR 3 0), some (vL ((x1 * 31) + (wI y2))), none, some (vI x3), some (vI x4), some (vI x5)]) rfl rfl rfl ?_
    refine q_iinc 81 k_H_digest_81 (ls' := [some (vR 3 0), some (vL ((x1 * 31) + (wI y2))), none, some (vI x3), some (vI x4), some (vI (x5 + 1))]) rfl rfl rfl ?_
    refine q_goto 84 59 k_H_digest_84 rfl rfl ?_
    exact h3
set_option maxHeartbeats 4000000 in
set_option maxRecDepth 100000 in
theorem T_H_digest_103 {d : Nat} {x1 : Int} {x3 : Int} {x4 : Int} {u5 : Option AV} {M : AMem} {Q : Option AV → AMem → Prop}  (h : ((10 ≤ wI x4) → CallI d m_H_peek [vR 3 0, vI x3] M (fun y2 M1 => RunQ (d + 1) m_H_digest 95 [some (vR 3 0), some (vL ((x1 * 31) + (wI y2))), none, some (vI (x3 + 1)), some (vI x4), u5] [] M1 Q)) ∧ (¬ (10 ≤ wI x4) → CallI d m_H_ofWell [vR 3 0, vI x3, vI x4] M (fun y4 M3 => RunQ (d + 1) m_H_digest 103 [some (vR 3 0), some (vL ((x1 * 31) + (wI y4))), none, some (vI x3), some (vI (x4 + 1)), u5] [] M3 Q))) : RunQ (d + 1) m_H_digest 103 [some (vR 3 0), some (vL x1), none, some (vI x3), some (vI x4), u5] [] M Q := by
  refine q_iload 103 k_H_digest_103 rfl ?_
  refine q_bipush 105 k_H_digest_105 (by decide) ?_
  refine q_icmp_ge 107 131 k_H_digest_107 rfl rfl (fun c107 => ?_) (fun c107 => ?_)
  · have ht := h.1 c107
    refine q_lload_n 131 k_H_digest_131 rfl ?_
    refine q_ldc2_w 132 k_H_digest_132 (z := 31) rfl ?_
    refine q_lmul 135 k_H_digest_135 ?_
    refine q_aload_n 136 k_H_digest_136 rfl ?_
    refine q_iload_n 137 k_H_digest_137 rfl ?_
    refine q_vI 138 [vI x3] [vL (x1 * 31)] k_H_digest_138 lk_3_203 rfl rfl rfl rfl rfl rfl rfl rfl (CallI.mono (fun y2 M1 h5 => ?_) ht)
    refine q_i2l 141 k_H_digest_141 ?_
    refine q_ladd 142 k_H_digest_142 ?_
    refine q_lstore_n 143 k_H_digest_143 (ls' := [some (vR 3 0), some (vL ((x1 * 31) + (wI y2))), none, some (vI x3), some (vI x4), u5]) rfl rfl rfl ?_
    refine q_iinc 144 k_H_digest_144 (ls' := [some (vR 3 0), some (vL ((x1 * 31) + (wI y2))), none, some (vI (x3 + 1)), some (vI x4), u5]) rfl rfl rfl ?_
    refine q_goto 147 95 k_H_digest_147 rfl rfl ?_
    exact h5
  · have hf := h.2 c107
    refine q_lload_n 110 k_H_digest_110 rfl ?_
    refine q_ldc2_w 111 k_H_digest_111 (z := 31) rfl ?_
    refine q_lmul 114 k_H_digest_114 ?_
    refine q_aload_n 115 k_H_digest_115 rfl ?_
    refine q_iload_n 116 k_H_digest_116 rfl ?_
    refine q_iload 117 k_H_digest_117 rfl ?_
    refine q_vI 119 [vI x3, vI x4] [vL (x1 * 31)] k_H_digest_119 lk_3_200 rfl rfl rfl rfl rfl rfl rfl rfl (CallI.mono (fun y4 M3 h6 => ?_) hf)
    refine q_i2l 122 k_H_digest_122 ?_
    refine q_ladd 123 k_H_digest_123 ?_
    refine q_lstore_n 124 k_H_digest_124 (ls' := [some (vR 3 0), some (vL ((x1 * 31) + (wI y4))), none, some (vI x3), some (vI x4), u5]) rfl rfl rfl ?_
    refine q_iinc 125 k_H_digest_125 (ls' := [some (vR 3 0), some (vL ((x1 * 31) + (wI y4))), none, some (vI x3), some (vI (x4 + 1)), u5]) rfl rfl rfl ?_
    refine q_goto 128 103 k_H_digest_128 rfl rfl ?_
    exact h6
theorem k_H_findRow_0 : decode (mtC m_H_findRow) 0 = .ok (.iload_n 1, 1) := by decide +kernel
theorem k_H_findRow_1 : decode (mtC m_H_findRow) 1 = .ok (.ifCond .lt 12, 3) := by decide +kernel
theorem k_H_findRow_4 : decode (mtC m_H_findRow) 4 = .ok (.iload_n 1, 1) := by decide +kernel
theorem k_H_findRow_5 : decode (mtC m_H_findRow) 5 = .ok (.aload_n 0, 1) := by decide +kernel
theorem k_H_findRow_6 : decode (mtC m_H_findRow) 6 = .ok (.getfield 11, 3) := by decide +kernel
theorem k_H_findRow_9 : decode (mtC m_H_findRow) 9 = .ok (.arraylength, 1) := by decide +kernel
theorem k_H_findRow_10 : decode (mtC m_H_findRow) 10 = .ok (.if_icmp .lt 13, 3) := by decide +kernel
theorem k_H_findRow_13 : decode (mtC m_H_findRow) 13 = .ok (.new 209, 3) := by decide +kernel
theorem k_H_findRow_16 : decode (mtC m_H_findRow) 16 = .ok (.dup, 1) := by decide +kernel
theorem k_H_findRow_17 : decode (mtC m_H_findRow) 17 = .ok (.ldc 211, 2) := by decide +kernel
theorem k_H_findRow_19 : decode (mtC m_H_findRow) 19 = .ok (.invokespecial 213, 3) := by decide +kernel
theorem k_H_findRow_22 : decode (mtC m_H_findRow) 22 = .ok (.athrow, 1) := by decide +kernel
theorem k_H_findRow_23 : decode (mtC m_H_findRow) 23 = .ok (.aload_n 0, 1) := by decide +kernel
theorem k_H_findRow_24 : decode (mtC m_H_findRow) 24 = .ok (.getfield 11, 3) := by decide +kernel
theorem k_H_findRow_27 : decode (mtC m_H_findRow) 27 = .ok (.iload_n 1, 1) := by decide +kernel
theorem k_H_findRow_28 : decode (mtC m_H_findRow) 28 = .ok (.aaload, 1) := by decide +kernel
theorem k_H_findRow_29 : decode (mtC m_H_findRow) 29 = .ok (.areturn, 1) := by decide +kernel
set_option maxHeartbeats 4000000 in
set_option maxRecDepth 100000 in
theorem T_H_findRow_0 {d : Nat} {x1 : Int} {M : AMem} {Q : Option AV → AMem → Prop}  (h : ((wI x1 < 0) → False) ∧ (¬ (wI x1 < 0) → ((wI x1 < 6) → (0 ≤ wI x1 ∧ wI x1 < (6 : Nat)) ∧ (Q (some (vR 1 (42 + (wI x1).toNat))) M)) ∧ (¬ (wI x1 < 6) → False))) : RunQ d m_H_findRow 0 [some (vR 3 0), some (vI x1)] [] M Q := by
  refine q_iload_n 0 k_H_findRow_0 rfl ?_
  refine q_if_lt 1 13 k_H_findRow_1 rfl rfl (fun c1 => ?_) (fun c1 => ?_)
  · have ht := h.1 c1
    exact ht.elim
  · have hf := h.2 c1
    refine q_iload_n 4 k_H_findRow_4 rfl ?_
    refine q_aload_n 5 k_H_findRow_5 rfl ?_
    refine q_getfield 6 k_H_findRow_6 fk_3_11 rfl (v := vR 7 0) rfl ?_
    refine q_alen 9 k_H_findRow_9 rfl rfl (z := 6) rfl ?_
    refine q_icmp_lt 10 23 k_H_findRow_10 rfl rfl (fun c10 => ?_) (fun c10 => ?_)
    · have hft := hf.1 c10
      refine q_aload_n 23 k_H_findRow_23 rfl ?_
      refine q_getfield 24 k_H_findRow_24 fk_3_11 rfl (v := vR 7 0) rfl ?_
      refine q_iload_n 27 k_H_findRow_27 rfl ?_
      have hb1 := hft.1
      refine q_aaload 28 k_H_findRow_28 rfl (n := 6) rfl hb1 (kd := 1) (x := (42 + (wI x1).toNat)) rfl ?_
      have hft' := hft.2
      exact q_aret 29 k_H_findRow_29 (by first | exact Or.inl rfl | exact Or.inr rfl) hft'
    · have hff := hf.2 c10
      exact hff.elim
theorem k_H_findWell_0 : decode (mtC m_H_findWell) 0 = .ok (.iload_n 1, 1) := by decide +kernel
theorem k_H_findWell_1 : decode (mtC m_H_findWell) 1 = .ok (.ifCond .lt 12, 3) := by decide +kernel
theorem k_H_findWell_4 : decode (mtC m_H_findWell) 4 = .ok (.iload_n 1, 1) := by decide +kernel
theorem k_H_findWell_5 : decode (mtC m_H_findWell) 5 = .ok (.aload_n 0, 1) := by decide +kernel
theorem k_H_findWell_6 : decode (mtC m_H_findWell) 6 = .ok (.getfield 22, 3) := by decide +kernel
theorem k_H_findWell_9 : decode (mtC m_H_findWell) 9 = .ok (.arraylength, 1) := by decide +kernel
theorem k_H_findWell_10 : decode (mtC m_H_findWell) 10 = .ok (.if_icmp .lt 13, 3) := by decide +kernel
theorem k_H_findWell_13 : decode (mtC m_H_findWell) 13 = .ok (.new 209, 3) := by decide +kernel
theorem k_H_findWell_16 : decode (mtC m_H_findWell) 16 = .ok (.dup, 1) := by decide +kernel
theorem k_H_findWell_17 : decode (mtC m_H_findWell) 17 = .ok (.ldc 216, 2) := by decide +kernel
theorem k_H_findWell_19 : decode (mtC m_H_findWell) 19 = .ok (.invokespecial 213, 3) := by decide +kernel
theorem k_H_findWell_22 : decode (mtC m_H_findWell) 22 = .ok (.athrow, 1) := by decide +kernel
theorem k_H_findWell_23 : decode (mtC m_H_findWell) 23 = .ok (.aload_n 0, 1) := by decide +kernel
theorem k_H_findWell_24 : decode (mtC m_H_findWell) 24 = .ok (.getfield 22, 3) := by decide +kernel
theorem k_H_findWell_27 : decode (mtC m_H_findWell) 27 = .ok (.iload_n 1, 1) := by decide +kernel
theorem k_H_findWell_28 : decode (mtC m_H_findWell) 28 = .ok (.aaload, 1) := by decide +kernel
theorem k_H_findWell_29 : decode (mtC m_H_findWell) 29 = .ok (.areturn, 1) := by decide +kernel
set_option maxHeartbeats 4000000 in
set_option maxRecDepth 100000 in
theorem T_H_findWell_0 {d : Nat} {x1 : Int} {M : AMem} {Q : Option AV → AMem → Prop}  (h : ((wI x1 < 0) → False) ∧ (¬ (wI x1 < 0) → ((wI x1 < 5) → (0 ≤ wI x1 ∧ wI x1 < (5 : Nat)) ∧ (Q (some (vR 2 ((wI x1).toNat))) M)) ∧ (¬ (wI x1 < 5) → False))) : RunQ d m_H_findWell 0 [some (vR 3 0), some (vI x1)] [] M Q := by
  refine q_iload_n 0 k_H_findWell_0 rfl ?_
  refine q_if_lt 1 13 k_H_findWell_1 rfl rfl (fun c1 => ?_) (fun c1 => ?_)
  · have ht := h.1 c1
    exact ht.elim
  · have hf := h.2 c1
    refine q_iload_n 4 k_H_findWell_4 rfl ?_
    refine q_aload_n 5 k_H_findWell_5 rfl ?_
    refine q_getfield 6 k_H_findWell_6 fk_3_22 rfl (v := vR 8 0) rfl ?_
    refine q_alen 9 k_H_findWell_9 rfl rfl (z := 5) rfl ?_
    refine q_icmp_lt 10 23 k_H_findWell_10 rfl rfl (fun c10 => ?_) (fun c10 => ?_)
    · have hft := hf.1 c10
      refine q_aload_n 23 k_H_findWell_23 rfl ?_
      refine q_getfield 24 k_H_findWell_24 fk_3_22 rfl (v := vR 8 0) rfl ?_
      refine q_iload_n 27 k_H_findWell_27 rfl ?_
      have hb1 := hft.1
      refine q_aaload 28 k_H_findWell_28 rfl (n := 5) rfl hb1 (kd := 2) (x := (wI x1).toNat) rfl ?_
      have hft' := hft.2
      exact q_aret 29 k_H_findWell_29 (by first | exact Or.inl rfl | exact Or.inr rfl) hft'
    · have hff := hf.2 c10
      exact hff.elim
theorem k_H_requirePlace_0 : decode (mtC m_H_requirePlace) 0 = .ok (.iload_n 0, 1) := by decide +kernel
theorem k_H_requirePlace_1 : decode (mtC m_H_requirePlace) 1 = .ok (.ifCond .lt 8, 3) := by decide +kernel
theorem k_H_requirePlace_4 : decode (mtC m_H_requirePlace) 4 = .ok (.iload_n 0, 1) := by decide +kernel
theorem k_H_requirePlace_5 : decode (mtC m_H_requirePlace) 5 = .ok (.iload_n 1, 1) := by decide +kernel
theorem k_H_requirePlace_6 : decode (mtC m_H_requirePlace) 6 = .ok (.if_icmp .lt 13, 3) := by decide +kernel
theorem k_H_requirePlace_9 : decode (mtC m_H_requirePlace) 9 = .ok (.new 209, 3) := by decide +kernel
theorem k_H_requirePlace_12 : decode (mtC m_H_requirePlace) 12 = .ok (.dup, 1) := by decide +kernel
theorem k_H_requirePlace_13 : decode (mtC m_H_requirePlace) 13 = .ok (.ldc 218, 2) := by decide +kernel
theorem k_H_requirePlace_15 : decode (mtC m_H_requirePlace) 15 = .ok (.invokespecial 213, 3) := by decide +kernel
theorem k_H_requirePlace_18 : decode (mtC m_H_requirePlace) 18 = .ok (.athrow, 1) := by decide +kernel
theorem k_H_requirePlace_19 : decode (mtC m_H_requirePlace) 19 = .ok (.return_, 1) := by decide +kernel
set_option maxHeartbeats 4000000 in
set_option maxRecDepth 100000 in
theorem T_H_requirePlace_0 {d : Nat} {x0 : Int} {x1 : Int} {M : AMem} {Q : Option AV → AMem → Prop}  (h : ((wI x0 < 0) → False) ∧ (¬ (wI x0 < 0) → ((wI x0 < wI x1) → Q none M) ∧ (¬ (wI x0 < wI x1) → False))) : RunQ d m_H_requirePlace 0 [some (vI x0), some (vI x1)] [] M Q := by
  refine q_iload_n 0 k_H_requirePlace_0 rfl ?_
  refine q_if_lt 1 9 k_H_requirePlace_1 rfl rfl (fun c1 => ?_) (fun c1 => ?_)
  · have ht := h.1 c1
    exact ht.elim
  · have hf := h.2 c1
    refine q_iload_n 4 k_H_requirePlace_4 rfl ?_
    refine q_iload_n 5 k_H_requirePlace_5 rfl ?_
    refine q_icmp_lt 6 19 k_H_requirePlace_6 rfl rfl (fun c6 => ?_) (fun c6 => ?_)
    · have hft := hf.1 c6
      exact q_vret 19 k_H_requirePlace_19 rfl hft
    · have hff := hf.2 c6
      exact hff.elim
theorem k_H_requireWithin_0 : decode (mtC m_H_requireWithin) 0 = .ok (.iload_n 0, 1) := by decide +kernel
theorem k_H_requireWithin_1 : decode (mtC m_H_requireWithin) 1 = .ok (.iload_n 1, 1) := by decide +kernel
theorem k_H_requireWithin_2 : decode (mtC m_H_requireWithin) 2 = .ok (.if_icmp .lt 8, 3) := by decide +kernel
theorem k_H_requireWithin_5 : decode (mtC m_H_requireWithin) 5 = .ok (.iload_n 0, 1) := by decide +kernel
theorem k_H_requireWithin_6 : decode (mtC m_H_requireWithin) 6 = .ok (.iload_n 2, 1) := by decide +kernel
theorem k_H_requireWithin_7 : decode (mtC m_H_requireWithin) 7 = .ok (.if_icmp .le 13, 3) := by decide +kernel
theorem k_H_requireWithin_10 : decode (mtC m_H_requireWithin) 10 = .ok (.new 220, 3) := by decide +kernel
theorem k_H_requireWithin_13 : decode (mtC m_H_requireWithin) 13 = .ok (.dup, 1) := by decide +kernel
theorem k_H_requireWithin_14 : decode (mtC m_H_requireWithin) 14 = .ok (.ldc 222, 2) := by decide +kernel
theorem k_H_requireWithin_16 : decode (mtC m_H_requireWithin) 16 = .ok (.invokespecial 224, 3) := by decide +kernel
theorem k_H_requireWithin_19 : decode (mtC m_H_requireWithin) 19 = .ok (.athrow, 1) := by decide +kernel
theorem k_H_requireWithin_20 : decode (mtC m_H_requireWithin) 20 = .ok (.return_, 1) := by decide +kernel
set_option maxHeartbeats 4000000 in
set_option maxRecDepth 100000 in
theorem T_H_requireWithin_0 {d : Nat} {x0 : Int} {x1 : Int} {x2 : Int} {M : AMem} {Q : Option AV → AMem → Prop}  (h : ((wI x0 < wI x1) → False) ∧ (¬ (wI x0 < wI x1) → ((wI x0 ≤ wI x2) → Q none M) ∧ (¬ (wI x0 ≤ wI x2) → False))) : RunQ d m_H_requireWithin 0 [some (vI x0), some (vI x1), some (vI x2)] [] M Q := by
  refine q_iload_n 0 k_H_requireWithin_0 rfl ?_
  refine q_iload_n 1 k_H_requireWithin_1 rfl ?_
  refine q_icmp_lt 2 10 k_H_requireWithin_2 rfl rfl (fun c2 => ?_) (fun c2 => ?_)
  · have ht := h.1 c2
    exact ht.elim
  · have hf := h.2 c2
    refine q_iload_n 5 k_H_requireWithin_5 rfl ?_
    refine q_iload_n 6 k_H_requireWithin_6 rfl ?_
    refine q_icmp_le 7 20 k_H_requireWithin_7 rfl rfl (fun c7 => ?_) (fun c7 => ?_)
    · have hft := hf.1 c7
      exact q_vret 20 k_H_requireWithin_20 rfl hft
    · have hff := hf.2 c7
      exact hff.elim
theorem k_H_doTrialsTellAlike_0 : decode (mtC m_H_doTrialsTellAlike) 0 = .ok (.iconst 0, 1) := by decide +kernel
theorem k_H_doTrialsTellAlike_1 : decode (mtC m_H_doTrialsTellAlike) 1 = .ok (.istore_n 1, 1) := by decide +kernel
theorem k_H_doTrialsTellAlike_2 : decode (mtC m_H_doTrialsTellAlike) 2 = .ok (.iload_n 1, 1) := by decide +kernel
theorem k_H_doTrialsTellAlike_3 : decode (mtC m_H_doTrialsTellAlike) 3 = .ok (.bipush 8, 2) := by decide +kernel
theorem k_H_doTrialsTellAlike_5 : decode (mtC m_H_doTrialsTellAlike) 5 = .ok (.if_icmp .ge 74, 3) := by decide +kernel
theorem k_H_doTrialsTellAlike_8 : decode (mtC m_H_doTrialsTellAlike) 8 = .ok (.aload_n 0, 1) := by decide +kernel
theorem k_H_doTrialsTellAlike_9 : decode (mtC m_H_doTrialsTellAlike) 9 = .ok (.getfield 27, 3) := by decide +kernel
theorem k_H_doTrialsTellAlike_12 : decode (mtC m_H_doTrialsTellAlike) 12 = .ok (.invokevirtual 101, 3) := by decide +kernel
theorem k_H_doTrialsTellAlike_15 : decode (mtC m_H_doTrialsTellAlike) 15 = .ok (.ifCond .ne 13, 3) := by decide +kernel
theorem k_H_doTrialsTellAlike_18 : decode (mtC m_H_doTrialsTellAlike) 18 = .ok (.aload_n 0, 1) := by decide +kernel
theorem k_H_doTrialsTellAlike_19 : decode (mtC m_H_doTrialsTellAlike) 19 = .ok (.getfield 31, 3) := by decide +kernel
theorem k_H_doTrialsTellAlike_22 : decode (mtC m_H_doTrialsTellAlike) 22 = .ok (.invokevirtual 101, 3) := by decide +kernel
theorem k_H_doTrialsTellAlike_25 : decode (mtC m_H_doTrialsTellAlike) 25 = .ok (.ifCond .eq 29, 3) := by decide +kernel
theorem k_H_doTrialsTellAlike_28 : decode (mtC m_H_doTrialsTellAlike) 28 = .ok (.aload_n 0, 1) := by decide +kernel
theorem k_H_doTrialsTellAlike_29 : decode (mtC m_H_doTrialsTellAlike) 29 = .ok (.getfield 27, 3) := by decide +kernel
theorem k_H_doTrialsTellAlike_32 : decode (mtC m_H_doTrialsTellAlike) 32 = .ok (.invokevirtual 101, 3) := by decide +kernel
theorem k_H_doTrialsTellAlike_35 : decode (mtC m_H_doTrialsTellAlike) 35 = .ok (.ifCond .eq 17, 3) := by decide +kernel
theorem k_H_doTrialsTellAlike_38 : decode (mtC m_H_doTrialsTellAlike) 38 = .ok (.aload_n 0, 1) := by decide +kernel
theorem k_H_doTrialsTellAlike_39 : decode (mtC m_H_doTrialsTellAlike) 39 = .ok (.getfield 31, 3) := by decide +kernel
theorem k_H_doTrialsTellAlike_42 : decode (mtC m_H_doTrialsTellAlike) 42 = .ok (.invokevirtual 101, 3) := by decide +kernel
theorem k_H_doTrialsTellAlike_45 : decode (mtC m_H_doTrialsTellAlike) 45 = .ok (.ifCond .eq 7, 3) := by decide +kernel
theorem k_H_doTrialsTellAlike_48 : decode (mtC m_H_doTrialsTellAlike) 48 = .ok (.iconst 1, 1) := by decide +kernel
theorem k_H_doTrialsTellAlike_49 : decode (mtC m_H_doTrialsTellAlike) 49 = .ok (.goto 4, 3) := by decide +kernel
theorem k_H_doTrialsTellAlike_52 : decode (mtC m_H_doTrialsTellAlike) 52 = .ok (.iconst 0, 1) := by decide +kernel
theorem k_H_doTrialsTellAlike_53 : decode (mtC m_H_doTrialsTellAlike) 53 = .ok (.ireturn, 1) := by decide +kernel
theorem k_H_doTrialsTellAlike_54 : decode (mtC m_H_doTrialsTellAlike) 54 = .ok (.aload_n 0, 1) := by decide +kernel
theorem k_H_doTrialsTellAlike_55 : decode (mtC m_H_doTrialsTellAlike) 55 = .ok (.getfield 27, 3) := by decide +kernel
theorem k_H_doTrialsTellAlike_58 : decode (mtC m_H_doTrialsTellAlike) 58 = .ok (.invokevirtual 105, 3) := by decide +kernel
theorem k_H_doTrialsTellAlike_61 : decode (mtC m_H_doTrialsTellAlike) 61 = .ok (.aload_n 0, 1) := by decide +kernel
theorem k_H_doTrialsTellAlike_62 : decode (mtC m_H_doTrialsTellAlike) 62 = .ok (.getfield 31, 3) := by decide +kernel
theorem k_H_doTrialsTellAlike_65 : decode (mtC m_H_doTrialsTellAlike) 65 = .ok (.invokevirtual 105, 3) := by decide +kernel
theorem k_H_doTrialsTellAlike_68 : decode (mtC m_H_doTrialsTellAlike) 68 = .ok (.if_icmp .eq 5, 3) := by decide +kernel
theorem k_H_doTrialsTellAlike_71 : decode (mtC m_H_doTrialsTellAlike) 71 = .ok (.iconst 0, 1) := by decide +kernel
theorem k_H_doTrialsTellAlike_72 : decode (mtC m_H_doTrialsTellAlike) 72 = .ok (.ireturn, 1) := by decide +kernel
theorem k_H_doTrialsTellAlike_73 : decode (mtC m_H_doTrialsTellAlike) 73 = .ok (.iinc 1 1, 3) := by decide +kernel
theorem k_H_doTrialsTellAlike_76 : decode (mtC m_H_doTrialsTellAlike) 76 = .ok (.goto (-74), 3) := by decide +kernel
theorem k_H_doTrialsTellAlike_79 : decode (mtC m_H_doTrialsTellAlike) 79 = .ok (.iconst 1, 1) := by decide +kernel
theorem k_H_doTrialsTellAlike_80 : decode (mtC m_H_doTrialsTellAlike) 80 = .ok (.ireturn, 1) := by decide +kernel
set_option maxHeartbeats 4000000 in
set_option maxRecDepth 100000 in
theorem T_H_doTrialsTellAlike_0 {d : Nat}  {M : AMem} {Q : Option AV → AMem → Prop}  (h : RunQ (d + 1) m_H_doTrialsTellAlike 2 [some (vR 3 0), some (vI 0)] [] M Q) : RunQ (d + 1) m_H_doTrialsTellAlike 0 [some (vR 3 0), none] [] M Q := by
  refine q_iconst 0 k_H_doTrialsTellAlike_0 ?_
  refine q_istore_n 1 k_H_doTrialsTellAlike_1 (ls' := [some (vR 3 0), some (vI 0)]) rfl rfl ?_
  exact h
set_option maxHeartbeats 4000000 in
set_option maxRecDepth 100000 in
theorem T_H_doTrialsTellAlike_2 {d : Nat} {x1 : Int} {M : AMem} {Q : Option AV → AMem → Prop}  (h : ((8 ≤ wI x1) → Q (some (vI 1)) M) ∧ (¬ (8 ≤ wI x1) → CallI d m_W_isDry [vR 2 5] M (fun y2 M1 => ((¬ wI y2 = 0) → CallI d m_W_isDry [vR 2 5] M1 (fun y4 M3 => ((wI y4 = 0) → Q (some (vI 0)) M3) ∧ (¬ (wI y4 = 0) → CallI d m_W_isDry [vR 2 6] M3 (fun y6 M5 => ((wI y6 = 0) → Q (some (vI 0)) M5) ∧ (¬ (wI y6 = 0) → Q (some (vI 1)) M5))))) ∧ (¬ (¬ wI y2 = 0) → CallI d m_W_isDry [vR 2 6] M1 (fun y8 M7 => ((wI y8 = 0) → CallI d m_W_tell [vR 2 5] M7 (fun y10 M9 => CallI d m_W_tell [vR 2 6] M9 (fun y12 M11 => ((wI y10 = wI y12) → RunQ (d + 1) m_H_doTrialsTellAlike 2 [some (vR 3 0), some (vI (x1 + 1))] [] M11 Q) ∧ (¬ (wI y10 = wI y12) → Q (some (vI 0)) M11)))) ∧ (¬ (wI y8 = 0) → CallI d m_W_isDry [vR 2 5] M7 (fun y14 M13 => ((wI y14 = 0) → Q (some (vI 0)) M13) ∧ (¬ (wI y14 = 0) → CallI d m_W_isDry [vR 2 6] M13 (fun y16 M15 => ((wI y16 = 0) → Q (some (vI 0)) M15) ∧ (¬ (wI y16 = 0) → Q (some (vI 1)) M15)))))))))) : RunQ (d + 1) m_H_doTrialsTellAlike 2 [some (vR 3 0), some (vI x1)] [] M Q := by
  refine q_iload_n 2 k_H_doTrialsTellAlike_2 rfl ?_
  refine q_bipush 3 k_H_doTrialsTellAlike_3 (by decide) ?_
  refine q_icmp_ge 5 79 k_H_doTrialsTellAlike_5 rfl rfl (fun c5 => ?_) (fun c5 => ?_)
  · have ht := h.1 c5
    refine q_iconst 79 k_H_doTrialsTellAlike_79 ?_
    exact q_zret 80 k_H_doTrialsTellAlike_80 rfl (Or.inr rfl) ht
  · have hf := h.2 c5
    refine q_aload_n 8 k_H_doTrialsTellAlike_8 rfl ?_
    refine q_getfield 9 k_H_doTrialsTellAlike_9 fk_3_27 rfl (v := vR 2 5) rfl ?_
    refine q_vI 12 [] [] k_H_doTrialsTellAlike_12 lk_3_101 rfl rfl rfl rfl rfl rfl rfl rfl (CallI.mono (fun y2 M1 h17 => ?_) hf)
    refine q_if_ne 15 28 k_H_doTrialsTellAlike_15 rfl rfl (fun c15 => ?_) (fun c15 => ?_)
    · have h17t := h17.1 c15
      refine q_aload_n 28 k_H_doTrialsTellAlike_28 rfl ?_
      refine q_getfield 29 k_H_doTrialsTellAlike_29 fk_3_27 rfl (v := vR 2 5) rfl ?_
      refine q_vI 32 [] [] k_H_doTrialsTellAlike_32 lk_3_101 rfl rfl rfl rfl rfl rfl rfl rfl (CallI.mono (fun y4 M3 h18 => ?_) h17t)
      refine q_if_eq 35 52 k_H_doTrialsTellAlike_35 rfl rfl (fun c35 => ?_) (fun c35 => ?_)
      · have h18t := h18.1 c35
        refine q_iconst 52 k_H_doTrialsTellAlike_52 ?_
        exact q_zret 53 k_H_doTrialsTellAlike_53 rfl (Or.inl rfl) h18t
      · have h18f := h18.2 c35
        refine q_aload_n 38 k_H_doTrialsTellAlike_38 rfl ?_
        refine q_getfield 39 k_H_doTrialsTellAlike_39 fk_3_31 rfl (v := vR 2 6) rfl ?_
        refine q_vI 42 [] [] k_H_doTrialsTellAlike_42 lk_3_101 rfl rfl rfl rfl rfl rfl rfl rfl (CallI.mono (fun y6 M5 h19 => ?_) h18f)
        refine q_if_eq 45 52 k_H_doTrialsTellAlike_45 rfl rfl (fun c45 => ?_) (fun c45 => ?_)
        · have h19t := h19.1 c45
          refine q_iconst 52 k_H_doTrialsTellAlike_52 ?_
          exact q_zret 53 k_H_doTrialsTellAlike_53 rfl (Or.inl rfl) h19t
        · have h19f := h19.2 c45
          refine q_iconst 48 k_H_doTrialsTellAlike_48 ?_
          refine q_goto 49 53 k_H_doTrialsTellAlike_49 rfl rfl ?_
          exact q_zret 53 k_H_doTrialsTellAlike_53 rfl (Or.inr rfl) h19f
    · have h17f := h17.2 c15
      refine q_aload_n 18 k_H_doTrialsTellAlike_18 rfl ?_
      refine q_getfield 19 k_H_doTrialsTellAlike_19 fk_3_31 rfl (v := vR 2 6) rfl ?_
      refine q_vI 22 [] [] k_H_doTrialsTellAlike_22 lk_3_101 rfl rfl rfl rfl rfl rfl rfl rfl (CallI.mono (fun y8 M7 h20 => ?_) h17f)
      refine q_if_eq 25 54 k_H_doTrialsTellAlike_25 rfl rfl (fun c25 => ?_) (fun c25 => ?_)
      · have h20t := h20.1 c25
        refine q_aload_n 54 k_H_doTrialsTellAlike_54 rfl ?_
        refine q_getfield 55 k_H_doTrialsTellAlike_55 fk_3_27 rfl (v := vR 2 5) rfl ?_
        refine q_vI 58 [] [] k_H_doTrialsTellAlike_58 lk_3_105 rfl rfl rfl rfl rfl rfl rfl rfl (CallI.mono (fun y10 M9 h21 => ?_) h20t)
        refine q_aload_n 61 k_H_doTrialsTellAlike_61 rfl ?_
        refine q_getfield 62 k_H_doTrialsTellAlike_62 fk_3_31 rfl (v := vR 2 6) rfl ?_
        refine q_vI 65 [] [vI y10] k_H_doTrialsTellAlike_65 lk_3_105 rfl rfl rfl rfl rfl rfl rfl rfl (CallI.mono (fun y12 M11 h22 => ?_) h21)
        refine q_icmp_eq 68 73 k_H_doTrialsTellAlike_68 rfl rfl (fun c68 => ?_) (fun c68 => ?_)
        · have h22t := h22.1 c68
          refine q_iinc 73 k_H_doTrialsTellAlike_73 (ls' := [some (vR 3 0), some (vI (x1 + 1))]) rfl rfl rfl ?_
          refine q_goto 76 2 k_H_doTrialsTellAlike_76 rfl rfl ?_
          exact h22t
        · have h22f := h22.2 c68
          refine q_iconst 71 k_H_doTrialsTellAlike_71 ?_
          exact q_zret 72 k_H_doTrialsTellAlike_72 rfl (Or.inl rfl) h22f
      · have h20f := h20.2 c25
        refine q_aload_n 28 k_H_doTrialsTellAlike_28 rfl ?_
        refine q_getfield 29 k_H_doTrialsTellAlike_29 fk_3_27 rfl (v := vR 2 5) rfl ?_
        refine q_vI 32 [] [] k_H_doTrialsTellAlike_32 lk_3_101 rfl rfl rfl rfl rfl rfl rfl rfl (CallI.mono (fun y14 M13 h23 => ?_) h20f)
        refine q_if_eq 35 52 k_H_doTrialsTellAlike_35 rfl rfl (fun c35 => ?_) (fun c35 => ?_)
        · have h23t := h23.1 c35
          refine q_iconst 52 k_H_doTrialsTellAlike_52 ?_
          exact q_zret 53 k_H_doTrialsTellAlike_53 rfl (Or.inl rfl) h23t
        · have h23f := h23.2 c35
          refine q_aload_n 38 k_H_doTrialsTellAlike_38 rfl ?_
          refine q_getfield 39 k_H_doTrialsTellAlike_39 fk_3_31 rfl (v := vR 2 6) rfl ?_
          refine q_vI 42 [] [] k_H_doTrialsTellAlike_42 lk_3_101 rfl rfl rfl rfl rfl rfl rfl rfl (CallI.mono (fun y16 M15 h24 => ?_) h23f)
          refine q_if_eq 45 52 k_H_doTrialsTellAlike_45 rfl rfl (fun c45 => ?_) (fun c45 => ?_)
          · have h24t := h24.1 c45
            refine q_iconst 52 k_H_doTrialsTellAlike_52 ?_
            exact q_zret 53 k_H_doTrialsTellAlike_53 rfl (Or.inl rfl) h24t
          · have h24f := h24.2 c45
            refine q_iconst 48 k_H_doTrialsTellAlike_48 ?_
            refine q_goto 49 53 k_H_doTrialsTellAlike_49 rfl rfl ?_
            exact q_zret 53 k_H_doTrialsTellAlike_53 rfl (Or.inr rfl) h24f
theorem k_H_shareOf_0 : decode (mtC m_H_shareOf) 0 = .ok (.iload_n 1, 1) := by decide +kernel
theorem k_H_shareOf_1 : decode (mtC m_H_shareOf) 1 = .ok (.tableswitch 65 0 2 #[27, 40, 60], 27) := by decide +kernel
theorem k_H_shareOf_28 : decode (mtC m_H_shareOf) 28 = .ok (.aload_n 0, 1) := by decide +kernel
theorem k_H_shareOf_29 : decode (mtC m_H_shareOf) 29 = .ok (.invokevirtual 108, 3) := by decide +kernel
theorem k_H_shareOf_32 : decode (mtC m_H_shareOf) 32 = .ok (.ifCond .eq 7, 3) := by decide +kernel
theorem k_H_shareOf_35 : decode (mtC m_H_shareOf) 35 = .ok (.iconst 0, 1) := by decide +kernel
theorem k_H_shareOf_36 : decode (mtC m_H_shareOf) 36 = .ok (.goto 4, 3) := by decide +kernel
theorem k_H_shareOf_39 : decode (mtC m_H_shareOf) 39 = .ok (.iconst 1, 1) := by decide +kernel
theorem k_H_shareOf_40 : decode (mtC m_H_shareOf) 40 = .ok (.ireturn, 1) := by decide +kernel
theorem k_H_shareOf_41 : decode (mtC m_H_shareOf) 41 = .ok (.aload_n 0, 1) := by decide +kernel
theorem k_H_shareOf_42 : decode (mtC m_H_shareOf) 42 = .ok (.invokevirtual 108, 3) := by decide +kernel
theorem k_H_shareOf_45 : decode (mtC m_H_shareOf) 45 = .ok (.ifCond .ne 14, 3) := by decide +kernel
theorem k_H_shareOf_48 : decode (mtC m_H_shareOf) 48 = .ok (.aload_n 0, 1) := by decide +kernel
theorem k_H_shareOf_49 : decode (mtC m_H_shareOf) 49 = .ok (.invokevirtual 101, 3) := by decide +kernel
theorem k_H_shareOf_52 : decode (mtC m_H_shareOf) 52 = .ok (.ifCond .eq 7, 3) := by decide +kernel
theorem k_H_shareOf_55 : decode (mtC m_H_shareOf) 55 = .ok (.iconst 1, 1) := by decide +kernel
theorem k_H_shareOf_56 : decode (mtC m_H_shareOf) 56 = .ok (.goto 4, 3) := by decide +kernel
theorem k_H_shareOf_59 : decode (mtC m_H_shareOf) 59 = .ok (.iconst 0, 1) := by decide +kernel
theorem k_H_shareOf_60 : decode (mtC m_H_shareOf) 60 = .ok (.ireturn, 1) := by decide +kernel
theorem k_H_shareOf_61 : decode (mtC m_H_shareOf) 61 = .ok (.aload_n 0, 1) := by decide +kernel
theorem k_H_shareOf_62 : decode (mtC m_H_shareOf) 62 = .ok (.getfield 129, 3) := by decide +kernel
theorem k_H_shareOf_65 : decode (mtC m_H_shareOf) 65 = .ok (.ireturn, 1) := by decide +kernel
theorem k_H_shareOf_66 : decode (mtC m_H_shareOf) 66 = .ok (.aload_n 0, 1) := by decide +kernel
theorem k_H_shareOf_67 : decode (mtC m_H_shareOf) 67 = .ok (.getfield 88, 3) := by decide +kernel
theorem k_H_shareOf_70 : decode (mtC m_H_shareOf) 70 = .ok (.getfield 92, 3) := by decide +kernel
theorem k_H_shareOf_73 : decode (mtC m_H_shareOf) 73 = .ok (.ireturn, 1) := by decide +kernel
set_option maxHeartbeats 4000000 in
set_option maxRecDepth 100000 in
theorem T_H_shareOf_0 {d : Nat} {i0 : Nat} {x1 : Int} {M : AMem} {Q : Option AV → AMem → Prop} (o0 : okH 2 i0 = true) (h : (wI x1 = 0 → CallI d m_W_isEmpty [vR 2 i0] M (fun y2 M1 => ((wI y2 = 0) → Q (some (vI 1)) M1) ∧ (¬ (wI y2 = 0) → Q (some (vI 0)) M1))) ∧ (wI x1 = 1 → CallI d m_W_isEmpty [vR 2 i0] M (fun y4 M3 => ((¬ wI y4 = 0) → Q (some (vI 0)) M3) ∧ (¬ (¬ wI y4 = 0) → CallI d m_W_isDry [vR 2 i0] M3 (fun y6 M5 => ((wI y6 = 0) → Q (some (vI 0)) M5) ∧ (¬ (wI y6 = 0) → Q (some (vI 1)) M5))))) ∧ (wI x1 = 2 → Q (some (vI (M 2 i0 6))) M) ∧ ((wI x1 < 0 ∨ 2 < wI x1) → Q (some (vI (M 0 i0 1))) M)) : RunQ (d + 1) m_H_shareOf 0 [some (vR 2 i0), some (vI x1)] [] M Q := by
  refine q_iload_n 0 k_H_shareOf_0 rfl ?_
  refine q_tsw 1 k_H_shareOf_1 rfl (fun c => ?_) (fun c1 c2 => ?_)
  · show RunQ _ _ 66 _ _ _ _
    have hd := h.2.2.2 c
    refine q_aload_n 66 k_H_shareOf_66 rfl ?_
    refine q_getfield 67 k_H_shareOf_67 fk_3_88 o0 (v := vR 0 i0) rfl ?_
    refine q_getfield 70 k_H_shareOf_70 fk_3_92 o0 (v := vI (M 0 i0 1)) rfl ?_
    exact q_iret 73 k_H_shareOf_73 rfl hd
  · have cq : wI x1 = 0 ∨ wI x1 = 1 ∨ wI x1 = 2 := by omega
    rcases cq with cq | cq | cq
    · refine ⟨27, by rw [cq]; rfl, rfl, ?_⟩
      show RunQ _ _ 28 _ _ _ _
      have h0 := h.1 cq
      refine q_aload_n 28 k_H_shareOf_28 rfl ?_
      refine q_vI 29 [] [] k_H_shareOf_29 lk_3_108 rfl rfl rfl o0 rfl rfl rfl rfl (CallI.mono (fun y2 M1 h7 => ?_) h0)
      refine q_if_eq 32 39 k_H_shareOf_32 rfl rfl (fun c32 => ?_) (fun c32 => ?_)
      · have h7t := h7.1 c32
        refine q_iconst 39 k_H_shareOf_39 ?_
        exact q_iret 40 k_H_shareOf_40 rfl h7t
      · have h7f := h7.2 c32
        refine q_iconst 35 k_H_shareOf_35 ?_
        refine q_goto 36 40 k_H_shareOf_36 rfl rfl ?_
        exact q_iret 40 k_H_shareOf_40 rfl h7f
    · refine ⟨40, by rw [cq]; rfl, rfl, ?_⟩
      show RunQ _ _ 41 _ _ _ _
      have h1 := h.2.1 cq
      refine q_aload_n 41 k_H_shareOf_41 rfl ?_
      refine q_vI 42 [] [] k_H_shareOf_42 lk_3_108 rfl rfl rfl o0 rfl rfl rfl rfl (CallI.mono (fun y4 M3 h8 => ?_) h1)
      refine q_if_ne 45 59 k_H_shareOf_45 rfl rfl (fun c45 => ?_) (fun c45 => ?_)
      · have h8t := h8.1 c45
        refine q_iconst 59 k_H_shareOf_59 ?_
        exact q_iret 60 k_H_shareOf_60 rfl h8t
      · have h8f := h8.2 c45
        refine q_aload_n 48 k_H_shareOf_48 rfl ?_
        refine q_vI 49 [] [] k_H_shareOf_49 lk_3_101 rfl rfl rfl o0 rfl rfl rfl rfl (CallI.mono (fun y6 M5 h9 => ?_) h8f)
        refine q_if_eq 52 59 k_H_shareOf_52 rfl rfl (fun c52 => ?_) (fun c52 => ?_)
        · have h9t := h9.1 c52
          refine q_iconst 59 k_H_shareOf_59 ?_
          exact q_iret 60 k_H_shareOf_60 rfl h9t
        · have h9f := h9.2 c52
          refine q_iconst 55 k_H_shareOf_55 ?_
          refine q_goto 56 60 k_H_shareOf_56 rfl rfl ?_
          exact q_iret 60 k_H_shareOf_60 rfl h9f
    · refine ⟨60, by rw [cq]; rfl, rfl, ?_⟩
      show RunQ _ _ 61 _ _ _ _
      have h2 := h.2.2.1 cq
      refine q_aload_n 61 k_H_shareOf_61 rfl ?_
      refine q_getfield 62 k_H_shareOf_62 fk_3_129 o0 (v := vI (M 2 i0 6)) rfl ?_
      exact q_iret 65 k_H_shareOf_65 rfl h2
theorem k_H_areRowsRising_0 : decode (mtC m_H_areRowsRising) 0 = .ok (.iconst 0, 1) := by decide +kernel
theorem k_H_areRowsRising_1 : decode (mtC m_H_areRowsRising) 1 = .ok (.istore_n 1, 1) := by decide +kernel
theorem k_H_areRowsRising_2 : decode (mtC m_H_areRowsRising) 2 = .ok (.iload_n 1, 1) := by decide +kernel
theorem k_H_areRowsRising_3 : decode (mtC m_H_areRowsRising) 3 = .ok (.aload_n 0, 1) := by decide +kernel
theorem k_H_areRowsRising_4 : decode (mtC m_H_areRowsRising) 4 = .ok (.getfield 11, 3) := by decide +kernel
theorem k_H_areRowsRising_7 : decode (mtC m_H_areRowsRising) 7 = .ok (.arraylength, 1) := by decide +kernel
theorem k_H_areRowsRising_8 : decode (mtC m_H_areRowsRising) 8 = .ok (.if_icmp .ge 23, 3) := by decide +kernel
theorem k_H_areRowsRising_11 : decode (mtC m_H_areRowsRising) 11 = .ok (.aload_n 0, 1) := by decide +kernel
theorem k_H_areRowsRising_12 : decode (mtC m_H_areRowsRising) 12 = .ok (.getfield 11, 3) := by decide +kernel
theorem k_H_areRowsRising_15 : decode (mtC m_H_areRowsRising) 15 = .ok (.iload_n 1, 1) := by decide +kernel
theorem k_H_areRowsRising_16 : decode (mtC m_H_areRowsRising) 16 = .ok (.aaload, 1) := by decide +kernel
theorem k_H_areRowsRising_17 : decode (mtC m_H_areRowsRising) 17 = .ok (.invokevirtual 234, 3) := by decide +kernel
theorem k_H_areRowsRising_20 : decode (mtC m_H_areRowsRising) 20 = .ok (.ifCond .ne 5, 3) := by decide +kernel
theorem k_H_areRowsRising_23 : decode (mtC m_H_areRowsRising) 23 = .ok (.iconst 0, 1) := by decide +kernel
theorem k_H_areRowsRising_24 : decode (mtC m_H_areRowsRising) 24 = .ok (.ireturn, 1) := by decide +kernel
theorem k_H_areRowsRising_25 : decode (mtC m_H_areRowsRising) 25 = .ok (.iinc 1 1, 3) := by decide +kernel
theorem k_H_areRowsRising_28 : decode (mtC m_H_areRowsRising) 28 = .ok (.goto (-26), 3) := by decide +kernel
theorem k_H_areRowsRising_31 : decode (mtC m_H_areRowsRising) 31 = .ok (.iconst 1, 1) := by decide +kernel
theorem k_H_areRowsRising_32 : decode (mtC m_H_areRowsRising) 32 = .ok (.ireturn, 1) := by decide +kernel
set_option maxHeartbeats 4000000 in
set_option maxRecDepth 100000 in
theorem T_H_areRowsRising_0 {d : Nat}  {M : AMem} {Q : Option AV → AMem → Prop}  (h : RunQ (d + 1) m_H_areRowsRising 2 [some (vR 3 0), some (vI 0)] [] M Q) : RunQ (d + 1) m_H_areRowsRising 0 [some (vR 3 0), none] [] M Q := by
  refine q_iconst 0 k_H_areRowsRising_0 ?_
  refine q_istore_n 1 k_H_areRowsRising_1 (ls' := [some (vR 3 0), some (vI 0)]) rfl rfl ?_
  exact h
set_option maxHeartbeats 4000000 in
set_option maxRecDepth 100000 in
theorem T_H_areRowsRising_2 {d : Nat} {x1 : Int} {M : AMem} {Q : Option AV → AMem → Prop}  (h : ((6 ≤ wI x1) → Q (some (vI 1)) M) ∧ (¬ (6 ≤ wI x1) → (0 ≤ wI x1 ∧ wI x1 < (6 : Nat)) ∧ (CallI d m_R_isRising [vR 1 (42 + (wI x1).toNat)] M (fun y3 M2 => ((¬ wI y3 = 0) → RunQ (d + 1) m_H_areRowsRising 2 [some (vR 3 0), some (vI (x1 + 1))] [] M2 Q) ∧ (¬ (¬ wI y3 = 0) → Q (some (vI 0)) M2))))) : RunQ (d + 1) m_H_areRowsRising 2 [some (vR 3 0), some (vI x1)] [] M Q := by
  refine q_iload_n 2 k_H_areRowsRising_2 rfl ?_
  refine q_aload_n 3 k_H_areRowsRising_3 rfl ?_
  refine q_getfield 4 k_H_areRowsRising_4 fk_3_11 rfl (v := vR 7 0) rfl ?_
  refine q_alen 7 k_H_areRowsRising_7 rfl rfl (z := 6) rfl ?_
  refine q_icmp_ge 8 31 k_H_areRowsRising_8 rfl rfl (fun c8 => ?_) (fun c8 => ?_)
  · have ht := h.1 c8
    refine q_iconst 31 k_H_areRowsRising_31 ?_
    exact q_zret 32 k_H_areRowsRising_32 rfl (Or.inr rfl) ht
  · have hf := h.2 c8
    refine q_aload_n 11 k_H_areRowsRising_11 rfl ?_
    refine q_getfield 12 k_H_areRowsRising_12 fk_3_11 rfl (v := vR 7 0) rfl ?_
    refine q_iload_n 15 k_H_areRowsRising_15 rfl ?_
    have hb1 := hf.1
    refine q_aaload 16 k_H_areRowsRising_16 rfl (n := 6) rfl hb1 (kd := 1) (x := (42 + (wI x1).toNat)) rfl ?_
    have hf' := hf.2
    refine q_vI 17 [] [] k_H_areRowsRising_17 lk_3_234 rfl rfl rfl (ok_r7 hb1) rfl rfl rfl rfl (CallI.mono (fun y3 M2 h4 => ?_) hf')
    refine q_if_ne 20 25 k_H_areRowsRising_20 rfl rfl (fun c20 => ?_) (fun c20 => ?_)
    · have h4t := h4.1 c20
      refine q_iinc 25 k_H_areRowsRising_25 (ls' := [some (vR 3 0), some (vI (x1 + 1))]) rfl rfl rfl ?_
      refine q_goto 28 2 k_H_areRowsRising_28 rfl rfl ?_
      exact h4t
    · have h4f := h4.2 c20
      refine q_iconst 23 k_H_areRowsRising_23 ?_
      exact q_zret 24 k_H_areRowsRising_24 rfl (Or.inl rfl) h4f
theorem k_H_areQueuesWithinLimits_0 : decode (mtC m_H_areQueuesWithinLimits) 0 = .ok (.iconst 0, 1) := by decide +kernel
theorem k_H_areQueuesWithinLimits_1 : decode (mtC m_H_areQueuesWithinLimits) 1 = .ok (.istore_n 1, 1) := by decide +kernel
theorem k_H_areQueuesWithinLimits_2 : decode (mtC m_H_areQueuesWithinLimits) 2 = .ok (.iload_n 1, 1) := by decide +kernel
theorem k_H_areQueuesWithinLimits_3 : decode (mtC m_H_areQueuesWithinLimits) 3 = .ok (.aload_n 0, 1) := by decide +kernel
theorem k_H_areQueuesWithinLimits_4 : decode (mtC m_H_areQueuesWithinLimits) 4 = .ok (.getfield 22, 3) := by decide +kernel
theorem k_H_areQueuesWithinLimits_7 : decode (mtC m_H_areQueuesWithinLimits) 7 = .ok (.arraylength, 1) := by decide +kernel
theorem k_H_areQueuesWithinLimits_8 : decode (mtC m_H_areQueuesWithinLimits) 8 = .ok (.if_icmp .ge 35, 3) := by decide +kernel
theorem k_H_areQueuesWithinLimits_11 : decode (mtC m_H_areQueuesWithinLimits) 11 = .ok (.aload_n 0, 1) := by decide +kernel
theorem k_H_areQueuesWithinLimits_12 : decode (mtC m_H_areQueuesWithinLimits) 12 = .ok (.getfield 22, 3) := by decide +kernel
theorem k_H_areQueuesWithinLimits_15 : decode (mtC m_H_areQueuesWithinLimits) 15 = .ok (.iload_n 1, 1) := by decide +kernel
theorem k_H_areQueuesWithinLimits_16 : decode (mtC m_H_areQueuesWithinLimits) 16 = .ok (.aaload, 1) := by decide +kernel
theorem k_H_areQueuesWithinLimits_17 : decode (mtC m_H_areQueuesWithinLimits) 17 = .ok (.getfield 88, 3) := by decide +kernel
theorem k_H_areQueuesWithinLimits_20 : decode (mtC m_H_areQueuesWithinLimits) 20 = .ok (.getfield 92, 3) := by decide +kernel
theorem k_H_areQueuesWithinLimits_23 : decode (mtC m_H_areQueuesWithinLimits) 23 = .ok (.aload_n 0, 1) := by decide +kernel
theorem k_H_areQueuesWithinLimits_24 : decode (mtC m_H_areQueuesWithinLimits) 24 = .ok (.getfield 22, 3) := by decide +kernel
theorem k_H_areQueuesWithinLimits_27 : decode (mtC m_H_areQueuesWithinLimits) 27 = .ok (.iload_n 1, 1) := by decide +kernel
theorem k_H_areQueuesWithinLimits_28 : decode (mtC m_H_areQueuesWithinLimits) 28 = .ok (.aaload, 1) := by decide +kernel
theorem k_H_areQueuesWithinLimits_29 : decode (mtC m_H_areQueuesWithinLimits) 29 = .ok (.invokevirtual 150, 3) := by decide +kernel
theorem k_H_areQueuesWithinLimits_32 : decode (mtC m_H_areQueuesWithinLimits) 32 = .ok (.if_icmp .le 5, 3) := by decide +kernel
theorem k_H_areQueuesWithinLimits_35 : decode (mtC m_H_areQueuesWithinLimits) 35 = .ok (.iconst 0, 1) := by decide +kernel
theorem k_H_areQueuesWithinLimits_36 : decode (mtC m_H_areQueuesWithinLimits) 36 = .ok (.ireturn, 1) := by decide +kernel
theorem k_H_areQueuesWithinLimits_37 : decode (mtC m_H_areQueuesWithinLimits) 37 = .ok (.iinc 1 1, 3) := by decide +kernel
theorem k_H_areQueuesWithinLimits_40 : decode (mtC m_H_areQueuesWithinLimits) 40 = .ok (.goto (-38), 3) := by decide +kernel
theorem k_H_areQueuesWithinLimits_43 : decode (mtC m_H_areQueuesWithinLimits) 43 = .ok (.iconst 1, 1) := by decide +kernel
theorem k_H_areQueuesWithinLimits_44 : decode (mtC m_H_areQueuesWithinLimits) 44 = .ok (.ireturn, 1) := by decide +kernel
set_option maxHeartbeats 4000000 in
set_option maxRecDepth 100000 in
theorem T_H_areQueuesWithinLimits_0 {d : Nat}  {M : AMem} {Q : Option AV → AMem → Prop}  (h : RunQ (d + 1) m_H_areQueuesWithinLimits 2 [some (vR 3 0), some (vI 0)] [] M Q) : RunQ (d + 1) m_H_areQueuesWithinLimits 0 [some (vR 3 0), none] [] M Q := by
  refine q_iconst 0 k_H_areQueuesWithinLimits_0 ?_
  refine q_istore_n 1 k_H_areQueuesWithinLimits_1 (ls' := [some (vR 3 0), some (vI 0)]) rfl rfl ?_
  exact h
set_option maxHeartbeats 4000000 in
set_option maxRecDepth 100000 in
theorem T_H_areQueuesWithinLimits_2 {d : Nat} {x1 : Int} {M : AMem} {Q : Option AV → AMem → Prop}  (h : ((5 ≤ wI x1) → Q (some (vI 1)) M) ∧ (¬ (5 ≤ wI x1) → (0 ≤ wI x1 ∧ wI x1 < (5 : Nat)) ∧ ((0 ≤ wI x1 ∧ wI x1 < (5 : Nat)) ∧ (CallI d m_W_limit [vR 2 ((wI x1).toNat)] M (fun y4 M3 => ((wI (M 0 ((wI x1).toNat) 1) ≤ wI y4) → RunQ (d + 1) m_H_areQueuesWithinLimits 2 [some (vR 3 0), some (vI (x1 + 1))] [] M3 Q) ∧ (¬ (wI (M 0 ((wI x1).toNat) 1) ≤ wI y4) → Q (some (vI 0)) M3)))))) : RunQ (d + 1) m_H_areQueuesWithinLimits 2 [some (vR 3 0), some (vI x1)] [] M Q := by
  refine q_iload_n 2 k_H_areQueuesWithinLimits_2 rfl ?_
  refine q_aload_n 3 k_H_areQueuesWithinLimits_3 rfl ?_
  refine q_getfield 4 k_H_areQueuesWithinLimits_4 fk_3_22 rfl (v := vR 8 0) rfl ?_
  refine q_alen 7 k_H_areQueuesWithinLimits_7 rfl rfl (z := 5) rfl ?_
  refine q_icmp_ge 8 43 k_H_areQueuesWithinLimits_8 rfl rfl (fun c8 => ?_) (fun c8 => ?_)
  · have ht := h.1 c8
    refine q_iconst 43 k_H_areQueuesWithinLimits_43 ?_
    exact q_zret 44 k_H_areQueuesWithinLimits_44 rfl (Or.inr rfl) ht
  · have hf := h.2 c8
    refine q_aload_n 11 k_H_areQueuesWithinLimits_11 rfl ?_
    refine q_getfield 12 k_H_areQueuesWithinLimits_12 fk_3_22 rfl (v := vR 8 0) rfl ?_
    refine q_iload_n 15 k_H_areQueuesWithinLimits_15 rfl ?_
    have hb1 := hf.1
    refine q_aaload 16 k_H_areQueuesWithinLimits_16 rfl (n := 5) rfl hb1 (kd := 2) (x := (wI x1).toNat) rfl ?_
    have hf' := hf.2
    refine q_getfield 17 k_H_areQueuesWithinLimits_17 fk_3_88 (ok_w8 hb1) (v := vR 0 ((wI x1).toNat)) rfl ?_
    refine q_getfield 20 k_H_areQueuesWithinLimits_20 fk_3_92 (ok_w8 hb1) (v := vI (M 0 ((wI x1).toNat) 1)) rfl ?_
    refine q_aload_n 23 k_H_areQueuesWithinLimits_23 rfl ?_
    refine q_getfield 24 k_H_areQueuesWithinLimits_24 fk_3_22 rfl (v := vR 8 0) rfl ?_
    refine q_iload_n 27 k_H_areQueuesWithinLimits_27 rfl ?_
    have hb2 := hf'.1
    refine q_aaload 28 k_H_areQueuesWithinLimits_28 rfl (n := 5) rfl hb2 (kd := 2) (x := (wI x1).toNat) rfl ?_
    have hf'' := hf'.2
    refine q_vI 29 [] [vI (M 0 ((wI x1).toNat) 1)] k_H_areQueuesWithinLimits_29 lk_3_150 rfl rfl rfl (ok_w8 hb2) rfl rfl rfl rfl (CallI.mono (fun y4 M3 h5 => ?_) hf'')
    refine q_icmp_le 32 37 k_H_areQueuesWithinLimits_32 rfl rfl (fun c32 => ?_) (fun c32 => ?_)
    · have h5t := h5.1 c32
      refine q_iinc 37 k_H_areQueuesWithinLimits_37 (ls' := [some (vR 3 0), some (vI (x1 + 1))]) rfl rfl rfl ?_
      refine q_goto 40 2 k_H_areQueuesWithinLimits_40 rfl rfl ?_
      exact h5t
    · have h5f := h5.2 c32
      refine q_iconst 35 k_H_areQueuesWithinLimits_35 ?_
      exact q_zret 36 k_H_areQueuesWithinLimits_36 rfl (Or.inl rfl) h5f
theorem k_H_hasToldNoMoreThanIs_0 : decode (mtC m_H_hasToldNoMoreThanIs) 0 = .ok (.aload_n 0, 1) := by decide +kernel
theorem k_H_hasToldNoMoreThanIs_1 : decode (mtC m_H_hasToldNoMoreThanIs) 1 = .ok (.invokevirtual 132, 3) := by decide +kernel
theorem k_H_hasToldNoMoreThanIs_4 : decode (mtC m_H_hasToldNoMoreThanIs) 4 = .ok (.istore_n 1, 1) := by decide +kernel
theorem k_H_hasToldNoMoreThanIs_5 : decode (mtC m_H_hasToldNoMoreThanIs) 5 = .ok (.iload_n 1, 1) := by decide +kernel
theorem k_H_hasToldNoMoreThanIs_6 : decode (mtC m_H_hasToldNoMoreThanIs) 6 = .ok (.iconst (-1), 1) := by decide +kernel
theorem k_H_hasToldNoMoreThanIs_7 : decode (mtC m_H_hasToldNoMoreThanIs) 7 = .ok (.if_icmp .eq 18, 3) := by decide +kernel
theorem k_H_hasToldNoMoreThanIs_10 : decode (mtC m_H_hasToldNoMoreThanIs) 10 = .ok (.aload_n 0, 1) := by decide +kernel
theorem k_H_hasToldNoMoreThanIs_11 : decode (mtC m_H_hasToldNoMoreThanIs) 11 = .ok (.getfield 126, 3) := by decide +kernel
theorem k_H_hasToldNoMoreThanIs_14 : decode (mtC m_H_hasToldNoMoreThanIs) 14 = .ok (.ifCond .ne 11, 3) := by decide +kernel
theorem k_H_hasToldNoMoreThanIs_17 : decode (mtC m_H_hasToldNoMoreThanIs) 17 = .ok (.aload_n 0, 1) := by decide +kernel
theorem k_H_hasToldNoMoreThanIs_18 : decode (mtC m_H_hasToldNoMoreThanIs) 18 = .ok (.iload_n 1, 1) := by decide +kernel
theorem k_H_hasToldNoMoreThanIs_19 : decode (mtC m_H_hasToldNoMoreThanIs) 19 = .ok (.invokevirtual 153, 3) := by decide +kernel
theorem k_H_hasToldNoMoreThanIs_22 : decode (mtC m_H_hasToldNoMoreThanIs) 22 = .ok (.ifCond .ne 5, 3) := by decide +kernel
theorem k_H_hasToldNoMoreThanIs_25 : decode (mtC m_H_hasToldNoMoreThanIs) 25 = .ok (.iconst 1, 1) := by decide +kernel
theorem k_H_hasToldNoMoreThanIs_26 : decode (mtC m_H_hasToldNoMoreThanIs) 26 = .ok (.ireturn, 1) := by decide +kernel
theorem k_H_hasToldNoMoreThanIs_27 : decode (mtC m_H_hasToldNoMoreThanIs) 27 = .ok (.aload_n 0, 1) := by decide +kernel
theorem k_H_hasToldNoMoreThanIs_28 : decode (mtC m_H_hasToldNoMoreThanIs) 28 = .ok (.getfield 129, 3) := by decide +kernel
theorem k_H_hasToldNoMoreThanIs_31 : decode (mtC m_H_hasToldNoMoreThanIs) 31 = .ok (.aload_n 0, 1) := by decide +kernel
theorem k_H_hasToldNoMoreThanIs_32 : decode (mtC m_H_hasToldNoMoreThanIs) 32 = .ok (.iload_n 1, 1) := by decide +kernel
theorem k_H_hasToldNoMoreThanIs_33 : decode (mtC m_H_hasToldNoMoreThanIs) 33 = .ok (.invokevirtual 156, 3) := by decide +kernel
theorem k_H_hasToldNoMoreThanIs_36 : decode (mtC m_H_hasToldNoMoreThanIs) 36 = .ok (.if_icmp .gt 7, 3) := by decide +kernel
theorem k_H_hasToldNoMoreThanIs_39 : decode (mtC m_H_hasToldNoMoreThanIs) 39 = .ok (.iconst 1, 1) := by decide +kernel
theorem k_H_hasToldNoMoreThanIs_40 : decode (mtC m_H_hasToldNoMoreThanIs) 40 = .ok (.goto 4, 3) := by decide +kernel
theorem k_H_hasToldNoMoreThanIs_43 : decode (mtC m_H_hasToldNoMoreThanIs) 43 = .ok (.iconst 0, 1) := by decide +kernel
theorem k_H_hasToldNoMoreThanIs_44 : decode (mtC m_H_hasToldNoMoreThanIs) 44 = .ok (.ireturn, 1) := by decide +kernel
set_option maxHeartbeats 4000000 in
set_option maxRecDepth 100000 in
theorem T_H_hasToldNoMoreThanIs_0 {d : Nat} {i0 : Nat} {M : AMem} {Q : Option AV → AMem → Prop} (o0 : okH 2 i0 = true) (h : CallI d m_W_lastNumber [vR 2 i0] M (fun y2 M1 => ((wI y2 = (-1)) → Q (some (vI 1)) M1) ∧ (¬ (wI y2 = (-1)) → ((¬ wI (M1 2 i0 5) = 0) → Q (some (vI 1)) M1) ∧ (¬ (¬ wI (M1 2 i0 5) = 0) → CallI d m_W_canCountTo [vR 2 i0, vI y2] M1 (fun y4 M3 => ((¬ wI y4 = 0) → CallI d m_W_countUpTo [vR 2 i0, vI y2] M3 (fun y6 M5 => ((wI y6 < wI (M3 2 i0 6)) → Q (some (vI 0)) M5) ∧ (¬ (wI y6 < wI (M3 2 i0 6)) → Q (some (vI 1)) M5))) ∧ (¬ (¬ wI y4 = 0) → Q (some (vI 1)) M3)))))) : RunQ (d + 1) m_H_hasToldNoMoreThanIs 0 [some (vR 2 i0), none] [] M Q := by
  refine q_aload_n 0 k_H_hasToldNoMoreThanIs_0 rfl ?_
  refine q_vI 1 [] [] k_H_hasToldNoMoreThanIs_1 lk_3_132 rfl rfl rfl o0 rfl rfl rfl rfl (CallI.mono (fun y2 M1 h7 => ?_) h)
  refine q_istore_n 4 k_H_hasToldNoMoreThanIs_4 (ls' := [some (vR 2 i0), some (vI y2)]) rfl rfl ?_
  refine q_iload_n 5 k_H_hasToldNoMoreThanIs_5 rfl ?_
  refine q_iconst 6 k_H_hasToldNoMoreThanIs_6 ?_
  refine q_icmp_eq 7 25 k_H_hasToldNoMoreThanIs_7 rfl rfl (fun c7 => ?_) (fun c7 => ?_)
  · have h7t := h7.1 c7
    refine q_iconst 25 k_H_hasToldNoMoreThanIs_25 ?_
    exact q_zret 26 k_H_hasToldNoMoreThanIs_26 rfl (Or.inr rfl) h7t
  · have h7f := h7.2 c7
    refine q_aload_n 10 k_H_hasToldNoMoreThanIs_10 rfl ?_
    refine q_getfield 11 k_H_hasToldNoMoreThanIs_11 fk_3_126 o0 (v := vI (M1 2 i0 5)) rfl ?_
    refine q_if_ne 14 25 k_H_hasToldNoMoreThanIs_14 rfl rfl (fun c14 => ?_) (fun c14 => ?_)
    · have h7ft := h7f.1 c14
      refine q_iconst 25 k_H_hasToldNoMoreThanIs_25 ?_
      exact q_zret 26 k_H_hasToldNoMoreThanIs_26 rfl (Or.inr rfl) h7ft
    · have h7ff := h7f.2 c14
      refine q_aload_n 17 k_H_hasToldNoMoreThanIs_17 rfl ?_
      refine q_iload_n 18 k_H_hasToldNoMoreThanIs_18 rfl ?_
      refine q_vI 19 [vI y2] [] k_H_hasToldNoMoreThanIs_19 lk_3_153 rfl rfl rfl o0 rfl rfl rfl rfl (CallI.mono (fun y4 M3 h8 => ?_) h7ff)
      refine q_if_ne 22 27 k_H_hasToldNoMoreThanIs_22 rfl rfl (fun c22 => ?_) (fun c22 => ?_)
      · have h8t := h8.1 c22
        refine q_aload_n 27 k_H_hasToldNoMoreThanIs_27 rfl ?_
        refine q_getfield 28 k_H_hasToldNoMoreThanIs_28 fk_3_129 o0 (v := vI (M3 2 i0 6)) rfl ?_
        refine q_aload_n 31 k_H_hasToldNoMoreThanIs_31 rfl ?_
        refine q_iload_n 32 k_H_hasToldNoMoreThanIs_32 rfl ?_
        refine q_vI 33 [vI y2] [vI (M3 2 i0 6)] k_H_hasToldNoMoreThanIs_33 lk_3_156 rfl rfl rfl o0 rfl rfl rfl rfl (CallI.mono (fun y6 M5 h9 => ?_) h8t)
        refine q_icmp_gt 36 43 k_H_hasToldNoMoreThanIs_36 rfl rfl (fun c36 => ?_) (fun c36 => ?_)
        · have h9t := h9.1 c36
          refine q_iconst 43 k_H_hasToldNoMoreThanIs_43 ?_
          exact q_zret 44 k_H_hasToldNoMoreThanIs_44 rfl (Or.inl rfl) h9t
        · have h9f := h9.2 c36
          refine q_iconst 39 k_H_hasToldNoMoreThanIs_39 ?_
          refine q_goto 40 44 k_H_hasToldNoMoreThanIs_40 rfl rfl ?_
          exact q_zret 44 k_H_hasToldNoMoreThanIs_44 rfl (Or.inr rfl) h9f
      · have h8f := h8.2 c22
        refine q_iconst 25 k_H_hasToldNoMoreThanIs_25 ?_
        exact q_zret 26 k_H_hasToldNoMoreThanIs_26 rfl (Or.inr rfl) h8f
