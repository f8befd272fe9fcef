theorem k_L_below_0 : decode (mtC m_L_below) 0 = .ok (.iload_n 0, 1) := by decide +kernel
theorem k_L_below_1 : decode (mtC m_L_below) 1 = .ok (.ldc 7, 2) := by decide +kernel
theorem k_L_below_3 : decode (mtC m_L_below) 3 = .ok (.iand, 1) := by decide +kernel
theorem k_L_below_4 : decode (mtC m_L_below) 4 = .ok (.iload_n 1, 1) := by decide +kernel
theorem k_L_below_5 : decode (mtC m_L_below) 5 = .ok (.irem, 1) := by decide +kernel
theorem k_L_below_6 : decode (mtC m_L_below) 6 = .ok (.ireturn, 1) := by decide +kernel
set_option maxHeartbeats 4000000 in
set_option maxRecDepth 100000 in
theorem T_L_below_0 {d : Nat} {x0 : Int} {x1 : Int} {M : AMem} {Q : Option AV → AMem → Prop}  (h : (¬ wI x1 = 0) ∧ (Q (some (vI (Int.tmod (wI (opAnd x0 2147483647)) (wI x1)))) M)) : RunQ d m_L_below 0 [some (vI x0), some (vI x1)] [] M Q := by
  refine q_iload_n 0 k_L_below_0 rfl ?_
  refine q_ldc 1 k_L_below_1 ck_4_7 ?_
  refine q_iand 3 k_L_below_3 ?_
  refine q_iload_n 4 k_L_below_4 rfl ?_
  refine q_irem 5 k_L_below_5 h.1 ?_
  have h' := h.2
  exact q_iret 6 k_L_below_6 rfl h'
theorem k_L_cell_0 : decode (mtC m_L_cell) 0 = .ok (.iload_n 1, 1) := by decide +kernel
theorem k_L_cell_1 : decode (mtC m_L_cell) 1 = .ok (.aload_n 0, 1) := by decide +kernel
theorem k_L_cell_2 : decode (mtC m_L_cell) 2 = .ok (.arraylength, 1) := by decide +kernel
theorem k_L_cell_3 : decode (mtC m_L_cell) 3 = .ok (.if_icmp .ge 9, 3) := by decide +kernel
theorem k_L_cell_6 : decode (mtC m_L_cell) 6 = .ok (.aload_n 0, 1) := by decide +kernel
theorem k_L_cell_7 : decode (mtC m_L_cell) 7 = .ok (.iload_n 1, 1) := by decide +kernel
theorem k_L_cell_8 : decode (mtC m_L_cell) 8 = .ok (.iaload, 1) := by decide +kernel
theorem k_L_cell_9 : decode (mtC m_L_cell) 9 = .ok (.goto 9, 3) := by decide +kernel
theorem k_L_cell_12 : decode (mtC m_L_cell) 12 = .ok (.ldc 8, 2) := by decide +kernel
theorem k_L_cell_14 : decode (mtC m_L_cell) 14 = .ok (.iload_n 1, 1) := by decide +kernel
theorem k_L_cell_15 : decode (mtC m_L_cell) 15 = .ok (.iconst 3, 1) := by decide +kernel
theorem k_L_cell_16 : decode (mtC m_L_cell) 16 = .ok (.iadd, 1) := by decide +kernel
theorem k_L_cell_17 : decode (mtC m_L_cell) 17 = .ok (.imul, 1) := by decide +kernel
theorem k_L_cell_18 : decode (mtC m_L_cell) 18 = .ok (.ireturn, 1) := by decide +kernel
set_option maxHeartbeats 4000000 in
set_option maxRecDepth 100000 in
theorem T_L_cell_0 {d : Nat} {x1 : Int} {M : AMem} {Q : Option AV → AMem → Prop}  (h : ((wI (alen 9 M : Int) ≤ wI x1) → Q (some (vI (790386105 * (x1 + 3)))) M) ∧ (¬ (wI (alen 9 M : Int) ≤ wI x1) → (0 ≤ wI x1 ∧ wI x1 < (alen 9 M : Nat)) ∧ (Q (some (vI (M 9 0 (wI x1).toNat))) M))) : RunQ d m_L_cell 0 [some (vR 9 0), some (vI x1)] [] M Q := by
  refine q_iload_n 0 k_L_cell_0 rfl ?_
  refine q_aload_n 1 k_L_cell_1 rfl ?_
  refine q_alen 2 k_L_cell_2 rfl rfl (z := (alen 9 M : Int)) rfl ?_
  refine q_icmp_ge 3 12 k_L_cell_3 rfl rfl (fun c3 => ?_) (fun c3 => ?_)
  · have ht := h.1 c3
    refine q_ldc 12 k_L_cell_12 ck_4_8 ?_
    refine q_iload_n 14 k_L_cell_14 rfl ?_
    refine q_iconst 15 k_L_cell_15 ?_
    refine q_iadd 16 k_L_cell_16 ?_
    refine q_imul 17 k_L_cell_17 ?_
    exact q_iret 18 k_L_cell_18 rfl ht
  · have hf := h.2 c3
    refine q_aload_n 6 k_L_cell_6 rfl ?_
    refine q_iload_n 7 k_L_cell_7 rfl ?_
    have hb1 := hf.1
    refine q_iaload 8 k_L_cell_8 rfl (n := alen 9 M) rfl hb1 (z := (M 9 0 (wI x1).toNat)) rfl ?_
    have hf' := hf.2
    refine q_goto 9 18 k_L_cell_9 rfl rfl ?_
    exact q_iret 18 k_L_cell_18 rfl hf'
theorem k_L_roll_0 : decode (mtC m_L_roll) 0 = .ok (.aload_n 0, 1) := by decide +kernel
theorem k_L_roll_1 : decode (mtC m_L_roll) 1 = .ok (.iload_n 1, 1) := by decide +kernel
theorem k_L_roll_2 : decode (mtC m_L_roll) 2 = .ok (.bipush 20, 2) := by decide +kernel
theorem k_L_roll_4 : decode (mtC m_L_roll) 4 = .ok (.irem, 1) := by decide +kernel
theorem k_L_roll_5 : decode (mtC m_L_roll) 5 = .ok (.invokestatic 9, 3) := by decide +kernel
theorem k_L_roll_8 : decode (mtC m_L_roll) 8 = .ok (.ldc 15, 2) := by decide +kernel
theorem k_L_roll_10 : decode (mtC m_L_roll) 10 = .ok (.iload_n 1, 1) := by decide +kernel
theorem k_L_roll_11 : decode (mtC m_L_roll) 11 = .ok (.imul, 1) := by decide +kernel
theorem k_L_roll_12 : decode (mtC m_L_roll) 12 = .ok (.iadd, 1) := by decide +kernel
theorem k_L_roll_13 : decode (mtC m_L_roll) 13 = .ok (.ldc 16, 2) := by decide +kernel
theorem k_L_roll_15 : decode (mtC m_L_roll) 15 = .ok (.imul, 1) := by decide +kernel
theorem k_L_roll_16 : decode (mtC m_L_roll) 16 = .ok (.istore_n 2, 1) := by decide +kernel
theorem k_L_roll_17 : decode (mtC m_L_roll) 17 = .ok (.iload_n 2, 1) := by decide +kernel
theorem k_L_roll_18 : decode (mtC m_L_roll) 18 = .ok (.iload_n 2, 1) := by decide +kernel
theorem k_L_roll_19 : decode (mtC m_L_roll) 19 = .ok (.bipush 15, 2) := by decide +kernel
theorem k_L_roll_21 : decode (mtC m_L_roll) 21 = .ok (.iushr, 1) := by decide +kernel
theorem k_L_roll_22 : decode (mtC m_L_roll) 22 = .ok (.ixor, 1) := by decide +kernel
theorem k_L_roll_23 : decode (mtC m_L_roll) 23 = .ok (.ireturn, 1) := by decide +kernel
set_option maxHeartbeats 4000000 in
set_option maxRecDepth 100000 in
theorem T_L_roll_0 {d : Nat} {x1 : Int} {M : AMem} {Q : Option AV → AMem → Prop}  (h : CallI d m_L_cell [vR 9 0, vI (Int.tmod (wI x1) (20))] M (fun y2 M1 => Q (some (vI (opXor ((y2 + (1028477387 * x1)) * 668265263) (opUshr ((y2 + (1028477387 * x1)) * 668265263) 15)))) M1)) : RunQ (d + 1) m_L_roll 0 [some (vR 9 0), some (vI x1), none] [] M Q := by
  refine q_aload_n 0 k_L_roll_0 rfl ?_
  refine q_iload_n 1 k_L_roll_1 rfl ?_
  refine q_bipush 2 k_L_roll_2 (by decide) ?_
  refine q_irem 4 k_L_roll_4 (by decide) ?_
  refine q_sI 5 [vR 9 0, vI (Int.tmod (wI x1) (20))] [] k_L_roll_5 rfl lk_4_9 rfl rfl rfl rfl rfl rfl (CallI.mono (fun y2 M1 h3 => ?_) h)
  refine q_ldc 8 k_L_roll_8 ck_4_15 ?_
  refine q_iload_n 10 k_L_roll_10 rfl ?_
  refine q_imul 11 k_L_roll_11 ?_
  refine q_iadd 12 k_L_roll_12 ?_
  refine q_ldc 13 k_L_roll_13 ck_4_16 ?_
  refine q_imul 15 k_L_roll_15 ?_
  refine q_istore_n 16 k_L_roll_16 (ls' := [some (vR 9 0), some (vI x1), some (vI ((y2 + (1028477387 * x1)) * 668265263))]) rfl rfl ?_
  refine q_iload_n 17 k_L_roll_17 rfl ?_
  refine q_iload_n 18 k_L_roll_18 rfl ?_
  refine q_bipush 19 k_L_roll_19 (by decide) ?_
  refine q_iushr 21 k_L_roll_21 ?_
  refine q_ixor 22 k_L_roll_22 ?_
  exact q_iret 23 k_L_roll_23 rfl h3
theorem k_L_begin_0 : decode (mtC m_L_begin) 0 = .ok (.iload_n 3, 1) := by decide +kernel
theorem k_L_begin_1 : decode (mtC m_L_begin) 1 = .ok (.bipush 6, 2) := by decide +kernel
theorem k_L_begin_3 : decode (mtC m_L_begin) 3 = .ok (.invokestatic 23, 3) := by decide +kernel
theorem k_L_begin_6 : decode (mtC m_L_begin) 6 = .ok (.istore 5, 2) := by decide +kernel
theorem k_L_begin_8 : decode (mtC m_L_begin) 8 = .ok (.iload 4, 2) := by decide +kernel
theorem k_L_begin_10 : decode (mtC m_L_begin) 10 = .ok (.bipush 6, 2) := by decide +kernel
theorem k_L_begin_12 : decode (mtC m_L_begin) 12 = .ok (.invokestatic 23, 3) := by decide +kernel
theorem k_L_begin_15 : decode (mtC m_L_begin) 15 = .ok (.istore 6, 2) := by decide +kernel
theorem k_L_begin_17 : decode (mtC m_L_begin) 17 = .ok (.iload_n 2, 1) := by decide +kernel
theorem k_L_begin_18 : decode (mtC m_L_begin) 18 = .ok (.tableswitch 130 0 4 #[34, 51, 64, 85, 117], 34) := by decide +kernel
theorem k_L_begin_52 : decode (mtC m_L_begin) 52 = .ok (.aload_n 0, 1) := by decide +kernel
theorem k_L_begin_53 : decode (mtC m_L_begin) 53 = .ok (.iload_n 1, 1) := by decide +kernel
theorem k_L_begin_54 : decode (mtC m_L_begin) 54 = .ok (.iconst 1, 1) := by decide +kernel
theorem k_L_begin_55 : decode (mtC m_L_begin) 55 = .ok (.iload_n 3, 1) := by decide +kernel
theorem k_L_begin_56 : decode (mtC m_L_begin) 56 = .ok (.bipush 63, 2) := by decide +kernel
theorem k_L_begin_58 : decode (mtC m_L_begin) 58 = .ok (.invokestatic 23, 3) := by decide +kernel
theorem k_L_begin_61 : decode (mtC m_L_begin) 61 = .ok (.iadd, 1) := by decide +kernel
theorem k_L_begin_62 : decode (mtC m_L_begin) 62 = .ok (.invokevirtual 57, 3) := by decide +kernel
theorem k_L_begin_65 : decode (mtC m_L_begin) 65 = .ok (.pop, 1) := by decide +kernel
theorem k_L_begin_66 : decode (mtC m_L_begin) 66 = .ok (.goto 88, 3) := by decide +kernel
theorem k_L_begin_69 : decode (mtC m_L_begin) 69 = .ok (.aload_n 0, 1) := by decide +kernel
theorem k_L_begin_70 : decode (mtC m_L_begin) 70 = .ok (.iload_n 1, 1) := by decide +kernel
theorem k_L_begin_71 : decode (mtC m_L_begin) 71 = .ok (.iload 5, 2) := by decide +kernel
theorem k_L_begin_73 : decode (mtC m_L_begin) 73 = .ok (.iload 6, 2) := by decide +kernel
theorem k_L_begin_75 : decode (mtC m_L_begin) 75 = .ok (.invokevirtual 60, 3) := by decide +kernel
theorem k_L_begin_78 : decode (mtC m_L_begin) 78 = .ok (.pop, 1) := by decide +kernel
theorem k_L_begin_79 : decode (mtC m_L_begin) 79 = .ok (.goto 75, 3) := by decide +kernel
theorem k_L_begin_82 : decode (mtC m_L_begin) 82 = .ok (.aload_n 0, 1) := by decide +kernel
theorem k_L_begin_83 : decode (mtC m_L_begin) 83 = .ok (.iload_n 1, 1) := by decide +kernel
theorem k_L_begin_84 : decode (mtC m_L_begin) 84 = .ok (.iload 5, 2) := by decide +kernel
theorem k_L_begin_86 : decode (mtC m_L_begin) 86 = .ok (.iload 6, 2) := by decide +kernel
theorem k_L_begin_88 : decode (mtC m_L_begin) 88 = .ok (.iload_n 3, 1) := by decide +kernel
theorem k_L_begin_89 : decode (mtC m_L_begin) 89 = .ok (.iconst 5, 1) := by decide +kernel
theorem k_L_begin_90 : decode (mtC m_L_begin) 90 = .ok (.ishr, 1) := by decide +kernel
theorem k_L_begin_91 : decode (mtC m_L_begin) 91 = .ok (.bipush 6, 2) := by decide +kernel
theorem k_L_begin_93 : decode (mtC m_L_begin) 93 = .ok (.invokestatic 23, 3) := by decide +kernel
theorem k_L_begin_96 : decode (mtC m_L_begin) 96 = .ok (.invokevirtual 64, 3) := by decide +kernel
theorem k_L_begin_99 : decode (mtC m_L_begin) 99 = .ok (.pop, 1) := by decide +kernel
theorem k_L_begin_100 : decode (mtC m_L_begin) 100 = .ok (.goto 54, 3) := by decide +kernel
theorem k_L_begin_103 : decode (mtC m_L_begin) 103 = .ok (.aload_n 0, 1) := by decide +kernel
theorem k_L_begin_104 : decode (mtC m_L_begin) 104 = .ok (.iload_n 1, 1) := by decide +kernel
theorem k_L_begin_105 : decode (mtC m_L_begin) 105 = .ok (.iconst 1, 1) := by decide +kernel
theorem k_L_begin_106 : decode (mtC m_L_begin) 106 = .ok (.iload_n 3, 1) := by decide +kernel
theorem k_L_begin_107 : decode (mtC m_L_begin) 107 = .ok (.bipush 63, 2) := by decide +kernel
theorem k_L_begin_109 : decode (mtC m_L_begin) 109 = .ok (.invokestatic 23, 3) := by decide +kernel
theorem k_L_begin_112 : decode (mtC m_L_begin) 112 = .ok (.iadd, 1) := by decide +kernel
theorem k_L_begin_113 : decode (mtC m_L_begin) 113 = .ok (.iload 4, 2) := by decide +kernel
theorem k_L_begin_115 : decode (mtC m_L_begin) 115 = .ok (.iconst 2, 1) := by decide +kernel
theorem k_L_begin_116 : decode (mtC m_L_begin) 116 = .ok (.invokestatic 23, 3) := by decide +kernel
theorem k_L_begin_119 : decode (mtC m_L_begin) 119 = .ok (.iconst 1, 1) := by decide +kernel
theorem k_L_begin_120 : decode (mtC m_L_begin) 120 = .ok (.if_icmp .ne 7, 3) := by decide +kernel
theorem k_L_begin_123 : decode (mtC m_L_begin) 123 = .ok (.iconst 1, 1) := by decide +kernel
theorem k_L_begin_124 : decode (mtC m_L_begin) 124 = .ok (.goto 4, 3) := by decide +kernel
theorem k_L_begin_127 : decode (mtC m_L_begin) 127 = .ok (.iconst 0, 1) := by decide +kernel
theorem k_L_begin_128 : decode (mtC m_L_begin) 128 = .ok (.invokevirtual 67, 3) := by decide +kernel
theorem k_L_begin_131 : decode (mtC m_L_begin) 131 = .ok (.pop, 1) := by decide +kernel
theorem k_L_begin_132 : decode (mtC m_L_begin) 132 = .ok (.goto 22, 3) := by decide +kernel
theorem k_L_begin_135 : decode (mtC m_L_begin) 135 = .ok (.aload_n 0, 1) := by decide +kernel
theorem k_L_begin_136 : decode (mtC m_L_begin) 136 = .ok (.iload_n 1, 1) := by decide +kernel
theorem k_L_begin_137 : decode (mtC m_L_begin) 137 = .ok (.iload 5, 2) := by decide +kernel
theorem k_L_begin_139 : decode (mtC m_L_begin) 139 = .ok (.iload 6, 2) := by decide +kernel
theorem k_L_begin_141 : decode (mtC m_L_begin) 141 = .ok (.invokevirtual 71, 3) := by decide +kernel
theorem k_L_begin_144 : decode (mtC m_L_begin) 144 = .ok (.pop, 1) := by decide +kernel
theorem k_L_begin_145 : decode (mtC m_L_begin) 145 = .ok (.goto 9, 3) := by decide +kernel
theorem k_L_begin_148 : decode (mtC m_L_begin) 148 = .ok (.aload_n 0, 1) := by decide +kernel
theorem k_L_begin_149 : decode (mtC m_L_begin) 149 = .ok (.iload_n 1, 1) := by decide +kernel
theorem k_L_begin_150 : decode (mtC m_L_begin) 150 = .ok (.invokevirtual 74, 3) := by decide +kernel
theorem k_L_begin_153 : decode (mtC m_L_begin) 153 = .ok (.pop, 1) := by decide +kernel
theorem k_L_begin_154 : decode (mtC m_L_begin) 154 = .ok (.return_, 1) := by decide +kernel
set_option maxHeartbeats 4000000 in
set_option maxRecDepth 100000 in
theorem T_L_begin_0 {d : Nat} {x1 : Int} {x2 : Int} {x3 : Int} {x4 : Int} {M : AMem} {Q : Option AV → AMem → Prop}  (h : CallI d m_L_below [vI x3, vI 6] M (fun y2 M1 => CallI d m_L_below [vI x4, vI 6] M1 (fun y4 M3 => (wI x2 = 0 → CallI d m_L_below [vI x3, vI 63] M3 (fun y6 M5 => CallI d m_H_powers [vR 3 0, vI x1, vI (1 + y6)] M5 (fun y8 M7 => Q none M7))) ∧ (wI x2 = 1 → CallI d m_H_sums [vR 3 0, vI x1, vI y2, vI y4] M3 (fun y10 M9 => Q none M9)) ∧ (wI x2 = 2 → CallI d m_L_below [vI (opShr x3 5), vI 6] M3 (fun y12 M11 => CallI d m_H_triples [vR 3 0, vI x1, vI y2, vI y4, vI y12] M11 (fun y14 M13 => Q none M13))) ∧ (wI x2 = 3 → CallI d m_L_below [vI x3, vI 63] M3 (fun y16 M15 => CallI d m_L_below [vI x4, vI 2] M15 (fun y18 M17 => ((¬ wI y18 = 1) → CallI d m_H_merge [vR 3 0, vI x1, vI (1 + y16), vI 0] M17 (fun y20 M19 => Q none M19)) ∧ (¬ (¬ wI y18 = 1) → CallI d m_H_merge [vR 3 0, vI x1, vI (1 + y16), vI 1] M17 (fun y22 M21 => Q none M21))))) ∧ (wI x2 = 4 → CallI d m_H_table [vR 3 0, vI x1, vI y2, vI y4] M3 (fun y24 M23 => Q none M23)) ∧ ((wI x2 < 0 ∨ 4 < wI x2) → CallI d m_H_primes [vR 3 0, vI x1] M3 (fun y26 M25 => Q none M25))))) : RunQ (d + 1) m_L_begin 0 [some (vR 3 0), some (vI x1), some (vI x2), some (vI x3), some (vI x4), none, none] [] M Q := by
  refine q_iload_n 0 k_L_begin_0 rfl ?_
  refine q_bipush 1 k_L_begin_1 (by decide) ?_
  refine q_sI 3 [vI x3, vI 6] [] k_L_begin_3 rfl lk_4_23 rfl rfl rfl rfl rfl rfl (CallI.mono (fun y2 M1 h27 => ?_) h)
  refine q_istore 6 k_L_begin_6 (ls' := [some (vR 3 0), some (vI x1), some (vI x2), some (vI x3), some (vI x4), some (vI y2), none]) rfl rfl ?_
  refine q_iload 8 k_L_begin_8 rfl ?_
  refine q_bipush 10 k_L_begin_10 (by decide) ?_
  refine q_sI 12 [vI x4, vI 6] [] k_L_begin_12 rfl lk_4_23 rfl rfl rfl rfl rfl rfl (CallI.mono (fun y4 M3 h28 => ?_) h27)
  refine q_istore 15 k_L_begin_15 (ls' := [some (vR 3 0), some (vI x1), some (vI x2), some (vI x3), some (vI x4), some (vI y2), some (vI y4)]) rfl rfl ?_
  refine q_iload_n 17 k_L_begin_17 rfl ?_
  refine q_tsw 18 k_L_begin_18 rfl (fun c => ?_) (fun c1 c2 => ?_)
  · show RunQ _ _ 148 _ _ _ _
    have h28d := h28.2.2.2.2.2 c
    refine q_aload_n 148 k_L_begin_148 rfl ?_
    refine q_iload_n 149 k_L_begin_149 rfl ?_
    refine q_vI 150 [vI x1] [] k_L_begin_150 lk_4_74 rfl rfl rfl rfl rfl rfl rfl rfl (CallI.mono (fun y26 M25 h29 => ?_) h28d)
    refine q_pop 153 k_L_begin_153 rfl ?_
    exact q_vret 154 k_L_begin_154 rfl h29
  · have cq : wI x2 = 0 ∨ wI x2 = 1 ∨ wI x2 = 2 ∨ wI x2 = 3 ∨ wI x2 = 4 := by omega
    rcases cq with cq | cq | cq | cq | cq
    · refine ⟨34, by rw [cq]; rfl, rfl, ?_⟩
      show RunQ _ _ 52 _ _ _ _
      have h280 := h28.1 cq
      refine q_aload_n 52 k_L_begin_52 rfl ?_
      refine q_iload_n 53 k_L_begin_53 rfl ?_
      refine q_iconst 54 k_L_begin_54 ?_
      refine q_iload_n 55 k_L_begin_55 rfl ?_
      refine q_bipush 56 k_L_begin_56 (by decide) ?_
      refine q_sI 58 [vI x3, vI 63] [vI 1, vI x1, vR 3 0] k_L_begin_58 rfl lk_4_23 rfl rfl rfl rfl rfl rfl (CallI.mono (fun y6 M5 h30 => ?_) h280)
      refine q_iadd 61 k_L_begin_61 ?_
      refine q_vI 62 [vI x1, vI (1 + y6)] [] k_L_begin_62 lk_4_57 rfl rfl rfl rfl rfl rfl rfl rfl (CallI.mono (fun y8 M7 h31 => ?_) h30)
      refine q_pop 65 k_L_begin_65 rfl ?_
      refine q_goto 66 154 k_L_begin_66 rfl rfl ?_
      exact q_vret 154 k_L_begin_154 rfl h31
    · refine ⟨51, by rw [cq]; rfl, rfl, ?_⟩
      show RunQ _ _ 69 _ _ _ _
      have h281 := h28.2.1 cq
      refine q_aload_n 69 k_L_begin_69 rfl ?_
      refine q_iload_n 70 k_L_begin_70 rfl ?_
      refine q_iload 71 k_L_begin_71 rfl ?_
      refine q_iload 73 k_L_begin_73 rfl ?_
      refine q_vI 75 [vI x1, vI y2, vI y4] [] k_L_begin_75 lk_4_60 rfl rfl rfl rfl rfl rfl rfl rfl (CallI.mono (fun y10 M9 h32 => ?_) h281)
      refine q_pop 78 k_L_begin_78 rfl ?_
      refine q_goto 79 154 k_L_begin_79 rfl rfl ?_
      exact q_vret 154 k_L_begin_154 rfl h32
    · refine ⟨64, by rw [cq]; rfl, rfl, ?_⟩
      show RunQ _ _ 82 _ _ _ _
      have h282 := h28.2.2.1 cq
      refine q_aload_n 82 k_L_begin_82 rfl ?_
      refine q_iload_n 83 k_L_begin_83 rfl ?_
      refine q_iload 84 k_L_begin_84 rfl ?_
      refine q_iload 86 k_L_begin_86 rfl ?_
      refine q_iload_n 88 k_L_begin_88 rfl ?_
      refine q_iconst 89 k_L_begin_89 ?_
      refine q_ishr 90 k_L_begin_90 ?_
      refine q_bipush 91 k_L_begin_91 (by decide) ?_
      refine q_sI 93 [vI (opShr x3 5), vI 6] [vI y4, vI y2, vI x1, vR 3 0] k_L_begin_93 rfl lk_4_23 rfl rfl rfl rfl rfl rfl (CallI.mono (fun y12 M11 h33 => ?_) h282)
      refine q_vI 96 [vI x1, vI y2, vI y4, vI y12] [] k_L_begin_96 lk_4_64 rfl rfl rfl rfl rfl rfl rfl rfl (CallI.mono (fun y14 M13 h34 => ?_) h33)
      refine q_pop 99 k_L_begin_99 rfl ?_
      refine q_goto 100 154 k_L_begin_100 rfl rfl ?_
      exact q_vret 154 k_L_begin_154 rfl h34
    · refine ⟨85, by rw [cq]; rfl, rfl, ?_⟩
      show RunQ _ _ 103 _ _ _ _
      have h283 := h28.2.2.2.1 cq
      refine q_aload_n 103 k_L_begin_103 rfl ?_
      refine q_iload_n 104 k_L_begin_104 rfl ?_
      refine q_iconst 105 k_L_begin_105 ?_
      refine q_iload_n 106 k_L_begin_106 rfl ?_
      refine q_bipush 107 k_L_begin_107 (by decide) ?_
      refine q_sI 109 [vI x3, vI 63] [vI 1, vI x1, vR 3 0] k_L_begin_109 rfl lk_4_23 rfl rfl rfl rfl rfl rfl (CallI.mono (fun y16 M15 h35 => ?_) h283)
      refine q_iadd 112 k_L_begin_112 ?_
      refine q_iload 113 k_L_begin_113 rfl ?_
      refine q_iconst 115 k_L_begin_115 ?_
      refine q_sI 116 [vI x4, vI 2] [vI (1 + y16), vI x1, vR 3 0] k_L_begin_116 rfl lk_4_23 rfl rfl rfl rfl rfl rfl (CallI.mono (fun y18 M17 h36 => ?_) h35)
      refine q_iconst 119 k_L_begin_119 ?_
      refine q_icmp_ne 120 127 k_L_begin_120 rfl rfl (fun c120 => ?_) (fun c120 => ?_)
      · have h36t := h36.1 c120
        refine q_iconst 127 k_L_begin_127 ?_
        refine q_vI 128 [vI x1, vI (1 + y16), vI 0] [] k_L_begin_128 lk_4_67 rfl rfl rfl rfl rfl rfl rfl rfl (CallI.mono (fun y20 M19 h37 => ?_) h36t)
        refine q_pop 131 k_L_begin_131 rfl ?_
        refine q_goto 132 154 k_L_begin_132 rfl rfl ?_
        exact q_vret 154 k_L_begin_154 rfl h37
      · have h36f := h36.2 c120
        refine q_iconst 123 k_L_begin_123 ?_
        refine q_goto 124 128 k_L_begin_124 rfl rfl ?_
        refine q_vI 128 [vI x1, vI (1 + y16), vI 1] [] k_L_begin_128 lk_4_67 rfl rfl rfl rfl rfl rfl rfl rfl (CallI.mono (fun y22 M21 h38 => ?_) h36f)
        refine q_pop 131 k_L_begin_131 rfl ?_
        refine q_goto 132 154 k_L_begin_132 rfl rfl ?_
        exact q_vret 154 k_L_begin_154 rfl h38
    · refine ⟨117, by rw [cq]; rfl, rfl, ?_⟩
      show RunQ _ _ 135 _ _ _ _
      have h284 := h28.2.2.2.2.1 cq
      refine q_aload_n 135 k_L_begin_135 rfl ?_
      refine q_iload_n 136 k_L_begin_136 rfl ?_
      refine q_iload 137 k_L_begin_137 rfl ?_
      refine q_iload 139 k_L_begin_139 rfl ?_
      refine q_vI 141 [vI x1, vI y2, vI y4] [] k_L_begin_141 lk_4_71 rfl rfl rfl rfl rfl rfl rfl rfl (CallI.mono (fun y24 M23 h39 => ?_) h284)
      refine q_pop 144 k_L_begin_144 rfl ?_
      refine q_goto 145 154 k_L_begin_145 rfl rfl ?_
      exact q_vret 154 k_L_begin_154 rfl h39
theorem k_L_act_0 : decode (mtC m_L_act) 0 = .ok (.iload_n 2, 1) := by decide +kernel
theorem k_L_act_1 : decode (mtC m_L_act) 1 = .ok (.tableswitch 254 0 10 #[59, 79, 101, 142, 156, 171, 187, 201, 210, 219, 245], 59) := by decide +kernel
theorem k_L_act_60 : decode (mtC m_L_act) 60 = .ok (.aload_n 0, 1) := by decide +kernel
theorem k_L_act_61 : decode (mtC m_L_act) 61 = .ok (.iload_n 1, 1) := by decide +kernel
theorem k_L_act_62 : decode (mtC m_L_act) 62 = .ok (.iload_n 3, 1) := by decide +kernel
theorem k_L_act_63 : decode (mtC m_L_act) 63 = .ok (.bipush 9, 2) := by decide +kernel
theorem k_L_act_65 : decode (mtC m_L_act) 65 = .ok (.ishr, 1) := by decide +kernel
theorem k_L_act_66 : decode (mtC m_L_act) 66 = .ok (.bipush 6, 2) := by decide +kernel
theorem k_L_act_68 : decode (mtC m_L_act) 68 = .ok (.invokestatic 23, 3) := by decide +kernel
theorem k_L_act_71 : decode (mtC m_L_act) 71 = .ok (.iload_n 3, 1) := by decide +kernel
theorem k_L_act_72 : decode (mtC m_L_act) 72 = .ok (.iload 4, 2) := by decide +kernel
theorem k_L_act_74 : decode (mtC m_L_act) 74 = .ok (.invokestatic 31, 3) := by decide +kernel
theorem k_L_act_77 : decode (mtC m_L_act) 77 = .ok (.goto 193, 3) := by decide +kernel
theorem k_L_act_80 : decode (mtC m_L_act) 80 = .ok (.aload_n 0, 1) := by decide +kernel
theorem k_L_act_81 : decode (mtC m_L_act) 81 = .ok (.iload_n 3, 1) := by decide +kernel
theorem k_L_act_82 : decode (mtC m_L_act) 82 = .ok (.bipush 6, 2) := by decide +kernel
theorem k_L_act_84 : decode (mtC m_L_act) 84 = .ok (.invokestatic 23, 3) := by decide +kernel
theorem k_L_act_87 : decode (mtC m_L_act) 87 = .ok (.iload 4, 2) := by decide +kernel
theorem k_L_act_89 : decode (mtC m_L_act) 89 = .ok (.sipush 1000, 3) := by decide +kernel
theorem k_L_act_92 : decode (mtC m_L_act) 92 = .ok (.invokestatic 23, 3) := by decide +kernel
theorem k_L_act_95 : decode (mtC m_L_act) 95 = .ok (.invokevirtual 78, 3) := by decide +kernel
theorem k_L_act_98 : decode (mtC m_L_act) 98 = .ok (.pop, 1) := by decide +kernel
theorem k_L_act_99 : decode (mtC m_L_act) 99 = .ok (.goto 171, 3) := by decide +kernel
theorem k_L_act_102 : decode (mtC m_L_act) 102 = .ok (.aload_n 0, 1) := by decide +kernel
theorem k_L_act_103 : decode (mtC m_L_act) 103 = .ok (.iload_n 3, 1) := by decide +kernel
theorem k_L_act_104 : decode (mtC m_L_act) 104 = .ok (.bipush 6, 2) := by decide +kernel
theorem k_L_act_106 : decode (mtC m_L_act) 106 = .ok (.invokestatic 23, 3) := by decide +kernel
theorem k_L_act_109 : decode (mtC m_L_act) 109 = .ok (.iload 4, 2) := by decide +kernel
theorem k_L_act_111 : decode (mtC m_L_act) 111 = .ok (.bipush 100, 2) := by decide +kernel
theorem k_L_act_113 : decode (mtC m_L_act) 113 = .ok (.invokestatic 23, 3) := by decide +kernel
theorem k_L_act_116 : decode (mtC m_L_act) 116 = .ok (.iload_n 3, 1) := by decide +kernel
theorem k_L_act_117 : decode (mtC m_L_act) 117 = .ok (.iconst 4, 1) := by decide +kernel
theorem k_L_act_118 : decode (mtC m_L_act) 118 = .ok (.ishr, 1) := by decide +kernel
theorem k_L_act_119 : decode (mtC m_L_act) 119 = .ok (.bipush 30, 2) := by decide +kernel
theorem k_L_act_121 : decode (mtC m_L_act) 121 = .ok (.invokestatic 23, 3) := by decide +kernel
theorem k_L_act_124 : decode (mtC m_L_act) 124 = .ok (.iconst 1, 1) := by decide +kernel
theorem k_L_act_125 : decode (mtC m_L_act) 125 = .ok (.iload 4, 2) := by decide +kernel
theorem k_L_act_127 : decode (mtC m_L_act) 127 = .ok (.bipush 8, 2) := by decide +kernel
theorem k_L_act_129 : decode (mtC m_L_act) 129 = .ok (.ishr, 1) := by decide +kernel
theorem k_L_act_130 : decode (mtC m_L_act) 130 = .ok (.bipush 8, 2) := by decide +kernel
theorem k_L_act_132 : decode (mtC m_L_act) 132 = .ok (.invokestatic 23, 3) := by decide +kernel
theorem k_L_act_135 : decode (mtC m_L_act) 135 = .ok (.iadd, 1) := by decide +kernel
theorem k_L_act_136 : decode (mtC m_L_act) 136 = .ok (.invokevirtual 27, 3) := by decide +kernel
theorem k_L_act_139 : decode (mtC m_L_act) 139 = .ok (.pop, 1) := by decide +kernel
theorem k_L_act_140 : decode (mtC m_L_act) 140 = .ok (.goto 130, 3) := by decide +kernel
theorem k_L_act_143 : decode (mtC m_L_act) 143 = .ok (.aload_n 0, 1) := by decide +kernel
theorem k_L_act_144 : decode (mtC m_L_act) 144 = .ok (.iload_n 3, 1) := by decide +kernel
theorem k_L_act_145 : decode (mtC m_L_act) 145 = .ok (.bipush 6, 2) := by decide +kernel
theorem k_L_act_147 : decode (mtC m_L_act) 147 = .ok (.invokestatic 23, 3) := by decide +kernel
theorem k_L_act_150 : decode (mtC m_L_act) 150 = .ok (.invokevirtual 81, 3) := by decide +kernel
theorem k_L_act_153 : decode (mtC m_L_act) 153 = .ok (.pop, 1) := by decide +kernel
theorem k_L_act_154 : decode (mtC m_L_act) 154 = .ok (.goto 116, 3) := by decide +kernel
theorem k_L_act_157 : decode (mtC m_L_act) 157 = .ok (.aload_n 0, 1) := by decide +kernel
theorem k_L_act_158 : decode (mtC m_L_act) 158 = .ok (.iload_n 1, 1) := by decide +kernel
theorem k_L_act_159 : decode (mtC m_L_act) 159 = .ok (.iload_n 3, 1) := by decide +kernel
theorem k_L_act_160 : decode (mtC m_L_act) 160 = .ok (.bipush 6, 2) := by decide +kernel
theorem k_L_act_162 : decode (mtC m_L_act) 162 = .ok (.invokestatic 23, 3) := by decide +kernel
theorem k_L_act_165 : decode (mtC m_L_act) 165 = .ok (.invokevirtual 84, 3) := by decide +kernel
theorem k_L_act_168 : decode (mtC m_L_act) 168 = .ok (.pop, 1) := by decide +kernel
theorem k_L_act_169 : decode (mtC m_L_act) 169 = .ok (.goto 101, 3) := by decide +kernel
theorem k_L_act_172 : decode (mtC m_L_act) 172 = .ok (.aload_n 0, 1) := by decide +kernel
theorem k_L_act_173 : decode (mtC m_L_act) 173 = .ok (.iload_n 1, 1) := by decide +kernel
theorem k_L_act_174 : decode (mtC m_L_act) 174 = .ok (.iload 4, 2) := by decide +kernel
theorem k_L_act_176 : decode (mtC m_L_act) 176 = .ok (.ldc 87, 2) := by decide +kernel
theorem k_L_act_178 : decode (mtC m_L_act) 178 = .ok (.invokestatic 23, 3) := by decide +kernel
theorem k_L_act_181 : decode (mtC m_L_act) 181 = .ok (.invokevirtual 88, 3) := by decide +kernel
theorem k_L_act_184 : decode (mtC m_L_act) 184 = .ok (.pop, 1) := by decide +kernel
theorem k_L_act_185 : decode (mtC m_L_act) 185 = .ok (.goto 85, 3) := by decide +kernel
theorem k_L_act_188 : decode (mtC m_L_act) 188 = .ok (.aload_n 0, 1) := by decide +kernel
theorem k_L_act_189 : decode (mtC m_L_act) 189 = .ok (.iload_n 1, 1) := by decide +kernel
theorem k_L_act_190 : decode (mtC m_L_act) 190 = .ok (.iload_n 3, 1) := by decide +kernel
theorem k_L_act_191 : decode (mtC m_L_act) 191 = .ok (.iconst 5, 1) := by decide +kernel
theorem k_L_act_192 : decode (mtC m_L_act) 192 = .ok (.invokestatic 23, 3) := by decide +kernel
theorem k_L_act_195 : decode (mtC m_L_act) 195 = .ok (.invokevirtual 91, 3) := by decide +kernel
theorem k_L_act_198 : decode (mtC m_L_act) 198 = .ok (.pop, 1) := by decide +kernel
theorem k_L_act_199 : decode (mtC m_L_act) 199 = .ok (.goto 71, 3) := by decide +kernel
theorem k_L_act_202 : decode (mtC m_L_act) 202 = .ok (.aload_n 0, 1) := by decide +kernel
theorem k_L_act_203 : decode (mtC m_L_act) 203 = .ok (.iload_n 1, 1) := by decide +kernel
theorem k_L_act_204 : decode (mtC m_L_act) 204 = .ok (.invokevirtual 94, 3) := by decide +kernel
theorem k_L_act_207 : decode (mtC m_L_act) 207 = .ok (.pop, 1) := by decide +kernel
theorem k_L_act_208 : decode (mtC m_L_act) 208 = .ok (.goto 62, 3) := by decide +kernel
theorem k_L_act_211 : decode (mtC m_L_act) 211 = .ok (.aload_n 0, 1) := by decide +kernel
theorem k_L_act_212 : decode (mtC m_L_act) 212 = .ok (.iload_n 1, 1) := by decide +kernel
theorem k_L_act_213 : decode (mtC m_L_act) 213 = .ok (.invokevirtual 97, 3) := by decide +kernel
theorem k_L_act_216 : decode (mtC m_L_act) 216 = .ok (.pop, 1) := by decide +kernel
theorem k_L_act_217 : decode (mtC m_L_act) 217 = .ok (.goto 53, 3) := by decide +kernel
theorem k_L_act_220 : decode (mtC m_L_act) 220 = .ok (.iload_n 3, 1) := by decide +kernel
theorem k_L_act_221 : decode (mtC m_L_act) 221 = .ok (.iconst 4, 1) := by decide +kernel
theorem k_L_act_222 : decode (mtC m_L_act) 222 = .ok (.invokestatic 23, 3) := by decide +kernel
theorem k_L_act_225 : decode (mtC m_L_act) 225 = .ok (.ifCond .ne 12, 3) := by decide +kernel
theorem k_L_act_228 : decode (mtC m_L_act) 228 = .ok (.aload_n 0, 1) := by decide +kernel
theorem k_L_act_229 : decode (mtC m_L_act) 229 = .ok (.iload_n 1, 1) := by decide +kernel
theorem k_L_act_230 : decode (mtC m_L_act) 230 = .ok (.invokevirtual 100, 3) := by decide +kernel
theorem k_L_act_233 : decode (mtC m_L_act) 233 = .ok (.pop, 1) := by decide +kernel
theorem k_L_act_234 : decode (mtC m_L_act) 234 = .ok (.goto 36, 3) := by decide +kernel
theorem k_L_act_237 : decode (mtC m_L_act) 237 = .ok (.aload_n 0, 1) := by decide +kernel
theorem k_L_act_238 : decode (mtC m_L_act) 238 = .ok (.iload_n 1, 1) := by decide +kernel
theorem k_L_act_239 : decode (mtC m_L_act) 239 = .ok (.invokevirtual 103, 3) := by decide +kernel
theorem k_L_act_242 : decode (mtC m_L_act) 242 = .ok (.pop, 1) := by decide +kernel
theorem k_L_act_243 : decode (mtC m_L_act) 243 = .ok (.goto 27, 3) := by decide +kernel
theorem k_L_act_246 : decode (mtC m_L_act) 246 = .ok (.aload_n 0, 1) := by decide +kernel
theorem k_L_act_247 : decode (mtC m_L_act) 247 = .ok (.iload_n 1, 1) := by decide +kernel
theorem k_L_act_248 : decode (mtC m_L_act) 248 = .ok (.invokevirtual 106, 3) := by decide +kernel
theorem k_L_act_251 : decode (mtC m_L_act) 251 = .ok (.pop, 1) := by decide +kernel
theorem k_L_act_252 : decode (mtC m_L_act) 252 = .ok (.goto 18, 3) := by decide +kernel
theorem k_L_act_255 : decode (mtC m_L_act) 255 = .ok (.aload_n 0, 1) := by decide +kernel
theorem k_L_act_256 : decode (mtC m_L_act) 256 = .ok (.iload_n 1, 1) := by decide +kernel
theorem k_L_act_257 : decode (mtC m_L_act) 257 = .ok (.iconst 1, 1) := by decide +kernel
theorem k_L_act_258 : decode (mtC m_L_act) 258 = .ok (.iload 4, 2) := by decide +kernel
theorem k_L_act_260 : decode (mtC m_L_act) 260 = .ok (.bipush 20, 2) := by decide +kernel
theorem k_L_act_262 : decode (mtC m_L_act) 262 = .ok (.invokestatic 23, 3) := by decide +kernel
theorem k_L_act_265 : decode (mtC m_L_act) 265 = .ok (.iadd, 1) := by decide +kernel
theorem k_L_act_266 : decode (mtC m_L_act) 266 = .ok (.invokevirtual 109, 3) := by decide +kernel
theorem k_L_act_269 : decode (mtC m_L_act) 269 = .ok (.pop, 1) := by decide +kernel
theorem k_L_act_270 : decode (mtC m_L_act) 270 = .ok (.return_, 1) := by decide +kernel
set_option maxHeartbeats 4000000 in
set_option maxRecDepth 100000 in
theorem T_L_act_0 {d : Nat} {x1 : Int} {x2 : Int} {x3 : Int} {x4 : Int} {M : AMem} {Q : Option AV → AMem → Prop}  (h : (wI x2 = 0 → CallI d m_L_below [vI (opShr x3 9), vI 6] M (fun y2 M1 => CallV d m_L_begin [vR 3 0, vI x1, vI y2, vI x3, vI x4] M1 (fun M3 => Q none M3))) ∧ (wI x2 = 1 → CallI d m_L_below [vI x3, vI 6] M (fun y6 M5 => CallI d m_L_below [vI x4, vI 1000] M5 (fun y8 M7 => CallI d m_H_add [vR 3 0, vI y6, vI y8] M7 (fun y10 M9 => Q none M9)))) ∧ (wI x2 = 2 → CallI d m_L_below [vI x3, vI 6] M (fun y12 M11 => CallI d m_L_below [vI x4, vI 100] M11 (fun y14 M13 => CallI d m_L_below [vI (opShr x3 4), vI 30] M13 (fun y16 M15 => CallI d m_L_below [vI (opShr x4 8), vI 8] M15 (fun y18 M17 => CallI d m_H_fill [vR 3 0, vI y12, vI y14, vI y16, vI (1 + y18)] M17 (fun y20 M19 => Q none M19)))))) ∧ (wI x2 = 3 → CallI d m_L_below [vI x3, vI 6] M (fun y22 M21 => CallI d m_H_cut [vR 3 0, vI y22] M21 (fun y24 M23 => Q none M23))) ∧ (wI x2 = 4 → CallI d m_L_below [vI x3, vI 6] M (fun y26 M25 => CallI d m_H_close [vR 3 0, vI x1, vI y26] M25 (fun y28 M27 => Q none M27))) ∧ (wI x2 = 5 → CallI d m_L_below [vI x4, vI 1000001] M (fun y30 M29 => CallI d m_H_skip [vR 3 0, vI x1, vI y30] M29 (fun y32 M31 => Q none M31))) ∧ (wI x2 = 6 → CallI d m_L_below [vI x3, vI 5] M (fun y34 M33 => CallI d m_H_copy [vR 3 0, vI x1, vI y34] M33 (fun y36 M35 => Q none M35))) ∧ (wI x2 = 7 → CallI d m_H_anew [vR 3 0, vI x1] M (fun y38 M37 => Q none M37)) ∧ (wI x2 = 8 → CallI d m_H_again [vR 3 0, vI x1] M (fun y40 M39 => Q none M39)) ∧ (wI x2 = 9 → CallI d m_L_below [vI x3, vI 4] M (fun y42 M41 => ((¬ wI y42 = 0) → CallI d m_H_shake [vR 3 0, vI x1] M41 (fun y44 M43 => Q none M43)) ∧ (¬ (¬ wI y42 = 0) → CallI d m_H_drop [vR 3 0, vI x1] M41 (fun y46 M45 => Q none M45)))) ∧ (wI x2 = 10 → CallI d m_H_draw [vR 3 0, vI x1] M (fun y48 M47 => Q none M47)) ∧ ((wI x2 < 0 ∨ 10 < wI x2) → CallI d m_L_below [vI x4, vI 20] M (fun y50 M49 => CallI d m_H_draws [vR 3 0, vI x1, vI (1 + y50)] M49 (fun y52 M51 => Q none M51)))) : RunQ (d + 1) m_L_act 0 [some (vR 3 0), some (vI x1), some (vI x2), some (vI x3), some (vI x4)] [] M Q := by
  refine q_iload_n 0 k_L_act_0 rfl ?_
  refine q_tsw 1 k_L_act_1 rfl (fun c => ?_) (fun c1 c2 => ?_)
  · show RunQ _ _ 255 _ _ _ _
    have hd := h.2.2.2.2.2.2.2.2.2.2.2 c
    refine q_aload_n 255 k_L_act_255 rfl ?_
    refine q_iload_n 256 k_L_act_256 rfl ?_
    refine q_iconst 257 k_L_act_257 ?_
    refine q_iload 258 k_L_act_258 rfl ?_
    refine q_bipush 260 k_L_act_260 (by decide) ?_
    refine q_sI 262 [vI x4, vI 20] [vI 1, vI x1, vR 3 0] k_L_act_262 rfl lk_4_23 rfl rfl rfl rfl rfl rfl (CallI.mono (fun y50 M49 h53 => ?_) hd)
    refine q_iadd 265 k_L_act_265 ?_
    refine q_vI 266 [vI x1, vI (1 + y50)] [] k_L_act_266 lk_4_109 rfl rfl rfl rfl rfl rfl rfl rfl (CallI.mono (fun y52 M51 h54 => ?_) h53)
    refine q_pop 269 k_L_act_269 rfl ?_
    exact q_vret 270 k_L_act_270 rfl h54
  · have cq : wI x2 = 0 ∨ wI x2 = 1 ∨ wI x2 = 2 ∨ wI x2 = 3 ∨ wI x2 = 4 ∨ wI x2 = 5 ∨ wI x2 = 6 ∨ wI x2 = 7 ∨ wI x2 = 8 ∨ wI x2 = 9 ∨ wI x2 = 10 := by omega
    rcases cq with cq | cq | cq | cq | cq | cq | cq | cq | cq | cq | cq
    · refine ⟨59, by rw [cq]; rfl, rfl, ?_⟩
      show RunQ _ _ 60 _ _ _ _
      have h0 := h.1 cq
      refine q_aload_n 60 k_L_act_60 rfl ?_
      refine q_iload_n 61 k_L_act_61 rfl ?_
      refine q_iload_n 62 k_L_act_62 rfl ?_
      refine q_bipush 63 k_L_act_63 (by decide) ?_
      refine q_ishr 65 k_L_act_65 ?_
      refine q_bipush 66 k_L_act_66 (by decide) ?_
      refine q_sI 68 [vI (opShr x3 9), vI 6] [vI x1, vR 3 0] k_L_act_68 rfl lk_4_23 rfl rfl rfl rfl rfl rfl (CallI.mono (fun y2 M1 h55 => ?_) h0)
      refine q_iload_n 71 k_L_act_71 rfl ?_
      refine q_iload 72 k_L_act_72 rfl ?_
      refine q_sV 74 [vR 3 0, vI x1, vI y2, vI x3, vI x4] [] k_L_act_74 rfl lk_4_31 rfl rfl rfl rfl rfl rfl (CallV.mono (fun M3 h56 => ?_) h55)
      refine q_goto 77 270 k_L_act_77 rfl rfl ?_
      exact q_vret 270 k_L_act_270 rfl h56
    · refine ⟨79, by rw [cq]; rfl, rfl, ?_⟩
      show RunQ _ _ 80 _ _ _ _
      have h1 := h.2.1 cq
      refine q_aload_n 80 k_L_act_80 rfl ?_
      refine q_iload_n 81 k_L_act_81 rfl ?_
      refine q_bipush 82 k_L_act_82 (by decide) ?_
      refine q_sI 84 [vI x3, vI 6] [vR 3 0] k_L_act_84 rfl lk_4_23 rfl rfl rfl rfl rfl rfl (CallI.mono (fun y6 M5 h57 => ?_) h1)
      refine q_iload 87 k_L_act_87 rfl ?_
      refine q_sipush 89 k_L_act_89 (by decide) ?_
      refine q_sI 92 [vI x4, vI 1000] [vI y6, vR 3 0] k_L_act_92 rfl lk_4_23 rfl rfl rfl rfl rfl rfl (CallI.mono (fun y8 M7 h58 => ?_) h57)
      refine q_vI 95 [vI y6, vI y8] [] k_L_act_95 lk_4_78 rfl rfl rfl rfl rfl rfl rfl rfl (CallI.mono (fun y10 M9 h59 => ?_) h58)
      refine q_pop 98 k_L_act_98 rfl ?_
      refine q_goto 99 270 k_L_act_99 rfl rfl ?_
      exact q_vret 270 k_L_act_270 rfl h59
    · refine ⟨101, by rw [cq]; rfl, rfl, ?_⟩
      show RunQ _ _ 102 _ _ _ _
      have h2 := h.2.2.1 cq
      refine q_aload_n 102 k_L_act_102 rfl ?_
      refine q_iload_n 103 k_L_act_103 rfl ?_
      refine q_bipush 104 k_L_act_104 (by decide) ?_
      refine q_sI 106 [vI x3, vI 6] [vR 3 0] k_L_act_106 rfl lk_4_23 rfl rfl rfl rfl rfl rfl (CallI.mono (fun y12 M11 h60 => ?_) h2)
      refine q_iload 109 k_L_act_109 rfl ?_
      refine q_bipush 111 k_L_act_111 (by decide) ?_
      refine q_sI 113 [vI x4, vI 100] [vI y12, vR 3 0] k_L_act_113 rfl lk_4_23 rfl rfl rfl rfl rfl rfl (CallI.mono (fun y14 M13 h61 => ?_) h60)
      refine q_iload_n 116 k_L_act_116 rfl ?_
      refine q_iconst 117 k_L_act_117 ?_
      refine q_ishr 118 k_L_act_118 ?_
      refine q_bipush 119 k_L_act_119 (by decide) ?_
      refine q_sI 121 [vI (opShr x3 4), vI 30] [vI y14, vI y12, vR 3 0] k_L_act_121 rfl lk_4_23 rfl rfl rfl rfl rfl rfl (CallI.mono (fun y16 M15 h62 => ?_) h61)
      refine q_iconst 124 k_L_act_124 ?_
      refine q_iload 125 k_L_act_125 rfl ?_
      refine q_bipush 127 k_L_act_127 (by decide) ?_
      refine q_ishr 129 k_L_act_129 ?_
      refine q_bipush 130 k_L_act_130 (by decide) ?_
      refine q_sI 132 [vI (opShr x4 8), vI 8] [vI 1, vI y16, vI y14, vI y12, vR 3 0] k_L_act_132 rfl lk_4_23 rfl rfl rfl rfl rfl rfl (CallI.mono (fun y18 M17 h63 => ?_) h62)
      refine q_iadd 135 k_L_act_135 ?_
      refine q_vI 136 [vI y12, vI y14, vI y16, vI (1 + y18)] [] k_L_act_136 lk_4_27 rfl rfl rfl rfl rfl rfl rfl rfl (CallI.mono (fun y20 M19 h64 => ?_) h63)
      refine q_pop 139 k_L_act_139 rfl ?_
      refine q_goto 140 270 k_L_act_140 rfl rfl ?_
      exact q_vret 270 k_L_act_270 rfl h64
    · refine ⟨142, by rw [cq]; rfl, rfl, ?_⟩
      show RunQ _ _ 143 _ _ _ _
      have h3 := h.2.2.2.1 cq
      refine q_aload_n 143 k_L_act_143 rfl ?_
      refine q_iload_n 144 k_L_act_144 rfl ?_
      refine q_bipush 145 k_L_act_145 (by decide) ?_
      refine q_sI 147 [vI x3, vI 6] [vR 3 0] k_L_act_147 rfl lk_4_23 rfl rfl rfl rfl rfl rfl (CallI.mono (fun y22 M21 h65 => ?_) h3)
      refine q_vI 150 [vI y22] [] k_L_act_150 lk_4_81 rfl rfl rfl rfl rfl rfl rfl rfl (CallI.mono (fun y24 M23 h66 => ?_) h65)
      refine q_pop 153 k_L_act_153 rfl ?_
      refine q_goto 154 270 k_L_act_154 rfl rfl ?_
      exact q_vret 270 k_L_act_270 rfl h66
    · refine ⟨156, by rw [cq]; rfl, rfl, ?_⟩
      show RunQ _ _ 157 _ _ _ _
      have h4 := h.2.2.2.2.1 cq
      refine q_aload_n 157 k_L_act_157 rfl ?_
      refine q_iload_n 158 k_L_act_158 rfl ?_
      refine q_iload_n 159 k_L_act_159 rfl ?_
      refine q_bipush 160 k_L_act_160 (by decide) ?_
      refine q_sI 162 [vI x3, vI 6] [vI x1, vR 3 0] k_L_act_162 rfl lk_4_23 rfl rfl rfl rfl rfl rfl (CallI.mono (fun y26 M25 h67 => ?_) h4)
      refine q_vI 165 [vI x1, vI y26] [] k_L_act_165 lk_4_84 rfl rfl rfl rfl rfl rfl rfl rfl (CallI.mono (fun y28 M27 h68 => ?_) h67)
      refine q_pop 168 k_L_act_168 rfl ?_
      refine q_goto 169 270 k_L_act_169 rfl rfl ?_
      exact q_vret 270 k_L_act_270 rfl h68
    · refine ⟨171, by rw [cq]; rfl, rfl, ?_⟩
      show RunQ _ _ 172 _ _ _ _
      have h5 := h.2.2.2.2.2.1 cq
      refine q_aload_n 172 k_L_act_172 rfl ?_
      refine q_iload_n 173 k_L_act_173 rfl ?_
      refine q_iload 174 k_L_act_174 rfl ?_
      refine q_ldc 176 k_L_act_176 ck_4_87 ?_
      refine q_sI 178 [vI x4, vI 1000001] [vI x1, vR 3 0] k_L_act_178 rfl lk_4_23 rfl rfl rfl rfl rfl rfl (CallI.mono (fun y30 M29 h69 => ?_) h5)
      refine q_vI 181 [vI x1, vI y30] [] k_L_act_181 lk_4_88 rfl rfl rfl rfl rfl rfl rfl rfl (CallI.mono (fun y32 M31 h70 => ?_) h69)
      refine q_pop 184 k_L_act_184 rfl ?_
      refine q_goto 185 270 k_L_act_185 rfl rfl ?_
      exact q_vret 270 k_L_act_270 rfl h70
    · refine ⟨187, by rw [cq]; rfl, rfl, ?_⟩
      show RunQ _ _ 188 _ _ _ _
      have h6 := h.2.2.2.2.2.2.1 cq
      refine q_aload_n 188 k_L_act_188 rfl ?_
      refine q_iload_n 189 k_L_act_189 rfl ?_
      refine q_iload_n 190 k_L_act_190 rfl ?_
      refine q_iconst 191 k_L_act_191 ?_
      refine q_sI 192 [vI x3, vI 5] [vI x1, vR 3 0] k_L_act_192 rfl lk_4_23 rfl rfl rfl rfl rfl rfl (CallI.mono (fun y34 M33 h71 => ?_) h6)
      refine q_vI 195 [vI x1, vI y34] [] k_L_act_195 lk_4_91 rfl rfl rfl rfl rfl rfl rfl rfl (CallI.mono (fun y36 M35 h72 => ?_) h71)
      refine q_pop 198 k_L_act_198 rfl ?_
      refine q_goto 199 270 k_L_act_199 rfl rfl ?_
      exact q_vret 270 k_L_act_270 rfl h72
    · refine ⟨201, by rw [cq]; rfl, rfl, ?_⟩
      show RunQ _ _ 202 _ _ _ _
      have h7 := h.2.2.2.2.2.2.2.1 cq
      refine q_aload_n 202 k_L_act_202 rfl ?_
      refine q_iload_n 203 k_L_act_203 rfl ?_
      refine q_vI 204 [vI x1] [] k_L_act_204 lk_4_94 rfl rfl rfl rfl rfl rfl rfl rfl (CallI.mono (fun y38 M37 h73 => ?_) h7)
      refine q_pop 207 k_L_act_207 rfl ?_
      refine q_goto 208 270 k_L_act_208 rfl rfl ?_
      exact q_vret 270 k_L_act_270 rfl h73
    · refine ⟨210, by rw [cq]; rfl, rfl, ?_⟩
      show RunQ _ _ 211 _ _ _ _
      have h8 := h.2.2.2.2.2.2.2.2.1 cq
      refine q_aload_n 211 k_L_act_211 rfl ?_
      refine q_iload_n 212 k_L_act_212 rfl ?_
      refine q_vI 213 [vI x1] [] k_L_act_213 lk_4_97 rfl rfl rfl rfl rfl rfl rfl rfl (CallI.mono (fun y40 M39 h74 => ?_) h8)
      refine q_pop 216 k_L_act_216 rfl ?_
      refine q_goto 217 270 k_L_act_217 rfl rfl ?_
      exact q_vret 270 k_L_act_270 rfl h74
    · refine ⟨219, by rw [cq]; rfl, rfl, ?_⟩
      show RunQ _ _ 220 _ _ _ _
      have h9 := h.2.2.2.2.2.2.2.2.2.1 cq
      refine q_iload_n 220 k_L_act_220 rfl ?_
      refine q_iconst 221 k_L_act_221 ?_
      refine q_sI 222 [vI x3, vI 4] [] k_L_act_222 rfl lk_4_23 rfl rfl rfl rfl rfl rfl (CallI.mono (fun y42 M41 h75 => ?_) h9)
      refine q_if_ne 225 237 k_L_act_225 rfl rfl (fun c225 => ?_) (fun c225 => ?_)
      · have h75t := h75.1 c225
        refine q_aload_n 237 k_L_act_237 rfl ?_
        refine q_iload_n 238 k_L_act_238 rfl ?_
        refine q_vI 239 [vI x1] [] k_L_act_239 lk_4_103 rfl rfl rfl rfl rfl rfl rfl rfl (CallI.mono (fun y44 M43 h76 => ?_) h75t)
        refine q_pop 242 k_L_act_242 rfl ?_
        refine q_goto 243 270 k_L_act_243 rfl rfl ?_
        exact q_vret 270 k_L_act_270 rfl h76
      · have h75f := h75.2 c225
        refine q_aload_n 228 k_L_act_228 rfl ?_
        refine q_iload_n 229 k_L_act_229 rfl ?_
        refine q_vI 230 [vI x1] [] k_L_act_230 lk_4_100 rfl rfl rfl rfl rfl rfl rfl rfl (CallI.mono (fun y46 M45 h77 => ?_) h75f)
        refine q_pop 233 k_L_act_233 rfl ?_
        refine q_goto 234 270 k_L_act_234 rfl rfl ?_
        exact q_vret 270 k_L_act_270 rfl h77
    · refine ⟨245, by rw [cq]; rfl, rfl, ?_⟩
      show RunQ _ _ 246 _ _ _ _
      have h10 := h.2.2.2.2.2.2.2.2.2.2.1 cq
      refine q_aload_n 246 k_L_act_246 rfl ?_
      refine q_iload_n 247 k_L_act_247 rfl ?_
      refine q_vI 248 [vI x1] [] k_L_act_248 lk_4_106 rfl rfl rfl rfl rfl rfl rfl rfl (CallI.mono (fun y48 M47 h78 => ?_) h10)
      refine q_pop 251 k_L_act_251 rfl ?_
      refine q_goto 252 270 k_L_act_252 rfl rfl ?_
      exact q_vret 270 k_L_act_270 rfl h78
theorem k_L_isPrime_0 : decode (mtC m_L_isPrime) 0 = .ok (.iconst 2, 1) := by decide +kernel
theorem k_L_isPrime_1 : decode (mtC m_L_isPrime) 1 = .ok (.istore_n 1, 1) := by decide +kernel
theorem k_L_isPrime_2 : decode (mtC m_L_isPrime) 2 = .ok (.iload_n 1, 1) := by decide +kernel
theorem k_L_isPrime_3 : decode (mtC m_L_isPrime) 3 = .ok (.iload_n 1, 1) := by decide +kernel
theorem k_L_isPrime_4 : decode (mtC m_L_isPrime) 4 = .ok (.imul, 1) := by decide +kernel
theorem k_L_isPrime_5 : decode (mtC m_L_isPrime) 5 = .ok (.iload_n 0, 1) := by decide +kernel
theorem k_L_isPrime_6 : decode (mtC m_L_isPrime) 6 = .ok (.if_icmp .gt 17, 3) := by decide +kernel
theorem k_L_isPrime_9 : decode (mtC m_L_isPrime) 9 = .ok (.iload_n 0, 1) := by decide +kernel
theorem k_L_isPrime_10 : decode (mtC m_L_isPrime) 10 = .ok (.iload_n 1, 1) := by decide +kernel
theorem k_L_isPrime_11 : decode (mtC m_L_isPrime) 11 = .ok (.irem, 1) := by decide +kernel
theorem k_L_isPrime_12 : decode (mtC m_L_isPrime) 12 = .ok (.ifCond .ne 5, 3) := by decide +kernel
theorem k_L_isPrime_15 : decode (mtC m_L_isPrime) 15 = .ok (.iconst 0, 1) := by decide +kernel
theorem k_L_isPrime_16 : decode (mtC m_L_isPrime) 16 = .ok (.ireturn, 1) := by decide +kernel
theorem k_L_isPrime_17 : decode (mtC m_L_isPrime) 17 = .ok (.iinc 1 1, 3) := by decide +kernel
theorem k_L_isPrime_20 : decode (mtC m_L_isPrime) 20 = .ok (.goto (-18), 3) := by decide +kernel
theorem k_L_isPrime_23 : decode (mtC m_L_isPrime) 23 = .ok (.iload_n 0, 1) := by decide +kernel
theorem k_L_isPrime_24 : decode (mtC m_L_isPrime) 24 = .ok (.iconst 1, 1) := by decide +kernel
theorem k_L_isPrime_25 : decode (mtC m_L_isPrime) 25 = .ok (.if_icmp .le 7, 3) := by decide +kernel
theorem k_L_isPrime_28 : decode (mtC m_L_isPrime) 28 = .ok (.iconst 1, 1) := by decide +kernel
theorem k_L_isPrime_29 : decode (mtC m_L_isPrime) 29 = .ok (.goto 4, 3) := by decide +kernel
theorem k_L_isPrime_32 : decode (mtC m_L_isPrime) 32 = .ok (.iconst 0, 1) := by decide +kernel
theorem k_L_isPrime_33 : decode (mtC m_L_isPrime) 33 = .ok (.ireturn, 1) := by decide +kernel
set_option maxHeartbeats 4000000 in
set_option maxRecDepth 100000 in
theorem T_L_isPrime_0 {d : Nat} {x0 : Int} {M : AMem} {Q : Option AV → AMem → Prop}  (h : RunQ d m_L_isPrime 2 [some (vI x0), some (vI 2)] [] M Q) : RunQ d m_L_isPrime 0 [some (vI x0), none] [] M Q := by
  refine q_iconst 0 k_L_isPrime_0 ?_
  refine q_istore_n 1 k_L_isPrime_1 (ls' := [some (vI x0), some (vI 2)]) rfl rfl ?_
  exact h
set_option maxHeartbeats 4000000 in
set_option maxRecDepth 100000 in
theorem T_L_isPrime_2 {d : Nat} {x0 : Int} {x1 : Int} {M : AMem} {Q : Option AV → AMem → Prop}  (h : ((wI x0 < wI (x1 * x1)) → ((wI x0 ≤ 1) → Q (some (vI 0)) M) ∧ (¬ (wI x0 ≤ 1) → Q (some (vI 1)) M)) ∧ (¬ (wI x0 < wI (x1 * x1)) → (¬ wI x1 = 0) ∧ (((¬ wI (Int.tmod (wI x0) (wI x1)) = 0) → RunQ d m_L_isPrime 2 [some (vI x0), some (vI (x1 + 1))] [] M Q) ∧ (¬ (¬ wI (Int.tmod (wI x0) (wI x1)) = 0) → Q (some (vI 0)) M)))) : RunQ d m_L_isPrime 2 [some (vI x0), some (vI x1)] [] M Q := by
  refine q_iload_n 2 k_L_isPrime_2 rfl ?_
  refine q_iload_n 3 k_L_isPrime_3 rfl ?_
  refine q_imul 4 k_L_isPrime_4 ?_
  refine q_iload_n 5 k_L_isPrime_5 rfl ?_
  refine q_icmp_gt 6 23 k_L_isPrime_6 rfl rfl (fun c6 => ?_) (fun c6 => ?_)
  · have ht := h.1 c6
    refine q_iload_n 23 k_L_isPrime_23 rfl ?_
    refine q_iconst 24 k_L_isPrime_24 ?_
    refine q_icmp_le 25 32 k_L_isPrime_25 rfl rfl (fun c25 => ?_) (fun c25 => ?_)
    · have htt := ht.1 c25
      refine q_iconst 32 k_L_isPrime_32 ?_
      exact q_zret 33 k_L_isPrime_33 rfl (Or.inl rfl) htt
    · have htf := ht.2 c25
      refine q_iconst 28 k_L_isPrime_28 ?_
      refine q_goto 29 33 k_L_isPrime_29 rfl rfl ?_
      exact q_zret 33 k_L_isPrime_33 rfl (Or.inr rfl) htf
  · have hf := h.2 c6
    refine q_iload_n 9 k_L_isPrime_9 rfl ?_
    refine q_iload_n 10 k_L_isPrime_10 rfl ?_
    refine q_irem 11 k_L_isPrime_11 hf.1 ?_
    have hf' := hf.2
    refine q_if_ne 12 17 k_L_isPrime_12 rfl rfl (fun c12 => ?_) (fun c12 => ?_)
    · have hf't := hf'.1 c12
      refine q_iinc 17 k_L_isPrime_17 (ls' := [some (vI x0), some (vI (x1 + 1))]) rfl rfl rfl ?_
      refine q_goto 20 2 k_L_isPrime_20 rfl rfl ?_
      exact hf't
    · have hf'f := hf'.2 c12
      refine q_iconst 15 k_L_isPrime_15 ?_
      exact q_zret 16 k_L_isPrime_16 rfl (Or.inl rfl) hf'f
theorem k_L_isCourse_0 : decode (mtC m_L_isCourse) 0 = .ok (.aload_n 0, 1) := by decide +kernel
theorem k_L_isCourse_1 : decode (mtC m_L_isCourse) 1 = .ok (.iload_n 1, 1) := by decide +kernel
theorem k_L_isCourse_2 : decode (mtC m_L_isCourse) 2 = .ok (.iconst 0, 1) := by decide +kernel
theorem k_L_isCourse_3 : decode (mtC m_L_isCourse) 3 = .ok (.invokevirtual 112, 3) := by decide +kernel
theorem k_L_isCourse_6 : decode (mtC m_L_isCourse) 6 = .ok (.istore 4, 2) := by decide +kernel
theorem k_L_isCourse_8 : decode (mtC m_L_isCourse) 8 = .ok (.iload 4, 2) := by decide +kernel
theorem k_L_isCourse_10 : decode (mtC m_L_isCourse) 10 = .ok (.ifCond .ge 5, 3) := by decide +kernel
theorem k_L_isCourse_13 : decode (mtC m_L_isCourse) 13 = .ok (.iconst 1, 1) := by decide +kernel
theorem k_L_isCourse_14 : decode (mtC m_L_isCourse) 14 = .ok (.ireturn, 1) := by decide +kernel
theorem k_L_isCourse_15 : decode (mtC m_L_isCourse) 15 = .ok (.aload_n 0, 1) := by decide +kernel
theorem k_L_isCourse_16 : decode (mtC m_L_isCourse) 16 = .ok (.invokevirtual 115, 3) := by decide +kernel
theorem k_L_isCourse_19 : decode (mtC m_L_isCourse) 19 = .ok (.lstore 5, 2) := by decide +kernel
theorem k_L_isCourse_21 : decode (mtC m_L_isCourse) 21 = .ok (.aload_n 0, 1) := by decide +kernel
theorem k_L_isCourse_22 : decode (mtC m_L_isCourse) 22 = .ok (.iload_n 1, 1) := by decide +kernel
theorem k_L_isCourse_23 : decode (mtC m_L_isCourse) 23 = .ok (.iconst 1, 1) := by decide +kernel
theorem k_L_isCourse_24 : decode (mtC m_L_isCourse) 24 = .ok (.invokevirtual 112, 3) := by decide +kernel
theorem k_L_isCourse_27 : decode (mtC m_L_isCourse) 27 = .ok (.istore 7, 2) := by decide +kernel
theorem k_L_isCourse_29 : decode (mtC m_L_isCourse) 29 = .ok (.aload_n 0, 1) := by decide +kernel
theorem k_L_isCourse_30 : decode (mtC m_L_isCourse) 30 = .ok (.iload_n 1, 1) := by decide +kernel
theorem k_L_isCourse_31 : decode (mtC m_L_isCourse) 31 = .ok (.iconst 2, 1) := by decide +kernel
theorem k_L_isCourse_32 : decode (mtC m_L_isCourse) 32 = .ok (.invokevirtual 112, 3) := by decide +kernel
theorem k_L_isCourse_35 : decode (mtC m_L_isCourse) 35 = .ok (.istore 8, 2) := by decide +kernel
theorem k_L_isCourse_37 : decode (mtC m_L_isCourse) 37 = .ok (.aload_n 0, 1) := by decide +kernel
theorem k_L_isCourse_38 : decode (mtC m_L_isCourse) 38 = .ok (.iload_n 1, 1) := by decide +kernel
theorem k_L_isCourse_39 : decode (mtC m_L_isCourse) 39 = .ok (.iconst 3, 1) := by decide +kernel
theorem k_L_isCourse_40 : decode (mtC m_L_isCourse) 40 = .ok (.invokevirtual 112, 3) := by decide +kernel
theorem k_L_isCourse_43 : decode (mtC m_L_isCourse) 43 = .ok (.istore 9, 2) := by decide +kernel
theorem k_L_isCourse_45 : decode (mtC m_L_isCourse) 45 = .ok (.aload_n 0, 1) := by decide +kernel
theorem k_L_isCourse_46 : decode (mtC m_L_isCourse) 46 = .ok (.iload_n 1, 1) := by decide +kernel
theorem k_L_isCourse_47 : decode (mtC m_L_isCourse) 47 = .ok (.bipush 9, 2) := by decide +kernel
theorem k_L_isCourse_49 : decode (mtC m_L_isCourse) 49 = .ok (.invokevirtual 112, 3) := by decide +kernel
theorem k_L_isCourse_52 : decode (mtC m_L_isCourse) 52 = .ok (.ifCond .ne 7, 3) := by decide +kernel
theorem k_L_isCourse_55 : decode (mtC m_L_isCourse) 55 = .ok (.iconst 1, 1) := by decide +kernel
theorem k_L_isCourse_56 : decode (mtC m_L_isCourse) 56 = .ok (.goto 4, 3) := by decide +kernel
theorem k_L_isCourse_59 : decode (mtC m_L_isCourse) 59 = .ok (.iconst 0, 1) := by decide +kernel
theorem k_L_isCourse_60 : decode (mtC m_L_isCourse) 60 = .ok (.istore 10, 2) := by decide +kernel
theorem k_L_isCourse_62 : decode (mtC m_L_isCourse) 62 = .ok (.iload 8, 2) := by decide +kernel
theorem k_L_isCourse_64 : decode (mtC m_L_isCourse) 64 = .ok (.aload_n 0, 1) := by decide +kernel
theorem k_L_isCourse_65 : decode (mtC m_L_isCourse) 65 = .ok (.iload_n 1, 1) := by decide +kernel
theorem k_L_isCourse_66 : decode (mtC m_L_isCourse) 66 = .ok (.bipush 8, 2) := by decide +kernel
theorem k_L_isCourse_68 : decode (mtC m_L_isCourse) 68 = .ok (.invokevirtual 112, 3) := by decide +kernel
theorem k_L_isCourse_71 : decode (mtC m_L_isCourse) 71 = .ok (.if_icmp .gt 15, 3) := by decide +kernel
theorem k_L_isCourse_74 : decode (mtC m_L_isCourse) 74 = .ok (.aload_n 0, 1) := by decide +kernel
theorem k_L_isCourse_75 : decode (mtC m_L_isCourse) 75 = .ok (.iload_n 1, 1) := by decide +kernel
theorem k_L_isCourse_76 : decode (mtC m_L_isCourse) 76 = .ok (.ldc 119, 2) := by decide +kernel
theorem k_L_isCourse_78 : decode (mtC m_L_isCourse) 78 = .ok (.invokevirtual 120, 3) := by decide +kernel
theorem k_L_isCourse_81 : decode (mtC m_L_isCourse) 81 = .ok (.iload 8, 2) := by decide +kernel
theorem k_L_isCourse_83 : decode (mtC m_L_isCourse) 83 = .ok (.if_icmp .eq 5, 3) := by decide +kernel
theorem k_L_isCourse_86 : decode (mtC m_L_isCourse) 86 = .ok (.iconst 0, 1) := by decide +kernel
theorem k_L_isCourse_87 : decode (mtC m_L_isCourse) 87 = .ok (.ireturn, 1) := by decide +kernel
theorem k_L_isCourse_88 : decode (mtC m_L_isCourse) 88 = .ok (.iload 9, 2) := by decide +kernel
theorem k_L_isCourse_90 : decode (mtC m_L_isCourse) 90 = .ok (.ifCond .lt 19, 3) := by decide +kernel
theorem k_L_isCourse_93 : decode (mtC m_L_isCourse) 93 = .ok (.iload 4, 2) := by decide +kernel
theorem k_L_isCourse_95 : decode (mtC m_L_isCourse) 95 = .ok (.iconst 5, 1) := by decide +kernel
theorem k_L_isCourse_96 : decode (mtC m_L_isCourse) 96 = .ok (.if_icmp .ne 13, 3) := by decide +kernel
theorem k_L_isCourse_99 : decode (mtC m_L_isCourse) 99 = .ok (.aload_n 0, 1) := by decide +kernel
theorem k_L_isCourse_100 : decode (mtC m_L_isCourse) 100 = .ok (.iload_n 1, 1) := by decide +kernel
theorem k_L_isCourse_101 : decode (mtC m_L_isCourse) 101 = .ok (.iload 9, 2) := by decide +kernel
theorem k_L_isCourse_103 : decode (mtC m_L_isCourse) 103 = .ok (.invokevirtual 120, 3) := by decide +kernel
theorem k_L_isCourse_106 : decode (mtC m_L_isCourse) 106 = .ok (.ifCond .ne 20, 3) := by decide +kernel
theorem k_L_isCourse_109 : decode (mtC m_L_isCourse) 109 = .ok (.iload 9, 2) := by decide +kernel
theorem k_L_isCourse_111 : decode (mtC m_L_isCourse) 111 = .ok (.ifCond .le 17, 3) := by decide +kernel
theorem k_L_isCourse_114 : decode (mtC m_L_isCourse) 114 = .ok (.aload_n 0, 1) := by decide +kernel
theorem k_L_isCourse_115 : decode (mtC m_L_isCourse) 115 = .ok (.iload_n 1, 1) := by decide +kernel
theorem k_L_isCourse_116 : decode (mtC m_L_isCourse) 116 = .ok (.iload 9, 2) := by decide +kernel
theorem k_L_isCourse_118 : decode (mtC m_L_isCourse) 118 = .ok (.iconst 1, 1) := by decide +kernel
theorem k_L_isCourse_119 : decode (mtC m_L_isCourse) 119 = .ok (.isub, 1) := by decide +kernel
theorem k_L_isCourse_120 : decode (mtC m_L_isCourse) 120 = .ok (.invokevirtual 120, 3) := by decide +kernel
theorem k_L_isCourse_123 : decode (mtC m_L_isCourse) 123 = .ok (.ifCond .eq 5, 3) := by decide +kernel
theorem k_L_isCourse_126 : decode (mtC m_L_isCourse) 126 = .ok (.iconst 0, 1) := by decide +kernel
theorem k_L_isCourse_127 : decode (mtC m_L_isCourse) 127 = .ok (.ireturn, 1) := by decide +kernel
theorem k_L_isCourse_128 : decode (mtC m_L_isCourse) 128 = .ok (.iload 9, 2) := by decide +kernel
theorem k_L_isCourse_130 : decode (mtC m_L_isCourse) 130 = .ok (.ifCond .lt 36, 3) := by decide +kernel
theorem k_L_isCourse_133 : decode (mtC m_L_isCourse) 133 = .ok (.iload 10, 2) := by decide +kernel
theorem k_L_isCourse_135 : decode (mtC m_L_isCourse) 135 = .ok (.ifCond .eq 31, 3) := by decide +kernel
theorem k_L_isCourse_138 : decode (mtC m_L_isCourse) 138 = .ok (.aload_n 0, 1) := by decide +kernel
theorem k_L_isCourse_139 : decode (mtC m_L_isCourse) 139 = .ok (.iload_n 1, 1) := by decide +kernel
theorem k_L_isCourse_140 : decode (mtC m_L_isCourse) 140 = .ok (.iload 9, 2) := by decide +kernel
theorem k_L_isCourse_142 : decode (mtC m_L_isCourse) 142 = .ok (.invokevirtual 123, 3) := by decide +kernel
theorem k_L_isCourse_145 : decode (mtC m_L_isCourse) 145 = .ok (.iload 7, 2) := by decide +kernel
theorem k_L_isCourse_147 : decode (mtC m_L_isCourse) 147 = .ok (.if_icmp .lt 17, 3) := by decide +kernel
theorem k_L_isCourse_150 : decode (mtC m_L_isCourse) 150 = .ok (.aload_n 0, 1) := by decide +kernel
theorem k_L_isCourse_151 : decode (mtC m_L_isCourse) 151 = .ok (.iload_n 1, 1) := by decide +kernel
theorem k_L_isCourse_152 : decode (mtC m_L_isCourse) 152 = .ok (.iload 7, 2) := by decide +kernel
theorem k_L_isCourse_154 : decode (mtC m_L_isCourse) 154 = .ok (.iconst 1, 1) := by decide +kernel
theorem k_L_isCourse_155 : decode (mtC m_L_isCourse) 155 = .ok (.isub, 1) := by decide +kernel
theorem k_L_isCourse_156 : decode (mtC m_L_isCourse) 156 = .ok (.invokevirtual 126, 3) := by decide +kernel
theorem k_L_isCourse_159 : decode (mtC m_L_isCourse) 159 = .ok (.iload 9, 2) := by decide +kernel
theorem k_L_isCourse_161 : decode (mtC m_L_isCourse) 161 = .ok (.if_icmp .eq 5, 3) := by decide +kernel
theorem k_L_isCourse_164 : decode (mtC m_L_isCourse) 164 = .ok (.iconst 0, 1) := by decide +kernel
theorem k_L_isCourse_165 : decode (mtC m_L_isCourse) 165 = .ok (.ireturn, 1) := by decide +kernel
theorem k_L_isCourse_166 : decode (mtC m_L_isCourse) 166 = .ok (.iload 9, 2) := by decide +kernel
theorem k_L_isCourse_168 : decode (mtC m_L_isCourse) 168 = .ok (.ifCond .le 24, 3) := by decide +kernel
theorem k_L_isCourse_171 : decode (mtC m_L_isCourse) 171 = .ok (.iload 10, 2) := by decide +kernel
theorem k_L_isCourse_173 : decode (mtC m_L_isCourse) 173 = .ok (.ifCond .eq 19, 3) := by decide +kernel
theorem k_L_isCourse_176 : decode (mtC m_L_isCourse) 176 = .ok (.aload_n 0, 1) := by decide +kernel
theorem k_L_isCourse_177 : decode (mtC m_L_isCourse) 177 = .ok (.iload_n 1, 1) := by decide +kernel
theorem k_L_isCourse_178 : decode (mtC m_L_isCourse) 178 = .ok (.iload 9, 2) := by decide +kernel
theorem k_L_isCourse_180 : decode (mtC m_L_isCourse) 180 = .ok (.iconst 1, 1) := by decide +kernel
theorem k_L_isCourse_181 : decode (mtC m_L_isCourse) 181 = .ok (.isub, 1) := by decide +kernel
theorem k_L_isCourse_182 : decode (mtC m_L_isCourse) 182 = .ok (.invokevirtual 123, 3) := by decide +kernel
theorem k_L_isCourse_185 : decode (mtC m_L_isCourse) 185 = .ok (.iload 7, 2) := by decide +kernel
theorem k_L_isCourse_187 : decode (mtC m_L_isCourse) 187 = .ok (.if_icmp .lt 5, 3) := by decide +kernel
theorem k_L_isCourse_190 : decode (mtC m_L_isCourse) 190 = .ok (.iconst 0, 1) := by decide +kernel
theorem k_L_isCourse_191 : decode (mtC m_L_isCourse) 191 = .ok (.ireturn, 1) := by decide +kernel
theorem k_L_isCourse_192 : decode (mtC m_L_isCourse) 192 = .ok (.aload_n 0, 1) := by decide +kernel
theorem k_L_isCourse_193 : decode (mtC m_L_isCourse) 193 = .ok (.iload_n 1, 1) := by decide +kernel
theorem k_L_isCourse_194 : decode (mtC m_L_isCourse) 194 = .ok (.invokevirtual 129, 3) := by decide +kernel
theorem k_L_isCourse_197 : decode (mtC m_L_isCourse) 197 = .ok (.istore 11, 2) := by decide +kernel
theorem k_L_isCourse_199 : decode (mtC m_L_isCourse) 199 = .ok (.aload_n 0, 1) := by decide +kernel
theorem k_L_isCourse_200 : decode (mtC m_L_isCourse) 200 = .ok (.iload_n 1, 1) := by decide +kernel
theorem k_L_isCourse_201 : decode (mtC m_L_isCourse) 201 = .ok (.bipush 7, 2) := by decide +kernel
theorem k_L_isCourse_203 : decode (mtC m_L_isCourse) 203 = .ok (.invokevirtual 112, 3) := by decide +kernel
theorem k_L_isCourse_206 : decode (mtC m_L_isCourse) 206 = .ok (.iload 11, 2) := by decide +kernel
theorem k_L_isCourse_208 : decode (mtC m_L_isCourse) 208 = .ok (.bipush (-9), 2) := by decide +kernel
theorem k_L_isCourse_210 : decode (mtC m_L_isCourse) 210 = .ok (.if_icmp .ne 7, 3) := by decide +kernel
theorem k_L_isCourse_213 : decode (mtC m_L_isCourse) 213 = .ok (.iconst 0, 1) := by decide +kernel
theorem k_L_isCourse_214 : decode (mtC m_L_isCourse) 214 = .ok (.goto 4, 3) := by decide +kernel
theorem k_L_isCourse_217 : decode (mtC m_L_isCourse) 217 = .ok (.iconst 1, 1) := by decide +kernel
theorem k_L_isCourse_218 : decode (mtC m_L_isCourse) 218 = .ok (.if_icmp .ne 5, 3) := by decide +kernel
theorem k_L_isCourse_221 : decode (mtC m_L_isCourse) 221 = .ok (.iconst 0, 1) := by decide +kernel
theorem k_L_isCourse_222 : decode (mtC m_L_isCourse) 222 = .ok (.ireturn, 1) := by decide +kernel
theorem k_L_isCourse_223 : decode (mtC m_L_isCourse) 223 = .ok (.iload 11, 2) := by decide +kernel
theorem k_L_isCourse_225 : decode (mtC m_L_isCourse) 225 = .ok (.ifCond .lt 45, 3) := by decide +kernel
theorem k_L_isCourse_228 : decode (mtC m_L_isCourse) 228 = .ok (.iload 4, 2) := by decide +kernel
theorem k_L_isCourse_230 : decode (mtC m_L_isCourse) 230 = .ok (.iconst 5, 1) := by decide +kernel
theorem k_L_isCourse_231 : decode (mtC m_L_isCourse) 231 = .ok (.if_icmp .ge 39, 3) := by decide +kernel
theorem k_L_isCourse_234 : decode (mtC m_L_isCourse) 234 = .ok (.aload_n 0, 1) := by decide +kernel
theorem k_L_isCourse_235 : decode (mtC m_L_isCourse) 235 = .ok (.iload_n 1, 1) := by decide +kernel
theorem k_L_isCourse_236 : decode (mtC m_L_isCourse) 236 = .ok (.iload 11, 2) := by decide +kernel
theorem k_L_isCourse_238 : decode (mtC m_L_isCourse) 238 = .ok (.invokevirtual 120, 3) := by decide +kernel
theorem k_L_isCourse_241 : decode (mtC m_L_isCourse) 241 = .ok (.ifCond .eq 27, 3) := by decide +kernel
theorem k_L_isCourse_244 : decode (mtC m_L_isCourse) 244 = .ok (.iload 11, 2) := by decide +kernel
theorem k_L_isCourse_246 : decode (mtC m_L_isCourse) 246 = .ok (.ifCond .le 15, 3) := by decide +kernel
theorem k_L_isCourse_249 : decode (mtC m_L_isCourse) 249 = .ok (.aload_n 0, 1) := by decide +kernel
theorem k_L_isCourse_250 : decode (mtC m_L_isCourse) 250 = .ok (.iload_n 1, 1) := by decide +kernel
theorem k_L_isCourse_251 : decode (mtC m_L_isCourse) 251 = .ok (.iload 11, 2) := by decide +kernel
theorem k_L_isCourse_253 : decode (mtC m_L_isCourse) 253 = .ok (.iconst 1, 1) := by decide +kernel
theorem k_L_isCourse_254 : decode (mtC m_L_isCourse) 254 = .ok (.isub, 1) := by decide +kernel
theorem k_L_isCourse_255 : decode (mtC m_L_isCourse) 255 = .ok (.invokevirtual 120, 3) := by decide +kernel
theorem k_L_isCourse_258 : decode (mtC m_L_isCourse) 258 = .ok (.ifCond .ne 10, 3) := by decide +kernel
theorem k_L_isCourse_261 : decode (mtC m_L_isCourse) 261 = .ok (.iload 11, 2) := by decide +kernel
theorem k_L_isCourse_263 : decode (mtC m_L_isCourse) 263 = .ok (.iload 9, 2) := by decide +kernel
theorem k_L_isCourse_265 : decode (mtC m_L_isCourse) 265 = .ok (.if_icmp .ge 5, 3) := by decide +kernel
theorem k_L_isCourse_268 : decode (mtC m_L_isCourse) 268 = .ok (.iconst 0, 1) := by decide +kernel
theorem k_L_isCourse_269 : decode (mtC m_L_isCourse) 269 = .ok (.ireturn, 1) := by decide +kernel
theorem k_L_isCourse_270 : decode (mtC m_L_isCourse) 270 = .ok (.iload 11, 2) := by decide +kernel
theorem k_L_isCourse_272 : decode (mtC m_L_isCourse) 272 = .ok (.ifCond .lt 18, 3) := by decide +kernel
theorem k_L_isCourse_275 : decode (mtC m_L_isCourse) 275 = .ok (.iload 4, 2) := by decide +kernel
theorem k_L_isCourse_277 : decode (mtC m_L_isCourse) 277 = .ok (.iconst 5, 1) := by decide +kernel
theorem k_L_isCourse_278 : decode (mtC m_L_isCourse) 278 = .ok (.if_icmp .ne 12, 3) := by decide +kernel
theorem k_L_isCourse_281 : decode (mtC m_L_isCourse) 281 = .ok (.iload 11, 2) := by decide +kernel
theorem k_L_isCourse_283 : decode (mtC m_L_isCourse) 283 = .ok (.iload 9, 2) := by decide +kernel
theorem k_L_isCourse_285 : decode (mtC m_L_isCourse) 285 = .ok (.if_icmp .gt 5, 3) := by decide +kernel
theorem k_L_isCourse_288 : decode (mtC m_L_isCourse) 288 = .ok (.iconst 0, 1) := by decide +kernel
theorem k_L_isCourse_289 : decode (mtC m_L_isCourse) 289 = .ok (.ireturn, 1) := by decide +kernel
theorem k_L_isCourse_290 : decode (mtC m_L_isCourse) 290 = .ok (.iload 11, 2) := by decide +kernel
theorem k_L_isCourse_292 : decode (mtC m_L_isCourse) 292 = .ok (.ifCond .lt 54, 3) := by decide +kernel
theorem k_L_isCourse_295 : decode (mtC m_L_isCourse) 295 = .ok (.iload 4, 2) := by decide +kernel
theorem k_L_isCourse_297 : decode (mtC m_L_isCourse) 297 = .ok (.iconst 5, 1) := by decide +kernel
theorem k_L_isCourse_298 : decode (mtC m_L_isCourse) 298 = .ok (.if_icmp .ne 48, 3) := by decide +kernel
theorem k_L_isCourse_301 : decode (mtC m_L_isCourse) 301 = .ok (.iconst 1, 1) := by decide +kernel
theorem k_L_isCourse_302 : decode (mtC m_L_isCourse) 302 = .ok (.iload 9, 2) := by decide +kernel
theorem k_L_isCourse_304 : decode (mtC m_L_isCourse) 304 = .ok (.invokestatic 132, 3) := by decide +kernel
theorem k_L_isCourse_307 : decode (mtC m_L_isCourse) 307 = .ok (.iconst 1, 1) := by decide +kernel
theorem k_L_isCourse_308 : decode (mtC m_L_isCourse) 308 = .ok (.iadd, 1) := by decide +kernel
theorem k_L_isCourse_309 : decode (mtC m_L_isCourse) 309 = .ok (.istore 12, 2) := by decide +kernel
theorem k_L_isCourse_311 : decode (mtC m_L_isCourse) 311 = .ok (.iload 12, 2) := by decide +kernel
theorem k_L_isCourse_313 : decode (mtC m_L_isCourse) 313 = .ok (.iload 11, 2) := by decide +kernel
theorem k_L_isCourse_315 : decode (mtC m_L_isCourse) 315 = .ok (.if_icmp .gt 31, 3) := by decide +kernel
theorem k_L_isCourse_318 : decode (mtC m_L_isCourse) 318 = .ok (.iload 12, 2) := by decide +kernel
theorem k_L_isCourse_320 : decode (mtC m_L_isCourse) 320 = .ok (.invokestatic 137, 3) := by decide +kernel
theorem k_L_isCourse_323 : decode (mtC m_L_isCourse) 323 = .ok (.iload 12, 2) := by decide +kernel
theorem k_L_isCourse_325 : decode (mtC m_L_isCourse) 325 = .ok (.iload 11, 2) := by decide +kernel
theorem k_L_isCourse_327 : decode (mtC m_L_isCourse) 327 = .ok (.if_icmp .ne 7, 3) := by decide +kernel
theorem k_L_isCourse_330 : decode (mtC m_L_isCourse) 330 = .ok (.iconst 1, 1) := by decide +kernel
theorem k_L_isCourse_331 : decode (mtC m_L_isCourse) 331 = .ok (.goto 4, 3) := by decide +kernel
theorem k_L_isCourse_334 : decode (mtC m_L_isCourse) 334 = .ok (.iconst 0, 1) := by decide +kernel
theorem k_L_isCourse_335 : decode (mtC m_L_isCourse) 335 = .ok (.if_icmp .eq 5, 3) := by decide +kernel
theorem k_L_isCourse_338 : decode (mtC m_L_isCourse) 338 = .ok (.iconst 0, 1) := by decide +kernel
theorem k_L_isCourse_339 : decode (mtC m_L_isCourse) 339 = .ok (.ireturn, 1) := by decide +kernel
theorem k_L_isCourse_340 : decode (mtC m_L_isCourse) 340 = .ok (.iinc 12 1, 3) := by decide +kernel
theorem k_L_isCourse_343 : decode (mtC m_L_isCourse) 343 = .ok (.goto (-32), 3) := by decide +kernel
theorem k_L_isCourse_346 : decode (mtC m_L_isCourse) 346 = .ok (.iload_n 2, 1) := by decide +kernel
theorem k_L_isCourse_347 : decode (mtC m_L_isCourse) 347 = .ok (.iconst 3, 1) := by decide +kernel
theorem k_L_isCourse_348 : decode (mtC m_L_isCourse) 348 = .ok (.invokestatic 23, 3) := by decide +kernel
theorem k_L_isCourse_351 : decode (mtC m_L_isCourse) 351 = .ok (.ifCond .ne 12, 3) := by decide +kernel
theorem k_L_isCourse_354 : decode (mtC m_L_isCourse) 354 = .ok (.iconst 1, 1) := by decide +kernel
theorem k_L_isCourse_355 : decode (mtC m_L_isCourse) 355 = .ok (.iload 11, 2) := by decide +kernel
theorem k_L_isCourse_357 : decode (mtC m_L_isCourse) 357 = .ok (.invokestatic 132, 3) := by decide +kernel
theorem k_L_isCourse_360 : decode (mtC m_L_isCourse) 360 = .ok (.goto 39, 3) := by decide +kernel
theorem k_L_isCourse_363 : decode (mtC m_L_isCourse) 363 = .ok (.iconst 1, 1) := by decide +kernel
theorem k_L_isCourse_364 : decode (mtC m_L_isCourse) 364 = .ok (.iload_n 3, 1) := by decide +kernel
theorem k_L_isCourse_365 : decode (mtC m_L_isCourse) 365 = .ok (.iload 4, 2) := by decide +kernel
theorem k_L_isCourse_367 : decode (mtC m_L_isCourse) 367 = .ok (.iconst 5, 1) := by decide +kernel
theorem k_L_isCourse_368 : decode (mtC m_L_isCourse) 368 = .ok (.if_icmp .ne 9, 3) := by decide +kernel
theorem k_L_isCourse_371 : decode (mtC m_L_isCourse) 371 = .ok (.sipush 600, 3) := by decide +kernel
theorem k_L_isCourse_374 : decode (mtC m_L_isCourse) 374 = .ok (.goto 21, 3) := by decide +kernel
theorem k_L_isCourse_377 : decode (mtC m_L_isCourse) 377 = .ok (.iload_n 2, 1) := by decide +kernel
theorem k_L_isCourse_378 : decode (mtC m_L_isCourse) 378 = .ok (.iconst 3, 1) := by decide +kernel
theorem k_L_isCourse_379 : decode (mtC m_L_isCourse) 379 = .ok (.ishr, 1) := by decide +kernel
theorem k_L_isCourse_380 : decode (mtC m_L_isCourse) 380 = .ok (.iconst 2, 1) := by decide +kernel
theorem k_L_isCourse_381 : decode (mtC m_L_isCourse) 381 = .ok (.invokestatic 23, 3) := by decide +kernel
theorem k_L_isCourse_384 : decode (mtC m_L_isCourse) 384 = .ok (.ifCond .ne 8, 3) := by decide +kernel
theorem k_L_isCourse_387 : decode (mtC m_L_isCourse) 387 = .ok (.ldc 119, 2) := by decide +kernel
theorem k_L_isCourse_389 : decode (mtC m_L_isCourse) 389 = .ok (.goto 6, 3) := by decide +kernel
theorem k_L_isCourse_392 : decode (mtC m_L_isCourse) 392 = .ok (.sipush 1000, 3) := by decide +kernel
theorem k_L_isCourse_395 : decode (mtC m_L_isCourse) 395 = .ok (.invokestatic 23, 3) := by decide +kernel
theorem k_L_isCourse_398 : decode (mtC m_L_isCourse) 398 = .ok (.iadd, 1) := by decide +kernel
theorem k_L_isCourse_399 : decode (mtC m_L_isCourse) 399 = .ok (.istore 12, 2) := by decide +kernel
theorem k_L_isCourse_401 : decode (mtC m_L_isCourse) 401 = .ok (.aload_n 0, 1) := by decide +kernel
theorem k_L_isCourse_402 : decode (mtC m_L_isCourse) 402 = .ok (.iload_n 1, 1) := by decide +kernel
theorem k_L_isCourse_403 : decode (mtC m_L_isCourse) 403 = .ok (.iload 12, 2) := by decide +kernel
theorem k_L_isCourse_405 : decode (mtC m_L_isCourse) 405 = .ok (.invokevirtual 123, 3) := by decide +kernel
theorem k_L_isCourse_408 : decode (mtC m_L_isCourse) 408 = .ok (.aload_n 0, 1) := by decide +kernel
theorem k_L_isCourse_409 : decode (mtC m_L_isCourse) 409 = .ok (.iload_n 1, 1) := by decide +kernel
theorem k_L_isCourse_410 : decode (mtC m_L_isCourse) 410 = .ok (.iload 12, 2) := by decide +kernel
theorem k_L_isCourse_412 : decode (mtC m_L_isCourse) 412 = .ok (.iconst 1, 1) := by decide +kernel
theorem k_L_isCourse_413 : decode (mtC m_L_isCourse) 413 = .ok (.isub, 1) := by decide +kernel
theorem k_L_isCourse_414 : decode (mtC m_L_isCourse) 414 = .ok (.invokevirtual 123, 3) := by decide +kernel
theorem k_L_isCourse_417 : decode (mtC m_L_isCourse) 417 = .ok (.aload_n 0, 1) := by decide +kernel
theorem k_L_isCourse_418 : decode (mtC m_L_isCourse) 418 = .ok (.iload_n 1, 1) := by decide +kernel
theorem k_L_isCourse_419 : decode (mtC m_L_isCourse) 419 = .ok (.iload 12, 2) := by decide +kernel
theorem k_L_isCourse_421 : decode (mtC m_L_isCourse) 421 = .ok (.invokevirtual 141, 3) := by decide +kernel
theorem k_L_isCourse_424 : decode (mtC m_L_isCourse) 424 = .ok (.iadd, 1) := by decide +kernel
theorem k_L_isCourse_425 : decode (mtC m_L_isCourse) 425 = .ok (.if_icmp .ne 17, 3) := by decide +kernel
theorem k_L_isCourse_428 : decode (mtC m_L_isCourse) 428 = .ok (.aload_n 0, 1) := by decide +kernel
theorem k_L_isCourse_429 : decode (mtC m_L_isCourse) 429 = .ok (.invokevirtual 115, 3) := by decide +kernel
theorem k_L_isCourse_432 : decode (mtC m_L_isCourse) 432 = .ok (.lload 5, 2) := by decide +kernel
theorem k_L_isCourse_434 : decode (mtC m_L_isCourse) 434 = .ok (.lcmp, 1) := by decide +kernel
theorem k_L_isCourse_435 : decode (mtC m_L_isCourse) 435 = .ok (.ifCond .ne 7, 3) := by decide +kernel
theorem k_L_isCourse_438 : decode (mtC m_L_isCourse) 438 = .ok (.iconst 1, 1) := by decide +kernel
theorem k_L_isCourse_439 : decode (mtC m_L_isCourse) 439 = .ok (.goto 4, 3) := by decide +kernel
theorem k_L_isCourse_442 : decode (mtC m_L_isCourse) 442 = .ok (.iconst 0, 1) := by decide +kernel
theorem k_L_isCourse_443 : decode (mtC m_L_isCourse) 443 = .ok (.ireturn, 1) := by decide +kernel
set_option maxHeartbeats 4000000 in
set_option maxRecDepth 100000 in
theorem T_L_isCourse_0 {d : Nat} {x1 : Int} {x2 : Int} {x3 : Int} {M : AMem} {Q : Option AV → AMem → Prop}  (h : CallI d m_H_ofWell [vR 3 0, vI x1, vI 0] M (fun y2 M1 => ((0 ≤ wI y2) → CallL d m_H_digest [vR 3 0] M1 (fun y4 M3 => CallI d m_H_ofWell [vR 3 0, vI x1, vI 1] M3 (fun y6 M5 => CallI d m_H_ofWell [vR 3 0, vI x1, vI 2] M5 (fun y8 M7 => CallI d m_H_ofWell [vR 3 0, vI x1, vI 3] M7 (fun y10 M9 => CallI d m_H_ofWell [vR 3 0, vI x1, vI 9] M9 (fun y12 M11 => ((¬ wI y12 = 0) → RunQ (d + 1) m_L_isCourse 60 [some (vR 3 0), some (vI x1), some (vI x2), some (vI x3), some (vI y2), some (vL y4), none, some (vI y6), some (vI y8), some (vI y10), none, none, none] [vI 0] M11 Q) ∧ (¬ (¬ wI y12 = 0) → RunQ (d + 1) m_L_isCourse 60 [some (vR 3 0), some (vI x1), some (vI x2), some (vI x3), some (vI y2), some (vL y4), none, some (vI y6), some (vI y8), some (vI y10), none, none, none] [vI 1] M11 Q))))))) ∧ (¬ (0 ≤ wI y2) → Q (some (vI 1)) M1))) : RunQ (d + 1) m_L_isCourse 0 [some (vR 3 0), some (vI x1), some (vI x2), some (vI x3), none, none, none, none, none, none, none, none, none] [] M Q := by
  refine q_aload_n 0 k_L_isCourse_0 rfl ?_
  refine q_iload_n 1 k_L_isCourse_1 rfl ?_
  refine q_iconst 2 k_L_isCourse_2 ?_
  refine q_vI 3 [vI x1, vI 0] [] k_L_isCourse_3 lk_4_112 rfl rfl rfl rfl rfl rfl rfl rfl (CallI.mono (fun y2 M1 h13 => ?_) h)
  refine q_istore 6 k_L_isCourse_6 (ls' := [some (vR 3 0), some (vI x1), some (vI x2), some (vI x3), some (vI y2), none, none, none, none, none, none, none, none]) rfl rfl ?_
  refine q_iload 8 k_L_isCourse_8 rfl ?_
  refine q_if_ge 10 15 k_L_isCourse_10 rfl rfl (fun c10 => ?_) (fun c10 => ?_)
  · have h13t := h13.1 c10
    refine q_aload_n 15 k_L_isCourse_15 rfl ?_
    refine q_vL 16 [] [] k_L_isCourse_16 lk_4_115 rfl rfl rfl rfl rfl rfl rfl rfl (CallL.mono (fun y4 M3 h14 => ?_) h13t)
    refine q_lstore 19 k_L_isCourse_19 (ls' := [some (vR 3 0), some (vI x1), some (vI x2), some (vI x3), some (vI y2), some (vL y4), none, none, none, none, none, none, none]) rfl rfl rfl ?_
    refine q_aload_n 21 k_L_isCourse_21 rfl ?_
    refine q_iload_n 22 k_L_isCourse_22 rfl ?_
    refine q_iconst 23 k_L_isCourse_23 ?_
    refine q_vI 24 [vI x1, vI 1] [] k_L_isCourse_24 lk_4_112 rfl rfl rfl rfl rfl rfl rfl rfl (CallI.mono (fun y6 M5 h15 => ?_) h14)
    refine q_istore 27 k_L_isCourse_27 (ls' := [some (vR 3 0), some (vI x1), some (vI x2), some (vI x3), some (vI y2), some (vL y4), none, some (vI y6), none, none, none, none, none]) rfl rfl ?_
    refine q_aload_n 29 k_L_isCourse_29 rfl ?_
    refine q_iload_n 30 k_L_isCourse_30 rfl ?_
    refine q_iconst 31 k_L_isCourse_31 ?_
    refine q_vI 32 [vI x1, vI 2] [] k_L_isCourse_32 lk_4_112 rfl rfl rfl rfl rfl rfl rfl rfl (CallI.mono (fun y8 M7 h16 => ?_) h15)
    refine q_istore 35 k_L_isCourse_35 (ls' := [some (vR 3 0), some (vI x1), some (vI x2), some (vI x3), some (vI y2), some (vL y4), none, some (vI y6), some (vI y8), none, none, none, none]) rfl rfl ?_
    refine q_aload_n 37 k_L_isCourse_37 rfl ?_
    refine q_iload_n 38 k_L_isCourse_38 rfl ?_
    refine q_iconst 39 k_L_isCourse_39 ?_
    refine q_vI 40 [vI x1, vI 3] [] k_L_isCourse_40 lk_4_112 rfl rfl rfl rfl rfl rfl rfl rfl (CallI.mono (fun y10 M9 h17 => ?_) h16)
    refine q_istore 43 k_L_isCourse_43 (ls' := [some (vR 3 0), some (vI x1), some (vI x2), some (vI x3), some (vI y2), some (vL y4), none, some (vI y6), some (vI y8), some (vI y10), none, none, none]) rfl rfl ?_
    refine q_aload_n 45 k_L_isCourse_45 rfl ?_
    refine q_iload_n 46 k_L_isCourse_46 rfl ?_
    refine q_bipush 47 k_L_isCourse_47 (by decide) ?_
    refine q_vI 49 [vI x1, vI 9] [] k_L_isCourse_49 lk_4_112 rfl rfl rfl rfl rfl rfl rfl rfl (CallI.mono (fun y12 M11 h18 => ?_) h17)
    refine q_if_ne 52 59 k_L_isCourse_52 rfl rfl (fun c52 => ?_) (fun c52 => ?_)
    · have h18t := h18.1 c52
      refine q_iconst 59 k_L_isCourse_59 ?_
      exact h18t
    · have h18f := h18.2 c52
      refine q_iconst 55 k_L_isCourse_55 ?_
      refine q_goto 56 60 k_L_isCourse_56 rfl rfl ?_
      exact h18f
  · have h13f := h13.2 c10
    refine q_iconst 13 k_L_isCourse_13 ?_
    exact q_zret 14 k_L_isCourse_14 rfl (Or.inr rfl) h13f
set_option maxHeartbeats 4000000 in
set_option maxRecDepth 100000 in
theorem T_L_isCourse_60 {d : Nat} {x1 : Int} {x2 : Int} {x3 : Int} {x4 : Int} {x5 : Int} {x7 : Int} {x8 : Int} {x9 : Int} {s0 : Int} {M : AMem} {Q : Option AV → AMem → Prop}  (h : CallI d m_H_ofWell [vR 3 0, vI x1, vI 8] M (fun y2 M1 => ((wI y2 < wI x8) → Q (some (vI 0)) M1) ∧ (¬ (wI y2 < wI x8) → CallI d m_H_waits [vR 3 0, vI x1, vI 1000000] M1 (fun y4 M3 => ((wI y4 = wI x8) → ((wI x9 < 0) → ((wI x9 ≤ 0) → RunQ (d + 1) m_L_isCourse 128 [some (vR 3 0), some (vI x1), some (vI x2), some (vI x3), some (vI x4), some (vL x5), none, some (vI x7), some (vI x8), some (vI x9), some (vI s0), none, none] [] M3 Q) ∧ (¬ (wI x9 ≤ 0) → CallI d m_H_waits [vR 3 0, vI x1, vI (x9 - 1)] M3 (fun y6 M5 => ((wI y6 = 0) → RunQ (d + 1) m_L_isCourse 128 [some (vR 3 0), some (vI x1), some (vI x2), some (vI x3), some (vI x4), some (vL x5), none, some (vI x7), some (vI x8), some (vI x9), some (vI s0), none, none] [] M5 Q) ∧ (¬ (wI y6 = 0) → Q (some (vI 0)) M5)))) ∧ (¬ (wI x9 < 0) → ((¬ wI x4 = 5) → ((wI x9 ≤ 0) → RunQ (d + 1) m_L_isCourse 128 [some (vR 3 0), some (vI x1), some (vI x2), some (vI x3), some (vI x4), some (vL x5), none, some (vI x7), some (vI x8), some (vI x9), some (vI s0), none, none] [] M3 Q) ∧ (¬ (wI x9 ≤ 0) → CallI d m_H_waits [vR 3 0, vI x1, vI (x9 - 1)] M3 (fun y8 M7 => ((wI y8 = 0) → RunQ (d + 1) m_L_isCourse 128 [some (vR 3 0), some (vI x1), some (vI x2), some (vI x3), some (vI x4), some (vL x5), none, some (vI x7), some (vI x8), some (vI x9), some (vI s0), none, none] [] M7 Q) ∧ (¬ (wI y8 = 0) → Q (some (vI 0)) M7)))) ∧ (¬ (¬ wI x4 = 5) → CallI d m_H_waits [vR 3 0, vI x1, vI x9] M3 (fun y10 M9 => ((¬ wI y10 = 0) → Q (some (vI 0)) M9) ∧ (¬ (¬ wI y10 = 0) → ((wI x9 ≤ 0) → RunQ (d + 1) m_L_isCourse 128 [some (vR 3 0), some (vI x1), some (vI x2), some (vI x3), some (vI x4), some (vL x5), none, some (vI x7), some (vI x8), some (vI x9), some (vI s0), none, none] [] M9 Q) ∧ (¬ (wI x9 ≤ 0) → CallI d m_H_waits [vR 3 0, vI x1, vI (x9 - 1)] M9 (fun y12 M11 => ((wI y12 = 0) → RunQ (d + 1) m_L_isCourse 128 [some (vR 3 0), some (vI x1), some (vI x2), some (vI x3), some (vI x4), some (vL x5), none, some (vI x7), some (vI x8), some (vI x9), some (vI s0), none, none] [] M11 Q) ∧ (¬ (wI y12 = 0) → Q (some (vI 0)) M11)))))))) ∧ (¬ (wI y4 = wI x8) → Q (some (vI 0)) M3))))) : RunQ (d + 1) m_L_isCourse 60 [some (vR 3 0), some (vI x1), some (vI x2), some (vI x3), some (vI x4), some (vL x5), none, some (vI x7), some (vI x8), some (vI x9), none, none, none] [vI s0] M Q := by
  refine q_istore 60 k_L_isCourse_60 (ls' := [some (vR 3 0), some (vI x1), some (vI x2), some (vI x3), some (vI x4), some (vL x5), none, some (vI x7), some (vI x8), some (vI x9), some (vI s0), none, none]) rfl rfl ?_
  refine q_iload 62 k_L_isCourse_62 rfl ?_
  refine q_aload_n 64 k_L_isCourse_64 rfl ?_
  refine q_iload_n 65 k_L_isCourse_65 rfl ?_
  refine q_bipush 66 k_L_isCourse_66 (by decide) ?_
  refine q_vI 68 [vI x1, vI 8] [vI x8] k_L_isCourse_68 lk_4_112 rfl rfl rfl rfl rfl rfl rfl rfl (CallI.mono (fun y2 M1 h13 => ?_) h)
  refine q_icmp_gt 71 86 k_L_isCourse_71 rfl rfl (fun c71 => ?_) (fun c71 => ?_)
  · have h13t := h13.1 c71
    refine q_iconst 86 k_L_isCourse_86 ?_
    exact q_zret 87 k_L_isCourse_87 rfl (Or.inl rfl) h13t
  · have h13f := h13.2 c71
    refine q_aload_n 74 k_L_isCourse_74 rfl ?_
    refine q_iload_n 75 k_L_isCourse_75 rfl ?_
    refine q_ldc 76 k_L_isCourse_76 ck_4_119 ?_
    refine q_vI 78 [vI x1, vI 1000000] [] k_L_isCourse_78 lk_4_120 rfl rfl rfl rfl rfl rfl rfl rfl (CallI.mono (fun y4 M3 h14 => ?_) h13f)
    refine q_iload 81 k_L_isCourse_81 rfl ?_
    refine q_icmp_eq 83 88 k_L_isCourse_83 rfl rfl (fun c83 => ?_) (fun c83 => ?_)
    · have h14t := h14.1 c83
      refine q_iload 88 k_L_isCourse_88 rfl ?_
      refine q_if_lt 90 109 k_L_isCourse_90 rfl rfl (fun c90 => ?_) (fun c90 => ?_)
      · have h14tt := h14t.1 c90
        refine q_iload 109 k_L_isCourse_109 rfl ?_
        refine q_if_le 111 128 k_L_isCourse_111 rfl rfl (fun c111 => ?_) (fun c111 => ?_)
        · have h14ttt := h14tt.1 c111
          exact h14ttt
        · have h14ttf := h14tt.2 c111
          refine q_aload_n 114 k_L_isCourse_114 rfl ?_
          refine q_iload_n 115 k_L_isCourse_115 rfl ?_
          refine q_iload 116 k_L_isCourse_116 rfl ?_
          refine q_iconst 118 k_L_isCourse_118 ?_
          refine q_isub 119 k_L_isCourse_119 ?_
          refine q_vI 120 [vI x1, vI (x9 - 1)] [] k_L_isCourse_120 lk_4_120 rfl rfl rfl rfl rfl rfl rfl rfl (CallI.mono (fun y6 M5 h15 => ?_) h14ttf)
          refine q_if_eq 123 128 k_L_isCourse_123 rfl rfl (fun c123 => ?_) (fun c123 => ?_)
          · have h15t := h15.1 c123
            exact h15t
          · have h15f := h15.2 c123
            refine q_iconst 126 k_L_isCourse_126 ?_
            exact q_zret 127 k_L_isCourse_127 rfl (Or.inl rfl) h15f
      · have h14tf := h14t.2 c90
        refine q_iload 93 k_L_isCourse_93 rfl ?_
        refine q_iconst 95 k_L_isCourse_95 ?_
        refine q_icmp_ne 96 109 k_L_isCourse_96 rfl rfl (fun c96 => ?_) (fun c96 => ?_)
        · have h14tft := h14tf.1 c96
          refine q_iload 109 k_L_isCourse_109 rfl ?_
          refine q_if_le 111 128 k_L_isCourse_111 rfl rfl (fun c111 => ?_) (fun c111 => ?_)
          · have h14tftt := h14tft.1 c111
            exact h14tftt
          · have h14tftf := h14tft.2 c111
            refine q_aload_n 114 k_L_isCourse_114 rfl ?_
            refine q_iload_n 115 k_L_isCourse_115 rfl ?_
            refine q_iload 116 k_L_isCourse_116 rfl ?_
            refine q_iconst 118 k_L_isCourse_118 ?_
            refine q_isub 119 k_L_isCourse_119 ?_
            refine q_vI 120 [vI x1, vI (x9 - 1)] [] k_L_isCourse_120 lk_4_120 rfl rfl rfl rfl rfl rfl rfl rfl (CallI.mono (fun y8 M7 h16 => ?_) h14tftf)
            refine q_if_eq 123 128 k_L_isCourse_123 rfl rfl (fun c123 => ?_) (fun c123 => ?_)
            · have h16t := h16.1 c123
              exact h16t
            · have h16f := h16.2 c123
              refine q_iconst 126 k_L_isCourse_126 ?_
              exact q_zret 127 k_L_isCourse_127 rfl (Or.inl rfl) h16f
        · have h14tff := h14tf.2 c96
          refine q_aload_n 99 k_L_isCourse_99 rfl ?_
          refine q_iload_n 100 k_L_isCourse_100 rfl ?_
          refine q_iload 101 k_L_isCourse_101 rfl ?_
          refine q_vI 103 [vI x1, vI x9] [] k_L_isCourse_103 lk_4_120 rfl rfl rfl rfl rfl rfl rfl rfl (CallI.mono (fun y10 M9 h17 => ?_) h14tff)
          refine q_if_ne 106 126 k_L_isCourse_106 rfl rfl (fun c106 => ?_) (fun c106 => ?_)
          · have h17t := h17.1 c106
            refine q_iconst 126 k_L_isCourse_126 ?_
            exact q_zret 127 k_L_isCourse_127 rfl (Or.inl rfl) h17t
          · have h17f := h17.2 c106
            refine q_iload 109 k_L_isCourse_109 rfl ?_
            refine q_if_le 111 128 k_L_isCourse_111 rfl rfl (fun c111 => ?_) (fun c111 => ?_)
            · have h17ft := h17f.1 c111
              exact h17ft
            · have h17ff := h17f.2 c111
              refine q_aload_n 114 k_L_isCourse_114 rfl ?_
              refine q_iload_n 115 k_L_isCourse_115 rfl ?_
              refine q_iload 116 k_L_isCourse_116 rfl ?_
              refine q_iconst 118 k_L_isCourse_118 ?_
              refine q_isub 119 k_L_isCourse_119 ?_
              refine q_vI 120 [vI x1, vI (x9 - 1)] [] k_L_isCourse_120 lk_4_120 rfl rfl rfl rfl rfl rfl rfl rfl (CallI.mono (fun y12 M11 h18 => ?_) h17ff)
              refine q_if_eq 123 128 k_L_isCourse_123 rfl rfl (fun c123 => ?_) (fun c123 => ?_)
              · have h18t := h18.1 c123
                exact h18t
              · have h18f := h18.2 c123
                refine q_iconst 126 k_L_isCourse_126 ?_
                exact q_zret 127 k_L_isCourse_127 rfl (Or.inl rfl) h18f
    · have h14f := h14.2 c83
      refine q_iconst 86 k_L_isCourse_86 ?_
      exact q_zret 87 k_L_isCourse_87 rfl (Or.inl rfl) h14f
set_option maxHeartbeats 4000000 in
set_option maxRecDepth 100000 in
theorem T_L_isCourse_128 {d : Nat} {x1 : Int} {x2 : Int} {x3 : Int} {x4 : Int} {x5 : Int} {x7 : Int} {x8 : Int} {x9 : Int} {x10 : Int} {M : AMem} {Q : Option AV → AMem → Prop}  (h : ((wI x9 < 0) → RunQ (d + 1) m_L_isCourse 166 [some (vR 3 0), some (vI x1), some (vI x2), some (vI x3), some (vI x4), some (vL x5), none, some (vI x7), some (vI x8), some (vI x9), some (vI x10), none, none] [] M Q) ∧ (¬ (wI x9 < 0) → ((wI x10 = 0) → RunQ (d + 1) m_L_isCourse 166 [some (vR 3 0), some (vI x1), some (vI x2), some (vI x3), some (vI x4), some (vL x5), none, some (vI x7), some (vI x8), some (vI x9), some (vI x10), none, none] [] M Q) ∧ (¬ (wI x10 = 0) → CallI d m_H_upTo [vR 3 0, vI x1, vI x9] M (fun y2 M1 => ((wI y2 < wI x7) → Q (some (vI 0)) M1) ∧ (¬ (wI y2 < wI x7) → CallI d m_H_nth [vR 3 0, vI x1, vI (x7 - 1)] M1 (fun y4 M3 => ((wI y4 = wI x9) → RunQ (d + 1) m_L_isCourse 166 [some (vR 3 0), some (vI x1), some (vI x2), some (vI x3), some (vI x4), some (vL x5), none, some (vI x7), some (vI x8), some (vI x9), some (vI x10), none, none] [] M3 Q) ∧ (¬ (wI y4 = wI x9) → Q (some (vI 0)) M3))))))) : RunQ (d + 1) m_L_isCourse 128 [some (vR 3 0), some (vI x1), some (vI x2), some (vI x3), some (vI x4), some (vL x5), none, some (vI x7), some (vI x8), some (vI x9), some (vI x10), none, none] [] M Q := by
  refine q_iload 128 k_L_isCourse_128 rfl ?_
  refine q_if_lt 130 166 k_L_isCourse_130 rfl rfl (fun c130 => ?_) (fun c130 => ?_)
  · have ht := h.1 c130
    exact ht
  · have hf := h.2 c130
    refine q_iload 133 k_L_isCourse_133 rfl ?_
    refine q_if_eq 135 166 k_L_isCourse_135 rfl rfl (fun c135 => ?_) (fun c135 => ?_)
    · have hft := hf.1 c135
      exact hft
    · have hff := hf.2 c135
      refine q_aload_n 138 k_L_isCourse_138 rfl ?_
      refine q_iload_n 139 k_L_isCourse_139 rfl ?_
      refine q_iload 140 k_L_isCourse_140 rfl ?_
      refine q_vI 142 [vI x1, vI x9] [] k_L_isCourse_142 lk_4_123 rfl rfl rfl rfl rfl rfl rfl rfl (CallI.mono (fun y2 M1 h5 => ?_) hff)
      refine q_iload 145 k_L_isCourse_145 rfl ?_
      refine q_icmp_lt 147 164 k_L_isCourse_147 rfl rfl (fun c147 => ?_) (fun c147 => ?_)
      · have h5t := h5.1 c147
        refine q_iconst 164 k_L_isCourse_164 ?_
        exact q_zret 165 k_L_isCourse_165 rfl (Or.inl rfl) h5t
      · have h5f := h5.2 c147
        refine q_aload_n 150 k_L_isCourse_150 rfl ?_
        refine q_iload_n 151 k_L_isCourse_151 rfl ?_
        refine q_iload 152 k_L_isCourse_152 rfl ?_
        refine q_iconst 154 k_L_isCourse_154 ?_
        refine q_isub 155 k_L_isCourse_155 ?_
        refine q_vI 156 [vI x1, vI (x7 - 1)] [] k_L_isCourse_156 lk_4_126 rfl rfl rfl rfl rfl rfl rfl rfl (CallI.mono (fun y4 M3 h6 => ?_) h5f)
        refine q_iload 159 k_L_isCourse_159 rfl ?_
        refine q_icmp_eq 161 166 k_L_isCourse_161 rfl rfl (fun c161 => ?_) (fun c161 => ?_)
        · have h6t := h6.1 c161
          exact h6t
        · have h6f := h6.2 c161
          refine q_iconst 164 k_L_isCourse_164 ?_
          exact q_zret 165 k_L_isCourse_165 rfl (Or.inl rfl) h6f
set_option maxHeartbeats 4000000 in
set_option maxRecDepth 100000 in
theorem T_L_isCourse_166 {d : Nat} {x1 : Int} {x2 : Int} {x3 : Int} {x4 : Int} {x5 : Int} {x7 : Int} {x8 : Int} {x9 : Int} {x10 : Int} {M : AMem} {Q : Option AV → AMem → Prop}  (h : ((wI x9 ≤ 0) → RunQ (d + 1) m_L_isCourse 192 [some (vR 3 0), some (vI x1), some (vI x2), some (vI x3), some (vI x4), some (vL x5), none, some (vI x7), some (vI x8), some (vI x9), some (vI x10), none, none] [] M Q) ∧ (¬ (wI x9 ≤ 0) → ((wI x10 = 0) → RunQ (d + 1) m_L_isCourse 192 [some (vR 3 0), some (vI x1), some (vI x2), some (vI x3), some (vI x4), some (vL x5), none, some (vI x7), some (vI x8), some (vI x9), some (vI x10), none, none] [] M Q) ∧ (¬ (wI x10 = 0) → CallI d m_H_upTo [vR 3 0, vI x1, vI (x9 - 1)] M (fun y2 M1 => ((wI y2 < wI x7) → RunQ (d + 1) m_L_isCourse 192 [some (vR 3 0), some (vI x1), some (vI x2), some (vI x3), some (vI x4), some (vL x5), none, some (vI x7), some (vI x8), some (vI x9), some (vI x10), none, none] [] M1 Q) ∧ (¬ (wI y2 < wI x7) → Q (some (vI 0)) M1))))) : RunQ (d + 1) m_L_isCourse 166 [some (vR 3 0), some (vI x1), some (vI x2), some (vI x3), some (vI x4), some (vL x5), none, some (vI x7), some (vI x8), some (vI x9), some (vI x10), none, none] [] M Q := by
  refine q_iload 166 k_L_isCourse_166 rfl ?_
  refine q_if_le 168 192 k_L_isCourse_168 rfl rfl (fun c168 => ?_) (fun c168 => ?_)
  · have ht := h.1 c168
    exact ht
  · have hf := h.2 c168
    refine q_iload 171 k_L_isCourse_171 rfl ?_
    refine q_if_eq 173 192 k_L_isCourse_173 rfl rfl (fun c173 => ?_) (fun c173 => ?_)
    · have hft := hf.1 c173
      exact hft
    · have hff := hf.2 c173
      refine q_aload_n 176 k_L_isCourse_176 rfl ?_
      refine q_iload_n 177 k_L_isCourse_177 rfl ?_
      refine q_iload 178 k_L_isCourse_178 rfl ?_
      refine q_iconst 180 k_L_isCourse_180 ?_
      refine q_isub 181 k_L_isCourse_181 ?_
      refine q_vI 182 [vI x1, vI (x9 - 1)] [] k_L_isCourse_182 lk_4_123 rfl rfl rfl rfl rfl rfl rfl rfl (CallI.mono (fun y2 M1 h3 => ?_) hff)
      refine q_iload 185 k_L_isCourse_185 rfl ?_
      refine q_icmp_lt 187 192 k_L_isCourse_187 rfl rfl (fun c187 => ?_) (fun c187 => ?_)
      · have h3t := h3.1 c187
        exact h3t
      · have h3f := h3.2 c187
        refine q_iconst 190 k_L_isCourse_190 ?_
        exact q_zret 191 k_L_isCourse_191 rfl (Or.inl rfl) h3f
set_option maxHeartbeats 4000000 in
set_option maxRecDepth 100000 in
theorem T_L_isCourse_192 {d : Nat} {x1 : Int} {x2 : Int} {x3 : Int} {x4 : Int} {x5 : Int} {x7 : Int} {x8 : Int} {x9 : Int} {x10 : Int} {M : AMem} {Q : Option AV → AMem → Prop}  (h : CallI d m_H_peek [vR 3 0, vI x1] M (fun y2 M1 => CallI d m_H_ofWell [vR 3 0, vI x1, vI 7] M1 (fun y4 M3 => ((¬ wI y2 = (-9)) → ((¬ wI y4 = 1) → ((wI y2 < 0) → RunQ (d + 1) m_L_isCourse 270 [some (vR 3 0), some (vI x1), some (vI x2), some (vI x3), some (vI x4), some (vL x5), none, some (vI x7), some (vI x8), some (vI x9), some (vI x10), some (vI y2), none] [] M3 Q) ∧ (¬ (wI y2 < 0) → ((5 ≤ wI x4) → RunQ (d + 1) m_L_isCourse 270 [some (vR 3 0), some (vI x1), some (vI x2), some (vI x3), some (vI x4), some (vL x5), none, some (vI x7), some (vI x8), some (vI x9), some (vI x10), some (vI y2), none] [] M3 Q) ∧ (¬ (5 ≤ wI x4) → CallI d m_H_waits [vR 3 0, vI x1, vI y2] M3 (fun y6 M5 => ((wI y6 = 0) → Q (some (vI 0)) M5) ∧ (¬ (wI y6 = 0) → ((wI y2 ≤ 0) → ((wI x9 ≤ wI y2) → RunQ (d + 1) m_L_isCourse 270 [some (vR 3 0), some (vI x1), some (vI x2), some (vI x3), some (vI x4), some (vL x5), none, some (vI x7), some (vI x8), some (vI x9), some (vI x10), some (vI y2), none] [] M5 Q) ∧ (¬ (wI x9 ≤ wI y2) → Q (some (vI 0)) M5)) ∧ (¬ (wI y2 ≤ 0) → CallI d m_H_waits [vR 3 0, vI x1, vI (y2 - 1)] M5 (fun y8 M7 => ((¬ wI y8 = 0) → Q (some (vI 0)) M7) ∧ (¬ (¬ wI y8 = 0) → ((wI x9 ≤ wI y2) → RunQ (d + 1) m_L_isCourse 270 [some (vR 3 0), some (vI x1), some (vI x2), some (vI x3), some (vI x4), some (vL x5), none, some (vI x7), some (vI x8), some (vI x9), some (vI x10), some (vI y2), none] [] M7 Q) ∧ (¬ (wI x9 ≤ wI y2) → Q (some (vI 0)) M7))))))))) ∧ (¬ (¬ wI y4 = 1) → Q (some (vI 0)) M3)) ∧ (¬ (¬ wI y2 = (-9)) → ((¬ wI y4 = 0) → ((wI y2 < 0) → RunQ (d + 1) m_L_isCourse 270 [some (vR 3 0), some (vI x1), some (vI x2), some (vI x3), some (vI x4), some (vL x5), none, some (vI x7), some (vI x8), some (vI x9), some (vI x10), some (vI y2), none] [] M3 Q) ∧ (¬ (wI y2 < 0) → ((5 ≤ wI x4) → RunQ (d + 1) m_L_isCourse 270 [some (vR 3 0), some (vI x1), some (vI x2), some (vI x3), some (vI x4), some (vL x5), none, some (vI x7), some (vI x8), some (vI x9), some (vI x10), some (vI y2), none] [] M3 Q) ∧ (¬ (5 ≤ wI x4) → CallI d m_H_waits [vR 3 0, vI x1, vI y2] M3 (fun y10 M9 => ((wI y10 = 0) → Q (some (vI 0)) M9) ∧ (¬ (wI y10 = 0) → ((wI y2 ≤ 0) → ((wI x9 ≤ wI y2) → RunQ (d + 1) m_L_isCourse 270 [some (vR 3 0), some (vI x1), some (vI x2), some (vI x3), some (vI x4), some (vL x5), none, some (vI x7), some (vI x8), some (vI x9), some (vI x10), some (vI y2), none] [] M9 Q) ∧ (¬ (wI x9 ≤ wI y2) → Q (some (vI 0)) M9)) ∧ (¬ (wI y2 ≤ 0) → CallI d m_H_waits [vR 3 0, vI x1, vI (y2 - 1)] M9 (fun y12 M11 => ((¬ wI y12 = 0) → Q (some (vI 0)) M11) ∧ (¬ (¬ wI y12 = 0) → ((wI x9 ≤ wI y2) → RunQ (d + 1) m_L_isCourse 270 [some (vR 3 0), some (vI x1), some (vI x2), some (vI x3), some (vI x4), some (vL x5), none, some (vI x7), some (vI x8), some (vI x9), some (vI x10), some (vI y2), none] [] M11 Q) ∧ (¬ (wI x9 ≤ wI y2) → Q (some (vI 0)) M11))))))))) ∧ (¬ (¬ wI y4 = 0) → Q (some (vI 0)) M3))))) : RunQ (d + 1) m_L_isCourse 192 [some (vR 3 0), some (vI x1), some (vI x2), some (vI x3), some (vI x4), some (vL x5), none, some (vI x7), some (vI x8), some (vI x9), some (vI x10), none, none] [] M Q := by
  refine q_aload_n 192 k_L_isCourse_192 rfl ?_
  refine q_iload_n 193 k_L_isCourse_193 rfl ?_
  refine q_vI 194 [vI x1] [] k_L_isCourse_194 lk_4_129 rfl rfl rfl rfl rfl rfl rfl rfl (CallI.mono (fun y2 M1 h13 => ?_) h)
  refine q_istore 197 k_L_isCourse_197 (ls' := [some (vR 3 0), some (vI x1), some (vI x2), some (vI x3), some (vI x4), some (vL x5), none, some (vI x7), some (vI x8), some (vI x9), some (vI x10), some (vI y2), none]) rfl rfl ?_
  refine q_aload_n 199 k_L_isCourse_199 rfl ?_
  refine q_iload_n 200 k_L_isCourse_200 rfl ?_
  refine q_bipush 201 k_L_isCourse_201 (by decide) ?_
  refine q_vI 203 [vI x1, vI 7] [] k_L_isCourse_203 lk_4_112 rfl rfl rfl rfl rfl rfl rfl rfl (CallI.mono (fun y4 M3 h14 => ?_) h13)
  refine q_iload 206 k_L_isCourse_206 rfl ?_
  refine q_bipush 208 k_L_isCourse_208 (by decide) ?_
  refine q_icmp_ne 210 217 k_L_isCourse_210 rfl rfl (fun c210 => ?_) (fun c210 => ?_)
  · have h14t := h14.1 c210
    refine q_iconst 217 k_L_isCourse_217 ?_
    refine q_icmp_ne 218 223 k_L_isCourse_218 rfl rfl (fun c218 => ?_) (fun c218 => ?_)
    · have h14tt := h14t.1 c218
      refine q_iload 223 k_L_isCourse_223 rfl ?_
      refine q_if_lt 225 270 k_L_isCourse_225 rfl rfl (fun c225 => ?_) (fun c225 => ?_)
      · have h14ttt := h14tt.1 c225
        exact h14ttt
      · have h14ttf := h14tt.2 c225
        refine q_iload 228 k_L_isCourse_228 rfl ?_
        refine q_iconst 230 k_L_isCourse_230 ?_
        refine q_icmp_ge 231 270 k_L_isCourse_231 rfl rfl (fun c231 => ?_) (fun c231 => ?_)
        · have h14ttft := h14ttf.1 c231
          exact h14ttft
        · have h14ttff := h14ttf.2 c231
          refine q_aload_n 234 k_L_isCourse_234 rfl ?_
          refine q_iload_n 235 k_L_isCourse_235 rfl ?_
          refine q_iload 236 k_L_isCourse_236 rfl ?_
          refine q_vI 238 [vI x1, vI y2] [] k_L_isCourse_238 lk_4_120 rfl rfl rfl rfl rfl rfl rfl rfl (CallI.mono (fun y6 M5 h15 => ?_) h14ttff)
          refine q_if_eq 241 268 k_L_isCourse_241 rfl rfl (fun c241 => ?_) (fun c241 => ?_)
          · have h15t := h15.1 c241
            refine q_iconst 268 k_L_isCourse_268 ?_
            exact q_zret 269 k_L_isCourse_269 rfl (Or.inl rfl) h15t
          · have h15f := h15.2 c241
            refine q_iload 244 k_L_isCourse_244 rfl ?_
            refine q_if_le 246 261 k_L_isCourse_246 rfl rfl (fun c246 => ?_) (fun c246 => ?_)
            · have h15ft := h15f.1 c246
              refine q_iload 261 k_L_isCourse_261 rfl ?_
              refine q_iload 263 k_L_isCourse_263 rfl ?_
              refine q_icmp_ge 265 270 k_L_isCourse_265 rfl rfl (fun c265 => ?_) (fun c265 => ?_)
              · have h15ftt := h15ft.1 c265
                exact h15ftt
              · have h15ftf := h15ft.2 c265
                refine q_iconst 268 k_L_isCourse_268 ?_
                exact q_zret 269 k_L_isCourse_269 rfl (Or.inl rfl) h15ftf
            · have h15ff := h15f.2 c246
              refine q_aload_n 249 k_L_isCourse_249 rfl ?_
              refine q_iload_n 250 k_L_isCourse_250 rfl ?_
              refine q_iload 251 k_L_isCourse_251 rfl ?_
              refine q_iconst 253 k_L_isCourse_253 ?_
              refine q_isub 254 k_L_isCourse_254 ?_
              refine q_vI 255 [vI x1, vI (y2 - 1)] [] k_L_isCourse_255 lk_4_120 rfl rfl rfl rfl rfl rfl rfl rfl (CallI.mono (fun y8 M7 h16 => ?_) h15ff)
              refine q_if_ne 258 268 k_L_isCourse_258 rfl rfl (fun c258 => ?_) (fun c258 => ?_)
              · have h16t := h16.1 c258
                refine q_iconst 268 k_L_isCourse_268 ?_
                exact q_zret 269 k_L_isCourse_269 rfl (Or.inl rfl) h16t
              · have h16f := h16.2 c258
                refine q_iload 261 k_L_isCourse_261 rfl ?_
                refine q_iload 263 k_L_isCourse_263 rfl ?_
                refine q_icmp_ge 265 270 k_L_isCourse_265 rfl rfl (fun c265 => ?_) (fun c265 => ?_)
                · have h16ft := h16f.1 c265
                  exact h16ft
                · have h16ff := h16f.2 c265
                  refine q_iconst 268 k_L_isCourse_268 ?_
                  exact q_zret 269 k_L_isCourse_269 rfl (Or.inl rfl) h16ff
    · have h14tf := h14t.2 c218
      refine q_iconst 221 k_L_isCourse_221 ?_
      exact q_zret 222 k_L_isCourse_222 rfl (Or.inl rfl) h14tf
  · have h14f := h14.2 c210
    refine q_iconst 213 k_L_isCourse_213 ?_
    refine q_goto 214 218 k_L_isCourse_214 rfl rfl ?_
    refine q_icmp_ne 218 223 k_L_isCourse_218 rfl rfl (fun c218 => ?_) (fun c218 => ?_)
    · have h14ft := h14f.1 c218
      refine q_iload 223 k_L_isCourse_223 rfl ?_
      refine q_if_lt 225 270 k_L_isCourse_225 rfl rfl (fun c225 => ?_) (fun c225 => ?_)
      · have h14ftt := h14ft.1 c225
        exact h14ftt
      · have h14ftf := h14ft.2 c225
        refine q_iload 228 k_L_isCourse_228 rfl ?_
        refine q_iconst 230 k_L_isCourse_230 ?_
        refine q_icmp_ge 231 270 k_L_isCourse_231 rfl rfl (fun c231 => ?_) (fun c231 => ?_)
        · have h14ftft := h14ftf.1 c231
          exact h14ftft
        · have h14ftff := h14ftf.2 c231
          refine q_aload_n 234 k_L_isCourse_234 rfl ?_
          refine q_iload_n 235 k_L_isCourse_235 rfl ?_
          refine q_iload 236 k_L_isCourse_236 rfl ?_
          refine q_vI 238 [vI x1, vI y2] [] k_L_isCourse_238 lk_4_120 rfl rfl rfl rfl rfl rfl rfl rfl (CallI.mono (fun y10 M9 h17 => ?_) h14ftff)
          refine q_if_eq 241 268 k_L_isCourse_241 rfl rfl (fun c241 => ?_) (fun c241 => ?_)
          · have h17t := h17.1 c241
            refine q_iconst 268 k_L_isCourse_268 ?_
            exact q_zret 269 k_L_isCourse_269 rfl (Or.inl rfl) h17t
          · have h17f := h17.2 c241
            refine q_iload 244 k_L_isCourse_244 rfl ?_
            refine q_if_le 246 261 k_L_isCourse_246 rfl rfl (fun c246 => ?_) (fun c246 => ?_)
            · have h17ft := h17f.1 c246
              refine q_iload 261 k_L_isCourse_261 rfl ?_
              refine q_iload 263 k_L_isCourse_263 rfl ?_
              refine q_icmp_ge 265 270 k_L_isCourse_265 rfl rfl (fun c265 => ?_) (fun c265 => ?_)
              · have h17ftt := h17ft.1 c265
                exact h17ftt
              · have h17ftf := h17ft.2 c265
                refine q_iconst 268 k_L_isCourse_268 ?_
                exact q_zret 269 k_L_isCourse_269 rfl (Or.inl rfl) h17ftf
            · have h17ff := h17f.2 c246
              refine q_aload_n 249 k_L_isCourse_249 rfl ?_
              refine q_iload_n 250 k_L_isCourse_250 rfl ?_
              refine q_iload 251 k_L_isCourse_251 rfl ?_
              refine q_iconst 253 k_L_isCourse_253 ?_
              refine q_isub 254 k_L_isCourse_254 ?_
              refine q_vI 255 [vI x1, vI (y2 - 1)] [] k_L_isCourse_255 lk_4_120 rfl rfl rfl rfl rfl rfl rfl rfl (CallI.mono (fun y12 M11 h18 => ?_) h17ff)
              refine q_if_ne 258 268 k_L_isCourse_258 rfl rfl (fun c258 => ?_) (fun c258 => ?_)
              · have h18t := h18.1 c258
                refine q_iconst 268 k_L_isCourse_268 ?_
                exact q_zret 269 k_L_isCourse_269 rfl (Or.inl rfl) h18t
              · have h18f := h18.2 c258
                refine q_iload 261 k_L_isCourse_261 rfl ?_
                refine q_iload 263 k_L_isCourse_263 rfl ?_
                refine q_icmp_ge 265 270 k_L_isCourse_265 rfl rfl (fun c265 => ?_) (fun c265 => ?_)
                · have h18ft := h18f.1 c265
                  exact h18ft
                · have h18ff := h18f.2 c265
                  refine q_iconst 268 k_L_isCourse_268 ?_
                  exact q_zret 269 k_L_isCourse_269 rfl (Or.inl rfl) h18ff
    · have h14ff := h14f.2 c218
      refine q_iconst 221 k_L_isCourse_221 ?_
      exact q_zret 222 k_L_isCourse_222 rfl (Or.inl rfl) h14ff
set_option maxHeartbeats 4000000 in
set_option maxRecDepth 100000 in
theorem T_L_isCourse_270 {d : Nat} {x1 : Int} {x2 : Int} {x3 : Int} {x4 : Int} {x5 : Int} {x7 : Int} {x8 : Int} {x9 : Int} {x10 : Int} {x11 : Int} {M : AMem} {Q : Option AV → AMem → Prop}  (h : ((wI x11 < 0) → RunQ (d + 1) m_L_isCourse 290 [some (vR 3 0), some (vI x1), some (vI x2), some (vI x3), some (vI x4), some (vL x5), none, some (vI x7), some (vI x8), some (vI x9), some (vI x10), some (vI x11), none] [] M Q) ∧ (¬ (wI x11 < 0) → ((¬ wI x4 = 5) → RunQ (d + 1) m_L_isCourse 290 [some (vR 3 0), some (vI x1), some (vI x2), some (vI x3), some (vI x4), some (vL x5), none, some (vI x7), some (vI x8), some (vI x9), some (vI x10), some (vI x11), none] [] M Q) ∧ (¬ (¬ wI x4 = 5) → ((wI x9 < wI x11) → RunQ (d + 1) m_L_isCourse 290 [some (vR 3 0), some (vI x1), some (vI x2), some (vI x3), some (vI x4), some (vL x5), none, some (vI x7), some (vI x8), some (vI x9), some (vI x10), some (vI x11), none] [] M Q) ∧ (¬ (wI x9 < wI x11) → Q (some (vI 0)) M)))) : RunQ (d + 1) m_L_isCourse 270 [some (vR 3 0), some (vI x1), some (vI x2), some (vI x3), some (vI x4), some (vL x5), none, some (vI x7), some (vI x8), some (vI x9), some (vI x10), some (vI x11), none] [] M Q := by
  refine q_iload 270 k_L_isCourse_270 rfl ?_
  refine q_if_lt 272 290 k_L_isCourse_272 rfl rfl (fun c272 => ?_) (fun c272 => ?_)
  · have ht := h.1 c272
    exact ht
  · have hf := h.2 c272
    refine q_iload 275 k_L_isCourse_275 rfl ?_
    refine q_iconst 277 k_L_isCourse_277 ?_
    refine q_icmp_ne 278 290 k_L_isCourse_278 rfl rfl (fun c278 => ?_) (fun c278 => ?_)
    · have hft := hf.1 c278
      exact hft
    · have hff := hf.2 c278
      refine q_iload 281 k_L_isCourse_281 rfl ?_
      refine q_iload 283 k_L_isCourse_283 rfl ?_
      refine q_icmp_gt 285 290 k_L_isCourse_285 rfl rfl (fun c285 => ?_) (fun c285 => ?_)
      · have hfft := hff.1 c285
        exact hfft
      · have hfff := hff.2 c285
        refine q_iconst 288 k_L_isCourse_288 ?_
        exact q_zret 289 k_L_isCourse_289 rfl (Or.inl rfl) hfff
set_option maxHeartbeats 4000000 in
set_option maxRecDepth 100000 in
theorem T_L_isCourse_290 {d : Nat} {x1 : Int} {x2 : Int} {x3 : Int} {x4 : Int} {x5 : Int} {x7 : Int} {x8 : Int} {x9 : Int} {x10 : Int} {x11 : Int} {M : AMem} {Q : Option AV → AMem → Prop}  (h : ((wI x11 < 0) → RunQ (d + 1) m_L_isCourse 346 [some (vR 3 0), some (vI x1), some (vI x2), some (vI x3), some (vI x4), some (vL x5), none, some (vI x7), some (vI x8), some (vI x9), some (vI x10), some (vI x11), none] [] M Q) ∧ (¬ (wI x11 < 0) → ((¬ wI x4 = 5) → RunQ (d + 1) m_L_isCourse 346 [some (vR 3 0), some (vI x1), some (vI x2), some (vI x3), some (vI x4), some (vL x5), none, some (vI x7), some (vI x8), some (vI x9), some (vI x10), some (vI x11), none] [] M Q) ∧ (¬ (¬ wI x4 = 5) → RunQ (d + 1) m_L_isCourse 311 [some (vR 3 0), some (vI x1), some (vI x2), some (vI x3), some (vI x4), some (vL x5), none, some (vI x7), some (vI x8), some (vI x9), some (vI x10), some (vI x11), some (vI ((if 1 < wI x9 then x9 else 1) + 1))] [] M Q))) : RunQ (d + 1) m_L_isCourse 290 [some (vR 3 0), some (vI x1), some (vI x2), some (vI x3), some (vI x4), some (vL x5), none, some (vI x7), some (vI x8), some (vI x9), some (vI x10), some (vI x11), none] [] M Q := by
  refine q_iload 290 k_L_isCourse_290 rfl ?_
  refine q_if_lt 292 346 k_L_isCourse_292 rfl rfl (fun c292 => ?_) (fun c292 => ?_)
  · have ht := h.1 c292
    exact ht
  · have hf := h.2 c292
    refine q_iload 295 k_L_isCourse_295 rfl ?_
    refine q_iconst 297 k_L_isCourse_297 ?_
    refine q_icmp_ne 298 346 k_L_isCourse_298 rfl rfl (fun c298 => ?_) (fun c298 => ?_)
    · have hft := hf.1 c298
      exact hft
    · have hff := hf.2 c298
      refine q_iconst 301 k_L_isCourse_301 ?_
      refine q_iload 302 k_L_isCourse_302 rfl ?_
      refine q_max 304 k_L_isCourse_304 rfl rfl ?_
      refine q_iconst 307 k_L_isCourse_307 ?_
      refine q_iadd 308 k_L_isCourse_308 ?_
      refine q_istore 309 k_L_isCourse_309 (ls' := [some (vR 3 0), some (vI x1), some (vI x2), some (vI x3), some (vI x4), some (vL x5), none, some (vI x7), some (vI x8), some (vI x9), some (vI x10), some (vI x11), some (vI ((if 1 < wI x9 then x9 else 1) + 1))]) rfl rfl ?_
      exact hff
set_option maxHeartbeats 4000000 in
set_option maxRecDepth 100000 in
theorem T_L_isCourse_346 {d : Nat} {x1 : Int} {x2 : Int} {x3 : Int} {x4 : Int} {x5 : Int} {x7 : Int} {x8 : Int} {x9 : Int} {x10 : Int} {x11 : Int} {u12 : Option AV} {M : AMem} {Q : Option AV → AMem → Prop}  (h : CallI d m_L_below [vI x2, vI 3] M (fun y2 M1 => ((¬ wI y2 = 0) → ((¬ wI x4 = 5) → CallI d m_L_below [vI (opShr x2 3), vI 2] M1 (fun y4 M3 => ((¬ wI y4 = 0) → CallI d m_L_below [vI x3, vI 1000] M3 (fun y6 M5 => RunQ (d + 1) m_L_isCourse 399 [some (vR 3 0), some (vI x1), some (vI x2), some (vI x3), some (vI x4), some (vL x5), none, some (vI x7), some (vI x8), some (vI x9), some (vI x10), some (vI x11), u12] [vI (1 + y6)] M5 Q)) ∧ (¬ (¬ wI y4 = 0) → CallI d m_L_below [vI x3, vI 1000000] M3 (fun y8 M7 => RunQ (d + 1) m_L_isCourse 399 [some (vR 3 0), some (vI x1), some (vI x2), some (vI x3), some (vI x4), some (vL x5), none, some (vI x7), some (vI x8), some (vI x9), some (vI x10), some (vI x11), u12] [vI (1 + y8)] M7 Q)))) ∧ (¬ (¬ wI x4 = 5) → CallI d m_L_below [vI x3, vI 600] M1 (fun y10 M9 => RunQ (d + 1) m_L_isCourse 399 [some (vR 3 0), some (vI x1), some (vI x2), some (vI x3), some (vI x4), some (vL x5), none, some (vI x7), some (vI x8), some (vI x9), some (vI x10), some (vI x11), u12] [vI (1 + y10)] M9 Q))) ∧ (¬ (¬ wI y2 = 0) → RunQ (d + 1) m_L_isCourse 399 [some (vR 3 0), some (vI x1), some (vI x2), some (vI x3), some (vI x4), some (vL x5), none, some (vI x7), some (vI x8), some (vI x9), some (vI x10), some (vI x11), u12] [vI (if 1 < wI x11 then x11 else 1)] M1 Q))) : RunQ (d + 1) m_L_isCourse 346 [some (vR 3 0), some (vI x1), some (vI x2), some (vI x3), some (vI x4), some (vL x5), none, some (vI x7), some (vI x8), some (vI x9), some (vI x10), some (vI x11), u12] [] M Q := by
  refine q_iload_n 346 k_L_isCourse_346 rfl ?_
  refine q_iconst 347 k_L_isCourse_347 ?_
  refine q_sI 348 [vI x2, vI 3] [] k_L_isCourse_348 rfl lk_4_23 rfl rfl rfl rfl rfl rfl (CallI.mono (fun y2 M1 h11 => ?_) h)
  refine q_if_ne 351 363 k_L_isCourse_351 rfl rfl (fun c351 => ?_) (fun c351 => ?_)
  · have h11t := h11.1 c351
    refine q_iconst 363 k_L_isCourse_363 ?_
    refine q_iload_n 364 k_L_isCourse_364 rfl ?_
    refine q_iload 365 k_L_isCourse_365 rfl ?_
    refine q_iconst 367 k_L_isCourse_367 ?_
    refine q_icmp_ne 368 377 k_L_isCourse_368 rfl rfl (fun c368 => ?_) (fun c368 => ?_)
    · have h11tt := h11t.1 c368
      refine q_iload_n 377 k_L_isCourse_377 rfl ?_
      refine q_iconst 378 k_L_isCourse_378 ?_
      refine q_ishr 379 k_L_isCourse_379 ?_
      refine q_iconst 380 k_L_isCourse_380 ?_
      refine q_sI 381 [vI (opShr x2 3), vI 2] [vI x3, vI 1] k_L_isCourse_381 rfl lk_4_23 rfl rfl rfl rfl rfl rfl (CallI.mono (fun y4 M3 h12 => ?_) h11tt)
      refine q_if_ne 384 392 k_L_isCourse_384 rfl rfl (fun c384 => ?_) (fun c384 => ?_)
      · have h12t := h12.1 c384
        refine q_sipush 392 k_L_isCourse_392 (by decide) ?_
        refine q_sI 395 [vI x3, vI 1000] [vI 1] k_L_isCourse_395 rfl lk_4_23 rfl rfl rfl rfl rfl rfl (CallI.mono (fun y6 M5 h13 => ?_) h12t)
        refine q_iadd 398 k_L_isCourse_398 ?_
        exact h13
      · have h12f := h12.2 c384
        refine q_ldc 387 k_L_isCourse_387 ck_4_119 ?_
        refine q_goto 389 395 k_L_isCourse_389 rfl rfl ?_
        refine q_sI 395 [vI x3, vI 1000000] [vI 1] k_L_isCourse_395 rfl lk_4_23 rfl rfl rfl rfl rfl rfl (CallI.mono (fun y8 M7 h14 => ?_) h12f)
        refine q_iadd 398 k_L_isCourse_398 ?_
        exact h14
    · have h11tf := h11t.2 c368
      refine q_sipush 371 k_L_isCourse_371 (by decide) ?_
      refine q_goto 374 395 k_L_isCourse_374 rfl rfl ?_
      refine q_sI 395 [vI x3, vI 600] [vI 1] k_L_isCourse_395 rfl lk_4_23 rfl rfl rfl rfl rfl rfl (CallI.mono (fun y10 M9 h15 => ?_) h11tf)
      refine q_iadd 398 k_L_isCourse_398 ?_
      exact h15
  · have h11f := h11.2 c351
    refine q_iconst 354 k_L_isCourse_354 ?_
    refine q_iload 355 k_L_isCourse_355 rfl ?_
    refine q_max 357 k_L_isCourse_357 rfl rfl ?_
    refine q_goto 360 399 k_L_isCourse_360 rfl rfl ?_
    exact h11f
set_option maxHeartbeats 4000000 in
set_option maxRecDepth 100000 in
theorem T_L_isCourse_311 {d : Nat} {x1 : Int} {x2 : Int} {x3 : Int} {x4 : Int} {x5 : Int} {x7 : Int} {x8 : Int} {x9 : Int} {x10 : Int} {x11 : Int} {x12 : Int} {M : AMem} {Q : Option AV → AMem → Prop}  (h : ((wI x11 < wI x12) → RunQ (d + 1) m_L_isCourse 346 [some (vR 3 0), some (vI x1), some (vI x2), some (vI x3), some (vI x4), some (vL x5), none, some (vI x7), some (vI x8), some (vI x9), some (vI x10), some (vI x11), some (vI x12)] [] M Q) ∧ (¬ (wI x11 < wI x12) → CallI d m_L_isPrime [vI x12] M (fun y2 M1 => ((¬ wI x12 = wI x11) → ((wI y2 = 0) → RunQ (d + 1) m_L_isCourse 311 [some (vR 3 0), some (vI x1), some (vI x2), some (vI x3), some (vI x4), some (vL x5), none, some (vI x7), some (vI x8), some (vI x9), some (vI x10), some (vI x11), some (vI (x12 + 1))] [] M1 Q) ∧ (¬ (wI y2 = 0) → Q (some (vI 0)) M1)) ∧ (¬ (¬ wI x12 = wI x11) → ((wI y2 = 1) → RunQ (d + 1) m_L_isCourse 311 [some (vR 3 0), some (vI x1), some (vI x2), some (vI x3), some (vI x4), some (vL x5), none, some (vI x7), some (vI x8), some (vI x9), some (vI x10), some (vI x11), some (vI (x12 + 1))] [] M1 Q) ∧ (¬ (wI y2 = 1) → Q (some (vI 0)) M1))))) : RunQ (d + 1) m_L_isCourse 311 [some (vR 3 0), some (vI x1), some (vI x2), some (vI x3), some (vI x4), some (vL x5), none, some (vI x7), some (vI x8), some (vI x9), some (vI x10), some (vI x11), some (vI x12)] [] M Q := by
  refine q_iload 311 k_L_isCourse_311 rfl ?_
  refine q_iload 313 k_L_isCourse_313 rfl ?_
  refine q_icmp_gt 315 346 k_L_isCourse_315 rfl rfl (fun c315 => ?_) (fun c315 => ?_)
  · have ht := h.1 c315
    exact ht
  · have hf := h.2 c315
    refine q_iload 318 k_L_isCourse_318 rfl ?_
    refine q_sI 320 [vI x12] [] k_L_isCourse_320 rfl lk_4_137 rfl rfl rfl rfl rfl rfl (CallI.mono (fun y2 M1 h3 => ?_) hf)
    refine q_iload 323 k_L_isCourse_323 rfl ?_
    refine q_iload 325 k_L_isCourse_325 rfl ?_
    refine q_icmp_ne 327 334 k_L_isCourse_327 rfl rfl (fun c327 => ?_) (fun c327 => ?_)
    · have h3t := h3.1 c327
      refine q_iconst 334 k_L_isCourse_334 ?_
      refine q_icmp_eq 335 340 k_L_isCourse_335 rfl rfl (fun c335 => ?_) (fun c335 => ?_)
      · have h3tt := h3t.1 c335
        refine q_iinc 340 k_L_isCourse_340 (ls' := [some (vR 3 0), some (vI x1), some (vI x2), some (vI x3), some (vI x4), some (vL x5), none, some (vI x7), some (vI x8), some (vI x9), some (vI x10), some (vI x11), some (vI (x12 + 1))]) rfl rfl rfl ?_
        refine q_goto 343 311 k_L_isCourse_343 rfl rfl ?_
        exact h3tt
      · have h3tf := h3t.2 c335
        refine q_iconst 338 k_L_isCourse_338 ?_
        exact q_zret 339 k_L_isCourse_339 rfl (Or.inl rfl) h3tf
    · have h3f := h3.2 c327
      refine q_iconst 330 k_L_isCourse_330 ?_
      refine q_goto 331 335 k_L_isCourse_331 rfl rfl ?_
      refine q_icmp_eq 335 340 k_L_isCourse_335 rfl rfl (fun c335 => ?_) (fun c335 => ?_)
      · have h3ft := h3f.1 c335
        refine q_iinc 340 k_L_isCourse_340 (ls' := [some (vR 3 0), some (vI x1), some (vI x2), some (vI x3), some (vI x4), some (vL x5), none, some (vI x7), some (vI x8), some (vI x9), some (vI x10), some (vI x11), some (vI (x12 + 1))]) rfl rfl rfl ?_
        refine q_goto 343 311 k_L_isCourse_343 rfl rfl ?_
        exact h3ft
      · have h3ff := h3f.2 c335
        refine q_iconst 338 k_L_isCourse_338 ?_
        exact q_zret 339 k_L_isCourse_339 rfl (Or.inl rfl) h3ff
set_option maxHeartbeats 4000000 in
set_option maxRecDepth 100000 in
theorem T_L_isCourse_399 {d : Nat} {x1 : Int} {x2 : Int} {x3 : Int} {x4 : Int} {x5 : Int} {x7 : Int} {x8 : Int} {x9 : Int} {x10 : Int} {x11 : Int} {u12 : Option AV} {s0 : Int} {M : AMem} {Q : Option AV → AMem → Prop}  (h : CallI d m_H_upTo [vR 3 0, vI x1, vI s0] M (fun y2 M1 => CallI d m_H_upTo [vR 3 0, vI x1, vI (s0 - 1)] M1 (fun y4 M3 => CallI d m_H_ways [vR 3 0, vI x1, vI s0] M3 (fun y6 M5 => ((¬ wI y2 = wI (y4 + y6)) → Q (some (vI 0)) M5) ∧ (¬ (¬ wI y2 = wI (y4 + y6)) → CallL d m_H_digest [vR 3 0] M5 (fun y8 M7 => ((¬ wI (opCmp y8 x5) = 0) → Q (some (vI 0)) M7) ∧ (¬ (¬ wI (opCmp y8 x5) = 0) → Q (some (vI 1)) M7))))))) : RunQ (d + 1) m_L_isCourse 399 [some (vR 3 0), some (vI x1), some (vI x2), some (vI x3), some (vI x4), some (vL x5), none, some (vI x7), some (vI x8), some (vI x9), some (vI x10), some (vI x11), u12] [vI s0] M Q := by
  refine q_istore 399 k_L_isCourse_399 (ls' := [some (vR 3 0), some (vI x1), some (vI x2), some (vI x3), some (vI x4), some (vL x5), none, some (vI x7), some (vI x8), some (vI x9), some (vI x10), some (vI x11), some (vI s0)]) rfl rfl ?_
  refine q_aload_n 401 k_L_isCourse_401 rfl ?_
  refine q_iload_n 402 k_L_isCourse_402 rfl ?_
  refine q_iload 403 k_L_isCourse_403 rfl ?_
  refine q_vI 405 [vI x1, vI s0] [] k_L_isCourse_405 lk_4_123 rfl rfl rfl rfl rfl rfl rfl rfl (CallI.mono (fun y2 M1 h9 => ?_) h)
  refine q_aload_n 408 k_L_isCourse_408 rfl ?_
  refine q_iload_n 409 k_L_isCourse_409 rfl ?_
  refine q_iload 410 k_L_isCourse_410 rfl ?_
  refine q_iconst 412 k_L_isCourse_412 ?_
  refine q_isub 413 k_L_isCourse_413 ?_
  refine q_vI 414 [vI x1, vI (s0 - 1)] [vI y2] k_L_isCourse_414 lk_4_123 rfl rfl rfl rfl rfl rfl rfl rfl (CallI.mono (fun y4 M3 h10 => ?_) h9)
  refine q_aload_n 417 k_L_isCourse_417 rfl ?_
  refine q_iload_n 418 k_L_isCourse_418 rfl ?_
  refine q_iload 419 k_L_isCourse_419 rfl ?_
  refine q_vI 421 [vI x1, vI s0] [vI y4, vI y2] k_L_isCourse_421 lk_4_141 rfl rfl rfl rfl rfl rfl rfl rfl (CallI.mono (fun y6 M5 h11 => ?_) h10)
  refine q_iadd 424 k_L_isCourse_424 ?_
  refine q_icmp_ne 425 442 k_L_isCourse_425 rfl rfl (fun c425 => ?_) (fun c425 => ?_)
  · have h11t := h11.1 c425
    refine q_iconst 442 k_L_isCourse_442 ?_
    exact q_zret 443 k_L_isCourse_443 rfl (Or.inl rfl) h11t
  · have h11f := h11.2 c425
    refine q_aload_n 428 k_L_isCourse_428 rfl ?_
    refine q_vL 429 [] [] k_L_isCourse_429 lk_4_115 rfl rfl rfl rfl rfl rfl rfl rfl (CallL.mono (fun y8 M7 h12 => ?_) h11f)
    refine q_lload 432 k_L_isCourse_432 rfl ?_
    refine q_lcmp 434 k_L_isCourse_434 ?_
    refine q_if_ne 435 442 k_L_isCourse_435 rfl rfl (fun c435 => ?_) (fun c435 => ?_)
    · have h12t := h12.1 c435
      refine q_iconst 442 k_L_isCourse_442 ?_
      exact q_zret 443 k_L_isCourse_443 rfl (Or.inl rfl) h12t
    · have h12f := h12.2 c435
      refine q_iconst 438 k_L_isCourse_438 ?_
      refine q_goto 439 443 k_L_isCourse_439 rfl rfl ?_
      exact q_zret 443 k_L_isCourse_443 rfl (Or.inr rfl) h12f
theorem k_L_isGoing_0 : decode (mtC m_L_isGoing) 0 = .ok (.aload_n 0, 1) := by decide +kernel
theorem k_L_isGoing_1 : decode (mtC m_L_isGoing) 1 = .ok (.iload_n 1, 1) := by decide +kernel
theorem k_L_isGoing_2 : decode (mtC m_L_isGoing) 2 = .ok (.iconst 0, 1) := by decide +kernel
theorem k_L_isGoing_3 : decode (mtC m_L_isGoing) 3 = .ok (.invokevirtual 112, 3) := by decide +kernel
theorem k_L_isGoing_6 : decode (mtC m_L_isGoing) 6 = .ok (.ifCond .ge 5, 3) := by decide +kernel
theorem k_L_isGoing_9 : decode (mtC m_L_isGoing) 9 = .ok (.iconst 1, 1) := by decide +kernel
theorem k_L_isGoing_10 : decode (mtC m_L_isGoing) 10 = .ok (.ireturn, 1) := by decide +kernel
theorem k_L_isGoing_11 : decode (mtC m_L_isGoing) 11 = .ok (.aload_n 0, 1) := by decide +kernel
theorem k_L_isGoing_12 : decode (mtC m_L_isGoing) 12 = .ok (.iload_n 1, 1) := by decide +kernel
theorem k_L_isGoing_13 : decode (mtC m_L_isGoing) 13 = .ok (.iconst 2, 1) := by decide +kernel
theorem k_L_isGoing_14 : decode (mtC m_L_isGoing) 14 = .ok (.invokevirtual 112, 3) := by decide +kernel
theorem k_L_isGoing_17 : decode (mtC m_L_isGoing) 17 = .ok (.istore 4, 2) := by decide +kernel
theorem k_L_isGoing_19 : decode (mtC m_L_isGoing) 19 = .ok (.aload_n 0, 1) := by decide +kernel
theorem k_L_isGoing_20 : decode (mtC m_L_isGoing) 20 = .ok (.iload_n 1, 1) := by decide +kernel
theorem k_L_isGoing_21 : decode (mtC m_L_isGoing) 21 = .ok (.iload_n 2, 1) := by decide +kernel
theorem k_L_isGoing_22 : decode (mtC m_L_isGoing) 22 = .ok (.invokevirtual 91, 3) := by decide +kernel
theorem k_L_isGoing_25 : decode (mtC m_L_isGoing) 25 = .ok (.iload 4, 2) := by decide +kernel
theorem k_L_isGoing_27 : decode (mtC m_L_isGoing) 27 = .ok (.if_icmp .ne 31, 3) := by decide +kernel
theorem k_L_isGoing_30 : decode (mtC m_L_isGoing) 30 = .ok (.aload_n 0, 1) := by decide +kernel
theorem k_L_isGoing_31 : decode (mtC m_L_isGoing) 31 = .ok (.iload_n 1, 1) := by decide +kernel
theorem k_L_isGoing_32 : decode (mtC m_L_isGoing) 32 = .ok (.iload_n 2, 1) := by decide +kernel
theorem k_L_isGoing_33 : decode (mtC m_L_isGoing) 33 = .ok (.invokevirtual 144, 3) := by decide +kernel
theorem k_L_isGoing_36 : decode (mtC m_L_isGoing) 36 = .ok (.ifCond .eq 22, 3) := by decide +kernel
theorem k_L_isGoing_39 : decode (mtC m_L_isGoing) 39 = .ok (.aload_n 0, 1) := by decide +kernel
theorem k_L_isGoing_40 : decode (mtC m_L_isGoing) 40 = .ok (.iload_n 2, 1) := by decide +kernel
theorem k_L_isGoing_41 : decode (mtC m_L_isGoing) 41 = .ok (.invokevirtual 103, 3) := by decide +kernel
theorem k_L_isGoing_44 : decode (mtC m_L_isGoing) 44 = .ok (.iload 4, 2) := by decide +kernel
theorem k_L_isGoing_46 : decode (mtC m_L_isGoing) 46 = .ok (.if_icmp .ne 12, 3) := by decide +kernel
theorem k_L_isGoing_49 : decode (mtC m_L_isGoing) 49 = .ok (.aload_n 0, 1) := by decide +kernel
theorem k_L_isGoing_50 : decode (mtC m_L_isGoing) 50 = .ok (.iload_n 1, 1) := by decide +kernel
theorem k_L_isGoing_51 : decode (mtC m_L_isGoing) 51 = .ok (.iload_n 2, 1) := by decide +kernel
theorem k_L_isGoing_52 : decode (mtC m_L_isGoing) 52 = .ok (.invokevirtual 144, 3) := by decide +kernel
theorem k_L_isGoing_55 : decode (mtC m_L_isGoing) 55 = .ok (.ifCond .ne 5, 3) := by decide +kernel
theorem k_L_isGoing_58 : decode (mtC m_L_isGoing) 58 = .ok (.iconst 0, 1) := by decide +kernel
theorem k_L_isGoing_59 : decode (mtC m_L_isGoing) 59 = .ok (.ireturn, 1) := by decide +kernel
theorem k_L_isGoing_60 : decode (mtC m_L_isGoing) 60 = .ok (.aload_n 0, 1) := by decide +kernel
theorem k_L_isGoing_61 : decode (mtC m_L_isGoing) 61 = .ok (.iload_n 1, 1) := by decide +kernel
theorem k_L_isGoing_62 : decode (mtC m_L_isGoing) 62 = .ok (.bipush 9, 2) := by decide +kernel
theorem k_L_isGoing_64 : decode (mtC m_L_isGoing) 64 = .ok (.invokevirtual 112, 3) := by decide +kernel
theorem k_L_isGoing_67 : decode (mtC m_L_isGoing) 67 = .ok (.ifCond .ne 28, 3) := by decide +kernel
theorem k_L_isGoing_70 : decode (mtC m_L_isGoing) 70 = .ok (.aload_n 0, 1) := by decide +kernel
theorem k_L_isGoing_71 : decode (mtC m_L_isGoing) 71 = .ok (.iload_n 2, 1) := by decide +kernel
theorem k_L_isGoing_72 : decode (mtC m_L_isGoing) 72 = .ok (.invokevirtual 97, 3) := by decide +kernel
theorem k_L_isGoing_75 : decode (mtC m_L_isGoing) 75 = .ok (.aload_n 0, 1) := by decide +kernel
theorem k_L_isGoing_76 : decode (mtC m_L_isGoing) 76 = .ok (.iload_n 1, 1) := by decide +kernel
theorem k_L_isGoing_77 : decode (mtC m_L_isGoing) 77 = .ok (.iconst 3, 1) := by decide +kernel
theorem k_L_isGoing_78 : decode (mtC m_L_isGoing) 78 = .ok (.invokevirtual 112, 3) := by decide +kernel
theorem k_L_isGoing_81 : decode (mtC m_L_isGoing) 81 = .ok (.if_icmp .ne 12, 3) := by decide +kernel
theorem k_L_isGoing_84 : decode (mtC m_L_isGoing) 84 = .ok (.aload_n 0, 1) := by decide +kernel
theorem k_L_isGoing_85 : decode (mtC m_L_isGoing) 85 = .ok (.iload_n 1, 1) := by decide +kernel
theorem k_L_isGoing_86 : decode (mtC m_L_isGoing) 86 = .ok (.iload_n 2, 1) := by decide +kernel
theorem k_L_isGoing_87 : decode (mtC m_L_isGoing) 87 = .ok (.invokevirtual 144, 3) := by decide +kernel
theorem k_L_isGoing_90 : decode (mtC m_L_isGoing) 90 = .ok (.ifCond .ne 5, 3) := by decide +kernel
theorem k_L_isGoing_93 : decode (mtC m_L_isGoing) 93 = .ok (.iconst 0, 1) := by decide +kernel
theorem k_L_isGoing_94 : decode (mtC m_L_isGoing) 94 = .ok (.ireturn, 1) := by decide +kernel
theorem k_L_isGoing_95 : decode (mtC m_L_isGoing) 95 = .ok (.iconst 0, 1) := by decide +kernel
theorem k_L_isGoing_96 : decode (mtC m_L_isGoing) 96 = .ok (.istore 5, 2) := by decide +kernel
theorem k_L_isGoing_98 : decode (mtC m_L_isGoing) 98 = .ok (.iload 5, 2) := by decide +kernel
theorem k_L_isGoing_100 : decode (mtC m_L_isGoing) 100 = .ok (.iload_n 3, 1) := by decide +kernel
theorem k_L_isGoing_101 : decode (mtC m_L_isGoing) 101 = .ok (.if_icmp .ge 59, 3) := by decide +kernel
theorem k_L_isGoing_104 : decode (mtC m_L_isGoing) 104 = .ok (.aload_n 0, 1) := by decide +kernel
theorem k_L_isGoing_105 : decode (mtC m_L_isGoing) 105 = .ok (.iload_n 1, 1) := by decide +kernel
theorem k_L_isGoing_106 : decode (mtC m_L_isGoing) 106 = .ok (.invokevirtual 106, 3) := by decide +kernel
theorem k_L_isGoing_109 : decode (mtC m_L_isGoing) 109 = .ok (.aload_n 0, 1) := by decide +kernel
theorem k_L_isGoing_110 : decode (mtC m_L_isGoing) 110 = .ok (.iload_n 2, 1) := by decide +kernel
theorem k_L_isGoing_111 : decode (mtC m_L_isGoing) 111 = .ok (.invokevirtual 106, 3) := by decide +kernel
theorem k_L_isGoing_114 : decode (mtC m_L_isGoing) 114 = .ok (.if_icmp .eq 5, 3) := by decide +kernel
theorem k_L_isGoing_117 : decode (mtC m_L_isGoing) 117 = .ok (.iconst 0, 1) := by decide +kernel
theorem k_L_isGoing_118 : decode (mtC m_L_isGoing) 118 = .ok (.ireturn, 1) := by decide +kernel
theorem k_L_isGoing_119 : decode (mtC m_L_isGoing) 119 = .ok (.iconst 0, 1) := by decide +kernel
theorem k_L_isGoing_120 : decode (mtC m_L_isGoing) 120 = .ok (.istore 6, 2) := by decide +kernel
theorem k_L_isGoing_122 : decode (mtC m_L_isGoing) 122 = .ok (.iload 6, 2) := by decide +kernel
theorem k_L_isGoing_124 : decode (mtC m_L_isGoing) 124 = .ok (.bipush 10, 2) := by decide +kernel
theorem k_L_isGoing_126 : decode (mtC m_L_isGoing) 126 = .ok (.if_icmp .ge 28, 3) := by decide +kernel
theorem k_L_isGoing_129 : decode (mtC m_L_isGoing) 129 = .ok (.aload_n 0, 1) := by decide +kernel
theorem k_L_isGoing_130 : decode (mtC m_L_isGoing) 130 = .ok (.iload_n 1, 1) := by decide +kernel
theorem k_L_isGoing_131 : decode (mtC m_L_isGoing) 131 = .ok (.iload 6, 2) := by decide +kernel
theorem k_L_isGoing_133 : decode (mtC m_L_isGoing) 133 = .ok (.invokevirtual 112, 3) := by decide +kernel
theorem k_L_isGoing_136 : decode (mtC m_L_isGoing) 136 = .ok (.aload_n 0, 1) := by decide +kernel
theorem k_L_isGoing_137 : decode (mtC m_L_isGoing) 137 = .ok (.iload_n 2, 1) := by decide +kernel
theorem k_L_isGoing_138 : decode (mtC m_L_isGoing) 138 = .ok (.iload 6, 2) := by decide +kernel
theorem k_L_isGoing_140 : decode (mtC m_L_isGoing) 140 = .ok (.invokevirtual 112, 3) := by decide +kernel
theorem k_L_isGoing_143 : decode (mtC m_L_isGoing) 143 = .ok (.if_icmp .eq 5, 3) := by decide +kernel
theorem k_L_isGoing_146 : decode (mtC m_L_isGoing) 146 = .ok (.iconst 0, 1) := by decide +kernel
theorem k_L_isGoing_147 : decode (mtC m_L_isGoing) 147 = .ok (.ireturn, 1) := by decide +kernel
theorem k_L_isGoing_148 : decode (mtC m_L_isGoing) 148 = .ok (.iinc 6 1, 3) := by decide +kernel
theorem k_L_isGoing_151 : decode (mtC m_L_isGoing) 151 = .ok (.goto (-29), 3) := by decide +kernel
theorem k_L_isGoing_154 : decode (mtC m_L_isGoing) 154 = .ok (.iinc 5 1, 3) := by decide +kernel
theorem k_L_isGoing_157 : decode (mtC m_L_isGoing) 157 = .ok (.goto (-59), 3) := by decide +kernel
theorem k_L_isGoing_160 : decode (mtC m_L_isGoing) 160 = .ok (.aload_n 0, 1) := by decide +kernel
theorem k_L_isGoing_161 : decode (mtC m_L_isGoing) 161 = .ok (.iload_n 2, 1) := by decide +kernel
theorem k_L_isGoing_162 : decode (mtC m_L_isGoing) 162 = .ok (.invokevirtual 94, 3) := by decide +kernel
theorem k_L_isGoing_165 : decode (mtC m_L_isGoing) 165 = .ok (.pop, 1) := by decide +kernel
theorem k_L_isGoing_166 : decode (mtC m_L_isGoing) 166 = .ok (.iconst 0, 1) := by decide +kernel
theorem k_L_isGoing_167 : decode (mtC m_L_isGoing) 167 = .ok (.istore 5, 2) := by decide +kernel
theorem k_L_isGoing_169 : decode (mtC m_L_isGoing) 169 = .ok (.iload 5, 2) := by decide +kernel
theorem k_L_isGoing_171 : decode (mtC m_L_isGoing) 171 = .ok (.bipush 12, 2) := by decide +kernel
theorem k_L_isGoing_173 : decode (mtC m_L_isGoing) 173 = .ok (.if_icmp .ge 40, 3) := by decide +kernel
theorem k_L_isGoing_176 : decode (mtC m_L_isGoing) 176 = .ok (.aload_n 0, 1) := by decide +kernel
theorem k_L_isGoing_177 : decode (mtC m_L_isGoing) 177 = .ok (.iload_n 2, 1) := by decide +kernel
theorem k_L_isGoing_178 : decode (mtC m_L_isGoing) 178 = .ok (.iload 5, 2) := by decide +kernel
theorem k_L_isGoing_180 : decode (mtC m_L_isGoing) 180 = .ok (.invokevirtual 126, 3) := by decide +kernel
theorem k_L_isGoing_183 : decode (mtC m_L_isGoing) 183 = .ok (.istore 6, 2) := by decide +kernel
theorem k_L_isGoing_185 : decode (mtC m_L_isGoing) 185 = .ok (.aload_n 0, 1) := by decide +kernel
theorem k_L_isGoing_186 : decode (mtC m_L_isGoing) 186 = .ok (.iload_n 2, 1) := by decide +kernel
theorem k_L_isGoing_187 : decode (mtC m_L_isGoing) 187 = .ok (.invokevirtual 106, 3) := by decide +kernel
theorem k_L_isGoing_190 : decode (mtC m_L_isGoing) 190 = .ok (.iload 6, 2) := by decide +kernel
theorem k_L_isGoing_192 : decode (mtC m_L_isGoing) 192 = .ok (.ifCond .ge 8, 3) := by decide +kernel
theorem k_L_isGoing_195 : decode (mtC m_L_isGoing) 195 = .ok (.bipush (-9), 2) := by decide +kernel
theorem k_L_isGoing_197 : decode (mtC m_L_isGoing) 197 = .ok (.goto 5, 3) := by decide +kernel
theorem k_L_isGoing_200 : decode (mtC m_L_isGoing) 200 = .ok (.iload 6, 2) := by decide +kernel
theorem k_L_isGoing_202 : decode (mtC m_L_isGoing) 202 = .ok (.if_icmp .eq 5, 3) := by decide +kernel
theorem k_L_isGoing_205 : decode (mtC m_L_isGoing) 205 = .ok (.iconst 0, 1) := by decide +kernel
theorem k_L_isGoing_206 : decode (mtC m_L_isGoing) 206 = .ok (.ireturn, 1) := by decide +kernel
theorem k_L_isGoing_207 : decode (mtC m_L_isGoing) 207 = .ok (.iinc 5 1, 3) := by decide +kernel
theorem k_L_isGoing_210 : decode (mtC m_L_isGoing) 210 = .ok (.goto (-41), 3) := by decide +kernel
theorem k_L_isGoing_213 : decode (mtC m_L_isGoing) 213 = .ok (.iconst 1, 1) := by decide +kernel
theorem k_L_isGoing_214 : decode (mtC m_L_isGoing) 214 = .ok (.ireturn, 1) := by decide +kernel
set_option maxHeartbeats 4000000 in
set_option maxRecDepth 100000 in
theorem T_L_isGoing_0 {d : Nat} {x1 : Int} {x2 : Int} {x3 : Int} {M : AMem} {Q : Option AV → AMem → Prop}  (h : CallI d m_H_ofWell [vR 3 0, vI x1, vI 0] M (fun y2 M1 => ((0 ≤ wI y2) → CallI d m_H_ofWell [vR 3 0, vI x1, vI 2] M1 (fun y4 M3 => CallI d m_H_copy [vR 3 0, vI x1, vI x2] M3 (fun y6 M5 => ((¬ wI y6 = wI y4) → Q (some (vI 0)) M5) ∧ (¬ (¬ wI y6 = wI y4) → CallI d m_H_isAlike [vR 3 0, vI x1, vI x2] M5 (fun y8 M7 => ((wI y8 = 0) → Q (some (vI 0)) M7) ∧ (¬ (wI y8 = 0) → CallI d m_H_shake [vR 3 0, vI x2] M7 (fun y10 M9 => ((¬ wI y10 = wI y4) → Q (some (vI 0)) M9) ∧ (¬ (¬ wI y10 = wI y4) → CallI d m_H_isAlike [vR 3 0, vI x1, vI x2] M9 (fun y12 M11 => ((¬ wI y12 = 0) → CallI d m_H_ofWell [vR 3 0, vI x1, vI 9] M11 (fun y14 M13 => ((¬ wI y14 = 0) → RunQ (d + 1) m_L_isGoing 98 [some (vR 3 0), some (vI x1), some (vI x2), some (vI x3), some (vI y4), some (vI 0), none] [] M13 Q) ∧ (¬ (¬ wI y14 = 0) → CallI d m_H_again [vR 3 0, vI x2] M13 (fun y16 M15 => CallI d m_H_ofWell [vR 3 0, vI x1, vI 3] M15 (fun y18 M17 => ((¬ wI y16 = wI y18) → Q (some (vI 0)) M17) ∧ (¬ (¬ wI y16 = wI y18) → CallI d m_H_isAlike [vR 3 0, vI x1, vI x2] M17 (fun y20 M19 => ((¬ wI y20 = 0) → RunQ (d + 1) m_L_isGoing 98 [some (vR 3 0), some (vI x1), some (vI x2), some (vI x3), some (vI y4), some (vI 0), none] [] M19 Q) ∧ (¬ (¬ wI y20 = 0) → Q (some (vI 0)) M19)))))))) ∧ (¬ (¬ wI y12 = 0) → Q (some (vI 0)) M11)))))))))) ∧ (¬ (0 ≤ wI y2) → Q (some (vI 1)) M1))) : RunQ (d + 1) m_L_isGoing 0 [some (vR 3 0), some (vI x1), some (vI x2), some (vI x3), none, none, none] [] M Q := by
  refine q_aload_n 0 k_L_isGoing_0 rfl ?_
  refine q_iload_n 1 k_L_isGoing_1 rfl ?_
  refine q_iconst 2 k_L_isGoing_2 ?_
  refine q_vI 3 [vI x1, vI 0] [] k_L_isGoing_3 lk_4_112 rfl rfl rfl rfl rfl rfl rfl rfl (CallI.mono (fun y2 M1 h21 => ?_) h)
  refine q_if_ge 6 11 k_L_isGoing_6 rfl rfl (fun c6 => ?_) (fun c6 => ?_)
  · have h21t := h21.1 c6
    refine q_aload_n 11 k_L_isGoing_11 rfl ?_
    refine q_iload_n 12 k_L_isGoing_12 rfl ?_
    refine q_iconst 13 k_L_isGoing_13 ?_
    refine q_vI 14 [vI x1, vI 2] [] k_L_isGoing_14 lk_4_112 rfl rfl rfl rfl rfl rfl rfl rfl (CallI.mono (fun y4 M3 h22 => ?_) h21t)
    refine q_istore 17 k_L_isGoing_17 (ls' := [some (vR 3 0), some (vI x1), some (vI x2), some (vI x3), some (vI y4), none, none]) rfl rfl ?_
    refine q_aload_n 19 k_L_isGoing_19 rfl ?_
    refine q_iload_n 20 k_L_isGoing_20 rfl ?_
    refine q_iload_n 21 k_L_isGoing_21 rfl ?_
    refine q_vI 22 [vI x1, vI x2] [] k_L_isGoing_22 lk_4_91 rfl rfl rfl rfl rfl rfl rfl rfl (CallI.mono (fun y6 M5 h23 => ?_) h22)
    refine q_iload 25 k_L_isGoing_25 rfl ?_
    refine q_icmp_ne 27 58 k_L_isGoing_27 rfl rfl (fun c27 => ?_) (fun c27 => ?_)
    · have h23t := h23.1 c27
      refine q_iconst 58 k_L_isGoing_58 ?_
      exact q_zret 59 k_L_isGoing_59 rfl (Or.inl rfl) h23t
    · have h23f := h23.2 c27
      refine q_aload_n 30 k_L_isGoing_30 rfl ?_
      refine q_iload_n 31 k_L_isGoing_31 rfl ?_
      refine q_iload_n 32 k_L_isGoing_32 rfl ?_
      refine q_vI 33 [vI x1, vI x2] [] k_L_isGoing_33 lk_4_144 rfl rfl rfl rfl rfl rfl rfl rfl (CallI.mono (fun y8 M7 h24 => ?_) h23f)
      refine q_if_eq 36 58 k_L_isGoing_36 rfl rfl (fun c36 => ?_) (fun c36 => ?_)
      · have h24t := h24.1 c36
        refine q_iconst 58 k_L_isGoing_58 ?_
        exact q_zret 59 k_L_isGoing_59 rfl (Or.inl rfl) h24t
      · have h24f := h24.2 c36
        refine q_aload_n 39 k_L_isGoing_39 rfl ?_
        refine q_iload_n 40 k_L_isGoing_40 rfl ?_
        refine q_vI 41 [vI x2] [] k_L_isGoing_41 lk_4_103 rfl rfl rfl rfl rfl rfl rfl rfl (CallI.mono (fun y10 M9 h25 => ?_) h24f)
        refine q_iload 44 k_L_isGoing_44 rfl ?_
        refine q_icmp_ne 46 58 k_L_isGoing_46 rfl rfl (fun c46 => ?_) (fun c46 => ?_)
        · have h25t := h25.1 c46
          refine q_iconst 58 k_L_isGoing_58 ?_
          exact q_zret 59 k_L_isGoing_59 rfl (Or.inl rfl) h25t
        · have h25f := h25.2 c46
          refine q_aload_n 49 k_L_isGoing_49 rfl ?_
          refine q_iload_n 50 k_L_isGoing_50 rfl ?_
          refine q_iload_n 51 k_L_isGoing_51 rfl ?_
          refine q_vI 52 [vI x1, vI x2] [] k_L_isGoing_52 lk_4_144 rfl rfl rfl rfl rfl rfl rfl rfl (CallI.mono (fun y12 M11 h26 => ?_) h25f)
          refine q_if_ne 55 60 k_L_isGoing_55 rfl rfl (fun c55 => ?_) (fun c55 => ?_)
          · have h26t := h26.1 c55
            refine q_aload_n 60 k_L_isGoing_60 rfl ?_
            refine q_iload_n 61 k_L_isGoing_61 rfl ?_
            refine q_bipush 62 k_L_isGoing_62 (by decide) ?_
            refine q_vI 64 [vI x1, vI 9] [] k_L_isGoing_64 lk_4_112 rfl rfl rfl rfl rfl rfl rfl rfl (CallI.mono (fun y14 M13 h27 => ?_) h26t)
            refine q_if_ne 67 95 k_L_isGoing_67 rfl rfl (fun c67 => ?_) (fun c67 => ?_)
            · have h27t := h27.1 c67
              refine q_iconst 95 k_L_isGoing_95 ?_
              refine q_istore 96 k_L_isGoing_96 (ls' := [some (vR 3 0), some (vI x1), some (vI x2), some (vI x3), some (vI y4), some (vI 0), none]) rfl rfl ?_
              exact h27t
            · have h27f := h27.2 c67
              refine q_aload_n 70 k_L_isGoing_70 rfl ?_
              refine q_iload_n 71 k_L_isGoing_71 rfl ?_
              refine q_vI 72 [vI x2] [] k_L_isGoing_72 lk_4_97 rfl rfl rfl rfl rfl rfl rfl rfl (CallI.mono (fun y16 M15 h28 => ?_) h27f)
              refine q_aload_n 75 k_L_isGoing_75 rfl ?_
              refine q_iload_n 76 k_L_isGoing_76 rfl ?_
              refine q_iconst 77 k_L_isGoing_77 ?_
              refine q_vI 78 [vI x1, vI 3] [vI y16] k_L_isGoing_78 lk_4_112 rfl rfl rfl rfl rfl rfl rfl rfl (CallI.mono (fun y18 M17 h29 => ?_) h28)
              refine q_icmp_ne 81 93 k_L_isGoing_81 rfl rfl (fun c81 => ?_) (fun c81 => ?_)
              · have h29t := h29.1 c81
                refine q_iconst 93 k_L_isGoing_93 ?_
                exact q_zret 94 k_L_isGoing_94 rfl (Or.inl rfl) h29t
              · have h29f := h29.2 c81
                refine q_aload_n 84 k_L_isGoing_84 rfl ?_
                refine q_iload_n 85 k_L_isGoing_85 rfl ?_
                refine q_iload_n 86 k_L_isGoing_86 rfl ?_
                refine q_vI 87 [vI x1, vI x2] [] k_L_isGoing_87 lk_4_144 rfl rfl rfl rfl rfl rfl rfl rfl (CallI.mono (fun y20 M19 h30 => ?_) h29f)
                refine q_if_ne 90 95 k_L_isGoing_90 rfl rfl (fun c90 => ?_) (fun c90 => ?_)
                · have h30t := h30.1 c90
                  refine q_iconst 95 k_L_isGoing_95 ?_
                  refine q_istore 96 k_L_isGoing_96 (ls' := [some (vR 3 0), some (vI x1), some (vI x2), some (vI x3), some (vI y4), some (vI 0), none]) rfl rfl ?_
                  exact h30t
                · have h30f := h30.2 c90
                  refine q_iconst 93 k_L_isGoing_93 ?_
                  exact q_zret 94 k_L_isGoing_94 rfl (Or.inl rfl) h30f
          · have h26f := h26.2 c55
            refine q_iconst 58 k_L_isGoing_58 ?_
            exact q_zret 59 k_L_isGoing_59 rfl (Or.inl rfl) h26f
  · have h21f := h21.2 c6
    refine q_iconst 9 k_L_isGoing_9 ?_
    exact q_zret 10 k_L_isGoing_10 rfl (Or.inr rfl) h21f
set_option maxHeartbeats 4000000 in
set_option maxRecDepth 100000 in
theorem T_L_isGoing_98 {d : Nat} {x1 : Int} {x2 : Int} {x3 : Int} {x4 : Int} {x5 : Int} {u6 : Option AV} {M : AMem} {Q : Option AV → AMem → Prop}  (h : ((wI x3 ≤ wI x5) → CallI d m_H_anew [vR 3 0, vI x2] M (fun y2 M1 => RunQ (d + 1) m_L_isGoing 169 [some (vR 3 0), some (vI x1), some (vI x2), some (vI x3), some (vI x4), some (vI 0), u6] [] M1 Q)) ∧ (¬ (wI x3 ≤ wI x5) → CallI d m_H_draw [vR 3 0, vI x1] M (fun y4 M3 => CallI d m_H_draw [vR 3 0, vI x2] M3 (fun y6 M5 => ((wI y4 = wI y6) → RunQ (d + 1) m_L_isGoing 122 [some (vR 3 0), some (vI x1), some (vI x2), some (vI x3), some (vI x4), some (vI x5), some (vI 0)] [] M5 Q) ∧ (¬ (wI y4 = wI y6) → Q (some (vI 0)) M5))))) : RunQ (d + 1) m_L_isGoing 98 [some (vR 3 0), some (vI x1), some (vI x2), some (vI x3), some (vI x4), some (vI x5), u6] [] M Q := by
  refine q_iload 98 k_L_isGoing_98 rfl ?_
  refine q_iload_n 100 k_L_isGoing_100 rfl ?_
  refine q_icmp_ge 101 160 k_L_isGoing_101 rfl rfl (fun c101 => ?_) (fun c101 => ?_)
  · have ht := h.1 c101
    refine q_aload_n 160 k_L_isGoing_160 rfl ?_
    refine q_iload_n 161 k_L_isGoing_161 rfl ?_
    refine q_vI 162 [vI x2] [] k_L_isGoing_162 lk_4_94 rfl rfl rfl rfl rfl rfl rfl rfl (CallI.mono (fun y2 M1 h7 => ?_) ht)
    refine q_pop 165 k_L_isGoing_165 rfl ?_
    refine q_iconst 166 k_L_isGoing_166 ?_
    refine q_istore 167 k_L_isGoing_167 (ls' := [some (vR 3 0), some (vI x1), some (vI x2), some (vI x3), some (vI x4), some (vI 0), u6]) rfl rfl ?_
    exact h7
  · have hf := h.2 c101
    refine q_aload_n 104 k_L_isGoing_104 rfl ?_
    refine q_iload_n 105 k_L_isGoing_105 rfl ?_
    refine q_vI 106 [vI x1] [] k_L_isGoing_106 lk_4_106 rfl rfl rfl rfl rfl rfl rfl rfl (CallI.mono (fun y4 M3 h8 => ?_) hf)
    refine q_aload_n 109 k_L_isGoing_109 rfl ?_
    refine q_iload_n 110 k_L_isGoing_110 rfl ?_
    refine q_vI 111 [vI x2] [vI y4] k_L_isGoing_111 lk_4_106 rfl rfl rfl rfl rfl rfl rfl rfl (CallI.mono (fun y6 M5 h9 => ?_) h8)
    refine q_icmp_eq 114 119 k_L_isGoing_114 rfl rfl (fun c114 => ?_) (fun c114 => ?_)
    · have h9t := h9.1 c114
      refine q_iconst 119 k_L_isGoing_119 ?_
      refine q_istore 120 k_L_isGoing_120 (ls' := [some (vR 3 0), some (vI x1), some (vI x2), some (vI x3), some (vI x4), some (vI x5), some (vI 0)]) rfl rfl ?_
      exact h9t
    · have h9f := h9.2 c114
      refine q_iconst 117 k_L_isGoing_117 ?_
      exact q_zret 118 k_L_isGoing_118 rfl (Or.inl rfl) h9f
set_option maxHeartbeats 4000000 in
set_option maxRecDepth 100000 in
theorem T_L_isGoing_169 {d : Nat} {x1 : Int} {x2 : Int} {x3 : Int} {x4 : Int} {x5 : Int} {u6 : Option AV} {M : AMem} {Q : Option AV → AMem → Prop}  (h : ((12 ≤ wI x5) → Q (some (vI 1)) M) ∧ (¬ (12 ≤ wI x5) → CallI d m_H_nth [vR 3 0, vI x2, vI x5] M (fun y2 M1 => CallI d m_H_draw [vR 3 0, vI x2] M1 (fun y4 M3 => ((0 ≤ wI y2) → ((wI y4 = wI y2) → RunQ (d + 1) m_L_isGoing 169 [some (vR 3 0), some (vI x1), some (vI x2), some (vI x3), some (vI x4), some (vI (x5 + 1)), some (vI y2)] [] M3 Q) ∧ (¬ (wI y4 = wI y2) → Q (some (vI 0)) M3)) ∧ (¬ (0 ≤ wI y2) → ((wI y4 = (-9)) → RunQ (d + 1) m_L_isGoing 169 [some (vR 3 0), some (vI x1), some (vI x2), some (vI x3), some (vI x4), some (vI (x5 + 1)), some (vI y2)] [] M3 Q) ∧ (¬ (wI y4 = (-9)) → Q (some (vI 0)) M3)))))) : RunQ (d + 1) m_L_isGoing 169 [some (vR 3 0), some (vI x1), some (vI x2), some (vI x3), some (vI x4), some (vI x5), u6] [] M Q := by
  refine q_iload 169 k_L_isGoing_169 rfl ?_
  refine q_bipush 171 k_L_isGoing_171 (by decide) ?_
  refine q_icmp_ge 173 213 k_L_isGoing_173 rfl rfl (fun c173 => ?_) (fun c173 => ?_)
  · have ht := h.1 c173
    refine q_iconst 213 k_L_isGoing_213 ?_
    exact q_zret 214 k_L_isGoing_214 rfl (Or.inr rfl) ht
  · have hf := h.2 c173
    refine q_aload_n 176 k_L_isGoing_176 rfl ?_
    refine q_iload_n 177 k_L_isGoing_177 rfl ?_
    refine q_iload 178 k_L_isGoing_178 rfl ?_
    refine q_vI 180 [vI x2, vI x5] [] k_L_isGoing_180 lk_4_126 rfl rfl rfl rfl rfl rfl rfl rfl (CallI.mono (fun y2 M1 h5 => ?_) hf)
    refine q_istore 183 k_L_isGoing_183 (ls' := [some (vR 3 0), some (vI x1), some (vI x2), some (vI x3), some (vI x4), some (vI x5), some (vI y2)]) rfl rfl ?_
    refine q_aload_n 185 k_L_isGoing_185 rfl ?_
    refine q_iload_n 186 k_L_isGoing_186 rfl ?_
    refine q_vI 187 [vI x2] [] k_L_isGoing_187 lk_4_106 rfl rfl rfl rfl rfl rfl rfl rfl (CallI.mono (fun y4 M3 h6 => ?_) h5)
    refine q_iload 190 k_L_isGoing_190 rfl ?_
    refine q_if_ge 192 200 k_L_isGoing_192 rfl rfl (fun c192 => ?_) (fun c192 => ?_)
    · have h6t := h6.1 c192
      refine q_iload 200 k_L_isGoing_200 rfl ?_
      refine q_icmp_eq 202 207 k_L_isGoing_202 rfl rfl (fun c202 => ?_) (fun c202 => ?_)
      · have h6tt := h6t.1 c202
        refine q_iinc 207 k_L_isGoing_207 (ls' := [some (vR 3 0), some (vI x1), some (vI x2), some (vI x3), some (vI x4), some (vI (x5 + 1)), some (vI y2)]) rfl rfl rfl ?_
        refine q_goto 210 169 k_L_isGoing_210 rfl rfl ?_
        exact h6tt
      · have h6tf := h6t.2 c202
        refine q_iconst 205 k_L_isGoing_205 ?_
        exact q_zret 206 k_L_isGoing_206 rfl (Or.inl rfl) h6tf
    · have h6f := h6.2 c192
      refine q_bipush 195 k_L_isGoing_195 (by decide) ?_
      refine q_goto 197 202 k_L_isGoing_197 rfl rfl ?_
      refine q_icmp_eq 202 207 k_L_isGoing_202 rfl rfl (fun c202 => ?_) (fun c202 => ?_)
      · have h6ft := h6f.1 c202
        refine q_iinc 207 k_L_isGoing_207 (ls' := [some (vR 3 0), some (vI x1), some (vI x2), some (vI x3), some (vI x4), some (vI (x5 + 1)), some (vI y2)]) rfl rfl rfl ?_
        refine q_goto 210 169 k_L_isGoing_210 rfl rfl ?_
        exact h6ft
      · have h6ff := h6f.2 c202
        refine q_iconst 205 k_L_isGoing_205 ?_
        exact q_zret 206 k_L_isGoing_206 rfl (Or.inl rfl) h6ff
set_option maxHeartbeats 4000000 in
set_option maxRecDepth 100000 in
theorem T_L_isGoing_122 {d : Nat} {x1 : Int} {x2 : Int} {x3 : Int} {x4 : Int} {x5 : Int} {x6 : Int} {M : AMem} {Q : Option AV → AMem → Prop}  (h : ((10 ≤ wI x6) → RunQ (d + 1) m_L_isGoing 98 [some (vR 3 0), some (vI x1), some (vI x2), some (vI x3), some (vI x4), some (vI (x5 + 1)), some (vI x6)] [] M Q) ∧ (¬ (10 ≤ wI x6) → CallI d m_H_ofWell [vR 3 0, vI x1, vI x6] M (fun y2 M1 => CallI d m_H_ofWell [vR 3 0, vI x2, vI x6] M1 (fun y4 M3 => ((wI y2 = wI y4) → RunQ (d + 1) m_L_isGoing 122 [some (vR 3 0), some (vI x1), some (vI x2), some (vI x3), some (vI x4), some (vI x5), some (vI (x6 + 1))] [] M3 Q) ∧ (¬ (wI y2 = wI y4) → Q (some (vI 0)) M3))))) : RunQ (d + 1) m_L_isGoing 122 [some (vR 3 0), some (vI x1), some (vI x2), some (vI x3), some (vI x4), some (vI x5), some (vI x6)] [] M Q := by
  refine q_iload 122 k_L_isGoing_122 rfl ?_
  refine q_bipush 124 k_L_isGoing_124 (by decide) ?_
  refine q_icmp_ge 126 154 k_L_isGoing_126 rfl rfl (fun c126 => ?_) (fun c126 => ?_)
  · have ht := h.1 c126
    refine q_iinc 154 k_L_isGoing_154 (ls' := [some (vR 3 0), some (vI x1), some (vI x2), some (vI x3), some (vI x4), some (vI (x5 + 1)), some (vI x6)]) rfl rfl rfl ?_
    refine q_goto 157 98 k_L_isGoing_157 rfl rfl ?_
    exact ht
  · have hf := h.2 c126
    refine q_aload_n 129 k_L_isGoing_129 rfl ?_
    refine q_iload_n 130 k_L_isGoing_130 rfl ?_
    refine q_iload 131 k_L_isGoing_131 rfl ?_
    refine q_vI 133 [vI x1, vI x6] [] k_L_isGoing_133 lk_4_112 rfl rfl rfl rfl rfl rfl rfl rfl (CallI.mono (fun y2 M1 h5 => ?_) hf)
    refine q_aload_n 136 k_L_isGoing_136 rfl ?_
    refine q_iload_n 137 k_L_isGoing_137 rfl ?_
    refine q_iload 138 k_L_isGoing_138 rfl ?_
    refine q_vI 140 [vI x2, vI x6] [vI y2] k_L_isGoing_140 lk_4_112 rfl rfl rfl rfl rfl rfl rfl rfl (CallI.mono (fun y4 M3 h6 => ?_) h5)
    refine q_icmp_eq 143 148 k_L_isGoing_143 rfl rfl (fun c143 => ?_) (fun c143 => ?_)
    · have h6t := h6.1 c143
      refine q_iinc 148 k_L_isGoing_148 (ls' := [some (vR 3 0), some (vI x1), some (vI x2), some (vI x3), some (vI x4), some (vI x5), some (vI (x6 + 1))]) rfl rfl rfl ?_
      refine q_goto 151 122 k_L_isGoing_151 rfl rfl ?_
      exact h6t
    · have h6f := h6.2 c143
      refine q_iconst 146 k_L_isGoing_146 ?_
      exact q_zret 147 k_L_isGoing_147 rfl (Or.inl rfl) h6f
theorem k_L_isMerged_0 : decode (mtC m_L_isMerged) 0 = .ok (.aload_n 0, 1) := by decide +kernel
theorem k_L_isMerged_1 : decode (mtC m_L_isMerged) 1 = .ok (.iload_n 1, 1) := by decide +kernel
theorem k_L_isMerged_2 : decode (mtC m_L_isMerged) 2 = .ok (.iload_n 3, 1) := by decide +kernel
theorem k_L_isMerged_3 : decode (mtC m_L_isMerged) 3 = .ok (.iload 4, 2) := by decide +kernel
theorem k_L_isMerged_5 : decode (mtC m_L_isMerged) 5 = .ok (.invokevirtual 67, 3) := by decide +kernel
theorem k_L_isMerged_8 : decode (mtC m_L_isMerged) 8 = .ok (.pop, 1) := by decide +kernel
theorem k_L_isMerged_9 : decode (mtC m_L_isMerged) 9 = .ok (.iconst 0, 1) := by decide +kernel
theorem k_L_isMerged_10 : decode (mtC m_L_isMerged) 10 = .ok (.istore 6, 2) := by decide +kernel
theorem k_L_isMerged_12 : decode (mtC m_L_isMerged) 12 = .ok (.iload 6, 2) := by decide +kernel
theorem k_L_isMerged_14 : decode (mtC m_L_isMerged) 14 = .ok (.bipush 48, 2) := by decide +kernel
theorem k_L_isMerged_16 : decode (mtC m_L_isMerged) 16 = .ok (.if_icmp .ge 28, 3) := by decide +kernel
theorem k_L_isMerged_19 : decode (mtC m_L_isMerged) 19 = .ok (.aload_n 0, 1) := by decide +kernel
theorem k_L_isMerged_20 : decode (mtC m_L_isMerged) 20 = .ok (.iload_n 1, 1) := by decide +kernel
theorem k_L_isMerged_21 : decode (mtC m_L_isMerged) 21 = .ok (.iload 6, 2) := by decide +kernel
theorem k_L_isMerged_23 : decode (mtC m_L_isMerged) 23 = .ok (.invokevirtual 126, 3) := by decide +kernel
theorem k_L_isMerged_26 : decode (mtC m_L_isMerged) 26 = .ok (.aload_n 0, 1) := by decide +kernel
theorem k_L_isMerged_27 : decode (mtC m_L_isMerged) 27 = .ok (.iload_n 3, 1) := by decide +kernel
theorem k_L_isMerged_28 : decode (mtC m_L_isMerged) 28 = .ok (.iload 6, 2) := by decide +kernel
theorem k_L_isMerged_30 : decode (mtC m_L_isMerged) 30 = .ok (.invokevirtual 148, 3) := by decide +kernel
theorem k_L_isMerged_33 : decode (mtC m_L_isMerged) 33 = .ok (.if_icmp .eq 5, 3) := by decide +kernel
theorem k_L_isMerged_36 : decode (mtC m_L_isMerged) 36 = .ok (.iconst 0, 1) := by decide +kernel
theorem k_L_isMerged_37 : decode (mtC m_L_isMerged) 37 = .ok (.ireturn, 1) := by decide +kernel
theorem k_L_isMerged_38 : decode (mtC m_L_isMerged) 38 = .ok (.iinc 6 5, 3) := by decide +kernel
theorem k_L_isMerged_41 : decode (mtC m_L_isMerged) 41 = .ok (.goto (-29), 3) := by decide +kernel
theorem k_L_isMerged_44 : decode (mtC m_L_isMerged) 44 = .ok (.aload_n 0, 1) := by decide +kernel
theorem k_L_isMerged_45 : decode (mtC m_L_isMerged) 45 = .ok (.iload_n 1, 1) := by decide +kernel
theorem k_L_isMerged_46 : decode (mtC m_L_isMerged) 46 = .ok (.iload_n 2, 1) := by decide +kernel
theorem k_L_isMerged_47 : decode (mtC m_L_isMerged) 47 = .ok (.invokevirtual 91, 3) := by decide +kernel
theorem k_L_isMerged_50 : decode (mtC m_L_isMerged) 50 = .ok (.pop, 1) := by decide +kernel
theorem k_L_isMerged_51 : decode (mtC m_L_isMerged) 51 = .ok (.aload_n 0, 1) := by decide +kernel
theorem k_L_isMerged_52 : decode (mtC m_L_isMerged) 52 = .ok (.iload_n 2, 1) := by decide +kernel
theorem k_L_isMerged_53 : decode (mtC m_L_isMerged) 53 = .ok (.iload 5, 2) := by decide +kernel
theorem k_L_isMerged_55 : decode (mtC m_L_isMerged) 55 = .ok (.invokevirtual 84, 3) := by decide +kernel
theorem k_L_isMerged_58 : decode (mtC m_L_isMerged) 58 = .ok (.pop, 1) := by decide +kernel
theorem k_L_isMerged_59 : decode (mtC m_L_isMerged) 59 = .ok (.iconst (-1), 1) := by decide +kernel
theorem k_L_isMerged_60 : decode (mtC m_L_isMerged) 60 = .ok (.istore 6, 2) := by decide +kernel
theorem k_L_isMerged_62 : decode (mtC m_L_isMerged) 62 = .ok (.iconst 0, 1) := by decide +kernel
theorem k_L_isMerged_63 : decode (mtC m_L_isMerged) 63 = .ok (.istore 7, 2) := by decide +kernel
theorem k_L_isMerged_65 : decode (mtC m_L_isMerged) 65 = .ok (.iload 7, 2) := by decide +kernel
theorem k_L_isMerged_67 : decode (mtC m_L_isMerged) 67 = .ok (.bipush 49, 2) := by decide +kernel
theorem k_L_isMerged_69 : decode (mtC m_L_isMerged) 69 = .ok (.if_icmp .ge 140, 3) := by decide +kernel
theorem k_L_isMerged_72 : decode (mtC m_L_isMerged) 72 = .ok (.aload_n 0, 1) := by decide +kernel
theorem k_L_isMerged_73 : decode (mtC m_L_isMerged) 73 = .ok (.iload_n 1, 1) := by decide +kernel
theorem k_L_isMerged_74 : decode (mtC m_L_isMerged) 74 = .ok (.invokevirtual 106, 3) := by decide +kernel
theorem k_L_isMerged_77 : decode (mtC m_L_isMerged) 77 = .ok (.istore 8, 2) := by decide +kernel
theorem k_L_isMerged_79 : decode (mtC m_L_isMerged) 79 = .ok (.iload 8, 2) := by decide +kernel
theorem k_L_isMerged_81 : decode (mtC m_L_isMerged) 81 = .ok (.bipush (-9), 2) := by decide +kernel
theorem k_L_isMerged_83 : decode (mtC m_L_isMerged) 83 = .ok (.if_icmp .ne 19, 3) := by decide +kernel
theorem k_L_isMerged_86 : decode (mtC m_L_isMerged) 86 = .ok (.aload_n 0, 1) := by decide +kernel
theorem k_L_isMerged_87 : decode (mtC m_L_isMerged) 87 = .ok (.iload_n 2, 1) := by decide +kernel
theorem k_L_isMerged_88 : decode (mtC m_L_isMerged) 88 = .ok (.invokevirtual 106, 3) := by decide +kernel
theorem k_L_isMerged_91 : decode (mtC m_L_isMerged) 91 = .ok (.bipush (-9), 2) := by decide +kernel
theorem k_L_isMerged_93 : decode (mtC m_L_isMerged) 93 = .ok (.if_icmp .ne 7, 3) := by decide +kernel
theorem k_L_isMerged_96 : decode (mtC m_L_isMerged) 96 = .ok (.iconst 1, 1) := by decide +kernel
theorem k_L_isMerged_97 : decode (mtC m_L_isMerged) 97 = .ok (.goto 4, 3) := by decide +kernel
theorem k_L_isMerged_100 : decode (mtC m_L_isMerged) 100 = .ok (.iconst 0, 1) := by decide +kernel
theorem k_L_isMerged_101 : decode (mtC m_L_isMerged) 101 = .ok (.ireturn, 1) := by decide +kernel
theorem k_L_isMerged_102 : decode (mtC m_L_isMerged) 102 = .ok (.aload_n 0, 1) := by decide +kernel
theorem k_L_isMerged_103 : decode (mtC m_L_isMerged) 103 = .ok (.iload_n 1, 1) := by decide +kernel
theorem k_L_isMerged_104 : decode (mtC m_L_isMerged) 104 = .ok (.iconst 4, 1) := by decide +kernel
theorem k_L_isMerged_105 : decode (mtC m_L_isMerged) 105 = .ok (.invokevirtual 112, 3) := by decide +kernel
theorem k_L_isMerged_108 : decode (mtC m_L_isMerged) 108 = .ok (.istore 9, 2) := by decide +kernel
theorem k_L_isMerged_110 : decode (mtC m_L_isMerged) 110 = .ok (.aload_n 0, 1) := by decide +kernel
theorem k_L_isMerged_111 : decode (mtC m_L_isMerged) 111 = .ok (.iload_n 1, 1) := by decide +kernel
theorem k_L_isMerged_112 : decode (mtC m_L_isMerged) 112 = .ok (.iconst 5, 1) := by decide +kernel
theorem k_L_isMerged_113 : decode (mtC m_L_isMerged) 113 = .ok (.invokevirtual 112, 3) := by decide +kernel
theorem k_L_isMerged_116 : decode (mtC m_L_isMerged) 116 = .ok (.istore 10, 2) := by decide +kernel
theorem k_L_isMerged_118 : decode (mtC m_L_isMerged) 118 = .ok (.bipush 64, 2) := by decide +kernel
theorem k_L_isMerged_120 : decode (mtC m_L_isMerged) 120 = .ok (.iload 8, 2) := by decide +kernel
theorem k_L_isMerged_122 : decode (mtC m_L_isMerged) 122 = .ok (.imul, 1) := by decide +kernel
theorem k_L_isMerged_123 : decode (mtC m_L_isMerged) 123 = .ok (.bipush 8, 2) := by decide +kernel
theorem k_L_isMerged_125 : decode (mtC m_L_isMerged) 125 = .ok (.iload 4, 2) := by decide +kernel
theorem k_L_isMerged_127 : decode (mtC m_L_isMerged) 127 = .ok (.ifCond .eq 10, 3) := by decide +kernel
theorem k_L_isMerged_130 : decode (mtC m_L_isMerged) 130 = .ok (.iconst 5, 1) := by decide +kernel
theorem k_L_isMerged_131 : decode (mtC m_L_isMerged) 131 = .ok (.iload 9, 2) := by decide +kernel
theorem k_L_isMerged_133 : decode (mtC m_L_isMerged) 133 = .ok (.isub, 1) := by decide +kernel
theorem k_L_isMerged_134 : decode (mtC m_L_isMerged) 134 = .ok (.goto 5, 3) := by decide +kernel
theorem k_L_isMerged_137 : decode (mtC m_L_isMerged) 137 = .ok (.iload 9, 2) := by decide +kernel
theorem k_L_isMerged_139 : decode (mtC m_L_isMerged) 139 = .ok (.imul, 1) := by decide +kernel
theorem k_L_isMerged_140 : decode (mtC m_L_isMerged) 140 = .ok (.iadd, 1) := by decide +kernel
theorem k_L_isMerged_141 : decode (mtC m_L_isMerged) 141 = .ok (.iload 10, 2) := by decide +kernel
theorem k_L_isMerged_143 : decode (mtC m_L_isMerged) 143 = .ok (.iadd, 1) := by decide +kernel
theorem k_L_isMerged_144 : decode (mtC m_L_isMerged) 144 = .ok (.istore 11, 2) := by decide +kernel
theorem k_L_isMerged_146 : decode (mtC m_L_isMerged) 146 = .ok (.iload 11, 2) := by decide +kernel
theorem k_L_isMerged_148 : decode (mtC m_L_isMerged) 148 = .ok (.iload 6, 2) := by decide +kernel
theorem k_L_isMerged_150 : decode (mtC m_L_isMerged) 150 = .ok (.if_icmp .gt 5, 3) := by decide +kernel
theorem k_L_isMerged_153 : decode (mtC m_L_isMerged) 153 = .ok (.iconst 0, 1) := by decide +kernel
theorem k_L_isMerged_154 : decode (mtC m_L_isMerged) 154 = .ok (.ireturn, 1) := by decide +kernel
theorem k_L_isMerged_155 : decode (mtC m_L_isMerged) 155 = .ok (.iload 11, 2) := by decide +kernel
theorem k_L_isMerged_157 : decode (mtC m_L_isMerged) 157 = .ok (.istore 6, 2) := by decide +kernel
theorem k_L_isMerged_159 : decode (mtC m_L_isMerged) 159 = .ok (.iload 9, 2) := by decide +kernel
theorem k_L_isMerged_161 : decode (mtC m_L_isMerged) 161 = .ok (.iload 5, 2) := by decide +kernel
theorem k_L_isMerged_163 : decode (mtC m_L_isMerged) 163 = .ok (.if_icmp .ne 6, 3) := by decide +kernel
theorem k_L_isMerged_166 : decode (mtC m_L_isMerged) 166 = .ok (.goto 37, 3) := by decide +kernel
theorem k_L_isMerged_169 : decode (mtC m_L_isMerged) 169 = .ok (.aload_n 0, 1) := by decide +kernel
theorem k_L_isMerged_170 : decode (mtC m_L_isMerged) 170 = .ok (.iload_n 2, 1) := by decide +kernel
theorem k_L_isMerged_171 : decode (mtC m_L_isMerged) 171 = .ok (.invokevirtual 106, 3) := by decide +kernel
theorem k_L_isMerged_174 : decode (mtC m_L_isMerged) 174 = .ok (.iload 8, 2) := by decide +kernel
theorem k_L_isMerged_176 : decode (mtC m_L_isMerged) 176 = .ok (.if_icmp .ne 25, 3) := by decide +kernel
theorem k_L_isMerged_179 : decode (mtC m_L_isMerged) 179 = .ok (.aload_n 0, 1) := by decide +kernel
theorem k_L_isMerged_180 : decode (mtC m_L_isMerged) 180 = .ok (.iload_n 2, 1) := by decide +kernel
theorem k_L_isMerged_181 : decode (mtC m_L_isMerged) 181 = .ok (.iconst 4, 1) := by decide +kernel
theorem k_L_isMerged_182 : decode (mtC m_L_isMerged) 182 = .ok (.invokevirtual 112, 3) := by decide +kernel
theorem k_L_isMerged_185 : decode (mtC m_L_isMerged) 185 = .ok (.iload 9, 2) := by decide +kernel
theorem k_L_isMerged_187 : decode (mtC m_L_isMerged) 187 = .ok (.if_icmp .ne 14, 3) := by decide +kernel
theorem k_L_isMerged_190 : decode (mtC m_L_isMerged) 190 = .ok (.aload_n 0, 1) := by decide +kernel
theorem k_L_isMerged_191 : decode (mtC m_L_isMerged) 191 = .ok (.iload_n 2, 1) := by decide +kernel
theorem k_L_isMerged_192 : decode (mtC m_L_isMerged) 192 = .ok (.iconst 5, 1) := by decide +kernel
theorem k_L_isMerged_193 : decode (mtC m_L_isMerged) 193 = .ok (.invokevirtual 112, 3) := by decide +kernel
theorem k_L_isMerged_196 : decode (mtC m_L_isMerged) 196 = .ok (.iload 10, 2) := by decide +kernel
theorem k_L_isMerged_198 : decode (mtC m_L_isMerged) 198 = .ok (.if_icmp .eq 5, 3) := by decide +kernel
theorem k_L_isMerged_201 : decode (mtC m_L_isMerged) 201 = .ok (.iconst 0, 1) := by decide +kernel
theorem k_L_isMerged_202 : decode (mtC m_L_isMerged) 202 = .ok (.ireturn, 1) := by decide +kernel
theorem k_L_isMerged_203 : decode (mtC m_L_isMerged) 203 = .ok (.iinc 7 1, 3) := by decide +kernel
theorem k_L_isMerged_206 : decode (mtC m_L_isMerged) 206 = .ok (.goto (-141), 3) := by decide +kernel
theorem k_L_isMerged_209 : decode (mtC m_L_isMerged) 209 = .ok (.iconst 0, 1) := by decide +kernel
theorem k_L_isMerged_210 : decode (mtC m_L_isMerged) 210 = .ok (.ireturn, 1) := by decide +kernel
set_option maxHeartbeats 4000000 in
set_option maxRecDepth 100000 in
theorem T_L_isMerged_0 {d : Nat} {x1 : Int} {x2 : Int} {x3 : Int} {x4 : Int} {x5 : Int} {M : AMem} {Q : Option AV → AMem → Prop}  (h : CallI d m_H_merge [vR 3 0, vI x1, vI x3, vI x4] M (fun y2 M1 => RunQ (d + 1) m_L_isMerged 12 [some (vR 3 0), some (vI x1), some (vI x2), some (vI x3), some (vI x4), some (vI x5), some (vI 0), none, none, none, none, none] [] M1 Q)) : RunQ (d + 1) m_L_isMerged 0 [some (vR 3 0), some (vI x1), some (vI x2), some (vI x3), some (vI x4), some (vI x5), none, none, none, none, none, none] [] M Q := by
  refine q_aload_n 0 k_L_isMerged_0 rfl ?_
  refine q_iload_n 1 k_L_isMerged_1 rfl ?_
  refine q_iload_n 2 k_L_isMerged_2 rfl ?_
  refine q_iload 3 k_L_isMerged_3 rfl ?_
  refine q_vI 5 [vI x1, vI x3, vI x4] [] k_L_isMerged_5 lk_4_67 rfl rfl rfl rfl rfl rfl rfl rfl (CallI.mono (fun y2 M1 h3 => ?_) h)
  refine q_pop 8 k_L_isMerged_8 rfl ?_
  refine q_iconst 9 k_L_isMerged_9 ?_
  refine q_istore 10 k_L_isMerged_10 (ls' := [some (vR 3 0), some (vI x1), some (vI x2), some (vI x3), some (vI x4), some (vI x5), some (vI 0), none, none, none, none, none]) rfl rfl ?_
  exact h3
set_option maxHeartbeats 4000000 in
set_option maxRecDepth 100000 in
theorem T_L_isMerged_12 {d : Nat} {x1 : Int} {x2 : Int} {x3 : Int} {x4 : Int} {x5 : Int} {x6 : Int} {M : AMem} {Q : Option AV → AMem → Prop}  (h : ((48 ≤ wI x6) → CallI d m_H_copy [vR 3 0, vI x1, vI x2] M (fun y2 M1 => CallI d m_H_close [vR 3 0, vI x2, vI x5] M1 (fun y4 M3 => RunQ (d + 1) m_L_isMerged 65 [some (vR 3 0), some (vI x1), some (vI x2), some (vI x3), some (vI x4), some (vI x5), some (vI (-1)), some (vI 0), none, none, none, none] [] M3 Q))) ∧ (¬ (48 ≤ wI x6) → CallI d m_H_nth [vR 3 0, vI x1, vI x6] M (fun y6 M5 => CallI d m_H_least [vR 3 0, vI x3, vI x6] M5 (fun y8 M7 => ((wI y6 = wI y8) → RunQ (d + 1) m_L_isMerged 12 [some (vR 3 0), some (vI x1), some (vI x2), some (vI x3), some (vI x4), some (vI x5), some (vI (x6 + 5)), none, none, none, none, none] [] M7 Q) ∧ (¬ (wI y6 = wI y8) → Q (some (vI 0)) M7))))) : RunQ (d + 1) m_L_isMerged 12 [some (vR 3 0), some (vI x1), some (vI x2), some (vI x3), some (vI x4), some (vI x5), some (vI x6), none, none, none, none, none] [] M Q := by
  refine q_iload 12 k_L_isMerged_12 rfl ?_
  refine q_bipush 14 k_L_isMerged_14 (by decide) ?_
  refine q_icmp_ge 16 44 k_L_isMerged_16 rfl rfl (fun c16 => ?_) (fun c16 => ?_)
  · have ht := h.1 c16
    refine q_aload_n 44 k_L_isMerged_44 rfl ?_
    refine q_iload_n 45 k_L_isMerged_45 rfl ?_
    refine q_iload_n 46 k_L_isMerged_46 rfl ?_
    refine q_vI 47 [vI x1, vI x2] [] k_L_isMerged_47 lk_4_91 rfl rfl rfl rfl rfl rfl rfl rfl (CallI.mono (fun y2 M1 h9 => ?_) ht)
    refine q_pop 50 k_L_isMerged_50 rfl ?_
    refine q_aload_n 51 k_L_isMerged_51 rfl ?_
    refine q_iload_n 52 k_L_isMerged_52 rfl ?_
    refine q_iload 53 k_L_isMerged_53 rfl ?_
    refine q_vI 55 [vI x2, vI x5] [] k_L_isMerged_55 lk_4_84 rfl rfl rfl rfl rfl rfl rfl rfl (CallI.mono (fun y4 M3 h10 => ?_) h9)
    refine q_pop 58 k_L_isMerged_58 rfl ?_
    refine q_iconst 59 k_L_isMerged_59 ?_
    refine q_istore 60 k_L_isMerged_60 (ls' := [some (vR 3 0), some (vI x1), some (vI x2), some (vI x3), some (vI x4), some (vI x5), some (vI (-1)), none, none, none, none, none]) rfl rfl ?_
    refine q_iconst 62 k_L_isMerged_62 ?_
    refine q_istore 63 k_L_isMerged_63 (ls' := [some (vR 3 0), some (vI x1), some (vI x2), some (vI x3), some (vI x4), some (vI x5), some (vI (-1)), some (vI 0), none, none, none, none]) rfl rfl ?_
    exact h10
  · have hf := h.2 c16
    refine q_aload_n 19 k_L_isMerged_19 rfl ?_
    refine q_iload_n 20 k_L_isMerged_20 rfl ?_
    refine q_iload 21 k_L_isMerged_21 rfl ?_
    refine q_vI 23 [vI x1, vI x6] [] k_L_isMerged_23 lk_4_126 rfl rfl rfl rfl rfl rfl rfl rfl (CallI.mono (fun y6 M5 h11 => ?_) hf)
    refine q_aload_n 26 k_L_isMerged_26 rfl ?_
    refine q_iload_n 27 k_L_isMerged_27 rfl ?_
    refine q_iload 28 k_L_isMerged_28 rfl ?_
    refine q_vI 30 [vI x3, vI x6] [vI y6] k_L_isMerged_30 lk_4_148 rfl rfl rfl rfl rfl rfl rfl rfl (CallI.mono (fun y8 M7 h12 => ?_) h11)
    refine q_icmp_eq 33 38 k_L_isMerged_33 rfl rfl (fun c33 => ?_) (fun c33 => ?_)
    · have h12t := h12.1 c33
      refine q_iinc 38 k_L_isMerged_38 (ls' := [some (vR 3 0), some (vI x1), some (vI x2), some (vI x3), some (vI x4), some (vI x5), some (vI (x6 + 5)), none, none, none, none, none]) rfl rfl rfl ?_
      refine q_goto 41 12 k_L_isMerged_41 rfl rfl ?_
      exact h12t
    · have h12f := h12.2 c33
      refine q_iconst 36 k_L_isMerged_36 ?_
      exact q_zret 37 k_L_isMerged_37 rfl (Or.inl rfl) h12f
set_option maxHeartbeats 4000000 in
set_option maxRecDepth 100000 in
theorem T_L_isMerged_65 {d : Nat} {x1 : Int} {x2 : Int} {x3 : Int} {x4 : Int} {x5 : Int} {x6 : Int} {x7 : Int} {u8 : Option AV} {u9 : Option AV} {u10 : Option AV} {u11 : Option AV} {M : AMem} {Q : Option AV → AMem → Prop}  (h : ((49 ≤ wI x7) → Q (some (vI 0)) M) ∧ (¬ (49 ≤ wI x7) → CallI d m_H_draw [vR 3 0, vI x1] M (fun y2 M1 => ((¬ wI y2 = (-9)) → CallI d m_H_ofWell [vR 3 0, vI x1, vI 4] M1 (fun y4 M3 => CallI d m_H_ofWell [vR 3 0, vI x1, vI 5] M3 (fun y6 M5 => ((wI x4 = 0) → ((wI x6 < wI (((64 * y2) + (8 * y4)) + y6)) → ((¬ wI y4 = wI x5) → CallI d m_H_draw [vR 3 0, vI x2] M5 (fun y8 M7 => ((¬ wI y8 = wI y2) → Q (some (vI 0)) M7) ∧ (¬ (¬ wI y8 = wI y2) → CallI d m_H_ofWell [vR 3 0, vI x2, vI 4] M7 (fun y10 M9 => ((¬ wI y10 = wI y4) → Q (some (vI 0)) M9) ∧ (¬ (¬ wI y10 = wI y4) → CallI d m_H_ofWell [vR 3 0, vI x2, vI 5] M9 (fun y12 M11 => ((wI y12 = wI y6) → RunQ (d + 1) m_L_isMerged 65 [some (vR 3 0), some (vI x1), some (vI x2), some (vI x3), some (vI x4), some (vI x5), some (vI (((64 * y2) + (8 * y4)) + y6)), some (vI (x7 + 1)), some (vI y2), some (vI y4), some (vI y6), some (vI (((64 * y2) + (8 * y4)) + y6))] [] M11 Q) ∧ (¬ (wI y12 = wI y6) → Q (some (vI 0)) M11))))))) ∧ (¬ (¬ wI y4 = wI x5) → RunQ (d + 1) m_L_isMerged 65 [some (vR 3 0), some (vI x1), some (vI x2), some (vI x3), some (vI x4), some (vI x5), some (vI (((64 * y2) + (8 * y4)) + y6)), some (vI (x7 + 1)), some (vI y2), some (vI y4), some (vI y6), some (vI (((64 * y2) + (8 * y4)) + y6))] [] M5 Q)) ∧ (¬ (wI x6 < wI (((64 * y2) + (8 * y4)) + y6)) → Q (some (vI 0)) M5)) ∧ (¬ (wI x4 = 0) → ((wI x6 < wI (((64 * y2) + (8 * (5 - y4))) + y6)) → ((¬ wI y4 = wI x5) → CallI d m_H_draw [vR 3 0, vI x2] M5 (fun y14 M13 => ((¬ wI y14 = wI y2) → Q (some (vI 0)) M13) ∧ (¬ (¬ wI y14 = wI y2) → CallI d m_H_ofWell [vR 3 0, vI x2, vI 4] M13 (fun y16 M15 => ((¬ wI y16 = wI y4) → Q (some (vI 0)) M15) ∧ (¬ (¬ wI y16 = wI y4) → CallI d m_H_ofWell [vR 3 0, vI x2, vI 5] M15 (fun y18 M17 => ((wI y18 = wI y6) → RunQ (d + 1) m_L_isMerged 65 [some (vR 3 0), some (vI x1), some (vI x2), some (vI x3), some (vI x4), some (vI x5), some (vI (((64 * y2) + (8 * (5 - y4))) + y6)), some (vI (x7 + 1)), some (vI y2), some (vI y4), some (vI y6), some (vI (((64 * y2) + (8 * (5 - y4))) + y6))] [] M17 Q) ∧ (¬ (wI y18 = wI y6) → Q (some (vI 0)) M17))))))) ∧ (¬ (¬ wI y4 = wI x5) → RunQ (d + 1) m_L_isMerged 65 [some (vR 3 0), some (vI x1), some (vI x2), some (vI x3), some (vI x4), some (vI x5), some (vI (((64 * y2) + (8 * (5 - y4))) + y6)), some (vI (x7 + 1)), some (vI y2), some (vI y4), some (vI y6), some (vI (((64 * y2) + (8 * (5 - y4))) + y6))] [] M5 Q)) ∧ (¬ (wI x6 < wI (((64 * y2) + (8 * (5 - y4))) + y6)) → Q (some (vI 0)) M5))))) ∧ (¬ (¬ wI y2 = (-9)) → CallI d m_H_draw [vR 3 0, vI x2] M1 (fun y20 M19 => ((¬ wI y20 = (-9)) → Q (some (vI 0)) M19) ∧ (¬ (¬ wI y20 = (-9)) → Q (some (vI 1)) M19)))))) : RunQ (d + 1) m_L_isMerged 65 [some (vR 3 0), some (vI x1), some (vI x2), some (vI x3), some (vI x4), some (vI x5), some (vI x6), some (vI x7), u8, u9, u10, u11] [] M Q := by
  refine q_iload 65 k_L_isMerged_65 rfl ?_
  refine q_bipush 67 k_L_isMerged_67 (by decide) ?_
  refine q_icmp_ge 69 209 k_L_isMerged_69 rfl rfl (fun c69 => ?_) (fun c69 => ?_)
  · have ht := h.1 c69
    refine q_iconst 209 k_L_isMerged_209 ?_
    exact q_zret 210 k_L_isMerged_210 rfl (Or.inl rfl) ht
  · have hf := h.2 c69
    refine q_aload_n 72 k_L_isMerged_72 rfl ?_
    refine q_iload_n 73 k_L_isMerged_73 rfl ?_
    refine q_vI 74 [vI x1] [] k_L_isMerged_74 lk_4_106 rfl rfl rfl rfl rfl rfl rfl rfl (CallI.mono (fun y2 M1 h21 => ?_) hf)
    refine q_istore 77 k_L_isMerged_77 (ls' := [some (vR 3 0), some (vI x1), some (vI x2), some (vI x3), some (vI x4), some (vI x5), some (vI x6), some (vI x7), some (vI y2), u9, u10, u11]) rfl rfl ?_
    refine q_iload 79 k_L_isMerged_79 rfl ?_
    refine q_bipush 81 k_L_isMerged_81 (by decide) ?_
    refine q_icmp_ne 83 102 k_L_isMerged_83 rfl rfl (fun c83 => ?_) (fun c83 => ?_)
    · have h21t := h21.1 c83
      refine q_aload_n 102 k_L_isMerged_102 rfl ?_
      refine q_iload_n 103 k_L_isMerged_103 rfl ?_
      refine q_iconst 104 k_L_isMerged_104 ?_
      refine q_vI 105 [vI x1, vI 4] [] k_L_isMerged_105 lk_4_112 rfl rfl rfl rfl rfl rfl rfl rfl (CallI.mono (fun y4 M3 h22 => ?_) h21t)
      refine q_istore 108 k_L_isMerged_108 (ls' := [some (vR 3 0), some (vI x1), some (vI x2), some (vI x3), some (vI x4), some (vI x5), some (vI x6), some (vI x7), some (vI y2), some (vI y4), u10, u11]) rfl rfl ?_
      refine q_aload_n 110 k_L_isMerged_110 rfl ?_
      refine q_iload_n 111 k_L_isMerged_111 rfl ?_
      refine q_iconst 112 k_L_isMerged_112 ?_
      refine q_vI 113 [vI x1, vI 5] [] k_L_isMerged_113 lk_4_112 rfl rfl rfl rfl rfl rfl rfl rfl (CallI.mono (fun y6 M5 h23 => ?_) h22)
      refine q_istore 116 k_L_isMerged_116 (ls' := [some (vR 3 0), some (vI x1), some (vI x2), some (vI x3), some (vI x4), some (vI x5), some (vI x6), some (vI x7), some (vI y2), some (vI y4), some (vI y6), u11]) rfl rfl ?_
      refine q_bipush 118 k_L_isMerged_118 (by decide) ?_
      refine q_iload 120 k_L_isMerged_120 rfl ?_
      refine q_imul 122 k_L_isMerged_122 ?_
      refine q_bipush 123 k_L_isMerged_123 (by decide) ?_
      refine q_iload 125 k_L_isMerged_125 rfl ?_
      refine q_if_eq 127 137 k_L_isMerged_127 rfl rfl (fun c127 => ?_) (fun c127 => ?_)
      · have h23t := h23.1 c127
        refine q_iload 137 k_L_isMerged_137 rfl ?_
        refine q_imul 139 k_L_isMerged_139 ?_
        refine q_iadd 140 k_L_isMerged_140 ?_
        refine q_iload 141 k_L_isMerged_141 rfl ?_
        refine q_iadd 143 k_L_isMerged_143 ?_
        refine q_istore 144 k_L_isMerged_144 (ls' := [some (vR 3 0), some (vI x1), some (vI x2), some (vI x3), some (vI x4), some (vI x5), some (vI x6), some (vI x7), some (vI y2), some (vI y4), some (vI y6), some (vI (((64 * y2) + (8 * y4)) + y6))]) rfl rfl ?_
        refine q_iload 146 k_L_isMerged_146 rfl ?_
        refine q_iload 148 k_L_isMerged_148 rfl ?_
        refine q_icmp_gt 150 155 k_L_isMerged_150 rfl rfl (fun c150 => ?_) (fun c150 => ?_)
        · have h23tt := h23t.1 c150
          refine q_iload 155 k_L_isMerged_155 rfl ?_
          refine q_istore 157 k_L_isMerged_157 (ls' := [some (vR 3 0), some (vI x1), some (vI x2), some (vI x3), some (vI x4), some (vI x5), some (vI (((64 * y2) + (8 * y4)) + y6)), some (vI x7), some (vI y2), some (vI y4), some (vI y6), some (vI (((64 * y2) + (8 * y4)) + y6))]) rfl rfl ?_
          refine q_iload 159 k_L_isMerged_159 rfl ?_
          refine q_iload 161 k_L_isMerged_161 rfl ?_
          refine q_icmp_ne 163 169 k_L_isMerged_163 rfl rfl (fun c163 => ?_) (fun c163 => ?_)
          · have h23ttt := h23tt.1 c163
            refine q_aload_n 169 k_L_isMerged_169 rfl ?_
            refine q_iload_n 170 k_L_isMerged_170 rfl ?_
            refine q_vI 171 [vI x2] [] k_L_isMerged_171 lk_4_106 rfl rfl rfl rfl rfl rfl rfl rfl (CallI.mono (fun y8 M7 h24 => ?_) h23ttt)
            refine q_iload 174 k_L_isMerged_174 rfl ?_
            refine q_icmp_ne 176 201 k_L_isMerged_176 rfl rfl (fun c176 => ?_) (fun c176 => ?_)
            · have h24t := h24.1 c176
              refine q_iconst 201 k_L_isMerged_201 ?_
              exact q_zret 202 k_L_isMerged_202 rfl (Or.inl rfl) h24t
            · have h24f := h24.2 c176
              refine q_aload_n 179 k_L_isMerged_179 rfl ?_
              refine q_iload_n 180 k_L_isMerged_180 rfl ?_
              refine q_iconst 181 k_L_isMerged_181 ?_
              refine q_vI 182 [vI x2, vI 4] [] k_L_isMerged_182 lk_4_112 rfl rfl rfl rfl rfl rfl rfl rfl (CallI.mono (fun y10 M9 h25 => ?_) h24f)
              refine q_iload 185 k_L_isMerged_185 rfl ?_
              refine q_icmp_ne 187 201 k_L_isMerged_187 rfl rfl (fun c187 => ?_) (fun c187 => ?_)
              · have h25t := h25.1 c187
                refine q_iconst 201 k_L_isMerged_201 ?_
                exact q_zret 202 k_L_isMerged_202 rfl (Or.inl rfl) h25t
              · have h25f := h25.2 c187
                refine q_aload_n 190 k_L_isMerged_190 rfl ?_
                refine q_iload_n 191 k_L_isMerged_191 rfl ?_
                refine q_iconst 192 k_L_isMerged_192 ?_
                refine q_vI 193 [vI x2, vI 5] [] k_L_isMerged_193 lk_4_112 rfl rfl rfl rfl rfl rfl rfl rfl (CallI.mono (fun y12 M11 h26 => ?_) h25f)
                refine q_iload 196 k_L_isMerged_196 rfl ?_
                refine q_icmp_eq 198 203 k_L_isMerged_198 rfl rfl (fun c198 => ?_) (fun c198 => ?_)
                · have h26t := h26.1 c198
                  refine q_iinc 203 k_L_isMerged_203 (ls' := [some (vR 3 0), some (vI x1), some (vI x2), some (vI x3), some (vI x4), some (vI x5), some (vI (((64 * y2) + (8 * y4)) + y6)), some (vI (x7 + 1)), some (vI y2), some (vI y4), some (vI y6), some (vI (((64 * y2) + (8 * y4)) + y6))]) rfl rfl rfl ?_
                  refine q_goto 206 65 k_L_isMerged_206 rfl rfl ?_
                  exact h26t
                · have h26f := h26.2 c198
                  refine q_iconst 201 k_L_isMerged_201 ?_
                  exact q_zret 202 k_L_isMerged_202 rfl (Or.inl rfl) h26f
          · have h23ttf := h23tt.2 c163
            refine q_goto 166 203 k_L_isMerged_166 rfl rfl ?_
            refine q_iinc 203 k_L_isMerged_203 (ls' := [some (vR 3 0), some (vI x1), some (vI x2), some (vI x3), some (vI x4), some (vI x5), some (vI (((64 * y2) + (8 * y4)) + y6)), some (vI (x7 + 1)), some (vI y2), some (vI y4), some (vI y6), some (vI (((64 * y2) + (8 * y4)) + y6))]) rfl rfl rfl ?_
            refine q_goto 206 65 k_L_isMerged_206 rfl rfl ?_
            exact h23ttf
        · have h23tf := h23t.2 c150
          refine q_iconst 153 k_L_isMerged_153 ?_
          exact q_zret 154 k_L_isMerged_154 rfl (Or.inl rfl) h23tf
      · have h23f := h23.2 c127
        refine q_iconst 130 k_L_isMerged_130 ?_
        refine q_iload 131 k_L_isMerged_131 rfl ?_
        refine q_isub 133 k_L_isMerged_133 ?_
        refine q_goto 134 139 k_L_isMerged_134 rfl rfl ?_
        refine q_imul 139 k_L_isMerged_139 ?_
        refine q_iadd 140 k_L_isMerged_140 ?_
        refine q_iload 141 k_L_isMerged_141 rfl ?_
        refine q_iadd 143 k_L_isMerged_143 ?_
        refine q_istore 144 k_L_isMerged_144 (ls' := [some (vR 3 0), some (vI x1), some (vI x2), some (vI x3), some (vI x4), some (vI x5), some (vI x6), some (vI x7), some (vI y2), some (vI y4), some (vI y6), some (vI (((64 * y2) + (8 * (5 - y4))) + y6))]) rfl rfl ?_
        refine q_iload 146 k_L_isMerged_146 rfl ?_
        refine q_iload 148 k_L_isMerged_148 rfl ?_
        refine q_icmp_gt 150 155 k_L_isMerged_150 rfl rfl (fun c150 => ?_) (fun c150 => ?_)
        · have h23ft := h23f.1 c150
          refine q_iload 155 k_L_isMerged_155 rfl ?_
          refine q_istore 157 k_L_isMerged_157 (ls' := [some (vR 3 0), some (vI x1), some (vI x2), some (vI x3), some (vI x4), some (vI x5), some (vI (((64 * y2) + (8 * (5 - y4))) + y6)), some (vI x7), some (vI y2), some (vI y4), some (vI y6), some (vI (((64 * y2) + (8 * (5 - y4))) + y6))]) rfl rfl ?_
          refine q_iload 159 k_L_isMerged_159 rfl ?_
          refine q_iload 161 k_L_isMerged_161 rfl ?_
          refine q_icmp_ne 163 169 k_L_isMerged_163 rfl rfl (fun c163 => ?_) (fun c163 => ?_)
          · have h23ftt := h23ft.1 c163
            refine q_aload_n 169 k_L_isMerged_169 rfl ?_
            refine q_iload_n 170 k_L_isMerged_170 rfl ?_
            refine q_vI 171 [vI x2] [] k_L_isMerged_171 lk_4_106 rfl rfl rfl rfl rfl rfl rfl rfl (CallI.mono (fun y14 M13 h27 => ?_) h23ftt)
            refine q_iload 174 k_L_isMerged_174 rfl ?_
            refine q_icmp_ne 176 201 k_L_isMerged_176 rfl rfl (fun c176 => ?_) (fun c176 => ?_)
            · have h27t := h27.1 c176
              refine q_iconst 201 k_L_isMerged_201 ?_
              exact q_zret 202 k_L_isMerged_202 rfl (Or.inl rfl) h27t
            · have h27f := h27.2 c176
              refine q_aload_n 179 k_L_isMerged_179 rfl ?_
              refine q_iload_n 180 k_L_isMerged_180 rfl ?_
              refine q_iconst 181 k_L_isMerged_181 ?_
              refine q_vI 182 [vI x2, vI 4] [] k_L_isMerged_182 lk_4_112 rfl rfl rfl rfl rfl rfl rfl rfl (CallI.mono (fun y16 M15 h28 => ?_) h27f)
              refine q_iload 185 k_L_isMerged_185 rfl ?_
              refine q_icmp_ne 187 201 k_L_isMerged_187 rfl rfl (fun c187 => ?_) (fun c187 => ?_)
              · have h28t := h28.1 c187
                refine q_iconst 201 k_L_isMerged_201 ?_
                exact q_zret 202 k_L_isMerged_202 rfl (Or.inl rfl) h28t
              · have h28f := h28.2 c187
                refine q_aload_n 190 k_L_isMerged_190 rfl ?_
                refine q_iload_n 191 k_L_isMerged_191 rfl ?_
                refine q_iconst 192 k_L_isMerged_192 ?_
                refine q_vI 193 [vI x2, vI 5] [] k_L_isMerged_193 lk_4_112 rfl rfl rfl rfl rfl rfl rfl rfl (CallI.mono (fun y18 M17 h29 => ?_) h28f)
                refine q_iload 196 k_L_isMerged_196 rfl ?_
                refine q_icmp_eq 198 203 k_L_isMerged_198 rfl rfl (fun c198 => ?_) (fun c198 => ?_)
                · have h29t := h29.1 c198
                  refine q_iinc 203 k_L_isMerged_203 (ls' := [some (vR 3 0), some (vI x1), some (vI x2), some (vI x3), some (vI x4), some (vI x5), some (vI (((64 * y2) + (8 * (5 - y4))) + y6)), some (vI (x7 + 1)), some (vI y2), some (vI y4), some (vI y6), some (vI (((64 * y2) + (8 * (5 - y4))) + y6))]) rfl rfl rfl ?_
                  refine q_goto 206 65 k_L_isMerged_206 rfl rfl ?_
                  exact h29t
                · have h29f := h29.2 c198
                  refine q_iconst 201 k_L_isMerged_201 ?_
                  exact q_zret 202 k_L_isMerged_202 rfl (Or.inl rfl) h29f
          · have h23ftf := h23ft.2 c163
            refine q_goto 166 203 k_L_isMerged_166 rfl rfl ?_
            refine q_iinc 203 k_L_isMerged_203 (ls' := [some (vR 3 0), some (vI x1), some (vI x2), some (vI x3), some (vI x4), some (vI x5), some (vI (((64 * y2) + (8 * (5 - y4))) + y6)), some (vI (x7 + 1)), some (vI y2), some (vI y4), some (vI y6), some (vI (((64 * y2) + (8 * (5 - y4))) + y6))]) rfl rfl rfl ?_
            refine q_goto 206 65 k_L_isMerged_206 rfl rfl ?_
            exact h23ftf
        · have h23ff := h23f.2 c150
          refine q_iconst 153 k_L_isMerged_153 ?_
          exact q_zret 154 k_L_isMerged_154 rfl (Or.inl rfl) h23ff
    · have h21f := h21.2 c83
      refine q_aload_n 86 k_L_isMerged_86 rfl ?_
      refine q_iload_n 87 k_L_isMerged_87 rfl ?_
      refine q_vI 88 [vI x2] [] k_L_isMerged_88 lk_4_106 rfl rfl rfl rfl rfl rfl rfl rfl (CallI.mono (fun y20 M19 h30 => ?_) h21f)
      refine q_bipush 91 k_L_isMerged_91 (by decide) ?_
      refine q_icmp_ne 93 100 k_L_isMerged_93 rfl rfl (fun c93 => ?_) (fun c93 => ?_)
      · have h30t := h30.1 c93
        refine q_iconst 100 k_L_isMerged_100 ?_
        exact q_zret 101 k_L_isMerged_101 rfl (Or.inl rfl) h30t
      · have h30f := h30.2 c93
        refine q_iconst 96 k_L_isMerged_96 ?_
        refine q_goto 97 101 k_L_isMerged_97 rfl rfl ?_
        exact q_zret 101 k_L_isMerged_101 rfl (Or.inr rfl) h30f
theorem k_L_exponents_0 : decode (mtC m_L_exponents) 0 = .ok (.iload_n 1, 1) := by decide +kernel
theorem k_L_exponents_1 : decode (mtC m_L_exponents) 1 = .ok (.bipush 6, 2) := by decide +kernel
theorem k_L_exponents_3 : decode (mtC m_L_exponents) 3 = .ok (.if_icmp .ne 5, 3) := by decide +kernel
theorem k_L_exponents_6 : decode (mtC m_L_exponents) 6 = .ok (.iconst 1, 1) := by decide +kernel
theorem k_L_exponents_7 : decode (mtC m_L_exponents) 7 = .ok (.ireturn, 1) := by decide +kernel
theorem k_L_exponents_8 : decode (mtC m_L_exponents) 8 = .ok (.iconst 0, 1) := by decide +kernel
theorem k_L_exponents_9 : decode (mtC m_L_exponents) 9 = .ok (.istore_n 3, 1) := by decide +kernel
theorem k_L_exponents_10 : decode (mtC m_L_exponents) 10 = .ok (.iload_n 2, 1) := by decide +kernel
theorem k_L_exponents_11 : decode (mtC m_L_exponents) 11 = .ok (.istore 4, 2) := by decide +kernel
theorem k_L_exponents_13 : decode (mtC m_L_exponents) 13 = .ok (.iload 4, 2) := by decide +kernel
theorem k_L_exponents_15 : decode (mtC m_L_exponents) 15 = .ok (.ifCond .le 40, 3) := by decide +kernel
theorem k_L_exponents_18 : decode (mtC m_L_exponents) 18 = .ok (.iload_n 3, 1) := by decide +kernel
theorem k_L_exponents_19 : decode (mtC m_L_exponents) 19 = .ok (.iload_n 0, 1) := by decide +kernel
theorem k_L_exponents_20 : decode (mtC m_L_exponents) 20 = .ok (.iload_n 1, 1) := by decide +kernel
theorem k_L_exponents_21 : decode (mtC m_L_exponents) 21 = .ok (.iconst 1, 1) := by decide +kernel
theorem k_L_exponents_22 : decode (mtC m_L_exponents) 22 = .ok (.iadd, 1) := by decide +kernel
theorem k_L_exponents_23 : decode (mtC m_L_exponents) 23 = .ok (.iload 4, 2) := by decide +kernel
theorem k_L_exponents_25 : decode (mtC m_L_exponents) 25 = .ok (.invokestatic 151, 3) := by decide +kernel
theorem k_L_exponents_28 : decode (mtC m_L_exponents) 28 = .ok (.iadd, 1) := by decide +kernel
theorem k_L_exponents_29 : decode (mtC m_L_exponents) 29 = .ok (.istore_n 3, 1) := by decide +kernel
theorem k_L_exponents_30 : decode (mtC m_L_exponents) 30 = .ok (.iload_n 0, 1) := by decide +kernel
theorem k_L_exponents_31 : decode (mtC m_L_exponents) 31 = .ok (.iload_n 1, 1) := by decide +kernel
theorem k_L_exponents_32 : decode (mtC m_L_exponents) 32 = .ok (.ishr, 1) := by decide +kernel
theorem k_L_exponents_33 : decode (mtC m_L_exponents) 33 = .ok (.iconst 2, 1) := by decide +kernel
theorem k_L_exponents_34 : decode (mtC m_L_exponents) 34 = .ok (.irem, 1) := by decide +kernel
theorem k_L_exponents_35 : decode (mtC m_L_exponents) 35 = .ok (.ifCond .ne 7, 3) := by decide +kernel
theorem k_L_exponents_38 : decode (mtC m_L_exponents) 38 = .ok (.iconst 0, 1) := by decide +kernel
theorem k_L_exponents_39 : decode (mtC m_L_exponents) 39 = .ok (.goto 11, 3) := by decide +kernel
theorem k_L_exponents_42 : decode (mtC m_L_exponents) 42 = .ok (.iload 4, 2) := by decide +kernel
theorem k_L_exponents_44 : decode (mtC m_L_exponents) 44 = .ok (.getstatic 154, 3) := by decide +kernel
theorem k_L_exponents_47 : decode (mtC m_L_exponents) 47 = .ok (.iload_n 1, 1) := by decide +kernel
theorem k_L_exponents_48 : decode (mtC m_L_exponents) 48 = .ok (.iaload, 1) := by decide +kernel
theorem k_L_exponents_49 : decode (mtC m_L_exponents) 49 = .ok (.idiv, 1) := by decide +kernel
theorem k_L_exponents_50 : decode (mtC m_L_exponents) 50 = .ok (.istore 4, 2) := by decide +kernel
theorem k_L_exponents_52 : decode (mtC m_L_exponents) 52 = .ok (.goto (-39), 3) := by decide +kernel
theorem k_L_exponents_55 : decode (mtC m_L_exponents) 55 = .ok (.iload_n 3, 1) := by decide +kernel
theorem k_L_exponents_56 : decode (mtC m_L_exponents) 56 = .ok (.ireturn, 1) := by decide +kernel
set_option maxHeartbeats 4000000 in
set_option maxRecDepth 100000 in
theorem T_L_exponents_0 {d : Nat} {x0 : Int} {x1 : Int} {x2 : Int} {M : AMem} {Q : Option AV → AMem → Prop}  (h : ((¬ wI x1 = 6) → RunQ (d + 1) m_L_exponents 13 [some (vI x0), some (vI x1), some (vI x2), some (vI 0), some (vI x2)] [] M Q) ∧ (¬ (¬ wI x1 = 6) → Q (some (vI 1)) M)) : RunQ (d + 1) m_L_exponents 0 [some (vI x0), some (vI x1), some (vI x2), none, none] [] M Q := by
  refine q_iload_n 0 k_L_exponents_0 rfl ?_
  refine q_bipush 1 k_L_exponents_1 (by decide) ?_
  refine q_icmp_ne 3 8 k_L_exponents_3 rfl rfl (fun c3 => ?_) (fun c3 => ?_)
  · have ht := h.1 c3
    refine q_iconst 8 k_L_exponents_8 ?_
    refine q_istore_n 9 k_L_exponents_9 (ls' := [some (vI x0), some (vI x1), some (vI x2), some (vI 0), none]) rfl rfl ?_
    refine q_iload_n 10 k_L_exponents_10 rfl ?_
    refine q_istore 11 k_L_exponents_11 (ls' := [some (vI x0), some (vI x1), some (vI x2), some (vI 0), some (vI x2)]) rfl rfl ?_
    exact ht
  · have hf := h.2 c3
    refine q_iconst 6 k_L_exponents_6 ?_
    exact q_iret 7 k_L_exponents_7 rfl hf
set_option maxHeartbeats 4000000 in
set_option maxRecDepth 100000 in
theorem T_L_exponents_13 {d : Nat} {x0 : Int} {x1 : Int} {x2 : Int} {x3 : Int} {x4 : Int} {M : AMem} {Q : Option AV → AMem → Prop}  (h : ((wI x4 ≤ 0) → Q (some (vI x3)) M) ∧ (¬ (wI x4 ≤ 0) → CallI d m_L_exponents [vI x0, vI (x1 + 1), vI x4] M (fun y2 M1 => ((¬ wI (Int.tmod (wI (opShr x0 x1)) (2)) = 0) → (0 ≤ wI x1 ∧ wI x1 < (6 : Nat)) ∧ ((¬ wI (bas (wI x1).toNat) = 0) ∧ (RunQ (d + 1) m_L_exponents 13 [some (vI x0), some (vI x1), some (vI x2), some (vI (x3 + y2)), some (vI (Int.tdiv (wI x4) (wI (bas (wI x1).toNat))))] [] M1 Q))) ∧ (¬ (¬ wI (Int.tmod (wI (opShr x0 x1)) (2)) = 0) → RunQ (d + 1) m_L_exponents 13 [some (vI x0), some (vI x1), some (vI x2), some (vI (x3 + y2)), some (vI 0)] [] M1 Q)))) : RunQ (d + 1) m_L_exponents 13 [some (vI x0), some (vI x1), some (vI x2), some (vI x3), some (vI x4)] [] M Q := by
  refine q_iload 13 k_L_exponents_13 rfl ?_
  refine q_if_le 15 55 k_L_exponents_15 rfl rfl (fun c15 => ?_) (fun c15 => ?_)
  · have ht := h.1 c15
    refine q_iload_n 55 k_L_exponents_55 rfl ?_
    exact q_iret 56 k_L_exponents_56 rfl ht
  · have hf := h.2 c15
    refine q_iload_n 18 k_L_exponents_18 rfl ?_
    refine q_iload_n 19 k_L_exponents_19 rfl ?_
    refine q_iload_n 20 k_L_exponents_20 rfl ?_
    refine q_iconst 21 k_L_exponents_21 ?_
    refine q_iadd 22 k_L_exponents_22 ?_
    refine q_iload 23 k_L_exponents_23 rfl ?_
    refine q_sI 25 [vI x0, vI (x1 + 1), vI x4] [vI x3] k_L_exponents_25 rfl lk_4_151 rfl rfl rfl rfl rfl rfl (CallI.mono (fun y2 M1 h4 => ?_) hf)
    refine q_iadd 28 k_L_exponents_28 ?_
    refine q_istore_n 29 k_L_exponents_29 (ls' := [some (vI x0), some (vI x1), some (vI x2), some (vI (x3 + y2)), some (vI x4)]) rfl rfl ?_
    refine q_iload_n 30 k_L_exponents_30 rfl ?_
    refine q_iload_n 31 k_L_exponents_31 rfl ?_
    refine q_ishr 32 k_L_exponents_32 ?_
    refine q_iconst 33 k_L_exponents_33 ?_
    refine q_irem 34 k_L_exponents_34 (by decide) ?_
    refine q_if_ne 35 42 k_L_exponents_35 rfl rfl (fun c35 => ?_) (fun c35 => ?_)
    · have h4t := h4.1 c35
      refine q_iload 42 k_L_exponents_42 rfl ?_
      refine q_getstatic 44 k_L_exponents_44 (a := 11) rfl ?_
      refine q_iload_n 47 k_L_exponents_47 rfl ?_
      have hb3 := h4t.1
      refine q_iaload 48 k_L_exponents_48 rfl (n := 6) rfl hb3 (z := (bas (wI x1).toNat)) rfl ?_
      have h4t' := h4t.2
      refine q_idiv 49 k_L_exponents_49 h4t'.1 ?_
      have h4t'' := h4t'.2
      refine q_istore 50 k_L_exponents_50 (ls' := [some (vI x0), some (vI x1), some (vI x2), some (vI (x3 + y2)), some (vI (Int.tdiv (wI x4) (wI (bas (wI x1).toNat))))]) rfl rfl ?_
      refine q_goto 52 13 k_L_exponents_52 rfl rfl ?_
      exact h4t''
    · have h4f := h4.2 c35
      refine q_iconst 38 k_L_exponents_38 ?_
      refine q_goto 39 50 k_L_exponents_39 rfl rfl ?_
      refine q_istore 50 k_L_exponents_50 (ls' := [some (vI x0), some (vI x1), some (vI x2), some (vI (x3 + y2)), some (vI 0)]) rfl rfl ?_
      refine q_goto 52 13 k_L_exponents_52 rfl rfl ?_
      exact h4f
theorem k_L_isCounted_0 : decode (mtC m_L_isCounted) 0 = .ok (.iconst 1, 1) := by decide +kernel
theorem k_L_isCounted_1 : decode (mtC m_L_isCounted) 1 = .ok (.iload_n 2, 1) := by decide +kernel
theorem k_L_isCounted_2 : decode (mtC m_L_isCounted) 2 = .ok (.bipush 63, 2) := by decide +kernel
theorem k_L_isCounted_4 : decode (mtC m_L_isCounted) 4 = .ok (.invokestatic 23, 3) := by decide +kernel
theorem k_L_isCounted_7 : decode (mtC m_L_isCounted) 7 = .ok (.iadd, 1) := by decide +kernel
theorem k_L_isCounted_8 : decode (mtC m_L_isCounted) 8 = .ok (.istore 5, 2) := by decide +kernel
theorem k_L_isCounted_10 : decode (mtC m_L_isCounted) 10 = .ok (.iload 4, 2) := by decide +kernel
theorem k_L_isCounted_12 : decode (mtC m_L_isCounted) 12 = .ok (.iconst 3, 1) := by decide +kernel
theorem k_L_isCounted_13 : decode (mtC m_L_isCounted) 13 = .ok (.invokestatic 23, 3) := by decide +kernel
theorem k_L_isCounted_16 : decode (mtC m_L_isCounted) 16 = .ok (.ifCond .ne 14, 3) := by decide +kernel
theorem k_L_isCounted_19 : decode (mtC m_L_isCounted) 19 = .ok (.iconst 1, 1) := by decide +kernel
theorem k_L_isCounted_20 : decode (mtC m_L_isCounted) 20 = .ok (.iload_n 3, 1) := by decide +kernel
theorem k_L_isCounted_21 : decode (mtC m_L_isCounted) 21 = .ok (.ldc 119, 2) := by decide +kernel
theorem k_L_isCounted_23 : decode (mtC m_L_isCounted) 23 = .ok (.invokestatic 23, 3) := by decide +kernel
theorem k_L_isCounted_26 : decode (mtC m_L_isCounted) 26 = .ok (.iadd, 1) := by decide +kernel
theorem k_L_isCounted_27 : decode (mtC m_L_isCounted) 27 = .ok (.goto 12, 3) := by decide +kernel
theorem k_L_isCounted_30 : decode (mtC m_L_isCounted) 30 = .ok (.iconst 1, 1) := by decide +kernel
theorem k_L_isCounted_31 : decode (mtC m_L_isCounted) 31 = .ok (.iload_n 3, 1) := by decide +kernel
theorem k_L_isCounted_32 : decode (mtC m_L_isCounted) 32 = .ok (.sipush 2000, 3) := by decide +kernel
theorem k_L_isCounted_35 : decode (mtC m_L_isCounted) 35 = .ok (.invokestatic 23, 3) := by decide +kernel
theorem k_L_isCounted_38 : decode (mtC m_L_isCounted) 38 = .ok (.iadd, 1) := by decide +kernel
theorem k_L_isCounted_39 : decode (mtC m_L_isCounted) 39 = .ok (.istore 6, 2) := by decide +kernel
theorem k_L_isCounted_41 : decode (mtC m_L_isCounted) 41 = .ok (.aload_n 0, 1) := by decide +kernel
theorem k_L_isCounted_42 : decode (mtC m_L_isCounted) 42 = .ok (.iload_n 1, 1) := by decide +kernel
theorem k_L_isCounted_43 : decode (mtC m_L_isCounted) 43 = .ok (.iload 5, 2) := by decide +kernel
theorem k_L_isCounted_45 : decode (mtC m_L_isCounted) 45 = .ok (.invokevirtual 57, 3) := by decide +kernel
theorem k_L_isCounted_48 : decode (mtC m_L_isCounted) 48 = .ok (.pop, 1) := by decide +kernel
theorem k_L_isCounted_49 : decode (mtC m_L_isCounted) 49 = .ok (.aload_n 0, 1) := by decide +kernel
theorem k_L_isCounted_50 : decode (mtC m_L_isCounted) 50 = .ok (.iload_n 1, 1) := by decide +kernel
theorem k_L_isCounted_51 : decode (mtC m_L_isCounted) 51 = .ok (.iload 6, 2) := by decide +kernel
theorem k_L_isCounted_53 : decode (mtC m_L_isCounted) 53 = .ok (.invokevirtual 123, 3) := by decide +kernel
theorem k_L_isCounted_56 : decode (mtC m_L_isCounted) 56 = .ok (.iload 5, 2) := by decide +kernel
theorem k_L_isCounted_58 : decode (mtC m_L_isCounted) 58 = .ok (.iconst 0, 1) := by decide +kernel
theorem k_L_isCounted_59 : decode (mtC m_L_isCounted) 59 = .ok (.iload 6, 2) := by decide +kernel
theorem k_L_isCounted_61 : decode (mtC m_L_isCounted) 61 = .ok (.ldc 158, 2) := by decide +kernel
theorem k_L_isCounted_63 : decode (mtC m_L_isCounted) 63 = .ok (.invokestatic 159, 3) := by decide +kernel
theorem k_L_isCounted_66 : decode (mtC m_L_isCounted) 66 = .ok (.invokestatic 151, 3) := by decide +kernel
theorem k_L_isCounted_69 : decode (mtC m_L_isCounted) 69 = .ok (.if_icmp .eq 5, 3) := by decide +kernel
theorem k_L_isCounted_72 : decode (mtC m_L_isCounted) 72 = .ok (.iconst 0, 1) := by decide +kernel
theorem k_L_isCounted_73 : decode (mtC m_L_isCounted) 73 = .ok (.ireturn, 1) := by decide +kernel
theorem k_L_isCounted_74 : decode (mtC m_L_isCounted) 74 = .ok (.iload_n 2, 1) := by decide +kernel
theorem k_L_isCounted_75 : decode (mtC m_L_isCounted) 75 = .ok (.bipush 6, 2) := by decide +kernel
theorem k_L_isCounted_77 : decode (mtC m_L_isCounted) 77 = .ok (.invokestatic 23, 3) := by decide +kernel
theorem k_L_isCounted_80 : decode (mtC m_L_isCounted) 80 = .ok (.istore 7, 2) := by decide +kernel
theorem k_L_isCounted_82 : decode (mtC m_L_isCounted) 82 = .ok (.iload_n 3, 1) := by decide +kernel
theorem k_L_isCounted_83 : decode (mtC m_L_isCounted) 83 = .ok (.bipush 6, 2) := by decide +kernel
theorem k_L_isCounted_85 : decode (mtC m_L_isCounted) 85 = .ok (.invokestatic 23, 3) := by decide +kernel
theorem k_L_isCounted_88 : decode (mtC m_L_isCounted) 88 = .ok (.istore 8, 2) := by decide +kernel
theorem k_L_isCounted_90 : decode (mtC m_L_isCounted) 90 = .ok (.iload 4, 2) := by decide +kernel
theorem k_L_isCounted_92 : decode (mtC m_L_isCounted) 92 = .ok (.bipush 6, 2) := by decide +kernel
theorem k_L_isCounted_94 : decode (mtC m_L_isCounted) 94 = .ok (.invokestatic 23, 3) := by decide +kernel
theorem k_L_isCounted_97 : decode (mtC m_L_isCounted) 97 = .ok (.istore 9, 2) := by decide +kernel
theorem k_L_isCounted_99 : decode (mtC m_L_isCounted) 99 = .ok (.aload_n 0, 1) := by decide +kernel
theorem k_L_isCounted_100 : decode (mtC m_L_isCounted) 100 = .ok (.iload 7, 2) := by decide +kernel
theorem k_L_isCounted_102 : decode (mtC m_L_isCounted) 102 = .ok (.invokevirtual 162, 3) := by decide +kernel
theorem k_L_isCounted_105 : decode (mtC m_L_isCounted) 105 = .ok (.aload_n 0, 1) := by decide +kernel
theorem k_L_isCounted_106 : decode (mtC m_L_isCounted) 106 = .ok (.iload 8, 2) := by decide +kernel
theorem k_L_isCounted_108 : decode (mtC m_L_isCounted) 108 = .ok (.invokevirtual 162, 3) := by decide +kernel
theorem k_L_isCounted_111 : decode (mtC m_L_isCounted) 111 = .ok (.imul, 1) := by decide +kernel
theorem k_L_isCounted_112 : decode (mtC m_L_isCounted) 112 = .ok (.istore 10, 2) := by decide +kernel
theorem k_L_isCounted_114 : decode (mtC m_L_isCounted) 114 = .ok (.aload_n 0, 1) := by decide +kernel
theorem k_L_isCounted_115 : decode (mtC m_L_isCounted) 115 = .ok (.iload_n 1, 1) := by decide +kernel
theorem k_L_isCounted_116 : decode (mtC m_L_isCounted) 116 = .ok (.iload 7, 2) := by decide +kernel
theorem k_L_isCounted_118 : decode (mtC m_L_isCounted) 118 = .ok (.iload 8, 2) := by decide +kernel
theorem k_L_isCounted_120 : decode (mtC m_L_isCounted) 120 = .ok (.invokevirtual 60, 3) := by decide +kernel
theorem k_L_isCounted_123 : decode (mtC m_L_isCounted) 123 = .ok (.pop, 1) := by decide +kernel
theorem k_L_isCounted_124 : decode (mtC m_L_isCounted) 124 = .ok (.aload_n 0, 1) := by decide +kernel
theorem k_L_isCounted_125 : decode (mtC m_L_isCounted) 125 = .ok (.iload_n 1, 1) := by decide +kernel
theorem k_L_isCounted_126 : decode (mtC m_L_isCounted) 126 = .ok (.ldc 119, 2) := by decide +kernel
theorem k_L_isCounted_128 : decode (mtC m_L_isCounted) 128 = .ok (.invokevirtual 123, 3) := by decide +kernel
theorem k_L_isCounted_131 : decode (mtC m_L_isCounted) 131 = .ok (.iload 10, 2) := by decide +kernel
theorem k_L_isCounted_133 : decode (mtC m_L_isCounted) 133 = .ok (.if_icmp .eq 5, 3) := by decide +kernel
theorem k_L_isCounted_136 : decode (mtC m_L_isCounted) 136 = .ok (.iconst 0, 1) := by decide +kernel
theorem k_L_isCounted_137 : decode (mtC m_L_isCounted) 137 = .ok (.ireturn, 1) := by decide +kernel
theorem k_L_isCounted_138 : decode (mtC m_L_isCounted) 138 = .ok (.aload_n 0, 1) := by decide +kernel
theorem k_L_isCounted_139 : decode (mtC m_L_isCounted) 139 = .ok (.iload_n 1, 1) := by decide +kernel
theorem k_L_isCounted_140 : decode (mtC m_L_isCounted) 140 = .ok (.iload 7, 2) := by decide +kernel
theorem k_L_isCounted_142 : decode (mtC m_L_isCounted) 142 = .ok (.iload 8, 2) := by decide +kernel
theorem k_L_isCounted_144 : decode (mtC m_L_isCounted) 144 = .ok (.invokevirtual 71, 3) := by decide +kernel
theorem k_L_isCounted_147 : decode (mtC m_L_isCounted) 147 = .ok (.pop, 1) := by decide +kernel
theorem k_L_isCounted_148 : decode (mtC m_L_isCounted) 148 = .ok (.aload_n 0, 1) := by decide +kernel
theorem k_L_isCounted_149 : decode (mtC m_L_isCounted) 149 = .ok (.iload_n 1, 1) := by decide +kernel
theorem k_L_isCounted_150 : decode (mtC m_L_isCounted) 150 = .ok (.ldc 119, 2) := by decide +kernel
theorem k_L_isCounted_152 : decode (mtC m_L_isCounted) 152 = .ok (.invokevirtual 123, 3) := by decide +kernel
theorem k_L_isCounted_155 : decode (mtC m_L_isCounted) 155 = .ok (.iload 10, 2) := by decide +kernel
theorem k_L_isCounted_157 : decode (mtC m_L_isCounted) 157 = .ok (.if_icmp .eq 5, 3) := by decide +kernel
theorem k_L_isCounted_160 : decode (mtC m_L_isCounted) 160 = .ok (.iconst 0, 1) := by decide +kernel
theorem k_L_isCounted_161 : decode (mtC m_L_isCounted) 161 = .ok (.ireturn, 1) := by decide +kernel
theorem k_L_isCounted_162 : decode (mtC m_L_isCounted) 162 = .ok (.aload_n 0, 1) := by decide +kernel
theorem k_L_isCounted_163 : decode (mtC m_L_isCounted) 163 = .ok (.iload_n 1, 1) := by decide +kernel
theorem k_L_isCounted_164 : decode (mtC m_L_isCounted) 164 = .ok (.iload 7, 2) := by decide +kernel
theorem k_L_isCounted_166 : decode (mtC m_L_isCounted) 166 = .ok (.iload 8, 2) := by decide +kernel
theorem k_L_isCounted_168 : decode (mtC m_L_isCounted) 168 = .ok (.iload 9, 2) := by decide +kernel
theorem k_L_isCounted_170 : decode (mtC m_L_isCounted) 170 = .ok (.invokevirtual 64, 3) := by decide +kernel
theorem k_L_isCounted_173 : decode (mtC m_L_isCounted) 173 = .ok (.pop, 1) := by decide +kernel
theorem k_L_isCounted_174 : decode (mtC m_L_isCounted) 174 = .ok (.aload_n 0, 1) := by decide +kernel
theorem k_L_isCounted_175 : decode (mtC m_L_isCounted) 175 = .ok (.iload_n 1, 1) := by decide +kernel
theorem k_L_isCounted_176 : decode (mtC m_L_isCounted) 176 = .ok (.ldc 119, 2) := by decide +kernel
theorem k_L_isCounted_178 : decode (mtC m_L_isCounted) 178 = .ok (.invokevirtual 123, 3) := by decide +kernel
theorem k_L_isCounted_181 : decode (mtC m_L_isCounted) 181 = .ok (.iload 10, 2) := by decide +kernel
theorem k_L_isCounted_183 : decode (mtC m_L_isCounted) 183 = .ok (.aload_n 0, 1) := by decide +kernel
theorem k_L_isCounted_184 : decode (mtC m_L_isCounted) 184 = .ok (.iload 9, 2) := by decide +kernel
theorem k_L_isCounted_186 : decode (mtC m_L_isCounted) 186 = .ok (.invokevirtual 162, 3) := by decide +kernel
theorem k_L_isCounted_189 : decode (mtC m_L_isCounted) 189 = .ok (.imul, 1) := by decide +kernel
theorem k_L_isCounted_190 : decode (mtC m_L_isCounted) 190 = .ok (.if_icmp .eq 5, 3) := by decide +kernel
theorem k_L_isCounted_193 : decode (mtC m_L_isCounted) 193 = .ok (.iconst 0, 1) := by decide +kernel
theorem k_L_isCounted_194 : decode (mtC m_L_isCounted) 194 = .ok (.ireturn, 1) := by decide +kernel
theorem k_L_isCounted_195 : decode (mtC m_L_isCounted) 195 = .ok (.aload_n 0, 1) := by decide +kernel
theorem k_L_isCounted_196 : decode (mtC m_L_isCounted) 196 = .ok (.iload_n 1, 1) := by decide +kernel
theorem k_L_isCounted_197 : decode (mtC m_L_isCounted) 197 = .ok (.invokevirtual 74, 3) := by decide +kernel
theorem k_L_isCounted_200 : decode (mtC m_L_isCounted) 200 = .ok (.pop, 1) := by decide +kernel
theorem k_L_isCounted_201 : decode (mtC m_L_isCounted) 201 = .ok (.iload_n 3, 1) := by decide +kernel
theorem k_L_isCounted_202 : decode (mtC m_L_isCounted) 202 = .ok (.iconst 3, 1) := by decide +kernel
theorem k_L_isCounted_203 : decode (mtC m_L_isCounted) 203 = .ok (.ishr, 1) := by decide +kernel
theorem k_L_isCounted_204 : decode (mtC m_L_isCounted) 204 = .ok (.bipush 100, 2) := by decide +kernel
theorem k_L_isCounted_206 : decode (mtC m_L_isCounted) 206 = .ok (.invokestatic 23, 3) := by decide +kernel
theorem k_L_isCounted_209 : decode (mtC m_L_isCounted) 209 = .ok (.istore 11, 2) := by decide +kernel
theorem k_L_isCounted_211 : decode (mtC m_L_isCounted) 211 = .ok (.aload_n 0, 1) := by decide +kernel
theorem k_L_isCounted_212 : decode (mtC m_L_isCounted) 212 = .ok (.iload_n 1, 1) := by decide +kernel
theorem k_L_isCounted_213 : decode (mtC m_L_isCounted) 213 = .ok (.iload 11, 2) := by decide +kernel
theorem k_L_isCounted_215 : decode (mtC m_L_isCounted) 215 = .ok (.invokevirtual 126, 3) := by decide +kernel
theorem k_L_isCounted_218 : decode (mtC m_L_isCounted) 218 = .ok (.istore 12, 2) := by decide +kernel
theorem k_L_isCounted_220 : decode (mtC m_L_isCounted) 220 = .ok (.iload 12, 2) := by decide +kernel
theorem k_L_isCounted_222 : decode (mtC m_L_isCounted) 222 = .ok (.invokestatic 137, 3) := by decide +kernel
theorem k_L_isCounted_225 : decode (mtC m_L_isCounted) 225 = .ok (.ifCond .eq 21, 3) := by decide +kernel
theorem k_L_isCounted_228 : decode (mtC m_L_isCounted) 228 = .ok (.aload_n 0, 1) := by decide +kernel
theorem k_L_isCounted_229 : decode (mtC m_L_isCounted) 229 = .ok (.iload_n 1, 1) := by decide +kernel
theorem k_L_isCounted_230 : decode (mtC m_L_isCounted) 230 = .ok (.iload 12, 2) := by decide +kernel
theorem k_L_isCounted_232 : decode (mtC m_L_isCounted) 232 = .ok (.invokevirtual 123, 3) := by decide +kernel
theorem k_L_isCounted_235 : decode (mtC m_L_isCounted) 235 = .ok (.iload 11, 2) := by decide +kernel
theorem k_L_isCounted_237 : decode (mtC m_L_isCounted) 237 = .ok (.iconst 1, 1) := by decide +kernel
theorem k_L_isCounted_238 : decode (mtC m_L_isCounted) 238 = .ok (.iadd, 1) := by decide +kernel
theorem k_L_isCounted_239 : decode (mtC m_L_isCounted) 239 = .ok (.if_icmp .ne 7, 3) := by decide +kernel
theorem k_L_isCounted_242 : decode (mtC m_L_isCounted) 242 = .ok (.iconst 1, 1) := by decide +kernel
theorem k_L_isCounted_243 : decode (mtC m_L_isCounted) 243 = .ok (.goto 4, 3) := by decide +kernel
theorem k_L_isCounted_246 : decode (mtC m_L_isCounted) 246 = .ok (.iconst 0, 1) := by decide +kernel
theorem k_L_isCounted_247 : decode (mtC m_L_isCounted) 247 = .ok (.ireturn, 1) := by decide +kernel
set_option maxHeartbeats 4000000 in
set_option maxRecDepth 100000 in
theorem T_L_isCounted_0 {d : Nat} {x1 : Int} {x2 : Int} {x3 : Int} {x4 : Int} {M : AMem} {Q : Option AV → AMem → Prop}  (h : CallI d m_L_below [vI x2, vI 63] M (fun y2 M1 => CallI d m_L_below [vI x4, vI 3] M1 (fun y4 M3 => ((¬ wI y4 = 0) → CallI d m_L_below [vI x3, vI 2000] M3 (fun y6 M5 => CallI d m_H_powers [vR 3 0, vI x1, vI (1 + y2)] M5 (fun y8 M7 => CallI d m_H_upTo [vR 3 0, vI x1, vI (1 + y6)] M7 (fun y10 M9 => CallI d m_L_exponents [vI (1 + y2), vI 0, vI (if 100000 < wI (1 + y6) then 100000 else (1 + y6))] M9 (fun y12 M11 => ((wI y10 = wI y12) → CallI d m_L_below [vI x2, vI 6] M11 (fun y14 M13 => CallI d m_L_below [vI x3, vI 6] M13 (fun y16 M15 => CallI d m_L_below [vI x4, vI 6] M15 (fun y18 M17 => CallI d m_H_rowSize [vR 3 0, vI y14] M17 (fun y20 M19 => CallI d m_H_rowSize [vR 3 0, vI y16] M19 (fun y22 M21 => CallI d m_H_sums [vR 3 0, vI x1, vI y14, vI y16] M21 (fun y24 M23 => CallI d m_H_upTo [vR 3 0, vI x1, vI 1000000] M23 (fun y26 M25 => ((wI y26 = wI (y20 * y22)) → CallI d m_H_table [vR 3 0, vI x1, vI y14, vI y16] M25 (fun y28 M27 => CallI d m_H_upTo [vR 3 0, vI x1, vI 1000000] M27 (fun y30 M29 => ((wI y30 = wI (y20 * y22)) → CallI d m_H_triples [vR 3 0, vI x1, vI y14, vI y16, vI y18] M29 (fun y32 M31 => CallI d m_H_upTo [vR 3 0, vI x1, vI 1000000] M31 (fun y34 M33 => CallI d m_H_rowSize [vR 3 0, vI y18] M33 (fun y36 M35 => ((wI y34 = wI ((y20 * y22) * y36)) → CallI d m_H_primes [vR 3 0, vI x1] M35 (fun y38 M37 => CallI d m_L_below [vI (opShr x3 3), vI 100] M37 (fun y40 M39 => CallI d m_H_nth [vR 3 0, vI x1, vI y40] M39 (fun y42 M41 => CallI d m_L_isPrime [vI y42] M41 (fun y44 M43 => ((wI y44 = 0) → Q (some (vI 0)) M43) ∧ (¬ (wI y44 = 0) → CallI d m_H_upTo [vR 3 0, vI x1, vI y42] M43 (fun y46 M45 => ((¬ wI y46 = wI (y40 + 1)) → Q (some (vI 0)) M45) ∧ (¬ (¬ wI y46 = wI (y40 + 1)) → Q (some (vI 1)) M45)))))))) ∧ (¬ (wI y34 = wI ((y20 * y22) * y36)) → Q (some (vI 0)) M35))))) ∧ (¬ (wI y30 = wI (y20 * y22)) → Q (some (vI 0)) M29)))) ∧ (¬ (wI y26 = wI (y20 * y22)) → Q (some (vI 0)) M25))))))))) ∧ (¬ (wI y10 = wI y12) → Q (some (vI 0)) M11)))))) ∧ (¬ (¬ wI y4 = 0) → CallI d m_L_below [vI x3, vI 1000000] M3 (fun y48 M47 => CallI d m_H_powers [vR 3 0, vI x1, vI (1 + y2)] M47 (fun y50 M49 => CallI d m_H_upTo [vR 3 0, vI x1, vI (1 + y48)] M49 (fun y52 M51 => CallI d m_L_exponents [vI (1 + y2), vI 0, vI (if 100000 < wI (1 + y48) then 100000 else (1 + y48))] M51 (fun y54 M53 => ((wI y52 = wI y54) → CallI d m_L_below [vI x2, vI 6] M53 (fun y56 M55 => CallI d m_L_below [vI x3, vI 6] M55 (fun y58 M57 => CallI d m_L_below [vI x4, vI 6] M57 (fun y60 M59 => CallI d m_H_rowSize [vR 3 0, vI y56] M59 (fun y62 M61 => CallI d m_H_rowSize [vR 3 0, vI y58] M61 (fun y64 M63 => CallI d m_H_sums [vR 3 0, vI x1, vI y56, vI y58] M63 (fun y66 M65 => CallI d m_H_upTo [vR 3 0, vI x1, vI 1000000] M65 (fun y68 M67 => ((wI y68 = wI (y62 * y64)) → CallI d m_H_table [vR 3 0, vI x1, vI y56, vI y58] M67 (fun y70 M69 => CallI d m_H_upTo [vR 3 0, vI x1, vI 1000000] M69 (fun y72 M71 => ((wI y72 = wI (y62 * y64)) → CallI d m_H_triples [vR 3 0, vI x1, vI y56, vI y58, vI y60] M71 (fun y74 M73 => CallI d m_H_upTo [vR 3 0, vI x1, vI 1000000] M73 (fun y76 M75 => CallI d m_H_rowSize [vR 3 0, vI y60] M75 (fun y78 M77 => ((wI y76 = wI ((y62 * y64) * y78)) → CallI d m_H_primes [vR 3 0, vI x1] M77 (fun y80 M79 => CallI d m_L_below [vI (opShr x3 3), vI 100] M79 (fun y82 M81 => CallI d m_H_nth [vR 3 0, vI x1, vI y82] M81 (fun y84 M83 => CallI d m_L_isPrime [vI y84] M83 (fun y86 M85 => ((wI y86 = 0) → Q (some (vI 0)) M85) ∧ (¬ (wI y86 = 0) → CallI d m_H_upTo [vR 3 0, vI x1, vI y84] M85 (fun y88 M87 => ((¬ wI y88 = wI (y82 + 1)) → Q (some (vI 0)) M87) ∧ (¬ (¬ wI y88 = wI (y82 + 1)) → Q (some (vI 1)) M87)))))))) ∧ (¬ (wI y76 = wI ((y62 * y64) * y78)) → Q (some (vI 0)) M77))))) ∧ (¬ (wI y72 = wI (y62 * y64)) → Q (some (vI 0)) M71)))) ∧ (¬ (wI y68 = wI (y62 * y64)) → Q (some (vI 0)) M67))))))))) ∧ (¬ (wI y52 = wI y54) → Q (some (vI 0)) M53))))))))) : RunQ (d + 1) m_L_isCounted 0 [some (vR 3 0), some (vI x1), some (vI x2), some (vI x3), some (vI x4), none, none, none, none, none, none, none, none] [] M Q := by
  refine q_iconst 0 k_L_isCounted_0 ?_
  refine q_iload_n 1 k_L_isCounted_1 rfl ?_
  refine q_bipush 2 k_L_isCounted_2 (by decide) ?_
  refine q_sI 4 [vI x2, vI 63] [vI 1] k_L_isCounted_4 rfl lk_4_23 rfl rfl rfl rfl rfl rfl (CallI.mono (fun y2 M1 h89 => ?_) h)
  refine q_iadd 7 k_L_isCounted_7 ?_
  refine q_istore 8 k_L_isCounted_8 (ls' := [some (vR 3 0), some (vI x1), some (vI x2), some (vI x3), some (vI x4), some (vI (1 + y2)), none, none, none, none, none, none, none]) rfl rfl ?_
  refine q_iload 10 k_L_isCounted_10 rfl ?_
  refine q_iconst 12 k_L_isCounted_12 ?_
  refine q_sI 13 [vI x4, vI 3] [] k_L_isCounted_13 rfl lk_4_23 rfl rfl rfl rfl rfl rfl (CallI.mono (fun y4 M3 h90 => ?_) h89)
  refine q_if_ne 16 30 k_L_isCounted_16 rfl rfl (fun c16 => ?_) (fun c16 => ?_)
  · have h90t := h90.1 c16
    refine q_iconst 30 k_L_isCounted_30 ?_
    refine q_iload_n 31 k_L_isCounted_31 rfl ?_
    refine q_sipush 32 k_L_isCounted_32 (by decide) ?_
    refine q_sI 35 [vI x3, vI 2000] [vI 1] k_L_isCounted_35 rfl lk_4_23 rfl rfl rfl rfl rfl rfl (CallI.mono (fun y6 M5 h91 => ?_) h90t)
    refine q_iadd 38 k_L_isCounted_38 ?_
    refine q_istore 39 k_L_isCounted_39 (ls' := [some (vR 3 0), some (vI x1), some (vI x2), some (vI x3), some (vI x4), some (vI (1 + y2)), some (vI (1 + y6)), none, none, none, none, none, none]) rfl rfl ?_
    refine q_aload_n 41 k_L_isCounted_41 rfl ?_
    refine q_iload_n 42 k_L_isCounted_42 rfl ?_
    refine q_iload 43 k_L_isCounted_43 rfl ?_
    refine q_vI 45 [vI x1, vI (1 + y2)] [] k_L_isCounted_45 lk_4_57 rfl rfl rfl rfl rfl rfl rfl rfl (CallI.mono (fun y8 M7 h92 => ?_) h91)
    refine q_pop 48 k_L_isCounted_48 rfl ?_
    refine q_aload_n 49 k_L_isCounted_49 rfl ?_
    refine q_iload_n 50 k_L_isCounted_50 rfl ?_
    refine q_iload 51 k_L_isCounted_51 rfl ?_
    refine q_vI 53 [vI x1, vI (1 + y6)] [] k_L_isCounted_53 lk_4_123 rfl rfl rfl rfl rfl rfl rfl rfl (CallI.mono (fun y10 M9 h93 => ?_) h92)
    refine q_iload 56 k_L_isCounted_56 rfl ?_
    refine q_iconst 58 k_L_isCounted_58 ?_
    refine q_iload 59 k_L_isCounted_59 rfl ?_
    refine q_ldc 61 k_L_isCounted_61 ck_4_158 ?_
    refine q_min 63 k_L_isCounted_63 rfl rfl ?_
    refine q_sI 66 [vI (1 + y2), vI 0, vI (if 100000 < wI (1 + y6) then 100000 else (1 + y6))] [vI y10] k_L_isCounted_66 rfl lk_4_151 rfl rfl rfl rfl rfl rfl (CallI.mono (fun y12 M11 h94 => ?_) h93)
    refine q_icmp_eq 69 74 k_L_isCounted_69 rfl rfl (fun c69 => ?_) (fun c69 => ?_)
    · have h94t := h94.1 c69
      refine q_iload_n 74 k_L_isCounted_74 rfl ?_
      refine q_bipush 75 k_L_isCounted_75 (by decide) ?_
      refine q_sI 77 [vI x2, vI 6] [] k_L_isCounted_77 rfl lk_4_23 rfl rfl rfl rfl rfl rfl (CallI.mono (fun y14 M13 h95 => ?_) h94t)
      refine q_istore 80 k_L_isCounted_80 (ls' := [some (vR 3 0), some (vI x1), some (vI x2), some (vI x3), some (vI x4), some (vI (1 + y2)), some (vI (1 + y6)), some (vI y14), none, none, none, none, none]) rfl rfl ?_
      refine q_iload_n 82 k_L_isCounted_82 rfl ?_
      refine q_bipush 83 k_L_isCounted_83 (by decide) ?_
      refine q_sI 85 [vI x3, vI 6] [] k_L_isCounted_85 rfl lk_4_23 rfl rfl rfl rfl rfl rfl (CallI.mono (fun y16 M15 h96 => ?_) h95)
      refine q_istore 88 k_L_isCounted_88 (ls' := [some (vR 3 0), some (vI x1), some (vI x2), some (vI x3), some (vI x4), some (vI (1 + y2)), some (vI (1 + y6)), some (vI y14), some (vI y16), none, none, none, none]) rfl rfl ?_
      refine q_iload 90 k_L_isCounted_90 rfl ?_
      refine q_bipush 92 k_L_isCounted_92 (by decide) ?_
      refine q_sI 94 [vI x4, vI 6] [] k_L_isCounted_94 rfl lk_4_23 rfl rfl rfl rfl rfl rfl (CallI.mono (fun y18 M17 h97 => ?_) h96)
      refine q_istore 97 k_L_isCounted_97 (ls' := [some (vR 3 0), some (vI x1), some (vI x2), some (vI x3), some (vI x4), some (vI (1 + y2)), some (vI (1 + y6)), some (vI y14), some (vI y16), some (vI y18), none, none, none]) rfl rfl ?_
      refine q_aload_n 99 k_L_isCounted_99 rfl ?_
      refine q_iload 100 k_L_isCounted_100 rfl ?_
      refine q_vI 102 [vI y14] [] k_L_isCounted_102 lk_4_162 rfl rfl rfl rfl rfl rfl rfl rfl (CallI.mono (fun y20 M19 h98 => ?_) h97)
      refine q_aload_n 105 k_L_isCounted_105 rfl ?_
      refine q_iload 106 k_L_isCounted_106 rfl ?_
      refine q_vI 108 [vI y16] [vI y20] k_L_isCounted_108 lk_4_162 rfl rfl rfl rfl rfl rfl rfl rfl (CallI.mono (fun y22 M21 h99 => ?_) h98)
      refine q_imul 111 k_L_isCounted_111 ?_
      refine q_istore 112 k_L_isCounted_112 (ls' := [some (vR 3 0), some (vI x1), some (vI x2), some (vI x3), some (vI x4), some (vI (1 + y2)), some (vI (1 + y6)), some (vI y14), some (vI y16), some (vI y18), some (vI (y20 * y22)), none, none]) rfl rfl ?_
      refine q_aload_n 114 k_L_isCounted_114 rfl ?_
      refine q_iload_n 115 k_L_isCounted_115 rfl ?_
      refine q_iload 116 k_L_isCounted_116 rfl ?_
      refine q_iload 118 k_L_isCounted_118 rfl ?_
      refine q_vI 120 [vI x1, vI y14, vI y16] [] k_L_isCounted_120 lk_4_60 rfl rfl rfl rfl rfl rfl rfl rfl (CallI.mono (fun y24 M23 h100 => ?_) h99)
      refine q_pop 123 k_L_isCounted_123 rfl ?_
      refine q_aload_n 124 k_L_isCounted_124 rfl ?_
      refine q_iload_n 125 k_L_isCounted_125 rfl ?_
      refine q_ldc 126 k_L_isCounted_126 ck_4_119 ?_
      refine q_vI 128 [vI x1, vI 1000000] [] k_L_isCounted_128 lk_4_123 rfl rfl rfl rfl rfl rfl rfl rfl (CallI.mono (fun y26 M25 h101 => ?_) h100)
      refine q_iload 131 k_L_isCounted_131 rfl ?_
      refine q_icmp_eq 133 138 k_L_isCounted_133 rfl rfl (fun c133 => ?_) (fun c133 => ?_)
      · have h101t := h101.1 c133
        refine q_aload_n 138 k_L_isCounted_138 rfl ?_
        refine q_iload_n 139 k_L_isCounted_139 rfl ?_
        refine q_iload 140 k_L_isCounted_140 rfl ?_
        refine q_iload 142 k_L_isCounted_142 rfl ?_
        refine q_vI 144 [vI x1, vI y14, vI y16] [] k_L_isCounted_144 lk_4_71 rfl rfl rfl rfl rfl rfl rfl rfl (CallI.mono (fun y28 M27 h102 => ?_) h101t)
        refine q_pop 147 k_L_isCounted_147 rfl ?_
        refine q_aload_n 148 k_L_isCounted_148 rfl ?_
        refine q_iload_n 149 k_L_isCounted_149 rfl ?_
        refine q_ldc 150 k_L_isCounted_150 ck_4_119 ?_
        refine q_vI 152 [vI x1, vI 1000000] [] k_L_isCounted_152 lk_4_123 rfl rfl rfl rfl rfl rfl rfl rfl (CallI.mono (fun y30 M29 h103 => ?_) h102)
        refine q_iload 155 k_L_isCounted_155 rfl ?_
        refine q_icmp_eq 157 162 k_L_isCounted_157 rfl rfl (fun c157 => ?_) (fun c157 => ?_)
        · have h103t := h103.1 c157
          refine q_aload_n 162 k_L_isCounted_162 rfl ?_
          refine q_iload_n 163 k_L_isCounted_163 rfl ?_
          refine q_iload 164 k_L_isCounted_164 rfl ?_
          refine q_iload 166 k_L_isCounted_166 rfl ?_
          refine q_iload 168 k_L_isCounted_168 rfl ?_
          refine q_vI 170 [vI x1, vI y14, vI y16, vI y18] [] k_L_isCounted_170 lk_4_64 rfl rfl rfl rfl rfl rfl rfl rfl (CallI.mono (fun y32 M31 h104 => ?_) h103t)
          refine q_pop 173 k_L_isCounted_173 rfl ?_
          refine q_aload_n 174 k_L_isCounted_174 rfl ?_
          refine q_iload_n 175 k_L_isCounted_175 rfl ?_
          refine q_ldc 176 k_L_isCounted_176 ck_4_119 ?_
          refine q_vI 178 [vI x1, vI 1000000] [] k_L_isCounted_178 lk_4_123 rfl rfl rfl rfl rfl rfl rfl rfl (CallI.mono (fun y34 M33 h105 => ?_) h104)
          refine q_iload 181 k_L_isCounted_181 rfl ?_
          refine q_aload_n 183 k_L_isCounted_183 rfl ?_
          refine q_iload 184 k_L_isCounted_184 rfl ?_
          refine q_vI 186 [vI y18] [vI (y20 * y22), vI y34] k_L_isCounted_186 lk_4_162 rfl rfl rfl rfl rfl rfl rfl rfl (CallI.mono (fun y36 M35 h106 => ?_) h105)
          refine q_imul 189 k_L_isCounted_189 ?_
          refine q_icmp_eq 190 195 k_L_isCounted_190 rfl rfl (fun c190 => ?_) (fun c190 => ?_)
          · have h106t := h106.1 c190
            refine q_aload_n 195 k_L_isCounted_195 rfl ?_
            refine q_iload_n 196 k_L_isCounted_196 rfl ?_
            refine q_vI 197 [vI x1] [] k_L_isCounted_197 lk_4_74 rfl rfl rfl rfl rfl rfl rfl rfl (CallI.mono (fun y38 M37 h107 => ?_) h106t)
            refine q_pop 200 k_L_isCounted_200 rfl ?_
            refine q_iload_n 201 k_L_isCounted_201 rfl ?_
            refine q_iconst 202 k_L_isCounted_202 ?_
            refine q_ishr 203 k_L_isCounted_203 ?_
            refine q_bipush 204 k_L_isCounted_204 (by decide) ?_
            refine q_sI 206 [vI (opShr x3 3), vI 100] [] k_L_isCounted_206 rfl lk_4_23 rfl rfl rfl rfl rfl rfl (CallI.mono (fun y40 M39 h108 => ?_) h107)
            refine q_istore 209 k_L_isCounted_209 (ls' := [some (vR 3 0), some (vI x1), some (vI x2), some (vI x3), some (vI x4), some (vI (1 + y2)), some (vI (1 + y6)), some (vI y14), some (vI y16), some (vI y18), some (vI (y20 * y22)), some (vI y40), none]) rfl rfl ?_
            refine q_aload_n 211 k_L_isCounted_211 rfl ?_
            refine q_iload_n 212 k_L_isCounted_212 rfl ?_
            refine q_iload 213 k_L_isCounted_213 rfl ?_
            refine q_vI 215 [vI x1, vI y40] [] k_L_isCounted_215 lk_4_126 rfl rfl rfl rfl rfl rfl rfl rfl (CallI.mono (fun y42 M41 h109 => ?_) h108)
            refine q_istore 218 k_L_isCounted_218 (ls' := [some (vR 3 0), some (vI x1), some (vI x2), some (vI x3), some (vI x4), some (vI (1 + y2)), some (vI (1 + y6)), some (vI y14), some (vI y16), some (vI y18), some (vI (y20 * y22)), some (vI y40), some (vI y42)]) rfl rfl ?_
            refine q_iload 220 k_L_isCounted_220 rfl ?_
            refine q_sI 222 [vI y42] [] k_L_isCounted_222 rfl lk_4_137 rfl rfl rfl rfl rfl rfl (CallI.mono (fun y44 M43 h110 => ?_) h109)
            refine q_if_eq 225 246 k_L_isCounted_225 rfl rfl (fun c225 => ?_) (fun c225 => ?_)
            · have h110t := h110.1 c225
              refine q_iconst 246 k_L_isCounted_246 ?_
              exact q_zret 247 k_L_isCounted_247 rfl (Or.inl rfl) h110t
            · have h110f := h110.2 c225
              refine q_aload_n 228 k_L_isCounted_228 rfl ?_
              refine q_iload_n 229 k_L_isCounted_229 rfl ?_
              refine q_iload 230 k_L_isCounted_230 rfl ?_
              refine q_vI 232 [vI x1, vI y42] [] k_L_isCounted_232 lk_4_123 rfl rfl rfl rfl rfl rfl rfl rfl (CallI.mono (fun y46 M45 h111 => ?_) h110f)
              refine q_iload 235 k_L_isCounted_235 rfl ?_
              refine q_iconst 237 k_L_isCounted_237 ?_
              refine q_iadd 238 k_L_isCounted_238 ?_
              refine q_icmp_ne 239 246 k_L_isCounted_239 rfl rfl (fun c239 => ?_) (fun c239 => ?_)
              · have h111t := h111.1 c239
                refine q_iconst 246 k_L_isCounted_246 ?_
                exact q_zret 247 k_L_isCounted_247 rfl (Or.inl rfl) h111t
              · have h111f := h111.2 c239
                refine q_iconst 242 k_L_isCounted_242 ?_
                refine q_goto 243 247 k_L_isCounted_243 rfl rfl ?_
                exact q_zret 247 k_L_isCounted_247 rfl (Or.inr rfl) h111f
          · have h106f := h106.2 c190
            refine q_iconst 193 k_L_isCounted_193 ?_
            exact q_zret 194 k_L_isCounted_194 rfl (Or.inl rfl) h106f
        · have h103f := h103.2 c157
          refine q_iconst 160 k_L_isCounted_160 ?_
          exact q_zret 161 k_L_isCounted_161 rfl (Or.inl rfl) h103f
      · have h101f := h101.2 c133
        refine q_iconst 136 k_L_isCounted_136 ?_
        exact q_zret 137 k_L_isCounted_137 rfl (Or.inl rfl) h101f
    · have h94f := h94.2 c69
      refine q_iconst 72 k_L_isCounted_72 ?_
      exact q_zret 73 k_L_isCounted_73 rfl (Or.inl rfl) h94f
  · have h90f := h90.2 c16
    refine q_iconst 19 k_L_isCounted_19 ?_
    refine q_iload_n 20 k_L_isCounted_20 rfl ?_
    refine q_ldc 21 k_L_isCounted_21 ck_4_119 ?_
    refine q_sI 23 [vI x3, vI 1000000] [vI 1] k_L_isCounted_23 rfl lk_4_23 rfl rfl rfl rfl rfl rfl (CallI.mono (fun y48 M47 h112 => ?_) h90f)
    refine q_iadd 26 k_L_isCounted_26 ?_
    refine q_goto 27 39 k_L_isCounted_27 rfl rfl ?_
    refine q_istore 39 k_L_isCounted_39 (ls' := [some (vR 3 0), some (vI x1), some (vI x2), some (vI x3), some (vI x4), some (vI (1 + y2)), some (vI (1 + y48)), none, none, none, none, none, none]) rfl rfl ?_
    refine q_aload_n 41 k_L_isCounted_41 rfl ?_
    refine q_iload_n 42 k_L_isCounted_42 rfl ?_
    refine q_iload 43 k_L_isCounted_43 rfl ?_
    refine q_vI 45 [vI x1, vI (1 + y2)] [] k_L_isCounted_45 lk_4_57 rfl rfl rfl rfl rfl rfl rfl rfl (CallI.mono (fun y50 M49 h113 => ?_) h112)
    refine q_pop 48 k_L_isCounted_48 rfl ?_
    refine q_aload_n 49 k_L_isCounted_49 rfl ?_
    refine q_iload_n 50 k_L_isCounted_50 rfl ?_
    refine q_iload 51 k_L_isCounted_51 rfl ?_
    refine q_vI 53 [vI x1, vI (1 + y48)] [] k_L_isCounted_53 lk_4_123 rfl rfl rfl rfl rfl rfl rfl rfl (CallI.mono (fun y52 M51 h114 => ?_) h113)
    refine q_iload 56 k_L_isCounted_56 rfl ?_
    refine q_iconst 58 k_L_isCounted_58 ?_
    refine q_iload 59 k_L_isCounted_59 rfl ?_
    refine q_ldc 61 k_L_isCounted_61 ck_4_158 ?_
    refine q_min 63 k_L_isCounted_63 rfl rfl ?_
    refine q_sI 66 [vI (1 + y2), vI 0, vI (if 100000 < wI (1 + y48) then 100000 else (1 + y48))] [vI y52] k_L_isCounted_66 rfl lk_4_151 rfl rfl rfl rfl rfl rfl (CallI.mono (fun y54 M53 h115 => ?_) h114)
    refine q_icmp_eq 69 74 k_L_isCounted_69 rfl rfl (fun c69 => ?_) (fun c69 => ?_)
    · have h115t := h115.1 c69
      refine q_iload_n 74 k_L_isCounted_74 rfl ?_
      refine q_bipush 75 k_L_isCounted_75 (by decide) ?_
      refine q_sI 77 [vI x2, vI 6] [] k_L_isCounted_77 rfl lk_4_23 rfl rfl rfl rfl rfl rfl (CallI.mono (fun y56 M55 h116 => ?_) h115t)
      refine q_istore 80 k_L_isCounted_80 (ls' := [some (vR 3 0), some (vI x1), some (vI x2), some (vI x3), some (vI x4), some (vI (1 + y2)), some (vI (1 + y48)), some (vI y56), none, none, none, none, none]) rfl rfl ?_
      refine q_iload_n 82 k_L_isCounted_82 rfl ?_
      refine q_bipush 83 k_L_isCounted_83 (by decide) ?_
      refine q_sI 85 [vI x3, vI 6] [] k_L_isCounted_85 rfl lk_4_23 rfl rfl rfl rfl rfl rfl (CallI.mono (fun y58 M57 h117 => ?_) h116)
      refine q_istore 88 k_L_isCounted_88 (ls' := [some (vR 3 0), some (vI x1), some (vI x2), some (vI x3), some (vI x4), some (vI (1 + y2)), some (vI (1 + y48)), some (vI y56), some (vI y58), none, none, none, none]) rfl rfl ?_
      refine q_iload 90 k_L_isCounted_90 rfl ?_
      refine q_bipush 92 k_L_isCounted_92 (by decide) ?_
      refine q_sI 94 [vI x4, vI 6] [] k_L_isCounted_94 rfl lk_4_23 rfl rfl rfl rfl rfl rfl (CallI.mono (fun y60 M59 h118 => ?_) h117)
      refine q_istore 97 k_L_isCounted_97 (ls' := [some (vR 3 0), some (vI x1), some (vI x2), some (vI x3), some (vI x4), some (vI (1 + y2)), some (vI (1 + y48)), some (vI y56), some (vI y58), some (vI y60), none, none, none]) rfl rfl ?_
      refine q_aload_n 99 k_L_isCounted_99 rfl ?_
      refine q_iload 100 k_L_isCounted_100 rfl ?_
      refine q_vI 102 [vI y56] [] k_L_isCounted_102 lk_4_162 rfl rfl rfl rfl rfl rfl rfl rfl (CallI.mono (fun y62 M61 h119 => ?_) h118)
      refine q_aload_n 105 k_L_isCounted_105 rfl ?_
      refine q_iload 106 k_L_isCounted_106 rfl ?_
      refine q_vI 108 [vI y58] [vI y62] k_L_isCounted_108 lk_4_162 rfl rfl rfl rfl rfl rfl rfl rfl (CallI.mono (fun y64 M63 h120 => ?_) h119)
      refine q_imul 111 k_L_isCounted_111 ?_
      refine q_istore 112 k_L_isCounted_112 (ls' := [some (vR 3 0), some (vI x1), some (vI x2), some (vI x3), some (vI x4), some (vI (1 + y2)), some (vI (1 + y48)), some (vI y56), some (vI y58), some (vI y60), some (vI (y62 * y64)), none, none]) rfl rfl ?_
      refine q_aload_n 114 k_L_isCounted_114 rfl ?_
      refine q_iload_n 115 k_L_isCounted_115 rfl ?_
      refine q_iload 116 k_L_isCounted_116 rfl ?_
      refine q_iload 118 k_L_isCounted_118 rfl ?_
      refine q_vI 120 [vI x1, vI y56, vI y58] [] k_L_isCounted_120 lk_4_60 rfl rfl rfl rfl rfl rfl rfl rfl (CallI.mono (fun y66 M65 h121 => ?_) h120)
      refine q_pop 123 k_L_isCounted_123 rfl ?_
      refine q_aload_n 124 k_L_isCounted_124 rfl ?_
      refine q_iload_n 125 k_L_isCounted_125 rfl ?_
      refine q_ldc 126 k_L_isCounted_126 ck_4_119 ?_
      refine q_vI 128 [vI x1, vI 1000000] [] k_L_isCounted_128 lk_4_123 rfl rfl rfl rfl rfl rfl rfl rfl (CallI.mono (fun y68 M67 h122 => ?_) h121)
      refine q_iload 131 k_L_isCounted_131 rfl ?_
      refine q_icmp_eq 133 138 k_L_isCounted_133 rfl rfl (fun c133 => ?_) (fun c133 => ?_)
      · have h122t := h122.1 c133
        refine q_aload_n 138 k_L_isCounted_138 rfl ?_
        refine q_iload_n 139 k_L_isCounted_139 rfl ?_
        refine q_iload 140 k_L_isCounted_140 rfl ?_
        refine q_iload 142 k_L_isCounted_142 rfl ?_
        refine q_vI 144 [vI x1, vI y56, vI y58] [] k_L_isCounted_144 lk_4_71 rfl rfl rfl rfl rfl rfl rfl rfl (CallI.mono (fun y70 M69 h123 => ?_) h122t)
        refine q_pop 147 k_L_isCounted_147 rfl ?_
        refine q_aload_n 148 k_L_isCounted_148 rfl ?_
        refine q_iload_n 149 k_L_isCounted_149 rfl ?_
        refine q_ldc 150 k_L_isCounted_150 ck_4_119 ?_
        refine q_vI 152 [vI x1, vI 1000000] [] k_L_isCounted_152 lk_4_123 rfl rfl rfl rfl rfl rfl rfl rfl (CallI.mono (fun y72 M71 h124 => ?_) h123)
        refine q_iload 155 k_L_isCounted_155 rfl ?_
        refine q_icmp_eq 157 162 k_L_isCounted_157 rfl rfl (fun c157 => ?_) (fun c157 => ?_)
        · have h124t := h124.1 c157
          refine q_aload_n 162 k_L_isCounted_162 rfl ?_
          refine q_iload_n 163 k_L_isCounted_163 rfl ?_
          refine q_iload 164 k_L_isCounted_164 rfl ?_
          refine q_iload 166 k_L_isCounted_166 rfl ?_
          refine q_iload 168 k_L_isCounted_168 rfl ?_
          refine q_vI 170 [vI x1, vI y56, vI y58, vI y60] [] k_L_isCounted_170 lk_4_64 rfl rfl rfl rfl rfl rfl rfl rfl (CallI.mono (fun y74 M73 h125 => ?_) h124t)
          refine q_pop 173 k_L_isCounted_173 rfl ?_
          refine q_aload_n 174 k_L_isCounted_174 rfl ?_
          refine q_iload_n 175 k_L_isCounted_175 rfl ?_
          refine q_ldc 176 k_L_isCounted_176 ck_4_119 ?_
          refine q_vI 178 [vI x1, vI 1000000] [] k_L_isCounted_178 lk_4_123 rfl rfl rfl rfl rfl rfl rfl rfl (CallI.mono (fun y76 M75 h126 => ?_) h125)
          refine q_iload 181 k_L_isCounted_181 rfl ?_
          refine q_aload_n 183 k_L_isCounted_183 rfl ?_
          refine q_iload 184 k_L_isCounted_184 rfl ?_
          refine q_vI 186 [vI y60] [vI (y62 * y64), vI y76] k_L_isCounted_186 lk_4_162 rfl rfl rfl rfl rfl rfl rfl rfl (CallI.mono (fun y78 M77 h127 => ?_) h126)
          refine q_imul 189 k_L_isCounted_189 ?_
          refine q_icmp_eq 190 195 k_L_isCounted_190 rfl rfl (fun c190 => ?_) (fun c190 => ?_)
          · have h127t := h127.1 c190
            refine q_aload_n 195 k_L_isCounted_195 rfl ?_
            refine q_iload_n 196 k_L_isCounted_196 rfl ?_
            refine q_vI 197 [vI x1] [] k_L_isCounted_197 lk_4_74 rfl rfl rfl rfl rfl rfl rfl rfl (CallI.mono (fun y80 M79 h128 => ?_) h127t)
            refine q_pop 200 k_L_isCounted_200 rfl ?_
            refine q_iload_n 201 k_L_isCounted_201 rfl ?_
            refine q_iconst 202 k_L_isCounted_202 ?_
            refine q_ishr 203 k_L_isCounted_203 ?_
            refine q_bipush 204 k_L_isCounted_204 (by decide) ?_
            refine q_sI 206 [vI (opShr x3 3), vI 100] [] k_L_isCounted_206 rfl lk_4_23 rfl rfl rfl rfl rfl rfl (CallI.mono (fun y82 M81 h129 => ?_) h128)
            refine q_istore 209 k_L_isCounted_209 (ls' := [some (vR 3 0), some (vI x1), some (vI x2), some (vI x3), some (vI x4), some (vI (1 + y2)), some (vI (1 + y48)), some (vI y56), some (vI y58), some (vI y60), some (vI (y62 * y64)), some (vI y82), none]) rfl rfl ?_
            refine q_aload_n 211 k_L_isCounted_211 rfl ?_
            refine q_iload_n 212 k_L_isCounted_212 rfl ?_
            refine q_iload 213 k_L_isCounted_213 rfl ?_
            refine q_vI 215 [vI x1, vI y82] [] k_L_isCounted_215 lk_4_126 rfl rfl rfl rfl rfl rfl rfl rfl (CallI.mono (fun y84 M83 h130 => ?_) h129)
            refine q_istore 218 k_L_isCounted_218 (ls' := [some (vR 3 0), some (vI x1), some (vI x2), some (vI x3), some (vI x4), some (vI (1 + y2)), some (vI (1 + y48)), some (vI y56), some (vI y58), some (vI y60), some (vI (y62 * y64)), some (vI y82), some (vI y84)]) rfl rfl ?_
            refine q_iload 220 k_L_isCounted_220 rfl ?_
            refine q_sI 222 [vI y84] [] k_L_isCounted_222 rfl lk_4_137 rfl rfl rfl rfl rfl rfl (CallI.mono (fun y86 M85 h131 => ?_) h130)
            refine q_if_eq 225 246 k_L_isCounted_225 rfl rfl (fun c225 => ?_) (fun c225 => ?_)
            · have h131t := h131.1 c225
              refine q_iconst 246 k_L_isCounted_246 ?_
              exact q_zret 247 k_L_isCounted_247 rfl (Or.inl rfl) h131t
            · have h131f := h131.2 c225
              refine q_aload_n 228 k_L_isCounted_228 rfl ?_
              refine q_iload_n 229 k_L_isCounted_229 rfl ?_
              refine q_iload 230 k_L_isCounted_230 rfl ?_
              refine q_vI 232 [vI x1, vI y84] [] k_L_isCounted_232 lk_4_123 rfl rfl rfl rfl rfl rfl rfl rfl (CallI.mono (fun y88 M87 h132 => ?_) h131f)
              refine q_iload 235 k_L_isCounted_235 rfl ?_
              refine q_iconst 237 k_L_isCounted_237 ?_
              refine q_iadd 238 k_L_isCounted_238 ?_
              refine q_icmp_ne 239 246 k_L_isCounted_239 rfl rfl (fun c239 => ?_) (fun c239 => ?_)
              · have h132t := h132.1 c239
                refine q_iconst 246 k_L_isCounted_246 ?_
                exact q_zret 247 k_L_isCounted_247 rfl (Or.inl rfl) h132t
              · have h132f := h132.2 c239
                refine q_iconst 242 k_L_isCounted_242 ?_
                refine q_goto 243 247 k_L_isCounted_243 rfl rfl ?_
                exact q_zret 247 k_L_isCounted_247 rfl (Or.inr rfl) h132f
          · have h127f := h127.2 c190
            refine q_iconst 193 k_L_isCounted_193 ?_
            exact q_zret 194 k_L_isCounted_194 rfl (Or.inl rfl) h127f
        · have h124f := h124.2 c157
          refine q_iconst 160 k_L_isCounted_160 ?_
          exact q_zret 161 k_L_isCounted_161 rfl (Or.inl rfl) h124f
      · have h122f := h122.2 c133
        refine q_iconst 136 k_L_isCounted_136 ?_
        exact q_zret 137 k_L_isCounted_137 rfl (Or.inl rfl) h122f
    · have h115f := h115.2 c69
      refine q_iconst 72 k_L_isCounted_72 ?_
      exact q_zret 73 k_L_isCounted_73 rfl (Or.inl rfl) h115f
theorem k_L_law_0 : decode (mtC m_L_law) 0 = .ok (.new 17, 3) := by decide +kernel
theorem k_L_law_3 : decode (mtC m_L_law) 3 = .ok (.dup, 1) := by decide +kernel
theorem k_L_law_4 : decode (mtC m_L_law) 4 = .ok (.invokespecial 19, 3) := by decide +kernel
theorem k_L_law_7 : decode (mtC m_L_law) 7 = .ok (.astore_n 1, 1) := by decide +kernel
theorem k_L_law_8 : decode (mtC m_L_law) 8 = .ok (.iconst 0, 1) := by decide +kernel
theorem k_L_law_9 : decode (mtC m_L_law) 9 = .ok (.istore_n 2, 1) := by decide +kernel
theorem k_L_law_10 : decode (mtC m_L_law) 10 = .ok (.iload_n 2, 1) := by decide +kernel
theorem k_L_law_11 : decode (mtC m_L_law) 11 = .ok (.bipush 6, 2) := by decide +kernel
theorem k_L_law_13 : decode (mtC m_L_law) 13 = .ok (.if_icmp .ge 69, 3) := by decide +kernel
theorem k_L_law_16 : decode (mtC m_L_law) 16 = .ok (.aload_n 0, 1) := by decide +kernel
theorem k_L_law_17 : decode (mtC m_L_law) 17 = .ok (.iload_n 2, 1) := by decide +kernel
theorem k_L_law_18 : decode (mtC m_L_law) 18 = .ok (.invokestatic 20, 3) := by decide +kernel
theorem k_L_law_21 : decode (mtC m_L_law) 21 = .ok (.bipush 7, 2) := by decide +kernel
theorem k_L_law_23 : decode (mtC m_L_law) 23 = .ok (.invokestatic 23, 3) := by decide +kernel
theorem k_L_law_26 : decode (mtC m_L_law) 26 = .ok (.ifCond .le 50, 3) := by decide +kernel
theorem k_L_law_29 : decode (mtC m_L_law) 29 = .ok (.aload_n 1, 1) := by decide +kernel
theorem k_L_law_30 : decode (mtC m_L_law) 30 = .ok (.iload_n 2, 1) := by decide +kernel
theorem k_L_law_31 : decode (mtC m_L_law) 31 = .ok (.aload_n 0, 1) := by decide +kernel
theorem k_L_law_32 : decode (mtC m_L_law) 32 = .ok (.iload_n 2, 1) := by decide +kernel
theorem k_L_law_33 : decode (mtC m_L_law) 33 = .ok (.bipush 6, 2) := by decide +kernel
theorem k_L_law_35 : decode (mtC m_L_law) 35 = .ok (.iadd, 1) := by decide +kernel
theorem k_L_law_36 : decode (mtC m_L_law) 36 = .ok (.invokestatic 20, 3) := by decide +kernel
theorem k_L_law_39 : decode (mtC m_L_law) 39 = .ok (.bipush 100, 2) := by decide +kernel
theorem k_L_law_41 : decode (mtC m_L_law) 41 = .ok (.invokestatic 23, 3) := by decide +kernel
theorem k_L_law_44 : decode (mtC m_L_law) 44 = .ok (.aload_n 0, 1) := by decide +kernel
theorem k_L_law_45 : decode (mtC m_L_law) 45 = .ok (.iload_n 2, 1) := by decide +kernel
theorem k_L_law_46 : decode (mtC m_L_law) 46 = .ok (.bipush 12, 2) := by decide +kernel
theorem k_L_law_48 : decode (mtC m_L_law) 48 = .ok (.iadd, 1) := by decide +kernel
theorem k_L_law_49 : decode (mtC m_L_law) 49 = .ok (.invokestatic 20, 3) := by decide +kernel
theorem k_L_law_52 : decode (mtC m_L_law) 52 = .ok (.bipush 40, 2) := by decide +kernel
theorem k_L_law_54 : decode (mtC m_L_law) 54 = .ok (.invokestatic 23, 3) := by decide +kernel
theorem k_L_law_57 : decode (mtC m_L_law) 57 = .ok (.iconst 1, 1) := by decide +kernel
theorem k_L_law_58 : decode (mtC m_L_law) 58 = .ok (.aload_n 0, 1) := by decide +kernel
theorem k_L_law_59 : decode (mtC m_L_law) 59 = .ok (.iload_n 2, 1) := by decide +kernel
theorem k_L_law_60 : decode (mtC m_L_law) 60 = .ok (.bipush 18, 2) := by decide +kernel
theorem k_L_law_62 : decode (mtC m_L_law) 62 = .ok (.iadd, 1) := by decide +kernel
theorem k_L_law_63 : decode (mtC m_L_law) 63 = .ok (.invokestatic 20, 3) := by decide +kernel
theorem k_L_law_66 : decode (mtC m_L_law) 66 = .ok (.bipush 8, 2) := by decide +kernel
theorem k_L_law_68 : decode (mtC m_L_law) 68 = .ok (.invokestatic 23, 3) := by decide +kernel
theorem k_L_law_71 : decode (mtC m_L_law) 71 = .ok (.iadd, 1) := by decide +kernel
theorem k_L_law_72 : decode (mtC m_L_law) 72 = .ok (.invokevirtual 27, 3) := by decide +kernel
theorem k_L_law_75 : decode (mtC m_L_law) 75 = .ok (.pop, 1) := by decide +kernel
theorem k_L_law_76 : decode (mtC m_L_law) 76 = .ok (.iinc 2 1, 3) := by decide +kernel
theorem k_L_law_79 : decode (mtC m_L_law) 79 = .ok (.goto (-69), 3) := by decide +kernel
theorem k_L_law_82 : decode (mtC m_L_law) 82 = .ok (.iconst 0, 1) := by decide +kernel
theorem k_L_law_83 : decode (mtC m_L_law) 83 = .ok (.istore_n 2, 1) := by decide +kernel
theorem k_L_law_84 : decode (mtC m_L_law) 84 = .ok (.iload_n 2, 1) := by decide +kernel
theorem k_L_law_85 : decode (mtC m_L_law) 85 = .ok (.iconst 5, 1) := by decide +kernel
theorem k_L_law_86 : decode (mtC m_L_law) 86 = .ok (.if_icmp .ge 43, 3) := by decide +kernel
theorem k_L_law_89 : decode (mtC m_L_law) 89 = .ok (.aload_n 1, 1) := by decide +kernel
theorem k_L_law_90 : decode (mtC m_L_law) 90 = .ok (.iload_n 2, 1) := by decide +kernel
theorem k_L_law_91 : decode (mtC m_L_law) 91 = .ok (.aload_n 0, 1) := by decide +kernel
theorem k_L_law_92 : decode (mtC m_L_law) 92 = .ok (.iload_n 2, 1) := by decide +kernel
theorem k_L_law_93 : decode (mtC m_L_law) 93 = .ok (.bipush 24, 2) := by decide +kernel
theorem k_L_law_95 : decode (mtC m_L_law) 95 = .ok (.iadd, 1) := by decide +kernel
theorem k_L_law_96 : decode (mtC m_L_law) 96 = .ok (.invokestatic 20, 3) := by decide +kernel
theorem k_L_law_99 : decode (mtC m_L_law) 99 = .ok (.bipush 6, 2) := by decide +kernel
theorem k_L_law_101 : decode (mtC m_L_law) 101 = .ok (.invokestatic 23, 3) := by decide +kernel
theorem k_L_law_104 : decode (mtC m_L_law) 104 = .ok (.aload_n 0, 1) := by decide +kernel
theorem k_L_law_105 : decode (mtC m_L_law) 105 = .ok (.iload_n 2, 1) := by decide +kernel
theorem k_L_law_106 : decode (mtC m_L_law) 106 = .ok (.bipush 30, 2) := by decide +kernel
theorem k_L_law_108 : decode (mtC m_L_law) 108 = .ok (.iadd, 1) := by decide +kernel
theorem k_L_law_109 : decode (mtC m_L_law) 109 = .ok (.invokestatic 20, 3) := by decide +kernel
theorem k_L_law_112 : decode (mtC m_L_law) 112 = .ok (.aload_n 0, 1) := by decide +kernel
theorem k_L_law_113 : decode (mtC m_L_law) 113 = .ok (.iload_n 2, 1) := by decide +kernel
theorem k_L_law_114 : decode (mtC m_L_law) 114 = .ok (.bipush 36, 2) := by decide +kernel
theorem k_L_law_116 : decode (mtC m_L_law) 116 = .ok (.iadd, 1) := by decide +kernel
theorem k_L_law_117 : decode (mtC m_L_law) 117 = .ok (.invokestatic 20, 3) := by decide +kernel
theorem k_L_law_120 : decode (mtC m_L_law) 120 = .ok (.invokestatic 31, 3) := by decide +kernel
theorem k_L_law_123 : decode (mtC m_L_law) 123 = .ok (.iinc 2 1, 3) := by decide +kernel
theorem k_L_law_126 : decode (mtC m_L_law) 126 = .ok (.goto (-42), 3) := by decide +kernel
theorem k_L_law_129 : decode (mtC m_L_law) 129 = .ok (.iconst 0, 1) := by decide +kernel
theorem k_L_law_130 : decode (mtC m_L_law) 130 = .ok (.istore_n 2, 1) := by decide +kernel
theorem k_L_law_131 : decode (mtC m_L_law) 131 = .ok (.iload_n 2, 1) := by decide +kernel
theorem k_L_law_132 : decode (mtC m_L_law) 132 = .ok (.bipush 30, 2) := by decide +kernel
theorem k_L_law_134 : decode (mtC m_L_law) 134 = .ok (.if_icmp .ge 260, 3) := by decide +kernel
theorem k_L_law_137 : decode (mtC m_L_law) 137 = .ok (.bipush 7, 2) := by decide +kernel
theorem k_L_law_139 : decode (mtC m_L_law) 139 = .ok (.iload_n 2, 1) := by decide +kernel
theorem k_L_law_140 : decode (mtC m_L_law) 140 = .ok (.imul, 1) := by decide +kernel
theorem k_L_law_141 : decode (mtC m_L_law) 141 = .ok (.bipush 41, 2) := by decide +kernel
theorem k_L_law_143 : decode (mtC m_L_law) 143 = .ok (.iadd, 1) := by decide +kernel
theorem k_L_law_144 : decode (mtC m_L_law) 144 = .ok (.istore_n 3, 1) := by decide +kernel
theorem k_L_law_145 : decode (mtC m_L_law) 145 = .ok (.aload_n 1, 1) := by decide +kernel
theorem k_L_law_146 : decode (mtC m_L_law) 146 = .ok (.aload_n 0, 1) := by decide +kernel
theorem k_L_law_147 : decode (mtC m_L_law) 147 = .ok (.iload_n 3, 1) := by decide +kernel
theorem k_L_law_148 : decode (mtC m_L_law) 148 = .ok (.invokestatic 20, 3) := by decide +kernel
theorem k_L_law_151 : decode (mtC m_L_law) 151 = .ok (.iconst 5, 1) := by decide +kernel
theorem k_L_law_152 : decode (mtC m_L_law) 152 = .ok (.invokestatic 23, 3) := by decide +kernel
theorem k_L_law_155 : decode (mtC m_L_law) 155 = .ok (.aload_n 0, 1) := by decide +kernel
theorem k_L_law_156 : decode (mtC m_L_law) 156 = .ok (.iload_n 3, 1) := by decide +kernel
theorem k_L_law_157 : decode (mtC m_L_law) 157 = .ok (.iconst 1, 1) := by decide +kernel
theorem k_L_law_158 : decode (mtC m_L_law) 158 = .ok (.iadd, 1) := by decide +kernel
theorem k_L_law_159 : decode (mtC m_L_law) 159 = .ok (.invokestatic 20, 3) := by decide +kernel
theorem k_L_law_162 : decode (mtC m_L_law) 162 = .ok (.bipush 13, 2) := by decide +kernel
theorem k_L_law_164 : decode (mtC m_L_law) 164 = .ok (.invokestatic 23, 3) := by decide +kernel
theorem k_L_law_167 : decode (mtC m_L_law) 167 = .ok (.aload_n 0, 1) := by decide +kernel
theorem k_L_law_168 : decode (mtC m_L_law) 168 = .ok (.iload_n 3, 1) := by decide +kernel
theorem k_L_law_169 : decode (mtC m_L_law) 169 = .ok (.iconst 2, 1) := by decide +kernel
theorem k_L_law_170 : decode (mtC m_L_law) 170 = .ok (.iadd, 1) := by decide +kernel
theorem k_L_law_171 : decode (mtC m_L_law) 171 = .ok (.invokestatic 20, 3) := by decide +kernel
theorem k_L_law_174 : decode (mtC m_L_law) 174 = .ok (.aload_n 0, 1) := by decide +kernel
theorem k_L_law_175 : decode (mtC m_L_law) 175 = .ok (.iload_n 3, 1) := by decide +kernel
theorem k_L_law_176 : decode (mtC m_L_law) 176 = .ok (.iconst 3, 1) := by decide +kernel
theorem k_L_law_177 : decode (mtC m_L_law) 177 = .ok (.iadd, 1) := by decide +kernel
theorem k_L_law_178 : decode (mtC m_L_law) 178 = .ok (.invokestatic 20, 3) := by decide +kernel
theorem k_L_law_181 : decode (mtC m_L_law) 181 = .ok (.invokestatic 35, 3) := by decide +kernel
theorem k_L_law_184 : decode (mtC m_L_law) 184 = .ok (.aload_n 0, 1) := by decide +kernel
theorem k_L_law_185 : decode (mtC m_L_law) 185 = .ok (.iload_n 3, 1) := by decide +kernel
theorem k_L_law_186 : decode (mtC m_L_law) 186 = .ok (.iconst 4, 1) := by decide +kernel
theorem k_L_law_187 : decode (mtC m_L_law) 187 = .ok (.iadd, 1) := by decide +kernel
theorem k_L_law_188 : decode (mtC m_L_law) 188 = .ok (.invokestatic 20, 3) := by decide +kernel
theorem k_L_law_191 : decode (mtC m_L_law) 191 = .ok (.iconst 5, 1) := by decide +kernel
theorem k_L_law_192 : decode (mtC m_L_law) 192 = .ok (.invokestatic 23, 3) := by decide +kernel
theorem k_L_law_195 : decode (mtC m_L_law) 195 = .ok (.istore 4, 2) := by decide +kernel
theorem k_L_law_197 : decode (mtC m_L_law) 197 = .ok (.aload_n 1, 1) := by decide +kernel
theorem k_L_law_198 : decode (mtC m_L_law) 198 = .ok (.invokevirtual 38, 3) := by decide +kernel
theorem k_L_law_201 : decode (mtC m_L_law) 201 = .ok (.ifCond .eq 27, 3) := by decide +kernel
theorem k_L_law_204 : decode (mtC m_L_law) 204 = .ok (.aload_n 1, 1) := by decide +kernel
theorem k_L_law_205 : decode (mtC m_L_law) 205 = .ok (.iload 4, 2) := by decide +kernel
theorem k_L_law_207 : decode (mtC m_L_law) 207 = .ok (.aload_n 0, 1) := by decide +kernel
theorem k_L_law_208 : decode (mtC m_L_law) 208 = .ok (.iload_n 3, 1) := by decide +kernel
theorem k_L_law_209 : decode (mtC m_L_law) 209 = .ok (.iconst 5, 1) := by decide +kernel
theorem k_L_law_210 : decode (mtC m_L_law) 210 = .ok (.iadd, 1) := by decide +kernel
theorem k_L_law_211 : decode (mtC m_L_law) 211 = .ok (.invokestatic 20, 3) := by decide +kernel
theorem k_L_law_214 : decode (mtC m_L_law) 214 = .ok (.aload_n 0, 1) := by decide +kernel
theorem k_L_law_215 : decode (mtC m_L_law) 215 = .ok (.iload_n 3, 1) := by decide +kernel
theorem k_L_law_216 : decode (mtC m_L_law) 216 = .ok (.bipush 6, 2) := by decide +kernel
theorem k_L_law_218 : decode (mtC m_L_law) 218 = .ok (.iadd, 1) := by decide +kernel
theorem k_L_law_219 : decode (mtC m_L_law) 219 = .ok (.invokestatic 20, 3) := by decide +kernel
theorem k_L_law_222 : decode (mtC m_L_law) 222 = .ok (.invokestatic 42, 3) := by decide +kernel
theorem k_L_law_225 : decode (mtC m_L_law) 225 = .ok (.ifCond .ne 5, 3) := by decide +kernel
theorem k_L_law_228 : decode (mtC m_L_law) 228 = .ok (.iconst 0, 1) := by decide +kernel
theorem k_L_law_229 : decode (mtC m_L_law) 229 = .ok (.ireturn, 1) := by decide +kernel
theorem k_L_law_230 : decode (mtC m_L_law) 230 = .ok (.iload 4, 2) := by decide +kernel
theorem k_L_law_232 : decode (mtC m_L_law) 232 = .ok (.iconst 1, 1) := by decide +kernel
theorem k_L_law_233 : decode (mtC m_L_law) 233 = .ok (.iadd, 1) := by decide +kernel
theorem k_L_law_234 : decode (mtC m_L_law) 234 = .ok (.iload_n 2, 1) := by decide +kernel
theorem k_L_law_235 : decode (mtC m_L_law) 235 = .ok (.iconst 5, 1) := by decide +kernel
theorem k_L_law_236 : decode (mtC m_L_law) 236 = .ok (.idiv, 1) := by decide +kernel
theorem k_L_law_237 : decode (mtC m_L_law) 237 = .ok (.iconst 4, 1) := by decide +kernel
theorem k_L_law_238 : decode (mtC m_L_law) 238 = .ok (.irem, 1) := by decide +kernel
theorem k_L_law_239 : decode (mtC m_L_law) 239 = .ok (.iadd, 1) := by decide +kernel
theorem k_L_law_240 : decode (mtC m_L_law) 240 = .ok (.iconst 5, 1) := by decide +kernel
theorem k_L_law_241 : decode (mtC m_L_law) 241 = .ok (.irem, 1) := by decide +kernel
theorem k_L_law_242 : decode (mtC m_L_law) 242 = .ok (.istore 5, 2) := by decide +kernel
theorem k_L_law_244 : decode (mtC m_L_law) 244 = .ok (.iload_n 2, 1) := by decide +kernel
theorem k_L_law_245 : decode (mtC m_L_law) 245 = .ok (.iconst 5, 1) := by decide +kernel
theorem k_L_law_246 : decode (mtC m_L_law) 246 = .ok (.irem, 1) := by decide +kernel
theorem k_L_law_247 : decode (mtC m_L_law) 247 = .ok (.iconst 4, 1) := by decide +kernel
theorem k_L_law_248 : decode (mtC m_L_law) 248 = .ok (.if_icmp .ne 30, 3) := by decide +kernel
theorem k_L_law_251 : decode (mtC m_L_law) 251 = .ok (.aload_n 1, 1) := by decide +kernel
theorem k_L_law_252 : decode (mtC m_L_law) 252 = .ok (.iload 4, 2) := by decide +kernel
theorem k_L_law_254 : decode (mtC m_L_law) 254 = .ok (.iload 5, 2) := by decide +kernel
theorem k_L_law_256 : decode (mtC m_L_law) 256 = .ok (.iconst 1, 1) := by decide +kernel
theorem k_L_law_257 : decode (mtC m_L_law) 257 = .ok (.aload_n 0, 1) := by decide +kernel
theorem k_L_law_258 : decode (mtC m_L_law) 258 = .ok (.iload_n 3, 1) := by decide +kernel
theorem k_L_law_259 : decode (mtC m_L_law) 259 = .ok (.iconst 5, 1) := by decide +kernel
theorem k_L_law_260 : decode (mtC m_L_law) 260 = .ok (.iadd, 1) := by decide +kernel
theorem k_L_law_261 : decode (mtC m_L_law) 261 = .ok (.invokestatic 20, 3) := by decide +kernel
theorem k_L_law_264 : decode (mtC m_L_law) 264 = .ok (.bipush 9, 2) := by decide +kernel
theorem k_L_law_266 : decode (mtC m_L_law) 266 = .ok (.invokestatic 23, 3) := by decide +kernel
theorem k_L_law_269 : decode (mtC m_L_law) 269 = .ok (.iadd, 1) := by decide +kernel
theorem k_L_law_270 : decode (mtC m_L_law) 270 = .ok (.invokestatic 46, 3) := by decide +kernel
theorem k_L_law_273 : decode (mtC m_L_law) 273 = .ok (.ifCond .ne 5, 3) := by decide +kernel
theorem k_L_law_276 : decode (mtC m_L_law) 276 = .ok (.iconst 0, 1) := by decide +kernel
theorem k_L_law_277 : decode (mtC m_L_law) 277 = .ok (.ireturn, 1) := by decide +kernel
theorem k_L_law_278 : decode (mtC m_L_law) 278 = .ok (.iload_n 2, 1) := by decide +kernel
theorem k_L_law_279 : decode (mtC m_L_law) 279 = .ok (.bipush 10, 2) := by decide +kernel
theorem k_L_law_281 : decode (mtC m_L_law) 281 = .ok (.irem, 1) := by decide +kernel
theorem k_L_law_282 : decode (mtC m_L_law) 282 = .ok (.bipush 7, 2) := by decide +kernel
theorem k_L_law_284 : decode (mtC m_L_law) 284 = .ok (.if_icmp .ne 63, 3) := by decide +kernel
theorem k_L_law_287 : decode (mtC m_L_law) 287 = .ok (.aload_n 1, 1) := by decide +kernel
theorem k_L_law_288 : decode (mtC m_L_law) 288 = .ok (.iload 4, 2) := by decide +kernel
theorem k_L_law_290 : decode (mtC m_L_law) 290 = .ok (.iload 5, 2) := by decide +kernel
theorem k_L_law_292 : decode (mtC m_L_law) 292 = .ok (.iconst 1, 1) := by decide +kernel
theorem k_L_law_293 : decode (mtC m_L_law) 293 = .ok (.aload_n 0, 1) := by decide +kernel
theorem k_L_law_294 : decode (mtC m_L_law) 294 = .ok (.iload_n 3, 1) := by decide +kernel
theorem k_L_law_295 : decode (mtC m_L_law) 295 = .ok (.iconst 5, 1) := by decide +kernel
theorem k_L_law_296 : decode (mtC m_L_law) 296 = .ok (.iadd, 1) := by decide +kernel
theorem k_L_law_297 : decode (mtC m_L_law) 297 = .ok (.invokestatic 20, 3) := by decide +kernel
theorem k_L_law_300 : decode (mtC m_L_law) 300 = .ok (.bipush 63, 2) := by decide +kernel
theorem k_L_law_302 : decode (mtC m_L_law) 302 = .ok (.invokestatic 23, 3) := by decide +kernel
theorem k_L_law_305 : decode (mtC m_L_law) 305 = .ok (.iadd, 1) := by decide +kernel
theorem k_L_law_306 : decode (mtC m_L_law) 306 = .ok (.aload_n 0, 1) := by decide +kernel
theorem k_L_law_307 : decode (mtC m_L_law) 307 = .ok (.iload_n 3, 1) := by decide +kernel
theorem k_L_law_308 : decode (mtC m_L_law) 308 = .ok (.bipush 6, 2) := by decide +kernel
theorem k_L_law_310 : decode (mtC m_L_law) 310 = .ok (.iadd, 1) := by decide +kernel
theorem k_L_law_311 : decode (mtC m_L_law) 311 = .ok (.invokestatic 20, 3) := by decide +kernel
theorem k_L_law_314 : decode (mtC m_L_law) 314 = .ok (.iconst 2, 1) := by decide +kernel
theorem k_L_law_315 : decode (mtC m_L_law) 315 = .ok (.invokestatic 23, 3) := by decide +kernel
theorem k_L_law_318 : decode (mtC m_L_law) 318 = .ok (.iconst 1, 1) := by decide +kernel
theorem k_L_law_319 : decode (mtC m_L_law) 319 = .ok (.if_icmp .ne 7, 3) := by decide +kernel
theorem k_L_law_322 : decode (mtC m_L_law) 322 = .ok (.iconst 1, 1) := by decide +kernel
theorem k_L_law_323 : decode (mtC m_L_law) 323 = .ok (.goto 4, 3) := by decide +kernel
theorem k_L_law_326 : decode (mtC m_L_law) 326 = .ok (.iconst 0, 1) := by decide +kernel
theorem k_L_law_327 : decode (mtC m_L_law) 327 = .ok (.aload_n 0, 1) := by decide +kernel
theorem k_L_law_328 : decode (mtC m_L_law) 328 = .ok (.iload_n 3, 1) := by decide +kernel
theorem k_L_law_329 : decode (mtC m_L_law) 329 = .ok (.iconst 3, 1) := by decide +kernel
theorem k_L_law_330 : decode (mtC m_L_law) 330 = .ok (.iadd, 1) := by decide +kernel
theorem k_L_law_331 : decode (mtC m_L_law) 331 = .ok (.invokestatic 20, 3) := by decide +kernel
theorem k_L_law_334 : decode (mtC m_L_law) 334 = .ok (.bipush 6, 2) := by decide +kernel
theorem k_L_law_336 : decode (mtC m_L_law) 336 = .ok (.invokestatic 23, 3) := by decide +kernel
theorem k_L_law_339 : decode (mtC m_L_law) 339 = .ok (.invokestatic 49, 3) := by decide +kernel
theorem k_L_law_342 : decode (mtC m_L_law) 342 = .ok (.ifCond .ne 5, 3) := by decide +kernel
theorem k_L_law_345 : decode (mtC m_L_law) 345 = .ok (.iconst 0, 1) := by decide +kernel
theorem k_L_law_346 : decode (mtC m_L_law) 346 = .ok (.ireturn, 1) := by decide +kernel
theorem k_L_law_347 : decode (mtC m_L_law) 347 = .ok (.iload_n 2, 1) := by decide +kernel
theorem k_L_law_348 : decode (mtC m_L_law) 348 = .ok (.bipush 10, 2) := by decide +kernel
theorem k_L_law_350 : decode (mtC m_L_law) 350 = .ok (.irem, 1) := by decide +kernel
theorem k_L_law_351 : decode (mtC m_L_law) 351 = .ok (.iconst 2, 1) := by decide +kernel
theorem k_L_law_352 : decode (mtC m_L_law) 352 = .ok (.if_icmp .ne 36, 3) := by decide +kernel
theorem k_L_law_355 : decode (mtC m_L_law) 355 = .ok (.aload_n 1, 1) := by decide +kernel
theorem k_L_law_356 : decode (mtC m_L_law) 356 = .ok (.iload 4, 2) := by decide +kernel
theorem k_L_law_358 : decode (mtC m_L_law) 358 = .ok (.aload_n 0, 1) := by decide +kernel
theorem k_L_law_359 : decode (mtC m_L_law) 359 = .ok (.iload_n 3, 1) := by decide +kernel
theorem k_L_law_360 : decode (mtC m_L_law) 360 = .ok (.iconst 5, 1) := by decide +kernel
theorem k_L_law_361 : decode (mtC m_L_law) 361 = .ok (.iadd, 1) := by decide +kernel
theorem k_L_law_362 : decode (mtC m_L_law) 362 = .ok (.invokestatic 20, 3) := by decide +kernel
theorem k_L_law_365 : decode (mtC m_L_law) 365 = .ok (.aload_n 0, 1) := by decide +kernel
theorem k_L_law_366 : decode (mtC m_L_law) 366 = .ok (.iload_n 3, 1) := by decide +kernel
theorem k_L_law_367 : decode (mtC m_L_law) 367 = .ok (.bipush 6, 2) := by decide +kernel
theorem k_L_law_369 : decode (mtC m_L_law) 369 = .ok (.iadd, 1) := by decide +kernel
theorem k_L_law_370 : decode (mtC m_L_law) 370 = .ok (.invokestatic 20, 3) := by decide +kernel
theorem k_L_law_373 : decode (mtC m_L_law) 373 = .ok (.aload_n 0, 1) := by decide +kernel
theorem k_L_law_374 : decode (mtC m_L_law) 374 = .ok (.iload_n 3, 1) := by decide +kernel
theorem k_L_law_375 : decode (mtC m_L_law) 375 = .ok (.iconst 3, 1) := by decide +kernel
theorem k_L_law_376 : decode (mtC m_L_law) 376 = .ok (.iadd, 1) := by decide +kernel
theorem k_L_law_377 : decode (mtC m_L_law) 377 = .ok (.invokestatic 20, 3) := by decide +kernel
theorem k_L_law_380 : decode (mtC m_L_law) 380 = .ok (.invokestatic 53, 3) := by decide +kernel
theorem k_L_law_383 : decode (mtC m_L_law) 383 = .ok (.ifCond .ne 5, 3) := by decide +kernel
theorem k_L_law_386 : decode (mtC m_L_law) 386 = .ok (.iconst 0, 1) := by decide +kernel
theorem k_L_law_387 : decode (mtC m_L_law) 387 = .ok (.ireturn, 1) := by decide +kernel
theorem k_L_law_388 : decode (mtC m_L_law) 388 = .ok (.iinc 2 1, 3) := by decide +kernel
theorem k_L_law_391 : decode (mtC m_L_law) 391 = .ok (.goto (-260), 3) := by decide +kernel
theorem k_L_law_394 : decode (mtC m_L_law) 394 = .ok (.aload_n 1, 1) := by decide +kernel
theorem k_L_law_395 : decode (mtC m_L_law) 395 = .ok (.invokevirtual 38, 3) := by decide +kernel
theorem k_L_law_398 : decode (mtC m_L_law) 398 = .ok (.ireturn, 1) := by decide +kernel
set_option maxHeartbeats 4000000 in
set_option maxRecDepth 100000 in
theorem T_L_law_7 {d : Nat}  {M : AMem} {Q : Option AV → AMem → Prop}  (h : RunQ (d + 1) m_L_law 10 [some (vR 9 0), some (vR 3 0), some (vI 0), none, none, none] [] M Q) : RunQ (d + 1) m_L_law 7 [some (vR 9 0), none, none, none, none, none] [vR 3 0] M Q := by
  refine q_astore_n 7 k_L_law_7 (ls' := [some (vR 9 0), some (vR 3 0), none, none, none, none]) rfl rfl ?_
  refine q_iconst 8 k_L_law_8 ?_
  refine q_istore_n 9 k_L_law_9 (ls' := [some (vR 9 0), some (vR 3 0), some (vI 0), none, none, none]) rfl rfl ?_
  exact h
set_option maxHeartbeats 4000000 in
set_option maxRecDepth 100000 in
theorem T_L_law_10 {d : Nat} {x2 : Int} {M : AMem} {Q : Option AV → AMem → Prop}  (h : ((6 ≤ wI x2) → RunQ (d + 1) m_L_law 84 [some (vR 9 0), some (vR 3 0), some (vI 0), none, none, none] [] M Q) ∧ (¬ (6 ≤ wI x2) → CallI d m_L_roll [vR 9 0, vI x2] M (fun y2 M1 => CallI d m_L_below [vI y2, vI 7] M1 (fun y4 M3 => ((wI y4 ≤ 0) → RunQ (d + 1) m_L_law 10 [some (vR 9 0), some (vR 3 0), some (vI (x2 + 1)), none, none, none] [] M3 Q) ∧ (¬ (wI y4 ≤ 0) → CallI d m_L_roll [vR 9 0, vI (x2 + 6)] M3 (fun y6 M5 => CallI d m_L_below [vI y6, vI 100] M5 (fun y8 M7 => CallI d m_L_roll [vR 9 0, vI (x2 + 12)] M7 (fun y10 M9 => CallI d m_L_below [vI y10, vI 40] M9 (fun y12 M11 => CallI d m_L_roll [vR 9 0, vI (x2 + 18)] M11 (fun y14 M13 => CallI d m_L_below [vI y14, vI 8] M13 (fun y16 M15 => CallI d m_H_fill [vR 3 0, vI x2, vI y8, vI y12, vI (1 + y16)] M15 (fun y18 M17 => RunQ (d + 1) m_L_law 10 [some (vR 9 0), some (vR 3 0), some (vI (x2 + 1)), none, none, none] [] M17 Q)))))))))))) : RunQ (d + 1) m_L_law 10 [some (vR 9 0), some (vR 3 0), some (vI x2), none, none, none] [] M Q := by
  refine q_iload_n 10 k_L_law_10 rfl ?_
  refine q_bipush 11 k_L_law_11 (by decide) ?_
  refine q_icmp_ge 13 82 k_L_law_13 rfl rfl (fun c13 => ?_) (fun c13 => ?_)
  · have ht := h.1 c13
    refine q_iconst 82 k_L_law_82 ?_
    refine q_istore_n 83 k_L_law_83 (ls' := [some (vR 9 0), some (vR 3 0), some (vI 0), none, none, none]) rfl rfl ?_
    exact ht
  · have hf := h.2 c13
    refine q_aload_n 16 k_L_law_16 rfl ?_
    refine q_iload_n 17 k_L_law_17 rfl ?_
    refine q_sI 18 [vR 9 0, vI x2] [] k_L_law_18 rfl lk_4_20 rfl rfl rfl rfl rfl rfl (CallI.mono (fun y2 M1 h19 => ?_) hf)
    refine q_bipush 21 k_L_law_21 (by decide) ?_
    refine q_sI 23 [vI y2, vI 7] [] k_L_law_23 rfl lk_4_23 rfl rfl rfl rfl rfl rfl (CallI.mono (fun y4 M3 h20 => ?_) h19)
    refine q_if_le 26 76 k_L_law_26 rfl rfl (fun c26 => ?_) (fun c26 => ?_)
    · have h20t := h20.1 c26
      refine q_iinc 76 k_L_law_76 (ls' := [some (vR 9 0), some (vR 3 0), some (vI (x2 + 1)), none, none, none]) rfl rfl rfl ?_
      refine q_goto 79 10 k_L_law_79 rfl rfl ?_
      exact h20t
    · have h20f := h20.2 c26
      refine q_aload_n 29 k_L_law_29 rfl ?_
      refine q_iload_n 30 k_L_law_30 rfl ?_
      refine q_aload_n 31 k_L_law_31 rfl ?_
      refine q_iload_n 32 k_L_law_32 rfl ?_
      refine q_bipush 33 k_L_law_33 (by decide) ?_
      refine q_iadd 35 k_L_law_35 ?_
      refine q_sI 36 [vR 9 0, vI (x2 + 6)] [vI x2, vR 3 0] k_L_law_36 rfl lk_4_20 rfl rfl rfl rfl rfl rfl (CallI.mono (fun y6 M5 h21 => ?_) h20f)
      refine q_bipush 39 k_L_law_39 (by decide) ?_
      refine q_sI 41 [vI y6, vI 100] [vI x2, vR 3 0] k_L_law_41 rfl lk_4_23 rfl rfl rfl rfl rfl rfl (CallI.mono (fun y8 M7 h22 => ?_) h21)
      refine q_aload_n 44 k_L_law_44 rfl ?_
      refine q_iload_n 45 k_L_law_45 rfl ?_
      refine q_bipush 46 k_L_law_46 (by decide) ?_
      refine q_iadd 48 k_L_law_48 ?_
      refine q_sI 49 [vR 9 0, vI (x2 + 12)] [vI y8, vI x2, vR 3 0] k_L_law_49 rfl lk_4_20 rfl rfl rfl rfl rfl rfl (CallI.mono (fun y10 M9 h23 => ?_) h22)
      refine q_bipush 52 k_L_law_52 (by decide) ?_
      refine q_sI 54 [vI y10, vI 40] [vI y8, vI x2, vR 3 0] k_L_law_54 rfl lk_4_23 rfl rfl rfl rfl rfl rfl (CallI.mono (fun y12 M11 h24 => ?_) h23)
      refine q_iconst 57 k_L_law_57 ?_
      refine q_aload_n 58 k_L_law_58 rfl ?_
      refine q_iload_n 59 k_L_law_59 rfl ?_
      refine q_bipush 60 k_L_law_60 (by decide) ?_
      refine q_iadd 62 k_L_law_62 ?_
      refine q_sI 63 [vR 9 0, vI (x2 + 18)] [vI 1, vI y12, vI y8, vI x2, vR 3 0] k_L_law_63 rfl lk_4_20 rfl rfl rfl rfl rfl rfl (CallI.mono (fun y14 M13 h25 => ?_) h24)
      refine q_bipush 66 k_L_law_66 (by decide) ?_
      refine q_sI 68 [vI y14, vI 8] [vI 1, vI y12, vI y8, vI x2, vR 3 0] k_L_law_68 rfl lk_4_23 rfl rfl rfl rfl rfl rfl (CallI.mono (fun y16 M15 h26 => ?_) h25)
      refine q_iadd 71 k_L_law_71 ?_
      refine q_vI 72 [vI x2, vI y8, vI y12, vI (1 + y16)] [] k_L_law_72 lk_4_27 rfl rfl rfl rfl rfl rfl rfl rfl (CallI.mono (fun y18 M17 h27 => ?_) h26)
      refine q_pop 75 k_L_law_75 rfl ?_
      refine q_iinc 76 k_L_law_76 (ls' := [some (vR 9 0), some (vR 3 0), some (vI (x2 + 1)), none, none, none]) rfl rfl rfl ?_
      refine q_goto 79 10 k_L_law_79 rfl rfl ?_
      exact h27
set_option maxHeartbeats 4000000 in
set_option maxRecDepth 100000 in
theorem T_L_law_84 {d : Nat} {x2 : Int} {M : AMem} {Q : Option AV → AMem → Prop}  (h : ((5 ≤ wI x2) → RunQ (d + 1) m_L_law 131 [some (vR 9 0), some (vR 3 0), some (vI 0), none, none, none] [] M Q) ∧ (¬ (5 ≤ wI x2) → CallI d m_L_roll [vR 9 0, vI (x2 + 24)] M (fun y2 M1 => CallI d m_L_below [vI y2, vI 6] M1 (fun y4 M3 => CallI d m_L_roll [vR 9 0, vI (x2 + 30)] M3 (fun y6 M5 => CallI d m_L_roll [vR 9 0, vI (x2 + 36)] M5 (fun y8 M7 => CallV d m_L_begin [vR 3 0, vI x2, vI y4, vI y6, vI y8] M7 (fun M9 => RunQ (d + 1) m_L_law 84 [some (vR 9 0), some (vR 3 0), some (vI (x2 + 1)), none, none, none] [] M9 Q))))))) : RunQ (d + 1) m_L_law 84 [some (vR 9 0), some (vR 3 0), some (vI x2), none, none, none] [] M Q := by
  refine q_iload_n 84 k_L_law_84 rfl ?_
  refine q_iconst 85 k_L_law_85 ?_
  refine q_icmp_ge 86 129 k_L_law_86 rfl rfl (fun c86 => ?_) (fun c86 => ?_)
  · have ht := h.1 c86
    refine q_iconst 129 k_L_law_129 ?_
    refine q_istore_n 130 k_L_law_130 (ls' := [some (vR 9 0), some (vR 3 0), some (vI 0), none, none, none]) rfl rfl ?_
    exact ht
  · have hf := h.2 c86
    refine q_aload_n 89 k_L_law_89 rfl ?_
    refine q_iload_n 90 k_L_law_90 rfl ?_
    refine q_aload_n 91 k_L_law_91 rfl ?_
    refine q_iload_n 92 k_L_law_92 rfl ?_
    refine q_bipush 93 k_L_law_93 (by decide) ?_
    refine q_iadd 95 k_L_law_95 ?_
    refine q_sI 96 [vR 9 0, vI (x2 + 24)] [vI x2, vR 3 0] k_L_law_96 rfl lk_4_20 rfl rfl rfl rfl rfl rfl (CallI.mono (fun y2 M1 h11 => ?_) hf)
    refine q_bipush 99 k_L_law_99 (by decide) ?_
    refine q_sI 101 [vI y2, vI 6] [vI x2, vR 3 0] k_L_law_101 rfl lk_4_23 rfl rfl rfl rfl rfl rfl (CallI.mono (fun y4 M3 h12 => ?_) h11)
    refine q_aload_n 104 k_L_law_104 rfl ?_
    refine q_iload_n 105 k_L_law_105 rfl ?_
    refine q_bipush 106 k_L_law_106 (by decide) ?_
    refine q_iadd 108 k_L_law_108 ?_
    refine q_sI 109 [vR 9 0, vI (x2 + 30)] [vI y4, vI x2, vR 3 0] k_L_law_109 rfl lk_4_20 rfl rfl rfl rfl rfl rfl (CallI.mono (fun y6 M5 h13 => ?_) h12)
    refine q_aload_n 112 k_L_law_112 rfl ?_
    refine q_iload_n 113 k_L_law_113 rfl ?_
    refine q_bipush 114 k_L_law_114 (by decide) ?_
    refine q_iadd 116 k_L_law_116 ?_
    refine q_sI 117 [vR 9 0, vI (x2 + 36)] [vI y6, vI y4, vI x2, vR 3 0] k_L_law_117 rfl lk_4_20 rfl rfl rfl rfl rfl rfl (CallI.mono (fun y8 M7 h14 => ?_) h13)
    refine q_sV 120 [vR 3 0, vI x2, vI y4, vI y6, vI y8] [] k_L_law_120 rfl lk_4_31 rfl rfl rfl rfl rfl rfl (CallV.mono (fun M9 h15 => ?_) h14)
    refine q_iinc 123 k_L_law_123 (ls' := [some (vR 9 0), some (vR 3 0), some (vI (x2 + 1)), none, none, none]) rfl rfl rfl ?_
    refine q_goto 126 84 k_L_law_126 rfl rfl ?_
    exact h15
set_option maxHeartbeats 4000000 in
set_option maxRecDepth 100000 in
theorem T_L_law_131 {d : Nat} {x2 : Int} {u3 : Option AV} {u4 : Option AV} {u5 : Option AV} {M : AMem} {Q : Option AV → AMem → Prop}  (h : ((30 ≤ wI x2) → CallI d m_H_isSound [vR 3 0] M (fun y2 M1 => (y2 = 0 ∨ y2 = 1) ∧ Q (some (vI y2)) M1)) ∧ (¬ (30 ≤ wI x2) → CallI d m_L_roll [vR 9 0, vI ((7 * x2) + 41)] M (fun y4 M3 => CallI d m_L_below [vI y4, vI 5] M3 (fun y6 M5 => CallI d m_L_roll [vR 9 0, vI (((7 * x2) + 41) + 1)] M5 (fun y8 M7 => CallI d m_L_below [vI y8, vI 13] M7 (fun y10 M9 => CallI d m_L_roll [vR 9 0, vI (((7 * x2) + 41) + 2)] M9 (fun y12 M11 => CallI d m_L_roll [vR 9 0, vI (((7 * x2) + 41) + 3)] M11 (fun y14 M13 => CallV d m_L_act [vR 3 0, vI y6, vI y10, vI y12, vI y14] M13 (fun M15 => CallI d m_L_roll [vR 9 0, vI (((7 * x2) + 41) + 4)] M15 (fun y18 M17 => CallI d m_L_below [vI y18, vI 5] M17 (fun y20 M19 => CallI d m_H_isSound [vR 3 0] M19 (fun y22 M21 => ((wI y22 = 0) → Q (some (vI 0)) M21) ∧ (¬ (wI y22 = 0) → CallI d m_L_roll [vR 9 0, vI (((7 * x2) + 41) + 5)] M21 (fun y24 M23 => CallI d m_L_roll [vR 9 0, vI (((7 * x2) + 41) + 6)] M23 (fun y26 M25 => CallI d m_L_isCourse [vR 3 0, vI y20, vI y24, vI y26] M25 (fun y28 M27 => ((¬ wI y28 = 0) → ((¬ wI (Int.tmod (wI x2) (5)) = 4) → ((¬ wI (Int.tmod (wI x2) (10)) = 7) → ((¬ wI (Int.tmod (wI x2) (10)) = 2) → RunQ (d + 1) m_L_law 131 [some (vR 9 0), some (vR 3 0), some (vI (x2 + 1)), some (vI ((7 * x2) + 41)), some (vI y20), some (vI (Int.tmod (wI ((y20 + 1) + (Int.tmod (wI (Int.tdiv (wI x2) (5))) (4)))) (5)))] [] M27 Q) ∧ (¬ (¬ wI (Int.tmod (wI x2) (10)) = 2) → CallI d m_L_roll [vR 9 0, vI (((7 * x2) + 41) + 5)] M27 (fun y30 M29 => CallI d m_L_roll [vR 9 0, vI (((7 * x2) + 41) + 6)] M29 (fun y32 M31 => CallI d m_L_roll [vR 9 0, vI (((7 * x2) + 41) + 3)] M31 (fun y34 M33 => CallI d m_L_isCounted [vR 3 0, vI y20, vI y30, vI y32, vI y34] M33 (fun y36 M35 => ((¬ wI y36 = 0) → RunQ (d + 1) m_L_law 131 [some (vR 9 0), some (vR 3 0), some (vI (x2 + 1)), some (vI ((7 * x2) + 41)), some (vI y20), some (vI (Int.tmod (wI ((y20 + 1) + (Int.tmod (wI (Int.tdiv (wI x2) (5))) (4)))) (5)))] [] M35 Q) ∧ (¬ (¬ wI y36 = 0) → Q (some (vI 0)) M35))))))) ∧ (¬ (¬ wI (Int.tmod (wI x2) (10)) = 7) → CallI d m_L_roll [vR 9 0, vI (((7 * x2) + 41) + 5)] M27 (fun y38 M37 => CallI d m_L_below [vI y38, vI 63] M37 (fun y40 M39 => CallI d m_L_roll [vR 9 0, vI (((7 * x2) + 41) + 6)] M39 (fun y42 M41 => CallI d m_L_below [vI y42, vI 2] M41 (fun y44 M43 => ((¬ wI y44 = 1) → CallI d m_L_roll [vR 9 0, vI (((7 * x2) + 41) + 3)] M43 (fun y46 M45 => CallI d m_L_below [vI y46, vI 6] M45 (fun y48 M47 => CallI d m_L_isMerged [vR 3 0, vI y20, vI (Int.tmod (wI ((y20 + 1) + (Int.tmod (wI (Int.tdiv (wI x2) (5))) (4)))) (5)), vI (1 + y40), vI 0, vI y48] M47 (fun y50 M49 => ((¬ wI y50 = 0) → ((¬ wI (Int.tmod (wI x2) (10)) = 2) → RunQ (d + 1) m_L_law 131 [some (vR 9 0), some (vR 3 0), some (vI (x2 + 1)), some (vI ((7 * x2) + 41)), some (vI y20), some (vI (Int.tmod (wI ((y20 + 1) + (Int.tmod (wI (Int.tdiv (wI x2) (5))) (4)))) (5)))] [] M49 Q) ∧ (¬ (¬ wI (Int.tmod (wI x2) (10)) = 2) → CallI d m_L_roll [vR 9 0, vI (((7 * x2) + 41) + 5)] M49 (fun y52 M51 => CallI d m_L_roll [vR 9 0, vI (((7 * x2) + 41) + 6)] M51 (fun y54 M53 => CallI d m_L_roll [vR 9 0, vI (((7 * x2) + 41) + 3)] M53 (fun y56 M55 => CallI d m_L_isCounted [vR 3 0, vI y20, vI y52, vI y54, vI y56] M55 (fun y58 M57 => ((¬ wI y58 = 0) → RunQ (d + 1) m_L_law 131 [some (vR 9 0), some (vR 3 0), some (vI (x2 + 1)), some (vI ((7 * x2) + 41)), some (vI y20), some (vI (Int.tmod (wI ((y20 + 1) + (Int.tmod (wI (Int.tdiv (wI x2) (5))) (4)))) (5)))] [] M57 Q) ∧ (¬ (¬ wI y58 = 0) → Q (some (vI 0)) M57))))))) ∧ (¬ (¬ wI y50 = 0) → Q (some (vI 0)) M49))))) ∧ (¬ (¬ wI y44 = 1) → CallI d m_L_roll [vR 9 0, vI (((7 * x2) + 41) + 3)] M43 (fun y60 M59 => CallI d m_L_below [vI y60, vI 6] M59 (fun y62 M61 => CallI d m_L_isMerged [vR 3 0, vI y20, vI (Int.tmod (wI ((y20 + 1) + (Int.tmod (wI (Int.tdiv (wI x2) (5))) (4)))) (5)), vI (1 + y40), vI 1, vI y62] M61 (fun y64 M63 => ((¬ wI y64 = 0) → ((¬ wI (Int.tmod (wI x2) (10)) = 2) → RunQ (d + 1) m_L_law 131 [some (vR 9 0), some (vR 3 0), some (vI (x2 + 1)), some (vI ((7 * x2) + 41)), some (vI y20), some (vI (Int.tmod (wI ((y20 + 1) + (Int.tmod (wI (Int.tdiv (wI x2) (5))) (4)))) (5)))] [] M63 Q) ∧ (¬ (¬ wI (Int.tmod (wI x2) (10)) = 2) → CallI d m_L_roll [vR 9 0, vI (((7 * x2) + 41) + 5)] M63 (fun y66 M65 => CallI d m_L_roll [vR 9 0, vI (((7 * x2) + 41) + 6)] M65 (fun y68 M67 => CallI d m_L_roll [vR 9 0, vI (((7 * x2) + 41) + 3)] M67 (fun y70 M69 => CallI d m_L_isCounted [vR 3 0, vI y20, vI y66, vI y68, vI y70] M69 (fun y72 M71 => ((¬ wI y72 = 0) → RunQ (d + 1) m_L_law 131 [some (vR 9 0), some (vR 3 0), some (vI (x2 + 1)), some (vI ((7 * x2) + 41)), some (vI y20), some (vI (Int.tmod (wI ((y20 + 1) + (Int.tmod (wI (Int.tdiv (wI x2) (5))) (4)))) (5)))] [] M71 Q) ∧ (¬ (¬ wI y72 = 0) → Q (some (vI 0)) M71))))))) ∧ (¬ (¬ wI y64 = 0) → Q (some (vI 0)) M63))))))))))) ∧ (¬ (¬ wI (Int.tmod (wI x2) (5)) = 4) → CallI d m_L_roll [vR 9 0, vI (((7 * x2) + 41) + 5)] M27 (fun y74 M73 => CallI d m_L_below [vI y74, vI 9] M73 (fun y76 M75 => CallI d m_L_isGoing [vR 3 0, vI y20, vI (Int.tmod (wI ((y20 + 1) + (Int.tmod (wI (Int.tdiv (wI x2) (5))) (4)))) (5)), vI (1 + y76)] M75 (fun y78 M77 => ((¬ wI y78 = 0) → ((¬ wI (Int.tmod (wI x2) (10)) = 7) → ((¬ wI (Int.tmod (wI x2) (10)) = 2) → RunQ (d + 1) m_L_law 131 [some (vR 9 0), some (vR 3 0), some (vI (x2 + 1)), some (vI ((7 * x2) + 41)), some (vI y20), some (vI (Int.tmod (wI ((y20 + 1) + (Int.tmod (wI (Int.tdiv (wI x2) (5))) (4)))) (5)))] [] M77 Q) ∧ (¬ (¬ wI (Int.tmod (wI x2) (10)) = 2) → CallI d m_L_roll [vR 9 0, vI (((7 * x2) + 41) + 5)] M77 (fun y80 M79 => CallI d m_L_roll [vR 9 0, vI (((7 * x2) + 41) + 6)] M79 (fun y82 M81 => CallI d m_L_roll [vR 9 0, vI (((7 * x2) + 41) + 3)] M81 (fun y84 M83 => CallI d m_L_isCounted [vR 3 0, vI y20, vI y80, vI y82, vI y84] M83 (fun y86 M85 => ((¬ wI y86 = 0) → RunQ (d + 1) m_L_law 131 [some (vR 9 0), some (vR 3 0), some (vI (x2 + 1)), some (vI ((7 * x2) + 41)), some (vI y20), some (vI (Int.tmod (wI ((y20 + 1) + (Int.tmod (wI (Int.tdiv (wI x2) (5))) (4)))) (5)))] [] M85 Q) ∧ (¬ (¬ wI y86 = 0) → Q (some (vI 0)) M85))))))) ∧ (¬ (¬ wI (Int.tmod (wI x2) (10)) = 7) → CallI d m_L_roll [vR 9 0, vI (((7 * x2) + 41) + 5)] M77 (fun y88 M87 => CallI d m_L_below [vI y88, vI 63] M87 (fun y90 M89 => CallI d m_L_roll [vR 9 0, vI (((7 * x2) + 41) + 6)] M89 (fun y92 M91 => CallI d m_L_below [vI y92, vI 2] M91 (fun y94 M93 => ((¬ wI y94 = 1) → CallI d m_L_roll [vR 9 0, vI (((7 * x2) + 41) + 3)] M93 (fun y96 M95 => CallI d m_L_below [vI y96, vI 6] M95 (fun y98 M97 => CallI d m_L_isMerged [vR 3 0, vI y20, vI (Int.tmod (wI ((y20 + 1) + (Int.tmod (wI (Int.tdiv (wI x2) (5))) (4)))) (5)), vI (1 + y90), vI 0, vI y98] M97 (fun y100 M99 => ((¬ wI y100 = 0) → ((¬ wI (Int.tmod (wI x2) (10)) = 2) → RunQ (d + 1) m_L_law 131 [some (vR 9 0), some (vR 3 0), some (vI (x2 + 1)), some (vI ((7 * x2) + 41)), some (vI y20), some (vI (Int.tmod (wI ((y20 + 1) + (Int.tmod (wI (Int.tdiv (wI x2) (5))) (4)))) (5)))] [] M99 Q) ∧ (¬ (¬ wI (Int.tmod (wI x2) (10)) = 2) → CallI d m_L_roll [vR 9 0, vI (((7 * x2) + 41) + 5)] M99 (fun y102 M101 => CallI d m_L_roll [vR 9 0, vI (((7 * x2) + 41) + 6)] M101 (fun y104 M103 => CallI d m_L_roll [vR 9 0, vI (((7 * x2) + 41) + 3)] M103 (fun y106 M105 => CallI d m_L_isCounted [vR 3 0, vI y20, vI y102, vI y104, vI y106] M105 (fun y108 M107 => ((¬ wI y108 = 0) → RunQ (d + 1) m_L_law 131 [some (vR 9 0), some (vR 3 0), some (vI (x2 + 1)), some (vI ((7 * x2) + 41)), some (vI y20), some (vI (Int.tmod (wI ((y20 + 1) + (Int.tmod (wI (Int.tdiv (wI x2) (5))) (4)))) (5)))] [] M107 Q) ∧ (¬ (¬ wI y108 = 0) → Q (some (vI 0)) M107))))))) ∧ (¬ (¬ wI y100 = 0) → Q (some (vI 0)) M99))))) ∧ (¬ (¬ wI y94 = 1) → CallI d m_L_roll [vR 9 0, vI (((7 * x2) + 41) + 3)] M93 (fun y110 M109 => CallI d m_L_below [vI y110, vI 6] M109 (fun y112 M111 => CallI d m_L_isMerged [vR 3 0, vI y20, vI (Int.tmod (wI ((y20 + 1) + (Int.tmod (wI (Int.tdiv (wI x2) (5))) (4)))) (5)), vI (1 + y90), vI 1, vI y112] M111 (fun y114 M113 => ((¬ wI y114 = 0) → ((¬ wI (Int.tmod (wI x2) (10)) = 2) → RunQ (d + 1) m_L_law 131 [some (vR 9 0), some (vR 3 0), some (vI (x2 + 1)), some (vI ((7 * x2) + 41)), some (vI y20), some (vI (Int.tmod (wI ((y20 + 1) + (Int.tmod (wI (Int.tdiv (wI x2) (5))) (4)))) (5)))] [] M113 Q) ∧ (¬ (¬ wI (Int.tmod (wI x2) (10)) = 2) → CallI d m_L_roll [vR 9 0, vI (((7 * x2) + 41) + 5)] M113 (fun y116 M115 => CallI d m_L_roll [vR 9 0, vI (((7 * x2) + 41) + 6)] M115 (fun y118 M117 => CallI d m_L_roll [vR 9 0, vI (((7 * x2) + 41) + 3)] M117 (fun y120 M119 => CallI d m_L_isCounted [vR 3 0, vI y20, vI y116, vI y118, vI y120] M119 (fun y122 M121 => ((¬ wI y122 = 0) → RunQ (d + 1) m_L_law 131 [some (vR 9 0), some (vR 3 0), some (vI (x2 + 1)), some (vI ((7 * x2) + 41)), some (vI y20), some (vI (Int.tmod (wI ((y20 + 1) + (Int.tmod (wI (Int.tdiv (wI x2) (5))) (4)))) (5)))] [] M121 Q) ∧ (¬ (¬ wI y122 = 0) → Q (some (vI 0)) M121))))))) ∧ (¬ (¬ wI y114 = 0) → Q (some (vI 0)) M113))))))))))) ∧ (¬ (¬ wI y78 = 0) → Q (some (vI 0)) M77)))))) ∧ (¬ (¬ wI y28 = 0) → Q (some (vI 0)) M27))))))))))))))))) : RunQ (d + 1) m_L_law 131 [some (vR 9 0), some (vR 3 0), some (vI x2), u3, u4, u5] [] M Q := by
  refine q_iload_n 131 k_L_law_131 rfl ?_
  refine q_bipush 132 k_L_law_132 (by decide) ?_
  refine q_icmp_ge 134 394 k_L_law_134 rfl rfl (fun c134 => ?_) (fun c134 => ?_)
  · have ht := h.1 c134
    refine q_aload_n 394 k_L_law_394 rfl ?_
    refine q_vI 395 [] [] k_L_law_395 lk_4_38 rfl rfl rfl rfl rfl rfl rfl rfl (CallI.mono (fun y2 M1 h123 => ?_) ht)
    exact q_zret 398 k_L_law_398 rfl h123.1 h123.2
  · have hf := h.2 c134
    refine q_bipush 137 k_L_law_137 (by decide) ?_
    refine q_iload_n 139 k_L_law_139 rfl ?_
    refine q_imul 140 k_L_law_140 ?_
    refine q_bipush 141 k_L_law_141 (by decide) ?_
    refine q_iadd 143 k_L_law_143 ?_
    refine q_istore_n 144 k_L_law_144 (ls' := [some (vR 9 0), some (vR 3 0), some (vI x2), some (vI ((7 * x2) + 41)), u4, u5]) rfl rfl ?_
    refine q_aload_n 145 k_L_law_145 rfl ?_
    refine q_aload_n 146 k_L_law_146 rfl ?_
    refine q_iload_n 147 k_L_law_147 rfl ?_
    refine q_sI 148 [vR 9 0, vI ((7 * x2) + 41)] [vR 3 0] k_L_law_148 rfl lk_4_20 rfl rfl rfl rfl rfl rfl (CallI.mono (fun y4 M3 h124 => ?_) hf)
    refine q_iconst 151 k_L_law_151 ?_
    refine q_sI 152 [vI y4, vI 5] [vR 3 0] k_L_law_152 rfl lk_4_23 rfl rfl rfl rfl rfl rfl (CallI.mono (fun y6 M5 h125 => ?_) h124)
    refine q_aload_n 155 k_L_law_155 rfl ?_
    refine q_iload_n 156 k_L_law_156 rfl ?_
    refine q_iconst 157 k_L_law_157 ?_
    refine q_iadd 158 k_L_law_158 ?_
    refine q_sI 159 [vR 9 0, vI (((7 * x2) + 41) + 1)] [vI y6, vR 3 0] k_L_law_159 rfl lk_4_20 rfl rfl rfl rfl rfl rfl (CallI.mono (fun y8 M7 h126 => ?_) h125)
    refine q_bipush 162 k_L_law_162 (by decide) ?_
    refine q_sI 164 [vI y8, vI 13] [vI y6, vR 3 0] k_L_law_164 rfl lk_4_23 rfl rfl rfl rfl rfl rfl (CallI.mono (fun y10 M9 h127 => ?_) h126)
    refine q_aload_n 167 k_L_law_167 rfl ?_
    refine q_iload_n 168 k_L_law_168 rfl ?_
    refine q_iconst 169 k_L_law_169 ?_
    refine q_iadd 170 k_L_law_170 ?_
    refine q_sI 171 [vR 9 0, vI (((7 * x2) + 41) + 2)] [vI y10, vI y6, vR 3 0] k_L_law_171 rfl lk_4_20 rfl rfl rfl rfl rfl rfl (CallI.mono (fun y12 M11 h128 => ?_) h127)
    refine q_aload_n 174 k_L_law_174 rfl ?_
    refine q_iload_n 175 k_L_law_175 rfl ?_
    refine q_iconst 176 k_L_law_176 ?_
    refine q_iadd 177 k_L_law_177 ?_
    refine q_sI 178 [vR 9 0, vI (((7 * x2) + 41) + 3)] [vI y12, vI y10, vI y6, vR 3 0] k_L_law_178 rfl lk_4_20 rfl rfl rfl rfl rfl rfl (CallI.mono (fun y14 M13 h129 => ?_) h128)
    refine q_sV 181 [vR 3 0, vI y6, vI y10, vI y12, vI y14] [] k_L_law_181 rfl lk_4_35 rfl rfl rfl rfl rfl rfl (CallV.mono (fun M15 h130 => ?_) h129)
    refine q_aload_n 184 k_L_law_184 rfl ?_
    refine q_iload_n 185 k_L_law_185 rfl ?_
    refine q_iconst 186 k_L_law_186 ?_
    refine q_iadd 187 k_L_law_187 ?_
    refine q_sI 188 [vR 9 0, vI (((7 * x2) + 41) + 4)] [] k_L_law_188 rfl lk_4_20 rfl rfl rfl rfl rfl rfl (CallI.mono (fun y18 M17 h131 => ?_) h130)
    refine q_iconst 191 k_L_law_191 ?_
    refine q_sI 192 [vI y18, vI 5] [] k_L_law_192 rfl lk_4_23 rfl rfl rfl rfl rfl rfl (CallI.mono (fun y20 M19 h132 => ?_) h131)
    refine q_istore 195 k_L_law_195 (ls' := [some (vR 9 0), some (vR 3 0), some (vI x2), some (vI ((7 * x2) + 41)), some (vI y20), u5]) rfl rfl ?_
    refine q_aload_n 197 k_L_law_197 rfl ?_
    refine q_vI 198 [] [] k_L_law_198 lk_4_38 rfl rfl rfl rfl rfl rfl rfl rfl (CallI.mono (fun y22 M21 h133 => ?_) h132)
    refine q_if_eq 201 228 k_L_law_201 rfl rfl (fun c201 => ?_) (fun c201 => ?_)
    · have h133t := h133.1 c201
      refine q_iconst 228 k_L_law_228 ?_
      exact q_zret 229 k_L_law_229 rfl (Or.inl rfl) h133t
    · have h133f := h133.2 c201
      refine q_aload_n 204 k_L_law_204 rfl ?_
      refine q_iload 205 k_L_law_205 rfl ?_
      refine q_aload_n 207 k_L_law_207 rfl ?_
      refine q_iload_n 208 k_L_law_208 rfl ?_
      refine q_iconst 209 k_L_law_209 ?_
      refine q_iadd 210 k_L_law_210 ?_
      refine q_sI 211 [vR 9 0, vI (((7 * x2) + 41) + 5)] [vI y20, vR 3 0] k_L_law_211 rfl lk_4_20 rfl rfl rfl rfl rfl rfl (CallI.mono (fun y24 M23 h134 => ?_) h133f)
      refine q_aload_n 214 k_L_law_214 rfl ?_
      refine q_iload_n 215 k_L_law_215 rfl ?_
      refine q_bipush 216 k_L_law_216 (by decide) ?_
      refine q_iadd 218 k_L_law_218 ?_
      refine q_sI 219 [vR 9 0, vI (((7 * x2) + 41) + 6)] [vI y24, vI y20, vR 3 0] k_L_law_219 rfl lk_4_20 rfl rfl rfl rfl rfl rfl (CallI.mono (fun y26 M25 h135 => ?_) h134)
      refine q_sI 222 [vR 3 0, vI y20, vI y24, vI y26] [] k_L_law_222 rfl lk_4_42 rfl rfl rfl rfl rfl rfl (CallI.mono (fun y28 M27 h136 => ?_) h135)
      refine q_if_ne 225 230 k_L_law_225 rfl rfl (fun c225 => ?_) (fun c225 => ?_)
      · have h136t := h136.1 c225
        refine q_iload 230 k_L_law_230 rfl ?_
        refine q_iconst 232 k_L_law_232 ?_
        refine q_iadd 233 k_L_law_233 ?_
        refine q_iload_n 234 k_L_law_234 rfl ?_
        refine q_iconst 235 k_L_law_235 ?_
        refine q_idiv 236 k_L_law_236 (by decide) ?_
        refine q_iconst 237 k_L_law_237 ?_
        refine q_irem 238 k_L_law_238 (by decide) ?_
        refine q_iadd 239 k_L_law_239 ?_
        refine q_iconst 240 k_L_law_240 ?_
        refine q_irem 241 k_L_law_241 (by decide) ?_
        refine q_istore 242 k_L_law_242 (ls' := [some (vR 9 0), some (vR 3 0), some (vI x2), some (vI ((7 * x2) + 41)), some (vI y20), some (vI (Int.tmod (wI ((y20 + 1) + (Int.tmod (wI (Int.tdiv (wI x2) (5))) (4)))) (5)))]) rfl rfl ?_
        refine q_iload_n 244 k_L_law_244 rfl ?_
        refine q_iconst 245 k_L_law_245 ?_
        refine q_irem 246 k_L_law_246 (by decide) ?_
        refine q_iconst 247 k_L_law_247 ?_
        refine q_icmp_ne 248 278 k_L_law_248 rfl rfl (fun c248 => ?_) (fun c248 => ?_)
        · have h136tt := h136t.1 c248
          refine q_iload_n 278 k_L_law_278 rfl ?_
          refine q_bipush 279 k_L_law_279 (by decide) ?_
          refine q_irem 281 k_L_law_281 (by decide) ?_
          refine q_bipush 282 k_L_law_282 (by decide) ?_
          refine q_icmp_ne 284 347 k_L_law_284 rfl rfl (fun c284 => ?_) (fun c284 => ?_)
          · have h136ttt := h136tt.1 c284
            refine q_iload_n 347 k_L_law_347 rfl ?_
            refine q_bipush 348 k_L_law_348 (by decide) ?_
            refine q_irem 350 k_L_law_350 (by decide) ?_
            refine q_iconst 351 k_L_law_351 ?_
            refine q_icmp_ne 352 388 k_L_law_352 rfl rfl (fun c352 => ?_) (fun c352 => ?_)
            · have h136tttt := h136ttt.1 c352
              refine q_iinc 388 k_L_law_388 (ls' := [some (vR 9 0), some (vR 3 0), some (vI (x2 + 1)), some (vI ((7 * x2) + 41)), some (vI y20), some (vI (Int.tmod (wI ((y20 + 1) + (Int.tmod (wI (Int.tdiv (wI x2) (5))) (4)))) (5)))]) rfl rfl rfl ?_
              refine q_goto 391 131 k_L_law_391 rfl rfl ?_
              exact h136tttt
            · have h136tttf := h136ttt.2 c352
              refine q_aload_n 355 k_L_law_355 rfl ?_
              refine q_iload 356 k_L_law_356 rfl ?_
              refine q_aload_n 358 k_L_law_358 rfl ?_
              refine q_iload_n 359 k_L_law_359 rfl ?_
              refine q_iconst 360 k_L_law_360 ?_
              refine q_iadd 361 k_L_law_361 ?_
              refine q_sI 362 [vR 9 0, vI (((7 * x2) + 41) + 5)] [vI y20, vR 3 0] k_L_law_362 rfl lk_4_20 rfl rfl rfl rfl rfl rfl (CallI.mono (fun y30 M29 h137 => ?_) h136tttf)
              refine q_aload_n 365 k_L_law_365 rfl ?_
              refine q_iload_n 366 k_L_law_366 rfl ?_
              refine q_bipush 367 k_L_law_367 (by decide) ?_
              refine q_iadd 369 k_L_law_369 ?_
              refine q_sI 370 [vR 9 0, vI (((7 * x2) + 41) + 6)] [vI y30, vI y20, vR 3 0] k_L_law_370 rfl lk_4_20 rfl rfl rfl rfl rfl rfl (CallI.mono (fun y32 M31 h138 => ?_) h137)
              refine q_aload_n 373 k_L_law_373 rfl ?_
              refine q_iload_n 374 k_L_law_374 rfl ?_
              refine q_iconst 375 k_L_law_375 ?_
              refine q_iadd 376 k_L_law_376 ?_
              refine q_sI 377 [vR 9 0, vI (((7 * x2) + 41) + 3)] [vI y32, vI y30, vI y20, vR 3 0] k_L_law_377 rfl lk_4_20 rfl rfl rfl rfl rfl rfl (CallI.mono (fun y34 M33 h139 => ?_) h138)
              refine q_sI 380 [vR 3 0, vI y20, vI y30, vI y32, vI y34] [] k_L_law_380 rfl lk_4_53 rfl rfl rfl rfl rfl rfl (CallI.mono (fun y36 M35 h140 => ?_) h139)
              refine q_if_ne 383 388 k_L_law_383 rfl rfl (fun c383 => ?_) (fun c383 => ?_)
              · have h140t := h140.1 c383
                refine q_iinc 388 k_L_law_388 (ls' := [some (vR 9 0), some (vR 3 0), some (vI (x2 + 1)), some (vI ((7 * x2) + 41)), some (vI y20), some (vI (Int.tmod (wI ((y20 + 1) + (Int.tmod (wI (Int.tdiv (wI x2) (5))) (4)))) (5)))]) rfl rfl rfl ?_
                refine q_goto 391 131 k_L_law_391 rfl rfl ?_
                exact h140t
              · have h140f := h140.2 c383
                refine q_iconst 386 k_L_law_386 ?_
                exact q_zret 387 k_L_law_387 rfl (Or.inl rfl) h140f
          · have h136ttf := h136tt.2 c284
            refine q_aload_n 287 k_L_law_287 rfl ?_
            refine q_iload 288 k_L_law_288 rfl ?_
            refine q_iload 290 k_L_law_290 rfl ?_
            refine q_iconst 292 k_L_law_292 ?_
            refine q_aload_n 293 k_L_law_293 rfl ?_
            refine q_iload_n 294 k_L_law_294 rfl ?_
            refine q_iconst 295 k_L_law_295 ?_
            refine q_iadd 296 k_L_law_296 ?_
            refine q_sI 297 [vR 9 0, vI (((7 * x2) + 41) + 5)] [vI 1, vI (Int.tmod (wI ((y20 + 1) + (Int.tmod (wI (Int.tdiv (wI x2) (5))) (4)))) (5)), vI y20, vR 3 0] k_L_law_297 rfl lk_4_20 rfl rfl rfl rfl rfl rfl (CallI.mono (fun y38 M37 h141 => ?_) h136ttf)
            refine q_bipush 300 k_L_law_300 (by decide) ?_
            refine q_sI 302 [vI y38, vI 63] [vI 1, vI (Int.tmod (wI ((y20 + 1) + (Int.tmod (wI (Int.tdiv (wI x2) (5))) (4)))) (5)), vI y20, vR 3 0] k_L_law_302 rfl lk_4_23 rfl rfl rfl rfl rfl rfl (CallI.mono (fun y40 M39 h142 => ?_) h141)
            refine q_iadd 305 k_L_law_305 ?_
            refine q_aload_n 306 k_L_law_306 rfl ?_
            refine q_iload_n 307 k_L_law_307 rfl ?_
            refine q_bipush 308 k_L_law_308 (by decide) ?_
            refine q_iadd 310 k_L_law_310 ?_
            refine q_sI 311 [vR 9 0, vI (((7 * x2) + 41) + 6)] [vI (1 + y40), vI (Int.tmod (wI ((y20 + 1) + (Int.tmod (wI (Int.tdiv (wI x2) (5))) (4)))) (5)), vI y20, vR 3 0] k_L_law_311 rfl lk_4_20 rfl rfl rfl rfl rfl rfl (CallI.mono (fun y42 M41 h143 => ?_) h142)
            refine q_iconst 314 k_L_law_314 ?_
            refine q_sI 315 [vI y42, vI 2] [vI (1 + y40), vI (Int.tmod (wI ((y20 + 1) + (Int.tmod (wI (Int.tdiv (wI x2) (5))) (4)))) (5)), vI y20, vR 3 0] k_L_law_315 rfl lk_4_23 rfl rfl rfl rfl rfl rfl (CallI.mono (fun y44 M43 h144 => ?_) h143)
            refine q_iconst 318 k_L_law_318 ?_
            refine q_icmp_ne 319 326 k_L_law_319 rfl rfl (fun c319 => ?_) (fun c319 => ?_)
            · have h144t := h144.1 c319
              refine q_iconst 326 k_L_law_326 ?_
              refine q_aload_n 327 k_L_law_327 rfl ?_
              refine q_iload_n 328 k_L_law_328 rfl ?_
              refine q_iconst 329 k_L_law_329 ?_
              refine q_iadd 330 k_L_law_330 ?_
              refine q_sI 331 [vR 9 0, vI (((7 * x2) + 41) + 3)] [vI 0, vI (1 + y40), vI (Int.tmod (wI ((y20 + 1) + (Int.tmod (wI (Int.tdiv (wI x2) (5))) (4)))) (5)), vI y20, vR 3 0] k_L_law_331 rfl lk_4_20 rfl rfl rfl rfl rfl rfl (CallI.mono (fun y46 M45 h145 => ?_) h144t)
              refine q_bipush 334 k_L_law_334 (by decide) ?_
              refine q_sI 336 [vI y46, vI 6] [vI 0, vI (1 + y40), vI (Int.tmod (wI ((y20 + 1) + (Int.tmod (wI (Int.tdiv (wI x2) (5))) (4)))) (5)), vI y20, vR 3 0] k_L_law_336 rfl lk_4_23 rfl rfl rfl rfl rfl rfl (CallI.mono (fun y48 M47 h146 => ?_) h145)
              refine q_sI 339 [vR 3 0, vI y20, vI (Int.tmod (wI ((y20 + 1) + (Int.tmod (wI (Int.tdiv (wI x2) (5))) (4)))) (5)), vI (1 + y40), vI 0, vI y48] [] k_L_law_339 rfl lk_4_49 rfl rfl rfl rfl rfl rfl (CallI.mono (fun y50 M49 h147 => ?_) h146)
              refine q_if_ne 342 347 k_L_law_342 rfl rfl (fun c342 => ?_) (fun c342 => ?_)
              · have h147t := h147.1 c342
                refine q_iload_n 347 k_L_law_347 rfl ?_
                refine q_bipush 348 k_L_law_348 (by decide) ?_
                refine q_irem 350 k_L_law_350 (by decide) ?_
                refine q_iconst 351 k_L_law_351 ?_
                refine q_icmp_ne 352 388 k_L_law_352 rfl rfl (fun c352 => ?_) (fun c352 => ?_)
                · have h147tt := h147t.1 c352
                  refine q_iinc 388 k_L_law_388 (ls' := [some (vR 9 0), some (vR 3 0), some (vI (x2 + 1)), some (vI ((7 * x2) + 41)), some (vI y20), some (vI (Int.tmod (wI ((y20 + 1) + (Int.tmod (wI (Int.tdiv (wI x2) (5))) (4)))) (5)))]) rfl rfl rfl ?_
                  refine q_goto 391 131 k_L_law_391 rfl rfl ?_
                  exact h147tt
                · have h147tf := h147t.2 c352
                  refine q_aload_n 355 k_L_law_355 rfl ?_
                  refine q_iload 356 k_L_law_356 rfl ?_
                  refine q_aload_n 358 k_L_law_358 rfl ?_
                  refine q_iload_n 359 k_L_law_359 rfl ?_
                  refine q_iconst 360 k_L_law_360 ?_
                  refine q_iadd 361 k_L_law_361 ?_
                  refine q_sI 362 [vR 9 0, vI (((7 * x2) + 41) + 5)] [vI y20, vR 3 0] k_L_law_362 rfl lk_4_20 rfl rfl rfl rfl rfl rfl (CallI.mono (fun y52 M51 h148 => ?_) h147tf)
                  refine q_aload_n 365 k_L_law_365 rfl ?_
                  refine q_iload_n 366 k_L_law_366 rfl ?_
                  refine q_bipush 367 k_L_law_367 (by decide) ?_
                  refine q_iadd 369 k_L_law_369 ?_
                  refine q_sI 370 [vR 9 0, vI (((7 * x2) + 41) + 6)] [vI y52, vI y20, vR 3 0] k_L_law_370 rfl lk_4_20 rfl rfl rfl rfl rfl rfl (CallI.mono (fun y54 M53 h149 => ?_) h148)
                  refine q_aload_n 373 k_L_law_373 rfl ?_
                  refine q_iload_n 374 k_L_law_374 rfl ?_
                  refine q_iconst 375 k_L_law_375 ?_
                  refine q_iadd 376 k_L_law_376 ?_
                  refine q_sI 377 [vR 9 0, vI (((7 * x2) + 41) + 3)] [vI y54, vI y52, vI y20, vR 3 0] k_L_law_377 rfl lk_4_20 rfl rfl rfl rfl rfl rfl (CallI.mono (fun y56 M55 h150 => ?_) h149)
                  refine q_sI 380 [vR 3 0, vI y20, vI y52, vI y54, vI y56] [] k_L_law_380 rfl lk_4_53 rfl rfl rfl rfl rfl rfl (CallI.mono (fun y58 M57 h151 => ?_) h150)
                  refine q_if_ne 383 388 k_L_law_383 rfl rfl (fun c383 => ?_) (fun c383 => ?_)
                  · have h151t := h151.1 c383
                    refine q_iinc 388 k_L_law_388 (ls' := [some (vR 9 0), some (vR 3 0), some (vI (x2 + 1)), some (vI ((7 * x2) + 41)), some (vI y20), some (vI (Int.tmod (wI ((y20 + 1) + (Int.tmod (wI (Int.tdiv (wI x2) (5))) (4)))) (5)))]) rfl rfl rfl ?_
                    refine q_goto 391 131 k_L_law_391 rfl rfl ?_
                    exact h151t
                  · have h151f := h151.2 c383
                    refine q_iconst 386 k_L_law_386 ?_
                    exact q_zret 387 k_L_law_387 rfl (Or.inl rfl) h151f
              · have h147f := h147.2 c342
                refine q_iconst 345 k_L_law_345 ?_
                exact q_zret 346 k_L_law_346 rfl (Or.inl rfl) h147f
            · have h144f := h144.2 c319
              refine q_iconst 322 k_L_law_322 ?_
              refine q_goto 323 327 k_L_law_323 rfl rfl ?_
              refine q_aload_n 327 k_L_law_327 rfl ?_
              refine q_iload_n 328 k_L_law_328 rfl ?_
              refine q_iconst 329 k_L_law_329 ?_
              refine q_iadd 330 k_L_law_330 ?_
              refine q_sI 331 [vR 9 0, vI (((7 * x2) + 41) + 3)] [vI 1, vI (1 + y40), vI (Int.tmod (wI ((y20 + 1) + (Int.tmod (wI (Int.tdiv (wI x2) (5))) (4)))) (5)), vI y20, vR 3 0] k_L_law_331 rfl lk_4_20 rfl rfl rfl rfl rfl rfl (CallI.mono (fun y60 M59 h152 => ?_) h144f)
              refine q_bipush 334 k_L_law_334 (by decide) ?_
              refine q_sI 336 [vI y60, vI 6] [vI 1, vI (1 + y40), vI (Int.tmod (wI ((y20 + 1) + (Int.tmod (wI (Int.tdiv (wI x2) (5))) (4)))) (5)), vI y20, vR 3 0] k_L_law_336 rfl lk_4_23 rfl rfl rfl rfl rfl rfl (CallI.mono (fun y62 M61 h153 => ?_) h152)
              refine q_sI 339 [vR 3 0, vI y20, vI (Int.tmod (wI ((y20 + 1) + (Int.tmod (wI (Int.tdiv (wI x2) (5))) (4)))) (5)), vI (1 + y40), vI 1, vI y62] [] k_L_law_339 rfl lk_4_49 rfl rfl rfl rfl rfl rfl (CallI.mono (fun y64 M63 h154 => ?_) h153)
              refine q_if_ne 342 347 k_L_law_342 rfl rfl (fun c342 => ?_) (fun c342 => ?_)
              · have h154t := h154.1 c342
                refine q_iload_n 347 k_L_law_347 rfl ?_
                refine q_bipush 348 k_L_law_348 (by decide) ?_
                refine q_irem 350 k_L_law_350 (by decide) ?_
                refine q_iconst 351 k_L_law_351 ?_
                refine q_icmp_ne 352 388 k_L_law_352 rfl rfl (fun c352 => ?_) (fun c352 => ?_)
                · have h154tt := h154t.1 c352
                  refine q_iinc 388 k_L_law_388 (ls' := [some (vR 9 0), some (vR 3 0), some (vI (x2 + 1)), some (vI ((7 * x2) + 41)), some (vI y20), some (vI (Int.tmod (wI ((y20 + 1) + (Int.tmod (wI (Int.tdiv (wI x2) (5))) (4)))) (5)))]) rfl rfl rfl ?_
                  refine q_goto 391 131 k_L_law_391 rfl rfl ?_
                  exact h154tt
                · have h154tf := h154t.2 c352
                  refine q_aload_n 355 k_L_law_355 rfl ?_
                  refine q_iload 356 k_L_law_356 rfl ?_
                  refine q_aload_n 358 k_L_law_358 rfl ?_
                  refine q_iload_n 359 k_L_law_359 rfl ?_
                  refine q_iconst 360 k_L_law_360 ?_
                  refine q_iadd 361 k_L_law_361 ?_
                  refine q_sI 362 [vR 9 0, vI (((7 * x2) + 41) + 5)] [vI y20, vR 3 0] k_L_law_362 rfl lk_4_20 rfl rfl rfl rfl rfl rfl (CallI.mono (fun y66 M65 h155 => ?_) h154tf)
                  refine q_aload_n 365 k_L_law_365 rfl ?_
                  refine q_iload_n 366 k_L_law_366 rfl ?_
                  refine q_bipush 367 k_L_law_367 (by decide) ?_
                  refine q_iadd 369 k_L_law_369 ?_
                  refine q_sI 370 [vR 9 0, vI (((7 * x2) + 41) + 6)] [vI y66, vI y20, vR 3 0] k_L_law_370 rfl lk_4_20 rfl rfl rfl rfl rfl rfl (CallI.mono (fun y68 M67 h156 => ?_) h155)
                  refine q_aload_n 373 k_L_law_373 rfl ?_
                  refine q_iload_n 374 k_L_law_374 rfl ?_
                  refine q_iconst 375 k_L_law_375 ?_
                  refine q_iadd 376 k_L_law_376 ?_
                  refine q_sI 377 [vR 9 0, vI (((7 * x2) + 41) + 3)] [vI y68, vI y66, vI y20, vR 3 0] k_L_law_377 rfl lk_4_20 rfl rfl rfl rfl rfl rfl (CallI.mono (fun y70 M69 h157 => ?_) h156)
                  refine q_sI 380 [vR 3 0, vI y20, vI y66, vI y68, vI y70] [] k_L_law_380 rfl lk_4_53 rfl rfl rfl rfl rfl rfl (CallI.mono (fun y72 M71 h158 => ?_) h157)
                  refine q_if_ne 383 388 k_L_law_383 rfl rfl (fun c383 => ?_) (fun c383 => ?_)
                  · have h158t := h158.1 c383
                    refine q_iinc 388 k_L_law_388 (ls' := [some (vR 9 0), some (vR 3 0), some (vI (x2 + 1)), some (vI ((7 * x2) + 41)), some (vI y20), some (vI (Int.tmod (wI ((y20 + 1) + (Int.tmod (wI (Int.tdiv (wI x2) (5))) (4)))) (5)))]) rfl rfl rfl ?_
                    refine q_goto 391 131 k_L_law_391 rfl rfl ?_
                    exact h158t
                  · have h158f := h158.2 c383
                    refine q_iconst 386 k_L_law_386 ?_
                    exact q_zret 387 k_L_law_387 rfl (Or.inl rfl) h158f
              · have h154f := h154.2 c342
                refine q_iconst 345 k_L_law_345 ?_
                exact q_zret 346 k_L_law_346 rfl (Or.inl rfl) h154f
        · have h136tf := h136t.2 c248
          refine q_aload_n 251 k_L_law_251 rfl ?_
          refine q_iload 252 k_L_law_252 rfl ?_
          refine q_iload 254 k_L_law_254 rfl ?_
          refine q_iconst 256 k_L_law_256 ?_
          refine q_aload_n 257 k_L_law_257 rfl ?_
          refine q_iload_n 258 k_L_law_258 rfl ?_
          refine q_iconst 259 k_L_law_259 ?_
          refine q_iadd 260 k_L_law_260 ?_
          refine q_sI 261 [vR 9 0, vI (((7 * x2) + 41) + 5)] [vI 1, vI (Int.tmod (wI ((y20 + 1) + (Int.tmod (wI (Int.tdiv (wI x2) (5))) (4)))) (5)), vI y20, vR 3 0] k_L_law_261 rfl lk_4_20 rfl rfl rfl rfl rfl rfl (CallI.mono (fun y74 M73 h159 => ?_) h136tf)
          refine q_bipush 264 k_L_law_264 (by decide) ?_
          refine q_sI 266 [vI y74, vI 9] [vI 1, vI (Int.tmod (wI ((y20 + 1) + (Int.tmod (wI (Int.tdiv (wI x2) (5))) (4)))) (5)), vI y20, vR 3 0] k_L_law_266 rfl lk_4_23 rfl rfl rfl rfl rfl rfl (CallI.mono (fun y76 M75 h160 => ?_) h159)
          refine q_iadd 269 k_L_law_269 ?_
          refine q_sI 270 [vR 3 0, vI y20, vI (Int.tmod (wI ((y20 + 1) + (Int.tmod (wI (Int.tdiv (wI x2) (5))) (4)))) (5)), vI (1 + y76)] [] k_L_law_270 rfl lk_4_46 rfl rfl rfl rfl rfl rfl (CallI.mono (fun y78 M77 h161 => ?_) h160)
          refine q_if_ne 273 278 k_L_law_273 rfl rfl (fun c273 => ?_) (fun c273 => ?_)
          · have h161t := h161.1 c273
            refine q_iload_n 278 k_L_law_278 rfl ?_
            refine q_bipush 279 k_L_law_279 (by decide) ?_
            refine q_irem 281 k_L_law_281 (by decide) ?_
            refine q_bipush 282 k_L_law_282 (by decide) ?_
            refine q_icmp_ne 284 347 k_L_law_284 rfl rfl (fun c284 => ?_) (fun c284 => ?_)
            · have h161tt := h161t.1 c284
              refine q_iload_n 347 k_L_law_347 rfl ?_
              refine q_bipush 348 k_L_law_348 (by decide) ?_
              refine q_irem 350 k_L_law_350 (by decide) ?_
              refine q_iconst 351 k_L_law_351 ?_
              refine q_icmp_ne 352 388 k_L_law_352 rfl rfl (fun c352 => ?_) (fun c352 => ?_)
              · have h161ttt := h161tt.1 c352
                refine q_iinc 388 k_L_law_388 (ls' := [some (vR 9 0), some (vR 3 0), some (vI (x2 + 1)), some (vI ((7 * x2) + 41)), some (vI y20), some (vI (Int.tmod (wI ((y20 + 1) + (Int.tmod (wI (Int.tdiv (wI x2) (5))) (4)))) (5)))]) rfl rfl rfl ?_
                refine q_goto 391 131 k_L_law_391 rfl rfl ?_
                exact h161ttt
              · have h161ttf := h161tt.2 c352
                refine q_aload_n 355 k_L_law_355 rfl ?_
                refine q_iload 356 k_L_law_356 rfl ?_
                refine q_aload_n 358 k_L_law_358 rfl ?_
                refine q_iload_n 359 k_L_law_359 rfl ?_
                refine q_iconst 360 k_L_law_360 ?_
                refine q_iadd 361 k_L_law_361 ?_
                refine q_sI 362 [vR 9 0, vI (((7 * x2) + 41) + 5)] [vI y20, vR 3 0] k_L_law_362 rfl lk_4_20 rfl rfl rfl rfl rfl rfl (CallI.mono (fun y80 M79 h162 => ?_) h161ttf)
                refine q_aload_n 365 k_L_law_365 rfl ?_
                refine q_iload_n 366 k_L_law_366 rfl ?_
                refine q_bipush 367 k_L_law_367 (by decide) ?_
                refine q_iadd 369 k_L_law_369 ?_
                refine q_sI 370 [vR 9 0, vI (((7 * x2) + 41) + 6)] [vI y80, vI y20, vR 3 0] k_L_law_370 rfl lk_4_20 rfl rfl rfl rfl rfl rfl (CallI.mono (fun y82 M81 h163 => ?_) h162)
                refine q_aload_n 373 k_L_law_373 rfl ?_
                refine q_iload_n 374 k_L_law_374 rfl ?_
                refine q_iconst 375 k_L_law_375 ?_
                refine q_iadd 376 k_L_law_376 ?_
                refine q_sI 377 [vR 9 0, vI (((7 * x2) + 41) + 3)] [vI y82, vI y80, vI y20, vR 3 0] k_L_law_377 rfl lk_4_20 rfl rfl rfl rfl rfl rfl (CallI.mono (fun y84 M83 h164 => ?_) h163)
                refine q_sI 380 [vR 3 0, vI y20, vI y80, vI y82, vI y84] [] k_L_law_380 rfl lk_4_53 rfl rfl rfl rfl rfl rfl (CallI.mono (fun y86 M85 h165 => ?_) h164)
                refine q_if_ne 383 388 k_L_law_383 rfl rfl (fun c383 => ?_) (fun c383 => ?_)
                · have h165t := h165.1 c383
                  refine q_iinc 388 k_L_law_388 (ls' := [some (vR 9 0), some (vR 3 0), some (vI (x2 + 1)), some (vI ((7 * x2) + 41)), some (vI y20), some (vI (Int.tmod (wI ((y20 + 1) + (Int.tmod (wI (Int.tdiv (wI x2) (5))) (4)))) (5)))]) rfl rfl rfl ?_
                  refine q_goto 391 131 k_L_law_391 rfl rfl ?_
                  exact h165t
                · have h165f := h165.2 c383
                  refine q_iconst 386 k_L_law_386 ?_
                  exact q_zret 387 k_L_law_387 rfl (Or.inl rfl) h165f
            · have h161tf := h161t.2 c284
              refine q_aload_n 287 k_L_law_287 rfl ?_
              refine q_iload 288 k_L_law_288 rfl ?_
              refine q_iload 290 k_L_law_290 rfl ?_
              refine q_iconst 292 k_L_law_292 ?_
              refine q_aload_n 293 k_L_law_293 rfl ?_
              refine q_iload_n 294 k_L_law_294 rfl ?_
              refine q_iconst 295 k_L_law_295 ?_
              refine q_iadd 296 k_L_law_296 ?_
              refine q_sI 297 [vR 9 0, vI (((7 * x2) + 41) + 5)] [vI 1, vI (Int.tmod (wI ((y20 + 1) + (Int.tmod (wI (Int.tdiv (wI x2) (5))) (4)))) (5)), vI y20, vR 3 0] k_L_law_297 rfl lk_4_20 rfl rfl rfl rfl rfl rfl (CallI.mono (fun y88 M87 h166 => ?_) h161tf)
              refine q_bipush 300 k_L_law_300 (by decide) ?_
              refine q_sI 302 [vI y88, vI 63] [vI 1, vI (Int.tmod (wI ((y20 + 1) + (Int.tmod (wI (Int.tdiv (wI x2) (5))) (4)))) (5)), vI y20, vR 3 0] k_L_law_302 rfl lk_4_23 rfl rfl rfl rfl rfl rfl (CallI.mono (fun y90 M89 h167 => ?_) h166)
              refine q_iadd 305 k_L_law_305 ?_
              refine q_aload_n 306 k_L_law_306 rfl ?_
              refine q_iload_n 307 k_L_law_307 rfl ?_
              refine q_bipush 308 k_L_law_308 (by decide) ?_
              refine q_iadd 310 k_L_law_310 ?_
              refine q_sI 311 [vR 9 0, vI (((7 * x2) + 41) + 6)] [vI (1 + y90), vI (Int.tmod (wI ((y20 + 1) + (Int.tmod (wI (Int.tdiv (wI x2) (5))) (4)))) (5)), vI y20, vR 3 0] k_L_law_311 rfl lk_4_20 rfl rfl rfl rfl rfl rfl (CallI.mono (fun y92 M91 h168 => ?_) h167)
              refine q_iconst 314 k_L_law_314 ?_
              refine q_sI 315 [vI y92, vI 2] [vI (1 + y90), vI (Int.tmod (wI ((y20 + 1) + (Int.tmod (wI (Int.tdiv (wI x2) (5))) (4)))) (5)), vI y20, vR 3 0] k_L_law_315 rfl lk_4_23 rfl rfl rfl rfl rfl rfl (CallI.mono (fun y94 M93 h169 => ?_) h168)
              refine q_iconst 318 k_L_law_318 ?_
              refine q_icmp_ne 319 326 k_L_law_319 rfl rfl (fun c319 => ?_) (fun c319 => ?_)
              · have h169t := h169.1 c319
                refine q_iconst 326 k_L_law_326 ?_
                refine q_aload_n 327 k_L_law_327 rfl ?_
                refine q_iload_n 328 k_L_law_328 rfl ?_
                refine q_iconst 329 k_L_law_329 ?_
                refine q_iadd 330 k_L_law_330 ?_
                refine q_sI 331 [vR 9 0, vI (((7 * x2) + 41) + 3)] [vI 0, vI (1 + y90), vI (Int.tmod (wI ((y20 + 1) + (Int.tmod (wI (Int.tdiv (wI x2) (5))) (4)))) (5)), vI y20, vR 3 0] k_L_law_331 rfl lk_4_20 rfl rfl rfl rfl rfl rfl (CallI.mono (fun y96 M95 h170 => ?_) h169t)
                refine q_bipush 334 k_L_law_334 (by decide) ?_
                refine q_sI 336 [vI y96, vI 6] [vI 0, vI (1 + y90), vI (Int.tmod (wI ((y20 + 1) + (Int.tmod (wI (Int.tdiv (wI x2) (5))) (4)))) (5)), vI y20, vR 3 0] k_L_law_336 rfl lk_4_23 rfl rfl rfl rfl rfl rfl (CallI.mono (fun y98 M97 h171 => ?_) h170)
                refine q_sI 339 [vR 3 0, vI y20, vI (Int.tmod (wI ((y20 + 1) + (Int.tmod (wI (Int.tdiv (wI x2) (5))) (4)))) (5)), vI (1 + y90), vI 0, vI y98] [] k_L_law_339 rfl lk_4_49 rfl rfl rfl rfl rfl rfl (CallI.mono (fun y100 M99 h172 => ?_) h171)
                refine q_if_ne 342 347 k_L_law_342 rfl rfl (fun c342 => ?_) (fun c342 => ?_)
                · have h172t := h172.1 c342
                  refine q_iload_n 347 k_L_law_347 rfl ?_
                  refine q_bipush 348 k_L_law_348 (by decide) ?_
                  refine q_irem 350 k_L_law_350 (by decide) ?_
                  refine q_iconst 351 k_L_law_351 ?_
                  refine q_icmp_ne 352 388 k_L_law_352 rfl rfl (fun c352 => ?_) (fun c352 => ?_)
                  · have h172tt := h172t.1 c352
                    refine q_iinc 388 k_L_law_388 (ls' := [some (vR 9 0), some (vR 3 0), some (vI (x2 + 1)), some (vI ((7 * x2) + 41)), some (vI y20), some (vI (Int.tmod (wI ((y20 + 1) + (Int.tmod (wI (Int.tdiv (wI x2) (5))) (4)))) (5)))]) rfl rfl rfl ?_
                    refine q_goto 391 131 k_L_law_391 rfl rfl ?_
                    exact h172tt
                  · have h172tf := h172t.2 c352
                    refine q_aload_n 355 k_L_law_355 rfl ?_
                    refine q_iload 356 k_L_law_356 rfl ?_
                    refine q_aload_n 358 k_L_law_358 rfl ?_
                    refine q_iload_n 359 k_L_law_359 rfl ?_
                    refine q_iconst 360 k_L_law_360 ?_
                    refine q_iadd 361 k_L_law_361 ?_
                    refine q_sI 362 [vR 9 0, vI (((7 * x2) + 41) + 5)] [vI y20, vR 3 0] k_L_law_362 rfl lk_4_20 rfl rfl rfl rfl rfl rfl (CallI.mono (fun y102 M101 h173 => ?_) h172tf)
                    refine q_aload_n 365 k_L_law_365 rfl ?_
                    refine q_iload_n 366 k_L_law_366 rfl ?_
                    refine q_bipush 367 k_L_law_367 (by decide) ?_
                    refine q_iadd 369 k_L_law_369 ?_
                    refine q_sI 370 [vR 9 0, vI (((7 * x2) + 41) + 6)] [vI y102, vI y20, vR 3 0] k_L_law_370 rfl lk_4_20 rfl rfl rfl rfl rfl rfl (CallI.mono (fun y104 M103 h174 => ?_) h173)
                    refine q_aload_n 373 k_L_law_373 rfl ?_
                    refine q_iload_n 374 k_L_law_374 rfl ?_
                    refine q_iconst 375 k_L_law_375 ?_
                    refine q_iadd 376 k_L_law_376 ?_
                    refine q_sI 377 [vR 9 0, vI (((7 * x2) + 41) + 3)] [vI y104, vI y102, vI y20, vR 3 0] k_L_law_377 rfl lk_4_20 rfl rfl rfl rfl rfl rfl (CallI.mono (fun y106 M105 h175 => ?_) h174)
                    refine q_sI 380 [vR 3 0, vI y20, vI y102, vI y104, vI y106] [] k_L_law_380 rfl lk_4_53 rfl rfl rfl rfl rfl rfl (CallI.mono (fun y108 M107 h176 => ?_) h175)
                    refine q_if_ne 383 388 k_L_law_383 rfl rfl (fun c383 => ?_) (fun c383 => ?_)
                    · have h176t := h176.1 c383
                      refine q_iinc 388 k_L_law_388 (ls' := [some (vR 9 0), some (vR 3 0), some (vI (x2 + 1)), some (vI ((7 * x2) + 41)), some (vI y20), some (vI (Int.tmod (wI ((y20 + 1) + (Int.tmod (wI (Int.tdiv (wI x2) (5))) (4)))) (5)))]) rfl rfl rfl ?_
                      refine q_goto 391 131 k_L_law_391 rfl rfl ?_
                      exact h176t
                    · have h176f := h176.2 c383
                      refine q_iconst 386 k_L_law_386 ?_
                      exact q_zret 387 k_L_law_387 rfl (Or.inl rfl) h176f
                · have h172f := h172.2 c342
                  refine q_iconst 345 k_L_law_345 ?_
                  exact q_zret 346 k_L_law_346 rfl (Or.inl rfl) h172f
              · have h169f := h169.2 c319
                refine q_iconst 322 k_L_law_322 ?_
                refine q_goto 323 327 k_L_law_323 rfl rfl ?_
                refine q_aload_n 327 k_L_law_327 rfl ?_
                refine q_iload_n 328 k_L_law_328 rfl ?_
                refine q_iconst 329 k_L_law_329 ?_
                refine q_iadd 330 k_L_law_330 ?_
                refine q_sI 331 [vR 9 0, vI (((7 * x2) + 41) + 3)] [vI 1, vI (1 + y90), vI (Int.tmod (wI ((y20 + 1) + (Int.tmod (wI (Int.tdiv (wI x2) (5))) (4)))) (5)), vI y20, vR 3 0] k_L_law_331 rfl lk_4_20 rfl rfl rfl rfl rfl rfl (CallI.mono (fun y110 M109 h177 => ?_) h169f)
                refine q_bipush 334 k_L_law_334 (by decide) ?_
                refine q_sI 336 [vI y110, vI 6] [vI 1, vI (1 + y90), vI (Int.tmod (wI ((y20 + 1) + (Int.tmod (wI (Int.tdiv (wI x2) (5))) (4)))) (5)), vI y20, vR 3 0] k_L_law_336 rfl lk_4_23 rfl rfl rfl rfl rfl rfl (CallI.mono (fun y112 M111 h178 => ?_) h177)
                refine q_sI 339 [vR 3 0, vI y20, vI (Int.tmod (wI ((y20 + 1) + (Int.tmod (wI (Int.tdiv (wI x2) (5))) (4)))) (5)), vI (1 + y90), vI 1, vI y112] [] k_L_law_339 rfl lk_4_49 rfl rfl rfl rfl rfl rfl (CallI.mono (fun y114 M113 h179 => ?_) h178)
                refine q_if_ne 342 347 k_L_law_342 rfl rfl (fun c342 => ?_) (fun c342 => ?_)
                · have h179t := h179.1 c342
                  refine q_iload_n 347 k_L_law_347 rfl ?_
                  refine q_bipush 348 k_L_law_348 (by decide) ?_
                  refine q_irem 350 k_L_law_350 (by decide) ?_
                  refine q_iconst 351 k_L_law_351 ?_
                  refine q_icmp_ne 352 388 k_L_law_352 rfl rfl (fun c352 => ?_) (fun c352 => ?_)
                  · have h179tt := h179t.1 c352
                    refine q_iinc 388 k_L_law_388 (ls' := [some (vR 9 0), some (vR 3 0), some (vI (x2 + 1)), some (vI ((7 * x2) + 41)), some (vI y20), some (vI (Int.tmod (wI ((y20 + 1) + (Int.tmod (wI (Int.tdiv (wI x2) (5))) (4)))) (5)))]) rfl rfl rfl ?_
                    refine q_goto 391 131 k_L_law_391 rfl rfl ?_
                    exact h179tt
                  · have h179tf := h179t.2 c352
                    refine q_aload_n 355 k_L_law_355 rfl ?_
                    refine q_iload 356 k_L_law_356 rfl ?_
                    refine q_aload_n 358 k_L_law_358 rfl ?_
                    refine q_iload_n 359 k_L_law_359 rfl ?_
                    refine q_iconst 360 k_L_law_360 ?_
                    refine q_iadd 361 k_L_law_361 ?_
                    refine q_sI 362 [vR 9 0, vI (((7 * x2) + 41) + 5)] [vI y20, vR 3 0] k_L_law_362 rfl lk_4_20 rfl rfl rfl rfl rfl rfl (CallI.mono (fun y116 M115 h180 => ?_) h179tf)
                    refine q_aload_n 365 k_L_law_365 rfl ?_
                    refine q_iload_n 366 k_L_law_366 rfl ?_
                    refine q_bipush 367 k_L_law_367 (by decide) ?_
                    refine q_iadd 369 k_L_law_369 ?_
                    refine q_sI 370 [vR 9 0, vI (((7 * x2) + 41) + 6)] [vI y116, vI y20, vR 3 0] k_L_law_370 rfl lk_4_20 rfl rfl rfl rfl rfl rfl (CallI.mono (fun y118 M117 h181 => ?_) h180)
                    refine q_aload_n 373 k_L_law_373 rfl ?_
                    refine q_iload_n 374 k_L_law_374 rfl ?_
                    refine q_iconst 375 k_L_law_375 ?_
                    refine q_iadd 376 k_L_law_376 ?_
                    refine q_sI 377 [vR 9 0, vI (((7 * x2) + 41) + 3)] [vI y118, vI y116, vI y20, vR 3 0] k_L_law_377 rfl lk_4_20 rfl rfl rfl rfl rfl rfl (CallI.mono (fun y120 M119 h182 => ?_) h181)
                    refine q_sI 380 [vR 3 0, vI y20, vI y116, vI y118, vI y120] [] k_L_law_380 rfl lk_4_53 rfl rfl rfl rfl rfl rfl (CallI.mono (fun y122 M121 h183 => ?_) h182)
                    refine q_if_ne 383 388 k_L_law_383 rfl rfl (fun c383 => ?_) (fun c383 => ?_)
                    · have h183t := h183.1 c383
                      refine q_iinc 388 k_L_law_388 (ls' := [some (vR 9 0), some (vR 3 0), some (vI (x2 + 1)), some (vI ((7 * x2) + 41)), some (vI y20), some (vI (Int.tmod (wI ((y20 + 1) + (Int.tmod (wI (Int.tdiv (wI x2) (5))) (4)))) (5)))]) rfl rfl rfl ?_
                      refine q_goto 391 131 k_L_law_391 rfl rfl ?_
                      exact h183t
                    · have h183f := h183.2 c383
                      refine q_iconst 386 k_L_law_386 ?_
                      exact q_zret 387 k_L_law_387 rfl (Or.inl rfl) h183f
                · have h179f := h179.2 c342
                  refine q_iconst 345 k_L_law_345 ?_
                  exact q_zret 346 k_L_law_346 rfl (Or.inl rfl) h179f
          · have h161f := h161.2 c273
            refine q_iconst 276 k_L_law_276 ?_
            exact q_zret 277 k_L_law_277 rfl (Or.inl rfl) h161f
      · have h136f := h136.2 c225
        refine q_iconst 228 k_L_law_228 ?_
        exact q_zret 229 k_L_law_229 rfl (Or.inl rfl) h136f
