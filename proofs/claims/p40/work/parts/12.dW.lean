theorem k_W_beginGrid_0 : decode (mtC m_W_beginGrid) 0 = .ok (.aload_n 0, 1) := by decide +kernel
theorem k_W_beginGrid_1 : decode (mtC m_W_beginGrid) 1 = .ok (.getfield 11, 3) := by decide +kernel
theorem k_W_beginGrid_4 : decode (mtC m_W_beginGrid) 4 = .ok (.iconst 0, 1) := by decide +kernel
theorem k_W_beginGrid_5 : decode (mtC m_W_beginGrid) 5 = .ok (.aaload, 1) := by decide +kernel
theorem k_W_beginGrid_6 : decode (mtC m_W_beginGrid) 6 = .ok (.aload_n 2, 1) := by decide +kernel
theorem k_W_beginGrid_7 : decode (mtC m_W_beginGrid) 7 = .ok (.invokevirtual 29, 3) := by decide +kernel
theorem k_W_beginGrid_10 : decode (mtC m_W_beginGrid) 10 = .ok (.aload_n 0, 1) := by decide +kernel
theorem k_W_beginGrid_11 : decode (mtC m_W_beginGrid) 11 = .ok (.getfield 11, 3) := by decide +kernel
theorem k_W_beginGrid_14 : decode (mtC m_W_beginGrid) 14 = .ok (.iconst 1, 1) := by decide +kernel
theorem k_W_beginGrid_15 : decode (mtC m_W_beginGrid) 15 = .ok (.aaload, 1) := by decide +kernel
theorem k_W_beginGrid_16 : decode (mtC m_W_beginGrid) 16 = .ok (.aload_n 3, 1) := by decide +kernel
theorem k_W_beginGrid_17 : decode (mtC m_W_beginGrid) 17 = .ok (.invokevirtual 29, 3) := by decide +kernel
theorem k_W_beginGrid_20 : decode (mtC m_W_beginGrid) 20 = .ok (.aload_n 0, 1) := by decide +kernel
theorem k_W_beginGrid_21 : decode (mtC m_W_beginGrid) 21 = .ok (.getfield 11, 3) := by decide +kernel
theorem k_W_beginGrid_24 : decode (mtC m_W_beginGrid) 24 = .ok (.iconst 2, 1) := by decide +kernel
theorem k_W_beginGrid_25 : decode (mtC m_W_beginGrid) 25 = .ok (.aaload, 1) := by decide +kernel
theorem k_W_beginGrid_26 : decode (mtC m_W_beginGrid) 26 = .ok (.aload 4, 2) := by decide +kernel
theorem k_W_beginGrid_28 : decode (mtC m_W_beginGrid) 28 = .ok (.invokevirtual 29, 3) := by decide +kernel
theorem k_W_beginGrid_31 : decode (mtC m_W_beginGrid) 31 = .ok (.aload_n 0, 1) := by decide +kernel
theorem k_W_beginGrid_32 : decode (mtC m_W_beginGrid) 32 = .ok (.iload_n 1, 1) := by decide +kernel
theorem k_W_beginGrid_33 : decode (mtC m_W_beginGrid) 33 = .ok (.iconst 0, 1) := by decide +kernel
theorem k_W_beginGrid_34 : decode (mtC m_W_beginGrid) 34 = .ok (.iconst 0, 1) := by decide +kernel
theorem k_W_beginGrid_35 : decode (mtC m_W_beginGrid) 35 = .ok (.invokevirtual 33, 3) := by decide +kernel
theorem k_W_beginGrid_38 : decode (mtC m_W_beginGrid) 38 = .ok (.return_, 1) := by decide +kernel
set_option maxHeartbeats 4000000 in
set_option maxRecDepth 100000 in
theorem T_W_beginGrid_0 {d : Nat} {i0 : Nat} {x1 : Int} {i2 : Nat} {i3 : Nat} {i4 : Nat} {M : AMem} {Q : Option AV → AMem → Prop} (o0 : okH 2 i0 = true) (o2 : okH 1 i2 = true) (o3 : okH 1 i3 = true) (o4 : okH 1 i4 = true) (h : CallV d m_R_become [vR 1 (6 * i0 + 0), vR 1 i2] M (fun M1 => CallV d m_R_become [vR 1 (6 * i0 + 1), vR 1 i3] M1 (fun M3 => CallV d m_R_become [vR 1 (6 * i0 + 2), vR 1 i4] M3 (fun M5 => CallV d m_W_begin [vR 2 i0, vI x1, vI 0, vI 0] M5 (fun M7 => Q none M7))))) : RunQ (d + 1) m_W_beginGrid 0 [some (vR 2 i0), some (vI x1), some (vR 1 i2), some (vR 1 i3), some (vR 1 i4)] [] M Q := by
  refine q_aload_n 0 k_W_beginGrid_0 rfl ?_
  refine q_getfield 1 k_W_beginGrid_1 fk_2_11 o0 (v := vR 6 i0) rfl ?_
  refine q_iconst 4 k_W_beginGrid_4 ?_
  refine q_aaload 5 k_W_beginGrid_5 o0 (n := 6) rfl ⟨by decide, by decide⟩ (kd := 1) (x := (6 * i0 + 0)) rfl ?_
  refine q_aload_n 6 k_W_beginGrid_6 rfl ?_
  refine q_vV 7 [vR 1 i2] [] k_W_beginGrid_7 lk_2_29 rfl rfl rfl (ok_r6 (j := 0) o0 ⟨by decide, by decide⟩) rfl rfl rfl rfl (CallV.mono (fun M1 h9 => ?_) h)
  refine q_aload_n 10 k_W_beginGrid_10 rfl ?_
  refine q_getfield 11 k_W_beginGrid_11 fk_2_11 o0 (v := vR 6 i0) rfl ?_
  refine q_iconst 14 k_W_beginGrid_14 ?_
  refine q_aaload 15 k_W_beginGrid_15 o0 (n := 6) rfl ⟨by decide, by decide⟩ (kd := 1) (x := (6 * i0 + 1)) rfl ?_
  refine q_aload_n 16 k_W_beginGrid_16 rfl ?_
  refine q_vV 17 [vR 1 i3] [] k_W_beginGrid_17 lk_2_29 rfl rfl rfl (ok_r6 (j := 1) o0 ⟨by decide, by decide⟩) rfl rfl rfl rfl (CallV.mono (fun M3 h10 => ?_) h9)
  refine q_aload_n 20 k_W_beginGrid_20 rfl ?_
  refine q_getfield 21 k_W_beginGrid_21 fk_2_11 o0 (v := vR 6 i0) rfl ?_
  refine q_iconst 24 k_W_beginGrid_24 ?_
  refine q_aaload 25 k_W_beginGrid_25 o0 (n := 6) rfl ⟨by decide, by decide⟩ (kd := 1) (x := (6 * i0 + 2)) rfl ?_
  refine q_aload 26 k_W_beginGrid_26 rfl ?_
  refine q_vV 28 [vR 1 i4] [] k_W_beginGrid_28 lk_2_29 rfl rfl rfl (ok_r6 (j := 2) o0 ⟨by decide, by decide⟩) rfl rfl rfl rfl (CallV.mono (fun M5 h11 => ?_) h10)
  refine q_aload_n 31 k_W_beginGrid_31 rfl ?_
  refine q_iload_n 32 k_W_beginGrid_32 rfl ?_
  refine q_iconst 33 k_W_beginGrid_33 ?_
  refine q_iconst 34 k_W_beginGrid_34 ?_
  refine q_vV 35 [vI x1, vI 0, vI 0] [] k_W_beginGrid_35 lk_2_33 rfl rfl rfl o0 rfl rfl rfl rfl (CallV.mono (fun M7 h12 => ?_) h11)
  exact q_vret 38 k_W_beginGrid_38 rfl h12
theorem k_W_beginMerged_0 : decode (mtC m_W_beginMerged) 0 = .ok (.aload_n 0, 1) := by decide +kernel
theorem k_W_beginMerged_1 : decode (mtC m_W_beginMerged) 1 = .ok (.aload_n 1, 1) := by decide +kernel
theorem k_W_beginMerged_2 : decode (mtC m_W_beginMerged) 2 = .ok (.invokevirtual 37, 3) := by decide +kernel
theorem k_W_beginMerged_5 : decode (mtC m_W_beginMerged) 5 = .ok (.aload_n 0, 1) := by decide +kernel
theorem k_W_beginMerged_6 : decode (mtC m_W_beginMerged) 6 = .ok (.iconst 3, 1) := by decide +kernel
theorem k_W_beginMerged_7 : decode (mtC m_W_beginMerged) 7 = .ok (.iload_n 2, 1) := by decide +kernel
theorem k_W_beginMerged_8 : decode (mtC m_W_beginMerged) 8 = .ok (.iload_n 3, 1) := by decide +kernel
theorem k_W_beginMerged_9 : decode (mtC m_W_beginMerged) 9 = .ok (.invokevirtual 33, 3) := by decide +kernel
theorem k_W_beginMerged_12 : decode (mtC m_W_beginMerged) 12 = .ok (.return_, 1) := by decide +kernel
set_option maxHeartbeats 4000000 in
set_option maxRecDepth 100000 in
theorem T_W_beginMerged_0_w {d : Nat} {i0 : Nat} {i1 : Nat} {x2 : Int} {x3 : Int} {M : AMem} {Q : Option AV → AMem → Prop} (o0 : okH 2 i0 = true) (o1 : okH 6 i1 = true) (h : CallV d m_W_takeRows [vR 2 i0, vR 6 i1] M (fun M1 => CallV d m_W_begin [vR 2 i0, vI 3, vI x2, vI x3] M1 (fun M3 => Q none M3))) : RunQ (d + 1) m_W_beginMerged 0 [some (vR 2 i0), some (vR 6 i1), some (vI x2), some (vI x3)] [] M Q := by
  refine q_aload_n 0 k_W_beginMerged_0 rfl ?_
  refine q_aload_n 1 k_W_beginMerged_1 rfl ?_
  refine q_vV 2 [vR 6 i1] [] k_W_beginMerged_2 lk_2_37 rfl rfl rfl o0 rfl rfl rfl rfl (CallV.mono (fun M1 h5 => ?_) h)
  refine q_aload_n 5 k_W_beginMerged_5 rfl ?_
  refine q_iconst 6 k_W_beginMerged_6 ?_
  refine q_iload_n 7 k_W_beginMerged_7 rfl ?_
  refine q_iload_n 8 k_W_beginMerged_8 rfl ?_
  refine q_vV 9 [vI 3, vI x2, vI x3] [] k_W_beginMerged_9 lk_2_33 rfl rfl rfl o0 rfl rfl rfl rfl (CallV.mono (fun M3 h6 => ?_) h5)
  exact q_vret 12 k_W_beginMerged_12 rfl h6
set_option maxHeartbeats 4000000 in
set_option maxRecDepth 100000 in
theorem T_W_beginMerged_0_h {d : Nat} {i0 : Nat} {x2 : Int} {x3 : Int} {M : AMem} {Q : Option AV → AMem → Prop} (o0 : okH 2 i0 = true) (h : CallV d m_W_takeRows [vR 2 i0, vR 7 0] M (fun M1 => CallV d m_W_begin [vR 2 i0, vI 3, vI x2, vI x3] M1 (fun M3 => Q none M3))) : RunQ (d + 1) m_W_beginMerged 0 [some (vR 2 i0), some (vR 7 0), some (vI x2), some (vI x3)] [] M Q := by
  refine q_aload_n 0 k_W_beginMerged_0 rfl ?_
  refine q_aload_n 1 k_W_beginMerged_1 rfl ?_
  refine q_vV 2 [vR 7 0] [] k_W_beginMerged_2 lk_2_37 rfl rfl rfl o0 rfl rfl rfl rfl (CallV.mono (fun M1 h5 => ?_) h)
  refine q_aload_n 5 k_W_beginMerged_5 rfl ?_
  refine q_iconst 6 k_W_beginMerged_6 ?_
  refine q_iload_n 7 k_W_beginMerged_7 rfl ?_
  refine q_iload_n 8 k_W_beginMerged_8 rfl ?_
  refine q_vV 9 [vI 3, vI x2, vI x3] [] k_W_beginMerged_9 lk_2_33 rfl rfl rfl o0 rfl rfl rfl rfl (CallV.mono (fun M3 h6 => ?_) h5)
  exact q_vret 12 k_W_beginMerged_12 rfl h6
theorem k_W_begin_0 : decode (mtC m_W_begin) 0 = .ok (.aload_n 0, 1) := by decide +kernel
theorem k_W_begin_1 : decode (mtC m_W_begin) 1 = .ok (.iload_n 1, 1) := by decide +kernel
theorem k_W_begin_2 : decode (mtC m_W_begin) 2 = .ok (.putfield 24, 3) := by decide +kernel
theorem k_W_begin_5 : decode (mtC m_W_begin) 5 = .ok (.aload_n 0, 1) := by decide +kernel
theorem k_W_begin_6 : decode (mtC m_W_begin) 6 = .ok (.iload_n 2, 1) := by decide +kernel
theorem k_W_begin_7 : decode (mtC m_W_begin) 7 = .ok (.putfield 41, 3) := by decide +kernel
theorem k_W_begin_10 : decode (mtC m_W_begin) 10 = .ok (.aload_n 0, 1) := by decide +kernel
theorem k_W_begin_11 : decode (mtC m_W_begin) 11 = .ok (.iload_n 3, 1) := by decide +kernel
theorem k_W_begin_12 : decode (mtC m_W_begin) 12 = .ok (.putfield 44, 3) := by decide +kernel
theorem k_W_begin_15 : decode (mtC m_W_begin) 15 = .ok (.aload_n 0, 1) := by decide +kernel
theorem k_W_begin_16 : decode (mtC m_W_begin) 16 = .ok (.invokevirtual 48, 3) := by decide +kernel
theorem k_W_begin_19 : decode (mtC m_W_begin) 19 = .ok (.return_, 1) := by decide +kernel
set_option maxHeartbeats 4000000 in
set_option maxRecDepth 100000 in
theorem T_W_begin_0 {d : Nat} {i0 : Nat} {x1 : Int} {x2 : Int} {x3 : Int} {M : AMem} {Q : Option AV → AMem → Prop} (o0 : okH 2 i0 = true) (h : (x3 = 0 ∨ x3 = 1) ∧ (CallV d m_W_restart [vR 2 i0] (aup (aup (aup M 2 i0 2 x1) 2 i0 3 x2) 2 i0 4 x3) (fun M1 => Q none M1))) : RunQ (d + 1) m_W_begin 0 [some (vR 2 i0), some (vI x1), some (vI x2), some (vI x3)] [] M Q := by
  refine q_aload_n 0 k_W_begin_0 rfl ?_
  refine q_iload_n 1 k_W_begin_1 rfl ?_
  refine q_putfield 2 k_W_begin_2 fk_2_24 o0 rfl (fun z => absurd z (by decide)) ?_
  refine q_aload_n 5 k_W_begin_5 rfl ?_
  refine q_iload_n 6 k_W_begin_6 rfl ?_
  refine q_putfield 7 k_W_begin_7 fk_2_41 o0 rfl (fun z => absurd z (by decide)) ?_
  refine q_aload_n 10 k_W_begin_10 rfl ?_
  refine q_iload_n 11 k_W_begin_11 rfl ?_
  refine q_putfield 12 k_W_begin_12 fk_2_44 o0 rfl (fun _ => h.1) ?_
  have h' := h.2
  refine q_aload_n 15 k_W_begin_15 rfl ?_
  refine q_vV 16 [] [] k_W_begin_16 lk_2_48 rfl rfl rfl o0 rfl rfl rfl rfl (CallV.mono (fun M1 h3 => ?_) h')
  exact q_vret 19 k_W_begin_19 rfl h3
theorem k_W_restart_0 : decode (mtC m_W_restart) 0 = .ok (.aload_n 0, 1) := by decide +kernel
theorem k_W_restart_1 : decode (mtC m_W_restart) 1 = .ok (.getfield 20, 3) := by decide +kernel
theorem k_W_restart_4 : decode (mtC m_W_restart) 4 = .ok (.iconst 0, 1) := by decide +kernel
theorem k_W_restart_5 : decode (mtC m_W_restart) 5 = .ok (.putfield 51, 3) := by decide +kernel
theorem k_W_restart_8 : decode (mtC m_W_restart) 8 = .ok (.aload_n 0, 1) := by decide +kernel
theorem k_W_restart_9 : decode (mtC m_W_restart) 9 = .ok (.iconst 0, 1) := by decide +kernel
theorem k_W_restart_10 : decode (mtC m_W_restart) 10 = .ok (.putfield 54, 3) := by decide +kernel
theorem k_W_restart_13 : decode (mtC m_W_restart) 13 = .ok (.aload_n 0, 1) := by decide +kernel
theorem k_W_restart_14 : decode (mtC m_W_restart) 14 = .ok (.iconst 0, 1) := by decide +kernel
theorem k_W_restart_15 : decode (mtC m_W_restart) 15 = .ok (.putfield 57, 3) := by decide +kernel
theorem k_W_restart_18 : decode (mtC m_W_restart) 18 = .ok (.aload_n 0, 1) := by decide +kernel
theorem k_W_restart_19 : decode (mtC m_W_restart) 19 = .ok (.iconst 0, 1) := by decide +kernel
theorem k_W_restart_20 : decode (mtC m_W_restart) 20 = .ok (.putfield 60, 3) := by decide +kernel
theorem k_W_restart_23 : decode (mtC m_W_restart) 23 = .ok (.aload_n 0, 1) := by decide +kernel
theorem k_W_restart_24 : decode (mtC m_W_restart) 24 = .ok (.getfield 24, 3) := by decide +kernel
theorem k_W_restart_27 : decode (mtC m_W_restart) 27 = .ok (.ifCond .ne 18, 3) := by decide +kernel
theorem k_W_restart_30 : decode (mtC m_W_restart) 30 = .ok (.aload_n 0, 1) := by decide +kernel
theorem k_W_restart_31 : decode (mtC m_W_restart) 31 = .ok (.getfield 20, 3) := by decide +kernel
theorem k_W_restart_34 : decode (mtC m_W_restart) 34 = .ok (.iconst 1, 1) := by decide +kernel
theorem k_W_restart_35 : decode (mtC m_W_restart) 35 = .ok (.iconst 0, 1) := by decide +kernel
theorem k_W_restart_36 : decode (mtC m_W_restart) 36 = .ok (.invokestatic 63, 3) := by decide +kernel
theorem k_W_restart_39 : decode (mtC m_W_restart) 39 = .ok (.invokevirtual 67, 3) := by decide +kernel
theorem k_W_restart_42 : decode (mtC m_W_restart) 42 = .ok (.goto 51, 3) := by decide +kernel
theorem k_W_restart_45 : decode (mtC m_W_restart) 45 = .ok (.aload_n 0, 1) := by decide +kernel
theorem k_W_restart_46 : decode (mtC m_W_restart) 46 = .ok (.getfield 24, 3) := by decide +kernel
theorem k_W_restart_49 : decode (mtC m_W_restart) 49 = .ok (.iconst 3, 1) := by decide +kernel
theorem k_W_restart_50 : decode (mtC m_W_restart) 50 = .ok (.if_icmp .ne 29, 3) := by decide +kernel
theorem k_W_restart_53 : decode (mtC m_W_restart) 53 = .ok (.iconst 0, 1) := by decide +kernel
theorem k_W_restart_54 : decode (mtC m_W_restart) 54 = .ok (.istore_n 1, 1) := by decide +kernel
theorem k_W_restart_55 : decode (mtC m_W_restart) 55 = .ok (.iload_n 1, 1) := by decide +kernel
theorem k_W_restart_56 : decode (mtC m_W_restart) 56 = .ok (.aload_n 0, 1) := by decide +kernel
theorem k_W_restart_57 : decode (mtC m_W_restart) 57 = .ok (.getfield 11, 3) := by decide +kernel
theorem k_W_restart_60 : decode (mtC m_W_restart) 60 = .ok (.arraylength, 1) := by decide +kernel
theorem k_W_restart_61 : decode (mtC m_W_restart) 61 = .ok (.if_icmp .ge 15, 3) := by decide +kernel
theorem k_W_restart_64 : decode (mtC m_W_restart) 64 = .ok (.aload_n 0, 1) := by decide +kernel
theorem k_W_restart_65 : decode (mtC m_W_restart) 65 = .ok (.iload_n 1, 1) := by decide +kernel
theorem k_W_restart_66 : decode (mtC m_W_restart) 66 = .ok (.iconst 0, 1) := by decide +kernel
theorem k_W_restart_67 : decode (mtC m_W_restart) 67 = .ok (.invokevirtual 71, 3) := by decide +kernel
theorem k_W_restart_70 : decode (mtC m_W_restart) 70 = .ok (.iinc 1 1, 3) := by decide +kernel
theorem k_W_restart_73 : decode (mtC m_W_restart) 73 = .ok (.goto (-18), 3) := by decide +kernel
theorem k_W_restart_76 : decode (mtC m_W_restart) 76 = .ok (.goto 17, 3) := by decide +kernel
theorem k_W_restart_79 : decode (mtC m_W_restart) 79 = .ok (.aload_n 0, 1) := by decide +kernel
theorem k_W_restart_80 : decode (mtC m_W_restart) 80 = .ok (.invokevirtual 75, 3) := by decide +kernel
theorem k_W_restart_83 : decode (mtC m_W_restart) 83 = .ok (.ifCond .eq 10, 3) := by decide +kernel
theorem k_W_restart_86 : decode (mtC m_W_restart) 86 = .ok (.aload_n 0, 1) := by decide +kernel
theorem k_W_restart_87 : decode (mtC m_W_restart) 87 = .ok (.iconst 0, 1) := by decide +kernel
theorem k_W_restart_88 : decode (mtC m_W_restart) 88 = .ok (.iconst 0, 1) := by decide +kernel
theorem k_W_restart_89 : decode (mtC m_W_restart) 89 = .ok (.iconst 0, 1) := by decide +kernel
theorem k_W_restart_90 : decode (mtC m_W_restart) 90 = .ok (.invokevirtual 79, 3) := by decide +kernel
theorem k_W_restart_93 : decode (mtC m_W_restart) 93 = .ok (.return_, 1) := by decide +kernel
set_option maxHeartbeats 4000000 in
set_option maxRecDepth 100000 in
theorem T_W_restart_0 {d : Nat} {i0 : Nat} {M : AMem} {Q : Option AV → AMem → Prop} (o0 : okH 2 i0 = true) (h : ((¬ wI (M 2 i0 2) = 0) → ((¬ wI (M 2 i0 2) = 3) → CallI d m_W_isGrid [vR 2 i0] (aup (aup (aup (aup M 0 i0 1 0) 2 i0 5 0) 2 i0 6 0) 2 i0 7 0) (fun y2 M1 => ((wI y2 = 0) → Q none M1) ∧ (¬ (wI y2 = 0) → CallV d m_W_offerOfGrid [vR 2 i0, vI 0, vI 0, vI 0] M1 (fun M3 => Q none M3)))) ∧ (¬ (¬ wI (M 2 i0 2) = 3) → RunQ (d + 1) m_W_restart 55 [some (vR 2 i0), some (vI 0)] [] (aup (aup (aup (aup M 0 i0 1 0) 2 i0 5 0) 2 i0 6 0) 2 i0 7 0) Q)) ∧ (¬ (¬ wI (M 2 i0 2) = 0) → CallI d m_Q_keyOf [vI 1, vI 0] (aup (aup (aup (aup M 0 i0 1 0) 2 i0 5 0) 2 i0 6 0) 2 i0 7 0) (fun y6 M5 => CallV d m_Q_push [vR 0 i0, vI y6] M5 (fun M7 => Q none M7)))) : RunQ (d + 1) m_W_restart 0 [some (vR 2 i0), none] [] M Q := by
  refine q_aload_n 0 k_W_restart_0 rfl ?_
  refine q_getfield 1 k_W_restart_1 fk_2_20 o0 (v := vR 0 i0) rfl ?_
  refine q_iconst 4 k_W_restart_4 ?_
  refine q_putfield 5 k_W_restart_5 fk_2_51 o0 rfl (fun z => absurd z (by decide)) ?_
  refine q_aload_n 8 k_W_restart_8 rfl ?_
  refine q_iconst 9 k_W_restart_9 ?_
  refine q_putfield 10 k_W_restart_10 fk_2_54 o0 rfl (fun z => absurd z (by decide)) ?_
  refine q_aload_n 13 k_W_restart_13 rfl ?_
  refine q_iconst 14 k_W_restart_14 ?_
  refine q_putfield 15 k_W_restart_15 fk_2_57 o0 rfl (fun z => absurd z (by decide)) ?_
  refine q_aload_n 18 k_W_restart_18 rfl ?_
  refine q_iconst 19 k_W_restart_19 ?_
  refine q_putfield 20 k_W_restart_20 fk_2_60 o0 rfl (fun z => absurd z (by decide)) ?_
  refine q_aload_n 23 k_W_restart_23 rfl ?_
  refine q_getfield 24 k_W_restart_24 fk_2_24 o0 (v := vI (M 2 i0 2)) (by simp [fval, aup]) ?_
  refine q_if_ne 27 45 k_W_restart_27 rfl rfl (fun c27 => ?_) (fun c27 => ?_)
  · have ht := h.1 c27
    refine q_aload_n 45 k_W_restart_45 rfl ?_
    refine q_getfield 46 k_W_restart_46 fk_2_24 o0 (v := vI (M 2 i0 2)) (by simp [fval, aup]) ?_
    refine q_iconst 49 k_W_restart_49 ?_
    refine q_icmp_ne 50 79 k_W_restart_50 rfl rfl (fun c50 => ?_) (fun c50 => ?_)
    · have htt := ht.1 c50
      refine q_aload_n 79 k_W_restart_79 rfl ?_
      refine q_vI 80 [] [] k_W_restart_80 lk_2_75 rfl rfl rfl o0 rfl rfl rfl rfl (CallI.mono (fun y2 M1 h9 => ?_) htt)
      refine q_if_eq 83 93 k_W_restart_83 rfl rfl (fun c83 => ?_) (fun c83 => ?_)
      · have h9t := h9.1 c83
        exact q_vret 93 k_W_restart_93 rfl h9t
      · have h9f := h9.2 c83
        refine q_aload_n 86 k_W_restart_86 rfl ?_
        refine q_iconst 87 k_W_restart_87 ?_
        refine q_iconst 88 k_W_restart_88 ?_
        refine q_iconst 89 k_W_restart_89 ?_
        refine q_vV 90 [vI 0, vI 0, vI 0] [] k_W_restart_90 lk_2_79 rfl rfl rfl o0 rfl rfl rfl rfl (CallV.mono (fun M3 h10 => ?_) h9f)
        exact q_vret 93 k_W_restart_93 rfl h10
    · have htf := ht.2 c50
      refine q_iconst 53 k_W_restart_53 ?_
      refine q_istore_n 54 k_W_restart_54 (ls' := [some (vR 2 i0), some (vI 0)]) rfl rfl ?_
      exact htf
  · have hf := h.2 c27
    refine q_aload_n 30 k_W_restart_30 rfl ?_
    refine q_getfield 31 k_W_restart_31 fk_2_20 o0 (v := vR 0 i0) rfl ?_
    refine q_iconst 34 k_W_restart_34 ?_
    refine q_iconst 35 k_W_restart_35 ?_
    refine q_sI 36 [vI 1, vI 0] [vR 0 i0] k_W_restart_36 rfl lk_2_63 rfl rfl rfl rfl rfl rfl (CallI.mono (fun y6 M5 h11 => ?_) hf)
    refine q_vV 39 [vI y6] [] k_W_restart_39 lk_2_67 rfl rfl rfl o0 rfl rfl rfl rfl (CallV.mono (fun M7 h12 => ?_) h11)
    refine q_goto 42 93 k_W_restart_42 rfl rfl ?_
    exact q_vret 93 k_W_restart_93 rfl h12
set_option maxHeartbeats 4000000 in
set_option maxRecDepth 100000 in
theorem T_W_restart_55 {d : Nat} {i0 : Nat} {x1 : Int} {M : AMem} {Q : Option AV → AMem → Prop} (o0 : okH 2 i0 = true) (h : ((6 ≤ wI x1) → Q none M) ∧ (¬ (6 ≤ wI x1) → CallV d m_W_offerOfRow [vR 2 i0, vI x1, vI 0] M (fun M1 => RunQ (d + 1) m_W_restart 55 [some (vR 2 i0), some (vI (x1 + 1))] [] M1 Q))) : RunQ (d + 1) m_W_restart 55 [some (vR 2 i0), some (vI x1)] [] M Q := by
  refine q_iload_n 55 k_W_restart_55 rfl ?_
  refine q_aload_n 56 k_W_restart_56 rfl ?_
  refine q_getfield 57 k_W_restart_57 fk_2_11 o0 (v := vR 6 i0) rfl ?_
  refine q_alen 60 k_W_restart_60 o0 rfl (z := 6) rfl ?_
  refine q_icmp_ge 61 76 k_W_restart_61 rfl rfl (fun c61 => ?_) (fun c61 => ?_)
  · have ht := h.1 c61
    refine q_goto 76 93 k_W_restart_76 rfl rfl ?_
    exact q_vret 93 k_W_restart_93 rfl ht
  · have hf := h.2 c61
    refine q_aload_n 64 k_W_restart_64 rfl ?_
    refine q_iload_n 65 k_W_restart_65 rfl ?_
    refine q_iconst 66 k_W_restart_66 ?_
    refine q_vV 67 [vI x1, vI 0] [] k_W_restart_67 lk_2_71 rfl rfl rfl o0 rfl rfl rfl rfl (CallV.mono (fun M1 h3 => ?_) hf)
    refine q_iinc 70 k_W_restart_70 (ls' := [some (vR 2 i0), some (vI (x1 + 1))]) rfl rfl rfl ?_
    refine q_goto 73 55 k_W_restart_73 rfl rfl ?_
    exact h3
theorem k_W_become_0 : decode (mtC m_W_become) 0 = .ok (.aload_n 0, 1) := by decide +kernel
theorem k_W_become_1 : decode (mtC m_W_become) 1 = .ok (.aload_n 1, 1) := by decide +kernel
theorem k_W_become_2 : decode (mtC m_W_become) 2 = .ok (.getfield 11, 3) := by decide +kernel
theorem k_W_become_5 : decode (mtC m_W_become) 5 = .ok (.invokevirtual 37, 3) := by decide +kernel
theorem k_W_become_8 : decode (mtC m_W_become) 8 = .ok (.aload_n 0, 1) := by decide +kernel
theorem k_W_become_9 : decode (mtC m_W_become) 9 = .ok (.getfield 20, 3) := by decide +kernel
theorem k_W_become_12 : decode (mtC m_W_become) 12 = .ok (.aload_n 1, 1) := by decide +kernel
theorem k_W_become_13 : decode (mtC m_W_become) 13 = .ok (.getfield 20, 3) := by decide +kernel
theorem k_W_become_16 : decode (mtC m_W_become) 16 = .ok (.invokevirtual 83, 3) := by decide +kernel
theorem k_W_become_19 : decode (mtC m_W_become) 19 = .ok (.aload_n 0, 1) := by decide +kernel
theorem k_W_become_20 : decode (mtC m_W_become) 20 = .ok (.aload_n 1, 1) := by decide +kernel
theorem k_W_become_21 : decode (mtC m_W_become) 21 = .ok (.getfield 24, 3) := by decide +kernel
theorem k_W_become_24 : decode (mtC m_W_become) 24 = .ok (.putfield 24, 3) := by decide +kernel
theorem k_W_become_27 : decode (mtC m_W_become) 27 = .ok (.aload_n 0, 1) := by decide +kernel
theorem k_W_become_28 : decode (mtC m_W_become) 28 = .ok (.aload_n 1, 1) := by decide +kernel
theorem k_W_become_29 : decode (mtC m_W_become) 29 = .ok (.getfield 41, 3) := by decide +kernel
theorem k_W_become_32 : decode (mtC m_W_become) 32 = .ok (.putfield 41, 3) := by decide +kernel
theorem k_W_become_35 : decode (mtC m_W_become) 35 = .ok (.aload_n 0, 1) := by decide +kernel
theorem k_W_become_36 : decode (mtC m_W_become) 36 = .ok (.aload_n 1, 1) := by decide +kernel
theorem k_W_become_37 : decode (mtC m_W_become) 37 = .ok (.getfield 44, 3) := by decide +kernel
theorem k_W_become_40 : decode (mtC m_W_become) 40 = .ok (.putfield 44, 3) := by decide +kernel
theorem k_W_become_43 : decode (mtC m_W_become) 43 = .ok (.aload_n 0, 1) := by decide +kernel
theorem k_W_become_44 : decode (mtC m_W_become) 44 = .ok (.aload_n 1, 1) := by decide +kernel
theorem k_W_become_45 : decode (mtC m_W_become) 45 = .ok (.getfield 54, 3) := by decide +kernel
theorem k_W_become_48 : decode (mtC m_W_become) 48 = .ok (.putfield 54, 3) := by decide +kernel
theorem k_W_become_51 : decode (mtC m_W_become) 51 = .ok (.aload_n 0, 1) := by decide +kernel
theorem k_W_become_52 : decode (mtC m_W_become) 52 = .ok (.aload_n 1, 1) := by decide +kernel
theorem k_W_become_53 : decode (mtC m_W_become) 53 = .ok (.getfield 57, 3) := by decide +kernel
theorem k_W_become_56 : decode (mtC m_W_become) 56 = .ok (.putfield 57, 3) := by decide +kernel
theorem k_W_become_59 : decode (mtC m_W_become) 59 = .ok (.aload_n 0, 1) := by decide +kernel
theorem k_W_become_60 : decode (mtC m_W_become) 60 = .ok (.aload_n 1, 1) := by decide +kernel
theorem k_W_become_61 : decode (mtC m_W_become) 61 = .ok (.getfield 60, 3) := by decide +kernel
theorem k_W_become_64 : decode (mtC m_W_become) 64 = .ok (.putfield 60, 3) := by decide +kernel
theorem k_W_become_67 : decode (mtC m_W_become) 67 = .ok (.return_, 1) := by decide +kernel
set_option maxHeartbeats 4000000 in
set_option maxRecDepth 100000 in
theorem T_W_become_0 {d : Nat} {i0 : Nat} {i1 : Nat} {M : AMem} {Q : Option AV → AMem → Prop} (o0 : okH 2 i0 = true) (o1 : okH 2 i1 = true) (h : CallV d m_W_takeRows [vR 2 i0, vR 6 i1] M (fun M1 => CallV d m_Q_become [vR 0 i0, vR 0 i1] M1 (fun M3 => ((M3 2 i1 4) = 0 ∨ (M3 2 i1 4) = 1) ∧ (Q none (aup (aup (aup (aup (aup (aup M3 2 i0 2 (M3 2 i1 2)) 2 i0 3 (M3 2 i1 3)) 2 i0 4 (M3 2 i1 4)) 2 i0 5 (M3 2 i1 5)) 2 i0 6 (M3 2 i1 6)) 2 i0 7 (M3 2 i1 7)))))) : RunQ (d + 1) m_W_become 0 [some (vR 2 i0), some (vR 2 i1)] [] M Q := by
  refine q_aload_n 0 k_W_become_0 rfl ?_
  refine q_aload_n 1 k_W_become_1 rfl ?_
  refine q_getfield 2 k_W_become_2 fk_2_11 o1 (v := vR 6 i1) rfl ?_
  refine q_vV 5 [vR 6 i1] [] k_W_become_5 lk_2_37 rfl rfl rfl o0 rfl rfl rfl rfl (CallV.mono (fun M1 h5 => ?_) h)
  refine q_aload_n 8 k_W_become_8 rfl ?_
  refine q_getfield 9 k_W_become_9 fk_2_20 o0 (v := vR 0 i0) rfl ?_
  refine q_aload_n 12 k_W_become_12 rfl ?_
  refine q_getfield 13 k_W_become_13 fk_2_20 o1 (v := vR 0 i1) rfl ?_
  refine q_vV 16 [vR 0 i1] [] k_W_become_16 lk_2_83 rfl rfl rfl o0 rfl rfl rfl rfl (CallV.mono (fun M3 h6 => ?_) h5)
  refine q_aload_n 19 k_W_become_19 rfl ?_
  refine q_aload_n 20 k_W_become_20 rfl ?_
  refine q_getfield 21 k_W_become_21 fk_2_24 o1 (v := vI (M3 2 i1 2)) rfl ?_
  refine q_putfield 24 k_W_become_24 fk_2_24 o0 rfl (fun z => absurd z (by decide)) ?_
  refine q_aload_n 27 k_W_become_27 rfl ?_
  refine q_aload_n 28 k_W_become_28 rfl ?_
  refine q_getfield 29 k_W_become_29 fk_2_41 o1 (v := vI (M3 2 i1 3)) (by simp [fval, aup]) ?_
  refine q_putfield 32 k_W_become_32 fk_2_41 o0 rfl (fun z => absurd z (by decide)) ?_
  refine q_aload_n 35 k_W_become_35 rfl ?_
  refine q_aload_n 36 k_W_become_36 rfl ?_
  refine q_getfield 37 k_W_become_37 fk_2_44 o1 (v := vI (M3 2 i1 4)) (by simp [fval, aup]) ?_
  refine q_putfield 40 k_W_become_40 fk_2_44 o0 rfl (fun _ => h6.1) ?_
  have h6' := h6.2
  refine q_aload_n 43 k_W_become_43 rfl ?_
  refine q_aload_n 44 k_W_become_44 rfl ?_
  refine q_getfield 45 k_W_become_45 fk_2_54 o1 (v := vI (M3 2 i1 5)) (by simp [fval, aup]) ?_
  refine q_putfield 48 k_W_become_48 fk_2_54 o0 rfl (fun z => absurd z (by decide)) ?_
  refine q_aload_n 51 k_W_become_51 rfl ?_
  refine q_aload_n 52 k_W_become_52 rfl ?_
  refine q_getfield 53 k_W_become_53 fk_2_57 o1 (v := vI (M3 2 i1 6)) (by simp [fval, aup]) ?_
  refine q_putfield 56 k_W_become_56 fk_2_57 o0 rfl (fun z => absurd z (by decide)) ?_
  refine q_aload_n 59 k_W_become_59 rfl ?_
  refine q_aload_n 60 k_W_become_60 rfl ?_
  refine q_getfield 61 k_W_become_61 fk_2_60 o1 (v := vI (M3 2 i1 7)) (by simp [fval, aup]) ?_
  refine q_putfield 64 k_W_become_64 fk_2_60 o0 rfl (fun z => absurd z (by decide)) ?_
  exact q_vret 67 k_W_become_67 rfl h6'
theorem k_W_takeRows_0 : decode (mtC m_W_takeRows) 0 = .ok (.iconst 0, 1) := by decide +kernel
theorem k_W_takeRows_1 : decode (mtC m_W_takeRows) 1 = .ok (.istore_n 2, 1) := by decide +kernel
theorem k_W_takeRows_2 : decode (mtC m_W_takeRows) 2 = .ok (.iload_n 2, 1) := by decide +kernel
theorem k_W_takeRows_3 : decode (mtC m_W_takeRows) 3 = .ok (.aload_n 0, 1) := by decide +kernel
theorem k_W_takeRows_4 : decode (mtC m_W_takeRows) 4 = .ok (.getfield 11, 3) := by decide +kernel
theorem k_W_takeRows_7 : decode (mtC m_W_takeRows) 7 = .ok (.arraylength, 1) := by decide +kernel
theorem k_W_takeRows_8 : decode (mtC m_W_takeRows) 8 = .ok (.if_icmp .ge 27, 3) := by decide +kernel
theorem k_W_takeRows_11 : decode (mtC m_W_takeRows) 11 = .ok (.iload_n 2, 1) := by decide +kernel
theorem k_W_takeRows_12 : decode (mtC m_W_takeRows) 12 = .ok (.aload_n 1, 1) := by decide +kernel
theorem k_W_takeRows_13 : decode (mtC m_W_takeRows) 13 = .ok (.arraylength, 1) := by decide +kernel
theorem k_W_takeRows_14 : decode (mtC m_W_takeRows) 14 = .ok (.if_icmp .ge 21, 3) := by decide +kernel
theorem k_W_takeRows_17 : decode (mtC m_W_takeRows) 17 = .ok (.aload_n 0, 1) := by decide +kernel
theorem k_W_takeRows_18 : decode (mtC m_W_takeRows) 18 = .ok (.getfield 11, 3) := by decide +kernel
theorem k_W_takeRows_21 : decode (mtC m_W_takeRows) 21 = .ok (.iload_n 2, 1) := by decide +kernel
theorem k_W_takeRows_22 : decode (mtC m_W_takeRows) 22 = .ok (.aaload, 1) := by decide +kernel
theorem k_W_takeRows_23 : decode (mtC m_W_takeRows) 23 = .ok (.aload_n 1, 1) := by decide +kernel
theorem k_W_takeRows_24 : decode (mtC m_W_takeRows) 24 = .ok (.iload_n 2, 1) := by decide +kernel
theorem k_W_takeRows_25 : decode (mtC m_W_takeRows) 25 = .ok (.aaload, 1) := by decide +kernel
theorem k_W_takeRows_26 : decode (mtC m_W_takeRows) 26 = .ok (.invokevirtual 29, 3) := by decide +kernel
theorem k_W_takeRows_29 : decode (mtC m_W_takeRows) 29 = .ok (.iinc 2 1, 3) := by decide +kernel
theorem k_W_takeRows_32 : decode (mtC m_W_takeRows) 32 = .ok (.goto (-30), 3) := by decide +kernel
theorem k_W_takeRows_35 : decode (mtC m_W_takeRows) 35 = .ok (.return_, 1) := by decide +kernel
set_option maxHeartbeats 4000000 in
set_option maxRecDepth 100000 in
theorem T_W_takeRows_0_w {d : Nat} {i0 : Nat} {i1 : Nat} {M : AMem} {Q : Option AV → AMem → Prop} (o0 : okH 2 i0 = true) (o1 : okH 6 i1 = true) (h : RunQ (d + 1) m_W_takeRows 2 [some (vR 2 i0), some (vR 6 i1), some (vI 0)] [] M Q) : RunQ (d + 1) m_W_takeRows 0 [some (vR 2 i0), some (vR 6 i1), none] [] M Q := by
  refine q_iconst 0 k_W_takeRows_0 ?_
  refine q_istore_n 1 k_W_takeRows_1 (ls' := [some (vR 2 i0), some (vR 6 i1), some (vI 0)]) rfl rfl ?_
  exact h
set_option maxHeartbeats 4000000 in
set_option maxRecDepth 100000 in
theorem T_W_takeRows_2_w {d : Nat} {i0 : Nat} {i1 : Nat} {x2 : Int} {M : AMem} {Q : Option AV → AMem → Prop} (o0 : okH 2 i0 = true) (o1 : okH 6 i1 = true) (h : ((6 ≤ wI x2) → Q none M) ∧ (¬ (6 ≤ wI x2) → ((6 ≤ wI x2) → Q none M) ∧ (¬ (6 ≤ wI x2) → (0 ≤ wI x2 ∧ wI x2 < (6 : Nat)) ∧ ((0 ≤ wI x2 ∧ wI x2 < (6 : Nat)) ∧ (CallV d m_R_become [vR 1 (6 * i0 + (wI x2).toNat), vR 1 (6 * i1 + (wI x2).toNat)] M (fun M3 => RunQ (d + 1) m_W_takeRows 2 [some (vR 2 i0), some (vR 6 i1), some (vI (x2 + 1))] [] M3 Q)))))) : RunQ (d + 1) m_W_takeRows 2 [some (vR 2 i0), some (vR 6 i1), some (vI x2)] [] M Q := by
  refine q_iload_n 2 k_W_takeRows_2 rfl ?_
  refine q_aload_n 3 k_W_takeRows_3 rfl ?_
  refine q_getfield 4 k_W_takeRows_4 fk_2_11 o0 (v := vR 6 i0) rfl ?_
  refine q_alen 7 k_W_takeRows_7 o0 rfl (z := 6) rfl ?_
  refine q_icmp_ge 8 35 k_W_takeRows_8 rfl rfl (fun c8 => ?_) (fun c8 => ?_)
  · have ht := h.1 c8
    exact q_vret 35 k_W_takeRows_35 rfl ht
  · have hf := h.2 c8
    refine q_iload_n 11 k_W_takeRows_11 rfl ?_
    refine q_aload_n 12 k_W_takeRows_12 rfl ?_
    refine q_alen 13 k_W_takeRows_13 o1 rfl (z := 6) rfl ?_
    refine q_icmp_ge 14 35 k_W_takeRows_14 rfl rfl (fun c14 => ?_) (fun c14 => ?_)
    · have hft := hf.1 c14
      exact q_vret 35 k_W_takeRows_35 rfl hft
    · have hff := hf.2 c14
      refine q_aload_n 17 k_W_takeRows_17 rfl ?_
      refine q_getfield 18 k_W_takeRows_18 fk_2_11 o0 (v := vR 6 i0) rfl ?_
      refine q_iload_n 21 k_W_takeRows_21 rfl ?_
      have hb1 := hff.1
      refine q_aaload 22 k_W_takeRows_22 o0 (n := 6) rfl hb1 (kd := 1) (x := (6 * i0 + (wI x2).toNat)) rfl ?_
      have hff' := hff.2
      refine q_aload_n 23 k_W_takeRows_23 rfl ?_
      refine q_iload_n 24 k_W_takeRows_24 rfl ?_
      have hb2 := hff'.1
      refine q_aaload 25 k_W_takeRows_25 o1 (n := 6) rfl hb2 (kd := 1) (x := (6 * i1 + (wI x2).toNat)) rfl ?_
      have hff'' := hff'.2
      refine q_vV 26 [vR 1 (6 * i1 + (wI x2).toNat)] [] k_W_takeRows_26 lk_2_29 rfl rfl rfl (ok_r6 o0 hb1) rfl rfl rfl rfl (CallV.mono (fun M3 h5 => ?_) hff'')
      refine q_iinc 29 k_W_takeRows_29 (ls' := [some (vR 2 i0), some (vR 6 i1), some (vI (x2 + 1))]) rfl rfl rfl ?_
      refine q_goto 32 2 k_W_takeRows_32 rfl rfl ?_
      exact h5
set_option maxHeartbeats 4000000 in
set_option maxRecDepth 100000 in
theorem T_W_takeRows_0_h {d : Nat} {i0 : Nat} {M : AMem} {Q : Option AV → AMem → Prop} (o0 : okH 2 i0 = true) (h : RunQ (d + 1) m_W_takeRows 2 [some (vR 2 i0), some (vR 7 0), some (vI 0)] [] M Q) : RunQ (d + 1) m_W_takeRows 0 [some (vR 2 i0), some (vR 7 0), none] [] M Q := by
  refine q_iconst 0 k_W_takeRows_0 ?_
  refine q_istore_n 1 k_W_takeRows_1 (ls' := [some (vR 2 i0), some (vR 7 0), some (vI 0)]) rfl rfl ?_
  exact h
set_option maxHeartbeats 4000000 in
set_option maxRecDepth 100000 in
theorem T_W_takeRows_2_h {d : Nat} {i0 : Nat} {x2 : Int} {M : AMem} {Q : Option AV → AMem → Prop} (o0 : okH 2 i0 = true) (h : ((6 ≤ wI x2) → Q none M) ∧ (¬ (6 ≤ wI x2) → ((6 ≤ wI x2) → Q none M) ∧ (¬ (6 ≤ wI x2) → (0 ≤ wI x2 ∧ wI x2 < (6 : Nat)) ∧ ((0 ≤ wI x2 ∧ wI x2 < (6 : Nat)) ∧ (CallV d m_R_become [vR 1 (6 * i0 + (wI x2).toNat), vR 1 (42 + (wI x2).toNat)] M (fun M3 => RunQ (d + 1) m_W_takeRows 2 [some (vR 2 i0), some (vR 7 0), some (vI (x2 + 1))] [] M3 Q)))))) : RunQ (d + 1) m_W_takeRows 2 [some (vR 2 i0), some (vR 7 0), some (vI x2)] [] M Q := by
  refine q_iload_n 2 k_W_takeRows_2 rfl ?_
  refine q_aload_n 3 k_W_takeRows_3 rfl ?_
  refine q_getfield 4 k_W_takeRows_4 fk_2_11 o0 (v := vR 6 i0) rfl ?_
  refine q_alen 7 k_W_takeRows_7 o0 rfl (z := 6) rfl ?_
  refine q_icmp_ge 8 35 k_W_takeRows_8 rfl rfl (fun c8 => ?_) (fun c8 => ?_)
  · have ht := h.1 c8
    exact q_vret 35 k_W_takeRows_35 rfl ht
  · have hf := h.2 c8
    refine q_iload_n 11 k_W_takeRows_11 rfl ?_
    refine q_aload_n 12 k_W_takeRows_12 rfl ?_
    refine q_alen 13 k_W_takeRows_13 rfl rfl (z := 6) rfl ?_
    refine q_icmp_ge 14 35 k_W_takeRows_14 rfl rfl (fun c14 => ?_) (fun c14 => ?_)
    · have hft := hf.1 c14
      exact q_vret 35 k_W_takeRows_35 rfl hft
    · have hff := hf.2 c14
      refine q_aload_n 17 k_W_takeRows_17 rfl ?_
      refine q_getfield 18 k_W_takeRows_18 fk_2_11 o0 (v := vR 6 i0) rfl ?_
      refine q_iload_n 21 k_W_takeRows_21 rfl ?_
      have hb1 := hff.1
      refine q_aaload 22 k_W_takeRows_22 o0 (n := 6) rfl hb1 (kd := 1) (x := (6 * i0 + (wI x2).toNat)) rfl ?_
      have hff' := hff.2
      refine q_aload_n 23 k_W_takeRows_23 rfl ?_
      refine q_iload_n 24 k_W_takeRows_24 rfl ?_
      have hb2 := hff'.1
      refine q_aaload 25 k_W_takeRows_25 rfl (n := 6) rfl hb2 (kd := 1) (x := (42 + (wI x2).toNat)) rfl ?_
      have hff'' := hff'.2
      refine q_vV 26 [vR 1 (42 + (wI x2).toNat)] [] k_W_takeRows_26 lk_2_29 rfl rfl rfl (ok_r6 o0 hb1) rfl rfl rfl rfl (CallV.mono (fun M3 h5 => ?_) hff'')
      refine q_iinc 29 k_W_takeRows_29 (ls' := [some (vR 2 i0), some (vR 7 0), some (vI (x2 + 1))]) rfl rfl rfl ?_
      refine q_goto 32 2 k_W_takeRows_32 rfl rfl ?_
      exact h5
theorem k_W_tell_0 : decode (mtC m_W_tell) 0 = .ok (.aload_n 0, 1) := by decide +kernel
theorem k_W_tell_1 : decode (mtC m_W_tell) 1 = .ok (.dup, 1) := by decide +kernel
theorem k_W_tell_2 : decode (mtC m_W_tell) 2 = .ok (.getfield 57, 3) := by decide +kernel
theorem k_W_tell_5 : decode (mtC m_W_tell) 5 = .ok (.iconst 1, 1) := by decide +kernel
theorem k_W_tell_6 : decode (mtC m_W_tell) 6 = .ok (.iadd, 1) := by decide +kernel
theorem k_W_tell_7 : decode (mtC m_W_tell) 7 = .ok (.putfield 57, 3) := by decide +kernel
theorem k_W_tell_10 : decode (mtC m_W_tell) 10 = .ok (.aload_n 0, 1) := by decide +kernel
theorem k_W_tell_11 : decode (mtC m_W_tell) 11 = .ok (.getfield 24, 3) := by decide +kernel
theorem k_W_tell_14 : decode (mtC m_W_tell) 14 = .ok (.iconst 5, 1) := by decide +kernel
theorem k_W_tell_15 : decode (mtC m_W_tell) 15 = .ok (.if_icmp .ne 15, 3) := by decide +kernel
theorem k_W_tell_18 : decode (mtC m_W_tell) 18 = .ok (.aload_n 0, 1) := by decide +kernel
theorem k_W_tell_19 : decode (mtC m_W_tell) 19 = .ok (.invokevirtual 86, 3) := by decide +kernel
theorem k_W_tell_22 : decode (mtC m_W_tell) 22 = .ok (.aload_n 0, 1) := by decide +kernel
theorem k_W_tell_23 : decode (mtC m_W_tell) 23 = .ok (.getfield 60, 3) := by decide +kernel
theorem k_W_tell_26 : decode (mtC m_W_tell) 26 = .ok (.invokestatic 89, 3) := by decide +kernel
theorem k_W_tell_29 : decode (mtC m_W_tell) 29 = .ok (.ireturn, 1) := by decide +kernel
theorem k_W_tell_30 : decode (mtC m_W_tell) 30 = .ok (.aload_n 0, 1) := by decide +kernel
theorem k_W_tell_31 : decode (mtC m_W_tell) 31 = .ok (.aload_n 0, 1) := by decide +kernel
theorem k_W_tell_32 : decode (mtC m_W_tell) 32 = .ok (.getfield 20, 3) := by decide +kernel
theorem k_W_tell_35 : decode (mtC m_W_tell) 35 = .ok (.invokevirtual 93, 3) := by decide +kernel
theorem k_W_tell_38 : decode (mtC m_W_tell) 38 = .ok (.putfield 60, 3) := by decide +kernel
theorem k_W_tell_41 : decode (mtC m_W_tell) 41 = .ok (.aload_n 0, 1) := by decide +kernel
theorem k_W_tell_42 : decode (mtC m_W_tell) 42 = .ok (.getfield 60, 3) := by decide +kernel
theorem k_W_tell_45 : decode (mtC m_W_tell) 45 = .ok (.invokestatic 89, 3) := by decide +kernel
theorem k_W_tell_48 : decode (mtC m_W_tell) 48 = .ok (.istore_n 1, 1) := by decide +kernel
theorem k_W_tell_49 : decode (mtC m_W_tell) 49 = .ok (.aload_n 0, 1) := by decide +kernel
theorem k_W_tell_50 : decode (mtC m_W_tell) 50 = .ok (.getfield 60, 3) := by decide +kernel
theorem k_W_tell_53 : decode (mtC m_W_tell) 53 = .ok (.invokestatic 97, 3) := by decide +kernel
theorem k_W_tell_56 : decode (mtC m_W_tell) 56 = .ok (.istore_n 2, 1) := by decide +kernel
theorem k_W_tell_57 : decode (mtC m_W_tell) 57 = .ok (.aload_n 0, 1) := by decide +kernel
theorem k_W_tell_58 : decode (mtC m_W_tell) 58 = .ok (.getfield 24, 3) := by decide +kernel
theorem k_W_tell_61 : decode (mtC m_W_tell) 61 = .ok (.ifCond .ne 12, 3) := by decide +kernel
theorem k_W_tell_64 : decode (mtC m_W_tell) 64 = .ok (.aload_n 0, 1) := by decide +kernel
theorem k_W_tell_65 : decode (mtC m_W_tell) 65 = .ok (.iload_n 1, 1) := by decide +kernel
theorem k_W_tell_66 : decode (mtC m_W_tell) 66 = .ok (.iload_n 2, 1) := by decide +kernel
theorem k_W_tell_67 : decode (mtC m_W_tell) 67 = .ok (.invokevirtual 100, 3) := by decide +kernel
theorem k_W_tell_70 : decode (mtC m_W_tell) 70 = .ok (.goto 54, 3) := by decide +kernel
theorem k_W_tell_73 : decode (mtC m_W_tell) 73 = .ok (.aload_n 0, 1) := by decide +kernel
theorem k_W_tell_74 : decode (mtC m_W_tell) 74 = .ok (.getfield 24, 3) := by decide +kernel
theorem k_W_tell_77 : decode (mtC m_W_tell) 77 = .ok (.iconst 3, 1) := by decide +kernel
theorem k_W_tell_78 : decode (mtC m_W_tell) 78 = .ok (.if_icmp .ne 27, 3) := by decide +kernel
theorem k_W_tell_81 : decode (mtC m_W_tell) 81 = .ok (.aload_n 0, 1) := by decide +kernel
theorem k_W_tell_82 : decode (mtC m_W_tell) 82 = .ok (.aload_n 0, 1) := by decide +kernel
theorem k_W_tell_83 : decode (mtC m_W_tell) 83 = .ok (.iload_n 2, 1) := by decide +kernel
theorem k_W_tell_84 : decode (mtC m_W_tell) 84 = .ok (.bipush 64, 2) := by decide +kernel
theorem k_W_tell_86 : decode (mtC m_W_tell) 86 = .ok (.idiv, 1) := by decide +kernel
theorem k_W_tell_87 : decode (mtC m_W_tell) 87 = .ok (.invokevirtual 103, 3) := by decide +kernel
theorem k_W_tell_90 : decode (mtC m_W_tell) 90 = .ok (.iload_n 2, 1) := by decide +kernel
theorem k_W_tell_91 : decode (mtC m_W_tell) 91 = .ok (.bipush 8, 2) := by decide +kernel
theorem k_W_tell_93 : decode (mtC m_W_tell) 93 = .ok (.idiv, 1) := by decide +kernel
theorem k_W_tell_94 : decode (mtC m_W_tell) 94 = .ok (.bipush 8, 2) := by decide +kernel
theorem k_W_tell_96 : decode (mtC m_W_tell) 96 = .ok (.irem, 1) := by decide +kernel
theorem k_W_tell_97 : decode (mtC m_W_tell) 97 = .ok (.iconst 1, 1) := by decide +kernel
theorem k_W_tell_98 : decode (mtC m_W_tell) 98 = .ok (.iadd, 1) := by decide +kernel
theorem k_W_tell_99 : decode (mtC m_W_tell) 99 = .ok (.invokevirtual 71, 3) := by decide +kernel
theorem k_W_tell_102 : decode (mtC m_W_tell) 102 = .ok (.goto 22, 3) := by decide +kernel
theorem k_W_tell_105 : decode (mtC m_W_tell) 105 = .ok (.aload_n 0, 1) := by decide +kernel
theorem k_W_tell_106 : decode (mtC m_W_tell) 106 = .ok (.iload_n 2, 1) := by decide +kernel
theorem k_W_tell_107 : decode (mtC m_W_tell) 107 = .ok (.bipush 64, 2) := by decide +kernel
theorem k_W_tell_109 : decode (mtC m_W_tell) 109 = .ok (.idiv, 1) := by decide +kernel
theorem k_W_tell_110 : decode (mtC m_W_tell) 110 = .ok (.iload_n 2, 1) := by decide +kernel
theorem k_W_tell_111 : decode (mtC m_W_tell) 111 = .ok (.bipush 8, 2) := by decide +kernel
theorem k_W_tell_113 : decode (mtC m_W_tell) 113 = .ok (.idiv, 1) := by decide +kernel
theorem k_W_tell_114 : decode (mtC m_W_tell) 114 = .ok (.bipush 8, 2) := by decide +kernel
theorem k_W_tell_116 : decode (mtC m_W_tell) 116 = .ok (.irem, 1) := by decide +kernel
theorem k_W_tell_117 : decode (mtC m_W_tell) 117 = .ok (.iload_n 2, 1) := by decide +kernel
theorem k_W_tell_118 : decode (mtC m_W_tell) 118 = .ok (.bipush 8, 2) := by decide +kernel
theorem k_W_tell_120 : decode (mtC m_W_tell) 120 = .ok (.irem, 1) := by decide +kernel
theorem k_W_tell_121 : decode (mtC m_W_tell) 121 = .ok (.invokevirtual 106, 3) := by decide +kernel
theorem k_W_tell_124 : decode (mtC m_W_tell) 124 = .ok (.iload_n 1, 1) := by decide +kernel
theorem k_W_tell_125 : decode (mtC m_W_tell) 125 = .ok (.ireturn, 1) := by decide +kernel
set_option maxHeartbeats 4000000 in
set_option maxRecDepth 100000 in
theorem T_W_tell_0 {d : Nat} {i0 : Nat} {M : AMem} {Q : Option AV → AMem → Prop} (o0 : okH 2 i0 = true) (h : ((¬ wI (M 2 i0 2) = 5) → CallI d m_Q_pop [vR 0 i0] (aup M 2 i0 6 ((M 2 i0 6) + 1)) (fun y2 M1 => CallI d m_Q_numberOf [vI y2] (aup M1 2 i0 7 y2) (fun y4 M3 => CallI d m_Q_tagOf [vI (M3 2 i0 7)] M3 (fun y6 M5 => ((¬ wI (M5 2 i0 2) = 0) → ((¬ wI (M5 2 i0 2) = 3) → CallV d m_W_offerNeighbours [vR 2 i0, vI (Int.tdiv (wI y6) (64)), vI (Int.tmod (wI (Int.tdiv (wI y6) (8))) (8)), vI (Int.tmod (wI y6) (8))] M5 (fun M7 => Q (some (vI y4)) M7)) ∧ (¬ (¬ wI (M5 2 i0 2) = 3) → CallI d m_W_rankOf [vR 2 i0, vI (Int.tdiv (wI y6) (64))] M5 (fun y10 M9 => CallV d m_W_offerOfRow [vR 2 i0, vI y10, vI ((Int.tmod (wI (Int.tdiv (wI y6) (8))) (8)) + 1)] M9 (fun M11 => Q (some (vI y4)) M11)))) ∧ (¬ (¬ wI (M5 2 i0 2) = 0) → CallV d m_W_offerProducts [vR 2 i0, vI y4, vI y6] M5 (fun M13 => Q (some (vI y4)) M13)))))) ∧ (¬ (¬ wI (M 2 i0 2) = 5) → CallV d m_W_tellPrime [vR 2 i0] (aup M 2 i0 6 ((M 2 i0 6) + 1)) (fun M15 => CallI d m_Q_numberOf [vI (M15 2 i0 7)] M15 (fun y18 M17 => Q (some (vI y18)) M17)))) : RunQ (d + 1) m_W_tell 0 [some (vR 2 i0), none, none] [] M Q := by
  refine q_aload_n 0 k_W_tell_0 rfl ?_
  refine q_dup 1 k_W_tell_1 rfl ?_
  refine q_getfield 2 k_W_tell_2 fk_2_57 o0 (v := vI (M 2 i0 6)) rfl ?_
  refine q_iconst 5 k_W_tell_5 ?_
  refine q_iadd 6 k_W_tell_6 ?_
  refine q_putfield 7 k_W_tell_7 fk_2_57 o0 rfl (fun z => absurd z (by decide)) ?_
  refine q_aload_n 10 k_W_tell_10 rfl ?_
  refine q_getfield 11 k_W_tell_11 fk_2_24 o0 (v := vI (M 2 i0 2)) (by simp [fval, aup]) ?_
  refine q_iconst 14 k_W_tell_14 ?_
  refine q_icmp_ne 15 30 k_W_tell_15 rfl rfl (fun c15 => ?_) (fun c15 => ?_)
  · have ht := h.1 c15
    refine q_aload_n 30 k_W_tell_30 rfl ?_
    refine q_aload_n 31 k_W_tell_31 rfl ?_
    refine q_getfield 32 k_W_tell_32 fk_2_20 o0 (v := vR 0 i0) rfl ?_
    refine q_vI 35 [] [vR 2 i0] k_W_tell_35 lk_2_93 rfl rfl rfl o0 rfl rfl rfl rfl (CallI.mono (fun y2 M1 h19 => ?_) ht)
    refine q_putfield 38 k_W_tell_38 fk_2_60 o0 rfl (fun z => absurd z (by decide)) ?_
    refine q_aload_n 41 k_W_tell_41 rfl ?_
    refine q_getfield 42 k_W_tell_42 fk_2_60 o0 (v := vI y2) (by simp [fval, aup]) ?_
    refine q_sI 45 [vI y2] [] k_W_tell_45 rfl lk_2_89 rfl rfl rfl rfl rfl rfl (CallI.mono (fun y4 M3 h20 => ?_) h19)
    refine q_istore_n 48 k_W_tell_48 (ls' := [some (vR 2 i0), some (vI y4), none]) rfl rfl ?_
    refine q_aload_n 49 k_W_tell_49 rfl ?_
    refine q_getfield 50 k_W_tell_50 fk_2_60 o0 (v := vI (M3 2 i0 7)) rfl ?_
    refine q_sI 53 [vI (M3 2 i0 7)] [] k_W_tell_53 rfl lk_2_97 rfl rfl rfl rfl rfl rfl (CallI.mono (fun y6 M5 h21 => ?_) h20)
    refine q_istore_n 56 k_W_tell_56 (ls' := [some (vR 2 i0), some (vI y4), some (vI y6)]) rfl rfl ?_
    refine q_aload_n 57 k_W_tell_57 rfl ?_
    refine q_getfield 58 k_W_tell_58 fk_2_24 o0 (v := vI (M5 2 i0 2)) rfl ?_
    refine q_if_ne 61 73 k_W_tell_61 rfl rfl (fun c61 => ?_) (fun c61 => ?_)
    · have h21t := h21.1 c61
      refine q_aload_n 73 k_W_tell_73 rfl ?_
      refine q_getfield 74 k_W_tell_74 fk_2_24 o0 (v := vI (M5 2 i0 2)) rfl ?_
      refine q_iconst 77 k_W_tell_77 ?_
      refine q_icmp_ne 78 105 k_W_tell_78 rfl rfl (fun c78 => ?_) (fun c78 => ?_)
      · have h21tt := h21t.1 c78
        refine q_aload_n 105 k_W_tell_105 rfl ?_
        refine q_iload_n 106 k_W_tell_106 rfl ?_
        refine q_bipush 107 k_W_tell_107 (by decide) ?_
        refine q_idiv 109 k_W_tell_109 (by decide) ?_
        refine q_iload_n 110 k_W_tell_110 rfl ?_
        refine q_bipush 111 k_W_tell_111 (by decide) ?_
        refine q_idiv 113 k_W_tell_113 (by decide) ?_
        refine q_bipush 114 k_W_tell_114 (by decide) ?_
        refine q_irem 116 k_W_tell_116 (by decide) ?_
        refine q_iload_n 117 k_W_tell_117 rfl ?_
        refine q_bipush 118 k_W_tell_118 (by decide) ?_
        refine q_irem 120 k_W_tell_120 (by decide) ?_
        refine q_vV 121 [vI (Int.tdiv (wI y6) (64)), vI (Int.tmod (wI (Int.tdiv (wI y6) (8))) (8)), vI (Int.tmod (wI y6) (8))] [] k_W_tell_121 lk_2_106 rfl rfl rfl o0 rfl rfl rfl rfl (CallV.mono (fun M7 h22 => ?_) h21tt)
        refine q_iload_n 124 k_W_tell_124 rfl ?_
        exact q_iret 125 k_W_tell_125 rfl h22
      · have h21tf := h21t.2 c78
        refine q_aload_n 81 k_W_tell_81 rfl ?_
        refine q_aload_n 82 k_W_tell_82 rfl ?_
        refine q_iload_n 83 k_W_tell_83 rfl ?_
        refine q_bipush 84 k_W_tell_84 (by decide) ?_
        refine q_idiv 86 k_W_tell_86 (by decide) ?_
        refine q_vI 87 [vI (Int.tdiv (wI y6) (64))] [vR 2 i0] k_W_tell_87 lk_2_103 rfl rfl rfl o0 rfl rfl rfl rfl (CallI.mono (fun y10 M9 h23 => ?_) h21tf)
        refine q_iload_n 90 k_W_tell_90 rfl ?_
        refine q_bipush 91 k_W_tell_91 (by decide) ?_
        refine q_idiv 93 k_W_tell_93 (by decide) ?_
        refine q_bipush 94 k_W_tell_94 (by decide) ?_
        refine q_irem 96 k_W_tell_96 (by decide) ?_
        refine q_iconst 97 k_W_tell_97 ?_
        refine q_iadd 98 k_W_tell_98 ?_
        refine q_vV 99 [vI y10, vI ((Int.tmod (wI (Int.tdiv (wI y6) (8))) (8)) + 1)] [] k_W_tell_99 lk_2_71 rfl rfl rfl o0 rfl rfl rfl rfl (CallV.mono (fun M11 h24 => ?_) h23)
        refine q_goto 102 124 k_W_tell_102 rfl rfl ?_
        refine q_iload_n 124 k_W_tell_124 rfl ?_
        exact q_iret 125 k_W_tell_125 rfl h24
    · have h21f := h21.2 c61
      refine q_aload_n 64 k_W_tell_64 rfl ?_
      refine q_iload_n 65 k_W_tell_65 rfl ?_
      refine q_iload_n 66 k_W_tell_66 rfl ?_
      refine q_vV 67 [vI y4, vI y6] [] k_W_tell_67 lk_2_100 rfl rfl rfl o0 rfl rfl rfl rfl (CallV.mono (fun M13 h25 => ?_) h21f)
      refine q_goto 70 124 k_W_tell_70 rfl rfl ?_
      refine q_iload_n 124 k_W_tell_124 rfl ?_
      exact q_iret 125 k_W_tell_125 rfl h25
  · have hf := h.2 c15
    refine q_aload_n 18 k_W_tell_18 rfl ?_
    refine q_vV 19 [] [] k_W_tell_19 lk_2_86 rfl rfl rfl o0 rfl rfl rfl rfl (CallV.mono (fun M15 h26 => ?_) hf)
    refine q_aload_n 22 k_W_tell_22 rfl ?_
    refine q_getfield 23 k_W_tell_23 fk_2_60 o0 (v := vI (M15 2 i0 7)) rfl ?_
    refine q_sI 26 [vI (M15 2 i0 7)] [] k_W_tell_26 rfl lk_2_89 rfl rfl rfl rfl rfl rfl (CallI.mono (fun y18 M17 h27 => ?_) h26)
    exact q_iret 29 k_W_tell_29 rfl h27
theorem k_W_tellBelow_0 : decode (mtC m_W_tellBelow) 0 = .ok (.iconst 0, 1) := by decide +kernel
theorem k_W_tellBelow_1 : decode (mtC m_W_tellBelow) 1 = .ok (.istore_n 3, 1) := by decide +kernel
theorem k_W_tellBelow_2 : decode (mtC m_W_tellBelow) 2 = .ok (.iload_n 3, 1) := by decide +kernel
theorem k_W_tellBelow_3 : decode (mtC m_W_tellBelow) 3 = .ok (.iload_n 2, 1) := by decide +kernel
theorem k_W_tellBelow_4 : decode (mtC m_W_tellBelow) 4 = .ok (.if_icmp .ge 29, 3) := by decide +kernel
theorem k_W_tellBelow_7 : decode (mtC m_W_tellBelow) 7 = .ok (.aload_n 0, 1) := by decide +kernel
theorem k_W_tellBelow_8 : decode (mtC m_W_tellBelow) 8 = .ok (.invokevirtual 109, 3) := by decide +kernel
theorem k_W_tellBelow_11 : decode (mtC m_W_tellBelow) 11 = .ok (.ifCond .ne 22, 3) := by decide +kernel
theorem k_W_tellBelow_14 : decode (mtC m_W_tellBelow) 14 = .ok (.aload_n 0, 1) := by decide +kernel
theorem k_W_tellBelow_15 : decode (mtC m_W_tellBelow) 15 = .ok (.invokevirtual 112, 3) := by decide +kernel
theorem k_W_tellBelow_18 : decode (mtC m_W_tellBelow) 18 = .ok (.iload_n 1, 1) := by decide +kernel
theorem k_W_tellBelow_19 : decode (mtC m_W_tellBelow) 19 = .ok (.if_icmp .ge 14, 3) := by decide +kernel
theorem k_W_tellBelow_22 : decode (mtC m_W_tellBelow) 22 = .ok (.aload_n 0, 1) := by decide +kernel
theorem k_W_tellBelow_23 : decode (mtC m_W_tellBelow) 23 = .ok (.invokevirtual 115, 3) := by decide +kernel
theorem k_W_tellBelow_26 : decode (mtC m_W_tellBelow) 26 = .ok (.pop, 1) := by decide +kernel
theorem k_W_tellBelow_27 : decode (mtC m_W_tellBelow) 27 = .ok (.iinc 3 1, 3) := by decide +kernel
theorem k_W_tellBelow_30 : decode (mtC m_W_tellBelow) 30 = .ok (.goto (-28), 3) := by decide +kernel
theorem k_W_tellBelow_33 : decode (mtC m_W_tellBelow) 33 = .ok (.iload_n 3, 1) := by decide +kernel
theorem k_W_tellBelow_34 : decode (mtC m_W_tellBelow) 34 = .ok (.ireturn, 1) := by decide +kernel
set_option maxHeartbeats 4000000 in
set_option maxRecDepth 100000 in
theorem T_W_tellBelow_0 {d : Nat} {i0 : Nat} {x1 : Int} {x2 : Int} {M : AMem} {Q : Option AV → AMem → Prop} (o0 : okH 2 i0 = true) (h : RunQ (d + 1) m_W_tellBelow 2 [some (vR 2 i0), some (vI x1), some (vI x2), some (vI 0)] [] M Q) : RunQ (d + 1) m_W_tellBelow 0 [some (vR 2 i0), some (vI x1), some (vI x2), none] [] M Q := by
  refine q_iconst 0 k_W_tellBelow_0 ?_
  refine q_istore_n 1 k_W_tellBelow_1 (ls' := [some (vR 2 i0), some (vI x1), some (vI x2), some (vI 0)]) rfl rfl ?_
  exact h
set_option maxHeartbeats 4000000 in
set_option maxRecDepth 100000 in
theorem T_W_tellBelow_2 {d : Nat} {i0 : Nat} {x1 : Int} {x2 : Int} {x3 : Int} {M : AMem} {Q : Option AV → AMem → Prop} (o0 : okH 2 i0 = true) (h : ((wI x2 ≤ wI x3) → Q (some (vI x3)) M) ∧ (¬ (wI x2 ≤ wI x3) → CallI d m_W_isDry [vR 2 i0] M (fun y2 M1 => ((¬ wI y2 = 0) → Q (some (vI x3)) M1) ∧ (¬ (¬ wI y2 = 0) → CallI d m_W_nextNumber [vR 2 i0] M1 (fun y4 M3 => ((wI x1 ≤ wI y4) → Q (some (vI x3)) M3) ∧ (¬ (wI x1 ≤ wI y4) → CallI d m_W_tell [vR 2 i0] M3 (fun y6 M5 => RunQ (d + 1) m_W_tellBelow 2 [some (vR 2 i0), some (vI x1), some (vI x2), some (vI (x3 + 1))] [] M5 Q))))))) : RunQ (d + 1) m_W_tellBelow 2 [some (vR 2 i0), some (vI x1), some (vI x2), some (vI x3)] [] M Q := by
  refine q_iload_n 2 k_W_tellBelow_2 rfl ?_
  refine q_iload_n 3 k_W_tellBelow_3 rfl ?_
  refine q_icmp_ge 4 33 k_W_tellBelow_4 rfl rfl (fun c4 => ?_) (fun c4 => ?_)
  · have ht := h.1 c4
    refine q_iload_n 33 k_W_tellBelow_33 rfl ?_
    exact q_iret 34 k_W_tellBelow_34 rfl ht
  · have hf := h.2 c4
    refine q_aload_n 7 k_W_tellBelow_7 rfl ?_
    refine q_vI 8 [] [] k_W_tellBelow_8 lk_2_109 rfl rfl rfl o0 rfl rfl rfl rfl (CallI.mono (fun y2 M1 h7 => ?_) hf)
    refine q_if_ne 11 33 k_W_tellBelow_11 rfl rfl (fun c11 => ?_) (fun c11 => ?_)
    · have h7t := h7.1 c11
      refine q_iload_n 33 k_W_tellBelow_33 rfl ?_
      exact q_iret 34 k_W_tellBelow_34 rfl h7t
    · have h7f := h7.2 c11
      refine q_aload_n 14 k_W_tellBelow_14 rfl ?_
      refine q_vI 15 [] [] k_W_tellBelow_15 lk_2_112 rfl rfl rfl o0 rfl rfl rfl rfl (CallI.mono (fun y4 M3 h8 => ?_) h7f)
      refine q_iload_n 18 k_W_tellBelow_18 rfl ?_
      refine q_icmp_ge 19 33 k_W_tellBelow_19 rfl rfl (fun c19 => ?_) (fun c19 => ?_)
      · have h8t := h8.1 c19
        refine q_iload_n 33 k_W_tellBelow_33 rfl ?_
        exact q_iret 34 k_W_tellBelow_34 rfl h8t
      · have h8f := h8.2 c19
        refine q_aload_n 22 k_W_tellBelow_22 rfl ?_
        refine q_vI 23 [] [] k_W_tellBelow_23 lk_2_115 rfl rfl rfl o0 rfl rfl rfl rfl (CallI.mono (fun y6 M5 h9 => ?_) h8f)
        refine q_pop 26 k_W_tellBelow_26 rfl ?_
        refine q_iinc 27 k_W_tellBelow_27 (ls' := [some (vR 2 i0), some (vI x1), some (vI x2), some (vI (x3 + 1))]) rfl rfl rfl ?_
        refine q_goto 30 2 k_W_tellBelow_30 rfl rfl ?_
        exact h9
theorem k_W_tellPrime_0 : decode (mtC m_W_tellPrime) 0 = .ok (.aload_n 0, 1) := by decide +kernel
theorem k_W_tellPrime_1 : decode (mtC m_W_tellPrime) 1 = .ok (.invokevirtual 112, 3) := by decide +kernel
theorem k_W_tellPrime_4 : decode (mtC m_W_tellPrime) 4 = .ok (.istore_n 1, 1) := by decide +kernel
theorem k_W_tellPrime_5 : decode (mtC m_W_tellPrime) 5 = .ok (.iconst 0, 1) := by decide +kernel
theorem k_W_tellPrime_6 : decode (mtC m_W_tellPrime) 6 = .ok (.istore_n 2, 1) := by decide +kernel
theorem k_W_tellPrime_7 : decode (mtC m_W_tellPrime) 7 = .ok (.iload_n 2, 1) := by decide +kernel
theorem k_W_tellPrime_8 : decode (mtC m_W_tellPrime) 8 = .ok (.ldc 118, 2) := by decide +kernel
theorem k_W_tellPrime_10 : decode (mtC m_W_tellPrime) 10 = .ok (.if_icmp .ge 55, 3) := by decide +kernel
theorem k_W_tellPrime_13 : decode (mtC m_W_tellPrime) 13 = .ok (.aload_n 0, 1) := by decide +kernel
theorem k_W_tellPrime_14 : decode (mtC m_W_tellPrime) 14 = .ok (.getfield 20, 3) := by decide +kernel
theorem k_W_tellPrime_17 : decode (mtC m_W_tellPrime) 17 = .ok (.getfield 51, 3) := by decide +kernel
theorem k_W_tellPrime_20 : decode (mtC m_W_tellPrime) 20 = .ok (.ifCond .le 45, 3) := by decide +kernel
theorem k_W_tellPrime_23 : decode (mtC m_W_tellPrime) 23 = .ok (.aload_n 0, 1) := by decide +kernel
theorem k_W_tellPrime_24 : decode (mtC m_W_tellPrime) 24 = .ok (.getfield 20, 3) := by decide +kernel
theorem k_W_tellPrime_27 : decode (mtC m_W_tellPrime) 27 = .ok (.invokevirtual 119, 3) := by decide +kernel
theorem k_W_tellPrime_30 : decode (mtC m_W_tellPrime) 30 = .ok (.iload_n 1, 1) := by decide +kernel
theorem k_W_tellPrime_31 : decode (mtC m_W_tellPrime) 31 = .ok (.if_icmp .gt 34, 3) := by decide +kernel
theorem k_W_tellPrime_34 : decode (mtC m_W_tellPrime) 34 = .ok (.aload_n 0, 1) := by decide +kernel
theorem k_W_tellPrime_35 : decode (mtC m_W_tellPrime) 35 = .ok (.getfield 20, 3) := by decide +kernel
theorem k_W_tellPrime_38 : decode (mtC m_W_tellPrime) 38 = .ok (.invokevirtual 93, 3) := by decide +kernel
theorem k_W_tellPrime_41 : decode (mtC m_W_tellPrime) 41 = .ok (.istore_n 3, 1) := by decide +kernel
theorem k_W_tellPrime_42 : decode (mtC m_W_tellPrime) 42 = .ok (.aload_n 0, 1) := by decide +kernel
theorem k_W_tellPrime_43 : decode (mtC m_W_tellPrime) 43 = .ok (.getfield 20, 3) := by decide +kernel
theorem k_W_tellPrime_46 : decode (mtC m_W_tellPrime) 46 = .ok (.iload_n 3, 1) := by decide +kernel
theorem k_W_tellPrime_47 : decode (mtC m_W_tellPrime) 47 = .ok (.iload_n 3, 1) := by decide +kernel
theorem k_W_tellPrime_48 : decode (mtC m_W_tellPrime) 48 = .ok (.invokestatic 97, 3) := by decide +kernel
theorem k_W_tellPrime_51 : decode (mtC m_W_tellPrime) 51 = .ok (.iconst 0, 1) := by decide +kernel
theorem k_W_tellPrime_52 : decode (mtC m_W_tellPrime) 52 = .ok (.invokestatic 63, 3) := by decide +kernel
theorem k_W_tellPrime_55 : decode (mtC m_W_tellPrime) 55 = .ok (.iadd, 1) := by decide +kernel
theorem k_W_tellPrime_56 : decode (mtC m_W_tellPrime) 56 = .ok (.invokevirtual 67, 3) := by decide +kernel
theorem k_W_tellPrime_59 : decode (mtC m_W_tellPrime) 59 = .ok (.iinc 2 1, 3) := by decide +kernel
theorem k_W_tellPrime_62 : decode (mtC m_W_tellPrime) 62 = .ok (.goto (-55), 3) := by decide +kernel
theorem k_W_tellPrime_65 : decode (mtC m_W_tellPrime) 65 = .ok (.aload_n 0, 1) := by decide +kernel
theorem k_W_tellPrime_66 : decode (mtC m_W_tellPrime) 66 = .ok (.iload_n 1, 1) := by decide +kernel
theorem k_W_tellPrime_67 : decode (mtC m_W_tellPrime) 67 = .ok (.iload_n 1, 1) := by decide +kernel
theorem k_W_tellPrime_68 : decode (mtC m_W_tellPrime) 68 = .ok (.invokestatic 63, 3) := by decide +kernel
theorem k_W_tellPrime_71 : decode (mtC m_W_tellPrime) 71 = .ok (.putfield 60, 3) := by decide +kernel
theorem k_W_tellPrime_74 : decode (mtC m_W_tellPrime) 74 = .ok (.aload_n 0, 1) := by decide +kernel
theorem k_W_tellPrime_75 : decode (mtC m_W_tellPrime) 75 = .ok (.getfield 20, 3) := by decide +kernel
theorem k_W_tellPrime_78 : decode (mtC m_W_tellPrime) 78 = .ok (.iload_n 1, 1) := by decide +kernel
theorem k_W_tellPrime_79 : decode (mtC m_W_tellPrime) 79 = .ok (.iload_n 1, 1) := by decide +kernel
theorem k_W_tellPrime_80 : decode (mtC m_W_tellPrime) 80 = .ok (.imul, 1) := by decide +kernel
theorem k_W_tellPrime_81 : decode (mtC m_W_tellPrime) 81 = .ok (.iload_n 1, 1) := by decide +kernel
theorem k_W_tellPrime_82 : decode (mtC m_W_tellPrime) 82 = .ok (.invokestatic 63, 3) := by decide +kernel
theorem k_W_tellPrime_85 : decode (mtC m_W_tellPrime) 85 = .ok (.invokevirtual 67, 3) := by decide +kernel
theorem k_W_tellPrime_88 : decode (mtC m_W_tellPrime) 88 = .ok (.return_, 1) := by decide +kernel
set_option maxHeartbeats 4000000 in
set_option maxRecDepth 100000 in
theorem T_W_tellPrime_0 {d : Nat} {i0 : Nat} {M : AMem} {Q : Option AV → AMem → Prop} (o0 : okH 2 i0 = true) (h : CallI d m_W_nextNumber [vR 2 i0] M (fun y2 M1 => RunQ (d + 1) m_W_tellPrime 7 [some (vR 2 i0), some (vI y2), some (vI 0), none] [] M1 Q)) : RunQ (d + 1) m_W_tellPrime 0 [some (vR 2 i0), none, none, none] [] M Q := by
  refine q_aload_n 0 k_W_tellPrime_0 rfl ?_
  refine q_vI 1 [] [] k_W_tellPrime_1 lk_2_112 rfl rfl rfl o0 rfl rfl rfl rfl (CallI.mono (fun y2 M1 h3 => ?_) h)
  refine q_istore_n 4 k_W_tellPrime_4 (ls' := [some (vR 2 i0), some (vI y2), none, none]) rfl rfl ?_
  refine q_iconst 5 k_W_tellPrime_5 ?_
  refine q_istore_n 6 k_W_tellPrime_6 (ls' := [some (vR 2 i0), some (vI y2), some (vI 0), none]) rfl rfl ?_
  exact h3
set_option maxHeartbeats 4000000 in
set_option maxRecDepth 100000 in
theorem T_W_tellPrime_7 {d : Nat} {i0 : Nat} {x1 : Int} {x2 : Int} {u3 : Option AV} {M : AMem} {Q : Option AV → AMem → Prop} (o0 : okH 2 i0 = true) (h : ((1000000 ≤ wI x2) → CallI d m_Q_keyOf [vI x1, vI x1] M (fun y2 M1 => CallI d m_Q_keyOf [vI (x1 * x1), vI x1] (aup M1 2 i0 7 y2) (fun y4 M3 => CallV d m_Q_push [vR 0 i0, vI y4] M3 (fun M5 => Q none M5)))) ∧ (¬ (1000000 ≤ wI x2) → ((wI (M 0 i0 1) ≤ 0) → CallI d m_Q_keyOf [vI x1, vI x1] M (fun y8 M7 => CallI d m_Q_keyOf [vI (x1 * x1), vI x1] (aup M7 2 i0 7 y8) (fun y10 M9 => CallV d m_Q_push [vR 0 i0, vI y10] M9 (fun M11 => Q none M11)))) ∧ (¬ (wI (M 0 i0 1) ≤ 0) → CallI d m_Q_firstNumber [vR 0 i0] M (fun y14 M13 => ((wI x1 < wI y14) → CallI d m_Q_keyOf [vI x1, vI x1] M13 (fun y16 M15 => CallI d m_Q_keyOf [vI (x1 * x1), vI x1] (aup M15 2 i0 7 y16) (fun y18 M17 => CallV d m_Q_push [vR 0 i0, vI y18] M17 (fun M19 => Q none M19)))) ∧ (¬ (wI x1 < wI y14) → CallI d m_Q_pop [vR 0 i0] M13 (fun y22 M21 => CallI d m_Q_tagOf [vI y22] M21 (fun y24 M23 => CallI d m_Q_keyOf [vI y24, vI 0] M23 (fun y26 M25 => CallV d m_Q_push [vR 0 i0, vI (y22 + y26)] M25 (fun M27 => RunQ (d + 1) m_W_tellPrime 7 [some (vR 2 i0), some (vI x1), some (vI (x2 + 1)), some (vI y22)] [] M27 Q))))))))) : RunQ (d + 1) m_W_tellPrime 7 [some (vR 2 i0), some (vI x1), some (vI x2), u3] [] M Q := by
  refine q_iload_n 7 k_W_tellPrime_7 rfl ?_
  refine q_ldc 8 k_W_tellPrime_8 ck_2_118 ?_
  refine q_icmp_ge 10 65 k_W_tellPrime_10 rfl rfl (fun c10 => ?_) (fun c10 => ?_)
  · have ht := h.1 c10
    refine q_aload_n 65 k_W_tellPrime_65 rfl ?_
    refine q_iload_n 66 k_W_tellPrime_66 rfl ?_
    refine q_iload_n 67 k_W_tellPrime_67 rfl ?_
    refine q_sI 68 [vI x1, vI x1] [vR 2 i0] k_W_tellPrime_68 rfl lk_2_63 rfl rfl rfl rfl rfl rfl (CallI.mono (fun y2 M1 h29 => ?_) ht)
    refine q_putfield 71 k_W_tellPrime_71 fk_2_60 o0 rfl (fun z => absurd z (by decide)) ?_
    refine q_aload_n 74 k_W_tellPrime_74 rfl ?_
    refine q_getfield 75 k_W_tellPrime_75 fk_2_20 o0 (v := vR 0 i0) rfl ?_
    refine q_iload_n 78 k_W_tellPrime_78 rfl ?_
    refine q_iload_n 79 k_W_tellPrime_79 rfl ?_
    refine q_imul 80 k_W_tellPrime_80 ?_
    refine q_iload_n 81 k_W_tellPrime_81 rfl ?_
    refine q_sI 82 [vI (x1 * x1), vI x1] [vR 0 i0] k_W_tellPrime_82 rfl lk_2_63 rfl rfl rfl rfl rfl rfl (CallI.mono (fun y4 M3 h30 => ?_) h29)
    refine q_vV 85 [vI y4] [] k_W_tellPrime_85 lk_2_67 rfl rfl rfl o0 rfl rfl rfl rfl (CallV.mono (fun M5 h31 => ?_) h30)
    exact q_vret 88 k_W_tellPrime_88 rfl h31
  · have hf := h.2 c10
    refine q_aload_n 13 k_W_tellPrime_13 rfl ?_
    refine q_getfield 14 k_W_tellPrime_14 fk_2_20 o0 (v := vR 0 i0) rfl ?_
    refine q_getfield 17 k_W_tellPrime_17 fk_2_51 o0 (v := vI (M 0 i0 1)) rfl ?_
    refine q_if_le 20 65 k_W_tellPrime_20 rfl rfl (fun c20 => ?_) (fun c20 => ?_)
    · have hft := hf.1 c20
      refine q_aload_n 65 k_W_tellPrime_65 rfl ?_
      refine q_iload_n 66 k_W_tellPrime_66 rfl ?_
      refine q_iload_n 67 k_W_tellPrime_67 rfl ?_
      refine q_sI 68 [vI x1, vI x1] [vR 2 i0] k_W_tellPrime_68 rfl lk_2_63 rfl rfl rfl rfl rfl rfl (CallI.mono (fun y8 M7 h32 => ?_) hft)
      refine q_putfield 71 k_W_tellPrime_71 fk_2_60 o0 rfl (fun z => absurd z (by decide)) ?_
      refine q_aload_n 74 k_W_tellPrime_74 rfl ?_
      refine q_getfield 75 k_W_tellPrime_75 fk_2_20 o0 (v := vR 0 i0) rfl ?_
      refine q_iload_n 78 k_W_tellPrime_78 rfl ?_
      refine q_iload_n 79 k_W_tellPrime_79 rfl ?_
      refine q_imul 80 k_W_tellPrime_80 ?_
      refine q_iload_n 81 k_W_tellPrime_81 rfl ?_
      refine q_sI 82 [vI (x1 * x1), vI x1] [vR 0 i0] k_W_tellPrime_82 rfl lk_2_63 rfl rfl rfl rfl rfl rfl (CallI.mono (fun y10 M9 h33 => ?_) h32)
      refine q_vV 85 [vI y10] [] k_W_tellPrime_85 lk_2_67 rfl rfl rfl o0 rfl rfl rfl rfl (CallV.mono (fun M11 h34 => ?_) h33)
      exact q_vret 88 k_W_tellPrime_88 rfl h34
    · have hff := hf.2 c20
      refine q_aload_n 23 k_W_tellPrime_23 rfl ?_
      refine q_getfield 24 k_W_tellPrime_24 fk_2_20 o0 (v := vR 0 i0) rfl ?_
      refine q_vI 27 [] [] k_W_tellPrime_27 lk_2_119 rfl rfl rfl o0 rfl rfl rfl rfl (CallI.mono (fun y14 M13 h35 => ?_) hff)
      refine q_iload_n 30 k_W_tellPrime_30 rfl ?_
      refine q_icmp_gt 31 65 k_W_tellPrime_31 rfl rfl (fun c31 => ?_) (fun c31 => ?_)
      · have h35t := h35.1 c31
        refine q_aload_n 65 k_W_tellPrime_65 rfl ?_
        refine q_iload_n 66 k_W_tellPrime_66 rfl ?_
        refine q_iload_n 67 k_W_tellPrime_67 rfl ?_
        refine q_sI 68 [vI x1, vI x1] [vR 2 i0] k_W_tellPrime_68 rfl lk_2_63 rfl rfl rfl rfl rfl rfl (CallI.mono (fun y16 M15 h36 => ?_) h35t)
        refine q_putfield 71 k_W_tellPrime_71 fk_2_60 o0 rfl (fun z => absurd z (by decide)) ?_
        refine q_aload_n 74 k_W_tellPrime_74 rfl ?_
        refine q_getfield 75 k_W_tellPrime_75 fk_2_20 o0 (v := vR 0 i0) rfl ?_
        refine q_iload_n 78 k_W_tellPrime_78 rfl ?_
        refine q_iload_n 79 k_W_tellPrime_79 rfl ?_
        refine q_imul 80 k_W_tellPrime_80 ?_
        refine q_iload_n 81 k_W_tellPrime_81 rfl ?_
        refine q_sI 82 [vI (x1 * x1), vI x1] [vR 0 i0] k_W_tellPrime_82 rfl lk_2_63 rfl rfl rfl rfl rfl rfl (CallI.mono (fun y18 M17 h37 => ?_) h36)
        refine q_vV 85 [vI y18] [] k_W_tellPrime_85 lk_2_67 rfl rfl rfl o0 rfl rfl rfl rfl (CallV.mono (fun M19 h38 => ?_) h37)
        exact q_vret 88 k_W_tellPrime_88 rfl h38
      · have h35f := h35.2 c31
        refine q_aload_n 34 k_W_tellPrime_34 rfl ?_
        refine q_getfield 35 k_W_tellPrime_35 fk_2_20 o0 (v := vR 0 i0) rfl ?_
        refine q_vI 38 [] [] k_W_tellPrime_38 lk_2_93 rfl rfl rfl o0 rfl rfl rfl rfl (CallI.mono (fun y22 M21 h39 => ?_) h35f)
        refine q_istore_n 41 k_W_tellPrime_41 (ls' := [some (vR 2 i0), some (vI x1), some (vI x2), some (vI y22)]) rfl rfl ?_
        refine q_aload_n 42 k_W_tellPrime_42 rfl ?_
        refine q_getfield 43 k_W_tellPrime_43 fk_2_20 o0 (v := vR 0 i0) rfl ?_
        refine q_iload_n 46 k_W_tellPrime_46 rfl ?_
        refine q_iload_n 47 k_W_tellPrime_47 rfl ?_
        refine q_sI 48 [vI y22] [vI y22, vR 0 i0] k_W_tellPrime_48 rfl lk_2_97 rfl rfl rfl rfl rfl rfl (CallI.mono (fun y24 M23 h40 => ?_) h39)
        refine q_iconst 51 k_W_tellPrime_51 ?_
        refine q_sI 52 [vI y24, vI 0] [vI y22, vR 0 i0] k_W_tellPrime_52 rfl lk_2_63 rfl rfl rfl rfl rfl rfl (CallI.mono (fun y26 M25 h41 => ?_) h40)
        refine q_iadd 55 k_W_tellPrime_55 ?_
        refine q_vV 56 [vI (y22 + y26)] [] k_W_tellPrime_56 lk_2_67 rfl rfl rfl o0 rfl rfl rfl rfl (CallV.mono (fun M27 h42 => ?_) h41)
        refine q_iinc 59 k_W_tellPrime_59 (ls' := [some (vR 2 i0), some (vI x1), some (vI (x2 + 1)), some (vI y22)]) rfl rfl rfl ?_
        refine q_goto 62 7 k_W_tellPrime_62 rfl rfl ?_
        exact h42
theorem k_W_offerProducts_0 : decode (mtC m_W_offerProducts) 0 = .ok (.iload_n 2, 1) := by decide +kernel
theorem k_W_offerProducts_1 : decode (mtC m_W_offerProducts) 1 = .ok (.iconst 0, 1) := by decide +kernel
theorem k_W_offerProducts_2 : decode (mtC m_W_offerProducts) 2 = .ok (.invokestatic 122, 3) := by decide +kernel
theorem k_W_offerProducts_5 : decode (mtC m_W_offerProducts) 5 = .ok (.istore_n 3, 1) := by decide +kernel
theorem k_W_offerProducts_6 : decode (mtC m_W_offerProducts) 6 = .ok (.iload_n 3, 1) := by decide +kernel
theorem k_W_offerProducts_7 : decode (mtC m_W_offerProducts) 7 = .ok (.getstatic 127, 3) := by decide +kernel
theorem k_W_offerProducts_10 : decode (mtC m_W_offerProducts) 10 = .ok (.arraylength, 1) := by decide +kernel
theorem k_W_offerProducts_11 : decode (mtC m_W_offerProducts) 11 = .ok (.if_icmp .ge 50, 3) := by decide +kernel
theorem k_W_offerProducts_14 : decode (mtC m_W_offerProducts) 14 = .ok (.aload_n 0, 1) := by decide +kernel
theorem k_W_offerProducts_15 : decode (mtC m_W_offerProducts) 15 = .ok (.getfield 41, 3) := by decide +kernel
theorem k_W_offerProducts_18 : decode (mtC m_W_offerProducts) 18 = .ok (.iload_n 3, 1) := by decide +kernel
theorem k_W_offerProducts_19 : decode (mtC m_W_offerProducts) 19 = .ok (.invokestatic 131, 3) := by decide +kernel
theorem k_W_offerProducts_22 : decode (mtC m_W_offerProducts) 22 = .ok (.ifCond .eq 33, 3) := by decide +kernel
theorem k_W_offerProducts_25 : decode (mtC m_W_offerProducts) 25 = .ok (.iload_n 1, 1) := by decide +kernel
theorem k_W_offerProducts_26 : decode (mtC m_W_offerProducts) 26 = .ok (.getstatic 127, 3) := by decide +kernel
theorem k_W_offerProducts_29 : decode (mtC m_W_offerProducts) 29 = .ok (.iload_n 3, 1) := by decide +kernel
theorem k_W_offerProducts_30 : decode (mtC m_W_offerProducts) 30 = .ok (.iaload, 1) := by decide +kernel
theorem k_W_offerProducts_31 : decode (mtC m_W_offerProducts) 31 = .ok (.imul, 1) := by decide +kernel
theorem k_W_offerProducts_32 : decode (mtC m_W_offerProducts) 32 = .ok (.ldc 135, 2) := by decide +kernel
theorem k_W_offerProducts_34 : decode (mtC m_W_offerProducts) 34 = .ok (.if_icmp .gt 21, 3) := by decide +kernel
theorem k_W_offerProducts_37 : decode (mtC m_W_offerProducts) 37 = .ok (.aload_n 0, 1) := by decide +kernel
theorem k_W_offerProducts_38 : decode (mtC m_W_offerProducts) 38 = .ok (.getfield 20, 3) := by decide +kernel
theorem k_W_offerProducts_41 : decode (mtC m_W_offerProducts) 41 = .ok (.iload_n 1, 1) := by decide +kernel
theorem k_W_offerProducts_42 : decode (mtC m_W_offerProducts) 42 = .ok (.getstatic 127, 3) := by decide +kernel
theorem k_W_offerProducts_45 : decode (mtC m_W_offerProducts) 45 = .ok (.iload_n 3, 1) := by decide +kernel
theorem k_W_offerProducts_46 : decode (mtC m_W_offerProducts) 46 = .ok (.iaload, 1) := by decide +kernel
theorem k_W_offerProducts_47 : decode (mtC m_W_offerProducts) 47 = .ok (.imul, 1) := by decide +kernel
theorem k_W_offerProducts_48 : decode (mtC m_W_offerProducts) 48 = .ok (.iload_n 3, 1) := by decide +kernel
theorem k_W_offerProducts_49 : decode (mtC m_W_offerProducts) 49 = .ok (.invokestatic 63, 3) := by decide +kernel
theorem k_W_offerProducts_52 : decode (mtC m_W_offerProducts) 52 = .ok (.invokevirtual 67, 3) := by decide +kernel
theorem k_W_offerProducts_55 : decode (mtC m_W_offerProducts) 55 = .ok (.iinc 3 1, 3) := by decide +kernel
theorem k_W_offerProducts_58 : decode (mtC m_W_offerProducts) 58 = .ok (.goto (-52), 3) := by decide +kernel
theorem k_W_offerProducts_61 : decode (mtC m_W_offerProducts) 61 = .ok (.return_, 1) := by decide +kernel
set_option maxHeartbeats 4000000 in
set_option maxRecDepth 100000 in
theorem T_W_offerProducts_0 {d : Nat} {i0 : Nat} {x1 : Int} {x2 : Int} {M : AMem} {Q : Option AV → AMem → Prop} (o0 : okH 2 i0 = true) (h : RunQ (d + 1) m_W_offerProducts 6 [some (vR 2 i0), some (vI x1), some (vI x2), some (vI (if wI x2 < 0 then 0 else x2))] [] M Q) : RunQ (d + 1) m_W_offerProducts 0 [some (vR 2 i0), some (vI x1), some (vI x2), none] [] M Q := by
  refine q_iload_n 0 k_W_offerProducts_0 rfl ?_
  refine q_iconst 1 k_W_offerProducts_1 ?_
  refine q_max 2 k_W_offerProducts_2 rfl rfl ?_
  refine q_istore_n 5 k_W_offerProducts_5 (ls' := [some (vR 2 i0), some (vI x1), some (vI x2), some (vI (if wI x2 < 0 then 0 else x2))]) rfl rfl ?_
  exact h
set_option maxHeartbeats 4000000 in
set_option maxRecDepth 100000 in
theorem T_W_offerProducts_6 {d : Nat} {i0 : Nat} {x1 : Int} {x2 : Int} {x3 : Int} {M : AMem} {Q : Option AV → AMem → Prop} (o0 : okH 2 i0 = true) (h : ((6 ≤ wI x3) → Q none M) ∧ (¬ (6 ≤ wI x3) → CallI d m_W_isMember [vI (M 2 i0 3), vI x3] M (fun y2 M1 => ((wI y2 = 0) → RunQ (d + 1) m_W_offerProducts 6 [some (vR 2 i0), some (vI x1), some (vI x2), some (vI (x3 + 1))] [] M1 Q) ∧ (¬ (wI y2 = 0) → (0 ≤ wI x3 ∧ wI x3 < (6 : Nat)) ∧ (((100000 < wI (x1 * (bas (wI x3).toNat))) → RunQ (d + 1) m_W_offerProducts 6 [some (vR 2 i0), some (vI x1), some (vI x2), some (vI (x3 + 1))] [] M1 Q) ∧ (¬ (100000 < wI (x1 * (bas (wI x3).toNat))) → (0 ≤ wI x3 ∧ wI x3 < (6 : Nat)) ∧ (CallI d m_Q_keyOf [vI (x1 * (bas (wI x3).toNat)), vI x3] M1 (fun y6 M5 => CallV d m_Q_push [vR 0 i0, vI y6] M5 (fun M7 => RunQ (d + 1) m_W_offerProducts 6 [some (vR 2 i0), some (vI x1), some (vI x2), some (vI (x3 + 1))] [] M7 Q))))))))) : RunQ (d + 1) m_W_offerProducts 6 [some (vR 2 i0), some (vI x1), some (vI x2), some (vI x3)] [] M Q := by
  refine q_iload_n 6 k_W_offerProducts_6 rfl ?_
  refine q_getstatic 7 k_W_offerProducts_7 (a := 10) rfl ?_
  refine q_alen 10 k_W_offerProducts_10 rfl rfl (z := 6) rfl ?_
  refine q_icmp_ge 11 61 k_W_offerProducts_11 rfl rfl (fun c11 => ?_) (fun c11 => ?_)
  · have ht := h.1 c11
    exact q_vret 61 k_W_offerProducts_61 rfl ht
  · have hf := h.2 c11
    refine q_aload_n 14 k_W_offerProducts_14 rfl ?_
    refine q_getfield 15 k_W_offerProducts_15 fk_2_41 o0 (v := vI (M 2 i0 3)) rfl ?_
    refine q_iload_n 18 k_W_offerProducts_18 rfl ?_
    refine q_sI 19 [vI (M 2 i0 3), vI x3] [] k_W_offerProducts_19 rfl lk_2_131 rfl rfl rfl rfl rfl rfl (CallI.mono (fun y2 M1 h9 => ?_) hf)
    refine q_if_eq 22 55 k_W_offerProducts_22 rfl rfl (fun c22 => ?_) (fun c22 => ?_)
    · have h9t := h9.1 c22
      refine q_iinc 55 k_W_offerProducts_55 (ls' := [some (vR 2 i0), some (vI x1), some (vI x2), some (vI (x3 + 1))]) rfl rfl rfl ?_
      refine q_goto 58 6 k_W_offerProducts_58 rfl rfl ?_
      exact h9t
    · have h9f := h9.2 c22
      refine q_iload_n 25 k_W_offerProducts_25 rfl ?_
      refine q_getstatic 26 k_W_offerProducts_26 (a := 10) rfl ?_
      refine q_iload_n 29 k_W_offerProducts_29 rfl ?_
      have hb3 := h9f.1
      refine q_iaload 30 k_W_offerProducts_30 rfl (n := 6) rfl hb3 (z := (bas (wI x3).toNat)) rfl ?_
      have h9f' := h9f.2
      refine q_imul 31 k_W_offerProducts_31 ?_
      refine q_ldc 32 k_W_offerProducts_32 ck_2_135 ?_
      refine q_icmp_gt 34 55 k_W_offerProducts_34 rfl rfl (fun c34 => ?_) (fun c34 => ?_)
      · have h9f't := h9f'.1 c34
        refine q_iinc 55 k_W_offerProducts_55 (ls' := [some (vR 2 i0), some (vI x1), some (vI x2), some (vI (x3 + 1))]) rfl rfl rfl ?_
        refine q_goto 58 6 k_W_offerProducts_58 rfl rfl ?_
        exact h9f't
      · have h9f'f := h9f'.2 c34
        refine q_aload_n 37 k_W_offerProducts_37 rfl ?_
        refine q_getfield 38 k_W_offerProducts_38 fk_2_20 o0 (v := vR 0 i0) rfl ?_
        refine q_iload_n 41 k_W_offerProducts_41 rfl ?_
        refine q_getstatic 42 k_W_offerProducts_42 (a := 10) rfl ?_
        refine q_iload_n 45 k_W_offerProducts_45 rfl ?_
        have hb4 := h9f'f.1
        refine q_iaload 46 k_W_offerProducts_46 rfl (n := 6) rfl hb4 (z := (bas (wI x3).toNat)) rfl ?_
        have h9f'f' := h9f'f.2
        refine q_imul 47 k_W_offerProducts_47 ?_
        refine q_iload_n 48 k_W_offerProducts_48 rfl ?_
        refine q_sI 49 [vI (x1 * (bas (wI x3).toNat)), vI x3] [vR 0 i0] k_W_offerProducts_49 rfl lk_2_63 rfl rfl rfl rfl rfl rfl (CallI.mono (fun y6 M5 h10 => ?_) h9f'f')
        refine q_vV 52 [vI y6] [] k_W_offerProducts_52 lk_2_67 rfl rfl rfl o0 rfl rfl rfl rfl (CallV.mono (fun M7 h11 => ?_) h10)
        refine q_iinc 55 k_W_offerProducts_55 (ls' := [some (vR 2 i0), some (vI x1), some (vI x2), some (vI (x3 + 1))]) rfl rfl rfl ?_
        refine q_goto 58 6 k_W_offerProducts_58 rfl rfl ?_
        exact h11
theorem k_W_offerNeighbours_0 : decode (mtC m_W_offerNeighbours) 0 = .ok (.aload_n 0, 1) := by decide +kernel
theorem k_W_offerNeighbours_1 : decode (mtC m_W_offerNeighbours) 1 = .ok (.iload_n 1, 1) := by decide +kernel
theorem k_W_offerNeighbours_2 : decode (mtC m_W_offerNeighbours) 2 = .ok (.iload_n 2, 1) := by decide +kernel
theorem k_W_offerNeighbours_3 : decode (mtC m_W_offerNeighbours) 3 = .ok (.iload_n 3, 1) := by decide +kernel
theorem k_W_offerNeighbours_4 : decode (mtC m_W_offerNeighbours) 4 = .ok (.iconst 1, 1) := by decide +kernel
theorem k_W_offerNeighbours_5 : decode (mtC m_W_offerNeighbours) 5 = .ok (.iadd, 1) := by decide +kernel
theorem k_W_offerNeighbours_6 : decode (mtC m_W_offerNeighbours) 6 = .ok (.invokevirtual 79, 3) := by decide +kernel
theorem k_W_offerNeighbours_9 : decode (mtC m_W_offerNeighbours) 9 = .ok (.iload_n 3, 1) := by decide +kernel
theorem k_W_offerNeighbours_10 : decode (mtC m_W_offerNeighbours) 10 = .ok (.ifCond .ne 25, 3) := by decide +kernel
theorem k_W_offerNeighbours_13 : decode (mtC m_W_offerNeighbours) 13 = .ok (.aload_n 0, 1) := by decide +kernel
theorem k_W_offerNeighbours_14 : decode (mtC m_W_offerNeighbours) 14 = .ok (.iload_n 1, 1) := by decide +kernel
theorem k_W_offerNeighbours_15 : decode (mtC m_W_offerNeighbours) 15 = .ok (.iload_n 2, 1) := by decide +kernel
theorem k_W_offerNeighbours_16 : decode (mtC m_W_offerNeighbours) 16 = .ok (.iconst 1, 1) := by decide +kernel
theorem k_W_offerNeighbours_17 : decode (mtC m_W_offerNeighbours) 17 = .ok (.iadd, 1) := by decide +kernel
theorem k_W_offerNeighbours_18 : decode (mtC m_W_offerNeighbours) 18 = .ok (.iconst 0, 1) := by decide +kernel
theorem k_W_offerNeighbours_19 : decode (mtC m_W_offerNeighbours) 19 = .ok (.invokevirtual 79, 3) := by decide +kernel
theorem k_W_offerNeighbours_22 : decode (mtC m_W_offerNeighbours) 22 = .ok (.iload_n 2, 1) := by decide +kernel
theorem k_W_offerNeighbours_23 : decode (mtC m_W_offerNeighbours) 23 = .ok (.ifCond .ne 12, 3) := by decide +kernel
theorem k_W_offerNeighbours_26 : decode (mtC m_W_offerNeighbours) 26 = .ok (.aload_n 0, 1) := by decide +kernel
theorem k_W_offerNeighbours_27 : decode (mtC m_W_offerNeighbours) 27 = .ok (.iload_n 1, 1) := by decide +kernel
theorem k_W_offerNeighbours_28 : decode (mtC m_W_offerNeighbours) 28 = .ok (.iconst 1, 1) := by decide +kernel
theorem k_W_offerNeighbours_29 : decode (mtC m_W_offerNeighbours) 29 = .ok (.iadd, 1) := by decide +kernel
theorem k_W_offerNeighbours_30 : decode (mtC m_W_offerNeighbours) 30 = .ok (.iconst 0, 1) := by decide +kernel
theorem k_W_offerNeighbours_31 : decode (mtC m_W_offerNeighbours) 31 = .ok (.iconst 0, 1) := by decide +kernel
theorem k_W_offerNeighbours_32 : decode (mtC m_W_offerNeighbours) 32 = .ok (.invokevirtual 79, 3) := by decide +kernel
theorem k_W_offerNeighbours_35 : decode (mtC m_W_offerNeighbours) 35 = .ok (.return_, 1) := by decide +kernel
set_option maxHeartbeats 4000000 in
set_option maxRecDepth 100000 in
theorem T_W_offerNeighbours_0 {d : Nat} {i0 : Nat} {x1 : Int} {x2 : Int} {x3 : Int} {M : AMem} {Q : Option AV → AMem → Prop} (o0 : okH 2 i0 = true) (h : CallV d m_W_offerOfGrid [vR 2 i0, vI x1, vI x2, vI (x3 + 1)] M (fun M1 => ((¬ wI x3 = 0) → Q none M1) ∧ (¬ (¬ wI x3 = 0) → CallV d m_W_offerOfGrid [vR 2 i0, vI x1, vI (x2 + 1), vI 0] M1 (fun M3 => ((¬ wI x2 = 0) → Q none M3) ∧ (¬ (¬ wI x2 = 0) → CallV d m_W_offerOfGrid [vR 2 i0, vI (x1 + 1), vI 0, vI 0] M3 (fun M5 => Q none M5)))))) : RunQ (d + 1) m_W_offerNeighbours 0 [some (vR 2 i0), some (vI x1), some (vI x2), some (vI x3)] [] M Q := by
  refine q_aload_n 0 k_W_offerNeighbours_0 rfl ?_
  refine q_iload_n 1 k_W_offerNeighbours_1 rfl ?_
  refine q_iload_n 2 k_W_offerNeighbours_2 rfl ?_
  refine q_iload_n 3 k_W_offerNeighbours_3 rfl ?_
  refine q_iconst 4 k_W_offerNeighbours_4 ?_
  refine q_iadd 5 k_W_offerNeighbours_5 ?_
  refine q_vV 6 [vI x1, vI x2, vI (x3 + 1)] [] k_W_offerNeighbours_6 lk_2_79 rfl rfl rfl o0 rfl rfl rfl rfl (CallV.mono (fun M1 h7 => ?_) h)
  refine q_iload_n 9 k_W_offerNeighbours_9 rfl ?_
  refine q_if_ne 10 35 k_W_offerNeighbours_10 rfl rfl (fun c10 => ?_) (fun c10 => ?_)
  · have h7t := h7.1 c10
    exact q_vret 35 k_W_offerNeighbours_35 rfl h7t
  · have h7f := h7.2 c10
    refine q_aload_n 13 k_W_offerNeighbours_13 rfl ?_
    refine q_iload_n 14 k_W_offerNeighbours_14 rfl ?_
    refine q_iload_n 15 k_W_offerNeighbours_15 rfl ?_
    refine q_iconst 16 k_W_offerNeighbours_16 ?_
    refine q_iadd 17 k_W_offerNeighbours_17 ?_
    refine q_iconst 18 k_W_offerNeighbours_18 ?_
    refine q_vV 19 [vI x1, vI (x2 + 1), vI 0] [] k_W_offerNeighbours_19 lk_2_79 rfl rfl rfl o0 rfl rfl rfl rfl (CallV.mono (fun M3 h8 => ?_) h7f)
    refine q_iload_n 22 k_W_offerNeighbours_22 rfl ?_
    refine q_if_ne 23 35 k_W_offerNeighbours_23 rfl rfl (fun c23 => ?_) (fun c23 => ?_)
    · have h8t := h8.1 c23
      exact q_vret 35 k_W_offerNeighbours_35 rfl h8t
    · have h8f := h8.2 c23
      refine q_aload_n 26 k_W_offerNeighbours_26 rfl ?_
      refine q_iload_n 27 k_W_offerNeighbours_27 rfl ?_
      refine q_iconst 28 k_W_offerNeighbours_28 ?_
      refine q_iadd 29 k_W_offerNeighbours_29 ?_
      refine q_iconst 30 k_W_offerNeighbours_30 ?_
      refine q_iconst 31 k_W_offerNeighbours_31 ?_
      refine q_vV 32 [vI (x1 + 1), vI 0, vI 0] [] k_W_offerNeighbours_32 lk_2_79 rfl rfl rfl o0 rfl rfl rfl rfl (CallV.mono (fun M5 h9 => ?_) h8f)
      exact q_vret 35 k_W_offerNeighbours_35 rfl h9
theorem k_W_offerOfGrid_0 : decode (mtC m_W_offerOfGrid) 0 = .ok (.iload_n 1, 1) := by decide +kernel
theorem k_W_offerOfGrid_1 : decode (mtC m_W_offerOfGrid) 1 = .ok (.aload_n 0, 1) := by decide +kernel
theorem k_W_offerOfGrid_2 : decode (mtC m_W_offerOfGrid) 2 = .ok (.getfield 11, 3) := by decide +kernel
theorem k_W_offerOfGrid_5 : decode (mtC m_W_offerOfGrid) 5 = .ok (.iconst 0, 1) := by decide +kernel
theorem k_W_offerOfGrid_6 : decode (mtC m_W_offerOfGrid) 6 = .ok (.aaload, 1) := by decide +kernel
theorem k_W_offerOfGrid_7 : decode (mtC m_W_offerOfGrid) 7 = .ok (.getfield 136, 3) := by decide +kernel
theorem k_W_offerOfGrid_10 : decode (mtC m_W_offerOfGrid) 10 = .ok (.if_icmp .ge 57, 3) := by decide +kernel
theorem k_W_offerOfGrid_13 : decode (mtC m_W_offerOfGrid) 13 = .ok (.iload_n 2, 1) := by decide +kernel
theorem k_W_offerOfGrid_14 : decode (mtC m_W_offerOfGrid) 14 = .ok (.aload_n 0, 1) := by decide +kernel
theorem k_W_offerOfGrid_15 : decode (mtC m_W_offerOfGrid) 15 = .ok (.getfield 11, 3) := by decide +kernel
theorem k_W_offerOfGrid_18 : decode (mtC m_W_offerOfGrid) 18 = .ok (.iconst 1, 1) := by decide +kernel
theorem k_W_offerOfGrid_19 : decode (mtC m_W_offerOfGrid) 19 = .ok (.aaload, 1) := by decide +kernel
theorem k_W_offerOfGrid_20 : decode (mtC m_W_offerOfGrid) 20 = .ok (.getfield 136, 3) := by decide +kernel
theorem k_W_offerOfGrid_23 : decode (mtC m_W_offerOfGrid) 23 = .ok (.if_icmp .ge 44, 3) := by decide +kernel
theorem k_W_offerOfGrid_26 : decode (mtC m_W_offerOfGrid) 26 = .ok (.iload_n 3, 1) := by decide +kernel
theorem k_W_offerOfGrid_27 : decode (mtC m_W_offerOfGrid) 27 = .ok (.aload_n 0, 1) := by decide +kernel
theorem k_W_offerOfGrid_28 : decode (mtC m_W_offerOfGrid) 28 = .ok (.getfield 11, 3) := by decide +kernel
theorem k_W_offerOfGrid_31 : decode (mtC m_W_offerOfGrid) 31 = .ok (.iconst 2, 1) := by decide +kernel
theorem k_W_offerOfGrid_32 : decode (mtC m_W_offerOfGrid) 32 = .ok (.aaload, 1) := by decide +kernel
theorem k_W_offerOfGrid_33 : decode (mtC m_W_offerOfGrid) 33 = .ok (.getfield 136, 3) := by decide +kernel
theorem k_W_offerOfGrid_36 : decode (mtC m_W_offerOfGrid) 36 = .ok (.if_icmp .ge 31, 3) := by decide +kernel
theorem k_W_offerOfGrid_39 : decode (mtC m_W_offerOfGrid) 39 = .ok (.aload_n 0, 1) := by decide +kernel
theorem k_W_offerOfGrid_40 : decode (mtC m_W_offerOfGrid) 40 = .ok (.getfield 20, 3) := by decide +kernel
theorem k_W_offerOfGrid_43 : decode (mtC m_W_offerOfGrid) 43 = .ok (.aload_n 0, 1) := by decide +kernel
theorem k_W_offerOfGrid_44 : decode (mtC m_W_offerOfGrid) 44 = .ok (.iload_n 1, 1) := by decide +kernel
theorem k_W_offerOfGrid_45 : decode (mtC m_W_offerOfGrid) 45 = .ok (.iload_n 2, 1) := by decide +kernel
theorem k_W_offerOfGrid_46 : decode (mtC m_W_offerOfGrid) 46 = .ok (.iload_n 3, 1) := by decide +kernel
theorem k_W_offerOfGrid_47 : decode (mtC m_W_offerOfGrid) 47 = .ok (.invokevirtual 139, 3) := by decide +kernel
theorem k_W_offerOfGrid_50 : decode (mtC m_W_offerOfGrid) 50 = .ok (.iload_n 1, 1) := by decide +kernel
theorem k_W_offerOfGrid_51 : decode (mtC m_W_offerOfGrid) 51 = .ok (.bipush 8, 2) := by decide +kernel
theorem k_W_offerOfGrid_53 : decode (mtC m_W_offerOfGrid) 53 = .ok (.imul, 1) := by decide +kernel
theorem k_W_offerOfGrid_54 : decode (mtC m_W_offerOfGrid) 54 = .ok (.iload_n 2, 1) := by decide +kernel
theorem k_W_offerOfGrid_55 : decode (mtC m_W_offerOfGrid) 55 = .ok (.iadd, 1) := by decide +kernel
theorem k_W_offerOfGrid_56 : decode (mtC m_W_offerOfGrid) 56 = .ok (.bipush 8, 2) := by decide +kernel
theorem k_W_offerOfGrid_58 : decode (mtC m_W_offerOfGrid) 58 = .ok (.imul, 1) := by decide +kernel
theorem k_W_offerOfGrid_59 : decode (mtC m_W_offerOfGrid) 59 = .ok (.iload_n 3, 1) := by decide +kernel
theorem k_W_offerOfGrid_60 : decode (mtC m_W_offerOfGrid) 60 = .ok (.iadd, 1) := by decide +kernel
theorem k_W_offerOfGrid_61 : decode (mtC m_W_offerOfGrid) 61 = .ok (.invokestatic 63, 3) := by decide +kernel
theorem k_W_offerOfGrid_64 : decode (mtC m_W_offerOfGrid) 64 = .ok (.invokevirtual 67, 3) := by decide +kernel
theorem k_W_offerOfGrid_67 : decode (mtC m_W_offerOfGrid) 67 = .ok (.return_, 1) := by decide +kernel
set_option maxHeartbeats 4000000 in
set_option maxRecDepth 100000 in
theorem T_W_offerOfGrid_0 {d : Nat} {i0 : Nat} {x1 : Int} {x2 : Int} {x3 : Int} {M : AMem} {Q : Option AV → AMem → Prop} (o0 : okH 2 i0 = true) (h : ((wI (M 1 (6 * i0 + 0) 1) ≤ wI x1) → Q none M) ∧ (¬ (wI (M 1 (6 * i0 + 0) 1) ≤ wI x1) → ((wI (M 1 (6 * i0 + 1) 1) ≤ wI x2) → Q none M) ∧ (¬ (wI (M 1 (6 * i0 + 1) 1) ≤ wI x2) → ((wI (M 1 (6 * i0 + 2) 1) ≤ wI x3) → Q none M) ∧ (¬ (wI (M 1 (6 * i0 + 2) 1) ≤ wI x3) → CallI d m_W_gridNumber [vR 2 i0, vI x1, vI x2, vI x3] M (fun y2 M1 => CallI d m_Q_keyOf [vI y2, vI ((((x1 * 8) + x2) * 8) + x3)] M1 (fun y4 M3 => CallV d m_Q_push [vR 0 i0, vI y4] M3 (fun M5 => Q none M5))))))) : RunQ (d + 1) m_W_offerOfGrid 0 [some (vR 2 i0), some (vI x1), some (vI x2), some (vI x3)] [] M Q := by
  refine q_iload_n 0 k_W_offerOfGrid_0 rfl ?_
  refine q_aload_n 1 k_W_offerOfGrid_1 rfl ?_
  refine q_getfield 2 k_W_offerOfGrid_2 fk_2_11 o0 (v := vR 6 i0) rfl ?_
  refine q_iconst 5 k_W_offerOfGrid_5 ?_
  refine q_aaload 6 k_W_offerOfGrid_6 o0 (n := 6) rfl ⟨by decide, by decide⟩ (kd := 1) (x := (6 * i0 + 0)) rfl ?_
  refine q_getfield 7 k_W_offerOfGrid_7 fk_2_136 (ok_r6 (j := 0) o0 ⟨by decide, by decide⟩) (v := vI (M 1 (6 * i0 + 0) 1)) rfl ?_
  refine q_icmp_ge 10 67 k_W_offerOfGrid_10 rfl rfl (fun c10 => ?_) (fun c10 => ?_)
  · have ht := h.1 c10
    exact q_vret 67 k_W_offerOfGrid_67 rfl ht
  · have hf := h.2 c10
    refine q_iload_n 13 k_W_offerOfGrid_13 rfl ?_
    refine q_aload_n 14 k_W_offerOfGrid_14 rfl ?_
    refine q_getfield 15 k_W_offerOfGrid_15 fk_2_11 o0 (v := vR 6 i0) rfl ?_
    refine q_iconst 18 k_W_offerOfGrid_18 ?_
    refine q_aaload 19 k_W_offerOfGrid_19 o0 (n := 6) rfl ⟨by decide, by decide⟩ (kd := 1) (x := (6 * i0 + 1)) rfl ?_
    refine q_getfield 20 k_W_offerOfGrid_20 fk_2_136 (ok_r6 (j := 1) o0 ⟨by decide, by decide⟩) (v := vI (M 1 (6 * i0 + 1) 1)) rfl ?_
    refine q_icmp_ge 23 67 k_W_offerOfGrid_23 rfl rfl (fun c23 => ?_) (fun c23 => ?_)
    · have hft := hf.1 c23
      exact q_vret 67 k_W_offerOfGrid_67 rfl hft
    · have hff := hf.2 c23
      refine q_iload_n 26 k_W_offerOfGrid_26 rfl ?_
      refine q_aload_n 27 k_W_offerOfGrid_27 rfl ?_
      refine q_getfield 28 k_W_offerOfGrid_28 fk_2_11 o0 (v := vR 6 i0) rfl ?_
      refine q_iconst 31 k_W_offerOfGrid_31 ?_
      refine q_aaload 32 k_W_offerOfGrid_32 o0 (n := 6) rfl ⟨by decide, by decide⟩ (kd := 1) (x := (6 * i0 + 2)) rfl ?_
      refine q_getfield 33 k_W_offerOfGrid_33 fk_2_136 (ok_r6 (j := 2) o0 ⟨by decide, by decide⟩) (v := vI (M 1 (6 * i0 + 2) 1)) rfl ?_
      refine q_icmp_ge 36 67 k_W_offerOfGrid_36 rfl rfl (fun c36 => ?_) (fun c36 => ?_)
      · have hfft := hff.1 c36
        exact q_vret 67 k_W_offerOfGrid_67 rfl hfft
      · have hfff := hff.2 c36
        refine q_aload_n 39 k_W_offerOfGrid_39 rfl ?_
        refine q_getfield 40 k_W_offerOfGrid_40 fk_2_20 o0 (v := vR 0 i0) rfl ?_
        refine q_aload_n 43 k_W_offerOfGrid_43 rfl ?_
        refine q_iload_n 44 k_W_offerOfGrid_44 rfl ?_
        refine q_iload_n 45 k_W_offerOfGrid_45 rfl ?_
        refine q_iload_n 46 k_W_offerOfGrid_46 rfl ?_
        refine q_vI 47 [vI x1, vI x2, vI x3] [vR 0 i0] k_W_offerOfGrid_47 lk_2_139 rfl rfl rfl o0 rfl rfl rfl rfl (CallI.mono (fun y2 M1 h7 => ?_) hfff)
        refine q_iload_n 50 k_W_offerOfGrid_50 rfl ?_
        refine q_bipush 51 k_W_offerOfGrid_51 (by decide) ?_
        refine q_imul 53 k_W_offerOfGrid_53 ?_
        refine q_iload_n 54 k_W_offerOfGrid_54 rfl ?_
        refine q_iadd 55 k_W_offerOfGrid_55 ?_
        refine q_bipush 56 k_W_offerOfGrid_56 (by decide) ?_
        refine q_imul 58 k_W_offerOfGrid_58 ?_
        refine q_iload_n 59 k_W_offerOfGrid_59 rfl ?_
        refine q_iadd 60 k_W_offerOfGrid_60 ?_
        refine q_sI 61 [vI y2, vI ((((x1 * 8) + x2) * 8) + x3)] [vR 0 i0] k_W_offerOfGrid_61 rfl lk_2_63 rfl rfl rfl rfl rfl rfl (CallI.mono (fun y4 M3 h8 => ?_) h7)
        refine q_vV 64 [vI y4] [] k_W_offerOfGrid_64 lk_2_67 rfl rfl rfl o0 rfl rfl rfl rfl (CallV.mono (fun M5 h9 => ?_) h8)
        exact q_vret 67 k_W_offerOfGrid_67 rfl h9
theorem k_W_offerOfRow_0 : decode (mtC m_W_offerOfRow) 0 = .ok (.iload_n 1, 1) := by decide +kernel
theorem k_W_offerOfRow_1 : decode (mtC m_W_offerOfRow) 1 = .ok (.ifCond .lt 36, 3) := by decide +kernel
theorem k_W_offerOfRow_4 : decode (mtC m_W_offerOfRow) 4 = .ok (.iload_n 1, 1) := by decide +kernel
theorem k_W_offerOfRow_5 : decode (mtC m_W_offerOfRow) 5 = .ok (.aload_n 0, 1) := by decide +kernel
theorem k_W_offerOfRow_6 : decode (mtC m_W_offerOfRow) 6 = .ok (.getfield 11, 3) := by decide +kernel
theorem k_W_offerOfRow_9 : decode (mtC m_W_offerOfRow) 9 = .ok (.arraylength, 1) := by decide +kernel
theorem k_W_offerOfRow_10 : decode (mtC m_W_offerOfRow) 10 = .ok (.if_icmp .ge 27, 3) := by decide +kernel
theorem k_W_offerOfRow_13 : decode (mtC m_W_offerOfRow) 13 = .ok (.aload_n 0, 1) := by decide +kernel
theorem k_W_offerOfRow_14 : decode (mtC m_W_offerOfRow) 14 = .ok (.getfield 41, 3) := by decide +kernel
theorem k_W_offerOfRow_17 : decode (mtC m_W_offerOfRow) 17 = .ok (.iload_n 1, 1) := by decide +kernel
theorem k_W_offerOfRow_18 : decode (mtC m_W_offerOfRow) 18 = .ok (.invokestatic 131, 3) := by decide +kernel
theorem k_W_offerOfRow_21 : decode (mtC m_W_offerOfRow) 21 = .ok (.ifCond .eq 16, 3) := by decide +kernel
theorem k_W_offerOfRow_24 : decode (mtC m_W_offerOfRow) 24 = .ok (.iload_n 2, 1) := by decide +kernel
theorem k_W_offerOfRow_25 : decode (mtC m_W_offerOfRow) 25 = .ok (.aload_n 0, 1) := by decide +kernel
theorem k_W_offerOfRow_26 : decode (mtC m_W_offerOfRow) 26 = .ok (.getfield 11, 3) := by decide +kernel
theorem k_W_offerOfRow_29 : decode (mtC m_W_offerOfRow) 29 = .ok (.iload_n 1, 1) := by decide +kernel
theorem k_W_offerOfRow_30 : decode (mtC m_W_offerOfRow) 30 = .ok (.aaload, 1) := by decide +kernel
theorem k_W_offerOfRow_31 : decode (mtC m_W_offerOfRow) 31 = .ok (.getfield 136, 3) := by decide +kernel
theorem k_W_offerOfRow_34 : decode (mtC m_W_offerOfRow) 34 = .ok (.if_icmp .lt 4, 3) := by decide +kernel
theorem k_W_offerOfRow_37 : decode (mtC m_W_offerOfRow) 37 = .ok (.return_, 1) := by decide +kernel
theorem k_W_offerOfRow_38 : decode (mtC m_W_offerOfRow) 38 = .ok (.aload_n 0, 1) := by decide +kernel
theorem k_W_offerOfRow_39 : decode (mtC m_W_offerOfRow) 39 = .ok (.getfield 20, 3) := by decide +kernel
theorem k_W_offerOfRow_42 : decode (mtC m_W_offerOfRow) 42 = .ok (.aload_n 0, 1) := by decide +kernel
theorem k_W_offerOfRow_43 : decode (mtC m_W_offerOfRow) 43 = .ok (.getfield 11, 3) := by decide +kernel
theorem k_W_offerOfRow_46 : decode (mtC m_W_offerOfRow) 46 = .ok (.iload_n 1, 1) := by decide +kernel
theorem k_W_offerOfRow_47 : decode (mtC m_W_offerOfRow) 47 = .ok (.aaload, 1) := by decide +kernel
theorem k_W_offerOfRow_48 : decode (mtC m_W_offerOfRow) 48 = .ok (.iload_n 2, 1) := by decide +kernel
theorem k_W_offerOfRow_49 : decode (mtC m_W_offerOfRow) 49 = .ok (.invokevirtual 143, 3) := by decide +kernel
theorem k_W_offerOfRow_52 : decode (mtC m_W_offerOfRow) 52 = .ok (.aload_n 0, 1) := by decide +kernel
theorem k_W_offerOfRow_53 : decode (mtC m_W_offerOfRow) 53 = .ok (.iload_n 1, 1) := by decide +kernel
theorem k_W_offerOfRow_54 : decode (mtC m_W_offerOfRow) 54 = .ok (.invokevirtual 103, 3) := by decide +kernel
theorem k_W_offerOfRow_57 : decode (mtC m_W_offerOfRow) 57 = .ok (.bipush 8, 2) := by decide +kernel
theorem k_W_offerOfRow_59 : decode (mtC m_W_offerOfRow) 59 = .ok (.imul, 1) := by decide +kernel
theorem k_W_offerOfRow_60 : decode (mtC m_W_offerOfRow) 60 = .ok (.iload_n 2, 1) := by decide +kernel
theorem k_W_offerOfRow_61 : decode (mtC m_W_offerOfRow) 61 = .ok (.iadd, 1) := by decide +kernel
theorem k_W_offerOfRow_62 : decode (mtC m_W_offerOfRow) 62 = .ok (.bipush 8, 2) := by decide +kernel
theorem k_W_offerOfRow_64 : decode (mtC m_W_offerOfRow) 64 = .ok (.imul, 1) := by decide +kernel
theorem k_W_offerOfRow_65 : decode (mtC m_W_offerOfRow) 65 = .ok (.invokestatic 63, 3) := by decide +kernel
theorem k_W_offerOfRow_68 : decode (mtC m_W_offerOfRow) 68 = .ok (.invokevirtual 67, 3) := by decide +kernel
theorem k_W_offerOfRow_71 : decode (mtC m_W_offerOfRow) 71 = .ok (.return_, 1) := by decide +kernel
set_option maxHeartbeats 4000000 in
set_option maxRecDepth 100000 in
theorem T_W_offerOfRow_0 {d : Nat} {i0 : Nat} {x1 : Int} {x2 : Int} {M : AMem} {Q : Option AV → AMem → Prop} (o0 : okH 2 i0 = true) (h : ((wI x1 < 0) → Q none M) ∧ (¬ (wI x1 < 0) → ((6 ≤ wI x1) → Q none M) ∧ (¬ (6 ≤ wI x1) → CallI d m_W_isMember [vI (M 2 i0 3), vI x1] M (fun y2 M1 => ((wI y2 = 0) → Q none M1) ∧ (¬ (wI y2 = 0) → (0 ≤ wI x1 ∧ wI x1 < (6 : Nat)) ∧ (((wI x2 < wI (M1 1 (6 * i0 + (wI x1).toNat) 1)) → (0 ≤ wI x1 ∧ wI x1 < (6 : Nat)) ∧ (CallI d m_R_numberAt [vR 1 (6 * i0 + (wI x1).toNat), vI x2] M1 (fun y6 M5 => CallI d m_W_rankOf [vR 2 i0, vI x1] M5 (fun y8 M7 => CallI d m_Q_keyOf [vI y6, vI (((y8 * 8) + x2) * 8)] M7 (fun y10 M9 => CallV d m_Q_push [vR 0 i0, vI y10] M9 (fun M11 => Q none M11)))))) ∧ (¬ (wI x2 < wI (M1 1 (6 * i0 + (wI x1).toNat) 1)) → Q none M1))))))) : RunQ (d + 1) m_W_offerOfRow 0 [some (vR 2 i0), some (vI x1), some (vI x2)] [] M Q := by
  refine q_iload_n 0 k_W_offerOfRow_0 rfl ?_
  refine q_if_lt 1 37 k_W_offerOfRow_1 rfl rfl (fun c1 => ?_) (fun c1 => ?_)
  · have ht := h.1 c1
    exact q_vret 37 k_W_offerOfRow_37 rfl ht
  · have hf := h.2 c1
    refine q_iload_n 4 k_W_offerOfRow_4 rfl ?_
    refine q_aload_n 5 k_W_offerOfRow_5 rfl ?_
    refine q_getfield 6 k_W_offerOfRow_6 fk_2_11 o0 (v := vR 6 i0) rfl ?_
    refine q_alen 9 k_W_offerOfRow_9 o0 rfl (z := 6) rfl ?_
    refine q_icmp_ge 10 37 k_W_offerOfRow_10 rfl rfl (fun c10 => ?_) (fun c10 => ?_)
    · have hft := hf.1 c10
      exact q_vret 37 k_W_offerOfRow_37 rfl hft
    · have hff := hf.2 c10
      refine q_aload_n 13 k_W_offerOfRow_13 rfl ?_
      refine q_getfield 14 k_W_offerOfRow_14 fk_2_41 o0 (v := vI (M 2 i0 3)) rfl ?_
      refine q_iload_n 17 k_W_offerOfRow_17 rfl ?_
      refine q_sI 18 [vI (M 2 i0 3), vI x1] [] k_W_offerOfRow_18 rfl lk_2_131 rfl rfl rfl rfl rfl rfl (CallI.mono (fun y2 M1 h13 => ?_) hff)
      refine q_if_eq 21 37 k_W_offerOfRow_21 rfl rfl (fun c21 => ?_) (fun c21 => ?_)
      · have h13t := h13.1 c21
        exact q_vret 37 k_W_offerOfRow_37 rfl h13t
      · have h13f := h13.2 c21
        refine q_iload_n 24 k_W_offerOfRow_24 rfl ?_
        refine q_aload_n 25 k_W_offerOfRow_25 rfl ?_
        refine q_getfield 26 k_W_offerOfRow_26 fk_2_11 o0 (v := vR 6 i0) rfl ?_
        refine q_iload_n 29 k_W_offerOfRow_29 rfl ?_
        have hb3 := h13f.1
        refine q_aaload 30 k_W_offerOfRow_30 o0 (n := 6) rfl hb3 (kd := 1) (x := (6 * i0 + (wI x1).toNat)) rfl ?_
        have h13f' := h13f.2
        refine q_getfield 31 k_W_offerOfRow_31 fk_2_136 (ok_r6 o0 hb3) (v := vI (M1 1 (6 * i0 + (wI x1).toNat) 1)) rfl ?_
        refine q_icmp_lt 34 38 k_W_offerOfRow_34 rfl rfl (fun c34 => ?_) (fun c34 => ?_)
        · have h13f't := h13f'.1 c34
          refine q_aload_n 38 k_W_offerOfRow_38 rfl ?_
          refine q_getfield 39 k_W_offerOfRow_39 fk_2_20 o0 (v := vR 0 i0) rfl ?_
          refine q_aload_n 42 k_W_offerOfRow_42 rfl ?_
          refine q_getfield 43 k_W_offerOfRow_43 fk_2_11 o0 (v := vR 6 i0) rfl ?_
          refine q_iload_n 46 k_W_offerOfRow_46 rfl ?_
          have hb4 := h13f't.1
          refine q_aaload 47 k_W_offerOfRow_47 o0 (n := 6) rfl hb4 (kd := 1) (x := (6 * i0 + (wI x1).toNat)) rfl ?_
          have h13f't' := h13f't.2
          refine q_iload_n 48 k_W_offerOfRow_48 rfl ?_
          refine q_vI 49 [vI x2] [vR 0 i0] k_W_offerOfRow_49 lk_2_143 rfl rfl rfl (ok_r6 o0 hb4) rfl rfl rfl rfl (CallI.mono (fun y6 M5 h14 => ?_) h13f't')
          refine q_aload_n 52 k_W_offerOfRow_52 rfl ?_
          refine q_iload_n 53 k_W_offerOfRow_53 rfl ?_
          refine q_vI 54 [vI x1] [vI y6, vR 0 i0] k_W_offerOfRow_54 lk_2_103 rfl rfl rfl o0 rfl rfl rfl rfl (CallI.mono (fun y8 M7 h15 => ?_) h14)
          refine q_bipush 57 k_W_offerOfRow_57 (by decide) ?_
          refine q_imul 59 k_W_offerOfRow_59 ?_
          refine q_iload_n 60 k_W_offerOfRow_60 rfl ?_
          refine q_iadd 61 k_W_offerOfRow_61 ?_
          refine q_bipush 62 k_W_offerOfRow_62 (by decide) ?_
          refine q_imul 64 k_W_offerOfRow_64 ?_
          refine q_sI 65 [vI y6, vI (((y8 * 8) + x2) * 8)] [vR 0 i0] k_W_offerOfRow_65 rfl lk_2_63 rfl rfl rfl rfl rfl rfl (CallI.mono (fun y10 M9 h16 => ?_) h15)
          refine q_vV 68 [vI y10] [] k_W_offerOfRow_68 lk_2_67 rfl rfl rfl o0 rfl rfl rfl rfl (CallV.mono (fun M11 h17 => ?_) h16)
          exact q_vret 71 k_W_offerOfRow_71 rfl h17
        · have h13f'f := h13f'.2 c34
          exact q_vret 37 k_W_offerOfRow_37 rfl h13f'f
theorem k_W_closeRow_0 : decode (mtC m_W_closeRow) 0 = .ok (.aload_n 0, 1) := by decide +kernel
theorem k_W_closeRow_1 : decode (mtC m_W_closeRow) 1 = .ok (.getfield 24, 3) := by decide +kernel
theorem k_W_closeRow_4 : decode (mtC m_W_closeRow) 4 = .ok (.iconst 3, 1) := by decide +kernel
theorem k_W_closeRow_5 : decode (mtC m_W_closeRow) 5 = .ok (.if_icmp .ne 16, 3) := by decide +kernel
theorem k_W_closeRow_8 : decode (mtC m_W_closeRow) 8 = .ok (.iload_n 1, 1) := by decide +kernel
theorem k_W_closeRow_9 : decode (mtC m_W_closeRow) 9 = .ok (.ifCond .lt 12, 3) := by decide +kernel
theorem k_W_closeRow_12 : decode (mtC m_W_closeRow) 12 = .ok (.iload_n 1, 1) := by decide +kernel
theorem k_W_closeRow_13 : decode (mtC m_W_closeRow) 13 = .ok (.aload_n 0, 1) := by decide +kernel
theorem k_W_closeRow_14 : decode (mtC m_W_closeRow) 14 = .ok (.getfield 11, 3) := by decide +kernel
theorem k_W_closeRow_17 : decode (mtC m_W_closeRow) 17 = .ok (.arraylength, 1) := by decide +kernel
theorem k_W_closeRow_18 : decode (mtC m_W_closeRow) 18 = .ok (.if_icmp .lt 6, 3) := by decide +kernel
theorem k_W_closeRow_21 : decode (mtC m_W_closeRow) 21 = .ok (.bipush (-9), 2) := by decide +kernel
theorem k_W_closeRow_23 : decode (mtC m_W_closeRow) 23 = .ok (.ireturn, 1) := by decide +kernel
theorem k_W_closeRow_24 : decode (mtC m_W_closeRow) 24 = .ok (.iconst 0, 1) := by decide +kernel
theorem k_W_closeRow_25 : decode (mtC m_W_closeRow) 25 = .ok (.istore_n 2, 1) := by decide +kernel
theorem k_W_closeRow_26 : decode (mtC m_W_closeRow) 26 = .ok (.iload_n 2, 1) := by decide +kernel
theorem k_W_closeRow_27 : decode (mtC m_W_closeRow) 27 = .ok (.aload_n 0, 1) := by decide +kernel
theorem k_W_closeRow_28 : decode (mtC m_W_closeRow) 28 = .ok (.getfield 11, 3) := by decide +kernel
theorem k_W_closeRow_31 : decode (mtC m_W_closeRow) 31 = .ok (.iload_n 1, 1) := by decide +kernel
theorem k_W_closeRow_32 : decode (mtC m_W_closeRow) 32 = .ok (.aaload, 1) := by decide +kernel
theorem k_W_closeRow_33 : decode (mtC m_W_closeRow) 33 = .ok (.getfield 136, 3) := by decide +kernel
theorem k_W_closeRow_36 : decode (mtC m_W_closeRow) 36 = .ok (.if_icmp .ge 58, 3) := by decide +kernel
theorem k_W_closeRow_39 : decode (mtC m_W_closeRow) 39 = .ok (.aload_n 0, 1) := by decide +kernel
theorem k_W_closeRow_40 : decode (mtC m_W_closeRow) 40 = .ok (.iload_n 1, 1) := by decide +kernel
theorem k_W_closeRow_41 : decode (mtC m_W_closeRow) 41 = .ok (.iload_n 2, 1) := by decide +kernel
theorem k_W_closeRow_42 : decode (mtC m_W_closeRow) 42 = .ok (.iconst 0, 1) := by decide +kernel
theorem k_W_closeRow_43 : decode (mtC m_W_closeRow) 43 = .ok (.invokevirtual 146, 3) := by decide +kernel
theorem k_W_closeRow_46 : decode (mtC m_W_closeRow) 46 = .ok (.istore_n 3, 1) := by decide +kernel
theorem k_W_closeRow_47 : decode (mtC m_W_closeRow) 47 = .ok (.aload_n 0, 1) := by decide +kernel
theorem k_W_closeRow_48 : decode (mtC m_W_closeRow) 48 = .ok (.getfield 20, 3) := by decide +kernel
theorem k_W_closeRow_51 : decode (mtC m_W_closeRow) 51 = .ok (.iload_n 3, 1) := by decide +kernel
theorem k_W_closeRow_52 : decode (mtC m_W_closeRow) 52 = .ok (.invokevirtual 149, 3) := by decide +kernel
theorem k_W_closeRow_55 : decode (mtC m_W_closeRow) 55 = .ok (.ifCond .eq 33, 3) := by decide +kernel
theorem k_W_closeRow_58 : decode (mtC m_W_closeRow) 58 = .ok (.aload_n 0, 1) := by decide +kernel
theorem k_W_closeRow_59 : decode (mtC m_W_closeRow) 59 = .ok (.getfield 20, 3) := by decide +kernel
theorem k_W_closeRow_62 : decode (mtC m_W_closeRow) 62 = .ok (.iload_n 3, 1) := by decide +kernel
theorem k_W_closeRow_63 : decode (mtC m_W_closeRow) 63 = .ok (.invokevirtual 153, 3) := by decide +kernel
theorem k_W_closeRow_66 : decode (mtC m_W_closeRow) 66 = .ok (.aload_n 0, 1) := by decide +kernel
theorem k_W_closeRow_67 : decode (mtC m_W_closeRow) 67 = .ok (.dup, 1) := by decide +kernel
theorem k_W_closeRow_68 : decode (mtC m_W_closeRow) 68 = .ok (.getfield 54, 3) := by decide +kernel
theorem k_W_closeRow_71 : decode (mtC m_W_closeRow) 71 = .ok (.iconst 1, 1) := by decide +kernel
theorem k_W_closeRow_72 : decode (mtC m_W_closeRow) 72 = .ok (.iadd, 1) := by decide +kernel
theorem k_W_closeRow_73 : decode (mtC m_W_closeRow) 73 = .ok (.putfield 54, 3) := by decide +kernel
theorem k_W_closeRow_76 : decode (mtC m_W_closeRow) 76 = .ok (.aload_n 0, 1) := by decide +kernel
theorem k_W_closeRow_77 : decode (mtC m_W_closeRow) 77 = .ok (.getfield 11, 3) := by decide +kernel
theorem k_W_closeRow_80 : decode (mtC m_W_closeRow) 80 = .ok (.iload_n 1, 1) := by decide +kernel
theorem k_W_closeRow_81 : decode (mtC m_W_closeRow) 81 = .ok (.aaload, 1) := by decide +kernel
theorem k_W_closeRow_82 : decode (mtC m_W_closeRow) 82 = .ok (.getfield 136, 3) := by decide +kernel
theorem k_W_closeRow_85 : decode (mtC m_W_closeRow) 85 = .ok (.iload_n 2, 1) := by decide +kernel
theorem k_W_closeRow_86 : decode (mtC m_W_closeRow) 86 = .ok (.isub, 1) := by decide +kernel
theorem k_W_closeRow_87 : decode (mtC m_W_closeRow) 87 = .ok (.ireturn, 1) := by decide +kernel
theorem k_W_closeRow_88 : decode (mtC m_W_closeRow) 88 = .ok (.iinc 2 1, 3) := by decide +kernel
theorem k_W_closeRow_91 : decode (mtC m_W_closeRow) 91 = .ok (.goto (-65), 3) := by decide +kernel
theorem k_W_closeRow_94 : decode (mtC m_W_closeRow) 94 = .ok (.bipush (-9), 2) := by decide +kernel
theorem k_W_closeRow_96 : decode (mtC m_W_closeRow) 96 = .ok (.ireturn, 1) := by decide +kernel
set_option maxHeartbeats 4000000 in
set_option maxRecDepth 100000 in
theorem T_W_closeRow_0 {d : Nat} {i0 : Nat} {x1 : Int} {M : AMem} {Q : Option AV → AMem → Prop} (o0 : okH 2 i0 = true) (h : ((¬ wI (M 2 i0 2) = 3) → Q (some (vI (-9))) M) ∧ (¬ (¬ wI (M 2 i0 2) = 3) → ((wI x1 < 0) → Q (some (vI (-9))) M) ∧ (¬ (wI x1 < 0) → ((wI x1 < 6) → RunQ (d + 1) m_W_closeRow 26 [some (vR 2 i0), some (vI x1), some (vI 0), none] [] M Q) ∧ (¬ (wI x1 < 6) → Q (some (vI (-9))) M)))) : RunQ (d + 1) m_W_closeRow 0 [some (vR 2 i0), some (vI x1), none, none] [] M Q := by
  refine q_aload_n 0 k_W_closeRow_0 rfl ?_
  refine q_getfield 1 k_W_closeRow_1 fk_2_24 o0 (v := vI (M 2 i0 2)) rfl ?_
  refine q_iconst 4 k_W_closeRow_4 ?_
  refine q_icmp_ne 5 21 k_W_closeRow_5 rfl rfl (fun c5 => ?_) (fun c5 => ?_)
  · have ht := h.1 c5
    refine q_bipush 21 k_W_closeRow_21 (by decide) ?_
    exact q_iret 23 k_W_closeRow_23 rfl ht
  · have hf := h.2 c5
    refine q_iload_n 8 k_W_closeRow_8 rfl ?_
    refine q_if_lt 9 21 k_W_closeRow_9 rfl rfl (fun c9 => ?_) (fun c9 => ?_)
    · have hft := hf.1 c9
      refine q_bipush 21 k_W_closeRow_21 (by decide) ?_
      exact q_iret 23 k_W_closeRow_23 rfl hft
    · have hff := hf.2 c9
      refine q_iload_n 12 k_W_closeRow_12 rfl ?_
      refine q_aload_n 13 k_W_closeRow_13 rfl ?_
      refine q_getfield 14 k_W_closeRow_14 fk_2_11 o0 (v := vR 6 i0) rfl ?_
      refine q_alen 17 k_W_closeRow_17 o0 rfl (z := 6) rfl ?_
      refine q_icmp_lt 18 24 k_W_closeRow_18 rfl rfl (fun c18 => ?_) (fun c18 => ?_)
      · have hfft := hff.1 c18
        refine q_iconst 24 k_W_closeRow_24 ?_
        refine q_istore_n 25 k_W_closeRow_25 (ls' := [some (vR 2 i0), some (vI x1), some (vI 0), none]) rfl rfl ?_
        exact hfft
      · have hfff := hff.2 c18
        refine q_bipush 21 k_W_closeRow_21 (by decide) ?_
        exact q_iret 23 k_W_closeRow_23 rfl hfff
set_option maxHeartbeats 4000000 in
set_option maxRecDepth 100000 in
theorem T_W_closeRow_26 {d : Nat} {i0 : Nat} {x1 : Int} {x2 : Int} {u3 : Option AV} {M : AMem} {Q : Option AV → AMem → Prop} (o0 : okH 2 i0 = true) (h : (0 ≤ wI x1 ∧ wI x1 < (6 : Nat)) ∧ (((wI (M 1 (6 * i0 + (wI x1).toNat) 1) ≤ wI x2) → Q (some (vI (-9))) M) ∧ (¬ (wI (M 1 (6 * i0 + (wI x1).toNat) 1) ≤ wI x2) → CallI d m_W_tagAt [vR 2 i0, vI x1, vI x2, vI 0] M (fun y3 M2 => CallI d m_Q_holds [vR 0 i0, vI y3] M2 (fun y5 M4 => ((wI y5 = 0) → RunQ (d + 1) m_W_closeRow 26 [some (vR 2 i0), some (vI x1), some (vI (x2 + 1)), some (vI y3)] [] M4 Q) ∧ (¬ (wI y5 = 0) → CallV d m_Q_remove [vR 0 i0, vI y3] M4 (fun M6 => (0 ≤ wI x1 ∧ wI x1 < (6 : Nat)) ∧ (Q (some (vI ((M6 1 (6 * i0 + (wI x1).toNat) 1) - x2))) (aup M6 2 i0 5 ((M6 2 i0 5) + 1)))))))))) : RunQ (d + 1) m_W_closeRow 26 [some (vR 2 i0), some (vI x1), some (vI x2), u3] [] M Q := by
  refine q_iload_n 26 k_W_closeRow_26 rfl ?_
  refine q_aload_n 27 k_W_closeRow_27 rfl ?_
  refine q_getfield 28 k_W_closeRow_28 fk_2_11 o0 (v := vR 6 i0) rfl ?_
  refine q_iload_n 31 k_W_closeRow_31 rfl ?_
  have hb1 := h.1
  refine q_aaload 32 k_W_closeRow_32 o0 (n := 6) rfl hb1 (kd := 1) (x := (6 * i0 + (wI x1).toNat)) rfl ?_
  have h' := h.2
  refine q_getfield 33 k_W_closeRow_33 fk_2_136 (ok_r6 o0 hb1) (v := vI (M 1 (6 * i0 + (wI x1).toNat) 1)) rfl ?_
  refine q_icmp_ge 36 94 k_W_closeRow_36 rfl rfl (fun c36 => ?_) (fun c36 => ?_)
  · have h't := h'.1 c36
    refine q_bipush 94 k_W_closeRow_94 (by decide) ?_
    exact q_iret 96 k_W_closeRow_96 rfl h't
  · have h'f := h'.2 c36
    refine q_aload_n 39 k_W_closeRow_39 rfl ?_
    refine q_iload_n 40 k_W_closeRow_40 rfl ?_
    refine q_iload_n 41 k_W_closeRow_41 rfl ?_
    refine q_iconst 42 k_W_closeRow_42 ?_
    refine q_vI 43 [vI x1, vI x2, vI 0] [] k_W_closeRow_43 lk_2_146 rfl rfl rfl o0 rfl rfl rfl rfl (CallI.mono (fun y3 M2 h9 => ?_) h'f)
    refine q_istore_n 46 k_W_closeRow_46 (ls' := [some (vR 2 i0), some (vI x1), some (vI x2), some (vI y3)]) rfl rfl ?_
    refine q_aload_n 47 k_W_closeRow_47 rfl ?_
    refine q_getfield 48 k_W_closeRow_48 fk_2_20 o0 (v := vR 0 i0) rfl ?_
    refine q_iload_n 51 k_W_closeRow_51 rfl ?_
    refine q_vI 52 [vI y3] [] k_W_closeRow_52 lk_2_149 rfl rfl rfl o0 rfl rfl rfl rfl (CallI.mono (fun y5 M4 h10 => ?_) h9)
    refine q_if_eq 55 88 k_W_closeRow_55 rfl rfl (fun c55 => ?_) (fun c55 => ?_)
    · have h10t := h10.1 c55
      refine q_iinc 88 k_W_closeRow_88 (ls' := [some (vR 2 i0), some (vI x1), some (vI (x2 + 1)), some (vI y3)]) rfl rfl rfl ?_
      refine q_goto 91 26 k_W_closeRow_91 rfl rfl ?_
      exact h10t
    · have h10f := h10.2 c55
      refine q_aload_n 58 k_W_closeRow_58 rfl ?_
      refine q_getfield 59 k_W_closeRow_59 fk_2_20 o0 (v := vR 0 i0) rfl ?_
      refine q_iload_n 62 k_W_closeRow_62 rfl ?_
      refine q_vV 63 [vI y3] [] k_W_closeRow_63 lk_2_153 rfl rfl rfl o0 rfl rfl rfl rfl (CallV.mono (fun M6 h11 => ?_) h10f)
      refine q_aload_n 66 k_W_closeRow_66 rfl ?_
      refine q_dup 67 k_W_closeRow_67 rfl ?_
      refine q_getfield 68 k_W_closeRow_68 fk_2_54 o0 (v := vI (M6 2 i0 5)) rfl ?_
      refine q_iconst 71 k_W_closeRow_71 ?_
      refine q_iadd 72 k_W_closeRow_72 ?_
      refine q_putfield 73 k_W_closeRow_73 fk_2_54 o0 rfl (fun z => absurd z (by decide)) ?_
      refine q_aload_n 76 k_W_closeRow_76 rfl ?_
      refine q_getfield 77 k_W_closeRow_77 fk_2_11 o0 (v := vR 6 i0) rfl ?_
      refine q_iload_n 80 k_W_closeRow_80 rfl ?_
      have hb8 := h11.1
      refine q_aaload 81 k_W_closeRow_81 o0 (n := 6) rfl hb8 (kd := 1) (x := (6 * i0 + (wI x1).toNat)) rfl ?_
      have h11' := h11.2
      refine q_getfield 82 k_W_closeRow_82 fk_2_136 (ok_r6 o0 hb8) (v := vI (M6 1 (6 * i0 + (wI x1).toNat) 1)) (by simp [fval, aup]) ?_
      refine q_iload_n 85 k_W_closeRow_85 rfl ?_
      refine q_isub 86 k_W_closeRow_86 ?_
      exact q_iret 87 k_W_closeRow_87 rfl h11'
theorem k_W_isEmpty_0 : decode (mtC m_W_isEmpty) 0 = .ok (.aload_n 0, 1) := by decide +kernel
theorem k_W_isEmpty_1 : decode (mtC m_W_isEmpty) 1 = .ok (.getfield 24, 3) := by decide +kernel
theorem k_W_isEmpty_4 : decode (mtC m_W_isEmpty) 4 = .ok (.iconst (-1), 1) := by decide +kernel
theorem k_W_isEmpty_5 : decode (mtC m_W_isEmpty) 5 = .ok (.if_icmp .ne 7, 3) := by decide +kernel
theorem k_W_isEmpty_8 : decode (mtC m_W_isEmpty) 8 = .ok (.iconst 1, 1) := by decide +kernel
theorem k_W_isEmpty_9 : decode (mtC m_W_isEmpty) 9 = .ok (.goto 4, 3) := by decide +kernel
theorem k_W_isEmpty_12 : decode (mtC m_W_isEmpty) 12 = .ok (.iconst 0, 1) := by decide +kernel
theorem k_W_isEmpty_13 : decode (mtC m_W_isEmpty) 13 = .ok (.ireturn, 1) := by decide +kernel
set_option maxHeartbeats 4000000 in
set_option maxRecDepth 100000 in
theorem T_W_isEmpty_0 {d : Nat} {i0 : Nat} {M : AMem} {Q : Option AV → AMem → Prop} (o0 : okH 2 i0 = true) (h : ((¬ wI (M 2 i0 2) = (-1)) → Q (some (vI 0)) M) ∧ (¬ (¬ wI (M 2 i0 2) = (-1)) → Q (some (vI 1)) M)) : RunQ d m_W_isEmpty 0 [some (vR 2 i0)] [] M Q := by
  refine q_aload_n 0 k_W_isEmpty_0 rfl ?_
  refine q_getfield 1 k_W_isEmpty_1 fk_2_24 o0 (v := vI (M 2 i0 2)) rfl ?_
  refine q_iconst 4 k_W_isEmpty_4 ?_
  refine q_icmp_ne 5 12 k_W_isEmpty_5 rfl rfl (fun c5 => ?_) (fun c5 => ?_)
  · have ht := h.1 c5
    refine q_iconst 12 k_W_isEmpty_12 ?_
    exact q_zret 13 k_W_isEmpty_13 rfl (Or.inl rfl) ht
  · have hf := h.2 c5
    refine q_iconst 8 k_W_isEmpty_8 ?_
    refine q_goto 9 13 k_W_isEmpty_9 rfl rfl ?_
    exact q_zret 13 k_W_isEmpty_13 rfl (Or.inr rfl) hf
theorem k_W_isDry_0 : decode (mtC m_W_isDry) 0 = .ok (.aload_n 0, 1) := by decide +kernel
theorem k_W_isDry_1 : decode (mtC m_W_isDry) 1 = .ok (.getfield 57, 3) := by decide +kernel
theorem k_W_isDry_4 : decode (mtC m_W_isDry) 4 = .ok (.bipush 100, 2) := by decide +kernel
theorem k_W_isDry_6 : decode (mtC m_W_isDry) 6 = .ok (.if_icmp .ge 21, 3) := by decide +kernel
theorem k_W_isDry_9 : decode (mtC m_W_isDry) 9 = .ok (.aload_n 0, 1) := by decide +kernel
theorem k_W_isDry_10 : decode (mtC m_W_isDry) 10 = .ok (.getfield 24, 3) := by decide +kernel
theorem k_W_isDry_13 : decode (mtC m_W_isDry) 13 = .ok (.iconst 5, 1) := by decide +kernel
theorem k_W_isDry_14 : decode (mtC m_W_isDry) 14 = .ok (.if_icmp .eq 17, 3) := by decide +kernel
theorem k_W_isDry_17 : decode (mtC m_W_isDry) 17 = .ok (.aload_n 0, 1) := by decide +kernel
theorem k_W_isDry_18 : decode (mtC m_W_isDry) 18 = .ok (.getfield 20, 3) := by decide +kernel
theorem k_W_isDry_21 : decode (mtC m_W_isDry) 21 = .ok (.getfield 51, 3) := by decide +kernel
theorem k_W_isDry_24 : decode (mtC m_W_isDry) 24 = .ok (.ifCond .ne 7, 3) := by decide +kernel
theorem k_W_isDry_27 : decode (mtC m_W_isDry) 27 = .ok (.iconst 1, 1) := by decide +kernel
theorem k_W_isDry_28 : decode (mtC m_W_isDry) 28 = .ok (.goto 4, 3) := by decide +kernel
theorem k_W_isDry_31 : decode (mtC m_W_isDry) 31 = .ok (.iconst 0, 1) := by decide +kernel
theorem k_W_isDry_32 : decode (mtC m_W_isDry) 32 = .ok (.ireturn, 1) := by decide +kernel
set_option maxHeartbeats 4000000 in
set_option maxRecDepth 100000 in
theorem T_W_isDry_0 {d : Nat} {i0 : Nat} {M : AMem} {Q : Option AV → AMem → Prop} (o0 : okH 2 i0 = true) (h : ((100 ≤ wI (M 2 i0 6)) → Q (some (vI 1)) M) ∧ (¬ (100 ≤ wI (M 2 i0 6)) → ((wI (M 2 i0 2) = 5) → Q (some (vI 0)) M) ∧ (¬ (wI (M 2 i0 2) = 5) → ((¬ wI (M 0 i0 1) = 0) → Q (some (vI 0)) M) ∧ (¬ (¬ wI (M 0 i0 1) = 0) → Q (some (vI 1)) M)))) : RunQ d m_W_isDry 0 [some (vR 2 i0)] [] M Q := by
  refine q_aload_n 0 k_W_isDry_0 rfl ?_
  refine q_getfield 1 k_W_isDry_1 fk_2_57 o0 (v := vI (M 2 i0 6)) rfl ?_
  refine q_bipush 4 k_W_isDry_4 (by decide) ?_
  refine q_icmp_ge 6 27 k_W_isDry_6 rfl rfl (fun c6 => ?_) (fun c6 => ?_)
  · have ht := h.1 c6
    refine q_iconst 27 k_W_isDry_27 ?_
    refine q_goto 28 32 k_W_isDry_28 rfl rfl ?_
    exact q_zret 32 k_W_isDry_32 rfl (Or.inr rfl) ht
  · have hf := h.2 c6
    refine q_aload_n 9 k_W_isDry_9 rfl ?_
    refine q_getfield 10 k_W_isDry_10 fk_2_24 o0 (v := vI (M 2 i0 2)) rfl ?_
    refine q_iconst 13 k_W_isDry_13 ?_
    refine q_icmp_eq 14 31 k_W_isDry_14 rfl rfl (fun c14 => ?_) (fun c14 => ?_)
    · have hft := hf.1 c14
      refine q_iconst 31 k_W_isDry_31 ?_
      exact q_zret 32 k_W_isDry_32 rfl (Or.inl rfl) hft
    · have hff := hf.2 c14
      refine q_aload_n 17 k_W_isDry_17 rfl ?_
      refine q_getfield 18 k_W_isDry_18 fk_2_20 o0 (v := vR 0 i0) rfl ?_
      refine q_getfield 21 k_W_isDry_21 fk_2_51 o0 (v := vI (M 0 i0 1)) rfl ?_
      refine q_if_ne 24 31 k_W_isDry_24 rfl rfl (fun c24 => ?_) (fun c24 => ?_)
      · have hfft := hff.1 c24
        refine q_iconst 31 k_W_isDry_31 ?_
        exact q_zret 32 k_W_isDry_32 rfl (Or.inl rfl) hfft
      · have hfff := hff.2 c24
        refine q_iconst 27 k_W_isDry_27 ?_
        refine q_goto 28 32 k_W_isDry_28 rfl rfl ?_
        exact q_zret 32 k_W_isDry_32 rfl (Or.inr rfl) hfff
theorem k_W_nextNumber_0 : decode (mtC m_W_nextNumber) 0 = .ok (.aload_n 0, 1) := by decide +kernel
theorem k_W_nextNumber_1 : decode (mtC m_W_nextNumber) 1 = .ok (.getfield 24, 3) := by decide +kernel
theorem k_W_nextNumber_4 : decode (mtC m_W_nextNumber) 4 = .ok (.iconst 5, 1) := by decide +kernel
theorem k_W_nextNumber_5 : decode (mtC m_W_nextNumber) 5 = .ok (.if_icmp .eq 11, 3) := by decide +kernel
theorem k_W_nextNumber_8 : decode (mtC m_W_nextNumber) 8 = .ok (.aload_n 0, 1) := by decide +kernel
theorem k_W_nextNumber_9 : decode (mtC m_W_nextNumber) 9 = .ok (.getfield 20, 3) := by decide +kernel
theorem k_W_nextNumber_12 : decode (mtC m_W_nextNumber) 12 = .ok (.invokevirtual 119, 3) := by decide +kernel
theorem k_W_nextNumber_15 : decode (mtC m_W_nextNumber) 15 = .ok (.ireturn, 1) := by decide +kernel
theorem k_W_nextNumber_16 : decode (mtC m_W_nextNumber) 16 = .ok (.aload_n 0, 1) := by decide +kernel
theorem k_W_nextNumber_17 : decode (mtC m_W_nextNumber) 17 = .ok (.getfield 60, 3) := by decide +kernel
theorem k_W_nextNumber_20 : decode (mtC m_W_nextNumber) 20 = .ok (.invokestatic 89, 3) := by decide +kernel
theorem k_W_nextNumber_23 : decode (mtC m_W_nextNumber) 23 = .ok (.iconst 1, 1) := by decide +kernel
theorem k_W_nextNumber_24 : decode (mtC m_W_nextNumber) 24 = .ok (.iadd, 1) := by decide +kernel
theorem k_W_nextNumber_25 : decode (mtC m_W_nextNumber) 25 = .ok (.istore_n 1, 1) := by decide +kernel
theorem k_W_nextNumber_26 : decode (mtC m_W_nextNumber) 26 = .ok (.iload_n 1, 1) := by decide +kernel
theorem k_W_nextNumber_27 : decode (mtC m_W_nextNumber) 27 = .ok (.sipush 600, 3) := by decide +kernel
theorem k_W_nextNumber_30 : decode (mtC m_W_nextNumber) 30 = .ok (.if_icmp .gt 18, 3) := by decide +kernel
theorem k_W_nextNumber_33 : decode (mtC m_W_nextNumber) 33 = .ok (.iload_n 1, 1) := by decide +kernel
theorem k_W_nextNumber_34 : decode (mtC m_W_nextNumber) 34 = .ok (.invokestatic 156, 3) := by decide +kernel
theorem k_W_nextNumber_37 : decode (mtC m_W_nextNumber) 37 = .ok (.ifCond .eq 5, 3) := by decide +kernel
theorem k_W_nextNumber_40 : decode (mtC m_W_nextNumber) 40 = .ok (.iload_n 1, 1) := by decide +kernel
theorem k_W_nextNumber_41 : decode (mtC m_W_nextNumber) 41 = .ok (.ireturn, 1) := by decide +kernel
theorem k_W_nextNumber_42 : decode (mtC m_W_nextNumber) 42 = .ok (.iinc 1 1, 3) := by decide +kernel
theorem k_W_nextNumber_45 : decode (mtC m_W_nextNumber) 45 = .ok (.goto (-19), 3) := by decide +kernel
theorem k_W_nextNumber_48 : decode (mtC m_W_nextNumber) 48 = .ok (.iconst (-1), 1) := by decide +kernel
theorem k_W_nextNumber_49 : decode (mtC m_W_nextNumber) 49 = .ok (.ireturn, 1) := by decide +kernel
set_option maxHeartbeats 4000000 in
set_option maxRecDepth 100000 in
theorem T_W_nextNumber_0 {d : Nat} {i0 : Nat} {M : AMem} {Q : Option AV → AMem → Prop} (o0 : okH 2 i0 = true) (h : ((wI (M 2 i0 2) = 5) → CallI d m_Q_numberOf [vI (M 2 i0 7)] M (fun y2 M1 => RunQ (d + 1) m_W_nextNumber 26 [some (vR 2 i0), some (vI (y2 + 1))] [] M1 Q)) ∧ (¬ (wI (M 2 i0 2) = 5) → CallI d m_Q_firstNumber [vR 0 i0] M (fun y4 M3 => Q (some (vI y4)) M3))) : RunQ (d + 1) m_W_nextNumber 0 [some (vR 2 i0), none] [] M Q := by
  refine q_aload_n 0 k_W_nextNumber_0 rfl ?_
  refine q_getfield 1 k_W_nextNumber_1 fk_2_24 o0 (v := vI (M 2 i0 2)) rfl ?_
  refine q_iconst 4 k_W_nextNumber_4 ?_
  refine q_icmp_eq 5 16 k_W_nextNumber_5 rfl rfl (fun c5 => ?_) (fun c5 => ?_)
  · have ht := h.1 c5
    refine q_aload_n 16 k_W_nextNumber_16 rfl ?_
    refine q_getfield 17 k_W_nextNumber_17 fk_2_60 o0 (v := vI (M 2 i0 7)) rfl ?_
    refine q_sI 20 [vI (M 2 i0 7)] [] k_W_nextNumber_20 rfl lk_2_89 rfl rfl rfl rfl rfl rfl (CallI.mono (fun y2 M1 h5 => ?_) ht)
    refine q_iconst 23 k_W_nextNumber_23 ?_
    refine q_iadd 24 k_W_nextNumber_24 ?_
    refine q_istore_n 25 k_W_nextNumber_25 (ls' := [some (vR 2 i0), some (vI (y2 + 1))]) rfl rfl ?_
    exact h5
  · have hf := h.2 c5
    refine q_aload_n 8 k_W_nextNumber_8 rfl ?_
    refine q_getfield 9 k_W_nextNumber_9 fk_2_20 o0 (v := vR 0 i0) rfl ?_
    refine q_vI 12 [] [] k_W_nextNumber_12 lk_2_119 rfl rfl rfl o0 rfl rfl rfl rfl (CallI.mono (fun y4 M3 h6 => ?_) hf)
    exact q_iret 15 k_W_nextNumber_15 rfl h6
set_option maxHeartbeats 4000000 in
set_option maxRecDepth 100000 in
theorem T_W_nextNumber_26 {d : Nat} {i0 : Nat} {x1 : Int} {M : AMem} {Q : Option AV → AMem → Prop} (o0 : okH 2 i0 = true) (h : ((600 < wI x1) → Q (some (vI (-1))) M) ∧ (¬ (600 < wI x1) → CallI d m_W_isPrime [vI x1] M (fun y2 M1 => ((wI y2 = 0) → RunQ (d + 1) m_W_nextNumber 26 [some (vR 2 i0), some (vI (x1 + 1))] [] M1 Q) ∧ (¬ (wI y2 = 0) → Q (some (vI x1)) M1)))) : RunQ (d + 1) m_W_nextNumber 26 [some (vR 2 i0), some (vI x1)] [] M Q := by
  refine q_iload_n 26 k_W_nextNumber_26 rfl ?_
  refine q_sipush 27 k_W_nextNumber_27 (by decide) ?_
  refine q_icmp_gt 30 48 k_W_nextNumber_30 rfl rfl (fun c30 => ?_) (fun c30 => ?_)
  · have ht := h.1 c30
    refine q_iconst 48 k_W_nextNumber_48 ?_
    exact q_iret 49 k_W_nextNumber_49 rfl ht
  · have hf := h.2 c30
    refine q_iload_n 33 k_W_nextNumber_33 rfl ?_
    refine q_sI 34 [vI x1] [] k_W_nextNumber_34 rfl lk_2_156 rfl rfl rfl rfl rfl rfl (CallI.mono (fun y2 M1 h3 => ?_) hf)
    refine q_if_eq 37 42 k_W_nextNumber_37 rfl rfl (fun c37 => ?_) (fun c37 => ?_)
    · have h3t := h3.1 c37
      refine q_iinc 42 k_W_nextNumber_42 (ls' := [some (vR 2 i0), some (vI (x1 + 1))]) rfl rfl rfl ?_
      refine q_goto 45 26 k_W_nextNumber_45 rfl rfl ?_
      exact h3t
    · have h3f := h3.2 c37
      refine q_iload_n 40 k_W_nextNumber_40 rfl ?_
      exact q_iret 41 k_W_nextNumber_41 rfl h3f
theorem k_W_numberBehind_0 : decode (mtC m_W_numberBehind) 0 = .ok (.aload_n 0, 1) := by decide +kernel
theorem k_W_numberBehind_1 : decode (mtC m_W_numberBehind) 1 = .ok (.ldc 118, 2) := by decide +kernel
theorem k_W_numberBehind_3 : decode (mtC m_W_numberBehind) 3 = .ok (.iload_n 1, 1) := by decide +kernel
theorem k_W_numberBehind_4 : decode (mtC m_W_numberBehind) 4 = .ok (.invokevirtual 159, 3) := by decide +kernel
theorem k_W_numberBehind_7 : decode (mtC m_W_numberBehind) 7 = .ok (.pop, 1) := by decide +kernel
theorem k_W_numberBehind_8 : decode (mtC m_W_numberBehind) 8 = .ok (.aload_n 0, 1) := by decide +kernel
theorem k_W_numberBehind_9 : decode (mtC m_W_numberBehind) 9 = .ok (.invokevirtual 109, 3) := by decide +kernel
theorem k_W_numberBehind_12 : decode (mtC m_W_numberBehind) 12 = .ok (.ifCond .eq 7, 3) := by decide +kernel
theorem k_W_numberBehind_15 : decode (mtC m_W_numberBehind) 15 = .ok (.iconst (-1), 1) := by decide +kernel
theorem k_W_numberBehind_16 : decode (mtC m_W_numberBehind) 16 = .ok (.goto 7, 3) := by decide +kernel
theorem k_W_numberBehind_19 : decode (mtC m_W_numberBehind) 19 = .ok (.aload_n 0, 1) := by decide +kernel
theorem k_W_numberBehind_20 : decode (mtC m_W_numberBehind) 20 = .ok (.invokevirtual 112, 3) := by decide +kernel
theorem k_W_numberBehind_23 : decode (mtC m_W_numberBehind) 23 = .ok (.ireturn, 1) := by decide +kernel
set_option maxHeartbeats 4000000 in
set_option maxRecDepth 100000 in
theorem T_W_numberBehind_0 {d : Nat} {i0 : Nat} {x1 : Int} {M : AMem} {Q : Option AV → AMem → Prop} (o0 : okH 2 i0 = true) (h : CallI d m_W_tellBelow [vR 2 i0, vI 1000000, vI x1] M (fun y2 M1 => CallI d m_W_isDry [vR 2 i0] M1 (fun y4 M3 => ((wI y4 = 0) → CallI d m_W_nextNumber [vR 2 i0] M3 (fun y6 M5 => Q (some (vI y6)) M5)) ∧ (¬ (wI y4 = 0) → Q (some (vI (-1))) M3)))) : RunQ (d + 1) m_W_numberBehind 0 [some (vR 2 i0), some (vI x1)] [] M Q := by
  refine q_aload_n 0 k_W_numberBehind_0 rfl ?_
  refine q_ldc 1 k_W_numberBehind_1 ck_2_118 ?_
  refine q_iload_n 3 k_W_numberBehind_3 rfl ?_
  refine q_vI 4 [vI 1000000, vI x1] [] k_W_numberBehind_4 lk_2_159 rfl rfl rfl o0 rfl rfl rfl rfl (CallI.mono (fun y2 M1 h7 => ?_) h)
  refine q_pop 7 k_W_numberBehind_7 rfl ?_
  refine q_aload_n 8 k_W_numberBehind_8 rfl ?_
  refine q_vI 9 [] [] k_W_numberBehind_9 lk_2_109 rfl rfl rfl o0 rfl rfl rfl rfl (CallI.mono (fun y4 M3 h8 => ?_) h7)
  refine q_if_eq 12 19 k_W_numberBehind_12 rfl rfl (fun c12 => ?_) (fun c12 => ?_)
  · have h8t := h8.1 c12
    refine q_aload_n 19 k_W_numberBehind_19 rfl ?_
    refine q_vI 20 [] [] k_W_numberBehind_20 lk_2_112 rfl rfl rfl o0 rfl rfl rfl rfl (CallI.mono (fun y6 M5 h9 => ?_) h8t)
    exact q_iret 23 k_W_numberBehind_23 rfl h9
  · have h8f := h8.2 c12
    refine q_iconst 15 k_W_numberBehind_15 ?_
    refine q_goto 16 23 k_W_numberBehind_16 rfl rfl ?_
    exact q_iret 23 k_W_numberBehind_23 rfl h8f
theorem k_W_lastNumber_0 : decode (mtC m_W_lastNumber) 0 = .ok (.aload_n 0, 1) := by decide +kernel
theorem k_W_lastNumber_1 : decode (mtC m_W_lastNumber) 1 = .ok (.getfield 57, 3) := by decide +kernel
theorem k_W_lastNumber_4 : decode (mtC m_W_lastNumber) 4 = .ok (.ifCond .ne 7, 3) := by decide +kernel
theorem k_W_lastNumber_7 : decode (mtC m_W_lastNumber) 7 = .ok (.iconst (-1), 1) := by decide +kernel
theorem k_W_lastNumber_8 : decode (mtC m_W_lastNumber) 8 = .ok (.goto 10, 3) := by decide +kernel
theorem k_W_lastNumber_11 : decode (mtC m_W_lastNumber) 11 = .ok (.aload_n 0, 1) := by decide +kernel
theorem k_W_lastNumber_12 : decode (mtC m_W_lastNumber) 12 = .ok (.getfield 60, 3) := by decide +kernel
theorem k_W_lastNumber_15 : decode (mtC m_W_lastNumber) 15 = .ok (.invokestatic 89, 3) := by decide +kernel
theorem k_W_lastNumber_18 : decode (mtC m_W_lastNumber) 18 = .ok (.ireturn, 1) := by decide +kernel
set_option maxHeartbeats 4000000 in
set_option maxRecDepth 100000 in
theorem T_W_lastNumber_0 {d : Nat} {i0 : Nat} {M : AMem} {Q : Option AV → AMem → Prop} (o0 : okH 2 i0 = true) (h : ((¬ wI (M 2 i0 6) = 0) → CallI d m_Q_numberOf [vI (M 2 i0 7)] M (fun y2 M1 => Q (some (vI y2)) M1)) ∧ (¬ (¬ wI (M 2 i0 6) = 0) → Q (some (vI (-1))) M)) : RunQ (d + 1) m_W_lastNumber 0 [some (vR 2 i0)] [] M Q := by
  refine q_aload_n 0 k_W_lastNumber_0 rfl ?_
  refine q_getfield 1 k_W_lastNumber_1 fk_2_57 o0 (v := vI (M 2 i0 6)) rfl ?_
  refine q_if_ne 4 11 k_W_lastNumber_4 rfl rfl (fun c4 => ?_) (fun c4 => ?_)
  · have ht := h.1 c4
    refine q_aload_n 11 k_W_lastNumber_11 rfl ?_
    refine q_getfield 12 k_W_lastNumber_12 fk_2_60 o0 (v := vI (M 2 i0 7)) rfl ?_
    refine q_sI 15 [vI (M 2 i0 7)] [] k_W_lastNumber_15 rfl lk_2_89 rfl rfl rfl rfl rfl rfl (CallI.mono (fun y2 M1 h3 => ?_) ht)
    exact q_iret 18 k_W_lastNumber_18 rfl h3
  · have hf := h.2 c4
    refine q_iconst 7 k_W_lastNumber_7 ?_
    refine q_goto 8 18 k_W_lastNumber_8 rfl rfl ?_
    exact q_iret 18 k_W_lastNumber_18 rfl hf
theorem k_W_lastPlace_0 : decode (mtC m_W_lastPlace) 0 = .ok (.aload_n 0, 1) := by decide +kernel
theorem k_W_lastPlace_1 : decode (mtC m_W_lastPlace) 1 = .ok (.getfield 57, 3) := by decide +kernel
theorem k_W_lastPlace_4 : decode (mtC m_W_lastPlace) 4 = .ok (.ifCond .eq 23, 3) := by decide +kernel
theorem k_W_lastPlace_7 : decode (mtC m_W_lastPlace) 7 = .ok (.aload_n 0, 1) := by decide +kernel
theorem k_W_lastPlace_8 : decode (mtC m_W_lastPlace) 8 = .ok (.invokevirtual 162, 3) := by decide +kernel
theorem k_W_lastPlace_11 : decode (mtC m_W_lastPlace) 11 = .ok (.ifCond .eq 16, 3) := by decide +kernel
theorem k_W_lastPlace_14 : decode (mtC m_W_lastPlace) 14 = .ok (.iload_n 1, 1) := by decide +kernel
theorem k_W_lastPlace_15 : decode (mtC m_W_lastPlace) 15 = .ok (.iconst 3, 1) := by decide +kernel
theorem k_W_lastPlace_16 : decode (mtC m_W_lastPlace) 16 = .ok (.if_icmp .ne 13, 3) := by decide +kernel
theorem k_W_lastPlace_19 : decode (mtC m_W_lastPlace) 19 = .ok (.aload_n 0, 1) := by decide +kernel
theorem k_W_lastPlace_20 : decode (mtC m_W_lastPlace) 20 = .ok (.getfield 24, 3) := by decide +kernel
theorem k_W_lastPlace_23 : decode (mtC m_W_lastPlace) 23 = .ok (.iconst 2, 1) := by decide +kernel
theorem k_W_lastPlace_24 : decode (mtC m_W_lastPlace) 24 = .ok (.if_icmp .eq 5, 3) := by decide +kernel
theorem k_W_lastPlace_27 : decode (mtC m_W_lastPlace) 27 = .ok (.iconst (-1), 1) := by decide +kernel
theorem k_W_lastPlace_28 : decode (mtC m_W_lastPlace) 28 = .ok (.ireturn, 1) := by decide +kernel
theorem k_W_lastPlace_29 : decode (mtC m_W_lastPlace) 29 = .ok (.aload_n 0, 1) := by decide +kernel
theorem k_W_lastPlace_30 : decode (mtC m_W_lastPlace) 30 = .ok (.getfield 60, 3) := by decide +kernel
theorem k_W_lastPlace_33 : decode (mtC m_W_lastPlace) 33 = .ok (.invokestatic 97, 3) := by decide +kernel
theorem k_W_lastPlace_36 : decode (mtC m_W_lastPlace) 36 = .ok (.istore_n 2, 1) := by decide +kernel
theorem k_W_lastPlace_37 : decode (mtC m_W_lastPlace) 37 = .ok (.iload_n 1, 1) := by decide +kernel
theorem k_W_lastPlace_38 : decode (mtC m_W_lastPlace) 38 = .ok (.iconst 1, 1) := by decide +kernel
theorem k_W_lastPlace_39 : decode (mtC m_W_lastPlace) 39 = .ok (.if_icmp .ne 26, 3) := by decide +kernel
theorem k_W_lastPlace_42 : decode (mtC m_W_lastPlace) 42 = .ok (.iload_n 2, 1) := by decide +kernel
theorem k_W_lastPlace_43 : decode (mtC m_W_lastPlace) 43 = .ok (.bipush 64, 2) := by decide +kernel
theorem k_W_lastPlace_45 : decode (mtC m_W_lastPlace) 45 = .ok (.idiv, 1) := by decide +kernel
theorem k_W_lastPlace_46 : decode (mtC m_W_lastPlace) 46 = .ok (.istore_n 3, 1) := by decide +kernel
theorem k_W_lastPlace_47 : decode (mtC m_W_lastPlace) 47 = .ok (.aload_n 0, 1) := by decide +kernel
theorem k_W_lastPlace_48 : decode (mtC m_W_lastPlace) 48 = .ok (.getfield 24, 3) := by decide +kernel
theorem k_W_lastPlace_51 : decode (mtC m_W_lastPlace) 51 = .ok (.iconst 3, 1) := by decide +kernel
theorem k_W_lastPlace_52 : decode (mtC m_W_lastPlace) 52 = .ok (.if_icmp .ne 11, 3) := by decide +kernel
theorem k_W_lastPlace_55 : decode (mtC m_W_lastPlace) 55 = .ok (.aload_n 0, 1) := by decide +kernel
theorem k_W_lastPlace_56 : decode (mtC m_W_lastPlace) 56 = .ok (.iload_n 3, 1) := by decide +kernel
theorem k_W_lastPlace_57 : decode (mtC m_W_lastPlace) 57 = .ok (.invokevirtual 103, 3) := by decide +kernel
theorem k_W_lastPlace_60 : decode (mtC m_W_lastPlace) 60 = .ok (.goto 4, 3) := by decide +kernel
theorem k_W_lastPlace_63 : decode (mtC m_W_lastPlace) 63 = .ok (.iload_n 3, 1) := by decide +kernel
theorem k_W_lastPlace_64 : decode (mtC m_W_lastPlace) 64 = .ok (.ireturn, 1) := by decide +kernel
theorem k_W_lastPlace_65 : decode (mtC m_W_lastPlace) 65 = .ok (.iload_n 1, 1) := by decide +kernel
theorem k_W_lastPlace_66 : decode (mtC m_W_lastPlace) 66 = .ok (.iconst 2, 1) := by decide +kernel
theorem k_W_lastPlace_67 : decode (mtC m_W_lastPlace) 67 = .ok (.if_icmp .ne 13, 3) := by decide +kernel
theorem k_W_lastPlace_70 : decode (mtC m_W_lastPlace) 70 = .ok (.iload_n 2, 1) := by decide +kernel
theorem k_W_lastPlace_71 : decode (mtC m_W_lastPlace) 71 = .ok (.bipush 8, 2) := by decide +kernel
theorem k_W_lastPlace_73 : decode (mtC m_W_lastPlace) 73 = .ok (.idiv, 1) := by decide +kernel
theorem k_W_lastPlace_74 : decode (mtC m_W_lastPlace) 74 = .ok (.bipush 8, 2) := by decide +kernel
theorem k_W_lastPlace_76 : decode (mtC m_W_lastPlace) 76 = .ok (.irem, 1) := by decide +kernel
theorem k_W_lastPlace_77 : decode (mtC m_W_lastPlace) 77 = .ok (.goto 7, 3) := by decide +kernel
theorem k_W_lastPlace_80 : decode (mtC m_W_lastPlace) 80 = .ok (.iload_n 2, 1) := by decide +kernel
theorem k_W_lastPlace_81 : decode (mtC m_W_lastPlace) 81 = .ok (.bipush 8, 2) := by decide +kernel
theorem k_W_lastPlace_83 : decode (mtC m_W_lastPlace) 83 = .ok (.irem, 1) := by decide +kernel
theorem k_W_lastPlace_84 : decode (mtC m_W_lastPlace) 84 = .ok (.ireturn, 1) := by decide +kernel
set_option maxHeartbeats 4000000 in
set_option maxRecDepth 100000 in
theorem T_W_lastPlace_0 {d : Nat} {i0 : Nat} {x1 : Int} {M : AMem} {Q : Option AV → AMem → Prop} (o0 : okH 2 i0 = true) (h : ((wI (M 2 i0 6) = 0) → Q (some (vI (-1))) M) ∧ (¬ (wI (M 2 i0 6) = 0) → CallI d m_W_hasPlaces [vR 2 i0] M (fun y2 M1 => ((wI y2 = 0) → Q (some (vI (-1))) M1) ∧ (¬ (wI y2 = 0) → ((¬ wI x1 = 3) → CallI d m_Q_tagOf [vI (M1 2 i0 7)] M1 (fun y4 M3 => ((¬ wI x1 = 1) → ((¬ wI x1 = 2) → Q (some (vI (Int.tmod (wI y4) (8)))) M3) ∧ (¬ (¬ wI x1 = 2) → Q (some (vI (Int.tmod (wI (Int.tdiv (wI y4) (8))) (8)))) M3)) ∧ (¬ (¬ wI x1 = 1) → ((¬ wI (M3 2 i0 2) = 3) → Q (some (vI (Int.tdiv (wI y4) (64)))) M3) ∧ (¬ (¬ wI (M3 2 i0 2) = 3) → CallI d m_W_rankOf [vR 2 i0, vI (Int.tdiv (wI y4) (64))] M3 (fun y6 M5 => Q (some (vI y6)) M5))))) ∧ (¬ (¬ wI x1 = 3) → ((wI (M1 2 i0 2) = 2) → CallI d m_Q_tagOf [vI (M1 2 i0 7)] M1 (fun y8 M7 => ((¬ wI x1 = 1) → ((¬ wI x1 = 2) → Q (some (vI (Int.tmod (wI y8) (8)))) M7) ∧ (¬ (¬ wI x1 = 2) → Q (some (vI (Int.tmod (wI (Int.tdiv (wI y8) (8))) (8)))) M7)) ∧ (¬ (¬ wI x1 = 1) → ((¬ wI (M7 2 i0 2) = 3) → Q (some (vI (Int.tdiv (wI y8) (64)))) M7) ∧ (¬ (¬ wI (M7 2 i0 2) = 3) → CallI d m_W_rankOf [vR 2 i0, vI (Int.tdiv (wI y8) (64))] M7 (fun y10 M9 => Q (some (vI y10)) M9))))) ∧ (¬ (wI (M1 2 i0 2) = 2) → Q (some (vI (-1))) M1)))))) : RunQ (d + 1) m_W_lastPlace 0 [some (vR 2 i0), some (vI x1), none, none] [] M Q := by
  refine q_aload_n 0 k_W_lastPlace_0 rfl ?_
  refine q_getfield 1 k_W_lastPlace_1 fk_2_57 o0 (v := vI (M 2 i0 6)) rfl ?_
  refine q_if_eq 4 27 k_W_lastPlace_4 rfl rfl (fun c4 => ?_) (fun c4 => ?_)
  · have ht := h.1 c4
    refine q_iconst 27 k_W_lastPlace_27 ?_
    exact q_iret 28 k_W_lastPlace_28 rfl ht
  · have hf := h.2 c4
    refine q_aload_n 7 k_W_lastPlace_7 rfl ?_
    refine q_vI 8 [] [] k_W_lastPlace_8 lk_2_162 rfl rfl rfl o0 rfl rfl rfl rfl (CallI.mono (fun y2 M1 h11 => ?_) hf)
    refine q_if_eq 11 27 k_W_lastPlace_11 rfl rfl (fun c11 => ?_) (fun c11 => ?_)
    · have h11t := h11.1 c11
      refine q_iconst 27 k_W_lastPlace_27 ?_
      exact q_iret 28 k_W_lastPlace_28 rfl h11t
    · have h11f := h11.2 c11
      refine q_iload_n 14 k_W_lastPlace_14 rfl ?_
      refine q_iconst 15 k_W_lastPlace_15 ?_
      refine q_icmp_ne 16 29 k_W_lastPlace_16 rfl rfl (fun c16 => ?_) (fun c16 => ?_)
      · have h11ft := h11f.1 c16
        refine q_aload_n 29 k_W_lastPlace_29 rfl ?_
        refine q_getfield 30 k_W_lastPlace_30 fk_2_60 o0 (v := vI (M1 2 i0 7)) rfl ?_
        refine q_sI 33 [vI (M1 2 i0 7)] [] k_W_lastPlace_33 rfl lk_2_97 rfl rfl rfl rfl rfl rfl (CallI.mono (fun y4 M3 h12 => ?_) h11ft)
        refine q_istore_n 36 k_W_lastPlace_36 (ls' := [some (vR 2 i0), some (vI x1), some (vI y4), none]) rfl rfl ?_
        refine q_iload_n 37 k_W_lastPlace_37 rfl ?_
        refine q_iconst 38 k_W_lastPlace_38 ?_
        refine q_icmp_ne 39 65 k_W_lastPlace_39 rfl rfl (fun c39 => ?_) (fun c39 => ?_)
        · have h12t := h12.1 c39
          refine q_iload_n 65 k_W_lastPlace_65 rfl ?_
          refine q_iconst 66 k_W_lastPlace_66 ?_
          refine q_icmp_ne 67 80 k_W_lastPlace_67 rfl rfl (fun c67 => ?_) (fun c67 => ?_)
          · have h12tt := h12t.1 c67
            refine q_iload_n 80 k_W_lastPlace_80 rfl ?_
            refine q_bipush 81 k_W_lastPlace_81 (by decide) ?_
            refine q_irem 83 k_W_lastPlace_83 (by decide) ?_
            exact q_iret 84 k_W_lastPlace_84 rfl h12tt
          · have h12tf := h12t.2 c67
            refine q_iload_n 70 k_W_lastPlace_70 rfl ?_
            refine q_bipush 71 k_W_lastPlace_71 (by decide) ?_
            refine q_idiv 73 k_W_lastPlace_73 (by decide) ?_
            refine q_bipush 74 k_W_lastPlace_74 (by decide) ?_
            refine q_irem 76 k_W_lastPlace_76 (by decide) ?_
            refine q_goto 77 84 k_W_lastPlace_77 rfl rfl ?_
            exact q_iret 84 k_W_lastPlace_84 rfl h12tf
        · have h12f := h12.2 c39
          refine q_iload_n 42 k_W_lastPlace_42 rfl ?_
          refine q_bipush 43 k_W_lastPlace_43 (by decide) ?_
          refine q_idiv 45 k_W_lastPlace_45 (by decide) ?_
          refine q_istore_n 46 k_W_lastPlace_46 (ls' := [some (vR 2 i0), some (vI x1), some (vI y4), some (vI (Int.tdiv (wI y4) (64)))]) rfl rfl ?_
          refine q_aload_n 47 k_W_lastPlace_47 rfl ?_
          refine q_getfield 48 k_W_lastPlace_48 fk_2_24 o0 (v := vI (M3 2 i0 2)) rfl ?_
          refine q_iconst 51 k_W_lastPlace_51 ?_
          refine q_icmp_ne 52 63 k_W_lastPlace_52 rfl rfl (fun c52 => ?_) (fun c52 => ?_)
          · have h12ft := h12f.1 c52
            refine q_iload_n 63 k_W_lastPlace_63 rfl ?_
            exact q_iret 64 k_W_lastPlace_64 rfl h12ft
          · have h12ff := h12f.2 c52
            refine q_aload_n 55 k_W_lastPlace_55 rfl ?_
            refine q_iload_n 56 k_W_lastPlace_56 rfl ?_
            refine q_vI 57 [vI (Int.tdiv (wI y4) (64))] [] k_W_lastPlace_57 lk_2_103 rfl rfl rfl o0 rfl rfl rfl rfl (CallI.mono (fun y6 M5 h13 => ?_) h12ff)
            refine q_goto 60 64 k_W_lastPlace_60 rfl rfl ?_
            exact q_iret 64 k_W_lastPlace_64 rfl h13
      · have h11ff := h11f.2 c16
        refine q_aload_n 19 k_W_lastPlace_19 rfl ?_
        refine q_getfield 20 k_W_lastPlace_20 fk_2_24 o0 (v := vI (M1 2 i0 2)) rfl ?_
        refine q_iconst 23 k_W_lastPlace_23 ?_
        refine q_icmp_eq 24 29 k_W_lastPlace_24 rfl rfl (fun c24 => ?_) (fun c24 => ?_)
        · have h11fft := h11ff.1 c24
          refine q_aload_n 29 k_W_lastPlace_29 rfl ?_
          refine q_getfield 30 k_W_lastPlace_30 fk_2_60 o0 (v := vI (M1 2 i0 7)) rfl ?_
          refine q_sI 33 [vI (M1 2 i0 7)] [] k_W_lastPlace_33 rfl lk_2_97 rfl rfl rfl rfl rfl rfl (CallI.mono (fun y8 M7 h14 => ?_) h11fft)
          refine q_istore_n 36 k_W_lastPlace_36 (ls' := [some (vR 2 i0), some (vI x1), some (vI y8), none]) rfl rfl ?_
          refine q_iload_n 37 k_W_lastPlace_37 rfl ?_
          refine q_iconst 38 k_W_lastPlace_38 ?_
          refine q_icmp_ne 39 65 k_W_lastPlace_39 rfl rfl (fun c39 => ?_) (fun c39 => ?_)
          · have h14t := h14.1 c39
            refine q_iload_n 65 k_W_lastPlace_65 rfl ?_
            refine q_iconst 66 k_W_lastPlace_66 ?_
            refine q_icmp_ne 67 80 k_W_lastPlace_67 rfl rfl (fun c67 => ?_) (fun c67 => ?_)
            · have h14tt := h14t.1 c67
              refine q_iload_n 80 k_W_lastPlace_80 rfl ?_
              refine q_bipush 81 k_W_lastPlace_81 (by decide) ?_
              refine q_irem 83 k_W_lastPlace_83 (by decide) ?_
              exact q_iret 84 k_W_lastPlace_84 rfl h14tt
            · have h14tf := h14t.2 c67
              refine q_iload_n 70 k_W_lastPlace_70 rfl ?_
              refine q_bipush 71 k_W_lastPlace_71 (by decide) ?_
              refine q_idiv 73 k_W_lastPlace_73 (by decide) ?_
              refine q_bipush 74 k_W_lastPlace_74 (by decide) ?_
              refine q_irem 76 k_W_lastPlace_76 (by decide) ?_
              refine q_goto 77 84 k_W_lastPlace_77 rfl rfl ?_
              exact q_iret 84 k_W_lastPlace_84 rfl h14tf
          · have h14f := h14.2 c39
            refine q_iload_n 42 k_W_lastPlace_42 rfl ?_
            refine q_bipush 43 k_W_lastPlace_43 (by decide) ?_
            refine q_idiv 45 k_W_lastPlace_45 (by decide) ?_
            refine q_istore_n 46 k_W_lastPlace_46 (ls' := [some (vR 2 i0), some (vI x1), some (vI y8), some (vI (Int.tdiv (wI y8) (64)))]) rfl rfl ?_
            refine q_aload_n 47 k_W_lastPlace_47 rfl ?_
            refine q_getfield 48 k_W_lastPlace_48 fk_2_24 o0 (v := vI (M7 2 i0 2)) rfl ?_
            refine q_iconst 51 k_W_lastPlace_51 ?_
            refine q_icmp_ne 52 63 k_W_lastPlace_52 rfl rfl (fun c52 => ?_) (fun c52 => ?_)
            · have h14ft := h14f.1 c52
              refine q_iload_n 63 k_W_lastPlace_63 rfl ?_
              exact q_iret 64 k_W_lastPlace_64 rfl h14ft
            · have h14ff := h14f.2 c52
              refine q_aload_n 55 k_W_lastPlace_55 rfl ?_
              refine q_iload_n 56 k_W_lastPlace_56 rfl ?_
              refine q_vI 57 [vI (Int.tdiv (wI y8) (64))] [] k_W_lastPlace_57 lk_2_103 rfl rfl rfl o0 rfl rfl rfl rfl (CallI.mono (fun y10 M9 h15 => ?_) h14ff)
              refine q_goto 60 64 k_W_lastPlace_60 rfl rfl ?_
              exact q_iret 64 k_W_lastPlace_64 rfl h15
        · have h11fff := h11ff.2 c24
          refine q_iconst 27 k_W_lastPlace_27 ?_
          exact q_iret 28 k_W_lastPlace_28 rfl h11fff
theorem k_W_limit_0 : decode (mtC m_W_limit) 0 = .ok (.aload_n 0, 1) := by decide +kernel
theorem k_W_limit_1 : decode (mtC m_W_limit) 1 = .ok (.getfield 24, 3) := by decide +kernel
theorem k_W_limit_4 : decode (mtC m_W_limit) 4 = .ok (.tableswitch 111 0 4 #[36, 53, 72, 103, 53], 36) := by decide +kernel
theorem k_W_limit_40 : decode (mtC m_W_limit) 40 = .ok (.iconst 1, 1) := by decide +kernel
theorem k_W_limit_41 : decode (mtC m_W_limit) 41 = .ok (.aload_n 0, 1) := by decide +kernel
theorem k_W_limit_42 : decode (mtC m_W_limit) 42 = .ok (.getfield 57, 3) := by decide +kernel
theorem k_W_limit_45 : decode (mtC m_W_limit) 45 = .ok (.aload_n 0, 1) := by decide +kernel
theorem k_W_limit_46 : decode (mtC m_W_limit) 46 = .ok (.getfield 41, 3) := by decide +kernel
theorem k_W_limit_49 : decode (mtC m_W_limit) 49 = .ok (.invokestatic 165, 3) := by decide +kernel
theorem k_W_limit_52 : decode (mtC m_W_limit) 52 = .ok (.iconst 1, 1) := by decide +kernel
theorem k_W_limit_53 : decode (mtC m_W_limit) 53 = .ok (.isub, 1) := by decide +kernel
theorem k_W_limit_54 : decode (mtC m_W_limit) 54 = .ok (.imul, 1) := by decide +kernel
theorem k_W_limit_55 : decode (mtC m_W_limit) 55 = .ok (.iadd, 1) := by decide +kernel
theorem k_W_limit_56 : decode (mtC m_W_limit) 56 = .ok (.ireturn, 1) := by decide +kernel
theorem k_W_limit_57 : decode (mtC m_W_limit) 57 = .ok (.aload_n 0, 1) := by decide +kernel
theorem k_W_limit_58 : decode (mtC m_W_limit) 58 = .ok (.getfield 57, 3) := by decide +kernel
theorem k_W_limit_61 : decode (mtC m_W_limit) 61 = .ok (.iconst 1, 1) := by decide +kernel
theorem k_W_limit_62 : decode (mtC m_W_limit) 62 = .ok (.iadd, 1) := by decide +kernel
theorem k_W_limit_63 : decode (mtC m_W_limit) 63 = .ok (.aload_n 0, 1) := by decide +kernel
theorem k_W_limit_64 : decode (mtC m_W_limit) 64 = .ok (.getfield 11, 3) := by decide +kernel
theorem k_W_limit_67 : decode (mtC m_W_limit) 67 = .ok (.iconst 0, 1) := by decide +kernel
theorem k_W_limit_68 : decode (mtC m_W_limit) 68 = .ok (.aaload, 1) := by decide +kernel
theorem k_W_limit_69 : decode (mtC m_W_limit) 69 = .ok (.getfield 136, 3) := by decide +kernel
theorem k_W_limit_72 : decode (mtC m_W_limit) 72 = .ok (.invokestatic 170, 3) := by decide +kernel
theorem k_W_limit_75 : decode (mtC m_W_limit) 75 = .ok (.ireturn, 1) := by decide +kernel
theorem k_W_limit_76 : decode (mtC m_W_limit) 76 = .ok (.iconst 2, 1) := by decide +kernel
theorem k_W_limit_77 : decode (mtC m_W_limit) 77 = .ok (.aload_n 0, 1) := by decide +kernel
theorem k_W_limit_78 : decode (mtC m_W_limit) 78 = .ok (.getfield 57, 3) := by decide +kernel
theorem k_W_limit_81 : decode (mtC m_W_limit) 81 = .ok (.imul, 1) := by decide +kernel
theorem k_W_limit_82 : decode (mtC m_W_limit) 82 = .ok (.iconst 1, 1) := by decide +kernel
theorem k_W_limit_83 : decode (mtC m_W_limit) 83 = .ok (.iadd, 1) := by decide +kernel
theorem k_W_limit_84 : decode (mtC m_W_limit) 84 = .ok (.aload_n 0, 1) := by decide +kernel
theorem k_W_limit_85 : decode (mtC m_W_limit) 85 = .ok (.getfield 11, 3) := by decide +kernel
theorem k_W_limit_88 : decode (mtC m_W_limit) 88 = .ok (.iconst 0, 1) := by decide +kernel
theorem k_W_limit_89 : decode (mtC m_W_limit) 89 = .ok (.aaload, 1) := by decide +kernel
theorem k_W_limit_90 : decode (mtC m_W_limit) 90 = .ok (.getfield 136, 3) := by decide +kernel
theorem k_W_limit_93 : decode (mtC m_W_limit) 93 = .ok (.aload_n 0, 1) := by decide +kernel
theorem k_W_limit_94 : decode (mtC m_W_limit) 94 = .ok (.getfield 11, 3) := by decide +kernel
theorem k_W_limit_97 : decode (mtC m_W_limit) 97 = .ok (.iconst 1, 1) := by decide +kernel
theorem k_W_limit_98 : decode (mtC m_W_limit) 98 = .ok (.aaload, 1) := by decide +kernel
theorem k_W_limit_99 : decode (mtC m_W_limit) 99 = .ok (.getfield 136, 3) := by decide +kernel
theorem k_W_limit_102 : decode (mtC m_W_limit) 102 = .ok (.imul, 1) := by decide +kernel
theorem k_W_limit_103 : decode (mtC m_W_limit) 103 = .ok (.invokestatic 170, 3) := by decide +kernel
theorem k_W_limit_106 : decode (mtC m_W_limit) 106 = .ok (.ireturn, 1) := by decide +kernel
theorem k_W_limit_107 : decode (mtC m_W_limit) 107 = .ok (.aload_n 0, 1) := by decide +kernel
theorem k_W_limit_108 : decode (mtC m_W_limit) 108 = .ok (.getfield 41, 3) := by decide +kernel
theorem k_W_limit_111 : decode (mtC m_W_limit) 111 = .ok (.invokestatic 165, 3) := by decide +kernel
theorem k_W_limit_114 : decode (mtC m_W_limit) 114 = .ok (.ireturn, 1) := by decide +kernel
theorem k_W_limit_115 : decode (mtC m_W_limit) 115 = .ok (.aload_n 0, 1) := by decide +kernel
theorem k_W_limit_116 : decode (mtC m_W_limit) 116 = .ok (.getfield 57, 3) := by decide +kernel
theorem k_W_limit_119 : decode (mtC m_W_limit) 119 = .ok (.ireturn, 1) := by decide +kernel
set_option maxHeartbeats 4000000 in
set_option maxRecDepth 100000 in
theorem T_W_limit_0 {d : Nat} {i0 : Nat} {M : AMem} {Q : Option AV → AMem → Prop} (o0 : okH 2 i0 = true) (h : (wI (M 2 i0 2) = 0 → CallI d m_J_bitCount [vI (M 2 i0 3)] M (fun y2 M1 => Q (some (vI (1 + ((M 2 i0 6) * (y2 - 1))))) M1)) ∧ (wI (M 2 i0 2) = 1 → Q (some (vI (if wI (M 1 (6 * i0 + 0) 1) < wI ((M 2 i0 6) + 1) then (M 1 (6 * i0 + 0) 1) else ((M 2 i0 6) + 1)))) M) ∧ (wI (M 2 i0 2) = 2 → Q (some (vI (if wI ((M 1 (6 * i0 + 0) 1) * (M 1 (6 * i0 + 1) 1)) < wI ((2 * (M 2 i0 6)) + 1) then ((M 1 (6 * i0 + 0) 1) * (M 1 (6 * i0 + 1) 1)) else ((2 * (M 2 i0 6)) + 1)))) M) ∧ (wI (M 2 i0 2) = 3 → CallI d m_J_bitCount [vI (M 2 i0 3)] M (fun y4 M3 => Q (some (vI y4)) M3)) ∧ (wI (M 2 i0 2) = 4 → Q (some (vI (if wI (M 1 (6 * i0 + 0) 1) < wI ((M 2 i0 6) + 1) then (M 1 (6 * i0 + 0) 1) else ((M 2 i0 6) + 1)))) M) ∧ ((wI (M 2 i0 2) < 0 ∨ 4 < wI (M 2 i0 2)) → Q (some (vI (M 2 i0 6))) M)) : RunQ (d + 1) m_W_limit 0 [some (vR 2 i0)] [] M Q := by
  refine q_aload_n 0 k_W_limit_0 rfl ?_
  refine q_getfield 1 k_W_limit_1 fk_2_24 o0 (v := vI (M 2 i0 2)) rfl ?_
  refine q_tsw 4 k_W_limit_4 rfl (fun c => ?_) (fun c1 c2 => ?_)
  · show RunQ _ _ 115 _ _ _ _
    have hd := h.2.2.2.2.2 c
    refine q_aload_n 115 k_W_limit_115 rfl ?_
    refine q_getfield 116 k_W_limit_116 fk_2_57 o0 (v := vI (M 2 i0 6)) rfl ?_
    exact q_iret 119 k_W_limit_119 rfl hd
  · have cq : wI (M 2 i0 2) = 0 ∨ wI (M 2 i0 2) = 1 ∨ wI (M 2 i0 2) = 2 ∨ wI (M 2 i0 2) = 3 ∨ wI (M 2 i0 2) = 4 := by omega
    rcases cq with cq | cq | cq | cq | cq
    · refine ⟨36, by rw [cq]; rfl, rfl, ?_⟩
      show RunQ _ _ 40 _ _ _ _
      have h0 := h.1 cq
      refine q_iconst 40 k_W_limit_40 ?_
      refine q_aload_n 41 k_W_limit_41 rfl ?_
      refine q_getfield 42 k_W_limit_42 fk_2_57 o0 (v := vI (M 2 i0 6)) rfl ?_
      refine q_aload_n 45 k_W_limit_45 rfl ?_
      refine q_getfield 46 k_W_limit_46 fk_2_41 o0 (v := vI (M 2 i0 3)) rfl ?_
      refine q_sI 49 [vI (M 2 i0 3)] [vI (M 2 i0 6), vI 1] k_W_limit_49 rfl lk_2_165 rfl rfl rfl rfl rfl rfl (CallI.mono (fun y2 M1 h5 => ?_) h0)
      refine q_iconst 52 k_W_limit_52 ?_
      refine q_isub 53 k_W_limit_53 ?_
      refine q_imul 54 k_W_limit_54 ?_
      refine q_iadd 55 k_W_limit_55 ?_
      exact q_iret 56 k_W_limit_56 rfl h5
    · refine ⟨53, by rw [cq]; rfl, rfl, ?_⟩
      show RunQ _ _ 57 _ _ _ _
      have h1 := h.2.1 cq
      refine q_aload_n 57 k_W_limit_57 rfl ?_
      refine q_getfield 58 k_W_limit_58 fk_2_57 o0 (v := vI (M 2 i0 6)) rfl ?_
      refine q_iconst 61 k_W_limit_61 ?_
      refine q_iadd 62 k_W_limit_62 ?_
      refine q_aload_n 63 k_W_limit_63 rfl ?_
      refine q_getfield 64 k_W_limit_64 fk_2_11 o0 (v := vR 6 i0) rfl ?_
      refine q_iconst 67 k_W_limit_67 ?_
      refine q_aaload 68 k_W_limit_68 o0 (n := 6) rfl ⟨by decide, by decide⟩ (kd := 1) (x := (6 * i0 + 0)) rfl ?_
      refine q_getfield 69 k_W_limit_69 fk_2_136 (ok_r6 (j := 0) o0 ⟨by decide, by decide⟩) (v := vI (M 1 (6 * i0 + 0) 1)) rfl ?_
      refine q_min 72 k_W_limit_72 rfl rfl ?_
      exact q_iret 75 k_W_limit_75 rfl h1
    · refine ⟨72, by rw [cq]; rfl, rfl, ?_⟩
      show RunQ _ _ 76 _ _ _ _
      have h2 := h.2.2.1 cq
      refine q_iconst 76 k_W_limit_76 ?_
      refine q_aload_n 77 k_W_limit_77 rfl ?_
      refine q_getfield 78 k_W_limit_78 fk_2_57 o0 (v := vI (M 2 i0 6)) rfl ?_
      refine q_imul 81 k_W_limit_81 ?_
      refine q_iconst 82 k_W_limit_82 ?_
      refine q_iadd 83 k_W_limit_83 ?_
      refine q_aload_n 84 k_W_limit_84 rfl ?_
      refine q_getfield 85 k_W_limit_85 fk_2_11 o0 (v := vR 6 i0) rfl ?_
      refine q_iconst 88 k_W_limit_88 ?_
      refine q_aaload 89 k_W_limit_89 o0 (n := 6) rfl ⟨by decide, by decide⟩ (kd := 1) (x := (6 * i0 + 0)) rfl ?_
      refine q_getfield 90 k_W_limit_90 fk_2_136 (ok_r6 (j := 0) o0 ⟨by decide, by decide⟩) (v := vI (M 1 (6 * i0 + 0) 1)) rfl ?_
      refine q_aload_n 93 k_W_limit_93 rfl ?_
      refine q_getfield 94 k_W_limit_94 fk_2_11 o0 (v := vR 6 i0) rfl ?_
      refine q_iconst 97 k_W_limit_97 ?_
      refine q_aaload 98 k_W_limit_98 o0 (n := 6) rfl ⟨by decide, by decide⟩ (kd := 1) (x := (6 * i0 + 1)) rfl ?_
      refine q_getfield 99 k_W_limit_99 fk_2_136 (ok_r6 (j := 1) o0 ⟨by decide, by decide⟩) (v := vI (M 1 (6 * i0 + 1) 1)) rfl ?_
      refine q_imul 102 k_W_limit_102 ?_
      refine q_min 103 k_W_limit_103 rfl rfl ?_
      exact q_iret 106 k_W_limit_106 rfl h2
    · refine ⟨103, by rw [cq]; rfl, rfl, ?_⟩
      show RunQ _ _ 107 _ _ _ _
      have h3 := h.2.2.2.1 cq
      refine q_aload_n 107 k_W_limit_107 rfl ?_
      refine q_getfield 108 k_W_limit_108 fk_2_41 o0 (v := vI (M 2 i0 3)) rfl ?_
      refine q_sI 111 [vI (M 2 i0 3)] [] k_W_limit_111 rfl lk_2_165 rfl rfl rfl rfl rfl rfl (CallI.mono (fun y4 M3 h6 => ?_) h3)
      exact q_iret 114 k_W_limit_114 rfl h6
    · refine ⟨53, by rw [cq]; rfl, rfl, ?_⟩
      show RunQ _ _ 57 _ _ _ _
      have h4 := h.2.2.2.2.1 cq
      refine q_aload_n 57 k_W_limit_57 rfl ?_
      refine q_getfield 58 k_W_limit_58 fk_2_57 o0 (v := vI (M 2 i0 6)) rfl ?_
      refine q_iconst 61 k_W_limit_61 ?_
      refine q_iadd 62 k_W_limit_62 ?_
      refine q_aload_n 63 k_W_limit_63 rfl ?_
      refine q_getfield 64 k_W_limit_64 fk_2_11 o0 (v := vR 6 i0) rfl ?_
      refine q_iconst 67 k_W_limit_67 ?_
      refine q_aaload 68 k_W_limit_68 o0 (n := 6) rfl ⟨by decide, by decide⟩ (kd := 1) (x := (6 * i0 + 0)) rfl ?_
      refine q_getfield 69 k_W_limit_69 fk_2_136 (ok_r6 (j := 0) o0 ⟨by decide, by decide⟩) (v := vI (M 1 (6 * i0 + 0) 1)) rfl ?_
      refine q_min 72 k_W_limit_72 rfl rfl ?_
      exact q_iret 75 k_W_limit_75 rfl h4
theorem k_W_hasPlaces_0 : decode (mtC m_W_hasPlaces) 0 = .ok (.aload_n 0, 1) := by decide +kernel
theorem k_W_hasPlaces_1 : decode (mtC m_W_hasPlaces) 1 = .ok (.getfield 24, 3) := by decide +kernel
theorem k_W_hasPlaces_4 : decode (mtC m_W_hasPlaces) 4 = .ok (.iconst 3, 1) := by decide +kernel
theorem k_W_hasPlaces_5 : decode (mtC m_W_hasPlaces) 5 = .ok (.if_icmp .eq 10, 3) := by decide +kernel
theorem k_W_hasPlaces_8 : decode (mtC m_W_hasPlaces) 8 = .ok (.aload_n 0, 1) := by decide +kernel
theorem k_W_hasPlaces_9 : decode (mtC m_W_hasPlaces) 9 = .ok (.invokevirtual 75, 3) := by decide +kernel
theorem k_W_hasPlaces_12 : decode (mtC m_W_hasPlaces) 12 = .ok (.ifCond .eq 7, 3) := by decide +kernel
theorem k_W_hasPlaces_15 : decode (mtC m_W_hasPlaces) 15 = .ok (.iconst 1, 1) := by decide +kernel
theorem k_W_hasPlaces_16 : decode (mtC m_W_hasPlaces) 16 = .ok (.goto 4, 3) := by decide +kernel
theorem k_W_hasPlaces_19 : decode (mtC m_W_hasPlaces) 19 = .ok (.iconst 0, 1) := by decide +kernel
theorem k_W_hasPlaces_20 : decode (mtC m_W_hasPlaces) 20 = .ok (.ireturn, 1) := by decide +kernel
set_option maxHeartbeats 4000000 in
set_option maxRecDepth 100000 in
theorem T_W_hasPlaces_0 {d : Nat} {i0 : Nat} {M : AMem} {Q : Option AV → AMem → Prop} (o0 : okH 2 i0 = true) (h : ((wI (M 2 i0 2) = 3) → Q (some (vI 1)) M) ∧ (¬ (wI (M 2 i0 2) = 3) → CallI d m_W_isGrid [vR 2 i0] M (fun y2 M1 => ((wI y2 = 0) → Q (some (vI 0)) M1) ∧ (¬ (wI y2 = 0) → Q (some (vI 1)) M1)))) : RunQ (d + 1) m_W_hasPlaces 0 [some (vR 2 i0)] [] M Q := by
  refine q_aload_n 0 k_W_hasPlaces_0 rfl ?_
  refine q_getfield 1 k_W_hasPlaces_1 fk_2_24 o0 (v := vI (M 2 i0 2)) rfl ?_
  refine q_iconst 4 k_W_hasPlaces_4 ?_
  refine q_icmp_eq 5 15 k_W_hasPlaces_5 rfl rfl (fun c5 => ?_) (fun c5 => ?_)
  · have ht := h.1 c5
    refine q_iconst 15 k_W_hasPlaces_15 ?_
    refine q_goto 16 20 k_W_hasPlaces_16 rfl rfl ?_
    exact q_zret 20 k_W_hasPlaces_20 rfl (Or.inr rfl) ht
  · have hf := h.2 c5
    refine q_aload_n 8 k_W_hasPlaces_8 rfl ?_
    refine q_vI 9 [] [] k_W_hasPlaces_9 lk_2_75 rfl rfl rfl o0 rfl rfl rfl rfl (CallI.mono (fun y2 M1 h3 => ?_) hf)
    refine q_if_eq 12 19 k_W_hasPlaces_12 rfl rfl (fun c12 => ?_) (fun c12 => ?_)
    · have h3t := h3.1 c12
      refine q_iconst 19 k_W_hasPlaces_19 ?_
      exact q_zret 20 k_W_hasPlaces_20 rfl (Or.inl rfl) h3t
    · have h3f := h3.2 c12
      refine q_iconst 15 k_W_hasPlaces_15 ?_
      refine q_goto 16 20 k_W_hasPlaces_16 rfl rfl ?_
      exact q_zret 20 k_W_hasPlaces_20 rfl (Or.inr rfl) h3f
theorem k_W_tagAt_0 : decode (mtC m_W_tagAt) 0 = .ok (.aload_n 0, 1) := by decide +kernel
theorem k_W_tagAt_1 : decode (mtC m_W_tagAt) 1 = .ok (.getfield 24, 3) := by decide +kernel
theorem k_W_tagAt_4 : decode (mtC m_W_tagAt) 4 = .ok (.iconst 2, 1) := by decide +kernel
theorem k_W_tagAt_5 : decode (mtC m_W_tagAt) 5 = .ok (.if_icmp .ne 7, 3) := by decide +kernel
theorem k_W_tagAt_8 : decode (mtC m_W_tagAt) 8 = .ok (.iload_n 3, 1) := by decide +kernel
theorem k_W_tagAt_9 : decode (mtC m_W_tagAt) 9 = .ok (.goto 4, 3) := by decide +kernel
theorem k_W_tagAt_12 : decode (mtC m_W_tagAt) 12 = .ok (.iconst 0, 1) := by decide +kernel
theorem k_W_tagAt_13 : decode (mtC m_W_tagAt) 13 = .ok (.istore 4, 2) := by decide +kernel
theorem k_W_tagAt_15 : decode (mtC m_W_tagAt) 15 = .ok (.aload_n 0, 1) := by decide +kernel
theorem k_W_tagAt_16 : decode (mtC m_W_tagAt) 16 = .ok (.getfield 24, 3) := by decide +kernel
theorem k_W_tagAt_19 : decode (mtC m_W_tagAt) 19 = .ok (.iconst 3, 1) := by decide +kernel
theorem k_W_tagAt_20 : decode (mtC m_W_tagAt) 20 = .ok (.if_icmp .ne 8, 3) := by decide +kernel
theorem k_W_tagAt_23 : decode (mtC m_W_tagAt) 23 = .ok (.bipush 6, 2) := by decide +kernel
theorem k_W_tagAt_25 : decode (mtC m_W_tagAt) 25 = .ok (.goto 5, 3) := by decide +kernel
theorem k_W_tagAt_28 : decode (mtC m_W_tagAt) 28 = .ok (.bipush 8, 2) := by decide +kernel
theorem k_W_tagAt_30 : decode (mtC m_W_tagAt) 30 = .ok (.istore 5, 2) := by decide +kernel
theorem k_W_tagAt_32 : decode (mtC m_W_tagAt) 32 = .ok (.iload_n 1, 1) := by decide +kernel
theorem k_W_tagAt_33 : decode (mtC m_W_tagAt) 33 = .ok (.ifCond .lt 31, 3) := by decide +kernel
theorem k_W_tagAt_36 : decode (mtC m_W_tagAt) 36 = .ok (.iload_n 1, 1) := by decide +kernel
theorem k_W_tagAt_37 : decode (mtC m_W_tagAt) 37 = .ok (.iload 5, 2) := by decide +kernel
theorem k_W_tagAt_39 : decode (mtC m_W_tagAt) 39 = .ok (.if_icmp .ge 25, 3) := by decide +kernel
theorem k_W_tagAt_42 : decode (mtC m_W_tagAt) 42 = .ok (.iload_n 2, 1) := by decide +kernel
theorem k_W_tagAt_43 : decode (mtC m_W_tagAt) 43 = .ok (.ifCond .lt 21, 3) := by decide +kernel
theorem k_W_tagAt_46 : decode (mtC m_W_tagAt) 46 = .ok (.iload_n 2, 1) := by decide +kernel
theorem k_W_tagAt_47 : decode (mtC m_W_tagAt) 47 = .ok (.bipush 8, 2) := by decide +kernel
theorem k_W_tagAt_49 : decode (mtC m_W_tagAt) 49 = .ok (.if_icmp .ge 15, 3) := by decide +kernel
theorem k_W_tagAt_52 : decode (mtC m_W_tagAt) 52 = .ok (.iload 4, 2) := by decide +kernel
theorem k_W_tagAt_54 : decode (mtC m_W_tagAt) 54 = .ok (.ifCond .lt 10, 3) := by decide +kernel
theorem k_W_tagAt_57 : decode (mtC m_W_tagAt) 57 = .ok (.iload 4, 2) := by decide +kernel
theorem k_W_tagAt_59 : decode (mtC m_W_tagAt) 59 = .ok (.bipush 8, 2) := by decide +kernel
theorem k_W_tagAt_61 : decode (mtC m_W_tagAt) 61 = .ok (.if_icmp .lt 5, 3) := by decide +kernel
theorem k_W_tagAt_64 : decode (mtC m_W_tagAt) 64 = .ok (.iconst (-1), 1) := by decide +kernel
theorem k_W_tagAt_65 : decode (mtC m_W_tagAt) 65 = .ok (.ireturn, 1) := by decide +kernel
theorem k_W_tagAt_66 : decode (mtC m_W_tagAt) 66 = .ok (.aload_n 0, 1) := by decide +kernel
theorem k_W_tagAt_67 : decode (mtC m_W_tagAt) 67 = .ok (.getfield 24, 3) := by decide +kernel
theorem k_W_tagAt_70 : decode (mtC m_W_tagAt) 70 = .ok (.iconst 3, 1) := by decide +kernel
theorem k_W_tagAt_71 : decode (mtC m_W_tagAt) 71 = .ok (.if_icmp .ne 11, 3) := by decide +kernel
theorem k_W_tagAt_74 : decode (mtC m_W_tagAt) 74 = .ok (.aload_n 0, 1) := by decide +kernel
theorem k_W_tagAt_75 : decode (mtC m_W_tagAt) 75 = .ok (.iload_n 1, 1) := by decide +kernel
theorem k_W_tagAt_76 : decode (mtC m_W_tagAt) 76 = .ok (.invokevirtual 103, 3) := by decide +kernel
theorem k_W_tagAt_79 : decode (mtC m_W_tagAt) 79 = .ok (.goto 4, 3) := by decide +kernel
theorem k_W_tagAt_82 : decode (mtC m_W_tagAt) 82 = .ok (.iload_n 1, 1) := by decide +kernel
theorem k_W_tagAt_83 : decode (mtC m_W_tagAt) 83 = .ok (.bipush 8, 2) := by decide +kernel
theorem k_W_tagAt_85 : decode (mtC m_W_tagAt) 85 = .ok (.imul, 1) := by decide +kernel
theorem k_W_tagAt_86 : decode (mtC m_W_tagAt) 86 = .ok (.iload_n 2, 1) := by decide +kernel
theorem k_W_tagAt_87 : decode (mtC m_W_tagAt) 87 = .ok (.iadd, 1) := by decide +kernel
theorem k_W_tagAt_88 : decode (mtC m_W_tagAt) 88 = .ok (.bipush 8, 2) := by decide +kernel
theorem k_W_tagAt_90 : decode (mtC m_W_tagAt) 90 = .ok (.imul, 1) := by decide +kernel
theorem k_W_tagAt_91 : decode (mtC m_W_tagAt) 91 = .ok (.iload 4, 2) := by decide +kernel
theorem k_W_tagAt_93 : decode (mtC m_W_tagAt) 93 = .ok (.iadd, 1) := by decide +kernel
theorem k_W_tagAt_94 : decode (mtC m_W_tagAt) 94 = .ok (.ireturn, 1) := by decide +kernel
set_option maxHeartbeats 4000000 in
set_option maxRecDepth 100000 in
theorem T_W_tagAt_0 {d : Nat} {i0 : Nat} {x1 : Int} {x2 : Int} {x3 : Int} {M : AMem} {Q : Option AV → AMem → Prop} (o0 : okH 2 i0 = true) (h : ((¬ wI (M 2 i0 2) = 2) → ((¬ wI (M 2 i0 2) = 3) → ((wI x1 < 0) → Q (some (vI (-1))) M) ∧ (¬ (wI x1 < 0) → ((8 ≤ wI x1) → Q (some (vI (-1))) M) ∧ (¬ (8 ≤ wI x1) → ((wI x2 < 0) → Q (some (vI (-1))) M) ∧ (¬ (wI x2 < 0) → ((8 ≤ wI x2) → Q (some (vI (-1))) M) ∧ (¬ (8 ≤ wI x2) → ((¬ wI (M 2 i0 2) = 3) → Q (some (vI ((((x1 * 8) + x2) * 8) + 0))) M) ∧ (¬ (¬ wI (M 2 i0 2) = 3) → CallI d m_W_rankOf [vR 2 i0, vI x1] M (fun y2 M1 => Q (some (vI ((((y2 * 8) + x2) * 8) + 0))) M1))))))) ∧ (¬ (¬ wI (M 2 i0 2) = 3) → ((wI x1 < 0) → Q (some (vI (-1))) M) ∧ (¬ (wI x1 < 0) → ((6 ≤ wI x1) → Q (some (vI (-1))) M) ∧ (¬ (6 ≤ wI x1) → ((wI x2 < 0) → Q (some (vI (-1))) M) ∧ (¬ (wI x2 < 0) → ((8 ≤ wI x2) → Q (some (vI (-1))) M) ∧ (¬ (8 ≤ wI x2) → ((¬ wI (M 2 i0 2) = 3) → Q (some (vI ((((x1 * 8) + x2) * 8) + 0))) M) ∧ (¬ (¬ wI (M 2 i0 2) = 3) → CallI d m_W_rankOf [vR 2 i0, vI x1] M (fun y4 M3 => Q (some (vI ((((y4 * 8) + x2) * 8) + 0))) M3)))))))) ∧ (¬ (¬ wI (M 2 i0 2) = 2) → ((¬ wI (M 2 i0 2) = 3) → ((wI x1 < 0) → Q (some (vI (-1))) M) ∧ (¬ (wI x1 < 0) → ((8 ≤ wI x1) → Q (some (vI (-1))) M) ∧ (¬ (8 ≤ wI x1) → ((wI x2 < 0) → Q (some (vI (-1))) M) ∧ (¬ (wI x2 < 0) → ((8 ≤ wI x2) → Q (some (vI (-1))) M) ∧ (¬ (8 ≤ wI x2) → ((wI x3 < 0) → Q (some (vI (-1))) M) ∧ (¬ (wI x3 < 0) → ((wI x3 < 8) → ((¬ wI (M 2 i0 2) = 3) → Q (some (vI ((((x1 * 8) + x2) * 8) + x3))) M) ∧ (¬ (¬ wI (M 2 i0 2) = 3) → CallI d m_W_rankOf [vR 2 i0, vI x1] M (fun y6 M5 => Q (some (vI ((((y6 * 8) + x2) * 8) + x3))) M5))) ∧ (¬ (wI x3 < 8) → Q (some (vI (-1))) M))))))) ∧ (¬ (¬ wI (M 2 i0 2) = 3) → ((wI x1 < 0) → Q (some (vI (-1))) M) ∧ (¬ (wI x1 < 0) → ((6 ≤ wI x1) → Q (some (vI (-1))) M) ∧ (¬ (6 ≤ wI x1) → ((wI x2 < 0) → Q (some (vI (-1))) M) ∧ (¬ (wI x2 < 0) → ((8 ≤ wI x2) → Q (some (vI (-1))) M) ∧ (¬ (8 ≤ wI x2) → ((wI x3 < 0) → Q (some (vI (-1))) M) ∧ (¬ (wI x3 < 0) → ((wI x3 < 8) → ((¬ wI (M 2 i0 2) = 3) → Q (some (vI ((((x1 * 8) + x2) * 8) + x3))) M) ∧ (¬ (¬ wI (M 2 i0 2) = 3) → CallI d m_W_rankOf [vR 2 i0, vI x1] M (fun y8 M7 => Q (some (vI ((((y8 * 8) + x2) * 8) + x3))) M7))) ∧ (¬ (wI x3 < 8) → Q (some (vI (-1))) M))))))))) : RunQ (d + 1) m_W_tagAt 0 [some (vR 2 i0), some (vI x1), some (vI x2), some (vI x3), none, none] [] M Q := by
  refine q_aload_n 0 k_W_tagAt_0 rfl ?_
  refine q_getfield 1 k_W_tagAt_1 fk_2_24 o0 (v := vI (M 2 i0 2)) rfl ?_
  refine q_iconst 4 k_W_tagAt_4 ?_
  refine q_icmp_ne 5 12 k_W_tagAt_5 rfl rfl (fun c5 => ?_) (fun c5 => ?_)
  · have ht := h.1 c5
    refine q_iconst 12 k_W_tagAt_12 ?_
    refine q_istore 13 k_W_tagAt_13 (ls' := [some (vR 2 i0), some (vI x1), some (vI x2), some (vI x3), some (vI 0), none]) rfl rfl ?_
    refine q_aload_n 15 k_W_tagAt_15 rfl ?_
    refine q_getfield 16 k_W_tagAt_16 fk_2_24 o0 (v := vI (M 2 i0 2)) rfl ?_
    refine q_iconst 19 k_W_tagAt_19 ?_
    refine q_icmp_ne 20 28 k_W_tagAt_20 rfl rfl (fun c20 => ?_) (fun c20 => ?_)
    · have htt := ht.1 c20
      refine q_bipush 28 k_W_tagAt_28 (by decide) ?_
      refine q_istore 30 k_W_tagAt_30 (ls' := [some (vR 2 i0), some (vI x1), some (vI x2), some (vI x3), some (vI 0), some (vI 8)]) rfl rfl ?_
      refine q_iload_n 32 k_W_tagAt_32 rfl ?_
      refine q_if_lt 33 64 k_W_tagAt_33 rfl rfl (fun c33 => ?_) (fun c33 => ?_)
      · have httt := htt.1 c33
        refine q_iconst 64 k_W_tagAt_64 ?_
        exact q_iret 65 k_W_tagAt_65 rfl httt
      · have httf := htt.2 c33
        refine q_iload_n 36 k_W_tagAt_36 rfl ?_
        refine q_iload 37 k_W_tagAt_37 rfl ?_
        refine q_icmp_ge 39 64 k_W_tagAt_39 rfl rfl (fun c39 => ?_) (fun c39 => ?_)
        · have httft := httf.1 c39
          refine q_iconst 64 k_W_tagAt_64 ?_
          exact q_iret 65 k_W_tagAt_65 rfl httft
        · have httff := httf.2 c39
          refine q_iload_n 42 k_W_tagAt_42 rfl ?_
          refine q_if_lt 43 64 k_W_tagAt_43 rfl rfl (fun c43 => ?_) (fun c43 => ?_)
          · have httfft := httff.1 c43
            refine q_iconst 64 k_W_tagAt_64 ?_
            exact q_iret 65 k_W_tagAt_65 rfl httfft
          · have httfff := httff.2 c43
            refine q_iload_n 46 k_W_tagAt_46 rfl ?_
            refine q_bipush 47 k_W_tagAt_47 (by decide) ?_
            refine q_icmp_ge 49 64 k_W_tagAt_49 rfl rfl (fun c49 => ?_) (fun c49 => ?_)
            · have httffft := httfff.1 c49
              refine q_iconst 64 k_W_tagAt_64 ?_
              exact q_iret 65 k_W_tagAt_65 rfl httffft
            · have httffff := httfff.2 c49
              refine q_iload 52 k_W_tagAt_52 rfl ?_
              refine q_if_lt 54 64 k_W_tagAt_54 rfl rfl (fun c => absurd c (by decide)) (fun _ => ?_)
              refine q_iload 57 k_W_tagAt_57 rfl ?_
              refine q_bipush 59 k_W_tagAt_59 (by decide) ?_
              refine q_icmp_lt 61 66 k_W_tagAt_61 rfl rfl (fun _ => ?_) (fun c => absurd (by decide) c)
              refine q_aload_n 66 k_W_tagAt_66 rfl ?_
              refine q_getfield 67 k_W_tagAt_67 fk_2_24 o0 (v := vI (M 2 i0 2)) rfl ?_
              refine q_iconst 70 k_W_tagAt_70 ?_
              refine q_icmp_ne 71 82 k_W_tagAt_71 rfl rfl (fun c71 => ?_) (fun c71 => ?_)
              · have httfffft := httffff.1 c71
                refine q_iload_n 82 k_W_tagAt_82 rfl ?_
                refine q_bipush 83 k_W_tagAt_83 (by decide) ?_
                refine q_imul 85 k_W_tagAt_85 ?_
                refine q_iload_n 86 k_W_tagAt_86 rfl ?_
                refine q_iadd 87 k_W_tagAt_87 ?_
                refine q_bipush 88 k_W_tagAt_88 (by decide) ?_
                refine q_imul 90 k_W_tagAt_90 ?_
                refine q_iload 91 k_W_tagAt_91 rfl ?_
                refine q_iadd 93 k_W_tagAt_93 ?_
                exact q_iret 94 k_W_tagAt_94 rfl httfffft
              · have httfffff := httffff.2 c71
                refine q_aload_n 74 k_W_tagAt_74 rfl ?_
                refine q_iload_n 75 k_W_tagAt_75 rfl ?_
                refine q_vI 76 [vI x1] [] k_W_tagAt_76 lk_2_103 rfl rfl rfl o0 rfl rfl rfl rfl (CallI.mono (fun y2 M1 h9 => ?_) httfffff)
                refine q_goto 79 83 k_W_tagAt_79 rfl rfl ?_
                refine q_bipush 83 k_W_tagAt_83 (by decide) ?_
                refine q_imul 85 k_W_tagAt_85 ?_
                refine q_iload_n 86 k_W_tagAt_86 rfl ?_
                refine q_iadd 87 k_W_tagAt_87 ?_
                refine q_bipush 88 k_W_tagAt_88 (by decide) ?_
                refine q_imul 90 k_W_tagAt_90 ?_
                refine q_iload 91 k_W_tagAt_91 rfl ?_
                refine q_iadd 93 k_W_tagAt_93 ?_
                exact q_iret 94 k_W_tagAt_94 rfl h9
    · have htf := ht.2 c20
      refine q_bipush 23 k_W_tagAt_23 (by decide) ?_
      refine q_goto 25 30 k_W_tagAt_25 rfl rfl ?_
      refine q_istore 30 k_W_tagAt_30 (ls' := [some (vR 2 i0), some (vI x1), some (vI x2), some (vI x3), some (vI 0), some (vI 6)]) rfl rfl ?_
      refine q_iload_n 32 k_W_tagAt_32 rfl ?_
      refine q_if_lt 33 64 k_W_tagAt_33 rfl rfl (fun c33 => ?_) (fun c33 => ?_)
      · have htft := htf.1 c33
        refine q_iconst 64 k_W_tagAt_64 ?_
        exact q_iret 65 k_W_tagAt_65 rfl htft
      · have htff := htf.2 c33
        refine q_iload_n 36 k_W_tagAt_36 rfl ?_
        refine q_iload 37 k_W_tagAt_37 rfl ?_
        refine q_icmp_ge 39 64 k_W_tagAt_39 rfl rfl (fun c39 => ?_) (fun c39 => ?_)
        · have htfft := htff.1 c39
          refine q_iconst 64 k_W_tagAt_64 ?_
          exact q_iret 65 k_W_tagAt_65 rfl htfft
        · have htfff := htff.2 c39
          refine q_iload_n 42 k_W_tagAt_42 rfl ?_
          refine q_if_lt 43 64 k_W_tagAt_43 rfl rfl (fun c43 => ?_) (fun c43 => ?_)
          · have htffft := htfff.1 c43
            refine q_iconst 64 k_W_tagAt_64 ?_
            exact q_iret 65 k_W_tagAt_65 rfl htffft
          · have htffff := htfff.2 c43
            refine q_iload_n 46 k_W_tagAt_46 rfl ?_
            refine q_bipush 47 k_W_tagAt_47 (by decide) ?_
            refine q_icmp_ge 49 64 k_W_tagAt_49 rfl rfl (fun c49 => ?_) (fun c49 => ?_)
            · have htfffft := htffff.1 c49
              refine q_iconst 64 k_W_tagAt_64 ?_
              exact q_iret 65 k_W_tagAt_65 rfl htfffft
            · have htfffff := htffff.2 c49
              refine q_iload 52 k_W_tagAt_52 rfl ?_
              refine q_if_lt 54 64 k_W_tagAt_54 rfl rfl (fun c => absurd c (by decide)) (fun _ => ?_)
              refine q_iload 57 k_W_tagAt_57 rfl ?_
              refine q_bipush 59 k_W_tagAt_59 (by decide) ?_
              refine q_icmp_lt 61 66 k_W_tagAt_61 rfl rfl (fun _ => ?_) (fun c => absurd (by decide) c)
              refine q_aload_n 66 k_W_tagAt_66 rfl ?_
              refine q_getfield 67 k_W_tagAt_67 fk_2_24 o0 (v := vI (M 2 i0 2)) rfl ?_
              refine q_iconst 70 k_W_tagAt_70 ?_
              refine q_icmp_ne 71 82 k_W_tagAt_71 rfl rfl (fun c71 => ?_) (fun c71 => ?_)
              · have htffffft := htfffff.1 c71
                refine q_iload_n 82 k_W_tagAt_82 rfl ?_
                refine q_bipush 83 k_W_tagAt_83 (by decide) ?_
                refine q_imul 85 k_W_tagAt_85 ?_
                refine q_iload_n 86 k_W_tagAt_86 rfl ?_
                refine q_iadd 87 k_W_tagAt_87 ?_
                refine q_bipush 88 k_W_tagAt_88 (by decide) ?_
                refine q_imul 90 k_W_tagAt_90 ?_
                refine q_iload 91 k_W_tagAt_91 rfl ?_
                refine q_iadd 93 k_W_tagAt_93 ?_
                exact q_iret 94 k_W_tagAt_94 rfl htffffft
              · have htffffff := htfffff.2 c71
                refine q_aload_n 74 k_W_tagAt_74 rfl ?_
                refine q_iload_n 75 k_W_tagAt_75 rfl ?_
                refine q_vI 76 [vI x1] [] k_W_tagAt_76 lk_2_103 rfl rfl rfl o0 rfl rfl rfl rfl (CallI.mono (fun y4 M3 h10 => ?_) htffffff)
                refine q_goto 79 83 k_W_tagAt_79 rfl rfl ?_
                refine q_bipush 83 k_W_tagAt_83 (by decide) ?_
                refine q_imul 85 k_W_tagAt_85 ?_
                refine q_iload_n 86 k_W_tagAt_86 rfl ?_
                refine q_iadd 87 k_W_tagAt_87 ?_
                refine q_bipush 88 k_W_tagAt_88 (by decide) ?_
                refine q_imul 90 k_W_tagAt_90 ?_
                refine q_iload 91 k_W_tagAt_91 rfl ?_
                refine q_iadd 93 k_W_tagAt_93 ?_
                exact q_iret 94 k_W_tagAt_94 rfl h10
  · have hf := h.2 c5
    refine q_iload_n 8 k_W_tagAt_8 rfl ?_
    refine q_goto 9 13 k_W_tagAt_9 rfl rfl ?_
    refine q_istore 13 k_W_tagAt_13 (ls' := [some (vR 2 i0), some (vI x1), some (vI x2), some (vI x3), some (vI x3), none]) rfl rfl ?_
    refine q_aload_n 15 k_W_tagAt_15 rfl ?_
    refine q_getfield 16 k_W_tagAt_16 fk_2_24 o0 (v := vI (M 2 i0 2)) rfl ?_
    refine q_iconst 19 k_W_tagAt_19 ?_
    refine q_icmp_ne 20 28 k_W_tagAt_20 rfl rfl (fun c20 => ?_) (fun c20 => ?_)
    · have hft := hf.1 c20
      refine q_bipush 28 k_W_tagAt_28 (by decide) ?_
      refine q_istore 30 k_W_tagAt_30 (ls' := [some (vR 2 i0), some (vI x1), some (vI x2), some (vI x3), some (vI x3), some (vI 8)]) rfl rfl ?_
      refine q_iload_n 32 k_W_tagAt_32 rfl ?_
      refine q_if_lt 33 64 k_W_tagAt_33 rfl rfl (fun c33 => ?_) (fun c33 => ?_)
      · have hftt := hft.1 c33
        refine q_iconst 64 k_W_tagAt_64 ?_
        exact q_iret 65 k_W_tagAt_65 rfl hftt
      · have hftf := hft.2 c33
        refine q_iload_n 36 k_W_tagAt_36 rfl ?_
        refine q_iload 37 k_W_tagAt_37 rfl ?_
        refine q_icmp_ge 39 64 k_W_tagAt_39 rfl rfl (fun c39 => ?_) (fun c39 => ?_)
        · have hftft := hftf.1 c39
          refine q_iconst 64 k_W_tagAt_64 ?_
          exact q_iret 65 k_W_tagAt_65 rfl hftft
        · have hftff := hftf.2 c39
          refine q_iload_n 42 k_W_tagAt_42 rfl ?_
          refine q_if_lt 43 64 k_W_tagAt_43 rfl rfl (fun c43 => ?_) (fun c43 => ?_)
          · have hftfft := hftff.1 c43
            refine q_iconst 64 k_W_tagAt_64 ?_
            exact q_iret 65 k_W_tagAt_65 rfl hftfft
          · have hftfff := hftff.2 c43
            refine q_iload_n 46 k_W_tagAt_46 rfl ?_
            refine q_bipush 47 k_W_tagAt_47 (by decide) ?_
            refine q_icmp_ge 49 64 k_W_tagAt_49 rfl rfl (fun c49 => ?_) (fun c49 => ?_)
            · have hftffft := hftfff.1 c49
              refine q_iconst 64 k_W_tagAt_64 ?_
              exact q_iret 65 k_W_tagAt_65 rfl hftffft
            · have hftffff := hftfff.2 c49
              refine q_iload 52 k_W_tagAt_52 rfl ?_
              refine q_if_lt 54 64 k_W_tagAt_54 rfl rfl (fun c54 => ?_) (fun c54 => ?_)
              · have hftfffft := hftffff.1 c54
                refine q_iconst 64 k_W_tagAt_64 ?_
                exact q_iret 65 k_W_tagAt_65 rfl hftfffft
              · have hftfffff := hftffff.2 c54
                refine q_iload 57 k_W_tagAt_57 rfl ?_
                refine q_bipush 59 k_W_tagAt_59 (by decide) ?_
                refine q_icmp_lt 61 66 k_W_tagAt_61 rfl rfl (fun c61 => ?_) (fun c61 => ?_)
                · have hftffffft := hftfffff.1 c61
                  refine q_aload_n 66 k_W_tagAt_66 rfl ?_
                  refine q_getfield 67 k_W_tagAt_67 fk_2_24 o0 (v := vI (M 2 i0 2)) rfl ?_
                  refine q_iconst 70 k_W_tagAt_70 ?_
                  refine q_icmp_ne 71 82 k_W_tagAt_71 rfl rfl (fun c71 => ?_) (fun c71 => ?_)
                  · have hftffffftt := hftffffft.1 c71
                    refine q_iload_n 82 k_W_tagAt_82 rfl ?_
                    refine q_bipush 83 k_W_tagAt_83 (by decide) ?_
                    refine q_imul 85 k_W_tagAt_85 ?_
                    refine q_iload_n 86 k_W_tagAt_86 rfl ?_
                    refine q_iadd 87 k_W_tagAt_87 ?_
                    refine q_bipush 88 k_W_tagAt_88 (by decide) ?_
                    refine q_imul 90 k_W_tagAt_90 ?_
                    refine q_iload 91 k_W_tagAt_91 rfl ?_
                    refine q_iadd 93 k_W_tagAt_93 ?_
                    exact q_iret 94 k_W_tagAt_94 rfl hftffffftt
                  · have hftffffftf := hftffffft.2 c71
                    refine q_aload_n 74 k_W_tagAt_74 rfl ?_
                    refine q_iload_n 75 k_W_tagAt_75 rfl ?_
                    refine q_vI 76 [vI x1] [] k_W_tagAt_76 lk_2_103 rfl rfl rfl o0 rfl rfl rfl rfl (CallI.mono (fun y6 M5 h11 => ?_) hftffffftf)
                    refine q_goto 79 83 k_W_tagAt_79 rfl rfl ?_
                    refine q_bipush 83 k_W_tagAt_83 (by decide) ?_
                    refine q_imul 85 k_W_tagAt_85 ?_
                    refine q_iload_n 86 k_W_tagAt_86 rfl ?_
                    refine q_iadd 87 k_W_tagAt_87 ?_
                    refine q_bipush 88 k_W_tagAt_88 (by decide) ?_
                    refine q_imul 90 k_W_tagAt_90 ?_
                    refine q_iload 91 k_W_tagAt_91 rfl ?_
                    refine q_iadd 93 k_W_tagAt_93 ?_
                    exact q_iret 94 k_W_tagAt_94 rfl h11
                · have hftffffff := hftfffff.2 c61
                  refine q_iconst 64 k_W_tagAt_64 ?_
                  exact q_iret 65 k_W_tagAt_65 rfl hftffffff
    · have hff := hf.2 c20
      refine q_bipush 23 k_W_tagAt_23 (by decide) ?_
      refine q_goto 25 30 k_W_tagAt_25 rfl rfl ?_
      refine q_istore 30 k_W_tagAt_30 (ls' := [some (vR 2 i0), some (vI x1), some (vI x2), some (vI x3), some (vI x3), some (vI 6)]) rfl rfl ?_
      refine q_iload_n 32 k_W_tagAt_32 rfl ?_
      refine q_if_lt 33 64 k_W_tagAt_33 rfl rfl (fun c33 => ?_) (fun c33 => ?_)
      · have hfft := hff.1 c33
        refine q_iconst 64 k_W_tagAt_64 ?_
        exact q_iret 65 k_W_tagAt_65 rfl hfft
      · have hfff := hff.2 c33
        refine q_iload_n 36 k_W_tagAt_36 rfl ?_
        refine q_iload 37 k_W_tagAt_37 rfl ?_
        refine q_icmp_ge 39 64 k_W_tagAt_39 rfl rfl (fun c39 => ?_) (fun c39 => ?_)
        · have hffft := hfff.1 c39
          refine q_iconst 64 k_W_tagAt_64 ?_
          exact q_iret 65 k_W_tagAt_65 rfl hffft
        · have hffff := hfff.2 c39
          refine q_iload_n 42 k_W_tagAt_42 rfl ?_
          refine q_if_lt 43 64 k_W_tagAt_43 rfl rfl (fun c43 => ?_) (fun c43 => ?_)
          · have hfffft := hffff.1 c43
            refine q_iconst 64 k_W_tagAt_64 ?_
            exact q_iret 65 k_W_tagAt_65 rfl hfffft
          · have hfffff := hffff.2 c43
            refine q_iload_n 46 k_W_tagAt_46 rfl ?_
            refine q_bipush 47 k_W_tagAt_47 (by decide) ?_
            refine q_icmp_ge 49 64 k_W_tagAt_49 rfl rfl (fun c49 => ?_) (fun c49 => ?_)
            · have hffffft := hfffff.1 c49
              refine q_iconst 64 k_W_tagAt_64 ?_
              exact q_iret 65 k_W_tagAt_65 rfl hffffft
            · have hffffff := hfffff.2 c49
              refine q_iload 52 k_W_tagAt_52 rfl ?_
              refine q_if_lt 54 64 k_W_tagAt_54 rfl rfl (fun c54 => ?_) (fun c54 => ?_)
              · have hfffffft := hffffff.1 c54
                refine q_iconst 64 k_W_tagAt_64 ?_
                exact q_iret 65 k_W_tagAt_65 rfl hfffffft
              · have hfffffff := hffffff.2 c54
                refine q_iload 57 k_W_tagAt_57 rfl ?_
                refine q_bipush 59 k_W_tagAt_59 (by decide) ?_
                refine q_icmp_lt 61 66 k_W_tagAt_61 rfl rfl (fun c61 => ?_) (fun c61 => ?_)
                · have hffffffft := hfffffff.1 c61
                  refine q_aload_n 66 k_W_tagAt_66 rfl ?_
                  refine q_getfield 67 k_W_tagAt_67 fk_2_24 o0 (v := vI (M 2 i0 2)) rfl ?_
                  refine q_iconst 70 k_W_tagAt_70 ?_
                  refine q_icmp_ne 71 82 k_W_tagAt_71 rfl rfl (fun c71 => ?_) (fun c71 => ?_)
                  · have hffffffftt := hffffffft.1 c71
                    refine q_iload_n 82 k_W_tagAt_82 rfl ?_
                    refine q_bipush 83 k_W_tagAt_83 (by decide) ?_
                    refine q_imul 85 k_W_tagAt_85 ?_
                    refine q_iload_n 86 k_W_tagAt_86 rfl ?_
                    refine q_iadd 87 k_W_tagAt_87 ?_
                    refine q_bipush 88 k_W_tagAt_88 (by decide) ?_
                    refine q_imul 90 k_W_tagAt_90 ?_
                    refine q_iload 91 k_W_tagAt_91 rfl ?_
                    refine q_iadd 93 k_W_tagAt_93 ?_
                    exact q_iret 94 k_W_tagAt_94 rfl hffffffftt
                  · have hffffffftf := hffffffft.2 c71
                    refine q_aload_n 74 k_W_tagAt_74 rfl ?_
                    refine q_iload_n 75 k_W_tagAt_75 rfl ?_
                    refine q_vI 76 [vI x1] [] k_W_tagAt_76 lk_2_103 rfl rfl rfl o0 rfl rfl rfl rfl (CallI.mono (fun y8 M7 h12 => ?_) hffffffftf)
                    refine q_goto 79 83 k_W_tagAt_79 rfl rfl ?_
                    refine q_bipush 83 k_W_tagAt_83 (by decide) ?_
                    refine q_imul 85 k_W_tagAt_85 ?_
                    refine q_iload_n 86 k_W_tagAt_86 rfl ?_
                    refine q_iadd 87 k_W_tagAt_87 ?_
                    refine q_bipush 88 k_W_tagAt_88 (by decide) ?_
                    refine q_imul 90 k_W_tagAt_90 ?_
                    refine q_iload 91 k_W_tagAt_91 rfl ?_
                    refine q_iadd 93 k_W_tagAt_93 ?_
                    exact q_iret 94 k_W_tagAt_94 rfl h12
                · have hffffffff := hfffffff.2 c61
                  refine q_iconst 64 k_W_tagAt_64 ?_
                  exact q_iret 65 k_W_tagAt_65 rfl hffffffff
theorem k_W_canCountTo_0 : decode (mtC m_W_canCountTo) 0 = .ok (.aload_n 0, 1) := by decide +kernel
theorem k_W_canCountTo_1 : decode (mtC m_W_canCountTo) 1 = .ok (.getfield 24, 3) := by decide +kernel
theorem k_W_canCountTo_4 : decode (mtC m_W_canCountTo) 4 = .ok (.iconst (-1), 1) := by decide +kernel
theorem k_W_canCountTo_5 : decode (mtC m_W_canCountTo) 5 = .ok (.if_icmp .eq 22, 3) := by decide +kernel
theorem k_W_canCountTo_8 : decode (mtC m_W_canCountTo) 8 = .ok (.aload_n 0, 1) := by decide +kernel
theorem k_W_canCountTo_9 : decode (mtC m_W_canCountTo) 9 = .ok (.getfield 24, 3) := by decide +kernel
theorem k_W_canCountTo_12 : decode (mtC m_W_canCountTo) 12 = .ok (.iconst 5, 1) := by decide +kernel
theorem k_W_canCountTo_13 : decode (mtC m_W_canCountTo) 13 = .ok (.if_icmp .ne 10, 3) := by decide +kernel
theorem k_W_canCountTo_16 : decode (mtC m_W_canCountTo) 16 = .ok (.iload_n 1, 1) := by decide +kernel
theorem k_W_canCountTo_17 : decode (mtC m_W_canCountTo) 17 = .ok (.sipush 600, 3) := by decide +kernel
theorem k_W_canCountTo_20 : decode (mtC m_W_canCountTo) 20 = .ok (.if_icmp .gt 7, 3) := by decide +kernel
theorem k_W_canCountTo_23 : decode (mtC m_W_canCountTo) 23 = .ok (.iconst 1, 1) := by decide +kernel
theorem k_W_canCountTo_24 : decode (mtC m_W_canCountTo) 24 = .ok (.goto 4, 3) := by decide +kernel
theorem k_W_canCountTo_27 : decode (mtC m_W_canCountTo) 27 = .ok (.iconst 0, 1) := by decide +kernel
theorem k_W_canCountTo_28 : decode (mtC m_W_canCountTo) 28 = .ok (.ireturn, 1) := by decide +kernel
set_option maxHeartbeats 4000000 in
set_option maxRecDepth 100000 in
theorem T_W_canCountTo_0 {d : Nat} {i0 : Nat} {x1 : Int} {M : AMem} {Q : Option AV → AMem → Prop} (o0 : okH 2 i0 = true) (h : ((wI (M 2 i0 2) = (-1)) → Q (some (vI 0)) M) ∧ (¬ (wI (M 2 i0 2) = (-1)) → ((¬ wI (M 2 i0 2) = 5) → Q (some (vI 1)) M) ∧ (¬ (¬ wI (M 2 i0 2) = 5) → ((600 < wI x1) → Q (some (vI 0)) M) ∧ (¬ (600 < wI x1) → Q (some (vI 1)) M)))) : RunQ d m_W_canCountTo 0 [some (vR 2 i0), some (vI x1)] [] M Q := by
  refine q_aload_n 0 k_W_canCountTo_0 rfl ?_
  refine q_getfield 1 k_W_canCountTo_1 fk_2_24 o0 (v := vI (M 2 i0 2)) rfl ?_
  refine q_iconst 4 k_W_canCountTo_4 ?_
  refine q_icmp_eq 5 27 k_W_canCountTo_5 rfl rfl (fun c5 => ?_) (fun c5 => ?_)
  · have ht := h.1 c5
    refine q_iconst 27 k_W_canCountTo_27 ?_
    exact q_zret 28 k_W_canCountTo_28 rfl (Or.inl rfl) ht
  · have hf := h.2 c5
    refine q_aload_n 8 k_W_canCountTo_8 rfl ?_
    refine q_getfield 9 k_W_canCountTo_9 fk_2_24 o0 (v := vI (M 2 i0 2)) rfl ?_
    refine q_iconst 12 k_W_canCountTo_12 ?_
    refine q_icmp_ne 13 23 k_W_canCountTo_13 rfl rfl (fun c13 => ?_) (fun c13 => ?_)
    · have hft := hf.1 c13
      refine q_iconst 23 k_W_canCountTo_23 ?_
      refine q_goto 24 28 k_W_canCountTo_24 rfl rfl ?_
      exact q_zret 28 k_W_canCountTo_28 rfl (Or.inr rfl) hft
    · have hff := hf.2 c13
      refine q_iload_n 16 k_W_canCountTo_16 rfl ?_
      refine q_sipush 17 k_W_canCountTo_17 (by decide) ?_
      refine q_icmp_gt 20 27 k_W_canCountTo_20 rfl rfl (fun c20 => ?_) (fun c20 => ?_)
      · have hfft := hff.1 c20
        refine q_iconst 27 k_W_canCountTo_27 ?_
        exact q_zret 28 k_W_canCountTo_28 rfl (Or.inl rfl) hfft
      · have hfff := hff.2 c20
        refine q_iconst 23 k_W_canCountTo_23 ?_
        refine q_goto 24 28 k_W_canCountTo_24 rfl rfl ?_
        exact q_zret 28 k_W_canCountTo_28 rfl (Or.inr rfl) hfff
theorem k_W_countUpTo_0 : decode (mtC m_W_countUpTo) 0 = .ok (.aload_n 0, 1) := by decide +kernel
theorem k_W_countUpTo_1 : decode (mtC m_W_countUpTo) 1 = .ok (.getfield 24, 3) := by decide +kernel
theorem k_W_countUpTo_4 : decode (mtC m_W_countUpTo) 4 = .ok (.lookupswitch 63 #[(0, 36), (3, 52), (5, 58)], 36) := by decide +kernel
theorem k_W_countUpTo_40 : decode (mtC m_W_countUpTo) 40 = .ok (.aload_n 0, 1) := by decide +kernel
theorem k_W_countUpTo_41 : decode (mtC m_W_countUpTo) 41 = .ok (.getfield 41, 3) := by decide +kernel
theorem k_W_countUpTo_44 : decode (mtC m_W_countUpTo) 44 = .ok (.iconst 1, 1) := by decide +kernel
theorem k_W_countUpTo_45 : decode (mtC m_W_countUpTo) 45 = .ok (.iload_n 1, 1) := by decide +kernel
theorem k_W_countUpTo_46 : decode (mtC m_W_countUpTo) 46 = .ok (.ldc 135, 2) := by decide +kernel
theorem k_W_countUpTo_48 : decode (mtC m_W_countUpTo) 48 = .ok (.invokestatic 170, 3) := by decide +kernel
theorem k_W_countUpTo_51 : decode (mtC m_W_countUpTo) 51 = .ok (.iconst 0, 1) := by decide +kernel
theorem k_W_countUpTo_52 : decode (mtC m_W_countUpTo) 52 = .ok (.invokestatic 173, 3) := by decide +kernel
theorem k_W_countUpTo_55 : decode (mtC m_W_countUpTo) 55 = .ok (.ireturn, 1) := by decide +kernel
theorem k_W_countUpTo_56 : decode (mtC m_W_countUpTo) 56 = .ok (.aload_n 0, 1) := by decide +kernel
theorem k_W_countUpTo_57 : decode (mtC m_W_countUpTo) 57 = .ok (.iload_n 1, 1) := by decide +kernel
theorem k_W_countUpTo_58 : decode (mtC m_W_countUpTo) 58 = .ok (.invokevirtual 177, 3) := by decide +kernel
theorem k_W_countUpTo_61 : decode (mtC m_W_countUpTo) 61 = .ok (.ireturn, 1) := by decide +kernel
theorem k_W_countUpTo_62 : decode (mtC m_W_countUpTo) 62 = .ok (.iload_n 1, 1) := by decide +kernel
theorem k_W_countUpTo_63 : decode (mtC m_W_countUpTo) 63 = .ok (.invokestatic 180, 3) := by decide +kernel
theorem k_W_countUpTo_66 : decode (mtC m_W_countUpTo) 66 = .ok (.ireturn, 1) := by decide +kernel
theorem k_W_countUpTo_67 : decode (mtC m_W_countUpTo) 67 = .ok (.aload_n 0, 1) := by decide +kernel
theorem k_W_countUpTo_68 : decode (mtC m_W_countUpTo) 68 = .ok (.iload_n 1, 1) := by decide +kernel
theorem k_W_countUpTo_69 : decode (mtC m_W_countUpTo) 69 = .ok (.invokevirtual 183, 3) := by decide +kernel
theorem k_W_countUpTo_72 : decode (mtC m_W_countUpTo) 72 = .ok (.ireturn, 1) := by decide +kernel
set_option maxHeartbeats 4000000 in
set_option maxRecDepth 100000 in
theorem T_W_countUpTo_0 {d : Nat} {i0 : Nat} {x1 : Int} {M : AMem} {Q : Option AV → AMem → Prop} (o0 : okH 2 i0 = true) (h : (wI (M 2 i0 2) = 0 → CallI d m_W_countProducts [vI (M 2 i0 3), vI 1, vI (if 100000 < wI x1 then 100000 else x1), vI 0] M (fun y2 M1 => Q (some (vI y2)) M1)) ∧ (wI (M 2 i0 2) = 3 → CallI d m_W_countOfRows [vR 2 i0, vI x1] M (fun y4 M3 => Q (some (vI y4)) M3)) ∧ (wI (M 2 i0 2) = 5 → CallI d m_W_countPrimes [vI x1] M (fun y6 M5 => Q (some (vI y6)) M5)) ∧ (¬ wI (M 2 i0 2) = 0 → ¬ wI (M 2 i0 2) = 3 → ¬ wI (M 2 i0 2) = 5 → CallI d m_W_countOfGrid [vR 2 i0, vI x1] M (fun y8 M7 => Q (some (vI y8)) M7))) : RunQ (d + 1) m_W_countUpTo 0 [some (vR 2 i0), some (vI x1)] [] M Q := by
  refine q_aload_n 0 k_W_countUpTo_0 rfl ?_
  refine q_getfield 1 k_W_countUpTo_1 fk_2_24 o0 (v := vI (M 2 i0 2)) rfl ?_
  by_cases cq0 : wI (M 2 i0 2) = 0
  · refine q_lsw 4 40 k_W_countUpTo_4 rfl (by rw [cq0]; rfl) (by rw [cq0]; rfl) ?_
    have h0 := h.1 cq0
    refine q_aload_n 40 k_W_countUpTo_40 rfl ?_
    refine q_getfield 41 k_W_countUpTo_41 fk_2_41 o0 (v := vI (M 2 i0 3)) rfl ?_
    refine q_iconst 44 k_W_countUpTo_44 ?_
    refine q_iload_n 45 k_W_countUpTo_45 rfl ?_
    refine q_ldc 46 k_W_countUpTo_46 ck_2_135 ?_
    refine q_min 48 k_W_countUpTo_48 rfl rfl ?_
    refine q_iconst 51 k_W_countUpTo_51 ?_
    refine q_sI 52 [vI (M 2 i0 3), vI 1, vI (if 100000 < wI x1 then 100000 else x1), vI 0] [] k_W_countUpTo_52 rfl lk_2_173 rfl rfl rfl rfl rfl rfl (CallI.mono (fun y2 M1 h9 => ?_) h0)
    exact q_iret 55 k_W_countUpTo_55 rfl h9
  by_cases cq1 : wI (M 2 i0 2) = 3
  · refine q_lsw 4 56 k_W_countUpTo_4 rfl (by rw [cq1]; rfl) (by rw [cq1]; rfl) ?_
    have h1 := h.2.1 cq1
    refine q_aload_n 56 k_W_countUpTo_56 rfl ?_
    refine q_iload_n 57 k_W_countUpTo_57 rfl ?_
    refine q_vI 58 [vI x1] [] k_W_countUpTo_58 lk_2_177 rfl rfl rfl o0 rfl rfl rfl rfl (CallI.mono (fun y4 M3 h10 => ?_) h1)
    exact q_iret 61 k_W_countUpTo_61 rfl h10
  by_cases cq2 : wI (M 2 i0 2) = 5
  · refine q_lsw 4 62 k_W_countUpTo_4 rfl (by rw [cq2]; rfl) (by rw [cq2]; rfl) ?_
    have h2 := h.2.2.1 cq2
    refine q_iload_n 62 k_W_countUpTo_62 rfl ?_
    refine q_sI 63 [vI x1] [] k_W_countUpTo_63 rfl lk_2_180 rfl rfl rfl rfl rfl rfl (CallI.mono (fun y6 M5 h11 => ?_) h2)
    exact q_iret 66 k_W_countUpTo_66 rfl h11
  have lz : Op.lookupswitch.offset [(0, 36), (3, 52), (5, 58)] 63 (wI (M 2 i0 2)) = 63 := by rw [Op.lookupswitch.offset_cons, if_neg (fun z => cq0 z.symm), Op.lookupswitch.offset_cons, if_neg (fun z => cq1 z.symm), Op.lookupswitch.offset_cons, if_neg (fun z => cq2 z.symm)]; rfl
  refine q_lsw 4 67 k_W_countUpTo_4 rfl (by show jok 4 (Op.lookupswitch.offset _ _ _) = true; erw [lz]; rfl) (by show jmp 4 (Op.lookupswitch.offset _ _ _) = _; erw [lz]; rfl) ?_
  have hd := h.2.2.2 cq0 cq1 cq2
  refine q_aload_n 67 k_W_countUpTo_67 rfl ?_
  refine q_iload_n 68 k_W_countUpTo_68 rfl ?_
  refine q_vI 69 [vI x1] [] k_W_countUpTo_69 lk_2_183 rfl rfl rfl o0 rfl rfl rfl rfl (CallI.mono (fun y8 M7 h12 => ?_) hd)
  exact q_iret 72 k_W_countUpTo_72 rfl h12
theorem k_W_countProducts_0 : decode (mtC m_W_countProducts) 0 = .ok (.iload_n 3, 1) := by decide +kernel
theorem k_W_countProducts_1 : decode (mtC m_W_countProducts) 1 = .ok (.ifCond .lt 11, 3) := by decide +kernel
theorem k_W_countProducts_4 : decode (mtC m_W_countProducts) 4 = .ok (.iload_n 3, 1) := by decide +kernel
theorem k_W_countProducts_5 : decode (mtC m_W_countProducts) 5 = .ok (.getstatic 127, 3) := by decide +kernel
theorem k_W_countProducts_8 : decode (mtC m_W_countProducts) 8 = .ok (.arraylength, 1) := by decide +kernel
theorem k_W_countProducts_9 : decode (mtC m_W_countProducts) 9 = .ok (.if_icmp .lt 14, 3) := by decide +kernel
theorem k_W_countProducts_12 : decode (mtC m_W_countProducts) 12 = .ok (.iload_n 1, 1) := by decide +kernel
theorem k_W_countProducts_13 : decode (mtC m_W_countProducts) 13 = .ok (.iload_n 2, 1) := by decide +kernel
theorem k_W_countProducts_14 : decode (mtC m_W_countProducts) 14 = .ok (.if_icmp .gt 7, 3) := by decide +kernel
theorem k_W_countProducts_17 : decode (mtC m_W_countProducts) 17 = .ok (.iconst 1, 1) := by decide +kernel
theorem k_W_countProducts_18 : decode (mtC m_W_countProducts) 18 = .ok (.goto 4, 3) := by decide +kernel
theorem k_W_countProducts_21 : decode (mtC m_W_countProducts) 21 = .ok (.iconst 0, 1) := by decide +kernel
theorem k_W_countProducts_22 : decode (mtC m_W_countProducts) 22 = .ok (.ireturn, 1) := by decide +kernel
theorem k_W_countProducts_23 : decode (mtC m_W_countProducts) 23 = .ok (.iload_n 0, 1) := by decide +kernel
theorem k_W_countProducts_24 : decode (mtC m_W_countProducts) 24 = .ok (.iload_n 3, 1) := by decide +kernel
theorem k_W_countProducts_25 : decode (mtC m_W_countProducts) 25 = .ok (.invokestatic 131, 3) := by decide +kernel
theorem k_W_countProducts_28 : decode (mtC m_W_countProducts) 28 = .ok (.ifCond .ne 13, 3) := by decide +kernel
theorem k_W_countProducts_31 : decode (mtC m_W_countProducts) 31 = .ok (.iload_n 0, 1) := by decide +kernel
theorem k_W_countProducts_32 : decode (mtC m_W_countProducts) 32 = .ok (.iload_n 1, 1) := by decide +kernel
theorem k_W_countProducts_33 : decode (mtC m_W_countProducts) 33 = .ok (.iload_n 2, 1) := by decide +kernel
theorem k_W_countProducts_34 : decode (mtC m_W_countProducts) 34 = .ok (.iload_n 3, 1) := by decide +kernel
theorem k_W_countProducts_35 : decode (mtC m_W_countProducts) 35 = .ok (.iconst 1, 1) := by decide +kernel
theorem k_W_countProducts_36 : decode (mtC m_W_countProducts) 36 = .ok (.iadd, 1) := by decide +kernel
theorem k_W_countProducts_37 : decode (mtC m_W_countProducts) 37 = .ok (.invokestatic 173, 3) := by decide +kernel
theorem k_W_countProducts_40 : decode (mtC m_W_countProducts) 40 = .ok (.ireturn, 1) := by decide +kernel
theorem k_W_countProducts_41 : decode (mtC m_W_countProducts) 41 = .ok (.iconst 0, 1) := by decide +kernel
theorem k_W_countProducts_42 : decode (mtC m_W_countProducts) 42 = .ok (.istore 4, 2) := by decide +kernel
theorem k_W_countProducts_44 : decode (mtC m_W_countProducts) 44 = .ok (.iload_n 1, 1) := by decide +kernel
theorem k_W_countProducts_45 : decode (mtC m_W_countProducts) 45 = .ok (.istore 5, 2) := by decide +kernel
theorem k_W_countProducts_47 : decode (mtC m_W_countProducts) 47 = .ok (.iconst 0, 1) := by decide +kernel
theorem k_W_countProducts_48 : decode (mtC m_W_countProducts) 48 = .ok (.istore 6, 2) := by decide +kernel
theorem k_W_countProducts_50 : decode (mtC m_W_countProducts) 50 = .ok (.iload 6, 2) := by decide +kernel
theorem k_W_countProducts_52 : decode (mtC m_W_countProducts) 52 = .ok (.bipush 17, 2) := by decide +kernel
theorem k_W_countProducts_54 : decode (mtC m_W_countProducts) 54 = .ok (.if_icmp .ge 40, 3) := by decide +kernel
theorem k_W_countProducts_57 : decode (mtC m_W_countProducts) 57 = .ok (.iload 5, 2) := by decide +kernel
theorem k_W_countProducts_59 : decode (mtC m_W_countProducts) 59 = .ok (.iload_n 2, 1) := by decide +kernel
theorem k_W_countProducts_60 : decode (mtC m_W_countProducts) 60 = .ok (.if_icmp .gt 34, 3) := by decide +kernel
theorem k_W_countProducts_63 : decode (mtC m_W_countProducts) 63 = .ok (.iload 4, 2) := by decide +kernel
theorem k_W_countProducts_65 : decode (mtC m_W_countProducts) 65 = .ok (.iload_n 0, 1) := by decide +kernel
theorem k_W_countProducts_66 : decode (mtC m_W_countProducts) 66 = .ok (.iload 5, 2) := by decide +kernel
theorem k_W_countProducts_68 : decode (mtC m_W_countProducts) 68 = .ok (.iload_n 2, 1) := by decide +kernel
theorem k_W_countProducts_69 : decode (mtC m_W_countProducts) 69 = .ok (.iload_n 3, 1) := by decide +kernel
theorem k_W_countProducts_70 : decode (mtC m_W_countProducts) 70 = .ok (.iconst 1, 1) := by decide +kernel
theorem k_W_countProducts_71 : decode (mtC m_W_countProducts) 71 = .ok (.iadd, 1) := by decide +kernel
theorem k_W_countProducts_72 : decode (mtC m_W_countProducts) 72 = .ok (.invokestatic 173, 3) := by decide +kernel
theorem k_W_countProducts_75 : decode (mtC m_W_countProducts) 75 = .ok (.iadd, 1) := by decide +kernel
theorem k_W_countProducts_76 : decode (mtC m_W_countProducts) 76 = .ok (.istore 4, 2) := by decide +kernel
theorem k_W_countProducts_78 : decode (mtC m_W_countProducts) 78 = .ok (.iload 5, 2) := by decide +kernel
theorem k_W_countProducts_80 : decode (mtC m_W_countProducts) 80 = .ok (.getstatic 127, 3) := by decide +kernel
theorem k_W_countProducts_83 : decode (mtC m_W_countProducts) 83 = .ok (.iload_n 3, 1) := by decide +kernel
theorem k_W_countProducts_84 : decode (mtC m_W_countProducts) 84 = .ok (.iaload, 1) := by decide +kernel
theorem k_W_countProducts_85 : decode (mtC m_W_countProducts) 85 = .ok (.imul, 1) := by decide +kernel
theorem k_W_countProducts_86 : decode (mtC m_W_countProducts) 86 = .ok (.istore 5, 2) := by decide +kernel
theorem k_W_countProducts_88 : decode (mtC m_W_countProducts) 88 = .ok (.iinc 6 1, 3) := by decide +kernel
theorem k_W_countProducts_91 : decode (mtC m_W_countProducts) 91 = .ok (.goto (-41), 3) := by decide +kernel
theorem k_W_countProducts_94 : decode (mtC m_W_countProducts) 94 = .ok (.iload 4, 2) := by decide +kernel
theorem k_W_countProducts_96 : decode (mtC m_W_countProducts) 96 = .ok (.ireturn, 1) := by decide +kernel
set_option maxHeartbeats 4000000 in
set_option maxRecDepth 100000 in
theorem T_W_countProducts_0 {d : Nat} {x0 : Int} {x1 : Int} {x2 : Int} {x3 : Int} {M : AMem} {Q : Option AV → AMem → Prop}  (h : ((wI x3 < 0) → ((wI x2 < wI x1) → Q (some (vI 0)) M) ∧ (¬ (wI x2 < wI x1) → Q (some (vI 1)) M)) ∧ (¬ (wI x3 < 0) → ((wI x3 < 6) → CallI d m_W_isMember [vI x0, vI x3] M (fun y2 M1 => ((¬ wI y2 = 0) → RunQ (d + 1) m_W_countProducts 50 [some (vI x0), some (vI x1), some (vI x2), some (vI x3), some (vI 0), some (vI x1), some (vI 0)] [] M1 Q) ∧ (¬ (¬ wI y2 = 0) → CallI d m_W_countProducts [vI x0, vI x1, vI x2, vI (x3 + 1)] M1 (fun y4 M3 => Q (some (vI y4)) M3)))) ∧ (¬ (wI x3 < 6) → ((wI x2 < wI x1) → Q (some (vI 0)) M) ∧ (¬ (wI x2 < wI x1) → Q (some (vI 1)) M)))) : RunQ (d + 1) m_W_countProducts 0 [some (vI x0), some (vI x1), some (vI x2), some (vI x3), none, none, none] [] M Q := by
  refine q_iload_n 0 k_W_countProducts_0 rfl ?_
  refine q_if_lt 1 12 k_W_countProducts_1 rfl rfl (fun c1 => ?_) (fun c1 => ?_)
  · have ht := h.1 c1
    refine q_iload_n 12 k_W_countProducts_12 rfl ?_
    refine q_iload_n 13 k_W_countProducts_13 rfl ?_
    refine q_icmp_gt 14 21 k_W_countProducts_14 rfl rfl (fun c14 => ?_) (fun c14 => ?_)
    · have htt := ht.1 c14
      refine q_iconst 21 k_W_countProducts_21 ?_
      exact q_iret 22 k_W_countProducts_22 rfl htt
    · have htf := ht.2 c14
      refine q_iconst 17 k_W_countProducts_17 ?_
      refine q_goto 18 22 k_W_countProducts_18 rfl rfl ?_
      exact q_iret 22 k_W_countProducts_22 rfl htf
  · have hf := h.2 c1
    refine q_iload_n 4 k_W_countProducts_4 rfl ?_
    refine q_getstatic 5 k_W_countProducts_5 (a := 10) rfl ?_
    refine q_alen 8 k_W_countProducts_8 rfl rfl (z := 6) rfl ?_
    refine q_icmp_lt 9 23 k_W_countProducts_9 rfl rfl (fun c9 => ?_) (fun c9 => ?_)
    · have hft := hf.1 c9
      refine q_iload_n 23 k_W_countProducts_23 rfl ?_
      refine q_iload_n 24 k_W_countProducts_24 rfl ?_
      refine q_sI 25 [vI x0, vI x3] [] k_W_countProducts_25 rfl lk_2_131 rfl rfl rfl rfl rfl rfl (CallI.mono (fun y2 M1 h5 => ?_) hft)
      refine q_if_ne 28 41 k_W_countProducts_28 rfl rfl (fun c28 => ?_) (fun c28 => ?_)
      · have h5t := h5.1 c28
        refine q_iconst 41 k_W_countProducts_41 ?_
        refine q_istore 42 k_W_countProducts_42 (ls' := [some (vI x0), some (vI x1), some (vI x2), some (vI x3), some (vI 0), none, none]) rfl rfl ?_
        refine q_iload_n 44 k_W_countProducts_44 rfl ?_
        refine q_istore 45 k_W_countProducts_45 (ls' := [some (vI x0), some (vI x1), some (vI x2), some (vI x3), some (vI 0), some (vI x1), none]) rfl rfl ?_
        refine q_iconst 47 k_W_countProducts_47 ?_
        refine q_istore 48 k_W_countProducts_48 (ls' := [some (vI x0), some (vI x1), some (vI x2), some (vI x3), some (vI 0), some (vI x1), some (vI 0)]) rfl rfl ?_
        exact h5t
      · have h5f := h5.2 c28
        refine q_iload_n 31 k_W_countProducts_31 rfl ?_
        refine q_iload_n 32 k_W_countProducts_32 rfl ?_
        refine q_iload_n 33 k_W_countProducts_33 rfl ?_
        refine q_iload_n 34 k_W_countProducts_34 rfl ?_
        refine q_iconst 35 k_W_countProducts_35 ?_
        refine q_iadd 36 k_W_countProducts_36 ?_
        refine q_sI 37 [vI x0, vI x1, vI x2, vI (x3 + 1)] [] k_W_countProducts_37 rfl lk_2_173 rfl rfl rfl rfl rfl rfl (CallI.mono (fun y4 M3 h6 => ?_) h5f)
        exact q_iret 40 k_W_countProducts_40 rfl h6
    · have hff := hf.2 c9
      refine q_iload_n 12 k_W_countProducts_12 rfl ?_
      refine q_iload_n 13 k_W_countProducts_13 rfl ?_
      refine q_icmp_gt 14 21 k_W_countProducts_14 rfl rfl (fun c14 => ?_) (fun c14 => ?_)
      · have hfft := hff.1 c14
        refine q_iconst 21 k_W_countProducts_21 ?_
        exact q_iret 22 k_W_countProducts_22 rfl hfft
      · have hfff := hff.2 c14
        refine q_iconst 17 k_W_countProducts_17 ?_
        refine q_goto 18 22 k_W_countProducts_18 rfl rfl ?_
        exact q_iret 22 k_W_countProducts_22 rfl hfff
set_option maxHeartbeats 4000000 in
set_option maxRecDepth 100000 in
theorem T_W_countProducts_50 {d : Nat} {x0 : Int} {x1 : Int} {x2 : Int} {x3 : Int} {x4 : Int} {x5 : Int} {x6 : Int} {M : AMem} {Q : Option AV → AMem → Prop}  (h : ((17 ≤ wI x6) → Q (some (vI x4)) M) ∧ (¬ (17 ≤ wI x6) → ((wI x2 < wI x5) → Q (some (vI x4)) M) ∧ (¬ (wI x2 < wI x5) → CallI d m_W_countProducts [vI x0, vI x5, vI x2, vI (x3 + 1)] M (fun y2 M1 => (0 ≤ wI x3 ∧ wI x3 < (6 : Nat)) ∧ (RunQ (d + 1) m_W_countProducts 50 [some (vI x0), some (vI x1), some (vI x2), some (vI x3), some (vI (x4 + y2)), some (vI (x5 * (bas (wI x3).toNat))), some (vI (x6 + 1))] [] M1 Q))))) : RunQ (d + 1) m_W_countProducts 50 [some (vI x0), some (vI x1), some (vI x2), some (vI x3), some (vI x4), some (vI x5), some (vI x6)] [] M Q := by
  refine q_iload 50 k_W_countProducts_50 rfl ?_
  refine q_bipush 52 k_W_countProducts_52 (by decide) ?_
  refine q_icmp_ge 54 94 k_W_countProducts_54 rfl rfl (fun c54 => ?_) (fun c54 => ?_)
  · have ht := h.1 c54
    refine q_iload 94 k_W_countProducts_94 rfl ?_
    exact q_iret 96 k_W_countProducts_96 rfl ht
  · have hf := h.2 c54
    refine q_iload 57 k_W_countProducts_57 rfl ?_
    refine q_iload_n 59 k_W_countProducts_59 rfl ?_
    refine q_icmp_gt 60 94 k_W_countProducts_60 rfl rfl (fun c60 => ?_) (fun c60 => ?_)
    · have hft := hf.1 c60
      refine q_iload 94 k_W_countProducts_94 rfl ?_
      exact q_iret 96 k_W_countProducts_96 rfl hft
    · have hff := hf.2 c60
      refine q_iload 63 k_W_countProducts_63 rfl ?_
      refine q_iload_n 65 k_W_countProducts_65 rfl ?_
      refine q_iload 66 k_W_countProducts_66 rfl ?_
      refine q_iload_n 68 k_W_countProducts_68 rfl ?_
      refine q_iload_n 69 k_W_countProducts_69 rfl ?_
      refine q_iconst 70 k_W_countProducts_70 ?_
      refine q_iadd 71 k_W_countProducts_71 ?_
      refine q_sI 72 [vI x0, vI x5, vI x2, vI (x3 + 1)] [vI x4] k_W_countProducts_72 rfl lk_2_173 rfl rfl rfl rfl rfl rfl (CallI.mono (fun y2 M1 h4 => ?_) hff)
      refine q_iadd 75 k_W_countProducts_75 ?_
      refine q_istore 76 k_W_countProducts_76 (ls' := [some (vI x0), some (vI x1), some (vI x2), some (vI x3), some (vI (x4 + y2)), some (vI x5), some (vI x6)]) rfl rfl ?_
      refine q_iload 78 k_W_countProducts_78 rfl ?_
      refine q_getstatic 80 k_W_countProducts_80 (a := 10) rfl ?_
      refine q_iload_n 83 k_W_countProducts_83 rfl ?_
      have hb3 := h4.1
      refine q_iaload 84 k_W_countProducts_84 rfl (n := 6) rfl hb3 (z := (bas (wI x3).toNat)) rfl ?_
      have h4' := h4.2
      refine q_imul 85 k_W_countProducts_85 ?_
      refine q_istore 86 k_W_countProducts_86 (ls' := [some (vI x0), some (vI x1), some (vI x2), some (vI x3), some (vI (x4 + y2)), some (vI (x5 * (bas (wI x3).toNat))), some (vI x6)]) rfl rfl ?_
      refine q_iinc 88 k_W_countProducts_88 (ls' := [some (vI x0), some (vI x1), some (vI x2), some (vI x3), some (vI (x4 + y2)), some (vI (x5 * (bas (wI x3).toNat))), some (vI (x6 + 1))]) rfl rfl rfl ?_
      refine q_goto 91 50 k_W_countProducts_91 rfl rfl ?_
      exact h4'
theorem k_W_countOfRows_0 : decode (mtC m_W_countOfRows) 0 = .ok (.iconst 0, 1) := by decide +kernel
theorem k_W_countOfRows_1 : decode (mtC m_W_countOfRows) 1 = .ok (.istore_n 2, 1) := by decide +kernel
theorem k_W_countOfRows_2 : decode (mtC m_W_countOfRows) 2 = .ok (.iconst 0, 1) := by decide +kernel
theorem k_W_countOfRows_3 : decode (mtC m_W_countOfRows) 3 = .ok (.istore_n 3, 1) := by decide +kernel
theorem k_W_countOfRows_4 : decode (mtC m_W_countOfRows) 4 = .ok (.iload_n 3, 1) := by decide +kernel
theorem k_W_countOfRows_5 : decode (mtC m_W_countOfRows) 5 = .ok (.aload_n 0, 1) := by decide +kernel
theorem k_W_countOfRows_6 : decode (mtC m_W_countOfRows) 6 = .ok (.getfield 11, 3) := by decide +kernel
theorem k_W_countOfRows_9 : decode (mtC m_W_countOfRows) 9 = .ok (.arraylength, 1) := by decide +kernel
theorem k_W_countOfRows_10 : decode (mtC m_W_countOfRows) 10 = .ok (.if_icmp .ge 33, 3) := by decide +kernel
theorem k_W_countOfRows_13 : decode (mtC m_W_countOfRows) 13 = .ok (.aload_n 0, 1) := by decide +kernel
theorem k_W_countOfRows_14 : decode (mtC m_W_countOfRows) 14 = .ok (.getfield 41, 3) := by decide +kernel
theorem k_W_countOfRows_17 : decode (mtC m_W_countOfRows) 17 = .ok (.iload_n 3, 1) := by decide +kernel
theorem k_W_countOfRows_18 : decode (mtC m_W_countOfRows) 18 = .ok (.invokestatic 131, 3) := by decide +kernel
theorem k_W_countOfRows_21 : decode (mtC m_W_countOfRows) 21 = .ok (.ifCond .eq 16, 3) := by decide +kernel
theorem k_W_countOfRows_24 : decode (mtC m_W_countOfRows) 24 = .ok (.iload_n 2, 1) := by decide +kernel
theorem k_W_countOfRows_25 : decode (mtC m_W_countOfRows) 25 = .ok (.aload_n 0, 1) := by decide +kernel
theorem k_W_countOfRows_26 : decode (mtC m_W_countOfRows) 26 = .ok (.getfield 11, 3) := by decide +kernel
theorem k_W_countOfRows_29 : decode (mtC m_W_countOfRows) 29 = .ok (.iload_n 3, 1) := by decide +kernel
theorem k_W_countOfRows_30 : decode (mtC m_W_countOfRows) 30 = .ok (.aaload, 1) := by decide +kernel
theorem k_W_countOfRows_31 : decode (mtC m_W_countOfRows) 31 = .ok (.iload_n 1, 1) := by decide +kernel
theorem k_W_countOfRows_32 : decode (mtC m_W_countOfRows) 32 = .ok (.invokevirtual 186, 3) := by decide +kernel
theorem k_W_countOfRows_35 : decode (mtC m_W_countOfRows) 35 = .ok (.iadd, 1) := by decide +kernel
theorem k_W_countOfRows_36 : decode (mtC m_W_countOfRows) 36 = .ok (.istore_n 2, 1) := by decide +kernel
theorem k_W_countOfRows_37 : decode (mtC m_W_countOfRows) 37 = .ok (.iinc 3 1, 3) := by decide +kernel
theorem k_W_countOfRows_40 : decode (mtC m_W_countOfRows) 40 = .ok (.goto (-36), 3) := by decide +kernel
theorem k_W_countOfRows_43 : decode (mtC m_W_countOfRows) 43 = .ok (.iload_n 2, 1) := by decide +kernel
theorem k_W_countOfRows_44 : decode (mtC m_W_countOfRows) 44 = .ok (.ireturn, 1) := by decide +kernel
set_option maxHeartbeats 4000000 in
set_option maxRecDepth 100000 in
theorem T_W_countOfRows_0 {d : Nat} {i0 : Nat} {x1 : Int} {M : AMem} {Q : Option AV → AMem → Prop} (o0 : okH 2 i0 = true) (h : RunQ (d + 1) m_W_countOfRows 4 [some (vR 2 i0), some (vI x1), some (vI 0), some (vI 0)] [] M Q) : RunQ (d + 1) m_W_countOfRows 0 [some (vR 2 i0), some (vI x1), none, none] [] M Q := by
  refine q_iconst 0 k_W_countOfRows_0 ?_
  refine q_istore_n 1 k_W_countOfRows_1 (ls' := [some (vR 2 i0), some (vI x1), some (vI 0), none]) rfl rfl ?_
  refine q_iconst 2 k_W_countOfRows_2 ?_
  refine q_istore_n 3 k_W_countOfRows_3 (ls' := [some (vR 2 i0), some (vI x1), some (vI 0), some (vI 0)]) rfl rfl ?_
  exact h
set_option maxHeartbeats 4000000 in
set_option maxRecDepth 100000 in
theorem T_W_countOfRows_4 {d : Nat} {i0 : Nat} {x1 : Int} {x2 : Int} {x3 : Int} {M : AMem} {Q : Option AV → AMem → Prop} (o0 : okH 2 i0 = true) (h : ((6 ≤ wI x3) → Q (some (vI x2)) M) ∧ (¬ (6 ≤ wI x3) → CallI d m_W_isMember [vI (M 2 i0 3), vI x3] M (fun y2 M1 => ((wI y2 = 0) → RunQ (d + 1) m_W_countOfRows 4 [some (vR 2 i0), some (vI x1), some (vI x2), some (vI (x3 + 1))] [] M1 Q) ∧ (¬ (wI y2 = 0) → (0 ≤ wI x3 ∧ wI x3 < (6 : Nat)) ∧ (CallI d m_R_countUpTo [vR 1 (6 * i0 + (wI x3).toNat), vI x1] M1 (fun y5 M4 => RunQ (d + 1) m_W_countOfRows 4 [some (vR 2 i0), some (vI x1), some (vI (x2 + y5)), some (vI (x3 + 1))] [] M4 Q)))))) : RunQ (d + 1) m_W_countOfRows 4 [some (vR 2 i0), some (vI x1), some (vI x2), some (vI x3)] [] M Q := by
  refine q_iload_n 4 k_W_countOfRows_4 rfl ?_
  refine q_aload_n 5 k_W_countOfRows_5 rfl ?_
  refine q_getfield 6 k_W_countOfRows_6 fk_2_11 o0 (v := vR 6 i0) rfl ?_
  refine q_alen 9 k_W_countOfRows_9 o0 rfl (z := 6) rfl ?_
  refine q_icmp_ge 10 43 k_W_countOfRows_10 rfl rfl (fun c10 => ?_) (fun c10 => ?_)
  · have ht := h.1 c10
    refine q_iload_n 43 k_W_countOfRows_43 rfl ?_
    exact q_iret 44 k_W_countOfRows_44 rfl ht
  · have hf := h.2 c10
    refine q_aload_n 13 k_W_countOfRows_13 rfl ?_
    refine q_getfield 14 k_W_countOfRows_14 fk_2_41 o0 (v := vI (M 2 i0 3)) rfl ?_
    refine q_iload_n 17 k_W_countOfRows_17 rfl ?_
    refine q_sI 18 [vI (M 2 i0 3), vI x3] [] k_W_countOfRows_18 rfl lk_2_131 rfl rfl rfl rfl rfl rfl (CallI.mono (fun y2 M1 h6 => ?_) hf)
    refine q_if_eq 21 37 k_W_countOfRows_21 rfl rfl (fun c21 => ?_) (fun c21 => ?_)
    · have h6t := h6.1 c21
      refine q_iinc 37 k_W_countOfRows_37 (ls' := [some (vR 2 i0), some (vI x1), some (vI x2), some (vI (x3 + 1))]) rfl rfl rfl ?_
      refine q_goto 40 4 k_W_countOfRows_40 rfl rfl ?_
      exact h6t
    · have h6f := h6.2 c21
      refine q_iload_n 24 k_W_countOfRows_24 rfl ?_
      refine q_aload_n 25 k_W_countOfRows_25 rfl ?_
      refine q_getfield 26 k_W_countOfRows_26 fk_2_11 o0 (v := vR 6 i0) rfl ?_
      refine q_iload_n 29 k_W_countOfRows_29 rfl ?_
      have hb3 := h6f.1
      refine q_aaload 30 k_W_countOfRows_30 o0 (n := 6) rfl hb3 (kd := 1) (x := (6 * i0 + (wI x3).toNat)) rfl ?_
      have h6f' := h6f.2
      refine q_iload_n 31 k_W_countOfRows_31 rfl ?_
      refine q_vI 32 [vI x1] [vI x2] k_W_countOfRows_32 lk_2_186 rfl rfl rfl (ok_r6 o0 hb3) rfl rfl rfl rfl (CallI.mono (fun y5 M4 h7 => ?_) h6f')
      refine q_iadd 35 k_W_countOfRows_35 ?_
      refine q_istore_n 36 k_W_countOfRows_36 (ls' := [some (vR 2 i0), some (vI x1), some (vI (x2 + y5)), some (vI x3)]) rfl rfl ?_
      refine q_iinc 37 k_W_countOfRows_37 (ls' := [some (vR 2 i0), some (vI x1), some (vI (x2 + y5)), some (vI (x3 + 1))]) rfl rfl rfl ?_
      refine q_goto 40 4 k_W_countOfRows_40 rfl rfl ?_
      exact h7
theorem k_W_countPrimes_0 : decode (mtC m_W_countPrimes) 0 = .ok (.iconst 0, 1) := by decide +kernel
theorem k_W_countPrimes_1 : decode (mtC m_W_countPrimes) 1 = .ok (.istore_n 1, 1) := by decide +kernel
theorem k_W_countPrimes_2 : decode (mtC m_W_countPrimes) 2 = .ok (.iconst 2, 1) := by decide +kernel
theorem k_W_countPrimes_3 : decode (mtC m_W_countPrimes) 3 = .ok (.istore_n 2, 1) := by decide +kernel
theorem k_W_countPrimes_4 : decode (mtC m_W_countPrimes) 4 = .ok (.iload_n 2, 1) := by decide +kernel
theorem k_W_countPrimes_5 : decode (mtC m_W_countPrimes) 5 = .ok (.iload_n 0, 1) := by decide +kernel
theorem k_W_countPrimes_6 : decode (mtC m_W_countPrimes) 6 = .ok (.if_icmp .gt 26, 3) := by decide +kernel
theorem k_W_countPrimes_9 : decode (mtC m_W_countPrimes) 9 = .ok (.iload_n 2, 1) := by decide +kernel
theorem k_W_countPrimes_10 : decode (mtC m_W_countPrimes) 10 = .ok (.sipush 600, 3) := by decide +kernel
theorem k_W_countPrimes_13 : decode (mtC m_W_countPrimes) 13 = .ok (.if_icmp .gt 19, 3) := by decide +kernel
theorem k_W_countPrimes_16 : decode (mtC m_W_countPrimes) 16 = .ok (.iload_n 2, 1) := by decide +kernel
theorem k_W_countPrimes_17 : decode (mtC m_W_countPrimes) 17 = .ok (.invokestatic 156, 3) := by decide +kernel
theorem k_W_countPrimes_20 : decode (mtC m_W_countPrimes) 20 = .ok (.ifCond .eq 6, 3) := by decide +kernel
theorem k_W_countPrimes_23 : decode (mtC m_W_countPrimes) 23 = .ok (.iinc 1 1, 3) := by decide +kernel
theorem k_W_countPrimes_26 : decode (mtC m_W_countPrimes) 26 = .ok (.iinc 2 1, 3) := by decide +kernel
theorem k_W_countPrimes_29 : decode (mtC m_W_countPrimes) 29 = .ok (.goto (-25), 3) := by decide +kernel
theorem k_W_countPrimes_32 : decode (mtC m_W_countPrimes) 32 = .ok (.iload_n 1, 1) := by decide +kernel
theorem k_W_countPrimes_33 : decode (mtC m_W_countPrimes) 33 = .ok (.ireturn, 1) := by decide +kernel
set_option maxHeartbeats 4000000 in
set_option maxRecDepth 100000 in
theorem T_W_countPrimes_0 {d : Nat} {x0 : Int} {M : AMem} {Q : Option AV → AMem → Prop}  (h : RunQ (d + 1) m_W_countPrimes 4 [some (vI x0), some (vI 0), some (vI 2)] [] M Q) : RunQ (d + 1) m_W_countPrimes 0 [some (vI x0), none, none] [] M Q := by
  refine q_iconst 0 k_W_countPrimes_0 ?_
  refine q_istore_n 1 k_W_countPrimes_1 (ls' := [some (vI x0), some (vI 0), none]) rfl rfl ?_
  refine q_iconst 2 k_W_countPrimes_2 ?_
  refine q_istore_n 3 k_W_countPrimes_3 (ls' := [some (vI x0), some (vI 0), some (vI 2)]) rfl rfl ?_
  exact h
set_option maxHeartbeats 4000000 in
set_option maxRecDepth 100000 in
theorem T_W_countPrimes_4 {d : Nat} {x0 : Int} {x1 : Int} {x2 : Int} {M : AMem} {Q : Option AV → AMem → Prop}  (h : ((wI x0 < wI x2) → Q (some (vI x1)) M) ∧ (¬ (wI x0 < wI x2) → ((600 < wI x2) → Q (some (vI x1)) M) ∧ (¬ (600 < wI x2) → CallI d m_W_isPrime [vI x2] M (fun y2 M1 => ((wI y2 = 0) → RunQ (d + 1) m_W_countPrimes 4 [some (vI x0), some (vI x1), some (vI (x2 + 1))] [] M1 Q) ∧ (¬ (wI y2 = 0) → RunQ (d + 1) m_W_countPrimes 4 [some (vI x0), some (vI (x1 + 1)), some (vI (x2 + 1))] [] M1 Q))))) : RunQ (d + 1) m_W_countPrimes 4 [some (vI x0), some (vI x1), some (vI x2)] [] M Q := by
  refine q_iload_n 4 k_W_countPrimes_4 rfl ?_
  refine q_iload_n 5 k_W_countPrimes_5 rfl ?_
  refine q_icmp_gt 6 32 k_W_countPrimes_6 rfl rfl (fun c6 => ?_) (fun c6 => ?_)
  · have ht := h.1 c6
    refine q_iload_n 32 k_W_countPrimes_32 rfl ?_
    exact q_iret 33 k_W_countPrimes_33 rfl ht
  · have hf := h.2 c6
    refine q_iload_n 9 k_W_countPrimes_9 rfl ?_
    refine q_sipush 10 k_W_countPrimes_10 (by decide) ?_
    refine q_icmp_gt 13 32 k_W_countPrimes_13 rfl rfl (fun c13 => ?_) (fun c13 => ?_)
    · have hft := hf.1 c13
      refine q_iload_n 32 k_W_countPrimes_32 rfl ?_
      exact q_iret 33 k_W_countPrimes_33 rfl hft
    · have hff := hf.2 c13
      refine q_iload_n 16 k_W_countPrimes_16 rfl ?_
      refine q_sI 17 [vI x2] [] k_W_countPrimes_17 rfl lk_2_156 rfl rfl rfl rfl rfl rfl (CallI.mono (fun y2 M1 h3 => ?_) hff)
      refine q_if_eq 20 26 k_W_countPrimes_20 rfl rfl (fun c20 => ?_) (fun c20 => ?_)
      · have h3t := h3.1 c20
        refine q_iinc 26 k_W_countPrimes_26 (ls' := [some (vI x0), some (vI x1), some (vI (x2 + 1))]) rfl rfl rfl ?_
        refine q_goto 29 4 k_W_countPrimes_29 rfl rfl ?_
        exact h3t
      · have h3f := h3.2 c20
        refine q_iinc 23 k_W_countPrimes_23 (ls' := [some (vI x0), some (vI (x1 + 1)), some (vI x2)]) rfl rfl rfl ?_
        refine q_iinc 26 k_W_countPrimes_26 (ls' := [some (vI x0), some (vI (x1 + 1)), some (vI (x2 + 1))]) rfl rfl rfl ?_
        refine q_goto 29 4 k_W_countPrimes_29 rfl rfl ?_
        exact h3f
theorem k_W_countOfGrid_0 : decode (mtC m_W_countOfGrid) 0 = .ok (.iconst 0, 1) := by decide +kernel
theorem k_W_countOfGrid_1 : decode (mtC m_W_countOfGrid) 1 = .ok (.istore_n 2, 1) := by decide +kernel
theorem k_W_countOfGrid_2 : decode (mtC m_W_countOfGrid) 2 = .ok (.iconst 0, 1) := by decide +kernel
theorem k_W_countOfGrid_3 : decode (mtC m_W_countOfGrid) 3 = .ok (.istore_n 3, 1) := by decide +kernel
theorem k_W_countOfGrid_4 : decode (mtC m_W_countOfGrid) 4 = .ok (.iload_n 3, 1) := by decide +kernel
theorem k_W_countOfGrid_5 : decode (mtC m_W_countOfGrid) 5 = .ok (.aload_n 0, 1) := by decide +kernel
theorem k_W_countOfGrid_6 : decode (mtC m_W_countOfGrid) 6 = .ok (.getfield 11, 3) := by decide +kernel
theorem k_W_countOfGrid_9 : decode (mtC m_W_countOfGrid) 9 = .ok (.iconst 0, 1) := by decide +kernel
theorem k_W_countOfGrid_10 : decode (mtC m_W_countOfGrid) 10 = .ok (.aaload, 1) := by decide +kernel
theorem k_W_countOfGrid_11 : decode (mtC m_W_countOfGrid) 11 = .ok (.getfield 136, 3) := by decide +kernel
theorem k_W_countOfGrid_14 : decode (mtC m_W_countOfGrid) 14 = .ok (.if_icmp .ge 71, 3) := by decide +kernel
theorem k_W_countOfGrid_17 : decode (mtC m_W_countOfGrid) 17 = .ok (.iconst 0, 1) := by decide +kernel
theorem k_W_countOfGrid_18 : decode (mtC m_W_countOfGrid) 18 = .ok (.istore 4, 2) := by decide +kernel
theorem k_W_countOfGrid_20 : decode (mtC m_W_countOfGrid) 20 = .ok (.iload 4, 2) := by decide +kernel
theorem k_W_countOfGrid_22 : decode (mtC m_W_countOfGrid) 22 = .ok (.aload_n 0, 1) := by decide +kernel
theorem k_W_countOfGrid_23 : decode (mtC m_W_countOfGrid) 23 = .ok (.getfield 11, 3) := by decide +kernel
theorem k_W_countOfGrid_26 : decode (mtC m_W_countOfGrid) 26 = .ok (.iconst 1, 1) := by decide +kernel
theorem k_W_countOfGrid_27 : decode (mtC m_W_countOfGrid) 27 = .ok (.aaload, 1) := by decide +kernel
theorem k_W_countOfGrid_28 : decode (mtC m_W_countOfGrid) 28 = .ok (.getfield 136, 3) := by decide +kernel
theorem k_W_countOfGrid_31 : decode (mtC m_W_countOfGrid) 31 = .ok (.if_icmp .ge 48, 3) := by decide +kernel
theorem k_W_countOfGrid_34 : decode (mtC m_W_countOfGrid) 34 = .ok (.iconst 0, 1) := by decide +kernel
theorem k_W_countOfGrid_35 : decode (mtC m_W_countOfGrid) 35 = .ok (.istore 5, 2) := by decide +kernel
theorem k_W_countOfGrid_37 : decode (mtC m_W_countOfGrid) 37 = .ok (.iload 5, 2) := by decide +kernel
theorem k_W_countOfGrid_39 : decode (mtC m_W_countOfGrid) 39 = .ok (.aload_n 0, 1) := by decide +kernel
theorem k_W_countOfGrid_40 : decode (mtC m_W_countOfGrid) 40 = .ok (.getfield 11, 3) := by decide +kernel
theorem k_W_countOfGrid_43 : decode (mtC m_W_countOfGrid) 43 = .ok (.iconst 2, 1) := by decide +kernel
theorem k_W_countOfGrid_44 : decode (mtC m_W_countOfGrid) 44 = .ok (.aaload, 1) := by decide +kernel
theorem k_W_countOfGrid_45 : decode (mtC m_W_countOfGrid) 45 = .ok (.getfield 136, 3) := by decide +kernel
theorem k_W_countOfGrid_48 : decode (mtC m_W_countOfGrid) 48 = .ok (.if_icmp .ge 25, 3) := by decide +kernel
theorem k_W_countOfGrid_51 : decode (mtC m_W_countOfGrid) 51 = .ok (.aload_n 0, 1) := by decide +kernel
theorem k_W_countOfGrid_52 : decode (mtC m_W_countOfGrid) 52 = .ok (.iload_n 3, 1) := by decide +kernel
theorem k_W_countOfGrid_53 : decode (mtC m_W_countOfGrid) 53 = .ok (.iload 4, 2) := by decide +kernel
theorem k_W_countOfGrid_55 : decode (mtC m_W_countOfGrid) 55 = .ok (.iload 5, 2) := by decide +kernel
theorem k_W_countOfGrid_57 : decode (mtC m_W_countOfGrid) 57 = .ok (.invokevirtual 139, 3) := by decide +kernel
theorem k_W_countOfGrid_60 : decode (mtC m_W_countOfGrid) 60 = .ok (.iload_n 1, 1) := by decide +kernel
theorem k_W_countOfGrid_61 : decode (mtC m_W_countOfGrid) 61 = .ok (.if_icmp .gt 6, 3) := by decide +kernel
theorem k_W_countOfGrid_64 : decode (mtC m_W_countOfGrid) 64 = .ok (.iinc 2 1, 3) := by decide +kernel
theorem k_W_countOfGrid_67 : decode (mtC m_W_countOfGrid) 67 = .ok (.iinc 5 1, 3) := by decide +kernel
theorem k_W_countOfGrid_70 : decode (mtC m_W_countOfGrid) 70 = .ok (.goto (-33), 3) := by decide +kernel
theorem k_W_countOfGrid_73 : decode (mtC m_W_countOfGrid) 73 = .ok (.iinc 4 1, 3) := by decide +kernel
theorem k_W_countOfGrid_76 : decode (mtC m_W_countOfGrid) 76 = .ok (.goto (-56), 3) := by decide +kernel
theorem k_W_countOfGrid_79 : decode (mtC m_W_countOfGrid) 79 = .ok (.iinc 3 1, 3) := by decide +kernel
theorem k_W_countOfGrid_82 : decode (mtC m_W_countOfGrid) 82 = .ok (.goto (-78), 3) := by decide +kernel
theorem k_W_countOfGrid_85 : decode (mtC m_W_countOfGrid) 85 = .ok (.iload_n 2, 1) := by decide +kernel
theorem k_W_countOfGrid_86 : decode (mtC m_W_countOfGrid) 86 = .ok (.ireturn, 1) := by decide +kernel
set_option maxHeartbeats 4000000 in
set_option maxRecDepth 100000 in
theorem T_W_countOfGrid_0 {d : Nat} {i0 : Nat} {x1 : Int} {M : AMem} {Q : Option AV → AMem → Prop} (o0 : okH 2 i0 = true) (h : RunQ (d + 1) m_W_countOfGrid 4 [some (vR 2 i0), some (vI x1), some (vI 0), some (vI 0), none, none] [] M Q) : RunQ (d + 1) m_W_countOfGrid 0 [some (vR 2 i0), some (vI x1), none, none, none, none] [] M Q := by
  refine q_iconst 0 k_W_countOfGrid_0 ?_
  refine q_istore_n 1 k_W_countOfGrid_1 (ls' := [some (vR 2 i0), some (vI x1), some (vI 0), none, none, none]) rfl rfl ?_
  refine q_iconst 2 k_W_countOfGrid_2 ?_
  refine q_istore_n 3 k_W_countOfGrid_3 (ls' := [some (vR 2 i0), some (vI x1), some (vI 0), some (vI 0), none, none]) rfl rfl ?_
  exact h
set_option maxHeartbeats 4000000 in
set_option maxRecDepth 100000 in
theorem T_W_countOfGrid_4 {d : Nat} {i0 : Nat} {x1 : Int} {x2 : Int} {x3 : Int} {u4 : Option AV} {u5 : Option AV} {M : AMem} {Q : Option AV → AMem → Prop} (o0 : okH 2 i0 = true) (h : ((wI (M 1 (6 * i0 + 0) 1) ≤ wI x3) → Q (some (vI x2)) M) ∧ (¬ (wI (M 1 (6 * i0 + 0) 1) ≤ wI x3) → RunQ (d + 1) m_W_countOfGrid 20 [some (vR 2 i0), some (vI x1), some (vI x2), some (vI x3), some (vI 0), u5] [] M Q)) : RunQ (d + 1) m_W_countOfGrid 4 [some (vR 2 i0), some (vI x1), some (vI x2), some (vI x3), u4, u5] [] M Q := by
  refine q_iload_n 4 k_W_countOfGrid_4 rfl ?_
  refine q_aload_n 5 k_W_countOfGrid_5 rfl ?_
  refine q_getfield 6 k_W_countOfGrid_6 fk_2_11 o0 (v := vR 6 i0) rfl ?_
  refine q_iconst 9 k_W_countOfGrid_9 ?_
  refine q_aaload 10 k_W_countOfGrid_10 o0 (n := 6) rfl ⟨by decide, by decide⟩ (kd := 1) (x := (6 * i0 + 0)) rfl ?_
  refine q_getfield 11 k_W_countOfGrid_11 fk_2_136 (ok_r6 (j := 0) o0 ⟨by decide, by decide⟩) (v := vI (M 1 (6 * i0 + 0) 1)) rfl ?_
  refine q_icmp_ge 14 85 k_W_countOfGrid_14 rfl rfl (fun c14 => ?_) (fun c14 => ?_)
  · have ht := h.1 c14
    refine q_iload_n 85 k_W_countOfGrid_85 rfl ?_
    exact q_iret 86 k_W_countOfGrid_86 rfl ht
  · have hf := h.2 c14
    refine q_iconst 17 k_W_countOfGrid_17 ?_
    refine q_istore 18 k_W_countOfGrid_18 (ls' := [some (vR 2 i0), some (vI x1), some (vI x2), some (vI x3), some (vI 0), u5]) rfl rfl ?_
    exact hf
set_option maxHeartbeats 4000000 in
set_option maxRecDepth 100000 in
theorem T_W_countOfGrid_20 {d : Nat} {i0 : Nat} {x1 : Int} {x2 : Int} {x3 : Int} {x4 : Int} {u5 : Option AV} {M : AMem} {Q : Option AV → AMem → Prop} (o0 : okH 2 i0 = true) (h : ((wI (M 1 (6 * i0 + 1) 1) ≤ wI x4) → RunQ (d + 1) m_W_countOfGrid 4 [some (vR 2 i0), some (vI x1), some (vI x2), some (vI (x3 + 1)), some (vI x4), u5] [] M Q) ∧ (¬ (wI (M 1 (6 * i0 + 1) 1) ≤ wI x4) → RunQ (d + 1) m_W_countOfGrid 37 [some (vR 2 i0), some (vI x1), some (vI x2), some (vI x3), some (vI x4), some (vI 0)] [] M Q)) : RunQ (d + 1) m_W_countOfGrid 20 [some (vR 2 i0), some (vI x1), some (vI x2), some (vI x3), some (vI x4), u5] [] M Q := by
  refine q_iload 20 k_W_countOfGrid_20 rfl ?_
  refine q_aload_n 22 k_W_countOfGrid_22 rfl ?_
  refine q_getfield 23 k_W_countOfGrid_23 fk_2_11 o0 (v := vR 6 i0) rfl ?_
  refine q_iconst 26 k_W_countOfGrid_26 ?_
  refine q_aaload 27 k_W_countOfGrid_27 o0 (n := 6) rfl ⟨by decide, by decide⟩ (kd := 1) (x := (6 * i0 + 1)) rfl ?_
  refine q_getfield 28 k_W_countOfGrid_28 fk_2_136 (ok_r6 (j := 1) o0 ⟨by decide, by decide⟩) (v := vI (M 1 (6 * i0 + 1) 1)) rfl ?_
  refine q_icmp_ge 31 79 k_W_countOfGrid_31 rfl rfl (fun c31 => ?_) (fun c31 => ?_)
  · have ht := h.1 c31
    refine q_iinc 79 k_W_countOfGrid_79 (ls' := [some (vR 2 i0), some (vI x1), some (vI x2), some (vI (x3 + 1)), some (vI x4), u5]) rfl rfl rfl ?_
    refine q_goto 82 4 k_W_countOfGrid_82 rfl rfl ?_
    exact ht
  · have hf := h.2 c31
    refine q_iconst 34 k_W_countOfGrid_34 ?_
    refine q_istore 35 k_W_countOfGrid_35 (ls' := [some (vR 2 i0), some (vI x1), some (vI x2), some (vI x3), some (vI x4), some (vI 0)]) rfl rfl ?_
    exact hf
set_option maxHeartbeats 4000000 in
set_option maxRecDepth 100000 in
theorem T_W_countOfGrid_37 {d : Nat} {i0 : Nat} {x1 : Int} {x2 : Int} {x3 : Int} {x4 : Int} {x5 : Int} {M : AMem} {Q : Option AV → AMem → Prop} (o0 : okH 2 i0 = true) (h : ((wI (M 1 (6 * i0 + 2) 1) ≤ wI x5) → RunQ (d + 1) m_W_countOfGrid 20 [some (vR 2 i0), some (vI x1), some (vI x2), some (vI x3), some (vI (x4 + 1)), some (vI x5)] [] M Q) ∧ (¬ (wI (M 1 (6 * i0 + 2) 1) ≤ wI x5) → CallI d m_W_gridNumber [vR 2 i0, vI x3, vI x4, vI x5] M (fun y2 M1 => ((wI x1 < wI y2) → RunQ (d + 1) m_W_countOfGrid 37 [some (vR 2 i0), some (vI x1), some (vI x2), some (vI x3), some (vI x4), some (vI (x5 + 1))] [] M1 Q) ∧ (¬ (wI x1 < wI y2) → RunQ (d + 1) m_W_countOfGrid 37 [some (vR 2 i0), some (vI x1), some (vI (x2 + 1)), some (vI x3), some (vI x4), some (vI (x5 + 1))] [] M1 Q)))) : RunQ (d + 1) m_W_countOfGrid 37 [some (vR 2 i0), some (vI x1), some (vI x2), some (vI x3), some (vI x4), some (vI x5)] [] M Q := by
  refine q_iload 37 k_W_countOfGrid_37 rfl ?_
  refine q_aload_n 39 k_W_countOfGrid_39 rfl ?_
  refine q_getfield 40 k_W_countOfGrid_40 fk_2_11 o0 (v := vR 6 i0) rfl ?_
  refine q_iconst 43 k_W_countOfGrid_43 ?_
  refine q_aaload 44 k_W_countOfGrid_44 o0 (n := 6) rfl ⟨by decide, by decide⟩ (kd := 1) (x := (6 * i0 + 2)) rfl ?_
  refine q_getfield 45 k_W_countOfGrid_45 fk_2_136 (ok_r6 (j := 2) o0 ⟨by decide, by decide⟩) (v := vI (M 1 (6 * i0 + 2) 1)) rfl ?_
  refine q_icmp_ge 48 73 k_W_countOfGrid_48 rfl rfl (fun c48 => ?_) (fun c48 => ?_)
  · have ht := h.1 c48
    refine q_iinc 73 k_W_countOfGrid_73 (ls' := [some (vR 2 i0), some (vI x1), some (vI x2), some (vI x3), some (vI (x4 + 1)), some (vI x5)]) rfl rfl rfl ?_
    refine q_goto 76 20 k_W_countOfGrid_76 rfl rfl ?_
    exact ht
  · have hf := h.2 c48
    refine q_aload_n 51 k_W_countOfGrid_51 rfl ?_
    refine q_iload_n 52 k_W_countOfGrid_52 rfl ?_
    refine q_iload 53 k_W_countOfGrid_53 rfl ?_
    refine q_iload 55 k_W_countOfGrid_55 rfl ?_
    refine q_vI 57 [vI x3, vI x4, vI x5] [] k_W_countOfGrid_57 lk_2_139 rfl rfl rfl o0 rfl rfl rfl rfl (CallI.mono (fun y2 M1 h3 => ?_) hf)
    refine q_iload_n 60 k_W_countOfGrid_60 rfl ?_
    refine q_icmp_gt 61 67 k_W_countOfGrid_61 rfl rfl (fun c61 => ?_) (fun c61 => ?_)
    · have h3t := h3.1 c61
      refine q_iinc 67 k_W_countOfGrid_67 (ls' := [some (vR 2 i0), some (vI x1), some (vI x2), some (vI x3), some (vI x4), some (vI (x5 + 1))]) rfl rfl rfl ?_
      refine q_goto 70 37 k_W_countOfGrid_70 rfl rfl ?_
      exact h3t
    · have h3f := h3.2 c61
      refine q_iinc 64 k_W_countOfGrid_64 (ls' := [some (vR 2 i0), some (vI x1), some (vI (x2 + 1)), some (vI x3), some (vI x4), some (vI x5)]) rfl rfl rfl ?_
      refine q_iinc 67 k_W_countOfGrid_67 (ls' := [some (vR 2 i0), some (vI x1), some (vI (x2 + 1)), some (vI x3), some (vI x4), some (vI (x5 + 1))]) rfl rfl rfl ?_
      refine q_goto 70 37 k_W_countOfGrid_70 rfl rfl ?_
      exact h3f
theorem k_W_isGrid_0 : decode (mtC m_W_isGrid) 0 = .ok (.aload_n 0, 1) := by decide +kernel
theorem k_W_isGrid_1 : decode (mtC m_W_isGrid) 1 = .ok (.getfield 24, 3) := by decide +kernel
theorem k_W_isGrid_4 : decode (mtC m_W_isGrid) 4 = .ok (.iconst 1, 1) := by decide +kernel
theorem k_W_isGrid_5 : decode (mtC m_W_isGrid) 5 = .ok (.if_icmp .eq 19, 3) := by decide +kernel
theorem k_W_isGrid_8 : decode (mtC m_W_isGrid) 8 = .ok (.aload_n 0, 1) := by decide +kernel
theorem k_W_isGrid_9 : decode (mtC m_W_isGrid) 9 = .ok (.getfield 24, 3) := by decide +kernel
theorem k_W_isGrid_12 : decode (mtC m_W_isGrid) 12 = .ok (.iconst 2, 1) := by decide +kernel
theorem k_W_isGrid_13 : decode (mtC m_W_isGrid) 13 = .ok (.if_icmp .eq 11, 3) := by decide +kernel
theorem k_W_isGrid_16 : decode (mtC m_W_isGrid) 16 = .ok (.aload_n 0, 1) := by decide +kernel
theorem k_W_isGrid_17 : decode (mtC m_W_isGrid) 17 = .ok (.getfield 24, 3) := by decide +kernel
theorem k_W_isGrid_20 : decode (mtC m_W_isGrid) 20 = .ok (.iconst 4, 1) := by decide +kernel
theorem k_W_isGrid_21 : decode (mtC m_W_isGrid) 21 = .ok (.if_icmp .ne 7, 3) := by decide +kernel
theorem k_W_isGrid_24 : decode (mtC m_W_isGrid) 24 = .ok (.iconst 1, 1) := by decide +kernel
theorem k_W_isGrid_25 : decode (mtC m_W_isGrid) 25 = .ok (.goto 4, 3) := by decide +kernel
theorem k_W_isGrid_28 : decode (mtC m_W_isGrid) 28 = .ok (.iconst 0, 1) := by decide +kernel
theorem k_W_isGrid_29 : decode (mtC m_W_isGrid) 29 = .ok (.ireturn, 1) := by decide +kernel
set_option maxHeartbeats 4000000 in
set_option maxRecDepth 100000 in
theorem T_W_isGrid_0 {d : Nat} {i0 : Nat} {M : AMem} {Q : Option AV → AMem → Prop} (o0 : okH 2 i0 = true) (h : ((wI (M 2 i0 2) = 1) → Q (some (vI 1)) M) ∧ (¬ (wI (M 2 i0 2) = 1) → ((wI (M 2 i0 2) = 2) → Q (some (vI 1)) M) ∧ (¬ (wI (M 2 i0 2) = 2) → ((¬ wI (M 2 i0 2) = 4) → Q (some (vI 0)) M) ∧ (¬ (¬ wI (M 2 i0 2) = 4) → Q (some (vI 1)) M)))) : RunQ d m_W_isGrid 0 [some (vR 2 i0)] [] M Q := by
  refine q_aload_n 0 k_W_isGrid_0 rfl ?_
  refine q_getfield 1 k_W_isGrid_1 fk_2_24 o0 (v := vI (M 2 i0 2)) rfl ?_
  refine q_iconst 4 k_W_isGrid_4 ?_
  refine q_icmp_eq 5 24 k_W_isGrid_5 rfl rfl (fun c5 => ?_) (fun c5 => ?_)
  · have ht := h.1 c5
    refine q_iconst 24 k_W_isGrid_24 ?_
    refine q_goto 25 29 k_W_isGrid_25 rfl rfl ?_
    exact q_zret 29 k_W_isGrid_29 rfl (Or.inr rfl) ht
  · have hf := h.2 c5
    refine q_aload_n 8 k_W_isGrid_8 rfl ?_
    refine q_getfield 9 k_W_isGrid_9 fk_2_24 o0 (v := vI (M 2 i0 2)) rfl ?_
    refine q_iconst 12 k_W_isGrid_12 ?_
    refine q_icmp_eq 13 24 k_W_isGrid_13 rfl rfl (fun c13 => ?_) (fun c13 => ?_)
    · have hft := hf.1 c13
      refine q_iconst 24 k_W_isGrid_24 ?_
      refine q_goto 25 29 k_W_isGrid_25 rfl rfl ?_
      exact q_zret 29 k_W_isGrid_29 rfl (Or.inr rfl) hft
    · have hff := hf.2 c13
      refine q_aload_n 16 k_W_isGrid_16 rfl ?_
      refine q_getfield 17 k_W_isGrid_17 fk_2_24 o0 (v := vI (M 2 i0 2)) rfl ?_
      refine q_iconst 20 k_W_isGrid_20 ?_
      refine q_icmp_ne 21 28 k_W_isGrid_21 rfl rfl (fun c21 => ?_) (fun c21 => ?_)
      · have hfft := hff.1 c21
        refine q_iconst 28 k_W_isGrid_28 ?_
        exact q_zret 29 k_W_isGrid_29 rfl (Or.inl rfl) hfft
      · have hfff := hff.2 c21
        refine q_iconst 24 k_W_isGrid_24 ?_
        refine q_goto 25 29 k_W_isGrid_25 rfl rfl ?_
        exact q_zret 29 k_W_isGrid_29 rfl (Or.inr rfl) hfff
theorem k_W_isMember_0 : decode (mtC m_W_isMember) 0 = .ok (.iload_n 0, 1) := by decide +kernel
theorem k_W_isMember_1 : decode (mtC m_W_isMember) 1 = .ok (.iload_n 1, 1) := by decide +kernel
theorem k_W_isMember_2 : decode (mtC m_W_isMember) 2 = .ok (.ishr, 1) := by decide +kernel
theorem k_W_isMember_3 : decode (mtC m_W_isMember) 3 = .ok (.iconst 1, 1) := by decide +kernel
theorem k_W_isMember_4 : decode (mtC m_W_isMember) 4 = .ok (.iand, 1) := by decide +kernel
theorem k_W_isMember_5 : decode (mtC m_W_isMember) 5 = .ok (.iconst 1, 1) := by decide +kernel
theorem k_W_isMember_6 : decode (mtC m_W_isMember) 6 = .ok (.if_icmp .ne 7, 3) := by decide +kernel
theorem k_W_isMember_9 : decode (mtC m_W_isMember) 9 = .ok (.iconst 1, 1) := by decide +kernel
theorem k_W_isMember_10 : decode (mtC m_W_isMember) 10 = .ok (.goto 4, 3) := by decide +kernel
theorem k_W_isMember_13 : decode (mtC m_W_isMember) 13 = .ok (.iconst 0, 1) := by decide +kernel
theorem k_W_isMember_14 : decode (mtC m_W_isMember) 14 = .ok (.ireturn, 1) := by decide +kernel
set_option maxHeartbeats 4000000 in
set_option maxRecDepth 100000 in
theorem T_W_isMember_0 {d : Nat} {x0 : Int} {x1 : Int} {M : AMem} {Q : Option AV → AMem → Prop}  (h : ((¬ wI (opAnd (opShr x0 x1) 1) = 1) → Q (some (vI 0)) M) ∧ (¬ (¬ wI (opAnd (opShr x0 x1) 1) = 1) → Q (some (vI 1)) M)) : RunQ d m_W_isMember 0 [some (vI x0), some (vI x1)] [] M Q := by
  refine q_iload_n 0 k_W_isMember_0 rfl ?_
  refine q_iload_n 1 k_W_isMember_1 rfl ?_
  refine q_ishr 2 k_W_isMember_2 ?_
  refine q_iconst 3 k_W_isMember_3 ?_
  refine q_iand 4 k_W_isMember_4 ?_
  refine q_iconst 5 k_W_isMember_5 ?_
  refine q_icmp_ne 6 13 k_W_isMember_6 rfl rfl (fun c6 => ?_) (fun c6 => ?_)
  · have ht := h.1 c6
    refine q_iconst 13 k_W_isMember_13 ?_
    exact q_zret 14 k_W_isMember_14 rfl (Or.inl rfl) ht
  · have hf := h.2 c6
    refine q_iconst 9 k_W_isMember_9 ?_
    refine q_goto 10 14 k_W_isMember_10 rfl rfl ?_
    exact q_zret 14 k_W_isMember_14 rfl (Or.inr rfl) hf
theorem k_W_rankOf_0 : decode (mtC m_W_rankOf) 0 = .ok (.aload_n 0, 1) := by decide +kernel
theorem k_W_rankOf_1 : decode (mtC m_W_rankOf) 1 = .ok (.getfield 44, 3) := by decide +kernel
theorem k_W_rankOf_4 : decode (mtC m_W_rankOf) 4 = .ok (.ifCond .eq 9, 3) := by decide +kernel
theorem k_W_rankOf_7 : decode (mtC m_W_rankOf) 7 = .ok (.iconst 5, 1) := by decide +kernel
theorem k_W_rankOf_8 : decode (mtC m_W_rankOf) 8 = .ok (.iload_n 1, 1) := by decide +kernel
theorem k_W_rankOf_9 : decode (mtC m_W_rankOf) 9 = .ok (.isub, 1) := by decide +kernel
theorem k_W_rankOf_10 : decode (mtC m_W_rankOf) 10 = .ok (.goto 4, 3) := by decide +kernel
theorem k_W_rankOf_13 : decode (mtC m_W_rankOf) 13 = .ok (.iload_n 1, 1) := by decide +kernel
theorem k_W_rankOf_14 : decode (mtC m_W_rankOf) 14 = .ok (.ireturn, 1) := by decide +kernel
set_option maxHeartbeats 4000000 in
set_option maxRecDepth 100000 in
theorem T_W_rankOf_0 {d : Nat} {i0 : Nat} {x1 : Int} {M : AMem} {Q : Option AV → AMem → Prop} (o0 : okH 2 i0 = true) (h : ((wI (M 2 i0 4) = 0) → Q (some (vI x1)) M) ∧ (¬ (wI (M 2 i0 4) = 0) → Q (some (vI (5 - x1))) M)) : RunQ d m_W_rankOf 0 [some (vR 2 i0), some (vI x1)] [] M Q := by
  refine q_aload_n 0 k_W_rankOf_0 rfl ?_
  refine q_getfield 1 k_W_rankOf_1 fk_2_44 o0 (v := vI (M 2 i0 4)) rfl ?_
  refine q_if_eq 4 13 k_W_rankOf_4 rfl rfl (fun c4 => ?_) (fun c4 => ?_)
  · have ht := h.1 c4
    refine q_iload_n 13 k_W_rankOf_13 rfl ?_
    exact q_iret 14 k_W_rankOf_14 rfl ht
  · have hf := h.2 c4
    refine q_iconst 7 k_W_rankOf_7 ?_
    refine q_iload_n 8 k_W_rankOf_8 rfl ?_
    refine q_isub 9 k_W_rankOf_9 ?_
    refine q_goto 10 14 k_W_rankOf_10 rfl rfl ?_
    exact q_iret 14 k_W_rankOf_14 rfl hf
theorem k_W_gridNumber_0 : decode (mtC m_W_gridNumber) 0 = .ok (.aload_n 0, 1) := by decide +kernel
theorem k_W_gridNumber_1 : decode (mtC m_W_gridNumber) 1 = .ok (.getfield 11, 3) := by decide +kernel
theorem k_W_gridNumber_4 : decode (mtC m_W_gridNumber) 4 = .ok (.iconst 0, 1) := by decide +kernel
theorem k_W_gridNumber_5 : decode (mtC m_W_gridNumber) 5 = .ok (.aaload, 1) := by decide +kernel
theorem k_W_gridNumber_6 : decode (mtC m_W_gridNumber) 6 = .ok (.iload_n 1, 1) := by decide +kernel
theorem k_W_gridNumber_7 : decode (mtC m_W_gridNumber) 7 = .ok (.invokevirtual 143, 3) := by decide +kernel
theorem k_W_gridNumber_10 : decode (mtC m_W_gridNumber) 10 = .ok (.istore 4, 2) := by decide +kernel
theorem k_W_gridNumber_12 : decode (mtC m_W_gridNumber) 12 = .ok (.aload_n 0, 1) := by decide +kernel
theorem k_W_gridNumber_13 : decode (mtC m_W_gridNumber) 13 = .ok (.getfield 11, 3) := by decide +kernel
theorem k_W_gridNumber_16 : decode (mtC m_W_gridNumber) 16 = .ok (.iconst 1, 1) := by decide +kernel
theorem k_W_gridNumber_17 : decode (mtC m_W_gridNumber) 17 = .ok (.aaload, 1) := by decide +kernel
theorem k_W_gridNumber_18 : decode (mtC m_W_gridNumber) 18 = .ok (.iload_n 2, 1) := by decide +kernel
theorem k_W_gridNumber_19 : decode (mtC m_W_gridNumber) 19 = .ok (.invokevirtual 143, 3) := by decide +kernel
theorem k_W_gridNumber_22 : decode (mtC m_W_gridNumber) 22 = .ok (.istore 5, 2) := by decide +kernel
theorem k_W_gridNumber_24 : decode (mtC m_W_gridNumber) 24 = .ok (.aload_n 0, 1) := by decide +kernel
theorem k_W_gridNumber_25 : decode (mtC m_W_gridNumber) 25 = .ok (.getfield 24, 3) := by decide +kernel
theorem k_W_gridNumber_28 : decode (mtC m_W_gridNumber) 28 = .ok (.iconst 4, 1) := by decide +kernel
theorem k_W_gridNumber_29 : decode (mtC m_W_gridNumber) 29 = .ok (.if_icmp .ne 11, 3) := by decide +kernel
theorem k_W_gridNumber_32 : decode (mtC m_W_gridNumber) 32 = .ok (.iload 4, 2) := by decide +kernel
theorem k_W_gridNumber_34 : decode (mtC m_W_gridNumber) 34 = .ok (.iload 5, 2) := by decide +kernel
theorem k_W_gridNumber_36 : decode (mtC m_W_gridNumber) 36 = .ok (.imul, 1) := by decide +kernel
theorem k_W_gridNumber_37 : decode (mtC m_W_gridNumber) 37 = .ok (.goto 19, 3) := by decide +kernel
theorem k_W_gridNumber_40 : decode (mtC m_W_gridNumber) 40 = .ok (.iload 4, 2) := by decide +kernel
theorem k_W_gridNumber_42 : decode (mtC m_W_gridNumber) 42 = .ok (.iload 5, 2) := by decide +kernel
theorem k_W_gridNumber_44 : decode (mtC m_W_gridNumber) 44 = .ok (.iadd, 1) := by decide +kernel
theorem k_W_gridNumber_45 : decode (mtC m_W_gridNumber) 45 = .ok (.aload_n 0, 1) := by decide +kernel
theorem k_W_gridNumber_46 : decode (mtC m_W_gridNumber) 46 = .ok (.getfield 11, 3) := by decide +kernel
theorem k_W_gridNumber_49 : decode (mtC m_W_gridNumber) 49 = .ok (.iconst 2, 1) := by decide +kernel
theorem k_W_gridNumber_50 : decode (mtC m_W_gridNumber) 50 = .ok (.aaload, 1) := by decide +kernel
theorem k_W_gridNumber_51 : decode (mtC m_W_gridNumber) 51 = .ok (.iload_n 3, 1) := by decide +kernel
theorem k_W_gridNumber_52 : decode (mtC m_W_gridNumber) 52 = .ok (.invokevirtual 143, 3) := by decide +kernel
theorem k_W_gridNumber_55 : decode (mtC m_W_gridNumber) 55 = .ok (.iadd, 1) := by decide +kernel
theorem k_W_gridNumber_56 : decode (mtC m_W_gridNumber) 56 = .ok (.ireturn, 1) := by decide +kernel
set_option maxHeartbeats 4000000 in
set_option maxRecDepth 100000 in
theorem T_W_gridNumber_0 {d : Nat} {i0 : Nat} {x1 : Int} {x2 : Int} {x3 : Int} {M : AMem} {Q : Option AV → AMem → Prop} (o0 : okH 2 i0 = true) (h : CallI d m_R_numberAt [vR 1 (6 * i0 + 0), vI x1] M (fun y2 M1 => CallI d m_R_numberAt [vR 1 (6 * i0 + 1), vI x2] M1 (fun y4 M3 => ((¬ wI (M3 2 i0 2) = 4) → CallI d m_R_numberAt [vR 1 (6 * i0 + 2), vI x3] M3 (fun y6 M5 => Q (some (vI ((y2 + y4) + y6))) M5)) ∧ (¬ (¬ wI (M3 2 i0 2) = 4) → Q (some (vI (y2 * y4))) M3)))) : RunQ (d + 1) m_W_gridNumber 0 [some (vR 2 i0), some (vI x1), some (vI x2), some (vI x3), none, none] [] M Q := by
  refine q_aload_n 0 k_W_gridNumber_0 rfl ?_
  refine q_getfield 1 k_W_gridNumber_1 fk_2_11 o0 (v := vR 6 i0) rfl ?_
  refine q_iconst 4 k_W_gridNumber_4 ?_
  refine q_aaload 5 k_W_gridNumber_5 o0 (n := 6) rfl ⟨by decide, by decide⟩ (kd := 1) (x := (6 * i0 + 0)) rfl ?_
  refine q_iload_n 6 k_W_gridNumber_6 rfl ?_
  refine q_vI 7 [vI x1] [] k_W_gridNumber_7 lk_2_143 rfl rfl rfl (ok_r6 (j := 0) o0 ⟨by decide, by decide⟩) rfl rfl rfl rfl (CallI.mono (fun y2 M1 h7 => ?_) h)
  refine q_istore 10 k_W_gridNumber_10 (ls' := [some (vR 2 i0), some (vI x1), some (vI x2), some (vI x3), some (vI y2), none]) rfl rfl ?_
  refine q_aload_n 12 k_W_gridNumber_12 rfl ?_
  refine q_getfield 13 k_W_gridNumber_13 fk_2_11 o0 (v := vR 6 i0) rfl ?_
  refine q_iconst 16 k_W_gridNumber_16 ?_
  refine q_aaload 17 k_W_gridNumber_17 o0 (n := 6) rfl ⟨by decide, by decide⟩ (kd := 1) (x := (6 * i0 + 1)) rfl ?_
  refine q_iload_n 18 k_W_gridNumber_18 rfl ?_
  refine q_vI 19 [vI x2] [] k_W_gridNumber_19 lk_2_143 rfl rfl rfl (ok_r6 (j := 1) o0 ⟨by decide, by decide⟩) rfl rfl rfl rfl (CallI.mono (fun y4 M3 h8 => ?_) h7)
  refine q_istore 22 k_W_gridNumber_22 (ls' := [some (vR 2 i0), some (vI x1), some (vI x2), some (vI x3), some (vI y2), some (vI y4)]) rfl rfl ?_
  refine q_aload_n 24 k_W_gridNumber_24 rfl ?_
  refine q_getfield 25 k_W_gridNumber_25 fk_2_24 o0 (v := vI (M3 2 i0 2)) rfl ?_
  refine q_iconst 28 k_W_gridNumber_28 ?_
  refine q_icmp_ne 29 40 k_W_gridNumber_29 rfl rfl (fun c29 => ?_) (fun c29 => ?_)
  · have h8t := h8.1 c29
    refine q_iload 40 k_W_gridNumber_40 rfl ?_
    refine q_iload 42 k_W_gridNumber_42 rfl ?_
    refine q_iadd 44 k_W_gridNumber_44 ?_
    refine q_aload_n 45 k_W_gridNumber_45 rfl ?_
    refine q_getfield 46 k_W_gridNumber_46 fk_2_11 o0 (v := vR 6 i0) rfl ?_
    refine q_iconst 49 k_W_gridNumber_49 ?_
    refine q_aaload 50 k_W_gridNumber_50 o0 (n := 6) rfl ⟨by decide, by decide⟩ (kd := 1) (x := (6 * i0 + 2)) rfl ?_
    refine q_iload_n 51 k_W_gridNumber_51 rfl ?_
    refine q_vI 52 [vI x3] [vI (y2 + y4)] k_W_gridNumber_52 lk_2_143 rfl rfl rfl (ok_r6 (j := 2) o0 ⟨by decide, by decide⟩) rfl rfl rfl rfl (CallI.mono (fun y6 M5 h9 => ?_) h8t)
    refine q_iadd 55 k_W_gridNumber_55 ?_
    exact q_iret 56 k_W_gridNumber_56 rfl h9
  · have h8f := h8.2 c29
    refine q_iload 32 k_W_gridNumber_32 rfl ?_
    refine q_iload 34 k_W_gridNumber_34 rfl ?_
    refine q_imul 36 k_W_gridNumber_36 ?_
    refine q_goto 37 56 k_W_gridNumber_37 rfl rfl ?_
    exact q_iret 56 k_W_gridNumber_56 rfl h8f
theorem k_W_isPrime_0 : decode (mtC m_W_isPrime) 0 = .ok (.iconst 2, 1) := by decide +kernel
theorem k_W_isPrime_1 : decode (mtC m_W_isPrime) 1 = .ok (.istore_n 1, 1) := by decide +kernel
theorem k_W_isPrime_2 : decode (mtC m_W_isPrime) 2 = .ok (.iload_n 1, 1) := by decide +kernel
theorem k_W_isPrime_3 : decode (mtC m_W_isPrime) 3 = .ok (.iload_n 1, 1) := by decide +kernel
theorem k_W_isPrime_4 : decode (mtC m_W_isPrime) 4 = .ok (.imul, 1) := by decide +kernel
theorem k_W_isPrime_5 : decode (mtC m_W_isPrime) 5 = .ok (.iload_n 0, 1) := by decide +kernel
theorem k_W_isPrime_6 : decode (mtC m_W_isPrime) 6 = .ok (.if_icmp .gt 17, 3) := by decide +kernel
theorem k_W_isPrime_9 : decode (mtC m_W_isPrime) 9 = .ok (.iload_n 0, 1) := by decide +kernel
theorem k_W_isPrime_10 : decode (mtC m_W_isPrime) 10 = .ok (.iload_n 1, 1) := by decide +kernel
theorem k_W_isPrime_11 : decode (mtC m_W_isPrime) 11 = .ok (.irem, 1) := by decide +kernel
theorem k_W_isPrime_12 : decode (mtC m_W_isPrime) 12 = .ok (.ifCond .ne 5, 3) := by decide +kernel
theorem k_W_isPrime_15 : decode (mtC m_W_isPrime) 15 = .ok (.iconst 0, 1) := by decide +kernel
theorem k_W_isPrime_16 : decode (mtC m_W_isPrime) 16 = .ok (.ireturn, 1) := by decide +kernel
theorem k_W_isPrime_17 : decode (mtC m_W_isPrime) 17 = .ok (.iinc 1 1, 3) := by decide +kernel
theorem k_W_isPrime_20 : decode (mtC m_W_isPrime) 20 = .ok (.goto (-18), 3) := by decide +kernel
theorem k_W_isPrime_23 : decode (mtC m_W_isPrime) 23 = .ok (.iload_n 0, 1) := by decide +kernel
theorem k_W_isPrime_24 : decode (mtC m_W_isPrime) 24 = .ok (.iconst 1, 1) := by decide +kernel
theorem k_W_isPrime_25 : decode (mtC m_W_isPrime) 25 = .ok (.if_icmp .le 7, 3) := by decide +kernel
theorem k_W_isPrime_28 : decode (mtC m_W_isPrime) 28 = .ok (.iconst 1, 1) := by decide +kernel
theorem k_W_isPrime_29 : decode (mtC m_W_isPrime) 29 = .ok (.goto 4, 3) := by decide +kernel
theorem k_W_isPrime_32 : decode (mtC m_W_isPrime) 32 = .ok (.iconst 0, 1) := by decide +kernel
theorem k_W_isPrime_33 : decode (mtC m_W_isPrime) 33 = .ok (.ireturn, 1) := by decide +kernel
set_option maxHeartbeats 4000000 in
set_option maxRecDepth 100000 in
theorem T_W_isPrime_0 {d : Nat} {x0 : Int} {M : AMem} {Q : Option AV → AMem → Prop}  (h : RunQ d m_W_isPrime 2 [some (vI x0), some (vI 2)] [] M Q) : RunQ d m_W_isPrime 0 [some (vI x0), none] [] M Q := by
  refine q_iconst 0 k_W_isPrime_0 ?_
  refine q_istore_n 1 k_W_isPrime_1 (ls' := [some (vI x0), some (vI 2)]) rfl rfl ?_
  exact h
set_option maxHeartbeats 4000000 in
set_option maxRecDepth 100000 in
theorem T_W_isPrime_2 {d : Nat} {x0 : Int} {x1 : Int} {M : AMem} {Q : Option AV → AMem → Prop}  (h : ((wI x0 < wI (x1 * x1)) → ((wI x0 ≤ 1) → Q (some (vI 0)) M) ∧ (¬ (wI x0 ≤ 1) → Q (some (vI 1)) M)) ∧ (¬ (wI x0 < wI (x1 * x1)) → (¬ wI x1 = 0) ∧ (((¬ wI (Int.tmod (wI x0) (wI x1)) = 0) → RunQ d m_W_isPrime 2 [some (vI x0), some (vI (x1 + 1))] [] M Q) ∧ (¬ (¬ wI (Int.tmod (wI x0) (wI x1)) = 0) → Q (some (vI 0)) M)))) : RunQ d m_W_isPrime 2 [some (vI x0), some (vI x1)] [] M Q := by
  refine q_iload_n 2 k_W_isPrime_2 rfl ?_
  refine q_iload_n 3 k_W_isPrime_3 rfl ?_
  refine q_imul 4 k_W_isPrime_4 ?_
  refine q_iload_n 5 k_W_isPrime_5 rfl ?_
  refine q_icmp_gt 6 23 k_W_isPrime_6 rfl rfl (fun c6 => ?_) (fun c6 => ?_)
  · have ht := h.1 c6
    refine q_iload_n 23 k_W_isPrime_23 rfl ?_
    refine q_iconst 24 k_W_isPrime_24 ?_
    refine q_icmp_le 25 32 k_W_isPrime_25 rfl rfl (fun c25 => ?_) (fun c25 => ?_)
    · have htt := ht.1 c25
      refine q_iconst 32 k_W_isPrime_32 ?_
      exact q_zret 33 k_W_isPrime_33 rfl (Or.inl rfl) htt
    · have htf := ht.2 c25
      refine q_iconst 28 k_W_isPrime_28 ?_
      refine q_goto 29 33 k_W_isPrime_29 rfl rfl ?_
      exact q_zret 33 k_W_isPrime_33 rfl (Or.inr rfl) htf
  · have hf := h.2 c6
    refine q_iload_n 9 k_W_isPrime_9 rfl ?_
    refine q_iload_n 10 k_W_isPrime_10 rfl ?_
    refine q_irem 11 k_W_isPrime_11 hf.1 ?_
    have hf' := hf.2
    refine q_if_ne 12 17 k_W_isPrime_12 rfl rfl (fun c12 => ?_) (fun c12 => ?_)
    · have hf't := hf'.1 c12
      refine q_iinc 17 k_W_isPrime_17 (ls' := [some (vI x0), some (vI (x1 + 1))]) rfl rfl rfl ?_
      refine q_goto 20 2 k_W_isPrime_20 rfl rfl ?_
      exact hf't
    · have hf'f := hf'.2 c12
      refine q_iconst 15 k_W_isPrime_15 ?_
      exact q_zret 16 k_W_isPrime_16 rfl (Or.inl rfl) hf'f
theorem k_J_bitCount_0 : decode (mtC m_J_bitCount) 0 = .ok (.iload_n 0, 1) := by decide +kernel
theorem k_J_bitCount_1 : decode (mtC m_J_bitCount) 1 = .ok (.iload_n 0, 1) := by decide +kernel
theorem k_J_bitCount_2 : decode (mtC m_J_bitCount) 2 = .ok (.iconst 1, 1) := by decide +kernel
theorem k_J_bitCount_3 : decode (mtC m_J_bitCount) 3 = .ok (.iushr, 1) := by decide +kernel
theorem k_J_bitCount_4 : decode (mtC m_J_bitCount) 4 = .ok (.ldc_w 265, 3) := by decide +kernel
theorem k_J_bitCount_7 : decode (mtC m_J_bitCount) 7 = .ok (.iand, 1) := by decide +kernel
theorem k_J_bitCount_8 : decode (mtC m_J_bitCount) 8 = .ok (.isub, 1) := by decide +kernel
theorem k_J_bitCount_9 : decode (mtC m_J_bitCount) 9 = .ok (.istore_n 0, 1) := by decide +kernel
theorem k_J_bitCount_10 : decode (mtC m_J_bitCount) 10 = .ok (.iload_n 0, 1) := by decide +kernel
theorem k_J_bitCount_11 : decode (mtC m_J_bitCount) 11 = .ok (.ldc_w 266, 3) := by decide +kernel
theorem k_J_bitCount_14 : decode (mtC m_J_bitCount) 14 = .ok (.iand, 1) := by decide +kernel
theorem k_J_bitCount_15 : decode (mtC m_J_bitCount) 15 = .ok (.iload_n 0, 1) := by decide +kernel
theorem k_J_bitCount_16 : decode (mtC m_J_bitCount) 16 = .ok (.iconst 2, 1) := by decide +kernel
theorem k_J_bitCount_17 : decode (mtC m_J_bitCount) 17 = .ok (.iushr, 1) := by decide +kernel
theorem k_J_bitCount_18 : decode (mtC m_J_bitCount) 18 = .ok (.ldc_w 266, 3) := by decide +kernel
theorem k_J_bitCount_21 : decode (mtC m_J_bitCount) 21 = .ok (.iand, 1) := by decide +kernel
theorem k_J_bitCount_22 : decode (mtC m_J_bitCount) 22 = .ok (.iadd, 1) := by decide +kernel
theorem k_J_bitCount_23 : decode (mtC m_J_bitCount) 23 = .ok (.istore_n 0, 1) := by decide +kernel
theorem k_J_bitCount_24 : decode (mtC m_J_bitCount) 24 = .ok (.iload_n 0, 1) := by decide +kernel
theorem k_J_bitCount_25 : decode (mtC m_J_bitCount) 25 = .ok (.iload_n 0, 1) := by decide +kernel
theorem k_J_bitCount_26 : decode (mtC m_J_bitCount) 26 = .ok (.iconst 4, 1) := by decide +kernel
theorem k_J_bitCount_27 : decode (mtC m_J_bitCount) 27 = .ok (.iushr, 1) := by decide +kernel
theorem k_J_bitCount_28 : decode (mtC m_J_bitCount) 28 = .ok (.iadd, 1) := by decide +kernel
theorem k_J_bitCount_29 : decode (mtC m_J_bitCount) 29 = .ok (.ldc_w 267, 3) := by decide +kernel
theorem k_J_bitCount_32 : decode (mtC m_J_bitCount) 32 = .ok (.iand, 1) := by decide +kernel
theorem k_J_bitCount_33 : decode (mtC m_J_bitCount) 33 = .ok (.istore_n 0, 1) := by decide +kernel
theorem k_J_bitCount_34 : decode (mtC m_J_bitCount) 34 = .ok (.iload_n 0, 1) := by decide +kernel
theorem k_J_bitCount_35 : decode (mtC m_J_bitCount) 35 = .ok (.iload_n 0, 1) := by decide +kernel
theorem k_J_bitCount_36 : decode (mtC m_J_bitCount) 36 = .ok (.bipush 8, 2) := by decide +kernel
theorem k_J_bitCount_38 : decode (mtC m_J_bitCount) 38 = .ok (.iushr, 1) := by decide +kernel
theorem k_J_bitCount_39 : decode (mtC m_J_bitCount) 39 = .ok (.iadd, 1) := by decide +kernel
theorem k_J_bitCount_40 : decode (mtC m_J_bitCount) 40 = .ok (.istore_n 0, 1) := by decide +kernel
theorem k_J_bitCount_41 : decode (mtC m_J_bitCount) 41 = .ok (.iload_n 0, 1) := by decide +kernel
theorem k_J_bitCount_42 : decode (mtC m_J_bitCount) 42 = .ok (.iload_n 0, 1) := by decide +kernel
theorem k_J_bitCount_43 : decode (mtC m_J_bitCount) 43 = .ok (.bipush 16, 2) := by decide +kernel
theorem k_J_bitCount_45 : decode (mtC m_J_bitCount) 45 = .ok (.iushr, 1) := by decide +kernel
theorem k_J_bitCount_46 : decode (mtC m_J_bitCount) 46 = .ok (.iadd, 1) := by decide +kernel
theorem k_J_bitCount_47 : decode (mtC m_J_bitCount) 47 = .ok (.istore_n 0, 1) := by decide +kernel
theorem k_J_bitCount_48 : decode (mtC m_J_bitCount) 48 = .ok (.iload_n 0, 1) := by decide +kernel
theorem k_J_bitCount_49 : decode (mtC m_J_bitCount) 49 = .ok (.bipush 63, 2) := by decide +kernel
theorem k_J_bitCount_51 : decode (mtC m_J_bitCount) 51 = .ok (.iand, 1) := by decide +kernel
theorem k_J_bitCount_52 : decode (mtC m_J_bitCount) 52 = .ok (.ireturn, 1) := by decide +kernel
set_option maxHeartbeats 4000000 in
set_option maxRecDepth 100000 in
theorem T_J_bitCount_0 {d : Nat} {x0 : Int} {M : AMem} {Q : Option AV → AMem → Prop}  (h : Q (some (vI (opAnd (((opAnd (((opAnd (x0 - (opAnd (opUshr x0 1) 1431655765)) 858993459) + (opAnd (opUshr (x0 - (opAnd (opUshr x0 1) 1431655765)) 2) 858993459)) + (opUshr ((opAnd (x0 - (opAnd (opUshr x0 1) 1431655765)) 858993459) + (opAnd (opUshr (x0 - (opAnd (opUshr x0 1) 1431655765)) 2) 858993459)) 4)) 252645135) + (opUshr (opAnd (((opAnd (x0 - (opAnd (opUshr x0 1) 1431655765)) 858993459) + (opAnd (opUshr (x0 - (opAnd (opUshr x0 1) 1431655765)) 2) 858993459)) + (opUshr ((opAnd (x0 - (opAnd (opUshr x0 1) 1431655765)) 858993459) + (opAnd (opUshr (x0 - (opAnd (opUshr x0 1) 1431655765)) 2) 858993459)) 4)) 252645135) 8)) + (opUshr ((opAnd (((opAnd (x0 - (opAnd (opUshr x0 1) 1431655765)) 858993459) + (opAnd (opUshr (x0 - (opAnd (opUshr x0 1) 1431655765)) 2) 858993459)) + (opUshr ((opAnd (x0 - (opAnd (opUshr x0 1) 1431655765)) 858993459) + (opAnd (opUshr (x0 - (opAnd (opUshr x0 1) 1431655765)) 2) 858993459)) 4)) 252645135) + (opUshr (opAnd (((opAnd (x0 - (opAnd (opUshr x0 1) 1431655765)) 858993459) + (opAnd (opUshr (x0 - (opAnd (opUshr x0 1) 1431655765)) 2) 858993459)) + (opUshr ((opAnd (x0 - (opAnd (opUshr x0 1) 1431655765)) 858993459) + (opAnd (opUshr (x0 - (opAnd (opUshr x0 1) 1431655765)) 2) 858993459)) 4)) 252645135) 8)) 16)) 63))) M) : RunQ d m_J_bitCount 0 [some (vI x0)] [] M Q := by
  refine q_iload_n 0 k_J_bitCount_0 rfl ?_
  refine q_iload_n 1 k_J_bitCount_1 rfl ?_
  refine q_iconst 2 k_J_bitCount_2 ?_
  refine q_iushr 3 k_J_bitCount_3 ?_
  refine q_ldc_w 4 k_J_bitCount_4 ck_5_265 ?_
  refine q_iand 7 k_J_bitCount_7 ?_
  refine q_isub 8 k_J_bitCount_8 ?_
  refine q_istore_n 9 k_J_bitCount_9 (ls' := [some (vI (x0 - (opAnd (opUshr x0 1) 1431655765)))]) rfl rfl ?_
  refine q_iload_n 10 k_J_bitCount_10 rfl ?_
  refine q_ldc_w 11 k_J_bitCount_11 ck_5_266 ?_
  refine q_iand 14 k_J_bitCount_14 ?_
  refine q_iload_n 15 k_J_bitCount_15 rfl ?_
  refine q_iconst 16 k_J_bitCount_16 ?_
  refine q_iushr 17 k_J_bitCount_17 ?_
  refine q_ldc_w 18 k_J_bitCount_18 ck_5_266 ?_
  refine q_iand 21 k_J_bitCount_21 ?_
  refine q_iadd 22 k_J_bitCount_22 ?_
  refine q_istore_n 23 k_J_bitCount_23 (ls' := [some (vI ((opAnd (x0 - (opAnd (opUshr x0 1) 1431655765)) 858993459) + (opAnd (opUshr (x0 - (opAnd (opUshr x0 1) 1431655765)) 2) 858993459)))]) rfl rfl ?_
  refine q_iload_n 24 k_J_bitCount_24 rfl ?_
  refine q_iload_n 25 k_J_bitCount_25 rfl ?_
  refine q_iconst 26 k_J_bitCount_26 ?_
  refine q_iushr 27 k_J_bitCount_27 ?_
  refine q_iadd 28 k_J_bitCount_28 ?_
  refine q_ldc_w 29 k_J_bitCount_29 ck_5_267 ?_
  refine q_iand 32 k_J_bitCount_32 ?_
  refine q_istore_n 33 k_J_bitCount_33 (ls' := [some (vI (opAnd (((opAnd (x0 - (opAnd (opUshr x0 1) 1431655765)) 858993459) + (opAnd (opUshr (x0 - (opAnd (opUshr x0 1) 1431655765)) 2) 858993459)) + (opUshr ((opAnd (x0 - (opAnd (opUshr x0 1) 1431655765)) 858993459) + (opAnd (opUshr (x0 - (opAnd (opUshr x0 1) 1431655765)) 2) 858993459)) 4)) 252645135))]) rfl rfl ?_
  refine q_iload_n 34 k_J_bitCount_34 rfl ?_
  refine q_iload_n 35 k_J_bitCount_35 rfl ?_
  refine q_bipush 36 k_J_bitCount_36 (by decide) ?_
  refine q_iushr 38 k_J_bitCount_38 ?_
  refine q_iadd 39 k_J_bitCount_39 ?_
  refine q_istore_n 40 k_J_bitCount_40 (ls' := [some (vI ((opAnd (((opAnd (x0 - (opAnd (opUshr x0 1) 1431655765)) 858993459) + (opAnd (opUshr (x0 - (opAnd (opUshr x0 1) 1431655765)) 2) 858993459)) + (opUshr ((opAnd (x0 - (opAnd (opUshr x0 1) 1431655765)) 858993459) + (opAnd (opUshr (x0 - (opAnd (opUshr x0 1) 1431655765)) 2) 858993459)) 4)) 252645135) + (opUshr (opAnd (((opAnd (x0 - (opAnd (opUshr x0 1) 1431655765)) 858993459) + (opAnd (opUshr (x0 - (opAnd (opUshr x0 1) 1431655765)) 2) 858993459)) + (opUshr ((opAnd (x0 - (opAnd (opUshr x0 1) 1431655765)) 858993459) + (opAnd (opUshr (x0 - (opAnd (opUshr x0 1) 1431655765)) 2) 858993459)) 4)) 252645135) 8)))]) rfl rfl ?_
  refine q_iload_n 41 k_J_bitCount_41 rfl ?_
  refine q_iload_n 42 k_J_bitCount_42 rfl ?_
  refine q_bipush 43 k_J_bitCount_43 (by decide) ?_
  refine q_iushr 45 k_J_bitCount_45 ?_
  refine q_iadd 46 k_J_bitCount_46 ?_
  refine q_istore_n 47 k_J_bitCount_47 (ls' := [some (vI (((opAnd (((opAnd (x0 - (opAnd (opUshr x0 1) 1431655765)) 858993459) + (opAnd (opUshr (x0 - (opAnd (opUshr x0 1) 1431655765)) 2) 858993459)) + (opUshr ((opAnd (x0 - (opAnd (opUshr x0 1) 1431655765)) 858993459) + (opAnd (opUshr (x0 - (opAnd (opUshr x0 1) 1431655765)) 2) 858993459)) 4)) 252645135) + (opUshr (opAnd (((opAnd (x0 - (opAnd (opUshr x0 1) 1431655765)) 858993459) + (opAnd (opUshr (x0 - (opAnd (opUshr x0 1) 1431655765)) 2) 858993459)) + (opUshr ((opAnd (x0 - (opAnd (opUshr x0 1) 1431655765)) 858993459) + (opAnd (opUshr (x0 - (opAnd (opUshr x0 1) 1431655765)) 2) 858993459)) 4)) 252645135) 8)) + (opUshr ((opAnd (((opAnd (x0 - (opAnd (opUshr x0 1) 1431655765)) 858993459) + (opAnd (opUshr (x0 - (opAnd (opUshr x0 1) 1431655765)) 2) 858993459)) + (opUshr ((opAnd (x0 - (opAnd (opUshr x0 1) 1431655765)) 858993459) + (opAnd (opUshr (x0 - (opAnd (opUshr x0 1) 1431655765)) 2) 858993459)) 4)) 252645135) + (opUshr (opAnd (((opAnd (x0 - (opAnd (opUshr x0 1) 1431655765)) 858993459) + (opAnd (opUshr (x0 - (opAnd (opUshr x0 1) 1431655765)) 2) 858993459)) + (opUshr ((opAnd (x0 - (opAnd (opUshr x0 1) 1431655765)) 858993459) + (opAnd (opUshr (x0 - (opAnd (opUshr x0 1) 1431655765)) 2) 858993459)) 4)) 252645135) 8)) 16)))]) rfl rfl ?_
  refine q_iload_n 48 k_J_bitCount_48 rfl ?_
  refine q_bipush 49 k_J_bitCount_49 (by decide) ?_
  refine q_iand 51 k_J_bitCount_51 ?_
  exact q_iret 52 k_J_bitCount_52 rfl h
