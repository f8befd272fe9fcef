/-! THE LAW's start: what the tables and the statics say -/
theorem K_start {s : State} {args : Array Value} (hts : ∀ w ∈ lw_tbl, w.before args s = true) : ∃ (D : va_G) (cI cR cW : ClassId), er_k3 D cI cR cW s := by
  have htg := er_hts hts
  obtain ⟨c0, i0, k0⟩ := u_known (C := RX0) (T := TX0) (N := 2) (n := 2) hts in_wsX00 (htg _ gw_n_Q)
  obtain ⟨c1, i1, k1⟩ := u_known (C := RX1) (T := TX1) (N := 2) (n := 2) hts in_wsX10 (htg _ gw_n_R)
  obtain ⟨c2, i2, k2⟩ := u_known (C := RX2) (T := TX2) (N := 8) (n := 8) hts in_wsX20 (htg _ gw_n_W)
  obtain ⟨c3, i3, k3⟩ := u_known (C := RX3) (T := TX3) (N := 6) (n := 6) hts in_wsX30 (htg _ gw_n_H)
  have hoR : (Cond.arrayOver (.object RX1)).before args s = true := hts _ (List.mem_of_getElem? (i := 41) (by decide +kernel))
  have hoW : (Cond.arrayOver (.object RX2)).before args s = true := hts _ (List.mem_of_getElem? (i := 58) (by decide +kernel))
  obtain ⟨cI, kI, pI, a1, a2, a3⟩ := Cond.arrayClass_spec (htg _ gw_aI)
  obtain ⟨pR, cR, kR, r1, r2, r3, r4, r5⟩ := Cond.arrayOver_spec (n := RX1) hoR
  obtain ⟨pW, cW, kW, w1, w2, w3, w4, w5⟩ := Cond.arrayOver_spec (n := RX2) hoW
  refine ⟨(fun k => if k = 0 then c0 else if k = 1 then c1 else if k = 2 then c2 else c3, fun k => if k = 0 then i0 else if k = 1 then i1 else if k = 2 then i2 else i3), cI, cR, cW, ⟨?_, ?_⟩, va_AO.of hoR, va_AO.of hoW, ?_, ?_, ?_⟩
  · intro k q hq
    match k, hq with
    | 0, hq => cases hq; exact k0
    | 1, hq => cases hq; exact k1
    | 2, hq => cases hq; exact k2
    | 3, hq => cases hq; exact k3
    | k + 4, hq => simp [er_cl] at hq
  · intro k q hq
    match k, hq with
    | 0, hq => cases hq; exact ⟨fun n z => ⟨(fun k h => by cases h), kI, a2, pI, a3⟩, a1⟩
    | 1, hq => cases hq; exact ⟨fun n z => ⟨(fun k h => by cases h), kR, r3, pR, r4⟩, kR, pR, r3, r4, r1, r5⟩
    | 2, hq => cases hq; exact ⟨fun n z => ⟨(fun k h => by cases h), kW, w3, pW, w4⟩, kW, pW, w3, w4, w1, w5⟩
    | k + 3, hq => simp at hq
  · exact va_Nw.of rfl (hts _ (List.mem_of_getElem? (i := 43) (by decide +kernel)))
  · exact va_Nw.of rfl (hts _ (List.mem_of_getElem? (i := 67) (by decide +kernel)))
  · exact va_Nw.of rfl (hts _ (List.mem_of_getElem? (i := 80) (by decide +kernel)))
theorem T_start {s : State} {args : Array Value} (C n : String) (hv : (Jvm.Cond.and given_1 narrow_1).before args s = true) (h0 : Cond.arrayOf (.static C n "[I") .int ∈ flatC (Jvm.Cond.and given_1 narrow_1)) (h1 : Cond.eq (.length (.static C n "[I")) (.int (Int32.ofNat 6)) ∈ flatC (Jvm.Cond.and given_1 narrow_1))
    (h2 : ∀ j, j < 6 → Cond.eq (.elem (.static C n "[I") (.int (Int32.ofNat j))) (.int (Int32.ofInt (bas j))) ∈ flatC (Jvm.Cond.and given_1 narrow_1)) (hl : (Cond.laysStatic C n "[I").before args s = true) (hi : (Cond.initialized C).before args s = true) :
    ∃ t : Nat, va_Z C n "[I" (.ref t) (fun q => s.heap.size ≤ q) s s.heap ∧ va_T .int t 6 (fun j => .int (Int32.ofInt (bas j))) (fun q => s.heap.size ≤ q) s s.heap := by
  have hs := flat_of_before _ hv
  have hA : ∀ a : Nat, a < s.heap.size → ¬ (fun q : Nat => s.heap.size ≤ q) a := fun a h => Nat.not_le.mpr h
  obtain ⟨t, e, hT⟩ := va_Tof (N := 6) (f := fun j => .int (Int32.ofInt (bas j))) (A := fun q => s.heap.size ≤ q) (by decide) (hs _ h0) (va_eqt (hs _ h1)) (fun j hj => va_eqt (hs _ (h2 j hj))) hA
  exact ⟨t, va_Zof hl hi e hA, hT⟩
theorem S_start {s : State} {args : Array Value} {D : va_G} {cI cR cW : ClassId} {b L : Nat} {xs : Nat → Int32} (hts : ∀ w ∈ lw_tbl, w.before args s = true) (hK : er_k3 D cI cR cW s) (hbl : b < s.heap.size) (hX : va_X b L xs s s.heap) (hv : (Jvm.Cond.and given_1 narrow_1).before args s = true) : ∃ tB tF : Nat, er_S D cI cR cW s.heap.size b L tB tF xs s := by
  obtain ⟨tB, z1, t1⟩ := T_start RX3 "BASES" hv (by decide +kernel) (by decide +kernel) (fun j hj => by rcases (show j = 0 ∨ j = 1 ∨ j = 2 ∨ j = 3 ∨ j = 4 ∨ j = 5 by omega) with rfl | rfl | rfl | rfl | rfl | rfl <;> decide +kernel) (hts _ (List.mem_of_getElem? (i := 330) (by decide +kernel))) (hts _ (List.mem_of_getElem? (i := 20) (by decide +kernel)))
  obtain ⟨tF, z2, t2⟩ := T_start RL "FEW" hv (by decide +kernel) (by decide +kernel) (fun j hj => by rcases (show j = 0 ∨ j = 1 ∨ j = 2 ∨ j = 3 ∨ j = 4 ∨ j = 5 by omega) with rfl | rfl | rfl | rfl | rfl | rfl <;> decide +kernel) (hts _ (List.mem_of_getElem? (i := 656) (by decide +kernel))) (hts _ (List.mem_of_getElem? (i := 19) (by decide +kernel)))
  refine ⟨tB, tF, Nat.le_refl _, hK.1, hbl, hX, z1, t1, z2, t2, fun w hw => ?_⟩
  have h1 := hts _ (er_N_tbl w hw)
  simp only [er_N, List.mem_cons, List.not_mem_nil, or_false] at hw
  rcases hw with rfl | rfl | rfl | rfl | rfl | rfl | rfl | rfl | rfl <;> exact va_Nw.of rfl h1
