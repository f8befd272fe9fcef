/-! THE CLAIM OUT OF ONE WALK OF THE LAW'S BODY. Your part is whole_start (and what it stands on); all else here is the same for every law, but numbers. -/
def R_law : String := "EndlessrowsLaw"
def lw_P (b : Addr) (xs : List Int32) (args : Array Value) (s : State) : Prop := args = #[.ref b] ∧ s.IntsAt b xs ∧ xs.length ≤ 260 ∧ (Jvm.Cond.and given_1 narrow_1).before args s = true
def lw_Q (_ : Array Value) (s : State) (o : Outcome) (t : State) : Prop := o = .returned (some (.int 1)) ∧ Framed s o t [] 600104 7301314
def lw_Z (below : List Frame) (a : Array Value) (s : State) : State → Prop := fun t => ∃ o, t.status = .running ∧ Ended t below o ∧ lw_Q a s o t
/-- the law's own end, with 1 on the stack, nothing written that was there before, its room as the claim has it -/
theorem lw_ret {p : Program} {l : Launch} {e : Env} {s : State} {m : MethodId} {below : List Frame} {meth : Method} {c : Code} {b : Nat} (hx : p.tables.exec = Jvm.exec) (hb : c.code = code) (hr : meth.sig.returnType = ret) (hlocks : meth.locks = false) {pc : Nat} {H : Heap} {ls : Array Slot} (hdg : decode code pc = .ok (.ireturn, 1)) : W p l e room_1 s m #[Value.ref b] below meth c H [] 600104 7301314 (lw_Z below #[Value.ref b] s) (F0 m pc ls [.int 1]) := by
  intro T hT X
  obtain ⟨fs, hret, hrun, hended, hW, hframe⟩ := X.leave (v := some (.int 1)) (hlocks := hlocks) (fun h => by rw [hr] at h; cases h)
  have hmeth' : T.vm.method? m = some meth := X.method'
  refine ⟨T.setFrames fs, ?_, .returned (some (.int 1)), hrun, hended, rfl, ⟨_, rfl⟩, hW, hframe⟩
  jvm_step X.here [X.here.top, hx, hb, hdg, hmeth', hr, ret, narrow_b1]
  (try refine ⟨rfl, ?_⟩); (try refine ⟨rfl, ?_⟩)
  first | (intro acts; rw [hret _ acts rfl rfl rfl]) | rw [hret _ _ rfl rfl rfl]
  exact Steps.refl _
/-- what holds at the law's entry: the machine, the code, the tables' words (any of lw_tbl by 'hts w (by decide +kernel)'), the script of L ints xs at the cell b, what the Statement gives of the start (any of its parts by flat_of_before) -/
def lw_At (p : Program) (s : State) (m : MethodId) (meth : Method) (c : Code) (b L : Nat) (xs : Nat → Int32) : Prop :=
  p.tables.exec = Jvm.exec ∧ c.code = code ∧ meth.sig.returnType = ret ∧ c.maxLocals = 6 ∧ s.vm.findClass R_law = some m.cls ∧ (∀ w ∈ lw_tbl, w.before #[Value.ref b] s = true) ∧ va_X b L xs s s.heap ∧ b < s.heap.size ∧ meth.locks = false ∧ (Jvm.Cond.and given_1 narrow_1).before #[Value.ref b] s = true
-- ===== YOUR PART BEGINS =====
theorem dL_0 : decode code 0 = .ok (.new 17, 3) := by decide +kernel
theorem dL_3 : decode code 3 = .ok (.dup, 1) := by decide +kernel
theorem dL_4 : decode code 4 = .ok (.invokespecial 19, 3) := by decide +kernel
theorem lsR_law {B b tB tF : Nat} {ls : Array Slot} (hl : lv_has ls 6 [(0, .ref b)]) : lsR (er_ad B b tB tF) [some (vR 9 0), none, none, none, none, none] 6 ls := by
  refine ⟨rfl, hl.1, hl.2.1, fun q hq => ?_⟩
  have e : lpr (er_ad B b tB tF) 0 [some (vR 9 0), none, none, none, none, none] = [(0, .ref b)] := rfl
  rw [e] at hq
  exact hl.2.2 q hq
set_option maxHeartbeats 8000000 in
set_option maxRecDepth 100000 in
/-- THE LAW, from its entry -/
theorem whole_start {p : Program} {e : Env} {s : State} {m : MethodId} {below : List Frame} {meth : Method} {c : Code} (l : Launch) (hflags : l.flags = flags0) {b L : Nat} {xs : Nat → Int32} (hL : L ≤ 260) (C0 : lw_At p s m meth c b L xs) : W p l e room_1 s m #[Value.ref b] below meth c s.heap [] 0 0 (lw_Z below #[Value.ref b] s) (entryFrame m ([Value.ref b] : List Value).toArray 6) := by
  obtain ⟨hx, hb, hr, hml, hown, hts, hX, hbl, hlocks, hgv⟩ := C0
  have htg := er_hts hts
  have htl : ∀ w ∈ u_ws RX3 TX3 6, w ∈ er_G := fun w hw => List.mem_filter.mpr ⟨in_wsX30 w hw, in_wsX30_good w hw⟩
  obtain ⟨D, cI, cR, cW, hK⟩ := K_start hts
  obtain ⟨tB, tF, hS0⟩ := S_start hts hK hbl hX hgv
  have hS : va_S (fun q : Nat => s.heap.size ≤ q) s.heap s.heap [] := va_S.rf
  have hC : Ct D [] s.heap.size s.heap := ⟨fun k q h => by simp at h, fun k q h => by simp at h, rfl⟩
  have hl := lv_entry ([.ref b]) (n := 6) (Nat.le_of_ble_eq_true rfl)
  rw [lg_entry_eq]
  generalize (lg_sl ([.ref b]) ++ List.replicate (6 - (lg_sl ([.ref b])).length) Slot.unset).toArray = ls at hl ⊢
  have hl : lv_has ls 6 [(0, .ref b)] := hl
  refine va_new (ci := 3) (fs := [.null, .null, .null, .null, .null, .int 0]) (C := RX3) (T := TX3) (N := 6) hx hb htg htl tyX3 tyX3_ok hown (htg _ gw_cLH) (htg _ gw_n_H) (htg _ gw_i_H) hK.1 hC.1 (hC.D (Nat.le_refl _)) hS (fun _ h => h) rfl (fun j hj => by rcases (show j = 0 ∨ j = 1 ∨ j = 2 ∨ j = 3 ∨ j = 4 ∨ j = 5 by omega) with rfl | rfl | rfl | rfl | rfl | rfl <;> rfl) (Nat.le_of_ble_eq_true rfl) (Nat.le_of_ble_eq_true rfl) dL_0 (fun q H1 hP1 hD1 hS1 => ?_)
  refine W_sz fun hsz1 => ?_
  obtain ⟨hq, hC1⟩ := hC.new (Nat.le_refl _) hP1 hD1 hsz1 (hD1.2 0 _ rfl)
  have hq : q = s.heap.size := hq
  subst hq
  have hs1 : H1.size = s.heap.size + 1 := hC1.2.2
  refine lv_dup hx hb dL_3 rfl ?_
  refine va_callv (va_runI (As := []) (rest := [.ref s.heap.size]) ⟨hx, hb, hml, hown, htg⟩ (I_H l D cI cR cW b L tB tF xs s.heap.size hL) (cwI 0 htg (iw_good gw_kH) rfl rfl rfl (htg _ gw_i_H) (htg _ gw_mLH) (htg _ gw_jH) rfl (by decide +kernel) ⟨Nat.le_of_ble_eq_true rfl, Nat.le_of_ble_eq_true rfl⟩) ⟨i_PH_blind, fun U hU hW => ⟨rfl, by rw [hU]; exact hs1, by rw [hU]; exact hC1.1, er_k3.moved hW hK, er_S_moved hS0 hW (by rw [hU]; omega) (fun q h1 h2 => by rw [hU]; exact hS1.2.1 q h1 h2)⟩⟩ rfl rfl hl.1 rfl (lv_room (Nat.le_of_ble_eq_true rfl)) dL_4 ⟨Nat.le_of_ble_eq_true rfl, Nat.le_of_ble_eq_true rfl⟩) hS1 (fun q _ h => h) (fun q h => h) (fun M1 t H2 locs2 ht hvm hu hB hz hk hS2 => ?_)
  have hB : va_P D er_cl (er_ws (er_ad s.heap.size b tB tF) cI cR cW M1) H2 := by rw [← ht]; exact hB
  obtain ⟨hH1, hM1⟩ := hu
  obtain ⟨n, v, M2, hrun, rfl⟩ := law_7 (d := 0) (M := M1) (H := H00) (Q := fun v _ => v = some (vI 1)) hH1 (fun _ _ _ => rfl)
  refine sim (D := D) (cI := cI) (cR := cR) (cW := cW) (B := s.heap.size) (b := b) (L := L) (tB := tB) (tF := tF) (xs := xs) l n 42 m_L_law 7 _ _ _ _ _ hrun p e room_1 s m _ below meth c H2 locs2 _ _ _ ls ⟨hx, hb, hr, hml, hown, htg, hS0, Nat.le_of_ble_eq_true rfl, Nat.le_of_ble_eq_true rfl, Nat.le_of_ble_eq_true rfl, Nat.le_of_ble_eq_true rfl⟩ (Nat.le_of_ble_eq_true rfl) (Nat.le_of_ble_eq_true rfl) hB hS2 (lsR_law hl) hM1 ?_
  intro pc' lj' H' locs' hra hP' hS' hM'
  rcases hra with ⟨hz, -⟩ | ⟨z, hz, hd, -⟩ | ⟨z, hz, -⟩ | ⟨z, i, hz, -⟩
  · cases hz
  · refine va_forget hS'.2.2 (W.widen (k := 600104) (n := 7301314) (Nat.le_of_ble_eq_true rfl) (Nat.le_of_ble_eq_true rfl) ?_)
    show W p l e room_1 s m #[Value.ref b] below meth c H' [] 600104 7301314 (lw_Z below #[Value.ref b] s) (F0 m pc' lj' [.int (Int32.ofInt 1)])
    rw [show Int32.ofInt 1 = 1 from by decide]
    exact lw_ret hx hb hr hlocks hd
  · cases hz
  · cases hz
-- ===== YOUR PART ENDS =====
