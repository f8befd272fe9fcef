/-! THE CONSTRUCTORS: a well made anywhere -/
section MK
variable {p : Program} {l : Launch} {e : Env} {R : Room} {s : State} {m : MethodId} {args : Array Value} {below : List Frame} {meth : Method} {c : Code} {H : Heap} {locs : List Loc} {cells slots : Nat} {Q : State → Prop}
variable {D : va_G} {cI cR cW : ClassId} {lo : Nat} {ws : va_W} {own : String} {cc : ByteArray} {nL ix ix2 pc : Nat} {ls : Array Slot} {rest : List Value}
set_option maxHeartbeats 4000000 in
set_option maxRecDepth 100000 in
theorem mk_W (hx : p.tables.exec = Jvm.exec) (hb : c.code = cc) (hml : c.maxLocals = nL) (hown : s.vm.findClass own = some m.cls) (htg : ∀ w ∈ er_G, w.before args s = true) (hcl : (Cond.classLink own ix RX2).before args s = true) (hK : er_k3 D cI cR cW s) (hnw : (Cond.methodLink own ix2 yX2_init).before args s = true)
    (hC : Ct D ws lo H) (hBs : lo ≤ s.heap.size) (hS : va_S (fun q => lo ≤ q) s.heap H locs) (hsz : s.heap.size + cells = lo + ws.length) (hfr : 3 + 1 ≤ R.frames) (hlo2 : 8 + (2 + 11) + 200 ≤ R.locals) (hce : cells + 16 ≤ R.cells) (hsl : slots + 588 ≤ R.slots)
    (d0 : decode cc pc = .ok (.new ix, 3)) (d1 : decode cc (pc + 3) = .ok (.dup, 1)) (d2 : decode cc (pc + 4) = .ok (.invokespecial ix2, 3)) (hls : ls.size = nL) (hrest : (rest.map fun v => v.category).sum ≤ 6)
    (kk : ∀ (H1 : Heap) (locs1 : List Loc), Ct D (ws ++ wellW cI cR (lo + ws.length)) lo H1 → va_S (fun q => lo ≤ q) s.heap H1 locs1 → W p l e R s m args below meth c H1 locs1 (cells + 16) (slots + 588) Q (F0 m (pc + 7) ls (.ref (lo + ws.length) :: rest))) : W p l e R s m args below meth c H locs cells slots Q (F0 m pc ls rest) := by
  have hA : ∀ q : Nat, s.heap.size ≤ q → lo ≤ q := fun q h => Nat.le_trans hBs h
  have htl : ∀ w ∈ u_ws RX2 TX2 8, w ∈ er_G := fun w hw => List.mem_filter.mpr ⟨in_wsX20 w hw, in_wsX20_good w hw⟩
  refine va_new (ci := 2) (fs := [.null, .null, .int 0, .int 0, .int 0, .int 0, .int 0, .int 0]) (C := RX2) (T := TX2) (N := 8) hx hb htg htl tyX2 tyX2_ok hown hcl (htg _ gw_n_W) (htg _ gw_i_W) hK.1 hC.1 (hC.D (Nat.le_refl _)) hS hA rfl (fun j hj => by rcases (show j = 0 ∨ j = 1 ∨ j = 2 ∨ j = 3 ∨ j = 4 ∨ j = 5 ∨ j = 6 ∨ j = 7 by omega) with rfl | rfl | rfl | rfl | rfl | rfl | rfl | rfl <;> rfl) (by omega) (by omega) d0 (fun q H1 hP hD hS => ?_)
  refine W_sz fun hsz1 => ?_
  have hq : lo ≤ q := hD.2 ws.length _ (by rw [List.getElem?_append_right (Nat.le_refl _), Nat.sub_self]; rfl)
  obtain ⟨rfl, hC1⟩ := hC.new (Nat.le_refl _) hP hD (by omega) hq
  refine lv_dup hx hb d1 rfl ?_
  have hlast : (ws ++ [(lo + ws.length, (.inr (2, [.null, .null, .int 0, .int 0, .int 0, .int 0, .int 0, .int 0]) : va_E))])[ws.length]? = some (lo + ws.length, .inr (2, [.null, .null, .int 0, .int 0, .int 0, .int 0, .int 0, .int 0])) := by
    rw [List.getElem?_append_right (Nat.le_refl _), Nat.sub_self]
    rfl
  have hPc : va_P D er_cl [(lo + ws.length, .inr (2, [.null, .null, .int 0, .int 0, .int 0, .int 0, .int 0, .int 0]))] H1 := by
    intro j q hj
    have hj1 := (List.getElem?_eq_some_iff.mp hj).1
    have hj0 : j = 0 := by
      have : j < 1 := hj1
      omega
    rw [hj0] at hj
    cases hj
    exact hC1.1 _ _ hlast
  have hs1 : H1.size = lo + ws.length + 1 := by
    have := hC1.2.2
    rw [List.length_append] at this
    exact this
  refine va_callv (va_runI (As := []) (rest := .ref (lo + ws.length) :: rest) ⟨hx, hb, hml, hown, htg⟩ (I_W l D cI cR cW (lo + ws.length)) (cwI 0 htg (iw_good gw_kW) rfl rfl rfl (htg _ gw_i_W) hnw (htg _ gw_jW) rfl (by decide +kernel) ⟨hfr, hlo2⟩) ⟨i_P_blind, fun U hU hW => ⟨rfl, by rw [hU]; exact hs1, by rw [hU]; exact hPc, er_k3.moved hW hK⟩⟩ rfl rfl hls rfl (lv_room (by show 1 + (rest.map fun v => v.category).sum ≤ 8; omega)) d2 ⟨by omega, by omega⟩) hS (fun q _ h => by show lo ≤ q; omega) (fun q h => by show lo ≤ q; omega) (fun u t H2 locs2 ht hvm hu hB hz hk hS2 => ?_)
  rw [ht] at hB
  exact kk H2 locs2 (hC1.app hB hk) hS2
end MK
