/-! THE CONSTRUCTOR of the house -/
def i_PH (D : va_G) (cI cR cW : ClassId) (b L tB tF : Nat) (xs : Nat → Int32) (h0 : Nat) : Array Value → State → Prop := va_Pc [.ref h0] (fun U => U.heap.size = h0 + 1 ∧ va_P D er_cl [(h0, .inr (3, [.null, .null, .null, .null, .null, .int 0]))] U.heap ∧ er_k3 D cI cR cW U ∧ er_S D cI cR cW h0 b L tB tF xs U)
def i_QH (D : va_G) (cI cR cW : ClassId) (b L tB tF : Nat) (xs : Nat → Int32) (h0 : Nat) : Array Value → State → Outcome → State → Prop := va_Qv (fun M1 : AMem => HIs M1 H00 ∧ scrM L xs M1) (fun M1 t => va_P D er_cl (er_ws (er_ad h0 b tB tF) cI cR cW M1) t.heap) (fun q => h0 ≤ q)
theorem i_PH_blind {D : va_G} {cI cR cW : ClassId} {b L tB tF : Nat} {xs : Nat → Int32} {h0 : Nat} : FrameBlind (i_PH D cI cR cW b L tB tF xs h0) := by
  intro a U g mk h
  obtain ⟨h1, h2, h3, h4, h5⟩ := h
  exact ⟨h1, h2, h3, er_k3.calling g mk a h4, er_S_calling g mk a h5⟩
theorem Mi_scr (L : Nat) (xs : Nat → Int32) : scrM L xs (Mi L xs) := by
  refine ⟨rfl, fun j _ => ?_⟩
  show Int32.ofInt (xs j).toInt = xs j
  exact Int32.ofInt_toInt _
theorem lsR_this {h0 b tB tF : Nat} {ls : Array Slot} {x : Int32} (hl : lv_has ls 2 [(1, .int x), (0, .ref h0)]) : lsR (er_ad h0 b tB tF) [some (vR 3 0), none] 2 ls := by
  refine ⟨rfl, hl.1, hl.2.1, fun q hq => ?_⟩
  have e : lpr (er_ad h0 b tB tF) 0 [some (vR 3 0), none] = [(0, .ref h0)] := rfl
  rw [e] at hq
  rcases List.mem_cons.mp hq with rfl | hq
  · exact hl.2.2 _ (List.mem_cons_of_mem _ List.mem_cons_self)
  · cases hq
set_option maxHeartbeats 8000000 in
set_option maxRecDepth 100000 in
theorem I_H (l : Launch) (D : va_G) (cI cR cW : ClassId) (b L tB tF : Nat) (xs : Nat → Int32) (h0 : Nat) (hL : L ≤ 260) : Met l yX3_init iw_H ({ frames := 5, cells := 128, slots := 4197, locals := 600 }) (i_PH D cI cR cW b L tB tF xs h0) (i_QH D cI cR cW b L tB tF xs h0) 128 4197 (fun q => h0 ≤ q) := by
  refine Met.ofW (cc := cX3_init) (maxL := 2) (ret := none) (by decide) rfl ?_
  intro p e s m args below meth c s₁ B hml hv
  obtain ⟨rfl, hsz, hP, hK, hS0⟩ := hv
  have hx := B.exec
  have hb := B.bytes
  have hr := B.returns
  have hts := atoms_spec (ws := iw_H) B.pre
  have htg : ∀ w ∈ er_G, w.before _ s = true := fun w hw => hts w (List.mem_cons_of_mem _ hw)
  have htl : ∀ w ∈ u_ws RX3 TX3 6, w ∈ er_G := fun w hw => List.mem_filter.mpr ⟨in_wsX30 w hw, in_wsX30_good w hw⟩
  have hown : s.vm.findClass RX3 = some m.cls := findClass_of_methodNamed B.named
  have hin : meth.name = "<init>" := (name_of_methodNamed B.named B.method).1
  have hC : Ct D [(h0, .inr (3, [.null, .null, .null, .null, .null, .int 0]))] h0 s.heap := Ct.one hP hsz
  have hA : ∀ q : Nat, s.heap.size ≤ q → h0 ≤ q := fun q h => by omega
  have hS : va_S (fun q => h0 ≤ q) s.heap s.heap [] := va_S.rf
  have hl := lv_entry ([.ref h0]) (n := 2) (Nat.le_of_ble_eq_true rfl)
  rw [lg_entry_eq]
  generalize (lg_sl ([.ref h0]) ++ List.replicate (2 - (lg_sl ([.ref h0])).length) Slot.unset).toArray = ls at hl ⊢
  have hl : lv_has ls 2 [(0, .ref h0)] := hl
  refine lv_aload_n hx hb dX3_init_0 rfl (lv_at hl 0 rfl) ?_
  refine W.objInit hx hb hown (htg _ gw_oH) (htg _ gw_oi) (htg _ gw_oc) rfl (by rw [hml]; exact hl.1) rfl dX3_init_1 (Nat.le_of_ble_eq_true rfl) (Nat.le_of_ble_eq_true rfl) ?_
  refine W.eq (g2 := F0 m 4 ls []) rfl ?_
  refine lv_aload_n hx hb dX3_init_4 rfl (lv_at hl 0 rfl) ?_
  refine lv_bipush (v := 6) hx hb dX3_init_5 (by decide) ?_
  refine va_newq (C := RX1) (N' := 6) hx hb hown (htg _ gw_cHR) hK.2.1 hK.1 hP (hC.D (Nat.le_refl _)) hS hA (by decide) (by decide) (Nat.le_of_ble_eq_true rfl) (Nat.le_of_ble_eq_true rfl) (Nat.le_of_ble_eq_true rfl) dX3_init_7 (fun q cA H1 hK1 hP1 hD1 hS1 => ?_)
  refine W_sz fun hsz1 => ?_
  obtain rfl : cA = cR := K_obj (k := 1) hK.1 rfl hK1
  obtain ⟨rfl, hC⟩ := hC.new (Nat.le_refl _) hP1 hD1 (by rw [hsz] at hsz1; exact hsz1) (hD1.2 1 _ rfl)
  have hs1 : H1.size = h0 + 2 := hC.2.2
  refine va_putF (T := TX3) (C := RX3) (own := RX3) (N := 6) (ci := 3) (q0 := 0) hx hb htg htl tyX3 tyX3_ok nmX3 hown hK.1 hC.1 hD1 hS1 rfl rfl 0 (Nat.le_of_ble_eq_true rfl) (htg _ gw_fH0) (fun x h => h) rfl hin rfl (ty := .array (.object RX1)) rfl rfl rfl (Nat.le_of_ble_eq_true rfl) dX3_init_10 (fun H2 locs2 hP2 hD2 hS2 => ?_)
  refine W_sz fun hsz2 => ?_
  have hC := hC.set' (k0 := 0) (a := h0) rfl hP2 (by omega)
  have hC : Ct D [(h0, .inr (3, [.ref (h0 + 1), .null, .null, .null, .null, .int 0])), (h0 + 1, .inl (cA, 6, .inr (.inr (.inr (.inr (fun _ => none))))))] h0 H2 := hC
  refine lv_aload_n hx hb dX3_init_13 rfl (lv_at hl 0 rfl) ?_
  refine mk_R (lo := h0) (ix := 9) (ix2 := 15) hx hb hml hown htg (htg _ gw_cHR) hK hK.2.2.2.1 hC (by omega) hS2 (by show s.heap.size + 1 = h0 + 2; omega) (Nat.le_of_ble_eq_true rfl) (Nat.le_of_ble_eq_true rfl) (Nat.le_of_ble_eq_true rfl) (Nat.le_of_ble_eq_true rfl) dX3_init_14 dX3_init_17 dX3_init_18 hl.1 (Nat.le_of_ble_eq_true rfl) (fun H3 locs3 hC hS3 => ?_)
  have hs3 : H3.size = h0 + 4 := hC.2.2
  refine va_putF (T := TX3) (C := RX3) (own := RX3) (N := 6) (ci := 3) (q0 := 0) hx hb htg htl tyX3 tyX3_ok nmX3 hown hK.1 hC.1 (hC.D (Nat.le_refl _)) hS3 rfl rfl 1 (Nat.le_of_ble_eq_true rfl) (htg _ gw_fH1) (fun x h => h) rfl hin rfl (ty := .object RX1) rfl rfl rfl (Nat.le_of_ble_eq_true rfl) dX3_init_21 (fun H4 locs4 hP4 hD4 hS4 => ?_)
  refine W_sz fun hsz4 => ?_
  have hC := hC.set' (k0 := 0) (a := h0) rfl hP4 (by omega)
  have hC : Ct D [(h0, .inr (3, [.ref (h0 + 1), .ref (h0 + 2), .null, .null, .null, .int 0])), (h0 + 1, .inl (cA, 6, .inr (.inr (.inr (.inr (fun _ => none)))))), (h0 + 2, .inr (1, [.ref (h0 + 3), .int 0])), (h0 + 3, .inl (cI, 8, .inl (fun _ => 0)))] h0 H4 := hC
  have hs4 : H4.size = h0 + 4 := hC.2.2
  refine lv_aload_n hx hb dX3_init_24 rfl (lv_at hl 0 rfl) ?_
  refine lv_iconst (v := 5) hx hb dX3_init_25 (by decide) ?_
  refine va_newq (C := RX2) (N' := 5) hx hb hown (htg _ gw_cHW) hK.2.2.1 hK.1 hC.1 (hC.D (Nat.le_refl _)) hS4 hA (by decide) (by decide) (Nat.le_of_ble_eq_true rfl) (Nat.le_of_ble_eq_true rfl) (Nat.le_of_ble_eq_true rfl) dX3_init_26 (fun q cB H5 hK5 hP5 hD5 hS5 => ?_)
  refine W_sz fun hsz5 => ?_
  obtain rfl : cB = cW := K_obj (k := 2) hK.1 rfl hK5
  obtain ⟨rfl, hC⟩ := hC.new (Nat.le_refl _) hP5 hD5 (by rw [hsz] at hsz5; exact hsz5) (hD5.2 4 _ rfl)
  have hs5 : H5.size = h0 + 5 := hC.2.2
  refine va_putF (T := TX3) (C := RX3) (own := RX3) (N := 6) (ci := 3) (q0 := 0) hx hb htg htl tyX3 tyX3_ok nmX3 hown hK.1 hC.1 hD5 hS5 rfl rfl 2 (Nat.le_of_ble_eq_true rfl) (htg _ gw_fH2) (fun x h => h) rfl hin rfl (ty := .array (.object RX2)) rfl rfl rfl (Nat.le_of_ble_eq_true rfl) dX3_init_29 (fun H6 locs6 hP6 hD6 hS6 => ?_)
  refine W_sz fun hsz6 => ?_
  have hC := hC.set' (k0 := 0) (a := h0) rfl hP6 (by omega)
  have hC : Ct D [(h0, .inr (3, [.ref (h0 + 1), .ref (h0 + 2), .ref (h0 + 4), .null, .null, .int 0])), (h0 + 1, .inl (cA, 6, .inr (.inr (.inr (.inr (fun _ => none)))))), (h0 + 2, .inr (1, [.ref (h0 + 3), .int 0])), (h0 + 3, .inl (cI, 8, .inl (fun _ => 0))), (h0 + 4, .inl (cB, 5, .inr (.inr (.inr (.inr (fun _ => none))))))] h0 H6 := hC
  have hs6 : H6.size = h0 + 5 := hC.2.2
  refine lv_aload_n hx hb dX3_init_32 rfl (lv_at hl 0 rfl) ?_
  refine mk_W (lo := h0) (ix := 20) (ix2 := 26) hx hb hml hown htg (htg _ gw_cHW) hK (htg _ gw_mHW) hC (by omega) hS6 (by show s.heap.size + 4 = h0 + 5; omega) (Nat.le_of_ble_eq_true rfl) (Nat.le_of_ble_eq_true rfl) (Nat.le_of_ble_eq_true rfl) (Nat.le_of_ble_eq_true rfl) dX3_init_33 dX3_init_36 dX3_init_37 hl.1 (Nat.le_of_ble_eq_true rfl) (fun H7 locs7 hC hS7 => ?_)
  have hC : Ct D ((h0, .inr (3, [.ref (h0 + 1), .ref (h0 + 2), .ref (h0 + 4), .null, .null, .int 0])) :: (h0 + 1, .inl (cA, 6, .inr (.inr (.inr (.inr (fun _ => none)))))) :: (h0 + 2, .inr (1, [.ref (h0 + 3), .int 0])) :: (h0 + 3, .inl (cI, 8, .inl (fun _ => 0))) :: (h0 + 4, .inl (cB, 5, .inr (.inr (.inr (.inr (fun _ => none)))))) :: wellW cI cA (h0 + 5)) h0 H7 := hC
  have hs7 : H7.size = h0 + 21 := by
    have := hC.2.2
    simp only [List.length_cons, wellW_len] at this
    exact this
  refine va_putF (T := TX3) (C := RX3) (own := RX3) (N := 6) (ci := 3) (q0 := 0) hx hb htg htl tyX3 tyX3_ok nmX3 hown hK.1 hC.1 (hC.D (Nat.le_refl _)) hS7 rfl rfl 3 (Nat.le_of_ble_eq_true rfl) (htg _ gw_fH3) (fun x h => h) rfl hin rfl (ty := .object RX2) rfl rfl rfl (Nat.le_of_ble_eq_true rfl) dX3_init_40 (fun H8 locs8 hP8 hD8 hS8 => ?_)
  refine W_sz fun hsz8 => ?_
  have hC := hC.set' (k0 := 0) (a := h0) rfl hP8 (by omega)
  have hC : Ct D ((h0, .inr (3, [.ref (h0 + 1), .ref (h0 + 2), .ref (h0 + 4), .ref (h0 + 5), .null, .int 0])) :: (h0 + 1, .inl (cA, 6, .inr (.inr (.inr (.inr (fun _ => none)))))) :: (h0 + 2, .inr (1, [.ref (h0 + 3), .int 0])) :: (h0 + 3, .inl (cI, 8, .inl (fun _ => 0))) :: (h0 + 4, .inl (cB, 5, .inr (.inr (.inr (.inr (fun _ => none)))))) :: wellW cI cA (h0 + 5)) h0 H8 := hC
  have hn8 : ((h0, (.inr (3, [.ref (h0 + 1), .ref (h0 + 2), .ref (h0 + 4), .ref (h0 + 5), .null, .int 0]) : va_E)) :: (h0 + 1, .inl (cA, 6, .inr (.inr (.inr (.inr (fun _ => none)))))) :: (h0 + 2, .inr (1, [.ref (h0 + 3), .int 0])) :: (h0 + 3, .inl (cI, 8, .inl (fun _ => 0))) :: (h0 + 4, .inl (cB, 5, .inr (.inr (.inr (.inr (fun _ => none)))))) :: wellW cI cA (h0 + 5)).length = 21 := by
    simp only [List.length_cons, wellW_len]
  have hs8 : H8.size = h0 + 21 := by
    have := hC.2.2
    rw [hn8] at this
    exact this
  refine lv_aload_n hx hb dX3_init_43 rfl (lv_at hl 0 rfl) ?_
  refine mk_W (lo := h0) (ix := 20) (ix2 := 26) hx hb hml hown htg (htg _ gw_cHW) hK (htg _ gw_mHW) hC (by omega) hS8 (by rw [hn8]; show s.heap.size + 20 = h0 + 21; omega) (Nat.le_of_ble_eq_true rfl) (Nat.le_of_ble_eq_true rfl) (Nat.le_of_ble_eq_true rfl) (Nat.le_of_ble_eq_true rfl) dX3_init_44 dX3_init_47 dX3_init_48 hl.1 (Nat.le_of_ble_eq_true rfl) (fun H9 locs9 hC hS9 => ?_)
  rw [hn8] at hC ⊢
  have hC : Ct D ((h0, .inr (3, [.ref (h0 + 1), .ref (h0 + 2), .ref (h0 + 4), .ref (h0 + 5), .null, .int 0])) :: (h0 + 1, .inl (cA, 6, .inr (.inr (.inr (.inr (fun _ => none)))))) :: (h0 + 2, .inr (1, [.ref (h0 + 3), .int 0])) :: (h0 + 3, .inl (cI, 8, .inl (fun _ => 0))) :: (h0 + 4, .inl (cB, 5, .inr (.inr (.inr (.inr (fun _ => none)))))) :: (wellW cI cA (h0 + 5) ++ wellW cI cA (h0 + 21))) h0 H9 := hC
  have hs9 : H9.size = h0 + 37 := by
    have := hC.2.2
    simp only [List.length_cons, List.length_append, wellW_len] at this
    exact this
  refine va_putF (T := TX3) (C := RX3) (own := RX3) (N := 6) (ci := 3) (q0 := 0) hx hb htg htl tyX3 tyX3_ok nmX3 hown hK.1 hC.1 (hC.D (Nat.le_refl _)) hS9 rfl rfl 4 (Nat.le_of_ble_eq_true rfl) (htg _ gw_fH4) (fun x h => h) rfl hin rfl (ty := .object RX2) rfl rfl rfl (Nat.le_of_ble_eq_true rfl) dX3_init_51 (fun H10 locs10 hP10 hD10 hS10 => ?_)
  refine W_sz fun hsz10 => ?_
  have hC := hC.set' (k0 := 0) (a := h0) rfl hP10 (by omega)
  have hC : Ct D (houseR cI cA cB h0 0) h0 H10 := by
    unfold houseR
    rw [← upr_0, ← upw_0, show rowsW cI (h0 + 37) 0 = [] from rfl, List.append_nil]
    exact hC
  refine lv_iconst (v := 0) hx hb dX3_init_54 (by decide) ?_
  refine lv_istore_n (nL := 2) hx hb dX3_init_55 rfl hl (by decide) rfl (fun ls hl => ?_)
  have hl : lv_has ls 2 [(1, .int (Int32.ofNat 0)), (0, .ref h0)] := hl
  have loop2 : ∀ (f k : Nat) (H : Heap) (locs : List Loc) (ls : Array Slot), k + f = 5 → Ct D (houseW cI cA cB h0 k) h0 H → va_S (fun q => h0 ≤ q) s.heap H locs → lv_has ls 2 [(1, .int (Int32.ofNat k)), (0, .ref h0)] →
      W p l e (headSpec iw_H ({ frames := 5, cells := 128, slots := 4197, locals := 600 })).room s m #[Value.ref h0] below meth c H locs (48 + 16 * k) (1257 + 588 * k) (MQ below (i_QH D cI cA cB b L tB tF xs h0) #[Value.ref h0] s 128 4197 fun q => h0 ≤ q) (F0 m 86 ls []) := by
    intro f
    induction f with
    | zero =>
      intro k H locs ls hk hC hS hl
      obtain rfl : k = 5 := by omega
      refine lv_iload_n hx hb dX3_init_86 rfl (lv_at hl 0 rfl) ?_
      refine lv_aload_n hx hb dX3_init_87 rfl (lv_at hl 1 rfl) ?_
      refine va_get (T := TX3) (C := RX3) (own := RX3) (N := 6) (ci := 3) (q0 := 0) hx hb htg htl hown hK.1 hC.1 rfl rfl 2 (Nat.le_of_ble_eq_true rfl) (htg _ gw_fH2) (fun x h => h) rfl dX3_init_88 ?_
      refine va_alen (q0 := 4) (t0 := 2) (v := 5) hx hb hK.1 hC.1 rfl rfl rfl dX3_init_91 ?_
      refine lv_icmp_ge (tgt := 114) hx hb dX3_init_92 (by decide) (fun _ => ?_) (fun z => absurd (by decide) z)
      obtain ⟨n, v, M1, hrun, rfl, hH1, hM1⟩ := init_run (xs := xs) hL
      refine sim (D := D) (cI := cI) (cR := cA) (cW := cB) (B := h0) (b := b) (L := L) (tB := tB) (tF := tF) (xs := xs) l n 2 m_H_init 114 _ _ _ _ _ hrun p e _ s m _ below meth c H locs _ _ _ ls ⟨hx, hb, hr, hml, hown, htg, hS0, (Nat.le_of_ble_eq_true rfl), (Nat.le_of_ble_eq_true rfl), (Nat.le_of_ble_eq_true rfl), (Nat.le_of_ble_eq_true rfl)⟩ (Nat.le_of_ble_eq_true rfl) (Nat.le_of_ble_eq_true rfl) (world_eq hC.1) hS (lsR_this hl) (Mi_scr L xs) ?_
      intro pc' lj' H' locs' hra hP' hS' hM'
      rcases hra with ⟨-, hd, -⟩ | ⟨z, hz, -⟩ | ⟨z, hz, -⟩ | ⟨z, i, hz, -⟩
      · exact W.vret hx hb hr (fun t ht hW => ⟨⟨M1, rfl, ⟨hH1, hM1⟩, by show va_P D er_cl _ t.heap; rw [ht]; exact hP'⟩, hS'.F ht⟩) hS'.2.2 hd
      · cases hz
      · cases hz
      · cases hz
    | succ f ih =>
      intro k H locs ls hk hC hS hl
      obtain ⟨k1, k2, k3, k4⟩ := house_k k (by omega)
      refine lv_iload_n hx hb dX3_init_86 rfl (lv_at hl 0 rfl) ?_
      refine lv_aload_n hx hb dX3_init_87 rfl (lv_at hl 1 rfl) ?_
      refine va_get (T := TX3) (C := RX3) (own := RX3) (N := 6) (ci := 3) (q0 := 0) hx hb htg htl hown hK.1 hC.1 rfl rfl 2 (Nat.le_of_ble_eq_true rfl) (htg _ gw_fH2) (fun x h => h) rfl dX3_init_88 ?_
      refine va_alen (q0 := 4) (t0 := 2) (v := 5) hx hb hK.1 hC.1 rfl rfl rfl dX3_init_91 ?_
      refine lv_icmp_ge (tgt := 114) hx hb dX3_init_92 (by decide) (fun z => absurd z k1) (fun _ => ?_)
      refine lv_aload_n hx hb dX3_init_95 rfl (lv_at hl 1 rfl) ?_
      refine va_get (T := TX3) (C := RX3) (own := RX3) (N := 6) (ci := 3) (q0 := 0) hx hb htg htl hown hK.1 hC.1 rfl rfl 2 (Nat.le_of_ble_eq_true rfl) (htg _ gw_fH2) (fun x h => h) rfl dX3_init_96 ?_
      refine lv_iload_n hx hb dX3_init_99 rfl (lv_at hl 0 rfl) ?_
      refine mk_W (lo := h0) (ix := 20) (ix2 := 26) hx hb hml hown htg (htg _ gw_cHW) hK (htg _ gw_mHW) hC (by omega) hS (by rw [houseW_len]; omega) (Nat.le_of_ble_eq_true rfl) (Nat.le_of_ble_eq_true rfl) (by show 48 + 16 * k + 16 ≤ 128; omega) (by show 1257 + 588 * k + 588 ≤ 4197; omega) dX3_init_100 dX3_init_103 dX3_init_104 hl.1 (Nat.le_of_ble_eq_true rfl) (fun H1 locs1 hC hS1 => ?_)
      rw [houseW_len] at hC ⊢
      have hrow : (houseW cI cA cB h0 k ++ wellW cI cA (h0 + (49 + 16 * k)))[49 + 16 * k]? = some (h0 + (49 + 16 * k), .inr (2, [.ref (h0 + (49 + 16 * k) + 1), .ref (h0 + (49 + 16 * k) + 2), .int (-1), .int 0, .int 0, .int 0, .int 0, .int 0])) := by
        rw [List.getElem?_append_right (by rw [houseW_len]; exact Nat.le_refl _), houseW_len, Nat.sub_self]
        rfl
      refine va_astq (q0 := 4) (t0 := 2) (qk := 49 + 16 * k) (ci := 2) (r := (RX2, TX2, 8)) hx hb hK.1 hC.1 (hC.D (Nat.le_refl _)) hS1 rfl rfl hrow rfl k2 dX3_init_107 (fun H2 locs2 hP2 hD2 hS2 => ?_)
      refine W_sz fun hsz5 => ?_
      have hs1 : H1.size = h0 + (49 + 16 * k + 16) := by
        have := hC.2.2
        rw [List.length_append, houseW_len, wellW_len] at this
        exact this
      have hC := hC.set' (k0 := 4) (a := h0 + 4) rfl hP2 (by omega)
      rw [k3, houseW_up] at hC
      refine lv_iinc (nL := 2) (k := 0) hx hb dX3_init_108 hl rfl k4 (by decide) rfl (fun ls hl => ?_)
      refine lv_goto (tgt := 86) hx hb dX3_init_111 (by decide) ?_
      refine W.widen (k := 48 + 16 * (k + 1)) (n := 1257 + 588 * (k + 1)) (by omega) (by omega) ?_
      exact ih (k + 1) H2 locs2 ls (by omega) hC hS2 hl
  have loop1 : ∀ (f k : Nat) (H : Heap) (locs : List Loc) (ls : Array Slot), k + f = 6 → Ct D (houseR cI cA cB h0 k) h0 H → va_S (fun q => h0 ≤ q) s.heap H locs → lv_has ls 2 [(1, .int (Int32.ofNat k)), (0, .ref h0)] →
      W p l e (headSpec iw_H ({ frames := 5, cells := 128, slots := 4197, locals := 600 })).room s m #[Value.ref h0] below meth c H locs (36 + 2 * k) (1197 + 10 * k) (MQ below (i_QH D cI cA cB b L tB tF xs h0) #[Value.ref h0] s 128 4197 fun q => h0 ≤ q) (F0 m 56 ls []) := by
    intro f
    induction f with
    | zero =>
      intro k H locs ls hk hC hS hl
      obtain rfl : k = 6 := by omega
      refine lv_iload_n hx hb dX3_init_56 rfl (lv_at hl 0 rfl) ?_
      refine lv_aload_n hx hb dX3_init_57 rfl (lv_at hl 1 rfl) ?_
      refine va_get (T := TX3) (C := RX3) (own := RX3) (N := 6) (ci := 3) (q0 := 0) hx hb htg htl hown hK.1 hC.1 rfl rfl 0 (Nat.le_of_ble_eq_true rfl) (htg _ gw_fH0) (fun x h => h) rfl dX3_init_58 ?_
      refine va_alen (q0 := 1) (t0 := 1) (v := 6) hx hb hK.1 hC.1 rfl rfl rfl dX3_init_61 ?_
      refine lv_icmp_ge (tgt := 84) hx hb dX3_init_62 (by decide) (fun _ => ?_) (fun z => absurd (by decide) z)
      refine lv_iconst (v := 0) hx hb dX3_init_84 (by decide) ?_
      refine lv_istore_n (nL := 2) hx hb dX3_init_85 rfl hl (by decide) rfl (fun ls hl => ?_)
      rw [houseR_6] at hC
      exact loop2 5 0 H locs ls rfl hC hS hl
    | succ f ih =>
      intro k H locs ls hk hC hS hl
      obtain ⟨k1, k2, k3, k4⟩ := well_k k (by omega)
      refine lv_iload_n hx hb dX3_init_56 rfl (lv_at hl 0 rfl) ?_
      refine lv_aload_n hx hb dX3_init_57 rfl (lv_at hl 1 rfl) ?_
      refine va_get (T := TX3) (C := RX3) (own := RX3) (N := 6) (ci := 3) (q0 := 0) hx hb htg htl hown hK.1 hC.1 rfl rfl 0 (Nat.le_of_ble_eq_true rfl) (htg _ gw_fH0) (fun x h => h) rfl dX3_init_58 ?_
      refine va_alen (q0 := 1) (t0 := 1) (v := 6) hx hb hK.1 hC.1 rfl rfl rfl dX3_init_61 ?_
      refine lv_icmp_ge (tgt := 84) hx hb dX3_init_62 (by decide) (fun z => absurd z k1) (fun _ => ?_)
      refine lv_aload_n hx hb dX3_init_65 rfl (lv_at hl 1 rfl) ?_
      refine va_get (T := TX3) (C := RX3) (own := RX3) (N := 6) (ci := 3) (q0 := 0) hx hb htg htl hown hK.1 hC.1 rfl rfl 0 (Nat.le_of_ble_eq_true rfl) (htg _ gw_fH0) (fun x h => h) rfl dX3_init_66 ?_
      refine lv_iload_n hx hb dX3_init_69 rfl (lv_at hl 0 rfl) ?_
      refine mk_R (lo := h0) (ix := 9) (ix2 := 15) hx hb hml hown htg (htg _ gw_cHR) hK hK.2.2.2.1 hC (by omega) hS (by rw [houseR_len]; omega) (Nat.le_of_ble_eq_true rfl) (Nat.le_of_ble_eq_true rfl) (by show 36 + 2 * k + 2 ≤ 128; omega) (by show 1197 + 10 * k + 10 ≤ 4197; omega) dX3_init_70 dX3_init_73 dX3_init_74 hl.1 (Nat.le_of_ble_eq_true rfl) (fun H1 locs1 hC hS1 => ?_)
      rw [houseR_len] at hC ⊢
      have hrow : (houseR cI cA cB h0 k ++ rowW cI (h0 + (37 + 2 * k)))[37 + 2 * k]? = some (h0 + (37 + 2 * k), .inr (1, [.ref (h0 + (37 + 2 * k) + 1), .int 0])) := by
        rw [List.getElem?_append_right (by rw [houseR_len]; exact Nat.le_refl _), houseR_len, Nat.sub_self]
        rfl
      refine va_astq (q0 := 1) (t0 := 1) (qk := 37 + 2 * k) (ci := 1) (r := (RX1, TX1, 2)) hx hb hK.1 hC.1 (hC.D (Nat.le_refl _)) hS1 rfl rfl hrow rfl k2 dX3_init_77 (fun H2 locs2 hP2 hD2 hS2 => ?_)
      refine W_sz fun hsz5 => ?_
      have hs1 : H1.size = h0 + (37 + 2 * k + 2) := by
        have := hC.2.2
        rw [List.length_append, houseR_len] at this
        exact this
      have hC := hC.set' (k0 := 1) (a := h0 + 1) rfl hP2 (by omega)
      rw [k3, houseR_up] at hC
      refine lv_iinc (nL := 2) (k := 0) hx hb dX3_init_78 hl rfl k4 (by decide) rfl (fun ls hl => ?_)
      refine lv_goto (tgt := 56) hx hb dX3_init_81 (by decide) ?_
      refine W.widen (k := 36 + 2 * (k + 1)) (n := 1197 + 10 * (k + 1)) (by omega) (by omega) ?_
      exact ih (k + 1) H2 locs2 ls (by omega) hC hS2 hl
  exact loop1 6 0 H10 locs10 ls rfl hC hS10 hl
