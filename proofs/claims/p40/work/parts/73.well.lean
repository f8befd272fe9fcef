/-! THE CONSTRUCTOR of a well -/
def upr (f0 : Nat) (k : Nat) : Nat → Option Nat := fun j => if j < k then some (f0 + 2 * j) else none
def rowsW (cI : ClassId) (a : Nat) : Nat → va_W
  | 0 => []
  | k + 1 => rowsW cI a k ++ rowW cI (a + 2 * k)
theorem rowsW_len (cI : ClassId) (a : Nat) : ∀ k, (rowsW cI a k).length = 2 * k := by
  intro k
  induction k with
  | zero => rfl
  | succ k ih =>
    show (rowsW cI a k ++ rowW cI (a + 2 * k)).length = 2 * (k + 1)
    rw [List.length_append, ih]
    show 2 * k + 2 = 2 * (k + 1)
    omega
def wellH (cI cR : ClassId) (a k : Nat) : va_W := [(a, .inr (2, [.ref (a + 1), .ref (a + 2), .int (-1), .int 0, .int 0, .int 0, .int 0, .int 0])), (a + 1, .inl (cR, 6, .inr (.inr (.inr (.inr (upr (a + 4) k)))))), (a + 2, .inr (0, [.ref (a + 3), .int 0])), (a + 3, .inl (cI, 512, .inl (fun _ => 0)))] ++ rowsW cI (a + 4) k
def wellW (cI cR : ClassId) (a : Nat) : va_W := wellH cI cR a 6
theorem wellH_len (cI cR : ClassId) (a k : Nat) : (wellH cI cR a k).length = 4 + 2 * k := by
  unfold wellH
  rw [List.length_append, rowsW_len]
  rfl
theorem upr_up (f0 k : Nat) : va_up (upr f0 k) k (some (f0 + 2 * k)) = upr f0 (k + 1) := by
  funext j
  unfold va_up upr
  by_cases e : j = k
  · rw [if_pos e, if_pos (by omega), e]
  · rw [if_neg e]
    by_cases e2 : j < k
    · rw [if_pos e2, if_pos (by omega)]
    · rw [if_neg e2, if_neg (by omega)]
theorem upr_0 (f0 : Nat) : (fun _ => none) = upr f0 0 := by
  funext j
  exact (if_neg (Nat.not_lt_zero j)).symm
theorem well_k : ∀ k : Nat, k < 6 → (¬ (6 : Int32) ≤ Int32.ofNat k) ∧ vp_in (Int32.ofNat k) 6 ∧ (Int32.ofNat k).toNatClampNeg = k ∧ Int32.ofNat k + Int32.ofInt 1 = Int32.ofNat (k + 1) := by
  intro k hk
  rcases (show k = 0 ∨ k = 1 ∨ k = 2 ∨ k = 3 ∨ k = 4 ∨ k = 5 by omega) with rfl | rfl | rfl | rfl | rfl | rfl <;> exact ⟨by decide, by unfold vp_in; decide, by decide, by decide⟩
theorem lv_len {ls : Array Slot} {n : Nat} {xs : List (Nat × Value)} (h : lv_has ls n xs) : ls.size = n := h.1
set_option maxHeartbeats 4000000 in
set_option maxRecDepth 100000 in
theorem I_W (l : Launch) (D : va_G) (cI cR cW : ClassId) (h0 : Nat) : Met l yX2_init iw_W ({ frames := 3, cells := 15, slots := 580, locals := 200 }) (i_P D cI cR cW 2 [.null, .null, .int 0, .int 0, .int 0, .int 0, .int 0, .int 0] h0) (i_Q D (wellW cI cR h0) h0) 15 580 (fun q => h0 ≤ q) := by
  refine Met.ofW (cc := cX2_init) (maxL := 2) (ret := none) (by decide) rfl ?_
  intro p e s m args below meth c s₁ B hml hv
  obtain ⟨rfl, hsz, hP, hK⟩ := hv
  have hx := B.exec
  have hb := B.bytes
  have hr := B.returns
  have hts := atoms_spec (ws := iw_W) B.pre
  have htg : ∀ w ∈ er_G, w.before _ s = true := fun w hw => hts w (List.mem_cons_of_mem _ hw)
  have htl : ∀ w ∈ u_ws RX2 TX2 8, w ∈ er_G := fun w hw => List.mem_filter.mpr ⟨in_wsX20 w hw, in_wsX20_good w hw⟩
  have hown : s.vm.findClass RX2 = some m.cls := findClass_of_methodNamed B.named
  have hin : meth.name = "<init>" := (name_of_methodNamed B.named B.method).1
  have hC : Ct D [(h0, .inr (2, [.null, .null, .int 0, .int 0, .int 0, .int 0, .int 0, .int 0]))] h0 s.heap := Ct.one hP hsz
  have hA : ∀ q : Nat, s.heap.size ≤ q → h0 ≤ q := fun q h => by omega
  have hS : va_S (fun q => h0 ≤ q) s.heap s.heap [] := va_S.rf
  have hl := lv_entry ([.ref h0]) (n := 2) (Nat.le_of_ble_eq_true rfl)
  rw [lg_entry_eq]
  generalize (lg_sl ([.ref h0]) ++ List.replicate (2 - (lg_sl ([.ref h0])).length) Slot.unset).toArray = ls at hl ⊢
  have hl : lv_has ls 2 [(0, .ref h0)] := hl
  refine lv_aload_n hx hb dX2_init_0 rfl (lv_at hl 0 rfl) ?_
  refine W.objInit hx hb hown (htg _ gw_oW) (htg _ gw_oi) (htg _ gw_oc) rfl (by rw [hml]; exact hl.1) rfl dX2_init_1 (Nat.le_of_ble_eq_true rfl) (Nat.le_of_ble_eq_true rfl) ?_
  refine W.eq (g2 := F0 m 4 ls []) rfl ?_
  refine lv_aload_n hx hb dX2_init_4 rfl (lv_at hl 0 rfl) ?_
  refine lv_bipush (v := 6) hx hb dX2_init_5 (by decide) ?_
  refine va_newq (C := RX1) (N' := 6) hx hb hown (htg _ gw_cWR) hK.2.1 hK.1 hP (hC.D (Nat.le_refl _)) hS hA (by decide) (by decide) (Nat.le_of_ble_eq_true rfl) (Nat.le_of_ble_eq_true rfl) (Nat.le_of_ble_eq_true rfl) dX2_init_7 (fun q cA H hK1 hP hD hS => ?_)
  refine W_sz fun hsz1 => ?_
  obtain rfl : cA = cR := K_obj (k := 1) hK.1 rfl hK1
  obtain ⟨rfl, hC⟩ := hC.new (Nat.le_refl _) hP hD (by rw [hsz] at hsz1; exact hsz1) (hD.2 1 _ rfl)
  have hs1 : H.size = h0 + 2 := hC.2.2
  refine va_putF (T := TX2) (C := RX2) (own := RX2) (N := 8) (ci := 2) (q0 := 0) hx hb htg htl tyX2 tyX2_ok nmX2 hown hK.1 hC.1 hD hS rfl rfl 0 (by decide) (htg _ gw_fW0) (fun x h => h) rfl hin rfl (ty := .array (.object RX1)) rfl rfl rfl (by decide) dX2_init_10 (fun H1 locs1 hP1 hD1 hS1 => ?_)
  refine W_sz fun hsz2 => ?_
  have hlt : h0 + 1 < H1.size := (hP1 1 _ rfl).lt
  have hC := hC.set (k0 := 0) (a := h0) rfl hP1 (by omega) (by omega)
  refine lv_aload_n hx hb dX2_init_13 rfl (lv_at hl 0 rfl) ?_
  refine mk_Q (lo := h0) (ix := 17) (ix2 := 19) hx hb hml hown htg (htg _ gw_cWQ) hK hK.2.2.2.2.1 hC (by omega) hS1 (by show s.heap.size + 1 = h0 + 2; omega) (Nat.le_of_ble_eq_true rfl) (Nat.le_of_ble_eq_true rfl) (Nat.le_of_ble_eq_true rfl) (Nat.le_of_ble_eq_true rfl) dX2_init_14 dX2_init_17 dX2_init_18 hl.1 (Nat.le_of_ble_eq_true rfl) (fun H2 locs2 hC hS2 => ?_)
  have hs2 : H2.size = h0 + 4 := hC.2.2
  refine va_putF (T := TX2) (C := RX2) (own := RX2) (N := 8) (ci := 2) (q0 := 0) hx hb htg htl tyX2 tyX2_ok nmX2 hown hK.1 hC.1 (hC.D (Nat.le_refl _)) hS2 rfl rfl 1 (Nat.le_of_ble_eq_true rfl) (htg _ gw_fW1) (fun x h => h) rfl hin rfl (ty := .object RX0) rfl rfl rfl (Nat.le_of_ble_eq_true rfl) dX2_init_21 (fun H3 locs3 hP3 hD3 hS3 => ?_)
  refine W_sz fun hsz3 => ?_
  have hlt3 : h0 + 3 < H3.size := (hP3 3 _ rfl).lt
  have hC := hC.set (k0 := 0) (a := h0) rfl hP3 (by omega) (by omega)
  refine lv_aload_n hx hb dX2_init_24 rfl (lv_at hl 0 rfl) ?_
  refine lv_iconst (v := -1) hx hb dX2_init_25 (by decide) ?_
  refine va_put (T := TX2) (C := RX2) (own := RX2) (N := 8) (ci := 2) (q0 := 0) hx hb htg htl tyX2 tyX2_ok nmX2 hown hK.1 hC.1 (hC.D (Nat.le_refl _)) hS3 rfl rfl 2 (by decide) (htg _ gw_fW2) (fun x h => h) rfl (ty := .int) rfl rfl rfl (Nat.le_of_ble_eq_true rfl) dX2_init_26 (fun H4 locs4 hP4 hD4 hS4 => ?_)
  refine W_sz fun hsz4 => ?_
  have hs3 : H3.size = h0 + 4 := hC.2.2
  have hlt4 : h0 + 3 < H4.size := (hP4 3 _ rfl).lt
  have hC := hC.set (k0 := 0) (a := h0) rfl hP4 (by omega) (by omega)
  have hC : Ct D (wellH cI cA h0 0) h0 H4 := by
    unfold wellH
    rw [← upr_0]
    exact hC
  refine lv_iconst (v := 0) hx hb dX2_init_29 (by decide) ?_
  refine lv_istore_n (nL := 2) hx hb dX2_init_30 rfl hl (by decide) rfl (fun ls hl => ?_)
  have hl : lv_has ls 2 [(1, .int (Int32.ofNat 0)), (0, .ref h0)] := hl
  have loop : ∀ (f k : Nat) (H : Heap) (locs : List Loc) (ls : Array Slot), k + f = 6 → Ct D (wellH cI cA h0 k) h0 H → va_S (fun q => h0 ≤ q) s.heap H locs → lv_has ls 2 [(1, .int (Int32.ofNat k)), (0, .ref h0)] →
      W p l e (headSpec iw_W ({ frames := 3, cells := 15, slots := 580, locals := 200 })).room s m #[Value.ref h0] below meth c H locs (3 + 2 * k) (520 + 10 * k) (MQ below (i_Q D (wellW cI cA h0) h0) #[Value.ref h0] s 15 580 fun q => h0 ≤ q) (F0 m 31 ls []) := by
    intro f
    induction f with
    | zero =>
      intro k H locs ls hk hC hS hl
      obtain rfl : k = 6 := by omega
      refine lv_iload_n hx hb dX2_init_31 rfl (lv_at hl 0 rfl) ?_
      refine lv_aload_n hx hb dX2_init_32 rfl (lv_at hl 1 rfl) ?_
      refine va_get (T := TX2) (C := RX2) (own := RX2) (N := 8) (ci := 2) (q0 := 0) hx hb htg htl hown hK.1 hC.1 rfl rfl 0 (by decide) (htg _ gw_fW0) (fun x h => h) rfl dX2_init_33 ?_
      refine va_alen (q0 := 1) (t0 := 1) (v := 6) hx hb hK.1 hC.1 rfl rfl rfl dX2_init_36 ?_
      refine lv_icmp_ge (tgt := 59) hx hb dX2_init_37 (by decide) (fun _ => ?_) (fun z => absurd (by decide) z)
      exact W.vret hx hb hr (fun t ht hW => ⟨⟨(), rfl, trivial, by show Ct D _ h0 t.heap; rw [ht]; exact hC⟩, hS.F ht⟩) hS.2.2 dX2_init_59
    | succ f ih =>
      intro k H locs ls hk hC hS hl
      obtain ⟨k1, k2, k3, k4⟩ := well_k k (by omega)
      refine lv_iload_n hx hb dX2_init_31 rfl (lv_at hl 0 rfl) ?_
      refine lv_aload_n hx hb dX2_init_32 rfl (lv_at hl 1 rfl) ?_
      refine va_get (T := TX2) (C := RX2) (own := RX2) (N := 8) (ci := 2) (q0 := 0) hx hb htg htl hown hK.1 hC.1 rfl rfl 0 (by decide) (htg _ gw_fW0) (fun x h => h) rfl dX2_init_33 ?_
      refine va_alen (q0 := 1) (t0 := 1) (v := 6) hx hb hK.1 hC.1 rfl rfl rfl dX2_init_36 ?_
      refine lv_icmp_ge (tgt := 59) hx hb dX2_init_37 (by decide) (fun z => absurd z k1) (fun _ => ?_)
      refine lv_aload_n hx hb dX2_init_40 rfl (lv_at hl 1 rfl) ?_
      refine va_get (T := TX2) (C := RX2) (own := RX2) (N := 8) (ci := 2) (q0 := 0) hx hb htg htl hown hK.1 hC.1 rfl rfl 0 (by decide) (htg _ gw_fW0) (fun x h => h) rfl dX2_init_41 ?_
      refine lv_iload_n hx hb dX2_init_44 rfl (lv_at hl 0 rfl) ?_
      refine mk_R (lo := h0) (ix := 9) (ix2 := 28) hx hb hml hown htg (htg _ gw_cWR) hK hK.2.2.2.2.2 hC (by omega) hS (by rw [wellH_len]; omega) (Nat.le_of_ble_eq_true rfl) (Nat.le_of_ble_eq_true rfl) (by show 3 + 2 * k + 2 ≤ 15; omega) (by show 520 + 10 * k + 10 ≤ 580; omega) dX2_init_45 dX2_init_48 dX2_init_49 hl.1 (Nat.le_of_ble_eq_true rfl) (fun H1 locs1 hC hS1 => ?_)
      rw [wellH_len] at hC ⊢
      have hC : Ct D (wellH cI cA h0 k ++ rowW cI (h0 + (4 + 2 * k))) h0 H1 := hC
      have hrow : (wellH cI cA h0 k ++ rowW cI (h0 + (4 + 2 * k)))[4 + 2 * k]? = some (h0 + (4 + 2 * k), .inr (1, [.ref (h0 + (4 + 2 * k) + 1), .int 0])) := by
        rw [List.getElem?_append_right (by rw [wellH_len]; exact Nat.le_refl _), wellH_len, Nat.sub_self]
        rfl
      refine va_astq (q0 := 1) (t0 := 1) (qk := 4 + 2 * k) (ci := 1) (r := (RX1, TX1, 2)) hx hb hK.1 hC.1 (hC.D (Nat.le_refl _)) hS1 rfl rfl hrow rfl k2 dX2_init_52 (fun H2 locs2 hP2 hD2 hS2 => ?_)
      refine W_sz fun hsz5 => ?_
      have hs1 : H1.size = h0 + (4 + 2 * k + 2) := by
        have := hC.2.2
        rw [List.length_append, wellH_len] at this
        exact this
      have hlt : h0 + (4 + 2 * k) + 1 < H2.size := (hP2 (4 + 2 * k + 1) (h0 + (4 + 2 * k) + 1, .inl (cI, 8, .inl (fun _ => 0))) (by
        rw [List.getElem?_set_ne (by omega), List.getElem?_append_right (by rw [wellH_len]; omega), wellH_len, show 4 + 2 * k + 1 - (4 + 2 * k) = 1 from by omega]
        rfl)).lt
      have hC := hC.set (k0 := 1) (a := h0 + 1) rfl hP2 (by omega) (by omega)
      have hC : Ct D (wellH cI cA h0 (k + 1)) h0 H2 := by
        rw [k3, show h0 + (4 + 2 * k) = h0 + 4 + 2 * k from by omega, upr_up] at hC
        have e : wellH cI cA h0 (k + 1) = (wellH cI cA h0 k ++ rowW cI (h0 + 4 + 2 * k)).set 1 (h0 + 1, .inl (cA, 6, .inr (.inr (.inr (.inr (upr (h0 + 4) (k + 1))))))) := by
          unfold wellH
          rw [List.append_assoc]
          rfl
        rw [e]
        exact hC
      refine lv_iinc (nL := 2) (k := 0) hx hb dX2_init_53 hl rfl k4 (by decide) rfl (fun ls hl => ?_)
      refine lv_goto (tgt := 31) hx hb dX2_init_56 (by decide) ?_
      refine W.widen (k := 3 + 2 * (k + 1)) (n := 520 + 10 * (k + 1)) (by omega) (by omega) ?_
      exact ih (k + 1) H2 locs2 ls (by omega) hC hS2 hl
  exact loop 6 0 H4 locs4 ls rfl hC hS4 hl
