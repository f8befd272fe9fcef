def WIs (M : AMem) (w : Nat) (c : CS) (cl n : Nat) (L : List Int) : Prop := M 2 w 2 = cK c ∧ M 2 w 3 = cS c ∧ M 2 w 4 = cF c ∧ M 2 w 5 = cl ∧ M 2 w 6 = n ∧ M 2 w 7 = lastK n L ∧ RW M w (cR c) ∧ QIs M w (wq c n L) ∧ WOK c cl n L
/-- only this well and its queue have changed, not its rows -/
def TF (w : Nat) (M M' : AMem) : Prop := ∀ k i s, ¬ (k = 2 ∧ i = w) → ¬ (k = 0 ∧ i = w) → ¬ (k = 4 ∧ i = w) → M' k i s = M k i s
theorem TF.rf {w : Nat} {M : AMem} : TF w M M := fun _ _ _ _ _ _ => rfl
theorem TF.tr {w : Nat} {M M1 M2 : AMem} (h1 : TF w M M1) (h2 : TF w M1 M2) : TF w M M2 := fun k i s a b c => (h2 k i s a b c).trans (h1 k i s a b c)
theorem QF.tf {w : Nat} {M M' : AMem} (h : QF w M M') : TF w M M' := fun k i s _ b c => h k i s b c
theorem TF.aup {w j : Nat} {M : AMem} {z : Int} : TF w M (aup M 2 w j z) := fun k i s a _ _ => aup_n (fun q => a ⟨q.1, q.2.1⟩)
theorem TF.rows {w v : Nat} {M M' : AMem} {R : Nat → List Int} (h : TF w M M') (hR : RW M v R) : RW M' v R := fun j hj => (hR j hj).congr (h 1 _ 1 (by omega) (by omega) (by omega)) (fun s => h 5 _ s (by omega) (by omega) (by omega))
theorem QIs.aup2 {M : AMem} {w v j : Nat} {z : Int} {F : List Int} (h : QIs M w F) : QIs (aup M 2 v j z) w F := h.congr (aup_n (by omega)) (fun s => aup_n (by omega))
theorem lastK_s {n : Nat} {L : List Int} (h : n < L.length) : lastK (n + 1) L = L[n] := by
  unfold lastK
  rw [if_neg (by omega)]
  simp [List.getD, h]
theorem dv8 (x : Int) (h : 0 ≤ x) (h2 : x < 1024) : Int.tdiv (wI x) 64 = x / 64 ∧ Int.tmod (wI (Int.tdiv (wI x) 8)) 8 = x / 8 % 8 ∧ Int.tmod (wI x) 8 = x % 8 := by
  have e : wI x = x := wI_eq (by omega) (by omega)
  rw [e, td_pos _ h, td_pos _ h, tm_pos _ h, wI_eq (show -2147483648 ≤ x / 8 by omega) (by omega), tm_pos _ (by omega)]
  exact ⟨rfl, rfl, rfl⟩
set_option maxRecDepth 20000 in
/-- tell, but of the primes -/
theorem S_tell {d w cl n : Nat} {c : CS} {L : List Int} {M : AMem} {Q : Int → AMem → Prop} (hw : w < 7) (hW : WIs M w c cl n L) (h5 : cK c ≠ 5) (hn : n < 100) (hl : n < L.length)
    (h : ∀ M', WIs M' w c cl (n + 1) L → TF w M M' → Q (L[n] / 1024) M') : CallI (d + 4) m_W_tell [vR 2 w] M Q := by
  obtain ⟨w2, w3, w4, w5, w6, w7, wR, wQ, wO⟩ := id hW
  have hCL := (wO.2.2.2.2.2.1 h5).1
  have hc := wO.1
  have hmem : L[n] ∈ crs c := wO.sub _ (List.getElem_mem hl)
  have hok := crs_ok hc hmem
  have hkk : kOK L[n] := ⟨hok.1, by omega⟩
  have e2 : wI (cK c) = cK c := wI_eq (by have := hc.1; omega) (by have := hc.1; omega)
  have hwq : wq c n L = fro (cpar c) L n := if_neg h5
  rw [hwq] at wQ
  have hlen := (wq_len wO).2
  rw [hwq] at hlen
  have hhead := fro_head hCL hl
  have hlel : ((fro (cpar c) L n).erase L[n]).length ≤ 501 := Nat.le_trans (List.length_erase_le) hlen
  have hkids := wO.kids h5 hl
  have hperm := fro_step hCL hl hkids.1 hkids.2
  refine T_W_tell_0 (ok2 hw) ?_
  rw [w2, e2, w6]
  refine ⟨fun _ => ?_, fun z => absurd h5 z⟩
  refine S_pop hw wQ.aup2 hhead (fun x hx => fro_le hCL.1 hl hx) (fun M1 q1 q2 => ?_)
  have t1 : TF w M M1 := fun k i s a b c => (q2 k i s (fun z => b ⟨z.1, z.2.1⟩) (fun z => c ⟨z.1, z.2.1⟩) (fun z => c ⟨z.1, z.2.1⟩)).trans (aup_n (fun z => a ⟨z.1, z.2.1⟩))
  have f1 : ∀ s, s ≠ 6 → M1 2 w s = M 2 w s := fun s hs => (q2 2 w s (by omega) (by omega) (by omega)).trans (aup_n (by omega))
  have f6 : M1 2 w 6 = (n : Int) + 1 := (q2 2 w 6 (by omega) (by omega) (by omega)).trans (aup_s _ _ _ _ _)
  refine S_numberOf hkk ?_
  rw [aup_s]
  refine S_tagOf hkk ?_
  have t2 : TF w M (aup M1 2 w 7 L[n]) := t1.tr TF.aup
  have g : ∀ s, s ≠ 6 → s ≠ 7 → (aup M1 2 w 7 L[n]) 2 w s = M 2 w s := fun s a b => (aup_n (by omega)).trans (f1 s a)
  have g6 : (aup M1 2 w 7 L[n]) 2 w 6 = (n : Int) + 1 := (aup_n (by omega)).trans f6
  have g7 : (aup M1 2 w 7 L[n]) 2 w 7 = L[n] := aup_s _ _ _ _ _
  have gR : RW (aup M1 2 w 7 L[n]) w (cR c) := t2.rows wR
  have gQ : QIs (aup M1 2 w 7 L[n]) w ((fro (cpar c) L n).erase L[n]) := q1.aup2
  generalize (aup M1 2 w 7 L[n]) = M2 at t2 g g6 g7 gR gQ ⊢
  rw [g 2 (by omega) (by omega), w2, e2]
  have fin : ∀ M3, QIs M3 w (ckids c L[n] ++ (fro (cpar c) L n).erase L[n]) → QF w M2 M3 → Q (L[n] / 1024) M3 := by
    intro M3 p1 p2
    refine h M3 ⟨p2.wl.trans ((g 2 (by omega) (by omega)).trans w2), p2.wl.trans ((g 3 (by omega) (by omega)).trans w3), p2.wl.trans ((g 4 (by omega) (by omega)).trans w4), p2.wl.trans ((g 5 (by omega) (by omega)).trans w5), p2.wl.trans g6, ?_, p2.rows gR, ?_, wO.tell hn hl⟩ (t2.tr p2.tf)
    · rw [lastK_s hl]
      exact p2.wl.trans g7
    · rw [show wq c (n + 1) L = fro (cpar c) L (n + 1) from if_neg h5]
      exact p1.perm hperm
  obtain ⟨d1, d2, d3⟩ := dv8 (L[n] % 1024) (by omega) (by omega)
  rw [d1, d2, d3]
  clear d1 d2 d3 e2
  obtain ⟨s, es, es2⟩ := hc.set
  refine ⟨fun c0 => ⟨fun c3 => ?_, fun c3 => ?_⟩, fun c0 => ?_⟩
  · -- a grid
    have km : cK c ≠ -1 := fun z => by rw [crs_e z] at hmem; cases hmem
    have kg : cK c = 1 ∨ cK c = 2 ∨ cK c = 4 := by have := hc.1; omega
    have hmem2 := hmem
    rw [(crs_g kg).1] at hmem2
    obtain ⟨t, t1', t2', t3⟩ := (mem_gcrs _).mp hmem2
    have hd : tdec L[n] = t := by rw [t3]; exact (grid_GH (kd := cK c) (R := cR c) (fun j hj => hc.2.2.2.1 j (by omega))).1 t t1' t2'
    have hck : ckids c L[n] = (gkids (cR c) t).map (gkey (cK c) (cR c)) := by
      unfold ckids
      rw [if_neg c0, if_neg c3, hd]
    rw [hck] at fin
    have ht : L[n] % 1024 = (t : Int) := by unfold tdec at hd; omega
    rw [ht]
    have a1 : (t : Int) / 64 = ((tI t : Nat) : Int) := by unfold tI; omega
    have a2 : (t : Int) / 8 % 8 = ((tJ t : Nat) : Int) := by unfold tJ; omega
    have a3 : (t : Int) % 8 = ((tK t : Nat) : Int) := by unfold tK; omega
    rw [a1, a2, a3]
    exact S_offerNeighbours hw ((g 2 (by omega) (by omega)).trans w2) hc.1 gR t2' gQ (by omega) (fun M3 p1 p2 => ⟨_, rfl, fin M3 p1 p2⟩)
  · -- merged
    have k3 : cK c = 3 := Classical.not_not.mp c3
    have hmem2 := hmem
    rw [(crs_3 k3).1] at hmem2
    obtain ⟨t, t1', t2', t3⟩ := (mem_gcrs _).mp hmem2
    have hd : tdec L[n] = t := by rw [t3]; exact (merged_GH (s := cS c) (fl := cF c) hc.2.2.2.1).1 t t1' t2'
    have hck : ckids c L[n] = (mkids (cS c) (cF c) (cR c) t).map (mkey (cF c) (cR c)) := by
      unfold ckids
      rw [if_neg c0, if_pos k3, hd]
    rw [hck] at fin
    have ht : L[n] % 1024 = (t : Int) := by unfold tdec at hd; omega
    rw [ht]
    have a1 : (t : Int) / 64 = ((tI t : Nat) : Int) := by unfold tI; omega
    have a2 : (t : Int) / 8 % 8 = ((tJ t : Nat) : Int) := by unfold tJ; omega
    rw [a1, a2]
    obtain ⟨b1, b2, b3, b4⟩ := mval_iff.mp t2'
    refine S_rankOf hw ((g 4 (by omega) (by omega)).trans w4) hc.2.2.1 b2 ?_
    rw [show ((tJ t : Nat) : Int) + 1 = ((tJ t + 1 : Nat) : Int) from rfl]
    have hj8 : tJ t < 8 := by unfold tJ; omega
    have hr := rk_lt (fl := cF c) b2
    have hkey : (rk (cF c) (rk (cF c) (tI t)) * 8 + (tJ t + 1)) * 8 = t + 8 := by
      rw [rk_rk b2]
      unfold tI tJ tK at *
      omega
    refine S_offerRow hw (((g 3 (by omega) (by omega)).trans w3).trans es) es2 ((g 4 (by omega) (by omega)).trans w4) hc.2.2.1 gR hr (by omega) gQ (by omega) (fun m1 m2 M3 p1 p2 => ⟨_, rfl, fin M3 ?_ p2⟩) (fun m1 => ⟨_, rfl, fin M2 ?_ QF.rf⟩)
    · unfold mkids
      rw [if_pos m2]
      rw [hkey] at p1
      exact p1
    · unfold mkids
      rw [if_neg (fun z => m1 ⟨by rw [← es]; exact b3, z⟩)]
      exact gQ
  · -- powers
    have k0 : cK c = 0 := Classical.not_not.mp c0
    have hmem2 := hmem
    rw [(crs_0 k0).1] at hmem2
    obtain ⟨t, t1', t2', t3⟩ := (mem_gcrs _).mp hmem2
    have hd : pdec L[n] = t := by rw [t3]; exact (powers_GH (cS c)).1 t t1' t2'
    have hck : ckids c L[n] = (pkids (cS c) t).map pkey := by
      unfold ckids
      rw [if_pos k0, hd]
    rw [hck, es] at fin
    have hg6 := tgb_lt t
    have ht : L[n] % 1024 = ((tgb t : Nat) : Int) := by rw [t3]; unfold pkey; omega
    have ht2 : L[n] / 1024 = (t : Int) := by rw [t3]; unfold pkey; omega
    rw [ht]
    rw [ht2] at fin ⊢
    exact S_offerProducts hw (((g 3 (by omega) (by omega)).trans w3).trans es) es2 (by omega) gQ (by omega) (fun M3 p1 p2 => ⟨_, rfl, fin M3 p1 p2⟩)
