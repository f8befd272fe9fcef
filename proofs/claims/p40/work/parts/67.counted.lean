/-! THE LAW: what is counted -/
theorem up0 {s : Int} {R : Nat → List Int} {v : Nat} : up (0, s, 0, R) (v : Int) = ckt s 0 (min v 100000) := by
  unfold up
  rw [(crs_0 (c := (0, s, 0, R)) rfl).1]
  exact ckt_crs s (v : Int) (by omega)
theorem sm_const (a : Nat) : ∀ n, sm (fun _ => a) n = n * a := by
  intro n
  induction n with
  | zero => exact (Nat.zero_mul a).symm
  | succ n ih =>
    show sm (fun _ => a) n + a = (n + 1) * a
    rw [ih, Nat.succ_mul]
theorem mul_top {a b : Int} (ha : -1 ≤ a ∧ a ≤ 999) (hb : -1 ≤ b ∧ b ≤ 999) : a * b ≤ 998001 := by
  by_cases h0 : 0 ≤ a
  · by_cases h1 : 0 ≤ b
    · exact Int.mul_le_mul ha.2 hb.2 h1 (by omega)
    · obtain rfl : b = -1 := by omega
      omega
  · obtain rfl : a = -1 := by omega
    omega
theorem up_g {kd : Int} {R : Nat → List Int} (hk : kd = 1 ∨ kd = 2 ∨ kd = 4) (hc : cOK (kd, 0, 0, R)) : up (kd, 0, 0, R) 1000000 = (R 0).length * ((R 1).length * (R 2).length) := by
  have h : ∀ j, j < 6 → rOK (R j) := hc.2.2.2.1
  unfold up
  rw [(crs_g (c := (kd, 0, 0, R)) hk).1]
  have e := grid_count (kd := kd) (R := R) 1000000 (fun j hj => h j (by omega))
  refine e.trans ?_
  have hg : ∀ i j k, gnum kd R i j k ≤ 1000000 := by
    intro i j k
    have a := nAt_ok (h 0 (by omega)) (i : Int)
    have b := nAt_ok (h 1 (by omega)) (j : Int)
    have c := nAt_ok (h 2 (by omega)) (k : Int)
    unfold gnum
    split
    · have h1 := mul_top a b
      omega
    · omega
  have e1 : ∀ i j, cK1 kd R 1000000 i j (R 2).length = (R 2).length := by
    intro i j
    unfold cK1
    have : (List.range (R 2).length).countP (fun k => decide (gnum kd R i j k ≤ 1000000)) = (List.range (R 2).length).length := by
      rw [List.countP_eq_length]
      intro k _
      exact decide_eq_true (hg i j k)
    rw [this, List.length_range]
  have e2 : ∀ i, cJ1 kd R 1000000 i (R 1).length = (R 1).length * (R 2).length := by
    intro i
    unfold cJ1
    rw [show (fun j => cK1 kd R 1000000 i j (R 2).length) = (fun _ => (R 2).length) from funext fun j => e1 i j, sm_const]
  unfold cI1
  rw [show (fun i => cJ1 kd R 1000000 i (R 1).length) = (fun _ => (R 1).length * (R 2).length) from funext e2, sm_const]
theorem crs5L {R : Nat → List Int} : crs (5, 0, 0, R) = plist.map (fun p : Nat => (p : Int) * 1025) ∧ (crs (5, 0, 0, R)).length = 109 := by
  rw [crs_5 (c := (5, 0, 0, R)) rfl, List.length_map, plist_len]
  exact ⟨rfl, rfl⟩
theorem nth5 {R : Nat → List Int} {n : Nat} (hn : n < 100) : nthV (crs (5, 0, 0, R)) n = (pAt n : Nat) := by
  obtain ⟨h1, h2⟩ := crs5L (R := R)
  have hp := pAt_mem (n := n) (by omega)
  rw [nthV_in hn (by omega), L5_at h1 (by omega) (by omega)]
  have h3 := hp.1
  generalize pAt n = p at *
  omega
theorem up5 {R : Nat → List Int} (hc : cOK (5, 0, 0, R)) {n : Nat} (hn : n < 100) : up (5, 0, 0, R) ((pAt n : Nat) : Int) = n + 1 := by
  obtain ⟨h1, h2⟩ := crs5L (R := R)
  have hs := crs_srt hc
  have a := cnt_ge (n := n + 1) (L := crs (5, 0, 0, R)) hs (by omega) (by omega)
  have b := cnt_lt (n := n + 2) (L := crs (5, 0, 0, R)) hs (by omega) (by omega)
  have l1 : lastK (n + 1) (crs (5, 0, 0, R)) / 1024 = ((pAt n : Nat) : Int) := by
    rw [lastK_s (by omega), L5_at h1 (by omega) (by omega)]
    have h3 := (pAt_mem (n := n) (by omega)).1
    generalize pAt n = p at *
    omega
  have l2 : lastK (n + 2) (crs (5, 0, 0, R)) / 1024 = ((pAt (n + 1) : Nat) : Int) := by
    rw [lastK_s (show n + 1 < (crs (5, 0, 0, R)).length by omega), L5_at h1 (by omega) (by omega)]
    have h3 := (pAt_mem (n := n + 1) (by omega)).1
    generalize pAt (n + 1) = p at *
    omega
  have hlt := pAt_lt (m := n) (n := n + 1) (by omega) (by omega)
  rw [l1] at a
  rw [l2] at b
  have hm : (crs (5, 0, 0, R)).countP (fun x => decide (x / 1024 ≤ ((pAt n : Nat) : Int))) ≤ (crs (5, 0, 0, R)).countP (fun x => decide (x / 1024 ≤ ((pAt (n + 1) : Nat) : Int) - 1)) := by
    refine List.countP_mono_left fun x _ hx => ?_
    have hx := of_decide_eq_true hx
    refine decide_eq_true ?_
    clear a b l1 l2
    generalize pAt n = p at *
    generalize pAt (n + 1) = q at *
    omega
  unfold up
  omega
theorem CTail {d w : Nat} {x y z : Int} {H : HS} {M : AMem} {Q : Option AV → AMem → Prop} (hw5 : w < 5) (hH : HIs M H) (h : ∀ M' H', HIs M' H' → Q (some (vI 1)) M') : CallI (d + 39) m_L_below [vI x, vI 6] M (fun y14 M13 => CallI (d + 39) m_L_below [vI y, vI 6] M13 (fun y16 M15 => CallI (d + 39) m_L_below [vI z, vI 6] M15 (fun y18 M17 => CallI (d + 39) m_H_rowSize [vR 3 0, vI y14] M17 (fun y20 M19 => CallI (d + 39) m_H_rowSize [vR 3 0, vI y16] M19 (fun y22 M21 => CallI (d + 39) m_H_sums [vR 3 0, vI (w : Int), vI y14, vI y16] M21 (fun y24 M23 => CallI (d + 39) m_H_upTo [vR 3 0, vI (w : Int), vI 1000000] M23 (fun y26 M25 => ((wI y26 = wI (y20 * y22)) → CallI (d + 39) m_H_table [vR 3 0, vI (w : Int), vI y14, vI y16] M25 (fun y28 M27 => CallI (d + 39) m_H_upTo [vR 3 0, vI (w : Int), vI 1000000] M27 (fun y30 M29 => ((wI y30 = wI (y20 * y22)) → CallI (d + 39) m_H_triples [vR 3 0, vI (w : Int), vI y14, vI y16, vI y18] M29 (fun y32 M31 => CallI (d + 39) m_H_upTo [vR 3 0, vI (w : Int), vI 1000000] M31 (fun y34 M33 => CallI (d + 39) m_H_rowSize [vR 3 0, vI y18] M33 (fun y36 M35 => ((wI y34 = wI ((y20 * y22) * y36)) → CallI (d + 39) m_H_primes [vR 3 0, vI (w : Int)] M35 (fun y38 M37 => CallI (d + 39) m_L_below [vI (opShr y 3), vI 100] M37 (fun y40 M39 => CallI (d + 39) m_H_nth [vR 3 0, vI (w : Int), vI y40] M39 (fun y42 M41 => CallI (d + 39) m_L_isPrime [vI y42] M41 (fun y44 M43 => ((wI y44 = 0) → Q (some (vI 0)) M43) ∧ (¬ (wI y44 = 0) → CallI (d + 39) m_H_upTo [vR 3 0, vI (w : Int), vI y42] M43 (fun y46 M45 => ((¬ wI y46 = wI (y40 + 1)) → Q (some (vI 0)) M45) ∧ (¬ (¬ wI y46 = wI (y40 + 1)) → Q (some (vI 1)) M45)))))))) ∧ (¬ (wI y34 = wI ((y20 * y22) * y36)) → Q (some (vI 0)) M35))))) ∧ (¬ (wI y30 = wI (y20 * y22)) → Q (some (vI 0)) M29)))) ∧ (¬ (wI y26 = wI (y20 * y22)) → Q (some (vI 0)) M25)))))))) := by
  refine S_below (n := 6) (by omega) (by omega) fun a ha => S_below (n := 6) (by omega) (by omega) fun b hb => S_below (n := 6) (by omega) (by omega) fun c hc => ?_
  refine S_hrowSize (d := d + 29) ha hH (S_hrowSize (d := d + 29) hb hH ?_)
  have rA := (hH.row ha).2.2
  have rB := (hH.row hb).2.2
  have rC := (hH.row hc).2.2
  refine S_hsums (d := d + 29) hw5 ha hb hH fun _ M1 h1 => ?_
  have c1 := (h1.e_wok hw5 hw_at).1
  refine e_upTo (d := d + 19) hw5 hw_at (by omega) h1 (show (1 : Int) ≠ -1 by decide) (fun z => absurd z (show ¬ (1 : Int) = 5 by decide)) ?_
  rw [up_g (Or.inl rfl) c1]
  have e1 : (((g3 (H.1 a) (H.1 b) [0] (cR (H.2.1 w).1) 0).length * ((g3 (H.1 a) (H.1 b) [0] (cR (H.2.1 w).1) 1).length * (g3 (H.1 a) (H.1 b) [0] (cR (H.2.1 w).1) 2).length) : Nat) : Int) = ((H.1 a).length : Int) * ((H.1 b).length : Int) := by
    show (((H.1 a).length * ((H.1 b).length * 1) : Nat) : Int) = _
    rw [Nat.mul_one, Int.natCast_mul]
  rw [e1]
  refine ⟨fun _ => ?_, fun z => absurd rfl z⟩
  refine S_htable (d := d + 29) hw5 ha hb h1 fun _ M2 h2 => ?_
  have c2 := (h2.e_wok hw5 hw_at).1
  refine e_upTo (d := d + 19) hw5 hw_at (by omega) h2 (show (4 : Int) ≠ -1 by decide) (fun z => absurd z (show ¬ (4 : Int) = 5 by decide)) ?_
  rw [up_g (Or.inr (Or.inr rfl)) c2]
  rw [hw_1]
  have e2 : ∀ R, (((g3 (H.1 a) (H.1 b) [0] R 0).length * ((g3 (H.1 a) (H.1 b) [0] R 1).length * (g3 (H.1 a) (H.1 b) [0] R 2).length) : Nat) : Int) = ((H.1 a).length : Int) * ((H.1 b).length : Int) := by
    intro R
    show (((H.1 a).length * ((H.1 b).length * 1) : Nat) : Int) = _
    rw [Nat.mul_one, Int.natCast_mul]
  rw [e2]
  refine ⟨fun _ => ?_, fun z => absurd rfl z⟩
  refine S_htriples (d := d + 29) hw5 ha hb hc h2 fun _ M3 h3 => ?_
  have c3 := (h3.e_wok hw5 hw_at).1
  refine e_upTo (d := d + 19) hw5 hw_at (by omega) h3 (show (2 : Int) ≠ -1 by decide) (fun z => absurd z (show ¬ (2 : Int) = 5 by decide)) ?_
  refine S_hrowSize (d := d + 29) hc h3 ?_
  rw [up_g (Or.inr (Or.inl rfl)) c3]
  rw [hw_1, hw_1, hw_1]
  have e3 : ∀ R, (((g3 (H.1 a) (H.1 b) (H.1 c) R 0).length * ((g3 (H.1 a) (H.1 b) (H.1 c) R 1).length * (g3 (H.1 a) (H.1 b) (H.1 c) R 2).length) : Nat) : Int) = ((H.1 a).length : Int) * ((H.1 b).length : Int) * ((H.1 c).length : Int) := by
    intro R
    show (((H.1 a).length * ((H.1 b).length * (H.1 c).length) : Nat) : Int) = _
    rw [Int.natCast_mul, Int.natCast_mul, Int.mul_assoc]
  rw [e3]
  refine ⟨fun _ => ?_, fun z => absurd rfl z⟩
  refine S_hprimes (d := d + 29) hw5 h3 fun _ M4 h4 => ?_
  have c4 := (h4.e_wok hw5 hw_at).1
  refine S_below (n := 100) (by omega) (by omega) fun n hn => ?_
  refine e_nth (d := d + 29) hw5 hw_at hn h4 (show (5 : Int) ≠ -1 by decide) fun M5 h5 => ?_
  rw [nth5 hn]
  have hp := pAt_mem (n := n) (by omega)
  have hp1 := (isP_iff.mp hp.2).1
  refine S_isPrimeL (by omega) (fun _ => ?_) (fun z => absurd hp.2 z)
  refine ⟨fun z => absurd z (by decide), fun _ => ?_⟩
  refine e_upTo (d := d + 19) hw5 hw_at (by omega) h5 (show (5 : Int) ≠ -1 by decide) (fun _ => by omega) ?_
  rw [up5 c4 hn]
  exact ⟨fun z => absurd rfl z, fun _ => h _ _ h5⟩
theorem S_isCounted {d w : Nat} {x y z : Int} {H : HS} {M : AMem} {Q : Int → AMem → Prop} (hw5 : w < 5) (hH : HIs M H) (h : ∀ M' H', HIs M' H' → Q 1 M') : CallI (d + 40) m_L_isCounted [vR 3 0, vI (w : Int), vI x, vI y, vI z] M Q := by
  have hq : ∀ M' H', HIs M' H' → (fun v M1 => ∃ x, v = some (vI x) ∧ Q x M1) (some (vI 1)) M' := fun M' H' hh => ⟨_, rfl, h _ _ hh⟩
  refine T_L_isCounted_0 ?_
  refine S_below (n := 63) (by omega) (by omega) fun s hs => S_below (n := 3) (by omega) (by omega) fun g _ => ⟨fun _ => ?_, fun _ => ?_⟩
  · refine S_below (n := 2000) (by omega) (by omega) fun v hv => ?_
    rw [show (1 : Int) + (s : Int) = ((1 + s : Nat) : Int) from by omega, show (1 : Int) + (v : Int) = ((1 + v : Nat) : Int) from by omega]
    refine S_hpowers (d := d + 29) hw5 (by omega) hH fun _ M1 h1 => ?_
    refine e_upTo (d := d + 19) hw5 hw_at (by omega) h1 (show (0 : Int) ≠ -1 by decide) (fun z => absurd z (show ¬ (0 : Int) = 5 by decide)) ?_
    have em : (if (100000 : Int) < wI ((1 + v : Nat) : Int) then 100000 else ((1 + v : Nat) : Int)) = ((min (1 + v) 100000 : Nat) : Int) := by
      rw [w_n (by omega)]
      split <;> omega
    rw [em, up0]
    refine S_exp (s := 1 + s) (by omega) 6 0 rfl (d + 32) _ M1 _ (by omega) (by omega) ?_
    exact ⟨fun _ => CTail (d := d) (Q := fun v M1 => ∃ x, v = some (vI x) ∧ Q x M1) hw5 h1 hq, fun z => absurd rfl z⟩
  · refine S_below (n := 1000000) (by omega) (by omega) fun v hv => ?_
    rw [show (1 : Int) + (s : Int) = ((1 + s : Nat) : Int) from by omega, show (1 : Int) + (v : Int) = ((1 + v : Nat) : Int) from by omega]
    refine S_hpowers (d := d + 29) hw5 (by omega) hH fun _ M1 h1 => ?_
    refine e_upTo (d := d + 19) hw5 hw_at (by omega) h1 (show (0 : Int) ≠ -1 by decide) (fun z => absurd z (show ¬ (0 : Int) = 5 by decide)) ?_
    have em : (if (100000 : Int) < wI ((1 + v : Nat) : Int) then 100000 else ((1 + v : Nat) : Int)) = ((min (1 + v) 100000 : Nat) : Int) := by
      rw [w_n (by omega)]
      split <;> omega
    rw [em, up0]
    refine S_exp (s := 1 + s) (by omega) 6 0 rfl (d + 32) _ M1 _ (by omega) (by omega) ?_
    exact ⟨fun _ => CTail (d := d) (Q := fun v M1 => ∃ x, v = some (vI x) ∧ Q x M1) hw5 h1 hq, fun z => absurd rfl z⟩
