/-! THE LAW: the loop over merged rows -/
theorem M65 {d w v r s : Nat} {fl : Int} {R : Nat → List Int} {cl' : Nat} {Q : Option AV → AMem → Prop} (hw5 : w < 5) (hv5 : v < 5) (hwv : w ≠ v) (hr6 : r < 6) (hfl : fl = 0 ∨ fl = 1) (hc : cOK (3, (s : Int), fl, R)) (h48 : (crs (3, (s : Int), fl, R)).length ≤ 48) (h : ∀ M' H', HIs M' H' → Q (some (vI 1)) M') :
    ∀ (f k : Nat) (u : Int) (M : AMem) (H : HS) (u8 u9 u10 u11 : Option AV), k + f = 49 → k ≤ (crs (3, (s : Int), fl, R)).length → HIs M H → H.2.1 w = ((3, (s : Int), fl, R), 0, k, crs (3, (s : Int), fl, R)) →
      H.2.1 v = ((3, (s : Int), fl, R), cl', (((crs (3, (s : Int), fl, R)).take k).filter (fun x => decide (¬ rowOf (3, (s : Int), fl, R) x = r))).length, (crs (3, (s : Int), fl, R)).filter (fun x => decide (¬ rowOf (3, (s : Int), fl, R) x = r))) →
      (-1 ≤ u ∧ u < 100000000) → (∀ i (hi : i < (crs (3, (s : Int), fl, R)).length), k ≤ i → u < now (crs (3, (s : Int), fl, R))[i]) →
      RunQ (d + 40) m_L_isMerged 65 [some (vR 3 0), some (vI (w : Int)), some (vI (v : Int)), some (vI (s : Int)), some (vI fl), some (vI (r : Int)), some (vI u), some (vI (k : Int)), u8, u9, u10, u11] [] M Q := by
  intro f
  induction f with
  | zero =>
    intro k u M H u8 u9 u10 u11 hf hkl
    omega
  | succ f ih =>
    intro k u M H u8 u9 u10 u11 hf hkl hH ew ev hu1 hu
    refine T_L_isMerged_65 ?_
    rw [w_n (show k < 2147483648 by omega)]
    refine ⟨fun z => by omega, fun _ => ?_⟩
    refine e_draw (d := d + 29) hw5 ew hH fun M1 h1 => ?_
    by_cases hl : k < (crs (3, (s : Int), fl, R)).length
    · have hm := List.getElem_mem hl
      have hb := ix3 hc hm
      have hnb := now_b hc hm
      have hnx : nxt k (crs (3, (s : Int), fl, R)) = k + 1 := if_pos ⟨by omega, hl⟩
      rw [hnx] at h1
      rw [pek_in (by omega) hl, wI_eq (z := (crs (3, (s : Int), fl, R))[k] / 1024) (by omega) (by omega)]
      have hp4 := lpl3 (s := s) (fl := fl) (R := R) hl
      refine ⟨fun _ => ?_, fun z => absurd (fun z => by omega) z⟩
      refine e_ofWell (q := 4) (d := d + 29) hw5 (hw_at) (by omega) h1 ?_
      refine e_ofWell (q := 5) (d := d + 29) hw5 (hw_at) (by omega) h1 ?_
      have e4 : ofW (3, (s : Int), fl, R) 0 (k + 1) (crs (3, (s : Int), fl, R)) 4 = ((rowOf (3, (s : Int), fl, R) (crs (3, (s : Int), fl, R))[k] : Nat) : Int) := hp4.1
      have e5 : ofW (3, (s : Int), fl, R) 0 (k + 1) (crs (3, (s : Int), fl, R)) 5 = ((tJ (tdec (crs (3, (s : Int), fl, R))[k]) : Nat) : Int) := hp4.2
      rw [e4, e5]
      have hro : rowOf (3, (s : Int), fl, R) (crs (3, (s : Int), fl, R))[k] < 6 := rk_lt hb.1
      have ev1 : (hw H w ((3, (s : Int), fl, R), 0, k + 1, crs (3, (s : Int), fl, R))).2.1 v = ((3, (s : Int), fl, R), cl', (((crs (3, (s : Int), fl, R)).take k).filter (fun x => decide (¬ rowOf (3, (s : Int), fl, R) x = r))).length, (crs (3, (s : Int), fl, R)).filter (fun x => decide (¬ rowOf (3, (s : Int), fl, R) x = r))) := by
        rw [hw_ne (fun z => hwv z.symm)]
        exact ev
      have hun := hu k hl (Nat.le_refl k)
      have hu2 : ∀ i (hi : i < (crs (3, (s : Int), fl, R)).length), k + 1 ≤ i → now (crs (3, (s : Int), fl, R))[k] < now (crs (3, (s : Int), fl, R))[i] := fun i hi hki => now_lt hc hm (List.getElem_mem hi) (srt_lt (crs_srt hc) hi (by omega))
      have core : ((wI u < wI (now (crs (3, (s : Int), fl, R))[k])) → ((¬ wI ((rowOf (3, (s : Int), fl, R) (crs (3, (s : Int), fl, R))[k] : Nat) : Int) = wI (r : Int)) → CallI (d + 39) m_H_draw [vR 3 0, vI (v : Int)] M1 (fun y8 M7 => ((¬ wI y8 = (crs (3, (s : Int), fl, R))[k] / 1024) → Q (some (vI 0)) M7) ∧ (¬ (¬ wI y8 = (crs (3, (s : Int), fl, R))[k] / 1024) → CallI (d + 39) m_H_ofWell [vR 3 0, vI (v : Int), vI 4] M7 (fun y10 M9 => ((¬ wI y10 = wI ((rowOf (3, (s : Int), fl, R) (crs (3, (s : Int), fl, R))[k] : Nat) : Int)) → Q (some (vI 0)) M9) ∧ (¬ (¬ wI y10 = wI ((rowOf (3, (s : Int), fl, R) (crs (3, (s : Int), fl, R))[k] : Nat) : Int)) → CallI (d + 39) m_H_ofWell [vR 3 0, vI (v : Int), vI 5] M9 (fun y12 M11 => ((wI y12 = wI ((tJ (tdec (crs (3, (s : Int), fl, R))[k]) : Nat) : Int)) → RunQ (d + 40) m_L_isMerged 65 [some (vR 3 0), some (vI (w : Int)), some (vI (v : Int)), some (vI (s : Int)), some (vI fl), some (vI (r : Int)), some (vI (now (crs (3, (s : Int), fl, R))[k])), some (vI ((k + 1 : Nat) : Int)), some (vI ((crs (3, (s : Int), fl, R))[k] / 1024)), some (vI ((rowOf (3, (s : Int), fl, R) (crs (3, (s : Int), fl, R))[k] : Nat) : Int)), some (vI ((tJ (tdec (crs (3, (s : Int), fl, R))[k]) : Nat) : Int)), some (vI (now (crs (3, (s : Int), fl, R))[k]))] [] M11 Q) ∧ (¬ (wI y12 = wI ((tJ (tdec (crs (3, (s : Int), fl, R))[k]) : Nat) : Int)) → Q (some (vI 0)) M11))))))) ∧ (¬ (¬ wI ((rowOf (3, (s : Int), fl, R) (crs (3, (s : Int), fl, R))[k] : Nat) : Int) = wI (r : Int)) → RunQ (d + 40) m_L_isMerged 65 [some (vR 3 0), some (vI (w : Int)), some (vI (v : Int)), some (vI (s : Int)), some (vI fl), some (vI (r : Int)), some (vI (now (crs (3, (s : Int), fl, R))[k])), some (vI ((k + 1 : Nat) : Int)), some (vI ((crs (3, (s : Int), fl, R))[k] / 1024)), some (vI ((rowOf (3, (s : Int), fl, R) (crs (3, (s : Int), fl, R))[k] : Nat) : Int)), some (vI ((tJ (tdec (crs (3, (s : Int), fl, R))[k]) : Nat) : Int)), some (vI (now (crs (3, (s : Int), fl, R))[k]))] [] M1 Q)) ∧ (¬ (wI u < wI (now (crs (3, (s : Int), fl, R))[k])) → Q (some (vI 0)) M1) := by
        rw [wI_eq (z := u) (by omega) (by omega), wI_eq (z := now (crs (3, (s : Int), fl, R))[k]) (by omega) (by omega), w_n (show r < 2147483648 by omega), w_n (show rowOf (3, (s : Int), fl, R) (crs (3, (s : Int), fl, R))[k] < 2147483648 by omega)]
        have hfu := filter_up (L := crs (3, (s : Int), fl, R)) (p := fun x => decide (¬ rowOf (3, (s : Int), fl, R) x = r)) hl
        refine ⟨fun _ => ⟨fun zr => ?_, fun zr => ?_⟩, fun z => absurd hun z⟩
        · have hpx : (fun x => decide (¬ rowOf (3, (s : Int), fl, R) x = r)) (crs (3, (s : Int), fl, R))[k] = true := decide_eq_true (fun z => zr (by rw [z]))
          rw [if_pos hpx] at hfu
          obtain ⟨hfl1, hfl2⟩ := filter_at (p := fun x => decide (¬ rowOf (3, (s : Int), fl, R) x = r)) hl hpx
          have hlt : (((crs (3, (s : Int), fl, R)).take k).filter (fun x => decide (¬ rowOf (3, (s : Int), fl, R) x = r))).length < 100 := by
            have h1 := List.length_filter_le (fun x => decide (¬ rowOf (3, (s : Int), fl, R) x = r)) ((crs (3, (s : Int), fl, R)).take k)
            rw [List.length_take] at h1
            omega
          refine e_draw (d := d + 29) hv5 ev1 h1 fun M2 h2 => ?_
          rw [pek_in hlt hfl1, hfl2, wI_eq (z := (crs (3, (s : Int), fl, R))[k] / 1024) (by omega) (by omega)]
          have hnx2 : nxt (((crs (3, (s : Int), fl, R)).take k).filter (fun x => decide (¬ rowOf (3, (s : Int), fl, R) x = r))).length ((crs (3, (s : Int), fl, R)).filter (fun x => decide (¬ rowOf (3, (s : Int), fl, R) x = r))) = (((crs (3, (s : Int), fl, R)).take k).filter (fun x => decide (¬ rowOf (3, (s : Int), fl, R) x = r))).length + 1 := if_pos ⟨hlt, hfl1⟩
          rw [hnx2] at h2
          refine ⟨fun z => absurd rfl z, fun _ => ?_⟩
          have hq4 := lpl3 (s := s) (fl := fl) (R := R) hfl1
          refine e_ofWell (q := 4) (d := d + 29) hv5 (hw_at) (by omega) h2 ?_
          rw [show ofW (3, (s : Int), fl, R) cl' ((((crs (3, (s : Int), fl, R)).take k).filter (fun x => decide (¬ rowOf (3, (s : Int), fl, R) x = r))).length + 1) ((crs (3, (s : Int), fl, R)).filter (fun x => decide (¬ rowOf (3, (s : Int), fl, R) x = r))) 4 = _ from hq4.1, hfl2, w_n (show rowOf (3, (s : Int), fl, R) (crs (3, (s : Int), fl, R))[k] < 2147483648 by omega)]
          refine ⟨fun z => absurd rfl z, fun _ => ?_⟩
          refine e_ofWell (q := 5) (d := d + 29) hv5 (hw_at) (by omega) h2 ?_
          rw [show ofW (3, (s : Int), fl, R) cl' ((((crs (3, (s : Int), fl, R)).take k).filter (fun x => decide (¬ rowOf (3, (s : Int), fl, R) x = r))).length + 1) ((crs (3, (s : Int), fl, R)).filter (fun x => decide (¬ rowOf (3, (s : Int), fl, R) x = r))) 5 = _ from hq4.2, hfl2]
          refine ⟨fun _ => ?_, fun z => absurd rfl z⟩
          refine ih (k + 1) _ M2 _ _ _ _ _ (by omega) (by omega) h2 (by rw [hw_ne hwv, hw_at]) (by rw [hw_at, hfu]) (by omega) hu2
        · have hpx : ¬ (fun x => decide (¬ rowOf (3, (s : Int), fl, R) x = r)) (crs (3, (s : Int), fl, R))[k] = true := fun z => of_decide_eq_true z (by omega)
          rw [if_neg hpx] at hfu
          refine ih (k + 1) _ M1 _ _ _ _ _ (by omega) (by omega) h1 hw_at (by rw [ev1, hfu, Nat.add_zero]) (by omega) hu2
      rcases hfl with hf0 | hf1
      · have en : 64 * ((crs (3, (s : Int), fl, R))[k] / 1024) + 8 * ((rowOf (3, (s : Int), fl, R) (crs (3, (s : Int), fl, R))[k] : Nat) : Int) + ((tJ (tdec (crs (3, (s : Int), fl, R))[k]) : Nat) : Int) = now (crs (3, (s : Int), fl, R))[k] := by
          have er : rowOf (3, (s : Int), fl, R) (crs (3, (s : Int), fl, R))[k] = tI (tdec (crs (3, (s : Int), fl, R))[k]) := by
            unfold rowOf rk
            rw [if_pos (show cF (3, (s : Int), fl, R) = 0 from hf0)]
          rw [er]
          rfl
        rw [en]
        exact ⟨fun _ => core, fun z => absurd (by rw [hf0]; decide) z⟩
      · have en : 64 * ((crs (3, (s : Int), fl, R))[k] / 1024) + 8 * (5 - ((rowOf (3, (s : Int), fl, R) (crs (3, (s : Int), fl, R))[k] : Nat) : Int)) + ((tJ (tdec (crs (3, (s : Int), fl, R))[k]) : Nat) : Int) = now (crs (3, (s : Int), fl, R))[k] := by
          have er : rowOf (3, (s : Int), fl, R) (crs (3, (s : Int), fl, R))[k] = 5 - tI (tdec (crs (3, (s : Int), fl, R))[k]) := by
            unfold rowOf rk
            rw [if_neg (fun z => by rw [show cF (3, (s : Int), fl, R) = fl from rfl, hf1] at z; omega)]
          rw [er]
          unfold now
          have := hb.1
          omega
        rw [en]
        exact ⟨fun z => absurd (by rw [hf1]; decide) (fun z2 : ¬ wI fl = 0 => z2 z), fun _ => core⟩
    · have ek : k = (crs (3, (s : Int), fl, R)).length := by omega
      have hd : dry k (crs (3, (s : Int), fl, R)) := Or.inr (by omega)
      have hnx : nxt k (crs (3, (s : Int), fl, R)) = k := if_neg (fun z => hl z.2)
      rw [hnx] at h1
      rw [pek_out hd]
      refine ⟨fun z => absurd (by decide : wI (-9) = -9) z, fun _ => ?_⟩
      have ev2 : (hw H w ((3, (s : Int), fl, R), 0, k, crs (3, (s : Int), fl, R))).2.1 v = ((3, (s : Int), fl, R), cl', (((crs (3, (s : Int), fl, R)).take k).filter (fun x => decide (¬ rowOf (3, (s : Int), fl, R) x = r))).length, (crs (3, (s : Int), fl, R)).filter (fun x => decide (¬ rowOf (3, (s : Int), fl, R) x = r))) := by
        rw [hw_ne (fun z => hwv z.symm)]
        exact ev
      have hd2 : dry (((crs (3, (s : Int), fl, R)).take k).filter (fun x => decide (¬ rowOf (3, (s : Int), fl, R) x = r))).length ((crs (3, (s : Int), fl, R)).filter (fun x => decide (¬ rowOf (3, (s : Int), fl, R) x = r))) := by
        refine Or.inr ?_
        rw [List.take_of_length_le (by omega)]
        exact Nat.le_refl _
      refine e_draw (d := d + 29) hv5 ev2 h1 fun M2 h2 => ?_
      rw [pek_out hd2]
      exact ⟨fun z => absurd (by decide : wI (-9) = -9) z, fun _ => h _ _ h2⟩
theorem M12 {d w v r s : Nat} {fl : Int} {R : Nat → List Int} {Q : Option AV → AMem → Prop} (hw5 : w < 5) (hv5 : v < 5) (hwv : w ≠ v) (hr6 : r < 6) (hs : 1 ≤ s ∧ s < 64) (hfl : fl = 0 ∨ fl = 1) (h : ∀ M' H', HIs M' H' → Q (some (vI 1)) M') :
    ∀ (f k : Nat) (M : AMem) (H : HS), k + 5 * f = 50 → HIs M H → H.1 = R → H.2.1 w = ((3, (s : Int), fl, R), 0, 0, crs (3, (s : Int), fl, R)) →
      RunQ (d + 40) m_L_isMerged 12 [some (vR 3 0), some (vI (w : Int)), some (vI (v : Int)), some (vI (s : Int)), some (vI fl), some (vI (r : Int)), some (vI (k : Int)), none, none, none, none, none] [] M Q := by
  intro f
  induction f with
  | zero =>
    intro k M H hf hH hR ew
    have hc := (hH.e_wok hw5 ew).1
    refine T_L_isMerged_12 ?_
    rw [w_n (show k < 2147483648 by omega)]
    refine ⟨fun _ => ?_, fun z => by omega⟩
    refine e_copy (d := d + 29) hw5 hv5 ew hH fun M1 h1 => ?_
    refine S_hclose (d := d + 29) hv5 hr6 h1 ?_ ?_
    · rw [hw_at]
      intro _ z cl' M2 h2
      dsimp only at h2
      rw [clo_0] at h2
      refine M65 (cl' := cl') hw5 hv5 hwv hr6 hfl hc (len3 (by omega) hfl hc.2.2.2.1) h 49 0 (-1) M2 _ _ _ _ _ rfl (Nat.zero_le _) h2 ?_ ?_ (by omega) ?_
      · rw [hw_ne hwv, hw_ne hwv]
        exact ew
      · rw [hw_at, List.take_zero]
        rfl
      · intro i hi _
        have := (now_b hc (List.getElem_mem hi)).1
        omega
    · rw [hw_at]
      intro z
      exact absurd rfl z
  | succ f ih =>
    intro k M H hf hH hR ew
    have hc := (hH.e_wok hw5 ew).1
    refine T_L_isMerged_12 ?_
    rw [w_n (show k < 2147483648 by omega)]
    refine ⟨fun z => by omega, fun _ => ?_⟩
    refine e_nth (d := d + 29) hw5 ew (by omega) hH (show (3 : Int) ≠ -1 by decide) fun M1 h1 => ?_
    refine S_hleast (d := d + 29) hs (by omega) h1 fun M2 h2 => ?_
    have hR6 : ∀ j, j < 6 → rOK (R j) := hc.2.2.2.1
    rw [hR, nth_same hc (cOK_3 (s := (s : Int)) (fl := 0) (R := R) (by omega) (Or.inl rfl) hR6) (fun v => (up3 hfl hR6).trans (up3 (Or.inl rfl) hR6).symm)]
    exact ⟨fun _ => ih (k + 5) M2 H (by omega) h2 hR ew, fun z => absurd rfl z⟩
theorem S_isMerged {d w v r s : Nat} {fl : Int} {H : HS} {M : AMem} {Q : Int → AMem → Prop} (hw5 : w < 5) (hv5 : v < 5) (hwv : w ≠ v) (hr6 : r < 6) (hs : 1 ≤ s ∧ s < 64) (hfl : fl = 0 ∨ fl = 1) (hH : HIs M H) (h : ∀ M' H', HIs M' H' → Q 1 M') :
    CallI (d + 40) m_L_isMerged [vR 3 0, vI (w : Int), vI (v : Int), vI (s : Int), vI fl, vI (r : Int)] M Q := by
  refine T_L_isMerged_0 (S_hmerge (d := d + 29) hw5 hs hfl hH fun z M1 h1 => ?_)
  exact M12 hw5 hv5 hwv hr6 hs hfl (fun M' H' hh => ⟨_, rfl, h _ _ hh⟩) 10 0 M1 _ rfl h1 rfl hw_at
