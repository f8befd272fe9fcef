/-! THE HOUSE: alike, sound, the checksum -/
theorem crs_srt {c : CS} (h : cOK c) : (crs c).Pairwise (· < ·) := by
  by_cases h5 : cK c = 5
  · rw [crs_5 h5, List.pairwise_map]
    exact plist_sorted.imp (fun {a b} z => by omega)
  · exact (crs_CL h h5).1
theorem gcrs_le (N : Nat) (val : Nat → Bool) (key : Nat → Int) : (gcrs N val key).length ≤ N := by
  have h1 := List.length_filter_le val (List.range N)
  rw [List.length_range] at h1
  rw [gcrs_len]
  exact h1
theorem crs_len {c : CS} (h : cOK c) : (crs c).length ≤ 100001 := by
  have hk := h.1
  by_cases k0 : cK c = 0
  · rw [(crs_0 k0).1]; exact gcrs_le _ _ _
  by_cases k3 : cK c = 3
  · rw [(crs_3 k3).1]; exact Nat.le_trans (gcrs_le _ _ _) (by omega)
  by_cases k5 : cK c = 5
  · rw [crs_5 k5, List.length_map, plist_len]; omega
  by_cases ke : cK c = -1
  · rw [crs_e ke]; exact Nat.zero_le _
  · rw [(crs_g (by omega)).1]; exact Nat.le_trans (gcrs_le _ _ _) (by omega)
theorem climit_le {c : CS} {cl n : Nat} {L : List Int} (h : WOK c cl n L) : climit c n ≤ 10000 := by
  have hn := h.2.1
  have h6 := mems_le (cS c)
  have r0 := (h.1.2.2.2.1 0 (by omega)).1
  have r1 := (h.1.2.2.2.1 1 (by omega)).1
  unfold climit
  have m1 : n * ((mems (cS c)).length - 1) ≤ 100 * 5 := Nat.mul_le_mul hn (by omega)
  split
  · omega
  split
  · omega
  split
  · omega
  split <;> omega
theorem last_at {n : Nat} {L : List Int} (h0 : n ≠ 0) (h : n ≤ L.length) : lastK n L = L[n - 1]'(by omega) := by
  unfold lastK
  rw [if_neg h0, List.getD_eq_getElem?_getD, List.getElem?_eq_getElem (show n - 1 < L.length by omega)]
  rfl
theorem cnt_ge {n : Nat} {L : List Int} (hs : L.Pairwise (· < ·)) (h0 : n ≠ 0) (h : n ≤ L.length) : n ≤ L.countP (fun x => decide (x / 1024 ≤ lastK n L / 1024)) := by
  have e : L.countP (fun x => decide (x / 1024 ≤ lastK n L / 1024)) = (L.take n).countP (fun x => decide (x / 1024 ≤ lastK n L / 1024)) + (L.drop n).countP (fun x => decide (x / 1024 ≤ lastK n L / 1024)) := by
    rw [← List.countP_append, List.take_append_drop]
  have e2 : (L.take n).countP (fun x => decide (x / 1024 ≤ lastK n L / 1024)) = (L.take n).length := by
    rw [List.countP_eq_length]
    intro x hx
    obtain ⟨i, hi, ex⟩ := List.mem_iff_getElem.mp hx
    rw [List.length_take] at hi
    rw [List.getElem_take] at ex
    rw [last_at h0 h, ← ex]
    refine decide_eq_true ?_
    by_cases e3 : i = n - 1
    · rw [show L[i] = L[n - 1]'(by omega) from by congr 1]
      exact Int.le_refl _
    · have := srt_lt hs (i := i) (j := n - 1) (by omega) (by omega)
      omega
  rw [List.length_take] at e2
  omega
theorem cnt_lt {n : Nat} {L : List Int} (hs : L.Pairwise (· < ·)) (h0 : n ≠ 0) (h : n ≤ L.length) : L.countP (fun x => decide (x / 1024 ≤ lastK n L / 1024 - 1)) < n := by
  have e : L.countP (fun x => decide (x / 1024 ≤ lastK n L / 1024 - 1)) = (L.take (n - 1)).countP (fun x => decide (x / 1024 ≤ lastK n L / 1024 - 1)) + (L.drop (n - 1)).countP (fun x => decide (x / 1024 ≤ lastK n L / 1024 - 1)) := by
    rw [← List.countP_append, List.take_append_drop]
  have e2 : (L.drop (n - 1)).countP (fun x => decide (x / 1024 ≤ lastK n L / 1024 - 1)) = 0 := by
    rw [List.countP_eq_zero]
    intro x hx
    have := ((mem_drop hs (show n - 1 < L.length by omega) x).mp hx).2
    rw [last_at h0 h]
    intro z
    have := of_decide_eq_true z
    omega
  have e3 : (L.take (n - 1)).countP (fun x => decide (x / 1024 ≤ lastK n L / 1024 - 1)) ≤ (L.take (n - 1)).length := List.countP_le_length
  rw [List.length_take] at e3
  omega
theorem alike_loop {d : Nat} {H : HS} {Q : Option AV → AMem → Prop} {c c' : CS} {cl cl' : Nat} {L : List Int} (h : ∀ M', HIs M' H → Q (some (vI 1)) M') :
    ∀ (f p n : Nat) (M : AMem), p + f = 8 → HIs M H → WIs M 5 c cl n L → WIs M 6 c' cl' n L → RunQ (d + 6) m_H_doTrialsTellAlike 2 [some (vR 3 0), some (vI (p : Int))] [] M Q := by
  intro f
  induction f with
  | zero =>
    intro p n M hp hH h5 h6
    refine T_H_doTrialsTellAlike_2 ?_
    rw [w_n (show p < 2147483648 by omega)]
    exact ⟨fun _ => h _ hH, fun z => by omega⟩
  | succ f ih =>
    intro p n M hp hH h5 h6
    refine T_H_doTrialsTellAlike_2 ?_
    rw [w_n (show p < 2147483648 by omega)]
    refine ⟨fun _ => h _ hH, fun _ => ?_⟩
    refine S_isDry (by omega) h5 (fun e => ⟨fun _ => ?_, fun z => absurd (by decide : ¬ wI 1 = 0) z⟩) (fun e => ⟨fun z => absurd (by decide : wI 0 = 0) z, fun _ => ?_⟩)
    · refine S_isDry (by omega) h5 (fun _ => ⟨fun z => absurd z (by decide), fun _ => ?_⟩) (fun e1 => absurd e e1)
      exact S_isDry (by omega) h6 (fun _ => ⟨fun z => absurd z (by decide), fun _ => h _ hH⟩) (fun e1 => absurd e e1)
    · refine S_isDry (by omega) h6 (fun e1 => absurd e1 e) (fun _ => ⟨fun _ => ?_, fun z => absurd (by decide : wI 0 = 0) z⟩)
      obtain ⟨a, b⟩ := not_dry e
      refine S_tellA (d := d + 1) (by omega) h5 a b fun M1 q1 f1 => ?_
      refine S_tellA (d := d + 1) (by omega) (f1.fr.well (by omega) h6) a b fun M2 q2 f2 => ?_
      refine ⟨fun _ => ?_, fun z => absurd rfl z⟩
      exact ih (p + 1) (n + 1) M2 (by omega) ((hH.q (Or.inl rfl) f1.fr).q (Or.inr rfl) f2.fr) (f2.fr.well (by omega) q1) q2
theorem S_trials {d n cl cl' : Nat} {c c' : CS} {L : List Int} {H : HS} {M : AMem} {Q : Int → AMem → Prop} (hH : HIs M H) (h5 : WIs M 5 c cl n L) (h6 : WIs M 6 c' cl' n L) (h : ∀ M', HIs M' H → Q 1 M') : CallI (d + 6) m_H_doTrialsTellAlike [vR 3 0] M Q := by
  refine T_H_doTrialsTellAlike_0 ?_
  exact alike_loop (fun M' h' => ⟨_, rfl, h _ h'⟩) 8 0 n M rfl hH h5 h6
theorem S_halike {d w v : Nat} {H : HS} {M : AMem} {Q : Int → AMem → Prop} (hw5 : w < 5) (hv5 : v < 5) (hH : HIs M H) (e : H.2.1 v = H.2.1 w) (h : ∀ M', HIs M' H → Q 1 M') : CallI (d + 10) m_H_isAlike [vR 3 0, vI (w : Int), vI (v : Int)] M Q := by
  refine T_H_isAlike_0 (S_findWell hw5 ⟨ok2 (by omega), S_findWell hv5 ⟨ok2 (by omega), ?_⟩⟩)
  have h2 := hH.well hv5
  rw [e] at h2
  refine S_become (by omega) (by omega) (hH.well hw5) fun M1 q1 f1 => ?_
  refine S_become (by omega) (by omega) (f1.well (by omega) h2) fun M2 q2 f2 => ?_
  refine S_trials (d := d + 3) ((hH.q (Or.inl rfl) f1).q (Or.inr rfl) f2) (f2.well (by omega) q1) q2 fun M' h' => ⟨Or.inr rfl, _, rfl, h _ h'⟩
theorem S_told {d w : Nat} {H : HS} {M : AMem} {Q : Int → AMem → Prop} (hw5 : w < 5) (hH : HIs M H) (hk : cK (H.2.1 w).1 ≠ -1) (h : Q 1 M) : CallI (d + 12) m_H_hasToldNoMoreThanIs [vR 2 w] M Q := by
  have hW := hH.well hw5
  have hc := hH.cR hw5
  obtain ⟨w2, w3, w4, w5, w6, w7, wR, wQ, wO⟩ := id hW
  refine T_H_hasToldNoMoreThanIs_0 (ok2 (by omega)) (S_lastNumber (by omega) hW ?_)
  have hl := lastK_ok wO
  have hn := wO.2.1
  have hlt : -1 ≤ lastN (H.2.1 w).2.2.1 (H.2.1 w).2.2.2 ∧ lastN (H.2.1 w).2.2.1 (H.2.1 w).2.2.2 < 1000000 := by
    unfold lastN
    split <;> omega
  rw [wI_eq (z := lastN _ _) (by omega) (by omega), w5]
  refine ⟨fun _ => ⟨_, rfl, h⟩, fun z1 => ⟨fun _ => ⟨_, rfl, h⟩, fun z2 => ?_⟩⟩
  refine S_canCountTo (by omega) hW (by omega) (fun e => ?_) (fun e => ?_)
  · refine ⟨fun _ => ?_, fun z => absurd (by decide : ¬ wI 1 = 0) z⟩
    refine S_countUpTo (by omega) hW hk (by omega) e.2 ?_
    have e0 : (H.2.1 w).2.1 = 0 := by
      by_cases e3 : (H.2.1 w).2.1 = 0
      · exact e3
      · have := wO.2.2.2.2.2.2 e3
        exact absurd z2 (by rw [w_n (show (H.2.1 w).2.1 < 2147483648 by omega)]; omega)
    have eL := wO.2.2.2.1 e0
    have e1 : (H.2.1 w).2.2.1 ≠ 0 := by
      intro z
      unfold lastN at z1
      rw [if_pos z] at z1
      exact z1 rfl
    have hg := cnt_ge (n := (H.2.1 w).2.2.1) (L := (H.2.1 w).2.2.2) (by rw [eL]; exact crs_srt hc) e1 wO.2.2.1
    unfold lastN
    rw [if_neg e1]
    have hm : (crs (H.2.1 w).1).countP (fun x => decide (x / 1024 ≤ lastK (H.2.1 w).2.2.1 (H.2.1 w).2.2.2 / 1024)) ≤ 2000000000 := by
      have := List.countP_le_length (p := fun x => decide (x / 1024 ≤ lastK (H.2.1 w).2.2.1 (H.2.1 w).2.2.2 / 1024)) (l := crs (H.2.1 w).1)
      have := crs_len hc
      omega
    rw [w_n (by omega), w6, w_n (show (H.2.1 w).2.2.1 < 2147483648 by omega), ← eL]
    exact ⟨fun z => by omega, fun _ => ⟨_, rfl, h⟩⟩
  · exact ⟨fun z => absurd (by decide : wI 0 = 0) z, fun _ => ⟨_, rfl, h⟩⟩
theorem S_rising {d : Nat} {H : HS} {M : AMem} {Q : Int → AMem → Prop} (hH : HIs M H) (h : Q 1 M) : CallI (d + 10) m_H_areRowsRising [vR 3 0] M Q := by
  have loop : ∀ (f r : Nat), r + f = 6 → RunQ (d + 10) m_H_areRowsRising 2 [some (vR 3 0), some (vI (r : Int))] [] M (fun v M1 => ∃ x, v = some (vI x) ∧ Q x M1) := by
    intro f
    induction f with
    | zero =>
      intro r hf
      refine T_H_areRowsRising_2 ?_
      rw [w_n (show r < 2147483648 by omega)]
      exact ⟨fun _ => ⟨_, rfl, h⟩, fun z => by omega⟩
    | succ f ih =>
      intro r hf
      refine T_H_areRowsRising_2 ?_
      rw [w_n (show r < 2147483648 by omega), Int.toNat_natCast]
      refine ⟨fun z => by omega, fun _ => ⟨by omega, ?_⟩⟩
      refine S_isRising (by omega) (hH.row (by omega)) ?_
      exact ⟨fun _ => ih (r + 1) (by omega), fun z => absurd (by decide : ¬ wI 1 = 0) z⟩
  exact T_H_areRowsRising_0 (loop 6 0 rfl)
theorem S_limits {d : Nat} {H : HS} {M : AMem} {Q : Int → AMem → Prop} (hH : HIs M H) (h : Q 1 M) : CallI (d + 10) m_H_areQueuesWithinLimits [vR 3 0] M Q := by
  have loop : ∀ (f w : Nat), w + f = 5 → RunQ (d + 10) m_H_areQueuesWithinLimits 2 [some (vR 3 0), some (vI (w : Int))] [] M (fun v M1 => ∃ x, v = some (vI x) ∧ Q x M1) := by
    intro f
    induction f with
    | zero =>
      intro w hf
      refine T_H_areQueuesWithinLimits_2 ?_
      rw [w_n (show w < 2147483648 by omega)]
      exact ⟨fun _ => ⟨_, rfl, h⟩, fun z => by omega⟩
    | succ f ih =>
      intro w hf
      refine T_H_areQueuesWithinLimits_2 ?_
      rw [w_n (show w < 2147483648 by omega), Int.toNat_natCast]
      refine ⟨fun z => by omega, fun _ => ⟨by omega, by omega, ?_⟩⟩
      have hW := hH.well (show w < 5 by omega)
      refine S_limit (by omega) hW ?_
      have hq := wq_len (hH.wok (show w < 5 by omega))
      have hc := climit_le (hH.wok (show w < 5 by omega))
      rw [hW.2.2.2.2.2.2.2.1.1, w_n (by omega), w_n (by omega)]
      exact ⟨fun _ => ih (w + 1) (by omega), fun z => by omega⟩
  exact T_H_areQueuesWithinLimits_0 (loop 5 0 rfl)
theorem S_isSound {d : Nat} {H : HS} {M : AMem} {Q : Int → AMem → Prop} (hH : HIs M H) (h : ∀ M', HIs M' H → Q 1 M') : CallI (d + 20) m_H_isSound [vR 3 0] M Q := by
  have loop : ∀ (f w : Nat), w + f = 5 → RunQ (d + 20) m_H_isSound 18 [some (vR 3 0), some (vI (w : Int))] [] M (fun v M1 => ∃ x, v = some (vI x) ∧ Q x M1) := by
    intro f
    induction f with
    | zero =>
      intro w hf
      refine T_H_isSound_18 ?_
      rw [w_n (show w < 2147483648 by omega)]
      exact ⟨fun _ => ⟨_, rfl, h _ hH⟩, fun z => by omega⟩
    | succ f ih =>
      intro w hf
      refine T_H_isSound_18 ?_
      rw [w_n (show w < 2147483648 by omega), Int.toNat_natCast]
      refine ⟨fun z => by omega, fun _ => ⟨by omega, ?_⟩⟩
      have hw5 : w < 5 := by omega
      have hW := hH.well hw5
      refine S_isEmpty (by omega) hW (fun e => ?_) (fun e => ?_)
      · exact ⟨fun _ => ih (w + 1) (by omega), fun z => absurd (by decide : ¬ wI 1 = 0) z⟩
      · refine ⟨fun z => absurd (by decide : wI 0 = 0) z, fun _ => ⟨by omega, ?_⟩⟩
        refine S_become (by omega) (by omega) hW fun M1 q1 f1 => ⟨by omega, ?_⟩
        refine S_become (by omega) (by omega) (f1.well (by omega) hW) fun M2 q2 f2 => ?_
        refine S_turnOver (by omega) q2.2.2.2.2.2.2.2.1 fun M3 q3 f3 => ⟨by omega, ?_⟩
        obtain ⟨q4, f4⟩ := q2.turn q3 f3
        have hH3 := ((hH.q (Or.inl rfl) f1).q (Or.inr rfl) f2).q (Or.inr rfl) f4.fr
        refine S_told (d := d + 7) hw5 hH3 e ⟨fun z => absurd z (by decide), fun _ => ?_⟩
        refine S_trials (d := d + 13) hH3 ((f2.tr f4.fr).well (by omega) q1) q4 fun M' h' => ⟨fun z => absurd z (by decide), fun _ => ⟨_, rfl, h _ h'⟩⟩
  refine T_H_isSound_0 (S_rising (d := d + 9) hH ⟨fun z => absurd z (by decide), fun _ => S_limits (d := d + 9) hH ⟨fun _ => loop 5 0 rfl, fun z => absurd (by decide : ¬ wI 1 = 0) z⟩⟩)
