/-- only this well, its queue and its rows have changed -/
def Fr (w : Nat) (M M' : AMem) : Prop := ∀ k i s, ¬ (k = 2 ∧ i = w) → ¬ (k = 0 ∧ i = w) → ¬ (k = 4 ∧ i = w) → ¬ ((k = 1 ∨ k = 5) ∧ i / 6 = w) → M' k i s = M k i s
theorem Fr.rf {w : Nat} {M : AMem} : Fr w M M := fun _ _ _ _ _ _ _ => rfl
theorem Fr.tr {w : Nat} {M M1 M2 : AMem} (h1 : Fr w M M1) (h2 : Fr w M1 M2) : Fr w M M2 := fun k i s a b c e => (h2 k i s a b c e).trans (h1 k i s a b c e)
theorem TF.fr {w : Nat} {M M' : AMem} (h : TF w M M') : Fr w M M' := fun k i s a b c _ => h k i s a b c
theorem Fr.row {w r : Nat} {M M' : AMem} {xs : List Int} (h : Fr w M M') (hr : r / 6 ≠ w) (hR : RIs M r xs) : RIs M' r xs := hR.congr (h 1 r 1 (by omega) (by omega) (by omega) (by omega)) (fun s => h 5 r s (by omega) (by omega) (by omega) (by omega))
theorem Fr.well {w v cl n : Nat} {c : CS} {L : List Int} {M M' : AMem} (h : Fr w M M') (hv : v ≠ w) (hW : WIs M v c cl n L) : WIs M' v c cl n L := by
  obtain ⟨w2, w3, w4, w5, w6, w7, wR, wQ, wO⟩ := hW
  have g : ∀ s, M' 2 v s = M 2 v s := fun s => h 2 v s (by omega) (by omega) (by omega) (by omega)
  exact ⟨(g 2).trans w2, (g 3).trans w3, (g 4).trans w4, (g 5).trans w5, (g 6).trans w6, (g 7).trans w7, fun j hj => h.row (by omega) (wR j hj), wQ.congr (h 0 v 1 (by omega) (by omega) (by omega) (by omega)) (fun s => h 4 v s (by omega) (by omega) (by omega) (by omega)), wO⟩
/-- a row's own frame -/
theorem rowFr {r w : Nat} {M M' : AMem} (h : ∀ k i s, ¬ (k = 1 ∧ i = r) → ¬ (k = 5 ∧ i = r) → M' k i s = M k i s) (hr : r / 6 = w) : Fr w M M' := fun k i s _ _ _ e => h k i s (fun z => e ⟨Or.inl z.1, by rw [z.2]; exact hr⟩) (fun z => e ⟨Or.inr z.1, by rw [z.2]; exact hr⟩)
/-- takeRows, out of six rows that lie in order -/
theorem take_loop {d w b : Nat} {pc : Nat} {v : AV} {R : Nat → List Int} {Q : Option AV → AMem → Prop} (hw : w < 7) (hb : b = 42 ∨ ∃ u, u < 7 ∧ b = 6 * u)
    (step : ∀ (j : Nat) (M : AMem), ((6 ≤ (j : Int)) → Q none M) ∧ (¬ (6 ≤ (j : Int)) → CallV d m_R_become [vR 1 (6 * w + j), vR 1 (b + j)] M (fun M3 => RunQ (d + 1) m_W_takeRows pc [some (vR 2 w), some v, some (vI ((j + 1 : Nat) : Int))] [] M3 Q)) → j ≤ 6 → RunQ (d + 1) m_W_takeRows pc [some (vR 2 w), some v, some (vI (j : Int))] [] M Q) :
    ∀ (f j : Nat) (M0 M : AMem), j + f = 6 → (∀ i, i < 6 → RIs M (b + i) (R i)) → (∀ i, i < j → RIs M (6 * w + i) (R i)) → (∀ k i s, ¬ ((k = 1 ∨ k = 5) ∧ i / 6 = w) → M k i s = M0 k i s) →
      (∀ M', RW M' w R → (∀ k i s, ¬ ((k = 1 ∨ k = 5) ∧ i / 6 = w) → M' k i s = M0 k i s) → (∀ i, i < 6 → RIs M' (b + i) (R i)) → Q none M') →
      RunQ (d + 1) m_W_takeRows pc [some (vR 2 w), some v, some (vI (j : Int))] [] M Q := by
  intro f
  induction f with
  | zero =>
    intro j M0 M hj hB hA hF hQ
    have : j = 6 := by omega
    subst this
    exact step 6 M ⟨fun _ => hQ M hA hF hB, fun z => absurd (by decide) z⟩ (by omega)
  | succ f ih =>
    intro j M0 M hj hB hA hF hQ
    refine step j M ⟨fun z => absurd z (by omega), fun _ => ?_⟩ (by omega)
    have hb48 : b + j < 49 := by
      rcases hb with rfl | ⟨u, hu, rfl⟩ <;> omega
    refine S_rbecome (by omega) hb48 (hB j (by omega)) (fun M1 q1 q2 => ?_)
    have keep : ∀ r xs, r ≠ 6 * w + j → RIs M r xs → RIs M1 r xs := fun r xs hr hR => hR.congr (q2 1 r 1 (by omega) (by omega)) (fun s => q2 5 r s (by omega) (by omega))
    refine ih (j + 1) M0 M1 (by omega) (fun i hi => ?_) (fun i hi => ?_) (fun k i s a => ?_) hQ
    · by_cases he : b + i = 6 * w + j
      · rw [he]
        have hij : i = j := by
          rcases hb with rfl | ⟨u, hu, rfl⟩ <;> omega
        rw [hij]
        exact q1
      · exact keep _ _ he (hB i hi)
    · by_cases he : i = j
      · rw [he]
        exact q1
      · exact keep _ _ (by omega) (hA i (by omega))
    · rw [q2 k i s (fun z => a ⟨Or.inl z.1, by rw [z.2]; omega⟩) (fun z => a ⟨Or.inr z.1, by rw [z.2]; omega⟩)]
      exact hF k i s a
theorem S_takeW {d w u : Nat} {R : Nat → List Int} {M : AMem} {Q : AMem → Prop} (hw : w < 7) (hu : u < 7) (hR : RW M u R)
    (h : ∀ M', RW M' w R → (∀ k i s, ¬ ((k = 1 ∨ k = 5) ∧ i / 6 = w) → M' k i s = M k i s) → RW M' u R → Q M') : CallV (d + 1) m_W_takeRows [vR 2 w, vR 6 u] M Q := by
  have o6 : okH 6 u = true := decide_eq_true hu
  refine T_W_takeRows_0_w (ok2 hw) o6 ?_
  refine take_loop (b := 6 * u) (v := vR 6 u) (R := R) hw (Or.inr ⟨u, hu, rfl⟩) (fun j M hs hj => ?_) 6 0 M M (by omega) hR (fun i hi => by omega) (fun _ _ _ _ => rfl) (fun M' q1 q2 q3 => ⟨rfl, h M' q1 q2 q3⟩)
  refine T_W_takeRows_2_w (ok2 hw) o6 ?_
  rw [w_n (show j < 2147483648 by omega), Int.toNat_natCast]
  exact ⟨hs.1, fun z => ⟨fun z2 => absurd z2 z, fun _ => ⟨⟨by omega, by omega⟩, ⟨by omega, by omega⟩, hs.2 z⟩⟩⟩
theorem S_takeH {d w : Nat} {R : Nat → List Int} {M : AMem} {Q : AMem → Prop} (hw : w < 7) (hR : ∀ i, i < 6 → RIs M (42 + i) (R i))
    (h : ∀ M', RW M' w R → (∀ k i s, ¬ ((k = 1 ∨ k = 5) ∧ i / 6 = w) → M' k i s = M k i s) → Q M') : CallV (d + 1) m_W_takeRows [vR 2 w, vR 7 0] M Q := by
  refine T_W_takeRows_0_h (ok2 hw) ?_
  refine take_loop (b := 42) (v := vR 7 0) (R := R) hw (Or.inl rfl) (fun j M hs hj => ?_) 6 0 M M (by omega) hR (fun i hi => by omega) (fun _ _ _ _ => rfl) (fun M' q1 q2 q3 => ⟨rfl, h M' q1 q2⟩)
  refine T_W_takeRows_2_h (ok2 hw) ?_
  rw [w_n (show j < 2147483648 by omega), Int.toNat_natCast]
  exact ⟨hs.1, fun z => ⟨fun z2 => absurd z2 z, fun _ => ⟨⟨by omega, by omega⟩, ⟨by omega, by omega⟩, hs.2 z⟩⟩⟩
/-- a well becomes what another one is -/
theorem S_become {d w u cl n : Nat} {c : CS} {L : List Int} {M : AMem} {Q : AMem → Prop} (hw : w < 7) (hu : u < 7) (hW : WIs M u c cl n L)
    (h : ∀ M', WIs M' w c cl n L → Fr w M M' → Q M') : CallV (d + 2) m_W_become [vR 2 w, vR 2 u] M Q := by
  obtain ⟨w2, w3, w4, w5, w6, w7, wR, wQ, wO⟩ := hW
  refine T_W_become_0 (ok2 hw) (ok2 hu) ?_
  refine S_takeW hw hu wR (fun M1 q1 q2 q3 => ?_)
  refine S_qbecome hw hu (wQ.congr (q2 0 u 1 (by omega)) (fun s => q2 4 u s (by omega))) (fun M2 r1 r2 => ?_)
  have g : ∀ s, M2 2 u s = M 2 u s := fun s => (r2 2 u s (by omega) (by omega)).trans (q2 2 u s (by omega))
  rw [g, g, g, g, g, g, w2, w3, w4, w5, w6, w7]
  refine ⟨wO.1.2.2.1, rfl, h _ ⟨?_, ?_, ?_, ?_, ?_, ?_, ?_, ?_, wO⟩ ?_⟩
  · rw [aup_n (by omega), aup_n (by omega), aup_n (by omega), aup_n (by omega), aup_n (by omega), aup_s]
  · rw [aup_n (by omega), aup_n (by omega), aup_n (by omega), aup_n (by omega), aup_s]
  · rw [aup_n (by omega), aup_n (by omega), aup_n (by omega), aup_s]
  · rw [aup_n (by omega), aup_n (by omega), aup_s]
  · rw [aup_n (by omega), aup_s]
  · rw [aup_s]
  · have t : TF w M2 (aup (aup (aup (aup (aup (aup M2 2 w 2 (cK c)) 2 w 3 (cS c)) 2 w 4 (cF c)) 2 w 5 (cl : Int)) 2 w 6 (n : Int)) 2 w 7 (lastK n L)) := ((((TF.aup.tr TF.aup).tr TF.aup).tr TF.aup).tr TF.aup).tr TF.aup
    exact t.rows (fun j hj => (q1 j hj).congr (r2 1 _ 1 (by omega) (by omega)) (fun s => r2 5 _ s (by omega) (by omega)))
  · exact r1.aup2.aup2.aup2.aup2.aup2.aup2
  · intro k i s a b c e
    rw [aup_n (fun z => a ⟨z.1, z.2.1⟩), aup_n (fun z => a ⟨z.1, z.2.1⟩), aup_n (fun z => a ⟨z.1, z.2.1⟩), aup_n (fun z => a ⟨z.1, z.2.1⟩), aup_n (fun z => a ⟨z.1, z.2.1⟩), aup_n (fun z => a ⟨z.1, z.2.1⟩), r2 k i s b c, q2 k i s e]
/-- beginGrid -/
theorem S_beginGrid {d w r1 r2 r3 : Nat} {kd : Int} {A B C : List Int} {R : Nat → List Int} {M : AMem} {Q : AMem → Prop} (hw : w < 7) (hk : kd = 1 ∨ kd = 2 ∨ kd = 4) (hr1 : 42 ≤ r1 ∧ r1 < 49) (hr2 : 42 ≤ r2 ∧ r2 < 49) (hr3 : 42 ≤ r3 ∧ r3 < 49) (hA : RIs M r1 A) (hB : RIs M r2 B) (hC : RIs M r3 C) (hz : kd ≠ 2 → C = [0]) (hR : RW M w R)
    (h : ∀ M', WIs M' w (kd, 0, 0, fun j => if j = 0 then A else if j = 1 then B else if j = 2 then C else R j) 0 0 (crs (kd, 0, 0, fun j => if j = 0 then A else if j = 1 then B else if j = 2 then C else R j)) → Fr w M M' → Q M') :
    CallV (d + 5) m_W_beginGrid [vR 2 w, vI kd, vR 1 r1, vR 1 r2, vR 1 r3] M Q := by
  refine T_W_beginGrid_0 (ok2 hw) (ok1 hr1.2) (ok1 hr2.2) (ok1 hr3.2) ?_
  have keep : ∀ {M1 M2 : AMem} {j r : Nat} {xs : List Int}, (∀ k i s, ¬ (k = 1 ∧ i = 6 * w + j) → ¬ (k = 5 ∧ i = 6 * w + j) → M2 k i s = M1 k i s) → r ≠ 6 * w + j → RIs M1 r xs → RIs M2 r xs := fun q hr hR => hR.congr (q 1 _ 1 (by omega) (by omega)) (fun s => q 5 _ s (by omega) (by omega))
  refine S_rbecome (by omega) hr1.2 hA (fun M1 a1 a2 => ?_)
  refine S_rbecome (by omega) hr2.2 (keep a2 (by omega) hB) (fun M2 b1 b2 => ?_)
  refine S_rbecome (by omega) hr3.2 (keep b2 (by omega) (keep a2 (by omega) hC)) (fun M3 c1 c2 => ?_)
  have hR3 : RW M3 w (fun j => if j = 0 then A else if j = 1 then B else if j = 2 then C else R j) := by
    intro j hj
    by_cases j0 : j = 0
    · subst j0
      exact keep c2 (by omega) (keep b2 (by omega) a1)
    · by_cases j1 : j = 1
      · subst j1
        exact keep c2 (by omega) b1
      · by_cases j2 : j = 2
        · subst j2
          exact c1
        · show RIs M3 (6 * w + j) (if j = 0 then A else if j = 1 then B else if j = 2 then C else R j)
          rw [if_neg j0, if_neg j1, if_neg j2]
          exact keep c2 (by omega) (keep b2 (by omega) (keep a2 (by omega) (hR j hj)))
  have hc : cOK (kd, 0, 0, fun j => if j = 0 then A else if j = 1 then B else if j = 2 then C else R j) := by
    refine ⟨?_, ?_, Or.inl rfl, fun j hj => (hR3 j hj).2.2, fun z => ?_, fun z => ?_⟩
    · show -1 ≤ kd ∧ kd ≤ 5
      omega
    · show (0 : Int) ≤ 0 ∧ (0 : Int) < 64
      omega
    · have z : kd = 1 ∨ kd = 4 := z
      show (if 2 = 0 then A else if 2 = 1 then B else if 2 = 2 then C else R 2) = [0]
      exact hz (by omega)
    · have z : kd = 0 := z
      omega
  have f1 : Fr w M M3 := ((rowFr a2 (by omega)).tr (rowFr b2 (by omega))).tr (rowFr c2 (by omega))
  exact S_begin hw hc hR3 (fun M4 q1 q2 => ⟨rfl, h M4 q1 (f1.tr q2.fr)⟩)
/-- beginMerged, out of the house's rows -/
theorem S_beginMerged {d w s : Nat} {fl : Int} {R : Nat → List Int} {M : AMem} {Q : AMem → Prop} (hw : w < 7) (hs : s < 64) (hfl : fl = 0 ∨ fl = 1) (hR : ∀ i, i < 6 → RIs M (42 + i) (R i))
    (h : ∀ M', WIs M' w (3, (s : Int), fl, R) 0 0 (crs (3, (s : Int), fl, R)) → Fr w M M' → Q M') : CallV (d + 5) m_W_beginMerged [vR 2 w, vR 7 0, vI (s : Int), vI fl] M Q := by
  refine T_W_beginMerged_0_h (ok2 hw) ?_
  refine S_takeH hw hR (fun M1 q1 q2 => ?_)
  have hc : cOK (3, (s : Int), fl, R) := by
    refine ⟨?_, ?_, hfl, fun j hj => (q1 j hj).2.2, fun z => ?_, fun z => ?_⟩
    · show -1 ≤ (3 : Int) ∧ (3 : Int) ≤ 5
      omega
    · show (0 : Int) ≤ (s : Int) ∧ (s : Int) < 64
      omega
    · have z : (3 : Int) = 1 ∨ (3 : Int) = 4 := z
      omega
    · have z : (3 : Int) = 0 := z
      omega
  exact S_begin hw hc q1 (fun M2 r1 r2 => ⟨rfl, h M2 r1 (fun k i s a b c e => (r2 k i s a b c).trans (q2 k i s e))⟩)
