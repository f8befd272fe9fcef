/-! WELLS: the small functions -/
/-- only this queue has changed -/
def QF (w : Nat) (M M' : AMem) : Prop := ∀ k i s, ¬ (k = 0 ∧ i = w) → ¬ (k = 4 ∧ i = w) → M' k i s = M k i s
theorem QF.rf {w : Nat} {M : AMem} : QF w M M := fun _ _ _ _ _ => rfl
theorem QF.tr {w : Nat} {M M1 M2 : AMem} (h1 : QF w M M1) (h2 : QF w M1 M2) : QF w M M2 := fun k i s a b => (h2 k i s a b).trans (h1 k i s a b)
theorem QF.row {w r : Nat} {M M' : AMem} {xs : List Int} (h : QF w M M') (hR : RIs M r xs) : RIs M' r xs := hR.congr (h 1 r 1 (by omega) (by omega)) (fun s => h 5 r s (by omega) (by omega))
theorem QF.wl {w v s : Nat} {M M' : AMem} (h : QF w M M') : M' 2 v s = M 2 v s := h 2 v s (by omega) (by omega)
/-- these rows are told -/
def RW (M : AMem) (w : Nat) (R : Nat → List Int) : Prop := ∀ j, j < 6 → RIs M (6 * w + j) (R j)
theorem QF.rows {w v : Nat} {M M' : AMem} {R : Nat → List Int} (h : QF w M M') (hR : RW M v R) : RW M' v R := fun j hj => h.row (hR j hj)
theorem RW.ok {M : AMem} {w : Nat} {R : Nat → List Int} (h : RW M w R) {j : Nat} (hj : j < 6) : rOK (R j) := (h j hj).2.2
theorem S_rankOf {d w j : Nat} {fl : Int} {M : AMem} {Q : Int → AMem → Prop} (hw : w < 7) (hf : M 2 w 4 = fl) (hfl : fl = 0 ∨ fl = 1) (hj : j < 6) (h : Q ((rk fl j : Nat) : Int) M) : CallI d m_W_rankOf [vR 2 w, vI (j : Int)] M Q := by
  refine T_W_rankOf_0 (ok2 hw) ⟨fun c => ⟨_, rfl, ?_⟩, fun c => ⟨_, rfl, ?_⟩⟩
  · rcases hfl with rfl | rfl
    · exact h
    · rw [hf] at c
      exact absurd c (by decide)
  · rcases hfl with rfl | rfl
    · rw [hf] at c
      exact absurd (by decide) c
    · have e : ((rk 1 j : Nat) : Int) = 5 - (j : Int) := by
        unfold rk
        rw [if_neg (by decide)]
        omega
      rw [e] at h
      exact h
theorem S_isGrid {d w : Nat} {kd : Int} {M : AMem} {Q : Int → AMem → Prop} (hw : w < 7) (hk : M 2 w 2 = kd) (hkd : -1 ≤ kd ∧ kd ≤ 5) (h1 : (kd = 1 ∨ kd = 2 ∨ kd = 4) → Q 1 M) (h0 : ¬ (kd = 1 ∨ kd = 2 ∨ kd = 4) → Q 0 M) : CallI d m_W_isGrid [vR 2 w] M Q := by
  have e : wI kd = kd := wI_eq (by omega) (by omega)
  refine T_W_isGrid_0 (ok2 hw) ?_
  rw [hk, e]
  exact ⟨fun c => ⟨_, rfl, h1 (Or.inl c)⟩, fun c1 => ⟨fun c => ⟨_, rfl, h1 (Or.inr (Or.inl c))⟩, fun c2 => ⟨fun c3 => ⟨_, rfl, h0 (by omega)⟩, fun c3 => ⟨_, rfl, h1 (by omega)⟩⟩⟩⟩
theorem S_gridNumber {d w i j k : Nat} {kd : Int} {R : Nat → List Int} {M : AMem} {Q : Int → AMem → Prop} (hw : w < 7) (hk : M 2 w 2 = kd) (hkd : -1 ≤ kd ∧ kd ≤ 5) (hR : RW M w R) (hi : i < 9) (hj : j < 9) (hl : k < 9)
    (h : Q (gnum kd R i j k) M) : CallI (d + 1) m_W_gridNumber [vR 2 w, vI (i : Int), vI (j : Int), vI (k : Int)] M Q := by
  have e : wI kd = kd := wI_eq (by omega) (by omega)
  refine T_W_gridNumber_0 (ok2 hw) ?_
  refine S_numberAt (by omega) (hR 0 (by omega)) (by omega) (S_numberAt (by omega) (hR 1 (by omega)) (by omega) ?_)
  rw [hk, e]
  unfold gnum at h
  refine ⟨fun c => ?_, fun c => ?_⟩
  · rw [if_neg c] at h
    exact S_numberAt (by omega) (hR 2 (by omega)) (by omega) ⟨_, rfl, h⟩
  · rw [if_pos (Classical.not_not.mp c)] at h
    exact ⟨_, rfl, h⟩
theorem gkey_ok {kd : Int} {R : Nat → List Int} {i j k : Nat} (h : ∀ j, j < 3 → rOK (R j)) (hi : i < (R 0).length) (hj : j < (R 1).length) (hk : k < (R 2).length) : kOK (gnum kd R i j k * 1024 + (((i * 8 + j) * 8 + k : Nat) : Int)) := by
  have := gnum_ok (kd := kd) h hi hj hk
  have h0 := (h 0 (by omega)).1
  have h1 := (h 1 (by omega)).1
  have h2 := (h 2 (by omega)).1
  unfold kOK
  omega
/-- offerOfGrid: it comes in, if it is there -/
theorem S_offerGrid {d w i j k : Nat} {kd : Int} {R : Nat → List Int} {F : List Int} {M : AMem} {Q : AMem → Prop} (hw : w < 7) (hk : M 2 w 2 = kd) (hkd : -1 ≤ kd ∧ kd ≤ 5) (hR : RW M w R) (hi : i < 9) (hj : j < 9) (hl : k < 9) (hF : QIs M w F) (hFl : F.length < 512)
    (h1 : i < (R 0).length → j < (R 1).length → k < (R 2).length → ∀ M', QIs M' w ((gnum kd R i j k * 1024 + (((i * 8 + j) * 8 + k : Nat) : Int)) :: F) → QF w M M' → Q M')
    (h0 : ¬ (i < (R 0).length ∧ j < (R 1).length ∧ k < (R 2).length) → Q M) : CallV (d + 2) m_W_offerOfGrid [vR 2 w, vI (i : Int), vI (j : Int), vI (k : Int)] M Q := by
  have g0 := (hR.ok (j := 0) (by omega)).1
  have g1 := (hR.ok (j := 1) (by omega)).1
  have g2 := (hR.ok (j := 2) (by omega)).1
  have ei : wI (i : Int) = i := w_n (by omega)
  have ej : wI (j : Int) = j := w_n (by omega)
  have ek : wI (k : Int) = k := w_n (by omega)
  have r0 := (hR 0 (by omega)).1
  have r1 := (hR 1 (by omega)).1
  have r2 := (hR 2 (by omega)).1
  refine T_W_offerOfGrid_0 (ok2 hw) ?_
  rw [r0, r1, r2, ei, ej, ek, w_n (show (R 0).length < 2147483648 by omega), w_n (show (R 1).length < 2147483648 by omega), w_n (show (R 2).length < 2147483648 by omega)]
  clear ei ej ek
  refine ⟨fun c => ⟨rfl, h0 (by omega)⟩, fun c => ⟨fun c2 => ⟨rfl, h0 (by omega)⟩, fun c2 => ⟨fun c3 => ⟨rfl, h0 (by omega)⟩, fun c3 => ?_⟩⟩⟩
  refine S_gridNumber hw hk hkd hR hi hj hl (S_keyOf ?_)
  have e : ((((i : Int) * 8) + (j : Int)) * 8) + (k : Int) = (((i * 8 + j) * 8 + k : Nat) : Int) := by omega
  rw [e]
  refine S_push hw (gkey_ok (fun j hj => hR.ok (by omega)) (by omega) (by omega) (by omega)) hF hFl (fun M' q1 q2 => ⟨rfl, h1 (by omega) (by omega) (by omega) M' q1 (fun k i s a b => q2 k i s (fun z => a ⟨z.1, z.2.1⟩) (fun z => b ⟨z.1, z.2.1⟩))⟩)
/-- offerNeighbours: the kids come in -/
theorem S_offerNeighbours {d w t : Nat} {kd : Int} {R : Nat → List Int} {F : List Int} {M : AMem} {Q : AMem → Prop} (hw : w < 7) (hk : M 2 w 2 = kd) (hkd : -1 ≤ kd ∧ kd ≤ 5) (hR : RW M w R) (ht : gval R t = true) (hF : QIs M w F) (hFl : F.length < 509)
    (h : ∀ M', QIs M' w ((gkids R t).map (gkey kd R) ++ F) → QF w M M' → Q M') : CallV (d + 3) m_W_offerNeighbours [vR 2 w, vI (tI t : Int), vI (tJ t : Int), vI (tK t : Int)] M Q := by
  obtain ⟨a, b, c⟩ := gval_iff.mp ht
  have g0 := (hR.ok (j := 0) (by omega)).1
  have g1 := (hR.ok (j := 1) (by omega)).1
  have g2 := (hR.ok (j := 2) (by omega)).1
  have hgk : ∀ u i j k : Nat, tI u = i → tJ u = j → tK u = k → u = (i * 8 + j) * 8 + k → gnum kd R i j k * 1024 + (((i * 8 + j) * 8 + k : Nat) : Int) = gkey kd R u := by
    intro u i j k h1 h2 h3 h4
    unfold gkey
    rw [h1, h2, h3, ← h4]
  refine T_W_offerNeighbours_0 (ok2 hw) ?_
  rw [w_n (show tK t < 2147483648 by omega), w_n (show tJ t < 2147483648 by omega)]
  have fin : ∀ (F2 : List Int) (M2 : AMem), QIs M2 w F2 → QF w M M2 → F2.length ≤ F.length + 1 → (¬ ((tK t : Nat) : Int) = 0 → Q M2) → (((tK t : Nat) : Int) = 0 → ∀ M', QIs M' w (((if tK t = 0 ∧ tJ t + 1 < (R 1).length then [t + 8] else []) ++ (if tK t = 0 ∧ tJ t = 0 ∧ tI t + 1 < (R 0).length then [t + 64] else [])).map (gkey kd R) ++ F2) → QF w M M' → Q M') →
      ((¬ ((tK t : Nat) : Int) = 0) → none = (none : Option AV) ∧ Q M2) ∧ (¬ (¬ ((tK t : Nat) : Int) = 0) → CallV (d + 2) m_W_offerOfGrid [vR 2 w, vI ((tI t : Nat) : Int), vI (((tJ t : Nat) : Int) + 1), vI 0] M2 (fun M3 => ((¬ ((tJ t : Nat) : Int) = 0) → none = (none : Option AV) ∧ Q M3) ∧ (¬ (¬ ((tJ t : Nat) : Int) = 0) → CallV (d + 2) m_W_offerOfGrid [vR 2 w, vI (((tI t : Nat) : Int) + 1), vI 0, vI 0] M3 (fun M5 => none = (none : Option AV) ∧ Q M5)))) := by
    intro F2 M2 q1 q2 q3 hA hB
    refine ⟨fun z => ⟨rfl, hA z⟩, fun z => ?_⟩
    have hk0 : tK t = 0 := by omega
    have last : ∀ (F3 : List Int) (M3 : AMem), QIs M3 w F3 → QF w M M3 → F3.length ≤ F.length + 2 → (F3 = ((if tK t = 0 ∧ tJ t + 1 < (R 1).length then [t + 8] else []).map (gkey kd R)) ++ F2) →
        ((¬ ((tJ t : Nat) : Int) = 0) → none = (none : Option AV) ∧ Q M3) ∧ (¬ (¬ ((tJ t : Nat) : Int) = 0) → CallV (d + 2) m_W_offerOfGrid [vR 2 w, vI (((tI t : Nat) : Int) + 1), vI 0, vI 0] M3 (fun M5 => none = (none : Option AV) ∧ Q M5)) := by
      intro F3 M3 p1 p2 p3 p4
      refine ⟨fun z => ⟨rfl, hB (by omega) M3 ?_ p2⟩, fun z => ?_⟩
      · rw [if_neg (show ¬ (tK t = 0 ∧ tJ t = 0 ∧ tI t + 1 < (R 0).length) by omega), List.append_nil, ← p4]
        exact p1
      · refine S_offerGrid (i := tI t + 1) (j := 0) (k := 0) hw (p2.wl.trans hk) hkd (p2.rows hR) (by omega) (by omega) (by omega) p1 (by omega) (fun k1 k2 k3 M5 r1 r2 => ⟨rfl, hB (by omega) M5 ?_ (p2.tr r2)⟩) (fun k1 => ⟨rfl, hB (by omega) M3 ?_ p2⟩)
        · rw [if_pos (show tK t = 0 ∧ tJ t = 0 ∧ tI t + 1 < (R 0).length by omega)]
          rw [hgk (t + 64) (tI t + 1) 0 0 (by unfold tI; omega) (by unfold tJ tK at *; omega) (by unfold tK at *; omega) (by unfold tI tJ tK at *; omega), p4] at r1
          refine r1.perm ?_
          rw [List.map_append, List.append_assoc]
          exact (List.perm_middle (l₁ := List.map (gkey kd R) (if tK t = 0 ∧ tJ t + 1 < (R 1).length then [t + 8] else [])) (a := gkey kd R (t + 64)) (l₂ := F2)).symm
        · rw [if_neg (show ¬ (tK t = 0 ∧ tJ t = 0 ∧ tI t + 1 < (R 0).length) by omega), List.append_nil, ← p4]
          exact p1
    refine S_offerGrid (i := tI t) (j := tJ t + 1) (k := 0) hw (q2.wl.trans hk) hkd (q2.rows hR) (by omega) (by omega) (by omega) q1 (by omega) (fun k1 k2 k3 M3 r1 r2 => last _ M3 r1 (q2.tr r2) (by simp only [List.length_cons]; omega) ?_) (fun k1 => last F2 M2 q1 q2 (by omega) ?_)
    · rw [if_pos (show tK t = 0 ∧ tJ t + 1 < (R 1).length by omega)]
      rw [hgk (t + 8) (tI t) (tJ t + 1) 0 (by unfold tI tJ at *; omega) (by unfold tJ at *; omega) (by unfold tK at *; omega) (by unfold tI tJ tK at *; omega)]
      rfl
    · rw [if_neg (show ¬ (tK t = 0 ∧ tJ t + 1 < (R 1).length) by omega)]
      rfl
  refine S_offerGrid (i := tI t) (j := tJ t) (k := tK t + 1) hw hk hkd hR (by omega) (by omega) (by omega) hF (by omega) (fun k1 k2 k3 M2 r1 r2 => fin _ M2 r1 r2 (by simp only [List.length_cons]; omega) (fun z => h M2 ?_ r2) (fun z M' s1 s2 => h M' ?_ s2)) (fun k1 => fin F M hF QF.rf (by omega) (fun z => h M ?_ QF.rf) (fun z M' s1 s2 => h M' ?_ s2))
  · unfold gkids
    rw [if_pos (show tK t + 1 < (R 2).length from k3), if_neg (show ¬ (tK t = 0 ∧ tJ t + 1 < (R 1).length) by omega), if_neg (show ¬ (tK t = 0 ∧ tJ t = 0 ∧ tI t + 1 < (R 0).length) by omega)]
    rw [hgk (t + 1) (tI t) (tJ t) (tK t + 1) (by unfold tI tK at *; omega) (by unfold tJ tK at *; omega) (by unfold tK at *; omega) (by unfold tI tJ tK at *; omega)] at r1
    exact r1
  · unfold gkids
    rw [if_pos (show tK t + 1 < (R 2).length from k3), List.map_append, List.append_assoc]
    rw [hgk (t + 1) (tI t) (tJ t) (tK t + 1) (by unfold tI tK at *; omega) (by unfold tJ tK at *; omega) (by unfold tK at *; omega) (by unfold tI tJ tK at *; omega)] at s1
    exact s1.perm List.perm_middle
  · unfold gkids
    rw [if_neg (show ¬ (tK t + 1 < (R 2).length) by omega), if_neg (show ¬ (tK t = 0 ∧ tJ t + 1 < (R 1).length) by omega), if_neg (show ¬ (tK t = 0 ∧ tJ t = 0 ∧ tI t + 1 < (R 0).length) by omega)]
    exact hF
  · unfold gkids
    rw [if_neg (show ¬ (tK t + 1 < (R 2).length) by omega), List.nil_append]
    exact s1
