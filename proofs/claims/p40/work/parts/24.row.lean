/-! ROWS -/
def rOK (xs : List Int) : Prop := xs.length ≤ 8 ∧ (∀ x ∈ xs, 0 ≤ x ∧ x ≤ 999) ∧ xs.Pairwise (· ≤ ·)
def RIs (M : AMem) (r : Nat) (xs : List Int) : Prop := M 1 r 1 = xs.length ∧ (∀ i (hi : i < xs.length), M 5 r i = xs[i]) ∧ rOK xs
theorem rOK_nil : rOK [] := ⟨by simp, by simp, List.Pairwise.nil⟩
theorem RIs.congr {M M' : AMem} {r : Nat} {xs : List Int} (h : RIs M r xs) (h1 : M' 1 r 1 = M 1 r 1) (h2 : ∀ s, M' 5 r s = M 5 r s) : RIs M' r xs := by
  refine ⟨h1.trans h.1, fun i hi => (h2 i).trans (h.2.1 i hi), h.2.2⟩
theorem rOK.at {xs : List Int} (h : rOK xs) {i : Nat} (hi : i < xs.length) : 0 ≤ xs[i] ∧ xs[i] ≤ 999 := h.2.1 _ (List.getElem_mem _)
theorem rOK.le {xs : List Int} (h : rOK xs) {i j : Nat} (hij : i ≤ j) (hj : j < xs.length) : xs[i]'(by omega) ≤ xs[j] := by
  by_cases he : i = j
  · subst he; exact Int.le_refl _
  · exact List.pairwise_iff_getElem.mp h.2.2 i j (by omega) hj (by omega)
/-- the number at a place, or -1 -/
def nAt (xs : List Int) (p : Int) : Int := if 0 ≤ p then xs.getD p.toNat (-1) else -1
theorem nAt_in {xs : List Int} {p : Nat} (h : p < xs.length) : nAt xs (p : Int) = xs[p] := by
  unfold nAt
  rw [if_pos (by omega), Int.toNat_natCast]
  simp [List.getD, h]
theorem nAt_out {xs : List Int} {p : Int} (h : p < 0 ∨ (xs.length : Int) ≤ p) : nAt xs p = -1 := by
  unfold nAt
  by_cases h0 : 0 ≤ p
  · rw [if_pos h0, List.getD, List.getElem?_eq_none (by omega)]
    rfl
  · rw [if_neg h0]
theorem nAt_ok {xs : List Int} (h : rOK xs) (p : Int) : -1 ≤ nAt xs p ∧ nAt xs p ≤ 999 := by
  by_cases hp : p < 0 ∨ (xs.length : Int) ≤ p
  · rw [nAt_out hp]; omega
  · have h1 : p.toNat < xs.length := by omega
    have h2 := nAt_in h1
    rw [Int.toNat_of_nonneg (by omega)] at h2
    rw [h2]
    have := h.at h1
    omega
theorem S_numberAt {d r : Nat} {p : Int} {xs : List Int} {M : AMem} {Q : Int → AMem → Prop} (hr : r < 49) (hR : RIs M r xs) (hp : -2147483648 ≤ p ∧ p < 2147483648) (h : Q (nAt xs p) M) : CallI d m_R_numberAt [vR 1 r, vI p] M Q := by
  obtain ⟨h1, h2, h3⟩ := hR
  have hl := h3.1
  have ep : wI p = p := wI_eq hp.1 hp.2
  have en : wI (M 1 r 1) = (xs.length : Int) := by rw [h1]; exact w_n (by omega)
  refine T_R_numberAt_0 (ok1 hr) ⟨fun c => ⟨_, rfl, ?_⟩, fun c => ⟨fun c2 => ⟨_, rfl, ?_⟩, fun c2 => ⟨fun c3 => ⟨by rw [ep] at *; omega, _, rfl, ?_⟩, fun c3 => ?_⟩⟩⟩
  · rw [ep] at c
    rw [nAt_out (Or.inl c)] at h
    exact h
  · rw [ep, en] at c2
    rw [nAt_out (Or.inr c2)] at h
    exact h
  · rw [ep] at c ⊢
    rw [ep, en] at c2
    have h4 : p.toNat < xs.length := by omega
    have h5 := nAt_in h4
    rw [Int.toNat_of_nonneg (by omega)] at h5
    rw [h2 _ h4, ← h5]
    exact h
  · rw [ep, en] at c2
    rw [ep] at c3
    omega
/-- append: it comes in, if there is room and it is not less -/
theorem S_append {d r : Nat} {v : Int} {xs : List Int} {M : AMem} {Q : Int → AMem → Prop} (hr : r < 49) (hR : RIs M r xs) (hv : 0 ≤ v ∧ v ≤ 999)
    (h1 : xs.length < 8 → (∀ x ∈ xs, x ≤ v) → ∀ M', RIs M' r (xs ++ [v]) → (∀ k i s, ¬ (k = 1 ∧ i = r) → ¬ (k = 5 ∧ i = r) → M' k i s = M k i s) → Q 1 M')
    (h0 : (xs.length = 8 ∨ ¬ ∀ x ∈ xs, x ≤ v) → Q 0 M) : CallI (d + 1) m_R_append [vR 1 r, vI v] M Q := by
  have hR0 := hR
  obtain ⟨g1, g2, g3⟩ := hR
  have hl := g3.1
  have ev : wI v = v := wI_eq (by omega) (by omega)
  have en : wI (M 1 r 1) = (xs.length : Int) := by rw [g1]; exact w_n (by omega)
  refine T_R_append_0 (ok1 hr) ⟨fun c => ?_, fun c => ⟨fun c2 => ⟨_, rfl, ?_⟩, fun c2 => ?_⟩⟩
  · rw [en] at c
    omega
  · rw [en] at c2
    exact h0 (Or.inl (by omega))
  · rw [en] at c2
    refine S_numberAt hr hR0 (by rw [g1]; omega) ?_
    have hn := nAt_ok g3 (M 1 r 1 - 1)
    rw [wI_eq (z := nAt xs (M 1 r 1 - 1)) (by omega) (by omega), ev, en]
    have key : nAt xs (M 1 r 1 - 1) ≤ v ↔ ∀ x ∈ xs, x ≤ v := by
      rw [g1]
      by_cases hz : xs.length = 0
      · have : xs = [] := List.eq_nil_of_length_eq_zero hz
        subst this
        rw [nAt_out (Or.inl (by simp))]
        simp
        omega
      · have h4 : xs.length - 1 < xs.length := by omega
        have h5 := nAt_in h4
        rw [show ((xs.length : Int) - 1) = ((xs.length - 1 : Nat) : Int) by omega, h5]
        constructor
        · intro h6 x hx
          obtain ⟨i, hi, rfl⟩ := List.getElem_of_mem hx
          have := g3.le (i := i) (j := xs.length - 1) (by omega) h4
          omega
        · intro h6
          exact h6 _ (List.getElem_mem _)
    refine ⟨fun c3 => ⟨by constructor <;> omega, _, rfl, ?_⟩, fun c3 => ⟨_, rfl, h0 (Or.inr (fun z => c3 (key.mpr z)))⟩⟩
    have hall := key.mp c3
    rw [Int.toNat_natCast]
    refine h1 (by omega) hall _ ⟨?_, ?_, ?_⟩ (fun k i s a b => ?_)
    · rw [aup_s, g1]
      simp
    · intro i hi
      rw [aup_n (by omega)]
      by_cases hx : i < xs.length
      · rw [aup_n (by omega), g2 i hx, List.getElem_append_left hx]
      · have : i = xs.length := by simp at hi; omega
        subst this
        rw [aup_s]
        simp
    · refine ⟨by simp; omega, fun x hx => ?_, ?_⟩
      · rcases List.mem_append.mp hx with hx | hx
        · exact g3.2.1 x hx
        · have : x = v := by simpa using hx
          subst this
          exact hv
      · rw [List.pairwise_append]
        refine ⟨g3.2.2, List.pairwise_singleton _ _, fun a ha b hb => ?_⟩
        have : b = v := by simpa using hb
        subst this
        exact hall a ha
    · rw [aup_n (fun z => a ⟨z.1, z.2.1⟩), aup_n (fun z => b ⟨z.1, z.2.1⟩)]
/-- removeLast -/
theorem S_removeLast {d r : Nat} {xs : List Int} {M : AMem} {Q : Int → AMem → Prop} (hr : r < 49) (hR : RIs M r xs) (hne : xs ≠ [])
    (h : ∀ M', RIs M' r xs.dropLast → (∀ k i s, ¬ (k = 1 ∧ i = r) → ¬ (k = 5 ∧ i = r) → M' k i s = M k i s) → Q (xs.getLast hne) M') : CallI (d + 1) m_R_removeLast [vR 1 r] M Q := by
  have hR0 := hR
  obtain ⟨g1, g2, g3⟩ := hR
  have hl := g3.1
  have hpos : 0 < xs.length := List.length_pos_iff.mpr hne
  refine T_R_removeLast_0 (ok1 hr) ?_
  refine S_numberAt hr hR0 (by rw [g1]; omega) ⟨_, rfl, ?_⟩
  have h5 := nAt_in (xs := xs) (p := xs.length - 1) (by omega)
  rw [g1, show ((xs.length : Int) - 1) = ((xs.length - 1 : Nat) : Int) by omega, h5, ← List.getLast_eq_getElem]
  refine h _ ⟨?_, fun i hi => ?_, ?_⟩ (fun k i s a b => aup_n (fun z => a ⟨z.1, z.2.1⟩))
  · rw [aup_s]
    simp
  · rw [aup_n (by omega)]
    rw [List.length_dropLast] at hi
    rw [g2 i (by omega)]
    simp
  · refine ⟨by rw [List.length_dropLast]; omega, fun x hx => g3.2.1 x ((List.dropLast_sublist xs).subset hx), ?_⟩
    exact List.Pairwise.sublist (List.dropLast_sublist xs) g3.2.2
/-- become -/
theorem S_rbecome {d r t : Nat} {xs : List Int} {M : AMem} {Q : AMem → Prop} (hr : r < 49) (ht : t < 49) (hR : RIs M t xs)
    (h : ∀ M', RIs M' r xs → (∀ k i s, ¬ (k = 1 ∧ i = r) → ¬ (k = 5 ∧ i = r) → M' k i s = M k i s) → Q M') : CallV d m_R_become [vR 1 r, vR 1 t] M Q := by
  obtain ⟨g1, g2, g3⟩ := hR
  have hl := g3.1
  refine T_R_become_0 (ok1 hr) (ok1 ht) ⟨rfl, h _ ⟨?_, fun i hi => ?_, g3⟩ (fun k i s a b => ?_)⟩
  · rw [aup_s]
    unfold acopy
    rw [if_neg (by omega)]
    exact g1
  · rw [aup_n (by omega)]
    unfold acopy
    rw [if_pos ⟨rfl, rfl, by omega⟩]
    exact g2 i hi
  · rw [aup_n (fun z => a ⟨z.1, z.2.1⟩)]
    exact acopy_out k i s (fun z => b z)
/-- countUpTo -/
theorem S_rcount {d r : Nat} {v : Int} {xs : List Int} {M : AMem} {Q : Int → AMem → Prop} (hr : r < 49) (hR : RIs M r xs) (hv : -2147483648 ≤ v ∧ v < 2147483648)
    (h : Q (xs.countP (fun x => decide (x ≤ v)) : Nat) M) : CallI (d + 1) m_R_countUpTo [vR 1 r, vI v] M Q := by
  have hR0 := hR
  obtain ⟨g1, g2, g3⟩ := hR
  have hl := g3.1
  have ev : wI v = v := wI_eq hv.1 hv.2
  have en : wI (M 1 r 1) = (xs.length : Int) := by rw [g1]; exact w_n (by omega)
  refine T_R_countUpTo_0 (ok1 hr) ?_
  have loop : ∀ (f p : Nat), xs.length - p = f → p ≤ xs.length → (∀ i (hi : i < xs.length), i < p → xs[i] ≤ v) → RunQ (d + 1) m_R_countUpTo 2 [some (vR 1 r), some (vI v), some (vI (p : Int))] [] M (fun v M1 => ∃ x, v = some (vI x) ∧ Q x M1) := by
    have fin : ∀ p, p ≤ xs.length → (∀ i (hi : i < xs.length), i < p → xs[i] ≤ v) → (∀ i (hi : i < xs.length), p ≤ i → ¬ xs[i] ≤ v) → Q (p : Int) M := by
      intro p hp ha hb
      have e1 : xs.countP (fun x => decide (x ≤ v)) = p := by
        rw [← List.take_append_drop p xs, List.countP_append]
        have e2 : (xs.take p).countP (fun x => decide (x ≤ v)) = (xs.take p).length := by
          rw [List.countP_eq_length]
          intro x hx
          obtain ⟨i, hi, rfl⟩ := List.getElem_of_mem hx
          rw [List.getElem_take]
          rw [List.length_take] at hi
          exact decide_eq_true (ha i (by omega) (by omega))
        have e3 : (xs.drop p).countP (fun x => decide (x ≤ v)) = 0 := by
          rw [List.countP_eq_zero]
          intro x hx
          obtain ⟨i, hi, rfl⟩ := List.getElem_of_mem hx
          rw [List.getElem_drop]
          rw [List.length_drop] at hi
          simp only [decide_eq_true_eq]
          exact hb (p + i) (by omega) (by omega)
        rw [e2, e3, List.length_take]
        omega
      rw [e1] at h
      exact h
    intro f
    induction f with
    | zero =>
      intro p hf hp ha
      refine T_R_countUpTo_2 (ok1 hr) ⟨fun _ => ⟨_, rfl, fin p hp ha (fun i hi h2 => by omega)⟩, fun c => ?_⟩
      rw [en, w_n (by omega)] at c
      omega
    | succ f ih =>
      intro p hf hp ha
      have ep : wI (p : Int) = p := w_n (by omega)
      refine T_R_countUpTo_2 (ok1 hr) ⟨fun c => ?_, fun c => ?_⟩
      · rw [en, ep] at c
        omega
      · refine S_numberAt hr hR0 (by omega) ?_
        have hlt : p < xs.length := by omega
        have hx := g3.at hlt
        rw [nAt_in hlt, ev, wI_eq (z := xs[p]) (by omega) (by omega)]
        refine ⟨fun c2 => ⟨_, rfl, fin p hp ha (fun i hi h2 => ?_)⟩, fun c2 => ?_⟩
        · have := g3.le h2 hi
          omega
        · rw [show (p : Int) + 1 = ((p + 1 : Nat) : Int) by omega]
          refine ih (p + 1) (by omega) (by omega) (fun i hi h2 => ?_)
          by_cases hip : i = p
          · subst hip; omega
          · exact ha i hi (by omega)
  exact loop xs.length 0 (by omega) (by omega) (fun i hi h2 => by omega)
/-- isRising -/
theorem S_isRising {d r : Nat} {xs : List Int} {M : AMem} {Q : Int → AMem → Prop} (hr : r < 49) (hR : RIs M r xs) (h : Q 1 M) : CallI (d + 1) m_R_isRising [vR 1 r] M Q := by
  have hR0 := hR
  obtain ⟨g1, g2, g3⟩ := hR
  have hl := g3.1
  have en : wI (M 1 r 1) = (xs.length : Int) := by rw [g1]; exact w_n (by omega)
  refine T_R_isRising_0 (ok1 hr) ?_
  have loop : ∀ (f p : Nat), xs.length - p = f → 1 ≤ p → p ≤ 9 → RunQ (d + 1) m_R_isRising 2 [some (vR 1 r), some (vI (p : Int))] [] M (fun v M1 => ∃ x, v = some (vI x) ∧ Q x M1) := by
    intro f
    induction f with
    | zero =>
      intro p hf hp hp9
      refine T_R_isRising_2 (ok1 hr) ⟨fun _ => ⟨_, rfl, h⟩, fun c => ?_⟩
      rw [en, w_n (by omega)] at c
      omega
    | succ f ih =>
      intro p hf hp hp9
      have ep : wI (p : Int) = p := w_n (by omega)
      refine T_R_isRising_2 (ok1 hr) ⟨fun c => ?_, fun c => ?_⟩
      · rw [en, ep] at c
        omega
      · have hlt : p < xs.length := by omega
        have hlt1 : p - 1 < xs.length := by omega
        refine S_numberAt hr hR0 (by omega) (S_numberAt hr hR0 (by omega) ?_)
        have hx := g3.at hlt
        have hx1 := g3.at hlt1
        rw [nAt_in hlt, show (p : Int) - 1 = ((p - 1 : Nat) : Int) by omega, nAt_in hlt1, wI_eq (z := xs[p]) (by omega) (by omega), wI_eq (z := xs[p - 1]) (by omega) (by omega)]
        refine ⟨fun _ => ?_, fun c2 => absurd (g3.le (by omega) hlt) c2⟩
        rw [show (p : Int) + 1 = ((p + 1 : Nat) : Int) by omega]
        exact ih (p + 1) (by omega) (by omega) (by omega)
  exact loop (xs.length - 1) 1 (by omega) (by omega) (by omega)
