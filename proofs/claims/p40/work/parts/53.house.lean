/-! THE HOUSE: what lies in it, and its rows -/
abbrev WS : Type := CS × Nat × Nat × List Int
def WI (M : AMem) (w : Nat) (s : WS) : Prop := WIs M w s.1 s.2.1 s.2.2.1 s.2.2.2
abbrev HS : Type := (Nat → List Int) × (Nat → WS) × Int
def HIs (M : AMem) (H : HS) : Prop := (∀ r, r < 6 → RIs M (42 + r) (H.1 r)) ∧ RIs M 48 [0] ∧ (∀ w, w < 5 → WI M w (H.2.1 w)) ∧ M 3 0 5 = H.2.2 ∧ 0 ≤ M 9 1 0 ∧ M 9 1 0 ≤ 260
def hw (H : HS) (i : Nat) (s : WS) : HS := (H.1, fun v => if v = i then s else H.2.1 v, H.2.2)
def hr (H : HS) (i : Nat) (xs : List Int) : HS := (fun v => if v = i then xs else H.1 v, H.2.1, H.2.2)
theorem HIs.row {M : AMem} {H : HS} (h : HIs M H) {r : Nat} (hr : r < 6) : RIs M (42 + r) (H.1 r) := h.1 r hr
theorem HIs.well {M : AMem} {H : HS} (h : HIs M H) {w : Nat} (hw : w < 5) : WIs M w (H.2.1 w).1 (H.2.1 w).2.1 (H.2.1 w).2.2.1 (H.2.1 w).2.2.2 := h.2.2.1 w hw
theorem HIs.q {M M' : AMem} {H : HS} {v : Nat} (h : HIs M H) (hv : v = 5 ∨ v = 6) (f : Fr v M M') : HIs M' H := by
  obtain ⟨a, b, c, d, e1, e2⟩ := h
  refine ⟨fun r hr => f.row (by omega) (a r hr), f.row (by omega) b, fun w hw => f.well (by omega) (c w hw), ?_, ?_⟩
  · rw [f 3 0 5 (by omega) (by omega) (by omega) (by omega)]; exact d
  · rw [f 9 1 0 (by omega) (by omega) (by omega) (by omega)]; exact ⟨e1, e2⟩
theorem HIs.sw {M M' : AMem} {H : HS} {w : Nat} {s : WS} (h : HIs M H) (hw5 : w < 5) (f : Fr w M M') (hs : WI M' w s) : HIs M' (hw H w s) := by
  obtain ⟨a, b, c, d, e1, e2⟩ := h
  refine ⟨fun r hr => f.row (by omega) (a r hr), f.row (by omega) b, fun v hv => ?_, ?_, ?_⟩
  · show WI M' v (if v = w then s else H.2.1 v)
    by_cases e : v = w
    · rw [if_pos e, e]; exact hs
    · rw [if_neg e]; exact f.well e (c v hv)
  · rw [f 3 0 5 (by omega) (by omega) (by omega) (by omega)]; exact d
  · rw [f 9 1 0 (by omega) (by omega) (by omega) (by omega)]; exact ⟨e1, e2⟩
theorem HIs.sr {M M' : AMem} {H : HS} {r : Nat} {xs : List Int} (h : HIs M H) (hr6 : r < 6) (f : ∀ k i s, ¬ (k = 1 ∧ i = 42 + r) → ¬ (k = 5 ∧ i = 42 + r) → M' k i s = M k i s) (hs : RIs M' (42 + r) xs) : HIs M' (hr H r xs) := by
  obtain ⟨a, b, c, d, e1, e2⟩ := h
  have g : Fr 7 M M' := rowFr f (by omega)
  refine ⟨fun v hv => ?_, ?_, fun w hw => g.well (by omega) (c w hw), ?_, ?_⟩
  · show RIs M' (42 + v) (if v = r then xs else H.1 v)
    by_cases e : v = r
    · rw [if_pos e, e]; exact hs
    · rw [if_neg e]
      exact (a v hv).congr (f _ _ _ (by omega) (by omega)) (fun s => f _ _ _ (by omega) (by omega))
  · exact b.congr (f _ _ _ (by omega) (by omega)) (fun s => f _ _ _ (by omega) (by omega))
  · rw [g 3 0 5 (by omega) (by omega) (by omega) (by omega)]; exact d
  · rw [g 9 1 0 (by omega) (by omega) (by omega) (by omega)]; exact ⟨e1, e2⟩
theorem S_findRow {d r : Nat} {M : AMem} {Q : Nat → AMem → Prop} (hr : r < 6) (h : Q (42 + r) M) : CallR d 1 m_H_findRow [vR 3 0, vI (r : Int)] M Q := by
  refine T_H_findRow_0 ?_
  rw [w_n (show r < 2147483648 by omega)]
  refine ⟨fun z => by omega, fun _ => ⟨fun _ => ⟨by omega, _, rfl, ?_⟩, fun z => by omega⟩⟩
  rw [Int.toNat_natCast]
  exact h
theorem S_findWell {d w : Nat} {M : AMem} {Q : Nat → AMem → Prop} (hw : w < 5) (h : Q w M) : CallR d 2 m_H_findWell [vR 3 0, vI (w : Int)] M Q := by
  refine T_H_findWell_0 ?_
  rw [w_n (show w < 2147483648 by omega)]
  refine ⟨fun z => by omega, fun _ => ⟨fun _ => ⟨by omega, _, rfl, ?_⟩, fun z => by omega⟩⟩
  rw [Int.toNat_natCast]
  exact h
theorem S_place {d : Nat} {x m : Int} {M : AMem} {Q : AMem → Prop} (h1 : 0 ≤ x ∧ x < m) (h2 : m < 2147483648) (h : Q M) : CallV d m_H_requirePlace [vI x, vI m] M Q := by
  refine T_H_requirePlace_0 ?_
  rw [wI_eq (z := x) (by omega) (by omega), wI_eq (z := m) (by omega) (by omega)]
  exact ⟨fun z => by omega, fun _ => ⟨fun _ => ⟨rfl, h⟩, fun z => by omega⟩⟩
theorem S_within {d : Nat} {x a b : Int} {M : AMem} {Q : AMem → Prop} (h1 : a ≤ x ∧ x ≤ b) (h2 : -2147483648 ≤ a ∧ b < 2147483648) (h : Q M) : CallV d m_H_requireWithin [vI x, vI a, vI b] M Q := by
  refine T_H_requireWithin_0 ?_
  rw [wI_eq (z := x) (by omega) (by omega), wI_eq (z := a) (by omega) (by omega), wI_eq (z := b) (by omega) (by omega)]
  exact ⟨fun z => by omega, fun _ => ⟨fun _ => ⟨rfl, h⟩, fun z => by omega⟩⟩
theorem S_hadd {d r : Nat} {v : Int} {H : HS} {M : AMem} {Q : Int → AMem → Prop} (hr6 : r < 6) (hv : 0 ≤ v ∧ v ≤ 999) (hH : HIs M H) (h : ∀ z M' H', HIs M' H' → Q z M') : CallI (d + 10) m_H_add [vR 3 0, vI (r : Int), vI v] M Q := by
  refine T_H_add_0 (S_findRow hr6 ⟨ok1 (by omega), S_within (by omega) (by omega) ?_⟩)
  refine S_append (by omega) (hH.row hr6) hv ?_ ?_
  · intro _ _ M' hR hf
    exact ⟨fun z => ⟨_, rfl, h _ _ _ (hH.sr hr6 hf hR)⟩, fun z => ⟨_, rfl, h _ _ _ (hH.sr hr6 hf hR)⟩⟩
  · intro _
    exact ⟨fun z => ⟨_, rfl, h _ _ _ hH⟩, fun z => ⟨_, rfl, h _ _ _ hH⟩⟩
theorem S_hcut {d r : Nat} {H : HS} {M : AMem} {Q : Int → AMem → Prop} (hr6 : r < 6) (hH : HIs M H) (h : ∀ z M' H', HIs M' H' → Q z M') : CallI (d + 10) m_H_cut [vR 3 0, vI (r : Int)] M Q := by
  refine T_H_cut_0 (S_findRow hr6 ⟨ok1 (by omega), ?_⟩)
  have hR := hH.row hr6
  rw [hR.1, w_n (by have := hR.2.2.1; omega)]
  refine ⟨fun z => S_removeLast (by omega) hR (by intro e; rw [e] at z; exact z rfl) ?_, fun z => ⟨_, rfl, h _ _ _ hH⟩⟩
  intro M' hR' hf
  exact ⟨_, rfl, h _ _ _ (hH.sr hr6 hf hR')⟩
theorem fill_loop {d r : Nat} {x2 x3 : Int} {m : Nat} {H : HS} {Q : Option AV → AMem → Prop} (hr6 : r < 6) (h2 : 0 ≤ x2 ∧ x2 ≤ 99) (h3 : 0 ≤ x3 ∧ x3 ≤ 99) (hm : m ≤ 8) (h : ∀ z M' xs, HIs M' (hr H r xs) → Q (some (vI z)) M') :
    ∀ (f p : Nat) (M : AMem) (xs : List Int), p + f = 8 → HIs M (hr H r xs) → RunQ (d + 3) m_H_fill 38 [some (vR 3 0), some (vI (r : Int)), some (vI x2), some (vI x3), some (vI (m : Int)), some (vR 1 (42 + r)), some (vI (p : Int))] [] M Q := by
  intro f
  induction f with
  | zero =>
    intro p M xs hp hH
    refine T_H_fill_38 (ok1 (by omega)) ?_
    rw [w_n (show m < 2147483648 by omega), w_n (show p < 2147483648 by omega)]
    exact ⟨fun _ => h _ _ _ hH, fun z => by omega⟩
  | succ f ih =>
    intro p M xs hp hH
    refine T_H_fill_38 (ok1 (by omega)) ?_
    rw [w_n (show m < 2147483648 by omega), w_n (show p < 2147483648 by omega)]
    refine ⟨fun _ => h _ _ _ hH, fun z => ?_⟩
    have hR : RIs M (42 + r) xs := by
      have := hH.row hr6
      rw [show (hr H r xs).1 r = xs from if_pos rfl] at this
      exact this
    have hb : 0 ≤ (p : Int) * x3 ∧ (p : Int) * x3 ≤ 8 * 99 := ⟨Int.mul_nonneg (by omega) h3.1, Int.mul_le_mul (by omega) h3.2 h3.1 (by omega)⟩
    refine S_append (d := d + 1) (by omega) hR (by omega) ?_ ?_
    · intro _ _ M' hR' hf
      refine ih (p + 1) M' (xs ++ [x2 + (p : Int) * x3]) (by omega) ?_
      have := hH.sr hr6 hf hR'
      have e : hr (hr H r xs) r (xs ++ [x2 + (p : Int) * x3]) = hr H r (xs ++ [x2 + (p : Int) * x3]) := by
        unfold hr
        congr 1
        funext v
        by_cases e : v = r
        · rw [if_pos e, if_pos e]
        · rw [if_neg e, if_neg e]; exact if_neg e
      rw [e] at this
      exact this
    · intro _
      exact ih (p + 1) M xs (by omega) hH
theorem S_hfill {d r m : Nat} {x2 x3 : Int} {H : HS} {M : AMem} {Q : Int → AMem → Prop} (hr6 : r < 6) (h2 : 0 ≤ x2 ∧ x2 ≤ 99) (h3 : 0 ≤ x3 ∧ x3 ≤ 99) (hm : 1 ≤ m ∧ m ≤ 8) (hH : HIs M H) (h : ∀ z M' H', HIs M' H' → Q z M') : CallI (d + 10) m_H_fill [vR 3 0, vI (r : Int), vI x2, vI x3, vI (m : Int)] M Q := by
  refine T_H_fill_0 (S_findRow hr6 ⟨ok1 (by omega), S_within (by omega) (by omega) (S_within (by omega) (by omega) (S_within (by omega) (by omega) ?_))⟩)
  refine fill_loop (d := d + 7) (H := H) hr6 h2 h3 hm.2 (fun z M' xs hx => ⟨_, rfl, h _ _ _ hx⟩) 8 0 _ [] rfl ?_
  refine hH.sr hr6 (fun k i s e1 e2 => aup_n (by omega)) ⟨aup_s _ _ _ _ _, fun i hi => absurd hi (Nat.not_lt_zero i), Nat.zero_le 8, ?_, List.Pairwise.nil⟩
  intro x hx
  exact absurd hx List.not_mem_nil
theorem S_hrowSize {d r : Nat} {H : HS} {M : AMem} {Q : Int → AMem → Prop} (hr6 : r < 6) (hH : HIs M H) (h : Q ((H.1 r).length : Int) M) : CallI (d + 10) m_H_rowSize [vR 3 0, vI (r : Int)] M Q := by
  refine T_H_rowSize_0 (S_findRow hr6 ⟨ok1 (by omega), _, rfl, ?_⟩)
  rw [(hH.row hr6).1]
  exact h
theorem S_hrowAt {d r p : Nat} {H : HS} {M : AMem} {Q : Int → AMem → Prop} (hr6 : r < 6) (hp : p < 8) (hH : HIs M H) (h : Q (nAt (H.1 r) (p : Int)) M) : CallI (d + 10) m_H_rowAt [vR 3 0, vI (r : Int), vI (p : Int)] M Q := by
  refine T_H_rowAt_0 (S_findRow hr6 ⟨ok1 (by omega), S_place (by omega) (by omega) ?_⟩)
  exact S_numberAt (by omega) (hH.row hr6) (by omega) ⟨_, rfl, h⟩
