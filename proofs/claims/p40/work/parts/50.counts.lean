/-! HOW MANY ENTRIES, by the methods -/
theorem countP_grid (f : Nat → Bool) (b : Nat) : ∀ a, (List.range (a * b)).countP f = sm (fun i => (List.range b).countP (fun j => f (i * b + j))) a := by
  intro a
  induction a with
  | zero => simp [sm]
  | succ a ih =>
    rw [Nat.succ_mul, List.range_add, List.countP_append, ih, List.countP_map, sm]
    rfl
theorem sm_congr {f g : Nat → Nat} : ∀ n, (∀ i, i < n → f i = g i) → sm f n = sm g n := by
  intro n
  induction n with
  | zero => intro _; rfl
  | succ n ih =>
    intro h
    rw [sm, sm, ih (fun i hi => h i (by omega)), h n (by omega)]
theorem sm_cut {f : Nat → Nat} {m : Nat} : ∀ n, m ≤ n → (∀ i, m ≤ i → i < n → f i = 0) → sm f n = sm f m := by
  intro n
  induction n with
  | zero =>
    intro h _
    have : m = 0 := by omega
    rw [this]
  | succ n ih =>
    intro h hz
    by_cases hm : m = n + 1
    · rw [hm]
    · rw [sm, ih (by omega) (fun i a b => hz i a (by omega)), hz n (by omega) (by omega), Nat.add_zero]
theorem countP_zero {l : List Nat} {f : Nat → Bool} (h : ∀ x ∈ l, f x = false) : l.countP f = 0 := by
  rw [List.countP_eq_zero]
  intro x hx
  rw [h x hx]
  decide
theorem countP_cut {f : Nat → Bool} {m n : Nat} (h : m ≤ n) (hz : ∀ i, m ≤ i → i < n → f i = false) : (List.range n).countP f = (List.range m).countP f := by
  obtain ⟨k, rfl⟩ := Nat.exists_eq_add_of_le h
  rw [List.range_add, List.countP_append, countP_zero (l := (List.range k).map (fun x => m + x)), Nat.add_zero]
  intro x hx
  obtain ⟨i, hi, rfl⟩ := List.mem_map.mp hx
  have := List.mem_range.mp hi
  exact hz _ (by omega) (by omega)
/-- the entries' numbers, told three deep -/
theorem count_512 (f : Nat → Bool) : (List.range 512).countP f = sm (fun i => sm (fun j => (List.range 8).countP (fun k => f ((i * 8 + j) * 8 + k))) 8) 8 := by
  rw [show 512 = 8 * 64 from rfl, countP_grid]
  apply sm_congr
  intro i hi
  rw [show 64 = 8 * 8 from rfl, countP_grid]
  apply sm_congr
  intro j hj
  apply List.countP_congr
  intro k hk
  rw [show i * (8 * 8) + (j * 8 + k) = (i * 8 + j) * 8 + k by omega]
/-! grids -/
def cK1 (kd : Int) (R : Nat → List Int) (v : Int) (i j n : Nat) : Nat := (List.range n).countP (fun k => decide (gnum kd R i j k ≤ v))
def cJ1 (kd : Int) (R : Nat → List Int) (v : Int) (i n : Nat) : Nat := sm (fun j => cK1 kd R v i j (R 2).length) n
def cI1 (kd : Int) (R : Nat → List Int) (v : Int) (n : Nat) : Nat := sm (fun i => cJ1 kd R v i (R 1).length) n
theorem grid_count {kd : Int} {R : Nat → List Int} (v : Int) (h : ∀ j, j < 3 → rOK (R j)) : (gcrs 512 (gval R) (gkey kd R)).countP (fun x => decide (x / 1024 ≤ v)) = cI1 kd R v (R 0).length := by
  rw [gcrs_count, List.countP_filter, count_512]
  have h0 := (h 0 (by omega)).1
  have h1 := (h 1 (by omega)).1
  have h2 := (h 2 (by omega)).1
  have ht : ∀ i j k, i < 8 → j < 8 → k < 8 → tI ((i * 8 + j) * 8 + k) = i ∧ tJ ((i * 8 + j) * 8 + k) = j ∧ tK ((i * 8 + j) * 8 + k) = k := by
    intro i j k hi hj hk
    unfold tI tJ tK
    omega
  have hf : ∀ i j k, i < 8 → j < 8 → k < 8 → (decide (gkey kd R ((i * 8 + j) * 8 + k) / 1024 ≤ v) && gval R ((i * 8 + j) * 8 + k)) = (decide (i < (R 0).length) && (decide (j < (R 1).length) && (decide (k < (R 2).length) && decide (gnum kd R i j k ≤ v)))) := by
    intro i j k hi hj hk
    obtain ⟨a, b, c⟩ := ht i j k hi hj hk
    unfold gval gkey
    rw [a, b, c]
    have : ((gnum kd R i j k * 1024 + (((i * 8 + j) * 8 + k : Nat) : Int)) / 1024) = gnum kd R i j k := by omega
    rw [this]
    cases decide (i < (R 0).length) <;> cases decide (j < (R 1).length) <;> cases decide (k < (R 2).length) <;> cases decide (gnum kd R i j k ≤ v) <;> rfl
  unfold cI1
  rw [sm_cut (m := (R 0).length) 8 h0]
  · apply sm_congr
    intro i hi
    unfold cJ1
    rw [sm_cut (m := (R 1).length) 8 h1]
    · apply sm_congr
      intro j hj
      unfold cK1
      rw [countP_cut (m := (R 2).length) h2]
      · apply List.countP_congr
        intro k hk
        have hk := List.mem_range.mp hk
        rw [hf i j k (by omega) (by omega) (by omega), decide_eq_true hi, decide_eq_true hj, decide_eq_true hk]
        rfl
      · intro k a b
        rw [hf i j k (by omega) (by omega) (by omega), decide_eq_false (show ¬ k < (R 2).length by omega)]
        simp
    · intro j a b
      apply countP_zero
      intro k hk
      have hk := List.mem_range.mp hk
      rw [hf i j k (by omega) (by omega) (by omega), decide_eq_false (show ¬ j < (R 1).length by omega)]
      simp
  · intro i a b
    have : ∀ j, j < 8 → (List.range 8).countP (fun k => (decide (gkey kd R ((i * 8 + j) * 8 + k) / 1024 ≤ v) && gval R ((i * 8 + j) * 8 + k))) = 0 := by
      intro j hj
      apply countP_zero
      intro k hk
      have hk := List.mem_range.mp hk
      rw [hf i j k (by omega) (by omega) (by omega), decide_eq_false (show ¬ i < (R 0).length by omega)]
      simp
    have h3 := sm_cut (f := fun j => (List.range 8).countP (fun k => (decide (gkey kd R ((i * 8 + j) * 8 + k) / 1024 ≤ v) && gval R ((i * 8 + j) * 8 + k)))) (m := 0) 8 (by omega) (fun j _ hj => this j hj)
    exact h3
theorem S_countOfGrid {d w : Nat} {kd v : Int} {R : Nat → List Int} {M : AMem} {Q : Int → AMem → Prop} (hw : w < 7) (hk : M 2 w 2 = kd) (hkd : -1 ≤ kd ∧ kd ≤ 5) (hR : RW M w R) (hv : 0 ≤ v ∧ v ≤ 1000000)
    (h : Q (cI1 kd R v (R 0).length : Nat) M) : CallI (d + 2) m_W_countOfGrid [vR 2 w, vI v] M Q := by
  have g0 := (hR.ok (j := 0) (by omega)).1
  have g1 := (hR.ok (j := 1) (by omega)).1
  have g2 := (hR.ok (j := 2) (by omega)).1
  have r0 := (hR 0 (by omega)).1
  have r1 := (hR 1 (by omega)).1
  have r2 := (hR 2 (by omega)).1
  have ev : wI v = v := wI_eq (by omega) (by omega)
  refine T_W_countOfGrid_0 (ok2 hw) ?_
  have l3 : ∀ (i j : Nat), i < (R 0).length → j < (R 1).length → ∀ (f k many : Nat), k + f = (R 2).length →
      RunQ (d + 2) m_W_countOfGrid 20 [some (vR 2 w), some (vI v), some (vI ((many + cK1 kd R v i j (R 2).length : Nat) : Int)), some (vI (i : Int)), some (vI ((j + 1 : Nat) : Int)), some (vI (((R 2).length : Nat) : Int))] [] M (fun v M1 => ∃ x, v = some (vI x) ∧ Q x M1) →
      RunQ (d + 2) m_W_countOfGrid 37 [some (vR 2 w), some (vI v), some (vI ((many + cK1 kd R v i j k : Nat) : Int)), some (vI (i : Int)), some (vI (j : Int)), some (vI (k : Int))] [] M (fun v M1 => ∃ x, v = some (vI x) ∧ Q x M1) := by
    intro i j hi hj f
    induction f with
    | zero =>
      intro k many hk hQ
      have : k = (R 2).length := by omega
      subst this
      refine T_W_countOfGrid_37 (ok2 hw) ⟨fun _ => hQ, fun z => ?_⟩
      rw [r2] at z
      exact absurd (Int.le_refl _) z
    | succ f ih =>
      intro k many hkk hQ
      have hnum := gnum_ok (kd := kd) (R := R) (i := i) (j := j) (k := k) (fun j hj => hR.ok (by omega)) hi hj (by omega)
      have h9 := ih (k + 1) many (by omega) hQ
      refine T_W_countOfGrid_37 (ok2 hw) ?_
      rw [r2, w_n (show k < 2147483648 by omega), w_n (show (R 2).length < 2147483648 by omega), ev]
      refine ⟨fun z => absurd z (by omega), fun _ => S_gridNumber hw hk hkd hR (by omega) (by omega) (by omega) ?_⟩
      rw [wI_eq (z := gnum kd R i j k) (by omega) (by omega), show (k : Int) + 1 = ((k + 1 : Nat) : Int) from rfl]
      unfold cK1 at h9 ⊢
      rw [List.range_succ, List.countP_append, List.countP_singleton] at h9
      refine ⟨fun z => ?_, fun z => ?_⟩
      · rw [decide_eq_false (show ¬ gnum kd R i j k ≤ v by omega)] at h9
        exact h9
      · rw [decide_eq_true (show gnum kd R i j k ≤ v by omega)] at h9
        exact h9
  have l2 : ∀ (i : Nat), i < (R 0).length → ∀ (f j many : Nat) (u : Option AV), j + f = (R 1).length →
      (∀ u4 u5, RunQ (d + 2) m_W_countOfGrid 4 [some (vR 2 w), some (vI v), some (vI ((many + cJ1 kd R v i (R 1).length : Nat) : Int)), some (vI ((i + 1 : Nat) : Int)), u4, u5] [] M (fun v M1 => ∃ x, v = some (vI x) ∧ Q x M1)) →
      RunQ (d + 2) m_W_countOfGrid 20 [some (vR 2 w), some (vI v), some (vI ((many + cJ1 kd R v i j : Nat) : Int)), some (vI (i : Int)), some (vI (j : Int)), u] [] M (fun v M1 => ∃ x, v = some (vI x) ∧ Q x M1) := by
    intro i hi f
    induction f with
    | zero =>
      intro j many u hj hQ
      have : j = (R 1).length := by omega
      subst this
      refine T_W_countOfGrid_20 (ok2 hw) ⟨fun _ => hQ _ _, fun z => ?_⟩
      rw [r1] at z
      exact absurd (Int.le_refl _) z
    | succ f ih =>
      intro j many u hj hQ
      refine T_W_countOfGrid_20 (ok2 hw) ?_
      rw [r1, w_n (show j < 2147483648 by omega), w_n (show (R 1).length < 2147483648 by omega)]
      refine ⟨fun z => absurd z (by omega), fun _ => ?_⟩
      have h8 := l3 i j hi (by omega) (R 2).length 0 (many + cJ1 kd R v i j) (by omega)
      have e0 : many + cJ1 kd R v i j + cK1 kd R v i j 0 = many + cJ1 kd R v i j := by unfold cK1; simp
      rw [e0] at h8
      refine h8 ?_
      have h9 := ih (j + 1) many (some (vI (((R 2).length : Nat) : Int))) (by omega) hQ
      have e1 : cJ1 kd R v i (j + 1) = cJ1 kd R v i j + cK1 kd R v i j (R 2).length := rfl
      rw [e1, ← Nat.add_assoc] at h9
      exact h9
  have l1 : ∀ (f i : Nat) (u4 u5 : Option AV), i + f = (R 0).length → RunQ (d + 2) m_W_countOfGrid 4 [some (vR 2 w), some (vI v), some (vI ((cI1 kd R v i : Nat) : Int)), some (vI (i : Int)), u4, u5] [] M (fun v M1 => ∃ x, v = some (vI x) ∧ Q x M1) := by
    intro f
    induction f with
    | zero =>
      intro i u4 u5 hi
      have : i = (R 0).length := by omega
      subst this
      refine T_W_countOfGrid_4 (ok2 hw) ⟨fun _ => ⟨_, rfl, h⟩, fun z => ?_⟩
      rw [r0] at z
      exact absurd (Int.le_refl _) z
    | succ f ih =>
      intro i u4 u5 hi
      refine T_W_countOfGrid_4 (ok2 hw) ?_
      rw [r0, w_n (show i < 2147483648 by omega), w_n (show (R 0).length < 2147483648 by omega)]
      refine ⟨fun z => absurd z (by omega), fun _ => ?_⟩
      have h8 := l2 i (by omega) (R 1).length 0 (cI1 kd R v i) u5 (by omega)
      have e0 : cI1 kd R v i + cJ1 kd R v i 0 = cI1 kd R v i := rfl
      rw [e0] at h8
      refine h8 (fun u4 u5 => ?_)
      have h9 := ih (i + 1) u4 u5 (by omega)
      have e1 : cI1 kd R v (i + 1) = cI1 kd R v i + cJ1 kd R v i (R 1).length := rfl
      rw [e1] at h9
      exact h9
  exact l1 (R 0).length 0 none none (by omega)
/-! merged rows -/
def cR1 (s : Int) (R : Nat → List Int) (v : Int) (n : Nat) : Nat := sm (fun j => if memS s j = true then (R j).countP (fun x => decide (x ≤ v)) else 0) n
theorem row_count {xs : List Int} (v : Int) (h : rOK xs) : (List.range 8).countP (fun p => decide (p < xs.length) && decide (nAt xs (p : Int) ≤ v)) = xs.countP (fun x => decide (x ≤ v)) := by
  rw [countP_cut (m := xs.length) h.1 (fun i a _ => by rw [decide_eq_false (show ¬ i < xs.length by omega)]; rfl)]
  have e : xs = (List.range xs.length).map (fun p : Nat => nAt xs (p : Int)) := by
    apply List.ext_getElem
    · simp
    · intro i h1 h2
      simp [nAt_in h1]
  conv => rhs; rw [e]
  rw [List.countP_map]
  apply List.countP_congr
  intro p hp
  rw [decide_eq_true (List.mem_range.mp hp)]
  rfl
theorem merged_count {s fl : Int} {R : Nat → List Int} (v : Int) (hfl : fl = 0 ∨ fl = 1) (h : ∀ j, j < 6 → rOK (R j)) : (gcrs 512 (mval s fl R) (mkey fl R)).countP (fun x => decide (x / 1024 ≤ v)) = cR1 s R v 6 := by
  rw [gcrs_count, List.countP_filter, count_512]
  have ht : ∀ i j k, i < 8 → j < 8 → k < 8 → tI ((i * 8 + j) * 8 + k) = i ∧ tJ ((i * 8 + j) * 8 + k) = j ∧ tK ((i * 8 + j) * 8 + k) = k := by
    intro i j k hi hj hk
    unfold tI tJ tK
    omega
  have hf : ∀ i j k, i < 8 → j < 8 → k < 8 → (decide (mkey fl R ((i * 8 + j) * 8 + k) / 1024 ≤ v) && mval s fl R ((i * 8 + j) * 8 + k)) = (decide (k = 0) && (decide (i < 6) && (memS s (rk fl i) && (decide (j < (R (rk fl i)).length) && decide (nAt (R (rk fl i)) (j : Int) ≤ v))))) := by
    intro i j k hi hj hk
    obtain ⟨a, b, c⟩ := ht i j k hi hj hk
    unfold mval mkey
    rw [a, b, c]
    have : ((nAt (R (rk fl i)) (j : Int) * 1024 + (((i * 8 + j) * 8 + k : Nat) : Int)) / 1024) = nAt (R (rk fl i)) (j : Int) := by omega
    rw [this]
    cases decide (k = 0) <;> cases decide (i < 6) <;> cases memS s (rk fl i) <;> cases decide (j < (R (rk fl i)).length) <;> cases decide (nAt (R (rk fl i)) (j : Int) ≤ v) <;> rfl
  have inner : ∀ i, i < 8 → sm (fun j => (List.range 8).countP (fun k => (decide (mkey fl R ((i * 8 + j) * 8 + k) / 1024 ≤ v) && mval s fl R ((i * 8 + j) * 8 + k)))) 8 = if i < 6 then (if memS s (rk fl i) = true then (R (rk fl i)).countP (fun x => decide (x ≤ v)) else 0) else 0 := by
    intro i hi
    have hj1 : ∀ j, j < 8 → (List.range 8).countP (fun k => (decide (mkey fl R ((i * 8 + j) * 8 + k) / 1024 ≤ v) && mval s fl R ((i * 8 + j) * 8 + k))) = if (decide (i < 6) && (memS s (rk fl i) && (decide (j < (R (rk fl i)).length) && decide (nAt (R (rk fl i)) (j : Int) ≤ v)))) = true then 1 else 0 := by
      intro j hj
      rw [countP_cut (m := 1) (by omega) (fun k a b => by rw [hf i j k hi hj (by omega), decide_eq_false (show ¬ k = 0 by omega)]; rfl)]
      rw [show List.range 1 = [0] from rfl, List.countP_singleton, hf i j 0 hi hj (by omega)]
      rfl
    rw [sm_congr 8 hj1]
    have hs : ∀ (g : Nat → Bool) n, sm (fun j => if g j = true then 1 else 0) n = (List.range n).countP g := by
      intro g n
      induction n with
      | zero => rfl
      | succ n ih => rw [sm, ih, List.range_succ, List.countP_append, List.countP_singleton]
    rw [hs (fun j => (decide (i < 6) && (memS s (rk fl i) && (decide (j < (R (rk fl i)).length) && decide (nAt (R (rk fl i)) (j : Int) ≤ v)))))]
    by_cases h6 : i < 6
    · rw [if_pos h6, decide_eq_true h6]
      by_cases hm : memS s (rk fl i) = true
      · rw [if_pos hm, ← row_count v (h _ (rk_lt (fl := fl) h6)), hm]
        rfl
      · rw [if_neg hm]
        apply countP_zero
        intro x _
        simp [hm]
    · rw [if_neg h6]
      apply countP_zero
      intro x _
      simp [h6]
  rw [sm_congr 8 inner, sm_cut (m := 6) 8 (by omega) (fun i a b => if_neg (by omega))]
  unfold cR1
  rw [sm_congr (g := fun i => if memS s (rk fl i) = true then (R (rk fl i)).countP (fun x => decide (x ≤ v)) else 0) 6 (fun i hi => if_pos hi)]
  rcases hfl with rfl | rfl
  · rfl
  · have e0 : rk 1 0 = 5 := by decide
    have e1 : rk 1 1 = 4 := by decide
    have e2 : rk 1 2 = 3 := by decide
    have e3 : rk 1 3 = 2 := by decide
    have e4 : rk 1 4 = 1 := by decide
    have e5 : rk 1 5 = 0 := by decide
    simp only [sm, e0, e1, e2, e3, e4, e5]
    omega
theorem S_countOfRows {d w s : Nat} {v : Int} {R : Nat → List Int} {M : AMem} {Q : Int → AMem → Prop} (hw : w < 7) (hs : M 2 w 3 = (s : Int)) (hs2 : s < 64) (hR : RW M w R) (hv : 0 ≤ v ∧ v ≤ 1000000)
    (h : Q (cR1 s R v 6 : Nat) M) : CallI (d + 2) m_W_countOfRows [vR 2 w, vI v] M Q := by
  refine T_W_countOfRows_0 (ok2 hw) ?_
  have loop : ∀ (f j : Nat), j + f = 6 → RunQ (d + 2) m_W_countOfRows 4 [some (vR 2 w), some (vI v), some (vI ((cR1 s R v j : Nat) : Int)), some (vI (j : Int))] [] M (fun v M1 => ∃ x, v = some (vI x) ∧ Q x M1) := by
    intro f
    induction f with
    | zero =>
      intro j hj
      have : j = 6 := by omega
      subst this
      exact T_W_countOfRows_4 (ok2 hw) ⟨fun _ => ⟨_, rfl, h⟩, fun z => absurd (by decide) z⟩
    | succ f ih =>
      intro j hj
      have h9 := ih (j + 1) (by omega)
      have e : cR1 s R v (j + 1) = cR1 s R v j + (if memS s j = true then (R j).countP (fun x => decide (x ≤ v)) else 0) := rfl
      rw [e] at h9
      refine T_W_countOfRows_4 (ok2 hw) ?_
      rw [w_n (show j < 2147483648 by omega), hs, Int.toNat_natCast, show (j : Int) + 1 = ((j + 1 : Nat) : Int) from rfl]
      refine ⟨fun z => absurd z (by omega), fun _ => S_isMember hs2 (by omega) (fun hm => ⟨fun z => absurd z (by decide), fun _ => ⟨⟨by omega, by omega⟩, ?_⟩⟩) (fun hm => ⟨fun _ => ?_, fun z => absurd (by decide) z⟩)⟩
      · rw [if_pos hm] at h9
        exact S_rcount (by omega) (hR j (by omega)) (by omega) h9
      · rw [if_neg hm] at h9
        exact h9
  exact loop 6 0 (by omega)
/-- countUpTo -/
theorem S_countUpTo {d w cl n : Nat} {v : Int} {c : CS} {L : List Int} {M : AMem} {Q : Int → AMem → Prop} (hw : w < 7) (hW : WIs M w c cl n L) (hm1 : cK c ≠ -1) (hv : 0 ≤ v ∧ v ≤ 1000000) (h5 : cK c = 5 → v ≤ 600)
    (h : Q ((crs c).countP (fun x => decide (x / 1024 ≤ v)) : Nat) M) : CallI (d + 9) m_W_countUpTo [vR 2 w, vI v] M Q := by
  obtain ⟨w2, w3, w4, w5, w6, w7, wR, wQ, wO⟩ := id hW
  have hc := wO.1
  obtain ⟨s, es, es2⟩ := hc.set
  have ev : wI v = v := wI_eq (by omega) (by omega)
  refine T_W_countUpTo_0 (ok2 hw) ?_
  rw [w2, hW.kd, w3, ev]
  refine ⟨fun k0 => ?_, fun k3 => ?_, fun k5 => ?_, fun k0 k3 k5 => ?_⟩
  · rw [(crs_0 k0).1, ckt_crs _ v hv.1] at h
    have e : (if 100000 < v then (100000 : Int) else v) = ((min v.toNat 100000 : Nat) : Int) := by
      split <;> omega
    rw [e, es]
    rw [es] at h
    refine S_countProducts (s := s) es2 6 0 (d + 1) 1 (min v.toNat 100000) _ (by omega) (by omega) (by omega) (by omega) ⟨_, rfl, ?_⟩
    rw [Nat.div_one]
    exact h
  · rw [(crs_3 k3).1, merged_count v hc.2.2.1 hc.2.2.2.1, es] at h
    exact S_countOfRows hw (w3.trans es) es2 wR hv ⟨_, rfl, h⟩
  · have hv6 := h5 k5
    rw [crs_5 k5, List.countP_map] at h
    have e : plist.countP ((fun x => decide (x / 1024 ≤ v)) ∘ fun p : Nat => (p : Int) * 1025) = ((List.range (v.toNat + 1)).filter isP).length := by
      rw [← pcount_eq v.toNat (by omega)]
      apply List.countP_congr
      intro p hp
      have := (mem_plist.mp hp).1
      simp only [Function.comp, decide_eq_true_eq]
      omega
    rw [e] at h
    have e2 : v = ((v.toNat : Nat) : Int) := by omega
    rw [e2]
    exact S_countPrimes (by omega) ⟨_, rfl, h⟩
  · have kg : cK c = 1 ∨ cK c = 2 ∨ cK c = 4 := by have := hc.1; omega
    rw [(crs_g kg).1, grid_count v (fun j hj => hc.2.2.2.1 j (by omega))] at h
    exact S_countOfGrid hw w2 hc.1 wR hv ⟨_, rfl, h⟩
