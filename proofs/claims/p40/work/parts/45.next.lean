theorem WIs.kd {M : AMem} {w cl n : Nat} {c : CS} {L : List Int} (h : WIs M w c cl n L) : wI (cK c) = cK c := wI_eq (by have := h.2.2.2.2.2.2.2.2.1.1; omega) (by have := h.2.2.2.2.2.2.2.2.1.1; omega)
theorem S_isEmpty {d w cl n : Nat} {c : CS} {L : List Int} {M : AMem} {Q : Int → AMem → Prop} (hw : w < 7) (hW : WIs M w c cl n L) (h1 : cK c = -1 → Q 1 M) (h0 : cK c ≠ -1 → Q 0 M) : CallI d m_W_isEmpty [vR 2 w] M Q := by
  refine T_W_isEmpty_0 (ok2 hw) ?_
  rw [hW.1, hW.kd]
  exact ⟨fun z => ⟨_, rfl, h0 z⟩, fun z => ⟨_, rfl, h1 (Classical.not_not.mp z)⟩⟩
def dry (n : Nat) (L : List Int) : Prop := 100 ≤ n ∨ L.length ≤ n
theorem L5_len {c : CS} {cl n : Nat} {L : List Int} (h : WOK c cl n L) (h5 : cK c = 5) : L = plist.map (fun p : Nat => (p : Int) * 1025) ∧ L.length = 109 := by
  have e := h.2.2.2.1 (h.2.2.2.2.1 (by omega))
  rw [crs_5 h5] at e
  refine ⟨e, ?_⟩
  rw [e, List.length_map]
  exact plist_len
theorem S_isDry {d w cl n : Nat} {c : CS} {L : List Int} {M : AMem} {Q : Int → AMem → Prop} (hw : w < 7) (hW : WIs M w c cl n L) (h1 : dry n L → Q 1 M) (h0 : ¬ dry n L → Q 0 M) : CallI d m_W_isDry [vR 2 w] M Q := by
  obtain ⟨w2, w3, w4, w5, w6, w7, wR, wQ, wO⟩ := id hW
  have hn := wO.2.1
  have hq := wQ.1
  have hql := wQ.2.1
  refine T_W_isDry_0 (ok2 hw) ?_
  rw [w2, hW.kd, w6, hq, w_n (show n < 2147483648 by omega), w_n (show (wq c n L).length < 2147483648 by omega)]
  refine ⟨fun z => ⟨_, rfl, h1 (Or.inl (by omega))⟩, fun z => ⟨fun z5 => ⟨_, rfl, h0 ?_⟩, fun z5 => ?_⟩⟩
  · have := (L5_len wO z5).2
    unfold dry
    omega
  · have e : wq c n L = fro (cpar c) L n := if_neg z5
    rw [e]
    refine ⟨fun z6 => ⟨_, rfl, h0 ?_⟩, fun z6 => ⟨_, rfl, h1 (Or.inr ?_)⟩⟩
    · rintro (g | g)
      · omega
      · rw [fro_end g] at z6
        exact z6 rfl
    · rcases Nat.lt_or_ge n L.length with g | g
      · have := List.length_pos_of_mem (fro_head (wO.2.2.2.2.2.1 z5).1 g)
        omega
      · exact g
theorem L5_at {L : List Int} {n : Nat} (hL : L = plist.map (fun p : Nat => (p : Int) * 1025)) (hl : n < L.length) (h : n < 109) : L[n] = ((pAt n : Nat) : Int) * 1025 := by
  obtain ⟨h1, h2⟩ := pAt_eq h
  rw [List.getElem_of_eq hL hl, List.getElem_map, h2]
theorem lastK5 {L : List Int} {n : Nat} (hL : L = plist.map (fun p : Nat => (p : Int) * 1025)) (h : n ≤ 109) : lastK n L = ((pLast n : Nat) : Int) * 1025 := by
  unfold lastK pLast
  by_cases hn : n = 0
  · rw [if_pos hn, if_pos hn]
    rfl
  · rw [if_neg hn, if_neg hn]
    have hl : n - 1 < L.length := by rw [hL, List.length_map, plist_len]; omega
    rw [← L5_at hL hl (by omega)]
    simp [List.getD, hl]
theorem pLast_le {n : Nat} (h : n ≤ 109) : pLast n ≤ 600 := by
  unfold pLast
  split
  · omega
  · exact (pAt_mem (by omega)).1
/-- the next prime, by trying -/
theorem S_next5 {d w n : Nat} {M : AMem} {Q : Int → AMem → Prop} (hw : w < 7) (hk : M 2 w 2 = 5) (hl : M 2 w 7 = ((pLast n : Nat) : Int) * 1025) (hn : n < 109) (h : Q ((pAt n : Nat) : Int) M) : CallI (d + 1) m_W_nextNumber [vR 2 w] M Q := by
  have hp := pLast_le (show n ≤ 109 by omega)
  have hlt := pLast_lt hn
  have hm := pAt_mem hn
  refine T_W_nextNumber_0 (ok2 hw) ⟨fun _ => ?_, fun z => absurd (by rw [hk]; decide) z⟩
  rw [hl]
  refine S_numberOf (by unfold kOK; omega) ?_
  have e : ((pLast n : Nat) : Int) * 1025 / 1024 + 1 = ((pLast n + 1 : Nat) : Int) := by omega
  rw [e]
  have loop : ∀ (f p : Nat), p + f = pAt n → pLast n < p → RunQ (d + 1) m_W_nextNumber 26 [some (vR 2 w), some (vI (p : Int))] [] M (fun v M1 => ∃ x, v = some (vI x) ∧ Q x M1) := by
    intro f
    induction f with
    | zero =>
      intro p hpf hlp
      have hpe : p = pAt n := by omega
      rw [hpe]
      refine T_W_nextNumber_26 (ok2 hw) ?_
      rw [w_n (show pAt n < 2147483648 by omega)]
      exact ⟨fun z => absurd z (by omega), fun _ => S_isPrimeW (by omega) (fun _ => ⟨fun z => absurd z (by decide), fun _ => ⟨_, rfl, h⟩⟩) (fun z => absurd hm.2 z)⟩
    | succ f ih =>
      intro p hpf hlp
      refine T_W_nextNumber_26 (ok2 hw) ?_
      rw [w_n (show p < 2147483648 by omega)]
      refine ⟨fun z => absurd z (by omega), fun _ => S_isPrimeW (by omega) (fun z => absurd z (no_prime hn hlp (by omega))) (fun _ => ⟨fun _ => ?_, fun z => absurd (by decide) z⟩)⟩
      rw [show (p : Int) + 1 = ((p + 1 : Nat) : Int) from rfl]
      exact ih (p + 1) (by omega) (by omega)
  exact loop (pAt n - (pLast n + 1)) (pLast n + 1) (by omega) (by omega)
/-- nextNumber, where it isn't dry -/
theorem S_nextNumber {d w cl n : Nat} {c : CS} {L : List Int} {M : AMem} {Q : Int → AMem → Prop} (hw : w < 7) (hW : WIs M w c cl n L) (h1 : n < 100) (hl : n < L.length) (h : Q (L[n] / 1024) M) : CallI (d + 2) m_W_nextNumber [vR 2 w] M Q := by
  obtain ⟨w2, w3, w4, w5, w6, w7, wR, wQ, wO⟩ := id hW
  by_cases h5 : cK c = 5
  · obtain ⟨e1, e2⟩ := L5_len wO h5
    rw [L5_at e1 hl (by omega)] at h
    have e3 : ((pAt n : Nat) : Int) * 1025 / 1024 = ((pAt n : Nat) : Int) := by
      have := (pAt_mem (show n < 109 by omega)).1
      omega
    rw [e3] at h
    exact S_next5 (n := n) hw (by rw [w2]; exact h5) (by rw [w7]; exact lastK5 e1 (by omega)) (by omega) h
  · have hCL := (wO.2.2.2.2.2.1 h5).1
    refine T_W_nextNumber_0 (ok2 hw) ?_
    rw [w2, hW.kd]
    refine ⟨fun z => absurd z h5, fun _ => ?_⟩
    have e : wq c n L = fro (cpar c) L n := if_neg h5
    rw [e] at wQ
    exact S_first hw wQ (fro_head hCL hl) (fun x hx => fro_le hCL.1 hl hx) ⟨_, rfl, h⟩
/-! the multiples -/
def sm (f : Nat → Nat) : Nat → Nat
  | 0 => 0
  | n + 1 => sm f n + f n
theorem sm_le {f : Nat → Nat} {b : Nat} : ∀ n, (∀ i, i < n → f i ≤ b) → sm f n ≤ n * b := by
  intro n
  induction n with
  | zero => intro _; simp [sm]
  | succ n ih =>
    intro h
    have h1 := ih (fun i hi => h i (by omega))
    have h2 := h n (by omega)
    rw [sm, Nat.succ_mul]
    omega
theorem sm_up {f g : Nat → Nat} {j : Nat} : ∀ n, j < n → (∀ i, i < n → i ≠ j → g i = f i) → sm g n + f j = sm f n + g j := by
  intro n
  induction n with
  | zero => intro h _; omega
  | succ n ih =>
    intro h he
    rw [sm, sm]
    by_cases hj : j = n
    · subst hj
      have : sm g j = sm f j := by
        have : ∀ m, m ≤ j → sm g m = sm f m := by
          intro m
          induction m with
          | zero => intro _; rfl
          | succ m im => intro hm; rw [sm, sm, im (by omega), he m (by omega) (by omega)]
        exact this j (Nat.le_refl _)
      omega
    · have h1 := ih (by omega) (fun i hi hne => he i (by omega) hne)
      have h2 := he n (by omega) (fun z => hj z.symm)
      omega
theorem map_up (f : Nat → Int) {j n : Nat} (v : Int) (h : j < n) : (v :: ((List.range n).map f).erase (f j)).Perm ((List.range n).map (up1 f j v)) := by
  rw [List.perm_iff_count]
  intro x
  have e1 : ∀ g : Nat → Int, ((List.range n).map g).count x = cnt g n x := by
    intro g
    have := cnt_list ((List.range n).map g) g x (fun i hi => by simp)
    rw [List.length_map, List.length_range] at this
    exact this.symm
  have hm : f j ∈ (List.range n).map f := List.mem_map.mpr ⟨j, List.mem_range.mpr h, rfl⟩
  have e2 := (List.perm_cons_erase hm).count_eq x
  have e3 := cnt_up (A := f) (v := v) h x
  rw [List.count_cons, e1] at e2
  rw [List.count_cons, e1]
  simp only [beq_iff_eq] at e2 ⊢
  omega
theorem pm_ge {p l : Nat} (hp : 0 < p) : l < pm p l ∧ p * p ≤ pm p l ∧ p ∣ pm p l := by
  unfold pm
  split
  · exact ⟨by assumption, Nat.le_refl _, Nat.dvd_mul_right _ _⟩
  · refine ⟨?_, ?_, Nat.dvd_mul_left _ _⟩
    · have := Nat.lt_div_mul_add (a := l) hp
      rw [Nat.succ_mul]
      exact this
    · have := Nat.lt_div_mul_add (a := l) hp
      rw [Nat.succ_mul]
      omega
theorem pm_least {p l m : Nat} (hp : 0 < p) (h1 : l < m) (h2 : p * p ≤ m) (h3 : p ∣ m) : pm p l ≤ m := by
  unfold pm
  split
  · exact h2
  · obtain ⟨q, rfl⟩ := h3
    have h4 : l / p < q := by
      rw [Nat.div_lt_iff_lt_mul hp, Nat.mul_comm]
      exact h1
    rw [Nat.mul_comm p q]
    exact Nat.mul_le_mul_right _ h4
theorem pm_le {p l : Nat} : pm p l ≤ p * p ∨ pm p l ≤ l + p := by
  unfold pm
  split
  · exact Or.inl (Nat.le_refl _)
  · right
    have := Nat.div_mul_le_self l p
    rw [Nat.succ_mul]
    omega
theorem pm_mono {p l k : Nat} (hp : 0 < p) (h : l ≤ k) : pm p l ≤ pm p k := by
  have := pm_ge (l := k) hp
  exact pm_least hp (by omega) this.2.1 this.2.2
