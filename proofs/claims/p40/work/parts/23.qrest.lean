theorem QIs.lst {M : AMem} {q : Nat} {F : List Int} (h : QIs M q F) : ((List.range F.length).map (M 4 q)).Perm F := by
  rw [List.perm_iff_count]
  intro x
  rw [← h.2.2.1 x]
  have h1 := cnt_list ((List.range F.length).map (M 4 q)) (M 4 q) x (fun i hi => by simp)
  rw [List.length_map, List.length_range] at h1
  exact h1.symm
theorem QIs.of_lst {M : AMem} {q n : Nat} {F : List Int} (h1 : M 0 q 1 = n) (h2 : n ≤ 512) (h3 : ((List.range n).map (M 4 q)).Perm F) (h4 : hp (M 4 q) n) (h5 : ∀ x ∈ F, kOK x) : QIs M q F := by
  have hl : n = F.length := by have := h3.length_eq; simpa using this
  subst hl
  refine ⟨h1, h2, fun x => ?_, h4, h5⟩
  rw [← h3.count_eq]
  have h6 := cnt_list ((List.range F.length).map (M 4 q)) (M 4 q) x (fun i hi => by simp)
  rw [List.length_map, List.length_range] at h6
  exact h6
theorem QIs.congr2 {M M' : AMem} {q : Nat} {F : List Int} (h : QIs M q F) (h1 : M' 0 q 1 = M 0 q 1) (h2 : ∀ s, s < F.length → M' 4 q s = M 4 q s) : QIs M' q F := by
  obtain ⟨g1, g2, g3, g4, g5⟩ := h
  refine ⟨h1.trans g1, g2, fun x => by rw [cnt_congr h2]; exact g3 x, fun i h0 hi => ?_, g5⟩
  rw [h2 i hi, h2 _ (by omega)]
  exact g4 i h0 hi
theorem QIs.nil {M : AMem} {q : Nat} (h : M 0 q 1 = 0) : QIs M q [] := ⟨h, by simp, fun x => rfl, fun i h0 hi => by simp at hi, fun x hx => by cases hx⟩
/-- what refill takes of the first n -/
def fl (A : Nat → Int) (w : Int) (n : Nat) : List Int := ((List.range n).map A).filter (fun x => decide (¬ x % 1024 = w))
theorem fl_s (A : Nat → Int) (w : Int) (n : Nat) : fl A w (n + 1) = fl A w n ++ (if A n % 1024 = w then [] else [A n]) := by
  unfold fl
  rw [List.range_succ, List.map_append, List.filter_append]
  by_cases h : A n % 1024 = w
  · simp [h]
  · simp [h]
theorem fl_len (A : Nat → Int) (w : Int) (n : Nat) : (fl A w n).length ≤ n := by
  unfold fl
  have := List.length_filter_le (fun x => decide (¬ x % 1024 = w)) ((List.range n).map A)
  simpa using this
theorem refill_loop {d q n : Nat} {w : Int} {A : Nat → Int} {Q : Option AV → AMem → Prop} (hq : q < 7) (hn : n ≤ 512) (hw : -2147483648 ≤ w ∧ w < 2147483648) (hA : ∀ i, i < n → kOK (A i)) :
    ∀ (f p : Nat) (M : AMem) (u : Option AV), n - p = f → p ≤ n → QIs M q (fl A w p) → (∀ i, p ≤ i → i < n → M 4 q i = A i) →
      (∀ M', QIs M' q (fl A w n) → (∀ k i s, ¬ (k = 0 ∧ i = q ∧ s = 1) → ¬ (k = 4 ∧ i = q ∧ s < n) → M' k i s = M k i s) → Q none M') →
      RunQ (d + 1) m_Q_refill 7 [some (vR 0 q), some (vI (n : Int)), some (vI w), some (vI (p : Int)), u] [] M Q := by
  intro f
  induction f with
  | zero =>
    intro p M u hf hp hI hB hQ
    have : p = n := by omega
    subst this
    refine T_Q_refill_7 (ok0 hq) ⟨fun _ => hQ M hI (fun _ _ _ _ _ => rfl), fun c => absurd (Int.le_refl _) c⟩
  | succ f ih =>
    intro p M u hf hp hI hB hQ
    have en : wI (n : Int) = n := w_n (by omega)
    have ep : wI (p : Int) = p := w_n (by omega)
    have ew : wI w = w := wI_eq hw.1 hw.2
    have hAp := hA p (by omega)
    have hl := fl_len A w p
    refine T_Q_refill_7 (ok0 hq) ⟨fun c => ?_, fun c => ⟨fun c2 => ?_, fun c2 => ⟨by rw [ep]; constructor <;> omega, ?_⟩⟩⟩
    · rw [en, ep] at c
      omega
    · rw [ep] at c2
      omega
    · rw [ep, Int.toNat_natCast, hB p (Nat.le_refl _) (by omega)]
      refine S_tagOf hAp ?_
      rw [w_k (kOK_tag hAp), ew]
      refine ⟨fun c3 => ?_, fun c3 => ?_⟩
      · rw [show (p : Int) + 1 = ((p + 1 : Nat) : Int) by omega]
        refine ih (p + 1) M _ (by omega) (by omega) ?_ (fun i h1 h2 => hB i (by omega) h2) hQ
        rw [fl_s, if_pos c3, List.append_nil]
        exact hI
      · refine S_push hq hAp hI (by omega) (fun M1 g1 g2 => ?_)
        rw [show (p : Int) + 1 = ((p + 1 : Nat) : Int) by omega]
        refine ih (p + 1) M1 _ (by omega) (by omega) ?_ (fun i h1 h2 => ?_) (fun M2 g3 g4 => ?_)
        · rw [fl_s, if_neg c3]
          exact g1.perm (List.perm_append_comm (l₁ := [A p]))
        · rw [g2 4 q i (by omega) (by omega)]
          exact hB i (by omega) h2
        · refine hQ M2 g3 (fun k i s a b => ?_)
          rw [g4 k i s a b, g2 k i s a (fun z => b ⟨z.1, z.2.1, by omega⟩)]
theorem S_refill {d q n : Nat} {w : Int} {M : AMem} {Q : AMem → Prop} (hq : q < 7) (hn : n ≤ 512) (hw : -2147483648 ≤ w ∧ w < 2147483648) (hA : ∀ i, i < n → kOK (M 4 q i))
    (h : ∀ M', QIs M' q (fl (M 4 q) w n) → (∀ k i s, ¬ (k = 0 ∧ i = q ∧ s = 1) → ¬ (k = 4 ∧ i = q ∧ s < n) → M' k i s = M k i s) → Q M') : CallV (d + 1) m_Q_refill [vR 0 q, vI (n : Int), vI w] M Q := by
  refine T_Q_refill_0 (ok0 hq) ?_
  refine refill_loop (A := M 4 q) hq hn hw hA n 0 _ _ (by omega) (by omega) ?_ (fun i _ _ => aup_n (by omega)) (fun M' g1 g2 => ⟨rfl, h M' g1 (fun k i s a b => ?_)⟩)
  · exact QIs.nil (aup_s _ _ _ _ _)
  · rw [g2 k i s a b]
    exact aup_n a
/-- remove: all with this tag go -/
theorem S_remove {d q : Nat} {w : Int} {F : List Int} {M : AMem} {Q : AMem → Prop} (hq : q < 7) (hF : QIs M q F) (hw : -2147483648 ≤ w ∧ w < 2147483648)
    (h : ∀ M', QIs M' q (F.filter (fun x => decide (¬ x % 1024 = w))) → (∀ k i s, ¬ (k = 0 ∧ i = q) → ¬ (k = 4 ∧ i = q) → M' k i s = M k i s) → Q M') : CallV (d + 2) m_Q_remove [vR 0 q, vI w] M Q := by
  refine T_Q_remove_0 (ok0 hq) ?_
  rw [hF.1]
  refine S_refill hq hF.2.1 hw (fun i hi => (hF.ok hi).2) (fun M' g1 g2 => ⟨rfl, h M' (g1.perm ?_) (fun k i s a b => g2 k i s (fun z => a ⟨z.1, z.2.1⟩) (fun z => b ⟨z.1, z.2.1⟩))⟩)
  exact hF.lst.filter _
theorem turn_loop {d q n : Nat} {F : List Int} {Q : Option AV → AMem → Prop} (hq : q < 7) (hn : n = F.length) (hn2 : n ≤ 512) (hF : ∀ x ∈ F, kOK x) :
    ∀ (f : Nat) (M : AMem) (H T : List Int), QIs M q H → H.length = f → (H ++ T).Perm F → (∀ i (hi : i < T.length), M 4 q (f + i) = T[i]) →
      (∀ M', QIs M' q F → (∀ k i s, ¬ (k = 0 ∧ i = q) → ¬ (k = 4 ∧ i = q) → M' k i s = M k i s) → Q none M') →
      RunQ (d + 2) m_Q_turnOver 9 [some (vR 0 q), some (vI (n : Int)), some (vI ((f : Int) - 1))] [] M Q := by
  intro f
  induction f with
  | zero =>
    intro M H T hI hl hp hT hQ
    have hH : H = [] := List.eq_nil_of_length_eq_zero hl
    subst hH
    rw [List.nil_append] at hp
    have hTl : T.length = n := by rw [hn]; exact hp.length_eq
    refine T_Q_turnOver_9 (ok0 hq) ⟨fun _ => ?_, fun c => absurd (by decide) c⟩
    have hTe : (List.range n).map (M 4 q) = T := by
      apply List.ext_getElem
      · simp [hTl]
      · intro i h1 h2
        have h3 := hT i h2
        rw [Nat.zero_add] at h3
        simp [h3]
    refine S_refill hq hn2 (by decide) (fun i hi => ?_) (fun M' g1 g2 => hQ M' (g1.perm ?_) (fun k i s a b => g2 k i s (fun z => a ⟨z.1, z.2.1⟩) (fun z => b ⟨z.1, z.2.1⟩)))
    · have h3 := hT i (by omega)
      rw [Nat.zero_add] at h3
      rw [h3]
      exact hF _ (hp.mem_iff.mp (List.getElem_mem _))
    · unfold fl
      rw [hTe]
      refine List.Perm.trans (List.Perm.of_eq ?_) hp
      rw [List.filter_eq_self]
      intro x hx
      have := (hF x (hp.mem_iff.mp hx)).1
      simp only [decide_eq_true_eq]
      omega
  | succ f ih =>
    intro M H T hI hl hp hT hQ
    have hfn : f + 1 + T.length = n := by
      have := hp.length_eq
      rw [List.length_append] at this
      omega
    have ef : wI (((f + 1 : Nat) : Int) - 1) = f := by rw [wI_eq (by omega) (by omega)]; omega
    refine T_Q_turnOver_9 (ok0 hq) ⟨fun c => ?_, fun c => ⟨fun c2 => ?_, fun c2 => ?_⟩⟩
    · rw [ef] at c
      omega
    · rw [ef] at c2
      omega
    · have hroot := hp_root hI.2.2.2.1
      have hmem := (hI.ok (i := 0) (by omega)).1
      refine S_pop hq hI hmem (fun x hx => ?_) (fun M1 g1 g2 => ?_)
      · obtain ⟨i, h1, h2⟩ := hI.at hx
        rw [← h2]
        exact hroot i h1
      · refine ⟨by rw [ef]; constructor <;> omega, ?_⟩
        rw [ef, Int.toNat_natCast, show ((f + 1 : Nat) : Int) - 1 + (-1) = (f : Int) - 1 by omega]
        have hle : (H.erase (M 4 q 0)).length = f := by rw [List.length_erase_of_mem hmem]; omega
        refine ih _ (H.erase (M 4 q 0)) (M 4 q 0 :: T) (g1.congr2 (aup_n (by omega)) (fun s hs => aup_n (by omega))) hle ?_ ?_ ?_
        · refine List.Perm.trans ?_ hp
          refine List.Perm.trans List.perm_middle ?_
          exact (List.perm_cons_erase hmem).symm.append_right T
        · intro i hi
          cases i with
          | zero => exact aup_s _ _ _ _ _
          | succ i =>
            have h3 := hT i (by simpa using hi)
            rw [aup_n (by omega), g2 4 q (f + (i + 1)) (by omega) (by omega) (by omega), show f + (i + 1) = f + 1 + i by omega, h3]
            rfl
        · intro M2 g3 g4
          refine hQ M2 g3 (fun k i s a b => ?_)
          rw [g4 k i s a b, aup_n (fun z => b ⟨z.1, z.2.1⟩), g2 k i s (fun z => a ⟨z.1, z.2.1⟩) (fun z => b ⟨z.1, z.2.1⟩) (fun z => b ⟨z.1, z.2.1⟩)]
/-- turnOver: the same keys -/
theorem S_turnOver {d q : Nat} {F : List Int} {M : AMem} {Q : AMem → Prop} (hq : q < 7) (hF : QIs M q F)
    (h : ∀ M', QIs M' q F → (∀ k i s, ¬ (k = 0 ∧ i = q) → ¬ (k = 4 ∧ i = q) → M' k i s = M k i s) → Q M') : CallV (d + 2) m_Q_turnOver [vR 0 q] M Q := by
  refine T_Q_turnOver_0 (ok0 hq) ?_
  rw [hF.1]
  exact turn_loop hq rfl hF.2.1 hF.2.2.2.2 F.length M F [] hF rfl (by simp) (fun i hi => by simp at hi) (fun M' g1 g2 => ⟨rfl, h M' g1 g2⟩)
/-- holds: is there one with this tag -/
theorem S_holds {d q : Nat} {w : Int} {F : List Int} {M : AMem} {Q : Int → AMem → Prop} (hq : q < 7) (hF : QIs M q F) (hw : -2147483648 ≤ w ∧ w < 2147483648)
    (h1 : (∃ x ∈ F, x % 1024 = w) → Q 1 M) (h0 : (∀ x ∈ F, ¬ x % 1024 = w) → Q 0 M) : CallI (d + 1) m_Q_holds [vR 0 q, vI w] M Q := by
  refine T_Q_holds_0 (ok0 hq) ?_
  have ew : wI w = w := wI_eq hw.1 hw.2
  have en : wI (M 0 q 1) = (F.length : Int) := by rw [hF.1]; exact w_n (by have := hF.2.1; omega)
  have loop : ∀ (f p : Nat), F.length - p = f → p ≤ F.length → (∀ i, i < p → ¬ M 4 q i % 1024 = w) → RunQ (d + 1) m_Q_holds 2 [some (vR 0 q), some (vI w), some (vI (p : Int))] [] M (fun v M1 => ∃ x, v = some (vI x) ∧ Q x M1) := by
    intro f
    induction f with
    | zero =>
      intro p hf hp hn
      refine T_Q_holds_2 (ok0 hq) ⟨fun _ => ⟨_, rfl, h0 (fun x hx => ?_)⟩, fun c => ?_⟩
      · obtain ⟨i, g1, g2⟩ := hF.at hx
        rw [← g2]
        exact hn i (by omega)
      · rw [en, w_n (by have := hF.2.1; omega)] at c
        omega
    | succ f ih =>
      intro p hf hp hn
      have hl := hF.2.1
      have ep : wI (p : Int) = p := w_n (by omega)
      refine T_Q_holds_2 (ok0 hq) ⟨fun c => ?_, fun c => ⟨fun c2 => ?_, fun c2 => ⟨by rw [ep]; constructor <;> omega, ?_⟩⟩⟩
      · rw [en, ep] at c
        omega
      · rw [ep] at c2
        omega
      · rw [ep, Int.toNat_natCast]
        have hk := hF.ok (i := p) (by omega)
        refine S_tagOf hk.2 ?_
        rw [w_k (kOK_tag hk.2), ew]
        refine ⟨fun c3 => ?_, fun c3 => ⟨_, rfl, h1 ⟨_, hk.1, Classical.not_not.mp c3⟩⟩⟩
        rw [show (p : Int) + 1 = ((p + 1 : Nat) : Int) by omega]
        refine ih (p + 1) (by omega) (by omega) (fun i hi => ?_)
        by_cases hip : i = p
        · rw [hip]; exact c3
        · exact hn i (by omega)
  exact loop F.length 0 (by omega) (by omega) (fun i hi => by omega)
/-- countUpTo -/
theorem S_qcount {d q : Nat} {n : Int} {F : List Int} {M : AMem} {Q : Int → AMem → Prop} (hq : q < 7) (hF : QIs M q F) (hn : -2147483648 ≤ n ∧ n < 2147483648)
    (h : Q (F.countP (fun x => decide (x / 1024 ≤ n)) : Nat) M) : CallI (d + 1) m_Q_countUpTo [vR 0 q, vI n] M Q := by
  refine T_Q_countUpTo_0 (ok0 hq) ?_
  have ew : wI n = n := wI_eq hn.1 hn.2
  have hl := hF.2.1
  have en : wI (M 0 q 1) = (F.length : Int) := by rw [hF.1]; exact w_n (by omega)
  have loop : ∀ (f p : Nat), F.length - p = f → p ≤ F.length → RunQ (d + 1) m_Q_countUpTo 4 [some (vR 0 q), some (vI n), some (vI ((((List.range p).map (M 4 q)).countP (fun x => decide (x / 1024 ≤ n)) : Nat) : Int)), some (vI (p : Int))] [] M (fun v M1 => ∃ x, v = some (vI x) ∧ Q x M1) := by
    intro f
    induction f with
    | zero =>
      intro p hf hp
      have : p = F.length := by omega
      subst this
      refine T_Q_countUpTo_4 (ok0 hq) ⟨fun _ => ⟨_, rfl, ?_⟩, fun c => ?_⟩
      · rw [hF.lst.countP_eq]
        exact h
      · rw [en, w_n (by omega)] at c
        omega
    | succ f ih =>
      intro p hf hp
      have ep : wI (p : Int) = p := w_n (by omega)
      refine T_Q_countUpTo_4 (ok0 hq) ⟨fun c => ?_, fun c => ⟨fun c2 => ?_, fun c2 => ⟨by rw [ep]; constructor <;> omega, ?_⟩⟩⟩
      · rw [en, ep] at c
        omega
      · rw [ep] at c2
        omega
      · rw [ep, Int.toNat_natCast]
        have hk := hF.ok (i := p) (by omega)
        refine S_numberOf hk.2 ?_
        rw [w_k (kOK_num hk.2), ew]
        have e1 : (p : Int) + 1 = ((p + 1 : Nat) : Int) := by omega
        have h9 := ih (p + 1) (by omega) (by omega)
        rw [List.range_succ, List.map_append, List.countP_append] at h9
        refine ⟨fun c3 => ?_, fun c3 => ?_⟩
        · rw [e1]
          have e2 : ([p].map (M 4 q)).countP (fun x => decide (x / 1024 ≤ n)) = 0 := by
            simp only [List.map_cons, List.map_nil, List.countP_cons, List.countP_nil]
            rw [decide_eq_false (by omega)]
            rfl
          rw [e2, Nat.add_zero] at h9
          exact h9
        · rw [e1]
          have e2 : ([p].map (M 4 q)).countP (fun x => decide (x / 1024 ≤ n)) = 1 := by
            simp only [List.map_cons, List.map_nil, List.countP_cons, List.countP_nil]
            rw [decide_eq_true (by omega)]
            rfl
          rw [e2] at h9
          exact h9
  exact loop F.length 0 (by omega) (by omega)
/-- become -/
theorem S_qbecome {d q r : Nat} {F : List Int} {M : AMem} {Q : AMem → Prop} (hq : q < 7) (hr : r < 7) (hF : QIs M r F)
    (h : ∀ M', QIs M' q F → (∀ k i s, ¬ (k = 0 ∧ i = q) → ¬ (k = 4 ∧ i = q) → M' k i s = M k i s) → Q M') : CallV d m_Q_become [vR 0 q, vR 0 r] M Q := by
  refine T_Q_become_0 (ok0 hq) (ok0 hr) ⟨rfl, h _ ?_ (fun k i s a b => ?_)⟩
  · have e1 : ∀ s, s < F.length → aup (acopy M 4 r q 512) 0 q 1 ((acopy M 4 r q 512) 0 r 1) 4 q s = M 4 r s := by
      intro s hs
      rw [aup_n (by omega)]
      unfold acopy
      exact if_pos ⟨rfl, rfl, by have := hF.2.1; omega⟩
    obtain ⟨g1, g2, g3, g4, g5⟩ := hF
    refine ⟨?_, g2, fun x => by rw [cnt_congr e1]; exact g3 x, fun i h0 hi => ?_, g5⟩
    · rw [aup_s]
      unfold acopy
      rw [if_neg (by omega)]
      exact g1
    · rw [e1 i hi, e1 _ (by omega)]
      exact g4 i h0 hi
  · rw [aup_n (fun z => a ⟨z.1, z.2.1⟩)]
    exact acopy_out k i s (fun z => b z)
/-- firstNumber -/
theorem S_first {d q : Nat} {m : Int} {F : List Int} {M : AMem} {Q : Int → AMem → Prop} (hq : q < 7) (hF : QIs M q F) (hm : m ∈ F) (hmin : ∀ x ∈ F, m ≤ x) (h : Q (m / 1024) M) : CallI (d + 1) m_Q_firstNumber [vR 0 q] M Q := by
  have hl := List.length_pos_of_mem hm
  have en : wI (M 0 q 1) = (F.length : Int) := by rw [hF.1]; exact w_n (by have := hF.2.1; omega)
  refine T_Q_firstNumber_0 (ok0 hq) ⟨fun c => ?_, fun c => ?_⟩
  · rw [hF.min hm hmin]
    exact S_numberOf (hF.2.2.2.2 m hm) ⟨_, rfl, h⟩
  · rw [en] at c
    omega
