def kf (m : Nat → Nat) (i : Nat) : Int := ((m i : Nat) : Int) * 1024 + ((pAt i : Nat) : Int)
def mup (m : Nat → Nat) (j v : Nat) : Nat → Nat := fun i => if i = j then v else m i
theorem kf_up (m : Nat → Nat) (j v : Nat) : up1 (kf m) j ((v : Int) * 1024 + ((pAt j : Nat) : Int)) = kf (mup m j v) := by
  funext i
  unfold up1 kf mup
  by_cases h : i = j
  · rw [if_pos h, if_pos h, h]
  · rw [if_neg h, if_neg h]
set_option maxRecDepth 20000 in
theorem tp_loop {d w n P : Nat} {Q : Option AV → AMem → Prop} (hw : w < 7) (hn : n < 100) (hP : P = pAt n) :
    ∀ (phi k : Nat) (m : Nat → Nat) (M : AMem) (u : Option AV), sm (fun i => pm (pAt i) P - m i) n ≤ phi → k + phi ≤ 500000 →
      (∀ i, i < n → pAt i ∣ m i ∧ pAt i * pAt i ≤ m i ∧ m i ≤ pm (pAt i) P) → QIs M w ((List.range n).map (kf m)) →
      (∀ M1, QIs M1 w ((List.range n).map (kf (fun i => pm (pAt i) P))) → QF w M M1 → ∀ M2, QIs M2 w ((((P * P : Nat) : Int) * 1024 + (P : Int)) :: (List.range n).map (kf (fun i => pm (pAt i) P))) → QF w (aup M1 2 w 7 ((P : Int) * 1024 + (P : Int))) M2 → Q none M2) →
      RunQ (d + 2) m_W_tellPrime 7 [some (vR 2 w), some (vI (P : Int)), some (vI (k : Int)), u] [] M Q := by
  have hPm := pAt_mem (show n < 109 by omega)
  rw [← hP] at hPm
  have hp600 : ∀ i, i < n → pAt i < P ∧ 1 < pAt i := fun i hi => ⟨by rw [hP]; exact pAt_lt (by omega) hi, (isP_iff.mp (pAt_mem (show i < 109 by omega)).2).1⟩
  have hP600 := hPm.1
  intro phi
  induction phi using Nat.strongRecOn with
  | _ phi ih =>
    intro k m M u h1 h2 h3 h4 h5
    have hql := h4.1
    rw [List.length_map, List.length_range] at hql
    have fin : (∀ i, i < n → m i = pm (pAt i) P) → CallI (d + 1) m_Q_keyOf [vI (P : Int), vI (P : Int)] M (fun y2 M1 => CallI (d + 1) m_Q_keyOf [vI ((P : Int) * (P : Int)), vI (P : Int)] (aup M1 2 w 7 y2) (fun y4 M3 => CallV (d + 1) m_Q_push [vR 0 w, vI y4] M3 (fun M5 => Q none M5))) := by
      intro hm
      have e : (List.range n).map (kf m) = (List.range n).map (kf (fun i => pm (pAt i) P)) := by
        apply List.map_congr_left
        intro i hi
        unfold kf
        rw [hm i (List.mem_range.mp hi)]
      rw [e] at h4
      have hPP : P * P ≤ 600 * 600 := Nat.mul_le_mul hP600 hP600
      refine S_keyOf (S_keyOf (S_push hw ?_ h4.aup2 (by rw [List.length_map, List.length_range]; omega) (fun M' q1 q2 => h5 M h4 QF.rf M' ?_ (fun k i s a b => q2 k i s (fun z => a ⟨z.1, z.2.1⟩) (fun z => b ⟨z.1, z.2.1⟩)))))
      · rw [← Int.natCast_mul]
        unfold kOK
        omega
      · rw [← Int.natCast_mul] at q1
        exact q1
    refine T_W_tellPrime_7 (ok2 hw) ?_
    rw [hql, w_n (show n < 2147483648 by omega), w_n (show k < 2147483648 by omega), w_n (show P < 2147483648 by omega)]
    refine ⟨fun z => absurd z (by omega), fun _ => ⟨fun z => fin (fun i hi => by omega), fun z => ?_⟩⟩
    have hlen : 0 < ((List.range n).map (kf m)).length := by rw [List.length_map, List.length_range]; omega
    have hmem := (h4.ok (i := 0) hlen).1
    have hmin : ∀ x ∈ (List.range n).map (kf m), M 4 w 0 ≤ x := by
      intro x hx
      obtain ⟨i, g1, g2⟩ := h4.at hx
      rw [← g2]
      exact hp_root h4.2.2.2.1 i g1
    obtain ⟨j, hj, hjk⟩ := List.mem_map.mp hmem
    have hj := List.mem_range.mp hj
    have hpj := hp600 j hj
    have hd1 : M 4 w 0 / 1024 = ((m j : Nat) : Int) := by rw [← hjk]; unfold kf; omega
    have hd2 : M 4 w 0 % 1024 = ((pAt j : Nat) : Int) := by rw [← hjk]; unfold kf; omega
    have hkk : kOK (M 4 w 0) := h4.2.2.2.2 _ hmem
    refine S_first hw h4 hmem hmin ?_
    rw [hd1]
    have hmj := (h3 j hj).2.2
    have htj : pm (pAt j) P ≤ 360000 + 600 := by
      have h600 : pAt j * pAt j ≤ 600 * 600 := Nat.mul_le_mul (by omega) (by omega)
      rcases pm_le (p := pAt j) (l := P) with g | g <;> omega
    rw [w_n (show m j < 2147483648 by omega)]
    refine ⟨fun c => fin (fun i hi => ?_), fun c => ?_⟩
    · have h6 := hmin (kf m i) (List.mem_map.mpr ⟨i, List.mem_range.mpr hi, rfl⟩)
      have hpi := hp600 i hi
      have h7 : m j ≤ m i := by
        rw [← hjk] at h6
        unfold kf at h6
        omega
      have h8 := h3 i hi
      have h9 := pm_least (p := pAt i) (l := P) (m := m i) (by omega) (by omega) h8.2.1 h8.1
      omega
    · have hst : m j + pAt j ≤ pm (pAt j) P := by
        have hg := pm_ge (p := pAt j) (l := P) (by omega)
        obtain ⟨a, ha⟩ := (h3 j hj).1
        obtain ⟨b, hb⟩ := hg.2.2
        have hab : a < b := by
          rcases Nat.lt_or_ge a b with g | g
          · exact g
          · have := Nat.mul_le_mul_left (pAt j) g
            omega
        have h6 := Nat.mul_le_mul_left (pAt j) (show a + 1 ≤ b by omega)
        rw [Nat.mul_succ] at h6
        omega
      have hsu := sm_up (f := fun i => pm (pAt i) P - m i) (g := fun i => pm (pAt i) P - (mup m j (m j + pAt j)) i) (j := j) n hj (fun i _ hne => by
        show pm (pAt i) P - (if i = j then _ else m i) = _
        rw [if_neg hne])
      have hgj : (mup m j (m j + pAt j)) j = m j + pAt j := if_pos rfl
      simp only [hgj] at hsu
      refine S_pop hw h4 hmem hmin (fun M1 q1 q2 => S_tagOf hkk ?_)
      rw [hd2]
      refine S_keyOf ?_
      have e1 : M 4 w 0 + (((pAt j : Nat) : Int) * 1024 + 0) = ((m j + pAt j : Nat) : Int) * 1024 + ((pAt j : Nat) : Int) := by
        rw [← hjk]
        unfold kf
        omega
      rw [e1]
      have hel : (((List.range n).map (kf m)).erase (M 4 w 0)).length < 512 := Nat.lt_of_le_of_lt List.length_erase_le (by rw [List.length_map, List.length_range]; omega)
      refine S_push hw (by unfold kOK; omega) q1 hel (fun M2 r1 r2 => ?_)
      have hQF : QF w M M2 := fun k i s a b => (r2 k i s (fun z => a ⟨z.1, z.2.1⟩) (fun z => b ⟨z.1, z.2.1⟩)).trans (q2 k i s (fun z => a ⟨z.1, z.2.1⟩) (fun z => b ⟨z.1, z.2.1⟩) (fun z => b ⟨z.1, z.2.1⟩))
      have hpm := map_up (kf m) (j := j) (n := n) (((m j + pAt j : Nat) : Int) * 1024 + ((pAt j : Nat) : Int)) hj
      rw [kf_up, hjk] at hpm
      rw [show (k : Int) + 1 = ((k + 1 : Nat) : Int) from rfl]
      refine ih _ (show sm (fun i => pm (pAt i) P - (mup m j (m j + pAt j)) i) n < phi by omega) (k + 1) (mup m j (m j + pAt j)) M2 _ (Nat.le_refl _) (by omega) (fun i hi => ?_) (r1.perm hpm) (fun M3 s1 s2 M4 s3 s4 => h5 M3 s1 (hQF.tr s2) M4 s3 s4)
      by_cases hij : i = j
      · rw [hij, hgj]
        exact ⟨(Nat.dvd_add_right (h3 j hj).1).mpr (Nat.dvd_refl _), Nat.le_trans (h3 j hj).2.1 (by omega), hst⟩
      · rw [show (mup m j (m j + pAt j)) i = m i from if_neg hij]
        exact h3 i hi
/-- tellPrime -/
theorem S_tellPrime {d w n : Nat} {M : AMem} {Q : AMem → Prop} (hw : w < 7) (hk : M 2 w 2 = 5) (hl : M 2 w 7 = ((pLast n : Nat) : Int) * 1025) (hn : n < 100) (hF : QIs M w (pq n))
    (h : ∀ M1 M2, QF w M M1 → QF w (aup M1 2 w 7 (((pAt n : Nat) : Int) * 1025)) M2 → QIs M2 w (pq (n + 1)) → Q M2) : CallV (d + 3) m_W_tellPrime [vR 2 w] M Q := by
  have hlt := pLast_lt (show n < 109 by omega)
  have hm := pAt_mem (show n < 109 by omega)
  have hp600 : ∀ i, i < n → pAt i < pAt n ∧ 1 < pAt i := fun i hi => ⟨pAt_lt (by omega) hi, (isP_iff.mp (pAt_mem (show i < 109 by omega)).2).1⟩
  refine T_W_tellPrime_0 (ok2 hw) (S_next5 hw hk hl (by omega) ?_)
  refine tp_loop (P := pAt n) hw hn rfl (n * 1200) 0 (fun i => pm (pAt i) (pLast n)) M _ ?_ (by omega) (fun i hi => ?_) hF (fun M1 q1 q2 M2 q3 q4 => ⟨rfl, h M1 M2 q2 ?_ ?_⟩)
  · refine sm_le n (fun i hi => ?_)
    have hpi := hp600 i hi
    have h1 := pm_ge (p := pAt i) (l := pLast n) (by omega)
    show pm (pAt i) (pAt n) - pm (pAt i) (pLast n) ≤ 1200
    rcases pm_le (p := pAt i) (l := pAt n) with g | g <;> omega
  · have hpi := hp600 i hi
    have h1 := pm_ge (p := pAt i) (l := pLast n) (by omega)
    exact ⟨h1.2.2, h1.2.1, pm_mono (by omega) (by omega)⟩
  · have e : ((pAt n : Nat) : Int) * 1024 + ((pAt n : Nat) : Int) = ((pAt n : Nat) : Int) * 1025 := by omega
    rw [e] at q4
    exact q4
  · have e : pLast (n + 1) = pAt n := by
      unfold pLast
      rw [if_neg (by omega)]
      rfl
    have e2 : pq (n + 1) = (List.range n).map (kf (fun i => pm (pAt i) (pAt n))) ++ [((pAt n * pAt n : Nat) : Int) * 1024 + ((pAt n : Nat) : Int)] := by
      unfold pq
      rw [e, List.range_succ, List.map_append]
      have h1 := (isP_iff.mp hm.2).1
      have h2 : pm (pAt n) (pAt n) = pAt n * pAt n := by
        unfold pm
        rw [if_pos]
        have := Nat.mul_lt_mul_of_lt_of_le h1 (Nat.le_refl (pAt n)) (by omega)
        omega
      show (List.range n).map (kf (fun i => pm (pAt i) (pAt n))) ++ [((pm (pAt n) (pAt n) : Nat) : Int) * 1024 + ((pAt n : Nat) : Int)] = _
      rw [h2]
    rw [e2]
    exact q3.perm (List.perm_append_comm (l₁ := [_]))
