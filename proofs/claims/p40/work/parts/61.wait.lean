/-! WHAT IS SO OF ONE THAT WAITS -/
theorem opCmp_self (a : Int) : opCmp a a = 0 := by
  unfold opCmp
  rw [if_neg (by omega), if_pos rfl]
theorem last5 {c : CS} {cl n : Nat} {L : List Int} (h : WOK c cl n L) (h5 : cK c = 5) (h0 : n ≠ 0) : lastN n L = (pLast n : Nat) := by
  have hn := h.2.1
  have hp := pLast_le (n := n) (by omega)
  unfold lastN
  rw [if_neg h0, lastK5 (L5_len h h5).1 (by omega)]
  generalize pLast n = p at *
  omega
theorem wait_all {c : CS} {cl n : Nat} {L : List Int} (h : WOK c cl n L) {x : Int} (hx : x ∈ wq c n L) : x / 1024 ≤ 1000000 ∧ lastN n L ≤ x / 1024 ∧ (cK c = 5 → lastN n L < x / 1024) ∧ (cK c ≠ 5 → ∀ hl : n < L.length, L[n] / 1024 ≤ x / 1024) := by
  have hn := h.2.1
  unfold wq at hx
  by_cases h5 : cK c = 5
  · rw [if_pos h5] at hx
    unfold pq at hx
    obtain ⟨i, hi, ex⟩ := List.mem_map.mp hx
    rw [List.mem_range] at hi
    have hp := pAt_mem (n := i) (by omega)
    have h1 := (isP_iff.mp hp.2).1
    have hl := pLast_le (n := n) (by omega)
    have hg := (pm_ge (p := pAt i) (l := pLast n) (by omega)).1
    have hm : pm (pAt i) (pLast n) ≤ 361200 := by
      have h2 : pAt i * pAt i ≤ 600 * 600 := Nat.mul_le_mul hp.1 hp.1
      rcases pm_le (p := pAt i) (l := pLast n) with e | e <;> omega
    have hln : lastN n L = (pLast n : Nat) := last5 h h5 (by omega)
    rw [hln]
    have e2 : x / 1024 = ((pm (pAt i) (pLast n) : Nat) : Int) := by
      rw [← ex]
      have h3 := hp.1
      generalize pm (pAt i) (pLast n) = q at *
      generalize pAt i = p at *
      omega
    rw [e2]
    clear ex e2 hx hln
    generalize pm (pAt i) (pLast n) = q at *
    generalize pLast n = p at *
    exact ⟨by omega, by omega, fun _ => by omega, fun z => absurd h5 z⟩
  · rw [if_neg h5] at hx
    have hCL := (h.2.2.2.2.2.1 h5).1
    by_cases hl : n < L.length
    · have hle := fro_le hCL.1 hl hx
      have hm := ((mem_fro hCL.1 hl x).mp hx).1
      have hb := crs_ok h.1 (h.sub _ hm)
      refine ⟨by omega, ?_, fun z => absurd z h5, fun _ _ => by omega⟩
      unfold lastN
      by_cases h0 : n = 0
      · rw [if_pos h0]
        omega
      · rw [if_neg h0, last_at h0 h.2.2.1]
        have := srt_lt hCL.1 (i := n - 1) (j := n) hl (by omega)
        omega
    · rw [fro_end (by omega)] at hx
      exact absurd hx List.not_mem_nil
theorem wait_max {c : CS} {cl n : Nat} {L : List Int} (h : WOK c cl n L) : (wq c n L).countP (fun x => decide (x / 1024 ≤ 1000000)) = (wq c n L).length := by
  rw [List.countP_eq_length]
  intro x hx
  exact decide_eq_true (wait_all h hx).1
theorem wait_none {c : CS} {cl n : Nat} {L : List Int} {v : Int} (h : WOK c cl n L) (hv : v < lastN n L ∨ (cK c = 5 ∧ v ≤ lastN n L) ∨ (cK c ≠ 5 ∧ n < L.length ∧ v < L.getD n 0 / 1024)) : (wq c n L).countP (fun x => decide (x / 1024 ≤ v)) = 0 := by
  rw [List.countP_eq_zero]
  intro x hx z
  have z := of_decide_eq_true z
  obtain ⟨_, h1, h2, h3⟩ := wait_all h hx
  rcases hv with hv | ⟨h5, hv⟩ | ⟨h5, hl, hv⟩
  · omega
  · have := h2 h5
    omega
  · have := h3 h5 hl
    rw [List.getD_eq_getElem?_getD, List.getElem?_eq_getElem hl] at hv
    have e : (some L[n]).getD 0 = L[n] := rfl
    rw [e] at hv
    omega
theorem wait_some {c : CS} {cl n : Nat} {L : List Int} (h : WOK c cl n L) (h5 : cK c ≠ 5) (hl : n < L.length) : 0 < (wq c n L).countP (fun x => decide (x / 1024 ≤ L[n] / 1024)) := by
  rw [List.countP_pos_iff]
  refine ⟨L[n], ?_, decide_eq_true (Int.le_refl _)⟩
  unfold wq
  rw [if_neg h5]
  exact fro_head (h.2.2.2.2.2.1 h5).1 hl
theorem lastN_ok {c : CS} {cl n : Nat} {L : List Int} (h : WOK c cl n L) : -1 ≤ lastN n L ∧ lastN n L < 1000000 ∧ (0 ≤ lastN n L → n ≠ 0) ∧ (cK c = 5 → lastN n L ≤ 600) := by
  have hk := lastK_ok h
  have hn := h.2.1
  by_cases h0 : n = 0
  · unfold lastN
    rw [if_pos h0]
    exact ⟨by omega, by omega, fun z => by omega, fun _ => by omega⟩
  · refine ⟨?_, ?_, fun _ => h0, fun h5 => ?_⟩
    · unfold lastN
      rw [if_neg h0]
      omega
    · unfold lastN
      rw [if_neg h0]
      omega
    · rw [last5 h h5 h0]
      have := pLast_le (n := n) (by omega)
      omega
theorem nth_last {n : Nat} {L : List Int} (h0 : n ≠ 0) (h1 : n ≤ 100) (hl : n ≤ L.length) : nthV L (n - 1) = lastN n L := by
  rw [nthV_in (by omega) (show n - 1 < L.length by omega)]
  unfold lastN
  rw [if_neg h0, last_at h0 hl]
theorem pek_ok {c : CS} {cl n : Nat} {L : List Int} (h : WOK c cl n L) : (pek n L = -9 ∧ dry n L) ∨ (0 ≤ pek n L ∧ pek n L < 1000000 ∧ lastN n L ≤ pek n L ∧ n < 100 ∧ ∃ hl : n < L.length, pek n L = L[n] / 1024) := by
  by_cases hd : dry n L
  · exact Or.inl ⟨pek_out hd, hd⟩
  · obtain ⟨a, b⟩ := not_dry hd
    have e := pek_in a b
    have hb := crs_ok h.1 (h.sub _ (List.getElem_mem b))
    refine Or.inr ⟨by omega, by omega, ?_, a, b, e⟩
    rw [e]
    have hs : L.Pairwise (· < ·) := by
      by_cases h5 : cK c = 5
      · rw [h.2.2.2.1 (h.2.2.2.2.1 (by omega))]
        exact crs_srt h.1
      · exact (h.2.2.2.2.2.1 h5).1.1
    unfold lastN
    by_cases h0 : n = 0
    · rw [if_pos h0]
      omega
    · rw [if_neg h0, last_at h0 h.2.2.1]
      have := srt_lt hs (i := n - 1) (j := n) b (by omega)
      omega
theorem pek5 {c : CS} {cl n : Nat} {L : List Int} (h : WOK c cl n L) (h5 : cK c = 5) (hn : n < 100) : pek n L = (pAt n : Nat) := by
  have hl := L5_len h h5
  have hp := pAt_mem (n := n) (by omega)
  rw [pek_in hn (by omega), L5_at hl.1 (by omega) (by omega)]
  have h3 := hp.1
  generalize pAt n = p at *
  omega
theorem up_le {c : CS} {v : Int} (h : cOK c) : up c v ≤ 100001 := Nat.le_trans List.countP_le_length (crs_len h)
theorem pek_num {n : Nat} {L : List Int} (h1 : n < 100) (h2 : n < L.length) : pek n L = L.getD n 0 / 1024 := if_pos ⟨h1, h2⟩
