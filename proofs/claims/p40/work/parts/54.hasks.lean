/-! THE HOUSE: what is asked of its wells -/
def pek (n : Nat) (L : List Int) : Int := if n < 100 ∧ n < L.length then L.getD n 0 / 1024 else -9
theorem pek_in {n : Nat} {L : List Int} (h1 : n < 100) (h2 : n < L.length) : pek n L = L[n] / 1024 := by
  unfold pek
  rw [if_pos ⟨h1, h2⟩, List.getD_eq_getElem?_getD, List.getElem?_eq_getElem h2]
  rfl
theorem pek_out {n : Nat} {L : List Int} (h : dry n L) : pek n L = -9 := by
  unfold pek dry at *
  rw [if_neg (by omega)]
def ofW (c : CS) (cl n : Nat) (L : List Int) (q : Nat) : Int := match q with
  | 0 => cK c
  | 1 => n
  | 2 => (wq c n L).length
  | 3 => lastN n L
  | 4 => lpl c n L 1
  | 5 => lpl c n L 2
  | 6 => lpl c n L 3
  | 7 => if cK c ≠ -1 ∧ (100 ≤ n ∨ L.length ≤ n) then 1 else 0
  | 8 => climit c n
  | _ => cl
theorem S_ofWell {d w q : Nat} {H : HS} {M : AMem} {Q : Int → AMem → Prop} (hw5 : w < 5) (hq : q < 10) (hH : HIs M H)
    (h : Q (ofW (H.2.1 w).1 (H.2.1 w).2.1 (H.2.1 w).2.2.1 (H.2.1 w).2.2.2 q) M) : CallI (d + 10) m_H_ofWell [vR 3 0, vI (w : Int), vI (q : Int)] M Q := by
  refine T_H_ofWell_0 (S_findWell hw5 ⟨ok2 (by omega), S_within (by omega) (by omega) ?_⟩)
  have hW := hH.well hw5
  obtain ⟨w2, w3, w4, w5, w6, w7, wR, wQ, wO⟩ := id hW
  have h7 : w < 7 := by omega
  rw [w_n (show q < 2147483648 by omega)]
  refine ⟨fun z => ?_, fun z => ?_, fun z => ?_, fun z => ?_, fun z => ?_, fun z => ?_, fun z => ?_, fun z => ?_, fun z => ?_, fun z => ?_⟩
  · obtain rfl : q = 0 := by omega
    rw [w2]; exact ⟨_, rfl, h⟩
  · obtain rfl : q = 1 := by omega
    rw [w6]; exact ⟨_, rfl, h⟩
  · obtain rfl : q = 2 := by omega
    rw [wQ.1]; exact ⟨_, rfl, h⟩
  · obtain rfl : q = 3 := by omega
    exact S_lastNumber h7 hW ⟨_, rfl, h⟩
  · obtain rfl : q = 4 := by omega
    exact S_lastPlace (q := 1) h7 hW (Or.inl rfl) ⟨_, rfl, h⟩
  · obtain rfl : q = 5 := by omega
    exact S_lastPlace (q := 2) h7 hW (Or.inr (Or.inl rfl)) ⟨_, rfl, h⟩
  · obtain rfl : q = 6 := by omega
    exact S_lastPlace (q := 3) h7 hW (Or.inr (Or.inr rfl)) ⟨_, rfl, h⟩
  · obtain rfl : q = 7 := by omega
    unfold ofW at h
    refine S_isEmpty h7 hW (fun e => ?_) (fun e => ?_)
    · rw [if_neg (fun z => z.1 e)] at h
      exact ⟨fun _ => ⟨_, rfl, h⟩, fun z => absurd (by decide : ¬ wI 1 = 0) z⟩
    · refine ⟨fun z => absurd (by decide : wI 0 = 0) z, fun _ => ?_⟩
      refine S_isDry h7 hW (fun e1 => ?_) (fun e1 => ?_)
      · rw [if_pos ⟨e, e1⟩] at h
        exact ⟨fun z => absurd z (by decide), fun _ => ⟨_, rfl, h⟩⟩
      · rw [if_neg (fun z => e1 z.2)] at h
        exact ⟨fun _ => ⟨_, rfl, h⟩, fun z => absurd (by decide : wI 0 = 0) z⟩
  · obtain rfl : q = 8 := by omega
    exact S_limit h7 hW ⟨_, rfl, h⟩
  · obtain rfl : q = 9 := by omega
    rw [w5]; exact ⟨_, rfl, h⟩
theorem S_hpeek {d w : Nat} {H : HS} {M : AMem} {Q : Int → AMem → Prop} (hw5 : w < 5) (hH : HIs M H)
    (h : Q (pek (H.2.1 w).2.2.1 (H.2.1 w).2.2.2) M) : CallI (d + 10) m_H_peek [vR 3 0, vI (w : Int)] M Q := by
  refine T_H_peek_0 (S_findWell hw5 ⟨ok2 (by omega), ?_⟩)
  have hW := hH.well hw5
  refine S_isDry (by omega) hW (fun e1 => ?_) (fun e1 => ?_)
  · rw [pek_out e1] at h
    exact ⟨fun z => absurd z (by decide), fun _ => ⟨_, rfl, h⟩⟩
  · obtain ⟨a, b⟩ := not_dry e1
    rw [pek_in a b] at h
    exact ⟨fun _ => S_nextNumber (by omega) hW a b ⟨_, rfl, h⟩, fun z => absurd (by decide : wI 0 = 0) z⟩
theorem S_hnth {d w n : Nat} {H : HS} {M : AMem} {Q : Int → AMem → Prop} (hw5 : w < 5) (hn : n < 100) (hH : HIs M H) (hk : cK (H.2.1 w).1 ≠ -1)
    (h : ∀ M', HIs M' H → Q (nthV (crs (H.2.1 w).1) n) M') : CallI (d + 10) m_H_nth [vR 3 0, vI (w : Int), vI (n : Int)] M Q := by
  refine T_H_nth_0 (S_findWell hw5 ⟨ok2 (by omega), S_within (by omega) (by omega) ?_⟩)
  have hW := hH.well hw5
  refine S_isEmpty (by omega) hW (fun e => absurd e hk) (fun e => ?_)
  refine ⟨fun _ => ?_, fun z => absurd (by decide : wI 0 = 0) z⟩
  refine S_become (by omega) (by omega) hW fun M1 h1 f1 => ?_
  refine S_restart (by omega) h1.2.2.2.2.2.2.2.2.1 h1.1 h1.2.1 h1.2.2.1 h1.2.2.2.2.2.2.1 fun M2 h2 f2 => ?_
  refine S_numberBehind (by omega) h2 (by omega) fun M3 f3 => ?_
  exact ⟨_, rfl, h _ (hH.q (Or.inl rfl) ((f1.tr f2.fr).tr f3.fr))⟩
theorem S_hleast {d s n : Nat} {H : HS} {M : AMem} {Q : Int → AMem → Prop} (hs : 1 ≤ s ∧ s < 64) (hn : n < 48) (hH : HIs M H)
    (h : ∀ M', HIs M' H → Q (nthV (crs (3, (s : Int), 0, H.1)) n) M') : CallI (d + 10) m_H_least [vR 3 0, vI (s : Int), vI (n : Int)] M Q := by
  refine T_H_least_0 (S_within (by omega) (by omega) (S_within (by omega) (by omega) ?_))
  refine S_beginMerged (fl := 0) (by omega) hs.2 (Or.inl rfl) hH.1 fun M1 h1 f1 => ?_
  refine S_numberBehind (by omega) h1 (by omega) fun M2 f2 => ?_
  exact ⟨_, rfl, h _ (hH.q (Or.inl rfl) (f1.tr f2.fr))⟩
theorem S_hwaits {d w : Nat} {v : Int} {H : HS} {M : AMem} {Q : Int → AMem → Prop} (hw5 : w < 5) (hv : 0 ≤ v ∧ v ≤ 1000000) (hH : HIs M H) (hk : cK (H.2.1 w).1 ≠ -1)
    (h : Q ((wq (H.2.1 w).1 (H.2.1 w).2.2.1 (H.2.1 w).2.2.2).countP (fun x => decide (x / 1024 ≤ v)) : Nat) M) : CallI (d + 10) m_H_waits [vR 3 0, vI (w : Int), vI v] M Q := by
  refine T_H_waits_0 (S_findWell hw5 ⟨ok2 (by omega), S_within (by omega) (by omega) ?_⟩)
  have hW := hH.well hw5
  refine S_isEmpty (by omega) hW (fun e => absurd e hk) (fun e => ?_)
  refine ⟨fun _ => ?_, fun z => absurd (by decide : wI 0 = 0) z⟩
  exact S_qcount (by omega) hW.2.2.2.2.2.2.2.1 (by omega) ⟨_, rfl, h⟩
def up (c : CS) (v : Int) : Nat := (crs c).countP (fun x => decide (x / 1024 ≤ v))
theorem S_hupTo {d w : Nat} {v : Int} {H : HS} {M : AMem} {Q : Int → AMem → Prop} (hw5 : w < 5) (hv : 0 ≤ v ∧ v ≤ 1000000) (hH : HIs M H) (hk : cK (H.2.1 w).1 ≠ -1)
    (h1 : (cK (H.2.1 w).1 = 5 → v ≤ 600) → Q (up (H.2.1 w).1 v : Nat) M) (h0 : ¬ (cK (H.2.1 w).1 = 5 → v ≤ 600) → Q (-9) M) : CallI (d + 20) m_H_upTo [vR 3 0, vI (w : Int), vI v] M Q := by
  refine T_H_upTo_0 (S_findWell hw5 ⟨ok2 (by omega), S_within (by omega) (by omega) ?_⟩)
  have hW := hH.well hw5
  refine S_canCountTo (by omega) hW (by omega) (fun e => ?_) (fun e => ?_)
  · refine ⟨fun z => absurd z (by decide), fun _ => ?_⟩
    exact S_countUpTo (by omega) hW hk hv e.2 ⟨_, rfl, h1 e.2⟩
  · exact ⟨fun _ => ⟨_, rfl, h0 (fun z => e ⟨hk, z⟩)⟩, fun z => absurd (by decide : wI 0 = 0) z⟩
theorem S_hways {d w : Nat} {v : Int} {H : HS} {M : AMem} {Q : Int → AMem → Prop} (hw5 : w < 5) (hv : 1 ≤ v ∧ v ≤ 1000000) (hH : HIs M H) (hk : cK (H.2.1 w).1 ≠ -1)
    (h1 : (cK (H.2.1 w).1 = 5 → v ≤ 600) → Q ((up (H.2.1 w).1 v : Nat) - (up (H.2.1 w).1 (v - 1) : Nat)) M) (h0 : ¬ (cK (H.2.1 w).1 = 5 → v ≤ 600) → Q (-9) M) : CallI (d + 20) m_H_ways [vR 3 0, vI (w : Int), vI v] M Q := by
  refine T_H_ways_0 (S_findWell hw5 ⟨ok2 (by omega), S_within (by omega) (by omega) ?_⟩)
  have hW := hH.well hw5
  refine S_canCountTo (by omega) hW (by omega) (fun e => ?_) (fun e => ?_)
  · refine ⟨fun _ => ?_, fun z => absurd (by decide : ¬ wI 1 = 0) z⟩
    refine S_countUpTo (by omega) hW hk (by omega) e.2 ?_
    exact S_countUpTo (by omega) hW hk (by omega) (fun z => by have := e.2 z; omega) ⟨_, rfl, h1 e.2⟩
  · exact ⟨fun z => absurd (by decide : wI 0 = 0) z, fun _ => ⟨_, rfl, h0 (fun z => e ⟨hk, z⟩)⟩⟩
