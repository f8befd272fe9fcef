/-! WHAT IS ASKED OF A WELL -/
theorem lastK_mem {n : Nat} {L : List Int} (h0 : n ≠ 0) (h : n ≤ L.length) : lastK n L ∈ L := by
  unfold lastK
  rw [if_neg h0]
  have hl : n - 1 < L.length := by omega
  simp [List.getD, hl]
theorem lastK_ok {c : CS} {cl n : Nat} {L : List Int} (h : WOK c cl n L) : 0 ≤ lastK n L ∧ lastK n L < 1024000000 := by
  by_cases h0 : n = 0
  · unfold lastK
    rw [if_pos h0]
    omega
  · exact crs_ok h.1 (h.sub _ (lastK_mem h0 h.2.2.1))
def lastN (n : Nat) (L : List Int) : Int := if n = 0 then -1 else lastK n L / 1024
theorem S_lastNumber {d w cl n : Nat} {c : CS} {L : List Int} {M : AMem} {Q : Int → AMem → Prop} (hw : w < 7) (hW : WIs M w c cl n L) (h : Q (lastN n L) M) : CallI (d + 1) m_W_lastNumber [vR 2 w] M Q := by
  obtain ⟨w2, w3, w4, w5, w6, w7, wR, wQ, wO⟩ := id hW
  have hn := wO.2.1
  have hk := lastK_ok wO
  unfold lastN at h
  refine T_W_lastNumber_0 (ok2 hw) ?_
  rw [w6, w_n (show n < 2147483648 by omega), w7]
  refine ⟨fun z => ?_, fun z => ⟨_, rfl, ?_⟩⟩
  · rw [if_neg (by omega)] at h
    exact S_numberOf ⟨hk.1, by omega⟩ ⟨_, rfl, h⟩
  · rw [if_pos (by omega)] at h
    exact h
/-- the places of the last one -/
def lpl (c : CS) (n : Nat) (L : List Int) (q : Int) : Int := if n = 0 then -1 else if ¬ (cK c = 1 ∨ cK c = 2 ∨ cK c = 3 ∨ cK c = 4) then -1 else if q = 3 ∧ cK c ≠ 2 then -1 else if q = 1 then (if cK c = 3 then ((rk (cF c) (tI (tdec (lastK n L))) : Nat) : Int) else ((tI (tdec (lastK n L)) : Nat) : Int)) else if q = 2 then ((tJ (tdec (lastK n L)) : Nat) : Int) else ((tK (tdec (lastK n L)) : Nat) : Int)
theorem S_hasPlaces {d w cl n : Nat} {c : CS} {L : List Int} {M : AMem} {Q : Int → AMem → Prop} (hw : w < 7) (hW : WIs M w c cl n L) (h1 : (cK c = 1 ∨ cK c = 2 ∨ cK c = 3 ∨ cK c = 4) → Q 1 M) (h0 : ¬ (cK c = 1 ∨ cK c = 2 ∨ cK c = 3 ∨ cK c = 4) → Q 0 M) : CallI (d + 1) m_W_hasPlaces [vR 2 w] M Q := by
  refine T_W_hasPlaces_0 (ok2 hw) ?_
  rw [hW.1, hW.kd]
  refine ⟨fun z => ⟨_, rfl, h1 (by omega)⟩, fun z => S_isGrid hw hW.1 hW.2.2.2.2.2.2.2.2.1.1 (fun g => ⟨fun y => absurd y (by decide), fun _ => ⟨_, rfl, h1 (by omega)⟩⟩) (fun g => ⟨fun _ => ⟨_, rfl, h0 (by omega)⟩, fun y => absurd rfl y⟩)⟩
theorem tag_parts (x : Int) (h : 0 ≤ x) : x % 1024 / 64 = ((tI (tdec x) : Nat) : Int) ∧ x % 1024 / 8 % 8 = ((tJ (tdec x) : Nat) : Int) ∧ x % 1024 % 8 = ((tK (tdec x) : Nat) : Int) := by
  unfold tI tJ tK tdec
  omega
theorem S_lastPlace {d w cl n q : Nat} {c : CS} {L : List Int} {M : AMem} {Q : Int → AMem → Prop} (hw : w < 7) (hW : WIs M w c cl n L) (hq : q = 1 ∨ q = 2 ∨ q = 3) (h : Q (lpl c n L (q : Int)) M) : CallI (d + 2) m_W_lastPlace [vR 2 w, vI (q : Int)] M Q := by
  obtain ⟨w2, w3, w4, w5, w6, w7, wR, wQ, wO⟩ := id hW
  have hn := wO.2.1
  have hk := lastK_ok wO
  have hkk : kOK (lastK n L) := ⟨hk.1, by omega⟩
  have hkd := hW.kd
  obtain ⟨d1, d2, d3⟩ := dv8 (lastK n L % 1024) (by omega) (by omega)
  obtain ⟨p1, p2, p3⟩ := tag_parts (lastK n L) hk.1
  rw [p1] at d1
  rw [p2] at d2
  rw [p3] at d3
  refine T_W_lastPlace_0 (ok2 hw) ?_
  rw [w6, w_n (show n < 2147483648 by omega), w_n (show q < 2147483648 by omega)]
  unfold lpl at h
  refine ⟨fun z => ⟨_, rfl, ?_⟩, fun z => ?_⟩
  · rw [if_pos (by omega)] at h
    exact h
  · rw [if_neg (by omega)] at h
    refine S_hasPlaces hw hW (fun g => ⟨fun y => absurd y (by decide), fun _ => ?_⟩) (fun g => ⟨fun _ => ⟨_, rfl, ?_⟩, fun y => absurd rfl y⟩)
    · rw [if_neg (fun y => y g)] at h
      have tail : ¬ ((q : Int) = 3 ∧ cK c ≠ 2) → CallI (d + 1) m_Q_tagOf [vI (lastK n L)] M (fun y4 M3 => ((¬ (q : Int) = 1) → ((¬ (q : Int) = 2) → ∃ x, some (vI (Int.tmod (wI y4) (8))) = some (vI x) ∧ Q x M3) ∧ (¬ (¬ (q : Int) = 2) → ∃ x, some (vI (Int.tmod (wI (Int.tdiv (wI y4) (8))) (8))) = some (vI x) ∧ Q x M3)) ∧ (¬ (¬ (q : Int) = 1) → ((¬ wI (M3 2 w 2) = 3) → ∃ x, some (vI (Int.tdiv (wI y4) (64))) = some (vI x) ∧ Q x M3) ∧ (¬ (¬ wI (M3 2 w 2) = 3) → CallI (d + 1) m_W_rankOf [vR 2 w, vI (Int.tdiv (wI y4) (64))] M3 (fun y6 M5 => ∃ x, some (vI y6) = some (vI x) ∧ Q x M5)))) := by
        intro hne
        rw [if_neg hne] at h
        refine S_tagOf hkk ?_
        rw [d1, d2, d3, w2, hkd]
        refine ⟨fun y1 => ⟨fun y2 => ⟨_, rfl, ?_⟩, fun y2 => ⟨_, rfl, ?_⟩⟩, fun y1 => ⟨fun y2 => ⟨_, rfl, ?_⟩, fun y2 => ?_⟩⟩
        · rw [if_neg y1, if_neg y2] at h
          exact h
        · rw [if_neg y1, if_pos (Classical.not_not.mp y2)] at h
          exact h
        · rw [if_pos (Classical.not_not.mp y1), if_neg y2] at h
          exact h
        · have k3 := Classical.not_not.mp y2
          rw [if_pos (Classical.not_not.mp y1), if_pos k3] at h
          have hm := wO.sub _ (lastK_mem (by omega) wO.2.2.1)
          rw [(crs_3 k3).1] at hm
          obtain ⟨t, t1, t2, t3⟩ := (mem_gcrs _).mp hm
          have hd : tdec (lastK n L) = t := by rw [t3]; exact (merged_GH (s := cS c) (fl := cF c) wO.1.2.2.2.1).1 t t1 t2
          have hI := (mval_iff.mp t2).2.1
          rw [← hd] at hI
          exact S_rankOf hw w4 wO.1.2.2.1 hI ⟨_, rfl, h⟩
      rw [w2, w7, hkd]
      refine ⟨fun y3 => tail (by omega), fun y3 => ?_⟩
      refine ⟨fun y2 => tail (by omega), fun y2 => ⟨_, rfl, ?_⟩⟩
      rw [if_pos (show (q : Int) = 3 ∧ cK c ≠ 2 from ⟨Classical.not_not.mp y3, y2⟩)] at h
      exact h
    · rw [if_pos g] at h
      exact h
theorem S_limit {d w cl n : Nat} {c : CS} {L : List Int} {M : AMem} {Q : Int → AMem → Prop} (hw : w < 7) (hW : WIs M w c cl n L) (h : Q (climit c n : Nat) M) : CallI (d + 1) m_W_limit [vR 2 w] M Q := by
  obtain ⟨w2, w3, w4, w5, w6, w7, wR, wQ, wO⟩ := id hW
  have hn := wO.2.1
  have hc := wO.1
  obtain ⟨s, es, es2⟩ := hc.set
  have g0 := (wR.ok (j := 0) (by omega)).1
  have g1 := (wR.ok (j := 1) (by omega)).1
  have hmul : (cR c 0).length * (cR c 1).length ≤ 8 * 8 := Nat.mul_le_mul g0 g1
  unfold climit at h
  refine T_W_limit_0 (ok2 hw) ?_
  rw [w2, hW.kd, w3, w6, es, (wR 0 (by omega)).1, (wR 1 (by omega)).1]
  have emin : ∀ a b : Nat, a < 1000 → b < 1000 → (if wI (a : Int) < wI (b : Int) then (a : Int) else (b : Int)) = ((min b a : Nat) : Int) := by
    intro a b ha hb
    rw [w_n (show a < 2147483648 by omega), w_n (show b < 2147483648 by omega)]
    split <;> omega
  refine ⟨fun k => ?_, fun k => ⟨_, rfl, ?_⟩, fun k => ⟨_, rfl, ?_⟩, fun k => ?_, fun k => ⟨_, rfl, ?_⟩, fun k => ⟨_, rfl, ?_⟩⟩
  · rw [if_pos k, es] at h
    have hp := mems_pos s es2 (by have := hc.2.2.2.2.2 k; omega)
    refine S_bitCount es2 ⟨_, rfl, ?_⟩
    have e : 1 + (n : Int) * (((mems (s : Int)).length : Int) - 1) = ((1 + n * ((mems (s : Int)).length - 1) : Nat) : Int) := by
      rw [Int.natCast_add, Int.natCast_mul, Int.natCast_sub hp]
      rfl
    rw [e]
    exact h
  · rw [if_neg (by omega), if_pos (by omega)] at h
    rw [show (n : Int) + 1 = ((n + 1 : Nat) : Int) from rfl, emin _ _ (by omega) (by omega)]
    exact h
  · rw [if_neg (by omega), if_neg (by omega), if_pos k] at h
    rw [← Int.natCast_mul, show 2 * (n : Int) + 1 = ((2 * n + 1 : Nat) : Int) by omega, emin _ _ (by omega) (by omega)]
    exact h
  · rw [if_neg (by omega), if_neg (by omega), if_neg (by omega), if_pos k, es] at h
    exact S_bitCount es2 ⟨_, rfl, h⟩
  · rw [if_neg (by omega), if_pos (by omega)] at h
    rw [show (n : Int) + 1 = ((n + 1 : Nat) : Int) from rfl, emin _ _ (by omega) (by omega)]
    exact h
  · rw [if_neg (by omega), if_neg (by omega), if_neg (by omega), if_neg (by omega)] at h
    exact h
theorem S_canCountTo {d w cl n : Nat} {v : Int} {c : CS} {L : List Int} {M : AMem} {Q : Int → AMem → Prop} (hw : w < 7) (hW : WIs M w c cl n L) (hv : -1 ≤ v ∧ v ≤ 1000000) (h1 : (cK c ≠ -1 ∧ (cK c = 5 → v ≤ 600)) → Q 1 M) (h0 : ¬ (cK c ≠ -1 ∧ (cK c = 5 → v ≤ 600)) → Q 0 M) : CallI d m_W_canCountTo [vR 2 w, vI v] M Q := by
  refine T_W_canCountTo_0 (ok2 hw) ?_
  rw [hW.1, hW.kd, wI_eq (z := v) (by omega) (by omega)]
  refine ⟨fun z => ⟨_, rfl, h0 (by omega)⟩, fun z => ⟨fun z5 => ⟨_, rfl, h1 (by omega)⟩, fun z5 => ⟨fun z6 => ⟨_, rfl, h0 (by omega)⟩, fun z6 => ⟨_, rfl, h1 (by omega)⟩⟩⟩⟩
/-- the number behind n others, from the start on -/
def nthV (L : List Int) (n : Nat) : Int := if n < 100 ∧ n < L.length then L.getD n 0 / 1024 else -1
theorem nthV_in {L : List Int} {n : Nat} (h1 : n < 100) (h2 : n < L.length) : nthV L n = L[n] / 1024 := by
  unfold nthV
  rw [if_pos ⟨h1, h2⟩]
  simp [List.getD, h2]
theorem nthV_out {L : List Int} {n : Nat} (h : dry n L) : nthV L n = -1 := by
  unfold nthV
  rw [if_neg]
  unfold dry at h
  omega
theorem S_numberBehind {d w cl n : Nat} {c : CS} {L : List Int} {M : AMem} {Q : Int → AMem → Prop} (hw : w < 7) (hW : WIs M w c cl 0 L) (hn : n ≤ 100) (h : ∀ M', TF w M M' → Q (nthV L n) M') : CallI (d + 6) m_W_numberBehind [vR 2 w, vI (n : Int)] M Q := by
  refine T_W_numberBehind_0 (ok2 hw) ?_
  refine S_tellBelow hw hW (by omega) (by omega) (fun k M1 hk hI hT hL hend => ?_)
  rw [Nat.zero_add] at hI hend
  refine S_isDry hw hI (fun hd => ⟨fun z => absurd z (by decide), fun _ => ⟨_, rfl, ?_⟩⟩) (fun hd => ⟨fun _ => ?_, fun z => absurd rfl z⟩)
  · have hdn : dry n L := by
      unfold dry at hd ⊢
      omega
    have := h M1 hT
    rw [nthV_out hdn] at this
    exact this
  · obtain ⟨h1, h2⟩ := not_dry hd
    have hkn : k = n := by
      rcases hend with e | e | ⟨e, e2⟩
      · exact e
      · exact absurd e hd
      · have := (hI.num h2).2
        omega
    refine S_nextNumber hw hI h1 h2 ⟨_, rfl, ?_⟩
    have := h M1 hT
    rw [← hkn, nthV_in h1 h2] at this
    exact this
