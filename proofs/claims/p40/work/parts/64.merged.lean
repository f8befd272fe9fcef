/-! THE LAW: merged rows, and a copy without one of them -/
theorem same_nums {A B : List Int} (hA : A.Pairwise (· < ·)) (hB : B.Pairwise (· < ·)) (h : ∀ v, A.countP (fun x => decide (x / 1024 ≤ v)) = B.countP (fun x => decide (x / 1024 ≤ v))) :
    ∀ i (ha : i < A.length) (hb : i < B.length), ¬ A[i] / 1024 < B[i] / 1024 := by
  intro i ha hb hlt
  have h1 := cnt_ge (n := i + 1) hA (by omega) ha
  have h2 := cnt_lt (n := i + 1) hB (by omega) hb
  rw [lastK_s ha, h] at h1
  rw [lastK_s hb] at h2
  have h3 : B.countP (fun x => decide (x / 1024 ≤ A[i] / 1024)) ≤ B.countP (fun x => decide (x / 1024 ≤ B[i] / 1024 - 1)) := by
    refine List.countP_mono_left fun x _ hx => ?_
    have := of_decide_eq_true hx
    exact decide_eq_true (by omega)
  omega
theorem all_count {c : CS} (h : cOK c) : (crs c).countP (fun x => decide (x / 1024 ≤ 1000000)) = (crs c).length := by
  rw [List.countP_eq_length]
  intro x hx
  have := crs_ok h hx
  exact decide_eq_true (by omega)
theorem nth_same {a b : CS} (ha : cOK a) (hb : cOK b) (h : ∀ v, (crs a).countP (fun x => decide (x / 1024 ≤ v)) = (crs b).countP (fun x => decide (x / 1024 ≤ v))) (n : Nat) : nthV (crs a) n = nthV (crs b) n := by
  have hl : (crs a).length = (crs b).length := by rw [← all_count ha, ← all_count hb, h]
  by_cases h1 : n < 100 ∧ n < (crs a).length
  · have h2 : n < (crs b).length := by omega
    rw [nthV_in h1.1 h1.2, nthV_in h1.1 h2]
    have e1 := same_nums (crs_srt ha) (crs_srt hb) h n h1.2 h2
    have e2 := same_nums (crs_srt hb) (crs_srt ha) (fun v => (h v).symm) n h2 h1.2
    omega
  · have h1 : 100 ≤ n ∨ (crs a).length ≤ n := by omega
    rw [nthV_out h1, nthV_out (show 100 ≤ n ∨ (crs b).length ≤ n from by omega)]
theorem cOK_3 {s fl : Int} {R : Nat → List Int} (hs : 0 ≤ s ∧ s < 64) (hfl : fl = 0 ∨ fl = 1) (hR : ∀ j, j < 6 → rOK (R j)) : cOK (3, s, fl, R) := by
  unfold cOK cK cS cF cR
  dsimp only
  exact ⟨⟨by omega, by omega⟩, hs, hfl, hR, fun z => by omega, fun z => by omega⟩
theorem up3 {s fl v : Int} {R : Nat → List Int} (hfl : fl = 0 ∨ fl = 1) (hR : ∀ j, j < 6 → rOK (R j)) : (crs (3, s, fl, R)).countP (fun x => decide (x / 1024 ≤ v)) = cR1 s R v 6 := by
  rw [(crs_3 (c := (3, s, fl, R)) rfl).1]
  exact merged_count v hfl hR
theorem len3 {s fl : Int} {R : Nat → List Int} (hs : 0 ≤ s ∧ s < 64) (hfl : fl = 0 ∨ fl = 1) (hR : ∀ j, j < 6 → rOK (R j)) : (crs (3, s, fl, R)).length ≤ 48 := by
  rw [← all_count (cOK_3 hs hfl hR), up3 hfl hR]
  unfold cR1
  refine sm_le (b := 8) 6 fun i hi => ?_
  split
  · exact Nat.le_trans List.countP_le_length (hR i hi).1
  · omega
def now (x : Int) : Int := 64 * (x / 1024) + 8 * ((tI (tdec x) : Nat) : Int) + ((tJ (tdec x) : Nat) : Int)
theorem ix3 {s fl : Int} {R : Nat → List Int} (hc : cOK (3, s, fl, R)) {x : Int} (hx : x ∈ crs (3, s, fl, R)) : tI (tdec x) < 6 ∧ tJ (tdec x) < 8 ∧ tK (tdec x) = 0 ∧ x / 1024 < 1000000 ∧ 0 ≤ x := by
  obtain ⟨t, t1, t2, t3, t4⟩ := crs3_ix hc rfl hx
  have hb := crs_ok hc hx
  rw [t4]
  unfold mval at t2
  simp only [Bool.and_eq_true, decide_eq_true_eq] at t2
  refine ⟨t2.2.1, ?_, t2.1, by omega, hb.1⟩
  unfold tJ
  omega
theorem now_lt {s fl : Int} {R : Nat → List Int} (hc : cOK (3, s, fl, R)) {x y : Int} (hx : x ∈ crs (3, s, fl, R)) (hy : y ∈ crs (3, s, fl, R)) (h : x < y) : now x < now y := by
  obtain ⟨a1, a2, a3, _, a5⟩ := ix3 hc hx
  obtain ⟨b1, b2, b3, _, b5⟩ := ix3 hc hy
  obtain ⟨p1, p2, p3⟩ := tag_parts x a5
  obtain ⟨q1, q2, q3⟩ := tag_parts y b5
  unfold now
  omega
theorem now_b {s fl : Int} {R : Nat → List Int} (hc : cOK (3, s, fl, R)) {x : Int} (hx : x ∈ crs (3, s, fl, R)) : 0 ≤ now x ∧ now x < 100000000 := by
  obtain ⟨a1, a2, a3, a4, a5⟩ := ix3 hc hx
  unfold now
  omega
theorem filter_at {L : List Int} {p : Int → Bool} {k : Nat} (hk : k < L.length) (hp : p L[k] = true) : ∃ h : ((L.take k).filter p).length < (L.filter p).length, (L.filter p)[((L.take k).filter p).length] = L[k] := by
  have e : L.filter p = (L.take k).filter p ++ L[k] :: (L.drop (k + 1)).filter p := by
    conv => lhs; rw [← List.take_append_drop k L]
    rw [List.filter_append, List.drop_eq_getElem_cons hk, List.filter_cons, if_pos hp]
  have hl : ((L.take k).filter p).length < (L.filter p).length := by
    rw [e, List.length_append, List.length_cons]
    omega
  refine ⟨hl, ?_⟩
  have : (L.filter p)[((L.take k).filter p).length]? = some L[k] := by
    rw [e, List.getElem?_append_right (Nat.le_refl _), Nat.sub_self]
    rfl
  rw [List.getElem?_eq_getElem hl] at this
  exact Option.some.inj this
theorem filter_up {L : List Int} {p : Int → Bool} {k : Nat} (hk : k < L.length) : ((L.take (k + 1)).filter p).length = ((L.take k).filter p).length + (if p L[k] = true then 1 else 0) := by
  rw [List.take_succ_eq_append_getElem hk, List.filter_append, List.length_append, List.filter_cons]
  split <;> rfl
theorem clo_0 {c : CS} {L : List Int} {r : Nat} : clo c 0 L r = L.filter (fun x => decide (¬ rowOf c x = r)) := by
  unfold clo
  rw [List.take_zero, List.drop_zero, List.nil_append]
theorem lpl3 {s fl : Int} {R : Nat → List Int} {n : Nat} {L : List Int} (hl : n < L.length) : lpl (3, s, fl, R) (n + 1) L 1 = ((rowOf (3, s, fl, R) L[n] : Nat) : Int) ∧ lpl (3, s, fl, R) (n + 1) L 2 = ((tJ (tdec L[n]) : Nat) : Int) := by
  have e : lastK (n + 1) L = L[n] := lastK_s hl
  constructor
  · unfold lpl
    rw [if_neg (by omega), if_neg (fun z => z (Or.inr (Or.inr (Or.inl rfl)))), if_neg (fun z => absurd z.1 (by decide)), if_pos rfl, if_pos (show cK (3, s, fl, R) = 3 from rfl), e]
    rfl
  · unfold lpl
    rw [if_neg (by omega), if_neg (fun z => z (Or.inr (Or.inr (Or.inl rfl)))), if_neg (fun z => absurd z.1 (by decide)), if_neg (by decide), if_pos rfl, e]
