/-! where the objects lie: behind the first new cell, in the order in which they are made -/
def er_wb (i : Nat) : Nat := if i < 5 then 49 + 16 * i else 5 + 16 * (i - 5)
def er_ro (i : Nat) : Nat := if i < 42 then er_wb (i / 6) + 4 + 2 * (i % 6) else if i < 48 then 37 + 2 * (i - 42) else 2
def er_off (k i : Nat) : Nat := match k with
  | 0 => er_wb i + 2
  | 1 => er_ro i
  | 2 => er_wb i
  | 3 => 0
  | 4 => er_wb i + 3
  | 5 => er_ro i + 1
  | 6 => er_wb i + 1
  | 7 => 1
  | _ => 4
def er_objs : List (Nat × Nat) := [(3, 0), (7, 0), (1, 48), (5, 48), (8, 0), (2, 5), (6, 5), (0, 5), (4, 5), (1, 30), (5, 30), (1, 31), (5, 31), (1, 32), (5, 32), (1, 33), (5, 33), (1, 34), (5, 34), (1, 35), (5, 35), (2, 6), (6, 6), (0, 6), (4, 6), (1, 36), (5, 36), (1, 37), (5, 37), (1, 38), (5, 38), (1, 39), (5, 39), (1, 40), (5, 40), (1, 41), (5, 41), (1, 42), (5, 42), (1, 43), (5, 43), (1, 44), (5, 44), (1, 45), (5, 45), (1, 46), (5, 46), (1, 47), (5, 47), (2, 0), (6, 0), (0, 0), (4, 0), (1, 0), (5, 0), (1, 1), (5, 1), (1, 2), (5, 2), (1, 3), (5, 3), (1, 4), (5, 4), (1, 5), (5, 5), (2, 1), (6, 1), (0, 1), (4, 1), (1, 6), (5, 6), (1, 7), (5, 7), (1, 8), (5, 8), (1, 9), (5, 9), (1, 10), (5, 10), (1, 11), (5, 11), (2, 2), (6, 2), (0, 2), (4, 2), (1, 12), (5, 12), (1, 13), (5, 13), (1, 14), (5, 14), (1, 15), (5, 15), (1, 16), (5, 16), (1, 17), (5, 17), (2, 3), (6, 3), (0, 3), (4, 3), (1, 18), (5, 18), (1, 19), (5, 19), (1, 20), (5, 20), (1, 21), (5, 21), (1, 22), (5, 22), (1, 23), (5, 23), (2, 4), (6, 4), (0, 4), (4, 4), (1, 24), (5, 24), (1, 25), (5, 25), (1, 26), (5, 26), (1, 27), (5, 27), (1, 28), (5, 28), (1, 29), (5, 29)]
theorem er_objs_len : er_objs.length = 129 := by decide +kernel
theorem er_objs_off : ∀ n, n < 129 → (er_objs[n]?).all (fun q => er_off q.1 q.2 == n && decide (q.1 < 9) && okH q.1 q.2) = true := by decide +kernel
theorem er_off_objs0 : ∀ k, k < 9 → ∀ i, i < 49 → okH k i = true → er_objs[er_off k i]? = some (k, i) := by decide +kernel
theorem okH_lt {k i : Nat} (h : okH k i = true) : i < 49 := by
  unfold okH at h
  split at h <;> simp at h <;> omega
theorem er_off_objs {k i : Nat} (hk : k < 9) (h : okH k i = true) : er_objs[er_off k i]? = some (k, i) := er_off_objs0 k hk i (okH_lt h) h
theorem er_objs_at {n : Nat} {q : Nat × Nat} (h : er_objs[n]? = some q) : er_off q.1 q.2 = n ∧ q.1 < 9 ∧ okH q.1 q.2 = true := by
  have hn : n < 129 := by rw [← er_objs_len]; exact (List.getElem?_eq_some_iff.mp h).1
  have h1 := er_objs_off n hn
  rw [h] at h1
  simp only [Option.all_some, Bool.and_eq_true, beq_iff_eq, decide_eq_true_eq] at h1
  exact ⟨h1.1.1, h1.1.2, h1.2⟩
def er_ad (B b tB tF : Nat) (k i : Nat) : Nat := match k with
  | 9 => b
  | 10 => tB
  | 11 => tF
  | k => B + er_off k i
theorem er_ad_lt {B b tB tF k i : Nat} (h : k < 9) : er_ad B b tB tF k i = B + er_off k i := by
  unfold er_ad
  split <;> first | omega | rfl
/-- what lies at an object's place -/
def ent (ad : Nat → Nat → Nat) (cI cR cW : ClassId) (M : AMem) (k i : Nat) : va_E := match k with
  | 4 => .inl (cI, 512, .inl (fun j => Int32.ofInt (M 4 i j)))
  | 5 => .inl (cI, 8, .inl (fun j => Int32.ofInt (M 5 i j)))
  | 6 => .inl (cR, 6, .inr (.inr (.inr (.inr (fun j => (aref 6 i j).map (fun q => ad q.1 q.2))))))
  | 7 => .inl (cR, 6, .inr (.inr (.inr (.inr (fun j => (aref 7 i j).map (fun q => ad q.1 q.2))))))
  | 8 => .inl (cW, 5, .inr (.inr (.inr (.inr (fun j => (aref 8 i j).map (fun q => ad q.1 q.2))))))
  | k => .inr (k, (List.range (nF k)).map (fun s => tv ad (fval k i s M)))
theorem ent_obj (ad : Nat → Nat → Nat) (cI cR cW : ClassId) (M : AMem) {k : Nat} (i : Nat) (h : k < 4) : ent ad cI cR cW M k i = .inr (k, (List.range (nF k)).map (fun s => tv ad (fval k i s M))) := by
  unfold ent
  split <;> first | omega | rfl
theorem fval_congr {M M' : AMem} {k i : Nat} (s : Nat) (h : ∀ s, M' k i s = M k i s) : fval k i s M' = fval k i s M := by
  unfold fval
  split <;> first | rfl | rw [h]
theorem ent_congr {ad : Nat → Nat → Nat} {cI cR cW : ClassId} {M M' : AMem} {k i : Nat} (h : ∀ s, M' k i s = M k i s) : ent ad cI cR cW M' k i = ent ad cI cR cW M k i := by
  unfold ent
  split
  · simp only [h]
  · simp only [h]
  · rfl
  · rfl
  · rfl
  · simp only [fval_congr _ h]
def er_ws (ad : Nat → Nat → Nat) (cI cR cW : ClassId) (M : AMem) : va_W := er_objs.map (fun q => (ad q.1 q.2, ent ad cI cR cW M q.1 q.2))
theorem er_ws_at {ad : Nat → Nat → Nat} {cI cR cW : ClassId} {M : AMem} {k i : Nat} (hk : k < 9) (h : okH k i = true) : (er_ws ad cI cR cW M)[er_off k i]? = some (ad k i, ent ad cI cR cW M k i) := by
  rw [er_ws, List.getElem?_map, er_off_objs hk h]
  rfl
theorem er_ws_set {ad : Nat → Nat → Nat} {cI cR cW : ClassId} {M M' : AMem} {k i : Nat} (hk : k < 9) (h : okH k i = true) (hM : ∀ k' i' s, (k' = k ∧ i' = i → False) → M' k' i' s = M k' i' s) : (er_ws ad cI cR cW M).set (er_off k i) (ad k i, ent ad cI cR cW M' k i) = er_ws ad cI cR cW M' := by
  apply List.ext_getElem?
  intro n
  by_cases hn : er_off k i = n
  · subst hn
    rw [er_ws_at hk h, List.getElem?_set_self]
    exact (List.getElem?_eq_some_iff.mp (er_ws_at (ad := ad) (cI := cI) (cR := cR) (cW := cW) (M := M) hk h)).1
  · rw [List.getElem?_set_ne hn, er_ws, er_ws, List.getElem?_map, List.getElem?_map]
    cases hq : er_objs[n]? with
    | none => rfl
    | some q =>
      have h1 := er_objs_at hq
      simp only [Option.map_some]
      rw [ent_congr (M := M) (M' := M') (k := q.1) (i := q.2) (fun s => hM q.1 q.2 s (fun z => hn (by rw [← z.1, ← z.2]; exact h1.1)))]
theorem er_ws_D (B b tB tF : Nat) (cI cR cW : ClassId) (M : AMem) : va_D (fun q => B ≤ q) (er_ws (er_ad B b tB tF) cI cR cW M) := by
  refine ⟨fun i j p q hi hj hpq => ?_, fun k q hk => ?_⟩
  · rw [er_ws, List.getElem?_map] at hi hj
    cases hx : er_objs[i]? with
    | none => rw [hx] at hi; cases hi
    | some x =>
      cases hy : er_objs[j]? with
      | none => rw [hy] at hj; cases hj
      | some y =>
        rw [hx] at hi
        rw [hy] at hj
        cases hi
        cases hj
        have h1 := er_objs_at hx
        have h2 := er_objs_at hy
        simp only [er_ad_lt h1.2.1, er_ad_lt h2.2.1] at hpq
        omega
  · rw [er_ws, List.getElem?_map] at hk
    cases hx : er_objs[k]? with
    | none => rw [hx] at hk; cases hk
    | some x =>
      rw [hx] at hk
      cases hk
      have h1 := er_objs_at hx
      simp only [er_ad_lt h1.2.1]
      omega
/-- what is so of the start of every method, and never changes: the tables, the script, the two rows of primes -/
def er_S (D : va_G) (cI cR cW : ClassId) (B b L tB tF : Nat) (xs : Nat → Int32) (s : State) : Prop :=
  B ≤ s.heap.size ∧ va_K D er_cl [(cI, .int), (cR, .object RX1), (cW, .object RX2)] s ∧ b < B ∧ va_X b L xs s s.heap ∧
  va_Z RX3 "BASES" "[I" (.ref tB) (fun q => B ≤ q) s s.heap ∧ va_T .int tB 6 (fun j => .int (Int32.ofInt (bas j))) (fun q => B ≤ q) s s.heap ∧
  va_Z RL "FEW" "[I" (.ref tF) (fun q => B ≤ q) s s.heap ∧ va_T .int tF 6 (fun j => .int (Int32.ofInt (bas j))) (fun q => B ≤ q) s s.heap ∧ ∀ w ∈ er_N, va_Nw w s
theorem er_N_warm {s U : State} (hW : s.WarmedH U.vm) (h : ∀ w ∈ er_N, va_Nw w s) : ∀ w ∈ er_N, va_Nw w U := by
  intro w hw
  have h1 := h w hw
  simp only [er_N, List.mem_cons, List.not_mem_nil, or_false] at hw
  rcases hw with rfl | rfl | rfl | rfl | rfl | rfl | rfl | rfl | rfl <;> exact va_Nw.warmF hW h1
theorem er_S_moved {D : va_G} {cI cR cW : ClassId} {B b L tB tF : Nat} {xs : Nat → Int32} {s U : State} (h : er_S D cI cR cW B b L tB tF xs s) (hW : s.WarmedH U.vm) (hz : s.heap.size ≤ U.heap.size) (hk : ∀ q : Nat, q < s.heap.size → ¬ B ≤ q → U.heap[q]? = s.heap[q]?) : er_S D cI cR cW B b L tB tF xs U := by
  obtain ⟨h1, h2, h3, h4, h5, h6, h7, h8, h9⟩ := h
  have hA := hW.alike
  exact ⟨by omega, va_K.moved hA h2, h3, va_X.kept (va_X.moved hA h4) (hk b (by omega) (by omega)), va_Z.kept (va_Z.moved hA h5) hk, va_T.kept (va_T.moved hA h6) hk, va_Z.kept (va_Z.moved hA h7) hk, va_T.kept (va_T.moved hA h8) hk, er_N_warm hW h9⟩
theorem er_S_calling {D : va_G} {cI cR cW : ClassId} {B b L tB tF : Nat} {xs : Nat → Int32} {s : State} (g : JFrame) (mk : MethodId) (a : Array Value) (h : er_S D cI cR cW B b L tB tF xs s) : er_S D cI cR cW B b L tB tF xs (s.calling g mk a) := by
  obtain ⟨h1, h2, h3, h4, h5, h6, h7, h8, h9⟩ := h
  have hA : s.vm.Alike (s.calling g mk a).vm := Vm.Alike.refl s.vm
  exact ⟨h1, va_K.moved hA h2, h3, va_X.moved hA h4, va_Z.moved hA h5, va_T.moved hA h6, va_Z.moved hA h7, va_T.moved hA h8, fun w hw => by
    have h10 := h9 w hw
    simp only [er_N, List.mem_cons, List.not_mem_nil, or_false] at hw
    rcases hw with rfl | rfl | rfl | rfl | rfl | rfl | rfl | rfl | rfl <;> exact va_Nw.same rfl rfl h10⟩
