/-! THE CONSTRUCTORS: worlds without a gap -/
/-- the cells of ws lie one behind the other, from lo to the heap's end -/
def Ct (D : va_G) (ws : va_W) (lo : Nat) (H : Heap) : Prop := va_P D er_cl ws H ∧ (∀ (k : Nat) (q : Nat × va_E), ws[k]? = some q → q.1 = lo + k) ∧ H.size = lo + ws.length
theorem Ct.D {D : va_G} {ws : va_W} {lo B : Nat} {H : Heap} (h : Ct D ws lo H) (hB : B ≤ lo) : va_D (fun q => B ≤ q) ws := by
  refine ⟨fun i j p q hi hj e => ?_, fun k q hk => ?_⟩
  · have h1 := h.2.1 i p hi
    have h2 := h.2.1 j q hj
    omega
  · have := h.2.1 k q hk
    show B ≤ q.1
    omega
/-- the heap's size is bound by what was made -/
theorem W_sz {p : Program} {l : Launch} {e : Env} {R : Room} {s : State} {m : MethodId} {args : Array Value} {below : List Frame} {meth : Method} {c : Code} {H : Heap} {locs : List Loc} {cells slots : Nat} {Q : State → Prop} {g : JFrame}
    (kk : H.size ≤ s.heap.size + cells → W p l e R s m args below meth c H locs cells slots Q g) : W p l e R s m args below meth c H locs cells slots Q g := fun T hT X => kk (by
  have h := X.heapSize
  rw [hT] at h
  exact h) T hT X
/-- a new cell at the end -/
theorem Ct.new {D : va_G} {ws : va_W} {lo q B : Nat} {x : va_E} {H H1 : Heap} (h : Ct D ws lo H) (hB : B ≤ lo) (hP : va_P D er_cl (ws ++ [(q, x)]) H1) (hD : va_D (fun q => B ≤ q) (ws ++ [(q, x)])) (hS : H1.size ≤ lo + ws.length + 1) (hlo : lo ≤ q) : q = lo + ws.length ∧ Ct D (ws ++ [(q, x)]) lo H1 := by
  have hlt := (hP ws.length (q, x) (by rw [List.getElem?_append_right (Nat.le_refl _), Nat.sub_self]; rfl)).lt
  have hlt : q < H1.size := hlt
  have hq : q = lo + ws.length := by
    by_cases e : q < lo + ws.length
    · exfalso
      have hk : q - lo < ws.length := by omega
      have h1 : ws[q - lo]? = some ws[q - lo] := List.getElem?_eq_getElem hk
      have h2 := h.2.1 _ _ h1
      have h3 := hD.1 (q - lo) ws.length ws[q - lo] (q, x) (by rw [List.getElem?_append_left hk]; exact h1) (by rw [List.getElem?_append_right (Nat.le_refl _), Nat.sub_self]; rfl) (by show _ = q; omega)
      omega
    · omega
  refine ⟨hq, hP, fun k y hk => ?_, ?_⟩
  · by_cases e : k < ws.length
    · rw [List.getElem?_append_left e] at hk
      exact h.2.1 k y hk
    · have hl := (List.getElem?_eq_some_iff.mp hk).1
      rw [List.length_append, List.length_singleton] at hl
      have ek : k = ws.length := by omega
      rw [ek, List.getElem?_append_right (Nat.le_refl _), Nat.sub_self] at hk
      cases hk
      rw [ek]
      exact hq
  · rw [List.length_append, List.length_singleton]
    omega
/-- a cell written -/
theorem Ct.set {D : va_G} {ws : va_W} {lo k0 a : Nat} {x x0 : va_E} {H H1 : Heap} (h : Ct D ws lo H) (h0 : ws[k0]? = some (a, x0)) (hP : va_P D er_cl (ws.set k0 (a, x)) H1) (hS : H.size ≤ H1.size) (hS1 : H1.size ≤ H.size) : Ct D (ws.set k0 (a, x)) lo H1 := by
  refine ⟨hP, fun k y hk => ?_, ?_⟩
  · by_cases e : k0 = k
    · subst e
      have hl := (List.getElem?_eq_some_iff.mp h0).1
      rw [List.getElem?_set_self hl] at hk
      cases hk
      exact h.2.1 k0 (a, x0) h0
    · rw [List.getElem?_set_ne e] at hk
      exact h.2.1 k y hk
  · rw [List.length_set]
    have := h.2.2
    omega
/-- a called constructor's cells behind the others -/
theorem Ct.app {D : va_G} {ws w1 : va_W} {lo a : Nat} {x : va_E} {H H1 : Heap} (h : Ct D (ws ++ [(a, x)]) lo H) (h1 : Ct D w1 a H1) (hk : ∀ q : Nat, q < H.size → ¬ a ≤ q → H1[q]? = H[q]?) : Ct D (ws ++ w1) lo H1 := by
  have ea : a = lo + ws.length := h.2.1 ws.length (a, x) (by rw [List.getElem?_append_right (Nat.le_refl _), Nat.sub_self]; rfl)
  have hold : va_P D er_cl ws H := fun k q hk => h.1 k q (by rw [List.getElem?_append_left (List.getElem?_eq_some_iff.mp hk).1]; exact hk)
  refine ⟨(hold.kept fun k q hq => ?_).app h1.1, fun k q hq => ?_, ?_⟩
  · have hl := (List.getElem?_eq_some_iff.mp hq).1
    have e := h.2.1 k q (by rw [List.getElem?_append_left hl]; exact hq)
    have hs := h.2.2
    rw [List.length_append, List.length_singleton] at hs
    exact hk _ (by omega) (by omega)
  · by_cases e : k < ws.length
    · rw [List.getElem?_append_left e] at hq
      exact h.2.1 k q (by rw [List.getElem?_append_left e]; exact hq)
    · rw [List.getElem?_append_right (by omega)] at hq
      have := h1.2.1 _ q hq
      omega
  · have := h1.2.2
    rw [List.length_append]
    omega
/-- a class of arrays of ints, or of a class, is one -/
theorem K_int {D : va_G} {tys : List (ClassId × FieldType)} {s : State} {cI cA : ClassId} {t1 : List (ClassId × FieldType)} (h : va_K D er_cl ((cI, .int) :: tys) s) (h1 : va_K D er_cl (t1 ++ [(cA, .int)]) s) : cA = cI := by
  have a := (h.2 0 (cI, .int) rfl).2
  have b := (h1.2 t1.length (cA, .int) (by rw [List.getElem?_append_right (Nat.le_refl _), Nat.sub_self]; rfl)).2
  exact Option.some.inj (b.symm.trans a)
theorem K_obj {D : va_G} {tys : List (ClassId × FieldType)} {s : State} {cR cA : ClassId} {C : String} {t1 : List (ClassId × FieldType)} {k : Nat} (h : va_K D er_cl tys s) (hk : tys[k]? = some (cR, .object C)) (h1 : va_K D er_cl (t1 ++ [(cA, .object C)]) s) : cA = cR := by
  obtain ⟨_, _, _, _, _, a⟩ := (h.2 k (cR, .object C) hk).2
  obtain ⟨_, _, _, _, _, b⟩ := (h1.2 t1.length (cA, .object C) (by rw [List.getElem?_append_right (Nat.le_refl _), Nat.sub_self]; rfl)).2
  exact Option.some.inj (b.symm.trans a)
theorem Ct.one {D : va_G} {a : Nat} {x : va_E} {H : Heap} (hP : va_P D er_cl [(a, x)] H) (h : H.size = a + 1) : Ct D [(a, x)] a H := by
  refine ⟨hP, fun k q hk => ?_, h⟩
  have hl := (List.getElem?_eq_some_iff.mp hk).1
  have ek : k = 0 := by
    have : k < 1 := hl
    omega
  rw [ek] at hk
  cases hk
  rw [ek]
  rfl
