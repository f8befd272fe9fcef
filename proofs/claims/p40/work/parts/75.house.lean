/-! THE CONSTRUCTOR of the house: its cells -/
theorem Ct.set' {D : va_G} {ws : va_W} {lo k0 a : Nat} {x x0 : va_E} {H H1 : Heap} (h : Ct D ws lo H) (h0 : ws[k0]? = some (a, x0)) (hP : va_P D er_cl (ws.set k0 (a, x)) H1) (hS1 : H1.size ≤ H.size) : Ct D (ws.set k0 (a, x)) lo H1 := by
  refine h.set h0 hP ?_ hS1
  have hl := (List.getElem?_eq_some_iff.mp h0).1
  have hn : ws.length - 1 < ws.length := by omega
  have hs := h.2.2
  by_cases e : k0 = ws.length - 1
  · have h1 : a = lo + k0 := h.2.1 k0 (a, x0) h0
    have h2 : a < H1.size := (hP k0 (a, x) (by rw [List.getElem?_set_self hl])).lt
    omega
  · have h3 : ws[ws.length - 1]? = some ws[ws.length - 1] := List.getElem?_eq_getElem hn
    have h1 := h.2.1 _ _ h3
    have h2 : (ws[ws.length - 1]).1 < H1.size := (hP (ws.length - 1) ws[ws.length - 1] (by rw [List.getElem?_set_ne e]; exact h3)).lt
    omega
def upw (f0 : Nat) (k : Nat) : Nat → Option Nat := fun j => if j < k then some (f0 + 16 * j) else none
theorem upw_up (f0 k : Nat) : va_up (upw f0 k) k (some (f0 + 16 * k)) = upw f0 (k + 1) := by
  funext j
  unfold va_up upw
  by_cases e : j = k
  · rw [if_pos e, if_pos (by omega), e]
  · rw [if_neg e]
    by_cases e2 : j < k
    · rw [if_pos e2, if_pos (by omega)]
    · rw [if_neg e2, if_neg (by omega)]
theorem upw_0 (f0 : Nat) : (fun _ => none) = upw f0 0 := by
  funext j
  exact (if_neg (Nat.not_lt_zero j)).symm
theorem wellW_len (cI cR : ClassId) (a : Nat) : (wellW cI cR a).length = 16 := wellH_len cI cR a 6
def wellsW (cI cR : ClassId) (a : Nat) : Nat → va_W
  | 0 => []
  | k + 1 => wellsW cI cR a k ++ wellW cI cR (a + 16 * k)
theorem wellsW_len (cI cR : ClassId) (a : Nat) : ∀ k, (wellsW cI cR a k).length = 16 * k := by
  intro k
  induction k with
  | zero => rfl
  | succ k ih =>
    show (wellsW cI cR a k ++ wellW cI cR (a + 16 * k)).length = 16 * (k + 1)
    rw [List.length_append, ih, wellW_len]
    omega
def houseT (cI cR cW : ClassId) (a : Nat) (f g : Nat → Option Nat) (t : va_W) : va_W := (a, .inr (3, [.ref (a + 1), .ref (a + 2), .ref (a + 4), .ref (a + 5), .ref (a + 21), .int 0])) :: (a + 1, .inl (cR, 6, .inr (.inr (.inr (.inr f))))) :: (a + 2, .inr (1, [.ref (a + 3), .int 0])) :: (a + 3, .inl (cI, 8, .inl (fun _ => 0))) :: (a + 4, .inl (cW, 5, .inr (.inr (.inr (.inr g))))) :: t
theorem houseT_len (cI cR cW : ClassId) (a : Nat) (f g : Nat → Option Nat) (t : va_W) : (houseT cI cR cW a f g t).length = 5 + t.length := by
  show t.length + 1 + 1 + 1 + 1 + 1 = 5 + t.length
  omega
def trials (cI cR : ClassId) (a : Nat) : va_W := wellW cI cR (a + 5) ++ wellW cI cR (a + 21)
theorem trials_len (cI cR : ClassId) (a : Nat) : (trials cI cR a).length = 32 := by
  unfold trials
  rw [List.length_append, wellW_len, wellW_len]
def houseR (cI cR cW : ClassId) (a k : Nat) : va_W := houseT cI cR cW a (upr (a + 37) k) (upw (a + 49) 0) (trials cI cR a ++ rowsW cI (a + 37) k)
theorem houseR_len (cI cR cW : ClassId) (a k : Nat) : (houseR cI cR cW a k).length = 37 + 2 * k := by
  unfold houseR
  rw [houseT_len, List.length_append, trials_len, rowsW_len]
  omega
def houseW (cI cR cW : ClassId) (a k : Nat) : va_W := houseT cI cR cW a (upr (a + 37) 6) (upw (a + 49) k) ((trials cI cR a ++ rowsW cI (a + 37) 6) ++ wellsW cI cR (a + 49) k)
theorem houseW_len (cI cR cW : ClassId) (a k : Nat) : (houseW cI cR cW a k).length = 49 + 16 * k := by
  unfold houseW
  rw [houseT_len, List.length_append, List.length_append, trials_len, rowsW_len, wellsW_len]
  omega
theorem houseR_6 (cI cR cW : ClassId) (a : Nat) : houseR cI cR cW a 6 = houseW cI cR cW a 0 := by
  unfold houseR houseW
  rw [show wellsW cI cR (a + 49) 0 = [] from rfl, List.append_nil]
theorem houseR_up (cI cR cW : ClassId) (a k : Nat) : (houseR cI cR cW a k ++ rowW cI (a + (37 + 2 * k))).set 1 (a + 1, .inl (cR, 6, .inr (.inr (.inr (.inr (va_up (upr (a + 37) k) k (some (a + (37 + 2 * k))))))))) = houseR cI cR cW a (k + 1) := by
  rw [show a + (37 + 2 * k) = a + 37 + 2 * k from by omega, upr_up]
  unfold houseR
  rw [show trials cI cR a ++ rowsW cI (a + 37) (k + 1) = (trials cI cR a ++ rowsW cI (a + 37) k) ++ rowW cI (a + 37 + 2 * k) from (List.append_assoc _ _ _).symm]
  rfl
theorem houseW_up (cI cR cW : ClassId) (a k : Nat) : (houseW cI cR cW a k ++ wellW cI cR (a + (49 + 16 * k))).set 4 (a + 4, .inl (cW, 5, .inr (.inr (.inr (.inr (va_up (upw (a + 49) k) k (some (a + (49 + 16 * k))))))))) = houseW cI cR cW a (k + 1) := by
  rw [show a + (49 + 16 * k) = a + 49 + 16 * k from by omega, upw_up]
  unfold houseW
  rw [show (trials cI cR a ++ rowsW cI (a + 37) 6) ++ wellsW cI cR (a + 49) (k + 1) = ((trials cI cR a ++ rowsW cI (a + 37) 6) ++ wellsW cI cR (a + 49) k) ++ wellW cI cR (a + 49 + 16 * k) from (List.append_assoc _ _ _).symm]
  rfl
theorem house_k : ∀ k : Nat, k < 5 → (¬ (5 : Int32) ≤ Int32.ofNat k) ∧ vp_in (Int32.ofNat k) 5 ∧ (Int32.ofNat k).toNatClampNeg = k ∧ Int32.ofNat k + Int32.ofInt 1 = Int32.ofNat (k + 1) := by
  intro k hk
  rcases (show k = 0 ∨ k = 1 ∨ k = 2 ∨ k = 3 ∨ k = 4 by omega) with rfl | rfl | rfl | rfl | rfl <;> exact ⟨by decide, by unfold vp_in; decide, by decide, by decide⟩
/-! the cells as the small machine's world has them -/
theorem P_mem {D : va_G} {ws : va_W} {H : Heap} (h : va_P D er_cl ws H) {q : Nat × va_E} (hq : q ∈ ws) : va_at D er_cl q H := by
  obtain ⟨k, hk⟩ := List.getElem?_of_mem hq
  exact h k q hk
theorem rowsW_in {cI : ClassId} {a j : Nat} {q : Nat × va_E} (hq : q ∈ rowW cI (a + 2 * j)) : ∀ {k : Nat}, j < k → q ∈ rowsW cI a k := by
  intro k
  induction k with
  | zero => intro h; omega
  | succ k ih =>
    intro h
    show q ∈ rowsW cI a k ++ rowW cI (a + 2 * k)
    by_cases e : j = k
    · rw [← e]
      exact List.mem_append_right _ hq
    · exact List.mem_append_left _ (ih (by omega))
theorem wellsW_in {cI cR : ClassId} {a j : Nat} {q : Nat × va_E} (hq : q ∈ wellW cI cR (a + 16 * j)) : ∀ {k : Nat}, j < k → q ∈ wellsW cI cR a k := by
  intro k
  induction k with
  | zero => intro h; omega
  | succ k ih =>
    intro h
    show q ∈ wellsW cI cR a k ++ wellW cI cR (a + 16 * k)
    by_cases e : j = k
    · rw [← e]
      exact List.mem_append_right _ hq
    · exact List.mem_append_left _ (ih (by omega))
theorem houseW_t {cI cR cW : ClassId} {a k : Nat} {q : Nat × va_E} (h : q ∈ (trials cI cR a ++ rowsW cI (a + 37) 6) ++ wellsW cI cR (a + 49) k) : q ∈ houseW cI cR cW a k := List.mem_append_right [_, _, _, _, _] h
theorem house_well {cI cR cW : ClassId} {a i : Nat} {q : Nat × va_E} (hi : i < 7) (hq : q ∈ wellW cI cR (a + er_wb i)) : q ∈ houseW cI cR cW a 5 := by
  refine houseW_t ?_
  unfold er_wb at hq
  by_cases e : i < 5
  · rw [if_pos e, show a + (49 + 16 * i) = a + 49 + 16 * i from by omega] at hq
    exact List.mem_append_right _ (wellsW_in hq e)
  · rw [if_neg e] at hq
    refine List.mem_append_left _ (List.mem_append_left _ ?_)
    unfold trials
    rcases (show i = 5 ∨ i = 6 by omega) with rfl | rfl
    · exact List.mem_append_left _ hq
    · exact List.mem_append_right _ hq
theorem house_row {cI cR cW : ClassId} {a i : Nat} {q : Nat × va_E} (hi : i < 49) (hq : q ∈ rowW cI (a + er_ro i)) : q ∈ houseW cI cR cW a 5 := by
  unfold er_ro at hq
  by_cases e : i < 42
  · rw [if_pos e] at hq
    refine house_well (i := i / 6) (by omega) ?_
    unfold wellW wellH
    refine List.mem_append_right _ (rowsW_in (j := i % 6) ?_ (by omega))
    rw [show a + er_wb (i / 6) + 4 + 2 * (i % 6) = a + (er_wb (i / 6) + 4 + 2 * (i % 6)) from by omega]
    exact hq
  · rw [if_neg e] at hq
    by_cases e2 : i < 48
    · rw [if_pos e2] at hq
      refine houseW_t (List.mem_append_left _ (List.mem_append_right _ (rowsW_in (j := i - 42) ?_ (by omega))))
      rw [show a + 37 + 2 * (i - 42) = a + (37 + 2 * (i - 42)) from by omega]
      exact hq
    · rw [if_neg e2] at hq
      rcases List.mem_cons.mp hq with rfl | hq
      · exact List.mem_cons_of_mem _ (List.mem_cons_of_mem _ List.mem_cons_self)
      · rcases List.mem_cons.mp hq with rfl | hq
        · exact List.mem_cons_of_mem _ (List.mem_cons_of_mem _ (List.mem_cons_of_mem _ List.mem_cons_self))
        · cases hq
