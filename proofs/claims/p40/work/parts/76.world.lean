/-! THE CONSTRUCTOR of the house: its world is the small machine's -/
def Mi (L : Nat) (xs : Nat → Int32) : AMem := fun k i s => match k, s with
  | 2, 2 => -1
  | 9, s => if i = 1 then (L : Int) else (xs s).toInt
  | _, _ => 0
theorem arrV_eq {cA : ClassId} {n : Nat} {f g : Nat → Value} (h : ∀ j, j < n → f j = g j) : arrV cA n f = arrV cA n g := by
  unfold arrV
  congr 2
  funext j
  exact h j.1 j.2
theorem at_refs {D : va_G} {a n : Nat} {cA : ClassId} {f g : Nat → Option Nat} {H : Heap} (h : ∀ j, j < n → f j = g j) (hP : va_at D er_cl (a, .inl (cA, n, .inr (.inr (.inr (.inr f))))) H) : va_at D er_cl (a, .inl (cA, n, .inr (.inr (.inr (.inr g))))) H := by
  show H[a]? = some (arrV cA n (fun j => va_rf (g j)))
  rw [← arrV_eq (f := fun j => va_rf (f j)) (fun j hj => congrArg va_rf (h j hj))]
  exact hP
theorem o0 : Int32.ofInt 0 = 0 := by decide
theorem o1 : Int32.ofInt (-1) = -1 := by decide
theorem wellW_0 {cI cR : ClassId} {a : Nat} : (a, (.inr (2, [.ref (a + 1), .ref (a + 2), .int (-1), .int 0, .int 0, .int 0, .int 0, .int 0]) : va_E)) ∈ wellW cI cR a := List.mem_append_left _ List.mem_cons_self
theorem wellW_1 {cI cR : ClassId} {a : Nat} : (a + 1, (.inl (cR, 6, .inr (.inr (.inr (.inr (upr (a + 4) 6))))) : va_E)) ∈ wellW cI cR a := List.mem_append_left _ (List.mem_cons_of_mem _ List.mem_cons_self)
theorem wellW_2 {cI cR : ClassId} {a : Nat} : (a + 2, (.inr (0, [.ref (a + 3), .int 0]) : va_E)) ∈ wellW cI cR a := List.mem_append_left _ (List.mem_cons_of_mem _ (List.mem_cons_of_mem _ List.mem_cons_self))
theorem wellW_3 {cI cR : ClassId} {a : Nat} : (a + 3, (.inl (cI, 512, .inl (fun _ => 0)) : va_E)) ∈ wellW cI cR a := List.mem_append_left _ (List.mem_cons_of_mem _ (List.mem_cons_of_mem _ (List.mem_cons_of_mem _ List.mem_cons_self)))
section WORLD
variable {D : va_G} {cI cR cW : ClassId} {B b L tB tF : Nat} {xs : Nat → Int32} {H : Heap}
set_option maxHeartbeats 1000000 in
theorem ent_0 (i : Nat) : ent (er_ad B b tB tF) cI cR cW (Mi L xs) 0 i = .inr (0, [.ref (B + er_wb i + 3), .int 0]) := by
  show Sum.inr (0, [Value.ref _, Value.int (Int32.ofInt 0)]) = _
  rw [o0]
  rfl
theorem ent_1 (i : Nat) : ent (er_ad B b tB tF) cI cR cW (Mi L xs) 1 i = .inr (1, [.ref (B + er_ro i + 1), .int 0]) := by
  show Sum.inr (1, [Value.ref _, Value.int (Int32.ofInt 0)]) = _
  rw [o0]
  rfl
theorem ent_2 (i : Nat) : ent (er_ad B b tB tF) cI cR cW (Mi L xs) 2 i = .inr (2, [.ref (B + er_wb i + 1), .ref (B + er_wb i + 2), .int (-1), .int 0, .int 0, .int 0, .int 0, .int 0]) := by
  show Sum.inr (2, [Value.ref _, Value.ref _, Value.int (Int32.ofInt (-1)), Value.int (Int32.ofInt 0), Value.int (Int32.ofInt 0), Value.int (Int32.ofInt 0), Value.int (Int32.ofInt 0), Value.int (Int32.ofInt 0)]) = _
  rw [o0, o1]
  rfl
theorem ent_3 : ent (er_ad B b tB tF) cI cR cW (Mi L xs) 3 0 = .inr (3, [.ref (B + 1), .ref (B + 2), .ref (B + 4), .ref (B + 5), .ref (B + 21), .int 0]) := by
  show Sum.inr (3, [Value.ref _, Value.ref _, Value.ref _, Value.ref _, Value.ref _, Value.int (Int32.ofInt 0)]) = _
  rw [o0]
  rfl
theorem ent_4 (i : Nat) : ent (er_ad B b tB tF) cI cR cW (Mi L xs) 4 i = .inl (cI, 512, .inl (fun _ => 0)) := by
  show Sum.inl (cI, 512, Sum.inl (fun _ => Int32.ofInt 0)) = _
  rw [o0]
theorem ent_5 (i : Nat) : ent (er_ad B b tB tF) cI cR cW (Mi L xs) 5 i = .inl (cI, 8, .inl (fun _ => 0)) := by
  show Sum.inl (cI, 8, Sum.inl (fun _ => Int32.ofInt 0)) = _
  rw [o0]
theorem er_ro_w {i j : Nat} (hi : i < 7) (hj : j < 6) : er_ro (6 * i + j) = er_wb i + 4 + 2 * j := by
  unfold er_ro
  rw [if_pos (by omega), show (6 * i + j) / 6 = i from by omega, show (6 * i + j) % 6 = j from by omega]
theorem er_ro_h {j : Nat} (hj : j < 6) : er_ro (42 + j) = 37 + 2 * j := by
  unfold er_ro
  rw [if_neg (by omega), if_pos (by omega), show 42 + j - 42 = j from by omega]
theorem ok_lt {k i n : Nat} (h : okH k i = true) (e : okH k i = decide (i < n)) : i < n := by
  rw [e] at h
  exact of_decide_eq_true h
theorem ok_0 {k i : Nat} (h : okH k i = true) (e : okH k i = decide (i = 0)) : i = 0 := by
  rw [e] at h
  exact of_decide_eq_true h
set_option maxHeartbeats 2000000 in
theorem world_at {k i : Nat} (hk : k < 9) (hok : okH k i = true) (h : va_P D er_cl (houseW cI cR cW B 5) H) : va_at D er_cl (er_ad B b tB tF k i, ent (er_ad B b tB tF) cI cR cW (Mi L xs) k i) H := by
  rcases (show k = 0 ∨ k = 1 ∨ k = 2 ∨ k = 3 ∨ k = 4 ∨ k = 5 ∨ k = 6 ∨ k = 7 ∨ k = 8 by omega) with rfl | rfl | rfl | rfl | rfl | rfl | rfl | rfl | rfl
  · rw [ent_0]
    exact P_mem h (house_well (ok_lt hok rfl) wellW_2)
  · rw [ent_1]
    exact P_mem h (house_row (ok_lt hok rfl) List.mem_cons_self)
  · rw [ent_2]
    exact P_mem h (house_well (ok_lt hok rfl) wellW_0)
  · obtain rfl := ok_0 hok rfl
    rw [ent_3]
    exact P_mem h List.mem_cons_self
  · rw [ent_4]
    exact P_mem h (house_well (ok_lt hok rfl) wellW_3)
  · rw [ent_5]
    exact P_mem h (house_row (ok_lt hok rfl) (List.mem_cons_of_mem _ List.mem_cons_self))
  · have hi : i < 7 := ok_lt hok rfl
    refine at_refs (f := upr (B + er_wb i + 4) 6) (fun j hj => ?_) (P_mem h (house_well hi wellW_1))
    show upr (B + er_wb i + 4) 6 j = some (er_ad B b tB tF 1 (6 * i + j))
    rw [er_ad_lt (by omega)]
    show _ = some (B + er_ro (6 * i + j))
    rw [er_ro_w hi hj]
    unfold upr
    rw [if_pos hj]
    congr 1
    omega
  · obtain rfl := ok_0 hok rfl
    refine at_refs (f := upr (B + 37) 6) (fun j hj => ?_) (P_mem h (List.mem_cons_of_mem _ List.mem_cons_self))
    show upr (B + 37) 6 j = some (er_ad B b tB tF 1 (42 + j))
    rw [er_ad_lt (by omega)]
    show _ = some (B + er_ro (42 + j))
    rw [er_ro_h hj]
    unfold upr
    rw [if_pos hj]
    congr 1
    omega
  · obtain rfl := ok_0 hok rfl
    refine at_refs (f := upw (B + 49) 5) (fun j hj => ?_) (P_mem h (List.mem_cons_of_mem _ (List.mem_cons_of_mem _ (List.mem_cons_of_mem _ (List.mem_cons_of_mem _ List.mem_cons_self)))))
    show upw (B + 49) 5 j = some (er_ad B b tB tF 2 j)
    rw [er_ad_lt (by omega)]
    show _ = some (B + er_wb j)
    unfold upw er_wb
    rw [if_pos hj, if_pos hj]
    congr 1
    omega
theorem world_eq (h : va_P D er_cl (houseW cI cR cW B 5) H) : va_P D er_cl (er_ws (er_ad B b tB tF) cI cR cW (Mi L xs)) H := by
  intro n q hq
  rw [er_ws, List.getElem?_map] at hq
  cases hx : er_objs[n]? with
  | none => rw [hx] at hq; cases hq
  | some x =>
    rw [hx] at hq
    cases hq
    have h1 := er_objs_at hx
    exact world_at h1.2.1 h1.2.2 h
end WORLD
