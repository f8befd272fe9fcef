theorem fro_grow {par : Int → Option Int} {L : List Int} (m : Nat) (h : CL par L) (h0 : (fro par L 0).length ≤ 1) (hk : ∀ n (hn : n < L.length), ∃ K : List Int, K.Nodup ∧ (∀ x, x ∈ K ↔ x ∈ L ∧ par x = some L[n]) ∧ K.length ≤ m + 1) :
    ∀ n, n ≤ L.length → (fro par L n).length ≤ 1 + n * m := by
  intro n
  induction n with
  | zero => intro _; omega
  | succ n ih =>
    intro hn
    obtain ⟨K, k1, k2, k3⟩ := hk n (by omega)
    have h1 := fro_len_step h (by omega) k1 k2
    have h2 := ih (by omega)
    rw [Nat.succ_mul]
    omega
def climit (c : CS) (n : Nat) : Nat := if cK c = 0 then 1 + n * ((mems (cS c)).length - 1) else if cK c = 1 ∨ cK c = 4 then min (n + 1) (cR c 0).length else if cK c = 2 then min (2 * n + 1) ((cR c 0).length * (cR c 1).length) else if cK c = 3 then (mems (cS c)).length else n
theorem mems_pos : ∀ s : Nat, s < 64 → 1 ≤ s → 1 ≤ (mems (s : Int)).length := by decide +kernel
theorem mems_le (s : Int) : (mems s).length ≤ 6 := by
  unfold mems
  have := List.length_filter_le (memS s) (List.range 6)
  rw [List.length_range] at this
  exact this
theorem one_of {α : Type} {l : List α} (h : l.Nodup) (hx : ∀ x ∈ l, ∀ y ∈ l, x = y) : l.length ≤ 1 := by
  match l, h, hx with
  | [], _, _ => simp
  | [a], _, _ => simp
  | a :: b :: r, h, hx =>
    exfalso
    have h1 := hx a (by simp) b (by simp)
    rw [List.nodup_cons] at h
    exact h.1 (by rw [h1]; simp)
theorem wq_len {c : CS} {cl n : Nat} {L : List Int} (h : WOK c cl n L) : (wq c n L).length ≤ climit c n ∧ (wq c n L).length ≤ 501 := by
  obtain ⟨a1, a2, a3, a4, a5, a6, a7⟩ := id h
  obtain ⟨h1, h2, h3, h4, h6, h7⟩ := id a1
  unfold wq climit
  by_cases k5 : cK c = 5
  · rw [if_pos k5, if_neg (by omega), if_neg (by omega), if_neg (by omega), if_neg (by omega)]
    unfold pq
    rw [List.length_map, List.length_range]
    omega
  · rw [if_neg k5]
    have hCL := (a6 k5).1
    have hsub := (a6 k5).2.1
    by_cases k0 : cK c = 0
    · rw [if_pos k0]
      have hL := a4 (a5 (by omega))
      have memL : ∀ x, x ∈ L ↔ x ∈ crs c := fun x => by rw [hL]
      obtain ⟨s, e1, e2⟩ := a1.set
      have hp := mems_pos s e2 (by have := h7 k0; omega)
      have hp6 := mems_le (s : Int)
      rw [e1]
      have hg := fro_grow ((mems (s : Int)).length - 1) hCL ?_ (fun m hm => ⟨ckids c L[m], ?_⟩) n a3
      · have hm : n * ((mems (s : Int)).length - 1) ≤ 100 * 5 := Nat.mul_le_mul a2 (by omega)
        omega
      · refine one_of (fro_nodup hCL.1) (fun x hx y hy => ?_)
        have hx := (fro_0 x).mp hx
        have hy := (fro_0 y).mp hy
        rw [hL, (crs_0 k0).1, (crs_0 k0).2] at hx hy
        obtain ⟨i, p1, p2, rfl, p3⟩ := (gcrs_roots (powers_GH (cS c)) x).mp hx
        obtain ⟨j, q1, q2, rfl, q3⟩ := (gcrs_roots (powers_GH (cS c)) y).mp hy
        rw [ppix_none p3, ppix_none q3]
      · have hk := ckids_ok a1 k5 (hsub _ (List.getElem_mem hm))
        refine ⟨hk.1, fun x => ?_, ?_⟩
        · rw [hk.2.1 x, memL x]
        · have := hk.2.2.1 k0
          rw [e1] at this
          omega
    · rw [if_neg k0]
      by_cases k3 : cK c = 3
      · rw [if_neg (by omega), if_neg (by omega), if_pos k3, (crs_3 k3).2]
        rw [(crs_3 k3).1] at hsub
        have hm := merged_few (n := n) h4 hCL.1 hsub
        have := mems_le (cS c)
        exact ⟨hm, by omega⟩
      · by_cases km : cK c = -1
        · have hL := a4 (a5 (by omega))
          rw [hL, crs_e km, fro_end (by simp)]
          simp
        · have kg : cK c = 1 ∨ cK c = 2 ∨ cK c = 4 := by omega
          have hL := a4 (a5 (by omega))
          have memL : ∀ x, x ∈ L ↔ x ∈ crs c := fun x => by rw [hL]
          have hR : ∀ j, j < 3 → rOK (cR c j) := fun j hj => h4 j (by omega)
          have h0 : (fro (cpar c) L 0).length ≤ 1 := by
            refine one_of (fro_nodup hCL.1) (fun x hx y hy => ?_)
            have hx := (fro_0 x).mp hx
            have hy := (fro_0 y).mp hy
            rw [hL, (crs_g kg).1, (crs_g kg).2] at hx hy
            obtain ⟨i, p1, p2, rfl, p3⟩ := (gcrs_roots (grid_GH hR) x).mp hx
            obtain ⟨j, q1, q2, rfl, q3⟩ := (gcrs_roots (grid_GH hR) y).mp hy
            rw [gpix_none p1 p3, gpix_none q1 q3]
          have hsub2 := hsub
          rw [(crs_g kg).1] at hsub2
          have hf := grid_few (kd := cK c) (n := n) hR hCL.1 hsub2
          rw [← (crs_g kg).2] at hf
          have l0 := (hR 0 (by omega)).1
          have l1 := (hR 1 (by omega)).1
          by_cases k2 : cK c = 2
          · rw [if_neg (by omega), if_pos k2]
            have hg := fro_grow 2 hCL h0 (fun m hm => ⟨ckids c L[m], by
              have hk := ckids_ok a1 k5 (hsub _ (List.getElem_mem hm))
              exact ⟨hk.1, fun x => by rw [hk.2.1 x, memL x], hk.2.2.2.2.2.2 k2⟩⟩) n a3
            have hm : (cR c 0).length * (cR c 1).length ≤ 8 * 8 := Nat.mul_le_mul l0 l1
            exact ⟨Nat.le_min.mpr ⟨by omega, hf.1⟩, by omega⟩
          · rw [if_pos (by omega)]
            have hg := fro_grow 1 hCL h0 (fun m hm => ⟨ckids c L[m], by
              have hk := ckids_ok a1 k5 (hsub _ (List.getElem_mem hm))
              exact ⟨hk.1, fun x => by rw [hk.2.1 x, memL x], hk.2.2.2.2.2.1 (by omega)⟩⟩) n a3
            have hr2 := h6 (by omega)
            have hf2 := hf.2 (by rw [hr2]; simp)
            exact ⟨Nat.le_min.mpr ⟨by omega, hf2⟩, by omega⟩
