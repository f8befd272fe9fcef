/-! a course out of numbered entries: which numbers are entries, their keys, the number out of the key, the parent's number -/
def gcrs (N : Nat) (val : Nat → Bool) (key : Nat → Int) : List Int := (((List.range N).filter val).map key).mergeSort (fun a b => decide (a ≤ b))
def gpar (key : Nat → Int) (dec : Int → Nat) (pix : Nat → Option Nat) (x : Int) : Option Int := (pix (dec x)).map key
def GH (N : Nat) (val : Nat → Bool) (key : Nat → Int) (dec : Int → Nat) (pix : Nat → Option Nat) : Prop :=
  (∀ i, i < N → val i = true → dec (key i) = i) ∧ (∀ i, i < N → val i = true → ∀ j, pix i = some j → j < N ∧ val j = true ∧ key j < key i) ∧ (∀ i, i < N → val i = true → 0 ≤ key i ∧ key i < 1024000000)
section GCRS
variable {N : Nat} {val : Nat → Bool} {key : Nat → Int} {dec : Int → Nat} {pix : Nat → Option Nat}
theorem gcrs_perm : (gcrs N val key).Perm (((List.range N).filter val).map key) := List.mergeSort_perm _ _
theorem mem_gcrs (x : Int) : x ∈ gcrs N val key ↔ ∃ i, i < N ∧ val i = true ∧ x = key i := by
  rw [gcrs_perm.mem_iff, List.mem_map]
  constructor
  · rintro ⟨i, hi, rfl⟩
    obtain ⟨h1, h2⟩ := List.mem_filter.mp hi
    exact ⟨i, List.mem_range.mp h1, h2, rfl⟩
  · rintro ⟨i, h1, h2, rfl⟩
    exact ⟨i, List.mem_filter.mpr ⟨List.mem_range.mpr h1, h2⟩, rfl⟩
theorem gkey_inj (h : GH N val key dec pix) {i j : Nat} (hi : i < N) (vi : val i = true) (hj : j < N) (vj : val j = true) (e : key i = key j) : i = j := by
  rw [← h.1 i hi vi, ← h.1 j hj vj, e]
theorem gcrs_sorted (h : GH N val key dec pix) : (gcrs N val key).Pairwise (· < ·) := by
  have h1 : (gcrs N val key).Pairwise (fun a b => decide (a ≤ b) = true) := List.pairwise_mergeSort (fun a b c x y => by simp only [decide_eq_true_eq] at *; omega) (fun a b => by simp only [Bool.or_eq_true, decide_eq_true_eq]; omega) _
  have h2 : (gcrs N val key).Nodup := by
    rw [gcrs_perm.nodup_iff, List.nodup_iff_pairwise_ne, List.pairwise_map]
    refine List.Pairwise.imp_of_mem ?_ (List.nodup_range.filter val)
    intro a b ha hb hne hz
    obtain ⟨a1, a2⟩ := List.mem_filter.mp ha
    obtain ⟨b1, b2⟩ := List.mem_filter.mp hb
    exact hne (gkey_inj h (List.mem_range.mp a1) a2 (List.mem_range.mp b1) b2 hz)
  refine (List.Pairwise.and h1 h2).imp ?_
  rintro a b ⟨x, y⟩
  simp only [decide_eq_true_eq] at x
  have : a ≠ b := y
  omega
theorem gpar_key (h : GH N val key dec pix) {i : Nat} (hi : i < N) (vi : val i = true) : gpar key dec pix (key i) = (pix i).map key := by
  unfold gpar
  rw [h.1 i hi vi]
theorem gcrs_CL (h : GH N val key dec pix) : CL (gpar key dec pix) (gcrs N val key) := by
  refine ⟨gcrs_sorted h, fun x hx e he => ?_⟩
  obtain ⟨i, hi, vi, rfl⟩ := (mem_gcrs x).mp hx
  rw [gpar_key h hi vi] at he
  cases hp : pix i with
  | none => rw [hp] at he; cases he
  | some j =>
    rw [hp] at he
    simp only [Option.map_some, Option.some.injEq] at he
    subst he
    obtain ⟨h1, h2, h3⟩ := h.2.1 i hi vi j hp
    exact ⟨(mem_gcrs _).mpr ⟨j, h1, h2, rfl⟩, h3⟩
theorem gcrs_kids (h : GH N val key dec pix) {s : Nat} (hs : s < N) (vs : val s = true) (x : Int) : (x ∈ gcrs N val key ∧ gpar key dec pix x = some (key s)) ↔ ∃ i, i < N ∧ val i = true ∧ x = key i ∧ pix i = some s := by
  constructor
  · rintro ⟨hx, he⟩
    obtain ⟨i, hi, vi, rfl⟩ := (mem_gcrs x).mp hx
    rw [gpar_key h hi vi] at he
    cases hp : pix i with
    | none => rw [hp] at he; cases he
    | some j =>
      rw [hp] at he
      simp only [Option.map_some, Option.some.injEq] at he
      obtain ⟨h1, h2, h3⟩ := h.2.1 i hi vi j hp
      have := gkey_inj h h1 h2 hs vs he
      subst this
      exact ⟨i, hi, vi, rfl, hp⟩
  · rintro ⟨i, hi, vi, rfl, hp⟩
    refine ⟨(mem_gcrs _).mpr ⟨i, hi, vi, rfl⟩, ?_⟩
    rw [gpar_key h hi vi, hp]
    rfl
theorem gcrs_roots (h : GH N val key dec pix) (x : Int) : (x ∈ gcrs N val key ∧ gpar key dec pix x = none) ↔ ∃ i, i < N ∧ val i = true ∧ x = key i ∧ pix i = none := by
  constructor
  · rintro ⟨hx, he⟩
    obtain ⟨i, hi, vi, rfl⟩ := (mem_gcrs x).mp hx
    rw [gpar_key h hi vi] at he
    cases hp : pix i with
    | none => exact ⟨i, hi, vi, rfl, hp⟩
    | some j => rw [hp] at he; cases he
  · rintro ⟨i, hi, vi, rfl, hp⟩
    refine ⟨(mem_gcrs _).mpr ⟨i, hi, vi, rfl⟩, ?_⟩
    rw [gpar_key h hi vi, hp]
    rfl
theorem gcrs_count (p : Int → Bool) : (gcrs N val key).countP p = ((List.range N).filter val).countP (fun i => p (key i)) := by
  rw [gcrs_perm.countP_eq, List.countP_map]
  rfl
theorem gcrs_len : (gcrs N val key).length = ((List.range N).filter val).length := by
  rw [gcrs_perm.length_eq, List.length_map]
end GCRS
/-! places in a tag -/
def tI (t : Nat) : Nat := t / 64
def tJ (t : Nat) : Nat := t / 8 % 8
def tK (t : Nat) : Nat := t % 8
def tdec (x : Int) : Nat := (x % 1024).toNat
def memS (s : Int) (j : Nat) : Bool := decide (s / 2 ^ j % 2 = 1)
theorem memS_op : ∀ s : Nat, s < 64 → ∀ j : Nat, j < 6 → (wI (opAnd (opShr (s : Int) (j : Int)) 1) = 1 ↔ memS (s : Int) j = true) := by decide +kernel
/-! SUMS, TRIPLES, TABLE -/
def gval (R : Nat → List Int) (t : Nat) : Bool := decide (tI t < (R 0).length) && (decide (tJ t < (R 1).length) && decide (tK t < (R 2).length))
def gnum (kd : Int) (R : Nat → List Int) (i j k : Nat) : Int := if kd = 4 then nAt (R 0) i * nAt (R 1) j else nAt (R 0) i + nAt (R 1) j + nAt (R 2) k
def gkey (kd : Int) (R : Nat → List Int) (t : Nat) : Int := gnum kd R (tI t) (tJ t) (tK t) * 1024 + t
def gpix (t : Nat) : Option Nat := if 0 < tK t then some (t - 1) else if 0 < tJ t then some (t - 8) else if 0 < tI t then some (t - 64) else none
theorem gval_iff {R : Nat → List Int} {t : Nat} : gval R t = true ↔ tI t < (R 0).length ∧ tJ t < (R 1).length ∧ tK t < (R 2).length := by
  unfold gval
  simp only [Bool.and_eq_true, decide_eq_true_eq]
theorem gnum_ok {kd : Int} {R : Nat → List Int} {i j k : Nat} (h : ∀ j, j < 3 → rOK (R j)) (hi : i < (R 0).length) (hj : j < (R 1).length) (hk : k < (R 2).length) : 0 ≤ gnum kd R i j k ∧ gnum kd R i j k ≤ 998001 := by
  unfold gnum
  rw [nAt_in hi, nAt_in hj, nAt_in hk]
  have h0 := (h 0 (by omega)).at hi
  have h1 := (h 1 (by omega)).at hj
  have h2 := (h 2 (by omega)).at hk
  split
  · refine ⟨Int.mul_nonneg h0.1 h1.1, ?_⟩
    have := Int.mul_le_mul h0.2 h1.2 h1.1 (by omega : (0 : Int) ≤ 999)
    omega
  · omega
theorem nAt_le {xs : List Int} (h : rOK xs) {i j : Nat} (hij : i ≤ j) (hj : j < xs.length) : nAt xs i ≤ nAt xs j := by
  rw [nAt_in hj, nAt_in (show i < xs.length by omega)]
  exact h.le hij hj
theorem gnum_le {kd : Int} {R : Nat → List Int} {i j k i' j' k' : Nat} (h : ∀ j, j < 3 → rOK (R j)) (hi : i ≤ i') (hj : j ≤ j') (hk : k ≤ k') (hi' : i' < (R 0).length) (hj' : j' < (R 1).length) (hk' : k' < (R 2).length) : gnum kd R i j k ≤ gnum kd R i' j' k' := by
  have e0 := nAt_le (h 0 (by omega)) hi hi'
  have e1 := nAt_le (h 1 (by omega)) hj hj'
  have e2 := nAt_le (h 2 (by omega)) hk hk'
  unfold gnum
  split
  · have a0 := nAt_in (xs := R 0) (p := i) (by omega)
    have a1 := nAt_in (xs := R 1) (p := j) (by omega)
    have b0 := (h 0 (by omega)).at (i := i) (by omega)
    have b1 := (h 1 (by omega)).at (i := j) (by omega)
    exact Int.mul_le_mul e0 e1 (by omega) (by omega)
  · omega
theorem grid_GH {kd : Int} {R : Nat → List Int} (h : ∀ j, j < 3 → rOK (R j)) : GH 512 (gval R) (gkey kd R) tdec gpix := by
  have key : ∀ t, t < 512 → gval R t = true → 0 ≤ gnum kd R (tI t) (tJ t) (tK t) ∧ gnum kd R (tI t) (tJ t) (tK t) ≤ 998001 := fun t _ hv => by
    obtain ⟨a, b, c⟩ := gval_iff.mp hv
    exact gnum_ok h a b c
  refine ⟨fun t ht hv => ?_, fun t ht hv s hs => ?_, fun t ht hv => ?_⟩
  · have := key t ht hv
    unfold tdec gkey
    omega
  · obtain ⟨a, b, c⟩ := gval_iff.mp hv
    have le : ∀ s : Nat, s < t → tI s ≤ tI t → tJ s ≤ tJ t → tK s ≤ tK t → s < 512 ∧ gval R s = true ∧ gkey kd R s < gkey kd R t := by
      intro s h0 h1 h2 h3
      have := gnum_le (kd := kd) h h1 h2 h3 a b c
      refine ⟨by omega, gval_iff.mpr ⟨by omega, by omega, by omega⟩, ?_⟩
      unfold gkey
      omega
    unfold gpix at hs
    split at hs
    · cases hs
      rename_i hk
      exact le _ (by unfold tK at hk; omega) (by unfold tI; omega) (by unfold tK tJ at *; omega) (by unfold tK at *; omega)
    · split at hs
      · cases hs
        rename_i hk hj
        exact le _ (by unfold tJ at hj; omega) (by unfold tI; omega) (by unfold tJ at *; omega) (by unfold tK at *; omega)
      · split at hs
        · cases hs
          rename_i hk hj hi
          exact le _ (by unfold tI at hi; omega) (by unfold tI; omega) (by unfold tI tJ at *; omega) (by unfold tI tK at *; omega)
        · cases hs
  · have := key t ht hv
    unfold gkey
    omega
/-! MERGED -/
def rk (fl : Int) (j : Nat) : Nat := if fl = 0 then j else 5 - j
def mval (s fl : Int) (R : Nat → List Int) (t : Nat) : Bool := decide (tK t = 0) && (decide (tI t < 6) && (memS s (rk fl (tI t)) && decide (tJ t < (R (rk fl (tI t))).length)))
def mkey (fl : Int) (R : Nat → List Int) (t : Nat) : Int := nAt (R (rk fl (tI t))) (tJ t) * 1024 + t
def mpix (t : Nat) : Option Nat := if 0 < tJ t then some (t - 8) else none
theorem mval_iff {s fl : Int} {R : Nat → List Int} {t : Nat} : mval s fl R t = true ↔ tK t = 0 ∧ tI t < 6 ∧ memS s (rk fl (tI t)) = true ∧ tJ t < (R (rk fl (tI t))).length := by
  unfold mval
  simp only [Bool.and_eq_true, decide_eq_true_eq]
theorem rk_lt {fl : Int} {j : Nat} (h : j < 6) : rk fl j < 6 := by
  unfold rk
  split <;> omega
theorem rk_rk {fl : Int} {j : Nat} (h : j < 6) : rk fl (rk fl j) = j := by
  unfold rk
  split <;> omega
theorem merged_GH {s fl : Int} {R : Nat → List Int} (h : ∀ j, j < 6 → rOK (R j)) : GH 512 (mval s fl R) (mkey fl R) tdec mpix := by
  have key : ∀ t, t < 512 → mval s fl R t = true → 0 ≤ nAt (R (rk fl (tI t))) (tJ t) ∧ nAt (R (rk fl (tI t))) (tJ t) ≤ 999 := fun t _ hv => by
    obtain ⟨a, b, c, e⟩ := mval_iff.mp hv
    rw [nAt_in e]
    exact (h _ (rk_lt b)).at e
  refine ⟨fun t ht hv => ?_, fun t ht hv u hu => ?_, fun t ht hv => ?_⟩
  · have := key t ht hv
    unfold tdec mkey
    omega
  · obtain ⟨a, b, c, e⟩ := mval_iff.mp hv
    unfold mpix at hu
    split at hu
    · cases hu
      rename_i hj
      have e1 : tI (t - 8) = tI t := by unfold tI tJ at *; omega
      have e2 : tJ (t - 8) = tJ t - 1 := by unfold tJ at *; omega
      have e3 : tK (t - 8) = 0 := by unfold tK tJ at *; omega
      refine ⟨by omega, mval_iff.mpr ⟨e3, by rw [e1]; exact b, by rw [e1]; exact c, by rw [e1, e2]; omega⟩, ?_⟩
      unfold mkey
      rw [e1, e2]
      have := nAt_le (h _ (rk_lt (fl := fl) b)) (show tJ t - 1 ≤ tJ t by omega) e
      unfold tJ at *
      omega
    · cases hu
  · have := key t ht hv
    unfold mkey
    omega
