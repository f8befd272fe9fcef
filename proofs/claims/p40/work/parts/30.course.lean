/-! COURSES: a sorted row of keys, each with a parent ahead of it, or none; what was told is a first part; what waits is untold, and has no parent or a told one -/
def fro (par : Int → Option Int) (L : List Int) (n : Nat) : List Int := (L.drop n).filter (fun x => match par x with
  | none => true
  | some e => decide (e ∈ L.take n))
def CL (par : Int → Option Int) (L : List Int) : Prop := L.Pairwise (· < ·) ∧ ∀ x ∈ L, ∀ e, par x = some e → e ∈ L ∧ e < x
section CRS
variable {par : Int → Option Int} {L : List Int} {n : Nat}
theorem srt_lt {L : List Int} (h : L.Pairwise (· < ·)) {i j : Nat} (hj : j < L.length) (hij : i < j) : L[i]'(by omega) < L[j] := List.pairwise_iff_getElem.mp h i j (by omega) hj hij
theorem srt_nodup {L : List Int} (h : L.Pairwise (· < ·)) : L.Nodup := h.imp (fun h => by omega)
theorem mem_take {L : List Int} (h : L.Pairwise (· < ·)) (hn : n < L.length) (x : Int) : x ∈ L.take n ↔ x ∈ L ∧ x < L[n] := by
  constructor
  · intro hx
    obtain ⟨i, hi, rfl⟩ := List.getElem_of_mem hx
    rw [List.length_take] at hi
    rw [List.getElem_take]
    exact ⟨List.getElem_mem _, srt_lt h hn (by omega)⟩
  · rintro ⟨hx, hlt⟩
    obtain ⟨i, hi, rfl⟩ := List.getElem_of_mem hx
    have hin : i < n := by
      rcases Nat.lt_trichotomy i n with g | g | g
      · exact g
      · subst g; omega
      · have := srt_lt h hi g; omega
    exact List.mem_take_iff_getElem.mpr ⟨i, by omega, rfl⟩
theorem mem_drop {L : List Int} (h : L.Pairwise (· < ·)) (hn : n < L.length) (x : Int) : x ∈ L.drop n ↔ x ∈ L ∧ L[n] ≤ x := by
  constructor
  · intro hx
    obtain ⟨i, hi, rfl⟩ := List.getElem_of_mem hx
    rw [List.length_drop] at hi
    rw [List.getElem_drop]
    refine ⟨List.getElem_mem _, ?_⟩
    by_cases h0 : i = 0
    · subst h0; exact Int.le_refl _
    · have := srt_lt h (i := n) (j := n + i) (by omega) (by omega); omega
  · rintro ⟨hx, hle⟩
    obtain ⟨i, hi, rfl⟩ := List.getElem_of_mem hx
    have hin : n ≤ i := by
      rcases Nat.lt_or_ge i n with g | g
      · have := srt_lt h hn g; omega
      · exact g
    rw [List.mem_drop_iff_getElem]
    exact ⟨i - n, by omega, by congr 1; omega⟩
theorem mem_fro (h : L.Pairwise (· < ·)) (hn : n < L.length) (x : Int) : x ∈ fro par L n ↔ x ∈ L ∧ L[n] ≤ x ∧ ∀ e, par x = some e → e ∈ L ∧ e < L[n] := by
  unfold fro
  rw [List.mem_filter, mem_drop h hn]
  cases hp : par x with
  | none => simp
  | some e =>
    simp only [decide_eq_true_eq, mem_take h hn, Option.some.injEq, forall_eq']
    constructor
    · rintro ⟨⟨a, b⟩, c⟩; exact ⟨a, b, c⟩
    · rintro ⟨a, b, c⟩; exact ⟨⟨a, b⟩, c⟩
theorem fro_nodup (h : L.Pairwise (· < ·)) : (fro par L n).Nodup := ((srt_nodup h).sublist (List.drop_sublist n L)).filter _
theorem fro_head (h : CL par L) (hn : n < L.length) : L[n] ∈ fro par L n := (mem_fro h.1 hn _).mpr ⟨List.getElem_mem _, Int.le_refl _, fun e he => h.2 _ (List.getElem_mem _) e he⟩
theorem fro_le (h : L.Pairwise (· < ·)) (hn : n < L.length) {x : Int} (hx : x ∈ fro par L n) : L[n] ≤ x := ((mem_fro h hn x).mp hx).2.1
theorem fro_end (hn : L.length ≤ n) : fro par L n = [] := by
  unfold fro
  rw [List.drop_eq_nil_of_le hn]
  rfl
theorem fro_sub {x : Int} (hx : x ∈ fro par L n) : x ∈ L := List.mem_of_mem_drop (List.mem_filter.mp hx).1
/-- telling: the head goes, its kids come -/
theorem fro_step (h : CL par L) (hn : n < L.length) {K : List Int} (hK : K.Nodup) (hk : ∀ x, x ∈ K ↔ x ∈ L ∧ par x = some L[n]) : (K ++ (fro par L n).erase L[n]).Perm (fro par L (n + 1)) := by
  have hnd := fro_nodup (par := par) (n := n) h.1
  apply (List.perm_ext_iff_of_nodup _ (fro_nodup h.1)).mpr
  · intro x
    rw [List.mem_append, hnd.mem_erase_iff, mem_fro h.1 hn, hk]
    by_cases h1 : n + 1 < L.length
    · rw [mem_fro h.1 h1]
      have hlt := srt_lt h.1 h1 (Nat.lt_succ_self n)
      have hnx : ∀ y ∈ L, (L[n] < y ↔ L[n + 1] ≤ y) := by
        intro y hy
        obtain ⟨i, hi, rfl⟩ := List.getElem_of_mem hy
        constructor
        · intro g
          rcases Nat.lt_trichotomy i (n + 1) with g1 | g1 | g1
          · by_cases g2 : i = n
            · subst g2; omega
            · have := srt_lt h.1 hn (i := i) (by omega); omega
          · subst g1; exact Int.le_refl _
          · have := srt_lt h.1 hi g1; omega
        · intro g; omega
      constructor
      · rintro (⟨a, b⟩ | ⟨a, b, c, e⟩)
        · refine ⟨a, (hnx x a).mp (h.2 x a _ b).2, fun e he => ?_⟩
          rw [b] at he
          cases he
          exact ⟨List.getElem_mem _, hlt⟩
        · refine ⟨b, (hnx x b).mp (by omega), fun e' he => ?_⟩
          have := e e' he
          exact ⟨this.1, by omega⟩
      · rintro ⟨a, b, c⟩
        by_cases hp : par x = some L[n]
        · exact Or.inl ⟨a, hp⟩
        · refine Or.inr ⟨?_, a, ?_, fun e he => ?_⟩
          · intro z; omega
          · omega
          · have h2 := c e he
            refine ⟨h2.1, ?_⟩
            have h3 : e ≠ L[n] := fun z => hp (by rw [he, z])
            rcases Int.lt_trichotomy e L[n] with g | g | g
            · exact g
            · exact absurd g h3
            · have := (hnx e h2.1).mp g; omega
    · rw [fro_end (by omega)]
      simp only [List.not_mem_nil, iff_false]
      have hlast : ∀ y ∈ L, y ≤ L[n] := by
        intro y hy
        obtain ⟨i, hi, rfl⟩ := List.getElem_of_mem hy
        by_cases g : i = n
        · subst g; exact Int.le_refl _
        · have := srt_lt h.1 hn (i := i) (by omega); omega
      rintro (⟨a, b⟩ | ⟨a, b, c, e⟩)
      · have := (h.2 x a _ b).2
        have := hlast x a
        omega
      · have := hlast x b
        omega
  · rw [List.nodup_append]
    refine ⟨hK, hnd.erase _, fun a ha b hb => ?_⟩
    intro z
    subst z
    have h1 := (hk a).mp ha
    have h2 := (mem_fro h.1 hn a).mp (List.mem_of_mem_erase hb)
    have := (h2.2.2 _ h1.2).2
    omega
theorem fro_len_step (h : CL par L) (hn : n < L.length) {K : List Int} (hK : K.Nodup) (hk : ∀ x, x ∈ K ↔ x ∈ L ∧ par x = some L[n]) : (fro par L (n + 1)).length + 1 = (fro par L n).length + K.length := by
  have h1 := (fro_step h hn hK hk).length_eq
  have h2 := List.length_erase_of_mem (fro_head h hn)
  have h3 := List.length_pos_of_mem (fro_head h hn)
  rw [List.length_append] at h1
  omega
theorem fro_0 (x : Int) : x ∈ fro par L 0 ↔ x ∈ L ∧ par x = none := by
  unfold fro
  rw [List.mem_filter, List.drop_zero]
  cases hp : par x with
  | none => simp
  | some e => simp
/-- the waiting are few: a map to the first m numbers that tells them apart -/
theorem fro_few (h : L.Pairwise (· < ·)) (g : Int → Nat) (m : Nat) (hg : ∀ x ∈ fro par L n, g x < m) (hi : ∀ x ∈ fro par L n, ∀ y ∈ fro par L n, g x = g y → x = y) : (fro par L n).length ≤ m := by
  have h1 : ((fro par L n).map g).Nodup := by
    rw [List.nodup_iff_pairwise_ne, List.pairwise_map]
    refine List.Pairwise.imp_of_mem ?_ (fro_nodup h)
    intro a b ha hb hne hz
    exact hne (hi a ha b hb hz)
  have h2 := List.Nodup.length_le_of_subset h1 (l₂ := List.range m) (fun z hz => by
    obtain ⟨x, hx, rfl⟩ := List.mem_map.mp hz
    exact List.mem_range.mpr (hg x hx))
  simpa using h2
end CRS
