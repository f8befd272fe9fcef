section FEW
variable {par : Int → Option Int} {L : List Int} {n : Nat}
theorem fro_sub_few (h : L.Pairwise (· < ·)) (g : Int → Nat) (T : List Nat) (hg : ∀ x ∈ fro par L n, g x ∈ T) (hi : ∀ x ∈ fro par L n, ∀ y ∈ fro par L n, g x = g y → x = y) : (fro par L n).length ≤ T.length := by
  have h1 : ((fro par L n).map g).Nodup := by
    rw [List.nodup_iff_pairwise_ne, List.pairwise_map]
    refine List.Pairwise.imp_of_mem ?_ (fro_nodup h)
    intro a b ha hb hne hz
    exact hne (hi a ha b hb hz)
  have h2 := List.Nodup.length_le_of_subset h1 (l₂ := T) (fun z hz => by
    obtain ⟨x, hx, rfl⟩ := List.mem_map.mp hz
    exact hg x hx)
  simpa using h2
/-- one that waits is not at or before the parent of another one that waits -/
theorem fro_apart (h : L.Pairwise (· < ·)) {x y e : Int} (hx : x ∈ fro par L n) (hy : y ∈ fro par L n) (he : par y = some e) : e < x := by
  have hn : n < L.length := by
    rcases Nat.lt_or_ge n L.length with g | g
    · exact g
    · rw [fro_end g] at hx; cases hx
  have h1 := (mem_fro h hn x).mp hx
  have h2 := (mem_fro h hn y).mp hy
  have := (h2.2.2 e he).2
  omega
end FEW
/-! the kids of a grid's entry -/
def gkids (R : Nat → List Int) (t : Nat) : List Nat := (if tK t + 1 < (R 2).length then [t + 1] else []) ++ ((if tK t = 0 ∧ tJ t + 1 < (R 1).length then [t + 8] else []) ++ (if tK t = 0 ∧ tJ t = 0 ∧ tI t + 1 < (R 0).length then [t + 64] else []))
theorem gkids_nodup (R : Nat → List Int) (t : Nat) : (gkids R t).Nodup := by
  unfold gkids
  split <;> split <;> split <;> simp
theorem gkids_len (R : Nat → List Int) (t : Nat) : (gkids R t).length ≤ 3 ∧ ((R 2).length ≤ 1 → (gkids R t).length ≤ 2) := by
  unfold gkids
  constructor
  · split <;> split <;> split <;> simp
  · intro h
    rw [if_neg (by omega)]
    split <;> split <;> simp
theorem mem_gkids {R : Nat → List Int} {t : Nat} (h : ∀ j, j < 3 → (R j).length ≤ 8) (hv : gval R t = true) (u : Nat) : u ∈ gkids R t ↔ u < 512 ∧ gval R u = true ∧ gpix u = some t := by
  obtain ⟨a, b, c⟩ := gval_iff.mp hv
  have h0 := h 0 (by omega)
  have h1 := h 1 (by omega)
  have h2 := h 2 (by omega)
  constructor
  · intro hu
    unfold gkids at hu
    rcases List.mem_append.mp hu with hu | hu
    · split at hu
      · rename_i hc
        have : u = t + 1 := by simpa using hu
        subst this
        have e1 : tI (t + 1) = tI t := by unfold tI tK at *; omega
        have e2 : tJ (t + 1) = tJ t := by unfold tJ tK at *; omega
        have e3 : tK (t + 1) = tK t + 1 := by unfold tK at *; omega
        refine ⟨by unfold tI at a; unfold tK at hc; omega, gval_iff.mpr ⟨by omega, by omega, by omega⟩, ?_⟩
        unfold gpix
        rw [if_pos (by omega)]
        rfl
      · cases hu
    · rcases List.mem_append.mp hu with hu | hu
      · split at hu
        · rename_i hc
          have : u = t + 8 := by simpa using hu
          subst this
          have e1 : tI (t + 8) = tI t := by unfold tI tJ at *; omega
          have e2 : tJ (t + 8) = tJ t + 1 := by unfold tJ at *; omega
          have e3 : tK (t + 8) = 0 := by unfold tK at *; omega
          refine ⟨by unfold tI tJ at *; omega, gval_iff.mpr ⟨by omega, by omega, by omega⟩, ?_⟩
          unfold gpix
          rw [if_neg (by omega), if_pos (by omega)]
          rfl
        · cases hu
      · split at hu
        · rename_i hc
          have : u = t + 64 := by simpa using hu
          subst this
          have e1 : tI (t + 64) = tI t + 1 := by unfold tI at *; omega
          have e2 : tJ (t + 64) = 0 := by unfold tJ at *; omega
          have e3 : tK (t + 64) = 0 := by unfold tK at *; omega
          refine ⟨by unfold tI at *; omega, gval_iff.mpr ⟨by omega, by omega, by omega⟩, ?_⟩
          unfold gpix
          rw [if_neg (by omega), if_neg (by omega), if_pos (by omega)]
          rfl
        · cases hu
  · rintro ⟨hu, hvu, hp⟩
    obtain ⟨a', b', c'⟩ := gval_iff.mp hvu
    unfold gpix at hp
    unfold gkids
    split at hp
    · rename_i hk
      simp only [Option.some.injEq] at hp
      have e : u = t + 1 := by unfold tK at hk; omega
      subst e
      have e3 : tK (t + 1) = tK t + 1 := by unfold tK at *; omega
      rw [if_pos (by omega)]
      simp
    · split at hp
      · rename_i hk hj
        simp only [Option.some.injEq] at hp
        have e : u = t + 8 := by unfold tJ at hj; omega
        subst e
        have e2 : tJ (t + 8) = tJ t + 1 := by unfold tJ at *; omega
        have e3 : tK t = 0 := by unfold tK at *; omega
        rw [if_pos (show tK t = 0 ∧ tJ t + 1 < (R 1).length from ⟨e3, by omega⟩)]
        simp
      · split at hp
        · rename_i hk hj hi
          simp only [Option.some.injEq] at hp
          have e : u = t + 64 := by unfold tI at hi; omega
          subst e
          have e1 : tI (t + 64) = tI t + 1 := by unfold tI at *; omega
          have e2 : tJ t = 0 := by unfold tJ at *; omega
          have e3 : tK t = 0 := by unfold tK at *; omega
          rw [if_pos (show tK t = 0 ∧ tJ t = 0 ∧ tI t + 1 < (R 0).length from ⟨e3, e2, by omega⟩)]
          simp
        · cases hp
theorem gpix_none {t : Nat} (ht : t < 512) (h : gpix t = none) : t = 0 := by
  unfold gpix at h
  split at h
  · cases h
  · split at h
    · cases h
    · split at h
      · cases h
      · rename_i a b c
        unfold tI tJ tK at *
        omega
theorem gpix_0 : gpix 0 = none := by decide
/-! the kid of a merged row's entry -/
def mkids (s fl : Int) (R : Nat → List Int) (t : Nat) : List Nat := if tJ t + 1 < (R (rk fl (tI t))).length then [t + 8] else []
theorem mkids_nodup (s fl : Int) (R : Nat → List Int) (t : Nat) : (mkids s fl R t).Nodup := by
  unfold mkids
  split <;> simp
theorem mem_mkids {s fl : Int} {R : Nat → List Int} {t : Nat} (h : ∀ j, j < 6 → (R j).length ≤ 8) (hv : mval s fl R t = true) (u : Nat) : u ∈ mkids s fl R t ↔ u < 512 ∧ mval s fl R u = true ∧ mpix u = some t := by
  obtain ⟨a, b, c, e⟩ := mval_iff.mp hv
  have h0 := h _ (rk_lt (fl := fl) b)
  constructor
  · intro hu
    unfold mkids at hu
    split at hu
    · rename_i hc
      have : u = t + 8 := by simpa using hu
      subst this
      have e1 : tI (t + 8) = tI t := by unfold tI tJ at *; omega
      have e2 : tJ (t + 8) = tJ t + 1 := by unfold tJ at *; omega
      have e3 : tK (t + 8) = 0 := by unfold tK at *; omega
      refine ⟨by unfold tI at b; unfold tJ at e2; omega, mval_iff.mpr ⟨e3, by omega, by rw [e1]; exact c, by rw [e1, e2]; exact hc⟩, ?_⟩
      unfold mpix
      rw [if_pos (by omega)]
      rfl
    · cases hu
  · rintro ⟨hu, hvu, hp⟩
    obtain ⟨a', b', c', e'⟩ := mval_iff.mp hvu
    unfold mpix at hp
    split at hp
    · rename_i hj
      simp only [Option.some.injEq] at hp
      have e0 : u = t + 8 := by unfold tJ at hj; omega
      subst e0
      have e1 : tI (t + 8) = tI t := by unfold tI tJ at *; omega
      have e2 : tJ (t + 8) = tJ t + 1 := by unfold tJ at *; omega
      unfold mkids
      rw [e1, e2] at e'
      rw [if_pos e']
      simp
    · cases hp
/-! how many wait -/
section LIM
variable {L : List Int} {n : Nat}
theorem grid_few {kd : Int} {R : Nat → List Int} (h : ∀ j, j < 3 → rOK (R j)) (hL : L.Pairwise (· < ·)) (hs : ∀ x ∈ L, x ∈ gcrs 512 (gval R) (gkey kd R)) :
    (fro (gpar (gkey kd R) tdec gpix) L n).length ≤ (R 0).length * (R 1).length ∧ ((R 2).length ≤ 1 → (fro (gpar (gkey kd R) tdec gpix) L n).length ≤ (R 0).length) := by
  have hG := grid_GH (kd := kd) h
  have ix : ∀ x ∈ fro (gpar (gkey kd R) tdec gpix) L n, ∃ t, t < 512 ∧ gval R t = true ∧ x = gkey kd R t ∧ tdec x = t := by
    intro x hx
    obtain ⟨t, a, b, c⟩ := (mem_gcrs x).mp (hs x (fro_sub hx))
    exact ⟨t, a, b, c, by rw [c]; exact hG.1 t a b⟩
  have apart : ∀ t u, t < 512 → u < 512 → gval R t = true → gval R u = true → gkey kd R t ∈ fro (gpar (gkey kd R) tdec gpix) L n → gkey kd R u ∈ fro (gpar (gkey kd R) tdec gpix) L n → ∀ p, gpix u = some p → t ≤ p → tI t ≤ tI p → tJ t ≤ tJ p → tK t ≤ tK p → False := by
    intro t u ht hu vt vu xt xu p hp h0 h1 h2 h3
    obtain ⟨p1, p2, p3⟩ := hG.2.1 u hu vu p hp
    obtain ⟨a, b, c⟩ := gval_iff.mp p2
    have h4 := fro_apart hL xt xu (e := gkey kd R p) (by rw [gpar_key hG hu vu, hp]; rfl)
    have h5 := gnum_le (kd := kd) h h1 h2 h3 a b c
    unfold gkey at h4
    omega
  constructor
  · refine fro_few hL (fun x => tI (tdec x) * (R 1).length + tJ (tdec x)) _ (fun x hx => ?_) (fun x hx y hy e => ?_)
    · obtain ⟨t, a, b, c, e⟩ := ix x hx
      obtain ⟨a1, b1, c1⟩ := gval_iff.mp b
      simp only [e]
      have := Nat.mul_le_mul_right (R 1).length (show tI t + 1 ≤ (R 0).length by omega)
      rw [Nat.add_mul] at this
      omega
    · obtain ⟨t, a, b, c, et⟩ := ix x hx
      obtain ⟨u, a', b', c', eu⟩ := ix y hy
      simp only [et, eu] at e
      obtain ⟨a1, b1, c1⟩ := gval_iff.mp b
      obtain ⟨a2, b2, c2⟩ := gval_iff.mp b'
      have hpos : 0 < (R 1).length := by omega
      have e1 : tI t = tI u := by
        have d1 : (tI t * (R 1).length + tJ t) / (R 1).length = tI t := by
          rw [Nat.mul_comm, Nat.mul_add_div hpos, Nat.div_eq_of_lt b1, Nat.add_zero]
        have d2 : (tI u * (R 1).length + tJ u) / (R 1).length = tI u := by
          rw [Nat.mul_comm, Nat.mul_add_div hpos, Nat.div_eq_of_lt b2, Nat.add_zero]
        rw [← d1, e, d2]
      have e2 : tJ t = tJ u := by
        rw [e1] at e
        omega
      rw [c, c']
      rw [c] at hx
      rw [c'] at hy
      rcases Nat.lt_trichotomy (tK t) (tK u) with g | g | g
      · refine (apart t u a a' b b' hx hy (u - 1) ?_ ?_ ?_ ?_ ?_).elim
        · unfold gpix; rw [if_pos (by omega)]
        · unfold tI tJ tK at *; omega
        · unfold tI tJ tK at *; omega
        · unfold tI tJ tK at *; omega
        · unfold tI tJ tK at *; omega
      · have : t = u := by unfold tI tJ tK at *; omega
        rw [this]
      · refine (apart u t a' a b' b hy hx (t - 1) ?_ ?_ ?_ ?_ ?_).elim
        · unfold gpix; rw [if_pos (by omega)]
        · unfold tI tJ tK at *; omega
        · unfold tI tJ tK at *; omega
        · unfold tI tJ tK at *; omega
        · unfold tI tJ tK at *; omega
  · intro h2
    refine fro_few hL (fun x => tI (tdec x)) _ (fun x hx => ?_) (fun x hx y hy e => ?_)
    · obtain ⟨t, a, b, c, e⟩ := ix x hx
      obtain ⟨a1, b1, c1⟩ := gval_iff.mp b
      simp only [e]
      exact a1
    · obtain ⟨t, a, b, c, et⟩ := ix x hx
      obtain ⟨u, a', b', c', eu⟩ := ix y hy
      simp only [et, eu] at e
      obtain ⟨a1, b1, c1⟩ := gval_iff.mp b
      obtain ⟨a2, b2, c2⟩ := gval_iff.mp b'
      have k1 : tK t = 0 := by omega
      have k2 : tK u = 0 := by omega
      rw [c, c']
      rw [c] at hx
      rw [c'] at hy
      rcases Nat.lt_trichotomy (tJ t) (tJ u) with g | g | g
      · refine (apart t u a a' b b' hx hy (u - 8) ?_ ?_ ?_ ?_ ?_).elim
        · unfold gpix; rw [if_neg (by omega), if_pos (by omega)]
        · unfold tI tJ tK at *; omega
        · unfold tI tJ tK at *; omega
        · unfold tI tJ tK at *; omega
        · unfold tI tJ tK at *; omega
      · have : t = u := by unfold tI tJ tK at *; omega
        rw [this]
      · refine (apart u t a' a b' b hy hx (t - 8) ?_ ?_ ?_ ?_ ?_).elim
        · unfold gpix; rw [if_neg (by omega), if_pos (by omega)]
        · unfold tI tJ tK at *; omega
        · unfold tI tJ tK at *; omega
        · unfold tI tJ tK at *; omega
        · unfold tI tJ tK at *; omega
/-- rows of a set -/
def mems (s : Int) : List Nat := (List.range 6).filter (memS s)
theorem merged_few {s fl : Int} {R : Nat → List Int} (h : ∀ j, j < 6 → rOK (R j)) (hL : L.Pairwise (· < ·)) (hs : ∀ x ∈ L, x ∈ gcrs 512 (mval s fl R) (mkey fl R)) :
    (fro (gpar (mkey fl R) tdec mpix) L n).length ≤ (mems s).length := by
  have hG := merged_GH (s := s) (fl := fl) h
  have ix : ∀ x ∈ fro (gpar (mkey fl R) tdec mpix) L n, ∃ t, t < 512 ∧ mval s fl R t = true ∧ x = mkey fl R t ∧ tdec x = t := by
    intro x hx
    obtain ⟨t, a, b, c⟩ := (mem_gcrs x).mp (hs x (fro_sub hx))
    exact ⟨t, a, b, c, by rw [c]; exact hG.1 t a b⟩
  have apart : ∀ t u, t < 512 → u < 512 → mval s fl R t = true → mval s fl R u = true → mkey fl R t ∈ fro (gpar (mkey fl R) tdec mpix) L n → mkey fl R u ∈ fro (gpar (mkey fl R) tdec mpix) L n → tI t = tI u → tJ t < tJ u → False := by
    intro t u ht hu vt vu xt xu h1 h2
    have hp : mpix u = some (u - 8) := by unfold mpix; rw [if_pos (by omega)]
    obtain ⟨p1, p2, p3⟩ := hG.2.1 u hu vu _ hp
    obtain ⟨a, b, c, e⟩ := mval_iff.mp p2
    have h4 := fro_apart hL xt xu (e := mkey fl R (u - 8)) (by rw [gpar_key hG hu vu, hp]; rfl)
    have e1 : tI (u - 8) = tI t := by unfold tI tJ at *; omega
    have e2 : tJ t ≤ tJ (u - 8) := by unfold tI tJ at *; omega
    rw [e1] at e b
    have h5 := nAt_le (h _ (rk_lt (fl := fl) b)) e2 e
    unfold mkey at h4
    rw [e1] at h4
    have h6 : t ≤ u - 8 := by
      obtain ⟨z1, -, -, -⟩ := mval_iff.mp vt
      obtain ⟨z2, -, -, -⟩ := mval_iff.mp vu
      unfold tI tJ tK at *
      omega
    omega
  refine fro_sub_few hL (fun x => rk fl (tI (tdec x))) _ (fun x hx => ?_) (fun x hx y hy e => ?_)
  · obtain ⟨t, a, b, c, e⟩ := ix x hx
    obtain ⟨a1, b1, c1, d1⟩ := mval_iff.mp b
    simp only [e]
    exact List.mem_filter.mpr ⟨List.mem_range.mpr (rk_lt b1), c1⟩
  · obtain ⟨t, a, b, c, et⟩ := ix x hx
    obtain ⟨u, a', b', c', eu⟩ := ix y hy
    simp only [et, eu] at e
    obtain ⟨a1, b1, c1, d1⟩ := mval_iff.mp b
    obtain ⟨a2, b2, c2, d2⟩ := mval_iff.mp b'
    have e1 : tI t = tI u := by rw [← rk_rk (fl := fl) b1, e, rk_rk b2]
    rw [c, c']
    rw [c] at hx
    rw [c'] at hy
    rcases Nat.lt_trichotomy (tJ t) (tJ u) with g | g | g
    · exact (apart t u a a' b b' hx hy e1 g).elim
    · have : t = u := by unfold tI tJ tK at *; omega
      rw [this]
    · exact (apart u t a' a b' b hy hx e1.symm g).elim
end LIM
