/-! WHAT A WELL IS: its course (kind, set, falling, rows), how many closed rows, how many told, the row of what it tells -/
abbrev CS : Type := Int × Int × Int × (Nat → List Int)
def cK (c : CS) : Int := c.1
def cS (c : CS) : Int := c.2.1
def cF (c : CS) : Int := c.2.2.1
def cR (c : CS) : Nat → List Int := c.2.2.2
def crs (c : CS) : List Int := if cK c = 0 then gcrs 100001 (pval (cS c)) pkey else if cK c = 3 then gcrs 512 (mval (cS c) (cF c) (cR c)) (mkey (cF c) (cR c)) else if cK c = 5 then plist.map (fun p : Nat => (p : Int) * 1025) else if cK c = -1 then [] else gcrs 512 (gval (cR c)) (gkey (cK c) (cR c))
def cpar (c : CS) : Int → Option Int := if cK c = 0 then gpar pkey pdec ppix else if cK c = 3 then gpar (mkey (cF c) (cR c)) tdec mpix else gpar (gkey (cK c) (cR c)) tdec gpix
def cOK (c : CS) : Prop := (-1 ≤ cK c ∧ cK c ≤ 5) ∧ (0 ≤ cS c ∧ cS c < 64) ∧ (cF c = 0 ∨ cF c = 1) ∧ (∀ j, j < 6 → rOK (cR c j)) ∧ ((cK c = 1 ∨ cK c = 4) → cR c 2 = [0]) ∧ (cK c = 0 → 1 ≤ cS c)
theorem cOK.set {c : CS} (h : cOK c) : ∃ s : Nat, cS c = (s : Int) ∧ s < 64 := ⟨(cS c).toNat, by have := h.2.1; omega, by have := h.2.1; omega⟩
def pm (p last : Nat) : Nat := if last < p * p then p * p else (last / p + 1) * p
/-- what waits of the primes: the multiples -/
def pq (n : Nat) : List Int := (List.range n).map (fun i => ((pm (pAt i) (pLast n) : Nat) : Int) * 1024 + (pAt i : Int))
def wq (c : CS) (n : Nat) (L : List Int) : List Int := if cK c = 5 then pq n else fro (cpar c) L n
def WOK (c : CS) (cl n : Nat) (L : List Int) : Prop := cOK c ∧ n ≤ 100 ∧ n ≤ L.length ∧ (cl = 0 → L = crs c) ∧ (cK c ≠ 3 → cl = 0) ∧
  (cK c ≠ 5 → CL (cpar c) L ∧ (∀ x ∈ L, x ∈ crs c) ∧ ∀ i (hi : i < L.length), n ≤ i → ∀ y ∈ crs c, cpar c y = some L[i] → y ∈ L) ∧ (cl ≠ 0 → cl + (fro (cpar c) L n).length ≤ 6)
def lastK (n : Nat) (L : List Int) : Int := if n = 0 then 0 else L.getD (n - 1) 0
theorem crs_CL {c : CS} (h : cOK c) (h5 : cK c ≠ 5) : CL (cpar c) (crs c) := by
  obtain ⟨h1, h2, h3, h4, h6, h7⟩ := h
  unfold cpar crs
  by_cases k0 : cK c = 0
  · rw [if_pos k0, if_pos k0]
    exact gcrs_CL (powers_GH _)
  · rw [if_neg k0, if_neg k0]
    by_cases k3 : cK c = 3
    · rw [if_pos k3, if_pos k3]
      exact gcrs_CL (merged_GH h4)
    · rw [if_neg k3, if_neg k3, if_neg h5]
      by_cases km : cK c = -1
      · rw [if_pos km]
        exact ⟨List.Pairwise.nil, fun x hx => by cases hx⟩
      · rw [if_neg km]
        exact gcrs_CL (grid_GH (fun j hj => h4 j (by omega)))
theorem crs_0 {c : CS} (h : cK c = 0) : crs c = gcrs 100001 (pval (cS c)) pkey ∧ cpar c = gpar pkey pdec ppix := by
  unfold crs cpar
  rw [if_pos h, if_pos h]
  exact ⟨rfl, rfl⟩
theorem crs_3 {c : CS} (h : cK c = 3) : crs c = gcrs 512 (mval (cS c) (cF c) (cR c)) (mkey (cF c) (cR c)) ∧ cpar c = gpar (mkey (cF c) (cR c)) tdec mpix := by
  unfold crs cpar
  rw [if_neg (by omega), if_pos h, if_neg (by omega), if_pos h]
  exact ⟨rfl, rfl⟩
theorem crs_5 {c : CS} (h : cK c = 5) : crs c = plist.map (fun p : Nat => (p : Int) * 1025) := by
  unfold crs
  rw [if_neg (by omega), if_neg (by omega), if_pos h]
theorem crs_e {c : CS} (h : cK c = -1) : crs c = [] := by
  unfold crs
  rw [if_neg (by omega), if_neg (by omega), if_neg (by omega), if_pos h]
theorem crs_g {c : CS} (h : cK c = 1 ∨ cK c = 2 ∨ cK c = 4) : crs c = gcrs 512 (gval (cR c)) (gkey (cK c) (cR c)) ∧ cpar c = gpar (gkey (cK c) (cR c)) tdec gpix := by
  unfold crs cpar
  rw [if_neg (by omega), if_neg (by omega), if_neg (by omega), if_neg (by omega), if_neg (by omega), if_neg (by omega)]
  exact ⟨rfl, rfl⟩
theorem WOK.sub {c : CS} {cl n : Nat} {L : List Int} (h : WOK c cl n L) : ∀ x ∈ L, x ∈ crs c := by
  by_cases h5 : cK c = 5
  · have h0 := h.2.2.2.2.1 (by omega)
    rw [h.2.2.2.1 h0]
    exact fun x hx => hx
  · exact (h.2.2.2.2.2.1 h5).2.1
/-- every key of a course is small -/
theorem crs_ok {c : CS} (h : cOK c) {x : Int} (hx : x ∈ crs c) : 0 ≤ x ∧ x < 1024000000 := by
  obtain ⟨h1, h2, h3, h4, h6, h7⟩ := h
  by_cases k0 : cK c = 0
  · rw [(crs_0 k0).1] at hx
    obtain ⟨i, a, b, rfl⟩ := (mem_gcrs x).mp hx
    exact (powers_GH (cS c)).2.2 i a b
  · by_cases k3 : cK c = 3
    · rw [(crs_3 k3).1] at hx
      obtain ⟨i, a, b, rfl⟩ := (mem_gcrs x).mp hx
      exact (merged_GH (s := cS c) (fl := cF c) h4).2.2 i a b
    · by_cases k5 : cK c = 5
      · rw [crs_5 k5] at hx
        obtain ⟨p, hp, rfl⟩ := List.mem_map.mp hx
        have := (mem_plist.mp hp).1
        omega
      · by_cases km : cK c = -1
        · rw [crs_e km] at hx
          cases hx
        · rw [(crs_g (by omega)).1] at hx
          obtain ⟨i, a, b, rfl⟩ := (mem_gcrs x).mp hx
          exact (grid_GH (kd := cK c) (R := cR c) (fun j hj => h4 j (by omega))).2.2 i a b
/-- the kids' keys of an entry -/
def ckids (c : CS) (e : Int) : List Int := if cK c = 0 then (pkids (cS c) (pdec e)).map pkey else if cK c = 3 then (mkids (cS c) (cF c) (cR c) (tdec e)).map (mkey (cF c) (cR c)) else (gkids (cR c) (tdec e)).map (gkey (cK c) (cR c))
theorem map_nodup {α : Type} {K : List α} {f : α → Int} (h : K.Nodup) (hi : ∀ a ∈ K, ∀ b ∈ K, f a = f b → a = b) : (K.map f).Nodup := by
  rw [List.nodup_iff_pairwise_ne, List.pairwise_map]
  refine List.Pairwise.imp_of_mem ?_ h
  intro a b ha hb hne hz
  exact hne (hi a ha b hb hz)
theorem ckids_ok {c : CS} (h : cOK c) (h5 : cK c ≠ 5) {e : Int} (he : e ∈ crs c) : (ckids c e).Nodup ∧ (∀ x, x ∈ ckids c e ↔ x ∈ crs c ∧ cpar c x = some e) ∧ (cK c = 0 → (ckids c e).length ≤ (mems (cS c)).length) ∧ (cK c = 3 → (ckids c e).length ≤ 1) ∧ (ckids c e).length ≤ 6 ∧ ((cK c = 1 ∨ cK c = 4) → (ckids c e).length ≤ 2) ∧ (cK c = 2 → (ckids c e).length ≤ 3) := by
  obtain ⟨h1, h2, h3, h4, h6, h7⟩ := h
  unfold ckids
  by_cases k0 : cK c = 0
  · rw [if_pos k0, (crs_0 k0).1, (crs_0 k0).2]
    rw [(crs_0 k0).1] at he
    obtain ⟨i, a, b, rfl⟩ := (mem_gcrs e).mp he
    have hG := powers_GH (cS c)
    have hd : pdec (pkey i) = i := hG.1 i a b
    rw [hd]
    have hm := mem_pkids a b
    refine ⟨map_nodup (pkids_nodup _ (pval_pos b)) (fun x hx y hy e => gkey_inj hG ((hm x).mp hx).1 ((hm x).mp hx).2.1 ((hm y).mp hy).1 ((hm y).mp hy).2.1 e), fun x => ?_, fun _ => ?_, fun z => by omega, ?_, fun z => by omega, fun z => by omega⟩
    · rw [gcrs_kids hG a b, List.mem_map]
      constructor
      · rintro ⟨u, hu, rfl⟩
        obtain ⟨q1, q2, q3⟩ := (hm u).mp hu
        exact ⟨u, q1, q2, rfl, q3⟩
      · rintro ⟨u, q1, q2, rfl, q3⟩
        exact ⟨u, (hm u).mpr ⟨q1, q2, q3⟩, rfl⟩
    · rw [List.length_map]
      exact pkids_len _ _
    · rw [List.length_map]
      exact pks_len _ _ 6
  · rw [if_neg k0]
    by_cases k3 : cK c = 3
    · rw [if_pos k3, (crs_3 k3).1, (crs_3 k3).2]
      rw [(crs_3 k3).1] at he
      obtain ⟨i, a, b, rfl⟩ := (mem_gcrs e).mp he
      have hG := merged_GH (s := cS c) (fl := cF c) h4
      have hd : tdec (mkey (cF c) (cR c) i) = i := hG.1 i a b
      rw [hd]
      have hm := mem_mkids (fun j hj => (h4 j hj).1) b
      have hl : (mkids (cS c) (cF c) (cR c) i).length ≤ 1 := by
        unfold mkids
        split <;> simp
      refine ⟨map_nodup (mkids_nodup _ _ _ _) (fun x hx y hy e => gkey_inj hG ((hm x).mp hx).1 ((hm x).mp hx).2.1 ((hm y).mp hy).1 ((hm y).mp hy).2.1 e), fun x => ?_, fun z => by omega, fun _ => by rw [List.length_map]; exact hl, by rw [List.length_map]; omega, fun z => by omega, fun z => by omega⟩
      rw [gcrs_kids hG a b, List.mem_map]
      constructor
      · rintro ⟨u, hu, rfl⟩
        obtain ⟨q1, q2, q3⟩ := (hm u).mp hu
        exact ⟨u, q1, q2, rfl, q3⟩
      · rintro ⟨u, q1, q2, rfl, q3⟩
        exact ⟨u, (hm u).mpr ⟨q1, q2, q3⟩, rfl⟩
    · rw [if_neg k3]
      by_cases km : cK c = -1
      · rw [crs_e km] at he
        cases he
      · have kg : cK c = 1 ∨ cK c = 2 ∨ cK c = 4 := by omega
        rw [(crs_g kg).1, (crs_g kg).2]
        rw [(crs_g kg).1] at he
        obtain ⟨i, a, b, rfl⟩ := (mem_gcrs e).mp he
        have hG := grid_GH (kd := cK c) (R := cR c) (fun j hj => h4 j (by omega))
        have hd : tdec (gkey (cK c) (cR c) i) = i := hG.1 i a b
        rw [hd]
        have hm := mem_gkids (fun j hj => (h4 j (by omega)).1) b
        have hl := gkids_len (cR c) i
        refine ⟨map_nodup (gkids_nodup _ _) (fun x hx y hy e => gkey_inj hG ((hm x).mp hx).1 ((hm x).mp hx).2.1 ((hm y).mp hy).1 ((hm y).mp hy).2.1 e), fun x => ?_, fun z => by omega, fun z => by omega, by rw [List.length_map]; omega, fun z => ?_, fun _ => by rw [List.length_map]; exact hl.1⟩
        · rw [gcrs_kids hG a b, List.mem_map]
          constructor
          · rintro ⟨u, hu, rfl⟩
            obtain ⟨q1, q2, q3⟩ := (hm u).mp hu
            exact ⟨u, q1, q2, rfl, q3⟩
          · rintro ⟨u, q1, q2, rfl, q3⟩
            exact ⟨u, (hm u).mpr ⟨q1, q2, q3⟩, rfl⟩
        · rw [List.length_map]
          refine hl.2 ?_
          rw [h6 z]
          simp
/-- the same in the row of what the well tells -/
theorem WOK.kids {c : CS} {cl n : Nat} {L : List Int} (h : WOK c cl n L) (h5 : cK c ≠ 5) (hn : n < L.length) : (ckids c L[n]).Nodup ∧ ∀ x, x ∈ ckids c L[n] ↔ x ∈ L ∧ cpar c x = some L[n] := by
  obtain ⟨a, b, e⟩ := h.2.2.2.2.2.1 h5
  have h1 := ckids_ok h.1 h5 (b _ (List.getElem_mem hn))
  refine ⟨h1.1, fun x => ?_⟩
  rw [h1.2.1]
  constructor
  · rintro ⟨p, q⟩
    exact ⟨e n hn (Nat.le_refl _) x p q, q⟩
  · rintro ⟨p, q⟩
    exact ⟨b x p, q⟩
theorem WOK.start {c : CS} (h : cOK c) : WOK c 0 0 (crs c) := ⟨h, by omega, by omega, fun _ => rfl, fun _ => rfl, fun h5 => ⟨crs_CL h h5, fun x hx => hx, fun i hi _ y hy _ => hy⟩, fun z => absurd rfl z⟩
theorem WOK.tell {c : CS} {cl n : Nat} {L : List Int} (h : WOK c cl n L) (h1 : n < 100) (hn : n < L.length) : WOK c cl (n + 1) L := by
  obtain ⟨a1, a2, a3, a4, a5, a6, a7⟩ := id h
  refine ⟨a1, by omega, by omega, a4, a5, fun h5 => ⟨(a6 h5).1, (a6 h5).2.1, fun i hi hni => (a6 h5).2.2 i hi (by omega)⟩, fun hc => ?_⟩
  have k3 : cK c = 3 := Classical.byContradiction (fun z => hc (a5 z))
  have h5 : cK c ≠ 5 := by omega
  have hk := h.kids h5 hn
  have h2 := fro_len_step (a6 h5).1 hn hk.1 hk.2
  have h3 := (ckids_ok a1 h5 ((a6 h5).2.1 _ (List.getElem_mem hn))).2.2.2.1 k3
  have h4 := a7 hc
  omega
