/-! POWERS: numbers of few primes -/
def pb (b : Nat) : Nat := match b with
  | 0 => 2
  | 1 => 3
  | 2 => 5
  | 3 => 7
  | 4 => 11
  | _ => 13
theorem pb_bas (b : Nat) : bas b = (pb b : Int) := match b with
  | 0 => rfl
  | 1 => rfl
  | 2 => rfl
  | 3 => rfl
  | 4 => rfl
  | _ + 5 => rfl
theorem pb_ge (b : Nat) : 2 ≤ pb b := by
  unfold pb
  split <;> omega
theorem pb_le (b : Nat) : pb b ≤ 13 := by
  unfold pb
  split <;> omega
/-- the place of the greatest of the six primes that divides it (0 for none) -/
def tgb (n : Nat) : Nat := if 13 ∣ n then 5 else if 11 ∣ n then 4 else if 7 ∣ n then 3 else if 5 ∣ n then 2 else if 3 ∣ n then 1 else 0
theorem tgb_lt (n : Nat) : tgb n < 6 := by
  unfold tgb
  repeat' split
  all_goals omega
theorem tgb_ge {n c : Nat} (hc : c < 6) (h : pb c ∣ n) : c ≤ tgb n := by
  unfold tgb
  rcases (show c = 0 ∨ c = 1 ∨ c = 2 ∨ c = 3 ∨ c = 4 ∨ c = 5 by omega) with rfl | rfl | rfl | rfl | rfl | rfl <;> simp only [pb] at h <;> (repeat' split) <;> first | omega | contradiction
theorem tgb_dvd {n : Nat} (h : 0 < tgb n) : pb (tgb n) ∣ n := by
  unfold tgb at h ⊢
  by_cases h5 : 13 ∣ n
  · simp only [h5, if_true, pb]
  · by_cases h4 : 11 ∣ n
    · simp only [h5, h4, if_true, if_false, pb]
    · by_cases h3 : 7 ∣ n
      · simp only [h5, h4, h3, if_true, if_false, pb]
      · by_cases h2 : 5 ∣ n
        · simp only [h5, h4, h3, h2, if_true, if_false, pb]
        · by_cases h1 : 3 ∣ n
          · simp only [h5, h4, h3, h2, h1, if_true, if_false, pb]
          · simp only [h5, h4, h3, h2, h1, if_false] at h
            omega
theorem pb_cop : ∀ a, a < 6 → ∀ b, b < 6 → a ≠ b → Nat.Coprime (pb a) (pb b) := by decide +kernel
theorem tgb_1 : tgb 1 = 0 := by decide
theorem tgb_mul {n b : Nat} (hb : b < 6) (h : tgb n ≤ b) : tgb (n * pb b) = b := by
  have h1 : b ≤ tgb (n * pb b) := tgb_ge hb (Nat.dvd_mul_left _ _)
  rcases Nat.lt_or_ge b (tgb (n * pb b)) with g | g
  · exfalso
    have h2 := tgb_dvd (n := n * pb b) (by omega)
    have h3 := (pb_cop _ (tgb_lt (n * pb b)) b hb (by omega)).dvd_of_dvd_mul_right h2
    have h4 := tgb_ge (tgb_lt (n * pb b)) h3
    omega
  · omega
theorem tgb_mono {m n : Nat} (h : m ∣ n) : tgb m ≤ tgb n := by
  by_cases h0 : tgb m = 0
  · omega
  · exact tgb_ge (tgb_lt m) (Nat.dvd_trans (tgb_dvd (by omega)) h)
def smF (s : Int) : Nat → Nat → Bool
  | 0, n => n == 1
  | f + 1, n => n == 1 || (memS s (tgb n) && (n % pb (tgb n) == 0 && smF s f (n / pb (tgb n))))
theorem smF_0 (s : Int) : ∀ f, smF s f 0 = false
  | 0 => rfl
  | f + 1 => by
    rw [smF, Nat.zero_div, smF_0 s f]
    simp
theorem smF_step {s : Int} {f n : Nat} (h1 : n ≠ 1) : smF s (f + 1) n = true ↔ memS s (tgb n) = true ∧ pb (tgb n) ∣ n ∧ smF s f (n / pb (tgb n)) = true := by
  rw [smF]
  simp only [Bool.or_eq_true, Bool.and_eq_true, beq_iff_eq]
  rw [Nat.dvd_iff_mod_eq_zero]
  constructor
  · rintro (h | h)
    · exact absurd h h1
    · exact h
  · intro h
    exact Or.inr h
theorem div_half {n b k : Nat} (h : n < 2 ^ (k + 1)) : n / pb b < 2 ^ k := by
  have h1 : n / pb b ≤ n / 2 := Nat.div_le_div_left (pb_ge b) (by omega)
  have h2 : n / 2 < 2 ^ k := by
    rw [Nat.pow_succ] at h
    omega
  omega
theorem smF_fuel {s : Int} : ∀ (k f n : Nat), smF s f n = true → n < 2 ^ k → smF s k n = true := by
  intro k
  induction k with
  | zero =>
    intro f n h hn
    have : n = 0 := by simpa using hn
    subst this
    rw [smF_0] at h
    cases h
  | succ k ih =>
    intro f n h hn
    by_cases h1 : n = 1
    · subst h1
      rw [smF]
      rfl
    · cases f with
      | zero => exact absurd (by simpa [smF] using h) h1
      | succ f =>
        obtain ⟨a, b, c⟩ := (smF_step h1).mp h
        exact (smF_step h1).mpr ⟨a, b, ih f _ c (div_half hn)⟩
def pval (s : Int) (n : Nat) : Bool := smF s 17 n
theorem pval_1 (s : Int) : pval s 1 = true := rfl
theorem pval_pos {s : Int} {n : Nat} (h : pval s n = true) : 0 < n := by
  rcases Nat.eq_zero_or_pos n with g | g
  · subst g
    rw [pval, smF_0] at h
    cases h
  · exact g
theorem pval_step {s : Int} {n : Nat} (h1 : n ≠ 1) (hn : n < 2 ^ 17) : pval s n = true ↔ memS s (tgb n) = true ∧ pb (tgb n) ∣ n ∧ pval s (n / pb (tgb n)) = true := by
  unfold pval
  rw [smF_step h1]
  have h2 : n / pb (tgb n) < 2 ^ 16 := div_half hn
  constructor
  · rintro ⟨a, b, c⟩
    exact ⟨a, b, smF_fuel 17 16 _ c (by omega)⟩
  · rintro ⟨a, b, c⟩
    exact ⟨a, b, smF_fuel 16 17 _ c h2⟩
/-- any of the primes may be taken out, or in -/
theorem pval_mul {s : Int} {k : Nat} (hk : k < 6) : ∀ (m : Nat), m * pb k < 2 ^ 17 → 0 < m → (pval s (m * pb k) = true ↔ memS s k = true ∧ pval s m = true) := by
  intro m
  induction m using Nat.strongRecOn with
  | _ m ih =>
    intro hm h0
    have hp := pb_ge k
    have hne : m * pb k ≠ 1 := by
      intro z
      have := Nat.le_mul_of_pos_left (pb k) h0
      omega
    have hkt : k ≤ tgb (m * pb k) := tgb_ge hk (Nat.dvd_mul_left _ _)
    rw [pval_step hne hm]
    by_cases he : tgb (m * pb k) = k
    · rw [he, Nat.mul_div_cancel _ (by omega)]
      constructor
      · rintro ⟨a, -, c⟩; exact ⟨a, c⟩
      · rintro ⟨a, c⟩; exact ⟨a, Nat.dvd_mul_left _ _, c⟩
    · have hb := tgb_lt (m * pb k)
      have hd := tgb_dvd (n := m * pb k) (by omega)
      have hdm : pb (tgb (m * pb k)) ∣ m := (pb_cop _ hb k hk he).dvd_of_dvd_mul_right hd
      have htm : tgb m = tgb (m * pb k) := by
        have a := tgb_ge hb hdm
        have b := tgb_mono (m := m) (n := m * pb k) (Nat.dvd_mul_right _ _)
        omega
      obtain ⟨j, hj⟩ := hdm
      generalize hB : tgb (m * pb k) = B at *
      have hpB := pb_ge B
      have hj0 : 0 < j := by
        rcases Nat.eq_zero_or_pos j with g | g
        · subst g; omega
        · exact g
      have hjm : j < m := by
        rw [hj]
        have := Nat.mul_le_mul_right j hpB
        omega
      have e1 : m * pb k / pb B = j * pb k := by
        rw [hj, Nat.mul_assoc, Nat.mul_div_cancel_left _ (by omega)]
      have e2 : m / pb B = j := by rw [hj, Nat.mul_div_cancel_left _ (by omega)]
      have hjk : j * pb k ≤ m * pb k := Nat.mul_le_mul_right _ (by omega)
      rw [e1, ih j hjm (by omega) hj0]
      have hm1 : m ≠ 1 := by
        intro z
        subst z
        rw [tgb_1] at htm
        omega
      have hmle : m ≤ m * pb k := Nat.le_mul_of_pos_right _ (by omega)
      rw [pval_step hm1 (by omega), htm, e2]
      constructor
      · rintro ⟨a, b, c, e⟩; exact ⟨c, a, ⟨j, hj⟩, e⟩
      · rintro ⟨c, a, b, e⟩; exact ⟨a, hd, c, e⟩
def pkey (n : Nat) : Int := (n : Int) * 1024 + tgb n
def pdec (x : Int) : Nat := (x / 1024).toNat
def ppix (n : Nat) : Option Nat := if n = 1 then none else some (n / pb (tgb n))
theorem powers_GH (s : Int) : GH 100001 (pval s) pkey pdec ppix := by
  refine ⟨fun n hn hv => ?_, fun n hn hv m hm => ?_, fun n hn hv => ?_⟩
  · have := tgb_lt n
    unfold pdec pkey
    omega
  · unfold ppix at hm
    split at hm
    · cases hm
    · rename_i h1
      cases hm
      obtain ⟨a, b, c⟩ := (pval_step h1 (by omega)).mp hv
      have h0 := pval_pos hv
      have h2 : n / pb (tgb n) < n := Nat.div_lt_self h0 (pb_ge _)
      refine ⟨by omega, c, ?_⟩
      have t1 := tgb_lt (n / pb (tgb n))
      unfold pkey
      omega
  · have := tgb_lt n
    unfold pkey
    omega
def pkids (s : Int) (n : Nat) : List Nat := ((List.range 6).filter (fun b => decide (tgb n ≤ b) && (memS s b && decide (n * pb b ≤ 100000)))).map (fun b => n * pb b)
theorem pb_inj : ∀ a, a < 6 → ∀ b, b < 6 → pb a = pb b → a = b := by decide +kernel
theorem pkids_nodup (s : Int) {n : Nat} (h : 0 < n) : (pkids s n).Nodup := by
  unfold pkids
  rw [List.nodup_iff_pairwise_ne, List.pairwise_map]
  refine List.Pairwise.imp_of_mem ?_ (List.nodup_range.filter _)
  intro a b ha hb hne hz
  have ha := List.mem_range.mp (List.mem_filter.mp ha).1
  have hb := List.mem_range.mp (List.mem_filter.mp hb).1
  exact hne (pb_inj a ha b hb (Nat.eq_of_mul_eq_mul_left h hz))
theorem pkids_len (s : Int) (n : Nat) : (pkids s n).length ≤ (mems s).length := by
  unfold pkids mems
  rw [List.length_map]
  have : ∀ l : List Nat, (l.filter (fun b => decide (tgb n ≤ b) && (memS s b && decide (n * pb b ≤ 100000)))).length ≤ (l.filter (memS s)).length := by
    intro l
    induction l with
    | nil => simp
    | cons a r ih =>
      rw [List.filter_cons, List.filter_cons]
      by_cases h : memS s a = true
      · rw [if_pos h]
        split
        · simp only [List.length_cons]; omega
        · simp only [List.length_cons]; omega
      · rw [if_neg h, if_neg (by simp [h])]
        exact ih
  exact this _
theorem mem_pkids {s : Int} {n : Nat} (hn : n < 100001) (hv : pval s n = true) (u : Nat) : u ∈ pkids s n ↔ u < 100001 ∧ pval s u = true ∧ ppix u = some n := by
  have h0 := pval_pos hv
  unfold pkids
  rw [List.mem_map]
  constructor
  · rintro ⟨b, hb, rfl⟩
    obtain ⟨h1, h2⟩ := List.mem_filter.mp hb
    simp only [Bool.and_eq_true, decide_eq_true_eq] at h2
    have hb6 := List.mem_range.mp h1
    obtain ⟨h3, h4, h5⟩ := h2
    have hp := pb_ge b
    have hne : n * pb b ≠ 1 := by
      intro z
      have := Nat.le_mul_of_pos_left (pb b) h0
      omega
    refine ⟨by omega, (pval_mul hb6 n (by omega) h0).mpr ⟨h4, hv⟩, ?_⟩
    unfold ppix
    rw [if_neg hne, tgb_mul hb6 h3, Nat.mul_div_cancel _ (by omega)]
  · rintro ⟨h1, h2, h3⟩
    unfold ppix at h3
    split at h3
    · cases h3
    · rename_i hne
      simp only [Option.some.injEq] at h3
      obtain ⟨a, b, c⟩ := (pval_step hne (by omega)).mp h2
      have e : n * pb (tgb u) = u := by rw [← h3]; exact Nat.div_mul_cancel b
      refine ⟨tgb u, List.mem_filter.mpr ⟨List.mem_range.mpr (tgb_lt u), ?_⟩, e⟩
      simp only [Bool.and_eq_true, decide_eq_true_eq]
      refine ⟨?_, a, by omega⟩
      exact tgb_mono ⟨pb (tgb u), e.symm⟩
theorem ppix_none {n : Nat} (h : ppix n = none) : n = 1 := by
  unfold ppix at h
  split at h
  · assumption
  · cases h
theorem ppix_1 : ppix 1 = none := rfl
