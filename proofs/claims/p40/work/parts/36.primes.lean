/-! PRIMES -/
def isP (n : Nat) : Bool := decide (1 < n) && (List.range n).all (fun d => decide (d < 2) || n % d != 0)
theorem isP_iff {n : Nat} : isP n = true ↔ 1 < n ∧ ∀ d, 2 ≤ d → d < n → n % d ≠ 0 := by
  unfold isP
  simp only [Bool.and_eq_true, decide_eq_true_eq, List.all_eq_true, List.mem_range, Bool.or_eq_true, bne_iff_ne, ne_eq]
  constructor
  · rintro ⟨a, b⟩
    refine ⟨a, fun d h2 hd => ?_⟩
    rcases b d hd with h | h
    · omega
    · exact h
  · rintro ⟨a, b⟩
    refine ⟨a, fun d hd => ?_⟩
    by_cases h : d < 2
    · exact Or.inl h
    · exact Or.inr (b d (by omega) hd)
theorem isP_sqrt {n d : Nat} (hd : n < d * d) (h : ∀ c, 2 ≤ c → c < d → n % c ≠ 0) : isP n = true ↔ 1 < n := by
  rw [isP_iff]
  refine ⟨fun z => z.1, fun h1 => ⟨h1, fun c h2 hc hz => ?_⟩⟩
  rcases Nat.lt_or_ge c d with g | g
  · exact h c h2 g hz
  · obtain ⟨q, hq⟩ := Nat.dvd_of_mod_eq_zero hz
    have hq0 : q ≠ 0 := by
      intro z
      rw [z, Nat.mul_zero] at hq
      omega
    have hq1 : q ≠ 1 := by
      intro z
      rw [z, Nat.mul_one] at hq
      omega
    have hqd : q < d := by
      rcases Nat.lt_or_ge q d with k | k
      · exact k
      · have := Nat.mul_le_mul g k
        omega
    refine h q (by omega) hqd ?_
    rw [hq]
    exact Nat.mul_mod_left _ _
theorem prime_loop {d : Nat} {Y : MT} {pc : Nat} {n : Nat} {M : AMem} {Q : Option AV → AMem → Prop} (hn : n ≤ 1000) (h1 : isP n = true → Q (some (vI 1)) M) (h0 : ¬ isP n = true → Q (some (vI 0)) M)
    (step : ∀ c : Nat, ((((n : Nat) : Int) < (((c * c : Nat)) : Int)) → ((((n : Nat) : Int) ≤ 1) → Q (some (vI 0)) M) ∧ (¬ (((n : Nat) : Int) ≤ 1) → Q (some (vI 1)) M)) ∧ (¬ (((n : Nat) : Int) < ((c * c : Nat) : Int)) → ((¬ n % c = 0) → RunQ d Y pc [some (vI (n : Int)), some (vI (((c + 1 : Nat)) : Int))] [] M Q) ∧ (¬ (¬ n % c = 0) → Q (some (vI 0)) M)) → 2 ≤ c → c ≤ 33 → RunQ d Y pc [some (vI (n : Int)), some (vI (c : Int))] [] M Q) :
    ∀ (f c : Nat), c + f = 33 → 2 ≤ c → (∀ b, 2 ≤ b → b < c → n % b ≠ 0) → RunQ d Y pc [some (vI (n : Int)), some (vI (c : Int))] [] M Q := by
  intro f
  induction f with
  | zero =>
    intro c hc h2 hb
    have : c = 33 := by omega
    subst this
    refine step 33 ⟨fun _ => ⟨fun c1 => h0 (fun z => ?_), fun c1 => h1 ((isP_sqrt (by omega) hb).mpr (by omega))⟩, fun c1 => absurd (by omega) c1⟩ (by omega) (by omega)
    have := (isP_iff.mp z).1
    omega
  | succ f ih =>
    intro c hc h2 hb
    refine step c ⟨fun hlt => ⟨fun c1 => h0 (fun z => ?_), fun c1 => h1 ((isP_sqrt (Int.ofNat_lt.mp hlt) hb).mpr (by omega))⟩, fun hge => ⟨fun hm => ?_, fun hm => h0 (fun z => ?_)⟩⟩ h2 (by omega)
    · have := (isP_iff.mp z).1
      omega
    · refine ih (c + 1) (by omega) (by omega) (fun b g1 g2 => ?_)
      by_cases hbc : b = c
      · rw [hbc]; exact hm
      · exact hb b g1 (by omega)
    · have hge2 : c * c ≤ n := Nat.le_of_not_lt (fun z => hge (Int.ofNat_lt.mpr z))
      have hcc : c * 2 ≤ c * c := Nat.mul_le_mul_left c h2
      exact (isP_iff.mp z).2 c h2 (by omega) (Classical.not_not.mp hm)
theorem pr_fix {n c : Nat} (hn : n ≤ 1000) (hc : c ≤ 33) (h2 : 2 ≤ c) : wI (n : Int) = (n : Int) ∧ wI ((c : Int) * (c : Int)) = ((c * c : Nat) : Int) ∧ wI (c : Int) = (c : Int) ∧ (wI (Int.tmod (n : Int) (c : Int)) = 0 ↔ n % c = 0) := by
  have hcc : c * c ≤ 33 * 33 := Nat.mul_le_mul hc hc
  refine ⟨w_n (Nat.lt_of_le_of_lt hn (by decide)), ?_, w_n (Nat.lt_of_le_of_lt hc (by decide)), ?_⟩
  · rw [← Int.natCast_mul]
    exact w_n (Nat.lt_of_le_of_lt hcc (by decide))
  · rw [tm_pos _ (by omega), ← Int.natCast_emod]
    have : n % c ≤ n := Nat.mod_le _ _
    rw [w_n (Nat.lt_of_le_of_lt (Nat.le_trans this hn) (by decide))]
    omega
theorem S_isPrimeW {d n : Nat} {M : AMem} {Q : Int → AMem → Prop} (hn : n ≤ 1000) (h1 : isP n = true → Q 1 M) (h0 : ¬ isP n = true → Q 0 M) : CallI d m_W_isPrime [vI (n : Int)] M Q := by
  refine T_W_isPrime_0 (prime_loop (n := n) hn (fun z => ⟨_, rfl, h1 z⟩) (fun z => ⟨_, rfl, h0 z⟩) (fun c hs h2 h33 => ?_) 31 2 (by omega) (by omega) (fun b g1 g2 => by omega))
  obtain ⟨e1, e2, e3, e4⟩ := pr_fix hn h33 h2
  refine T_W_isPrime_2 ?_
  rw [e1, e2, e3, e4]
  exact ⟨hs.1, fun z => ⟨by omega, hs.2 z⟩⟩
theorem S_isPrimeL {d n : Nat} {M : AMem} {Q : Int → AMem → Prop} (hn : n ≤ 1000) (h1 : isP n = true → Q 1 M) (h0 : ¬ isP n = true → Q 0 M) : CallI d m_L_isPrime [vI (n : Int)] M Q := by
  refine T_L_isPrime_0 (prime_loop (n := n) hn (fun z => ⟨_, rfl, h1 z⟩) (fun z => ⟨_, rfl, h0 z⟩) (fun c hs h2 h33 => ?_) 31 2 (by omega) (by omega) (fun b g1 g2 => by omega))
  obtain ⟨e1, e2, e3, e4⟩ := pr_fix hn h33 h2
  refine T_L_isPrime_2 ?_
  rw [e1, e2, e3, e4]
  exact ⟨hs.1, fun z => ⟨by omega, hs.2 z⟩⟩
/-- the primes up to 600, in order -/
def plist : List Nat := (List.range 601).filter isP
theorem plist_len : plist.length = 109 := by decide +kernel
theorem mem_plist {n : Nat} : n ∈ plist ↔ n ≤ 600 ∧ isP n = true := by
  unfold plist
  rw [List.mem_filter, List.mem_range]
  constructor
  · rintro ⟨a, b⟩; exact ⟨by omega, b⟩
  · rintro ⟨a, b⟩; exact ⟨by omega, b⟩
theorem plist_sorted : plist.Pairwise (· < ·) := List.Pairwise.filter _ List.pairwise_lt_range
def pAt (n : Nat) : Nat := plist.getD n 0
theorem pAt_eq {n : Nat} (h : n < 109) : ∃ hn : n < plist.length, pAt n = plist[n] := by
  have h1 : n < plist.length := by rw [plist_len]; exact h
  refine ⟨h1, ?_⟩
  unfold pAt
  simp [List.getD, h1]
theorem pAt_mem {n : Nat} (h : n < 109) : pAt n ≤ 600 ∧ isP (pAt n) = true := by
  obtain ⟨h1, h2⟩ := pAt_eq h
  rw [h2]
  exact mem_plist.mp (List.getElem_mem _)
theorem pAt_lt {m n : Nat} (h : n < 109) (hm : m < n) : pAt m < pAt n := by
  obtain ⟨h1, h2⟩ := pAt_eq h
  obtain ⟨h3, h4⟩ := pAt_eq (show m < 109 by omega)
  rw [h2, h4]
  exact List.pairwise_iff_getElem.mp plist_sorted m n h3 h1 hm
theorem pAt_of {q : Nat} (h : q ≤ 600) (hp : isP q = true) : ∃ m, m < 109 ∧ pAt m = q := by
  obtain ⟨m, hm, e⟩ := List.getElem_of_mem (mem_plist.mpr ⟨h, hp⟩)
  rw [plist_len] at hm
  obtain ⟨h1, h2⟩ := pAt_eq hm
  exact ⟨m, hm, by rw [h2, e]⟩
/-- the last number told, of n -/
def pLast (n : Nat) : Nat := if n = 0 then 0 else pAt (n - 1)
theorem pLast_lt {n : Nat} (h : n < 109) : pLast n < pAt n := by
  unfold pLast
  split
  · have := (isP_iff.mp (pAt_mem h).2).1
    omega
  · exact pAt_lt h (by omega)
theorem no_prime {n m : Nat} (h : n < 109) (h1 : pLast n < m) (h2 : m < pAt n) : ¬ isP m = true := by
  intro hp
  obtain ⟨k, hk, e⟩ := pAt_of (by have := (pAt_mem h).1; omega) hp
  rcases Nat.lt_or_ge k n with g | g
  · have hle : pAt k ≤ pLast n := by
      unfold pLast
      rw [if_neg (by omega)]
      by_cases hkn : k = n - 1
      · rw [hkn]; exact Nat.le_refl _
      · exact Nat.le_of_lt (pAt_lt (by omega) (by omega))
    omega
  · by_cases hkn : k = n
    · rw [hkn] at e; omega
    · have := pAt_lt hk (show n < k by omega)
      omega
theorem pcount_eq (v : Nat) (hv : v ≤ 600) : plist.countP (fun p => decide (p ≤ v)) = ((List.range (v + 1)).filter isP).length := by
  unfold plist
  rw [List.countP_filter]
  have : ∀ n m : Nat, m ≤ n → (∀ i, m ≤ i → i < n → ¬ (i ≤ v)) → (∀ i, i < m → i ≤ v) → (List.range n).countP (fun a => decide (a ≤ v) && isP a) = ((List.range m).filter isP).length := by
    intro n
    induction n with
    | zero =>
      intro m h _ _
      have : m = 0 := by omega
      subst this
      rfl
    | succ n ih =>
      intro m h hz hy
      by_cases hm : m = n + 1
      · subst hm
        rw [← List.countP_eq_length_filter]
        apply List.countP_congr
        intro x hx
        have hx := hy x (List.mem_range.mp hx)
        simp [hx]
      · rw [List.range_succ, List.countP_append, ih m (by omega) (fun i a b => hz i a (by omega)) hy, List.countP_singleton, if_neg (by simp [hz n (by omega) (by omega)]), Nat.add_zero]
  exact this 601 (v + 1) (by omega) (fun i a b => by omega) (fun i a => by omega)
theorem S_countPrimes {d v : Nat} {M : AMem} {Q : Int → AMem → Prop} (hv : v ≤ 600) (h : Q (((List.range (v + 1)).filter isP).length : Nat) M) : CallI (d + 1) m_W_countPrimes [vI (v : Int)] M Q := by
  refine T_W_countPrimes_0 ?_
  have ev : wI (v : Int) = v := w_n (Nat.lt_of_le_of_lt hv (by decide))
  have loop : ∀ (f p : Nat), p + f = v + 1 → 2 ≤ p → RunQ (d + 1) m_W_countPrimes 4 [some (vI (v : Int)), some (vI ((((List.range p).filter isP).length : Nat) : Int)), some (vI (p : Int))] [] M (fun v M1 => ∃ x, v = some (vI x) ∧ Q x M1) := by
    intro f
    induction f with
    | zero =>
      intro p hp h2
      have : p = v + 1 := by omega
      subst this
      refine T_W_countPrimes_4 ⟨fun _ => ⟨_, rfl, h⟩, fun c => ?_⟩
      rw [ev, w_n (show v + 1 < 2147483648 by omega)] at c
      omega
    | succ f ih =>
      intro p hp h2
      have ep : wI (p : Int) = p := w_n (by omega)
      have e1 : (p : Int) + 1 = ((p + 1 : Nat) : Int) := rfl
      have h9 := ih (p + 1) (by omega) (by omega)
      rw [List.range_succ, List.filter_append, List.length_append] at h9
      refine T_W_countPrimes_4 ⟨fun c => ?_, fun c => ⟨fun c2 => ?_, fun c2 => ?_⟩⟩
      · rw [ev, ep] at c
        omega
      · rw [ep] at c2
        omega
      · refine S_isPrimeW (by omega) (fun hp1 => ⟨fun z => absurd z (by decide), fun _ => ?_⟩) (fun hp1 => ⟨fun _ => ?_, fun z => absurd (by decide) z⟩)
        · have e2 : ([p].filter isP).length = 1 := by rw [List.filter_cons, if_pos hp1]; rfl
          rw [e2] at h9
          exact h9
        · have e2 : ([p].filter isP).length = 0 := by rw [List.filter_cons, if_neg hp1]; rfl
          rw [e2] at h9
          exact h9
  by_cases hv2 : 2 ≤ v + 1
  · exact loop (v + 1 - 2) 2 (by omega) (by omega)
  · have hv0 : v = 0 := by omega
    subst hv0
    refine T_W_countPrimes_4 ⟨fun _ => ⟨_, rfl, h⟩, fun c => absurd (by decide) c⟩
