/-! how many powers: by exponents -/
def lowOK (k n : Nat) : Bool := (List.range k).all (fun c => n % pb c != 0)
def ckt (s : Int) (k B : Nat) : Nat := (List.range (B + 1)).countP (fun n => pval s n && lowOK k n)
theorem lowOK_s (k n : Nat) : lowOK (k + 1) n = (lowOK k n && n % pb k != 0) := by
  unfold lowOK
  rw [List.range_succ, List.all_append]
  simp
theorem ckt_0 (s : Int) (k : Nat) : ckt s k 0 = 0 := by
  unfold ckt
  simp [pval, smF_0]
theorem ckt_out {s : Int} {k B : Nat} (hk : k < 6) (hB : B < 2 ^ 17) (hm : ¬ memS s k = true) : ckt s k B = ckt s (k + 1) B := by
  unfold ckt
  apply List.countP_congr
  intro n hn
  have hn := List.mem_range.mp hn
  rw [lowOK_s]
  simp only [Bool.and_eq_true, bne_iff_ne, ne_eq]
  constructor
  · rintro ⟨a, b⟩
    refine ⟨a, b, fun z => ?_⟩
    have h0 := pval_pos a
    obtain ⟨m, hm2⟩ := Nat.dvd_of_mod_eq_zero z
    rw [Nat.mul_comm] at hm2
    subst hm2
    exact hm ((pval_mul hk m (by omega) (Nat.pos_of_mul_pos_right h0)).mp a).1
  · rintro ⟨a, b, -⟩
    exact ⟨a, b⟩
theorem countP_mul (p : Nat) (hp : 0 < p) (Q : Nat → Bool) (B : Nat) : (List.range (B + 1)).countP (fun n => n % p == 0 && Q n) = (List.range (B / p + 1)).countP (fun m => Q (m * p)) := by
  induction B with
  | zero => simp
  | succ B ih =>
    rw [List.range_succ, List.countP_append, ih]
    by_cases h : p ∣ B + 1
    · have h1 : (B + 1) / p = B / p + 1 := Nat.succ_div_of_dvd h
      have h2 : (B + 1) / p * p = B + 1 := Nat.div_mul_cancel h
      rw [h1, List.range_succ (n := B / p + 1), List.countP_append]
      congr 1
      rw [List.countP_singleton, List.countP_singleton, ← h1, h2]
      have h3 : (B + 1) % p = 0 := Nat.mod_eq_zero_of_dvd h
      rw [h3]
      simp
    · have h1 : (B + 1) / p = B / p := Nat.succ_div_of_not_dvd h
      rw [h1, List.countP_singleton]
      have h3 : ¬ (B + 1) % p = 0 := fun z => h (Nat.dvd_of_mod_eq_zero z)
      simp [h3]
theorem countP_split (l : List Nat) (P D : Nat → Bool) : l.countP P = l.countP (fun n => P n && !D n) + l.countP (fun n => D n && P n) := by
  induction l with
  | nil => rfl
  | cons a r ih =>
    rw [List.countP_cons, List.countP_cons, List.countP_cons, ih]
    cases P a <;> cases D a <;> simp <;> omega
theorem lowOK_mul {k c m : Nat} (hk : k < 6) (hc : c ≤ k) : lowOK c (m * pb k) = lowOK c m := by
  induction c with
  | zero => rfl
  | succ c ih =>
    rw [lowOK_s, lowOK_s, ih (by omega)]
    congr 1
    have : (m * pb k) % pb c = 0 ↔ m % pb c = 0 := by
      rw [← Nat.dvd_iff_mod_eq_zero, ← Nat.dvd_iff_mod_eq_zero]
      exact ⟨fun h => (pb_cop c (by omega) k hk (by omega)).dvd_of_dvd_mul_right h, fun h => Nat.dvd_mul_right_of_dvd h _⟩
    by_cases h : m % pb c = 0
    · rw [h, this.mpr h]
    · have h2 : ¬ (m * pb k) % pb c = 0 := fun z => h (this.mp z)
      rw [show (m % pb c != 0) = true from bne_iff_ne.mpr h, show (m * pb k % pb c != 0) = true from bne_iff_ne.mpr h2]
theorem ckt_in {s : Int} {k B : Nat} (hk : k < 6) (hB : B < 2 ^ 17) (hm : memS s k = true) : ckt s k B = ckt s (k + 1) B + ckt s k (B / pb k) := by
  unfold ckt
  rw [countP_split (List.range (B + 1)) (fun n => pval s n && lowOK k n) (fun n => n % pb k == 0)]
  congr 1
  · apply List.countP_congr
    intro n hn
    rw [lowOK_s]
    simp only [Bool.and_eq_true, Bool.not_eq_true', beq_eq_false_iff_ne, bne_iff_ne, ne_eq]
    constructor
    · rintro ⟨⟨a, b⟩, c⟩; exact ⟨a, b, c⟩
    · rintro ⟨a, b, c⟩; exact ⟨⟨a, b⟩, c⟩
  · have hp := pb_ge k
    rw [countP_mul (pb k) (by omega) (fun n => pval s n && lowOK k n)]
    apply List.countP_congr
    intro m hmr
    have hmr := List.mem_range.mp hmr
    rw [lowOK_mul hk (Nat.le_refl k)]
    rcases Nat.eq_zero_or_pos m with g | g
    · subst g
      simp [pval, smF_0]
    · have h1 : m * pb k ≤ B := by
        have := Nat.mul_le_mul_right (pb k) (show m ≤ B / pb k by omega)
        have h2 := Nat.div_mul_le_self B (pb k)
        omega
      have h3 := pval_mul (s := s) hk m (by omega) g
      simp only [Bool.and_eq_true]
      constructor
      · rintro ⟨a, b⟩; exact ⟨(h3.mp a).2, b⟩
      · rintro ⟨a, b⟩; exact ⟨h3.mpr ⟨hm, a⟩, b⟩
theorem ckt_6 {s : Int} {B : Nat} (hB : B < 2 ^ 17) : ckt s 6 B = if 1 ≤ B then 1 else 0 := by
  have h1 : ∀ n, n ≤ B → ((pval s n && lowOK 6 n) = true ↔ n = 1) := by
    intro n hn
    constructor
    · intro h
      simp only [Bool.and_eq_true] at h
      by_cases h1 : n = 1
      · exact h1
      · obtain ⟨a, b, c⟩ := (pval_step h1 (by omega)).mp h.1
        have h2 := List.all_eq_true.mp h.2 (tgb n) (List.mem_range.mpr (tgb_lt n))
        simp only [bne_iff_ne, ne_eq] at h2
        exact absurd (Nat.mod_eq_zero_of_dvd b) h2
    · rintro rfl
      rw [pval_1]
      decide
  have h2 : ∀ b, b ≤ B → ckt s 6 b = if 1 ≤ b then 1 else 0 := by
    intro b
    induction b with
    | zero => intro _; rw [ckt_0]; rfl
    | succ b ih =>
      intro hb
      have h3 := ih (by omega)
      unfold ckt at h3 ⊢
      rw [List.range_succ, List.countP_append, h3, List.countP_singleton]
      by_cases h4 : b = 0
      · subst h4
        rw [if_neg (by omega), if_pos ((h1 1 (by omega)).mpr rfl), if_pos (by omega)]
      · rw [if_pos (by omega), if_neg (fun z => h4 (by have := (h1 (b + 1) (by omega)).mp z; omega)), if_pos (by omega)]
  exact h2 B (Nat.le_refl _)
theorem ckt_crs (s : Int) (v : Int) (hv : 0 ≤ v) : (gcrs 100001 (pval s) pkey).countP (fun x => decide (x / 1024 ≤ v)) = ckt s 0 (min v.toNat 100000) := by
  rw [gcrs_count, List.countP_filter]
  unfold ckt
  have h1 : ∀ n m : Nat, m ≤ n → (∀ i, m ≤ i → i < n → (decide (pkey i / 1024 ≤ v) && pval s i) = false) → (List.range n).countP (fun a => decide (pkey a / 1024 ≤ v) && pval s a) = (List.range m).countP (fun a => decide (pkey a / 1024 ≤ v) && pval s a) := by
    intro n
    induction n with
    | zero =>
      intro m h _
      have : m = 0 := by omega
      subst this
      rfl
    | succ n ih =>
      intro m h hz
      by_cases hm : m = n + 1
      · subst hm; rfl
      · rw [List.range_succ, List.countP_append, ih m (by omega) (fun i a b => hz i a (by omega)), List.countP_singleton, if_neg (by rw [hz n (by omega) (by omega)]; decide), Nat.add_zero]
  have e1 : ∀ i : Nat, pkey i / 1024 = i := by
    intro i
    have := tgb_lt i
    unfold pkey
    omega
  rw [h1 100001 (min v.toNat 100000 + 1) (by omega) (fun i a b => by rw [e1, decide_eq_false (by omega)]; rfl)]
  apply List.countP_congr
  intro n hn
  have hn := List.mem_range.mp hn
  rw [e1, decide_eq_true (by omega)]
  simp [lowOK]
/-! the small functions -/
theorem S_isMember {d s j : Nat} {M : AMem} {Q : Int → AMem → Prop} (hs : s < 64) (hj : j < 6) (h1 : memS s j = true → Q 1 M) (h0 : ¬ memS s j = true → Q 0 M) : CallI d m_W_isMember [vI (s : Int), vI (j : Int)] M Q := by
  have h := memS_op s hs j hj
  exact T_W_isMember_0 ⟨fun c => ⟨_, rfl, h0 (fun z => c (h.mpr z))⟩, fun c => ⟨_, rfl, h1 (h.mp (Classical.not_not.mp c))⟩⟩
def p2 (e : Nat) : Nat := 2 ^ e
theorem p2_s (e : Nat) : p2 (e + 1) = p2 e * 2 := Nat.pow_succ 2 e
theorem p2_pos (e : Nat) : 0 < p2 e := Nat.pow_pos (by omega)
theorem p2_17 : p2 17 = 131072 := by decide
theorem p2_0 : p2 0 = 1 := rfl
/-- countProducts: as many as there are -/
theorem S_countProducts {s : Nat} {M : AMem} (hs : s < 64) : ∀ (f k d : Nat) (st bd : Nat) (Q : Int → AMem → Prop), k + f = 6 → 0 < st → st < 2000000 → bd ≤ 100000 → Q (ckt s k (bd / st) : Nat) M → CallI (d + f + 1) m_W_countProducts [vI (s : Int), vI (st : Int), vI (bd : Int), vI (k : Int)] M Q := by
  intro f
  induction f with
  | zero =>
    intro k d st bd Q hk h0 h1 h2 hQ
    have ek : wI (k : Int) = k := w_n (by omega)
    have es : wI (st : Int) = st := w_n (by omega)
    have eb : wI (bd : Int) = bd := w_n (by omega)
    have hk6 : k = 6 := by omega
    subst hk6
    have hd : bd / st ≤ bd := Nat.div_le_self _ _
    rw [ckt_6 (by omega)] at hQ
    refine T_W_countProducts_0 ⟨fun c => by rw [ek] at c; omega, fun _ => ⟨fun c => by rw [ek] at c; omega, fun _ => ⟨fun c => ⟨_, rfl, ?_⟩, fun c => ⟨_, rfl, ?_⟩⟩⟩⟩
    · rw [eb, es] at c
      rw [if_neg (by rw [Nat.div_eq_of_lt (by omega)]; omega)] at hQ
      exact hQ
    · rw [eb, es] at c
      rw [if_pos (show 1 ≤ bd / st from Nat.div_pos (by omega) h0)] at hQ
      exact hQ
  | succ f ih =>
    intro k d st bd Q hk h0 h1 h2 hQ
    have ek : wI (k : Int) = k := w_n (by omega)
    have eb : wI (bd : Int) = bd := w_n (by omega)
    have hk6 : k < 6 := by omega
    have hp := pb_ge k
    have hp2 := pb_le k
    have hd : ∀ x, bd / x ≤ bd := fun x => Nat.div_le_self _ _
    have ek1 : (k : Int) + 1 = ((k + 1 : Nat) : Int) := by omega
    refine T_W_countProducts_0 ⟨fun c => by rw [ek] at c; omega, fun _ => ⟨fun _ => ?_, fun c => by rw [ek] at c; omega⟩⟩
    refine S_isMember hs hk6 (fun hm => ⟨fun _ => ?_, fun c => absurd (by decide) c⟩) (fun hm => ⟨fun c => absurd (by decide) c, fun _ => ?_⟩)
    · have loop : ∀ (g e pr many : Nat), e + g = 17 → p2 e ≤ pr → pr < 2000000 → (∀ r : Nat, r = many + ckt s k (bd / pr) → Q (r : Int) M) →
          RunQ (d + (f + 1) + 1) m_W_countProducts 50 [some (vI (s : Int)), some (vI (st : Int)), some (vI (bd : Int)), some (vI (k : Int)), some (vI (many : Int)), some (vI (pr : Int)), some (vI (e : Int))] [] M (fun v M1 => ∃ x, v = some (vI x) ∧ Q x M1) := by
        intro g
        induction g with
        | zero =>
          intro e pr many he hpr hpl hR
          have e17 : e = 17 := by omega
          subst e17
          refine T_W_countProducts_50 ⟨fun _ => ⟨_, rfl, hR many ?_⟩, fun c => absurd (by decide) c⟩
          rw [p2_17] at hpr
          rw [Nat.div_eq_of_lt (by omega), ckt_0]
          rfl
        | succ g ig =>
          intro e pr many he hpr hpl hR
          have ee : wI (e : Int) = e := w_n (by omega)
          have ep : wI (pr : Int) = pr := w_n (by omega)
          have hp0 : 0 < pr := Nat.lt_of_lt_of_le (p2_pos e) hpr
          refine T_W_countProducts_50 ⟨fun c => ?_, fun _ => ⟨fun c => ⟨_, rfl, hR many ?_⟩, fun c => ?_⟩⟩
          · rw [ee] at c
            clear ee ep eb ek hpr
            omega
          · rw [eb, ep] at c
            have c' : bd < pr := by
              clear ee ep eb ek hpr
              omega
            rw [Nat.div_eq_of_lt c', ckt_0]
            rfl
          · rw [eb, ep] at c
            have c' : pr ≤ bd := by
              clear ee ep eb ek hpr
              omega
            rw [ek1, show d + (f + 1) = d + f + 1 from rfl]
            refine ih (k + 1) d pr bd _ (by clear ee ep eb ek hpr; omega) hp0 hpl h2 ⟨by rw [ek]; clear ee ep eb ek hpr; constructor <;> omega, ?_⟩
            rw [ek, Int.toNat_natCast, pb_bas, ← Int.natCast_add, ← Int.natCast_mul, show (e : Int) + 1 = ((e + 1 : Nat) : Int) from rfl]
            have hle : pr * pb k ≤ 100000 * 13 := Nat.mul_le_mul (Nat.le_trans c' h2) hp2
            have hdp : bd / pr < 2 ^ 17 := Nat.lt_of_le_of_lt (hd pr) (Nat.lt_of_le_of_lt h2 (by decide))
            refine ig (e + 1) (pr * pb k) _ (by clear ee ep eb ek hpr; omega) ?_ (Nat.lt_of_le_of_lt hle (by decide)) (fun r hr => hR r ?_)
            · rw [p2_s]
              exact Nat.mul_le_mul hpr hp
            · have e1 := ckt_in (B := bd / pr) hk6 hdp hm
              rw [Nat.div_div_eq_div_mul] at e1
              rw [hr, e1, Nat.add_assoc]
      refine loop 17 0 st 0 (by omega) h0 h1 (fun r hr => ?_)
      rw [Nat.zero_add] at hr
      rw [hr]
      exact hQ
    · rw [ckt_out hk6 (by have := hd st; omega) hm] at hQ
      rw [ek1, show d + (f + 1) = d + f + 1 by omega]
      exact ih (k + 1) d st bd _ (by omega) h0 h1 h2 ⟨_, rfl, hQ⟩
