/-! ints of the small machine and the machine's -/
theorem i_toInt (z : Int) : (Int32.ofInt z).toInt = wI z := by
  rw [Int32.toInt_ofInt, wI, Int.bmod_def]
  rw [show Int32.size = 4294967296 from rfl]
  split <;> omega
theorem l_toInt (z : Int) : (Int64.ofInt z).toInt = wL z := by
  rw [Int64.toInt_ofInt, wL, Int.bmod_def]
  rw [show Int64.size = 18446744073709551616 from rfl]
  split <;> omega
theorem wI_lo (z : Int) : -2147483648 ≤ wI z := by unfold wI; omega
theorem wI_hi (z : Int) : wI z < 2147483648 := by unfold wI; omega
theorem wI_eq {z : Int} (h1 : -2147483648 ≤ z) (h2 : z < 2147483648) : wI z = z := by unfold wI; omega
theorem wI_wI (z : Int) : wI (wI z) = wI z := wI_eq (wI_lo z) (wI_hi z)
theorem i_wI (z : Int) : Int32.ofInt (wI z) = Int32.ofInt z := by
  rw [← Int32.toInt_inj, i_toInt, i_toInt, wI_wI]
theorem i_lt (a b : Int) : Int32.ofInt a < Int32.ofInt b ↔ wI a < wI b := by rw [Int32.lt_iff_toInt_lt, i_toInt, i_toInt]
theorem i_le (a b : Int) : Int32.ofInt a ≤ Int32.ofInt b ↔ wI a ≤ wI b := by rw [Int32.le_iff_toInt_le, i_toInt, i_toInt]
theorem i_eq (a b : Int) : Int32.ofInt a = Int32.ofInt b ↔ wI a = wI b := by rw [← Int32.toInt_inj, i_toInt, i_toInt]
theorem i_of (x : Int32) : Int32.ofInt x.toInt = x := Int32.ofInt_toInt x
theorem i_w (x : Int32) : wI x.toInt = x.toInt := by rw [← i_toInt, i_of]
theorem i_0 : Int32.ofInt 0 = 0 := rfl
theorem i_nat (z : Int) : (Int32.ofInt z).toNatClampNeg = (wI z).toNat := by
  show (Int32.ofInt z).toInt.toNat = _
  rw [i_toInt]
theorem i_in {z : Int} {n : Nat} (h0 : 0 ≤ wI z) (h : wI z < n) : vp_in (Int32.ofInt z) n := by
  rw [vp_in_iff, i_toInt]
  exact ⟨h0, h⟩
theorem i_div (a b : Int) : Int32.ofInt a / Int32.ofInt b = Int32.ofInt (Int.tdiv (wI a) (wI b)) := by
  rw [← Int32.toInt_inj, Int32.toInt_div, i_toInt, i_toInt, Int32.toInt_ofInt]
theorem i_rem (a b : Int) : Int32.ofInt a - Int32.ofInt a / Int32.ofInt b * Int32.ofInt b = Int32.ofInt (Int.tmod (wI a) (wI b)) := by
  rw [i_div, ← i_wI a, ← i_wI b, ← Int32.ofInt_mul, ← Int32.ofInt_sub, Int.tmod_def, Int.mul_comm]
theorem i_l (z : Int) : (Int32.ofInt z).toInt64 = Int64.ofInt (wI z) := by
  rw [← Int64.toInt_inj, Int32.toInt_toInt64, i_toInt, l_toInt]
  have h1 := wI_lo z
  have h2 := wI_hi z
  generalize wI z = y at h1 h2 ⊢
  unfold wL
  omega
theorem i_cmp (a b : Int) : lg_cmp (Int64.ofInt a) (Int64.ofInt b) = Int32.ofInt (opCmp a b) := by
  unfold lg_cmp opCmp
  simp only [gt_iff_lt, Int64.lt_iff_toInt_lt, ← Int64.toInt_inj, l_toInt]
  split
  · rfl
  · split <;> rfl
/-! a step's parts -/
theorem sI_inv {st : List AV} {f : Int → List AV → Option SR} {R : SR} (h : sI st f = some R) : ∃ z r, st = vI z :: r ∧ f z r = some R := by
  unfold sI at h
  split at h
  · exact ⟨_, _, rfl, h⟩
  · cases h
theorem sL_inv {st : List AV} {f : Int → List AV → Option SR} {R : SR} (h : sL st f = some R) : ∃ z r, st = vL z :: r ∧ f z r = some R := by
  unfold sL at h
  split at h
  · exact ⟨_, _, rfl, h⟩
  · cases h
theorem sA_inv {st : List AV} {f : Nat → Nat → List AV → Option SR} {R : SR} (h : sA st f = some R) : ∃ k i r, st = vR k i :: r ∧ f k i r = some R := by
  unfold sA at h
  split at h
  · exact ⟨_, _, _, rfl, h⟩
  · cases h
theorem sR_inv {st : List AV} {f : Nat → Nat → List AV → Option SR} {R : SR} (h : sR st f = some R) : ∃ k i r, st = vR k i :: r ∧ okH k i = true ∧ f k i r = some R := by
  unfold sR at h
  split at h
  · split at h
    · rename_i hk
      exact ⟨_, _, _, rfl, hk, h⟩
    · cases h
  · cases h
theorem sV_inv {st : List AV} {f : AV → List AV → Option SR} {R : SR} (h : sV st f = some R) : ∃ v r, st = v :: r ∧ f v r = some R := by
  unfold sV at h
  split at h
  · exact ⟨_, _, rfl, h⟩
  · cases h
theorem gL_inv {ls : ALs} {i : Nat} {f : AV → Option SR} {R : SR} (h : gL ls i f = some R) : ∃ v, ls[i]? = some (some v) ∧ f v = some R := by
  unfold gL at h
  split at h
  · exact ⟨_, by assumption, h⟩
  · cases h
theorem oG_inv {α : Type} {x : Option α} {f : α → Option SR} {R : SR} (h : oG x f = some R) : ∃ v, x = some v ∧ f v = some R := by
  unfold oG at h
  split at h
  · exact ⟨_, rfl, h⟩
  · cases h
theorem if_inv {c : Prop} [Decidable c] {x : Option SR} {R : SR} (h : (if c then x else none) = some R) : c ∧ x = some R := by
  split at h
  · exact ⟨by assumption, h⟩
  · cases h
theorem nif_inv {c : Prop} [Decidable c] {x : Option SR} {R : SR} (h : (if c then none else x) = some R) : ¬ c ∧ x = some R := by
  split at h
  · cases h
  · exact ⟨by assumption, h⟩
theorem nx_inv {pc pc' : Nat} {ls ls' : ALs} {st st' : List AV} {M M' : AMem} (h : nx pc ls st M = some (.inl (pc', ls', st', M'))) : pc' = pc ∧ ls' = ls ∧ st' = st ∧ M' = M := by
  unfold nx at h
  simp only [Option.some.injEq, Sum.inl.injEq, Prod.mk.injEq] at h
  obtain ⟨a, b, c, d⟩ := h
  exact ⟨a.symm, b.symm, c.symm, d.symm⟩
/-! values -/
def tv (ad : Nat → Nat → Nat) (v : AV) : Value := match v with
  | .inl z => .int (Int32.ofInt z)
  | .inr (.inl z) => .long (Int64.ofInt z)
  | .inr (.inr (k, i)) => .ref (ad k i)
theorem tv_I (ad : Nat → Nat → Nat) (z : Int) : tv ad (vI z) = .int (Int32.ofInt z) := rfl
theorem tv_L (ad : Nat → Nat → Nat) (z : Int) : tv ad (vL z) = .long (Int64.ofInt z) := rfl
theorem tv_R (ad : Nat → Nat → Nat) (k i : Nat) : tv ad (vR k i) = .ref (ad k i) := rfl
theorem tv_cat (ad : Nat → Nat → Nat) (v : AV) : (tv ad v).category = acat v := by
  rcases v with z | z | ⟨k, i⟩ <;> rfl
/-! locals -/
def lpr (ad : Nat → Nat → Nat) : Nat → ALs → List (Nat × Value)
  | _, [] => []
  | n, none :: r => lpr ad (n + 1) r
  | n, some v :: r => (n, tv ad v) :: lpr ad (n + 1) r
theorem mem_lpr {ad : Nat → Nat → Nat} {i : Nat} {x : Value} : ∀ {n : Nat} {ls : ALs}, (i, x) ∈ lpr ad n ls ↔ ∃ v, n ≤ i ∧ ls[i - n]? = some (some v) ∧ x = tv ad v
  | n, [] => by simp [lpr]
  | n, none :: r => by
    rw [lpr, mem_lpr]
    constructor
    · rintro ⟨v, h1, h2, h3⟩
      refine ⟨v, by omega, ?_, h3⟩
      rw [show i - n = (i - (n + 1)) + 1 by omega]
      exact h2
    · rintro ⟨v, h1, h2, h3⟩
      by_cases hi : i = n
      · subst hi
        simp at h2
      · refine ⟨v, by omega, ?_, h3⟩
        rw [show i - n = (i - (n + 1)) + 1 by omega] at h2
        exact h2
  | n, some w :: r => by
    rw [lpr, List.mem_cons, mem_lpr]
    constructor
    · rintro (h | ⟨v, h1, h2, h3⟩)
      · cases h
        exact ⟨w, Nat.le_refl _, by simp, rfl⟩
      · refine ⟨v, by omega, ?_, h3⟩
        rw [show i - n = (i - (n + 1)) + 1 by omega]
        exact h2
    · rintro ⟨v, h1, h2, h3⟩
      by_cases hi : i = n
      · subst hi
        simp at h2
        subst h2
        exact Or.inl (by rw [h3])
      · refine Or.inr ⟨v, by omega, ?_, h3⟩
        rw [show i - n = (i - (n + 1)) + 1 by omega] at h2
        exact h2
def lsR (ad : Nat → Nat → Nat) (ls : ALs) (nL : Nat) (lj : Array Slot) : Prop := ls.length = nL ∧ lv_has lj nL (lpr ad 0 ls)
theorem lsR_at {ad : Nat → Nat → Nat} {ls : ALs} {nL i : Nat} {lj : Array Slot} {v : AV} (h : lsR ad ls nL lj) (hv : ls[i]? = some (some v)) : lj[i]? = some (.val (tv ad v)) :=
  h.2.2.2 (i, tv ad v) (mem_lpr.mpr ⟨v, Nat.zero_le _, hv, rfl⟩)
theorem lsR_set {ad : Nat → Nat → Nat} {ls : ALs} {nL i : Nat} {lj : Array Slot} {v : AV} (hlen : ls.length = nL) (hok : stOK ls i = true)
    (h : lv_has lj nL ((i, tv ad v) :: (lpr ad 0 ls).filter (fun q => !(q.1 == i) && !(q.1 + 1 == i && q.2.category == 2)))) : lsR ad (ls.set i (some v)) nL lj := by
  refine ⟨by rw [List.length_set]; exact hlen, h.1, h.2.1, fun q hq => ?_⟩
  obtain ⟨j, x⟩ := q
  obtain ⟨w, -, h2, rfl⟩ := mem_lpr.mp hq
  rw [Nat.sub_zero] at h2
  by_cases hj : j = i
  · subst hj
    rw [List.getElem?_set_self (by simp only [stOK, Bool.and_eq_true, decide_eq_true_eq] at hok; exact hok.1)] at h2
    cases h2
    exact h.2.2 _ List.mem_cons_self
  · rw [List.getElem?_set_ne (Ne.symm hj)] at h2
    refine h.2.2 (j, tv ad w) (List.mem_cons_of_mem _ (List.mem_filter.mpr ⟨mem_lpr.mpr ⟨w, Nat.zero_le _, h2, rfl⟩, ?_⟩))
    simp only [Bool.and_eq_true, Bool.not_eq_true', beq_eq_false_iff_ne, ne_eq, Bool.and_eq_false_iff]
    refine ⟨hj, ?_⟩
    by_cases hc : j + 1 = i
    · right
      simp only [stOK, Bool.and_eq_true, decide_eq_true_eq] at hok
      have h3 := hok.2
      rw [show i - 1 = j by omega, h2] at h3
      simp only [Bool.or_eq_true, decide_eq_true_eq, beq_iff_eq] at h3
      rw [tv_cat]
      rcases h3 with h3 | h3
      · omega
      · omega
    · exact Or.inl hc
theorem lsR_set2 {ad : Nat → Nat → Nat} {ls : ALs} {nL i : Nat} {lj : Array Slot} {v : AV} (hlen : ls.length = nL) (hok : stOK ls i = true)
    (h : lv_has lj nL ((i, tv ad v) :: (lpr ad 0 ls).filter (fun q => !(q.1 == i) && (!(q.1 == i + 1) && !(q.1 + 1 == i && q.2.category == 2))))) : lsR ad ((ls.set i (some v)).set (i + 1) none) nL lj := by
  refine ⟨by rw [List.length_set, List.length_set]; exact hlen, h.1, h.2.1, fun q hq => ?_⟩
  obtain ⟨j, x⟩ := q
  obtain ⟨w, -, h2, rfl⟩ := mem_lpr.mp hq
  rw [Nat.sub_zero] at h2
  by_cases hj1 : j = i + 1
  · subst hj1
    have h4 := (List.getElem?_eq_some_iff.mp h2).1
    rw [List.length_set] at h4
    rw [List.getElem?_set_self h4] at h2
    cases h2
  rw [List.getElem?_set_ne (Ne.symm hj1)] at h2
  by_cases hj : j = i
  · subst hj
    rw [List.getElem?_set_self (by simp only [stOK, Bool.and_eq_true, decide_eq_true_eq] at hok; exact hok.1)] at h2
    cases h2
    exact h.2.2 _ List.mem_cons_self
  · rw [List.getElem?_set_ne (Ne.symm hj)] at h2
    refine h.2.2 (j, tv ad w) (List.mem_cons_of_mem _ (List.mem_filter.mpr ⟨mem_lpr.mpr ⟨w, Nat.zero_le _, h2, rfl⟩, ?_⟩))
    simp only [Bool.and_eq_true, Bool.not_eq_true', beq_eq_false_iff_ne, ne_eq, Bool.and_eq_false_iff]
    refine ⟨hj, hj1, ?_⟩
    by_cases hc : j + 1 = i
    · right
      simp only [stOK, Bool.and_eq_true, decide_eq_true_eq] at hok
      have h3 := hok.2
      rw [show i - 1 = j by omega, h2] at h3
      simp only [Bool.or_eq_true, decide_eq_true_eq, beq_iff_eq] at h3
      rw [tv_cat]
      rcases h3 with h3 | h3
      · omega
      · omega
    · exact Or.inl hc
/-- a call's locals -/
theorem lsR_ini {ad : Nat → Nat → Nat} (Y : MT) (as : List AV) (hc : ∀ v ∈ as, acat v = 1) (hn : as.length ≤ mtL Y) : lsR ad (lini Y as) (mtL Y) ((lg_sl (as.map (tv ad)) ++ List.replicate (mtL Y - (lg_sl (as.map (tv ad))).length) Slot.unset).toArray) := by
  have hl : (lg_sl (as.map (tv ad))).length = as.length := by
    clear hn
    induction as with
    | nil => rfl
    | cons v r ih =>
      have h1 := hc v List.mem_cons_self
      have h2 := ih (fun w hw => hc w (List.mem_cons_of_mem _ hw))
      simp only [lg_sl, List.map_cons, List.flatMap_cons, List.length_append, List.length_cons] at h2 ⊢
      rw [h2, if_neg (by rw [tv_cat]; omega)]
      simp only [List.length_cons, List.length_nil]
      omega
  have h := lv_entry (as.map (tv ad)) (n := mtL Y) (by rw [hl]; exact hn)
  refine ⟨by simp [lini]; omega, h.1, h.2.1, fun q hq => ?_⟩
  obtain ⟨j, x⟩ := q
  obtain ⟨w, -, h2, rfl⟩ := mem_lpr.mp hq
  rw [Nat.sub_zero] at h2
  have key : ∀ (as : List AV) (n : Nat), (∀ v ∈ as, acat v = 1) → ∀ j w, as[j]? = some w → (n + j, tv ad w) ∈ lv_args n (as.map (tv ad)) := by
    intro as
    induction as with
    | nil => intro n _ j w h; simp at h
    | cons v r ih =>
      intro n hc j w h
      rw [List.map_cons, lv_args, tv_cat, if_neg (by have := hc v List.mem_cons_self; omega)]
      cases j with
      | zero =>
        simp at h
        subst h
        exact List.mem_cons_self
      | succ j =>
        have h3 := ih (n + 1) (fun w hw => hc w (List.mem_cons_of_mem _ hw)) j w (by simpa using h)
        rw [show n + (j + 1) = n + 1 + j by omega]
        exact List.mem_cons_of_mem _ h3
  have h3 : as[j]? = some w := by
    unfold lini at h2
    by_cases hj : j < as.length
    · rw [List.getElem?_append_left (by simpa using hj), List.getElem?_map] at h2
      cases hz : as[j]? with
      | none => rw [hz] at h2; cases h2
      | some y => rw [hz] at h2; simpa using h2
    · rw [List.getElem?_append_right (by simp; omega)] at h2
      have := List.eq_of_mem_replicate (List.mem_of_getElem? h2)
      cases this
  have h4 := key as 0 hc j w h3
  rw [Nat.zero_add] at h4
  exact h.2.2 _ h4
