/-! QUEUES: what lies in a row of keys, counted; heap order -/
def cnt (A : Nat → Int) : Nat → Int → Nat
  | 0, _ => 0
  | n + 1, x => cnt A n x + (if A n = x then 1 else 0)
def up1 (A : Nat → Int) (i : Nat) (v : Int) : Nat → Int := fun j => if j = i then v else A j
theorem up1_s (A : Nat → Int) (i : Nat) (v : Int) : up1 A i v i = v := if_pos rfl
theorem up1_n {A : Nat → Int} {i j : Nat} {v : Int} (h : j ≠ i) : up1 A i v j = A j := if_neg h
theorem cnt_congr {A B : Nat → Int} {n : Nat} (h : ∀ i, i < n → A i = B i) (x : Int) : cnt A n x = cnt B n x := by
  induction n with
  | zero => rfl
  | succ n ih => rw [cnt, cnt, ih (fun i hi => h i (by omega)), h n (by omega)]
theorem cnt_up {A : Nat → Int} {i n : Nat} {v : Int} (h : i < n) (x : Int) : cnt (up1 A i v) n x + (if A i = x then 1 else 0) = cnt A n x + (if v = x then 1 else 0) := by
  induction n with
  | zero => omega
  | succ n ih =>
    rw [cnt, cnt]
    by_cases hi : i = n
    · subst hi
      rw [up1_s, cnt_congr (A := up1 A i v) (B := A) (fun j hj => up1_n (by omega))]
      omega
    · rw [up1_n (fun z => hi z.symm)]
      have := ih (by omega)
      omega
theorem cnt_pos {A : Nat → Int} {n : Nat} {x : Int} : 0 < cnt A n x ↔ ∃ i, i < n ∧ A i = x := by
  induction n with
  | zero => simp [cnt]
  | succ n ih =>
    rw [cnt]
    constructor
    · intro h
      by_cases hx : A n = x
      · exact ⟨n, by omega, hx⟩
      · rw [if_neg hx] at h
        obtain ⟨i, h1, h2⟩ := ih.mp (by omega)
        exact ⟨i, by omega, h2⟩
    · rintro ⟨i, h1, h2⟩
      by_cases hi : i = n
      · subst hi
        rw [if_pos h2]
        omega
      · have := ih.mpr ⟨i, by omega, h2⟩
        omega
theorem cnt_list (F : List Int) (A : Nat → Int) (x : Int) (h : ∀ i (hi : i < F.length), A i = F[i]) : cnt A F.length x = F.count x := by
  induction F generalizing A with
  | nil => simp [cnt]
  | cons y r ih =>
    have h1 : ∀ (n : Nat) (A : Nat → Int), cnt A (n + 1) x = (if A 0 = x then 1 else 0) + cnt (fun i => A (i + 1)) n x := by
      intro n
      induction n with
      | zero => intro A; simp [cnt]
      | succ n ih => intro A; rw [cnt, ih, cnt]; omega
    rw [List.length_cons, h1, ih (fun i => A (i + 1)) (fun i hi => by rw [h (i + 1) (by simpa using hi)]; rfl), h 0 (by simp), List.count_cons]
    simp only [List.getElem_cons_zero, beq_iff_eq]
    omega
/-- heap order -/
def hp (A : Nat → Int) (n : Nat) : Prop := ∀ i, 0 < i → i < n → A ((i - 1) / 2) ≤ A i
theorem hp_root {A : Nat → Int} {n : Nat} (h : hp A n) : ∀ i, i < n → A 0 ≤ A i := by
  intro i
  induction i using Nat.strongRecOn with
  | _ i ih =>
    intro hi
    by_cases h0 : i = 0
    · subst h0; exact Int.le_refl _
    · exact Int.le_trans (ih ((i - 1) / 2) (by omega) (by omega)) (h i (by omega) hi)
def kOK (x : Int) : Prop := 0 ≤ x ∧ x < 2147483648
/-- a queue that holds these keys, in any order -/
def QIs (M : AMem) (q : Nat) (F : List Int) : Prop := M 0 q 1 = F.length ∧ F.length ≤ 512 ∧ (∀ x, cnt (M 4 q) F.length x = F.count x) ∧ hp (M 4 q) F.length ∧ ∀ x ∈ F, kOK x
theorem QIs.perm {M : AMem} {q : Nat} {F G : List Int} (h : QIs M q F) (p : F.Perm G) : QIs M q G := by
  obtain ⟨h1, h2, h3, h4, h5⟩ := h
  have hl := p.length_eq
  rw [hl] at h1 h2 h3 h4
  exact ⟨h1, h2, fun x => by rw [h3 x]; exact p.count_eq x, h4, fun x hx => h5 x (p.mem_iff.mpr hx)⟩
theorem QIs.congr {M M' : AMem} {q : Nat} {F : List Int} (h : QIs M q F) (h1 : M' 0 q 1 = M 0 q 1) (h2 : ∀ s, M' 4 q s = M 4 q s) : QIs M' q F := by
  have e : M' 4 q = M 4 q := funext h2
  unfold QIs
  rw [h1, e]
  exact h
theorem QIs.ok {M : AMem} {q : Nat} {F : List Int} (h : QIs M q F) {i : Nat} (hi : i < F.length) : M 4 q i ∈ F ∧ kOK (M 4 q i) := by
  have h1 : 0 < cnt (M 4 q) F.length (M 4 q i) := cnt_pos.mpr ⟨i, hi, rfl⟩
  rw [h.2.2.1] at h1
  have h2 := List.count_pos_iff.mp h1
  exact ⟨h2, h.2.2.2.2 _ h2⟩
theorem QIs.at {M : AMem} {q : Nat} {F : List Int} (h : QIs M q F) {x : Int} (hx : x ∈ F) : ∃ i, i < F.length ∧ M 4 q i = x := by
  apply cnt_pos.mp
  rw [h.2.2.1]
  exact List.count_pos_iff.mpr hx
theorem QIs.min {M : AMem} {q : Nat} {F : List Int} {m : Int} (h : QIs M q F) (hm : m ∈ F) (hmin : ∀ x ∈ F, m ≤ x) : M 4 q 0 = m := by
  have hl : 0 < F.length := List.length_pos_of_mem hm
  obtain ⟨i, hi, e⟩ := h.at hm
  have h1 := hp_root h.2.2.2.1 i hi
  have h2 := hmin _ (h.ok hl).1
  omega
/-! numbers -/
theorem w_n {n : Nat} (h : n < 2147483648) : wI (n : Int) = n := wI_eq (by omega) (by omega)
theorem w_k {x : Int} (h : kOK x) : wI x = x := wI_eq (by have := h.1; omega) h.2
theorem td_n (n k : Nat) (hk : 0 < k) : Int.tdiv (n : Int) (k : Int) = ((n / k : Nat) : Int) := by
  rw [Int.tdiv_eq_ediv_of_nonneg (by omega), Int.natCast_ediv]
theorem td_pos {x : Int} (k : Int) (h : 0 ≤ x) : Int.tdiv x k = x / k := Int.tdiv_eq_ediv_of_nonneg h
theorem tm_pos {x : Int} (k : Int) (h : 0 ≤ x) : Int.tmod x k = x % k := Int.tmod_eq_emod_of_nonneg h
theorem ok0 {q : Nat} (h : q < 7) : okH 0 q = true := decide_eq_true h
theorem ok1 {q : Nat} (h : q < 49) : okH 1 q = true := decide_eq_true h
theorem ok2 {q : Nat} (h : q < 7) : okH 2 q = true := decide_eq_true h
theorem aup_row (M : AMem) (k i j : Nat) (v : Int) : aup M k i j v k i = up1 (M k i) j v := by
  funext s
  unfold aup up1
  by_cases h : s = j
  · rw [if_pos ⟨rfl, rfl, h⟩, if_pos h]
  · rw [if_neg (fun z => h z.2.2), if_neg h]
theorem aup_s (M : AMem) (k i j : Nat) (v : Int) : aup M k i j v k i j = v := if_pos ⟨rfl, rfl, rfl⟩
theorem aup_n {M : AMem} {k i j k' i' j' : Nat} {v : Int} (h : ¬ (k' = k ∧ i' = i ∧ j' = j)) : aup M k i j v k' i' j' = M k' i' j' := if_neg h
/-! leaves -/
theorem S_keyOf {d : Nat} {n t : Int} {M : AMem} {Q : Int → AMem → Prop} (h : Q (n * 1024 + t) M) : CallI d m_Q_keyOf [vI n, vI t] M Q := T_Q_keyOf_0 ⟨_, rfl, h⟩
theorem S_numberOf {d : Nat} {x : Int} {M : AMem} {Q : Int → AMem → Prop} (hx : kOK x) (h : Q (x / 1024) M) : CallI d m_Q_numberOf [vI x] M Q := T_Q_numberOf_0 ⟨_, rfl, by rw [w_k hx, td_pos _ hx.1]; exact h⟩
theorem S_tagOf {d : Nat} {x : Int} {M : AMem} {Q : Int → AMem → Prop} (hx : kOK x) (h : Q (x % 1024) M) : CallI d m_Q_tagOf [vI x] M Q := T_Q_tagOf_0 ⟨_, rfl, by rw [w_k hx, tm_pos _ hx.1]; exact h⟩
theorem kOK_num {x : Int} (h : kOK x) : kOK (x / 1024) := by unfold kOK at *; omega
theorem kOK_tag {x : Int} (h : kOK x) : kOK (x % 1024) := by unfold kOK at *; omega
