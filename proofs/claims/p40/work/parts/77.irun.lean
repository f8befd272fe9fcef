/-! THE CONSTRUCTOR of the house: its end, by the small machine -/
def m_H_init : MT := (yX3_init, cX3_init, 2, none, 3, 0, false)
def c00 : CS := (-1, 0, 0, fun _ => [])
def H00 : HS := (fun _ => [], fun _ => (c00, 0, 0, []), 0)
theorem c00_crs : crs c00 = [] := by
  unfold crs
  rw [if_neg (show ¬ cK c00 = 0 by decide), if_neg (show ¬ cK c00 = 3 by decide), if_neg (show ¬ cK c00 = 5 by decide), if_pos (show cK c00 = -1 by decide)]
theorem c00_ok : WOK c00 0 0 [] := by
  have h : cOK c00 := ⟨by decide, by decide, Or.inl rfl, fun j _ => rOK_nil, fun z => by rcases z with z | z <;> exact absurd z (by decide), fun z => absurd z (by decide)⟩
  have h1 := WOK.start h
  rw [c00_crs] at h1
  exact h1
theorem RIs_nil {M : AMem} {r : Nat} (h : M 1 r 1 = 0) : RIs M r [] := ⟨h, fun i hi => absurd hi (Nat.not_lt_zero i), rOK_nil⟩
theorem QIs_nil {M : AMem} {q : Nat} (h : M 0 q 1 = 0) : QIs M q [] := ⟨h, Nat.zero_le _, fun _ => rfl, fun i _ hi => absurd hi (Nat.not_lt_zero i), fun x hx => by cases hx⟩
theorem Mi_H {M1 : AMem} {L : Nat} {xs : Nat → Int32} (hL : L ≤ 260) (hR : RIs M1 48 [0]) (hf : ∀ k i s, ¬ (k = 1 ∧ i = 48) → ¬ (k = 5 ∧ i = 48) → M1 k i s = Mi L xs k i s) : HIs M1 H00 ∧ scrM L xs M1 := by
  refine ⟨⟨fun r hr => RIs_nil ?_, hR, fun w hw => ?_, ?_, ?_, ?_⟩, ?_, ?_⟩
  · rw [hf _ _ _ (by omega) (by omega)]
    rfl
  · refine ⟨?_, ?_, ?_, ?_, ?_, ?_, fun j hj => RIs_nil ?_, QIs_nil ?_, c00_ok⟩
    · rw [hf _ _ _ (by omega) (by omega)]; rfl
    · rw [hf _ _ _ (by omega) (by omega)]; rfl
    · rw [hf _ _ _ (by omega) (by omega)]; rfl
    · rw [hf _ _ _ (by omega) (by omega)]; rfl
    · rw [hf _ _ _ (by omega) (by omega)]; rfl
    · rw [hf _ _ _ (by omega) (by omega)]; rfl
    · rw [hf _ _ _ (by omega) (by omega)]; rfl
    · rw [hf _ _ _ (by omega) (by omega)]; rfl
  · rw [hf _ _ _ (by omega) (by omega)]; rfl
  · rw [hf _ _ _ (by omega) (by omega)]
    show (0 : Int) ≤ (L : Int)
    omega
  · rw [hf _ _ _ (by omega) (by omega)]
    show (L : Int) ≤ 260
    omega
  · rw [hf _ _ _ (by omega) (by omega)]
    rfl
  · intro j _
    rw [hf _ _ _ (by omega) (by omega)]
    show Int32.ofInt (xs j).toInt = xs j
    exact Int32.ofInt_toInt _
theorem init_run {L : Nat} {xs : Nat → Int32} (hL : L ≤ 260) : RunQ 2 m_H_init 114 [some (vR 3 0), none] [] (Mi L xs) (fun v M1 => v = none ∧ HIs M1 H00 ∧ scrM L xs M1) := by
  refine q_aload_n 114 dX3_init_114 rfl ?_
  refine q_getfield 115 dX3_init_115 fk_3_16 rfl (v := vR 1 48) rfl ?_
  refine q_iconst 118 dX3_init_118 ?_
  refine q_vI 119 [vI 0] [] dX3_init_119 lk_3_34 rfl rfl rfl rfl rfl rfl rfl rfl ?_
  refine S_append (d := 0) (r := 48) (xs := []) (by omega) (RIs_nil rfl) (by omega) (fun _ _ M1 hR hf => ?_) (fun z => ?_)
  · refine q_pop 122 dX3_init_122 rfl ?_
    exact q_vret 123 dX3_init_123 rfl ⟨rfl, Mi_H hL hR hf⟩
  · exfalso
    rcases z with z | z
    · cases z
    · exact z (fun x hx => by cases hx)
