theorem push_loop {d q : Nat} {key : Int} {G : List Int} {Q : Option AV → AMem → Prop} (hq : q < 7) (hk : kOK key) (hN : G.length ≤ 512) (hG : ∀ x ∈ G, kOK x) :
    ∀ (a : Nat) (M : AMem), M 0 q 1 = G.length → a < G.length → (∀ x, cnt (up1 (M 4 q) a key) G.length x = G.count x) →
      (∀ i, 0 < i → i < G.length → i ≠ a → up1 (M 4 q) a key ((i - 1) / 2) ≤ up1 (M 4 q) a key i) →
      (∀ i, 0 < i → i < G.length → (i - 1) / 2 = a → 0 < a → up1 (M 4 q) a key ((a - 1) / 2) ≤ up1 (M 4 q) a key i) →
      (∀ M', QIs M' q G → (∀ k i s, ¬ (k = 4 ∧ i = q ∧ s ≤ a) → M' k i s = M k i s) → Q none M') →
      RunQ d m_Q_push 35 [some (vR 0 q), some (vI key), some (vI (a : Int))] [] M Q := by
  intro a
  induction a using Nat.strongRecOn with
  | _ a ih =>
    intro M hsz ha C1 C2 C3 hQ
    have ea : wI (a : Int) = a := w_n (by omega)
    have fin : (a = 0 ∨ M 4 q ((a - 1) / 2) ≤ key) → Q none (aup M 4 q a key) := by
      intro hc
      refine hQ _ ⟨by rw [aup_n (by omega)]; exact hsz, hN, ?_, ?_, hG⟩ (fun k i s h => aup_n (fun z => h ⟨z.1, z.2.1, by omega⟩))
      · intro x
        rw [aup_row]
        exact C1 x
      · rw [aup_row]
        intro i h0 hi
        by_cases hia : i = a
        · subst hia
          rcases hc with hc | hc
          · omega
          · rw [up1_s, up1_n (by omega)]
            exact hc
        · exact C2 i h0 hi hia
    refine T_Q_push_35 (ok0 hq) ⟨fun c => ⟨by rw [ea]; constructor <;> omega, ?_⟩, fun c => ?_⟩
    · rw [ea, Int.toNat_natCast]
      exact fin (Or.inl (by omega))
    · rw [ea] at c
      have e1 : wI ((a : Int) - 1) = ((a - 1 : Nat) : Int) := by rw [wI_eq (by omega) (by omega)]; omega
      have e2 : Int.tdiv (wI ((a : Int) - 1)) 2 = (((a - 1) / 2 : Nat) : Int) := by rw [e1]; exact td_n (a - 1) 2 (by omega)
      have e3 : wI (((a - 1) / 2 : Nat) : Int) = (((a - 1) / 2 : Nat) : Int) := w_n (by omega)
      rw [e2, e3, Int.toNat_natCast, ea, Int.toNat_natCast]
      have hp1 : (a - 1) / 2 < a := by omega
      have hp2 : (a - 1) / 2 < G.length := by omega
      have hpk : kOK (M 4 q ((a - 1) / 2)) := by
        have h1 : 0 < cnt (up1 (M 4 q) a key) G.length (M 4 q ((a - 1) / 2)) := cnt_pos.mpr ⟨(a - 1) / 2, hp2, up1_n (by omega)⟩
        rw [C1] at h1
        exact hG _ (List.count_pos_iff.mp h1)
      rw [w_k hpk, w_k hk]
      refine ⟨by constructor <;> omega, fun c2 => ⟨by constructor <;> omega, fin (Or.inr c2)⟩, fun c2 => ⟨by constructor <;> omega, by constructor <;> omega, ?_⟩⟩
      refine ih _ hp1 (aup M 4 q a (M 4 q ((a - 1) / 2))) (by rw [aup_n (by omega)]; exact hsz) hp2 ?_ ?_ ?_ ?_
      · intro x
        rw [aup_row]
        have h1 := cnt_up (A := up1 (M 4 q) a (M 4 q ((a - 1) / 2))) (i := (a - 1) / 2) (n := G.length) (v := key) hp2 x
        have h2 := cnt_up (A := M 4 q) (i := a) (n := G.length) (v := M 4 q ((a - 1) / 2)) ha x
        have h3 := cnt_up (A := M 4 q) (i := a) (n := G.length) (v := key) ha x
        rw [up1_n (by omega)] at h1
        rw [← C1 x]
        omega
      · rw [aup_row]
        intro i h0 hi hip
        by_cases hpar : (i - 1) / 2 = (a - 1) / 2
        · rw [hpar, up1_s, up1_n hip]
          by_cases hia : i = a
          · subst hia
            rw [up1_s]
            omega
          · rw [up1_n hia]
            have h1 := C2 i h0 hi hia
            rw [hpar, up1_n (by omega), up1_n hia] at h1
            omega
        · by_cases hpa : (i - 1) / 2 = a
          · rw [hpa, up1_n (by omega), up1_s, up1_n (by omega), up1_n (by omega)]
            have h1 := C3 i h0 hi hpa (by omega)
            rw [up1_n (by omega), up1_n (by omega)] at h1
            exact h1
          · rw [up1_n hpar, up1_n hpa, up1_n hip]
            by_cases hia : i = a
            · subst hia
              exact absurd rfl hpar
            · rw [up1_n hia]
              have h1 := C2 i h0 hi hia
              rw [up1_n hpa, up1_n hia] at h1
              exact h1
      · rw [aup_row]
        intro i h0 hi hpar hp0
        have hpp : M 4 q (((a - 1) / 2 - 1) / 2) ≤ M 4 q ((a - 1) / 2) := by
          have h1 := C2 ((a - 1) / 2) hp0 hp2 (by omega)
          rw [up1_n (by omega), up1_n (by omega)] at h1
          exact h1
        rw [up1_n (by omega), up1_n (by omega), up1_n (by omega)]
        by_cases hia : i = a
        · subst hia
          rw [up1_s]
          exact hpp
        · rw [up1_n hia]
          have h1 := C2 i h0 hi hia
          rw [hpar, up1_n (by omega), up1_n hia] at h1
          omega
      · intro M' h1 h2
        refine hQ M' h1 (fun k i s h => ?_)
        rw [h2 k i s (fun z => h ⟨z.1, z.2.1, by omega⟩)]
        exact aup_n (fun z => h ⟨z.1, z.2.1, by omega⟩)
/-- push: the key comes in -/
theorem S_push {d q : Nat} {key : Int} {F : List Int} {M : AMem} {Q : AMem → Prop} (hq : q < 7) (hk : kOK key) (hF : QIs M q F) (hl : F.length < 512)
    (h : ∀ M', QIs M' q (key :: F) → (∀ k i s, ¬ (k = 0 ∧ i = q ∧ s = 1) → ¬ (k = 4 ∧ i = q ∧ s ≤ F.length) → M' k i s = M k i s) → Q M') : CallV d m_Q_push [vR 0 q, vI key] M Q := by
  obtain ⟨h1, h2, h3, h4, h5⟩ := hF
  refine T_Q_push_0 (ok0 hq) ⟨fun c => ?_, fun c => ⟨fun c2 => ?_, fun c2 => ?_⟩⟩
  · rw [h1, w_n (by omega)] at c
    omega
  · rw [h1]
    have hu : ∀ i, i < F.length → up1 (M 4 q) F.length key i = M 4 q i := fun i hi => up1_n (by omega)
    have hr : (aup M 0 q 1 ((F.length : Int) + 1)) 4 q = M 4 q := funext fun s => aup_n (by omega)
    refine push_loop (G := key :: F) hq hk (by simp only [List.length_cons]; omega) (fun x hx => by
        rcases List.mem_cons.mp hx with rfl | hx
        · exact hk
        · exact h5 x hx) F.length _ (by rw [aup_s]; simp only [List.length_cons]; omega) (by simp) ?_ ?_ ?_ ?_
    · intro x
      rw [hr, List.length_cons, cnt, cnt_congr hu, h3, up1_s, List.count_cons]
      simp only [beq_iff_eq]
    · rw [hr]
      intro i h0 hi hia
      simp only [List.length_cons] at hi
      rw [hu i (by omega), hu _ (by omega)]
      exact h4 i h0 (by omega)
    · intro i h0 hi hpar
      simp only [List.length_cons] at hi
      omega
    · intro M' g1 g2
      refine ⟨rfl, h M' g1 (fun k i s a b => ?_)⟩
      rw [g2 k i s b]
      exact aup_n a
  · rw [h1, w_n (by omega)] at c2
    omega
