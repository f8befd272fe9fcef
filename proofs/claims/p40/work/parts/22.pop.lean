set_option maxHeartbeats 4000000 in
theorem sink_loop {d q : Nat} {key : Int} {G : List Int} {Q : Option AV → AMem → Prop} (hq : q < 7) (hk : kOK key) (hN : G.length ≤ 512) (hG : ∀ x ∈ G, kOK x) :
    ∀ (f a : Nat) (M : AMem), G.length - a ≤ f → M 0 q 1 = G.length → (a < G.length ∨ (G.length = 0 ∧ a = 0)) → (∀ x, cnt (up1 (M 4 q) a key) G.length x = G.count x) →
      (∀ i, 0 < i → i < G.length → ¬ (i - 1) / 2 = a → up1 (M 4 q) a key ((i - 1) / 2) ≤ up1 (M 4 q) a key i) →
      (∀ i, 0 < i → i < G.length → (i - 1) / 2 = a → 0 < a → up1 (M 4 q) a key ((a - 1) / 2) ≤ up1 (M 4 q) a key i) →
      (∀ M', QIs M' q G → (∀ k i s, ¬ (k = 4 ∧ i = q ∧ (s < G.length ∨ s = 0)) → M' k i s = M k i s) → Q none M') →
      RunQ d m_Q_sink 4 [some (vR 0 q), some (vI key), some (vI (a : Int)), some (vI ((2 * a + 1 : Nat) : Int))] [] M Q := by
  intro f
  induction f with
  | zero =>
    intro a M hf hsz ha C1 C2 C3 hQ
    have hz : G.length = 0 ∧ a = 0 := by omega
    have hG0 : G = [] := List.eq_nil_of_length_eq_zero hz.1
    subst hG0
    obtain ⟨-, rfl⟩ := hz
    refine T_Q_sink_4 (ok0 hq) ⟨fun c => ⟨by decide, ?_⟩, fun c => ?_⟩
    · refine hQ _ ⟨by rw [aup_n (by omega)]; exact hsz, hN, fun x => rfl, fun i h0 hi => by simp at hi, hG⟩ (fun k i s h => aup_n (fun z => h ⟨z.1, z.2.1, Or.inr z.2.2⟩))
    · exact absurd (show wI (M 0 q 1) ≤ wI ((2 * 0 + 1 : Nat) : Int) by rw [hsz]; decide) c
  | succ f ih =>
    intro a M hf hsz ha C1 C2 C3 hQ
    have ea : wI (a : Int) = a := w_n (by omega)
    have ec : wI ((2 * a + 1 : Nat) : Int) = ((2 * a + 1 : Nat) : Int) := w_n (by omega)
    have en : wI (M 0 q 1) = (G.length : Int) := by rw [hsz]; exact w_n (by omega)
    have ba : 0 ≤ wI (a : Int) ∧ wI (a : Int) < (512 : Nat) := by rw [ea]; constructor <;> omega
    have hv : ∀ i, i < G.length → i ≠ a → kOK (M 4 q i) := by
      intro i hi hia
      have h1 : 0 < cnt (up1 (M 4 q) a key) G.length (M 4 q i) := cnt_pos.mpr ⟨i, hi, up1_n hia⟩
      rw [C1] at h1
      exact hG _ (List.count_pos_iff.mp h1)
    have fin : (∀ i, 0 < i → i < G.length → (i - 1) / 2 = a → key ≤ M 4 q i) → Q none (aup M 4 q (wI (a : Int)).toNat key) := by
      intro hc
      rw [ea, Int.toNat_natCast]
      refine hQ _ ⟨by rw [aup_n (by omega)]; exact hsz, hN, ?_, ?_, hG⟩ (fun k i s h => aup_n (fun z => h ⟨z.1, z.2.1, by omega⟩))
      · intro x
        rw [aup_row]
        exact C1 x
      · rw [aup_row]
        intro i h0 hi
        by_cases hpa : (i - 1) / 2 = a
        · rw [hpa, up1_s, up1_n (by omega)]
          exact hc i h0 hi hpa
        · exact C2 i h0 hi hpa
    have go : ∀ m : Nat, (m - 1) / 2 = a → 0 < m → m < G.length → (∀ i, 0 < i → i < G.length → (i - 1) / 2 = a → M 4 q m ≤ M 4 q i) → M 4 q m ≤ key →
        RunQ d m_Q_sink 4 [some (vR 0 q), some (vI key), some (vI (m : Int)), some (vI ((2 * m + 1 : Nat) : Int))] [] (aup M 4 q a (M 4 q m)) Q := by
      intro m hma hm0 hm hmin hmk
      have hne : m ≠ a := by omega
      have hpa0 : ∀ x, 0 < x → (x - 1) / 2 ≠ x := fun x hx => by omega
      refine ih m _ (by omega) (by rw [aup_n (by omega)]; exact hsz) (Or.inl hm) ?_ ?_ ?_ ?_
      · intro x
        rw [aup_row]
        have h1 := cnt_up (A := up1 (M 4 q) a (M 4 q m)) (i := m) (n := G.length) (v := key) hm x
        have h2 := cnt_up (A := M 4 q) (i := a) (n := G.length) (v := M 4 q m) (by omega) x
        have h3 := cnt_up (A := M 4 q) (i := a) (n := G.length) (v := key) (by omega) x
        rw [up1_n (by omega)] at h1
        rw [← C1 x]
        omega
      · rw [aup_row]
        intro i h0 hi hpm
        by_cases hpa : (i - 1) / 2 = a
        · rw [hpa, up1_n (by omega), up1_s]
          by_cases him : i = m
          · subst him
            rw [up1_s]
            exact hmk
          · rw [up1_n him, up1_n (by omega)]
            exact hmin i h0 hi hpa
        · rw [up1_n hpm, up1_n hpa]
          have him : i ≠ m := by intro z; subst z; exact hpa hma
          rw [up1_n him]
          by_cases hia : i = a
          · rw [hia, up1_s]
            have h1 := C3 m hm0 hm hma (hia ▸ h0)
            rw [up1_n (hpa0 a (hia ▸ h0)), up1_n hne] at h1
            exact h1
          · rw [up1_n hia]
            have h1 := C2 i h0 hi hpa
            rw [up1_n hpa, up1_n hia] at h1
            exact h1
      · rw [aup_row]
        intro i h0 hi hpm _
        rw [hma, up1_n (by omega), up1_s, up1_n (by omega), up1_n (by omega)]
        have h1 := C2 i h0 hi (by omega)
        rw [hpm, up1_n (by omega), up1_n (by omega)] at h1
        exact h1
      · intro M' h1 h2
        refine hQ M' h1 (fun k i s h => ?_)
        rw [h2 k i s h]
        exact aup_n (fun z => h ⟨z.1, z.2.1, by omega⟩)
    refine T_Q_sink_4 (ok0 hq) ⟨fun c => ⟨ba, ?_⟩, fun c => ⟨fun c2 => ?_, fun c2 => ?_⟩⟩
    · rw [en, ec] at c
      exact fin (fun i h0 hi hpa => by omega)
    · rw [en, ec] at c
      rw [ec] at c2
      omega
    · rw [en, ec] at c
      have ec1 : wI (((2 * a + 1 : Nat) : Int) + 1) = ((2 * a + 2 : Nat) : Int) := by rw [wI_eq (by omega) (by omega)]; omega
      have bc : 0 ≤ wI ((2 * a + 1 : Nat) : Int) ∧ wI ((2 * a + 1 : Nat) : Int) < (512 : Nat) := by rw [ec]; constructor <;> omega
      have hkc := hv (2 * a + 1) (by omega) (by omega)
      have one : (∀ i, 0 < i → i < G.length → (i - 1) / 2 = a → M 4 q (2 * a + 1) ≤ M 4 q i) →
          ((wI (M 4 q ((wI ((2 * a + 1 : Nat) : Int)).toNat)) ≤ wI key) → (0 ≤ wI ((2 * a + 1 : Nat) : Int) ∧ wI ((2 * a + 1 : Nat) : Int) < (512 : Nat)) ∧ ((0 ≤ wI (a : Int) ∧ wI (a : Int) < (512 : Nat)) ∧ (RunQ d m_Q_sink 4 [some (vR 0 q), some (vI key), some (vI ((2 * a + 1 : Nat) : Int)), some (vI ((2 * ((2 * a + 1 : Nat) : Int)) + 1))] [] (aup M 4 q ((wI (a : Int)).toNat) (M 4 q ((wI ((2 * a + 1 : Nat) : Int)).toNat))) Q))) ∧
          (¬ (wI (M 4 q ((wI ((2 * a + 1 : Nat) : Int)).toNat)) ≤ wI key) → (0 ≤ wI (a : Int) ∧ wI (a : Int) < (512 : Nat)) ∧ (Q none (aup M 4 q ((wI (a : Int)).toNat) key))) := by
        intro hmin
        rw [ec, Int.toNat_natCast, w_k hkc, w_k hk]
        refine ⟨fun c3 => ⟨by rw [← ec]; exact bc, ba, ?_⟩, fun c3 => ⟨ba, fin (fun i h0 hi hpa => by have := hmin i h0 hi hpa; omega)⟩⟩
        have h9 := go (2 * a + 1) (by omega) (by omega) (by omega) hmin c3
        rw [ea, Int.toNat_natCast]
        rw [show (2 * ((2 * a + 1 : Nat) : Int)) + 1 = ((2 * (2 * a + 1) + 1 : Nat) : Int) by omega]
        exact h9
      refine ⟨fun c3 => ⟨bc, one (fun i h0 hi hpa => ?_)⟩, fun c3 => ⟨fun c4 => ?_, fun c4 => ?_⟩⟩
      · rw [en, ec1] at c3
        have : i = 2 * a + 1 := by omega
        subst this
        exact Int.le_refl _
      · rw [en, ec1] at c3
        rw [ec1] at c4
        omega
      · rw [en, ec1] at c3
        have hkc2 := hv (2 * a + 2) (by omega) (by omega)
        have bc1 : 0 ≤ wI (((2 * a + 1 : Nat) : Int) + 1) ∧ wI (((2 * a + 1 : Nat) : Int) + 1) < (512 : Nat) := by rw [ec1]; constructor <;> omega
        refine ⟨bc1, bc, fun c5 => ⟨bc, one (fun i h0 hi hpa => ?_)⟩, fun c5 => ⟨bc1, fun c6 => ⟨bc1, ba, ?_⟩, fun c6 => ⟨ba, fin (fun i h0 hi hpa => ?_)⟩⟩⟩
        · rw [ec, ec1, Int.toNat_natCast, Int.toNat_natCast, w_k hkc, w_k hkc2] at c5
          have : i = 2 * a + 1 ∨ i = 2 * a + 2 := by omega
          rcases this with rfl | rfl
          · exact Int.le_refl _
          · exact c5
        · rw [ec, ec1, Int.toNat_natCast, Int.toNat_natCast, w_k hkc, w_k hkc2] at c5
          rw [ec1, Int.toNat_natCast, w_k hkc2, w_k hk] at c6
          have h9 := go (2 * a + 2) (by omega) (by omega) (by omega) (fun i h0 hi hpa => by
            have : i = 2 * a + 1 ∨ i = 2 * a + 2 := by omega
            rcases this with rfl | rfl
            · omega
            · exact Int.le_refl _) c6
          rw [ea, ec1, Int.toNat_natCast, Int.toNat_natCast]
          rw [show ((2 * a + 1 : Nat) : Int) + 1 = ((2 * a + 2 : Nat) : Int) by omega, show (2 * ((2 * a + 2 : Nat) : Int)) + 1 = ((2 * (2 * a + 2) + 1 : Nat) : Int) by omega]
          exact h9
        · rw [ec, ec1, Int.toNat_natCast, Int.toNat_natCast, w_k hkc, w_k hkc2] at c5
          rw [ec1, Int.toNat_natCast, w_k hkc2, w_k hk] at c6
          have : i = 2 * a + 1 ∨ i = 2 * a + 2 := by omega
          rcases this with rfl | rfl
          · omega
          · omega
/-- pop: the least key goes -/
theorem S_pop {d q : Nat} {m : Int} {F : List Int} {M : AMem} {Q : Int → AMem → Prop} (hq : q < 7) (hF : QIs M q F) (hm : m ∈ F) (hmin : ∀ x ∈ F, m ≤ x)
    (h : ∀ M', QIs M' q (F.erase m) → (∀ k i s, ¬ (k = 0 ∧ i = q ∧ s = 1) → ¬ (k = 4 ∧ i = q ∧ s < F.length - 1) → ¬ (k = 4 ∧ i = q ∧ s = 0) → M' k i s = M k i s) → Q m M') : CallI (d + 1) m_Q_pop [vR 0 q] M Q := by
  have hF0 := hF
  obtain ⟨h1, h2, h3, h4, h5⟩ := hF
  have hl : 0 < F.length := List.length_pos_of_mem hm
  have hle : (F.erase m).length = F.length - 1 := List.length_erase_of_mem hm
  have h0 := hF0.min hm hmin
  have en : wI (M 0 q 1) = (F.length : Int) := by rw [h1]; exact w_n (by omega)
  have en1 : wI (M 0 q 1 - 1) = ((F.length - 1 : Nat) : Int) := by rw [h1, wI_eq (by omega) (by omega)]; omega
  refine T_Q_pop_0 (ok0 hq) ⟨fun c => ?_, fun c => ⟨fun c2 => ⟨by rw [en1]; constructor <;> omega, ?_⟩, fun c2 => ?_⟩⟩
  · rw [en] at c
    omega
  · have hr : (aup M 0 q 1 (M 0 q 1 - 1)) 4 q = M 4 q := funext fun s => aup_n (by omega)
    rw [en1, Int.toNat_natCast]
    have hkk := hF0.ok (i := F.length - 1) (by omega)
    refine T_Q_sink_0 (ok0 hq) ?_
    refine sink_loop (G := F.erase m) (a := 0) hq hkk.2 (by omega) (fun x hx => h5 x (List.mem_of_mem_erase hx)) (F.erase m).length _ (by omega) (by rw [aup_s, h1]; omega) (by omega) ?_ ?_ ?_ ?_
    · intro x
      rw [hr, hle, List.count_erase, ← h3 x]
      by_cases hF1 : F.length = 1
      · rw [hF1, cnt, cnt, cnt, h0]
        simp only [beq_iff_eq]
        omega
      · have g1 := cnt_up (A := M 4 q) (i := 0) (n := F.length - 1) (v := M 4 q (F.length - 1)) (by omega) x
        have g2 : cnt (M 4 q) F.length x = cnt (M 4 q) (F.length - 1) x + (if M 4 q (F.length - 1) = x then 1 else 0) := by
          have : F.length = (F.length - 1) + 1 := by omega
          rw [this, cnt]
          rfl
        rw [h0] at g1
        simp only [beq_iff_eq]
        omega
    · rw [hr, hle]
      intro i g0 gi gp
      rw [up1_n gp, up1_n (by omega)]
      exact h4 i g0 (by omega)
    · intro i g0 gi gp g1
      omega
    · intro M' g1 g2
      refine ⟨rfl, _, rfl, ?_⟩
      rw [h0]
      refine h M' g1 (fun k i s a b c => ?_)
      rw [g2 k i s (fun z => by rw [hle] at z; rcases z.2.2 with y | y; exact b ⟨z.1, z.2.1, y⟩; exact c ⟨z.1, z.2.1, y⟩)]
      exact aup_n a
  · rw [en] at c2
    omega
