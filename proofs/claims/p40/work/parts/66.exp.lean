/-! THE LAW: exponents -/
theorem shr_mem : ∀ k : Nat, k < 6 → ∀ s : Nat, s < 64 → (wI (Int.tmod (wI (opShr (s : Int) (k : Int))) 2) = 0 ↔ ¬ memS (s : Int) k = true) := by decide +kernel
theorem bas_pb : ∀ k : Nat, k < 6 → bas k = ((pb k : Nat) : Int) ∧ 2 ≤ pb k ∧ pb k ≤ 13 := by decide +kernel
theorem S_exp {s : Nat} (hs : s < 64) : ∀ (j k : Nat), k + j = 6 → ∀ (d B : Nat) (M : AMem) (Q : Int → AMem → Prop), 1 ≤ B → B ≤ 100000 → Q ((ckt (s : Int) k B : Nat) : Int) M → CallI (d + j + 1) m_L_exponents [vI (s : Int), vI (k : Int), vI (B : Int)] M Q := by
  intro j
  induction j with
  | zero =>
    intro k hk d B M Q h1 hB h
    refine T_L_exponents_0 ?_
    rw [w_n (show k < 2147483648 by omega)]
    refine ⟨fun z => absurd (by omega) z, fun _ => ⟨_, rfl, ?_⟩⟩
    obtain rfl : k = 6 := by omega
    rw [ckt_6 (by omega), if_pos h1] at h
    exact h
  | succ j ih =>
    intro k hk d B M Q h1 hB h
    refine T_L_exponents_0 ?_
    rw [w_n (show k < 2147483648 by omega)]
    refine ⟨fun _ => ?_, fun z => absurd (fun z2 => by omega) z⟩
    obtain ⟨b1, b2, b3⟩ := bas_pb k (by omega)
    have loop : ∀ (f rest : Nat) (m : Int), rest ≤ f → rest ≤ 100000 → m + (ckt (s : Int) k rest : Nat) = (ckt (s : Int) k B : Nat) → RunQ (d + j + 1 + 1) m_L_exponents 13 [some (vI (s : Int)), some (vI (k : Int)), some (vI (B : Int)), some (vI m), some (vI (rest : Int))] [] M (fun v M1 => ∃ x, v = some (vI x) ∧ Q x M1) := by
      intro f
      induction f with
      | zero =>
        intro rest m hf hr e
        refine T_L_exponents_13 ?_
        rw [w_n (show rest < 2147483648 by omega)]
        refine ⟨fun _ => ⟨_, rfl, ?_⟩, fun z => by omega⟩
        obtain rfl : rest = 0 := by omega
        rw [ckt_0] at e
        rw [show m = ((ckt (s : Int) k B : Nat) : Int) from by rw [← e]; exact (Int.add_zero m).symm]
        exact h
      | succ f ihf =>
        intro rest m hf hr e
        refine T_L_exponents_13 ?_
        rw [w_n (show rest < 2147483648 by omega), w_n (show k < 2147483648 by omega), Int.toNat_natCast, b1, w_n (show pb k < 2147483648 by omega)]
        by_cases h0 : rest = 0
        · refine ⟨fun _ => ⟨_, rfl, ?_⟩, fun z => by omega⟩
          rw [h0, ckt_0] at e
          rw [show m = ((ckt (s : Int) k B : Nat) : Int) from by rw [← e]; exact (Int.add_zero m).symm]
          exact h
        · refine ⟨fun z => by omega, fun _ => ?_⟩
          refine ih (k + 1) (by omega) d rest M _ (by omega) hr ?_
          have hm := shr_mem k (by omega) s hs
          rw [hm]
          refine ⟨fun z => ⟨by omega, by omega, ?_⟩, fun z => ?_⟩
          · have hmem : memS (s : Int) k = true := Decidable.of_not_not z
            have hc := ckt_in (s := (s : Int)) (k := k) (B := rest) (by omega) (by omega) hmem
            have hd : Int.tdiv (rest : Int) (pb k : Int) = ((rest / pb k : Nat) : Int) := by
              rw [td_pos _ (by omega)]
              exact (Int.natCast_ediv _ _).symm
            rw [hd]
            have hlt : rest / pb k < rest := Nat.div_lt_self (by omega) (by omega)
            refine ihf (rest / pb k) _ (by omega) (by omega) ?_
            rw [← e, hc]
            generalize ckt (s : Int) (k + 1) rest = a
            generalize ckt (s : Int) k (rest / pb k) = b
            omega
          · have hmem : ¬ memS (s : Int) k = true := fun z2 => z (fun z3 => z3 z2)
            have hc := ckt_out (s := (s : Int)) (k := k) (B := rest) (by omega) (by omega) hmem
            refine ihf 0 _ (Nat.zero_le _) (Nat.zero_le _) ?_
            rw [← e, hc, ckt_0]
            generalize ckt (s : Int) (k + 1) rest = a
            omega
    exact loop B B 0 (Nat.le_refl _) hB (Int.zero_add _)
