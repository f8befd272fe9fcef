/-! THE LAW -/
theorem other_ok {w t : Nat} (hw5 : w < 5) (ht : t < 30) : ∃ v : Nat, v < 5 ∧ w ≠ v ∧ Int.tmod (wI (((w : Int) + 1) + (Int.tmod (wI (Int.tdiv (t : Int) (5))) (4)))) (5) = (v : Int) := by
  rw [td_pos _ (by omega), wI_eq (z := (t : Int) / 5) (by omega) (by omega), tm_pos (x := (t : Int) / 5) 4 (by omega), wI_eq (z := (w : Int) + 1 + (t : Int) / 5 % 4) (by omega) (by omega), tm_pos (x := (w : Int) + 1 + (t : Int) / 5 % 4) 5 (by omega)]
  exact ⟨((w : Int) + 1 + (t : Int) / 5 % 4).toNat % 5, by omega, by omega, by omega⟩
theorem law_131 {d : Nat} {Q : Option AV → AMem → Prop} (h : ∀ M' H', HIs M' H' → Q (some (vI 1)) M') :
    ∀ (f t : Nat) (M : AMem) (H : HS) (u3 u4 u5 : Option AV), t + f = 30 → HIs M H → RunQ (d + 42) m_L_law 131 [some (vR 9 0), some (vR 3 0), some (vI (t : Int)), u3, u4, u5] [] M Q := by
  intro f
  induction f with
  | zero =>
    intro t M H u3 u4 u5 hf hH
    refine T_L_law_131 ?_
    rw [w_n (show t < 2147483648 by omega)]
    exact ⟨fun _ => S_isSound (d := d + 21) hH fun M' h' => ⟨Or.inr rfl, h _ _ h'⟩, fun z => by omega⟩
  | succ f ih =>
    intro t M H u3 u4 u5 hf hH
    refine T_L_law_131 ?_
    rw [w_n (show t < 2147483648 by omega)]
    refine ⟨fun z => by omega, fun _ => ?_⟩
    refine S_roll (d := d + 40) hH (by omega) fun z1 => S_below (n := 5) (by omega) (by omega) fun a ha => ?_
    refine S_roll (d := d + 40) hH (by omega) fun z2 => S_below (n := 13) (by omega) (by omega) fun b hb => ?_
    refine S_roll (d := d + 40) hH (by omega) fun z3 => S_roll (d := d + 40) hH (by omega) fun z4 => ?_
    refine S_act (d := d + 11) ha hb hH fun M1 H1 h1 => ?_
    refine S_roll (d := d + 40) h1 (by omega) fun z5 => S_below (n := 5) (by omega) (by omega) fun w hw5 => ?_
    refine S_isSound (d := d + 21) h1 fun M2 h2 => ⟨fun z => absurd z (by decide), fun _ => ?_⟩
    refine S_roll (d := d + 40) h2 (by omega) fun z6 => S_roll (d := d + 40) h2 (by omega) fun z7 => ?_
    refine S_isCourse (d := d + 1) hw5 h2 fun M3 h3 => ⟨fun _ => ?_, fun z => absurd (by decide : ¬ wI 1 = 0) z⟩
    obtain ⟨v, hv5, hwv, ev⟩ := other_ok hw5 (show t < 30 by omega)
    rw [ev]
    have go : ∀ (M : AMem) (H : HS) (u3 u4 u5 : Option AV), HIs M H → RunQ (d + 42) m_L_law 131 [some (vR 9 0), some (vR 3 0), some (vI (((t : Nat) : Int) + 1)), u3, u4, u5] [] M Q := fun M H u3 u4 u5 hH => ih (t + 1) M H u3 u4 u5 (by omega) hH
    have cnt : ∀ (M : AMem) (H : HS) (u3 u4 u5 : Option AV), HIs M H → CallI (d + 41) m_L_roll [vR 9 0, vI (((7 * (t : Int)) + 41) + 5)] M (fun y30 M29 => CallI (d + 41) m_L_roll [vR 9 0, vI (((7 * (t : Int)) + 41) + 6)] M29 (fun y32 M31 => CallI (d + 41) m_L_roll [vR 9 0, vI (((7 * (t : Int)) + 41) + 3)] M31 (fun y34 M33 => CallI (d + 41) m_L_isCounted [vR 3 0, vI (w : Int), vI y30, vI y32, vI y34] M33 (fun y36 M35 => ((¬ wI y36 = 0) → RunQ (d + 42) m_L_law 131 [some (vR 9 0), some (vR 3 0), some (vI (((t : Nat) : Int) + 1)), u3, u4, u5] [] M35 Q) ∧ (¬ (¬ wI y36 = 0) → Q (some (vI 0)) M35))))) := by
      intro M H u3 u4 u5 hH
      refine S_roll (d := d + 40) hH (by omega) fun x1 => S_roll (d := d + 40) hH (by omega) fun x2 => S_roll (d := d + 40) hH (by omega) fun x3 => ?_
      exact S_isCounted (d := d + 1) hw5 hH fun M' H' h' => ⟨fun _ => go _ _ _ _ _ h', fun z => absurd (by decide : ¬ wI 1 = 0) z⟩
    have mrg : ∀ (M : AMem) (H : HS) (u3 u4 u5 : Option AV), HIs M H → CallI (d + 41) m_L_roll [vR 9 0, vI (((7 * (t : Int)) + 41) + 5)] M (fun y38 M37 => CallI (d + 41) m_L_below [vI y38, vI 63] M37 (fun y40 M39 => CallI (d + 41) m_L_roll [vR 9 0, vI (((7 * (t : Int)) + 41) + 6)] M39 (fun y42 M41 => CallI (d + 41) m_L_below [vI y42, vI 2] M41 (fun y44 M43 => ((¬ wI y44 = 1) → CallI (d + 41) m_L_roll [vR 9 0, vI (((7 * (t : Int)) + 41) + 3)] M43 (fun y46 M45 => CallI (d + 41) m_L_below [vI y46, vI 6] M45 (fun y48 M47 => CallI (d + 41) m_L_isMerged [vR 3 0, vI (w : Int), vI (v : Int), vI (1 + y40), vI 0, vI y48] M47 (fun y50 M49 => ((¬ wI y50 = 0) → ((¬ wI (Int.tmod (t : Int) (10)) = 2) → RunQ (d + 42) m_L_law 131 [some (vR 9 0), some (vR 3 0), some (vI (((t : Nat) : Int) + 1)), u3, u4, u5] [] M49 Q) ∧ (¬ (¬ wI (Int.tmod (t : Int) (10)) = 2) → CallI (d + 41) m_L_roll [vR 9 0, vI (((7 * (t : Int)) + 41) + 5)] M49 (fun y52 M51 => CallI (d + 41) m_L_roll [vR 9 0, vI (((7 * (t : Int)) + 41) + 6)] M51 (fun y54 M53 => CallI (d + 41) m_L_roll [vR 9 0, vI (((7 * (t : Int)) + 41) + 3)] M53 (fun y56 M55 => CallI (d + 41) m_L_isCounted [vR 3 0, vI (w : Int), vI y52, vI y54, vI y56] M55 (fun y58 M57 => ((¬ wI y58 = 0) → RunQ (d + 42) m_L_law 131 [some (vR 9 0), some (vR 3 0), some (vI (((t : Nat) : Int) + 1)), u3, u4, u5] [] M57 Q) ∧ (¬ (¬ wI y58 = 0) → Q (some (vI 0)) M57))))))) ∧ (¬ (¬ wI y50 = 0) → Q (some (vI 0)) M49))))) ∧ (¬ (¬ wI y44 = 1) → CallI (d + 41) m_L_roll [vR 9 0, vI (((7 * (t : Int)) + 41) + 3)] M43 (fun y46 M45 => CallI (d + 41) m_L_below [vI y46, vI 6] M45 (fun y48 M47 => CallI (d + 41) m_L_isMerged [vR 3 0, vI (w : Int), vI (v : Int), vI (1 + y40), vI 1, vI y48] M47 (fun y50 M49 => ((¬ wI y50 = 0) → ((¬ wI (Int.tmod (t : Int) (10)) = 2) → RunQ (d + 42) m_L_law 131 [some (vR 9 0), some (vR 3 0), some (vI (((t : Nat) : Int) + 1)), u3, u4, u5] [] M49 Q) ∧ (¬ (¬ wI (Int.tmod (t : Int) (10)) = 2) → CallI (d + 41) m_L_roll [vR 9 0, vI (((7 * (t : Int)) + 41) + 5)] M49 (fun y52 M51 => CallI (d + 41) m_L_roll [vR 9 0, vI (((7 * (t : Int)) + 41) + 6)] M51 (fun y54 M53 => CallI (d + 41) m_L_roll [vR 9 0, vI (((7 * (t : Int)) + 41) + 3)] M53 (fun y56 M55 => CallI (d + 41) m_L_isCounted [vR 3 0, vI (w : Int), vI y52, vI y54, vI y56] M55 (fun y58 M57 => ((¬ wI y58 = 0) → RunQ (d + 42) m_L_law 131 [some (vR 9 0), some (vR 3 0), some (vI (((t : Nat) : Int) + 1)), u3, u4, u5] [] M57 Q) ∧ (¬ (¬ wI y58 = 0) → Q (some (vI 0)) M57))))))) ∧ (¬ (¬ wI y50 = 0) → Q (some (vI 0)) M49))))))))) := by
      intro M H u3 u4 u5 hH
      refine S_roll (d := d + 40) hH (by omega) fun x1 => S_below (n := 63) (by omega) (by omega) fun s hs => S_roll (d := d + 40) hH (by omega) fun x2 => S_below (n := 2) (by omega) (by omega) fun g hg => ⟨fun _ => ?_, fun _ => ?_⟩
      · refine S_roll (d := d + 40) hH (by omega) fun x3 => S_below (n := 6) (by omega) (by omega) fun r hr => ?_
        rw [show (1 : Int) + (s : Int) = ((1 + s : Nat) : Int) from by omega]
        exact S_isMerged (d := d + 1) hw5 hv5 hwv hr (by omega) (Or.inl rfl) hH fun M' H' h' => ⟨fun _ => ⟨fun _ => go _ _ _ _ _ h', fun _ => cnt _ _ _ _ _ h'⟩, fun z => absurd (by decide : ¬ wI 1 = 0) z⟩
      · refine S_roll (d := d + 40) hH (by omega) fun x3 => S_below (n := 6) (by omega) (by omega) fun r hr => ?_
        rw [show (1 : Int) + (s : Int) = ((1 + s : Nat) : Int) from by omega]
        exact S_isMerged (d := d + 1) hw5 hv5 hwv hr (by omega) (Or.inr rfl) hH fun M' H' h' => ⟨fun _ => ⟨fun _ => go _ _ _ _ _ h', fun _ => cnt _ _ _ _ _ h'⟩, fun z => absurd (by decide : ¬ wI 1 = 0) z⟩
    refine ⟨fun _ => ⟨fun _ => ⟨fun _ => go _ _ _ _ _ h3, fun _ => cnt _ _ _ _ _ h3⟩, fun _ => mrg _ _ _ _ _ h3⟩, fun _ => ?_⟩
    refine S_roll (d := d + 40) h3 (by omega) fun x1 => S_below (n := 9) (by omega) (by omega) fun m hm => ?_
    rw [show (1 : Int) + (m : Int) = ((1 + m : Nat) : Int) from by omega]
    refine S_isGoing (d := d + 1) hw5 hv5 hwv (by omega) h3 fun M4 H4 h4 => ⟨fun _ => ?_, fun z => absurd (by decide : ¬ wI 1 = 0) z⟩
    exact ⟨fun _ => ⟨fun _ => go _ _ _ _ _ h4, fun _ => cnt _ _ _ _ _ h4⟩, fun _ => mrg _ _ _ _ _ h4⟩
theorem law_84 {d : Nat} {Q : Option AV → AMem → Prop} (h : ∀ M' H', HIs M' H' → Q (some (vI 1)) M') :
    ∀ (f w : Nat) (M : AMem) (H : HS), w + f = 5 → HIs M H → RunQ (d + 42) m_L_law 84 [some (vR 9 0), some (vR 3 0), some (vI (w : Int)), none, none, none] [] M Q := by
  intro f
  induction f with
  | zero =>
    intro w M H hf hH
    refine T_L_law_84 ?_
    rw [w_n (show w < 2147483648 by omega)]
    exact ⟨fun _ => law_131 h 30 0 M H _ _ _ rfl hH, fun z => by omega⟩
  | succ f ih =>
    intro w M H hf hH
    refine T_L_law_84 ?_
    rw [w_n (show w < 2147483648 by omega)]
    refine ⟨fun z => by omega, fun _ => ?_⟩
    refine S_roll (d := d + 40) hH (by omega) fun z1 => S_below (n := 6) (by omega) (by omega) fun a ha => ?_
    refine S_roll (d := d + 40) hH (by omega) fun z2 => S_roll (d := d + 40) hH (by omega) fun z3 => ?_
    exact S_lbegin (d := d + 21) (by omega) ha hH fun M' H' h' => ih (w + 1) M' H' (by omega) h'
theorem law_10 {d : Nat} {Q : Option AV → AMem → Prop} (h : ∀ M' H', HIs M' H' → Q (some (vI 1)) M') :
    ∀ (f r : Nat) (M : AMem) (H : HS), r + f = 6 → HIs M H → RunQ (d + 42) m_L_law 10 [some (vR 9 0), some (vR 3 0), some (vI (r : Int)), none, none, none] [] M Q := by
  intro f
  induction f with
  | zero =>
    intro r M H hf hH
    refine T_L_law_10 ?_
    rw [w_n (show r < 2147483648 by omega)]
    exact ⟨fun _ => law_84 h 5 0 M H rfl hH, fun z => by omega⟩
  | succ f ih =>
    intro r M H hf hH
    refine T_L_law_10 ?_
    rw [w_n (show r < 2147483648 by omega)]
    refine ⟨fun z => by omega, fun _ => ?_⟩
    refine S_roll (d := d + 40) hH (by omega) fun z1 => S_below (n := 7) (by omega) (by omega) fun a ha => ⟨fun _ => ih (r + 1) M H (by omega) hH, fun _ => ?_⟩
    refine S_roll (d := d + 40) hH (by omega) fun z2 => S_below (n := 100) (by omega) (by omega) fun b hb => ?_
    refine S_roll (d := d + 40) hH (by omega) fun z3 => S_below (n := 40) (by omega) (by omega) fun c hc => ?_
    refine S_roll (d := d + 40) hH (by omega) fun z4 => S_below (n := 8) (by omega) (by omega) fun e he => ?_
    rw [show (1 : Int) + (e : Int) = ((1 + e : Nat) : Int) from by omega]
    exact S_hfill (d := d + 31) (by omega) (by omega) (by omega) (by omega) hH fun _ M' H' h' => ih (r + 1) M' H' (by omega) h'
theorem law_7 {d : Nat} {M : AMem} {H : HS} {Q : Option AV → AMem → Prop} (hH : HIs M H) (h : ∀ M' H', HIs M' H' → Q (some (vI 1)) M') : RunQ (d + 42) m_L_law 7 [some (vR 9 0), none, none, none, none, none] [vR 3 0] M Q :=
  T_L_law_7 (law_10 h 6 0 M H rfl hH)
