/-- offerOfRow -/
theorem S_offerRow {d w j p s : Nat} {fl : Int} {R : Nat → List Int} {F : List Int} {M : AMem} {Q : AMem → Prop} (hw : w < 7) (hs : M 2 w 3 = (s : Int)) (hs2 : s < 64) (hf : M 2 w 4 = fl) (hfl : fl = 0 ∨ fl = 1) (hR : RW M w R) (hj : j < 6) (hp : p < 9) (hF : QIs M w F) (hFl : F.length < 512)
    (h1 : memS s j = true → p < (R j).length → ∀ M', QIs M' w (mkey fl R ((rk fl j * 8 + p) * 8) :: F) → QF w M M' → Q M') (h0 : ¬ (memS s j = true ∧ p < (R j).length) → Q M) : CallV (d + 1) m_W_offerOfRow [vR 2 w, vI (j : Int), vI (p : Int)] M Q := by
  have g0 := (hR.ok hj).1
  have ej : wI (j : Int) = j := w_n (by omega)
  have ep : wI (p : Int) = p := w_n (by omega)
  refine T_W_offerOfRow_0 (ok2 hw) ?_
  rw [hs, ej, ep, Int.toNat_natCast]
  clear ej ep
  refine ⟨fun c => absurd c (by omega), fun _ => ⟨fun c => absurd c (by omega), fun _ => ?_⟩⟩
  refine S_isMember hs2 hj (fun hm => ⟨fun c => absurd c (by decide), fun _ => ⟨⟨by omega, by omega⟩, ?_⟩⟩) (fun hm => ⟨fun _ => ⟨rfl, h0 (fun z => hm z.1)⟩, fun c => absurd (by decide) c⟩)
  rw [(hR j hj).1, w_n (show (R j).length < 2147483648 by omega)]
  refine ⟨fun c => ⟨⟨by omega, by omega⟩, ?_⟩, fun c => ⟨rfl, h0 (fun z => by omega)⟩⟩
  have hpl : p < (R j).length := by omega
  refine S_numberAt (by omega) (hR j hj) (by omega) (S_rankOf hw hf hfl hj (S_keyOf ?_))
  have hr := rk_lt (fl := fl) hj
  have eI : tI ((rk fl j * 8 + p) * 8) = rk fl j := by unfold tI; omega
  have eJ : tJ ((rk fl j * 8 + p) * 8) = p := by unfold tJ; omega
  have ek : nAt (R j) (p : Int) * 1024 + ((((rk fl j : Nat) : Int) * 8 + (p : Int)) * 8) = mkey fl R ((rk fl j * 8 + p) * 8) := by
    unfold mkey
    rw [eI, eJ, rk_rk hj]
    omega
  rw [ek]
  have hk : kOK (mkey fl R ((rk fl j * 8 + p) * 8)) := by
    rw [← ek, nAt_in hpl]
    have := (hR.ok hj).at hpl
    unfold kOK
    omega
  exact S_push hw hk hF hFl (fun M' q1 q2 => ⟨rfl, h1 hm hpl M' q1 (fun k i s a b => q2 k i s (fun z => a ⟨z.1, z.2.1⟩) (fun z => b ⟨z.1, z.2.1⟩))⟩)
def pcond (s : Int) (n b : Nat) : Bool := decide (tgb n ≤ b) && (memS s b && decide (n * pb b ≤ 100000))
def pks (s : Int) (n b : Nat) : List Nat := ((List.range b).filter (pcond s n)).map (fun b => n * pb b)
theorem pks_6 (s : Int) (n : Nat) : pks s n 6 = pkids s n := rfl
theorem pks_s (s : Int) (n b : Nat) : pks s n (b + 1) = pks s n b ++ (if pcond s n b = true then [n * pb b] else []) := by
  unfold pks
  rw [List.range_succ, List.filter_append, List.map_append]
  congr 1
  by_cases h : pcond s n b = true
  · rw [if_pos h, List.filter_cons, if_pos h]
    rfl
  · rw [if_neg h, List.filter_cons, if_neg h]
    rfl
theorem pks_g (s : Int) (n : Nat) : pks s n (tgb n) = [] := by
  unfold pks
  have : (List.range (tgb n)).filter (pcond s n) = [] := by
    rw [List.filter_eq_nil_iff]
    intro a ha
    have ha := List.mem_range.mp ha
    unfold pcond
    rw [decide_eq_false (by omega)]
    simp
  rw [this]
  rfl
theorem pks_len (s : Int) (n b : Nat) : (pks s n b).length ≤ b := by
  unfold pks
  rw [List.length_map]
  have := List.length_filter_le (pcond s n) (List.range b)
  rw [List.length_range] at this
  exact this
/-- offerProducts -/
theorem S_offerProducts {d w n s : Nat} {F : List Int} {M : AMem} {Q : AMem → Prop} (hw : w < 7) (hs : M 2 w 3 = (s : Int)) (hs2 : s < 64) (hn : n ≤ 100000) (hF : QIs M w F) (hFl : F.length < 506)
    (h : ∀ M', QIs M' w ((pkids s n).map pkey ++ F) → QF w M M' → Q M') : CallV (d + 1) m_W_offerProducts [vR 2 w, vI (n : Int), vI (tgb n : Int)] M Q := by
  refine T_W_offerProducts_0 (ok2 hw) ?_
  have ht := tgb_lt n
  have loop : ∀ (f b : Nat) (M1 : AMem), b + f = 6 → tgb n ≤ b → QIs M1 w ((pks s n b).map pkey ++ F) → QF w M M1 →
      RunQ (d + 1) m_W_offerProducts 6 [some (vR 2 w), some (vI (n : Int)), some (vI (tgb n : Int)), some (vI (b : Int))] [] M1 (fun v M1 => v = none ∧ Q M1) := by
    intro f
    induction f with
    | zero =>
      intro b M1 hb hg hI hQF
      have : b = 6 := by omega
      subst this
      exact T_W_offerProducts_6 (ok2 hw) ⟨fun _ => ⟨rfl, h M1 hI hQF⟩, fun c => absurd (by decide) c⟩
    | succ f ih =>
      intro b M1 hb hg hI hQF
      have hb6 : b < 6 := by omega
      have eb : wI (b : Int) = b := w_n (by omega)
      have hp := pb_le b
      have hle : n * pb b ≤ 100000 * 13 := Nat.mul_le_mul hn hp
      have enb : wI ((n : Int) * (bas b)) = ((n * pb b : Nat) : Int) := by
        rw [pb_bas, ← Int.natCast_mul]
        exact w_n (by omega)
      have e1 : (b : Int) + 1 = ((b + 1 : Nat) : Int) := rfl
      have hpl := pks_len s n b
      refine T_W_offerProducts_6 (ok2 hw) ?_
      rw [hQF.wl, hs, eb, Int.toNat_natCast, enb]
      clear eb
      refine ⟨fun c => absurd c (by omega), fun _ => ?_⟩
      have skip : ¬ pcond s n b = true → RunQ (d + 1) m_W_offerProducts 6 [some (vR 2 w), some (vI (n : Int)), some (vI (tgb n : Int)), some (vI ((b : Int) + 1))] [] M1 (fun v M1 => v = none ∧ Q M1) := by
        intro hc
        refine ih (b + 1) M1 (by omega) (by omega) ?_ hQF
        rw [pks_s, if_neg hc, List.append_nil]
        exact hI
      refine S_isMember hs2 hb6 (fun hm => ⟨fun c => absurd c (by decide), fun _ => ⟨⟨by omega, by omega⟩, fun c => skip ?_, fun c => ⟨⟨by omega, by omega⟩, ?_⟩⟩⟩) (fun hm => ⟨fun _ => skip ?_, fun c => absurd (by decide) c⟩)
      · unfold pcond
        rw [decide_eq_false (show ¬ n * pb b ≤ 100000 by omega)]
        simp
      · refine S_keyOf ?_
        have hc : pcond s n b = true := by
          unfold pcond
          rw [decide_eq_true hg, hm, decide_eq_true (show n * pb b ≤ 100000 by omega)]
          rfl
        have ek : (n : Int) * (bas b) * 1024 + (b : Int) = pkey (n * pb b) := by
          unfold pkey
          rw [tgb_mul hb6 hg, pb_bas, ← Int.natCast_mul]
        rw [ek]
        have hk : kOK (pkey (n * pb b)) := by
          rw [← ek, pb_bas, ← Int.natCast_mul]
          unfold kOK
          omega
        refine S_push hw hk hI (by rw [List.length_append, List.length_map]; omega) (fun M2 q1 q2 => ?_)
        refine ih (b + 1) M2 (by omega) (by omega) ?_ (hQF.tr (fun k i s a b => q2 k i s (fun z => a ⟨z.1, z.2.1⟩) (fun z => b ⟨z.1, z.2.1⟩)))
        rw [pks_s, if_pos hc, List.map_append]
        refine q1.perm ?_
        rw [List.append_assoc]
        exact (List.perm_middle (l₁ := List.map pkey (pks s n b)) (a := pkey (n * pb b)) (l₂ := F)).symm
      · unfold pcond
        simp [hm]
  rw [w_n (show tgb n < 2147483648 by omega), if_neg (by omega)]
  refine loop (6 - tgb n) (tgb n) M (by omega) (Nat.le_refl _) ?_ QF.rf
  rw [pks_g]
  exact hF
