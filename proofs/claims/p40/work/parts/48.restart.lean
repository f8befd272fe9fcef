def mrts (s : Int) (fl : Int) (R : Nat → List Int) (n : Nat) : List Int := ((List.range n).filter (fun j => memS s j && decide (0 < (R j).length))).map (fun j => mkey fl R (rk fl j * 64))
theorem mrts_s (s fl : Int) (R : Nat → List Int) (n : Nat) : mrts s fl R (n + 1) = mrts s fl R n ++ (if memS s n = true ∧ 0 < (R n).length then [mkey fl R (rk fl n * 64)] else []) := by
  unfold mrts
  rw [List.range_succ, List.filter_append, List.map_append]
  congr 1
  by_cases h : memS s n = true ∧ 0 < (R n).length
  · rw [if_pos h, List.filter_cons, if_pos (by simp [h.1, h.2])]
    rfl
  · rw [if_neg h, List.filter_cons, if_neg (by simpa using h)]
    rfl
theorem mrts_len (s fl : Int) (R : Nat → List Int) (n : Nat) : (mrts s fl R n).length ≤ n := by
  unfold mrts
  rw [List.length_map]
  have := List.length_filter_le (fun j => memS s j && decide (0 < (R j).length)) (List.range n)
  rw [List.length_range] at this
  exact this
theorem mrts_perm {s fl : Int} {R : Nat → List Int} (h : ∀ j, j < 6 → rOK (R j)) : (mrts s fl R 6).Perm (fro (gpar (mkey fl R) tdec mpix) (gcrs 512 (mval s fl R) (mkey fl R)) 0) := by
  have hG := merged_GH (s := s) (fl := fl) h
  have hv : ∀ j, j < 6 → memS s j = true → 0 < (R j).length → (rk fl j * 64 < 512 ∧ mval s fl R (rk fl j * 64) = true ∧ mpix (rk fl j * 64) = none) := by
    intro j hj hm hl
    have hr := rk_lt (fl := fl) hj
    have e1 : tI (rk fl j * 64) = rk fl j := by unfold tI; omega
    have e2 : tJ (rk fl j * 64) = 0 := by unfold tJ; omega
    have e3 : tK (rk fl j * 64) = 0 := by unfold tK; omega
    refine ⟨by omega, mval_iff.mpr ⟨e3, by omega, by rw [e1, rk_rk hj]; exact hm, by rw [e1, e2, rk_rk hj]; exact hl⟩, ?_⟩
    unfold mpix
    rw [if_neg (by omega)]
  apply (List.perm_ext_iff_of_nodup _ (fro_nodup (gcrs_sorted hG))).mpr
  · intro x
    rw [fro_0, gcrs_roots hG]
    unfold mrts
    rw [List.mem_map]
    constructor
    · rintro ⟨j, hj, rfl⟩
      obtain ⟨h1, h2⟩ := List.mem_filter.mp hj
      simp only [Bool.and_eq_true, decide_eq_true_eq] at h2
      obtain ⟨a, b, c⟩ := hv j (List.mem_range.mp h1) h2.1 h2.2
      exact ⟨_, a, b, rfl, c⟩
    · rintro ⟨t, h1, h2, rfl, h3⟩
      obtain ⟨a, b, c, e⟩ := mval_iff.mp h2
      have hj0 : tJ t = 0 := by
        unfold mpix at h3
        split at h3
        · cases h3
        · omega
      refine ⟨rk fl (tI t), List.mem_filter.mpr ⟨List.mem_range.mpr (rk_lt b), ?_⟩, ?_⟩
      · simp only [Bool.and_eq_true, decide_eq_true_eq]
        exact ⟨c, by omega⟩
      · rw [rk_rk b]
        congr 1
        unfold tI tJ tK at *
        omega
  · unfold mrts
    refine map_nodup (List.nodup_range.filter _) (fun a ha b hb e => ?_)
    obtain ⟨a1, a2⟩ := List.mem_filter.mp ha
    obtain ⟨b1, b2⟩ := List.mem_filter.mp hb
    simp only [Bool.and_eq_true, decide_eq_true_eq] at a2 b2
    have ha6 := List.mem_range.mp a1
    have hb6 := List.mem_range.mp b1
    have va := hv a ha6 a2.1 a2.2
    have vb := hv b hb6 b2.1 b2.2
    have := gkey_inj hG va.1 va.2.1 vb.1 vb.2.1 e
    have e2 : rk fl a = rk fl b := by omega
    rw [← rk_rk (fl := fl) ha6, e2, rk_rk hb6]
/-- restart -/
theorem S_restart {d w : Nat} {c : CS} {M : AMem} {Q : AMem → Prop} (hw : w < 7) (hc : cOK c) (k2 : M 2 w 2 = cK c) (k3 : M 2 w 3 = cS c) (k4 : M 2 w 4 = cF c) (kR : RW M w (cR c))
    (h : ∀ M', WIs M' w c 0 0 (crs c) → TF w M M' → Q M') : CallV (d + 3) m_W_restart [vR 2 w] M Q := by
  have e2 : wI (cK c) = cK c := wI_eq (by have := hc.1; omega) (by have := hc.1; omega)
  have hwo := WOK.start hc
  refine T_W_restart_0 (ok2 hw) ?_
  rw [k2, e2]
  clear e2
  have t1 : TF w M (aup (aup (aup (aup M 0 w 1 0) 2 w 5 0) 2 w 6 0) 2 w 7 0) := fun k i s a b c => by rw [aup_n (fun z => a ⟨z.1, z.2.1⟩), aup_n (fun z => a ⟨z.1, z.2.1⟩), aup_n (fun z => a ⟨z.1, z.2.1⟩), aup_n (fun z => b ⟨z.1, z.2.1⟩)]
  have g : ∀ s, s < 5 → (aup (aup (aup (aup M 0 w 1 0) 2 w 5 0) 2 w 6 0) 2 w 7 0) 2 w s = M 2 w s := fun s hs => by rw [aup_n (by omega), aup_n (by omega), aup_n (by omega), aup_n (by omega)]
  have g5 : (aup (aup (aup (aup M 0 w 1 0) 2 w 5 0) 2 w 6 0) 2 w 7 0) 2 w 5 = 0 := by rw [aup_n (by omega), aup_n (by omega), aup_s]
  have g6 : (aup (aup (aup (aup M 0 w 1 0) 2 w 5 0) 2 w 6 0) 2 w 7 0) 2 w 6 = 0 := by rw [aup_n (by omega), aup_s]
  have g7 : (aup (aup (aup (aup M 0 w 1 0) 2 w 5 0) 2 w 6 0) 2 w 7 0) 2 w 7 = 0 := aup_s _ _ _ _ _
  have gQ : QIs (aup (aup (aup (aup M 0 w 1 0) 2 w 5 0) 2 w 6 0) 2 w 7 0) w [] := QIs.nil (by rw [aup_n (by omega), aup_n (by omega), aup_n (by omega), aup_s])
  have gR := t1.rows kR
  generalize (aup (aup (aup (aup M 0 w 1 0) 2 w 5 0) 2 w 6 0) 2 w 7 0) = M1 at t1 g g5 g6 g7 gQ gR ⊢
  have fin : ∀ (M2 : AMem) (F : List Int), QIs M2 w F → F.Perm (wq c 0 (crs c)) → QF w M1 M2 → Q M2 := by
    intro M2 F q1 q2 q3
    refine h M2 ⟨q3.wl.trans ((g 2 (by omega)).trans k2), q3.wl.trans ((g 3 (by omega)).trans k3), q3.wl.trans ((g 4 (by omega)).trans k4), q3.wl.trans g5, q3.wl.trans g6, q3.wl.trans g7, q3.rows gR, q1.perm q2, hwo⟩ (t1.tr q3.tf)
  obtain ⟨s, es, es2⟩ := hc.set
  refine ⟨fun c0 => ⟨fun c3 => ?_, fun c3 => ?_⟩, fun c0 => ?_⟩
  · refine S_isGrid hw ((g 2 (by omega)).trans k2) hc.1 (fun hg => ⟨fun z => absurd z (by decide), fun _ => ?_⟩) (fun hg => ⟨fun _ => ⟨rfl, fin M1 [] gQ ?_ QF.rf⟩, fun z => absurd rfl z⟩)
    · have h5 : cK c ≠ 5 := by omega
      have hGH := grid_GH (kd := cK c) (R := cR c) (fun j hj => hc.2.2.2.1 j (by omega))
      have hwq : wq c 0 (crs c) = fro (gpar (gkey (cK c) (cR c)) tdec gpix) (gcrs 512 (gval (cR c)) (gkey (cK c) (cR c))) 0 := by
        unfold wq
        rw [if_neg h5, (crs_g hg).1, (crs_g hg).2]
      refine S_offerGrid (i := 0) (j := 0) (k := 0) hw ((g 2 (by omega)).trans k2) hc.1 gR (by omega) (by omega) (by omega) gQ (by simp) (fun a1 a2 a3 M2 q1 q2 => ⟨rfl, fin M2 _ q1 ?_ q2⟩) (fun a1 => ⟨rfl, fin M1 [] gQ ?_ QF.rf⟩)
      · rw [hwq]
        apply (List.perm_ext_iff_of_nodup (by simp) (fro_nodup (gcrs_sorted hGH))).mpr
        intro x
        rw [fro_0, gcrs_roots hGH]
        have e : gnum (cK c) (cR c) 0 0 0 * 1024 + (((0 * 8 + 0) * 8 + 0 : Nat) : Int) = gkey (cK c) (cR c) 0 := rfl
        rw [e, List.mem_singleton]
        constructor
        · rintro rfl
          exact ⟨0, by omega, gval_iff.mpr ⟨a1, a2, a3⟩, rfl, gpix_0⟩
        · rintro ⟨t, b1, b2, rfl, b3⟩
          rw [gpix_none b1 b3]
      · rw [hwq]
        apply (List.perm_ext_iff_of_nodup (by simp) (fro_nodup (gcrs_sorted hGH))).mpr
        intro x
        rw [fro_0, gcrs_roots hGH]
        constructor
        · intro z; cases z
        · rintro ⟨t, b1, b2, rfl, b3⟩
          have := gpix_none b1 b3
          subst this
          exact absurd (gval_iff.mp b2) a1
    · unfold wq
      by_cases h5 : cK c = 5
      · rw [if_pos h5]
        exact List.Perm.refl _
      · rw [if_neg h5, crs_e (by have := hc.1; omega), fro_end (by simp)]
  · have hk3 : cK c = 3 := Classical.not_not.mp c3
    have hwq : wq c 0 (crs c) = fro (gpar (mkey (cF c) (cR c)) tdec mpix) (gcrs 512 (mval (cS c) (cF c) (cR c)) (mkey (cF c) (cR c))) 0 := by
      unfold wq
      rw [if_neg (by omega), (crs_3 hk3).1, (crs_3 hk3).2]
    have loop : ∀ (f j : Nat) (M2 : AMem), j + f = 6 → QIs M2 w (mrts (cS c) (cF c) (cR c) j) → QF w M1 M2 → RunQ (d + 2 + 1) m_W_restart 55 [some (vR 2 w), some (vI (j : Int))] [] M2 (fun v M1 => v = none ∧ Q M1) := by
      intro f
      induction f with
      | zero =>
        intro j M2 hj q1 q2
        have : j = 6 := by omega
        subst this
        refine T_W_restart_55 (ok2 hw) ⟨fun _ => ⟨rfl, fin M2 _ q1 ?_ q2⟩, fun z => absurd (by decide) z⟩
        rw [hwq]
        exact mrts_perm hc.2.2.2.1
      | succ f ih =>
        intro j M2 hj q1 q2
        have hl := mrts_len (cS c) (cF c) (cR c) j
        refine T_W_restart_55 (ok2 hw) ?_
        rw [w_n (show j < 2147483648 by omega)]
        refine ⟨fun z => absurd z (by omega), fun _ => ?_⟩
        have hm := mrts_s (cS c) (cF c) (cR c) j
        rw [show (j : Int) + 1 = ((j + 1 : Nat) : Int) from rfl]
        refine S_offerRow (p := 0) hw ((q2.wl.trans ((g 3 (by omega)).trans k3)).trans es) es2 (q2.wl.trans ((g 4 (by omega)).trans k4)) hc.2.2.1 (q2.rows gR) (by omega) (by omega) q1 (by omega) (fun m1 m2 M3 r1 r2 => ih (j + 1) M3 (by omega) ?_ (q2.tr r2)) (fun m1 => ih (j + 1) M2 (by omega) ?_ q2)
        · rw [hm, if_pos ⟨by rw [es]; exact m1, m2⟩]
          have e : (rk (cF c) j * 8 + 0) * 8 = rk (cF c) j * 64 := by omega
          rw [e] at r1
          exact r1.perm (List.perm_append_comm (l₁ := [_]))
        · rw [hm, if_neg (fun z => m1 ⟨by rw [← es]; exact z.1, z.2⟩), List.append_nil]
          exact q1
    exact loop 6 0 M1 (by omega) gQ QF.rf
  · have hk0 : cK c = 0 := Classical.not_not.mp c0
    have hwq : wq c 0 (crs c) = fro (gpar pkey pdec ppix) (gcrs 100001 (pval (cS c)) pkey) 0 := by
      unfold wq
      rw [if_neg (by omega), (crs_0 hk0).1, (crs_0 hk0).2]
    refine S_keyOf ?_
    refine S_push hw (by unfold kOK; omega) gQ (by simp) (fun M2 q1 q2 => ⟨rfl, fin M2 _ q1 ?_ (fun k i s a b => q2 k i s (fun z => a ⟨z.1, z.2.1⟩) (fun z => b ⟨z.1, z.2.1⟩))⟩)
    rw [hwq]
    apply (List.perm_ext_iff_of_nodup (by simp) (fro_nodup (gcrs_sorted (powers_GH (cS c))))).mpr
    intro x
    rw [fro_0, gcrs_roots (powers_GH (cS c))]
    have e : (1 : Int) * 1024 + 0 = pkey 1 := by decide
    rw [e, List.mem_singleton]
    constructor
    · rintro rfl
      exact ⟨1, by omega, pval_1 _, rfl, ppix_1⟩
    · rintro ⟨t, b1, b2, rfl, b3⟩
      rw [ppix_none b3]
/-- begin -/
theorem S_begin {d w : Nat} {c : CS} {M : AMem} {Q : AMem → Prop} (hw : w < 7) (hc : cOK c) (kR : RW M w (cR c))
    (h : ∀ M', WIs M' w c 0 0 (crs c) → TF w M M' → Q M') : CallV (d + 4) m_W_begin [vR 2 w, vI (cK c), vI (cS c), vI (cF c)] M Q := by
  refine T_W_begin_0 (ok2 hw) ⟨hc.2.2.1, ?_⟩
  have t : TF w M (aup (aup (aup M 2 w 2 (cK c)) 2 w 3 (cS c)) 2 w 4 (cF c)) := (TF.aup.tr TF.aup).tr TF.aup
  refine S_restart hw hc ?_ ?_ ?_ (t.rows kR) (fun M' q1 q2 => ⟨rfl, h M' q1 (t.tr q2)⟩)
  · rw [aup_n (by omega), aup_n (by omega), aup_s]
  · rw [aup_n (by omega), aup_s]
  · rw [aup_s]
