/-! closing a row -/
def rowOf (c : CS) (x : Int) : Nat := rk (cF c) (tI (tdec x))
def clo (c : CS) (n : Nat) (L : List Int) (r : Nat) : List Int := L.take n ++ (L.drop n).filter (fun x => decide (¬ rowOf c x = r))
theorem clo_take {c : CS} {n r : Nat} {L : List Int} (h : n ≤ L.length) : (clo c n L r).take n = L.take n := by
  unfold clo
  have hl : (L.take n).length = n := by rw [List.length_take]; omega
  rw [List.take_append_of_le_length (by omega), List.take_of_length_le (by omega)]
theorem clo_drop {c : CS} {n r : Nat} {L : List Int} (h : n ≤ L.length) : (clo c n L r).drop n = (L.drop n).filter (fun x => decide (¬ rowOf c x = r)) := by
  unfold clo
  have hl : (L.take n).length = n := by rw [List.length_take]; omega
  rw [List.drop_append_of_le_length (by omega), List.drop_eq_nil_of_le (by omega), List.nil_append]
theorem clo_sub {c : CS} {n r : Nat} {L : List Int} : (clo c n L r).Sublist L := by
  unfold clo
  conv => rhs; rw [← List.take_append_drop n L]
  exact List.Sublist.append (List.Sublist.refl _) List.filter_sublist
theorem clo_len {c : CS} {n r : Nat} {L : List Int} (h : n ≤ L.length) : n ≤ (clo c n L r).length := by
  unfold clo
  rw [List.length_append, List.length_take]
  omega
theorem fro_clo {c : CS} {n r : Nat} {L : List Int} {par : Int → Option Int} (h : n ≤ L.length) : fro par (clo c n L r) n = (fro par L n).filter (fun x => decide (¬ rowOf c x = r)) := by
  unfold fro
  rw [clo_take h, clo_drop h, List.filter_filter, List.filter_filter]
  apply List.filter_congr
  intro x _
  exact Bool.and_comm _ _
theorem lastK_clo {c : CS} {n r : Nat} {L : List Int} (h : n ≤ L.length) : lastK n (clo c n L r) = lastK n L := by
  unfold lastK
  by_cases h0 : n = 0
  · rw [if_pos h0, if_pos h0]
  · rw [if_neg h0, if_neg h0, List.getD, List.getD]
    have e1 : ((clo c n L r).take n)[n - 1]? = (clo c n L r)[n - 1]? := List.getElem?_take_of_lt (by omega)
    have e2 : (L.take n)[n - 1]? = L[n - 1]? := List.getElem?_take_of_lt (by omega)
    rw [← e1, clo_take h, e2]
theorem clo_eq {c : CS} {n r : Nat} {L : List Int} (h : ∀ x ∈ L.drop n, ¬ rowOf c x = r) : clo c n L r = L := by
  unfold clo
  have : (L.drop n).filter (fun x => decide (¬ rowOf c x = r)) = L.drop n := by
    rw [List.filter_eq_self]
    intro x hx
    exact decide_eq_true (h x hx)
  rw [this, List.take_append_drop]
/-- an entry of a merged well, by its tag -/
theorem crs3_ix {c : CS} (hc : cOK c) (k3 : cK c = 3) {x : Int} (hx : x ∈ crs c) : ∃ t, t < 512 ∧ mval (cS c) (cF c) (cR c) t = true ∧ x = mkey (cF c) (cR c) t ∧ tdec x = t := by
  rw [(crs_3 k3).1] at hx
  obtain ⟨t, t1, t2, t3⟩ := (mem_gcrs _).mp hx
  exact ⟨t, t1, t2, t3, by rw [t3]; exact (merged_GH (s := cS c) (fl := cF c) hc.2.2.2.1).1 t t1 t2⟩
theorem par3_row {c : CS} (hc : cOK c) (k3 : cK c = 3) {x e : Int} (hx : x ∈ crs c) (he : cpar c x = some e) : e ∈ crs c ∧ rowOf c e = rowOf c x := by
  obtain ⟨t, t1, t2, t3, t4⟩ := crs3_ix hc k3 hx
  have hG := merged_GH (s := cS c) (fl := cF c) hc.2.2.2.1
  rw [(crs_3 k3).2, t3, gpar_key hG t1 t2] at he
  cases hp : mpix t with
  | none => rw [hp] at he; cases he
  | some u =>
    rw [hp] at he
    simp only [Option.map_some, Option.some.injEq] at he
    obtain ⟨u1, u2, u3⟩ := hG.2.1 t t1 t2 u hp
    subst he
    refine ⟨by rw [(crs_3 k3).1]; exact (mem_gcrs _).mpr ⟨u, u1, u2, rfl⟩, ?_⟩
    unfold rowOf
    rw [hG.1 u u1 u2, t4]
    unfold mpix at hp
    split at hp
    · cases hp
      congr 1
      unfold tI tJ at *
      omega
    · cases hp
theorem row3_one {c : CS} {cl n : Nat} {L : List Int} (h : WOK c cl n L) (k3 : cK c = 3) {x y : Int} (hx : x ∈ fro (cpar c) L n) (hy : y ∈ fro (cpar c) L n) (e : rowOf c x = rowOf c y) : x = y := by
  have hc := h.1
  have hCL := (h.2.2.2.2.2.1 (by omega)).1
  have hG := merged_GH (s := cS c) (fl := cF c) hc.2.2.2.1
  obtain ⟨t, t1, t2, t3, t4⟩ := crs3_ix hc k3 (h.sub _ (fro_sub hx))
  obtain ⟨u, u1, u2, u3, u4⟩ := crs3_ix hc k3 (h.sub _ (fro_sub hy))
  unfold rowOf at e
  rw [t4, u4] at e
  obtain ⟨a1, b1, c1, d1⟩ := mval_iff.mp t2
  obtain ⟨a2, b2, c2, d2⟩ := mval_iff.mp u2
  have e1 : tI t = tI u := by rw [← rk_rk (fl := cF c) b1, e, rk_rk b2]
  have apart : ∀ t u, t < 512 → u < 512 → mval (cS c) (cF c) (cR c) t = true → mval (cS c) (cF c) (cR c) u = true → mkey (cF c) (cR c) t ∈ fro (cpar c) L n → mkey (cF c) (cR c) u ∈ fro (cpar c) L n → tI t = tI u → tJ t < tJ u → False := by
    intro t u ht hu vt vu xt xu h1 h2
    have hp : mpix u = some (u - 8) := by unfold mpix; rw [if_pos (by omega)]
    obtain ⟨p1, p2, p3⟩ := hG.2.1 u hu vu _ hp
    obtain ⟨a, b, c', e'⟩ := mval_iff.mp p2
    have h4 := fro_apart hCL.1 xt xu (e := mkey (cF c) (cR c) (u - 8)) (by rw [(crs_3 k3).2, gpar_key hG hu vu, hp]; rfl)
    have e1 : tI (u - 8) = tI t := by unfold tI tJ at *; omega
    have e2 : tJ t ≤ tJ (u - 8) := by unfold tI tJ at *; omega
    rw [e1] at e' b
    have h5 := nAt_le (hc.2.2.2.1 _ (rk_lt (fl := cF c) b)) e2 e'
    unfold mkey at h4
    rw [e1] at h4
    have h6 : t ≤ u - 8 := by
      obtain ⟨z1, -, -, -⟩ := mval_iff.mp vt
      obtain ⟨z2, -, -, -⟩ := mval_iff.mp vu
      unfold tI tJ tK at *
      omega
    omega
  rw [t3] at hx ⊢
  rw [u3] at hy ⊢
  rcases Nat.lt_trichotomy (tJ t) (tJ u) with g | g | g
  · exact (apart t u t1 u1 t2 u2 hx hy e1 g).elim
  · have : t = u := by unfold tI tJ tK at *; omega
    rw [this]
  · exact (apart u t u1 t1 u2 t2 hy hx e1.symm g).elim
/-- if one of the row is to come, one of it waits -/
theorem row3_waits {c : CS} {cl n r : Nat} {L : List Int} (h : WOK c cl n L) (k3 : cK c = 3) : ∀ (f i : Nat) (hi : i < L.length), i = n + f → rowOf c L[i] = r → ∃ y ∈ fro (cpar c) L n, rowOf c y = r := by
  have hc := h.1
  have hCL := (h.2.2.2.2.2.1 (by omega)).1
  intro f
  induction f using Nat.strongRecOn with
  | _ f ih =>
    intro i hi hf hr
    have hn : n < L.length := by omega
    by_cases hw : L[i] ∈ fro (cpar c) L n
    · exact ⟨_, hw, hr⟩
    · have hle : L[n] ≤ L[i] := ((mem_drop hCL.1 hn _).mp (List.mem_drop_iff_getElem.mpr ⟨f, by omega, by congr 1; omega⟩)).2
      rw [mem_fro hCL.1 hn] at hw
      have h1 : ∃ e, cpar c L[i] = some e ∧ ¬ e < L[n] := Classical.byContradiction (fun z => hw ⟨List.getElem_mem _, hle, fun e he => ⟨(hCL.2 _ (List.getElem_mem _) e he).1, Classical.byContradiction (fun g => z ⟨e, he, g⟩)⟩⟩)
      obtain ⟨e, he, hne⟩ := h1
      have h2 := hCL.2 _ (List.getElem_mem hi) e he
      obtain ⟨j, hj, rfl⟩ := List.getElem_of_mem h2.1
      have hji : j < i := by
        rcases Nat.lt_trichotomy j i with g | g | g
        · exact g
        · subst g; omega
        · have := srt_lt hCL.1 hj g; omega
      have hnj : n ≤ j := by
        rcases Nat.lt_or_ge j n with g | g
        · have := srt_lt hCL.1 hn g; omega
        · exact g
      exact ih (j - n) (by omega) j hj (by omega) (by rw [(par3_row hc k3 (h.sub _ (List.getElem_mem hi)) he).2]; exact hr)
theorem WOK.close {c : CS} {cl n r : Nat} {L : List Int} (h : WOK c cl n L) (k3 : cK c = 3) {y : Int} (hy : y ∈ fro (cpar c) L n) (hr : rowOf c y = r) : WOK c (cl + 1) n (clo c n L r) := by
  obtain ⟨a1, a2, a3, a4, a5, a6, a7⟩ := id h
  obtain ⟨b1, b2, b3⟩ := a6 (by omega)
  have hsub : ∀ x, x ∈ clo c n L r → x ∈ L := fun x hx => (clo_sub (c := c) (n := n) (r := r) (L := L)).subset hx
  have hmem : ∀ x, x ∈ clo c n L r ↔ x ∈ L.take n ∨ (x ∈ L.drop n ∧ ¬ rowOf c x = r) := by
    intro x
    unfold clo
    rw [List.mem_append, List.mem_filter]
    simp only [decide_eq_true_eq]
  refine ⟨a1, a2, clo_len a3, fun z => by omega, fun z => absurd k3 z, fun _ => ⟨⟨b1.1.sublist clo_sub, fun x hx e he => ?_⟩, fun x hx => b2 x (hsub x hx), fun i hi hni y hy he => ?_⟩, fun _ => ?_⟩
  · have h1 := b1.2 x (hsub x hx) e he
    refine ⟨?_, h1.2⟩
    rw [hmem]
    have h2 : e ∈ L.take n ∨ e ∈ L.drop n := by
      rw [← List.mem_append, List.take_append_drop]
      exact h1.1
    rcases h2 with h2 | h2
    · exact Or.inl h2
    · refine Or.inr ⟨h2, fun hre => ?_⟩
      rcases (hmem x).mp hx with h3 | h3
      · have hn : n < L.length := by
          have := List.length_pos_of_mem h2
          rw [List.length_drop] at this
          omega
        have g1 := (mem_take b1.1 hn x).mp h3
        have g2 := (mem_drop b1.1 hn e).mp h2
        omega
      · exact h3.2 (by rw [← (par3_row a1 k3 (b2 x (hsub x hx)) he).2]; exact hre)
  · have h1 : (clo c n L r)[i] ∈ (clo c n L r).drop n := List.mem_drop_iff_getElem.mpr ⟨i - n, by omega, by congr 1; omega⟩
    rw [clo_drop a3, List.mem_filter] at h1
    simp only [decide_eq_true_eq] at h1
    obtain ⟨j, hj, hje⟩ := List.mem_drop_iff_getElem.mp h1.1
    rw [← hje] at he
    have hyL := b3 (n + j) (by omega) (by omega) y hy he
    rw [hmem]
    have hn : n < L.length := by omega
    have hlt := (b1.2 y hyL _ he).2
    refine Or.inr ⟨?_, fun hre => h1.2 ?_⟩
    · rw [mem_drop b1.1 hn]
      refine ⟨hyL, ?_⟩
      have := ((mem_drop b1.1 hn _).mp h1.1).2
      rw [← hje] at this
      omega
    · rw [← hje, (par3_row a1 k3 hy he).2]
      exact hre
  · rw [fro_clo a3]
    have h1 : ((fro (cpar c) L n).filter (fun x => decide (¬ rowOf c x = r))).length + 1 ≤ (fro (cpar c) L n).length := by
      have h2 := List.length_filter_lt_length_iff_exists (p := fun x => decide (¬ rowOf c x = r)) (l := fro (cpar c) L n) |>.mpr ⟨y, hy, by simp [hr]⟩
      omega
    by_cases hc0 : cl = 0
    · have h2 := (wq_len h).1
      unfold wq climit at h2
      rw [if_neg (by omega), if_neg (by omega), if_neg (by omega), if_neg (by omega), if_pos k3] at h2
      have := mems_le (cS c)
      omega
    · have := a7 hc0
      omega
theorem S_tagAt3 {d w r p : Nat} {fl : Int} {M : AMem} {Q : Int → AMem → Prop} (hw : w < 7) (hk : M 2 w 2 = 3) (hf : M 2 w 4 = fl) (hfl : fl = 0 ∨ fl = 1) (hr : r < 6) (hp : p < 8) (h : Q (((rk fl r * 8 + p) * 8 : Nat) : Int) M) : CallI (d + 1) m_W_tagAt [vR 2 w, vI (r : Int), vI (p : Int), vI 0] M Q := by
  refine T_W_tagAt_0 (ok2 hw) ?_
  rw [hk, w_n (show r < 2147483648 by omega), w_n (show p < 2147483648 by omega)]
  refine ⟨fun _ => ⟨fun z => absurd (by decide) z, fun _ => ⟨fun z => absurd z (by omega), fun _ => ⟨fun z => absurd z (by omega), fun _ => ⟨fun z => absurd z (by omega), fun _ => ⟨fun z => absurd z (by omega), fun _ => ⟨fun z => absurd (by decide) z, fun _ => ?_⟩⟩⟩⟩⟩⟩, fun z => absurd (by decide) z⟩
  refine S_rankOf hw hf hfl hr ⟨_, rfl, ?_⟩
  have e : ((((rk fl r : Nat) : Int) * 8 + (p : Int)) * 8) + 0 = (((rk fl r * 8 + p) * 8 : Nat) : Int) := by omega
  rw [e]
  exact h
set_option maxRecDepth 20000 in
/-- closeRow of a merged well -/
theorem S_closeRow {d w cl n r : Nat} {c : CS} {L : List Int} {M : AMem} {Q : Int → AMem → Prop} (hw : w < 7) (hW : WIs M w c cl n L) (hr : r < 6)
    (h3 : cK c = 3 → ∀ (z : Int) (cl' : Nat) (M' : AMem), WIs M' w c cl' n (clo c n L r) → TF w M M' → Q z M') (h0 : cK c ≠ 3 → Q (-9) M) : CallI (d + 3) m_W_closeRow [vR 2 w, vI (r : Int)] M Q := by
  obtain ⟨w2, w3, w4, w5, w6, w7, wR, wQ, wO⟩ := id hW
  refine T_W_closeRow_0 (ok2 hw) ?_
  rw [w2, hW.kd, w_n (show r < 2147483648 by omega)]
  refine ⟨fun z => ⟨_, rfl, h0 z⟩, fun z => ⟨fun y => absurd y (by omega), fun _ => ⟨fun _ => ?_, fun y => absurd (by omega) y⟩⟩⟩
  have k3 : cK c = 3 := Classical.not_not.mp z
  have hc := wO.1
  have hl := (wR.ok hr).1
  have hwq : wq c n L = fro (cpar c) L n := if_neg (by omega)
  rw [hwq] at wQ
  have hrk := rk_lt (fl := cF c) hr
  have tagx : ∀ x ∈ fro (cpar c) L n, ∀ p, p < 8 → x % 1024 = (((rk (cF c) r * 8 + p) * 8 : Nat) : Int) → rowOf c x = r := by
    intro x hx p hp he
    have h1 : tI (tdec x) = rk (cF c) r := by
      unfold tdec tI
      omega
    unfold rowOf
    rw [h1, rk_rk hr]
  have loop : ∀ (f p : Nat) (u : Option AV), p + f = (cR c r).length → (∀ p', p' < p → ∀ x ∈ fro (cpar c) L n, ¬ x % 1024 = (((rk (cF c) r * 8 + p') * 8 : Nat) : Int)) →
      RunQ (d + 3) m_W_closeRow 26 [some (vR 2 w), some (vI (r : Int)), some (vI (p : Int)), u] [] M (fun v M1 => ∃ x, v = some (vI x) ∧ Q x M1) := by
    intro f
    induction f with
    | zero =>
      intro p u hp hno
      refine T_W_closeRow_26 (ok2 hw) ?_
      rw [w_n (show r < 2147483648 by omega), Int.toNat_natCast, (wR r hr).1, w_n (show p < 2147483648 by omega), w_n (show (cR c r).length < 2147483648 by omega)]
      refine ⟨⟨by omega, by omega⟩, fun _ => ⟨_, rfl, ?_⟩, fun y => absurd (by omega) y⟩
      have hnone : ∀ x ∈ L.drop n, ¬ rowOf c x = r := by
        intro x hx hre
        obtain ⟨j, hj, rfl⟩ := List.mem_drop_iff_getElem.mp hx
        obtain ⟨y, hy, hyr⟩ := row3_waits wO k3 j (n + j) (by omega) rfl hre
        obtain ⟨t, t1, t2, t3, t4⟩ := crs3_ix hc k3 (wO.sub _ (fro_sub hy))
        obtain ⟨b1, b2, b3, b4⟩ := mval_iff.mp t2
        unfold rowOf at hyr
        rw [t4] at hyr
        have e1 : tI t = rk (cF c) r := by rw [← hyr, rk_rk b2]
        rw [hyr] at b4
        refine hno (tJ t) (by omega) y hy ?_
        unfold tdec at t4
        have h8 : y = mkey (cF c) (cR c) t := t3
        have h9 := crs_ok hc (wO.sub _ (fro_sub hy))
        unfold tI tJ tK at *
        omega
      refine h3 k3 (-9) cl M ?_ TF.rf
      rw [clo_eq hnone]
      exact hW
    | succ f ih =>
      intro p u hp hno
      refine T_W_closeRow_26 (ok2 hw) ?_
      rw [w_n (show r < 2147483648 by omega), Int.toNat_natCast, (wR r hr).1, w_n (show p < 2147483648 by omega), w_n (show (cR c r).length < 2147483648 by omega)]
      refine ⟨⟨by omega, by omega⟩, fun y => absurd y (by omega), fun _ => ?_⟩
      refine S_tagAt3 hw (w2.trans k3) w4 hc.2.2.1 hr (by omega) ?_
      refine S_holds hw wQ (by omega) (fun ⟨x, hx, hxe⟩ => ⟨fun y => absurd y (by decide), fun _ => ?_⟩) (fun hn => ⟨fun _ => ?_, fun y => absurd (by decide) y⟩)
      · have hxr := tagx x hx p (by omega) hxe
        refine S_remove hw wQ (by omega) (fun M1 q1 q2 => ⟨⟨by omega, by omega⟩, _, rfl, ?_⟩)
        have q2' : QF w M M1 := q2
        have g : ∀ s, M1 2 w s = M 2 w s := fun s => q2'.wl
        refine h3 k3 _ (cl + 1) _ ⟨?_, ?_, ?_, ?_, ?_, ?_, ?_, ?_, wO.close k3 hx hxr⟩ (q2'.tf.tr TF.aup)
        · rw [aup_n (by omega), g]; exact w2
        · rw [aup_n (by omega), g]; exact w3
        · rw [aup_n (by omega), g]; exact w4
        · rw [aup_s, g, w5]; rfl
        · rw [aup_n (by omega), g]; exact w6
        · rw [aup_n (by omega), g, lastK_clo wO.2.2.1]; exact w7
        · exact TF.aup.rows (q2'.rows wR)
        · have e : wq c n (clo c n L r) = fro (cpar c) (clo c n L r) n := if_neg (by omega)
          rw [e, fro_clo wO.2.2.1]
          have e2 : (fro (cpar c) L n).filter (fun x => decide (¬ x % 1024 = (((rk (cF c) r * 8 + p) * 8 : Nat) : Int))) = (fro (cpar c) L n).filter (fun x => decide (¬ rowOf c x = r)) := by
            apply List.filter_congr
            intro y hy
            have : y % 1024 = (((rk (cF c) r * 8 + p) * 8 : Nat) : Int) ↔ rowOf c y = r := by
              constructor
              · exact tagx y hy p (by omega)
              · intro hyr
                have := row3_one wO k3 hy hx (hyr.trans hxr.symm)
                rw [this]
                exact hxe
            simp only [this]
          rw [← e2]
          exact q1.aup2
      · rw [show (p : Int) + 1 = ((p + 1 : Nat) : Int) from rfl]
        refine ih (p + 1) _ (by omega) (fun p' hp' x hx => ?_)
        by_cases hpp : p' = p
        · rw [hpp]
          exact hn x hx
        · exact hno p' (by omega) x hx
  exact loop (cR c r).length 0 none (by omega) (fun p' hp' => by omega)
