/-! THE LAW: a copy that is shaken, led again, and begun anew -/
theorem e_draw {d w cl n : Nat} {c : CS} {L : List Int} {H : HS} {M : AMem} {Q : Int → AMem → Prop} (hw5 : w < 5) (e : H.2.1 w = (c, cl, n, L)) (hH : HIs M H)
    (h : ∀ M', HIs M' (hw H w (c, cl, nxt n L, L)) → Q (pek n L) M') : CallI (d + 10) m_H_draw [vR 3 0, vI (w : Int)] M Q := S_hdraw hw5 hH (by rw [e]; exact h)
theorem e_anew {d w cl n : Nat} {c : CS} {L : List Int} {H : HS} {M : AMem} {Q : Int → AMem → Prop} (hw5 : w < 5) (e : H.2.1 w = (c, cl, n, L)) (hk : cK c ≠ -1) (hH : HIs M H)
    (h : ∀ z M', HIs M' (hw H w (c, 0, 0, crs c)) → Q z M') : CallI (d + 10) m_H_anew [vR 3 0, vI (w : Int)] M Q := S_hanew hw5 hH (by rw [e]; exact fun _ => h) (by rw [e]; exact fun z => absurd z hk)
theorem e_copy {d w v cl n : Nat} {c : CS} {L : List Int} {H : HS} {M : AMem} {Q : Int → AMem → Prop} (hw5 : w < 5) (hv5 : v < 5) (e : H.2.1 w = (c, cl, n, L)) (hH : HIs M H)
    (h : ∀ M', HIs M' (hw H v (c, cl, n, L)) → Q ((wq c n L).length : Int) M') : CallI (d + 10) m_H_copy [vR 3 0, vI (w : Int), vI (v : Int)] M Q := S_hcopy hw5 hv5 hH (by rw [e]; exact h)
theorem e_shake {d w cl n : Nat} {c : CS} {L : List Int} {H : HS} {M : AMem} {Q : Int → AMem → Prop} (hw5 : w < 5) (e : H.2.1 w = (c, cl, n, L)) (hk : cK c ≠ -1) (hH : HIs M H)
    (h : ∀ M', HIs M' H → Q ((wq c n L).length : Int) M') : CallI (d + 10) m_H_shake [vR 3 0, vI (w : Int)] M Q := S_hshake hw5 hH (by rw [e]; exact fun _ => h) (by rw [e]; exact fun z => absurd z hk)
theorem e_again {d w n : Nat} {c : CS} {L : List Int} {H : HS} {M : AMem} {Q : Int → AMem → Prop} (hw5 : w < 5) (e : H.2.1 w = (c, 0, n, L)) (hk : cK c ≠ -1) (hH : HIs M H)
    (h : ∀ M', HIs M' (hw H w (c, 0, n, L)) → Q (lastN n L) M') : CallI (d + 10) m_H_again [vR 3 0, vI (w : Int)] M Q := S_hagain hw5 hH (by rw [e]; exact fun _ _ => h) (by rw [e]; exact fun z => absurd ⟨hk, rfl⟩ z)
theorem nxt_min {k : Nat} {L : List Int} (hk : k < 100) : nxt (min k L.length) L = min (k + 1) L.length := by
  unfold nxt
  split <;> omega
theorem G169 {d w v : Nat} {x3 x4 : Int} {c : CS} {Q : Option AV → AMem → Prop} (hv5 : v < 5) (hk : cK c ≠ -1) (h : ∀ M' H', HIs M' H' → Q (some (vI 1)) M') :
    ∀ (f k : Nat) (M : AMem) (H : HS) (u : Option AV), k + f = 12 → HIs M H → H.2.1 v = (c, 0, min k (crs c).length, crs c) → RunQ (d + 40) m_L_isGoing 169 [some (vR 3 0), some (vI (w : Int)), some (vI (v : Int)), some (vI x3), some (vI x4), some (vI (k : Int)), u] [] M Q := by
  intro f
  induction f with
  | zero =>
    intro k M H u hf hH e
    refine T_L_isGoing_169 ?_
    rw [w_n (show k < 2147483648 by omega)]
    exact ⟨fun _ => h _ _ hH, fun z => by omega⟩
  | succ f ih =>
    intro k M H u hf hH e
    refine T_L_isGoing_169 ?_
    rw [w_n (show k < 2147483648 by omega)]
    refine ⟨fun z => by omega, fun _ => ?_⟩
    refine e_nth (d := d + 29) hv5 e (by omega) hH hk fun M1 h1 => ?_
    refine e_draw (d := d + 29) hv5 e h1 fun M2 h2 => ?_
    have hc := (hH.e_wok hv5 e).1
    rw [nxt_min (by omega)] at h2
    by_cases hl : k < (crs c).length
    · have em : min k (crs c).length = k := by omega
      rw [em, pek_in (by omega) hl, nthV_in (by omega) hl]
      have hb := crs_ok hc (List.getElem_mem hl)
      rw [wI_eq (z := (crs c)[k] / 1024) (by omega) (by omega)]
      exact ⟨fun _ => ⟨fun _ => ih (k + 1) M2 _ _ (by omega) h2 hw_at, fun z => absurd rfl z⟩, fun z => by omega⟩
    · have em : min k (crs c).length = (crs c).length := by omega
      have hd : dry (crs c).length (crs c) := Or.inr (Nat.le_refl _)
      have hd2 : dry k (crs c) := Or.inr (by omega)
      rw [em, pek_out hd, nthV_out hd2]
      exact ⟨fun z => absurd z (by decide), fun _ => ⟨fun _ => ih (k + 1) M2 _ _ (by omega) h2 hw_at, fun z => absurd (by decide : wI (-9) = -9) z⟩⟩
theorem G122 {d w v k : Nat} {x3 x4 : Int} {H : HS} {M : AMem} {Q : Option AV → AMem → Prop} (hw5 : w < 5) (hv5 : v < 5) (hH : HIs M H) (e : H.2.1 v = H.2.1 w)
    (h : ∀ u, RunQ (d + 40) m_L_isGoing 98 [some (vR 3 0), some (vI (w : Int)), some (vI (v : Int)), some (vI x3), some (vI x4), some (vI ((k + 1 : Nat) : Int)), u] [] M Q) :
    ∀ (f q : Nat), q + f = 10 → RunQ (d + 40) m_L_isGoing 122 [some (vR 3 0), some (vI (w : Int)), some (vI (v : Int)), some (vI x3), some (vI x4), some (vI (k : Int)), some (vI (q : Int))] [] M Q := by
  intro f
  induction f with
  | zero =>
    intro q hf
    refine T_L_isGoing_122 ?_
    rw [w_n (show q < 2147483648 by omega)]
    exact ⟨fun _ => h _, fun z => by omega⟩
  | succ f ih =>
    intro q hf
    refine T_L_isGoing_122 ?_
    rw [w_n (show q < 2147483648 by omega)]
    refine ⟨fun z => by omega, fun _ => ?_⟩
    refine S_ofWell (d := d + 29) hw5 (by omega) hH ?_
    refine S_ofWell (d := d + 29) hv5 (by omega) hH ?_
    rw [e]
    exact ⟨fun _ => ih (q + 1) (by omega), fun z => absurd rfl z⟩
theorem G98 {d w v m : Nat} {x4 : Int} {Q : Option AV → AMem → Prop} (hw5 : w < 5) (hv5 : v < 5) (hwv : w ≠ v) (hm : m < 100) (h : ∀ M' H', HIs M' H' → Q (some (vI 1)) M') :
    ∀ (f k : Nat) (M : AMem) (H : HS) (u : Option AV), k + f = m → HIs M H → H.2.1 v = H.2.1 w → cK (H.2.1 w).1 ≠ -1 → RunQ (d + 40) m_L_isGoing 98 [some (vR 3 0), some (vI (w : Int)), some (vI (v : Int)), some (vI (m : Int)), some (vI x4), some (vI (k : Int)), u] [] M Q := by
  intro f
  induction f with
  | zero =>
    intro k M H u hf hH e hk
    obtain ⟨c, cl, n, L, ew⟩ : ∃ c cl n L, H.2.1 w = (c, cl, n, L) := ⟨_, _, _, _, rfl⟩
    rw [ew] at e hk
    refine T_L_isGoing_98 ?_
    rw [w_n (show k < 2147483648 by omega), w_n (show m < 2147483648 by omega)]
    refine ⟨fun _ => ?_, fun z => by omega⟩
    refine e_anew (d := d + 29) hv5 e hk hH fun z M1 h1 => ?_
    exact G169 hv5 hk h 12 0 M1 _ _ rfl h1 (by rw [hw_at, Nat.zero_min])
  | succ f ih =>
    intro k M H u hf hH e hk
    obtain ⟨c, cl, n, L, ew⟩ : ∃ c cl n L, H.2.1 w = (c, cl, n, L) := ⟨_, _, _, _, rfl⟩
    rw [ew] at e hk
    refine T_L_isGoing_98 ?_
    rw [w_n (show k < 2147483648 by omega), w_n (show m < 2147483648 by omega)]
    refine ⟨fun z => by omega, fun _ => ?_⟩
    refine e_draw (d := d + 29) hw5 ew hH fun M1 h1 => ?_
    refine e_draw (d := d + 29) hv5 (show (hw H w (c, cl, nxt n L, L)).2.1 v = (c, cl, n, L) from by rw [hw_ne (fun z => hwv z.symm)]; exact e) h1 fun M2 h2 => ?_
    refine ⟨fun _ => ?_, fun z => absurd rfl z⟩
    have e2 : (hw (hw H w (c, cl, nxt n L, L)) v (c, cl, nxt n L, L)).2.1 w = (c, cl, nxt n L, L) := by rw [hw_ne hwv, hw_at]
    refine G122 (k := k) hw5 hv5 h2 (by rw [e2, hw_at]) (fun u => ?_) 10 0 rfl
    exact ih (k + 1) M2 _ u (by omega) h2 (by rw [e2, hw_at]) (by rw [e2]; exact hk)
theorem S_isGoing {d w v m : Nat} {H : HS} {M : AMem} {Q : Int → AMem → Prop} (hw5 : w < 5) (hv5 : v < 5) (hwv : w ≠ v) (hm : m < 100) (hH : HIs M H) (h : ∀ M' H', HIs M' H' → Q 1 M') : CallI (d + 40) m_L_isGoing [vR 3 0, vI (w : Int), vI (v : Int), vI (m : Int)] M Q := by
  obtain ⟨c, cl, n, L, e⟩ : ∃ c cl n L, H.2.1 w = (c, cl, n, L) := ⟨_, _, _, _, rfl⟩
  have hW := hH.e_wok hw5 e
  have hc := hW.1.1
  refine T_L_isGoing_0 ?_
  refine e_ofWell (q := 0) (d := d + 29) hw5 e (by omega) hH ?_
  have e0 : ofW c cl n L 0 = cK c := rfl
  rw [e0, wI_eq (z := cK c) (by omega) (by omega)]
  refine ⟨fun z => ?_, fun _ => ⟨_, rfl, h _ _ hH⟩⟩
  have hk : cK c ≠ -1 := by omega
  refine e_ofWell (q := 2) (d := d + 29) hw5 e (by omega) hH ?_
  have e2 : ofW c cl n L 2 = ((wq c n L).length : Int) := rfl
  rw [e2]
  refine e_copy (d := d + 29) hw5 hv5 e hH fun M1 h1 => ?_
  refine ⟨fun z => absurd rfl z, fun _ => ?_⟩
  have ew : (hw H v (c, cl, n, L)).2.1 w = (c, cl, n, L) := by rw [hw_ne hwv]; exact e
  have ev : (hw H v (c, cl, n, L)).2.1 v = (c, cl, n, L) := hw_at
  refine S_halike (d := d + 29) hw5 hv5 h1 (by rw [ew, ev]) fun M2 h2 => ?_
  refine ⟨fun z => absurd z (by decide), fun _ => ?_⟩
  refine e_shake (d := d + 29) hv5 ev hk h2 fun M3 h3 => ?_
  refine ⟨fun z => absurd rfl z, fun _ => ?_⟩
  refine S_halike (d := d + 29) hw5 hv5 h3 (by rw [ew, ev]) fun M4 h4 => ?_
  refine ⟨fun _ => ?_, fun z => absurd (by decide : ¬ wI 1 = 0) z⟩
  refine e_ofWell (q := 9) (d := d + 29) hw5 ew (by omega) h4 ?_
  have e9 : ofW c cl n L 9 = cl := rfl
  have hcl : cl ≤ 6 := by
    by_cases e : cl = 0
    · omega
    · have := hW.2.2.2.2.2.2 e
      omega
  rw [e9, w_n (by omega)]
  have h' : ∀ M' H', HIs M' H' → (fun v M1 => ∃ x, v = some (vI x) ∧ Q x M1) (some (vI 1)) M' := fun M' H' hh => ⟨_, rfl, h _ _ hh⟩
  refine ⟨fun _ => G98 hw5 hv5 hwv hm h' m 0 _ _ _ (Nat.zero_add _) h4 (by rw [ew, ev]) (by rw [ew]; exact hk), fun zc => ?_⟩
  obtain rfl : cl = 0 := by omega
  refine e_again (d := d + 29) hv5 ev hk h4 fun M5 h5 => ?_
  have ew5 : (hw (hw H v (c, 0, n, L)) v (c, 0, n, L)).2.1 w = (c, 0, n, L) := by rw [hw_ne hwv]; exact ew
  refine e_ofWell (q := 3) (d := d + 29) hw5 ew5 (by omega) h5 ?_
  have e3 : ofW c 0 n L 3 = lastN n L := rfl
  rw [e3]
  refine ⟨fun z => absurd rfl z, fun _ => ?_⟩
  refine S_halike (d := d + 29) hw5 hv5 h5 (by rw [ew5, hw_at]) fun M6 h6 => ?_
  exact ⟨fun _ => G98 hw5 hv5 hwv hm h' m 0 _ _ _ (Nat.zero_add _) h6 (by rw [ew5, hw_at]) (by rw [ew5]; exact hk), fun z => absurd (by decide : ¬ wI 1 = 0) z⟩
