/-! THE LAW: what is so of a well at all times -/
theorem e_ofWell {d w q cl n : Nat} {c : CS} {L : List Int} {H : HS} {M : AMem} {Q : Int → AMem → Prop} (hw5 : w < 5) (e : H.2.1 w = (c, cl, n, L)) (hq : q < 10) (hH : HIs M H)
    (h : Q (ofW c cl n L q) M) : CallI (d + 10) m_H_ofWell [vR 3 0, vI (w : Int), vI (q : Int)] M Q := S_ofWell hw5 hq hH (by rw [e]; exact h)
theorem e_peek {d w cl n : Nat} {c : CS} {L : List Int} {H : HS} {M : AMem} {Q : Int → AMem → Prop} (hw5 : w < 5) (e : H.2.1 w = (c, cl, n, L)) (hH : HIs M H)
    (h : Q (pek n L) M) : CallI (d + 10) m_H_peek [vR 3 0, vI (w : Int)] M Q := S_hpeek hw5 hH (by rw [e]; exact h)
theorem e_nth {d w k cl n : Nat} {c : CS} {L : List Int} {H : HS} {M : AMem} {Q : Int → AMem → Prop} (hw5 : w < 5) (e : H.2.1 w = (c, cl, n, L)) (hn : k < 100) (hH : HIs M H) (hk : cK c ≠ -1)
    (h : ∀ M', HIs M' H → Q (nthV (crs c) k) M') : CallI (d + 10) m_H_nth [vR 3 0, vI (w : Int), vI (k : Int)] M Q := S_hnth hw5 hn hH (by rw [e]; exact hk) (by rw [e]; exact h)
theorem e_waits {d w cl n : Nat} {v : Int} {c : CS} {L : List Int} {H : HS} {M : AMem} {Q : Int → AMem → Prop} (hw5 : w < 5) (e : H.2.1 w = (c, cl, n, L)) (hv : 0 ≤ v ∧ v ≤ 1000000) (hH : HIs M H) (hk : cK c ≠ -1)
    (h : Q ((wq c n L).countP (fun x => decide (x / 1024 ≤ v)) : Nat) M) : CallI (d + 10) m_H_waits [vR 3 0, vI (w : Int), vI v] M Q := S_hwaits hw5 hv hH (by rw [e]; exact hk) (by rw [e]; exact h)
theorem e_upTo {d w cl n : Nat} {v : Int} {c : CS} {L : List Int} {H : HS} {M : AMem} {Q : Int → AMem → Prop} (hw5 : w < 5) (e : H.2.1 w = (c, cl, n, L)) (hv : 0 ≤ v ∧ v ≤ 1000000) (hH : HIs M H) (hk : cK c ≠ -1) (h5 : cK c = 5 → v ≤ 600)
    (h : Q (up c v : Nat) M) : CallI (d + 20) m_H_upTo [vR 3 0, vI (w : Int), vI v] M Q := S_hupTo hw5 hv hH (by rw [e]; exact hk) (fun _ => by rw [e]; exact h) (fun z => absurd (by rw [e]; exact h5) z)
theorem e_ways {d w cl n : Nat} {v : Int} {c : CS} {L : List Int} {H : HS} {M : AMem} {Q : Int → AMem → Prop} (hw5 : w < 5) (e : H.2.1 w = (c, cl, n, L)) (hv : 1 ≤ v ∧ v ≤ 1000000) (hH : HIs M H) (hk : cK c ≠ -1) (h5 : cK c = 5 → v ≤ 600)
    (h : Q ((up c v : Nat) - (up c (v - 1) : Nat)) M) : CallI (d + 20) m_H_ways [vR 3 0, vI (w : Int), vI v] M Q := S_hways hw5 hv hH (by rw [e]; exact hk) (fun _ => by rw [e]; exact h) (fun z => absurd (by rw [e]; exact h5) z)
theorem HIs.e_wok {M : AMem} {H : HS} {w cl n : Nat} {c : CS} {L : List Int} (h : HIs M H) (hw5 : w < 5) (e : H.2.1 w = (c, cl, n, L)) : WOK c cl n L := by
  have := h.wok hw5
  rw [e] at this
  exact this
theorem C399 {d w cl n : Nat} {x y op : Int} {c : CS} {L : List Int} {H : HS} {Q : Option AV → AMem → Prop} {M : AMem} {a v : Int} {u : Option AV} (hw5 : w < 5) (e : H.2.1 w = (c, cl, n, L)) (hk : cK c ≠ -1) (h : ∀ M', HIs M' H → Q (some (vI 1)) M') (hH : HIs M H) (hv : 1 ≤ v ∧ v ≤ 1000000) (h5 : cK c = 5 → v ≤ 600) :
    RunQ (d + 40) m_L_isCourse 399 [some (vR 3 0), some (vI (w : Int)), some (vI x), some (vI y), some (vI (cK c)), some (vL (dig H)), none, some (vI (n : Int)), some (vI ((wq c n L).length : Int)), some (vI (lastN n L)), some (vI op), some (vI a), u] [vI v] M Q := by
  refine T_L_isCourse_399 ?_
  refine e_upTo (d := d + 19) hw5 e (by omega) hH hk h5 ?_
  refine e_upTo (d := d + 19) hw5 e (by omega) hH hk (fun z => by have := h5 z; omega) ?_
  refine e_ways (d := d + 19) hw5 e hv hH hk h5 ?_
  have eq : ∀ a b : Int, wI a = wI (b + (a - b)) := fun a b => by rw [show b + (a - b) = a from by omega]
  refine ⟨fun z => absurd (eq _ _) z, fun _ => ?_⟩
  refine S_digest (d := d + 9) hH fun M' h' => ?_
  rw [opCmp_self]
  exact ⟨fun z => absurd (by decide : wI 0 = 0) z, fun _ => h _ h'⟩
theorem C346 {d w cl n : Nat} {x y op : Int} {c : CS} {L : List Int} {H : HS} {Q : Option AV → AMem → Prop} {M : AMem} {u : Option AV} (hw5 : w < 5) (e : H.2.1 w = (c, cl, n, L)) (hk : cK c ≠ -1) (h : ∀ M', HIs M' H → Q (some (vI 1)) M') (hH : HIs M H) :
    RunQ (d + 40) m_L_isCourse 346 [some (vR 3 0), some (vI (w : Int)), some (vI x), some (vI y), some (vI (cK c)), some (vL (dig H)), none, some (vI (n : Int)), some (vI ((wq c n L).length : Int)), some (vI (lastN n L)), some (vI op), some (vI (pek n L)), u] [] M Q := by
  have hW := hH.e_wok hw5 e
  refine T_L_isCourse_346 ?_
  refine S_below (n := 3) (by omega) (by omega) fun a ha => ⟨fun _ => ⟨fun z4 => ?_, fun _ => ?_⟩, fun _ => ?_⟩
  · refine S_below (n := 2) (by omega) (by omega) fun b hb => ⟨fun _ => ?_, fun _ => ?_⟩
    · exact S_below (n := 1000) (by omega) (by omega) fun v hv => C399 hw5 e hk h hH (by omega) (fun z5 => absurd (by rw [z5]; decide) z4)
    · refine S_below (n := 1000000) (by omega) (by omega) fun v hv => C399 hw5 e hk h hH (by omega) (fun z5 => absurd (by rw [z5]; decide) z4)
  · exact S_below (n := 600) (by omega) (by omega) fun v hv => C399 hw5 e hk h hH (by omega) (fun _ => by omega)
  · refine C399 hw5 e hk h hH ?_ ?_
    · rcases pek_ok hW with ⟨z, _⟩ | ⟨z1, z2, _⟩
      · rw [z]
        decide
      · rw [wI_eq (z := pek n L) (by omega) (by omega)]
        split <;> omega
    · intro z5
      rcases pek_ok hW with ⟨z, _⟩ | ⟨z1, z2, _, z3, _⟩
      · rw [z]
        decide
      · rw [wI_eq (z := pek n L) (by omega) (by omega)]
        have := pek5 hW z5 z3
        have := (pAt_mem (n := n) (by omega)).1
        split <;> omega
theorem C311 {d w cl n : Nat} {x y op : Int} {c : CS} {L : List Int} {H : HS} {Q : Option AV → AMem → Prop} {M : AMem} (hw5 : w < 5) (e : H.2.1 w = (c, cl, n, L)) (hk : cK c ≠ -1) (h : ∀ M', HIs M' H → Q (some (vI 1)) M') (hH : HIs M H) (h5 : cK c = 5) (hn : n < 100) : ∀ (f m : Nat), m + f = 602 → 2 ≤ m → pLast n < m →
    RunQ (d + 40) m_L_isCourse 311 [some (vR 3 0), some (vI (w : Int)), some (vI x), some (vI y), some (vI (cK c)), some (vL (dig H)), none, some (vI (n : Int)), some (vI ((wq c n L).length : Int)), some (vI (lastN n L)), some (vI op), some (vI (pek n L)), some (vI (m : Int))] [] M Q := by
  have hW := hH.e_wok hw5 e
  have hp := pek5 hW h5 hn
  have hpm := pAt_mem (n := n) (by omega)
  intro f
  induction f with
  | zero =>
    intro m hm h2 hl
    refine T_L_isCourse_311 ?_
    rw [w_n (show m < 2147483648 by omega)]
    refine ⟨fun _ => C346 hw5 e hk h hH, fun z => ?_⟩
    rw [hp, w_n (by omega)] at z
    omega
  | succ f ih =>
    intro m hm h2 hl
    refine T_L_isCourse_311 ?_
    rw [w_n (show m < 2147483648 by omega)]
    have hpw : wI (pek n L) = ((pAt n : Nat) : Int) := by rw [hp, w_n (by omega)]
    rw [hpw]
    refine ⟨fun _ => C346 hw5 e hk h hH, fun z => ?_⟩
    refine S_isPrimeL (by omega) (fun z1 => ?_) (fun z1 => ?_)
    · have em : m = pAt n := by
        by_cases e1 : m = pAt n
        · exact e1
        · exact absurd z1 (no_prime (n := n) (by omega) hl (by omega))
      exact ⟨fun z2 => absurd (by rw [em]) z2, fun _ => ⟨fun _ => ih (m + 1) (by omega) (by omega) (by omega), fun z2 => absurd (by decide : wI 1 = 1) z2⟩⟩
    · have em : m ≠ pAt n := fun z2 => z1 (by rw [z2]; exact hpm.2)
      exact ⟨fun _ => ⟨fun _ => ih (m + 1) (by omega) (by omega) (by omega), fun z2 => absurd (by decide : wI 0 = 0) z2⟩, fun z2 => absurd (fun z3 => em (by omega)) z2⟩
theorem C290 {d w cl n : Nat} {x y op : Int} {c : CS} {L : List Int} {H : HS} {Q : Option AV → AMem → Prop} {M : AMem} (hw5 : w < 5) (e : H.2.1 w = (c, cl, n, L)) (hk : cK c ≠ -1) (h : ∀ M', HIs M' H → Q (some (vI 1)) M') (hH : HIs M H) :
    RunQ (d + 40) m_L_isCourse 290 [some (vR 3 0), some (vI (w : Int)), some (vI x), some (vI y), some (vI (cK c)), some (vL (dig H)), none, some (vI (n : Int)), some (vI ((wq c n L).length : Int)), some (vI (lastN n L)), some (vI op), some (vI (pek n L)), none] [] M Q := by
  have hW := hH.e_wok hw5 e
  refine T_L_isCourse_290 ⟨fun _ => C346 hw5 e hk h hH, fun z => ⟨fun _ => C346 hw5 e hk h hH, fun z5 => ?_⟩⟩
  have k5 : cK c = 5 := by
    have := hW.1.1
    rw [wI_eq (by omega) (by omega)] at z5
    omega
  rcases pek_ok hW with ⟨z1, _⟩ | ⟨z1, z2, _, z3, _⟩
  · rw [z1] at z
    exact absurd (by decide) z
  · have hl := lastN_ok hW
    have hp := pLast_le (n := n) (by omega)
    rw [wI_eq (z := lastN n L) (by omega) (by omega)]
    by_cases h0 : n = 0
    · have e1 : (if 1 < lastN n L then lastN n L else 1) + 1 = ((2 : Nat) : Int) := by
        unfold lastN
        rw [if_pos h0]
        decide
      rw [e1]
      refine C311 hw5 e hk h hH k5 z3 600 2 (by omega) (by omega) ?_
      unfold pLast
      rw [if_pos h0]
      omega
    · have h1 : 1 < pLast n := by
        unfold pLast
        rw [if_neg h0]
        exact (isP_iff.mp (pAt_mem (n := n - 1) (by omega)).2).1
      have e1 : (if 1 < lastN n L then lastN n L else 1) + 1 = ((pLast n + 1 : Nat) : Int) := by
        rw [last5 hW k5 h0]
        generalize pLast n = p at *
        rw [if_pos (by omega)]
        omega
      rw [e1]
      exact C311 hw5 e hk h hH k5 z3 (601 - pLast n) (pLast n + 1) (by omega) (by omega) (by omega)
theorem C270 {d w cl n : Nat} {x y op : Int} {c : CS} {L : List Int} {H : HS} {Q : Option AV → AMem → Prop} {M : AMem} (hw5 : w < 5) (e : H.2.1 w = (c, cl, n, L)) (hk : cK c ≠ -1) (h : ∀ M', HIs M' H → Q (some (vI 1)) M') (hH : HIs M H) :
    RunQ (d + 40) m_L_isCourse 270 [some (vR 3 0), some (vI (w : Int)), some (vI x), some (vI y), some (vI (cK c)), some (vL (dig H)), none, some (vI (n : Int)), some (vI ((wq c n L).length : Int)), some (vI (lastN n L)), some (vI op), some (vI (pek n L)), none] [] M Q := by
  have hW := hH.e_wok hw5 e
  have hl := lastN_ok hW
  refine T_L_isCourse_270 ⟨fun _ => C290 hw5 e hk h hH, fun z => ⟨fun _ => C290 hw5 e hk h hH, fun z5 => ⟨fun _ => C290 hw5 e hk h hH, fun z6 => ?_⟩⟩⟩
  have k5 : cK c = 5 := by
    have := hW.1.1
    rw [wI_eq (by omega) (by omega)] at z5
    omega
  rcases pek_ok hW with ⟨z1, _⟩ | ⟨z1, z2, _, z3, _⟩
  · rw [z1] at z
    exact absurd (by decide) z
  · rw [wI_eq (z := lastN n L) (by omega) (by omega), wI_eq (z := pek n L) (by omega) (by omega)] at z6
    by_cases h0 : n = 0
    · have e1 : lastN n L = -1 := if_pos h0
      omega
    · have e1 := last5 hW k5 h0
      have e2 := pek5 hW k5 z3
      have e3 := pLast_lt (n := n) (by omega)
      rw [e1, e2] at z6
      generalize pLast n = p at *
      generalize pAt n = q at *
      omega
theorem C192 {d w cl n : Nat} {x y op : Int} {c : CS} {L : List Int} {H : HS} {Q : Option AV → AMem → Prop} {M : AMem} (hw5 : w < 5) (e : H.2.1 w = (c, cl, n, L)) (hk : cK c ≠ -1) (h : ∀ M', HIs M' H → Q (some (vI 1)) M') (hH : HIs M H) :
    RunQ (d + 40) m_L_isCourse 192 [some (vR 3 0), some (vI (w : Int)), some (vI x), some (vI y), some (vI (cK c)), some (vL (dig H)), none, some (vI (n : Int)), some (vI ((wq c n L).length : Int)), some (vI (lastN n L)), some (vI op), none, none] [] M Q := by
  have hW := hH.e_wok hw5 e
  have hl := lastN_ok hW
  refine T_L_isCourse_192 ?_
  refine e_peek (d := d + 29) hw5 e hH ?_
  refine e_ofWell (q := 7) (d := d + 29) hw5 e (by omega) hH ?_
  have e7 : ofW c cl n L 7 = if cK c ≠ -1 ∧ (100 ≤ n ∨ L.length ≤ n) then 1 else 0 := rfl
  have hc := hW.1.1
  rw [e7]
  rcases pek_ok hW with ⟨z1, z2⟩ | ⟨z1, z2, z3, z4, z5, z6⟩
  · rw [if_pos ⟨hk, z2⟩]
    have hp : wI (pek n L) = -9 := by rw [z1]; decide
    rw [hp]
    refine ⟨fun z => absurd rfl z, fun _ => ⟨fun _ => ⟨fun _ => C270 hw5 e hk h hH, fun z => absurd (by decide) z⟩, fun z => absurd (by decide : ¬ wI 1 = 0) z⟩⟩
  · rw [if_neg (fun z => by omega)]
    have hp : wI (pek n L) = pek n L := wI_eq (by omega) (by omega)
    have hq : wI (lastN n L) = lastN n L := wI_eq (by omega) (by omega)
    rw [hp, hq]
    refine ⟨fun _ => ⟨fun _ => ⟨fun z => by omega, fun _ => ⟨fun _ => C270 hw5 e hk h hH, fun k5 => ?_⟩⟩, fun z => absurd (by decide : ¬ wI 0 = 1) z⟩, fun z => absurd (fun z => by omega) z⟩
    have k5 : cK c ≠ 5 := by
      rw [wI_eq (by omega) (by omega)] at k5
      omega
    refine e_waits (d := d + 29) hw5 e (by omega) hH hk ?_
    have h1 := wait_some hW k5 z5
    rw [← z6] at h1
    have h2 := wq_len hW
    have h3 : (wq c n L).countP (fun x => decide (x / 1024 ≤ pek n L)) ≤ (wq c n L).length := List.countP_le_length
    have h4 : (wq c n L).countP (fun x => decide (x / 1024 ≤ pek n L)) < 2147483648 := by omega
    rw [w_n h4]
    refine ⟨fun z => by omega, fun _ => ⟨fun _ => ⟨fun _ => C270 hw5 e hk h hH, fun z => by omega⟩, fun z => ?_⟩⟩
    refine e_waits (d := d + 29) hw5 e (by omega) hH hk ?_
    rw [wait_none hW (Or.inr (Or.inr ⟨k5, z5, by rw [← pek_num z4 z5]; omega⟩))]
    exact ⟨fun z => absurd (by decide : wI ((0 : Nat) : Int) = 0) z, fun _ => ⟨fun _ => C270 hw5 e hk h hH, fun z => by omega⟩⟩
theorem C166 {d w cl n : Nat} {x y op : Int} {c : CS} {L : List Int} {H : HS} {Q : Option AV → AMem → Prop} {M : AMem} (hw5 : w < 5) (e : H.2.1 w = (c, cl, n, L)) (hk : cK c ≠ -1) (h : ∀ M', HIs M' H → Q (some (vI 1)) M') (ho : op = if cl = 0 then 1 else 0) (hH : HIs M H) :
    RunQ (d + 40) m_L_isCourse 166 [some (vR 3 0), some (vI (w : Int)), some (vI x), some (vI y), some (vI (cK c)), some (vL (dig H)), none, some (vI (n : Int)), some (vI ((wq c n L).length : Int)), some (vI (lastN n L)), some (vI op), none, none] [] M Q := by
  have hW := hH.e_wok hw5 e
  have hl := lastN_ok hW
  refine T_L_isCourse_166 ⟨fun _ => C192 hw5 e hk h hH, fun z => ⟨fun _ => C192 hw5 e hk h hH, fun z0 => ?_⟩⟩
  rw [wI_eq (z := lastN n L) (by omega) (by omega)] at z
  have hcl : cl = 0 := by
    by_cases hcl : cl = 0
    · exact hcl
    · rw [if_neg hcl] at ho
      rw [ho] at z0
      exact absurd (by decide) z0
  refine e_upTo (d := d + 19) hw5 e (by omega) hH hk (fun z5 => by have := hl.2.2.2 z5; omega) ?_
  refine ⟨fun _ => C192 hw5 e hk h hH, fun z1 => ?_⟩
  have hL := hW.2.2.2.1 hcl
  have h0 := hl.2.2.1 (by omega)
  have hlt := cnt_lt (L := L) (by rw [hL]; exact crs_srt hW.1) h0 hW.2.2.1
  have hu := up_le (v := lastN n L - 1) hW.1
  have hn := hW.2.1
  rw [w_n (by omega), w_n (by omega)] at z1
  have e1 : up c (lastN n L - 1) = L.countP (fun x => decide (x / 1024 ≤ lastK n L / 1024 - 1)) := by
    unfold up lastN
    rw [if_neg h0, ← hL]
  omega
theorem C128 {d w cl n : Nat} {x y op : Int} {c : CS} {L : List Int} {H : HS} {Q : Option AV → AMem → Prop} {M : AMem} (hw5 : w < 5) (e : H.2.1 w = (c, cl, n, L)) (hk : cK c ≠ -1) (h : ∀ M', HIs M' H → Q (some (vI 1)) M') (ho : op = if cl = 0 then 1 else 0) (hH : HIs M H) :
    RunQ (d + 40) m_L_isCourse 128 [some (vR 3 0), some (vI (w : Int)), some (vI x), some (vI y), some (vI (cK c)), some (vL (dig H)), none, some (vI (n : Int)), some (vI ((wq c n L).length : Int)), some (vI (lastN n L)), some (vI op), none, none] [] M Q := by
  have hW := hH.e_wok hw5 e
  have hl := lastN_ok hW
  refine T_L_isCourse_128 ⟨fun _ => C166 hw5 e hk h ho hH, fun z => ⟨fun _ => C166 hw5 e hk h ho hH, fun z0 => ?_⟩⟩
  rw [wI_eq (z := lastN n L) (by omega) (by omega)] at z
  have hcl : cl = 0 := by
    by_cases hcl : cl = 0
    · exact hcl
    · rw [if_neg hcl] at ho
      rw [ho] at z0
      exact absurd (by decide) z0
  refine e_upTo (d := d + 19) hw5 e (by omega) hH hk (fun z5 => by have := hl.2.2.2 z5; omega) ?_
  have hL := hW.2.2.2.1 hcl
  have h0 := hl.2.2.1 (by omega)
  have hge := cnt_ge (L := L) (by rw [hL]; exact crs_srt hW.1) h0 hW.2.2.1
  have hu := up_le (v := lastN n L) hW.1
  have hn := hW.2.1
  have e1 : up c (lastN n L) = L.countP (fun x => decide (x / 1024 ≤ lastK n L / 1024)) := by
    unfold up lastN
    rw [if_neg h0, ← hL]
  refine ⟨fun z1 => ?_, fun _ => ?_⟩
  · rw [w_n (by omega), w_n (by omega)] at z1
    omega
  · rw [show (n : Int) - 1 = ((n - 1 : Nat) : Int) from by omega]
    refine e_nth (d := d + 29) hw5 e (by omega) hH hk fun M' h' => ?_
    rw [← hL, nth_last h0 hn hW.2.2.1]
    exact ⟨fun _ => C166 hw5 e hk h ho h', fun z => absurd rfl z⟩
theorem C60 {d w cl n : Nat} {x y op : Int} {c : CS} {L : List Int} {H : HS} {Q : Option AV → AMem → Prop} {M : AMem} (hw5 : w < 5) (e : H.2.1 w = (c, cl, n, L)) (hk : cK c ≠ -1) (h : ∀ M', HIs M' H → Q (some (vI 1)) M') (ho : op = if cl = 0 then 1 else 0) (hH : HIs M H) :
    RunQ (d + 40) m_L_isCourse 60 [some (vR 3 0), some (vI (w : Int)), some (vI x), some (vI y), some (vI (cK c)), some (vL (dig H)), none, some (vI (n : Int)), some (vI ((wq c n L).length : Int)), some (vI (lastN n L)), none, none, none] [vI op] M Q := by
  have hW := hH.e_wok hw5 e
  have hl := lastN_ok hW
  have hq := wq_len hW
  have hc := hW.1.1
  refine T_L_isCourse_60 ?_
  refine e_ofWell (q := 8) (d := d + 29) hw5 e (by omega) hH ?_
  have e8 : ofW c cl n L 8 = (climit c n : Nat) := rfl
  have hm := climit_le hW
  rw [e8, w_n (by omega), w_n (by omega)]
  refine ⟨fun z => by omega, fun _ => ?_⟩
  refine e_waits (d := d + 29) hw5 e (by omega) hH hk ?_
  rw [wait_max hW, w_n (by omega)]
  refine ⟨fun _ => ?_, fun z => absurd rfl z⟩
  rw [wI_eq (z := lastN n L) (by omega) (by omega), wI_eq (z := cK c) (by omega) (by omega)]
  have tail : ∀ z : ¬ lastN n L ≤ 0, CallI (d + 39) m_H_waits [vR 3 0, vI (w : Int), vI (lastN n L - 1)] M (fun y6 M5 => ((wI y6 = 0) → RunQ (d + 40) m_L_isCourse 128 [some (vR 3 0), some (vI (w : Int)), some (vI x), some (vI y), some (vI (cK c)), some (vL (dig H)), none, some (vI (n : Int)), some (vI ((wq c n L).length : Int)), some (vI (lastN n L)), some (vI op), none, none] [] M5 Q) ∧ (¬ (wI y6 = 0) → Q (some (vI 0)) M5)) := by
    intro z
    refine e_waits (d := d + 29) hw5 e (by omega) hH hk ?_
    rw [wait_none hW (Or.inl (by omega))]
    exact ⟨fun _ => C128 hw5 e hk h ho hH, fun z => absurd (by decide : wI ((0 : Nat) : Int) = 0) z⟩
  refine ⟨fun _ => ⟨fun _ => C128 hw5 e hk h ho hH, tail⟩, fun z => ⟨fun _ => ⟨fun _ => C128 hw5 e hk h ho hH, tail⟩, fun z5 => ?_⟩⟩
  refine e_waits (d := d + 29) hw5 e (by omega) hH hk ?_
  rw [wait_none hW (Or.inr (Or.inl ⟨by omega, Int.le_refl _⟩))]
  exact ⟨fun z => absurd (by decide : wI ((0 : Nat) : Int) = 0) z, fun _ => ⟨fun _ => C128 hw5 e hk h ho hH, tail⟩⟩
theorem S_isCourse {d w : Nat} {x y : Int} {H : HS} {M : AMem} {Q : Int → AMem → Prop} (hw5 : w < 5) (hH : HIs M H) (h : ∀ M', HIs M' H → Q 1 M') : CallI (d + 40) m_L_isCourse [vR 3 0, vI (w : Int), vI x, vI y] M Q := by
  obtain ⟨c, cl, n, L, e⟩ : ∃ c cl n L, H.2.1 w = (c, cl, n, L) := ⟨_, _, _, _, rfl⟩
  have hW := hH.e_wok hw5 e
  have hc := hW.1.1
  refine T_L_isCourse_0 ?_
  refine e_ofWell (q := 0) (d := d + 29) hw5 e (by omega) hH ?_
  have e0 : ofW c cl n L 0 = cK c := rfl
  rw [e0, wI_eq (z := cK c) (by omega) (by omega)]
  refine ⟨fun z => ?_, fun _ => ⟨_, rfl, h _ hH⟩⟩
  refine S_digest (d := d + 9) hH fun M1 hH => ?_
  refine e_ofWell (q := 1) (d := d + 29) hw5 e (by omega) hH ?_
  refine e_ofWell (q := 2) (d := d + 29) hw5 e (by omega) hH ?_
  refine e_ofWell (q := 3) (d := d + 29) hw5 e (by omega) hH ?_
  refine e_ofWell (q := 9) (d := d + 29) hw5 e (by omega) hH ?_
  have e9 : ofW c cl n L 9 = cl := rfl
  have hcl : cl ≤ 6 := by
    by_cases e : cl = 0
    · omega
    · have := hW.2.2.2.2.2.2 e
      omega
  rw [e9, w_n (by omega)]
  have hk : cK c ≠ -1 := by omega
  exact ⟨fun z => C60 hw5 e hk (fun M' h' => ⟨_, rfl, h _ h'⟩) (by rw [if_neg (by omega)]) hH, fun z => C60 hw5 e hk (fun M' h' => ⟨_, rfl, h _ h'⟩) (by rw [if_pos (by omega)]) hH⟩
