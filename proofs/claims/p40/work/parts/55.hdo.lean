/-! THE HOUSE: what is done with its wells -/
theorem HIs.cR {M : AMem} {H : HS} (h : HIs M H) {w : Nat} (hw5 : w < 5) : cOK (H.2.1 w).1 := (h.well hw5).2.2.2.2.2.2.2.2.1
theorem HIs.wok {M : AMem} {H : HS} (h : HIs M H) {w : Nat} (hw5 : w < 5) : WOK (H.2.1 w).1 (H.2.1 w).2.1 (H.2.1 w).2.2.1 (H.2.1 w).2.2.2 := (h.well hw5).2.2.2.2.2.2.2.2
theorem cOK_0 {s : Int} {R : Nat → List Int} (hs : 1 ≤ s ∧ s < 64) (hR : ∀ j, j < 6 → rOK (R j)) : cOK (0, s, 0, R) := by
  unfold cOK cK cS cF cR
  dsimp only
  exact ⟨⟨by omega, by omega⟩, ⟨by omega, hs.2⟩, Or.inl rfl, hR, fun z => by omega, fun _ => hs.1⟩
theorem cOK_5 {R : Nat → List Int} (hR : ∀ j, j < 6 → rOK (R j)) : cOK (5, 0, 0, R) := by
  unfold cOK cK cS cF cR
  dsimp only
  exact ⟨⟨by omega, by omega⟩, ⟨by omega, by omega⟩, Or.inl rfl, hR, fun z => by omega, fun z => by omega⟩
theorem cOK_m {R : Nat → List Int} (hR : ∀ j, j < 6 → rOK (R j)) : cOK (-1, 0, 0, R) := by
  unfold cOK cK cS cF cR
  dsimp only
  exact ⟨⟨by omega, by omega⟩, ⟨by omega, by omega⟩, Or.inl rfl, hR, fun z => by omega, fun z => by omega⟩
theorem S_hbegin {d w : Nat} {c : CS} {H : HS} {M : AMem} {Q : AMem → Prop} (hw5 : w < 5) (hc : cOK c) (eR : cR c = cR (H.2.1 w).1) (hH : HIs M H)
    (h : ∀ M', HIs M' (hw H w (c, 0, 0, crs c)) → Q M') : CallV (d + 4) m_W_begin [vR 2 w, vI (cK c), vI (cS c), vI (cF c)] M Q := by
  have hR := (hH.well hw5).2.2.2.2.2.2.1
  rw [← eR] at hR
  exact S_begin (by omega) hc hR fun M' h' f' => h _ (hH.sw hw5 f'.fr h')
theorem S_hpowers {d w s : Nat} {H : HS} {M : AMem} {Q : Int → AMem → Prop} (hw5 : w < 5) (hs : 1 ≤ s ∧ s < 64) (hH : HIs M H)
    (h : ∀ z M', HIs M' (hw H w ((0, (s : Int), 0, cR (H.2.1 w).1), 0, 0, crs (0, (s : Int), 0, cR (H.2.1 w).1))) → Q z M') : CallI (d + 10) m_H_powers [vR 3 0, vI (w : Int), vI (s : Int)] M Q := by
  refine T_H_powers_0 (S_findWell hw5 ⟨ok2 (by omega), S_within (by omega) (by omega) ?_⟩)
  exact S_hbegin (c := (0, (s : Int), 0, cR (H.2.1 w).1)) hw5 (cOK_0 (by omega) (hH.cR hw5).2.2.2.1) rfl hH fun M' h' => ⟨_, rfl, h _ _ h'⟩
theorem S_hprimes {d w : Nat} {H : HS} {M : AMem} {Q : Int → AMem → Prop} (hw5 : w < 5) (hH : HIs M H)
    (h : ∀ z M', HIs M' (hw H w ((5, 0, 0, cR (H.2.1 w).1), 0, 0, crs (5, 0, 0, cR (H.2.1 w).1))) → Q z M') : CallI (d + 10) m_H_primes [vR 3 0, vI (w : Int)] M Q := by
  refine T_H_primes_0 (S_findWell hw5 ⟨ok2 (by omega), ?_⟩)
  exact S_hbegin (c := (5, 0, 0, cR (H.2.1 w).1)) hw5 (cOK_5 (hH.cR hw5).2.2.2.1) rfl hH fun M' h' => ⟨_, rfl, h _ _ h'⟩
theorem S_hdrop {d w : Nat} {H : HS} {M : AMem} {Q : Int → AMem → Prop} (hw5 : w < 5) (hH : HIs M H)
    (h : ∀ z M', HIs M' (hw H w ((-1, 0, 0, cR (H.2.1 w).1), 0, 0, crs (-1, 0, 0, cR (H.2.1 w).1))) → Q z M') : CallI (d + 10) m_H_drop [vR 3 0, vI (w : Int)] M Q := by
  refine T_H_drop_0 (S_findWell hw5 ⟨ok2 (by omega), ?_⟩)
  exact S_hbegin (c := (-1, 0, 0, cR (H.2.1 w).1)) hw5 (cOK_m (hH.cR hw5).2.2.2.1) rfl hH fun M' h' => ⟨_, rfl, h _ _ h'⟩
def g3 (A B C : List Int) (R : Nat → List Int) : Nat → List Int := fun j => if j = 0 then A else if j = 1 then B else if j = 2 then C else R j
theorem S_hsums {d w a b : Nat} {H : HS} {M : AMem} {Q : Int → AMem → Prop} (hw5 : w < 5) (ha : a < 6) (hb : b < 6) (hH : HIs M H)
    (h : ∀ z M', HIs M' (hw H w ((1, 0, 0, g3 (H.1 a) (H.1 b) [0] (cR (H.2.1 w).1)), 0, 0, crs (1, 0, 0, g3 (H.1 a) (H.1 b) [0] (cR (H.2.1 w).1)))) → Q z M') : CallI (d + 10) m_H_sums [vR 3 0, vI (w : Int), vI (a : Int), vI (b : Int)] M Q := by
  refine T_H_sums_0 (S_findWell hw5 ⟨ok2 (by omega), S_findRow ha ⟨ok1 (by omega), S_findRow hb ⟨ok1 (by omega), ?_⟩⟩⟩)
  exact S_beginGrid (by omega) (Or.inl rfl) (by omega) (by omega) (by omega) (hH.row ha) (hH.row hb) hH.2.1 (fun _ => rfl) (hH.well hw5).2.2.2.2.2.2.1 fun M' h' f' => ⟨_, rfl, h _ _ (hH.sw hw5 f' h')⟩
theorem S_htable {d w a b : Nat} {H : HS} {M : AMem} {Q : Int → AMem → Prop} (hw5 : w < 5) (ha : a < 6) (hb : b < 6) (hH : HIs M H)
    (h : ∀ z M', HIs M' (hw H w ((4, 0, 0, g3 (H.1 a) (H.1 b) [0] (cR (H.2.1 w).1)), 0, 0, crs (4, 0, 0, g3 (H.1 a) (H.1 b) [0] (cR (H.2.1 w).1)))) → Q z M') : CallI (d + 10) m_H_table [vR 3 0, vI (w : Int), vI (a : Int), vI (b : Int)] M Q := by
  refine T_H_table_0 (S_findWell hw5 ⟨ok2 (by omega), S_findRow ha ⟨ok1 (by omega), S_findRow hb ⟨ok1 (by omega), ?_⟩⟩⟩)
  exact S_beginGrid (by omega) (Or.inr (Or.inr rfl)) (by omega) (by omega) (by omega) (hH.row ha) (hH.row hb) hH.2.1 (fun _ => rfl) (hH.well hw5).2.2.2.2.2.2.1 fun M' h' f' => ⟨_, rfl, h _ _ (hH.sw hw5 f' h')⟩
theorem S_htriples {d w a b c : Nat} {H : HS} {M : AMem} {Q : Int → AMem → Prop} (hw5 : w < 5) (ha : a < 6) (hb : b < 6) (hc : c < 6) (hH : HIs M H)
    (h : ∀ z M', HIs M' (hw H w ((2, 0, 0, g3 (H.1 a) (H.1 b) (H.1 c) (cR (H.2.1 w).1)), 0, 0, crs (2, 0, 0, g3 (H.1 a) (H.1 b) (H.1 c) (cR (H.2.1 w).1)))) → Q z M') : CallI (d + 10) m_H_triples [vR 3 0, vI (w : Int), vI (a : Int), vI (b : Int), vI (c : Int)] M Q := by
  refine T_H_triples_0 (S_findWell hw5 ⟨ok2 (by omega), S_findRow ha ⟨ok1 (by omega), S_findRow hb ⟨ok1 (by omega), S_findRow hc ⟨ok1 (by omega), ?_⟩⟩⟩⟩)
  exact S_beginGrid (by omega) (Or.inr (Or.inl rfl)) (by omega) (by omega) (by omega) (hH.row ha) (hH.row hb) (hH.row hc) (fun z => absurd rfl z) (hH.well hw5).2.2.2.2.2.2.1 fun M' h' f' => ⟨_, rfl, h _ _ (hH.sw hw5 f' h')⟩
theorem S_hmerge {d w s : Nat} {fl : Int} {H : HS} {M : AMem} {Q : Int → AMem → Prop} (hw5 : w < 5) (hs : 1 ≤ s ∧ s < 64) (hfl : fl = 0 ∨ fl = 1) (hH : HIs M H)
    (h : ∀ z M', HIs M' (hw H w ((3, (s : Int), fl, H.1), 0, 0, crs (3, (s : Int), fl, H.1))) → Q z M') : CallI (d + 10) m_H_merge [vR 3 0, vI (w : Int), vI (s : Int), vI fl] M Q := by
  refine T_H_merge_0 (S_findWell hw5 ⟨ok2 (by omega), S_within (by omega) (by omega) ?_⟩)
  exact S_beginMerged (by omega) hs.2 hfl hH.1 fun M' h' f' => ⟨_, rfl, h _ _ (hH.sw hw5 f' h')⟩
def nxt (n : Nat) (L : List Int) : Nat := if n < 100 ∧ n < L.length then n + 1 else n
theorem S_hdraw {d w : Nat} {H : HS} {M : AMem} {Q : Int → AMem → Prop} (hw5 : w < 5) (hH : HIs M H)
    (h : ∀ M', HIs M' (hw H w ((H.2.1 w).1, (H.2.1 w).2.1, nxt (H.2.1 w).2.2.1 (H.2.1 w).2.2.2, (H.2.1 w).2.2.2)) → Q (pek (H.2.1 w).2.2.1 (H.2.1 w).2.2.2) M') : CallI (d + 10) m_H_draw [vR 3 0, vI (w : Int)] M Q := by
  refine T_H_draw_0 (S_findWell hw5 ⟨ok2 (by omega), ?_⟩)
  have hW := hH.well hw5
  refine S_isDry (by omega) hW (fun e1 => ?_) (fun e1 => ?_)
  · have e2 : nxt (H.2.1 w).2.2.1 (H.2.1 w).2.2.2 = (H.2.1 w).2.2.1 := by
      unfold nxt dry at *
      rw [if_neg (by omega)]
    rw [pek_out e1, e2] at h
    exact ⟨fun z => absurd z (by decide), fun _ => ⟨_, rfl, h _ (hH.sw hw5 Fr.rf hW)⟩⟩
  · obtain ⟨a, b⟩ := not_dry e1
    have e2 : nxt (H.2.1 w).2.2.1 (H.2.1 w).2.2.2 = (H.2.1 w).2.2.1 + 1 := if_pos ⟨a, b⟩
    rw [pek_in a b, e2] at h
    exact ⟨fun _ => S_tellA (by omega) hW a b fun M' h' f' => ⟨_, rfl, h _ (hH.sw hw5 f'.fr h')⟩, fun z => absurd (by decide : wI 0 = 0) z⟩
theorem S_hdraws {d w t : Nat} {H : HS} {M : AMem} {Q : Int → AMem → Prop} (hw5 : w < 5) (ht : 1 ≤ t ∧ t ≤ 20) (hH : HIs M H)
    (h : ∀ z M' H', HIs M' H' → Q z M') : CallI (d + 10) m_H_draws [vR 3 0, vI (w : Int), vI (t : Int)] M Q := by
  refine T_H_draws_0 (S_findWell hw5 ⟨ok2 (by omega), S_within (by omega) (by omega) ?_⟩)
  have hW := hH.well hw5
  refine S_isEmpty (by omega) hW (fun e => ?_) (fun e => ?_)
  · exact ⟨fun z => absurd z (by decide), fun _ => ⟨_, rfl, h _ _ _ hH⟩⟩
  · refine ⟨fun _ => ?_, fun z => absurd (by decide : wI 0 = 0) z⟩
    exact S_tellBelow (by omega) hW (by omega) (by omega) fun k M' _ h' f' _ _ => ⟨_, rfl, h _ _ _ (hH.sw (s := ((H.2.1 w).1, (H.2.1 w).2.1, (H.2.1 w).2.2.1 + k, (H.2.1 w).2.2.2)) hw5 f'.fr h')⟩
theorem S_hskip {d w : Nat} {v : Int} {H : HS} {M : AMem} {Q : Int → AMem → Prop} (hw5 : w < 5) (hv : 0 ≤ v ∧ v ≤ 1000000) (hH : HIs M H)
    (h : ∀ z M' H', HIs M' H' → Q z M') : CallI (d + 10) m_H_skip [vR 3 0, vI (w : Int), vI v] M Q := by
  refine T_H_skip_0 (S_findWell hw5 ⟨ok2 (by omega), S_within (by omega) (by omega) ?_⟩)
  have hW := hH.well hw5
  refine S_isEmpty (by omega) hW (fun e => ?_) (fun e => ?_)
  · exact ⟨fun z => absurd z (by decide), fun _ => ⟨_, rfl, h _ _ _ hH⟩⟩
  · refine ⟨fun _ => ?_, fun z => absurd (by decide : wI 0 = 0) z⟩
    exact S_tellBelow (tm := 20) (by omega) hW (by omega) (by omega) fun k M' _ h' f' _ _ => ⟨_, rfl, h _ _ _ (hH.sw (s := ((H.2.1 w).1, (H.2.1 w).2.1, (H.2.1 w).2.2.1 + k, (H.2.1 w).2.2.2)) hw5 f'.fr h')⟩
theorem S_hcopy {d w t : Nat} {H : HS} {M : AMem} {Q : Int → AMem → Prop} (hw5 : w < 5) (ht : t < 5) (hH : HIs M H)
    (h : ∀ M', HIs M' (hw H t (H.2.1 w)) → Q ((wq (H.2.1 w).1 (H.2.1 w).2.2.1 (H.2.1 w).2.2.2).length : Int) M') : CallI (d + 10) m_H_copy [vR 3 0, vI (w : Int), vI (t : Int)] M Q := by
  refine T_H_copy_0 (S_findWell hw5 ⟨ok2 (by omega), S_findWell ht ⟨ok2 (by omega), ?_⟩⟩)
  refine S_become (by omega) (by omega) (hH.well hw5) fun M' h' f' => ?_
  rw [h'.2.2.2.2.2.2.2.1.1]
  exact ⟨_, rfl, h _ (hH.sw ht f' h')⟩
theorem WIs.turn {w cl n : Nat} {c : CS} {L : List Int} {M M' : AMem} (h : WIs M w c cl n L) (hq : QIs M' w (wq c n L)) (f : ∀ k i s, ¬ (k = 0 ∧ i = w) → ¬ (k = 4 ∧ i = w) → M' k i s = M k i s) : WIs M' w c cl n L ∧ TF w M M' := by
  obtain ⟨w2, w3, w4, w5, w6, w7, wR, wQ, wO⟩ := h
  have g : ∀ s, M' 2 w s = M 2 w s := fun s => f 2 w s (by omega) (by omega)
  have ft : TF w M M' := fun k i s _ a b => f k i s a b
  exact ⟨⟨(g 2).trans w2, (g 3).trans w3, (g 4).trans w4, (g 5).trans w5, (g 6).trans w6, (g 7).trans w7, ft.rows wR, hq, wO⟩, ft⟩
theorem hw_self {H : HS} {w : Nat} : hw H w (H.2.1 w) = H := by
  obtain ⟨a, b, c⟩ := H
  unfold hw
  congr 2
  funext v
  by_cases e : v = w
  · rw [if_pos e, e]
  · rw [if_neg e]
theorem hw_at {H : HS} {w : Nat} {s : WS} : (hw H w s).2.1 w = s := if_pos rfl
theorem hw_ne {H : HS} {w v : Nat} {s : WS} (h : v ≠ w) : (hw H w s).2.1 v = H.2.1 v := if_neg h
theorem hw_1 {H : HS} {w : Nat} {s : WS} : (hw H w s).1 = H.1 := rfl
theorem S_hshake {d w : Nat} {H : HS} {M : AMem} {Q : Int → AMem → Prop} (hw5 : w < 5) (hH : HIs M H)
    (h1 : cK (H.2.1 w).1 ≠ -1 → ∀ M', HIs M' H → Q ((wq (H.2.1 w).1 (H.2.1 w).2.2.1 (H.2.1 w).2.2.2).length : Int) M') (h0 : cK (H.2.1 w).1 = -1 → Q (-9) M) : CallI (d + 10) m_H_shake [vR 3 0, vI (w : Int)] M Q := by
  refine T_H_shake_0 (S_findWell hw5 ⟨ok2 (by omega), ?_⟩)
  have hW := hH.well hw5
  refine S_isEmpty (by omega) hW (fun e => ?_) (fun e => ?_)
  · exact ⟨fun z => absurd z (by decide), fun _ => ⟨_, rfl, h0 e⟩⟩
  · refine ⟨fun _ => ?_, fun z => absurd (by decide : wI 0 = 0) z⟩
    refine S_turnOver (by omega) hW.2.2.2.2.2.2.2.1 fun M' q' f' => ?_
    obtain ⟨a, b⟩ := hW.turn q' f'
    rw [q'.1]
    refine ⟨_, rfl, h1 e _ ?_⟩
    have := hH.sw (s := H.2.1 w) hw5 b.fr a
    rw [hw_self] at this
    exact this
theorem S_hanew {d w : Nat} {H : HS} {M : AMem} {Q : Int → AMem → Prop} (hw5 : w < 5) (hH : HIs M H)
    (h1 : cK (H.2.1 w).1 ≠ -1 → ∀ z M', HIs M' (hw H w ((H.2.1 w).1, 0, 0, crs (H.2.1 w).1)) → Q z M') (h0 : cK (H.2.1 w).1 = -1 → Q (-9) M) : CallI (d + 10) m_H_anew [vR 3 0, vI (w : Int)] M Q := by
  refine T_H_anew_0 (S_findWell hw5 ⟨ok2 (by omega), ?_⟩)
  have hW := hH.well hw5
  refine S_isEmpty (by omega) hW (fun e => ?_) (fun e => ?_)
  · exact ⟨fun z => absurd z (by decide), fun _ => ⟨_, rfl, h0 e⟩⟩
  · refine ⟨fun _ => ?_, fun z => absurd (by decide : wI 0 = 0) z⟩
    exact S_restart (by omega) (hH.cR hw5) hW.1 hW.2.1 hW.2.2.1 hW.2.2.2.2.2.2.1 fun M' h' f' => ⟨_, rfl, h1 e _ _ (hH.sw hw5 f'.fr h')⟩
theorem S_hclose {d w r : Nat} {H : HS} {M : AMem} {Q : Int → AMem → Prop} (hw5 : w < 5) (hr6 : r < 6) (hH : HIs M H)
    (h1 : cK (H.2.1 w).1 = 3 → ∀ z cl' M', HIs M' (hw H w ((H.2.1 w).1, cl', (H.2.1 w).2.2.1, clo (H.2.1 w).1 (H.2.1 w).2.2.1 (H.2.1 w).2.2.2 r)) → Q z M') (h0 : cK (H.2.1 w).1 ≠ 3 → Q (-9) M) : CallI (d + 10) m_H_close [vR 3 0, vI (w : Int), vI (r : Int)] M Q := by
  refine T_H_close_0 (S_findWell hw5 ⟨ok2 (by omega), S_place (by omega) (by omega) ?_⟩)
  refine S_closeRow (by omega) (hH.well hw5) hr6 (fun e z cl' M' h' f' => ?_) (fun e => ⟨_, rfl, h0 e⟩)
  exact ⟨_, rfl, h1 e _ _ _ (hH.sw hw5 f'.fr h')⟩
theorem S_hagain {d w : Nat} {H : HS} {M : AMem} {Q : Int → AMem → Prop} (hw5 : w < 5) (hH : HIs M H)
    (h1 : cK (H.2.1 w).1 ≠ -1 → (H.2.1 w).2.1 = 0 → ∀ M', HIs M' (hw H w ((H.2.1 w).1, 0, (H.2.1 w).2.2.1, (H.2.1 w).2.2.2)) → Q (lastN (H.2.1 w).2.2.1 (H.2.1 w).2.2.2) M') (h0 : ¬ (cK (H.2.1 w).1 ≠ -1 ∧ (H.2.1 w).2.1 = 0) → Q (-9) M) : CallI (d + 10) m_H_again [vR 3 0, vI (w : Int)] M Q := by
  refine T_H_again_0 (S_findWell hw5 ⟨ok2 (by omega), ?_⟩)
  have hW := hH.well hw5
  obtain ⟨w2, w3, w4, w5, w6, w7, wR, wQ, wO⟩ := id hW
  have hcl : (H.2.1 w).2.1 ≤ 6 := by
    by_cases e : (H.2.1 w).2.1 = 0
    · omega
    · have := wO.2.2.2.2.2.2 e
      omega
  refine S_isEmpty (by omega) hW (fun e => ?_) (fun e => ?_)
  · exact ⟨fun _ => ⟨_, rfl, h0 (fun z => z.1 e)⟩, fun z => absurd (by decide : ¬ wI 1 = 0) z⟩
  · refine ⟨fun z => absurd (by decide : wI 0 = 0) z, fun _ => ?_⟩
    rw [w5, w_n (show (H.2.1 w).2.1 < 2147483648 by omega), w6]
    refine ⟨fun ec => ?_, fun ec => ⟨_, rfl, h0 (fun z => ec (by omega))⟩⟩
    have e0 : (H.2.1 w).2.1 = 0 := by omega
    have eL := wO.2.2.2.1 e0
    have hn := wO.2.1
    have hl := wO.2.2.1
    refine S_restart (by omega) (hH.cR hw5) hW.1 hW.2.1 hW.2.2.1 wR fun M1 q1 f1 => ?_
    refine S_tellBelow (by omega) q1 (by omega) (by omega) fun k M2 hk q2 f2 _ hx => ?_
    rw [← eL] at q2 hx
    have ek : k = (H.2.1 w).2.2.1 := by
      rcases hx with hx | hx | ⟨hi, hx⟩
      · exact hx
      · unfold dry at hx
        omega
      · have := (crs_ok (hH.cR hw5) (wO.sub _ (List.getElem_mem hi))).2
        omega
    rw [ek, Nat.zero_add] at q2
    refine S_lastNumber (by omega) q2 ?_
    exact ⟨_, rfl, h1 e e0 _ (hH.sw hw5 (f1.fr.tr f2.fr) q2)⟩
