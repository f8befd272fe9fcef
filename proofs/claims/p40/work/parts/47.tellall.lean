/-- tell, of every kind -/
theorem S_tellA {d w cl n : Nat} {c : CS} {L : List Int} {M : AMem} {Q : Int → AMem → Prop} (hw : w < 7) (hW : WIs M w c cl n L) (hn : n < 100) (hl : n < L.length)
    (h : ∀ M', WIs M' w c cl (n + 1) L → TF w M M' → Q (L[n] / 1024) M') : CallI (d + 4) m_W_tell [vR 2 w] M Q := by
  by_cases h5 : cK c = 5
  · obtain ⟨w2, w3, w4, w5, w6, w7, wR, wQ, wO⟩ := id hW
    obtain ⟨e1, e2⟩ := L5_len wO h5
    have hat := L5_at e1 hl (show n < 109 by omega)
    have hp := (pAt_mem (show n < 109 by omega)).1
    refine T_W_tell_0 (ok2 hw) ?_
    rw [w2, h5, w6]
    refine ⟨fun z => absurd (by decide) z, fun _ => ?_⟩
    refine S_tellPrime (n := n) hw ((aup_n (by omega)).trans (w2.trans h5)) ((aup_n (by omega)).trans (w7.trans (lastK5 e1 (by omega)))) hn ?_ (fun M1 M2 q1 q2 q3 => ?_)
    · have : wq c n L = pq n := if_pos h5
      rw [this] at wQ
      exact wQ.aup2
    · have g : ∀ s, s ≠ 6 → s ≠ 7 → M2 2 w s = M 2 w s := fun s a b => q2.wl.trans ((aup_n (by omega)).trans (q1.wl.trans (aup_n (by omega))))
      have g6 : M2 2 w 6 = (n : Int) + 1 := q2.wl.trans ((aup_n (by omega)).trans (q1.wl.trans (aup_s _ _ _ _ _)))
      have g7 : M2 2 w 7 = ((pAt n : Nat) : Int) * 1025 := q2.wl.trans (aup_s _ _ _ _ _)
      have t : TF w M M2 := ((TF.aup.tr q1.tf).tr TF.aup).tr q2.tf
      rw [g7]
      refine S_numberOf (by unfold kOK; omega) ⟨_, rfl, ?_⟩
      rw [← hat]
      refine h M2 ⟨(g 2 (by omega) (by omega)).trans w2, (g 3 (by omega) (by omega)).trans w3, (g 4 (by omega) (by omega)).trans w4, (g 5 (by omega) (by omega)).trans w5, g6, ?_, t.rows wR, ?_, wO.tell hn hl⟩ t
      · rw [lastK_s hl, hat]
        exact g7
      · rw [show wq c (n + 1) L = pq (n + 1) from if_pos h5]
        exact q3
  · exact S_tell hw hW h5 hn hl h
theorem not_dry {n : Nat} {L : List Int} (h : ¬ dry n L) : n < 100 ∧ n < L.length := by
  unfold dry at h
  omega
theorem WIs.num {M : AMem} {w cl n : Nat} {c : CS} {L : List Int} (h : WIs M w c cl n L) (hl : n < L.length) : 0 ≤ L[n] / 1024 ∧ L[n] / 1024 < 1000000 := by
  have := crs_ok h.2.2.2.2.2.2.2.2.1 (h.2.2.2.2.2.2.2.2.sub _ (List.getElem_mem hl))
  omega
/-- tellBelow -/
theorem S_tellBelow {d w cl n tm : Nat} {bd : Int} {c : CS} {L : List Int} {M : AMem} {Q : Int → AMem → Prop} (hw : w < 7) (hW : WIs M w c cl n L) (hb : 0 ≤ bd ∧ bd ≤ 1000000) (ht : tm ≤ 1000)
    (h : ∀ (k : Nat) (M' : AMem), k ≤ tm → WIs M' w c cl (n + k) L → TF w M M' → (∀ i (hi : i < L.length), n ≤ i → i < n + k → L[i] / 1024 < bd) → (k = tm ∨ dry (n + k) L ∨ ∃ hi : n + k < L.length, bd ≤ L[n + k] / 1024) → Q (k : Int) M') :
    CallI (d + 5) m_W_tellBelow [vR 2 w, vI bd, vI (tm : Int)] M Q := by
  refine T_W_tellBelow_0 (ok2 hw) ?_
  have eb : wI bd = bd := wI_eq (by omega) (by omega)
  have loop : ∀ (f k : Nat) (M1 : AMem), k + f = tm → WIs M1 w c cl (n + k) L → TF w M M1 → (∀ i (hi : i < L.length), n ≤ i → i < n + k → L[i] / 1024 < bd) →
      RunQ (d + 5) m_W_tellBelow 2 [some (vR 2 w), some (vI bd), some (vI (tm : Int)), some (vI (k : Int))] [] M1 (fun v M1 => ∃ x, v = some (vI x) ∧ Q x M1) := by
    intro f
    induction f with
    | zero =>
      intro k M1 hk hI hT hL
      refine T_W_tellBelow_2 (ok2 hw) ⟨fun _ => ⟨_, rfl, h k M1 (by omega) hI hT hL (Or.inl (by omega))⟩, fun z => ?_⟩
      rw [w_n (show tm < 2147483648 by omega), w_n (show k < 2147483648 by omega)] at z
      omega
    | succ f ih =>
      intro k M1 hk hI hT hL
      refine T_W_tellBelow_2 (ok2 hw) ?_
      rw [w_n (show tm < 2147483648 by omega), w_n (show k < 2147483648 by omega)]
      refine ⟨fun z => absurd z (by omega), fun _ => ?_⟩
      refine S_isDry hw hI (fun hd => ⟨fun _ => ⟨_, rfl, h k M1 (by omega) hI hT hL (Or.inr (Or.inl hd))⟩, fun z => absurd (by decide) z⟩) (fun hd => ⟨fun z => absurd rfl z, fun _ => ?_⟩)
      obtain ⟨hd1, hd2⟩ := not_dry hd
      have hnum := hI.num hd2
      refine S_nextNumber hw hI hd1 hd2 ?_
      rw [eb, wI_eq (z := L[n + k] / 1024) (by omega) (by omega)]
      refine ⟨fun z => ⟨_, rfl, h k M1 (by omega) hI hT hL (Or.inr (Or.inr ⟨hd2, z⟩))⟩, fun z => ?_⟩
      refine S_tellA hw hI hd1 hd2 (fun M2 q1 q2 => ?_)
      rw [show (k : Int) + 1 = ((k + 1 : Nat) : Int) from rfl]
      refine ih (k + 1) M2 (by omega) q1 (hT.tr q2) (fun i hi h1 h2 => ?_)
      by_cases hik : i = n + k
      · subst hik
        omega
      · exact hL i hi h1 (by omega)
  exact loop tm 0 M (by omega) hW TF.rf (fun i hi h1 h2 => by omega)
