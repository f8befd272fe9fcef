/-! what a step of each sort says -/
abbrev NX : Type := Nat × ALs × List AV × AMem
theorem aLoadI_inv {len n pc i : Nat} {ls ls' : ALs} {st st' : List AV} {M M' : AMem} {pc' : Nat} (h : aLoadI len n pc i ls st M = some (.inl (pc', ls', st', M'))) : len = n ∧ ∃ z, ls[i]? = some (some (vI z)) ∧ pc' = pc + n ∧ ls' = ls ∧ st' = vI z :: st ∧ M' = M := by
  obtain ⟨h1, h⟩ := if_inv h
  obtain ⟨v, h2, h⟩ := gL_inv h
  obtain ⟨z, r, h3, h⟩ := sI_inv h
  cases h3
  obtain ⟨a, b, c, d⟩ := nx_inv h
  exact ⟨h1, z, h2, a, b, c, d⟩
theorem aLoadL_inv {len n pc i : Nat} {ls ls' : ALs} {st st' : List AV} {M M' : AMem} {pc' : Nat} (h : aLoadL len n pc i ls st M = some (.inl (pc', ls', st', M'))) : len = n ∧ ∃ z, ls[i]? = some (some (vL z)) ∧ pc' = pc + n ∧ ls' = ls ∧ st' = vL z :: st ∧ M' = M := by
  obtain ⟨h1, h⟩ := if_inv h
  obtain ⟨v, h2, h⟩ := gL_inv h
  obtain ⟨z, r, h3, h⟩ := sL_inv h
  cases h3
  obtain ⟨a, b, c, d⟩ := nx_inv h
  exact ⟨h1, z, h2, a, b, c, d⟩
theorem aLoadA_inv {len n pc i : Nat} {ls ls' : ALs} {st st' : List AV} {M M' : AMem} {pc' : Nat} (h : aLoadA len n pc i ls st M = some (.inl (pc', ls', st', M'))) : len = n ∧ ∃ k j, ls[i]? = some (some (vR k j)) ∧ pc' = pc + n ∧ ls' = ls ∧ st' = vR k j :: st ∧ M' = M := by
  obtain ⟨h1, h⟩ := if_inv h
  obtain ⟨v, h2, h⟩ := gL_inv h
  obtain ⟨k, j, r, h3, h⟩ := sA_inv h
  cases h3
  obtain ⟨a, b, c, d⟩ := nx_inv h
  exact ⟨h1, k, j, h2, a, b, c, d⟩
theorem aStoreI_inv {len n pc i : Nat} {ls ls' : ALs} {st st' : List AV} {M M' : AMem} {pc' : Nat} (h : aStoreI len n pc i ls st M = some (.inl (pc', ls', st', M'))) : len = n ∧ stOK ls i = true ∧ ∃ z, st = vI z :: st' ∧ pc' = pc + n ∧ ls' = ls.set i (some (vI z)) ∧ M' = M := by
  obtain ⟨h1, h⟩ := if_inv h
  obtain ⟨z, r, h3, h⟩ := sI_inv h
  obtain ⟨a, b, c, d⟩ := nx_inv h
  exact ⟨h1.1, h1.2, z, by rw [h3, c], a, b, d⟩
theorem aStoreA_inv {len n pc i : Nat} {ls ls' : ALs} {st st' : List AV} {M M' : AMem} {pc' : Nat} (h : aStoreA len n pc i ls st M = some (.inl (pc', ls', st', M'))) : len = n ∧ stOK ls i = true ∧ ∃ k j, st = vR k j :: st' ∧ pc' = pc + n ∧ ls' = ls.set i (some (vR k j)) ∧ M' = M := by
  obtain ⟨h1, h⟩ := if_inv h
  obtain ⟨k, j, r, h3, h⟩ := sA_inv h
  obtain ⟨a, b, c, d⟩ := nx_inv h
  exact ⟨h1.1, h1.2, k, j, by rw [h3, c], a, b, d⟩
theorem aStoreL_inv {len n pc i : Nat} {ls ls' : ALs} {st st' : List AV} {M M' : AMem} {pc' : Nat} (h : aStoreL len n pc i ls st M = some (.inl (pc', ls', st', M'))) : len = n ∧ stOK ls i = true ∧ i + 1 < ls.length ∧ ∃ z, st = vL z :: st' ∧ pc' = pc + n ∧ ls' = (ls.set i (some (vL z))).set (i + 1) none ∧ M' = M := by
  obtain ⟨h1, h⟩ := if_inv h
  obtain ⟨z, r, h3, h⟩ := sL_inv h
  obtain ⟨a, b, c, d⟩ := nx_inv h
  exact ⟨h1.1, h1.2.1, h1.2.2, z, by rw [h3, c], a, b, d⟩
theorem aPush_inv {len n pc : Nat} {v : AV} {ls ls' : ALs} {st st' : List AV} {M M' : AMem} {pc' : Nat} (h : aPush len n pc v ls st M = some (.inl (pc', ls', st', M'))) : len = n ∧ pc' = pc + n ∧ ls' = ls ∧ st' = v :: st ∧ M' = M := by
  obtain ⟨h1, h⟩ := if_inv h
  obtain ⟨a, b, c, d⟩ := nx_inv h
  exact ⟨h1, a, b, c, d⟩
theorem aBin_inv {len pc : Nat} {f : Int → Int → Int} {ls ls' : ALs} {st st' : List AV} {M M' : AMem} {pc' : Nat} (h : aBin len pc f ls st M = some (.inl (pc', ls', st', M'))) : len = 1 ∧ ∃ x y r, st = vI y :: vI x :: r ∧ pc' = pc + 1 ∧ ls' = ls ∧ st' = vI (f x y) :: r ∧ M' = M := by
  obtain ⟨h1, h⟩ := if_inv h
  obtain ⟨y, r, h3, h⟩ := sI_inv h
  obtain ⟨x, q, h4, h⟩ := sI_inv h
  obtain ⟨a, b, c, d⟩ := nx_inv h
  exact ⟨h1, x, y, q, by rw [h3, h4], a, b, c, d⟩
theorem aDiv_inv {len pc : Nat} {f : Int → Int → Int} {ls ls' : ALs} {st st' : List AV} {M M' : AMem} {pc' : Nat} (h : aDiv len pc f ls st M = some (.inl (pc', ls', st', M'))) : len = 1 ∧ ∃ x y r, st = vI y :: vI x :: r ∧ ¬ wI y = 0 ∧ pc' = pc + 1 ∧ ls' = ls ∧ st' = vI (f (wI x) (wI y)) :: r ∧ M' = M := by
  obtain ⟨h1, h⟩ := if_inv h
  obtain ⟨y, r, h3, h⟩ := sI_inv h
  obtain ⟨h5, h⟩ := nif_inv h
  obtain ⟨x, q, h4, h⟩ := sI_inv h
  obtain ⟨a, b, c, d⟩ := nx_inv h
  exact ⟨h1, x, y, q, by rw [h3, h4], h5, a, b, c, d⟩
theorem jmp_eq {pc : Nat} {off : Int} (h : jok pc off = true) : (pc : Int) + off = (jmp pc off : Int) := by
  unfold jok at h
  unfold jmp
  simp only [decide_eq_true_eq] at h
  omega
theorem aBr_inv {len pc : Nat} {off : Int} {bb : Bool} {ls ls' : ALs} {st st' : List AV} {M M' : AMem} {pc' : Nat} (h : aBr len pc off bb ls st M = some (.inl (pc', ls', st', M'))) : len = 3 ∧ (pc : Int) + off = (jmp pc off : Int) ∧ pc' = (if bb = true then jmp pc off else pc + 3) ∧ ls' = ls ∧ st' = st ∧ M' = M := by
  obtain ⟨h1, h⟩ := if_inv h
  cases bb with
  | true =>
    obtain ⟨a, b, c, d⟩ := nx_inv h
    exact ⟨h1.1, jmp_eq h1.2, a, b, c, d⟩
  | false =>
    obtain ⟨a, b, c, d⟩ := nx_inv h
    exact ⟨h1.1, jmp_eq h1.2, a, b, c, d⟩
theorem aSwT_inv {pc : Nat} {dflt lo hi : Int} {offs : Array Int} {ls ls' : ALs} {st st' : List AV} {M M' : AMem} {pc' : Nat} (h : aSwT pc dflt lo hi offs ls st M = some (.inl (pc', ls', st', M'))) : ∃ z, st = vI z :: st' ∧ ls' = ls ∧ M' = M ∧ (((wI z < lo ∨ hi < wI z) ∧ (pc : Int) + dflt = (pc' : Int)) ∨ (¬ (wI z < lo ∨ hi < wI z) ∧ ∃ off, offs[(wI z - lo).toNat]? = some off ∧ (pc : Int) + off = (pc' : Int))) := by
  obtain ⟨z, r, h3, h⟩ := sI_inv h
  split at h
  · rename_i hc
    obtain ⟨h1, h⟩ := if_inv h
    obtain ⟨a, b, c, d⟩ := nx_inv h
    exact ⟨z, by rw [h3, c], b, d, Or.inl ⟨hc, by rw [a]; exact jmp_eq h1⟩⟩
  · rename_i hc
    obtain ⟨off, h2, h⟩ := oG_inv h
    obtain ⟨h1, h⟩ := if_inv h
    obtain ⟨a, b, c, d⟩ := nx_inv h
    exact ⟨z, by rw [h3, c], b, d, Or.inr ⟨hc, off, h2, by rw [a]; exact jmp_eq h1⟩⟩
theorem aSwL_inv {pc : Nat} {dflt : Int} {ps : Array (Int × Int)} {ls ls' : ALs} {st st' : List AV} {M M' : AMem} {pc' : Nat} (h : aSwL pc dflt ps ls st M = some (.inl (pc', ls', st', M'))) : (ps.toList.zip (ps.toList.drop 1)).all (fun (a, next) => a.1 < next.1) = true ∧ ∃ z, st = vI z :: st' ∧ ls' = ls ∧ M' = M ∧ (pc : Int) + Op.lookupswitch.offset ps.toList dflt (wI z) = (pc' : Int) := by
  obtain ⟨h1, h⟩ := if_inv h
  obtain ⟨z, r, h3, h⟩ := sI_inv h
  obtain ⟨h2, h⟩ := if_inv h
  obtain ⟨a, b, c, d⟩ := nx_inv h
  exact ⟨h1, z, by rw [h3, c], b, d, by rw [a]; exact jmp_eq h2⟩
/-- the script, as the memory has it -/
def scrM (L : Nat) (xs : Nat → Int32) (M : AMem) : Prop := M 9 1 0 = L ∧ ∀ j : Nat, j < L → Int32.ofInt (M 9 0 j) = xs j
theorem scrM_aup {L : Nat} {xs : Nat → Int32} {M : AMem} (k i j : Nat) (z : Int) (hk : k ≠ 9) (h : scrM L xs M) : scrM L xs (aup M k i j z) := by
  unfold scrM aup at *
  refine ⟨?_, fun q hq => ?_⟩
  · rw [if_neg (fun x => hk x.1.symm)]
    exact h.1
  · rw [if_neg (fun x => hk x.1.symm)]
    exact h.2 q hq
theorem scrM_acopy {L : Nat} {xs : Nat → Int32} {M : AMem} (k i j n : Nat) (hk : k ≠ 9) (h : scrM L xs M) : scrM L xs (acopy M k i j n) := by
  unfold scrM acopy at *
  refine ⟨?_, fun q hq => ?_⟩
  · rw [if_neg (fun x => hk x.1.symm)]
    exact h.1
  · rw [if_neg (fun x => hk x.1.symm)]
    exact h.2 q hq
theorem aup_out {M : AMem} {k i j : Nat} {z : Int} (k' i' q : Nat) (h : k' = k ∧ i' = i → False) : aup M k i j z k' i' q = M k' i' q := by
  unfold aup
  exact if_neg (fun x => h ⟨x.1, x.2.1⟩)
theorem acopy_out {M : AMem} {k i j n : Nat} (k' i' q : Nat) (h : k' = k ∧ i' = j → False) : acopy M k i j n k' i' q = M k' i' q := by
  unfold acopy
  exact if_neg (fun x => h ⟨x.1, x.2.1⟩)
theorem aBlt_inv {len pc bb : Nat} {ls ls' : ALs} {st st' : List AV} {M M' : AMem} {pc' : Nat} (h : aBlt len pc bb ls st M = some (.inl (pc', ls', st', M'))) : len = 3 ∧ (st.map acat).sum ≤ 8 ∧ pc' = pc + 3 ∧ ls' = ls ∧
    ((bb = 0 ∧ ∃ x y r, st = vI y :: vI x :: r ∧ st' = vI (if wI x < wI y then y else x) :: r ∧ M' = M) ∨ (bb = 1 ∧ ∃ x y r, st = vI y :: vI x :: r ∧ st' = vI (if wI y < wI x then y else x) :: r ∧ M' = M) ∨
     (¬ bb = 0 ∧ ¬ bb = 1 ∧ ∃ n k i j, st = vI n :: vI 0 :: vR k j :: vI 0 :: vR k i :: st' ∧ okH k j = true ∧ okH k i = true ∧ (k = 4 ∨ k = 5) ∧ 0 ≤ n ∧ n.toNat ≤ alen k M ∧ M' = acopy M k i j n.toNat)) := by
  obtain ⟨h1, h⟩ := if_inv h
  refine ⟨h1.1, h1.2, ?_⟩
  split at h
  · obtain ⟨y, r, h3, h⟩ := sI_inv h
    obtain ⟨x, q, h4, h⟩ := sI_inv h
    obtain ⟨a, b, c, d⟩ := nx_inv h
    exact ⟨a, b, Or.inl ⟨rfl, x, y, q, by rw [h3, h4], c, d⟩⟩
  · obtain ⟨y, r, h3, h⟩ := sI_inv h
    obtain ⟨x, q, h4, h⟩ := sI_inv h
    obtain ⟨a, b, c, d⟩ := nx_inv h
    exact ⟨a, b, Or.inr (Or.inl ⟨rfl, x, y, q, by rw [h3, h4], c, d⟩)⟩
  · rename_i hb0 hb1
    obtain ⟨n, r1, h3, h⟩ := sI_inv h
    obtain ⟨dp, r2, h4, h⟩ := sI_inv h
    obtain ⟨k, j, r3, h5, o1, h⟩ := sR_inv h
    obtain ⟨sp, r4, h6, h⟩ := sI_inv h
    obtain ⟨k', i, r5, h7, o2, h⟩ := sR_inv h
    obtain ⟨hc, h⟩ := if_inv h
    obtain ⟨a, b, c, d⟩ := nx_inv h
    obtain ⟨e1, e2, e3, hk, hn, hln⟩ := hc
    subst e1; subst e2; subst e3
    exact ⟨a, b, Or.inr (Or.inr ⟨fun z => hb0 z, fun z => hb1 z, n, k', i, j, by rw [h3, h4, h5, h6, h7, c], o1, o2, hk, hn, hln, d⟩)⟩
