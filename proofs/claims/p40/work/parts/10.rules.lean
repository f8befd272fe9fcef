theorem run_mono : ∀ {n d : Nat} {Y : MT} {pc : Nat} {ls : ALs} {st : List AV} {M : AMem} {x : Option AV × AMem} (k : Nat), run n d Y pc ls st M = some x → run (n + k) d Y pc ls st M = some x := by
  intro n
  induction n with
  | zero => intro d Y pc ls st M x k h; simp [run] at h
  | succ n ih =>
    intro d Y pc ls st M x k h
    rw [show n + 1 + k = (n + k) + 1 by omega]
    unfold run at h ⊢
    cases hd : decode (mtC Y) pc with
    | error er => rw [hd] at h; cases h
    | ok q =>
      obtain ⟨ins, len⟩ := q
      rw [hd] at h
      dsimp only at h ⊢
      cases hx1 : ex1 Y ins len pc ls st M with
      | none => rw [hx1] at h; cases h
      | some R1 =>
        rw [hx1] at h
        rcases R1 with ⟨pc', ls', st', M'⟩ | ⟨Z, as, r⟩ | w
        · exact ih k h
        · dsimp only at h ⊢
          cases d with
          | zero => cases h
          | succ d' =>
            dsimp only at h ⊢
            cases hz : run n d' Z 0 (lini Z as) [] M with
            | none => rw [hz] at h; cases h
            | some q =>
              rw [hz] at h
              rw [ih k hz]
              exact ih k h
        · exact h
section RULES
variable {d : Nat} {Y : MT} {pc : Nat} {ls : ALs} {st : List AV} {M : AMem} {Q : Option AV → AMem → Prop}
theorem q_next {ins : ClassFile.Instr} {len pc' : Nat} {ls' : ALs} {st' : List AV} {M' : AMem} (hd : decode (mtC Y) pc = .ok (ins, len)) (hx : ex1 Y ins len pc ls st M = some (.inl (pc', ls', st', M'))) (k : RunQ d Y pc' ls' st' M' Q) : RunQ d Y pc ls st M Q := by
  obtain ⟨n, v, M1, h1, h2⟩ := k
  refine ⟨n + 1, v, M1, ?_, h2⟩
  unfold run
  rw [hd]
  dsimp only
  rw [hx]
  exact h1
theorem q_ret {ins : ClassFile.Instr} {len : Nat} {v : Option AV} (hd : decode (mtC Y) pc = .ok (ins, len)) (hx : ex1 Y ins len pc ls st M = some (.inr (.inr v))) (k : Q v M) : RunQ d Y pc ls st M Q := by
  refine ⟨1, v, M, ?_, k⟩
  unfold run
  rw [hd]
  dsimp only
  rw [hx]
theorem q_call {ins : ClassFile.Instr} {len : Nat} {Z : MT} {as r : List AV} (hd : decode (mtC Y) pc = .ok (ins, len)) (hx : ex1 Y ins len pc ls st M = some (.inr (.inl (Z, as, r)))) (k : CallQ d Z as M (fun v M1 => RunQ (d + 1) Y (pc + 3) ls (v.toList ++ r) M1 Q)) : RunQ (d + 1) Y pc ls st M Q := by
  obtain ⟨n, v, M1, h1, n2, v2, M2, h2, h3⟩ := k
  refine ⟨n + n2 + 1, v2, M2, ?_, h3⟩
  unfold run
  rw [hd]
  dsimp only
  rw [hx]
  dsimp only
  rw [run_mono n2 h1]
  dsimp only
  rw [Nat.add_comm n n2]
  exact run_mono n h2
theorem RunQ.mono {Q' : Option AV → AMem → Prop} (h : RunQ d Y pc ls st M Q) (k : ∀ v M', Q v M' → Q' v M') : RunQ d Y pc ls st M Q' := by
  obtain ⟨n, v, M1, h1, h2⟩ := h
  exact ⟨n, v, M1, h1, k _ _ h2⟩
def CallI (d : Nat) (Y : MT) (as : List AV) (M : AMem) (Q : Int → AMem → Prop) : Prop := CallQ d Y as M (fun v M1 => ∃ x, v = some (vI x) ∧ Q x M1)
def CallL (d : Nat) (Y : MT) (as : List AV) (M : AMem) (Q : Int → AMem → Prop) : Prop := CallQ d Y as M (fun v M1 => ∃ x, v = some (vL x) ∧ Q x M1)
def CallV (d : Nat) (Y : MT) (as : List AV) (M : AMem) (Q : AMem → Prop) : Prop := CallQ d Y as M (fun v M1 => v = none ∧ Q M1)
def CallR (d : Nat) (kd : Nat) (Y : MT) (as : List AV) (M : AMem) (Q : Nat → AMem → Prop) : Prop := CallQ d Y as M (fun v M1 => ∃ i, v = some (vR kd i) ∧ Q i M1)
theorem CallI.mono {as : List AV} {P P' : Int → AMem → Prop} (k : ∀ x M', P x M' → P' x M') (h : CallI d Y as M P) : CallI d Y as M P' := RunQ.mono h (fun _ _ ⟨x, e, hx⟩ => ⟨x, e, k _ _ hx⟩)
theorem CallL.mono {as : List AV} {P P' : Int → AMem → Prop} (k : ∀ x M', P x M' → P' x M') (h : CallL d Y as M P) : CallL d Y as M P' := RunQ.mono h (fun _ _ ⟨x, e, hx⟩ => ⟨x, e, k _ _ hx⟩)
theorem CallV.mono {as : List AV} {P P' : AMem → Prop} (k : ∀ M', P M' → P' M') (h : CallV d Y as M P) : CallV d Y as M P' := RunQ.mono h (fun _ _ ⟨e, hx⟩ => ⟨e, k _ hx⟩)
theorem CallR.mono {kd : Nat} {as : List AV} {P P' : Nat → AMem → Prop} (k : ∀ x M', P x M' → P' x M') (h : CallR d kd Y as M P) : CallR d kd Y as M P' := RunQ.mono h (fun _ _ ⟨x, e, hx⟩ => ⟨x, e, k _ _ hx⟩)
/-- the call's form, virtual -/
theorem ex1_virt {i : Nat} {Z : MT} {k j : Nat} {ps r : List AV} (hm : mthT (mtK Y) i = some Z) (hs : mtS Z = false) (hn : ps.length = mtA Z) (hst : st = ps.reverse ++ vR k j :: r) (ho : okH k j = true) (hk : k = mtK Z) (h8 : (r.map acat).sum ≤ 8) (hc : ((vR k j :: ps).map acat).sum = (vR k j :: ps).length) (hl : (vR k j :: ps).length ≤ mtL Z) : ex1 Y (.invokevirtual i) 3 pc ls st M = some (.inr (.inl (Z, vR k j :: ps, r))) := by
  have e1 : st.drop (mtA Z) = vR k j :: r := by rw [hst, ← hn, ← List.length_reverse, List.drop_left]
  have e2 : (st.take (mtA Z)).reverse = ps := by rw [hst, ← hn, ← List.length_reverse, List.take_left, List.reverse_reverse]
  have e3 : mtA Z < st.length := by rw [hst, ← hn]; simp
  unfold ex1
  simp only [hm, oG, aVirt, hs, e1, e2, e3, and_self, if_true]
  show (if okH k j = true then _ else _) = _
  rw [if_pos ho, if_pos hk, aCall, if_pos ⟨rfl, h8, hc, hl⟩]
theorem ex1_stat {i : Nat} {Z : MT} {as r : List AV} (hb : bltT (mtK Y) i = none) (hm : mthT (mtK Y) i = some Z) (hs : mtS Z = true) (hn : as.length = mtA Z) (hst : st = as.reverse ++ r) (h8 : (r.map acat).sum ≤ 8) (hc : (as.map acat).sum = as.length) (hl : as.length ≤ mtL Z) : ex1 Y (.invokestatic i) 3 pc ls st M = some (.inr (.inl (Z, as, r))) := by
  have e1 : st.drop (mtA Z) = r := by rw [hst, ← hn, ← List.length_reverse, List.drop_left]
  have e2 : (st.take (mtA Z)).reverse = as := by rw [hst, ← hn, ← List.length_reverse, List.take_left, List.reverse_reverse]
  have e3 : mtA Z ≤ st.length := by rw [hst, ← hn]; simp
  unfold ex1
  simp only [hb, hm, oG, aStat, hs, e1, e2, e3, and_self, if_true]
  rw [aCall, if_pos ⟨rfl, h8, hc, hl⟩]

theorem q_vI {i : Nat} {Z : MT} {k j : Nat} (pc : Nat) (ps r : List AV) (hd : decode (mtC Y) pc = .ok (.invokevirtual i, 3)) (hm : mthT (mtK Y) i = some Z) (hs : mtS Z = false) (hn : ps.length = mtA Z) (hst : st = ps.reverse ++ vR k j :: r) (ho : okH k j = true) (hk : k = mtK Z) (h8 : Nat.ble (r.map acat).sum 8 = true) (hc : ((vR k j :: ps).map acat).sum = (vR k j :: ps).length) (hl : Nat.ble (vR k j :: ps).length (mtL Z) = true)
    (kk : CallI d Z (vR k j :: ps) M (fun x M1 => RunQ (d + 1) Y (pc + 3) ls (vI x :: r) M1 Q)) : RunQ (d + 1) Y pc ls st M Q := by
  refine q_call hd (ex1_virt hm hs hn hst ho hk (Nat.le_of_ble_eq_true h8) hc (Nat.le_of_ble_eq_true hl)) (RunQ.mono kk ?_)
  rintro v M1 ⟨x, rfl, hx⟩; exact hx
theorem q_sI {i : Nat} {Z : MT} (pc : Nat) (as r : List AV) (hd : decode (mtC Y) pc = .ok (.invokestatic i, 3)) (hb : bltT (mtK Y) i = none) (hm : mthT (mtK Y) i = some Z) (hs : mtS Z = true) (hn : as.length = mtA Z) (hst : st = as.reverse ++ r) (h8 : Nat.ble (r.map acat).sum 8 = true) (hc : (as.map acat).sum = as.length) (hl : Nat.ble as.length (mtL Z) = true)
    (kk : CallI d Z as M (fun x M1 => RunQ (d + 1) Y (pc + 3) ls (vI x :: r) M1 Q)) : RunQ (d + 1) Y pc ls st M Q := by
  refine q_call hd (ex1_stat hb hm hs hn hst (Nat.le_of_ble_eq_true h8) hc (Nat.le_of_ble_eq_true hl)) (RunQ.mono kk ?_)
  rintro v M1 ⟨x, rfl, hx⟩; exact hx
theorem q_vL {i : Nat} {Z : MT} {k j : Nat} (pc : Nat) (ps r : List AV) (hd : decode (mtC Y) pc = .ok (.invokevirtual i, 3)) (hm : mthT (mtK Y) i = some Z) (hs : mtS Z = false) (hn : ps.length = mtA Z) (hst : st = ps.reverse ++ vR k j :: r) (ho : okH k j = true) (hk : k = mtK Z) (h8 : Nat.ble (r.map acat).sum 8 = true) (hc : ((vR k j :: ps).map acat).sum = (vR k j :: ps).length) (hl : Nat.ble (vR k j :: ps).length (mtL Z) = true)
    (kk : CallL d Z (vR k j :: ps) M (fun x M1 => RunQ (d + 1) Y (pc + 3) ls (vL x :: r) M1 Q)) : RunQ (d + 1) Y pc ls st M Q := by
  refine q_call hd (ex1_virt hm hs hn hst ho hk (Nat.le_of_ble_eq_true h8) hc (Nat.le_of_ble_eq_true hl)) (RunQ.mono kk ?_)
  rintro v M1 ⟨x, rfl, hx⟩; exact hx
theorem q_sL {i : Nat} {Z : MT} (pc : Nat) (as r : List AV) (hd : decode (mtC Y) pc = .ok (.invokestatic i, 3)) (hb : bltT (mtK Y) i = none) (hm : mthT (mtK Y) i = some Z) (hs : mtS Z = true) (hn : as.length = mtA Z) (hst : st = as.reverse ++ r) (h8 : Nat.ble (r.map acat).sum 8 = true) (hc : (as.map acat).sum = as.length) (hl : Nat.ble as.length (mtL Z) = true)
    (kk : CallL d Z as M (fun x M1 => RunQ (d + 1) Y (pc + 3) ls (vL x :: r) M1 Q)) : RunQ (d + 1) Y pc ls st M Q := by
  refine q_call hd (ex1_stat hb hm hs hn hst (Nat.le_of_ble_eq_true h8) hc (Nat.le_of_ble_eq_true hl)) (RunQ.mono kk ?_)
  rintro v M1 ⟨x, rfl, hx⟩; exact hx
theorem q_vV {i : Nat} {Z : MT} {k j : Nat} (pc : Nat) (ps r : List AV) (hd : decode (mtC Y) pc = .ok (.invokevirtual i, 3)) (hm : mthT (mtK Y) i = some Z) (hs : mtS Z = false) (hn : ps.length = mtA Z) (hst : st = ps.reverse ++ vR k j :: r) (ho : okH k j = true) (hk : k = mtK Z) (h8 : Nat.ble (r.map acat).sum 8 = true) (hc : ((vR k j :: ps).map acat).sum = (vR k j :: ps).length) (hl : Nat.ble (vR k j :: ps).length (mtL Z) = true)
    (kk : CallV d Z (vR k j :: ps) M (fun M1 => RunQ (d + 1) Y (pc + 3) ls (r) M1 Q)) : RunQ (d + 1) Y pc ls st M Q := by
  refine q_call hd (ex1_virt hm hs hn hst ho hk (Nat.le_of_ble_eq_true h8) hc (Nat.le_of_ble_eq_true hl)) (RunQ.mono kk ?_)
  rintro v M1 ⟨rfl, hx⟩; exact hx
theorem q_sV {i : Nat} {Z : MT} (pc : Nat) (as r : List AV) (hd : decode (mtC Y) pc = .ok (.invokestatic i, 3)) (hb : bltT (mtK Y) i = none) (hm : mthT (mtK Y) i = some Z) (hs : mtS Z = true) (hn : as.length = mtA Z) (hst : st = as.reverse ++ r) (h8 : Nat.ble (r.map acat).sum 8 = true) (hc : (as.map acat).sum = as.length) (hl : Nat.ble as.length (mtL Z) = true)
    (kk : CallV d Z as M (fun M1 => RunQ (d + 1) Y (pc + 3) ls (r) M1 Q)) : RunQ (d + 1) Y pc ls st M Q := by
  refine q_call hd (ex1_stat hb hm hs hn hst (Nat.le_of_ble_eq_true h8) hc (Nat.le_of_ble_eq_true hl)) (RunQ.mono kk ?_)
  rintro v M1 ⟨rfl, hx⟩; exact hx
theorem q_vR {i : Nat} {Z : MT} {k j : Nat} {kd : Nat} (pc : Nat) (ps r : List AV) (hd : decode (mtC Y) pc = .ok (.invokevirtual i, 3)) (hm : mthT (mtK Y) i = some Z) (hs : mtS Z = false) (hn : ps.length = mtA Z) (hst : st = ps.reverse ++ vR k j :: r) (ho : okH k j = true) (hk : k = mtK Z) (h8 : Nat.ble (r.map acat).sum 8 = true) (hc : ((vR k j :: ps).map acat).sum = (vR k j :: ps).length) (hl : Nat.ble (vR k j :: ps).length (mtL Z) = true)
    (kk : CallR d kd Z (vR k j :: ps) M (fun x M1 => RunQ (d + 1) Y (pc + 3) ls (vR kd x :: r) M1 Q)) : RunQ (d + 1) Y pc ls st M Q := by
  refine q_call hd (ex1_virt hm hs hn hst ho hk (Nat.le_of_ble_eq_true h8) hc (Nat.le_of_ble_eq_true hl)) (RunQ.mono kk ?_)
  rintro v M1 ⟨x, rfl, hx⟩; exact hx
theorem q_sR {i : Nat} {Z : MT} {kd : Nat} (pc : Nat) (as r : List AV) (hd : decode (mtC Y) pc = .ok (.invokestatic i, 3)) (hb : bltT (mtK Y) i = none) (hm : mthT (mtK Y) i = some Z) (hs : mtS Z = true) (hn : as.length = mtA Z) (hst : st = as.reverse ++ r) (h8 : Nat.ble (r.map acat).sum 8 = true) (hc : (as.map acat).sum = as.length) (hl : Nat.ble as.length (mtL Z) = true)
    (kk : CallR d kd Z as M (fun x M1 => RunQ (d + 1) Y (pc + 3) ls (vR kd x :: r) M1 Q)) : RunQ (d + 1) Y pc ls st M Q := by
  refine q_call hd (ex1_stat hb hm hs hn hst (Nat.le_of_ble_eq_true h8) hc (Nat.le_of_ble_eq_true hl)) (RunQ.mono kk ?_)
  rintro v M1 ⟨x, rfl, hx⟩; exact hx
theorem q_iconst {n : Int} (pc : Nat) (hd : decode (mtC Y) pc = .ok (.iconst n, 1)) (k : RunQ d Y (pc + 1) ls (vI n :: st) M Q) : RunQ d Y pc ls (st) M Q := q_next hd (rfl) k
theorem q_bipush {n : Int} (pc : Nat) (hd : decode (mtC Y) pc = .ok (.bipush n, 2)) (hn : -128 ≤ n ∧ n < 128) (k : RunQ d Y (pc + 2) ls (vI n :: st) M Q) : RunQ d Y pc ls (st) M Q := q_next hd (by show (if _ then _ else _) = _; rw [if_pos hn]; rfl) k
theorem q_sipush {n : Int} (pc : Nat) (hd : decode (mtC Y) pc = .ok (.sipush n, 3)) (hn : -32768 ≤ n ∧ n < 32768) (k : RunQ d Y (pc + 3) ls (vI n :: st) M Q) : RunQ d Y pc ls (st) M Q := q_next hd (by show (if _ then _ else _) = _; rw [if_pos hn]; rfl) k
theorem q_ldc {i : Nat} {z : Int} (pc : Nat) (hd : decode (mtC Y) pc = .ok (.ldc i, 2)) (hc : cstT (mtK Y) i = some z) (k : RunQ d Y (pc + 2) ls (vI z :: st) M Q) : RunQ d Y pc ls (st) M Q := q_next hd (by show oG (cstT (mtK Y) i) _ = _; rw [hc]; rfl) k
theorem q_ldc_w {i : Nat} {z : Int} (pc : Nat) (hd : decode (mtC Y) pc = .ok (.ldc_w i, 3)) (hc : cstT (mtK Y) i = some z) (k : RunQ d Y (pc + 3) ls (vI z :: st) M Q) : RunQ d Y pc ls (st) M Q := q_next hd (by show oG (cstT (mtK Y) i) _ = _; rw [hc]; rfl) k
theorem q_ldc2_w {i : Nat} {z : Int} (pc : Nat) (hd : decode (mtC Y) pc = .ok (.ldc2_w i, 3)) (hc : lonT (mtK Y) i = some z) (k : RunQ d Y (pc + 3) ls (vL z :: st) M Q) : RunQ d Y pc ls (st) M Q := q_next hd (by show oG (lonT (mtK Y) i) _ = _; rw [hc]; rfl) k
theorem q_iload {i : Nat} {z : Int} (pc : Nat) (hd : decode (mtC Y) pc = .ok (.iload i, 2)) (hv : ls[(i : Nat)]? = some (some (vI z))) (k : RunQ d Y (pc + 2) ls (vI z :: st) M Q) : RunQ d Y pc ls (st) M Q := q_next hd (by show aLoadI 2 2 pc i ls st M = _; rw [aLoadI, if_pos rfl, gL, hv]; rfl) k
theorem q_iload_n {i : Fin 4} {z : Int} (pc : Nat) (hd : decode (mtC Y) pc = .ok (.iload_n i, 1)) (hv : ls[(i : Nat)]? = some (some (vI z))) (k : RunQ d Y (pc + 1) ls (vI z :: st) M Q) : RunQ d Y pc ls (st) M Q := q_next hd (by show aLoadI 1 1 pc i ls st M = _; rw [aLoadI, if_pos rfl, gL, hv]; rfl) k
theorem q_lload {i : Nat} {z : Int} (pc : Nat) (hd : decode (mtC Y) pc = .ok (.lload i, 2)) (hv : ls[(i : Nat)]? = some (some (vL z))) (k : RunQ d Y (pc + 2) ls (vL z :: st) M Q) : RunQ d Y pc ls (st) M Q := q_next hd (by show aLoadL 2 2 pc i ls st M = _; rw [aLoadL, if_pos rfl, gL, hv]; rfl) k
theorem q_lload_n {i : Fin 4} {z : Int} (pc : Nat) (hd : decode (mtC Y) pc = .ok (.lload_n i, 1)) (hv : ls[(i : Nat)]? = some (some (vL z))) (k : RunQ d Y (pc + 1) ls (vL z :: st) M Q) : RunQ d Y pc ls (st) M Q := q_next hd (by show aLoadL 1 1 pc i ls st M = _; rw [aLoadL, if_pos rfl, gL, hv]; rfl) k
theorem q_aload {i : Nat} {a j : Nat} (pc : Nat) (hd : decode (mtC Y) pc = .ok (.aload i, 2)) (hv : ls[(i : Nat)]? = some (some (vR a j))) (k : RunQ d Y (pc + 2) ls (vR a j :: st) M Q) : RunQ d Y pc ls (st) M Q := q_next hd (by show aLoadA 2 2 pc i ls st M = _; rw [aLoadA, if_pos rfl, gL, hv]; rfl) k
theorem q_aload_n {i : Fin 4} {a j : Nat} (pc : Nat) (hd : decode (mtC Y) pc = .ok (.aload_n i, 1)) (hv : ls[(i : Nat)]? = some (some (vR a j))) (k : RunQ d Y (pc + 1) ls (vR a j :: st) M Q) : RunQ d Y pc ls (st) M Q := q_next hd (by show aLoadA 1 1 pc i ls st M = _; rw [aLoadA, if_pos rfl, gL, hv]; rfl) k
theorem q_istore {i : Nat} {z : Int} {ls' : ALs} (pc : Nat) (hd : decode (mtC Y) pc = .ok (.istore i, 2)) (hok : stOK ls (i : Nat) = true) (hl : ls.set (i : Nat) (some (vI z)) = ls') (k : RunQ d Y (pc + 2) ls' (st) M Q) : RunQ d Y pc ls (vI z :: st) M Q := q_next hd (by show aStoreI 2 2 pc i ls _ M = _; rw [aStoreI, if_pos ⟨rfl, hok⟩, ← hl]; rfl) k
theorem q_istore_n {i : Fin 4} {z : Int} {ls' : ALs} (pc : Nat) (hd : decode (mtC Y) pc = .ok (.istore_n i, 1)) (hok : stOK ls (i : Nat) = true) (hl : ls.set (i : Nat) (some (vI z)) = ls') (k : RunQ d Y (pc + 1) ls' (st) M Q) : RunQ d Y pc ls (vI z :: st) M Q := q_next hd (by show aStoreI 1 1 pc i ls _ M = _; rw [aStoreI, if_pos ⟨rfl, hok⟩, ← hl]; rfl) k
theorem q_astore {i : Nat} {a j : Nat} {ls' : ALs} (pc : Nat) (hd : decode (mtC Y) pc = .ok (.astore i, 2)) (hok : stOK ls (i : Nat) = true) (hl : ls.set (i : Nat) (some (vR a j)) = ls') (k : RunQ d Y (pc + 2) ls' (st) M Q) : RunQ d Y pc ls (vR a j :: st) M Q := q_next hd (by show aStoreA 2 2 pc i ls _ M = _; rw [aStoreA, if_pos ⟨rfl, hok⟩, ← hl]; rfl) k
theorem q_astore_n {i : Fin 4} {a j : Nat} {ls' : ALs} (pc : Nat) (hd : decode (mtC Y) pc = .ok (.astore_n i, 1)) (hok : stOK ls (i : Nat) = true) (hl : ls.set (i : Nat) (some (vR a j)) = ls') (k : RunQ d Y (pc + 1) ls' (st) M Q) : RunQ d Y pc ls (vR a j :: st) M Q := q_next hd (by show aStoreA 1 1 pc i ls _ M = _; rw [aStoreA, if_pos ⟨rfl, hok⟩, ← hl]; rfl) k
theorem q_lstore {i : Nat} {z : Int} {ls' : ALs} (pc : Nat) (hd : decode (mtC Y) pc = .ok (.lstore i, 2)) (hok : stOK ls (i : Nat) = true) (hi : Nat.ble ((i : Nat) + 1 + 1) ls.length = true) (hl : (ls.set (i : Nat) (some (vL z))).set ((i : Nat) + 1) none = ls') (k : RunQ d Y (pc + 2) ls' (st) M Q) : RunQ d Y pc ls (vL z :: st) M Q := q_next hd (by show aStoreL 2 2 pc i ls _ M = _; rw [aStoreL, if_pos ⟨rfl, hok, Nat.le_of_ble_eq_true hi⟩, ← hl]; rfl) k
theorem q_lstore_n {i : Fin 4} {z : Int} {ls' : ALs} (pc : Nat) (hd : decode (mtC Y) pc = .ok (.lstore_n i, 1)) (hok : stOK ls (i : Nat) = true) (hi : Nat.ble ((i : Nat) + 1 + 1) ls.length = true) (hl : (ls.set (i : Nat) (some (vL z))).set ((i : Nat) + 1) none = ls') (k : RunQ d Y (pc + 1) ls' (st) M Q) : RunQ d Y pc ls (vL z :: st) M Q := q_next hd (by show aStoreL 1 1 pc i ls _ M = _; rw [aStoreL, if_pos ⟨rfl, hok, Nat.le_of_ble_eq_true hi⟩, ← hl]; rfl) k
theorem q_iinc {i : Nat} {n z : Int} {ls' : ALs} (pc : Nat) (hd : decode (mtC Y) pc = .ok (.iinc i n, 3)) (hok : stOK ls i = true) (hv : ls[i]? = some (some (vI z))) (hl : ls.set i (some (vI (z + n))) = ls') (k : RunQ d Y (pc + 3) ls' (st) M Q) : RunQ d Y pc ls (st) M Q := q_next hd (by show (if _ then _ else _) = _; rw [if_pos ⟨rfl, hok⟩, gL, hv, ← hl]; rfl) k
theorem q_iadd {x y : Int} (pc : Nat) (hd : decode (mtC Y) pc = .ok (.iadd, 1)) (k : RunQ d Y (pc + 1) ls (vI (x + y) :: st) M Q) : RunQ d Y pc ls (vI y :: vI x :: st) M Q := q_next hd (rfl) k
theorem q_isub {x y : Int} (pc : Nat) (hd : decode (mtC Y) pc = .ok (.isub, 1)) (k : RunQ d Y (pc + 1) ls (vI (x - y) :: st) M Q) : RunQ d Y pc ls (vI y :: vI x :: st) M Q := q_next hd (rfl) k
theorem q_imul {x y : Int} (pc : Nat) (hd : decode (mtC Y) pc = .ok (.imul, 1)) (k : RunQ d Y (pc + 1) ls (vI (x * y) :: st) M Q) : RunQ d Y pc ls (vI y :: vI x :: st) M Q := q_next hd (rfl) k
theorem q_iand {x y : Int} (pc : Nat) (hd : decode (mtC Y) pc = .ok (.iand, 1)) (k : RunQ d Y (pc + 1) ls (vI (opAnd x y) :: st) M Q) : RunQ d Y pc ls (vI y :: vI x :: st) M Q := q_next hd (rfl) k
theorem q_ixor {x y : Int} (pc : Nat) (hd : decode (mtC Y) pc = .ok (.ixor, 1)) (k : RunQ d Y (pc + 1) ls (vI (opXor x y) :: st) M Q) : RunQ d Y pc ls (vI y :: vI x :: st) M Q := q_next hd (rfl) k
theorem q_ishr {x y : Int} (pc : Nat) (hd : decode (mtC Y) pc = .ok (.ishr, 1)) (k : RunQ d Y (pc + 1) ls (vI (opShr x y) :: st) M Q) : RunQ d Y pc ls (vI y :: vI x :: st) M Q := q_next hd (rfl) k
theorem q_iushr {x y : Int} (pc : Nat) (hd : decode (mtC Y) pc = .ok (.iushr, 1)) (k : RunQ d Y (pc + 1) ls (vI (opUshr x y) :: st) M Q) : RunQ d Y pc ls (vI y :: vI x :: st) M Q := q_next hd (rfl) k
theorem q_idiv {x y : Int} (pc : Nat) (hd : decode (mtC Y) pc = .ok (.idiv, 1)) (hy : ¬ wI y = 0) (k : RunQ d Y (pc + 1) ls (vI (Int.tdiv (wI x) (wI y)) :: st) M Q) : RunQ d Y pc ls (vI y :: vI x :: st) M Q := q_next hd (by show aDiv 1 pc _ ls _ M = _; rw [aDiv, if_pos rfl]; show (if wI y = 0 then none else _) = _; rw [if_neg hy]; rfl) k
theorem q_irem {x y : Int} (pc : Nat) (hd : decode (mtC Y) pc = .ok (.irem, 1)) (hy : ¬ wI y = 0) (k : RunQ d Y (pc + 1) ls (vI (Int.tmod (wI x) (wI y)) :: st) M Q) : RunQ d Y pc ls (vI y :: vI x :: st) M Q := q_next hd (by show aDiv 1 pc _ ls _ M = _; rw [aDiv, if_pos rfl]; show (if wI y = 0 then none else _) = _; rw [if_neg hy]; rfl) k
theorem q_i2l {x : Int} (pc : Nat) (hd : decode (mtC Y) pc = .ok (.i2l, 1)) (k : RunQ d Y (pc + 1) ls (vL (wI x) :: st) M Q) : RunQ d Y pc ls (vI x :: st) M Q := q_next hd (rfl) k
theorem q_ladd {x y : Int} (pc : Nat) (hd : decode (mtC Y) pc = .ok (.ladd, 1)) (k : RunQ d Y (pc + 1) ls (vL (x + y) :: st) M Q) : RunQ d Y pc ls (vL y :: vL x :: st) M Q := q_next hd (rfl) k
theorem q_lmul {x y : Int} (pc : Nat) (hd : decode (mtC Y) pc = .ok (.lmul, 1)) (k : RunQ d Y (pc + 1) ls (vL (x * y) :: st) M Q) : RunQ d Y pc ls (vL y :: vL x :: st) M Q := q_next hd (rfl) k
theorem q_lcmp {x y : Int} (pc : Nat) (hd : decode (mtC Y) pc = .ok (.lcmp, 1)) (k : RunQ d Y (pc + 1) ls (vI (opCmp x y) :: st) M Q) : RunQ d Y pc ls (vL y :: vL x :: st) M Q := q_next hd (rfl) k
theorem q_dup {v : AV} (pc : Nat) (hd : decode (mtC Y) pc = .ok (.dup, 1)) (hv : acat v = 1) (k : RunQ d Y (pc + 1) ls (v :: v :: st) M Q) : RunQ d Y pc ls (v :: st) M Q := q_next hd (by show (if 1 = 1 then _ else none) = _; rw [if_pos rfl]; show (if acat v = 1 then _ else _) = _; rw [if_pos hv]; rfl) k
theorem q_pop {v : AV} (pc : Nat) (hd : decode (mtC Y) pc = .ok (.pop, 1)) (hv : acat v = 1) (k : RunQ d Y (pc + 1) ls (st) M Q) : RunQ d Y pc ls (v :: st) M Q := q_next hd (by show (if 1 = 1 then _ else none) = _; rw [if_pos rfl]; show (if acat v = 1 then _ else _) = _; rw [if_pos hv]; rfl) k
theorem q_if_eq {x : Int} {off : Int} (pc tgt : Nat) (hd : decode (mtC Y) pc = .ok (.ifCond .eq off, 3)) (hj : jok pc off = true) (ht : jmp pc off = tgt) (kt : wI x = 0 → RunQ d Y tgt ls st M Q) (kf : ¬ (wI x = 0) → RunQ d Y (pc + 3) ls st M Q) : RunQ d Y pc ls (vI x :: st) M Q := by
  by_cases h : wI x = 0
  · refine q_next hd (pc' := tgt) ?_ (kt h)
    show aBr 3 pc off (decide (wI x = 0)) ls st M = _
    rw [aBr, if_pos ⟨rfl, hj⟩, if_pos (decide_eq_true h), ht]
    rfl
  · refine q_next hd ?_ (kf h)
    show aBr 3 pc off (decide (wI x = 0)) ls st M = _
    rw [aBr, if_pos ⟨rfl, hj⟩, if_neg (fun z => h (of_decide_eq_true z))]
    rfl
theorem q_icmp_eq {x y : Int} {off : Int} (pc tgt : Nat) (hd : decode (mtC Y) pc = .ok (.if_icmp .eq off, 3)) (hj : jok pc off = true) (ht : jmp pc off = tgt) (kt : wI x = wI y → RunQ d Y tgt ls st M Q) (kf : ¬ (wI x = wI y) → RunQ d Y (pc + 3) ls st M Q) : RunQ d Y pc ls (vI y :: vI x :: st) M Q := by
  by_cases h : wI x = wI y
  · refine q_next hd (pc' := tgt) ?_ (kt h)
    show aBr 3 pc off (decide (wI x = wI y)) ls st M = _
    rw [aBr, if_pos ⟨rfl, hj⟩, if_pos (decide_eq_true h), ht]
    rfl
  · refine q_next hd ?_ (kf h)
    show aBr 3 pc off (decide (wI x = wI y)) ls st M = _
    rw [aBr, if_pos ⟨rfl, hj⟩, if_neg (fun z => h (of_decide_eq_true z))]
    rfl
theorem q_if_ne {x : Int} {off : Int} (pc tgt : Nat) (hd : decode (mtC Y) pc = .ok (.ifCond .ne off, 3)) (hj : jok pc off = true) (ht : jmp pc off = tgt) (kt : ¬ wI x = 0 → RunQ d Y tgt ls st M Q) (kf : ¬ (¬ wI x = 0) → RunQ d Y (pc + 3) ls st M Q) : RunQ d Y pc ls (vI x :: st) M Q := by
  by_cases h : ¬ wI x = 0
  · refine q_next hd (pc' := tgt) ?_ (kt h)
    show aBr 3 pc off (decide (¬ wI x = 0)) ls st M = _
    rw [aBr, if_pos ⟨rfl, hj⟩, if_pos (decide_eq_true h), ht]
    rfl
  · refine q_next hd ?_ (kf h)
    show aBr 3 pc off (decide (¬ wI x = 0)) ls st M = _
    rw [aBr, if_pos ⟨rfl, hj⟩, if_neg (fun z => h (of_decide_eq_true z))]
    rfl
theorem q_icmp_ne {x y : Int} {off : Int} (pc tgt : Nat) (hd : decode (mtC Y) pc = .ok (.if_icmp .ne off, 3)) (hj : jok pc off = true) (ht : jmp pc off = tgt) (kt : ¬ wI x = wI y → RunQ d Y tgt ls st M Q) (kf : ¬ (¬ wI x = wI y) → RunQ d Y (pc + 3) ls st M Q) : RunQ d Y pc ls (vI y :: vI x :: st) M Q := by
  by_cases h : ¬ wI x = wI y
  · refine q_next hd (pc' := tgt) ?_ (kt h)
    show aBr 3 pc off (decide (¬ wI x = wI y)) ls st M = _
    rw [aBr, if_pos ⟨rfl, hj⟩, if_pos (decide_eq_true h), ht]
    rfl
  · refine q_next hd ?_ (kf h)
    show aBr 3 pc off (decide (¬ wI x = wI y)) ls st M = _
    rw [aBr, if_pos ⟨rfl, hj⟩, if_neg (fun z => h (of_decide_eq_true z))]
    rfl
theorem q_if_lt {x : Int} {off : Int} (pc tgt : Nat) (hd : decode (mtC Y) pc = .ok (.ifCond .lt off, 3)) (hj : jok pc off = true) (ht : jmp pc off = tgt) (kt : wI x < 0 → RunQ d Y tgt ls st M Q) (kf : ¬ (wI x < 0) → RunQ d Y (pc + 3) ls st M Q) : RunQ d Y pc ls (vI x :: st) M Q := by
  by_cases h : wI x < 0
  · refine q_next hd (pc' := tgt) ?_ (kt h)
    show aBr 3 pc off (decide (wI x < 0)) ls st M = _
    rw [aBr, if_pos ⟨rfl, hj⟩, if_pos (decide_eq_true h), ht]
    rfl
  · refine q_next hd ?_ (kf h)
    show aBr 3 pc off (decide (wI x < 0)) ls st M = _
    rw [aBr, if_pos ⟨rfl, hj⟩, if_neg (fun z => h (of_decide_eq_true z))]
    rfl
theorem q_icmp_lt {x y : Int} {off : Int} (pc tgt : Nat) (hd : decode (mtC Y) pc = .ok (.if_icmp .lt off, 3)) (hj : jok pc off = true) (ht : jmp pc off = tgt) (kt : wI x < wI y → RunQ d Y tgt ls st M Q) (kf : ¬ (wI x < wI y) → RunQ d Y (pc + 3) ls st M Q) : RunQ d Y pc ls (vI y :: vI x :: st) M Q := by
  by_cases h : wI x < wI y
  · refine q_next hd (pc' := tgt) ?_ (kt h)
    show aBr 3 pc off (decide (wI x < wI y)) ls st M = _
    rw [aBr, if_pos ⟨rfl, hj⟩, if_pos (decide_eq_true h), ht]
    rfl
  · refine q_next hd ?_ (kf h)
    show aBr 3 pc off (decide (wI x < wI y)) ls st M = _
    rw [aBr, if_pos ⟨rfl, hj⟩, if_neg (fun z => h (of_decide_eq_true z))]
    rfl
theorem q_if_ge {x : Int} {off : Int} (pc tgt : Nat) (hd : decode (mtC Y) pc = .ok (.ifCond .ge off, 3)) (hj : jok pc off = true) (ht : jmp pc off = tgt) (kt : 0 ≤ wI x → RunQ d Y tgt ls st M Q) (kf : ¬ (0 ≤ wI x) → RunQ d Y (pc + 3) ls st M Q) : RunQ d Y pc ls (vI x :: st) M Q := by
  by_cases h : 0 ≤ wI x
  · refine q_next hd (pc' := tgt) ?_ (kt h)
    show aBr 3 pc off (decide (0 ≤ wI x)) ls st M = _
    rw [aBr, if_pos ⟨rfl, hj⟩, if_pos (decide_eq_true h), ht]
    rfl
  · refine q_next hd ?_ (kf h)
    show aBr 3 pc off (decide (0 ≤ wI x)) ls st M = _
    rw [aBr, if_pos ⟨rfl, hj⟩, if_neg (fun z => h (of_decide_eq_true z))]
    rfl
theorem q_icmp_ge {x y : Int} {off : Int} (pc tgt : Nat) (hd : decode (mtC Y) pc = .ok (.if_icmp .ge off, 3)) (hj : jok pc off = true) (ht : jmp pc off = tgt) (kt : wI y ≤ wI x → RunQ d Y tgt ls st M Q) (kf : ¬ (wI y ≤ wI x) → RunQ d Y (pc + 3) ls st M Q) : RunQ d Y pc ls (vI y :: vI x :: st) M Q := by
  by_cases h : wI y ≤ wI x
  · refine q_next hd (pc' := tgt) ?_ (kt h)
    show aBr 3 pc off (decide (wI y ≤ wI x)) ls st M = _
    rw [aBr, if_pos ⟨rfl, hj⟩, if_pos (decide_eq_true h), ht]
    rfl
  · refine q_next hd ?_ (kf h)
    show aBr 3 pc off (decide (wI y ≤ wI x)) ls st M = _
    rw [aBr, if_pos ⟨rfl, hj⟩, if_neg (fun z => h (of_decide_eq_true z))]
    rfl
theorem q_if_gt {x : Int} {off : Int} (pc tgt : Nat) (hd : decode (mtC Y) pc = .ok (.ifCond .gt off, 3)) (hj : jok pc off = true) (ht : jmp pc off = tgt) (kt : 0 < wI x → RunQ d Y tgt ls st M Q) (kf : ¬ (0 < wI x) → RunQ d Y (pc + 3) ls st M Q) : RunQ d Y pc ls (vI x :: st) M Q := by
  by_cases h : 0 < wI x
  · refine q_next hd (pc' := tgt) ?_ (kt h)
    show aBr 3 pc off (decide (0 < wI x)) ls st M = _
    rw [aBr, if_pos ⟨rfl, hj⟩, if_pos (decide_eq_true h), ht]
    rfl
  · refine q_next hd ?_ (kf h)
    show aBr 3 pc off (decide (0 < wI x)) ls st M = _
    rw [aBr, if_pos ⟨rfl, hj⟩, if_neg (fun z => h (of_decide_eq_true z))]
    rfl
theorem q_icmp_gt {x y : Int} {off : Int} (pc tgt : Nat) (hd : decode (mtC Y) pc = .ok (.if_icmp .gt off, 3)) (hj : jok pc off = true) (ht : jmp pc off = tgt) (kt : wI y < wI x → RunQ d Y tgt ls st M Q) (kf : ¬ (wI y < wI x) → RunQ d Y (pc + 3) ls st M Q) : RunQ d Y pc ls (vI y :: vI x :: st) M Q := by
  by_cases h : wI y < wI x
  · refine q_next hd (pc' := tgt) ?_ (kt h)
    show aBr 3 pc off (decide (wI y < wI x)) ls st M = _
    rw [aBr, if_pos ⟨rfl, hj⟩, if_pos (decide_eq_true h), ht]
    rfl
  · refine q_next hd ?_ (kf h)
    show aBr 3 pc off (decide (wI y < wI x)) ls st M = _
    rw [aBr, if_pos ⟨rfl, hj⟩, if_neg (fun z => h (of_decide_eq_true z))]
    rfl
theorem q_if_le {x : Int} {off : Int} (pc tgt : Nat) (hd : decode (mtC Y) pc = .ok (.ifCond .le off, 3)) (hj : jok pc off = true) (ht : jmp pc off = tgt) (kt : wI x ≤ 0 → RunQ d Y tgt ls st M Q) (kf : ¬ (wI x ≤ 0) → RunQ d Y (pc + 3) ls st M Q) : RunQ d Y pc ls (vI x :: st) M Q := by
  by_cases h : wI x ≤ 0
  · refine q_next hd (pc' := tgt) ?_ (kt h)
    show aBr 3 pc off (decide (wI x ≤ 0)) ls st M = _
    rw [aBr, if_pos ⟨rfl, hj⟩, if_pos (decide_eq_true h), ht]
    rfl
  · refine q_next hd ?_ (kf h)
    show aBr 3 pc off (decide (wI x ≤ 0)) ls st M = _
    rw [aBr, if_pos ⟨rfl, hj⟩, if_neg (fun z => h (of_decide_eq_true z))]
    rfl
theorem q_icmp_le {x y : Int} {off : Int} (pc tgt : Nat) (hd : decode (mtC Y) pc = .ok (.if_icmp .le off, 3)) (hj : jok pc off = true) (ht : jmp pc off = tgt) (kt : wI x ≤ wI y → RunQ d Y tgt ls st M Q) (kf : ¬ (wI x ≤ wI y) → RunQ d Y (pc + 3) ls st M Q) : RunQ d Y pc ls (vI y :: vI x :: st) M Q := by
  by_cases h : wI x ≤ wI y
  · refine q_next hd (pc' := tgt) ?_ (kt h)
    show aBr 3 pc off (decide (wI x ≤ wI y)) ls st M = _
    rw [aBr, if_pos ⟨rfl, hj⟩, if_pos (decide_eq_true h), ht]
    rfl
  · refine q_next hd ?_ (kf h)
    show aBr 3 pc off (decide (wI x ≤ wI y)) ls st M = _
    rw [aBr, if_pos ⟨rfl, hj⟩, if_neg (fun z => h (of_decide_eq_true z))]
    rfl
theorem q_goto {off : Int} (pc tgt : Nat) (hd : decode (mtC Y) pc = .ok (.goto off, 3)) (hj : jok pc off = true) (ht : jmp pc off = tgt) (k : RunQ d Y tgt ls st M Q) : RunQ d Y pc ls st M Q := by
  refine q_next hd ?_ k
  show (if 3 = 3 ∧ jok pc off = true then _ else _) = _
  rw [if_pos ⟨rfl, hj⟩, ht]
  rfl
theorem q_tsw {dflt lo hi : Int} {offs : Array Int} {len : Nat} {z : Int} (pc : Nat) (hd : decode (mtC Y) pc = .ok (.tableswitch dflt lo hi offs, len)) (hj : jok pc dflt = true) (kout : (wI z < lo ∨ hi < wI z) → RunQ d Y (jmp pc dflt) ls st M Q)
    (kin : lo ≤ wI z → wI z ≤ hi → ∃ off, offs[(wI z - lo).toNat]? = some off ∧ jok pc off = true ∧ RunQ d Y (jmp pc off) ls st M Q) : RunQ d Y pc ls (vI z :: st) M Q := by
  by_cases h : wI z < lo ∨ hi < wI z
  · refine q_next hd ?_ (kout h)
    show (if wI z < lo ∨ hi < wI z then _ else _) = _
    rw [if_pos h, if_pos hj]
    rfl
  · obtain ⟨off, h1, h2, h3⟩ := kin (by omega) (by omega)
    refine q_next hd ?_ h3
    show (if wI z < lo ∨ hi < wI z then _ else _) = _
    rw [if_neg h, h1]
    show (if jok pc off = true then _ else _) = _
    rw [if_pos h2]
    rfl
theorem q_lsw {dflt : Int} {ps : Array (Int × Int)} {len : Nat} {z : Int} (pc tgt : Nat) (hd : decode (mtC Y) pc = .ok (.lookupswitch dflt ps, len)) (hs : (ps.toList.zip (ps.toList.drop 1)).all (fun (a, next) => a.1 < next.1) = true) (hj : jok pc (Op.lookupswitch.offset ps.toList dflt (wI z)) = true) (ht : jmp pc (Op.lookupswitch.offset ps.toList dflt (wI z)) = tgt) (k : RunQ d Y tgt ls st M Q) : RunQ d Y pc ls (vI z :: st) M Q := by
  refine q_next hd ?_ k
  show aSwL pc dflt ps ls (vI z :: st) M = _
  rw [aSwL, if_pos hs]
  show (if jok pc _ = true then _ else _) = _
  rw [if_pos hj, ht]
  rfl
theorem q_getstatic {i a : Nat} (pc : Nat) (hd : decode (mtC Y) pc = .ok (.getstatic i, 3)) (hf : staT (mtK Y) i = some a) (k : RunQ d Y (pc + 3) ls (vR a 0 :: st) M Q) : RunQ d Y pc ls st M Q := q_next hd (by show (if 3 = 3 then _ else none) = _; rw [if_pos rfl, hf]; rfl) k
theorem q_getfield {f a i s : Nat} {v : AV} (pc : Nat) (hd : decode (mtC Y) pc = .ok (.getfield f, 3)) (hf : fldT (mtK Y) f = some (a, s)) (ho : okH a i = true) (hv : fval a i s M = v) (k : RunQ d Y (pc + 3) ls (v :: st) M Q) : RunQ d Y pc ls (vR a i :: st) M Q := q_next hd (by
  show (if 3 = 3 then _ else none) = _
  rw [if_pos rfl, hf]
  show (if okH a i = true then _ else _) = _
  rw [if_pos ho]
  show (if a = a then _ else _) = _
  rw [if_pos rfl, ← hv]
  rfl) k
theorem q_putfield {f a i s : Nat} {z : Int} (pc : Nat) (hd : decode (mtC Y) pc = .ok (.putfield f, 3)) (hf : fldT (mtK Y) f = some (a, s)) (ho : okH a i = true) (hi : fint a s = true) (hz : a = 2 ∧ s = 4 → z = 0 ∨ z = 1) (k : RunQ d Y (pc + 3) ls st (aup M a i s z) Q) : RunQ d Y pc ls (vI z :: vR a i :: st) M Q := q_next hd (by
  show (if 3 = 3 then _ else none) = _
  rw [if_pos rfl, hf]
  show (if okH a i = true then _ else _) = _
  rw [if_pos ho]
  show (if a = a ∧ fint a s = true ∧ (a = 2 ∧ s = 4 → z = 0 ∨ z = 1) then _ else _) = _
  rw [if_pos ⟨rfl, hi, hz⟩]
  rfl) k
theorem q_alen {a i : Nat} {z : Int} (pc : Nat) (hd : decode (mtC Y) pc = .ok (.arraylength, 1)) (ho : okH a i = true) (h4 : Nat.ble 4 a = true) (hz : (alen a M : Int) = z) (k : RunQ d Y (pc + 1) ls (vI z :: st) M Q) : RunQ d Y pc ls (vR a i :: st) M Q := q_next hd (by
  show (if 1 = 1 then _ else none) = _
  rw [if_pos rfl]
  show (if okH a i = true then _ else _) = _
  rw [if_pos ho]
  show (if 4 ≤ a then _ else _) = _
  rw [if_pos (Nat.le_of_ble_eq_true h4), ← hz]
  rfl) k
theorem q_iaload {a i : Nat} {j z : Int} {n : Nat} (pc : Nat) (hd : decode (mtC Y) pc = .ok (.iaload, 1)) (ho : okH a i = true) (hn : alen a M = n) (hj : 0 ≤ wI j ∧ wI j < n) (hz : aval a i (wI j).toNat M = some z) (k : RunQ d Y (pc + 1) ls (vI z :: st) M Q) : RunQ d Y pc ls (vI j :: vR a i :: st) M Q := q_next hd (by
  show (if 1 = 1 then _ else none) = _
  rw [if_pos rfl]
  show (if okH a i = true then _ else _) = _
  rw [if_pos ho]
  show (if 0 ≤ wI j ∧ wI j < alen a M then _ else _) = _
  rw [hn, if_pos hj, hz]
  rfl) k
theorem q_iastore {a i : Nat} {j z : Int} {n : Nat} (pc : Nat) (hd : decode (mtC Y) pc = .ok (.iastore, 1)) (ho : okH a i = true) (hn : alen a M = n) (hj : 0 ≤ wI j ∧ wI j < n) (h45 : a = 4 ∨ a = 5) (k : RunQ d Y (pc + 1) ls st (aup M a i (wI j).toNat z) Q) : RunQ d Y pc ls (vI z :: vI j :: vR a i :: st) M Q := q_next hd (by
  show (if 1 = 1 then _ else none) = _
  rw [if_pos rfl]
  show (if okH a i = true then _ else _) = _
  rw [if_pos ho]
  show (if 0 ≤ wI j ∧ wI j < alen a M ∧ (a = 4 ∨ a = 5) then _ else _) = _
  rw [hn, if_pos ⟨hj.1, hj.2, h45⟩]
  rfl) k
theorem q_aaload {a i : Nat} {j : Int} {n kd x : Nat} (pc : Nat) (hd : decode (mtC Y) pc = .ok (.aaload, 1)) (ho : okH a i = true) (hn : alen a M = n) (hj : 0 ≤ wI j ∧ wI j < n) (hz : aref a i (wI j).toNat = some (kd, x)) (k : RunQ d Y (pc + 1) ls (vR kd x :: st) M Q) : RunQ d Y pc ls (vI j :: vR a i :: st) M Q := q_next hd (by
  show (if 1 = 1 then _ else none) = _
  rw [if_pos rfl]
  show (if okH a i = true then _ else _) = _
  rw [if_pos ho]
  show (if 0 ≤ wI j ∧ wI j < alen a M then _ else _) = _
  rw [hn, if_pos hj, hz]
  rfl) k
theorem q_max {i : Nat} {x y : Int} (pc : Nat) (hd : decode (mtC Y) pc = .ok (.invokestatic i, 3)) (hb : bltT (mtK Y) i = some 0) (h8 : Nat.ble ((vI y :: vI x :: st).map acat).sum 8 = true) (k : RunQ d Y (pc + 3) ls (vI (if wI x < wI y then y else x) :: st) M Q) : RunQ d Y pc ls (vI y :: vI x :: st) M Q := q_next hd (by
  show (match bltT (mtK Y) i with
    | some b => aBlt 3 pc b ls (vI y :: vI x :: st) M
    | none => _) = _
  rw [hb]
  show aBlt 3 pc 0 ls _ M = _
  rw [aBlt, if_pos ⟨rfl, Nat.le_of_ble_eq_true h8⟩]
  rfl) k
theorem q_min {i : Nat} {x y : Int} (pc : Nat) (hd : decode (mtC Y) pc = .ok (.invokestatic i, 3)) (hb : bltT (mtK Y) i = some 1) (h8 : Nat.ble ((vI y :: vI x :: st).map acat).sum 8 = true) (k : RunQ d Y (pc + 3) ls (vI (if wI y < wI x then y else x) :: st) M Q) : RunQ d Y pc ls (vI y :: vI x :: st) M Q := q_next hd (by
  show (match bltT (mtK Y) i with
    | some b => aBlt 3 pc b ls (vI y :: vI x :: st) M
    | none => _) = _
  rw [hb]
  show aBlt 3 pc 1 ls _ M = _
  rw [aBlt, if_pos ⟨rfl, Nat.le_of_ble_eq_true h8⟩]
  rfl) k
theorem q_copy {i kd a b' : Nat} {n : Int} (pc : Nat) (hd : decode (mtC Y) pc = .ok (.invokestatic i, 3)) (hb : bltT (mtK Y) i = some 2) (h8 : Nat.ble ((vI n :: vI 0 :: vR kd b' :: vI 0 :: vR kd a :: st).map acat).sum 8 = true) (o1 : okH kd b' = true) (o2 : okH kd a = true) (h45 : kd = 4 ∨ kd = 5) (hn : 0 ≤ n ∧ n.toNat ≤ alen kd M) (k : RunQ d Y (pc + 3) ls st (acopy M kd a b' n.toNat) Q) : RunQ d Y pc ls (vI n :: vI 0 :: vR kd b' :: vI 0 :: vR kd a :: st) M Q := q_next hd (by
  show (match bltT (mtK Y) i with
    | some b => aBlt 3 pc b ls (vI n :: vI 0 :: vR kd b' :: vI 0 :: vR kd a :: st) M
    | none => _) = _
  rw [hb]
  show aBlt 3 pc 2 ls _ M = _
  rw [aBlt, if_pos ⟨rfl, Nat.le_of_ble_eq_true h8⟩]
  show (if okH kd b' = true then _ else _) = _
  rw [if_pos o1]
  show (if okH kd a = true then _ else _) = _
  rw [if_pos o2]
  show (if (0 : Int) = 0 ∧ (0 : Int) = 0 ∧ kd = kd ∧ (kd = 4 ∨ kd = 5) ∧ 0 ≤ n ∧ n.toNat ≤ alen kd M then _ else _) = _
  rw [if_pos ⟨rfl, rfl, rfl, h45, hn.1, hn.2⟩]
  all_goals first | rfl | (intro h; cases h)) k
theorem q_iret {z : Int} (pc : Nat) (hd : decode (mtC Y) pc = .ok (.ireturn, 1)) (hr : mtR Y = some .int) (k : Q (some (vI z)) M) : RunQ d Y pc ls [vI z] M Q := q_ret hd (by
  show (if 1 = 1 then _ else none) = _
  rw [if_pos rfl]
  show (if ([] : List AV) = [] ∧ (mtR Y = some .int ∨ (mtR Y = some .boolean ∧ (z = 0 ∨ z = 1))) then _ else _) = _
  rw [if_pos ⟨rfl, Or.inl hr⟩]) k
theorem q_zret {z : Int} (pc : Nat) (hd : decode (mtC Y) pc = .ok (.ireturn, 1)) (hr : mtR Y = some .boolean) (hz : z = 0 ∨ z = 1) (k : Q (some (vI z)) M) : RunQ d Y pc ls [vI z] M Q := q_ret hd (by
  show (if 1 = 1 then _ else none) = _
  rw [if_pos rfl]
  show (if ([] : List AV) = [] ∧ (mtR Y = some .int ∨ (mtR Y = some .boolean ∧ (z = 0 ∨ z = 1))) then _ else _) = _
  rw [if_pos ⟨rfl, Or.inr ⟨hr, hz⟩⟩]) k
theorem q_lret {z : Int} (pc : Nat) (hd : decode (mtC Y) pc = .ok (.lreturn, 1)) (hr : mtR Y = some .long) (k : Q (some (vL z)) M) : RunQ d Y pc ls [vL z] M Q := q_ret hd (by
  show (if 1 = 1 then _ else none) = _
  rw [if_pos rfl]
  show (if ([] : List AV) = [] ∧ mtR Y = some .long then _ else _) = _
  rw [if_pos ⟨rfl, hr⟩]) k
theorem q_aret {a i : Nat} (pc : Nat) (hd : decode (mtC Y) pc = .ok (.areturn, 1)) (hr : mtR Y = some (.object "Endlessrows$Row") ∨ mtR Y = some (.object "Endlessrows$Well")) (k : Q (some (vR a i)) M) : RunQ d Y pc ls [vR a i] M Q := q_ret hd (by
  show (if 1 = 1 then _ else none) = _
  rw [if_pos rfl]
  show (if ([] : List AV) = [] ∧ _ then _ else _) = _
  rw [if_pos ⟨rfl, hr⟩]) k
theorem q_vret (pc : Nat) (hd : decode (mtC Y) pc = .ok (.return_, 1)) (hr : mtR Y = none) (k : Q none M) : RunQ d Y pc ls [] M Q := q_ret hd (by
  show (if 1 = 1 ∧ ([] : List AV) = [] ∧ mtR Y = none then _ else _) = _
  rw [if_pos ⟨rfl, rfl, hr⟩]) k
end RULES
theorem ok_r6 {i : Nat} {j : Int} (h : okH 6 i = true) (hj : 0 ≤ wI j ∧ wI j < (6 : Nat)) : okH 1 (6 * i + (wI j).toNat) = true := by
  simp only [okH, decide_eq_true_eq] at h ⊢
  omega
theorem ok_r7 {j : Int} (hj : 0 ≤ wI j ∧ wI j < (6 : Nat)) : okH 1 (42 + (wI j).toNat) = true := by
  simp only [okH, decide_eq_true_eq]
  omega
theorem ok_w8 {j : Int} (hj : 0 ≤ wI j ∧ wI j < (5 : Nat)) : okH 2 (wI j).toNat = true := by
  simp only [okH, decide_eq_true_eq]
  omega

