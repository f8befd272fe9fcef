set_option maxHeartbeats 4000000 in
set_option maxRecDepth 100000 in
/-- which instructions call -/
theorem ex1_call {Y Z : MT} {ins : ClassFile.Instr} {len pc : Nat} {ls : ALs} {st as r : List AV} {M : AMem} (h : ex1 Y ins len pc ls st M = some (.inr (.inl (Z, as, r)))) :
    len = 3 ∧ (r.map acat).sum ≤ 8 ∧ (as.map acat).sum = as.length ∧ as.length ≤ mtL Z ∧ ((∃ i k j ps, ins = .invokevirtual i ∧ mthT (mtK Y) i = some Z ∧ mtS Z = false ∧ as = vR k j :: ps ∧ ps.length = mtA Z ∧ st = ps.reverse ++ vR k j :: r ∧ okH k j = true ∧ k = mtK Z) ∨
      (∃ i, ins = .invokestatic i ∧ mthT (mtK Y) i = some Z ∧ mtS Z = true ∧ as.length = mtA Z ∧ st = as.reverse ++ r)) := by
  cases ins
  case invokevirtual i =>
    obtain ⟨Z', hZ, h⟩ := oG_inv h
    obtain ⟨hc, h⟩ := if_inv h
    obtain ⟨kd, j, r', h3, hok, h⟩ := sR_inv h
    obtain ⟨hc2, h⟩ := if_inv h
    obtain ⟨hc3, h⟩ := if_inv h
    simp only [Option.some.injEq, Sum.inr.injEq, Sum.inl.injEq, Prod.mk.injEq] at h
    obtain ⟨rfl, rfl, rfl⟩ := h
    refine ⟨hc3.1, hc3.2.1, hc3.2.2.1, hc3.2.2.2, Or.inl ⟨i, kd, j, (st.take (mtA Z')).reverse, rfl, hZ, hc.1, rfl, ?_, ?_, hok, hc2⟩⟩
    · rw [List.length_reverse, List.length_take]; omega
    · rw [List.reverse_reverse, ← h3, List.take_append_drop]
  case invokestatic i =>
    simp only [ex1] at h
    cases hbb : bltT (mtK Y) i with
    | none =>
      rw [hbb] at h
      obtain ⟨Z', hZ, h⟩ := oG_inv h
      obtain ⟨hc, h⟩ := if_inv h
      obtain ⟨hc3, h⟩ := if_inv h
      simp only [Option.some.injEq, Sum.inr.injEq, Sum.inl.injEq, Prod.mk.injEq] at h
      obtain ⟨rfl, rfl, rfl⟩ := h
      refine ⟨hc3.1, hc3.2.1, hc3.2.2.1, hc3.2.2.2, Or.inr ⟨i, rfl, hZ, hc.1, ?_, ?_⟩⟩
      · rw [List.length_reverse, List.length_take]; omega
      · rw [List.reverse_reverse, List.take_append_drop]
    | some bb =>
      rw [hbb] at h
      exfalso
      simp only [aBlt, sI, sR, nx] at h
      repeat' split at h
      all_goals cases h
  all_goals (exfalso; simp only [ex1, aPush, aLoadI, aLoadL, aLoadA, aStoreI, aStoreA, aStoreL, aBin, aDiv, aBr, aSwT, aSwL, nx, sI, sL, sR, sA, sV, gL, oG] at h)
  all_goals (repeat' split at h)
  all_goals (cases h)
/-- where a walk ends -/
def retAt (Y : MT) (v : Option AV) (pc : Nat) : Prop :=
  (v = none ∧ decode (mtC Y) pc = .ok (.return_, 1) ∧ mtR Y = none) ∨
  (∃ z, v = some (vI z) ∧ decode (mtC Y) pc = .ok (.ireturn, 1) ∧ (mtR Y = some .int ∨ (mtR Y = some .boolean ∧ (z = 0 ∨ z = 1)))) ∨
  (∃ z, v = some (vL z) ∧ decode (mtC Y) pc = .ok (.lreturn, 1) ∧ mtR Y = some .long) ∨
  (∃ k i, v = some (vR k i) ∧ decode (mtC Y) pc = .ok (.areturn, 1) ∧ (mtR Y = some (.object "Endlessrows$Row") ∨ mtR Y = some (.object "Endlessrows$Well")))
set_option maxHeartbeats 4000000 in
set_option maxRecDepth 100000 in
/-- which instructions end -/
theorem ex1_ret {Y : MT} {ins : ClassFile.Instr} {len pc : Nat} {ls : ALs} {st : List AV} {M : AMem} {v : Option AV} (hd : decode (mtC Y) pc = .ok (ins, len)) (h : ex1 Y ins len pc ls st M = some (.inr (.inr v))) : retAt Y v pc ∧ st = v.toList := by
  cases ins
  case ireturn =>
    obtain ⟨hc, h⟩ := if_inv h
    obtain ⟨z, r, h3, h⟩ := sI_inv h
    obtain ⟨hc2, h⟩ := if_inv h
    simp only [Option.some.injEq, Sum.inr.injEq] at h
    subst h
    subst hc
    exact ⟨Or.inr (Or.inl ⟨z, rfl, hd, hc2.2⟩), by rw [h3, hc2.1]; rfl⟩
  case lreturn =>
    obtain ⟨hc, h⟩ := if_inv h
    obtain ⟨z, r, h3, h⟩ := sL_inv h
    obtain ⟨hc2, h⟩ := if_inv h
    simp only [Option.some.injEq, Sum.inr.injEq] at h
    subst h
    subst hc
    exact ⟨Or.inr (Or.inr (Or.inl ⟨z, rfl, hd, hc2.2⟩)), by rw [h3, hc2.1]; rfl⟩
  case areturn =>
    obtain ⟨hc, h⟩ := if_inv h
    obtain ⟨k, i, r, h3, h⟩ := sA_inv h
    obtain ⟨hc2, h⟩ := if_inv h
    simp only [Option.some.injEq, Sum.inr.injEq] at h
    subst h
    subst hc
    exact ⟨Or.inr (Or.inr (Or.inr ⟨k, i, rfl, hd, hc2.2⟩)), by rw [h3, hc2.1]; rfl⟩
  case return_ =>
    obtain ⟨hc, h⟩ := if_inv h
    simp only [Option.some.injEq, Sum.inr.injEq] at h
    subst h
    obtain ⟨h1, h2, h3⟩ := hc
    subst h1
    exact ⟨Or.inl ⟨rfl, hd, h3⟩, h2⟩
  all_goals (exfalso; simp only [ex1, aPush, aLoadI, aLoadL, aLoadA, aStoreI, aStoreA, aStoreL, aBin, aDiv, aBr, aSwT, aSwL, nx, sI, sL, sR, sA, sV, gL, oG, aBlt, aVirt, aStat, aCall] at h)
  all_goals (repeat' split at h)
  all_goals (cases h)
section SIM
variable {p : Program} {l : Launch} {e : Env} {R : Room} {s : State} {m : MethodId} {args : Array Value} {below : List Frame} {meth : Method} {c : Code} {H : Heap} {locs : List Loc} {cells slots : Nat} {Q : State → Prop}
variable {D : va_G} {cI cR cW : ClassId} {B b L tB tF : Nat} {xs : Nat → Int32}
/-- a call's end -/
def er_Q (D : va_G) (cI cR cW : ClassId) (B b L tB tF : Nat) (xs : Nat → Int32) (v : Option AV) (M1 : AMem) : Array Value → State → Outcome → State → Prop := fun _ st oc t =>
  oc = .returned (v.map (tv (er_ad B b tB tF))) ∧ va_P D er_cl (er_ws (er_ad B b tB tF) cI cR cW M1) t.heap ∧ scrM L xs M1 ∧ va_F (fun q => B ≤ q) st t
/-- a call's start -/
def er_P (D : va_G) (cI cR cW : ClassId) (B b L tB tF : Nat) (xs : Nat → Int32) (as : List AV) (M : AMem) : Array Value → State → Prop :=
  va_Pc (as.map (tv (er_ad B b tB tF))) (fun U => er_S D cI cR cW B b L tB tF xs U ∧ va_P D er_cl (er_ws (er_ad B b tB tF) cI cR cW M) U.heap)
def er_w (Y : MT) : List Cond := Cond.code (mtN Y) (mtC Y) (mtL Y) (mtR Y) :: er_G
def er_R (d : Nat) : Room := { frames := d + 1, cells := 0, slots := 0, locals := 40 * d + 400 }
theorem er_P_blind {as : List AV} {M : AMem} : FrameBlind (er_P D cI cR cW B b L tB tF xs as M) := by
  intro a U g mk h
  obtain ⟨h1, h2, h3⟩ := h
  exact ⟨h1, er_S_calling g mk a h2, h3⟩
theorem er_call {pc : Nat} {lj : Array Slot} {rest st0 : List Value} {a : Array Value} {v : Option AV} {M1 : AMem}
    (hr : va_Run p l e R s m args below meth c H locs cells slots 0 0 (F0 m pc lj st0) rest (er_Q D cI cR cW B b L tB tF xs v M1 a) (fun q => B ≤ q)) (hS : va_S (fun q => B ≤ q) s.heap H locs)
    (kk : ∀ (H1 : Heap) (locs1 : List Loc), va_P D er_cl (er_ws (er_ad B b tB tF) cI cR cW M1) H1 → scrM L xs M1 → va_S (fun q => B ≤ q) s.heap H1 locs1 → W p l e R s m args below meth c H1 locs1 cells slots Q (F0 m (pc + 3) lj ((v.map (tv (er_ad B b tB tF))).toList ++ rest))) : W p l e R s m args below meth c H locs cells slots Q (F0 m pc lj st0) := by
  intro T hT X
  obtain ⟨w, st₀, t, T', L', h0, X', hL, e1, e2, ⟨hv, hP, hM, hz, hk⟩, st⟩ := hr T hT X
  simp only [Outcome.returned.injEq] at hv
  subst hv
  rw [h0] at hz hk
  obtain ⟨t2, a1, b1⟩ := kk T'.heap (locs ++ L') (by rw [e1]; exact hP) hM ⟨Nat.le_trans hS.1 (by rw [e1]; exact hz), fun q h1 h2 => by rw [e1, hk q (Nat.lt_of_lt_of_le h1 hS.1) h2]; exact hS.2.1 q h1 h2, fun q hq => by
      rcases List.mem_append.mp hq with h | h
      · exact hS.2.2 q h
      · exact hL q h⟩ T' rfl X'
  exact ⟨t2, st t2 a1, b1⟩
/-- from here the machine comes to the same end -/
def SimOK (l : Launch) (D : va_G) (cI cR cW : ClassId) (B b L tB tF : Nat) (xs : Nat → Int32) (d : Nat) (Y : MT) (pc : Nat) (ls : ALs) (st : List AV) (M : AMem) (v : Option AV) (M1 : AMem) : Prop :=
  ∀ (p : Program) (e : Env) (R : Room) (s : State) (m : MethodId) (args : Array Value) (below : List Frame) (meth : Method) (c : Code) (H : Heap) (locs : List Loc) (cells slots : Nat) (Q : State → Prop) (lj : Array Slot),
    er_C D cI cR cW B b L tB tF xs Y p R s m args meth c cells slots → d + 1 ≤ R.frames → 40 * d + 400 ≤ R.locals →
    va_P D er_cl (er_ws (er_ad B b tB tF) cI cR cW M) H → va_S (fun q => B ≤ q) s.heap H locs → lsR (er_ad B b tB tF) ls (mtL Y) lj → scrM L xs M →
    (∀ (pc' : Nat) (lj' : Array Slot) (H' : Heap) (locs' : List Loc), retAt Y v pc' → va_P D er_cl (er_ws (er_ad B b tB tF) cI cR cW M1) H' → va_S (fun q => B ≤ q) s.heap H' locs' → scrM L xs M1 → W p l e R s m args below meth c H' locs' cells slots Q (F0 m pc' lj' (v.toList.map (tv (er_ad B b tB tF))))) →
    W p l e R s m args below meth c H locs cells slots Q (F0 m pc lj (st.map (tv (er_ad B b tB tF))))
set_option maxHeartbeats 4000000 in
theorem met_of {d : Nat} {Z : MT} {as : List AV} {M M1 : AMem} {v : Option AV} (hZ : mtOK Z) (hc : ∀ x ∈ as, acat x = 1) (hn : as.length ≤ mtL Z) (hM : scrM L xs M) (h : SimOK l D cI cR cW B b L tB tF xs d Z 0 (lini Z as) [] M v M1) :
    Met l (mtN Z) (er_w Z) (er_R d) (er_P D cI cR cW B b L tB tF xs as M) (er_Q D cI cR cW B b L tB tF xs v M1) 0 0 (fun q => B ≤ q) := by
  refine Met.ofW (cc := mtC Z) (maxL := mtL Z) (ret := mtR Z) hZ.2.2.2.1 rfl ?_
  intro p e s m args below meth c s₁ BB hml hv
  obtain ⟨rfl, hS0, hP⟩ := hv
  have hts := atoms_spec (ws := er_w Z) BB.pre
  have hown : s.vm.findClass (mtN Z).cls = some m.cls := findClass_of_methodNamed BB.named
  rw [hZ.2.2.1] at hown
  rw [lg_entry_eq]
  have hlocks := BB.notSynchronized
  have hr := BB.returns
  have hx := BB.exec
  have hb := BB.bytes
  refine h p e (er_R d) s m _ below meth c s.heap [] 0 0 _ _ ⟨hx, hb, hr, hml, hown, fun w hw => hts w (List.mem_cons_of_mem _ hw), hS0, Nat.le_refl 0, Nat.le_refl 0, by show 1 ≤ d + 1; omega, by show 400 ≤ 40 * d + 400; omega⟩ (Nat.le_refl _) (Nat.le_refl _) hP va_S.rf (lsR_ini Z as hc hn) hM ?_
  intro pc' lj' H' locs' hra hP' hS' hM'
  have hq : ∀ t : State, t.heap = H' → s.WarmedH t.vm → er_Q D cI cR cW B b L tB tF xs v M1 (as.map (tv (er_ad B b tB tF))).toArray s (.returned (v.map (tv (er_ad B b tB tF)))) t := fun t ht _ => ⟨rfl, by rw [ht]; exact hP', hM', hS'.F ht⟩
  rcases hra with ⟨rfl, hd, hret⟩ | ⟨z, rfl, hd, hret | ⟨hret, hz⟩⟩ | ⟨z, rfl, hd, hret⟩ | ⟨k, i, rfl, hd, hret⟩
  · exact W.vret hx hb (hr.trans hret) hq hS'.2.2 hd
  · exact W.iret hx hb (hr.trans hret) hq hS'.2.2 hd
  · exact W.zret hx hb (hr.trans hret) (by rcases hz with rfl | rfl <;> rfl) hq hS'.2.2 hd
  · exact W.lret hx hb (hr.trans hret) hq hS'.2.2 hd
  · rcases hret with hret | hret
    · exact W.aret hx hb (hr.trans hret) (Or.inl ⟨_, rfl⟩) (Or.inr ⟨_, rfl⟩) hq hS'.2.2 hd
    · exact W.aret hx hb (hr.trans hret) (Or.inl ⟨_, rfl⟩) (Or.inr ⟨_, rfl⟩) hq hS'.2.2 hd
end SIM
