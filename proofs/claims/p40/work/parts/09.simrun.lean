theorem mthT_ok {c i : Nat} {Z : MT} (h : mthT c i = some Z) : Cond.methodLink (cN c) i (mtN Z) ∈ er_G ∧ mtOK Z := er_calls_ok _ (er_find_mem h)
theorem er_good_in (Y : MT) (h : Cond.code (mtN Y) (mtC Y) (mtL Y) (mtR Y) ∈ er_G) : GoodIn er_G (er_w Y) := fun w hw => by
  have h1 : w ∈ er_G := by
    rcases List.mem_cons.mp hw with rfl | h1
    · exact h
    · exact h1
  exact ⟨h1, good_of_word (er_good w h1)⟩
set_option maxRecDepth 20000 in
theorem room_ar {a d x : Nat} (h : a ≤ 13) (h2 : 40 * (d + 1) + 400 ≤ x) : 8 + (a + 11) + (40 * d + 400) ≤ x := by omega
theorem er_good_1 {w : Cond} (h : w ∈ er_G) : w ∈ er_G ∧ ((w.onTables && w.keeps) = true ∨ ∃ ty, w = .arrayClass ty) := ⟨h, good_of_word (er_good w h)⟩
theorem acat_le {as : List AV} (h : (as.map acat).sum = as.length) : ∀ x ∈ as, acat x = 1 := by
  induction as with
  | nil => intro x hx; cases hx
  | cons v r ih =>
    have hv : 1 ≤ acat v := by rcases v with z | z | ⟨k, i⟩ <;> simp [acat]
    have hr : ∀ r : List AV, r.length ≤ (r.map acat).sum := by
      intro r
      induction r with
      | nil => simp
      | cons w r ih =>
        have hw : 1 ≤ acat w := by rcases w with z | z | ⟨k, i⟩ <;> simp [acat]
        simp only [List.map_cons, List.sum_cons, List.length_cons]
        omega
    have h2 := hr r
    simp only [List.map_cons, List.sum_cons, List.length_cons] at h
    intro x hx
    rcases List.mem_cons.mp hx with rfl | hx
    · omega
    · exact ih (by omega) x hx
section SIM
variable {D : va_G} {cI cR cW : ClassId} {B b L tB tF : Nat} {xs : Nat → Int32}
set_option maxHeartbeats 4000000 in
theorem sim (l : Launch) : ∀ (n d : Nat) (Y : MT) (pc : Nat) (ls : ALs) (st : List AV) (M : AMem) (v : Option AV) (M1 : AMem), run n d Y pc ls st M = some (v, M1) → SimOK l D cI cR cW B b L tB tF xs d Y pc ls st M v M1 := by
  intro n
  induction n with
  | zero => intro d Y pc ls st M v M1 h; simp [run] at h
  | succ n ih =>
    intro d Y pc ls st M v M1 h
    unfold run at h
    cases hd : decode (mtC Y) pc with
    | error er => rw [hd] at h; cases h
    | ok q =>
      obtain ⟨ins, len⟩ := q
      rw [hd] at h
      dsimp only at h
      cases hx1 : ex1 Y ins len pc ls st M with
      | none => rw [hx1] at h; cases h
      | some R1 =>
        rw [hx1] at h
        rcases R1 with ⟨pc', ls', st', M'⟩ | ⟨Z, as, r⟩ | w
        · -- a step
          dsimp only at h
          intro p e R s m args below meth c H locs cells slots Q lj C0 hR1 hR2 hP hS hl hM hE
          exact step_next C0 hd hx1 hP hS hl hM (fun H' locs' lj' hP' hS' hl' hM' => ih d Y pc' ls' st' M' v M1 h p e R s m args below meth c H' locs' cells slots Q lj' C0 hR1 hR2 hP' hS' hl' hM' hE)
        · -- a call
          dsimp only at h
          cases d with
          | zero => cases h
          | succ d' =>
            dsimp only at h
            cases hz : run n d' Z 0 (lini Z as) [] M with
            | none => rw [hz] at h; cases h
            | some q =>
              obtain ⟨w, M2⟩ := q
              rw [hz] at h
              dsimp only at h
              intro p e R s m args below meth c H locs cells slots Q lj C0 hR1 hR2 hP hS hl hM hE
              obtain ⟨hlen, hsum, hcat, hasl, hk⟩ := ex1_call hx1
              subst hlen
              have hC := C0
              obtain ⟨hx, hb, hr, hml, hown, hts, hS0, hcl, hsl, hfr, hlo⟩ := hC
              have hmt : mtOK Z ∧ ∃ i, Cond.methodLink (cN (mtK Y)) i (mtN Z) ∈ er_G ∧ ((ins = .invokevirtual i ∧ mtS Z = false ∧ ∃ k j ps, as = vR k j :: ps ∧ ps.length = mtA Z ∧ st = ps.reverse ++ vR k j :: r ∧ okH k j = true ∧ k = mtK Z) ∨ (ins = .invokestatic i ∧ mtS Z = true ∧ as.length = mtA Z ∧ st = as.reverse ++ r)) := by
                rcases hk with ⟨i, k, j, ps, h1, h2, h3, h4, h5, h6, h7, h8⟩ | ⟨i, h1, h2, h3, h4, h5⟩
                · exact ⟨(mthT_ok h2).2, i, (mthT_ok h2).1, Or.inl ⟨h1, h3, k, j, ps, h4, h5, h6, h7, h8⟩⟩
                · exact ⟨(mthT_ok h2).2, i, (mthT_ok h2).1, Or.inr ⟨h1, h3, h4, h5⟩⟩
              obtain ⟨hZ, i, hlk, hk⟩ := hmt
              have hZ0 := hZ
              obtain ⟨z1, z2, z3, z4, z5, z6, z7⟩ := hZ
              have hM1 : Met l (mtN Z) (er_w Z) (er_R d') (er_P D cI cR cW B b L tB tF xs as M) (er_Q D cI cR cW B b L tB tF xs w M2) 0 0 (fun q => B ≤ q) := met_of hZ0 (acat_le hcat) hasl hM (ih d' Z 0 (lini Z as) [] M w M2 hz)
              have hroom : (er_R d').frames + 1 ≤ R.frames ∧ 8 + (mtL Z + 11) + (er_R d').locals ≤ R.locals := by
                constructor
                · show d' + 1 + 1 ≤ R.frames
                  omega
                · exact room_ar z6 hR2
              have hs2 : ((r.map (tv (er_ad B b tB tF))).map fun v => v.category).sum = (r.map acat).sum := by
                rw [List.map_map]
                congr 1
                exact List.map_congr_left (fun v _ => tv_cat _ v)
              have hPc : ∀ U : State, U.heap = H → s.WarmedH U.vm → er_P D cI cR cW B b L tB tF xs as M (as.map (tv (er_ad B b tB tF))).toArray U := fun U hU hW => ⟨rfl, er_S_moved hS0 hW (by rw [hU]; exact hS.1) (fun q h1 h2 => by rw [hU]; exact hS.2.1 q h1 h2), by rw [hU]; exact hP⟩
              have hgo : ∀ (H1 : Heap) (locs1 : List Loc), va_P D er_cl (er_ws (er_ad B b tB tF) cI cR cW M2) H1 → scrM L xs M2 → va_S (fun q => B ≤ q) s.heap H1 locs1 → W p l e R s m args below meth c H1 locs1 cells slots Q (F0 m (pc + 3) lj ((w.map (tv (er_ad B b tB tF))).toList ++ r.map (tv (er_ad B b tB tF)))) := by
                intro H1 locs1 hP1 hM2 hS1
                have h9 := ih (d' + 1) Y (pc + 3) ls (w.toList ++ r) M2 v M1 h p e R s m args below meth c H1 locs1 cells slots Q lj C0 hR1 hR2 hP1 hS1 hl hM2 hE
                rw [List.map_append] at h9
                cases w with
                | none => exact h9
                | some w => exact h9
              rcases hk with ⟨h1, h3, k, j, ps, h4, h5, h6, h7, h8⟩ | ⟨h1, h3, h4, h5⟩
              · subst h1
                rw [h3] at z7
                simp only [Bool.false_eq_true, if_false] at z7
                obtain ⟨z7, z8, z9⟩ := z7
                subst h8
                subst h4
                have he := er_ws_at (ad := er_ad B b tB tF) (cI := cI) (cR := cR) (cW := cW) (M := M) (show mtK Z < 9 by omega) h7
                rw [ent_obj _ _ _ _ _ _ z9] at he
                have hK := hS0.2.1
                have hrec := va_recv hK hP (er_cl_at z9) he
                refine er_call (va_runV (As := ps.map (tv (er_ad B b tB tF))) (b := er_ad B b tB tF (mtK Z) j) (C := (mtN Z).cls) (n := mtA Z) (index := i) ⟨hx, hb, hml, hown, hts⟩ hM1
                  ⟨⟨rfl, rfl, hroom.1, hroom.2, pay_in hts (er_good_in Z z1), List.mem_cons_self, hts _ z1, hts _ z2, ⟨z5.1, z5.2.1⟩, fun sig hsig => by
                    have h2 := z5.2.2
                    rw [hsig] at h2
                    exact (Option.some.inj h2).symm, hts _ hlk⟩, hts _ z7, hts _ z8⟩
                  ⟨er_P_blind, by rw [z3]; exact hrec, hPc⟩ rfl (by rw [List.length_map]; exact h5) hl.2.1 (by
                    show st.map (tv (er_ad B b tB tF)) = _
                    rw [h6, List.map_append, List.map_reverse, List.map_cons]
                    rfl) (lv_room (by rw [hs2]; exact hsum)) hd ⟨by omega, by omega⟩) hS hgo
              · subst h1
                rw [h3] at z7
                simp only [if_true] at z7
                exact er_call (va_runS (As := as.map (tv (er_ad B b tB tF))) (n := mtA Z) (index := i) ⟨hx, hb, hml, hown, hts⟩ hM1
                  ⟨⟨rfl, rfl, hroom.1, hroom.2, pay_in hts (er_good_in Z z1), List.mem_cons_self, hts _ z1, hts _ z2, ⟨z5.1, z5.2.1⟩, fun sig hsig => by
                    have h2 := z5.2.2
                    rw [hsig] at h2
                    exact (Option.some.inj h2).symm, hts _ hlk⟩, hts _ z7⟩
                  ⟨er_P_blind, hPc⟩ rfl (by rw [List.length_map]; exact h4) hl.2.1 (by
                    show st.map (tv (er_ad B b tB tF)) = _
                    rw [h5, List.map_append, List.map_reverse]) (lv_room (by rw [hs2]; exact hsum)) hd ⟨by omega, by omega⟩) hS hgo
        · -- the end
          dsimp only at h
          obtain ⟨h1, h2⟩ := ex1_ret hd hx1
          simp only [Option.some.injEq, Prod.mk.injEq] at h
          obtain ⟨rfl, rfl⟩ := h
          intro p e R s m args below meth c H locs cells slots Q lj C0 hR1 hR2 hP hS hl hM hE
          rw [h2]
          exact hE pc lj H locs h1 hP hS hM
end SIM
