/-! THE LAW: numbers by cells, and what is done by them -/
theorem and_ok (x : Int) : 0 ≤ opAnd x 2147483647 ∧ opAnd x 2147483647 < 2147483648 := by
  unfold opAnd
  have hm : ((Int32.ofInt x &&& Int32.ofInt 2147483647).toBitVec).msb = false := by
    rw [Int32.toBitVec_and, BitVec.msb_and, show (Int32.ofInt 2147483647).toBitVec.msb = false from by decide, Bool.and_false]
  have e : (Int32.ofInt x &&& Int32.ofInt 2147483647).toInt = ((Int32.ofInt x &&& Int32.ofInt 2147483647).toBitVec.toNat : Int) := BitVec.toInt_eq_toNat_of_msb hm
  have h2 := BitVec.msb_eq_false_iff_two_mul_lt.mp hm
  rw [e]
  omega
theorem S_below {d n : Nat} {x : Int} {M : AMem} {Q : Int → AMem → Prop} (h0 : 0 < n) (hn : n < 2147483648) (h : ∀ k : Nat, k < n → Q (k : Int) M) : CallI d m_L_below [vI x, vI (n : Int)] M Q := by
  refine T_L_below_0 ?_
  have ha := and_ok x
  rw [w_n hn, wI_eq (z := opAnd x 2147483647) (by omega) ha.2, tm_pos _ ha.1]
  refine ⟨by omega, _, rfl, ?_⟩
  have h1 : 0 ≤ opAnd x 2147483647 % (n : Int) := Int.emod_nonneg _ (by omega)
  have h2 : opAnd x 2147483647 % (n : Int) < n := Int.emod_lt_of_pos _ (by omega)
  have := h (opAnd x 2147483647 % (n : Int)).toNat (by omega)
  rw [Int.toNat_of_nonneg h1] at this
  exact this
theorem S_roll {d : Nat} {x : Int} {H : HS} {M : AMem} {Q : Int → AMem → Prop} (hH : HIs M H) (hx : 0 ≤ x ∧ x < 2147483648) (h : ∀ z, Q z M) : CallI (d + 1) m_L_roll [vR 9 0, vI x] M Q := by
  refine T_L_roll_0 (T_L_cell_0 ?_)
  have hl := hH.2.2.2.2
  rw [wI_eq (z := x) (by omega) hx.2, tm_pos _ hx.1]
  have h1 : 0 ≤ x % 20 := Int.emod_nonneg _ (by omega)
  have h2 : x % 20 < 20 := Int.emod_lt_of_pos _ (by omega)
  rw [wI_eq (z := x % 20) (by omega) (by omega), w_n (show alen 9 M < 2147483648 from by show (M 9 1 0).toNat < 2147483648; omega)]
  exact ⟨fun _ => ⟨_, rfl, _, rfl, h _⟩, fun z => ⟨by omega, _, rfl, _, rfl, h _⟩⟩
theorem S_lbegin {d w k : Nat} {x y : Int} {H : HS} {M : AMem} {Q : AMem → Prop} (hw5 : w < 5) (hk : k < 6) (hH : HIs M H) (h : ∀ M' H', HIs M' H' → Q M') : CallV (d + 20) m_L_begin [vR 3 0, vI (w : Int), vI (k : Int), vI x, vI y] M Q := by
  refine T_L_begin_0 (S_below (n := 6) (by omega) (by omega) fun a ha => S_below (n := 6) (by omega) (by omega) fun b hb => ?_)
  rw [w_n (show k < 2147483648 by omega)]
  refine ⟨fun _ => ?_, fun _ => ?_, fun _ => ?_, fun _ => ?_, fun _ => ?_, fun _ => ?_⟩
  · refine S_below (n := 63) (by omega) (by omega) fun s hs => ?_
    rw [show (1 : Int) + (s : Int) = ((1 + s : Nat) : Int) from by omega]
    exact S_hpowers (d := d + 9) hw5 (by omega) hH fun _ _ h' => ⟨rfl, h _ _ h'⟩
  · exact S_hsums (d := d + 9) hw5 ha hb hH fun _ _ h' => ⟨rfl, h _ _ h'⟩
  · refine S_below (n := 6) (by omega) (by omega) fun c hc => ?_
    exact S_htriples (d := d + 9) hw5 ha hb hc hH fun _ _ h' => ⟨rfl, h _ _ h'⟩
  · refine S_below (n := 63) (by omega) (by omega) fun s hs => S_below (n := 2) (by omega) (by omega) fun f hf => ?_
    rw [show (1 : Int) + (s : Int) = ((1 + s : Nat) : Int) from by omega]
    exact ⟨fun _ => S_hmerge (d := d + 9) hw5 (by omega) (Or.inl rfl) hH fun _ _ h' => ⟨rfl, h _ _ h'⟩, fun _ => S_hmerge (d := d + 9) hw5 (by omega) (Or.inr rfl) hH fun _ _ h' => ⟨rfl, h _ _ h'⟩⟩
  · exact S_htable (d := d + 9) hw5 ha hb hH fun _ _ h' => ⟨rfl, h _ _ h'⟩
  · exact S_hprimes (d := d + 9) hw5 hH fun _ _ h' => ⟨rfl, h _ _ h'⟩
theorem S_act {d w k : Nat} {x y : Int} {H : HS} {M : AMem} {Q : AMem → Prop} (hw5 : w < 5) (hk : k < 13) (hH : HIs M H) (h : ∀ M' H', HIs M' H' → Q M') : CallV (d + 30) m_L_act [vR 3 0, vI (w : Int), vI (k : Int), vI x, vI y] M Q := by
  refine T_L_act_0 ?_
  rw [w_n (show k < 2147483648 by omega)]
  refine ⟨fun _ => ?_, fun _ => ?_, fun _ => ?_, fun _ => ?_, fun _ => ?_, fun _ => ?_, fun _ => ?_, fun _ => ?_, fun _ => ?_, fun _ => ?_, fun _ => ?_, fun _ => ?_⟩
  · exact S_below (n := 6) (by omega) (by omega) fun a ha => S_lbegin (d := d + 9) hw5 ha hH fun _ _ h' => ⟨rfl, h _ _ h'⟩
  · exact S_below (n := 6) (by omega) (by omega) fun a ha => S_below (n := 1000) (by omega) (by omega) fun b hb => S_hadd (d := d + 19) ha (by omega) hH fun _ _ _ h' => ⟨rfl, h _ _ h'⟩
  · refine S_below (n := 6) (by omega) (by omega) fun a ha => S_below (n := 100) (by omega) (by omega) fun b hb => S_below (n := 30) (by omega) (by omega) fun c hc => S_below (n := 8) (by omega) (by omega) fun e he => ?_
    rw [show (1 : Int) + (e : Int) = ((1 + e : Nat) : Int) from by omega]
    exact S_hfill (d := d + 19) ha (by omega) (by omega) (by omega) hH fun _ _ _ h' => ⟨rfl, h _ _ h'⟩
  · exact S_below (n := 6) (by omega) (by omega) fun a ha => S_hcut (d := d + 19) ha hH fun _ _ _ h' => ⟨rfl, h _ _ h'⟩
  · exact S_below (n := 6) (by omega) (by omega) fun a ha => S_hclose (d := d + 19) hw5 ha hH (fun _ _ _ _ h' => ⟨rfl, h _ _ h'⟩) (fun _ => ⟨rfl, h _ _ hH⟩)
  · exact S_below (n := 1000001) (by omega) (by omega) fun a ha => S_hskip (d := d + 19) hw5 (by omega) hH fun _ _ _ h' => ⟨rfl, h _ _ h'⟩
  · exact S_below (n := 5) (by omega) (by omega) fun a ha => S_hcopy (d := d + 19) hw5 ha hH fun _ h' => ⟨rfl, h _ _ h'⟩
  · exact S_hanew (d := d + 19) hw5 hH (fun _ _ _ h' => ⟨rfl, h _ _ h'⟩) (fun _ => ⟨rfl, h _ _ hH⟩)
  · exact S_hagain (d := d + 19) hw5 hH (fun _ _ _ h' => ⟨rfl, h _ _ h'⟩) (fun _ => ⟨rfl, h _ _ hH⟩)
  · exact S_below (n := 4) (by omega) (by omega) fun a ha => ⟨fun _ => S_hshake (d := d + 19) hw5 hH (fun _ _ h' => ⟨rfl, h _ _ h'⟩) (fun _ => ⟨rfl, h _ _ hH⟩), fun _ => S_hdrop (d := d + 19) hw5 hH (fun _ _ h' => ⟨rfl, h _ _ h'⟩)⟩
  · exact S_hdraw (d := d + 19) hw5 hH fun _ h' => ⟨rfl, h _ _ h'⟩
  · refine S_below (n := 20) (by omega) (by omega) fun a ha => ?_
    rw [show (1 : Int) + (a : Int) = ((1 + a : Nat) : Int) from by omega]
    exact S_hdraws (d := d + 19) hw5 (by omega) hH fun _ _ _ h' => ⟨rfl, h _ _ h'⟩
