/-! THE HOUSE: its numbers, and the checksum of it all -/
def itr (g : Nat → Int → Int) : Nat → Nat → Int → Int
  | 0, _, x => x
  | f + 1, k, x => itr g f (k + 1) (g k x)
def sh (c : CS) (n : Nat) (L : List Int) (q : Nat) : Int := match q with
  | 0 => if cK c = -1 then 0 else 1
  | 1 => if cK c ≠ -1 ∧ (100 ≤ n ∨ L.length ≤ n) then 1 else 0
  | 2 => n
  | _ => (wq c n L).length
theorem S_shareOf {d w q : Nat} {H : HS} {M : AMem} {Q : Int → AMem → Prop} (hw5 : w < 5) (hq : q < 4) (hH : HIs M H)
    (h : Q (sh (H.2.1 w).1 (H.2.1 w).2.2.1 (H.2.1 w).2.2.2 q) M) : CallI (d + 10) m_H_shareOf [vR 2 w, vI (q : Int)] M Q := by
  refine T_H_shareOf_0 (ok2 (by omega)) ?_
  have hW := hH.well hw5
  obtain ⟨w2, w3, w4, w5, w6, w7, wR, wQ, wO⟩ := id hW
  have h7 : w < 7 := by omega
  rw [w_n (show q < 2147483648 by omega)]
  refine ⟨fun z => ?_, fun z => ?_, fun z => ?_, fun z => ?_⟩
  · obtain rfl : q = 0 := by omega
    change Q (if cK (H.2.1 w).1 = -1 then 0 else 1) M at h
    refine S_isEmpty h7 hW (fun e => ?_) (fun e => ?_)
    · rw [if_pos e] at h
      exact ⟨fun z => absurd z (by decide), fun _ => ⟨_, rfl, h⟩⟩
    · rw [if_neg e] at h
      exact ⟨fun _ => ⟨_, rfl, h⟩, fun z => absurd (by decide : wI 0 = 0) z⟩
  · obtain rfl : q = 1 := by omega
    change Q (if cK (H.2.1 w).1 ≠ -1 ∧ (100 ≤ (H.2.1 w).2.2.1 ∨ (H.2.1 w).2.2.2.length ≤ (H.2.1 w).2.2.1) then 1 else 0) M at h
    refine S_isEmpty h7 hW (fun e => ?_) (fun e => ?_)
    · rw [if_neg (fun z => z.1 e)] at h
      exact ⟨fun _ => ⟨_, rfl, h⟩, fun z => absurd (by decide : ¬ wI 1 = 0) z⟩
    · refine ⟨fun z => absurd (by decide : wI 0 = 0) z, fun _ => ?_⟩
      refine S_isDry h7 hW (fun e1 => ?_) (fun e1 => ?_)
      · rw [if_pos ⟨e, e1⟩] at h
        exact ⟨fun z => absurd z (by decide), fun _ => ⟨_, rfl, h⟩⟩
      · rw [if_neg (fun z => e1 z.2)] at h
        exact ⟨fun _ => ⟨_, rfl, h⟩, fun z => absurd (by decide : wI 0 = 0) z⟩
  · obtain rfl : q = 2 := by omega
    rw [w6]; exact ⟨_, rfl, h⟩
  · obtain rfl : q = 3 := by omega
    rw [wQ.1]; exact ⟨_, rfl, h⟩
def hv (H : HS) (q : Nat) : Int := if q = 5 then H.2.2 else if q = 4 then itr (fun r x => x + ((H.1 r).length : Int)) 6 0 0 else itr (fun w x => x + sh (H.2.1 w).1 (H.2.1 w).2.2.1 (H.2.1 w).2.2.2 q) 5 0 0
theorem house_56 {d q : Nat} {H : HS} {M : AMem} {Q : Option AV → AMem → Prop} (hq : q < 4) (hH : HIs M H) :
    ∀ (f k : Nat) (x : Int), k + f = 5 → Q (some (vI (itr (fun w x => x + sh (H.2.1 w).1 (H.2.1 w).2.2.1 (H.2.1 w).2.2.2 q) f k x))) M → RunQ (d + 11) m_H_house 56 [some (vR 3 0), some (vI (q : Int)), some (vI x), some (vI (k : Int))] [] M Q := by
  intro f
  induction f with
  | zero =>
    intro k x hk h
    refine T_H_house_56 ?_
    rw [w_n (show k < 2147483648 by omega)]
    exact ⟨fun _ => h, fun z => by omega⟩
  | succ f ih =>
    intro k x hk h
    refine T_H_house_56 ?_
    rw [w_n (show k < 2147483648 by omega), Int.toNat_natCast]
    refine ⟨fun z => by omega, fun _ => ⟨by omega, S_shareOf (by omega) hq hH ?_⟩⟩
    exact ih (k + 1) _ (by omega) h
theorem house_25 {d : Nat} {x1 : Int} {H : HS} {M : AMem} {Q : Option AV → AMem → Prop} (hH : HIs M H) :
    ∀ (f k : Nat) (x : Int), k + f = 6 → Q (some (vI (itr (fun r x => x + ((H.1 r).length : Int)) f k x))) M → RunQ (d + 11) m_H_house 25 [some (vR 3 0), some (vI x1), some (vI x), some (vI (k : Int))] [] M Q := by
  intro f
  induction f with
  | zero =>
    intro k x hk h
    refine T_H_house_25 ?_
    rw [w_n (show k < 2147483648 by omega)]
    exact ⟨fun _ => h, fun z => by omega⟩
  | succ f ih =>
    intro k x hk h
    refine T_H_house_25 ?_
    rw [w_n (show k < 2147483648 by omega), Int.toNat_natCast, (hH.row (show k < 6 by omega)).1]
    refine ⟨fun z => by omega, fun _ => ⟨by omega, ?_⟩⟩
    exact ih (k + 1) _ (by omega) h
theorem S_house {d q : Nat} {H : HS} {M : AMem} {Q : Int → AMem → Prop} (hq : q < 6) (hH : HIs M H) (h : Q (hv H q) M) : CallI (d + 11) m_H_house [vR 3 0, vI (q : Int)] M Q := by
  refine T_H_house_0 (S_within (by omega) (by omega) ?_)
  rw [w_n (show q < 2147483648 by omega)]
  unfold hv at h
  refine ⟨fun z5 => ?_, fun z5 => ?_⟩
  · rw [if_neg (by omega)] at h
    refine ⟨fun z4 => ?_, fun z4 => ?_⟩
    · rw [if_neg (by omega)] at h
      exact house_56 (by omega) hH 5 0 0 rfl ⟨_, rfl, h⟩
    · rw [if_pos (by omega)] at h
      exact house_25 hH 6 0 0 rfl ⟨_, rfl, h⟩
  · rw [if_pos (by omega)] at h
    rw [hH.2.2.2.1]
    exact ⟨_, rfl, h⟩
def dg1 (H : HS) : Nat → Int → Int := fun q x => x * 31 + wI (hv H q)
def dg2 (H : HS) (r : Nat) : Nat → Int → Int := fun p x => x * 31 + wI (nAt (H.1 r) (p : Int))
def dg3 (H : HS) : Nat → Int → Int := fun r x => itr (dg2 H r) (H.1 r).length 0 (x * 31 + wI ((H.1 r).length : Int))
def dg4 (H : HS) (w : Nat) : Nat → Int → Int := fun q x => x * 31 + wI (ofW (H.2.1 w).1 (H.2.1 w).2.1 (H.2.1 w).2.2.1 (H.2.1 w).2.2.2 q)
def dg5 (H : HS) : Nat → Int → Int := fun w x => itr (dg4 H w) 10 0 x * 31 + wI (pek (H.2.1 w).2.2.1 (H.2.1 w).2.2.2)
def dig (H : HS) : Int := itr (dg5 H) 5 0 (itr (dg3 H) 6 0 (itr (dg1 H) 6 0 7980)) * 31 + 1
theorem dig_103 {d w : Nat} {H : HS} {M : AMem} {Q : Option AV → AMem → Prop} {u5 : Option AV} (hw5 : w < 5) (hH : HIs M H) :
    ∀ (f k : Nat) (x : Int), k + f = 10 → (∀ u, RunQ (d + 30) m_H_digest 95 [some (vR 3 0), some (vL (itr (dg4 H w) f k x * 31 + wI (pek (H.2.1 w).2.2.1 (H.2.1 w).2.2.2))), none, some (vI ((w + 1 : Nat) : Int)), u, u5] [] M Q) →
      RunQ (d + 30) m_H_digest 103 [some (vR 3 0), some (vL x), none, some (vI (w : Int)), some (vI (k : Int)), u5] [] M Q := by
  intro f
  induction f with
  | zero =>
    intro k x hk h
    refine T_H_digest_103 ?_
    rw [w_n (show k < 2147483648 by omega)]
    exact ⟨fun _ => S_hpeek hw5 hH (h _), fun z => by omega⟩
  | succ f ih =>
    intro k x hk h
    refine T_H_digest_103 ?_
    rw [w_n (show k < 2147483648 by omega)]
    refine ⟨fun z => by omega, fun _ => S_ofWell hw5 (by omega) hH ?_⟩
    exact ih (k + 1) _ (by omega) h
theorem dig_95 {d : Nat} {H : HS} {M : AMem} {Q : Int → AMem → Prop} {u5 : Option AV} (hH : HIs M H) :
    ∀ (f w : Nat) (x : Int) (u : Option AV), w + f = 5 → (∀ M', HIs M' H → Q (itr (dg5 H) f w x * 31 + 1) M') →
      RunQ (d + 30) m_H_digest 95 [some (vR 3 0), some (vL x), none, some (vI (w : Int)), u, u5] [] M (fun v M1 => ∃ x, v = some (vL x) ∧ Q x M1) := by
  intro f
  induction f with
  | zero =>
    intro w x u hw h
    refine T_H_digest_95 ?_
    rw [w_n (show w < 2147483648 by omega)]
    refine ⟨fun _ => S_isSound (d := d + 9) hH fun M' h' => ⟨fun z => absurd z (by decide), fun _ => ⟨_, rfl, h _ h'⟩⟩, fun z => by omega⟩
  | succ f ih =>
    intro w x u hw h
    refine T_H_digest_95 ?_
    rw [w_n (show w < 2147483648 by omega)]
    refine ⟨fun z => by omega, fun _ => ?_⟩
    exact dig_103 (by omega) hH 10 0 x rfl fun u => ih (w + 1) _ u (by omega) h
theorem dig_59 {d r n : Nat} {H : HS} {M : AMem} {Q : Option AV → AMem → Prop} (hr6 : r < 6) (hn : n ≤ 8) (hH : HIs M H) :
    ∀ (f k : Nat) (x : Int), k + f = n → (∀ u u', RunQ (d + 30) m_H_digest 33 [some (vR 3 0), some (vL (itr (dg2 H r) f k x)), none, some (vI ((r + 1 : Nat) : Int)), u, u'] [] M Q) →
      RunQ (d + 30) m_H_digest 59 [some (vR 3 0), some (vL x), none, some (vI (r : Int)), some (vI (n : Int)), some (vI (k : Int))] [] M Q := by
  intro f
  induction f with
  | zero =>
    intro k x hk h
    refine T_H_digest_59 ?_
    rw [w_n (show k < 2147483648 by omega), w_n (show n < 2147483648 by omega)]
    exact ⟨fun _ => h _ _, fun z => by omega⟩
  | succ f ih =>
    intro k x hk h
    refine T_H_digest_59 ?_
    rw [w_n (show k < 2147483648 by omega), w_n (show n < 2147483648 by omega)]
    refine ⟨fun z => by omega, fun _ => S_hrowAt hr6 (by omega) hH ?_⟩
    exact ih (k + 1) _ (by omega) h
theorem dig_33 {d : Nat} {H : HS} {M : AMem} {Q : Option AV → AMem → Prop} (hH : HIs M H) :
    ∀ (f r : Nat) (x : Int) (u u' : Option AV), r + f = 6 → (∀ u u', RunQ (d + 30) m_H_digest 95 [some (vR 3 0), some (vL (itr (dg3 H) f r x)), none, some (vI ((0 : Nat) : Int)), u, u'] [] M Q) →
      RunQ (d + 30) m_H_digest 33 [some (vR 3 0), some (vL x), none, some (vI (r : Int)), u, u'] [] M Q := by
  intro f
  induction f with
  | zero =>
    intro r x u u' hf h
    refine T_H_digest_33 ?_
    rw [w_n (show r < 2147483648 by omega)]
    exact ⟨fun _ => h _ _, fun z => by omega⟩
  | succ f ih =>
    intro r x u u' hf h
    refine T_H_digest_33 ?_
    rw [w_n (show r < 2147483648 by omega)]
    refine ⟨fun z => by omega, fun _ => S_hrowSize (by omega) hH ?_⟩
    exact dig_59 (by omega) (hH.row (show r < 6 by omega)).2.2.1 hH _ 0 _ (Nat.zero_add _) fun u u' => ih (r + 1) _ u u' (by omega) h
theorem dig_6 {d : Nat} {H : HS} {M : AMem} {Q : Option AV → AMem → Prop} (hH : HIs M H) :
    ∀ (f q : Nat) (x : Int), q + f = 6 → RunQ (d + 30) m_H_digest 33 [some (vR 3 0), some (vL (itr (dg1 H) f q x)), none, some (vI ((0 : Nat) : Int)), none, none] [] M Q →
      RunQ (d + 30) m_H_digest 6 [some (vR 3 0), some (vL x), none, some (vI (q : Int)), none, none] [] M Q := by
  intro f
  induction f with
  | zero =>
    intro q x hf h
    refine T_H_digest_6 ?_
    rw [w_n (show q < 2147483648 by omega)]
    exact ⟨fun _ => h, fun z => by omega⟩
  | succ f ih =>
    intro q x hf h
    refine T_H_digest_6 ?_
    rw [w_n (show q < 2147483648 by omega)]
    refine ⟨fun z => by omega, fun _ => S_house (d := d + 18) (by omega) hH ?_⟩
    exact ih (q + 1) _ (by omega) h
theorem S_digest {d : Nat} {H : HS} {M : AMem} {Q : Int → AMem → Prop} (hH : HIs M H) (h : ∀ M', HIs M' H → Q (dig H) M') : CallL (d + 30) m_H_digest [vR 3 0] M Q :=
  T_H_digest_0 (dig_6 hH 6 0 7980 rfl (dig_33 hH 6 0 _ none none rfl fun u u' => dig_95 hH 5 0 _ u rfl h))
