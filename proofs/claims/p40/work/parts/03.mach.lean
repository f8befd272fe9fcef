/-! THE SMALL MACHINE: ints are whole numbers (taken modulo 2^32 where they are compared), an object is a kind and a number; its references never change behind the constructor -/
abbrev AV : Type := Int ⊕ (Int ⊕ (Nat × Nat))
def vI (z : Int) : AV := .inl z
def vL (z : Int) : AV := .inr (.inl z)
def vR (k i : Nat) : AV := .inr (.inr (k, i))
abbrev AMem : Type := Nat → Nat → Nat → Int
abbrev ALs : Type := List (Option AV)
def wI (z : Int) : Int := (z + 2147483648) % 4294967296 - 2147483648
def wL (z : Int) : Int := (z + 9223372036854775808) % 18446744073709551616 - 9223372036854775808
def aup (M : AMem) (k i s : Nat) (v : Int) : AMem := fun k' i' s' => if k' = k ∧ i' = i ∧ s' = s then v else M k' i' s'
def acopy (M : AMem) (k i j n : Nat) : AMem := fun k' i' s' => if k' = k ∧ i' = j ∧ s' < n then M k i s' else M k' i' s'
/-- kinds: 0 Queue, 1 Row, 2 Well, 3 the house; 4 a queue's keys, 5 a row's numbers, 6 a well's rows, 7 the house's rows, 8 its wells, 9 the script, 10 BASES, 11 FEW -/
def okH (k i : Nat) : Bool := match k with
  | 0 => decide (i < 7)
  | 1 => decide (i < 49)
  | 2 => decide (i < 7)
  | 3 => decide (i = 0)
  | 4 => decide (i < 7)
  | 5 => decide (i < 49)
  | 6 => decide (i < 7)
  | 7 => decide (i = 0)
  | 8 => decide (i = 0)
  | 9 => decide (i = 0)
  | 10 => decide (i = 0)
  | 11 => decide (i = 0)
  | _ => false
/-- what a field holds -/
def fval (k i s : Nat) (M : AMem) : AV := match k, s with
  | 0, 0 => vR 4 i
  | 1, 0 => vR 5 i
  | 2, 0 => vR 6 i
  | 2, 1 => vR 0 i
  | 3, 0 => vR 7 0
  | 3, 1 => vR 1 48
  | 3, 2 => vR 8 0
  | 3, 3 => vR 2 5
  | 3, 4 => vR 2 6
  | k, s => vI (M k i s)
/-- which fields are ints -/
def fint (k s : Nat) : Bool := match k, s with
  | 0, 1 => true
  | 1, 1 => true
  | 2, 2 => true
  | 2, 3 => true
  | 2, 4 => true
  | 2, 5 => true
  | 2, 6 => true
  | 2, 7 => true
  | 3, 5 => true
  | _, _ => false
def alen (k : Nat) (M : AMem) : Nat := match k with
  | 4 => 512
  | 5 => 8
  | 6 => 6
  | 7 => 6
  | 8 => 5
  | 9 => (M 9 1 0).toNat
  | 10 => 6
  | 11 => 6
  | _ => 0
def bas (j : Nat) : Int := match j with
  | 0 => 2
  | 1 => 3
  | 2 => 5
  | 3 => 7
  | 4 => 11
  | _ => 13
/-- an int of an int array -/
def aval (k i j : Nat) (M : AMem) : Option Int := match k with
  | 4 => some (M 4 i j)
  | 5 => some (M 5 i j)
  | 9 => some (M 9 0 j)
  | 10 => some (bas j)
  | 11 => some (bas j)
  | _ => none
/-- a reference of an array of references -/
def aref (k i j : Nat) : Option (Nat × Nat) := match k with
  | 6 => some (1, 6 * i + j)
  | 7 => some (1, 42 + j)
  | 8 => some (2, j)
  | _ => none
/-- int operations by Int32 -/
def opAnd (a b : Int) : Int := (Int32.ofInt a &&& Int32.ofInt b).toInt
def opXor (a b : Int) : Int := (Int32.ofInt a ^^^ Int32.ofInt b).toInt
def opShr (a b : Int) : Int := (Int32.ofInt a >>> (Int32.ofInt b &&& 31)).toInt
def opUshr (a b : Int) : Int := (((Int32.ofInt a).toUInt32 >>> ((Int32.ofInt b).toUInt32 &&& Int32.toUInt32 31)).toInt32).toInt
def opCmp (a b : Int) : Int := if wL b < wL a then 1 else if wL a = wL b then 0 else -1
/-- the natives: 0 max, 1 min, 2 arraycopy -/
def bltT (c i : Nat) : Option Nat := er_find [(2, 122, 0), (4, 132, 0), (2, 170, 1), (4, 159, 1), (1, 23, 2), (0, 41, 2)] c i
/-- statics -/
def staT (c i : Nat) : Option Nat := er_find [(2, 127, 10), (4, 154, 11)] c i
def lonT (c i : Nat) : Option Int := er_find [(3, 187, 7980), (3, 189, 31)] c i
def acat (v : AV) : Nat := match v with
  | .inl _ => 1
  | .inr (.inl _) => 2
  | .inr (.inr _) => 1
/-- a step's end: the next place, a call (method, its arguments, the rest of the stack), or the answer -/
abbrev SR : Type := (Nat × ALs × List AV × AMem) ⊕ ((MT × List AV × List AV) ⊕ Option AV)
def nx (pc : Nat) (ls : ALs) (st : List AV) (M : AMem) : Option SR := some (.inl (pc, ls, st, M))
def sI (st : List AV) (f : Int → List AV → Option SR) : Option SR := match st with
  | .inl z :: r => f z r
  | _ => none
def sL (st : List AV) (f : Int → List AV → Option SR) : Option SR := match st with
  | .inr (.inl z) :: r => f z r
  | _ => none
def sR (st : List AV) (f : Nat → Nat → List AV → Option SR) : Option SR := match st with
  | .inr (.inr (k, i)) :: r => if okH k i = true then f k i r else none
  | _ => none
def sA (st : List AV) (f : Nat → Nat → List AV → Option SR) : Option SR := match st with
  | .inr (.inr (k, i)) :: r => f k i r
  | _ => none
def sV (st : List AV) (f : AV → List AV → Option SR) : Option SR := match st with
  | v :: r => f v r
  | _ => none
def gL (ls : ALs) (i : Nat) (f : AV → Option SR) : Option SR := match ls[i]? with
  | some (some v) => f v
  | _ => none
def oG {α : Type} (x : Option α) (f : α → Option SR) : Option SR := match x with
  | some v => f v
  | none => none
/-- may this place of the locals be written: no long is cut -/
def stOK (ls : ALs) (i : Nat) : Bool := decide (i < ls.length) && (match ls[i - 1]? with
  | some (some v) => decide (i = 0) || acat v == 1
  | _ => true)
def jmp (pc : Nat) (off : Int) : Nat := ((pc : Int) + off).toNat
def jok (pc : Nat) (off : Int) : Bool := decide (0 ≤ (pc : Int) + off)
def cmpB (c : ClassFile.Cond) (a b : Int) : Bool := match c with
  | .eq => decide (a = b)
  | .ne => decide (¬ a = b)
  | .lt => decide (a < b)
  | .ge => decide (b ≤ a)
  | .gt => decide (b < a)
  | .le => decide (a ≤ b)
def aLoadI (len n pc i : Nat) (ls : ALs) (st : List AV) (M : AMem) : Option SR := if len = n then gL ls i (fun v => sI [v] (fun z _ => nx (pc + n) ls (vI z :: st) M)) else none
def aLoadL (len n pc i : Nat) (ls : ALs) (st : List AV) (M : AMem) : Option SR := if len = n then gL ls i (fun v => sL [v] (fun z _ => nx (pc + n) ls (vL z :: st) M)) else none
def aLoadA (len n pc i : Nat) (ls : ALs) (st : List AV) (M : AMem) : Option SR := if len = n then gL ls i (fun v => sA [v] (fun k j _ => nx (pc + n) ls (vR k j :: st) M)) else none
def aStoreI (len n pc i : Nat) (ls : ALs) (st : List AV) (M : AMem) : Option SR := if len = n ∧ stOK ls i = true then sI st (fun z r => nx (pc + n) (ls.set i (some (vI z))) r M) else none
def aStoreA (len n pc i : Nat) (ls : ALs) (st : List AV) (M : AMem) : Option SR := if len = n ∧ stOK ls i = true then sA st (fun k j r => nx (pc + n) (ls.set i (some (vR k j))) r M) else none
def aStoreL (len n pc i : Nat) (ls : ALs) (st : List AV) (M : AMem) : Option SR := if len = n ∧ stOK ls i = true ∧ i + 1 < ls.length then sL st (fun v r => nx (pc + n) ((ls.set i (some (vL v))).set (i + 1) none) r M) else none
def aPush (len n pc : Nat) (v : AV) (ls : ALs) (st : List AV) (M : AMem) : Option SR := if len = n then nx (pc + n) ls (v :: st) M else none
def aBin (len pc : Nat) (f : Int → Int → Int) (ls : ALs) (st : List AV) (M : AMem) : Option SR := if len = 1 then sI st (fun b r => sI r (fun a q => nx (pc + 1) ls (vI (f a b) :: q) M)) else none
def aDiv (len pc : Nat) (f : Int → Int → Int) (ls : ALs) (st : List AV) (M : AMem) : Option SR := if len = 1 then sI st (fun b r => if wI b = 0 then none else sI r (fun a q => nx (pc + 1) ls (vI (f (wI a) (wI b)) :: q) M)) else none
def aBr (len pc : Nat) (off : Int) (b : Bool) (ls : ALs) (st : List AV) (M : AMem) : Option SR := if len = 3 ∧ jok pc off = true then (if b = true then nx (jmp pc off) ls st M else nx (pc + 3) ls st M) else none
def aCall (len : Nat) (Y : MT) (as r : List AV) : Option SR := if len = 3 ∧ (r.map acat).sum ≤ 8 ∧ (as.map acat).sum = as.length ∧ as.length ≤ mtL Y then some (.inr (.inl (Y, as, r))) else none
def aVirt (len : Nat) (Y : MT) (st : List AV) : Option SR := if mtS Y = false ∧ mtA Y < st.length then sR (st.drop (mtA Y)) (fun k i r => if k = mtK Y then aCall len Y (vR k i :: (st.take (mtA Y)).reverse) r else none) else none
def aStat (len : Nat) (Y : MT) (st : List AV) : Option SR := if mtS Y = true ∧ mtA Y ≤ st.length then aCall len Y (st.take (mtA Y)).reverse (st.drop (mtA Y)) else none
def aBlt (len pc b : Nat) (ls : ALs) (st : List AV) (M : AMem) : Option SR := if len = 3 ∧ (st.map acat).sum ≤ 8 then (match b with
  | 0 => sI st (fun y r => sI r (fun x q => nx (pc + 3) ls (vI (if wI x < wI y then y else x) :: q) M))
  | 1 => sI st (fun y r => sI r (fun x q => nx (pc + 3) ls (vI (if wI y < wI x then y else x) :: q) M))
  | _ => sI st (fun n r => sI r (fun dp r => sR r (fun k j r => sI r (fun sp r => sR r (fun k' i r => if dp = 0 ∧ sp = 0 ∧ k' = k ∧ (k = 4 ∨ k = 5) ∧ 0 ≤ n ∧ n.toNat ≤ alen k M then nx (pc + 3) ls r (acopy M k i j n.toNat) else none)))))) else none
def aSwT (pc : Nat) (dflt lo hi : Int) (offs : Array Int) (ls : ALs) (st : List AV) (M : AMem) : Option SR := sI st (fun z r => if wI z < lo ∨ hi < wI z then (if jok pc dflt = true then nx (jmp pc dflt) ls r M else none) else oG offs[(wI z - lo).toNat]? (fun off => if jok pc off = true then nx (jmp pc off) ls r M else none))
def aSwL (pc : Nat) (dflt : Int) (ps : Array (Int × Int)) (ls : ALs) (st : List AV) (M : AMem) : Option SR := if (ps.toList.zip (ps.toList.drop 1)).all (fun (a, next) => a.1 < next.1) = true then sI st (fun z r => if jok pc (Op.lookupswitch.offset ps.toList dflt (wI z)) = true then nx (jmp pc (Op.lookupswitch.offset ps.toList dflt (wI z))) ls r M else none) else none
/-- one instruction -/
def ex1 (Y : MT) (ins : ClassFile.Instr) (len pc : Nat) (ls : ALs) (st : List AV) (M : AMem) : Option SR := match ins with
  | .iconst n => aPush len 1 pc (vI n) ls st M
  | .bipush n => if -128 ≤ n ∧ n < 128 then aPush len 2 pc (vI n) ls st M else none
  | .sipush n => if -32768 ≤ n ∧ n < 32768 then aPush len 3 pc (vI n) ls st M else none
  | .ldc i => oG (cstT (mtK Y) i) (fun z => aPush len 2 pc (vI z) ls st M)
  | .ldc_w i => oG (cstT (mtK Y) i) (fun z => aPush len 3 pc (vI z) ls st M)
  | .ldc2_w i => oG (lonT (mtK Y) i) (fun z => aPush len 3 pc (vL z) ls st M)
  | .iload i => aLoadI len 2 pc i ls st M
  | .iload_n i => aLoadI len 1 pc i ls st M
  | .aload i => aLoadA len 2 pc i ls st M
  | .aload_n i => aLoadA len 1 pc i ls st M
  | .lload i => aLoadL len 2 pc i ls st M
  | .lload_n i => aLoadL len 1 pc i ls st M
  | .istore i => aStoreI len 2 pc i ls st M
  | .istore_n i => aStoreI len 1 pc i ls st M
  | .astore i => aStoreA len 2 pc i ls st M
  | .astore_n i => aStoreA len 1 pc i ls st M
  | .lstore i => aStoreL len 2 pc i ls st M
  | .lstore_n i => aStoreL len 1 pc i ls st M
  | .iinc i n => if len = 3 ∧ stOK ls i = true then gL ls i (fun v => sI [v] (fun z _ => nx (pc + 3) (ls.set i (some (vI (z + n)))) st M)) else none
  | .iadd => aBin len pc (fun a b => a + b) ls st M
  | .isub => aBin len pc (fun a b => a - b) ls st M
  | .imul => aBin len pc (fun a b => a * b) ls st M
  | .iand => aBin len pc opAnd ls st M
  | .ixor => aBin len pc opXor ls st M
  | .ishr => aBin len pc opShr ls st M
  | .iushr => aBin len pc opUshr ls st M
  | .idiv => aDiv len pc Int.tdiv ls st M
  | .irem => aDiv len pc Int.tmod ls st M
  | .i2l => if len = 1 then sI st (fun a r => nx (pc + 1) ls (vL (wI a) :: r) M) else none
  | .ladd => if len = 1 then sL st (fun b r => sL r (fun a q => nx (pc + 1) ls (vL (a + b) :: q) M)) else none
  | .lmul => if len = 1 then sL st (fun b r => sL r (fun a q => nx (pc + 1) ls (vL (a * b) :: q) M)) else none
  | .lcmp => if len = 1 then sL st (fun b r => sL r (fun a q => nx (pc + 1) ls (vI (opCmp a b) :: q) M)) else none
  | .dup => if len = 1 then sV st (fun v r => if acat v = 1 then nx (pc + 1) ls (v :: v :: r) M else none) else none
  | .pop => if len = 1 then sV st (fun v r => if acat v = 1 then nx (pc + 1) ls r M else none) else none
  | .ifCond c off => sI st (fun z r => aBr len pc off (cmpB c (wI z) 0) ls r M)
  | .if_icmp c off => sI st (fun b r => sI r (fun a q => aBr len pc off (cmpB c (wI a) (wI b)) ls q M))
  | .goto off => if len = 3 ∧ jok pc off = true then nx (jmp pc off) ls st M else none
  | .tableswitch dflt lo hi offs => aSwT pc dflt lo hi offs ls st M
  | .lookupswitch dflt ps => aSwL pc dflt ps ls st M
  | .getstatic i => if len = 3 then oG (staT (mtK Y) i) (fun k => nx (pc + 3) ls (vR k 0 :: st) M) else none
  | .getfield f => if len = 3 then oG (fldT (mtK Y) f) (fun q => sR st (fun k i r => if k = q.1 then nx (pc + 3) ls (fval k i q.2 M :: r) M else none)) else none
  | .putfield f => if len = 3 then oG (fldT (mtK Y) f) (fun q => sI st (fun z r => sR r (fun k i r => if k = q.1 ∧ fint k q.2 = true ∧ (k = 2 ∧ q.2 = 4 → z = 0 ∨ z = 1) then nx (pc + 3) ls r (aup M k i q.2 z) else none))) else none
  | .arraylength => if len = 1 then sR st (fun k _ r => if 4 ≤ k then nx (pc + 1) ls (vI (alen k M) :: r) M else none) else none
  | .iaload => if len = 1 then sI st (fun j r => sR r (fun k i r => if 0 ≤ wI j ∧ wI j < alen k M then oG (aval k i (wI j).toNat M) (fun z => nx (pc + 1) ls (vI z :: r) M) else none)) else none
  | .iastore => if len = 1 then sI st (fun z r => sI r (fun j r => sR r (fun k i r => if 0 ≤ wI j ∧ wI j < alen k M ∧ (k = 4 ∨ k = 5) then nx (pc + 1) ls r (aup M k i (wI j).toNat z) else none))) else none
  | .aaload => if len = 1 then sI st (fun j r => sR r (fun k i r => if 0 ≤ wI j ∧ wI j < alen k M then oG (aref k i (wI j).toNat) (fun q => nx (pc + 1) ls (vR q.1 q.2 :: r) M) else none)) else none
  | .invokevirtual i => oG (mthT (mtK Y) i) (fun Z => aVirt len Z st)
  | .invokestatic i => match bltT (mtK Y) i with
    | some b => aBlt len pc b ls st M
    | none => oG (mthT (mtK Y) i) (fun Z => aStat len Z st)
  | .ireturn => if len = 1 then sI st (fun z r => if r = [] ∧ (mtR Y = some .int ∨ (mtR Y = some .boolean ∧ (z = 0 ∨ z = 1))) then some (.inr (.inr (some (vI z)))) else none) else none
  | .lreturn => if len = 1 then sL st (fun z r => if r = [] ∧ mtR Y = some .long then some (.inr (.inr (some (vL z)))) else none) else none
  | .areturn => if len = 1 then sA st (fun k i r => if r = [] ∧ (mtR Y = some (.object "Endlessrows$Row") ∨ mtR Y = some (.object "Endlessrows$Well")) then some (.inr (.inr (some (vR k i)))) else none) else none
  | .return_ => if len = 1 ∧ st = [] ∧ mtR Y = none then some (.inr (.inr none)) else none
  | _ => none
/-- a call's first locals -/
def lini (Y : MT) (as : List AV) : ALs := as.map some ++ List.replicate (mtL Y - as.length) none
def run : Nat → Nat → MT → Nat → ALs → List AV → AMem → Option (Option AV × AMem)
  | 0, _, _, _, _, _, _ => none
  | n + 1, d, Y, pc, ls, st, M => match decode (mtC Y) pc with
    | .ok (ins, len) => match ex1 Y ins len pc ls st M with
      | some (.inl (pc', ls', st', M')) => run n d Y pc' ls' st' M'
      | some (.inr (.inl (Z, as, r))) => match d with
        | 0 => none
        | d' + 1 => match run n d' Z 0 (lini Z as) [] M with
          | some (v, M1) => run n (d' + 1) Y (pc + 3) ls (v.toList ++ r) M1
          | none => none
      | some (.inr (.inr v)) => some (v, M)
      | none => none
    | .error _ => none
/-- the walk from here ends with Q -/
def RunQ (d : Nat) (Y : MT) (pc : Nat) (ls : ALs) (st : List AV) (M : AMem) (Q : Option AV → AMem → Prop) : Prop := ∃ n v M', run n d Y pc ls st M = some (v, M') ∧ Q v M'
/-- a call -/
def CallQ (d : Nat) (Y : MT) (as : List AV) (M : AMem) (Q : Option AV → AMem → Prop) : Prop := RunQ d Y 0 (lini Y as) [] M Q
