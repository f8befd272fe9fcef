/-! bitCount, step by step -/
def bc1 (x : Int) : Int := x - (opAnd (opUshr x 1) 1431655765)
def bc2 (x : Int) : Int := (opAnd x 858993459) + (opAnd (opUshr x 2) 858993459)
def bc3 (x : Int) : Int := opAnd (x + (opUshr x 4)) 252645135
def bc4 (x : Int) : Int := x + (opUshr x 8)
def bc5 (x : Int) : Int := x + (opUshr x 16)
def bt1 : List Int := [0, 1, 1, 2, 4, 5, 5, 6, 4, 5, 5, 6, 8, 9, 9, 10, 16, 17, 17, 18, 20, 21, 21, 22, 20, 21, 21, 22, 24, 25, 25, 26, 16, 17, 17, 18, 20, 21, 21, 22, 20, 21, 21, 22, 24, 25, 25, 26, 32, 33, 33, 34, 36, 37, 37, 38, 36, 37, 37, 38, 40, 41, 41, 42]
def bt2 : List Int := [0, 1, 1, 2, 1, 2, 2, 3, 1, 2, 2, 3, 2, 3, 3, 4, 16, 17, 17, 18, 17, 18, 18, 19, 17, 18, 18, 19, 18, 19, 19, 20, 16, 17, 17, 18, 17, 18, 18, 19, 17, 18, 18, 19, 18, 19, 19, 20, 32, 33, 33, 34, 33, 34, 34, 35, 33, 34, 34, 35, 34, 35, 35, 36]
def bt3 : List Int := [0, 1, 1, 2, 1, 2, 2, 3, 1, 2, 2, 3, 2, 3, 3, 4, 1, 2, 2, 3, 2, 3, 3, 4, 2, 3, 3, 4, 3, 4, 4, 5, 1, 2, 2, 3, 2, 3, 3, 4, 2, 3, 3, 4, 3, 4, 4, 5, 2, 3, 3, 4, 3, 4, 4, 5, 3, 4, 4, 5, 4, 5, 5, 6]
def bt4 : List Int := [0, 1, 1, 2, 1, 2, 2, 3, 1, 2, 2, 3, 2, 3, 3, 4, 1, 2, 2, 3, 2, 3, 3, 4, 2, 3, 3, 4, 3, 4, 4, 5, 1, 2, 2, 3, 2, 3, 3, 4, 2, 3, 3, 4, 3, 4, 4, 5, 2, 3, 3, 4, 3, 4, 4, 5, 3, 4, 4, 5, 4, 5, 5, 6]
def bt5 : List Int := [0, 1, 1, 2, 1, 2, 2, 3, 1, 2, 2, 3, 2, 3, 3, 4, 1, 2, 2, 3, 2, 3, 3, 4, 2, 3, 3, 4, 3, 4, 4, 5, 1, 2, 2, 3, 2, 3, 3, 4, 2, 3, 3, 4, 3, 4, 4, 5, 2, 3, 3, 4, 3, 4, 4, 5, 3, 4, 4, 5, 4, 5, 5, 6]
theorem bc1_ok : ∀ s : Nat, s < 64 → bc1 (s : Int) = bt1.getD s 0 := by decide +kernel
theorem bc2_ok : ∀ s : Nat, s < 64 → bc2 (bt1.getD s 0) = bt2.getD s 0 := by decide +kernel
theorem bc3_ok : ∀ s : Nat, s < 64 → bc3 (bt2.getD s 0) = bt3.getD s 0 := by decide +kernel
theorem bc4_ok : ∀ s : Nat, s < 64 → bc4 (bt3.getD s 0) = bt4.getD s 0 := by decide +kernel
theorem bc5_ok : ∀ s : Nat, s < 64 → bc5 (bt4.getD s 0) = bt5.getD s 0 := by decide +kernel
theorem bc6_ok : ∀ s : Nat, s < 64 → opAnd (bt5.getD s 0) 63 = ((mems s).length : Int) := by decide +kernel
theorem S_bitCount {d s : Nat} {M : AMem} {Q : Int → AMem → Prop} (hs : s < 64) (h : Q ((mems s).length : Int) M) : CallI d m_J_bitCount [vI (s : Int)] M Q := by
  have e : opAnd (bc5 (bc4 (bc3 (bc2 (bc1 (s : Int)))))) 63 = ((mems s).length : Int) := by
    rw [bc1_ok s hs, bc2_ok s hs, bc3_ok s hs, bc4_ok s hs, bc5_ok s hs, bc6_ok s hs]
  refine T_J_bitCount_0 ⟨opAnd (bc5 (bc4 (bc3 (bc2 (bc1 (s : Int)))))) 63, rfl, ?_⟩
  rw [e]
  exact h
