/-! laid by wip/p24/lay24.py: numbers, worlds: the empty tree, the law's own row g of two ints, the script of 256 times 18 -/
def jm30 : Int32 := -30
def jm1 : Int32 := -1
def j0 : Nat → Int32 := fun _ => 0
def j18 : Nat → Int32 := fun _ => 18
abbrev ty2 (cT : Nat → ClassId) : List (ClassId × FieldType) := [(cT 0, .int), (cT 1, .boolean)]
abbrev wS (cT : Nat → ClassId) (ad : Nat → Nat) : va_W := [(ad 1, .inr (0, [.ref (ad 2), .ref (ad 3), .ref (ad 4), .ref (ad 5), .int 0, .int 0])), (ad 2, .inl (cT 0, 100, .inl j0)), (ad 3, .inl (cT 0, 100, .inl j0)), (ad 4, .inl (cT 1, 100, .inl j0)), (ad 5, .inl (cT 0, 60, .inl j0))]
abbrev wT (cT : Nat → ClassId) (ad : Nat → Nat) : va_W := [(ad 6, .inr (1, [.ref (ad 7), .ref (ad 8), .int 0])), (ad 7, .inl (cT 0, 480, .inl j0)), (ad 8, .inl (cT 0, 8, .inl j0))]
abbrev wX (cT : Nat → ClassId) (ad : Nat → Nat) : va_W := [(ad 0, .inr (2, [.ref (ad 1), .ref (ad 6), .ref (ad 9)])), (ad 1, .inr (0, [.ref (ad 2), .ref (ad 3), .ref (ad 4), .ref (ad 5), .int 0, .int 0])), (ad 2, .inl (cT 0, 100, .inl j0)), (ad 3, .inl (cT 0, 100, .inl j0)), (ad 4, .inl (cT 1, 100, .inl j0)), (ad 5, .inl (cT 0, 60, .inl j0)), (ad 6, .inr (1, [.ref (ad 7), .ref (ad 8), .int 0])), (ad 7, .inl (cT 0, 480, .inl j0)), (ad 8, .inl (cT 0, 8, .inl j0)), (ad 9, .inl (cT 0, 60, .inl j0))]
abbrev wG (cT : Nat → ClassId) (ad : Nat → Nat) : va_W := [(ad 0, .inr (2, [.ref (ad 1), .ref (ad 6), .ref (ad 9)])), (ad 1, .inr (0, [.ref (ad 2), .ref (ad 3), .ref (ad 4), .ref (ad 5), .int 0, .int 0])), (ad 2, .inl (cT 0, 100, .inl j0)), (ad 3, .inl (cT 0, 100, .inl j0)), (ad 4, .inl (cT 1, 100, .inl j0)), (ad 5, .inl (cT 0, 60, .inl j0)), (ad 6, .inr (1, [.ref (ad 7), .ref (ad 8), .int 0])), (ad 7, .inl (cT 0, 480, .inl j0)), (ad 8, .inl (cT 0, 8, .inl j0)), (ad 9, .inl (cT 0, 60, .inl j0)), (ad 10, .inl (cT 0, 2, .inl j0))]
abbrev wP (cT : Nat → ClassId) (ad : Nat → Nat) : va_W := [(ad 11, .inl (cT 0, 256, .inl j18))]
abbrev wN (cT : Nat → ClassId) (ad : Nat → Nat) : va_W := [(ad 0, .inr (2, [.ref (ad 1), .ref (ad 6), .ref (ad 9)])), (ad 1, .inr (0, [.ref (ad 2), .ref (ad 3), .ref (ad 4), .ref (ad 5), .int 0, .int 0])), (ad 2, .inl (cT 0, 100, .inl j0)), (ad 3, .inl (cT 0, 100, .inl j0)), (ad 4, .inl (cT 1, 100, .inl j0)), (ad 5, .inl (cT 0, 60, .inl j0)), (ad 6, .inr (1, [.ref (ad 7), .ref (ad 8), .int 0])), (ad 7, .inl (cT 0, 480, .inl j0)), (ad 8, .inl (cT 0, 8, .inl j0)), (ad 9, .inl (cT 0, 60, .inl j0)), (ad 10, .inl (cT 0, 2, .inl j0)), (ad 11, .inl (cT 0, 256, .inl j18))]
/-- a place within the script -/
abbrev pAt (x : Int32) : Prop := ¬ 256 ≤ x ∧ vp_in x 256
