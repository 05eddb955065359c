/-! laid by wip/whole/lay.py: worlds, constants -/
def jm1 : Int32 := -1
abbrev ty4 (cT : Nat → ClassId) : List (ClassId × FieldType) := [(cT 0, .int), (cT 1, .boolean), (cT 2, .long), (cT 3, .double)]
abbrev wS (cT : Nat → ClassId) (ad : Nat → Nat) (areas : Nat → Int32) (keys : Nat → Int32) (there : Nat → Int32) (order : Nat → Int32) (added : Int32) (size : Int32) : va_W := [(ad 1, .inr (0, [.ref (ad 2), .ref (ad 3), .ref (ad 4), .ref (ad 5), .int added, .int size])), (ad 2, .inl ((cT 0), 100, .inl areas)), (ad 3, .inl ((cT 0), 100, .inl keys)), (ad 4, .inl ((cT 1), 100, .inl there)), (ad 5, .inl ((cT 0), 60, .inl order))]
abbrev wT (cT : Nat → ClassId) (ad : Nat → Nat) (loads : Nat → Int32) (widths : Nat → Int32) (height : Int32) : va_W := [(ad 6, .inr (1, [.ref (ad 7), .ref (ad 8), .int height])), (ad 7, .inl ((cT 0), 480, .inl loads)), (ad 8, .inl ((cT 0), 8, .inl widths))]
abbrev wX (cT : Nat → ClassId) (ad : Nat → Nat) (areas : Nat → Int32) (keys : Nat → Int32) (there : Nat → Int32) (order : Nat → Int32) (added : Int32) (size : Int32) (loads : Nat → Int32) (widths : Nat → Int32) (height : Int32) (ranks : Nat → Int32) : va_W := [(ad 0, .inr (2, [.ref (ad 1), .ref (ad 6), .ref (ad 9)])), (ad 1, .inr (0, [.ref (ad 2), .ref (ad 3), .ref (ad 4), .ref (ad 5), .int added, .int size])), (ad 2, .inl ((cT 0), 100, .inl areas)), (ad 3, .inl ((cT 0), 100, .inl keys)), (ad 4, .inl ((cT 1), 100, .inl there)), (ad 5, .inl ((cT 0), 60, .inl order)), (ad 6, .inr (1, [.ref (ad 7), .ref (ad 8), .int height])), (ad 7, .inl ((cT 0), 480, .inl loads)), (ad 8, .inl ((cT 0), 8, .inl widths)), (ad 9, .inl ((cT 0), 60, .inl ranks))]
abbrev wM (cT : Nat → ClassId) (ad : Nat → Nat) (madded : Int32) (msides : Nat → Int32) (mkey : Nat → Int32) (misThere : Nat → Int32) (mboxes : Int32) (morder : Nat → Int32) (mlevels : Int32) (mnodes : Nat → Int32) (mentries : Nat → Int32) (mleft : Int32) (mlow : Int32) (mright : Int32) (mhigh : Int32) (mfirst : Int32) (mend : Int32) (mthrown : Int32) : va_W := [(ad 10, .inr (3, [.int madded, .ref (ad 11), .ref (ad 12), .ref (ad 13), .int mboxes, .ref (ad 14), .int mlevels, .ref (ad 15), .ref (ad 16), .int mleft, .int mlow, .int mright, .int mhigh, .int mfirst, .int mend, .int mthrown])), (ad 11, .inl ((cT 0), 400, .inl msides)), (ad 12, .inl ((cT 0), 100, .inl mkey)), (ad 13, .inl ((cT 1), 100, .inl misThere)), (ad 14, .inl ((cT 0), 61, .inl morder)), (ad 15, .inl ((cT 0), 16, .inl mnodes)), (ad 16, .inl ((cT 0), 1024, .inl mentries))]
theorem jc_m1 : Int32.ofInt (-1) = jm1 := by decide
theorem jc_0 : Int32.ofInt (0) = 0 := by decide
theorem jc_1 : Int32.ofInt (1) = 1 := by decide
theorem jc_2 : Int32.ofInt (2) = 2 := by decide
theorem jc_3 : Int32.ofInt (3) = 3 := by decide
theorem jc_4 : Int32.ofInt (4) = 4 := by decide
theorem jc_5 : Int32.ofInt (5) = 5 := by decide
theorem jc_6 : Int32.ofInt (6) = 6 := by decide
theorem jc_8 : Int32.ofInt (8) = 8 := by decide
theorem jc_16 : Int32.ofInt (16) = 16 := by decide
theorem jc_24 : Int32.ofInt (24) = 24 := by decide
theorem jc_31 : Int32.ofInt (31) = 31 := by decide
theorem jc_60 : Int32.ofInt (60) = 60 := by decide
theorem jc_64 : Int32.ofInt (64) = 64 := by decide
theorem jc_100 : Int32.ofInt (100) = 100 := by decide
theorem jc_128 : Int32.ofInt (128) = 128 := by decide
theorem jc_255 : Int32.ofInt (255) = 255 := by decide
theorem jc_256 : Int32.ofInt (256) = 256 := by decide
theorem jc_480 : Int32.ofInt (480) = 480 := by decide
theorem jb_6 : (Int8.ofInt (6)).toInt32 = 6 := by decide
theorem jb_8 : (Int8.ofInt (8)).toInt32 = 8 := by decide
theorem jb_16 : (Int8.ofInt (16)).toInt32 = 16 := by decide
theorem jb_24 : (Int8.ofInt (24)).toInt32 = 24 := by decide
theorem jb_31 : (Int8.ofInt (31)).toInt32 = 31 := by decide
theorem jb_60 : (Int8.ofInt (60)).toInt32 = 60 := by decide
theorem jb_64 : (Int8.ofInt (64)).toInt32 = 64 := by decide
theorem jb_100 : (Int8.ofInt (100)).toInt32 = 100 := by decide
theorem js_128 : (Int16.ofInt 128).toInt32 = 128 := by decide
theorem js_255 : (Int16.ofInt 255).toInt32 = 255 := by decide
theorem js_256 : (Int16.ofInt 256).toInt32 = 256 := by decide
theorem ji_m1 (x : Int32) : x + Int32.ofInt (-1) = x + jm1 := rfl
theorem ji_1 (x : Int32) : x + Int32.ofInt (1) = x + 1 := rfl
theorem ji_6 (x : Int32) : x + Int32.ofInt (6) = x + 6 := rfl
