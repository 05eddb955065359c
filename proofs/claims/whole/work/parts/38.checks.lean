section
variable {n : Nat}
def inC (x : Int32) : Prop := 0 ≤ x.toInt ∧ x.toInt ≤ 255
theorem z_0 : (0 : Int32).toInt = 0 := by decide
theorem z_255 : (255 : Int32).toInt = 255 := by decide
theorem z_256 : (256 : Int32).toInt = 256 := by decide
theorem z_3 : (3 : Int32).toInt = 3 := by decide
theorem z_4 : (4 : Int32).toInt = 4 := by decide
theorem co_yes {x : Int32} (h : inC x) : f_X4_isCoordinate n x = some 1 := by
  unfold inC at h
  unfold f_X4_isCoordinate
  simp only [Int32.lt_iff_toInt_lt, z_0, z_255]
  rw [if_neg (by omega), if_neg (by omega)]
theorem co_no {x : Int32} (h : ¬ inC x) : f_X4_isCoordinate n x = some 0 := by
  unfold inC at h
  unfold f_X4_isCoordinate
  simp only [Int32.lt_iff_toInt_lt, z_0, z_255]
  by_cases q : x.toInt < 0
  · rw [if_pos q]
  · rw [if_neg q, if_pos (by omega)]
def inA (a b c d : Int32) : Prop := inC a ∧ inC b ∧ inC c ∧ inC d ∧ a.toInt ≤ c.toInt ∧ b.toInt ≤ d.toInt
theorem m_area {a b c d : Int32} : (inA a b c d → f_X5_isArea n a b c d = some 1) ∧ (¬ inA a b c d → f_X5_isArea n a b c d = some 0) := by
  unfold inA inC f_X5_isArea
  simp only [Int32.lt_iff_toInt_lt, Int32.le_iff_toInt_le, z_0, z_256]
  constructor
  · intro h
    rw [if_neg (by omega), if_neg (by omega), if_neg (by omega), if_neg (by omega), if_neg (by omega), if_neg (by omega)]
  · intro h
    by_cases q : a.toInt < 0
    · rw [if_pos q]
    · rw [if_neg q]
      by_cases q2 : c.toInt < a.toInt
      · rw [if_pos q2]
      · rw [if_neg q2]
        by_cases q3 : 256 ≤ c.toInt
        · rw [if_pos q3]
        · rw [if_neg q3]
          by_cases q4 : b.toInt < 0
          · rw [if_pos q4]
          · rw [if_neg q4]
            by_cases q5 : d.toInt < b.toInt
            · rw [if_pos q5]
            · rw [if_neg q5, if_pos (by omega)]
theorem c_area {a b c d : Int32} : (inA a b c d → f_X4_checkSides n a b c d = some 0) ∧ (¬ inA a b c d → f_X4_checkSides n a b c d = some 1) := by
  have z10 : ¬ (1 : Int32) = 0 := by decide
  unfold inA f_X4_checkSides f_X4_checkSides_38
  constructor
  · intro h
    rw [co_yes h.1, jbd_some, if_neg z10, co_yes h.2.1, jbd_some, if_neg z10, co_yes h.2.2.1, jbd_some, if_neg z10, co_yes h.2.2.2.1, jbd_some, if_neg z10, if_neg (by rw [Int32.lt_iff_toInt_lt]; omega), if_pos (by rw [Int32.le_iff_toInt_le]; omega)]
  · intro h
    by_cases q1 : inC a
    · rw [co_yes q1, jbd_some, if_neg z10]
      by_cases q2 : inC b
      · rw [co_yes q2, jbd_some, if_neg z10]
        by_cases q3 : inC c
        · rw [co_yes q3, jbd_some, if_neg z10]
          by_cases q4 : inC d
          · rw [co_yes q4, jbd_some, if_neg z10]
            by_cases q5 : c.toInt < a.toInt
            · rw [if_pos (by rw [Int32.lt_iff_toInt_lt]; exact q5)]
            · rw [if_neg (by rw [Int32.lt_iff_toInt_lt]; exact q5), if_neg (by rw [Int32.le_iff_toInt_le]; exact fun z => h ⟨q1, q2, q3, q4, by omega, z⟩)]
          · rw [co_no q4, jbd_some, if_pos rfl]
        · rw [co_no q3, jbd_some, if_pos rfl]
      · rw [co_no q2, jbd_some, if_pos rfl]
    · rw [co_no q1, jbd_some, if_pos rfl]
theorem c_nat {x : Int32} (h : inC x) : ∃ a : Nat, a < 256 ∧ x = nI a := by
  unfold inC at h
  rcases i_cases x with q | ⟨b, b1, rfl⟩
  · rw [Int32.lt_iff_toInt_lt, z_0] at q
    omega
  · rw [nI_toInt b1] at h
    exact ⟨b, by omega, rfl⟩
def four (a b c d : Nat) : Nat → Nat := fun j => if j = 0 then a else if j = 1 then b else if j = 2 then c else d
theorem sides {a b c d : Int32} (h : inA a b c d) : ∃ s, okA s ∧ a = nI (s 0) ∧ b = nI (s 1) ∧ c = nI (s 2) ∧ d = nI (s 3) ∧ s 0 ≤ s 2 ∧ s 1 ≤ s 3 := by
  obtain ⟨h1, h2, h3, h4, h5, h6⟩ := h
  obtain ⟨a, a1, rfl⟩ := c_nat h1
  obtain ⟨b, b1, rfl⟩ := c_nat h2
  obtain ⟨c, c1, rfl⟩ := c_nat h3
  obtain ⟨d, d1, rfl⟩ := c_nat h4
  rw [nI_toInt (by omega), nI_toInt (by omega)] at h5 h6
  refine ⟨four a b c d, ⟨fun j hj => ?_, by show a ≤ c; omega, by show b ≤ d; omega⟩, rfl, rfl, rfl, rfl, ?_, ?_⟩
  · unfold four
    split
    · exact a1
    · split
      · exact b1
      · split
        · exact c1
        · exact d1
  · show a ≤ c
    omega
  · show b ≤ d
    omega
theorem m_point {a b : Int32} : (inC a ∧ inC b → f_X5_isPoint n a b = some 1) ∧ (¬ (inC a ∧ inC b) → f_X5_isPoint n a b = some 0) := by
  unfold inC f_X5_isPoint
  simp only [Int32.lt_iff_toInt_lt, Int32.le_iff_toInt_le, z_0, z_256]
  constructor
  · intro h
    rw [if_neg (by omega), if_neg (by omega), if_neg (by omega), if_neg (by omega)]
  · intro h
    by_cases q : a.toInt < 0
    · rw [if_pos q]
    · rw [if_neg q]
      by_cases q3 : 256 ≤ a.toInt
      · rw [if_pos q3]
      · rw [if_neg q3]
        by_cases q4 : b.toInt < 0
        · rw [if_pos q4]
        · rw [if_neg q4, if_pos (by omega)]
theorem c_point {a b : Int32} : (inC a ∧ inC b → f_X4_checkPoint n a b = some 0) ∧ (¬ (inC a ∧ inC b) → f_X4_checkPoint n a b = some 1) := by
  have z10 : ¬ (1 : Int32) = 0 := by decide
  unfold f_X4_checkPoint f_X4_checkPoint_14
  constructor
  · intro h
    rw [co_yes h.1, jbd_some, if_neg z10, co_yes h.2, jbd_some, if_neg z10]
  · intro h
    by_cases q1 : inC a
    · rw [co_yes q1, jbd_some, if_neg z10, co_no (fun q => h ⟨q1, q⟩), jbd_some, if_pos rfl]
    · rw [co_no q1, jbd_some, if_pos rfl]
theorem side_cases (x : Int32) : (∃ j, j < 4 ∧ x = nI j ∧ f_X4_checkSide n x = some 0 ∧ f_X5_isSide n x = some 1) ∨ (f_X4_checkSide n x = some 1 ∧ f_X5_isSide n x = some 0) := by
  unfold f_X4_checkSide f_X4_checkSide_9 f_X5_isSide
  rcases i_cases x with q | ⟨b, b1, rfl⟩
  · refine Or.inr ⟨?_, ?_⟩
    · rw [if_pos q]
    · rw [if_pos q]
  · have nn : ¬ nI b < 0 := by rw [n0, nI_ltI (by omega) (by omega)]; omega
    by_cases c : b < 4
    · refine Or.inl ⟨b, c, rfl, ?_, ?_⟩
      · rw [if_neg nn, n3, if_pos (nI_le (by omega) (by omega))]
      · rw [if_neg nn, n4, if_neg (nI_ge (by omega) (by omega))]
    · refine Or.inr ⟨?_, ?_⟩
      · rw [if_neg nn, n3, if_neg (nI_ge (by omega) (by omega))]
      · rw [if_neg nn, n4, if_pos (nI_le (by omega) (by omega))]
theorem m_fails0 {t : Int32} : f_X5_fails n t 0 = some (0, 0) := rfl
theorem m_fails1 {t : Int32} : f_X5_fails n t 1 = some (1, 1) := rfl
theorem m_fails2 {t : Int32} : f_X5_fails n t 2 = some (1, 2) := rfl
end
