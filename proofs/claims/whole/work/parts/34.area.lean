theorem pk_or2 {a b : Nat} (ha : a < 2 ^ 32) (hb : b < 2 ^ 32) : nI a ||| nI b = nI (a ||| b) := by
  apply Int32.toBitVec_inj.mp
  apply BitVec.eq_of_toNat_eq
  rw [Int32.toBitVec_or, BitVec.toNat_or, pk_tn ha, pk_tn hb, pk_tn (Nat.or_lt_two_pow ha hb)]
theorem or_add {a b : Nat} (k : Nat) (ha : a < 2 ^ k) : a ||| b * 2 ^ k = a + b * 2 ^ k := by
  have q := Nat.two_pow_add_eq_or_of_lt ha b
  rw [Nat.mul_comm b, Nat.or_comm, ← q]
  exact Nat.add_comm _ _
def ar (s : Nat → Nat) : Int32 := nI (s 0 + s 1 * 2 ^ 8 + s 2 * 2 ^ 16 + s 3 * 2 ^ 24)
def okA (s : Nat → Nat) : Prop := (∀ j, j < 4 → s j < 256) ∧ s 0 ≤ s 2 ∧ s 1 ≤ s 3
section
variable {n : Nat}
theorem a_of {s : Nat → Nat} (h : okA s) : f_X0_of n (nI (s 0)) (nI (s 1)) (nI (s 2)) (nI (s 3)) = some (ar s) := by
  have h0 := h.1 0 (by omega)
  have h1 := h.1 1 (by omega)
  have h2 := h.1 2 (by omega)
  have h3 := h.1 3 (by omega)
  unfold f_X0_of jshl ar
  rw [pk_shlN _ 8 (by decide) (by omega), pk_shlN _ 16 (by decide) (by omega), pk_shlN _ 24 (by decide) (by omega)]
  rw [pk_or2 (by omega) (by omega), or_add 8 (by omega), pk_or2 (by omega) (by omega), or_add 16 (by omega), pk_or2 (by omega) (by omega), or_add 24 (by omega)]
theorem a_side {s : Nat → Nat} (h : okA s) {j : Nat} (hj : j < 4) : f_X0_side n (ar s) (nI j) = some (nI (s j)) := by
  have h0 := h.1 0 (by omega)
  have h1 := h.1 1 (by omega)
  have h2 := h.1 2 (by omega)
  have h3 := h.1 3 (by omega)
  unfold f_X0_side jushr ar
  have c : j = 0 ∨ j = 1 ∨ j = 2 ∨ j = 3 := by omega
  rcases c with rfl | rfl | rfl | rfl
  · rw [pk_ushrN (by omega) _ 0 (by decide), pk_andN (by omega) 8 (by decide)]
    exact congrArg (fun z => some (nI z)) (by omega)
  · rw [pk_ushrN (by omega) _ 8 (by decide), pk_andN (by omega) 8 (by decide)]
    exact congrArg (fun z => some (nI z)) (by omega)
  · rw [pk_ushrN (by omega) _ 16 (by decide), pk_andN (by omega) 8 (by decide)]
    exact congrArg (fun z => some (nI z)) (by omega)
  · rw [pk_ushrN (by omega) _ 24 (by decide), pk_andN (by omega) 8 (by decide)]
    exact congrArg (fun z => some (nI z)) (by omega)
/-! keys -/
theorem and_nI (x : Int32) {m : Nat} (hm : m < 2 ^ 31) : x &&& nI m = nI (x.toBitVec.toNat &&& m) := by
  apply Int32.toBitVec_inj.mp
  apply BitVec.eq_of_toNat_eq
  have q : x.toBitVec.toNat &&& m ≤ m := Nat.and_le_right
  rw [Int32.toBitVec_and, BitVec.toNat_and, pk_tn (by omega), pk_tn (by omega)]
theorem and_le0 (x : Int32) {m : Nat} (hm : m < 2 ^ 31) : (x &&& nI m) ≤ 0 ↔ (x &&& nI m) = 0 := by
  have q : x.toBitVec.toNat &&& m ≤ m := Nat.and_le_right
  rw [and_nI x hm, n0, nI_leI (by omega) (by omega), nI_eq (by omega) (by omega)]
  omega
theorem key_eq : ∀ fu m (x y a : Int32), m < 2 ^ 31 → f_X1_lengthTo_12 n fu x y a (nI m) = f_X5_keyAt_12 n fu x y a (nI m) := by
  intro fu
  induction fu with
  | zero => intro m x y a hm; rfl
  | succ fu ih =>
    intro m x y a hm
    have st (x' y' a' : Int32) : f_X1_lengthTo_12 n fu x' y' a' (nI m / 2) = f_X5_keyAt_12 n fu x' y' a' (nI m / 2) := by
      rw [n2, j_div2 hm]
      exact ih (m / 2) x' y' a' (by omega)
    have z10 : ¬ (1 : Int32) = 0 := by decide
    rw [f_X1_lengthTo_12, f_X5_keyAt_12]
    by_cases q : nI m ≤ 0
    · rw [if_pos q, if_pos q]
    · rw [if_neg q, if_neg q]
      by_cases bx : (x &&& nI m) = 0 <;> by_cases by' : (y &&& nI m) = 0
      · rw [if_pos bx, if_pos ((and_le0 x hm).2 bx)]
        unfold f_X1_lengthTo_29 f_X5_keyAt_29
        rw [if_pos by', if_pos ((and_le0 y hm).2 by')]
        unfold f_X1_lengthTo_43 f_X5_keyAt_43 f_X1_quarter
        rw [if_pos rfl, if_pos rfl, jbd_some, if_pos rfl, if_pos rfl]
        unfold f_X1_lengthTo_85 f_X5_keyAt_80
        rw [if_pos rfl, if_pos rfl]
        unfold f_X1_lengthTo_102 f_X5_keyAt_103
        rw [if_pos rfl]
        unfold f_X1_lengthTo_103 f_X5_keyAt_119 f_X5_keyAt_127
        exact st _ _ _
      · rw [if_pos bx, if_pos ((and_le0 x hm).2 bx)]
        unfold f_X1_lengthTo_29 f_X5_keyAt_29
        rw [if_neg by', if_neg (fun z => by' ((and_le0 y hm).1 z))]
        unfold f_X1_lengthTo_43 f_X5_keyAt_43 f_X1_quarter
        rw [if_pos rfl, if_neg z10, jbd_some, if_neg z10, if_pos rfl]
        unfold f_X5_keyAt_80
        rw [if_neg z10]
        unfold f_X1_lengthTo_103 f_X5_keyAt_127
        exact st _ _ _
      · rw [if_neg bx, if_neg (fun z => bx ((and_le0 x hm).1 z))]
        unfold f_X1_lengthTo_29 f_X5_keyAt_29
        rw [if_pos by', if_pos ((and_le0 y hm).2 by')]
        unfold f_X1_lengthTo_43 f_X5_keyAt_43 f_X1_quarter
        rw [if_neg z10, if_pos rfl, jbd_some, if_pos rfl, if_neg z10, if_neg z10]
        unfold f_X1_lengthTo_85 f_X5_keyAt_80
        rw [if_pos rfl, if_neg z10, if_neg z10]
        unfold f_X1_lengthTo_102 f_X5_keyAt_103
        rw [if_neg z10]
        unfold f_X1_lengthTo_103 f_X5_keyAt_119 f_X5_keyAt_127
        exact st _ _ _
      · rw [if_neg bx, if_neg (fun z => bx ((and_le0 x hm).1 z))]
        unfold f_X1_lengthTo_29 f_X5_keyAt_29
        rw [if_neg by', if_neg (fun z => by' ((and_le0 y hm).1 z))]
        unfold f_X1_lengthTo_43 f_X5_keyAt_43 f_X1_quarter
        rw [if_neg z10, if_neg z10, jbd_some, if_neg z10, if_neg z10]
        unfold f_X5_keyAt_80
        rw [if_neg z10]
        unfold f_X1_lengthTo_103 f_X5_keyAt_127
        exact st _ _ _
theorem key_some : ∀ fu m (x y a : Int32), m < 2 ^ fu → m < 2 ^ 31 → ∃ v, f_X5_keyAt_12 n (fu + 1) x y a (nI m) = some v := by
  intro fu
  induction fu with
  | zero =>
    intro m x y a hm hm2
    refine ⟨a, ?_⟩
    rw [f_X5_keyAt_12, if_pos (by rw [show m = 0 by omega]; decide)]
  | succ fu ih =>
    intro m x y a hm hm2
    have st (x' y' a' : Int32) : ∃ v, f_X5_keyAt_12 n (fu + 1) x' y' a' (nI m / 2) = some v := by
      rw [n2, j_div2 hm2]
      exact ih (m / 2) x' y' a' (by omega) (by omega)
    have s103 (x3 x4 x6 t0 : Int32) : ∃ v, f_X5_keyAt_103 n (f_X5_keyAt_12 n (fu + 1)) x3 x4 (nI m) x6 t0 = some v := by
      unfold f_X5_keyAt_103
      by_cases q : x6 = 0
      · rw [if_pos q]; exact st _ _ _
      · rw [if_neg q]; exact st _ _ _
    have s80 (x2 x3 x6 x7 t0 t1 t2 : Int32) : ∃ v, f_X5_keyAt_80 n (f_X5_keyAt_12 n (fu + 1)) x2 x3 (nI m) x6 x7 t0 t1 t2 = some v := by
      unfold f_X5_keyAt_80
      by_cases q : x7 = 0
      · rw [if_pos q]
        by_cases q : x6 = 0
        · rw [if_pos q]; exact s103 _ _ _ _
        · rw [if_neg q]; exact s103 _ _ _ _
      · rw [if_neg q]; exact st _ _ _
    have s43 (x2 x3 x4 x6 t0 : Int32) : ∃ v, f_X5_keyAt_43 n (f_X5_keyAt_12 n (fu + 1)) x2 x3 x4 (nI m) x6 t0 = some v := by
      unfold f_X5_keyAt_43
      by_cases q : x6 = 0
      · rw [if_pos q]
        by_cases q : t0 = 0
        · rw [if_pos q]; exact s80 _ _ _ _ _ _ _
        · rw [if_neg q]; exact s80 _ _ _ _ _ _ _
      · rw [if_neg q]
        by_cases q : t0 = 0
        · rw [if_pos q]; exact s80 _ _ _ _ _ _ _
        · rw [if_neg q]; exact s80 _ _ _ _ _ _ _
    have s29 (t0 : Int32) : ∃ v, f_X5_keyAt_29 n (f_X5_keyAt_12 n (fu + 1)) x y a (nI m) t0 = some v := by
      unfold f_X5_keyAt_29
      by_cases q : (y &&& nI m) ≤ 0
      · rw [if_pos q]; exact s43 _ _ _ _ _
      · rw [if_neg q]; exact s43 _ _ _ _ _
    rw [f_X5_keyAt_12]
    by_cases q : nI m ≤ 0
    · rw [if_pos q]; exact ⟨_, rfl⟩
    · rw [if_neg q]
      by_cases q : (x &&& nI m) ≤ 0
      · rw [if_pos q]; exact s29 _
      · rw [if_neg q]; exact s29 _
theorem key_all (hn : 100 ≤ n) (x y : Int32) : ∃ v, f_X1_lengthTo n x y = some v ∧ f_X5_keyAt n x y = some v := by
  obtain ⟨m, rfl⟩ : ∃ m, n = m + 1 := ⟨n - 1, by omega⟩
  have p : 2 ^ 8 ≤ 2 ^ m := Nat.pow_le_pow_right (by omega) (by omega)
  obtain ⟨v, hv⟩ := key_some (n := m + 1) m 128 x y 0 (by omega) (by omega)
  refine ⟨v, ?_, ?_⟩
  · unfold f_X1_lengthTo
    rw [n128, key_eq _ _ _ _ _ (by omega), hv]
  · unfold f_X5_keyAt
    rw [n128, hv]
end
