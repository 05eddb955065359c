theorem jn_not_neg {a : Nat} (h : a < 2 ^ 31) : ¬ nI a < 0 := by
  rw [n0, nI_ltI h (by omega)]
  omega
def gp (lo hi x : Nat) : Nat := if lo ≤ x then (if x ≤ hi then 0 else x - hi) else lo - x
def dst (s : Nat → Nat) (x y : Nat) : Nat := gp (s 0) (s 2) x * gp (s 0) (s 2) x + gp (s 1) (s 3) y * gp (s 1) (s 3) y
def mt (s t : Nat → Nat) : Bool := decide (s 0 ≤ t 2 ∧ t 0 ≤ s 2 ∧ s 1 ≤ t 3 ∧ t 1 ≤ s 3)
section
variable {n : Nat}
theorem gp_le {lo hi x : Nat} (h1 : lo < 256) (h2 : x < 256) : gp lo hi x ≤ 255 := by
  unfold gp
  split
  · split <;> omega
  · omega
theorem dst_le {s : Nat → Nat} (ok : okA s) {x y : Nat} (hx : x < 256) (hy : y < 256) : dst s x y ≤ 130050 := by
  unfold dst
  have a := gp_le (hi := s 2) (ok.1 0 (by omega)) hx
  have b := gp_le (hi := s 3) (ok.1 1 (by omega)) hy
  have c := Nat.mul_le_mul a a
  have d := Nat.mul_le_mul b b
  omega
theorem c_gap {lo hi x : Nat} (h : lo ≤ hi) (h1 : hi < 256) (h2 : x < 256) : f_X0_gap n (nI lo) (nI hi) (nI x) = some (nI (gp lo hi x)) := by
  unfold f_X0_gap gp
  by_cases q : lo ≤ x
  · rw [if_pos q]
    by_cases q2 : x ≤ hi
    · rw [if_pos q2]
      have a := pk_sub_toInt (a := lo) (b := x) (by omega) (by omega)
      have b := pk_sub_toInt (a := x) (b := hi) (by omega) (by omega)
      unfold jmax
      by_cases z : nI lo - nI x < nI x - nI hi
      · rw [if_pos z, if_neg (by rw [Int32.lt_iff_toInt_lt, z_0]; omega)]
        rfl
      · rw [if_neg z, if_neg (by rw [Int32.lt_iff_toInt_lt, z_0]; omega)]
        rfl
    · rw [if_neg q2, pk_sub (a := x) (b := hi) (by omega)]
      have a := pk_sub_toInt (a := lo) (b := x) (by omega) (by omega)
      unfold jmax
      rw [if_pos (show nI lo - nI x < nI (x - hi) by rw [Int32.lt_iff_toInt_lt, nI_toInt (by omega)]; omega), if_pos (by rw [n0, nI_ltI (by omega) (by omega)]; omega)]
  · rw [if_neg q, pk_sub (a := lo) (b := x) (by omega)]
    have b := pk_sub_toInt (a := x) (b := hi) (by omega) (by omega)
    unfold jmax
    rw [if_neg (show ¬ nI (lo - x) < nI x - nI hi by rw [Int32.lt_iff_toInt_lt, nI_toInt (by omega)]; omega), if_pos (by rw [n0, nI_ltI (by omega) (by omega)]; omega)]
theorem a_side0 {s : Nat → Nat} (h : okA s) : f_X0_side n (ar s) 0 = some (nI (s 0)) := a_side h (show 0 < 4 by omega)
theorem a_side1 {s : Nat → Nat} (h : okA s) : f_X0_side n (ar s) 1 = some (nI (s 1)) := a_side h (show 1 < 4 by omega)
theorem a_side2 {s : Nat → Nat} (h : okA s) : f_X0_side n (ar s) 2 = some (nI (s 2)) := a_side h (show 2 < 4 by omega)
theorem a_side3 {s : Nat → Nat} (h : okA s) : f_X0_side n (ar s) 3 = some (nI (s 3)) := a_side h (show 3 < 4 by omega)
theorem c_dist {s : Nat → Nat} (ok : okA s) {x y : Nat} (hx : x < 256) (hy : y < 256) : f_X0_distanceFrom n (ar s) (nI x) (nI y) = some (nI (dst s x y)) := by
  unfold f_X0_distanceFrom dst
  rw [a_side0 ok, jbd_some, a_side2 ok, jbd_some, c_gap ok.2.1 (ok.1 2 (by omega)) hx, jbd_some, a_side1 ok, jbd_some, a_side3 ok, jbd_some, c_gap ok.2.2 (ok.1 3 (by omega)) hy, jbd_some, pk_mul, pk_mul, nI_add]
theorem c_meet {s t : Nat → Nat} (ok : okA s) (ok2 : okA t) : f_X0_meet n (ar s) (ar t) = some (bI (mt s t)) := by
  have s0 := ok.1 0 (by omega)
  have s1 := ok.1 1 (by omega)
  have s2 := ok.1 2 (by omega)
  have s3 := ok.1 3 (by omega)
  have t0 := ok2.1 0 (by omega)
  have t1 := ok2.1 1 (by omega)
  have t2 := ok2.1 2 (by omega)
  have t3 := ok2.1 3 (by omega)
  unfold f_X0_meet bI mt
  rw [a_side0 ok, jbd_some, a_side2 ok2, jbd_some, a_side0 ok2, a_side2 ok, a_side1 ok, a_side3 ok2, a_side1 ok2, a_side3 ok]
  simp only [jbd_some, nI_ltI (show t 2 < 2 ^ 31 by omega) (show s 0 < 2 ^ 31 by omega), nI_ltI (show s 2 < 2 ^ 31 by omega) (show t 0 < 2 ^ 31 by omega), nI_ltI (show t 3 < 2 ^ 31 by omega) (show s 1 < 2 ^ 31 by omega), nI_ltI (show s 3 < 2 ^ 31 by omega) (show t 1 < 2 ^ 31 by omega), decide_eq_true_eq]
  by_cases q1 : t 2 < s 0
  · rw [if_pos q1, if_neg (by omega)]
  · rw [if_neg q1]
    by_cases q2 : s 2 < t 0
    · rw [if_pos q2, if_neg (by omega)]
    · rw [if_neg q2]
      by_cases q3 : t 3 < s 1
      · rw [if_pos q3, if_neg (by omega)]
      · rw [if_neg q3]
        by_cases q4 : s 3 < t 1
        · rw [if_pos q4, if_neg (by omega)]
        · rw [if_neg q4, if_pos (by omega)]
variable {N S : Nat} {sd : Nat → Nat → Nat} {th : Nat → Bool} {od : Nat → Nat} {areas keys there order msides mkey misThere morder : Nat → Int32}
theorem m_side0 (R : RST N S sd th od areas keys there order msides mkey misThere morder) {α : Type} {k : Int32 → Option α} {b : Nat} (hb : b < N) : jrd msides 400 (nI (4 * b)) k = k (nI (sd b 0)) := by
  have := R.hN
  have s := R.side b 0 hb (by omega)
  rw [Nat.add_zero] at s
  rw [jrd_n (by omega) (by omega), s]
theorem m_sideJ (R : RST N S sd th od areas keys there order msides mkey misThere morder) {α : Type} {k : Int32 → Option α} {b j : Nat} (hb : b < N) (hj : j < 4) : jrd msides 400 (nI (4 * b + j)) k = k (nI (sd b j)) := by
  have := R.hN
  rw [jrd_n (by omega) (by omega), R.side b j hb hj]
theorem x_4 (b : Nat) : (4 : Int32) * nI b = nI (4 * b) := by rw [n4, pk_mul]
theorem x_1 (b : Nat) : nI b + 1 = nI (b + 1) := by rw [n1, nI_add]
theorem x_2 (b : Nat) : nI b + 2 = nI (b + 2) := by rw [n2, nI_add]
theorem x_3 (b : Nat) : nI b + 3 = nI (b + 3) := by rw [n3, nI_add]
theorem m_far (R : RST N S sd th od areas keys there order msides mkey misThere morder) {b x y : Nat} (hb : b < N) (hx : x < 256) (hy : y < 256) : f_X5_far n msides (nI x) (nI y) (nI b) = some (nI (dst (sd b) x y)) := by
  have ok := R.ok b hb
  have s0 := ok.1 0 (by omega)
  have s1 := ok.1 1 (by omega)
  have s2 := ok.1 2 (by omega)
  have s3 := ok.1 3 (by omega)
  have last (g : Nat) : f_X5_far_56 n msides (nI y) (nI (4 * b)) (nI g) = some (nI (g * g + gp (sd b 1) (sd b 3) y * gp (sd b 1) (sd b 3) y)) := by
    unfold f_X5_far_56 f_X5_far_113
    simp only [x_1, x_3]
    simp only [m_sideJ R hb (show 1 < 4 by omega), m_sideJ R hb (show 3 < 4 by omega)]
    unfold gp
    by_cases q : sd b 1 ≤ y
    · rw [if_pos (nI_le q (by omega)), if_pos q]
      by_cases q2 : y ≤ sd b 3
      · rw [if_pos (nI_le q2 (by omega)), if_pos q2, pk_mul, n0, pk_mul, nI_add]
      · rw [if_neg (nI_ge (by omega) (by omega)), if_neg q2, pk_sub (by omega), pk_mul, pk_mul, nI_add]
    · rw [if_neg (nI_ge (by omega) (by omega)), if_neg q, pk_sub (by omega), pk_mul, pk_mul, nI_add]
  unfold f_X5_far dst
  simp only [x_4, x_2]
  simp only [m_side0 R hb, m_sideJ R hb (show 2 < 4 by omega)]
  unfold gp at last ⊢
  by_cases q : sd b 0 ≤ x
  · rw [if_pos (nI_le q (by omega)), if_pos q]
    by_cases q2 : x ≤ sd b 2
    · rw [if_pos (nI_le q2 (by omega)), if_pos q2, n0, last]
    · rw [if_neg (nI_ge (by omega) (by omega)), if_neg q2, pk_sub (by omega), last]
  · rw [if_neg (nI_ge (by omega) (by omega)), if_neg q, pk_sub (by omega), last]
theorem m_meet (R : RST N S sd th od areas keys there order msides mkey misThere morder) {b : Nat} (hb : b < N) {t : Nat → Nat} (ok2 : okA t) : f_X5_doesMeet n msides (nI b) (nI (t 0)) (nI (t 1)) (nI (t 2)) (nI (t 3)) = some (bI (mt (sd b) t)) := by
  have ok := R.ok b hb
  have s0 := ok.1 0 (by omega)
  have s1 := ok.1 1 (by omega)
  have s2 := ok.1 2 (by omega)
  have s3 := ok.1 3 (by omega)
  have t0 := ok2.1 0 (by omega)
  have t1 := ok2.1 1 (by omega)
  have t2 := ok2.1 2 (by omega)
  have t3 := ok2.1 3 (by omega)
  unfold f_X5_doesMeet bI mt
  simp only [x_4, x_1, x_2, x_3]
  simp only [m_side0 R hb, m_sideJ R hb (show 1 < 4 by omega), m_sideJ R hb (show 2 < 4 by omega), m_sideJ R hb (show 3 < 4 by omega)]
  simp only [nI_ltI (show t 2 < 2 ^ 31 by omega) (show sd b 0 < 2 ^ 31 by omega), nI_ltI (show sd b 2 < 2 ^ 31 by omega) (show t 0 < 2 ^ 31 by omega), nI_ltI (show t 3 < 2 ^ 31 by omega) (show sd b 1 < 2 ^ 31 by omega), nI_ltI (show sd b 3 < 2 ^ 31 by omega) (show t 1 < 2 ^ 31 by omega), decide_eq_true_eq]
  by_cases q1 : t 2 < sd b 0
  · rw [if_pos q1, if_neg (by omega)]
  · rw [if_neg q1]
    by_cases q2 : sd b 2 < t 0
    · rw [if_pos q2, if_neg (by omega)]
    · rw [if_neg q2]
      by_cases q3 : t 3 < sd b 1
      · rw [if_pos q3, if_neg (by omega)]
      · rw [if_neg q3]
        by_cases q4 : sd b 3 < t 1
        · rw [if_pos q4, if_neg (by omega)]
        · rw [if_neg q4, if_pos (by omega)]
end
