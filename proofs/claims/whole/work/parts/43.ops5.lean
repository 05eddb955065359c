section
variable {n N S : Nat} {sd : Nat → Nat → Nat} {th : Nat → Bool} {od : Nat → Nat} {areas keys there order msides mkey misThere morder : Nat → Int32}
theorem jm1_ne {a : Nat} (ha : a < 2 ^ 31) : ¬ nI a = jm1 := by
  intro q
  have := congrArg Int32.toInt q
  rw [nI_toInt ha, jm1_int] at this
  omega
theorem c_fo_end (R : RST N S sd th od areas keys there order msides mkey misThere morder) {t : Nat → Nat} (ok : okA t) {k : Int32} (hk : ∀ i, i < S → mt (sd (od i)) t = true → nI (sm (cm sd od t) i) ≠ k) : ∀ d fu j, S = j + d → d < fu → f_X4_found_24 n areas order (nI S) fu k (ar t) (nI (sm (cm sd od t) j)) (nI j) = some (3, 0) := by
  have hS := R.hS
  intro d
  induction d with
  | zero =>
    intro fu j hj hf
    obtain ⟨fu, rfl⟩ : ∃ q, fu = q + 1 := ⟨fu - 1, by omega⟩
    rw [f_X4_found_24]
    unfold f_X2_size
    rw [jbd_some, if_pos (nI_le (by omega) (by omega))]
  | succ d ih =>
    intro fu j hj hf
    obtain ⟨fu, rfl⟩ : ∃ q, fu = q + 1 := ⟨fu - 1, by omega⟩
    have st := ih fu (j + 1) (by omega) (by omega)
    rw [f_X4_found_24]
    unfold f_X2_size f_X4_found_73
    rw [jbd_some, if_neg (nI_ge (by omega) (by omega)), r_areaAt R (by omega), jbd_some, c_meet (R.ok _ (R.odN j (by omega)).1) ok, jbd_some, x_1, x_1]
    cases q : mt (sd (od j)) t with
    | true => rw [bI_t, if_neg z10, if_neg (hk j (by omega) q), ← cm_t q]; exact st
    | false => rw [bI_f, if_pos rfl, ← cm_f q]; exact st
theorem c_fo_hit (R : RST N S sd th od areas keys there order msides mkey misThere morder) {t : Nat → Nat} (ok : okA t) {k p : Nat} (hp : p < S) (h1 : sm (cm sd od t) p = k) (h2 : mt (sd (od p)) t = true) : ∀ d fu j, p = j + d → d < fu → f_X4_found_24 n areas order (nI S) fu (nI k) (ar t) (nI (sm (cm sd od t) j)) (nI j) = some (0, nI (od p)) := by
  have hS := R.hS
  intro d
  induction d with
  | zero =>
    intro fu j hj hf
    obtain ⟨fu, rfl⟩ : ∃ q, fu = q + 1 := ⟨fu - 1, by omega⟩
    have e : p = j := by omega
    subst e
    rw [f_X4_found_24]
    unfold f_X2_size
    rw [jbd_some, if_neg (nI_ge (by omega) (by omega)), r_areaAt R (by omega), jbd_some, c_meet (R.ok _ (R.odN p (by omega)).1) ok, jbd_some, h2, bI_t, if_neg z10, h1, if_pos rfl, r_numberAt R hp, jbd_some]
  | succ d ih =>
    intro fu j hj hf
    obtain ⟨fu, rfl⟩ : ∃ q, fu = q + 1 := ⟨fu - 1, by omega⟩
    have st := ih fu (j + 1) (by omega) (by omega)
    have le := sm_le (cm sd od t) (show j + 1 ≤ p by omega)
    have lp := cm_le (sd := sd) (od := od) (t := t) p
    rw [f_X4_found_24]
    unfold f_X2_size f_X4_found_73
    rw [jbd_some, if_neg (nI_ge (by omega) (by omega)), r_areaAt R (by omega), jbd_some, c_meet (R.ok _ (R.odN j (by omega)).1) ok, jbd_some, x_1, x_1]
    cases q : mt (sd (od j)) t with
    | true =>
      have ct := cm_t (sd := sd) (od := od) q
      rw [bI_t, if_neg z10, if_neg (by rw [nI_eq (by omega) (by omega)]; omega), ← ct]
      exact st
    | false => rw [bI_f, if_pos rfl, ← cm_f q]; exact st
theorem m_fo_hit (R : RST N S sd th od areas keys there order msides mkey misThere morder) {t : Nat → Nat} (ok : okA t) {k p : Nat} {tt : Int32} (hp : p < S) (h1 : sm (cm sd od t) p = k) (h2 : mt (sd (od p)) t = true) : ∀ d fu j, p = j + d → d < fu → f_X5_found_59 n msides (nI S) morder fu tt (nI (t 0)) (nI (t 1)) (nI (t 2)) (nI (t 3)) (nI (k - sm (cm sd od t) j)) (nI j) = some (nI (od p), tt) := by
  have hS := R.hS
  intro d
  induction d with
  | zero =>
    intro fu j hj hf
    obtain ⟨fu, rfl⟩ : ∃ q, fu = q + 1 := ⟨fu - 1, by omega⟩
    have e : p = j := by omega
    subst e
    rw [f_X5_found_59, h1, Nat.sub_self, if_neg (show ¬ (0 : Int32) < nI 0 by decide), jrd_n (by omega) (by omega), (R.ord p hp).2, m_meet R (R.odN p hp).1 ok, jbd_some, h2, bI_t, if_neg z10, jrd_n (by omega) (by omega), (R.ord p hp).2]
  | succ d ih =>
    intro fu j hj hf
    obtain ⟨fu, rfl⟩ : ∃ q, fu = q + 1 := ⟨fu - 1, by omega⟩
    have st := ih fu (j + 1) (by omega) (by omega)
    have le := sm_le (cm sd od t) (show j + 1 ≤ p by omega)
    have lp := cm_le (sd := sd) (od := od) (t := t) p
    have go : f_X5_found_83 n msides (nI S) morder (f_X5_found_59 n msides (nI S) morder fu) tt (nI (t 0)) (nI (t 1)) (nI (t 2)) (nI (t 3)) (nI (k - sm (cm sd od t) j)) (nI j) = some (nI (od p), tt) := by
      unfold f_X5_found_83 f_X5_found_109
      rw [jrd_n (by omega) (by omega), (R.ord j (by omega)).2, m_meet R (R.odN j (by omega)).1 ok, jbd_some, x_1]
      cases q : mt (sd (od j)) t with
      | true =>
        have ct := cm_t (sd := sd) (od := od) q
        rw [bI_t, if_neg z10, n1, pk_sub (by omega), show k - sm (cm sd od t) j - 1 = k - sm (cm sd od t) (j + 1) by omega]
        exact st
      | false =>
        have cf := cm_f (sd := sd) (od := od) q
        rw [bI_f, if_pos rfl, n0, pk_sub (by omega), Nat.sub_zero, ← cf]
        exact st
    rw [f_X5_found_59]
    by_cases z : 0 < k - sm (cm sd od t) j
    · rw [if_pos (show (0 : Int32) < nI (k - sm (cm sd od t) j) by rw [n0, nI_ltI (by omega) (by omega)]; exact z), go]
    · rw [if_neg (show ¬ (0 : Int32) < nI (k - sm (cm sd od t) j) by rw [n0, nI_ltI (by omega) (by omega)]; exact z), jrd_n (by omega) (by omega), (R.ord j (by omega)).2, m_meet R (R.odN j (by omega)).1 ok, jbd_some]
      cases q : mt (sd (od j)) t with
      | true =>
        have ct := cm_t (sd := sd) (od := od) q
        omega
      | false => rw [bI_f, if_pos rfl, go]
/-! pairs -/
def mp (sd : Nat → Nat → Nat) (th : Nat → Bool) (x y : Nat) : Bool := th x && (th y && mt (sd x) (sd y))
theorem c_pair (R : RST N S sd th od areas keys there order msides mkey misThere morder) {x y : Nat} (hx : x < N) (hy : y < N) : f_X2_haveMet n areas there (nI x) (nI y) = some (bI (mp sd th x y)) := by
  have hN := R.hN
  unfold f_X2_haveMet mp
  rw [r_has R (by omega), jbd_some, r_has R (by omega)]
  cases q : th x with
  | false => rw [bI_f, if_pos rfl]; rfl
  | true =>
    rw [bI_t, if_neg z10, jbd_some]
    cases q2 : th y with
    | false => rw [bI_f, if_pos rfl]; rfl
    | true =>
      rw [bI_t, if_neg z10, r_areaOf R hx, jbd_some, r_areaOf R hy, jbd_some, c_meet (R.ok x hx) (R.ok y hy), jbd_some]
      cases q3 : mt (sd x) (sd y) with
      | false => rfl
      | true => rfl
theorem m_pair (R : RST N S sd th od areas keys there order msides mkey misThere morder) {x y : Nat} (hx : x < N) (hy : y < N) : f_X5_arePair n msides misThere (nI x) (nI y) = some (bI (mp sd th x y)) := by
  have hN := R.hN
  unfold f_X5_arePair mp
  rw [jrd_n (by omega) (by omega), R.mthr x (by omega), jrd_n (by omega) (by omega), R.mthr y (by omega)]
  cases q : th x with
  | false => rw [bI_f, if_pos rfl]; rfl
  | true =>
    rw [bI_t, if_neg z10]
    cases q2 : th y with
    | false => rw [bI_f, if_pos rfl]; rfl
    | true =>
      simp only [x_4, x_1, x_2, x_3]
      rw [bI_t, if_neg z10, m_side0 R hy, m_sideJ R hy (by omega), m_sideJ R hy (by omega), m_sideJ R hy (by omega), m_meet R hx (R.ok y hy), jbd_some]
      cases q3 : mt (sd x) (sd y) with
      | false => rfl
      | true => rfl
end
