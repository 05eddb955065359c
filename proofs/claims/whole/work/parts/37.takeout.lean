section
variable {n N S : Nat} {sd : Nat → Nat → Nat} {th : Nat → Bool} {od : Nat → Nat} {areas keys there order msides mkey misThere morder : Nat → Int32}
theorem c_del {x : Nat} (hx : x ≤ 60) (hx0 : 0 < x) {T : Nat → Int32} : ∀ d fu j (O : Nat → Int32), x = j + d + 1 → d < fu → f_X2_takeOut_28 n fu T O (nI x) (nI j) = some (T, delA O 0 j x, nI (x - 1)) := by
  intro d
  induction d with
  | zero =>
    intro fu j O hj hf
    obtain ⟨fu, rfl⟩ : ∃ q, fu = q + 1 := ⟨fu - 1, by omega⟩
    rw [f_X2_takeOut_28, j_pred (by omega), if_pos (nI_le (by omega) (by omega)), delA_0 _ (by omega)]
  | succ d ih =>
    intro fu j O hj hf
    obtain ⟨fu, rfl⟩ : ∃ q, fu = q + 1 := ⟨fu - 1, by omega⟩
    have s := delA_s O (b := 0) (j := j) (W := x) (by omega)
    rw [Nat.zero_add, Nat.zero_add] at s
    rw [f_X2_takeOut_28, j_pred (by omega), if_neg (nI_ge (by omega) (by omega)), n1, nI_add]
    unfold f_X2_numberAt f_X2_setOrder
    rw [n0, if_neg (show ¬ nI (j + 1) < nI 0 by rw [nI_ltI (by omega) (by omega)]; omega), n60, if_neg (nI_ge (by omega) (by omega)), if_neg (nI_ge (by omega) (by omega)), jrd_n (by omega) (by omega), jbd_some, if_neg (show ¬ nI j < nI 0 by rw [nI_ltI (by omega) (by omega)]; omega), if_neg (nI_ge (by omega) (by omega)), jwr_n (by omega) (by omega), jbd_some, ih fu (j + 1) _ (by omega) (by omega), s]
theorem m_del {x : Nat} (hx : x ≤ 60) (hx0 : 0 < x) {madded mlevels mthrown x3 : Int32} {T mn me : Nat → Int32} : ∀ d fu j (O : Nat → Int32), x = j + d + 1 → d < fu → f_X5_remove_54 n madded fu T (nI (x - 1)) O mlevels mn me mthrown x3 (nI j) = jbd (f_X5_shrinks n (nI (x - 1)) mlevels mn me x3) (fun v6 => some (nI (x - 1), T, nI (x - 1), delA O 0 j x, v6.1, v6.2.1, v6.2.2, mthrown)) := by
  intro d
  induction d with
  | zero =>
    intro fu j O hj hf
    obtain ⟨fu, rfl⟩ : ∃ q, fu = q + 1 := ⟨fu - 1, by omega⟩
    rw [f_X5_remove_54, if_pos (nI_le (by omega) (by omega)), delA_0 _ (by omega)]
  | succ d ih =>
    intro fu j O hj hf
    obtain ⟨fu, rfl⟩ : ∃ q, fu = q + 1 := ⟨fu - 1, by omega⟩
    have s := delA_s O (b := 0) (j := j) (W := x) (by omega)
    rw [Nat.zero_add, Nat.zero_add] at s
    rw [f_X5_remove_54, if_neg (nI_ge (by omega) (by omega)), n1, nI_add, jrd_n (by omega) (by omega), jwr_n (by omega) (by omega), ih fu (j + 1) _ (by omega) (by omega), s]
theorem rst_del (R : RST N S sd th od areas keys there order msides mkey misThere morder) {b i : Nat} (hb : b < N) (ht : th b = true) (hi : i < S) (hod : od i = b) : RST N (S - 1) sd (fun x => if x = b then false else th x) (delR od i) areas keys (upd there b 0) (delA order 0 i S) msides mkey (upd misThere b 0) (delA morder 0 i S) := by
  have hN := R.hN
  have cnt : ∀ f : Nat → Nat, sm (fun k => f (delR od i k)) (S - 1) = sm (fun x => if (if x = b then false else th x) = true then f x else 0) N := by
    intro f
    have c := R.cnt f
    have e1 : sm (fun k => f (delR od i k)) (S - 1) = sm (delR (fun k => f (od k)) i) (S - 1) := by
      refine sm_cong (fun k hk => ?_)
      unfold delR
      by_cases q1 : k < i
      · rw [if_pos q1, if_pos q1]
      · rw [if_neg q1, if_neg q1]
    have e2 := sm_del (fun k => f (od k)) hi
    have e3 : sm (fun x => if (if x = b then false else th x) = true then f x else 0) N = sm (un (fun x => if th x = true then f x else 0) b 0) N := by
      refine sm_cong (fun k hk => ?_)
      unfold un
      by_cases q : k = b
      · simp [q]
      · simp [q]
    have e4 := sm_un (fun x => if th x = true then f x else 0) 0 hb
    try dsimp only at e2
    try dsimp only at e4
    rw [hod] at e2
    rw [if_pos ht] at e4
    rw [e1, e3]
    omega
  refine ⟨R.hN, by have := R.hS; omega, R.ok, R.area, R.side, R.key, fun x hx => ?_, fun x hx => ?_, fun x hx => ?_, fun k hk => ?_, fun k hk => ?_, cnt⟩
  all_goals try dsimp only
  · by_cases q : x = b
    · rw [if_pos q, q, pk_us]; rfl
    · rw [if_neg q, pk_un q]; exact R.thr x hx
  · by_cases q : x = b
    · rw [if_pos q, q, pk_us]; rfl
    · rw [if_neg q, pk_un q]; exact R.mthr x hx
  · rw [if_neg (by omega)]
    exact R.new x hx
  · unfold delA delR
    rw [Nat.zero_add, Nat.zero_add]
    by_cases q1 : k < i
    · simp only [if_neg (show ¬ (i ≤ k ∧ k + 1 < S) by omega), if_pos q1]
      exact R.ord k (by omega)
    · simp only [if_pos (show i ≤ k ∧ k + 1 < S by omega), if_neg q1]
      exact R.ord (k + 1) (by omega)
  · have ne : delR od i k ≠ b := by
      intro z
      have c := cnt (fun x => if x = b then 1 else 0)
      have g := sm_ge (f := fun k => if delR od i k = b then 1 else 0) hk
      have y : sm (fun x => if (if x = b then false else th x) = true then (if x = b then 1 else 0) else 0) N = 0 := by
        refine sm_zero (fun x hx => ?_)
        by_cases q : x = b
        · simp [q]
        · simp [q]
      try dsimp only at g
      rw [if_pos z] at g
      omega
    have t : delR od i k < N ∧ th (delR od i k) = true := by
      unfold delR
      by_cases q : k < i
      · rw [if_pos q]; exact R.odN k (by omega)
      · rw [if_neg q]; exact R.odN (k + 1) (by omega)
    refine ⟨t.1, ?_⟩
    rw [if_neg ne]
    exact t.2
end
