def bI (b : Bool) : Int32 := if b = true then 1 else 0
def RST (N S : Nat) (sd : Nat → Nat → Nat) (th : Nat → Bool) (od : Nat → Nat) (areas keys there order msides mkey misThere morder : Nat → Int32) : Prop :=
  (N ≤ 100) ∧ (S ≤ 60) ∧ (∀ b, b < N → okA (sd b)) ∧ (∀ b, b < N → areas b = ar (sd b)) ∧ (∀ b j, b < N → j < 4 → msides (4 * b + j) = nI (sd b j)) ∧ (∀ b, b < N → mkey b = keys b) ∧ (∀ b, b < 100 → there b = bI (th b)) ∧ (∀ b, b < 100 → misThere b = bI (th b)) ∧ (∀ b, N ≤ b → th b = false) ∧ (∀ i, i < S → order i = nI (od i) ∧ morder i = nI (od i)) ∧ (∀ i, i < S → od i < N ∧ th (od i) = true) ∧ (∀ f : Nat → Nat, sm (fun i => f (od i)) S = sm (fun b => if th b = true then f b else 0) N)
section
variable {N S : Nat} {sd : Nat → Nat → Nat} {th : Nat → Bool} {od : Nat → Nat} {areas keys there order msides mkey misThere morder : Nat → Int32}
theorem RST.hN (R : RST N S sd th od areas keys there order msides mkey misThere morder) : N ≤ 100 := R.1
theorem RST.hS (R : RST N S sd th od areas keys there order msides mkey misThere morder) : S ≤ 60 := R.2.1
theorem RST.ok (R : RST N S sd th od areas keys there order msides mkey misThere morder) : ∀ b, b < N → okA (sd b) := R.2.2.1
theorem RST.area (R : RST N S sd th od areas keys there order msides mkey misThere morder) : ∀ b, b < N → areas b = ar (sd b) := R.2.2.2.1
theorem RST.side (R : RST N S sd th od areas keys there order msides mkey misThere morder) : ∀ b j, b < N → j < 4 → msides (4 * b + j) = nI (sd b j) := R.2.2.2.2.1
theorem RST.key (R : RST N S sd th od areas keys there order msides mkey misThere morder) : ∀ b, b < N → mkey b = keys b := R.2.2.2.2.2.1
theorem RST.thr (R : RST N S sd th od areas keys there order msides mkey misThere morder) : ∀ b, b < 100 → there b = bI (th b) := R.2.2.2.2.2.2.1
theorem RST.mthr (R : RST N S sd th od areas keys there order msides mkey misThere morder) : ∀ b, b < 100 → misThere b = bI (th b) := R.2.2.2.2.2.2.2.1
theorem RST.new (R : RST N S sd th od areas keys there order msides mkey misThere morder) : ∀ b, N ≤ b → th b = false := R.2.2.2.2.2.2.2.2.1
theorem RST.ord (R : RST N S sd th od areas keys there order msides mkey misThere morder) : ∀ i, i < S → order i = nI (od i) ∧ morder i = nI (od i) := R.2.2.2.2.2.2.2.2.2.1
theorem RST.odN (R : RST N S sd th od areas keys there order msides mkey misThere morder) : ∀ i, i < S → od i < N ∧ th (od i) = true := R.2.2.2.2.2.2.2.2.2.2.1
theorem RST.cnt (R : RST N S sd th od areas keys there order msides mkey misThere morder) : ∀ f : Nat → Nat, sm (fun i => f (od i)) S = sm (fun b => if th b = true then f b else 0) N := R.2.2.2.2.2.2.2.2.2.2.2
end
theorem i_cases (x : Int32) : x < 0 ∨ ∃ b : Nat, b < 2 ^ 31 ∧ x = nI b := by
  by_cases q : x.toInt < 0
  · exact Or.inl (Int32.lt_iff_toInt_lt.2 (by have : (0 : Int32).toInt = 0 := by decide
                                              omega))
  · refine Or.inr ⟨x.toInt.toNat, ?_, ?_⟩
    · have := Int32.toInt_lt x
      omega
    · apply Int32.toInt_inj.mp
      have := Int32.toInt_lt x
      rw [nI_toInt (by omega)]
      omega
theorem sm_zero {f : Nat → Nat} : ∀ {n : Nat}, (∀ k, k < n → f k = 0) → sm f n = 0
  | 0, _ => rfl
  | n + 1, h => by rw [sm_s, h n (by omega), sm_zero (fun k hk => h k (by omega))]
theorem sm_pos {f : Nat → Nat} : ∀ {n : Nat}, 0 < sm f n → ∃ k, k < n ∧ 0 < f k
  | 0, h => absurd h (Nat.lt_irrefl 0)
  | n + 1, h => by
    rw [sm_s] at h
    by_cases q : 0 < f n
    · exact ⟨n, by omega, q⟩
    · obtain ⟨k, a, b⟩ := sm_pos (show 0 < sm f n by omega)
      exact ⟨k, by omega, b⟩
theorem sm_ge {f : Nat → Nat} {n k : Nat} (h : k < n) : f k ≤ sm f n := by
  have := sm_le f (show k + 1 ≤ n by omega)
  rw [sm_s] at this
  omega
theorem least {p : Nat → Prop} : ∀ i, p i → ∃ j, j ≤ i ∧ p j ∧ ∀ k, k < j → ¬ p k := by
  intro i
  induction i using Nat.strongRecOn with
  | _ i ih =>
    intro h
    by_cases q : ∃ k, k < i ∧ p k
    · obtain ⟨k, a, b⟩ := q
      obtain ⟨j, c, d, e⟩ := ih k a b
      exact ⟨j, by omega, d, e⟩
    · exact ⟨i, Nat.le_refl _, h, fun k hk hp => q ⟨k, hk, hp⟩⟩
section
variable {n N S : Nat} {sd : Nat → Nat → Nat} {th : Nat → Bool} {od : Nat → Nat} {areas keys there order msides mkey misThere morder : Nat → Int32}
theorem RST.place (R : RST N S sd th od areas keys there order msides mkey misThere morder) {b : Nat} (hb : b < N) (ht : th b = true) : ∃ i, i < S ∧ od i = b ∧ ∀ k, k < i → od k ≠ b := by
  have c := R.cnt (fun x => if x = b then 1 else 0)
  have g := sm_ge (f := fun x => if th x = true then (if x = b then 1 else 0) else 0) hb
  simp only [if_pos ht, if_true] at g
  obtain ⟨k, k1, k2⟩ := sm_pos (f := fun i => if od i = b then 1 else 0) (n := S) (by omega)
  have k3 : od k = b := by
    by_cases q : od k = b
    · exact q
    · rw [if_neg q] at k2
      omega
  obtain ⟨j, j1, j2, j3⟩ := least (p := fun i => od i = b) k k3
  exact ⟨j, by omega, j2, j3⟩
theorem r_numberAt (R : RST N S sd th od areas keys there order msides mkey misThere morder) {i : Nat} (hi : i < S) : f_X2_numberAt n order (nI S) (nI i) = some (nI (od i)) := by
  have := R.hS
  unfold f_X2_numberAt
  rw [n0, if_neg (show ¬ nI i < nI 0 by rw [nI_ltI (by omega) (by omega)]; omega), n60, if_neg (nI_ge (by omega) (by omega)), if_neg (nI_ge (by omega) (by omega)), jrd_n (by omega) (by omega), (R.ord i hi).1]
theorem r_areaOf (R : RST N S sd th od areas keys there order msides mkey misThere morder) {b : Nat} (hb : b < N) : f_X2_areaOf n areas (nI b) = some (ar (sd b)) := by
  have := R.hN
  unfold f_X2_areaOf
  rw [n0, if_neg (show ¬ nI b < nI 0 by rw [nI_ltI (by omega) (by omega)]; omega), n100, if_neg (nI_ge (by omega) (by omega)), jrd_n (by omega) (by omega), R.area b hb]
theorem r_keyFor (R : RST N S sd th od areas keys there order msides mkey misThere morder) {b : Nat} (hb : b < 100) : f_X2_keyFor n keys (nI b) = some (keys b) := by
  have := R.hN
  unfold f_X2_keyFor
  rw [n0, if_neg (show ¬ nI b < nI 0 by rw [nI_ltI (by omega) (by omega)]; omega), n100, if_neg (nI_ge (by omega) (by omega)), jrd_n (by omega) (by omega)]
theorem r_areaAt (R : RST N S sd th od areas keys there order msides mkey misThere morder) {i : Nat} (hi : i < S) : f_X2_areaAt n areas order (nI S) (nI i) = some (ar (sd (od i))) := by
  unfold f_X2_areaAt
  rw [r_numberAt R hi, jbd_some, r_areaOf R (R.odN i hi).1, jbd_some]
theorem r_has (R : RST N S sd th od areas keys there order msides mkey misThere morder) {b : Nat} (hb : b < 100) : f_X2_has n there (nI b) = some (bI (th b)) := by
  unfold f_X2_has
  rw [n0, if_neg (show ¬ nI b < nI 0 by rw [nI_ltI (by omega) (by omega)]; omega), n100, if_neg (nI_ge (by omega) (by omega)), jrd_n (by omega) (by omega), R.thr b hb]
  unfold bI
  by_cases q : th b = true
  · rw [if_pos q]
    rfl
  · rw [if_neg q]
    rfl
theorem r_is (R : RST N S sd th od areas keys there order msides mkey misThere morder) {b : Nat} (hb : b < N) : f_X5_is n (nI N) misThere (nI b) = some (bI (th b)) := by
  have := R.hN
  unfold f_X5_is
  rw [n0, if_neg (show ¬ nI b < nI 0 by rw [nI_ltI (by omega) (by omega)]; omega), if_neg (nI_ge (by omega) (by omega)), jrd_n (by omega) (by omega), R.mthr b (by omega)]
  unfold bI
  by_cases q : th b = true
  · rw [if_pos q]
    rfl
  · rw [if_neg q]
    rfl
theorem r_box (R : RST N S sd th od areas keys there order msides mkey misThere morder) (x : Int32) : (∃ b, b < N ∧ th b = true ∧ x = nI b ∧ f_X4_checkBox n there x = some 0 ∧ f_X5_is n (nI N) misThere x = some 1) ∨ (f_X4_checkBox n there x = some 3 ∧ f_X5_is n (nI N) misThere x = some 0) := by
  have hN := R.hN
  rcases i_cases x with q | ⟨b, b1, rfl⟩
  · refine Or.inr ⟨?_, ?_⟩
    · unfold f_X4_checkBox f_X2_has
      rw [if_pos q]
      rfl
    · unfold f_X5_is
      rw [if_pos q]
  · by_cases c : b < N
    · have h1 := r_has (n := n) R (show b < 100 by omega)
      have h2 := r_is (n := n) R c
      by_cases t : th b = true
      · refine Or.inl ⟨b, c, t, rfl, ?_, ?_⟩
        · unfold f_X4_checkBox
          rw [h1, t]
          rfl
        · rw [h2, t]
          rfl
      · have t : th b = false := by simpa using t
        refine Or.inr ⟨?_, ?_⟩
        · unfold f_X4_checkBox
          rw [h1, t]
          rfl
        · rw [h2, t]
          rfl
    · refine Or.inr ⟨?_, ?_⟩
      · unfold f_X4_checkBox
        by_cases d : b < 100
        · rw [r_has R d, R.new b (by omega)]
          rfl
        · unfold f_X2_has
          rw [n0, if_neg (show ¬ nI b < nI 0 by rw [nI_ltI (by omega) (by omega)]; omega), n100, if_pos (nI_le (by omega) (by omega))]
          rfl
      · unfold f_X5_is
        rw [n0, if_neg (show ¬ nI b < nI 0 by rw [nI_ltI (by omega) (by omega)]; omega), if_pos (nI_le (by omega) (by omega))]
theorem r_place (R : RST N S sd th od areas keys there order msides mkey misThere morder) {b i : Nat} (hi : i < S) (h1 : od i = b) (h2 : ∀ k, k < i → od k ≠ b) : ∀ d fu j, i = j + d → d < fu → f_X2_placeOf_2 n order (nI S) fu (nI b) (nI j) = some (nI i) ∧ f_X5_placeOf_2 n morder fu (nI b) (nI j) = some (nI i) := by
  have hN := R.hN
  have hS := R.hS
  intro d
  induction d with
  | zero =>
    intro fu j hj hf
    obtain ⟨fu, rfl⟩ : ∃ q, fu = q + 1 := ⟨fu - 1, by omega⟩
    have e : j = i := by omega
    subst e
    constructor
    · rw [f_X2_placeOf_2, if_neg (nI_ge (by omega) (by omega)), r_numberAt R hi, jbd_some, h1, if_pos rfl]
    · rw [f_X5_placeOf_2, jrd_n (by omega) (by omega), (R.ord j hi).2, h1, if_pos rfl]
  | succ d ih =>
    intro fu j hj hf
    obtain ⟨fu, rfl⟩ : ∃ q, fu = q + 1 := ⟨fu - 1, by omega⟩
    have ne := h2 j (by omega)
    have bN := (R.odN i hi).1
    have bj := (R.odN j (by omega)).1
    have c : ¬ nI (od j) = nI b := by rw [nI_eq (by omega) (by omega)]; exact ne
    obtain ⟨i1, i2⟩ := ih fu (j + 1) (by omega) (by omega)
    constructor
    · rw [f_X2_placeOf_2, if_neg (nI_ge (by omega) (by omega)), r_numberAt R (by omega), jbd_some, if_neg c, n1, nI_add, i1]
    · rw [f_X5_placeOf_2, jrd_n (by omega) (by omega), (R.ord j (by omega)).2, if_neg c, n1, nI_add, i2]
theorem r_placeOf (R : RST N S sd th od areas keys there order msides mkey misThere morder) (hn : 100 ≤ n) {b i : Nat} (hi : i < S) (h1 : od i = b) (h2 : ∀ k, k < i → od k ≠ b) : f_X2_placeOf n order (nI S) (nI b) = some (nI i) ∧ f_X5_placeOf n morder (nI b) = some (nI i) := by
  have hS := R.hS
  exact r_place R hi h1 h2 i n 0 (by omega) (by omega)
end
