theorem m1_toInt {c : Nat} (h : c < 2 ^ 30) : (jm1 - nI c).toInt = -1 - (c : Int) := by
  rw [Int32.toInt_sub, jm1_int, nI_toInt (by omega)]
  exact Int.bmod_eq_of_le (by omega) (by omega)
theorem m1_back {c : Nat} (h : c < 2 ^ 30) : jm1 - (jm1 - nI c) = nI c := by
  apply Int32.toInt_inj.mp
  rw [Int32.toInt_sub, m1_toInt h, jm1_int, nI_toInt (by omega)]
  rw [show (-1 - (-1 - (c : Int))) = (c : Int) by omega]
  exact Int.bmod_eq_of_le (by omega) (by omega)
section
variable {n N S : Nat} {sd : Nat → Nat → Nat} {th : Nat → Bool} {od : Nat → Nat} {areas keys there order msides mkey misThere morder : Nat → Int32}
theorem ps_in (R : RST N S sd th od areas keys there order msides mkey misThere morder) {k4 : Int32 → Int32 → Option Int32} {k4' : Int32 → Int32 → Int32 → Option Int32} {x : Nat} (hx : x < N) : ∀ d fu fu' y c, N = y + d → d < fu → d < fu' → c + d < 2 ^ 20 → ∃ c', c ≤ c' ∧ c' ≤ c + d ∧ f_X4_pairs_19 n areas there (nI N) k4 fu (nI c) (nI x) (nI y) = k4 (nI c') (nI (x + 1)) ∧ f_X5_goesThrough_17 n (nI N) msides misThere k4' fu' jm1 (nI c) (nI x) (nI y) = k4' jm1 (nI c') (nI (x + 1)) := by
  have hN := R.hN
  intro d
  induction d with
  | zero =>
    intro fu fu' y c hy hf hf' hc
    obtain ⟨fu, rfl⟩ : ∃ q, fu = q + 1 := ⟨fu - 1, by omega⟩
    obtain ⟨fu', rfl⟩ : ∃ q, fu' = q + 1 := ⟨fu' - 1, by omega⟩
    refine ⟨c, by omega, by omega, ?_, ?_⟩
    · rw [f_X4_pairs_19]
      unfold f_X2_added
      rw [jbd_some, if_pos (nI_le (by omega) (by omega)), x_1]
    · rw [f_X5_goesThrough_17, if_pos (nI_le (by omega) (by omega)), x_1]
  | succ d ih =>
    intro fu fu' y c hy hf hf' hc
    obtain ⟨fu, rfl⟩ : ∃ q, fu = q + 1 := ⟨fu - 1, by omega⟩
    obtain ⟨fu', rfl⟩ : ∃ q, fu' = q + 1 := ⟨fu' - 1, by omega⟩
    cases q : mp sd th x y with
    | true =>
      obtain ⟨c', a1, a2, a3, a4⟩ := ih fu fu' (y + 1) (c + 1) (by omega) (by omega) (by omega) (by omega)
      refine ⟨c', by omega, by omega, ?_, ?_⟩
      · rw [f_X4_pairs_19]
        unfold f_X2_added f_X4_pairs_45
        rw [jbd_some, if_neg (nI_ge (by omega) (by omega)), c_pair R hx (by omega), jbd_some, q, bI_t, if_neg z10, x_1, x_1, a3]
      · rw [f_X5_goesThrough_17]
        unfold f_X5_goesThrough_52
        rw [if_neg (nI_ge (by omega) (by omega)), m_pair R hx (by omega), jbd_some, q, bI_t, if_neg z10, if_neg (jm1_ne (by omega)), x_1, x_1, a4]
    | false =>
      obtain ⟨c', a1, a2, a3, a4⟩ := ih fu fu' (y + 1) c (by omega) (by omega) (by omega) (by omega)
      refine ⟨c', by omega, by omega, ?_, ?_⟩
      · rw [f_X4_pairs_19]
        unfold f_X2_added f_X4_pairs_45
        rw [jbd_some, if_neg (nI_ge (by omega) (by omega)), c_pair R hx (by omega), jbd_some, q, bI_f, if_pos rfl, x_1, a3]
      · rw [f_X5_goesThrough_17]
        unfold f_X5_goesThrough_52
        rw [if_neg (nI_ge (by omega) (by omega)), m_pair R hx (by omega), jbd_some, q, bI_f, if_pos rfl, x_1, a4]
theorem ps_out (R : RST N S sd th od areas keys there order msides mkey misThere morder) (hn : 1000 ≤ n) : ∀ d fu fu' x c, N = x + d → d < fu → d < fu' → c ≤ 100 * x → ∃ v, v < 2 ^ 20 ∧ f_X4_pairs_4 n areas there (nI N) fu (nI c) (nI x) = some (nI v) ∧ f_X5_goesThrough_4 n (nI N) msides misThere fu' jm1 (nI c) (nI x) = some (jm1 - nI v) := by
  have hN := R.hN
  intro d
  induction d with
  | zero =>
    intro fu fu' x c hy hf hf' hc
    obtain ⟨fu, rfl⟩ : ∃ q, fu = q + 1 := ⟨fu - 1, by omega⟩
    obtain ⟨fu', rfl⟩ : ∃ q, fu' = q + 1 := ⟨fu' - 1, by omega⟩
    refine ⟨c, by omega, ?_, ?_⟩
    · rw [f_X4_pairs_4]
      unfold f_X2_added
      rw [jbd_some, if_pos (nI_le (by omega) (by omega))]
    · rw [f_X5_goesThrough_4, if_pos (nI_le (by omega) (by omega))]
  | succ d ih =>
    intro fu fu' x c hy hf hf' hc
    obtain ⟨fu, rfl⟩ : ∃ q, fu = q + 1 := ⟨fu - 1, by omega⟩
    obtain ⟨fu', rfl⟩ : ∃ q, fu' = q + 1 := ⟨fu' - 1, by omega⟩
    obtain ⟨c', a1, a2, a3, a4⟩ := ps_in (n := n) R (k4 := f_X4_pairs_4 n areas there (nI N) fu) (k4' := f_X5_goesThrough_4 n (nI N) msides misThere fu') (show x < N by omega) d n n (x + 1) c (by omega) (by omega) (by omega) (by omega)
    obtain ⟨v, v1, v2, v3⟩ := ih fu fu' (x + 1) c' (by omega) (by omega) (by omega) (by omega)
    refine ⟨v, v1, ?_, ?_⟩
    · rw [f_X4_pairs_4]
      unfold f_X2_added
      rw [jbd_some, if_neg (nI_ge (by omega) (by omega)), x_1, a3, v2]
    · rw [f_X5_goesThrough_4, if_neg (nI_ge (by omega) (by omega)), x_1, a4, v3]
theorem pr_in (R : RST N S sd th od areas keys there order msides mkey misThere morder) {k4 : Int32 → Int32 → Int32 → Option (Nat × Int32)} {k4' : Int32 → Int32 → Int32 → Option Int32} {a : Int32} {x : Nat} (hx : x < N) : ∀ d fu fu' y c, N = y + d → d < fu → d < fu' → c + d < 2 ^ 20 → (∃ v, v < 2 ^ 20 ∧ f_X4_pair_20 n areas there (nI N) k4 fu a (nI c) (nI x) (nI y) = some (0, nI v) ∧ f_X5_goesThrough_17 n (nI N) msides misThere k4' fu' a (nI c) (nI x) (nI y) = some (nI v)) ∨ ∃ c', c ≤ c' ∧ c' ≤ c + d ∧ f_X4_pair_20 n areas there (nI N) k4 fu a (nI c) (nI x) (nI y) = k4 a (nI c') (nI (x + 1)) ∧ f_X5_goesThrough_17 n (nI N) msides misThere k4' fu' a (nI c) (nI x) (nI y) = k4' a (nI c') (nI (x + 1)) := by
  have hN := R.hN
  intro d
  induction d with
  | zero =>
    intro fu fu' y c hy hf hf' hc
    obtain ⟨fu, rfl⟩ : ∃ q, fu = q + 1 := ⟨fu - 1, by omega⟩
    obtain ⟨fu', rfl⟩ : ∃ q, fu' = q + 1 := ⟨fu' - 1, by omega⟩
    refine Or.inr ⟨c, by omega, by omega, ?_, ?_⟩
    · rw [f_X4_pair_20]
      unfold f_X2_added
      rw [jbd_some, if_pos (nI_le (by omega) (by omega)), x_1]
    · rw [f_X5_goesThrough_17, if_pos (nI_le (by omega) (by omega)), x_1]
  | succ d ih =>
    intro fu fu' y c hy hf hf' hc
    obtain ⟨fu, rfl⟩ : ∃ q, fu = q + 1 := ⟨fu - 1, by omega⟩
    obtain ⟨fu', rfl⟩ : ∃ q, fu' = q + 1 := ⟨fu' - 1, by omega⟩
    have A (c2 : Nat) (z : Bool) (q : mp sd th x y = z) (hz : z = true → ¬ nI c = a) (h2 : c2 = if z = true then c + 1 else c) : f_X4_pair_20 n areas there (nI N) k4 (fu + 1) a (nI c) (nI x) (nI y) = f_X4_pair_20 n areas there (nI N) k4 fu a (nI c2) (nI x) (nI (y + 1)) ∧ f_X5_goesThrough_17 n (nI N) msides misThere k4' (fu' + 1) a (nI c) (nI x) (nI y) = f_X5_goesThrough_17 n (nI N) msides misThere k4' fu' a (nI c2) (nI x) (nI (y + 1)) := by
      rw [f_X4_pair_20, f_X5_goesThrough_17]
      unfold f_X2_added f_X4_pair_61 f_X5_goesThrough_52
      rw [jbd_some, if_neg (nI_ge (by omega) (by omega)), if_neg (nI_ge (by omega) (by omega)), c_pair R hx (by omega), m_pair R hx (by omega), jbd_some, jbd_some, q]
      cases z with
      | true =>
        rw [if_pos rfl] at h2
        rw [bI_t, if_neg z10, if_neg z10, if_neg (hz rfl), if_neg (hz rfl), x_1, x_1, h2]
        exact ⟨rfl, rfl⟩
      | false =>
        rw [if_neg (by decide)] at h2
        rw [bI_f, if_pos rfl, if_pos rfl, x_1, h2]
        exact ⟨rfl, rfl⟩
    cases q : mp sd th x y with
    | true =>
      by_cases z : nI c = a
      · refine Or.inl ⟨100 * x + y, by omega, ?_, ?_⟩
        · rw [f_X4_pair_20]
          unfold f_X2_added
          rw [jbd_some, if_neg (nI_ge (by omega) (by omega)), c_pair R hx (by omega), jbd_some, q, bI_t, if_neg z10, if_pos z, n100, pk_mul, nI_add]
        · rw [f_X5_goesThrough_17, if_neg (nI_ge (by omega) (by omega)), m_pair R hx (by omega), jbd_some, q, bI_t, if_neg z10, if_pos z, n100, pk_mul, nI_add]
      · obtain ⟨b1, b2⟩ := A (c + 1) true q (fun _ => z) rfl
        rw [b1, b2]
        rcases ih fu fu' (y + 1) (c + 1) (by omega) (by omega) (by omega) (by omega) with g | ⟨c', a1, a2, a3, a4⟩
        · exact Or.inl g
        · exact Or.inr ⟨c', by omega, by omega, a3, a4⟩
    | false =>
      obtain ⟨b1, b2⟩ := A c false q (fun z => by cases z) rfl
      rw [b1, b2]
      rcases ih fu fu' (y + 1) c (by omega) (by omega) (by omega) (by omega) with g | ⟨c', a1, a2, a3, a4⟩
      · exact Or.inl g
      · exact Or.inr ⟨c', by omega, by omega, a3, a4⟩
theorem pr_out (R : RST N S sd th od areas keys there order msides mkey misThere morder) (hn : 1000 ≤ n) {a : Int32} : ∀ d fu fu' x c, N = x + d → d < fu → d < fu' → c ≤ 100 * x → (∃ v, v < 2 ^ 20 ∧ f_X4_pair_4 n areas there (nI N) fu a (nI c) (nI x) = some (0, nI v) ∧ f_X5_goesThrough_4 n (nI N) msides misThere fu' a (nI c) (nI x) = some (nI v)) ∨ ∃ v, v < 2 ^ 20 ∧ f_X4_pair_4 n areas there (nI N) fu a (nI c) (nI x) = some (3, 0) ∧ f_X5_goesThrough_4 n (nI N) msides misThere fu' a (nI c) (nI x) = some (jm1 - nI v) := by
  have hN := R.hN
  intro d
  induction d with
  | zero =>
    intro fu fu' x c hy hf hf' hc
    obtain ⟨fu, rfl⟩ : ∃ q, fu = q + 1 := ⟨fu - 1, by omega⟩
    obtain ⟨fu', rfl⟩ : ∃ q, fu' = q + 1 := ⟨fu' - 1, by omega⟩
    refine Or.inr ⟨c, by omega, ?_, ?_⟩
    · rw [f_X4_pair_4]
      unfold f_X2_added
      rw [jbd_some, if_pos (nI_le (by omega) (by omega))]
    · rw [f_X5_goesThrough_4, if_pos (nI_le (by omega) (by omega))]
  | succ d ih =>
    intro fu fu' x c hy hf hf' hc
    obtain ⟨fu, rfl⟩ : ∃ q, fu = q + 1 := ⟨fu - 1, by omega⟩
    obtain ⟨fu', rfl⟩ : ∃ q, fu' = q + 1 := ⟨fu' - 1, by omega⟩
    have A : f_X4_pair_4 n areas there (nI N) (fu + 1) a (nI c) (nI x) = f_X4_pair_20 n areas there (nI N) (f_X4_pair_4 n areas there (nI N) fu) n a (nI c) (nI x) (nI (x + 1)) := by
      rw [f_X4_pair_4]
      unfold f_X2_added
      rw [jbd_some, if_neg (nI_ge (by omega) (by omega)), x_1]
    have B : f_X5_goesThrough_4 n (nI N) msides misThere (fu' + 1) a (nI c) (nI x) = f_X5_goesThrough_17 n (nI N) msides misThere (f_X5_goesThrough_4 n (nI N) msides misThere fu') n a (nI c) (nI x) (nI (x + 1)) := by
      rw [f_X5_goesThrough_4, if_neg (nI_ge (by omega) (by omega)), x_1]
    rw [A, B]
    rcases pr_in (n := n) R (a := a) (k4 := f_X4_pair_4 n areas there (nI N) fu) (k4' := f_X5_goesThrough_4 n (nI N) msides misThere fu') (show x < N by omega) d n n (x + 1) c (by omega) (by omega) (by omega) (by omega) with g | ⟨c', a1, a2, a3, a4⟩
    · exact Or.inl g
    · rw [a3, a4]
      exact ih fu fu' (x + 1) c' (by omega) (by omega) (by omega) (by omega)
end
