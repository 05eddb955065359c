section
variable {n N S : Nat} {sd : Nat → Nat → Nat} {th : Nat → Bool} {od : Nat → Nat} {areas keys there order msides mkey misThere morder : Nat → Int32}
theorem upd_at {f : Nat → Int32} {i : Nat} {v : Int32} : upd f i v i = v := pk_us
theorem c_ins {i x : Nat} {v : Int32} (hx : x < 60) : ∀ d fu j (O : Nat → Int32), j = i + d → d < fu → j ≤ x → f_X2_putInOrder_50 n keys fu O (nI (x + 1)) v (nI i) (nI j) = some (insA O 0 i v j, nI (x + 1)) := by
  intro d
  induction d with
  | zero =>
    intro fu j O hj hf hx2
    obtain ⟨fu, rfl⟩ : ∃ q, fu = q + 1 := ⟨fu - 1, by omega⟩
    have e : j = i := by omega
    subst e
    rw [f_X2_putInOrder_50, if_pos (nI_le (by omega) (by omega))]
    unfold f_X2_setOrder
    rw [n0, if_neg (show ¬ nI j < nI 0 by rw [nI_ltI (by omega) (by omega)]; omega), n60, if_neg (nI_ge (by omega) (by omega)), jwr_n (by omega) (by omega), jbd_some, ← insA_0, Nat.zero_add]
  | succ d ih =>
    intro fu j O hj hf hx2
    obtain ⟨fu, rfl⟩ : ∃ q, fu = q + 1 := ⟨fu - 1, by omega⟩
    have s := insA_s O (b := 0) (at_ := i) (j := j) v (by omega)
    rw [Nat.zero_add, Nat.zero_add] at s
    rw [f_X2_putInOrder_50, if_neg (nI_ge (by omega) (by omega)), n1, pk_sub (by omega)]
    unfold f_X2_numberAt f_X2_setOrder
    rw [n0, if_neg (show ¬ nI (j - 1) < nI 0 by rw [nI_ltI (by omega) (by omega)]; omega), n60, if_neg (nI_ge (by omega) (by omega)), if_neg (nI_ge (by omega) (by omega)), jrd_n (by omega) (by omega), jbd_some, if_neg (show ¬ nI j < nI 0 by rw [nI_ltI (by omega) (by omega)]; omega), if_neg (nI_ge (by omega) (by omega)), jwr_n (by omega) (by omega), jbd_some, n_m1 (by omega), ih fu (j - 1) _ (by omega) (by omega) (by omega), s]
theorem m_ins {i x : Nat} {madded mboxes mlevels mthrown x6 : Int32} {ms mk mt mn me : Nat → Int32} (hx : x < 60) : ∀ d fu j (O : Nat → Int32), j = i + d → d < fu → j ≤ x → f_X5_add_191 n fu madded ms mk mt mboxes O mlevels mn me mthrown (nI i) x6 (nI j) = (if mlevels = 0 then (jwr mn 16 0 1 (fun w16 => jwr me 1024 0 1 (fun w17 => f_X5_add_287 n (madded + 1) ms mk mt (mboxes + 1) (insA O 0 i madded j) 1 w16 w17 mthrown))) else (jbd (f_X5_grows n mlevels mn me 0 x6) (fun v15 => f_X5_add_287 n (madded + 1) ms mk mt (mboxes + 1) (insA O 0 i madded j) v15.1 v15.2.1 v15.2.2 mthrown))) := by
  intro d
  induction d with
  | zero =>
    intro fu j O hj hf hx2
    obtain ⟨fu, rfl⟩ : ∃ q, fu = q + 1 := ⟨fu - 1, by omega⟩
    have e : j = i := by omega
    subst e
    rw [f_X5_add_191, if_pos (nI_le (by omega) (by omega)), jwr_n (by omega) (by omega), ← insA_0, Nat.zero_add]
  | succ d ih =>
    intro fu j O hj hf hx2
    obtain ⟨fu, rfl⟩ : ∃ q, fu = q + 1 := ⟨fu - 1, by omega⟩
    have s := insA_s O (b := 0) (at_ := i) (j := j) madded (by omega)
    rw [Nat.zero_add, Nat.zero_add] at s
    rw [f_X5_add_191, if_neg (nI_ge (by omega) (by omega)), j_pred (by omega), jrd_n (by omega) (by omega), jwr_n (by omega) (by omega), n_m1 (by omega), ih fu (j - 1) _ (by omega) (by omega) (by omega), s]
theorem cm_pos (R : RST N S sd th od areas keys there order msides mkey misThere morder) (hN : N < 100) (hS : S < 60) {v mlevels mthrown : Int32} {ms mt mn me : Nat → Int32} : ∀ d fu fu' j, S = j + d → d < fu → d < fu' → ∃ i, j ≤ i ∧ i ≤ S ∧ f_X2_putInOrder_2 n (upd keys N v) fu order (nI S) (nI N) (nI j) = f_X2_putInOrder_33 n (upd keys N v) order (nI S) (nI N) (nI i) ∧ f_X5_add_138 n fu' (nI N) ms (upd mkey N v) mt (nI S) morder mlevels mn me mthrown (nI j) = f_X5_add_177 n (nI N) ms (upd mkey N v) mt (nI S) morder mlevels mn me mthrown (nI i) := by
  intro d
  induction d with
  | zero =>
    intro fu fu' j hj hf hf'
    obtain ⟨fu, rfl⟩ : ∃ q, fu = q + 1 := ⟨fu - 1, by omega⟩
    obtain ⟨fu', rfl⟩ : ∃ q, fu' = q + 1 := ⟨fu' - 1, by omega⟩
    refine ⟨j, Nat.le_refl _, by omega, ?_, ?_⟩
    · rw [f_X2_putInOrder_2, if_pos (nI_le (by omega) (by omega))]
    · rw [f_X5_add_138, if_pos (nI_le (by omega) (by omega))]
  | succ d ih =>
    intro fu fu' j hj hf hf'
    obtain ⟨fu, rfl⟩ : ∃ q, fu = q + 1 := ⟨fu - 1, by omega⟩
    obtain ⟨fu', rfl⟩ : ∃ q, fu' = q + 1 := ⟨fu' - 1, by omega⟩
    have jN := (R.odN j (by omega)).1
    have k1 : f_X2_keyFor n (upd keys N v) (nI (od j)) = some (keys (od j)) := by
      unfold f_X2_keyFor
      rw [n0, if_neg (show ¬ nI (od j) < nI 0 by rw [nI_ltI (by omega) (by omega)]; omega), n100, if_neg (nI_ge (by omega) (by omega)), jrd_n (by omega) (by omega), pk_un (by omega)]
    have k2 : f_X2_keyFor n (upd keys N v) (nI N) = some v := by
      unfold f_X2_keyFor
      rw [n0, if_neg (show ¬ nI N < nI 0 by rw [nI_ltI (by omega) (by omega)]; omega), n100, if_neg (nI_ge (by omega) (by omega)), jrd_n (by omega) (by omega), pk_us]
    have A : f_X2_putInOrder_2 n (upd keys N v) (fu + 1) order (nI S) (nI N) (nI j) = if v < keys (od j) then f_X2_putInOrder_33 n (upd keys N v) order (nI S) (nI N) (nI j) else f_X2_putInOrder_2 n (upd keys N v) fu order (nI S) (nI N) (nI (j + 1)) := by
      rw [f_X2_putInOrder_2, if_neg (nI_ge (by omega) (by omega)), r_numberAt R (by omega), jbd_some, k1, jbd_some, k2, jbd_some, n1, nI_add]
    have B : f_X5_add_138 n (fu' + 1) (nI N) ms (upd mkey N v) mt (nI S) morder mlevels mn me mthrown (nI j) = if v < keys (od j) then f_X5_add_177 n (nI N) ms (upd mkey N v) mt (nI S) morder mlevels mn me mthrown (nI j) else f_X5_add_138 n fu' (nI N) ms (upd mkey N v) mt (nI S) morder mlevels mn me mthrown (nI (j + 1)) := by
      rw [f_X5_add_138, if_neg (nI_ge (by omega) (by omega)), jrd_n (by omega) (by omega), (R.ord j (by omega)).2, jrd_n (by omega) (by omega), pk_un (by omega), R.key _ jN, jrd_n (by omega) (by omega), pk_us, n1, nI_add]
    by_cases q : v < keys (od j)
    · refine ⟨j, Nat.le_refl _, by omega, ?_, ?_⟩
      · rw [A, if_pos q]
      · rw [B, if_pos q]
    · obtain ⟨i, a, b, c, e⟩ := ih fu fu' (j + 1) (by omega) (by omega) (by omega)
      refine ⟨i, by omega, b, ?_, ?_⟩
      · rw [A, if_neg q, c]
      · rw [B, if_neg q, e]
def od1 (od : Nat → Nat) (i v : Nat) : Nat → Nat := insR od i v
theorem rst_add (R : RST N S sd th od areas keys there order msides mkey misThere morder) (hN : N < 100) (hS : S < 60) {s : Nat → Nat} (ok : okA s) {v : Int32} {i : Nat} (hi : i ≤ S) : RST (N + 1) (S + 1) (fun b => if b = N then s else sd b) (fun b => if b = N then true else th b) (insR od i N) (upd areas N (ar s)) (upd keys N v) (upd there N 1) (insA order 0 i (nI N) S) (upd (upd (upd (upd msides (4 * N) (nI (s 0))) (4 * N + 1) (nI (s 1))) (4 * N + 2) (nI (s 2))) (4 * N + 3) (nI (s 3))) (upd mkey N v) (upd misThere N 1) (insA morder 0 i (nI N) S) := by
  refine ⟨by omega, by omega, fun b hb => ?_, fun b hb => ?_, fun b j hb hj => ?_, fun b hb => ?_, fun b hb => ?_, fun b hb => ?_, fun b hb => ?_, fun k hk => ?_, fun k hk => ?_, fun f => ?_⟩
  all_goals try dsimp only
  · by_cases q : b = N
    · rw [if_pos q]; exact ok
    · rw [if_neg q]; exact R.ok b (by omega)
  · by_cases q : b = N
    · rw [if_pos q, q, pk_us]
    · rw [if_neg q, pk_un q]; exact R.area b (by omega)
  · by_cases q : b = N
    · rw [if_pos q, q]
      have c : j = 0 ∨ j = 1 ∨ j = 2 ∨ j = 3 := by omega
      rcases c with rfl | rfl | rfl | rfl
      · rw [pk_un (by omega), pk_un (by omega), pk_un (by omega), Nat.add_zero, pk_us]
      · rw [pk_un (by omega), pk_un (by omega), pk_us]
      · rw [pk_un (by omega), pk_us]
      · rw [pk_us]
    · rw [if_neg q, pk_un (by omega), pk_un (by omega), pk_un (by omega), pk_un (by omega)]
      exact R.side b j (by omega) hj
  · by_cases q : b = N
    · rw [q, pk_us, pk_us]
    · rw [pk_un q, pk_un q]; exact R.key b (by omega)
  · by_cases q : b = N
    · rw [if_pos q, q, pk_us]; rfl
    · rw [if_neg q, pk_un q]; exact R.thr b hb
  · by_cases q : b = N
    · rw [if_pos q, q, pk_us]; rfl
    · rw [if_neg q, pk_un q]; exact R.mthr b hb
  · rw [if_neg (by omega)]
    exact R.new b (by omega)
  · unfold insA insR
    rw [Nat.zero_add, Nat.zero_add]
    by_cases q1 : k = i
    · rw [if_pos q1, if_pos q1, if_neg (by omega), if_pos q1]
      exact ⟨rfl, rfl⟩
    · rw [if_neg q1, if_neg q1]
      by_cases q2 : i < k ∧ k ≤ S
      · rw [if_pos q2, if_pos q2, if_neg (by omega), if_neg q1]
        exact R.ord (k - 1) (by omega)
      · simp only [if_neg q1, if_neg q2, if_pos (show k < i by omega)]
        exact R.ord k (by omega)
  · unfold insR
    by_cases q1 : k < i
    · have := R.odN k (by omega)
      rw [if_pos q1, if_neg (by omega)]
      exact ⟨by omega, this.2⟩
    · rw [if_neg q1]
      by_cases q2 : k = i
      · rw [if_pos q2, if_pos rfl]
        exact ⟨by omega, rfl⟩
      · have := R.odN (k - 1) (by omega)
        rw [if_neg q2, if_neg (by omega)]
        exact ⟨by omega, this.2⟩
  · have c := R.cnt f
    have e1 : sm (fun k => f (insR od i N k)) (S + 1) = sm (insR (fun k => f (od k)) i (f N)) (S + 1) := by
      refine sm_cong (fun k hk => ?_)
      unfold insR
      by_cases q1 : k < i
      · rw [if_pos q1, if_pos q1]
      · rw [if_neg q1, if_neg q1]
        by_cases q2 : k = i
        · rw [if_pos q2, if_pos q2]
        · rw [if_neg q2, if_neg q2]
    have e2 : sm (fun b => if (if b = N then true else th b) = true then f b else 0) N = sm (fun b => if th b = true then f b else 0) N := by
      refine sm_cong (fun k hk => ?_)
      show (if (if k = N then true else th k) = true then f k else 0) = (if th k = true then f k else 0)
      rw [if_neg (show ¬ k = N by omega)]
    have e3 : (if (if N = N then true else th N) = true then f N else 0) = f N := by simp
    rw [e1, sm_ins _ _ hi, c, sm_s, e2, e3]
end
