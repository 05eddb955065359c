section
variable {n h : Nat} {w : Nat → Nat} {e : Nat → Nat → Nat} {loads widths nodes entries : Nat → Int32}
theorem lev_cases (h8 : h ≤ 9) (x : Int32) : (∃ l, l < h ∧ x = nI l ∧ f_X3_hasLevel n (nI h) x = some 1 ∧ f_X5_isLevel n (nI h) x = some 1) ∨ (f_X3_hasLevel n (nI h) x = some 0 ∧ f_X5_isLevel n (nI h) x = some 0 ∧ (x < 0 ∨ nI h ≤ x)) := by
  unfold f_X3_hasLevel f_X5_isLevel
  rcases i_cases x with q | ⟨b, b1, rfl⟩
  · rw [if_pos q]
    exact Or.inr ⟨rfl, rfl, Or.inl q⟩
  · rw [if_neg (jn_not_neg b1)]
    by_cases c : b < h
    · rw [if_neg (nI_ge (by omega) (by omega))]
      exact Or.inl ⟨b, c, rfl, rfl, rfl⟩
    · have q : nI h ≤ nI b := nI_le (by omega) (by omega)
      rw [if_pos q]
      exact Or.inr ⟨rfl, rfl, Or.inr q⟩
theorem node_cases (R : RT h w e loads widths) (M : RM h w e nodes entries) (x y : Int32) : (∃ l k, l < h ∧ k < w l ∧ x = nI l ∧ y = nI k ∧ f_X4_checkNode n widths (nI h) x y = some 0 ∧ f_X5_isNode n (nI h) nodes x y = some 1) ∨ (f_X4_checkNode n widths (nI h) x y = some 3 ∧ f_X5_isNode n (nI h) nodes x y = some 0) := by
  have h8 := R.1
  unfold f_X4_checkNode f_X5_isNode f_X3_hasNode
  rcases lev_cases (n := n) (show h ≤ 9 by omega) x with ⟨l, l1, rfl, c1, c2⟩ | ⟨c1, c2, c3⟩
  · have tw := (R.2.1 l l1)
    have mw := (M.2.1 l l1)
    rw [c2, jbd_some, if_neg z10, if_neg (jn_not_neg (by omega)), if_neg (nI_ge (by omega) (by omega)), n8, if_neg (nI_ge (by omega) (by omega))]
    rcases i_cases y with q | ⟨k, k1, rfl⟩
    · rw [if_pos q, if_pos q]
      exact Or.inr ⟨rfl, rfl⟩
    · rw [if_neg (jn_not_neg k1), if_neg (jn_not_neg k1), jrd_n (by omega) (by omega), jrd_n (by omega) (by omega), tw.1, mw.1]
      by_cases c : k < w l
      · rw [if_neg (nI_ge (by omega) (by omega))]
        exact Or.inl ⟨l, k, l1, c, rfl, rfl, rfl, rfl⟩
      · rw [if_pos (nI_le (by omega) (by omega))]
        exact Or.inr ⟨rfl, rfl⟩
  · rw [c2, jbd_some, if_pos rfl]
    rcases c3 with q | q
    · rw [if_pos q]
      exact Or.inr ⟨rfl, rfl⟩
    · by_cases z : x < 0
      · rw [if_pos z]
        exact Or.inr ⟨rfl, rfl⟩
      · rw [if_neg z, if_pos q]
        exact Or.inr ⟨rfl, rfl⟩
end
section
variable {n : Nat} {areas keys there order : Nat → Int32} {added size : Int32} {loads widths : Nat → Int32} {height madded : Int32} {msides mkey misThere : Nat → Int32} {mboxes : Int32} {morder : Nat → Int32} {mlevels : Int32} {mnodes mentries : Nat → Int32} {mthrown : Int32}
theorem op_nodes (I : INV areas keys there order added size loads widths height madded msides mkey misThere mboxes morder mlevels mnodes mentries) (a : Int32) : ∃ c v v' t, f_X4_nodes n widths height a = some (c, v) ∧ f_X5_nodes n mlevels mnodes mthrown a = some (v', t) ∧ ((c = 0 ∧ t = 0 ∧ v = v') ∨ (c = 3 ∧ t = 1)) := by
  obtain ⟨N, S, sd, th, od, h, w, e, ⟨rfl, rfl, rfl, rfl, rfl, rfl⟩, R, RTt, RMm, IT'⟩ := I
  have h8 := RTt.1
  unfold f_X4_nodes f_X5_nodes f_X5_nodes_14
  rcases lev_cases (n := n) (show h ≤ 9 by omega) a with ⟨l, l1, rfl, c1, c2⟩ | ⟨c1, c2, c3⟩
  · rw [c1, c2, jbd_some, jbd_some, if_neg z10, if_neg z10, t_width RTt l1, jbd_some, m_fails0, jbd_some, if_pos rfl, jrd_n (by omega) (by omega), (RMm.2.1 l l1).1]
    exact ⟨_, _, _, _, rfl, rfl, Or.inl ⟨rfl, rfl, rfl⟩⟩
  · rw [c1, c2, jbd_some, jbd_some, if_pos rfl, if_pos rfl, m_fails1, jbd_some, if_neg z10]
    exact ⟨_, _, _, _, rfl, rfl, Or.inr ⟨rfl, rfl⟩⟩
theorem op_entries (I : INV areas keys there order added size loads widths height madded msides mkey misThere mboxes morder mlevels mnodes mentries) (a b : Int32) : ∃ c v v' t, f_X4_entries n loads widths height a b = some (c, v) ∧ f_X5_entries n mlevels mnodes mentries mthrown a b = some (v', t) ∧ ((c = 0 ∧ t = 0 ∧ v = v') ∨ (c = 3 ∧ t = 1)) := by
  obtain ⟨N, S, sd, th, od, h, w, e, ⟨rfl, rfl, rfl, rfl, rfl, rfl⟩, R, RTt, RMm, IT'⟩ := I
  unfold f_X4_entries f_X5_entries f_X5_entries_15
  rcases node_cases (n := n) RTt RMm a b with ⟨l, k, l1, k1, rfl, rfl, c1, c2⟩ | ⟨c1, c2⟩
  · rw [c1, c2, jbd_some, jbd_some, if_pos rfl, if_neg z10, t_load RTt l1 k1, jbd_some, m_fails0, jbd_some, if_pos rfl, m_many RMm l1 k1, jbd_some]
    exact ⟨_, _, _, _, rfl, rfl, Or.inl ⟨rfl, rfl, rfl⟩⟩
  · rw [c1, c2, jbd_some, jbd_some, if_neg (by decide), if_pos rfl, m_fails1, jbd_some, if_neg z10]
    exact ⟨_, _, _, _, rfl, rfl, Or.inr ⟨rfl, rfl⟩⟩
theorem op_leafOf (hn : 100 ≤ n) (I : INV areas keys there order added size loads widths height madded msides mkey misThere mboxes morder mlevels mnodes mentries) (a : Int32) : ∃ c v v' t, f_X4_leafOf n there order size loads widths height a = some (c, v) ∧ f_X5_leafOf n madded misThere morder mlevels mnodes mentries mthrown a = some (v', t) ∧ ((c = 0 ∧ t = 0 ∧ v = v') ∨ (c = 3 ∧ t = 1)) := by
  obtain ⟨N, S, sd, th, od, h, w, e, ⟨rfl, rfl, rfl, rfl, rfl, rfl⟩, R, RTt, RMm, IT'⟩ := I
  have hN := R.hN
  have hS := R.hS
  unfold f_X4_leafOf f_X5_leafOf f_X5_leafOf_14
  rcases r_box (n := n) R a with ⟨b, b1, b2, rfl, c1, m1⟩ | ⟨c1, m1⟩
  · obtain ⟨i, i1, i2, i3⟩ := R.place b1 b2
    obtain ⟨p1, p2⟩ := r_placeOf (n := n) R hn i1 i2 i3
    have h0 : 0 < h := by have := IT'.2.1; omega
    obtain ⟨p, q1, q2, q3, _⟩ := it_leaf IT' h0 (show i ≤ S by omega)
    have s60 := it_sum IT' h0
    rw [c1, m1, jbd_some, jbd_some, if_pos rfl, if_neg z10, p1, jbd_some, n0, t_holder RTt hn h0 q1 (by omega) q2 (by omega) q3, jbd_some, ← n0, m_fails0, jbd_some, if_pos rfl, p2, jbd_some, m_leafFor RMm hn h0 q1 (by omega) q2 (by omega) q3, jbd_some]
    exact ⟨_, _, _, _, rfl, rfl, Or.inl ⟨rfl, rfl, rfl⟩⟩
  · rw [c1, m1, jbd_some, jbd_some, if_neg (by decide), if_pos rfl, m_fails1, jbd_some, if_neg z10]
    exact ⟨_, _, _, _, rfl, rfl, Or.inr ⟨rfl, rfl⟩⟩
theorem op_boxAt (I : INV areas keys there order added size loads widths height madded msides mkey misThere mboxes morder mlevels mnodes mentries) (a : Int32) : ∃ c v v' t, f_X4_boxAt n order size a = some (c, v) ∧ f_X5_boxAt n mboxes morder mthrown a = some (v', t) ∧ ((c = 0 ∧ t = 0 ∧ v = v') ∨ (c = 3 ∧ t = 1)) := by
  obtain ⟨N, S, sd, th, od, h, w, e, ⟨rfl, rfl, rfl, rfl, rfl, rfl⟩, R, RTt, RMm, IT'⟩ := I
  have hN := R.hN
  have hS := R.hS
  unfold f_X4_boxAt f_X5_boxAt f_X4_boxAt_15 f_X5_boxAt_17 f_X5_boxAt_18 f_X2_size
  rcases i_cases a with q | ⟨i, i1, rfl⟩
  · rw [if_pos q, if_pos q, m_fails1, jbd_some, if_neg z10]
    exact ⟨_, _, _, _, rfl, rfl, Or.inr ⟨rfl, rfl⟩⟩
  · rw [if_neg (jn_not_neg i1), if_neg (jn_not_neg i1), jbd_some]
    by_cases c : i < S
    · rw [if_pos (by rw [nI_ltI (by omega) (by omega)]; exact c), if_neg (nI_ge (by omega) (by omega)), r_numberAt R c, jbd_some, m_fails0, jbd_some, if_pos rfl, jrd_n (by omega) (by omega), (R.ord i c).2]
      exact ⟨_, _, _, _, rfl, rfl, Or.inl ⟨rfl, rfl, rfl⟩⟩
    · rw [if_neg (by rw [nI_ltI (by omega) (by omega)]; exact c), if_pos (nI_le (by omega) (by omega)), m_fails1, jbd_some, if_neg z10]
      exact ⟨_, _, _, _, rfl, rfl, Or.inr ⟨rfl, rfl⟩⟩
theorem op_distance (I : INV areas keys there order added size loads widths height madded msides mkey misThere mboxes morder mlevels mnodes mentries) (x y a : Int32) : ∃ c v v' t, f_X4_distance n areas there x y a = some (c, v) ∧ f_X5_distance n madded msides misThere mthrown x y a = some (v', t) ∧ ((c = 0 ∧ t = 0 ∧ v = v') ∨ (c = 1 ∧ t = 1) ∨ (c = 3 ∧ t = 2)) := by
  obtain ⟨N, S, sd, th, od, h, w, e, ⟨rfl, rfl, rfl, rfl, rfl, rfl⟩, R, RTt, RMm, IT'⟩ := I
  have hN := R.hN
  unfold f_X4_distance f_X5_distance f_X5_distance_26
  by_cases q : inC x ∧ inC y
  · rw [(c_point (n := n)).1 q, (m_point (n := n)).1 q, jbd_some, jbd_some, if_pos rfl, if_neg z10]
    rcases r_box (n := n) R a with ⟨b, b1, b2, rfl, c1, m1⟩ | ⟨c1, m1⟩
    · obtain ⟨x, x1, rfl⟩ := c_nat q.1
      obtain ⟨y, y1, rfl⟩ := c_nat q.2
      rw [c1, m1, jbd_some, jbd_some, if_pos rfl, if_neg z10, r_areaOf R b1, jbd_some, c_dist (R.ok b b1) x1 y1, jbd_some, m_fails0, jbd_some, if_pos rfl, m_far R b1 x1 y1, jbd_some]
      exact ⟨_, _, _, _, rfl, rfl, Or.inl ⟨rfl, rfl, rfl⟩⟩
    · rw [c1, m1, jbd_some, jbd_some, if_neg (by decide), if_pos rfl, m_fails2, jbd_some, if_neg z10]
      exact ⟨_, _, _, _, rfl, rfl, Or.inr (Or.inr ⟨rfl, rfl⟩)⟩
  · rw [(c_point (n := n)).2 q, (m_point (n := n)).2 q, jbd_some, jbd_some, if_neg (by decide), if_pos rfl, m_fails1, jbd_some, if_neg z10]
    exact ⟨_, _, _, _, rfl, rfl, Or.inr (Or.inl ⟨rfl, rfl⟩)⟩
end
section
variable {n N S : Nat} {sd : Nat → Nat → Nat} {th : Nat → Bool} {od : Nat → Nat} {areas keys there order msides mkey misThere morder : Nat → Int32}
def cm (sd : Nat → Nat → Nat) (od : Nat → Nat) (t : Nat → Nat) : Nat → Nat := fun i => if mt (sd (od i)) t = true then 1 else 0
theorem cm_le {t : Nat → Nat} (j : Nat) : sm (cm sd od t) j ≤ j := by
  induction j with
  | zero => exact Nat.le_refl 0
  | succ j ih =>
    rw [sm_s]
    have : cm sd od t j ≤ 1 := by
      unfold cm
      split <;> omega
    omega
theorem bI_t : bI true = 1 := rfl
theorem bI_f : bI false = 0 := rfl
theorem cm_t {t : Nat → Nat} {j : Nat} (q : mt (sd (od j)) t = true) : sm (cm sd od t) (j + 1) = sm (cm sd od t) j + 1 := by
  rw [sm_s]
  exact congrArg (sm (cm sd od t) j + ·) (if_pos q)
theorem cm_f {t : Nat → Nat} {j : Nat} (q : mt (sd (od j)) t = false) : sm (cm sd od t) (j + 1) = sm (cm sd od t) j := by
  rw [sm_s]
  exact congrArg (sm (cm sd od t) j + ·) (if_neg (by rw [q]; decide))
theorem c_count (R : RST N S sd th od areas keys there order msides mkey misThere morder) {t : Nat → Nat} (ok : okA t) : ∀ d fu j, S = j + d → d < fu → f_X4_count_24 n areas order (nI S) fu (ar t) (nI (sm (cm sd od t) j)) (nI j) = some (0, nI (sm (cm sd od t) S)) := by
  have hS := R.hS
  intro d
  induction d with
  | zero =>
    intro fu j hj hf
    obtain ⟨fu, rfl⟩ : ∃ q, fu = q + 1 := ⟨fu - 1, by omega⟩
    have e : S = j := by omega
    rw [f_X4_count_24]
    unfold f_X2_size
    rw [jbd_some, if_pos (nI_le (by omega) (by omega)), e]
  | succ d ih =>
    intro fu j hj hf
    obtain ⟨fu, rfl⟩ : ∃ q, fu = q + 1 := ⟨fu - 1, by omega⟩
    have st := ih fu (j + 1) (by omega) (by omega)
    rw [f_X4_count_24]
    unfold f_X2_size f_X4_count_56
    rw [jbd_some, if_neg (nI_ge (by omega) (by omega)), r_areaAt R (by omega), jbd_some, c_meet (R.ok _ (R.odN j (by omega)).1) ok, jbd_some, x_1, x_1]
    cases q : mt (sd (od j)) t with
    | true => rw [bI_t, if_neg z10, ← cm_t q]; exact st
    | false => rw [bI_f, if_pos rfl, ← cm_f q]; exact st
theorem m_met (R : RST N S sd th od areas keys there order msides mkey misThere morder) {t : Nat → Nat} (ok : okA t) : ∀ d fu j, S = j + d → d < fu → f_X5_met_6 n msides (nI S) morder fu (nI (t 0)) (nI (t 1)) (nI (t 2)) (nI (t 3)) (nI (sm (cm sd od t) j)) (nI j) = some (nI (sm (cm sd od t) S)) := by
  have hS := R.hS
  intro d
  induction d with
  | zero =>
    intro fu j hj hf
    obtain ⟨fu, rfl⟩ : ∃ q, fu = q + 1 := ⟨fu - 1, by omega⟩
    have e : S = j := by omega
    rw [f_X5_met_6, if_pos (nI_le (by omega) (by omega)), e]
  | succ d ih =>
    intro fu j hj hf
    obtain ⟨fu, rfl⟩ : ∃ q, fu = q + 1 := ⟨fu - 1, by omega⟩
    have st := ih fu (j + 1) (by omega) (by omega)
    rw [f_X5_met_6]
    unfold f_X5_met_41
    rw [if_neg (nI_ge (by omega) (by omega)), jrd_n (by omega) (by omega), (R.ord j (by omega)).2, m_meet R (R.odN j (by omega)).1 ok, jbd_some, x_1, x_1]
    cases q : mt (sd (od j)) t with
    | true => rw [bI_t, if_neg z10, ← cm_t q]; exact st
    | false => rw [bI_f, if_pos rfl, n0, nI_add, Nat.add_zero, ← cm_f q]; exact st
end
