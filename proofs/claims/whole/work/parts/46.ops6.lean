section
variable {n : Nat} {areas keys there order : Nat → Int32} {added size : Int32} {loads widths : Nat → Int32} {height madded : Int32} {msides mkey misThere : Nat → Int32} {mboxes : Int32} {morder : Nat → Int32} {mlevels : Int32} {mnodes mentries : Nat → Int32} {mthrown : Int32} {ranks : Nat → Int32}
theorem op_count (hn : 1000 ≤ n) (I : INV areas keys there order added size loads widths height madded msides mkey misThere mboxes morder mlevels mnodes mentries) (a b c d : Int32) : ∃ k v v' t, f_X4_count n areas order size a b c d = some (k, v) ∧ f_X5_count n msides mboxes morder mthrown a b c d = some (v', t) ∧ ((k = 0 ∧ t = 0 ∧ v = v') ∨ (k = 1 ∧ t = 1)) := by
  obtain ⟨N, S, sd, th, od, h, w, e, ⟨rfl, rfl, rfl, rfl, rfl, rfl⟩, R, RTt, RMm, IT'⟩ := I
  have hS := R.hS
  unfold f_X4_count f_X5_count f_X5_count_17
  by_cases q : inA a b c d
  · rw [(c_area (n := n)).1 q, (m_area (n := n)).1 q]
    obtain ⟨s, ok, rfl, rfl, rfl, rfl, _⟩ := sides q
    have c1 := c_count (n := n) R ok S n 0 (by omega) (by omega)
    have m1 := m_met (n := n) R ok S n 0 (by omega) (by omega)
    rw [show sm (cm sd od s) 0 = 0 from rfl, ← n0] at c1 m1
    rw [jbd_some, jbd_some, if_pos rfl, if_neg z10, a_of ok, jbd_some, c1, m_fails0, jbd_some, if_pos rfl]
    unfold f_X5_met
    rw [m1, jbd_some]
    exact ⟨_, _, _, _, rfl, rfl, Or.inl ⟨rfl, rfl, rfl⟩⟩
  · rw [(c_area (n := n)).2 q, (m_area (n := n)).2 q, jbd_some, jbd_some, if_neg (by decide), if_pos rfl, m_fails1, jbd_some, if_neg z10]
    exact ⟨_, _, _, _, rfl, rfl, Or.inr ⟨rfl, rfl⟩⟩
theorem op_found (hn : 1000 ≤ n) (I : INV areas keys there order added size loads widths height madded msides mkey misThere mboxes morder mlevels mnodes mentries) (a b c d x : Int32) : ∃ k v v' t, f_X4_found n areas order size a b c d x = some (k, v) ∧ f_X5_found n msides mboxes morder mthrown a b c d x = some (v', t) ∧ ((k = 0 ∧ t = 0 ∧ v = v') ∨ (k = 1 ∧ t = 1) ∨ (k = 3 ∧ t = 2)) := by
  obtain ⟨N, S, sd, th, od, h, w, e, ⟨rfl, rfl, rfl, rfl, rfl, rfl⟩, R, RTt, RMm, IT'⟩ := I
  have hS := R.hS
  unfold f_X4_found f_X5_found f_X5_found_43
  by_cases q : inA a b c d
  · rw [(c_area (n := n)).1 q, (m_area (n := n)).1 q]
    obtain ⟨s, ok, rfl, rfl, rfl, rfl, _⟩ := sides q
    have m1 := m_met (n := n) R ok S n 0 (by omega) (by omega)
    have le := cm_le (sd := sd) (od := od) (t := s) S
    rw [show sm (cm sd od s) 0 = 0 from rfl, ← n0] at m1
    rw [jbd_some, jbd_some, if_pos rfl, if_neg z10, a_of ok, jbd_some]
    have no (z : ∀ i, i < S → mt (sd (od i)) s = true → nI (sm (cm sd od s) i) ≠ x) : f_X4_found_24 n areas order (nI S) n x (ar s) 0 0 = some (3, 0) := by
      have g := c_fo_end (n := n) R ok z S n 0 (by omega) (by omega)
      rw [show sm (cm sd od s) 0 = 0 from rfl, ← n0] at g
      exact g
    have bad : f_X5_found_44 n msides (nI S) morder mthrown (nI (s 0)) (nI (s 1)) (nI (s 2)) (nI (s 3)) x 2 = some (0, 2) := by
      unfold f_X5_found_44
      rw [m_fails2, jbd_some, if_neg z10]
    rcases i_cases x with q2 | ⟨k, k1, rfl⟩
    · rw [if_pos q2, bad, no (fun i hi _ z => by
        have l := cm_le (sd := sd) (od := od) (t := s) i
        rw [← z] at q2
        exact jn_not_neg (by omega) q2)]
      exact ⟨_, _, _, _, rfl, rfl, Or.inr (Or.inr ⟨rfl, rfl⟩)⟩
    · rw [if_neg (jn_not_neg k1)]
      unfold f_X5_met
      rw [m1, jbd_some]
      by_cases q3 : k < sm (cm sd od s) S
      · rw [if_neg (nI_ge (by omega) (by omega))]
        obtain ⟨p, p1, p2, p3⟩ := ex_p (cm sd od s) q3
        have pm : mt (sd (od p)) s = true := by
          cases z : mt (sd (od p)) s with
          | true => rfl
          | false =>
            have := cm_f (sd := sd) (od := od) z
            omega
        have pk : sm (cm sd od s) p = k := by
          have := cm_t (sd := sd) (od := od) pm
          omega
        have g1 := c_fo_hit (n := n) R ok p1 pk pm p n 0 (by omega) (by omega)
        have g2 := m_fo_hit (n := n) (tt := 0) R ok p1 pk pm p n 0 (by omega) (by omega)
        rw [show sm (cm sd od s) 0 = 0 from rfl, ← n0] at g1
        rw [show sm (cm sd od s) 0 = 0 from rfl, Nat.sub_zero, ← n0] at g2
        unfold f_X5_found_44
        rw [g1, m_fails0, jbd_some, if_pos rfl]
        dsimp only
        rw [g2]
        exact ⟨_, _, _, _, rfl, rfl, Or.inl ⟨rfl, rfl, rfl⟩⟩
      · rw [if_pos (nI_le (by omega) (by omega)), bad, no (fun i hi z y => by
          have l := cm_t (sd := sd) (od := od) z
          have l2 := sm_le (cm sd od s) (show i + 1 ≤ S by omega)
          rw [nI_eq (by omega) (by omega)] at y
          omega)]
        exact ⟨_, _, _, _, rfl, rfl, Or.inr (Or.inr ⟨rfl, rfl⟩)⟩
  · unfold f_X5_found_44
    rw [(c_area (n := n)).2 q, (m_area (n := n)).2 q, jbd_some, jbd_some, if_neg (by decide), if_pos rfl, m_fails1, jbd_some, if_neg z10]
    exact ⟨_, _, _, _, rfl, rfl, Or.inr (Or.inl ⟨rfl, rfl⟩)⟩
theorem op_pairs (hn : 1000 ≤ n) (I : INV areas keys there order added size loads widths height madded msides mkey misThere mboxes morder mlevels mnodes mentries) : ∃ v t, f_X4_pairs n areas there added = some v ∧ f_X5_pairs n madded msides misThere mthrown = some (v, t) := by
  obtain ⟨N, S, sd, th, od, h, w, e, ⟨rfl, rfl, rfl, rfl, rfl, rfl⟩, R, RTt, RMm, IT'⟩ := I
  have hN := R.hN
  obtain ⟨v, v1, v2, v3⟩ := ps_out (n := n) R hn N n n 0 0 (by omega) (by omega) (by omega) (by omega)
  rw [← n0] at v2 v3
  refine ⟨nI v, 0, v2, ?_⟩
  unfold f_X5_pairs f_X5_goesThrough f_X5_tells
  rw [v3, jbd_some, m1_back (by omega), jbd_some]
theorem op_pair (hn : 1000 ≤ n) (I : INV areas keys there order added size loads widths height madded msides mkey misThere mboxes morder mlevels mnodes mentries) (a : Int32) : ∃ k v v' t, f_X4_pair n areas there added a = some (k, v) ∧ f_X5_pair n madded msides misThere mthrown a = some (v', t) ∧ ((k = 0 ∧ t = 0 ∧ v = v') ∨ (k = 3 ∧ t = 1)) := by
  obtain ⟨N, S, sd, th, od, h, w, e, ⟨rfl, rfl, rfl, rfl, rfl, rfl⟩, R, RTt, RMm, IT'⟩ := I
  have hN := R.hN
  have g := pr_out (n := n) R hn (a := a) N n n 0 0 (by omega) (by omega) (by omega) (by omega)
  rw [← n0] at g
  unfold f_X4_pair f_X5_pair f_X5_goesThrough
  have bad (t : Int32) (ht : t.toInt < 0) : f_X5_pair_13 n (nI N) msides misThere mthrown t = some (0, 1) := by
    unfold f_X5_pair_13 f_X5_pair_24
    rw [if_neg (by rw [Int32.le_iff_toInt_le, z_0]; omega), m_fails1, jbd_some, if_neg z10]
  have good (v : Nat) (hv : v < 2 ^ 31) : f_X5_pair_13 n (nI N) msides misThere mthrown (nI v) = some (nI v, 0) := by
    unfold f_X5_pair_13 f_X5_pair_24
    rw [if_pos (by rw [n0]; exact nI_le (by omega) (by omega)), m_fails0, jbd_some, if_pos rfl]
  rcases g with ⟨v, v1, v2, v3⟩ | ⟨v, v1, v2, v3⟩
  · rw [v2]
    by_cases q : (0 : Int32) ≤ a
    · rw [if_pos q, v3, jbd_some, good v (by omega)]
      exact ⟨_, _, _, _, rfl, rfl, Or.inl ⟨rfl, rfl, rfl⟩⟩
    · exfalso
      have neg : ∀ d fu x c, N = x + d → d < fu → c ≤ 100 * x → f_X4_pair_4 n areas there (nI N) fu a (nI c) (nI x) = some (3, 0) := by
        intro d
        induction d with
        | zero =>
          intro fu x c hd hf hc
          obtain ⟨fu, rfl⟩ : ∃ q, fu = q + 1 := ⟨fu - 1, by omega⟩
          rw [f_X4_pair_4]
          unfold f_X2_added
          rw [jbd_some, if_pos (nI_le (by omega) (by omega))]
        | succ d ih =>
          intro fu x c hd hf hc
          obtain ⟨fu, rfl⟩ : ∃ q, fu = q + 1 := ⟨fu - 1, by omega⟩
          have inn : ∀ d2 fu2 y c, N = y + d2 → d2 < fu2 → c + d2 ≤ 100 * (x + 1) → f_X4_pair_20 n areas there (nI N) (f_X4_pair_4 n areas there (nI N) fu) fu2 a (nI c) (nI x) (nI y) = some (3, 0) := by
            intro d2
            induction d2 with
            | zero =>
              intro fu2 y c hy hf2 hc2
              obtain ⟨fu2, rfl⟩ : ∃ q, fu2 = q + 1 := ⟨fu2 - 1, by omega⟩
              rw [f_X4_pair_20]
              unfold f_X2_added
              rw [jbd_some, if_pos (nI_le (by omega) (by omega)), x_1]
              exact ih fu (x + 1) c (by omega) (by omega) (by omega)
            | succ d2 ih2 =>
              intro fu2 y c hy hf2 hc2
              obtain ⟨fu2, rfl⟩ : ∃ q, fu2 = q + 1 := ⟨fu2 - 1, by omega⟩
              have ne : ¬ nI c = a := by
                intro z
                rw [← z, n0] at q
                exact q (nI_le (by omega) (by omega))
              rw [f_X4_pair_20]
              unfold f_X2_added f_X4_pair_61
              rw [jbd_some, if_neg (nI_ge (by omega) (by omega)), c_pair R (by omega) (by omega), jbd_some, x_1, x_1]
              by_cases z : bI (mp sd th x y) = 0
              · rw [if_pos z]
                exact ih2 fu2 (y + 1) c (by omega) (by omega) (by omega)
              · rw [if_neg z, if_neg ne]
                exact ih2 fu2 (y + 1) (c + 1) (by omega) (by omega) (by omega)
          rw [f_X4_pair_4]
          unfold f_X2_added
          rw [jbd_some, if_neg (nI_ge (by omega) (by omega)), x_1]
          exact inn d n (x + 1) c (by omega) (by omega) (by omega)
      have := neg N n 0 0 (by omega) (by omega) (by omega)
      rw [← n0] at this
      rw [v2] at this
      exact absurd this (by simp)
  · rw [v2]
    by_cases q : (0 : Int32) ≤ a
    · rw [if_pos q, v3, jbd_some, bad _ (by rw [m1_toInt (by omega)]; omega)]
      exact ⟨_, _, _, _, rfl, rfl, Or.inr ⟨rfl, rfl⟩⟩
    · rw [if_neg q, bad _ (by rw [jm1_int]; omega)]
      exact ⟨_, _, _, _, rfl, rfl, Or.inr ⟨rfl, rfl⟩⟩
end
