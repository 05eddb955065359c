section
variable {n : Nat} {areas keys there order : Nat → Int32} {added size : Int32} {loads widths : Nat → Int32} {height madded : Int32} {msides mkey misThere : Nat → Int32} {mboxes : Int32} {morder : Nat → Int32} {mlevels : Int32} {mnodes mentries : Nat → Int32} {mthrown : Int32}
theorem op_remove (hn : 100 ≤ n) (I : INV areas keys there order added size loads widths height madded msides mkey misThere mboxes morder mlevels mnodes mentries) (a1 : Int32) : ∃ code v T O si L W H v' mt mb mo ml mn me t, f_X4_remove n there order size loads widths height a1 = some (code, v, T, O, si, L, W, H) ∧ f_X5_remove n madded misThere mboxes morder mlevels mnodes mentries mthrown a1 = some (v', mt, mb, mo, ml, mn, me, t) ∧ INV areas keys T O added si L W H madded msides mkey mt mb mo ml mn me ∧ ((code = 0 ∧ t = 0 ∧ v = v') ∨ (code = 3 ∧ t = 1)) := by
  have I0 := I
  obtain ⟨N, S, sd, th, od, h, w, e, ⟨rfl, rfl, rfl, rfl, rfl, rfl⟩, R, RTt, RMm, IT'⟩ := I
  have hN := R.hN
  have hS := R.hS
  rcases r_box (n := n) R a1 with ⟨b, b1, b2, rfl, c1, m1⟩ | ⟨c1, m1⟩
  · obtain ⟨i, i1, i2, i3⟩ := R.place b1 b2
    obtain ⟨p1, p2⟩ := r_placeOf (n := n) R hn i1 i2 i3
    obtain ⟨h', w', e', L, W, N', E, g1, ⟨p, g2, g3⟩, T', M', I'⟩ := shrink_all hn RTt RMm IT' i1
    have R' := rst_del R b1 b2 i1 i2
    have hs := r_has (n := n) R (show b < 100 by omega)
    rw [b2] at hs
    refine ⟨0, nI (S - 1), _, _, nI (S - 1), L, W, nI h', nI (S - 1), _, nI (S - 1), _, nI h', N', E, 0, ?_, ?_, ⟨N, S - 1, _, _, _, h', w', e', ⟨rfl, rfl, rfl, rfl, rfl, rfl⟩, R', T', M', I'⟩, Or.inl ⟨rfl, rfl, rfl⟩⟩
    · unfold f_X4_remove f_X2_takeOut f_X2_size
      rw [c1, jbd_some, if_pos rfl, p1, jbd_some, g1, jbd_some, jbd_some, if_neg (show ¬ nI i < 0 by rw [n0, nI_ltI (by omega) (by omega)]; omega), hs, jbd_some, if_neg (show ¬ bI true = 0 by decide), jwr_n (by omega) (by omega), c_del hS (by omega) (S - i - 1) n i _ (by omega) (by omega), jbd_some]
      rfl
    · unfold f_X5_remove f_X5_remove_14
      rw [m1, jbd_some, if_neg z10, m_fails0, jbd_some, if_pos rfl, p2, jbd_some, g2, jbd_some, jwr_n (by omega) (by omega), j_pred (by omega), m_del hS (by omega) (S - i - 1) n i _ (by omega) (by omega), g3, jbd_some]
  · refine ⟨3, 0, _, _, _, _, _, _, 0, _, _, _, _, _, _, 1, ?_, ?_, I0, Or.inr ⟨rfl, rfl⟩⟩
    · unfold f_X4_remove
      rw [c1, jbd_some, if_neg (by decide)]
    · unfold f_X5_remove f_X5_remove_14
      rw [m1, jbd_some, if_pos rfl, m_fails1, jbd_some, if_neg z10]
theorem op_pack (hn : 100 ≤ n) (I : INV areas keys there order added size loads widths height madded msides mkey misThere mboxes morder mlevels mnodes mentries) : ∃ v L W H ml mn me t, f_X4_pack n size loads widths height = some (v, L, W, H) ∧ f_X5_pack n mboxes mlevels mnodes mentries mthrown = some (v, ml, mn, me, t) ∧ INV areas keys there order added size L W H madded msides mkey misThere mboxes morder ml mn me := by
  obtain ⟨N, S, sd, th, od, h, w, e, ⟨rfl, rfl, rfl, rfl, rfl, rfl⟩, R, RTt, RMm, IT'⟩ := I
  have hS := R.hS
  obtain ⟨m, rfl⟩ : ∃ m, n = m + 1 := ⟨n - 1, by omega⟩
  by_cases s0 : S = 0
  · subst s0
    refine ⟨0, loads, widths, 0, 0, mnodes, mentries, 0, ?_, ?_, ⟨N, 0, sd, th, od, 0, w, e, ⟨rfl, rfl, rfl, rfl, rfl, rfl⟩, R, RTt.mono (by omega), RMm.mono (by omega), ⟨by omega, by omega, ⟨fun z => by omega, fun l z => by omega, fun z => by omega⟩, fun l z => by omega, fun z => by omega⟩⟩⟩
    · unfold f_X4_pack f_X2_size f_X3_planAnew
      have w0 := t_width0 (n := m + 1) (widths := widths) (h := 0) (x := 0) (Or.inr (by decide)) (by omega)
      rw [jbd_some, f_X3_planAnew_9, n8, if_neg (by decide), if_pos (by decide), jbd_some]
      dsimp only
      rw [show (0 : Int32) = nI 0 from rfl] at w0 ⊢
      rw [w0, jbd_some]
    · unfold f_X5_pack
      rw [f_X5_pack_15, if_neg (by decide), if_pos (by decide)]
      unfold f_X5_pack_121
      rw [if_pos (show nI 0 = 0 from rfl)]
  · have PK : PKI S 0 w e S := ⟨hS, by omega, fun _ => rfl, fun z => by omega, fun l z => by omega, fun l z => by omega, fun z => by omega⟩
    obtain ⟨h', w', e', L, W, N', E, g1, g2, T', M', I', h0⟩ := pack_sim hn (t := 0) 4 (m + 1) (m + 1) (by omega) (by omega) (by omega) (Or.inl ⟨rfl, hS⟩) (RTt.mono (Nat.zero_le h)) (RMm.mono (Nat.zero_le h)) PK
    rw [if_neg (by omega)] at g1
    have tw := t_width (n := m + 1) T' h0
    refine ⟨nI (w' 0), L, W, nI h', nI h', N', E, 0, ?_, ?_, ⟨N, S, sd, th, od, h', w', e', ⟨rfl, rfl, rfl, rfl, rfl, rfl⟩, R, T', M', I'⟩⟩
    · unfold f_X4_pack f_X2_size f_X3_planAnew
      rw [← n0] at g1 tw
      rw [jbd_some, g1, jbd_some]
      dsimp only
      rw [tw, jbd_some]
    · unfold f_X5_pack
      rw [← n0] at g2
      exact g2
theorem op_boxes (I : INV areas keys there order added size loads widths height madded msides mkey misThere mboxes morder mlevels mnodes mentries) : ∃ v t, f_X4_boxes n size = some v ∧ f_X5_boxes n mboxes mthrown = some (v, t) := by
  obtain ⟨N, S, sd, th, od, h, w, e, ⟨rfl, rfl, rfl, rfl, rfl, rfl⟩, R, RTt, RMm, IT'⟩ := I
  exact ⟨_, _, rfl, rfl⟩
theorem op_levels (I : INV areas keys there order added size loads widths height madded msides mkey misThere mboxes morder mlevels mnodes mentries) : ∃ v t, f_X4_levels n height = some v ∧ f_X5_levels n mlevels mthrown = some (v, t) := by
  obtain ⟨N, S, sd, th, od, h, w, e, ⟨rfl, rfl, rfl, rfl, rfl, rfl⟩, R, RTt, RMm, IT'⟩ := I
  exact ⟨_, _, rfl, rfl⟩
theorem op_key (hn : 100 ≤ n) (a b : Int32) : ∃ c v v' t, f_X4_key n a b = some (c, v) ∧ f_X5_key n mthrown a b = some (v', t) ∧ ((c = 0 ∧ t = 0 ∧ v = v') ∨ (c = 1 ∧ t = 1)) := by
  by_cases q : inC a ∧ inC b
  · obtain ⟨v, v1, v2⟩ := key_all hn a b
    refine ⟨0, v, v, 0, ?_, ?_, Or.inl ⟨rfl, rfl, rfl⟩⟩
    · unfold f_X4_key
      rw [(c_point (n := n)).1 q, jbd_some, if_pos rfl, v1, jbd_some]
    · unfold f_X5_key f_X5_key_14
      rw [(m_point (n := n)).1 q, jbd_some, if_neg z10, m_fails0, jbd_some, if_pos rfl, v2, jbd_some]
  · refine ⟨1, 0, 0, 1, ?_, ?_, Or.inr ⟨rfl, rfl⟩⟩
    · unfold f_X4_key
      rw [(c_point (n := n)).2 q, jbd_some, if_neg (by decide)]
    · unfold f_X5_key f_X5_key_14
      rw [(m_point (n := n)).2 q, jbd_some, if_pos rfl, m_fails1, jbd_some, if_neg z10]
theorem op_keyOf (I : INV areas keys there order added size loads widths height madded msides mkey misThere mboxes morder mlevels mnodes mentries) (a : Int32) : ∃ c v v' t, f_X4_keyOf n keys there a = some (c, v) ∧ f_X5_keyOf n madded mkey misThere mthrown a = some (v', t) ∧ ((c = 0 ∧ t = 0 ∧ v = v') ∨ (c = 3 ∧ t = 1)) := by
  obtain ⟨N, S, sd, th, od, h, w, e, ⟨rfl, rfl, rfl, rfl, rfl, rfl⟩, R, RTt, RMm, IT'⟩ := I
  have hN := R.hN
  rcases r_box (n := n) R a with ⟨b, b1, b2, rfl, c1, m1⟩ | ⟨c1, m1⟩
  · refine ⟨0, keys b, keys b, 0, ?_, ?_, Or.inl ⟨rfl, rfl, rfl⟩⟩
    · unfold f_X4_keyOf
      rw [c1, jbd_some, if_pos rfl, r_keyFor R (by omega), jbd_some]
    · unfold f_X5_keyOf f_X5_keyOf_14
      rw [m1, jbd_some, if_neg z10, m_fails0, jbd_some, if_pos rfl, jrd_n (by omega) (by omega), R.key b b1]
  · refine ⟨3, 0, 0, 1, ?_, ?_, Or.inr ⟨rfl, rfl⟩⟩
    · unfold f_X4_keyOf
      rw [c1, jbd_some, if_neg (by decide)]
    · unfold f_X5_keyOf f_X5_keyOf_14
      rw [m1, jbd_some, if_pos rfl, m_fails1, jbd_some, if_neg z10]
theorem op_sideOf (I : INV areas keys there order added size loads widths height madded msides mkey misThere mboxes morder mlevels mnodes mentries) (a x : Int32) : ∃ c v v' t, f_X4_sideOf n areas there a x = some (c, v) ∧ f_X5_sideOf n madded msides misThere mthrown a x = some (v', t) ∧ ((c = 0 ∧ t = 0 ∧ v = v') ∨ (c = 1 ∧ t = 1) ∨ (c = 3 ∧ t = 2)) := by
  obtain ⟨N, S, sd, th, od, h, w, e, ⟨rfl, rfl, rfl, rfl, rfl, rfl⟩, R, RTt, RMm, IT'⟩ := I
  have hN := R.hN
  rcases side_cases (n := n) x with ⟨j, j4, rfl, s1, s2⟩ | ⟨s1, s2⟩
  · rcases r_box (n := n) R a with ⟨b, b1, b2, rfl, c1, m1⟩ | ⟨c1, m1⟩
    · refine ⟨0, nI (sd b j), nI (sd b j), 0, ?_, ?_, Or.inl ⟨rfl, rfl, rfl⟩⟩
      · unfold f_X4_sideOf
        rw [s1, jbd_some, if_pos rfl, c1, jbd_some, if_pos rfl, r_areaOf R b1, jbd_some, a_side (R.ok b b1) j4, jbd_some]
      · unfold f_X5_sideOf f_X5_sideOf_25
        rw [s2, jbd_some, if_neg z10, m1, jbd_some, if_neg z10, m_fails0, jbd_some, if_pos rfl, n4, pk_mul, nI_add, jrd_n (by omega) (by omega), R.side b j b1 j4]
    · refine ⟨3, 0, 0, 2, ?_, ?_, Or.inr (Or.inr ⟨rfl, rfl⟩)⟩
      · unfold f_X4_sideOf
        rw [s1, jbd_some, if_pos rfl, c1, jbd_some, if_neg (by decide)]
      · unfold f_X5_sideOf f_X5_sideOf_25
        rw [s2, jbd_some, if_neg z10, m1, jbd_some, if_pos rfl, m_fails2, jbd_some, if_neg z10]
  · refine ⟨1, 0, 0, 1, ?_, ?_, Or.inr (Or.inl ⟨rfl, rfl⟩)⟩
    · unfold f_X4_sideOf
      rw [s1, jbd_some, if_neg (by decide)]
    · unfold f_X5_sideOf f_X5_sideOf_25
      rw [s2, jbd_some, if_pos rfl, m_fails1, jbd_some, if_neg z10]
end
