def INV (areas keys there order : Nat → Int32) (added size : Int32) (loads widths : Nat → Int32) (height madded : Int32) (msides mkey misThere : Nat → Int32) (mboxes : Int32) (morder : Nat → Int32) (mlevels : Int32) (mnodes mentries : Nat → Int32) : Prop := ∃ N S sd th od h w e, (added = nI N ∧ madded = nI N ∧ size = nI S ∧ mboxes = nI S ∧ height = nI h ∧ mlevels = nI h) ∧ RST N S sd th od areas keys there order msides mkey misThere morder ∧ RT h w e loads widths ∧ RM h w e mnodes mentries ∧ IT S h w e
section
variable {n : Nat} {areas keys there order : Nat → Int32} {added size : Int32} {loads widths : Nat → Int32} {height madded : Int32} {msides mkey misThere : Nat → Int32} {mboxes : Int32} {morder : Nat → Int32} {mlevels : Int32} {mnodes mentries : Nat → Int32} {mthrown : Int32}
theorem nI_back (N : Nat) : nI N + 1 - 1 = nI N := by
  rw [n1, nI_add, pk_sub (by omega), Nat.add_sub_cancel]
theorem z10 : ¬ (1 : Int32) = 0 := by decide
theorem key_mid (hn : 100 ≤ n) {s : Nat → Nat} (ok : okA s) : ∃ v, f_X0_middleKey n (ar s) = some v ∧ f_X5_keyAt n ((nI (s 0) + nI (s 2)) / 2) ((nI (s 1) + nI (s 3)) / 2) = some v := by
  obtain ⟨v, v1, v2⟩ := key_all hn ((nI (s 0) + nI (s 2)) / 2) ((nI (s 1) + nI (s 3)) / 2)
  refine ⟨v, ?_, v2⟩
  unfold f_X0_middleKey
  have a0 := a_side (n := n) ok (show 0 < 4 by omega)
  have a1 := a_side (n := n) ok (show 1 < 4 by omega)
  have a2 := a_side (n := n) ok (show 2 < 4 by omega)
  have a3 := a_side (n := n) ok (show 3 < 4 by omega)
  rw [← n0] at a0
  rw [← n1] at a1
  rw [← n2] at a2
  rw [← n3] at a3
  rw [a0, jbd_some, a2, jbd_some, a1, jbd_some, a3, jbd_some, v1, jbd_some]
theorem op_add (hn : 100 ≤ n) (I : INV areas keys there order added size loads widths height madded msides mkey misThere mboxes morder mlevels mnodes mentries) (a1 a2 a3 a4 : Int32) : ∃ code v A K T O ad si L W H v' mad ms mk mt mb mo ml mn me t, f_X4_add n areas keys there order added size loads widths height a1 a2 a3 a4 = some (code, v, A, K, T, O, ad, si, L, W, H) ∧ f_X5_add n madded msides mkey misThere mboxes morder mlevels mnodes mentries mthrown a1 a2 a3 a4 = some (v', mad, ms, mk, mt, mb, mo, ml, mn, me, t) ∧ INV A K T O ad si L W H mad ms mk mt mb mo ml mn me ∧ ((code = 0 ∧ t = 0 ∧ v = v') ∨ (code = 1 ∧ t = 1) ∨ (code = 2 ∧ t = 2)) := by
  have I0 := I
  obtain ⟨N, S, sd, th, od, h, w, e, ⟨rfl, rfl, rfl, rfl, rfl, rfl⟩, R, RTt, RMm, IT'⟩ := I
  have hN := R.hN
  have hS := R.hS
  by_cases q : inA a1 a2 a3 a4
  · have c1 := (c_area (n := n)).1 q
    have m1 := (m_area (n := n)).1 q
    by_cases q2 : N = 100 ∨ S = 60
    · refine ⟨2, 0, _, _, _, _, _, _, _, _, _, 0, _, _, _, _, _, _, _, _, _, 2, ?_, ?_, I0, Or.inr (Or.inr ⟨rfl, rfl⟩)⟩
      · unfold f_X4_add f_X2_hasRoom
        rw [c1, jbd_some, if_pos rfl]
        by_cases q3 : N = 100
        · rw [n100, if_pos (nI_le (by omega) (by omega)), jbd_some, if_pos rfl]
        · rw [n100, if_neg (nI_ge (by omega) (by omega)), n60, if_pos (nI_le (by omega) (by omega)), jbd_some, if_pos rfl]
      · have g : f_X5_add_34 n (nI N) msides mkey misThere (nI S) morder (nI h) mnodes mentries mthrown a1 a2 a3 a4 = some (0, nI N, msides, mkey, misThere, nI S, morder, nI h, mnodes, mentries, 2) := by
          unfold f_X5_add_34 f_X5_add_39
          rw [m_fails2, jbd_some, if_neg z10]
        unfold f_X5_add
        rw [m1, jbd_some, if_neg z10]
        by_cases q3 : S = 60
        · rw [if_pos (by rw [q3]; rfl), g]
        · rw [n60, if_neg (by rw [nI_eq (by omega) (by omega)]; exact q3), n100, if_pos (show nI N = nI 100 by rw [show N = 100 by omega]), g]
    · obtain ⟨s, ok, rfl, rfl, rfl, rfl, s1, s2⟩ := sides q
      obtain ⟨v, v1, v2⟩ := key_mid (n := n) hn ok
      obtain ⟨i, _, i1, i2, i3⟩ := cm_pos (n := n) R (by omega) (by omega) (v := v) (mlevels := nI h) (mthrown := 0) (ms := upd (upd (upd (upd msides (4 * N) (nI (s 0))) (4 * N + 1) (nI (s 1))) (4 * N + 2) (nI (s 2))) (4 * N + 3) (nI (s 3))) (mt := upd misThere N 1) (mn := mnodes) (me := mentries) S n n 0 (by omega) (by omega) (by omega)
      have R' := rst_add R (by omega) (by omega) ok (v := v) i1
      obtain ⟨h', w', e', L, W, N', E, g1, ⟨p, g2, g3, g4⟩, T', M', I'⟩ := grow_all hn RTt RMm IT' (by omega) i1
      have pl := (r_placeOf R' hn (b := N) (i := i) (by omega) (by unfold insR; rw [if_neg (by omega), if_pos rfl]) (fun k hk => by unfold insR; rw [if_pos hk]; have := (R.odN k (by omega)).1; omega)).1
      have h9 := RTt.1
      refine ⟨0, nI N, _, _, _, _, nI (N + 1), nI (S + 1), L, W, nI h', nI N, nI (N + 1), _, _, _, nI (S + 1), _, nI h', N', E, 0, ?_, ?_, ⟨N + 1, S + 1, _, _, _, h', w', e', ⟨rfl, rfl, rfl, rfl, rfl, rfl⟩, R', T', M', I'⟩, Or.inl ⟨rfl, rfl, rfl⟩⟩
      · have put : f_X2_putIn n areas keys there order (nI N) (nI S) (ar s) = some (nI N, upd areas N (ar s), upd keys N v, upd there N 1, insA order 0 i (nI N) S, nI (N + 1), nI (S + 1)) := by
          unfold f_X2_putIn
          rw [if_neg (show ¬ nI N < 0 by rw [n0, nI_ltI (by omega) (by omega)]; omega), n100, if_neg (nI_ge (by omega) (by omega)), if_neg (nI_ge (by omega) (by omega)), if_pos (show nI N < nI 100 by rw [nI_ltI (by omega) (by omega)]; omega), jwr_n (by omega) (by omega), v1, jbd_some, jwr_n (by omega) (by omega), jwr_n (by omega) (by omega)]
          unfold f_X2_putInOrder
          rw [n0, i2]
          unfold f_X2_putInOrder_33
          rw [n1, nI_add, pk_sub (by omega), Nat.add_sub_cancel, c_ins (by omega) (S - i) n S _ (by omega) (by omega) (by omega), jbd_some, nI_add]
        unfold f_X4_add f_X2_hasRoom
        rw [c1, jbd_some, if_pos rfl, n100, if_neg (nI_ge (by omega) (by omega)), n60, if_neg (nI_ge (by omega) (by omega)), jbd_some, if_neg z10, a_of ok, jbd_some, put, jbd_some]
        dsimp only
        rw [pl, jbd_some, g1, jbd_some]
      · unfold f_X5_add f_X5_add_39
        rw [m1, jbd_some, if_neg z10, n60, if_neg (by rw [nI_eq (by omega) (by omega)]; omega), n100, if_neg (by rw [nI_eq (by omega) (by omega)]; omega), m_fails0, jbd_some, if_pos rfl]
        have x0 : (4 : Int32) * nI N = nI (4 * N) := by rw [n4, pk_mul]
        have x1 : nI (4 * N) + 1 = nI (4 * N + 1) := by rw [n1, nI_add]
        have x2 : nI (4 * N) + 2 = nI (4 * N + 2) := by rw [n2, nI_add]
        have x3 : nI (4 * N) + 3 = nI (4 * N + 3) := by rw [n3, nI_add]
        rw [x0, x1, x2, x3, jwr_n (by omega) (by omega), jwr_n (by omega) (by omega), jwr_n (by omega) (by omega), jwr_n (by omega) (by omega), v2, jbd_some, jwr_n (by omega) (by omega), jwr_n (by omega) (by omega)]
        dsimp only
        rw [← n0] at i3
        rw [i3]
        unfold f_X5_add_177
        rw [g2, jbd_some, m_ins (x := S) (by omega) (S - i) n S _ (by omega) (by omega) (by omega)]
        by_cases h0 : h = 0
        · obtain ⟨y1, y2, y3⟩ := g4 h0
          rw [if_pos (by rw [h0]; rfl), n0, jwr_n (by omega) (by omega), jwr_n (by omega) (by omega), y1, y2, y3]
          unfold f_X5_add_287
          rw [nI_back, n1, nI_add, nI_add]
        · rw [if_neg (by rw [n0, nI_eq (by omega) (by omega)]; exact h0), g3 (by omega), jbd_some]
          unfold f_X5_add_287
          rw [nI_back, n1, nI_add, nI_add]
  · refine ⟨1, 0, _, _, _, _, _, _, _, _, _, 0, _, _, _, _, _, _, _, _, _, 1, ?_, ?_, I0, Or.inr (Or.inl ⟨rfl, rfl⟩)⟩
    · unfold f_X4_add
      rw [(c_area (n := n)).2 q, jbd_some, if_neg (by decide)]
    · unfold f_X5_add f_X5_add_39
      rw [(m_area (n := n)).2 q, jbd_some, if_pos rfl, m_fails1, jbd_some, if_neg z10]
end
