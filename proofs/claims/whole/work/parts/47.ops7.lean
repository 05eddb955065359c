section
variable {n N S x y : Nat} {sd : Nat → Nat → Nat} {th : Nat → Bool} {od : Nat → Nat} {areas keys there order msides mkey misThere morder : Nat → Int32}
theorem c_rb (R : RST N S sd th od areas keys there order msides mkey misThere morder) (hn : 1000 ≤ n) (hx : x < 256) (hy : y < 256) {r : Nat → Int32} (hr : ∀ i, i < S → r i = nI (rkk sd x y (od i))) {j : Nat} (hj : j < S) : f_X4_ranksBefore n (nI S) r (nI j) = some (nI (GG sd th N x y (rkk sd x y (od j)))) := by
  have hS := R.hS
  have rl := rk_le R hx hy (R.odN j hj).1
  have g := c_before (n := n) R hx hy hr rl S n 0 (by omega) (by omega)
  rw [c_before_G R, show sm (fun i => if rkk sd x y (od i) < rkk sd x y (od j) then 1 else 0) 0 = 0 from rfl, ← n0] at g
  unfold f_X4_ranksBefore
  rw [if_neg (jn_not_neg (by omega)), n60, if_pos (show nI j < nI 60 by rw [nI_ltI (by omega) (by omega)]; omega), jrd_n (by omega) (by omega), hr j hj, g]
theorem c_ne_hit (R : RST N S sd th od areas keys there order msides mkey misThere morder) (hn : 1000 ≤ n) (hx : x < 256) (hy : y < 256) {r : Nat → Int32} (hr : ∀ i, i < S → r i = nI (rkk sd x y (od i))) {a : Int32} {i : Nat} (hi : i < S) (h1 : nI (GG sd th N x y (rkk sd x y (od i))) = a) (h2 : ∀ j, j < i → nI (GG sd th N x y (rkk sd x y (od j))) ≠ a) : ∀ d fu j, i = j + d → d < fu → f_X4_nearest_14 n areas order (nI S) fu r a (nI j) = some (0, nI (od i), r) := by
  have hS := R.hS
  intro d
  induction d with
  | zero =>
    intro fu j hj hf
    obtain ⟨fu, rfl⟩ : ∃ q, fu = q + 1 := ⟨fu - 1, by omega⟩
    have e : i = j := by omega
    subst e
    rw [f_X4_nearest_14]
    unfold f_X2_size
    rw [jbd_some, if_neg (nI_ge (by omega) (by omega)), c_rb R hn hx hy hr hi, jbd_some, if_pos h1, r_numberAt R hi, jbd_some]
  | succ d ih =>
    intro fu j hj hf
    obtain ⟨fu, rfl⟩ : ∃ q, fu = q + 1 := ⟨fu - 1, by omega⟩
    rw [f_X4_nearest_14]
    unfold f_X2_size
    rw [jbd_some, if_neg (nI_ge (by omega) (by omega)), c_rb R hn hx hy hr (by omega), jbd_some, if_neg (h2 j (by omega)), x_1]
    exact ih fu (j + 1) (by omega) (by omega)
theorem c_ne_end (R : RST N S sd th od areas keys there order msides mkey misThere morder) (hn : 1000 ≤ n) (hx : x < 256) (hy : y < 256) {r : Nat → Int32} (hr : ∀ i, i < S → r i = nI (rkk sd x y (od i))) {a : Int32} (h2 : ∀ j, j < S → nI (GG sd th N x y (rkk sd x y (od j))) ≠ a) : ∀ d fu j, S = j + d → d < fu → f_X4_nearest_14 n areas order (nI S) fu r a (nI j) = some (3, 0, r) := by
  have hS := R.hS
  intro d
  induction d with
  | zero =>
    intro fu j hj hf
    obtain ⟨fu, rfl⟩ : ∃ q, fu = q + 1 := ⟨fu - 1, by omega⟩
    rw [f_X4_nearest_14]
    unfold f_X2_size
    rw [jbd_some, if_pos (nI_le (by omega) (by omega))]
  | succ d ih =>
    intro fu j hj hf
    obtain ⟨fu, rfl⟩ : ∃ q, fu = q + 1 := ⟨fu - 1, by omega⟩
    rw [f_X4_nearest_14]
    unfold f_X2_size
    rw [jbd_some, if_neg (nI_ge (by omega) (by omega)), c_rb R hn hx hy hr (by omega), jbd_some, if_neg (h2 j (by omega)), x_1]
    exact ih fu (j + 1) (by omega) (by omega)
theorem m_ne_hit (R : RST N S sd th od areas keys there order msides mkey misThere morder) (hn : 1000 ≤ n) (hx : x < 256) (hy : y < 256) {mb tt : Int32} {k b : Nat} (hk : k < 2 ^ 20) (hb : b < N) (ht : th b = true) (h1 : GG sd th N x y (rkk sd x y b) = k) (h2 : ∀ c, c < b → th c = true → GG sd th N x y (rkk sd x y c) ≠ k) (hG : ∀ c, c < N → th c = true → GG sd th N x y (rkk sd x y c) < 100) : ∀ d fu j, b = j + d → d < fu → f_X5_nearest_41 n (nI N) msides misThere mb fu tt (nI x) (nI y) (nI k) (nI j) = some (nI b, tt) := by
  have hN := R.hN
  have nn (c : Nat) (hc : c < N) : f_X5_nearer n (nI N) msides misThere (nI x) (nI y) (nI c) = some (nI (GG sd th N x y (rkk sd x y c))) := by
    have g := m_nearer (n := n) R hx hy hc N n 0 (by omega) (by omega)
    rw [show sm (fun c_1 => if th c_1 = true then (if rkk sd x y c_1 < rkk sd x y c then 1 else 0) else 0) 0 = 0 from rfl, ← n0] at g
    unfold f_X5_nearer
    exact g
  intro d
  induction d with
  | zero =>
    intro fu j hj hf
    obtain ⟨fu, rfl⟩ : ∃ q, fu = q + 1 := ⟨fu - 1, by omega⟩
    have e : b = j := by omega
    subst e
    rw [f_X5_nearest_41, jrd_n (by omega) (by omega), R.mthr b (by omega), ht, bI_t, if_neg z10, nn b hb, jbd_some, h1, if_pos rfl]
  | succ d ih =>
    intro fu j hj hf
    obtain ⟨fu, rfl⟩ : ∃ q, fu = q + 1 := ⟨fu - 1, by omega⟩
    have st := ih fu (j + 1) (by omega) (by omega)
    rw [f_X5_nearest_41]
    unfold f_X5_nearest_63
    rw [jrd_n (by omega) (by omega), R.mthr j (by omega), x_1]
    cases q : th j with
    | false => rw [bI_f, if_pos rfl]; exact st
    | true =>
      have l := hG j (by omega) q
      rw [bI_t, if_neg z10, nn j (by omega), jbd_some, if_neg (by rw [nI_eq (by omega) (by omega)]; exact h2 j (by omega) q)]
      exact st
end
section
variable {n : Nat} {areas keys there order : Nat → Int32} {added size : Int32} {loads widths : Nat → Int32} {height madded : Int32} {msides mkey misThere : Nat → Int32} {mboxes : Int32} {morder : Nat → Int32} {mlevels : Int32} {mnodes mentries : Nat → Int32} {mthrown : Int32} {ranks : Nat → Int32}
theorem op_nearest (hn : 1000 ≤ n) (I : INV areas keys there order added size loads widths height madded msides mkey misThere mboxes morder mlevels mnodes mentries) (a b c : Int32) : ∃ k v r v' t, f_X4_nearest n areas order size ranks a b c = some (k, v, r) ∧ f_X5_nearest n madded msides misThere mboxes mthrown a b c = some (v', t) ∧ ((k = 0 ∧ t = 0 ∧ v = v') ∨ (k = 1 ∧ t = 1) ∨ (k = 3 ∧ t = 2)) := by
  obtain ⟨N, S, sd, th, od, h, w, e, ⟨rfl, rfl, rfl, rfl, rfl, rfl⟩, R, RTt, RMm, IT'⟩ := I
  have hN := R.hN
  have hS := R.hS
  unfold f_X4_nearest f_X5_nearest f_X5_nearest_29 f_X5_nearest_30
  by_cases q : inC a ∧ inC b
  · rw [(c_point (n := n)).1 q, (m_point (n := n)).1 q, jbd_some, jbd_some, if_pos rfl, if_neg z10]
    obtain ⟨x, x1, rfl⟩ := c_nat q.1
    obtain ⟨y, y1, rfl⟩ := c_nat q.2
    obtain ⟨r, r1, r2⟩ := c_ranks (n := n) R x1 y1 S n 0 ranks (by omega) (by omega)
    have hr : ∀ i, i < S → r i = nI (rkk sd x y (od i)) := fun i hi => by rw [r2 i hi, if_neg (by omega)]
    have gl : ∀ d, d < N → th d = true → GG sd th N x y (rkk sd x y d) < S := fun d hd ht => G_lt R hd ht
    unfold f_X4_rankByDistance
    rw [n0, r1, jbd_some]
    rcases i_cases c with q2 | ⟨k, k1, rfl⟩
    · have z := c_ne_end (n := n) R hn x1 y1 hr (a := c) (fun j hj z => by
        have l := gl (od j) (R.odN j hj).1 (R.odN j hj).2
        rw [← z] at q2
        exact jn_not_neg (by omega) q2) S n 0 (by omega) (by omega)
      rw [z, ← n0, if_pos q2, m_fails2, jbd_some, if_neg z10]
      exact ⟨_, _, _, _, _, rfl, rfl, Or.inr (Or.inr ⟨rfl, rfl⟩)⟩
    · rw [← n0, if_neg (jn_not_neg k1)]
      by_cases q3 : k < S
      · obtain ⟨d, d1, d2, d3⟩ := G_ex R x1 y1 q3
        obtain ⟨i, i1, i2, i3⟩ := R.place d1 d2
        have z1 := c_ne_hit (n := n) R hn x1 y1 hr (a := nI k) i1 (by rw [i2, d3]) (fun j hj z => by
          have l := gl (od j) (R.odN j (by omega)).1 (R.odN j (by omega)).2
          rw [nI_eq (by omega) (by omega)] at z
          exact i3 j hj (G_uni (sd := sd) (x := x) (y := y) hN (R.odN j (by omega)).1 (R.odN j (by omega)).2 d1 d2 (by omega))) i n 0 (by omega) (by omega)
        have z2 := m_ne_hit (n := n) R hn x1 y1 (mb := nI S) (tt := 0) (k := k) (by omega) d1 d2 d3 (fun c hc ht z => by
          have := G_uni (sd := sd) (x := x) (y := y) hN (show c < N by omega) ht d1 d2 (by omega)
          omega) (fun c hc ht => by have := gl c hc ht; omega) d n 0 (by omega) (by omega)
        rw [← n0] at z1 z2
        rw [z1, if_neg (nI_ge q3 (by omega)), m_fails0, jbd_some, if_pos rfl, i2]
        dsimp only
        rw [z2]
        exact ⟨_, _, _, _, _, rfl, rfl, Or.inl ⟨rfl, rfl, rfl⟩⟩
      · have z := c_ne_end (n := n) R hn x1 y1 hr (a := nI k) (fun j hj z => by
          have l := gl (od j) (R.odN j hj).1 (R.odN j hj).2
          rw [nI_eq (by omega) (by omega)] at z
          omega) S n 0 (by omega) (by omega)
        rw [← n0] at z
        rw [z, if_pos (nI_le (by omega) (by omega)), m_fails2, jbd_some, if_neg z10]
        exact ⟨_, _, _, _, _, rfl, rfl, Or.inr (Or.inr ⟨rfl, rfl⟩)⟩
  · rw [(c_point (n := n)).2 q, (m_point (n := n)).2 q, jbd_some, jbd_some, if_neg (by decide), if_pos rfl, m_fails1, jbd_some, if_neg z10]
    exact ⟨_, _, _, _, _, rfl, rfl, Or.inr (Or.inl ⟨rfl, rfl⟩)⟩
end
