theorem sm_tw {f g : Nat → Nat} {n : Nat} (h : ∀ k, k < n → f k ≤ g k) : sm f n ≤ sm g n := by
  induction n with
  | zero => exact Nat.le_refl 0
  | succ n ih =>
    rw [sm_s, sm_s]
    have := ih (fun k hk => h k (by omega))
    have := h n (by omega)
    omega
theorem sm_tws {f g : Nat → Nat} {n k : Nat} (h : ∀ k, k < n → f k ≤ g k) (hk : k < n) (hs : f k < g k) : sm f n < sm g n := by
  have a := sm_un f (f k + 1) hk
  have b : sm (un f k (f k + 1)) n ≤ sm g n := by
    refine sm_tw (fun j hj => ?_)
    by_cases q : j = k
    · rw [q, un_s]; omega
    · rw [un_n _ _ q]; exact h j hj
  omega
theorem sm_ones : ∀ n, sm (fun _ => 1) n = n
  | 0 => rfl
  | n + 1 => by rw [sm_s, sm_ones n]
def rkk (sd : Nat → Nat → Nat) (x y b : Nat) : Nat := 100 * dst (sd b) x y + b
def GG (sd : Nat → Nat → Nat) (th : Nat → Bool) (N x y v : Nat) : Nat := sm (fun b => if th b = true then (if rkk sd x y b < v then 1 else 0) else 0) N
section
variable {n N S x y : Nat} {sd : Nat → Nat → Nat} {th : Nat → Bool} {od : Nat → Nat} {areas keys there order msides mkey misThere morder : Nat → Int32}
theorem G_mono {u v : Nat} (h : u ≤ v) : GG sd th N x y u ≤ GG sd th N x y v := by
  refine sm_tw (fun k hk => ?_)
  try dsimp only
  split
  · split
    · rw [if_pos (by omega)]; omega
    · omega
  · omega
theorem G_step {b : Nat} (hb : b < N) (ht : th b = true) : GG sd th N x y (rkk sd x y b) < GG sd th N x y (rkk sd x y b + 1) := by
  refine sm_tws (k := b) (fun k hk => ?_) hb ?_
  · try dsimp only
    split
    · split
      · rw [if_pos (by omega)]; omega
      · omega
    · omega
  · try dsimp only
    rw [if_pos ht, if_pos ht, if_neg (by omega), if_pos (by omega)]
    omega
theorem G_uni (hN : N ≤ 100) {b c : Nat} (hb : b < N) (ht : th b = true) (hc : c < N) (hu : th c = true) (h : GG sd th N x y (rkk sd x y b) = GG sd th N x y (rkk sd x y c)) : b = c := by
  have b1 := G_step (sd := sd) (x := x) (y := y) hb ht
  have c1 := G_step (sd := sd) (x := x) (y := y) hc hu
  have e : rkk sd x y b = rkk sd x y c := by
    by_cases q : rkk sd x y b < rkk sd x y c
    · have := G_mono (sd := sd) (th := th) (N := N) (x := x) (y := y) (show rkk sd x y b + 1 ≤ rkk sd x y c from q)
      omega
    · by_cases q2 : rkk sd x y c < rkk sd x y b
      · have := G_mono (sd := sd) (th := th) (N := N) (x := x) (y := y) (show rkk sd x y c + 1 ≤ rkk sd x y b from q2)
        omega
      · omega
  unfold rkk at e
  omega
theorem G_tot (R : RST N S sd th od areas keys there order msides mkey misThere morder) : sm (fun b => if th b = true then 1 else 0) N = S := by
  have := R.cnt (fun _ => 1)
  rw [sm_ones] at this
  exact this.symm
theorem G_lt (R : RST N S sd th od areas keys there order msides mkey misThere morder) {b : Nat} (hb : b < N) (ht : th b = true) : GG sd th N x y (rkk sd x y b) < S := by
  have a := G_step (sd := sd) (x := x) (y := y) hb ht
  have t := G_tot R
  have m : GG sd th N x y (rkk sd x y b + 1) ≤ sm (fun b => if th b = true then 1 else 0) N := by
    refine sm_tw (fun k hk => ?_)
    try dsimp only
    split
    · split <;> omega
    · omega
  omega
theorem rk_le (R : RST N S sd th od areas keys there order msides mkey misThere morder) (hx : x < 256) (hy : y < 256) {b : Nat} (hb : b < N) : rkk sd x y b < 2 ^ 24 := by
  have := dst_le (R.ok b hb) hx hy
  have := R.hN
  unfold rkk
  omega
theorem G_ex (R : RST N S sd th od areas keys there order msides mkey misThere morder) (hx : x < 256) (hy : y < 256) {k : Nat} (hk : k < S) : ∃ b, b < N ∧ th b = true ∧ GG sd th N x y (rkk sd x y b) = k := by
  have hN := R.hN
  have s0 : GG sd th N x y 0 = 0 := by
    refine sm_zero (fun b hb => ?_)
    try dsimp only
    split
    · rw [if_neg (by omega)]
    · rfl
  have e : ∀ v, sm (fun v => GG sd th N x y (v + 1) - GG sd th N x y v) v = GG sd th N x y v := by
    intro v
    induction v with
    | zero => rw [s0]; rfl
    | succ v ih =>
      rw [sm_s, ih]
      have := G_mono (sd := sd) (th := th) (N := N) (x := x) (y := y) (show v ≤ v + 1 by omega)
      omega
  have top : GG sd th N x y (2 ^ 24) = S := by
    rw [← G_tot R]
    refine sm_cong (fun b hb => ?_)
    try dsimp only
    rw [if_pos (rk_le R hx hy hb)]
  obtain ⟨p, p1, p2, p3⟩ := ex_p (fun v => GG sd th N x y (v + 1) - GG sd th N x y v) (x := k) (w := 2 ^ 24) (by rw [e, top]; exact hk)
  rw [e] at p2 p3
  have hex : ∃ b, b < N ∧ th b = true ∧ rkk sd x y b = p := by
    refine Classical.byContradiction (fun no => ?_)
    have : GG sd th N x y (p + 1) = GG sd th N x y p := by
      refine sm_cong (fun b hb => ?_)
      try dsimp only
      by_cases t : th b = true
      · rw [if_pos t, if_pos t]
        by_cases q : rkk sd x y b < p
        · rw [if_pos q, if_pos (by omega)]
        · rw [if_neg q, if_neg (fun z => no ⟨b, hb, t, by omega⟩)]
      · rw [if_neg t, if_neg t]
    omega
  obtain ⟨b, b1, b2, b3⟩ := hex
  have up : GG sd th N x y (p + 1) ≤ GG sd th N x y p + 1 := by
    have a := sm_un (fun b => if th b = true then (if rkk sd x y b < p then 1 else 0) else 0) (0 + 1) b1
    try dsimp only at a
    rw [if_pos b2, if_neg (show ¬ rkk sd x y b < p by omega)] at a
    have c : GG sd th N x y (p + 1) ≤ sm (un (fun b => if th b = true then (if rkk sd x y b < p then 1 else 0) else 0) b (0 + 1)) N := by
      refine sm_tw (fun j hj => ?_)
      try dsimp only
      by_cases q : j = b
      · rw [q, un_s, if_pos b2, if_pos (by omega)]
        omega
      · rw [un_n _ _ q]
        try dsimp only
        split
        · by_cases z : rkk sd x y j < p
          · rw [if_pos z, if_pos (by omega)]
            omega
          · have ne : rkk sd x y j ≠ rkk sd x y b := by
              unfold rkk
              omega
            rw [if_neg (show ¬ rkk sd x y j < p + 1 by omega)]
            omega
        · omega
    unfold GG at c ⊢
    omega
  exact ⟨b, b1, b2, by rw [b3]; omega⟩
/-! the class's ranks -/
theorem c_ranks (R : RST N S sd th od areas keys there order msides mkey misThere morder) (hx : x < 256) (hy : y < 256) : ∀ d fu j (ranks : Nat → Int32), S = j + d → d < fu → ∃ r, f_X4_rankByDistance_2 n areas order (nI S) fu ranks (nI x) (nI y) (nI j) = some r ∧ ∀ i, i < S → r i = if i < j then ranks i else nI (rkk sd x y (od i)) := by
  have hS := R.hS
  intro d
  induction d with
  | zero =>
    intro fu j ranks hj hf
    obtain ⟨fu, rfl⟩ : ∃ q, fu = q + 1 := ⟨fu - 1, by omega⟩
    refine ⟨ranks, ?_, fun i hi => by rw [if_pos (by omega)]⟩
    rw [f_X4_rankByDistance_2]
    unfold f_X2_size
    by_cases q : 60 ≤ j
    · rw [n60, if_pos (nI_le q (by omega))]
    · rw [n60, if_neg (nI_ge (by omega) (by omega)), jbd_some, if_pos (nI_le (by omega) (by omega))]
  | succ d ih =>
    intro fu j ranks hj hf
    obtain ⟨fu, rfl⟩ : ∃ q, fu = q + 1 := ⟨fu - 1, by omega⟩
    have oN := (R.odN j (by omega)).1
    obtain ⟨r, r1, r2⟩ := ih fu (j + 1) (upd ranks j (nI (rkk sd x y (od j)))) (by omega) (by omega)
    refine ⟨r, ?_, fun i hi => ?_⟩
    · have e : nI (dst (sd (od j)) x y) * 100 + nI (od j) = nI (rkk sd x y (od j)) := by
        rw [n100, pk_mul, nI_add]
        unfold rkk
        rw [Nat.mul_comm]
      rw [f_X4_rankByDistance_2]
      unfold f_X2_size
      rw [n60, if_neg (nI_ge (by omega) (by omega)), jbd_some, if_neg (nI_ge (by omega) (by omega)), r_areaAt R (by omega), jbd_some, c_dist (R.ok _ oN) hx hy, jbd_some, r_numberAt R (by omega), jbd_some, jwr_n (by omega) (by omega), e, x_1, r1]
    · rw [r2 i hi]
      by_cases q : i = j
      · rw [if_pos (by omega), q, pk_us, if_neg (by omega)]
      · by_cases q2 : i < j
        · rw [if_pos (by omega), pk_un q, if_pos q2]
        · rw [if_neg (by omega), if_neg q2]
theorem c_before (R : RST N S sd th od areas keys there order msides mkey misThere morder) (hx : x < 256) (hy : y < 256) {r : Nat → Int32} (hr : ∀ i, i < S → r i = nI (rkk sd x y (od i))) {v : Nat} (hv : v < 2 ^ 24) : ∀ d fu j, S = j + d → d < fu → f_X4_ranksBefore_27 n (nI S) r fu (nI v) (nI (sm (fun i => if rkk sd x y (od i) < v then 1 else 0) j)) (nI j) = some (nI (sm (fun i => if rkk sd x y (od i) < v then 1 else 0) S)) := by
  have hS := R.hS
  intro d
  induction d with
  | zero =>
    intro fu j hj hf
    obtain ⟨fu, rfl⟩ : ∃ q, fu = q + 1 := ⟨fu - 1, by omega⟩
    rw [f_X4_ranksBefore_27]
    unfold f_X2_size
    have e : S = j := by omega
    by_cases q : 60 ≤ j
    · rw [n60, if_pos (nI_le q (by omega)), e]
    · rw [n60, if_neg (nI_ge (by omega) (by omega)), jbd_some, if_pos (nI_le (by omega) (by omega)), e]
  | succ d ih =>
    intro fu j hj hf
    obtain ⟨fu, rfl⟩ : ∃ q, fu = q + 1 := ⟨fu - 1, by omega⟩
    have st := ih fu (j + 1) (by omega) (by omega)
    have rl := rk_le R hx hy (R.odN j (by omega)).1
    rw [sm_s] at st
    rw [f_X4_ranksBefore_27]
    unfold f_X2_size f_X4_ranksBefore_63
    rw [n60, if_neg (nI_ge (by omega) (by omega)), jbd_some, if_neg (nI_ge (by omega) (by omega)), jrd_n (by omega) (by omega), hr j (by omega), x_1, x_1]
    by_cases q : rkk sd x y (od j) < v
    · rw [if_neg (nI_ge q (by omega))]
      rw [if_pos q] at st
      exact st
    · rw [if_pos (nI_le (by omega) (by omega))]
      rw [if_neg q, Nat.add_zero] at st
      exact st
theorem c_before_G (R : RST N S sd th od areas keys there order msides mkey misThere morder) (v : Nat) : sm (fun i => if rkk sd x y (od i) < v then 1 else 0) S = GG sd th N x y v := R.cnt (fun b => if rkk sd x y b < v then 1 else 0)
/-! the reference's count -/
theorem m_nearer (R : RST N S sd th od areas keys there order msides mkey misThere morder) (hx : x < 256) (hy : y < 256) {b : Nat} (hb : b < N) : ∀ d fu j, N = j + d → d < fu → f_X5_nearer_6 n (nI N) msides misThere fu (nI x) (nI y) (nI b) (nI (sm (fun c => if th c = true then (if rkk sd x y c < rkk sd x y b then 1 else 0) else 0) j)) (nI j) = some (nI (GG sd th N x y (rkk sd x y b))) := by
  have hN := R.hN
  intro d
  induction d with
  | zero =>
    intro fu j hj hf
    obtain ⟨fu, rfl⟩ : ∃ q, fu = q + 1 := ⟨fu - 1, by omega⟩
    have e : N = j := by omega
    rw [f_X5_nearer_6, if_pos (nI_le (by omega) (by omega))]
    unfold GG
    rw [e]
  | succ d ih =>
    intro fu j hj hf
    obtain ⟨fu, rfl⟩ : ∃ q, fu = q + 1 := ⟨fu - 1, by omega⟩
    have st := ih fu (j + 1) (by omega) (by omega)
    have d1 := dst_le (R.ok b hb) hx hy
    have d2 := dst_le (R.ok j (by omega)) hx hy
    rw [sm_s] at st
    have yes (q : th j = true) (q2 : rkk sd x y j < rkk sd x y b) : f_X5_nearer_67 n (nI N) msides misThere (f_X5_nearer_6 n (nI N) msides misThere fu) (nI x) (nI y) (nI b) (nI (sm (fun c => if th c = true then (if rkk sd x y c < rkk sd x y b then 1 else 0) else 0) j)) (nI j) = some (nI (GG sd th N x y (rkk sd x y b))) := by
      unfold f_X5_nearer_67 f_X5_nearer_72 f_X5_nearer_86
      rw [if_neg z10, x_1, x_1]
      rw [if_pos q, if_pos q2] at st
      exact st
    have no (q : ¬ (th j = true ∧ rkk sd x y j < rkk sd x y b)) : f_X5_nearer_71 n (nI N) msides misThere (f_X5_nearer_6 n (nI N) msides misThere fu) (nI x) (nI y) (nI b) (nI (sm (fun c => if th c = true then (if rkk sd x y c < rkk sd x y b then 1 else 0) else 0) j)) (nI j) = some (nI (GG sd th N x y (rkk sd x y b))) := by
      unfold f_X5_nearer_71 f_X5_nearer_72 f_X5_nearer_86
      rw [if_pos rfl, x_1, n0, nI_add, Nat.add_zero]
      have z : (if th j = true then (if rkk sd x y j < rkk sd x y b then 1 else 0) else 0) = 0 := by
        split
        · rw [if_neg (fun q3 => q ⟨by assumption, q3⟩)]
        · rfl
      rw [z, Nat.add_zero] at st
      exact st
    rw [f_X5_nearer_6, if_neg (nI_ge (by omega) (by omega)), jrd_n (by omega) (by omega), R.mthr j (by omega)]
    simp only [m_far R (show j < N by omega) hx hy, m_far R hb hx hy, jbd_some]
    unfold rkk at yes no
    cases q : th j with
    | false => rw [bI_f, if_pos rfl]; exact no (fun z => by rw [q] at z; exact absurd z.1 (by decide))
    | true =>
      rw [bI_t, if_neg z10]
      by_cases q1 : dst (sd j) x y < dst (sd b) x y
      · rw [if_pos (by rw [nI_ltI (by omega) (by omega)]; exact q1)]
        exact yes q (by omega)
      · rw [if_neg (by rw [nI_ltI (by omega) (by omega)]; exact q1)]
        by_cases q2 : dst (sd j) x y = dst (sd b) x y
        · rw [if_pos (by rw [q2])]
          by_cases q3 : b ≤ j
          · rw [if_pos (nI_le q3 (by omega))]
            exact no (fun z => by omega)
          · rw [if_neg (nI_ge (by omega) (by omega))]
            exact yes q (by omega)
        · rw [if_neg (by rw [nI_eq (by omega) (by omega)]; exact q2)]
          exact no (fun z => by omega)
end
