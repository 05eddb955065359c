theorem n32_of {a : UInt32} (h : Jvm.FP.Core.fIsNaN a = false) : a &&& 0x7fffffff ≤ 0x7f800000 := by
  have q : ¬ 2139095040 < a.toNat % 2 ^ 31 := fun z => by
    have := (Jvm.FP.Core.isNaN_bits32 a).2 z
    rw [h] at this
    cases this
  rw [UInt32.le_iff_toNat_le, UInt32.toNat_and]
  show a.toNat &&& (2 ^ 31 - 1) ≤ 2139095040
  rw [Nat.and_two_pow_sub_one_eq_mod]
  omega
theorem n64_of {a : UInt64} (h : Jvm.FP.Core.dIsNaN a = false) : a &&& 0x7fffffffffffffff ≤ 0x7ff0000000000000 := by
  have q : ¬ 9218868437227405312 < a.toNat % 2 ^ 63 := fun z => by
    have := (Jvm.FP.Core.isNaN_bits a).2 z
    rw [h] at this
    cases this
  rw [UInt64.le_iff_toNat_le, UInt64.toNat_and]
  show a.toNat &&& (2 ^ 63 - 1) ≤ 9218868437227405312
  rw [Nat.and_two_pow_sub_one_eq_mod]
  omega
theorem fin_nn {a : UInt32} (h : Jvm.FP.Core.FFin a) : Jvm.FP.Core.fIsNaN a = false := (Jvm.FP.Core.notNaN_iff32 a).2 h.ne_nan
theorem div_nn (a b : Int32) (h : b ≠ 0) : Jvm.FP.Core.fIsNaN (FP.fdiv (FP.i2f a) (FP.i2f b)) = false :=
  Jvm.FP.Core.fdiv_out (fin_nn (Jvm.FP.Core.i2f_fin a)) (Jvm.FP.Core.i2f_fin b) (fun z => Jvm.FP.Core.i2f_ne_zero h ((Jvm.FP.Core.zero_bits232 _).1 z))
theorem div_go {α : Type} (a b : Int32) (h : b ≠ 0) (k : UInt32 → Option α) : jfdiv (FP.i2f a) (FP.i2f b) k = k (FP.fdiv (FP.i2f a) (FP.i2f b)) := if_pos (n32_of (div_nn a b h))
theorem f2d_nn {a : UInt32} (h : Jvm.FP.Core.fIsNaN a = false) : Jvm.FP.Core.dIsNaN (FP.f2d a) = false := by
  have := Jvm.FP.f2d_nan a
  exact this.trans h
theorem f2d_go {α : Type} {a : UInt32} (h : Jvm.FP.Core.fIsNaN a = false) (k : UInt64 → Option α) : jf2d a k = k (FP.f2d a) := if_pos (n64_of (f2d_nn h))
theorem dcmp_go {a : UInt64} (h : Jvm.FP.Core.dIsNaN a = false) : Op.cmpValue (FP.dcmp a a) .l = 0 := by
  have e : FP.dcmp a a = some .eq := Jvm.FP.Core.dcmp_self ((Jvm.FP.Core.notNaN_iff a).1 h)
  rw [e]
  rfl
def pts (s : Nat → Nat) : Nat := (s 2 - s 0 + 1) * (s 3 - s 1 + 1)
theorem pts_b {s : Nat → Nat} (h : okA s) : 1 ≤ pts s ∧ pts s ≤ 65536 := by
  have a := ok_lo h
  unfold loA at a
  unfold pts
  have b := Nat.mul_le_mul (show s 2 - s 0 + 1 ≤ 256 by omega) (show s 3 - s 1 + 1 ≤ 256 by omega)
  have c := Nat.mul_le_mul (show 1 ≤ s 2 - s 0 + 1 by omega) (show 1 ≤ s 3 - s 1 + 1 by omega)
  omega
theorem i_pts {s : Nat → Nat} (h : okA s) : ((nI (s 2) - nI (s 0)) + 1) * ((nI (s 3) - nI (s 1)) + 1) = nI (pts s) := by
  rw [pk_sub h.2.1, pk_sub h.2.2, x_1, x_1, pk_mul]
  rfl
section
variable {n : Nat} {areas keys there order : Nat → Int32} {added size : Int32} {loads widths : Nat → Int32} {height madded : Int32} {msides mkey misThere : Nat → Int32} {mboxes : Int32} {morder : Nat → Int32} {mlevels : Int32} {mnodes mentries : Nat → Int32} {mthrown : Int32} {y1 y2 y3 y4 y5 y6 : Int32}
theorem c_pts {s : Nat → Nat} (h : okA s) : f_X0_points n (ar s) = some (nI (pts s)) := by
  unfold f_X0_points
  rw [a_side2 h, jbd_some, a_side0 h, jbd_some, a_side3 h, jbd_some, a_side1 h, jbd_some, i_pts h]
theorem op_cover (hn : 1000 ≤ n) (I : INV areas keys there order added size loads widths height madded msides mkey misThere mboxes morder mlevels mnodes mentries) (a b c : Int32) : ∃ k v v' z1 z2 z3 z4 z5 z6 t, f_X4_cover n areas order size loads widths height a b c = some (k, v) ∧ f_X5_cover n msides morder mlevels mnodes mentries y1 y2 y3 y4 y5 y6 mthrown a b c = some (v', z1, z2, z3, z4, z5, z6, t) ∧ ((k = 0 ∧ t = 0 ∧ v = v') ∨ (k = 1 ∧ t = 1) ∨ (k = 3 ∧ t = 2)) := by
  obtain ⟨N, S, sd, th, od, h, w, e, ⟨rfl, rfl, rfl, rfl, rfl, rfl⟩, R, RTt, RMm, IT'⟩ := I
  unfold f_X4_cover f_X5_cover f_X5_cover_26
  rcases side_cases (n := n) c with ⟨j, j4, rfl, s1, s2⟩ | ⟨s1, s2⟩
  · rw [s1, s2, jbd_some, jbd_some, if_pos rfl, if_neg z10]
    rcases node_cases (n := n) RTt RMm a b with ⟨l, k, l1, k1, rfl, rfl, c1, c2⟩ | ⟨c1, c2⟩
    · obtain ⟨cc, ok1⟩ := c_cover (n := n) R hn RTt IT' l1 k1
      obtain ⟨lo, hi, mc⟩ := m_cover (n := n) R hn RMm IT' l1 k1 (x1 := y1) (x2 := y2) (x3 := y3) (x4 := y4) (x5 := y5) (x6 := y6)
      rw [c1, c2, jbd_some, jbd_some, if_pos rfl, if_neg z10, cc, jbd_some, a_side ok1 j4, jbd_some, m_fails0, jbd_some, if_pos rfl, mc, jbd_some]
      dsimp only
      have cj : j = 0 ∨ j = 1 ∨ j = 2 ∨ j = 3 := by omega
      rcases cj with rfl | rfl | rfl | rfl
      · rw [if_pos (by decide)]
        exact ⟨_, _, _, _, _, _, _, _, _, _, rfl, rfl, Or.inl ⟨rfl, rfl, rfl⟩⟩
      · rw [if_neg (by decide), if_pos (by decide)]
        exact ⟨_, _, _, _, _, _, _, _, _, _, rfl, rfl, Or.inl ⟨rfl, rfl, rfl⟩⟩
      · rw [if_neg (by decide), if_neg (by decide), if_pos (by decide)]
        exact ⟨_, _, _, _, _, _, _, _, _, _, rfl, rfl, Or.inl ⟨rfl, rfl, rfl⟩⟩
      · rw [if_neg (by decide), if_neg (by decide), if_neg (by decide)]
        exact ⟨_, _, _, _, _, _, _, _, _, _, rfl, rfl, Or.inl ⟨rfl, rfl, rfl⟩⟩
    · rw [c1, c2, jbd_some, jbd_some, if_neg (by decide), if_pos rfl, m_fails2, jbd_some, if_neg z10]
      exact ⟨_, _, _, _, _, _, _, _, _, _, rfl, rfl, Or.inr (Or.inr ⟨rfl, rfl⟩)⟩
  · rw [s1, s2, jbd_some, jbd_some, if_neg (by decide), if_pos rfl, m_fails1, jbd_some, if_neg z10]
    exact ⟨_, _, _, _, _, _, _, _, _, _, rfl, rfl, Or.inr (Or.inl ⟨rfl, rfl⟩)⟩
theorem op_visits (hn : 1000 ≤ n) (I : INV areas keys there order added size loads widths height madded msides mkey misThere mboxes morder mlevels mnodes mentries) (a b c d : Int32) : ∃ k v v' z1 z2 z3 z4 z5 z6 t, f_X4_visits n areas order size loads widths height a b c d = some (k, v) ∧ f_X5_visits n msides morder mlevels mnodes mentries y1 y2 y3 y4 y5 y6 mthrown a b c d = some (v', z1, z2, z3, z4, z5, z6, t) ∧ ((k = 0 ∧ t = 0 ∧ v = v') ∨ (k = 1 ∧ t = 1)) := by
  obtain ⟨N, S, sd, th, od, h, w, e, ⟨rfl, rfl, rfl, rfl, rfl, rfl⟩, R, RTt, RMm, IT'⟩ := I
  have h9 := RTt.1
  unfold f_X4_visits f_X5_visits f_X5_visits_17
  by_cases q : inA a b c d
  · rw [(c_area (n := n)).1 q, (m_area (n := n)).1 q, jbd_some, jbd_some, if_pos rfl, if_neg z10]
    obtain ⟨s, ok, rfl, rfl, rfl, rfl, _⟩ := sides q
    obtain ⟨v, z1, z2, z3, z4, z5, z6, g1, g2⟩ := cm_out (n := n) R hn RTt RMm IT' ok (tt := 0) h n n 0 0 y1 y2 y3 y4 y5 y6 (by omega) (by omega) (by omega)
    rw [← n0] at g1 g2
    rw [a_of ok, jbd_some, g1, m_fails0, jbd_some, if_pos rfl]
    dsimp only
    rw [g2]
    exact ⟨_, _, _, _, _, _, _, _, _, _, rfl, rfl, Or.inl ⟨rfl, rfl, rfl⟩⟩
  · rw [(c_area (n := n)).2 q, (m_area (n := n)).2 q, jbd_some, jbd_some, if_neg (by decide), if_pos rfl, m_fails1, jbd_some, if_neg z10]
    exact ⟨_, _, _, _, _, _, _, _, _, _, rfl, rfl, Or.inr ⟨rfl, rfl⟩⟩
end
section
variable {n N S h : Nat} {sd : Nat → Nat → Nat} {th : Nat → Bool} {od : Nat → Nat} {areas keys there order msides mkey misThere morder : Nat → Int32} {w : Nat → Nat} {e : Nat → Nat → Nat} {loads widths nodes entries : Nat → Int32}
theorem sum_b {f : Nat → Nat} : ∀ {m : Nat}, (∀ k, k < m → 1 ≤ f k ∧ f k ≤ 65536) → m ≤ sm f m ∧ sm f m ≤ 65536 * m
  | 0, _ => ⟨Nat.le_refl _, Nat.le_refl _⟩
  | m + 1, hf => by
    have a := sum_b (m := m) (fun k hk => hf k (by omega))
    have b := hf m (by omega)
    rw [sm_s]
    omega
theorem c_t52 (R : RST N S sd th od areas keys there order msides mkey misThere morder) {H x : Int32} (hx : x ≠ 0) : ∀ d fu j, S = j + d → d < fu → f_X4_tightness_52 n areas order (nI S) loads widths H fu x (nI (sm (fun i => pts (sd (od i))) j)) (nI j) = some (0, FP.fdiv (FP.i2f (nI (sm (fun i => pts (sd (od i))) S))) (FP.i2f x)) := by
  have hS := R.hS
  intro d
  induction d with
  | zero =>
    intro fu j hj hf
    obtain ⟨fu, rfl⟩ : ∃ q, fu = q + 1 := ⟨fu - 1, by omega⟩
    have e : S = j := by omega
    rw [f_X4_tightness_52]
    unfold f_X2_size
    rw [jbd_some, if_pos (nI_le (by omega) (by omega)), div_go _ _ hx, e]
  | succ d ih =>
    intro fu j hj hf
    obtain ⟨fu, rfl⟩ : ∃ q, fu = q + 1 := ⟨fu - 1, by omega⟩
    rw [f_X4_tightness_52]
    unfold f_X2_size
    rw [jbd_some, if_neg (nI_ge (by omega) (by omega)), r_areaAt R (by omega), jbd_some, c_pts (R.ok _ (R.odN j (by omega)).1), jbd_some, nI_add, x_1]
    exact ih fu (j + 1) (by omega) (by omega)
def PL (sd : Nat → Nat → Nat) (od : Nat → Nat) (e : Nat → Nat → Nat) : Nat → Nat := fun k => pts (cov (fun i => sd (od i)) e 0 k)
theorem c_t4 (R : RST N S sd th od areas keys there order msides mkey misThere morder) (hn : 1000 ≤ n) (T : RT h w e loads widths) (I : IT S h w e) (h0 : 0 < h) (hp : 0 < sm (PL sd od e) (w 0)) (hq : sm (PL sd od e) (w 0) < 2 ^ 30) : ∀ d fu k, w 0 = k + d → d < fu → f_X4_tightness_4 n areas order (nI S) loads widths (nI h) fu (nI (sm (PL sd od e) k)) (nI k) = some (0, FP.fdiv (FP.i2f (nI (sm (fun i => pts (sd (od i))) S))) (FP.i2f (nI (sm (PL sd od e) (w 0))))) := by
  have hS := R.hS
  have w60 := (T.2.1 0 h0).2
  have tw := t_width (n := n) T h0
  rw [← n0] at tw
  intro d
  induction d with
  | zero =>
    intro fu k hk hf
    obtain ⟨fu, rfl⟩ : ∃ q, fu = q + 1 := ⟨fu - 1, by omega⟩
    have e1 : w 0 = k := by omega
    have g := c_t52 (n := n) R (loads := loads) (widths := widths) (H := nI h) (x := nI (sm (PL sd od e) (w 0))) (by rw [n0]; intro z; rw [nI_eq (by omega) (by omega)] at z; omega) S n 0 (by omega) (by omega)
    rw [show sm (fun i => pts (sd (od i))) 0 = 0 from rfl, ← n0] at g
    rw [f_X4_tightness_4, tw, jbd_some, if_pos (nI_le (by omega) (by omega)), ← e1, if_pos (show (0 : Int32) < nI (sm (PL sd od e) (w 0)) by rw [n0, nI_ltI (by omega) (by omega)]; exact hp), g]
  | succ d ih =>
    intro fu k hk hf
    obtain ⟨fu, rfl⟩ : ∃ q, fu = q + 1 := ⟨fu - 1, by omega⟩
    obtain ⟨cc, ok1⟩ := c_cover (n := n) R hn T I h0 (show k < w 0 by omega)
    rw [← n0] at cc
    rw [f_X4_tightness_4, tw, jbd_some, if_neg (nI_ge (by omega) (by omega)), cc, jbd_some, c_pts ok1, jbd_some, nI_add, x_1]
    exact ih fu (k + 1) (by omega) (by omega)
theorem m_t92 (R : RST N S sd th od areas keys there order msides mkey misThere morder) (hn : 1000 ≤ n) (M : RM h w e nodes entries) (T : RT h w e loads widths) (I : IT S h w e) (h0 : 0 < h) {mb tt x : Int32} (hp : nI (sm (PL sd od e) (w 0)) ≠ 0) : ∀ d fu k (y1 y2 y3 y4 y5 y6 : Int32), w 0 = k + d → d < fu → ∃ z1 z2 z3 z4 z5 z6, f_X5_tightness_92 n msides mb morder nodes entries fu y1 y2 y3 y4 y5 y6 tt x (nI (sm (PL sd od e) k)) (nI k) = some (FP.fdiv (FP.i2f x) (FP.i2f (nI (sm (PL sd od e) (w 0)))), z1, z2, z3, z4, z5, z6, tt) := by
  have mw := M.2.1 0 h0
  intro d
  induction d with
  | zero =>
    intro fu k y1 y2 y3 y4 y5 y6 hk hf
    obtain ⟨fu, rfl⟩ : ∃ q, fu = q + 1 := ⟨fu - 1, by omega⟩
    have e1 : w 0 = k := by omega
    refine ⟨y1, y2, y3, y4, y5, y6, ?_⟩
    rw [f_X5_tightness_92, n0, jrd_n (by omega) (by omega), mw.1, if_pos (nI_le (by omega) (by omega)), ← e1, div_go _ _ hp]
  | succ d ih =>
    intro fu k y1 y2 y3 y4 y5 y6 hk hf
    obtain ⟨fu, rfl⟩ : ∃ q, fu = q + 1 := ⟨fu - 1, by omega⟩
    obtain ⟨lo, hi, mc⟩ := m_cover (n := n) R hn M I h0 (show k < w 0 by omega) (x1 := y1) (x2 := y2) (x3 := y3) (x4 := y4) (x5 := y5) (x6 := y6)
    have ok1 := (c_cover (n := n) R hn T I h0 (show k < w 0 by omega)).2
    rw [f_X5_tightness_92, n0, jrd_n (by omega) (by omega), mw.1, if_neg (nI_ge (by omega) (by omega)), mc, jbd_some]
    dsimp only
    rw [i_pts ok1, nI_add, x_1]
    exact ih fu (k + 1) _ _ _ _ _ _ (by omega) (by omega)
theorem m_t25 (R : RST N S sd th od areas keys there order msides mkey misThere morder) {tt y1 y2 y3 y4 y5 y6 : Int32} : ∀ d fu j, S = j + d → d < fu → f_X5_tightness_25 n msides (nI S) morder nodes entries fu y1 y2 y3 y4 y5 y6 tt (nI (sm (fun i => pts (sd (od i))) j)) (nI j) = f_X5_tightness_92 n msides (nI S) morder nodes entries n y1 y2 y3 y4 y5 y6 tt (nI (sm (fun i => pts (sd (od i))) S)) 0 0 := by
  have hS := R.hS
  intro d
  induction d with
  | zero =>
    intro fu j hj hf
    obtain ⟨fu, rfl⟩ : ∃ q, fu = q + 1 := ⟨fu - 1, by omega⟩
    have e : S = j := by omega
    rw [f_X5_tightness_25, if_pos (nI_le (by omega) (by omega)), e]
  | succ d ih =>
    intro fu j hj hf
    obtain ⟨fu, rfl⟩ : ∃ q, fu = q + 1 := ⟨fu - 1, by omega⟩
    have oN := (R.odN j (by omega)).1
    rw [f_X5_tightness_25, if_neg (nI_ge (by omega) (by omega)), jrd_n (by omega) (by omega), (R.ord j (by omega)).2]
    simp only [x_4, m_side0 R oN]
    rw [x_2, m_sideJ R oN (by omega), x_3, m_sideJ R oN (by omega)]
    simp only [x_1, m_sideJ R oN (show 1 < 4 by omega)]
    rw [i_pts (R.ok _ oN), nI_add]
    exact ih fu (j + 1) (by omega) (by omega)
end
section
variable {n : Nat} {areas keys there order : Nat → Int32} {added size : Int32} {loads widths : Nat → Int32} {height madded : Int32} {msides mkey misThere : Nat → Int32} {mboxes : Int32} {morder : Nat → Int32} {mlevels : Int32} {mnodes mentries : Nat → Int32} {mthrown : Int32} {y1 y2 y3 y4 y5 y6 : Int32}
theorem op_tightness (hn : 1000 ≤ n) (I : INV areas keys there order added size loads widths height madded msides mkey misThere mboxes morder mlevels mnodes mentries) : ∃ k v v' z1 z2 z3 z4 z5 z6 t, f_X4_tightness n areas order size loads widths height = some (k, v) ∧ f_X5_tightness n msides mboxes morder mnodes mentries y1 y2 y3 y4 y5 y6 mthrown = some (v', z1, z2, z3, z4, z5, z6, t) ∧ ((k = 0 ∧ t = 0 ∧ v = v' ∧ Jvm.FP.Core.fIsNaN v = false) ∨ (k = 2 ∧ t = 1)) := by
  obtain ⟨N, S, sd, th, od, h, w, e, ⟨rfl, rfl, rfl, rfl, rfl, rfl⟩, R, T, M, I⟩ := I
  have hS := R.hS
  unfold f_X4_tightness f_X5_tightness f_X5_tightness_13
  by_cases q : S = 0
  · subst q
    have h0 : h = 0 := I.2.1.2 rfl
    subst h0
    obtain ⟨m, rfl⟩ : ∃ m, n = m + 1 := ⟨n - 1, by omega⟩
    have w0 := t_width0 (n := m + 1) (widths := widths) (h := 0) (x := 0) (Or.inr (by decide)) (by omega)
    rw [if_pos (show nI 0 = 0 from rfl), m_fails1, jbd_some, if_neg z10, f_X4_tightness_4, w0, jbd_some, if_pos (by decide), if_neg (by decide)]
    exact ⟨_, _, _, _, _, _, _, _, _, _, rfl, rfl, Or.inr ⟨rfl, rfl⟩⟩
  · have h0 : 0 < h := by have := I.2.1; omega
    have w60 := (T.2.1 0 h0).2
    have wp := w_pos I.2.2.1 (fun l k hl hk => it_one I hl hk) (h - 1) 0 (by omega)
    have b := sum_b (f := PL sd od e) (m := w 0) (fun k hk => pts_b (c_cover (n := n) R hn T I h0 hk).2)
    have ne : nI (sm (PL sd od e) (w 0)) ≠ 0 := by
      rw [n0]
      intro z
      rw [nI_eq (by omega) (by omega)] at z
      omega
    have g1 := c_t4 (n := n) R hn T I h0 (by omega) (by omega) (w 0) n 0 (by omega) (by omega)
    have g2 := m_t25 (n := n) R (nodes := mnodes) (entries := mentries) (tt := 0) (y1 := y1) (y2 := y2) (y3 := y3) (y4 := y4) (y5 := y5) (y6 := y6) S n 0 (by omega) (by omega)
    obtain ⟨z1, z2, z3, z4, z5, z6, g3⟩ := m_t92 (n := n) R hn M T I h0 (mb := nI S) (tt := 0) (x := nI (sm (fun i => pts (sd (od i))) S)) ne (w 0) n 0 y1 y2 y3 y4 y5 y6 (by omega) (by omega)
    rw [show sm (PL sd od e) 0 = 0 from rfl, ← n0] at g1 g3
    rw [show sm (fun i => pts (sd (od i))) 0 = 0 from rfl, ← n0] at g2
    rw [g1, if_neg (show ¬ nI S = 0 by rw [n0, nI_eq (by omega) (by omega)]; exact q), m_fails0, jbd_some, if_pos rfl]
    dsimp only
    rw [g2, g3]
    exact ⟨_, _, _, _, _, _, _, _, _, _, rfl, rfl, Or.inl ⟨rfl, rfl, rfl, div_nn _ _ ne⟩⟩
end
