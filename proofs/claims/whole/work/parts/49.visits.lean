theorem sm_lt {f : Nat → Nat} {a b : Nat} (h : a < b) (h1 : ∀ k, k < b → 1 ≤ f k) : sm f a < sm f b := by
  have x := sm_le f (show a + 1 ≤ b by omega)
  have y := h1 a h
  rw [sm_s] at x
  omega
section
variable {S h : Nat} {w : Nat → Nat} {e : Nat → Nat → Nat}
theorem it_one (I : IT S h w e) {l k : Nat} (hl : l < h) (hk : k < w l) : 1 ≤ e l k := ((I.2.2.2.1 l hl).1 k hk).1
theorem bb_lt (I : IT S h w e) : ∀ l a b, l < h → a < b → b ≤ w l → bb e l a < bb e l b
  | 0, a, b, hl, hab, hb => sm_lt hab (fun k hk => it_one I hl (by omega))
  | l + 1, a, b, hl, hab, hb => by
    have q := sm_lt hab (fun k hk => it_one I hl (show k < w (l + 1) by omega))
    have z := sm_le (e (l + 1)) hb
    rw [I.2.2.1.2.1 l hl] at z
    exact bb_lt I l _ _ (by omega) q z
theorem bb_top (I : IT S h w e) : ∀ l, l < h → bb e l (w l) = S
  | 0, hl => I.2.2.1.2.2 hl
  | l + 1, hl => by
    show bb e l (sm (e (l + 1)) (w (l + 1))) = S
    rw [I.2.2.1.2.1 l hl]
    exact bb_top I l (by omega)
theorem bb_le (I : IT S h w e) {l k : Nat} (hl : l < h) (hk : k ≤ w l) : bb e l k ≤ S := by
  have t := bb_top I l hl
  by_cases q : k = w l
  · rw [q, t]; exact Nat.le_refl _
  · have := bb_lt I l k (w l) hl (by omega) (Nat.le_refl _)
    omega
end
def cov (g : Nat → Nat → Nat) (e : Nat → Nat → Nat) (l k : Nat) : Nat → Nat := fl g (bb e l (k + 1) - bb e l k) (bb e l k) EE
def ag (s t : Nat → Nat) : Prop := s 0 = t 0 ∧ s 1 = t 1 ∧ s 2 = t 2 ∧ s 3 = t 3
theorem ag_cv {s t u : Nat → Nat} (h : ag s t) : cvf s u = cvf t u := by
  unfold cvf
  rw [h.1, h.2.1, h.2.2.1, h.2.2.2]
theorem ag_fl {g : Nat → Nat → Nat} : ∀ d j {s t : Nat → Nat}, ag s t → ag (fl g d j s) (fl g d j t)
  | 0, _, _, _, h => h
  | d + 1, j, s, t, h => by
    show ag (fl g d (j + 1) (cvf s (g j))) (fl g d (j + 1) (cvf t (g j)))
    rw [ag_cv h]
    exact ⟨rfl, rfl, rfl, rfl⟩
section
variable {n N S h : Nat} {sd : Nat → Nat → Nat} {th : Nat → Bool} {od : Nat → Nat} {areas keys there order msides mkey misThere morder : Nat → Int32} {w : Nat → Nat} {e : Nat → Nat → Nat} {loads widths nodes entries : Nat → Int32}
theorem EE_lo : loA EE := ⟨by decide, by decide, by decide, by decide⟩
theorem c_cover (R : RST N S sd th od areas keys there order msides mkey misThere morder) (hn : 1000 ≤ n) (T : RT h w e loads widths) (I : IT S h w e) {l k : Nat} (hl : l < h) (hk : k < w l) : f_X4_coverOf n areas order (nI S) loads widths (nI h) (nI l) (nI k) = some (ar (cov (fun i => sd (od i)) e l k)) ∧ okA (cov (fun i => sd (od i)) e l k) := by
  have hS := R.hS
  have lt := bb_lt I l k (k + 1) hl (by omega) (by omega)
  have le := bb_le I hl (show k + 1 ≤ w l by omega)
  have okk : ∀ i, i < S → okA (sd (od i)) := fun i hi => R.ok _ (R.odN i hi).1
  have t1 := t_bb (n := n) T (by omega) I.2.2.1.2.1 hl (show k ≤ w l by omega)
  have t2 := t_bb (n := n) T (by omega) I.2.2.1.2.1 hl (show k + 1 ≤ w l by omega)
  obtain ⟨d, hd⟩ : ∃ d, bb e l (k + 1) = bb e l k + 1 + d := ⟨bb e l (k + 1) - bb e l k - 1, by omega⟩
  have cv : cov (fun i => sd (od i)) e l k = fl (fun i => sd (od i)) d (bb e l k + 1) (cvf EE (sd (od (bb e l k)))) := by
    unfold cov
    rw [show bb e l (k + 1) - bb e l k = d + 1 by omega]
    rfl
  have a := cv_E (okk (bb e l k) (by omega))
  have ok1 : okA (cvf EE (sd (od (bb e l k)))) := by
    have o := okk (bb e l k) (by omega)
    refine lo_ok (cv_lo EE_lo (ok_lo o)) ?_ ?_
    · rw [a.1, a.2.2.1]; exact o.2.1
    · rw [a.2.1, a.2.2.2]; exact o.2.2
  have okc : okA (fl (fun i => sd (od i)) d (bb e l k + 1) (cvf EE (sd (od (bb e l k))))) := fl_ok d _ ok1 (fun i _ _ => okk i (by omega))
  rw [cv]
  refine ⟨?_, okc⟩
  unfold f_X4_coverOf
  rw [t1, jbd_some, x_1, t2, jbd_some, r_areaAt R (by omega), jbd_some, x_1, ← ar_cg a]
  exact c_cov_loop R le d n (bb e l k + 1) _ hd (by omega) ok1
theorem m_cov_14 (M : RM h w e nodes entries) (hn : 1000 ≤ n) (I : IT S h w e) {x1 x2 x3 x4 : Int32} {ms mo : Nat → Int32} : ∀ l fu a b, l < h → a ≤ w l → b ≤ w l → l + 1 < fu → f_X5_covers_14 n ms mo entries fu x1 x2 x3 x4 (nI a) (nI b) (nI l) = f_X5_covers_79 n ms mo entries n 255 255 0 0 (nI (bb e l a)) (nI (bb e l b)) (nI (bb e l a)) := by
  have h9 := M.1
  intro l
  induction l with
  | zero =>
    intro fu a b hl ha hb hf
    obtain ⟨fu, rfl⟩ : ∃ q, fu = q + 1 + 1 := ⟨fu - 2, by omega⟩
    rw [f_X5_covers_14, if_neg (jn_not_neg (by omega)), m_ahead M (by omega) hl ha, jbd_some, m_ahead M (by omega) hl hb, jbd_some]
    rw [f_X5_covers_14, if_pos (show nI 0 + jm1 < 0 by decide)]
    rfl
  | succ l ih =>
    intro fu a b hl ha hb hf
    obtain ⟨fu, rfl⟩ : ∃ q, fu = q + 1 := ⟨fu - 1, by omega⟩
    have za := sm_le (e (l + 1)) ha
    have zb := sm_le (e (l + 1)) hb
    rw [I.2.2.1.2.1 l hl] at za zb
    rw [f_X5_covers_14, if_neg (jn_not_neg (by omega)), m_ahead M (by omega) hl ha, jbd_some, m_ahead M (by omega) hl hb, jbd_some, n_m1 (by omega), Nat.add_sub_cancel]
    exact ih fu _ _ (by omega) za zb (by omega)
theorem m_cover (R : RST N S sd th od areas keys there order msides mkey misThere morder) (hn : 1000 ≤ n) (M : RM h w e nodes entries) (I : IT S h w e) {l k : Nat} (hl : l < h) (hk : k < w l) {x1 x2 x3 x4 x5 x6 : Int32} : ∃ lo hi, f_X5_covers n msides morder entries x1 x2 x3 x4 x5 x6 (nI l) (nI k) = some (nI (cov (fun i => sd (od i)) e l k 0), nI (cov (fun i => sd (od i)) e l k 1), nI (cov (fun i => sd (od i)) e l k 2), nI (cov (fun i => sd (od i)) e l k 3), lo, hi) := by
  have hS := R.hS
  have h9 := M.1
  have lt := bb_lt I l k (k + 1) hl (by omega) (by omega)
  have le := bb_le I hl (show k + 1 ≤ w l by omega)
  refine ⟨nI (bb e l k), nI (bb e l (k + 1)), ?_⟩
  have g := m_cov_79 (n := n) R (me := entries) (lo := nI (bb e l k)) le (bb e l (k + 1) - bb e l k) n (bb e l k) EE (by omega) (by omega) EE_lo
  unfold f_X5_covers
  rw [x_1, m_cov_14 M hn I l n k (k + 1) hl (by omega) (by omega) (by omega)]
  exact g
/-! visits -/
theorem cm_in (R : RST N S sd th od areas keys there order msides mkey misThere morder) (hn : 1000 ≤ n) (T : RT h w e loads widths) (M : RM h w e nodes entries) (I : IT S h w e) {t : Nat → Nat} (ok : okA t) {tt : Int32} {l : Nat} (hl : l < h) {k24 : Int32 → Int32 → Int32 → Option (Nat × Int32)} {k31 : Int32 → Int32 → Int32 → Int32 → Int32 → Int32 → Int32 → Int32 → Int32 → Int32 → Int32 → Int32 → Int32 → Option (Int32 × Int32 × Int32 × Int32 × Int32 × Int32 × Int32 × Int32)} : ∀ d fu fu' k c (y1 y2 y3 y4 y5 y6 : Int32), w l = k + d → d < fu → d < fu' → ∃ c' z1 z2 z3 z4 z5 z6, f_X4_visits_39 n areas order (nI S) loads widths (nI h) k24 fu (ar t) (nI c) (nI l) (nI k) = k24 (ar t) (nI c') (nI (l + 1)) ∧ f_X5_visits_43 n msides morder (nI h) nodes entries k31 fu' y1 y2 y3 y4 y5 y6 tt (nI (t 0)) (nI (t 1)) (nI (t 2)) (nI (t 3)) (nI c) (nI l) (nI k) = k31 z1 z2 z3 z4 z5 z6 tt (nI (t 0)) (nI (t 1)) (nI (t 2)) (nI (t 3)) (nI c') (nI (l + 1)) := by
  have h9 := M.1
  have mw := M.2.1 l hl
  intro d
  induction d with
  | zero =>
    intro fu fu' k c y1 y2 y3 y4 y5 y6 hk hf hf'
    obtain ⟨fu, rfl⟩ : ∃ q, fu = q + 1 := ⟨fu - 1, by omega⟩
    obtain ⟨fu', rfl⟩ : ∃ q, fu' = q + 1 := ⟨fu' - 1, by omega⟩
    refine ⟨c, y1, y2, y3, y4, y5, y6, ?_, ?_⟩
    · rw [f_X4_visits_39, t_width T hl, jbd_some, if_pos (nI_le (by omega) (by omega)), x_1]
    · rw [f_X5_visits_43, jrd_n (by omega) (by omega), mw.1, if_pos (nI_le (by omega) (by omega)), x_1]
  | succ d ih =>
    intro fu fu' k c y1 y2 y3 y4 y5 y6 hk hf hf'
    obtain ⟨fu, rfl⟩ : ∃ q, fu = q + 1 := ⟨fu - 1, by omega⟩
    obtain ⟨fu', rfl⟩ : ∃ q, fu' = q + 1 := ⟨fu' - 1, by omega⟩
    obtain ⟨cc, ok1⟩ := c_cover (n := n) R hn T I hl (show k < w l by omega)
    obtain ⟨lo, hi, mc⟩ := m_cover (n := n) R hn M I hl (show k < w l by omega) (x1 := y1) (x2 := y2) (x3 := y3) (x4 := y4) (x5 := y5) (x6 := y6)
    generalize hcv : cov (fun i => sd (od i)) e l k = s at cc mc ok1
    have so := ok_lo ok1
    have to := ok_lo ok
    unfold loA at so to
    rw [f_X4_visits_39, t_width T hl, jbd_some, if_neg (nI_ge (by omega) (by omega)), cc, jbd_some, c_meet ok1 ok, jbd_some]
    rw [f_X5_visits_43, jrd_n (by omega) (by omega), mw.1, if_neg (nI_ge (by omega) (by omega)), mc, jbd_some]
    dsimp only
    unfold f_X4_visits_72 f_X5_visits_102 f_X5_visits_103
    simp only [nI_ltI (show t 2 < 2 ^ 31 by omega) (show s 0 < 2 ^ 31 by omega), nI_ltI (show s 2 < 2 ^ 31 by omega) (show t 0 < 2 ^ 31 by omega), nI_ltI (show t 3 < 2 ^ 31 by omega) (show s 1 < 2 ^ 31 by omega), nI_ltI (show s 3 < 2 ^ 31 by omega) (show t 1 < 2 ^ 31 by omega), x_1]
    have no : nI c + 0 = nI c := by rw [n0, nI_add, Nat.add_zero]
    rw [no]
    cases q : mt s t with
    | true =>
      unfold mt at q
      rw [decide_eq_true_eq] at q
      rw [bI_t, if_neg z10, if_neg (by omega), if_neg (by omega), if_neg (by omega), if_neg (by omega)]
      exact ih fu fu' (k + 1) (c + 1) _ _ _ _ _ _ (by omega) (by omega) (by omega)
    | false =>
      unfold mt at q
      rw [decide_eq_false_iff_not] at q
      rw [bI_f, if_pos rfl]
      have st := ih fu fu' (k + 1) c (nI (s 0)) (nI (s 1)) (nI (s 2)) (nI (s 3)) lo hi (by omega) (by omega) (by omega)
      by_cases q1 : t 2 < s 0
      · rw [if_pos q1]; exact st
      · rw [if_neg q1]
        by_cases q2 : s 2 < t 0
        · rw [if_pos q2]; exact st
        · rw [if_neg q2]
          by_cases q3 : t 3 < s 1
          · rw [if_pos q3]; exact st
          · rw [if_neg q3, if_pos (by omega)]
            exact st
theorem cm_out (R : RST N S sd th od areas keys there order msides mkey misThere morder) (hn : 1000 ≤ n) (T : RT h w e loads widths) (M : RM h w e nodes entries) (I : IT S h w e) {t : Nat → Nat} (ok : okA t) {tt : Int32} : ∀ d fu fu' l c (y1 y2 y3 y4 y5 y6 : Int32), h = l + d → d < fu → d < fu' → ∃ v z1 z2 z3 z4 z5 z6, f_X4_visits_24 n areas order (nI S) loads widths (nI h) fu (ar t) (nI c) (nI l) = some (0, v) ∧ f_X5_visits_31 n msides morder (nI h) nodes entries fu' y1 y2 y3 y4 y5 y6 tt (nI (t 0)) (nI (t 1)) (nI (t 2)) (nI (t 3)) (nI c) (nI l) = some (v, z1, z2, z3, z4, z5, z6, tt) := by
  have h9 := M.1
  intro d
  induction d with
  | zero =>
    intro fu fu' l c y1 y2 y3 y4 y5 y6 hk hf hf'
    obtain ⟨fu, rfl⟩ : ∃ q, fu = q + 1 := ⟨fu - 1, by omega⟩
    obtain ⟨fu', rfl⟩ : ∃ q, fu' = q + 1 := ⟨fu' - 1, by omega⟩
    refine ⟨nI c, y1, y2, y3, y4, y5, y6, ?_, ?_⟩
    · rw [f_X4_visits_24]
      unfold f_X3_height
      rw [jbd_some, if_pos (nI_le (by omega) (by omega))]
    · rw [f_X5_visits_31, if_pos (nI_le (by omega) (by omega))]
  | succ d ih =>
    intro fu fu' l c y1 y2 y3 y4 y5 y6 hk hf hf'
    obtain ⟨fu, rfl⟩ : ∃ q, fu = q + 1 := ⟨fu - 1, by omega⟩
    obtain ⟨fu', rfl⟩ : ∃ q, fu' = q + 1 := ⟨fu' - 1, by omega⟩
    have wl := (M.2.1 l (by omega)).2
    obtain ⟨c', z1, z2, z3, z4, z5, z6, a1, a2⟩ := cm_in (n := n) R hn T M I ok (tt := tt) (show l < h by omega) (k24 := f_X4_visits_24 n areas order (nI S) loads widths (nI h) fu) (k31 := f_X5_visits_31 n msides morder (nI h) nodes entries fu') (w l) n n 0 c y1 y2 y3 y4 y5 y6 (by omega) (by omega) (by omega)
    obtain ⟨v, b1, b2, b3, b4, b5, b6, b7, b8⟩ := ih fu fu' (l + 1) c' z1 z2 z3 z4 z5 z6 (by omega) (by omega) (by omega)
    rw [← n0] at a1 a2
    refine ⟨v, b1, b2, b3, b4, b5, b6, ?_, ?_⟩
    · rw [f_X4_visits_24]
      unfold f_X3_height
      rw [jbd_some, if_neg (nI_ge (by omega) (by omega)), a1, b7]
    · rw [f_X5_visits_31, if_neg (nI_ge (by omega) (by omega)), a2, b8]
end
