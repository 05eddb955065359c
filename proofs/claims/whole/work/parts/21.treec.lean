/-! ===== the class's tree: reads, single steps ===== -/
section TD
variable {n h : Nat} {w : Nat → Nat} {e : Nat → Nat → Nat} {loads widths : Nat → Int32}
theorem t_setWidth {l : Nat} (hl : l < 8) (v : Int32) : f_X3_setWidth n widths (nI l) v = some (upd widths l v) := by
  unfold f_X3_setWidth
  simp (disch := omega) only [n0, n8, nI_ltI, nI_leI, if_neg, jwr_n]
theorem t_eb_loop (R : RT h w e loads widths) {l k : Nat} (hl : l < h) (hk : k ≤ w l) : ∀ d fu j, k = j + d → d < fu → f_X3_entriesBefore_5 n loads widths (nI h) fu (nI l) (nI k) (nI (sm (e l) j)) (nI j) = some (nI (sm (e l) k)) := by
  have q2 := (R.2.1 l hl).2
  have q1 := R.1
  intro d
  induction d with
  | zero =>
    intro fu j hj hf
    obtain ⟨fu, rfl⟩ : ∃ z, fu = z + 1 := ⟨fu - 1, by omega⟩
    rw [f_X3_entriesBefore_5]
    have : k = j := by omega
    subst this
    simp (disch := omega) only [nI_leI, if_pos]
  | succ d ih =>
    intro fu j hj hf
    obtain ⟨fu, rfl⟩ : ∃ z, fu = z + 1 := ⟨fu - 1, by omega⟩
    rw [f_X3_entriesBefore_5]
    simp (disch := omega) only [nI_leI, if_neg, t_width R hl, jbd_some, t_load R hl, n1, nI_add]
    exact ih fu (j + 1) (by omega) (by omega)
theorem t_eb (R : RT h w e loads widths) (hn : 100 ≤ n) {l k : Nat} (hl : l < h) (hk : k ≤ w l) : f_X3_entriesBefore n loads widths (nI h) (nI l) (nI k) = some (nI (sm (e l) k)) := by
  have q2 := (R.2.1 l hl).2
  unfold f_X3_entriesBefore
  exact t_eb_loop R hl hk k n 0 (by omega) (by omega)
def bb (e : Nat → Nat → Nat) : Nat → Nat → Nat
  | 0, k => sm (e 0) k
  | l + 1, k => bb e l (sm (e (l + 1)) k)
theorem t_bb_loop (R : RT h w e loads widths) (hn : 100 ≤ n) (hs : ∀ l, l + 1 < h → sm (e (l + 1)) (w (l + 1)) = w l) : ∀ l fu k, l < h → k ≤ w l → l + 1 < fu → f_X3_boxesBefore_5 n loads widths (nI h) fu (nI k) (nI l) = some (nI (bb e l k)) := by
  have q1 := R.1
  intro l
  induction l with
  | zero =>
    intro fu k hl hk hf
    obtain ⟨fu, rfl⟩ : ∃ z, fu = z + 1 + 1 := ⟨fu - 2, by omega⟩
    rw [f_X3_boxesBefore_5]
    simp (disch := omega) only [n0, nI_ltI, if_neg, t_eb R hn hl hk, jbd_some]
    show f_X3_boxesBefore_5 n loads widths (nI h) (fu + 1) _ (nI 0 + jm1) = _
    rw [f_X3_boxesBefore_5, if_pos (by decide)]
    rfl
  | succ l ih =>
    intro fu k hl hk hf
    obtain ⟨fu, rfl⟩ : ∃ z, fu = z + 1 := ⟨fu - 1, by omega⟩
    rw [f_X3_boxesBefore_5]
    simp (disch := omega) only [n0, nI_ltI, if_neg, t_eb R hn hl hk, jbd_some, n_m1, Nat.add_sub_cancel]
    exact ih fu _ (by omega) (by rw [← hs l hl]; exact sm_le _ hk) (by omega)
theorem t_bb (R : RT h w e loads widths) (hn : 100 ≤ n) (hs : ∀ l, l + 1 < h → sm (e (l + 1)) (w (l + 1)) = w l) {l k : Nat} (hl : l < h) (hk : k ≤ w l) : f_X3_boxesBefore n loads widths (nI h) (nI l) (nI k) = some (nI (bb e l k)) := by
  have q1 := R.1
  unfold f_X3_boxesBefore
  exact t_bb_loop R hn hs l n k hl hk (by omega)
theorem ex_p (f : Nat → Nat) {x : Nat} : ∀ {w : Nat}, x < sm f w → ∃ p, p < w ∧ sm f p ≤ x ∧ x < sm f (p + 1)
  | 0, h => absurd h (Nat.not_lt_zero _)
  | w + 1, h => by
    rcases Nat.lt_or_ge x (sm f w) with q | q
    · obtain ⟨p, h1, h2⟩ := ex_p f q
      exact ⟨p, by omega, h2⟩
    · exact ⟨w, by omega, q, h⟩
theorem t_ho_loop (R : RT h w e loads widths) {l p x : Nat} (hl : l < h) (hp : p < w l) (hx : x < 2000) (h1 : sm (e l) p ≤ x) (hb : sm (e l) (w l) ≤ 1000) (h2 : x < sm (e l) (p + 1) ∨ p + 1 = w l) : ∀ d fu j, p = j + d → d + 1 < fu → f_X3_holder_5 n loads widths (nI h) fu (nI l) (nI x) (nI (sm (e l) j)) (nI j) = some (nI p) := by
  have q2 := (R.2.1 l hl).2
  have q1 := R.1
  intro d
  induction d with
  | zero =>
    intro fu j hj hf
    obtain ⟨fu, rfl⟩ : ∃ z, fu = z + 1 + 1 := ⟨fu - 2, by omega⟩
    have : p = j := by omega
    subst this
    rw [f_X3_holder_5]
    have hb1 : sm (e l) (p + 1) ≤ 1000 := Nat.le_trans (sm_le _ (by omega)) hb
    have hb2 : sm (e l) p + e l p ≤ 1000 := hb1
    simp (disch := omega) only [t_width R hl, jbd_some, nI_leI, if_neg, t_load R hl, n1, nI_add]
    by_cases q : x < sm (e l) (p + 1)
    · have q' : ¬ sm (e l) p + e l p ≤ x := by have : sm (e l) (p + 1) = sm (e l) p + e l p := rfl; omega
      rw [if_neg q']
    · have q' : sm (e l) p + e l p ≤ x := by have : sm (e l) (p + 1) = sm (e l) p + e l p := rfl; omega
      rw [if_pos q', f_X3_holder_5]
      have h3 : p + 1 = w l := by omega
      simp (disch := omega) only [t_width R hl, jbd_some, nI_leI, if_pos, n1, pk_sub]
      rw [show w l - 1 = p by omega]
  | succ d ih =>
    intro fu j hj hf
    obtain ⟨fu, rfl⟩ : ∃ z, fu = z + 1 := ⟨fu - 1, by omega⟩
    rw [f_X3_holder_5]
    have h3 : sm (e l) (j + 1) ≤ sm (e l) p := sm_le _ (by omega)
    have h4 : sm (e l) j + e l j ≤ x := Nat.le_trans h3 h1
    simp (disch := omega) only [t_width R hl, jbd_some, nI_leI, if_neg, t_load R hl, n1, nI_add, if_pos]
    exact ih fu (j + 1) (by omega) (by omega)
theorem t_holder (R : RT h w e loads widths) (hn : 100 ≤ n) {l p x : Nat} (hl : l < h) (hp : p < w l) (hx : x < 2000) (h1 : sm (e l) p ≤ x) (hb : sm (e l) (w l) ≤ 1000) (h2 : x < sm (e l) (p + 1) ∨ p + 1 = w l) : f_X3_holder n loads widths (nI h) (nI l) (nI x) = some (nI p) := by
  have q2 := (R.2.1 l hl).2
  unfold f_X3_holder
  exact t_ho_loop R hl hp hx h1 hb h2 p n 0 (by omega) (by omega)
theorem t_parent (R : RT h w e loads widths) (hn : 100 ≤ n) {l p k : Nat} (hl : l + 1 < h) (hp : p < w (l + 1)) (hx : k < 2000) (h1 : sm (e (l + 1)) p ≤ k) (hb : sm (e (l + 1)) (w (l + 1)) ≤ 1000) (h2 : k < sm (e (l + 1)) (p + 1)) : f_X3_parent n loads widths (nI h) (nI l) (nI k) = some (nI p) := by
  have q1 := R.1
  unfold f_X3_parent f_X3_hasLevel
  simp (disch := omega) only [n0, n1, nI_add, nI_ltI, nI_leI, if_neg, jbd_some, nI_eq, t_holder R hn hl hp hx h1 hb (Or.inl h2)]
theorem t_parent_top {l : Nat} (hl : l + 1 = h) (h8 : h ≤ 8) (x : Int32) : f_X3_parent n loads widths (nI h) (nI l) x = some jm1 := by
  unfold f_X3_parent f_X3_hasLevel
  simp (disch := omega) only [n0, n1, nI_add, nI_ltI, nI_leI, if_neg, if_pos, jbd_some, nI_eq, ↓reduceIte]
theorem t_partner (R : RT h w e loads widths) (hn : 100 ≤ n) {l p k : Nat} (hl : l + 1 < h) (hp : p < w (l + 1)) (h1 : sm (e (l + 1)) p ≤ k) (hb : sm (e (l + 1)) (w (l + 1)) ≤ 1000) (h2 : k < sm (e (l + 1)) (p + 1)) : f_X3_partner n loads widths (nI h) (nI l) (nI k) (nI p) = some (if k + 1 < sm (e (l + 1)) (p + 1) then nI (k + 1) else if sm (e (l + 1)) p < k then nI (k - 1) else jm1) := by
  have q1 := R.1
  have hb1 : sm (e (l + 1)) (p + 1) ≤ 1000 := Nat.le_trans (sm_le _ (by omega)) hb
  have hG : sm (e (l + 1)) (p + 1) = sm (e (l + 1)) p + e (l + 1) p := rfl
  unfold f_X3_partner
  simp (disch := omega) only [n1, nI_add, t_eb R hn hl (Nat.le_of_lt hp), jbd_some, t_load R hl hp, pk_sub, nI_leI, nI_ltI]
  by_cases q : k + 1 < sm (e (l + 1)) (p + 1)
  · rw [if_pos q, if_neg (by omega)]
  · rw [if_neg q, if_pos (by omega)]
    by_cases q3 : sm (e (l + 1)) p < k
    · rw [if_pos q3, if_neg (by omega), if_neg (by omega)]
    · rw [if_neg q3, if_pos (by omega)]
theorem t_eb_m1 (a : Int32) (hn : 100 ≤ n) : f_X3_entriesBefore n loads widths (nI h) a jm1 = some 0 := by
  unfold f_X3_entriesBefore
  obtain ⟨m, rfl⟩ : ∃ z, n = z + 1 := ⟨n - 1, by omega⟩
  rw [f_X3_entriesBefore_5, if_pos (by decide)]
theorem t_load_top {l : Nat} (hl : l + 1 = h) (h8 : h ≤ 8) (x : Int32) : f_X3_load n loads widths (nI h) (nI (l + 1)) x = some 0 := by
  unfold f_X3_load f_X3_hasNode
  simp (disch := omega) only [n0, nI_ltI, nI_leI, if_neg, if_pos, jbd_some, nI_eq, ↓reduceIte]
theorem t_partner_top (hn : 100 ≤ n) {l k : Nat} (hl : l + 1 = h) (h8 : h ≤ 8) (hk : k < 2000) : f_X3_partner n loads widths (nI h) (nI l) (nI k) jm1 = some jm1 := by
  unfold f_X3_partner
  rw [n1, nI_add, t_eb_m1 _ hn, jbd_some, t_load_top hl h8, jbd_some, if_pos, ite_eq_left_iff.mpr]
  · intro q
    rw [if_pos]
    rw [Int32.lt_iff_toInt_lt, nI_toInt (by omega)]
    have : ((0 : Int32) + 0 - nI 1).toInt = -1 := by decide
    omega
  · rw [Int32.le_iff_toInt_le, nI_toInt (by omega)]
    have : ((0 : Int32) + 0 - nI 1).toInt = -1 := by decide
    omega
end TD
