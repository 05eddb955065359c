section
variable {n h : Nat} {w : Nat → Nat} {e e1 : Nat → Nat → Nat} {loads widths nodes entries : Nat → Int32}
def IS (S h : Nat) (w : Nat → Nat) (e : Nat → Nat → Nat) (l k : Nat) : Prop := S ≤ 60 ∧ 0 < h ∧ CORE S h w e ∧ (∀ l', l' < h → if l' = l then ROWs (e l') (w l') k else ROW (e l') (w l')) ∧ (2 ≤ h → 1 ≤ e (h - 1) 0 ∧ (l + 1 < h → 2 ≤ e (h - 1) 0))
theorem row_join {f : Nat → Nat} {m k0 a B : Nat} (r : ROWs f m k0) (ha : a + 1 < m) (hk : k0 = a ∨ k0 = a + 1) (hB : f a + f (a + 1) = B) (h4 : B ≤ 4) : ROW (delR (un f a B) (a + 1)) (m - 1) ∧ sm (delR (un f a B) (a + 1)) (m - 1) = sm f m := by
  obtain ⟨r1, r2⟩ := r
  have x0 := r1 a (by omega)
  have x1 := r1 (a + 1) ha
  have x2 := r2 a ha
  refine ⟨⟨fun j hj => ?_, fun j hj => ?_⟩, ?_⟩
  · unfold delR
    by_cases q : j < a + 1
    · rw [if_pos q]
      by_cases z : j = a
      · subst z
        rw [un_s]
        omega
      · rw [un_n _ _ z]
        have := r1 j (by omega)
        omega
    · rw [if_neg q, un_n _ _ (by omega)]
      have := r1 (j + 1) (by omega)
      omega
  · unfold delR
    by_cases q : j < a + 1
    · rw [if_pos q]
      by_cases z : j = a
      · subst z
        rw [un_s]
        have := r2 (j + 1) (by omega)
        omega
      · rw [un_n _ _ z]
        have := r2 j (by omega)
        omega
    · rw [if_neg q, un_n _ _ (by omega)]
      have := r2 (j + 1) (by omega)
      omega
  · have s1 := sm_del (un f a B) ha
    have s2 := sm_un f B (show a < m by omega)
    rw [un_n _ _ (by omega)] at s1
    omega
theorem row_drop {f : Nat → Nat} {m k0 : Nat} (r : ROWs f m k0) (hk : k0 + 1 = m) (h0 : f k0 = 0) : ROW (delR f k0) (m - 1) ∧ sm (delR f k0) (m - 1) = sm f m := by
  obtain ⟨r1, r2⟩ := r
  refine ⟨⟨fun j hj => ?_, fun j hj => ?_⟩, ?_⟩
  · unfold delR
    rw [if_pos (by omega)]
    have := r1 j (by omega)
    omega
  · unfold delR
    rw [if_pos (by omega)]
    have := r2 j (by omega)
    omega
  · have s1 := sm_del f (show k0 < m by omega)
    omega
theorem row_keep {f : Nat → Nat} {m k0 : Nat} (r : ROWs f m k0) (h1 : 1 ≤ f k0) (h2 : k0 + 1 = m ∨ 2 ≤ f k0) : ROW f m := by
  obtain ⟨r1, r2⟩ := r
  refine ⟨fun j hj => ?_, fun j hj => ?_⟩
  · have := r1 j hj
    by_cases z : j = k0
    · subst z; omega
    · omega
  · have := r2 j hj
    by_cases z : j = k0
    · subst z; omega
    · omega
theorem row_loss {f : Nat → Nat} {m p : Nat} (r : ROW f m) (hp : p < m) : ROWs (un f p (f p - 1)) m p ∧ sm (un f p (f p - 1)) m + 1 = sm f m := by
  obtain ⟨r1, r2⟩ := r
  refine ⟨⟨fun j hj => ?_, fun j hj => ?_⟩, ?_⟩
  · have := r1 j hj
    by_cases z : j = p
    · subst z; rw [un_s]; omega
    · rw [un_n _ _ z]; omega
  · have := r2 j hj
    by_cases z : j = p
    · exact Or.inr z
    · rw [un_n _ _ z]; omega
  · have := sm_un f (f p - 1) hp
    have := r1 p hp
    omega
theorem is_rows {S l k : Nat} (I : IS S h w e l k) {l' : Nat} (hl : l' < h) (q : l' ≠ l) : ROW (e l') (w l') := by
  have := I.2.2.2.1 l' hl
  rw [if_neg q] at this
  exact this
theorem is_row {S l k : Nat} (I : IS S h w e l k) (hl : l < h) : ROWs (e l) (w l) k := by
  have := I.2.2.2.1 l hl
  rw [if_pos rfl] at this
  exact this
theorem is_up {S l k p : Nat} (I : IS S h w e l k) (hl : l + 1 < h) (hp : p < w (l + 1)) (hw : 1 ≤ w l) (row1 : ROW (e1 l) (w l - 1)) (sum1 : sm (e1 l) (w l - 1) = sm (e l) (w l)) (oth : ∀ l', l' ≠ l → e1 l' = e l') : IS S h (un w l (w l - 1)) (ue e1 (l + 1) p (e1 (l + 1) p - 1)) (l + 1) p := by
  obtain ⟨I1, I2, ⟨C1, C2, C3⟩, I4, I5⟩ := id I
  have hr := is_rows I hl (show l + 1 ≠ l by omega)
  obtain ⟨g1, g2⟩ := row_loss hr hp
  have e2 : e1 (l + 1) = e (l + 1) := oth _ (by omega)
  refine ⟨I1, I2, ⟨fun _ => ?_, fun l' hl' => ?_, fun _ => ?_⟩, fun l' hl' => ?_, fun h2 => ?_⟩
  · rw [un_n _ _ (by omega)]
    exact C1 (by omega)
  · by_cases q : l' = l
    · subst q
      have c2 := C2 l' hl
      rw [un_s, un_n _ _ (by omega), ue_same, e2]
      omega
    · rw [ue_ne _ _ _ (show l' + 1 ≠ l + 1 by omega)]
      by_cases q2 : l' + 1 = l
      · subst q2
        rw [un_s, un_n _ _ (by omega), sum1]
        exact C2 l' hl'
      · rw [un_n _ _ q2, un_n _ _ q, oth _ q2]
        exact C2 l' hl'
  · rw [ue_ne _ _ _ (by omega)]
    by_cases q : 0 = l
    · subst q
      rw [un_s, sum1]
      exact C3 (by omega)
    · rw [un_n _ _ q, oth _ q]
      exact C3 (by omega)
  · by_cases q : l' = l + 1
    · subst q
      rw [if_pos rfl, ue_same, un_n _ _ (by omega), e2]
      exact g1
    · rw [if_neg q, ue_ne _ _ _ q]
      by_cases q2 : l' = l
      · subst q2
        rw [un_s]
        exact row1
      · rw [un_n _ _ q2, oth _ q2]
        exact is_rows I hl' q2
  · have r2 := (I5 h2).2 hl
    by_cases q : l + 1 = h - 1
    · have w1 := C1 (by omega)
      rw [← q] at w1 r2 ⊢
      have : p = 0 := by omega
      subst this
      rw [ue_at, e2]
      omega
    · rw [ue_ne _ _ _ (by omega), oth _ (by omega)]
      omega
theorem il_half {S l k : Nat} (I : IS S h w e l k) (hl : l + 1 < h) (row1 : ROW (e1 l) (w l)) (sum1 : sm (e1 l) (w l) = sm (e l) (w l)) (oth : ∀ l', l' ≠ l → e1 l' = e l') : IL S h w e1 := by
  obtain ⟨I1, I2, ⟨C1, C2, C3⟩, I4, I5⟩ := id I
  have top := oth (h - 1) (by omega)
  have w1 := C1 I2
  have rt := (is_rows I (show h - 1 < h by omega) (by omega)).1 0 (by omega)
  refine ⟨I1, I2, ⟨C1, fun l' hl' => ?_, fun h0 => ?_⟩, fun l' hl' => ?_, by rw [top]; omega, fun h2 => by rw [top]; omega⟩
  · by_cases q : l' + 1 = l
    · subst q
      rw [sum1]
      exact C2 l' hl'
    · rw [oth _ q]
      exact C2 l' hl'
  · by_cases q : 0 = l
    · subst q
      rw [sum1]
      exact C3 h0
    · rw [oth _ q]
      exact C3 h0
  · by_cases q : l' = l
    · subst q; exact row1
    · rw [oth _ q]
      exact is_rows I (by omega) q
theorem il_top {S l k : Nat} (I : IS S h w e l k) (hl : l + 1 = h) : IL S h w e := by
  obtain ⟨I1, I2, C, I4, I5⟩ := id I
  have w1 := C.1 I2
  have rt := (is_row I (by omega)).1 0 (by rw [show l = h - 1 by omega]; omega)
  refine ⟨I1, I2, C, fun l' hl' => is_rows I (by omega) (by omega), ?_, fun h2 => (I5 h2).1⟩
  rw [show h - 1 = l by omega]
  exact rt.2
theorem end_sim {S : Nat} (hn : 100 ≤ n) (R : RT h w e loads widths) (M : RM h w e nodes entries) (I : IL S h w e) : ∃ h', f_X3_shrink_106 n loads widths (nI h) = some (loads, widths, nI h') ∧ f_X5_shrinks_239 n (nI S) n (nI h) nodes entries = some (nI h', nodes, entries) ∧ RT h' w e loads widths ∧ RM h' w e nodes entries ∧ IT S h' w e := by
  have h8 := R.1
  obtain ⟨m, rfl⟩ : ∃ m, h = m + 1 := ⟨h - 1, by have := I.2.1; omega⟩
  obtain ⟨h', a, b, c, d⟩ := lower_sim (n := n) (S := S) m (fu := n) (fu' := n) (by omega) (by omega) R M I
  refine ⟨h', ?_, b, R.mono c, M.mono c, d⟩
  unfold f_X3_shrink_106 f_X3_lowerRoot
  rw [j_pred (by omega), Nat.add_sub_cancel, a, jbd_some]
end
