/-! ===== growing: both sides, level by level ===== -/
section MH
variable {n h : Nat} {w : Nat → Nat} {e : Nat → Nat → Nat} {nodes entries : Nat → Int32}
theorem m_67 {l : Nat} {x4 x6 t0 x8 : Int32} {k39 : Int32 → (Nat → Int32) → (Nat → Int32) → Int32 → Int32 → Int32 → Option (Int32 × (Nat → Int32) × (Nat → Int32))} (h9 : h ≤ 9) (hab : (l + 1 = h ∧ x8 = 0) ∨ (l + 1 < h ∧ f_X5_above n entries (nI l) x4 = some x8)) : f_X5_grows_67 n k39 (nI h) nodes entries (nI l) x4 x6 t0 = f_X5_grows_90 n k39 (nI h) nodes entries (nI l) x4 x6 t0 x8 := by
  unfold f_X5_grows_67
  rcases hab with ⟨h1, rfl⟩ | ⟨h1, h2⟩
  · rw [n1, pk_sub (by omega), if_pos (by rw [show h - 1 = l by omega])]
  · rw [n1, pk_sub (by omega), if_neg (fun q => by have := (nI_eq (by omega) (by omega)).mp q; omega), h2, jbd_some]
theorem m_gr_none (R : RM h w e nodes entries) (hn : 100 ≤ n) {l k fu : Nat} {x8 : Int32} (hl : l < h) (hk : k < w l) (hw : w l < 60) (hpt : f_X5_partner n (nI h) entries (nI l) (nI k) = some (nI k)) (hab : (l + 1 = h ∧ x8 = 0) ∨ (l + 1 < h ∧ f_X5_above n entries (nI l) (nI k) = some x8)) : ∃ N E, f_X5_grows_39 n (fu + 1) (nI h) nodes entries (nI l) (nI k) 1 = f_X5_grows_203 n (f_X5_grows_39 n fu) (nI h) N E (nI l) (nI k) 1 x8 ∧ RM h (un w l (w l + 1)) (insE (ue e l k 3) l (k + 1) 2) N E := by
  have q1 := R.1
  have R1 := M_set R hl hk 3
  have R2 := M_ins R1 hl hw (show k + 1 ≤ w l by omega) 2
  refine ⟨_, _, ?_, R2⟩
  rw [f_X5_grows_39, if_neg (show ¬ (1 : Int32) = 0 by decide), hpt, jbd_some, if_pos (nI_le (Nat.le_refl _) (by omega)), m_67 R.1 hab]
  unfold f_X5_grows_90 f_X5_grows_110 f_X5_grows_115
  rw [if_pos rfl, if_pos rfl, n64, pk_mul, nI_add, jwr_n (by omega) (by omega), n1, nI_add, n2, n3, m_enters hn (by omega) ((R.2.1 l hl).1) (by omega) (by omega), jbd_some]
theorem m_gr_full (R : RM h w e nodes entries) (hn : 100 ≤ n) {l k q at_ fu : Nat} {x8 : Int32} (hl : l < h) (hk : k < w l) (hq : q < w l) (hqk : q ≠ k) (hat : at_ = if q < k then q else k) (hat2 : at_ + 1 < w l) (hw : w l < 60) (h4 : e l q = 4) (hpt : f_X5_partner n (nI h) entries (nI l) (nI k) = some (nI q)) (hab : (l + 1 = h ∧ x8 = 0) ∨ (l + 1 < h ∧ f_X5_above n entries (nI l) (nI k) = some x8)) : ∃ N E, f_X5_grows_39 n (fu + 1) (nI h) nodes entries (nI l) (nI k) 1 = f_X5_grows_203 n (f_X5_grows_39 n fu) (nI h) N E (nI l) (nI k) 1 x8 ∧ RM h (un w l (w l + 1)) (insE (ue (ue e l at_ 3) l (at_ + 1) 3) l (at_ + 2) 3) N E := by
  have q1 := R.1
  have R0 := M_set R hl (show at_ < w l by omega) 3
  have R1 := M_set R0 hl hat2 3
  have R2 := M_ins R1 hl hw (show at_ + 2 ≤ w l by omega) 3
  refine ⟨_, _, ?_, R2⟩
  have key : f_X5_grows_39 n (fu + 1) (nI h) nodes entries (nI l) (nI k) 1 = f_X5_grows_67 n (f_X5_grows_39 n fu) (nI h) nodes entries (nI l) (nI k) (nI q) (nI at_) := by
    rw [f_X5_grows_39, if_neg (show ¬ (1 : Int32) = 0 by decide), hpt, jbd_some]
    by_cases z : k ≤ q
    · rw [if_pos (nI_le z (by omega)), hat, if_neg (by omega)]
    · rw [if_neg (nI_ge (by omega) (by omega)), hat, if_pos (by omega)]
  rw [key, m_67 R.1 hab]
  unfold f_X5_grows_90 f_X5_grows_110 f_X5_grows_115
  rw [if_neg (fun z => hqk ((nI_eq (by omega) (by omega)).mp z)), m_many R hl hq, jbd_some, h4, if_pos (show nI 4 = 4 from rfl), if_neg (fun z => hqk ((nI_eq (by omega) (by omega)).mp z)), if_neg (show ¬ (1 : Int32) = 0 by decide), n64, pk_mul, nI_add, jwr_n (by omega) (by omega), n1, nI_add, show 64 * l + at_ + 1 = 64 * l + (at_ + 1) by omega, jwr_n (by omega) (by omega), n2, nI_add, n3, m_enters hn (by omega) ((R.2.1 l hl).1) (by omega) (by omega), jbd_some]
theorem m_gr_half (R : RM h w e nodes entries) (hn : 100 ≤ n) {l k q at_ fu : Nat} {x8 : Int32} (hl : l < h) (hk : k < w l) (hq : q < w l) (hqk : q ≠ k) (hat : at_ = if q < k then q else k) (hat2 : at_ + 1 < w l) (h4 : e l q < 4) (hb : e l at_ + e l (at_ + 1) < 1000) (hpt : f_X5_partner n (nI h) entries (nI l) (nI k) = some (nI q)) (hab : (l + 1 = h ∧ x8 = 0) ∨ (l + 1 < h ∧ f_X5_above n entries (nI l) (nI k) = some x8)) : ∃ E, f_X5_grows_39 n (fu + 1 + 1) (nI h) nodes entries (nI l) (nI k) 1 = some (nI h, nodes, E) ∧ RM h w (hvE e l at_) nodes E := by
  have q1 := R.1
  have q2 := (R.2.1 l hl).2
  obtain ⟨E, h1, h2⟩ := m_shares (n := n) R hl hat2 hb
  refine ⟨E, ?_, h2⟩
  have key : f_X5_grows_39 n (fu + 1 + 1) (nI h) nodes entries (nI l) (nI k) 1 = f_X5_grows_67 n (f_X5_grows_39 n (fu + 1)) (nI h) nodes entries (nI l) (nI k) (nI q) (nI at_) := by
    rw [f_X5_grows_39, if_neg (show ¬ (1 : Int32) = 0 by decide), hpt, jbd_some]
    by_cases z : k ≤ q
    · rw [if_pos (nI_le z (by omega)), hat, if_neg (by omega)]
    · rw [if_neg (nI_ge (by omega) (by omega)), hat, if_pos (by omega)]
  rw [key, m_67 R.1 hab]
  unfold f_X5_grows_90 f_X5_grows_115 f_X5_grows_203 f_X5_grows_292
  rw [if_neg (fun z => hqk ((nI_eq (by omega) (by omega)).mp z)), m_many R hl hq, jbd_some, if_neg (fun z => by have := (nI_eq (b := 4) (by omega) (by omega)).mp z; omega), if_neg (fun z => hqk ((nI_eq (by omega) (by omega)).mp z)), if_pos rfl, h1, jbd_some, if_pos rfl, f_X5_grows_39, if_pos rfl]
end MH
/-! the invariant goes on -/
theorem ig_rows {S h : Nat} {w : Nat → Nat} {e : Nat → Nat → Nat} {l k : Nat} (I : IG S h w e l k) {l' : Nat} (hl : l' < h) (q : l' ≠ l) : ROW (e l') (w l') := by
  have := I.2.2.2.1 l' hl
  rw [if_neg q] at this
  exact this
theorem ig_up {S h : Nat} {w : Nat → Nat} {e e1 : Nat → Nat → Nat} {l k p : Nat} (I : IG S h w e l k) (hl : l + 1 < h) (hp : p < w (l + 1)) (row1 : ROW (e1 l) (w l + 1)) (sum1 : sm (e1 l) (w l + 1) = sm (e l) (w l)) (oth : ∀ l', l' ≠ l → e1 l' = e l') : IG S h (un w l (w l + 1)) (ue e1 (l + 1) p (e1 (l + 1) p + 1)) (l + 1) p := by
  obtain ⟨I1, I2, ⟨C1, C2, C3⟩, I4, I5⟩ := id I
  have hr := ig_rows I hl (show l + 1 ≠ l by omega)
  obtain ⟨g1, g2⟩ := row_gain hr hp
  have e2 : e1 (l + 1) = e (l + 1) := oth _ (by omega)
  refine ⟨I1, I2, ⟨fun _ => ?_, fun l' hl' => ?_, fun _ => ?_⟩, fun l' hl' => ?_, fun h2 => ?_⟩
  · rw [un_n _ _ (by omega)]
    exact C1 (by omega)
  · by_cases q : l' = l
    · subst q
      rw [un_s, un_n _ _ (by omega), ue_same, e2, g2, C2 l' hl]
    · rw [un_n _ _ q]
      by_cases q2 : l' + 1 = l
      · subst q2
        rw [un_s, ue_ne _ _ _ (by omega), sum1]
        exact C2 l' hl'
      · rw [un_n _ _ q2, ue_ne _ _ _ (by omega), oth _ q2]
        exact C2 l' hl'
  · by_cases q : 0 = l
    · subst q
      rw [un_s, ue_ne _ _ _ (by omega), sum1]
      exact C3 (by omega)
    · rw [un_n _ _ q, ue_ne _ _ _ (by omega), oth _ q]
      exact C3 (by omega)
  · by_cases q : l' = l + 1
    · subst q
      rw [if_pos rfl, un_n _ _ (by omega), ue_same, e2]
      exact g1
    · rw [if_neg q, ue_ne _ _ _ q]
      by_cases q2 : l' = l
      · subst q2
        rw [un_s]
        exact row1
      · rw [un_n _ _ q2, oth _ q2]
        exact ig_rows I hl' q2
  · have h3 := I5 h2
    by_cases q : h - 1 = l + 1
    · rw [q, ue_same, e2]
      rw [q] at h3
      unfold un
      split
      · rename_i z; subst z; omega
      · exact h3
    · rw [ue_ne _ _ _ q, oth _ (by omega)]
      exact h3
theorem it_half {S h : Nat} {w : Nat → Nat} {e e1 : Nat → Nat → Nat} {l k : Nat} (I : IG S h w e l k) (hl : l + 1 < h) (row1 : ROW (e1 l) (w l)) (sum1 : sm (e1 l) (w l) = sm (e l) (w l)) (oth : ∀ l', l' ≠ l → e1 l' = e l') : IT S h w e1 := by
  obtain ⟨I1, I2, ⟨C1, C2, C3⟩, I4, I5⟩ := id I
  refine ⟨I1, by omega, ⟨C1, fun l' hl' => ?_, fun h0 => ?_⟩, fun l' hl' => ?_, fun h2 => ?_⟩
  · by_cases q : l' + 1 = l
    · subst q
      rw [sum1]
      exact C2 l' hl'
    · rw [oth _ q]
      exact C2 l' hl'
  · by_cases q : 0 = l
    · subst q
      rw [sum1]
      exact C3 h0
    · rw [oth _ q]
      exact C3 h0
  · by_cases q : l' = l
    · subst q; exact row1
    · rw [oth _ q]; exact ig_rows I hl' q
  · rw [oth _ (by omega)]
    exact I5 h2
theorem it_root {S h : Nat} {w : Nat → Nat} {e e1 : Nat → Nat → Nat} {l k : Nat} (I : IG S h w e l k) (hl : l + 1 = h) (row1 : ROW (e1 l) (w l + 1)) (sum1 : sm (e1 l) (w l + 1) = sm (e l) (w l)) (oth : ∀ l', l' ≠ l → e1 l' = e l') : IT S (h + 1) (un (un w l (w l + 1)) h 1) (ue e1 h 0 2) := by
  obtain ⟨I1, I2, ⟨C1, C2, C3⟩, I4, I5⟩ := id I
  have w1 : w l = 1 := by have := C1 (by omega); rw [show h - 1 = l by omega] at this; exact this
  refine ⟨I1, by omega, ⟨fun _ => ?_, fun l' hl' => ?_, fun _ => ?_⟩, fun l' hl' => ?_, fun h2 => ?_⟩
  · rw [Nat.add_sub_cancel, un_s]
  · by_cases q : l' + 1 = h
    · have q3 : l' = l := by omega
      subst q3
      subst q
      rw [un_s, ue_same, un_n _ _ (by omega), un_s, w1, sm_s, un_s]
      rfl
    · have a1 : un (un w l (w l + 1)) h 1 (l' + 1) = un w l (w l + 1) (l' + 1) := un_n _ _ q
      have a2 : un (un w l (w l + 1)) h 1 l' = un w l (w l + 1) l' := un_n _ _ (by omega)
      have a3 : un w l (w l + 1) l' = w l' := un_n _ _ (by omega)
      rw [a1, a2, a3, ue_ne _ _ _ q]
      by_cases q2 : l' + 1 = l
      · subst q2
        rw [un_s, sum1]
        exact C2 l' (by omega)
      · rw [un_n _ _ q2, oth _ q2]
        exact C2 l' (by omega)
  · rw [un_n _ _ (by omega), ue_ne _ _ _ (by omega)]
    by_cases q : 0 = l
    · subst q
      rw [un_s, sum1]
      exact C3 (by omega)
    · rw [un_n _ _ q, oth _ q]
      exact C3 (by omega)
  · by_cases q : l' = h
    · subst q
      rw [un_s, ue_same]
      refine ⟨fun k' hk' => ?_, fun k' hk' => by omega⟩
      rw [show k' = 0 by omega, un_s]
      omega
    · rw [un_n _ _ q, ue_ne _ _ _ q]
      by_cases q2 : l' = l
      · subst q2
        rw [un_s]
        exact row1
      · rw [un_n _ _ q2, oth _ q2]
        exact ig_rows I (by omega) q2
  · rw [Nat.add_sub_cancel, ue_same, un_s]
    omega
