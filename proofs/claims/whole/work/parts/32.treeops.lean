section
variable {n h S : Nat} {w : Nat → Nat} {e : Nat → Nat → Nat} {loads widths nodes entries : Nat → Int32}
theorem it_leaf (I : IT S h w e) (h0 : 0 < h) {i : Nat} (hi : i ≤ S) : ∃ p, p < w 0 ∧ sm (e 0) p ≤ i ∧ (i < sm (e 0) (p + 1) ∨ p + 1 = w 0) ∧ (i < S → i < sm (e 0) (p + 1)) := by
  obtain ⟨I1, I2, C, I4, I5⟩ := id I
  have s := C.2.2 h0
  by_cases q : i < S
  · obtain ⟨p, a, b, c⟩ := ex_p (e 0) (x := i) (w := w 0) (by omega)
    exact ⟨p, a, b, Or.inl c, fun _ => c⟩
  · have wp := w_pos C (fun l k hl hk => ((I4 l hl).1 k hk).1) (h - 1) 0 (by omega)
    have m := sm_le (e 0) (show w 0 - 1 ≤ w 0 by omega)
    exact ⟨w 0 - 1, by omega, by omega, Or.inr (by omega), fun z => by omega⟩
theorem it_ig (I : IT S h w e) (h0 : 0 < h) (hS : S < 60) {p : Nat} (hp : p < w 0) : IG (S + 1) h w (ue e 0 p (e 0 p + 1)) 0 p := by
  obtain ⟨I1, I2, ⟨C1, C2, C3⟩, I4, I5⟩ := id I
  obtain ⟨g1, g2⟩ := row_gain (I4 0 h0) hp
  refine ⟨by omega, by omega, ⟨C1, fun l hl => ?_, fun _ => ?_⟩, fun l hl => ?_, fun h2 => ?_⟩
  · rw [ue_ne _ _ _ (by omega)]
    exact C2 l hl
  · rw [ue_same, g2, C3 h0]
  · by_cases q : l = 0
    · subst q
      rw [if_pos rfl, ue_same]
      exact g1
    · rw [if_neg q, ue_ne _ _ _ q]
      exact I4 l hl
  · rw [ue_ne _ _ _ (by omega)]
    exact I5 h2
theorem it_is (I : IT S h w e) (h0 : 0 < h) {p : Nat} (hp : p < w 0) : IS (S - 1) h w (ue e 0 p (e 0 p - 1)) 0 p := by
  obtain ⟨I1, I2, ⟨C1, C2, C3⟩, I4, I5⟩ := id I
  obtain ⟨g1, g2⟩ := row_loss (I4 0 h0) hp
  have s := C3 h0
  refine ⟨by omega, by omega, ⟨C1, fun l hl => ?_, fun _ => ?_⟩, fun l hl => ?_, fun h2 => ?_⟩
  · rw [ue_ne _ _ _ (by omega)]
    exact C2 l hl
  · rw [ue_same]
    omega
  · by_cases q : l = 0
    · subst q
      rw [if_pos rfl, ue_same]
      exact g1
    · rw [if_neg q, ue_ne _ _ _ q]
      exact I4 l hl
  · rw [ue_ne _ _ _ (by omega)]
    have := I5 h2
    exact ⟨by omega, fun _ => this⟩
theorem it_sum (I : IT S h w e) {l : Nat} (hl : l < h) : sm (e l) (w l) ≤ 60 := by
  obtain ⟨I1, I2, C, I4, I5⟩ := id I
  have b := low_w I1 C (fun l hl => IT.low I hl) I5
  cases l with
  | zero => rw [C.2.2 (by omega)]; exact I1
  | succ m => rw [C.2.1 m hl]; have := b.2 m (by omega); omega
theorem grow_all (hn : 100 ≤ n) (R : RT h w e loads widths) (M : RM h w e nodes entries) (I : IT S h w e) (hS : S < 60) {i : Nat} (hi : i ≤ S) : ∃ h' w' e' L W N E, f_X3_grow n loads widths (nI h) (nI i) = some (L, W, nI h') ∧ (∃ p : Nat, f_X5_leafFor n (nI h) nodes entries (nI i) = some (nI p) ∧ (0 < h → f_X5_grows n (nI h) nodes entries 0 (nI p) = some (nI h', N, E)) ∧ (h = 0 → h' = 1 ∧ N = upd nodes 0 1 ∧ E = upd entries 0 1)) ∧ RT h' w' e' L W ∧ RM h' w' e' N E ∧ IT (S + 1) h' w' e' := by
  by_cases h0 : h = 0
  · subst h0
    have S0 := I.2.1.1 rfl
    subst S0
    have R1 := T_root R (by omega) 1
    have M1 := M_root M (by omega) 1
    refine ⟨1, _, _, _, _, _, _, ?_, ⟨0, m_leafFor0 hn _, fun z => by omega, fun _ => ⟨rfl, rfl, rfl⟩⟩, R1, M1, ?_⟩
    · unfold f_X3_grow
      rw [if_pos (show nI 0 = 0 from rfl), t_addRoot (by omega), jbd_some]
      rfl
    · refine ⟨by omega, by omega, ⟨fun _ => ?_, fun l z => by omega, fun _ => ?_⟩, fun l hl => ?_, fun z => by omega⟩
      · exact un_s _ _ _
      · rw [un_s, ue_same, sm_s, un_s]
        rfl
      · have : l = 0 := by omega
        subst this
        rw [un_s, ue_same]
        refine ⟨fun k hk => ?_, fun k hk => by omega⟩
        have : k = 0 := by omega
        subst this
        rw [un_s]
        omega
  · have hp0 : 0 < h := by omega
    obtain ⟨p, p1, p2, p3, _⟩ := it_leaf I hp0 hi
    have s60 := it_sum I hp0
    have e4 := (I.2.2.2.1 0 hp0).1 p p1
    have R1 := R_set R hp0 p1 (e 0 p + 1)
    have M1 := M_set M hp0 p1 (e 0 p + 1)
    have w60 := (R.2.1 0 hp0).2
    have h9 := R.1
    obtain ⟨h', w', e', L, W, N, E, a, b, c, d, f⟩ := grow_sim hn (h - 1) (l := 0) n n (by omega) (by omega) (by omega) R1 M1 (it_ig I hp0 hS p1) p1
    refine ⟨h', w', e', L, W, N, E, ?_, ⟨p, m_leafFor M hn hp0 p1 (by omega) p2 (by omega) p3, fun _ => ?_, fun z => by omega⟩, c, d, f⟩
    · unfold f_X3_grow
      rw [if_neg (show ¬ nI h = 0 by rw [n0, nI_eq (by omega) (by omega)]; omega), n0, t_holder R hn hp0 p1 (by omega) p2 (by omega) p3, jbd_some, t_load R hp0 p1, jbd_some, n1, nI_add, t_setLoad R hp0 p1, jbd_some, a]
    · unfold f_X5_grows f_X5_grows_37
      have r := M.2.2 0 p hp0 p1
      rw [n0, n64, pk_mul, nI_add, jrd_n (by omega) (by omega), r, n1, nI_add, jwr_n (by omega) (by omega), m_many M1 hp0 p1, jbd_some, ue_at]
      rw [ue_at] at b
      by_cases q : e 0 p + 1 ≤ 4
      · rw [n4, if_pos (nI_le q (by omega))]
        rw [flag5_lo q] at b
        exact b
      · rw [n4, if_neg (nI_ge (by omega) (by omega))]
        rw [flag5_hi (by omega)] at b
        exact b
theorem shrink_all (hn : 100 ≤ n) (R : RT h w e loads widths) (M : RM h w e nodes entries) (I : IT S h w e) {i : Nat} (hi : i < S) : ∃ h' w' e' L W N E, f_X3_shrink n loads widths (nI h) (nI i) = some (L, W, nI h') ∧ (∃ p : Nat, f_X5_leafFor n (nI h) nodes entries (nI i) = some (nI p) ∧ f_X5_shrinks n (nI (S - 1)) (nI h) nodes entries (nI p) = some (nI h', N, E)) ∧ RT h' w' e' L W ∧ RM h' w' e' N E ∧ IT (S - 1) h' w' e' := by
  have hp0 : 0 < h := by have := I.2.1; omega
  obtain ⟨p, p1, p2, p3, _⟩ := it_leaf I hp0 (show i ≤ S by omega)
  have s60 := it_sum I hp0
  have S60 := I.1
  have e4 := (I.2.2.2.1 0 hp0).1 p p1
  have R1 := R_set R hp0 p1 (e 0 p - 1)
  have M1 := M_set M hp0 p1 (e 0 p - 1)
  have w60 := (R.2.1 0 hp0).2
  have h9 := R.1
  obtain ⟨h', w', e', L, W, N, E, a, b, c, d, f⟩ := shrink_sim hn (h - 1) (l := 0) n n (by omega) (by omega) (by omega) R1 M1 (it_is I hp0 p1) p1
  refine ⟨h', w', e', L, W, N, E, ?_, ⟨p, m_leafFor M hn hp0 p1 (by omega) p2 (by omega) p3, ?_⟩, c, d, f⟩
  · unfold f_X3_shrink
    rw [n0, t_holder R hn hp0 p1 (by omega) p2 (by omega) p3, jbd_some, t_load R hp0 p1, jbd_some, n1, pk_sub (by omega), t_setLoad R hp0 p1, jbd_some]
    exact a
  · unfold f_X5_shrinks f_X5_shrinks_38 f_X5_shrinks_39
    have r := M.2.2 0 p hp0 p1
    rw [Nat.mul_zero, Nat.zero_add] at r M1
    rw [ue_at] at b
    have e0 : f_X5_many n (upd entries p (nI (e 0 p - 1))) (nI 0) (nI p) = some (nI (e 0 p - 1)) := by rw [m_many M1 hp0 p1, ue_at]
    rw [jrd_n (by omega) (by omega), r, j_pred (by omega), jwr_n (by omega) (by omega), j_pred (by omega)]
    by_cases q : h - 1 ≤ 0
    · rw [n0, if_pos (nI_le q (by omega))]
      rw [flagS_0 (Or.inl (by omega))] at b
      rw [Nat.mul_zero, Nat.zero_add] at b
      exact b
    · rw [n0, if_neg (nI_ge (by omega) (by omega)), e0, jbd_some]
      by_cases q2 : 2 ≤ e 0 p - 1
      · rw [n2, if_pos (nI_le q2 (by omega))]
        rw [flagS_0 (Or.inr q2)] at b
        rw [Nat.mul_zero, Nat.zero_add] at b
        exact b
      · rw [n2, if_neg (nI_ge (by omega) (by omega))]
        rw [flagS_1 (by omega) (by omega)] at b
        rw [Nat.mul_zero, Nat.zero_add] at b
        exact b
end
