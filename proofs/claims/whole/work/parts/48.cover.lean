def mn (a b : Nat) : Nat := if b < a then b else a
def mx (a b : Nat) : Nat := if a < b then b else a
def cvf (s t : Nat → Nat) : Nat → Nat := four (mn (s 0) (t 0)) (mn (s 1) (t 1)) (mx (s 2) (t 2)) (mx (s 3) (t 3))
def EE : Nat → Nat := four 255 255 0 0
def fl (g : Nat → Nat → Nat) : Nat → Nat → (Nat → Nat) → Nat → Nat
  | 0, _, s => s
  | d + 1, j, s => fl g d (j + 1) (cvf s (g j))
theorem cv0 (s t : Nat → Nat) : cvf s t 0 = mn (s 0) (t 0) := rfl
theorem cv1 (s t : Nat → Nat) : cvf s t 1 = mn (s 1) (t 1) := rfl
theorem cv2 (s t : Nat → Nat) : cvf s t 2 = mx (s 2) (t 2) := rfl
theorem cv3 (s t : Nat → Nat) : cvf s t 3 = mx (s 3) (t 3) := rfl
def loA (s : Nat → Nat) : Prop := s 0 < 256 ∧ s 1 < 256 ∧ s 2 < 256 ∧ s 3 < 256
theorem cv_lo {s t : Nat → Nat} (hs : loA s) (ht : loA t) : loA (cvf s t) := by
  unfold loA at *
  rw [cv0, cv1, cv2, cv3]
  unfold mn mx
  refine ⟨?_, ?_, ?_, ?_⟩ <;> split <;> omega
theorem ok_lo {s : Nat → Nat} (h : okA s) : loA s := ⟨h.1 0 (by omega), h.1 1 (by omega), h.1 2 (by omega), h.1 3 (by omega)⟩
theorem lo_ok {s : Nat → Nat} (h : loA s) (a : s 0 ≤ s 2) (b : s 1 ≤ s 3) : okA s := by
  refine ⟨fun j hj => ?_, a, b⟩
  have c : j = 0 ∨ j = 1 ∨ j = 2 ∨ j = 3 := by omega
  rcases c with rfl | rfl | rfl | rfl
  · exact h.1
  · exact h.2.1
  · exact h.2.2.1
  · exact h.2.2.2
theorem cv_ok {s t : Nat → Nat} (hs : okA s) (ht : okA t) : okA (cvf s t) := by
  have a := hs.2
  have b := ht.2
  refine lo_ok (cv_lo (ok_lo hs) (ok_lo ht)) ?_ ?_
  · rw [cv0, cv2]
    unfold mn mx
    split <;> split <;> omega
  · rw [cv1, cv3]
    unfold mn mx
    split <;> split <;> omega
theorem cv_E {s : Nat → Nat} (h : okA s) : cvf EE s 0 = s 0 ∧ cvf EE s 1 = s 1 ∧ cvf EE s 2 = s 2 ∧ cvf EE s 3 = s 3 := by
  have a := ok_lo h
  unfold loA at a
  rw [cv0, cv1, cv2, cv3]
  show mn 255 (s 0) = s 0 ∧ mn 255 (s 1) = s 1 ∧ mx 0 (s 2) = s 2 ∧ mx 0 (s 3) = s 3
  unfold mn mx
  refine ⟨?_, ?_, ?_, ?_⟩ <;> split <;> omega
theorem ar_cg {s t : Nat → Nat} (h : s 0 = t 0 ∧ s 1 = t 1 ∧ s 2 = t 2 ∧ s 3 = t 3) : ar s = ar t := by
  unfold ar
  rw [h.1, h.2.1, h.2.2.1, h.2.2.2]
theorem fl_ok {g : Nat → Nat → Nat} : ∀ d j {s : Nat → Nat}, okA s → (∀ i, j ≤ i → i < j + d → okA (g i)) → okA (fl g d j s)
  | 0, _, _, h, _ => h
  | d + 1, j, _, h, hg => fl_ok d (j + 1) (cv_ok h (hg j (by omega) (by omega))) (fun i a b => hg i (by omega) (by omega))
section
variable {n N S : Nat} {sd : Nat → Nat → Nat} {th : Nat → Bool} {od : Nat → Nat} {areas keys there order msides mkey misThere morder : Nat → Int32}
theorem c_around {s t : Nat → Nat} (hs : okA s) (ht : okA t) : f_X0_around n (ar s) (ar t) = some (ar (cvf s t)) := by
  have a := ok_lo hs
  have b := ok_lo ht
  have c := a_of (n := n) (cv_ok hs ht)
  unfold loA at a b
  rw [cv0, cv1, cv2, cv3] at c
  unfold mn mx at c
  unfold f_X0_around
  rw [a_side0 hs, a_side1 hs, a_side2 hs, a_side3 hs]
  simp only [a_side0 ht, a_side1 ht, a_side2 ht, a_side3 ht, jbd_some]
  rw [jmin_n (by omega) (by omega), jmin_n (by omega) (by omega), jmax_n (by omega) (by omega), jmax_n (by omega) (by omega), c, jbd_some]
theorem c_cov_loop (R : RST N S sd th od areas keys there order msides mkey misThere morder) {loads widths : Nat → Int32} {height : Int32} {hi : Nat} (hh : hi ≤ S) : ∀ d fu j (s : Nat → Nat), hi = j + d → d < fu → okA s → f_X4_coverOf_38 n areas order (nI S) loads widths height fu (nI hi) (ar s) (nI j) = some (ar (fl (fun i => sd (od i)) d j s)) := by
  have hS := R.hS
  intro d
  induction d with
  | zero =>
    intro fu j s hj hf hs
    obtain ⟨fu, rfl⟩ : ∃ q, fu = q + 1 := ⟨fu - 1, by omega⟩
    rw [f_X4_coverOf_38, if_pos (nI_le (by omega) (by omega))]
    rfl
  | succ d ih =>
    intro fu j s hj hf hs
    obtain ⟨fu, rfl⟩ : ∃ q, fu = q + 1 := ⟨fu - 1, by omega⟩
    have ok := R.ok _ (R.odN j (by omega)).1
    rw [f_X4_coverOf_38, if_neg (nI_ge (by omega) (by omega)), r_areaAt R (by omega), jbd_some, c_around hs ok, jbd_some, x_1]
    exact ih fu (j + 1) _ (by omega) (by omega) (cv_ok hs ok)
theorem m_cov_79 (R : RST N S sd th od areas keys there order msides mkey misThere morder) {me : Nat → Int32} {lo : Int32} {hi : Nat} (hh : hi ≤ S) : ∀ d fu j (s : Nat → Nat), hi = j + d → d < fu → loA s → f_X5_covers_79 n msides morder me fu (nI (s 0)) (nI (s 1)) (nI (s 2)) (nI (s 3)) lo (nI hi) (nI j) = some (nI (fl (fun i => sd (od i)) d j s 0), nI (fl (fun i => sd (od i)) d j s 1), nI (fl (fun i => sd (od i)) d j s 2), nI (fl (fun i => sd (od i)) d j s 3), lo, nI hi) := by
  have hS := R.hS
  intro d
  induction d with
  | zero =>
    intro fu j s hj hf hs
    obtain ⟨fu, rfl⟩ : ∃ q, fu = q + 1 := ⟨fu - 1, by omega⟩
    rw [f_X5_covers_79, if_pos (nI_le (by omega) (by omega))]
    rfl
  | succ d ih =>
    intro fu j s hj hf hs
    obtain ⟨fu, rfl⟩ : ∃ q, fu = q + 1 := ⟨fu - 1, by omega⟩
    have oN := (R.odN j (by omega)).1
    have ok := ok_lo (R.ok _ oN)
    have st := ih fu (j + 1) (cvf s (sd (od j))) (by omega) (by omega) (cv_lo hs ok)
    unfold loA at hs ok
    have k3 : f_X5_covers_198 n msides morder me (f_X5_covers_79 n msides morder me fu) (nI (cvf s (sd (od j)) 0)) (nI (cvf s (sd (od j)) 1)) (nI (s 2)) (nI (s 3)) lo (nI hi) (nI j) (nI (4 * od j)) (nI (cvf s (sd (od j)) 2)) = some (nI (fl (fun i => sd (od i)) (d + 1) j s 0), nI (fl (fun i => sd (od i)) (d + 1) j s 1), nI (fl (fun i => sd (od i)) (d + 1) j s 2), nI (fl (fun i => sd (od i)) (d + 1) j s 3), lo, nI hi) := by
      unfold f_X5_covers_198 f_X5_covers_234
      simp only [x_3, x_1, m_sideJ R oN (show 3 < 4 by omega)]
      rw [cv3] at st
      unfold mx at st
      by_cases z : sd (od j) 3 ≤ s 3
      · rw [if_pos (nI_le z (by omega))]
        rw [if_neg (show ¬ s 3 < sd (od j) 3 by omega)] at st
        exact st
      · rw [if_neg (nI_ge (by omega) (by omega))]
        rw [if_pos (show s 3 < sd (od j) 3 by omega)] at st
        exact st
    have k2 : f_X5_covers_162 n msides morder me (f_X5_covers_79 n msides morder me fu) (nI (cvf s (sd (od j)) 0)) (nI (s 1)) (nI (s 2)) (nI (s 3)) lo (nI hi) (nI j) (nI (4 * od j)) (nI (cvf s (sd (od j)) 1)) = some (nI (fl (fun i => sd (od i)) (d + 1) j s 0), nI (fl (fun i => sd (od i)) (d + 1) j s 1), nI (fl (fun i => sd (od i)) (d + 1) j s 2), nI (fl (fun i => sd (od i)) (d + 1) j s 3), lo, nI hi) := by
      unfold f_X5_covers_162
      simp only [x_2, m_sideJ R oN (show 2 < 4 by omega)]
      rw [cv2] at k3
      unfold mx at k3
      by_cases z : sd (od j) 2 ≤ s 2
      · rw [if_pos (nI_le z (by omega))]
        rw [if_neg (show ¬ s 2 < sd (od j) 2 by omega)] at k3
        exact k3
      · rw [if_neg (nI_ge (by omega) (by omega))]
        rw [if_pos (show s 2 < sd (od j) 2 by omega)] at k3
        exact k3
    have k1 : f_X5_covers_126 n msides morder me (f_X5_covers_79 n msides morder me fu) (nI (s 0)) (nI (s 1)) (nI (s 2)) (nI (s 3)) lo (nI hi) (nI j) (nI (4 * od j)) (nI (cvf s (sd (od j)) 0)) = some (nI (fl (fun i => sd (od i)) (d + 1) j s 0), nI (fl (fun i => sd (od i)) (d + 1) j s 1), nI (fl (fun i => sd (od i)) (d + 1) j s 2), nI (fl (fun i => sd (od i)) (d + 1) j s 3), lo, nI hi) := by
      unfold f_X5_covers_126
      simp only [x_1, m_sideJ R oN (show 1 < 4 by omega)]
      rw [cv1] at k2
      unfold mn at k2
      by_cases z : s 1 ≤ sd (od j) 1
      · rw [if_pos (nI_le z (by omega))]
        rw [if_neg (show ¬ sd (od j) 1 < s 1 by omega)] at k2
        exact k2
      · rw [if_neg (nI_ge (by omega) (by omega))]
        rw [if_pos (show sd (od j) 1 < s 1 by omega)] at k2
        exact k2
    rw [f_X5_covers_79, if_neg (nI_ge (by omega) (by omega)), jrd_n (by omega) (by omega), (R.ord j (by omega)).2]
    simp only [x_4, m_side0 R oN]
    rw [cv0] at k1
    unfold mn at k1
    by_cases z : s 0 ≤ sd (od j) 0
    · rw [if_pos (nI_le z (by omega))]
      rw [if_neg (show ¬ sd (od j) 0 < s 0 by omega)] at k1
      exact k1
    · rw [if_neg (nI_ge (by omega) (by omega))]
      rw [if_pos (show sd (od j) 0 < s 0 by omega)] at k1
      exact k1
end
