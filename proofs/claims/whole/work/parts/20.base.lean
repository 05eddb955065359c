/-! ===== the pure side: numbers ===== -/
theorem n0 : (0 : Int32) = nI 0 := rfl
theorem n1 : (1 : Int32) = nI 1 := rfl
theorem n2 : (2 : Int32) = nI 2 := rfl
theorem n3 : (3 : Int32) = nI 3 := rfl
theorem n4 : (4 : Int32) = nI 4 := rfl
theorem n8 : (8 : Int32) = nI 8 := rfl
theorem n16 : (16 : Int32) = nI 16 := rfl
theorem n24 : (24 : Int32) = nI 24 := rfl
theorem n60 : (60 : Int32) = nI 60 := rfl
theorem n64 : (64 : Int32) = nI 64 := rfl
theorem n100 : (100 : Int32) = nI 100 := rfl
theorem n128 : (128 : Int32) = nI 128 := rfl
theorem n255 : (255 : Int32) = nI 255 := rfl
theorem n256 : (256 : Int32) = nI 256 := rfl
theorem n480 : (480 : Int32) = nI 480 := rfl
theorem jm1_int : jm1.toInt = -1 := by decide
theorem jm1_lt {a : Nat} (ha : a < 2 ^ 31) : jm1 < nI a := by
  rw [Int32.lt_iff_toInt_lt, nI_toInt ha, jm1_int]; omega
theorem jm1_le {a : Nat} (ha : a < 2 ^ 31) : jm1 ≤ nI a := by
  rw [Int32.le_iff_toInt_le, nI_toInt ha, jm1_int]; omega
theorem jm1_nge {a : Nat} (ha : a < 2 ^ 31) : ¬ nI a ≤ jm1 := by
  rw [Int32.le_iff_toInt_le, nI_toInt ha, jm1_int]; omega
theorem jm1_neg : jm1 < nI 0 := by decide
theorem n_m1 {j : Nat} (h : 0 < j) : nI j + jm1 = nI (j - 1) := by
  show nI j + (-1) = nI (j - 1)
  obtain ⟨k, rfl⟩ : ∃ k, j = k + 1 := ⟨j - 1, by omega⟩
  rw [pk_m1, Nat.add_sub_cancel]
theorem j_div2 {a : Nat} (ha : a < 2 ^ 31) : nI a / nI 2 = nI (a / 2) := pk_div ha (by omega) (by omega)
theorem j_div4 {a : Nat} (ha : a < 2 ^ 31) : nI a / nI 4 = nI (a / 4) := pk_div ha (by omega) (by omega)
theorem jmin_n {a b : Nat} (ha : a < 2 ^ 31) (hb : b < 2 ^ 31) : jmin (nI a) (nI b) = nI (if b < a then b else a) := by
  unfold jmin
  by_cases h : b < a
  · rw [if_pos ((nI_ltI hb ha).mpr h), if_pos h]
  · rw [if_neg (fun q => h ((nI_ltI hb ha).mp q)), if_neg h]
theorem jmax_n {a b : Nat} (ha : a < 2 ^ 31) (hb : b < 2 ^ 31) : jmax (nI a) (nI b) = nI (if a < b then b else a) := by
  unfold jmax
  by_cases h : a < b
  · rw [if_pos ((nI_ltI ha hb).mpr h), if_pos h]
  · rw [if_neg (fun q => h ((nI_ltI ha hb).mp q)), if_neg h]
theorem jrd_n {α : Type} {f : Nat → Int32} {n i : Nat} {k : Int32 → Option α} (h : i < n) (hn : n < 2 ^ 31) : jrd f n (nI i) k = k (f i) := by
  unfold jrd
  rw [if_neg (vp_in_nI h hn), nI_clamp (by omega)]
theorem jwr_n {α : Type} {f : Nat → Int32} {n i : Nat} {v : Int32} {k : (Nat → Int32) → Option α} (h : i < n) (hn : n < 2 ^ 31) : jwr f n (nI i) v k = k (upd f i v) := by
  unfold jwr
  rw [if_neg (vp_in_nI h hn), nI_clamp (by omega)]
theorem jbd_some {α β : Type} {a : α} {k : α → Option β} : jbd (some a) k = k a := rfl
/-! updates -/
def un (f : Nat → Nat) (k v : Nat) : Nat → Nat := fun j => if j = k then v else f j
def ue (e : Nat → Nat → Nat) (l k v : Nat) : Nat → Nat → Nat := fun l' k' => if l' = l ∧ k' = k then v else e l' k'
/-- v comes in at place b + at of the row of wd cells from b on -/
def insA (f : Nat → Int32) (b at_ : Nat) (v : Int32) (wd : Nat) : Nat → Int32 := fun j => if j = b + at_ then v else if b + at_ < j ∧ j ≤ b + wd then f (j - 1) else f j
def delA (f : Nat → Int32) (b at_ wd : Nat) : Nat → Int32 := fun j => if b + at_ ≤ j ∧ j + 1 < b + wd then f (j + 1) else f j
def insE (e : Nat → Nat → Nat) (l at_ v : Nat) : Nat → Nat → Nat := fun l' k => if l' = l then (if k < at_ then e l k else if k = at_ then v else e l (k - 1)) else e l' k
def delE (e : Nat → Nat → Nat) (l at_ : Nat) : Nat → Nat → Nat := fun l' k => if l' = l then (if k < at_ then e l k else e l (k + 1)) else e l' k
def sm (f : Nat → Nat) : Nat → Nat
  | 0 => 0
  | k + 1 => sm f k + f k
theorem sm_le (f : Nat → Nat) {a b : Nat} (h : a ≤ b) : sm f a ≤ sm f b := by
  induction b with
  | zero => rw [Nat.le_zero.mp h]; exact Nat.le_refl _
  | succ b ih =>
    rcases Nat.lt_or_ge a (b + 1) with q | q
    · exact Nat.le_trans (ih (by omega)) (Nat.le_add_right _ _)
    · rw [show a = b + 1 by omega]; exact Nat.le_refl _
theorem sm_cong {f g : Nat → Nat} : ∀ {n : Nat}, (∀ k, k < n → f k = g k) → sm f n = sm g n
  | 0, _ => rfl
  | n + 1, h => by rw [sm, sm, sm_cong (fun k hk => h k (by omega)), h n (by omega)]
/-! ===== the tree of the class ===== -/
def RT (h : Nat) (w : Nat → Nat) (e : Nat → Nat → Nat) (loads widths : Nat → Int32) : Prop := h ≤ 8 ∧ (∀ l, l < h → widths l = nI (w l) ∧ w l ≤ 60) ∧ ∀ l k, l < h → k < w l → loads (l * 60 + k) = nI (e l k)
section TC
variable {n h : Nat} {w : Nat → Nat} {e : Nat → Nat → Nat} {loads widths : Nat → Int32}
theorem t_width (R : RT h w e loads widths) {l : Nat} (hl : l < h) : f_X3_width n widths (nI h) (nI l) = some (nI (w l)) := by
  obtain ⟨R1, R2, R3⟩ := R
  have q := (R2 l hl).1
  unfold f_X3_width
  simp (disch := omega) only [n0, n8, nI_ltI, nI_leI, if_neg, jrd_n, q]
theorem t_width0 {x : Int32} (hx : x.toInt < 0 ∨ (h : Int) ≤ x.toInt) (h8 : h ≤ 8) : f_X3_width n widths (nI h) x = some 0 := by
  unfold f_X3_width
  by_cases q : x < 0
  · rw [if_pos q]
  · rw [if_neg q, if_pos]
    rw [Int32.lt_iff_toInt_lt] at q
    rw [Int32.le_iff_toInt_le, nI_toInt (by omega)]
    have : (0 : Int32).toInt = 0 := rfl
    omega
theorem t_hasNode (R : RT h w e loads widths) {l k : Nat} (hl : l < h) (hk : k < w l) : f_X3_hasNode n widths (nI h) (nI l) (nI k) = some (nI 1) := by
  obtain ⟨R1, R2, R3⟩ := R
  have q := (R2 l hl).1
  have q2 := (R2 l hl).2
  unfold f_X3_hasNode
  simp (disch := omega) only [n0, n1, n8, nI_ltI, nI_leI, if_neg, jrd_n, q]
theorem t_load (R : RT h w e loads widths) {l k : Nat} (hl : l < h) (hk : k < w l) : f_X3_load n loads widths (nI h) (nI l) (nI k) = some (nI (e l k)) := by
  have q3 := R.2.2 l k hl hk
  have q2 := (R.2.1 l hl).2
  have q1 := R.1
  unfold f_X3_load
  simp (disch := omega) only [t_hasNode R hl hk, jbd_some, n0, n60, n480, nI_eq, nI_add, pk_mul, nI_ltI, nI_leI, if_neg, jrd_n, q3]
theorem t_setLoad (R : RT h w e loads widths) {l k : Nat} (hl : l < h) (hk : k < w l) (v : Int32) : f_X3_setLoad n loads widths (nI h) (nI l) (nI k) v = some (upd loads (l * 60 + k) v) := by
  have q2 := (R.2.1 l hl).2
  have q1 := R.1
  unfold f_X3_setLoad
  simp (disch := omega) only [t_hasNode R hl hk, jbd_some, n0, n60, n480, nI_eq, nI_add, pk_mul, nI_ltI, nI_leI, if_neg, jwr_n]
end TC
