/-! ===== the class's tree: writes ===== -/
section TE
variable {n h : Nat} {w : Nat → Nat} {e : Nat → Nat → Nat} {loads widths : Nat → Int32}
theorem u_hasNode {l k W : Nat} (hl : l < h) (h8 : h ≤ 8) (hw : widths l = nI W) (hW : W ≤ 60) (hk : k < W) : f_X3_hasNode n widths (nI h) (nI l) (nI k) = some (nI 1) := by
  unfold f_X3_hasNode
  simp (disch := omega) only [n0, n1, n8, nI_ltI, nI_leI, if_neg, jrd_n, hw]
theorem u_load {l k W : Nat} (hl : l < h) (h8 : h ≤ 8) (hw : widths l = nI W) (hW : W ≤ 60) (hk : k < W) : f_X3_load n loads widths (nI h) (nI l) (nI k) = some (loads (l * 60 + k)) := by
  unfold f_X3_load
  simp (disch := omega) only [u_hasNode hl h8 hw hW hk, jbd_some, n0, n60, n480, nI_eq, nI_add, pk_mul, nI_ltI, nI_leI, if_neg, jrd_n]
theorem u_setLoad {l k W : Nat} (hl : l < h) (h8 : h ≤ 8) (hw : widths l = nI W) (hW : W ≤ 60) (hk : k < W) (v : Int32) : f_X3_setLoad n loads widths (nI h) (nI l) (nI k) v = some (upd loads (l * 60 + k) v) := by
  unfold f_X3_setLoad
  simp (disch := omega) only [u_hasNode hl h8 hw hW hk, jbd_some, n0, n60, n480, nI_eq, nI_add, pk_mul, nI_ltI, nI_leI, if_neg, jwr_n]
theorem insA_0 (f : Nat → Int32) (b at_ : Nat) (v : Int32) : upd f (b + at_) v = insA f b at_ v at_ := by
  funext x
  by_cases h : x = b + at_
  · subst h
    rw [pk_us]
    unfold insA
    rw [if_pos rfl]
  · rw [pk_un h]
    unfold insA
    rw [if_neg h, if_neg (by omega)]
theorem insA_s (f : Nat → Int32) {b at_ j : Nat} (v : Int32) (hj : at_ < j) : insA (upd f (b + j) (f (b + (j - 1)))) b at_ v (j - 1) = insA f b at_ v j := by
  funext x
  unfold insA
  by_cases h1 : x = b + at_
  · rw [if_pos h1, if_pos h1]
  · rw [if_neg h1, if_neg h1]
    by_cases h2 : b + at_ < x ∧ x ≤ b + j
    · rw [if_pos h2]
      by_cases h3 : x = b + j
      · rw [if_neg (by omega), h3, pk_us, show b + (j - 1) = b + j - 1 by omega]
      · rw [if_pos (by omega), pk_un (by omega)]
    · rw [if_neg h2, if_neg (by omega), pk_un (by omega)]
theorem t_ins_loop {l at_ W : Nat} {v : Int32} (hl : l < h) (h8 : h ≤ 8) (hw : widths l = nI W) (hW : W ≤ 60) : ∀ d fu j (loads : Nat → Int32), j = at_ + d → d < fu → j < W → f_X3_insertNode_28 n (nI h) fu loads widths (nI l) (nI at_) v (nI j) = some (insA loads (l * 60) at_ v j, widths) := by
  intro d
  induction d with
  | zero =>
    intro fu j loads hj hf hjW
    obtain ⟨fu, rfl⟩ : ∃ z, fu = z + 1 := ⟨fu - 1, by omega⟩
    have : j = at_ := by omega
    subst this
    rw [f_X3_insertNode_28]
    simp (disch := omega) only [nI_leI, if_pos, u_setLoad hl h8 hw hW hjW, jbd_some]
    rw [insA_0]
  | succ d ih =>
    intro fu j loads hj hf hjW
    obtain ⟨fu, rfl⟩ : ∃ z, fu = z + 1 := ⟨fu - 1, by omega⟩
    rw [f_X3_insertNode_28]
    simp (disch := omega) only [nI_leI, if_neg, n1, pk_sub]
    rw [u_load hl h8 hw hW (show j - 1 < W by omega), jbd_some, u_setLoad hl h8 hw hW hjW, jbd_some, n_m1 (by omega), ih fu (j - 1) _ (by omega) (by omega) (by omega), insA_s _ _ (by omega)]
theorem t_insertNode {l at_ W : Nat} {v : Int32} (hn : 100 ≤ n) (hl : l < h) (h8 : h ≤ 8) (hw : widths l = nI W) (hW : W < 60) (hat : at_ ≤ W) : f_X3_insertNode n loads widths (nI h) (nI l) (nI at_) v = some (insA loads (l * 60) at_ v W, upd widths l (nI (W + 1))) := by
  have q1 : f_X3_width n widths (nI h) (nI l) = some (nI W) := by
    unfold f_X3_width
    simp (disch := omega) only [n0, n8, nI_ltI, nI_leI, if_neg, jrd_n, hw]
  unfold f_X3_insertNode
  simp (disch := omega) only [q1, jbd_some, n60, nI_ltI, if_pos, n1, nI_add, t_setWidth]
  exact t_ins_loop hl h8 (pk_us) (by omega) (W - at_) n W loads (by omega) (by omega) (by omega)
theorem delA_0 (f : Nat → Int32) {b j W : Nat} (h : W ≤ j + 1) : delA f b j W = f := by
  funext x
  unfold delA
  rw [if_neg (by omega)]
theorem delA_s (f : Nat → Int32) {b j W : Nat} (h : j + 1 < W) : delA (upd f (b + j) (f (b + (j + 1)))) b (j + 1) W = delA f b j W := by
  funext x
  unfold delA
  by_cases h1 : b + j ≤ x ∧ x + 1 < b + W
  · rw [if_pos h1]
    by_cases h2 : x = b + j
    · rw [if_neg (by omega), h2, pk_us, show b + (j + 1) = b + j + 1 by omega]
    · rw [if_pos (by omega), pk_un (by omega)]
  · rw [if_neg h1, if_neg (by omega), pk_un (by omega)]
theorem t_del_loop {l W : Nat} (hl : l < h) (h8 : h ≤ 8) (hw : widths l = nI W) (hW : W ≤ 60) (hW0 : 0 < W) : ∀ d fu j (loads : Nat → Int32), W = j + d + 1 → d < fu → f_X3_deleteNode_9 n (nI h) fu loads widths (nI l) (nI W) (nI j) = some (delA loads (l * 60) j W, upd widths l (nI (W - 1))) := by
  intro d
  induction d with
  | zero =>
    intro fu j loads hj hf
    obtain ⟨fu, rfl⟩ : ∃ z, fu = z + 1 := ⟨fu - 1, by omega⟩
    rw [f_X3_deleteNode_9]
    simp (disch := omega) only [n0, n1, pk_sub, nI_leI, if_pos, jmax_n]
    rw [show (if 0 < W - 1 then W - 1 else 0) = W - 1 by split <;> omega, t_setWidth (by omega), jbd_some, delA_0 _ (by omega)]
  | succ d ih =>
    intro fu j loads hj hf
    obtain ⟨fu, rfl⟩ : ∃ z, fu = z + 1 := ⟨fu - 1, by omega⟩
    rw [f_X3_deleteNode_9]
    simp (disch := omega) only [n1, pk_sub, nI_leI, if_neg, nI_add]
    rw [u_load hl h8 hw hW (show j + 1 < W by omega), jbd_some, u_setLoad hl h8 hw hW (show j < W by omega), jbd_some, ih fu (j + 1) _ (by omega) (by omega), delA_s _ (by omega)]
theorem t_deleteNode {l at_ W : Nat} (hn : 100 ≤ n) (hl : l < h) (h8 : h ≤ 8) (hw : widths l = nI W) (hW : W ≤ 60) (hat : at_ < W) : f_X3_deleteNode n loads widths (nI h) (nI l) (nI at_) = some (delA loads (l * 60) at_ W, upd widths l (nI (W - 1))) := by
  have q1 : f_X3_width n widths (nI h) (nI l) = some (nI W) := by
    unfold f_X3_width
    simp (disch := omega) only [n0, n8, nI_ltI, nI_leI, if_neg, jrd_n, hw]
  unfold f_X3_deleteNode
  rw [q1, jbd_some]
  exact t_del_loop hl h8 hw hW (by omega) (W - at_ - 1) n at_ loads (by omega) (by omega)
theorem R_set (R : RT h w e loads widths) {l k : Nat} (hl : l < h) (hk : k < w l) (v : Nat) : RT h w (ue e l k v) (upd loads (l * 60 + k) (nI v)) widths := by
  refine ⟨R.1, R.2.1, fun l' k' hl' hk' => ?_⟩
  have b1 := (R.2.1 l hl).2
  have b2 := (R.2.1 l' hl').2
  unfold ue
  by_cases q : l' = l ∧ k' = k
  · rw [if_pos q, q.1, q.2, pk_us]
  · rw [if_neg q, pk_un (by omega), R.2.2 l' k' hl' hk']
theorem R_ins (R : RT h w e loads widths) {l at_ : Nat} (hl : l < h) (hW : w l < 60) (hat : at_ ≤ w l) (v : Nat) : RT h (un w l (w l + 1)) (insE e l at_ v) (insA loads (l * 60) at_ (nI v) (w l)) (upd widths l (nI (w l + 1))) := by
  refine ⟨R.1, fun l' hl' => ?_, fun l' k' hl' hk' => ?_⟩
  · unfold un
    by_cases q : l' = l
    · subst q
      rw [if_pos rfl, pk_us]
      exact ⟨rfl, by omega⟩
    · rw [if_neg q, pk_un q]
      exact R.2.1 l' hl'
  · have b2 := (R.2.1 l' hl').2
    unfold insE insA
    unfold un at hk'
    by_cases q : l' = l
    · subst q
      rw [if_pos rfl] at hk' ⊢
      by_cases q1 : k' < at_
      · rw [if_pos q1, if_neg (by omega), if_neg (by omega), R.2.2 l' k' hl' (by omega)]
      · rw [if_neg q1]
        by_cases q2 : k' = at_
        · rw [if_pos q2, if_pos (by omega)]
        · rw [if_neg q2, if_neg (by omega), if_pos (by omega), show l' * 60 + k' - 1 = l' * 60 + (k' - 1) by omega, R.2.2 l' (k' - 1) hl' (by omega)]
    · rw [if_neg q] at hk' ⊢
      rw [if_neg (by omega), if_neg (by omega), R.2.2 l' k' hl' hk']
theorem R_del (R : RT h w e loads widths) {l at_ : Nat} (hl : l < h) (hat : at_ < w l) : RT h (un w l (w l - 1)) (delE e l at_) (delA loads (l * 60) at_ (w l)) (upd widths l (nI (w l - 1))) := by
  refine ⟨R.1, fun l' hl' => ?_, fun l' k' hl' hk' => ?_⟩
  · have b1 := (R.2.1 l' hl').2
    unfold un
    by_cases q : l' = l
    · subst q
      rw [if_pos rfl, pk_us]
      exact ⟨rfl, by omega⟩
    · rw [if_neg q, pk_un q]
      exact R.2.1 l' hl'
  · have b2 := (R.2.1 l' hl').2
    have b1 := (R.2.1 l hl).2
    unfold delE delA
    unfold un at hk'
    by_cases q : l' = l
    · subst q
      rw [if_pos rfl] at hk' ⊢
      by_cases q1 : k' < at_
      · rw [if_pos q1, if_neg (by omega), R.2.2 l' k' hl' (by omega)]
      · rw [if_neg q1, if_pos (by omega), show l' * 60 + k' + 1 = l' * 60 + (k' + 1) by omega, R.2.2 l' (k' + 1) hl' (by omega)]
    · rw [if_neg q] at hk' ⊢
      rw [if_neg (by omega), R.2.2 l' k' hl' hk']
/-- the entries of the nodes k and k + 1 divided anew -/
def hvE (e : Nat → Nat → Nat) (l k : Nat) : Nat → Nat → Nat := ue (ue e l k ((e l k + e l (k + 1) + 1) / 2)) l (k + 1) ((e l k + e l (k + 1)) / 2)
theorem t_halve (R : RT h w e loads widths) {l k : Nat} (hl : l < h) (hk : k + 1 < w l) (he : e l k + e l (k + 1) < 1000) : ∃ loads', f_X3_halve n loads widths (nI h) (nI l) (nI k) = some loads' ∧ RT h w (hvE e l k) loads' widths := by
  have R1 := R_set R hl (show k < w l by omega) ((e l k + e l (k + 1) + 1) / 2)
  have R2 := R_set R1 hl hk ((e l k + e l (k + 1)) / 2)
  refine ⟨_, ?_, R2⟩
  unfold f_X3_halve
  rw [t_load R hl (show k < w l by omega), jbd_some, n1, nI_add, t_load R hl hk, jbd_some, nI_add, nI_add, n2, j_div2 (by omega), j_div2 (by omega), t_setLoad R hl (show k < w l by omega), jbd_some, t_setLoad R1 hl hk, jbd_some]
end TE
