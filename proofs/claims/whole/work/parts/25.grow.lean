/-! ===== growing: one level ===== -/
section TG
variable {n h : Nat} {w : Nat → Nat} {e : Nat → Nat → Nat} {loads widths : Nat → Int32}
theorem t_rel_none (R : RT h w e loads widths) (hn : 100 ≤ n) {l k : Nat} {x : Int32} (hl : l < h) (hk : k < w l) (hw : w l < 60) (hpt : f_X3_partner n loads widths (nI h) (nI l) (nI k) x = some jm1) : ∃ L W, f_X3_relieve n loads widths (nI h) (nI l) (nI k) x = some (1, L, W) ∧ RT h (un w l (w l + 1)) (insE (ue e l k 3) l (k + 1) 2) L W := by
  have R1 := R_set R hl hk 3
  have R2 := R_ins R1 hl hw (show k + 1 ≤ w l by omega) 2
  refine ⟨_, _, ?_, R2⟩
  unfold f_X3_relieve
  rw [hpt, jbd_some, if_neg (by decide), n3, t_setLoad R hl hk, jbd_some, n1, nI_add, n2, t_insertNode hn hl R.1 ((R.2.1 l hl).1) hw (by omega), jbd_some]
theorem t_rel_full (R : RT h w e loads widths) (hn : 100 ≤ n) {l k q at_ : Nat} {x : Int32} (hl : l < h) (hk : k < w l) (hq : q < w l) (hat : at_ = if q < k then q else k) (hat2 : at_ + 1 < w l) (hw : w l < 60) (h4 : 4 ≤ e l q) (hb : e l q < 1000) (hpt : f_X3_partner n loads widths (nI h) (nI l) (nI k) x = some (nI q)) : ∃ L W, f_X3_relieve n loads widths (nI h) (nI l) (nI k) x = some (1, L, W) ∧ RT h (un w l (w l + 1)) (insE (ue (ue e l at_ 3) l (at_ + 1) 3) l (at_ + 2) 3) L W := by
  have R0 := R_set R hl (show at_ < w l by omega) 3
  have R1 := R_set R0 hl hat2 3
  have R2 := R_ins R1 hl hw (show at_ + 2 ≤ w l by omega) 3
  refine ⟨_, _, ?_, R2⟩
  unfold f_X3_relieve
  rw [hpt, jbd_some, n0, if_pos (nI_le (by omega) (by omega)), t_load R hl hq, jbd_some, n4, if_pos (nI_le h4 (by omega)), jmin_n (by omega) (by omega), ← hat, n3, t_setLoad R hl (show at_ < w l by omega), jbd_some, n1, nI_add, t_setLoad R0 hl hat2, jbd_some, n2, nI_add, t_insertNode hn hl R.1 ((R.2.1 l hl).1) hw (by omega), jbd_some]
theorem t_rel_half (R : RT h w e loads widths) {l k q at_ : Nat} {x : Int32} (hl : l < h) (hk : k < w l) (hq : q < w l) (hat : at_ = if q < k then q else k) (hat2 : at_ + 1 < w l) (h4 : e l q < 4) (hb : e l at_ + e l (at_ + 1) < 1000) (hpt : f_X3_partner n loads widths (nI h) (nI l) (nI k) x = some (nI q)) : ∃ L, f_X3_relieve n loads widths (nI h) (nI l) (nI k) x = some (0, L, widths) ∧ RT h w (hvE e l at_) L widths := by
  have hw := (R.2.1 l hl).2
  obtain ⟨L, h1, h2⟩ := t_halve (n := n) R hl hat2 hb
  refine ⟨L, ?_, h2⟩
  unfold f_X3_relieve
  rw [hpt, jbd_some, n0, if_pos (nI_le (by omega) (by omega)), t_load R hl hq, jbd_some, n4, if_neg (nI_ge h4 (by omega)), jmin_n (by omega) (by omega), ← hat, h1, jbd_some]
/-- the class's loop goes on at the parent, which has one entry more -/
theorem t_go_on (hn : 100 ≤ n) {l k p fu : Nat} {L W : Nat → Int32} {w1 : Nat → Nat} {e1 : Nat → Nat → Nat} (R : RT h w e loads widths) (hl : l + 1 < h) (hk : k < w l) (h5 : 4 < e l k) (hb : e l k < 1000) (hpar : f_X3_parent n loads widths (nI h) (nI l) (nI k) = some (nI p)) (hrel : f_X3_relieve n loads widths (nI h) (nI l) (nI k) (nI p) = some (1, L, W)) (R1 : RT h w1 e1 L W) (hp : p < w1 (l + 1)) (hb2 : e1 (l + 1) p < 1000) :
    ∃ L2, f_X3_grow_36 n (fu + 1) loads widths (nI h) (nI k) (nI l) = f_X3_grow_36 n fu L2 W (nI h) (nI p) (nI (l + 1)) ∧ RT h w1 (ue e1 (l + 1) p (e1 (l + 1) p + 1)) L2 W := by
  have q1 := R.1
  have q2 := (R1.2.1 (l + 1) hl).2
  refine ⟨_, ?_, R_set R1 hl hp (e1 (l + 1) p + 1)⟩
  rw [f_X3_grow_36, n8, if_neg (nI_ge (by omega) (by omega)), t_load R (by omega) hk, jbd_some, n4, if_neg (nI_ge h5 (by omega)), hpar, jbd_some, hrel, jbd_some, if_neg (show ¬ (1 : Int32) = 0 by decide)]
  unfold f_X3_gainEntry f_X3_grow_80
  rw [n1, nI_add, n0, if_pos (nI_le (by omega) (by omega)), t_load R1 hl hp, jbd_some, nI_add, t_setLoad R1 hl hp, jbd_some, jbd_some]
/-- .. or is at its end -/
theorem t_go_end {l k fu : Nat} (R : RT h w e loads widths) (hl : l < h) (hk : k < w l) (h4 : e l k ≤ 4) : f_X3_grow_36 n (fu + 1) loads widths (nI h) (nI k) (nI l) = some (loads, widths, nI h) := by
  have q1 := R.1
  have q2 := (R.2.1 l hl).2
  rw [f_X3_grow_36, n8, if_neg (nI_ge (by omega) (by omega)), t_load R hl hk, jbd_some, n4, if_pos (nI_le h4 (by omega))]
theorem t_go_half {l k p fu : Nat} {L : Nat → Int32} (R : RT h w e loads widths) (hl : l + 1 < h) (hk : k < w l) (h5 : 4 < e l k) (hb : e l k < 1000) (hpar : f_X3_parent n loads widths (nI h) (nI l) (nI k) = some (nI p)) (hrel : f_X3_relieve n loads widths (nI h) (nI l) (nI k) (nI p) = some (0, L, widths)) : f_X3_grow_36 n (fu + 1) loads widths (nI h) (nI k) (nI l) = f_X3_grow_36 n fu L widths (nI h) (nI p) (nI (l + 1)) := by
  have q1 := R.1
  have q2 := (R.2.1 l (by omega)).2
  rw [f_X3_grow_36, n8, if_neg (nI_ge (by omega) (by omega)), t_load R (by omega) hk, jbd_some, n4, if_neg (nI_ge h5 (by omega)), hpar, jbd_some, hrel, jbd_some, if_pos rfl]
  unfold f_X3_grow_80
  rw [n1, nI_add]
theorem T_root (R : RT h w e loads widths) (h7 : h < 8) (v : Nat) : RT (h + 1) (un w h 1) (ue e h 0 v) (upd loads (h * 60) (nI v)) (upd widths h (nI 1)) := by
  refine ⟨by omega, fun l hl => ?_, fun l k hl hk => ?_⟩
  · by_cases q : l = h
    · subst q
      rw [pk_us, un_s]
      exact ⟨rfl, by omega⟩
    · rw [pk_un q, un_n _ _ q]
      exact R.2.1 l (by omega)
  · unfold ue
    by_cases q : l = h
    · subst q
      rw [un_s] at hk
      have : k = 0 := by omega
      subst this
      rw [if_pos ⟨rfl, rfl⟩, Nat.add_zero, pk_us]
    · rw [un_n _ _ q] at hk
      have := (R.2.1 l (by omega)).2
      rw [if_neg (fun z => q z.1), pk_un (by omega)]
      exact R.2.2 l k (by omega) hk
theorem t_addRoot (h7 : h < 8) (v : Int32) : f_X3_addRoot n loads widths (nI h) v = some (upd loads (h * 60) v, upd widths h (nI 1), nI (h + 1)) := by
  unfold f_X3_addRoot
  rw [n8, if_neg (nI_ge h7 (by omega)), n1, nI_add, pk_sub (by omega), Nat.add_sub_cancel, t_setWidth (by omega), jbd_some, n0, u_setLoad (W := 1) (show h < h + 1 by omega) (by omega) pk_us (by omega) (by omega), jbd_some, Nat.add_zero]
/-- the root is divided: a new root -/
theorem t_go_root (hn : 100 ≤ n) {l k fu : Nat} {L W : Nat → Int32} {w1 : Nat → Nat} {e1 : Nat → Nat → Nat} (R : RT h w e loads widths) (hl : l + 1 = h) (h7 : h < 8) (hk : k < w l) (h5 : 4 < e l k) (hb : e l k < 1000) (hrel : f_X3_relieve n loads widths (nI h) (nI l) (nI k) jm1 = some (1, L, W)) (R1 : RT h w1 e1 L W) :
    f_X3_grow_36 n (fu + 1 + 1) loads widths (nI h) (nI k) (nI l) = some (upd L (h * 60) (nI 2), upd W h (nI 1), nI (h + 1)) := by
  have q1 := R.1
  rw [f_X3_grow_36, n8, if_neg (nI_ge (by omega) (by omega)), t_load R (by omega) hk, jbd_some, n4, if_neg (nI_ge h5 (by omega)), t_parent_top hl (by omega), jbd_some, hrel, jbd_some, if_neg (show ¬ (1 : Int32) = 0 by decide)]
  unfold f_X3_gainEntry f_X3_grow_80
  rw [if_neg (by decide), n2, t_addRoot h7, jbd_some, jbd_some, n1, nI_add, f_X3_grow_36, n8, if_neg (nI_ge (by omega) (by omega))]
  have hz : f_X3_load n (upd L (h * 60) (nI 2)) (upd W h (nI 1)) (nI (h + 1)) (nI (l + 1)) jm1 = some 0 := by
    unfold f_X3_load f_X3_hasNode
    rw [n0, if_neg (nI_nlt (by omega) (by omega)), if_neg (nI_ge (by omega) (by omega)), n8, if_neg (nI_ge (by omega) (by omega)), if_pos jm1_neg, jbd_some, if_pos rfl]
  rw [hz, jbd_some, n4, n0, if_pos (nI_le (by omega) (by omega))]
end TG
section MG
variable {n h : Nat} {w : Nat → Nat} {e : Nat → Nat → Nat} {nodes entries : Nat → Int32}
def flag5 (v : Nat) : Int32 := if 4 < v then 1 else 0
/-- the reference's last steps at a level: the parent gets one entry more -/
theorem m_251 (R : RM h w e nodes entries) {l p : Nat} {k39 : Int32 → (Nat → Int32) → (Nat → Int32) → Int32 → Int32 → Int32 → Option (Int32 × (Nat → Int32) × (Nat → Int32))} (hl : l + 1 < h) (hp : p < w (l + 1)) (hb : e (l + 1) p < 1000) : ∃ E2, f_X5_grows_251 n k39 (nI h) nodes entries (nI l) (nI p) = k39 (nI h) nodes E2 (nI (l + 1)) (nI p) (flag5 (e (l + 1) p + 1)) ∧ RM h w (ue e (l + 1) p (e (l + 1) p + 1)) nodes E2 := by
  have q1 := R.1
  have q2 := (R.2.1 (l + 1) hl).2
  have R1 := M_set R hl hp (e (l + 1) p + 1)
  have r := R.2.2 (l + 1) p hl hp
  refine ⟨_, ?_, R1⟩
  unfold f_X5_grows_251 f_X5_grows_290 f_X5_grows_292
  rw [n1, nI_add, n64, pk_mul, nI_add, jrd_n (by omega) (by omega), jwr_n (by omega) (by omega), r, nI_add, m_many R1 hl hp, jbd_some]
  have hu : ue e (l + 1) p (e (l + 1) p + 1) (l + 1) p = e (l + 1) p + 1 := by rw [ue_same, un_s]
  rw [hu]
  unfold flag5
  by_cases q : e (l + 1) p + 1 ≤ 4
  · rw [n4, if_pos (nI_le q (by omega)), if_neg (by omega)]
  · rw [n4, if_neg (nI_ge (by omega) (by omega)), if_pos (by omega)]; rfl
theorem m_203 (R : RM h w e nodes entries) {l p : Nat} {x4 : Int32} {k39 : Int32 → (Nat → Int32) → (Nat → Int32) → Int32 → Int32 → Int32 → Option (Int32 × (Nat → Int32) × (Nat → Int32))} (hl : l + 1 < h) (hp : p < w (l + 1)) (hb : e (l + 1) p < 1000) : ∃ E2, f_X5_grows_203 n k39 (nI h) nodes entries (nI l) x4 1 (nI p) = k39 (nI h) nodes E2 (nI (l + 1)) (nI p) (flag5 (e (l + 1) p + 1)) ∧ RM h w (ue e (l + 1) p (e (l + 1) p + 1)) nodes E2 := by
  have q1 := R.1
  obtain ⟨E2, h1, h2⟩ := m_251 (n := n) (k39 := k39) R hl hp hb
  refine ⟨E2, ?_, h2⟩
  unfold f_X5_grows_203
  rw [if_neg (by decide), n1, pk_sub (by omega), if_neg (fun q => by have := (nI_eq (by omega) (by omega)).mp q; omega)]
  exact h1
theorem M_root (R : RM h w e nodes entries) (h8 : h ≤ 8) (v : Nat) : RM (h + 1) (un w h 1) (ue e h 0 v) (upd nodes h (nI 1)) (upd entries (64 * h) (nI v)) := by
  refine ⟨by omega, fun l hl => ?_, fun l k hl hk => ?_⟩
  · by_cases q : l = h
    · subst q
      rw [pk_us, un_s]
      exact ⟨rfl, by omega⟩
    · rw [pk_un q, un_n _ _ q]
      exact R.2.1 l (by omega)
  · unfold ue
    by_cases q : l = h
    · subst q
      rw [un_s] at hk
      have : k = 0 := by omega
      subst this
      rw [if_pos ⟨rfl, rfl⟩, Nat.add_zero, pk_us]
    · rw [un_n _ _ q] at hk
      have := (R.2.1 l (by omega)).2
      rw [if_neg (fun z => q z.1), pk_un (by omega)]
      exact R.2.2 l k (by omega) hk
theorem m_203_root (R : RM h w e nodes entries) {l fu : Nat} {x4 : Int32} (hl : l + 1 = h) (h8 : h ≤ 8) : ∃ N2 E2, f_X5_grows_203 n (f_X5_grows_39 n (fu + 1)) (nI h) nodes entries (nI l) x4 1 0 = some (nI (h + 1), N2, E2) ∧ RM (h + 1) (un w h 1) (ue e h 0 2) N2 E2 := by
  have R1 := M_root R h8 1
  have R2 := M_set R1 (show h < h + 1 by omega) (show 0 < un w h 1 h by rw [un_s]; omega) 2
  have hE : ue (ue e h 0 1) h 0 2 = ue e h 0 2 := by
    funext a b
    unfold ue
    by_cases q : a = h ∧ b = 0
    · rw [if_pos q, if_pos q]
    · rw [if_neg q, if_neg q, if_neg q]
  rw [hE] at R2
  refine ⟨_, _, ?_, R2⟩
  unfold f_X5_grows_203
  rw [if_neg (by decide), n1, pk_sub (by omega), if_pos (by rw [show h - 1 = l by omega]), jwr_n (by omega) (by omega), n64, pk_mul, jwr_n (by omega) (by omega), nI_add]
  unfold f_X5_grows_251 f_X5_grows_290 f_X5_grows_292
  rw [n1, nI_add, n64, pk_mul, n0, nI_add, Nat.add_zero, hl, jrd_n (by omega) (by omega), pk_us, nI_add, jwr_n (by omega) (by omega)]
  have hm := m_many (n := n) R2 (show h < h + 1 by omega) (show 0 < un w h 1 h by rw [un_s]; omega)
  rw [Nat.add_zero] at hm
  have hu : ue e h 0 2 h 0 = 2 := by rw [ue_same, un_s]
  rw [hm, jbd_some, hu, n4, if_pos (nI_le (by omega) (by omega)), f_X5_grows_39, if_pos (show nI 0 = 0 from rfl)]
  rfl
end MG
