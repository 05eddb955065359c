def flagS (h l v : Nat) : Int32 := if h ≤ l + 1 then 0 else if 2 ≤ v then 0 else 1
section
variable {n h : Nat} {w : Nat → Nat} {e : Nat → Nat → Nat} {nodes entries : Nat → Int32}
theorem m_169 (R : RM h w e nodes entries) (hn : 100 ≤ n) {l p a : Nat} {mb : Int32} {k41 : Int32 → (Nat → Int32) → (Nat → Int32) → Int32 → Int32 → Int32 → Option (Int32 × (Nat → Int32) × (Nat → Int32))} (hl : l + 1 < h) (ha : a < w l) (hp : p < w (l + 1)) (h1 : 1 ≤ e (l + 1) p) (hb : e (l + 1) p < 1000) : ∃ N E, f_X5_shrinks_169 n mb k41 (nI h) nodes entries (nI l) (nI p) (nI l) (nI a) = k41 (nI h) N E (nI (l + 1)) (nI p) (flagS h (l + 1) (e (l + 1) p - 1)) ∧ RM h (un w l (w l - 1)) (ue (delE e l a) (l + 1) p (delE e l a (l + 1) p - 1)) N E := by
  have q1 := R.1
  have q2 := (R.2.1 (l + 1) hl).2
  have q3 := (R.2.1 l (by omega)).2
  have wn : un w l (w l - 1) (l + 1) = w (l + 1) := un_n _ _ (by omega)
  have en : delE e l a (l + 1) p = e (l + 1) p := congrFun (delE_ne e a (by omega)) p
  have R1 := M_del R (show l < h by omega) ha
  have R2 := M_set R1 hl (show p < un w l (w l - 1) (l + 1) by omega) (delE e l a (l + 1) p - 1)
  have r := R1.2.2 (l + 1) p hl (by omega)
  refine ⟨_, _, ?_, R2⟩
  unfold f_X5_shrinks_169 f_X5_shrinks_217 f_X5_shrinks_218 f_X5_shrinks_236
  rw [m_goes hn (by omega) ((R.2.1 l (by omega)).1) (by omega) ha, jbd_some]
  dsimp only
  rw [n1, nI_add, n64, pk_mul, nI_add, jrd_n (by omega) (by omega), r, pk_sub (by omega), jwr_n (by omega) (by omega), pk_sub (show 1 ≤ h by omega)]
  unfold flagS
  by_cases z : h ≤ l + 1 + 1
  · rw [if_pos (nI_le (by omega) (by omega)), if_pos z]
  · rw [if_neg (nI_ge (by omega) (by omega)), if_neg z, m_many R2 hl (by omega), jbd_some, ue_at, en]
    by_cases y : 2 ≤ e (l + 1) p - 1
    · rw [n2, if_pos (nI_le y (by omega)), if_pos y]
    · rw [n2, if_neg (nI_ge (by omega) (by omega)), if_neg y]; rfl
theorem m_sh_66 (R : RM h w e nodes entries) {l k q at_ p fu : Nat} {mb : Int32} (hl : l + 1 < h) (hk : k < w l) (hq : q < w l) (hat : at_ = if q < k then q else k) (hpt : f_X5_partner n (nI h) entries (nI l) (nI k) = some (nI q)) (hab : f_X5_above n entries (nI l) (nI k) = some (nI p)) : f_X5_shrinks_41 n mb (fu + 1) (nI h) nodes entries (nI l) (nI k) 1 = f_X5_shrinks_99 n mb (f_X5_shrinks_41 n mb fu) (nI h) nodes entries (nI l) (nI k) (nI q) (nI at_) (nI p) (nI (e l k)) (if q = k then 0 else nI (e l q)) := by
  have q1 := R.1
  have q2 := (R.2.1 l (by omega)).2
  have key : f_X5_shrinks_41 n mb (fu + 1) (nI h) nodes entries (nI l) (nI k) 1 = f_X5_shrinks_66 n mb (f_X5_shrinks_41 n mb fu) (nI h) nodes entries (nI l) (nI k) (nI q) (nI at_) := by
    rw [f_X5_shrinks_41, if_neg (show ¬ (1 : Int32) = 0 by decide), hpt, jbd_some]
    by_cases z : k ≤ q
    · rw [if_pos (nI_le z (by omega)), hat, if_neg (by omega)]
    · rw [if_neg (nI_ge (by omega) (by omega)), hat, if_pos (by omega)]
  rw [key]
  unfold f_X5_shrinks_66
  rw [hab, jbd_some, m_many R (by omega) hk, jbd_some]
  by_cases z : q = k
  · rw [if_pos (by rw [z]), if_pos z]
  · rw [if_neg (fun y => z ((nI_eq (by omega) (by omega)).mp y)), if_neg z, m_many R (by omega) hq, jbd_some]
theorem m_sh_join (R : RM h w e nodes entries) (hn : 100 ≤ n) {l k q at_ p fu : Nat} {mb : Int32} (hl : l + 1 < h) (hk : k < w l) (hq : q < w l) (hqk : q ≠ k) (hat : at_ = if q < k then q else k) (hat2 : at_ + 1 < w l) (hs : e l at_ + e l (at_ + 1) = e l k + e l q) (h4 : e l k + e l q ≤ 4) (hpt : f_X5_partner n (nI h) entries (nI l) (nI k) = some (nI q)) (hab : f_X5_above n entries (nI l) (nI k) = some (nI p)) (hp : p < w (l + 1)) (h1 : 1 ≤ e (l + 1) p) (hb : e (l + 1) p < 1000) : ∃ N E, f_X5_shrinks_41 n mb (fu + 1) (nI h) nodes entries (nI l) (nI k) 1 = f_X5_shrinks_41 n mb fu (nI h) N E (nI (l + 1)) (nI p) (flagS h (l + 1) (e (l + 1) p - 1)) ∧ RM h (un w l (w l - 1)) (ue (delE (ue e l at_ (e l at_ + e l (at_ + 1))) l (at_ + 1)) (l + 1) p (delE (ue e l at_ (e l at_ + e l (at_ + 1))) l (at_ + 1) (l + 1) p - 1)) N E := by
  have q1 := R.1
  have q2 := (R.2.1 l (by omega)).2
  have R1 := M_set R (show l < h by omega) (show at_ < w l by omega) (e l at_ + e l (at_ + 1))
  have en : ue e l at_ (e l at_ + e l (at_ + 1)) (l + 1) p = e (l + 1) p := congrFun (ue_ne e _ _ (by omega)) p
  obtain ⟨N, E, a1, a2⟩ := m_169 (mb := mb) (k41 := f_X5_shrinks_41 n mb fu) R1 hn hl hat2 hp (by omega) (by omega)
  refine ⟨N, E, ?_, a2⟩
  rw [m_sh_66 R hl hk hq hat hpt hab, if_neg hqk]
  unfold f_X5_shrinks_99 f_X5_shrinks_132
  rw [nI_add, if_neg (fun y => hqk ((nI_eq (by omega) (by omega)).mp y)), n4, if_neg (show ¬ nI 4 < nI (e l k + e l q) by rw [nI_ltI (by omega) (by omega)]; omega), if_neg (show ¬ (1 : Int32) = 0 by decide), n64, pk_mul, nI_add, jwr_n (by omega) (by omega), if_neg (fun y => hqk ((nI_eq (by omega) (by omega)).mp y)), n1, nI_add, ← hs, a1, en]
theorem m_sh_half (R : RM h w e nodes entries) {l k q at_ p fu : Nat} {mb : Int32} (hl : l + 1 < h) (hk : k < w l) (hq : q < w l) (hqk : q ≠ k) (hat : at_ = if q < k then q else k) (hat2 : at_ + 1 < w l) (hs : e l at_ + e l (at_ + 1) = e l k + e l q) (h4 : 4 < e l k + e l q) (hb : e l k + e l q < 1000) (hpt : f_X5_partner n (nI h) entries (nI l) (nI k) = some (nI q)) (hab : f_X5_above n entries (nI l) (nI k) = some (nI p)) : ∃ E, f_X5_shrinks_41 n mb (fu + 1 + 1) (nI h) nodes entries (nI l) (nI k) 1 = f_X5_shrinks_239 n mb n (nI h) nodes E ∧ RM h w (hvE e l at_) nodes E := by
  have q1 := R.1
  have q2 := (R.2.1 l (by omega)).2
  obtain ⟨E, a1, a2⟩ := m_shares (n := n) R (show l < h by omega) hat2 (by omega)
  refine ⟨E, ?_, a2⟩
  rw [m_sh_66 R hl hk hq hat hpt hab, if_neg hqk]
  unfold f_X5_shrinks_99 f_X5_shrinks_132 f_X5_shrinks_236
  rw [nI_add, if_neg (fun y => hqk ((nI_eq (by omega) (by omega)).mp y)), n4, if_pos (show nI 4 < nI (e l k + e l q) by rw [nI_ltI (by omega) (by omega)]; omega), if_pos rfl, if_neg (fun y => hqk ((nI_eq (by omega) (by omega)).mp y)), a1, jbd_some, f_X5_shrinks_41, if_pos rfl]
theorem m_sh_drop (R : RM h w e nodes entries) (hn : 100 ≤ n) {l k p fu : Nat} {mb : Int32} (hl : l + 1 < h) (hk : k < w l) (h0 : e l k = 0) (hpt : f_X5_partner n (nI h) entries (nI l) (nI k) = some (nI k)) (hab : f_X5_above n entries (nI l) (nI k) = some (nI p)) (hp : p < w (l + 1)) (h1 : 1 ≤ e (l + 1) p) (hb : e (l + 1) p < 1000) : ∃ N E, f_X5_shrinks_41 n mb (fu + 1) (nI h) nodes entries (nI l) (nI k) 1 = f_X5_shrinks_41 n mb fu (nI h) N E (nI (l + 1)) (nI p) (flagS h (l + 1) (e (l + 1) p - 1)) ∧ RM h (un w l (w l - 1)) (ue (delE e l k) (l + 1) p (delE e l k (l + 1) p - 1)) N E := by
  have q1 := R.1
  have q2 := (R.2.1 l (by omega)).2
  have R1 := M_set R (show l < h by omega) hk 0
  have e0 : ue e l k 0 = e := by
    funext x y
    unfold ue
    by_cases z : x = l ∧ y = k
    · rw [if_pos z, z.1, z.2, h0]
    · rw [if_neg z]
  rw [e0] at R1
  obtain ⟨N, E, a1, a2⟩ := m_169 (mb := mb) (k41 := f_X5_shrinks_41 n mb fu) R1 hn hl hk hp (by omega) (by omega)
  refine ⟨N, E, ?_, a2⟩
  rw [m_sh_66 R hl hk hk (by rw [if_neg (by omega)]) hpt hab, if_pos rfl]
  unfold f_X5_shrinks_99 f_X5_shrinks_132
  rw [n0, nI_add, if_pos rfl, h0, if_pos rfl, if_neg (show ¬ (1 : Int32) = nI 0 by decide), n64, pk_mul, nI_add, jwr_n (by omega) (by omega), if_pos rfl, a1]
theorem m_sh_keep (R : RM h w e nodes entries) {l k p fu : Nat} {mb : Int32} (hl : l + 1 < h) (hk : k < w l) (h0 : 1 ≤ e l k) (hb : e l k < 1000) (hpt : f_X5_partner n (nI h) entries (nI l) (nI k) = some (nI k)) (hab : f_X5_above n entries (nI l) (nI k) = some (nI p)) : f_X5_shrinks_41 n mb (fu + 1 + 1) (nI h) nodes entries (nI l) (nI k) 1 = f_X5_shrinks_239 n mb n (nI h) nodes entries := by
  have q1 := R.1
  have q2 := (R.2.1 l (by omega)).2
  rw [m_sh_66 R hl hk hk (by rw [if_neg (by omega)]) hpt hab, if_pos rfl]
  unfold f_X5_shrinks_99 f_X5_shrinks_132 f_X5_shrinks_236
  rw [n0, nI_add, if_pos rfl, if_neg (show ¬ nI (e l k + 0) = nI 0 by rw [nI_eq (by omega) (by omega)]; omega), if_pos rfl, if_pos rfl, f_X5_shrinks_41, if_pos (show nI 0 = 0 from rfl)]
end
