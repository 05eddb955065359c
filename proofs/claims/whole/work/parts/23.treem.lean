/-! ===== the reference's tree ===== -/
theorem n1024 : (1024 : Int32) = nI 1024 := rfl
def RM (h : Nat) (w : Nat → Nat) (e : Nat → Nat → Nat) (nodes entries : Nat → Int32) : Prop := h ≤ 9 ∧ (∀ l, l < h → nodes l = nI (w l) ∧ w l ≤ 60) ∧ ∀ l k, l < h → k < w l → entries (64 * l + k) = nI (e l k)
section TM
variable {n h : Nat} {w : Nat → Nat} {e : Nat → Nat → Nat} {nodes entries : Nat → Int32}
theorem m_many (R : RM h w e nodes entries) {l k : Nat} (hl : l < h) (hk : k < w l) : f_X5_many n entries (nI l) (nI k) = some (nI (e l k)) := by
  have q2 := (R.2.1 l hl).2
  have q1 := R.1
  have q3 := R.2.2 l k hl hk
  unfold f_X5_many
  simp (disch := omega) only [n64, nI_add, pk_mul, jrd_n, q3]
theorem m_ah_loop (R : RM h w e nodes entries) {l k : Nat} (hl : l < h) (hk : k ≤ w l) : ∀ d fu j, k = j + d → d < fu → f_X5_ahead_5 n entries fu (nI l) (nI k) (nI (sm (e l) j)) (nI j) = some (nI (sm (e l) k)) := by
  have q2 := (R.2.1 l hl).2
  have q1 := R.1
  intro d
  induction d with
  | zero =>
    intro fu j hj hf
    obtain ⟨fu, rfl⟩ : ∃ z, fu = z + 1 := ⟨fu - 1, by omega⟩
    rw [f_X5_ahead_5]
    have : k = j := by omega
    subst this
    simp (disch := omega) only [nI_leI, if_pos]
  | succ d ih =>
    intro fu j hj hf
    obtain ⟨fu, rfl⟩ : ∃ z, fu = z + 1 := ⟨fu - 1, by omega⟩
    rw [f_X5_ahead_5]
    simp (disch := omega) only [nI_leI, if_neg, m_many R hl, jbd_some, n1, nI_add]
    exact ih fu (j + 1) (by omega) (by omega)
theorem m_ahead (R : RM h w e nodes entries) (hn : 100 ≤ n) {l k : Nat} (hl : l < h) (hk : k ≤ w l) : f_X5_ahead n entries (nI l) (nI k) = some (nI (sm (e l) k)) := by
  have q2 := (R.2.1 l hl).2
  unfold f_X5_ahead
  exact m_ah_loop R hl hk k n 0 (by omega) (by omega)
theorem m_ab_loop (R : RM h w e nodes entries) (hn : 100 ≤ n) {l p x : Nat} (hl : l + 1 < h) (hp : p < w (l + 1)) (hx : x < 2000) (h1 : sm (e (l + 1)) p ≤ x) (hb : sm (e (l + 1)) (w (l + 1)) ≤ 1000) (h2 : x < sm (e (l + 1)) (p + 1)) : ∀ d fu j, p = j + d → d < fu → f_X5_above_2 n entries fu (nI l) (nI x) (nI j) = some (nI p) := by
  have q2 := (R.2.1 (l + 1) hl).2
  have q1 := R.1
  have hb1 : sm (e (l + 1)) (p + 1) ≤ 1000 := Nat.le_trans (sm_le _ (by omega)) hb
  intro d
  induction d with
  | zero =>
    intro fu j hj hf
    obtain ⟨fu, rfl⟩ : ∃ z, fu = z + 1 := ⟨fu - 1, by omega⟩
    have : p = j := by omega
    subst this
    rw [f_X5_above_2]
    simp (disch := omega) only [n1, nI_add, m_ahead R hn hl, jbd_some, nI_ltI, if_pos]
  | succ d ih =>
    intro fu j hj hf
    obtain ⟨fu, rfl⟩ : ∃ z, fu = z + 1 := ⟨fu - 1, by omega⟩
    have h3 : sm (e (l + 1)) (j + 1) ≤ sm (e (l + 1)) p := sm_le _ (by omega)
    rw [f_X5_above_2]
    simp (disch := omega) only [n1, nI_add, m_ahead R hn hl, jbd_some, nI_ltI, if_neg]
    exact ih fu (j + 1) (by omega) (by omega)
theorem m_above (R : RM h w e nodes entries) (hn : 100 ≤ n) {l p x : Nat} (hl : l + 1 < h) (hp : p < w (l + 1)) (hx : x < 2000) (h1 : sm (e (l + 1)) p ≤ x) (hb : sm (e (l + 1)) (w (l + 1)) ≤ 1000) (h2 : x < sm (e (l + 1)) (p + 1)) : f_X5_above n entries (nI l) (nI x) = some (nI p) := by
  have q2 := (R.2.1 (l + 1) hl).2
  unfold f_X5_above
  exact m_ab_loop R hn hl hp hx h1 hb h2 p n 0 (by omega) (by omega)
theorem m_partner (R : RM h w e nodes entries) (hn : 100 ≤ n) {l p k : Nat} (hl : l + 1 < h) (hp : p < w (l + 1)) (h1 : sm (e (l + 1)) p ≤ k) (hb : sm (e (l + 1)) (w (l + 1)) ≤ 1000) (h2 : k < sm (e (l + 1)) (p + 1)) : f_X5_partner n (nI h) entries (nI l) (nI k) = some (if k + 1 < sm (e (l + 1)) (p + 1) then nI (k + 1) else if sm (e (l + 1)) p < k then nI (k - 1) else nI k) := by
  have q1 := R.1
  have hb1 : sm (e (l + 1)) (p + 1) ≤ 1000 := Nat.le_trans (sm_le _ (by omega)) hb
  have hG : sm (e (l + 1)) (p + 1) = sm (e (l + 1)) p + e (l + 1) p := rfl
  unfold f_X5_partner
  simp (disch := omega) only [n1, pk_sub, nI_eq, if_neg, m_above R hn hl hp (show k < 2000 by omega) h1 hb h2, nI_add, jbd_some, m_ahead R hn hl (Nat.le_of_lt hp), m_many R hl hp, nI_leI]
  by_cases q : k + 1 < sm (e (l + 1)) (p + 1)
  · rw [if_pos q, if_neg (by omega)]
  · rw [if_neg q, if_pos (by omega)]
    by_cases q3 : sm (e (l + 1)) p < k
    · rw [if_pos q3, if_neg (by omega)]
    · rw [if_neg q3, if_pos (by omega)]
theorem m_partner_top {l : Nat} (hl : l + 1 = h) (h9 : h ≤ 9) (x : Int32) : f_X5_partner n (nI h) entries (nI l) x = some x := by
  unfold f_X5_partner
  simp (disch := omega) only [n1, pk_sub, nI_eq, if_pos]
theorem m_en_loop {l at_ W : Nat} {v : Int32} (h9 : l ≤ 9) (hw : nodes l = nI W) (hW : W ≤ 60) : ∀ d fu j (entries : Nat → Int32), j = at_ + d → d < fu → j ≤ W → f_X5_enters_13 n fu nodes entries (nI l) (nI at_) v (nI (64 * l + j)) = some (upd nodes l (nI (W + 1)), insA entries (64 * l) at_ v j) := by
  intro d
  induction d with
  | zero =>
    intro fu j entries hj hf hjW
    obtain ⟨fu, rfl⟩ : ∃ z, fu = z + 1 := ⟨fu - 1, by omega⟩
    have : j = at_ := by omega
    subst this
    rw [f_X5_enters_13]
    simp (disch := omega) only [n64, pk_mul, nI_add, nI_leI, if_pos, jwr_n, jrd_n, hw, n1]
    rw [insA_0]
  | succ d ih =>
    intro fu j entries hj hf hjW
    obtain ⟨fu, rfl⟩ : ∃ z, fu = z + 1 := ⟨fu - 1, by omega⟩
    rw [f_X5_enters_13]
    simp (disch := omega) only [n64, pk_mul, nI_add, nI_leI, if_neg, n1, pk_sub, jrd_n, jwr_n, n_m1]
    rw [show 64 * l + j - 1 = 64 * l + (j - 1) by omega, ih fu (j - 1) _ (by omega) (by omega) (by omega), insA_s _ _ (by omega)]
theorem m_enters {l at_ W : Nat} {v : Int32} (hn : 100 ≤ n) (h9 : l ≤ 9) (hw : nodes l = nI W) (hW : W ≤ 60) (hat : at_ ≤ W) : f_X5_enters n nodes entries (nI l) (nI at_) v = some (upd nodes l (nI (W + 1)), insA entries (64 * l) at_ v W) := by
  unfold f_X5_enters
  simp (disch := omega) only [jrd_n, hw, n64, pk_mul, nI_add]
  exact m_en_loop h9 hw hW (W - at_) n W entries (by omega) (by omega) (by omega)
theorem m_go_loop {l W : Nat} (h9 : l ≤ 9) (hw : nodes l = nI (W - 1)) (hW : W ≤ 60) (hW0 : 0 < W) : ∀ d fu j (entries : Nat → Int32), W = j + d + 1 → d < fu → f_X5_goes_17 n fu nodes entries (nI l) (nI (64 * l + j)) = some (nodes, delA entries (64 * l) j W) := by
  intro d
  induction d with
  | zero =>
    intro fu j entries hj hf
    obtain ⟨fu, rfl⟩ : ∃ z, fu = z + 1 := ⟨fu - 1, by omega⟩
    rw [f_X5_goes_17]
    simp (disch := omega) only [jrd_n, hw, n64, pk_mul, nI_add, nI_leI, if_pos]
    rw [delA_0 _ (by omega)]
  | succ d ih =>
    intro fu j entries hj hf
    obtain ⟨fu, rfl⟩ : ∃ z, fu = z + 1 := ⟨fu - 1, by omega⟩
    rw [f_X5_goes_17]
    simp (disch := omega) only [jrd_n, hw, n64, pk_mul, nI_add, nI_leI, if_neg, n1, jwr_n]
    rw [show 64 * l + j + 1 = 64 * l + (j + 1) by omega, ih fu (j + 1) _ (by omega) (by omega), delA_s _ (by omega)]
theorem m_goes {l at_ W : Nat} (hn : 100 ≤ n) (h9 : l ≤ 9) (hw : nodes l = nI W) (hW : W ≤ 60) (hat : at_ < W) : f_X5_goes n nodes entries (nI l) (nI at_) = some (upd nodes l (nI (W - 1)), delA entries (64 * l) at_ W) := by
  unfold f_X5_goes
  simp (disch := omega) only [jrd_n, hw, n1, pk_sub, jwr_n, n64, pk_mul, nI_add]
  exact m_go_loop h9 pk_us hW (by omega) (W - at_ - 1) n at_ entries (by omega) (by omega)
theorem M_set (R : RM h w e nodes entries) {l k : Nat} (hl : l < h) (hk : k < w l) (v : Nat) : RM h w (ue e l k v) nodes (upd entries (64 * l + k) (nI v)) := by
  refine ⟨R.1, R.2.1, fun l' k' hl' hk' => ?_⟩
  have b1 := (R.2.1 l hl).2
  have b2 := (R.2.1 l' hl').2
  unfold ue
  by_cases q : l' = l ∧ k' = k
  · rw [if_pos q, q.1, q.2, pk_us]
  · rw [if_neg q, pk_un (by omega), R.2.2 l' k' hl' hk']
theorem M_ins (R : RM h w e nodes entries) {l at_ : Nat} (hl : l < h) (hW : w l < 60) (hat : at_ ≤ w l) (v : Nat) : RM h (un w l (w l + 1)) (insE e l at_ v) (upd nodes l (nI (w l + 1))) (insA entries (64 * l) at_ (nI v) (w l)) := by
  refine ⟨R.1, fun l' hl' => ?_, fun l' k' hl' hk' => ?_⟩
  · unfold un
    by_cases q : l' = l
    · subst q
      rw [if_pos rfl, pk_us]
      exact ⟨rfl, by omega⟩
    · rw [if_neg q, pk_un q]
      exact R.2.1 l' hl'
  · have b2 := (R.2.1 l' hl').2
    unfold insE insA
    unfold un at hk'
    by_cases q : l' = l
    · subst q
      rw [if_pos rfl] at hk' ⊢
      by_cases q1 : k' < at_
      · rw [if_pos q1, if_neg (by omega), if_neg (by omega), R.2.2 l' k' hl' (by omega)]
      · rw [if_neg q1]
        by_cases q2 : k' = at_
        · rw [if_pos q2, if_pos (by omega)]
        · rw [if_neg q2, if_neg (by omega), if_pos (by omega), show 64 * l' + k' - 1 = 64 * l' + (k' - 1) by omega, R.2.2 l' (k' - 1) hl' (by omega)]
    · rw [if_neg q] at hk' ⊢
      rw [if_neg (by omega), if_neg (by omega), R.2.2 l' k' hl' hk']
theorem M_del (R : RM h w e nodes entries) {l at_ : Nat} (hl : l < h) (hat : at_ < w l) : RM h (un w l (w l - 1)) (delE e l at_) (upd nodes l (nI (w l - 1))) (delA entries (64 * l) at_ (w l)) := by
  refine ⟨R.1, fun l' hl' => ?_, fun l' k' hl' hk' => ?_⟩
  · have b1 := (R.2.1 l' hl').2
    unfold un
    by_cases q : l' = l
    · subst q
      rw [if_pos rfl, pk_us]
      exact ⟨rfl, by omega⟩
    · rw [if_neg q, pk_un q]
      exact R.2.1 l' hl'
  · have b2 := (R.2.1 l' hl').2
    have b1 := (R.2.1 l hl).2
    unfold delE delA
    unfold un at hk'
    by_cases q : l' = l
    · subst q
      rw [if_pos rfl] at hk' ⊢
      by_cases q1 : k' < at_
      · rw [if_pos q1, if_neg (by omega), R.2.2 l' k' hl' (by omega)]
      · rw [if_neg q1, if_pos (by omega), show 64 * l' + k' + 1 = 64 * l' + (k' + 1) by omega, R.2.2 l' (k' + 1) hl' (by omega)]
    · rw [if_neg q] at hk' ⊢
      rw [if_neg (by omega), R.2.2 l' k' hl' hk']
theorem m_shares (R : RM h w e nodes entries) {l k : Nat} (hl : l < h) (hk : k + 1 < w l) (he : e l k + e l (k + 1) < 1000) : ∃ entries', f_X5_shares n entries (nI l) (nI k) = some entries' ∧ RM h w (hvE e l k) nodes entries' := by
  have q2 := (R.2.1 l hl).2
  have q1 := R.1
  have R1 := M_set R hl (show k < w l by omega) ((e l k + e l (k + 1) + 1) / 2)
  have R2 := M_set R1 hl hk ((e l k + e l (k + 1)) / 2)
  refine ⟨_, ?_, R2⟩
  unfold f_X5_shares
  rw [m_many R hl (show k < w l by omega), jbd_some, n1, nI_add, m_many R hl hk, jbd_some, nI_add, nI_add, n2, j_div2 (by omega), j_div2 (by omega)]
  simp (disch := omega) only [n64, pk_mul, nI_add, jwr_n]
  rw [show 64 * l + k + 1 = 64 * l + (k + 1) by omega]
theorem m_lf_loop (R : RM h w e nodes entries) (hn : 100 ≤ n) {p x : Nat} (hh : 0 < h) (hp : p < w 0) (hx : x < 2000) (h1 : sm (e 0) p ≤ x) (hb : sm (e 0) (w 0) ≤ 1000) (h2 : x < sm (e 0) (p + 1) ∨ p + 1 = w 0) : ∀ d fu j, p = j + d → d < fu → f_X5_leafFor_2 n (nI h) nodes entries fu (nI x) (nI j) = some (nI p) := by
  have q2 := (R.2.1 0 hh).2
  have q3 := (R.2.1 0 hh).1
  have q1 := R.1
  have hb1 : sm (e 0) (p + 1) ≤ 1000 := Nat.le_trans (sm_le _ (by omega)) hb
  intro d
  induction d with
  | zero =>
    intro fu j hj hf
    obtain ⟨fu, rfl⟩ : ∃ z, fu = z + 1 := ⟨fu - 1, by omega⟩
    have : p = j := by omega
    subst this
    rw [f_X5_leafFor_2]
    simp (disch := omega) only [n0, n1, nI_add, nI_leI, if_neg, jrd_n, q3]
    by_cases q : w 0 ≤ p + 1
    · rw [if_pos q]
    · rw [if_neg q, m_ahead R hn hh (by omega), jbd_some, if_pos]
      rw [nI_ltI (by omega) (by omega)]
      omega
  | succ d ih =>
    intro fu j hj hf
    obtain ⟨fu, rfl⟩ : ∃ z, fu = z + 1 := ⟨fu - 1, by omega⟩
    have h3 : sm (e 0) (j + 1) ≤ sm (e 0) p := sm_le _ (by omega)
    rw [f_X5_leafFor_2]
    simp (disch := omega) only [n0, n1, nI_add, nI_leI, if_neg, jrd_n, q3, m_ahead R hn hh, jbd_some, nI_ltI]
    exact ih fu (j + 1) (by omega) (by omega)
theorem m_leafFor (R : RM h w e nodes entries) (hn : 100 ≤ n) {p x : Nat} (hh : 0 < h) (hp : p < w 0) (hx : x < 2000) (h1 : sm (e 0) p ≤ x) (hb : sm (e 0) (w 0) ≤ 1000) (h2 : x < sm (e 0) (p + 1) ∨ p + 1 = w 0) : f_X5_leafFor n (nI h) nodes entries (nI x) = some (nI p) := by
  have q2 := (R.2.1 0 hh).2
  unfold f_X5_leafFor
  exact m_lf_loop R hn hh hp hx h1 hb h2 p n 0 (by omega) (by omega)
theorem m_leafFor0 (hn : 100 ≤ n) (x : Int32) : f_X5_leafFor n (nI 0) nodes entries x = some 0 := by
  unfold f_X5_leafFor
  obtain ⟨m, rfl⟩ : ∃ z, n = z + 1 := ⟨n - 1, by omega⟩
  rw [f_X5_leafFor_2, if_pos (by decide)]
end TM
