theorem j_pred {a : Nat} (q : 1 ≤ a) : nI a - 1 = nI (a - 1) := by
  rw [n1, pk_sub q]
section
variable {n h : Nat} {w : Nat → Nat} {e : Nat → Nat → Nat} {loads widths nodes entries : Nat → Int32}
def IL (S h : Nat) (w : Nat → Nat) (e : Nat → Nat → Nat) : Prop := S ≤ 60 ∧ 0 < h ∧ CORE S h w e ∧ (∀ l, l + 1 < h → ROW (e l) (w l)) ∧ e (h - 1) 0 ≤ 4 ∧ (2 ≤ h → 1 ≤ e (h - 1) 0)
theorem RT.mono (R : RT h w e loads widths) {h' : Nat} (q : h' ≤ h) : RT h' w e loads widths := ⟨by have := R.1; omega, fun l hl => R.2.1 l (by omega), fun l k hl hk => R.2.2 l k (by omega) hk⟩
theorem RM.mono (R : RM h w e nodes entries) {h' : Nat} (q : h' ≤ h) : RM h' w e nodes entries := ⟨by have := R.1; omega, fun l hl => R.2.1 l (by omega), fun l k hl hk => R.2.2 l k (by omega) hk⟩
theorem CORE.low {S h : Nat} (C : CORE S (h + 1 + 1) w e) (q : e (h + 1) 0 = 1) : CORE S (h + 1) w e := by
  obtain ⟨a, b, c⟩ := C
  refine ⟨fun _ => ?_, fun l hl => b l (by omega), fun _ => c (by omega)⟩
  have w1 := a (by omega)
  have s := b h (by omega)
  rw [Nat.add_sub_cancel] at w1
  rw [w1, sm_s] at s
  rw [Nat.add_sub_cancel, ← s, q]
  rfl
theorem IL.row {S : Nat} (I : IL S h w e) {l : Nat} (hl : l < h) : ∀ k, k < w l → (2 ≤ h → 1 ≤ e l k) ∧ e l k ≤ 4 := by
  obtain ⟨a, b, C, r, x, y⟩ := I
  intro k hk
  by_cases q : l + 1 < h
  · have := (r l q).1 k hk
    exact ⟨fun _ => this.1, this.2⟩
  · have w1 := C.1 b
    have q2 : l = h - 1 := by omega
    subst q2
    have k0 : k = 0 := by omega
    subst k0
    exact ⟨fun z => y z, x⟩
theorem lower_sim {S : Nat} : ∀ h {fu fu' : Nat}, h < fu → h < fu' → RT (h + 1) w e loads widths → RM (h + 1) w e nodes entries → IL S (h + 1) w e → ∃ h', f_X3_lowerRoot_7 n loads widths fu (nI (h + 1)) (nI h) = some (nI h') ∧ f_X5_shrinks_239 n (nI S) fu' (nI (h + 1)) nodes entries = some (nI h', nodes, entries) ∧ h' ≤ h + 1 ∧ IT S h' w e := by
  intro h
  induction h with
  | zero =>
    intro fu fu' hf hf' R M I
    obtain ⟨fu, rfl⟩ : ∃ q, fu = q + 1 := ⟨fu - 1, by omega⟩
    obtain ⟨fu', rfl⟩ : ∃ q, fu' = q + 1 := ⟨fu' - 1, by omega⟩
    obtain ⟨a, b, C, r, x, y⟩ := id I
    have w1 : w 0 = 1 := C.1 (by omega)
    have s := C.2.2 (by omega)
    rw [w1, sm_s] at s
    have s : e 0 0 = S := by have z : sm (e 0) 0 = 0 := rfl; omega
    have tl := t_load (n := n) R (show 0 < 0 + 1 by omega) (show 0 < w 0 by omega)
    refine ⟨if S = 0 then 0 else 1, ?_, ?_, ?_, ?_⟩
    · rw [f_X3_lowerRoot_7, if_pos (show nI 0 ≤ 0 by rw [n0]; exact (nI_leI (by omega) (by omega)).2 (by omega))]
      unfold f_X3_lowerRoot_32
      rw [n0, n1, pk_sub (by omega), show (0 : Nat) + 1 - 1 = 0 by omega, tl, jbd_some, s]
      by_cases q : S = 0
      · rw [if_pos (by rw [q]), if_pos q]
      · rw [if_neg (by rw [nI_eq (by omega) (by omega)]; exact q), if_neg q]
    · rw [f_X5_shrinks_239, if_pos (show nI (0 + 1) ≤ 1 by rw [n1]; exact (nI_leI (by omega) (by omega)).2 (by omega))]
      unfold f_X5_shrinks_275 f_X5_shrinks_291
      by_cases q : S = 0
      · rw [if_pos (by rw [q]; rfl), if_pos q]; rfl
      · rw [if_neg (by rw [n0, nI_eq (by omega) (by omega)]; exact q), if_neg q]
    · split <;> omega
    · by_cases q : S = 0
      · rw [if_pos q]
        exact ⟨a, by omega, ⟨fun z => by omega, fun l z => by omega, fun z => by omega⟩, fun l z => by omega, fun z => by omega⟩
      · rw [if_neg q]
        refine ⟨a, by omega, C, fun l z => ⟨fun k hk => ?_, fun k hk => ?_⟩, fun z => by omega⟩
        · have l0 : l = 0 := by omega
          subst l0
          have k0 : k = 0 := by omega
          subst k0
          have x : e 0 0 ≤ 4 := x
          omega
        · have l0 : l = 0 := by omega
          subst l0
          omega
  | succ h ih =>
    intro fu fu' hf hf' R M I
    obtain ⟨fu, rfl⟩ : ∃ q, fu = q + 1 := ⟨fu - 1, by omega⟩
    obtain ⟨fu', rfl⟩ : ∃ q, fu' = q + 1 := ⟨fu' - 1, by omega⟩
    obtain ⟨a, b, C, r, x, y⟩ := id I
    have h8 := R.1
    have w1 : w (h + 1) = 1 := C.1 (by omega)
    have tl := t_load (n := n) R (show h + 1 < h + 1 + 1 by omega) (show 0 < w (h + 1) by omega)
    have ml := m_many (n := n) M (show h + 1 < h + 1 + 1 by omega) (show 0 < w (h + 1) by omega)
    have x : e (h + 1) 0 ≤ 4 := x
    have y : 1 ≤ e (h + 1) 0 := y (by omega)
    rw [f_X3_lowerRoot_7, if_neg (show ¬ nI (h + 1) ≤ 0 by rw [n0, nI_leI (by omega) (by omega)]; omega), f_X5_shrinks_239, if_neg (show ¬ nI (h + 1 + 1) ≤ 1 by rw [n1, nI_leI (by omega) (by omega)]; omega)]
    rw [n0, tl, n1, pk_sub (by omega), Nat.add_sub_cancel, ml, jbd_some, jbd_some]
    by_cases q : e (h + 1) 0 = 1
    · rw [q, if_pos rfl, if_pos rfl, n_m1 (by omega), Nat.add_sub_cancel]
      have wh : 1 = w h := ((C.low q).1 (by omega)).symm
      obtain ⟨h', g1, g2, g3, g4⟩ := ih (fu := fu) (fu' := fu') (by omega) (by omega) (R.mono (by omega)) (M.mono (by omega)) ⟨a, by omega, C.low q, fun l hl => r l (by omega), ((r h (by omega)).1 0 (wh ▸ Nat.one_pos)).2, fun _ => ((r h (by omega)).1 0 (wh ▸ Nat.one_pos)).1⟩
      exact ⟨h', g1, g2, by omega, g4⟩
    · rw [if_neg (by rw [nI_eq (by omega) (by omega)]; exact q), if_neg (by rw [nI_eq (by omega) (by omega)]; exact q)]
      have wp := w_pos C (fun l k hl hk => (I.row hl k hk).1 (by omega)) (h + 1) 0 (by omega)
      have S0 : 0 < S := by
        rw [← C.2.2 (by omega)]
        have m1 := sm_le (e 0) (show 1 ≤ w 0 by omega)
        have := (I.row (show 0 < h + 1 + 1 by omega) 0 (by omega)).1 (by omega)
        rw [sm_s] at m1
        omega
      refine ⟨h + 1 + 1, ?_, ?_, by omega, a, by omega, C, fun l hl => ?_, fun _ => ?_⟩
      · unfold f_X3_lowerRoot_32
        rw [n1, n0, pk_sub (by omega), Nat.add_sub_cancel, tl, jbd_some, if_neg (by rw [nI_eq (by omega) (by omega)]; omega)]
      · unfold f_X5_shrinks_275 f_X5_shrinks_291
        rw [if_neg (by rw [n0, nI_eq (by omega) (by omega)]; omega)]
      · by_cases z : l + 1 < h + 1 + 1
        · exact r l z
        · have z : l = h + 1 := by omega
          subst z
          refine ⟨fun k hk => ?_, fun k hk => by omega⟩
          have : k = 0 := by omega
          subst this
          omega
      · show 2 ≤ e (h + 1) 0
        omega
theorem t_un_join (R : RT h w e loads widths) (hn : 100 ≤ n) {l k q at_ : Nat} {x : Int32} (hl : l < h) (hk : k < w l) (hq : q < w l) (hat : at_ = if q < k then q else k) (hat2 : at_ + 1 < w l) (hs : e l at_ + e l (at_ + 1) ≤ 4) (hpt : f_X3_partner n loads widths (nI h) (nI l) (nI k) x = some (nI q)) : ∃ L W, f_X3_unite n loads widths (nI h) (nI l) (nI k) x = some (1, L, W) ∧ RT h (un w l (w l - 1)) (delE (ue e l at_ (e l at_ + e l (at_ + 1))) l (at_ + 1)) L W := by
  have hw := (R.2.1 l hl).2
  have R0 := R_set R hl (show at_ < w l by omega) (e l at_ + e l (at_ + 1))
  have R2 := R_del R0 hl hat2
  refine ⟨_, _, ?_, R2⟩
  unfold f_X3_unite
  rw [hpt, jbd_some, n0, if_pos (nI_le (by omega) (by omega)), jmin_n (by omega) (by omega), ← hat, t_load R hl (show at_ < w l by omega), jbd_some, n1, nI_add, t_load R hl hat2, jbd_some, n4, nI_add, if_pos (nI_le hs (by omega)), t_setLoad R hl (show at_ < w l by omega), jbd_some, t_deleteNode hn hl R.1 ((R.2.1 l hl).1) hw hat2, jbd_some]
theorem t_un_half (R : RT h w e loads widths) {l k q at_ : Nat} {x : Int32} (hl : l < h) (hk : k < w l) (hq : q < w l) (hat : at_ = if q < k then q else k) (hat2 : at_ + 1 < w l) (hs : 4 < e l at_ + e l (at_ + 1)) (hb : e l at_ + e l (at_ + 1) < 1000) (hpt : f_X3_partner n loads widths (nI h) (nI l) (nI k) x = some (nI q)) : ∃ L, f_X3_unite n loads widths (nI h) (nI l) (nI k) x = some (0, L, widths) ∧ RT h w (hvE e l at_) L widths := by
  have hw := (R.2.1 l hl).2
  obtain ⟨L, h1, h2⟩ := t_halve (n := n) R hl hat2 hb
  refine ⟨L, ?_, h2⟩
  unfold f_X3_unite
  rw [hpt, jbd_some, n0, if_pos (nI_le (by omega) (by omega)), jmin_n (by omega) (by omega), ← hat, t_load R hl (show at_ < w l by omega), jbd_some, n1, nI_add, t_load R hl hat2, jbd_some, n4, nI_add, if_neg (nI_ge hs (by omega)), h1, jbd_some]
theorem t_un_drop (R : RT h w e loads widths) (hn : 100 ≤ n) {l k : Nat} {x : Int32} (hl : l < h) (hk : k < w l) (h0 : e l k = 0) (hpt : f_X3_partner n loads widths (nI h) (nI l) (nI k) x = some jm1) : ∃ L W, f_X3_unite n loads widths (nI h) (nI l) (nI k) x = some (1, L, W) ∧ RT h (un w l (w l - 1)) (delE e l k) L W := by
  have hw := (R.2.1 l hl).2
  have R2 := R_del R hl hk
  refine ⟨_, _, ?_, R2⟩
  unfold f_X3_unite
  rw [hpt, jbd_some, if_neg (by decide), t_load R hl hk, jbd_some, h0, if_pos (by decide), t_deleteNode hn hl R.1 ((R.2.1 l hl).1) hw hk, jbd_some]
theorem t_un_keep (R : RT h w e loads widths) {l k : Nat} {x : Int32} (hl : l < h) (hk : k < w l) (h0 : 1 ≤ e l k) (hb : e l k < 1000) (hpt : f_X3_partner n loads widths (nI h) (nI l) (nI k) x = some jm1) : f_X3_unite n loads widths (nI h) (nI l) (nI k) x = some (0, loads, widths) := by
  unfold f_X3_unite
  rw [hpt, jbd_some, if_neg (by decide), t_load R hl hk, jbd_some, n0, if_neg (nI_ge (by omega) (by omega))]
theorem t_sh_on {l k p fu : Nat} {L W : Nat → Int32} {w1 : Nat → Nat} {e1 : Nat → Nat → Nat} (R : RT h w e loads widths) (hl : l + 1 < h) (hk : k < w l) (h2 : e l k < 2) (hpar : f_X3_parent n loads widths (nI h) (nI l) (nI k) = some (nI p)) (hun : f_X3_unite n loads widths (nI h) (nI l) (nI k) (nI p) = some (1, L, W)) (R1 : RT h w1 e1 L W) (hp : p < w1 (l + 1)) (h1 : 1 ≤ e1 (l + 1) p) :
    ∃ L2, f_X3_shrink_26 n (fu + 1) loads widths (nI h) (nI k) 1 (nI l) = f_X3_shrink_26 n fu L2 W (nI h) (nI p) 1 (nI (l + 1)) ∧ RT h w1 (ue e1 (l + 1) p (e1 (l + 1) p - 1)) L2 W := by
  have q1 := R.1
  have q2 := (R1.2.1 (l + 1) hl).2
  refine ⟨_, ?_, R_set R1 hl hp (e1 (l + 1) p - 1)⟩
  rw [f_X3_shrink_26, if_neg (show ¬ (1 : Int32) = 0 by decide), j_pred (show 1 ≤ h by omega), if_neg (nI_ge (by omega) (by omega)), t_load R (by omega) hk, jbd_some, n2, if_neg (nI_ge h2 (by omega)), hpar, jbd_some, hun, jbd_some, if_neg (show ¬ (1 : Int32) = 0 by decide)]
  unfold f_X3_shrink_97
  rw [n1, nI_add, t_load R1 hl hp, jbd_some, pk_sub h1, t_setLoad R1 hl hp, jbd_some]
theorem t_sh_end {l k fu : Nat} (R : RT h w e loads widths) (hl : l < h) (hk : k < w l) (hb : e l k < 1000) (h4 : h = l + 1 ∨ 2 ≤ e l k) : f_X3_shrink_26 n (fu + 1) loads widths (nI h) (nI k) 1 (nI l) = f_X3_shrink_106 n loads widths (nI h) := by
  have q1 := R.1
  have q2 := (R.2.1 l hl).2
  rw [f_X3_shrink_26, if_neg (show ¬ (1 : Int32) = 0 by decide), j_pred (show 1 ≤ h by omega)]
  by_cases q : h = l + 1
  · rw [if_pos (nI_le (by omega) (by omega))]
  · rw [if_neg (nI_ge (by omega) (by omega)), t_load R hl hk, jbd_some, n2, if_pos (nI_le (by omega) (by omega))]
theorem t_sh_half {l k p fu : Nat} {L : Nat → Int32} (R : RT h w e loads widths) (hl : l + 1 < h) (hk : k < w l) (h2 : e l k < 2) (hpar : f_X3_parent n loads widths (nI h) (nI l) (nI k) = some (nI p)) (hun : f_X3_unite n loads widths (nI h) (nI l) (nI k) (nI p) = some (0, L, widths)) : f_X3_shrink_26 n (fu + 1 + 1) loads widths (nI h) (nI k) 1 (nI l) = f_X3_shrink_106 n L widths (nI h) := by
  have q1 := R.1
  rw [f_X3_shrink_26, if_neg (show ¬ (1 : Int32) = 0 by decide), j_pred (show 1 ≤ h by omega), if_neg (nI_ge (by omega) (by omega)), t_load R (by omega) hk, jbd_some, n2, if_neg (nI_ge h2 (by omega)), hpar, jbd_some, hun, jbd_some, if_pos rfl]
  unfold f_X3_shrink_97
  rw [f_X3_shrink_26, if_pos rfl]
end
