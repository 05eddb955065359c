theorem ig_done {S h : Nat} {w : Nat → Nat} {e : Nat → Nat → Nat} {l k : Nat} (I : IG S h w e l k) (hl : l < h) (hk : k < w l) (h4 : e l k ≤ 4) : IT S h w e := by
  obtain ⟨I1, I2, C, I4, I5⟩ := id I
  refine ⟨I1, by omega, C, fun l' hl' => ?_, I5⟩
  by_cases q : l' = l
  · subst q
    have g := I4 l' hl'
    rw [if_pos rfl] at g
    refine ⟨fun k' hk' => ⟨(g.1 k' hk').1, ?_⟩, g.2⟩
    rcases (g.1 k' hk').2 with a | ⟨a, b⟩
    · exact a
    · rw [a]; exact h4
  · exact ig_rows I hl' q
theorem ig_g {S h : Nat} {w : Nat → Nat} {e : Nat → Nat → Nat} {l k : Nat} (I : IG S h w e l k) (hl : l < h) : ROWg (e l) (w l) k := by
  have g := I.2.2.2.1 l hl
  rw [if_pos rfl] at g
  exact g
theorem ig_le {S h : Nat} {w : Nat → Nat} {e : Nat → Nat → Nat} {l k : Nat} (I : IG S h w e l k) (hl : l < h) {k' : Nat} (hk : k' < w l) : 1 ≤ e l k' ∧ e l k' ≤ 5 := by
  have g := (ig_g I hl).1 k' hk
  omega
theorem ig_sum {S h : Nat} {w : Nat → Nat} {e : Nat → Nat → Nat} {l k : Nat} (I : IG S h w e l k) {l' : Nat} (hl : l' < h) : sm (e l') (w l') ≤ 60 := by
  obtain ⟨I1, I2, C, I4, I5⟩ := id I
  have b := low_w I1 C (fun l hl => IG.low I hl) I5
  cases l' with
  | zero => rw [C.2.2 (by omega)]; exact I1
  | succ m => rw [C.2.1 m hl]; have := b.2 m (by omega); omega
theorem m_g_end {n fu : Nat} {mlevels x3 x4 : Int32} {N E : Nat → Int32} : f_X5_grows_39 n (fu + 1) mlevels N E x3 x4 0 = some (mlevels, N, E) := by
  rw [f_X5_grows_39]
  rw [if_pos rfl]
theorem split_up {e : Nat → Nat → Nat} {l k : Nat} : (insE (ue e l k 3) l (k + 1) 2) l = insR (un (e l) k 3) (k + 1) 2 := by
  rw [insE_same, ue_same]
theorem three_up {e : Nat → Nat → Nat} {l a : Nat} : (insE (ue (ue e l a 3) l (a + 1) 3) l (a + 2) 3) l = insR (un (un (e l) a 3) (a + 1) 3) (a + 2) 3 := by
  rw [insE_same, ue_same, ue_same]
theorem hv_up {e : Nat → Nat → Nat} {l a : Nat} : (hvE e l a) l = un (un (e l) a ((e l a + e l (a + 1) + 1) / 2)) (a + 1) ((e l a + e l (a + 1)) / 2) := by
  unfold hvE
  rw [ue_same, ue_same]
theorem hv_ne {e : Nat → Nat → Nat} {l a l' : Nat} (h : l' ≠ l) : (hvE e l a) l' = e l' := by
  unfold hvE
  rw [ue_ne _ _ _ h, ue_ne _ _ _ h]
theorem ue_at (e : Nat → Nat → Nat) (l k v : Nat) : ue e l k v l k = v := by
  rw [ue_same, un_s]
theorem flag5_hi {v : Nat} (h : 4 < v) : flag5 v = 1 := if_pos h
theorem flag5_lo {v : Nat} (h : v ≤ 4) : flag5 v = 0 := if_neg (by omega)
section
variable {n : Nat}
theorem grow_root (hn : 100 ≤ n) {S h l k : Nat} {w : Nat → Nat} {e : Nat → Nat → Nat} {loads widths nodes entries : Nat → Int32} (fu fu' : Nat) (hl : l + 1 = h) (R : RT h w e loads widths) (M : RM h w e nodes entries) (I : IG S h w e l k) (hk : k < w l) (h5 : e l k = 5) : ∃ h' w' e' L W N E, f_X3_grow_36 n (fu + 1 + 1) loads widths (nI h) (nI k) (nI l) = some (L, W, nI h') ∧ f_X5_grows_39 n (fu' + 1 + 1) (nI h) nodes entries (nI l) (nI k) 1 = some (nI h', N, E) ∧ RT h' w' e' L W ∧ RM h' w' e' N E ∧ IT S h' w' e' := by
  have C := I.2.2.1
  have lw := low_w I.1 C (fun l hl => IG.low I hl) I.2.2.2.2
  have w30 := lw.2 l (by omega)
  have rs := row_split (ig_g I (by omega)) hk h5
  have pt := t_partner_top (n := n) (h := h) (loads := loads) (widths := widths) hn hl (by omega) (show k < 2000 by omega)
  obtain ⟨L, W, a1, a2⟩ := t_rel_none R hn (by omega) hk (by omega) pt
  obtain ⟨N, E, b1, b2⟩ := m_gr_none (fu := fu' + 1) (x8 := 0) M hn (by omega) hk (by omega) (m_partner_top hl M.1 _) (Or.inl ⟨hl, rfl⟩)
  obtain ⟨N2, E2, c1, c2⟩ := m_203_root (n := n) (fu := fu') (x4 := nI k) b2 hl (by omega)
  refine ⟨h + 1, _, _, _, _, N2, E2, t_go_root (fu := fu) hn R hl (by omega) hk (by omega) (by omega) a1 a2, ?_, T_root a2 (by omega) 2, c2, ?_⟩
  · rw [b1, c1]
  · refine it_root I hl ?_ ?_ (fun l' q => ?_)
    · rw [split_up]; exact rs.1
    · rw [split_up]; exact rs.2
    · rw [insE_ne _ _ _ q, ue_ne _ _ _ q]
theorem grow_sim (hn : 100 ≤ n) {S : Nat} : ∀ d {h l k : Nat} {w : Nat → Nat} {e : Nat → Nat → Nat} {loads widths nodes entries : Nat → Int32} (fu fu' : Nat), h = l + d + 1 → d + 3 < fu → d + 3 < fu' → RT h w e loads widths → RM h w e nodes entries → IG S h w e l k → k < w l → ∃ h' w' e' L W N E, f_X3_grow_36 n fu loads widths (nI h) (nI k) (nI l) = some (L, W, nI h') ∧ f_X5_grows_39 n fu' (nI h) nodes entries (nI l) (nI k) (flag5 (e l k)) = some (nI h', N, E) ∧ RT h' w' e' L W ∧ RM h' w' e' N E ∧ IT S h' w' e' := by
  intro d
  induction d with
  | zero =>
    intro h l k w e loads widths nodes entries fu fu' hd hf hf' R M I hk
    obtain ⟨fu, rfl⟩ : ∃ q, fu = q + 1 + 1 := ⟨fu - 2, by omega⟩
    obtain ⟨fu', rfl⟩ : ∃ q, fu' = q + 1 + 1 := ⟨fu' - 2, by omega⟩
    by_cases h5 : e l k ≤ 4
    · rw [flag5_lo h5]
      exact ⟨h, w, e, _, _, _, _, t_go_end (fu := fu + 1) R (by omega) hk h5, m_g_end, R, M, ig_done I (by omega) hk h5⟩
    · have := (ig_le I (show l < h by omega) hk).2
      rw [flag5_hi (by omega)]
      exact grow_root hn fu fu' (by omega) R M I hk (by omega)
  | succ d ih =>
    intro h l k w e loads widths nodes entries fu fu' hd hf hf' R M I hk
    obtain ⟨fu, rfl⟩ : ∃ q, fu = q + 1 + 1 := ⟨fu - 2, by omega⟩
    obtain ⟨fu', rfl⟩ : ∃ q, fu' = q + 1 + 1 := ⟨fu' - 2, by omega⟩
    by_cases h5 : e l k ≤ 4
    · rw [flag5_lo h5]
      exact ⟨h, w, e, _, _, _, _, t_go_end (fu := fu + 1) R (by omega) hk h5, m_g_end, R, M, ig_done I (by omega) hk h5⟩
    · have hl : l + 1 < h := by omega
      have le5 := (ig_le I (show l < h by omega) hk).2
      have e5 : e l k = 5 := by omega
      rw [flag5_hi (by omega)]
      have C := I.2.2.1
      have lw := low_w I.1 C (fun l hl => IG.low I hl) I.2.2.2.2
      have w30 := lw.2 l (by omega)
      have s1 := C.2.1 l hl
      obtain ⟨p, hp, p1, p2⟩ := ex_p (e (l + 1)) (x := k) (w := w (l + 1)) (by omega)
      have par := t_parent R hn hl hp (show k < 2000 by omega) p1 (by omega) p2
      have tp := t_partner R hn hl hp p1 (by omega) p2
      have mp := m_partner M hn hl hp p1 (by omega) p2
      have ab := m_above M hn hl hp (show k < 2000 by omega) p1 (by omega) p2
      have h9 := (ig_rows I hl (show l + 1 ≠ l by omega)).1 p hp
      have wn : un w l (w l + 1) (l + 1) = w (l + 1) := un_n _ _ (by omega)
      have go (e1 : Nat → Nat → Nat) (L W N E : Nat → Int32) (a1 : f_X3_relieve n loads widths (nI h) (nI l) (nI k) (nI p) = some (1, L, W)) (a2 : RT h (un w l (w l + 1)) e1 L W) (b1 : f_X5_grows_39 n (fu' + 1 + 1) (nI h) nodes entries (nI l) (nI k) 1 = f_X5_grows_203 n (f_X5_grows_39 n (fu' + 1)) (nI h) N E (nI l) (nI k) 1 (nI p)) (b2 : RM h (un w l (w l + 1)) e1 N E) (row1 : ROW (e1 l) (w l + 1)) (sum1 : sm (e1 l) (w l + 1) = sm (e l) (w l)) (oth : ∀ l', l' ≠ l → e1 l' = e l') : ∃ h' w' e' L W N E, f_X3_grow_36 n (fu + 1 + 1) loads widths (nI h) (nI k) (nI l) = some (L, W, nI h') ∧ f_X5_grows_39 n (fu' + 1 + 1) (nI h) nodes entries (nI l) (nI k) 1 = some (nI h', N, E) ∧ RT h' w' e' L W ∧ RM h' w' e' N E ∧ IT S h' w' e' := by
        have q9 : e1 (l + 1) p < 1000 := by rw [oth _ (show l + 1 ≠ l by omega)]; omega
        obtain ⟨L2, c1, c2⟩ := t_go_on (fu := fu + 1) hn R hl hk (by omega) (by omega) par a1 a2 (by omega) q9
        obtain ⟨E2, d1, d2⟩ := m_203 (x4 := nI k) (k39 := f_X5_grows_39 n (fu' + 1)) b2 hl (by omega) q9
        have I2 := ig_up I hl hp row1 sum1 oth
        obtain ⟨h', w', e', L3, W3, N3, E3, f1, f2, f3, f4, f5⟩ := ih (fu + 1) (fu' + 1) (by omega) (by omega) (by omega) c2 d2 I2 (by omega)
        refine ⟨h', w', e', L3, W3, N3, E3, ?_, ?_, f3, f4, f5⟩
        · rw [c1, f1]
        · rw [b1, d1]
          rw [ue_at] at f2
          exact f2
      have full (q at_ : Nat) (hq : q < w l) (hqk : q ≠ k) (hat : at_ = if q < k then q else k) (hat2 : at_ + 1 < w l) (hk2 : k = at_ ∨ k = at_ + 1) (hs : e l at_ + e l (at_ + 1) = e l k + e l q) (t1 : f_X3_partner n loads widths (nI h) (nI l) (nI k) (nI p) = some (nI q)) (m1 : f_X5_partner n (nI h) entries (nI l) (nI k) = some (nI q)) : ∃ h' w' e' L W N E, f_X3_grow_36 n (fu + 1 + 1) loads widths (nI h) (nI k) (nI l) = some (L, W, nI h') ∧ f_X5_grows_39 n (fu' + 1 + 1) (nI h) nodes entries (nI l) (nI k) 1 = some (nI h', N, E) ∧ RT h' w' e' L W ∧ RM h' w' e' N E ∧ IT S h' w' e' := by
        have g := ig_g I (show l < h by omega)
        have gq : 1 ≤ e l q ∧ e l q ≤ 4 := by have := g.1 q hq; omega
        by_cases h4 : e l q = 4
        · obtain ⟨L, W, a1, a2⟩ := t_rel_full R hn (by omega) hk hq hat hat2 (by omega) (by omega) (by omega) t1
          obtain ⟨N, E, b1, b2⟩ := m_gr_full (fu := fu' + 1) M hn (by omega) hk hq hqk hat hat2 (by omega) h4 m1 (Or.inr ⟨hl, ab⟩)
          have r3 := row_three g hat2 hk2 (by omega)
          refine go _ L W N E a1 a2 b1 b2 ?_ ?_ (fun l' z => ?_)
          · rw [three_up]; exact r3.1
          · rw [three_up]; exact r3.2
          · rw [insE_ne _ _ _ z, ue_ne _ _ _ z, ue_ne _ _ _ z]
        · obtain ⟨L, a1, a2⟩ := t_rel_half R (by omega) hk hq hat hat2 (by omega) (by omega) t1
          obtain ⟨E, b1, b2⟩ := m_gr_half (fu := fu') M hn (by omega) hk hq hqk hat hat2 (by omega) (by omega) m1 (Or.inr ⟨hl, ab⟩)
          have r4 := row_halve (k0 := k) (fun j hj z => by have := g.1 j hj; omega) (fun j hj z => g.2 j hj) hat2 hk2 (rfl : e l at_ + e l (at_ + 1) = _) (by omega) (by omega)
          have I2 : IT S h w (hvE e l at_) := by
            refine it_half I hl ?_ ?_ (fun l' z => hv_ne z)
            · rw [hv_up]; exact r4.1
            · rw [hv_up]; exact r4.2
          have par9 : (hvE e l at_) (l + 1) p ≤ 4 := by rw [hv_ne (by omega)]; omega
          refine ⟨h, w, _, L, widths, nodes, E, ?_, b1, a2, b2, I2⟩
          rw [t_go_half (fu := fu + 1) R hl hk (by omega) (by omega) par a1]
          exact t_go_end (fu := fu) a2 hl hp par9
      have psum := sm_le (e (l + 1)) (show p + 1 ≤ w (l + 1) by omega)
      by_cases z1 : k + 1 < sm (e (l + 1)) (p + 1)
      · rw [if_pos z1] at tp mp
        refine full (k + 1) k (by omega) (by omega) (by rw [if_neg (by omega)]) (by omega) (Or.inl rfl) rfl tp mp
      · rw [if_neg z1] at tp mp
        by_cases z2 : sm (e (l + 1)) p < k
        · rw [if_pos z2] at tp mp
          refine full (k - 1) (k - 1) (by omega) (by omega) (by rw [if_pos (by omega)]) (by omega) (Or.inr (by omega)) ?_ tp mp
          rw [show k - 1 + 1 = k by omega]
          omega
        · rw [if_neg z2] at tp mp
          have rs := row_split (ig_g I (by omega)) hk e5
          obtain ⟨L, W, a1, a2⟩ := t_rel_none R hn (by omega) hk (by omega) tp
          obtain ⟨N, E, b1, b2⟩ := m_gr_none (fu := fu' + 1) M hn (by omega) hk (by omega) mp (Or.inr ⟨hl, ab⟩)
          refine go _ L W N E a1 a2 b1 b2 ?_ ?_ (fun l' z => ?_)
          · rw [split_up]; exact rs.1
          · rw [split_up]; exact rs.2
          · rw [insE_ne _ _ _ z, ue_ne _ _ _ z]
end
