section
variable {n : Nat}
theorem flagS_0 {h l v : Nat} (q : h ≤ l + 1 ∨ 2 ≤ v) : flagS h l v = 0 := by
  unfold flagS
  by_cases z : h ≤ l + 1
  · rw [if_pos z]
  · rw [if_neg z, if_pos (by omega)]
theorem flagS_1 {h l v : Nat} (q : l + 1 < h) (q2 : v < 2) : flagS h l v = 1 := by
  unfold flagS
  rw [if_neg (by omega), if_neg (by omega)]
theorem m_s_end {fu : Nat} {mb mlevels x2 x3 : Int32} {N E : Nat → Int32} : f_X5_shrinks_41 n mb (fu + 1) mlevels N E x2 x3 0 = f_X5_shrinks_239 n mb n mlevels N E := by
  rw [f_X5_shrinks_41]
  rw [if_pos rfl]
theorem shrink_sim (hn : 100 ≤ n) {S : Nat} : ∀ d {h l k : Nat} {w : Nat → Nat} {e : Nat → Nat → Nat} {loads widths nodes entries : Nat → Int32} (fu fu' : Nat), h = l + d + 1 → d + 3 < fu → d + 3 < fu' → RT h w e loads widths → RM h w e nodes entries → IS S h w e l k → k < w l → ∃ h' w' e' L W N E, f_X3_shrink_26 n fu loads widths (nI h) (nI k) 1 (nI l) = some (L, W, nI h') ∧ f_X5_shrinks_41 n (nI S) fu' (nI h) nodes entries (nI l) (nI k) (flagS h l (e l k)) = some (nI h', N, E) ∧ RT h' w' e' L W ∧ RM h' w' e' N E ∧ IT S h' w' e' := by
  intro d
  induction d with
  | zero =>
    intro h l k w e loads widths nodes entries fu fu' hd hf hf' R M I hk
    obtain ⟨fu, rfl⟩ : ∃ q, fu = q + 1 + 1 := ⟨fu - 2, by omega⟩
    obtain ⟨fu', rfl⟩ : ∃ q, fu' = q + 1 + 1 := ⟨fu' - 2, by omega⟩
    obtain ⟨h', a, b, c, d, f⟩ := end_sim hn R M (il_top I (by omega))
    have lo := ((is_row I (by omega)).1 k hk).2
    refine ⟨h', w, e, loads, widths, nodes, entries, ?_, ?_, c, d, f⟩
    · rw [t_sh_end R (by omega) hk (by omega) (Or.inl (by omega)), a]
    · rw [flagS_0 (Or.inl (by omega)), m_s_end, b]
  | succ d ih =>
    intro h l k w e loads widths nodes entries fu fu' hd hf hf' R M I hk
    obtain ⟨fu, rfl⟩ : ∃ q, fu = q + 1 + 1 := ⟨fu - 2, by omega⟩
    obtain ⟨fu', rfl⟩ : ∃ q, fu' = q + 1 + 1 := ⟨fu' - 2, by omega⟩
    have hl : l + 1 < h := by omega
    have rs := is_row I (show l < h by omega)
    have lo := (rs.1 k hk).2
    have w60 := (R.2.1 l (by omega)).2
    by_cases h2 : 2 ≤ e l k
    · obtain ⟨h', a, b, c, d, f⟩ := end_sim hn R M (il_half I hl (row_keep rs (by omega) (Or.inr h2)) rfl (fun _ _ => rfl))
      refine ⟨h', w, e, loads, widths, nodes, entries, ?_, ?_, c, d, f⟩
      · rw [t_sh_end R (by omega) hk (by omega) (Or.inr h2), a]
      · rw [flagS_0 (Or.inr h2), m_s_end, b]
    · rw [flagS_1 hl (by omega)]
      have C := I.2.2.1
      have s1 := C.2.1 l hl
      obtain ⟨p, hp, p1, p2⟩ := ex_p (e (l + 1)) (x := k) (w := w (l + 1)) (by omega)
      have par := t_parent R hn hl hp (show k < 2000 by omega) p1 (by omega) p2
      have tp := t_partner R hn hl hp p1 (by omega) p2
      have mp := m_partner M hn hl hp p1 (by omega) p2
      have ab := m_above M hn hl hp (show k < 2000 by omega) p1 (by omega) p2
      have hr := is_rows I hl (show l + 1 ≠ l by omega)
      have h9 := hr.1 p hp
      have wn : un w l (w l - 1) (l + 1) = w (l + 1) := un_n _ _ (by omega)
      have psum := sm_le (e (l + 1)) (show p + 1 ≤ w (l + 1) by omega)
      have go (e1 : Nat → Nat → Nat) (L W N E : Nat → Int32) (a1 : f_X3_unite n loads widths (nI h) (nI l) (nI k) (nI p) = some (1, L, W)) (a2 : RT h (un w l (w l - 1)) e1 L W) (b1 : f_X5_shrinks_41 n (nI S) (fu' + 1 + 1) (nI h) nodes entries (nI l) (nI k) 1 = f_X5_shrinks_41 n (nI S) (fu' + 1) (nI h) N E (nI (l + 1)) (nI p) (flagS h (l + 1) (e (l + 1) p - 1))) (b2 : RM h (un w l (w l - 1)) (ue e1 (l + 1) p (e1 (l + 1) p - 1)) N E) (row1 : ROW (e1 l) (w l - 1)) (sum1 : sm (e1 l) (w l - 1) = sm (e l) (w l)) (oth : ∀ l', l' ≠ l → e1 l' = e l') : ∃ h' w' e' L W N E, f_X3_shrink_26 n (fu + 1 + 1) loads widths (nI h) (nI k) 1 (nI l) = some (L, W, nI h') ∧ f_X5_shrinks_41 n (nI S) (fu' + 1 + 1) (nI h) nodes entries (nI l) (nI k) 1 = some (nI h', N, E) ∧ RT h' w' e' L W ∧ RM h' w' e' N E ∧ IT S h' w' e' := by
        have e2 : e1 (l + 1) = e (l + 1) := oth _ (by omega)
        obtain ⟨L2, c1, c2⟩ := t_sh_on (fu := fu + 1) R hl hk (by omega) par a1 a2 (by omega) (by rw [e2]; omega)
        have I2 := is_up I hl hp (by omega) row1 sum1 oth
        obtain ⟨h', w', e', L3, W3, N3, E3, f1, f2, f3, f4, f5⟩ := ih (fu + 1) (fu' + 1) (by omega) (by omega) (by omega) c2 b2 I2 (by omega)
        refine ⟨h', w', e', L3, W3, N3, E3, ?_, ?_, f3, f4, f5⟩
        · rw [c1, f1]
        · rw [b1]
          rw [ue_at, e2] at f2
          exact f2
      have full (q a : Nat) (hq : q < w l) (hqk : q ≠ k) (hat : a = if q < k then q else k) (hat2 : a + 1 < w l) (hk2 : k = a ∨ k = a + 1) (hs : e l a + e l (a + 1) = e l k + e l q) (t1 : f_X3_partner n loads widths (nI h) (nI l) (nI k) (nI p) = some (nI q)) (m1 : f_X5_partner n (nI h) entries (nI l) (nI k) = some (nI q)) : ∃ h' w' e' L W N E, f_X3_shrink_26 n (fu + 1 + 1) loads widths (nI h) (nI k) 1 (nI l) = some (L, W, nI h') ∧ f_X5_shrinks_41 n (nI S) (fu' + 1 + 1) (nI h) nodes entries (nI l) (nI k) 1 = some (nI h', N, E) ∧ RT h' w' e' L W ∧ RM h' w' e' N E ∧ IT S h' w' e' := by
        have gq := rs.1 q hq
        by_cases h4 : e l a + e l (a + 1) ≤ 4
        · obtain ⟨L, W, a1, a2⟩ := t_un_join R hn (by omega) hk hq hat hat2 h4 t1
          obtain ⟨N, E, b1, b2⟩ := m_sh_join (mb := nI S) (fu := fu' + 1) M hn hl hk hq hqk hat hat2 hs (by omega) m1 ab hp (by omega) (by omega)
          have r3 := row_join rs hat2 hk2 rfl h4
          refine go _ L W N E a1 a2 b1 b2 ?_ ?_ (fun l' z => ?_)
          · rw [delE_same, ue_same]; exact r3.1
          · rw [delE_same, ue_same]; exact r3.2
          · rw [delE_ne _ _ z, ue_ne _ _ _ z]
        · obtain ⟨L, a1, a2⟩ := t_un_half R (by omega) hk hq hat hat2 (by omega) (by omega) t1
          obtain ⟨E, b1, b2⟩ := m_sh_half (mb := nI S) (fu := fu') M hl hk hq hqk hat hat2 hs (by omega) (by omega) m1 ab
          have r4 := row_halve (k0 := k) (fun j hj z => by have := rs.1 j hj; omega) (fun j hj z => by have := rs.2 j hj; omega) hat2 hk2 (rfl : e l a + e l (a + 1) = _) (by omega) (by omega)
          have I2 : IL S h w (hvE e l a) := by
            refine il_half I hl ?_ ?_ (fun l' z => hv_ne z)
            · rw [hv_up]; exact r4.1
            · rw [hv_up]; exact r4.2
          obtain ⟨h', x1, x2, x3, x4, x5⟩ := end_sim hn a2 b2 I2
          refine ⟨h', w, _, L, widths, nodes, E, ?_, ?_, x3, x4, x5⟩
          · rw [t_sh_half R hl hk (by omega) par a1, x1]
          · rw [b1, x2]
      by_cases z1 : k + 1 < sm (e (l + 1)) (p + 1)
      · rw [if_pos z1] at tp mp
        exact full (k + 1) k (by omega) (by omega) (by rw [if_neg (by omega)]) (by omega) (Or.inl rfl) rfl tp mp
      · rw [if_neg z1] at tp mp
        by_cases z2 : sm (e (l + 1)) p < k
        · rw [if_pos z2] at tp mp
          refine full (k - 1) (k - 1) (by omega) (by omega) (by rw [if_pos (by omega)]) (by omega) (Or.inr (by omega)) ?_ tp mp
          rw [show k - 1 + 1 = k by omega]
          omega
        · rw [if_neg z2] at tp mp
          rw [sm_s] at p2 z1
          have pl : p + 1 = w (l + 1) := by
            by_cases z : p + 1 = w (l + 1)
            · exact z
            · have := hr.2 p (by omega); omega
          have kl : k + 1 = w l := by
            rw [← s1, ← pl, sm_s]
            omega
          by_cases h0 : e l k = 0
          · obtain ⟨L, W, a1, a2⟩ := t_un_drop R hn (by omega) hk h0 tp
            obtain ⟨N, E, b1, b2⟩ := m_sh_drop (mb := nI S) (fu := fu' + 1) M hn hl hk h0 mp ab hp (by omega) (by omega)
            have r3 := row_drop rs kl h0
            refine go _ L W N E a1 a2 b1 b2 ?_ ?_ (fun l' z => ?_)
            · rw [delE_same]; exact r3.1
            · rw [delE_same]; exact r3.2
            · rw [delE_ne _ _ z]
          · have a1 := t_un_keep R (show l < h by omega) hk (by omega) (by omega) tp
            have b1 := m_sh_keep (n := n) (mb := nI S) (fu := fu') M hl hk (by omega) (by omega) mp ab
            obtain ⟨h', x1, x2, x3, x4, x5⟩ := end_sim hn R M (il_half I hl (row_keep rs (by omega) (Or.inl kl)) rfl (fun _ _ => rfl))
            refine ⟨h', w, e, loads, widths, nodes, entries, ?_, ?_, x3, x4, x5⟩
            · rw [t_sh_half R hl hk (by omega) par a1, x1]
            · rw [b1, x2]
end
