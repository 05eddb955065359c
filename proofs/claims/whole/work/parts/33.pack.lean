section
variable {n h S : Nat} {w : Nat → Nat} {e : Nat → Nat → Nat} {loads widths nodes entries : Nat → Int32}
def pkv (c k : Nat) : Nat := if c - 4 * k < 4 then c - 4 * k else 4
def pkA (f : Nat → Int32) (b c j W : Nat) : Nat → Int32 := fun i => if b + j ≤ i ∧ i < b + W then nI (pkv c (i - b)) else f i
def pkE (e : Nat → Nat → Nat) (l c : Nat) : Nat → Nat → Nat := fun l' k => if l' = l then pkv c k else e l' k
theorem pkE_same (e : Nat → Nat → Nat) (l c : Nat) : pkE e l c l = pkv c := by
  funext k
  exact if_pos rfl
theorem pkE_ne (e : Nat → Nat → Nat) {l l' : Nat} (c : Nat) (q : l' ≠ l) : pkE e l c l' = e l' := by
  funext k
  exact if_neg q
theorem pkA_0 (f : Nat → Int32) (b c : Nat) {j W : Nat} (q : W ≤ j) : pkA f b c j W = f := by
  funext i
  unfold pkA
  rw [if_neg (by omega)]
theorem pkA_s (f : Nat → Int32) (b c : Nat) {j W : Nat} (q : j < W) : pkA (upd f (b + j) (nI (pkv c j))) b c (j + 1) W = pkA f b c j W := by
  funext i
  unfold pkA
  by_cases z : i = b + j
  · subst z
    rw [if_neg (by omega), if_pos (by omega), pk_us, Nat.add_sub_cancel_left]
  · rw [pk_un z]
    by_cases y : b + j ≤ i ∧ i < b + W
    · rw [if_pos y, if_pos (by omega)]
    · rw [if_neg y, if_neg (by omega)]
theorem pkv_sum (c : Nat) : ∀ j, sm (pkv c) j = if 4 * j ≤ c then 4 * j else c
  | 0 => by rw [if_pos (by omega)]; rfl
  | j + 1 => by
    rw [sm_s, pkv_sum c j]
    unfold pkv
    split <;> split <;> split <;> omega
theorem pkv_row (c : Nat) : ROW (pkv c) ((c + 3) / 4) := by
  refine ⟨fun k hk => ?_, fun k hk => ?_⟩ <;> unfold pkv
  · split <;> omega
  · split <;> omega
theorem t_pk_loop {k9 : (Nat → Int32) → (Nat → Int32) → Int32 → Int32 → Int32 → Option ((Nat → Int32) × (Nat → Int32) × Int32)} {l c W : Nat} (hl : l < 8) (hw : widths l = nI W) (hW : W = (c + 3) / 4) (hc : c ≤ 60) : ∀ d fu j (loads : Nat → Int32), W = j + d → d < fu → f_X3_planAnew_45 n k9 fu loads widths (nI (l + 1)) (nI c) (nI l) (nI W) (nI j) = k9 (pkA loads (l * 60) c j W) widths (nI (l + 1)) (nI (if W ≤ 1 then 0 else W)) (nI (l + 1)) := by
  intro d
  induction d with
  | zero =>
    intro fu j loads hj hf
    obtain ⟨fu, rfl⟩ : ∃ q, fu = q + 1 := ⟨fu - 1, by omega⟩
    rw [pkA_0 _ _ _ (by omega), f_X3_planAnew_45, if_pos (nI_le (by omega) (by omega))]
    unfold f_X3_planAnew_87
    by_cases z : W ≤ 1
    · rw [n1, if_pos (nI_le z (by omega)), if_pos z, nI_add, n0]
    · rw [n1, if_neg (nI_ge (by omega) (by omega)), if_neg z, nI_add]
  | succ d ih =>
    intro fu j loads hj hf
    obtain ⟨fu, rfl⟩ : ∃ q, fu = q + 1 := ⟨fu - 1, by omega⟩
    have v : jmin 4 (nI c - nI j * 4) = nI (pkv c j) := by
      rw [n4, pk_mul, pk_sub (by omega), jmin_n (by omega) (by omega)]
      unfold pkv
      rw [Nat.mul_comm j 4]
    rw [f_X3_planAnew_45, if_neg (nI_ge (by omega) (by omega)), v, u_setLoad (show l < l + 1 by omega) (by omega) hw (by omega) (by omega), jbd_some, n1, nI_add]
    rw [ih fu (j + 1) _ (by omega) (by omega), pkA_s _ _ _ (by omega)]
theorem m_pk_loop {k15 : Int32 → (Nat → Int32) → (Nat → Int32) → Int32 → Int32 → Option (Int32 × Int32 × (Nat → Int32) × (Nat → Int32) × Int32)} {l c W : Nat} {mb t : Int32} (hl : l < 8) (hw : nodes l = nI W) (hW : W = (c + 3) / 4) (hc : c ≤ 60) : ∀ d fu j (entries : Nat → Int32), W = j + d → d < fu → f_X5_pack_49 n mb k15 fu (nI l) nodes entries t (nI c) (nI j) = k15 (nI (l + 1)) nodes (pkA entries (64 * l) c j W) t (nI W) := by
  intro d
  induction d with
  | zero =>
    intro fu j entries hj hf
    obtain ⟨fu, rfl⟩ : ∃ q, fu = q + 1 := ⟨fu - 1, by omega⟩
    rw [pkA_0 _ _ _ (by omega), f_X5_pack_49, jrd_n (by omega) (by omega), hw, if_pos (nI_le (by omega) (by omega)), jrd_n (by omega) (by omega), hw, n1, nI_add]
  | succ d ih =>
    intro fu j entries hj hf
    obtain ⟨fu, rfl⟩ : ∃ q, fu = q + 1 := ⟨fu - 1, by omega⟩
    have g (v : Nat) (hv : v = pkv c j) : f_X5_pack_91 n mb k15 (f_X5_pack_49 n mb k15 fu) (nI l) nodes entries t (nI c) (nI j) (nI (64 * l + j)) (nI v) = k15 (nI (l + 1)) nodes (pkA entries (64 * l) c j W) t (nI W) := by
      unfold f_X5_pack_91
      rw [jwr_n (by omega) (by omega), n1, nI_add, ih fu (j + 1) _ (by omega) (by omega), hv, pkA_s _ _ _ (by omega)]
    rw [f_X5_pack_49, jrd_n (by omega) (by omega), hw, if_neg (nI_ge (by omega) (by omega)), n64, n4, pk_mul, pk_mul, pk_sub (by omega), nI_add]
    by_cases z : c - 4 * j ≤ 4
    · rw [if_pos (nI_le z (by omega)), g _ (by unfold pkv; split <;> omega)]
    · rw [if_neg (nI_ge (by omega) (by omega)), g _ (by unfold pkv; rw [if_neg (by omega)])]
theorem R_pk (R : RT h w e loads widths) (h8 : h < 8) {c W : Nat} (hW : W = (c + 3) / 4) (hc : c ≤ 60) : RT (h + 1) (un w h W) (pkE e h c) (pkA loads (h * 60) c 0 W) (upd widths h (nI W)) := by
  refine ⟨by omega, fun l hl => ?_, fun l k hl hk => ?_⟩
  · by_cases q : l = h
    · subst q
      rw [pk_us, un_s]
      exact ⟨rfl, by omega⟩
    · rw [pk_un q, un_n _ _ q]
      exact R.2.1 l (by omega)
  · unfold pkA
    by_cases q : l = h
    · subst q
      rw [un_s] at hk
      rw [pkE_same, if_pos (by omega), Nat.add_sub_cancel_left]
    · rw [un_n _ _ q] at hk
      have := R.2.1 l (by omega)
      rw [pkE_ne _ _ q, if_neg (by omega)]
      exact R.2.2 l k (by omega) hk
theorem M_pk (R : RM h w e nodes entries) (h8 : h < 8) {c W : Nat} (hW : W = (c + 3) / 4) (hc : c ≤ 60) : RM (h + 1) (un w h W) (pkE e h c) (upd nodes h (nI W)) (pkA entries (64 * h) c 0 W) := by
  refine ⟨by omega, fun l hl => ?_, fun l k hl hk => ?_⟩
  · by_cases q : l = h
    · subst q
      rw [pk_us, un_s]
      exact ⟨rfl, by omega⟩
    · rw [pk_un q, un_n _ _ q]
      exact R.2.1 l (by omega)
  · unfold pkA
    by_cases q : l = h
    · subst q
      rw [un_s] at hk
      rw [pkE_same, if_pos (by omega), Nat.add_sub_cancel_left]
    · rw [un_n _ _ q] at hk
      have := R.2.1 l (by omega)
      rw [pkE_ne _ _ q, if_neg (by omega)]
      exact R.2.2 l k (by omega) hk
def PKI (S l : Nat) (w : Nat → Nat) (e : Nat → Nat → Nat) (c : Nat) : Prop := S ≤ 60 ∧ 1 ≤ c ∧ (l = 0 → c = S) ∧ (0 < l → w (l - 1) = c ∧ sm (e 0) (w 0) = S) ∧ (∀ l', l' + 1 < l → sm (e (l' + 1)) (w (l' + 1)) = w l') ∧ (∀ l', l' < l → ROW (e l') (w l')) ∧ (2 ≤ l → 2 ≤ e (l - 1) 0)
theorem pki_up {l c : Nat} (I : PKI S l w e c) (hc : l = 0 ∨ 2 ≤ c) : PKI S (l + 1) (un w l ((c + 3) / 4)) (pkE e l c) ((c + 3) / 4) := by
  obtain ⟨I1, I2, I3, I4, I5, I6, I7⟩ := I
  have s : sm (pkv c) ((c + 3) / 4) = c := by
    rw [pkv_sum]
    split <;> omega
  refine ⟨I1, by omega, fun z => by omega, fun _ => ⟨un_s _ _ _, ?_⟩, fun l' hl' => ?_, fun l' hl' => ?_, fun z => ?_⟩
  · by_cases q : l = 0
    · subst q
      rw [un_s, pkE_same, s, I3 rfl]
    · rw [un_n _ _ (by omega), pkE_ne _ _ (by omega)]
      exact (I4 (by omega)).2
  · by_cases q : l' + 1 = l
    · subst q
      rw [un_s, un_n _ _ (by omega), pkE_same, s]
      exact (I4 (by omega)).1.symm
    · rw [un_n _ _ q, un_n _ _ (by omega), pkE_ne _ _ q]
      exact I5 l' (by omega)
  · by_cases q : l' = l
    · subst q
      rw [un_s, pkE_same]
      exact pkv_row c
    · rw [un_n _ _ q, pkE_ne _ _ q]
      exact I6 l' (by omega)
  · rw [Nat.add_sub_cancel, pkE_same]
    unfold pkv
    split <;> omega
theorem pki_end {l : Nat} (I : PKI S l w e 1) (hl : 0 < l) : IT S l w e := by
  obtain ⟨I1, I2, I3, I4, I5, I6, I7⟩ := I
  have r := I6 0 hl
  have s := (I4 hl).2
  have S0 : 0 < S := by
    have C : CORE S l w e := ⟨fun _ => (I4 hl).1, I5, fun _ => s⟩
    have wp := w_pos C (fun l k hl hk => ((I6 l hl).1 k hk).1) (l - 1) 0 (by omega)
    have m1 := sm_le (e 0) (show 1 ≤ w 0 by omega)
    have := (r.1 0 (by omega)).1
    rw [sm_s] at m1
    omega
  exact ⟨I1, by omega, ⟨fun _ => (I4 hl).1, I5, fun _ => s⟩, I6, I7⟩
theorem pack_sim (hn : 100 ≤ n) {t : Int32} : ∀ d {l c : Nat} {w : Nat → Nat} {e : Nat → Nat → Nat} {loads widths nodes entries : Nat → Int32} (fu fu' : Nat), l + d = 4 → d + 1 < fu → d + 1 < fu' → (l = 0 ∧ c ≤ 60 ∨ l = 1 ∧ c ≤ 15 ∨ l = 2 ∧ c ≤ 4 ∨ l = 3 ∧ c ≤ 1) → RT l w e loads widths → RM l w e nodes entries → PKI S l w e c → ∃ h' w' e' L W N E, f_X3_planAnew_9 n fu loads widths (nI l) (nI (if 0 < l ∧ c ≤ 1 then 0 else c)) (nI l) = some (L, W, nI h') ∧ f_X5_pack_15 n (nI S) fu' (nI l) nodes entries t (nI c) = some (nI (w' 0), nI h', N, E, t) ∧ RT h' w' e' L W ∧ RM h' w' e' N E ∧ IT S h' w' e' ∧ 0 < h' := by
  intro d
  induction d with
  | zero =>
    intro l c w e loads widths nodes entries fu fu' hd hf hf' hc R M I
    omega
  | succ d ih =>
    intro l c w e loads widths nodes entries fu fu' hd hf hf' hc R M I
    obtain ⟨fu, rfl⟩ : ∃ q, fu = q + 1 := ⟨fu - 1, by omega⟩
    obtain ⟨fu', rfl⟩ : ∃ q, fu' = q + 1 := ⟨fu' - 1, by omega⟩
    have c1 : 1 ≤ c := I.2.1
    have S60 := I.1
    by_cases q : 0 < l ∧ c ≤ 1
    · have : c = 1 := by omega
      subst this
      have T := pki_end I q.1
      have S0 := T.2.1
      have r := M.2.1 0 q.1
      refine ⟨l, w, e, loads, widths, nodes, entries, ?_, ?_, R, M, T, q.1⟩
      · rw [if_pos q, f_X3_planAnew_9, n8, if_neg (nI_ge (by omega) (by omega)), if_pos (by decide)]
      · rw [f_X5_pack_15, if_neg (show ¬ (1 : Int32) < nI 1 by decide), if_neg (show ¬ nI 1 ≤ (0 : Int32) by decide), if_neg (show ¬ nI l = 0 by rw [n0, nI_eq (by omega) (by omega)]; omega)]
        unfold f_X5_pack_121
        rw [if_neg (show ¬ nI S = 0 by rw [n0, nI_eq (by omega) (by omega)]; omega), n0, jrd_n (by omega) (by omega), r.1]
    · have R1 := R_pk R (by omega) (c := c) rfl (by omega)
      have M1 := M_pk M (by omega) (c := c) rfl (by omega)
      have I1 := pki_up I (by omega)
      obtain ⟨h', w', e', L, W, N, E, a, b, x1, x2, x3, x4⟩ := ih fu fu' (by omega) (by omega) (by omega) (by omega) R1 M1 I1
      refine ⟨h', w', e', L, W, N, E, ?_, ?_, x1, x2, x3, x4⟩
      · have z : (if 0 < l + 1 ∧ (c + 3) / 4 ≤ 1 then 0 else (c + 3) / 4) = (if (c + 3) / 4 ≤ 1 then 0 else (c + 3) / 4) := by
          by_cases y : (c + 3) / 4 ≤ 1
          · rw [if_pos y, if_pos ⟨by omega, y⟩]
          · rw [if_neg y, if_neg (by omega)]
        rw [z] at a
        rw [if_neg q, f_X3_planAnew_9, n8, if_neg (nI_ge (by omega) (by omega)), n0, if_neg (nI_ge (by omega) (by omega)), n4, n1, nI_add, pk_sub (by omega), j_div4 (by omega), show c + 4 - 1 = c + 3 by omega, t_setWidth (by omega), jbd_some, nI_add]
        rw [t_pk_loop (l := l) (c := c) (by omega) pk_us rfl (by omega) ((c + 3) / 4) n 0 loads (by omega) (by omega), a]
      · have y : f_X5_pack_31 n (nI S) (f_X5_pack_15 n (nI S) fu') (nI l) nodes entries t (nI c) = some (nI (w' 0), nI h', N, E, t) := by
          unfold f_X5_pack_31
          rw [jwr_n (by omega) (by omega), n4, n1, nI_add, pk_sub (by omega), j_div4 (by omega), show c + 4 - 1 = c + 3 by omega, n0, m_pk_loop (l := l) (c := c) (by omega) pk_us rfl (by omega) ((c + 3) / 4) n 0 entries (by omega) (by omega), b]
        rw [f_X5_pack_15]
        by_cases z : 1 < c
        · rw [n1, if_pos (show nI 1 < nI c by rw [nI_ltI (by omega) (by omega)]; omega), y]
        · rw [n1, if_neg (show ¬ nI 1 < nI c by rw [nI_ltI (by omega) (by omega)]; omega), n0, if_neg (nI_ge (by omega) (by omega)), if_pos (show nI l = nI 0 by rw [show l = 0 by omega]), y]
end
