/-! ===== the tree's invariant ===== -/
def insR (f : Nat → Nat) (at_ v : Nat) : Nat → Nat := fun k => if k < at_ then f k else if k = at_ then v else f (k - 1)
def delR (f : Nat → Nat) (at_ : Nat) : Nat → Nat := fun k => if k < at_ then f k else f (k + 1)
theorem ue_same (e : Nat → Nat → Nat) (l k v : Nat) : ue e l k v l = un (e l) k v := by
  funext x
  unfold ue un
  by_cases h : x = k
  · rw [if_pos ⟨rfl, h⟩, if_pos h]
  · rw [if_neg (fun q => h q.2), if_neg h]
theorem ue_ne (e : Nat → Nat → Nat) {l l' : Nat} (k v : Nat) (h : l' ≠ l) : ue e l k v l' = e l' := by
  funext x
  unfold ue
  rw [if_neg (fun q => h q.1)]
theorem insE_same (e : Nat → Nat → Nat) (l at_ v : Nat) : insE e l at_ v l = insR (e l) at_ v := by
  funext x
  unfold insE insR
  rw [if_pos rfl]
theorem insE_ne (e : Nat → Nat → Nat) {l l' : Nat} (at_ v : Nat) (h : l' ≠ l) : insE e l at_ v l' = e l' := by
  funext x
  unfold insE
  rw [if_neg h]
theorem delE_same (e : Nat → Nat → Nat) (l at_ : Nat) : delE e l at_ l = delR (e l) at_ := by
  funext x
  unfold delE delR
  rw [if_pos rfl]
theorem delE_ne (e : Nat → Nat → Nat) {l l' : Nat} (at_ : Nat) (h : l' ≠ l) : delE e l at_ l' = e l' := by
  funext x
  unfold delE
  rw [if_neg h]
theorem un_s (f : Nat → Nat) (k v : Nat) : un f k v k = v := by unfold un; rw [if_pos rfl]
theorem un_n (f : Nat → Nat) {k j : Nat} (v : Nat) (h : j ≠ k) : un f k v j = f j := by unfold un; rw [if_neg h]
theorem sm_s (f : Nat → Nat) (k : Nat) : sm f (k + 1) = sm f k + f k := rfl
theorem sm_un_out (f : Nat → Nat) {k n : Nat} (v : Nat) (h : n ≤ k) : sm (un f k v) n = sm f n := sm_cong (fun j hj => un_n f v (by omega))
theorem sm_un (f : Nat → Nat) {k n : Nat} (v : Nat) (h : k < n) : sm (un f k v) n + f k = sm f n + v := by
  induction n with
  | zero => omega
  | succ n ih =>
    rw [sm_s, sm_s]
    by_cases q : k = n
    · subst q
      rw [un_s, sm_un_out f v (Nat.le_refl _)]
      omega
    · rw [un_n f v (by omega)]
      have := ih (by omega)
      omega
theorem sm_ins_lo (f : Nat → Nat) {at_ n : Nat} (v : Nat) (h : n ≤ at_) : sm (insR f at_ v) n = sm f n := sm_cong (fun j hj => by unfold insR; rw [if_pos (by omega)])
theorem sm_ins (f : Nat → Nat) {at_ n : Nat} (v : Nat) (h : at_ ≤ n) : sm (insR f at_ v) (n + 1) = sm f n + v := by
  induction n with
  | zero =>
    have : at_ = 0 := by omega
    subst this
    rfl
  | succ n ih =>
    rw [sm_s]
    by_cases q : at_ = n + 1
    · subst q
      rw [sm_ins_lo f v (Nat.le_refl _)]
      unfold insR
      rw [if_neg (by omega), if_pos rfl]
    · rw [ih (by omega), sm_s]
      have : insR f at_ v (n + 1) = f n := by
        unfold insR
        rw [if_neg (by omega), if_neg (by omega), Nat.add_sub_cancel]
      omega
theorem sm_del_lo (f : Nat → Nat) {at_ n : Nat} (h : n ≤ at_) : sm (delR f at_) n = sm f n := sm_cong (fun j hj => by unfold delR; rw [if_pos (by omega)])
theorem sm_del (f : Nat → Nat) {at_ n : Nat} (h : at_ < n) : sm (delR f at_) (n - 1) + f at_ = sm f n := by
  induction n with
  | zero => omega
  | succ n ih =>
    rw [Nat.add_sub_cancel]
    by_cases q : at_ = n
    · subst q
      rw [sm_del_lo f (Nat.le_refl _)]
      rfl
    · have h1 := ih (by omega)
      obtain ⟨n, rfl⟩ : ∃ z, n = z + 1 := ⟨n - 1, by omega⟩
      rw [Nat.add_sub_cancel] at h1
      rw [sm_s, sm_s f (n + 1)]
      have : delR f at_ n = f (n + 1) := by
        unfold delR
        rw [if_neg (by omega)]
      omega
/-- a row of nodes as it should be: 1 to 4 entries, 2 at least in all but the last -/
def ROW (f : Nat → Nat) (n : Nat) : Prop := (∀ k, k < n → 1 ≤ f k ∧ f k ≤ 4) ∧ ∀ k, k + 1 < n → 2 ≤ f k
/-- .. but for the node k0, that may have 5 -/
def ROWg (f : Nat → Nat) (n k0 : Nat) : Prop := (∀ k, k < n → 1 ≤ f k ∧ (f k ≤ 4 ∨ k = k0 ∧ f k ≤ 5)) ∧ ∀ k, k + 1 < n → 2 ≤ f k
/-- .. but for the node k0, that may have fewer -/
def ROWs (f : Nat → Nat) (n k0 : Nat) : Prop := (∀ k, k < n → (1 ≤ f k ∨ k = k0) ∧ f k ≤ 4) ∧ ∀ k, k + 1 < n → 2 ≤ f k ∨ k = k0
theorem ROW.low {f : Nat → Nat} {n : Nat} (h : ∀ k, k + 1 < n → 2 ≤ f k) (h1 : ∀ k, k < n → 1 ≤ f k) : 2 * n ≤ sm f n + 1 := by
  have low2 : ∀ m, m < n → 2 * m ≤ sm f m := by
    intro m
    induction m with
    | zero => intro _; omega
    | succ m ih =>
      intro hm
      have := ih (by omega)
      have := h m hm
      rw [sm_s]
      omega
  cases n with
  | zero => omega
  | succ n =>
    have := low2 n (by omega)
    have := h1 n (by omega)
    rw [sm_s]
    omega
theorem row_split {f : Nat → Nat} {n k0 : Nat} (h : ROWg f n k0) (hk : k0 < n) (h5 : f k0 = 5) : ROW (insR (un f k0 3) (k0 + 1) 2) (n + 1) ∧ sm (insR (un f k0 3) (k0 + 1) 2) (n + 1) = sm f n := by
  refine ⟨⟨fun k hkn => ?_, fun k hkn => ?_⟩, ?_⟩
  · unfold insR
    by_cases q1 : k < k0 + 1
    · rw [if_pos q1]
      by_cases q2 : k = k0
      · rw [q2, un_s]; omega
      · rw [un_n f 3 q2]; have := h.1 k (by omega); omega
    · rw [if_neg q1]
      by_cases q3 : k = k0 + 1
      · rw [if_pos q3]; omega
      · rw [if_neg q3, un_n f 3 (by omega)]; have := h.1 (k - 1) (by omega); omega
  · unfold insR
    by_cases q1 : k < k0 + 1
    · rw [if_pos q1]
      by_cases q2 : k = k0
      · rw [q2, un_s]; omega
      · rw [un_n f 3 q2]; exact h.2 k (by omega)
    · rw [if_neg q1]
      by_cases q3 : k = k0 + 1
      · rw [if_pos q3]; omega
      · rw [if_neg q3, un_n f 3 (by omega)]; exact h.2 (k - 1) (by omega)
  · rw [sm_ins _ _ (by omega)]
    have := sm_un f 3 hk
    omega
theorem row_three {f : Nat → Nat} {n k0 at_ : Nat} (h : ROWg f n k0) (hat : at_ + 1 < n) (hk : k0 = at_ ∨ k0 = at_ + 1) (h9 : f at_ + f (at_ + 1) = 9) : ROW (insR (un (un f at_ 3) (at_ + 1) 3) (at_ + 2) 3) (n + 1) ∧ sm (insR (un (un f at_ 3) (at_ + 1) 3) (at_ + 2) 3) (n + 1) = sm f n := by
  have g : ∀ k, k ≠ k0 → k < n → f k ≤ 4 := fun k q hk => by have := h.1 k hk; omega
  refine ⟨⟨fun k hkn => ?_, fun k hkn => ?_⟩, ?_⟩
  · unfold insR
    by_cases q1 : k < at_ + 2
    · rw [if_pos q1]
      by_cases q2 : k = at_ + 1
      · rw [q2, un_s]; omega
      · rw [un_n _ 3 q2]
        by_cases q3 : k = at_
        · rw [q3, un_s]; omega
        · rw [un_n f 3 q3]; have := h.1 k (by omega); have := g k (by omega) (by omega); omega
    · rw [if_neg q1]
      by_cases q3 : k = at_ + 2
      · rw [if_pos q3]; omega
      · rw [if_neg q3, un_n _ 3 (by omega), un_n f 3 (by omega)]; have := h.1 (k - 1) (by omega); have := g (k - 1) (by omega) (by omega); omega
  · unfold insR
    by_cases q1 : k < at_ + 2
    · rw [if_pos q1]
      by_cases q2 : k = at_ + 1
      · rw [q2, un_s]; omega
      · rw [un_n _ 3 q2]
        by_cases q3 : k = at_
        · rw [q3, un_s]; omega
        · rw [un_n f 3 q3]; exact h.2 k (by omega)
    · rw [if_neg q1]
      by_cases q3 : k = at_ + 2
      · rw [if_pos q3]; omega
      · rw [if_neg q3, un_n _ 3 (by omega), un_n f 3 (by omega)]; exact h.2 (k - 1) (by omega)
  · rw [sm_ins _ _ (by omega)]
    have h1 := sm_un f 3 (show at_ < n by omega)
    have h2 := sm_un (un f at_ 3) 3 hat
    rw [un_n f 3 (by omega)] at h2
    omega
theorem row_halve {f : Nat → Nat} {n k0 at_ B : Nat} (h : ∀ k, k < n → k ≠ k0 → 1 ≤ f k ∧ f k ≤ 4) (h2 : ∀ k, k + 1 < n → k ≠ k0 → 2 ≤ f k) (hat : at_ + 1 < n) (hk : k0 = at_ ∨ k0 = at_ + 1) (hB : f at_ + f (at_ + 1) = B) (h5 : 5 ≤ B) (h8 : B ≤ 8) : ROW (un (un f at_ ((B + 1) / 2)) (at_ + 1) (B / 2)) n ∧ sm (un (un f at_ ((B + 1) / 2)) (at_ + 1) (B / 2)) n = sm f n := by
  refine ⟨⟨fun k hkn => ?_, fun k hkn => ?_⟩, ?_⟩
  · by_cases q2 : k = at_ + 1
    · rw [q2, un_s]; omega
    · rw [un_n _ _ q2]
      by_cases q3 : k = at_
      · rw [q3, un_s]; omega
      · rw [un_n f _ q3]; exact h k hkn (by omega)
  · by_cases q2 : k = at_ + 1
    · rw [q2, un_s]; omega
    · rw [un_n _ _ q2]
      by_cases q3 : k = at_
      · rw [q3, un_s]; omega
      · rw [un_n f _ q3]; exact h2 k hkn (by omega)
  · have h1 := sm_un f ((B + 1) / 2) (show at_ < n by omega)
    have h2 := sm_un (un f at_ ((B + 1) / 2)) (B / 2) hat
    rw [un_n f _ (by omega)] at h2
    omega
theorem row_gain {f : Nat → Nat} {n p : Nat} (h : ROW f n) (hp : p < n) : ROWg (un f p (f p + 1)) n p ∧ sm (un f p (f p + 1)) n = sm f n + 1 := by
  refine ⟨⟨fun k hkn => ?_, fun k hkn => ?_⟩, ?_⟩
  · by_cases q2 : k = p
    · have := h.1 p hp
      rw [q2, un_s]; omega
    · rw [un_n _ _ q2]; have := h.1 k hkn; omega
  · by_cases q2 : k = p
    · have := h.2 k hkn
      subst q2
      rw [un_s]; omega
    · rw [un_n _ _ q2]; exact h.2 k hkn
  · have h1 := sm_un f (f p + 1) hp
    omega
/-- the whole tree's, but for the rows themselves -/
def CORE (S h : Nat) (w : Nat → Nat) (e : Nat → Nat → Nat) : Prop := (0 < h → w (h - 1) = 1) ∧ (∀ l, l + 1 < h → sm (e (l + 1)) (w (l + 1)) = w l) ∧ (0 < h → sm (e 0) (w 0) = S)
def IT (S h : Nat) (w : Nat → Nat) (e : Nat → Nat → Nat) : Prop := S ≤ 60 ∧ (h = 0 ↔ S = 0) ∧ CORE S h w e ∧ (∀ l, l < h → ROW (e l) (w l)) ∧ (2 ≤ h → 2 ≤ e (h - 1) 0)
def IG (S h : Nat) (w : Nat → Nat) (e : Nat → Nat → Nat) (l0 k0 : Nat) : Prop := S ≤ 60 ∧ 0 < S ∧ CORE S h w e ∧ (∀ l, l < h → if l = l0 then ROWg (e l) (w l) k0 else ROW (e l) (w l)) ∧ (2 ≤ h → 2 ≤ e (h - 1) 0)
theorem IG.low {S h : Nat} {w : Nat → Nat} {e : Nat → Nat → Nat} {l0 k0 : Nat} (I : IG S h w e l0 k0) {l : Nat} (hl : l < h) : 2 * w l ≤ sm (e l) (w l) + 1 := by
  have := I.2.2.2.1 l hl
  split at this
  · exact ROW.low this.2 (fun k hk => (this.1 k hk).1)
  · exact ROW.low this.2 (fun k hk => (this.1 k hk).1)
theorem IT.low {S h : Nat} {w : Nat → Nat} {e : Nat → Nat → Nat} (I : IT S h w e) {l : Nat} (hl : l < h) : 2 * w l ≤ sm (e l) (w l) + 1 := ROW.low (I.2.2.2.1 l hl).2 (fun k hk => ((I.2.2.2.1 l hl).1 k hk).1)
theorem low_w {S h : Nat} {w : Nat → Nat} {e : Nat → Nat → Nat} (hS : S ≤ 60) (C : CORE S h w e) (low : ∀ l, l < h → 2 * w l ≤ sm (e l) (w l) + 1) (top : 2 ≤ h → 2 ≤ e (h - 1) 0) : h ≤ 6 ∧ ∀ l, l < h → w l ≤ 30 := by
  have step : ∀ l, l + 1 < h → 2 * w (l + 1) ≤ w l + 1 := fun l hl => by
    have := low (l + 1) hl
    rw [C.2.1 l hl] at this
    exact this
  have base : 0 < h → 2 * w 0 ≤ 61 := fun hh => by
    have := low 0 hh
    rw [C.2.2 hh] at this
    omega
  have up : ∀ l, l < h → w l ≤ 30 := by
    intro l
    induction l with
    | zero => intro hl; have := base hl; omega
    | succ l ih => intro hl; have := ih (by omega); have := step l hl; omega
  refine ⟨?_, up⟩
  rcases Nat.lt_or_ge 6 h with q | q
  · have b0 := base (by omega)
    have b1 : 2 * w 1 ≤ w 0 + 1 := step 0 (by omega)
    have b2 : 2 * w 2 ≤ w 1 + 1 := step 1 (by omega)
    have b3 : 2 * w 3 ≤ w 2 + 1 := step 2 (by omega)
    have b4 : 2 * w 4 ≤ w 3 + 1 := step 3 (by omega)
    have b5 : 2 * w 5 ≤ w 4 + 1 := step 4 (by omega)
    have dn : ∀ l, 5 ≤ l → l < h → w l ≤ 1 := by
      intro l
      induction l with
      | zero => intro h5; omega
      | succ l ih =>
        intro h5 hl
        by_cases q5 : l + 1 = 5
        · have : l = 4 := by omega
          subst this
          show w 5 ≤ 1
          omega
        · have := ih (by omega) (by omega); have := step l hl; omega
    have t1 := C.1 (by omega)
    have t2 := C.2.1 (h - 2) (by omega)
    rw [show h - 2 + 1 = h - 1 by omega, t1] at t2
    have t3 := top (by omega)
    have t4 := dn (h - 2) (by omega) (by omega)
    have : sm (e (h - 1)) 1 = e (h - 1) 0 := by rw [sm_s]; show 0 + _ = _; omega
    omega
  · exact q
theorem w_pos {S h : Nat} {w : Nat → Nat} {e : Nat → Nat → Nat} (C : CORE S h w e) (h1 : ∀ l k, l < h → k < w l → 1 ≤ e l k) : ∀ d l, l + d + 1 = h → 1 ≤ w l := by
  intro d
  induction d with
  | zero =>
    intro l hl
    have := C.1 (by omega)
    rw [show h - 1 = l by omega] at this
    omega
  | succ d ih =>
    intro l hl
    have h2 := ih (l + 1) (by omega)
    have h3 := C.2.1 l (by omega)
    have h4 := sm_le (e (l + 1)) h2
    rw [h3] at h4
    have h5 := h1 (l + 1) 0 (by omega) (by omega)
    have : sm (e (l + 1)) 1 = e (l + 1) 0 := by rw [sm_s]; show 0 + _ = _; omega
    omega
