theorem n5 : (5 : Int32) = nI 5 := rfl
def GO (n L : Nat) (xs : Nat → Int32) (fu m : Nat) : Prop := ∀ (areas : Nat → Int32) (keys : Nat → Int32) (there : Nat → Int32) (order : Nat → Int32) (added : Int32) (size : Int32) (loads : Nat → Int32) (widths : Nat → Int32) (height : Int32) (ranks : Nat → Int32) (madded : Int32) (msides : Nat → Int32) (mkey : Nat → Int32) (misThere : Nat → Int32) (mboxes : Int32) (morder : Nat → Int32) (mlevels : Int32) (mnodes : Nat → Int32) (mentries : Nat → Int32) (mleft : Int32) (mlow : Int32) (mright : Int32) (mhigh : Int32) (mfirst : Int32) (mend : Int32) (mthrown : Int32) (out : Nat → Int64) (outD : Nat → UInt64), INV areas keys there order added size loads widths height madded msides mkey misThere mboxes morder mlevels mnodes mentries → f_L_law_28 n L xs fu areas keys there order added size loads widths height ranks madded msides mkey misThere mboxes morder mlevels mnodes mentries mleft mlow mright mhigh mfirst mend mthrown out outD (nI m) = some 1
theorem thr {n : Nat} {t : Int32} : f_X5_thrown n t = some t := rfl
theorem w_0 {α : Type} (f : Nat → Int64) (v : Int64) (k : (Nat → Int64) → Option α) : jwrL f 1 0 v k = k (vp_updL f 0 v) := (if_neg (by decide)).trans rfl
theorem wd_0 {α : Type} (f : Nat → UInt64) (v : UInt64) (k : (Nat → UInt64) → Option α) : jwrD f 1 0 v k = k (vf_upd f 0 v) := (if_neg (by decide)).trans rfl
theorem r_0 {α β : Type} (f : Nat → β) (k : β → Option α) : jrdA f 1 0 k = k (f 0) := (if_neg (by decide)).trans rfl
theorem u_0 (f : Nat → Int64) (v : Int64) : vp_updL f 0 v 0 = v := if_pos rfl
theorem ud_0 (f : Nat → UInt64) (v : UInt64) : vf_upd f 0 v 0 = v := if_pos rfl
theorem cmp_0 (v : Int64) : lg_cmp v v = 0 := (lg_cmp_eq v v).2 rfl
section
variable {n L m fu : Nat} {xs : Nat → Int32} {areas : Nat → Int32} {keys : Nat → Int32} {there : Nat → Int32} {order : Nat → Int32} {added : Int32} {size : Int32} {loads : Nat → Int32} {widths : Nat → Int32} {height : Int32} {ranks : Nat → Int32} {madded : Int32} {msides : Nat → Int32} {mkey : Nat → Int32} {misThere : Nat → Int32} {mboxes : Int32} {morder : Nat → Int32} {mlevels : Int32} {mnodes : Nat → Int32} {mentries : Nat → Int32} {mleft : Int32} {mlow : Int32} {mright : Int32} {mhigh : Int32} {mfirst : Int32} {mend : Int32} {mthrown : Int32} {out : Nat → Int64} {outD : Nat → UInt64}
theorem L_add (hn : 1000 ≤ n) (hL : L ≤ 3072) (hm : m + 6 ≤ L) (I : INV areas keys there order added size loads widths height madded msides mkey misThere mboxes morder mlevels mnodes mentries) (g : GO n L xs fu (m + 6)) : f_L_law_144 n L xs (f_L_law_28 n L xs fu) areas keys there order added size loads widths height ranks madded msides mkey misThere mboxes morder mlevels mnodes mentries mleft mlow mright mhigh mfirst mend mthrown out outD (nI m) = some 1 := by
  unfold f_L_law_144 f_L_law_1422 f_L_add
  have r1 : ∀ {α : Type} (k : Int32 → Option α), jrd xs L (nI m + 1) k = k (xs (m + 1)) := fun k => by rw [n1, nI_add, jrd_n (by omega) (by omega)]
  have r2 : ∀ {α : Type} (k : Int32 → Option α), jrd xs L (nI m + 2) k = k (xs (m + 2)) := fun k => by rw [n2, nI_add, jrd_n (by omega) (by omega)]
  have r3 : ∀ {α : Type} (k : Int32 → Option α), jrd xs L (nI m + 3) k = k (xs (m + 3)) := fun k => by rw [n3, nI_add, jrd_n (by omega) (by omega)]
  have r4 : ∀ {α : Type} (k : Int32 → Option α), jrd xs L (nI m + 4) k = k (xs (m + 4)) := fun k => by rw [n4, nI_add, jrd_n (by omega) (by omega)]
  have x6 : nI m + 6 = nI (m + 6) := by rw [show (6 : Int32) = nI 6 from rfl, nI_add]
  obtain ⟨c, v, A, K, T, O, ad, si, Lo, W, H, v', mad, ms, mk, mt', mb, mo, ml, mn', me, t, h1, h2, I2, h3⟩ := op_add (mthrown := mthrown) (show 100 ≤ n by omega) I (xs (m + 1)) (xs (m + 2)) (xs (m + 3)) (xs (m + 4))
  simp only [r1, r2, r3, r4, h1, h2, jbd_some, thr]
  rcases h3 with ⟨rfl, rfl, rfl⟩ | ⟨rfl, rfl⟩ | ⟨rfl, rfl⟩
  · simp only [↓reduceIte, x6, w_0, r_0, u_0, cmp_0, jbd_some]
    exact g _ _ _ _ _ _ _ _ _ _ _ _ _ _ _ _ _ _ _ _ _ _ _ _ _ _ _ _ I2
  · simp only [↓reduceIte, x6, w_0, r_0, u_0, cmp_0, jbd_some]
    exact g _ _ _ _ _ _ _ _ _ _ _ _ _ _ _ _ _ _ _ _ _ _ _ _ _ _ _ _ I2
  · simp only [↓reduceIte, x6, w_0, r_0, u_0, cmp_0, jbd_some]
    exact g _ _ _ _ _ _ _ _ _ _ _ _ _ _ _ _ _ _ _ _ _ _ _ _ _ _ _ _ I2
theorem L_remove (hn : 1000 ≤ n) (hL : L ≤ 3072) (hm : m + 6 ≤ L) (I : INV areas keys there order added size loads widths height madded msides mkey misThere mboxes morder mlevels mnodes mentries) (g : GO n L xs fu (m + 6)) : f_L_law_236 n L xs (f_L_law_28 n L xs fu) areas keys there order added size loads widths height ranks madded msides mkey misThere mboxes morder mlevels mnodes mentries mleft mlow mright mhigh mfirst mend mthrown out outD (nI m) = some 1 := by
  unfold f_L_law_236 f_L_law_1422 f_L_remove
  have r1 : ∀ {α : Type} (k : Int32 → Option α), jrd xs L (nI m + 1) k = k (xs (m + 1)) := fun k => by rw [n1, nI_add, jrd_n (by omega) (by omega)]
  have x6 : nI m + 6 = nI (m + 6) := by rw [show (6 : Int32) = nI 6 from rfl, nI_add]
  obtain ⟨c, v, T, O, si, Lo, W, H, v', mt', mb, mo, ml, mn', me, t, h1, h2, I2, h3⟩ := op_remove (mthrown := mthrown) (show 100 ≤ n by omega) I (xs (m + 1))
  simp only [r1, h1, h2, jbd_some, thr]
  rcases h3 with ⟨rfl, rfl, rfl⟩ | ⟨rfl, rfl⟩
  · simp only [↓reduceIte, x6, w_0, r_0, u_0, cmp_0, jbd_some]
    exact g _ _ _ _ _ _ _ _ _ _ _ _ _ _ _ _ _ _ _ _ _ _ _ _ _ _ _ _ I2
  · simp only [↓reduceIte, x6, w_0, r_0, u_0, cmp_0, jbd_some]
    exact g _ _ _ _ _ _ _ _ _ _ _ _ _ _ _ _ _ _ _ _ _ _ _ _ _ _ _ _ I2
theorem L_pack (hn : 1000 ≤ n) (hL : L ≤ 3072) (hm : m + 6 ≤ L) (I : INV areas keys there order added size loads widths height madded msides mkey misThere mboxes morder mlevels mnodes mentries) (g : GO n L xs fu (m + 6)) : f_L_law_292 n L xs (f_L_law_28 n L xs fu) areas keys there order added size loads widths height ranks madded msides mkey misThere mboxes morder mlevels mnodes mentries mleft mlow mright mhigh mfirst mend mthrown out outD (nI m) = some 1 := by
  unfold f_L_law_292 f_L_law_1422
  have x6 : nI m + 6 = nI (m + 6) := by rw [show (6 : Int32) = nI 6 from rfl, nI_add]
  obtain ⟨v, Lo, W, H, ml, mn', me, t, h1, h2, I2⟩ := op_pack (mthrown := mthrown) (show 100 ≤ n by omega) I
  simp only [h1, h2, jbd_some, thr]
  simp only [↓reduceIte, x6]
  exact g _ _ _ _ _ _ _ _ _ _ _ _ _ _ _ _ _ _ _ _ _ _ _ _ _ _ _ _ I2
theorem L_boxes (hn : 1000 ≤ n) (hL : L ≤ 3072) (hm : m + 6 ≤ L) (I : INV areas keys there order added size loads widths height madded msides mkey misThere mboxes morder mlevels mnodes mentries) (g : GO n L xs fu (m + 6)) : f_L_law_305 n L xs (f_L_law_28 n L xs fu) areas keys there order added size loads widths height ranks madded msides mkey misThere mboxes morder mlevels mnodes mentries mleft mlow mright mhigh mfirst mend mthrown out outD (nI m) = some 1 := by
  unfold f_L_law_305 f_L_law_1422
  have x6 : nI m + 6 = nI (m + 6) := by rw [show (6 : Int32) = nI 6 from rfl, nI_add]
  obtain ⟨v, t, h1, h2⟩ := op_boxes (n := n) (mthrown := mthrown) I
  simp only [h1, h2, jbd_some, thr]
  simp only [↓reduceIte, x6]
  exact g _ _ _ _ _ _ _ _ _ _ _ _ _ _ _ _ _ _ _ _ _ _ _ _ _ _ _ _ I
theorem L_key (hn : 1000 ≤ n) (hL : L ≤ 3072) (hm : m + 6 ≤ L) (I : INV areas keys there order added size loads widths height madded msides mkey misThere mboxes morder mlevels mnodes mentries) (g : GO n L xs fu (m + 6)) : f_L_law_318 n L xs (f_L_law_28 n L xs fu) areas keys there order added size loads widths height ranks madded msides mkey misThere mboxes morder mlevels mnodes mentries mleft mlow mright mhigh mfirst mend mthrown out outD (nI m) = some 1 := by
  unfold f_L_law_318 f_L_law_1422 f_L_key
  have r1 : ∀ {α : Type} (k : Int32 → Option α), jrd xs L (nI m + 1) k = k (xs (m + 1)) := fun k => by rw [n1, nI_add, jrd_n (by omega) (by omega)]
  have r2 : ∀ {α : Type} (k : Int32 → Option α), jrd xs L (nI m + 2) k = k (xs (m + 2)) := fun k => by rw [n2, nI_add, jrd_n (by omega) (by omega)]
  have x6 : nI m + 6 = nI (m + 6) := by rw [show (6 : Int32) = nI 6 from rfl, nI_add]
  obtain ⟨c, v, v', t, h1, h2, h3⟩ := op_key (mthrown := mthrown) (show 100 ≤ n by omega) (xs (m + 1)) (xs (m + 2))
  simp only [r1, r2, h1, h2, jbd_some, thr]
  rcases h3 with ⟨rfl, rfl, rfl⟩ | ⟨rfl, rfl⟩
  · simp only [↓reduceIte, x6, w_0, r_0, u_0, cmp_0, jbd_some]
    exact g _ _ _ _ _ _ _ _ _ _ _ _ _ _ _ _ _ _ _ _ _ _ _ _ _ _ _ _ I
  · simp only [↓reduceIte, x6, w_0, r_0, u_0, cmp_0, jbd_some]
    exact g _ _ _ _ _ _ _ _ _ _ _ _ _ _ _ _ _ _ _ _ _ _ _ _ _ _ _ _ I
theorem L_keyOf (hn : 1000 ≤ n) (hL : L ≤ 3072) (hm : m + 6 ≤ L) (I : INV areas keys there order added size loads widths height madded msides mkey misThere mboxes morder mlevels mnodes mentries) (g : GO n L xs fu (m + 6)) : f_L_law_386 n L xs (f_L_law_28 n L xs fu) areas keys there order added size loads widths height ranks madded msides mkey misThere mboxes morder mlevels mnodes mentries mleft mlow mright mhigh mfirst mend mthrown out outD (nI m) = some 1 := by
  unfold f_L_law_386 f_L_law_1422 f_L_keyOf
  have r1 : ∀ {α : Type} (k : Int32 → Option α), jrd xs L (nI m + 1) k = k (xs (m + 1)) := fun k => by rw [n1, nI_add, jrd_n (by omega) (by omega)]
  have x6 : nI m + 6 = nI (m + 6) := by rw [show (6 : Int32) = nI 6 from rfl, nI_add]
  obtain ⟨c, v, v', t, h1, h2, h3⟩ := op_keyOf (n := n) (mthrown := mthrown) I (xs (m + 1))
  simp only [r1, h1, h2, jbd_some, thr]
  rcases h3 with ⟨rfl, rfl, rfl⟩ | ⟨rfl, rfl⟩
  · simp only [↓reduceIte, x6, w_0, r_0, u_0, cmp_0, jbd_some]
    exact g _ _ _ _ _ _ _ _ _ _ _ _ _ _ _ _ _ _ _ _ _ _ _ _ _ _ _ _ I
  · simp only [↓reduceIte, x6, w_0, r_0, u_0, cmp_0, jbd_some]
    exact g _ _ _ _ _ _ _ _ _ _ _ _ _ _ _ _ _ _ _ _ _ _ _ _ _ _ _ _ I
theorem L_sideOf (hn : 1000 ≤ n) (hL : L ≤ 3072) (hm : m + 6 ≤ L) (I : INV areas keys there order added size loads widths height madded msides mkey misThere mboxes morder mlevels mnodes mentries) (g : GO n L xs fu (m + 6)) : f_L_law_442 n L xs (f_L_law_28 n L xs fu) areas keys there order added size loads widths height ranks madded msides mkey misThere mboxes morder mlevels mnodes mentries mleft mlow mright mhigh mfirst mend mthrown out outD (nI m) = some 1 := by
  unfold f_L_law_442 f_L_law_1422 f_L_sideOf
  have r1 : ∀ {α : Type} (k : Int32 → Option α), jrd xs L (nI m + 1) k = k (xs (m + 1)) := fun k => by rw [n1, nI_add, jrd_n (by omega) (by omega)]
  have r2 : ∀ {α : Type} (k : Int32 → Option α), jrd xs L (nI m + 2) k = k (xs (m + 2)) := fun k => by rw [n2, nI_add, jrd_n (by omega) (by omega)]
  have x6 : nI m + 6 = nI (m + 6) := by rw [show (6 : Int32) = nI 6 from rfl, nI_add]
  obtain ⟨c, v, v', t, h1, h2, h3⟩ := op_sideOf (n := n) (mthrown := mthrown) I (xs (m + 1)) (xs (m + 2))
  simp only [r1, r2, h1, h2, jbd_some, thr]
  rcases h3 with ⟨rfl, rfl, rfl⟩ | ⟨rfl, rfl⟩ | ⟨rfl, rfl⟩
  · simp only [↓reduceIte, x6, w_0, r_0, u_0, cmp_0, jbd_some]
    exact g _ _ _ _ _ _ _ _ _ _ _ _ _ _ _ _ _ _ _ _ _ _ _ _ _ _ _ _ I
  · simp only [↓reduceIte, x6, w_0, r_0, u_0, cmp_0, jbd_some]
    exact g _ _ _ _ _ _ _ _ _ _ _ _ _ _ _ _ _ _ _ _ _ _ _ _ _ _ _ _ I
  · simp only [↓reduceIte, x6, w_0, r_0, u_0, cmp_0, jbd_some]
    exact g _ _ _ _ _ _ _ _ _ _ _ _ _ _ _ _ _ _ _ _ _ _ _ _ _ _ _ _ I
theorem L_levels (hn : 1000 ≤ n) (hL : L ≤ 3072) (hm : m + 6 ≤ L) (I : INV areas keys there order added size loads widths height madded msides mkey misThere mboxes morder mlevels mnodes mentries) (g : GO n L xs fu (m + 6)) : f_L_law_510 n L xs (f_L_law_28 n L xs fu) areas keys there order added size loads widths height ranks madded msides mkey misThere mboxes morder mlevels mnodes mentries mleft mlow mright mhigh mfirst mend mthrown out outD (nI m) = some 1 := by
  unfold f_L_law_510 f_L_law_1422
  have x6 : nI m + 6 = nI (m + 6) := by rw [show (6 : Int32) = nI 6 from rfl, nI_add]
  obtain ⟨v, t, h1, h2⟩ := op_levels (n := n) (mthrown := mthrown) I
  simp only [h1, h2, jbd_some, thr]
  simp only [↓reduceIte, x6]
  exact g _ _ _ _ _ _ _ _ _ _ _ _ _ _ _ _ _ _ _ _ _ _ _ _ _ _ _ _ I
theorem L_nodes (hn : 1000 ≤ n) (hL : L ≤ 3072) (hm : m + 6 ≤ L) (I : INV areas keys there order added size loads widths height madded msides mkey misThere mboxes morder mlevels mnodes mentries) (g : GO n L xs fu (m + 6)) : f_L_law_523 n L xs (f_L_law_28 n L xs fu) areas keys there order added size loads widths height ranks madded msides mkey misThere mboxes morder mlevels mnodes mentries mleft mlow mright mhigh mfirst mend mthrown out outD (nI m) = some 1 := by
  unfold f_L_law_523 f_L_law_1422 f_L_nodes
  have r1 : ∀ {α : Type} (k : Int32 → Option α), jrd xs L (nI m + 1) k = k (xs (m + 1)) := fun k => by rw [n1, nI_add, jrd_n (by omega) (by omega)]
  have x6 : nI m + 6 = nI (m + 6) := by rw [show (6 : Int32) = nI 6 from rfl, nI_add]
  obtain ⟨c, v, v', t, h1, h2, h3⟩ := op_nodes (n := n) (mthrown := mthrown) I (xs (m + 1))
  simp only [r1, h1, h2, jbd_some, thr]
  rcases h3 with ⟨rfl, rfl, rfl⟩ | ⟨rfl, rfl⟩
  · simp only [↓reduceIte, x6, w_0, r_0, u_0, cmp_0, jbd_some]
    exact g _ _ _ _ _ _ _ _ _ _ _ _ _ _ _ _ _ _ _ _ _ _ _ _ _ _ _ _ I
  · simp only [↓reduceIte, x6, w_0, r_0, u_0, cmp_0, jbd_some]
    exact g _ _ _ _ _ _ _ _ _ _ _ _ _ _ _ _ _ _ _ _ _ _ _ _ _ _ _ _ I
theorem L_entries (hn : 1000 ≤ n) (hL : L ≤ 3072) (hm : m + 6 ≤ L) (I : INV areas keys there order added size loads widths height madded msides mkey misThere mboxes morder mlevels mnodes mentries) (g : GO n L xs fu (m + 6)) : f_L_law_579 n L xs (f_L_law_28 n L xs fu) areas keys there order added size loads widths height ranks madded msides mkey misThere mboxes morder mlevels mnodes mentries mleft mlow mright mhigh mfirst mend mthrown out outD (nI m) = some 1 := by
  unfold f_L_law_579 f_L_law_1422 f_L_entries
  have r1 : ∀ {α : Type} (k : Int32 → Option α), jrd xs L (nI m + 1) k = k (xs (m + 1)) := fun k => by rw [n1, nI_add, jrd_n (by omega) (by omega)]
  have r2 : ∀ {α : Type} (k : Int32 → Option α), jrd xs L (nI m + 2) k = k (xs (m + 2)) := fun k => by rw [n2, nI_add, jrd_n (by omega) (by omega)]
  have x6 : nI m + 6 = nI (m + 6) := by rw [show (6 : Int32) = nI 6 from rfl, nI_add]
  obtain ⟨c, v, v', t, h1, h2, h3⟩ := op_entries (n := n) (mthrown := mthrown) I (xs (m + 1)) (xs (m + 2))
  simp only [r1, r2, h1, h2, jbd_some, thr]
  rcases h3 with ⟨rfl, rfl, rfl⟩ | ⟨rfl, rfl⟩
  · simp only [↓reduceIte, x6, w_0, r_0, u_0, cmp_0, jbd_some]
    exact g _ _ _ _ _ _ _ _ _ _ _ _ _ _ _ _ _ _ _ _ _ _ _ _ _ _ _ _ I
  · simp only [↓reduceIte, x6, w_0, r_0, u_0, cmp_0, jbd_some]
    exact g _ _ _ _ _ _ _ _ _ _ _ _ _ _ _ _ _ _ _ _ _ _ _ _ _ _ _ _ I
theorem L_cover (hn : 1000 ≤ n) (hL : L ≤ 3072) (hm : m + 6 ≤ L) (I : INV areas keys there order added size loads widths height madded msides mkey misThere mboxes morder mlevels mnodes mentries) (g : GO n L xs fu (m + 6)) : f_L_law_647 n L xs (f_L_law_28 n L xs fu) areas keys there order added size loads widths height ranks madded msides mkey misThere mboxes morder mlevels mnodes mentries mleft mlow mright mhigh mfirst mend mthrown out outD (nI m) = some 1 := by
  unfold f_L_law_647 f_L_law_1422 f_L_cover
  have r1 : ∀ {α : Type} (k : Int32 → Option α), jrd xs L (nI m + 1) k = k (xs (m + 1)) := fun k => by rw [n1, nI_add, jrd_n (by omega) (by omega)]
  have r2 : ∀ {α : Type} (k : Int32 → Option α), jrd xs L (nI m + 2) k = k (xs (m + 2)) := fun k => by rw [n2, nI_add, jrd_n (by omega) (by omega)]
  have r3 : ∀ {α : Type} (k : Int32 → Option α), jrd xs L (nI m + 3) k = k (xs (m + 3)) := fun k => by rw [n3, nI_add, jrd_n (by omega) (by omega)]
  have x6 : nI m + 6 = nI (m + 6) := by rw [show (6 : Int32) = nI 6 from rfl, nI_add]
  obtain ⟨c, v, v', z1, z2, z3, z4, z5, z6, t, h1, h2, h3⟩ := op_cover (mthrown := mthrown) (y1 := mleft) (y2 := mlow) (y3 := mright) (y4 := mhigh) (y5 := mfirst) (y6 := mend) hn I (xs (m + 1)) (xs (m + 2)) (xs (m + 3))
  simp only [r1, r2, r3, h1, h2, jbd_some, thr]
  rcases h3 with ⟨rfl, rfl, rfl⟩ | ⟨rfl, rfl⟩ | ⟨rfl, rfl⟩
  · simp only [↓reduceIte, x6, w_0, r_0, u_0, cmp_0, jbd_some]
    exact g _ _ _ _ _ _ _ _ _ _ _ _ _ _ _ _ _ _ _ _ _ _ _ _ _ _ _ _ I
  · simp only [↓reduceIte, x6, w_0, r_0, u_0, cmp_0, jbd_some]
    exact g _ _ _ _ _ _ _ _ _ _ _ _ _ _ _ _ _ _ _ _ _ _ _ _ _ _ _ _ I
  · simp only [↓reduceIte, x6, w_0, r_0, u_0, cmp_0, jbd_some]
    exact g _ _ _ _ _ _ _ _ _ _ _ _ _ _ _ _ _ _ _ _ _ _ _ _ _ _ _ _ I
theorem L_leafOf (hn : 1000 ≤ n) (hL : L ≤ 3072) (hm : m + 6 ≤ L) (I : INV areas keys there order added size loads widths height madded msides mkey misThere mboxes morder mlevels mnodes mentries) (g : GO n L xs fu (m + 6)) : f_L_law_727 n L xs (f_L_law_28 n L xs fu) areas keys there order added size loads widths height ranks madded msides mkey misThere mboxes morder mlevels mnodes mentries mleft mlow mright mhigh mfirst mend mthrown out outD (nI m) = some 1 := by
  unfold f_L_law_727 f_L_law_1422 f_L_leafOf
  have r1 : ∀ {α : Type} (k : Int32 → Option α), jrd xs L (nI m + 1) k = k (xs (m + 1)) := fun k => by rw [n1, nI_add, jrd_n (by omega) (by omega)]
  have x6 : nI m + 6 = nI (m + 6) := by rw [show (6 : Int32) = nI 6 from rfl, nI_add]
  obtain ⟨c, v, v', t, h1, h2, h3⟩ := op_leafOf (mthrown := mthrown) (show 100 ≤ n by omega) I (xs (m + 1))
  simp only [r1, h1, h2, jbd_some, thr]
  rcases h3 with ⟨rfl, rfl, rfl⟩ | ⟨rfl, rfl⟩
  · simp only [↓reduceIte, x6, w_0, r_0, u_0, cmp_0, jbd_some]
    exact g _ _ _ _ _ _ _ _ _ _ _ _ _ _ _ _ _ _ _ _ _ _ _ _ _ _ _ _ I
  · simp only [↓reduceIte, x6, w_0, r_0, u_0, cmp_0, jbd_some]
    exact g _ _ _ _ _ _ _ _ _ _ _ _ _ _ _ _ _ _ _ _ _ _ _ _ _ _ _ _ I
theorem L_boxAt (hn : 1000 ≤ n) (hL : L ≤ 3072) (hm : m + 6 ≤ L) (I : INV areas keys there order added size loads widths height madded msides mkey misThere mboxes morder mlevels mnodes mentries) (g : GO n L xs fu (m + 6)) : f_L_law_783 n L xs (f_L_law_28 n L xs fu) areas keys there order added size loads widths height ranks madded msides mkey misThere mboxes morder mlevels mnodes mentries mleft mlow mright mhigh mfirst mend mthrown out outD (nI m) = some 1 := by
  unfold f_L_law_783 f_L_law_1422 f_L_boxAt
  have r1 : ∀ {α : Type} (k : Int32 → Option α), jrd xs L (nI m + 1) k = k (xs (m + 1)) := fun k => by rw [n1, nI_add, jrd_n (by omega) (by omega)]
  have x6 : nI m + 6 = nI (m + 6) := by rw [show (6 : Int32) = nI 6 from rfl, nI_add]
  obtain ⟨c, v, v', t, h1, h2, h3⟩ := op_boxAt (n := n) (mthrown := mthrown) I (xs (m + 1))
  simp only [r1, h1, h2, jbd_some, thr]
  rcases h3 with ⟨rfl, rfl, rfl⟩ | ⟨rfl, rfl⟩
  · simp only [↓reduceIte, x6, w_0, r_0, u_0, cmp_0, jbd_some]
    exact g _ _ _ _ _ _ _ _ _ _ _ _ _ _ _ _ _ _ _ _ _ _ _ _ _ _ _ _ I
  · simp only [↓reduceIte, x6, w_0, r_0, u_0, cmp_0, jbd_some]
    exact g _ _ _ _ _ _ _ _ _ _ _ _ _ _ _ _ _ _ _ _ _ _ _ _ _ _ _ _ I
theorem L_count (hn : 1000 ≤ n) (hL : L ≤ 3072) (hm : m + 6 ≤ L) (I : INV areas keys there order added size loads widths height madded msides mkey misThere mboxes morder mlevels mnodes mentries) (g : GO n L xs fu (m + 6)) : f_L_law_905 n L xs (f_L_law_28 n L xs fu) areas keys there order added size loads widths height ranks madded msides mkey misThere mboxes morder mlevels mnodes mentries mleft mlow mright mhigh mfirst mend mthrown out outD (nI m) = some 1 := by
  unfold f_L_law_905 f_L_law_1422 f_L_count
  have r1 : ∀ {α : Type} (k : Int32 → Option α), jrd xs L (nI m + 1) k = k (xs (m + 1)) := fun k => by rw [n1, nI_add, jrd_n (by omega) (by omega)]
  have r2 : ∀ {α : Type} (k : Int32 → Option α), jrd xs L (nI m + 2) k = k (xs (m + 2)) := fun k => by rw [n2, nI_add, jrd_n (by omega) (by omega)]
  have r3 : ∀ {α : Type} (k : Int32 → Option α), jrd xs L (nI m + 3) k = k (xs (m + 3)) := fun k => by rw [n3, nI_add, jrd_n (by omega) (by omega)]
  have r4 : ∀ {α : Type} (k : Int32 → Option α), jrd xs L (nI m + 4) k = k (xs (m + 4)) := fun k => by rw [n4, nI_add, jrd_n (by omega) (by omega)]
  have x6 : nI m + 6 = nI (m + 6) := by rw [show (6 : Int32) = nI 6 from rfl, nI_add]
  obtain ⟨c, v, v', t, h1, h2, h3⟩ := op_count (mthrown := mthrown) hn I (xs (m + 1)) (xs (m + 2)) (xs (m + 3)) (xs (m + 4))
  simp only [r1, r2, r3, r4, h1, h2, jbd_some, thr]
  rcases h3 with ⟨rfl, rfl, rfl⟩ | ⟨rfl, rfl⟩
  · simp only [↓reduceIte, x6, w_0, r_0, u_0, cmp_0, jbd_some]
    exact g _ _ _ _ _ _ _ _ _ _ _ _ _ _ _ _ _ _ _ _ _ _ _ _ _ _ _ _ I
  · simp only [↓reduceIte, x6, w_0, r_0, u_0, cmp_0, jbd_some]
    exact g _ _ _ _ _ _ _ _ _ _ _ _ _ _ _ _ _ _ _ _ _ _ _ _ _ _ _ _ I
theorem L_found (hn : 1000 ≤ n) (hL : L ≤ 3072) (hm : m + 6 ≤ L) (I : INV areas keys there order added size loads widths height madded msides mkey misThere mboxes morder mlevels mnodes mentries) (g : GO n L xs fu (m + 6)) : f_L_law_997 n L xs (f_L_law_28 n L xs fu) areas keys there order added size loads widths height ranks madded msides mkey misThere mboxes morder mlevels mnodes mentries mleft mlow mright mhigh mfirst mend mthrown out outD (nI m) = some 1 := by
  unfold f_L_law_997 f_L_law_1422 f_L_found
  have r1 : ∀ {α : Type} (k : Int32 → Option α), jrd xs L (nI m + 1) k = k (xs (m + 1)) := fun k => by rw [n1, nI_add, jrd_n (by omega) (by omega)]
  have r2 : ∀ {α : Type} (k : Int32 → Option α), jrd xs L (nI m + 2) k = k (xs (m + 2)) := fun k => by rw [n2, nI_add, jrd_n (by omega) (by omega)]
  have r3 : ∀ {α : Type} (k : Int32 → Option α), jrd xs L (nI m + 3) k = k (xs (m + 3)) := fun k => by rw [n3, nI_add, jrd_n (by omega) (by omega)]
  have r4 : ∀ {α : Type} (k : Int32 → Option α), jrd xs L (nI m + 4) k = k (xs (m + 4)) := fun k => by rw [n4, nI_add, jrd_n (by omega) (by omega)]
  have r5 : ∀ {α : Type} (k : Int32 → Option α), jrd xs L (nI m + 5) k = k (xs (m + 5)) := fun k => by rw [n5, nI_add, jrd_n (by omega) (by omega)]
  have x6 : nI m + 6 = nI (m + 6) := by rw [show (6 : Int32) = nI 6 from rfl, nI_add]
  obtain ⟨c, v, v', t, h1, h2, h3⟩ := op_found (mthrown := mthrown) hn I (xs (m + 1)) (xs (m + 2)) (xs (m + 3)) (xs (m + 4)) (xs (m + 5))
  simp only [r1, r2, r3, r4, r5, h1, h2, jbd_some, thr]
  rcases h3 with ⟨rfl, rfl, rfl⟩ | ⟨rfl, rfl⟩ | ⟨rfl, rfl⟩
  · simp only [↓reduceIte, x6, w_0, r_0, u_0, cmp_0, jbd_some]
    exact g _ _ _ _ _ _ _ _ _ _ _ _ _ _ _ _ _ _ _ _ _ _ _ _ _ _ _ _ I
  · simp only [↓reduceIte, x6, w_0, r_0, u_0, cmp_0, jbd_some]
    exact g _ _ _ _ _ _ _ _ _ _ _ _ _ _ _ _ _ _ _ _ _ _ _ _ _ _ _ _ I
  · simp only [↓reduceIte, x6, w_0, r_0, u_0, cmp_0, jbd_some]
    exact g _ _ _ _ _ _ _ _ _ _ _ _ _ _ _ _ _ _ _ _ _ _ _ _ _ _ _ _ I
theorem L_visits (hn : 1000 ≤ n) (hL : L ≤ 3072) (hm : m + 6 ≤ L) (I : INV areas keys there order added size loads widths height madded msides mkey misThere mboxes morder mlevels mnodes mentries) (g : GO n L xs fu (m + 6)) : f_L_law_1101 n L xs (f_L_law_28 n L xs fu) areas keys there order added size loads widths height ranks madded msides mkey misThere mboxes morder mlevels mnodes mentries mleft mlow mright mhigh mfirst mend mthrown out outD (nI m) = some 1 := by
  unfold f_L_law_1101 f_L_law_1422 f_L_visits
  have r1 : ∀ {α : Type} (k : Int32 → Option α), jrd xs L (nI m + 1) k = k (xs (m + 1)) := fun k => by rw [n1, nI_add, jrd_n (by omega) (by omega)]
  have r2 : ∀ {α : Type} (k : Int32 → Option α), jrd xs L (nI m + 2) k = k (xs (m + 2)) := fun k => by rw [n2, nI_add, jrd_n (by omega) (by omega)]
  have r3 : ∀ {α : Type} (k : Int32 → Option α), jrd xs L (nI m + 3) k = k (xs (m + 3)) := fun k => by rw [n3, nI_add, jrd_n (by omega) (by omega)]
  have r4 : ∀ {α : Type} (k : Int32 → Option α), jrd xs L (nI m + 4) k = k (xs (m + 4)) := fun k => by rw [n4, nI_add, jrd_n (by omega) (by omega)]
  have x6 : nI m + 6 = nI (m + 6) := by rw [show (6 : Int32) = nI 6 from rfl, nI_add]
  obtain ⟨c, v, v', z1, z2, z3, z4, z5, z6, t, h1, h2, h3⟩ := op_visits (mthrown := mthrown) (y1 := mleft) (y2 := mlow) (y3 := mright) (y4 := mhigh) (y5 := mfirst) (y6 := mend) hn I (xs (m + 1)) (xs (m + 2)) (xs (m + 3)) (xs (m + 4))
  simp only [r1, r2, r3, r4, h1, h2, jbd_some, thr]
  rcases h3 with ⟨rfl, rfl, rfl⟩ | ⟨rfl, rfl⟩
  · simp only [↓reduceIte, x6, w_0, r_0, u_0, cmp_0, jbd_some]
    exact g _ _ _ _ _ _ _ _ _ _ _ _ _ _ _ _ _ _ _ _ _ _ _ _ _ _ _ _ I
  · simp only [↓reduceIte, x6, w_0, r_0, u_0, cmp_0, jbd_some]
    exact g _ _ _ _ _ _ _ _ _ _ _ _ _ _ _ _ _ _ _ _ _ _ _ _ _ _ _ _ I
theorem L_nearest (hn : 1000 ≤ n) (hL : L ≤ 3072) (hm : m + 6 ≤ L) (I : INV areas keys there order added size loads widths height madded msides mkey misThere mboxes morder mlevels mnodes mentries) (g : GO n L xs fu (m + 6)) : f_L_law_1193 n L xs (f_L_law_28 n L xs fu) areas keys there order added size loads widths height ranks madded msides mkey misThere mboxes morder mlevels mnodes mentries mleft mlow mright mhigh mfirst mend mthrown out outD (nI m) = some 1 := by
  unfold f_L_law_1193 f_L_law_1422 f_L_nearest
  have r1 : ∀ {α : Type} (k : Int32 → Option α), jrd xs L (nI m + 1) k = k (xs (m + 1)) := fun k => by rw [n1, nI_add, jrd_n (by omega) (by omega)]
  have r2 : ∀ {α : Type} (k : Int32 → Option α), jrd xs L (nI m + 2) k = k (xs (m + 2)) := fun k => by rw [n2, nI_add, jrd_n (by omega) (by omega)]
  have r3 : ∀ {α : Type} (k : Int32 → Option α), jrd xs L (nI m + 3) k = k (xs (m + 3)) := fun k => by rw [n3, nI_add, jrd_n (by omega) (by omega)]
  have x6 : nI m + 6 = nI (m + 6) := by rw [show (6 : Int32) = nI 6 from rfl, nI_add]
  obtain ⟨c, v, rr, v', t, h1, h2, h3⟩ := op_nearest (mthrown := mthrown) (ranks := ranks) hn I (xs (m + 1)) (xs (m + 2)) (xs (m + 3))
  simp only [r1, r2, r3, h1, h2, jbd_some, thr]
  rcases h3 with ⟨rfl, rfl, rfl⟩ | ⟨rfl, rfl⟩ | ⟨rfl, rfl⟩
  · simp only [↓reduceIte, x6, w_0, r_0, u_0, cmp_0, jbd_some]
    exact g _ _ _ _ _ _ _ _ _ _ _ _ _ _ _ _ _ _ _ _ _ _ _ _ _ _ _ _ I
  · simp only [↓reduceIte, x6, w_0, r_0, u_0, cmp_0, jbd_some]
    exact g _ _ _ _ _ _ _ _ _ _ _ _ _ _ _ _ _ _ _ _ _ _ _ _ _ _ _ _ I
  · simp only [↓reduceIte, x6, w_0, r_0, u_0, cmp_0, jbd_some]
    exact g _ _ _ _ _ _ _ _ _ _ _ _ _ _ _ _ _ _ _ _ _ _ _ _ _ _ _ _ I
theorem L_distance (hn : 1000 ≤ n) (hL : L ≤ 3072) (hm : m + 6 ≤ L) (I : INV areas keys there order added size loads widths height madded msides mkey misThere mboxes morder mlevels mnodes mentries) (g : GO n L xs fu (m + 6)) : f_L_law_1273 n L xs (f_L_law_28 n L xs fu) areas keys there order added size loads widths height ranks madded msides mkey misThere mboxes morder mlevels mnodes mentries mleft mlow mright mhigh mfirst mend mthrown out outD (nI m) = some 1 := by
  unfold f_L_law_1273 f_L_law_1422 f_L_distance
  have r1 : ∀ {α : Type} (k : Int32 → Option α), jrd xs L (nI m + 1) k = k (xs (m + 1)) := fun k => by rw [n1, nI_add, jrd_n (by omega) (by omega)]
  have r2 : ∀ {α : Type} (k : Int32 → Option α), jrd xs L (nI m + 2) k = k (xs (m + 2)) := fun k => by rw [n2, nI_add, jrd_n (by omega) (by omega)]
  have r3 : ∀ {α : Type} (k : Int32 → Option α), jrd xs L (nI m + 3) k = k (xs (m + 3)) := fun k => by rw [n3, nI_add, jrd_n (by omega) (by omega)]
  have x6 : nI m + 6 = nI (m + 6) := by rw [show (6 : Int32) = nI 6 from rfl, nI_add]
  obtain ⟨c, v, v', t, h1, h2, h3⟩ := op_distance (n := n) (mthrown := mthrown) I (xs (m + 1)) (xs (m + 2)) (xs (m + 3))
  simp only [r1, r2, r3, h1, h2, jbd_some, thr]
  rcases h3 with ⟨rfl, rfl, rfl⟩ | ⟨rfl, rfl⟩ | ⟨rfl, rfl⟩
  · simp only [↓reduceIte, x6, w_0, r_0, u_0, cmp_0, jbd_some]
    exact g _ _ _ _ _ _ _ _ _ _ _ _ _ _ _ _ _ _ _ _ _ _ _ _ _ _ _ _ I
  · simp only [↓reduceIte, x6, w_0, r_0, u_0, cmp_0, jbd_some]
    exact g _ _ _ _ _ _ _ _ _ _ _ _ _ _ _ _ _ _ _ _ _ _ _ _ _ _ _ _ I
  · simp only [↓reduceIte, x6, w_0, r_0, u_0, cmp_0, jbd_some]
    exact g _ _ _ _ _ _ _ _ _ _ _ _ _ _ _ _ _ _ _ _ _ _ _ _ _ _ _ _ I
theorem L_pairs (hn : 1000 ≤ n) (hL : L ≤ 3072) (hm : m + 6 ≤ L) (I : INV areas keys there order added size loads widths height madded msides mkey misThere mboxes morder mlevels mnodes mentries) (g : GO n L xs fu (m + 6)) : f_L_law_1353 n L xs (f_L_law_28 n L xs fu) areas keys there order added size loads widths height ranks madded msides mkey misThere mboxes morder mlevels mnodes mentries mleft mlow mright mhigh mfirst mend mthrown out outD (nI m) = some 1 := by
  unfold f_L_law_1353 f_L_law_1422
  have x6 : nI m + 6 = nI (m + 6) := by rw [show (6 : Int32) = nI 6 from rfl, nI_add]
  obtain ⟨v, t, h1, h2⟩ := op_pairs (mthrown := mthrown) hn I
  simp only [h1, h2, jbd_some, thr]
  simp only [↓reduceIte, x6]
  exact g _ _ _ _ _ _ _ _ _ _ _ _ _ _ _ _ _ _ _ _ _ _ _ _ _ _ _ _ I
theorem L_pair (hn : 1000 ≤ n) (hL : L ≤ 3072) (hm : m + 6 ≤ L) (I : INV areas keys there order added size loads widths height madded msides mkey misThere mboxes morder mlevels mnodes mentries) (g : GO n L xs fu (m + 6)) : f_L_law_1366 n L xs (f_L_law_28 n L xs fu) areas keys there order added size loads widths height ranks madded msides mkey misThere mboxes morder mlevels mnodes mentries mleft mlow mright mhigh mfirst mend mthrown out outD (nI m) = some 1 := by
  unfold f_L_law_1366 f_L_law_1422 f_L_pair
  have r1 : ∀ {α : Type} (k : Int32 → Option α), jrd xs L (nI m + 1) k = k (xs (m + 1)) := fun k => by rw [n1, nI_add, jrd_n (by omega) (by omega)]
  have x6 : nI m + 6 = nI (m + 6) := by rw [show (6 : Int32) = nI 6 from rfl, nI_add]
  obtain ⟨c, v, v', t, h1, h2, h3⟩ := op_pair (mthrown := mthrown) hn I (xs (m + 1))
  simp only [r1, h1, h2, jbd_some, thr]
  rcases h3 with ⟨rfl, rfl, rfl⟩ | ⟨rfl, rfl⟩
  · simp only [↓reduceIte, x6, w_0, r_0, u_0, cmp_0, jbd_some]
    exact g _ _ _ _ _ _ _ _ _ _ _ _ _ _ _ _ _ _ _ _ _ _ _ _ _ _ _ _ I
  · simp only [↓reduceIte, x6, w_0, r_0, u_0, cmp_0, jbd_some]
    exact g _ _ _ _ _ _ _ _ _ _ _ _ _ _ _ _ _ _ _ _ _ _ _ _ _ _ _ _ I
theorem L_tightness (hn : 1000 ≤ n) (hL : L ≤ 3072) (hm : m + 6 ≤ L) (I : INV areas keys there order added size loads widths height madded msides mkey misThere mboxes morder mlevels mnodes mentries) (g : GO n L xs fu (m + 6)) : f_L_law_839 n L xs (f_L_law_28 n L xs fu) areas keys there order added size loads widths height ranks madded msides mkey misThere mboxes morder mlevels mnodes mentries mleft mlow mright mhigh mfirst mend mthrown out outD (nI m) = some 1 := by
  unfold f_L_law_839 f_L_law_1422 f_L_tightness
  have x6 : nI m + 6 = nI (m + 6) := by rw [show (6 : Int32) = nI 6 from rfl, nI_add]
  obtain ⟨c, v, v', z1, z2, z3, z4, z5, z6, t, h1, h2, h3⟩ := op_tightness (mthrown := mthrown) (y1 := mleft) (y2 := mlow) (y3 := mright) (y4 := mhigh) (y5 := mfirst) (y6 := mend) hn I
  simp only [h1, h2, jbd_some, thr]
  rcases h3 with ⟨rfl, rfl, rfl, nn⟩ | ⟨rfl, rfl⟩
  · simp only [↓reduceIte, f2d_go nn, wd_0, jbd_some, r_0, ud_0, dcmp_go (f2d_nn nn), x6]
    exact g _ _ _ _ _ _ _ _ _ _ _ _ _ _ _ _ _ _ _ _ _ _ _ _ _ _ _ _ I
  · simp only [↓reduceIte, jbd_some, x6]
    exact g _ _ _ _ _ _ _ _ _ _ _ _ _ _ _ _ _ _ _ _ _ _ _ _ _ _ _ _ I
end
