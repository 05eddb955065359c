/-! the run from a start -/
set_option maxHeartbeats 4000000 in
theorem law_grows (l : Launch) (hflags : l.flags = flags0) {p : Program} {e : Env} (ha : l.admits e) (hc : FairCas e.choices) (hk : FairClock e.choices) {s : State} {m : MethodId} {below : List Frame} {b : Nat} (hf : s.frames = Frame.invoking m #[Value.ref b] :: below)
    (happ : (headSpec (Jvm.Cond.code x code maxLocals ret :: tables_1) R2).appliesLoose x e.platform s = true) (hgv : (Jvm.Cond.and given_1 narrow_1).before #[Value.ref b] s = true)
    (hscr : ∀ cA, s.vm.findClass ("[" ++ FieldType.int.toString) = some cA → s.heap[b]? = some (vp_cell cA (256, .inl j18))) : ∃ t, Steps p.tables e below s t ∧ s.heap.size + 110 ≤ t.heap.size := by
  refine Classical.byContradiction fun hno => ?_
  have M : MetFree l x (headSpec (Jvm.Cond.code x code maxLocals ret :: tables_1) R2) (fun a u => a = #[Value.ref b] ∧ (Jvm.Cond.and given_1 narrow_1).before #[Value.ref b] u = true ∧ ∀ cA, u.vm.findClass ("[" ++ FieldType.int.toString) = some cA → u.heap[b]? = some (vp_cell cA (256, .inl j18)))
      (fun p e below u _ => ¬ ∃ t, Steps p.tables e below u t ∧ u.heap.size + 110 ≤ t.heap.size) (fun _ _ _ _ => False) := by
    refine MetFree.of_bodyRF (code := code) (maxLocals := maxLocals) (ret := ret) (plainFor_of_name (by decide)) ?_ ?_
    · intro args s m h hn
      obtain ⟨meth, c, h1, h2, h3, h4, h5, h6, -, -⟩ := Cond.code_spec hn (atoms_spec (ws := Jvm.Cond.code x code maxLocals ret :: tables_1) h _ List.mem_cons_self)
      exact ⟨meth, c, h1, h2, h3, h4, h5, h6⟩
    · intro p e s m args below meth c s₁ B hml0 hP hno hst
      obtain ⟨rfl, hgv, hscr⟩ := hP
      have hts0 : ∀ w ∈ (Jvm.Cond.code x code maxLocals ret :: tables_1), w.before #[Value.ref b] s = true := atoms_spec (ws := Jvm.Cond.code x code maxLocals ret :: tables_1) B.pre
      have hts : ∀ w ∈ lw_tbl, w.before #[Value.ref b] s = true := k2_hts_sels lw_privs (fun w hw => hts0 w (List.mem_cons_of_mem _ hw)) lw_privs_ok
      have hh0 : s₁.heap = s.heap := by rw [B.state]; rfl
      obtain ⟨t, a1, b1⟩ := law_start l hflags B.exec B.bytes hml0 (findClass_of_methodNamed B.named) hts B.notSynchronized hgv hscr s₁ hh0 (Stand.of_body B)
      exact (hno ⟨t, hst.trans a1, b1⟩).elim
  obtain ⟨n, o, h1, h2, h3, h4⟩ := M p e ha hc hk s m #[Value.ref b] below hf happ ⟨rfl, hgv, hscr⟩ hno
  exact h4
/-- a state within a call hasn't ended it -/
theorem no_end {s : State} {below : List Frame} {o : Outcome} (hw : Within s below) (he : Ended s below o) : False := by
  obtain ⟨above, h1, h2, h3⟩ := hw
  have hl : ∀ fs : List Frame, s.frames = fs → fs.length = below.length → False := by
    intro fs e1 e2
    have e3 := congrArg List.length (e1.symm.trans h1)
    rw [List.length_append, e2] at e3
    cases above with
    | nil => exact h2 rfl
    | cons a r => simp at e3
  cases o with
  | threw a =>
    have e1 : s.frames = .throwing a :: below := he
    have e2 : above ++ below = [.throwing a] ++ below := by rw [← h1, e1]; rfl
    exact h3 a (List.append_cancel_right e2)
  | returned v =>
    cases below with
    | nil => exact hl _ he.2 rfl
    | cons g r =>
      cases g with
      | java g =>
        obtain ⟨c, i, len, -, -, e1⟩ := he
        exact hl _ e1 rfl
      | native g => exact hl _ he rfl
      | proc g => exact hl _ he rfl
      | _ => exact hl _ he.2 rfl
/-! the start: the witness's, with a script of 256 times 18 -/
def p24_scr : Array Value := ⟨List.replicate 256 (Value.int 18)⟩
def p24_s : State := start1.aboutOf p24_scr
theorem arr_rep (cI : ClassId) (N : Nat) (v : Value) : (arrV cI N (fun _ => v)).slots = ⟨List.replicate N v⟩ := by
  apply Array.ext
  · simp [arrV]
  · intro i h2 h3
    simp [arrV]
theorem p24_slots : (arrV 16 256 (fun j => .int (j18 j))).slots = p24_scr := arr_rep 16 256 (.int 18)
theorem arr_eta (cI : ClassId) (N : Nat) (f : Nat → Value) : ({ cls := cI, slots := (arrV cI N f).slots, vm := .none } : Cell) = arrV cI N f := rfl
theorem p24_cell : ∀ cA, p24_s.vm.findClass ("[" ++ FieldType.int.toString) = some cA → p24_s.heap[0]? = some (vp_cell cA (256, .inl j18)) := by
  intro cA h
  have h1 : p24_s.vm.findClass ("[" ++ FieldType.int.toString) = some 16 := by decide +kernel
  rw [h1] at h
  cases h
  have e1 : (arrV 16 256 (fun j => .int (j18 j))).slots = p24_scr := p24_slots
  show some ({ cls := 16, slots := p24_scr, vm := .none } : Cell) = some (arrV 16 256 (fun j => .int (j18 j)))
  rw [← e1]
  exact congrArg some (arr_eta 16 256 (fun j => .int (j18 j)))
set_option maxRecDepth 100000 in
theorem p24_rest : ((Jvm.Cond.code x code maxLocals ret :: tables_1).filter (fun c => !c.onTables)).all (fun c => c.before start1.args0 p24_s) = true := by decide +kernel
theorem p24_words : ∀ c ∈ (Jvm.Cond.code x code maxLocals ret :: tables_1), c.before start1.args0 p24_s = true := by
  intro c hc
  cases ht : c.onTables with
  | true => exact va_tabs ht (u := start1.about) rfl (start1.words c hc)
  | false => exact List.all_eq_true.mp p24_rest c (List.mem_filter.mpr ⟨hc, by rw [ht]; rfl⟩)
set_option maxRecDepth 100000 in
theorem p24_pre : (Jvm.Cond.and given_1 narrow_1).before start1.args0 p24_s = true := by decide +kernel
set_option maxRecDepth 100000 in
theorem p24_ints : rest_1_c.before start1.args0 p24_s = true := by decide +kernel
set_option maxRecDepth 100000 in
theorem p24_fits : argsFit p24_s.vm ⟨0, 0⟩ start1.args0 = true ∧ heapFits p24_s = true := ⟨by decide +kernel, by decide +kernel⟩
set_option maxRecDepth 100000 in
theorem p24_app (R : Room) (hR : R.frames ≤ 13 ∧ R.cells ≤ 500 ∧ R.slots ≤ 4000 ∧ R.locals ≤ 528) : (headSpec (Jvm.Cond.code x code maxLocals ret :: tables_1) R).applies x start1.e0.platform p24_s = true := by
  refine (Spec.applies_iff (m := ⟨0, 0⟩) (args := start1.args0) (below := Lib.HandBits.below0) rfl).mpr ⟨rfl, rfl, rfl, by decide +kernel, by decide +kernel, by decide +kernel, launch0.hasRoom_least _ R ?_ ?_ ?_ ?_ (by decide +kernel) (by decide +kernel) ?_, atoms_intro p24_words⟩
  · exact Nat.le_trans (Nat.add_le_add_left hR.1 _) (by decide +kernel)
  · exact Nat.le_trans (Nat.add_le_add_left hR.2.1 _) (by decide +kernel)
  · exact Nat.le_trans (Nat.add_le_add_left hR.2.2.1 _) (by decide +kernel)
  · exact Nat.le_trans (Nat.add_le_add_left hR.2.2.2 _) (by decide +kernel)
  · exact Nat.le_trans (Nat.add_le_add_right (Nat.add_le_add_left hR.2.2.2 _) _) (by decide +kernel)
/-- THE REFUTATION: on this start, whatever state the law's run ends in, it holds more new cells than the claim lets it make -/
theorem p24_over {n : Nat} {o : Outcome} (hw : ∀ k, k < n → Within (stepsAlone start1.p0.tables start1.e0 k p24_s) Lib.HandBits.below0) (he : Ended (stepsAlone start1.p0.tables start1.e0 n p24_s) Lib.HandBits.below0 o) : p24_s.heap.size + 110 ≤ (stepsAlone start1.p0.tables start1.e0 n p24_s).heap.size := by
  have happ := ((Spec.applies_iff_loose (m := ⟨0, 0⟩) (args := start1.args0) (below := Lib.HandBits.below0) rfl).mp (p24_app R2 ⟨by decide, by decide, by decide, by decide⟩)).1
  obtain ⟨t, ⟨j, hj, hwj⟩, ht⟩ := law_grows launch0 rfl (p := start1.p0) (e := start1.e0) (launch0.admits_env _ _ _) fairChoices_fair.cas fairChoices_fair.clock (s := p24_s) (m := ⟨0, 0⟩) (below := Lib.HandBits.below0) (b := 0) rfl happ p24_pre p24_cell
  rcases Nat.lt_or_ge n j with h | h
  · exact (no_end (hwj n h) he).elim
  · obtain ⟨d, rfl⟩ := Nat.exists_eq_add_of_le h
    rw [stepsAlone_add, hj]
    exact Nat.le_trans ht (stepsAlone_heap_le _ _ d t)
theorem p24_false_1 : ¬ Claimed_1_1 := by
  intro h
  obtain ⟨n, o, hw, hrun, he, hpost⟩ := h launch0 rfl lists_1 trivial start1.p0 start1.e0 (launch0.admits_env _ _ _) fairChoices_fair.cas fairChoices_fair.clock p24_s ⟨0, 0⟩ start1.args0 Lib.HandBits.below0 rfl p24_fits.1 p24_fits.2 (p24_app room_1 ⟨by decide, by decide, by decide, by decide⟩) ⟨trivial, p24_ints, p24_pre⟩
  have h1 := p24_over hw he
  have h2 := hpost.2.1.2.2.2.2.1
  have h3 : (stepsAlone start1.p0.tables start1.e0 n p24_s).heap.size ≤ p24_s.heap.size + 109 := h2
  omega
theorem p24_false_2 : ¬ Claimed_1_2 := by
  intro h
  obtain ⟨n, o, hw, hrun, he, hpost⟩ := h launch0 rfl lists_1 trivial start1.p0 start1.e0 (launch0.admits_env _ _ _) fairChoices_fair.cas fairChoices_fair.clock p24_s ⟨0, 0⟩ start1.args0 Lib.HandBits.below0 rfl p24_fits.1 p24_fits.2 (p24_app room_1 ⟨by decide, by decide, by decide, by decide⟩) ⟨trivial, p24_ints, p24_pre⟩
  have h1 := p24_over hw he
  have h2 := hpost.2.1.2.2.2.2.1
  have h3 : (stepsAlone start1.p0.tables start1.e0 n p24_s).heap.size ≤ p24_s.heap.size + 109 := h2
  omega
theorem p24_false : ¬ (Claimed_1_1 ∧ Claimed_1_2) := fun h => p24_false_1 h.1
