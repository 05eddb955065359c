/-! what the start's tables give: the classes, the arrays, the texts; the run from the start -/
theorem st_arr {s : State} {args : Array Value} {ty : FieldType} (h : (Cond.arrayClass ty).before args s = true) : ∃ cA : ClassId, ArrOfT s cA ty ∧ s.vm.findClass ("[" ++ ty.toString) = some cA := by
  obtain ⟨cA, kA, comp, h1, h2, h3⟩ := Cond.arrayClass_spec h
  exact ⟨cA, fun n z => ⟨fun k h => (by cases h), kA, h2, comp, h3⟩, h1⟩
theorem st_str {s : State} {args : Array Value} {i : Nat} {tx : String} (h1 : (Cond.stringRef RX4 i tx).before args s = true) (h2 : (Cond.exactly (Term.string RX4 i) "java/lang/String").before args s = true) : ∃ sa, vk_R RX4 i tx sa s := by
  obtain ⟨a, c, cell, k, h3, -⟩ := Cond.exactly_spec h2
  exact ⟨a, vk_R.of h1 h3⟩
/-- the script's own cell may be said to be free too: it is no cell of statics -/
theorem zq_more {C n d : String} {A : Nat → Prop} {U : State} {H : Heap} {b : Nat} (hb : ∀ cell, H[b]? = some cell → cell.vm.isStatics = false) (h : vx_Zq C n d A U H) : vx_Zq C n d (fun q => A q ∨ q = b) U H := by
  have no : ∀ {a : Nat} {cell : Cell}, H[a]? = some cell → cell.vm.isStatics = true → ¬ A a → ¬ (A a ∨ a = b) := by
    intro a cell h1 h2 h3 h4
    rcases h4 with h4 | h4
    · exact h3 h4
    · subst h4
      rw [hb cell h1] at h2
      cases h2
  have z : ∀ v, va_Z C n d v A U H → va_Z C n d v (fun q => A q ∨ q = b) U H := by
    intro v hv
    obtain ⟨cf, kf, fi, f, a, ce, h1, h2, h3, h4, h5, h6, h7, h8⟩ := hv
    exact ⟨cf, kf, fi, f, a, ce, h1, h2, h3, h4, h5, h6, h7, no h5 h6 h8⟩
  obtain ⟨hz, c, k, i, f, a, ce, h1, h2, h3, h4, h5, h6, h7, h8, h9, h10⟩ := h
  refine ⟨?_, c, k, i, f, a, ce, h1, h2, h3, h4, h5, h6, h7, h8, h9, no h5 h6 h10⟩
  rcases hz with hz | ⟨t, hz⟩
  · exact Or.inl (z _ hz)
  · exact Or.inr ⟨t, z _ hz⟩
set_option maxRecDepth 100000 in
set_option maxHeartbeats 4000000 in
theorem st_words {s : State} {b : Nat} (hts : ∀ w ∈ lw_tbl, w.before #[Value.ref b] s = true) (hgv : (Jvm.Cond.and given_1 narrow_1).before #[Value.ref b] s = true) (hb : ∀ cell, s.heap[b]? = some cell → cell.vm.isStatics = false) : xZ (fun q : Nat => s.heap.size ≤ q ∨ q = b) s s.heap := by
  have hs := flat_of_before _ hgv
  have hA : ∀ a : Nat, a < s.heap.size → ¬ (fun q : Nat => s.heap.size ≤ q) a := fun a h => Nat.not_le.mpr h
  refine ⟨zq_more hb (vx_Zqof (hts (.laysStatic Bundle.tN "UNASSIGNED_STACK" Bundle.steD) (by decide +kernel)) (hts (.initialized Bundle.tN) (by decide +kernel)) (hs (.isRef (.static Bundle.tN "UNASSIGNED_STACK" Bundle.steD)) (by decide +kernel)) hA),
    zq_more hb (vx_Zqof (hts (.laysStatic Bundle.tN "SUPPRESSED_SENTINEL" Bundle.listD) (by decide +kernel)) (hts (.initialized Bundle.tN) (by decide +kernel)) (hs (.isRef (.static Bundle.tN "SUPPRESSED_SENTINEL" Bundle.listD)) (by decide +kernel)) hA), ?_, ?_, ?_, ?_⟩
  · have h : ∀ y ∈ xDc, Cond.declares y ∈ lw_tbl := by decide +kernel
    exact fun y hy => va_Nw.of rfl (hts _ (h y hy))
  · have h : ∀ E ∈ xCs, Cond.castable E E ∈ lw_tbl := by decide +kernel
    exact fun E hE => va_Nw.of rfl (hts _ (h E hE))
  · exact ⟨va_Nc.of (hs (.not (.castable xISE xIAE)) (by decide +kernel)), va_Nc.of (hs (.not (.castable xIOE xIAE)) (by decide +kernel))⟩
  · have h1 : ∀ q ∈ xStr, Cond.stringRef RX4 q.1 q.2 ∈ lw_tbl := by decide +kernel
    have h2 : ∀ q ∈ xStr, Cond.exactly (Term.string RX4 q.1) "java/lang/String" ∈ flatC (Jvm.Cond.and given_1 narrow_1) := by decide +kernel
    exact fun q hq => st_str (hts _ (h1 q hq)) (hs _ (h2 q hq))
set_option maxRecDepth 100000 in
set_option maxHeartbeats 4000000 in
theorem st_known {s : State} {b : Nat} (hts : ∀ w ∈ lw_tbl, w.before #[Value.ref b] s = true) : ∃ (D : va_G) (cT : Nat → ClassId), va_K D vwCl (ty2 cT) s ∧ s.vm.findClass ("[" ++ FieldType.int.toString) = some (cT 0) := by
  obtain ⟨c0, i0, K0⟩ := u_known (C := RX2) (T := TX2) (N := 6) (n := 6) hts inX2 (hts (.instantiable RX2 6) (by decide +kernel))
  obtain ⟨c1, i1, K1⟩ := u_known (C := RX3) (T := TX3) (N := 3) (n := 3) hts inX3 (hts (.instantiable RX3 3) (by decide +kernel))
  obtain ⟨c2, i2, K2⟩ := u_known (C := RX4) (T := TX4) (N := 3) (n := 3) hts inX4 (hts (.instantiable RX4 3) (by decide +kernel))
  obtain ⟨a0, A0, B0⟩ := st_arr (hts (.arrayClass .int) (by decide +kernel))
  obtain ⟨a1, A1, B1⟩ := st_arr (hts (.arrayClass .boolean) (by decide +kernel))
  refine ⟨(fun k => if k = 0 then c0 else if k = 1 then c1 else c2, fun k => if k = 0 then i0 else if k = 1 then i1 else i2), fun k => if k = 0 then a0 else a1, ⟨?_, ?_⟩, B0⟩
  · intro k q hq
    match k, hq with
    | 0, hq => cases hq; exact K0
    | 1, hq => cases hq; exact K1
    | 2, hq => cases hq; exact K2
    | k + 3, hq => simp [vwCl] at hq
  · intro k q hq
    match k, hq with
    | 0, hq => cases hq; exact ⟨A0, B0⟩
    | 1, hq => cases hq; exact ⟨A1, B1⟩
    | k + 2, hq => simp at hq
set_option maxRecDepth 100000 in
set_option maxHeartbeats 4000000 in
/-- from the law's entry, with room for 500 new cells and the script of 18s at b: it comes to a state with 110 new cells at least -/
theorem law_start {p : Program} {e : Env} {s : State} {m : MethodId} {below : List Frame} {meth : Method} {c : Code} (l : Launch) (hflags : l.flags = flags0) {b : Nat} (hx : p.tables.exec = Jvm.exec) (hb : c.code = code) (hml : c.maxLocals = 5) (hown : s.vm.findClass RL = some m.cls) (hts : ∀ w ∈ lw_tbl, w.before #[Value.ref b] s = true) (hlocks : meth.locks = false) (hgv : (Jvm.Cond.and given_1 narrow_1).before #[Value.ref b] s = true)
    (hscr : ∀ cA, s.vm.findClass ("[" ++ FieldType.int.toString) = some cA → s.heap[b]? = some (vp_cell cA (256, .inl j18))) : W p l e R2 s m #[Value.ref b] below meth c s.heap [] 0 0 (fun t => s.heap.size + 110 ≤ t.heap.size) (entryFrame m ([Value.ref b] : List Value).toArray 5) := by
  have hX0 : l.stackTraces = false := by unfold Launch.stackTraces; rw [hflags]; decide +kernel
  obtain ⟨D, cT, hK, hc0⟩ := st_known hts
  have hcell := hscr _ hc0
  have Z := st_words hts hgv (fun cell h => by
    rw [hcell] at h
    cases h
    rfl)
  have C : hC p s m #[Value.ref b] meth c code 5 wsL_law RL D (ty2 cT) (fun q : Nat => s.heap.size ≤ q ∨ q = b) := ⟨⟨hx, hb, hml, hown, fun w h => hts w (wsL_law_in w h)⟩, hK, hlocks, fun _ h => Or.inl h⟩
  have hN : nW s := ⟨va_Nw.of rfl (hts (.methodLinkNest RX4 15 yX2_init "HilbertHutch") (by decide +kernel)), va_Nw.of rfl (hts (.methodLinkNest RX4 22 yX3_init "HilbertHutch") (by decide +kernel))⟩
  have go := k_start (below := below) (e := e) (b := b) hX0 D cT C Z hN
  have hl := lv_entry ([.ref b]) (n := 5) (Nat.le_of_ble_eq_true rfl)
  rw [lg_entry_eq]
  refine go s.heap [] _ (fun k q h => ?_) ⟨fun i j p q h1 h2 _ => ?_, fun k q h => ?_⟩ va_S.rf (Nat.le_refl _) hl
  · have hk : k < 1 := (List.getElem?_eq_some_iff.mp h).1
    rw [show k = 0 by omega] at h
    cases h
    exact hcell
  · have hi : i < 1 := (List.getElem?_eq_some_iff.mp h1).1
    have hj : j < 1 := (List.getElem?_eq_some_iff.mp h2).1
    omega
  · have hk : k < 1 := (List.getElem?_eq_some_iff.mp h).1
    rw [show k = 0 by omega] at h
    cases h
    exact Or.inr rfl
