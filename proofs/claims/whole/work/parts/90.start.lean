/-! the law from its entry -/
theorem st_arr {s : State} {args : Array Value} {ty : FieldType} (h : (Cond.arrayClass ty).before args s = true) : ∃ cA : ClassId, ArrOfT s cA ty ∧ s.vm.findClass ("[" ++ ty.toString) = some cA := by
  obtain ⟨cA, kA, comp, h1, h2, h3⟩ := Cond.arrayClass_spec h
  exact ⟨cA, fun n z => ⟨fun k h => (by cases h), kA, h2, comp, h3⟩, h1⟩
theorem st_str {s : State} {args : Array Value} {i : Nat} {tx : String} (h1 : (Cond.stringRef RX4 i tx).before args s = true) (h2 : (Cond.exactly (Term.string RX4 i) "java/lang/String").before args s = true) : ∃ sa, vk_R RX4 i tx sa s := by
  obtain ⟨a, c, cell, k, h3, -⟩ := Cond.exactly_spec h2
  exact ⟨a, vk_R.of h1 h3⟩
set_option maxRecDepth 100000 in
set_option maxHeartbeats 4000000 in
theorem st_words {s : State} {b : Nat} (hts : ∀ w ∈ lw_tbl, w.before #[Value.ref b] s = true) (hgv : (Jvm.Cond.and given_1 narrow_1).before #[Value.ref b] s = true) : xZ (fun q : Nat => s.heap.size ≤ q) s s.heap := by
  have hs := flat_of_before _ hgv
  have hA : ∀ a : Nat, a < s.heap.size → ¬ (fun q : Nat => s.heap.size ≤ q) a := fun a h => Nat.not_le.mpr h
  refine ⟨vx_Zqof (hts (.laysStatic Bundle.tN "UNASSIGNED_STACK" Bundle.steD) (by decide +kernel)) (hts (.initialized Bundle.tN) (by decide +kernel)) (hs (.isRef (.static Bundle.tN "UNASSIGNED_STACK" Bundle.steD)) (by decide +kernel)) hA,
    vx_Zqof (hts (.laysStatic Bundle.tN "SUPPRESSED_SENTINEL" Bundle.listD) (by decide +kernel)) (hts (.initialized Bundle.tN) (by decide +kernel)) (hs (.isRef (.static Bundle.tN "SUPPRESSED_SENTINEL" Bundle.listD)) (by decide +kernel)) hA, ?_, ?_, ?_, ?_⟩
  · have h : ∀ y ∈ xDc, Cond.declares y ∈ lw_tbl := by decide +kernel
    exact fun y hy => va_Nw.of rfl (hts _ (h y hy))
  · have h : ∀ E ∈ xCs, Cond.castable E E ∈ lw_tbl := by decide +kernel
    exact fun E hE => va_Nw.of rfl (hts _ (h E hE))
  · exact ⟨va_Nc.of (hs (.not (.castable xISE xIAE)) (by decide +kernel)), va_Nc.of (hs (.not (.castable xIOE xIAE)) (by decide +kernel))⟩
  · have h1 : ∀ q ∈ xStr, Cond.stringRef RX4 q.1 q.2 ∈ lw_tbl := by decide +kernel
    have h2 : ∀ q ∈ xStr, Cond.exactly (Term.string RX4 q.1) "java/lang/String" ∈ flatC (Jvm.Cond.and given_1 narrow_1) := by decide +kernel
    exact fun q hq => st_str (hts _ (h1 q hq)) (hs _ (h2 q hq))
set_option maxRecDepth 100000 in
set_option maxHeartbeats 4000000 in
theorem st_known {s : State} {b : Nat} (hts : ∀ w ∈ lw_tbl, w.before #[Value.ref b] s = true) : ∃ (D : va_G) (cT : Nat → ClassId), va_K D vwCl (ty4 cT) s := by
  obtain ⟨c0, i0, K0⟩ := u_known (C := RX2) (T := TX2) (N := 6) (n := 6) hts inX2 (hts (.instantiable RX2 6) (by decide +kernel))
  obtain ⟨c1, i1, K1⟩ := u_known (C := RX3) (T := TX3) (N := 3) (n := 3) hts inX3 (hts (.instantiable RX3 3) (by decide +kernel))
  obtain ⟨c2, i2, K2⟩ := u_known (C := RX4) (T := TX4) (N := 3) (n := 3) hts inX4 (hts (.instantiable RX4 3) (by decide +kernel))
  obtain ⟨c3, i3, K3⟩ := u_known (C := RX5) (T := TX5) (N := 16) (n := 16) hts inX5 (hts (.instantiable RX5 16) (by decide +kernel))
  obtain ⟨a0, A0, B0⟩ := st_arr (hts (.arrayClass .int) (by decide +kernel))
  obtain ⟨a1, A1, B1⟩ := st_arr (hts (.arrayClass .boolean) (by decide +kernel))
  obtain ⟨a2, A2, B2⟩ := st_arr (hts (.arrayClass .long) (by decide +kernel))
  obtain ⟨a3, A3, B3⟩ := st_arr (hts (.arrayClass .double) (by decide +kernel))
  refine ⟨(fun k => if k = 0 then c0 else if k = 1 then c1 else if k = 2 then c2 else c3, fun k => if k = 0 then i0 else if k = 1 then i1 else if k = 2 then i2 else i3), fun k => if k = 0 then a0 else if k = 1 then a1 else if k = 2 then a2 else a3, ?_, ?_⟩
  · intro k q hq
    match k, hq with
    | 0, hq => cases hq; exact K0
    | 1, hq => cases hq; exact K1
    | 2, hq => cases hq; exact K2
    | 3, hq => cases hq; exact K3
    | k + 4, hq => simp [vwCl] at hq
  · intro k q hq
    match k, hq with
    | 0, hq => cases hq; exact ⟨A0, B0⟩
    | 1, hq => cases hq; exact ⟨A1, B1⟩
    | 2, hq => cases hq; exact ⟨A2, B2⟩
    | 3, hq => cases hq; exact ⟨A3, B3⟩
    | k + 4, hq => simp at hq
set_option maxRecDepth 100000 in
set_option maxHeartbeats 4000000 in
theorem whole_start {p : Program} {e : Env} {s : State} {m : MethodId} {below : List Frame} {meth : Method} {c : Code} (l : Launch) (hflags : l.flags = flags0) {b L : Nat} {xs : Nat → Int32} (hL : L ≤ 3072) (C0 : lw_At p s m meth c b L xs) : W p l e room_1 s m #[Value.ref b] below meth c s.heap [] 0 0 (lw_Z below #[Value.ref b] s) (entryFrame m ([Value.ref b] : List Value).toArray 8) := by
  obtain ⟨hx, hb, hr, hml, hown, hts, hX, hbl, hlocks, hgv⟩ := id C0
  have hX0 : l.stackTraces = false := by unfold Launch.stackTraces; rw [hflags]; decide +kernel
  have Z := st_words hts hgv
  obtain ⟨D, cT, hK⟩ := st_known hts
  have hbA : ¬ (fun q : Nat => s.heap.size ≤ q) b := Nat.not_le.mpr hbl
  have C : hC p s m #[Value.ref b] meth c code 8 wsL_law RL D (ty4 cT) (fun q : Nat => s.heap.size ≤ q) := ⟨⟨hx, hb, hml, hown, fun w h => hts w (wsL_law_in w h)⟩, hK, hlocks, fun _ h => h⟩
  have hN : nW s := ⟨va_Nw.of rfl (hts (.methodLinkNest RX4 15 yX2_init "HilbertHutch") (by decide +kernel)), va_Nw.of rfl (hts (.methodLinkNest RX4 22 yX3_init "HilbertHutch") (by decide +kernel))⟩
  have hEnd : ∀ (CE SL : Nat), CE ≤ 1055 → SL ≤ 10903 → ∀ (lv : List (Nat × Value)) (ws : va_W), hS p l e room_1 s m #[Value.ref b] below meth c 8 D (fun q : Nat => s.heap.size ≤ q) CE SL (lw_Z below #[Value.ref b] s) 1429 lv [.int 1] ws := by
    intro CE SL h1 h2 lv ws H locs ls hP hD hS hl
    refine va_forget (fun q hq => hS.2.2 q hq) ?_
    refine W.widen (k := 1055) (n := 10903) h1 h2 ?_
    exact lw_ret (d0 := s.drawn) (Drawn.sameBut.refl s.drawn lw_cs) hx hb hr hlocks dL_law_1429
  obtain ⟨n, hf⟩ := law_pure L hL xs
  have go : hS p l e room_1 s m #[Value.ref b] below meth c 8 D (fun q : Nat => s.heap.size ≤ q) 0 0 (lw_Z below #[Value.ref b] s) 0 [(0, .ref b)] [] [] := by
    refine h_new (pc := 0) (C0 := RX4) (T := TX4) (N := 3) (ci := 2) (fs := [.null, .null, .null]) C inlX4 tyX4 tyX4_ok (List.mem_of_getElem? (i := 0) rfl) (List.mem_of_getElem? (i := 1) rfl) (List.mem_of_getElem? (i := 2) rfl) rfl (fun j hj => by rcases (show j = 0 ∨ j = 1 ∨ j = 2 by omega) with rfl | rfl | rfl <;> rfl) ⟨Nat.le_of_ble_eq_true rfl, Nat.le_of_ble_eq_true rfl⟩ dL_law_0 (fun x0 => ?_)
    refine h_dup (pc := 3) C dL_law_3 rfl ?_
    refine h_callI (pc := 4) (As := []) (rest := [.ref x0]) (ws' := fun qs => wX cT (adx x0 qs) j0 j0 j0 j0 0 0 j0 j0 0 j0) C hN (c_X4_init l D cT x0) (cwI 0 C.1.2.2.2.2 gL_law_X4_init rfl rfl rfl (C.1.2.2.2.2 _ (List.mem_of_getElem? (i := 2) rfl)) (C.1.2.2.2.2 _ (List.mem_of_getElem? (i := 8) rfl)) (C.1.2.2.2.2 _ (List.mem_of_getElem? (i := 9) rfl)) rfl (by decide +kernel) ⟨Nat.le_of_ble_eq_true rfl, Nat.le_of_ble_eq_true rfl⟩) dL_law_4 rfl rfl (Nat.le_of_ble_eq_true rfl) ⟨Nat.le_of_ble_eq_true rfl, Nat.le_of_ble_eq_true rfl⟩ [0] [] [0, 1, 2, 3, 4, 5, 6, 7, 8, 9] rfl rfl rfl rfl (by decide) rfl (fun _ => rfl) (fun qx => ?_)
    refine h_astore_n (pc := 7) (lv' := [(1, .ref x0), (0, .ref b)]) C dL_law_7 rfl (by decide) rfl ?_
    refine h_new (pc := 8) (C0 := RX5) (T := TX5) (N := 16) (ci := 3) (fs := [.int 0, .null, .null, .null, .int 0, .null, .int 0, .null, .null, .int 0, .int 0, .int 0, .int 0, .int 0, .int 0, .int 0]) C inlX5 tyX5 tyX5_ok (List.mem_of_getElem? (i := 3) rfl) (List.mem_of_getElem? (i := 4) rfl) (List.mem_of_getElem? (i := 5) rfl) rfl (fun j hj => by rcases (show j = 0 ∨ j = 1 ∨ j = 2 ∨ j = 3 ∨ j = 4 ∨ j = 5 ∨ j = 6 ∨ j = 7 ∨ j = 8 ∨ j = 9 ∨ j = 10 ∨ j = 11 ∨ j = 12 ∨ j = 13 ∨ j = 14 ∨ j = 15 by omega) with rfl | rfl | rfl | rfl | rfl | rfl | rfl | rfl | rfl | rfl | rfl | rfl | rfl | rfl | rfl | rfl <;> rfl) ⟨Nat.le_of_ble_eq_true rfl, Nat.le_of_ble_eq_true rfl⟩ dL_law_8 (fun x1 => ?_)
    refine h_dup (pc := 11) C dL_law_11 rfl ?_
    refine h_callI (pc := 12) (As := []) (rest := [.ref x1]) (ws' := fun qs => wX cT (adx x0 qx) j0 j0 j0 j0 0 0 j0 j0 0 j0 ++ wM cT (adm x1 qs) 0 j0 j0 j0 0 j0 0 j0 j0 0 0 0 0 0 0 0) C hN (c_X5_init l D cT x1) (cwI 0 C.1.2.2.2.2 gL_law_X5_init rfl rfl rfl (C.1.2.2.2.2 _ (List.mem_of_getElem? (i := 5) rfl)) (C.1.2.2.2.2 _ (List.mem_of_getElem? (i := 37) rfl)) (C.1.2.2.2.2 _ (List.mem_of_getElem? (i := 38) rfl)) rfl (by decide +kernel) ⟨Nat.le_of_ble_eq_true rfl, Nat.le_of_ble_eq_true rfl⟩) dL_law_12 rfl rfl (Nat.le_of_ble_eq_true rfl) ⟨Nat.le_of_ble_eq_true rfl, Nat.le_of_ble_eq_true rfl⟩ [10] [0, 1, 2, 3, 4, 5, 6, 7, 8, 9] [0, 1, 2, 3, 4, 5, 6, 7, 8, 9, 10, 11, 12, 13, 14, 15, 16] rfl rfl rfl rfl (by decide) rfl (fun _ => rfl) (fun qm => ?_)
    refine h_astore_n (pc := 15) (lv' := [(2, .ref x1), (1, .ref x0), (0, .ref b)]) C dL_law_15 rfl (by decide) rfl ?_
    refine h_iconst (pc := 16) C dL_law_16 jc_1 ?_
    refine h_newa (pc := 17) (ty := .long) (cA := cT 2) (N' := 1) (a0 := (1, .inr (.inl (fun _ => 0)))) C rfl (List.mem_of_getElem? (i := 6) rfl) raJ 2 rfl (fun _ => rfl) (by decide) (by decide) (by decide) ⟨Nat.le_of_ble_eq_true rfl, Nat.le_of_ble_eq_true rfl⟩ dL_law_17 (fun o1 => ?_)
    refine h_astore_n (pc := 19) (lv' := [(3, .ref o1), (2, .ref x1), (1, .ref x0), (0, .ref b)]) C dL_law_19 rfl (by decide) rfl ?_
    refine h_iconst (pc := 20) C dL_law_20 jc_1 ?_
    refine h_newa (pc := 21) (ty := .double) (cA := cT 3) (N' := 1) (a0 := (1, .inr (.inr (.inr (.inl (fun _ => 0)))))) C rfl (List.mem_of_getElem? (i := 7) rfl) raD 3 rfl (fun _ => rfl) (by decide) (by decide) (by decide) ⟨Nat.le_of_ble_eq_true rfl, Nat.le_of_ble_eq_true rfl⟩ dL_law_21 (fun o2 => ?_)
    refine h_astore (pc := 23) (lv' := [(4, .ref o2), (3, .ref o1), (2, .ref x1), (1, .ref x0), (0, .ref b)]) C dL_law_23 (by decide) rfl ?_
    refine h_iconst (pc := 25) C dL_law_25 jc_0 ?_
    refine h_istore (pc := 26) (lv' := [(5, .int 0), (4, .ref o2), (3, .ref o1), (2, .ref x1), (1, .ref x0), (0, .ref b)]) C dL_law_26 (by decide) rfl ?_
    refine h_sub [5, 4, 3, 2, 1, 0] rfl ?_
    obtain ⟨ad, ha⟩ : ∃ ad : Nat → Nat, ad = fun k => [x0, qx 0, qx 1, qx 2, qx 3, qx 4, qx 5, qx 6, qx 7, qx 8, x1, qm 0, qm 1, qm 2, qm 3, qm 4, qm 5, o1, o2, b].getD k 0 := ⟨_, rfl⟩
    have X9 : va_X (ad 19) L xs s s.heap ∧ ad 19 < s.heap.size ∧ ¬ (fun q : Nat => s.heap.size ≤ q) (ad 19) := by subst ha; exact ⟨hX, hbl, hbA⟩
    have K := k_L_law_28 (Q := lw_Z below #[Value.ref b] s) hX0 D cT ad C X9 Z hEnd n hL n 19 2639 j0 j0 j0 j0 0 0 j0 j0 0 j0 0 j0 j0 j0 0 j0 0 j0 j0 0 0 0 0 0 0 0 (fun _ => 0) (fun _ => 0) 0 (by unfold lwB; refine ⟨by decide, ?_, by decide, by decide⟩; show (0 : Int) ≤ (L : Int); omega) hf
    subst ha
    exact K
  have hl := lv_entry ([.ref b]) (n := 8) (Nat.le_of_ble_eq_true rfl)
  rw [lg_entry_eq]
  exact go s.heap [] _ (fun k q h => by simp at h) ⟨fun i j p q h => by simp at h, fun k q h => by simp at h⟩ va_S.rf hl
