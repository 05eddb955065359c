/-! laid by wip/p24/law24.py: the law on a script of 18s: each round is a question for the pairs of an empty tree, and two calls of it are refused -/
abbrev R2 : Room := { frames := 13, cells := 500, slots := 4000, locals := 528 }
theorem h_wsub {p : Program} {l : Launch} {e : Env} {R : Room} {s : State} {m : MethodId} {args : Array Value} {below : List Frame} {meth : Method} {c : Code} {cells slots G nL : Nat} {Q : State → Prop} {D : va_G} {A : Nat → Prop} {pc : Nat} {lv : List (Nat × Value)} {st : List Value} {ws ws' : va_W} (is : List Nat) (hin : va_nd is = true) (his : is.map (fun i => ws[i]?) = ws'.map some) (kk : hK G p l e R s m args below meth c nL D A cells slots Q pc lv st ws') : hK G p l e R s m args below meth c nL D A cells slots Q pc lv st ws :=
  fun H locs ls hP hD hS hG hl => kk H locs ls (h_psub his hP) (hD.sub is hin his) hS hG hl
set_option maxRecDepth 100000 in
theorem k_facts : ∀ k : Nat, k < 64 → ¬ 64 ≤ nI k ∧ pAt (4 * nI k) ∧ pAt (4 * nI k + 1) ∧ pAt (4 * nI k + 2) ∧ pAt (4 * nI k + 3) ∧ nI k + Int32.ofInt 1 = nI (k + 1) := by
  unfold pAt vp_in
  decide +kernel
set_option maxRecDepth 100000 in
set_option maxHeartbeats 4000000 in
theorem k_loop {p : Program} {l : Launch} {e : Env} {s : State} {m : MethodId} {args : Array Value} {below : List Frame} {meth : Method} {c : Code} {A : Nat → Prop} (hX0 : l.stackTraces = false) (D : va_G) (cT : Nat → ClassId) (ad : Nat → Nat) (C : hC p s m args meth c code 5 wsL_law RL D (ty2 cT) A) (Z : xZ A s s.heap) : ∀ d k CE SL : Nat, k + d = 55 → CE ≤ 20 + 7 * k → SL ≤ 1000 + 42 * k → hK (2 * k) p l e R2 s m args below meth c 5 D A CE SL (fun t => s.heap.size + 110 ≤ t.heap.size) 37 [(0, .ref (ad 11)), (1, .ref (ad 0)), (2, .ref (ad 10)), (3, .int 1), (4, .int (nI k))] [] (wN cT ad) := by
  intro d
  induction d with
  | zero => intro k CE SL h1 h2 h3; exact h_stop (by omega)
  | succ d ih =>
  intro k CE SL h1 h2 h3
  obtain ⟨hk64, p0, p1, p2, p3, hk1⟩ := k_facts k (by omega)
  refine h_iload (pc := 37) C dL_law_37 4 rfl ?_
  refine h_bipush (pc := 39) (v := 64) C dL_law_39 (by decide) ?_
  refine h_icmp_ge (pc := 41) (tgt := 89) C dL_law_41 (by decide) (fun q => absurd q hk64) (fun _ => ?_)
  refine h_iload_n (pc := 44) C dL_law_44 rfl 3 rfl ?_
  refine h_if_eq (pc := 45) (tgt := 89) C dL_law_45 (by decide) (fun q => absurd q (by decide)) (fun _ => ?_)
  refine h_aload_n (pc := 48) C dL_law_48 rfl 1 rfl ?_
  refine h_aload_n (pc := 49) C dL_law_49 rfl 0 rfl ?_
  refine h_iconst (pc := 50) (v := 4) C dL_law_50 (by decide) ?_
  refine h_iload (pc := 51) C dL_law_51 4 rfl ?_
  refine h_imul (pc := 53) C dL_law_53 ?_
  refine h_aload_n (pc := 54) C dL_law_54 rfl 2 rfl ?_
  refine h_callS (pc := 55) (As := [.ref (ad 0), .ref (ad 11), .int (4 * (nI k)), .ref (ad 10)]) (rest := []) (st2 := .int 1 :: []) C Z (g_L_isDone_x2 hX0 D cT ad (4 * nI k) p0 p1 p2 p3) (va_cwS 4 C.1.2.2.2.2 gL_law_L_isDone rfl rfl rfl ps_L_isDone ⟨Nat.le_of_ble_eq_true rfl, Nat.le_of_ble_eq_true rfl⟩) dL_law_55 rfl rfl (Nat.le_of_ble_eq_true rfl) ⟨by show CE + 2 ≤ 500; omega, by show SL + 12 ≤ 4000; omega⟩ [0, 1, 2, 3, 4, 5, 6, 7, 8, 9, 10, 11] [] [0, 1, 2, 3, 4, 5, 6, 7, 8, 9, 10, 11] rfl rfl rfl rfl (by decide) rfl rfl rfl ?_
  refine h_if_eq (pc := 58) (tgt := 81) C dL_law_58 (by decide) (fun q => absurd q (by decide)) (fun _ => ?_)
  refine h_iload (pc := 61) C dL_law_61 4 rfl ?_
  refine h_iconst (pc := 63) (v := 4) C dL_law_63 (by decide) ?_
  refine h_irem (pc := 64) C dL_law_64 (by decide) ?_
  refine h_iconst (pc := 65) (v := 3) C dL_law_65 (by decide) ?_
  refine h_icmp_lt (pc := 66) (tgt := 77) C dL_law_66 (by decide) (fun _ => ?_) (fun _ => ?_)
  · skip
    refine h_iconst (pc := 77) (v := 1) C dL_law_77 (by decide) ?_
    refine h_goto (pc := 78) (tgt := 82) C dL_law_78 (by decide) ?_
    refine h_istore_n (pc := 82) (lv' := [(3, .int 1), (0, .ref (ad 11)), (1, .ref (ad 0)), (2, .ref (ad 10)), (4, .int (nI k))]) C dL_law_82 rfl (by decide) rfl ?_
    refine h_iinc (pc := 83) (v := nI (k + 1)) (lv' := [(4, .int (nI (k + 1))), (3, .int 1), (0, .ref (ad 11)), (1, .ref (ad 0)), (2, .ref (ad 10))]) C dL_law_83 4 rfl hk1 (by decide) rfl ?_
    refine h_goto (pc := 86) (tgt := 37) C dL_law_86 (by decide) ?_
    refine h_sub [2, 3, 4, 1, 0] rfl ?_
    refine h_less (G1 := 2 * (k + 1)) (by omega) ?_
    exact ih (k + 1) _ _ (by omega) (by show CE + 2 ≤ 20 + 7 * (k + 1); omega) (by show SL + 12 ≤ 1000 + 42 * (k + 1); omega)
  · skip
    refine h_aload_n (pc := 69) C dL_law_69 rfl 1 rfl ?_
    refine h_aload_n (pc := 70) C dL_law_70 rfl 2 rfl ?_
    refine h_callS (pc := 71) (As := [.ref (ad 0), .ref (ad 10)]) (rest := []) (st2 := .int 1 :: []) C Z (g_L_areAll hX0 D cT ad) (va_cwS 2 C.1.2.2.2.2 gL_law_L_areAll rfl rfl rfl ps_L_areAll ⟨Nat.le_of_ble_eq_true rfl, Nat.le_of_ble_eq_true rfl⟩) dL_law_71 rfl rfl (Nat.le_of_ble_eq_true rfl) ⟨by show CE + 7 ≤ 500; omega, by show SL + 42 ≤ 4000; omega⟩ [0, 1, 2, 3, 4, 5, 6, 7, 8, 9, 10] [11] [1, 2, 3, 4, 5, 6, 7, 8, 9, 10, 11, 0] rfl rfl rfl rfl (by decide) rfl rfl rfl ?_
    refine h_if_eq (pc := 74) (tgt := 81) C dL_law_74 (by decide) (fun q => absurd q (by decide)) (fun _ => ?_)
    refine h_iconst (pc := 77) (v := 1) C dL_law_77 (by decide) ?_
    refine h_goto (pc := 78) (tgt := 82) C dL_law_78 (by decide) ?_
    refine h_istore_n (pc := 82) (lv' := [(3, .int 1), (0, .ref (ad 11)), (1, .ref (ad 0)), (2, .ref (ad 10)), (4, .int (nI k))]) C dL_law_82 rfl (by decide) rfl ?_
    refine h_iinc (pc := 83) (v := nI (k + 1)) (lv' := [(4, .int (nI (k + 1))), (3, .int 1), (0, .ref (ad 11)), (1, .ref (ad 0)), (2, .ref (ad 10))]) C dL_law_83 4 rfl hk1 (by decide) rfl ?_
    refine h_goto (pc := 86) (tgt := 37) C dL_law_86 (by decide) ?_
    refine h_sub [2, 3, 4, 1, 0] rfl ?_
    refine h_less (G1 := 2 * (k + 1)) (by omega) ?_
    exact ih (k + 1) _ _ (by omega) (by show CE + 7 ≤ 20 + 7 * (k + 1); omega) (by show SL + 42 ≤ 1000 + 42 * (k + 1); omega)
set_option maxRecDepth 100000 in
set_option maxHeartbeats 4000000 in
theorem k_entry {p : Program} {l : Launch} {e : Env} {s : State} {m : MethodId} {args : Array Value} {below : List Frame} {meth : Method} {c : Code} {A : Nat → Prop} (hX0 : l.stackTraces = false) (D : va_G) (cT : Nat → ClassId) (ad : Nat → Nat) (C : hC p s m args meth c code 5 wsL_law RL D (ty2 cT) A) (Z : xZ A s s.heap) : hK 0 p l e R2 s m args below meth c 5 D A 11 922 (fun t => s.heap.size + 110 ≤ t.heap.size) 12 [(2, .ref (ad 10)), (1, .ref (ad 0)), (0, .ref (ad 11))] [] (wN cT ad) := by
  refine h_aload_n (pc := 12) C dL_law_12 rfl 1 rfl ?_
  refine h_aload_n (pc := 13) C dL_law_13 rfl 0 rfl ?_
  refine h_callS (pc := 14) (As := [.ref (ad 0), .ref (ad 10)]) (rest := []) (st2 := .int 1 :: []) C Z (g_L_areAll hX0 D cT ad) (va_cwS 2 C.1.2.2.2.2 gL_law_L_areAll rfl rfl rfl ps_L_areAll ⟨Nat.le_of_ble_eq_true rfl, Nat.le_of_ble_eq_true rfl⟩) dL_law_14 rfl rfl (Nat.le_of_ble_eq_true rfl) ⟨Nat.le_of_ble_eq_true rfl, Nat.le_of_ble_eq_true rfl⟩ [0, 1, 2, 3, 4, 5, 6, 7, 8, 9, 10] [11] [1, 2, 3, 4, 5, 6, 7, 8, 9, 10, 11, 0] rfl rfl rfl rfl (by decide) rfl rfl rfl ?_
  refine h_if_eq (pc := 17) (tgt := 32) C dL_law_17 (by decide) (fun q => absurd q (by decide)) (fun _ => ?_)
  refine h_aload_n (pc := 20) C dL_law_20 rfl 1 rfl ?_
  refine h_aload_n (pc := 21) C dL_law_21 rfl 0 rfl ?_
  refine h_callS (pc := 22) (As := [.ref (ad 0), .ref (ad 10)]) (rest := []) (st2 := .int 1 :: []) C Z (g_L_arePairs hX0 D cT ad) (va_cwS 2 C.1.2.2.2.2 gL_law_L_arePairs rfl rfl rfl ps_L_arePairs ⟨Nat.le_of_ble_eq_true rfl, Nat.le_of_ble_eq_true rfl⟩) dL_law_22 rfl rfl (Nat.le_of_ble_eq_true rfl) ⟨Nat.le_of_ble_eq_true rfl, Nat.le_of_ble_eq_true rfl⟩ [0, 1, 2, 3, 4, 5, 6, 7, 8, 9, 10] [11] [1, 2, 3, 4, 5, 6, 7, 8, 9, 10, 11, 0] rfl rfl rfl rfl (by decide) rfl rfl rfl ?_
  refine h_if_eq (pc := 25) (tgt := 32) C dL_law_25 (by decide) (fun q => absurd q (by decide)) (fun _ => ?_)
  refine h_iconst (pc := 28) (v := 1) C dL_law_28 (by decide) ?_
  refine h_goto (pc := 29) (tgt := 33) C dL_law_29 (by decide) ?_
  refine h_istore_n (pc := 33) (lv' := [(3, .int 1), (2, .ref (ad 10)), (1, .ref (ad 0)), (0, .ref (ad 11))]) C dL_law_33 rfl (by decide) rfl ?_
  refine h_iconst (pc := 34) (v := 0) C dL_law_34 (by decide) ?_
  refine h_istore (pc := 35) (lv' := [(4, .int 0), (3, .int 1), (2, .ref (ad 10)), (1, .ref (ad 0)), (0, .ref (ad 11))]) C dL_law_35 (by decide) rfl ?_
  refine h_sub [4, 3, 2, 1, 0] rfl ?_
  refine h_less (G1 := 2 * 0) (Nat.zero_le _) ?_
  exact k_loop hX0 D cT ad C Z 55 0 _ _ rfl (Nat.le_of_ble_eq_true rfl) (Nat.le_of_ble_eq_true rfl)
set_option maxRecDepth 100000 in
set_option maxHeartbeats 4000000 in
theorem k_start {p : Program} {l : Launch} {e : Env} {s : State} {m : MethodId} {args : Array Value} {below : List Frame} {meth : Method} {c : Code} {A : Nat → Prop} {b : Nat} (hX0 : l.stackTraces = false) (D : va_G) (cT : Nat → ClassId) (C : hC p s m args meth c code 5 wsL_law RL D (ty2 cT) A) (Z : xZ A s s.heap) (hN : nW s) : hK 0 p l e R2 s m args below meth c 5 D A 0 0 (fun t => s.heap.size + 110 ≤ t.heap.size) 0 [(0, .ref b)] [] (wP cT (fun _ => b)) := by
  refine h_new (pc := 0) (C0 := RX4) (T := TX4) (N := 3) (ci := 2) (fs := [.null, .null, .null]) C inlX4 tyX4 tyX4_ok (List.mem_of_getElem? (i := 0) rfl) (List.mem_of_getElem? (i := 1) rfl) (List.mem_of_getElem? (i := 2) rfl) rfl (fun j hj => by rcases (show j = 0 ∨ j = 1 ∨ j = 2 by omega) with rfl | rfl | rfl <;> rfl) ⟨Nat.le_of_ble_eq_true rfl, Nat.le_of_ble_eq_true rfl⟩ dL_law_0 (fun x0 => ?_)
  refine h_dup (pc := 3) C dL_law_3 rfl ?_
  refine h_callI (pc := 4) (As := []) (rest := [.ref x0]) (ws' := fun qs => (b, .inl (cT 0, 256, .inl j18)) :: wX cT (adx x0 qs)) C hN (c_X4_init l D cT x0) (cwI 0 C.1.2.2.2.2 gL_law_X4_init rfl rfl rfl (C.1.2.2.2.2 _ (List.mem_of_getElem? (i := 2) rfl)) (C.1.2.2.2.2 _ (List.mem_of_getElem? (i := 4) rfl)) (C.1.2.2.2.2 _ (List.mem_of_getElem? (i := 5) rfl)) rfl (by decide +kernel) ⟨Nat.le_of_ble_eq_true rfl, Nat.le_of_ble_eq_true rfl⟩) dL_law_4 rfl rfl (Nat.le_of_ble_eq_true rfl) ⟨Nat.le_of_ble_eq_true rfl, Nat.le_of_ble_eq_true rfl⟩ [1] [0] [0, 1, 2, 3, 4, 5, 6, 7, 8, 9, 10] rfl rfl rfl rfl (by decide) rfl (fun _ => rfl) (fun qx => ?_)
  refine h_astore_n (pc := 7) (lv' := [(1, .ref x0), (0, .ref b)]) C dL_law_7 rfl (by decide) rfl ?_
  refine h_iconst (pc := 8) (v := 2) C dL_law_8 (by decide) ?_
  refine h_newa (pc := 9) (ty := .int) (cA := cT 0) (N' := 2) (a0 := (2, .inl j0)) C rfl (List.mem_of_getElem? (i := 3) rfl) raI 0 rfl (fun _ => rfl) (by decide) (by decide) (by decide) ⟨Nat.le_of_ble_eq_true rfl, Nat.le_of_ble_eq_true rfl⟩ dL_law_9 (fun g0 => ?_)
  refine h_astore_n (pc := 11) (lv' := [(2, .ref g0), (1, .ref x0), (0, .ref b)]) C dL_law_11 rfl (by decide) rfl ?_
  obtain ⟨ad, ha⟩ : ∃ ad : Nat → Nat, ad = fun k => [x0, qx 0, qx 1, qx 2, qx 3, qx 4, qx 5, qx 6, qx 7, qx 8, g0, b].getD k 0 := ⟨_, rfl⟩
  have K := k_entry (below := below) (e := e) hX0 D cT ad C Z
  subst ha
  exact h_wsub (ws' := wN cT (fun k => [x0, qx 0, qx 1, qx 2, qx 3, qx 4, qx 5, qx 6, qx 7, qx 8, g0, b].getD k 0)) [1, 2, 3, 4, 5, 6, 7, 8, 9, 10, 11, 0] rfl rfl K
