/-! laid by wip/whole/lay.py: contracts -/
abbrev rmX4_tightness : Room := { frames := 6, cells := 0, slots := 0, locals := 119 }
theorem uX4_tightness_X4 : ∀ w ∈ u_ws RX4 TX4 3, w ∈ wsX4_tightness := fun w h => List.mem_cons_of_mem _ (List.mem_append_left _ (List.mem_append_left _ (List.mem_append_left _ (List.mem_append_right _ h))))
set_option maxRecDepth 100000 in
set_option maxHeartbeats 4000000 in
theorem k_X4_tightness_52 {p : Program} {e : Env} {s : State} {m : MethodId} {args : Array Value} {below : List Frame} {meth : Method} {c : Code} {A : Nat → Prop} (l : Launch) (D : va_G) (cT : Nat → ClassId) (ad : Nat → Nat) (C : hC p s m args meth c cX4_tightness 4 wsX4_tightness RX4 D (ty4 cT) A) (hr : meth.sig.returnType = (some .float)) (n : Nat) (areas : Nat → Int32) (keys : Nat → Int32) (there : Nat → Int32) (order : Nat → Int32) (added : Int32) (size : Int32) (loads : Nat → Int32) (widths : Nat → Int32) (height : Int32) (ranks : Nat → Int32) (r : UInt32) (k : Nat) (hk0 : k = 0)  : ∀ (fu : Nat)  (x1 : Int32) (x2 : Int32) (x3 : Int32), f_X4_tightness_52 n areas order size loads widths height fu x1 x2 x3 = some (k, r) → hS p l e rmX4_tightness s m args below meth c 4 D A 0 0 (MQ below (cQ D (ty4 cT) A (some (.float r)) (wX cT ad areas keys there order added size loads widths height ranks)) args s 0 0 A) 52 [(0, .ref (ad 0)), (1, .int x1), (2, .int x2), (3, .int x3)] [] (wX cT ad areas keys there order added size loads widths height ranks) := by
  intro fu
  induction fu with
  | zero =>
    intro x1 x2 x3 hf
    exact nomatch (show (none : Option (Nat × UInt32)) = some (k, r) from hf)
  | succ fu ih =>
    intro x1 x2 x3 hf
    rw [f_X4_tightness_52] at hf
    refine h_iload_n (pc := 52) C dX4_tightness_52 rfl 3 rfl ?_
    refine h_aload_n (pc := 53) C dX4_tightness_53 rfl 0 rfl ?_
    refine h_get (pc := 54) (ci := 2) (C0 := RX4) (T := TX4) (N := 3) C uX4_tightness_X4 rfl 0 rfl 0 (by decide) (List.mem_of_getElem? (i := 4) rfl) rfl rfl dX4_tightness_54 ?_
    obtain ⟨v4, hc, hf⟩ := jbd_s hf
    refine h_callV (pc := 57) (q0 := 1) (As := []) (rest := .int x3 :: []) (ws' := (wX cT ad areas keys there order added size loads widths height ranks)) (st2 := .int v4 :: .int x3 :: []) C (c_X2_size l D cT ad n areas keys there order added size v4 hc) (cwV 0 C.1.2.2.2.2 gX4_tightness_X2_size rfl rfl rfl pv_X2_size ⟨(Nat.le_of_ble_eq_true rfl), (Nat.le_of_ble_eq_true rfl)⟩) dX4_tightness_57 rfl rfl rfl rfl rfl (Nat.le_of_ble_eq_true rfl) ⟨rfl, rfl⟩ ⟨(Nat.le_of_ble_eq_true rfl), (Nat.le_of_ble_eq_true rfl)⟩ [1, 2, 3, 4, 5] [0, 6, 7, 8, 9] [0, 5, 6, 7, 8, 9, 1, 2, 3, 4] rfl rfl rfl rfl (by decide) rfl rfl rfl ?_
    clear hc
    refine h_icmp_ge (pc := 60) (tgt := 83) C dX4_tightness_60 (by decide) (fun q => ?_) (fun q => ?_)
    · replace hf := jif_t q hf
      clear q
      refine h_iload_n (pc := 83) C dX4_tightness_83 rfl 2 rfl ?_
      refine h_i2f (pc := 84) C dX4_tightness_84 ?_
      refine h_iload_n (pc := 85) C dX4_tightness_85 rfl 1 rfl ?_
      refine h_i2f (pc := 86) C dX4_tightness_86 ?_
      obtain ⟨hi, hf⟩ := jfdiv_s hf
      refine h_fdiv (pc := 87) C hi dX4_tightness_87 ?_
      clear hi
      have g0 := (Prod.mk.inj (Option.some.inj hf)).1
      have g1 := (Prod.mk.inj (Option.some.inj hf)).2
      clear hf
      subst g0
      subst g1
      exact h_fret C hr dX4_tightness_88
    · replace hf := jif_f q hf
      clear q
      refine h_iload_n (pc := 63) C dX4_tightness_63 rfl 2 rfl ?_
      refine h_aload_n (pc := 64) C dX4_tightness_64 rfl 0 rfl ?_
      refine h_get (pc := 65) (ci := 2) (C0 := RX4) (T := TX4) (N := 3) C uX4_tightness_X4 rfl 0 rfl 0 (by decide) (List.mem_of_getElem? (i := 4) rfl) rfl rfl dX4_tightness_65 ?_
      refine h_iload_n (pc := 68) C dX4_tightness_68 rfl 3 rfl ?_
      obtain ⟨v6, hc, hf⟩ := jbd_s hf
      refine h_callV (pc := 69) (q0 := 1) (As := [.int x3]) (rest := .int x2 :: []) (ws' := (wX cT ad areas keys there order added size loads widths height ranks)) (st2 := .int v6 :: .int x2 :: []) C (c_X2_areaAt l D cT ad n areas keys there order added size x3 v6 hc) (cwV 1 C.1.2.2.2.2 gX4_tightness_X2_areaAt rfl rfl rfl pv_X2_areaAt ⟨(Nat.le_of_ble_eq_true rfl), (Nat.le_of_ble_eq_true rfl)⟩) dX4_tightness_69 rfl rfl rfl rfl rfl (Nat.le_of_ble_eq_true rfl) ⟨rfl, rfl⟩ ⟨(Nat.le_of_ble_eq_true rfl), (Nat.le_of_ble_eq_true rfl)⟩ [1, 2, 3, 4, 5] [0, 6, 7, 8, 9] [0, 5, 6, 7, 8, 9, 1, 2, 3, 4] rfl rfl rfl rfl (by decide) rfl rfl rfl ?_
      clear hc
      obtain ⟨v7, hc, hf⟩ := jbd_s hf
      refine h_callP (pc := 72) (As := [.int v6]) (rest := .int x2 :: []) (st2 := .int v7 :: .int x2 :: []) C (c_X0_points l D cT ad n v6 v7 hc) (va_cwS 1 C.1.2.2.2.2 gX4_tightness_X0_points rfl rfl rfl ps_X0_points ⟨(Nat.le_of_ble_eq_true rfl), (Nat.le_of_ble_eq_true rfl)⟩) dX4_tightness_72 rfl rfl (Nat.le_of_ble_eq_true rfl) ⟨rfl, rfl⟩ ⟨(Nat.le_of_ble_eq_true rfl), (Nat.le_of_ble_eq_true rfl)⟩ rfl ?_
      clear hc
      refine h_iadd (pc := 75) C dX4_tightness_75 ?_
      refine h_istore_n (pc := 76) (lv' := [(2, .int (x2 + v7)), (0, .ref (ad 0)), (1, .int x1), (3, .int x3)]) C dX4_tightness_76 rfl (by decide) rfl ?_
      refine h_iinc (pc := 77) (v := x3 + 1) (lv' := [(3, .int (x3 + 1)), (2, .int (x2 + v7)), (0, .ref (ad 0)), (1, .int x1)]) C dX4_tightness_77 3 rfl (ji_1 _) (by decide) rfl ?_
      refine h_goto (pc := 80) (tgt := 52) C dX4_tightness_80 (by decide) ?_
      refine h_sub [2, 3, 1, 0] rfl ?_
      exact ih x1 (x2 + v7) (x3 + 1) hf
set_option maxRecDepth 100000 in
set_option maxHeartbeats 4000000 in
theorem k_X4_tightness_4 {p : Program} {e : Env} {s : State} {m : MethodId} {args : Array Value} {below : List Frame} {meth : Method} {c : Code} {A : Nat → Prop} (l : Launch) (D : va_G) (cT : Nat → ClassId) (ad : Nat → Nat) (C : hC p s m args meth c cX4_tightness 4 wsX4_tightness RX4 D (ty4 cT) A) (hr : meth.sig.returnType = (some .float)) (n : Nat) (areas : Nat → Int32) (keys : Nat → Int32) (there : Nat → Int32) (order : Nat → Int32) (added : Int32) (size : Int32) (loads : Nat → Int32) (widths : Nat → Int32) (height : Int32) (ranks : Nat → Int32) (r : UInt32) (k : Nat) (hk0 : k = 0)  : ∀ (fu : Nat)  (x1 : Int32) (x2 : Int32), f_X4_tightness_4 n areas order size loads widths height fu x1 x2 = some (k, r) → hS p l e rmX4_tightness s m args below meth c 4 D A 0 0 (MQ below (cQ D (ty4 cT) A (some (.float r)) (wX cT ad areas keys there order added size loads widths height ranks)) args s 0 0 A) 4 [(0, .ref (ad 0)), (1, .int x1), (2, .int x2)] [] (wX cT ad areas keys there order added size loads widths height ranks) := by
  intro fu
  induction fu with
  | zero =>
    intro x1 x2 hf
    exact nomatch (show (none : Option (Nat × UInt32)) = some (k, r) from hf)
  | succ fu ih =>
    intro x1 x2 hf
    rw [f_X4_tightness_4] at hf
    refine h_iload_n (pc := 4) C dX4_tightness_4 rfl 2 rfl ?_
    refine h_aload_n (pc := 5) C dX4_tightness_5 rfl 0 rfl ?_
    refine h_get (pc := 6) (ci := 2) (C0 := RX4) (T := TX4) (N := 3) C uX4_tightness_X4 rfl 0 rfl 1 (by decide) (List.mem_of_getElem? (i := 3) rfl) rfl rfl dX4_tightness_6 ?_
    refine h_iconst (pc := 9) C dX4_tightness_9 jc_0 ?_
    obtain ⟨v1, hc, hf⟩ := jbd_s hf
    refine h_callV (pc := 10) (q0 := 6) (As := [.int 0]) (rest := .int x2 :: []) (ws' := (wX cT ad areas keys there order added size loads widths height ranks)) (st2 := .int v1 :: .int x2 :: []) C (c_X3_width l D cT ad n loads widths height 0 v1 hc) (cwV 1 C.1.2.2.2.2 gX4_tightness_X3_width rfl rfl rfl pv_X3_width ⟨(Nat.le_of_ble_eq_true rfl), (Nat.le_of_ble_eq_true rfl)⟩) dX4_tightness_10 rfl rfl rfl rfl rfl (Nat.le_of_ble_eq_true rfl) ⟨rfl, rfl⟩ ⟨(Nat.le_of_ble_eq_true rfl), (Nat.le_of_ble_eq_true rfl)⟩ [6, 7, 8] [0, 1, 2, 3, 4, 5, 9] [0, 1, 2, 3, 4, 5, 7, 8, 9, 6] rfl rfl rfl rfl (by decide) rfl rfl rfl ?_
    clear hc
    refine h_icmp_ge (pc := 13) (tgt := 34) C dX4_tightness_13 (by decide) (fun q => ?_) (fun q => ?_)
    · replace hf := jif_t q hf
      clear q
      refine h_iload_n (pc := 34) C dX4_tightness_34 rfl 1 rfl ?_
      refine h_if_gt (pc := 35) (tgt := 48) C dX4_tightness_35 (by decide) (fun q => ?_) (fun q => ?_)
      · replace hf := jif_t q hf
        clear q
        refine h_iconst (pc := 48) C dX4_tightness_48 jc_0 ?_
        refine h_istore_n (pc := 49) (lv' := [(2, .int 0), (0, .ref (ad 0)), (1, .int x1)]) C dX4_tightness_49 rfl (by decide) rfl ?_
        refine h_iconst (pc := 50) C dX4_tightness_50 jc_0 ?_
        refine h_istore_n (pc := 51) (lv' := [(3, .int 0), (2, .int 0), (0, .ref (ad 0)), (1, .int x1)]) C dX4_tightness_51 rfl (by decide) rfl ?_
        refine h_sub [2, 3, 1, 0] rfl ?_
        exact k_X4_tightness_52 l D cT ad C hr n areas keys there order added size loads widths height ranks r k hk0 n x1 0 0 hf
      · replace hf := jif_f q hf
        clear q
        exact absurd ((Prod.mk.inj (Option.some.inj hf)).1.trans hk0) (by decide)
    · replace hf := jif_f q hf
      clear q
      refine h_iload_n (pc := 16) C dX4_tightness_16 rfl 1 rfl ?_
      refine h_aload_n (pc := 17) C dX4_tightness_17 rfl 0 rfl ?_
      refine h_iconst (pc := 18) C dX4_tightness_18 jc_0 ?_
      refine h_iload_n (pc := 19) C dX4_tightness_19 rfl 2 rfl ?_
      obtain ⟨v2, hc, hf⟩ := jbd_s hf
      refine h_callV (pc := 20) (q0 := 0) (As := [.int 0, .int x2]) (rest := .int x1 :: []) (ws' := (wX cT ad areas keys there order added size loads widths height ranks)) (st2 := .int v2 :: .int x1 :: []) C (c_X4_coverOf l D cT ad n areas keys there order added size loads widths height ranks 0 x2 v2 hc) (cwV 2 C.1.2.2.2.2 gX4_tightness_X4_coverOf rfl rfl rfl pv_X4_coverOf ⟨(Nat.le_of_ble_eq_true rfl), (Nat.le_of_ble_eq_true rfl)⟩) dX4_tightness_20 rfl rfl rfl rfl rfl (Nat.le_of_ble_eq_true rfl) ⟨rfl, rfl⟩ ⟨(Nat.le_of_ble_eq_true rfl), (Nat.le_of_ble_eq_true rfl)⟩ [0, 1, 2, 3, 4, 5, 6, 7, 8, 9] [] [0, 1, 2, 3, 4, 5, 6, 7, 8, 9] rfl rfl rfl rfl (by decide) rfl rfl rfl ?_
      clear hc
      obtain ⟨v3, hc, hf⟩ := jbd_s hf
      refine h_callP (pc := 23) (As := [.int v2]) (rest := .int x1 :: []) (st2 := .int v3 :: .int x1 :: []) C (c_X0_points l D cT ad n v2 v3 hc) (va_cwS 1 C.1.2.2.2.2 gX4_tightness_X0_points rfl rfl rfl ps_X0_points ⟨(Nat.le_of_ble_eq_true rfl), (Nat.le_of_ble_eq_true rfl)⟩) dX4_tightness_23 rfl rfl (Nat.le_of_ble_eq_true rfl) ⟨rfl, rfl⟩ ⟨(Nat.le_of_ble_eq_true rfl), (Nat.le_of_ble_eq_true rfl)⟩ rfl ?_
      clear hc
      refine h_iadd (pc := 26) C dX4_tightness_26 ?_
      refine h_istore_n (pc := 27) (lv' := [(1, .int (x1 + v3)), (0, .ref (ad 0)), (2, .int x2)]) C dX4_tightness_27 rfl (by decide) rfl ?_
      refine h_iinc (pc := 28) (v := x2 + 1) (lv' := [(2, .int (x2 + 1)), (1, .int (x1 + v3)), (0, .ref (ad 0))]) C dX4_tightness_28 2 rfl (ji_1 _) (by decide) rfl ?_
      refine h_goto (pc := 31) (tgt := 4) C dX4_tightness_31 (by decide) ?_
      refine h_sub [2, 1, 0] rfl ?_
      exact ih (x1 + v3) (x2 + 1) hf
set_option maxRecDepth 100000 in
set_option maxHeartbeats 4000000 in
theorem c_X4_tightness (l : Launch) (D : va_G) (cT : Nat → ClassId) (ad : Nat → Nat) (n : Nat) (areas : Nat → Int32) (keys : Nat → Int32) (there : Nat → Int32) (order : Nat → Int32) (added : Int32) (size : Int32) (loads : Nat → Int32) (widths : Nat → Int32) (height : Int32) (ranks : Nat → Int32)  (r : UInt32) (k : Nat) (hk0 : k = 0) (hf : f_X4_tightness n areas order size loads widths height = some (k, r)) : cM l yX4_tightness wsX4_tightness rmX4_tightness D (ty4 cT) [.ref (ad 0)] (wX cT ad areas keys there order added size loads widths height ranks) (some (.float r)) (wX cT ad areas keys there order added size loads widths height ranks) := by
  refine cM_of (cc := cX4_tightness) (maxL := 4) (ret := (some .float)) (own := RX4) (lv := [(0, .ref (ad 0))]) (by decide) rfl (Nat.le_of_ble_eq_true rfl) rfl rfl ?_
  intro p e s m args below meth c A C hr
  unfold f_X4_tightness at hf
  refine h_iconst (pc := 0) C dX4_tightness_0 jc_0 ?_
  refine h_istore_n (pc := 1) (lv' := [(1, .int 0), (0, .ref (ad 0))]) C dX4_tightness_1 rfl (by decide) rfl ?_
  refine h_iconst (pc := 2) C dX4_tightness_2 jc_0 ?_
  refine h_istore_n (pc := 3) (lv' := [(2, .int 0), (1, .int 0), (0, .ref (ad 0))]) C dX4_tightness_3 rfl (by decide) rfl ?_
  refine h_sub [2, 1, 0] rfl ?_
  exact k_X4_tightness_4 l D cT ad C hr n areas keys there order added size loads widths height ranks r k hk0 n 0 0 hf
theorem pv_X4_tightness : yX4_tightness.cls = RX4 ∧ yX4_tightness.cls ≠ "java/lang/invoke/MethodHandle" ∧ yX4_tightness.cls ≠ "java/lang/invoke/VarHandle" ∧ (parseMethodDescriptor yX4_tightness.desc).map (fun d => d.parameters.length) = some 0 := by decide +kernel
abbrev rxX4_tightness : Room := { frames := 6, cells := 1, slots := 6, locals := 119 }
set_option maxRecDepth 100000 in
set_option maxHeartbeats 4000000 in
theorem kx_X4_tightness_52 {p : Program} {e : Env} {s : State} {m : MethodId} {args : Array Value} {below : List Frame} {meth : Method} {c : Code} {A : Nat → Prop} {l : Launch} (hX0 : l.stackTraces = false) (D : va_G) (cT : Nat → ClassId) (ad : Nat → Nat) (C : hC p s m args meth c cX4_tightness 4 wsX4_tightness RX4 D (ty4 cT) A) (X : hX l s c A) (n : Nat) (areas : Nat → Int32) (keys : Nat → Int32) (there : Nat → Int32) (order : Nat → Int32) (added : Int32) (size : Int32) (loads : Nat → Int32) (widths : Nat → Int32) (height : Int32) (ranks : Nat → Int32) (r : UInt32) (k : Nat) (hk0 : ¬ k = 0)  : ∀ (fu : Nat)  (x1 : Int32) (x2 : Int32) (x3 : Int32), f_X4_tightness_52 n areas order size loads widths height fu x1 x2 x3 = some (k, r) → hS p l e rxX4_tightness s m args below meth c 4 D A 0 0 (vx_MQ below (fun _ _ _ _ => False) (xX D (ty4 cT) A (xE k) (wX cT ad areas keys there order added size loads widths height ranks)) args s 1 6 A) 52 [(0, .ref (ad 0)), (1, .int x1), (2, .int x2), (3, .int x3)] [] (wX cT ad areas keys there order added size loads widths height ranks) := by
  intro fu
  induction fu with
  | zero =>
    intro x1 x2 x3 hf
    exact nomatch (show (none : Option (Nat × UInt32)) = some (k, r) from hf)
  | succ fu ih =>
    intro x1 x2 x3 hf
    rw [f_X4_tightness_52] at hf
    refine h_iload_n (pc := 52) C dX4_tightness_52 rfl 3 rfl ?_
    refine h_aload_n (pc := 53) C dX4_tightness_53 rfl 0 rfl ?_
    refine h_get (pc := 54) (ci := 2) (C0 := RX4) (T := TX4) (N := 3) C uX4_tightness_X4 rfl 0 rfl 0 (by decide) (List.mem_of_getElem? (i := 4) rfl) rfl rfl dX4_tightness_54 ?_
    obtain ⟨v4, hc, hf⟩ := jbd_s hf
    refine h_callV (pc := 57) (q0 := 1) (As := []) (rest := .int x3 :: []) (ws' := (wX cT ad areas keys there order added size loads widths height ranks)) (st2 := .int v4 :: .int x3 :: []) C (c_X2_size l D cT ad n areas keys there order added size v4 hc) (cwV 0 C.1.2.2.2.2 gX4_tightness_X2_size rfl rfl rfl pv_X2_size ⟨(Nat.le_of_ble_eq_true rfl), (Nat.le_of_ble_eq_true rfl)⟩) dX4_tightness_57 rfl rfl rfl rfl rfl (Nat.le_of_ble_eq_true rfl) ⟨rfl, rfl⟩ ⟨(Nat.le_of_ble_eq_true rfl), (Nat.le_of_ble_eq_true rfl)⟩ [1, 2, 3, 4, 5] [0, 6, 7, 8, 9] [0, 5, 6, 7, 8, 9, 1, 2, 3, 4] rfl rfl rfl rfl (by decide) rfl rfl rfl ?_
    clear hc
    refine h_icmp_ge (pc := 60) (tgt := 83) C dX4_tightness_60 (by decide) (fun q => ?_) (fun q => ?_)
    · replace hf := jif_t q hf
      clear q
      refine h_iload_n (pc := 83) C dX4_tightness_83 rfl 2 rfl ?_
      refine h_i2f (pc := 84) C dX4_tightness_84 ?_
      refine h_iload_n (pc := 85) C dX4_tightness_85 rfl 1 rfl ?_
      refine h_i2f (pc := 86) C dX4_tightness_86 ?_
      obtain ⟨hi, hf⟩ := jfdiv_s hf
      refine h_fdiv (pc := 87) C hi dX4_tightness_87 ?_
      clear hi
      exact absurd (Prod.mk.inj (Option.some.inj hf)).1.symm hk0
    · replace hf := jif_f q hf
      clear q
      refine h_iload_n (pc := 63) C dX4_tightness_63 rfl 2 rfl ?_
      refine h_aload_n (pc := 64) C dX4_tightness_64 rfl 0 rfl ?_
      refine h_get (pc := 65) (ci := 2) (C0 := RX4) (T := TX4) (N := 3) C uX4_tightness_X4 rfl 0 rfl 0 (by decide) (List.mem_of_getElem? (i := 4) rfl) rfl rfl dX4_tightness_65 ?_
      refine h_iload_n (pc := 68) C dX4_tightness_68 rfl 3 rfl ?_
      obtain ⟨v6, hc, hf⟩ := jbd_s hf
      refine h_callV (pc := 69) (q0 := 1) (As := [.int x3]) (rest := .int x2 :: []) (ws' := (wX cT ad areas keys there order added size loads widths height ranks)) (st2 := .int v6 :: .int x2 :: []) C (c_X2_areaAt l D cT ad n areas keys there order added size x3 v6 hc) (cwV 1 C.1.2.2.2.2 gX4_tightness_X2_areaAt rfl rfl rfl pv_X2_areaAt ⟨(Nat.le_of_ble_eq_true rfl), (Nat.le_of_ble_eq_true rfl)⟩) dX4_tightness_69 rfl rfl rfl rfl rfl (Nat.le_of_ble_eq_true rfl) ⟨rfl, rfl⟩ ⟨(Nat.le_of_ble_eq_true rfl), (Nat.le_of_ble_eq_true rfl)⟩ [1, 2, 3, 4, 5] [0, 6, 7, 8, 9] [0, 5, 6, 7, 8, 9, 1, 2, 3, 4] rfl rfl rfl rfl (by decide) rfl rfl rfl ?_
      clear hc
      obtain ⟨v7, hc, hf⟩ := jbd_s hf
      refine h_callP (pc := 72) (As := [.int v6]) (rest := .int x2 :: []) (st2 := .int v7 :: .int x2 :: []) C (c_X0_points l D cT ad n v6 v7 hc) (va_cwS 1 C.1.2.2.2.2 gX4_tightness_X0_points rfl rfl rfl ps_X0_points ⟨(Nat.le_of_ble_eq_true rfl), (Nat.le_of_ble_eq_true rfl)⟩) dX4_tightness_72 rfl rfl (Nat.le_of_ble_eq_true rfl) ⟨rfl, rfl⟩ ⟨(Nat.le_of_ble_eq_true rfl), (Nat.le_of_ble_eq_true rfl)⟩ rfl ?_
      clear hc
      refine h_iadd (pc := 75) C dX4_tightness_75 ?_
      refine h_istore_n (pc := 76) (lv' := [(2, .int (x2 + v7)), (0, .ref (ad 0)), (1, .int x1), (3, .int x3)]) C dX4_tightness_76 rfl (by decide) rfl ?_
      refine h_iinc (pc := 77) (v := x3 + 1) (lv' := [(3, .int (x3 + 1)), (2, .int (x2 + v7)), (0, .ref (ad 0)), (1, .int x1)]) C dX4_tightness_77 3 rfl (ji_1 _) (by decide) rfl ?_
      refine h_goto (pc := 80) (tgt := 52) C dX4_tightness_80 (by decide) ?_
      refine h_sub [2, 3, 1, 0] rfl ?_
      exact ih x1 (x2 + v7) (x3 + 1) hf
set_option maxRecDepth 100000 in
set_option maxHeartbeats 4000000 in
theorem kx_X4_tightness_4 {p : Program} {e : Env} {s : State} {m : MethodId} {args : Array Value} {below : List Frame} {meth : Method} {c : Code} {A : Nat → Prop} {l : Launch} (hX0 : l.stackTraces = false) (D : va_G) (cT : Nat → ClassId) (ad : Nat → Nat) (C : hC p s m args meth c cX4_tightness 4 wsX4_tightness RX4 D (ty4 cT) A) (X : hX l s c A) (n : Nat) (areas : Nat → Int32) (keys : Nat → Int32) (there : Nat → Int32) (order : Nat → Int32) (added : Int32) (size : Int32) (loads : Nat → Int32) (widths : Nat → Int32) (height : Int32) (ranks : Nat → Int32) (r : UInt32) (k : Nat) (hk0 : ¬ k = 0)  : ∀ (fu : Nat)  (x1 : Int32) (x2 : Int32), f_X4_tightness_4 n areas order size loads widths height fu x1 x2 = some (k, r) → hS p l e rxX4_tightness s m args below meth c 4 D A 0 0 (vx_MQ below (fun _ _ _ _ => False) (xX D (ty4 cT) A (xE k) (wX cT ad areas keys there order added size loads widths height ranks)) args s 1 6 A) 4 [(0, .ref (ad 0)), (1, .int x1), (2, .int x2)] [] (wX cT ad areas keys there order added size loads widths height ranks) := by
  intro fu
  induction fu with
  | zero =>
    intro x1 x2 hf
    exact nomatch (show (none : Option (Nat × UInt32)) = some (k, r) from hf)
  | succ fu ih =>
    intro x1 x2 hf
    rw [f_X4_tightness_4] at hf
    refine h_iload_n (pc := 4) C dX4_tightness_4 rfl 2 rfl ?_
    refine h_aload_n (pc := 5) C dX4_tightness_5 rfl 0 rfl ?_
    refine h_get (pc := 6) (ci := 2) (C0 := RX4) (T := TX4) (N := 3) C uX4_tightness_X4 rfl 0 rfl 1 (by decide) (List.mem_of_getElem? (i := 3) rfl) rfl rfl dX4_tightness_6 ?_
    refine h_iconst (pc := 9) C dX4_tightness_9 jc_0 ?_
    obtain ⟨v1, hc, hf⟩ := jbd_s hf
    refine h_callV (pc := 10) (q0 := 6) (As := [.int 0]) (rest := .int x2 :: []) (ws' := (wX cT ad areas keys there order added size loads widths height ranks)) (st2 := .int v1 :: .int x2 :: []) C (c_X3_width l D cT ad n loads widths height 0 v1 hc) (cwV 1 C.1.2.2.2.2 gX4_tightness_X3_width rfl rfl rfl pv_X3_width ⟨(Nat.le_of_ble_eq_true rfl), (Nat.le_of_ble_eq_true rfl)⟩) dX4_tightness_10 rfl rfl rfl rfl rfl (Nat.le_of_ble_eq_true rfl) ⟨rfl, rfl⟩ ⟨(Nat.le_of_ble_eq_true rfl), (Nat.le_of_ble_eq_true rfl)⟩ [6, 7, 8] [0, 1, 2, 3, 4, 5, 9] [0, 1, 2, 3, 4, 5, 7, 8, 9, 6] rfl rfl rfl rfl (by decide) rfl rfl rfl ?_
    clear hc
    refine h_icmp_ge (pc := 13) (tgt := 34) C dX4_tightness_13 (by decide) (fun q => ?_) (fun q => ?_)
    · replace hf := jif_t q hf
      clear q
      refine h_iload_n (pc := 34) C dX4_tightness_34 rfl 1 rfl ?_
      refine h_if_gt (pc := 35) (tgt := 48) C dX4_tightness_35 (by decide) (fun q => ?_) (fun q => ?_)
      · replace hf := jif_t q hf
        clear q
        refine h_iconst (pc := 48) C dX4_tightness_48 jc_0 ?_
        refine h_istore_n (pc := 49) (lv' := [(2, .int 0), (0, .ref (ad 0)), (1, .int x1)]) C dX4_tightness_49 rfl (by decide) rfl ?_
        refine h_iconst (pc := 50) C dX4_tightness_50 jc_0 ?_
        refine h_istore_n (pc := 51) (lv' := [(3, .int 0), (2, .int 0), (0, .ref (ad 0)), (1, .int x1)]) C dX4_tightness_51 rfl (by decide) rfl ?_
        refine h_sub [2, 3, 1, 0] rfl ?_
        exact kx_X4_tightness_52 hX0 D cT ad C X n areas keys there order added size loads widths height ranks r k hk0 n x1 0 0 hf
      · replace hf := jif_f q hf
        clear q
        have g0 := (Prod.mk.inj (Option.some.inj hf)).1
        have g1 := (Prod.mk.inj (Option.some.inj hf)).2
        clear hf
        subst g0
        subst g1
        exact h_throw (pc := 38) C X xin_ISE xft_ISE xft_up (List.mem_of_getElem? (i := 1) rfl) (List.mem_of_getElem? (i := 2) rfl) (List.mem_of_getElem? (i := 3) rfl) (fun w h => List.mem_cons_of_mem _ (List.mem_append_right _ h)) xng_ISE xgd_ISE dX4_tightness_38 dX4_tightness_41 dX4_tightness_42 dX4_tightness_44 dX4_tightness_47 ⟨Nat.le_of_ble_eq_true rfl, Nat.le_of_ble_eq_true rfl, Nat.le_of_ble_eq_true rfl, Nat.le_of_ble_eq_true rfl⟩ ⟨Nat.le_of_ble_eq_true rfl, Nat.le_of_ble_eq_true rfl⟩
    · replace hf := jif_f q hf
      clear q
      refine h_iload_n (pc := 16) C dX4_tightness_16 rfl 1 rfl ?_
      refine h_aload_n (pc := 17) C dX4_tightness_17 rfl 0 rfl ?_
      refine h_iconst (pc := 18) C dX4_tightness_18 jc_0 ?_
      refine h_iload_n (pc := 19) C dX4_tightness_19 rfl 2 rfl ?_
      obtain ⟨v2, hc, hf⟩ := jbd_s hf
      refine h_callV (pc := 20) (q0 := 0) (As := [.int 0, .int x2]) (rest := .int x1 :: []) (ws' := (wX cT ad areas keys there order added size loads widths height ranks)) (st2 := .int v2 :: .int x1 :: []) C (c_X4_coverOf l D cT ad n areas keys there order added size loads widths height ranks 0 x2 v2 hc) (cwV 2 C.1.2.2.2.2 gX4_tightness_X4_coverOf rfl rfl rfl pv_X4_coverOf ⟨(Nat.le_of_ble_eq_true rfl), (Nat.le_of_ble_eq_true rfl)⟩) dX4_tightness_20 rfl rfl rfl rfl rfl (Nat.le_of_ble_eq_true rfl) ⟨rfl, rfl⟩ ⟨(Nat.le_of_ble_eq_true rfl), (Nat.le_of_ble_eq_true rfl)⟩ [0, 1, 2, 3, 4, 5, 6, 7, 8, 9] [] [0, 1, 2, 3, 4, 5, 6, 7, 8, 9] rfl rfl rfl rfl (by decide) rfl rfl rfl ?_
      clear hc
      obtain ⟨v3, hc, hf⟩ := jbd_s hf
      refine h_callP (pc := 23) (As := [.int v2]) (rest := .int x1 :: []) (st2 := .int v3 :: .int x1 :: []) C (c_X0_points l D cT ad n v2 v3 hc) (va_cwS 1 C.1.2.2.2.2 gX4_tightness_X0_points rfl rfl rfl ps_X0_points ⟨(Nat.le_of_ble_eq_true rfl), (Nat.le_of_ble_eq_true rfl)⟩) dX4_tightness_23 rfl rfl (Nat.le_of_ble_eq_true rfl) ⟨rfl, rfl⟩ ⟨(Nat.le_of_ble_eq_true rfl), (Nat.le_of_ble_eq_true rfl)⟩ rfl ?_
      clear hc
      refine h_iadd (pc := 26) C dX4_tightness_26 ?_
      refine h_istore_n (pc := 27) (lv' := [(1, .int (x1 + v3)), (0, .ref (ad 0)), (2, .int x2)]) C dX4_tightness_27 rfl (by decide) rfl ?_
      refine h_iinc (pc := 28) (v := x2 + 1) (lv' := [(2, .int (x2 + 1)), (1, .int (x1 + v3)), (0, .ref (ad 0))]) C dX4_tightness_28 2 rfl (ji_1 _) (by decide) rfl ?_
      refine h_goto (pc := 31) (tgt := 4) C dX4_tightness_31 (by decide) ?_
      refine h_sub [2, 1, 0] rfl ?_
      exact ih (x1 + v3) (x2 + 1) hf
set_option maxRecDepth 100000 in
set_option maxHeartbeats 4000000 in
theorem x_X4_tightness {l : Launch} (hX0 : l.stackTraces = false) (D : va_G) (cT : Nat → ClassId) (ad : Nat → Nat) (n : Nat) (areas : Nat → Int32) (keys : Nat → Int32) (there : Nat → Int32) (order : Nat → Int32) (added : Int32) (size : Int32) (loads : Nat → Int32) (widths : Nat → Int32) (height : Int32) (ranks : Nat → Int32)  (r : UInt32) (k : Nat) (hk0 : ¬ k = 0) (hf : f_X4_tightness n areas order size loads widths height = some (k, r)) : xM l yX4_tightness wsX4_tightness rxX4_tightness D (ty4 cT) [.ref (ad 0)] (wX cT ad areas keys there order added size loads widths height ranks) (xE k) (wX cT ad areas keys there order added size loads widths height ranks) := by
  refine xM_of (cc := cX4_tightness) (maxL := 4) (ret := (some .float)) (own := RX4) (lv := [(0, .ref (ad 0))]) hX0 (by decide) rfl (Nat.le_of_ble_eq_true rfl) rfl rfl ?_
  intro p e s m args below meth c A C X
  unfold f_X4_tightness at hf
  refine h_iconst (pc := 0) C dX4_tightness_0 jc_0 ?_
  refine h_istore_n (pc := 1) (lv' := [(1, .int 0), (0, .ref (ad 0))]) C dX4_tightness_1 rfl (by decide) rfl ?_
  refine h_iconst (pc := 2) C dX4_tightness_2 jc_0 ?_
  refine h_istore_n (pc := 3) (lv' := [(2, .int 0), (1, .int 0), (0, .ref (ad 0))]) C dX4_tightness_3 rfl (by decide) rfl ?_
  refine h_sub [2, 1, 0] rfl ?_
  exact kx_X4_tightness_4 hX0 D cT ad C X n areas keys there order added size loads widths height ranks r k hk0 n 0 0 hf
abbrev rmX4_count : Room := { frames := 7, cells := 0, slots := 0, locals := 113 }
theorem uX4_count_X4 : ∀ w ∈ u_ws RX4 TX4 3, w ∈ wsX4_count := fun w h => List.mem_cons_of_mem _ (List.mem_append_left _ (List.mem_append_left _ (List.mem_append_right _ h)))
set_option maxRecDepth 100000 in
set_option maxHeartbeats 4000000 in
theorem k_X4_count_56 {p : Program} {e : Env} {s : State} {m : MethodId} {args : Array Value} {below : List Frame} {meth : Method} {c : Code} {A : Nat → Prop} (l : Launch) (D : va_G) (cT : Nat → ClassId) (ad : Nat → Nat) (C : hC p s m args meth c cX4_count 8 wsX4_count RX4 D (ty4 cT) A) (hr : meth.sig.returnType = (some .int)) (n : Nat) (areas : Nat → Int32) (keys : Nat → Int32) (there : Nat → Int32) (order : Nat → Int32) (added : Int32) (size : Int32) (loads : Nat → Int32) (widths : Nat → Int32) (height : Int32) (ranks : Nat → Int32) (r : Int32) (k : Nat) (hk0 : k = 0) (k24 : Int32 → Int32 → Int32 → Option (Nat × Int32)) (K24 : ∀  (x5 : Int32) (x6 : Int32) (x7 : Int32), k24 x5 x6 x7 = some (k, r) → hS p l e rmX4_count s m args below meth c 8 D A 0 0 (MQ below (cQ D (ty4 cT) A (some (.int r)) (wX cT ad areas keys there order added size loads widths height ranks)) args s 0 0 A) 24 [(0, .ref (ad 0)), (5, .int x5), (6, .int x6), (7, .int x7)] [] (wX cT ad areas keys there order added size loads widths height ranks)) : ∀  (x5 : Int32) (x6 : Int32) (x7 : Int32), f_X4_count_56 n areas order size k24 x5 x6 x7 = some (k, r) → hS p l e rmX4_count s m args below meth c 8 D A 0 0 (MQ below (cQ D (ty4 cT) A (some (.int r)) (wX cT ad areas keys there order added size loads widths height ranks)) args s 0 0 A) 56 [(0, .ref (ad 0)), (5, .int x5), (6, .int x6), (7, .int x7)] [] (wX cT ad areas keys there order added size loads widths height ranks) := by
  intro x5 x6 x7 hf
  unfold f_X4_count_56 at hf
  refine h_iinc (pc := 56) (v := x7 + 1) (lv' := [(7, .int (x7 + 1)), (0, .ref (ad 0)), (5, .int x5), (6, .int x6)]) C dX4_count_56 3 rfl (ji_1 _) (by decide) rfl ?_
  refine h_goto (pc := 59) (tgt := 24) C dX4_count_59 (by decide) ?_
  refine h_sub [1, 2, 3, 0] rfl ?_
  exact K24 x5 x6 (x7 + 1) hf
set_option maxRecDepth 100000 in
set_option maxHeartbeats 4000000 in
theorem k_X4_count_24 {p : Program} {e : Env} {s : State} {m : MethodId} {args : Array Value} {below : List Frame} {meth : Method} {c : Code} {A : Nat → Prop} (l : Launch) (D : va_G) (cT : Nat → ClassId) (ad : Nat → Nat) (C : hC p s m args meth c cX4_count 8 wsX4_count RX4 D (ty4 cT) A) (hr : meth.sig.returnType = (some .int)) (n : Nat) (areas : Nat → Int32) (keys : Nat → Int32) (there : Nat → Int32) (order : Nat → Int32) (added : Int32) (size : Int32) (loads : Nat → Int32) (widths : Nat → Int32) (height : Int32) (ranks : Nat → Int32) (r : Int32) (k : Nat) (hk0 : k = 0)  : ∀ (fu : Nat)  (x5 : Int32) (x6 : Int32) (x7 : Int32), f_X4_count_24 n areas order size fu x5 x6 x7 = some (k, r) → hS p l e rmX4_count s m args below meth c 8 D A 0 0 (MQ below (cQ D (ty4 cT) A (some (.int r)) (wX cT ad areas keys there order added size loads widths height ranks)) args s 0 0 A) 24 [(0, .ref (ad 0)), (5, .int x5), (6, .int x6), (7, .int x7)] [] (wX cT ad areas keys there order added size loads widths height ranks) := by
  intro fu
  induction fu with
  | zero =>
    intro x5 x6 x7 hf
    exact nomatch (show (none : Option (Nat × Int32)) = some (k, r) from hf)
  | succ fu ih =>
    intro x5 x6 x7 hf
    rw [f_X4_count_24] at hf
    refine h_iload (pc := 24) C dX4_count_24 3 rfl ?_
    refine h_aload_n (pc := 26) C dX4_count_26 rfl 0 rfl ?_
    refine h_get (pc := 27) (ci := 2) (C0 := RX4) (T := TX4) (N := 3) C uX4_count_X4 rfl 0 rfl 0 (by decide) (List.mem_of_getElem? (i := 1) rfl) rfl rfl dX4_count_27 ?_
    obtain ⟨v3, hc, hf⟩ := jbd_s hf
    refine h_callV (pc := 30) (q0 := 1) (As := []) (rest := .int x7 :: []) (ws' := (wX cT ad areas keys there order added size loads widths height ranks)) (st2 := .int v3 :: .int x7 :: []) C (c_X2_size l D cT ad n areas keys there order added size v3 hc) (cwV 0 C.1.2.2.2.2 gX4_count_X2_size rfl rfl rfl pv_X2_size ⟨(Nat.le_of_ble_eq_true rfl), (Nat.le_of_ble_eq_true rfl)⟩) dX4_count_30 rfl rfl rfl rfl rfl (Nat.le_of_ble_eq_true rfl) ⟨rfl, rfl⟩ ⟨(Nat.le_of_ble_eq_true rfl), (Nat.le_of_ble_eq_true rfl)⟩ [1, 2, 3, 4, 5] [0, 6, 7, 8, 9] [0, 5, 6, 7, 8, 9, 1, 2, 3, 4] rfl rfl rfl rfl (by decide) rfl rfl rfl ?_
    clear hc
    refine h_icmp_ge (pc := 33) (tgt := 62) C dX4_count_33 (by decide) (fun q => ?_) (fun q => ?_)
    · replace hf := jif_t q hf
      clear q
      refine h_iload (pc := 62) C dX4_count_62 2 rfl ?_
      have g0 := (Prod.mk.inj (Option.some.inj hf)).1
      have g1 := (Prod.mk.inj (Option.some.inj hf)).2
      clear hf
      subst g0
      subst g1
      exact h_iret C hr dX4_count_64
    · replace hf := jif_f q hf
      clear q
      refine h_aload_n (pc := 36) C dX4_count_36 rfl 0 rfl ?_
      refine h_get (pc := 37) (ci := 2) (C0 := RX4) (T := TX4) (N := 3) C uX4_count_X4 rfl 0 rfl 0 (by decide) (List.mem_of_getElem? (i := 1) rfl) rfl rfl dX4_count_37 ?_
      refine h_iload (pc := 40) C dX4_count_40 3 rfl ?_
      obtain ⟨v4, hc, hf⟩ := jbd_s hf
      refine h_callV (pc := 42) (q0 := 1) (As := [.int x7]) (rest := []) (ws' := (wX cT ad areas keys there order added size loads widths height ranks)) (st2 := .int v4 :: []) C (c_X2_areaAt l D cT ad n areas keys there order added size x7 v4 hc) (cwV 1 C.1.2.2.2.2 gX4_count_X2_areaAt rfl rfl rfl pv_X2_areaAt ⟨(Nat.le_of_ble_eq_true rfl), (Nat.le_of_ble_eq_true rfl)⟩) dX4_count_42 rfl rfl rfl rfl rfl (Nat.le_of_ble_eq_true rfl) ⟨rfl, rfl⟩ ⟨(Nat.le_of_ble_eq_true rfl), (Nat.le_of_ble_eq_true rfl)⟩ [1, 2, 3, 4, 5] [0, 6, 7, 8, 9] [0, 5, 6, 7, 8, 9, 1, 2, 3, 4] rfl rfl rfl rfl (by decide) rfl rfl rfl ?_
      clear hc
      refine h_iload (pc := 45) C dX4_count_45 1 rfl ?_
      obtain ⟨v5, hc, hf⟩ := jbd_s hf
      refine h_callP (pc := 47) (As := [.int v4, .int x5]) (rest := []) (st2 := .int v5 :: []) C (c_X0_meet l D cT ad n v4 x5 v5 hc) (va_cwS 2 C.1.2.2.2.2 gX4_count_X0_meet rfl rfl rfl ps_X0_meet ⟨(Nat.le_of_ble_eq_true rfl), (Nat.le_of_ble_eq_true rfl)⟩) dX4_count_47 rfl rfl (Nat.le_of_ble_eq_true rfl) ⟨rfl, rfl⟩ ⟨(Nat.le_of_ble_eq_true rfl), (Nat.le_of_ble_eq_true rfl)⟩ rfl ?_
      clear hc
      refine h_if_eq (pc := 50) (tgt := 56) C dX4_count_50 (by decide) (fun q => ?_) (fun q => ?_)
      · replace hf := jif_t q hf
        clear q
        exact k_X4_count_56 l D cT ad C hr n areas keys there order added size loads widths height ranks r k hk0 (f_X4_count_24 n areas order size fu) ih x5 x6 x7 hf
      · replace hf := jif_f q hf
        clear q
        refine h_iinc (pc := 53) (v := x6 + 1) (lv' := [(6, .int (x6 + 1)), (0, .ref (ad 0)), (5, .int x5), (7, .int x7)]) C dX4_count_53 2 rfl (ji_1 _) (by decide) rfl ?_
        refine h_sub [1, 2, 0, 3] rfl ?_
        exact k_X4_count_56 l D cT ad C hr n areas keys there order added size loads widths height ranks r k hk0 (f_X4_count_24 n areas order size fu) ih x5 (x6 + 1) x7 hf
set_option maxRecDepth 100000 in
set_option maxHeartbeats 4000000 in
theorem c_X4_count (l : Launch) (D : va_G) (cT : Nat → ClassId) (ad : Nat → Nat) (n : Nat) (areas : Nat → Int32) (keys : Nat → Int32) (there : Nat → Int32) (order : Nat → Int32) (added : Int32) (size : Int32) (loads : Nat → Int32) (widths : Nat → Int32) (height : Int32) (ranks : Nat → Int32) (a1 : Int32) (a2 : Int32) (a3 : Int32) (a4 : Int32) (r : Int32) (k : Nat) (hk0 : k = 0) (hf : f_X4_count n areas order size a1 a2 a3 a4 = some (k, r)) : cM l yX4_count wsX4_count rmX4_count D (ty4 cT) [.ref (ad 0), .int a1, .int a2, .int a3, .int a4] (wX cT ad areas keys there order added size loads widths height ranks) (some (.int r)) (wX cT ad areas keys there order added size loads widths height ranks) := by
  refine cM_of (cc := cX4_count) (maxL := 8) (ret := (some .int)) (own := RX4) (lv := [(0, .ref (ad 0)), (1, .int a1), (2, .int a2), (3, .int a3), (4, .int a4)]) (by decide) rfl (Nat.le_of_ble_eq_true rfl) rfl rfl ?_
  intro p e s m args below meth c A C hr
  unfold f_X4_count at hf
  refine h_iload_n (pc := 0) C dX4_count_0 rfl 1 rfl ?_
  refine h_iload_n (pc := 1) C dX4_count_1 rfl 2 rfl ?_
  refine h_iload_n (pc := 2) C dX4_count_2 rfl 3 rfl ?_
  refine h_iload (pc := 3) C dX4_count_3 4 rfl ?_
  obtain ⟨v1, hc, hf⟩ := jbd_s hf
  by_cases hk : v1 = 0
  · replace hf := jif_t hk hf
    refine h_callP (pc := 5) (As := [.int a1, .int a2, .int a3, .int a4]) (rest := []) (st2 := []) C (c_X4_checkSides l D cT ad n a1 a2 a3 a4 v1 hk hc) (va_cwS 4 C.1.2.2.2.2 gX4_count_X4_checkSides rfl rfl rfl ps_X4_checkSides ⟨(Nat.le_of_ble_eq_true rfl), (Nat.le_of_ble_eq_true rfl)⟩) dX4_count_5 rfl rfl (Nat.le_of_ble_eq_true rfl) ⟨rfl, rfl⟩ ⟨(Nat.le_of_ble_eq_true rfl), (Nat.le_of_ble_eq_true rfl)⟩ rfl ?_
    clear hc
    refine h_iload_n (pc := 8) C dX4_count_8 rfl 1 rfl ?_
    refine h_iload_n (pc := 9) C dX4_count_9 rfl 2 rfl ?_
    refine h_iload_n (pc := 10) C dX4_count_10 rfl 3 rfl ?_
    refine h_iload (pc := 11) C dX4_count_11 4 rfl ?_
    obtain ⟨v2, hc, hf⟩ := jbd_s hf
    refine h_callP (pc := 13) (As := [.int a1, .int a2, .int a3, .int a4]) (rest := []) (st2 := .int v2 :: []) C (c_X0_of l D cT ad n a1 a2 a3 a4 v2 hc) (va_cwS 4 C.1.2.2.2.2 gX4_count_X0_of rfl rfl rfl ps_X0_of ⟨(Nat.le_of_ble_eq_true rfl), (Nat.le_of_ble_eq_true rfl)⟩) dX4_count_13 rfl rfl (Nat.le_of_ble_eq_true rfl) ⟨rfl, rfl⟩ ⟨(Nat.le_of_ble_eq_true rfl), (Nat.le_of_ble_eq_true rfl)⟩ rfl ?_
    clear hc
    refine h_istore (pc := 16) (lv' := [(5, .int v2), (0, .ref (ad 0)), (1, .int a1), (2, .int a2), (3, .int a3), (4, .int a4)]) C dX4_count_16 (by decide) rfl ?_
    refine h_iconst (pc := 18) C dX4_count_18 jc_0 ?_
    refine h_istore (pc := 19) (lv' := [(6, .int 0), (5, .int v2), (0, .ref (ad 0)), (1, .int a1), (2, .int a2), (3, .int a3), (4, .int a4)]) C dX4_count_19 (by decide) rfl ?_
    refine h_iconst (pc := 21) C dX4_count_21 jc_0 ?_
    refine h_istore (pc := 22) (lv' := [(7, .int 0), (6, .int 0), (5, .int v2), (0, .ref (ad 0)), (1, .int a1), (2, .int a2), (3, .int a3), (4, .int a4)]) C dX4_count_22 (by decide) rfl ?_
    refine h_sub [3, 2, 1, 0] rfl ?_
    exact k_X4_count_24 l D cT ad C hr n areas keys there order added size loads widths height ranks r k hk0 n v2 0 0 hf
  · replace hf := jif_f hk hf
    exact absurd ((Prod.mk.inj (Option.some.inj hf)).1.trans hk0) hk
theorem pv_X4_count : yX4_count.cls = RX4 ∧ yX4_count.cls ≠ "java/lang/invoke/MethodHandle" ∧ yX4_count.cls ≠ "java/lang/invoke/VarHandle" ∧ (parseMethodDescriptor yX4_count.desc).map (fun d => d.parameters.length) = some 4 := by decide +kernel
abbrev rxX4_count : Room := { frames := 7, cells := 1, slots := 6, locals := 113 }
set_option maxRecDepth 100000 in
set_option maxHeartbeats 4000000 in
theorem kx_X4_count_56 {p : Program} {e : Env} {s : State} {m : MethodId} {args : Array Value} {below : List Frame} {meth : Method} {c : Code} {A : Nat → Prop} {l : Launch} (hX0 : l.stackTraces = false) (D : va_G) (cT : Nat → ClassId) (ad : Nat → Nat) (C : hC p s m args meth c cX4_count 8 wsX4_count RX4 D (ty4 cT) A) (X : hX l s c A) (n : Nat) (areas : Nat → Int32) (keys : Nat → Int32) (there : Nat → Int32) (order : Nat → Int32) (added : Int32) (size : Int32) (loads : Nat → Int32) (widths : Nat → Int32) (height : Int32) (ranks : Nat → Int32) (r : Int32) (k : Nat) (hk0 : ¬ k = 0) (k24 : Int32 → Int32 → Int32 → Option (Nat × Int32)) (K24 : ∀  (x5 : Int32) (x6 : Int32) (x7 : Int32), k24 x5 x6 x7 = some (k, r) → hS p l e rxX4_count s m args below meth c 8 D A 0 0 (vx_MQ below (fun _ _ _ _ => False) (xX D (ty4 cT) A (xE k) (wX cT ad areas keys there order added size loads widths height ranks)) args s 1 6 A) 24 [(0, .ref (ad 0)), (5, .int x5), (6, .int x6), (7, .int x7)] [] (wX cT ad areas keys there order added size loads widths height ranks)) : ∀  (x5 : Int32) (x6 : Int32) (x7 : Int32), f_X4_count_56 n areas order size k24 x5 x6 x7 = some (k, r) → hS p l e rxX4_count s m args below meth c 8 D A 0 0 (vx_MQ below (fun _ _ _ _ => False) (xX D (ty4 cT) A (xE k) (wX cT ad areas keys there order added size loads widths height ranks)) args s 1 6 A) 56 [(0, .ref (ad 0)), (5, .int x5), (6, .int x6), (7, .int x7)] [] (wX cT ad areas keys there order added size loads widths height ranks) := by
  intro x5 x6 x7 hf
  unfold f_X4_count_56 at hf
  refine h_iinc (pc := 56) (v := x7 + 1) (lv' := [(7, .int (x7 + 1)), (0, .ref (ad 0)), (5, .int x5), (6, .int x6)]) C dX4_count_56 3 rfl (ji_1 _) (by decide) rfl ?_
  refine h_goto (pc := 59) (tgt := 24) C dX4_count_59 (by decide) ?_
  refine h_sub [1, 2, 3, 0] rfl ?_
  exact K24 x5 x6 (x7 + 1) hf
set_option maxRecDepth 100000 in
set_option maxHeartbeats 4000000 in
theorem kx_X4_count_24 {p : Program} {e : Env} {s : State} {m : MethodId} {args : Array Value} {below : List Frame} {meth : Method} {c : Code} {A : Nat → Prop} {l : Launch} (hX0 : l.stackTraces = false) (D : va_G) (cT : Nat → ClassId) (ad : Nat → Nat) (C : hC p s m args meth c cX4_count 8 wsX4_count RX4 D (ty4 cT) A) (X : hX l s c A) (n : Nat) (areas : Nat → Int32) (keys : Nat → Int32) (there : Nat → Int32) (order : Nat → Int32) (added : Int32) (size : Int32) (loads : Nat → Int32) (widths : Nat → Int32) (height : Int32) (ranks : Nat → Int32) (r : Int32) (k : Nat) (hk0 : ¬ k = 0)  : ∀ (fu : Nat)  (x5 : Int32) (x6 : Int32) (x7 : Int32), f_X4_count_24 n areas order size fu x5 x6 x7 = some (k, r) → hS p l e rxX4_count s m args below meth c 8 D A 0 0 (vx_MQ below (fun _ _ _ _ => False) (xX D (ty4 cT) A (xE k) (wX cT ad areas keys there order added size loads widths height ranks)) args s 1 6 A) 24 [(0, .ref (ad 0)), (5, .int x5), (6, .int x6), (7, .int x7)] [] (wX cT ad areas keys there order added size loads widths height ranks) := by
  intro fu
  induction fu with
  | zero =>
    intro x5 x6 x7 hf
    exact nomatch (show (none : Option (Nat × Int32)) = some (k, r) from hf)
  | succ fu ih =>
    intro x5 x6 x7 hf
    rw [f_X4_count_24] at hf
    refine h_iload (pc := 24) C dX4_count_24 3 rfl ?_
    refine h_aload_n (pc := 26) C dX4_count_26 rfl 0 rfl ?_
    refine h_get (pc := 27) (ci := 2) (C0 := RX4) (T := TX4) (N := 3) C uX4_count_X4 rfl 0 rfl 0 (by decide) (List.mem_of_getElem? (i := 1) rfl) rfl rfl dX4_count_27 ?_
    obtain ⟨v3, hc, hf⟩ := jbd_s hf
    refine h_callV (pc := 30) (q0 := 1) (As := []) (rest := .int x7 :: []) (ws' := (wX cT ad areas keys there order added size loads widths height ranks)) (st2 := .int v3 :: .int x7 :: []) C (c_X2_size l D cT ad n areas keys there order added size v3 hc) (cwV 0 C.1.2.2.2.2 gX4_count_X2_size rfl rfl rfl pv_X2_size ⟨(Nat.le_of_ble_eq_true rfl), (Nat.le_of_ble_eq_true rfl)⟩) dX4_count_30 rfl rfl rfl rfl rfl (Nat.le_of_ble_eq_true rfl) ⟨rfl, rfl⟩ ⟨(Nat.le_of_ble_eq_true rfl), (Nat.le_of_ble_eq_true rfl)⟩ [1, 2, 3, 4, 5] [0, 6, 7, 8, 9] [0, 5, 6, 7, 8, 9, 1, 2, 3, 4] rfl rfl rfl rfl (by decide) rfl rfl rfl ?_
    clear hc
    refine h_icmp_ge (pc := 33) (tgt := 62) C dX4_count_33 (by decide) (fun q => ?_) (fun q => ?_)
    · replace hf := jif_t q hf
      clear q
      refine h_iload (pc := 62) C dX4_count_62 2 rfl ?_
      exact absurd (Prod.mk.inj (Option.some.inj hf)).1.symm hk0
    · replace hf := jif_f q hf
      clear q
      refine h_aload_n (pc := 36) C dX4_count_36 rfl 0 rfl ?_
      refine h_get (pc := 37) (ci := 2) (C0 := RX4) (T := TX4) (N := 3) C uX4_count_X4 rfl 0 rfl 0 (by decide) (List.mem_of_getElem? (i := 1) rfl) rfl rfl dX4_count_37 ?_
      refine h_iload (pc := 40) C dX4_count_40 3 rfl ?_
      obtain ⟨v4, hc, hf⟩ := jbd_s hf
      refine h_callV (pc := 42) (q0 := 1) (As := [.int x7]) (rest := []) (ws' := (wX cT ad areas keys there order added size loads widths height ranks)) (st2 := .int v4 :: []) C (c_X2_areaAt l D cT ad n areas keys there order added size x7 v4 hc) (cwV 1 C.1.2.2.2.2 gX4_count_X2_areaAt rfl rfl rfl pv_X2_areaAt ⟨(Nat.le_of_ble_eq_true rfl), (Nat.le_of_ble_eq_true rfl)⟩) dX4_count_42 rfl rfl rfl rfl rfl (Nat.le_of_ble_eq_true rfl) ⟨rfl, rfl⟩ ⟨(Nat.le_of_ble_eq_true rfl), (Nat.le_of_ble_eq_true rfl)⟩ [1, 2, 3, 4, 5] [0, 6, 7, 8, 9] [0, 5, 6, 7, 8, 9, 1, 2, 3, 4] rfl rfl rfl rfl (by decide) rfl rfl rfl ?_
      clear hc
      refine h_iload (pc := 45) C dX4_count_45 1 rfl ?_
      obtain ⟨v5, hc, hf⟩ := jbd_s hf
      refine h_callP (pc := 47) (As := [.int v4, .int x5]) (rest := []) (st2 := .int v5 :: []) C (c_X0_meet l D cT ad n v4 x5 v5 hc) (va_cwS 2 C.1.2.2.2.2 gX4_count_X0_meet rfl rfl rfl ps_X0_meet ⟨(Nat.le_of_ble_eq_true rfl), (Nat.le_of_ble_eq_true rfl)⟩) dX4_count_47 rfl rfl (Nat.le_of_ble_eq_true rfl) ⟨rfl, rfl⟩ ⟨(Nat.le_of_ble_eq_true rfl), (Nat.le_of_ble_eq_true rfl)⟩ rfl ?_
      clear hc
      refine h_if_eq (pc := 50) (tgt := 56) C dX4_count_50 (by decide) (fun q => ?_) (fun q => ?_)
      · replace hf := jif_t q hf
        clear q
        exact kx_X4_count_56 hX0 D cT ad C X n areas keys there order added size loads widths height ranks r k hk0 (f_X4_count_24 n areas order size fu) ih x5 x6 x7 hf
      · replace hf := jif_f q hf
        clear q
        refine h_iinc (pc := 53) (v := x6 + 1) (lv' := [(6, .int (x6 + 1)), (0, .ref (ad 0)), (5, .int x5), (7, .int x7)]) C dX4_count_53 2 rfl (ji_1 _) (by decide) rfl ?_
        refine h_sub [1, 2, 0, 3] rfl ?_
        exact kx_X4_count_56 hX0 D cT ad C X n areas keys there order added size loads widths height ranks r k hk0 (f_X4_count_24 n areas order size fu) ih x5 (x6 + 1) x7 hf
set_option maxRecDepth 100000 in
set_option maxHeartbeats 4000000 in
theorem x_X4_count {l : Launch} (hX0 : l.stackTraces = false) (D : va_G) (cT : Nat → ClassId) (ad : Nat → Nat) (n : Nat) (areas : Nat → Int32) (keys : Nat → Int32) (there : Nat → Int32) (order : Nat → Int32) (added : Int32) (size : Int32) (loads : Nat → Int32) (widths : Nat → Int32) (height : Int32) (ranks : Nat → Int32) (a1 : Int32) (a2 : Int32) (a3 : Int32) (a4 : Int32) (r : Int32) (k : Nat) (hk0 : ¬ k = 0) (hf : f_X4_count n areas order size a1 a2 a3 a4 = some (k, r)) : xM l yX4_count wsX4_count rxX4_count D (ty4 cT) [.ref (ad 0), .int a1, .int a2, .int a3, .int a4] (wX cT ad areas keys there order added size loads widths height ranks) (xE k) (wX cT ad areas keys there order added size loads widths height ranks) := by
  refine xM_of (cc := cX4_count) (maxL := 8) (ret := (some .int)) (own := RX4) (lv := [(0, .ref (ad 0)), (1, .int a1), (2, .int a2), (3, .int a3), (4, .int a4)]) hX0 (by decide) rfl (Nat.le_of_ble_eq_true rfl) rfl rfl ?_
  intro p e s m args below meth c A C X
  unfold f_X4_count at hf
  refine h_iload_n (pc := 0) C dX4_count_0 rfl 1 rfl ?_
  refine h_iload_n (pc := 1) C dX4_count_1 rfl 2 rfl ?_
  refine h_iload_n (pc := 2) C dX4_count_2 rfl 3 rfl ?_
  refine h_iload (pc := 3) C dX4_count_3 4 rfl ?_
  obtain ⟨v1, hc, hf⟩ := jbd_s hf
  by_cases hk : v1 = 0
  · replace hf := jif_t hk hf
    refine h_callP (pc := 5) (As := [.int a1, .int a2, .int a3, .int a4]) (rest := []) (st2 := []) C (c_X4_checkSides l D cT ad n a1 a2 a3 a4 v1 hk hc) (va_cwS 4 C.1.2.2.2.2 gX4_count_X4_checkSides rfl rfl rfl ps_X4_checkSides ⟨(Nat.le_of_ble_eq_true rfl), (Nat.le_of_ble_eq_true rfl)⟩) dX4_count_5 rfl rfl (Nat.le_of_ble_eq_true rfl) ⟨rfl, rfl⟩ ⟨(Nat.le_of_ble_eq_true rfl), (Nat.le_of_ble_eq_true rfl)⟩ rfl ?_
    clear hc
    refine h_iload_n (pc := 8) C dX4_count_8 rfl 1 rfl ?_
    refine h_iload_n (pc := 9) C dX4_count_9 rfl 2 rfl ?_
    refine h_iload_n (pc := 10) C dX4_count_10 rfl 3 rfl ?_
    refine h_iload (pc := 11) C dX4_count_11 4 rfl ?_
    obtain ⟨v2, hc, hf⟩ := jbd_s hf
    refine h_callP (pc := 13) (As := [.int a1, .int a2, .int a3, .int a4]) (rest := []) (st2 := .int v2 :: []) C (c_X0_of l D cT ad n a1 a2 a3 a4 v2 hc) (va_cwS 4 C.1.2.2.2.2 gX4_count_X0_of rfl rfl rfl ps_X0_of ⟨(Nat.le_of_ble_eq_true rfl), (Nat.le_of_ble_eq_true rfl)⟩) dX4_count_13 rfl rfl (Nat.le_of_ble_eq_true rfl) ⟨rfl, rfl⟩ ⟨(Nat.le_of_ble_eq_true rfl), (Nat.le_of_ble_eq_true rfl)⟩ rfl ?_
    clear hc
    refine h_istore (pc := 16) (lv' := [(5, .int v2), (0, .ref (ad 0)), (1, .int a1), (2, .int a2), (3, .int a3), (4, .int a4)]) C dX4_count_16 (by decide) rfl ?_
    refine h_iconst (pc := 18) C dX4_count_18 jc_0 ?_
    refine h_istore (pc := 19) (lv' := [(6, .int 0), (5, .int v2), (0, .ref (ad 0)), (1, .int a1), (2, .int a2), (3, .int a3), (4, .int a4)]) C dX4_count_19 (by decide) rfl ?_
    refine h_iconst (pc := 21) C dX4_count_21 jc_0 ?_
    refine h_istore (pc := 22) (lv' := [(7, .int 0), (6, .int 0), (5, .int v2), (0, .ref (ad 0)), (1, .int a1), (2, .int a2), (3, .int a3), (4, .int a4)]) C dX4_count_22 (by decide) rfl ?_
    refine h_sub [3, 2, 1, 0] rfl ?_
    exact kx_X4_count_24 hX0 D cT ad C X n areas keys there order added size loads widths height ranks r k hk0 n v2 0 0 hf
  · replace hf := jif_f hk hf
    have g0 := (Prod.mk.inj (Option.some.inj hf)).1
    have g1 := (Prod.mk.inj (Option.some.inj hf)).2
    clear hf
    subst g0
    subst g1
    exact h_xS (pc := 5) (As := [.int a1, .int a2, .int a3, .int a4]) (rest := []) C X.1 (x_X4_checkSides hX0 D cT ad n a1 a2 a3 a4 v1 hk hc) (va_cwS 4 C.1.2.2.2.2 gX4_count_X4_checkSides rfl rfl rfl ps_X4_checkSides ⟨(Nat.le_of_ble_eq_true rfl), (Nat.le_of_ble_eq_true rfl)⟩) dX4_count_5 rfl rfl (Nat.le_of_ble_eq_true rfl) ⟨(Nat.le_of_ble_eq_true rfl), (Nat.le_of_ble_eq_true rfl)⟩ (h_outK C X ⟨(Nat.le_of_ble_eq_true rfl), (Nat.le_of_ble_eq_true rfl)⟩)
abbrev rmX4_found : Room := { frames := 7, cells := 0, slots := 0, locals := 113 }
theorem uX4_found_X4 : ∀ w ∈ u_ws RX4 TX4 3, w ∈ wsX4_found := fun w h => List.mem_cons_of_mem _ (List.mem_append_left _ (List.mem_append_left _ (List.mem_append_left _ (List.mem_append_right _ h))))
set_option maxRecDepth 100000 in
set_option maxHeartbeats 4000000 in
theorem k_X4_found_73 {p : Program} {e : Env} {s : State} {m : MethodId} {args : Array Value} {below : List Frame} {meth : Method} {c : Code} {A : Nat → Prop} (l : Launch) (D : va_G) (cT : Nat → ClassId) (ad : Nat → Nat) (C : hC p s m args meth c cX4_found 9 wsX4_found RX4 D (ty4 cT) A) (hr : meth.sig.returnType = (some .int)) (n : Nat) (areas : Nat → Int32) (keys : Nat → Int32) (there : Nat → Int32) (order : Nat → Int32) (added : Int32) (size : Int32) (loads : Nat → Int32) (widths : Nat → Int32) (height : Int32) (ranks : Nat → Int32) (r : Int32) (k : Nat) (hk0 : k = 0) (k24 : Int32 → Int32 → Int32 → Int32 → Option (Nat × Int32)) (K24 : ∀  (x5 : Int32) (x6 : Int32) (x7 : Int32) (x8 : Int32), k24 x5 x6 x7 x8 = some (k, r) → hS p l e rmX4_found s m args below meth c 9 D A 0 0 (MQ below (cQ D (ty4 cT) A (some (.int r)) (wX cT ad areas keys there order added size loads widths height ranks)) args s 0 0 A) 24 [(0, .ref (ad 0)), (5, .int x5), (6, .int x6), (7, .int x7), (8, .int x8)] [] (wX cT ad areas keys there order added size loads widths height ranks)) : ∀  (x5 : Int32) (x6 : Int32) (x7 : Int32) (x8 : Int32), f_X4_found_73 n areas order size k24 x5 x6 x7 x8 = some (k, r) → hS p l e rmX4_found s m args below meth c 9 D A 0 0 (MQ below (cQ D (ty4 cT) A (some (.int r)) (wX cT ad areas keys there order added size loads widths height ranks)) args s 0 0 A) 73 [(0, .ref (ad 0)), (5, .int x5), (6, .int x6), (7, .int x7), (8, .int x8)] [] (wX cT ad areas keys there order added size loads widths height ranks) := by
  intro x5 x6 x7 x8 hf
  unfold f_X4_found_73 at hf
  refine h_iinc (pc := 73) (v := x8 + 1) (lv' := [(8, .int (x8 + 1)), (0, .ref (ad 0)), (5, .int x5), (6, .int x6), (7, .int x7)]) C dX4_found_73 4 rfl (ji_1 _) (by decide) rfl ?_
  refine h_goto (pc := 76) (tgt := 24) C dX4_found_76 (by decide) ?_
  refine h_sub [1, 2, 3, 4, 0] rfl ?_
  exact K24 x5 x6 x7 (x8 + 1) hf
set_option maxRecDepth 100000 in
set_option maxHeartbeats 4000000 in
theorem k_X4_found_24 {p : Program} {e : Env} {s : State} {m : MethodId} {args : Array Value} {below : List Frame} {meth : Method} {c : Code} {A : Nat → Prop} (l : Launch) (D : va_G) (cT : Nat → ClassId) (ad : Nat → Nat) (C : hC p s m args meth c cX4_found 9 wsX4_found RX4 D (ty4 cT) A) (hr : meth.sig.returnType = (some .int)) (n : Nat) (areas : Nat → Int32) (keys : Nat → Int32) (there : Nat → Int32) (order : Nat → Int32) (added : Int32) (size : Int32) (loads : Nat → Int32) (widths : Nat → Int32) (height : Int32) (ranks : Nat → Int32) (r : Int32) (k : Nat) (hk0 : k = 0)  : ∀ (fu : Nat)  (x5 : Int32) (x6 : Int32) (x7 : Int32) (x8 : Int32), f_X4_found_24 n areas order size fu x5 x6 x7 x8 = some (k, r) → hS p l e rmX4_found s m args below meth c 9 D A 0 0 (MQ below (cQ D (ty4 cT) A (some (.int r)) (wX cT ad areas keys there order added size loads widths height ranks)) args s 0 0 A) 24 [(0, .ref (ad 0)), (5, .int x5), (6, .int x6), (7, .int x7), (8, .int x8)] [] (wX cT ad areas keys there order added size loads widths height ranks) := by
  intro fu
  induction fu with
  | zero =>
    intro x5 x6 x7 x8 hf
    exact nomatch (show (none : Option (Nat × Int32)) = some (k, r) from hf)
  | succ fu ih =>
    intro x5 x6 x7 x8 hf
    rw [f_X4_found_24] at hf
    refine h_iload (pc := 24) C dX4_found_24 4 rfl ?_
    refine h_aload_n (pc := 26) C dX4_found_26 rfl 0 rfl ?_
    refine h_get (pc := 27) (ci := 2) (C0 := RX4) (T := TX4) (N := 3) C uX4_found_X4 rfl 0 rfl 0 (by decide) (List.mem_of_getElem? (i := 3) rfl) rfl rfl dX4_found_27 ?_
    obtain ⟨v3, hc, hf⟩ := jbd_s hf
    refine h_callV (pc := 30) (q0 := 1) (As := []) (rest := .int x8 :: []) (ws' := (wX cT ad areas keys there order added size loads widths height ranks)) (st2 := .int v3 :: .int x8 :: []) C (c_X2_size l D cT ad n areas keys there order added size v3 hc) (cwV 0 C.1.2.2.2.2 gX4_found_X2_size rfl rfl rfl pv_X2_size ⟨(Nat.le_of_ble_eq_true rfl), (Nat.le_of_ble_eq_true rfl)⟩) dX4_found_30 rfl rfl rfl rfl rfl (Nat.le_of_ble_eq_true rfl) ⟨rfl, rfl⟩ ⟨(Nat.le_of_ble_eq_true rfl), (Nat.le_of_ble_eq_true rfl)⟩ [1, 2, 3, 4, 5] [0, 6, 7, 8, 9] [0, 5, 6, 7, 8, 9, 1, 2, 3, 4] rfl rfl rfl rfl (by decide) rfl rfl rfl ?_
    clear hc
    refine h_icmp_ge (pc := 33) (tgt := 79) C dX4_found_33 (by decide) (fun q => ?_) (fun q => ?_)
    · replace hf := jif_t q hf
      clear q
      exact absurd ((Prod.mk.inj (Option.some.inj hf)).1.trans hk0) (by decide)
    · replace hf := jif_f q hf
      clear q
      refine h_aload_n (pc := 36) C dX4_found_36 rfl 0 rfl ?_
      refine h_get (pc := 37) (ci := 2) (C0 := RX4) (T := TX4) (N := 3) C uX4_found_X4 rfl 0 rfl 0 (by decide) (List.mem_of_getElem? (i := 3) rfl) rfl rfl dX4_found_37 ?_
      refine h_iload (pc := 40) C dX4_found_40 4 rfl ?_
      obtain ⟨v4, hc, hf⟩ := jbd_s hf
      refine h_callV (pc := 42) (q0 := 1) (As := [.int x8]) (rest := []) (ws' := (wX cT ad areas keys there order added size loads widths height ranks)) (st2 := .int v4 :: []) C (c_X2_areaAt l D cT ad n areas keys there order added size x8 v4 hc) (cwV 1 C.1.2.2.2.2 gX4_found_X2_areaAt rfl rfl rfl pv_X2_areaAt ⟨(Nat.le_of_ble_eq_true rfl), (Nat.le_of_ble_eq_true rfl)⟩) dX4_found_42 rfl rfl rfl rfl rfl (Nat.le_of_ble_eq_true rfl) ⟨rfl, rfl⟩ ⟨(Nat.le_of_ble_eq_true rfl), (Nat.le_of_ble_eq_true rfl)⟩ [1, 2, 3, 4, 5] [0, 6, 7, 8, 9] [0, 5, 6, 7, 8, 9, 1, 2, 3, 4] rfl rfl rfl rfl (by decide) rfl rfl rfl ?_
      clear hc
      refine h_iload (pc := 45) C dX4_found_45 2 rfl ?_
      obtain ⟨v5, hc, hf⟩ := jbd_s hf
      refine h_callP (pc := 47) (As := [.int v4, .int x6]) (rest := []) (st2 := .int v5 :: []) C (c_X0_meet l D cT ad n v4 x6 v5 hc) (va_cwS 2 C.1.2.2.2.2 gX4_found_X0_meet rfl rfl rfl ps_X0_meet ⟨(Nat.le_of_ble_eq_true rfl), (Nat.le_of_ble_eq_true rfl)⟩) dX4_found_47 rfl rfl (Nat.le_of_ble_eq_true rfl) ⟨rfl, rfl⟩ ⟨(Nat.le_of_ble_eq_true rfl), (Nat.le_of_ble_eq_true rfl)⟩ rfl ?_
      clear hc
      refine h_if_eq (pc := 50) (tgt := 73) C dX4_found_50 (by decide) (fun q => ?_) (fun q => ?_)
      · replace hf := jif_t q hf
        clear q
        exact k_X4_found_73 l D cT ad C hr n areas keys there order added size loads widths height ranks r k hk0 (f_X4_found_24 n areas order size fu) ih x5 x6 x7 x8 hf
      · replace hf := jif_f q hf
        clear q
        refine h_iload (pc := 53) C dX4_found_53 3 rfl ?_
        refine h_iload (pc := 55) C dX4_found_55 1 rfl ?_
        refine h_icmp_ne (pc := 57) (tgt := 70) C dX4_found_57 (by decide) (fun q => ?_) (fun q => ?_)
        · replace hf := jif_f q hf
          clear q
          refine h_iinc (pc := 70) (v := x7 + 1) (lv' := [(7, .int (x7 + 1)), (0, .ref (ad 0)), (5, .int x5), (6, .int x6), (8, .int x8)]) C dX4_found_70 3 rfl (ji_1 _) (by decide) rfl ?_
          refine h_sub [1, 2, 3, 0, 4] rfl ?_
          exact k_X4_found_73 l D cT ad C hr n areas keys there order added size loads widths height ranks r k hk0 (f_X4_found_24 n areas order size fu) ih x5 x6 (x7 + 1) x8 hf
        · replace hf := jif_t q hf
          clear q
          refine h_aload_n (pc := 60) C dX4_found_60 rfl 0 rfl ?_
          refine h_get (pc := 61) (ci := 2) (C0 := RX4) (T := TX4) (N := 3) C uX4_found_X4 rfl 0 rfl 0 (by decide) (List.mem_of_getElem? (i := 3) rfl) rfl rfl dX4_found_61 ?_
          refine h_iload (pc := 64) C dX4_found_64 4 rfl ?_
          obtain ⟨v6, hc, hf⟩ := jbd_s hf
          refine h_callV (pc := 66) (q0 := 1) (As := [.int x8]) (rest := []) (ws' := (wX cT ad areas keys there order added size loads widths height ranks)) (st2 := .int v6 :: []) C (c_X2_numberAt l D cT ad n areas keys there order added size x8 v6 hc) (cwV 1 C.1.2.2.2.2 gX4_found_X2_numberAt rfl rfl rfl pv_X2_numberAt ⟨(Nat.le_of_ble_eq_true rfl), (Nat.le_of_ble_eq_true rfl)⟩) dX4_found_66 rfl rfl rfl rfl rfl (Nat.le_of_ble_eq_true rfl) ⟨rfl, rfl⟩ ⟨(Nat.le_of_ble_eq_true rfl), (Nat.le_of_ble_eq_true rfl)⟩ [1, 2, 3, 4, 5] [0, 6, 7, 8, 9] [0, 5, 6, 7, 8, 9, 1, 2, 3, 4] rfl rfl rfl rfl (by decide) rfl rfl rfl ?_
          clear hc
          have g0 := (Prod.mk.inj (Option.some.inj hf)).1
          have g1 := (Prod.mk.inj (Option.some.inj hf)).2
          clear hf
          subst g0
          subst g1
          exact h_iret C hr dX4_found_69
set_option maxRecDepth 100000 in
set_option maxHeartbeats 4000000 in
theorem c_X4_found (l : Launch) (D : va_G) (cT : Nat → ClassId) (ad : Nat → Nat) (n : Nat) (areas : Nat → Int32) (keys : Nat → Int32) (there : Nat → Int32) (order : Nat → Int32) (added : Int32) (size : Int32) (loads : Nat → Int32) (widths : Nat → Int32) (height : Int32) (ranks : Nat → Int32) (a1 : Int32) (a2 : Int32) (a3 : Int32) (a4 : Int32) (a5 : Int32) (r : Int32) (k : Nat) (hk0 : k = 0) (hf : f_X4_found n areas order size a1 a2 a3 a4 a5 = some (k, r)) : cM l yX4_found wsX4_found rmX4_found D (ty4 cT) [.ref (ad 0), .int a1, .int a2, .int a3, .int a4, .int a5] (wX cT ad areas keys there order added size loads widths height ranks) (some (.int r)) (wX cT ad areas keys there order added size loads widths height ranks) := by
  refine cM_of (cc := cX4_found) (maxL := 9) (ret := (some .int)) (own := RX4) (lv := [(0, .ref (ad 0)), (1, .int a1), (2, .int a2), (3, .int a3), (4, .int a4), (5, .int a5)]) (by decide) rfl (Nat.le_of_ble_eq_true rfl) rfl rfl ?_
  intro p e s m args below meth c A C hr
  unfold f_X4_found at hf
  refine h_iload_n (pc := 0) C dX4_found_0 rfl 1 rfl ?_
  refine h_iload_n (pc := 1) C dX4_found_1 rfl 2 rfl ?_
  refine h_iload_n (pc := 2) C dX4_found_2 rfl 3 rfl ?_
  refine h_iload (pc := 3) C dX4_found_3 4 rfl ?_
  obtain ⟨v1, hc, hf⟩ := jbd_s hf
  by_cases hk : v1 = 0
  · replace hf := jif_t hk hf
    refine h_callP (pc := 5) (As := [.int a1, .int a2, .int a3, .int a4]) (rest := []) (st2 := []) C (c_X4_checkSides l D cT ad n a1 a2 a3 a4 v1 hk hc) (va_cwS 4 C.1.2.2.2.2 gX4_found_X4_checkSides rfl rfl rfl ps_X4_checkSides ⟨(Nat.le_of_ble_eq_true rfl), (Nat.le_of_ble_eq_true rfl)⟩) dX4_found_5 rfl rfl (Nat.le_of_ble_eq_true rfl) ⟨rfl, rfl⟩ ⟨(Nat.le_of_ble_eq_true rfl), (Nat.le_of_ble_eq_true rfl)⟩ rfl ?_
    clear hc
    refine h_iload_n (pc := 8) C dX4_found_8 rfl 1 rfl ?_
    refine h_iload_n (pc := 9) C dX4_found_9 rfl 2 rfl ?_
    refine h_iload_n (pc := 10) C dX4_found_10 rfl 3 rfl ?_
    refine h_iload (pc := 11) C dX4_found_11 4 rfl ?_
    obtain ⟨v2, hc, hf⟩ := jbd_s hf
    refine h_callP (pc := 13) (As := [.int a1, .int a2, .int a3, .int a4]) (rest := []) (st2 := .int v2 :: []) C (c_X0_of l D cT ad n a1 a2 a3 a4 v2 hc) (va_cwS 4 C.1.2.2.2.2 gX4_found_X0_of rfl rfl rfl ps_X0_of ⟨(Nat.le_of_ble_eq_true rfl), (Nat.le_of_ble_eq_true rfl)⟩) dX4_found_13 rfl rfl (Nat.le_of_ble_eq_true rfl) ⟨rfl, rfl⟩ ⟨(Nat.le_of_ble_eq_true rfl), (Nat.le_of_ble_eq_true rfl)⟩ rfl ?_
    clear hc
    refine h_istore (pc := 16) (lv' := [(6, .int v2), (0, .ref (ad 0)), (1, .int a1), (2, .int a2), (3, .int a3), (4, .int a4), (5, .int a5)]) C dX4_found_16 (by decide) rfl ?_
    refine h_iconst (pc := 18) C dX4_found_18 jc_0 ?_
    refine h_istore (pc := 19) (lv' := [(7, .int 0), (6, .int v2), (0, .ref (ad 0)), (1, .int a1), (2, .int a2), (3, .int a3), (4, .int a4), (5, .int a5)]) C dX4_found_19 (by decide) rfl ?_
    refine h_iconst (pc := 21) C dX4_found_21 jc_0 ?_
    refine h_istore (pc := 22) (lv' := [(8, .int 0), (7, .int 0), (6, .int v2), (0, .ref (ad 0)), (1, .int a1), (2, .int a2), (3, .int a3), (4, .int a4), (5, .int a5)]) C dX4_found_22 (by decide) rfl ?_
    refine h_sub [3, 8, 2, 1, 0] rfl ?_
    exact k_X4_found_24 l D cT ad C hr n areas keys there order added size loads widths height ranks r k hk0 n a5 v2 0 0 hf
  · replace hf := jif_f hk hf
    exact absurd ((Prod.mk.inj (Option.some.inj hf)).1.trans hk0) hk
theorem pv_X4_found : yX4_found.cls = RX4 ∧ yX4_found.cls ≠ "java/lang/invoke/MethodHandle" ∧ yX4_found.cls ≠ "java/lang/invoke/VarHandle" ∧ (parseMethodDescriptor yX4_found.desc).map (fun d => d.parameters.length) = some 5 := by decide +kernel
abbrev rxX4_found : Room := { frames := 7, cells := 1, slots := 6, locals := 113 }
set_option maxRecDepth 100000 in
set_option maxHeartbeats 4000000 in
theorem kx_X4_found_73 {p : Program} {e : Env} {s : State} {m : MethodId} {args : Array Value} {below : List Frame} {meth : Method} {c : Code} {A : Nat → Prop} {l : Launch} (hX0 : l.stackTraces = false) (D : va_G) (cT : Nat → ClassId) (ad : Nat → Nat) (C : hC p s m args meth c cX4_found 9 wsX4_found RX4 D (ty4 cT) A) (X : hX l s c A) (n : Nat) (areas : Nat → Int32) (keys : Nat → Int32) (there : Nat → Int32) (order : Nat → Int32) (added : Int32) (size : Int32) (loads : Nat → Int32) (widths : Nat → Int32) (height : Int32) (ranks : Nat → Int32) (r : Int32) (k : Nat) (hk0 : ¬ k = 0) (k24 : Int32 → Int32 → Int32 → Int32 → Option (Nat × Int32)) (K24 : ∀  (x5 : Int32) (x6 : Int32) (x7 : Int32) (x8 : Int32), k24 x5 x6 x7 x8 = some (k, r) → hS p l e rxX4_found s m args below meth c 9 D A 0 0 (vx_MQ below (fun _ _ _ _ => False) (xX D (ty4 cT) A (xE k) (wX cT ad areas keys there order added size loads widths height ranks)) args s 1 6 A) 24 [(0, .ref (ad 0)), (5, .int x5), (6, .int x6), (7, .int x7), (8, .int x8)] [] (wX cT ad areas keys there order added size loads widths height ranks)) : ∀  (x5 : Int32) (x6 : Int32) (x7 : Int32) (x8 : Int32), f_X4_found_73 n areas order size k24 x5 x6 x7 x8 = some (k, r) → hS p l e rxX4_found s m args below meth c 9 D A 0 0 (vx_MQ below (fun _ _ _ _ => False) (xX D (ty4 cT) A (xE k) (wX cT ad areas keys there order added size loads widths height ranks)) args s 1 6 A) 73 [(0, .ref (ad 0)), (5, .int x5), (6, .int x6), (7, .int x7), (8, .int x8)] [] (wX cT ad areas keys there order added size loads widths height ranks) := by
  intro x5 x6 x7 x8 hf
  unfold f_X4_found_73 at hf
  refine h_iinc (pc := 73) (v := x8 + 1) (lv' := [(8, .int (x8 + 1)), (0, .ref (ad 0)), (5, .int x5), (6, .int x6), (7, .int x7)]) C dX4_found_73 4 rfl (ji_1 _) (by decide) rfl ?_
  refine h_goto (pc := 76) (tgt := 24) C dX4_found_76 (by decide) ?_
  refine h_sub [1, 2, 3, 4, 0] rfl ?_
  exact K24 x5 x6 x7 (x8 + 1) hf
set_option maxRecDepth 100000 in
set_option maxHeartbeats 4000000 in
theorem kx_X4_found_24 {p : Program} {e : Env} {s : State} {m : MethodId} {args : Array Value} {below : List Frame} {meth : Method} {c : Code} {A : Nat → Prop} {l : Launch} (hX0 : l.stackTraces = false) (D : va_G) (cT : Nat → ClassId) (ad : Nat → Nat) (C : hC p s m args meth c cX4_found 9 wsX4_found RX4 D (ty4 cT) A) (X : hX l s c A) (n : Nat) (areas : Nat → Int32) (keys : Nat → Int32) (there : Nat → Int32) (order : Nat → Int32) (added : Int32) (size : Int32) (loads : Nat → Int32) (widths : Nat → Int32) (height : Int32) (ranks : Nat → Int32) (r : Int32) (k : Nat) (hk0 : ¬ k = 0)  : ∀ (fu : Nat)  (x5 : Int32) (x6 : Int32) (x7 : Int32) (x8 : Int32), f_X4_found_24 n areas order size fu x5 x6 x7 x8 = some (k, r) → hS p l e rxX4_found s m args below meth c 9 D A 0 0 (vx_MQ below (fun _ _ _ _ => False) (xX D (ty4 cT) A (xE k) (wX cT ad areas keys there order added size loads widths height ranks)) args s 1 6 A) 24 [(0, .ref (ad 0)), (5, .int x5), (6, .int x6), (7, .int x7), (8, .int x8)] [] (wX cT ad areas keys there order added size loads widths height ranks) := by
  intro fu
  induction fu with
  | zero =>
    intro x5 x6 x7 x8 hf
    exact nomatch (show (none : Option (Nat × Int32)) = some (k, r) from hf)
  | succ fu ih =>
    intro x5 x6 x7 x8 hf
    rw [f_X4_found_24] at hf
    refine h_iload (pc := 24) C dX4_found_24 4 rfl ?_
    refine h_aload_n (pc := 26) C dX4_found_26 rfl 0 rfl ?_
    refine h_get (pc := 27) (ci := 2) (C0 := RX4) (T := TX4) (N := 3) C uX4_found_X4 rfl 0 rfl 0 (by decide) (List.mem_of_getElem? (i := 3) rfl) rfl rfl dX4_found_27 ?_
    obtain ⟨v3, hc, hf⟩ := jbd_s hf
    refine h_callV (pc := 30) (q0 := 1) (As := []) (rest := .int x8 :: []) (ws' := (wX cT ad areas keys there order added size loads widths height ranks)) (st2 := .int v3 :: .int x8 :: []) C (c_X2_size l D cT ad n areas keys there order added size v3 hc) (cwV 0 C.1.2.2.2.2 gX4_found_X2_size rfl rfl rfl pv_X2_size ⟨(Nat.le_of_ble_eq_true rfl), (Nat.le_of_ble_eq_true rfl)⟩) dX4_found_30 rfl rfl rfl rfl rfl (Nat.le_of_ble_eq_true rfl) ⟨rfl, rfl⟩ ⟨(Nat.le_of_ble_eq_true rfl), (Nat.le_of_ble_eq_true rfl)⟩ [1, 2, 3, 4, 5] [0, 6, 7, 8, 9] [0, 5, 6, 7, 8, 9, 1, 2, 3, 4] rfl rfl rfl rfl (by decide) rfl rfl rfl ?_
    clear hc
    refine h_icmp_ge (pc := 33) (tgt := 79) C dX4_found_33 (by decide) (fun q => ?_) (fun q => ?_)
    · replace hf := jif_t q hf
      clear q
      have g0 := (Prod.mk.inj (Option.some.inj hf)).1
      have g1 := (Prod.mk.inj (Option.some.inj hf)).2
      clear hf
      subst g0
      subst g1
      exact h_throw (pc := 79) C X xin_IOE xft_IOE xft_up (List.mem_of_getElem? (i := 1) rfl) (List.mem_of_getElem? (i := 2) rfl) (List.mem_of_getElem? (i := 2) rfl) (fun w h => List.mem_cons_of_mem _ (List.mem_append_left _ (List.mem_append_right _ h))) xng_IOE xgd_IOE dX4_found_79 dX4_found_82 dX4_found_83 dX4_found_85 dX4_found_88 ⟨Nat.le_of_ble_eq_true rfl, Nat.le_of_ble_eq_true rfl, Nat.le_of_ble_eq_true rfl, Nat.le_of_ble_eq_true rfl⟩ ⟨Nat.le_of_ble_eq_true rfl, Nat.le_of_ble_eq_true rfl⟩
    · replace hf := jif_f q hf
      clear q
      refine h_aload_n (pc := 36) C dX4_found_36 rfl 0 rfl ?_
      refine h_get (pc := 37) (ci := 2) (C0 := RX4) (T := TX4) (N := 3) C uX4_found_X4 rfl 0 rfl 0 (by decide) (List.mem_of_getElem? (i := 3) rfl) rfl rfl dX4_found_37 ?_
      refine h_iload (pc := 40) C dX4_found_40 4 rfl ?_
      obtain ⟨v4, hc, hf⟩ := jbd_s hf
      refine h_callV (pc := 42) (q0 := 1) (As := [.int x8]) (rest := []) (ws' := (wX cT ad areas keys there order added size loads widths height ranks)) (st2 := .int v4 :: []) C (c_X2_areaAt l D cT ad n areas keys there order added size x8 v4 hc) (cwV 1 C.1.2.2.2.2 gX4_found_X2_areaAt rfl rfl rfl pv_X2_areaAt ⟨(Nat.le_of_ble_eq_true rfl), (Nat.le_of_ble_eq_true rfl)⟩) dX4_found_42 rfl rfl rfl rfl rfl (Nat.le_of_ble_eq_true rfl) ⟨rfl, rfl⟩ ⟨(Nat.le_of_ble_eq_true rfl), (Nat.le_of_ble_eq_true rfl)⟩ [1, 2, 3, 4, 5] [0, 6, 7, 8, 9] [0, 5, 6, 7, 8, 9, 1, 2, 3, 4] rfl rfl rfl rfl (by decide) rfl rfl rfl ?_
      clear hc
      refine h_iload (pc := 45) C dX4_found_45 2 rfl ?_
      obtain ⟨v5, hc, hf⟩ := jbd_s hf
      refine h_callP (pc := 47) (As := [.int v4, .int x6]) (rest := []) (st2 := .int v5 :: []) C (c_X0_meet l D cT ad n v4 x6 v5 hc) (va_cwS 2 C.1.2.2.2.2 gX4_found_X0_meet rfl rfl rfl ps_X0_meet ⟨(Nat.le_of_ble_eq_true rfl), (Nat.le_of_ble_eq_true rfl)⟩) dX4_found_47 rfl rfl (Nat.le_of_ble_eq_true rfl) ⟨rfl, rfl⟩ ⟨(Nat.le_of_ble_eq_true rfl), (Nat.le_of_ble_eq_true rfl)⟩ rfl ?_
      clear hc
      refine h_if_eq (pc := 50) (tgt := 73) C dX4_found_50 (by decide) (fun q => ?_) (fun q => ?_)
      · replace hf := jif_t q hf
        clear q
        exact kx_X4_found_73 hX0 D cT ad C X n areas keys there order added size loads widths height ranks r k hk0 (f_X4_found_24 n areas order size fu) ih x5 x6 x7 x8 hf
      · replace hf := jif_f q hf
        clear q
        refine h_iload (pc := 53) C dX4_found_53 3 rfl ?_
        refine h_iload (pc := 55) C dX4_found_55 1 rfl ?_
        refine h_icmp_ne (pc := 57) (tgt := 70) C dX4_found_57 (by decide) (fun q => ?_) (fun q => ?_)
        · replace hf := jif_f q hf
          clear q
          refine h_iinc (pc := 70) (v := x7 + 1) (lv' := [(7, .int (x7 + 1)), (0, .ref (ad 0)), (5, .int x5), (6, .int x6), (8, .int x8)]) C dX4_found_70 3 rfl (ji_1 _) (by decide) rfl ?_
          refine h_sub [1, 2, 3, 0, 4] rfl ?_
          exact kx_X4_found_73 hX0 D cT ad C X n areas keys there order added size loads widths height ranks r k hk0 (f_X4_found_24 n areas order size fu) ih x5 x6 (x7 + 1) x8 hf
        · replace hf := jif_t q hf
          clear q
          refine h_aload_n (pc := 60) C dX4_found_60 rfl 0 rfl ?_
          refine h_get (pc := 61) (ci := 2) (C0 := RX4) (T := TX4) (N := 3) C uX4_found_X4 rfl 0 rfl 0 (by decide) (List.mem_of_getElem? (i := 3) rfl) rfl rfl dX4_found_61 ?_
          refine h_iload (pc := 64) C dX4_found_64 4 rfl ?_
          obtain ⟨v6, hc, hf⟩ := jbd_s hf
          refine h_callV (pc := 66) (q0 := 1) (As := [.int x8]) (rest := []) (ws' := (wX cT ad areas keys there order added size loads widths height ranks)) (st2 := .int v6 :: []) C (c_X2_numberAt l D cT ad n areas keys there order added size x8 v6 hc) (cwV 1 C.1.2.2.2.2 gX4_found_X2_numberAt rfl rfl rfl pv_X2_numberAt ⟨(Nat.le_of_ble_eq_true rfl), (Nat.le_of_ble_eq_true rfl)⟩) dX4_found_66 rfl rfl rfl rfl rfl (Nat.le_of_ble_eq_true rfl) ⟨rfl, rfl⟩ ⟨(Nat.le_of_ble_eq_true rfl), (Nat.le_of_ble_eq_true rfl)⟩ [1, 2, 3, 4, 5] [0, 6, 7, 8, 9] [0, 5, 6, 7, 8, 9, 1, 2, 3, 4] rfl rfl rfl rfl (by decide) rfl rfl rfl ?_
          clear hc
          exact absurd (Prod.mk.inj (Option.some.inj hf)).1.symm hk0
set_option maxRecDepth 100000 in
set_option maxHeartbeats 4000000 in
theorem x_X4_found {l : Launch} (hX0 : l.stackTraces = false) (D : va_G) (cT : Nat → ClassId) (ad : Nat → Nat) (n : Nat) (areas : Nat → Int32) (keys : Nat → Int32) (there : Nat → Int32) (order : Nat → Int32) (added : Int32) (size : Int32) (loads : Nat → Int32) (widths : Nat → Int32) (height : Int32) (ranks : Nat → Int32) (a1 : Int32) (a2 : Int32) (a3 : Int32) (a4 : Int32) (a5 : Int32) (r : Int32) (k : Nat) (hk0 : ¬ k = 0) (hf : f_X4_found n areas order size a1 a2 a3 a4 a5 = some (k, r)) : xM l yX4_found wsX4_found rxX4_found D (ty4 cT) [.ref (ad 0), .int a1, .int a2, .int a3, .int a4, .int a5] (wX cT ad areas keys there order added size loads widths height ranks) (xE k) (wX cT ad areas keys there order added size loads widths height ranks) := by
  refine xM_of (cc := cX4_found) (maxL := 9) (ret := (some .int)) (own := RX4) (lv := [(0, .ref (ad 0)), (1, .int a1), (2, .int a2), (3, .int a3), (4, .int a4), (5, .int a5)]) hX0 (by decide) rfl (Nat.le_of_ble_eq_true rfl) rfl rfl ?_
  intro p e s m args below meth c A C X
  unfold f_X4_found at hf
  refine h_iload_n (pc := 0) C dX4_found_0 rfl 1 rfl ?_
  refine h_iload_n (pc := 1) C dX4_found_1 rfl 2 rfl ?_
  refine h_iload_n (pc := 2) C dX4_found_2 rfl 3 rfl ?_
  refine h_iload (pc := 3) C dX4_found_3 4 rfl ?_
  obtain ⟨v1, hc, hf⟩ := jbd_s hf
  by_cases hk : v1 = 0
  · replace hf := jif_t hk hf
    refine h_callP (pc := 5) (As := [.int a1, .int a2, .int a3, .int a4]) (rest := []) (st2 := []) C (c_X4_checkSides l D cT ad n a1 a2 a3 a4 v1 hk hc) (va_cwS 4 C.1.2.2.2.2 gX4_found_X4_checkSides rfl rfl rfl ps_X4_checkSides ⟨(Nat.le_of_ble_eq_true rfl), (Nat.le_of_ble_eq_true rfl)⟩) dX4_found_5 rfl rfl (Nat.le_of_ble_eq_true rfl) ⟨rfl, rfl⟩ ⟨(Nat.le_of_ble_eq_true rfl), (Nat.le_of_ble_eq_true rfl)⟩ rfl ?_
    clear hc
    refine h_iload_n (pc := 8) C dX4_found_8 rfl 1 rfl ?_
    refine h_iload_n (pc := 9) C dX4_found_9 rfl 2 rfl ?_
    refine h_iload_n (pc := 10) C dX4_found_10 rfl 3 rfl ?_
    refine h_iload (pc := 11) C dX4_found_11 4 rfl ?_
    obtain ⟨v2, hc, hf⟩ := jbd_s hf
    refine h_callP (pc := 13) (As := [.int a1, .int a2, .int a3, .int a4]) (rest := []) (st2 := .int v2 :: []) C (c_X0_of l D cT ad n a1 a2 a3 a4 v2 hc) (va_cwS 4 C.1.2.2.2.2 gX4_found_X0_of rfl rfl rfl ps_X0_of ⟨(Nat.le_of_ble_eq_true rfl), (Nat.le_of_ble_eq_true rfl)⟩) dX4_found_13 rfl rfl (Nat.le_of_ble_eq_true rfl) ⟨rfl, rfl⟩ ⟨(Nat.le_of_ble_eq_true rfl), (Nat.le_of_ble_eq_true rfl)⟩ rfl ?_
    clear hc
    refine h_istore (pc := 16) (lv' := [(6, .int v2), (0, .ref (ad 0)), (1, .int a1), (2, .int a2), (3, .int a3), (4, .int a4), (5, .int a5)]) C dX4_found_16 (by decide) rfl ?_
    refine h_iconst (pc := 18) C dX4_found_18 jc_0 ?_
    refine h_istore (pc := 19) (lv' := [(7, .int 0), (6, .int v2), (0, .ref (ad 0)), (1, .int a1), (2, .int a2), (3, .int a3), (4, .int a4), (5, .int a5)]) C dX4_found_19 (by decide) rfl ?_
    refine h_iconst (pc := 21) C dX4_found_21 jc_0 ?_
    refine h_istore (pc := 22) (lv' := [(8, .int 0), (7, .int 0), (6, .int v2), (0, .ref (ad 0)), (1, .int a1), (2, .int a2), (3, .int a3), (4, .int a4), (5, .int a5)]) C dX4_found_22 (by decide) rfl ?_
    refine h_sub [3, 8, 2, 1, 0] rfl ?_
    exact kx_X4_found_24 hX0 D cT ad C X n areas keys there order added size loads widths height ranks r k hk0 n a5 v2 0 0 hf
  · replace hf := jif_f hk hf
    have g0 := (Prod.mk.inj (Option.some.inj hf)).1
    have g1 := (Prod.mk.inj (Option.some.inj hf)).2
    clear hf
    subst g0
    subst g1
    exact h_xS (pc := 5) (As := [.int a1, .int a2, .int a3, .int a4]) (rest := []) C X.1 (x_X4_checkSides hX0 D cT ad n a1 a2 a3 a4 v1 hk hc) (va_cwS 4 C.1.2.2.2.2 gX4_found_X4_checkSides rfl rfl rfl ps_X4_checkSides ⟨(Nat.le_of_ble_eq_true rfl), (Nat.le_of_ble_eq_true rfl)⟩) dX4_found_5 rfl rfl (Nat.le_of_ble_eq_true rfl) ⟨(Nat.le_of_ble_eq_true rfl), (Nat.le_of_ble_eq_true rfl)⟩ (h_outK C X ⟨(Nat.le_of_ble_eq_true rfl), (Nat.le_of_ble_eq_true rfl)⟩)
abbrev rmX4_visits : Room := { frames := 7, cells := 0, slots := 0, locals := 119 }
theorem uX4_visits_X4 : ∀ w ∈ u_ws RX4 TX4 3, w ∈ wsX4_visits := fun w h => List.mem_cons_of_mem _ (List.mem_append_left _ (List.mem_append_left _ (List.mem_append_left _ (List.mem_append_right _ h))))
set_option maxRecDepth 100000 in
set_option maxHeartbeats 4000000 in
theorem k_X4_visits_72 {p : Program} {e : Env} {s : State} {m : MethodId} {args : Array Value} {below : List Frame} {meth : Method} {c : Code} {A : Nat → Prop} (l : Launch) (D : va_G) (cT : Nat → ClassId) (ad : Nat → Nat) (C : hC p s m args meth c cX4_visits 9 wsX4_visits RX4 D (ty4 cT) A) (hr : meth.sig.returnType = (some .int)) (n : Nat) (areas : Nat → Int32) (keys : Nat → Int32) (there : Nat → Int32) (order : Nat → Int32) (added : Int32) (size : Int32) (loads : Nat → Int32) (widths : Nat → Int32) (height : Int32) (ranks : Nat → Int32) (r : Int32) (k : Nat) (hk0 : k = 0) (k24 : Int32 → Int32 → Int32 → Option (Nat × Int32)) (K24 : ∀  (x5 : Int32) (x6 : Int32) (x7 : Int32), k24 x5 x6 x7 = some (k, r) → hS p l e rmX4_visits s m args below meth c 9 D A 0 0 (MQ below (cQ D (ty4 cT) A (some (.int r)) (wX cT ad areas keys there order added size loads widths height ranks)) args s 0 0 A) 24 [(0, .ref (ad 0)), (5, .int x5), (6, .int x6), (7, .int x7)] [] (wX cT ad areas keys there order added size loads widths height ranks)) (k39 : Int32 → Int32 → Int32 → Int32 → Option (Nat × Int32)) (K39 : ∀  (x5 : Int32) (x6 : Int32) (x7 : Int32) (x8 : Int32), k39 x5 x6 x7 x8 = some (k, r) → hS p l e rmX4_visits s m args below meth c 9 D A 0 0 (MQ below (cQ D (ty4 cT) A (some (.int r)) (wX cT ad areas keys there order added size loads widths height ranks)) args s 0 0 A) 39 [(0, .ref (ad 0)), (5, .int x5), (6, .int x6), (7, .int x7), (8, .int x8)] [] (wX cT ad areas keys there order added size loads widths height ranks)) : ∀  (x5 : Int32) (x6 : Int32) (x7 : Int32) (x8 : Int32), f_X4_visits_72 n areas order size loads widths height k24 k39 x5 x6 x7 x8 = some (k, r) → hS p l e rmX4_visits s m args below meth c 9 D A 0 0 (MQ below (cQ D (ty4 cT) A (some (.int r)) (wX cT ad areas keys there order added size loads widths height ranks)) args s 0 0 A) 72 [(0, .ref (ad 0)), (5, .int x5), (6, .int x6), (7, .int x7), (8, .int x8)] [] (wX cT ad areas keys there order added size loads widths height ranks) := by
  intro x5 x6 x7 x8 hf
  unfold f_X4_visits_72 at hf
  refine h_iinc (pc := 72) (v := x8 + 1) (lv' := [(8, .int (x8 + 1)), (0, .ref (ad 0)), (5, .int x5), (6, .int x6), (7, .int x7)]) C dX4_visits_72 4 rfl (ji_1 _) (by decide) rfl ?_
  refine h_goto (pc := 75) (tgt := 39) C dX4_visits_75 (by decide) ?_
  refine h_sub [1, 2, 3, 4, 0] rfl ?_
  exact K39 x5 x6 x7 (x8 + 1) hf
set_option maxRecDepth 100000 in
set_option maxHeartbeats 4000000 in
theorem k_X4_visits_39 {p : Program} {e : Env} {s : State} {m : MethodId} {args : Array Value} {below : List Frame} {meth : Method} {c : Code} {A : Nat → Prop} (l : Launch) (D : va_G) (cT : Nat → ClassId) (ad : Nat → Nat) (C : hC p s m args meth c cX4_visits 9 wsX4_visits RX4 D (ty4 cT) A) (hr : meth.sig.returnType = (some .int)) (n : Nat) (areas : Nat → Int32) (keys : Nat → Int32) (there : Nat → Int32) (order : Nat → Int32) (added : Int32) (size : Int32) (loads : Nat → Int32) (widths : Nat → Int32) (height : Int32) (ranks : Nat → Int32) (r : Int32) (k : Nat) (hk0 : k = 0) (k24 : Int32 → Int32 → Int32 → Option (Nat × Int32)) (K24 : ∀  (x5 : Int32) (x6 : Int32) (x7 : Int32), k24 x5 x6 x7 = some (k, r) → hS p l e rmX4_visits s m args below meth c 9 D A 0 0 (MQ below (cQ D (ty4 cT) A (some (.int r)) (wX cT ad areas keys there order added size loads widths height ranks)) args s 0 0 A) 24 [(0, .ref (ad 0)), (5, .int x5), (6, .int x6), (7, .int x7)] [] (wX cT ad areas keys there order added size loads widths height ranks)) : ∀ (fu : Nat)  (x5 : Int32) (x6 : Int32) (x7 : Int32) (x8 : Int32), f_X4_visits_39 n areas order size loads widths height k24 fu x5 x6 x7 x8 = some (k, r) → hS p l e rmX4_visits s m args below meth c 9 D A 0 0 (MQ below (cQ D (ty4 cT) A (some (.int r)) (wX cT ad areas keys there order added size loads widths height ranks)) args s 0 0 A) 39 [(0, .ref (ad 0)), (5, .int x5), (6, .int x6), (7, .int x7), (8, .int x8)] [] (wX cT ad areas keys there order added size loads widths height ranks) := by
  intro fu
  induction fu with
  | zero =>
    intro x5 x6 x7 x8 hf
    exact nomatch (show (none : Option (Nat × Int32)) = some (k, r) from hf)
  | succ fu ih =>
    intro x5 x6 x7 x8 hf
    rw [f_X4_visits_39] at hf
    refine h_iload (pc := 39) C dX4_visits_39 4 rfl ?_
    refine h_aload_n (pc := 41) C dX4_visits_41 rfl 0 rfl ?_
    refine h_get (pc := 42) (ci := 2) (C0 := RX4) (T := TX4) (N := 3) C uX4_visits_X4 rfl 0 rfl 1 (by decide) (List.mem_of_getElem? (i := 1) rfl) rfl rfl dX4_visits_42 ?_
    refine h_iload (pc := 45) C dX4_visits_45 3 rfl ?_
    obtain ⟨v4, hc, hf⟩ := jbd_s hf
    refine h_callV (pc := 47) (q0 := 6) (As := [.int x7]) (rest := .int x8 :: []) (ws' := (wX cT ad areas keys there order added size loads widths height ranks)) (st2 := .int v4 :: .int x8 :: []) C (c_X3_width l D cT ad n loads widths height x7 v4 hc) (cwV 1 C.1.2.2.2.2 gX4_visits_X3_width rfl rfl rfl pv_X3_width ⟨(Nat.le_of_ble_eq_true rfl), (Nat.le_of_ble_eq_true rfl)⟩) dX4_visits_47 rfl rfl rfl rfl rfl (Nat.le_of_ble_eq_true rfl) ⟨rfl, rfl⟩ ⟨(Nat.le_of_ble_eq_true rfl), (Nat.le_of_ble_eq_true rfl)⟩ [6, 7, 8] [0, 1, 2, 3, 4, 5, 9] [0, 1, 2, 3, 4, 5, 7, 8, 9, 6] rfl rfl rfl rfl (by decide) rfl rfl rfl ?_
    clear hc
    refine h_icmp_ge (pc := 50) (tgt := 78) C dX4_visits_50 (by decide) (fun q => ?_) (fun q => ?_)
    · replace hf := jif_t q hf
      clear q
      refine h_iinc (pc := 78) (v := x7 + 1) (lv' := [(7, .int (x7 + 1)), (0, .ref (ad 0)), (5, .int x5), (6, .int x6), (8, .int x8)]) C dX4_visits_78 3 rfl (ji_1 _) (by decide) rfl ?_
      refine h_goto (pc := 81) (tgt := 24) C dX4_visits_81 (by decide) ?_
      refine h_sub [1, 2, 3, 0] rfl ?_
      exact K24 x5 x6 (x7 + 1) hf
    · replace hf := jif_f q hf
      clear q
      refine h_aload_n (pc := 53) C dX4_visits_53 rfl 0 rfl ?_
      refine h_iload (pc := 54) C dX4_visits_54 3 rfl ?_
      refine h_iload (pc := 56) C dX4_visits_56 4 rfl ?_
      obtain ⟨v5, hc, hf⟩ := jbd_s hf
      refine h_callV (pc := 58) (q0 := 0) (As := [.int x7, .int x8]) (rest := []) (ws' := (wX cT ad areas keys there order added size loads widths height ranks)) (st2 := .int v5 :: []) C (c_X4_coverOf l D cT ad n areas keys there order added size loads widths height ranks x7 x8 v5 hc) (cwV 2 C.1.2.2.2.2 gX4_visits_X4_coverOf rfl rfl rfl pv_X4_coverOf ⟨(Nat.le_of_ble_eq_true rfl), (Nat.le_of_ble_eq_true rfl)⟩) dX4_visits_58 rfl rfl rfl rfl rfl (Nat.le_of_ble_eq_true rfl) ⟨rfl, rfl⟩ ⟨(Nat.le_of_ble_eq_true rfl), (Nat.le_of_ble_eq_true rfl)⟩ [0, 1, 2, 3, 4, 5, 6, 7, 8, 9] [] [0, 1, 2, 3, 4, 5, 6, 7, 8, 9] rfl rfl rfl rfl (by decide) rfl rfl rfl ?_
      clear hc
      refine h_iload (pc := 61) C dX4_visits_61 1 rfl ?_
      obtain ⟨v6, hc, hf⟩ := jbd_s hf
      refine h_callP (pc := 63) (As := [.int v5, .int x5]) (rest := []) (st2 := .int v6 :: []) C (c_X0_meet l D cT ad n v5 x5 v6 hc) (va_cwS 2 C.1.2.2.2.2 gX4_visits_X0_meet rfl rfl rfl ps_X0_meet ⟨(Nat.le_of_ble_eq_true rfl), (Nat.le_of_ble_eq_true rfl)⟩) dX4_visits_63 rfl rfl (Nat.le_of_ble_eq_true rfl) ⟨rfl, rfl⟩ ⟨(Nat.le_of_ble_eq_true rfl), (Nat.le_of_ble_eq_true rfl)⟩ rfl ?_
      clear hc
      refine h_if_eq (pc := 66) (tgt := 72) C dX4_visits_66 (by decide) (fun q => ?_) (fun q => ?_)
      · replace hf := jif_t q hf
        clear q
        exact k_X4_visits_72 l D cT ad C hr n areas keys there order added size loads widths height ranks r k hk0 k24 K24 (f_X4_visits_39 n areas order size loads widths height k24 fu) ih x5 x6 x7 x8 hf
      · replace hf := jif_f q hf
        clear q
        refine h_iinc (pc := 69) (v := x6 + 1) (lv' := [(6, .int (x6 + 1)), (0, .ref (ad 0)), (5, .int x5), (7, .int x7), (8, .int x8)]) C dX4_visits_69 2 rfl (ji_1 _) (by decide) rfl ?_
        refine h_sub [1, 2, 0, 3, 4] rfl ?_
        exact k_X4_visits_72 l D cT ad C hr n areas keys there order added size loads widths height ranks r k hk0 k24 K24 (f_X4_visits_39 n areas order size loads widths height k24 fu) ih x5 (x6 + 1) x7 x8 hf
set_option maxRecDepth 100000 in
set_option maxHeartbeats 4000000 in
theorem k_X4_visits_24 {p : Program} {e : Env} {s : State} {m : MethodId} {args : Array Value} {below : List Frame} {meth : Method} {c : Code} {A : Nat → Prop} (l : Launch) (D : va_G) (cT : Nat → ClassId) (ad : Nat → Nat) (C : hC p s m args meth c cX4_visits 9 wsX4_visits RX4 D (ty4 cT) A) (hr : meth.sig.returnType = (some .int)) (n : Nat) (areas : Nat → Int32) (keys : Nat → Int32) (there : Nat → Int32) (order : Nat → Int32) (added : Int32) (size : Int32) (loads : Nat → Int32) (widths : Nat → Int32) (height : Int32) (ranks : Nat → Int32) (r : Int32) (k : Nat) (hk0 : k = 0)  : ∀ (fu : Nat)  (x5 : Int32) (x6 : Int32) (x7 : Int32), f_X4_visits_24 n areas order size loads widths height fu x5 x6 x7 = some (k, r) → hS p l e rmX4_visits s m args below meth c 9 D A 0 0 (MQ below (cQ D (ty4 cT) A (some (.int r)) (wX cT ad areas keys there order added size loads widths height ranks)) args s 0 0 A) 24 [(0, .ref (ad 0)), (5, .int x5), (6, .int x6), (7, .int x7)] [] (wX cT ad areas keys there order added size loads widths height ranks) := by
  intro fu
  induction fu with
  | zero =>
    intro x5 x6 x7 hf
    exact nomatch (show (none : Option (Nat × Int32)) = some (k, r) from hf)
  | succ fu ih =>
    intro x5 x6 x7 hf
    rw [f_X4_visits_24] at hf
    refine h_iload (pc := 24) C dX4_visits_24 3 rfl ?_
    refine h_aload_n (pc := 26) C dX4_visits_26 rfl 0 rfl ?_
    refine h_get (pc := 27) (ci := 2) (C0 := RX4) (T := TX4) (N := 3) C uX4_visits_X4 rfl 0 rfl 1 (by decide) (List.mem_of_getElem? (i := 1) rfl) rfl rfl dX4_visits_27 ?_
    obtain ⟨v3, hc, hf⟩ := jbd_s hf
    refine h_callV (pc := 30) (q0 := 6) (As := []) (rest := .int x7 :: []) (ws' := (wX cT ad areas keys there order added size loads widths height ranks)) (st2 := .int v3 :: .int x7 :: []) C (c_X3_height l D cT ad n loads widths height v3 hc) (cwV 0 C.1.2.2.2.2 gX4_visits_X3_height rfl rfl rfl pv_X3_height ⟨(Nat.le_of_ble_eq_true rfl), (Nat.le_of_ble_eq_true rfl)⟩) dX4_visits_30 rfl rfl rfl rfl rfl (Nat.le_of_ble_eq_true rfl) ⟨rfl, rfl⟩ ⟨(Nat.le_of_ble_eq_true rfl), (Nat.le_of_ble_eq_true rfl)⟩ [6, 7, 8] [0, 1, 2, 3, 4, 5, 9] [0, 1, 2, 3, 4, 5, 7, 8, 9, 6] rfl rfl rfl rfl (by decide) rfl rfl rfl ?_
    clear hc
    refine h_icmp_ge (pc := 33) (tgt := 84) C dX4_visits_33 (by decide) (fun q => ?_) (fun q => ?_)
    · replace hf := jif_t q hf
      clear q
      refine h_iload (pc := 84) C dX4_visits_84 2 rfl ?_
      have g0 := (Prod.mk.inj (Option.some.inj hf)).1
      have g1 := (Prod.mk.inj (Option.some.inj hf)).2
      clear hf
      subst g0
      subst g1
      exact h_iret C hr dX4_visits_86
    · replace hf := jif_f q hf
      clear q
      refine h_iconst (pc := 36) C dX4_visits_36 jc_0 ?_
      refine h_istore (pc := 37) (lv' := [(8, .int 0), (0, .ref (ad 0)), (5, .int x5), (6, .int x6), (7, .int x7)]) C dX4_visits_37 (by decide) rfl ?_
      refine h_sub [1, 2, 3, 4, 0] rfl ?_
      exact k_X4_visits_39 l D cT ad C hr n areas keys there order added size loads widths height ranks r k hk0 (f_X4_visits_24 n areas order size loads widths height fu) ih n x5 x6 x7 0 hf
set_option maxRecDepth 100000 in
set_option maxHeartbeats 4000000 in
theorem c_X4_visits (l : Launch) (D : va_G) (cT : Nat → ClassId) (ad : Nat → Nat) (n : Nat) (areas : Nat → Int32) (keys : Nat → Int32) (there : Nat → Int32) (order : Nat → Int32) (added : Int32) (size : Int32) (loads : Nat → Int32) (widths : Nat → Int32) (height : Int32) (ranks : Nat → Int32) (a1 : Int32) (a2 : Int32) (a3 : Int32) (a4 : Int32) (r : Int32) (k : Nat) (hk0 : k = 0) (hf : f_X4_visits n areas order size loads widths height a1 a2 a3 a4 = some (k, r)) : cM l yX4_visits wsX4_visits rmX4_visits D (ty4 cT) [.ref (ad 0), .int a1, .int a2, .int a3, .int a4] (wX cT ad areas keys there order added size loads widths height ranks) (some (.int r)) (wX cT ad areas keys there order added size loads widths height ranks) := by
  refine cM_of (cc := cX4_visits) (maxL := 9) (ret := (some .int)) (own := RX4) (lv := [(0, .ref (ad 0)), (1, .int a1), (2, .int a2), (3, .int a3), (4, .int a4)]) (by decide) rfl (Nat.le_of_ble_eq_true rfl) rfl rfl ?_
  intro p e s m args below meth c A C hr
  unfold f_X4_visits at hf
  refine h_iload_n (pc := 0) C dX4_visits_0 rfl 1 rfl ?_
  refine h_iload_n (pc := 1) C dX4_visits_1 rfl 2 rfl ?_
  refine h_iload_n (pc := 2) C dX4_visits_2 rfl 3 rfl ?_
  refine h_iload (pc := 3) C dX4_visits_3 4 rfl ?_
  obtain ⟨v1, hc, hf⟩ := jbd_s hf
  by_cases hk : v1 = 0
  · replace hf := jif_t hk hf
    refine h_callP (pc := 5) (As := [.int a1, .int a2, .int a3, .int a4]) (rest := []) (st2 := []) C (c_X4_checkSides l D cT ad n a1 a2 a3 a4 v1 hk hc) (va_cwS 4 C.1.2.2.2.2 gX4_visits_X4_checkSides rfl rfl rfl ps_X4_checkSides ⟨(Nat.le_of_ble_eq_true rfl), (Nat.le_of_ble_eq_true rfl)⟩) dX4_visits_5 rfl rfl (Nat.le_of_ble_eq_true rfl) ⟨rfl, rfl⟩ ⟨(Nat.le_of_ble_eq_true rfl), (Nat.le_of_ble_eq_true rfl)⟩ rfl ?_
    clear hc
    refine h_iload_n (pc := 8) C dX4_visits_8 rfl 1 rfl ?_
    refine h_iload_n (pc := 9) C dX4_visits_9 rfl 2 rfl ?_
    refine h_iload_n (pc := 10) C dX4_visits_10 rfl 3 rfl ?_
    refine h_iload (pc := 11) C dX4_visits_11 4 rfl ?_
    obtain ⟨v2, hc, hf⟩ := jbd_s hf
    refine h_callP (pc := 13) (As := [.int a1, .int a2, .int a3, .int a4]) (rest := []) (st2 := .int v2 :: []) C (c_X0_of l D cT ad n a1 a2 a3 a4 v2 hc) (va_cwS 4 C.1.2.2.2.2 gX4_visits_X0_of rfl rfl rfl ps_X0_of ⟨(Nat.le_of_ble_eq_true rfl), (Nat.le_of_ble_eq_true rfl)⟩) dX4_visits_13 rfl rfl (Nat.le_of_ble_eq_true rfl) ⟨rfl, rfl⟩ ⟨(Nat.le_of_ble_eq_true rfl), (Nat.le_of_ble_eq_true rfl)⟩ rfl ?_
    clear hc
    refine h_istore (pc := 16) (lv' := [(5, .int v2), (0, .ref (ad 0)), (1, .int a1), (2, .int a2), (3, .int a3), (4, .int a4)]) C dX4_visits_16 (by decide) rfl ?_
    refine h_iconst (pc := 18) C dX4_visits_18 jc_0 ?_
    refine h_istore (pc := 19) (lv' := [(6, .int 0), (5, .int v2), (0, .ref (ad 0)), (1, .int a1), (2, .int a2), (3, .int a3), (4, .int a4)]) C dX4_visits_19 (by decide) rfl ?_
    refine h_iconst (pc := 21) C dX4_visits_21 jc_0 ?_
    refine h_istore (pc := 22) (lv' := [(7, .int 0), (6, .int 0), (5, .int v2), (0, .ref (ad 0)), (1, .int a1), (2, .int a2), (3, .int a3), (4, .int a4)]) C dX4_visits_22 (by decide) rfl ?_
    refine h_sub [3, 2, 1, 0] rfl ?_
    exact k_X4_visits_24 l D cT ad C hr n areas keys there order added size loads widths height ranks r k hk0 n v2 0 0 hf
  · replace hf := jif_f hk hf
    exact absurd ((Prod.mk.inj (Option.some.inj hf)).1.trans hk0) hk
theorem pv_X4_visits : yX4_visits.cls = RX4 ∧ yX4_visits.cls ≠ "java/lang/invoke/MethodHandle" ∧ yX4_visits.cls ≠ "java/lang/invoke/VarHandle" ∧ (parseMethodDescriptor yX4_visits.desc).map (fun d => d.parameters.length) = some 4 := by decide +kernel
abbrev rxX4_visits : Room := { frames := 7, cells := 1, slots := 6, locals := 119 }
set_option maxRecDepth 100000 in
set_option maxHeartbeats 4000000 in
theorem kx_X4_visits_72 {p : Program} {e : Env} {s : State} {m : MethodId} {args : Array Value} {below : List Frame} {meth : Method} {c : Code} {A : Nat → Prop} {l : Launch} (hX0 : l.stackTraces = false) (D : va_G) (cT : Nat → ClassId) (ad : Nat → Nat) (C : hC p s m args meth c cX4_visits 9 wsX4_visits RX4 D (ty4 cT) A) (X : hX l s c A) (n : Nat) (areas : Nat → Int32) (keys : Nat → Int32) (there : Nat → Int32) (order : Nat → Int32) (added : Int32) (size : Int32) (loads : Nat → Int32) (widths : Nat → Int32) (height : Int32) (ranks : Nat → Int32) (r : Int32) (k : Nat) (hk0 : ¬ k = 0) (k24 : Int32 → Int32 → Int32 → Option (Nat × Int32)) (K24 : ∀  (x5 : Int32) (x6 : Int32) (x7 : Int32), k24 x5 x6 x7 = some (k, r) → hS p l e rxX4_visits s m args below meth c 9 D A 0 0 (vx_MQ below (fun _ _ _ _ => False) (xX D (ty4 cT) A (xE k) (wX cT ad areas keys there order added size loads widths height ranks)) args s 1 6 A) 24 [(0, .ref (ad 0)), (5, .int x5), (6, .int x6), (7, .int x7)] [] (wX cT ad areas keys there order added size loads widths height ranks)) (k39 : Int32 → Int32 → Int32 → Int32 → Option (Nat × Int32)) (K39 : ∀  (x5 : Int32) (x6 : Int32) (x7 : Int32) (x8 : Int32), k39 x5 x6 x7 x8 = some (k, r) → hS p l e rxX4_visits s m args below meth c 9 D A 0 0 (vx_MQ below (fun _ _ _ _ => False) (xX D (ty4 cT) A (xE k) (wX cT ad areas keys there order added size loads widths height ranks)) args s 1 6 A) 39 [(0, .ref (ad 0)), (5, .int x5), (6, .int x6), (7, .int x7), (8, .int x8)] [] (wX cT ad areas keys there order added size loads widths height ranks)) : ∀  (x5 : Int32) (x6 : Int32) (x7 : Int32) (x8 : Int32), f_X4_visits_72 n areas order size loads widths height k24 k39 x5 x6 x7 x8 = some (k, r) → hS p l e rxX4_visits s m args below meth c 9 D A 0 0 (vx_MQ below (fun _ _ _ _ => False) (xX D (ty4 cT) A (xE k) (wX cT ad areas keys there order added size loads widths height ranks)) args s 1 6 A) 72 [(0, .ref (ad 0)), (5, .int x5), (6, .int x6), (7, .int x7), (8, .int x8)] [] (wX cT ad areas keys there order added size loads widths height ranks) := by
  intro x5 x6 x7 x8 hf
  unfold f_X4_visits_72 at hf
  refine h_iinc (pc := 72) (v := x8 + 1) (lv' := [(8, .int (x8 + 1)), (0, .ref (ad 0)), (5, .int x5), (6, .int x6), (7, .int x7)]) C dX4_visits_72 4 rfl (ji_1 _) (by decide) rfl ?_
  refine h_goto (pc := 75) (tgt := 39) C dX4_visits_75 (by decide) ?_
  refine h_sub [1, 2, 3, 4, 0] rfl ?_
  exact K39 x5 x6 x7 (x8 + 1) hf
set_option maxRecDepth 100000 in
set_option maxHeartbeats 4000000 in
theorem kx_X4_visits_39 {p : Program} {e : Env} {s : State} {m : MethodId} {args : Array Value} {below : List Frame} {meth : Method} {c : Code} {A : Nat → Prop} {l : Launch} (hX0 : l.stackTraces = false) (D : va_G) (cT : Nat → ClassId) (ad : Nat → Nat) (C : hC p s m args meth c cX4_visits 9 wsX4_visits RX4 D (ty4 cT) A) (X : hX l s c A) (n : Nat) (areas : Nat → Int32) (keys : Nat → Int32) (there : Nat → Int32) (order : Nat → Int32) (added : Int32) (size : Int32) (loads : Nat → Int32) (widths : Nat → Int32) (height : Int32) (ranks : Nat → Int32) (r : Int32) (k : Nat) (hk0 : ¬ k = 0) (k24 : Int32 → Int32 → Int32 → Option (Nat × Int32)) (K24 : ∀  (x5 : Int32) (x6 : Int32) (x7 : Int32), k24 x5 x6 x7 = some (k, r) → hS p l e rxX4_visits s m args below meth c 9 D A 0 0 (vx_MQ below (fun _ _ _ _ => False) (xX D (ty4 cT) A (xE k) (wX cT ad areas keys there order added size loads widths height ranks)) args s 1 6 A) 24 [(0, .ref (ad 0)), (5, .int x5), (6, .int x6), (7, .int x7)] [] (wX cT ad areas keys there order added size loads widths height ranks)) : ∀ (fu : Nat)  (x5 : Int32) (x6 : Int32) (x7 : Int32) (x8 : Int32), f_X4_visits_39 n areas order size loads widths height k24 fu x5 x6 x7 x8 = some (k, r) → hS p l e rxX4_visits s m args below meth c 9 D A 0 0 (vx_MQ below (fun _ _ _ _ => False) (xX D (ty4 cT) A (xE k) (wX cT ad areas keys there order added size loads widths height ranks)) args s 1 6 A) 39 [(0, .ref (ad 0)), (5, .int x5), (6, .int x6), (7, .int x7), (8, .int x8)] [] (wX cT ad areas keys there order added size loads widths height ranks) := by
  intro fu
  induction fu with
  | zero =>
    intro x5 x6 x7 x8 hf
    exact nomatch (show (none : Option (Nat × Int32)) = some (k, r) from hf)
  | succ fu ih =>
    intro x5 x6 x7 x8 hf
    rw [f_X4_visits_39] at hf
    refine h_iload (pc := 39) C dX4_visits_39 4 rfl ?_
    refine h_aload_n (pc := 41) C dX4_visits_41 rfl 0 rfl ?_
    refine h_get (pc := 42) (ci := 2) (C0 := RX4) (T := TX4) (N := 3) C uX4_visits_X4 rfl 0 rfl 1 (by decide) (List.mem_of_getElem? (i := 1) rfl) rfl rfl dX4_visits_42 ?_
    refine h_iload (pc := 45) C dX4_visits_45 3 rfl ?_
    obtain ⟨v4, hc, hf⟩ := jbd_s hf
    refine h_callV (pc := 47) (q0 := 6) (As := [.int x7]) (rest := .int x8 :: []) (ws' := (wX cT ad areas keys there order added size loads widths height ranks)) (st2 := .int v4 :: .int x8 :: []) C (c_X3_width l D cT ad n loads widths height x7 v4 hc) (cwV 1 C.1.2.2.2.2 gX4_visits_X3_width rfl rfl rfl pv_X3_width ⟨(Nat.le_of_ble_eq_true rfl), (Nat.le_of_ble_eq_true rfl)⟩) dX4_visits_47 rfl rfl rfl rfl rfl (Nat.le_of_ble_eq_true rfl) ⟨rfl, rfl⟩ ⟨(Nat.le_of_ble_eq_true rfl), (Nat.le_of_ble_eq_true rfl)⟩ [6, 7, 8] [0, 1, 2, 3, 4, 5, 9] [0, 1, 2, 3, 4, 5, 7, 8, 9, 6] rfl rfl rfl rfl (by decide) rfl rfl rfl ?_
    clear hc
    refine h_icmp_ge (pc := 50) (tgt := 78) C dX4_visits_50 (by decide) (fun q => ?_) (fun q => ?_)
    · replace hf := jif_t q hf
      clear q
      refine h_iinc (pc := 78) (v := x7 + 1) (lv' := [(7, .int (x7 + 1)), (0, .ref (ad 0)), (5, .int x5), (6, .int x6), (8, .int x8)]) C dX4_visits_78 3 rfl (ji_1 _) (by decide) rfl ?_
      refine h_goto (pc := 81) (tgt := 24) C dX4_visits_81 (by decide) ?_
      refine h_sub [1, 2, 3, 0] rfl ?_
      exact K24 x5 x6 (x7 + 1) hf
    · replace hf := jif_f q hf
      clear q
      refine h_aload_n (pc := 53) C dX4_visits_53 rfl 0 rfl ?_
      refine h_iload (pc := 54) C dX4_visits_54 3 rfl ?_
      refine h_iload (pc := 56) C dX4_visits_56 4 rfl ?_
      obtain ⟨v5, hc, hf⟩ := jbd_s hf
      refine h_callV (pc := 58) (q0 := 0) (As := [.int x7, .int x8]) (rest := []) (ws' := (wX cT ad areas keys there order added size loads widths height ranks)) (st2 := .int v5 :: []) C (c_X4_coverOf l D cT ad n areas keys there order added size loads widths height ranks x7 x8 v5 hc) (cwV 2 C.1.2.2.2.2 gX4_visits_X4_coverOf rfl rfl rfl pv_X4_coverOf ⟨(Nat.le_of_ble_eq_true rfl), (Nat.le_of_ble_eq_true rfl)⟩) dX4_visits_58 rfl rfl rfl rfl rfl (Nat.le_of_ble_eq_true rfl) ⟨rfl, rfl⟩ ⟨(Nat.le_of_ble_eq_true rfl), (Nat.le_of_ble_eq_true rfl)⟩ [0, 1, 2, 3, 4, 5, 6, 7, 8, 9] [] [0, 1, 2, 3, 4, 5, 6, 7, 8, 9] rfl rfl rfl rfl (by decide) rfl rfl rfl ?_
      clear hc
      refine h_iload (pc := 61) C dX4_visits_61 1 rfl ?_
      obtain ⟨v6, hc, hf⟩ := jbd_s hf
      refine h_callP (pc := 63) (As := [.int v5, .int x5]) (rest := []) (st2 := .int v6 :: []) C (c_X0_meet l D cT ad n v5 x5 v6 hc) (va_cwS 2 C.1.2.2.2.2 gX4_visits_X0_meet rfl rfl rfl ps_X0_meet ⟨(Nat.le_of_ble_eq_true rfl), (Nat.le_of_ble_eq_true rfl)⟩) dX4_visits_63 rfl rfl (Nat.le_of_ble_eq_true rfl) ⟨rfl, rfl⟩ ⟨(Nat.le_of_ble_eq_true rfl), (Nat.le_of_ble_eq_true rfl)⟩ rfl ?_
      clear hc
      refine h_if_eq (pc := 66) (tgt := 72) C dX4_visits_66 (by decide) (fun q => ?_) (fun q => ?_)
      · replace hf := jif_t q hf
        clear q
        exact kx_X4_visits_72 hX0 D cT ad C X n areas keys there order added size loads widths height ranks r k hk0 k24 K24 (f_X4_visits_39 n areas order size loads widths height k24 fu) ih x5 x6 x7 x8 hf
      · replace hf := jif_f q hf
        clear q
        refine h_iinc (pc := 69) (v := x6 + 1) (lv' := [(6, .int (x6 + 1)), (0, .ref (ad 0)), (5, .int x5), (7, .int x7), (8, .int x8)]) C dX4_visits_69 2 rfl (ji_1 _) (by decide) rfl ?_
        refine h_sub [1, 2, 0, 3, 4] rfl ?_
        exact kx_X4_visits_72 hX0 D cT ad C X n areas keys there order added size loads widths height ranks r k hk0 k24 K24 (f_X4_visits_39 n areas order size loads widths height k24 fu) ih x5 (x6 + 1) x7 x8 hf
set_option maxRecDepth 100000 in
set_option maxHeartbeats 4000000 in
theorem kx_X4_visits_24 {p : Program} {e : Env} {s : State} {m : MethodId} {args : Array Value} {below : List Frame} {meth : Method} {c : Code} {A : Nat → Prop} {l : Launch} (hX0 : l.stackTraces = false) (D : va_G) (cT : Nat → ClassId) (ad : Nat → Nat) (C : hC p s m args meth c cX4_visits 9 wsX4_visits RX4 D (ty4 cT) A) (X : hX l s c A) (n : Nat) (areas : Nat → Int32) (keys : Nat → Int32) (there : Nat → Int32) (order : Nat → Int32) (added : Int32) (size : Int32) (loads : Nat → Int32) (widths : Nat → Int32) (height : Int32) (ranks : Nat → Int32) (r : Int32) (k : Nat) (hk0 : ¬ k = 0)  : ∀ (fu : Nat)  (x5 : Int32) (x6 : Int32) (x7 : Int32), f_X4_visits_24 n areas order size loads widths height fu x5 x6 x7 = some (k, r) → hS p l e rxX4_visits s m args below meth c 9 D A 0 0 (vx_MQ below (fun _ _ _ _ => False) (xX D (ty4 cT) A (xE k) (wX cT ad areas keys there order added size loads widths height ranks)) args s 1 6 A) 24 [(0, .ref (ad 0)), (5, .int x5), (6, .int x6), (7, .int x7)] [] (wX cT ad areas keys there order added size loads widths height ranks) := by
  intro fu
  induction fu with
  | zero =>
    intro x5 x6 x7 hf
    exact nomatch (show (none : Option (Nat × Int32)) = some (k, r) from hf)
  | succ fu ih =>
    intro x5 x6 x7 hf
    rw [f_X4_visits_24] at hf
    refine h_iload (pc := 24) C dX4_visits_24 3 rfl ?_
    refine h_aload_n (pc := 26) C dX4_visits_26 rfl 0 rfl ?_
    refine h_get (pc := 27) (ci := 2) (C0 := RX4) (T := TX4) (N := 3) C uX4_visits_X4 rfl 0 rfl 1 (by decide) (List.mem_of_getElem? (i := 1) rfl) rfl rfl dX4_visits_27 ?_
    obtain ⟨v3, hc, hf⟩ := jbd_s hf
    refine h_callV (pc := 30) (q0 := 6) (As := []) (rest := .int x7 :: []) (ws' := (wX cT ad areas keys there order added size loads widths height ranks)) (st2 := .int v3 :: .int x7 :: []) C (c_X3_height l D cT ad n loads widths height v3 hc) (cwV 0 C.1.2.2.2.2 gX4_visits_X3_height rfl rfl rfl pv_X3_height ⟨(Nat.le_of_ble_eq_true rfl), (Nat.le_of_ble_eq_true rfl)⟩) dX4_visits_30 rfl rfl rfl rfl rfl (Nat.le_of_ble_eq_true rfl) ⟨rfl, rfl⟩ ⟨(Nat.le_of_ble_eq_true rfl), (Nat.le_of_ble_eq_true rfl)⟩ [6, 7, 8] [0, 1, 2, 3, 4, 5, 9] [0, 1, 2, 3, 4, 5, 7, 8, 9, 6] rfl rfl rfl rfl (by decide) rfl rfl rfl ?_
    clear hc
    refine h_icmp_ge (pc := 33) (tgt := 84) C dX4_visits_33 (by decide) (fun q => ?_) (fun q => ?_)
    · replace hf := jif_t q hf
      clear q
      refine h_iload (pc := 84) C dX4_visits_84 2 rfl ?_
      exact absurd (Prod.mk.inj (Option.some.inj hf)).1.symm hk0
    · replace hf := jif_f q hf
      clear q
      refine h_iconst (pc := 36) C dX4_visits_36 jc_0 ?_
      refine h_istore (pc := 37) (lv' := [(8, .int 0), (0, .ref (ad 0)), (5, .int x5), (6, .int x6), (7, .int x7)]) C dX4_visits_37 (by decide) rfl ?_
      refine h_sub [1, 2, 3, 4, 0] rfl ?_
      exact kx_X4_visits_39 hX0 D cT ad C X n areas keys there order added size loads widths height ranks r k hk0 (f_X4_visits_24 n areas order size loads widths height fu) ih n x5 x6 x7 0 hf
set_option maxRecDepth 100000 in
set_option maxHeartbeats 4000000 in
theorem x_X4_visits {l : Launch} (hX0 : l.stackTraces = false) (D : va_G) (cT : Nat → ClassId) (ad : Nat → Nat) (n : Nat) (areas : Nat → Int32) (keys : Nat → Int32) (there : Nat → Int32) (order : Nat → Int32) (added : Int32) (size : Int32) (loads : Nat → Int32) (widths : Nat → Int32) (height : Int32) (ranks : Nat → Int32) (a1 : Int32) (a2 : Int32) (a3 : Int32) (a4 : Int32) (r : Int32) (k : Nat) (hk0 : ¬ k = 0) (hf : f_X4_visits n areas order size loads widths height a1 a2 a3 a4 = some (k, r)) : xM l yX4_visits wsX4_visits rxX4_visits D (ty4 cT) [.ref (ad 0), .int a1, .int a2, .int a3, .int a4] (wX cT ad areas keys there order added size loads widths height ranks) (xE k) (wX cT ad areas keys there order added size loads widths height ranks) := by
  refine xM_of (cc := cX4_visits) (maxL := 9) (ret := (some .int)) (own := RX4) (lv := [(0, .ref (ad 0)), (1, .int a1), (2, .int a2), (3, .int a3), (4, .int a4)]) hX0 (by decide) rfl (Nat.le_of_ble_eq_true rfl) rfl rfl ?_
  intro p e s m args below meth c A C X
  unfold f_X4_visits at hf
  refine h_iload_n (pc := 0) C dX4_visits_0 rfl 1 rfl ?_
  refine h_iload_n (pc := 1) C dX4_visits_1 rfl 2 rfl ?_
  refine h_iload_n (pc := 2) C dX4_visits_2 rfl 3 rfl ?_
  refine h_iload (pc := 3) C dX4_visits_3 4 rfl ?_
  obtain ⟨v1, hc, hf⟩ := jbd_s hf
  by_cases hk : v1 = 0
  · replace hf := jif_t hk hf
    refine h_callP (pc := 5) (As := [.int a1, .int a2, .int a3, .int a4]) (rest := []) (st2 := []) C (c_X4_checkSides l D cT ad n a1 a2 a3 a4 v1 hk hc) (va_cwS 4 C.1.2.2.2.2 gX4_visits_X4_checkSides rfl rfl rfl ps_X4_checkSides ⟨(Nat.le_of_ble_eq_true rfl), (Nat.le_of_ble_eq_true rfl)⟩) dX4_visits_5 rfl rfl (Nat.le_of_ble_eq_true rfl) ⟨rfl, rfl⟩ ⟨(Nat.le_of_ble_eq_true rfl), (Nat.le_of_ble_eq_true rfl)⟩ rfl ?_
    clear hc
    refine h_iload_n (pc := 8) C dX4_visits_8 rfl 1 rfl ?_
    refine h_iload_n (pc := 9) C dX4_visits_9 rfl 2 rfl ?_
    refine h_iload_n (pc := 10) C dX4_visits_10 rfl 3 rfl ?_
    refine h_iload (pc := 11) C dX4_visits_11 4 rfl ?_
    obtain ⟨v2, hc, hf⟩ := jbd_s hf
    refine h_callP (pc := 13) (As := [.int a1, .int a2, .int a3, .int a4]) (rest := []) (st2 := .int v2 :: []) C (c_X0_of l D cT ad n a1 a2 a3 a4 v2 hc) (va_cwS 4 C.1.2.2.2.2 gX4_visits_X0_of rfl rfl rfl ps_X0_of ⟨(Nat.le_of_ble_eq_true rfl), (Nat.le_of_ble_eq_true rfl)⟩) dX4_visits_13 rfl rfl (Nat.le_of_ble_eq_true rfl) ⟨rfl, rfl⟩ ⟨(Nat.le_of_ble_eq_true rfl), (Nat.le_of_ble_eq_true rfl)⟩ rfl ?_
    clear hc
    refine h_istore (pc := 16) (lv' := [(5, .int v2), (0, .ref (ad 0)), (1, .int a1), (2, .int a2), (3, .int a3), (4, .int a4)]) C dX4_visits_16 (by decide) rfl ?_
    refine h_iconst (pc := 18) C dX4_visits_18 jc_0 ?_
    refine h_istore (pc := 19) (lv' := [(6, .int 0), (5, .int v2), (0, .ref (ad 0)), (1, .int a1), (2, .int a2), (3, .int a3), (4, .int a4)]) C dX4_visits_19 (by decide) rfl ?_
    refine h_iconst (pc := 21) C dX4_visits_21 jc_0 ?_
    refine h_istore (pc := 22) (lv' := [(7, .int 0), (6, .int 0), (5, .int v2), (0, .ref (ad 0)), (1, .int a1), (2, .int a2), (3, .int a3), (4, .int a4)]) C dX4_visits_22 (by decide) rfl ?_
    refine h_sub [3, 2, 1, 0] rfl ?_
    exact kx_X4_visits_24 hX0 D cT ad C X n areas keys there order added size loads widths height ranks r k hk0 n v2 0 0 hf
  · replace hf := jif_f hk hf
    have g0 := (Prod.mk.inj (Option.some.inj hf)).1
    have g1 := (Prod.mk.inj (Option.some.inj hf)).2
    clear hf
    subst g0
    subst g1
    exact h_xS (pc := 5) (As := [.int a1, .int a2, .int a3, .int a4]) (rest := []) C X.1 (x_X4_checkSides hX0 D cT ad n a1 a2 a3 a4 v1 hk hc) (va_cwS 4 C.1.2.2.2.2 gX4_visits_X4_checkSides rfl rfl rfl ps_X4_checkSides ⟨(Nat.le_of_ble_eq_true rfl), (Nat.le_of_ble_eq_true rfl)⟩) dX4_visits_5 rfl rfl (Nat.le_of_ble_eq_true rfl) ⟨(Nat.le_of_ble_eq_true rfl), (Nat.le_of_ble_eq_true rfl)⟩ (h_outK C X ⟨(Nat.le_of_ble_eq_true rfl), (Nat.le_of_ble_eq_true rfl)⟩)
abbrev rmX4_rankByDistance : Room := { frames := 3, cells := 0, slots := 0, locals := 67 }
theorem uX4_rankByDistance_X4 : ∀ w ∈ u_ws RX4 TX4 3, w ∈ wsX4_rankByDistance := fun w h => List.mem_cons_of_mem _ (List.mem_append_left _ (List.mem_append_right _ h))
set_option maxRecDepth 100000 in
set_option maxHeartbeats 4000000 in
theorem k_X4_rankByDistance_2 {p : Program} {e : Env} {s : State} {m : MethodId} {args : Array Value} {below : List Frame} {meth : Method} {c : Code} {A : Nat → Prop} (l : Launch) (D : va_G) (cT : Nat → ClassId) (ad : Nat → Nat) (C : hC p s m args meth c cX4_rankByDistance 5 wsX4_rankByDistance RX4 D (ty4 cT) A) (hr : meth.sig.returnType = none) (n : Nat) (areas : Nat → Int32) (keys : Nat → Int32) (there : Nat → Int32) (order : Nat → Int32) (added : Int32) (size : Int32) (loads : Nat → Int32) (widths : Nat → Int32) (height : Int32) (ranks' : Nat → Int32)  : ∀ (fu : Nat) (ranks : Nat → Int32) (x1 : Int32) (x2 : Int32) (x3 : Int32), f_X4_rankByDistance_2 n areas order size fu ranks x1 x2 x3 = some ranks' → hS p l e rmX4_rankByDistance s m args below meth c 5 D A 0 0 (MQ below (cQ D (ty4 cT) A none (wX cT ad areas keys there order added size loads widths height ranks')) args s 0 0 A) 2 [(0, .ref (ad 0)), (1, .int x1), (2, .int x2), (3, .int x3)] [] (wX cT ad areas keys there order added size loads widths height ranks) := by
  intro fu
  induction fu with
  | zero =>
    intro ranks x1 x2 x3 hf
    exact nomatch (show (none : Option ((Nat → Int32))) = some ranks' from hf)
  | succ fu ih =>
    intro ranks x1 x2 x3 hf
    rw [f_X4_rankByDistance_2] at hf
    refine h_iload_n (pc := 2) C dX4_rankByDistance_2 rfl 3 rfl ?_
    refine h_aload_n (pc := 3) C dX4_rankByDistance_3 rfl 0 rfl ?_
    refine h_get (pc := 4) (ci := 2) (C0 := RX4) (T := TX4) (N := 3) C uX4_rankByDistance_X4 rfl 0 rfl 2 (by decide) (List.mem_of_getElem? (i := 1) rfl) rfl rfl dX4_rankByDistance_4 ?_
    refine h_alen (pc := 7) (v := 60) C 9 0 rfl rfl (by decide) dX4_rankByDistance_7 ?_
    refine h_icmp_ge (pc := 8) (tgt := 63) C dX4_rankByDistance_8 (by decide) (fun q => ?_) (fun q => ?_)
    · replace hf := jif_t q hf
      clear q
      have g0 := (Option.some.inj hf)
      clear hf
      subst g0
      exact h_vret C hr dX4_rankByDistance_63
    · replace hf := jif_f q hf
      clear q
      refine h_iload_n (pc := 11) C dX4_rankByDistance_11 rfl 3 rfl ?_
      refine h_aload_n (pc := 12) C dX4_rankByDistance_12 rfl 0 rfl ?_
      refine h_get (pc := 13) (ci := 2) (C0 := RX4) (T := TX4) (N := 3) C uX4_rankByDistance_X4 rfl 0 rfl 0 (by decide) (List.mem_of_getElem? (i := 2) rfl) rfl rfl dX4_rankByDistance_13 ?_
      obtain ⟨v1, hc, hf⟩ := jbd_s hf
      refine h_callV (pc := 16) (q0 := 1) (As := []) (rest := .int x3 :: []) (ws' := (wX cT ad areas keys there order added size loads widths height ranks)) (st2 := .int v1 :: .int x3 :: []) C (c_X2_size l D cT ad n areas keys there order added size v1 hc) (cwV 0 C.1.2.2.2.2 gX4_rankByDistance_X2_size rfl rfl rfl pv_X2_size ⟨(Nat.le_of_ble_eq_true rfl), (Nat.le_of_ble_eq_true rfl)⟩) dX4_rankByDistance_16 rfl rfl rfl rfl rfl (Nat.le_of_ble_eq_true rfl) ⟨rfl, rfl⟩ ⟨(Nat.le_of_ble_eq_true rfl), (Nat.le_of_ble_eq_true rfl)⟩ [1, 2, 3, 4, 5] [0, 6, 7, 8, 9] [0, 5, 6, 7, 8, 9, 1, 2, 3, 4] rfl rfl rfl rfl (by decide) rfl rfl rfl ?_
      clear hc
      refine h_icmp_ge (pc := 19) (tgt := 63) C dX4_rankByDistance_19 (by decide) (fun q => ?_) (fun q => ?_)
      · replace hf := jif_t q hf
        clear q
        have g0 := (Option.some.inj hf)
        clear hf
        subst g0
        exact h_vret C hr dX4_rankByDistance_63
      · replace hf := jif_f q hf
        clear q
        refine h_aload_n (pc := 22) C dX4_rankByDistance_22 rfl 0 rfl ?_
        refine h_get (pc := 23) (ci := 2) (C0 := RX4) (T := TX4) (N := 3) C uX4_rankByDistance_X4 rfl 0 rfl 0 (by decide) (List.mem_of_getElem? (i := 2) rfl) rfl rfl dX4_rankByDistance_23 ?_
        refine h_iload_n (pc := 26) C dX4_rankByDistance_26 rfl 3 rfl ?_
        obtain ⟨v2, hc, hf⟩ := jbd_s hf
        refine h_callV (pc := 27) (q0 := 1) (As := [.int x3]) (rest := []) (ws' := (wX cT ad areas keys there order added size loads widths height ranks)) (st2 := .int v2 :: []) C (c_X2_areaAt l D cT ad n areas keys there order added size x3 v2 hc) (cwV 1 C.1.2.2.2.2 gX4_rankByDistance_X2_areaAt rfl rfl rfl pv_X2_areaAt ⟨(Nat.le_of_ble_eq_true rfl), (Nat.le_of_ble_eq_true rfl)⟩) dX4_rankByDistance_27 rfl rfl rfl rfl rfl (Nat.le_of_ble_eq_true rfl) ⟨rfl, rfl⟩ ⟨(Nat.le_of_ble_eq_true rfl), (Nat.le_of_ble_eq_true rfl)⟩ [1, 2, 3, 4, 5] [0, 6, 7, 8, 9] [0, 5, 6, 7, 8, 9, 1, 2, 3, 4] rfl rfl rfl rfl (by decide) rfl rfl rfl ?_
        clear hc
        refine h_iload_n (pc := 30) C dX4_rankByDistance_30 rfl 1 rfl ?_
        refine h_iload_n (pc := 31) C dX4_rankByDistance_31 rfl 2 rfl ?_
        obtain ⟨v3, hc, hf⟩ := jbd_s hf
        refine h_callP (pc := 32) (As := [.int v2, .int x1, .int x2]) (rest := []) (st2 := .int v3 :: []) C (c_X0_distanceFrom l D cT ad n v2 x1 x2 v3 hc) (va_cwS 3 C.1.2.2.2.2 gX4_rankByDistance_X0_distanceFrom rfl rfl rfl ps_X0_distanceFrom ⟨(Nat.le_of_ble_eq_true rfl), (Nat.le_of_ble_eq_true rfl)⟩) dX4_rankByDistance_32 rfl rfl (Nat.le_of_ble_eq_true rfl) ⟨rfl, rfl⟩ ⟨(Nat.le_of_ble_eq_true rfl), (Nat.le_of_ble_eq_true rfl)⟩ rfl ?_
        clear hc
        refine h_istore (pc := 35) (lv' := [(4, .int v3), (0, .ref (ad 0)), (1, .int x1), (2, .int x2), (3, .int x3)]) C dX4_rankByDistance_35 (by decide) rfl ?_
        refine h_aload_n (pc := 37) C dX4_rankByDistance_37 rfl 1 rfl ?_
        refine h_get (pc := 38) (ci := 2) (C0 := RX4) (T := TX4) (N := 3) C uX4_rankByDistance_X4 rfl 0 rfl 2 (by decide) (List.mem_of_getElem? (i := 1) rfl) rfl rfl dX4_rankByDistance_38 ?_
        refine h_iload_n (pc := 41) C dX4_rankByDistance_41 rfl 4 rfl ?_
        refine h_iload (pc := 42) C dX4_rankByDistance_42 0 rfl ?_
        refine h_bipush (pc := 44) C dX4_rankByDistance_44 jb_100 ?_
        refine h_imul (pc := 46) C dX4_rankByDistance_46 ?_
        refine h_aload_n (pc := 47) C dX4_rankByDistance_47 rfl 1 rfl ?_
        refine h_get (pc := 48) (ci := 2) (C0 := RX4) (T := TX4) (N := 3) C uX4_rankByDistance_X4 rfl 0 rfl 0 (by decide) (List.mem_of_getElem? (i := 2) rfl) rfl rfl dX4_rankByDistance_48 ?_
        refine h_iload_n (pc := 51) C dX4_rankByDistance_51 rfl 4 rfl ?_
        obtain ⟨v4, hc, hf⟩ := jbd_s hf
        refine h_callV (pc := 52) (q0 := 1) (As := [.int x3]) (rest := .int (v3 * 100) :: .int x3 :: .ref (ad 9) :: []) (ws' := (wX cT ad areas keys there order added size loads widths height ranks)) (st2 := .int v4 :: .int (v3 * 100) :: .int x3 :: .ref (ad 9) :: []) C (c_X2_numberAt l D cT ad n areas keys there order added size x3 v4 hc) (cwV 1 C.1.2.2.2.2 gX4_rankByDistance_X2_numberAt rfl rfl rfl pv_X2_numberAt ⟨(Nat.le_of_ble_eq_true rfl), (Nat.le_of_ble_eq_true rfl)⟩) dX4_rankByDistance_52 rfl rfl rfl rfl rfl (Nat.le_of_ble_eq_true rfl) ⟨rfl, rfl⟩ ⟨(Nat.le_of_ble_eq_true rfl), (Nat.le_of_ble_eq_true rfl)⟩ [1, 2, 3, 4, 5] [0, 6, 7, 8, 9] [0, 5, 6, 7, 8, 9, 1, 2, 3, 4] rfl rfl rfl rfl (by decide) rfl rfl rfl ?_
        clear hc
        refine h_iadd (pc := 55) C dX4_rankByDistance_55 ?_
        obtain ⟨hi, w5, hv, hf⟩ := jwr_s hf
        refine h_iast (pc := 56) (ws' := (wX cT ad areas keys there order added size loads widths height w5)) C 9 0 rfl rfl hi hv rfl dX4_rankByDistance_56 ?_
        clear hi hv
        refine h_iinc (pc := 57) (v := x3 + 1) (lv' := [(3, .int (x3 + 1)), (4, .int v3), (0, .ref (ad 0)), (1, .int x1), (2, .int x2)]) C dX4_rankByDistance_57 4 rfl (ji_1 _) (by decide) rfl ?_
        refine h_goto (pc := 60) (tgt := 2) C dX4_rankByDistance_60 (by decide) ?_
        refine h_sub [2, 3, 4, 0] rfl ?_
        exact ih w5 x1 x2 (x3 + 1) hf
set_option maxRecDepth 100000 in
set_option maxHeartbeats 4000000 in
theorem c_X4_rankByDistance (l : Launch) (D : va_G) (cT : Nat → ClassId) (ad : Nat → Nat) (n : Nat) (areas : Nat → Int32) (keys : Nat → Int32) (there : Nat → Int32) (order : Nat → Int32) (added : Int32) (size : Int32) (loads : Nat → Int32) (widths : Nat → Int32) (height : Int32) (ranks : Nat → Int32) (a1 : Int32) (a2 : Int32) (ranks' : Nat → Int32) (hf : f_X4_rankByDistance n areas order size ranks a1 a2 = some ranks') : cM l yX4_rankByDistance wsX4_rankByDistance rmX4_rankByDistance D (ty4 cT) [.ref (ad 0), .int a1, .int a2] (wX cT ad areas keys there order added size loads widths height ranks) none (wX cT ad areas keys there order added size loads widths height ranks') := by
  refine cM_of (cc := cX4_rankByDistance) (maxL := 5) (ret := none) (own := RX4) (lv := [(0, .ref (ad 0)), (1, .int a1), (2, .int a2)]) (by decide) rfl (Nat.le_of_ble_eq_true rfl) rfl rfl ?_
  intro p e s m args below meth c A C hr
  unfold f_X4_rankByDistance at hf
  refine h_iconst (pc := 0) C dX4_rankByDistance_0 jc_0 ?_
  refine h_istore_n (pc := 1) (lv' := [(3, .int 0), (0, .ref (ad 0)), (1, .int a1), (2, .int a2)]) C dX4_rankByDistance_1 rfl (by decide) rfl ?_
  refine h_sub [1, 2, 3, 0] rfl ?_
  exact k_X4_rankByDistance_2 l D cT ad C hr n areas keys there order added size loads widths height ranks' n ranks a1 a2 0 hf
theorem pv_X4_rankByDistance : yX4_rankByDistance.cls = RX4 ∧ yX4_rankByDistance.cls ≠ "java/lang/invoke/MethodHandle" ∧ yX4_rankByDistance.cls ≠ "java/lang/invoke/VarHandle" ∧ (parseMethodDescriptor yX4_rankByDistance.desc).map (fun d => d.parameters.length) = some 2 := by decide +kernel
abbrev rmX4_ranksBefore : Room := { frames := 1, cells := 0, slots := 0, locals := 20 }
theorem uX4_ranksBefore_X4 : ∀ w ∈ u_ws RX4 TX4 3, w ∈ wsX4_ranksBefore := fun w h => List.mem_cons_of_mem _ (List.mem_append_left _ (List.mem_append_right _ h))
set_option maxRecDepth 100000 in
set_option maxHeartbeats 4000000 in
theorem k_X4_ranksBefore_63 {p : Program} {e : Env} {s : State} {m : MethodId} {args : Array Value} {below : List Frame} {meth : Method} {c : Code} {A : Nat → Prop} (l : Launch) (D : va_G) (cT : Nat → ClassId) (ad : Nat → Nat) (C : hC p s m args meth c cX4_ranksBefore 5 wsX4_ranksBefore RX4 D (ty4 cT) A) (hr : meth.sig.returnType = (some .int)) (n : Nat) (areas : Nat → Int32) (keys : Nat → Int32) (there : Nat → Int32) (order : Nat → Int32) (added : Int32) (size : Int32) (loads : Nat → Int32) (widths : Nat → Int32) (height : Int32) (ranks : Nat → Int32) (r : Int32) (k27 : Int32 → Int32 → Int32 → Option (Int32)) (K27 : ∀  (x2 : Int32) (x3 : Int32) (x4 : Int32), k27 x2 x3 x4 = some r → hS p l e rmX4_ranksBefore s m args below meth c 5 D A 0 0 (MQ below (cQ D (ty4 cT) A (some (.int r)) (wX cT ad areas keys there order added size loads widths height ranks)) args s 0 0 A) 27 [(0, .ref (ad 0)), (2, .int x2), (3, .int x3), (4, .int x4)] [] (wX cT ad areas keys there order added size loads widths height ranks)) : ∀  (x2 : Int32) (x3 : Int32) (x4 : Int32), f_X4_ranksBefore_63 n size ranks k27 x2 x3 x4 = some r → hS p l e rmX4_ranksBefore s m args below meth c 5 D A 0 0 (MQ below (cQ D (ty4 cT) A (some (.int r)) (wX cT ad areas keys there order added size loads widths height ranks)) args s 0 0 A) 63 [(0, .ref (ad 0)), (2, .int x2), (3, .int x3), (4, .int x4)] [] (wX cT ad areas keys there order added size loads widths height ranks) := by
  intro x2 x3 x4 hf
  unfold f_X4_ranksBefore_63 at hf
  refine h_iinc (pc := 63) (v := x4 + 1) (lv' := [(4, .int (x4 + 1)), (0, .ref (ad 0)), (2, .int x2), (3, .int x3)]) C dX4_ranksBefore_63 3 rfl (ji_1 _) (by decide) rfl ?_
  refine h_goto (pc := 66) (tgt := 27) C dX4_ranksBefore_66 (by decide) ?_
  refine h_sub [1, 2, 3, 0] rfl ?_
  exact K27 x2 x3 (x4 + 1) hf
set_option maxRecDepth 100000 in
set_option maxHeartbeats 4000000 in
theorem k_X4_ranksBefore_27 {p : Program} {e : Env} {s : State} {m : MethodId} {args : Array Value} {below : List Frame} {meth : Method} {c : Code} {A : Nat → Prop} (l : Launch) (D : va_G) (cT : Nat → ClassId) (ad : Nat → Nat) (C : hC p s m args meth c cX4_ranksBefore 5 wsX4_ranksBefore RX4 D (ty4 cT) A) (hr : meth.sig.returnType = (some .int)) (n : Nat) (areas : Nat → Int32) (keys : Nat → Int32) (there : Nat → Int32) (order : Nat → Int32) (added : Int32) (size : Int32) (loads : Nat → Int32) (widths : Nat → Int32) (height : Int32) (ranks : Nat → Int32) (r : Int32)  : ∀ (fu : Nat)  (x2 : Int32) (x3 : Int32) (x4 : Int32), f_X4_ranksBefore_27 n size ranks fu x2 x3 x4 = some r → hS p l e rmX4_ranksBefore s m args below meth c 5 D A 0 0 (MQ below (cQ D (ty4 cT) A (some (.int r)) (wX cT ad areas keys there order added size loads widths height ranks)) args s 0 0 A) 27 [(0, .ref (ad 0)), (2, .int x2), (3, .int x3), (4, .int x4)] [] (wX cT ad areas keys there order added size loads widths height ranks) := by
  intro fu
  induction fu with
  | zero =>
    intro x2 x3 x4 hf
    exact nomatch (show (none : Option (Int32)) = some r from hf)
  | succ fu ih =>
    intro x2 x3 x4 hf
    rw [f_X4_ranksBefore_27] at hf
    refine h_iload (pc := 27) C dX4_ranksBefore_27 3 rfl ?_
    refine h_aload_n (pc := 29) C dX4_ranksBefore_29 rfl 0 rfl ?_
    refine h_get (pc := 30) (ci := 2) (C0 := RX4) (T := TX4) (N := 3) C uX4_ranksBefore_X4 rfl 0 rfl 2 (by decide) (List.mem_of_getElem? (i := 1) rfl) rfl rfl dX4_ranksBefore_30 ?_
    refine h_alen (pc := 33) (v := 60) C 9 0 rfl rfl (by decide) dX4_ranksBefore_33 ?_
    refine h_icmp_ge (pc := 34) (tgt := 69) C dX4_ranksBefore_34 (by decide) (fun q => ?_) (fun q => ?_)
    · replace hf := jif_t q hf
      clear q
      refine h_iload_n (pc := 69) C dX4_ranksBefore_69 rfl 2 rfl ?_
      have g0 := (Option.some.inj hf)
      clear hf
      subst g0
      exact h_iret C hr dX4_ranksBefore_70
    · replace hf := jif_f q hf
      clear q
      refine h_iload (pc := 37) C dX4_ranksBefore_37 3 rfl ?_
      refine h_aload_n (pc := 39) C dX4_ranksBefore_39 rfl 0 rfl ?_
      refine h_get (pc := 40) (ci := 2) (C0 := RX4) (T := TX4) (N := 3) C uX4_ranksBefore_X4 rfl 0 rfl 0 (by decide) (List.mem_of_getElem? (i := 2) rfl) rfl rfl dX4_ranksBefore_40 ?_
      obtain ⟨v2, hc, hf⟩ := jbd_s hf
      refine h_callV (pc := 43) (q0 := 1) (As := []) (rest := .int x4 :: []) (ws' := (wX cT ad areas keys there order added size loads widths height ranks)) (st2 := .int v2 :: .int x4 :: []) C (c_X2_size l D cT ad n areas keys there order added size v2 hc) (cwV 0 C.1.2.2.2.2 gX4_ranksBefore_X2_size rfl rfl rfl pv_X2_size ⟨(Nat.le_of_ble_eq_true rfl), (Nat.le_of_ble_eq_true rfl)⟩) dX4_ranksBefore_43 rfl rfl rfl rfl rfl (Nat.le_of_ble_eq_true rfl) ⟨rfl, rfl⟩ ⟨(Nat.le_of_ble_eq_true rfl), (Nat.le_of_ble_eq_true rfl)⟩ [1, 2, 3, 4, 5] [0, 6, 7, 8, 9] [0, 5, 6, 7, 8, 9, 1, 2, 3, 4] rfl rfl rfl rfl (by decide) rfl rfl rfl ?_
      clear hc
      refine h_icmp_ge (pc := 46) (tgt := 69) C dX4_ranksBefore_46 (by decide) (fun q => ?_) (fun q => ?_)
      · replace hf := jif_t q hf
        clear q
        refine h_iload_n (pc := 69) C dX4_ranksBefore_69 rfl 2 rfl ?_
        have g0 := (Option.some.inj hf)
        clear hf
        subst g0
        exact h_iret C hr dX4_ranksBefore_70
      · replace hf := jif_f q hf
        clear q
        refine h_aload_n (pc := 49) C dX4_ranksBefore_49 rfl 0 rfl ?_
        refine h_get (pc := 50) (ci := 2) (C0 := RX4) (T := TX4) (N := 3) C uX4_ranksBefore_X4 rfl 0 rfl 2 (by decide) (List.mem_of_getElem? (i := 1) rfl) rfl rfl dX4_ranksBefore_50 ?_
        refine h_iload (pc := 53) C dX4_ranksBefore_53 3 rfl ?_
        obtain ⟨hi, v3, hv, hf⟩ := jrd_s hf
        refine h_iald (pc := 55) C 9 0 rfl rfl hi hv dX4_ranksBefore_55 ?_
        clear hi hv
        refine h_iload_n (pc := 56) C dX4_ranksBefore_56 rfl 1 rfl ?_
        refine h_icmp_ge (pc := 57) (tgt := 63) C dX4_ranksBefore_57 (by decide) (fun q => ?_) (fun q => ?_)
        · replace hf := jif_t q hf
          clear q
          exact k_X4_ranksBefore_63 l D cT ad C hr n areas keys there order added size loads widths height ranks r (f_X4_ranksBefore_27 n size ranks fu) ih x2 x3 x4 hf
        · replace hf := jif_f q hf
          clear q
          refine h_iinc (pc := 60) (v := x3 + 1) (lv' := [(3, .int (x3 + 1)), (0, .ref (ad 0)), (2, .int x2), (4, .int x4)]) C dX4_ranksBefore_60 2 rfl (ji_1 _) (by decide) rfl ?_
          refine h_sub [1, 2, 0, 3] rfl ?_
          exact k_X4_ranksBefore_63 l D cT ad C hr n areas keys there order added size loads widths height ranks r (f_X4_ranksBefore_27 n size ranks fu) ih x2 (x3 + 1) x4 hf
set_option maxRecDepth 100000 in
set_option maxHeartbeats 4000000 in
theorem c_X4_ranksBefore (l : Launch) (D : va_G) (cT : Nat → ClassId) (ad : Nat → Nat) (n : Nat) (areas : Nat → Int32) (keys : Nat → Int32) (there : Nat → Int32) (order : Nat → Int32) (added : Int32) (size : Int32) (loads : Nat → Int32) (widths : Nat → Int32) (height : Int32) (ranks : Nat → Int32) (a1 : Int32) (r : Int32) (hf : f_X4_ranksBefore n size ranks a1 = some r) : cM l yX4_ranksBefore wsX4_ranksBefore rmX4_ranksBefore D (ty4 cT) [.ref (ad 0), .int a1] (wX cT ad areas keys there order added size loads widths height ranks) (some (.int r)) (wX cT ad areas keys there order added size loads widths height ranks) := by
  refine cM_of (cc := cX4_ranksBefore) (maxL := 5) (ret := (some .int)) (own := RX4) (lv := [(0, .ref (ad 0)), (1, .int a1)]) (by decide) rfl (Nat.le_of_ble_eq_true rfl) rfl rfl ?_
  intro p e s m args below meth c A C hr
  unfold f_X4_ranksBefore at hf
  refine h_iload_n (pc := 0) C dX4_ranksBefore_0 rfl 1 rfl ?_
  refine h_if_lt (pc := 1) (tgt := 13) C dX4_ranksBefore_1 (by decide) (fun q => ?_) (fun q => ?_)
  · replace hf := jif_t q hf
    clear q
    refine h_iconst (pc := 13) C dX4_ranksBefore_13 jc_m1 ?_
    have g0 := (Option.some.inj hf)
    clear hf
    subst g0
    exact h_iret C hr dX4_ranksBefore_14
  · replace hf := jif_f q hf
    clear q
    refine h_iload_n (pc := 4) C dX4_ranksBefore_4 rfl 1 rfl ?_
    refine h_aload_n (pc := 5) C dX4_ranksBefore_5 rfl 0 rfl ?_
    refine h_get (pc := 6) (ci := 2) (C0 := RX4) (T := TX4) (N := 3) C uX4_ranksBefore_X4 rfl 0 rfl 2 (by decide) (List.mem_of_getElem? (i := 1) rfl) rfl rfl dX4_ranksBefore_6 ?_
    refine h_alen (pc := 9) (v := 60) C 9 0 rfl rfl (by decide) dX4_ranksBefore_9 ?_
    refine h_icmp_lt (pc := 10) (tgt := 15) C dX4_ranksBefore_10 (by decide) (fun q => ?_) (fun q => ?_)
    · replace hf := jif_t q hf
      clear q
      refine h_aload_n (pc := 15) C dX4_ranksBefore_15 rfl 0 rfl ?_
      refine h_get (pc := 16) (ci := 2) (C0 := RX4) (T := TX4) (N := 3) C uX4_ranksBefore_X4 rfl 0 rfl 2 (by decide) (List.mem_of_getElem? (i := 1) rfl) rfl rfl dX4_ranksBefore_16 ?_
      refine h_iload_n (pc := 19) C dX4_ranksBefore_19 rfl 1 rfl ?_
      obtain ⟨hi, v1, hv, hf⟩ := jrd_s hf
      refine h_iald (pc := 20) C 9 0 rfl rfl hi hv dX4_ranksBefore_20 ?_
      clear hi hv
      refine h_istore_n (pc := 21) (lv' := [(2, .int v1), (0, .ref (ad 0)), (1, .int a1)]) C dX4_ranksBefore_21 rfl (by decide) rfl ?_
      refine h_iconst (pc := 22) C dX4_ranksBefore_22 jc_0 ?_
      refine h_istore_n (pc := 23) (lv' := [(3, .int 0), (2, .int v1), (0, .ref (ad 0)), (1, .int a1)]) C dX4_ranksBefore_23 rfl (by decide) rfl ?_
      refine h_iconst (pc := 24) C dX4_ranksBefore_24 jc_0 ?_
      refine h_istore (pc := 25) (lv' := [(4, .int 0), (3, .int 0), (2, .int v1), (0, .ref (ad 0)), (1, .int a1)]) C dX4_ranksBefore_25 (by decide) rfl ?_
      refine h_sub [3, 2, 1, 0] rfl ?_
      exact k_X4_ranksBefore_27 l D cT ad C hr n areas keys there order added size loads widths height ranks r n v1 0 0 hf
    · replace hf := jif_f q hf
      clear q
      refine h_iconst (pc := 13) C dX4_ranksBefore_13 jc_m1 ?_
      have g0 := (Option.some.inj hf)
      clear hf
      subst g0
      exact h_iret C hr dX4_ranksBefore_14
theorem pv_X4_ranksBefore : yX4_ranksBefore.cls = RX4 ∧ yX4_ranksBefore.cls ≠ "java/lang/invoke/MethodHandle" ∧ yX4_ranksBefore.cls ≠ "java/lang/invoke/VarHandle" ∧ (parseMethodDescriptor yX4_ranksBefore.desc).map (fun d => d.parameters.length) = some 1 := by decide +kernel
abbrev rmX4_nearest : Room := { frames := 7, cells := 0, slots := 0, locals := 111 }
theorem uX4_nearest_X4 : ∀ w ∈ u_ws RX4 TX4 3, w ∈ wsX4_nearest := fun w h => List.mem_cons_of_mem _ (List.mem_append_left _ (List.mem_append_left _ (List.mem_append_left _ (List.mem_append_right _ h))))
set_option maxRecDepth 100000 in
set_option maxHeartbeats 4000000 in
theorem k_X4_nearest_14 {p : Program} {e : Env} {s : State} {m : MethodId} {args : Array Value} {below : List Frame} {meth : Method} {c : Code} {A : Nat → Prop} (l : Launch) (D : va_G) (cT : Nat → ClassId) (ad : Nat → Nat) (C : hC p s m args meth c cX4_nearest 5 wsX4_nearest RX4 D (ty4 cT) A) (hr : meth.sig.returnType = (some .int)) (n : Nat) (areas : Nat → Int32) (keys : Nat → Int32) (there : Nat → Int32) (order : Nat → Int32) (added : Int32) (size : Int32) (loads : Nat → Int32) (widths : Nat → Int32) (height : Int32) (r : Int32) (ranks' : Nat → Int32) (k : Nat) (hk0 : k = 0)  : ∀ (fu : Nat) (ranks : Nat → Int32) (x3 : Int32) (x4 : Int32), f_X4_nearest_14 n areas order size fu ranks x3 x4 = some (k, r, ranks') → hS p l e rmX4_nearest s m args below meth c 5 D A 0 0 (MQ below (cQ D (ty4 cT) A (some (.int r)) (wX cT ad areas keys there order added size loads widths height ranks')) args s 0 0 A) 14 [(0, .ref (ad 0)), (3, .int x3), (4, .int x4)] [] (wX cT ad areas keys there order added size loads widths height ranks) := by
  intro fu
  induction fu with
  | zero =>
    intro ranks x3 x4 hf
    exact nomatch (show (none : Option (Nat × Int32 × (Nat → Int32))) = some (k, r, ranks') from hf)
  | succ fu ih =>
    intro ranks x3 x4 hf
    rw [f_X4_nearest_14] at hf
    refine h_iload (pc := 14) C dX4_nearest_14 2 rfl ?_
    refine h_aload_n (pc := 16) C dX4_nearest_16 rfl 0 rfl ?_
    refine h_get (pc := 17) (ci := 2) (C0 := RX4) (T := TX4) (N := 3) C uX4_nearest_X4 rfl 0 rfl 0 (by decide) (List.mem_of_getElem? (i := 3) rfl) rfl rfl dX4_nearest_17 ?_
    obtain ⟨v3, hc, hf⟩ := jbd_s hf
    refine h_callV (pc := 20) (q0 := 1) (As := []) (rest := .int x4 :: []) (ws' := (wX cT ad areas keys there order added size loads widths height ranks)) (st2 := .int v3 :: .int x4 :: []) C (c_X2_size l D cT ad n areas keys there order added size v3 hc) (cwV 0 C.1.2.2.2.2 gX4_nearest_X2_size rfl rfl rfl pv_X2_size ⟨(Nat.le_of_ble_eq_true rfl), (Nat.le_of_ble_eq_true rfl)⟩) dX4_nearest_20 rfl rfl rfl rfl rfl (Nat.le_of_ble_eq_true rfl) ⟨rfl, rfl⟩ ⟨(Nat.le_of_ble_eq_true rfl), (Nat.le_of_ble_eq_true rfl)⟩ [1, 2, 3, 4, 5] [0, 6, 7, 8, 9] [0, 5, 6, 7, 8, 9, 1, 2, 3, 4] rfl rfl rfl rfl (by decide) rfl rfl rfl ?_
    clear hc
    refine h_icmp_ge (pc := 23) (tgt := 52) C dX4_nearest_23 (by decide) (fun q => ?_) (fun q => ?_)
    · replace hf := jif_t q hf
      clear q
      exact absurd ((Prod.mk.inj (Option.some.inj hf)).1.trans hk0) (by decide)
    · replace hf := jif_f q hf
      clear q
      refine h_aload_n (pc := 26) C dX4_nearest_26 rfl 0 rfl ?_
      refine h_iload (pc := 27) C dX4_nearest_27 2 rfl ?_
      obtain ⟨v4, hc, hf⟩ := jbd_s hf
      refine h_callV (pc := 29) (q0 := 0) (As := [.int x4]) (rest := []) (ws' := (wX cT ad areas keys there order added size loads widths height ranks)) (st2 := .int v4 :: []) C (c_X4_ranksBefore l D cT ad n areas keys there order added size loads widths height ranks x4 v4 hc) (cwV 1 C.1.2.2.2.2 gX4_nearest_X4_ranksBefore rfl rfl rfl pv_X4_ranksBefore ⟨(Nat.le_of_ble_eq_true rfl), (Nat.le_of_ble_eq_true rfl)⟩) dX4_nearest_29 rfl rfl rfl rfl rfl (Nat.le_of_ble_eq_true rfl) ⟨rfl, rfl⟩ ⟨(Nat.le_of_ble_eq_true rfl), (Nat.le_of_ble_eq_true rfl)⟩ [0, 1, 2, 3, 4, 5, 6, 7, 8, 9] [] [0, 1, 2, 3, 4, 5, 6, 7, 8, 9] rfl rfl rfl rfl (by decide) rfl rfl rfl ?_
      clear hc
      refine h_iload_n (pc := 32) C dX4_nearest_32 rfl 1 rfl ?_
      refine h_icmp_ne (pc := 33) (tgt := 46) C dX4_nearest_33 (by decide) (fun q => ?_) (fun q => ?_)
      · replace hf := jif_f q hf
        clear q
        refine h_iinc (pc := 46) (v := x4 + 1) (lv' := [(4, .int (x4 + 1)), (0, .ref (ad 0)), (3, .int x3)]) C dX4_nearest_46 2 rfl (ji_1 _) (by decide) rfl ?_
        refine h_goto (pc := 49) (tgt := 14) C dX4_nearest_49 (by decide) ?_
        refine h_sub [1, 2, 0] rfl ?_
        exact ih ranks x3 (x4 + 1) hf
      · replace hf := jif_t q hf
        clear q
        refine h_aload_n (pc := 36) C dX4_nearest_36 rfl 0 rfl ?_
        refine h_get (pc := 37) (ci := 2) (C0 := RX4) (T := TX4) (N := 3) C uX4_nearest_X4 rfl 0 rfl 0 (by decide) (List.mem_of_getElem? (i := 3) rfl) rfl rfl dX4_nearest_37 ?_
        refine h_iload (pc := 40) C dX4_nearest_40 2 rfl ?_
        obtain ⟨v5, hc, hf⟩ := jbd_s hf
        refine h_callV (pc := 42) (q0 := 1) (As := [.int x4]) (rest := []) (ws' := (wX cT ad areas keys there order added size loads widths height ranks)) (st2 := .int v5 :: []) C (c_X2_numberAt l D cT ad n areas keys there order added size x4 v5 hc) (cwV 1 C.1.2.2.2.2 gX4_nearest_X2_numberAt rfl rfl rfl pv_X2_numberAt ⟨(Nat.le_of_ble_eq_true rfl), (Nat.le_of_ble_eq_true rfl)⟩) dX4_nearest_42 rfl rfl rfl rfl rfl (Nat.le_of_ble_eq_true rfl) ⟨rfl, rfl⟩ ⟨(Nat.le_of_ble_eq_true rfl), (Nat.le_of_ble_eq_true rfl)⟩ [1, 2, 3, 4, 5] [0, 6, 7, 8, 9] [0, 5, 6, 7, 8, 9, 1, 2, 3, 4] rfl rfl rfl rfl (by decide) rfl rfl rfl ?_
        clear hc
        have g0 := (Prod.mk.inj (Option.some.inj hf)).1
        have g1 := (Prod.mk.inj (Prod.mk.inj (Option.some.inj hf)).2).1
        have g2 := (Prod.mk.inj (Prod.mk.inj (Option.some.inj hf)).2).2
        clear hf
        subst g0
        subst g1
        subst g2
        exact h_iret C hr dX4_nearest_45
set_option maxRecDepth 100000 in
set_option maxHeartbeats 4000000 in
theorem c_X4_nearest (l : Launch) (D : va_G) (cT : Nat → ClassId) (ad : Nat → Nat) (n : Nat) (areas : Nat → Int32) (keys : Nat → Int32) (there : Nat → Int32) (order : Nat → Int32) (added : Int32) (size : Int32) (loads : Nat → Int32) (widths : Nat → Int32) (height : Int32) (ranks : Nat → Int32) (a1 : Int32) (a2 : Int32) (a3 : Int32) (r : Int32) (ranks' : Nat → Int32) (k : Nat) (hk0 : k = 0) (hf : f_X4_nearest n areas order size ranks a1 a2 a3 = some (k, r, ranks')) : cM l yX4_nearest wsX4_nearest rmX4_nearest D (ty4 cT) [.ref (ad 0), .int a1, .int a2, .int a3] (wX cT ad areas keys there order added size loads widths height ranks) (some (.int r)) (wX cT ad areas keys there order added size loads widths height ranks') := by
  refine cM_of (cc := cX4_nearest) (maxL := 5) (ret := (some .int)) (own := RX4) (lv := [(0, .ref (ad 0)), (1, .int a1), (2, .int a2), (3, .int a3)]) (by decide) rfl (Nat.le_of_ble_eq_true rfl) rfl rfl ?_
  intro p e s m args below meth c A C hr
  unfold f_X4_nearest at hf
  refine h_iload_n (pc := 0) C dX4_nearest_0 rfl 1 rfl ?_
  refine h_iload_n (pc := 1) C dX4_nearest_1 rfl 2 rfl ?_
  obtain ⟨v1, hc, hf⟩ := jbd_s hf
  by_cases hk : v1 = 0
  · replace hf := jif_t hk hf
    refine h_callP (pc := 2) (As := [.int a1, .int a2]) (rest := []) (st2 := []) C (c_X4_checkPoint l D cT ad n a1 a2 v1 hk hc) (va_cwS 2 C.1.2.2.2.2 gX4_nearest_X4_checkPoint rfl rfl rfl ps_X4_checkPoint ⟨(Nat.le_of_ble_eq_true rfl), (Nat.le_of_ble_eq_true rfl)⟩) dX4_nearest_2 rfl rfl (Nat.le_of_ble_eq_true rfl) ⟨rfl, rfl⟩ ⟨(Nat.le_of_ble_eq_true rfl), (Nat.le_of_ble_eq_true rfl)⟩ rfl ?_
    clear hc
    refine h_aload_n (pc := 5) C dX4_nearest_5 rfl 0 rfl ?_
    refine h_iload_n (pc := 6) C dX4_nearest_6 rfl 1 rfl ?_
    refine h_iload_n (pc := 7) C dX4_nearest_7 rfl 2 rfl ?_
    obtain ⟨v2, hc, hf⟩ := jbd_s hf
    refine h_callV (pc := 8) (q0 := 0) (As := [.int a1, .int a2]) (rest := []) (ws' := (wX cT ad areas keys there order added size loads widths height v2)) (st2 := []) C (c_X4_rankByDistance l D cT ad n areas keys there order added size loads widths height ranks a1 a2 v2 hc) (cwV 2 C.1.2.2.2.2 gX4_nearest_X4_rankByDistance rfl rfl rfl pv_X4_rankByDistance ⟨(Nat.le_of_ble_eq_true rfl), (Nat.le_of_ble_eq_true rfl)⟩) dX4_nearest_8 rfl rfl rfl rfl rfl (Nat.le_of_ble_eq_true rfl) ⟨rfl, rfl⟩ ⟨(Nat.le_of_ble_eq_true rfl), (Nat.le_of_ble_eq_true rfl)⟩ [0, 1, 2, 3, 4, 5, 6, 7, 8, 9] [] [0, 1, 2, 3, 4, 5, 6, 7, 8, 9] rfl rfl rfl rfl (by decide) rfl rfl rfl ?_
    clear hc
    refine h_iconst (pc := 11) C dX4_nearest_11 jc_0 ?_
    refine h_istore (pc := 12) (lv' := [(4, .int 0), (0, .ref (ad 0)), (1, .int a1), (2, .int a2), (3, .int a3)]) C dX4_nearest_12 (by decide) rfl ?_
    refine h_sub [1, 4, 0] rfl ?_
    exact k_X4_nearest_14 l D cT ad C hr n areas keys there order added size loads widths height r ranks' k hk0 n v2 a3 0 hf
  · replace hf := jif_f hk hf
    exact absurd ((Prod.mk.inj (Option.some.inj hf)).1.trans hk0) hk
theorem pv_X4_nearest : yX4_nearest.cls = RX4 ∧ yX4_nearest.cls ≠ "java/lang/invoke/MethodHandle" ∧ yX4_nearest.cls ≠ "java/lang/invoke/VarHandle" ∧ (parseMethodDescriptor yX4_nearest.desc).map (fun d => d.parameters.length) = some 3 := by decide +kernel
abbrev rxX4_nearest : Room := { frames := 7, cells := 1, slots := 6, locals := 111 }
set_option maxRecDepth 100000 in
set_option maxHeartbeats 4000000 in
theorem kx_X4_nearest_14 {p : Program} {e : Env} {s : State} {m : MethodId} {args : Array Value} {below : List Frame} {meth : Method} {c : Code} {A : Nat → Prop} {l : Launch} (hX0 : l.stackTraces = false) (D : va_G) (cT : Nat → ClassId) (ad : Nat → Nat) (C : hC p s m args meth c cX4_nearest 5 wsX4_nearest RX4 D (ty4 cT) A) (X : hX l s c A) (n : Nat) (areas : Nat → Int32) (keys : Nat → Int32) (there : Nat → Int32) (order : Nat → Int32) (added : Int32) (size : Int32) (loads : Nat → Int32) (widths : Nat → Int32) (height : Int32) (r : Int32) (ranks' : Nat → Int32) (k : Nat) (hk0 : ¬ k = 0)  : ∀ (fu : Nat) (ranks : Nat → Int32) (x3 : Int32) (x4 : Int32), f_X4_nearest_14 n areas order size fu ranks x3 x4 = some (k, r, ranks') → hS p l e rxX4_nearest s m args below meth c 5 D A 0 0 (vx_MQ below (fun _ _ _ _ => False) (xX D (ty4 cT) A (xE k) (wX cT ad areas keys there order added size loads widths height ranks')) args s 1 6 A) 14 [(0, .ref (ad 0)), (3, .int x3), (4, .int x4)] [] (wX cT ad areas keys there order added size loads widths height ranks) := by
  intro fu
  induction fu with
  | zero =>
    intro ranks x3 x4 hf
    exact nomatch (show (none : Option (Nat × Int32 × (Nat → Int32))) = some (k, r, ranks') from hf)
  | succ fu ih =>
    intro ranks x3 x4 hf
    rw [f_X4_nearest_14] at hf
    refine h_iload (pc := 14) C dX4_nearest_14 2 rfl ?_
    refine h_aload_n (pc := 16) C dX4_nearest_16 rfl 0 rfl ?_
    refine h_get (pc := 17) (ci := 2) (C0 := RX4) (T := TX4) (N := 3) C uX4_nearest_X4 rfl 0 rfl 0 (by decide) (List.mem_of_getElem? (i := 3) rfl) rfl rfl dX4_nearest_17 ?_
    obtain ⟨v3, hc, hf⟩ := jbd_s hf
    refine h_callV (pc := 20) (q0 := 1) (As := []) (rest := .int x4 :: []) (ws' := (wX cT ad areas keys there order added size loads widths height ranks)) (st2 := .int v3 :: .int x4 :: []) C (c_X2_size l D cT ad n areas keys there order added size v3 hc) (cwV 0 C.1.2.2.2.2 gX4_nearest_X2_size rfl rfl rfl pv_X2_size ⟨(Nat.le_of_ble_eq_true rfl), (Nat.le_of_ble_eq_true rfl)⟩) dX4_nearest_20 rfl rfl rfl rfl rfl (Nat.le_of_ble_eq_true rfl) ⟨rfl, rfl⟩ ⟨(Nat.le_of_ble_eq_true rfl), (Nat.le_of_ble_eq_true rfl)⟩ [1, 2, 3, 4, 5] [0, 6, 7, 8, 9] [0, 5, 6, 7, 8, 9, 1, 2, 3, 4] rfl rfl rfl rfl (by decide) rfl rfl rfl ?_
    clear hc
    refine h_icmp_ge (pc := 23) (tgt := 52) C dX4_nearest_23 (by decide) (fun q => ?_) (fun q => ?_)
    · replace hf := jif_t q hf
      clear q
      have g0 := (Prod.mk.inj (Option.some.inj hf)).1
      have g1 := (Prod.mk.inj (Prod.mk.inj (Option.some.inj hf)).2).1
      have g2 := (Prod.mk.inj (Prod.mk.inj (Option.some.inj hf)).2).2
      clear hf
      subst g0
      subst g1
      subst g2
      exact h_throw (pc := 52) C X xin_IOE xft_IOE xft_up (List.mem_of_getElem? (i := 1) rfl) (List.mem_of_getElem? (i := 2) rfl) (List.mem_of_getElem? (i := 2) rfl) (fun w h => List.mem_cons_of_mem _ (List.mem_append_left _ (List.mem_append_right _ h))) xng_IOE xgd_IOE dX4_nearest_52 dX4_nearest_55 dX4_nearest_56 dX4_nearest_58 dX4_nearest_61 ⟨Nat.le_of_ble_eq_true rfl, Nat.le_of_ble_eq_true rfl, Nat.le_of_ble_eq_true rfl, Nat.le_of_ble_eq_true rfl⟩ ⟨Nat.le_of_ble_eq_true rfl, Nat.le_of_ble_eq_true rfl⟩
    · replace hf := jif_f q hf
      clear q
      refine h_aload_n (pc := 26) C dX4_nearest_26 rfl 0 rfl ?_
      refine h_iload (pc := 27) C dX4_nearest_27 2 rfl ?_
      obtain ⟨v4, hc, hf⟩ := jbd_s hf
      refine h_callV (pc := 29) (q0 := 0) (As := [.int x4]) (rest := []) (ws' := (wX cT ad areas keys there order added size loads widths height ranks)) (st2 := .int v4 :: []) C (c_X4_ranksBefore l D cT ad n areas keys there order added size loads widths height ranks x4 v4 hc) (cwV 1 C.1.2.2.2.2 gX4_nearest_X4_ranksBefore rfl rfl rfl pv_X4_ranksBefore ⟨(Nat.le_of_ble_eq_true rfl), (Nat.le_of_ble_eq_true rfl)⟩) dX4_nearest_29 rfl rfl rfl rfl rfl (Nat.le_of_ble_eq_true rfl) ⟨rfl, rfl⟩ ⟨(Nat.le_of_ble_eq_true rfl), (Nat.le_of_ble_eq_true rfl)⟩ [0, 1, 2, 3, 4, 5, 6, 7, 8, 9] [] [0, 1, 2, 3, 4, 5, 6, 7, 8, 9] rfl rfl rfl rfl (by decide) rfl rfl rfl ?_
      clear hc
      refine h_iload_n (pc := 32) C dX4_nearest_32 rfl 1 rfl ?_
      refine h_icmp_ne (pc := 33) (tgt := 46) C dX4_nearest_33 (by decide) (fun q => ?_) (fun q => ?_)
      · replace hf := jif_f q hf
        clear q
        refine h_iinc (pc := 46) (v := x4 + 1) (lv' := [(4, .int (x4 + 1)), (0, .ref (ad 0)), (3, .int x3)]) C dX4_nearest_46 2 rfl (ji_1 _) (by decide) rfl ?_
        refine h_goto (pc := 49) (tgt := 14) C dX4_nearest_49 (by decide) ?_
        refine h_sub [1, 2, 0] rfl ?_
        exact ih ranks x3 (x4 + 1) hf
      · replace hf := jif_t q hf
        clear q
        refine h_aload_n (pc := 36) C dX4_nearest_36 rfl 0 rfl ?_
        refine h_get (pc := 37) (ci := 2) (C0 := RX4) (T := TX4) (N := 3) C uX4_nearest_X4 rfl 0 rfl 0 (by decide) (List.mem_of_getElem? (i := 3) rfl) rfl rfl dX4_nearest_37 ?_
        refine h_iload (pc := 40) C dX4_nearest_40 2 rfl ?_
        obtain ⟨v5, hc, hf⟩ := jbd_s hf
        refine h_callV (pc := 42) (q0 := 1) (As := [.int x4]) (rest := []) (ws' := (wX cT ad areas keys there order added size loads widths height ranks)) (st2 := .int v5 :: []) C (c_X2_numberAt l D cT ad n areas keys there order added size x4 v5 hc) (cwV 1 C.1.2.2.2.2 gX4_nearest_X2_numberAt rfl rfl rfl pv_X2_numberAt ⟨(Nat.le_of_ble_eq_true rfl), (Nat.le_of_ble_eq_true rfl)⟩) dX4_nearest_42 rfl rfl rfl rfl rfl (Nat.le_of_ble_eq_true rfl) ⟨rfl, rfl⟩ ⟨(Nat.le_of_ble_eq_true rfl), (Nat.le_of_ble_eq_true rfl)⟩ [1, 2, 3, 4, 5] [0, 6, 7, 8, 9] [0, 5, 6, 7, 8, 9, 1, 2, 3, 4] rfl rfl rfl rfl (by decide) rfl rfl rfl ?_
        clear hc
        exact absurd (Prod.mk.inj (Option.some.inj hf)).1.symm hk0
set_option maxRecDepth 100000 in
set_option maxHeartbeats 4000000 in
theorem x_X4_nearest {l : Launch} (hX0 : l.stackTraces = false) (D : va_G) (cT : Nat → ClassId) (ad : Nat → Nat) (n : Nat) (areas : Nat → Int32) (keys : Nat → Int32) (there : Nat → Int32) (order : Nat → Int32) (added : Int32) (size : Int32) (loads : Nat → Int32) (widths : Nat → Int32) (height : Int32) (ranks : Nat → Int32) (a1 : Int32) (a2 : Int32) (a3 : Int32) (r : Int32) (ranks' : Nat → Int32) (k : Nat) (hk0 : ¬ k = 0) (hf : f_X4_nearest n areas order size ranks a1 a2 a3 = some (k, r, ranks')) : xM l yX4_nearest wsX4_nearest rxX4_nearest D (ty4 cT) [.ref (ad 0), .int a1, .int a2, .int a3] (wX cT ad areas keys there order added size loads widths height ranks) (xE k) (wX cT ad areas keys there order added size loads widths height ranks') := by
  refine xM_of (cc := cX4_nearest) (maxL := 5) (ret := (some .int)) (own := RX4) (lv := [(0, .ref (ad 0)), (1, .int a1), (2, .int a2), (3, .int a3)]) hX0 (by decide) rfl (Nat.le_of_ble_eq_true rfl) rfl rfl ?_
  intro p e s m args below meth c A C X
  unfold f_X4_nearest at hf
  refine h_iload_n (pc := 0) C dX4_nearest_0 rfl 1 rfl ?_
  refine h_iload_n (pc := 1) C dX4_nearest_1 rfl 2 rfl ?_
  obtain ⟨v1, hc, hf⟩ := jbd_s hf
  by_cases hk : v1 = 0
  · replace hf := jif_t hk hf
    refine h_callP (pc := 2) (As := [.int a1, .int a2]) (rest := []) (st2 := []) C (c_X4_checkPoint l D cT ad n a1 a2 v1 hk hc) (va_cwS 2 C.1.2.2.2.2 gX4_nearest_X4_checkPoint rfl rfl rfl ps_X4_checkPoint ⟨(Nat.le_of_ble_eq_true rfl), (Nat.le_of_ble_eq_true rfl)⟩) dX4_nearest_2 rfl rfl (Nat.le_of_ble_eq_true rfl) ⟨rfl, rfl⟩ ⟨(Nat.le_of_ble_eq_true rfl), (Nat.le_of_ble_eq_true rfl)⟩ rfl ?_
    clear hc
    refine h_aload_n (pc := 5) C dX4_nearest_5 rfl 0 rfl ?_
    refine h_iload_n (pc := 6) C dX4_nearest_6 rfl 1 rfl ?_
    refine h_iload_n (pc := 7) C dX4_nearest_7 rfl 2 rfl ?_
    obtain ⟨v2, hc, hf⟩ := jbd_s hf
    refine h_callV (pc := 8) (q0 := 0) (As := [.int a1, .int a2]) (rest := []) (ws' := (wX cT ad areas keys there order added size loads widths height v2)) (st2 := []) C (c_X4_rankByDistance l D cT ad n areas keys there order added size loads widths height ranks a1 a2 v2 hc) (cwV 2 C.1.2.2.2.2 gX4_nearest_X4_rankByDistance rfl rfl rfl pv_X4_rankByDistance ⟨(Nat.le_of_ble_eq_true rfl), (Nat.le_of_ble_eq_true rfl)⟩) dX4_nearest_8 rfl rfl rfl rfl rfl (Nat.le_of_ble_eq_true rfl) ⟨rfl, rfl⟩ ⟨(Nat.le_of_ble_eq_true rfl), (Nat.le_of_ble_eq_true rfl)⟩ [0, 1, 2, 3, 4, 5, 6, 7, 8, 9] [] [0, 1, 2, 3, 4, 5, 6, 7, 8, 9] rfl rfl rfl rfl (by decide) rfl rfl rfl ?_
    clear hc
    refine h_iconst (pc := 11) C dX4_nearest_11 jc_0 ?_
    refine h_istore (pc := 12) (lv' := [(4, .int 0), (0, .ref (ad 0)), (1, .int a1), (2, .int a2), (3, .int a3)]) C dX4_nearest_12 (by decide) rfl ?_
    refine h_sub [1, 4, 0] rfl ?_
    exact kx_X4_nearest_14 hX0 D cT ad C X n areas keys there order added size loads widths height r ranks' k hk0 n v2 a3 0 hf
  · replace hf := jif_f hk hf
    have g0 := (Prod.mk.inj (Option.some.inj hf)).1
    have g1 := (Prod.mk.inj (Prod.mk.inj (Option.some.inj hf)).2).1
    have g2 := (Prod.mk.inj (Prod.mk.inj (Option.some.inj hf)).2).2
    clear hf
    subst g0
    subst g1
    subst g2
    exact h_xS (pc := 2) (As := [.int a1, .int a2]) (rest := []) C X.1 (x_X4_checkPoint hX0 D cT ad n a1 a2 v1 hk hc) (va_cwS 2 C.1.2.2.2.2 gX4_nearest_X4_checkPoint rfl rfl rfl ps_X4_checkPoint ⟨(Nat.le_of_ble_eq_true rfl), (Nat.le_of_ble_eq_true rfl)⟩) dX4_nearest_2 rfl rfl (Nat.le_of_ble_eq_true rfl) ⟨(Nat.le_of_ble_eq_true rfl), (Nat.le_of_ble_eq_true rfl)⟩ (h_outK C X ⟨(Nat.le_of_ble_eq_true rfl), (Nat.le_of_ble_eq_true rfl)⟩)
abbrev rmX4_distance : Room := { frames := 7, cells := 0, slots := 0, locals := 111 }
theorem uX4_distance_X4 : ∀ w ∈ u_ws RX4 TX4 3, w ∈ wsX4_distance := fun w h => List.mem_cons_of_mem _ (List.mem_append_left _ (List.mem_append_left _ (List.mem_append_left _ (List.mem_append_right _ h))))
set_option maxRecDepth 100000 in
set_option maxHeartbeats 4000000 in
theorem c_X4_distance (l : Launch) (D : va_G) (cT : Nat → ClassId) (ad : Nat → Nat) (n : Nat) (areas : Nat → Int32) (keys : Nat → Int32) (there : Nat → Int32) (order : Nat → Int32) (added : Int32) (size : Int32) (loads : Nat → Int32) (widths : Nat → Int32) (height : Int32) (ranks : Nat → Int32) (a1 : Int32) (a2 : Int32) (a3 : Int32) (r : Int32) (k : Nat) (hk0 : k = 0) (hf : f_X4_distance n areas there a1 a2 a3 = some (k, r)) : cM l yX4_distance wsX4_distance rmX4_distance D (ty4 cT) [.ref (ad 0), .int a1, .int a2, .int a3] (wX cT ad areas keys there order added size loads widths height ranks) (some (.int r)) (wX cT ad areas keys there order added size loads widths height ranks) := by
  refine cM_of (cc := cX4_distance) (maxL := 4) (ret := (some .int)) (own := RX4) (lv := [(0, .ref (ad 0)), (1, .int a1), (2, .int a2), (3, .int a3)]) (by decide) rfl (Nat.le_of_ble_eq_true rfl) rfl rfl ?_
  intro p e s m args below meth c A C hr
  unfold f_X4_distance at hf
  refine h_iload_n (pc := 0) C dX4_distance_0 rfl 1 rfl ?_
  refine h_iload_n (pc := 1) C dX4_distance_1 rfl 2 rfl ?_
  obtain ⟨v1, hc, hf⟩ := jbd_s hf
  by_cases hk : v1 = 0
  · replace hf := jif_t hk hf
    refine h_callP (pc := 2) (As := [.int a1, .int a2]) (rest := []) (st2 := []) C (c_X4_checkPoint l D cT ad n a1 a2 v1 hk hc) (va_cwS 2 C.1.2.2.2.2 gX4_distance_X4_checkPoint rfl rfl rfl ps_X4_checkPoint ⟨(Nat.le_of_ble_eq_true rfl), (Nat.le_of_ble_eq_true rfl)⟩) dX4_distance_2 rfl rfl (Nat.le_of_ble_eq_true rfl) ⟨rfl, rfl⟩ ⟨(Nat.le_of_ble_eq_true rfl), (Nat.le_of_ble_eq_true rfl)⟩ rfl ?_
    clear hc
    refine h_aload_n (pc := 5) C dX4_distance_5 rfl 0 rfl ?_
    refine h_iload_n (pc := 6) C dX4_distance_6 rfl 3 rfl ?_
    obtain ⟨v2, hc, hf⟩ := jbd_s hf
    by_cases hk : v2 = 0
    · replace hf := jif_t hk hf
      refine h_callV (pc := 7) (q0 := 0) (As := [.int a3]) (rest := []) (ws' := (wX cT ad areas keys there order added size loads widths height ranks)) (st2 := []) C (c_X4_checkBox l D cT ad n areas keys there order added size loads widths height ranks a3 v2 hk hc) (cwV 1 C.1.2.2.2.2 gX4_distance_X4_checkBox rfl rfl rfl pv_X4_checkBox ⟨(Nat.le_of_ble_eq_true rfl), (Nat.le_of_ble_eq_true rfl)⟩) dX4_distance_7 rfl rfl rfl rfl rfl (Nat.le_of_ble_eq_true rfl) ⟨rfl, rfl⟩ ⟨(Nat.le_of_ble_eq_true rfl), (Nat.le_of_ble_eq_true rfl)⟩ [0, 1, 2, 3, 4, 5, 6, 7, 8, 9] [] [0, 1, 2, 3, 4, 5, 6, 7, 8, 9] rfl rfl rfl rfl (by decide) rfl rfl rfl ?_
      clear hc
      refine h_aload_n (pc := 10) C dX4_distance_10 rfl 0 rfl ?_
      refine h_get (pc := 11) (ci := 2) (C0 := RX4) (T := TX4) (N := 3) C uX4_distance_X4 rfl 0 rfl 0 (by decide) (List.mem_of_getElem? (i := 1) rfl) rfl rfl dX4_distance_11 ?_
      refine h_iload_n (pc := 14) C dX4_distance_14 rfl 3 rfl ?_
      obtain ⟨v3, hc, hf⟩ := jbd_s hf
      refine h_callV (pc := 15) (q0 := 1) (As := [.int a3]) (rest := []) (ws' := (wX cT ad areas keys there order added size loads widths height ranks)) (st2 := .int v3 :: []) C (c_X2_areaOf l D cT ad n areas keys there order added size a3 v3 hc) (cwV 1 C.1.2.2.2.2 gX4_distance_X2_areaOf rfl rfl rfl pv_X2_areaOf ⟨(Nat.le_of_ble_eq_true rfl), (Nat.le_of_ble_eq_true rfl)⟩) dX4_distance_15 rfl rfl rfl rfl rfl (Nat.le_of_ble_eq_true rfl) ⟨rfl, rfl⟩ ⟨(Nat.le_of_ble_eq_true rfl), (Nat.le_of_ble_eq_true rfl)⟩ [1, 2, 3, 4, 5] [0, 6, 7, 8, 9] [0, 5, 6, 7, 8, 9, 1, 2, 3, 4] rfl rfl rfl rfl (by decide) rfl rfl rfl ?_
      clear hc
      refine h_iload_n (pc := 18) C dX4_distance_18 rfl 1 rfl ?_
      refine h_iload_n (pc := 19) C dX4_distance_19 rfl 2 rfl ?_
      obtain ⟨v4, hc, hf⟩ := jbd_s hf
      refine h_callP (pc := 20) (As := [.int v3, .int a1, .int a2]) (rest := []) (st2 := .int v4 :: []) C (c_X0_distanceFrom l D cT ad n v3 a1 a2 v4 hc) (va_cwS 3 C.1.2.2.2.2 gX4_distance_X0_distanceFrom rfl rfl rfl ps_X0_distanceFrom ⟨(Nat.le_of_ble_eq_true rfl), (Nat.le_of_ble_eq_true rfl)⟩) dX4_distance_20 rfl rfl (Nat.le_of_ble_eq_true rfl) ⟨rfl, rfl⟩ ⟨(Nat.le_of_ble_eq_true rfl), (Nat.le_of_ble_eq_true rfl)⟩ rfl ?_
      clear hc
      have g0 := (Prod.mk.inj (Option.some.inj hf)).1
      have g1 := (Prod.mk.inj (Option.some.inj hf)).2
      clear hf
      subst g0
      subst g1
      exact h_iret C hr dX4_distance_23
    · replace hf := jif_f hk hf
      exact absurd ((Prod.mk.inj (Option.some.inj hf)).1.trans hk0) hk
  · replace hf := jif_f hk hf
    exact absurd ((Prod.mk.inj (Option.some.inj hf)).1.trans hk0) hk
theorem pv_X4_distance : yX4_distance.cls = RX4 ∧ yX4_distance.cls ≠ "java/lang/invoke/MethodHandle" ∧ yX4_distance.cls ≠ "java/lang/invoke/VarHandle" ∧ (parseMethodDescriptor yX4_distance.desc).map (fun d => d.parameters.length) = some 3 := by decide +kernel
abbrev rxX4_distance : Room := { frames := 7, cells := 1, slots := 6, locals := 111 }
set_option maxRecDepth 100000 in
set_option maxHeartbeats 4000000 in
theorem x_X4_distance {l : Launch} (hX0 : l.stackTraces = false) (D : va_G) (cT : Nat → ClassId) (ad : Nat → Nat) (n : Nat) (areas : Nat → Int32) (keys : Nat → Int32) (there : Nat → Int32) (order : Nat → Int32) (added : Int32) (size : Int32) (loads : Nat → Int32) (widths : Nat → Int32) (height : Int32) (ranks : Nat → Int32) (a1 : Int32) (a2 : Int32) (a3 : Int32) (r : Int32) (k : Nat) (hk0 : ¬ k = 0) (hf : f_X4_distance n areas there a1 a2 a3 = some (k, r)) : xM l yX4_distance wsX4_distance rxX4_distance D (ty4 cT) [.ref (ad 0), .int a1, .int a2, .int a3] (wX cT ad areas keys there order added size loads widths height ranks) (xE k) (wX cT ad areas keys there order added size loads widths height ranks) := by
  refine xM_of (cc := cX4_distance) (maxL := 4) (ret := (some .int)) (own := RX4) (lv := [(0, .ref (ad 0)), (1, .int a1), (2, .int a2), (3, .int a3)]) hX0 (by decide) rfl (Nat.le_of_ble_eq_true rfl) rfl rfl ?_
  intro p e s m args below meth c A C X
  unfold f_X4_distance at hf
  refine h_iload_n (pc := 0) C dX4_distance_0 rfl 1 rfl ?_
  refine h_iload_n (pc := 1) C dX4_distance_1 rfl 2 rfl ?_
  obtain ⟨v1, hc, hf⟩ := jbd_s hf
  by_cases hk : v1 = 0
  · replace hf := jif_t hk hf
    refine h_callP (pc := 2) (As := [.int a1, .int a2]) (rest := []) (st2 := []) C (c_X4_checkPoint l D cT ad n a1 a2 v1 hk hc) (va_cwS 2 C.1.2.2.2.2 gX4_distance_X4_checkPoint rfl rfl rfl ps_X4_checkPoint ⟨(Nat.le_of_ble_eq_true rfl), (Nat.le_of_ble_eq_true rfl)⟩) dX4_distance_2 rfl rfl (Nat.le_of_ble_eq_true rfl) ⟨rfl, rfl⟩ ⟨(Nat.le_of_ble_eq_true rfl), (Nat.le_of_ble_eq_true rfl)⟩ rfl ?_
    clear hc
    refine h_aload_n (pc := 5) C dX4_distance_5 rfl 0 rfl ?_
    refine h_iload_n (pc := 6) C dX4_distance_6 rfl 3 rfl ?_
    obtain ⟨v2, hc, hf⟩ := jbd_s hf
    by_cases hk : v2 = 0
    · replace hf := jif_t hk hf
      refine h_callV (pc := 7) (q0 := 0) (As := [.int a3]) (rest := []) (ws' := (wX cT ad areas keys there order added size loads widths height ranks)) (st2 := []) C (c_X4_checkBox l D cT ad n areas keys there order added size loads widths height ranks a3 v2 hk hc) (cwV 1 C.1.2.2.2.2 gX4_distance_X4_checkBox rfl rfl rfl pv_X4_checkBox ⟨(Nat.le_of_ble_eq_true rfl), (Nat.le_of_ble_eq_true rfl)⟩) dX4_distance_7 rfl rfl rfl rfl rfl (Nat.le_of_ble_eq_true rfl) ⟨rfl, rfl⟩ ⟨(Nat.le_of_ble_eq_true rfl), (Nat.le_of_ble_eq_true rfl)⟩ [0, 1, 2, 3, 4, 5, 6, 7, 8, 9] [] [0, 1, 2, 3, 4, 5, 6, 7, 8, 9] rfl rfl rfl rfl (by decide) rfl rfl rfl ?_
      clear hc
      refine h_aload_n (pc := 10) C dX4_distance_10 rfl 0 rfl ?_
      refine h_get (pc := 11) (ci := 2) (C0 := RX4) (T := TX4) (N := 3) C uX4_distance_X4 rfl 0 rfl 0 (by decide) (List.mem_of_getElem? (i := 1) rfl) rfl rfl dX4_distance_11 ?_
      refine h_iload_n (pc := 14) C dX4_distance_14 rfl 3 rfl ?_
      obtain ⟨v3, hc, hf⟩ := jbd_s hf
      refine h_callV (pc := 15) (q0 := 1) (As := [.int a3]) (rest := []) (ws' := (wX cT ad areas keys there order added size loads widths height ranks)) (st2 := .int v3 :: []) C (c_X2_areaOf l D cT ad n areas keys there order added size a3 v3 hc) (cwV 1 C.1.2.2.2.2 gX4_distance_X2_areaOf rfl rfl rfl pv_X2_areaOf ⟨(Nat.le_of_ble_eq_true rfl), (Nat.le_of_ble_eq_true rfl)⟩) dX4_distance_15 rfl rfl rfl rfl rfl (Nat.le_of_ble_eq_true rfl) ⟨rfl, rfl⟩ ⟨(Nat.le_of_ble_eq_true rfl), (Nat.le_of_ble_eq_true rfl)⟩ [1, 2, 3, 4, 5] [0, 6, 7, 8, 9] [0, 5, 6, 7, 8, 9, 1, 2, 3, 4] rfl rfl rfl rfl (by decide) rfl rfl rfl ?_
      clear hc
      refine h_iload_n (pc := 18) C dX4_distance_18 rfl 1 rfl ?_
      refine h_iload_n (pc := 19) C dX4_distance_19 rfl 2 rfl ?_
      obtain ⟨v4, hc, hf⟩ := jbd_s hf
      refine h_callP (pc := 20) (As := [.int v3, .int a1, .int a2]) (rest := []) (st2 := .int v4 :: []) C (c_X0_distanceFrom l D cT ad n v3 a1 a2 v4 hc) (va_cwS 3 C.1.2.2.2.2 gX4_distance_X0_distanceFrom rfl rfl rfl ps_X0_distanceFrom ⟨(Nat.le_of_ble_eq_true rfl), (Nat.le_of_ble_eq_true rfl)⟩) dX4_distance_20 rfl rfl (Nat.le_of_ble_eq_true rfl) ⟨rfl, rfl⟩ ⟨(Nat.le_of_ble_eq_true rfl), (Nat.le_of_ble_eq_true rfl)⟩ rfl ?_
      clear hc
      exact absurd (Prod.mk.inj (Option.some.inj hf)).1.symm hk0
    · replace hf := jif_f hk hf
      have g0 := (Prod.mk.inj (Option.some.inj hf)).1
      have g1 := (Prod.mk.inj (Option.some.inj hf)).2
      clear hf
      subst g0
      subst g1
      exact h_xV (pc := 7) (q0 := 0) (As := [.int a3]) (rest := []) (ws' := (wX cT ad areas keys there order added size loads widths height ranks)) C X.1 (x_X4_checkBox hX0 D cT ad n areas keys there order added size loads widths height ranks a3 v2 hk hc) (cwV 1 C.1.2.2.2.2 gX4_distance_X4_checkBox rfl rfl rfl pv_X4_checkBox ⟨(Nat.le_of_ble_eq_true rfl), (Nat.le_of_ble_eq_true rfl)⟩) dX4_distance_7 rfl rfl rfl rfl rfl (Nat.le_of_ble_eq_true rfl) ⟨(Nat.le_of_ble_eq_true rfl), (Nat.le_of_ble_eq_true rfl)⟩ [0, 1, 2, 3, 4, 5, 6, 7, 8, 9] [] [0, 1, 2, 3, 4, 5, 6, 7, 8, 9] rfl rfl rfl rfl (by decide) rfl rfl (h_outK C X ⟨(Nat.le_of_ble_eq_true rfl), (Nat.le_of_ble_eq_true rfl)⟩)
  · replace hf := jif_f hk hf
    have g0 := (Prod.mk.inj (Option.some.inj hf)).1
    have g1 := (Prod.mk.inj (Option.some.inj hf)).2
    clear hf
    subst g0
    subst g1
    exact h_xS (pc := 2) (As := [.int a1, .int a2]) (rest := []) C X.1 (x_X4_checkPoint hX0 D cT ad n a1 a2 v1 hk hc) (va_cwS 2 C.1.2.2.2.2 gX4_distance_X4_checkPoint rfl rfl rfl ps_X4_checkPoint ⟨(Nat.le_of_ble_eq_true rfl), (Nat.le_of_ble_eq_true rfl)⟩) dX4_distance_2 rfl rfl (Nat.le_of_ble_eq_true rfl) ⟨(Nat.le_of_ble_eq_true rfl), (Nat.le_of_ble_eq_true rfl)⟩ (h_outK C X ⟨(Nat.le_of_ble_eq_true rfl), (Nat.le_of_ble_eq_true rfl)⟩)
abbrev rmX4_pairs : Room := { frames := 3, cells := 0, slots := 0, locals := 64 }
theorem uX4_pairs_X4 : ∀ w ∈ u_ws RX4 TX4 3, w ∈ wsX4_pairs := fun w h => List.mem_cons_of_mem _ (List.mem_append_left _ (List.mem_append_right _ h))
set_option maxRecDepth 100000 in
set_option maxHeartbeats 4000000 in
theorem k_X4_pairs_45 {p : Program} {e : Env} {s : State} {m : MethodId} {args : Array Value} {below : List Frame} {meth : Method} {c : Code} {A : Nat → Prop} (l : Launch) (D : va_G) (cT : Nat → ClassId) (ad : Nat → Nat) (C : hC p s m args meth c cX4_pairs 4 wsX4_pairs RX4 D (ty4 cT) A) (hr : meth.sig.returnType = (some .int)) (n : Nat) (areas : Nat → Int32) (keys : Nat → Int32) (there : Nat → Int32) (order : Nat → Int32) (added : Int32) (size : Int32) (loads : Nat → Int32) (widths : Nat → Int32) (height : Int32) (ranks : Nat → Int32) (r : Int32) (k4 : Int32 → Int32 → Option (Int32)) (K4 : ∀  (x1 : Int32) (x2 : Int32), k4 x1 x2 = some r → hS p l e rmX4_pairs s m args below meth c 4 D A 0 0 (MQ below (cQ D (ty4 cT) A (some (.int r)) (wX cT ad areas keys there order added size loads widths height ranks)) args s 0 0 A) 4 [(0, .ref (ad 0)), (1, .int x1), (2, .int x2)] [] (wX cT ad areas keys there order added size loads widths height ranks)) (k19 : Int32 → Int32 → Int32 → Option (Int32)) (K19 : ∀  (x1 : Int32) (x2 : Int32) (x3 : Int32), k19 x1 x2 x3 = some r → hS p l e rmX4_pairs s m args below meth c 4 D A 0 0 (MQ below (cQ D (ty4 cT) A (some (.int r)) (wX cT ad areas keys there order added size loads widths height ranks)) args s 0 0 A) 19 [(0, .ref (ad 0)), (1, .int x1), (2, .int x2), (3, .int x3)] [] (wX cT ad areas keys there order added size loads widths height ranks)) : ∀  (x1 : Int32) (x2 : Int32) (x3 : Int32), f_X4_pairs_45 n areas there added k4 k19 x1 x2 x3 = some r → hS p l e rmX4_pairs s m args below meth c 4 D A 0 0 (MQ below (cQ D (ty4 cT) A (some (.int r)) (wX cT ad areas keys there order added size loads widths height ranks)) args s 0 0 A) 45 [(0, .ref (ad 0)), (1, .int x1), (2, .int x2), (3, .int x3)] [] (wX cT ad areas keys there order added size loads widths height ranks) := by
  intro x1 x2 x3 hf
  unfold f_X4_pairs_45 at hf
  refine h_iinc (pc := 45) (v := x3 + 1) (lv' := [(3, .int (x3 + 1)), (0, .ref (ad 0)), (1, .int x1), (2, .int x2)]) C dX4_pairs_45 3 rfl (ji_1 _) (by decide) rfl ?_
  refine h_goto (pc := 48) (tgt := 19) C dX4_pairs_48 (by decide) ?_
  refine h_sub [1, 2, 3, 0] rfl ?_
  exact K19 x1 x2 (x3 + 1) hf
set_option maxRecDepth 100000 in
set_option maxHeartbeats 4000000 in
theorem k_X4_pairs_19 {p : Program} {e : Env} {s : State} {m : MethodId} {args : Array Value} {below : List Frame} {meth : Method} {c : Code} {A : Nat → Prop} (l : Launch) (D : va_G) (cT : Nat → ClassId) (ad : Nat → Nat) (C : hC p s m args meth c cX4_pairs 4 wsX4_pairs RX4 D (ty4 cT) A) (hr : meth.sig.returnType = (some .int)) (n : Nat) (areas : Nat → Int32) (keys : Nat → Int32) (there : Nat → Int32) (order : Nat → Int32) (added : Int32) (size : Int32) (loads : Nat → Int32) (widths : Nat → Int32) (height : Int32) (ranks : Nat → Int32) (r : Int32) (k4 : Int32 → Int32 → Option (Int32)) (K4 : ∀  (x1 : Int32) (x2 : Int32), k4 x1 x2 = some r → hS p l e rmX4_pairs s m args below meth c 4 D A 0 0 (MQ below (cQ D (ty4 cT) A (some (.int r)) (wX cT ad areas keys there order added size loads widths height ranks)) args s 0 0 A) 4 [(0, .ref (ad 0)), (1, .int x1), (2, .int x2)] [] (wX cT ad areas keys there order added size loads widths height ranks)) : ∀ (fu : Nat)  (x1 : Int32) (x2 : Int32) (x3 : Int32), f_X4_pairs_19 n areas there added k4 fu x1 x2 x3 = some r → hS p l e rmX4_pairs s m args below meth c 4 D A 0 0 (MQ below (cQ D (ty4 cT) A (some (.int r)) (wX cT ad areas keys there order added size loads widths height ranks)) args s 0 0 A) 19 [(0, .ref (ad 0)), (1, .int x1), (2, .int x2), (3, .int x3)] [] (wX cT ad areas keys there order added size loads widths height ranks) := by
  intro fu
  induction fu with
  | zero =>
    intro x1 x2 x3 hf
    exact nomatch (show (none : Option (Int32)) = some r from hf)
  | succ fu ih =>
    intro x1 x2 x3 hf
    rw [f_X4_pairs_19] at hf
    refine h_iload_n (pc := 19) C dX4_pairs_19 rfl 3 rfl ?_
    refine h_aload_n (pc := 20) C dX4_pairs_20 rfl 0 rfl ?_
    refine h_get (pc := 21) (ci := 2) (C0 := RX4) (T := TX4) (N := 3) C uX4_pairs_X4 rfl 0 rfl 0 (by decide) (List.mem_of_getElem? (i := 1) rfl) rfl rfl dX4_pairs_21 ?_
    obtain ⟨v2, hc, hf⟩ := jbd_s hf
    refine h_callV (pc := 24) (q0 := 1) (As := []) (rest := .int x3 :: []) (ws' := (wX cT ad areas keys there order added size loads widths height ranks)) (st2 := .int v2 :: .int x3 :: []) C (c_X2_added l D cT ad n areas keys there order added size v2 hc) (cwV 0 C.1.2.2.2.2 gX4_pairs_X2_added rfl rfl rfl pv_X2_added ⟨(Nat.le_of_ble_eq_true rfl), (Nat.le_of_ble_eq_true rfl)⟩) dX4_pairs_24 rfl rfl rfl rfl rfl (Nat.le_of_ble_eq_true rfl) ⟨rfl, rfl⟩ ⟨(Nat.le_of_ble_eq_true rfl), (Nat.le_of_ble_eq_true rfl)⟩ [1, 2, 3, 4, 5] [0, 6, 7, 8, 9] [0, 5, 6, 7, 8, 9, 1, 2, 3, 4] rfl rfl rfl rfl (by decide) rfl rfl rfl ?_
    clear hc
    refine h_icmp_ge (pc := 27) (tgt := 51) C dX4_pairs_27 (by decide) (fun q => ?_) (fun q => ?_)
    · replace hf := jif_t q hf
      clear q
      refine h_iinc (pc := 51) (v := x2 + 1) (lv' := [(2, .int (x2 + 1)), (0, .ref (ad 0)), (1, .int x1), (3, .int x3)]) C dX4_pairs_51 2 rfl (ji_1 _) (by decide) rfl ?_
      refine h_goto (pc := 54) (tgt := 4) C dX4_pairs_54 (by decide) ?_
      refine h_sub [1, 2, 0] rfl ?_
      exact K4 x1 (x2 + 1) hf
    · replace hf := jif_f q hf
      clear q
      refine h_aload_n (pc := 30) C dX4_pairs_30 rfl 0 rfl ?_
      refine h_get (pc := 31) (ci := 2) (C0 := RX4) (T := TX4) (N := 3) C uX4_pairs_X4 rfl 0 rfl 0 (by decide) (List.mem_of_getElem? (i := 1) rfl) rfl rfl dX4_pairs_31 ?_
      refine h_iload_n (pc := 34) C dX4_pairs_34 rfl 2 rfl ?_
      refine h_iload_n (pc := 35) C dX4_pairs_35 rfl 3 rfl ?_
      obtain ⟨v3, hc, hf⟩ := jbd_s hf
      refine h_callV (pc := 36) (q0 := 1) (As := [.int x2, .int x3]) (rest := []) (ws' := (wX cT ad areas keys there order added size loads widths height ranks)) (st2 := .int v3 :: []) C (c_X2_haveMet l D cT ad n areas keys there order added size x2 x3 v3 hc) (cwV 2 C.1.2.2.2.2 gX4_pairs_X2_haveMet rfl rfl rfl pv_X2_haveMet ⟨(Nat.le_of_ble_eq_true rfl), (Nat.le_of_ble_eq_true rfl)⟩) dX4_pairs_36 rfl rfl rfl rfl rfl (Nat.le_of_ble_eq_true rfl) ⟨rfl, rfl⟩ ⟨(Nat.le_of_ble_eq_true rfl), (Nat.le_of_ble_eq_true rfl)⟩ [1, 2, 3, 4, 5] [0, 6, 7, 8, 9] [0, 5, 6, 7, 8, 9, 1, 2, 3, 4] rfl rfl rfl rfl (by decide) rfl rfl rfl ?_
      clear hc
      refine h_if_eq (pc := 39) (tgt := 45) C dX4_pairs_39 (by decide) (fun q => ?_) (fun q => ?_)
      · replace hf := jif_t q hf
        clear q
        exact k_X4_pairs_45 l D cT ad C hr n areas keys there order added size loads widths height ranks r k4 K4 (f_X4_pairs_19 n areas there added k4 fu) ih x1 x2 x3 hf
      · replace hf := jif_f q hf
        clear q
        refine h_iinc (pc := 42) (v := x1 + 1) (lv' := [(1, .int (x1 + 1)), (0, .ref (ad 0)), (2, .int x2), (3, .int x3)]) C dX4_pairs_42 1 rfl (ji_1 _) (by decide) rfl ?_
        refine h_sub [1, 0, 2, 3] rfl ?_
        exact k_X4_pairs_45 l D cT ad C hr n areas keys there order added size loads widths height ranks r k4 K4 (f_X4_pairs_19 n areas there added k4 fu) ih (x1 + 1) x2 x3 hf
set_option maxRecDepth 100000 in
set_option maxHeartbeats 4000000 in
theorem k_X4_pairs_4 {p : Program} {e : Env} {s : State} {m : MethodId} {args : Array Value} {below : List Frame} {meth : Method} {c : Code} {A : Nat → Prop} (l : Launch) (D : va_G) (cT : Nat → ClassId) (ad : Nat → Nat) (C : hC p s m args meth c cX4_pairs 4 wsX4_pairs RX4 D (ty4 cT) A) (hr : meth.sig.returnType = (some .int)) (n : Nat) (areas : Nat → Int32) (keys : Nat → Int32) (there : Nat → Int32) (order : Nat → Int32) (added : Int32) (size : Int32) (loads : Nat → Int32) (widths : Nat → Int32) (height : Int32) (ranks : Nat → Int32) (r : Int32)  : ∀ (fu : Nat)  (x1 : Int32) (x2 : Int32), f_X4_pairs_4 n areas there added fu x1 x2 = some r → hS p l e rmX4_pairs s m args below meth c 4 D A 0 0 (MQ below (cQ D (ty4 cT) A (some (.int r)) (wX cT ad areas keys there order added size loads widths height ranks)) args s 0 0 A) 4 [(0, .ref (ad 0)), (1, .int x1), (2, .int x2)] [] (wX cT ad areas keys there order added size loads widths height ranks) := by
  intro fu
  induction fu with
  | zero =>
    intro x1 x2 hf
    exact nomatch (show (none : Option (Int32)) = some r from hf)
  | succ fu ih =>
    intro x1 x2 hf
    rw [f_X4_pairs_4] at hf
    refine h_iload_n (pc := 4) C dX4_pairs_4 rfl 2 rfl ?_
    refine h_aload_n (pc := 5) C dX4_pairs_5 rfl 0 rfl ?_
    refine h_get (pc := 6) (ci := 2) (C0 := RX4) (T := TX4) (N := 3) C uX4_pairs_X4 rfl 0 rfl 0 (by decide) (List.mem_of_getElem? (i := 1) rfl) rfl rfl dX4_pairs_6 ?_
    obtain ⟨v1, hc, hf⟩ := jbd_s hf
    refine h_callV (pc := 9) (q0 := 1) (As := []) (rest := .int x2 :: []) (ws' := (wX cT ad areas keys there order added size loads widths height ranks)) (st2 := .int v1 :: .int x2 :: []) C (c_X2_added l D cT ad n areas keys there order added size v1 hc) (cwV 0 C.1.2.2.2.2 gX4_pairs_X2_added rfl rfl rfl pv_X2_added ⟨(Nat.le_of_ble_eq_true rfl), (Nat.le_of_ble_eq_true rfl)⟩) dX4_pairs_9 rfl rfl rfl rfl rfl (Nat.le_of_ble_eq_true rfl) ⟨rfl, rfl⟩ ⟨(Nat.le_of_ble_eq_true rfl), (Nat.le_of_ble_eq_true rfl)⟩ [1, 2, 3, 4, 5] [0, 6, 7, 8, 9] [0, 5, 6, 7, 8, 9, 1, 2, 3, 4] rfl rfl rfl rfl (by decide) rfl rfl rfl ?_
    clear hc
    refine h_icmp_ge (pc := 12) (tgt := 57) C dX4_pairs_12 (by decide) (fun q => ?_) (fun q => ?_)
    · replace hf := jif_t q hf
      clear q
      refine h_iload_n (pc := 57) C dX4_pairs_57 rfl 1 rfl ?_
      have g0 := (Option.some.inj hf)
      clear hf
      subst g0
      exact h_iret C hr dX4_pairs_58
    · replace hf := jif_f q hf
      clear q
      refine h_iload_n (pc := 15) C dX4_pairs_15 rfl 2 rfl ?_
      refine h_iconst (pc := 16) C dX4_pairs_16 jc_1 ?_
      refine h_iadd (pc := 17) C dX4_pairs_17 ?_
      refine h_istore_n (pc := 18) (lv' := [(3, .int (x2 + 1)), (0, .ref (ad 0)), (1, .int x1), (2, .int x2)]) C dX4_pairs_18 rfl (by decide) rfl ?_
      refine h_sub [1, 2, 3, 0] rfl ?_
      exact k_X4_pairs_19 l D cT ad C hr n areas keys there order added size loads widths height ranks r (f_X4_pairs_4 n areas there added fu) ih n x1 x2 (x2 + 1) hf
set_option maxRecDepth 100000 in
set_option maxHeartbeats 4000000 in
theorem c_X4_pairs (l : Launch) (D : va_G) (cT : Nat → ClassId) (ad : Nat → Nat) (n : Nat) (areas : Nat → Int32) (keys : Nat → Int32) (there : Nat → Int32) (order : Nat → Int32) (added : Int32) (size : Int32) (loads : Nat → Int32) (widths : Nat → Int32) (height : Int32) (ranks : Nat → Int32)  (r : Int32) (hf : f_X4_pairs n areas there added = some r) : cM l yX4_pairs wsX4_pairs rmX4_pairs D (ty4 cT) [.ref (ad 0)] (wX cT ad areas keys there order added size loads widths height ranks) (some (.int r)) (wX cT ad areas keys there order added size loads widths height ranks) := by
  refine cM_of (cc := cX4_pairs) (maxL := 4) (ret := (some .int)) (own := RX4) (lv := [(0, .ref (ad 0))]) (by decide) rfl (Nat.le_of_ble_eq_true rfl) rfl rfl ?_
  intro p e s m args below meth c A C hr
  unfold f_X4_pairs at hf
  refine h_iconst (pc := 0) C dX4_pairs_0 jc_0 ?_
  refine h_istore_n (pc := 1) (lv' := [(1, .int 0), (0, .ref (ad 0))]) C dX4_pairs_1 rfl (by decide) rfl ?_
  refine h_iconst (pc := 2) C dX4_pairs_2 jc_0 ?_
  refine h_istore_n (pc := 3) (lv' := [(2, .int 0), (1, .int 0), (0, .ref (ad 0))]) C dX4_pairs_3 rfl (by decide) rfl ?_
  refine h_sub [2, 1, 0] rfl ?_
  exact k_X4_pairs_4 l D cT ad C hr n areas keys there order added size loads widths height ranks r n 0 0 hf
theorem pv_X4_pairs : yX4_pairs.cls = RX4 ∧ yX4_pairs.cls ≠ "java/lang/invoke/MethodHandle" ∧ yX4_pairs.cls ≠ "java/lang/invoke/VarHandle" ∧ (parseMethodDescriptor yX4_pairs.desc).map (fun d => d.parameters.length) = some 0 := by decide +kernel
abbrev rmX4_pair : Room := { frames := 6, cells := 0, slots := 0, locals := 90 }
theorem uX4_pair_X4 : ∀ w ∈ u_ws RX4 TX4 3, w ∈ wsX4_pair := fun w h => List.mem_cons_of_mem _ (List.mem_append_left _ (List.mem_append_left _ (List.mem_append_right _ h)))
set_option maxRecDepth 100000 in
set_option maxHeartbeats 4000000 in
theorem k_X4_pair_61 {p : Program} {e : Env} {s : State} {m : MethodId} {args : Array Value} {below : List Frame} {meth : Method} {c : Code} {A : Nat → Prop} (l : Launch) (D : va_G) (cT : Nat → ClassId) (ad : Nat → Nat) (C : hC p s m args meth c cX4_pair 5 wsX4_pair RX4 D (ty4 cT) A) (hr : meth.sig.returnType = (some .int)) (n : Nat) (areas : Nat → Int32) (keys : Nat → Int32) (there : Nat → Int32) (order : Nat → Int32) (added : Int32) (size : Int32) (loads : Nat → Int32) (widths : Nat → Int32) (height : Int32) (ranks : Nat → Int32) (r : Int32) (k : Nat) (hk0 : k = 0) (k4 : Int32 → Int32 → Int32 → Option (Nat × Int32)) (K4 : ∀  (x1 : Int32) (x2 : Int32) (x3 : Int32), k4 x1 x2 x3 = some (k, r) → hS p l e rmX4_pair s m args below meth c 5 D A 0 0 (MQ below (cQ D (ty4 cT) A (some (.int r)) (wX cT ad areas keys there order added size loads widths height ranks)) args s 0 0 A) 4 [(0, .ref (ad 0)), (1, .int x1), (2, .int x2), (3, .int x3)] [] (wX cT ad areas keys there order added size loads widths height ranks)) (k20 : Int32 → Int32 → Int32 → Int32 → Option (Nat × Int32)) (K20 : ∀  (x1 : Int32) (x2 : Int32) (x3 : Int32) (x4 : Int32), k20 x1 x2 x3 x4 = some (k, r) → hS p l e rmX4_pair s m args below meth c 5 D A 0 0 (MQ below (cQ D (ty4 cT) A (some (.int r)) (wX cT ad areas keys there order added size loads widths height ranks)) args s 0 0 A) 20 [(0, .ref (ad 0)), (1, .int x1), (2, .int x2), (3, .int x3), (4, .int x4)] [] (wX cT ad areas keys there order added size loads widths height ranks)) : ∀  (x1 : Int32) (x2 : Int32) (x3 : Int32) (x4 : Int32), f_X4_pair_61 n areas there added k4 k20 x1 x2 x3 x4 = some (k, r) → hS p l e rmX4_pair s m args below meth c 5 D A 0 0 (MQ below (cQ D (ty4 cT) A (some (.int r)) (wX cT ad areas keys there order added size loads widths height ranks)) args s 0 0 A) 61 [(0, .ref (ad 0)), (1, .int x1), (2, .int x2), (3, .int x3), (4, .int x4)] [] (wX cT ad areas keys there order added size loads widths height ranks) := by
  intro x1 x2 x3 x4 hf
  unfold f_X4_pair_61 at hf
  refine h_iinc (pc := 61) (v := x4 + 1) (lv' := [(4, .int (x4 + 1)), (0, .ref (ad 0)), (1, .int x1), (2, .int x2), (3, .int x3)]) C dX4_pair_61 4 rfl (ji_1 _) (by decide) rfl ?_
  refine h_goto (pc := 64) (tgt := 20) C dX4_pair_64 (by decide) ?_
  refine h_sub [1, 2, 3, 4, 0] rfl ?_
  exact K20 x1 x2 x3 (x4 + 1) hf
set_option maxRecDepth 100000 in
set_option maxHeartbeats 4000000 in
theorem k_X4_pair_20 {p : Program} {e : Env} {s : State} {m : MethodId} {args : Array Value} {below : List Frame} {meth : Method} {c : Code} {A : Nat → Prop} (l : Launch) (D : va_G) (cT : Nat → ClassId) (ad : Nat → Nat) (C : hC p s m args meth c cX4_pair 5 wsX4_pair RX4 D (ty4 cT) A) (hr : meth.sig.returnType = (some .int)) (n : Nat) (areas : Nat → Int32) (keys : Nat → Int32) (there : Nat → Int32) (order : Nat → Int32) (added : Int32) (size : Int32) (loads : Nat → Int32) (widths : Nat → Int32) (height : Int32) (ranks : Nat → Int32) (r : Int32) (k : Nat) (hk0 : k = 0) (k4 : Int32 → Int32 → Int32 → Option (Nat × Int32)) (K4 : ∀  (x1 : Int32) (x2 : Int32) (x3 : Int32), k4 x1 x2 x3 = some (k, r) → hS p l e rmX4_pair s m args below meth c 5 D A 0 0 (MQ below (cQ D (ty4 cT) A (some (.int r)) (wX cT ad areas keys there order added size loads widths height ranks)) args s 0 0 A) 4 [(0, .ref (ad 0)), (1, .int x1), (2, .int x2), (3, .int x3)] [] (wX cT ad areas keys there order added size loads widths height ranks)) : ∀ (fu : Nat)  (x1 : Int32) (x2 : Int32) (x3 : Int32) (x4 : Int32), f_X4_pair_20 n areas there added k4 fu x1 x2 x3 x4 = some (k, r) → hS p l e rmX4_pair s m args below meth c 5 D A 0 0 (MQ below (cQ D (ty4 cT) A (some (.int r)) (wX cT ad areas keys there order added size loads widths height ranks)) args s 0 0 A) 20 [(0, .ref (ad 0)), (1, .int x1), (2, .int x2), (3, .int x3), (4, .int x4)] [] (wX cT ad areas keys there order added size loads widths height ranks) := by
  intro fu
  induction fu with
  | zero =>
    intro x1 x2 x3 x4 hf
    exact nomatch (show (none : Option (Nat × Int32)) = some (k, r) from hf)
  | succ fu ih =>
    intro x1 x2 x3 x4 hf
    rw [f_X4_pair_20] at hf
    refine h_iload (pc := 20) C dX4_pair_20 4 rfl ?_
    refine h_aload_n (pc := 22) C dX4_pair_22 rfl 0 rfl ?_
    refine h_get (pc := 23) (ci := 2) (C0 := RX4) (T := TX4) (N := 3) C uX4_pair_X4 rfl 0 rfl 0 (by decide) (List.mem_of_getElem? (i := 3) rfl) rfl rfl dX4_pair_23 ?_
    obtain ⟨v2, hc, hf⟩ := jbd_s hf
    refine h_callV (pc := 26) (q0 := 1) (As := []) (rest := .int x4 :: []) (ws' := (wX cT ad areas keys there order added size loads widths height ranks)) (st2 := .int v2 :: .int x4 :: []) C (c_X2_added l D cT ad n areas keys there order added size v2 hc) (cwV 0 C.1.2.2.2.2 gX4_pair_X2_added rfl rfl rfl pv_X2_added ⟨(Nat.le_of_ble_eq_true rfl), (Nat.le_of_ble_eq_true rfl)⟩) dX4_pair_26 rfl rfl rfl rfl rfl (Nat.le_of_ble_eq_true rfl) ⟨rfl, rfl⟩ ⟨(Nat.le_of_ble_eq_true rfl), (Nat.le_of_ble_eq_true rfl)⟩ [1, 2, 3, 4, 5] [0, 6, 7, 8, 9] [0, 5, 6, 7, 8, 9, 1, 2, 3, 4] rfl rfl rfl rfl (by decide) rfl rfl rfl ?_
    clear hc
    refine h_icmp_ge (pc := 29) (tgt := 67) C dX4_pair_29 (by decide) (fun q => ?_) (fun q => ?_)
    · replace hf := jif_t q hf
      clear q
      refine h_iinc (pc := 67) (v := x3 + 1) (lv' := [(3, .int (x3 + 1)), (0, .ref (ad 0)), (1, .int x1), (2, .int x2), (4, .int x4)]) C dX4_pair_67 3 rfl (ji_1 _) (by decide) rfl ?_
      refine h_goto (pc := 70) (tgt := 4) C dX4_pair_70 (by decide) ?_
      refine h_sub [1, 2, 3, 0] rfl ?_
      exact K4 x1 x2 (x3 + 1) hf
    · replace hf := jif_f q hf
      clear q
      refine h_aload_n (pc := 32) C dX4_pair_32 rfl 0 rfl ?_
      refine h_get (pc := 33) (ci := 2) (C0 := RX4) (T := TX4) (N := 3) C uX4_pair_X4 rfl 0 rfl 0 (by decide) (List.mem_of_getElem? (i := 3) rfl) rfl rfl dX4_pair_33 ?_
      refine h_iload_n (pc := 36) C dX4_pair_36 rfl 3 rfl ?_
      refine h_iload (pc := 37) C dX4_pair_37 4 rfl ?_
      obtain ⟨v3, hc, hf⟩ := jbd_s hf
      refine h_callV (pc := 39) (q0 := 1) (As := [.int x3, .int x4]) (rest := []) (ws' := (wX cT ad areas keys there order added size loads widths height ranks)) (st2 := .int v3 :: []) C (c_X2_haveMet l D cT ad n areas keys there order added size x3 x4 v3 hc) (cwV 2 C.1.2.2.2.2 gX4_pair_X2_haveMet rfl rfl rfl pv_X2_haveMet ⟨(Nat.le_of_ble_eq_true rfl), (Nat.le_of_ble_eq_true rfl)⟩) dX4_pair_39 rfl rfl rfl rfl rfl (Nat.le_of_ble_eq_true rfl) ⟨rfl, rfl⟩ ⟨(Nat.le_of_ble_eq_true rfl), (Nat.le_of_ble_eq_true rfl)⟩ [1, 2, 3, 4, 5] [0, 6, 7, 8, 9] [0, 5, 6, 7, 8, 9, 1, 2, 3, 4] rfl rfl rfl rfl (by decide) rfl rfl rfl ?_
      clear hc
      refine h_if_eq (pc := 42) (tgt := 61) C dX4_pair_42 (by decide) (fun q => ?_) (fun q => ?_)
      · replace hf := jif_t q hf
        clear q
        exact k_X4_pair_61 l D cT ad C hr n areas keys there order added size loads widths height ranks r k hk0 k4 K4 (f_X4_pair_20 n areas there added k4 fu) ih x1 x2 x3 x4 hf
      · replace hf := jif_f q hf
        clear q
        refine h_iload_n (pc := 45) C dX4_pair_45 rfl 2 rfl ?_
        refine h_iload_n (pc := 46) C dX4_pair_46 rfl 1 rfl ?_
        refine h_icmp_ne (pc := 47) (tgt := 58) C dX4_pair_47 (by decide) (fun q => ?_) (fun q => ?_)
        · replace hf := jif_f q hf
          clear q
          refine h_iinc (pc := 58) (v := x2 + 1) (lv' := [(2, .int (x2 + 1)), (0, .ref (ad 0)), (1, .int x1), (3, .int x3), (4, .int x4)]) C dX4_pair_58 2 rfl (ji_1 _) (by decide) rfl ?_
          refine h_sub [1, 2, 0, 3, 4] rfl ?_
          exact k_X4_pair_61 l D cT ad C hr n areas keys there order added size loads widths height ranks r k hk0 k4 K4 (f_X4_pair_20 n areas there added k4 fu) ih x1 (x2 + 1) x3 x4 hf
        · replace hf := jif_t q hf
          clear q
          refine h_bipush (pc := 50) C dX4_pair_50 jb_100 ?_
          refine h_iload_n (pc := 52) C dX4_pair_52 rfl 3 rfl ?_
          refine h_imul (pc := 53) C dX4_pair_53 ?_
          refine h_iload (pc := 54) C dX4_pair_54 4 rfl ?_
          refine h_iadd (pc := 56) C dX4_pair_56 ?_
          have g0 := (Prod.mk.inj (Option.some.inj hf)).1
          have g1 := (Prod.mk.inj (Option.some.inj hf)).2
          clear hf
          subst g0
          subst g1
          exact h_iret C hr dX4_pair_57
set_option maxRecDepth 100000 in
set_option maxHeartbeats 4000000 in
theorem k_X4_pair_4 {p : Program} {e : Env} {s : State} {m : MethodId} {args : Array Value} {below : List Frame} {meth : Method} {c : Code} {A : Nat → Prop} (l : Launch) (D : va_G) (cT : Nat → ClassId) (ad : Nat → Nat) (C : hC p s m args meth c cX4_pair 5 wsX4_pair RX4 D (ty4 cT) A) (hr : meth.sig.returnType = (some .int)) (n : Nat) (areas : Nat → Int32) (keys : Nat → Int32) (there : Nat → Int32) (order : Nat → Int32) (added : Int32) (size : Int32) (loads : Nat → Int32) (widths : Nat → Int32) (height : Int32) (ranks : Nat → Int32) (r : Int32) (k : Nat) (hk0 : k = 0)  : ∀ (fu : Nat)  (x1 : Int32) (x2 : Int32) (x3 : Int32), f_X4_pair_4 n areas there added fu x1 x2 x3 = some (k, r) → hS p l e rmX4_pair s m args below meth c 5 D A 0 0 (MQ below (cQ D (ty4 cT) A (some (.int r)) (wX cT ad areas keys there order added size loads widths height ranks)) args s 0 0 A) 4 [(0, .ref (ad 0)), (1, .int x1), (2, .int x2), (3, .int x3)] [] (wX cT ad areas keys there order added size loads widths height ranks) := by
  intro fu
  induction fu with
  | zero =>
    intro x1 x2 x3 hf
    exact nomatch (show (none : Option (Nat × Int32)) = some (k, r) from hf)
  | succ fu ih =>
    intro x1 x2 x3 hf
    rw [f_X4_pair_4] at hf
    refine h_iload_n (pc := 4) C dX4_pair_4 rfl 3 rfl ?_
    refine h_aload_n (pc := 5) C dX4_pair_5 rfl 0 rfl ?_
    refine h_get (pc := 6) (ci := 2) (C0 := RX4) (T := TX4) (N := 3) C uX4_pair_X4 rfl 0 rfl 0 (by decide) (List.mem_of_getElem? (i := 3) rfl) rfl rfl dX4_pair_6 ?_
    obtain ⟨v1, hc, hf⟩ := jbd_s hf
    refine h_callV (pc := 9) (q0 := 1) (As := []) (rest := .int x3 :: []) (ws' := (wX cT ad areas keys there order added size loads widths height ranks)) (st2 := .int v1 :: .int x3 :: []) C (c_X2_added l D cT ad n areas keys there order added size v1 hc) (cwV 0 C.1.2.2.2.2 gX4_pair_X2_added rfl rfl rfl pv_X2_added ⟨(Nat.le_of_ble_eq_true rfl), (Nat.le_of_ble_eq_true rfl)⟩) dX4_pair_9 rfl rfl rfl rfl rfl (Nat.le_of_ble_eq_true rfl) ⟨rfl, rfl⟩ ⟨(Nat.le_of_ble_eq_true rfl), (Nat.le_of_ble_eq_true rfl)⟩ [1, 2, 3, 4, 5] [0, 6, 7, 8, 9] [0, 5, 6, 7, 8, 9, 1, 2, 3, 4] rfl rfl rfl rfl (by decide) rfl rfl rfl ?_
    clear hc
    refine h_icmp_ge (pc := 12) (tgt := 73) C dX4_pair_12 (by decide) (fun q => ?_) (fun q => ?_)
    · replace hf := jif_t q hf
      clear q
      exact absurd ((Prod.mk.inj (Option.some.inj hf)).1.trans hk0) (by decide)
    · replace hf := jif_f q hf
      clear q
      refine h_iload_n (pc := 15) C dX4_pair_15 rfl 3 rfl ?_
      refine h_iconst (pc := 16) C dX4_pair_16 jc_1 ?_
      refine h_iadd (pc := 17) C dX4_pair_17 ?_
      refine h_istore (pc := 18) (lv' := [(4, .int (x3 + 1)), (0, .ref (ad 0)), (1, .int x1), (2, .int x2), (3, .int x3)]) C dX4_pair_18 (by decide) rfl ?_
      refine h_sub [1, 2, 3, 4, 0] rfl ?_
      exact k_X4_pair_20 l D cT ad C hr n areas keys there order added size loads widths height ranks r k hk0 (f_X4_pair_4 n areas there added fu) ih n x1 x2 x3 (x3 + 1) hf
set_option maxRecDepth 100000 in
set_option maxHeartbeats 4000000 in
theorem c_X4_pair (l : Launch) (D : va_G) (cT : Nat → ClassId) (ad : Nat → Nat) (n : Nat) (areas : Nat → Int32) (keys : Nat → Int32) (there : Nat → Int32) (order : Nat → Int32) (added : Int32) (size : Int32) (loads : Nat → Int32) (widths : Nat → Int32) (height : Int32) (ranks : Nat → Int32) (a1 : Int32) (r : Int32) (k : Nat) (hk0 : k = 0) (hf : f_X4_pair n areas there added a1 = some (k, r)) : cM l yX4_pair wsX4_pair rmX4_pair D (ty4 cT) [.ref (ad 0), .int a1] (wX cT ad areas keys there order added size loads widths height ranks) (some (.int r)) (wX cT ad areas keys there order added size loads widths height ranks) := by
  refine cM_of (cc := cX4_pair) (maxL := 5) (ret := (some .int)) (own := RX4) (lv := [(0, .ref (ad 0)), (1, .int a1)]) (by decide) rfl (Nat.le_of_ble_eq_true rfl) rfl rfl ?_
  intro p e s m args below meth c A C hr
  unfold f_X4_pair at hf
  refine h_iconst (pc := 0) C dX4_pair_0 jc_0 ?_
  refine h_istore_n (pc := 1) (lv' := [(2, .int 0), (0, .ref (ad 0)), (1, .int a1)]) C dX4_pair_1 rfl (by decide) rfl ?_
  refine h_iconst (pc := 2) C dX4_pair_2 jc_0 ?_
  refine h_istore_n (pc := 3) (lv' := [(3, .int 0), (2, .int 0), (0, .ref (ad 0)), (1, .int a1)]) C dX4_pair_3 rfl (by decide) rfl ?_
  refine h_sub [2, 3, 1, 0] rfl ?_
  exact k_X4_pair_4 l D cT ad C hr n areas keys there order added size loads widths height ranks r k hk0 n a1 0 0 hf
theorem pv_X4_pair : yX4_pair.cls = RX4 ∧ yX4_pair.cls ≠ "java/lang/invoke/MethodHandle" ∧ yX4_pair.cls ≠ "java/lang/invoke/VarHandle" ∧ (parseMethodDescriptor yX4_pair.desc).map (fun d => d.parameters.length) = some 1 := by decide +kernel
abbrev rxX4_pair : Room := { frames := 6, cells := 1, slots := 6, locals := 90 }
set_option maxRecDepth 100000 in
set_option maxHeartbeats 4000000 in
theorem kx_X4_pair_61 {p : Program} {e : Env} {s : State} {m : MethodId} {args : Array Value} {below : List Frame} {meth : Method} {c : Code} {A : Nat → Prop} {l : Launch} (hX0 : l.stackTraces = false) (D : va_G) (cT : Nat → ClassId) (ad : Nat → Nat) (C : hC p s m args meth c cX4_pair 5 wsX4_pair RX4 D (ty4 cT) A) (X : hX l s c A) (n : Nat) (areas : Nat → Int32) (keys : Nat → Int32) (there : Nat → Int32) (order : Nat → Int32) (added : Int32) (size : Int32) (loads : Nat → Int32) (widths : Nat → Int32) (height : Int32) (ranks : Nat → Int32) (r : Int32) (k : Nat) (hk0 : ¬ k = 0) (k4 : Int32 → Int32 → Int32 → Option (Nat × Int32)) (K4 : ∀  (x1 : Int32) (x2 : Int32) (x3 : Int32), k4 x1 x2 x3 = some (k, r) → hS p l e rxX4_pair s m args below meth c 5 D A 0 0 (vx_MQ below (fun _ _ _ _ => False) (xX D (ty4 cT) A (xE k) (wX cT ad areas keys there order added size loads widths height ranks)) args s 1 6 A) 4 [(0, .ref (ad 0)), (1, .int x1), (2, .int x2), (3, .int x3)] [] (wX cT ad areas keys there order added size loads widths height ranks)) (k20 : Int32 → Int32 → Int32 → Int32 → Option (Nat × Int32)) (K20 : ∀  (x1 : Int32) (x2 : Int32) (x3 : Int32) (x4 : Int32), k20 x1 x2 x3 x4 = some (k, r) → hS p l e rxX4_pair s m args below meth c 5 D A 0 0 (vx_MQ below (fun _ _ _ _ => False) (xX D (ty4 cT) A (xE k) (wX cT ad areas keys there order added size loads widths height ranks)) args s 1 6 A) 20 [(0, .ref (ad 0)), (1, .int x1), (2, .int x2), (3, .int x3), (4, .int x4)] [] (wX cT ad areas keys there order added size loads widths height ranks)) : ∀  (x1 : Int32) (x2 : Int32) (x3 : Int32) (x4 : Int32), f_X4_pair_61 n areas there added k4 k20 x1 x2 x3 x4 = some (k, r) → hS p l e rxX4_pair s m args below meth c 5 D A 0 0 (vx_MQ below (fun _ _ _ _ => False) (xX D (ty4 cT) A (xE k) (wX cT ad areas keys there order added size loads widths height ranks)) args s 1 6 A) 61 [(0, .ref (ad 0)), (1, .int x1), (2, .int x2), (3, .int x3), (4, .int x4)] [] (wX cT ad areas keys there order added size loads widths height ranks) := by
  intro x1 x2 x3 x4 hf
  unfold f_X4_pair_61 at hf
  refine h_iinc (pc := 61) (v := x4 + 1) (lv' := [(4, .int (x4 + 1)), (0, .ref (ad 0)), (1, .int x1), (2, .int x2), (3, .int x3)]) C dX4_pair_61 4 rfl (ji_1 _) (by decide) rfl ?_
  refine h_goto (pc := 64) (tgt := 20) C dX4_pair_64 (by decide) ?_
  refine h_sub [1, 2, 3, 4, 0] rfl ?_
  exact K20 x1 x2 x3 (x4 + 1) hf
set_option maxRecDepth 100000 in
set_option maxHeartbeats 4000000 in
theorem kx_X4_pair_20 {p : Program} {e : Env} {s : State} {m : MethodId} {args : Array Value} {below : List Frame} {meth : Method} {c : Code} {A : Nat → Prop} {l : Launch} (hX0 : l.stackTraces = false) (D : va_G) (cT : Nat → ClassId) (ad : Nat → Nat) (C : hC p s m args meth c cX4_pair 5 wsX4_pair RX4 D (ty4 cT) A) (X : hX l s c A) (n : Nat) (areas : Nat → Int32) (keys : Nat → Int32) (there : Nat → Int32) (order : Nat → Int32) (added : Int32) (size : Int32) (loads : Nat → Int32) (widths : Nat → Int32) (height : Int32) (ranks : Nat → Int32) (r : Int32) (k : Nat) (hk0 : ¬ k = 0) (k4 : Int32 → Int32 → Int32 → Option (Nat × Int32)) (K4 : ∀  (x1 : Int32) (x2 : Int32) (x3 : Int32), k4 x1 x2 x3 = some (k, r) → hS p l e rxX4_pair s m args below meth c 5 D A 0 0 (vx_MQ below (fun _ _ _ _ => False) (xX D (ty4 cT) A (xE k) (wX cT ad areas keys there order added size loads widths height ranks)) args s 1 6 A) 4 [(0, .ref (ad 0)), (1, .int x1), (2, .int x2), (3, .int x3)] [] (wX cT ad areas keys there order added size loads widths height ranks)) : ∀ (fu : Nat)  (x1 : Int32) (x2 : Int32) (x3 : Int32) (x4 : Int32), f_X4_pair_20 n areas there added k4 fu x1 x2 x3 x4 = some (k, r) → hS p l e rxX4_pair s m args below meth c 5 D A 0 0 (vx_MQ below (fun _ _ _ _ => False) (xX D (ty4 cT) A (xE k) (wX cT ad areas keys there order added size loads widths height ranks)) args s 1 6 A) 20 [(0, .ref (ad 0)), (1, .int x1), (2, .int x2), (3, .int x3), (4, .int x4)] [] (wX cT ad areas keys there order added size loads widths height ranks) := by
  intro fu
  induction fu with
  | zero =>
    intro x1 x2 x3 x4 hf
    exact nomatch (show (none : Option (Nat × Int32)) = some (k, r) from hf)
  | succ fu ih =>
    intro x1 x2 x3 x4 hf
    rw [f_X4_pair_20] at hf
    refine h_iload (pc := 20) C dX4_pair_20 4 rfl ?_
    refine h_aload_n (pc := 22) C dX4_pair_22 rfl 0 rfl ?_
    refine h_get (pc := 23) (ci := 2) (C0 := RX4) (T := TX4) (N := 3) C uX4_pair_X4 rfl 0 rfl 0 (by decide) (List.mem_of_getElem? (i := 3) rfl) rfl rfl dX4_pair_23 ?_
    obtain ⟨v2, hc, hf⟩ := jbd_s hf
    refine h_callV (pc := 26) (q0 := 1) (As := []) (rest := .int x4 :: []) (ws' := (wX cT ad areas keys there order added size loads widths height ranks)) (st2 := .int v2 :: .int x4 :: []) C (c_X2_added l D cT ad n areas keys there order added size v2 hc) (cwV 0 C.1.2.2.2.2 gX4_pair_X2_added rfl rfl rfl pv_X2_added ⟨(Nat.le_of_ble_eq_true rfl), (Nat.le_of_ble_eq_true rfl)⟩) dX4_pair_26 rfl rfl rfl rfl rfl (Nat.le_of_ble_eq_true rfl) ⟨rfl, rfl⟩ ⟨(Nat.le_of_ble_eq_true rfl), (Nat.le_of_ble_eq_true rfl)⟩ [1, 2, 3, 4, 5] [0, 6, 7, 8, 9] [0, 5, 6, 7, 8, 9, 1, 2, 3, 4] rfl rfl rfl rfl (by decide) rfl rfl rfl ?_
    clear hc
    refine h_icmp_ge (pc := 29) (tgt := 67) C dX4_pair_29 (by decide) (fun q => ?_) (fun q => ?_)
    · replace hf := jif_t q hf
      clear q
      refine h_iinc (pc := 67) (v := x3 + 1) (lv' := [(3, .int (x3 + 1)), (0, .ref (ad 0)), (1, .int x1), (2, .int x2), (4, .int x4)]) C dX4_pair_67 3 rfl (ji_1 _) (by decide) rfl ?_
      refine h_goto (pc := 70) (tgt := 4) C dX4_pair_70 (by decide) ?_
      refine h_sub [1, 2, 3, 0] rfl ?_
      exact K4 x1 x2 (x3 + 1) hf
    · replace hf := jif_f q hf
      clear q
      refine h_aload_n (pc := 32) C dX4_pair_32 rfl 0 rfl ?_
      refine h_get (pc := 33) (ci := 2) (C0 := RX4) (T := TX4) (N := 3) C uX4_pair_X4 rfl 0 rfl 0 (by decide) (List.mem_of_getElem? (i := 3) rfl) rfl rfl dX4_pair_33 ?_
      refine h_iload_n (pc := 36) C dX4_pair_36 rfl 3 rfl ?_
      refine h_iload (pc := 37) C dX4_pair_37 4 rfl ?_
      obtain ⟨v3, hc, hf⟩ := jbd_s hf
      refine h_callV (pc := 39) (q0 := 1) (As := [.int x3, .int x4]) (rest := []) (ws' := (wX cT ad areas keys there order added size loads widths height ranks)) (st2 := .int v3 :: []) C (c_X2_haveMet l D cT ad n areas keys there order added size x3 x4 v3 hc) (cwV 2 C.1.2.2.2.2 gX4_pair_X2_haveMet rfl rfl rfl pv_X2_haveMet ⟨(Nat.le_of_ble_eq_true rfl), (Nat.le_of_ble_eq_true rfl)⟩) dX4_pair_39 rfl rfl rfl rfl rfl (Nat.le_of_ble_eq_true rfl) ⟨rfl, rfl⟩ ⟨(Nat.le_of_ble_eq_true rfl), (Nat.le_of_ble_eq_true rfl)⟩ [1, 2, 3, 4, 5] [0, 6, 7, 8, 9] [0, 5, 6, 7, 8, 9, 1, 2, 3, 4] rfl rfl rfl rfl (by decide) rfl rfl rfl ?_
      clear hc
      refine h_if_eq (pc := 42) (tgt := 61) C dX4_pair_42 (by decide) (fun q => ?_) (fun q => ?_)
      · replace hf := jif_t q hf
        clear q
        exact kx_X4_pair_61 hX0 D cT ad C X n areas keys there order added size loads widths height ranks r k hk0 k4 K4 (f_X4_pair_20 n areas there added k4 fu) ih x1 x2 x3 x4 hf
      · replace hf := jif_f q hf
        clear q
        refine h_iload_n (pc := 45) C dX4_pair_45 rfl 2 rfl ?_
        refine h_iload_n (pc := 46) C dX4_pair_46 rfl 1 rfl ?_
        refine h_icmp_ne (pc := 47) (tgt := 58) C dX4_pair_47 (by decide) (fun q => ?_) (fun q => ?_)
        · replace hf := jif_f q hf
          clear q
          refine h_iinc (pc := 58) (v := x2 + 1) (lv' := [(2, .int (x2 + 1)), (0, .ref (ad 0)), (1, .int x1), (3, .int x3), (4, .int x4)]) C dX4_pair_58 2 rfl (ji_1 _) (by decide) rfl ?_
          refine h_sub [1, 2, 0, 3, 4] rfl ?_
          exact kx_X4_pair_61 hX0 D cT ad C X n areas keys there order added size loads widths height ranks r k hk0 k4 K4 (f_X4_pair_20 n areas there added k4 fu) ih x1 (x2 + 1) x3 x4 hf
        · replace hf := jif_t q hf
          clear q
          refine h_bipush (pc := 50) C dX4_pair_50 jb_100 ?_
          refine h_iload_n (pc := 52) C dX4_pair_52 rfl 3 rfl ?_
          refine h_imul (pc := 53) C dX4_pair_53 ?_
          refine h_iload (pc := 54) C dX4_pair_54 4 rfl ?_
          refine h_iadd (pc := 56) C dX4_pair_56 ?_
          exact absurd (Prod.mk.inj (Option.some.inj hf)).1.symm hk0
set_option maxRecDepth 100000 in
set_option maxHeartbeats 4000000 in
theorem kx_X4_pair_4 {p : Program} {e : Env} {s : State} {m : MethodId} {args : Array Value} {below : List Frame} {meth : Method} {c : Code} {A : Nat → Prop} {l : Launch} (hX0 : l.stackTraces = false) (D : va_G) (cT : Nat → ClassId) (ad : Nat → Nat) (C : hC p s m args meth c cX4_pair 5 wsX4_pair RX4 D (ty4 cT) A) (X : hX l s c A) (n : Nat) (areas : Nat → Int32) (keys : Nat → Int32) (there : Nat → Int32) (order : Nat → Int32) (added : Int32) (size : Int32) (loads : Nat → Int32) (widths : Nat → Int32) (height : Int32) (ranks : Nat → Int32) (r : Int32) (k : Nat) (hk0 : ¬ k = 0)  : ∀ (fu : Nat)  (x1 : Int32) (x2 : Int32) (x3 : Int32), f_X4_pair_4 n areas there added fu x1 x2 x3 = some (k, r) → hS p l e rxX4_pair s m args below meth c 5 D A 0 0 (vx_MQ below (fun _ _ _ _ => False) (xX D (ty4 cT) A (xE k) (wX cT ad areas keys there order added size loads widths height ranks)) args s 1 6 A) 4 [(0, .ref (ad 0)), (1, .int x1), (2, .int x2), (3, .int x3)] [] (wX cT ad areas keys there order added size loads widths height ranks) := by
  intro fu
  induction fu with
  | zero =>
    intro x1 x2 x3 hf
    exact nomatch (show (none : Option (Nat × Int32)) = some (k, r) from hf)
  | succ fu ih =>
    intro x1 x2 x3 hf
    rw [f_X4_pair_4] at hf
    refine h_iload_n (pc := 4) C dX4_pair_4 rfl 3 rfl ?_
    refine h_aload_n (pc := 5) C dX4_pair_5 rfl 0 rfl ?_
    refine h_get (pc := 6) (ci := 2) (C0 := RX4) (T := TX4) (N := 3) C uX4_pair_X4 rfl 0 rfl 0 (by decide) (List.mem_of_getElem? (i := 3) rfl) rfl rfl dX4_pair_6 ?_
    obtain ⟨v1, hc, hf⟩ := jbd_s hf
    refine h_callV (pc := 9) (q0 := 1) (As := []) (rest := .int x3 :: []) (ws' := (wX cT ad areas keys there order added size loads widths height ranks)) (st2 := .int v1 :: .int x3 :: []) C (c_X2_added l D cT ad n areas keys there order added size v1 hc) (cwV 0 C.1.2.2.2.2 gX4_pair_X2_added rfl rfl rfl pv_X2_added ⟨(Nat.le_of_ble_eq_true rfl), (Nat.le_of_ble_eq_true rfl)⟩) dX4_pair_9 rfl rfl rfl rfl rfl (Nat.le_of_ble_eq_true rfl) ⟨rfl, rfl⟩ ⟨(Nat.le_of_ble_eq_true rfl), (Nat.le_of_ble_eq_true rfl)⟩ [1, 2, 3, 4, 5] [0, 6, 7, 8, 9] [0, 5, 6, 7, 8, 9, 1, 2, 3, 4] rfl rfl rfl rfl (by decide) rfl rfl rfl ?_
    clear hc
    refine h_icmp_ge (pc := 12) (tgt := 73) C dX4_pair_12 (by decide) (fun q => ?_) (fun q => ?_)
    · replace hf := jif_t q hf
      clear q
      have g0 := (Prod.mk.inj (Option.some.inj hf)).1
      have g1 := (Prod.mk.inj (Option.some.inj hf)).2
      clear hf
      subst g0
      subst g1
      exact h_throw (pc := 73) C X xin_IOE xft_IOE xft_up (List.mem_of_getElem? (i := 1) rfl) (List.mem_of_getElem? (i := 2) rfl) (List.mem_of_getElem? (i := 2) rfl) (fun w h => List.mem_cons_of_mem _ (List.mem_append_right _ h)) xng_IOE xgd_IOE dX4_pair_73 dX4_pair_76 dX4_pair_77 dX4_pair_79 dX4_pair_82 ⟨Nat.le_of_ble_eq_true rfl, Nat.le_of_ble_eq_true rfl, Nat.le_of_ble_eq_true rfl, Nat.le_of_ble_eq_true rfl⟩ ⟨Nat.le_of_ble_eq_true rfl, Nat.le_of_ble_eq_true rfl⟩
    · replace hf := jif_f q hf
      clear q
      refine h_iload_n (pc := 15) C dX4_pair_15 rfl 3 rfl ?_
      refine h_iconst (pc := 16) C dX4_pair_16 jc_1 ?_
      refine h_iadd (pc := 17) C dX4_pair_17 ?_
      refine h_istore (pc := 18) (lv' := [(4, .int (x3 + 1)), (0, .ref (ad 0)), (1, .int x1), (2, .int x2), (3, .int x3)]) C dX4_pair_18 (by decide) rfl ?_
      refine h_sub [1, 2, 3, 4, 0] rfl ?_
      exact kx_X4_pair_20 hX0 D cT ad C X n areas keys there order added size loads widths height ranks r k hk0 (f_X4_pair_4 n areas there added fu) ih n x1 x2 x3 (x3 + 1) hf
set_option maxRecDepth 100000 in
set_option maxHeartbeats 4000000 in
theorem x_X4_pair {l : Launch} (hX0 : l.stackTraces = false) (D : va_G) (cT : Nat → ClassId) (ad : Nat → Nat) (n : Nat) (areas : Nat → Int32) (keys : Nat → Int32) (there : Nat → Int32) (order : Nat → Int32) (added : Int32) (size : Int32) (loads : Nat → Int32) (widths : Nat → Int32) (height : Int32) (ranks : Nat → Int32) (a1 : Int32) (r : Int32) (k : Nat) (hk0 : ¬ k = 0) (hf : f_X4_pair n areas there added a1 = some (k, r)) : xM l yX4_pair wsX4_pair rxX4_pair D (ty4 cT) [.ref (ad 0), .int a1] (wX cT ad areas keys there order added size loads widths height ranks) (xE k) (wX cT ad areas keys there order added size loads widths height ranks) := by
  refine xM_of (cc := cX4_pair) (maxL := 5) (ret := (some .int)) (own := RX4) (lv := [(0, .ref (ad 0)), (1, .int a1)]) hX0 (by decide) rfl (Nat.le_of_ble_eq_true rfl) rfl rfl ?_
  intro p e s m args below meth c A C X
  unfold f_X4_pair at hf
  refine h_iconst (pc := 0) C dX4_pair_0 jc_0 ?_
  refine h_istore_n (pc := 1) (lv' := [(2, .int 0), (0, .ref (ad 0)), (1, .int a1)]) C dX4_pair_1 rfl (by decide) rfl ?_
  refine h_iconst (pc := 2) C dX4_pair_2 jc_0 ?_
  refine h_istore_n (pc := 3) (lv' := [(3, .int 0), (2, .int 0), (0, .ref (ad 0)), (1, .int a1)]) C dX4_pair_3 rfl (by decide) rfl ?_
  refine h_sub [2, 3, 1, 0] rfl ?_
  exact kx_X4_pair_4 hX0 D cT ad C X n areas keys there order added size loads widths height ranks r k hk0 n a1 0 0 hf
