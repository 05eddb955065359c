/-! laid by wip/whole/lay.py: contracts -/
abbrev rmX4_pack : Room := { frames := 3, cells := 0, slots := 0, locals := 71 }
theorem uX4_pack_X4 : ∀ w ∈ u_ws RX4 TX4 3, w ∈ wsX4_pack := fun w h => List.mem_cons_of_mem _ (List.mem_append_left _ (List.mem_append_left _ (List.mem_append_right _ h)))
set_option maxRecDepth 100000 in
set_option maxHeartbeats 4000000 in
theorem c_X4_pack (l : Launch) (D : va_G) (cI cZ : ClassId) (ad : Nat → Nat) (n : Nat) (areas : Nat → Int32) (keys : Nat → Int32) (there : Nat → Int32) (order : Nat → Int32) (added : Int32) (size : Int32) (loads : Nat → Int32) (widths : Nat → Int32) (height : Int32) (ranks : Nat → Int32)  (r : Int32) (loads' : Nat → Int32) (widths' : Nat → Int32) (height' : Int32) (hf : f_X4_pack n size loads widths height = some (r, loads', widths', height')) : cM l yX4_pack wsX4_pack rmX4_pack D [(cI, .int), (cZ, .boolean)] [.ref (ad 0)] (wX cI cZ ad areas keys there order added size loads widths height ranks) (some (.int r)) (wX cI cZ ad areas keys there order added size loads' widths' height' ranks) := by
  refine cM_of (cc := cX4_pack) (maxL := 1) (ret := (some .int)) (own := RX4) (lv := [(0, .ref (ad 0))]) (by decide) rfl (Nat.le_of_ble_eq_true rfl) rfl rfl ?_
  intro p e s m args below meth c A C hr
  unfold f_X4_pack at hf
  refine h_aload_n (pc := 0) C dX4_pack_0 rfl 0 rfl ?_
  refine h_get (pc := 1) (ci := 2) (C0 := RX4) (T := TX4) (N := 3) C uX4_pack_X4 rfl 0 rfl 1 (by decide) (List.mem_of_getElem? (i := 1) rfl) rfl rfl dX4_pack_1 ?_
  refine h_aload_n (pc := 4) C dX4_pack_4 rfl 0 rfl ?_
  refine h_get (pc := 5) (ci := 2) (C0 := RX4) (T := TX4) (N := 3) C uX4_pack_X4 rfl 0 rfl 0 (by decide) (List.mem_of_getElem? (i := 2) rfl) rfl rfl dX4_pack_5 ?_
  obtain ⟨v1, hc, hf⟩ := jbd_s hf
  refine h_callV (pc := 8) (q0 := 1) (As := []) (rest := .ref (ad 6) :: []) (ws' := (wX cI cZ ad areas keys there order added size loads widths height ranks)) (st2 := .int v1 :: .ref (ad 6) :: []) C (c_X2_size l D cI cZ ad n areas keys there order added size v1 hc) (cwV 0 C.1.2.2.2.2 gX4_pack_X2_size rfl rfl rfl pv_X2_size ⟨(Nat.le_of_ble_eq_true rfl), (Nat.le_of_ble_eq_true rfl)⟩) dX4_pack_8 rfl rfl rfl rfl rfl (Nat.le_of_ble_eq_true rfl) ⟨rfl, rfl⟩ ⟨(Nat.le_of_ble_eq_true rfl), (Nat.le_of_ble_eq_true rfl)⟩ [1, 2, 3, 4, 5] [0, 6, 7, 8, 9] [0, 5, 6, 7, 8, 9, 1, 2, 3, 4] rfl rfl rfl rfl (by decide) rfl rfl rfl ?_
  clear hc
  obtain ⟨v2, hc, hf⟩ := jbd_s hf
  refine h_callV (pc := 11) (q0 := 6) (As := [.int v1]) (rest := []) (ws' := (wX cI cZ ad areas keys there order added size v2.1 v2.2.1 v2.2.2 ranks)) (st2 := []) C (c_X3_planAnew l D cI cZ ad n loads widths height v1 v2.1 v2.2.1 v2.2.2 hc) (cwV 1 C.1.2.2.2.2 gX4_pack_X3_planAnew rfl rfl rfl pv_X3_planAnew ⟨(Nat.le_of_ble_eq_true rfl), (Nat.le_of_ble_eq_true rfl)⟩) dX4_pack_11 rfl rfl rfl rfl rfl (Nat.le_of_ble_eq_true rfl) ⟨rfl, rfl⟩ ⟨(Nat.le_of_ble_eq_true rfl), (Nat.le_of_ble_eq_true rfl)⟩ [6, 7, 8] [0, 1, 2, 3, 4, 5, 9] [0, 1, 2, 3, 4, 5, 7, 8, 9, 6] rfl rfl rfl rfl (by decide) rfl rfl rfl ?_
  clear hc
  refine h_aload_n (pc := 14) C dX4_pack_14 rfl 0 rfl ?_
  refine h_get (pc := 15) (ci := 2) (C0 := RX4) (T := TX4) (N := 3) C uX4_pack_X4 rfl 0 rfl 1 (by decide) (List.mem_of_getElem? (i := 1) rfl) rfl rfl dX4_pack_15 ?_
  refine h_iconst (pc := 18) C dX4_pack_18 jc_0 ?_
  obtain ⟨v3, hc, hf⟩ := jbd_s hf
  refine h_callV (pc := 19) (q0 := 6) (As := [.int 0]) (rest := []) (ws' := (wX cI cZ ad areas keys there order added size v2.1 v2.2.1 v2.2.2 ranks)) (st2 := .int v3 :: []) C (c_X3_width l D cI cZ ad n v2.1 v2.2.1 v2.2.2 0 v3 hc) (cwV 1 C.1.2.2.2.2 gX4_pack_X3_width rfl rfl rfl pv_X3_width ⟨(Nat.le_of_ble_eq_true rfl), (Nat.le_of_ble_eq_true rfl)⟩) dX4_pack_19 rfl rfl rfl rfl rfl (Nat.le_of_ble_eq_true rfl) ⟨rfl, rfl⟩ ⟨(Nat.le_of_ble_eq_true rfl), (Nat.le_of_ble_eq_true rfl)⟩ [6, 7, 8] [0, 1, 2, 3, 4, 5, 9] [0, 1, 2, 3, 4, 5, 7, 8, 9, 6] rfl rfl rfl rfl (by decide) rfl rfl rfl ?_
  clear hc
  have g0 := (Prod.mk.inj (Option.some.inj hf)).1
  have g1 := (Prod.mk.inj (Prod.mk.inj (Option.some.inj hf)).2).1
  have g2 := (Prod.mk.inj (Prod.mk.inj (Prod.mk.inj (Option.some.inj hf)).2).2).1
  have g3 := (Prod.mk.inj (Prod.mk.inj (Prod.mk.inj (Option.some.inj hf)).2).2).2
  clear hf
  subst g0
  subst g1
  subst g2
  subst g3
  exact h_iret C hr dX4_pack_22
theorem pv_X4_pack : yX4_pack.cls = RX4 ∧ yX4_pack.cls ≠ "java/lang/invoke/MethodHandle" ∧ yX4_pack.cls ≠ "java/lang/invoke/VarHandle" ∧ (parseMethodDescriptor yX4_pack.desc).map (fun d => d.parameters.length) = some 0 := by decide +kernel
abbrev rmX4_boxes : Room := { frames := 1, cells := 0, slots := 0, locals := 20 }
theorem uX4_boxes_X4 : ∀ w ∈ u_ws RX4 TX4 3, w ∈ wsX4_boxes := fun w h => List.mem_cons_of_mem _ (List.mem_append_left _ (List.mem_append_right _ h))
set_option maxRecDepth 100000 in
set_option maxHeartbeats 4000000 in
theorem c_X4_boxes (l : Launch) (D : va_G) (cI cZ : ClassId) (ad : Nat → Nat) (n : Nat) (areas : Nat → Int32) (keys : Nat → Int32) (there : Nat → Int32) (order : Nat → Int32) (added : Int32) (size : Int32) (loads : Nat → Int32) (widths : Nat → Int32) (height : Int32) (ranks : Nat → Int32)  (r : Int32) (hf : f_X4_boxes n size = some r) : cM l yX4_boxes wsX4_boxes rmX4_boxes D [(cI, .int), (cZ, .boolean)] [.ref (ad 0)] (wX cI cZ ad areas keys there order added size loads widths height ranks) (some (.int r)) (wX cI cZ ad areas keys there order added size loads widths height ranks) := by
  refine cM_of (cc := cX4_boxes) (maxL := 1) (ret := (some .int)) (own := RX4) (lv := [(0, .ref (ad 0))]) (by decide) rfl (Nat.le_of_ble_eq_true rfl) rfl rfl ?_
  intro p e s m args below meth c A C hr
  unfold f_X4_boxes at hf
  refine h_aload_n (pc := 0) C dX4_boxes_0 rfl 0 rfl ?_
  refine h_get (pc := 1) (ci := 2) (C0 := RX4) (T := TX4) (N := 3) C uX4_boxes_X4 rfl 0 rfl 0 (by decide) (List.mem_of_getElem? (i := 1) rfl) rfl rfl dX4_boxes_1 ?_
  obtain ⟨v1, hc, hf⟩ := jbd_s hf
  refine h_callV (pc := 4) (q0 := 1) (As := []) (rest := []) (ws' := (wX cI cZ ad areas keys there order added size loads widths height ranks)) (st2 := .int v1 :: []) C (c_X2_size l D cI cZ ad n areas keys there order added size v1 hc) (cwV 0 C.1.2.2.2.2 gX4_boxes_X2_size rfl rfl rfl pv_X2_size ⟨(Nat.le_of_ble_eq_true rfl), (Nat.le_of_ble_eq_true rfl)⟩) dX4_boxes_4 rfl rfl rfl rfl rfl (Nat.le_of_ble_eq_true rfl) ⟨rfl, rfl⟩ ⟨(Nat.le_of_ble_eq_true rfl), (Nat.le_of_ble_eq_true rfl)⟩ [1, 2, 3, 4, 5] [0, 6, 7, 8, 9] [0, 5, 6, 7, 8, 9, 1, 2, 3, 4] rfl rfl rfl rfl (by decide) rfl rfl rfl ?_
  clear hc
  have g0 := (Option.some.inj hf)
  clear hf
  subst g0
  exact h_iret C hr dX4_boxes_7
theorem pv_X4_boxes : yX4_boxes.cls = RX4 ∧ yX4_boxes.cls ≠ "java/lang/invoke/MethodHandle" ∧ yX4_boxes.cls ≠ "java/lang/invoke/VarHandle" ∧ (parseMethodDescriptor yX4_boxes.desc).map (fun d => d.parameters.length) = some 0 := by decide +kernel
abbrev rmX4_levels : Room := { frames := 1, cells := 0, slots := 0, locals := 20 }
theorem uX4_levels_X4 : ∀ w ∈ u_ws RX4 TX4 3, w ∈ wsX4_levels := fun w h => List.mem_cons_of_mem _ (List.mem_append_left _ (List.mem_append_right _ h))
set_option maxRecDepth 100000 in
set_option maxHeartbeats 4000000 in
theorem c_X4_levels (l : Launch) (D : va_G) (cI cZ : ClassId) (ad : Nat → Nat) (n : Nat) (areas : Nat → Int32) (keys : Nat → Int32) (there : Nat → Int32) (order : Nat → Int32) (added : Int32) (size : Int32) (loads : Nat → Int32) (widths : Nat → Int32) (height : Int32) (ranks : Nat → Int32)  (r : Int32) (hf : f_X4_levels n height = some r) : cM l yX4_levels wsX4_levels rmX4_levels D [(cI, .int), (cZ, .boolean)] [.ref (ad 0)] (wX cI cZ ad areas keys there order added size loads widths height ranks) (some (.int r)) (wX cI cZ ad areas keys there order added size loads widths height ranks) := by
  refine cM_of (cc := cX4_levels) (maxL := 1) (ret := (some .int)) (own := RX4) (lv := [(0, .ref (ad 0))]) (by decide) rfl (Nat.le_of_ble_eq_true rfl) rfl rfl ?_
  intro p e s m args below meth c A C hr
  unfold f_X4_levels at hf
  refine h_aload_n (pc := 0) C dX4_levels_0 rfl 0 rfl ?_
  refine h_get (pc := 1) (ci := 2) (C0 := RX4) (T := TX4) (N := 3) C uX4_levels_X4 rfl 0 rfl 1 (by decide) (List.mem_of_getElem? (i := 1) rfl) rfl rfl dX4_levels_1 ?_
  obtain ⟨v1, hc, hf⟩ := jbd_s hf
  refine h_callV (pc := 4) (q0 := 6) (As := []) (rest := []) (ws' := (wX cI cZ ad areas keys there order added size loads widths height ranks)) (st2 := .int v1 :: []) C (c_X3_height l D cI cZ ad n loads widths height v1 hc) (cwV 0 C.1.2.2.2.2 gX4_levels_X3_height rfl rfl rfl pv_X3_height ⟨(Nat.le_of_ble_eq_true rfl), (Nat.le_of_ble_eq_true rfl)⟩) dX4_levels_4 rfl rfl rfl rfl rfl (Nat.le_of_ble_eq_true rfl) ⟨rfl, rfl⟩ ⟨(Nat.le_of_ble_eq_true rfl), (Nat.le_of_ble_eq_true rfl)⟩ [6, 7, 8] [0, 1, 2, 3, 4, 5, 9] [0, 1, 2, 3, 4, 5, 7, 8, 9, 6] rfl rfl rfl rfl (by decide) rfl rfl rfl ?_
  clear hc
  have g0 := (Option.some.inj hf)
  clear hf
  subst g0
  exact h_iret C hr dX4_levels_7
theorem pv_X4_levels : yX4_levels.cls = RX4 ∧ yX4_levels.cls ≠ "java/lang/invoke/MethodHandle" ∧ yX4_levels.cls ≠ "java/lang/invoke/VarHandle" ∧ (parseMethodDescriptor yX4_levels.desc).map (fun d => d.parameters.length) = some 0 := by decide +kernel
abbrev rmX4_pairs : Room := { frames := 3, cells := 0, slots := 0, locals := 64 }
theorem uX4_pairs_X4 : ∀ w ∈ u_ws RX4 TX4 3, w ∈ wsX4_pairs := fun w h => List.mem_cons_of_mem _ (List.mem_append_left _ (List.mem_append_right _ h))
set_option maxRecDepth 100000 in
set_option maxHeartbeats 4000000 in
theorem k_X4_pairs_45 {p : Program} {e : Env} {s : State} {m : MethodId} {args : Array Value} {below : List Frame} {meth : Method} {c : Code} {A : Nat → Prop} (l : Launch) (D : va_G) (cI cZ : ClassId) (ad : Nat → Nat) (C : hC p s m args meth c cX4_pairs 4 wsX4_pairs RX4 D [(cI, .int), (cZ, .boolean)] A) (hr : meth.sig.returnType = (some .int)) (n : Nat) (areas : Nat → Int32) (keys : Nat → Int32) (there : Nat → Int32) (order : Nat → Int32) (added : Int32) (size : Int32) (loads : Nat → Int32) (widths : Nat → Int32) (height : Int32) (ranks : Nat → Int32) (r : Int32) (k4 : Int32 → Int32 → Option (Int32)) (K4 : ∀  (x1 : Int32) (x2 : Int32), k4 x1 x2 = some r → hS p l e rmX4_pairs s m args below meth c 4 D A 0 0 (MQ below (cQ D [(cI, .int), (cZ, .boolean)] A (some (.int r)) (wX cI cZ ad areas keys there order added size loads widths height ranks)) args s 0 0 A) 4 [(0, .ref (ad 0)), (1, .int x1), (2, .int x2)] [] (wX cI cZ ad areas keys there order added size loads widths height ranks)) (k19 : Int32 → Int32 → Int32 → Option (Int32)) (K19 : ∀  (x1 : Int32) (x2 : Int32) (x3 : Int32), k19 x1 x2 x3 = some r → hS p l e rmX4_pairs s m args below meth c 4 D A 0 0 (MQ below (cQ D [(cI, .int), (cZ, .boolean)] A (some (.int r)) (wX cI cZ ad areas keys there order added size loads widths height ranks)) args s 0 0 A) 19 [(0, .ref (ad 0)), (1, .int x1), (2, .int x2), (3, .int x3)] [] (wX cI cZ ad areas keys there order added size loads widths height ranks)) : ∀  (x1 : Int32) (x2 : Int32) (x3 : Int32), f_X4_pairs_45 n areas there added k4 k19 x1 x2 x3 = some r → hS p l e rmX4_pairs s m args below meth c 4 D A 0 0 (MQ below (cQ D [(cI, .int), (cZ, .boolean)] A (some (.int r)) (wX cI cZ ad areas keys there order added size loads widths height ranks)) args s 0 0 A) 45 [(0, .ref (ad 0)), (1, .int x1), (2, .int x2), (3, .int x3)] [] (wX cI cZ ad areas keys there order added size loads widths height ranks) := by
  intro x1 x2 x3 hf
  unfold f_X4_pairs_45 at hf
  refine h_iinc (pc := 45) (v := x3 + 1) (lv' := [(3, .int (x3 + 1)), (0, .ref (ad 0)), (1, .int x1), (2, .int x2)]) C dX4_pairs_45 3 rfl (ji_1 _) (by decide) rfl ?_
  refine h_goto (pc := 48) (tgt := 19) C dX4_pairs_48 (by decide) ?_
  refine h_sub [1, 2, 3, 0] rfl ?_
  exact K19 x1 x2 (x3 + 1) hf
set_option maxRecDepth 100000 in
set_option maxHeartbeats 4000000 in
theorem k_X4_pairs_19 {p : Program} {e : Env} {s : State} {m : MethodId} {args : Array Value} {below : List Frame} {meth : Method} {c : Code} {A : Nat → Prop} (l : Launch) (D : va_G) (cI cZ : ClassId) (ad : Nat → Nat) (C : hC p s m args meth c cX4_pairs 4 wsX4_pairs RX4 D [(cI, .int), (cZ, .boolean)] A) (hr : meth.sig.returnType = (some .int)) (n : Nat) (areas : Nat → Int32) (keys : Nat → Int32) (there : Nat → Int32) (order : Nat → Int32) (added : Int32) (size : Int32) (loads : Nat → Int32) (widths : Nat → Int32) (height : Int32) (ranks : Nat → Int32) (r : Int32) (k4 : Int32 → Int32 → Option (Int32)) (K4 : ∀  (x1 : Int32) (x2 : Int32), k4 x1 x2 = some r → hS p l e rmX4_pairs s m args below meth c 4 D A 0 0 (MQ below (cQ D [(cI, .int), (cZ, .boolean)] A (some (.int r)) (wX cI cZ ad areas keys there order added size loads widths height ranks)) args s 0 0 A) 4 [(0, .ref (ad 0)), (1, .int x1), (2, .int x2)] [] (wX cI cZ ad areas keys there order added size loads widths height ranks)) : ∀ (fu : Nat)  (x1 : Int32) (x2 : Int32) (x3 : Int32), f_X4_pairs_19 n areas there added k4 fu x1 x2 x3 = some r → hS p l e rmX4_pairs s m args below meth c 4 D A 0 0 (MQ below (cQ D [(cI, .int), (cZ, .boolean)] A (some (.int r)) (wX cI cZ ad areas keys there order added size loads widths height ranks)) args s 0 0 A) 19 [(0, .ref (ad 0)), (1, .int x1), (2, .int x2), (3, .int x3)] [] (wX cI cZ ad areas keys there order added size loads widths height ranks) := by
  intro fu
  induction fu with
  | zero =>
    intro x1 x2 x3 hf
    exact nomatch (show (none : Option (Int32)) = some r from hf)
  | succ fu ih =>
    intro x1 x2 x3 hf
    rw [f_X4_pairs_19] at hf
    refine h_iload_n (pc := 19) C dX4_pairs_19 rfl 3 rfl ?_
    refine h_aload_n (pc := 20) C dX4_pairs_20 rfl 0 rfl ?_
    refine h_get (pc := 21) (ci := 2) (C0 := RX4) (T := TX4) (N := 3) C uX4_pairs_X4 rfl 0 rfl 0 (by decide) (List.mem_of_getElem? (i := 1) rfl) rfl rfl dX4_pairs_21 ?_
    obtain ⟨v2, hc, hf⟩ := jbd_s hf
    refine h_callV (pc := 24) (q0 := 1) (As := []) (rest := .int x3 :: []) (ws' := (wX cI cZ ad areas keys there order added size loads widths height ranks)) (st2 := .int v2 :: .int x3 :: []) C (c_X2_added l D cI cZ ad n areas keys there order added size v2 hc) (cwV 0 C.1.2.2.2.2 gX4_pairs_X2_added rfl rfl rfl pv_X2_added ⟨(Nat.le_of_ble_eq_true rfl), (Nat.le_of_ble_eq_true rfl)⟩) dX4_pairs_24 rfl rfl rfl rfl rfl (Nat.le_of_ble_eq_true rfl) ⟨rfl, rfl⟩ ⟨(Nat.le_of_ble_eq_true rfl), (Nat.le_of_ble_eq_true rfl)⟩ [1, 2, 3, 4, 5] [0, 6, 7, 8, 9] [0, 5, 6, 7, 8, 9, 1, 2, 3, 4] rfl rfl rfl rfl (by decide) rfl rfl rfl ?_
    clear hc
    refine h_icmp_ge (pc := 27) (tgt := 51) C dX4_pairs_27 (by decide) (fun q => ?_) (fun q => ?_)
    · replace hf := jif_t q hf
      clear q
      refine h_iinc (pc := 51) (v := x2 + 1) (lv' := [(2, .int (x2 + 1)), (0, .ref (ad 0)), (1, .int x1), (3, .int x3)]) C dX4_pairs_51 2 rfl (ji_1 _) (by decide) rfl ?_
      refine h_goto (pc := 54) (tgt := 4) C dX4_pairs_54 (by decide) ?_
      refine h_sub [1, 2, 0] rfl ?_
      exact K4 x1 (x2 + 1) hf
    · replace hf := jif_f q hf
      clear q
      refine h_aload_n (pc := 30) C dX4_pairs_30 rfl 0 rfl ?_
      refine h_get (pc := 31) (ci := 2) (C0 := RX4) (T := TX4) (N := 3) C uX4_pairs_X4 rfl 0 rfl 0 (by decide) (List.mem_of_getElem? (i := 1) rfl) rfl rfl dX4_pairs_31 ?_
      refine h_iload_n (pc := 34) C dX4_pairs_34 rfl 2 rfl ?_
      refine h_iload_n (pc := 35) C dX4_pairs_35 rfl 3 rfl ?_
      obtain ⟨v3, hc, hf⟩ := jbd_s hf
      refine h_callV (pc := 36) (q0 := 1) (As := [.int x2, .int x3]) (rest := []) (ws' := (wX cI cZ ad areas keys there order added size loads widths height ranks)) (st2 := .int v3 :: []) C (c_X2_haveMet l D cI cZ ad n areas keys there order added size x2 x3 v3 hc) (cwV 2 C.1.2.2.2.2 gX4_pairs_X2_haveMet rfl rfl rfl pv_X2_haveMet ⟨(Nat.le_of_ble_eq_true rfl), (Nat.le_of_ble_eq_true rfl)⟩) dX4_pairs_36 rfl rfl rfl rfl rfl (Nat.le_of_ble_eq_true rfl) ⟨rfl, rfl⟩ ⟨(Nat.le_of_ble_eq_true rfl), (Nat.le_of_ble_eq_true rfl)⟩ [1, 2, 3, 4, 5] [0, 6, 7, 8, 9] [0, 5, 6, 7, 8, 9, 1, 2, 3, 4] rfl rfl rfl rfl (by decide) rfl rfl rfl ?_
      clear hc
      refine h_if_eq (pc := 39) (tgt := 45) C dX4_pairs_39 (by decide) (fun q => ?_) (fun q => ?_)
      · replace hf := jif_t q hf
        clear q
        exact k_X4_pairs_45 l D cI cZ ad C hr n areas keys there order added size loads widths height ranks r k4 K4 (f_X4_pairs_19 n areas there added k4 fu) ih x1 x2 x3 hf
      · replace hf := jif_f q hf
        clear q
        refine h_iinc (pc := 42) (v := x1 + 1) (lv' := [(1, .int (x1 + 1)), (0, .ref (ad 0)), (2, .int x2), (3, .int x3)]) C dX4_pairs_42 1 rfl (ji_1 _) (by decide) rfl ?_
        refine h_sub [1, 0, 2, 3] rfl ?_
        exact k_X4_pairs_45 l D cI cZ ad C hr n areas keys there order added size loads widths height ranks r k4 K4 (f_X4_pairs_19 n areas there added k4 fu) ih (x1 + 1) x2 x3 hf
set_option maxRecDepth 100000 in
set_option maxHeartbeats 4000000 in
theorem k_X4_pairs_4 {p : Program} {e : Env} {s : State} {m : MethodId} {args : Array Value} {below : List Frame} {meth : Method} {c : Code} {A : Nat → Prop} (l : Launch) (D : va_G) (cI cZ : ClassId) (ad : Nat → Nat) (C : hC p s m args meth c cX4_pairs 4 wsX4_pairs RX4 D [(cI, .int), (cZ, .boolean)] A) (hr : meth.sig.returnType = (some .int)) (n : Nat) (areas : Nat → Int32) (keys : Nat → Int32) (there : Nat → Int32) (order : Nat → Int32) (added : Int32) (size : Int32) (loads : Nat → Int32) (widths : Nat → Int32) (height : Int32) (ranks : Nat → Int32) (r : Int32)  : ∀ (fu : Nat)  (x1 : Int32) (x2 : Int32), f_X4_pairs_4 n areas there added fu x1 x2 = some r → hS p l e rmX4_pairs s m args below meth c 4 D A 0 0 (MQ below (cQ D [(cI, .int), (cZ, .boolean)] A (some (.int r)) (wX cI cZ ad areas keys there order added size loads widths height ranks)) args s 0 0 A) 4 [(0, .ref (ad 0)), (1, .int x1), (2, .int x2)] [] (wX cI cZ ad areas keys there order added size loads widths height ranks) := by
  intro fu
  induction fu with
  | zero =>
    intro x1 x2 hf
    exact nomatch (show (none : Option (Int32)) = some r from hf)
  | succ fu ih =>
    intro x1 x2 hf
    rw [f_X4_pairs_4] at hf
    refine h_iload_n (pc := 4) C dX4_pairs_4 rfl 2 rfl ?_
    refine h_aload_n (pc := 5) C dX4_pairs_5 rfl 0 rfl ?_
    refine h_get (pc := 6) (ci := 2) (C0 := RX4) (T := TX4) (N := 3) C uX4_pairs_X4 rfl 0 rfl 0 (by decide) (List.mem_of_getElem? (i := 1) rfl) rfl rfl dX4_pairs_6 ?_
    obtain ⟨v1, hc, hf⟩ := jbd_s hf
    refine h_callV (pc := 9) (q0 := 1) (As := []) (rest := .int x2 :: []) (ws' := (wX cI cZ ad areas keys there order added size loads widths height ranks)) (st2 := .int v1 :: .int x2 :: []) C (c_X2_added l D cI cZ ad n areas keys there order added size v1 hc) (cwV 0 C.1.2.2.2.2 gX4_pairs_X2_added rfl rfl rfl pv_X2_added ⟨(Nat.le_of_ble_eq_true rfl), (Nat.le_of_ble_eq_true rfl)⟩) dX4_pairs_9 rfl rfl rfl rfl rfl (Nat.le_of_ble_eq_true rfl) ⟨rfl, rfl⟩ ⟨(Nat.le_of_ble_eq_true rfl), (Nat.le_of_ble_eq_true rfl)⟩ [1, 2, 3, 4, 5] [0, 6, 7, 8, 9] [0, 5, 6, 7, 8, 9, 1, 2, 3, 4] rfl rfl rfl rfl (by decide) rfl rfl rfl ?_
    clear hc
    refine h_icmp_ge (pc := 12) (tgt := 57) C dX4_pairs_12 (by decide) (fun q => ?_) (fun q => ?_)
    · replace hf := jif_t q hf
      clear q
      refine h_iload_n (pc := 57) C dX4_pairs_57 rfl 1 rfl ?_
      have g0 := (Option.some.inj hf)
      clear hf
      subst g0
      exact h_iret C hr dX4_pairs_58
    · replace hf := jif_f q hf
      clear q
      refine h_iload_n (pc := 15) C dX4_pairs_15 rfl 2 rfl ?_
      refine h_iconst (pc := 16) C dX4_pairs_16 jc_1 ?_
      refine h_iadd (pc := 17) C dX4_pairs_17 ?_
      refine h_istore_n (pc := 18) (lv' := [(3, .int (x2 + 1)), (0, .ref (ad 0)), (1, .int x1), (2, .int x2)]) C dX4_pairs_18 rfl (by decide) rfl ?_
      refine h_sub [1, 2, 3, 0] rfl ?_
      exact k_X4_pairs_19 l D cI cZ ad C hr n areas keys there order added size loads widths height ranks r (f_X4_pairs_4 n areas there added fu) ih n x1 x2 (x2 + 1) hf
set_option maxRecDepth 100000 in
set_option maxHeartbeats 4000000 in
theorem c_X4_pairs (l : Launch) (D : va_G) (cI cZ : ClassId) (ad : Nat → Nat) (n : Nat) (areas : Nat → Int32) (keys : Nat → Int32) (there : Nat → Int32) (order : Nat → Int32) (added : Int32) (size : Int32) (loads : Nat → Int32) (widths : Nat → Int32) (height : Int32) (ranks : Nat → Int32)  (r : Int32) (hf : f_X4_pairs n areas there added = some r) : cM l yX4_pairs wsX4_pairs rmX4_pairs D [(cI, .int), (cZ, .boolean)] [.ref (ad 0)] (wX cI cZ ad areas keys there order added size loads widths height ranks) (some (.int r)) (wX cI cZ ad areas keys there order added size loads widths height ranks) := by
  refine cM_of (cc := cX4_pairs) (maxL := 4) (ret := (some .int)) (own := RX4) (lv := [(0, .ref (ad 0))]) (by decide) rfl (Nat.le_of_ble_eq_true rfl) rfl rfl ?_
  intro p e s m args below meth c A C hr
  unfold f_X4_pairs at hf
  refine h_iconst (pc := 0) C dX4_pairs_0 jc_0 ?_
  refine h_istore_n (pc := 1) (lv' := [(1, .int 0), (0, .ref (ad 0))]) C dX4_pairs_1 rfl (by decide) rfl ?_
  refine h_iconst (pc := 2) C dX4_pairs_2 jc_0 ?_
  refine h_istore_n (pc := 3) (lv' := [(2, .int 0), (1, .int 0), (0, .ref (ad 0))]) C dX4_pairs_3 rfl (by decide) rfl ?_
  refine h_sub [2, 1, 0] rfl ?_
  exact k_X4_pairs_4 l D cI cZ ad C hr n areas keys there order added size loads widths height ranks r n 0 0 hf
theorem pv_X4_pairs : yX4_pairs.cls = RX4 ∧ yX4_pairs.cls ≠ "java/lang/invoke/MethodHandle" ∧ yX4_pairs.cls ≠ "java/lang/invoke/VarHandle" ∧ (parseMethodDescriptor yX4_pairs.desc).map (fun d => d.parameters.length) = some 0 := by decide +kernel
abbrev rmX4_isCoordinate : Room := { frames := 0, cells := 0, slots := 0, locals := 0 }
set_option maxRecDepth 100000 in
set_option maxHeartbeats 4000000 in
theorem c_X4_isCoordinate (l : Launch) (D : va_G) (cI cZ : ClassId) (ad : Nat → Nat) (n : Nat)  (a0 : Int32) (r : Int32) (hf : f_X4_isCoordinate n a0 = some r) : cM l yX4_isCoordinate wsX4_isCoordinate rmX4_isCoordinate D [(cI, .int), (cZ, .boolean)] [.int a0] [] (some (.int r)) [] := by
  refine cM_of (cc := cX4_isCoordinate) (maxL := 1) (ret := (some .boolean)) (own := RX4) (lv := [(0, .int a0)]) (by decide) rfl (Nat.le_of_ble_eq_true rfl) rfl rfl ?_
  intro p e s m args below meth c A C hr
  unfold f_X4_isCoordinate at hf
  refine h_iload_n (pc := 0) C dX4_isCoordinate_0 rfl 0 rfl ?_
  refine h_if_lt (pc := 1) (tgt := 15) C dX4_isCoordinate_1 (by decide) (fun q => ?_) (fun q => ?_)
  · replace hf := jif_t q hf
    clear q
    refine h_iconst (pc := 15) C dX4_isCoordinate_15 jc_0 ?_
    have g0 := (Option.some.inj hf)
    clear hf
    subst g0
    exact h_zret C hr rfl dX4_isCoordinate_16
  · replace hf := jif_f q hf
    clear q
    refine h_iload_n (pc := 4) C dX4_isCoordinate_4 rfl 0 rfl ?_
    refine h_sipush (pc := 5) C dX4_isCoordinate_5 js_255 ?_
    refine h_icmp_gt (pc := 8) (tgt := 15) C dX4_isCoordinate_8 (by decide) (fun q => ?_) (fun q => ?_)
    · replace hf := jif_t q hf
      clear q
      refine h_iconst (pc := 15) C dX4_isCoordinate_15 jc_0 ?_
      have g0 := (Option.some.inj hf)
      clear hf
      subst g0
      exact h_zret C hr rfl dX4_isCoordinate_16
    · replace hf := jif_f q hf
      clear q
      refine h_iconst (pc := 11) C dX4_isCoordinate_11 jc_1 ?_
      refine h_goto (pc := 12) (tgt := 16) C dX4_isCoordinate_12 (by decide) ?_
      have g0 := (Option.some.inj hf)
      clear hf
      subst g0
      exact h_zret C hr rfl dX4_isCoordinate_16
theorem ps_X4_isCoordinate : yX4_isCoordinate.cls ≠ "java/lang/invoke/MethodHandle" ∧ yX4_isCoordinate.cls ≠ "java/lang/invoke/VarHandle" ∧ (parseMethodDescriptor yX4_isCoordinate.desc).map (fun d => d.parameters.length) = some 1 := by decide +kernel
abbrev rmX4_coverOf : Room := { frames := 4, cells := 0, slots := 0, locals := 93 }
theorem uX4_coverOf_X4 : ∀ w ∈ u_ws RX4 TX4 3, w ∈ wsX4_coverOf := fun w h => List.mem_cons_of_mem _ (List.mem_append_left _ (List.mem_append_left _ (List.mem_append_right _ h)))
set_option maxRecDepth 100000 in
set_option maxHeartbeats 4000000 in
theorem k_X4_coverOf_38 {p : Program} {e : Env} {s : State} {m : MethodId} {args : Array Value} {below : List Frame} {meth : Method} {c : Code} {A : Nat → Prop} (l : Launch) (D : va_G) (cI cZ : ClassId) (ad : Nat → Nat) (C : hC p s m args meth c cX4_coverOf 7 wsX4_coverOf RX4 D [(cI, .int), (cZ, .boolean)] A) (hr : meth.sig.returnType = (some .int)) (n : Nat) (areas : Nat → Int32) (keys : Nat → Int32) (there : Nat → Int32) (order : Nat → Int32) (added : Int32) (size : Int32) (loads : Nat → Int32) (widths : Nat → Int32) (height : Int32) (ranks : Nat → Int32) (r : Int32)  : ∀ (fu : Nat)  (x4 : Int32) (x5 : Int32) (x6 : Int32), f_X4_coverOf_38 n areas order size loads widths height fu x4 x5 x6 = some r → hS p l e rmX4_coverOf s m args below meth c 7 D A 0 0 (MQ below (cQ D [(cI, .int), (cZ, .boolean)] A (some (.int r)) (wX cI cZ ad areas keys there order added size loads widths height ranks)) args s 0 0 A) 38 [(0, .ref (ad 0)), (4, .int x4), (5, .int x5), (6, .int x6)] [] (wX cI cZ ad areas keys there order added size loads widths height ranks) := by
  intro fu
  induction fu with
  | zero =>
    intro x4 x5 x6 hf
    exact nomatch (show (none : Option (Int32)) = some r from hf)
  | succ fu ih =>
    intro x4 x5 x6 hf
    rw [f_X4_coverOf_38] at hf
    refine h_iload (pc := 38) C dX4_coverOf_38 3 rfl ?_
    refine h_iload (pc := 40) C dX4_coverOf_40 1 rfl ?_
    refine h_icmp_ge (pc := 42) (tgt := 67) C dX4_coverOf_42 (by decide) (fun q => ?_) (fun q => ?_)
    · replace hf := jif_t q hf
      clear q
      refine h_iload (pc := 67) C dX4_coverOf_67 2 rfl ?_
      have g0 := (Option.some.inj hf)
      clear hf
      subst g0
      exact h_iret C hr dX4_coverOf_69
    · replace hf := jif_f q hf
      clear q
      refine h_iload (pc := 45) C dX4_coverOf_45 2 rfl ?_
      refine h_aload_n (pc := 47) C dX4_coverOf_47 rfl 0 rfl ?_
      refine h_get (pc := 48) (ci := 2) (C0 := RX4) (T := TX4) (N := 3) C uX4_coverOf_X4 rfl 0 rfl 0 (by decide) (List.mem_of_getElem? (i := 2) rfl) rfl rfl dX4_coverOf_48 ?_
      refine h_iload (pc := 51) C dX4_coverOf_51 3 rfl ?_
      obtain ⟨v4, hc, hf⟩ := jbd_s hf
      refine h_callV (pc := 53) (q0 := 1) (As := [.int x6]) (rest := .int x5 :: []) (ws' := (wX cI cZ ad areas keys there order added size loads widths height ranks)) (st2 := .int v4 :: .int x5 :: []) C (c_X2_areaAt l D cI cZ ad n areas keys there order added size x6 v4 hc) (cwV 1 C.1.2.2.2.2 gX4_coverOf_X2_areaAt rfl rfl rfl pv_X2_areaAt ⟨(Nat.le_of_ble_eq_true rfl), (Nat.le_of_ble_eq_true rfl)⟩) dX4_coverOf_53 rfl rfl rfl rfl rfl (Nat.le_of_ble_eq_true rfl) ⟨rfl, rfl⟩ ⟨(Nat.le_of_ble_eq_true rfl), (Nat.le_of_ble_eq_true rfl)⟩ [1, 2, 3, 4, 5] [0, 6, 7, 8, 9] [0, 5, 6, 7, 8, 9, 1, 2, 3, 4] rfl rfl rfl rfl (by decide) rfl rfl rfl ?_
      clear hc
      obtain ⟨v5, hc, hf⟩ := jbd_s hf
      refine h_callP (pc := 56) (As := [.int x5, .int v4]) (rest := []) (st2 := .int v5 :: []) C (c_X0_around l D cI cZ ad n x5 v4 v5 hc) (va_cwS 2 C.1.2.2.2.2 gX4_coverOf_X0_around rfl rfl rfl ps_X0_around ⟨(Nat.le_of_ble_eq_true rfl), (Nat.le_of_ble_eq_true rfl)⟩) dX4_coverOf_56 rfl rfl (Nat.le_of_ble_eq_true rfl) ⟨rfl, rfl⟩ ⟨(Nat.le_of_ble_eq_true rfl), (Nat.le_of_ble_eq_true rfl)⟩ rfl ?_
      clear hc
      refine h_istore (pc := 59) (lv' := [(5, .int v5), (0, .ref (ad 0)), (4, .int x4), (6, .int x6)]) C dX4_coverOf_59 (by decide) rfl ?_
      refine h_iinc (pc := 61) (v := x6 + 1) (lv' := [(6, .int (x6 + 1)), (5, .int v5), (0, .ref (ad 0)), (4, .int x4)]) C dX4_coverOf_61 3 rfl (ji_1 _) (by decide) rfl ?_
      refine h_goto (pc := 64) (tgt := 38) C dX4_coverOf_64 (by decide) ?_
      refine h_sub [2, 3, 1, 0] rfl ?_
      exact ih x4 v5 (x6 + 1) hf
set_option maxRecDepth 100000 in
set_option maxHeartbeats 4000000 in
theorem c_X4_coverOf (l : Launch) (D : va_G) (cI cZ : ClassId) (ad : Nat → Nat) (n : Nat) (areas : Nat → Int32) (keys : Nat → Int32) (there : Nat → Int32) (order : Nat → Int32) (added : Int32) (size : Int32) (loads : Nat → Int32) (widths : Nat → Int32) (height : Int32) (ranks : Nat → Int32) (a1 : Int32) (a2 : Int32) (r : Int32) (hf : f_X4_coverOf n areas order size loads widths height a1 a2 = some r) : cM l yX4_coverOf wsX4_coverOf rmX4_coverOf D [(cI, .int), (cZ, .boolean)] [.ref (ad 0), .int a1, .int a2] (wX cI cZ ad areas keys there order added size loads widths height ranks) (some (.int r)) (wX cI cZ ad areas keys there order added size loads widths height ranks) := by
  refine cM_of (cc := cX4_coverOf) (maxL := 7) (ret := (some .int)) (own := RX4) (lv := [(0, .ref (ad 0)), (1, .int a1), (2, .int a2)]) (by decide) rfl (Nat.le_of_ble_eq_true rfl) rfl rfl ?_
  intro p e s m args below meth c A C hr
  unfold f_X4_coverOf at hf
  refine h_aload_n (pc := 0) C dX4_coverOf_0 rfl 0 rfl ?_
  refine h_get (pc := 1) (ci := 2) (C0 := RX4) (T := TX4) (N := 3) C uX4_coverOf_X4 rfl 0 rfl 1 (by decide) (List.mem_of_getElem? (i := 1) rfl) rfl rfl dX4_coverOf_1 ?_
  refine h_iload_n (pc := 4) C dX4_coverOf_4 rfl 1 rfl ?_
  refine h_iload_n (pc := 5) C dX4_coverOf_5 rfl 2 rfl ?_
  obtain ⟨v1, hc, hf⟩ := jbd_s hf
  refine h_callV (pc := 6) (q0 := 6) (As := [.int a1, .int a2]) (rest := []) (ws' := (wX cI cZ ad areas keys there order added size loads widths height ranks)) (st2 := .int v1 :: []) C (c_X3_boxesBefore l D cI cZ ad n loads widths height a1 a2 v1 hc) (cwV 2 C.1.2.2.2.2 gX4_coverOf_X3_boxesBefore rfl rfl rfl pv_X3_boxesBefore ⟨(Nat.le_of_ble_eq_true rfl), (Nat.le_of_ble_eq_true rfl)⟩) dX4_coverOf_6 rfl rfl rfl rfl rfl (Nat.le_of_ble_eq_true rfl) ⟨rfl, rfl⟩ ⟨(Nat.le_of_ble_eq_true rfl), (Nat.le_of_ble_eq_true rfl)⟩ [6, 7, 8] [0, 1, 2, 3, 4, 5, 9] [0, 1, 2, 3, 4, 5, 7, 8, 9, 6] rfl rfl rfl rfl (by decide) rfl rfl rfl ?_
  clear hc
  refine h_istore_n (pc := 9) (lv' := [(3, .int v1), (0, .ref (ad 0)), (1, .int a1), (2, .int a2)]) C dX4_coverOf_9 rfl (by decide) rfl ?_
  refine h_aload_n (pc := 10) C dX4_coverOf_10 rfl 1 rfl ?_
  refine h_get (pc := 11) (ci := 2) (C0 := RX4) (T := TX4) (N := 3) C uX4_coverOf_X4 rfl 0 rfl 1 (by decide) (List.mem_of_getElem? (i := 1) rfl) rfl rfl dX4_coverOf_11 ?_
  refine h_iload_n (pc := 14) C dX4_coverOf_14 rfl 2 rfl ?_
  refine h_iload_n (pc := 15) C dX4_coverOf_15 rfl 3 rfl ?_
  refine h_iconst (pc := 16) C dX4_coverOf_16 jc_1 ?_
  refine h_iadd (pc := 17) C dX4_coverOf_17 ?_
  obtain ⟨v2, hc, hf⟩ := jbd_s hf
  refine h_callV (pc := 18) (q0 := 6) (As := [.int a1, .int (a2 + 1)]) (rest := []) (ws' := (wX cI cZ ad areas keys there order added size loads widths height ranks)) (st2 := .int v2 :: []) C (c_X3_boxesBefore l D cI cZ ad n loads widths height a1 (a2 + 1) v2 hc) (cwV 2 C.1.2.2.2.2 gX4_coverOf_X3_boxesBefore rfl rfl rfl pv_X3_boxesBefore ⟨(Nat.le_of_ble_eq_true rfl), (Nat.le_of_ble_eq_true rfl)⟩) dX4_coverOf_18 rfl rfl rfl rfl rfl (Nat.le_of_ble_eq_true rfl) ⟨rfl, rfl⟩ ⟨(Nat.le_of_ble_eq_true rfl), (Nat.le_of_ble_eq_true rfl)⟩ [6, 7, 8] [0, 1, 2, 3, 4, 5, 9] [0, 1, 2, 3, 4, 5, 7, 8, 9, 6] rfl rfl rfl rfl (by decide) rfl rfl rfl ?_
  clear hc
  refine h_istore (pc := 21) (lv' := [(4, .int v2), (3, .int v1), (0, .ref (ad 0)), (1, .int a1), (2, .int a2)]) C dX4_coverOf_21 (by decide) rfl ?_
  refine h_aload_n (pc := 23) C dX4_coverOf_23 rfl 2 rfl ?_
  refine h_get (pc := 24) (ci := 2) (C0 := RX4) (T := TX4) (N := 3) C uX4_coverOf_X4 rfl 0 rfl 0 (by decide) (List.mem_of_getElem? (i := 2) rfl) rfl rfl dX4_coverOf_24 ?_
  refine h_iload_n (pc := 27) C dX4_coverOf_27 rfl 1 rfl ?_
  obtain ⟨v3, hc, hf⟩ := jbd_s hf
  refine h_callV (pc := 28) (q0 := 1) (As := [.int v1]) (rest := []) (ws' := (wX cI cZ ad areas keys there order added size loads widths height ranks)) (st2 := .int v3 :: []) C (c_X2_areaAt l D cI cZ ad n areas keys there order added size v1 v3 hc) (cwV 1 C.1.2.2.2.2 gX4_coverOf_X2_areaAt rfl rfl rfl pv_X2_areaAt ⟨(Nat.le_of_ble_eq_true rfl), (Nat.le_of_ble_eq_true rfl)⟩) dX4_coverOf_28 rfl rfl rfl rfl rfl (Nat.le_of_ble_eq_true rfl) ⟨rfl, rfl⟩ ⟨(Nat.le_of_ble_eq_true rfl), (Nat.le_of_ble_eq_true rfl)⟩ [1, 2, 3, 4, 5] [0, 6, 7, 8, 9] [0, 5, 6, 7, 8, 9, 1, 2, 3, 4] rfl rfl rfl rfl (by decide) rfl rfl rfl ?_
  clear hc
  refine h_istore (pc := 31) (lv' := [(5, .int v3), (4, .int v2), (3, .int v1), (0, .ref (ad 0)), (1, .int a1), (2, .int a2)]) C dX4_coverOf_31 (by decide) rfl ?_
  refine h_iload_n (pc := 33) C dX4_coverOf_33 rfl 2 rfl ?_
  refine h_iconst (pc := 34) C dX4_coverOf_34 jc_1 ?_
  refine h_iadd (pc := 35) C dX4_coverOf_35 ?_
  refine h_istore (pc := 36) (lv' := [(6, .int (v1 + 1)), (5, .int v3), (4, .int v2), (3, .int v1), (0, .ref (ad 0)), (1, .int a1), (2, .int a2)]) C dX4_coverOf_36 (by decide) rfl ?_
  refine h_sub [4, 2, 1, 0] rfl ?_
  exact k_X4_coverOf_38 l D cI cZ ad C hr n areas keys there order added size loads widths height ranks r n v2 v3 (v1 + 1) hf
theorem pv_X4_coverOf : yX4_coverOf.cls = RX4 ∧ yX4_coverOf.cls ≠ "java/lang/invoke/MethodHandle" ∧ yX4_coverOf.cls ≠ "java/lang/invoke/VarHandle" ∧ (parseMethodDescriptor yX4_coverOf.desc).map (fun d => d.parameters.length) = some 2 := by decide +kernel
abbrev rmX4_rankByDistance : Room := { frames := 3, cells := 0, slots := 0, locals := 67 }
theorem uX4_rankByDistance_X4 : ∀ w ∈ u_ws RX4 TX4 3, w ∈ wsX4_rankByDistance := fun w h => List.mem_cons_of_mem _ (List.mem_append_left _ (List.mem_append_right _ h))
set_option maxRecDepth 100000 in
set_option maxHeartbeats 4000000 in
theorem k_X4_rankByDistance_2 {p : Program} {e : Env} {s : State} {m : MethodId} {args : Array Value} {below : List Frame} {meth : Method} {c : Code} {A : Nat → Prop} (l : Launch) (D : va_G) (cI cZ : ClassId) (ad : Nat → Nat) (C : hC p s m args meth c cX4_rankByDistance 5 wsX4_rankByDistance RX4 D [(cI, .int), (cZ, .boolean)] A) (hr : meth.sig.returnType = none) (n : Nat) (areas : Nat → Int32) (keys : Nat → Int32) (there : Nat → Int32) (order : Nat → Int32) (added : Int32) (size : Int32) (loads : Nat → Int32) (widths : Nat → Int32) (height : Int32) (ranks' : Nat → Int32)  : ∀ (fu : Nat) (ranks : Nat → Int32) (x1 : Int32) (x2 : Int32) (x3 : Int32), f_X4_rankByDistance_2 n areas order size fu ranks x1 x2 x3 = some ranks' → hS p l e rmX4_rankByDistance s m args below meth c 5 D A 0 0 (MQ below (cQ D [(cI, .int), (cZ, .boolean)] A none (wX cI cZ ad areas keys there order added size loads widths height ranks')) args s 0 0 A) 2 [(0, .ref (ad 0)), (1, .int x1), (2, .int x2), (3, .int x3)] [] (wX cI cZ ad areas keys there order added size loads widths height ranks) := by
  intro fu
  induction fu with
  | zero =>
    intro ranks x1 x2 x3 hf
    exact nomatch (show (none : Option ((Nat → Int32))) = some ranks' from hf)
  | succ fu ih =>
    intro ranks x1 x2 x3 hf
    rw [f_X4_rankByDistance_2] at hf
    refine h_iload_n (pc := 2) C dX4_rankByDistance_2 rfl 3 rfl ?_
    refine h_aload_n (pc := 3) C dX4_rankByDistance_3 rfl 0 rfl ?_
    refine h_get (pc := 4) (ci := 2) (C0 := RX4) (T := TX4) (N := 3) C uX4_rankByDistance_X4 rfl 0 rfl 2 (by decide) (List.mem_of_getElem? (i := 1) rfl) rfl rfl dX4_rankByDistance_4 ?_
    refine h_alen (pc := 7) (v := 60) C 9 0 rfl rfl (by decide) dX4_rankByDistance_7 ?_
    refine h_icmp_ge (pc := 8) (tgt := 63) C dX4_rankByDistance_8 (by decide) (fun q => ?_) (fun q => ?_)
    · replace hf := jif_t q hf
      clear q
      have g0 := (Option.some.inj hf)
      clear hf
      subst g0
      exact h_vret C hr dX4_rankByDistance_63
    · replace hf := jif_f q hf
      clear q
      refine h_iload_n (pc := 11) C dX4_rankByDistance_11 rfl 3 rfl ?_
      refine h_aload_n (pc := 12) C dX4_rankByDistance_12 rfl 0 rfl ?_
      refine h_get (pc := 13) (ci := 2) (C0 := RX4) (T := TX4) (N := 3) C uX4_rankByDistance_X4 rfl 0 rfl 0 (by decide) (List.mem_of_getElem? (i := 2) rfl) rfl rfl dX4_rankByDistance_13 ?_
      obtain ⟨v1, hc, hf⟩ := jbd_s hf
      refine h_callV (pc := 16) (q0 := 1) (As := []) (rest := .int x3 :: []) (ws' := (wX cI cZ ad areas keys there order added size loads widths height ranks)) (st2 := .int v1 :: .int x3 :: []) C (c_X2_size l D cI cZ ad n areas keys there order added size v1 hc) (cwV 0 C.1.2.2.2.2 gX4_rankByDistance_X2_size rfl rfl rfl pv_X2_size ⟨(Nat.le_of_ble_eq_true rfl), (Nat.le_of_ble_eq_true rfl)⟩) dX4_rankByDistance_16 rfl rfl rfl rfl rfl (Nat.le_of_ble_eq_true rfl) ⟨rfl, rfl⟩ ⟨(Nat.le_of_ble_eq_true rfl), (Nat.le_of_ble_eq_true rfl)⟩ [1, 2, 3, 4, 5] [0, 6, 7, 8, 9] [0, 5, 6, 7, 8, 9, 1, 2, 3, 4] rfl rfl rfl rfl (by decide) rfl rfl rfl ?_
      clear hc
      refine h_icmp_ge (pc := 19) (tgt := 63) C dX4_rankByDistance_19 (by decide) (fun q => ?_) (fun q => ?_)
      · replace hf := jif_t q hf
        clear q
        have g0 := (Option.some.inj hf)
        clear hf
        subst g0
        exact h_vret C hr dX4_rankByDistance_63
      · replace hf := jif_f q hf
        clear q
        refine h_aload_n (pc := 22) C dX4_rankByDistance_22 rfl 0 rfl ?_
        refine h_get (pc := 23) (ci := 2) (C0 := RX4) (T := TX4) (N := 3) C uX4_rankByDistance_X4 rfl 0 rfl 0 (by decide) (List.mem_of_getElem? (i := 2) rfl) rfl rfl dX4_rankByDistance_23 ?_
        refine h_iload_n (pc := 26) C dX4_rankByDistance_26 rfl 3 rfl ?_
        obtain ⟨v2, hc, hf⟩ := jbd_s hf
        refine h_callV (pc := 27) (q0 := 1) (As := [.int x3]) (rest := []) (ws' := (wX cI cZ ad areas keys there order added size loads widths height ranks)) (st2 := .int v2 :: []) C (c_X2_areaAt l D cI cZ ad n areas keys there order added size x3 v2 hc) (cwV 1 C.1.2.2.2.2 gX4_rankByDistance_X2_areaAt rfl rfl rfl pv_X2_areaAt ⟨(Nat.le_of_ble_eq_true rfl), (Nat.le_of_ble_eq_true rfl)⟩) dX4_rankByDistance_27 rfl rfl rfl rfl rfl (Nat.le_of_ble_eq_true rfl) ⟨rfl, rfl⟩ ⟨(Nat.le_of_ble_eq_true rfl), (Nat.le_of_ble_eq_true rfl)⟩ [1, 2, 3, 4, 5] [0, 6, 7, 8, 9] [0, 5, 6, 7, 8, 9, 1, 2, 3, 4] rfl rfl rfl rfl (by decide) rfl rfl rfl ?_
        clear hc
        refine h_iload_n (pc := 30) C dX4_rankByDistance_30 rfl 1 rfl ?_
        refine h_iload_n (pc := 31) C dX4_rankByDistance_31 rfl 2 rfl ?_
        obtain ⟨v3, hc, hf⟩ := jbd_s hf
        refine h_callP (pc := 32) (As := [.int v2, .int x1, .int x2]) (rest := []) (st2 := .int v3 :: []) C (c_X0_distanceFrom l D cI cZ ad n v2 x1 x2 v3 hc) (va_cwS 3 C.1.2.2.2.2 gX4_rankByDistance_X0_distanceFrom rfl rfl rfl ps_X0_distanceFrom ⟨(Nat.le_of_ble_eq_true rfl), (Nat.le_of_ble_eq_true rfl)⟩) dX4_rankByDistance_32 rfl rfl (Nat.le_of_ble_eq_true rfl) ⟨rfl, rfl⟩ ⟨(Nat.le_of_ble_eq_true rfl), (Nat.le_of_ble_eq_true rfl)⟩ rfl ?_
        clear hc
        refine h_istore (pc := 35) (lv' := [(4, .int v3), (0, .ref (ad 0)), (1, .int x1), (2, .int x2), (3, .int x3)]) C dX4_rankByDistance_35 (by decide) rfl ?_
        refine h_aload_n (pc := 37) C dX4_rankByDistance_37 rfl 1 rfl ?_
        refine h_get (pc := 38) (ci := 2) (C0 := RX4) (T := TX4) (N := 3) C uX4_rankByDistance_X4 rfl 0 rfl 2 (by decide) (List.mem_of_getElem? (i := 1) rfl) rfl rfl dX4_rankByDistance_38 ?_
        refine h_iload_n (pc := 41) C dX4_rankByDistance_41 rfl 4 rfl ?_
        refine h_iload (pc := 42) C dX4_rankByDistance_42 0 rfl ?_
        refine h_bipush (pc := 44) C dX4_rankByDistance_44 jb_100 ?_
        refine h_imul (pc := 46) C dX4_rankByDistance_46 ?_
        refine h_aload_n (pc := 47) C dX4_rankByDistance_47 rfl 1 rfl ?_
        refine h_get (pc := 48) (ci := 2) (C0 := RX4) (T := TX4) (N := 3) C uX4_rankByDistance_X4 rfl 0 rfl 0 (by decide) (List.mem_of_getElem? (i := 2) rfl) rfl rfl dX4_rankByDistance_48 ?_
        refine h_iload_n (pc := 51) C dX4_rankByDistance_51 rfl 4 rfl ?_
        obtain ⟨v4, hc, hf⟩ := jbd_s hf
        refine h_callV (pc := 52) (q0 := 1) (As := [.int x3]) (rest := .int (v3 * 100) :: .int x3 :: .ref (ad 9) :: []) (ws' := (wX cI cZ ad areas keys there order added size loads widths height ranks)) (st2 := .int v4 :: .int (v3 * 100) :: .int x3 :: .ref (ad 9) :: []) C (c_X2_numberAt l D cI cZ ad n areas keys there order added size x3 v4 hc) (cwV 1 C.1.2.2.2.2 gX4_rankByDistance_X2_numberAt rfl rfl rfl pv_X2_numberAt ⟨(Nat.le_of_ble_eq_true rfl), (Nat.le_of_ble_eq_true rfl)⟩) dX4_rankByDistance_52 rfl rfl rfl rfl rfl (Nat.le_of_ble_eq_true rfl) ⟨rfl, rfl⟩ ⟨(Nat.le_of_ble_eq_true rfl), (Nat.le_of_ble_eq_true rfl)⟩ [1, 2, 3, 4, 5] [0, 6, 7, 8, 9] [0, 5, 6, 7, 8, 9, 1, 2, 3, 4] rfl rfl rfl rfl (by decide) rfl rfl rfl ?_
        clear hc
        refine h_iadd (pc := 55) C dX4_rankByDistance_55 ?_
        obtain ⟨hi, w5, hv, hf⟩ := jwr_s hf
        refine h_iast (pc := 56) (ws' := (wX cI cZ ad areas keys there order added size loads widths height w5)) C 9 0 rfl rfl hi hv rfl dX4_rankByDistance_56 ?_
        clear hi hv
        refine h_iinc (pc := 57) (v := x3 + 1) (lv' := [(3, .int (x3 + 1)), (4, .int v3), (0, .ref (ad 0)), (1, .int x1), (2, .int x2)]) C dX4_rankByDistance_57 4 rfl (ji_1 _) (by decide) rfl ?_
        refine h_goto (pc := 60) (tgt := 2) C dX4_rankByDistance_60 (by decide) ?_
        refine h_sub [2, 3, 4, 0] rfl ?_
        exact ih w5 x1 x2 (x3 + 1) hf
set_option maxRecDepth 100000 in
set_option maxHeartbeats 4000000 in
theorem c_X4_rankByDistance (l : Launch) (D : va_G) (cI cZ : ClassId) (ad : Nat → Nat) (n : Nat) (areas : Nat → Int32) (keys : Nat → Int32) (there : Nat → Int32) (order : Nat → Int32) (added : Int32) (size : Int32) (loads : Nat → Int32) (widths : Nat → Int32) (height : Int32) (ranks : Nat → Int32) (a1 : Int32) (a2 : Int32) (ranks' : Nat → Int32) (hf : f_X4_rankByDistance n areas order size ranks a1 a2 = some ranks') : cM l yX4_rankByDistance wsX4_rankByDistance rmX4_rankByDistance D [(cI, .int), (cZ, .boolean)] [.ref (ad 0), .int a1, .int a2] (wX cI cZ ad areas keys there order added size loads widths height ranks) none (wX cI cZ ad areas keys there order added size loads widths height ranks') := by
  refine cM_of (cc := cX4_rankByDistance) (maxL := 5) (ret := none) (own := RX4) (lv := [(0, .ref (ad 0)), (1, .int a1), (2, .int a2)]) (by decide) rfl (Nat.le_of_ble_eq_true rfl) rfl rfl ?_
  intro p e s m args below meth c A C hr
  unfold f_X4_rankByDistance at hf
  refine h_iconst (pc := 0) C dX4_rankByDistance_0 jc_0 ?_
  refine h_istore_n (pc := 1) (lv' := [(3, .int 0), (0, .ref (ad 0)), (1, .int a1), (2, .int a2)]) C dX4_rankByDistance_1 rfl (by decide) rfl ?_
  refine h_sub [1, 2, 3, 0] rfl ?_
  exact k_X4_rankByDistance_2 l D cI cZ ad C hr n areas keys there order added size loads widths height ranks' n ranks a1 a2 0 hf
theorem pv_X4_rankByDistance : yX4_rankByDistance.cls = RX4 ∧ yX4_rankByDistance.cls ≠ "java/lang/invoke/MethodHandle" ∧ yX4_rankByDistance.cls ≠ "java/lang/invoke/VarHandle" ∧ (parseMethodDescriptor yX4_rankByDistance.desc).map (fun d => d.parameters.length) = some 2 := by decide +kernel
abbrev rmX4_ranksBefore : Room := { frames := 1, cells := 0, slots := 0, locals := 20 }
theorem uX4_ranksBefore_X4 : ∀ w ∈ u_ws RX4 TX4 3, w ∈ wsX4_ranksBefore := fun w h => List.mem_cons_of_mem _ (List.mem_append_left _ (List.mem_append_right _ h))
set_option maxRecDepth 100000 in
set_option maxHeartbeats 4000000 in
theorem k_X4_ranksBefore_63 {p : Program} {e : Env} {s : State} {m : MethodId} {args : Array Value} {below : List Frame} {meth : Method} {c : Code} {A : Nat → Prop} (l : Launch) (D : va_G) (cI cZ : ClassId) (ad : Nat → Nat) (C : hC p s m args meth c cX4_ranksBefore 5 wsX4_ranksBefore RX4 D [(cI, .int), (cZ, .boolean)] A) (hr : meth.sig.returnType = (some .int)) (n : Nat) (areas : Nat → Int32) (keys : Nat → Int32) (there : Nat → Int32) (order : Nat → Int32) (added : Int32) (size : Int32) (loads : Nat → Int32) (widths : Nat → Int32) (height : Int32) (ranks : Nat → Int32) (r : Int32) (k27 : Int32 → Int32 → Int32 → Option (Int32)) (K27 : ∀  (x2 : Int32) (x3 : Int32) (x4 : Int32), k27 x2 x3 x4 = some r → hS p l e rmX4_ranksBefore s m args below meth c 5 D A 0 0 (MQ below (cQ D [(cI, .int), (cZ, .boolean)] A (some (.int r)) (wX cI cZ ad areas keys there order added size loads widths height ranks)) args s 0 0 A) 27 [(0, .ref (ad 0)), (2, .int x2), (3, .int x3), (4, .int x4)] [] (wX cI cZ ad areas keys there order added size loads widths height ranks)) : ∀  (x2 : Int32) (x3 : Int32) (x4 : Int32), f_X4_ranksBefore_63 n size ranks k27 x2 x3 x4 = some r → hS p l e rmX4_ranksBefore s m args below meth c 5 D A 0 0 (MQ below (cQ D [(cI, .int), (cZ, .boolean)] A (some (.int r)) (wX cI cZ ad areas keys there order added size loads widths height ranks)) args s 0 0 A) 63 [(0, .ref (ad 0)), (2, .int x2), (3, .int x3), (4, .int x4)] [] (wX cI cZ ad areas keys there order added size loads widths height ranks) := by
  intro x2 x3 x4 hf
  unfold f_X4_ranksBefore_63 at hf
  refine h_iinc (pc := 63) (v := x4 + 1) (lv' := [(4, .int (x4 + 1)), (0, .ref (ad 0)), (2, .int x2), (3, .int x3)]) C dX4_ranksBefore_63 3 rfl (ji_1 _) (by decide) rfl ?_
  refine h_goto (pc := 66) (tgt := 27) C dX4_ranksBefore_66 (by decide) ?_
  refine h_sub [1, 2, 3, 0] rfl ?_
  exact K27 x2 x3 (x4 + 1) hf
set_option maxRecDepth 100000 in
set_option maxHeartbeats 4000000 in
theorem k_X4_ranksBefore_27 {p : Program} {e : Env} {s : State} {m : MethodId} {args : Array Value} {below : List Frame} {meth : Method} {c : Code} {A : Nat → Prop} (l : Launch) (D : va_G) (cI cZ : ClassId) (ad : Nat → Nat) (C : hC p s m args meth c cX4_ranksBefore 5 wsX4_ranksBefore RX4 D [(cI, .int), (cZ, .boolean)] A) (hr : meth.sig.returnType = (some .int)) (n : Nat) (areas : Nat → Int32) (keys : Nat → Int32) (there : Nat → Int32) (order : Nat → Int32) (added : Int32) (size : Int32) (loads : Nat → Int32) (widths : Nat → Int32) (height : Int32) (ranks : Nat → Int32) (r : Int32)  : ∀ (fu : Nat)  (x2 : Int32) (x3 : Int32) (x4 : Int32), f_X4_ranksBefore_27 n size ranks fu x2 x3 x4 = some r → hS p l e rmX4_ranksBefore s m args below meth c 5 D A 0 0 (MQ below (cQ D [(cI, .int), (cZ, .boolean)] A (some (.int r)) (wX cI cZ ad areas keys there order added size loads widths height ranks)) args s 0 0 A) 27 [(0, .ref (ad 0)), (2, .int x2), (3, .int x3), (4, .int x4)] [] (wX cI cZ ad areas keys there order added size loads widths height ranks) := by
  intro fu
  induction fu with
  | zero =>
    intro x2 x3 x4 hf
    exact nomatch (show (none : Option (Int32)) = some r from hf)
  | succ fu ih =>
    intro x2 x3 x4 hf
    rw [f_X4_ranksBefore_27] at hf
    refine h_iload (pc := 27) C dX4_ranksBefore_27 3 rfl ?_
    refine h_aload_n (pc := 29) C dX4_ranksBefore_29 rfl 0 rfl ?_
    refine h_get (pc := 30) (ci := 2) (C0 := RX4) (T := TX4) (N := 3) C uX4_ranksBefore_X4 rfl 0 rfl 2 (by decide) (List.mem_of_getElem? (i := 1) rfl) rfl rfl dX4_ranksBefore_30 ?_
    refine h_alen (pc := 33) (v := 60) C 9 0 rfl rfl (by decide) dX4_ranksBefore_33 ?_
    refine h_icmp_ge (pc := 34) (tgt := 69) C dX4_ranksBefore_34 (by decide) (fun q => ?_) (fun q => ?_)
    · replace hf := jif_t q hf
      clear q
      refine h_iload_n (pc := 69) C dX4_ranksBefore_69 rfl 2 rfl ?_
      have g0 := (Option.some.inj hf)
      clear hf
      subst g0
      exact h_iret C hr dX4_ranksBefore_70
    · replace hf := jif_f q hf
      clear q
      refine h_iload (pc := 37) C dX4_ranksBefore_37 3 rfl ?_
      refine h_aload_n (pc := 39) C dX4_ranksBefore_39 rfl 0 rfl ?_
      refine h_get (pc := 40) (ci := 2) (C0 := RX4) (T := TX4) (N := 3) C uX4_ranksBefore_X4 rfl 0 rfl 0 (by decide) (List.mem_of_getElem? (i := 2) rfl) rfl rfl dX4_ranksBefore_40 ?_
      obtain ⟨v2, hc, hf⟩ := jbd_s hf
      refine h_callV (pc := 43) (q0 := 1) (As := []) (rest := .int x4 :: []) (ws' := (wX cI cZ ad areas keys there order added size loads widths height ranks)) (st2 := .int v2 :: .int x4 :: []) C (c_X2_size l D cI cZ ad n areas keys there order added size v2 hc) (cwV 0 C.1.2.2.2.2 gX4_ranksBefore_X2_size rfl rfl rfl pv_X2_size ⟨(Nat.le_of_ble_eq_true rfl), (Nat.le_of_ble_eq_true rfl)⟩) dX4_ranksBefore_43 rfl rfl rfl rfl rfl (Nat.le_of_ble_eq_true rfl) ⟨rfl, rfl⟩ ⟨(Nat.le_of_ble_eq_true rfl), (Nat.le_of_ble_eq_true rfl)⟩ [1, 2, 3, 4, 5] [0, 6, 7, 8, 9] [0, 5, 6, 7, 8, 9, 1, 2, 3, 4] rfl rfl rfl rfl (by decide) rfl rfl rfl ?_
      clear hc
      refine h_icmp_ge (pc := 46) (tgt := 69) C dX4_ranksBefore_46 (by decide) (fun q => ?_) (fun q => ?_)
      · replace hf := jif_t q hf
        clear q
        refine h_iload_n (pc := 69) C dX4_ranksBefore_69 rfl 2 rfl ?_
        have g0 := (Option.some.inj hf)
        clear hf
        subst g0
        exact h_iret C hr dX4_ranksBefore_70
      · replace hf := jif_f q hf
        clear q
        refine h_aload_n (pc := 49) C dX4_ranksBefore_49 rfl 0 rfl ?_
        refine h_get (pc := 50) (ci := 2) (C0 := RX4) (T := TX4) (N := 3) C uX4_ranksBefore_X4 rfl 0 rfl 2 (by decide) (List.mem_of_getElem? (i := 1) rfl) rfl rfl dX4_ranksBefore_50 ?_
        refine h_iload (pc := 53) C dX4_ranksBefore_53 3 rfl ?_
        obtain ⟨hi, v3, hv, hf⟩ := jrd_s hf
        refine h_iald (pc := 55) C 9 0 rfl rfl hi hv dX4_ranksBefore_55 ?_
        clear hi hv
        refine h_iload_n (pc := 56) C dX4_ranksBefore_56 rfl 1 rfl ?_
        refine h_icmp_ge (pc := 57) (tgt := 63) C dX4_ranksBefore_57 (by decide) (fun q => ?_) (fun q => ?_)
        · replace hf := jif_t q hf
          clear q
          exact k_X4_ranksBefore_63 l D cI cZ ad C hr n areas keys there order added size loads widths height ranks r (f_X4_ranksBefore_27 n size ranks fu) ih x2 x3 x4 hf
        · replace hf := jif_f q hf
          clear q
          refine h_iinc (pc := 60) (v := x3 + 1) (lv' := [(3, .int (x3 + 1)), (0, .ref (ad 0)), (2, .int x2), (4, .int x4)]) C dX4_ranksBefore_60 2 rfl (ji_1 _) (by decide) rfl ?_
          refine h_sub [1, 2, 0, 3] rfl ?_
          exact k_X4_ranksBefore_63 l D cI cZ ad C hr n areas keys there order added size loads widths height ranks r (f_X4_ranksBefore_27 n size ranks fu) ih x2 (x3 + 1) x4 hf
set_option maxRecDepth 100000 in
set_option maxHeartbeats 4000000 in
theorem c_X4_ranksBefore (l : Launch) (D : va_G) (cI cZ : ClassId) (ad : Nat → Nat) (n : Nat) (areas : Nat → Int32) (keys : Nat → Int32) (there : Nat → Int32) (order : Nat → Int32) (added : Int32) (size : Int32) (loads : Nat → Int32) (widths : Nat → Int32) (height : Int32) (ranks : Nat → Int32) (a1 : Int32) (r : Int32) (hf : f_X4_ranksBefore n size ranks a1 = some r) : cM l yX4_ranksBefore wsX4_ranksBefore rmX4_ranksBefore D [(cI, .int), (cZ, .boolean)] [.ref (ad 0), .int a1] (wX cI cZ ad areas keys there order added size loads widths height ranks) (some (.int r)) (wX cI cZ ad areas keys there order added size loads widths height ranks) := by
  refine cM_of (cc := cX4_ranksBefore) (maxL := 5) (ret := (some .int)) (own := RX4) (lv := [(0, .ref (ad 0)), (1, .int a1)]) (by decide) rfl (Nat.le_of_ble_eq_true rfl) rfl rfl ?_
  intro p e s m args below meth c A C hr
  unfold f_X4_ranksBefore at hf
  refine h_iload_n (pc := 0) C dX4_ranksBefore_0 rfl 1 rfl ?_
  refine h_if_lt (pc := 1) (tgt := 13) C dX4_ranksBefore_1 (by decide) (fun q => ?_) (fun q => ?_)
  · replace hf := jif_t q hf
    clear q
    refine h_iconst (pc := 13) C dX4_ranksBefore_13 jc_m1 ?_
    have g0 := (Option.some.inj hf)
    clear hf
    subst g0
    exact h_iret C hr dX4_ranksBefore_14
  · replace hf := jif_f q hf
    clear q
    refine h_iload_n (pc := 4) C dX4_ranksBefore_4 rfl 1 rfl ?_
    refine h_aload_n (pc := 5) C dX4_ranksBefore_5 rfl 0 rfl ?_
    refine h_get (pc := 6) (ci := 2) (C0 := RX4) (T := TX4) (N := 3) C uX4_ranksBefore_X4 rfl 0 rfl 2 (by decide) (List.mem_of_getElem? (i := 1) rfl) rfl rfl dX4_ranksBefore_6 ?_
    refine h_alen (pc := 9) (v := 60) C 9 0 rfl rfl (by decide) dX4_ranksBefore_9 ?_
    refine h_icmp_lt (pc := 10) (tgt := 15) C dX4_ranksBefore_10 (by decide) (fun q => ?_) (fun q => ?_)
    · replace hf := jif_t q hf
      clear q
      refine h_aload_n (pc := 15) C dX4_ranksBefore_15 rfl 0 rfl ?_
      refine h_get (pc := 16) (ci := 2) (C0 := RX4) (T := TX4) (N := 3) C uX4_ranksBefore_X4 rfl 0 rfl 2 (by decide) (List.mem_of_getElem? (i := 1) rfl) rfl rfl dX4_ranksBefore_16 ?_
      refine h_iload_n (pc := 19) C dX4_ranksBefore_19 rfl 1 rfl ?_
      obtain ⟨hi, v1, hv, hf⟩ := jrd_s hf
      refine h_iald (pc := 20) C 9 0 rfl rfl hi hv dX4_ranksBefore_20 ?_
      clear hi hv
      refine h_istore_n (pc := 21) (lv' := [(2, .int v1), (0, .ref (ad 0)), (1, .int a1)]) C dX4_ranksBefore_21 rfl (by decide) rfl ?_
      refine h_iconst (pc := 22) C dX4_ranksBefore_22 jc_0 ?_
      refine h_istore_n (pc := 23) (lv' := [(3, .int 0), (2, .int v1), (0, .ref (ad 0)), (1, .int a1)]) C dX4_ranksBefore_23 rfl (by decide) rfl ?_
      refine h_iconst (pc := 24) C dX4_ranksBefore_24 jc_0 ?_
      refine h_istore (pc := 25) (lv' := [(4, .int 0), (3, .int 0), (2, .int v1), (0, .ref (ad 0)), (1, .int a1)]) C dX4_ranksBefore_25 (by decide) rfl ?_
      refine h_sub [3, 2, 1, 0] rfl ?_
      exact k_X4_ranksBefore_27 l D cI cZ ad C hr n areas keys there order added size loads widths height ranks r n v1 0 0 hf
    · replace hf := jif_f q hf
      clear q
      refine h_iconst (pc := 13) C dX4_ranksBefore_13 jc_m1 ?_
      have g0 := (Option.some.inj hf)
      clear hf
      subst g0
      exact h_iret C hr dX4_ranksBefore_14
theorem pv_X4_ranksBefore : yX4_ranksBefore.cls = RX4 ∧ yX4_ranksBefore.cls ≠ "java/lang/invoke/MethodHandle" ∧ yX4_ranksBefore.cls ≠ "java/lang/invoke/VarHandle" ∧ (parseMethodDescriptor yX4_ranksBefore.desc).map (fun d => d.parameters.length) = some 1 := by decide +kernel
