/-! laid by wip/p24/lay24.py: the class's methods on the empty tree -/
theorem pv_X2_size : yX2_size.cls = RX2 ∧ yX2_size.cls ≠ "java/lang/invoke/MethodHandle" ∧ yX2_size.cls ≠ "java/lang/invoke/VarHandle" ∧ (parseMethodDescriptor yX2_size.desc).map (fun d => d.parameters.length) = some 0 := by decide +kernel
theorem pv_X4_boxes : yX4_boxes.cls = RX4 ∧ yX4_boxes.cls ≠ "java/lang/invoke/MethodHandle" ∧ yX4_boxes.cls ≠ "java/lang/invoke/VarHandle" ∧ (parseMethodDescriptor yX4_boxes.desc).map (fun d => d.parameters.length) = some 0 := by decide +kernel
theorem pv_X4_boxAt : yX4_boxAt.cls = RX4 ∧ yX4_boxAt.cls ≠ "java/lang/invoke/MethodHandle" ∧ yX4_boxAt.cls ≠ "java/lang/invoke/VarHandle" ∧ (parseMethodDescriptor yX4_boxAt.desc).map (fun d => d.parameters.length) = some 1 := by decide +kernel
theorem ps_L_tree : yL_tree.cls ≠ "java/lang/invoke/MethodHandle" ∧ yL_tree.cls ≠ "java/lang/invoke/VarHandle" ∧ (parseMethodDescriptor yL_tree.desc).map (fun d => d.parameters.length) = some 5 := by decide +kernel
theorem ps_L_isOrder : yL_isOrder.cls ≠ "java/lang/invoke/MethodHandle" ∧ yL_isOrder.cls ≠ "java/lang/invoke/VarHandle" ∧ (parseMethodDescriptor yL_isOrder.desc).map (fun d => d.parameters.length) = some 2 := by decide +kernel
theorem pv_X3_height : yX3_height.cls = RX3 ∧ yX3_height.cls ≠ "java/lang/invoke/MethodHandle" ∧ yX3_height.cls ≠ "java/lang/invoke/VarHandle" ∧ (parseMethodDescriptor yX3_height.desc).map (fun d => d.parameters.length) = some 0 := by decide +kernel
theorem pv_X4_levels : yX4_levels.cls = RX4 ∧ yX4_levels.cls ≠ "java/lang/invoke/MethodHandle" ∧ yX4_levels.cls ≠ "java/lang/invoke/VarHandle" ∧ (parseMethodDescriptor yX4_levels.desc).map (fun d => d.parameters.length) = some 0 := by decide +kernel
theorem pv_X3_hasLevel : yX3_hasLevel.cls = RX3 ∧ yX3_hasLevel.cls ≠ "java/lang/invoke/MethodHandle" ∧ yX3_hasLevel.cls ≠ "java/lang/invoke/VarHandle" ∧ (parseMethodDescriptor yX3_hasLevel.desc).map (fun d => d.parameters.length) = some 1 := by decide +kernel
theorem pv_X4_nodes : yX4_nodes.cls = RX4 ∧ yX4_nodes.cls ≠ "java/lang/invoke/MethodHandle" ∧ yX4_nodes.cls ≠ "java/lang/invoke/VarHandle" ∧ (parseMethodDescriptor yX4_nodes.desc).map (fun d => d.parameters.length) = some 1 := by decide +kernel
theorem pv_X3_width : yX3_width.cls = RX3 ∧ yX3_width.cls ≠ "java/lang/invoke/MethodHandle" ∧ yX3_width.cls ≠ "java/lang/invoke/VarHandle" ∧ (parseMethodDescriptor yX3_width.desc).map (fun d => d.parameters.length) = some 1 := by decide +kernel
theorem pv_X4_tightness : yX4_tightness.cls = RX4 ∧ yX4_tightness.cls ≠ "java/lang/invoke/MethodHandle" ∧ yX4_tightness.cls ≠ "java/lang/invoke/VarHandle" ∧ (parseMethodDescriptor yX4_tightness.desc).map (fun d => d.parameters.length) = some 0 := by decide +kernel
theorem ps_L_tightness : yL_tightness.cls ≠ "java/lang/invoke/MethodHandle" ∧ yL_tightness.cls ≠ "java/lang/invoke/VarHandle" ∧ (parseMethodDescriptor yL_tightness.desc).map (fun d => d.parameters.length) = some 1 := by decide +kernel
theorem ps_L_isTree : yL_isTree.cls ≠ "java/lang/invoke/MethodHandle" ∧ yL_isTree.cls ≠ "java/lang/invoke/VarHandle" ∧ (parseMethodDescriptor yL_isTree.desc).map (fun d => d.parameters.length) = some 2 := by decide +kernel
theorem ps_L_areAll : yL_areAll.cls ≠ "java/lang/invoke/MethodHandle" ∧ yL_areAll.cls ≠ "java/lang/invoke/VarHandle" ∧ (parseMethodDescriptor yL_areAll.desc).map (fun d => d.parameters.length) = some 2 := by decide +kernel
theorem pv_X2_added : yX2_added.cls = RX2 ∧ yX2_added.cls ≠ "java/lang/invoke/MethodHandle" ∧ yX2_added.cls ≠ "java/lang/invoke/VarHandle" ∧ (parseMethodDescriptor yX2_added.desc).map (fun d => d.parameters.length) = some 0 := by decide +kernel
theorem pv_X4_pairs : yX4_pairs.cls = RX4 ∧ yX4_pairs.cls ≠ "java/lang/invoke/MethodHandle" ∧ yX4_pairs.cls ≠ "java/lang/invoke/VarHandle" ∧ (parseMethodDescriptor yX4_pairs.desc).map (fun d => d.parameters.length) = some 0 := by decide +kernel
theorem pv_X4_pair : yX4_pair.cls = RX4 ∧ yX4_pair.cls ≠ "java/lang/invoke/MethodHandle" ∧ yX4_pair.cls ≠ "java/lang/invoke/VarHandle" ∧ (parseMethodDescriptor yX4_pair.desc).map (fun d => d.parameters.length) = some 1 := by decide +kernel
theorem ps_L_pair : yL_pair.cls ≠ "java/lang/invoke/MethodHandle" ∧ yL_pair.cls ≠ "java/lang/invoke/VarHandle" ∧ (parseMethodDescriptor yL_pair.desc).map (fun d => d.parameters.length) = some 2 := by decide +kernel
theorem ps_L_arePairs : yL_arePairs.cls ≠ "java/lang/invoke/MethodHandle" ∧ yL_arePairs.cls ≠ "java/lang/invoke/VarHandle" ∧ (parseMethodDescriptor yL_arePairs.desc).map (fun d => d.parameters.length) = some 2 := by decide +kernel
theorem ps_L_part : yL_part.cls ≠ "java/lang/invoke/MethodHandle" ∧ yL_part.cls ≠ "java/lang/invoke/VarHandle" ∧ (parseMethodDescriptor yL_part.desc).map (fun d => d.parameters.length) = some 3 := by decide +kernel
theorem ps_L_isDone : yL_isDone.cls ≠ "java/lang/invoke/MethodHandle" ∧ yL_isDone.cls ≠ "java/lang/invoke/VarHandle" ∧ (parseMethodDescriptor yL_isDone.desc).map (fun d => d.parameters.length) = some 4 := by decide +kernel
abbrev rmX2_size : Room := { frames := 0, cells := 0, slots := 0, locals := 0 }
theorem uuX2_size_X2 : ∀ w ∈ u_ws RX2 TX2 6, w ∈ wsX2_size := fun w h => List.mem_cons_of_mem _ (List.mem_append_right _ h)
set_option maxRecDepth 100000 in
set_option maxHeartbeats 4000000 in
theorem c_X2_size (l : Launch) (D : va_G) (cT : Nat → ClassId) (ad : Nat → Nat) : cM l yX2_size wsX2_size rmX2_size D (ty2 cT) [.ref (ad 1)] (wS cT ad) (some (.int 0)) := by
  refine cM_of (cc := cX2_size) (maxL := 1) (ret := (some .int)) (own := RX2) (lv := [(0, .ref (ad 1))]) (by decide) rfl (Nat.le_of_ble_eq_true rfl) rfl rfl ?_
  intro p e s m args below meth c A C hr
  refine h_aload_n (pc := 0) C dX2_size_0 rfl 0 rfl ?_
  refine h_get (pc := 1) (ci := 0) (C0 := RX2) (T := TX2) (N := 6) C uuX2_size_X2 rfl 0 rfl 5 (by decide) (List.mem_of_getElem? (i := 1) rfl) rfl rfl dX2_size_1 ?_
  exact h_iret C hr dX2_size_4
abbrev rmX4_boxes : Room := { frames := 1, cells := 0, slots := 0, locals := 20 }
theorem uuX4_boxes_X4 : ∀ w ∈ u_ws RX4 TX4 3, w ∈ wsX4_boxes := fun w h => List.mem_cons_of_mem _ (List.mem_append_left _ (List.mem_append_right _ h))
set_option maxRecDepth 100000 in
set_option maxHeartbeats 4000000 in
theorem c_X4_boxes (l : Launch) (D : va_G) (cT : Nat → ClassId) (ad : Nat → Nat) : cM l yX4_boxes wsX4_boxes rmX4_boxes D (ty2 cT) [.ref (ad 0)] (wX cT ad) (some (.int 0)) := by
  refine cM_of (cc := cX4_boxes) (maxL := 1) (ret := (some .int)) (own := RX4) (lv := [(0, .ref (ad 0))]) (by decide) rfl (Nat.le_of_ble_eq_true rfl) rfl rfl ?_
  intro p e s m args below meth c A C hr
  refine h_aload_n (pc := 0) C dX4_boxes_0 rfl 0 rfl ?_
  refine h_get (pc := 1) (ci := 2) (C0 := RX4) (T := TX4) (N := 3) C uuX4_boxes_X4 rfl 0 rfl 0 (by decide) (List.mem_of_getElem? (i := 1) rfl) rfl rfl dX4_boxes_1 ?_
  refine h_callV (pc := 4) (q0 := 1) (As := []) (rest := []) (st2 := .int 0 :: []) C (c_X2_size l D cT ad) (cwV 0 C.1.2.2.2.2 gX4_boxes_X2_size rfl rfl rfl pv_X2_size ⟨Nat.le_of_ble_eq_true rfl, Nat.le_of_ble_eq_true rfl⟩) dX4_boxes_4 rfl rfl rfl rfl rfl (Nat.le_of_ble_eq_true rfl) ⟨rfl, rfl⟩ ⟨Nat.le_of_ble_eq_true rfl, Nat.le_of_ble_eq_true rfl⟩ [1, 2, 3, 4, 5] [0, 6, 7, 8, 9] [0, 5, 6, 7, 8, 9, 1, 2, 3, 4] rfl rfl rfl rfl (by decide) rfl rfl rfl ?_
  exact h_iret C hr dX4_boxes_7
abbrev rmX4_boxAt_0 : Room := { frames := 6, cells := 1, slots := 6, locals := 90 }
theorem uuX4_boxAt_X4 : ∀ w ∈ u_ws RX4 TX4 3, w ∈ wsX4_boxAt := fun w h => List.mem_cons_of_mem _ (List.mem_append_left _ (List.mem_append_left _ (List.mem_append_right _ h)))
set_option maxRecDepth 100000 in
set_option maxHeartbeats 4000000 in
theorem x_X4_boxAt_0 {l : Launch} (hX0 : l.stackTraces = false) (D : va_G) (cT : Nat → ClassId) (ad : Nat → Nat) : xM l yX4_boxAt wsX4_boxAt rmX4_boxAt_0 D (ty2 cT) [.ref (ad 0), .int 0] (wX cT ad) xIOE := by
  refine xM_of (cc := cX4_boxAt) (maxL := 2) (ret := (some .int)) (own := RX4) (lv := [(0, .ref (ad 0)), (1, .int 0)]) hX0 (by decide) rfl (Nat.le_of_ble_eq_true rfl) rfl rfl ?_
  intro p e s m args below meth c A C X
  refine h_iload_n (pc := 0) C dX4_boxAt_0 rfl 1 rfl ?_
  refine h_if_lt (pc := 1) (tgt := 15) C dX4_boxAt_1 (by decide) (fun q => absurd q (by decide)) (fun _ => ?_)
  refine h_iload_n (pc := 4) C dX4_boxAt_4 rfl 1 rfl ?_
  refine h_aload_n (pc := 5) C dX4_boxAt_5 rfl 0 rfl ?_
  refine h_get (pc := 6) (ci := 2) (C0 := RX4) (T := TX4) (N := 3) C uuX4_boxAt_X4 rfl 0 rfl 0 (by decide) (List.mem_of_getElem? (i := 3) rfl) rfl rfl dX4_boxAt_6 ?_
  refine h_callV (pc := 9) (q0 := 1) (As := []) (rest := .int 0 :: []) (st2 := .int 0 :: .int 0 :: []) C (c_X2_size l D cT ad) (cwV 0 C.1.2.2.2.2 gX4_boxAt_X2_size rfl rfl rfl pv_X2_size ⟨Nat.le_of_ble_eq_true rfl, Nat.le_of_ble_eq_true rfl⟩) dX4_boxAt_9 rfl rfl rfl rfl rfl (Nat.le_of_ble_eq_true rfl) ⟨rfl, rfl⟩ ⟨Nat.le_of_ble_eq_true rfl, Nat.le_of_ble_eq_true rfl⟩ [1, 2, 3, 4, 5] [0, 6, 7, 8, 9] [0, 5, 6, 7, 8, 9, 1, 2, 3, 4] rfl rfl rfl rfl (by decide) rfl rfl rfl ?_
  refine h_icmp_lt (pc := 12) (tgt := 25) C dX4_boxAt_12 (by decide) (fun q => absurd q (by decide)) (fun _ => ?_)
  exact h_throw (pc := 15) C X xin_IOE xft_IOE xft_up (List.mem_of_getElem? (i := 1) rfl) (List.mem_of_getElem? (i := 2) rfl) (List.mem_of_getElem? (i := 2) rfl) (fun w h => List.mem_cons_of_mem _ (List.mem_append_right _ h)) xng_IOE xgd_IOE dX4_boxAt_15 dX4_boxAt_18 dX4_boxAt_19 dX4_boxAt_21 dX4_boxAt_24 ⟨Nat.le_of_ble_eq_true rfl, Nat.le_of_ble_eq_true rfl, Nat.le_of_ble_eq_true rfl, Nat.le_of_ble_eq_true rfl⟩ ⟨Nat.le_of_ble_eq_true rfl, Nat.le_of_ble_eq_true rfl⟩
abbrev rmX4_boxAt_m1 : Room := { frames := 6, cells := 1, slots := 6, locals := 90 }
set_option maxRecDepth 100000 in
set_option maxHeartbeats 4000000 in
theorem x_X4_boxAt_m1 {l : Launch} (hX0 : l.stackTraces = false) (D : va_G) (cT : Nat → ClassId) (ad : Nat → Nat) : xM l yX4_boxAt wsX4_boxAt rmX4_boxAt_m1 D (ty2 cT) [.ref (ad 0), .int jm1] (wX cT ad) xIOE := by
  refine xM_of (cc := cX4_boxAt) (maxL := 2) (ret := (some .int)) (own := RX4) (lv := [(0, .ref (ad 0)), (1, .int jm1)]) hX0 (by decide) rfl (Nat.le_of_ble_eq_true rfl) rfl rfl ?_
  intro p e s m args below meth c A C X
  refine h_iload_n (pc := 0) C dX4_boxAt_0 rfl 1 rfl ?_
  refine h_if_lt (pc := 1) (tgt := 15) C dX4_boxAt_1 (by decide) (fun _ => ?_) (fun q => absurd (by decide) q)
  exact h_throw (pc := 15) C X xin_IOE xft_IOE xft_up (List.mem_of_getElem? (i := 1) rfl) (List.mem_of_getElem? (i := 2) rfl) (List.mem_of_getElem? (i := 2) rfl) (fun w h => List.mem_cons_of_mem _ (List.mem_append_right _ h)) xng_IOE xgd_IOE dX4_boxAt_15 dX4_boxAt_18 dX4_boxAt_19 dX4_boxAt_21 dX4_boxAt_24 ⟨Nat.le_of_ble_eq_true rfl, Nat.le_of_ble_eq_true rfl, Nat.le_of_ble_eq_true rfl, Nat.le_of_ble_eq_true rfl⟩ ⟨Nat.le_of_ble_eq_true rfl, Nat.le_of_ble_eq_true rfl⟩
abbrev rmX3_height : Room := { frames := 0, cells := 0, slots := 0, locals := 0 }
theorem uuX3_height_X3 : ∀ w ∈ u_ws RX3 TX3 3, w ∈ wsX3_height := fun w h => List.mem_cons_of_mem _ (List.mem_append_right _ h)
set_option maxRecDepth 100000 in
set_option maxHeartbeats 4000000 in
theorem c_X3_height (l : Launch) (D : va_G) (cT : Nat → ClassId) (ad : Nat → Nat) : cM l yX3_height wsX3_height rmX3_height D (ty2 cT) [.ref (ad 6)] (wT cT ad) (some (.int 0)) := by
  refine cM_of (cc := cX3_height) (maxL := 1) (ret := (some .int)) (own := RX3) (lv := [(0, .ref (ad 6))]) (by decide) rfl (Nat.le_of_ble_eq_true rfl) rfl rfl ?_
  intro p e s m args below meth c A C hr
  refine h_aload_n (pc := 0) C dX3_height_0 rfl 0 rfl ?_
  refine h_get (pc := 1) (ci := 1) (C0 := RX3) (T := TX3) (N := 3) C uuX3_height_X3 rfl 0 rfl 2 (by decide) (List.mem_of_getElem? (i := 1) rfl) rfl rfl dX3_height_1 ?_
  exact h_iret C hr dX3_height_4
abbrev rmX4_levels : Room := { frames := 1, cells := 0, slots := 0, locals := 20 }
theorem uuX4_levels_X4 : ∀ w ∈ u_ws RX4 TX4 3, w ∈ wsX4_levels := fun w h => List.mem_cons_of_mem _ (List.mem_append_left _ (List.mem_append_right _ h))
set_option maxRecDepth 100000 in
set_option maxHeartbeats 4000000 in
theorem c_X4_levels (l : Launch) (D : va_G) (cT : Nat → ClassId) (ad : Nat → Nat) : cM l yX4_levels wsX4_levels rmX4_levels D (ty2 cT) [.ref (ad 0)] (wX cT ad) (some (.int 0)) := by
  refine cM_of (cc := cX4_levels) (maxL := 1) (ret := (some .int)) (own := RX4) (lv := [(0, .ref (ad 0))]) (by decide) rfl (Nat.le_of_ble_eq_true rfl) rfl rfl ?_
  intro p e s m args below meth c A C hr
  refine h_aload_n (pc := 0) C dX4_levels_0 rfl 0 rfl ?_
  refine h_get (pc := 1) (ci := 2) (C0 := RX4) (T := TX4) (N := 3) C uuX4_levels_X4 rfl 0 rfl 1 (by decide) (List.mem_of_getElem? (i := 1) rfl) rfl rfl dX4_levels_1 ?_
  refine h_callV (pc := 4) (q0 := 6) (As := []) (rest := []) (st2 := .int 0 :: []) C (c_X3_height l D cT ad) (cwV 0 C.1.2.2.2.2 gX4_levels_X3_height rfl rfl rfl pv_X3_height ⟨Nat.le_of_ble_eq_true rfl, Nat.le_of_ble_eq_true rfl⟩) dX4_levels_4 rfl rfl rfl rfl rfl (Nat.le_of_ble_eq_true rfl) ⟨rfl, rfl⟩ ⟨Nat.le_of_ble_eq_true rfl, Nat.le_of_ble_eq_true rfl⟩ [6, 7, 8] [0, 1, 2, 3, 4, 5, 9] [0, 1, 2, 3, 4, 5, 7, 8, 9, 6] rfl rfl rfl rfl (by decide) rfl rfl rfl ?_
  exact h_iret C hr dX4_levels_7
abbrev rmX3_hasLevel_0 : Room := { frames := 0, cells := 0, slots := 0, locals := 0 }
theorem uuX3_hasLevel_X3 : ∀ w ∈ u_ws RX3 TX3 3, w ∈ wsX3_hasLevel := fun w h => List.mem_cons_of_mem _ (List.mem_append_right _ h)
set_option maxRecDepth 100000 in
set_option maxHeartbeats 4000000 in
theorem c_X3_hasLevel_0 (l : Launch) (D : va_G) (cT : Nat → ClassId) (ad : Nat → Nat) : cM l yX3_hasLevel wsX3_hasLevel rmX3_hasLevel_0 D (ty2 cT) [.ref (ad 6), .int 0] (wT cT ad) (some (.int 0)) := by
  refine cM_of (cc := cX3_hasLevel) (maxL := 2) (ret := (some .boolean)) (own := RX3) (lv := [(0, .ref (ad 6)), (1, .int 0)]) (by decide) rfl (Nat.le_of_ble_eq_true rfl) rfl rfl ?_
  intro p e s m args below meth c A C hr
  refine h_iload_n (pc := 0) C dX3_hasLevel_0 rfl 1 rfl ?_
  refine h_if_lt (pc := 1) (tgt := 16) C dX3_hasLevel_1 (by decide) (fun q => absurd q (by decide)) (fun _ => ?_)
  refine h_iload_n (pc := 4) C dX3_hasLevel_4 rfl 1 rfl ?_
  refine h_aload_n (pc := 5) C dX3_hasLevel_5 rfl 0 rfl ?_
  refine h_get (pc := 6) (ci := 1) (C0 := RX3) (T := TX3) (N := 3) C uuX3_hasLevel_X3 rfl 0 rfl 2 (by decide) (List.mem_of_getElem? (i := 1) rfl) rfl rfl dX3_hasLevel_6 ?_
  refine h_icmp_ge (pc := 9) (tgt := 16) C dX3_hasLevel_9 (by decide) (fun _ => ?_) (fun q => absurd (by decide) q)
  refine h_iconst (pc := 16) (v := 0) C dX3_hasLevel_16 (by decide) ?_
  exact h_zret C hr rfl dX3_hasLevel_17
abbrev rmX4_nodes_0 : Room := { frames := 6, cells := 1, slots := 6, locals := 90 }
theorem uuX4_nodes_X4 : ∀ w ∈ u_ws RX4 TX4 3, w ∈ wsX4_nodes := fun w h => List.mem_cons_of_mem _ (List.mem_append_left _ (List.mem_append_left _ (List.mem_append_right _ h)))
set_option maxRecDepth 100000 in
set_option maxHeartbeats 4000000 in
theorem x_X4_nodes_0 {l : Launch} (hX0 : l.stackTraces = false) (D : va_G) (cT : Nat → ClassId) (ad : Nat → Nat) : xM l yX4_nodes wsX4_nodes rmX4_nodes_0 D (ty2 cT) [.ref (ad 0), .int 0] (wX cT ad) xIOE := by
  refine xM_of (cc := cX4_nodes) (maxL := 2) (ret := (some .int)) (own := RX4) (lv := [(0, .ref (ad 0)), (1, .int 0)]) hX0 (by decide) rfl (Nat.le_of_ble_eq_true rfl) rfl rfl ?_
  intro p e s m args below meth c A C X
  refine h_aload_n (pc := 0) C dX4_nodes_0 rfl 0 rfl ?_
  refine h_get (pc := 1) (ci := 2) (C0 := RX4) (T := TX4) (N := 3) C uuX4_nodes_X4 rfl 0 rfl 1 (by decide) (List.mem_of_getElem? (i := 3) rfl) rfl rfl dX4_nodes_1 ?_
  refine h_iload_n (pc := 4) C dX4_nodes_4 rfl 1 rfl ?_
  refine h_callV (pc := 5) (q0 := 6) (As := [.int 0]) (rest := []) (st2 := .int 0 :: []) C (c_X3_hasLevel_0 l D cT ad) (cwV 1 C.1.2.2.2.2 gX4_nodes_X3_hasLevel rfl rfl rfl pv_X3_hasLevel ⟨Nat.le_of_ble_eq_true rfl, Nat.le_of_ble_eq_true rfl⟩) dX4_nodes_5 rfl rfl rfl rfl rfl (Nat.le_of_ble_eq_true rfl) ⟨rfl, rfl⟩ ⟨Nat.le_of_ble_eq_true rfl, Nat.le_of_ble_eq_true rfl⟩ [6, 7, 8] [0, 1, 2, 3, 4, 5, 9] [0, 1, 2, 3, 4, 5, 7, 8, 9, 6] rfl rfl rfl rfl (by decide) rfl rfl rfl ?_
  refine h_if_ne (pc := 8) (tgt := 21) C dX4_nodes_8 (by decide) (fun q => absurd (by decide) q) (fun _ => ?_)
  exact h_throw (pc := 11) C X xin_IOE xft_IOE xft_up (List.mem_of_getElem? (i := 1) rfl) (List.mem_of_getElem? (i := 2) rfl) (List.mem_of_getElem? (i := 1) rfl) (fun w h => List.mem_cons_of_mem _ (List.mem_append_right _ h)) xng_IOE xgd_IOE dX4_nodes_11 dX4_nodes_14 dX4_nodes_15 dX4_nodes_17 dX4_nodes_20 ⟨Nat.le_of_ble_eq_true rfl, Nat.le_of_ble_eq_true rfl, Nat.le_of_ble_eq_true rfl, Nat.le_of_ble_eq_true rfl⟩ ⟨Nat.le_of_ble_eq_true rfl, Nat.le_of_ble_eq_true rfl⟩
abbrev rmX3_hasLevel_m1 : Room := { frames := 0, cells := 0, slots := 0, locals := 0 }
set_option maxRecDepth 100000 in
set_option maxHeartbeats 4000000 in
theorem c_X3_hasLevel_m1 (l : Launch) (D : va_G) (cT : Nat → ClassId) (ad : Nat → Nat) : cM l yX3_hasLevel wsX3_hasLevel rmX3_hasLevel_m1 D (ty2 cT) [.ref (ad 6), .int jm1] (wT cT ad) (some (.int 0)) := by
  refine cM_of (cc := cX3_hasLevel) (maxL := 2) (ret := (some .boolean)) (own := RX3) (lv := [(0, .ref (ad 6)), (1, .int jm1)]) (by decide) rfl (Nat.le_of_ble_eq_true rfl) rfl rfl ?_
  intro p e s m args below meth c A C hr
  refine h_iload_n (pc := 0) C dX3_hasLevel_0 rfl 1 rfl ?_
  refine h_if_lt (pc := 1) (tgt := 16) C dX3_hasLevel_1 (by decide) (fun _ => ?_) (fun q => absurd (by decide) q)
  refine h_iconst (pc := 16) (v := 0) C dX3_hasLevel_16 (by decide) ?_
  exact h_zret C hr rfl dX3_hasLevel_17
abbrev rmX4_nodes_m1 : Room := { frames := 6, cells := 1, slots := 6, locals := 90 }
set_option maxRecDepth 100000 in
set_option maxHeartbeats 4000000 in
theorem x_X4_nodes_m1 {l : Launch} (hX0 : l.stackTraces = false) (D : va_G) (cT : Nat → ClassId) (ad : Nat → Nat) : xM l yX4_nodes wsX4_nodes rmX4_nodes_m1 D (ty2 cT) [.ref (ad 0), .int jm1] (wX cT ad) xIOE := by
  refine xM_of (cc := cX4_nodes) (maxL := 2) (ret := (some .int)) (own := RX4) (lv := [(0, .ref (ad 0)), (1, .int jm1)]) hX0 (by decide) rfl (Nat.le_of_ble_eq_true rfl) rfl rfl ?_
  intro p e s m args below meth c A C X
  refine h_aload_n (pc := 0) C dX4_nodes_0 rfl 0 rfl ?_
  refine h_get (pc := 1) (ci := 2) (C0 := RX4) (T := TX4) (N := 3) C uuX4_nodes_X4 rfl 0 rfl 1 (by decide) (List.mem_of_getElem? (i := 3) rfl) rfl rfl dX4_nodes_1 ?_
  refine h_iload_n (pc := 4) C dX4_nodes_4 rfl 1 rfl ?_
  refine h_callV (pc := 5) (q0 := 6) (As := [.int jm1]) (rest := []) (st2 := .int 0 :: []) C (c_X3_hasLevel_m1 l D cT ad) (cwV 1 C.1.2.2.2.2 gX4_nodes_X3_hasLevel rfl rfl rfl pv_X3_hasLevel ⟨Nat.le_of_ble_eq_true rfl, Nat.le_of_ble_eq_true rfl⟩) dX4_nodes_5 rfl rfl rfl rfl rfl (Nat.le_of_ble_eq_true rfl) ⟨rfl, rfl⟩ ⟨Nat.le_of_ble_eq_true rfl, Nat.le_of_ble_eq_true rfl⟩ [6, 7, 8] [0, 1, 2, 3, 4, 5, 9] [0, 1, 2, 3, 4, 5, 7, 8, 9, 6] rfl rfl rfl rfl (by decide) rfl rfl rfl ?_
  refine h_if_ne (pc := 8) (tgt := 21) C dX4_nodes_8 (by decide) (fun q => absurd (by decide) q) (fun _ => ?_)
  exact h_throw (pc := 11) C X xin_IOE xft_IOE xft_up (List.mem_of_getElem? (i := 1) rfl) (List.mem_of_getElem? (i := 2) rfl) (List.mem_of_getElem? (i := 1) rfl) (fun w h => List.mem_cons_of_mem _ (List.mem_append_right _ h)) xng_IOE xgd_IOE dX4_nodes_11 dX4_nodes_14 dX4_nodes_15 dX4_nodes_17 dX4_nodes_20 ⟨Nat.le_of_ble_eq_true rfl, Nat.le_of_ble_eq_true rfl, Nat.le_of_ble_eq_true rfl, Nat.le_of_ble_eq_true rfl⟩ ⟨Nat.le_of_ble_eq_true rfl, Nat.le_of_ble_eq_true rfl⟩
abbrev rmX3_width_0 : Room := { frames := 0, cells := 0, slots := 0, locals := 0 }
theorem uuX3_width_X3 : ∀ w ∈ u_ws RX3 TX3 3, w ∈ wsX3_width := fun w h => List.mem_cons_of_mem _ (List.mem_append_right _ h)
set_option maxRecDepth 100000 in
set_option maxHeartbeats 4000000 in
theorem c_X3_width_0 (l : Launch) (D : va_G) (cT : Nat → ClassId) (ad : Nat → Nat) : cM l yX3_width wsX3_width rmX3_width_0 D (ty2 cT) [.ref (ad 6), .int 0] (wT cT ad) (some (.int 0)) := by
  refine cM_of (cc := cX3_width) (maxL := 2) (ret := (some .int)) (own := RX3) (lv := [(0, .ref (ad 6)), (1, .int 0)]) (by decide) rfl (Nat.le_of_ble_eq_true rfl) rfl rfl ?_
  intro p e s m args below meth c A C hr
  refine h_iload_n (pc := 0) C dX3_width_0 rfl 1 rfl ?_
  refine h_if_lt (pc := 1) (tgt := 30) C dX3_width_1 (by decide) (fun q => absurd q (by decide)) (fun _ => ?_)
  refine h_iload_n (pc := 4) C dX3_width_4 rfl 1 rfl ?_
  refine h_aload_n (pc := 5) C dX3_width_5 rfl 0 rfl ?_
  refine h_get (pc := 6) (ci := 1) (C0 := RX3) (T := TX3) (N := 3) C uuX3_width_X3 rfl 0 rfl 2 (by decide) (List.mem_of_getElem? (i := 1) rfl) rfl rfl dX3_width_6 ?_
  refine h_icmp_ge (pc := 9) (tgt := 30) C dX3_width_9 (by decide) (fun _ => ?_) (fun q => absurd (by decide) q)
  refine h_iconst (pc := 30) (v := 0) C dX3_width_30 (by decide) ?_
  exact h_iret C hr dX3_width_31
abbrev rmX4_tightness : Room := { frames := 6, cells := 1, slots := 6, locals := 90 }
theorem uuX4_tightness_X4 : ∀ w ∈ u_ws RX4 TX4 3, w ∈ wsX4_tightness := fun w h => List.mem_cons_of_mem _ (List.mem_append_left _ (List.mem_append_left _ (List.mem_append_left _ (List.mem_append_right _ h))))
set_option maxRecDepth 100000 in
set_option maxHeartbeats 4000000 in
theorem x_X4_tightness {l : Launch} (hX0 : l.stackTraces = false) (D : va_G) (cT : Nat → ClassId) (ad : Nat → Nat) : xM l yX4_tightness wsX4_tightness rmX4_tightness D (ty2 cT) [.ref (ad 0)] (wX cT ad) xISE := by
  refine xM_of (cc := cX4_tightness) (maxL := 4) (ret := (some .float)) (own := RX4) (lv := [(0, .ref (ad 0))]) hX0 (by decide) rfl (Nat.le_of_ble_eq_true rfl) rfl rfl ?_
  intro p e s m args below meth c A C X
  refine h_iconst (pc := 0) (v := 0) C dX4_tightness_0 (by decide) ?_
  refine h_istore_n (pc := 1) (lv' := [(1, .int 0), (0, .ref (ad 0))]) C dX4_tightness_1 rfl (by decide) rfl ?_
  refine h_iconst (pc := 2) (v := 0) C dX4_tightness_2 (by decide) ?_
  refine h_istore_n (pc := 3) (lv' := [(2, .int 0), (1, .int 0), (0, .ref (ad 0))]) C dX4_tightness_3 rfl (by decide) rfl ?_
  refine h_iload_n (pc := 4) C dX4_tightness_4 rfl 0 rfl ?_
  refine h_aload_n (pc := 5) C dX4_tightness_5 rfl 2 rfl ?_
  refine h_get (pc := 6) (ci := 2) (C0 := RX4) (T := TX4) (N := 3) C uuX4_tightness_X4 rfl 0 rfl 1 (by decide) (List.mem_of_getElem? (i := 3) rfl) rfl rfl dX4_tightness_6 ?_
  refine h_iconst (pc := 9) (v := 0) C dX4_tightness_9 (by decide) ?_
  refine h_callV (pc := 10) (q0 := 6) (As := [.int 0]) (rest := .int 0 :: []) (st2 := .int 0 :: .int 0 :: []) C (c_X3_width_0 l D cT ad) (cwV 1 C.1.2.2.2.2 gX4_tightness_X3_width rfl rfl rfl pv_X3_width ⟨Nat.le_of_ble_eq_true rfl, Nat.le_of_ble_eq_true rfl⟩) dX4_tightness_10 rfl rfl rfl rfl rfl (Nat.le_of_ble_eq_true rfl) ⟨rfl, rfl⟩ ⟨Nat.le_of_ble_eq_true rfl, Nat.le_of_ble_eq_true rfl⟩ [6, 7, 8] [0, 1, 2, 3, 4, 5, 9] [0, 1, 2, 3, 4, 5, 7, 8, 9, 6] rfl rfl rfl rfl (by decide) rfl rfl rfl ?_
  refine h_icmp_ge (pc := 13) (tgt := 34) C dX4_tightness_13 (by decide) (fun _ => ?_) (fun q => absurd (by decide) q)
  refine h_iload_n (pc := 34) C dX4_tightness_34 rfl 1 rfl ?_
  refine h_if_gt (pc := 35) (tgt := 48) C dX4_tightness_35 (by decide) (fun q => absurd q (by decide)) (fun _ => ?_)
  exact h_throw (pc := 38) C X xin_ISE xft_ISE xft_up (List.mem_of_getElem? (i := 1) rfl) (List.mem_of_getElem? (i := 2) rfl) (List.mem_of_getElem? (i := 3) rfl) (fun w h => List.mem_cons_of_mem _ (List.mem_append_right _ h)) xng_ISE xgd_ISE dX4_tightness_38 dX4_tightness_41 dX4_tightness_42 dX4_tightness_44 dX4_tightness_47 ⟨Nat.le_of_ble_eq_true rfl, Nat.le_of_ble_eq_true rfl, Nat.le_of_ble_eq_true rfl, Nat.le_of_ble_eq_true rfl⟩ ⟨Nat.le_of_ble_eq_true rfl, Nat.le_of_ble_eq_true rfl⟩
abbrev rmX2_added : Room := { frames := 0, cells := 0, slots := 0, locals := 0 }
theorem uuX2_added_X2 : ∀ w ∈ u_ws RX2 TX2 6, w ∈ wsX2_added := fun w h => List.mem_cons_of_mem _ (List.mem_append_right _ h)
set_option maxRecDepth 100000 in
set_option maxHeartbeats 4000000 in
theorem c_X2_added (l : Launch) (D : va_G) (cT : Nat → ClassId) (ad : Nat → Nat) : cM l yX2_added wsX2_added rmX2_added D (ty2 cT) [.ref (ad 1)] (wS cT ad) (some (.int 0)) := by
  refine cM_of (cc := cX2_added) (maxL := 1) (ret := (some .int)) (own := RX2) (lv := [(0, .ref (ad 1))]) (by decide) rfl (Nat.le_of_ble_eq_true rfl) rfl rfl ?_
  intro p e s m args below meth c A C hr
  refine h_aload_n (pc := 0) C dX2_added_0 rfl 0 rfl ?_
  refine h_get (pc := 1) (ci := 0) (C0 := RX2) (T := TX2) (N := 6) C uuX2_added_X2 rfl 0 rfl 4 (by decide) (List.mem_of_getElem? (i := 1) rfl) rfl rfl dX2_added_1 ?_
  exact h_iret C hr dX2_added_4
abbrev rmX4_pairs : Room := { frames := 1, cells := 0, slots := 0, locals := 20 }
theorem uuX4_pairs_X4 : ∀ w ∈ u_ws RX4 TX4 3, w ∈ wsX4_pairs := fun w h => List.mem_cons_of_mem _ (List.mem_append_left _ (List.mem_append_right _ h))
set_option maxRecDepth 100000 in
set_option maxHeartbeats 4000000 in
theorem c_X4_pairs (l : Launch) (D : va_G) (cT : Nat → ClassId) (ad : Nat → Nat) : cM l yX4_pairs wsX4_pairs rmX4_pairs D (ty2 cT) [.ref (ad 0)] (wX cT ad) (some (.int 0)) := by
  refine cM_of (cc := cX4_pairs) (maxL := 4) (ret := (some .int)) (own := RX4) (lv := [(0, .ref (ad 0))]) (by decide) rfl (Nat.le_of_ble_eq_true rfl) rfl rfl ?_
  intro p e s m args below meth c A C hr
  refine h_iconst (pc := 0) (v := 0) C dX4_pairs_0 (by decide) ?_
  refine h_istore_n (pc := 1) (lv' := [(1, .int 0), (0, .ref (ad 0))]) C dX4_pairs_1 rfl (by decide) rfl ?_
  refine h_iconst (pc := 2) (v := 0) C dX4_pairs_2 (by decide) ?_
  refine h_istore_n (pc := 3) (lv' := [(2, .int 0), (1, .int 0), (0, .ref (ad 0))]) C dX4_pairs_3 rfl (by decide) rfl ?_
  refine h_iload_n (pc := 4) C dX4_pairs_4 rfl 0 rfl ?_
  refine h_aload_n (pc := 5) C dX4_pairs_5 rfl 2 rfl ?_
  refine h_get (pc := 6) (ci := 2) (C0 := RX4) (T := TX4) (N := 3) C uuX4_pairs_X4 rfl 0 rfl 0 (by decide) (List.mem_of_getElem? (i := 1) rfl) rfl rfl dX4_pairs_6 ?_
  refine h_callV (pc := 9) (q0 := 1) (As := []) (rest := .int 0 :: []) (st2 := .int 0 :: .int 0 :: []) C (c_X2_added l D cT ad) (cwV 0 C.1.2.2.2.2 gX4_pairs_X2_added rfl rfl rfl pv_X2_added ⟨Nat.le_of_ble_eq_true rfl, Nat.le_of_ble_eq_true rfl⟩) dX4_pairs_9 rfl rfl rfl rfl rfl (Nat.le_of_ble_eq_true rfl) ⟨rfl, rfl⟩ ⟨Nat.le_of_ble_eq_true rfl, Nat.le_of_ble_eq_true rfl⟩ [1, 2, 3, 4, 5] [0, 6, 7, 8, 9] [0, 5, 6, 7, 8, 9, 1, 2, 3, 4] rfl rfl rfl rfl (by decide) rfl rfl rfl ?_
  refine h_icmp_ge (pc := 12) (tgt := 57) C dX4_pairs_12 (by decide) (fun _ => ?_) (fun q => absurd (by decide) q)
  refine h_iload_n (pc := 57) C dX4_pairs_57 rfl 1 rfl ?_
  exact h_iret C hr dX4_pairs_58
abbrev rmX4_pair_0 : Room := { frames := 6, cells := 1, slots := 6, locals := 90 }
theorem uuX4_pair_X4 : ∀ w ∈ u_ws RX4 TX4 3, w ∈ wsX4_pair := fun w h => List.mem_cons_of_mem _ (List.mem_append_left _ (List.mem_append_left _ (List.mem_append_right _ h)))
set_option maxRecDepth 100000 in
set_option maxHeartbeats 4000000 in
theorem x_X4_pair_0 {l : Launch} (hX0 : l.stackTraces = false) (D : va_G) (cT : Nat → ClassId) (ad : Nat → Nat) : xM l yX4_pair wsX4_pair rmX4_pair_0 D (ty2 cT) [.ref (ad 0), .int 0] (wX cT ad) xIOE := by
  refine xM_of (cc := cX4_pair) (maxL := 5) (ret := (some .int)) (own := RX4) (lv := [(0, .ref (ad 0)), (1, .int 0)]) hX0 (by decide) rfl (Nat.le_of_ble_eq_true rfl) rfl rfl ?_
  intro p e s m args below meth c A C X
  refine h_iconst (pc := 0) (v := 0) C dX4_pair_0 (by decide) ?_
  refine h_istore_n (pc := 1) (lv' := [(2, .int 0), (0, .ref (ad 0)), (1, .int 0)]) C dX4_pair_1 rfl (by decide) rfl ?_
  refine h_iconst (pc := 2) (v := 0) C dX4_pair_2 (by decide) ?_
  refine h_istore_n (pc := 3) (lv' := [(3, .int 0), (2, .int 0), (0, .ref (ad 0)), (1, .int 0)]) C dX4_pair_3 rfl (by decide) rfl ?_
  refine h_iload_n (pc := 4) C dX4_pair_4 rfl 0 rfl ?_
  refine h_aload_n (pc := 5) C dX4_pair_5 rfl 2 rfl ?_
  refine h_get (pc := 6) (ci := 2) (C0 := RX4) (T := TX4) (N := 3) C uuX4_pair_X4 rfl 0 rfl 0 (by decide) (List.mem_of_getElem? (i := 3) rfl) rfl rfl dX4_pair_6 ?_
  refine h_callV (pc := 9) (q0 := 1) (As := []) (rest := .int 0 :: []) (st2 := .int 0 :: .int 0 :: []) C (c_X2_added l D cT ad) (cwV 0 C.1.2.2.2.2 gX4_pair_X2_added rfl rfl rfl pv_X2_added ⟨Nat.le_of_ble_eq_true rfl, Nat.le_of_ble_eq_true rfl⟩) dX4_pair_9 rfl rfl rfl rfl rfl (Nat.le_of_ble_eq_true rfl) ⟨rfl, rfl⟩ ⟨Nat.le_of_ble_eq_true rfl, Nat.le_of_ble_eq_true rfl⟩ [1, 2, 3, 4, 5] [0, 6, 7, 8, 9] [0, 5, 6, 7, 8, 9, 1, 2, 3, 4] rfl rfl rfl rfl (by decide) rfl rfl rfl ?_
  refine h_icmp_ge (pc := 12) (tgt := 73) C dX4_pair_12 (by decide) (fun _ => ?_) (fun q => absurd (by decide) q)
  exact h_throw (pc := 73) C X xin_IOE xft_IOE xft_up (List.mem_of_getElem? (i := 1) rfl) (List.mem_of_getElem? (i := 2) rfl) (List.mem_of_getElem? (i := 2) rfl) (fun w h => List.mem_cons_of_mem _ (List.mem_append_right _ h)) xng_IOE xgd_IOE dX4_pair_73 dX4_pair_76 dX4_pair_77 dX4_pair_79 dX4_pair_82 ⟨Nat.le_of_ble_eq_true rfl, Nat.le_of_ble_eq_true rfl, Nat.le_of_ble_eq_true rfl, Nat.le_of_ble_eq_true rfl⟩ ⟨Nat.le_of_ble_eq_true rfl, Nat.le_of_ble_eq_true rfl⟩
abbrev rmX4_pair_m1 : Room := { frames := 6, cells := 1, slots := 6, locals := 90 }
set_option maxRecDepth 100000 in
set_option maxHeartbeats 4000000 in
theorem x_X4_pair_m1 {l : Launch} (hX0 : l.stackTraces = false) (D : va_G) (cT : Nat → ClassId) (ad : Nat → Nat) : xM l yX4_pair wsX4_pair rmX4_pair_m1 D (ty2 cT) [.ref (ad 0), .int jm1] (wX cT ad) xIOE := by
  refine xM_of (cc := cX4_pair) (maxL := 5) (ret := (some .int)) (own := RX4) (lv := [(0, .ref (ad 0)), (1, .int jm1)]) hX0 (by decide) rfl (Nat.le_of_ble_eq_true rfl) rfl rfl ?_
  intro p e s m args below meth c A C X
  refine h_iconst (pc := 0) (v := 0) C dX4_pair_0 (by decide) ?_
  refine h_istore_n (pc := 1) (lv' := [(2, .int 0), (0, .ref (ad 0)), (1, .int jm1)]) C dX4_pair_1 rfl (by decide) rfl ?_
  refine h_iconst (pc := 2) (v := 0) C dX4_pair_2 (by decide) ?_
  refine h_istore_n (pc := 3) (lv' := [(3, .int 0), (2, .int 0), (0, .ref (ad 0)), (1, .int jm1)]) C dX4_pair_3 rfl (by decide) rfl ?_
  refine h_iload_n (pc := 4) C dX4_pair_4 rfl 0 rfl ?_
  refine h_aload_n (pc := 5) C dX4_pair_5 rfl 2 rfl ?_
  refine h_get (pc := 6) (ci := 2) (C0 := RX4) (T := TX4) (N := 3) C uuX4_pair_X4 rfl 0 rfl 0 (by decide) (List.mem_of_getElem? (i := 3) rfl) rfl rfl dX4_pair_6 ?_
  refine h_callV (pc := 9) (q0 := 1) (As := []) (rest := .int 0 :: []) (st2 := .int 0 :: .int 0 :: []) C (c_X2_added l D cT ad) (cwV 0 C.1.2.2.2.2 gX4_pair_X2_added rfl rfl rfl pv_X2_added ⟨Nat.le_of_ble_eq_true rfl, Nat.le_of_ble_eq_true rfl⟩) dX4_pair_9 rfl rfl rfl rfl rfl (Nat.le_of_ble_eq_true rfl) ⟨rfl, rfl⟩ ⟨Nat.le_of_ble_eq_true rfl, Nat.le_of_ble_eq_true rfl⟩ [1, 2, 3, 4, 5] [0, 6, 7, 8, 9] [0, 5, 6, 7, 8, 9, 1, 2, 3, 4] rfl rfl rfl rfl (by decide) rfl rfl rfl ?_
  refine h_icmp_ge (pc := 12) (tgt := 73) C dX4_pair_12 (by decide) (fun _ => ?_) (fun q => absurd (by decide) q)
  exact h_throw (pc := 73) C X xin_IOE xft_IOE xft_up (List.mem_of_getElem? (i := 1) rfl) (List.mem_of_getElem? (i := 2) rfl) (List.mem_of_getElem? (i := 2) rfl) (fun w h => List.mem_cons_of_mem _ (List.mem_append_right _ h)) xng_IOE xgd_IOE dX4_pair_73 dX4_pair_76 dX4_pair_77 dX4_pair_79 dX4_pair_82 ⟨Nat.le_of_ble_eq_true rfl, Nat.le_of_ble_eq_true rfl, Nat.le_of_ble_eq_true rfl, Nat.le_of_ble_eq_true rfl⟩ ⟨Nat.le_of_ble_eq_true rfl, Nat.le_of_ble_eq_true rfl⟩
