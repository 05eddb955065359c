/-! laid by wip/whole/lay.py: contracts -/
abbrev rmX3_height : Room := { frames := 0, cells := 0, slots := 0, locals := 0 }
theorem uX3_height_X3 : ∀ w ∈ u_ws RX3 TX3 3, w ∈ wsX3_height := fun w h => List.mem_cons_of_mem _ (List.mem_append_right _ h)
set_option maxRecDepth 100000 in
set_option maxHeartbeats 4000000 in
theorem c_X3_height (l : Launch) (D : va_G) (cT : Nat → ClassId) (ad : Nat → Nat) (n : Nat) (loads : Nat → Int32) (widths : Nat → Int32) (height : Int32)  (r : Int32) (hf : f_X3_height n height = some r) : cM l yX3_height wsX3_height rmX3_height D (ty4 cT) [.ref (ad 6)] (wT cT ad loads widths height) (some (.int r)) (wT cT ad loads widths height) := by
  refine cM_of (cc := cX3_height) (maxL := 1) (ret := (some .int)) (own := RX3) (lv := [(0, .ref (ad 6))]) (by decide) rfl (Nat.le_of_ble_eq_true rfl) rfl rfl ?_
  intro p e s m args below meth c A C hr
  unfold f_X3_height at hf
  refine h_aload_n (pc := 0) C dX3_height_0 rfl 0 rfl ?_
  refine h_get (pc := 1) (ci := 1) (C0 := RX3) (T := TX3) (N := 3) C uX3_height_X3 rfl 0 rfl 2 (by decide) (List.mem_of_getElem? (i := 1) rfl) rfl rfl dX3_height_1 ?_
  have g0 := (Option.some.inj hf)
  clear hf
  subst g0
  exact h_iret C hr dX3_height_4
theorem pv_X3_height : yX3_height.cls = RX3 ∧ yX3_height.cls ≠ "java/lang/invoke/MethodHandle" ∧ yX3_height.cls ≠ "java/lang/invoke/VarHandle" ∧ (parseMethodDescriptor yX3_height.desc).map (fun d => d.parameters.length) = some 0 := by decide +kernel
abbrev rmX3_hasLevel : Room := { frames := 0, cells := 0, slots := 0, locals := 0 }
theorem uX3_hasLevel_X3 : ∀ w ∈ u_ws RX3 TX3 3, w ∈ wsX3_hasLevel := fun w h => List.mem_cons_of_mem _ (List.mem_append_right _ h)
set_option maxRecDepth 100000 in
set_option maxHeartbeats 4000000 in
theorem c_X3_hasLevel (l : Launch) (D : va_G) (cT : Nat → ClassId) (ad : Nat → Nat) (n : Nat) (loads : Nat → Int32) (widths : Nat → Int32) (height : Int32) (a1 : Int32) (r : Int32) (hf : f_X3_hasLevel n height a1 = some r) : cM l yX3_hasLevel wsX3_hasLevel rmX3_hasLevel D (ty4 cT) [.ref (ad 6), .int a1] (wT cT ad loads widths height) (some (.int r)) (wT cT ad loads widths height) := by
  refine cM_of (cc := cX3_hasLevel) (maxL := 2) (ret := (some .boolean)) (own := RX3) (lv := [(0, .ref (ad 6)), (1, .int a1)]) (by decide) rfl (Nat.le_of_ble_eq_true rfl) rfl rfl ?_
  intro p e s m args below meth c A C hr
  unfold f_X3_hasLevel at hf
  refine h_iload_n (pc := 0) C dX3_hasLevel_0 rfl 1 rfl ?_
  refine h_if_lt (pc := 1) (tgt := 16) C dX3_hasLevel_1 (by decide) (fun q => ?_) (fun q => ?_)
  · replace hf := jif_t q hf
    clear q
    refine h_iconst (pc := 16) C dX3_hasLevel_16 jc_0 ?_
    have g0 := (Option.some.inj hf)
    clear hf
    subst g0
    exact h_zret C hr rfl dX3_hasLevel_17
  · replace hf := jif_f q hf
    clear q
    refine h_iload_n (pc := 4) C dX3_hasLevel_4 rfl 1 rfl ?_
    refine h_aload_n (pc := 5) C dX3_hasLevel_5 rfl 0 rfl ?_
    refine h_get (pc := 6) (ci := 1) (C0 := RX3) (T := TX3) (N := 3) C uX3_hasLevel_X3 rfl 0 rfl 2 (by decide) (List.mem_of_getElem? (i := 1) rfl) rfl rfl dX3_hasLevel_6 ?_
    refine h_icmp_ge (pc := 9) (tgt := 16) C dX3_hasLevel_9 (by decide) (fun q => ?_) (fun q => ?_)
    · replace hf := jif_t q hf
      clear q
      refine h_iconst (pc := 16) C dX3_hasLevel_16 jc_0 ?_
      have g0 := (Option.some.inj hf)
      clear hf
      subst g0
      exact h_zret C hr rfl dX3_hasLevel_17
    · replace hf := jif_f q hf
      clear q
      refine h_iconst (pc := 12) C dX3_hasLevel_12 jc_1 ?_
      refine h_goto (pc := 13) (tgt := 17) C dX3_hasLevel_13 (by decide) ?_
      have g0 := (Option.some.inj hf)
      clear hf
      subst g0
      exact h_zret C hr rfl dX3_hasLevel_17
theorem pv_X3_hasLevel : yX3_hasLevel.cls = RX3 ∧ yX3_hasLevel.cls ≠ "java/lang/invoke/MethodHandle" ∧ yX3_hasLevel.cls ≠ "java/lang/invoke/VarHandle" ∧ (parseMethodDescriptor yX3_hasLevel.desc).map (fun d => d.parameters.length) = some 1 := by decide +kernel
abbrev rmX3_width : Room := { frames := 0, cells := 0, slots := 0, locals := 0 }
theorem uX3_width_X3 : ∀ w ∈ u_ws RX3 TX3 3, w ∈ wsX3_width := fun w h => List.mem_cons_of_mem _ (List.mem_append_right _ h)
set_option maxRecDepth 100000 in
set_option maxHeartbeats 4000000 in
theorem c_X3_width (l : Launch) (D : va_G) (cT : Nat → ClassId) (ad : Nat → Nat) (n : Nat) (loads : Nat → Int32) (widths : Nat → Int32) (height : Int32) (a1 : Int32) (r : Int32) (hf : f_X3_width n widths height a1 = some r) : cM l yX3_width wsX3_width rmX3_width D (ty4 cT) [.ref (ad 6), .int a1] (wT cT ad loads widths height) (some (.int r)) (wT cT ad loads widths height) := by
  refine cM_of (cc := cX3_width) (maxL := 2) (ret := (some .int)) (own := RX3) (lv := [(0, .ref (ad 6)), (1, .int a1)]) (by decide) rfl (Nat.le_of_ble_eq_true rfl) rfl rfl ?_
  intro p e s m args below meth c A C hr
  unfold f_X3_width at hf
  refine h_iload_n (pc := 0) C dX3_width_0 rfl 1 rfl ?_
  refine h_if_lt (pc := 1) (tgt := 30) C dX3_width_1 (by decide) (fun q => ?_) (fun q => ?_)
  · replace hf := jif_t q hf
    clear q
    refine h_iconst (pc := 30) C dX3_width_30 jc_0 ?_
    have g0 := (Option.some.inj hf)
    clear hf
    subst g0
    exact h_iret C hr dX3_width_31
  · replace hf := jif_f q hf
    clear q
    refine h_iload_n (pc := 4) C dX3_width_4 rfl 1 rfl ?_
    refine h_aload_n (pc := 5) C dX3_width_5 rfl 0 rfl ?_
    refine h_get (pc := 6) (ci := 1) (C0 := RX3) (T := TX3) (N := 3) C uX3_width_X3 rfl 0 rfl 2 (by decide) (List.mem_of_getElem? (i := 1) rfl) rfl rfl dX3_width_6 ?_
    refine h_icmp_ge (pc := 9) (tgt := 30) C dX3_width_9 (by decide) (fun q => ?_) (fun q => ?_)
    · replace hf := jif_t q hf
      clear q
      refine h_iconst (pc := 30) C dX3_width_30 jc_0 ?_
      have g0 := (Option.some.inj hf)
      clear hf
      subst g0
      exact h_iret C hr dX3_width_31
    · replace hf := jif_f q hf
      clear q
      refine h_iload_n (pc := 12) C dX3_width_12 rfl 1 rfl ?_
      refine h_aload_n (pc := 13) C dX3_width_13 rfl 0 rfl ?_
      refine h_get (pc := 14) (ci := 1) (C0 := RX3) (T := TX3) (N := 3) C uX3_width_X3 rfl 0 rfl 1 (by decide) (List.mem_of_getElem? (i := 2) rfl) rfl rfl dX3_width_14 ?_
      refine h_alen (pc := 17) (v := 8) C 2 0 rfl rfl (by decide) dX3_width_17 ?_
      refine h_icmp_ge (pc := 18) (tgt := 30) C dX3_width_18 (by decide) (fun q => ?_) (fun q => ?_)
      · replace hf := jif_t q hf
        clear q
        refine h_iconst (pc := 30) C dX3_width_30 jc_0 ?_
        have g0 := (Option.some.inj hf)
        clear hf
        subst g0
        exact h_iret C hr dX3_width_31
      · replace hf := jif_f q hf
        clear q
        refine h_aload_n (pc := 21) C dX3_width_21 rfl 0 rfl ?_
        refine h_get (pc := 22) (ci := 1) (C0 := RX3) (T := TX3) (N := 3) C uX3_width_X3 rfl 0 rfl 1 (by decide) (List.mem_of_getElem? (i := 2) rfl) rfl rfl dX3_width_22 ?_
        refine h_iload_n (pc := 25) C dX3_width_25 rfl 1 rfl ?_
        obtain ⟨hi, v1, hv, hf⟩ := jrd_s hf
        refine h_iald (pc := 26) C 2 0 rfl rfl hi hv dX3_width_26 ?_
        clear hi hv
        refine h_goto (pc := 27) (tgt := 31) C dX3_width_27 (by decide) ?_
        have g0 := (Option.some.inj hf)
        clear hf
        subst g0
        exact h_iret C hr dX3_width_31
theorem pv_X3_width : yX3_width.cls = RX3 ∧ yX3_width.cls ≠ "java/lang/invoke/MethodHandle" ∧ yX3_width.cls ≠ "java/lang/invoke/VarHandle" ∧ (parseMethodDescriptor yX3_width.desc).map (fun d => d.parameters.length) = some 1 := by decide +kernel
abbrev rmX3_hasNode : Room := { frames := 0, cells := 0, slots := 0, locals := 0 }
theorem uX3_hasNode_X3 : ∀ w ∈ u_ws RX3 TX3 3, w ∈ wsX3_hasNode := fun w h => List.mem_cons_of_mem _ (List.mem_append_right _ h)
set_option maxRecDepth 100000 in
set_option maxHeartbeats 4000000 in
theorem c_X3_hasNode (l : Launch) (D : va_G) (cT : Nat → ClassId) (ad : Nat → Nat) (n : Nat) (loads : Nat → Int32) (widths : Nat → Int32) (height : Int32) (a1 : Int32) (a2 : Int32) (r : Int32) (hf : f_X3_hasNode n widths height a1 a2 = some r) : cM l yX3_hasNode wsX3_hasNode rmX3_hasNode D (ty4 cT) [.ref (ad 6), .int a1, .int a2] (wT cT ad loads widths height) (some (.int r)) (wT cT ad loads widths height) := by
  refine cM_of (cc := cX3_hasNode) (maxL := 3) (ret := (some .boolean)) (own := RX3) (lv := [(0, .ref (ad 6)), (1, .int a1), (2, .int a2)]) (by decide) rfl (Nat.le_of_ble_eq_true rfl) rfl rfl ?_
  intro p e s m args below meth c A C hr
  unfold f_X3_hasNode at hf
  refine h_iload_n (pc := 0) C dX3_hasNode_0 rfl 1 rfl ?_
  refine h_if_lt (pc := 1) (tgt := 39) C dX3_hasNode_1 (by decide) (fun q => ?_) (fun q => ?_)
  · replace hf := jif_t q hf
    clear q
    refine h_iconst (pc := 39) C dX3_hasNode_39 jc_0 ?_
    have g0 := (Option.some.inj hf)
    clear hf
    subst g0
    exact h_zret C hr rfl dX3_hasNode_40
  · replace hf := jif_f q hf
    clear q
    refine h_iload_n (pc := 4) C dX3_hasNode_4 rfl 1 rfl ?_
    refine h_aload_n (pc := 5) C dX3_hasNode_5 rfl 0 rfl ?_
    refine h_get (pc := 6) (ci := 1) (C0 := RX3) (T := TX3) (N := 3) C uX3_hasNode_X3 rfl 0 rfl 2 (by decide) (List.mem_of_getElem? (i := 1) rfl) rfl rfl dX3_hasNode_6 ?_
    refine h_icmp_ge (pc := 9) (tgt := 39) C dX3_hasNode_9 (by decide) (fun q => ?_) (fun q => ?_)
    · replace hf := jif_t q hf
      clear q
      refine h_iconst (pc := 39) C dX3_hasNode_39 jc_0 ?_
      have g0 := (Option.some.inj hf)
      clear hf
      subst g0
      exact h_zret C hr rfl dX3_hasNode_40
    · replace hf := jif_f q hf
      clear q
      refine h_iload_n (pc := 12) C dX3_hasNode_12 rfl 1 rfl ?_
      refine h_aload_n (pc := 13) C dX3_hasNode_13 rfl 0 rfl ?_
      refine h_get (pc := 14) (ci := 1) (C0 := RX3) (T := TX3) (N := 3) C uX3_hasNode_X3 rfl 0 rfl 1 (by decide) (List.mem_of_getElem? (i := 2) rfl) rfl rfl dX3_hasNode_14 ?_
      refine h_alen (pc := 17) (v := 8) C 2 0 rfl rfl (by decide) dX3_hasNode_17 ?_
      refine h_icmp_ge (pc := 18) (tgt := 39) C dX3_hasNode_18 (by decide) (fun q => ?_) (fun q => ?_)
      · replace hf := jif_t q hf
        clear q
        refine h_iconst (pc := 39) C dX3_hasNode_39 jc_0 ?_
        have g0 := (Option.some.inj hf)
        clear hf
        subst g0
        exact h_zret C hr rfl dX3_hasNode_40
      · replace hf := jif_f q hf
        clear q
        refine h_iload_n (pc := 21) C dX3_hasNode_21 rfl 2 rfl ?_
        refine h_if_lt (pc := 22) (tgt := 39) C dX3_hasNode_22 (by decide) (fun q => ?_) (fun q => ?_)
        · replace hf := jif_t q hf
          clear q
          refine h_iconst (pc := 39) C dX3_hasNode_39 jc_0 ?_
          have g0 := (Option.some.inj hf)
          clear hf
          subst g0
          exact h_zret C hr rfl dX3_hasNode_40
        · replace hf := jif_f q hf
          clear q
          refine h_iload_n (pc := 25) C dX3_hasNode_25 rfl 2 rfl ?_
          refine h_aload_n (pc := 26) C dX3_hasNode_26 rfl 0 rfl ?_
          refine h_get (pc := 27) (ci := 1) (C0 := RX3) (T := TX3) (N := 3) C uX3_hasNode_X3 rfl 0 rfl 1 (by decide) (List.mem_of_getElem? (i := 2) rfl) rfl rfl dX3_hasNode_27 ?_
          refine h_iload_n (pc := 30) C dX3_hasNode_30 rfl 1 rfl ?_
          obtain ⟨hi, v1, hv, hf⟩ := jrd_s hf
          refine h_iald (pc := 31) C 2 0 rfl rfl hi hv dX3_hasNode_31 ?_
          clear hi hv
          refine h_icmp_ge (pc := 32) (tgt := 39) C dX3_hasNode_32 (by decide) (fun q => ?_) (fun q => ?_)
          · replace hf := jif_t q hf
            clear q
            refine h_iconst (pc := 39) C dX3_hasNode_39 jc_0 ?_
            have g0 := (Option.some.inj hf)
            clear hf
            subst g0
            exact h_zret C hr rfl dX3_hasNode_40
          · replace hf := jif_f q hf
            clear q
            refine h_iconst (pc := 35) C dX3_hasNode_35 jc_1 ?_
            refine h_goto (pc := 36) (tgt := 40) C dX3_hasNode_36 (by decide) ?_
            have g0 := (Option.some.inj hf)
            clear hf
            subst g0
            exact h_zret C hr rfl dX3_hasNode_40
theorem pv_X3_hasNode : yX3_hasNode.cls = RX3 ∧ yX3_hasNode.cls ≠ "java/lang/invoke/MethodHandle" ∧ yX3_hasNode.cls ≠ "java/lang/invoke/VarHandle" ∧ (parseMethodDescriptor yX3_hasNode.desc).map (fun d => d.parameters.length) = some 2 := by decide +kernel
abbrev rmX3_load : Room := { frames := 1, cells := 0, slots := 0, locals := 22 }
theorem uX3_load_X3 : ∀ w ∈ u_ws RX3 TX3 3, w ∈ wsX3_load := fun w h => List.mem_cons_of_mem _ (List.mem_append_right _ h)
set_option maxRecDepth 100000 in
set_option maxHeartbeats 4000000 in
theorem c_X3_load (l : Launch) (D : va_G) (cT : Nat → ClassId) (ad : Nat → Nat) (n : Nat) (loads : Nat → Int32) (widths : Nat → Int32) (height : Int32) (a1 : Int32) (a2 : Int32) (r : Int32) (hf : f_X3_load n loads widths height a1 a2 = some r) : cM l yX3_load wsX3_load rmX3_load D (ty4 cT) [.ref (ad 6), .int a1, .int a2] (wT cT ad loads widths height) (some (.int r)) (wT cT ad loads widths height) := by
  refine cM_of (cc := cX3_load) (maxL := 4) (ret := (some .int)) (own := RX3) (lv := [(0, .ref (ad 6)), (1, .int a1), (2, .int a2)]) (by decide) rfl (Nat.le_of_ble_eq_true rfl) rfl rfl ?_
  intro p e s m args below meth c A C hr
  unfold f_X3_load at hf
  refine h_iload_n (pc := 0) C dX3_load_0 rfl 1 rfl ?_
  refine h_bipush (pc := 1) C dX3_load_1 jb_60 ?_
  refine h_imul (pc := 3) C dX3_load_3 ?_
  refine h_iload_n (pc := 4) C dX3_load_4 rfl 2 rfl ?_
  refine h_iadd (pc := 5) C dX3_load_5 ?_
  refine h_istore_n (pc := 6) (lv' := [(3, .int ((a1 * 60) + a2)), (0, .ref (ad 6)), (1, .int a1), (2, .int a2)]) C dX3_load_6 rfl (by decide) rfl ?_
  refine h_aload_n (pc := 7) C dX3_load_7 rfl 1 rfl ?_
  refine h_iload_n (pc := 8) C dX3_load_8 rfl 2 rfl ?_
  refine h_iload_n (pc := 9) C dX3_load_9 rfl 3 rfl ?_
  obtain ⟨v1, hc, hf⟩ := jbd_s hf
  refine h_callV (pc := 10) (q0 := 0) (As := [.int a1, .int a2]) (rest := []) (ws' := (wT cT ad loads widths height)) (st2 := .int v1 :: []) C (c_X3_hasNode l D cT ad n loads widths height a1 a2 v1 hc) (cwV 2 C.1.2.2.2.2 gX3_load_X3_hasNode rfl rfl rfl pv_X3_hasNode ⟨(Nat.le_of_ble_eq_true rfl), (Nat.le_of_ble_eq_true rfl)⟩) dX3_load_10 rfl rfl rfl rfl rfl (Nat.le_of_ble_eq_true rfl) ⟨rfl, rfl⟩ ⟨(Nat.le_of_ble_eq_true rfl), (Nat.le_of_ble_eq_true rfl)⟩ [0, 1, 2] [] [0, 1, 2] rfl rfl rfl rfl (by decide) rfl rfl rfl ?_
  clear hc
  refine h_if_eq (pc := 13) (tgt := 38) C dX3_load_13 (by decide) (fun q => ?_) (fun q => ?_)
  · replace hf := jif_t q hf
    clear q
    refine h_iconst (pc := 38) C dX3_load_38 jc_0 ?_
    have g0 := (Option.some.inj hf)
    clear hf
    subst g0
    exact h_iret C hr dX3_load_39
  · replace hf := jif_f q hf
    clear q
    refine h_iload_n (pc := 16) C dX3_load_16 rfl 0 rfl ?_
    refine h_if_lt (pc := 17) (tgt := 38) C dX3_load_17 (by decide) (fun q => ?_) (fun q => ?_)
    · replace hf := jif_t q hf
      clear q
      refine h_iconst (pc := 38) C dX3_load_38 jc_0 ?_
      have g0 := (Option.some.inj hf)
      clear hf
      subst g0
      exact h_iret C hr dX3_load_39
    · replace hf := jif_f q hf
      clear q
      refine h_iload_n (pc := 20) C dX3_load_20 rfl 0 rfl ?_
      refine h_aload_n (pc := 21) C dX3_load_21 rfl 1 rfl ?_
      refine h_get (pc := 22) (ci := 1) (C0 := RX3) (T := TX3) (N := 3) C uX3_load_X3 rfl 0 rfl 0 (by decide) (List.mem_of_getElem? (i := 1) rfl) rfl rfl dX3_load_22 ?_
      refine h_alen (pc := 25) (v := 480) C 1 0 rfl rfl (by decide) dX3_load_25 ?_
      refine h_icmp_ge (pc := 26) (tgt := 38) C dX3_load_26 (by decide) (fun q => ?_) (fun q => ?_)
      · replace hf := jif_t q hf
        clear q
        refine h_iconst (pc := 38) C dX3_load_38 jc_0 ?_
        have g0 := (Option.some.inj hf)
        clear hf
        subst g0
        exact h_iret C hr dX3_load_39
      · replace hf := jif_f q hf
        clear q
        refine h_aload_n (pc := 29) C dX3_load_29 rfl 1 rfl ?_
        refine h_get (pc := 30) (ci := 1) (C0 := RX3) (T := TX3) (N := 3) C uX3_load_X3 rfl 0 rfl 0 (by decide) (List.mem_of_getElem? (i := 1) rfl) rfl rfl dX3_load_30 ?_
        refine h_iload_n (pc := 33) C dX3_load_33 rfl 0 rfl ?_
        obtain ⟨hi, v2, hv, hf⟩ := jrd_s hf
        refine h_iald (pc := 34) C 1 0 rfl rfl hi hv dX3_load_34 ?_
        clear hi hv
        refine h_goto (pc := 35) (tgt := 39) C dX3_load_35 (by decide) ?_
        have g0 := (Option.some.inj hf)
        clear hf
        subst g0
        exact h_iret C hr dX3_load_39
theorem pv_X3_load : yX3_load.cls = RX3 ∧ yX3_load.cls ≠ "java/lang/invoke/MethodHandle" ∧ yX3_load.cls ≠ "java/lang/invoke/VarHandle" ∧ (parseMethodDescriptor yX3_load.desc).map (fun d => d.parameters.length) = some 2 := by decide +kernel
abbrev rmX3_setLoad : Room := { frames := 1, cells := 0, slots := 0, locals := 22 }
theorem uX3_setLoad_X3 : ∀ w ∈ u_ws RX3 TX3 3, w ∈ wsX3_setLoad := fun w h => List.mem_cons_of_mem _ (List.mem_append_right _ h)
set_option maxRecDepth 100000 in
set_option maxHeartbeats 4000000 in
theorem c_X3_setLoad (l : Launch) (D : va_G) (cT : Nat → ClassId) (ad : Nat → Nat) (n : Nat) (loads : Nat → Int32) (widths : Nat → Int32) (height : Int32) (a1 : Int32) (a2 : Int32) (a3 : Int32) (loads' : Nat → Int32) (hf : f_X3_setLoad n loads widths height a1 a2 a3 = some loads') : cM l yX3_setLoad wsX3_setLoad rmX3_setLoad D (ty4 cT) [.ref (ad 6), .int a1, .int a2, .int a3] (wT cT ad loads widths height) none (wT cT ad loads' widths height) := by
  refine cM_of (cc := cX3_setLoad) (maxL := 5) (ret := none) (own := RX3) (lv := [(0, .ref (ad 6)), (1, .int a1), (2, .int a2), (3, .int a3)]) (by decide) rfl (Nat.le_of_ble_eq_true rfl) rfl rfl ?_
  intro p e s m args below meth c A C hr
  unfold f_X3_setLoad at hf
  refine h_iload_n (pc := 0) C dX3_setLoad_0 rfl 1 rfl ?_
  refine h_bipush (pc := 1) C dX3_setLoad_1 jb_60 ?_
  refine h_imul (pc := 3) C dX3_setLoad_3 ?_
  refine h_iload_n (pc := 4) C dX3_setLoad_4 rfl 2 rfl ?_
  refine h_iadd (pc := 5) C dX3_setLoad_5 ?_
  refine h_istore (pc := 6) (lv' := [(4, .int ((a1 * 60) + a2)), (0, .ref (ad 6)), (1, .int a1), (2, .int a2), (3, .int a3)]) C dX3_setLoad_6 (by decide) rfl ?_
  refine h_aload_n (pc := 8) C dX3_setLoad_8 rfl 1 rfl ?_
  refine h_iload_n (pc := 9) C dX3_setLoad_9 rfl 2 rfl ?_
  refine h_iload_n (pc := 10) C dX3_setLoad_10 rfl 3 rfl ?_
  obtain ⟨v1, hc, hf⟩ := jbd_s hf
  refine h_callV (pc := 11) (q0 := 0) (As := [.int a1, .int a2]) (rest := []) (ws' := (wT cT ad loads widths height)) (st2 := .int v1 :: []) C (c_X3_hasNode l D cT ad n loads widths height a1 a2 v1 hc) (cwV 2 C.1.2.2.2.2 gX3_setLoad_X3_hasNode rfl rfl rfl pv_X3_hasNode ⟨(Nat.le_of_ble_eq_true rfl), (Nat.le_of_ble_eq_true rfl)⟩) dX3_setLoad_11 rfl rfl rfl rfl rfl (Nat.le_of_ble_eq_true rfl) ⟨rfl, rfl⟩ ⟨(Nat.le_of_ble_eq_true rfl), (Nat.le_of_ble_eq_true rfl)⟩ [0, 1, 2] [] [0, 1, 2] rfl rfl rfl rfl (by decide) rfl rfl rfl ?_
  clear hc
  refine h_if_eq (pc := 14) (tgt := 40) C dX3_setLoad_14 (by decide) (fun q => ?_) (fun q => ?_)
  · replace hf := jif_t q hf
    clear q
    have g0 := (Option.some.inj hf)
    clear hf
    subst g0
    exact h_vret C hr dX3_setLoad_40
  · replace hf := jif_f q hf
    clear q
    refine h_iload (pc := 17) C dX3_setLoad_17 0 rfl ?_
    refine h_if_lt (pc := 19) (tgt := 40) C dX3_setLoad_19 (by decide) (fun q => ?_) (fun q => ?_)
    · replace hf := jif_t q hf
      clear q
      have g0 := (Option.some.inj hf)
      clear hf
      subst g0
      exact h_vret C hr dX3_setLoad_40
    · replace hf := jif_f q hf
      clear q
      refine h_iload (pc := 22) C dX3_setLoad_22 0 rfl ?_
      refine h_aload_n (pc := 24) C dX3_setLoad_24 rfl 1 rfl ?_
      refine h_get (pc := 25) (ci := 1) (C0 := RX3) (T := TX3) (N := 3) C uX3_setLoad_X3 rfl 0 rfl 0 (by decide) (List.mem_of_getElem? (i := 1) rfl) rfl rfl dX3_setLoad_25 ?_
      refine h_alen (pc := 28) (v := 480) C 1 0 rfl rfl (by decide) dX3_setLoad_28 ?_
      refine h_icmp_ge (pc := 29) (tgt := 40) C dX3_setLoad_29 (by decide) (fun q => ?_) (fun q => ?_)
      · replace hf := jif_t q hf
        clear q
        have g0 := (Option.some.inj hf)
        clear hf
        subst g0
        exact h_vret C hr dX3_setLoad_40
      · replace hf := jif_f q hf
        clear q
        refine h_aload_n (pc := 32) C dX3_setLoad_32 rfl 1 rfl ?_
        refine h_get (pc := 33) (ci := 1) (C0 := RX3) (T := TX3) (N := 3) C uX3_setLoad_X3 rfl 0 rfl 0 (by decide) (List.mem_of_getElem? (i := 1) rfl) rfl rfl dX3_setLoad_33 ?_
        refine h_iload (pc := 36) C dX3_setLoad_36 0 rfl ?_
        refine h_iload_n (pc := 38) C dX3_setLoad_38 rfl 4 rfl ?_
        obtain ⟨hi, w2, hv, hf⟩ := jwr_s hf
        refine h_iast (pc := 39) (ws' := (wT cT ad w2 widths height)) C 1 0 rfl rfl hi hv rfl dX3_setLoad_39 ?_
        clear hi hv
        have g0 := (Option.some.inj hf)
        clear hf
        subst g0
        exact h_vret C hr dX3_setLoad_40
theorem pv_X3_setLoad : yX3_setLoad.cls = RX3 ∧ yX3_setLoad.cls ≠ "java/lang/invoke/MethodHandle" ∧ yX3_setLoad.cls ≠ "java/lang/invoke/VarHandle" ∧ (parseMethodDescriptor yX3_setLoad.desc).map (fun d => d.parameters.length) = some 3 := by decide +kernel
abbrev rmX3_setWidth : Room := { frames := 0, cells := 0, slots := 0, locals := 0 }
theorem uX3_setWidth_X3 : ∀ w ∈ u_ws RX3 TX3 3, w ∈ wsX3_setWidth := fun w h => List.mem_cons_of_mem _ (List.mem_append_right _ h)
set_option maxRecDepth 100000 in
set_option maxHeartbeats 4000000 in
theorem c_X3_setWidth (l : Launch) (D : va_G) (cT : Nat → ClassId) (ad : Nat → Nat) (n : Nat) (loads : Nat → Int32) (widths : Nat → Int32) (height : Int32) (a1 : Int32) (a2 : Int32) (widths' : Nat → Int32) (hf : f_X3_setWidth n widths a1 a2 = some widths') : cM l yX3_setWidth wsX3_setWidth rmX3_setWidth D (ty4 cT) [.ref (ad 6), .int a1, .int a2] (wT cT ad loads widths height) none (wT cT ad loads widths' height) := by
  refine cM_of (cc := cX3_setWidth) (maxL := 3) (ret := none) (own := RX3) (lv := [(0, .ref (ad 6)), (1, .int a1), (2, .int a2)]) (by decide) rfl (Nat.le_of_ble_eq_true rfl) rfl rfl ?_
  intro p e s m args below meth c A C hr
  unfold f_X3_setWidth at hf
  refine h_iload_n (pc := 0) C dX3_setWidth_0 rfl 1 rfl ?_
  refine h_if_lt (pc := 1) (tgt := 20) C dX3_setWidth_1 (by decide) (fun q => ?_) (fun q => ?_)
  · replace hf := jif_t q hf
    clear q
    have g0 := (Option.some.inj hf)
    clear hf
    subst g0
    exact h_vret C hr dX3_setWidth_20
  · replace hf := jif_f q hf
    clear q
    refine h_iload_n (pc := 4) C dX3_setWidth_4 rfl 1 rfl ?_
    refine h_aload_n (pc := 5) C dX3_setWidth_5 rfl 0 rfl ?_
    refine h_get (pc := 6) (ci := 1) (C0 := RX3) (T := TX3) (N := 3) C uX3_setWidth_X3 rfl 0 rfl 1 (by decide) (List.mem_of_getElem? (i := 1) rfl) rfl rfl dX3_setWidth_6 ?_
    refine h_alen (pc := 9) (v := 8) C 2 0 rfl rfl (by decide) dX3_setWidth_9 ?_
    refine h_icmp_ge (pc := 10) (tgt := 20) C dX3_setWidth_10 (by decide) (fun q => ?_) (fun q => ?_)
    · replace hf := jif_t q hf
      clear q
      have g0 := (Option.some.inj hf)
      clear hf
      subst g0
      exact h_vret C hr dX3_setWidth_20
    · replace hf := jif_f q hf
      clear q
      refine h_aload_n (pc := 13) C dX3_setWidth_13 rfl 0 rfl ?_
      refine h_get (pc := 14) (ci := 1) (C0 := RX3) (T := TX3) (N := 3) C uX3_setWidth_X3 rfl 0 rfl 1 (by decide) (List.mem_of_getElem? (i := 1) rfl) rfl rfl dX3_setWidth_14 ?_
      refine h_iload_n (pc := 17) C dX3_setWidth_17 rfl 1 rfl ?_
      refine h_iload_n (pc := 18) C dX3_setWidth_18 rfl 2 rfl ?_
      obtain ⟨hi, w1, hv, hf⟩ := jwr_s hf
      refine h_iast (pc := 19) (ws' := (wT cT ad loads w1 height)) C 2 0 rfl rfl hi hv rfl dX3_setWidth_19 ?_
      clear hi hv
      have g0 := (Option.some.inj hf)
      clear hf
      subst g0
      exact h_vret C hr dX3_setWidth_20
theorem pv_X3_setWidth : yX3_setWidth.cls = RX3 ∧ yX3_setWidth.cls ≠ "java/lang/invoke/MethodHandle" ∧ yX3_setWidth.cls ≠ "java/lang/invoke/VarHandle" ∧ (parseMethodDescriptor yX3_setWidth.desc).map (fun d => d.parameters.length) = some 2 := by decide +kernel
abbrev rmX3_entriesBefore : Room := { frames := 2, cells := 0, slots := 0, locals := 45 }
set_option maxRecDepth 100000 in
set_option maxHeartbeats 4000000 in
theorem k_X3_entriesBefore_5 {p : Program} {e : Env} {s : State} {m : MethodId} {args : Array Value} {below : List Frame} {meth : Method} {c : Code} {A : Nat → Prop} (l : Launch) (D : va_G) (cT : Nat → ClassId) (ad : Nat → Nat) (C : hC p s m args meth c cX3_entriesBefore 5 wsX3_entriesBefore RX3 D (ty4 cT) A) (hr : meth.sig.returnType = (some .int)) (n : Nat) (loads : Nat → Int32) (widths : Nat → Int32) (height : Int32) (r : Int32)  : ∀ (fu : Nat)  (x1 : Int32) (x2 : Int32) (x3 : Int32) (x4 : Int32), f_X3_entriesBefore_5 n loads widths height fu x1 x2 x3 x4 = some r → hS p l e rmX3_entriesBefore s m args below meth c 5 D A 0 0 (MQ below (cQ D (ty4 cT) A (some (.int r)) (wT cT ad loads widths height)) args s 0 0 A) 5 [(0, .ref (ad 6)), (1, .int x1), (2, .int x2), (3, .int x3), (4, .int x4)] [] (wT cT ad loads widths height) := by
  intro fu
  induction fu with
  | zero =>
    intro x1 x2 x3 x4 hf
    exact nomatch (show (none : Option (Int32)) = some r from hf)
  | succ fu ih =>
    intro x1 x2 x3 x4 hf
    rw [f_X3_entriesBefore_5] at hf
    refine h_iload (pc := 5) C dX3_entriesBefore_5 4 rfl ?_
    refine h_iload_n (pc := 7) C dX3_entriesBefore_7 rfl 2 rfl ?_
    refine h_icmp_ge (pc := 8) (tgt := 37) C dX3_entriesBefore_8 (by decide) (fun q => ?_) (fun q => ?_)
    · replace hf := jif_t q hf
      clear q
      refine h_iload_n (pc := 37) C dX3_entriesBefore_37 rfl 3 rfl ?_
      have g0 := (Option.some.inj hf)
      clear hf
      subst g0
      exact h_iret C hr dX3_entriesBefore_38
    · replace hf := jif_f q hf
      clear q
      refine h_iload (pc := 11) C dX3_entriesBefore_11 4 rfl ?_
      refine h_aload_n (pc := 13) C dX3_entriesBefore_13 rfl 0 rfl ?_
      refine h_iload_n (pc := 14) C dX3_entriesBefore_14 rfl 1 rfl ?_
      obtain ⟨v1, hc, hf⟩ := jbd_s hf
      refine h_callV (pc := 15) (q0 := 0) (As := [.int x1]) (rest := .int x4 :: []) (ws' := (wT cT ad loads widths height)) (st2 := .int v1 :: .int x4 :: []) C (c_X3_width l D cT ad n loads widths height x1 v1 hc) (cwV 1 C.1.2.2.2.2 gX3_entriesBefore_X3_width rfl rfl rfl pv_X3_width ⟨(Nat.le_of_ble_eq_true rfl), (Nat.le_of_ble_eq_true rfl)⟩) dX3_entriesBefore_15 rfl rfl rfl rfl rfl (Nat.le_of_ble_eq_true rfl) ⟨rfl, rfl⟩ ⟨(Nat.le_of_ble_eq_true rfl), (Nat.le_of_ble_eq_true rfl)⟩ [0, 1, 2] [] [0, 1, 2] rfl rfl rfl rfl (by decide) rfl rfl rfl ?_
      clear hc
      refine h_icmp_ge (pc := 18) (tgt := 37) C dX3_entriesBefore_18 (by decide) (fun q => ?_) (fun q => ?_)
      · replace hf := jif_t q hf
        clear q
        refine h_iload_n (pc := 37) C dX3_entriesBefore_37 rfl 3 rfl ?_
        have g0 := (Option.some.inj hf)
        clear hf
        subst g0
        exact h_iret C hr dX3_entriesBefore_38
      · replace hf := jif_f q hf
        clear q
        refine h_iload_n (pc := 21) C dX3_entriesBefore_21 rfl 3 rfl ?_
        refine h_aload_n (pc := 22) C dX3_entriesBefore_22 rfl 0 rfl ?_
        refine h_iload_n (pc := 23) C dX3_entriesBefore_23 rfl 1 rfl ?_
        refine h_iload (pc := 24) C dX3_entriesBefore_24 4 rfl ?_
        obtain ⟨v2, hc, hf⟩ := jbd_s hf
        refine h_callV (pc := 26) (q0 := 0) (As := [.int x1, .int x4]) (rest := .int x3 :: []) (ws' := (wT cT ad loads widths height)) (st2 := .int v2 :: .int x3 :: []) C (c_X3_load l D cT ad n loads widths height x1 x4 v2 hc) (cwV 2 C.1.2.2.2.2 gX3_entriesBefore_X3_load rfl rfl rfl pv_X3_load ⟨(Nat.le_of_ble_eq_true rfl), (Nat.le_of_ble_eq_true rfl)⟩) dX3_entriesBefore_26 rfl rfl rfl rfl rfl (Nat.le_of_ble_eq_true rfl) ⟨rfl, rfl⟩ ⟨(Nat.le_of_ble_eq_true rfl), (Nat.le_of_ble_eq_true rfl)⟩ [0, 1, 2] [] [0, 1, 2] rfl rfl rfl rfl (by decide) rfl rfl rfl ?_
        clear hc
        refine h_iadd (pc := 29) C dX3_entriesBefore_29 ?_
        refine h_istore_n (pc := 30) (lv' := [(3, .int (x3 + v2)), (0, .ref (ad 6)), (1, .int x1), (2, .int x2), (4, .int x4)]) C dX3_entriesBefore_30 rfl (by decide) rfl ?_
        refine h_iinc (pc := 31) (v := x4 + 1) (lv' := [(4, .int (x4 + 1)), (3, .int (x3 + v2)), (0, .ref (ad 6)), (1, .int x1), (2, .int x2)]) C dX3_entriesBefore_31 4 rfl (ji_1 _) (by decide) rfl ?_
        refine h_goto (pc := 34) (tgt := 5) C dX3_entriesBefore_34 (by decide) ?_
        refine h_sub [2, 3, 4, 1, 0] rfl ?_
        exact ih x1 x2 (x3 + v2) (x4 + 1) hf
set_option maxRecDepth 100000 in
set_option maxHeartbeats 4000000 in
theorem c_X3_entriesBefore (l : Launch) (D : va_G) (cT : Nat → ClassId) (ad : Nat → Nat) (n : Nat) (loads : Nat → Int32) (widths : Nat → Int32) (height : Int32) (a1 : Int32) (a2 : Int32) (r : Int32) (hf : f_X3_entriesBefore n loads widths height a1 a2 = some r) : cM l yX3_entriesBefore wsX3_entriesBefore rmX3_entriesBefore D (ty4 cT) [.ref (ad 6), .int a1, .int a2] (wT cT ad loads widths height) (some (.int r)) (wT cT ad loads widths height) := by
  refine cM_of (cc := cX3_entriesBefore) (maxL := 5) (ret := (some .int)) (own := RX3) (lv := [(0, .ref (ad 6)), (1, .int a1), (2, .int a2)]) (by decide) rfl (Nat.le_of_ble_eq_true rfl) rfl rfl ?_
  intro p e s m args below meth c A C hr
  unfold f_X3_entriesBefore at hf
  refine h_iconst (pc := 0) C dX3_entriesBefore_0 jc_0 ?_
  refine h_istore_n (pc := 1) (lv' := [(3, .int 0), (0, .ref (ad 6)), (1, .int a1), (2, .int a2)]) C dX3_entriesBefore_1 rfl (by decide) rfl ?_
  refine h_iconst (pc := 2) C dX3_entriesBefore_2 jc_0 ?_
  refine h_istore (pc := 3) (lv' := [(4, .int 0), (3, .int 0), (0, .ref (ad 6)), (1, .int a1), (2, .int a2)]) C dX3_entriesBefore_3 (by decide) rfl ?_
  refine h_sub [2, 3, 4, 1, 0] rfl ?_
  exact k_X3_entriesBefore_5 l D cT ad C hr n loads widths height r n a1 a2 0 0 hf
theorem pv_X3_entriesBefore : yX3_entriesBefore.cls = RX3 ∧ yX3_entriesBefore.cls ≠ "java/lang/invoke/MethodHandle" ∧ yX3_entriesBefore.cls ≠ "java/lang/invoke/VarHandle" ∧ (parseMethodDescriptor yX3_entriesBefore.desc).map (fun d => d.parameters.length) = some 2 := by decide +kernel
abbrev rmX3_boxesBefore : Room := { frames := 3, cells := 0, slots := 0, locals := 69 }
set_option maxRecDepth 100000 in
set_option maxHeartbeats 4000000 in
theorem k_X3_boxesBefore_5 {p : Program} {e : Env} {s : State} {m : MethodId} {args : Array Value} {below : List Frame} {meth : Method} {c : Code} {A : Nat → Prop} (l : Launch) (D : va_G) (cT : Nat → ClassId) (ad : Nat → Nat) (C : hC p s m args meth c cX3_boxesBefore 5 wsX3_boxesBefore RX3 D (ty4 cT) A) (hr : meth.sig.returnType = (some .int)) (n : Nat) (loads : Nat → Int32) (widths : Nat → Int32) (height : Int32) (r : Int32)  : ∀ (fu : Nat)  (x3 : Int32) (x4 : Int32), f_X3_boxesBefore_5 n loads widths height fu x3 x4 = some r → hS p l e rmX3_boxesBefore s m args below meth c 5 D A 0 0 (MQ below (cQ D (ty4 cT) A (some (.int r)) (wT cT ad loads widths height)) args s 0 0 A) 5 [(0, .ref (ad 6)), (3, .int x3), (4, .int x4)] [] (wT cT ad loads widths height) := by
  intro fu
  induction fu with
  | zero =>
    intro x3 x4 hf
    exact nomatch (show (none : Option (Int32)) = some r from hf)
  | succ fu ih =>
    intro x3 x4 hf
    rw [f_X3_boxesBefore_5] at hf
    refine h_iload (pc := 5) C dX3_boxesBefore_5 2 rfl ?_
    refine h_if_lt (pc := 7) (tgt := 24) C dX3_boxesBefore_7 (by decide) (fun q => ?_) (fun q => ?_)
    · replace hf := jif_t q hf
      clear q
      refine h_iload_n (pc := 24) C dX3_boxesBefore_24 rfl 1 rfl ?_
      have g0 := (Option.some.inj hf)
      clear hf
      subst g0
      exact h_iret C hr dX3_boxesBefore_25
    · replace hf := jif_f q hf
      clear q
      refine h_aload_n (pc := 10) C dX3_boxesBefore_10 rfl 0 rfl ?_
      refine h_iload (pc := 11) C dX3_boxesBefore_11 2 rfl ?_
      refine h_iload_n (pc := 13) C dX3_boxesBefore_13 rfl 1 rfl ?_
      obtain ⟨v1, hc, hf⟩ := jbd_s hf
      refine h_callV (pc := 14) (q0 := 0) (As := [.int x4, .int x3]) (rest := []) (ws' := (wT cT ad loads widths height)) (st2 := .int v1 :: []) C (c_X3_entriesBefore l D cT ad n loads widths height x4 x3 v1 hc) (cwV 2 C.1.2.2.2.2 gX3_boxesBefore_X3_entriesBefore rfl rfl rfl pv_X3_entriesBefore ⟨(Nat.le_of_ble_eq_true rfl), (Nat.le_of_ble_eq_true rfl)⟩) dX3_boxesBefore_14 rfl rfl rfl rfl rfl (Nat.le_of_ble_eq_true rfl) ⟨rfl, rfl⟩ ⟨(Nat.le_of_ble_eq_true rfl), (Nat.le_of_ble_eq_true rfl)⟩ [0, 1, 2] [] [0, 1, 2] rfl rfl rfl rfl (by decide) rfl rfl rfl ?_
      clear hc
      refine h_istore_n (pc := 17) (lv' := [(3, .int v1), (0, .ref (ad 6)), (4, .int x4)]) C dX3_boxesBefore_17 rfl (by decide) rfl ?_
      refine h_iinc (pc := 18) (v := x4 + jm1) (lv' := [(4, .int (x4 + jm1)), (3, .int v1), (0, .ref (ad 6))]) C dX3_boxesBefore_18 2 rfl (ji_m1 _) (by decide) rfl ?_
      refine h_goto (pc := 21) (tgt := 5) C dX3_boxesBefore_21 (by decide) ?_
      refine h_sub [2, 1, 0] rfl ?_
      exact ih v1 (x4 + jm1) hf
set_option maxRecDepth 100000 in
set_option maxHeartbeats 4000000 in
theorem c_X3_boxesBefore (l : Launch) (D : va_G) (cT : Nat → ClassId) (ad : Nat → Nat) (n : Nat) (loads : Nat → Int32) (widths : Nat → Int32) (height : Int32) (a1 : Int32) (a2 : Int32) (r : Int32) (hf : f_X3_boxesBefore n loads widths height a1 a2 = some r) : cM l yX3_boxesBefore wsX3_boxesBefore rmX3_boxesBefore D (ty4 cT) [.ref (ad 6), .int a1, .int a2] (wT cT ad loads widths height) (some (.int r)) (wT cT ad loads widths height) := by
  refine cM_of (cc := cX3_boxesBefore) (maxL := 5) (ret := (some .int)) (own := RX3) (lv := [(0, .ref (ad 6)), (1, .int a1), (2, .int a2)]) (by decide) rfl (Nat.le_of_ble_eq_true rfl) rfl rfl ?_
  intro p e s m args below meth c A C hr
  unfold f_X3_boxesBefore at hf
  refine h_iload_n (pc := 0) C dX3_boxesBefore_0 rfl 2 rfl ?_
  refine h_istore_n (pc := 1) (lv' := [(3, .int a2), (0, .ref (ad 6)), (1, .int a1), (2, .int a2)]) C dX3_boxesBefore_1 rfl (by decide) rfl ?_
  refine h_iload_n (pc := 2) C dX3_boxesBefore_2 rfl 2 rfl ?_
  refine h_istore (pc := 3) (lv' := [(4, .int a1), (3, .int a2), (0, .ref (ad 6)), (1, .int a1), (2, .int a2)]) C dX3_boxesBefore_3 (by decide) rfl ?_
  refine h_sub [2, 1, 0] rfl ?_
  exact k_X3_boxesBefore_5 l D cT ad C hr n loads widths height r n a2 a1 hf
theorem pv_X3_boxesBefore : yX3_boxesBefore.cls = RX3 ∧ yX3_boxesBefore.cls ≠ "java/lang/invoke/MethodHandle" ∧ yX3_boxesBefore.cls ≠ "java/lang/invoke/VarHandle" ∧ (parseMethodDescriptor yX3_boxesBefore.desc).map (fun d => d.parameters.length) = some 2 := by decide +kernel
abbrev rmX3_holder : Room := { frames := 2, cells := 0, slots := 0, locals := 45 }
set_option maxRecDepth 100000 in
set_option maxHeartbeats 4000000 in
theorem k_X3_holder_5 {p : Program} {e : Env} {s : State} {m : MethodId} {args : Array Value} {below : List Frame} {meth : Method} {c : Code} {A : Nat → Prop} (l : Launch) (D : va_G) (cT : Nat → ClassId) (ad : Nat → Nat) (C : hC p s m args meth c cX3_holder 5 wsX3_holder RX3 D (ty4 cT) A) (hr : meth.sig.returnType = (some .int)) (n : Nat) (loads : Nat → Int32) (widths : Nat → Int32) (height : Int32) (r : Int32)  : ∀ (fu : Nat)  (x1 : Int32) (x2 : Int32) (x3 : Int32) (x4 : Int32), f_X3_holder_5 n loads widths height fu x1 x2 x3 x4 = some r → hS p l e rmX3_holder s m args below meth c 5 D A 0 0 (MQ below (cQ D (ty4 cT) A (some (.int r)) (wT cT ad loads widths height)) args s 0 0 A) 5 [(0, .ref (ad 6)), (1, .int x1), (2, .int x2), (3, .int x3), (4, .int x4)] [] (wT cT ad loads widths height) := by
  intro fu
  induction fu with
  | zero =>
    intro x1 x2 x3 x4 hf
    exact nomatch (show (none : Option (Int32)) = some r from hf)
  | succ fu ih =>
    intro x1 x2 x3 x4 hf
    rw [f_X3_holder_5] at hf
    refine h_iload (pc := 5) C dX3_holder_5 4 rfl ?_
    refine h_aload_n (pc := 7) C dX3_holder_7 rfl 0 rfl ?_
    refine h_iload_n (pc := 8) C dX3_holder_8 rfl 1 rfl ?_
    obtain ⟨v1, hc, hf⟩ := jbd_s hf
    refine h_callV (pc := 9) (q0 := 0) (As := [.int x1]) (rest := .int x4 :: []) (ws' := (wT cT ad loads widths height)) (st2 := .int v1 :: .int x4 :: []) C (c_X3_width l D cT ad n loads widths height x1 v1 hc) (cwV 1 C.1.2.2.2.2 gX3_holder_X3_width rfl rfl rfl pv_X3_width ⟨(Nat.le_of_ble_eq_true rfl), (Nat.le_of_ble_eq_true rfl)⟩) dX3_holder_9 rfl rfl rfl rfl rfl (Nat.le_of_ble_eq_true rfl) ⟨rfl, rfl⟩ ⟨(Nat.le_of_ble_eq_true rfl), (Nat.le_of_ble_eq_true rfl)⟩ [0, 1, 2] [] [0, 1, 2] rfl rfl rfl rfl (by decide) rfl rfl rfl ?_
    clear hc
    refine h_icmp_ge (pc := 12) (tgt := 39) C dX3_holder_12 (by decide) (fun q => ?_) (fun q => ?_)
    · replace hf := jif_t q hf
      clear q
      refine h_aload_n (pc := 39) C dX3_holder_39 rfl 0 rfl ?_
      refine h_iload_n (pc := 40) C dX3_holder_40 rfl 1 rfl ?_
      obtain ⟨v2, hc, hf⟩ := jbd_s hf
      refine h_callV (pc := 41) (q0 := 0) (As := [.int x1]) (rest := []) (ws' := (wT cT ad loads widths height)) (st2 := .int v2 :: []) C (c_X3_width l D cT ad n loads widths height x1 v2 hc) (cwV 1 C.1.2.2.2.2 gX3_holder_X3_width rfl rfl rfl pv_X3_width ⟨(Nat.le_of_ble_eq_true rfl), (Nat.le_of_ble_eq_true rfl)⟩) dX3_holder_41 rfl rfl rfl rfl rfl (Nat.le_of_ble_eq_true rfl) ⟨rfl, rfl⟩ ⟨(Nat.le_of_ble_eq_true rfl), (Nat.le_of_ble_eq_true rfl)⟩ [0, 1, 2] [] [0, 1, 2] rfl rfl rfl rfl (by decide) rfl rfl rfl ?_
      clear hc
      refine h_iconst (pc := 44) C dX3_holder_44 jc_1 ?_
      refine h_isub (pc := 45) C dX3_holder_45 ?_
      have g0 := (Option.some.inj hf)
      clear hf
      subst g0
      exact h_iret C hr dX3_holder_46
    · replace hf := jif_f q hf
      clear q
      refine h_iload_n (pc := 15) C dX3_holder_15 rfl 3 rfl ?_
      refine h_aload_n (pc := 16) C dX3_holder_16 rfl 0 rfl ?_
      refine h_iload_n (pc := 17) C dX3_holder_17 rfl 1 rfl ?_
      refine h_iload (pc := 18) C dX3_holder_18 4 rfl ?_
      obtain ⟨v3, hc, hf⟩ := jbd_s hf
      refine h_callV (pc := 20) (q0 := 0) (As := [.int x1, .int x4]) (rest := .int x3 :: []) (ws' := (wT cT ad loads widths height)) (st2 := .int v3 :: .int x3 :: []) C (c_X3_load l D cT ad n loads widths height x1 x4 v3 hc) (cwV 2 C.1.2.2.2.2 gX3_holder_X3_load rfl rfl rfl pv_X3_load ⟨(Nat.le_of_ble_eq_true rfl), (Nat.le_of_ble_eq_true rfl)⟩) dX3_holder_20 rfl rfl rfl rfl rfl (Nat.le_of_ble_eq_true rfl) ⟨rfl, rfl⟩ ⟨(Nat.le_of_ble_eq_true rfl), (Nat.le_of_ble_eq_true rfl)⟩ [0, 1, 2] [] [0, 1, 2] rfl rfl rfl rfl (by decide) rfl rfl rfl ?_
      clear hc
      refine h_iadd (pc := 23) C dX3_holder_23 ?_
      refine h_istore_n (pc := 24) (lv' := [(3, .int (x3 + v3)), (0, .ref (ad 6)), (1, .int x1), (2, .int x2), (4, .int x4)]) C dX3_holder_24 rfl (by decide) rfl ?_
      refine h_iload_n (pc := 25) C dX3_holder_25 rfl 3 rfl ?_
      refine h_iload_n (pc := 26) C dX3_holder_26 rfl 0 rfl ?_
      refine h_icmp_ge (pc := 27) (tgt := 33) C dX3_holder_27 (by decide) (fun q => ?_) (fun q => ?_)
      · replace hf := jif_t q hf
        clear q
        refine h_iinc (pc := 33) (v := x4 + 1) (lv' := [(4, .int (x4 + 1)), (3, .int (x3 + v3)), (0, .ref (ad 6)), (1, .int x1), (2, .int x2)]) C dX3_holder_33 4 rfl (ji_1 _) (by decide) rfl ?_
        refine h_goto (pc := 36) (tgt := 5) C dX3_holder_36 (by decide) ?_
        refine h_sub [2, 3, 4, 1, 0] rfl ?_
        exact ih x1 x2 (x3 + v3) (x4 + 1) hf
      · replace hf := jif_f q hf
        clear q
        refine h_iload (pc := 30) C dX3_holder_30 4 rfl ?_
        have g0 := (Option.some.inj hf)
        clear hf
        subst g0
        exact h_iret C hr dX3_holder_32
set_option maxRecDepth 100000 in
set_option maxHeartbeats 4000000 in
theorem c_X3_holder (l : Launch) (D : va_G) (cT : Nat → ClassId) (ad : Nat → Nat) (n : Nat) (loads : Nat → Int32) (widths : Nat → Int32) (height : Int32) (a1 : Int32) (a2 : Int32) (r : Int32) (hf : f_X3_holder n loads widths height a1 a2 = some r) : cM l yX3_holder wsX3_holder rmX3_holder D (ty4 cT) [.ref (ad 6), .int a1, .int a2] (wT cT ad loads widths height) (some (.int r)) (wT cT ad loads widths height) := by
  refine cM_of (cc := cX3_holder) (maxL := 5) (ret := (some .int)) (own := RX3) (lv := [(0, .ref (ad 6)), (1, .int a1), (2, .int a2)]) (by decide) rfl (Nat.le_of_ble_eq_true rfl) rfl rfl ?_
  intro p e s m args below meth c A C hr
  unfold f_X3_holder at hf
  refine h_iconst (pc := 0) C dX3_holder_0 jc_0 ?_
  refine h_istore_n (pc := 1) (lv' := [(3, .int 0), (0, .ref (ad 6)), (1, .int a1), (2, .int a2)]) C dX3_holder_1 rfl (by decide) rfl ?_
  refine h_iconst (pc := 2) C dX3_holder_2 jc_0 ?_
  refine h_istore (pc := 3) (lv' := [(4, .int 0), (3, .int 0), (0, .ref (ad 6)), (1, .int a1), (2, .int a2)]) C dX3_holder_3 (by decide) rfl ?_
  refine h_sub [2, 3, 4, 1, 0] rfl ?_
  exact k_X3_holder_5 l D cT ad C hr n loads widths height r n a1 a2 0 0 hf
theorem pv_X3_holder : yX3_holder.cls = RX3 ∧ yX3_holder.cls ≠ "java/lang/invoke/MethodHandle" ∧ yX3_holder.cls ≠ "java/lang/invoke/VarHandle" ∧ (parseMethodDescriptor yX3_holder.desc).map (fun d => d.parameters.length) = some 2 := by decide +kernel
abbrev rmX3_parent : Room := { frames := 3, cells := 0, slots := 0, locals := 69 }
set_option maxRecDepth 100000 in
set_option maxHeartbeats 4000000 in
theorem c_X3_parent (l : Launch) (D : va_G) (cT : Nat → ClassId) (ad : Nat → Nat) (n : Nat) (loads : Nat → Int32) (widths : Nat → Int32) (height : Int32) (a1 : Int32) (a2 : Int32) (r : Int32) (hf : f_X3_parent n loads widths height a1 a2 = some r) : cM l yX3_parent wsX3_parent rmX3_parent D (ty4 cT) [.ref (ad 6), .int a1, .int a2] (wT cT ad loads widths height) (some (.int r)) (wT cT ad loads widths height) := by
  refine cM_of (cc := cX3_parent) (maxL := 3) (ret := (some .int)) (own := RX3) (lv := [(0, .ref (ad 6)), (1, .int a1), (2, .int a2)]) (by decide) rfl (Nat.le_of_ble_eq_true rfl) rfl rfl ?_
  intro p e s m args below meth c A C hr
  unfold f_X3_parent at hf
  refine h_aload_n (pc := 0) C dX3_parent_0 rfl 0 rfl ?_
  refine h_iload_n (pc := 1) C dX3_parent_1 rfl 1 rfl ?_
  refine h_iconst (pc := 2) C dX3_parent_2 jc_1 ?_
  refine h_iadd (pc := 3) C dX3_parent_3 ?_
  obtain ⟨v1, hc, hf⟩ := jbd_s hf
  refine h_callV (pc := 4) (q0 := 0) (As := [.int (a1 + 1)]) (rest := []) (ws' := (wT cT ad loads widths height)) (st2 := .int v1 :: []) C (c_X3_hasLevel l D cT ad n loads widths height (a1 + 1) v1 hc) (cwV 1 C.1.2.2.2.2 gX3_parent_X3_hasLevel rfl rfl rfl pv_X3_hasLevel ⟨(Nat.le_of_ble_eq_true rfl), (Nat.le_of_ble_eq_true rfl)⟩) dX3_parent_4 rfl rfl rfl rfl rfl (Nat.le_of_ble_eq_true rfl) ⟨rfl, rfl⟩ ⟨(Nat.le_of_ble_eq_true rfl), (Nat.le_of_ble_eq_true rfl)⟩ [0, 1, 2] [] [0, 1, 2] rfl rfl rfl rfl (by decide) rfl rfl rfl ?_
  clear hc
  refine h_if_eq (pc := 7) (tgt := 21) C dX3_parent_7 (by decide) (fun q => ?_) (fun q => ?_)
  · replace hf := jif_t q hf
    clear q
    refine h_iconst (pc := 21) C dX3_parent_21 jc_m1 ?_
    have g0 := (Option.some.inj hf)
    clear hf
    subst g0
    exact h_iret C hr dX3_parent_22
  · replace hf := jif_f q hf
    clear q
    refine h_aload_n (pc := 10) C dX3_parent_10 rfl 0 rfl ?_
    refine h_iload_n (pc := 11) C dX3_parent_11 rfl 1 rfl ?_
    refine h_iconst (pc := 12) C dX3_parent_12 jc_1 ?_
    refine h_iadd (pc := 13) C dX3_parent_13 ?_
    refine h_iload_n (pc := 14) C dX3_parent_14 rfl 2 rfl ?_
    obtain ⟨v2, hc, hf⟩ := jbd_s hf
    refine h_callV (pc := 15) (q0 := 0) (As := [.int (a1 + 1), .int a2]) (rest := []) (ws' := (wT cT ad loads widths height)) (st2 := .int v2 :: []) C (c_X3_holder l D cT ad n loads widths height (a1 + 1) a2 v2 hc) (cwV 2 C.1.2.2.2.2 gX3_parent_X3_holder rfl rfl rfl pv_X3_holder ⟨(Nat.le_of_ble_eq_true rfl), (Nat.le_of_ble_eq_true rfl)⟩) dX3_parent_15 rfl rfl rfl rfl rfl (Nat.le_of_ble_eq_true rfl) ⟨rfl, rfl⟩ ⟨(Nat.le_of_ble_eq_true rfl), (Nat.le_of_ble_eq_true rfl)⟩ [0, 1, 2] [] [0, 1, 2] rfl rfl rfl rfl (by decide) rfl rfl rfl ?_
    clear hc
    refine h_goto (pc := 18) (tgt := 22) C dX3_parent_18 (by decide) ?_
    have g0 := (Option.some.inj hf)
    clear hf
    subst g0
    exact h_iret C hr dX3_parent_22
theorem pv_X3_parent : yX3_parent.cls = RX3 ∧ yX3_parent.cls ≠ "java/lang/invoke/MethodHandle" ∧ yX3_parent.cls ≠ "java/lang/invoke/VarHandle" ∧ (parseMethodDescriptor yX3_parent.desc).map (fun d => d.parameters.length) = some 2 := by decide +kernel
