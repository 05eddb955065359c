/-! laid by wip/whole/lay.py: contracts -/
abbrev rmX2_size : Room := { frames := 0, cells := 0, slots := 0, locals := 0 }
theorem uX2_size_X2 : ∀ w ∈ u_ws RX2 TX2 6, w ∈ wsX2_size := fun w h => List.mem_cons_of_mem _ (List.mem_append_right _ h)
set_option maxRecDepth 100000 in
set_option maxHeartbeats 4000000 in
theorem c_X2_size (l : Launch) (D : va_G) (cT : Nat → ClassId) (ad : Nat → Nat) (n : Nat) (areas : Nat → Int32) (keys : Nat → Int32) (there : Nat → Int32) (order : Nat → Int32) (added : Int32) (size : Int32)  (r : Int32) (hf : f_X2_size n size = some r) : cM l yX2_size wsX2_size rmX2_size D (ty4 cT) [.ref (ad 1)] (wS cT ad areas keys there order added size) (some (.int r)) (wS cT ad areas keys there order added size) := by
  refine cM_of (cc := cX2_size) (maxL := 1) (ret := (some .int)) (own := RX2) (lv := [(0, .ref (ad 1))]) (by decide) rfl (Nat.le_of_ble_eq_true rfl) rfl rfl ?_
  intro p e s m args below meth c A C hr
  unfold f_X2_size at hf
  refine h_aload_n (pc := 0) C dX2_size_0 rfl 0 rfl ?_
  refine h_get (pc := 1) (ci := 0) (C0 := RX2) (T := TX2) (N := 6) C uX2_size_X2 rfl 0 rfl 5 (by decide) (List.mem_of_getElem? (i := 1) rfl) rfl rfl dX2_size_1 ?_
  have g0 := (Option.some.inj hf)
  clear hf
  subst g0
  exact h_iret C hr dX2_size_4
theorem pv_X2_size : yX2_size.cls = RX2 ∧ yX2_size.cls ≠ "java/lang/invoke/MethodHandle" ∧ yX2_size.cls ≠ "java/lang/invoke/VarHandle" ∧ (parseMethodDescriptor yX2_size.desc).map (fun d => d.parameters.length) = some 0 := by decide +kernel
abbrev rmX2_added : Room := { frames := 0, cells := 0, slots := 0, locals := 0 }
theorem uX2_added_X2 : ∀ w ∈ u_ws RX2 TX2 6, w ∈ wsX2_added := fun w h => List.mem_cons_of_mem _ (List.mem_append_right _ h)
set_option maxRecDepth 100000 in
set_option maxHeartbeats 4000000 in
theorem c_X2_added (l : Launch) (D : va_G) (cT : Nat → ClassId) (ad : Nat → Nat) (n : Nat) (areas : Nat → Int32) (keys : Nat → Int32) (there : Nat → Int32) (order : Nat → Int32) (added : Int32) (size : Int32)  (r : Int32) (hf : f_X2_added n added = some r) : cM l yX2_added wsX2_added rmX2_added D (ty4 cT) [.ref (ad 1)] (wS cT ad areas keys there order added size) (some (.int r)) (wS cT ad areas keys there order added size) := by
  refine cM_of (cc := cX2_added) (maxL := 1) (ret := (some .int)) (own := RX2) (lv := [(0, .ref (ad 1))]) (by decide) rfl (Nat.le_of_ble_eq_true rfl) rfl rfl ?_
  intro p e s m args below meth c A C hr
  unfold f_X2_added at hf
  refine h_aload_n (pc := 0) C dX2_added_0 rfl 0 rfl ?_
  refine h_get (pc := 1) (ci := 0) (C0 := RX2) (T := TX2) (N := 6) C uX2_added_X2 rfl 0 rfl 4 (by decide) (List.mem_of_getElem? (i := 1) rfl) rfl rfl dX2_added_1 ?_
  have g0 := (Option.some.inj hf)
  clear hf
  subst g0
  exact h_iret C hr dX2_added_4
theorem pv_X2_added : yX2_added.cls = RX2 ∧ yX2_added.cls ≠ "java/lang/invoke/MethodHandle" ∧ yX2_added.cls ≠ "java/lang/invoke/VarHandle" ∧ (parseMethodDescriptor yX2_added.desc).map (fun d => d.parameters.length) = some 0 := by decide +kernel
abbrev rmX2_hasRoom : Room := { frames := 0, cells := 0, slots := 0, locals := 0 }
theorem uX2_hasRoom_X2 : ∀ w ∈ u_ws RX2 TX2 6, w ∈ wsX2_hasRoom := fun w h => List.mem_cons_of_mem _ (List.mem_append_right _ h)
set_option maxRecDepth 100000 in
set_option maxHeartbeats 4000000 in
theorem c_X2_hasRoom (l : Launch) (D : va_G) (cT : Nat → ClassId) (ad : Nat → Nat) (n : Nat) (areas : Nat → Int32) (keys : Nat → Int32) (there : Nat → Int32) (order : Nat → Int32) (added : Int32) (size : Int32)  (r : Int32) (hf : f_X2_hasRoom n added size = some r) : cM l yX2_hasRoom wsX2_hasRoom rmX2_hasRoom D (ty4 cT) [.ref (ad 1)] (wS cT ad areas keys there order added size) (some (.int r)) (wS cT ad areas keys there order added size) := by
  refine cM_of (cc := cX2_hasRoom) (maxL := 1) (ret := (some .boolean)) (own := RX2) (lv := [(0, .ref (ad 1))]) (by decide) rfl (Nat.le_of_ble_eq_true rfl) rfl rfl ?_
  intro p e s m args below meth c A C hr
  unfold f_X2_hasRoom at hf
  refine h_aload_n (pc := 0) C dX2_hasRoom_0 rfl 0 rfl ?_
  refine h_get (pc := 1) (ci := 0) (C0 := RX2) (T := TX2) (N := 6) C uX2_hasRoom_X2 rfl 0 rfl 4 (by decide) (List.mem_of_getElem? (i := 1) rfl) rfl rfl dX2_hasRoom_1 ?_
  refine h_bipush (pc := 4) C dX2_hasRoom_4 jb_100 ?_
  refine h_icmp_ge (pc := 6) (tgt := 22) C dX2_hasRoom_6 (by decide) (fun q => ?_) (fun q => ?_)
  · replace hf := jif_t q hf
    clear q
    refine h_iconst (pc := 22) C dX2_hasRoom_22 jc_0 ?_
    have g0 := (Option.some.inj hf)
    clear hf
    subst g0
    exact h_zret C hr rfl dX2_hasRoom_23
  · replace hf := jif_f q hf
    clear q
    refine h_aload_n (pc := 9) C dX2_hasRoom_9 rfl 0 rfl ?_
    refine h_get (pc := 10) (ci := 0) (C0 := RX2) (T := TX2) (N := 6) C uX2_hasRoom_X2 rfl 0 rfl 5 (by decide) (List.mem_of_getElem? (i := 2) rfl) rfl rfl dX2_hasRoom_10 ?_
    refine h_bipush (pc := 13) C dX2_hasRoom_13 jb_60 ?_
    refine h_icmp_ge (pc := 15) (tgt := 22) C dX2_hasRoom_15 (by decide) (fun q => ?_) (fun q => ?_)
    · replace hf := jif_t q hf
      clear q
      refine h_iconst (pc := 22) C dX2_hasRoom_22 jc_0 ?_
      have g0 := (Option.some.inj hf)
      clear hf
      subst g0
      exact h_zret C hr rfl dX2_hasRoom_23
    · replace hf := jif_f q hf
      clear q
      refine h_iconst (pc := 18) C dX2_hasRoom_18 jc_1 ?_
      refine h_goto (pc := 19) (tgt := 23) C dX2_hasRoom_19 (by decide) ?_
      have g0 := (Option.some.inj hf)
      clear hf
      subst g0
      exact h_zret C hr rfl dX2_hasRoom_23
theorem pv_X2_hasRoom : yX2_hasRoom.cls = RX2 ∧ yX2_hasRoom.cls ≠ "java/lang/invoke/MethodHandle" ∧ yX2_hasRoom.cls ≠ "java/lang/invoke/VarHandle" ∧ (parseMethodDescriptor yX2_hasRoom.desc).map (fun d => d.parameters.length) = some 0 := by decide +kernel
abbrev rmX2_has : Room := { frames := 0, cells := 0, slots := 0, locals := 0 }
theorem uX2_has_X2 : ∀ w ∈ u_ws RX2 TX2 6, w ∈ wsX2_has := fun w h => List.mem_cons_of_mem _ (List.mem_append_right _ h)
set_option maxRecDepth 100000 in
set_option maxHeartbeats 4000000 in
theorem c_X2_has (l : Launch) (D : va_G) (cT : Nat → ClassId) (ad : Nat → Nat) (n : Nat) (areas : Nat → Int32) (keys : Nat → Int32) (there : Nat → Int32) (order : Nat → Int32) (added : Int32) (size : Int32) (a1 : Int32) (r : Int32) (hf : f_X2_has n there a1 = some r) : cM l yX2_has wsX2_has rmX2_has D (ty4 cT) [.ref (ad 1), .int a1] (wS cT ad areas keys there order added size) (some (.int r)) (wS cT ad areas keys there order added size) := by
  refine cM_of (cc := cX2_has) (maxL := 2) (ret := (some .boolean)) (own := RX2) (lv := [(0, .ref (ad 1)), (1, .int a1)]) (by decide) rfl (Nat.le_of_ble_eq_true rfl) rfl rfl ?_
  intro p e s m args below meth c A C hr
  unfold f_X2_has at hf
  refine h_iload_n (pc := 0) C dX2_has_0 rfl 1 rfl ?_
  refine h_if_lt (pc := 1) (tgt := 26) C dX2_has_1 (by decide) (fun q => ?_) (fun q => ?_)
  · replace hf := jif_t q hf
    clear q
    refine h_iconst (pc := 26) C dX2_has_26 jc_0 ?_
    have g0 := (Option.some.inj hf)
    clear hf
    subst g0
    exact h_zret C hr rfl dX2_has_27
  · replace hf := jif_f q hf
    clear q
    refine h_iload_n (pc := 4) C dX2_has_4 rfl 1 rfl ?_
    refine h_aload_n (pc := 5) C dX2_has_5 rfl 0 rfl ?_
    refine h_get (pc := 6) (ci := 0) (C0 := RX2) (T := TX2) (N := 6) C uX2_has_X2 rfl 0 rfl 2 (by decide) (List.mem_of_getElem? (i := 1) rfl) rfl rfl dX2_has_6 ?_
    refine h_alen (pc := 9) (v := 100) C 3 1 rfl rfl (by decide) dX2_has_9 ?_
    refine h_icmp_ge (pc := 10) (tgt := 26) C dX2_has_10 (by decide) (fun q => ?_) (fun q => ?_)
    · replace hf := jif_t q hf
      clear q
      refine h_iconst (pc := 26) C dX2_has_26 jc_0 ?_
      have g0 := (Option.some.inj hf)
      clear hf
      subst g0
      exact h_zret C hr rfl dX2_has_27
    · replace hf := jif_f q hf
      clear q
      refine h_aload_n (pc := 13) C dX2_has_13 rfl 0 rfl ?_
      refine h_get (pc := 14) (ci := 0) (C0 := RX2) (T := TX2) (N := 6) C uX2_has_X2 rfl 0 rfl 2 (by decide) (List.mem_of_getElem? (i := 1) rfl) rfl rfl dX2_has_14 ?_
      refine h_iload_n (pc := 17) C dX2_has_17 rfl 1 rfl ?_
      obtain ⟨hi, v1, hv, hf⟩ := jrd_s hf
      refine h_zald (pc := 18) C 3 1 rfl rfl hi hv dX2_has_18 ?_
      clear hi hv
      refine h_if_eq (pc := 19) (tgt := 26) C dX2_has_19 (by decide) (fun q => ?_) (fun q => ?_)
      · replace hf := jif_t q hf
        clear q
        refine h_iconst (pc := 26) C dX2_has_26 jc_0 ?_
        have g0 := (Option.some.inj hf)
        clear hf
        subst g0
        exact h_zret C hr rfl dX2_has_27
      · replace hf := jif_f q hf
        clear q
        refine h_iconst (pc := 22) C dX2_has_22 jc_1 ?_
        refine h_goto (pc := 23) (tgt := 27) C dX2_has_23 (by decide) ?_
        have g0 := (Option.some.inj hf)
        clear hf
        subst g0
        exact h_zret C hr rfl dX2_has_27
theorem pv_X2_has : yX2_has.cls = RX2 ∧ yX2_has.cls ≠ "java/lang/invoke/MethodHandle" ∧ yX2_has.cls ≠ "java/lang/invoke/VarHandle" ∧ (parseMethodDescriptor yX2_has.desc).map (fun d => d.parameters.length) = some 1 := by decide +kernel
abbrev rmX2_areaOf : Room := { frames := 0, cells := 0, slots := 0, locals := 0 }
theorem uX2_areaOf_X2 : ∀ w ∈ u_ws RX2 TX2 6, w ∈ wsX2_areaOf := fun w h => List.mem_cons_of_mem _ (List.mem_append_right _ h)
set_option maxRecDepth 100000 in
set_option maxHeartbeats 4000000 in
theorem c_X2_areaOf (l : Launch) (D : va_G) (cT : Nat → ClassId) (ad : Nat → Nat) (n : Nat) (areas : Nat → Int32) (keys : Nat → Int32) (there : Nat → Int32) (order : Nat → Int32) (added : Int32) (size : Int32) (a1 : Int32) (r : Int32) (hf : f_X2_areaOf n areas a1 = some r) : cM l yX2_areaOf wsX2_areaOf rmX2_areaOf D (ty4 cT) [.ref (ad 1), .int a1] (wS cT ad areas keys there order added size) (some (.int r)) (wS cT ad areas keys there order added size) := by
  refine cM_of (cc := cX2_areaOf) (maxL := 2) (ret := (some .int)) (own := RX2) (lv := [(0, .ref (ad 1)), (1, .int a1)]) (by decide) rfl (Nat.le_of_ble_eq_true rfl) rfl rfl ?_
  intro p e s m args below meth c A C hr
  unfold f_X2_areaOf at hf
  refine h_iload_n (pc := 0) C dX2_areaOf_0 rfl 1 rfl ?_
  refine h_if_lt (pc := 1) (tgt := 22) C dX2_areaOf_1 (by decide) (fun q => ?_) (fun q => ?_)
  · replace hf := jif_t q hf
    clear q
    refine h_iconst (pc := 22) C dX2_areaOf_22 jc_0 ?_
    have g0 := (Option.some.inj hf)
    clear hf
    subst g0
    exact h_iret C hr dX2_areaOf_23
  · replace hf := jif_f q hf
    clear q
    refine h_iload_n (pc := 4) C dX2_areaOf_4 rfl 1 rfl ?_
    refine h_aload_n (pc := 5) C dX2_areaOf_5 rfl 0 rfl ?_
    refine h_get (pc := 6) (ci := 0) (C0 := RX2) (T := TX2) (N := 6) C uX2_areaOf_X2 rfl 0 rfl 0 (by decide) (List.mem_of_getElem? (i := 1) rfl) rfl rfl dX2_areaOf_6 ?_
    refine h_alen (pc := 9) (v := 100) C 1 0 rfl rfl (by decide) dX2_areaOf_9 ?_
    refine h_icmp_ge (pc := 10) (tgt := 22) C dX2_areaOf_10 (by decide) (fun q => ?_) (fun q => ?_)
    · replace hf := jif_t q hf
      clear q
      refine h_iconst (pc := 22) C dX2_areaOf_22 jc_0 ?_
      have g0 := (Option.some.inj hf)
      clear hf
      subst g0
      exact h_iret C hr dX2_areaOf_23
    · replace hf := jif_f q hf
      clear q
      refine h_aload_n (pc := 13) C dX2_areaOf_13 rfl 0 rfl ?_
      refine h_get (pc := 14) (ci := 0) (C0 := RX2) (T := TX2) (N := 6) C uX2_areaOf_X2 rfl 0 rfl 0 (by decide) (List.mem_of_getElem? (i := 1) rfl) rfl rfl dX2_areaOf_14 ?_
      refine h_iload_n (pc := 17) C dX2_areaOf_17 rfl 1 rfl ?_
      obtain ⟨hi, v1, hv, hf⟩ := jrd_s hf
      refine h_iald (pc := 18) C 1 0 rfl rfl hi hv dX2_areaOf_18 ?_
      clear hi hv
      refine h_goto (pc := 19) (tgt := 23) C dX2_areaOf_19 (by decide) ?_
      have g0 := (Option.some.inj hf)
      clear hf
      subst g0
      exact h_iret C hr dX2_areaOf_23
theorem pv_X2_areaOf : yX2_areaOf.cls = RX2 ∧ yX2_areaOf.cls ≠ "java/lang/invoke/MethodHandle" ∧ yX2_areaOf.cls ≠ "java/lang/invoke/VarHandle" ∧ (parseMethodDescriptor yX2_areaOf.desc).map (fun d => d.parameters.length) = some 1 := by decide +kernel
abbrev rmX2_keyFor : Room := { frames := 0, cells := 0, slots := 0, locals := 0 }
theorem uX2_keyFor_X2 : ∀ w ∈ u_ws RX2 TX2 6, w ∈ wsX2_keyFor := fun w h => List.mem_cons_of_mem _ (List.mem_append_right _ h)
set_option maxRecDepth 100000 in
set_option maxHeartbeats 4000000 in
theorem c_X2_keyFor (l : Launch) (D : va_G) (cT : Nat → ClassId) (ad : Nat → Nat) (n : Nat) (areas : Nat → Int32) (keys : Nat → Int32) (there : Nat → Int32) (order : Nat → Int32) (added : Int32) (size : Int32) (a1 : Int32) (r : Int32) (hf : f_X2_keyFor n keys a1 = some r) : cM l yX2_keyFor wsX2_keyFor rmX2_keyFor D (ty4 cT) [.ref (ad 1), .int a1] (wS cT ad areas keys there order added size) (some (.int r)) (wS cT ad areas keys there order added size) := by
  refine cM_of (cc := cX2_keyFor) (maxL := 2) (ret := (some .int)) (own := RX2) (lv := [(0, .ref (ad 1)), (1, .int a1)]) (by decide) rfl (Nat.le_of_ble_eq_true rfl) rfl rfl ?_
  intro p e s m args below meth c A C hr
  unfold f_X2_keyFor at hf
  refine h_iload_n (pc := 0) C dX2_keyFor_0 rfl 1 rfl ?_
  refine h_if_lt (pc := 1) (tgt := 22) C dX2_keyFor_1 (by decide) (fun q => ?_) (fun q => ?_)
  · replace hf := jif_t q hf
    clear q
    refine h_iconst (pc := 22) C dX2_keyFor_22 jc_0 ?_
    have g0 := (Option.some.inj hf)
    clear hf
    subst g0
    exact h_iret C hr dX2_keyFor_23
  · replace hf := jif_f q hf
    clear q
    refine h_iload_n (pc := 4) C dX2_keyFor_4 rfl 1 rfl ?_
    refine h_aload_n (pc := 5) C dX2_keyFor_5 rfl 0 rfl ?_
    refine h_get (pc := 6) (ci := 0) (C0 := RX2) (T := TX2) (N := 6) C uX2_keyFor_X2 rfl 0 rfl 1 (by decide) (List.mem_of_getElem? (i := 1) rfl) rfl rfl dX2_keyFor_6 ?_
    refine h_alen (pc := 9) (v := 100) C 2 0 rfl rfl (by decide) dX2_keyFor_9 ?_
    refine h_icmp_ge (pc := 10) (tgt := 22) C dX2_keyFor_10 (by decide) (fun q => ?_) (fun q => ?_)
    · replace hf := jif_t q hf
      clear q
      refine h_iconst (pc := 22) C dX2_keyFor_22 jc_0 ?_
      have g0 := (Option.some.inj hf)
      clear hf
      subst g0
      exact h_iret C hr dX2_keyFor_23
    · replace hf := jif_f q hf
      clear q
      refine h_aload_n (pc := 13) C dX2_keyFor_13 rfl 0 rfl ?_
      refine h_get (pc := 14) (ci := 0) (C0 := RX2) (T := TX2) (N := 6) C uX2_keyFor_X2 rfl 0 rfl 1 (by decide) (List.mem_of_getElem? (i := 1) rfl) rfl rfl dX2_keyFor_14 ?_
      refine h_iload_n (pc := 17) C dX2_keyFor_17 rfl 1 rfl ?_
      obtain ⟨hi, v1, hv, hf⟩ := jrd_s hf
      refine h_iald (pc := 18) C 2 0 rfl rfl hi hv dX2_keyFor_18 ?_
      clear hi hv
      refine h_goto (pc := 19) (tgt := 23) C dX2_keyFor_19 (by decide) ?_
      have g0 := (Option.some.inj hf)
      clear hf
      subst g0
      exact h_iret C hr dX2_keyFor_23
theorem pv_X2_keyFor : yX2_keyFor.cls = RX2 ∧ yX2_keyFor.cls ≠ "java/lang/invoke/MethodHandle" ∧ yX2_keyFor.cls ≠ "java/lang/invoke/VarHandle" ∧ (parseMethodDescriptor yX2_keyFor.desc).map (fun d => d.parameters.length) = some 1 := by decide +kernel
abbrev rmX2_numberAt : Room := { frames := 0, cells := 0, slots := 0, locals := 0 }
theorem uX2_numberAt_X2 : ∀ w ∈ u_ws RX2 TX2 6, w ∈ wsX2_numberAt := fun w h => List.mem_cons_of_mem _ (List.mem_append_right _ h)
set_option maxRecDepth 100000 in
set_option maxHeartbeats 4000000 in
theorem c_X2_numberAt (l : Launch) (D : va_G) (cT : Nat → ClassId) (ad : Nat → Nat) (n : Nat) (areas : Nat → Int32) (keys : Nat → Int32) (there : Nat → Int32) (order : Nat → Int32) (added : Int32) (size : Int32) (a1 : Int32) (r : Int32) (hf : f_X2_numberAt n order size a1 = some r) : cM l yX2_numberAt wsX2_numberAt rmX2_numberAt D (ty4 cT) [.ref (ad 1), .int a1] (wS cT ad areas keys there order added size) (some (.int r)) (wS cT ad areas keys there order added size) := by
  refine cM_of (cc := cX2_numberAt) (maxL := 2) (ret := (some .int)) (own := RX2) (lv := [(0, .ref (ad 1)), (1, .int a1)]) (by decide) rfl (Nat.le_of_ble_eq_true rfl) rfl rfl ?_
  intro p e s m args below meth c A C hr
  unfold f_X2_numberAt at hf
  refine h_iload_n (pc := 0) C dX2_numberAt_0 rfl 1 rfl ?_
  refine h_if_lt (pc := 1) (tgt := 30) C dX2_numberAt_1 (by decide) (fun q => ?_) (fun q => ?_)
  · replace hf := jif_t q hf
    clear q
    refine h_iconst (pc := 30) C dX2_numberAt_30 jc_m1 ?_
    have g0 := (Option.some.inj hf)
    clear hf
    subst g0
    exact h_iret C hr dX2_numberAt_31
  · replace hf := jif_f q hf
    clear q
    refine h_iload_n (pc := 4) C dX2_numberAt_4 rfl 1 rfl ?_
    refine h_aload_n (pc := 5) C dX2_numberAt_5 rfl 0 rfl ?_
    refine h_get (pc := 6) (ci := 0) (C0 := RX2) (T := TX2) (N := 6) C uX2_numberAt_X2 rfl 0 rfl 3 (by decide) (List.mem_of_getElem? (i := 1) rfl) rfl rfl dX2_numberAt_6 ?_
    refine h_alen (pc := 9) (v := 60) C 4 0 rfl rfl (by decide) dX2_numberAt_9 ?_
    refine h_icmp_ge (pc := 10) (tgt := 30) C dX2_numberAt_10 (by decide) (fun q => ?_) (fun q => ?_)
    · replace hf := jif_t q hf
      clear q
      refine h_iconst (pc := 30) C dX2_numberAt_30 jc_m1 ?_
      have g0 := (Option.some.inj hf)
      clear hf
      subst g0
      exact h_iret C hr dX2_numberAt_31
    · replace hf := jif_f q hf
      clear q
      refine h_iload_n (pc := 13) C dX2_numberAt_13 rfl 1 rfl ?_
      refine h_aload_n (pc := 14) C dX2_numberAt_14 rfl 0 rfl ?_
      refine h_get (pc := 15) (ci := 0) (C0 := RX2) (T := TX2) (N := 6) C uX2_numberAt_X2 rfl 0 rfl 5 (by decide) (List.mem_of_getElem? (i := 2) rfl) rfl rfl dX2_numberAt_15 ?_
      refine h_icmp_ge (pc := 18) (tgt := 30) C dX2_numberAt_18 (by decide) (fun q => ?_) (fun q => ?_)
      · replace hf := jif_t q hf
        clear q
        refine h_iconst (pc := 30) C dX2_numberAt_30 jc_m1 ?_
        have g0 := (Option.some.inj hf)
        clear hf
        subst g0
        exact h_iret C hr dX2_numberAt_31
      · replace hf := jif_f q hf
        clear q
        refine h_aload_n (pc := 21) C dX2_numberAt_21 rfl 0 rfl ?_
        refine h_get (pc := 22) (ci := 0) (C0 := RX2) (T := TX2) (N := 6) C uX2_numberAt_X2 rfl 0 rfl 3 (by decide) (List.mem_of_getElem? (i := 1) rfl) rfl rfl dX2_numberAt_22 ?_
        refine h_iload_n (pc := 25) C dX2_numberAt_25 rfl 1 rfl ?_
        obtain ⟨hi, v1, hv, hf⟩ := jrd_s hf
        refine h_iald (pc := 26) C 4 0 rfl rfl hi hv dX2_numberAt_26 ?_
        clear hi hv
        refine h_goto (pc := 27) (tgt := 31) C dX2_numberAt_27 (by decide) ?_
        have g0 := (Option.some.inj hf)
        clear hf
        subst g0
        exact h_iret C hr dX2_numberAt_31
theorem pv_X2_numberAt : yX2_numberAt.cls = RX2 ∧ yX2_numberAt.cls ≠ "java/lang/invoke/MethodHandle" ∧ yX2_numberAt.cls ≠ "java/lang/invoke/VarHandle" ∧ (parseMethodDescriptor yX2_numberAt.desc).map (fun d => d.parameters.length) = some 1 := by decide +kernel
abbrev rmX2_areaAt : Room := { frames := 1, cells := 0, slots := 0, locals := 21 }
set_option maxRecDepth 100000 in
set_option maxHeartbeats 4000000 in
theorem c_X2_areaAt (l : Launch) (D : va_G) (cT : Nat → ClassId) (ad : Nat → Nat) (n : Nat) (areas : Nat → Int32) (keys : Nat → Int32) (there : Nat → Int32) (order : Nat → Int32) (added : Int32) (size : Int32) (a1 : Int32) (r : Int32) (hf : f_X2_areaAt n areas order size a1 = some r) : cM l yX2_areaAt wsX2_areaAt rmX2_areaAt D (ty4 cT) [.ref (ad 1), .int a1] (wS cT ad areas keys there order added size) (some (.int r)) (wS cT ad areas keys there order added size) := by
  refine cM_of (cc := cX2_areaAt) (maxL := 2) (ret := (some .int)) (own := RX2) (lv := [(0, .ref (ad 1)), (1, .int a1)]) (by decide) rfl (Nat.le_of_ble_eq_true rfl) rfl rfl ?_
  intro p e s m args below meth c A C hr
  unfold f_X2_areaAt at hf
  refine h_aload_n (pc := 0) C dX2_areaAt_0 rfl 0 rfl ?_
  refine h_aload_n (pc := 1) C dX2_areaAt_1 rfl 0 rfl ?_
  refine h_iload_n (pc := 2) C dX2_areaAt_2 rfl 1 rfl ?_
  obtain ⟨v1, hc, hf⟩ := jbd_s hf
  refine h_callV (pc := 3) (q0 := 0) (As := [.int a1]) (rest := .ref (ad 1) :: []) (ws' := (wS cT ad areas keys there order added size)) (st2 := .int v1 :: .ref (ad 1) :: []) C (c_X2_numberAt l D cT ad n areas keys there order added size a1 v1 hc) (cwV 1 C.1.2.2.2.2 gX2_areaAt_X2_numberAt rfl rfl rfl pv_X2_numberAt ⟨(Nat.le_of_ble_eq_true rfl), (Nat.le_of_ble_eq_true rfl)⟩) dX2_areaAt_3 rfl rfl rfl rfl rfl (Nat.le_of_ble_eq_true rfl) ⟨rfl, rfl⟩ ⟨(Nat.le_of_ble_eq_true rfl), (Nat.le_of_ble_eq_true rfl)⟩ [0, 1, 2, 3, 4] [] [0, 1, 2, 3, 4] rfl rfl rfl rfl (by decide) rfl rfl rfl ?_
  clear hc
  obtain ⟨v2, hc, hf⟩ := jbd_s hf
  refine h_callV (pc := 6) (q0 := 0) (As := [.int v1]) (rest := []) (ws' := (wS cT ad areas keys there order added size)) (st2 := .int v2 :: []) C (c_X2_areaOf l D cT ad n areas keys there order added size v1 v2 hc) (cwV 1 C.1.2.2.2.2 gX2_areaAt_X2_areaOf rfl rfl rfl pv_X2_areaOf ⟨(Nat.le_of_ble_eq_true rfl), (Nat.le_of_ble_eq_true rfl)⟩) dX2_areaAt_6 rfl rfl rfl rfl rfl (Nat.le_of_ble_eq_true rfl) ⟨rfl, rfl⟩ ⟨(Nat.le_of_ble_eq_true rfl), (Nat.le_of_ble_eq_true rfl)⟩ [0, 1, 2, 3, 4] [] [0, 1, 2, 3, 4] rfl rfl rfl rfl (by decide) rfl rfl rfl ?_
  clear hc
  have g0 := (Option.some.inj hf)
  clear hf
  subst g0
  exact h_iret C hr dX2_areaAt_9
theorem pv_X2_areaAt : yX2_areaAt.cls = RX2 ∧ yX2_areaAt.cls ≠ "java/lang/invoke/MethodHandle" ∧ yX2_areaAt.cls ≠ "java/lang/invoke/VarHandle" ∧ (parseMethodDescriptor yX2_areaAt.desc).map (fun d => d.parameters.length) = some 1 := by decide +kernel
abbrev rmX2_placeOf : Room := { frames := 1, cells := 0, slots := 0, locals := 21 }
theorem uX2_placeOf_X2 : ∀ w ∈ u_ws RX2 TX2 6, w ∈ wsX2_placeOf := fun w h => List.mem_cons_of_mem _ (List.mem_append_right _ h)
set_option maxRecDepth 100000 in
set_option maxHeartbeats 4000000 in
theorem k_X2_placeOf_2 {p : Program} {e : Env} {s : State} {m : MethodId} {args : Array Value} {below : List Frame} {meth : Method} {c : Code} {A : Nat → Prop} (l : Launch) (D : va_G) (cT : Nat → ClassId) (ad : Nat → Nat) (C : hC p s m args meth c cX2_placeOf 3 wsX2_placeOf RX2 D (ty4 cT) A) (hr : meth.sig.returnType = (some .int)) (n : Nat) (areas : Nat → Int32) (keys : Nat → Int32) (there : Nat → Int32) (order : Nat → Int32) (added : Int32) (size : Int32) (r : Int32)  : ∀ (fu : Nat)  (x1 : Int32) (x2 : Int32), f_X2_placeOf_2 n order size fu x1 x2 = some r → hS p l e rmX2_placeOf s m args below meth c 3 D A 0 0 (MQ below (cQ D (ty4 cT) A (some (.int r)) (wS cT ad areas keys there order added size)) args s 0 0 A) 2 [(0, .ref (ad 1)), (1, .int x1), (2, .int x2)] [] (wS cT ad areas keys there order added size) := by
  intro fu
  induction fu with
  | zero =>
    intro x1 x2 hf
    exact nomatch (show (none : Option (Int32)) = some r from hf)
  | succ fu ih =>
    intro x1 x2 hf
    rw [f_X2_placeOf_2] at hf
    refine h_iload_n (pc := 2) C dX2_placeOf_2 rfl 2 rfl ?_
    refine h_aload_n (pc := 3) C dX2_placeOf_3 rfl 0 rfl ?_
    refine h_get (pc := 4) (ci := 0) (C0 := RX2) (T := TX2) (N := 6) C uX2_placeOf_X2 rfl 0 rfl 5 (by decide) (List.mem_of_getElem? (i := 1) rfl) rfl rfl dX2_placeOf_4 ?_
    refine h_icmp_ge (pc := 7) (tgt := 27) C dX2_placeOf_7 (by decide) (fun q => ?_) (fun q => ?_)
    · replace hf := jif_t q hf
      clear q
      refine h_iconst (pc := 27) C dX2_placeOf_27 jc_m1 ?_
      have g0 := (Option.some.inj hf)
      clear hf
      subst g0
      exact h_iret C hr dX2_placeOf_28
    · replace hf := jif_f q hf
      clear q
      refine h_aload_n (pc := 10) C dX2_placeOf_10 rfl 0 rfl ?_
      refine h_iload_n (pc := 11) C dX2_placeOf_11 rfl 2 rfl ?_
      obtain ⟨v1, hc, hf⟩ := jbd_s hf
      refine h_callV (pc := 12) (q0 := 0) (As := [.int x2]) (rest := []) (ws' := (wS cT ad areas keys there order added size)) (st2 := .int v1 :: []) C (c_X2_numberAt l D cT ad n areas keys there order added size x2 v1 hc) (cwV 1 C.1.2.2.2.2 gX2_placeOf_X2_numberAt rfl rfl rfl pv_X2_numberAt ⟨(Nat.le_of_ble_eq_true rfl), (Nat.le_of_ble_eq_true rfl)⟩) dX2_placeOf_12 rfl rfl rfl rfl rfl (Nat.le_of_ble_eq_true rfl) ⟨rfl, rfl⟩ ⟨(Nat.le_of_ble_eq_true rfl), (Nat.le_of_ble_eq_true rfl)⟩ [0, 1, 2, 3, 4] [] [0, 1, 2, 3, 4] rfl rfl rfl rfl (by decide) rfl rfl rfl ?_
      clear hc
      refine h_iload_n (pc := 15) C dX2_placeOf_15 rfl 1 rfl ?_
      refine h_icmp_ne (pc := 16) (tgt := 21) C dX2_placeOf_16 (by decide) (fun q => ?_) (fun q => ?_)
      · replace hf := jif_f q hf
        clear q
        refine h_iinc (pc := 21) (v := x2 + 1) (lv' := [(2, .int (x2 + 1)), (0, .ref (ad 1)), (1, .int x1)]) C dX2_placeOf_21 2 rfl (ji_1 _) (by decide) rfl ?_
        refine h_goto (pc := 24) (tgt := 2) C dX2_placeOf_24 (by decide) ?_
        refine h_sub [1, 2, 0] rfl ?_
        exact ih x1 (x2 + 1) hf
      · replace hf := jif_t q hf
        clear q
        refine h_iload_n (pc := 19) C dX2_placeOf_19 rfl 2 rfl ?_
        have g0 := (Option.some.inj hf)
        clear hf
        subst g0
        exact h_iret C hr dX2_placeOf_20
set_option maxRecDepth 100000 in
set_option maxHeartbeats 4000000 in
theorem c_X2_placeOf (l : Launch) (D : va_G) (cT : Nat → ClassId) (ad : Nat → Nat) (n : Nat) (areas : Nat → Int32) (keys : Nat → Int32) (there : Nat → Int32) (order : Nat → Int32) (added : Int32) (size : Int32) (a1 : Int32) (r : Int32) (hf : f_X2_placeOf n order size a1 = some r) : cM l yX2_placeOf wsX2_placeOf rmX2_placeOf D (ty4 cT) [.ref (ad 1), .int a1] (wS cT ad areas keys there order added size) (some (.int r)) (wS cT ad areas keys there order added size) := by
  refine cM_of (cc := cX2_placeOf) (maxL := 3) (ret := (some .int)) (own := RX2) (lv := [(0, .ref (ad 1)), (1, .int a1)]) (by decide) rfl (Nat.le_of_ble_eq_true rfl) rfl rfl ?_
  intro p e s m args below meth c A C hr
  unfold f_X2_placeOf at hf
  refine h_iconst (pc := 0) C dX2_placeOf_0 jc_0 ?_
  refine h_istore_n (pc := 1) (lv' := [(2, .int 0), (0, .ref (ad 1)), (1, .int a1)]) C dX2_placeOf_1 rfl (by decide) rfl ?_
  refine h_sub [1, 2, 0] rfl ?_
  exact k_X2_placeOf_2 l D cT ad C hr n areas keys there order added size r n a1 0 hf
theorem pv_X2_placeOf : yX2_placeOf.cls = RX2 ∧ yX2_placeOf.cls ≠ "java/lang/invoke/MethodHandle" ∧ yX2_placeOf.cls ≠ "java/lang/invoke/VarHandle" ∧ (parseMethodDescriptor yX2_placeOf.desc).map (fun d => d.parameters.length) = some 1 := by decide +kernel
abbrev rmX2_haveMet : Room := { frames := 2, cells := 0, slots := 0, locals := 42 }
set_option maxRecDepth 100000 in
set_option maxHeartbeats 4000000 in
theorem c_X2_haveMet (l : Launch) (D : va_G) (cT : Nat → ClassId) (ad : Nat → Nat) (n : Nat) (areas : Nat → Int32) (keys : Nat → Int32) (there : Nat → Int32) (order : Nat → Int32) (added : Int32) (size : Int32) (a1 : Int32) (a2 : Int32) (r : Int32) (hf : f_X2_haveMet n areas there a1 a2 = some r) : cM l yX2_haveMet wsX2_haveMet rmX2_haveMet D (ty4 cT) [.ref (ad 1), .int a1, .int a2] (wS cT ad areas keys there order added size) (some (.int r)) (wS cT ad areas keys there order added size) := by
  refine cM_of (cc := cX2_haveMet) (maxL := 3) (ret := (some .boolean)) (own := RX2) (lv := [(0, .ref (ad 1)), (1, .int a1), (2, .int a2)]) (by decide) rfl (Nat.le_of_ble_eq_true rfl) rfl rfl ?_
  intro p e s m args below meth c A C hr
  unfold f_X2_haveMet at hf
  refine h_aload_n (pc := 0) C dX2_haveMet_0 rfl 0 rfl ?_
  refine h_iload_n (pc := 1) C dX2_haveMet_1 rfl 1 rfl ?_
  obtain ⟨v1, hc, hf⟩ := jbd_s hf
  refine h_callV (pc := 2) (q0 := 0) (As := [.int a1]) (rest := []) (ws' := (wS cT ad areas keys there order added size)) (st2 := .int v1 :: []) C (c_X2_has l D cT ad n areas keys there order added size a1 v1 hc) (cwV 1 C.1.2.2.2.2 gX2_haveMet_X2_has rfl rfl rfl pv_X2_has ⟨(Nat.le_of_ble_eq_true rfl), (Nat.le_of_ble_eq_true rfl)⟩) dX2_haveMet_2 rfl rfl rfl rfl rfl (Nat.le_of_ble_eq_true rfl) ⟨rfl, rfl⟩ ⟨(Nat.le_of_ble_eq_true rfl), (Nat.le_of_ble_eq_true rfl)⟩ [0, 1, 2, 3, 4] [] [0, 1, 2, 3, 4] rfl rfl rfl rfl (by decide) rfl rfl rfl ?_
  clear hc
  refine h_if_eq (pc := 5) (tgt := 36) C dX2_haveMet_5 (by decide) (fun q => ?_) (fun q => ?_)
  · replace hf := jif_t q hf
    clear q
    refine h_iconst (pc := 36) C dX2_haveMet_36 jc_0 ?_
    have g0 := (Option.some.inj hf)
    clear hf
    subst g0
    exact h_zret C hr rfl dX2_haveMet_37
  · replace hf := jif_f q hf
    clear q
    refine h_aload_n (pc := 8) C dX2_haveMet_8 rfl 0 rfl ?_
    refine h_iload_n (pc := 9) C dX2_haveMet_9 rfl 2 rfl ?_
    obtain ⟨v2, hc, hf⟩ := jbd_s hf
    refine h_callV (pc := 10) (q0 := 0) (As := [.int a2]) (rest := []) (ws' := (wS cT ad areas keys there order added size)) (st2 := .int v2 :: []) C (c_X2_has l D cT ad n areas keys there order added size a2 v2 hc) (cwV 1 C.1.2.2.2.2 gX2_haveMet_X2_has rfl rfl rfl pv_X2_has ⟨(Nat.le_of_ble_eq_true rfl), (Nat.le_of_ble_eq_true rfl)⟩) dX2_haveMet_10 rfl rfl rfl rfl rfl (Nat.le_of_ble_eq_true rfl) ⟨rfl, rfl⟩ ⟨(Nat.le_of_ble_eq_true rfl), (Nat.le_of_ble_eq_true rfl)⟩ [0, 1, 2, 3, 4] [] [0, 1, 2, 3, 4] rfl rfl rfl rfl (by decide) rfl rfl rfl ?_
    clear hc
    refine h_if_eq (pc := 13) (tgt := 36) C dX2_haveMet_13 (by decide) (fun q => ?_) (fun q => ?_)
    · replace hf := jif_t q hf
      clear q
      refine h_iconst (pc := 36) C dX2_haveMet_36 jc_0 ?_
      have g0 := (Option.some.inj hf)
      clear hf
      subst g0
      exact h_zret C hr rfl dX2_haveMet_37
    · replace hf := jif_f q hf
      clear q
      refine h_aload_n (pc := 16) C dX2_haveMet_16 rfl 0 rfl ?_
      refine h_iload_n (pc := 17) C dX2_haveMet_17 rfl 1 rfl ?_
      obtain ⟨v3, hc, hf⟩ := jbd_s hf
      refine h_callV (pc := 18) (q0 := 0) (As := [.int a1]) (rest := []) (ws' := (wS cT ad areas keys there order added size)) (st2 := .int v3 :: []) C (c_X2_areaOf l D cT ad n areas keys there order added size a1 v3 hc) (cwV 1 C.1.2.2.2.2 gX2_haveMet_X2_areaOf rfl rfl rfl pv_X2_areaOf ⟨(Nat.le_of_ble_eq_true rfl), (Nat.le_of_ble_eq_true rfl)⟩) dX2_haveMet_18 rfl rfl rfl rfl rfl (Nat.le_of_ble_eq_true rfl) ⟨rfl, rfl⟩ ⟨(Nat.le_of_ble_eq_true rfl), (Nat.le_of_ble_eq_true rfl)⟩ [0, 1, 2, 3, 4] [] [0, 1, 2, 3, 4] rfl rfl rfl rfl (by decide) rfl rfl rfl ?_
      clear hc
      refine h_aload_n (pc := 21) C dX2_haveMet_21 rfl 0 rfl ?_
      refine h_iload_n (pc := 22) C dX2_haveMet_22 rfl 2 rfl ?_
      obtain ⟨v4, hc, hf⟩ := jbd_s hf
      refine h_callV (pc := 23) (q0 := 0) (As := [.int a2]) (rest := .int v3 :: []) (ws' := (wS cT ad areas keys there order added size)) (st2 := .int v4 :: .int v3 :: []) C (c_X2_areaOf l D cT ad n areas keys there order added size a2 v4 hc) (cwV 1 C.1.2.2.2.2 gX2_haveMet_X2_areaOf rfl rfl rfl pv_X2_areaOf ⟨(Nat.le_of_ble_eq_true rfl), (Nat.le_of_ble_eq_true rfl)⟩) dX2_haveMet_23 rfl rfl rfl rfl rfl (Nat.le_of_ble_eq_true rfl) ⟨rfl, rfl⟩ ⟨(Nat.le_of_ble_eq_true rfl), (Nat.le_of_ble_eq_true rfl)⟩ [0, 1, 2, 3, 4] [] [0, 1, 2, 3, 4] rfl rfl rfl rfl (by decide) rfl rfl rfl ?_
      clear hc
      obtain ⟨v5, hc, hf⟩ := jbd_s hf
      refine h_callP (pc := 26) (As := [.int v3, .int v4]) (rest := []) (st2 := .int v5 :: []) C (c_X0_meet l D cT ad n v3 v4 v5 hc) (va_cwS 2 C.1.2.2.2.2 gX2_haveMet_X0_meet rfl rfl rfl ps_X0_meet ⟨(Nat.le_of_ble_eq_true rfl), (Nat.le_of_ble_eq_true rfl)⟩) dX2_haveMet_26 rfl rfl (Nat.le_of_ble_eq_true rfl) ⟨rfl, rfl⟩ ⟨(Nat.le_of_ble_eq_true rfl), (Nat.le_of_ble_eq_true rfl)⟩ rfl ?_
      clear hc
      refine h_if_eq (pc := 29) (tgt := 36) C dX2_haveMet_29 (by decide) (fun q => ?_) (fun q => ?_)
      · replace hf := jif_t q hf
        clear q
        refine h_iconst (pc := 36) C dX2_haveMet_36 jc_0 ?_
        have g0 := (Option.some.inj hf)
        clear hf
        subst g0
        exact h_zret C hr rfl dX2_haveMet_37
      · replace hf := jif_f q hf
        clear q
        refine h_iconst (pc := 32) C dX2_haveMet_32 jc_1 ?_
        refine h_goto (pc := 33) (tgt := 37) C dX2_haveMet_33 (by decide) ?_
        have g0 := (Option.some.inj hf)
        clear hf
        subst g0
        exact h_zret C hr rfl dX2_haveMet_37
theorem pv_X2_haveMet : yX2_haveMet.cls = RX2 ∧ yX2_haveMet.cls ≠ "java/lang/invoke/MethodHandle" ∧ yX2_haveMet.cls ≠ "java/lang/invoke/VarHandle" ∧ (parseMethodDescriptor yX2_haveMet.desc).map (fun d => d.parameters.length) = some 2 := by decide +kernel
abbrev rmX2_setOrder : Room := { frames := 0, cells := 0, slots := 0, locals := 0 }
theorem uX2_setOrder_X2 : ∀ w ∈ u_ws RX2 TX2 6, w ∈ wsX2_setOrder := fun w h => List.mem_cons_of_mem _ (List.mem_append_right _ h)
set_option maxRecDepth 100000 in
set_option maxHeartbeats 4000000 in
theorem c_X2_setOrder (l : Launch) (D : va_G) (cT : Nat → ClassId) (ad : Nat → Nat) (n : Nat) (areas : Nat → Int32) (keys : Nat → Int32) (there : Nat → Int32) (order : Nat → Int32) (added : Int32) (size : Int32) (a1 : Int32) (a2 : Int32) (order' : Nat → Int32) (hf : f_X2_setOrder n order a1 a2 = some order') : cM l yX2_setOrder wsX2_setOrder rmX2_setOrder D (ty4 cT) [.ref (ad 1), .int a1, .int a2] (wS cT ad areas keys there order added size) none (wS cT ad areas keys there order' added size) := by
  refine cM_of (cc := cX2_setOrder) (maxL := 3) (ret := none) (own := RX2) (lv := [(0, .ref (ad 1)), (1, .int a1), (2, .int a2)]) (by decide) rfl (Nat.le_of_ble_eq_true rfl) rfl rfl ?_
  intro p e s m args below meth c A C hr
  unfold f_X2_setOrder at hf
  refine h_iload_n (pc := 0) C dX2_setOrder_0 rfl 1 rfl ?_
  refine h_if_lt (pc := 1) (tgt := 20) C dX2_setOrder_1 (by decide) (fun q => ?_) (fun q => ?_)
  · replace hf := jif_t q hf
    clear q
    have g0 := (Option.some.inj hf)
    clear hf
    subst g0
    exact h_vret C hr dX2_setOrder_20
  · replace hf := jif_f q hf
    clear q
    refine h_iload_n (pc := 4) C dX2_setOrder_4 rfl 1 rfl ?_
    refine h_aload_n (pc := 5) C dX2_setOrder_5 rfl 0 rfl ?_
    refine h_get (pc := 6) (ci := 0) (C0 := RX2) (T := TX2) (N := 6) C uX2_setOrder_X2 rfl 0 rfl 3 (by decide) (List.mem_of_getElem? (i := 1) rfl) rfl rfl dX2_setOrder_6 ?_
    refine h_alen (pc := 9) (v := 60) C 4 0 rfl rfl (by decide) dX2_setOrder_9 ?_
    refine h_icmp_ge (pc := 10) (tgt := 20) C dX2_setOrder_10 (by decide) (fun q => ?_) (fun q => ?_)
    · replace hf := jif_t q hf
      clear q
      have g0 := (Option.some.inj hf)
      clear hf
      subst g0
      exact h_vret C hr dX2_setOrder_20
    · replace hf := jif_f q hf
      clear q
      refine h_aload_n (pc := 13) C dX2_setOrder_13 rfl 0 rfl ?_
      refine h_get (pc := 14) (ci := 0) (C0 := RX2) (T := TX2) (N := 6) C uX2_setOrder_X2 rfl 0 rfl 3 (by decide) (List.mem_of_getElem? (i := 1) rfl) rfl rfl dX2_setOrder_14 ?_
      refine h_iload_n (pc := 17) C dX2_setOrder_17 rfl 1 rfl ?_
      refine h_iload_n (pc := 18) C dX2_setOrder_18 rfl 2 rfl ?_
      obtain ⟨hi, w1, hv, hf⟩ := jwr_s hf
      refine h_iast (pc := 19) (ws' := (wS cT ad areas keys there w1 added size)) C 4 0 rfl rfl hi hv rfl dX2_setOrder_19 ?_
      clear hi hv
      have g0 := (Option.some.inj hf)
      clear hf
      subst g0
      exact h_vret C hr dX2_setOrder_20
theorem pv_X2_setOrder : yX2_setOrder.cls = RX2 ∧ yX2_setOrder.cls ≠ "java/lang/invoke/MethodHandle" ∧ yX2_setOrder.cls ≠ "java/lang/invoke/VarHandle" ∧ (parseMethodDescriptor yX2_setOrder.desc).map (fun d => d.parameters.length) = some 2 := by decide +kernel
abbrev rmX2_putInOrder : Room := { frames := 1, cells := 0, slots := 0, locals := 22 }
theorem uX2_putInOrder_X2 : ∀ w ∈ u_ws RX2 TX2 6, w ∈ wsX2_putInOrder := fun w h => List.mem_cons_of_mem _ (List.mem_append_right _ h)
set_option maxRecDepth 100000 in
set_option maxHeartbeats 4000000 in
theorem k_X2_putInOrder_50 {p : Program} {e : Env} {s : State} {m : MethodId} {args : Array Value} {below : List Frame} {meth : Method} {c : Code} {A : Nat → Prop} (l : Launch) (D : va_G) (cT : Nat → ClassId) (ad : Nat → Nat) (C : hC p s m args meth c cX2_putInOrder 4 wsX2_putInOrder RX2 D (ty4 cT) A) (hr : meth.sig.returnType = none) (n : Nat) (areas : Nat → Int32) (keys : Nat → Int32) (there : Nat → Int32) (added : Int32) (order' : Nat → Int32) (size' : Int32)  : ∀ (fu : Nat) (order : Nat → Int32) (size : Int32) (x1 : Int32) (x2 : Int32) (x3 : Int32), f_X2_putInOrder_50 n keys fu order size x1 x2 x3 = some (order', size') → hS p l e rmX2_putInOrder s m args below meth c 4 D A 0 0 (MQ below (cQ D (ty4 cT) A none (wS cT ad areas keys there order' added size')) args s 0 0 A) 50 [(0, .ref (ad 1)), (1, .int x1), (2, .int x2), (3, .int x3)] [] (wS cT ad areas keys there order added size) := by
  intro fu
  induction fu with
  | zero =>
    intro order size x1 x2 x3 hf
    exact nomatch (show (none : Option ((Nat → Int32) × Int32)) = some (order', size') from hf)
  | succ fu ih =>
    intro order size x1 x2 x3 hf
    rw [f_X2_putInOrder_50] at hf
    refine h_iload_n (pc := 50) C dX2_putInOrder_50 rfl 3 rfl ?_
    refine h_iload_n (pc := 51) C dX2_putInOrder_51 rfl 2 rfl ?_
    refine h_icmp_le (pc := 52) (tgt := 73) C dX2_putInOrder_52 (by decide) (fun q => ?_) (fun q => ?_)
    · replace hf := jif_t q hf
      clear q
      refine h_aload_n (pc := 73) C dX2_putInOrder_73 rfl 0 rfl ?_
      refine h_iload_n (pc := 74) C dX2_putInOrder_74 rfl 2 rfl ?_
      refine h_iload_n (pc := 75) C dX2_putInOrder_75 rfl 1 rfl ?_
      obtain ⟨v4, hc, hf⟩ := jbd_s hf
      refine h_callV (pc := 76) (q0 := 0) (As := [.int x2, .int x1]) (rest := []) (ws' := (wS cT ad areas keys there v4 added size)) (st2 := []) C (c_X2_setOrder l D cT ad n areas keys there order added size x2 x1 v4 hc) (cwV 2 C.1.2.2.2.2 gX2_putInOrder_X2_setOrder rfl rfl rfl pv_X2_setOrder ⟨(Nat.le_of_ble_eq_true rfl), (Nat.le_of_ble_eq_true rfl)⟩) dX2_putInOrder_76 rfl rfl rfl rfl rfl (Nat.le_of_ble_eq_true rfl) ⟨rfl, rfl⟩ ⟨(Nat.le_of_ble_eq_true rfl), (Nat.le_of_ble_eq_true rfl)⟩ [0, 1, 2, 3, 4] [] [0, 1, 2, 3, 4] rfl rfl rfl rfl (by decide) rfl rfl rfl ?_
      clear hc
      have g0 := (Prod.mk.inj (Option.some.inj hf)).1
      have g1 := (Prod.mk.inj (Option.some.inj hf)).2
      clear hf
      subst g0
      subst g1
      exact h_vret C hr dX2_putInOrder_79
    · replace hf := jif_f q hf
      clear q
      refine h_aload_n (pc := 55) C dX2_putInOrder_55 rfl 0 rfl ?_
      refine h_iload_n (pc := 56) C dX2_putInOrder_56 rfl 3 rfl ?_
      refine h_aload_n (pc := 57) C dX2_putInOrder_57 rfl 0 rfl ?_
      refine h_iload_n (pc := 58) C dX2_putInOrder_58 rfl 3 rfl ?_
      refine h_iconst (pc := 59) C dX2_putInOrder_59 jc_1 ?_
      refine h_isub (pc := 60) C dX2_putInOrder_60 ?_
      obtain ⟨v5, hc, hf⟩ := jbd_s hf
      refine h_callV (pc := 61) (q0 := 0) (As := [.int (x3 - 1)]) (rest := .int x3 :: .ref (ad 1) :: []) (ws' := (wS cT ad areas keys there order added size)) (st2 := .int v5 :: .int x3 :: .ref (ad 1) :: []) C (c_X2_numberAt l D cT ad n areas keys there order added size (x3 - 1) v5 hc) (cwV 1 C.1.2.2.2.2 gX2_putInOrder_X2_numberAt rfl rfl rfl pv_X2_numberAt ⟨(Nat.le_of_ble_eq_true rfl), (Nat.le_of_ble_eq_true rfl)⟩) dX2_putInOrder_61 rfl rfl rfl rfl rfl (Nat.le_of_ble_eq_true rfl) ⟨rfl, rfl⟩ ⟨(Nat.le_of_ble_eq_true rfl), (Nat.le_of_ble_eq_true rfl)⟩ [0, 1, 2, 3, 4] [] [0, 1, 2, 3, 4] rfl rfl rfl rfl (by decide) rfl rfl rfl ?_
      clear hc
      obtain ⟨v6, hc, hf⟩ := jbd_s hf
      refine h_callV (pc := 64) (q0 := 0) (As := [.int x3, .int v5]) (rest := []) (ws' := (wS cT ad areas keys there v6 added size)) (st2 := []) C (c_X2_setOrder l D cT ad n areas keys there order added size x3 v5 v6 hc) (cwV 2 C.1.2.2.2.2 gX2_putInOrder_X2_setOrder rfl rfl rfl pv_X2_setOrder ⟨(Nat.le_of_ble_eq_true rfl), (Nat.le_of_ble_eq_true rfl)⟩) dX2_putInOrder_64 rfl rfl rfl rfl rfl (Nat.le_of_ble_eq_true rfl) ⟨rfl, rfl⟩ ⟨(Nat.le_of_ble_eq_true rfl), (Nat.le_of_ble_eq_true rfl)⟩ [0, 1, 2, 3, 4] [] [0, 1, 2, 3, 4] rfl rfl rfl rfl (by decide) rfl rfl rfl ?_
      clear hc
      refine h_iinc (pc := 67) (v := x3 + jm1) (lv' := [(3, .int (x3 + jm1)), (0, .ref (ad 1)), (1, .int x1), (2, .int x2)]) C dX2_putInOrder_67 3 rfl (ji_m1 _) (by decide) rfl ?_
      refine h_goto (pc := 70) (tgt := 50) C dX2_putInOrder_70 (by decide) ?_
      refine h_sub [1, 2, 3, 0] rfl ?_
      exact ih v6 size x1 x2 (x3 + jm1) hf
set_option maxRecDepth 100000 in
set_option maxHeartbeats 4000000 in
theorem k_X2_putInOrder_33 {p : Program} {e : Env} {s : State} {m : MethodId} {args : Array Value} {below : List Frame} {meth : Method} {c : Code} {A : Nat → Prop} (l : Launch) (D : va_G) (cT : Nat → ClassId) (ad : Nat → Nat) (C : hC p s m args meth c cX2_putInOrder 4 wsX2_putInOrder RX2 D (ty4 cT) A) (hr : meth.sig.returnType = none) (n : Nat) (areas : Nat → Int32) (keys : Nat → Int32) (there : Nat → Int32) (added : Int32) (order' : Nat → Int32) (size' : Int32)  : ∀ (order : Nat → Int32) (size : Int32) (x1 : Int32) (x2 : Int32), f_X2_putInOrder_33 n keys order size x1 x2 = some (order', size') → hS p l e rmX2_putInOrder s m args below meth c 4 D A 0 0 (MQ below (cQ D (ty4 cT) A none (wS cT ad areas keys there order' added size')) args s 0 0 A) 33 [(0, .ref (ad 1)), (1, .int x1), (2, .int x2)] [] (wS cT ad areas keys there order added size) := by
  intro order size x1 x2 hf
  unfold f_X2_putInOrder_33 at hf
  refine h_aload_n (pc := 33) C dX2_putInOrder_33 rfl 0 rfl ?_
  refine h_dup (pc := 34) C dX2_putInOrder_34 rfl ?_
  refine h_get (pc := 35) (ci := 0) (C0 := RX2) (T := TX2) (N := 6) C uX2_putInOrder_X2 rfl 0 rfl 5 (by decide) (List.mem_of_getElem? (i := 1) rfl) rfl rfl dX2_putInOrder_35 ?_
  refine h_iconst (pc := 38) C dX2_putInOrder_38 jc_1 ?_
  refine h_iadd (pc := 39) C dX2_putInOrder_39 ?_
  refine h_put (pc := 40) (ci := 0) (C0 := RX2) (T := TX2) (N := 6) (ws' := (wS cT ad areas keys there order added (size + 1))) C uX2_putInOrder_X2 tyX2 tyX2_ok nmX2 rfl 0 rfl 5 (by decide) (List.mem_of_getElem? (i := 1) rfl) rfl rfl rfl (Nat.le_of_ble_eq_true rfl) rfl dX2_putInOrder_40 ?_
  refine h_aload_n (pc := 43) C dX2_putInOrder_43 rfl 0 rfl ?_
  refine h_get (pc := 44) (ci := 0) (C0 := RX2) (T := TX2) (N := 6) C uX2_putInOrder_X2 rfl 0 rfl 5 (by decide) (List.mem_of_getElem? (i := 1) rfl) rfl rfl dX2_putInOrder_44 ?_
  refine h_iconst (pc := 47) C dX2_putInOrder_47 jc_1 ?_
  refine h_isub (pc := 48) C dX2_putInOrder_48 ?_
  refine h_istore_n (pc := 49) (lv' := [(3, .int ((size + 1) - 1)), (0, .ref (ad 1)), (1, .int x1), (2, .int x2)]) C dX2_putInOrder_49 rfl (by decide) rfl ?_
  refine h_sub [1, 2, 3, 0] rfl ?_
  exact k_X2_putInOrder_50 l D cT ad C hr n areas keys there added order' size' n order (size + 1) x1 x2 ((size + 1) - 1) hf
set_option maxRecDepth 100000 in
set_option maxHeartbeats 4000000 in
theorem k_X2_putInOrder_2 {p : Program} {e : Env} {s : State} {m : MethodId} {args : Array Value} {below : List Frame} {meth : Method} {c : Code} {A : Nat → Prop} (l : Launch) (D : va_G) (cT : Nat → ClassId) (ad : Nat → Nat) (C : hC p s m args meth c cX2_putInOrder 4 wsX2_putInOrder RX2 D (ty4 cT) A) (hr : meth.sig.returnType = none) (n : Nat) (areas : Nat → Int32) (keys : Nat → Int32) (there : Nat → Int32) (added : Int32) (order' : Nat → Int32) (size' : Int32)  : ∀ (fu : Nat) (order : Nat → Int32) (size : Int32) (x1 : Int32) (x2 : Int32), f_X2_putInOrder_2 n keys fu order size x1 x2 = some (order', size') → hS p l e rmX2_putInOrder s m args below meth c 4 D A 0 0 (MQ below (cQ D (ty4 cT) A none (wS cT ad areas keys there order' added size')) args s 0 0 A) 2 [(0, .ref (ad 1)), (1, .int x1), (2, .int x2)] [] (wS cT ad areas keys there order added size) := by
  intro fu
  induction fu with
  | zero =>
    intro order size x1 x2 hf
    exact nomatch (show (none : Option ((Nat → Int32) × Int32)) = some (order', size') from hf)
  | succ fu ih =>
    intro order size x1 x2 hf
    rw [f_X2_putInOrder_2] at hf
    refine h_iload_n (pc := 2) C dX2_putInOrder_2 rfl 2 rfl ?_
    refine h_aload_n (pc := 3) C dX2_putInOrder_3 rfl 0 rfl ?_
    refine h_get (pc := 4) (ci := 0) (C0 := RX2) (T := TX2) (N := 6) C uX2_putInOrder_X2 rfl 0 rfl 5 (by decide) (List.mem_of_getElem? (i := 1) rfl) rfl rfl dX2_putInOrder_4 ?_
    refine h_icmp_ge (pc := 7) (tgt := 33) C dX2_putInOrder_7 (by decide) (fun q => ?_) (fun q => ?_)
    · replace hf := jif_t q hf
      clear q
      exact k_X2_putInOrder_33 l D cT ad C hr n areas keys there added order' size' order size x1 x2 hf
    · replace hf := jif_f q hf
      clear q
      refine h_aload_n (pc := 10) C dX2_putInOrder_10 rfl 0 rfl ?_
      refine h_aload_n (pc := 11) C dX2_putInOrder_11 rfl 0 rfl ?_
      refine h_iload_n (pc := 12) C dX2_putInOrder_12 rfl 2 rfl ?_
      obtain ⟨v1, hc, hf⟩ := jbd_s hf
      refine h_callV (pc := 13) (q0 := 0) (As := [.int x2]) (rest := .ref (ad 1) :: []) (ws' := (wS cT ad areas keys there order added size)) (st2 := .int v1 :: .ref (ad 1) :: []) C (c_X2_numberAt l D cT ad n areas keys there order added size x2 v1 hc) (cwV 1 C.1.2.2.2.2 gX2_putInOrder_X2_numberAt rfl rfl rfl pv_X2_numberAt ⟨(Nat.le_of_ble_eq_true rfl), (Nat.le_of_ble_eq_true rfl)⟩) dX2_putInOrder_13 rfl rfl rfl rfl rfl (Nat.le_of_ble_eq_true rfl) ⟨rfl, rfl⟩ ⟨(Nat.le_of_ble_eq_true rfl), (Nat.le_of_ble_eq_true rfl)⟩ [0, 1, 2, 3, 4] [] [0, 1, 2, 3, 4] rfl rfl rfl rfl (by decide) rfl rfl rfl ?_
      clear hc
      obtain ⟨v2, hc, hf⟩ := jbd_s hf
      refine h_callV (pc := 16) (q0 := 0) (As := [.int v1]) (rest := []) (ws' := (wS cT ad areas keys there order added size)) (st2 := .int v2 :: []) C (c_X2_keyFor l D cT ad n areas keys there order added size v1 v2 hc) (cwV 1 C.1.2.2.2.2 gX2_putInOrder_X2_keyFor rfl rfl rfl pv_X2_keyFor ⟨(Nat.le_of_ble_eq_true rfl), (Nat.le_of_ble_eq_true rfl)⟩) dX2_putInOrder_16 rfl rfl rfl rfl rfl (Nat.le_of_ble_eq_true rfl) ⟨rfl, rfl⟩ ⟨(Nat.le_of_ble_eq_true rfl), (Nat.le_of_ble_eq_true rfl)⟩ [0, 1, 2, 3, 4] [] [0, 1, 2, 3, 4] rfl rfl rfl rfl (by decide) rfl rfl rfl ?_
      clear hc
      refine h_aload_n (pc := 19) C dX2_putInOrder_19 rfl 0 rfl ?_
      refine h_iload_n (pc := 20) C dX2_putInOrder_20 rfl 1 rfl ?_
      obtain ⟨v3, hc, hf⟩ := jbd_s hf
      refine h_callV (pc := 21) (q0 := 0) (As := [.int x1]) (rest := .int v2 :: []) (ws' := (wS cT ad areas keys there order added size)) (st2 := .int v3 :: .int v2 :: []) C (c_X2_keyFor l D cT ad n areas keys there order added size x1 v3 hc) (cwV 1 C.1.2.2.2.2 gX2_putInOrder_X2_keyFor rfl rfl rfl pv_X2_keyFor ⟨(Nat.le_of_ble_eq_true rfl), (Nat.le_of_ble_eq_true rfl)⟩) dX2_putInOrder_21 rfl rfl rfl rfl rfl (Nat.le_of_ble_eq_true rfl) ⟨rfl, rfl⟩ ⟨(Nat.le_of_ble_eq_true rfl), (Nat.le_of_ble_eq_true rfl)⟩ [0, 1, 2, 3, 4] [] [0, 1, 2, 3, 4] rfl rfl rfl rfl (by decide) rfl rfl rfl ?_
      clear hc
      refine h_icmp_gt (pc := 24) (tgt := 33) C dX2_putInOrder_24 (by decide) (fun q => ?_) (fun q => ?_)
      · replace hf := jif_t q hf
        clear q
        exact k_X2_putInOrder_33 l D cT ad C hr n areas keys there added order' size' order size x1 x2 hf
      · replace hf := jif_f q hf
        clear q
        refine h_iinc (pc := 27) (v := x2 + 1) (lv' := [(2, .int (x2 + 1)), (0, .ref (ad 1)), (1, .int x1)]) C dX2_putInOrder_27 2 rfl (ji_1 _) (by decide) rfl ?_
        refine h_goto (pc := 30) (tgt := 2) C dX2_putInOrder_30 (by decide) ?_
        refine h_sub [1, 2, 0] rfl ?_
        exact ih order size x1 (x2 + 1) hf
set_option maxRecDepth 100000 in
set_option maxHeartbeats 4000000 in
theorem c_X2_putInOrder (l : Launch) (D : va_G) (cT : Nat → ClassId) (ad : Nat → Nat) (n : Nat) (areas : Nat → Int32) (keys : Nat → Int32) (there : Nat → Int32) (order : Nat → Int32) (added : Int32) (size : Int32) (a1 : Int32) (order' : Nat → Int32) (size' : Int32) (hf : f_X2_putInOrder n keys order size a1 = some (order', size')) : cM l yX2_putInOrder wsX2_putInOrder rmX2_putInOrder D (ty4 cT) [.ref (ad 1), .int a1] (wS cT ad areas keys there order added size) none (wS cT ad areas keys there order' added size') := by
  refine cM_of (cc := cX2_putInOrder) (maxL := 4) (ret := none) (own := RX2) (lv := [(0, .ref (ad 1)), (1, .int a1)]) (by decide) rfl (Nat.le_of_ble_eq_true rfl) rfl rfl ?_
  intro p e s m args below meth c A C hr
  unfold f_X2_putInOrder at hf
  refine h_iconst (pc := 0) C dX2_putInOrder_0 jc_0 ?_
  refine h_istore_n (pc := 1) (lv' := [(2, .int 0), (0, .ref (ad 1)), (1, .int a1)]) C dX2_putInOrder_1 rfl (by decide) rfl ?_
  refine h_sub [1, 2, 0] rfl ?_
  exact k_X2_putInOrder_2 l D cT ad C hr n areas keys there added order' size' n order size a1 0 hf
theorem pv_X2_putInOrder : yX2_putInOrder.cls = RX2 ∧ yX2_putInOrder.cls ≠ "java/lang/invoke/MethodHandle" ∧ yX2_putInOrder.cls ≠ "java/lang/invoke/VarHandle" ∧ (parseMethodDescriptor yX2_putInOrder.desc).map (fun d => d.parameters.length) = some 1 := by decide +kernel
abbrev rmX2_putIn : Room := { frames := 3, cells := 0, slots := 0, locals := 71 }
theorem uX2_putIn_X2 : ∀ w ∈ u_ws RX2 TX2 6, w ∈ wsX2_putIn := fun w h => List.mem_cons_of_mem _ (List.mem_append_right _ h)
set_option maxRecDepth 100000 in
set_option maxHeartbeats 4000000 in
theorem c_X2_putIn (l : Launch) (D : va_G) (cT : Nat → ClassId) (ad : Nat → Nat) (n : Nat) (areas : Nat → Int32) (keys : Nat → Int32) (there : Nat → Int32) (order : Nat → Int32) (added : Int32) (size : Int32) (a1 : Int32) (r : Int32) (areas' : Nat → Int32) (keys' : Nat → Int32) (there' : Nat → Int32) (order' : Nat → Int32) (added' : Int32) (size' : Int32) (hf : f_X2_putIn n areas keys there order added size a1 = some (r, areas', keys', there', order', added', size')) : cM l yX2_putIn wsX2_putIn rmX2_putIn D (ty4 cT) [.ref (ad 1), .int a1] (wS cT ad areas keys there order added size) (some (.int r)) (wS cT ad areas' keys' there' order' added' size') := by
  refine cM_of (cc := cX2_putIn) (maxL := 3) (ret := (some .int)) (own := RX2) (lv := [(0, .ref (ad 1)), (1, .int a1)]) (by decide) rfl (Nat.le_of_ble_eq_true rfl) rfl rfl ?_
  intro p e s m args below meth c A C hr
  unfold f_X2_putIn at hf
  refine h_aload_n (pc := 0) C dX2_putIn_0 rfl 0 rfl ?_
  refine h_get (pc := 1) (ci := 0) (C0 := RX2) (T := TX2) (N := 6) C uX2_putIn_X2 rfl 0 rfl 4 (by decide) (List.mem_of_getElem? (i := 1) rfl) rfl rfl dX2_putIn_1 ?_
  refine h_istore_n (pc := 4) (lv' := [(2, .int added), (0, .ref (ad 1)), (1, .int a1)]) C dX2_putIn_4 rfl (by decide) rfl ?_
  refine h_iload_n (pc := 5) C dX2_putIn_5 rfl 0 rfl ?_
  refine h_if_lt (pc := 6) (tgt := 36) C dX2_putIn_6 (by decide) (fun q => ?_) (fun q => ?_)
  · replace hf := jif_t q hf
    clear q
    refine h_iconst (pc := 36) C dX2_putIn_36 jc_m1 ?_
    have g0 := (Prod.mk.inj (Option.some.inj hf)).1
    have g1 := (Prod.mk.inj (Prod.mk.inj (Option.some.inj hf)).2).1
    have g2 := (Prod.mk.inj (Prod.mk.inj (Prod.mk.inj (Option.some.inj hf)).2).2).1
    have g3 := (Prod.mk.inj (Prod.mk.inj (Prod.mk.inj (Prod.mk.inj (Option.some.inj hf)).2).2).2).1
    have g4 := (Prod.mk.inj (Prod.mk.inj (Prod.mk.inj (Prod.mk.inj (Prod.mk.inj (Option.some.inj hf)).2).2).2).2).1
    have g5 := (Prod.mk.inj (Prod.mk.inj (Prod.mk.inj (Prod.mk.inj (Prod.mk.inj (Prod.mk.inj (Option.some.inj hf)).2).2).2).2).2).1
    have g6 := (Prod.mk.inj (Prod.mk.inj (Prod.mk.inj (Prod.mk.inj (Prod.mk.inj (Prod.mk.inj (Option.some.inj hf)).2).2).2).2).2).2
    clear hf
    subst g0
    subst g1
    subst g2
    subst g3
    subst g4
    subst g5
    subst g6
    exact h_iret C hr dX2_putIn_37
  · replace hf := jif_f q hf
    clear q
    refine h_iload_n (pc := 9) C dX2_putIn_9 rfl 0 rfl ?_
    refine h_aload_n (pc := 10) C dX2_putIn_10 rfl 1 rfl ?_
    refine h_get (pc := 11) (ci := 0) (C0 := RX2) (T := TX2) (N := 6) C uX2_putIn_X2 rfl 0 rfl 0 (by decide) (List.mem_of_getElem? (i := 2) rfl) rfl rfl dX2_putIn_11 ?_
    refine h_alen (pc := 14) (v := 100) C 1 0 rfl rfl (by decide) dX2_putIn_14 ?_
    refine h_icmp_ge (pc := 15) (tgt := 36) C dX2_putIn_15 (by decide) (fun q => ?_) (fun q => ?_)
    · replace hf := jif_t q hf
      clear q
      refine h_iconst (pc := 36) C dX2_putIn_36 jc_m1 ?_
      have g0 := (Prod.mk.inj (Option.some.inj hf)).1
      have g1 := (Prod.mk.inj (Prod.mk.inj (Option.some.inj hf)).2).1
      have g2 := (Prod.mk.inj (Prod.mk.inj (Prod.mk.inj (Option.some.inj hf)).2).2).1
      have g3 := (Prod.mk.inj (Prod.mk.inj (Prod.mk.inj (Prod.mk.inj (Option.some.inj hf)).2).2).2).1
      have g4 := (Prod.mk.inj (Prod.mk.inj (Prod.mk.inj (Prod.mk.inj (Prod.mk.inj (Option.some.inj hf)).2).2).2).2).1
      have g5 := (Prod.mk.inj (Prod.mk.inj (Prod.mk.inj (Prod.mk.inj (Prod.mk.inj (Prod.mk.inj (Option.some.inj hf)).2).2).2).2).2).1
      have g6 := (Prod.mk.inj (Prod.mk.inj (Prod.mk.inj (Prod.mk.inj (Prod.mk.inj (Prod.mk.inj (Option.some.inj hf)).2).2).2).2).2).2
      clear hf
      subst g0
      subst g1
      subst g2
      subst g3
      subst g4
      subst g5
      subst g6
      exact h_iret C hr dX2_putIn_37
    · replace hf := jif_f q hf
      clear q
      refine h_iload_n (pc := 18) C dX2_putIn_18 rfl 0 rfl ?_
      refine h_aload_n (pc := 19) C dX2_putIn_19 rfl 1 rfl ?_
      refine h_get (pc := 20) (ci := 0) (C0 := RX2) (T := TX2) (N := 6) C uX2_putIn_X2 rfl 0 rfl 1 (by decide) (List.mem_of_getElem? (i := 3) rfl) rfl rfl dX2_putIn_20 ?_
      refine h_alen (pc := 23) (v := 100) C 2 0 rfl rfl (by decide) dX2_putIn_23 ?_
      refine h_icmp_ge (pc := 24) (tgt := 36) C dX2_putIn_24 (by decide) (fun q => ?_) (fun q => ?_)
      · replace hf := jif_t q hf
        clear q
        refine h_iconst (pc := 36) C dX2_putIn_36 jc_m1 ?_
        have g0 := (Prod.mk.inj (Option.some.inj hf)).1
        have g1 := (Prod.mk.inj (Prod.mk.inj (Option.some.inj hf)).2).1
        have g2 := (Prod.mk.inj (Prod.mk.inj (Prod.mk.inj (Option.some.inj hf)).2).2).1
        have g3 := (Prod.mk.inj (Prod.mk.inj (Prod.mk.inj (Prod.mk.inj (Option.some.inj hf)).2).2).2).1
        have g4 := (Prod.mk.inj (Prod.mk.inj (Prod.mk.inj (Prod.mk.inj (Prod.mk.inj (Option.some.inj hf)).2).2).2).2).1
        have g5 := (Prod.mk.inj (Prod.mk.inj (Prod.mk.inj (Prod.mk.inj (Prod.mk.inj (Prod.mk.inj (Option.some.inj hf)).2).2).2).2).2).1
        have g6 := (Prod.mk.inj (Prod.mk.inj (Prod.mk.inj (Prod.mk.inj (Prod.mk.inj (Prod.mk.inj (Option.some.inj hf)).2).2).2).2).2).2
        clear hf
        subst g0
        subst g1
        subst g2
        subst g3
        subst g4
        subst g5
        subst g6
        exact h_iret C hr dX2_putIn_37
      · replace hf := jif_f q hf
        clear q
        refine h_iload_n (pc := 27) C dX2_putIn_27 rfl 0 rfl ?_
        refine h_aload_n (pc := 28) C dX2_putIn_28 rfl 1 rfl ?_
        refine h_get (pc := 29) (ci := 0) (C0 := RX2) (T := TX2) (N := 6) C uX2_putIn_X2 rfl 0 rfl 2 (by decide) (List.mem_of_getElem? (i := 4) rfl) rfl rfl dX2_putIn_29 ?_
        refine h_alen (pc := 32) (v := 100) C 3 1 rfl rfl (by decide) dX2_putIn_32 ?_
        refine h_icmp_lt (pc := 33) (tgt := 38) C dX2_putIn_33 (by decide) (fun q => ?_) (fun q => ?_)
        · replace hf := jif_t q hf
          clear q
          refine h_aload_n (pc := 38) C dX2_putIn_38 rfl 1 rfl ?_
          refine h_get (pc := 39) (ci := 0) (C0 := RX2) (T := TX2) (N := 6) C uX2_putIn_X2 rfl 0 rfl 0 (by decide) (List.mem_of_getElem? (i := 2) rfl) rfl rfl dX2_putIn_39 ?_
          refine h_iload_n (pc := 42) C dX2_putIn_42 rfl 0 rfl ?_
          refine h_iload_n (pc := 43) C dX2_putIn_43 rfl 2 rfl ?_
          obtain ⟨hi, w1, hv, hf⟩ := jwr_s hf
          refine h_iast (pc := 44) (ws' := (wS cT ad w1 keys there order added size)) C 1 0 rfl rfl hi hv rfl dX2_putIn_44 ?_
          clear hi hv
          refine h_aload_n (pc := 45) C dX2_putIn_45 rfl 1 rfl ?_
          refine h_get (pc := 46) (ci := 0) (C0 := RX2) (T := TX2) (N := 6) C uX2_putIn_X2 rfl 0 rfl 1 (by decide) (List.mem_of_getElem? (i := 3) rfl) rfl rfl dX2_putIn_46 ?_
          refine h_iload_n (pc := 49) C dX2_putIn_49 rfl 0 rfl ?_
          refine h_iload_n (pc := 50) C dX2_putIn_50 rfl 2 rfl ?_
          obtain ⟨v2, hc, hf⟩ := jbd_s hf
          refine h_callP (pc := 51) (As := [.int a1]) (rest := .int added :: .ref (ad 3) :: []) (st2 := .int v2 :: .int added :: .ref (ad 3) :: []) C (c_X0_middleKey l D cT ad n a1 v2 hc) (va_cwS 1 C.1.2.2.2.2 gX2_putIn_X0_middleKey rfl rfl rfl ps_X0_middleKey ⟨(Nat.le_of_ble_eq_true rfl), (Nat.le_of_ble_eq_true rfl)⟩) dX2_putIn_51 rfl rfl (Nat.le_of_ble_eq_true rfl) ⟨rfl, rfl⟩ ⟨(Nat.le_of_ble_eq_true rfl), (Nat.le_of_ble_eq_true rfl)⟩ rfl ?_
          clear hc
          obtain ⟨hi, w3, hv, hf⟩ := jwr_s hf
          refine h_iast (pc := 54) (ws' := (wS cT ad w1 w3 there order added size)) C 2 0 rfl rfl hi hv rfl dX2_putIn_54 ?_
          clear hi hv
          refine h_aload_n (pc := 55) C dX2_putIn_55 rfl 1 rfl ?_
          refine h_get (pc := 56) (ci := 0) (C0 := RX2) (T := TX2) (N := 6) C uX2_putIn_X2 rfl 0 rfl 2 (by decide) (List.mem_of_getElem? (i := 4) rfl) rfl rfl dX2_putIn_56 ?_
          refine h_iload_n (pc := 59) C dX2_putIn_59 rfl 0 rfl ?_
          refine h_iconst (pc := 60) C dX2_putIn_60 jc_1 ?_
          obtain ⟨hi, w4, hv, hf⟩ := jwr_s hf
          refine h_zast (pc := 61) (ws' := (wS cT ad w1 w3 w4 order added size)) C 3 1 rfl rfl hi rfl hv rfl dX2_putIn_61 ?_
          clear hi hv
          refine h_aload_n (pc := 62) C dX2_putIn_62 rfl 1 rfl ?_
          refine h_dup (pc := 63) C dX2_putIn_63 rfl ?_
          refine h_get (pc := 64) (ci := 0) (C0 := RX2) (T := TX2) (N := 6) C uX2_putIn_X2 rfl 0 rfl 4 (by decide) (List.mem_of_getElem? (i := 1) rfl) rfl rfl dX2_putIn_64 ?_
          refine h_iconst (pc := 67) C dX2_putIn_67 jc_1 ?_
          refine h_iadd (pc := 68) C dX2_putIn_68 ?_
          refine h_put (pc := 69) (ci := 0) (C0 := RX2) (T := TX2) (N := 6) (ws' := (wS cT ad w1 w3 w4 order (added + 1) size)) C uX2_putIn_X2 tyX2 tyX2_ok nmX2 rfl 0 rfl 4 (by decide) (List.mem_of_getElem? (i := 1) rfl) rfl rfl rfl (Nat.le_of_ble_eq_true rfl) rfl dX2_putIn_69 ?_
          refine h_aload_n (pc := 72) C dX2_putIn_72 rfl 1 rfl ?_
          refine h_iload_n (pc := 73) C dX2_putIn_73 rfl 0 rfl ?_
          obtain ⟨v5, hc, hf⟩ := jbd_s hf
          refine h_callV (pc := 74) (q0 := 0) (As := [.int added]) (rest := []) (ws' := (wS cT ad w1 w3 w4 v5.1 (added + 1) v5.2)) (st2 := []) C (c_X2_putInOrder l D cT ad n w1 w3 w4 order (added + 1) size added v5.1 v5.2 hc) (cwV 1 C.1.2.2.2.2 gX2_putIn_X2_putInOrder rfl rfl rfl pv_X2_putInOrder ⟨(Nat.le_of_ble_eq_true rfl), (Nat.le_of_ble_eq_true rfl)⟩) dX2_putIn_74 rfl rfl rfl rfl rfl (Nat.le_of_ble_eq_true rfl) ⟨rfl, rfl⟩ ⟨(Nat.le_of_ble_eq_true rfl), (Nat.le_of_ble_eq_true rfl)⟩ [0, 1, 2, 3, 4] [] [0, 1, 2, 3, 4] rfl rfl rfl rfl (by decide) rfl rfl rfl ?_
          clear hc
          refine h_iload_n (pc := 77) C dX2_putIn_77 rfl 0 rfl ?_
          have g0 := (Prod.mk.inj (Option.some.inj hf)).1
          have g1 := (Prod.mk.inj (Prod.mk.inj (Option.some.inj hf)).2).1
          have g2 := (Prod.mk.inj (Prod.mk.inj (Prod.mk.inj (Option.some.inj hf)).2).2).1
          have g3 := (Prod.mk.inj (Prod.mk.inj (Prod.mk.inj (Prod.mk.inj (Option.some.inj hf)).2).2).2).1
          have g4 := (Prod.mk.inj (Prod.mk.inj (Prod.mk.inj (Prod.mk.inj (Prod.mk.inj (Option.some.inj hf)).2).2).2).2).1
          have g5 := (Prod.mk.inj (Prod.mk.inj (Prod.mk.inj (Prod.mk.inj (Prod.mk.inj (Prod.mk.inj (Option.some.inj hf)).2).2).2).2).2).1
          have g6 := (Prod.mk.inj (Prod.mk.inj (Prod.mk.inj (Prod.mk.inj (Prod.mk.inj (Prod.mk.inj (Option.some.inj hf)).2).2).2).2).2).2
          clear hf
          subst g0
          subst g1
          subst g2
          subst g3
          subst g4
          subst g5
          subst g6
          exact h_iret C hr dX2_putIn_78
        · replace hf := jif_f q hf
          clear q
          refine h_iconst (pc := 36) C dX2_putIn_36 jc_m1 ?_
          have g0 := (Prod.mk.inj (Option.some.inj hf)).1
          have g1 := (Prod.mk.inj (Prod.mk.inj (Option.some.inj hf)).2).1
          have g2 := (Prod.mk.inj (Prod.mk.inj (Prod.mk.inj (Option.some.inj hf)).2).2).1
          have g3 := (Prod.mk.inj (Prod.mk.inj (Prod.mk.inj (Prod.mk.inj (Option.some.inj hf)).2).2).2).1
          have g4 := (Prod.mk.inj (Prod.mk.inj (Prod.mk.inj (Prod.mk.inj (Prod.mk.inj (Option.some.inj hf)).2).2).2).2).1
          have g5 := (Prod.mk.inj (Prod.mk.inj (Prod.mk.inj (Prod.mk.inj (Prod.mk.inj (Prod.mk.inj (Option.some.inj hf)).2).2).2).2).2).1
          have g6 := (Prod.mk.inj (Prod.mk.inj (Prod.mk.inj (Prod.mk.inj (Prod.mk.inj (Prod.mk.inj (Option.some.inj hf)).2).2).2).2).2).2
          clear hf
          subst g0
          subst g1
          subst g2
          subst g3
          subst g4
          subst g5
          subst g6
          exact h_iret C hr dX2_putIn_37
theorem pv_X2_putIn : yX2_putIn.cls = RX2 ∧ yX2_putIn.cls ≠ "java/lang/invoke/MethodHandle" ∧ yX2_putIn.cls ≠ "java/lang/invoke/VarHandle" ∧ (parseMethodDescriptor yX2_putIn.desc).map (fun d => d.parameters.length) = some 1 := by decide +kernel
abbrev rmX2_takeOut : Room := { frames := 2, cells := 0, slots := 0, locals := 43 }
theorem uX2_takeOut_X2 : ∀ w ∈ u_ws RX2 TX2 6, w ∈ wsX2_takeOut := fun w h => List.mem_cons_of_mem _ (List.mem_append_right _ h)
set_option maxRecDepth 100000 in
set_option maxHeartbeats 4000000 in
theorem k_X2_takeOut_28 {p : Program} {e : Env} {s : State} {m : MethodId} {args : Array Value} {below : List Frame} {meth : Method} {c : Code} {A : Nat → Prop} (l : Launch) (D : va_G) (cT : Nat → ClassId) (ad : Nat → Nat) (C : hC p s m args meth c cX2_takeOut 4 wsX2_takeOut RX2 D (ty4 cT) A) (hr : meth.sig.returnType = none) (n : Nat) (areas : Nat → Int32) (keys : Nat → Int32) (added : Int32) (there' : Nat → Int32) (order' : Nat → Int32) (size' : Int32)  : ∀ (fu : Nat) (there : Nat → Int32) (order : Nat → Int32) (size : Int32) (x3 : Int32), f_X2_takeOut_28 n fu there order size x3 = some (there', order', size') → hS p l e rmX2_takeOut s m args below meth c 4 D A 0 0 (MQ below (cQ D (ty4 cT) A none (wS cT ad areas keys there' order' added size')) args s 0 0 A) 28 [(0, .ref (ad 1)), (3, .int x3)] [] (wS cT ad areas keys there order added size) := by
  intro fu
  induction fu with
  | zero =>
    intro there order size x3 hf
    exact nomatch (show (none : Option ((Nat → Int32) × (Nat → Int32) × Int32)) = some (there', order', size') from hf)
  | succ fu ih =>
    intro there order size x3 hf
    rw [f_X2_takeOut_28] at hf
    refine h_iload_n (pc := 28) C dX2_takeOut_28 rfl 1 rfl ?_
    refine h_aload_n (pc := 29) C dX2_takeOut_29 rfl 0 rfl ?_
    refine h_get (pc := 30) (ci := 0) (C0 := RX2) (T := TX2) (N := 6) C uX2_takeOut_X2 rfl 0 rfl 5 (by decide) (List.mem_of_getElem? (i := 2) rfl) rfl rfl dX2_takeOut_30 ?_
    refine h_iconst (pc := 33) C dX2_takeOut_33 jc_1 ?_
    refine h_isub (pc := 34) C dX2_takeOut_34 ?_
    refine h_icmp_ge (pc := 35) (tgt := 56) C dX2_takeOut_35 (by decide) (fun q => ?_) (fun q => ?_)
    · replace hf := jif_t q hf
      clear q
      refine h_aload_n (pc := 56) C dX2_takeOut_56 rfl 0 rfl ?_
      refine h_dup (pc := 57) C dX2_takeOut_57 rfl ?_
      refine h_get (pc := 58) (ci := 0) (C0 := RX2) (T := TX2) (N := 6) C uX2_takeOut_X2 rfl 0 rfl 5 (by decide) (List.mem_of_getElem? (i := 2) rfl) rfl rfl dX2_takeOut_58 ?_
      refine h_iconst (pc := 61) C dX2_takeOut_61 jc_1 ?_
      refine h_isub (pc := 62) C dX2_takeOut_62 ?_
      refine h_put (pc := 63) (ci := 0) (C0 := RX2) (T := TX2) (N := 6) (ws' := (wS cT ad areas keys there order added (size - 1))) C uX2_takeOut_X2 tyX2 tyX2_ok nmX2 rfl 0 rfl 5 (by decide) (List.mem_of_getElem? (i := 2) rfl) rfl rfl rfl (Nat.le_of_ble_eq_true rfl) rfl dX2_takeOut_63 ?_
      have g0 := (Prod.mk.inj (Option.some.inj hf)).1
      have g1 := (Prod.mk.inj (Prod.mk.inj (Option.some.inj hf)).2).1
      have g2 := (Prod.mk.inj (Prod.mk.inj (Option.some.inj hf)).2).2
      clear hf
      subst g0
      subst g1
      subst g2
      exact h_vret C hr dX2_takeOut_66
    · replace hf := jif_f q hf
      clear q
      refine h_aload_n (pc := 38) C dX2_takeOut_38 rfl 0 rfl ?_
      refine h_iload_n (pc := 39) C dX2_takeOut_39 rfl 1 rfl ?_
      refine h_aload_n (pc := 40) C dX2_takeOut_40 rfl 0 rfl ?_
      refine h_iload_n (pc := 41) C dX2_takeOut_41 rfl 1 rfl ?_
      refine h_iconst (pc := 42) C dX2_takeOut_42 jc_1 ?_
      refine h_iadd (pc := 43) C dX2_takeOut_43 ?_
      obtain ⟨v4, hc, hf⟩ := jbd_s hf
      refine h_callV (pc := 44) (q0 := 0) (As := [.int (x3 + 1)]) (rest := .int x3 :: .ref (ad 1) :: []) (ws' := (wS cT ad areas keys there order added size)) (st2 := .int v4 :: .int x3 :: .ref (ad 1) :: []) C (c_X2_numberAt l D cT ad n areas keys there order added size (x3 + 1) v4 hc) (cwV 1 C.1.2.2.2.2 gX2_takeOut_X2_numberAt rfl rfl rfl pv_X2_numberAt ⟨(Nat.le_of_ble_eq_true rfl), (Nat.le_of_ble_eq_true rfl)⟩) dX2_takeOut_44 rfl rfl rfl rfl rfl (Nat.le_of_ble_eq_true rfl) ⟨rfl, rfl⟩ ⟨(Nat.le_of_ble_eq_true rfl), (Nat.le_of_ble_eq_true rfl)⟩ [0, 1, 2, 3, 4] [] [0, 1, 2, 3, 4] rfl rfl rfl rfl (by decide) rfl rfl rfl ?_
      clear hc
      obtain ⟨v5, hc, hf⟩ := jbd_s hf
      refine h_callV (pc := 47) (q0 := 0) (As := [.int x3, .int v4]) (rest := []) (ws' := (wS cT ad areas keys there v5 added size)) (st2 := []) C (c_X2_setOrder l D cT ad n areas keys there order added size x3 v4 v5 hc) (cwV 2 C.1.2.2.2.2 gX2_takeOut_X2_setOrder rfl rfl rfl pv_X2_setOrder ⟨(Nat.le_of_ble_eq_true rfl), (Nat.le_of_ble_eq_true rfl)⟩) dX2_takeOut_47 rfl rfl rfl rfl rfl (Nat.le_of_ble_eq_true rfl) ⟨rfl, rfl⟩ ⟨(Nat.le_of_ble_eq_true rfl), (Nat.le_of_ble_eq_true rfl)⟩ [0, 1, 2, 3, 4] [] [0, 1, 2, 3, 4] rfl rfl rfl rfl (by decide) rfl rfl rfl ?_
      clear hc
      refine h_iinc (pc := 50) (v := x3 + 1) (lv' := [(3, .int (x3 + 1)), (0, .ref (ad 1))]) C dX2_takeOut_50 1 rfl (ji_1 _) (by decide) rfl ?_
      refine h_goto (pc := 53) (tgt := 28) C dX2_takeOut_53 (by decide) ?_
      refine h_sub [1, 0] rfl ?_
      exact ih there v5 size (x3 + 1) hf
set_option maxRecDepth 100000 in
set_option maxHeartbeats 4000000 in
theorem c_X2_takeOut (l : Launch) (D : va_G) (cT : Nat → ClassId) (ad : Nat → Nat) (n : Nat) (areas : Nat → Int32) (keys : Nat → Int32) (there : Nat → Int32) (order : Nat → Int32) (added : Int32) (size : Int32) (a1 : Int32) (there' : Nat → Int32) (order' : Nat → Int32) (size' : Int32) (hf : f_X2_takeOut n there order size a1 = some (there', order', size')) : cM l yX2_takeOut wsX2_takeOut rmX2_takeOut D (ty4 cT) [.ref (ad 1), .int a1] (wS cT ad areas keys there order added size) none (wS cT ad areas keys there' order' added size') := by
  refine cM_of (cc := cX2_takeOut) (maxL := 4) (ret := none) (own := RX2) (lv := [(0, .ref (ad 1)), (1, .int a1)]) (by decide) rfl (Nat.le_of_ble_eq_true rfl) rfl rfl ?_
  intro p e s m args below meth c A C hr
  unfold f_X2_takeOut at hf
  refine h_aload_n (pc := 0) C dX2_takeOut_0 rfl 0 rfl ?_
  refine h_iload_n (pc := 1) C dX2_takeOut_1 rfl 1 rfl ?_
  obtain ⟨v1, hc, hf⟩ := jbd_s hf
  refine h_callV (pc := 2) (q0 := 0) (As := [.int a1]) (rest := []) (ws' := (wS cT ad areas keys there order added size)) (st2 := .int v1 :: []) C (c_X2_placeOf l D cT ad n areas keys there order added size a1 v1 hc) (cwV 1 C.1.2.2.2.2 gX2_takeOut_X2_placeOf rfl rfl rfl pv_X2_placeOf ⟨(Nat.le_of_ble_eq_true rfl), (Nat.le_of_ble_eq_true rfl)⟩) dX2_takeOut_2 rfl rfl rfl rfl rfl (Nat.le_of_ble_eq_true rfl) ⟨rfl, rfl⟩ ⟨(Nat.le_of_ble_eq_true rfl), (Nat.le_of_ble_eq_true rfl)⟩ [0, 1, 2, 3, 4] [] [0, 1, 2, 3, 4] rfl rfl rfl rfl (by decide) rfl rfl rfl ?_
  clear hc
  refine h_istore_n (pc := 5) (lv' := [(2, .int v1), (0, .ref (ad 1)), (1, .int a1)]) C dX2_takeOut_5 rfl (by decide) rfl ?_
  refine h_iload_n (pc := 6) C dX2_takeOut_6 rfl 0 rfl ?_
  refine h_if_lt (pc := 7) (tgt := 18) C dX2_takeOut_7 (by decide) (fun q => ?_) (fun q => ?_)
  · replace hf := jif_t q hf
    clear q
    have g0 := (Prod.mk.inj (Option.some.inj hf)).1
    have g1 := (Prod.mk.inj (Prod.mk.inj (Option.some.inj hf)).2).1
    have g2 := (Prod.mk.inj (Prod.mk.inj (Option.some.inj hf)).2).2
    clear hf
    subst g0
    subst g1
    subst g2
    exact h_vret C hr dX2_takeOut_18
  · replace hf := jif_f q hf
    clear q
    refine h_aload_n (pc := 10) C dX2_takeOut_10 rfl 1 rfl ?_
    refine h_iload_n (pc := 11) C dX2_takeOut_11 rfl 2 rfl ?_
    obtain ⟨v2, hc, hf⟩ := jbd_s hf
    refine h_callV (pc := 12) (q0 := 0) (As := [.int a1]) (rest := []) (ws' := (wS cT ad areas keys there order added size)) (st2 := .int v2 :: []) C (c_X2_has l D cT ad n areas keys there order added size a1 v2 hc) (cwV 1 C.1.2.2.2.2 gX2_takeOut_X2_has rfl rfl rfl pv_X2_has ⟨(Nat.le_of_ble_eq_true rfl), (Nat.le_of_ble_eq_true rfl)⟩) dX2_takeOut_12 rfl rfl rfl rfl rfl (Nat.le_of_ble_eq_true rfl) ⟨rfl, rfl⟩ ⟨(Nat.le_of_ble_eq_true rfl), (Nat.le_of_ble_eq_true rfl)⟩ [0, 1, 2, 3, 4] [] [0, 1, 2, 3, 4] rfl rfl rfl rfl (by decide) rfl rfl rfl ?_
    clear hc
    refine h_if_ne (pc := 15) (tgt := 19) C dX2_takeOut_15 (by decide) (fun q => ?_) (fun q => ?_)
    · replace hf := jif_f q hf
      clear q
      refine h_aload_n (pc := 19) C dX2_takeOut_19 rfl 1 rfl ?_
      refine h_get (pc := 20) (ci := 0) (C0 := RX2) (T := TX2) (N := 6) C uX2_takeOut_X2 rfl 0 rfl 2 (by decide) (List.mem_of_getElem? (i := 1) rfl) rfl rfl dX2_takeOut_20 ?_
      refine h_iload_n (pc := 23) C dX2_takeOut_23 rfl 2 rfl ?_
      refine h_iconst (pc := 24) C dX2_takeOut_24 jc_0 ?_
      obtain ⟨hi, w3, hv, hf⟩ := jwr_s hf
      refine h_zast (pc := 25) (ws' := (wS cT ad areas keys w3 order added size)) C 3 1 rfl rfl hi rfl hv rfl dX2_takeOut_25 ?_
      clear hi hv
      refine h_iload_n (pc := 26) C dX2_takeOut_26 rfl 0 rfl ?_
      refine h_istore_n (pc := 27) (lv' := [(3, .int v1), (2, .int v1), (0, .ref (ad 1)), (1, .int a1)]) C dX2_takeOut_27 rfl (by decide) rfl ?_
      refine h_sub [2, 0] rfl ?_
      exact k_X2_takeOut_28 l D cT ad C hr n areas keys added there' order' size' n w3 order size v1 hf
    · replace hf := jif_t q hf
      clear q
      have g0 := (Prod.mk.inj (Option.some.inj hf)).1
      have g1 := (Prod.mk.inj (Prod.mk.inj (Option.some.inj hf)).2).1
      have g2 := (Prod.mk.inj (Prod.mk.inj (Option.some.inj hf)).2).2
      clear hf
      subst g0
      subst g1
      subst g2
      exact h_vret C hr dX2_takeOut_18
theorem pv_X2_takeOut : yX2_takeOut.cls = RX2 ∧ yX2_takeOut.cls ≠ "java/lang/invoke/MethodHandle" ∧ yX2_takeOut.cls ≠ "java/lang/invoke/VarHandle" ∧ (parseMethodDescriptor yX2_takeOut.desc).map (fun d => d.parameters.length) = some 1 := by decide +kernel
