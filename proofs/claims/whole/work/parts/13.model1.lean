/-! laid by wip/whole/lay.py: contracts -/
abbrev rmX5_thrown : Room := { frames := 0, cells := 0, slots := 0, locals := 0 }
theorem uX5_thrown_X5 : ∀ w ∈ u_ws RX5 TX5 16, w ∈ wsX5_thrown := fun w h => List.mem_cons_of_mem _ (List.mem_append_right _ h)
set_option maxRecDepth 100000 in
set_option maxHeartbeats 4000000 in
theorem c_X5_thrown (l : Launch) (D : va_G) (cT : Nat → ClassId) (ad : Nat → Nat) (n : Nat) (madded : Int32) (msides : Nat → Int32) (mkey : Nat → Int32) (misThere : Nat → Int32) (mboxes : Int32) (morder : Nat → Int32) (mlevels : Int32) (mnodes : Nat → Int32) (mentries : Nat → Int32) (mleft : Int32) (mlow : Int32) (mright : Int32) (mhigh : Int32) (mfirst : Int32) (mend : Int32) (mthrown : Int32)  (r : Int32) (hf : f_X5_thrown n mthrown = some r) : cM l yX5_thrown wsX5_thrown rmX5_thrown D (ty4 cT) [.ref (ad 10)] (wM cT ad madded msides mkey misThere mboxes morder mlevels mnodes mentries mleft mlow mright mhigh mfirst mend mthrown) (some (.int r)) (wM cT ad madded msides mkey misThere mboxes morder mlevels mnodes mentries mleft mlow mright mhigh mfirst mend mthrown) := by
  refine cM_of (cc := cX5_thrown) (maxL := 1) (ret := (some .int)) (own := RX5) (lv := [(0, .ref (ad 10))]) (by decide) rfl (Nat.le_of_ble_eq_true rfl) rfl rfl ?_
  intro p e s m args below meth c A C hr
  unfold f_X5_thrown at hf
  refine h_aload_n (pc := 0) C dX5_thrown_0 rfl 0 rfl ?_
  refine h_get (pc := 1) (ci := 3) (C0 := RX5) (T := TX5) (N := 16) C uX5_thrown_X5 rfl 0 rfl 15 (by decide) (List.mem_of_getElem? (i := 1) rfl) rfl rfl dX5_thrown_1 ?_
  have g0 := (Option.some.inj hf)
  clear hf
  subst g0
  exact h_iret C hr dX5_thrown_4
theorem pv_X5_thrown : yX5_thrown.cls = RX5 ∧ yX5_thrown.cls ≠ "java/lang/invoke/MethodHandle" ∧ yX5_thrown.cls ≠ "java/lang/invoke/VarHandle" ∧ (parseMethodDescriptor yX5_thrown.desc).map (fun d => d.parameters.length) = some 0 := by decide +kernel
abbrev rmX5_fails : Room := { frames := 0, cells := 0, slots := 0, locals := 0 }
theorem uX5_fails_X5 : ∀ w ∈ u_ws RX5 TX5 16, w ∈ wsX5_fails := fun w h => List.mem_cons_of_mem _ (List.mem_append_right _ h)
set_option maxRecDepth 100000 in
set_option maxHeartbeats 4000000 in
theorem c_X5_fails (l : Launch) (D : va_G) (cT : Nat → ClassId) (ad : Nat → Nat) (n : Nat) (madded : Int32) (msides : Nat → Int32) (mkey : Nat → Int32) (misThere : Nat → Int32) (mboxes : Int32) (morder : Nat → Int32) (mlevels : Int32) (mnodes : Nat → Int32) (mentries : Nat → Int32) (mleft : Int32) (mlow : Int32) (mright : Int32) (mhigh : Int32) (mfirst : Int32) (mend : Int32) (mthrown : Int32) (a1 : Int32) (r : Int32) (mthrown' : Int32) (hf : f_X5_fails n mthrown a1 = some (r, mthrown')) : cM l yX5_fails wsX5_fails rmX5_fails D (ty4 cT) [.ref (ad 10), .int a1] (wM cT ad madded msides mkey misThere mboxes morder mlevels mnodes mentries mleft mlow mright mhigh mfirst mend mthrown) (some (.int r)) (wM cT ad madded msides mkey misThere mboxes morder mlevels mnodes mentries mleft mlow mright mhigh mfirst mend mthrown') := by
  refine cM_of (cc := cX5_fails) (maxL := 2) (ret := (some .boolean)) (own := RX5) (lv := [(0, .ref (ad 10)), (1, .int a1)]) (by decide) rfl (Nat.le_of_ble_eq_true rfl) rfl rfl ?_
  intro p e s m args below meth c A C hr
  unfold f_X5_fails at hf
  refine h_aload_n (pc := 0) C dX5_fails_0 rfl 0 rfl ?_
  refine h_iload_n (pc := 1) C dX5_fails_1 rfl 1 rfl ?_
  refine h_put (pc := 2) (ci := 3) (C0 := RX5) (T := TX5) (N := 16) (ws' := (wM cT ad madded msides mkey misThere mboxes morder mlevels mnodes mentries mleft mlow mright mhigh mfirst mend a1)) C uX5_fails_X5 tyX5 tyX5_ok nmX5 rfl 0 rfl 15 (by decide) (List.mem_of_getElem? (i := 1) rfl) rfl rfl rfl (Nat.le_of_ble_eq_true rfl) rfl dX5_fails_2 ?_
  refine h_iload_n (pc := 5) C dX5_fails_5 rfl 1 rfl ?_
  refine h_if_le (pc := 6) (tgt := 13) C dX5_fails_6 (by decide) (fun q => ?_) (fun q => ?_)
  · replace hf := jif_t q hf
    clear q
    refine h_iconst (pc := 13) C dX5_fails_13 jc_0 ?_
    have g0 := (Prod.mk.inj (Option.some.inj hf)).1
    have g1 := (Prod.mk.inj (Option.some.inj hf)).2
    clear hf
    subst g0
    subst g1
    exact h_zret C hr rfl dX5_fails_14
  · replace hf := jif_f q hf
    clear q
    refine h_iconst (pc := 9) C dX5_fails_9 jc_1 ?_
    refine h_goto (pc := 10) (tgt := 14) C dX5_fails_10 (by decide) ?_
    have g0 := (Prod.mk.inj (Option.some.inj hf)).1
    have g1 := (Prod.mk.inj (Option.some.inj hf)).2
    clear hf
    subst g0
    subst g1
    exact h_zret C hr rfl dX5_fails_14
theorem pv_X5_fails : yX5_fails.cls = RX5 ∧ yX5_fails.cls ≠ "java/lang/invoke/MethodHandle" ∧ yX5_fails.cls ≠ "java/lang/invoke/VarHandle" ∧ (parseMethodDescriptor yX5_fails.desc).map (fun d => d.parameters.length) = some 1 := by decide +kernel
abbrev rmX5_tells : Room := { frames := 0, cells := 0, slots := 0, locals := 0 }
theorem uX5_tells_X5 : ∀ w ∈ u_ws RX5 TX5 16, w ∈ wsX5_tells := fun w h => List.mem_cons_of_mem _ (List.mem_append_right _ h)
set_option maxRecDepth 100000 in
set_option maxHeartbeats 4000000 in
theorem c_X5_tells (l : Launch) (D : va_G) (cT : Nat → ClassId) (ad : Nat → Nat) (n : Nat) (madded : Int32) (msides : Nat → Int32) (mkey : Nat → Int32) (misThere : Nat → Int32) (mboxes : Int32) (morder : Nat → Int32) (mlevels : Int32) (mnodes : Nat → Int32) (mentries : Nat → Int32) (mleft : Int32) (mlow : Int32) (mright : Int32) (mhigh : Int32) (mfirst : Int32) (mend : Int32) (mthrown : Int32) (a1 : Int32) (r : Int32) (mthrown' : Int32) (hf : f_X5_tells n mthrown a1 = some (r, mthrown')) : cM l yX5_tells wsX5_tells rmX5_tells D (ty4 cT) [.ref (ad 10), .int a1] (wM cT ad madded msides mkey misThere mboxes morder mlevels mnodes mentries mleft mlow mright mhigh mfirst mend mthrown) (some (.int r)) (wM cT ad madded msides mkey misThere mboxes morder mlevels mnodes mentries mleft mlow mright mhigh mfirst mend mthrown') := by
  refine cM_of (cc := cX5_tells) (maxL := 2) (ret := (some .int)) (own := RX5) (lv := [(0, .ref (ad 10)), (1, .int a1)]) (by decide) rfl (Nat.le_of_ble_eq_true rfl) rfl rfl ?_
  intro p e s m args below meth c A C hr
  unfold f_X5_tells at hf
  refine h_aload_n (pc := 0) C dX5_tells_0 rfl 0 rfl ?_
  refine h_iconst (pc := 1) C dX5_tells_1 jc_0 ?_
  refine h_put (pc := 2) (ci := 3) (C0 := RX5) (T := TX5) (N := 16) (ws' := (wM cT ad madded msides mkey misThere mboxes morder mlevels mnodes mentries mleft mlow mright mhigh mfirst mend 0)) C uX5_tells_X5 tyX5 tyX5_ok nmX5 rfl 0 rfl 15 (by decide) (List.mem_of_getElem? (i := 1) rfl) rfl rfl rfl (Nat.le_of_ble_eq_true rfl) rfl dX5_tells_2 ?_
  refine h_iload_n (pc := 5) C dX5_tells_5 rfl 1 rfl ?_
  have g0 := (Prod.mk.inj (Option.some.inj hf)).1
  have g1 := (Prod.mk.inj (Option.some.inj hf)).2
  clear hf
  subst g0
  subst g1
  exact h_iret C hr dX5_tells_6
theorem pv_X5_tells : yX5_tells.cls = RX5 ∧ yX5_tells.cls ≠ "java/lang/invoke/MethodHandle" ∧ yX5_tells.cls ≠ "java/lang/invoke/VarHandle" ∧ (parseMethodDescriptor yX5_tells.desc).map (fun d => d.parameters.length) = some 1 := by decide +kernel
abbrev rmX5_isPoint : Room := { frames := 0, cells := 0, slots := 0, locals := 0 }
set_option maxRecDepth 100000 in
set_option maxHeartbeats 4000000 in
theorem c_X5_isPoint (l : Launch) (D : va_G) (cT : Nat → ClassId) (ad : Nat → Nat) (n : Nat)  (a0 : Int32) (a1 : Int32) (r : Int32) (hf : f_X5_isPoint n a0 a1 = some r) : cM l yX5_isPoint wsX5_isPoint rmX5_isPoint D (ty4 cT) [.int a0, .int a1] [] (some (.int r)) [] := by
  refine cM_of (cc := cX5_isPoint) (maxL := 2) (ret := (some .boolean)) (own := RX5) (lv := [(0, .int a0), (1, .int a1)]) (by decide) rfl (Nat.le_of_ble_eq_true rfl) rfl rfl ?_
  intro p e s m args below meth c A C hr
  unfold f_X5_isPoint at hf
  refine h_iload_n (pc := 0) C dX5_isPoint_0 rfl 0 rfl ?_
  refine h_if_lt (pc := 1) (tgt := 26) C dX5_isPoint_1 (by decide) (fun q => ?_) (fun q => ?_)
  · replace hf := jif_t q hf
    clear q
    refine h_iconst (pc := 26) C dX5_isPoint_26 jc_0 ?_
    have g0 := (Option.some.inj hf)
    clear hf
    subst g0
    exact h_zret C hr rfl dX5_isPoint_27
  · replace hf := jif_f q hf
    clear q
    refine h_iload_n (pc := 4) C dX5_isPoint_4 rfl 0 rfl ?_
    refine h_sipush (pc := 5) C dX5_isPoint_5 js_256 ?_
    refine h_icmp_ge (pc := 8) (tgt := 26) C dX5_isPoint_8 (by decide) (fun q => ?_) (fun q => ?_)
    · replace hf := jif_t q hf
      clear q
      refine h_iconst (pc := 26) C dX5_isPoint_26 jc_0 ?_
      have g0 := (Option.some.inj hf)
      clear hf
      subst g0
      exact h_zret C hr rfl dX5_isPoint_27
    · replace hf := jif_f q hf
      clear q
      refine h_iload_n (pc := 11) C dX5_isPoint_11 rfl 1 rfl ?_
      refine h_if_lt (pc := 12) (tgt := 26) C dX5_isPoint_12 (by decide) (fun q => ?_) (fun q => ?_)
      · replace hf := jif_t q hf
        clear q
        refine h_iconst (pc := 26) C dX5_isPoint_26 jc_0 ?_
        have g0 := (Option.some.inj hf)
        clear hf
        subst g0
        exact h_zret C hr rfl dX5_isPoint_27
      · replace hf := jif_f q hf
        clear q
        refine h_iload_n (pc := 15) C dX5_isPoint_15 rfl 1 rfl ?_
        refine h_sipush (pc := 16) C dX5_isPoint_16 js_256 ?_
        refine h_icmp_ge (pc := 19) (tgt := 26) C dX5_isPoint_19 (by decide) (fun q => ?_) (fun q => ?_)
        · replace hf := jif_t q hf
          clear q
          refine h_iconst (pc := 26) C dX5_isPoint_26 jc_0 ?_
          have g0 := (Option.some.inj hf)
          clear hf
          subst g0
          exact h_zret C hr rfl dX5_isPoint_27
        · replace hf := jif_f q hf
          clear q
          refine h_iconst (pc := 22) C dX5_isPoint_22 jc_1 ?_
          refine h_goto (pc := 23) (tgt := 27) C dX5_isPoint_23 (by decide) ?_
          have g0 := (Option.some.inj hf)
          clear hf
          subst g0
          exact h_zret C hr rfl dX5_isPoint_27
theorem ps_X5_isPoint : yX5_isPoint.cls ≠ "java/lang/invoke/MethodHandle" ∧ yX5_isPoint.cls ≠ "java/lang/invoke/VarHandle" ∧ (parseMethodDescriptor yX5_isPoint.desc).map (fun d => d.parameters.length) = some 2 := by decide +kernel
abbrev rmX5_isArea : Room := { frames := 0, cells := 0, slots := 0, locals := 0 }
set_option maxRecDepth 100000 in
set_option maxHeartbeats 4000000 in
theorem c_X5_isArea (l : Launch) (D : va_G) (cT : Nat → ClassId) (ad : Nat → Nat) (n : Nat)  (a0 : Int32) (a1 : Int32) (a2 : Int32) (a3 : Int32) (r : Int32) (hf : f_X5_isArea n a0 a1 a2 a3 = some r) : cM l yX5_isArea wsX5_isArea rmX5_isArea D (ty4 cT) [.int a0, .int a1, .int a2, .int a3] [] (some (.int r)) [] := by
  refine cM_of (cc := cX5_isArea) (maxL := 4) (ret := (some .boolean)) (own := RX5) (lv := [(0, .int a0), (1, .int a1), (2, .int a2), (3, .int a3)]) (by decide) rfl (Nat.le_of_ble_eq_true rfl) rfl rfl ?_
  intro p e s m args below meth c A C hr
  unfold f_X5_isArea at hf
  refine h_iload_n (pc := 0) C dX5_isArea_0 rfl 0 rfl ?_
  refine h_if_lt (pc := 1) (tgt := 36) C dX5_isArea_1 (by decide) (fun q => ?_) (fun q => ?_)
  · replace hf := jif_t q hf
    clear q
    refine h_iconst (pc := 36) C dX5_isArea_36 jc_0 ?_
    have g0 := (Option.some.inj hf)
    clear hf
    subst g0
    exact h_zret C hr rfl dX5_isArea_37
  · replace hf := jif_f q hf
    clear q
    refine h_iload_n (pc := 4) C dX5_isArea_4 rfl 0 rfl ?_
    refine h_iload_n (pc := 5) C dX5_isArea_5 rfl 2 rfl ?_
    refine h_icmp_gt (pc := 6) (tgt := 36) C dX5_isArea_6 (by decide) (fun q => ?_) (fun q => ?_)
    · replace hf := jif_t q hf
      clear q
      refine h_iconst (pc := 36) C dX5_isArea_36 jc_0 ?_
      have g0 := (Option.some.inj hf)
      clear hf
      subst g0
      exact h_zret C hr rfl dX5_isArea_37
    · replace hf := jif_f q hf
      clear q
      refine h_iload_n (pc := 9) C dX5_isArea_9 rfl 2 rfl ?_
      refine h_sipush (pc := 10) C dX5_isArea_10 js_256 ?_
      refine h_icmp_ge (pc := 13) (tgt := 36) C dX5_isArea_13 (by decide) (fun q => ?_) (fun q => ?_)
      · replace hf := jif_t q hf
        clear q
        refine h_iconst (pc := 36) C dX5_isArea_36 jc_0 ?_
        have g0 := (Option.some.inj hf)
        clear hf
        subst g0
        exact h_zret C hr rfl dX5_isArea_37
      · replace hf := jif_f q hf
        clear q
        refine h_iload_n (pc := 16) C dX5_isArea_16 rfl 1 rfl ?_
        refine h_if_lt (pc := 17) (tgt := 36) C dX5_isArea_17 (by decide) (fun q => ?_) (fun q => ?_)
        · replace hf := jif_t q hf
          clear q
          refine h_iconst (pc := 36) C dX5_isArea_36 jc_0 ?_
          have g0 := (Option.some.inj hf)
          clear hf
          subst g0
          exact h_zret C hr rfl dX5_isArea_37
        · replace hf := jif_f q hf
          clear q
          refine h_iload_n (pc := 20) C dX5_isArea_20 rfl 1 rfl ?_
          refine h_iload_n (pc := 21) C dX5_isArea_21 rfl 3 rfl ?_
          refine h_icmp_gt (pc := 22) (tgt := 36) C dX5_isArea_22 (by decide) (fun q => ?_) (fun q => ?_)
          · replace hf := jif_t q hf
            clear q
            refine h_iconst (pc := 36) C dX5_isArea_36 jc_0 ?_
            have g0 := (Option.some.inj hf)
            clear hf
            subst g0
            exact h_zret C hr rfl dX5_isArea_37
          · replace hf := jif_f q hf
            clear q
            refine h_iload_n (pc := 25) C dX5_isArea_25 rfl 3 rfl ?_
            refine h_sipush (pc := 26) C dX5_isArea_26 js_256 ?_
            refine h_icmp_ge (pc := 29) (tgt := 36) C dX5_isArea_29 (by decide) (fun q => ?_) (fun q => ?_)
            · replace hf := jif_t q hf
              clear q
              refine h_iconst (pc := 36) C dX5_isArea_36 jc_0 ?_
              have g0 := (Option.some.inj hf)
              clear hf
              subst g0
              exact h_zret C hr rfl dX5_isArea_37
            · replace hf := jif_f q hf
              clear q
              refine h_iconst (pc := 32) C dX5_isArea_32 jc_1 ?_
              refine h_goto (pc := 33) (tgt := 37) C dX5_isArea_33 (by decide) ?_
              have g0 := (Option.some.inj hf)
              clear hf
              subst g0
              exact h_zret C hr rfl dX5_isArea_37
theorem ps_X5_isArea : yX5_isArea.cls ≠ "java/lang/invoke/MethodHandle" ∧ yX5_isArea.cls ≠ "java/lang/invoke/VarHandle" ∧ (parseMethodDescriptor yX5_isArea.desc).map (fun d => d.parameters.length) = some 4 := by decide +kernel
abbrev rmX5_is : Room := { frames := 0, cells := 0, slots := 0, locals := 0 }
theorem uX5_is_X5 : ∀ w ∈ u_ws RX5 TX5 16, w ∈ wsX5_is := fun w h => List.mem_cons_of_mem _ (List.mem_append_right _ h)
set_option maxRecDepth 100000 in
set_option maxHeartbeats 4000000 in
theorem c_X5_is (l : Launch) (D : va_G) (cT : Nat → ClassId) (ad : Nat → Nat) (n : Nat) (madded : Int32) (msides : Nat → Int32) (mkey : Nat → Int32) (misThere : Nat → Int32) (mboxes : Int32) (morder : Nat → Int32) (mlevels : Int32) (mnodes : Nat → Int32) (mentries : Nat → Int32) (mleft : Int32) (mlow : Int32) (mright : Int32) (mhigh : Int32) (mfirst : Int32) (mend : Int32) (mthrown : Int32) (a1 : Int32) (r : Int32) (hf : f_X5_is n madded misThere a1 = some r) : cM l yX5_is wsX5_is rmX5_is D (ty4 cT) [.ref (ad 10), .int a1] (wM cT ad madded msides mkey misThere mboxes morder mlevels mnodes mentries mleft mlow mright mhigh mfirst mend mthrown) (some (.int r)) (wM cT ad madded msides mkey misThere mboxes morder mlevels mnodes mentries mleft mlow mright mhigh mfirst mend mthrown) := by
  refine cM_of (cc := cX5_is) (maxL := 2) (ret := (some .boolean)) (own := RX5) (lv := [(0, .ref (ad 10)), (1, .int a1)]) (by decide) rfl (Nat.le_of_ble_eq_true rfl) rfl rfl ?_
  intro p e s m args below meth c A C hr
  unfold f_X5_is at hf
  refine h_iload_n (pc := 0) C dX5_is_0 rfl 1 rfl ?_
  refine h_if_lt (pc := 1) (tgt := 25) C dX5_is_1 (by decide) (fun q => ?_) (fun q => ?_)
  · replace hf := jif_t q hf
    clear q
    refine h_iconst (pc := 25) C dX5_is_25 jc_0 ?_
    have g0 := (Option.some.inj hf)
    clear hf
    subst g0
    exact h_zret C hr rfl dX5_is_26
  · replace hf := jif_f q hf
    clear q
    refine h_iload_n (pc := 4) C dX5_is_4 rfl 1 rfl ?_
    refine h_aload_n (pc := 5) C dX5_is_5 rfl 0 rfl ?_
    refine h_get (pc := 6) (ci := 3) (C0 := RX5) (T := TX5) (N := 16) C uX5_is_X5 rfl 0 rfl 0 (by decide) (List.mem_of_getElem? (i := 1) rfl) rfl rfl dX5_is_6 ?_
    refine h_icmp_ge (pc := 9) (tgt := 25) C dX5_is_9 (by decide) (fun q => ?_) (fun q => ?_)
    · replace hf := jif_t q hf
      clear q
      refine h_iconst (pc := 25) C dX5_is_25 jc_0 ?_
      have g0 := (Option.some.inj hf)
      clear hf
      subst g0
      exact h_zret C hr rfl dX5_is_26
    · replace hf := jif_f q hf
      clear q
      refine h_aload_n (pc := 12) C dX5_is_12 rfl 0 rfl ?_
      refine h_get (pc := 13) (ci := 3) (C0 := RX5) (T := TX5) (N := 16) C uX5_is_X5 rfl 0 rfl 3 (by decide) (List.mem_of_getElem? (i := 2) rfl) rfl rfl dX5_is_13 ?_
      refine h_iload_n (pc := 16) C dX5_is_16 rfl 1 rfl ?_
      obtain ⟨hi, v1, hv, hf⟩ := jrd_s hf
      refine h_zald (pc := 17) C 3 1 rfl rfl hi hv dX5_is_17 ?_
      clear hi hv
      refine h_if_eq (pc := 18) (tgt := 25) C dX5_is_18 (by decide) (fun q => ?_) (fun q => ?_)
      · replace hf := jif_t q hf
        clear q
        refine h_iconst (pc := 25) C dX5_is_25 jc_0 ?_
        have g0 := (Option.some.inj hf)
        clear hf
        subst g0
        exact h_zret C hr rfl dX5_is_26
      · replace hf := jif_f q hf
        clear q
        refine h_iconst (pc := 21) C dX5_is_21 jc_1 ?_
        refine h_goto (pc := 22) (tgt := 26) C dX5_is_22 (by decide) ?_
        have g0 := (Option.some.inj hf)
        clear hf
        subst g0
        exact h_zret C hr rfl dX5_is_26
theorem pv_X5_is : yX5_is.cls = RX5 ∧ yX5_is.cls ≠ "java/lang/invoke/MethodHandle" ∧ yX5_is.cls ≠ "java/lang/invoke/VarHandle" ∧ (parseMethodDescriptor yX5_is.desc).map (fun d => d.parameters.length) = some 1 := by decide +kernel
abbrev rmX5_keyAt : Room := { frames := 0, cells := 0, slots := 0, locals := 0 }
set_option maxRecDepth 100000 in
set_option maxHeartbeats 4000000 in
theorem k_X5_keyAt_127 {p : Program} {e : Env} {s : State} {m : MethodId} {args : Array Value} {below : List Frame} {meth : Method} {c : Code} {A : Nat → Prop} (l : Launch) (D : va_G) (cT : Nat → ClassId) (ad : Nat → Nat) (C : hC p s m args meth c cX5_keyAt 10 wsX5_keyAt RX5 D (ty4 cT) A) (hr : meth.sig.returnType = (some .int)) (n : Nat)  (r : Int32) (k12 : Int32 → Int32 → Int32 → Int32 → Option (Int32)) (K12 : ∀  (x2 : Int32) (x3 : Int32) (x4 : Int32) (x5 : Int32), k12 x2 x3 x4 x5 = some r → hS p l e rmX5_keyAt s m args below meth c 10 D A 0 0 (MQ below (cQ D (ty4 cT) A (some (.int r)) []) args s 0 0 A) 12 [(2, .int x2), (3, .int x3), (4, .int x4), (5, .int x5)] [] []) : ∀  (x2 : Int32) (x3 : Int32) (x4 : Int32) (x5 : Int32), f_X5_keyAt_127 n k12 x2 x3 x4 x5 = some r → hS p l e rmX5_keyAt s m args below meth c 10 D A 0 0 (MQ below (cQ D (ty4 cT) A (some (.int r)) []) args s 0 0 A) 127 [(2, .int x2), (3, .int x3), (4, .int x4), (5, .int x5)] [] [] := by
  intro x2 x3 x4 x5 hf
  unfold f_X5_keyAt_127 at hf
  refine h_iload (pc := 127) C dX5_keyAt_127 3 rfl ?_
  refine h_iconst (pc := 129) C dX5_keyAt_129 jc_2 ?_
  refine h_idiv (pc := 130) C dX5_keyAt_130 (by decide) ?_
  refine h_istore (pc := 131) (lv' := [(5, .int (x5 / 2)), (2, .int x2), (3, .int x3), (4, .int x4)]) C dX5_keyAt_131 (by decide) rfl ?_
  refine h_goto (pc := 133) (tgt := 12) C dX5_keyAt_133 (by decide) ?_
  refine h_sub [1, 2, 3, 0] rfl ?_
  exact K12 x2 x3 x4 (x5 / 2) hf
set_option maxRecDepth 100000 in
set_option maxHeartbeats 4000000 in
theorem k_X5_keyAt_119 {p : Program} {e : Env} {s : State} {m : MethodId} {args : Array Value} {below : List Frame} {meth : Method} {c : Code} {A : Nat → Prop} (l : Launch) (D : va_G) (cT : Nat → ClassId) (ad : Nat → Nat) (C : hC p s m args meth c cX5_keyAt 10 wsX5_keyAt RX5 D (ty4 cT) A) (hr : meth.sig.returnType = (some .int)) (n : Nat)  (r : Int32) (k12 : Int32 → Int32 → Int32 → Int32 → Option (Int32)) (K12 : ∀  (x2 : Int32) (x3 : Int32) (x4 : Int32) (x5 : Int32), k12 x2 x3 x4 x5 = some r → hS p l e rmX5_keyAt s m args below meth c 10 D A 0 0 (MQ below (cQ D (ty4 cT) A (some (.int r)) []) args s 0 0 A) 12 [(2, .int x2), (3, .int x3), (4, .int x4), (5, .int x5)] [] []) : ∀  (x4 : Int32) (x5 : Int32) (x8 : Int32) (t0 : Int32), f_X5_keyAt_119 n k12 x4 x5 x8 t0 = some r → hS p l e rmX5_keyAt s m args below meth c 10 D A 0 0 (MQ below (cQ D (ty4 cT) A (some (.int r)) []) args s 0 0 A) 119 [(4, .int x4), (5, .int x5), (8, .int x8)] (.int t0 :: []) [] := by
  intro x4 x5 x8 t0 hf
  unfold f_X5_keyAt_119 at hf
  refine h_istore (pc := 119) (lv' := [(9, .int t0), (4, .int x4), (5, .int x5), (8, .int x8)]) C dX5_keyAt_119 (by decide) rfl ?_
  refine h_iload (pc := 121) C dX5_keyAt_121 0 rfl ?_
  refine h_istore_n (pc := 123) (lv' := [(2, .int t0), (9, .int t0), (4, .int x4), (5, .int x5), (8, .int x8)]) C dX5_keyAt_123 rfl (by decide) rfl ?_
  refine h_iload (pc := 124) C dX5_keyAt_124 4 rfl ?_
  refine h_istore_n (pc := 126) (lv' := [(3, .int x8), (2, .int t0), (9, .int t0), (4, .int x4), (5, .int x5), (8, .int x8)]) C dX5_keyAt_126 rfl (by decide) rfl ?_
  refine h_sub [1, 0, 3, 4] rfl ?_
  exact k_X5_keyAt_127 l D cT ad C hr n r k12 K12 t0 x8 x4 x5 hf
set_option maxRecDepth 100000 in
set_option maxHeartbeats 4000000 in
theorem k_X5_keyAt_103 {p : Program} {e : Env} {s : State} {m : MethodId} {args : Array Value} {below : List Frame} {meth : Method} {c : Code} {A : Nat → Prop} (l : Launch) (D : va_G) (cT : Nat → ClassId) (ad : Nat → Nat) (C : hC p s m args meth c cX5_keyAt 10 wsX5_keyAt RX5 D (ty4 cT) A) (hr : meth.sig.returnType = (some .int)) (n : Nat)  (r : Int32) (k12 : Int32 → Int32 → Int32 → Int32 → Option (Int32)) (K12 : ∀  (x2 : Int32) (x3 : Int32) (x4 : Int32) (x5 : Int32), k12 x2 x3 x4 x5 = some r → hS p l e rmX5_keyAt s m args below meth c 10 D A 0 0 (MQ below (cQ D (ty4 cT) A (some (.int r)) []) args s 0 0 A) 12 [(2, .int x2), (3, .int x3), (4, .int x4), (5, .int x5)] [] []) : ∀  (x3 : Int32) (x4 : Int32) (x5 : Int32) (x6 : Int32) (t0 : Int32), f_X5_keyAt_103 n k12 x3 x4 x5 x6 t0 = some r → hS p l e rmX5_keyAt s m args below meth c 10 D A 0 0 (MQ below (cQ D (ty4 cT) A (some (.int r)) []) args s 0 0 A) 103 [(3, .int x3), (4, .int x4), (5, .int x5), (6, .int x6)] (.int t0 :: []) [] := by
  intro x3 x4 x5 x6 t0 hf
  unfold f_X5_keyAt_103 at hf
  refine h_istore (pc := 103) (lv' := [(8, .int t0), (3, .int x3), (4, .int x4), (5, .int x5), (6, .int x6)]) C dX5_keyAt_103 (by decide) rfl ?_
  refine h_iload (pc := 105) C dX5_keyAt_105 4 rfl ?_
  refine h_if_eq (pc := 107) (tgt := 118) C dX5_keyAt_107 (by decide) (fun q => ?_) (fun q => ?_)
  · replace hf := jif_t q hf
    clear q
    refine h_iload_n (pc := 118) C dX5_keyAt_118 rfl 1 rfl ?_
    refine h_sub [2, 3, 0] rfl ?_
    exact k_X5_keyAt_119 l D cT ad C hr n r k12 K12 x4 x5 t0 x3 hf
  · replace hf := jif_f q hf
    clear q
    refine h_sipush (pc := 110) C dX5_keyAt_110 js_255 ?_
    refine h_iload_n (pc := 113) C dX5_keyAt_113 rfl 1 rfl ?_
    refine h_isub (pc := 114) C dX5_keyAt_114 ?_
    refine h_goto (pc := 115) (tgt := 119) C dX5_keyAt_115 (by decide) ?_
    refine h_sub [2, 3, 0] rfl ?_
    exact k_X5_keyAt_119 l D cT ad C hr n r k12 K12 x4 x5 t0 (255 - x3) hf
set_option maxRecDepth 100000 in
set_option maxHeartbeats 4000000 in
theorem k_X5_keyAt_80 {p : Program} {e : Env} {s : State} {m : MethodId} {args : Array Value} {below : List Frame} {meth : Method} {c : Code} {A : Nat → Prop} (l : Launch) (D : va_G) (cT : Nat → ClassId) (ad : Nat → Nat) (C : hC p s m args meth c cX5_keyAt 10 wsX5_keyAt RX5 D (ty4 cT) A) (hr : meth.sig.returnType = (some .int)) (n : Nat)  (r : Int32) (k12 : Int32 → Int32 → Int32 → Int32 → Option (Int32)) (K12 : ∀  (x2 : Int32) (x3 : Int32) (x4 : Int32) (x5 : Int32), k12 x2 x3 x4 x5 = some r → hS p l e rmX5_keyAt s m args below meth c 10 D A 0 0 (MQ below (cQ D (ty4 cT) A (some (.int r)) []) args s 0 0 A) 12 [(2, .int x2), (3, .int x3), (4, .int x4), (5, .int x5)] [] []) : ∀  (x2 : Int32) (x3 : Int32) (x5 : Int32) (x6 : Int32) (x7 : Int32) (t0 : Int32) (t1 : Int32) (t2 : Int32), f_X5_keyAt_80 n k12 x2 x3 x5 x6 x7 t0 t1 t2 = some r → hS p l e rmX5_keyAt s m args below meth c 10 D A 0 0 (MQ below (cQ D (ty4 cT) A (some (.int r)) []) args s 0 0 A) 80 [(2, .int x2), (3, .int x3), (5, .int x5), (6, .int x6), (7, .int x7)] (.int t2 :: .int t1 :: .int t0 :: []) [] := by
  intro x2 x3 x5 x6 x7 t0 t1 t2 hf
  unfold f_X5_keyAt_80 at hf
  refine h_imul (pc := 80) C dX5_keyAt_80 ?_
  refine h_iadd (pc := 81) C dX5_keyAt_81 ?_
  refine h_istore (pc := 82) (lv' := [(4, .int (t0 + (t1 * t2))), (2, .int x2), (3, .int x3), (5, .int x5), (6, .int x6), (7, .int x7)]) C dX5_keyAt_82 (by decide) rfl ?_
  refine h_iload (pc := 84) C dX5_keyAt_84 5 rfl ?_
  refine h_if_ne (pc := 86) (tgt := 127) C dX5_keyAt_86 (by decide) (fun q => ?_) (fun q => ?_)
  · replace hf := jif_f q hf
    clear q
    refine h_sub [1, 2, 0, 3] rfl ?_
    exact k_X5_keyAt_127 l D cT ad C hr n r k12 K12 x2 x3 (t0 + (t1 * t2)) x5 hf
  · replace hf := jif_t q hf
    clear q
    refine h_iload (pc := 89) C dX5_keyAt_89 4 rfl ?_
    refine h_if_eq (pc := 91) (tgt := 102) C dX5_keyAt_91 (by decide) (fun q => ?_) (fun q => ?_)
    · replace hf := jif_t q hf
      clear q
      refine h_iload_n (pc := 102) C dX5_keyAt_102 rfl 1 rfl ?_
      refine h_sub [2, 0, 3, 4] rfl ?_
      exact k_X5_keyAt_103 l D cT ad C hr n r k12 K12 x3 (t0 + (t1 * t2)) x5 x6 x2 hf
    · replace hf := jif_f q hf
      clear q
      refine h_sipush (pc := 94) C dX5_keyAt_94 js_255 ?_
      refine h_iload_n (pc := 97) C dX5_keyAt_97 rfl 1 rfl ?_
      refine h_isub (pc := 98) C dX5_keyAt_98 ?_
      refine h_goto (pc := 99) (tgt := 103) C dX5_keyAt_99 (by decide) ?_
      refine h_sub [2, 0, 3, 4] rfl ?_
      exact k_X5_keyAt_103 l D cT ad C hr n r k12 K12 x3 (t0 + (t1 * t2)) x5 x6 (255 - x2) hf
set_option maxRecDepth 100000 in
set_option maxHeartbeats 4000000 in
theorem k_X5_keyAt_43 {p : Program} {e : Env} {s : State} {m : MethodId} {args : Array Value} {below : List Frame} {meth : Method} {c : Code} {A : Nat → Prop} (l : Launch) (D : va_G) (cT : Nat → ClassId) (ad : Nat → Nat) (C : hC p s m args meth c cX5_keyAt 10 wsX5_keyAt RX5 D (ty4 cT) A) (hr : meth.sig.returnType = (some .int)) (n : Nat)  (r : Int32) (k12 : Int32 → Int32 → Int32 → Int32 → Option (Int32)) (K12 : ∀  (x2 : Int32) (x3 : Int32) (x4 : Int32) (x5 : Int32), k12 x2 x3 x4 x5 = some r → hS p l e rmX5_keyAt s m args below meth c 10 D A 0 0 (MQ below (cQ D (ty4 cT) A (some (.int r)) []) args s 0 0 A) 12 [(2, .int x2), (3, .int x3), (4, .int x4), (5, .int x5)] [] []) : ∀  (x2 : Int32) (x3 : Int32) (x4 : Int32) (x5 : Int32) (x6 : Int32) (t0 : Int32), f_X5_keyAt_43 n k12 x2 x3 x4 x5 x6 t0 = some r → hS p l e rmX5_keyAt s m args below meth c 10 D A 0 0 (MQ below (cQ D (ty4 cT) A (some (.int r)) []) args s 0 0 A) 43 [(2, .int x2), (3, .int x3), (4, .int x4), (5, .int x5), (6, .int x6)] (.int t0 :: []) [] := by
  intro x2 x3 x4 x5 x6 t0 hf
  unfold f_X5_keyAt_43 at hf
  refine h_istore (pc := 43) (lv' := [(7, .int t0), (2, .int x2), (3, .int x3), (4, .int x4), (5, .int x5), (6, .int x6)]) C dX5_keyAt_43 (by decide) rfl ?_
  refine h_iload (pc := 45) C dX5_keyAt_45 3 rfl ?_
  refine h_iload (pc := 47) C dX5_keyAt_47 4 rfl ?_
  refine h_iload (pc := 49) C dX5_keyAt_49 4 rfl ?_
  refine h_imul (pc := 51) C dX5_keyAt_51 ?_
  refine h_iload (pc := 52) C dX5_keyAt_52 5 rfl ?_
  refine h_if_eq (pc := 54) (tgt := 70) C dX5_keyAt_54 (by decide) (fun q => ?_) (fun q => ?_)
  · replace hf := jif_t q hf
    clear q
    refine h_iload (pc := 70) C dX5_keyAt_70 0 rfl ?_
    refine h_if_eq (pc := 72) (tgt := 79) C dX5_keyAt_72 (by decide) (fun q => ?_) (fun q => ?_)
    · replace hf := jif_t q hf
      clear q
      refine h_iconst (pc := 79) C dX5_keyAt_79 jc_0 ?_
      refine h_sub [1, 2, 4, 5, 0] rfl ?_
      exact k_X5_keyAt_80 l D cT ad C hr n r k12 K12 x2 x3 x5 x6 t0 x4 (x5 * x5) 0 hf
    · replace hf := jif_f q hf
      clear q
      refine h_iconst (pc := 75) C dX5_keyAt_75 jc_1 ?_
      refine h_goto (pc := 76) (tgt := 80) C dX5_keyAt_76 (by decide) ?_
      refine h_sub [1, 2, 4, 5, 0] rfl ?_
      exact k_X5_keyAt_80 l D cT ad C hr n r k12 K12 x2 x3 x5 x6 t0 x4 (x5 * x5) 1 hf
  · replace hf := jif_f q hf
    clear q
    refine h_iload (pc := 57) C dX5_keyAt_57 0 rfl ?_
    refine h_if_eq (pc := 59) (tgt := 66) C dX5_keyAt_59 (by decide) (fun q => ?_) (fun q => ?_)
    · replace hf := jif_t q hf
      clear q
      refine h_iconst (pc := 66) C dX5_keyAt_66 jc_3 ?_
      refine h_goto (pc := 67) (tgt := 80) C dX5_keyAt_67 (by decide) ?_
      refine h_sub [1, 2, 4, 5, 0] rfl ?_
      exact k_X5_keyAt_80 l D cT ad C hr n r k12 K12 x2 x3 x5 x6 t0 x4 (x5 * x5) 3 hf
    · replace hf := jif_f q hf
      clear q
      refine h_iconst (pc := 62) C dX5_keyAt_62 jc_2 ?_
      refine h_goto (pc := 63) (tgt := 80) C dX5_keyAt_63 (by decide) ?_
      refine h_sub [1, 2, 4, 5, 0] rfl ?_
      exact k_X5_keyAt_80 l D cT ad C hr n r k12 K12 x2 x3 x5 x6 t0 x4 (x5 * x5) 2 hf
set_option maxRecDepth 100000 in
set_option maxHeartbeats 4000000 in
theorem k_X5_keyAt_29 {p : Program} {e : Env} {s : State} {m : MethodId} {args : Array Value} {below : List Frame} {meth : Method} {c : Code} {A : Nat → Prop} (l : Launch) (D : va_G) (cT : Nat → ClassId) (ad : Nat → Nat) (C : hC p s m args meth c cX5_keyAt 10 wsX5_keyAt RX5 D (ty4 cT) A) (hr : meth.sig.returnType = (some .int)) (n : Nat)  (r : Int32) (k12 : Int32 → Int32 → Int32 → Int32 → Option (Int32)) (K12 : ∀  (x2 : Int32) (x3 : Int32) (x4 : Int32) (x5 : Int32), k12 x2 x3 x4 x5 = some r → hS p l e rmX5_keyAt s m args below meth c 10 D A 0 0 (MQ below (cQ D (ty4 cT) A (some (.int r)) []) args s 0 0 A) 12 [(2, .int x2), (3, .int x3), (4, .int x4), (5, .int x5)] [] []) : ∀  (x2 : Int32) (x3 : Int32) (x4 : Int32) (x5 : Int32) (t0 : Int32), f_X5_keyAt_29 n k12 x2 x3 x4 x5 t0 = some r → hS p l e rmX5_keyAt s m args below meth c 10 D A 0 0 (MQ below (cQ D (ty4 cT) A (some (.int r)) []) args s 0 0 A) 29 [(2, .int x2), (3, .int x3), (4, .int x4), (5, .int x5)] (.int t0 :: []) [] := by
  intro x2 x3 x4 x5 t0 hf
  unfold f_X5_keyAt_29 at hf
  refine h_istore (pc := 29) (lv' := [(6, .int t0), (2, .int x2), (3, .int x3), (4, .int x4), (5, .int x5)]) C dX5_keyAt_29 (by decide) rfl ?_
  refine h_iload_n (pc := 31) C dX5_keyAt_31 rfl 2 rfl ?_
  refine h_iload (pc := 32) C dX5_keyAt_32 4 rfl ?_
  refine h_iand (pc := 34) C dX5_keyAt_34 ?_
  refine h_if_le (pc := 35) (tgt := 42) C dX5_keyAt_35 (by decide) (fun q => ?_) (fun q => ?_)
  · replace hf := jif_t q hf
    clear q
    refine h_iconst (pc := 42) C dX5_keyAt_42 jc_0 ?_
    refine h_sub [1, 2, 3, 4, 0] rfl ?_
    exact k_X5_keyAt_43 l D cT ad C hr n r k12 K12 x2 x3 x4 x5 t0 0 hf
  · replace hf := jif_f q hf
    clear q
    refine h_iconst (pc := 38) C dX5_keyAt_38 jc_1 ?_
    refine h_goto (pc := 39) (tgt := 43) C dX5_keyAt_39 (by decide) ?_
    refine h_sub [1, 2, 3, 4, 0] rfl ?_
    exact k_X5_keyAt_43 l D cT ad C hr n r k12 K12 x2 x3 x4 x5 t0 1 hf
set_option maxRecDepth 100000 in
set_option maxHeartbeats 4000000 in
theorem k_X5_keyAt_12 {p : Program} {e : Env} {s : State} {m : MethodId} {args : Array Value} {below : List Frame} {meth : Method} {c : Code} {A : Nat → Prop} (l : Launch) (D : va_G) (cT : Nat → ClassId) (ad : Nat → Nat) (C : hC p s m args meth c cX5_keyAt 10 wsX5_keyAt RX5 D (ty4 cT) A) (hr : meth.sig.returnType = (some .int)) (n : Nat)  (r : Int32)  : ∀ (fu : Nat)  (x2 : Int32) (x3 : Int32) (x4 : Int32) (x5 : Int32), f_X5_keyAt_12 n fu x2 x3 x4 x5 = some r → hS p l e rmX5_keyAt s m args below meth c 10 D A 0 0 (MQ below (cQ D (ty4 cT) A (some (.int r)) []) args s 0 0 A) 12 [(2, .int x2), (3, .int x3), (4, .int x4), (5, .int x5)] [] [] := by
  intro fu
  induction fu with
  | zero =>
    intro x2 x3 x4 x5 hf
    exact nomatch (show (none : Option (Int32)) = some r from hf)
  | succ fu ih =>
    intro x2 x3 x4 x5 hf
    rw [f_X5_keyAt_12] at hf
    refine h_iload (pc := 12) C dX5_keyAt_12 3 rfl ?_
    refine h_if_le (pc := 14) (tgt := 136) C dX5_keyAt_14 (by decide) (fun q => ?_) (fun q => ?_)
    · replace hf := jif_t q hf
      clear q
      refine h_iload (pc := 136) C dX5_keyAt_136 2 rfl ?_
      have g0 := (Option.some.inj hf)
      clear hf
      subst g0
      exact h_iret C hr dX5_keyAt_138
    · replace hf := jif_f q hf
      clear q
      refine h_iload_n (pc := 17) C dX5_keyAt_17 rfl 0 rfl ?_
      refine h_iload (pc := 18) C dX5_keyAt_18 3 rfl ?_
      refine h_iand (pc := 20) C dX5_keyAt_20 ?_
      refine h_if_le (pc := 21) (tgt := 28) C dX5_keyAt_21 (by decide) (fun q => ?_) (fun q => ?_)
      · replace hf := jif_t q hf
        clear q
        refine h_iconst (pc := 28) C dX5_keyAt_28 jc_0 ?_
        exact k_X5_keyAt_29 l D cT ad C hr n r (f_X5_keyAt_12 n fu) ih x2 x3 x4 x5 0 hf
      · replace hf := jif_f q hf
        clear q
        refine h_iconst (pc := 24) C dX5_keyAt_24 jc_1 ?_
        refine h_goto (pc := 25) (tgt := 29) C dX5_keyAt_25 (by decide) ?_
        exact k_X5_keyAt_29 l D cT ad C hr n r (f_X5_keyAt_12 n fu) ih x2 x3 x4 x5 1 hf
set_option maxRecDepth 100000 in
set_option maxHeartbeats 4000000 in
theorem c_X5_keyAt (l : Launch) (D : va_G) (cT : Nat → ClassId) (ad : Nat → Nat) (n : Nat)  (a0 : Int32) (a1 : Int32) (r : Int32) (hf : f_X5_keyAt n a0 a1 = some r) : cM l yX5_keyAt wsX5_keyAt rmX5_keyAt D (ty4 cT) [.int a0, .int a1] [] (some (.int r)) [] := by
  refine cM_of (cc := cX5_keyAt) (maxL := 10) (ret := (some .int)) (own := RX5) (lv := [(0, .int a0), (1, .int a1)]) (by decide) rfl (Nat.le_of_ble_eq_true rfl) rfl rfl ?_
  intro p e s m args below meth c A C hr
  unfold f_X5_keyAt at hf
  refine h_iload_n (pc := 0) C dX5_keyAt_0 rfl 0 rfl ?_
  refine h_istore_n (pc := 1) (lv' := [(2, .int a0), (0, .int a0), (1, .int a1)]) C dX5_keyAt_1 rfl (by decide) rfl ?_
  refine h_iload_n (pc := 2) C dX5_keyAt_2 rfl 2 rfl ?_
  refine h_istore_n (pc := 3) (lv' := [(3, .int a1), (2, .int a0), (0, .int a0), (1, .int a1)]) C dX5_keyAt_3 rfl (by decide) rfl ?_
  refine h_iconst (pc := 4) C dX5_keyAt_4 jc_0 ?_
  refine h_istore (pc := 5) (lv' := [(4, .int 0), (3, .int a1), (2, .int a0), (0, .int a0), (1, .int a1)]) C dX5_keyAt_5 (by decide) rfl ?_
  refine h_sipush (pc := 7) C dX5_keyAt_7 js_128 ?_
  refine h_istore (pc := 10) (lv' := [(5, .int 128), (4, .int 0), (3, .int a1), (2, .int a0), (0, .int a0), (1, .int a1)]) C dX5_keyAt_10 (by decide) rfl ?_
  refine h_sub [3, 2, 1, 0] rfl ?_
  exact k_X5_keyAt_12 l D cT ad C hr n r n a0 a1 0 128 hf
theorem ps_X5_keyAt : yX5_keyAt.cls ≠ "java/lang/invoke/MethodHandle" ∧ yX5_keyAt.cls ≠ "java/lang/invoke/VarHandle" ∧ (parseMethodDescriptor yX5_keyAt.desc).map (fun d => d.parameters.length) = some 2 := by decide +kernel
abbrev rmX5_many : Room := { frames := 0, cells := 0, slots := 0, locals := 0 }
theorem uX5_many_X5 : ∀ w ∈ u_ws RX5 TX5 16, w ∈ wsX5_many := fun w h => List.mem_cons_of_mem _ (List.mem_append_right _ h)
set_option maxRecDepth 100000 in
set_option maxHeartbeats 4000000 in
theorem c_X5_many (l : Launch) (D : va_G) (cT : Nat → ClassId) (ad : Nat → Nat) (n : Nat) (madded : Int32) (msides : Nat → Int32) (mkey : Nat → Int32) (misThere : Nat → Int32) (mboxes : Int32) (morder : Nat → Int32) (mlevels : Int32) (mnodes : Nat → Int32) (mentries : Nat → Int32) (mleft : Int32) (mlow : Int32) (mright : Int32) (mhigh : Int32) (mfirst : Int32) (mend : Int32) (mthrown : Int32) (a1 : Int32) (a2 : Int32) (r : Int32) (hf : f_X5_many n mentries a1 a2 = some r) : cM l yX5_many wsX5_many rmX5_many D (ty4 cT) [.ref (ad 10), .int a1, .int a2] (wM cT ad madded msides mkey misThere mboxes morder mlevels mnodes mentries mleft mlow mright mhigh mfirst mend mthrown) (some (.int r)) (wM cT ad madded msides mkey misThere mboxes morder mlevels mnodes mentries mleft mlow mright mhigh mfirst mend mthrown) := by
  refine cM_of (cc := cX5_many) (maxL := 3) (ret := (some .int)) (own := RX5) (lv := [(0, .ref (ad 10)), (1, .int a1), (2, .int a2)]) (by decide) rfl (Nat.le_of_ble_eq_true rfl) rfl rfl ?_
  intro p e s m args below meth c A C hr
  unfold f_X5_many at hf
  refine h_aload_n (pc := 0) C dX5_many_0 rfl 0 rfl ?_
  refine h_get (pc := 1) (ci := 3) (C0 := RX5) (T := TX5) (N := 16) C uX5_many_X5 rfl 0 rfl 8 (by decide) (List.mem_of_getElem? (i := 1) rfl) rfl rfl dX5_many_1 ?_
  refine h_bipush (pc := 4) C dX5_many_4 jb_64 ?_
  refine h_iload_n (pc := 6) C dX5_many_6 rfl 1 rfl ?_
  refine h_imul (pc := 7) C dX5_many_7 ?_
  refine h_iload_n (pc := 8) C dX5_many_8 rfl 2 rfl ?_
  refine h_iadd (pc := 9) C dX5_many_9 ?_
  obtain ⟨hi, v1, hv, hf⟩ := jrd_s hf
  refine h_iald (pc := 10) C 6 0 rfl rfl hi hv dX5_many_10 ?_
  clear hi hv
  have g0 := (Option.some.inj hf)
  clear hf
  subst g0
  exact h_iret C hr dX5_many_11
theorem pv_X5_many : yX5_many.cls = RX5 ∧ yX5_many.cls ≠ "java/lang/invoke/MethodHandle" ∧ yX5_many.cls ≠ "java/lang/invoke/VarHandle" ∧ (parseMethodDescriptor yX5_many.desc).map (fun d => d.parameters.length) = some 2 := by decide +kernel
abbrev rmX5_ahead : Room := { frames := 1, cells := 0, slots := 0, locals := 22 }
set_option maxRecDepth 100000 in
set_option maxHeartbeats 4000000 in
theorem k_X5_ahead_5 {p : Program} {e : Env} {s : State} {m : MethodId} {args : Array Value} {below : List Frame} {meth : Method} {c : Code} {A : Nat → Prop} (l : Launch) (D : va_G) (cT : Nat → ClassId) (ad : Nat → Nat) (C : hC p s m args meth c cX5_ahead 5 wsX5_ahead RX5 D (ty4 cT) A) (hr : meth.sig.returnType = (some .int)) (n : Nat) (madded : Int32) (msides : Nat → Int32) (mkey : Nat → Int32) (misThere : Nat → Int32) (mboxes : Int32) (morder : Nat → Int32) (mlevels : Int32) (mnodes : Nat → Int32) (mentries : Nat → Int32) (mleft : Int32) (mlow : Int32) (mright : Int32) (mhigh : Int32) (mfirst : Int32) (mend : Int32) (mthrown : Int32) (r : Int32)  : ∀ (fu : Nat)  (x1 : Int32) (x2 : Int32) (x3 : Int32) (x4 : Int32), f_X5_ahead_5 n mentries fu x1 x2 x3 x4 = some r → hS p l e rmX5_ahead s m args below meth c 5 D A 0 0 (MQ below (cQ D (ty4 cT) A (some (.int r)) (wM cT ad madded msides mkey misThere mboxes morder mlevels mnodes mentries mleft mlow mright mhigh mfirst mend mthrown)) args s 0 0 A) 5 [(0, .ref (ad 10)), (1, .int x1), (2, .int x2), (3, .int x3), (4, .int x4)] [] (wM cT ad madded msides mkey misThere mboxes morder mlevels mnodes mentries mleft mlow mright mhigh mfirst mend mthrown) := by
  intro fu
  induction fu with
  | zero =>
    intro x1 x2 x3 x4 hf
    exact nomatch (show (none : Option (Int32)) = some r from hf)
  | succ fu ih =>
    intro x1 x2 x3 x4 hf
    rw [f_X5_ahead_5] at hf
    refine h_iload (pc := 5) C dX5_ahead_5 4 rfl ?_
    refine h_iload_n (pc := 7) C dX5_ahead_7 rfl 2 rfl ?_
    refine h_icmp_ge (pc := 8) (tgt := 27) C dX5_ahead_8 (by decide) (fun q => ?_) (fun q => ?_)
    · replace hf := jif_t q hf
      clear q
      refine h_iload_n (pc := 27) C dX5_ahead_27 rfl 3 rfl ?_
      have g0 := (Option.some.inj hf)
      clear hf
      subst g0
      exact h_iret C hr dX5_ahead_28
    · replace hf := jif_f q hf
      clear q
      refine h_iload_n (pc := 11) C dX5_ahead_11 rfl 3 rfl ?_
      refine h_aload_n (pc := 12) C dX5_ahead_12 rfl 0 rfl ?_
      refine h_iload_n (pc := 13) C dX5_ahead_13 rfl 1 rfl ?_
      refine h_iload (pc := 14) C dX5_ahead_14 4 rfl ?_
      obtain ⟨v1, hc, hf⟩ := jbd_s hf
      refine h_callV (pc := 16) (q0 := 0) (As := [.int x1, .int x4]) (rest := .int x3 :: []) (ws' := (wM cT ad madded msides mkey misThere mboxes morder mlevels mnodes mentries mleft mlow mright mhigh mfirst mend mthrown)) (st2 := .int v1 :: .int x3 :: []) C (c_X5_many l D cT ad n madded msides mkey misThere mboxes morder mlevels mnodes mentries mleft mlow mright mhigh mfirst mend mthrown x1 x4 v1 hc) (cwV 2 C.1.2.2.2.2 gX5_ahead_X5_many rfl rfl rfl pv_X5_many ⟨(Nat.le_of_ble_eq_true rfl), (Nat.le_of_ble_eq_true rfl)⟩) dX5_ahead_16 rfl rfl rfl rfl rfl (Nat.le_of_ble_eq_true rfl) ⟨rfl, rfl⟩ ⟨(Nat.le_of_ble_eq_true rfl), (Nat.le_of_ble_eq_true rfl)⟩ [0, 1, 2, 3, 4, 5, 6] [] [0, 1, 2, 3, 4, 5, 6] rfl rfl rfl rfl (by decide) rfl rfl rfl ?_
      clear hc
      refine h_iadd (pc := 19) C dX5_ahead_19 ?_
      refine h_istore_n (pc := 20) (lv' := [(3, .int (x3 + v1)), (0, .ref (ad 10)), (1, .int x1), (2, .int x2), (4, .int x4)]) C dX5_ahead_20 rfl (by decide) rfl ?_
      refine h_iinc (pc := 21) (v := x4 + 1) (lv' := [(4, .int (x4 + 1)), (3, .int (x3 + v1)), (0, .ref (ad 10)), (1, .int x1), (2, .int x2)]) C dX5_ahead_21 4 rfl (ji_1 _) (by decide) rfl ?_
      refine h_goto (pc := 24) (tgt := 5) C dX5_ahead_24 (by decide) ?_
      refine h_sub [2, 3, 4, 1, 0] rfl ?_
      exact ih x1 x2 (x3 + v1) (x4 + 1) hf
set_option maxRecDepth 100000 in
set_option maxHeartbeats 4000000 in
theorem c_X5_ahead (l : Launch) (D : va_G) (cT : Nat → ClassId) (ad : Nat → Nat) (n : Nat) (madded : Int32) (msides : Nat → Int32) (mkey : Nat → Int32) (misThere : Nat → Int32) (mboxes : Int32) (morder : Nat → Int32) (mlevels : Int32) (mnodes : Nat → Int32) (mentries : Nat → Int32) (mleft : Int32) (mlow : Int32) (mright : Int32) (mhigh : Int32) (mfirst : Int32) (mend : Int32) (mthrown : Int32) (a1 : Int32) (a2 : Int32) (r : Int32) (hf : f_X5_ahead n mentries a1 a2 = some r) : cM l yX5_ahead wsX5_ahead rmX5_ahead D (ty4 cT) [.ref (ad 10), .int a1, .int a2] (wM cT ad madded msides mkey misThere mboxes morder mlevels mnodes mentries mleft mlow mright mhigh mfirst mend mthrown) (some (.int r)) (wM cT ad madded msides mkey misThere mboxes morder mlevels mnodes mentries mleft mlow mright mhigh mfirst mend mthrown) := by
  refine cM_of (cc := cX5_ahead) (maxL := 5) (ret := (some .int)) (own := RX5) (lv := [(0, .ref (ad 10)), (1, .int a1), (2, .int a2)]) (by decide) rfl (Nat.le_of_ble_eq_true rfl) rfl rfl ?_
  intro p e s m args below meth c A C hr
  unfold f_X5_ahead at hf
  refine h_iconst (pc := 0) C dX5_ahead_0 jc_0 ?_
  refine h_istore_n (pc := 1) (lv' := [(3, .int 0), (0, .ref (ad 10)), (1, .int a1), (2, .int a2)]) C dX5_ahead_1 rfl (by decide) rfl ?_
  refine h_iconst (pc := 2) C dX5_ahead_2 jc_0 ?_
  refine h_istore (pc := 3) (lv' := [(4, .int 0), (3, .int 0), (0, .ref (ad 10)), (1, .int a1), (2, .int a2)]) C dX5_ahead_3 (by decide) rfl ?_
  refine h_sub [2, 3, 4, 1, 0] rfl ?_
  exact k_X5_ahead_5 l D cT ad C hr n madded msides mkey misThere mboxes morder mlevels mnodes mentries mleft mlow mright mhigh mfirst mend mthrown r n a1 a2 0 0 hf
theorem pv_X5_ahead : yX5_ahead.cls = RX5 ∧ yX5_ahead.cls ≠ "java/lang/invoke/MethodHandle" ∧ yX5_ahead.cls ≠ "java/lang/invoke/VarHandle" ∧ (parseMethodDescriptor yX5_ahead.desc).map (fun d => d.parameters.length) = some 2 := by decide +kernel
abbrev rmX5_above : Room := { frames := 2, cells := 0, slots := 0, locals := 46 }
set_option maxRecDepth 100000 in
set_option maxHeartbeats 4000000 in
theorem k_X5_above_2 {p : Program} {e : Env} {s : State} {m : MethodId} {args : Array Value} {below : List Frame} {meth : Method} {c : Code} {A : Nat → Prop} (l : Launch) (D : va_G) (cT : Nat → ClassId) (ad : Nat → Nat) (C : hC p s m args meth c cX5_above 4 wsX5_above RX5 D (ty4 cT) A) (hr : meth.sig.returnType = (some .int)) (n : Nat) (madded : Int32) (msides : Nat → Int32) (mkey : Nat → Int32) (misThere : Nat → Int32) (mboxes : Int32) (morder : Nat → Int32) (mlevels : Int32) (mnodes : Nat → Int32) (mentries : Nat → Int32) (mleft : Int32) (mlow : Int32) (mright : Int32) (mhigh : Int32) (mfirst : Int32) (mend : Int32) (mthrown : Int32) (r : Int32)  : ∀ (fu : Nat)  (x1 : Int32) (x2 : Int32) (x3 : Int32), f_X5_above_2 n mentries fu x1 x2 x3 = some r → hS p l e rmX5_above s m args below meth c 4 D A 0 0 (MQ below (cQ D (ty4 cT) A (some (.int r)) (wM cT ad madded msides mkey misThere mboxes morder mlevels mnodes mentries mleft mlow mright mhigh mfirst mend mthrown)) args s 0 0 A) 2 [(0, .ref (ad 10)), (1, .int x1), (2, .int x2), (3, .int x3)] [] (wM cT ad madded msides mkey misThere mboxes morder mlevels mnodes mentries mleft mlow mright mhigh mfirst mend mthrown) := by
  intro fu
  induction fu with
  | zero =>
    intro x1 x2 x3 hf
    exact nomatch (show (none : Option (Int32)) = some r from hf)
  | succ fu ih =>
    intro x1 x2 x3 hf
    rw [f_X5_above_2] at hf
    refine h_aload_n (pc := 2) C dX5_above_2 rfl 0 rfl ?_
    refine h_iload_n (pc := 3) C dX5_above_3 rfl 1 rfl ?_
    refine h_iconst (pc := 4) C dX5_above_4 jc_1 ?_
    refine h_iadd (pc := 5) C dX5_above_5 ?_
    refine h_iload_n (pc := 6) C dX5_above_6 rfl 3 rfl ?_
    refine h_iconst (pc := 7) C dX5_above_7 jc_1 ?_
    refine h_iadd (pc := 8) C dX5_above_8 ?_
    obtain ⟨v1, hc, hf⟩ := jbd_s hf
    refine h_callV (pc := 9) (q0 := 0) (As := [.int (x1 + 1), .int (x3 + 1)]) (rest := []) (ws' := (wM cT ad madded msides mkey misThere mboxes morder mlevels mnodes mentries mleft mlow mright mhigh mfirst mend mthrown)) (st2 := .int v1 :: []) C (c_X5_ahead l D cT ad n madded msides mkey misThere mboxes morder mlevels mnodes mentries mleft mlow mright mhigh mfirst mend mthrown (x1 + 1) (x3 + 1) v1 hc) (cwV 2 C.1.2.2.2.2 gX5_above_X5_ahead rfl rfl rfl pv_X5_ahead ⟨(Nat.le_of_ble_eq_true rfl), (Nat.le_of_ble_eq_true rfl)⟩) dX5_above_9 rfl rfl rfl rfl rfl (Nat.le_of_ble_eq_true rfl) ⟨rfl, rfl⟩ ⟨(Nat.le_of_ble_eq_true rfl), (Nat.le_of_ble_eq_true rfl)⟩ [0, 1, 2, 3, 4, 5, 6] [] [0, 1, 2, 3, 4, 5, 6] rfl rfl rfl rfl (by decide) rfl rfl rfl ?_
    clear hc
    refine h_iload_n (pc := 12) C dX5_above_12 rfl 2 rfl ?_
    refine h_icmp_gt (pc := 13) (tgt := 22) C dX5_above_13 (by decide) (fun q => ?_) (fun q => ?_)
    · replace hf := jif_t q hf
      clear q
      refine h_iload_n (pc := 22) C dX5_above_22 rfl 3 rfl ?_
      have g0 := (Option.some.inj hf)
      clear hf
      subst g0
      exact h_iret C hr dX5_above_23
    · replace hf := jif_f q hf
      clear q
      refine h_iinc (pc := 16) (v := x3 + 1) (lv' := [(3, .int (x3 + 1)), (0, .ref (ad 10)), (1, .int x1), (2, .int x2)]) C dX5_above_16 3 rfl (ji_1 _) (by decide) rfl ?_
      refine h_goto (pc := 19) (tgt := 2) C dX5_above_19 (by decide) ?_
      refine h_sub [1, 2, 3, 0] rfl ?_
      exact ih x1 x2 (x3 + 1) hf
set_option maxRecDepth 100000 in
set_option maxHeartbeats 4000000 in
theorem c_X5_above (l : Launch) (D : va_G) (cT : Nat → ClassId) (ad : Nat → Nat) (n : Nat) (madded : Int32) (msides : Nat → Int32) (mkey : Nat → Int32) (misThere : Nat → Int32) (mboxes : Int32) (morder : Nat → Int32) (mlevels : Int32) (mnodes : Nat → Int32) (mentries : Nat → Int32) (mleft : Int32) (mlow : Int32) (mright : Int32) (mhigh : Int32) (mfirst : Int32) (mend : Int32) (mthrown : Int32) (a1 : Int32) (a2 : Int32) (r : Int32) (hf : f_X5_above n mentries a1 a2 = some r) : cM l yX5_above wsX5_above rmX5_above D (ty4 cT) [.ref (ad 10), .int a1, .int a2] (wM cT ad madded msides mkey misThere mboxes morder mlevels mnodes mentries mleft mlow mright mhigh mfirst mend mthrown) (some (.int r)) (wM cT ad madded msides mkey misThere mboxes morder mlevels mnodes mentries mleft mlow mright mhigh mfirst mend mthrown) := by
  refine cM_of (cc := cX5_above) (maxL := 4) (ret := (some .int)) (own := RX5) (lv := [(0, .ref (ad 10)), (1, .int a1), (2, .int a2)]) (by decide) rfl (Nat.le_of_ble_eq_true rfl) rfl rfl ?_
  intro p e s m args below meth c A C hr
  unfold f_X5_above at hf
  refine h_iconst (pc := 0) C dX5_above_0 jc_0 ?_
  refine h_istore_n (pc := 1) (lv' := [(3, .int 0), (0, .ref (ad 10)), (1, .int a1), (2, .int a2)]) C dX5_above_1 rfl (by decide) rfl ?_
  refine h_sub [1, 2, 3, 0] rfl ?_
  exact k_X5_above_2 l D cT ad C hr n madded msides mkey misThere mboxes morder mlevels mnodes mentries mleft mlow mright mhigh mfirst mend mthrown r n a1 a2 0 hf
theorem pv_X5_above : yX5_above.cls = RX5 ∧ yX5_above.cls ≠ "java/lang/invoke/MethodHandle" ∧ yX5_above.cls ≠ "java/lang/invoke/VarHandle" ∧ (parseMethodDescriptor yX5_above.desc).map (fun d => d.parameters.length) = some 2 := by decide +kernel
abbrev rmX5_partner : Room := { frames := 3, cells := 0, slots := 0, locals := 69 }
theorem uX5_partner_X5 : ∀ w ∈ u_ws RX5 TX5 16, w ∈ wsX5_partner := fun w h => List.mem_cons_of_mem _ (List.mem_append_right _ h)
set_option maxRecDepth 100000 in
set_option maxHeartbeats 4000000 in
theorem c_X5_partner (l : Launch) (D : va_G) (cT : Nat → ClassId) (ad : Nat → Nat) (n : Nat) (madded : Int32) (msides : Nat → Int32) (mkey : Nat → Int32) (misThere : Nat → Int32) (mboxes : Int32) (morder : Nat → Int32) (mlevels : Int32) (mnodes : Nat → Int32) (mentries : Nat → Int32) (mleft : Int32) (mlow : Int32) (mright : Int32) (mhigh : Int32) (mfirst : Int32) (mend : Int32) (mthrown : Int32) (a1 : Int32) (a2 : Int32) (r : Int32) (hf : f_X5_partner n mlevels mentries a1 a2 = some r) : cM l yX5_partner wsX5_partner rmX5_partner D (ty4 cT) [.ref (ad 10), .int a1, .int a2] (wM cT ad madded msides mkey misThere mboxes morder mlevels mnodes mentries mleft mlow mright mhigh mfirst mend mthrown) (some (.int r)) (wM cT ad madded msides mkey misThere mboxes morder mlevels mnodes mentries mleft mlow mright mhigh mfirst mend mthrown) := by
  refine cM_of (cc := cX5_partner) (maxL := 6) (ret := (some .int)) (own := RX5) (lv := [(0, .ref (ad 10)), (1, .int a1), (2, .int a2)]) (by decide) rfl (Nat.le_of_ble_eq_true rfl) rfl rfl ?_
  intro p e s m args below meth c A C hr
  unfold f_X5_partner at hf
  refine h_iload_n (pc := 0) C dX5_partner_0 rfl 1 rfl ?_
  refine h_aload_n (pc := 1) C dX5_partner_1 rfl 0 rfl ?_
  refine h_get (pc := 2) (ci := 3) (C0 := RX5) (T := TX5) (N := 16) C uX5_partner_X5 rfl 0 rfl 6 (by decide) (List.mem_of_getElem? (i := 1) rfl) rfl rfl dX5_partner_2 ?_
  refine h_iconst (pc := 5) C dX5_partner_5 jc_1 ?_
  refine h_isub (pc := 6) C dX5_partner_6 ?_
  refine h_icmp_ne (pc := 7) (tgt := 12) C dX5_partner_7 (by decide) (fun q => ?_) (fun q => ?_)
  · replace hf := jif_f q hf
    clear q
    refine h_aload_n (pc := 12) C dX5_partner_12 rfl 0 rfl ?_
    refine h_iload_n (pc := 13) C dX5_partner_13 rfl 1 rfl ?_
    refine h_iload_n (pc := 14) C dX5_partner_14 rfl 2 rfl ?_
    obtain ⟨v1, hc, hf⟩ := jbd_s hf
    refine h_callV (pc := 15) (q0 := 0) (As := [.int a1, .int a2]) (rest := []) (ws' := (wM cT ad madded msides mkey misThere mboxes morder mlevels mnodes mentries mleft mlow mright mhigh mfirst mend mthrown)) (st2 := .int v1 :: []) C (c_X5_above l D cT ad n madded msides mkey misThere mboxes morder mlevels mnodes mentries mleft mlow mright mhigh mfirst mend mthrown a1 a2 v1 hc) (cwV 2 C.1.2.2.2.2 gX5_partner_X5_above rfl rfl rfl pv_X5_above ⟨(Nat.le_of_ble_eq_true rfl), (Nat.le_of_ble_eq_true rfl)⟩) dX5_partner_15 rfl rfl rfl rfl rfl (Nat.le_of_ble_eq_true rfl) ⟨rfl, rfl⟩ ⟨(Nat.le_of_ble_eq_true rfl), (Nat.le_of_ble_eq_true rfl)⟩ [0, 1, 2, 3, 4, 5, 6] [] [0, 1, 2, 3, 4, 5, 6] rfl rfl rfl rfl (by decide) rfl rfl rfl ?_
    clear hc
    refine h_istore_n (pc := 18) (lv' := [(3, .int v1), (0, .ref (ad 10)), (1, .int a1), (2, .int a2)]) C dX5_partner_18 rfl (by decide) rfl ?_
    refine h_aload_n (pc := 19) C dX5_partner_19 rfl 1 rfl ?_
    refine h_iload_n (pc := 20) C dX5_partner_20 rfl 2 rfl ?_
    refine h_iconst (pc := 21) C dX5_partner_21 jc_1 ?_
    refine h_iadd (pc := 22) C dX5_partner_22 ?_
    refine h_iload_n (pc := 23) C dX5_partner_23 rfl 0 rfl ?_
    obtain ⟨v2, hc, hf⟩ := jbd_s hf
    refine h_callV (pc := 24) (q0 := 0) (As := [.int (a1 + 1), .int v1]) (rest := []) (ws' := (wM cT ad madded msides mkey misThere mboxes morder mlevels mnodes mentries mleft mlow mright mhigh mfirst mend mthrown)) (st2 := .int v2 :: []) C (c_X5_ahead l D cT ad n madded msides mkey misThere mboxes morder mlevels mnodes mentries mleft mlow mright mhigh mfirst mend mthrown (a1 + 1) v1 v2 hc) (cwV 2 C.1.2.2.2.2 gX5_partner_X5_ahead rfl rfl rfl pv_X5_ahead ⟨(Nat.le_of_ble_eq_true rfl), (Nat.le_of_ble_eq_true rfl)⟩) dX5_partner_24 rfl rfl rfl rfl rfl (Nat.le_of_ble_eq_true rfl) ⟨rfl, rfl⟩ ⟨(Nat.le_of_ble_eq_true rfl), (Nat.le_of_ble_eq_true rfl)⟩ [0, 1, 2, 3, 4, 5, 6] [] [0, 1, 2, 3, 4, 5, 6] rfl rfl rfl rfl (by decide) rfl rfl rfl ?_
    clear hc
    refine h_istore (pc := 27) (lv' := [(4, .int v2), (3, .int v1), (0, .ref (ad 10)), (1, .int a1), (2, .int a2)]) C dX5_partner_27 (by decide) rfl ?_
    refine h_iload (pc := 29) C dX5_partner_29 0 rfl ?_
    refine h_aload_n (pc := 31) C dX5_partner_31 rfl 2 rfl ?_
    refine h_iload_n (pc := 32) C dX5_partner_32 rfl 3 rfl ?_
    refine h_iconst (pc := 33) C dX5_partner_33 jc_1 ?_
    refine h_iadd (pc := 34) C dX5_partner_34 ?_
    refine h_iload_n (pc := 35) C dX5_partner_35 rfl 1 rfl ?_
    obtain ⟨v3, hc, hf⟩ := jbd_s hf
    refine h_callV (pc := 36) (q0 := 0) (As := [.int (a1 + 1), .int v1]) (rest := .int v2 :: []) (ws' := (wM cT ad madded msides mkey misThere mboxes morder mlevels mnodes mentries mleft mlow mright mhigh mfirst mend mthrown)) (st2 := .int v3 :: .int v2 :: []) C (c_X5_many l D cT ad n madded msides mkey misThere mboxes morder mlevels mnodes mentries mleft mlow mright mhigh mfirst mend mthrown (a1 + 1) v1 v3 hc) (cwV 2 C.1.2.2.2.2 gX5_partner_X5_many rfl rfl rfl pv_X5_many ⟨(Nat.le_of_ble_eq_true rfl), (Nat.le_of_ble_eq_true rfl)⟩) dX5_partner_36 rfl rfl rfl rfl rfl (Nat.le_of_ble_eq_true rfl) ⟨rfl, rfl⟩ ⟨(Nat.le_of_ble_eq_true rfl), (Nat.le_of_ble_eq_true rfl)⟩ [0, 1, 2, 3, 4, 5, 6] [] [0, 1, 2, 3, 4, 5, 6] rfl rfl rfl rfl (by decide) rfl rfl rfl ?_
    clear hc
    refine h_iadd (pc := 39) C dX5_partner_39 ?_
    refine h_istore (pc := 40) (lv' := [(5, .int (v2 + v3)), (4, .int v2), (3, .int v1), (0, .ref (ad 10)), (1, .int a1), (2, .int a2)]) C dX5_partner_40 (by decide) rfl ?_
    refine h_iload_n (pc := 42) C dX5_partner_42 rfl 5 rfl ?_
    refine h_iconst (pc := 43) C dX5_partner_43 jc_1 ?_
    refine h_iadd (pc := 44) C dX5_partner_44 ?_
    refine h_iload (pc := 45) C dX5_partner_45 0 rfl ?_
    refine h_icmp_ge (pc := 47) (tgt := 56) C dX5_partner_47 (by decide) (fun q => ?_) (fun q => ?_)
    · replace hf := jif_t q hf
      clear q
      refine h_iload_n (pc := 56) C dX5_partner_56 rfl 5 rfl ?_
      refine h_iload (pc := 57) C dX5_partner_57 1 rfl ?_
      refine h_icmp_le (pc := 59) (tgt := 68) C dX5_partner_59 (by decide) (fun q => ?_) (fun q => ?_)
      · replace hf := jif_t q hf
        clear q
        refine h_iload_n (pc := 68) C dX5_partner_68 rfl 5 rfl ?_
        have g0 := (Option.some.inj hf)
        clear hf
        subst g0
        exact h_iret C hr dX5_partner_69
      · replace hf := jif_f q hf
        clear q
        refine h_iload_n (pc := 62) C dX5_partner_62 rfl 5 rfl ?_
        refine h_iconst (pc := 63) C dX5_partner_63 jc_1 ?_
        refine h_isub (pc := 64) C dX5_partner_64 ?_
        refine h_goto (pc := 65) (tgt := 69) C dX5_partner_65 (by decide) ?_
        have g0 := (Option.some.inj hf)
        clear hf
        subst g0
        exact h_iret C hr dX5_partner_69
    · replace hf := jif_f q hf
      clear q
      refine h_iload_n (pc := 50) C dX5_partner_50 rfl 5 rfl ?_
      refine h_iconst (pc := 51) C dX5_partner_51 jc_1 ?_
      refine h_iadd (pc := 52) C dX5_partner_52 ?_
      refine h_goto (pc := 53) (tgt := 69) C dX5_partner_53 (by decide) ?_
      have g0 := (Option.some.inj hf)
      clear hf
      subst g0
      exact h_iret C hr dX5_partner_69
  · replace hf := jif_t q hf
    clear q
    refine h_iload_n (pc := 10) C dX5_partner_10 rfl 2 rfl ?_
    have g0 := (Option.some.inj hf)
    clear hf
    subst g0
    exact h_iret C hr dX5_partner_11
theorem pv_X5_partner : yX5_partner.cls = RX5 ∧ yX5_partner.cls ≠ "java/lang/invoke/MethodHandle" ∧ yX5_partner.cls ≠ "java/lang/invoke/VarHandle" ∧ (parseMethodDescriptor yX5_partner.desc).map (fun d => d.parameters.length) = some 2 := by decide +kernel
abbrev rmX5_enters : Room := { frames := 0, cells := 0, slots := 0, locals := 0 }
theorem uX5_enters_X5 : ∀ w ∈ u_ws RX5 TX5 16, w ∈ wsX5_enters := fun w h => List.mem_cons_of_mem _ (List.mem_append_right _ h)
set_option maxRecDepth 100000 in
set_option maxHeartbeats 4000000 in
theorem k_X5_enters_13 {p : Program} {e : Env} {s : State} {m : MethodId} {args : Array Value} {below : List Frame} {meth : Method} {c : Code} {A : Nat → Prop} (l : Launch) (D : va_G) (cT : Nat → ClassId) (ad : Nat → Nat) (C : hC p s m args meth c cX5_enters 5 wsX5_enters RX5 D (ty4 cT) A) (hr : meth.sig.returnType = none) (n : Nat) (madded : Int32) (msides : Nat → Int32) (mkey : Nat → Int32) (misThere : Nat → Int32) (mboxes : Int32) (morder : Nat → Int32) (mlevels : Int32) (mleft : Int32) (mlow : Int32) (mright : Int32) (mhigh : Int32) (mfirst : Int32) (mend : Int32) (mthrown : Int32) (mnodes' : Nat → Int32) (mentries' : Nat → Int32)  : ∀ (fu : Nat) (mnodes : Nat → Int32) (mentries : Nat → Int32) (x1 : Int32) (x2 : Int32) (x3 : Int32) (x4 : Int32), f_X5_enters_13 n fu mnodes mentries x1 x2 x3 x4 = some (mnodes', mentries') → hS p l e rmX5_enters s m args below meth c 5 D A 0 0 (MQ below (cQ D (ty4 cT) A none (wM cT ad madded msides mkey misThere mboxes morder mlevels mnodes' mentries' mleft mlow mright mhigh mfirst mend mthrown)) args s 0 0 A) 13 [(0, .ref (ad 10)), (1, .int x1), (2, .int x2), (3, .int x3), (4, .int x4)] [] (wM cT ad madded msides mkey misThere mboxes morder mlevels mnodes mentries mleft mlow mright mhigh mfirst mend mthrown) := by
  intro fu
  induction fu with
  | zero =>
    intro mnodes mentries x1 x2 x3 x4 hf
    exact nomatch (show (none : Option ((Nat → Int32) × (Nat → Int32))) = some (mnodes', mentries') from hf)
  | succ fu ih =>
    intro mnodes mentries x1 x2 x3 x4 hf
    rw [f_X5_enters_13] at hf
    refine h_iload (pc := 13) C dX5_enters_13 4 rfl ?_
    refine h_bipush (pc := 15) C dX5_enters_15 jb_64 ?_
    refine h_iload_n (pc := 17) C dX5_enters_17 rfl 1 rfl ?_
    refine h_imul (pc := 18) C dX5_enters_18 ?_
    refine h_iload_n (pc := 19) C dX5_enters_19 rfl 2 rfl ?_
    refine h_iadd (pc := 20) C dX5_enters_20 ?_
    refine h_icmp_le (pc := 21) (tgt := 46) C dX5_enters_21 (by decide) (fun q => ?_) (fun q => ?_)
    · replace hf := jif_t q hf
      clear q
      refine h_aload_n (pc := 46) C dX5_enters_46 rfl 0 rfl ?_
      refine h_get (pc := 47) (ci := 3) (C0 := RX5) (T := TX5) (N := 16) C uX5_enters_X5 rfl 0 rfl 8 (by decide) (List.mem_of_getElem? (i := 2) rfl) rfl rfl dX5_enters_47 ?_
      refine h_bipush (pc := 50) C dX5_enters_50 jb_64 ?_
      refine h_iload_n (pc := 52) C dX5_enters_52 rfl 1 rfl ?_
      refine h_imul (pc := 53) C dX5_enters_53 ?_
      refine h_iload_n (pc := 54) C dX5_enters_54 rfl 2 rfl ?_
      refine h_iadd (pc := 55) C dX5_enters_55 ?_
      refine h_iload_n (pc := 56) C dX5_enters_56 rfl 3 rfl ?_
      obtain ⟨hi, w2, hv, hf⟩ := jwr_s hf
      refine h_iast (pc := 57) (ws' := (wM cT ad madded msides mkey misThere mboxes morder mlevels mnodes w2 mleft mlow mright mhigh mfirst mend mthrown)) C 6 0 rfl rfl hi hv rfl dX5_enters_57 ?_
      clear hi hv
      refine h_aload_n (pc := 58) C dX5_enters_58 rfl 0 rfl ?_
      refine h_get (pc := 59) (ci := 3) (C0 := RX5) (T := TX5) (N := 16) C uX5_enters_X5 rfl 0 rfl 7 (by decide) (List.mem_of_getElem? (i := 1) rfl) rfl rfl dX5_enters_59 ?_
      refine h_iload_n (pc := 62) C dX5_enters_62 rfl 1 rfl ?_
      refine h_dup2 (pc := 63) C dX5_enters_63 rfl rfl ?_
      obtain ⟨hi, v3, hv, hf⟩ := jrd_s hf
      refine h_iald (pc := 64) C 5 0 rfl rfl hi hv dX5_enters_64 ?_
      clear hi hv
      refine h_iconst (pc := 65) C dX5_enters_65 jc_1 ?_
      refine h_iadd (pc := 66) C dX5_enters_66 ?_
      obtain ⟨hi, w4, hv, hf⟩ := jwr_s hf
      refine h_iast (pc := 67) (ws' := (wM cT ad madded msides mkey misThere mboxes morder mlevels w4 w2 mleft mlow mright mhigh mfirst mend mthrown)) C 5 0 rfl rfl hi hv rfl dX5_enters_67 ?_
      clear hi hv
      have g0 := (Prod.mk.inj (Option.some.inj hf)).1
      have g1 := (Prod.mk.inj (Option.some.inj hf)).2
      clear hf
      subst g0
      subst g1
      exact h_vret C hr dX5_enters_68
    · replace hf := jif_f q hf
      clear q
      refine h_aload_n (pc := 24) C dX5_enters_24 rfl 0 rfl ?_
      refine h_get (pc := 25) (ci := 3) (C0 := RX5) (T := TX5) (N := 16) C uX5_enters_X5 rfl 0 rfl 8 (by decide) (List.mem_of_getElem? (i := 2) rfl) rfl rfl dX5_enters_25 ?_
      refine h_iload (pc := 28) C dX5_enters_28 4 rfl ?_
      refine h_aload_n (pc := 30) C dX5_enters_30 rfl 0 rfl ?_
      refine h_get (pc := 31) (ci := 3) (C0 := RX5) (T := TX5) (N := 16) C uX5_enters_X5 rfl 0 rfl 8 (by decide) (List.mem_of_getElem? (i := 2) rfl) rfl rfl dX5_enters_31 ?_
      refine h_iload (pc := 34) C dX5_enters_34 4 rfl ?_
      refine h_iconst (pc := 36) C dX5_enters_36 jc_1 ?_
      refine h_isub (pc := 37) C dX5_enters_37 ?_
      obtain ⟨hi, v5, hv, hf⟩ := jrd_s hf
      refine h_iald (pc := 38) C 6 0 rfl rfl hi hv dX5_enters_38 ?_
      clear hi hv
      obtain ⟨hi, w6, hv, hf⟩ := jwr_s hf
      refine h_iast (pc := 39) (ws' := (wM cT ad madded msides mkey misThere mboxes morder mlevels mnodes w6 mleft mlow mright mhigh mfirst mend mthrown)) C 6 0 rfl rfl hi hv rfl dX5_enters_39 ?_
      clear hi hv
      refine h_iinc (pc := 40) (v := x4 + jm1) (lv' := [(4, .int (x4 + jm1)), (0, .ref (ad 10)), (1, .int x1), (2, .int x2), (3, .int x3)]) C dX5_enters_40 4 rfl (ji_m1 _) (by decide) rfl ?_
      refine h_goto (pc := 43) (tgt := 13) C dX5_enters_43 (by decide) ?_
      refine h_sub [1, 2, 3, 4, 0] rfl ?_
      exact ih mnodes w6 x1 x2 x3 (x4 + jm1) hf
set_option maxRecDepth 100000 in
set_option maxHeartbeats 4000000 in
theorem c_X5_enters (l : Launch) (D : va_G) (cT : Nat → ClassId) (ad : Nat → Nat) (n : Nat) (madded : Int32) (msides : Nat → Int32) (mkey : Nat → Int32) (misThere : Nat → Int32) (mboxes : Int32) (morder : Nat → Int32) (mlevels : Int32) (mnodes : Nat → Int32) (mentries : Nat → Int32) (mleft : Int32) (mlow : Int32) (mright : Int32) (mhigh : Int32) (mfirst : Int32) (mend : Int32) (mthrown : Int32) (a1 : Int32) (a2 : Int32) (a3 : Int32) (mnodes' : Nat → Int32) (mentries' : Nat → Int32) (hf : f_X5_enters n mnodes mentries a1 a2 a3 = some (mnodes', mentries')) : cM l yX5_enters wsX5_enters rmX5_enters D (ty4 cT) [.ref (ad 10), .int a1, .int a2, .int a3] (wM cT ad madded msides mkey misThere mboxes morder mlevels mnodes mentries mleft mlow mright mhigh mfirst mend mthrown) none (wM cT ad madded msides mkey misThere mboxes morder mlevels mnodes' mentries' mleft mlow mright mhigh mfirst mend mthrown) := by
  refine cM_of (cc := cX5_enters) (maxL := 5) (ret := none) (own := RX5) (lv := [(0, .ref (ad 10)), (1, .int a1), (2, .int a2), (3, .int a3)]) (by decide) rfl (Nat.le_of_ble_eq_true rfl) rfl rfl ?_
  intro p e s m args below meth c A C hr
  unfold f_X5_enters at hf
  refine h_bipush (pc := 0) C dX5_enters_0 jb_64 ?_
  refine h_iload_n (pc := 2) C dX5_enters_2 rfl 1 rfl ?_
  refine h_imul (pc := 3) C dX5_enters_3 ?_
  refine h_aload_n (pc := 4) C dX5_enters_4 rfl 0 rfl ?_
  refine h_get (pc := 5) (ci := 3) (C0 := RX5) (T := TX5) (N := 16) C uX5_enters_X5 rfl 0 rfl 7 (by decide) (List.mem_of_getElem? (i := 1) rfl) rfl rfl dX5_enters_5 ?_
  refine h_iload_n (pc := 8) C dX5_enters_8 rfl 1 rfl ?_
  obtain ⟨hi, v1, hv, hf⟩ := jrd_s hf
  refine h_iald (pc := 9) C 5 0 rfl rfl hi hv dX5_enters_9 ?_
  clear hi hv
  refine h_iadd (pc := 10) C dX5_enters_10 ?_
  refine h_istore (pc := 11) (lv' := [(4, .int ((64 * a1) + v1)), (0, .ref (ad 10)), (1, .int a1), (2, .int a2), (3, .int a3)]) C dX5_enters_11 (by decide) rfl ?_
  refine h_sub [1, 2, 3, 4, 0] rfl ?_
  exact k_X5_enters_13 l D cT ad C hr n madded msides mkey misThere mboxes morder mlevels mleft mlow mright mhigh mfirst mend mthrown mnodes' mentries' n mnodes mentries a1 a2 a3 ((64 * a1) + v1) hf
theorem pv_X5_enters : yX5_enters.cls = RX5 ∧ yX5_enters.cls ≠ "java/lang/invoke/MethodHandle" ∧ yX5_enters.cls ≠ "java/lang/invoke/VarHandle" ∧ (parseMethodDescriptor yX5_enters.desc).map (fun d => d.parameters.length) = some 3 := by decide +kernel
abbrev rmX5_goes : Room := { frames := 0, cells := 0, slots := 0, locals := 0 }
theorem uX5_goes_X5 : ∀ w ∈ u_ws RX5 TX5 16, w ∈ wsX5_goes := fun w h => List.mem_cons_of_mem _ (List.mem_append_right _ h)
set_option maxRecDepth 100000 in
set_option maxHeartbeats 4000000 in
theorem k_X5_goes_17 {p : Program} {e : Env} {s : State} {m : MethodId} {args : Array Value} {below : List Frame} {meth : Method} {c : Code} {A : Nat → Prop} (l : Launch) (D : va_G) (cT : Nat → ClassId) (ad : Nat → Nat) (C : hC p s m args meth c cX5_goes 4 wsX5_goes RX5 D (ty4 cT) A) (hr : meth.sig.returnType = none) (n : Nat) (madded : Int32) (msides : Nat → Int32) (mkey : Nat → Int32) (misThere : Nat → Int32) (mboxes : Int32) (morder : Nat → Int32) (mlevels : Int32) (mleft : Int32) (mlow : Int32) (mright : Int32) (mhigh : Int32) (mfirst : Int32) (mend : Int32) (mthrown : Int32) (mnodes' : Nat → Int32) (mentries' : Nat → Int32)  : ∀ (fu : Nat) (mnodes : Nat → Int32) (mentries : Nat → Int32) (x1 : Int32) (x3 : Int32), f_X5_goes_17 n fu mnodes mentries x1 x3 = some (mnodes', mentries') → hS p l e rmX5_goes s m args below meth c 4 D A 0 0 (MQ below (cQ D (ty4 cT) A none (wM cT ad madded msides mkey misThere mboxes morder mlevels mnodes' mentries' mleft mlow mright mhigh mfirst mend mthrown)) args s 0 0 A) 17 [(0, .ref (ad 10)), (1, .int x1), (3, .int x3)] [] (wM cT ad madded msides mkey misThere mboxes morder mlevels mnodes mentries mleft mlow mright mhigh mfirst mend mthrown) := by
  intro fu
  induction fu with
  | zero =>
    intro mnodes mentries x1 x3 hf
    exact nomatch (show (none : Option ((Nat → Int32) × (Nat → Int32))) = some (mnodes', mentries') from hf)
  | succ fu ih =>
    intro mnodes mentries x1 x3 hf
    rw [f_X5_goes_17] at hf
    refine h_iload_n (pc := 17) C dX5_goes_17 rfl 2 rfl ?_
    refine h_bipush (pc := 18) C dX5_goes_18 jb_64 ?_
    refine h_iload_n (pc := 20) C dX5_goes_20 rfl 1 rfl ?_
    refine h_imul (pc := 21) C dX5_goes_21 ?_
    refine h_aload_n (pc := 22) C dX5_goes_22 rfl 0 rfl ?_
    refine h_get (pc := 23) (ci := 3) (C0 := RX5) (T := TX5) (N := 16) C uX5_goes_X5 rfl 0 rfl 7 (by decide) (List.mem_of_getElem? (i := 1) rfl) rfl rfl dX5_goes_23 ?_
    refine h_iload_n (pc := 26) C dX5_goes_26 rfl 1 rfl ?_
    obtain ⟨hi, v3, hv, hf⟩ := jrd_s hf
    refine h_iald (pc := 27) C 5 0 rfl rfl hi hv dX5_goes_27 ?_
    clear hi hv
    refine h_iadd (pc := 28) C dX5_goes_28 ?_
    refine h_icmp_ge (pc := 29) (tgt := 52) C dX5_goes_29 (by decide) (fun q => ?_) (fun q => ?_)
    · replace hf := jif_t q hf
      clear q
      have g0 := (Prod.mk.inj (Option.some.inj hf)).1
      have g1 := (Prod.mk.inj (Option.some.inj hf)).2
      clear hf
      subst g0
      subst g1
      exact h_vret C hr dX5_goes_52
    · replace hf := jif_f q hf
      clear q
      refine h_aload_n (pc := 32) C dX5_goes_32 rfl 0 rfl ?_
      refine h_get (pc := 33) (ci := 3) (C0 := RX5) (T := TX5) (N := 16) C uX5_goes_X5 rfl 0 rfl 8 (by decide) (List.mem_of_getElem? (i := 2) rfl) rfl rfl dX5_goes_33 ?_
      refine h_iload_n (pc := 36) C dX5_goes_36 rfl 2 rfl ?_
      refine h_aload_n (pc := 37) C dX5_goes_37 rfl 0 rfl ?_
      refine h_get (pc := 38) (ci := 3) (C0 := RX5) (T := TX5) (N := 16) C uX5_goes_X5 rfl 0 rfl 8 (by decide) (List.mem_of_getElem? (i := 2) rfl) rfl rfl dX5_goes_38 ?_
      refine h_iload_n (pc := 41) C dX5_goes_41 rfl 2 rfl ?_
      refine h_iconst (pc := 42) C dX5_goes_42 jc_1 ?_
      refine h_iadd (pc := 43) C dX5_goes_43 ?_
      obtain ⟨hi, v4, hv, hf⟩ := jrd_s hf
      refine h_iald (pc := 44) C 6 0 rfl rfl hi hv dX5_goes_44 ?_
      clear hi hv
      obtain ⟨hi, w5, hv, hf⟩ := jwr_s hf
      refine h_iast (pc := 45) (ws' := (wM cT ad madded msides mkey misThere mboxes morder mlevels mnodes w5 mleft mlow mright mhigh mfirst mend mthrown)) C 6 0 rfl rfl hi hv rfl dX5_goes_45 ?_
      clear hi hv
      refine h_iinc (pc := 46) (v := x3 + 1) (lv' := [(3, .int (x3 + 1)), (0, .ref (ad 10)), (1, .int x1)]) C dX5_goes_46 2 rfl (ji_1 _) (by decide) rfl ?_
      refine h_goto (pc := 49) (tgt := 17) C dX5_goes_49 (by decide) ?_
      refine h_sub [1, 2, 0] rfl ?_
      exact ih mnodes w5 x1 (x3 + 1) hf
set_option maxRecDepth 100000 in
set_option maxHeartbeats 4000000 in
theorem c_X5_goes (l : Launch) (D : va_G) (cT : Nat → ClassId) (ad : Nat → Nat) (n : Nat) (madded : Int32) (msides : Nat → Int32) (mkey : Nat → Int32) (misThere : Nat → Int32) (mboxes : Int32) (morder : Nat → Int32) (mlevels : Int32) (mnodes : Nat → Int32) (mentries : Nat → Int32) (mleft : Int32) (mlow : Int32) (mright : Int32) (mhigh : Int32) (mfirst : Int32) (mend : Int32) (mthrown : Int32) (a1 : Int32) (a2 : Int32) (mnodes' : Nat → Int32) (mentries' : Nat → Int32) (hf : f_X5_goes n mnodes mentries a1 a2 = some (mnodes', mentries')) : cM l yX5_goes wsX5_goes rmX5_goes D (ty4 cT) [.ref (ad 10), .int a1, .int a2] (wM cT ad madded msides mkey misThere mboxes morder mlevels mnodes mentries mleft mlow mright mhigh mfirst mend mthrown) none (wM cT ad madded msides mkey misThere mboxes morder mlevels mnodes' mentries' mleft mlow mright mhigh mfirst mend mthrown) := by
  refine cM_of (cc := cX5_goes) (maxL := 4) (ret := none) (own := RX5) (lv := [(0, .ref (ad 10)), (1, .int a1), (2, .int a2)]) (by decide) rfl (Nat.le_of_ble_eq_true rfl) rfl rfl ?_
  intro p e s m args below meth c A C hr
  unfold f_X5_goes at hf
  refine h_aload_n (pc := 0) C dX5_goes_0 rfl 0 rfl ?_
  refine h_get (pc := 1) (ci := 3) (C0 := RX5) (T := TX5) (N := 16) C uX5_goes_X5 rfl 0 rfl 7 (by decide) (List.mem_of_getElem? (i := 1) rfl) rfl rfl dX5_goes_1 ?_
  refine h_iload_n (pc := 4) C dX5_goes_4 rfl 1 rfl ?_
  refine h_dup2 (pc := 5) C dX5_goes_5 rfl rfl ?_
  obtain ⟨hi, v1, hv, hf⟩ := jrd_s hf
  refine h_iald (pc := 6) C 5 0 rfl rfl hi hv dX5_goes_6 ?_
  clear hi hv
  refine h_iconst (pc := 7) C dX5_goes_7 jc_1 ?_
  refine h_isub (pc := 8) C dX5_goes_8 ?_
  obtain ⟨hi, w2, hv, hf⟩ := jwr_s hf
  refine h_iast (pc := 9) (ws' := (wM cT ad madded msides mkey misThere mboxes morder mlevels w2 mentries mleft mlow mright mhigh mfirst mend mthrown)) C 5 0 rfl rfl hi hv rfl dX5_goes_9 ?_
  clear hi hv
  refine h_bipush (pc := 10) C dX5_goes_10 jb_64 ?_
  refine h_iload_n (pc := 12) C dX5_goes_12 rfl 1 rfl ?_
  refine h_imul (pc := 13) C dX5_goes_13 ?_
  refine h_iload_n (pc := 14) C dX5_goes_14 rfl 2 rfl ?_
  refine h_iadd (pc := 15) C dX5_goes_15 ?_
  refine h_istore_n (pc := 16) (lv' := [(3, .int ((64 * a1) + a2)), (0, .ref (ad 10)), (1, .int a1), (2, .int a2)]) C dX5_goes_16 rfl (by decide) rfl ?_
  refine h_sub [1, 2, 0] rfl ?_
  exact k_X5_goes_17 l D cT ad C hr n madded msides mkey misThere mboxes morder mlevels mleft mlow mright mhigh mfirst mend mthrown mnodes' mentries' n w2 mentries a1 ((64 * a1) + a2) hf
theorem pv_X5_goes : yX5_goes.cls = RX5 ∧ yX5_goes.cls ≠ "java/lang/invoke/MethodHandle" ∧ yX5_goes.cls ≠ "java/lang/invoke/VarHandle" ∧ (parseMethodDescriptor yX5_goes.desc).map (fun d => d.parameters.length) = some 2 := by decide +kernel
abbrev rmX5_shares : Room := { frames := 1, cells := 0, slots := 0, locals := 22 }
theorem uX5_shares_X5 : ∀ w ∈ u_ws RX5 TX5 16, w ∈ wsX5_shares := fun w h => List.mem_cons_of_mem _ (List.mem_append_right _ h)
set_option maxRecDepth 100000 in
set_option maxHeartbeats 4000000 in
theorem c_X5_shares (l : Launch) (D : va_G) (cT : Nat → ClassId) (ad : Nat → Nat) (n : Nat) (madded : Int32) (msides : Nat → Int32) (mkey : Nat → Int32) (misThere : Nat → Int32) (mboxes : Int32) (morder : Nat → Int32) (mlevels : Int32) (mnodes : Nat → Int32) (mentries : Nat → Int32) (mleft : Int32) (mlow : Int32) (mright : Int32) (mhigh : Int32) (mfirst : Int32) (mend : Int32) (mthrown : Int32) (a1 : Int32) (a2 : Int32) (mentries' : Nat → Int32) (hf : f_X5_shares n mentries a1 a2 = some mentries') : cM l yX5_shares wsX5_shares rmX5_shares D (ty4 cT) [.ref (ad 10), .int a1, .int a2] (wM cT ad madded msides mkey misThere mboxes morder mlevels mnodes mentries mleft mlow mright mhigh mfirst mend mthrown) none (wM cT ad madded msides mkey misThere mboxes morder mlevels mnodes mentries' mleft mlow mright mhigh mfirst mend mthrown) := by
  refine cM_of (cc := cX5_shares) (maxL := 4) (ret := none) (own := RX5) (lv := [(0, .ref (ad 10)), (1, .int a1), (2, .int a2)]) (by decide) rfl (Nat.le_of_ble_eq_true rfl) rfl rfl ?_
  intro p e s m args below meth c A C hr
  unfold f_X5_shares at hf
  refine h_aload_n (pc := 0) C dX5_shares_0 rfl 0 rfl ?_
  refine h_iload_n (pc := 1) C dX5_shares_1 rfl 1 rfl ?_
  refine h_iload_n (pc := 2) C dX5_shares_2 rfl 2 rfl ?_
  obtain ⟨v1, hc, hf⟩ := jbd_s hf
  refine h_callV (pc := 3) (q0 := 0) (As := [.int a1, .int a2]) (rest := []) (ws' := (wM cT ad madded msides mkey misThere mboxes morder mlevels mnodes mentries mleft mlow mright mhigh mfirst mend mthrown)) (st2 := .int v1 :: []) C (c_X5_many l D cT ad n madded msides mkey misThere mboxes morder mlevels mnodes mentries mleft mlow mright mhigh mfirst mend mthrown a1 a2 v1 hc) (cwV 2 C.1.2.2.2.2 gX5_shares_X5_many rfl rfl rfl pv_X5_many ⟨(Nat.le_of_ble_eq_true rfl), (Nat.le_of_ble_eq_true rfl)⟩) dX5_shares_3 rfl rfl rfl rfl rfl (Nat.le_of_ble_eq_true rfl) ⟨rfl, rfl⟩ ⟨(Nat.le_of_ble_eq_true rfl), (Nat.le_of_ble_eq_true rfl)⟩ [0, 1, 2, 3, 4, 5, 6] [] [0, 1, 2, 3, 4, 5, 6] rfl rfl rfl rfl (by decide) rfl rfl rfl ?_
  clear hc
  refine h_aload_n (pc := 6) C dX5_shares_6 rfl 0 rfl ?_
  refine h_iload_n (pc := 7) C dX5_shares_7 rfl 1 rfl ?_
  refine h_iload_n (pc := 8) C dX5_shares_8 rfl 2 rfl ?_
  refine h_iconst (pc := 9) C dX5_shares_9 jc_1 ?_
  refine h_iadd (pc := 10) C dX5_shares_10 ?_
  obtain ⟨v2, hc, hf⟩ := jbd_s hf
  refine h_callV (pc := 11) (q0 := 0) (As := [.int a1, .int (a2 + 1)]) (rest := .int v1 :: []) (ws' := (wM cT ad madded msides mkey misThere mboxes morder mlevels mnodes mentries mleft mlow mright mhigh mfirst mend mthrown)) (st2 := .int v2 :: .int v1 :: []) C (c_X5_many l D cT ad n madded msides mkey misThere mboxes morder mlevels mnodes mentries mleft mlow mright mhigh mfirst mend mthrown a1 (a2 + 1) v2 hc) (cwV 2 C.1.2.2.2.2 gX5_shares_X5_many rfl rfl rfl pv_X5_many ⟨(Nat.le_of_ble_eq_true rfl), (Nat.le_of_ble_eq_true rfl)⟩) dX5_shares_11 rfl rfl rfl rfl rfl (Nat.le_of_ble_eq_true rfl) ⟨rfl, rfl⟩ ⟨(Nat.le_of_ble_eq_true rfl), (Nat.le_of_ble_eq_true rfl)⟩ [0, 1, 2, 3, 4, 5, 6] [] [0, 1, 2, 3, 4, 5, 6] rfl rfl rfl rfl (by decide) rfl rfl rfl ?_
  clear hc
  refine h_iadd (pc := 14) C dX5_shares_14 ?_
  refine h_istore_n (pc := 15) (lv' := [(3, .int (v1 + v2)), (0, .ref (ad 10)), (1, .int a1), (2, .int a2)]) C dX5_shares_15 rfl (by decide) rfl ?_
  refine h_aload_n (pc := 16) C dX5_shares_16 rfl 1 rfl ?_
  refine h_get (pc := 17) (ci := 3) (C0 := RX5) (T := TX5) (N := 16) C uX5_shares_X5 rfl 0 rfl 8 (by decide) (List.mem_of_getElem? (i := 1) rfl) rfl rfl dX5_shares_17 ?_
  refine h_bipush (pc := 20) C dX5_shares_20 jb_64 ?_
  refine h_iload_n (pc := 22) C dX5_shares_22 rfl 2 rfl ?_
  refine h_imul (pc := 23) C dX5_shares_23 ?_
  refine h_iload_n (pc := 24) C dX5_shares_24 rfl 3 rfl ?_
  refine h_iadd (pc := 25) C dX5_shares_25 ?_
  refine h_iload_n (pc := 26) C dX5_shares_26 rfl 0 rfl ?_
  refine h_iconst (pc := 27) C dX5_shares_27 jc_1 ?_
  refine h_iadd (pc := 28) C dX5_shares_28 ?_
  refine h_iconst (pc := 29) C dX5_shares_29 jc_2 ?_
  refine h_idiv (pc := 30) C dX5_shares_30 (by decide) ?_
  obtain ⟨hi, w3, hv, hf⟩ := jwr_s hf
  refine h_iast (pc := 31) (ws' := (wM cT ad madded msides mkey misThere mboxes morder mlevels mnodes w3 mleft mlow mright mhigh mfirst mend mthrown)) C 6 0 rfl rfl hi hv rfl dX5_shares_31 ?_
  clear hi hv
  refine h_aload_n (pc := 32) C dX5_shares_32 rfl 1 rfl ?_
  refine h_get (pc := 33) (ci := 3) (C0 := RX5) (T := TX5) (N := 16) C uX5_shares_X5 rfl 0 rfl 8 (by decide) (List.mem_of_getElem? (i := 1) rfl) rfl rfl dX5_shares_33 ?_
  refine h_bipush (pc := 36) C dX5_shares_36 jb_64 ?_
  refine h_iload_n (pc := 38) C dX5_shares_38 rfl 2 rfl ?_
  refine h_imul (pc := 39) C dX5_shares_39 ?_
  refine h_iload_n (pc := 40) C dX5_shares_40 rfl 3 rfl ?_
  refine h_iadd (pc := 41) C dX5_shares_41 ?_
  refine h_iconst (pc := 42) C dX5_shares_42 jc_1 ?_
  refine h_iadd (pc := 43) C dX5_shares_43 ?_
  refine h_iload_n (pc := 44) C dX5_shares_44 rfl 0 rfl ?_
  refine h_iconst (pc := 45) C dX5_shares_45 jc_2 ?_
  refine h_idiv (pc := 46) C dX5_shares_46 (by decide) ?_
  obtain ⟨hi, w4, hv, hf⟩ := jwr_s hf
  refine h_iast (pc := 47) (ws' := (wM cT ad madded msides mkey misThere mboxes morder mlevels mnodes w4 mleft mlow mright mhigh mfirst mend mthrown)) C 6 0 rfl rfl hi hv rfl dX5_shares_47 ?_
  clear hi hv
  have g0 := (Option.some.inj hf)
  clear hf
  subst g0
  exact h_vret C hr dX5_shares_48
theorem pv_X5_shares : yX5_shares.cls = RX5 ∧ yX5_shares.cls ≠ "java/lang/invoke/MethodHandle" ∧ yX5_shares.cls ≠ "java/lang/invoke/VarHandle" ∧ (parseMethodDescriptor yX5_shares.desc).map (fun d => d.parameters.length) = some 2 := by decide +kernel
abbrev rmX5_grows : Room := { frames := 4, cells := 0, slots := 0, locals := 94 }
theorem uX5_grows_X5 : ∀ w ∈ u_ws RX5 TX5 16, w ∈ wsX5_grows := fun w h => List.mem_cons_of_mem _ (List.mem_append_right _ h)
set_option maxRecDepth 100000 in
set_option maxHeartbeats 4000000 in
theorem k_X5_grows_292 {p : Program} {e : Env} {s : State} {m : MethodId} {args : Array Value} {below : List Frame} {meth : Method} {c : Code} {A : Nat → Prop} (l : Launch) (D : va_G) (cT : Nat → ClassId) (ad : Nat → Nat) (C : hC p s m args meth c cX5_grows 9 wsX5_grows RX5 D (ty4 cT) A) (hr : meth.sig.returnType = none) (n : Nat) (madded : Int32) (msides : Nat → Int32) (mkey : Nat → Int32) (misThere : Nat → Int32) (mboxes : Int32) (morder : Nat → Int32) (mleft : Int32) (mlow : Int32) (mright : Int32) (mhigh : Int32) (mfirst : Int32) (mend : Int32) (mthrown : Int32) (mlevels' : Int32) (mnodes' : Nat → Int32) (mentries' : Nat → Int32) (k39 : Int32 → (Nat → Int32) → (Nat → Int32) → Int32 → Int32 → Int32 → Option (Int32 × (Nat → Int32) × (Nat → Int32))) (K39 : ∀ (mlevels : Int32) (mnodes : Nat → Int32) (mentries : Nat → Int32) (x3 : Int32) (x4 : Int32) (x5 : Int32), k39 mlevels mnodes mentries x3 x4 x5 = some (mlevels', mnodes', mentries') → hS p l e rmX5_grows s m args below meth c 9 D A 0 0 (MQ below (cQ D (ty4 cT) A none (wM cT ad madded msides mkey misThere mboxes morder mlevels' mnodes' mentries' mleft mlow mright mhigh mfirst mend mthrown)) args s 0 0 A) 39 [(0, .ref (ad 10)), (3, .int x3), (4, .int x4), (5, .int x5)] [] (wM cT ad madded msides mkey misThere mboxes morder mlevels mnodes mentries mleft mlow mright mhigh mfirst mend mthrown)) : ∀ (mlevels : Int32) (mnodes : Nat → Int32) (mentries : Nat → Int32) (x3 : Int32) (x4 : Int32) (x5 : Int32), f_X5_grows_292 n k39 mlevels mnodes mentries x3 x4 x5 = some (mlevels', mnodes', mentries') → hS p l e rmX5_grows s m args below meth c 9 D A 0 0 (MQ below (cQ D (ty4 cT) A none (wM cT ad madded msides mkey misThere mboxes morder mlevels' mnodes' mentries' mleft mlow mright mhigh mfirst mend mthrown)) args s 0 0 A) 292 [(0, .ref (ad 10)), (3, .int x3), (4, .int x4), (5, .int x5)] [] (wM cT ad madded msides mkey misThere mboxes morder mlevels mnodes mentries mleft mlow mright mhigh mfirst mend mthrown) := by
  intro mlevels mnodes mentries x3 x4 x5 hf
  unfold f_X5_grows_292 at hf
  refine h_goto (pc := 292) (tgt := 39) C dX5_grows_292 (by decide) ?_
  exact K39 mlevels mnodes mentries x3 x4 x5 hf
set_option maxRecDepth 100000 in
set_option maxHeartbeats 4000000 in
theorem k_X5_grows_290 {p : Program} {e : Env} {s : State} {m : MethodId} {args : Array Value} {below : List Frame} {meth : Method} {c : Code} {A : Nat → Prop} (l : Launch) (D : va_G) (cT : Nat → ClassId) (ad : Nat → Nat) (C : hC p s m args meth c cX5_grows 9 wsX5_grows RX5 D (ty4 cT) A) (hr : meth.sig.returnType = none) (n : Nat) (madded : Int32) (msides : Nat → Int32) (mkey : Nat → Int32) (misThere : Nat → Int32) (mboxes : Int32) (morder : Nat → Int32) (mleft : Int32) (mlow : Int32) (mright : Int32) (mhigh : Int32) (mfirst : Int32) (mend : Int32) (mthrown : Int32) (mlevels' : Int32) (mnodes' : Nat → Int32) (mentries' : Nat → Int32) (k39 : Int32 → (Nat → Int32) → (Nat → Int32) → Int32 → Int32 → Int32 → Option (Int32 × (Nat → Int32) × (Nat → Int32))) (K39 : ∀ (mlevels : Int32) (mnodes : Nat → Int32) (mentries : Nat → Int32) (x3 : Int32) (x4 : Int32) (x5 : Int32), k39 mlevels mnodes mentries x3 x4 x5 = some (mlevels', mnodes', mentries') → hS p l e rmX5_grows s m args below meth c 9 D A 0 0 (MQ below (cQ D (ty4 cT) A none (wM cT ad madded msides mkey misThere mboxes morder mlevels' mnodes' mentries' mleft mlow mright mhigh mfirst mend mthrown)) args s 0 0 A) 39 [(0, .ref (ad 10)), (3, .int x3), (4, .int x4), (5, .int x5)] [] (wM cT ad madded msides mkey misThere mboxes morder mlevels mnodes mentries mleft mlow mright mhigh mfirst mend mthrown)) : ∀ (mlevels : Int32) (mnodes : Nat → Int32) (mentries : Nat → Int32) (x3 : Int32) (x4 : Int32) (t0 : Int32), f_X5_grows_290 n k39 mlevels mnodes mentries x3 x4 t0 = some (mlevels', mnodes', mentries') → hS p l e rmX5_grows s m args below meth c 9 D A 0 0 (MQ below (cQ D (ty4 cT) A none (wM cT ad madded msides mkey misThere mboxes morder mlevels' mnodes' mentries' mleft mlow mright mhigh mfirst mend mthrown)) args s 0 0 A) 290 [(0, .ref (ad 10)), (3, .int x3), (4, .int x4)] (.int t0 :: []) (wM cT ad madded msides mkey misThere mboxes morder mlevels mnodes mentries mleft mlow mright mhigh mfirst mend mthrown) := by
  intro mlevels mnodes mentries x3 x4 t0 hf
  unfold f_X5_grows_290 at hf
  refine h_istore (pc := 290) (lv' := [(5, .int t0), (0, .ref (ad 10)), (3, .int x3), (4, .int x4)]) C dX5_grows_290 (by decide) rfl ?_
  refine h_sub [1, 2, 3, 0] rfl ?_
  exact k_X5_grows_292 l D cT ad C hr n madded msides mkey misThere mboxes morder mleft mlow mright mhigh mfirst mend mthrown mlevels' mnodes' mentries' k39 K39 mlevels mnodes mentries x3 x4 t0 hf
set_option maxRecDepth 100000 in
set_option maxHeartbeats 4000000 in
theorem k_X5_grows_251 {p : Program} {e : Env} {s : State} {m : MethodId} {args : Array Value} {below : List Frame} {meth : Method} {c : Code} {A : Nat → Prop} (l : Launch) (D : va_G) (cT : Nat → ClassId) (ad : Nat → Nat) (C : hC p s m args meth c cX5_grows 9 wsX5_grows RX5 D (ty4 cT) A) (hr : meth.sig.returnType = none) (n : Nat) (madded : Int32) (msides : Nat → Int32) (mkey : Nat → Int32) (misThere : Nat → Int32) (mboxes : Int32) (morder : Nat → Int32) (mleft : Int32) (mlow : Int32) (mright : Int32) (mhigh : Int32) (mfirst : Int32) (mend : Int32) (mthrown : Int32) (mlevels' : Int32) (mnodes' : Nat → Int32) (mentries' : Nat → Int32) (k39 : Int32 → (Nat → Int32) → (Nat → Int32) → Int32 → Int32 → Int32 → Option (Int32 × (Nat → Int32) × (Nat → Int32))) (K39 : ∀ (mlevels : Int32) (mnodes : Nat → Int32) (mentries : Nat → Int32) (x3 : Int32) (x4 : Int32) (x5 : Int32), k39 mlevels mnodes mentries x3 x4 x5 = some (mlevels', mnodes', mentries') → hS p l e rmX5_grows s m args below meth c 9 D A 0 0 (MQ below (cQ D (ty4 cT) A none (wM cT ad madded msides mkey misThere mboxes morder mlevels' mnodes' mentries' mleft mlow mright mhigh mfirst mend mthrown)) args s 0 0 A) 39 [(0, .ref (ad 10)), (3, .int x3), (4, .int x4), (5, .int x5)] [] (wM cT ad madded msides mkey misThere mboxes morder mlevels mnodes mentries mleft mlow mright mhigh mfirst mend mthrown)) : ∀ (mlevels : Int32) (mnodes : Nat → Int32) (mentries : Nat → Int32) (x3 : Int32) (x8 : Int32), f_X5_grows_251 n k39 mlevels mnodes mentries x3 x8 = some (mlevels', mnodes', mentries') → hS p l e rmX5_grows s m args below meth c 9 D A 0 0 (MQ below (cQ D (ty4 cT) A none (wM cT ad madded msides mkey misThere mboxes morder mlevels' mnodes' mentries' mleft mlow mright mhigh mfirst mend mthrown)) args s 0 0 A) 251 [(0, .ref (ad 10)), (3, .int x3), (8, .int x8)] [] (wM cT ad madded msides mkey misThere mboxes morder mlevels mnodes mentries mleft mlow mright mhigh mfirst mend mthrown) := by
  intro mlevels mnodes mentries x3 x8 hf
  unfold f_X5_grows_251 at hf
  refine h_iinc (pc := 251) (v := x3 + 1) (lv' := [(3, .int (x3 + 1)), (0, .ref (ad 10)), (8, .int x8)]) C dX5_grows_251 1 rfl (ji_1 _) (by decide) rfl ?_
  refine h_iload (pc := 254) C dX5_grows_254 2 rfl ?_
  refine h_istore (pc := 256) (lv' := [(4, .int x8), (3, .int (x3 + 1)), (0, .ref (ad 10)), (8, .int x8)]) C dX5_grows_256 (by decide) rfl ?_
  refine h_aload_n (pc := 258) C dX5_grows_258 rfl 2 rfl ?_
  refine h_get (pc := 259) (ci := 3) (C0 := RX5) (T := TX5) (N := 16) C uX5_grows_X5 rfl 0 rfl 8 (by decide) (List.mem_of_getElem? (i := 1) rfl) rfl rfl dX5_grows_259 ?_
  refine h_bipush (pc := 262) C dX5_grows_262 jb_64 ?_
  refine h_iload_n (pc := 264) C dX5_grows_264 rfl 1 rfl ?_
  refine h_imul (pc := 265) C dX5_grows_265 ?_
  refine h_iload (pc := 266) C dX5_grows_266 0 rfl ?_
  refine h_iadd (pc := 268) C dX5_grows_268 ?_
  refine h_dup2 (pc := 269) C dX5_grows_269 rfl rfl ?_
  obtain ⟨hi, v15, hv, hf⟩ := jrd_s hf
  refine h_iald (pc := 270) C 6 0 rfl rfl hi hv dX5_grows_270 ?_
  clear hi hv
  refine h_iconst (pc := 271) C dX5_grows_271 jc_1 ?_
  refine h_iadd (pc := 272) C dX5_grows_272 ?_
  obtain ⟨hi, w16, hv, hf⟩ := jwr_s hf
  refine h_iast (pc := 273) (ws' := (wM cT ad madded msides mkey misThere mboxes morder mlevels mnodes w16 mleft mlow mright mhigh mfirst mend mthrown)) C 6 0 rfl rfl hi hv rfl dX5_grows_273 ?_
  clear hi hv
  refine h_aload_n (pc := 274) C dX5_grows_274 rfl 2 rfl ?_
  refine h_iload_n (pc := 275) C dX5_grows_275 rfl 1 rfl ?_
  refine h_iload (pc := 276) C dX5_grows_276 0 rfl ?_
  obtain ⟨v17, hc, hf⟩ := jbd_s hf
  refine h_callV (pc := 278) (q0 := 0) (As := [.int (x3 + 1), .int x8]) (rest := []) (ws' := (wM cT ad madded msides mkey misThere mboxes morder mlevels mnodes w16 mleft mlow mright mhigh mfirst mend mthrown)) (st2 := .int v17 :: []) C (c_X5_many l D cT ad n madded msides mkey misThere mboxes morder mlevels mnodes w16 mleft mlow mright mhigh mfirst mend mthrown (x3 + 1) x8 v17 hc) (cwV 2 C.1.2.2.2.2 gX5_grows_X5_many rfl rfl rfl pv_X5_many ⟨(Nat.le_of_ble_eq_true rfl), (Nat.le_of_ble_eq_true rfl)⟩) dX5_grows_278 rfl rfl rfl rfl rfl (Nat.le_of_ble_eq_true rfl) ⟨rfl, rfl⟩ ⟨(Nat.le_of_ble_eq_true rfl), (Nat.le_of_ble_eq_true rfl)⟩ [0, 1, 2, 3, 4, 5, 6] [] [0, 1, 2, 3, 4, 5, 6] rfl rfl rfl rfl (by decide) rfl rfl rfl ?_
  clear hc
  refine h_iconst (pc := 281) C dX5_grows_281 jc_4 ?_
  refine h_icmp_le (pc := 282) (tgt := 289) C dX5_grows_282 (by decide) (fun q => ?_) (fun q => ?_)
  · replace hf := jif_t q hf
    clear q
    refine h_iconst (pc := 289) C dX5_grows_289 jc_0 ?_
    refine h_sub [2, 1, 0] rfl ?_
    exact k_X5_grows_290 l D cT ad C hr n madded msides mkey misThere mboxes morder mleft mlow mright mhigh mfirst mend mthrown mlevels' mnodes' mentries' k39 K39 mlevels mnodes w16 (x3 + 1) x8 0 hf
  · replace hf := jif_f q hf
    clear q
    refine h_iconst (pc := 285) C dX5_grows_285 jc_1 ?_
    refine h_goto (pc := 286) (tgt := 290) C dX5_grows_286 (by decide) ?_
    refine h_sub [2, 1, 0] rfl ?_
    exact k_X5_grows_290 l D cT ad C hr n madded msides mkey misThere mboxes morder mleft mlow mright mhigh mfirst mend mthrown mlevels' mnodes' mentries' k39 K39 mlevels mnodes w16 (x3 + 1) x8 1 hf
set_option maxRecDepth 100000 in
set_option maxHeartbeats 4000000 in
theorem k_X5_grows_203 {p : Program} {e : Env} {s : State} {m : MethodId} {args : Array Value} {below : List Frame} {meth : Method} {c : Code} {A : Nat → Prop} (l : Launch) (D : va_G) (cT : Nat → ClassId) (ad : Nat → Nat) (C : hC p s m args meth c cX5_grows 9 wsX5_grows RX5 D (ty4 cT) A) (hr : meth.sig.returnType = none) (n : Nat) (madded : Int32) (msides : Nat → Int32) (mkey : Nat → Int32) (misThere : Nat → Int32) (mboxes : Int32) (morder : Nat → Int32) (mleft : Int32) (mlow : Int32) (mright : Int32) (mhigh : Int32) (mfirst : Int32) (mend : Int32) (mthrown : Int32) (mlevels' : Int32) (mnodes' : Nat → Int32) (mentries' : Nat → Int32) (k39 : Int32 → (Nat → Int32) → (Nat → Int32) → Int32 → Int32 → Int32 → Option (Int32 × (Nat → Int32) × (Nat → Int32))) (K39 : ∀ (mlevels : Int32) (mnodes : Nat → Int32) (mentries : Nat → Int32) (x3 : Int32) (x4 : Int32) (x5 : Int32), k39 mlevels mnodes mentries x3 x4 x5 = some (mlevels', mnodes', mentries') → hS p l e rmX5_grows s m args below meth c 9 D A 0 0 (MQ below (cQ D (ty4 cT) A none (wM cT ad madded msides mkey misThere mboxes morder mlevels' mnodes' mentries' mleft mlow mright mhigh mfirst mend mthrown)) args s 0 0 A) 39 [(0, .ref (ad 10)), (3, .int x3), (4, .int x4), (5, .int x5)] [] (wM cT ad madded msides mkey misThere mboxes morder mlevels mnodes mentries mleft mlow mright mhigh mfirst mend mthrown)) : ∀ (mlevels : Int32) (mnodes : Nat → Int32) (mentries : Nat → Int32) (x3 : Int32) (x4 : Int32) (x5 : Int32) (x8 : Int32), f_X5_grows_203 n k39 mlevels mnodes mentries x3 x4 x5 x8 = some (mlevels', mnodes', mentries') → hS p l e rmX5_grows s m args below meth c 9 D A 0 0 (MQ below (cQ D (ty4 cT) A none (wM cT ad madded msides mkey misThere mboxes morder mlevels' mnodes' mentries' mleft mlow mright mhigh mfirst mend mthrown)) args s 0 0 A) 203 [(0, .ref (ad 10)), (3, .int x3), (4, .int x4), (5, .int x5), (8, .int x8)] [] (wM cT ad madded msides mkey misThere mboxes morder mlevels mnodes mentries mleft mlow mright mhigh mfirst mend mthrown) := by
  intro mlevels mnodes mentries x3 x4 x5 x8 hf
  unfold f_X5_grows_203 at hf
  refine h_iload (pc := 203) C dX5_grows_203 3 rfl ?_
  refine h_if_eq (pc := 205) (tgt := 292) C dX5_grows_205 (by decide) (fun q => ?_) (fun q => ?_)
  · replace hf := jif_t q hf
    clear q
    refine h_sub [0, 1, 2, 3] rfl ?_
    exact k_X5_grows_292 l D cT ad C hr n madded msides mkey misThere mboxes morder mleft mlow mright mhigh mfirst mend mthrown mlevels' mnodes' mentries' k39 K39 mlevels mnodes mentries x3 x4 x5 hf
  · replace hf := jif_f q hf
    clear q
    refine h_iload_n (pc := 208) C dX5_grows_208 rfl 1 rfl ?_
    refine h_aload_n (pc := 209) C dX5_grows_209 rfl 0 rfl ?_
    refine h_get (pc := 210) (ci := 3) (C0 := RX5) (T := TX5) (N := 16) C uX5_grows_X5 rfl 0 rfl 6 (by decide) (List.mem_of_getElem? (i := 2) rfl) rfl rfl dX5_grows_210 ?_
    refine h_iconst (pc := 213) C dX5_grows_213 jc_1 ?_
    refine h_isub (pc := 214) C dX5_grows_214 ?_
    refine h_icmp_ne (pc := 215) (tgt := 251) C dX5_grows_215 (by decide) (fun q => ?_) (fun q => ?_)
    · replace hf := jif_f q hf
      clear q
      refine h_sub [0, 1, 4] rfl ?_
      exact k_X5_grows_251 l D cT ad C hr n madded msides mkey misThere mboxes morder mleft mlow mright mhigh mfirst mend mthrown mlevels' mnodes' mentries' k39 K39 mlevels mnodes mentries x3 x8 hf
    · replace hf := jif_t q hf
      clear q
      refine h_aload_n (pc := 218) C dX5_grows_218 rfl 0 rfl ?_
      refine h_get (pc := 219) (ci := 3) (C0 := RX5) (T := TX5) (N := 16) C uX5_grows_X5 rfl 0 rfl 7 (by decide) (List.mem_of_getElem? (i := 3) rfl) rfl rfl dX5_grows_219 ?_
      refine h_aload_n (pc := 222) C dX5_grows_222 rfl 0 rfl ?_
      refine h_get (pc := 223) (ci := 3) (C0 := RX5) (T := TX5) (N := 16) C uX5_grows_X5 rfl 0 rfl 6 (by decide) (List.mem_of_getElem? (i := 2) rfl) rfl rfl dX5_grows_223 ?_
      refine h_iconst (pc := 226) C dX5_grows_226 jc_1 ?_
      obtain ⟨hi, w13, hv, hf⟩ := jwr_s hf
      refine h_iast (pc := 227) (ws' := (wM cT ad madded msides mkey misThere mboxes morder mlevels w13 mentries mleft mlow mright mhigh mfirst mend mthrown)) C 5 0 rfl rfl hi hv rfl dX5_grows_227 ?_
      clear hi hv
      refine h_aload_n (pc := 228) C dX5_grows_228 rfl 0 rfl ?_
      refine h_get (pc := 229) (ci := 3) (C0 := RX5) (T := TX5) (N := 16) C uX5_grows_X5 rfl 0 rfl 8 (by decide) (List.mem_of_getElem? (i := 1) rfl) rfl rfl dX5_grows_229 ?_
      refine h_bipush (pc := 232) C dX5_grows_232 jb_64 ?_
      refine h_aload_n (pc := 234) C dX5_grows_234 rfl 0 rfl ?_
      refine h_get (pc := 235) (ci := 3) (C0 := RX5) (T := TX5) (N := 16) C uX5_grows_X5 rfl 0 rfl 6 (by decide) (List.mem_of_getElem? (i := 2) rfl) rfl rfl dX5_grows_235 ?_
      refine h_imul (pc := 238) C dX5_grows_238 ?_
      refine h_iconst (pc := 239) C dX5_grows_239 jc_1 ?_
      obtain ⟨hi, w14, hv, hf⟩ := jwr_s hf
      refine h_iast (pc := 240) (ws' := (wM cT ad madded msides mkey misThere mboxes morder mlevels w13 w14 mleft mlow mright mhigh mfirst mend mthrown)) C 6 0 rfl rfl hi hv rfl dX5_grows_240 ?_
      clear hi hv
      refine h_aload_n (pc := 241) C dX5_grows_241 rfl 0 rfl ?_
      refine h_dup (pc := 242) C dX5_grows_242 rfl ?_
      refine h_get (pc := 243) (ci := 3) (C0 := RX5) (T := TX5) (N := 16) C uX5_grows_X5 rfl 0 rfl 6 (by decide) (List.mem_of_getElem? (i := 2) rfl) rfl rfl dX5_grows_243 ?_
      refine h_iconst (pc := 246) C dX5_grows_246 jc_1 ?_
      refine h_iadd (pc := 247) C dX5_grows_247 ?_
      refine h_put (pc := 248) (ci := 3) (C0 := RX5) (T := TX5) (N := 16) (ws' := (wM cT ad madded msides mkey misThere mboxes morder (mlevels + 1) w13 w14 mleft mlow mright mhigh mfirst mend mthrown)) C uX5_grows_X5 tyX5 tyX5_ok nmX5 rfl 0 rfl 6 (by decide) (List.mem_of_getElem? (i := 2) rfl) rfl rfl rfl (Nat.le_of_ble_eq_true rfl) rfl dX5_grows_248 ?_
      refine h_sub [0, 1, 4] rfl ?_
      exact k_X5_grows_251 l D cT ad C hr n madded msides mkey misThere mboxes morder mleft mlow mright mhigh mfirst mend mthrown mlevels' mnodes' mentries' k39 K39 (mlevels + 1) w13 w14 x3 x8 hf
set_option maxRecDepth 100000 in
set_option maxHeartbeats 4000000 in
theorem k_X5_grows_115 {p : Program} {e : Env} {s : State} {m : MethodId} {args : Array Value} {below : List Frame} {meth : Method} {c : Code} {A : Nat → Prop} (l : Launch) (D : va_G) (cT : Nat → ClassId) (ad : Nat → Nat) (C : hC p s m args meth c cX5_grows 9 wsX5_grows RX5 D (ty4 cT) A) (hr : meth.sig.returnType = none) (n : Nat) (madded : Int32) (msides : Nat → Int32) (mkey : Nat → Int32) (misThere : Nat → Int32) (mboxes : Int32) (morder : Nat → Int32) (mleft : Int32) (mlow : Int32) (mright : Int32) (mhigh : Int32) (mfirst : Int32) (mend : Int32) (mthrown : Int32) (mlevels' : Int32) (mnodes' : Nat → Int32) (mentries' : Nat → Int32) (k39 : Int32 → (Nat → Int32) → (Nat → Int32) → Int32 → Int32 → Int32 → Option (Int32 × (Nat → Int32) × (Nat → Int32))) (K39 : ∀ (mlevels : Int32) (mnodes : Nat → Int32) (mentries : Nat → Int32) (x3 : Int32) (x4 : Int32) (x5 : Int32), k39 mlevels mnodes mentries x3 x4 x5 = some (mlevels', mnodes', mentries') → hS p l e rmX5_grows s m args below meth c 9 D A 0 0 (MQ below (cQ D (ty4 cT) A none (wM cT ad madded msides mkey misThere mboxes morder mlevels' mnodes' mentries' mleft mlow mright mhigh mfirst mend mthrown)) args s 0 0 A) 39 [(0, .ref (ad 10)), (3, .int x3), (4, .int x4), (5, .int x5)] [] (wM cT ad madded msides mkey misThere mboxes morder mlevels mnodes mentries mleft mlow mright mhigh mfirst mend mthrown)) : ∀ (mlevels : Int32) (mnodes : Nat → Int32) (mentries : Nat → Int32) (x3 : Int32) (x4 : Int32) (x6 : Int32) (x7 : Int32) (x8 : Int32) (t0 : Int32), f_X5_grows_115 n k39 mlevels mnodes mentries x3 x4 x6 x7 x8 t0 = some (mlevels', mnodes', mentries') → hS p l e rmX5_grows s m args below meth c 9 D A 0 0 (MQ below (cQ D (ty4 cT) A none (wM cT ad madded msides mkey misThere mboxes morder mlevels' mnodes' mentries' mleft mlow mright mhigh mfirst mend mthrown)) args s 0 0 A) 115 [(0, .ref (ad 10)), (3, .int x3), (4, .int x4), (6, .int x6), (7, .int x7), (8, .int x8)] (.int t0 :: []) (wM cT ad madded msides mkey misThere mboxes morder mlevels mnodes mentries mleft mlow mright mhigh mfirst mend mthrown) := by
  intro mlevels mnodes mentries x3 x4 x6 x7 x8 t0 hf
  unfold f_X5_grows_115 at hf
  refine h_istore (pc := 115) (lv' := [(5, .int t0), (0, .ref (ad 10)), (3, .int x3), (4, .int x4), (6, .int x6), (7, .int x7), (8, .int x8)]) C dX5_grows_115 (by decide) rfl ?_
  refine h_iload (pc := 117) C dX5_grows_117 4 rfl ?_
  refine h_iload (pc := 119) C dX5_grows_119 3 rfl ?_
  refine h_icmp_ne (pc := 121) (tgt := 150) C dX5_grows_121 (by decide) (fun q => ?_) (fun q => ?_)
  · replace hf := jif_f q hf
    clear q
    refine h_iload (pc := 150) C dX5_grows_150 0 rfl ?_
    refine h_if_eq (pc := 152) (tgt := 196) C dX5_grows_152 (by decide) (fun q => ?_) (fun q => ?_)
    · replace hf := jif_t q hf
      clear q
      refine h_aload_n (pc := 196) C dX5_grows_196 rfl 1 rfl ?_
      refine h_iload_n (pc := 197) C dX5_grows_197 rfl 2 rfl ?_
      refine h_iload (pc := 198) C dX5_grows_198 5 rfl ?_
      obtain ⟨v7, hc, hf⟩ := jbd_s hf
      refine h_callV (pc := 200) (q0 := 0) (As := [.int x3, .int x7]) (rest := []) (ws' := (wM cT ad madded msides mkey misThere mboxes morder mlevels mnodes v7 mleft mlow mright mhigh mfirst mend mthrown)) (st2 := []) C (c_X5_shares l D cT ad n madded msides mkey misThere mboxes morder mlevels mnodes mentries mleft mlow mright mhigh mfirst mend mthrown x3 x7 v7 hc) (cwV 2 C.1.2.2.2.2 gX5_grows_X5_shares rfl rfl rfl pv_X5_shares ⟨(Nat.le_of_ble_eq_true rfl), (Nat.le_of_ble_eq_true rfl)⟩) dX5_grows_200 rfl rfl rfl rfl rfl (Nat.le_of_ble_eq_true rfl) ⟨rfl, rfl⟩ ⟨(Nat.le_of_ble_eq_true rfl), (Nat.le_of_ble_eq_true rfl)⟩ [0, 1, 2, 3, 4, 5, 6] [] [0, 1, 2, 3, 4, 5, 6] rfl rfl rfl rfl (by decide) rfl rfl rfl ?_
      clear hc
      refine h_sub [1, 2, 3, 0, 6] rfl ?_
      exact k_X5_grows_203 l D cT ad C hr n madded msides mkey misThere mboxes morder mleft mlow mright mhigh mfirst mend mthrown mlevels' mnodes' mentries' k39 K39 mlevels mnodes v7 x3 x4 t0 x8 hf
    · replace hf := jif_f q hf
      clear q
      refine h_aload_n (pc := 155) C dX5_grows_155 rfl 1 rfl ?_
      refine h_get (pc := 156) (ci := 3) (C0 := RX5) (T := TX5) (N := 16) C uX5_grows_X5 rfl 0 rfl 8 (by decide) (List.mem_of_getElem? (i := 1) rfl) rfl rfl dX5_grows_156 ?_
      refine h_bipush (pc := 159) C dX5_grows_159 jb_64 ?_
      refine h_iload_n (pc := 161) C dX5_grows_161 rfl 2 rfl ?_
      refine h_imul (pc := 162) C dX5_grows_162 ?_
      refine h_iload (pc := 163) C dX5_grows_163 5 rfl ?_
      refine h_iadd (pc := 165) C dX5_grows_165 ?_
      refine h_iconst (pc := 166) C dX5_grows_166 jc_3 ?_
      obtain ⟨hi, w8, hv, hf⟩ := jwr_s hf
      refine h_iast (pc := 167) (ws' := (wM cT ad madded msides mkey misThere mboxes morder mlevels mnodes w8 mleft mlow mright mhigh mfirst mend mthrown)) C 6 0 rfl rfl hi hv rfl dX5_grows_167 ?_
      clear hi hv
      refine h_aload_n (pc := 168) C dX5_grows_168 rfl 1 rfl ?_
      refine h_get (pc := 169) (ci := 3) (C0 := RX5) (T := TX5) (N := 16) C uX5_grows_X5 rfl 0 rfl 8 (by decide) (List.mem_of_getElem? (i := 1) rfl) rfl rfl dX5_grows_169 ?_
      refine h_bipush (pc := 172) C dX5_grows_172 jb_64 ?_
      refine h_iload_n (pc := 174) C dX5_grows_174 rfl 2 rfl ?_
      refine h_imul (pc := 175) C dX5_grows_175 ?_
      refine h_iload (pc := 176) C dX5_grows_176 5 rfl ?_
      refine h_iadd (pc := 178) C dX5_grows_178 ?_
      refine h_iconst (pc := 179) C dX5_grows_179 jc_1 ?_
      refine h_iadd (pc := 180) C dX5_grows_180 ?_
      refine h_iconst (pc := 181) C dX5_grows_181 jc_3 ?_
      obtain ⟨hi, w9, hv, hf⟩ := jwr_s hf
      refine h_iast (pc := 182) (ws' := (wM cT ad madded msides mkey misThere mboxes morder mlevels mnodes w9 mleft mlow mright mhigh mfirst mend mthrown)) C 6 0 rfl rfl hi hv rfl dX5_grows_182 ?_
      clear hi hv
      refine h_aload_n (pc := 183) C dX5_grows_183 rfl 1 rfl ?_
      refine h_iload_n (pc := 184) C dX5_grows_184 rfl 2 rfl ?_
      refine h_iload (pc := 185) C dX5_grows_185 5 rfl ?_
      refine h_iconst (pc := 187) C dX5_grows_187 jc_2 ?_
      refine h_iadd (pc := 188) C dX5_grows_188 ?_
      refine h_iconst (pc := 189) C dX5_grows_189 jc_3 ?_
      obtain ⟨v10, hc, hf⟩ := jbd_s hf
      refine h_callV (pc := 190) (q0 := 0) (As := [.int x3, .int (x7 + 2), .int 3]) (rest := []) (ws' := (wM cT ad madded msides mkey misThere mboxes morder mlevels v10.1 v10.2 mleft mlow mright mhigh mfirst mend mthrown)) (st2 := []) C (c_X5_enters l D cT ad n madded msides mkey misThere mboxes morder mlevels mnodes w9 mleft mlow mright mhigh mfirst mend mthrown x3 (x7 + 2) 3 v10.1 v10.2 hc) (cwV 3 C.1.2.2.2.2 gX5_grows_X5_enters rfl rfl rfl pv_X5_enters ⟨(Nat.le_of_ble_eq_true rfl), (Nat.le_of_ble_eq_true rfl)⟩) dX5_grows_190 rfl rfl rfl rfl rfl (Nat.le_of_ble_eq_true rfl) ⟨rfl, rfl⟩ ⟨(Nat.le_of_ble_eq_true rfl), (Nat.le_of_ble_eq_true rfl)⟩ [0, 1, 2, 3, 4, 5, 6] [] [0, 1, 2, 3, 4, 5, 6] rfl rfl rfl rfl (by decide) rfl rfl rfl ?_
      clear hc
      refine h_goto (pc := 193) (tgt := 203) C dX5_grows_193 (by decide) ?_
      refine h_sub [1, 2, 3, 0, 6] rfl ?_
      exact k_X5_grows_203 l D cT ad C hr n madded msides mkey misThere mboxes morder mleft mlow mright mhigh mfirst mend mthrown mlevels' mnodes' mentries' k39 K39 mlevels v10.1 v10.2 x3 x4 t0 x8 hf
  · replace hf := jif_t q hf
    clear q
    refine h_aload_n (pc := 124) C dX5_grows_124 rfl 1 rfl ?_
    refine h_get (pc := 125) (ci := 3) (C0 := RX5) (T := TX5) (N := 16) C uX5_grows_X5 rfl 0 rfl 8 (by decide) (List.mem_of_getElem? (i := 1) rfl) rfl rfl dX5_grows_125 ?_
    refine h_bipush (pc := 128) C dX5_grows_128 jb_64 ?_
    refine h_iload_n (pc := 130) C dX5_grows_130 rfl 2 rfl ?_
    refine h_imul (pc := 131) C dX5_grows_131 ?_
    refine h_iload (pc := 132) C dX5_grows_132 3 rfl ?_
    refine h_iadd (pc := 134) C dX5_grows_134 ?_
    refine h_iconst (pc := 135) C dX5_grows_135 jc_3 ?_
    obtain ⟨hi, w11, hv, hf⟩ := jwr_s hf
    refine h_iast (pc := 136) (ws' := (wM cT ad madded msides mkey misThere mboxes morder mlevels mnodes w11 mleft mlow mright mhigh mfirst mend mthrown)) C 6 0 rfl rfl hi hv rfl dX5_grows_136 ?_
    clear hi hv
    refine h_aload_n (pc := 137) C dX5_grows_137 rfl 1 rfl ?_
    refine h_iload_n (pc := 138) C dX5_grows_138 rfl 2 rfl ?_
    refine h_iload (pc := 139) C dX5_grows_139 3 rfl ?_
    refine h_iconst (pc := 141) C dX5_grows_141 jc_1 ?_
    refine h_iadd (pc := 142) C dX5_grows_142 ?_
    refine h_iconst (pc := 143) C dX5_grows_143 jc_2 ?_
    obtain ⟨v12, hc, hf⟩ := jbd_s hf
    refine h_callV (pc := 144) (q0 := 0) (As := [.int x3, .int (x4 + 1), .int 2]) (rest := []) (ws' := (wM cT ad madded msides mkey misThere mboxes morder mlevels v12.1 v12.2 mleft mlow mright mhigh mfirst mend mthrown)) (st2 := []) C (c_X5_enters l D cT ad n madded msides mkey misThere mboxes morder mlevels mnodes w11 mleft mlow mright mhigh mfirst mend mthrown x3 (x4 + 1) 2 v12.1 v12.2 hc) (cwV 3 C.1.2.2.2.2 gX5_grows_X5_enters rfl rfl rfl pv_X5_enters ⟨(Nat.le_of_ble_eq_true rfl), (Nat.le_of_ble_eq_true rfl)⟩) dX5_grows_144 rfl rfl rfl rfl rfl (Nat.le_of_ble_eq_true rfl) ⟨rfl, rfl⟩ ⟨(Nat.le_of_ble_eq_true rfl), (Nat.le_of_ble_eq_true rfl)⟩ [0, 1, 2, 3, 4, 5, 6] [] [0, 1, 2, 3, 4, 5, 6] rfl rfl rfl rfl (by decide) rfl rfl rfl ?_
    clear hc
    refine h_goto (pc := 147) (tgt := 203) C dX5_grows_147 (by decide) ?_
    refine h_sub [1, 2, 3, 0, 6] rfl ?_
    exact k_X5_grows_203 l D cT ad C hr n madded msides mkey misThere mboxes morder mleft mlow mright mhigh mfirst mend mthrown mlevels' mnodes' mentries' k39 K39 mlevels v12.1 v12.2 x3 x4 t0 x8 hf
set_option maxRecDepth 100000 in
set_option maxHeartbeats 4000000 in
theorem k_X5_grows_110 {p : Program} {e : Env} {s : State} {m : MethodId} {args : Array Value} {below : List Frame} {meth : Method} {c : Code} {A : Nat → Prop} (l : Launch) (D : va_G) (cT : Nat → ClassId) (ad : Nat → Nat) (C : hC p s m args meth c cX5_grows 9 wsX5_grows RX5 D (ty4 cT) A) (hr : meth.sig.returnType = none) (n : Nat) (madded : Int32) (msides : Nat → Int32) (mkey : Nat → Int32) (misThere : Nat → Int32) (mboxes : Int32) (morder : Nat → Int32) (mleft : Int32) (mlow : Int32) (mright : Int32) (mhigh : Int32) (mfirst : Int32) (mend : Int32) (mthrown : Int32) (mlevels' : Int32) (mnodes' : Nat → Int32) (mentries' : Nat → Int32) (k39 : Int32 → (Nat → Int32) → (Nat → Int32) → Int32 → Int32 → Int32 → Option (Int32 × (Nat → Int32) × (Nat → Int32))) (K39 : ∀ (mlevels : Int32) (mnodes : Nat → Int32) (mentries : Nat → Int32) (x3 : Int32) (x4 : Int32) (x5 : Int32), k39 mlevels mnodes mentries x3 x4 x5 = some (mlevels', mnodes', mentries') → hS p l e rmX5_grows s m args below meth c 9 D A 0 0 (MQ below (cQ D (ty4 cT) A none (wM cT ad madded msides mkey misThere mboxes morder mlevels' mnodes' mentries' mleft mlow mright mhigh mfirst mend mthrown)) args s 0 0 A) 39 [(0, .ref (ad 10)), (3, .int x3), (4, .int x4), (5, .int x5)] [] (wM cT ad madded msides mkey misThere mboxes morder mlevels mnodes mentries mleft mlow mright mhigh mfirst mend mthrown)) : ∀ (mlevels : Int32) (mnodes : Nat → Int32) (mentries : Nat → Int32) (x3 : Int32) (x4 : Int32) (x6 : Int32) (x7 : Int32) (x8 : Int32), f_X5_grows_110 n k39 mlevels mnodes mentries x3 x4 x6 x7 x8 = some (mlevels', mnodes', mentries') → hS p l e rmX5_grows s m args below meth c 9 D A 0 0 (MQ below (cQ D (ty4 cT) A none (wM cT ad madded msides mkey misThere mboxes morder mlevels' mnodes' mentries' mleft mlow mright mhigh mfirst mend mthrown)) args s 0 0 A) 110 [(0, .ref (ad 10)), (3, .int x3), (4, .int x4), (6, .int x6), (7, .int x7), (8, .int x8)] [] (wM cT ad madded msides mkey misThere mboxes morder mlevels mnodes mentries mleft mlow mright mhigh mfirst mend mthrown) := by
  intro mlevels mnodes mentries x3 x4 x6 x7 x8 hf
  unfold f_X5_grows_110 at hf
  refine h_iconst (pc := 110) C dX5_grows_110 jc_1 ?_
  refine h_goto (pc := 111) (tgt := 115) C dX5_grows_111 (by decide) ?_
  exact k_X5_grows_115 l D cT ad C hr n madded msides mkey misThere mboxes morder mleft mlow mright mhigh mfirst mend mthrown mlevels' mnodes' mentries' k39 K39 mlevels mnodes mentries x3 x4 x6 x7 x8 1 hf
set_option maxRecDepth 100000 in
set_option maxHeartbeats 4000000 in
theorem k_X5_grows_90 {p : Program} {e : Env} {s : State} {m : MethodId} {args : Array Value} {below : List Frame} {meth : Method} {c : Code} {A : Nat → Prop} (l : Launch) (D : va_G) (cT : Nat → ClassId) (ad : Nat → Nat) (C : hC p s m args meth c cX5_grows 9 wsX5_grows RX5 D (ty4 cT) A) (hr : meth.sig.returnType = none) (n : Nat) (madded : Int32) (msides : Nat → Int32) (mkey : Nat → Int32) (misThere : Nat → Int32) (mboxes : Int32) (morder : Nat → Int32) (mleft : Int32) (mlow : Int32) (mright : Int32) (mhigh : Int32) (mfirst : Int32) (mend : Int32) (mthrown : Int32) (mlevels' : Int32) (mnodes' : Nat → Int32) (mentries' : Nat → Int32) (k39 : Int32 → (Nat → Int32) → (Nat → Int32) → Int32 → Int32 → Int32 → Option (Int32 × (Nat → Int32) × (Nat → Int32))) (K39 : ∀ (mlevels : Int32) (mnodes : Nat → Int32) (mentries : Nat → Int32) (x3 : Int32) (x4 : Int32) (x5 : Int32), k39 mlevels mnodes mentries x3 x4 x5 = some (mlevels', mnodes', mentries') → hS p l e rmX5_grows s m args below meth c 9 D A 0 0 (MQ below (cQ D (ty4 cT) A none (wM cT ad madded msides mkey misThere mboxes morder mlevels' mnodes' mentries' mleft mlow mright mhigh mfirst mend mthrown)) args s 0 0 A) 39 [(0, .ref (ad 10)), (3, .int x3), (4, .int x4), (5, .int x5)] [] (wM cT ad madded msides mkey misThere mboxes morder mlevels mnodes mentries mleft mlow mright mhigh mfirst mend mthrown)) : ∀ (mlevels : Int32) (mnodes : Nat → Int32) (mentries : Nat → Int32) (x3 : Int32) (x4 : Int32) (x6 : Int32) (x7 : Int32) (t0 : Int32), f_X5_grows_90 n k39 mlevels mnodes mentries x3 x4 x6 x7 t0 = some (mlevels', mnodes', mentries') → hS p l e rmX5_grows s m args below meth c 9 D A 0 0 (MQ below (cQ D (ty4 cT) A none (wM cT ad madded msides mkey misThere mboxes morder mlevels' mnodes' mentries' mleft mlow mright mhigh mfirst mend mthrown)) args s 0 0 A) 90 [(0, .ref (ad 10)), (3, .int x3), (4, .int x4), (6, .int x6), (7, .int x7)] (.int t0 :: []) (wM cT ad madded msides mkey misThere mboxes morder mlevels mnodes mentries mleft mlow mright mhigh mfirst mend mthrown) := by
  intro mlevels mnodes mentries x3 x4 x6 x7 t0 hf
  unfold f_X5_grows_90 at hf
  refine h_istore (pc := 90) (lv' := [(8, .int t0), (0, .ref (ad 10)), (3, .int x3), (4, .int x4), (6, .int x6), (7, .int x7)]) C dX5_grows_90 (by decide) rfl ?_
  refine h_iload (pc := 92) C dX5_grows_92 4 rfl ?_
  refine h_iload (pc := 94) C dX5_grows_94 3 rfl ?_
  refine h_icmp_eq (pc := 96) (tgt := 110) C dX5_grows_96 (by decide) (fun q => ?_) (fun q => ?_)
  · replace hf := jif_t q hf
    clear q
    refine h_sub [1, 2, 3, 4, 5, 0] rfl ?_
    exact k_X5_grows_110 l D cT ad C hr n madded msides mkey misThere mboxes morder mleft mlow mright mhigh mfirst mend mthrown mlevels' mnodes' mentries' k39 K39 mlevels mnodes mentries x3 x4 x6 x7 t0 hf
  · replace hf := jif_f q hf
    clear q
    refine h_aload_n (pc := 99) C dX5_grows_99 rfl 1 rfl ?_
    refine h_iload_n (pc := 100) C dX5_grows_100 rfl 2 rfl ?_
    refine h_iload (pc := 101) C dX5_grows_101 4 rfl ?_
    obtain ⟨v6, hc, hf⟩ := jbd_s hf
    refine h_callV (pc := 103) (q0 := 0) (As := [.int x3, .int x6]) (rest := []) (ws' := (wM cT ad madded msides mkey misThere mboxes morder mlevels mnodes mentries mleft mlow mright mhigh mfirst mend mthrown)) (st2 := .int v6 :: []) C (c_X5_many l D cT ad n madded msides mkey misThere mboxes morder mlevels mnodes mentries mleft mlow mright mhigh mfirst mend mthrown x3 x6 v6 hc) (cwV 2 C.1.2.2.2.2 gX5_grows_X5_many rfl rfl rfl pv_X5_many ⟨(Nat.le_of_ble_eq_true rfl), (Nat.le_of_ble_eq_true rfl)⟩) dX5_grows_103 rfl rfl rfl rfl rfl (Nat.le_of_ble_eq_true rfl) ⟨rfl, rfl⟩ ⟨(Nat.le_of_ble_eq_true rfl), (Nat.le_of_ble_eq_true rfl)⟩ [0, 1, 2, 3, 4, 5, 6] [] [0, 1, 2, 3, 4, 5, 6] rfl rfl rfl rfl (by decide) rfl rfl rfl ?_
    clear hc
    refine h_iconst (pc := 106) C dX5_grows_106 jc_4 ?_
    refine h_icmp_ne (pc := 107) (tgt := 114) C dX5_grows_107 (by decide) (fun q => ?_) (fun q => ?_)
    · replace hf := jif_f q hf
      clear q
      refine h_iconst (pc := 114) C dX5_grows_114 jc_0 ?_
      refine h_sub [1, 2, 3, 4, 5, 0] rfl ?_
      exact k_X5_grows_115 l D cT ad C hr n madded msides mkey misThere mboxes morder mleft mlow mright mhigh mfirst mend mthrown mlevels' mnodes' mentries' k39 K39 mlevels mnodes mentries x3 x4 x6 x7 t0 0 hf
    · replace hf := jif_t q hf
      clear q
      refine h_sub [1, 2, 3, 4, 5, 0] rfl ?_
      exact k_X5_grows_110 l D cT ad C hr n madded msides mkey misThere mboxes morder mleft mlow mright mhigh mfirst mend mthrown mlevels' mnodes' mentries' k39 K39 mlevels mnodes mentries x3 x4 x6 x7 t0 hf
set_option maxRecDepth 100000 in
set_option maxHeartbeats 4000000 in
theorem k_X5_grows_67 {p : Program} {e : Env} {s : State} {m : MethodId} {args : Array Value} {below : List Frame} {meth : Method} {c : Code} {A : Nat → Prop} (l : Launch) (D : va_G) (cT : Nat → ClassId) (ad : Nat → Nat) (C : hC p s m args meth c cX5_grows 9 wsX5_grows RX5 D (ty4 cT) A) (hr : meth.sig.returnType = none) (n : Nat) (madded : Int32) (msides : Nat → Int32) (mkey : Nat → Int32) (misThere : Nat → Int32) (mboxes : Int32) (morder : Nat → Int32) (mleft : Int32) (mlow : Int32) (mright : Int32) (mhigh : Int32) (mfirst : Int32) (mend : Int32) (mthrown : Int32) (mlevels' : Int32) (mnodes' : Nat → Int32) (mentries' : Nat → Int32) (k39 : Int32 → (Nat → Int32) → (Nat → Int32) → Int32 → Int32 → Int32 → Option (Int32 × (Nat → Int32) × (Nat → Int32))) (K39 : ∀ (mlevels : Int32) (mnodes : Nat → Int32) (mentries : Nat → Int32) (x3 : Int32) (x4 : Int32) (x5 : Int32), k39 mlevels mnodes mentries x3 x4 x5 = some (mlevels', mnodes', mentries') → hS p l e rmX5_grows s m args below meth c 9 D A 0 0 (MQ below (cQ D (ty4 cT) A none (wM cT ad madded msides mkey misThere mboxes morder mlevels' mnodes' mentries' mleft mlow mright mhigh mfirst mend mthrown)) args s 0 0 A) 39 [(0, .ref (ad 10)), (3, .int x3), (4, .int x4), (5, .int x5)] [] (wM cT ad madded msides mkey misThere mboxes morder mlevels mnodes mentries mleft mlow mright mhigh mfirst mend mthrown)) : ∀ (mlevels : Int32) (mnodes : Nat → Int32) (mentries : Nat → Int32) (x3 : Int32) (x4 : Int32) (x6 : Int32) (t0 : Int32), f_X5_grows_67 n k39 mlevels mnodes mentries x3 x4 x6 t0 = some (mlevels', mnodes', mentries') → hS p l e rmX5_grows s m args below meth c 9 D A 0 0 (MQ below (cQ D (ty4 cT) A none (wM cT ad madded msides mkey misThere mboxes morder mlevels' mnodes' mentries' mleft mlow mright mhigh mfirst mend mthrown)) args s 0 0 A) 67 [(0, .ref (ad 10)), (3, .int x3), (4, .int x4), (6, .int x6)] (.int t0 :: []) (wM cT ad madded msides mkey misThere mboxes morder mlevels mnodes mentries mleft mlow mright mhigh mfirst mend mthrown) := by
  intro mlevels mnodes mentries x3 x4 x6 t0 hf
  unfold f_X5_grows_67 at hf
  refine h_istore (pc := 67) (lv' := [(7, .int t0), (0, .ref (ad 10)), (3, .int x3), (4, .int x4), (6, .int x6)]) C dX5_grows_67 (by decide) rfl ?_
  refine h_iload_n (pc := 69) C dX5_grows_69 rfl 2 rfl ?_
  refine h_aload_n (pc := 70) C dX5_grows_70 rfl 1 rfl ?_
  refine h_get (pc := 71) (ci := 3) (C0 := RX5) (T := TX5) (N := 16) C uX5_grows_X5 rfl 0 rfl 6 (by decide) (List.mem_of_getElem? (i := 2) rfl) rfl rfl dX5_grows_71 ?_
  refine h_iconst (pc := 74) C dX5_grows_74 jc_1 ?_
  refine h_isub (pc := 75) C dX5_grows_75 ?_
  refine h_icmp_ne (pc := 76) (tgt := 83) C dX5_grows_76 (by decide) (fun q => ?_) (fun q => ?_)
  · replace hf := jif_f q hf
    clear q
    refine h_aload_n (pc := 83) C dX5_grows_83 rfl 1 rfl ?_
    refine h_iload_n (pc := 84) C dX5_grows_84 rfl 2 rfl ?_
    refine h_iload (pc := 85) C dX5_grows_85 3 rfl ?_
    obtain ⟨v5, hc, hf⟩ := jbd_s hf
    refine h_callV (pc := 87) (q0 := 0) (As := [.int x3, .int x4]) (rest := []) (ws' := (wM cT ad madded msides mkey misThere mboxes morder mlevels mnodes mentries mleft mlow mright mhigh mfirst mend mthrown)) (st2 := .int v5 :: []) C (c_X5_above l D cT ad n madded msides mkey misThere mboxes morder mlevels mnodes mentries mleft mlow mright mhigh mfirst mend mthrown x3 x4 v5 hc) (cwV 2 C.1.2.2.2.2 gX5_grows_X5_above rfl rfl rfl pv_X5_above ⟨(Nat.le_of_ble_eq_true rfl), (Nat.le_of_ble_eq_true rfl)⟩) dX5_grows_87 rfl rfl rfl rfl rfl (Nat.le_of_ble_eq_true rfl) ⟨rfl, rfl⟩ ⟨(Nat.le_of_ble_eq_true rfl), (Nat.le_of_ble_eq_true rfl)⟩ [0, 1, 2, 3, 4, 5, 6] [] [0, 1, 2, 3, 4, 5, 6] rfl rfl rfl rfl (by decide) rfl rfl rfl ?_
    clear hc
    refine h_sub [1, 2, 3, 4, 0] rfl ?_
    exact k_X5_grows_90 l D cT ad C hr n madded msides mkey misThere mboxes morder mleft mlow mright mhigh mfirst mend mthrown mlevels' mnodes' mentries' k39 K39 mlevels mnodes mentries x3 x4 x6 t0 v5 hf
  · replace hf := jif_t q hf
    clear q
    refine h_iconst (pc := 79) C dX5_grows_79 jc_0 ?_
    refine h_goto (pc := 80) (tgt := 90) C dX5_grows_80 (by decide) ?_
    refine h_sub [1, 2, 3, 4, 0] rfl ?_
    exact k_X5_grows_90 l D cT ad C hr n madded msides mkey misThere mboxes morder mleft mlow mright mhigh mfirst mend mthrown mlevels' mnodes' mentries' k39 K39 mlevels mnodes mentries x3 x4 x6 t0 0 hf
set_option maxRecDepth 100000 in
set_option maxHeartbeats 4000000 in
theorem k_X5_grows_39 {p : Program} {e : Env} {s : State} {m : MethodId} {args : Array Value} {below : List Frame} {meth : Method} {c : Code} {A : Nat → Prop} (l : Launch) (D : va_G) (cT : Nat → ClassId) (ad : Nat → Nat) (C : hC p s m args meth c cX5_grows 9 wsX5_grows RX5 D (ty4 cT) A) (hr : meth.sig.returnType = none) (n : Nat) (madded : Int32) (msides : Nat → Int32) (mkey : Nat → Int32) (misThere : Nat → Int32) (mboxes : Int32) (morder : Nat → Int32) (mleft : Int32) (mlow : Int32) (mright : Int32) (mhigh : Int32) (mfirst : Int32) (mend : Int32) (mthrown : Int32) (mlevels' : Int32) (mnodes' : Nat → Int32) (mentries' : Nat → Int32)  : ∀ (fu : Nat) (mlevels : Int32) (mnodes : Nat → Int32) (mentries : Nat → Int32) (x3 : Int32) (x4 : Int32) (x5 : Int32), f_X5_grows_39 n fu mlevels mnodes mentries x3 x4 x5 = some (mlevels', mnodes', mentries') → hS p l e rmX5_grows s m args below meth c 9 D A 0 0 (MQ below (cQ D (ty4 cT) A none (wM cT ad madded msides mkey misThere mboxes morder mlevels' mnodes' mentries' mleft mlow mright mhigh mfirst mend mthrown)) args s 0 0 A) 39 [(0, .ref (ad 10)), (3, .int x3), (4, .int x4), (5, .int x5)] [] (wM cT ad madded msides mkey misThere mboxes morder mlevels mnodes mentries mleft mlow mright mhigh mfirst mend mthrown) := by
  intro fu
  induction fu with
  | zero =>
    intro mlevels mnodes mentries x3 x4 x5 hf
    exact nomatch (show (none : Option (Int32 × (Nat → Int32) × (Nat → Int32))) = some (mlevels', mnodes', mentries') from hf)
  | succ fu ih =>
    intro mlevels mnodes mentries x3 x4 x5 hf
    rw [f_X5_grows_39] at hf
    refine h_iload (pc := 39) C dX5_grows_39 3 rfl ?_
    refine h_if_eq (pc := 41) (tgt := 295) C dX5_grows_41 (by decide) (fun q => ?_) (fun q => ?_)
    · replace hf := jif_t q hf
      clear q
      have g0 := (Prod.mk.inj (Option.some.inj hf)).1
      have g1 := (Prod.mk.inj (Prod.mk.inj (Option.some.inj hf)).2).1
      have g2 := (Prod.mk.inj (Prod.mk.inj (Option.some.inj hf)).2).2
      clear hf
      subst g0
      subst g1
      subst g2
      exact h_vret C hr dX5_grows_295
    · replace hf := jif_f q hf
      clear q
      refine h_aload_n (pc := 44) C dX5_grows_44 rfl 0 rfl ?_
      refine h_iload_n (pc := 45) C dX5_grows_45 rfl 1 rfl ?_
      refine h_iload (pc := 46) C dX5_grows_46 2 rfl ?_
      obtain ⟨v4, hc, hf⟩ := jbd_s hf
      refine h_callV (pc := 48) (q0 := 0) (As := [.int x3, .int x4]) (rest := []) (ws' := (wM cT ad madded msides mkey misThere mboxes morder mlevels mnodes mentries mleft mlow mright mhigh mfirst mend mthrown)) (st2 := .int v4 :: []) C (c_X5_partner l D cT ad n madded msides mkey misThere mboxes morder mlevels mnodes mentries mleft mlow mright mhigh mfirst mend mthrown x3 x4 v4 hc) (cwV 2 C.1.2.2.2.2 gX5_grows_X5_partner rfl rfl rfl pv_X5_partner ⟨(Nat.le_of_ble_eq_true rfl), (Nat.le_of_ble_eq_true rfl)⟩) dX5_grows_48 rfl rfl rfl rfl rfl (Nat.le_of_ble_eq_true rfl) ⟨rfl, rfl⟩ ⟨(Nat.le_of_ble_eq_true rfl), (Nat.le_of_ble_eq_true rfl)⟩ [0, 1, 2, 3, 4, 5, 6] [] [0, 1, 2, 3, 4, 5, 6] rfl rfl rfl rfl (by decide) rfl rfl rfl ?_
      clear hc
      refine h_istore (pc := 51) (lv' := [(6, .int v4), (0, .ref (ad 10)), (3, .int x3), (4, .int x4), (5, .int x5)]) C dX5_grows_51 (by decide) rfl ?_
      refine h_iload (pc := 53) C dX5_grows_53 0 rfl ?_
      refine h_iload (pc := 55) C dX5_grows_55 3 rfl ?_
      refine h_icmp_ge (pc := 57) (tgt := 65) C dX5_grows_57 (by decide) (fun q => ?_) (fun q => ?_)
      · replace hf := jif_t q hf
        clear q
        refine h_iload (pc := 65) C dX5_grows_65 3 rfl ?_
        refine h_sub [1, 2, 3, 0] rfl ?_
        exact k_X5_grows_67 l D cT ad C hr n madded msides mkey misThere mboxes morder mleft mlow mright mhigh mfirst mend mthrown mlevels' mnodes' mentries' (f_X5_grows_39 n fu) ih mlevels mnodes mentries x3 x4 v4 x4 hf
      · replace hf := jif_f q hf
        clear q
        refine h_iload (pc := 60) C dX5_grows_60 0 rfl ?_
        refine h_goto (pc := 62) (tgt := 67) C dX5_grows_62 (by decide) ?_
        refine h_sub [1, 2, 3, 0] rfl ?_
        exact k_X5_grows_67 l D cT ad C hr n madded msides mkey misThere mboxes morder mleft mlow mright mhigh mfirst mend mthrown mlevels' mnodes' mentries' (f_X5_grows_39 n fu) ih mlevels mnodes mentries x3 x4 v4 v4 hf
set_option maxRecDepth 100000 in
set_option maxHeartbeats 4000000 in
theorem k_X5_grows_37 {p : Program} {e : Env} {s : State} {m : MethodId} {args : Array Value} {below : List Frame} {meth : Method} {c : Code} {A : Nat → Prop} (l : Launch) (D : va_G) (cT : Nat → ClassId) (ad : Nat → Nat) (C : hC p s m args meth c cX5_grows 9 wsX5_grows RX5 D (ty4 cT) A) (hr : meth.sig.returnType = none) (n : Nat) (madded : Int32) (msides : Nat → Int32) (mkey : Nat → Int32) (misThere : Nat → Int32) (mboxes : Int32) (morder : Nat → Int32) (mleft : Int32) (mlow : Int32) (mright : Int32) (mhigh : Int32) (mfirst : Int32) (mend : Int32) (mthrown : Int32) (mlevels' : Int32) (mnodes' : Nat → Int32) (mentries' : Nat → Int32)  : ∀ (mlevels : Int32) (mnodes : Nat → Int32) (mentries : Nat → Int32) (x3 : Int32) (x4 : Int32) (t0 : Int32), f_X5_grows_37 n mlevels mnodes mentries x3 x4 t0 = some (mlevels', mnodes', mentries') → hS p l e rmX5_grows s m args below meth c 9 D A 0 0 (MQ below (cQ D (ty4 cT) A none (wM cT ad madded msides mkey misThere mboxes morder mlevels' mnodes' mentries' mleft mlow mright mhigh mfirst mend mthrown)) args s 0 0 A) 37 [(0, .ref (ad 10)), (3, .int x3), (4, .int x4)] (.int t0 :: []) (wM cT ad madded msides mkey misThere mboxes morder mlevels mnodes mentries mleft mlow mright mhigh mfirst mend mthrown) := by
  intro mlevels mnodes mentries x3 x4 t0 hf
  unfold f_X5_grows_37 at hf
  refine h_istore (pc := 37) (lv' := [(5, .int t0), (0, .ref (ad 10)), (3, .int x3), (4, .int x4)]) C dX5_grows_37 (by decide) rfl ?_
  refine h_sub [1, 2, 3, 0] rfl ?_
  exact k_X5_grows_39 l D cT ad C hr n madded msides mkey misThere mboxes morder mleft mlow mright mhigh mfirst mend mthrown mlevels' mnodes' mentries' n mlevels mnodes mentries x3 x4 t0 hf
set_option maxRecDepth 100000 in
set_option maxHeartbeats 4000000 in
theorem c_X5_grows (l : Launch) (D : va_G) (cT : Nat → ClassId) (ad : Nat → Nat) (n : Nat) (madded : Int32) (msides : Nat → Int32) (mkey : Nat → Int32) (misThere : Nat → Int32) (mboxes : Int32) (morder : Nat → Int32) (mlevels : Int32) (mnodes : Nat → Int32) (mentries : Nat → Int32) (mleft : Int32) (mlow : Int32) (mright : Int32) (mhigh : Int32) (mfirst : Int32) (mend : Int32) (mthrown : Int32) (a1 : Int32) (a2 : Int32) (mlevels' : Int32) (mnodes' : Nat → Int32) (mentries' : Nat → Int32) (hf : f_X5_grows n mlevels mnodes mentries a1 a2 = some (mlevels', mnodes', mentries')) : cM l yX5_grows wsX5_grows rmX5_grows D (ty4 cT) [.ref (ad 10), .int a1, .int a2] (wM cT ad madded msides mkey misThere mboxes morder mlevels mnodes mentries mleft mlow mright mhigh mfirst mend mthrown) none (wM cT ad madded msides mkey misThere mboxes morder mlevels' mnodes' mentries' mleft mlow mright mhigh mfirst mend mthrown) := by
  refine cM_of (cc := cX5_grows) (maxL := 9) (ret := none) (own := RX5) (lv := [(0, .ref (ad 10)), (1, .int a1), (2, .int a2)]) (by decide) rfl (Nat.le_of_ble_eq_true rfl) rfl rfl ?_
  intro p e s m args below meth c A C hr
  unfold f_X5_grows at hf
  refine h_iload_n (pc := 0) C dX5_grows_0 rfl 1 rfl ?_
  refine h_istore_n (pc := 1) (lv' := [(3, .int a1), (0, .ref (ad 10)), (1, .int a1), (2, .int a2)]) C dX5_grows_1 rfl (by decide) rfl ?_
  refine h_iload_n (pc := 2) C dX5_grows_2 rfl 3 rfl ?_
  refine h_istore (pc := 3) (lv' := [(4, .int a2), (3, .int a1), (0, .ref (ad 10)), (1, .int a1), (2, .int a2)]) C dX5_grows_3 (by decide) rfl ?_
  refine h_aload_n (pc := 5) C dX5_grows_5 rfl 2 rfl ?_
  refine h_get (pc := 6) (ci := 3) (C0 := RX5) (T := TX5) (N := 16) C uX5_grows_X5 rfl 0 rfl 8 (by decide) (List.mem_of_getElem? (i := 1) rfl) rfl rfl dX5_grows_6 ?_
  refine h_bipush (pc := 9) C dX5_grows_9 jb_64 ?_
  refine h_iload_n (pc := 11) C dX5_grows_11 rfl 1 rfl ?_
  refine h_imul (pc := 12) C dX5_grows_12 ?_
  refine h_iload (pc := 13) C dX5_grows_13 0 rfl ?_
  refine h_iadd (pc := 15) C dX5_grows_15 ?_
  refine h_dup2 (pc := 16) C dX5_grows_16 rfl rfl ?_
  obtain ⟨hi, v1, hv, hf⟩ := jrd_s hf
  refine h_iald (pc := 17) C 6 0 rfl rfl hi hv dX5_grows_17 ?_
  clear hi hv
  refine h_iconst (pc := 18) C dX5_grows_18 jc_1 ?_
  refine h_iadd (pc := 19) C dX5_grows_19 ?_
  obtain ⟨hi, w2, hv, hf⟩ := jwr_s hf
  refine h_iast (pc := 20) (ws' := (wM cT ad madded msides mkey misThere mboxes morder mlevels mnodes w2 mleft mlow mright mhigh mfirst mend mthrown)) C 6 0 rfl rfl hi hv rfl dX5_grows_20 ?_
  clear hi hv
  refine h_aload_n (pc := 21) C dX5_grows_21 rfl 2 rfl ?_
  refine h_iload_n (pc := 22) C dX5_grows_22 rfl 1 rfl ?_
  refine h_iload (pc := 23) C dX5_grows_23 0 rfl ?_
  obtain ⟨v3, hc, hf⟩ := jbd_s hf
  refine h_callV (pc := 25) (q0 := 0) (As := [.int a1, .int a2]) (rest := []) (ws' := (wM cT ad madded msides mkey misThere mboxes morder mlevels mnodes w2 mleft mlow mright mhigh mfirst mend mthrown)) (st2 := .int v3 :: []) C (c_X5_many l D cT ad n madded msides mkey misThere mboxes morder mlevels mnodes w2 mleft mlow mright mhigh mfirst mend mthrown a1 a2 v3 hc) (cwV 2 C.1.2.2.2.2 gX5_grows_X5_many rfl rfl rfl pv_X5_many ⟨(Nat.le_of_ble_eq_true rfl), (Nat.le_of_ble_eq_true rfl)⟩) dX5_grows_25 rfl rfl rfl rfl rfl (Nat.le_of_ble_eq_true rfl) ⟨rfl, rfl⟩ ⟨(Nat.le_of_ble_eq_true rfl), (Nat.le_of_ble_eq_true rfl)⟩ [0, 1, 2, 3, 4, 5, 6] [] [0, 1, 2, 3, 4, 5, 6] rfl rfl rfl rfl (by decide) rfl rfl rfl ?_
  clear hc
  refine h_iconst (pc := 28) C dX5_grows_28 jc_4 ?_
  refine h_icmp_le (pc := 29) (tgt := 36) C dX5_grows_29 (by decide) (fun q => ?_) (fun q => ?_)
  · replace hf := jif_t q hf
    clear q
    refine h_iconst (pc := 36) C dX5_grows_36 jc_0 ?_
    refine h_sub [2, 1, 0] rfl ?_
    exact k_X5_grows_37 l D cT ad C hr n madded msides mkey misThere mboxes morder mleft mlow mright mhigh mfirst mend mthrown mlevels' mnodes' mentries' mlevels mnodes w2 a1 a2 0 hf
  · replace hf := jif_f q hf
    clear q
    refine h_iconst (pc := 32) C dX5_grows_32 jc_1 ?_
    refine h_goto (pc := 33) (tgt := 37) C dX5_grows_33 (by decide) ?_
    refine h_sub [2, 1, 0] rfl ?_
    exact k_X5_grows_37 l D cT ad C hr n madded msides mkey misThere mboxes morder mleft mlow mright mhigh mfirst mend mthrown mlevels' mnodes' mentries' mlevels mnodes w2 a1 a2 1 hf
theorem pv_X5_grows : yX5_grows.cls = RX5 ∧ yX5_grows.cls ≠ "java/lang/invoke/MethodHandle" ∧ yX5_grows.cls ≠ "java/lang/invoke/VarHandle" ∧ (parseMethodDescriptor yX5_grows.desc).map (fun d => d.parameters.length) = some 2 := by decide +kernel
abbrev rmX5_shrinks : Room := { frames := 4, cells := 0, slots := 0, locals := 94 }
theorem uX5_shrinks_X5 : ∀ w ∈ u_ws RX5 TX5 16, w ∈ wsX5_shrinks := fun w h => List.mem_cons_of_mem _ (List.mem_append_right _ h)
set_option maxRecDepth 100000 in
set_option maxHeartbeats 4000000 in
theorem k_X5_shrinks_291 {p : Program} {e : Env} {s : State} {m : MethodId} {args : Array Value} {below : List Frame} {meth : Method} {c : Code} {A : Nat → Prop} (l : Launch) (D : va_G) (cT : Nat → ClassId) (ad : Nat → Nat) (C : hC p s m args meth c cX5_shrinks 9 wsX5_shrinks RX5 D (ty4 cT) A) (hr : meth.sig.returnType = none) (n : Nat) (madded : Int32) (msides : Nat → Int32) (mkey : Nat → Int32) (misThere : Nat → Int32) (mboxes : Int32) (morder : Nat → Int32) (mleft : Int32) (mlow : Int32) (mright : Int32) (mhigh : Int32) (mfirst : Int32) (mend : Int32) (mthrown : Int32) (mlevels' : Int32) (mnodes' : Nat → Int32) (mentries' : Nat → Int32)  : ∀ (mlevels : Int32) (mnodes : Nat → Int32) (mentries : Nat → Int32) (t1 : Int32), f_X5_shrinks_291 n mboxes mlevels mnodes mentries t1 = some (mlevels', mnodes', mentries') → hS p l e rmX5_shrinks s m args below meth c 9 D A 0 0 (MQ below (cQ D (ty4 cT) A none (wM cT ad madded msides mkey misThere mboxes morder mlevels' mnodes' mentries' mleft mlow mright mhigh mfirst mend mthrown)) args s 0 0 A) 291 [] (.int t1 :: .ref (ad 10) :: []) (wM cT ad madded msides mkey misThere mboxes morder mlevels mnodes mentries mleft mlow mright mhigh mfirst mend mthrown) := by
  intro mlevels mnodes mentries t1 hf
  unfold f_X5_shrinks_291 at hf
  refine h_put (pc := 291) (ci := 3) (C0 := RX5) (T := TX5) (N := 16) (ws' := (wM cT ad madded msides mkey misThere mboxes morder t1 mnodes mentries mleft mlow mright mhigh mfirst mend mthrown)) C uX5_shrinks_X5 tyX5 tyX5_ok nmX5 rfl 0 rfl 6 (by decide) (List.mem_of_getElem? (i := 2) rfl) rfl rfl rfl (Nat.le_of_ble_eq_true rfl) rfl dX5_shrinks_291 ?_
  have g0 := (Prod.mk.inj (Option.some.inj hf)).1
  have g1 := (Prod.mk.inj (Prod.mk.inj (Option.some.inj hf)).2).1
  have g2 := (Prod.mk.inj (Prod.mk.inj (Option.some.inj hf)).2).2
  clear hf
  subst g0
  subst g1
  subst g2
  exact h_vret C hr dX5_shrinks_294
set_option maxRecDepth 100000 in
set_option maxHeartbeats 4000000 in
theorem k_X5_shrinks_275 {p : Program} {e : Env} {s : State} {m : MethodId} {args : Array Value} {below : List Frame} {meth : Method} {c : Code} {A : Nat → Prop} (l : Launch) (D : va_G) (cT : Nat → ClassId) (ad : Nat → Nat) (C : hC p s m args meth c cX5_shrinks 9 wsX5_shrinks RX5 D (ty4 cT) A) (hr : meth.sig.returnType = none) (n : Nat) (madded : Int32) (msides : Nat → Int32) (mkey : Nat → Int32) (misThere : Nat → Int32) (mboxes : Int32) (morder : Nat → Int32) (mleft : Int32) (mlow : Int32) (mright : Int32) (mhigh : Int32) (mfirst : Int32) (mend : Int32) (mthrown : Int32) (mlevels' : Int32) (mnodes' : Nat → Int32) (mentries' : Nat → Int32)  : ∀ (mlevels : Int32) (mnodes : Nat → Int32) (mentries : Nat → Int32) , f_X5_shrinks_275 n mboxes mlevels mnodes mentries = some (mlevels', mnodes', mentries') → hS p l e rmX5_shrinks s m args below meth c 9 D A 0 0 (MQ below (cQ D (ty4 cT) A none (wM cT ad madded msides mkey misThere mboxes morder mlevels' mnodes' mentries' mleft mlow mright mhigh mfirst mend mthrown)) args s 0 0 A) 275 [(0, .ref (ad 10))] [] (wM cT ad madded msides mkey misThere mboxes morder mlevels mnodes mentries mleft mlow mright mhigh mfirst mend mthrown) := by
  intro mlevels mnodes mentries hf
  unfold f_X5_shrinks_275 at hf
  refine h_aload_n (pc := 275) C dX5_shrinks_275 rfl 0 rfl ?_
  refine h_aload_n (pc := 276) C dX5_shrinks_276 rfl 0 rfl ?_
  refine h_get (pc := 277) (ci := 3) (C0 := RX5) (T := TX5) (N := 16) C uX5_shrinks_X5 rfl 0 rfl 4 (by decide) (List.mem_of_getElem? (i := 3) rfl) rfl rfl dX5_shrinks_277 ?_
  refine h_if_ne (pc := 280) (tgt := 287) C dX5_shrinks_280 (by decide) (fun q => ?_) (fun q => ?_)
  · replace hf := jif_f q hf
    clear q
    refine h_aload_n (pc := 287) C dX5_shrinks_287 rfl 0 rfl ?_
    refine h_get (pc := 288) (ci := 3) (C0 := RX5) (T := TX5) (N := 16) C uX5_shrinks_X5 rfl 0 rfl 6 (by decide) (List.mem_of_getElem? (i := 2) rfl) rfl rfl dX5_shrinks_288 ?_
    refine h_sub [] rfl ?_
    exact k_X5_shrinks_291 l D cT ad C hr n madded msides mkey misThere mboxes morder mleft mlow mright mhigh mfirst mend mthrown mlevels' mnodes' mentries' mlevels mnodes mentries mlevels hf
  · replace hf := jif_t q hf
    clear q
    refine h_iconst (pc := 283) C dX5_shrinks_283 jc_0 ?_
    refine h_goto (pc := 284) (tgt := 291) C dX5_shrinks_284 (by decide) ?_
    refine h_sub [] rfl ?_
    exact k_X5_shrinks_291 l D cT ad C hr n madded msides mkey misThere mboxes morder mleft mlow mright mhigh mfirst mend mthrown mlevels' mnodes' mentries' mlevels mnodes mentries 0 hf
set_option maxRecDepth 100000 in
set_option maxHeartbeats 4000000 in
theorem k_X5_shrinks_239 {p : Program} {e : Env} {s : State} {m : MethodId} {args : Array Value} {below : List Frame} {meth : Method} {c : Code} {A : Nat → Prop} (l : Launch) (D : va_G) (cT : Nat → ClassId) (ad : Nat → Nat) (C : hC p s m args meth c cX5_shrinks 9 wsX5_shrinks RX5 D (ty4 cT) A) (hr : meth.sig.returnType = none) (n : Nat) (madded : Int32) (msides : Nat → Int32) (mkey : Nat → Int32) (misThere : Nat → Int32) (mboxes : Int32) (morder : Nat → Int32) (mleft : Int32) (mlow : Int32) (mright : Int32) (mhigh : Int32) (mfirst : Int32) (mend : Int32) (mthrown : Int32) (mlevels' : Int32) (mnodes' : Nat → Int32) (mentries' : Nat → Int32)  : ∀ (fu : Nat) (mlevels : Int32) (mnodes : Nat → Int32) (mentries : Nat → Int32) , f_X5_shrinks_239 n mboxes fu mlevels mnodes mentries = some (mlevels', mnodes', mentries') → hS p l e rmX5_shrinks s m args below meth c 9 D A 0 0 (MQ below (cQ D (ty4 cT) A none (wM cT ad madded msides mkey misThere mboxes morder mlevels' mnodes' mentries' mleft mlow mright mhigh mfirst mend mthrown)) args s 0 0 A) 239 [(0, .ref (ad 10))] [] (wM cT ad madded msides mkey misThere mboxes morder mlevels mnodes mentries mleft mlow mright mhigh mfirst mend mthrown) := by
  intro fu
  induction fu with
  | zero =>
    intro mlevels mnodes mentries hf
    exact nomatch (show (none : Option (Int32 × (Nat → Int32) × (Nat → Int32))) = some (mlevels', mnodes', mentries') from hf)
  | succ fu ih =>
    intro mlevels mnodes mentries hf
    rw [f_X5_shrinks_239] at hf
    refine h_aload_n (pc := 239) C dX5_shrinks_239 rfl 0 rfl ?_
    refine h_get (pc := 240) (ci := 3) (C0 := RX5) (T := TX5) (N := 16) C uX5_shrinks_X5 rfl 0 rfl 6 (by decide) (List.mem_of_getElem? (i := 2) rfl) rfl rfl dX5_shrinks_240 ?_
    refine h_iconst (pc := 243) C dX5_shrinks_243 jc_1 ?_
    refine h_icmp_le (pc := 244) (tgt := 275) C dX5_shrinks_244 (by decide) (fun q => ?_) (fun q => ?_)
    · replace hf := jif_t q hf
      clear q
      exact k_X5_shrinks_275 l D cT ad C hr n madded msides mkey misThere mboxes morder mleft mlow mright mhigh mfirst mend mthrown mlevels' mnodes' mentries' mlevels mnodes mentries hf
    · replace hf := jif_f q hf
      clear q
      refine h_aload_n (pc := 247) C dX5_shrinks_247 rfl 0 rfl ?_
      refine h_aload_n (pc := 248) C dX5_shrinks_248 rfl 0 rfl ?_
      refine h_get (pc := 249) (ci := 3) (C0 := RX5) (T := TX5) (N := 16) C uX5_shrinks_X5 rfl 0 rfl 6 (by decide) (List.mem_of_getElem? (i := 2) rfl) rfl rfl dX5_shrinks_249 ?_
      refine h_iconst (pc := 252) C dX5_shrinks_252 jc_1 ?_
      refine h_isub (pc := 253) C dX5_shrinks_253 ?_
      refine h_iconst (pc := 254) C dX5_shrinks_254 jc_0 ?_
      obtain ⟨v5, hc, hf⟩ := jbd_s hf
      refine h_callV (pc := 255) (q0 := 0) (As := [.int (mlevels - 1), .int 0]) (rest := []) (ws' := (wM cT ad madded msides mkey misThere mboxes morder mlevels mnodes mentries mleft mlow mright mhigh mfirst mend mthrown)) (st2 := .int v5 :: []) C (c_X5_many l D cT ad n madded msides mkey misThere mboxes morder mlevels mnodes mentries mleft mlow mright mhigh mfirst mend mthrown (mlevels - 1) 0 v5 hc) (cwV 2 C.1.2.2.2.2 gX5_shrinks_X5_many rfl rfl rfl pv_X5_many ⟨(Nat.le_of_ble_eq_true rfl), (Nat.le_of_ble_eq_true rfl)⟩) dX5_shrinks_255 rfl rfl rfl rfl rfl (Nat.le_of_ble_eq_true rfl) ⟨rfl, rfl⟩ ⟨(Nat.le_of_ble_eq_true rfl), (Nat.le_of_ble_eq_true rfl)⟩ [0, 1, 2, 3, 4, 5, 6] [] [0, 1, 2, 3, 4, 5, 6] rfl rfl rfl rfl (by decide) rfl rfl rfl ?_
      clear hc
      refine h_iconst (pc := 258) C dX5_shrinks_258 jc_1 ?_
      refine h_icmp_ne (pc := 259) (tgt := 275) C dX5_shrinks_259 (by decide) (fun q => ?_) (fun q => ?_)
      · replace hf := jif_f q hf
        clear q
        exact k_X5_shrinks_275 l D cT ad C hr n madded msides mkey misThere mboxes morder mleft mlow mright mhigh mfirst mend mthrown mlevels' mnodes' mentries' mlevels mnodes mentries hf
      · replace hf := jif_t q hf
        clear q
        refine h_aload_n (pc := 262) C dX5_shrinks_262 rfl 0 rfl ?_
        refine h_dup (pc := 263) C dX5_shrinks_263 rfl ?_
        refine h_get (pc := 264) (ci := 3) (C0 := RX5) (T := TX5) (N := 16) C uX5_shrinks_X5 rfl 0 rfl 6 (by decide) (List.mem_of_getElem? (i := 2) rfl) rfl rfl dX5_shrinks_264 ?_
        refine h_iconst (pc := 267) C dX5_shrinks_267 jc_1 ?_
        refine h_isub (pc := 268) C dX5_shrinks_268 ?_
        refine h_put (pc := 269) (ci := 3) (C0 := RX5) (T := TX5) (N := 16) (ws' := (wM cT ad madded msides mkey misThere mboxes morder (mlevels - 1) mnodes mentries mleft mlow mright mhigh mfirst mend mthrown)) C uX5_shrinks_X5 tyX5 tyX5_ok nmX5 rfl 0 rfl 6 (by decide) (List.mem_of_getElem? (i := 2) rfl) rfl rfl rfl (Nat.le_of_ble_eq_true rfl) rfl dX5_shrinks_269 ?_
        refine h_goto (pc := 272) (tgt := 239) C dX5_shrinks_272 (by decide) ?_
        exact ih (mlevels - 1) mnodes mentries hf
set_option maxRecDepth 100000 in
set_option maxHeartbeats 4000000 in
theorem k_X5_shrinks_236 {p : Program} {e : Env} {s : State} {m : MethodId} {args : Array Value} {below : List Frame} {meth : Method} {c : Code} {A : Nat → Prop} (l : Launch) (D : va_G) (cT : Nat → ClassId) (ad : Nat → Nat) (C : hC p s m args meth c cX5_shrinks 9 wsX5_shrinks RX5 D (ty4 cT) A) (hr : meth.sig.returnType = none) (n : Nat) (madded : Int32) (msides : Nat → Int32) (mkey : Nat → Int32) (misThere : Nat → Int32) (mboxes : Int32) (morder : Nat → Int32) (mleft : Int32) (mlow : Int32) (mright : Int32) (mhigh : Int32) (mfirst : Int32) (mend : Int32) (mthrown : Int32) (mlevels' : Int32) (mnodes' : Nat → Int32) (mentries' : Nat → Int32) (k41 : Int32 → (Nat → Int32) → (Nat → Int32) → Int32 → Int32 → Int32 → Option (Int32 × (Nat → Int32) × (Nat → Int32))) (K41 : ∀ (mlevels : Int32) (mnodes : Nat → Int32) (mentries : Nat → Int32) (x2 : Int32) (x3 : Int32) (x4 : Int32), k41 mlevels mnodes mentries x2 x3 x4 = some (mlevels', mnodes', mentries') → hS p l e rmX5_shrinks s m args below meth c 9 D A 0 0 (MQ below (cQ D (ty4 cT) A none (wM cT ad madded msides mkey misThere mboxes morder mlevels' mnodes' mentries' mleft mlow mright mhigh mfirst mend mthrown)) args s 0 0 A) 41 [(0, .ref (ad 10)), (2, .int x2), (3, .int x3), (4, .int x4)] [] (wM cT ad madded msides mkey misThere mboxes morder mlevels mnodes mentries mleft mlow mright mhigh mfirst mend mthrown)) : ∀ (mlevels : Int32) (mnodes : Nat → Int32) (mentries : Nat → Int32) (x2 : Int32) (x3 : Int32) (x4 : Int32), f_X5_shrinks_236 n mboxes k41 mlevels mnodes mentries x2 x3 x4 = some (mlevels', mnodes', mentries') → hS p l e rmX5_shrinks s m args below meth c 9 D A 0 0 (MQ below (cQ D (ty4 cT) A none (wM cT ad madded msides mkey misThere mboxes morder mlevels' mnodes' mentries' mleft mlow mright mhigh mfirst mend mthrown)) args s 0 0 A) 236 [(0, .ref (ad 10)), (2, .int x2), (3, .int x3), (4, .int x4)] [] (wM cT ad madded msides mkey misThere mboxes morder mlevels mnodes mentries mleft mlow mright mhigh mfirst mend mthrown) := by
  intro mlevels mnodes mentries x2 x3 x4 hf
  unfold f_X5_shrinks_236 at hf
  refine h_goto (pc := 236) (tgt := 41) C dX5_shrinks_236 (by decide) ?_
  exact K41 mlevels mnodes mentries x2 x3 x4 hf
set_option maxRecDepth 100000 in
set_option maxHeartbeats 4000000 in
theorem k_X5_shrinks_218 {p : Program} {e : Env} {s : State} {m : MethodId} {args : Array Value} {below : List Frame} {meth : Method} {c : Code} {A : Nat → Prop} (l : Launch) (D : va_G) (cT : Nat → ClassId) (ad : Nat → Nat) (C : hC p s m args meth c cX5_shrinks 9 wsX5_shrinks RX5 D (ty4 cT) A) (hr : meth.sig.returnType = none) (n : Nat) (madded : Int32) (msides : Nat → Int32) (mkey : Nat → Int32) (misThere : Nat → Int32) (mboxes : Int32) (morder : Nat → Int32) (mleft : Int32) (mlow : Int32) (mright : Int32) (mhigh : Int32) (mfirst : Int32) (mend : Int32) (mthrown : Int32) (mlevels' : Int32) (mnodes' : Nat → Int32) (mentries' : Nat → Int32) (k41 : Int32 → (Nat → Int32) → (Nat → Int32) → Int32 → Int32 → Int32 → Option (Int32 × (Nat → Int32) × (Nat → Int32))) (K41 : ∀ (mlevels : Int32) (mnodes : Nat → Int32) (mentries : Nat → Int32) (x2 : Int32) (x3 : Int32) (x4 : Int32), k41 mlevels mnodes mentries x2 x3 x4 = some (mlevels', mnodes', mentries') → hS p l e rmX5_shrinks s m args below meth c 9 D A 0 0 (MQ below (cQ D (ty4 cT) A none (wM cT ad madded msides mkey misThere mboxes morder mlevels' mnodes' mentries' mleft mlow mright mhigh mfirst mend mthrown)) args s 0 0 A) 41 [(0, .ref (ad 10)), (2, .int x2), (3, .int x3), (4, .int x4)] [] (wM cT ad madded msides mkey misThere mboxes morder mlevels mnodes mentries mleft mlow mright mhigh mfirst mend mthrown)) : ∀ (mlevels : Int32) (mnodes : Nat → Int32) (mentries : Nat → Int32) (x2 : Int32) (x3 : Int32) (t0 : Int32), f_X5_shrinks_218 n mboxes k41 mlevels mnodes mentries x2 x3 t0 = some (mlevels', mnodes', mentries') → hS p l e rmX5_shrinks s m args below meth c 9 D A 0 0 (MQ below (cQ D (ty4 cT) A none (wM cT ad madded msides mkey misThere mboxes morder mlevels' mnodes' mentries' mleft mlow mright mhigh mfirst mend mthrown)) args s 0 0 A) 218 [(0, .ref (ad 10)), (2, .int x2), (3, .int x3)] (.int t0 :: []) (wM cT ad madded msides mkey misThere mboxes morder mlevels mnodes mentries mleft mlow mright mhigh mfirst mend mthrown) := by
  intro mlevels mnodes mentries x2 x3 t0 hf
  unfold f_X5_shrinks_218 at hf
  refine h_istore (pc := 218) (lv' := [(4, .int t0), (0, .ref (ad 10)), (2, .int x2), (3, .int x3)]) C dX5_shrinks_218 (by decide) rfl ?_
  refine h_goto (pc := 220) (tgt := 236) C dX5_shrinks_220 (by decide) ?_
  refine h_sub [1, 2, 3, 0] rfl ?_
  exact k_X5_shrinks_236 l D cT ad C hr n madded msides mkey misThere mboxes morder mleft mlow mright mhigh mfirst mend mthrown mlevels' mnodes' mentries' k41 K41 mlevels mnodes mentries x2 x3 t0 hf
set_option maxRecDepth 100000 in
set_option maxHeartbeats 4000000 in
theorem k_X5_shrinks_217 {p : Program} {e : Env} {s : State} {m : MethodId} {args : Array Value} {below : List Frame} {meth : Method} {c : Code} {A : Nat → Prop} (l : Launch) (D : va_G) (cT : Nat → ClassId) (ad : Nat → Nat) (C : hC p s m args meth c cX5_shrinks 9 wsX5_shrinks RX5 D (ty4 cT) A) (hr : meth.sig.returnType = none) (n : Nat) (madded : Int32) (msides : Nat → Int32) (mkey : Nat → Int32) (misThere : Nat → Int32) (mboxes : Int32) (morder : Nat → Int32) (mleft : Int32) (mlow : Int32) (mright : Int32) (mhigh : Int32) (mfirst : Int32) (mend : Int32) (mthrown : Int32) (mlevels' : Int32) (mnodes' : Nat → Int32) (mentries' : Nat → Int32) (k41 : Int32 → (Nat → Int32) → (Nat → Int32) → Int32 → Int32 → Int32 → Option (Int32 × (Nat → Int32) × (Nat → Int32))) (K41 : ∀ (mlevels : Int32) (mnodes : Nat → Int32) (mentries : Nat → Int32) (x2 : Int32) (x3 : Int32) (x4 : Int32), k41 mlevels mnodes mentries x2 x3 x4 = some (mlevels', mnodes', mentries') → hS p l e rmX5_shrinks s m args below meth c 9 D A 0 0 (MQ below (cQ D (ty4 cT) A none (wM cT ad madded msides mkey misThere mboxes morder mlevels' mnodes' mentries' mleft mlow mright mhigh mfirst mend mthrown)) args s 0 0 A) 41 [(0, .ref (ad 10)), (2, .int x2), (3, .int x3), (4, .int x4)] [] (wM cT ad madded msides mkey misThere mboxes morder mlevels mnodes mentries mleft mlow mright mhigh mfirst mend mthrown)) : ∀ (mlevels : Int32) (mnodes : Nat → Int32) (mentries : Nat → Int32) (x2 : Int32) (x3 : Int32), f_X5_shrinks_217 n mboxes k41 mlevels mnodes mentries x2 x3 = some (mlevels', mnodes', mentries') → hS p l e rmX5_shrinks s m args below meth c 9 D A 0 0 (MQ below (cQ D (ty4 cT) A none (wM cT ad madded msides mkey misThere mboxes morder mlevels' mnodes' mentries' mleft mlow mright mhigh mfirst mend mthrown)) args s 0 0 A) 217 [(0, .ref (ad 10)), (2, .int x2), (3, .int x3)] [] (wM cT ad madded msides mkey misThere mboxes morder mlevels mnodes mentries mleft mlow mright mhigh mfirst mend mthrown) := by
  intro mlevels mnodes mentries x2 x3 hf
  unfold f_X5_shrinks_217 at hf
  refine h_iconst (pc := 217) C dX5_shrinks_217 jc_0 ?_
  exact k_X5_shrinks_218 l D cT ad C hr n madded msides mkey misThere mboxes morder mleft mlow mright mhigh mfirst mend mthrown mlevels' mnodes' mentries' k41 K41 mlevels mnodes mentries x2 x3 0 hf
set_option maxRecDepth 100000 in
set_option maxHeartbeats 4000000 in
theorem k_X5_shrinks_169 {p : Program} {e : Env} {s : State} {m : MethodId} {args : Array Value} {below : List Frame} {meth : Method} {c : Code} {A : Nat → Prop} (l : Launch) (D : va_G) (cT : Nat → ClassId) (ad : Nat → Nat) (C : hC p s m args meth c cX5_shrinks 9 wsX5_shrinks RX5 D (ty4 cT) A) (hr : meth.sig.returnType = none) (n : Nat) (madded : Int32) (msides : Nat → Int32) (mkey : Nat → Int32) (misThere : Nat → Int32) (mboxes : Int32) (morder : Nat → Int32) (mleft : Int32) (mlow : Int32) (mright : Int32) (mhigh : Int32) (mfirst : Int32) (mend : Int32) (mthrown : Int32) (mlevels' : Int32) (mnodes' : Nat → Int32) (mentries' : Nat → Int32) (k41 : Int32 → (Nat → Int32) → (Nat → Int32) → Int32 → Int32 → Int32 → Option (Int32 × (Nat → Int32) × (Nat → Int32))) (K41 : ∀ (mlevels : Int32) (mnodes : Nat → Int32) (mentries : Nat → Int32) (x2 : Int32) (x3 : Int32) (x4 : Int32), k41 mlevels mnodes mentries x2 x3 x4 = some (mlevels', mnodes', mentries') → hS p l e rmX5_shrinks s m args below meth c 9 D A 0 0 (MQ below (cQ D (ty4 cT) A none (wM cT ad madded msides mkey misThere mboxes morder mlevels' mnodes' mentries' mleft mlow mright mhigh mfirst mend mthrown)) args s 0 0 A) 41 [(0, .ref (ad 10)), (2, .int x2), (3, .int x3), (4, .int x4)] [] (wM cT ad madded msides mkey misThere mboxes morder mlevels mnodes mentries mleft mlow mright mhigh mfirst mend mthrown)) : ∀ (mlevels : Int32) (mnodes : Nat → Int32) (mentries : Nat → Int32) (x2 : Int32) (x7 : Int32) (t1 : Int32) (t2 : Int32), f_X5_shrinks_169 n mboxes k41 mlevels mnodes mentries x2 x7 t1 t2 = some (mlevels', mnodes', mentries') → hS p l e rmX5_shrinks s m args below meth c 9 D A 0 0 (MQ below (cQ D (ty4 cT) A none (wM cT ad madded msides mkey misThere mboxes morder mlevels' mnodes' mentries' mleft mlow mright mhigh mfirst mend mthrown)) args s 0 0 A) 169 [(0, .ref (ad 10)), (2, .int x2), (7, .int x7)] (.int t2 :: .int t1 :: .ref (ad 10) :: []) (wM cT ad madded msides mkey misThere mboxes morder mlevels mnodes mentries mleft mlow mright mhigh mfirst mend mthrown) := by
  intro mlevels mnodes mentries x2 x7 t1 t2 hf
  unfold f_X5_shrinks_169 at hf
  obtain ⟨v11, hc, hf⟩ := jbd_s hf
  refine h_callV (pc := 169) (q0 := 0) (As := [.int t1, .int t2]) (rest := []) (ws' := (wM cT ad madded msides mkey misThere mboxes morder mlevels v11.1 v11.2 mleft mlow mright mhigh mfirst mend mthrown)) (st2 := []) C (c_X5_goes l D cT ad n madded msides mkey misThere mboxes morder mlevels mnodes mentries mleft mlow mright mhigh mfirst mend mthrown t1 t2 v11.1 v11.2 hc) (cwV 2 C.1.2.2.2.2 gX5_shrinks_X5_goes rfl rfl rfl pv_X5_goes ⟨(Nat.le_of_ble_eq_true rfl), (Nat.le_of_ble_eq_true rfl)⟩) dX5_shrinks_169 rfl rfl rfl rfl rfl (Nat.le_of_ble_eq_true rfl) ⟨rfl, rfl⟩ ⟨(Nat.le_of_ble_eq_true rfl), (Nat.le_of_ble_eq_true rfl)⟩ [0, 1, 2, 3, 4, 5, 6] [] [0, 1, 2, 3, 4, 5, 6] rfl rfl rfl rfl (by decide) rfl rfl rfl ?_
  clear hc
  refine h_iinc (pc := 172) (v := x2 + 1) (lv' := [(2, .int (x2 + 1)), (0, .ref (ad 10)), (7, .int x7)]) C dX5_shrinks_172 1 rfl (ji_1 _) (by decide) rfl ?_
  refine h_iload (pc := 175) C dX5_shrinks_175 2 rfl ?_
  refine h_istore_n (pc := 177) (lv' := [(3, .int x7), (2, .int (x2 + 1)), (0, .ref (ad 10)), (7, .int x7)]) C dX5_shrinks_177 rfl (by decide) rfl ?_
  refine h_aload_n (pc := 178) C dX5_shrinks_178 rfl 2 rfl ?_
  refine h_get (pc := 179) (ci := 3) (C0 := RX5) (T := TX5) (N := 16) C uX5_shrinks_X5 rfl 0 rfl 8 (by decide) (List.mem_of_getElem? (i := 1) rfl) rfl rfl dX5_shrinks_179 ?_
  refine h_bipush (pc := 182) C dX5_shrinks_182 jb_64 ?_
  refine h_iload_n (pc := 184) C dX5_shrinks_184 rfl 1 rfl ?_
  refine h_imul (pc := 185) C dX5_shrinks_185 ?_
  refine h_iload_n (pc := 186) C dX5_shrinks_186 rfl 0 rfl ?_
  refine h_iadd (pc := 187) C dX5_shrinks_187 ?_
  refine h_dup2 (pc := 188) C dX5_shrinks_188 rfl rfl ?_
  obtain ⟨hi, v12, hv, hf⟩ := jrd_s hf
  refine h_iald (pc := 189) C 6 0 rfl rfl hi hv dX5_shrinks_189 ?_
  clear hi hv
  refine h_iconst (pc := 190) C dX5_shrinks_190 jc_1 ?_
  refine h_isub (pc := 191) C dX5_shrinks_191 ?_
  obtain ⟨hi, w13, hv, hf⟩ := jwr_s hf
  refine h_iast (pc := 192) (ws' := (wM cT ad madded msides mkey misThere mboxes morder mlevels v11.1 w13 mleft mlow mright mhigh mfirst mend mthrown)) C 6 0 rfl rfl hi hv rfl dX5_shrinks_192 ?_
  clear hi hv
  refine h_iload_n (pc := 193) C dX5_shrinks_193 rfl 1 rfl ?_
  refine h_aload_n (pc := 194) C dX5_shrinks_194 rfl 2 rfl ?_
  refine h_get (pc := 195) (ci := 3) (C0 := RX5) (T := TX5) (N := 16) C uX5_shrinks_X5 rfl 0 rfl 6 (by decide) (List.mem_of_getElem? (i := 2) rfl) rfl rfl dX5_shrinks_195 ?_
  refine h_iconst (pc := 198) C dX5_shrinks_198 jc_1 ?_
  refine h_isub (pc := 199) C dX5_shrinks_199 ?_
  refine h_icmp_ge (pc := 200) (tgt := 217) C dX5_shrinks_200 (by decide) (fun q => ?_) (fun q => ?_)
  · replace hf := jif_t q hf
    clear q
    refine h_sub [2, 1, 0] rfl ?_
    exact k_X5_shrinks_217 l D cT ad C hr n madded msides mkey misThere mboxes morder mleft mlow mright mhigh mfirst mend mthrown mlevels' mnodes' mentries' k41 K41 mlevels v11.1 w13 (x2 + 1) x7 hf
  · replace hf := jif_f q hf
    clear q
    refine h_aload_n (pc := 203) C dX5_shrinks_203 rfl 2 rfl ?_
    refine h_iload_n (pc := 204) C dX5_shrinks_204 rfl 1 rfl ?_
    refine h_iload_n (pc := 205) C dX5_shrinks_205 rfl 0 rfl ?_
    obtain ⟨v14, hc, hf⟩ := jbd_s hf
    refine h_callV (pc := 206) (q0 := 0) (As := [.int (x2 + 1), .int x7]) (rest := []) (ws' := (wM cT ad madded msides mkey misThere mboxes morder mlevels v11.1 w13 mleft mlow mright mhigh mfirst mend mthrown)) (st2 := .int v14 :: []) C (c_X5_many l D cT ad n madded msides mkey misThere mboxes morder mlevels v11.1 w13 mleft mlow mright mhigh mfirst mend mthrown (x2 + 1) x7 v14 hc) (cwV 2 C.1.2.2.2.2 gX5_shrinks_X5_many rfl rfl rfl pv_X5_many ⟨(Nat.le_of_ble_eq_true rfl), (Nat.le_of_ble_eq_true rfl)⟩) dX5_shrinks_206 rfl rfl rfl rfl rfl (Nat.le_of_ble_eq_true rfl) ⟨rfl, rfl⟩ ⟨(Nat.le_of_ble_eq_true rfl), (Nat.le_of_ble_eq_true rfl)⟩ [0, 1, 2, 3, 4, 5, 6] [] [0, 1, 2, 3, 4, 5, 6] rfl rfl rfl rfl (by decide) rfl rfl rfl ?_
    clear hc
    refine h_iconst (pc := 209) C dX5_shrinks_209 jc_2 ?_
    refine h_icmp_ge (pc := 210) (tgt := 217) C dX5_shrinks_210 (by decide) (fun q => ?_) (fun q => ?_)
    · replace hf := jif_t q hf
      clear q
      refine h_sub [2, 1, 0] rfl ?_
      exact k_X5_shrinks_217 l D cT ad C hr n madded msides mkey misThere mboxes morder mleft mlow mright mhigh mfirst mend mthrown mlevels' mnodes' mentries' k41 K41 mlevels v11.1 w13 (x2 + 1) x7 hf
    · replace hf := jif_f q hf
      clear q
      refine h_iconst (pc := 213) C dX5_shrinks_213 jc_1 ?_
      refine h_goto (pc := 214) (tgt := 218) C dX5_shrinks_214 (by decide) ?_
      refine h_sub [2, 1, 0] rfl ?_
      exact k_X5_shrinks_218 l D cT ad C hr n madded msides mkey misThere mboxes morder mleft mlow mright mhigh mfirst mend mthrown mlevels' mnodes' mentries' k41 K41 mlevels v11.1 w13 (x2 + 1) x7 1 hf
set_option maxRecDepth 100000 in
set_option maxHeartbeats 4000000 in
theorem k_X5_shrinks_132 {p : Program} {e : Env} {s : State} {m : MethodId} {args : Array Value} {below : List Frame} {meth : Method} {c : Code} {A : Nat → Prop} (l : Launch) (D : va_G) (cT : Nat → ClassId) (ad : Nat → Nat) (C : hC p s m args meth c cX5_shrinks 9 wsX5_shrinks RX5 D (ty4 cT) A) (hr : meth.sig.returnType = none) (n : Nat) (madded : Int32) (msides : Nat → Int32) (mkey : Nat → Int32) (misThere : Nat → Int32) (mboxes : Int32) (morder : Nat → Int32) (mleft : Int32) (mlow : Int32) (mright : Int32) (mhigh : Int32) (mfirst : Int32) (mend : Int32) (mthrown : Int32) (mlevels' : Int32) (mnodes' : Nat → Int32) (mentries' : Nat → Int32) (k41 : Int32 → (Nat → Int32) → (Nat → Int32) → Int32 → Int32 → Int32 → Option (Int32 × (Nat → Int32) × (Nat → Int32))) (K41 : ∀ (mlevels : Int32) (mnodes : Nat → Int32) (mentries : Nat → Int32) (x2 : Int32) (x3 : Int32) (x4 : Int32), k41 mlevels mnodes mentries x2 x3 x4 = some (mlevels', mnodes', mentries') → hS p l e rmX5_shrinks s m args below meth c 9 D A 0 0 (MQ below (cQ D (ty4 cT) A none (wM cT ad madded msides mkey misThere mboxes morder mlevels' mnodes' mentries' mleft mlow mright mhigh mfirst mend mthrown)) args s 0 0 A) 41 [(0, .ref (ad 10)), (2, .int x2), (3, .int x3), (4, .int x4)] [] (wM cT ad madded msides mkey misThere mboxes morder mlevels mnodes mentries mleft mlow mright mhigh mfirst mend mthrown)) : ∀ (mlevels : Int32) (mnodes : Nat → Int32) (mentries : Nat → Int32) (x2 : Int32) (x3 : Int32) (x5 : Int32) (x6 : Int32) (x7 : Int32) (x8 : Int32) (t0 : Int32), f_X5_shrinks_132 n mboxes k41 mlevels mnodes mentries x2 x3 x5 x6 x7 x8 t0 = some (mlevels', mnodes', mentries') → hS p l e rmX5_shrinks s m args below meth c 9 D A 0 0 (MQ below (cQ D (ty4 cT) A none (wM cT ad madded msides mkey misThere mboxes morder mlevels' mnodes' mentries' mleft mlow mright mhigh mfirst mend mthrown)) args s 0 0 A) 132 [(0, .ref (ad 10)), (2, .int x2), (3, .int x3), (5, .int x5), (6, .int x6), (7, .int x7), (8, .int x8)] (.int t0 :: []) (wM cT ad madded msides mkey misThere mboxes morder mlevels mnodes mentries mleft mlow mright mhigh mfirst mend mthrown) := by
  intro mlevels mnodes mentries x2 x3 x5 x6 x7 x8 t0 hf
  unfold f_X5_shrinks_132 at hf
  refine h_istore (pc := 132) (lv' := [(4, .int t0), (0, .ref (ad 10)), (2, .int x2), (3, .int x3), (5, .int x5), (6, .int x6), (7, .int x7), (8, .int x8)]) C dX5_shrinks_132 (by decide) rfl ?_
  refine h_iload (pc := 134) C dX5_shrinks_134 0 rfl ?_
  refine h_if_eq (pc := 136) (tgt := 223) C dX5_shrinks_136 (by decide) (fun q => ?_) (fun q => ?_)
  · replace hf := jif_t q hf
    clear q
    refine h_iload (pc := 223) C dX5_shrinks_223 4 rfl ?_
    refine h_iload_n (pc := 225) C dX5_shrinks_225 rfl 3 rfl ?_
    refine h_icmp_eq (pc := 226) (tgt := 236) C dX5_shrinks_226 (by decide) (fun q => ?_) (fun q => ?_)
    · replace hf := jif_t q hf
      clear q
      refine h_sub [1, 2, 3, 0] rfl ?_
      exact k_X5_shrinks_236 l D cT ad C hr n madded msides mkey misThere mboxes morder mleft mlow mright mhigh mfirst mend mthrown mlevels' mnodes' mentries' k41 K41 mlevels mnodes mentries x2 x3 t0 hf
    · replace hf := jif_f q hf
      clear q
      refine h_aload_n (pc := 229) C dX5_shrinks_229 rfl 1 rfl ?_
      refine h_iload_n (pc := 230) C dX5_shrinks_230 rfl 2 rfl ?_
      refine h_iload (pc := 231) C dX5_shrinks_231 5 rfl ?_
      obtain ⟨v9, hc, hf⟩ := jbd_s hf
      refine h_callV (pc := 233) (q0 := 0) (As := [.int x2, .int x6]) (rest := []) (ws' := (wM cT ad madded msides mkey misThere mboxes morder mlevels mnodes v9 mleft mlow mright mhigh mfirst mend mthrown)) (st2 := []) C (c_X5_shares l D cT ad n madded msides mkey misThere mboxes morder mlevels mnodes mentries mleft mlow mright mhigh mfirst mend mthrown x2 x6 v9 hc) (cwV 2 C.1.2.2.2.2 gX5_shrinks_X5_shares rfl rfl rfl pv_X5_shares ⟨(Nat.le_of_ble_eq_true rfl), (Nat.le_of_ble_eq_true rfl)⟩) dX5_shrinks_233 rfl rfl rfl rfl rfl (Nat.le_of_ble_eq_true rfl) ⟨rfl, rfl⟩ ⟨(Nat.le_of_ble_eq_true rfl), (Nat.le_of_ble_eq_true rfl)⟩ [0, 1, 2, 3, 4, 5, 6] [] [0, 1, 2, 3, 4, 5, 6] rfl rfl rfl rfl (by decide) rfl rfl rfl ?_
      clear hc
      refine h_sub [1, 2, 3, 0] rfl ?_
      exact k_X5_shrinks_236 l D cT ad C hr n madded msides mkey misThere mboxes morder mleft mlow mright mhigh mfirst mend mthrown mlevels' mnodes' mentries' k41 K41 mlevels mnodes v9 x2 x3 t0 hf
  · replace hf := jif_f q hf
    clear q
    refine h_aload_n (pc := 139) C dX5_shrinks_139 rfl 1 rfl ?_
    refine h_get (pc := 140) (ci := 3) (C0 := RX5) (T := TX5) (N := 16) C uX5_shrinks_X5 rfl 0 rfl 8 (by decide) (List.mem_of_getElem? (i := 1) rfl) rfl rfl dX5_shrinks_140 ?_
    refine h_bipush (pc := 143) C dX5_shrinks_143 jb_64 ?_
    refine h_iload_n (pc := 145) C dX5_shrinks_145 rfl 2 rfl ?_
    refine h_imul (pc := 146) C dX5_shrinks_146 ?_
    refine h_iload (pc := 147) C dX5_shrinks_147 5 rfl ?_
    refine h_iadd (pc := 149) C dX5_shrinks_149 ?_
    refine h_iload (pc := 150) C dX5_shrinks_150 7 rfl ?_
    obtain ⟨hi, w10, hv, hf⟩ := jwr_s hf
    refine h_iast (pc := 152) (ws' := (wM cT ad madded msides mkey misThere mboxes morder mlevels mnodes w10 mleft mlow mright mhigh mfirst mend mthrown)) C 6 0 rfl rfl hi hv rfl dX5_shrinks_152 ?_
    clear hi hv
    refine h_aload_n (pc := 153) C dX5_shrinks_153 rfl 1 rfl ?_
    refine h_iload_n (pc := 154) C dX5_shrinks_154 rfl 2 rfl ?_
    refine h_iload (pc := 155) C dX5_shrinks_155 4 rfl ?_
    refine h_iload_n (pc := 157) C dX5_shrinks_157 rfl 3 rfl ?_
    refine h_icmp_ne (pc := 158) (tgt := 165) C dX5_shrinks_158 (by decide) (fun q => ?_) (fun q => ?_)
    · replace hf := jif_f q hf
      clear q
      refine h_iload (pc := 165) C dX5_shrinks_165 5 rfl ?_
      refine h_iconst (pc := 167) C dX5_shrinks_167 jc_1 ?_
      refine h_iadd (pc := 168) C dX5_shrinks_168 ?_
      refine h_sub [1, 2, 6] rfl ?_
      exact k_X5_shrinks_169 l D cT ad C hr n madded msides mkey misThere mboxes morder mleft mlow mright mhigh mfirst mend mthrown mlevels' mnodes' mentries' k41 K41 mlevels mnodes w10 x2 x7 x2 (x6 + 1) hf
    · replace hf := jif_t q hf
      clear q
      refine h_iload_n (pc := 161) C dX5_shrinks_161 rfl 3 rfl ?_
      refine h_goto (pc := 162) (tgt := 169) C dX5_shrinks_162 (by decide) ?_
      refine h_sub [1, 2, 6] rfl ?_
      exact k_X5_shrinks_169 l D cT ad C hr n madded msides mkey misThere mboxes morder mleft mlow mright mhigh mfirst mend mthrown mlevels' mnodes' mentries' k41 K41 mlevels mnodes w10 x2 x7 x2 x3 hf
set_option maxRecDepth 100000 in
set_option maxHeartbeats 4000000 in
theorem k_X5_shrinks_99 {p : Program} {e : Env} {s : State} {m : MethodId} {args : Array Value} {below : List Frame} {meth : Method} {c : Code} {A : Nat → Prop} (l : Launch) (D : va_G) (cT : Nat → ClassId) (ad : Nat → Nat) (C : hC p s m args meth c cX5_shrinks 9 wsX5_shrinks RX5 D (ty4 cT) A) (hr : meth.sig.returnType = none) (n : Nat) (madded : Int32) (msides : Nat → Int32) (mkey : Nat → Int32) (misThere : Nat → Int32) (mboxes : Int32) (morder : Nat → Int32) (mleft : Int32) (mlow : Int32) (mright : Int32) (mhigh : Int32) (mfirst : Int32) (mend : Int32) (mthrown : Int32) (mlevels' : Int32) (mnodes' : Nat → Int32) (mentries' : Nat → Int32) (k41 : Int32 → (Nat → Int32) → (Nat → Int32) → Int32 → Int32 → Int32 → Option (Int32 × (Nat → Int32) × (Nat → Int32))) (K41 : ∀ (mlevels : Int32) (mnodes : Nat → Int32) (mentries : Nat → Int32) (x2 : Int32) (x3 : Int32) (x4 : Int32), k41 mlevels mnodes mentries x2 x3 x4 = some (mlevels', mnodes', mentries') → hS p l e rmX5_shrinks s m args below meth c 9 D A 0 0 (MQ below (cQ D (ty4 cT) A none (wM cT ad madded msides mkey misThere mboxes morder mlevels' mnodes' mentries' mleft mlow mright mhigh mfirst mend mthrown)) args s 0 0 A) 41 [(0, .ref (ad 10)), (2, .int x2), (3, .int x3), (4, .int x4)] [] (wM cT ad madded msides mkey misThere mboxes morder mlevels mnodes mentries mleft mlow mright mhigh mfirst mend mthrown)) : ∀ (mlevels : Int32) (mnodes : Nat → Int32) (mentries : Nat → Int32) (x2 : Int32) (x3 : Int32) (x5 : Int32) (x6 : Int32) (x7 : Int32) (t0 : Int32) (t1 : Int32), f_X5_shrinks_99 n mboxes k41 mlevels mnodes mentries x2 x3 x5 x6 x7 t0 t1 = some (mlevels', mnodes', mentries') → hS p l e rmX5_shrinks s m args below meth c 9 D A 0 0 (MQ below (cQ D (ty4 cT) A none (wM cT ad madded msides mkey misThere mboxes morder mlevels' mnodes' mentries' mleft mlow mright mhigh mfirst mend mthrown)) args s 0 0 A) 99 [(0, .ref (ad 10)), (2, .int x2), (3, .int x3), (5, .int x5), (6, .int x6), (7, .int x7)] (.int t1 :: .int t0 :: []) (wM cT ad madded msides mkey misThere mboxes morder mlevels mnodes mentries mleft mlow mright mhigh mfirst mend mthrown) := by
  intro mlevels mnodes mentries x2 x3 x5 x6 x7 t0 t1 hf
  unfold f_X5_shrinks_99 at hf
  refine h_iadd (pc := 99) C dX5_shrinks_99 ?_
  refine h_istore (pc := 100) (lv' := [(8, .int (t0 + t1)), (0, .ref (ad 10)), (2, .int x2), (3, .int x3), (5, .int x5), (6, .int x6), (7, .int x7)]) C dX5_shrinks_100 (by decide) rfl ?_
  refine h_iload (pc := 102) C dX5_shrinks_102 4 rfl ?_
  refine h_iload_n (pc := 104) C dX5_shrinks_104 rfl 3 rfl ?_
  refine h_icmp_ne (pc := 105) (tgt := 121) C dX5_shrinks_105 (by decide) (fun q => ?_) (fun q => ?_)
  · replace hf := jif_f q hf
    clear q
    refine h_iload (pc := 121) C dX5_shrinks_121 0 rfl ?_
    refine h_iconst (pc := 123) C dX5_shrinks_123 jc_4 ?_
    refine h_icmp_gt (pc := 124) (tgt := 131) C dX5_shrinks_124 (by decide) (fun q => ?_) (fun q => ?_)
    · replace hf := jif_t q hf
      clear q
      refine h_iconst (pc := 131) C dX5_shrinks_131 jc_0 ?_
      refine h_sub [1, 2, 3, 4, 5, 6, 0] rfl ?_
      exact k_X5_shrinks_132 l D cT ad C hr n madded msides mkey misThere mboxes morder mleft mlow mright mhigh mfirst mend mthrown mlevels' mnodes' mentries' k41 K41 mlevels mnodes mentries x2 x3 x5 x6 x7 (t0 + t1) 0 hf
    · replace hf := jif_f q hf
      clear q
      refine h_iconst (pc := 127) C dX5_shrinks_127 jc_1 ?_
      refine h_goto (pc := 128) (tgt := 132) C dX5_shrinks_128 (by decide) ?_
      refine h_sub [1, 2, 3, 4, 5, 6, 0] rfl ?_
      exact k_X5_shrinks_132 l D cT ad C hr n madded msides mkey misThere mboxes morder mleft mlow mright mhigh mfirst mend mthrown mlevels' mnodes' mentries' k41 K41 mlevels mnodes mentries x2 x3 x5 x6 x7 (t0 + t1) 1 hf
  · replace hf := jif_t q hf
    clear q
    refine h_iload (pc := 108) C dX5_shrinks_108 0 rfl ?_
    refine h_if_ne (pc := 110) (tgt := 117) C dX5_shrinks_110 (by decide) (fun q => ?_) (fun q => ?_)
    · replace hf := jif_f q hf
      clear q
      refine h_iconst (pc := 117) C dX5_shrinks_117 jc_0 ?_
      refine h_goto (pc := 118) (tgt := 132) C dX5_shrinks_118 (by decide) ?_
      refine h_sub [1, 2, 3, 4, 5, 6, 0] rfl ?_
      exact k_X5_shrinks_132 l D cT ad C hr n madded msides mkey misThere mboxes morder mleft mlow mright mhigh mfirst mend mthrown mlevels' mnodes' mentries' k41 K41 mlevels mnodes mentries x2 x3 x5 x6 x7 (t0 + t1) 0 hf
    · replace hf := jif_t q hf
      clear q
      refine h_iconst (pc := 113) C dX5_shrinks_113 jc_1 ?_
      refine h_goto (pc := 114) (tgt := 132) C dX5_shrinks_114 (by decide) ?_
      refine h_sub [1, 2, 3, 4, 5, 6, 0] rfl ?_
      exact k_X5_shrinks_132 l D cT ad C hr n madded msides mkey misThere mboxes morder mleft mlow mright mhigh mfirst mend mthrown mlevels' mnodes' mentries' k41 K41 mlevels mnodes mentries x2 x3 x5 x6 x7 (t0 + t1) 1 hf
set_option maxRecDepth 100000 in
set_option maxHeartbeats 4000000 in
theorem k_X5_shrinks_66 {p : Program} {e : Env} {s : State} {m : MethodId} {args : Array Value} {below : List Frame} {meth : Method} {c : Code} {A : Nat → Prop} (l : Launch) (D : va_G) (cT : Nat → ClassId) (ad : Nat → Nat) (C : hC p s m args meth c cX5_shrinks 9 wsX5_shrinks RX5 D (ty4 cT) A) (hr : meth.sig.returnType = none) (n : Nat) (madded : Int32) (msides : Nat → Int32) (mkey : Nat → Int32) (misThere : Nat → Int32) (mboxes : Int32) (morder : Nat → Int32) (mleft : Int32) (mlow : Int32) (mright : Int32) (mhigh : Int32) (mfirst : Int32) (mend : Int32) (mthrown : Int32) (mlevels' : Int32) (mnodes' : Nat → Int32) (mentries' : Nat → Int32) (k41 : Int32 → (Nat → Int32) → (Nat → Int32) → Int32 → Int32 → Int32 → Option (Int32 × (Nat → Int32) × (Nat → Int32))) (K41 : ∀ (mlevels : Int32) (mnodes : Nat → Int32) (mentries : Nat → Int32) (x2 : Int32) (x3 : Int32) (x4 : Int32), k41 mlevels mnodes mentries x2 x3 x4 = some (mlevels', mnodes', mentries') → hS p l e rmX5_shrinks s m args below meth c 9 D A 0 0 (MQ below (cQ D (ty4 cT) A none (wM cT ad madded msides mkey misThere mboxes morder mlevels' mnodes' mentries' mleft mlow mright mhigh mfirst mend mthrown)) args s 0 0 A) 41 [(0, .ref (ad 10)), (2, .int x2), (3, .int x3), (4, .int x4)] [] (wM cT ad madded msides mkey misThere mboxes morder mlevels mnodes mentries mleft mlow mright mhigh mfirst mend mthrown)) : ∀ (mlevels : Int32) (mnodes : Nat → Int32) (mentries : Nat → Int32) (x2 : Int32) (x3 : Int32) (x5 : Int32) (t0 : Int32), f_X5_shrinks_66 n mboxes k41 mlevels mnodes mentries x2 x3 x5 t0 = some (mlevels', mnodes', mentries') → hS p l e rmX5_shrinks s m args below meth c 9 D A 0 0 (MQ below (cQ D (ty4 cT) A none (wM cT ad madded msides mkey misThere mboxes morder mlevels' mnodes' mentries' mleft mlow mright mhigh mfirst mend mthrown)) args s 0 0 A) 66 [(0, .ref (ad 10)), (2, .int x2), (3, .int x3), (5, .int x5)] (.int t0 :: []) (wM cT ad madded msides mkey misThere mboxes morder mlevels mnodes mentries mleft mlow mright mhigh mfirst mend mthrown) := by
  intro mlevels mnodes mentries x2 x3 x5 t0 hf
  unfold f_X5_shrinks_66 at hf
  refine h_istore (pc := 66) (lv' := [(6, .int t0), (0, .ref (ad 10)), (2, .int x2), (3, .int x3), (5, .int x5)]) C dX5_shrinks_66 (by decide) rfl ?_
  refine h_aload_n (pc := 68) C dX5_shrinks_68 rfl 1 rfl ?_
  refine h_iload_n (pc := 69) C dX5_shrinks_69 rfl 2 rfl ?_
  refine h_iload_n (pc := 70) C dX5_shrinks_70 rfl 3 rfl ?_
  obtain ⟨v6, hc, hf⟩ := jbd_s hf
  refine h_callV (pc := 71) (q0 := 0) (As := [.int x2, .int x3]) (rest := []) (ws' := (wM cT ad madded msides mkey misThere mboxes morder mlevels mnodes mentries mleft mlow mright mhigh mfirst mend mthrown)) (st2 := .int v6 :: []) C (c_X5_above l D cT ad n madded msides mkey misThere mboxes morder mlevels mnodes mentries mleft mlow mright mhigh mfirst mend mthrown x2 x3 v6 hc) (cwV 2 C.1.2.2.2.2 gX5_shrinks_X5_above rfl rfl rfl pv_X5_above ⟨(Nat.le_of_ble_eq_true rfl), (Nat.le_of_ble_eq_true rfl)⟩) dX5_shrinks_71 rfl rfl rfl rfl rfl (Nat.le_of_ble_eq_true rfl) ⟨rfl, rfl⟩ ⟨(Nat.le_of_ble_eq_true rfl), (Nat.le_of_ble_eq_true rfl)⟩ [0, 1, 2, 3, 4, 5, 6] [] [0, 1, 2, 3, 4, 5, 6] rfl rfl rfl rfl (by decide) rfl rfl rfl ?_
  clear hc
  refine h_istore (pc := 74) (lv' := [(7, .int v6), (6, .int t0), (0, .ref (ad 10)), (2, .int x2), (3, .int x3), (5, .int x5)]) C dX5_shrinks_74 (by decide) rfl ?_
  refine h_aload_n (pc := 76) C dX5_shrinks_76 rfl 2 rfl ?_
  refine h_iload_n (pc := 77) C dX5_shrinks_77 rfl 3 rfl ?_
  refine h_iload_n (pc := 78) C dX5_shrinks_78 rfl 4 rfl ?_
  obtain ⟨v7, hc, hf⟩ := jbd_s hf
  refine h_callV (pc := 79) (q0 := 0) (As := [.int x2, .int x3]) (rest := []) (ws' := (wM cT ad madded msides mkey misThere mboxes morder mlevels mnodes mentries mleft mlow mright mhigh mfirst mend mthrown)) (st2 := .int v7 :: []) C (c_X5_many l D cT ad n madded msides mkey misThere mboxes morder mlevels mnodes mentries mleft mlow mright mhigh mfirst mend mthrown x2 x3 v7 hc) (cwV 2 C.1.2.2.2.2 gX5_shrinks_X5_many rfl rfl rfl pv_X5_many ⟨(Nat.le_of_ble_eq_true rfl), (Nat.le_of_ble_eq_true rfl)⟩) dX5_shrinks_79 rfl rfl rfl rfl rfl (Nat.le_of_ble_eq_true rfl) ⟨rfl, rfl⟩ ⟨(Nat.le_of_ble_eq_true rfl), (Nat.le_of_ble_eq_true rfl)⟩ [0, 1, 2, 3, 4, 5, 6] [] [0, 1, 2, 3, 4, 5, 6] rfl rfl rfl rfl (by decide) rfl rfl rfl ?_
  clear hc
  refine h_iload (pc := 82) C dX5_shrinks_82 5 rfl ?_
  refine h_iload_n (pc := 84) C dX5_shrinks_84 rfl 4 rfl ?_
  refine h_icmp_ne (pc := 85) (tgt := 92) C dX5_shrinks_85 (by decide) (fun q => ?_) (fun q => ?_)
  · replace hf := jif_f q hf
    clear q
    refine h_aload_n (pc := 92) C dX5_shrinks_92 rfl 2 rfl ?_
    refine h_iload_n (pc := 93) C dX5_shrinks_93 rfl 3 rfl ?_
    refine h_iload (pc := 94) C dX5_shrinks_94 5 rfl ?_
    obtain ⟨v8, hc, hf⟩ := jbd_s hf
    refine h_callV (pc := 96) (q0 := 0) (As := [.int x2, .int x5]) (rest := .int v7 :: []) (ws' := (wM cT ad madded msides mkey misThere mboxes morder mlevels mnodes mentries mleft mlow mright mhigh mfirst mend mthrown)) (st2 := .int v8 :: .int v7 :: []) C (c_X5_many l D cT ad n madded msides mkey misThere mboxes morder mlevels mnodes mentries mleft mlow mright mhigh mfirst mend mthrown x2 x5 v8 hc) (cwV 2 C.1.2.2.2.2 gX5_shrinks_X5_many rfl rfl rfl pv_X5_many ⟨(Nat.le_of_ble_eq_true rfl), (Nat.le_of_ble_eq_true rfl)⟩) dX5_shrinks_96 rfl rfl rfl rfl rfl (Nat.le_of_ble_eq_true rfl) ⟨rfl, rfl⟩ ⟨(Nat.le_of_ble_eq_true rfl), (Nat.le_of_ble_eq_true rfl)⟩ [0, 1, 2, 3, 4, 5, 6] [] [0, 1, 2, 3, 4, 5, 6] rfl rfl rfl rfl (by decide) rfl rfl rfl ?_
    clear hc
    refine h_sub [2, 3, 4, 5, 1, 0] rfl ?_
    exact k_X5_shrinks_99 l D cT ad C hr n madded msides mkey misThere mboxes morder mleft mlow mright mhigh mfirst mend mthrown mlevels' mnodes' mentries' k41 K41 mlevels mnodes mentries x2 x3 x5 t0 v6 v7 v8 hf
  · replace hf := jif_t q hf
    clear q
    refine h_iconst (pc := 88) C dX5_shrinks_88 jc_0 ?_
    refine h_goto (pc := 89) (tgt := 99) C dX5_shrinks_89 (by decide) ?_
    refine h_sub [2, 3, 4, 5, 1, 0] rfl ?_
    exact k_X5_shrinks_99 l D cT ad C hr n madded msides mkey misThere mboxes morder mleft mlow mright mhigh mfirst mend mthrown mlevels' mnodes' mentries' k41 K41 mlevels mnodes mentries x2 x3 x5 t0 v6 v7 0 hf
set_option maxRecDepth 100000 in
set_option maxHeartbeats 4000000 in
theorem k_X5_shrinks_41 {p : Program} {e : Env} {s : State} {m : MethodId} {args : Array Value} {below : List Frame} {meth : Method} {c : Code} {A : Nat → Prop} (l : Launch) (D : va_G) (cT : Nat → ClassId) (ad : Nat → Nat) (C : hC p s m args meth c cX5_shrinks 9 wsX5_shrinks RX5 D (ty4 cT) A) (hr : meth.sig.returnType = none) (n : Nat) (madded : Int32) (msides : Nat → Int32) (mkey : Nat → Int32) (misThere : Nat → Int32) (mboxes : Int32) (morder : Nat → Int32) (mleft : Int32) (mlow : Int32) (mright : Int32) (mhigh : Int32) (mfirst : Int32) (mend : Int32) (mthrown : Int32) (mlevels' : Int32) (mnodes' : Nat → Int32) (mentries' : Nat → Int32)  : ∀ (fu : Nat) (mlevels : Int32) (mnodes : Nat → Int32) (mentries : Nat → Int32) (x2 : Int32) (x3 : Int32) (x4 : Int32), f_X5_shrinks_41 n mboxes fu mlevels mnodes mentries x2 x3 x4 = some (mlevels', mnodes', mentries') → hS p l e rmX5_shrinks s m args below meth c 9 D A 0 0 (MQ below (cQ D (ty4 cT) A none (wM cT ad madded msides mkey misThere mboxes morder mlevels' mnodes' mentries' mleft mlow mright mhigh mfirst mend mthrown)) args s 0 0 A) 41 [(0, .ref (ad 10)), (2, .int x2), (3, .int x3), (4, .int x4)] [] (wM cT ad madded msides mkey misThere mboxes morder mlevels mnodes mentries mleft mlow mright mhigh mfirst mend mthrown) := by
  intro fu
  induction fu with
  | zero =>
    intro mlevels mnodes mentries x2 x3 x4 hf
    exact nomatch (show (none : Option (Int32 × (Nat → Int32) × (Nat → Int32))) = some (mlevels', mnodes', mentries') from hf)
  | succ fu ih =>
    intro mlevels mnodes mentries x2 x3 x4 hf
    rw [f_X5_shrinks_41] at hf
    refine h_iload (pc := 41) C dX5_shrinks_41 3 rfl ?_
    refine h_if_eq (pc := 43) (tgt := 239) C dX5_shrinks_43 (by decide) (fun q => ?_) (fun q => ?_)
    · replace hf := jif_t q hf
      clear q
      refine h_sub [0] rfl ?_
      exact k_X5_shrinks_239 l D cT ad C hr n madded msides mkey misThere mboxes morder mleft mlow mright mhigh mfirst mend mthrown mlevels' mnodes' mentries' n mlevels mnodes mentries hf
    · replace hf := jif_f q hf
      clear q
      refine h_aload_n (pc := 46) C dX5_shrinks_46 rfl 0 rfl ?_
      refine h_iload_n (pc := 47) C dX5_shrinks_47 rfl 1 rfl ?_
      refine h_iload_n (pc := 48) C dX5_shrinks_48 rfl 2 rfl ?_
      obtain ⟨v4, hc, hf⟩ := jbd_s hf
      refine h_callV (pc := 49) (q0 := 0) (As := [.int x2, .int x3]) (rest := []) (ws' := (wM cT ad madded msides mkey misThere mboxes morder mlevels mnodes mentries mleft mlow mright mhigh mfirst mend mthrown)) (st2 := .int v4 :: []) C (c_X5_partner l D cT ad n madded msides mkey misThere mboxes morder mlevels mnodes mentries mleft mlow mright mhigh mfirst mend mthrown x2 x3 v4 hc) (cwV 2 C.1.2.2.2.2 gX5_shrinks_X5_partner rfl rfl rfl pv_X5_partner ⟨(Nat.le_of_ble_eq_true rfl), (Nat.le_of_ble_eq_true rfl)⟩) dX5_shrinks_49 rfl rfl rfl rfl rfl (Nat.le_of_ble_eq_true rfl) ⟨rfl, rfl⟩ ⟨(Nat.le_of_ble_eq_true rfl), (Nat.le_of_ble_eq_true rfl)⟩ [0, 1, 2, 3, 4, 5, 6] [] [0, 1, 2, 3, 4, 5, 6] rfl rfl rfl rfl (by decide) rfl rfl rfl ?_
      clear hc
      refine h_istore (pc := 52) (lv' := [(5, .int v4), (0, .ref (ad 10)), (2, .int x2), (3, .int x3), (4, .int x4)]) C dX5_shrinks_52 (by decide) rfl ?_
      refine h_iload (pc := 54) C dX5_shrinks_54 0 rfl ?_
      refine h_iload_n (pc := 56) C dX5_shrinks_56 rfl 3 rfl ?_
      refine h_icmp_ge (pc := 57) (tgt := 65) C dX5_shrinks_57 (by decide) (fun q => ?_) (fun q => ?_)
      · replace hf := jif_t q hf
        clear q
        refine h_iload_n (pc := 65) C dX5_shrinks_65 rfl 3 rfl ?_
        refine h_sub [1, 2, 3, 0] rfl ?_
        exact k_X5_shrinks_66 l D cT ad C hr n madded msides mkey misThere mboxes morder mleft mlow mright mhigh mfirst mend mthrown mlevels' mnodes' mentries' (f_X5_shrinks_41 n mboxes fu) ih mlevels mnodes mentries x2 x3 v4 x3 hf
      · replace hf := jif_f q hf
        clear q
        refine h_iload (pc := 60) C dX5_shrinks_60 0 rfl ?_
        refine h_goto (pc := 62) (tgt := 66) C dX5_shrinks_62 (by decide) ?_
        refine h_sub [1, 2, 3, 0] rfl ?_
        exact k_X5_shrinks_66 l D cT ad C hr n madded msides mkey misThere mboxes morder mleft mlow mright mhigh mfirst mend mthrown mlevels' mnodes' mentries' (f_X5_shrinks_41 n mboxes fu) ih mlevels mnodes mentries x2 x3 v4 v4 hf
set_option maxRecDepth 100000 in
set_option maxHeartbeats 4000000 in
theorem k_X5_shrinks_39 {p : Program} {e : Env} {s : State} {m : MethodId} {args : Array Value} {below : List Frame} {meth : Method} {c : Code} {A : Nat → Prop} (l : Launch) (D : va_G) (cT : Nat → ClassId) (ad : Nat → Nat) (C : hC p s m args meth c cX5_shrinks 9 wsX5_shrinks RX5 D (ty4 cT) A) (hr : meth.sig.returnType = none) (n : Nat) (madded : Int32) (msides : Nat → Int32) (mkey : Nat → Int32) (misThere : Nat → Int32) (mboxes : Int32) (morder : Nat → Int32) (mleft : Int32) (mlow : Int32) (mright : Int32) (mhigh : Int32) (mfirst : Int32) (mend : Int32) (mthrown : Int32) (mlevels' : Int32) (mnodes' : Nat → Int32) (mentries' : Nat → Int32)  : ∀ (mlevels : Int32) (mnodes : Nat → Int32) (mentries : Nat → Int32) (x2 : Int32) (x3 : Int32) (t0 : Int32), f_X5_shrinks_39 n mboxes mlevels mnodes mentries x2 x3 t0 = some (mlevels', mnodes', mentries') → hS p l e rmX5_shrinks s m args below meth c 9 D A 0 0 (MQ below (cQ D (ty4 cT) A none (wM cT ad madded msides mkey misThere mboxes morder mlevels' mnodes' mentries' mleft mlow mright mhigh mfirst mend mthrown)) args s 0 0 A) 39 [(0, .ref (ad 10)), (2, .int x2), (3, .int x3)] (.int t0 :: []) (wM cT ad madded msides mkey misThere mboxes morder mlevels mnodes mentries mleft mlow mright mhigh mfirst mend mthrown) := by
  intro mlevels mnodes mentries x2 x3 t0 hf
  unfold f_X5_shrinks_39 at hf
  refine h_istore (pc := 39) (lv' := [(4, .int t0), (0, .ref (ad 10)), (2, .int x2), (3, .int x3)]) C dX5_shrinks_39 (by decide) rfl ?_
  refine h_sub [1, 2, 3, 0] rfl ?_
  exact k_X5_shrinks_41 l D cT ad C hr n madded msides mkey misThere mboxes morder mleft mlow mright mhigh mfirst mend mthrown mlevels' mnodes' mentries' n mlevels mnodes mentries x2 x3 t0 hf
set_option maxRecDepth 100000 in
set_option maxHeartbeats 4000000 in
theorem k_X5_shrinks_38 {p : Program} {e : Env} {s : State} {m : MethodId} {args : Array Value} {below : List Frame} {meth : Method} {c : Code} {A : Nat → Prop} (l : Launch) (D : va_G) (cT : Nat → ClassId) (ad : Nat → Nat) (C : hC p s m args meth c cX5_shrinks 9 wsX5_shrinks RX5 D (ty4 cT) A) (hr : meth.sig.returnType = none) (n : Nat) (madded : Int32) (msides : Nat → Int32) (mkey : Nat → Int32) (misThere : Nat → Int32) (mboxes : Int32) (morder : Nat → Int32) (mleft : Int32) (mlow : Int32) (mright : Int32) (mhigh : Int32) (mfirst : Int32) (mend : Int32) (mthrown : Int32) (mlevels' : Int32) (mnodes' : Nat → Int32) (mentries' : Nat → Int32)  : ∀ (mlevels : Int32) (mnodes : Nat → Int32) (mentries : Nat → Int32) (x2 : Int32) (x3 : Int32), f_X5_shrinks_38 n mboxes mlevels mnodes mentries x2 x3 = some (mlevels', mnodes', mentries') → hS p l e rmX5_shrinks s m args below meth c 9 D A 0 0 (MQ below (cQ D (ty4 cT) A none (wM cT ad madded msides mkey misThere mboxes morder mlevels' mnodes' mentries' mleft mlow mright mhigh mfirst mend mthrown)) args s 0 0 A) 38 [(0, .ref (ad 10)), (2, .int x2), (3, .int x3)] [] (wM cT ad madded msides mkey misThere mboxes morder mlevels mnodes mentries mleft mlow mright mhigh mfirst mend mthrown) := by
  intro mlevels mnodes mentries x2 x3 hf
  unfold f_X5_shrinks_38 at hf
  refine h_iconst (pc := 38) C dX5_shrinks_38 jc_0 ?_
  exact k_X5_shrinks_39 l D cT ad C hr n madded msides mkey misThere mboxes morder mleft mlow mright mhigh mfirst mend mthrown mlevels' mnodes' mentries' mlevels mnodes mentries x2 x3 0 hf
set_option maxRecDepth 100000 in
set_option maxHeartbeats 4000000 in
theorem c_X5_shrinks (l : Launch) (D : va_G) (cT : Nat → ClassId) (ad : Nat → Nat) (n : Nat) (madded : Int32) (msides : Nat → Int32) (mkey : Nat → Int32) (misThere : Nat → Int32) (mboxes : Int32) (morder : Nat → Int32) (mlevels : Int32) (mnodes : Nat → Int32) (mentries : Nat → Int32) (mleft : Int32) (mlow : Int32) (mright : Int32) (mhigh : Int32) (mfirst : Int32) (mend : Int32) (mthrown : Int32) (a1 : Int32) (mlevels' : Int32) (mnodes' : Nat → Int32) (mentries' : Nat → Int32) (hf : f_X5_shrinks n mboxes mlevels mnodes mentries a1 = some (mlevels', mnodes', mentries')) : cM l yX5_shrinks wsX5_shrinks rmX5_shrinks D (ty4 cT) [.ref (ad 10), .int a1] (wM cT ad madded msides mkey misThere mboxes morder mlevels mnodes mentries mleft mlow mright mhigh mfirst mend mthrown) none (wM cT ad madded msides mkey misThere mboxes morder mlevels' mnodes' mentries' mleft mlow mright mhigh mfirst mend mthrown) := by
  refine cM_of (cc := cX5_shrinks) (maxL := 9) (ret := none) (own := RX5) (lv := [(0, .ref (ad 10)), (1, .int a1)]) (by decide) rfl (Nat.le_of_ble_eq_true rfl) rfl rfl ?_
  intro p e s m args below meth c A C hr
  unfold f_X5_shrinks at hf
  refine h_iconst (pc := 0) C dX5_shrinks_0 jc_0 ?_
  refine h_istore_n (pc := 1) (lv' := [(2, .int 0), (0, .ref (ad 10)), (1, .int a1)]) C dX5_shrinks_1 rfl (by decide) rfl ?_
  refine h_iload_n (pc := 2) C dX5_shrinks_2 rfl 2 rfl ?_
  refine h_istore_n (pc := 3) (lv' := [(3, .int a1), (2, .int 0), (0, .ref (ad 10)), (1, .int a1)]) C dX5_shrinks_3 rfl (by decide) rfl ?_
  refine h_aload_n (pc := 4) C dX5_shrinks_4 rfl 2 rfl ?_
  refine h_get (pc := 5) (ci := 3) (C0 := RX5) (T := TX5) (N := 16) C uX5_shrinks_X5 rfl 0 rfl 8 (by decide) (List.mem_of_getElem? (i := 1) rfl) rfl rfl dX5_shrinks_5 ?_
  refine h_iload_n (pc := 8) C dX5_shrinks_8 rfl 0 rfl ?_
  refine h_dup2 (pc := 9) C dX5_shrinks_9 rfl rfl ?_
  obtain ⟨hi, v1, hv, hf⟩ := jrd_s hf
  refine h_iald (pc := 10) C 6 0 rfl rfl hi hv dX5_shrinks_10 ?_
  clear hi hv
  refine h_iconst (pc := 11) C dX5_shrinks_11 jc_1 ?_
  refine h_isub (pc := 12) C dX5_shrinks_12 ?_
  obtain ⟨hi, w2, hv, hf⟩ := jwr_s hf
  refine h_iast (pc := 13) (ws' := (wM cT ad madded msides mkey misThere mboxes morder mlevels mnodes w2 mleft mlow mright mhigh mfirst mend mthrown)) C 6 0 rfl rfl hi hv rfl dX5_shrinks_13 ?_
  clear hi hv
  refine h_iload_n (pc := 14) C dX5_shrinks_14 rfl 1 rfl ?_
  refine h_aload_n (pc := 15) C dX5_shrinks_15 rfl 2 rfl ?_
  refine h_get (pc := 16) (ci := 3) (C0 := RX5) (T := TX5) (N := 16) C uX5_shrinks_X5 rfl 0 rfl 6 (by decide) (List.mem_of_getElem? (i := 2) rfl) rfl rfl dX5_shrinks_16 ?_
  refine h_iconst (pc := 19) C dX5_shrinks_19 jc_1 ?_
  refine h_isub (pc := 20) C dX5_shrinks_20 ?_
  refine h_icmp_ge (pc := 21) (tgt := 38) C dX5_shrinks_21 (by decide) (fun q => ?_) (fun q => ?_)
  · replace hf := jif_t q hf
    clear q
    refine h_sub [2, 1, 0] rfl ?_
    exact k_X5_shrinks_38 l D cT ad C hr n madded msides mkey misThere mboxes morder mleft mlow mright mhigh mfirst mend mthrown mlevels' mnodes' mentries' mlevels mnodes w2 0 a1 hf
  · replace hf := jif_f q hf
    clear q
    refine h_aload_n (pc := 24) C dX5_shrinks_24 rfl 2 rfl ?_
    refine h_iload_n (pc := 25) C dX5_shrinks_25 rfl 1 rfl ?_
    refine h_iload_n (pc := 26) C dX5_shrinks_26 rfl 0 rfl ?_
    obtain ⟨v3, hc, hf⟩ := jbd_s hf
    refine h_callV (pc := 27) (q0 := 0) (As := [.int 0, .int a1]) (rest := []) (ws' := (wM cT ad madded msides mkey misThere mboxes morder mlevels mnodes w2 mleft mlow mright mhigh mfirst mend mthrown)) (st2 := .int v3 :: []) C (c_X5_many l D cT ad n madded msides mkey misThere mboxes morder mlevels mnodes w2 mleft mlow mright mhigh mfirst mend mthrown 0 a1 v3 hc) (cwV 2 C.1.2.2.2.2 gX5_shrinks_X5_many rfl rfl rfl pv_X5_many ⟨(Nat.le_of_ble_eq_true rfl), (Nat.le_of_ble_eq_true rfl)⟩) dX5_shrinks_27 rfl rfl rfl rfl rfl (Nat.le_of_ble_eq_true rfl) ⟨rfl, rfl⟩ ⟨(Nat.le_of_ble_eq_true rfl), (Nat.le_of_ble_eq_true rfl)⟩ [0, 1, 2, 3, 4, 5, 6] [] [0, 1, 2, 3, 4, 5, 6] rfl rfl rfl rfl (by decide) rfl rfl rfl ?_
    clear hc
    refine h_iconst (pc := 30) C dX5_shrinks_30 jc_2 ?_
    refine h_icmp_ge (pc := 31) (tgt := 38) C dX5_shrinks_31 (by decide) (fun q => ?_) (fun q => ?_)
    · replace hf := jif_t q hf
      clear q
      refine h_sub [2, 1, 0] rfl ?_
      exact k_X5_shrinks_38 l D cT ad C hr n madded msides mkey misThere mboxes morder mleft mlow mright mhigh mfirst mend mthrown mlevels' mnodes' mentries' mlevels mnodes w2 0 a1 hf
    · replace hf := jif_f q hf
      clear q
      refine h_iconst (pc := 34) C dX5_shrinks_34 jc_1 ?_
      refine h_goto (pc := 35) (tgt := 39) C dX5_shrinks_35 (by decide) ?_
      refine h_sub [2, 1, 0] rfl ?_
      exact k_X5_shrinks_39 l D cT ad C hr n madded msides mkey misThere mboxes morder mleft mlow mright mhigh mfirst mend mthrown mlevels' mnodes' mentries' mlevels mnodes w2 0 a1 1 hf
theorem pv_X5_shrinks : yX5_shrinks.cls = RX5 ∧ yX5_shrinks.cls ≠ "java/lang/invoke/MethodHandle" ∧ yX5_shrinks.cls ≠ "java/lang/invoke/VarHandle" ∧ (parseMethodDescriptor yX5_shrinks.desc).map (fun d => d.parameters.length) = some 1 := by decide +kernel
