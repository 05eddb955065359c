/-! laid by wip/whole/lay.py: contracts -/
abbrev rmX3_partner : Room := { frames := 3, cells := 0, slots := 0, locals := 69 }
set_option maxRecDepth 100000 in
set_option maxHeartbeats 4000000 in
theorem c_X3_partner (l : Launch) (D : va_G) (cT : Nat → ClassId) (ad : Nat → Nat) (n : Nat) (loads : Nat → Int32) (widths : Nat → Int32) (height : Int32) (a1 : Int32) (a2 : Int32) (a3 : Int32) (r : Int32) (hf : f_X3_partner n loads widths height a1 a2 a3 = some r) : cM l yX3_partner wsX3_partner rmX3_partner D (ty4 cT) [.ref (ad 6), .int a1, .int a2, .int a3] (wT cT ad loads widths height) (some (.int r)) (wT cT ad loads widths height) := by
  refine cM_of (cc := cX3_partner) (maxL := 6) (ret := (some .int)) (own := RX3) (lv := [(0, .ref (ad 6)), (1, .int a1), (2, .int a2), (3, .int a3)]) (by decide) rfl (Nat.le_of_ble_eq_true rfl) rfl rfl ?_
  intro p e s m args below meth c A C hr
  unfold f_X3_partner at hf
  refine h_aload_n (pc := 0) C dX3_partner_0 rfl 0 rfl ?_
  refine h_iload_n (pc := 1) C dX3_partner_1 rfl 1 rfl ?_
  refine h_iconst (pc := 2) C dX3_partner_2 jc_1 ?_
  refine h_iadd (pc := 3) C dX3_partner_3 ?_
  refine h_iload_n (pc := 4) C dX3_partner_4 rfl 3 rfl ?_
  obtain ⟨v1, hc, hf⟩ := jbd_s hf
  refine h_callV (pc := 5) (q0 := 0) (As := [.int (a1 + 1), .int a3]) (rest := []) (ws' := (wT cT ad loads widths height)) (st2 := .int v1 :: []) C (c_X3_entriesBefore l D cT ad n loads widths height (a1 + 1) a3 v1 hc) (cwV 2 C.1.2.2.2.2 gX3_partner_X3_entriesBefore rfl rfl rfl pv_X3_entriesBefore ⟨(Nat.le_of_ble_eq_true rfl), (Nat.le_of_ble_eq_true rfl)⟩) dX3_partner_5 rfl rfl rfl rfl rfl (Nat.le_of_ble_eq_true rfl) ⟨rfl, rfl⟩ ⟨(Nat.le_of_ble_eq_true rfl), (Nat.le_of_ble_eq_true rfl)⟩ [0, 1, 2] [] [0, 1, 2] rfl rfl rfl rfl (by decide) rfl rfl rfl ?_
  clear hc
  refine h_istore (pc := 8) (lv' := [(4, .int v1), (0, .ref (ad 6)), (1, .int a1), (2, .int a2), (3, .int a3)]) C dX3_partner_8 (by decide) rfl ?_
  refine h_iload (pc := 10) C dX3_partner_10 0 rfl ?_
  refine h_aload_n (pc := 12) C dX3_partner_12 rfl 1 rfl ?_
  refine h_iload_n (pc := 13) C dX3_partner_13 rfl 2 rfl ?_
  refine h_iconst (pc := 14) C dX3_partner_14 jc_1 ?_
  refine h_iadd (pc := 15) C dX3_partner_15 ?_
  refine h_iload_n (pc := 16) C dX3_partner_16 rfl 4 rfl ?_
  obtain ⟨v2, hc, hf⟩ := jbd_s hf
  refine h_callV (pc := 17) (q0 := 0) (As := [.int (a1 + 1), .int a3]) (rest := .int v1 :: []) (ws' := (wT cT ad loads widths height)) (st2 := .int v2 :: .int v1 :: []) C (c_X3_load l D cT ad n loads widths height (a1 + 1) a3 v2 hc) (cwV 2 C.1.2.2.2.2 gX3_partner_X3_load rfl rfl rfl pv_X3_load ⟨(Nat.le_of_ble_eq_true rfl), (Nat.le_of_ble_eq_true rfl)⟩) dX3_partner_17 rfl rfl rfl rfl rfl (Nat.le_of_ble_eq_true rfl) ⟨rfl, rfl⟩ ⟨(Nat.le_of_ble_eq_true rfl), (Nat.le_of_ble_eq_true rfl)⟩ [0, 1, 2] [] [0, 1, 2] rfl rfl rfl rfl (by decide) rfl rfl rfl ?_
  clear hc
  refine h_iadd (pc := 20) C dX3_partner_20 ?_
  refine h_iconst (pc := 21) C dX3_partner_21 jc_1 ?_
  refine h_isub (pc := 22) C dX3_partner_22 ?_
  refine h_istore (pc := 23) (lv' := [(5, .int ((v1 + v2) - 1)), (4, .int v1), (0, .ref (ad 6)), (1, .int a1), (2, .int a2), (3, .int a3)]) C dX3_partner_23 (by decide) rfl ?_
  refine h_iload_n (pc := 25) C dX3_partner_25 rfl 4 rfl ?_
  refine h_iload (pc := 26) C dX3_partner_26 0 rfl ?_
  refine h_icmp_ge (pc := 28) (tgt := 35) C dX3_partner_28 (by decide) (fun q => ?_) (fun q => ?_)
  · replace hf := jif_t q hf
    clear q
    refine h_iload_n (pc := 35) C dX3_partner_35 rfl 4 rfl ?_
    refine h_iload (pc := 36) C dX3_partner_36 1 rfl ?_
    refine h_icmp_le (pc := 38) (tgt := 53) C dX3_partner_38 (by decide) (fun q => ?_) (fun q => ?_)
    · replace hf := jif_t q hf
      clear q
      refine h_iconst (pc := 53) C dX3_partner_53 jc_m1 ?_
      have g0 := (Option.some.inj hf)
      clear hf
      subst g0
      exact h_iret C hr dX3_partner_54
    · replace hf := jif_f q hf
      clear q
      refine h_iload_n (pc := 41) C dX3_partner_41 rfl 4 rfl ?_
      refine h_iload (pc := 42) C dX3_partner_42 0 rfl ?_
      refine h_icmp_gt (pc := 44) (tgt := 53) C dX3_partner_44 (by decide) (fun q => ?_) (fun q => ?_)
      · replace hf := jif_t q hf
        clear q
        refine h_iconst (pc := 53) C dX3_partner_53 jc_m1 ?_
        have g0 := (Option.some.inj hf)
        clear hf
        subst g0
        exact h_iret C hr dX3_partner_54
      · replace hf := jif_f q hf
        clear q
        refine h_iload_n (pc := 47) C dX3_partner_47 rfl 4 rfl ?_
        refine h_iconst (pc := 48) C dX3_partner_48 jc_1 ?_
        refine h_isub (pc := 49) C dX3_partner_49 ?_
        refine h_goto (pc := 50) (tgt := 54) C dX3_partner_50 (by decide) ?_
        have g0 := (Option.some.inj hf)
        clear hf
        subst g0
        exact h_iret C hr dX3_partner_54
  · replace hf := jif_f q hf
    clear q
    refine h_iload_n (pc := 31) C dX3_partner_31 rfl 4 rfl ?_
    refine h_iconst (pc := 32) C dX3_partner_32 jc_1 ?_
    refine h_iadd (pc := 33) C dX3_partner_33 ?_
    have g0 := (Option.some.inj hf)
    clear hf
    subst g0
    exact h_iret C hr dX3_partner_34
theorem pv_X3_partner : yX3_partner.cls = RX3 ∧ yX3_partner.cls ≠ "java/lang/invoke/MethodHandle" ∧ yX3_partner.cls ≠ "java/lang/invoke/VarHandle" ∧ (parseMethodDescriptor yX3_partner.desc).map (fun d => d.parameters.length) = some 3 := by decide +kernel
abbrev rmX3_addRoot : Room := { frames := 2, cells := 0, slots := 0, locals := 46 }
theorem uX3_addRoot_X3 : ∀ w ∈ u_ws RX3 TX3 3, w ∈ wsX3_addRoot := fun w h => List.mem_cons_of_mem _ (List.mem_append_right _ h)
set_option maxRecDepth 100000 in
set_option maxHeartbeats 4000000 in
theorem c_X3_addRoot (l : Launch) (D : va_G) (cT : Nat → ClassId) (ad : Nat → Nat) (n : Nat) (loads : Nat → Int32) (widths : Nat → Int32) (height : Int32) (a1 : Int32) (loads' : Nat → Int32) (widths' : Nat → Int32) (height' : Int32) (hf : f_X3_addRoot n loads widths height a1 = some (loads', widths', height')) : cM l yX3_addRoot wsX3_addRoot rmX3_addRoot D (ty4 cT) [.ref (ad 6), .int a1] (wT cT ad loads widths height) none (wT cT ad loads' widths' height') := by
  refine cM_of (cc := cX3_addRoot) (maxL := 2) (ret := none) (own := RX3) (lv := [(0, .ref (ad 6)), (1, .int a1)]) (by decide) rfl (Nat.le_of_ble_eq_true rfl) rfl rfl ?_
  intro p e s m args below meth c A C hr
  unfold f_X3_addRoot at hf
  refine h_aload_n (pc := 0) C dX3_addRoot_0 rfl 0 rfl ?_
  refine h_get (pc := 1) (ci := 1) (C0 := RX3) (T := TX3) (N := 3) C uX3_addRoot_X3 rfl 0 rfl 2 (by decide) (List.mem_of_getElem? (i := 1) rfl) rfl rfl dX3_addRoot_1 ?_
  refine h_bipush (pc := 4) C dX3_addRoot_4 jb_8 ?_
  refine h_icmp_ge (pc := 6) (tgt := 42) C dX3_addRoot_6 (by decide) (fun q => ?_) (fun q => ?_)
  · replace hf := jif_t q hf
    clear q
    have g0 := (Prod.mk.inj (Option.some.inj hf)).1
    have g1 := (Prod.mk.inj (Prod.mk.inj (Option.some.inj hf)).2).1
    have g2 := (Prod.mk.inj (Prod.mk.inj (Option.some.inj hf)).2).2
    clear hf
    subst g0
    subst g1
    subst g2
    exact h_vret C hr dX3_addRoot_42
  · replace hf := jif_f q hf
    clear q
    refine h_aload_n (pc := 9) C dX3_addRoot_9 rfl 0 rfl ?_
    refine h_dup (pc := 10) C dX3_addRoot_10 rfl ?_
    refine h_get (pc := 11) (ci := 1) (C0 := RX3) (T := TX3) (N := 3) C uX3_addRoot_X3 rfl 0 rfl 2 (by decide) (List.mem_of_getElem? (i := 1) rfl) rfl rfl dX3_addRoot_11 ?_
    refine h_iconst (pc := 14) C dX3_addRoot_14 jc_1 ?_
    refine h_iadd (pc := 15) C dX3_addRoot_15 ?_
    refine h_put (pc := 16) (ci := 1) (C0 := RX3) (T := TX3) (N := 3) (ws' := (wT cT ad loads widths (height + 1))) C uX3_addRoot_X3 tyX3 tyX3_ok nmX3 rfl 0 rfl 2 (by decide) (List.mem_of_getElem? (i := 1) rfl) rfl rfl rfl (Nat.le_of_ble_eq_true rfl) rfl dX3_addRoot_16 ?_
    refine h_aload_n (pc := 19) C dX3_addRoot_19 rfl 0 rfl ?_
    refine h_aload_n (pc := 20) C dX3_addRoot_20 rfl 0 rfl ?_
    refine h_get (pc := 21) (ci := 1) (C0 := RX3) (T := TX3) (N := 3) C uX3_addRoot_X3 rfl 0 rfl 2 (by decide) (List.mem_of_getElem? (i := 1) rfl) rfl rfl dX3_addRoot_21 ?_
    refine h_iconst (pc := 24) C dX3_addRoot_24 jc_1 ?_
    refine h_isub (pc := 25) C dX3_addRoot_25 ?_
    refine h_iconst (pc := 26) C dX3_addRoot_26 jc_1 ?_
    obtain ⟨v1, hc, hf⟩ := jbd_s hf
    refine h_callV (pc := 27) (q0 := 0) (As := [.int ((height + 1) - 1), .int 1]) (rest := []) (ws' := (wT cT ad loads v1 (height + 1))) (st2 := []) C (c_X3_setWidth l D cT ad n loads widths (height + 1) ((height + 1) - 1) 1 v1 hc) (cwV 2 C.1.2.2.2.2 gX3_addRoot_X3_setWidth rfl rfl rfl pv_X3_setWidth ⟨(Nat.le_of_ble_eq_true rfl), (Nat.le_of_ble_eq_true rfl)⟩) dX3_addRoot_27 rfl rfl rfl rfl rfl (Nat.le_of_ble_eq_true rfl) ⟨rfl, rfl⟩ ⟨(Nat.le_of_ble_eq_true rfl), (Nat.le_of_ble_eq_true rfl)⟩ [0, 1, 2] [] [0, 1, 2] rfl rfl rfl rfl (by decide) rfl rfl rfl ?_
    clear hc
    refine h_aload_n (pc := 30) C dX3_addRoot_30 rfl 0 rfl ?_
    refine h_aload_n (pc := 31) C dX3_addRoot_31 rfl 0 rfl ?_
    refine h_get (pc := 32) (ci := 1) (C0 := RX3) (T := TX3) (N := 3) C uX3_addRoot_X3 rfl 0 rfl 2 (by decide) (List.mem_of_getElem? (i := 1) rfl) rfl rfl dX3_addRoot_32 ?_
    refine h_iconst (pc := 35) C dX3_addRoot_35 jc_1 ?_
    refine h_isub (pc := 36) C dX3_addRoot_36 ?_
    refine h_iconst (pc := 37) C dX3_addRoot_37 jc_0 ?_
    refine h_iload_n (pc := 38) C dX3_addRoot_38 rfl 1 rfl ?_
    obtain ⟨v2, hc, hf⟩ := jbd_s hf
    refine h_callV (pc := 39) (q0 := 0) (As := [.int ((height + 1) - 1), .int 0, .int a1]) (rest := []) (ws' := (wT cT ad v2 v1 (height + 1))) (st2 := []) C (c_X3_setLoad l D cT ad n loads v1 (height + 1) ((height + 1) - 1) 0 a1 v2 hc) (cwV 3 C.1.2.2.2.2 gX3_addRoot_X3_setLoad rfl rfl rfl pv_X3_setLoad ⟨(Nat.le_of_ble_eq_true rfl), (Nat.le_of_ble_eq_true rfl)⟩) dX3_addRoot_39 rfl rfl rfl rfl rfl (Nat.le_of_ble_eq_true rfl) ⟨rfl, rfl⟩ ⟨(Nat.le_of_ble_eq_true rfl), (Nat.le_of_ble_eq_true rfl)⟩ [0, 1, 2] [] [0, 1, 2] rfl rfl rfl rfl (by decide) rfl rfl rfl ?_
    clear hc
    have g0 := (Prod.mk.inj (Option.some.inj hf)).1
    have g1 := (Prod.mk.inj (Prod.mk.inj (Option.some.inj hf)).2).1
    have g2 := (Prod.mk.inj (Prod.mk.inj (Option.some.inj hf)).2).2
    clear hf
    subst g0
    subst g1
    subst g2
    exact h_vret C hr dX3_addRoot_42
theorem pv_X3_addRoot : yX3_addRoot.cls = RX3 ∧ yX3_addRoot.cls ≠ "java/lang/invoke/MethodHandle" ∧ yX3_addRoot.cls ≠ "java/lang/invoke/VarHandle" ∧ (parseMethodDescriptor yX3_addRoot.desc).map (fun d => d.parameters.length) = some 1 := by decide +kernel
abbrev rmX3_insertNode : Room := { frames := 2, cells := 0, slots := 0, locals := 46 }
set_option maxRecDepth 100000 in
set_option maxHeartbeats 4000000 in
theorem k_X3_insertNode_28 {p : Program} {e : Env} {s : State} {m : MethodId} {args : Array Value} {below : List Frame} {meth : Method} {c : Code} {A : Nat → Prop} (l : Launch) (D : va_G) (cT : Nat → ClassId) (ad : Nat → Nat) (C : hC p s m args meth c cX3_insertNode 6 wsX3_insertNode RX3 D (ty4 cT) A) (hr : meth.sig.returnType = none) (n : Nat) (height : Int32) (loads' : Nat → Int32) (widths' : Nat → Int32)  : ∀ (fu : Nat) (loads : Nat → Int32) (widths : Nat → Int32) (x1 : Int32) (x2 : Int32) (x3 : Int32) (x5 : Int32), f_X3_insertNode_28 n height fu loads widths x1 x2 x3 x5 = some (loads', widths') → hS p l e rmX3_insertNode s m args below meth c 6 D A 0 0 (MQ below (cQ D (ty4 cT) A none (wT cT ad loads' widths' height)) args s 0 0 A) 28 [(0, .ref (ad 6)), (1, .int x1), (2, .int x2), (3, .int x3), (5, .int x5)] [] (wT cT ad loads widths height) := by
  intro fu
  induction fu with
  | zero =>
    intro loads widths x1 x2 x3 x5 hf
    exact nomatch (show (none : Option ((Nat → Int32) × (Nat → Int32))) = some (loads', widths') from hf)
  | succ fu ih =>
    intro loads widths x1 x2 x3 x5 hf
    rw [f_X3_insertNode_28] at hf
    refine h_iload (pc := 28) C dX3_insertNode_28 4 rfl ?_
    refine h_iload_n (pc := 30) C dX3_insertNode_30 rfl 2 rfl ?_
    refine h_icmp_le (pc := 31) (tgt := 56) C dX3_insertNode_31 (by decide) (fun q => ?_) (fun q => ?_)
    · replace hf := jif_t q hf
      clear q
      refine h_aload_n (pc := 56) C dX3_insertNode_56 rfl 0 rfl ?_
      refine h_iload_n (pc := 57) C dX3_insertNode_57 rfl 1 rfl ?_
      refine h_iload_n (pc := 58) C dX3_insertNode_58 rfl 2 rfl ?_
      refine h_iload_n (pc := 59) C dX3_insertNode_59 rfl 3 rfl ?_
      obtain ⟨v3, hc, hf⟩ := jbd_s hf
      refine h_callV (pc := 60) (q0 := 0) (As := [.int x1, .int x2, .int x3]) (rest := []) (ws' := (wT cT ad v3 widths height)) (st2 := []) C (c_X3_setLoad l D cT ad n loads widths height x1 x2 x3 v3 hc) (cwV 3 C.1.2.2.2.2 gX3_insertNode_X3_setLoad rfl rfl rfl pv_X3_setLoad ⟨(Nat.le_of_ble_eq_true rfl), (Nat.le_of_ble_eq_true rfl)⟩) dX3_insertNode_60 rfl rfl rfl rfl rfl (Nat.le_of_ble_eq_true rfl) ⟨rfl, rfl⟩ ⟨(Nat.le_of_ble_eq_true rfl), (Nat.le_of_ble_eq_true rfl)⟩ [0, 1, 2] [] [0, 1, 2] rfl rfl rfl rfl (by decide) rfl rfl rfl ?_
      clear hc
      have g0 := (Prod.mk.inj (Option.some.inj hf)).1
      have g1 := (Prod.mk.inj (Option.some.inj hf)).2
      clear hf
      subst g0
      subst g1
      exact h_vret C hr dX3_insertNode_63
    · replace hf := jif_f q hf
      clear q
      refine h_aload_n (pc := 34) C dX3_insertNode_34 rfl 0 rfl ?_
      refine h_iload_n (pc := 35) C dX3_insertNode_35 rfl 1 rfl ?_
      refine h_iload (pc := 36) C dX3_insertNode_36 4 rfl ?_
      refine h_aload_n (pc := 38) C dX3_insertNode_38 rfl 0 rfl ?_
      refine h_iload_n (pc := 39) C dX3_insertNode_39 rfl 1 rfl ?_
      refine h_iload (pc := 40) C dX3_insertNode_40 4 rfl ?_
      refine h_iconst (pc := 42) C dX3_insertNode_42 jc_1 ?_
      refine h_isub (pc := 43) C dX3_insertNode_43 ?_
      obtain ⟨v4, hc, hf⟩ := jbd_s hf
      refine h_callV (pc := 44) (q0 := 0) (As := [.int x1, .int (x5 - 1)]) (rest := .int x5 :: .int x1 :: .ref (ad 6) :: []) (ws' := (wT cT ad loads widths height)) (st2 := .int v4 :: .int x5 :: .int x1 :: .ref (ad 6) :: []) C (c_X3_load l D cT ad n loads widths height x1 (x5 - 1) v4 hc) (cwV 2 C.1.2.2.2.2 gX3_insertNode_X3_load rfl rfl rfl pv_X3_load ⟨(Nat.le_of_ble_eq_true rfl), (Nat.le_of_ble_eq_true rfl)⟩) dX3_insertNode_44 rfl rfl rfl rfl rfl (Nat.le_of_ble_eq_true rfl) ⟨rfl, rfl⟩ ⟨(Nat.le_of_ble_eq_true rfl), (Nat.le_of_ble_eq_true rfl)⟩ [0, 1, 2] [] [0, 1, 2] rfl rfl rfl rfl (by decide) rfl rfl rfl ?_
      clear hc
      obtain ⟨v5, hc, hf⟩ := jbd_s hf
      refine h_callV (pc := 47) (q0 := 0) (As := [.int x1, .int x5, .int v4]) (rest := []) (ws' := (wT cT ad v5 widths height)) (st2 := []) C (c_X3_setLoad l D cT ad n loads widths height x1 x5 v4 v5 hc) (cwV 3 C.1.2.2.2.2 gX3_insertNode_X3_setLoad rfl rfl rfl pv_X3_setLoad ⟨(Nat.le_of_ble_eq_true rfl), (Nat.le_of_ble_eq_true rfl)⟩) dX3_insertNode_47 rfl rfl rfl rfl rfl (Nat.le_of_ble_eq_true rfl) ⟨rfl, rfl⟩ ⟨(Nat.le_of_ble_eq_true rfl), (Nat.le_of_ble_eq_true rfl)⟩ [0, 1, 2] [] [0, 1, 2] rfl rfl rfl rfl (by decide) rfl rfl rfl ?_
      clear hc
      refine h_iinc (pc := 50) (v := x5 + jm1) (lv' := [(5, .int (x5 + jm1)), (0, .ref (ad 6)), (1, .int x1), (2, .int x2), (3, .int x3)]) C dX3_insertNode_50 4 rfl (ji_m1 _) (by decide) rfl ?_
      refine h_goto (pc := 53) (tgt := 28) C dX3_insertNode_53 (by decide) ?_
      refine h_sub [1, 2, 3, 4, 0] rfl ?_
      exact ih v5 widths x1 x2 x3 (x5 + jm1) hf
set_option maxRecDepth 100000 in
set_option maxHeartbeats 4000000 in
theorem c_X3_insertNode (l : Launch) (D : va_G) (cT : Nat → ClassId) (ad : Nat → Nat) (n : Nat) (loads : Nat → Int32) (widths : Nat → Int32) (height : Int32) (a1 : Int32) (a2 : Int32) (a3 : Int32) (loads' : Nat → Int32) (widths' : Nat → Int32) (hf : f_X3_insertNode n loads widths height a1 a2 a3 = some (loads', widths')) : cM l yX3_insertNode wsX3_insertNode rmX3_insertNode D (ty4 cT) [.ref (ad 6), .int a1, .int a2, .int a3] (wT cT ad loads widths height) none (wT cT ad loads' widths' height) := by
  refine cM_of (cc := cX3_insertNode) (maxL := 6) (ret := none) (own := RX3) (lv := [(0, .ref (ad 6)), (1, .int a1), (2, .int a2), (3, .int a3)]) (by decide) rfl (Nat.le_of_ble_eq_true rfl) rfl rfl ?_
  intro p e s m args below meth c A C hr
  unfold f_X3_insertNode at hf
  refine h_aload_n (pc := 0) C dX3_insertNode_0 rfl 0 rfl ?_
  refine h_iload_n (pc := 1) C dX3_insertNode_1 rfl 1 rfl ?_
  obtain ⟨v1, hc, hf⟩ := jbd_s hf
  refine h_callV (pc := 2) (q0 := 0) (As := [.int a1]) (rest := []) (ws' := (wT cT ad loads widths height)) (st2 := .int v1 :: []) C (c_X3_width l D cT ad n loads widths height a1 v1 hc) (cwV 1 C.1.2.2.2.2 gX3_insertNode_X3_width rfl rfl rfl pv_X3_width ⟨(Nat.le_of_ble_eq_true rfl), (Nat.le_of_ble_eq_true rfl)⟩) dX3_insertNode_2 rfl rfl rfl rfl rfl (Nat.le_of_ble_eq_true rfl) ⟨rfl, rfl⟩ ⟨(Nat.le_of_ble_eq_true rfl), (Nat.le_of_ble_eq_true rfl)⟩ [0, 1, 2] [] [0, 1, 2] rfl rfl rfl rfl (by decide) rfl rfl rfl ?_
  clear hc
  refine h_istore (pc := 5) (lv' := [(4, .int v1), (0, .ref (ad 6)), (1, .int a1), (2, .int a2), (3, .int a3)]) C dX3_insertNode_5 (by decide) rfl ?_
  refine h_iload (pc := 7) C dX3_insertNode_7 0 rfl ?_
  refine h_bipush (pc := 9) C dX3_insertNode_9 jb_60 ?_
  refine h_icmp_lt (pc := 11) (tgt := 15) C dX3_insertNode_11 (by decide) (fun q => ?_) (fun q => ?_)
  · replace hf := jif_t q hf
    clear q
    refine h_aload_n (pc := 15) C dX3_insertNode_15 rfl 1 rfl ?_
    refine h_iload_n (pc := 16) C dX3_insertNode_16 rfl 2 rfl ?_
    refine h_iload (pc := 17) C dX3_insertNode_17 0 rfl ?_
    refine h_iconst (pc := 19) C dX3_insertNode_19 jc_1 ?_
    refine h_iadd (pc := 20) C dX3_insertNode_20 ?_
    obtain ⟨v2, hc, hf⟩ := jbd_s hf
    refine h_callV (pc := 21) (q0 := 0) (As := [.int a1, .int (v1 + 1)]) (rest := []) (ws' := (wT cT ad loads v2 height)) (st2 := []) C (c_X3_setWidth l D cT ad n loads widths height a1 (v1 + 1) v2 hc) (cwV 2 C.1.2.2.2.2 gX3_insertNode_X3_setWidth rfl rfl rfl pv_X3_setWidth ⟨(Nat.le_of_ble_eq_true rfl), (Nat.le_of_ble_eq_true rfl)⟩) dX3_insertNode_21 rfl rfl rfl rfl rfl (Nat.le_of_ble_eq_true rfl) ⟨rfl, rfl⟩ ⟨(Nat.le_of_ble_eq_true rfl), (Nat.le_of_ble_eq_true rfl)⟩ [0, 1, 2] [] [0, 1, 2] rfl rfl rfl rfl (by decide) rfl rfl rfl ?_
    clear hc
    refine h_iload (pc := 24) C dX3_insertNode_24 0 rfl ?_
    refine h_istore (pc := 26) (lv' := [(5, .int v1), (4, .int v1), (0, .ref (ad 6)), (1, .int a1), (2, .int a2), (3, .int a3)]) C dX3_insertNode_26 (by decide) rfl ?_
    refine h_sub [2, 3, 4, 5, 0] rfl ?_
    exact k_X3_insertNode_28 l D cT ad C hr n height loads' widths' n loads v2 a1 a2 a3 v1 hf
  · replace hf := jif_f q hf
    clear q
    have g0 := (Prod.mk.inj (Option.some.inj hf)).1
    have g1 := (Prod.mk.inj (Option.some.inj hf)).2
    clear hf
    subst g0
    subst g1
    exact h_vret C hr dX3_insertNode_14
theorem pv_X3_insertNode : yX3_insertNode.cls = RX3 ∧ yX3_insertNode.cls ≠ "java/lang/invoke/MethodHandle" ∧ yX3_insertNode.cls ≠ "java/lang/invoke/VarHandle" ∧ (parseMethodDescriptor yX3_insertNode.desc).map (fun d => d.parameters.length) = some 3 := by decide +kernel
abbrev rmX3_halve : Room := { frames := 2, cells := 0, slots := 0, locals := 46 }
set_option maxRecDepth 100000 in
set_option maxHeartbeats 4000000 in
theorem c_X3_halve (l : Launch) (D : va_G) (cT : Nat → ClassId) (ad : Nat → Nat) (n : Nat) (loads : Nat → Int32) (widths : Nat → Int32) (height : Int32) (a1 : Int32) (a2 : Int32) (loads' : Nat → Int32) (hf : f_X3_halve n loads widths height a1 a2 = some loads') : cM l yX3_halve wsX3_halve rmX3_halve D (ty4 cT) [.ref (ad 6), .int a1, .int a2] (wT cT ad loads widths height) none (wT cT ad loads' widths height) := by
  refine cM_of (cc := cX3_halve) (maxL := 4) (ret := none) (own := RX3) (lv := [(0, .ref (ad 6)), (1, .int a1), (2, .int a2)]) (by decide) rfl (Nat.le_of_ble_eq_true rfl) rfl rfl ?_
  intro p e s m args below meth c A C hr
  unfold f_X3_halve at hf
  refine h_aload_n (pc := 0) C dX3_halve_0 rfl 0 rfl ?_
  refine h_iload_n (pc := 1) C dX3_halve_1 rfl 1 rfl ?_
  refine h_iload_n (pc := 2) C dX3_halve_2 rfl 2 rfl ?_
  obtain ⟨v1, hc, hf⟩ := jbd_s hf
  refine h_callV (pc := 3) (q0 := 0) (As := [.int a1, .int a2]) (rest := []) (ws' := (wT cT ad loads widths height)) (st2 := .int v1 :: []) C (c_X3_load l D cT ad n loads widths height a1 a2 v1 hc) (cwV 2 C.1.2.2.2.2 gX3_halve_X3_load rfl rfl rfl pv_X3_load ⟨(Nat.le_of_ble_eq_true rfl), (Nat.le_of_ble_eq_true rfl)⟩) dX3_halve_3 rfl rfl rfl rfl rfl (Nat.le_of_ble_eq_true rfl) ⟨rfl, rfl⟩ ⟨(Nat.le_of_ble_eq_true rfl), (Nat.le_of_ble_eq_true rfl)⟩ [0, 1, 2] [] [0, 1, 2] rfl rfl rfl rfl (by decide) rfl rfl rfl ?_
  clear hc
  refine h_aload_n (pc := 6) C dX3_halve_6 rfl 0 rfl ?_
  refine h_iload_n (pc := 7) C dX3_halve_7 rfl 1 rfl ?_
  refine h_iload_n (pc := 8) C dX3_halve_8 rfl 2 rfl ?_
  refine h_iconst (pc := 9) C dX3_halve_9 jc_1 ?_
  refine h_iadd (pc := 10) C dX3_halve_10 ?_
  obtain ⟨v2, hc, hf⟩ := jbd_s hf
  refine h_callV (pc := 11) (q0 := 0) (As := [.int a1, .int (a2 + 1)]) (rest := .int v1 :: []) (ws' := (wT cT ad loads widths height)) (st2 := .int v2 :: .int v1 :: []) C (c_X3_load l D cT ad n loads widths height a1 (a2 + 1) v2 hc) (cwV 2 C.1.2.2.2.2 gX3_halve_X3_load rfl rfl rfl pv_X3_load ⟨(Nat.le_of_ble_eq_true rfl), (Nat.le_of_ble_eq_true rfl)⟩) dX3_halve_11 rfl rfl rfl rfl rfl (Nat.le_of_ble_eq_true rfl) ⟨rfl, rfl⟩ ⟨(Nat.le_of_ble_eq_true rfl), (Nat.le_of_ble_eq_true rfl)⟩ [0, 1, 2] [] [0, 1, 2] rfl rfl rfl rfl (by decide) rfl rfl rfl ?_
  clear hc
  refine h_iadd (pc := 14) C dX3_halve_14 ?_
  refine h_istore_n (pc := 15) (lv' := [(3, .int (v1 + v2)), (0, .ref (ad 6)), (1, .int a1), (2, .int a2)]) C dX3_halve_15 rfl (by decide) rfl ?_
  refine h_aload_n (pc := 16) C dX3_halve_16 rfl 1 rfl ?_
  refine h_iload_n (pc := 17) C dX3_halve_17 rfl 2 rfl ?_
  refine h_iload_n (pc := 18) C dX3_halve_18 rfl 3 rfl ?_
  refine h_iload_n (pc := 19) C dX3_halve_19 rfl 0 rfl ?_
  refine h_iconst (pc := 20) C dX3_halve_20 jc_1 ?_
  refine h_iadd (pc := 21) C dX3_halve_21 ?_
  refine h_iconst (pc := 22) C dX3_halve_22 jc_2 ?_
  refine h_idiv (pc := 23) C dX3_halve_23 (by decide) ?_
  obtain ⟨v3, hc, hf⟩ := jbd_s hf
  refine h_callV (pc := 24) (q0 := 0) (As := [.int a1, .int a2, .int (((v1 + v2) + 1) / 2)]) (rest := []) (ws' := (wT cT ad v3 widths height)) (st2 := []) C (c_X3_setLoad l D cT ad n loads widths height a1 a2 (((v1 + v2) + 1) / 2) v3 hc) (cwV 3 C.1.2.2.2.2 gX3_halve_X3_setLoad rfl rfl rfl pv_X3_setLoad ⟨(Nat.le_of_ble_eq_true rfl), (Nat.le_of_ble_eq_true rfl)⟩) dX3_halve_24 rfl rfl rfl rfl rfl (Nat.le_of_ble_eq_true rfl) ⟨rfl, rfl⟩ ⟨(Nat.le_of_ble_eq_true rfl), (Nat.le_of_ble_eq_true rfl)⟩ [0, 1, 2] [] [0, 1, 2] rfl rfl rfl rfl (by decide) rfl rfl rfl ?_
  clear hc
  refine h_aload_n (pc := 27) C dX3_halve_27 rfl 1 rfl ?_
  refine h_iload_n (pc := 28) C dX3_halve_28 rfl 2 rfl ?_
  refine h_iload_n (pc := 29) C dX3_halve_29 rfl 3 rfl ?_
  refine h_iconst (pc := 30) C dX3_halve_30 jc_1 ?_
  refine h_iadd (pc := 31) C dX3_halve_31 ?_
  refine h_iload_n (pc := 32) C dX3_halve_32 rfl 0 rfl ?_
  refine h_iconst (pc := 33) C dX3_halve_33 jc_2 ?_
  refine h_idiv (pc := 34) C dX3_halve_34 (by decide) ?_
  obtain ⟨v4, hc, hf⟩ := jbd_s hf
  refine h_callV (pc := 35) (q0 := 0) (As := [.int a1, .int (a2 + 1), .int ((v1 + v2) / 2)]) (rest := []) (ws' := (wT cT ad v4 widths height)) (st2 := []) C (c_X3_setLoad l D cT ad n v3 widths height a1 (a2 + 1) ((v1 + v2) / 2) v4 hc) (cwV 3 C.1.2.2.2.2 gX3_halve_X3_setLoad rfl rfl rfl pv_X3_setLoad ⟨(Nat.le_of_ble_eq_true rfl), (Nat.le_of_ble_eq_true rfl)⟩) dX3_halve_35 rfl rfl rfl rfl rfl (Nat.le_of_ble_eq_true rfl) ⟨rfl, rfl⟩ ⟨(Nat.le_of_ble_eq_true rfl), (Nat.le_of_ble_eq_true rfl)⟩ [0, 1, 2] [] [0, 1, 2] rfl rfl rfl rfl (by decide) rfl rfl rfl ?_
  clear hc
  have g0 := (Option.some.inj hf)
  clear hf
  subst g0
  exact h_vret C hr dX3_halve_38
theorem pv_X3_halve : yX3_halve.cls = RX3 ∧ yX3_halve.cls ≠ "java/lang/invoke/MethodHandle" ∧ yX3_halve.cls ≠ "java/lang/invoke/VarHandle" ∧ (parseMethodDescriptor yX3_halve.desc).map (fun d => d.parameters.length) = some 2 := by decide +kernel
abbrev rmX3_relieve : Room := { frames := 4, cells := 0, slots := 0, locals := 94 }
set_option maxRecDepth 100000 in
set_option maxHeartbeats 4000000 in
theorem c_X3_relieve (l : Launch) (D : va_G) (cT : Nat → ClassId) (ad : Nat → Nat) (n : Nat) (loads : Nat → Int32) (widths : Nat → Int32) (height : Int32) (a1 : Int32) (a2 : Int32) (a3 : Int32) (r : Int32) (loads' : Nat → Int32) (widths' : Nat → Int32) (hf : f_X3_relieve n loads widths height a1 a2 a3 = some (r, loads', widths')) : cM l yX3_relieve wsX3_relieve rmX3_relieve D (ty4 cT) [.ref (ad 6), .int a1, .int a2, .int a3] (wT cT ad loads widths height) (some (.int r)) (wT cT ad loads' widths' height) := by
  refine cM_of (cc := cX3_relieve) (maxL := 6) (ret := (some .boolean)) (own := RX3) (lv := [(0, .ref (ad 6)), (1, .int a1), (2, .int a2), (3, .int a3)]) (by decide) rfl (Nat.le_of_ble_eq_true rfl) rfl rfl ?_
  intro p e s m args below meth c A C hr
  unfold f_X3_relieve at hf
  refine h_aload_n (pc := 0) C dX3_relieve_0 rfl 0 rfl ?_
  refine h_iload_n (pc := 1) C dX3_relieve_1 rfl 1 rfl ?_
  refine h_iload_n (pc := 2) C dX3_relieve_2 rfl 2 rfl ?_
  refine h_iload_n (pc := 3) C dX3_relieve_3 rfl 3 rfl ?_
  obtain ⟨v1, hc, hf⟩ := jbd_s hf
  refine h_callV (pc := 4) (q0 := 0) (As := [.int a1, .int a2, .int a3]) (rest := []) (ws' := (wT cT ad loads widths height)) (st2 := .int v1 :: []) C (c_X3_partner l D cT ad n loads widths height a1 a2 a3 v1 hc) (cwV 3 C.1.2.2.2.2 gX3_relieve_X3_partner rfl rfl rfl pv_X3_partner ⟨(Nat.le_of_ble_eq_true rfl), (Nat.le_of_ble_eq_true rfl)⟩) dX3_relieve_4 rfl rfl rfl rfl rfl (Nat.le_of_ble_eq_true rfl) ⟨rfl, rfl⟩ ⟨(Nat.le_of_ble_eq_true rfl), (Nat.le_of_ble_eq_true rfl)⟩ [0, 1, 2] [] [0, 1, 2] rfl rfl rfl rfl (by decide) rfl rfl rfl ?_
  clear hc
  refine h_istore (pc := 7) (lv' := [(4, .int v1), (0, .ref (ad 6)), (1, .int a1), (2, .int a2), (3, .int a3)]) C dX3_relieve_7 (by decide) rfl ?_
  refine h_iload (pc := 9) C dX3_relieve_9 0 rfl ?_
  refine h_if_ge (pc := 11) (tgt := 32) C dX3_relieve_11 (by decide) (fun q => ?_) (fun q => ?_)
  · replace hf := jif_t q hf
    clear q
    refine h_iload_n (pc := 32) C dX3_relieve_32 rfl 3 rfl ?_
    refine h_iload (pc := 33) C dX3_relieve_33 0 rfl ?_
    refine h_mmin (pc := 35) C (List.mem_of_getElem? (i := 1) rfl) (List.mem_of_getElem? (i := 2) rfl) (List.mem_of_getElem? (i := 3) rfl) (List.mem_of_getElem? (i := 4) rfl) ⟨Nat.le_of_ble_eq_true rfl, Nat.le_of_ble_eq_true rfl, Nat.le_of_ble_eq_true rfl, Nat.le_of_ble_eq_true rfl⟩ dX3_relieve_35 ?_
    refine h_istore (pc := 38) (lv' := [(5, .int (jmin a2 v1)), (4, .int v1), (0, .ref (ad 6)), (1, .int a1), (2, .int a2), (3, .int a3)]) C dX3_relieve_38 (by decide) rfl ?_
    refine h_aload_n (pc := 40) C dX3_relieve_40 rfl 2 rfl ?_
    refine h_iload_n (pc := 41) C dX3_relieve_41 rfl 3 rfl ?_
    refine h_iload (pc := 42) C dX3_relieve_42 1 rfl ?_
    obtain ⟨v2, hc, hf⟩ := jbd_s hf
    refine h_callV (pc := 44) (q0 := 0) (As := [.int a1, .int v1]) (rest := []) (ws' := (wT cT ad loads widths height)) (st2 := .int v2 :: []) C (c_X3_load l D cT ad n loads widths height a1 v1 v2 hc) (cwV 2 C.1.2.2.2.2 gX3_relieve_X3_load rfl rfl rfl pv_X3_load ⟨(Nat.le_of_ble_eq_true rfl), (Nat.le_of_ble_eq_true rfl)⟩) dX3_relieve_44 rfl rfl rfl rfl rfl (Nat.le_of_ble_eq_true rfl) ⟨rfl, rfl⟩ ⟨(Nat.le_of_ble_eq_true rfl), (Nat.le_of_ble_eq_true rfl)⟩ [0, 1, 2] [] [0, 1, 2] rfl rfl rfl rfl (by decide) rfl rfl rfl ?_
    clear hc
    refine h_iconst (pc := 47) C dX3_relieve_47 jc_4 ?_
    refine h_icmp_ge (pc := 48) (tgt := 60) C dX3_relieve_48 (by decide) (fun q => ?_) (fun q => ?_)
    · replace hf := jif_t q hf
      clear q
      refine h_aload_n (pc := 60) C dX3_relieve_60 rfl 2 rfl ?_
      refine h_iload_n (pc := 61) C dX3_relieve_61 rfl 3 rfl ?_
      refine h_iload (pc := 62) C dX3_relieve_62 0 rfl ?_
      refine h_iconst (pc := 64) C dX3_relieve_64 jc_3 ?_
      obtain ⟨v3, hc, hf⟩ := jbd_s hf
      refine h_callV (pc := 65) (q0 := 0) (As := [.int a1, .int (jmin a2 v1), .int 3]) (rest := []) (ws' := (wT cT ad v3 widths height)) (st2 := []) C (c_X3_setLoad l D cT ad n loads widths height a1 (jmin a2 v1) 3 v3 hc) (cwV 3 C.1.2.2.2.2 gX3_relieve_X3_setLoad rfl rfl rfl pv_X3_setLoad ⟨(Nat.le_of_ble_eq_true rfl), (Nat.le_of_ble_eq_true rfl)⟩) dX3_relieve_65 rfl rfl rfl rfl rfl (Nat.le_of_ble_eq_true rfl) ⟨rfl, rfl⟩ ⟨(Nat.le_of_ble_eq_true rfl), (Nat.le_of_ble_eq_true rfl)⟩ [0, 1, 2] [] [0, 1, 2] rfl rfl rfl rfl (by decide) rfl rfl rfl ?_
      clear hc
      refine h_aload_n (pc := 68) C dX3_relieve_68 rfl 2 rfl ?_
      refine h_iload_n (pc := 69) C dX3_relieve_69 rfl 3 rfl ?_
      refine h_iload (pc := 70) C dX3_relieve_70 0 rfl ?_
      refine h_iconst (pc := 72) C dX3_relieve_72 jc_1 ?_
      refine h_iadd (pc := 73) C dX3_relieve_73 ?_
      refine h_iconst (pc := 74) C dX3_relieve_74 jc_3 ?_
      obtain ⟨v4, hc, hf⟩ := jbd_s hf
      refine h_callV (pc := 75) (q0 := 0) (As := [.int a1, .int ((jmin a2 v1) + 1), .int 3]) (rest := []) (ws' := (wT cT ad v4 widths height)) (st2 := []) C (c_X3_setLoad l D cT ad n v3 widths height a1 ((jmin a2 v1) + 1) 3 v4 hc) (cwV 3 C.1.2.2.2.2 gX3_relieve_X3_setLoad rfl rfl rfl pv_X3_setLoad ⟨(Nat.le_of_ble_eq_true rfl), (Nat.le_of_ble_eq_true rfl)⟩) dX3_relieve_75 rfl rfl rfl rfl rfl (Nat.le_of_ble_eq_true rfl) ⟨rfl, rfl⟩ ⟨(Nat.le_of_ble_eq_true rfl), (Nat.le_of_ble_eq_true rfl)⟩ [0, 1, 2] [] [0, 1, 2] rfl rfl rfl rfl (by decide) rfl rfl rfl ?_
      clear hc
      refine h_aload_n (pc := 78) C dX3_relieve_78 rfl 2 rfl ?_
      refine h_iload_n (pc := 79) C dX3_relieve_79 rfl 3 rfl ?_
      refine h_iload (pc := 80) C dX3_relieve_80 0 rfl ?_
      refine h_iconst (pc := 82) C dX3_relieve_82 jc_2 ?_
      refine h_iadd (pc := 83) C dX3_relieve_83 ?_
      refine h_iconst (pc := 84) C dX3_relieve_84 jc_3 ?_
      obtain ⟨v5, hc, hf⟩ := jbd_s hf
      refine h_callV (pc := 85) (q0 := 0) (As := [.int a1, .int ((jmin a2 v1) + 2), .int 3]) (rest := []) (ws' := (wT cT ad v5.1 v5.2 height)) (st2 := []) C (c_X3_insertNode l D cT ad n v4 widths height a1 ((jmin a2 v1) + 2) 3 v5.1 v5.2 hc) (cwV 3 C.1.2.2.2.2 gX3_relieve_X3_insertNode rfl rfl rfl pv_X3_insertNode ⟨(Nat.le_of_ble_eq_true rfl), (Nat.le_of_ble_eq_true rfl)⟩) dX3_relieve_85 rfl rfl rfl rfl rfl (Nat.le_of_ble_eq_true rfl) ⟨rfl, rfl⟩ ⟨(Nat.le_of_ble_eq_true rfl), (Nat.le_of_ble_eq_true rfl)⟩ [0, 1, 2] [] [0, 1, 2] rfl rfl rfl rfl (by decide) rfl rfl rfl ?_
      clear hc
      refine h_iconst (pc := 88) C dX3_relieve_88 jc_1 ?_
      have g0 := (Prod.mk.inj (Option.some.inj hf)).1
      have g1 := (Prod.mk.inj (Prod.mk.inj (Option.some.inj hf)).2).1
      have g2 := (Prod.mk.inj (Prod.mk.inj (Option.some.inj hf)).2).2
      clear hf
      subst g0
      subst g1
      subst g2
      exact h_zret C hr rfl dX3_relieve_89
    · replace hf := jif_f q hf
      clear q
      refine h_aload_n (pc := 51) C dX3_relieve_51 rfl 2 rfl ?_
      refine h_iload_n (pc := 52) C dX3_relieve_52 rfl 3 rfl ?_
      refine h_iload (pc := 53) C dX3_relieve_53 0 rfl ?_
      obtain ⟨v6, hc, hf⟩ := jbd_s hf
      refine h_callV (pc := 55) (q0 := 0) (As := [.int a1, .int (jmin a2 v1)]) (rest := []) (ws' := (wT cT ad v6 widths height)) (st2 := []) C (c_X3_halve l D cT ad n loads widths height a1 (jmin a2 v1) v6 hc) (cwV 2 C.1.2.2.2.2 gX3_relieve_X3_halve rfl rfl rfl pv_X3_halve ⟨(Nat.le_of_ble_eq_true rfl), (Nat.le_of_ble_eq_true rfl)⟩) dX3_relieve_55 rfl rfl rfl rfl rfl (Nat.le_of_ble_eq_true rfl) ⟨rfl, rfl⟩ ⟨(Nat.le_of_ble_eq_true rfl), (Nat.le_of_ble_eq_true rfl)⟩ [0, 1, 2] [] [0, 1, 2] rfl rfl rfl rfl (by decide) rfl rfl rfl ?_
      clear hc
      refine h_iconst (pc := 58) C dX3_relieve_58 jc_0 ?_
      have g0 := (Prod.mk.inj (Option.some.inj hf)).1
      have g1 := (Prod.mk.inj (Prod.mk.inj (Option.some.inj hf)).2).1
      have g2 := (Prod.mk.inj (Prod.mk.inj (Option.some.inj hf)).2).2
      clear hf
      subst g0
      subst g1
      subst g2
      exact h_zret C hr rfl dX3_relieve_59
  · replace hf := jif_f q hf
    clear q
    refine h_aload_n (pc := 14) C dX3_relieve_14 rfl 1 rfl ?_
    refine h_iload_n (pc := 15) C dX3_relieve_15 rfl 2 rfl ?_
    refine h_iload_n (pc := 16) C dX3_relieve_16 rfl 3 rfl ?_
    refine h_iconst (pc := 17) C dX3_relieve_17 jc_3 ?_
    obtain ⟨v7, hc, hf⟩ := jbd_s hf
    refine h_callV (pc := 18) (q0 := 0) (As := [.int a1, .int a2, .int 3]) (rest := []) (ws' := (wT cT ad v7 widths height)) (st2 := []) C (c_X3_setLoad l D cT ad n loads widths height a1 a2 3 v7 hc) (cwV 3 C.1.2.2.2.2 gX3_relieve_X3_setLoad rfl rfl rfl pv_X3_setLoad ⟨(Nat.le_of_ble_eq_true rfl), (Nat.le_of_ble_eq_true rfl)⟩) dX3_relieve_18 rfl rfl rfl rfl rfl (Nat.le_of_ble_eq_true rfl) ⟨rfl, rfl⟩ ⟨(Nat.le_of_ble_eq_true rfl), (Nat.le_of_ble_eq_true rfl)⟩ [0, 1, 2] [] [0, 1, 2] rfl rfl rfl rfl (by decide) rfl rfl rfl ?_
    clear hc
    refine h_aload_n (pc := 21) C dX3_relieve_21 rfl 1 rfl ?_
    refine h_iload_n (pc := 22) C dX3_relieve_22 rfl 2 rfl ?_
    refine h_iload_n (pc := 23) C dX3_relieve_23 rfl 3 rfl ?_
    refine h_iconst (pc := 24) C dX3_relieve_24 jc_1 ?_
    refine h_iadd (pc := 25) C dX3_relieve_25 ?_
    refine h_iconst (pc := 26) C dX3_relieve_26 jc_2 ?_
    obtain ⟨v8, hc, hf⟩ := jbd_s hf
    refine h_callV (pc := 27) (q0 := 0) (As := [.int a1, .int (a2 + 1), .int 2]) (rest := []) (ws' := (wT cT ad v8.1 v8.2 height)) (st2 := []) C (c_X3_insertNode l D cT ad n v7 widths height a1 (a2 + 1) 2 v8.1 v8.2 hc) (cwV 3 C.1.2.2.2.2 gX3_relieve_X3_insertNode rfl rfl rfl pv_X3_insertNode ⟨(Nat.le_of_ble_eq_true rfl), (Nat.le_of_ble_eq_true rfl)⟩) dX3_relieve_27 rfl rfl rfl rfl rfl (Nat.le_of_ble_eq_true rfl) ⟨rfl, rfl⟩ ⟨(Nat.le_of_ble_eq_true rfl), (Nat.le_of_ble_eq_true rfl)⟩ [0, 1, 2] [] [0, 1, 2] rfl rfl rfl rfl (by decide) rfl rfl rfl ?_
    clear hc
    refine h_iconst (pc := 30) C dX3_relieve_30 jc_1 ?_
    have g0 := (Prod.mk.inj (Option.some.inj hf)).1
    have g1 := (Prod.mk.inj (Prod.mk.inj (Option.some.inj hf)).2).1
    have g2 := (Prod.mk.inj (Prod.mk.inj (Option.some.inj hf)).2).2
    clear hf
    subst g0
    subst g1
    subst g2
    exact h_zret C hr rfl dX3_relieve_31
theorem pv_X3_relieve : yX3_relieve.cls = RX3 ∧ yX3_relieve.cls ≠ "java/lang/invoke/MethodHandle" ∧ yX3_relieve.cls ≠ "java/lang/invoke/VarHandle" ∧ (parseMethodDescriptor yX3_relieve.desc).map (fun d => d.parameters.length) = some 3 := by decide +kernel
abbrev rmX3_gainEntry : Room := { frames := 3, cells := 0, slots := 0, locals := 67 }
set_option maxRecDepth 100000 in
set_option maxHeartbeats 4000000 in
theorem c_X3_gainEntry (l : Launch) (D : va_G) (cT : Nat → ClassId) (ad : Nat → Nat) (n : Nat) (loads : Nat → Int32) (widths : Nat → Int32) (height : Int32) (a1 : Int32) (a2 : Int32) (loads' : Nat → Int32) (widths' : Nat → Int32) (height' : Int32) (hf : f_X3_gainEntry n loads widths height a1 a2 = some (loads', widths', height')) : cM l yX3_gainEntry wsX3_gainEntry rmX3_gainEntry D (ty4 cT) [.ref (ad 6), .int a1, .int a2] (wT cT ad loads widths height) none (wT cT ad loads' widths' height') := by
  refine cM_of (cc := cX3_gainEntry) (maxL := 3) (ret := none) (own := RX3) (lv := [(0, .ref (ad 6)), (1, .int a1), (2, .int a2)]) (by decide) rfl (Nat.le_of_ble_eq_true rfl) rfl rfl ?_
  intro p e s m args below meth c A C hr
  unfold f_X3_gainEntry at hf
  refine h_iload_n (pc := 0) C dX3_gainEntry_0 rfl 2 rfl ?_
  refine h_if_ge (pc := 1) (tgt := 12) C dX3_gainEntry_1 (by decide) (fun q => ?_) (fun q => ?_)
  · replace hf := jif_t q hf
    clear q
    refine h_aload_n (pc := 12) C dX3_gainEntry_12 rfl 0 rfl ?_
    refine h_iload_n (pc := 13) C dX3_gainEntry_13 rfl 1 rfl ?_
    refine h_iload_n (pc := 14) C dX3_gainEntry_14 rfl 2 rfl ?_
    refine h_aload_n (pc := 15) C dX3_gainEntry_15 rfl 0 rfl ?_
    refine h_iload_n (pc := 16) C dX3_gainEntry_16 rfl 1 rfl ?_
    refine h_iload_n (pc := 17) C dX3_gainEntry_17 rfl 2 rfl ?_
    obtain ⟨v1, hc, hf⟩ := jbd_s hf
    refine h_callV (pc := 18) (q0 := 0) (As := [.int a1, .int a2]) (rest := .int a2 :: .int a1 :: .ref (ad 6) :: []) (ws' := (wT cT ad loads widths height)) (st2 := .int v1 :: .int a2 :: .int a1 :: .ref (ad 6) :: []) C (c_X3_load l D cT ad n loads widths height a1 a2 v1 hc) (cwV 2 C.1.2.2.2.2 gX3_gainEntry_X3_load rfl rfl rfl pv_X3_load ⟨(Nat.le_of_ble_eq_true rfl), (Nat.le_of_ble_eq_true rfl)⟩) dX3_gainEntry_18 rfl rfl rfl rfl rfl (Nat.le_of_ble_eq_true rfl) ⟨rfl, rfl⟩ ⟨(Nat.le_of_ble_eq_true rfl), (Nat.le_of_ble_eq_true rfl)⟩ [0, 1, 2] [] [0, 1, 2] rfl rfl rfl rfl (by decide) rfl rfl rfl ?_
    clear hc
    refine h_iconst (pc := 21) C dX3_gainEntry_21 jc_1 ?_
    refine h_iadd (pc := 22) C dX3_gainEntry_22 ?_
    obtain ⟨v2, hc, hf⟩ := jbd_s hf
    refine h_callV (pc := 23) (q0 := 0) (As := [.int a1, .int a2, .int (v1 + 1)]) (rest := []) (ws' := (wT cT ad v2 widths height)) (st2 := []) C (c_X3_setLoad l D cT ad n loads widths height a1 a2 (v1 + 1) v2 hc) (cwV 3 C.1.2.2.2.2 gX3_gainEntry_X3_setLoad rfl rfl rfl pv_X3_setLoad ⟨(Nat.le_of_ble_eq_true rfl), (Nat.le_of_ble_eq_true rfl)⟩) dX3_gainEntry_23 rfl rfl rfl rfl rfl (Nat.le_of_ble_eq_true rfl) ⟨rfl, rfl⟩ ⟨(Nat.le_of_ble_eq_true rfl), (Nat.le_of_ble_eq_true rfl)⟩ [0, 1, 2] [] [0, 1, 2] rfl rfl rfl rfl (by decide) rfl rfl rfl ?_
    clear hc
    have g0 := (Prod.mk.inj (Option.some.inj hf)).1
    have g1 := (Prod.mk.inj (Prod.mk.inj (Option.some.inj hf)).2).1
    have g2 := (Prod.mk.inj (Prod.mk.inj (Option.some.inj hf)).2).2
    clear hf
    subst g0
    subst g1
    subst g2
    exact h_vret C hr dX3_gainEntry_26
  · replace hf := jif_f q hf
    clear q
    refine h_aload_n (pc := 4) C dX3_gainEntry_4 rfl 0 rfl ?_
    refine h_iconst (pc := 5) C dX3_gainEntry_5 jc_2 ?_
    obtain ⟨v3, hc, hf⟩ := jbd_s hf
    refine h_callV (pc := 6) (q0 := 0) (As := [.int 2]) (rest := []) (ws' := (wT cT ad v3.1 v3.2.1 v3.2.2)) (st2 := []) C (c_X3_addRoot l D cT ad n loads widths height 2 v3.1 v3.2.1 v3.2.2 hc) (cwV 1 C.1.2.2.2.2 gX3_gainEntry_X3_addRoot rfl rfl rfl pv_X3_addRoot ⟨(Nat.le_of_ble_eq_true rfl), (Nat.le_of_ble_eq_true rfl)⟩) dX3_gainEntry_6 rfl rfl rfl rfl rfl (Nat.le_of_ble_eq_true rfl) ⟨rfl, rfl⟩ ⟨(Nat.le_of_ble_eq_true rfl), (Nat.le_of_ble_eq_true rfl)⟩ [0, 1, 2] [] [0, 1, 2] rfl rfl rfl rfl (by decide) rfl rfl rfl ?_
    clear hc
    refine h_goto (pc := 9) (tgt := 26) C dX3_gainEntry_9 (by decide) ?_
    have g0 := (Prod.mk.inj (Option.some.inj hf)).1
    have g1 := (Prod.mk.inj (Prod.mk.inj (Option.some.inj hf)).2).1
    have g2 := (Prod.mk.inj (Prod.mk.inj (Option.some.inj hf)).2).2
    clear hf
    subst g0
    subst g1
    subst g2
    exact h_vret C hr dX3_gainEntry_26
theorem pv_X3_gainEntry : yX3_gainEntry.cls = RX3 ∧ yX3_gainEntry.cls ≠ "java/lang/invoke/MethodHandle" ∧ yX3_gainEntry.cls ≠ "java/lang/invoke/VarHandle" ∧ (parseMethodDescriptor yX3_gainEntry.desc).map (fun d => d.parameters.length) = some 2 := by decide +kernel
abbrev rmX3_grow : Room := { frames := 5, cells := 0, slots := 0, locals := 119 }
theorem uX3_grow_X3 : ∀ w ∈ u_ws RX3 TX3 3, w ∈ wsX3_grow := fun w h => List.mem_cons_of_mem _ (List.mem_append_right _ h)
set_option maxRecDepth 100000 in
set_option maxHeartbeats 4000000 in
theorem k_X3_grow_80 {p : Program} {e : Env} {s : State} {m : MethodId} {args : Array Value} {below : List Frame} {meth : Method} {c : Code} {A : Nat → Prop} (l : Launch) (D : va_G) (cT : Nat → ClassId) (ad : Nat → Nat) (C : hC p s m args meth c cX3_grow 5 wsX3_grow RX3 D (ty4 cT) A) (hr : meth.sig.returnType = none) (n : Nat)  (loads' : Nat → Int32) (widths' : Nat → Int32) (height' : Int32) (k36 : (Nat → Int32) → (Nat → Int32) → Int32 → Int32 → Int32 → Option ((Nat → Int32) × (Nat → Int32) × Int32)) (K36 : ∀ (loads : Nat → Int32) (widths : Nat → Int32) (height : Int32) (x2 : Int32) (x3 : Int32), k36 loads widths height x2 x3 = some (loads', widths', height') → hS p l e rmX3_grow s m args below meth c 5 D A 0 0 (MQ below (cQ D (ty4 cT) A none (wT cT ad loads' widths' height')) args s 0 0 A) 36 [(0, .ref (ad 6)), (2, .int x2), (3, .int x3)] [] (wT cT ad loads widths height)) : ∀ (loads : Nat → Int32) (widths : Nat → Int32) (height : Int32) (x3 : Int32) (x4 : Int32), f_X3_grow_80 n k36 loads widths height x3 x4 = some (loads', widths', height') → hS p l e rmX3_grow s m args below meth c 5 D A 0 0 (MQ below (cQ D (ty4 cT) A none (wT cT ad loads' widths' height')) args s 0 0 A) 80 [(0, .ref (ad 6)), (3, .int x3), (4, .int x4)] [] (wT cT ad loads widths height) := by
  intro loads widths height x3 x4 hf
  unfold f_X3_grow_80 at hf
  refine h_iload (pc := 80) C dX3_grow_80 2 rfl ?_
  refine h_istore_n (pc := 82) (lv' := [(2, .int x4), (0, .ref (ad 6)), (3, .int x3), (4, .int x4)]) C dX3_grow_82 rfl (by decide) rfl ?_
  refine h_iinc (pc := 83) (v := x3 + 1) (lv' := [(3, .int (x3 + 1)), (2, .int x4), (0, .ref (ad 6)), (4, .int x4)]) C dX3_grow_83 2 rfl (ji_1 _) (by decide) rfl ?_
  refine h_goto (pc := 86) (tgt := 36) C dX3_grow_86 (by decide) ?_
  refine h_sub [2, 1, 0] rfl ?_
  exact K36 loads widths height x4 (x3 + 1) hf
set_option maxRecDepth 100000 in
set_option maxHeartbeats 4000000 in
theorem k_X3_grow_36 {p : Program} {e : Env} {s : State} {m : MethodId} {args : Array Value} {below : List Frame} {meth : Method} {c : Code} {A : Nat → Prop} (l : Launch) (D : va_G) (cT : Nat → ClassId) (ad : Nat → Nat) (C : hC p s m args meth c cX3_grow 5 wsX3_grow RX3 D (ty4 cT) A) (hr : meth.sig.returnType = none) (n : Nat)  (loads' : Nat → Int32) (widths' : Nat → Int32) (height' : Int32)  : ∀ (fu : Nat) (loads : Nat → Int32) (widths : Nat → Int32) (height : Int32) (x2 : Int32) (x3 : Int32), f_X3_grow_36 n fu loads widths height x2 x3 = some (loads', widths', height') → hS p l e rmX3_grow s m args below meth c 5 D A 0 0 (MQ below (cQ D (ty4 cT) A none (wT cT ad loads' widths' height')) args s 0 0 A) 36 [(0, .ref (ad 6)), (2, .int x2), (3, .int x3)] [] (wT cT ad loads widths height) := by
  intro fu
  induction fu with
  | zero =>
    intro loads widths height x2 x3 hf
    exact nomatch (show (none : Option ((Nat → Int32) × (Nat → Int32) × Int32)) = some (loads', widths', height') from hf)
  | succ fu ih =>
    intro loads widths height x2 x3 hf
    rw [f_X3_grow_36] at hf
    refine h_iload_n (pc := 36) C dX3_grow_36 rfl 2 rfl ?_
    refine h_bipush (pc := 37) C dX3_grow_37 jb_8 ?_
    refine h_icmp_ge (pc := 39) (tgt := 89) C dX3_grow_39 (by decide) (fun q => ?_) (fun q => ?_)
    · replace hf := jif_t q hf
      clear q
      have g0 := (Prod.mk.inj (Option.some.inj hf)).1
      have g1 := (Prod.mk.inj (Prod.mk.inj (Option.some.inj hf)).2).1
      have g2 := (Prod.mk.inj (Prod.mk.inj (Option.some.inj hf)).2).2
      clear hf
      subst g0
      subst g1
      subst g2
      exact h_vret C hr dX3_grow_89
    · replace hf := jif_f q hf
      clear q
      refine h_aload_n (pc := 42) C dX3_grow_42 rfl 0 rfl ?_
      refine h_iload_n (pc := 43) C dX3_grow_43 rfl 2 rfl ?_
      refine h_iload_n (pc := 44) C dX3_grow_44 rfl 1 rfl ?_
      obtain ⟨v5, hc, hf⟩ := jbd_s hf
      refine h_callV (pc := 45) (q0 := 0) (As := [.int x3, .int x2]) (rest := []) (ws' := (wT cT ad loads widths height)) (st2 := .int v5 :: []) C (c_X3_load l D cT ad n loads widths height x3 x2 v5 hc) (cwV 2 C.1.2.2.2.2 gX3_grow_X3_load rfl rfl rfl pv_X3_load ⟨(Nat.le_of_ble_eq_true rfl), (Nat.le_of_ble_eq_true rfl)⟩) dX3_grow_45 rfl rfl rfl rfl rfl (Nat.le_of_ble_eq_true rfl) ⟨rfl, rfl⟩ ⟨(Nat.le_of_ble_eq_true rfl), (Nat.le_of_ble_eq_true rfl)⟩ [0, 1, 2] [] [0, 1, 2] rfl rfl rfl rfl (by decide) rfl rfl rfl ?_
      clear hc
      refine h_iconst (pc := 48) C dX3_grow_48 jc_4 ?_
      refine h_icmp_le (pc := 49) (tgt := 89) C dX3_grow_49 (by decide) (fun q => ?_) (fun q => ?_)
      · replace hf := jif_t q hf
        clear q
        have g0 := (Prod.mk.inj (Option.some.inj hf)).1
        have g1 := (Prod.mk.inj (Prod.mk.inj (Option.some.inj hf)).2).1
        have g2 := (Prod.mk.inj (Prod.mk.inj (Option.some.inj hf)).2).2
        clear hf
        subst g0
        subst g1
        subst g2
        exact h_vret C hr dX3_grow_89
      · replace hf := jif_f q hf
        clear q
        refine h_aload_n (pc := 52) C dX3_grow_52 rfl 0 rfl ?_
        refine h_iload_n (pc := 53) C dX3_grow_53 rfl 2 rfl ?_
        refine h_iload_n (pc := 54) C dX3_grow_54 rfl 1 rfl ?_
        obtain ⟨v6, hc, hf⟩ := jbd_s hf
        refine h_callV (pc := 55) (q0 := 0) (As := [.int x3, .int x2]) (rest := []) (ws' := (wT cT ad loads widths height)) (st2 := .int v6 :: []) C (c_X3_parent l D cT ad n loads widths height x3 x2 v6 hc) (cwV 2 C.1.2.2.2.2 gX3_grow_X3_parent rfl rfl rfl pv_X3_parent ⟨(Nat.le_of_ble_eq_true rfl), (Nat.le_of_ble_eq_true rfl)⟩) dX3_grow_55 rfl rfl rfl rfl rfl (Nat.le_of_ble_eq_true rfl) ⟨rfl, rfl⟩ ⟨(Nat.le_of_ble_eq_true rfl), (Nat.le_of_ble_eq_true rfl)⟩ [0, 1, 2] [] [0, 1, 2] rfl rfl rfl rfl (by decide) rfl rfl rfl ?_
        clear hc
        refine h_istore (pc := 58) (lv' := [(4, .int v6), (0, .ref (ad 6)), (2, .int x2), (3, .int x3)]) C dX3_grow_58 (by decide) rfl ?_
        refine h_aload_n (pc := 60) C dX3_grow_60 rfl 1 rfl ?_
        refine h_iload_n (pc := 61) C dX3_grow_61 rfl 3 rfl ?_
        refine h_iload_n (pc := 62) C dX3_grow_62 rfl 2 rfl ?_
        refine h_iload (pc := 63) C dX3_grow_63 0 rfl ?_
        obtain ⟨v7, hc, hf⟩ := jbd_s hf
        refine h_callV (pc := 65) (q0 := 0) (As := [.int x3, .int x2, .int v6]) (rest := []) (ws' := (wT cT ad v7.2.1 v7.2.2 height)) (st2 := .int v7.1 :: []) C (c_X3_relieve l D cT ad n loads widths height x3 x2 v6 v7.1 v7.2.1 v7.2.2 hc) (cwV 3 C.1.2.2.2.2 gX3_grow_X3_relieve rfl rfl rfl pv_X3_relieve ⟨(Nat.le_of_ble_eq_true rfl), (Nat.le_of_ble_eq_true rfl)⟩) dX3_grow_65 rfl rfl rfl rfl rfl (Nat.le_of_ble_eq_true rfl) ⟨rfl, rfl⟩ ⟨(Nat.le_of_ble_eq_true rfl), (Nat.le_of_ble_eq_true rfl)⟩ [0, 1, 2] [] [0, 1, 2] rfl rfl rfl rfl (by decide) rfl rfl rfl ?_
        clear hc
        refine h_if_eq (pc := 68) (tgt := 80) C dX3_grow_68 (by decide) (fun q => ?_) (fun q => ?_)
        · replace hf := jif_t q hf
          clear q
          refine h_sub [1, 3, 0] rfl ?_
          exact k_X3_grow_80 l D cT ad C hr n loads' widths' height' (f_X3_grow_36 n fu) ih v7.2.1 v7.2.2 height x3 v6 hf
        · replace hf := jif_f q hf
          clear q
          refine h_aload_n (pc := 71) C dX3_grow_71 rfl 1 rfl ?_
          refine h_iload_n (pc := 72) C dX3_grow_72 rfl 3 rfl ?_
          refine h_iconst (pc := 73) C dX3_grow_73 jc_1 ?_
          refine h_iadd (pc := 74) C dX3_grow_74 ?_
          refine h_iload (pc := 75) C dX3_grow_75 0 rfl ?_
          obtain ⟨v8, hc, hf⟩ := jbd_s hf
          refine h_callV (pc := 77) (q0 := 0) (As := [.int (x3 + 1), .int v6]) (rest := []) (ws' := (wT cT ad v8.1 v8.2.1 v8.2.2)) (st2 := []) C (c_X3_gainEntry l D cT ad n v7.2.1 v7.2.2 height (x3 + 1) v6 v8.1 v8.2.1 v8.2.2 hc) (cwV 2 C.1.2.2.2.2 gX3_grow_X3_gainEntry rfl rfl rfl pv_X3_gainEntry ⟨(Nat.le_of_ble_eq_true rfl), (Nat.le_of_ble_eq_true rfl)⟩) dX3_grow_77 rfl rfl rfl rfl rfl (Nat.le_of_ble_eq_true rfl) ⟨rfl, rfl⟩ ⟨(Nat.le_of_ble_eq_true rfl), (Nat.le_of_ble_eq_true rfl)⟩ [0, 1, 2] [] [0, 1, 2] rfl rfl rfl rfl (by decide) rfl rfl rfl ?_
          clear hc
          refine h_sub [1, 3, 0] rfl ?_
          exact k_X3_grow_80 l D cT ad C hr n loads' widths' height' (f_X3_grow_36 n fu) ih v8.1 v8.2.1 v8.2.2 x3 v6 hf
set_option maxRecDepth 100000 in
set_option maxHeartbeats 4000000 in
theorem c_X3_grow (l : Launch) (D : va_G) (cT : Nat → ClassId) (ad : Nat → Nat) (n : Nat) (loads : Nat → Int32) (widths : Nat → Int32) (height : Int32) (a1 : Int32) (loads' : Nat → Int32) (widths' : Nat → Int32) (height' : Int32) (hf : f_X3_grow n loads widths height a1 = some (loads', widths', height')) : cM l yX3_grow wsX3_grow rmX3_grow D (ty4 cT) [.ref (ad 6), .int a1] (wT cT ad loads widths height) none (wT cT ad loads' widths' height') := by
  refine cM_of (cc := cX3_grow) (maxL := 5) (ret := none) (own := RX3) (lv := [(0, .ref (ad 6)), (1, .int a1)]) (by decide) rfl (Nat.le_of_ble_eq_true rfl) rfl rfl ?_
  intro p e s m args below meth c A C hr
  unfold f_X3_grow at hf
  refine h_aload_n (pc := 0) C dX3_grow_0 rfl 0 rfl ?_
  refine h_get (pc := 1) (ci := 1) (C0 := RX3) (T := TX3) (N := 3) C uX3_grow_X3 rfl 0 rfl 2 (by decide) (List.mem_of_getElem? (i := 1) rfl) rfl rfl dX3_grow_1 ?_
  refine h_if_ne (pc := 4) (tgt := 13) C dX3_grow_4 (by decide) (fun q => ?_) (fun q => ?_)
  · replace hf := jif_f q hf
    clear q
    refine h_aload_n (pc := 13) C dX3_grow_13 rfl 0 rfl ?_
    refine h_iconst (pc := 14) C dX3_grow_14 jc_0 ?_
    refine h_iload_n (pc := 15) C dX3_grow_15 rfl 1 rfl ?_
    obtain ⟨v1, hc, hf⟩ := jbd_s hf
    refine h_callV (pc := 16) (q0 := 0) (As := [.int 0, .int a1]) (rest := []) (ws' := (wT cT ad loads widths height)) (st2 := .int v1 :: []) C (c_X3_holder l D cT ad n loads widths height 0 a1 v1 hc) (cwV 2 C.1.2.2.2.2 gX3_grow_X3_holder rfl rfl rfl pv_X3_holder ⟨(Nat.le_of_ble_eq_true rfl), (Nat.le_of_ble_eq_true rfl)⟩) dX3_grow_16 rfl rfl rfl rfl rfl (Nat.le_of_ble_eq_true rfl) ⟨rfl, rfl⟩ ⟨(Nat.le_of_ble_eq_true rfl), (Nat.le_of_ble_eq_true rfl)⟩ [0, 1, 2] [] [0, 1, 2] rfl rfl rfl rfl (by decide) rfl rfl rfl ?_
    clear hc
    refine h_istore_n (pc := 19) (lv' := [(2, .int v1), (0, .ref (ad 6)), (1, .int a1)]) C dX3_grow_19 rfl (by decide) rfl ?_
    refine h_aload_n (pc := 20) C dX3_grow_20 rfl 1 rfl ?_
    refine h_iconst (pc := 21) C dX3_grow_21 jc_0 ?_
    refine h_iload_n (pc := 22) C dX3_grow_22 rfl 0 rfl ?_
    refine h_aload_n (pc := 23) C dX3_grow_23 rfl 1 rfl ?_
    refine h_iconst (pc := 24) C dX3_grow_24 jc_0 ?_
    refine h_iload_n (pc := 25) C dX3_grow_25 rfl 0 rfl ?_
    obtain ⟨v2, hc, hf⟩ := jbd_s hf
    refine h_callV (pc := 26) (q0 := 0) (As := [.int 0, .int v1]) (rest := .int v1 :: .int 0 :: .ref (ad 6) :: []) (ws' := (wT cT ad loads widths height)) (st2 := .int v2 :: .int v1 :: .int 0 :: .ref (ad 6) :: []) C (c_X3_load l D cT ad n loads widths height 0 v1 v2 hc) (cwV 2 C.1.2.2.2.2 gX3_grow_X3_load rfl rfl rfl pv_X3_load ⟨(Nat.le_of_ble_eq_true rfl), (Nat.le_of_ble_eq_true rfl)⟩) dX3_grow_26 rfl rfl rfl rfl rfl (Nat.le_of_ble_eq_true rfl) ⟨rfl, rfl⟩ ⟨(Nat.le_of_ble_eq_true rfl), (Nat.le_of_ble_eq_true rfl)⟩ [0, 1, 2] [] [0, 1, 2] rfl rfl rfl rfl (by decide) rfl rfl rfl ?_
    clear hc
    refine h_iconst (pc := 29) C dX3_grow_29 jc_1 ?_
    refine h_iadd (pc := 30) C dX3_grow_30 ?_
    obtain ⟨v3, hc, hf⟩ := jbd_s hf
    refine h_callV (pc := 31) (q0 := 0) (As := [.int 0, .int v1, .int (v2 + 1)]) (rest := []) (ws' := (wT cT ad v3 widths height)) (st2 := []) C (c_X3_setLoad l D cT ad n loads widths height 0 v1 (v2 + 1) v3 hc) (cwV 3 C.1.2.2.2.2 gX3_grow_X3_setLoad rfl rfl rfl pv_X3_setLoad ⟨(Nat.le_of_ble_eq_true rfl), (Nat.le_of_ble_eq_true rfl)⟩) dX3_grow_31 rfl rfl rfl rfl rfl (Nat.le_of_ble_eq_true rfl) ⟨rfl, rfl⟩ ⟨(Nat.le_of_ble_eq_true rfl), (Nat.le_of_ble_eq_true rfl)⟩ [0, 1, 2] [] [0, 1, 2] rfl rfl rfl rfl (by decide) rfl rfl rfl ?_
    clear hc
    refine h_iconst (pc := 34) C dX3_grow_34 jc_0 ?_
    refine h_istore_n (pc := 35) (lv' := [(3, .int 0), (2, .int v1), (0, .ref (ad 6)), (1, .int a1)]) C dX3_grow_35 rfl (by decide) rfl ?_
    refine h_sub [2, 1, 0] rfl ?_
    exact k_X3_grow_36 l D cT ad C hr n loads' widths' height' n v3 widths height v1 0 hf
  · replace hf := jif_t q hf
    clear q
    refine h_aload_n (pc := 7) C dX3_grow_7 rfl 0 rfl ?_
    refine h_iconst (pc := 8) C dX3_grow_8 jc_1 ?_
    obtain ⟨v4, hc, hf⟩ := jbd_s hf
    refine h_callV (pc := 9) (q0 := 0) (As := [.int 1]) (rest := []) (ws' := (wT cT ad v4.1 v4.2.1 v4.2.2)) (st2 := []) C (c_X3_addRoot l D cT ad n loads widths height 1 v4.1 v4.2.1 v4.2.2 hc) (cwV 1 C.1.2.2.2.2 gX3_grow_X3_addRoot rfl rfl rfl pv_X3_addRoot ⟨(Nat.le_of_ble_eq_true rfl), (Nat.le_of_ble_eq_true rfl)⟩) dX3_grow_9 rfl rfl rfl rfl rfl (Nat.le_of_ble_eq_true rfl) ⟨rfl, rfl⟩ ⟨(Nat.le_of_ble_eq_true rfl), (Nat.le_of_ble_eq_true rfl)⟩ [0, 1, 2] [] [0, 1, 2] rfl rfl rfl rfl (by decide) rfl rfl rfl ?_
    clear hc
    have g0 := (Prod.mk.inj (Option.some.inj hf)).1
    have g1 := (Prod.mk.inj (Prod.mk.inj (Option.some.inj hf)).2).1
    have g2 := (Prod.mk.inj (Prod.mk.inj (Option.some.inj hf)).2).2
    clear hf
    subst g0
    subst g1
    subst g2
    exact h_vret C hr dX3_grow_12
theorem pv_X3_grow : yX3_grow.cls = RX3 ∧ yX3_grow.cls ≠ "java/lang/invoke/MethodHandle" ∧ yX3_grow.cls ≠ "java/lang/invoke/VarHandle" ∧ (parseMethodDescriptor yX3_grow.desc).map (fun d => d.parameters.length) = some 1 := by decide +kernel
abbrev rmX3_deleteNode : Room := { frames := 2, cells := 0, slots := 0, locals := 46 }
set_option maxRecDepth 100000 in
set_option maxHeartbeats 4000000 in
theorem k_X3_deleteNode_9 {p : Program} {e : Env} {s : State} {m : MethodId} {args : Array Value} {below : List Frame} {meth : Method} {c : Code} {A : Nat → Prop} (l : Launch) (D : va_G) (cT : Nat → ClassId) (ad : Nat → Nat) (C : hC p s m args meth c cX3_deleteNode 5 wsX3_deleteNode RX3 D (ty4 cT) A) (hr : meth.sig.returnType = none) (n : Nat) (height : Int32) (loads' : Nat → Int32) (widths' : Nat → Int32)  : ∀ (fu : Nat) (loads : Nat → Int32) (widths : Nat → Int32) (x1 : Int32) (x3 : Int32) (x4 : Int32), f_X3_deleteNode_9 n height fu loads widths x1 x3 x4 = some (loads', widths') → hS p l e rmX3_deleteNode s m args below meth c 5 D A 0 0 (MQ below (cQ D (ty4 cT) A none (wT cT ad loads' widths' height)) args s 0 0 A) 9 [(0, .ref (ad 6)), (1, .int x1), (3, .int x3), (4, .int x4)] [] (wT cT ad loads widths height) := by
  intro fu
  induction fu with
  | zero =>
    intro loads widths x1 x3 x4 hf
    exact nomatch (show (none : Option ((Nat → Int32) × (Nat → Int32))) = some (loads', widths') from hf)
  | succ fu ih =>
    intro loads widths x1 x3 x4 hf
    rw [f_X3_deleteNode_9] at hf
    refine h_iload (pc := 9) C dX3_deleteNode_9 3 rfl ?_
    refine h_iload_n (pc := 11) C dX3_deleteNode_11 rfl 2 rfl ?_
    refine h_iconst (pc := 12) C dX3_deleteNode_12 jc_1 ?_
    refine h_isub (pc := 13) C dX3_deleteNode_13 ?_
    refine h_icmp_ge (pc := 14) (tgt := 39) C dX3_deleteNode_14 (by decide) (fun q => ?_) (fun q => ?_)
    · replace hf := jif_t q hf
      clear q
      refine h_aload_n (pc := 39) C dX3_deleteNode_39 rfl 0 rfl ?_
      refine h_iload_n (pc := 40) C dX3_deleteNode_40 rfl 1 rfl ?_
      refine h_iconst (pc := 41) C dX3_deleteNode_41 jc_0 ?_
      refine h_iload_n (pc := 42) C dX3_deleteNode_42 rfl 2 rfl ?_
      refine h_iconst (pc := 43) C dX3_deleteNode_43 jc_1 ?_
      refine h_isub (pc := 44) C dX3_deleteNode_44 ?_
      refine h_mmax (pc := 45) C (List.mem_of_getElem? (i := 1) rfl) (List.mem_of_getElem? (i := 2) rfl) (List.mem_of_getElem? (i := 3) rfl) (List.mem_of_getElem? (i := 4) rfl) ⟨Nat.le_of_ble_eq_true rfl, Nat.le_of_ble_eq_true rfl, Nat.le_of_ble_eq_true rfl, Nat.le_of_ble_eq_true rfl⟩ dX3_deleteNode_45 ?_
      obtain ⟨v2, hc, hf⟩ := jbd_s hf
      refine h_callV (pc := 48) (q0 := 0) (As := [.int x1, .int (jmax 0 (x3 - 1))]) (rest := []) (ws' := (wT cT ad loads v2 height)) (st2 := []) C (c_X3_setWidth l D cT ad n loads widths height x1 (jmax 0 (x3 - 1)) v2 hc) (cwV 2 C.1.2.2.2.2 gX3_deleteNode_X3_setWidth rfl rfl rfl pv_X3_setWidth ⟨(Nat.le_of_ble_eq_true rfl), (Nat.le_of_ble_eq_true rfl)⟩) dX3_deleteNode_48 rfl rfl rfl rfl rfl (Nat.le_of_ble_eq_true rfl) ⟨rfl, rfl⟩ ⟨(Nat.le_of_ble_eq_true rfl), (Nat.le_of_ble_eq_true rfl)⟩ [0, 1, 2] [] [0, 1, 2] rfl rfl rfl rfl (by decide) rfl rfl rfl ?_
      clear hc
      have g0 := (Prod.mk.inj (Option.some.inj hf)).1
      have g1 := (Prod.mk.inj (Option.some.inj hf)).2
      clear hf
      subst g0
      subst g1
      exact h_vret C hr dX3_deleteNode_51
    · replace hf := jif_f q hf
      clear q
      refine h_aload_n (pc := 17) C dX3_deleteNode_17 rfl 0 rfl ?_
      refine h_iload_n (pc := 18) C dX3_deleteNode_18 rfl 1 rfl ?_
      refine h_iload (pc := 19) C dX3_deleteNode_19 3 rfl ?_
      refine h_aload_n (pc := 21) C dX3_deleteNode_21 rfl 0 rfl ?_
      refine h_iload_n (pc := 22) C dX3_deleteNode_22 rfl 1 rfl ?_
      refine h_iload (pc := 23) C dX3_deleteNode_23 3 rfl ?_
      refine h_iconst (pc := 25) C dX3_deleteNode_25 jc_1 ?_
      refine h_iadd (pc := 26) C dX3_deleteNode_26 ?_
      obtain ⟨v3, hc, hf⟩ := jbd_s hf
      refine h_callV (pc := 27) (q0 := 0) (As := [.int x1, .int (x4 + 1)]) (rest := .int x4 :: .int x1 :: .ref (ad 6) :: []) (ws' := (wT cT ad loads widths height)) (st2 := .int v3 :: .int x4 :: .int x1 :: .ref (ad 6) :: []) C (c_X3_load l D cT ad n loads widths height x1 (x4 + 1) v3 hc) (cwV 2 C.1.2.2.2.2 gX3_deleteNode_X3_load rfl rfl rfl pv_X3_load ⟨(Nat.le_of_ble_eq_true rfl), (Nat.le_of_ble_eq_true rfl)⟩) dX3_deleteNode_27 rfl rfl rfl rfl rfl (Nat.le_of_ble_eq_true rfl) ⟨rfl, rfl⟩ ⟨(Nat.le_of_ble_eq_true rfl), (Nat.le_of_ble_eq_true rfl)⟩ [0, 1, 2] [] [0, 1, 2] rfl rfl rfl rfl (by decide) rfl rfl rfl ?_
      clear hc
      obtain ⟨v4, hc, hf⟩ := jbd_s hf
      refine h_callV (pc := 30) (q0 := 0) (As := [.int x1, .int x4, .int v3]) (rest := []) (ws' := (wT cT ad v4 widths height)) (st2 := []) C (c_X3_setLoad l D cT ad n loads widths height x1 x4 v3 v4 hc) (cwV 3 C.1.2.2.2.2 gX3_deleteNode_X3_setLoad rfl rfl rfl pv_X3_setLoad ⟨(Nat.le_of_ble_eq_true rfl), (Nat.le_of_ble_eq_true rfl)⟩) dX3_deleteNode_30 rfl rfl rfl rfl rfl (Nat.le_of_ble_eq_true rfl) ⟨rfl, rfl⟩ ⟨(Nat.le_of_ble_eq_true rfl), (Nat.le_of_ble_eq_true rfl)⟩ [0, 1, 2] [] [0, 1, 2] rfl rfl rfl rfl (by decide) rfl rfl rfl ?_
      clear hc
      refine h_iinc (pc := 33) (v := x4 + 1) (lv' := [(4, .int (x4 + 1)), (0, .ref (ad 6)), (1, .int x1), (3, .int x3)]) C dX3_deleteNode_33 3 rfl (ji_1 _) (by decide) rfl ?_
      refine h_goto (pc := 36) (tgt := 9) C dX3_deleteNode_36 (by decide) ?_
      refine h_sub [1, 2, 3, 0] rfl ?_
      exact ih v4 widths x1 x3 (x4 + 1) hf
set_option maxRecDepth 100000 in
set_option maxHeartbeats 4000000 in
theorem c_X3_deleteNode (l : Launch) (D : va_G) (cT : Nat → ClassId) (ad : Nat → Nat) (n : Nat) (loads : Nat → Int32) (widths : Nat → Int32) (height : Int32) (a1 : Int32) (a2 : Int32) (loads' : Nat → Int32) (widths' : Nat → Int32) (hf : f_X3_deleteNode n loads widths height a1 a2 = some (loads', widths')) : cM l yX3_deleteNode wsX3_deleteNode rmX3_deleteNode D (ty4 cT) [.ref (ad 6), .int a1, .int a2] (wT cT ad loads widths height) none (wT cT ad loads' widths' height) := by
  refine cM_of (cc := cX3_deleteNode) (maxL := 5) (ret := none) (own := RX3) (lv := [(0, .ref (ad 6)), (1, .int a1), (2, .int a2)]) (by decide) rfl (Nat.le_of_ble_eq_true rfl) rfl rfl ?_
  intro p e s m args below meth c A C hr
  unfold f_X3_deleteNode at hf
  refine h_aload_n (pc := 0) C dX3_deleteNode_0 rfl 0 rfl ?_
  refine h_iload_n (pc := 1) C dX3_deleteNode_1 rfl 1 rfl ?_
  obtain ⟨v1, hc, hf⟩ := jbd_s hf
  refine h_callV (pc := 2) (q0 := 0) (As := [.int a1]) (rest := []) (ws' := (wT cT ad loads widths height)) (st2 := .int v1 :: []) C (c_X3_width l D cT ad n loads widths height a1 v1 hc) (cwV 1 C.1.2.2.2.2 gX3_deleteNode_X3_width rfl rfl rfl pv_X3_width ⟨(Nat.le_of_ble_eq_true rfl), (Nat.le_of_ble_eq_true rfl)⟩) dX3_deleteNode_2 rfl rfl rfl rfl rfl (Nat.le_of_ble_eq_true rfl) ⟨rfl, rfl⟩ ⟨(Nat.le_of_ble_eq_true rfl), (Nat.le_of_ble_eq_true rfl)⟩ [0, 1, 2] [] [0, 1, 2] rfl rfl rfl rfl (by decide) rfl rfl rfl ?_
  clear hc
  refine h_istore_n (pc := 5) (lv' := [(3, .int v1), (0, .ref (ad 6)), (1, .int a1), (2, .int a2)]) C dX3_deleteNode_5 rfl (by decide) rfl ?_
  refine h_iload_n (pc := 6) C dX3_deleteNode_6 rfl 3 rfl ?_
  refine h_istore (pc := 7) (lv' := [(4, .int a2), (3, .int v1), (0, .ref (ad 6)), (1, .int a1), (2, .int a2)]) C dX3_deleteNode_7 (by decide) rfl ?_
  refine h_sub [2, 3, 1, 0] rfl ?_
  exact k_X3_deleteNode_9 l D cT ad C hr n height loads' widths' n loads widths a1 v1 a2 hf
theorem pv_X3_deleteNode : yX3_deleteNode.cls = RX3 ∧ yX3_deleteNode.cls ≠ "java/lang/invoke/MethodHandle" ∧ yX3_deleteNode.cls ≠ "java/lang/invoke/VarHandle" ∧ (parseMethodDescriptor yX3_deleteNode.desc).map (fun d => d.parameters.length) = some 2 := by decide +kernel
abbrev rmX3_unite : Room := { frames := 4, cells := 0, slots := 0, locals := 94 }
set_option maxRecDepth 100000 in
set_option maxHeartbeats 4000000 in
theorem c_X3_unite (l : Launch) (D : va_G) (cT : Nat → ClassId) (ad : Nat → Nat) (n : Nat) (loads : Nat → Int32) (widths : Nat → Int32) (height : Int32) (a1 : Int32) (a2 : Int32) (a3 : Int32) (r : Int32) (loads' : Nat → Int32) (widths' : Nat → Int32) (hf : f_X3_unite n loads widths height a1 a2 a3 = some (r, loads', widths')) : cM l yX3_unite wsX3_unite rmX3_unite D (ty4 cT) [.ref (ad 6), .int a1, .int a2, .int a3] (wT cT ad loads widths height) (some (.int r)) (wT cT ad loads' widths' height) := by
  refine cM_of (cc := cX3_unite) (maxL := 7) (ret := (some .boolean)) (own := RX3) (lv := [(0, .ref (ad 6)), (1, .int a1), (2, .int a2), (3, .int a3)]) (by decide) rfl (Nat.le_of_ble_eq_true rfl) rfl rfl ?_
  intro p e s m args below meth c A C hr
  unfold f_X3_unite at hf
  refine h_aload_n (pc := 0) C dX3_unite_0 rfl 0 rfl ?_
  refine h_iload_n (pc := 1) C dX3_unite_1 rfl 1 rfl ?_
  refine h_iload_n (pc := 2) C dX3_unite_2 rfl 2 rfl ?_
  refine h_iload_n (pc := 3) C dX3_unite_3 rfl 3 rfl ?_
  obtain ⟨v1, hc, hf⟩ := jbd_s hf
  refine h_callV (pc := 4) (q0 := 0) (As := [.int a1, .int a2, .int a3]) (rest := []) (ws' := (wT cT ad loads widths height)) (st2 := .int v1 :: []) C (c_X3_partner l D cT ad n loads widths height a1 a2 a3 v1 hc) (cwV 3 C.1.2.2.2.2 gX3_unite_X3_partner rfl rfl rfl pv_X3_partner ⟨(Nat.le_of_ble_eq_true rfl), (Nat.le_of_ble_eq_true rfl)⟩) dX3_unite_4 rfl rfl rfl rfl rfl (Nat.le_of_ble_eq_true rfl) ⟨rfl, rfl⟩ ⟨(Nat.le_of_ble_eq_true rfl), (Nat.le_of_ble_eq_true rfl)⟩ [0, 1, 2] [] [0, 1, 2] rfl rfl rfl rfl (by decide) rfl rfl rfl ?_
  clear hc
  refine h_istore (pc := 7) (lv' := [(4, .int v1), (0, .ref (ad 6)), (1, .int a1), (2, .int a2), (3, .int a3)]) C dX3_unite_7 (by decide) rfl ?_
  refine h_iload (pc := 9) C dX3_unite_9 0 rfl ?_
  refine h_if_ge (pc := 11) (tgt := 33) C dX3_unite_11 (by decide) (fun q => ?_) (fun q => ?_)
  · replace hf := jif_t q hf
    clear q
    refine h_iload_n (pc := 33) C dX3_unite_33 rfl 3 rfl ?_
    refine h_iload (pc := 34) C dX3_unite_34 0 rfl ?_
    refine h_mmin (pc := 36) C (List.mem_of_getElem? (i := 1) rfl) (List.mem_of_getElem? (i := 2) rfl) (List.mem_of_getElem? (i := 3) rfl) (List.mem_of_getElem? (i := 4) rfl) ⟨Nat.le_of_ble_eq_true rfl, Nat.le_of_ble_eq_true rfl, Nat.le_of_ble_eq_true rfl, Nat.le_of_ble_eq_true rfl⟩ dX3_unite_36 ?_
    refine h_istore (pc := 39) (lv' := [(5, .int (jmin a2 v1)), (4, .int v1), (0, .ref (ad 6)), (1, .int a1), (2, .int a2), (3, .int a3)]) C dX3_unite_39 (by decide) rfl ?_
    refine h_aload_n (pc := 41) C dX3_unite_41 rfl 2 rfl ?_
    refine h_iload_n (pc := 42) C dX3_unite_42 rfl 3 rfl ?_
    refine h_iload (pc := 43) C dX3_unite_43 0 rfl ?_
    obtain ⟨v2, hc, hf⟩ := jbd_s hf
    refine h_callV (pc := 45) (q0 := 0) (As := [.int a1, .int (jmin a2 v1)]) (rest := []) (ws' := (wT cT ad loads widths height)) (st2 := .int v2 :: []) C (c_X3_load l D cT ad n loads widths height a1 (jmin a2 v1) v2 hc) (cwV 2 C.1.2.2.2.2 gX3_unite_X3_load rfl rfl rfl pv_X3_load ⟨(Nat.le_of_ble_eq_true rfl), (Nat.le_of_ble_eq_true rfl)⟩) dX3_unite_45 rfl rfl rfl rfl rfl (Nat.le_of_ble_eq_true rfl) ⟨rfl, rfl⟩ ⟨(Nat.le_of_ble_eq_true rfl), (Nat.le_of_ble_eq_true rfl)⟩ [0, 1, 2] [] [0, 1, 2] rfl rfl rfl rfl (by decide) rfl rfl rfl ?_
    clear hc
    refine h_aload_n (pc := 48) C dX3_unite_48 rfl 2 rfl ?_
    refine h_iload_n (pc := 49) C dX3_unite_49 rfl 3 rfl ?_
    refine h_iload (pc := 50) C dX3_unite_50 0 rfl ?_
    refine h_iconst (pc := 52) C dX3_unite_52 jc_1 ?_
    refine h_iadd (pc := 53) C dX3_unite_53 ?_
    obtain ⟨v3, hc, hf⟩ := jbd_s hf
    refine h_callV (pc := 54) (q0 := 0) (As := [.int a1, .int ((jmin a2 v1) + 1)]) (rest := .int v2 :: []) (ws' := (wT cT ad loads widths height)) (st2 := .int v3 :: .int v2 :: []) C (c_X3_load l D cT ad n loads widths height a1 ((jmin a2 v1) + 1) v3 hc) (cwV 2 C.1.2.2.2.2 gX3_unite_X3_load rfl rfl rfl pv_X3_load ⟨(Nat.le_of_ble_eq_true rfl), (Nat.le_of_ble_eq_true rfl)⟩) dX3_unite_54 rfl rfl rfl rfl rfl (Nat.le_of_ble_eq_true rfl) ⟨rfl, rfl⟩ ⟨(Nat.le_of_ble_eq_true rfl), (Nat.le_of_ble_eq_true rfl)⟩ [0, 1, 2] [] [0, 1, 2] rfl rfl rfl rfl (by decide) rfl rfl rfl ?_
    clear hc
    refine h_iadd (pc := 57) C dX3_unite_57 ?_
    refine h_istore (pc := 58) (lv' := [(6, .int (v2 + v3)), (5, .int (jmin a2 v1)), (4, .int v1), (0, .ref (ad 6)), (1, .int a1), (2, .int a2), (3, .int a3)]) C dX3_unite_58 (by decide) rfl ?_
    refine h_iload (pc := 60) C dX3_unite_60 0 rfl ?_
    refine h_iconst (pc := 62) C dX3_unite_62 jc_4 ?_
    refine h_icmp_le (pc := 63) (tgt := 75) C dX3_unite_63 (by decide) (fun q => ?_) (fun q => ?_)
    · replace hf := jif_t q hf
      clear q
      refine h_aload_n (pc := 75) C dX3_unite_75 rfl 3 rfl ?_
      refine h_iload_n (pc := 76) C dX3_unite_76 rfl 4 rfl ?_
      refine h_iload (pc := 77) C dX3_unite_77 1 rfl ?_
      refine h_iload (pc := 79) C dX3_unite_79 0 rfl ?_
      obtain ⟨v4, hc, hf⟩ := jbd_s hf
      refine h_callV (pc := 81) (q0 := 0) (As := [.int a1, .int (jmin a2 v1), .int (v2 + v3)]) (rest := []) (ws' := (wT cT ad v4 widths height)) (st2 := []) C (c_X3_setLoad l D cT ad n loads widths height a1 (jmin a2 v1) (v2 + v3) v4 hc) (cwV 3 C.1.2.2.2.2 gX3_unite_X3_setLoad rfl rfl rfl pv_X3_setLoad ⟨(Nat.le_of_ble_eq_true rfl), (Nat.le_of_ble_eq_true rfl)⟩) dX3_unite_81 rfl rfl rfl rfl rfl (Nat.le_of_ble_eq_true rfl) ⟨rfl, rfl⟩ ⟨(Nat.le_of_ble_eq_true rfl), (Nat.le_of_ble_eq_true rfl)⟩ [0, 1, 2] [] [0, 1, 2] rfl rfl rfl rfl (by decide) rfl rfl rfl ?_
      clear hc
      refine h_aload_n (pc := 84) C dX3_unite_84 rfl 3 rfl ?_
      refine h_iload_n (pc := 85) C dX3_unite_85 rfl 4 rfl ?_
      refine h_iload (pc := 86) C dX3_unite_86 1 rfl ?_
      refine h_iconst (pc := 88) C dX3_unite_88 jc_1 ?_
      refine h_iadd (pc := 89) C dX3_unite_89 ?_
      obtain ⟨v5, hc, hf⟩ := jbd_s hf
      refine h_callV (pc := 90) (q0 := 0) (As := [.int a1, .int ((jmin a2 v1) + 1)]) (rest := []) (ws' := (wT cT ad v5.1 v5.2 height)) (st2 := []) C (c_X3_deleteNode l D cT ad n v4 widths height a1 ((jmin a2 v1) + 1) v5.1 v5.2 hc) (cwV 2 C.1.2.2.2.2 gX3_unite_X3_deleteNode rfl rfl rfl pv_X3_deleteNode ⟨(Nat.le_of_ble_eq_true rfl), (Nat.le_of_ble_eq_true rfl)⟩) dX3_unite_90 rfl rfl rfl rfl rfl (Nat.le_of_ble_eq_true rfl) ⟨rfl, rfl⟩ ⟨(Nat.le_of_ble_eq_true rfl), (Nat.le_of_ble_eq_true rfl)⟩ [0, 1, 2] [] [0, 1, 2] rfl rfl rfl rfl (by decide) rfl rfl rfl ?_
      clear hc
      refine h_iconst (pc := 93) C dX3_unite_93 jc_1 ?_
      have g0 := (Prod.mk.inj (Option.some.inj hf)).1
      have g1 := (Prod.mk.inj (Prod.mk.inj (Option.some.inj hf)).2).1
      have g2 := (Prod.mk.inj (Prod.mk.inj (Option.some.inj hf)).2).2
      clear hf
      subst g0
      subst g1
      subst g2
      exact h_zret C hr rfl dX3_unite_94
    · replace hf := jif_f q hf
      clear q
      refine h_aload_n (pc := 66) C dX3_unite_66 rfl 3 rfl ?_
      refine h_iload_n (pc := 67) C dX3_unite_67 rfl 4 rfl ?_
      refine h_iload (pc := 68) C dX3_unite_68 1 rfl ?_
      obtain ⟨v6, hc, hf⟩ := jbd_s hf
      refine h_callV (pc := 70) (q0 := 0) (As := [.int a1, .int (jmin a2 v1)]) (rest := []) (ws' := (wT cT ad v6 widths height)) (st2 := []) C (c_X3_halve l D cT ad n loads widths height a1 (jmin a2 v1) v6 hc) (cwV 2 C.1.2.2.2.2 gX3_unite_X3_halve rfl rfl rfl pv_X3_halve ⟨(Nat.le_of_ble_eq_true rfl), (Nat.le_of_ble_eq_true rfl)⟩) dX3_unite_70 rfl rfl rfl rfl rfl (Nat.le_of_ble_eq_true rfl) ⟨rfl, rfl⟩ ⟨(Nat.le_of_ble_eq_true rfl), (Nat.le_of_ble_eq_true rfl)⟩ [0, 1, 2] [] [0, 1, 2] rfl rfl rfl rfl (by decide) rfl rfl rfl ?_
      clear hc
      refine h_iconst (pc := 73) C dX3_unite_73 jc_0 ?_
      have g0 := (Prod.mk.inj (Option.some.inj hf)).1
      have g1 := (Prod.mk.inj (Prod.mk.inj (Option.some.inj hf)).2).1
      have g2 := (Prod.mk.inj (Prod.mk.inj (Option.some.inj hf)).2).2
      clear hf
      subst g0
      subst g1
      subst g2
      exact h_zret C hr rfl dX3_unite_74
  · replace hf := jif_f q hf
    clear q
    refine h_aload_n (pc := 14) C dX3_unite_14 rfl 1 rfl ?_
    refine h_iload_n (pc := 15) C dX3_unite_15 rfl 2 rfl ?_
    refine h_iload_n (pc := 16) C dX3_unite_16 rfl 3 rfl ?_
    obtain ⟨v7, hc, hf⟩ := jbd_s hf
    refine h_callV (pc := 17) (q0 := 0) (As := [.int a1, .int a2]) (rest := []) (ws' := (wT cT ad loads widths height)) (st2 := .int v7 :: []) C (c_X3_load l D cT ad n loads widths height a1 a2 v7 hc) (cwV 2 C.1.2.2.2.2 gX3_unite_X3_load rfl rfl rfl pv_X3_load ⟨(Nat.le_of_ble_eq_true rfl), (Nat.le_of_ble_eq_true rfl)⟩) dX3_unite_17 rfl rfl rfl rfl rfl (Nat.le_of_ble_eq_true rfl) ⟨rfl, rfl⟩ ⟨(Nat.le_of_ble_eq_true rfl), (Nat.le_of_ble_eq_true rfl)⟩ [0, 1, 2] [] [0, 1, 2] rfl rfl rfl rfl (by decide) rfl rfl rfl ?_
    clear hc
    refine h_if_le (pc := 20) (tgt := 25) C dX3_unite_20 (by decide) (fun q => ?_) (fun q => ?_)
    · replace hf := jif_t q hf
      clear q
      refine h_aload_n (pc := 25) C dX3_unite_25 rfl 1 rfl ?_
      refine h_iload_n (pc := 26) C dX3_unite_26 rfl 2 rfl ?_
      refine h_iload_n (pc := 27) C dX3_unite_27 rfl 3 rfl ?_
      obtain ⟨v8, hc, hf⟩ := jbd_s hf
      refine h_callV (pc := 28) (q0 := 0) (As := [.int a1, .int a2]) (rest := []) (ws' := (wT cT ad v8.1 v8.2 height)) (st2 := []) C (c_X3_deleteNode l D cT ad n loads widths height a1 a2 v8.1 v8.2 hc) (cwV 2 C.1.2.2.2.2 gX3_unite_X3_deleteNode rfl rfl rfl pv_X3_deleteNode ⟨(Nat.le_of_ble_eq_true rfl), (Nat.le_of_ble_eq_true rfl)⟩) dX3_unite_28 rfl rfl rfl rfl rfl (Nat.le_of_ble_eq_true rfl) ⟨rfl, rfl⟩ ⟨(Nat.le_of_ble_eq_true rfl), (Nat.le_of_ble_eq_true rfl)⟩ [0, 1, 2] [] [0, 1, 2] rfl rfl rfl rfl (by decide) rfl rfl rfl ?_
      clear hc
      refine h_iconst (pc := 31) C dX3_unite_31 jc_1 ?_
      have g0 := (Prod.mk.inj (Option.some.inj hf)).1
      have g1 := (Prod.mk.inj (Prod.mk.inj (Option.some.inj hf)).2).1
      have g2 := (Prod.mk.inj (Prod.mk.inj (Option.some.inj hf)).2).2
      clear hf
      subst g0
      subst g1
      subst g2
      exact h_zret C hr rfl dX3_unite_32
    · replace hf := jif_f q hf
      clear q
      refine h_iconst (pc := 23) C dX3_unite_23 jc_0 ?_
      have g0 := (Prod.mk.inj (Option.some.inj hf)).1
      have g1 := (Prod.mk.inj (Prod.mk.inj (Option.some.inj hf)).2).1
      have g2 := (Prod.mk.inj (Prod.mk.inj (Option.some.inj hf)).2).2
      clear hf
      subst g0
      subst g1
      subst g2
      exact h_zret C hr rfl dX3_unite_24
theorem pv_X3_unite : yX3_unite.cls = RX3 ∧ yX3_unite.cls ≠ "java/lang/invoke/MethodHandle" ∧ yX3_unite.cls ≠ "java/lang/invoke/VarHandle" ∧ (parseMethodDescriptor yX3_unite.desc).map (fun d => d.parameters.length) = some 3 := by decide +kernel
abbrev rmX3_lowerRoot : Room := { frames := 2, cells := 0, slots := 0, locals := 45 }
theorem uX3_lowerRoot_X3 : ∀ w ∈ u_ws RX3 TX3 3, w ∈ wsX3_lowerRoot := fun w h => List.mem_cons_of_mem _ (List.mem_append_right _ h)
set_option maxRecDepth 100000 in
set_option maxHeartbeats 4000000 in
theorem k_X3_lowerRoot_32 {p : Program} {e : Env} {s : State} {m : MethodId} {args : Array Value} {below : List Frame} {meth : Method} {c : Code} {A : Nat → Prop} (l : Launch) (D : va_G) (cT : Nat → ClassId) (ad : Nat → Nat) (C : hC p s m args meth c cX3_lowerRoot 2 wsX3_lowerRoot RX3 D (ty4 cT) A) (hr : meth.sig.returnType = none) (n : Nat) (loads : Nat → Int32) (widths : Nat → Int32) (height' : Int32)  : ∀ (height : Int32) , f_X3_lowerRoot_32 n loads widths height = some height' → hS p l e rmX3_lowerRoot s m args below meth c 2 D A 0 0 (MQ below (cQ D (ty4 cT) A none (wT cT ad loads widths height')) args s 0 0 A) 32 [(0, .ref (ad 6))] [] (wT cT ad loads widths height) := by
  intro height hf
  unfold f_X3_lowerRoot_32 at hf
  refine h_aload_n (pc := 32) C dX3_lowerRoot_32 rfl 0 rfl ?_
  refine h_aload_n (pc := 33) C dX3_lowerRoot_33 rfl 0 rfl ?_
  refine h_get (pc := 34) (ci := 1) (C0 := RX3) (T := TX3) (N := 3) C uX3_lowerRoot_X3 rfl 0 rfl 2 (by decide) (List.mem_of_getElem? (i := 1) rfl) rfl rfl dX3_lowerRoot_34 ?_
  refine h_iconst (pc := 37) C dX3_lowerRoot_37 jc_1 ?_
  refine h_isub (pc := 38) C dX3_lowerRoot_38 ?_
  refine h_iconst (pc := 39) C dX3_lowerRoot_39 jc_0 ?_
  obtain ⟨v2, hc, hf⟩ := jbd_s hf
  refine h_callV (pc := 40) (q0 := 0) (As := [.int (height - 1), .int 0]) (rest := []) (ws' := (wT cT ad loads widths height)) (st2 := .int v2 :: []) C (c_X3_load l D cT ad n loads widths height (height - 1) 0 v2 hc) (cwV 2 C.1.2.2.2.2 gX3_lowerRoot_X3_load rfl rfl rfl pv_X3_load ⟨(Nat.le_of_ble_eq_true rfl), (Nat.le_of_ble_eq_true rfl)⟩) dX3_lowerRoot_40 rfl rfl rfl rfl rfl (Nat.le_of_ble_eq_true rfl) ⟨rfl, rfl⟩ ⟨(Nat.le_of_ble_eq_true rfl), (Nat.le_of_ble_eq_true rfl)⟩ [0, 1, 2] [] [0, 1, 2] rfl rfl rfl rfl (by decide) rfl rfl rfl ?_
  clear hc
  refine h_if_ne (pc := 43) (tgt := 51) C dX3_lowerRoot_43 (by decide) (fun q => ?_) (fun q => ?_)
  · replace hf := jif_f q hf
    clear q
    have g0 := (Option.some.inj hf)
    clear hf
    subst g0
    exact h_vret C hr dX3_lowerRoot_51
  · replace hf := jif_t q hf
    clear q
    refine h_aload_n (pc := 46) C dX3_lowerRoot_46 rfl 0 rfl ?_
    refine h_iconst (pc := 47) C dX3_lowerRoot_47 jc_0 ?_
    refine h_put (pc := 48) (ci := 1) (C0 := RX3) (T := TX3) (N := 3) (ws' := (wT cT ad loads widths 0)) C uX3_lowerRoot_X3 tyX3 tyX3_ok nmX3 rfl 0 rfl 2 (by decide) (List.mem_of_getElem? (i := 1) rfl) rfl rfl rfl (Nat.le_of_ble_eq_true rfl) rfl dX3_lowerRoot_48 ?_
    have g0 := (Option.some.inj hf)
    clear hf
    subst g0
    exact h_vret C hr dX3_lowerRoot_51
set_option maxRecDepth 100000 in
set_option maxHeartbeats 4000000 in
theorem k_X3_lowerRoot_7 {p : Program} {e : Env} {s : State} {m : MethodId} {args : Array Value} {below : List Frame} {meth : Method} {c : Code} {A : Nat → Prop} (l : Launch) (D : va_G) (cT : Nat → ClassId) (ad : Nat → Nat) (C : hC p s m args meth c cX3_lowerRoot 2 wsX3_lowerRoot RX3 D (ty4 cT) A) (hr : meth.sig.returnType = none) (n : Nat) (loads : Nat → Int32) (widths : Nat → Int32) (height' : Int32)  : ∀ (fu : Nat) (height : Int32) (x1 : Int32), f_X3_lowerRoot_7 n loads widths fu height x1 = some height' → hS p l e rmX3_lowerRoot s m args below meth c 2 D A 0 0 (MQ below (cQ D (ty4 cT) A none (wT cT ad loads widths height')) args s 0 0 A) 7 [(0, .ref (ad 6)), (1, .int x1)] [] (wT cT ad loads widths height) := by
  intro fu
  induction fu with
  | zero =>
    intro height x1 hf
    exact nomatch (show (none : Option (Int32)) = some height' from hf)
  | succ fu ih =>
    intro height x1 hf
    rw [f_X3_lowerRoot_7] at hf
    refine h_iload_n (pc := 7) C dX3_lowerRoot_7 rfl 1 rfl ?_
    refine h_if_le (pc := 8) (tgt := 32) C dX3_lowerRoot_8 (by decide) (fun q => ?_) (fun q => ?_)
    · replace hf := jif_t q hf
      clear q
      refine h_sub [0] rfl ?_
      exact k_X3_lowerRoot_32 l D cT ad C hr n loads widths height' height hf
    · replace hf := jif_f q hf
      clear q
      refine h_aload_n (pc := 11) C dX3_lowerRoot_11 rfl 0 rfl ?_
      refine h_iload_n (pc := 12) C dX3_lowerRoot_12 rfl 1 rfl ?_
      refine h_iconst (pc := 13) C dX3_lowerRoot_13 jc_0 ?_
      obtain ⟨v1, hc, hf⟩ := jbd_s hf
      refine h_callV (pc := 14) (q0 := 0) (As := [.int x1, .int 0]) (rest := []) (ws' := (wT cT ad loads widths height)) (st2 := .int v1 :: []) C (c_X3_load l D cT ad n loads widths height x1 0 v1 hc) (cwV 2 C.1.2.2.2.2 gX3_lowerRoot_X3_load rfl rfl rfl pv_X3_load ⟨(Nat.le_of_ble_eq_true rfl), (Nat.le_of_ble_eq_true rfl)⟩) dX3_lowerRoot_14 rfl rfl rfl rfl rfl (Nat.le_of_ble_eq_true rfl) ⟨rfl, rfl⟩ ⟨(Nat.le_of_ble_eq_true rfl), (Nat.le_of_ble_eq_true rfl)⟩ [0, 1, 2] [] [0, 1, 2] rfl rfl rfl rfl (by decide) rfl rfl rfl ?_
      clear hc
      refine h_iconst (pc := 17) C dX3_lowerRoot_17 jc_1 ?_
      refine h_icmp_ne (pc := 18) (tgt := 32) C dX3_lowerRoot_18 (by decide) (fun q => ?_) (fun q => ?_)
      · replace hf := jif_f q hf
        clear q
        refine h_sub [0] rfl ?_
        exact k_X3_lowerRoot_32 l D cT ad C hr n loads widths height' height hf
      · replace hf := jif_t q hf
        clear q
        refine h_aload_n (pc := 21) C dX3_lowerRoot_21 rfl 0 rfl ?_
        refine h_iload_n (pc := 22) C dX3_lowerRoot_22 rfl 1 rfl ?_
        refine h_put (pc := 23) (ci := 1) (C0 := RX3) (T := TX3) (N := 3) (ws' := (wT cT ad loads widths x1)) C uX3_lowerRoot_X3 tyX3 tyX3_ok nmX3 rfl 0 rfl 2 (by decide) (List.mem_of_getElem? (i := 1) rfl) rfl rfl rfl (Nat.le_of_ble_eq_true rfl) rfl dX3_lowerRoot_23 ?_
        refine h_iinc (pc := 26) (v := x1 + jm1) (lv' := [(1, .int (x1 + jm1)), (0, .ref (ad 6))]) C dX3_lowerRoot_26 1 rfl (ji_m1 _) (by decide) rfl ?_
        refine h_goto (pc := 29) (tgt := 7) C dX3_lowerRoot_29 (by decide) ?_
        refine h_sub [1, 0] rfl ?_
        exact ih x1 (x1 + jm1) hf
set_option maxRecDepth 100000 in
set_option maxHeartbeats 4000000 in
theorem c_X3_lowerRoot (l : Launch) (D : va_G) (cT : Nat → ClassId) (ad : Nat → Nat) (n : Nat) (loads : Nat → Int32) (widths : Nat → Int32) (height : Int32)  (height' : Int32) (hf : f_X3_lowerRoot n loads widths height = some height') : cM l yX3_lowerRoot wsX3_lowerRoot rmX3_lowerRoot D (ty4 cT) [.ref (ad 6)] (wT cT ad loads widths height) none (wT cT ad loads widths height') := by
  refine cM_of (cc := cX3_lowerRoot) (maxL := 2) (ret := none) (own := RX3) (lv := [(0, .ref (ad 6))]) (by decide) rfl (Nat.le_of_ble_eq_true rfl) rfl rfl ?_
  intro p e s m args below meth c A C hr
  unfold f_X3_lowerRoot at hf
  refine h_aload_n (pc := 0) C dX3_lowerRoot_0 rfl 0 rfl ?_
  refine h_get (pc := 1) (ci := 1) (C0 := RX3) (T := TX3) (N := 3) C uX3_lowerRoot_X3 rfl 0 rfl 2 (by decide) (List.mem_of_getElem? (i := 1) rfl) rfl rfl dX3_lowerRoot_1 ?_
  refine h_iconst (pc := 4) C dX3_lowerRoot_4 jc_1 ?_
  refine h_isub (pc := 5) C dX3_lowerRoot_5 ?_
  refine h_istore_n (pc := 6) (lv' := [(1, .int (height - 1)), (0, .ref (ad 6))]) C dX3_lowerRoot_6 rfl (by decide) rfl ?_
  refine h_sub [1, 0] rfl ?_
  exact k_X3_lowerRoot_7 l D cT ad C hr n loads widths height' n height (height - 1) hf
theorem pv_X3_lowerRoot : yX3_lowerRoot.cls = RX3 ∧ yX3_lowerRoot.cls ≠ "java/lang/invoke/MethodHandle" ∧ yX3_lowerRoot.cls ≠ "java/lang/invoke/VarHandle" ∧ (parseMethodDescriptor yX3_lowerRoot.desc).map (fun d => d.parameters.length) = some 0 := by decide +kernel
abbrev rmX3_shrink : Room := { frames := 5, cells := 0, slots := 0, locals := 120 }
theorem uX3_shrink_X3 : ∀ w ∈ u_ws RX3 TX3 3, w ∈ wsX3_shrink := fun w h => List.mem_cons_of_mem _ (List.mem_append_right _ h)
set_option maxRecDepth 100000 in
set_option maxHeartbeats 4000000 in
theorem k_X3_shrink_106 {p : Program} {e : Env} {s : State} {m : MethodId} {args : Array Value} {below : List Frame} {meth : Method} {c : Code} {A : Nat → Prop} (l : Launch) (D : va_G) (cT : Nat → ClassId) (ad : Nat → Nat) (C : hC p s m args meth c cX3_shrink 6 wsX3_shrink RX3 D (ty4 cT) A) (hr : meth.sig.returnType = none) (n : Nat)  (loads' : Nat → Int32) (widths' : Nat → Int32) (height' : Int32)  : ∀ (loads : Nat → Int32) (widths : Nat → Int32) (height : Int32) , f_X3_shrink_106 n loads widths height = some (loads', widths', height') → hS p l e rmX3_shrink s m args below meth c 6 D A 0 0 (MQ below (cQ D (ty4 cT) A none (wT cT ad loads' widths' height')) args s 0 0 A) 106 [(0, .ref (ad 6))] [] (wT cT ad loads widths height) := by
  intro loads widths height hf
  unfold f_X3_shrink_106 at hf
  refine h_aload_n (pc := 106) C dX3_shrink_106 rfl 0 rfl ?_
  obtain ⟨v9, hc, hf⟩ := jbd_s hf
  refine h_callV (pc := 107) (q0 := 0) (As := []) (rest := []) (ws' := (wT cT ad loads widths v9)) (st2 := []) C (c_X3_lowerRoot l D cT ad n loads widths height v9 hc) (cwV 0 C.1.2.2.2.2 gX3_shrink_X3_lowerRoot rfl rfl rfl pv_X3_lowerRoot ⟨(Nat.le_of_ble_eq_true rfl), (Nat.le_of_ble_eq_true rfl)⟩) dX3_shrink_107 rfl rfl rfl rfl rfl (Nat.le_of_ble_eq_true rfl) ⟨rfl, rfl⟩ ⟨(Nat.le_of_ble_eq_true rfl), (Nat.le_of_ble_eq_true rfl)⟩ [0, 1, 2] [] [0, 1, 2] rfl rfl rfl rfl (by decide) rfl rfl rfl ?_
  clear hc
  have g0 := (Prod.mk.inj (Option.some.inj hf)).1
  have g1 := (Prod.mk.inj (Prod.mk.inj (Option.some.inj hf)).2).1
  have g2 := (Prod.mk.inj (Prod.mk.inj (Option.some.inj hf)).2).2
  clear hf
  subst g0
  subst g1
  subst g2
  exact h_vret C hr dX3_shrink_110
set_option maxRecDepth 100000 in
set_option maxHeartbeats 4000000 in
theorem k_X3_shrink_97 {p : Program} {e : Env} {s : State} {m : MethodId} {args : Array Value} {below : List Frame} {meth : Method} {c : Code} {A : Nat → Prop} (l : Launch) (D : va_G) (cT : Nat → ClassId) (ad : Nat → Nat) (C : hC p s m args meth c cX3_shrink 6 wsX3_shrink RX3 D (ty4 cT) A) (hr : meth.sig.returnType = none) (n : Nat)  (loads' : Nat → Int32) (widths' : Nat → Int32) (height' : Int32) (k26 : (Nat → Int32) → (Nat → Int32) → Int32 → Int32 → Int32 → Int32 → Option ((Nat → Int32) × (Nat → Int32) × Int32)) (K26 : ∀ (loads : Nat → Int32) (widths : Nat → Int32) (height : Int32) (x2 : Int32) (x3 : Int32) (x4 : Int32), k26 loads widths height x2 x3 x4 = some (loads', widths', height') → hS p l e rmX3_shrink s m args below meth c 6 D A 0 0 (MQ below (cQ D (ty4 cT) A none (wT cT ad loads' widths' height')) args s 0 0 A) 26 [(0, .ref (ad 6)), (2, .int x2), (3, .int x3), (4, .int x4)] [] (wT cT ad loads widths height)) : ∀ (loads : Nat → Int32) (widths : Nat → Int32) (height : Int32) (x3 : Int32) (x4 : Int32) (x5 : Int32), f_X3_shrink_97 n k26 loads widths height x3 x4 x5 = some (loads', widths', height') → hS p l e rmX3_shrink s m args below meth c 6 D A 0 0 (MQ below (cQ D (ty4 cT) A none (wT cT ad loads' widths' height')) args s 0 0 A) 97 [(0, .ref (ad 6)), (3, .int x3), (4, .int x4), (5, .int x5)] [] (wT cT ad loads widths height) := by
  intro loads widths height x3 x4 x5 hf
  unfold f_X3_shrink_97 at hf
  refine h_iload (pc := 97) C dX3_shrink_97 3 rfl ?_
  refine h_istore_n (pc := 99) (lv' := [(2, .int x5), (0, .ref (ad 6)), (3, .int x3), (4, .int x4), (5, .int x5)]) C dX3_shrink_99 rfl (by decide) rfl ?_
  refine h_iinc (pc := 100) (v := x4 + 1) (lv' := [(4, .int (x4 + 1)), (2, .int x5), (0, .ref (ad 6)), (3, .int x3), (5, .int x5)]) C dX3_shrink_100 3 rfl (ji_1 _) (by decide) rfl ?_
  refine h_goto (pc := 103) (tgt := 26) C dX3_shrink_103 (by decide) ?_
  refine h_sub [2, 1, 3, 0] rfl ?_
  exact K26 loads widths height x5 x3 (x4 + 1) hf
set_option maxRecDepth 100000 in
set_option maxHeartbeats 4000000 in
theorem k_X3_shrink_26 {p : Program} {e : Env} {s : State} {m : MethodId} {args : Array Value} {below : List Frame} {meth : Method} {c : Code} {A : Nat → Prop} (l : Launch) (D : va_G) (cT : Nat → ClassId) (ad : Nat → Nat) (C : hC p s m args meth c cX3_shrink 6 wsX3_shrink RX3 D (ty4 cT) A) (hr : meth.sig.returnType = none) (n : Nat)  (loads' : Nat → Int32) (widths' : Nat → Int32) (height' : Int32)  : ∀ (fu : Nat) (loads : Nat → Int32) (widths : Nat → Int32) (height : Int32) (x2 : Int32) (x3 : Int32) (x4 : Int32), f_X3_shrink_26 n fu loads widths height x2 x3 x4 = some (loads', widths', height') → hS p l e rmX3_shrink s m args below meth c 6 D A 0 0 (MQ below (cQ D (ty4 cT) A none (wT cT ad loads' widths' height')) args s 0 0 A) 26 [(0, .ref (ad 6)), (2, .int x2), (3, .int x3), (4, .int x4)] [] (wT cT ad loads widths height) := by
  intro fu
  induction fu with
  | zero =>
    intro loads widths height x2 x3 x4 hf
    exact nomatch (show (none : Option ((Nat → Int32) × (Nat → Int32) × Int32)) = some (loads', widths', height') from hf)
  | succ fu ih =>
    intro loads widths height x2 x3 x4 hf
    rw [f_X3_shrink_26] at hf
    refine h_iload_n (pc := 26) C dX3_shrink_26 rfl 2 rfl ?_
    refine h_if_eq (pc := 27) (tgt := 106) C dX3_shrink_27 (by decide) (fun q => ?_) (fun q => ?_)
    · replace hf := jif_t q hf
      clear q
      refine h_sub [0] rfl ?_
      exact k_X3_shrink_106 l D cT ad C hr n loads' widths' height' loads widths height hf
    · replace hf := jif_f q hf
      clear q
      refine h_iload (pc := 30) C dX3_shrink_30 3 rfl ?_
      refine h_aload_n (pc := 32) C dX3_shrink_32 rfl 0 rfl ?_
      refine h_get (pc := 33) (ci := 1) (C0 := RX3) (T := TX3) (N := 3) C uX3_shrink_X3 rfl 0 rfl 2 (by decide) (List.mem_of_getElem? (i := 1) rfl) rfl rfl dX3_shrink_33 ?_
      refine h_iconst (pc := 36) C dX3_shrink_36 jc_1 ?_
      refine h_isub (pc := 37) C dX3_shrink_37 ?_
      refine h_icmp_ge (pc := 38) (tgt := 106) C dX3_shrink_38 (by decide) (fun q => ?_) (fun q => ?_)
      · replace hf := jif_t q hf
        clear q
        refine h_sub [0] rfl ?_
        exact k_X3_shrink_106 l D cT ad C hr n loads' widths' height' loads widths height hf
      · replace hf := jif_f q hf
        clear q
        refine h_aload_n (pc := 41) C dX3_shrink_41 rfl 0 rfl ?_
        refine h_iload (pc := 42) C dX3_shrink_42 3 rfl ?_
        refine h_iload_n (pc := 44) C dX3_shrink_44 rfl 1 rfl ?_
        obtain ⟨v4, hc, hf⟩ := jbd_s hf
        refine h_callV (pc := 45) (q0 := 0) (As := [.int x4, .int x2]) (rest := []) (ws' := (wT cT ad loads widths height)) (st2 := .int v4 :: []) C (c_X3_load l D cT ad n loads widths height x4 x2 v4 hc) (cwV 2 C.1.2.2.2.2 gX3_shrink_X3_load rfl rfl rfl pv_X3_load ⟨(Nat.le_of_ble_eq_true rfl), (Nat.le_of_ble_eq_true rfl)⟩) dX3_shrink_45 rfl rfl rfl rfl rfl (Nat.le_of_ble_eq_true rfl) ⟨rfl, rfl⟩ ⟨(Nat.le_of_ble_eq_true rfl), (Nat.le_of_ble_eq_true rfl)⟩ [0, 1, 2] [] [0, 1, 2] rfl rfl rfl rfl (by decide) rfl rfl rfl ?_
        clear hc
        refine h_iconst (pc := 48) C dX3_shrink_48 jc_2 ?_
        refine h_icmp_ge (pc := 49) (tgt := 106) C dX3_shrink_49 (by decide) (fun q => ?_) (fun q => ?_)
        · replace hf := jif_t q hf
          clear q
          refine h_sub [0] rfl ?_
          exact k_X3_shrink_106 l D cT ad C hr n loads' widths' height' loads widths height hf
        · replace hf := jif_f q hf
          clear q
          refine h_aload_n (pc := 52) C dX3_shrink_52 rfl 0 rfl ?_
          refine h_iload (pc := 53) C dX3_shrink_53 3 rfl ?_
          refine h_iload_n (pc := 55) C dX3_shrink_55 rfl 1 rfl ?_
          obtain ⟨v5, hc, hf⟩ := jbd_s hf
          refine h_callV (pc := 56) (q0 := 0) (As := [.int x4, .int x2]) (rest := []) (ws' := (wT cT ad loads widths height)) (st2 := .int v5 :: []) C (c_X3_parent l D cT ad n loads widths height x4 x2 v5 hc) (cwV 2 C.1.2.2.2.2 gX3_shrink_X3_parent rfl rfl rfl pv_X3_parent ⟨(Nat.le_of_ble_eq_true rfl), (Nat.le_of_ble_eq_true rfl)⟩) dX3_shrink_56 rfl rfl rfl rfl rfl (Nat.le_of_ble_eq_true rfl) ⟨rfl, rfl⟩ ⟨(Nat.le_of_ble_eq_true rfl), (Nat.le_of_ble_eq_true rfl)⟩ [0, 1, 2] [] [0, 1, 2] rfl rfl rfl rfl (by decide) rfl rfl rfl ?_
          clear hc
          refine h_istore (pc := 59) (lv' := [(5, .int v5), (0, .ref (ad 6)), (2, .int x2), (3, .int x3), (4, .int x4)]) C dX3_shrink_59 (by decide) rfl ?_
          refine h_aload_n (pc := 61) C dX3_shrink_61 rfl 1 rfl ?_
          refine h_iload (pc := 62) C dX3_shrink_62 4 rfl ?_
          refine h_iload_n (pc := 64) C dX3_shrink_64 rfl 2 rfl ?_
          refine h_iload (pc := 65) C dX3_shrink_65 0 rfl ?_
          obtain ⟨v6, hc, hf⟩ := jbd_s hf
          refine h_callV (pc := 67) (q0 := 0) (As := [.int x4, .int x2, .int v5]) (rest := []) (ws' := (wT cT ad v6.2.1 v6.2.2 height)) (st2 := .int v6.1 :: []) C (c_X3_unite l D cT ad n loads widths height x4 x2 v5 v6.1 v6.2.1 v6.2.2 hc) (cwV 3 C.1.2.2.2.2 gX3_shrink_X3_unite rfl rfl rfl pv_X3_unite ⟨(Nat.le_of_ble_eq_true rfl), (Nat.le_of_ble_eq_true rfl)⟩) dX3_shrink_67 rfl rfl rfl rfl rfl (Nat.le_of_ble_eq_true rfl) ⟨rfl, rfl⟩ ⟨(Nat.le_of_ble_eq_true rfl), (Nat.le_of_ble_eq_true rfl)⟩ [0, 1, 2] [] [0, 1, 2] rfl rfl rfl rfl (by decide) rfl rfl rfl ?_
          clear hc
          refine h_istore_n (pc := 70) (lv' := [(3, .int v6.1), (5, .int v5), (0, .ref (ad 6)), (2, .int x2), (4, .int x4)]) C dX3_shrink_70 rfl (by decide) rfl ?_
          refine h_iload_n (pc := 71) C dX3_shrink_71 rfl 0 rfl ?_
          refine h_if_eq (pc := 72) (tgt := 97) C dX3_shrink_72 (by decide) (fun q => ?_) (fun q => ?_)
          · replace hf := jif_t q hf
            clear q
            refine h_sub [2, 0, 4, 1] rfl ?_
            exact k_X3_shrink_97 l D cT ad C hr n loads' widths' height' (f_X3_shrink_26 n fu) ih v6.2.1 v6.2.2 height v6.1 x4 v5 hf
          · replace hf := jif_f q hf
            clear q
            refine h_aload_n (pc := 75) C dX3_shrink_75 rfl 2 rfl ?_
            refine h_iload (pc := 76) C dX3_shrink_76 4 rfl ?_
            refine h_iconst (pc := 78) C dX3_shrink_78 jc_1 ?_
            refine h_iadd (pc := 79) C dX3_shrink_79 ?_
            refine h_iload (pc := 80) C dX3_shrink_80 1 rfl ?_
            refine h_aload_n (pc := 82) C dX3_shrink_82 rfl 2 rfl ?_
            refine h_iload (pc := 83) C dX3_shrink_83 4 rfl ?_
            refine h_iconst (pc := 85) C dX3_shrink_85 jc_1 ?_
            refine h_iadd (pc := 86) C dX3_shrink_86 ?_
            refine h_iload (pc := 87) C dX3_shrink_87 1 rfl ?_
            obtain ⟨v7, hc, hf⟩ := jbd_s hf
            refine h_callV (pc := 89) (q0 := 0) (As := [.int (x4 + 1), .int v5]) (rest := .int v5 :: .int (x4 + 1) :: .ref (ad 6) :: []) (ws' := (wT cT ad v6.2.1 v6.2.2 height)) (st2 := .int v7 :: .int v5 :: .int (x4 + 1) :: .ref (ad 6) :: []) C (c_X3_load l D cT ad n v6.2.1 v6.2.2 height (x4 + 1) v5 v7 hc) (cwV 2 C.1.2.2.2.2 gX3_shrink_X3_load rfl rfl rfl pv_X3_load ⟨(Nat.le_of_ble_eq_true rfl), (Nat.le_of_ble_eq_true rfl)⟩) dX3_shrink_89 rfl rfl rfl rfl rfl (Nat.le_of_ble_eq_true rfl) ⟨rfl, rfl⟩ ⟨(Nat.le_of_ble_eq_true rfl), (Nat.le_of_ble_eq_true rfl)⟩ [0, 1, 2] [] [0, 1, 2] rfl rfl rfl rfl (by decide) rfl rfl rfl ?_
            clear hc
            refine h_iconst (pc := 92) C dX3_shrink_92 jc_1 ?_
            refine h_isub (pc := 93) C dX3_shrink_93 ?_
            obtain ⟨v8, hc, hf⟩ := jbd_s hf
            refine h_callV (pc := 94) (q0 := 0) (As := [.int (x4 + 1), .int v5, .int (v7 - 1)]) (rest := []) (ws' := (wT cT ad v8 v6.2.2 height)) (st2 := []) C (c_X3_setLoad l D cT ad n v6.2.1 v6.2.2 height (x4 + 1) v5 (v7 - 1) v8 hc) (cwV 3 C.1.2.2.2.2 gX3_shrink_X3_setLoad rfl rfl rfl pv_X3_setLoad ⟨(Nat.le_of_ble_eq_true rfl), (Nat.le_of_ble_eq_true rfl)⟩) dX3_shrink_94 rfl rfl rfl rfl rfl (Nat.le_of_ble_eq_true rfl) ⟨rfl, rfl⟩ ⟨(Nat.le_of_ble_eq_true rfl), (Nat.le_of_ble_eq_true rfl)⟩ [0, 1, 2] [] [0, 1, 2] rfl rfl rfl rfl (by decide) rfl rfl rfl ?_
            clear hc
            refine h_sub [2, 0, 4, 1] rfl ?_
            exact k_X3_shrink_97 l D cT ad C hr n loads' widths' height' (f_X3_shrink_26 n fu) ih v8 v6.2.2 height v6.1 x4 v5 hf
set_option maxRecDepth 100000 in
set_option maxHeartbeats 4000000 in
theorem c_X3_shrink (l : Launch) (D : va_G) (cT : Nat → ClassId) (ad : Nat → Nat) (n : Nat) (loads : Nat → Int32) (widths : Nat → Int32) (height : Int32) (a1 : Int32) (loads' : Nat → Int32) (widths' : Nat → Int32) (height' : Int32) (hf : f_X3_shrink n loads widths height a1 = some (loads', widths', height')) : cM l yX3_shrink wsX3_shrink rmX3_shrink D (ty4 cT) [.ref (ad 6), .int a1] (wT cT ad loads widths height) none (wT cT ad loads' widths' height') := by
  refine cM_of (cc := cX3_shrink) (maxL := 6) (ret := none) (own := RX3) (lv := [(0, .ref (ad 6)), (1, .int a1)]) (by decide) rfl (Nat.le_of_ble_eq_true rfl) rfl rfl ?_
  intro p e s m args below meth c A C hr
  unfold f_X3_shrink at hf
  refine h_aload_n (pc := 0) C dX3_shrink_0 rfl 0 rfl ?_
  refine h_iconst (pc := 1) C dX3_shrink_1 jc_0 ?_
  refine h_iload_n (pc := 2) C dX3_shrink_2 rfl 1 rfl ?_
  obtain ⟨v1, hc, hf⟩ := jbd_s hf
  refine h_callV (pc := 3) (q0 := 0) (As := [.int 0, .int a1]) (rest := []) (ws' := (wT cT ad loads widths height)) (st2 := .int v1 :: []) C (c_X3_holder l D cT ad n loads widths height 0 a1 v1 hc) (cwV 2 C.1.2.2.2.2 gX3_shrink_X3_holder rfl rfl rfl pv_X3_holder ⟨(Nat.le_of_ble_eq_true rfl), (Nat.le_of_ble_eq_true rfl)⟩) dX3_shrink_3 rfl rfl rfl rfl rfl (Nat.le_of_ble_eq_true rfl) ⟨rfl, rfl⟩ ⟨(Nat.le_of_ble_eq_true rfl), (Nat.le_of_ble_eq_true rfl)⟩ [0, 1, 2] [] [0, 1, 2] rfl rfl rfl rfl (by decide) rfl rfl rfl ?_
  clear hc
  refine h_istore_n (pc := 6) (lv' := [(2, .int v1), (0, .ref (ad 6)), (1, .int a1)]) C dX3_shrink_6 rfl (by decide) rfl ?_
  refine h_aload_n (pc := 7) C dX3_shrink_7 rfl 1 rfl ?_
  refine h_iconst (pc := 8) C dX3_shrink_8 jc_0 ?_
  refine h_iload_n (pc := 9) C dX3_shrink_9 rfl 0 rfl ?_
  refine h_aload_n (pc := 10) C dX3_shrink_10 rfl 1 rfl ?_
  refine h_iconst (pc := 11) C dX3_shrink_11 jc_0 ?_
  refine h_iload_n (pc := 12) C dX3_shrink_12 rfl 0 rfl ?_
  obtain ⟨v2, hc, hf⟩ := jbd_s hf
  refine h_callV (pc := 13) (q0 := 0) (As := [.int 0, .int v1]) (rest := .int v1 :: .int 0 :: .ref (ad 6) :: []) (ws' := (wT cT ad loads widths height)) (st2 := .int v2 :: .int v1 :: .int 0 :: .ref (ad 6) :: []) C (c_X3_load l D cT ad n loads widths height 0 v1 v2 hc) (cwV 2 C.1.2.2.2.2 gX3_shrink_X3_load rfl rfl rfl pv_X3_load ⟨(Nat.le_of_ble_eq_true rfl), (Nat.le_of_ble_eq_true rfl)⟩) dX3_shrink_13 rfl rfl rfl rfl rfl (Nat.le_of_ble_eq_true rfl) ⟨rfl, rfl⟩ ⟨(Nat.le_of_ble_eq_true rfl), (Nat.le_of_ble_eq_true rfl)⟩ [0, 1, 2] [] [0, 1, 2] rfl rfl rfl rfl (by decide) rfl rfl rfl ?_
  clear hc
  refine h_iconst (pc := 16) C dX3_shrink_16 jc_1 ?_
  refine h_isub (pc := 17) C dX3_shrink_17 ?_
  obtain ⟨v3, hc, hf⟩ := jbd_s hf
  refine h_callV (pc := 18) (q0 := 0) (As := [.int 0, .int v1, .int (v2 - 1)]) (rest := []) (ws' := (wT cT ad v3 widths height)) (st2 := []) C (c_X3_setLoad l D cT ad n loads widths height 0 v1 (v2 - 1) v3 hc) (cwV 3 C.1.2.2.2.2 gX3_shrink_X3_setLoad rfl rfl rfl pv_X3_setLoad ⟨(Nat.le_of_ble_eq_true rfl), (Nat.le_of_ble_eq_true rfl)⟩) dX3_shrink_18 rfl rfl rfl rfl rfl (Nat.le_of_ble_eq_true rfl) ⟨rfl, rfl⟩ ⟨(Nat.le_of_ble_eq_true rfl), (Nat.le_of_ble_eq_true rfl)⟩ [0, 1, 2] [] [0, 1, 2] rfl rfl rfl rfl (by decide) rfl rfl rfl ?_
  clear hc
  refine h_iconst (pc := 21) C dX3_shrink_21 jc_1 ?_
  refine h_istore_n (pc := 22) (lv' := [(3, .int 1), (2, .int v1), (0, .ref (ad 6)), (1, .int a1)]) C dX3_shrink_22 rfl (by decide) rfl ?_
  refine h_iconst (pc := 23) C dX3_shrink_23 jc_0 ?_
  refine h_istore (pc := 24) (lv' := [(4, .int 0), (3, .int 1), (2, .int v1), (0, .ref (ad 6)), (1, .int a1)]) C dX3_shrink_24 (by decide) rfl ?_
  refine h_sub [3, 2, 1, 0] rfl ?_
  exact k_X3_shrink_26 l D cT ad C hr n loads' widths' height' n v3 widths height v1 1 0 hf
theorem pv_X3_shrink : yX3_shrink.cls = RX3 ∧ yX3_shrink.cls ≠ "java/lang/invoke/MethodHandle" ∧ yX3_shrink.cls ≠ "java/lang/invoke/VarHandle" ∧ (parseMethodDescriptor yX3_shrink.desc).map (fun d => d.parameters.length) = some 1 := by decide +kernel
abbrev rmX3_planAnew : Room := { frames := 2, cells := 0, slots := 0, locals := 46 }
theorem uX3_planAnew_X3 : ∀ w ∈ u_ws RX3 TX3 3, w ∈ wsX3_planAnew := fun w h => List.mem_cons_of_mem _ (List.mem_append_right _ h)
set_option maxRecDepth 100000 in
set_option maxHeartbeats 4000000 in
theorem k_X3_planAnew_87 {p : Program} {e : Env} {s : State} {m : MethodId} {args : Array Value} {below : List Frame} {meth : Method} {c : Code} {A : Nat → Prop} (l : Launch) (D : va_G) (cT : Nat → ClassId) (ad : Nat → Nat) (C : hC p s m args meth c cX3_planAnew 6 wsX3_planAnew RX3 D (ty4 cT) A) (hr : meth.sig.returnType = none) (n : Nat)  (loads' : Nat → Int32) (widths' : Nat → Int32) (height' : Int32) (k9 : (Nat → Int32) → (Nat → Int32) → Int32 → Int32 → Int32 → Option ((Nat → Int32) × (Nat → Int32) × Int32)) (K9 : ∀ (loads : Nat → Int32) (widths : Nat → Int32) (height : Int32) (x2 : Int32) (x3 : Int32), k9 loads widths height x2 x3 = some (loads', widths', height') → hS p l e rmX3_planAnew s m args below meth c 6 D A 0 0 (MQ below (cQ D (ty4 cT) A none (wT cT ad loads' widths' height')) args s 0 0 A) 9 [(0, .ref (ad 6)), (2, .int x2), (3, .int x3)] [] (wT cT ad loads widths height)) : ∀ (loads : Nat → Int32) (widths : Nat → Int32) (height : Int32) (x3 : Int32) (t0 : Int32), f_X3_planAnew_87 n k9 loads widths height x3 t0 = some (loads', widths', height') → hS p l e rmX3_planAnew s m args below meth c 6 D A 0 0 (MQ below (cQ D (ty4 cT) A none (wT cT ad loads' widths' height')) args s 0 0 A) 87 [(0, .ref (ad 6)), (3, .int x3)] (.int t0 :: []) (wT cT ad loads widths height) := by
  intro loads widths height x3 t0 hf
  unfold f_X3_planAnew_87 at hf
  refine h_istore_n (pc := 87) (lv' := [(2, .int t0), (0, .ref (ad 6)), (3, .int x3)]) C dX3_planAnew_87 rfl (by decide) rfl ?_
  refine h_iinc (pc := 88) (v := x3 + 1) (lv' := [(3, .int (x3 + 1)), (2, .int t0), (0, .ref (ad 6))]) C dX3_planAnew_88 2 rfl (ji_1 _) (by decide) rfl ?_
  refine h_goto (pc := 91) (tgt := 9) C dX3_planAnew_91 (by decide) ?_
  refine h_sub [2, 1, 0] rfl ?_
  exact K9 loads widths height t0 (x3 + 1) hf
set_option maxRecDepth 100000 in
set_option maxHeartbeats 4000000 in
theorem k_X3_planAnew_45 {p : Program} {e : Env} {s : State} {m : MethodId} {args : Array Value} {below : List Frame} {meth : Method} {c : Code} {A : Nat → Prop} (l : Launch) (D : va_G) (cT : Nat → ClassId) (ad : Nat → Nat) (C : hC p s m args meth c cX3_planAnew 6 wsX3_planAnew RX3 D (ty4 cT) A) (hr : meth.sig.returnType = none) (n : Nat)  (loads' : Nat → Int32) (widths' : Nat → Int32) (height' : Int32) (k9 : (Nat → Int32) → (Nat → Int32) → Int32 → Int32 → Int32 → Option ((Nat → Int32) × (Nat → Int32) × Int32)) (K9 : ∀ (loads : Nat → Int32) (widths : Nat → Int32) (height : Int32) (x2 : Int32) (x3 : Int32), k9 loads widths height x2 x3 = some (loads', widths', height') → hS p l e rmX3_planAnew s m args below meth c 6 D A 0 0 (MQ below (cQ D (ty4 cT) A none (wT cT ad loads' widths' height')) args s 0 0 A) 9 [(0, .ref (ad 6)), (2, .int x2), (3, .int x3)] [] (wT cT ad loads widths height)) : ∀ (fu : Nat) (loads : Nat → Int32) (widths : Nat → Int32) (height : Int32) (x2 : Int32) (x3 : Int32) (x4 : Int32) (x5 : Int32), f_X3_planAnew_45 n k9 fu loads widths height x2 x3 x4 x5 = some (loads', widths', height') → hS p l e rmX3_planAnew s m args below meth c 6 D A 0 0 (MQ below (cQ D (ty4 cT) A none (wT cT ad loads' widths' height')) args s 0 0 A) 45 [(0, .ref (ad 6)), (2, .int x2), (3, .int x3), (4, .int x4), (5, .int x5)] [] (wT cT ad loads widths height) := by
  intro fu
  induction fu with
  | zero =>
    intro loads widths height x2 x3 x4 x5 hf
    exact nomatch (show (none : Option ((Nat → Int32) × (Nat → Int32) × Int32)) = some (loads', widths', height') from hf)
  | succ fu ih =>
    intro loads widths height x2 x3 x4 x5 hf
    rw [f_X3_planAnew_45] at hf
    refine h_iload (pc := 45) C dX3_planAnew_45 4 rfl ?_
    refine h_iload (pc := 47) C dX3_planAnew_47 3 rfl ?_
    refine h_icmp_ge (pc := 49) (tgt := 75) C dX3_planAnew_49 (by decide) (fun q => ?_) (fun q => ?_)
    · replace hf := jif_t q hf
      clear q
      refine h_iload (pc := 75) C dX3_planAnew_75 3 rfl ?_
      refine h_iconst (pc := 77) C dX3_planAnew_77 jc_1 ?_
      refine h_icmp_le (pc := 78) (tgt := 86) C dX3_planAnew_78 (by decide) (fun q => ?_) (fun q => ?_)
      · replace hf := jif_t q hf
        clear q
        refine h_iconst (pc := 86) C dX3_planAnew_86 jc_0 ?_
        refine h_sub [0, 2] rfl ?_
        exact k_X3_planAnew_87 l D cT ad C hr n loads' widths' height' k9 K9 loads widths height x3 0 hf
      · replace hf := jif_f q hf
        clear q
        refine h_iload (pc := 81) C dX3_planAnew_81 3 rfl ?_
        refine h_goto (pc := 83) (tgt := 87) C dX3_planAnew_83 (by decide) ?_
        refine h_sub [0, 2] rfl ?_
        exact k_X3_planAnew_87 l D cT ad C hr n loads' widths' height' k9 K9 loads widths height x3 x4 hf
    · replace hf := jif_f q hf
      clear q
      refine h_aload_n (pc := 52) C dX3_planAnew_52 rfl 0 rfl ?_
      refine h_iload_n (pc := 53) C dX3_planAnew_53 rfl 2 rfl ?_
      refine h_iload (pc := 54) C dX3_planAnew_54 4 rfl ?_
      refine h_iconst (pc := 56) C dX3_planAnew_56 jc_4 ?_
      refine h_iload_n (pc := 57) C dX3_planAnew_57 rfl 1 rfl ?_
      refine h_iload (pc := 58) C dX3_planAnew_58 4 rfl ?_
      refine h_iconst (pc := 60) C dX3_planAnew_60 jc_4 ?_
      refine h_imul (pc := 61) C dX3_planAnew_61 ?_
      refine h_isub (pc := 62) C dX3_planAnew_62 ?_
      refine h_mmin (pc := 63) C (List.mem_of_getElem? (i := 2) rfl) (List.mem_of_getElem? (i := 3) rfl) (List.mem_of_getElem? (i := 4) rfl) (List.mem_of_getElem? (i := 5) rfl) ⟨Nat.le_of_ble_eq_true rfl, Nat.le_of_ble_eq_true rfl, Nat.le_of_ble_eq_true rfl, Nat.le_of_ble_eq_true rfl⟩ dX3_planAnew_63 ?_
      obtain ⟨v2, hc, hf⟩ := jbd_s hf
      refine h_callV (pc := 66) (q0 := 0) (As := [.int x3, .int x5, .int (jmin 4 (x2 - (x5 * 4)))]) (rest := []) (ws' := (wT cT ad v2 widths height)) (st2 := []) C (c_X3_setLoad l D cT ad n loads widths height x3 x5 (jmin 4 (x2 - (x5 * 4))) v2 hc) (cwV 3 C.1.2.2.2.2 gX3_planAnew_X3_setLoad rfl rfl rfl pv_X3_setLoad ⟨(Nat.le_of_ble_eq_true rfl), (Nat.le_of_ble_eq_true rfl)⟩) dX3_planAnew_66 rfl rfl rfl rfl rfl (Nat.le_of_ble_eq_true rfl) ⟨rfl, rfl⟩ ⟨(Nat.le_of_ble_eq_true rfl), (Nat.le_of_ble_eq_true rfl)⟩ [0, 1, 2] [] [0, 1, 2] rfl rfl rfl rfl (by decide) rfl rfl rfl ?_
      clear hc
      refine h_iinc (pc := 69) (v := x5 + 1) (lv' := [(5, .int (x5 + 1)), (0, .ref (ad 6)), (2, .int x2), (3, .int x3), (4, .int x4)]) C dX3_planAnew_69 4 rfl (ji_1 _) (by decide) rfl ?_
      refine h_goto (pc := 72) (tgt := 45) C dX3_planAnew_72 (by decide) ?_
      refine h_sub [1, 2, 3, 4, 0] rfl ?_
      exact ih v2 widths height x2 x3 x4 (x5 + 1) hf
set_option maxRecDepth 100000 in
set_option maxHeartbeats 4000000 in
theorem k_X3_planAnew_9 {p : Program} {e : Env} {s : State} {m : MethodId} {args : Array Value} {below : List Frame} {meth : Method} {c : Code} {A : Nat → Prop} (l : Launch) (D : va_G) (cT : Nat → ClassId) (ad : Nat → Nat) (C : hC p s m args meth c cX3_planAnew 6 wsX3_planAnew RX3 D (ty4 cT) A) (hr : meth.sig.returnType = none) (n : Nat)  (loads' : Nat → Int32) (widths' : Nat → Int32) (height' : Int32)  : ∀ (fu : Nat) (loads : Nat → Int32) (widths : Nat → Int32) (height : Int32) (x2 : Int32) (x3 : Int32), f_X3_planAnew_9 n fu loads widths height x2 x3 = some (loads', widths', height') → hS p l e rmX3_planAnew s m args below meth c 6 D A 0 0 (MQ below (cQ D (ty4 cT) A none (wT cT ad loads' widths' height')) args s 0 0 A) 9 [(0, .ref (ad 6)), (2, .int x2), (3, .int x3)] [] (wT cT ad loads widths height) := by
  intro fu
  induction fu with
  | zero =>
    intro loads widths height x2 x3 hf
    exact nomatch (show (none : Option ((Nat → Int32) × (Nat → Int32) × Int32)) = some (loads', widths', height') from hf)
  | succ fu ih =>
    intro loads widths height x2 x3 hf
    rw [f_X3_planAnew_9] at hf
    refine h_iload_n (pc := 9) C dX3_planAnew_9 rfl 2 rfl ?_
    refine h_bipush (pc := 10) C dX3_planAnew_10 jb_8 ?_
    refine h_icmp_ge (pc := 12) (tgt := 94) C dX3_planAnew_12 (by decide) (fun q => ?_) (fun q => ?_)
    · replace hf := jif_t q hf
      clear q
      have g0 := (Prod.mk.inj (Option.some.inj hf)).1
      have g1 := (Prod.mk.inj (Prod.mk.inj (Option.some.inj hf)).2).1
      have g2 := (Prod.mk.inj (Prod.mk.inj (Option.some.inj hf)).2).2
      clear hf
      subst g0
      subst g1
      subst g2
      exact h_vret C hr dX3_planAnew_94
    · replace hf := jif_f q hf
      clear q
      refine h_iload_n (pc := 15) C dX3_planAnew_15 rfl 1 rfl ?_
      refine h_if_le (pc := 16) (tgt := 94) C dX3_planAnew_16 (by decide) (fun q => ?_) (fun q => ?_)
      · replace hf := jif_t q hf
        clear q
        have g0 := (Prod.mk.inj (Option.some.inj hf)).1
        have g1 := (Prod.mk.inj (Prod.mk.inj (Option.some.inj hf)).2).1
        have g2 := (Prod.mk.inj (Prod.mk.inj (Option.some.inj hf)).2).2
        clear hf
        subst g0
        subst g1
        subst g2
        exact h_vret C hr dX3_planAnew_94
      · replace hf := jif_f q hf
        clear q
        refine h_iload_n (pc := 19) C dX3_planAnew_19 rfl 1 rfl ?_
        refine h_iconst (pc := 20) C dX3_planAnew_20 jc_4 ?_
        refine h_iadd (pc := 21) C dX3_planAnew_21 ?_
        refine h_iconst (pc := 22) C dX3_planAnew_22 jc_1 ?_
        refine h_isub (pc := 23) C dX3_planAnew_23 ?_
        refine h_iconst (pc := 24) C dX3_planAnew_24 jc_4 ?_
        refine h_idiv (pc := 25) C dX3_planAnew_25 (by decide) ?_
        refine h_istore (pc := 26) (lv' := [(4, .int (((x2 + 4) - 1) / 4)), (0, .ref (ad 6)), (2, .int x2), (3, .int x3)]) C dX3_planAnew_26 (by decide) rfl ?_
        refine h_aload_n (pc := 28) C dX3_planAnew_28 rfl 1 rfl ?_
        refine h_iload_n (pc := 29) C dX3_planAnew_29 rfl 3 rfl ?_
        refine h_iconst (pc := 30) C dX3_planAnew_30 jc_1 ?_
        refine h_iadd (pc := 31) C dX3_planAnew_31 ?_
        refine h_put (pc := 32) (ci := 1) (C0 := RX3) (T := TX3) (N := 3) (ws' := (wT cT ad loads widths (x3 + 1))) C uX3_planAnew_X3 tyX3 tyX3_ok nmX3 rfl 0 rfl 2 (by decide) (List.mem_of_getElem? (i := 1) rfl) rfl rfl rfl (Nat.le_of_ble_eq_true rfl) rfl dX3_planAnew_32 ?_
        refine h_aload_n (pc := 35) C dX3_planAnew_35 rfl 1 rfl ?_
        refine h_iload_n (pc := 36) C dX3_planAnew_36 rfl 3 rfl ?_
        refine h_iload (pc := 37) C dX3_planAnew_37 0 rfl ?_
        obtain ⟨v1, hc, hf⟩ := jbd_s hf
        refine h_callV (pc := 39) (q0 := 0) (As := [.int x3, .int (((x2 + 4) - 1) / 4)]) (rest := []) (ws' := (wT cT ad loads v1 (x3 + 1))) (st2 := []) C (c_X3_setWidth l D cT ad n loads widths (x3 + 1) x3 (((x2 + 4) - 1) / 4) v1 hc) (cwV 2 C.1.2.2.2.2 gX3_planAnew_X3_setWidth rfl rfl rfl pv_X3_setWidth ⟨(Nat.le_of_ble_eq_true rfl), (Nat.le_of_ble_eq_true rfl)⟩) dX3_planAnew_39 rfl rfl rfl rfl rfl (Nat.le_of_ble_eq_true rfl) ⟨rfl, rfl⟩ ⟨(Nat.le_of_ble_eq_true rfl), (Nat.le_of_ble_eq_true rfl)⟩ [0, 1, 2] [] [0, 1, 2] rfl rfl rfl rfl (by decide) rfl rfl rfl ?_
        clear hc
        refine h_iconst (pc := 42) C dX3_planAnew_42 jc_0 ?_
        refine h_istore (pc := 43) (lv' := [(5, .int 0), (4, .int (((x2 + 4) - 1) / 4)), (0, .ref (ad 6)), (2, .int x2), (3, .int x3)]) C dX3_planAnew_43 (by decide) rfl ?_
        refine h_sub [2, 3, 4, 1, 0] rfl ?_
        exact k_X3_planAnew_45 l D cT ad C hr n loads' widths' height' (f_X3_planAnew_9 n fu) ih n loads v1 (x3 + 1) x2 x3 (((x2 + 4) - 1) / 4) 0 hf
set_option maxRecDepth 100000 in
set_option maxHeartbeats 4000000 in
theorem c_X3_planAnew (l : Launch) (D : va_G) (cT : Nat → ClassId) (ad : Nat → Nat) (n : Nat) (loads : Nat → Int32) (widths : Nat → Int32) (height : Int32) (a1 : Int32) (loads' : Nat → Int32) (widths' : Nat → Int32) (height' : Int32) (hf : f_X3_planAnew n loads widths height a1 = some (loads', widths', height')) : cM l yX3_planAnew wsX3_planAnew rmX3_planAnew D (ty4 cT) [.ref (ad 6), .int a1] (wT cT ad loads widths height) none (wT cT ad loads' widths' height') := by
  refine cM_of (cc := cX3_planAnew) (maxL := 6) (ret := none) (own := RX3) (lv := [(0, .ref (ad 6)), (1, .int a1)]) (by decide) rfl (Nat.le_of_ble_eq_true rfl) rfl rfl ?_
  intro p e s m args below meth c A C hr
  unfold f_X3_planAnew at hf
  refine h_aload_n (pc := 0) C dX3_planAnew_0 rfl 0 rfl ?_
  refine h_iconst (pc := 1) C dX3_planAnew_1 jc_0 ?_
  refine h_put (pc := 2) (ci := 1) (C0 := RX3) (T := TX3) (N := 3) (ws' := (wT cT ad loads widths 0)) C uX3_planAnew_X3 tyX3 tyX3_ok nmX3 rfl 0 rfl 2 (by decide) (List.mem_of_getElem? (i := 1) rfl) rfl rfl rfl (Nat.le_of_ble_eq_true rfl) rfl dX3_planAnew_2 ?_
  refine h_iload_n (pc := 5) C dX3_planAnew_5 rfl 1 rfl ?_
  refine h_istore_n (pc := 6) (lv' := [(2, .int a1), (0, .ref (ad 6)), (1, .int a1)]) C dX3_planAnew_6 rfl (by decide) rfl ?_
  refine h_iconst (pc := 7) C dX3_planAnew_7 jc_0 ?_
  refine h_istore_n (pc := 8) (lv' := [(3, .int 0), (2, .int a1), (0, .ref (ad 6)), (1, .int a1)]) C dX3_planAnew_8 rfl (by decide) rfl ?_
  refine h_sub [2, 1, 0] rfl ?_
  exact k_X3_planAnew_9 l D cT ad C hr n loads' widths' height' n loads widths 0 a1 0 hf
theorem pv_X3_planAnew : yX3_planAnew.cls = RX3 ∧ yX3_planAnew.cls ≠ "java/lang/invoke/MethodHandle" ∧ yX3_planAnew.cls ≠ "java/lang/invoke/VarHandle" ∧ (parseMethodDescriptor yX3_planAnew.desc).map (fun d => d.parameters.length) = some 1 := by decide +kernel
