/-! laid by wip/whole/lay.py: contracts -/
abbrev rmX4_checkSide : Room := { frames := 6, cells := 0, slots := 0, locals := 90 }
set_option maxRecDepth 100000 in
set_option maxHeartbeats 4000000 in
theorem k_X4_checkSide_9 {p : Program} {e : Env} {s : State} {m : MethodId} {args : Array Value} {below : List Frame} {meth : Method} {c : Code} {A : Nat → Prop} (l : Launch) (D : va_G) (cT : Nat → ClassId) (ad : Nat → Nat) (C : hC p s m args meth c cX4_checkSide 1 wsX4_checkSide RX4 D (ty4 cT) A) (hr : meth.sig.returnType = none) (n : Nat)   (k : Nat) (hk0 : k = 0)  : f_X4_checkSide_9 n = some k → hS p l e rmX4_checkSide s m args below meth c 1 D A 0 0 (MQ below (cQ D (ty4 cT) A none []) args s 0 0 A) 9 [] [] [] := by
  intro  hf
  unfold f_X4_checkSide_9 at hf
  exact absurd ((Option.some.inj hf).trans hk0) (by decide)
set_option maxRecDepth 100000 in
set_option maxHeartbeats 4000000 in
theorem c_X4_checkSide (l : Launch) (D : va_G) (cT : Nat → ClassId) (ad : Nat → Nat) (n : Nat)  (a0 : Int32)  (k : Nat) (hk0 : k = 0) (hf : f_X4_checkSide n a0 = some k) : cM l yX4_checkSide wsX4_checkSide rmX4_checkSide D (ty4 cT) [.int a0] [] none [] := by
  refine cM_of (cc := cX4_checkSide) (maxL := 1) (ret := none) (own := RX4) (lv := [(0, .int a0)]) (by decide) rfl (Nat.le_of_ble_eq_true rfl) rfl rfl ?_
  intro p e s m args below meth c A C hr
  unfold f_X4_checkSide at hf
  refine h_iload_n (pc := 0) C dX4_checkSide_0 rfl 0 rfl ?_
  refine h_if_lt (pc := 1) (tgt := 9) C dX4_checkSide_1 (by decide) (fun q => ?_) (fun q => ?_)
  · replace hf := jif_t q hf
    clear q
    refine h_sub [] rfl ?_
    exact k_X4_checkSide_9 l D cT ad C hr n k hk0 hf
  · replace hf := jif_f q hf
    clear q
    refine h_iload_n (pc := 4) C dX4_checkSide_4 rfl 0 rfl ?_
    refine h_iconst (pc := 5) C dX4_checkSide_5 jc_3 ?_
    refine h_icmp_le (pc := 6) (tgt := 19) C dX4_checkSide_6 (by decide) (fun q => ?_) (fun q => ?_)
    · replace hf := jif_t q hf
      clear q
      have g0 := (Option.some.inj hf)
      clear hf
      subst g0
      exact h_vret C hr dX4_checkSide_19
    · replace hf := jif_f q hf
      clear q
      refine h_sub [] rfl ?_
      exact k_X4_checkSide_9 l D cT ad C hr n k hk0 hf
theorem ps_X4_checkSide : yX4_checkSide.cls ≠ "java/lang/invoke/MethodHandle" ∧ yX4_checkSide.cls ≠ "java/lang/invoke/VarHandle" ∧ (parseMethodDescriptor yX4_checkSide.desc).map (fun d => d.parameters.length) = some 1 := by decide +kernel
abbrev rxX4_checkSide : Room := { frames := 6, cells := 1, slots := 6, locals := 90 }
set_option maxRecDepth 100000 in
set_option maxHeartbeats 4000000 in
theorem kx_X4_checkSide_9 {p : Program} {e : Env} {s : State} {m : MethodId} {args : Array Value} {below : List Frame} {meth : Method} {c : Code} {A : Nat → Prop} {l : Launch} (hX0 : l.stackTraces = false) (D : va_G) (cT : Nat → ClassId) (ad : Nat → Nat) (C : hC p s m args meth c cX4_checkSide 1 wsX4_checkSide RX4 D (ty4 cT) A) (X : hX l s c A) (n : Nat)   (k : Nat) (hk0 : ¬ k = 0)  : f_X4_checkSide_9 n = some k → hS p l e rxX4_checkSide s m args below meth c 1 D A 0 0 (vx_MQ below (fun _ _ _ _ => False) (xX D (ty4 cT) A (xE k) []) args s 1 6 A) 9 [] [] [] := by
  intro  hf
  unfold f_X4_checkSide_9 at hf
  have g0 := (Option.some.inj hf)
  clear hf
  subst g0
  exact h_throw (pc := 9) C X xin_IAE xft_IAE xft_up (List.mem_of_getElem? (i := 1) rfl) (List.mem_of_getElem? (i := 2) rfl) (List.mem_of_getElem? (i := 6) rfl) (fun w h => List.mem_cons_of_mem _ (List.mem_append_right _ h)) xng_IAE xgd_IAE dX4_checkSide_9 dX4_checkSide_12 dX4_checkSide_13 dX4_checkSide_15 dX4_checkSide_18 ⟨Nat.le_of_ble_eq_true rfl, Nat.le_of_ble_eq_true rfl, Nat.le_of_ble_eq_true rfl, Nat.le_of_ble_eq_true rfl⟩ ⟨Nat.le_of_ble_eq_true rfl, Nat.le_of_ble_eq_true rfl⟩
set_option maxRecDepth 100000 in
set_option maxHeartbeats 4000000 in
theorem x_X4_checkSide {l : Launch} (hX0 : l.stackTraces = false) (D : va_G) (cT : Nat → ClassId) (ad : Nat → Nat) (n : Nat)  (a0 : Int32)  (k : Nat) (hk0 : ¬ k = 0) (hf : f_X4_checkSide n a0 = some k) : xM l yX4_checkSide wsX4_checkSide rxX4_checkSide D (ty4 cT) [.int a0] [] (xE k) [] := by
  refine xM_of (cc := cX4_checkSide) (maxL := 1) (ret := none) (own := RX4) (lv := [(0, .int a0)]) hX0 (by decide) rfl (Nat.le_of_ble_eq_true rfl) rfl rfl ?_
  intro p e s m args below meth c A C X
  unfold f_X4_checkSide at hf
  refine h_iload_n (pc := 0) C dX4_checkSide_0 rfl 0 rfl ?_
  refine h_if_lt (pc := 1) (tgt := 9) C dX4_checkSide_1 (by decide) (fun q => ?_) (fun q => ?_)
  · replace hf := jif_t q hf
    clear q
    refine h_sub [] rfl ?_
    exact kx_X4_checkSide_9 hX0 D cT ad C X n k hk0 hf
  · replace hf := jif_f q hf
    clear q
    refine h_iload_n (pc := 4) C dX4_checkSide_4 rfl 0 rfl ?_
    refine h_iconst (pc := 5) C dX4_checkSide_5 jc_3 ?_
    refine h_icmp_le (pc := 6) (tgt := 19) C dX4_checkSide_6 (by decide) (fun q => ?_) (fun q => ?_)
    · replace hf := jif_t q hf
      clear q
      exact absurd (Option.some.inj hf).symm hk0
    · replace hf := jif_f q hf
      clear q
      refine h_sub [] rfl ?_
      exact kx_X4_checkSide_9 hX0 D cT ad C X n k hk0 hf
abbrev rmX4_sideOf : Room := { frames := 7, cells := 0, slots := 0, locals := 111 }
theorem uX4_sideOf_X4 : ∀ w ∈ u_ws RX4 TX4 3, w ∈ wsX4_sideOf := fun w h => List.mem_cons_of_mem _ (List.mem_append_left _ (List.mem_append_left _ (List.mem_append_left _ (List.mem_append_right _ h))))
set_option maxRecDepth 100000 in
set_option maxHeartbeats 4000000 in
theorem c_X4_sideOf (l : Launch) (D : va_G) (cT : Nat → ClassId) (ad : Nat → Nat) (n : Nat) (areas : Nat → Int32) (keys : Nat → Int32) (there : Nat → Int32) (order : Nat → Int32) (added : Int32) (size : Int32) (loads : Nat → Int32) (widths : Nat → Int32) (height : Int32) (ranks : Nat → Int32) (a1 : Int32) (a2 : Int32) (r : Int32) (k : Nat) (hk0 : k = 0) (hf : f_X4_sideOf n areas there a1 a2 = some (k, r)) : cM l yX4_sideOf wsX4_sideOf rmX4_sideOf D (ty4 cT) [.ref (ad 0), .int a1, .int a2] (wX cT ad areas keys there order added size loads widths height ranks) (some (.int r)) (wX cT ad areas keys there order added size loads widths height ranks) := by
  refine cM_of (cc := cX4_sideOf) (maxL := 3) (ret := (some .int)) (own := RX4) (lv := [(0, .ref (ad 0)), (1, .int a1), (2, .int a2)]) (by decide) rfl (Nat.le_of_ble_eq_true rfl) rfl rfl ?_
  intro p e s m args below meth c A C hr
  unfold f_X4_sideOf at hf
  refine h_iload_n (pc := 0) C dX4_sideOf_0 rfl 2 rfl ?_
  obtain ⟨v1, hc, hf⟩ := jbd_s hf
  by_cases hk : v1 = 0
  · replace hf := jif_t hk hf
    refine h_callP (pc := 1) (As := [.int a2]) (rest := []) (st2 := []) C (c_X4_checkSide l D cT ad n a2 v1 hk hc) (va_cwS 1 C.1.2.2.2.2 gX4_sideOf_X4_checkSide rfl rfl rfl ps_X4_checkSide ⟨(Nat.le_of_ble_eq_true rfl), (Nat.le_of_ble_eq_true rfl)⟩) dX4_sideOf_1 rfl rfl (Nat.le_of_ble_eq_true rfl) ⟨rfl, rfl⟩ ⟨(Nat.le_of_ble_eq_true rfl), (Nat.le_of_ble_eq_true rfl)⟩ rfl ?_
    clear hc
    refine h_aload_n (pc := 4) C dX4_sideOf_4 rfl 0 rfl ?_
    refine h_iload_n (pc := 5) C dX4_sideOf_5 rfl 1 rfl ?_
    obtain ⟨v2, hc, hf⟩ := jbd_s hf
    by_cases hk : v2 = 0
    · replace hf := jif_t hk hf
      refine h_callV (pc := 6) (q0 := 0) (As := [.int a1]) (rest := []) (ws' := (wX cT ad areas keys there order added size loads widths height ranks)) (st2 := []) C (c_X4_checkBox l D cT ad n areas keys there order added size loads widths height ranks a1 v2 hk hc) (cwV 1 C.1.2.2.2.2 gX4_sideOf_X4_checkBox rfl rfl rfl pv_X4_checkBox ⟨(Nat.le_of_ble_eq_true rfl), (Nat.le_of_ble_eq_true rfl)⟩) dX4_sideOf_6 rfl rfl rfl rfl rfl (Nat.le_of_ble_eq_true rfl) ⟨rfl, rfl⟩ ⟨(Nat.le_of_ble_eq_true rfl), (Nat.le_of_ble_eq_true rfl)⟩ [0, 1, 2, 3, 4, 5, 6, 7, 8, 9] [] [0, 1, 2, 3, 4, 5, 6, 7, 8, 9] rfl rfl rfl rfl (by decide) rfl rfl rfl ?_
      clear hc
      refine h_aload_n (pc := 9) C dX4_sideOf_9 rfl 0 rfl ?_
      refine h_get (pc := 10) (ci := 2) (C0 := RX4) (T := TX4) (N := 3) C uX4_sideOf_X4 rfl 0 rfl 0 (by decide) (List.mem_of_getElem? (i := 1) rfl) rfl rfl dX4_sideOf_10 ?_
      refine h_iload_n (pc := 13) C dX4_sideOf_13 rfl 1 rfl ?_
      obtain ⟨v3, hc, hf⟩ := jbd_s hf
      refine h_callV (pc := 14) (q0 := 1) (As := [.int a1]) (rest := []) (ws' := (wX cT ad areas keys there order added size loads widths height ranks)) (st2 := .int v3 :: []) C (c_X2_areaOf l D cT ad n areas keys there order added size a1 v3 hc) (cwV 1 C.1.2.2.2.2 gX4_sideOf_X2_areaOf rfl rfl rfl pv_X2_areaOf ⟨(Nat.le_of_ble_eq_true rfl), (Nat.le_of_ble_eq_true rfl)⟩) dX4_sideOf_14 rfl rfl rfl rfl rfl (Nat.le_of_ble_eq_true rfl) ⟨rfl, rfl⟩ ⟨(Nat.le_of_ble_eq_true rfl), (Nat.le_of_ble_eq_true rfl)⟩ [1, 2, 3, 4, 5] [0, 6, 7, 8, 9] [0, 5, 6, 7, 8, 9, 1, 2, 3, 4] rfl rfl rfl rfl (by decide) rfl rfl rfl ?_
      clear hc
      refine h_iload_n (pc := 17) C dX4_sideOf_17 rfl 2 rfl ?_
      obtain ⟨v4, hc, hf⟩ := jbd_s hf
      refine h_callP (pc := 18) (As := [.int v3, .int a2]) (rest := []) (st2 := .int v4 :: []) C (c_X0_side l D cT ad n v3 a2 v4 hc) (va_cwS 2 C.1.2.2.2.2 gX4_sideOf_X0_side rfl rfl rfl ps_X0_side ⟨(Nat.le_of_ble_eq_true rfl), (Nat.le_of_ble_eq_true rfl)⟩) dX4_sideOf_18 rfl rfl (Nat.le_of_ble_eq_true rfl) ⟨rfl, rfl⟩ ⟨(Nat.le_of_ble_eq_true rfl), (Nat.le_of_ble_eq_true rfl)⟩ rfl ?_
      clear hc
      have g0 := (Prod.mk.inj (Option.some.inj hf)).1
      have g1 := (Prod.mk.inj (Option.some.inj hf)).2
      clear hf
      subst g0
      subst g1
      exact h_iret C hr dX4_sideOf_21
    · replace hf := jif_f hk hf
      exact absurd ((Prod.mk.inj (Option.some.inj hf)).1.trans hk0) hk
  · replace hf := jif_f hk hf
    exact absurd ((Prod.mk.inj (Option.some.inj hf)).1.trans hk0) hk
theorem pv_X4_sideOf : yX4_sideOf.cls = RX4 ∧ yX4_sideOf.cls ≠ "java/lang/invoke/MethodHandle" ∧ yX4_sideOf.cls ≠ "java/lang/invoke/VarHandle" ∧ (parseMethodDescriptor yX4_sideOf.desc).map (fun d => d.parameters.length) = some 2 := by decide +kernel
abbrev rxX4_sideOf : Room := { frames := 7, cells := 1, slots := 6, locals := 111 }
set_option maxRecDepth 100000 in
set_option maxHeartbeats 4000000 in
theorem x_X4_sideOf {l : Launch} (hX0 : l.stackTraces = false) (D : va_G) (cT : Nat → ClassId) (ad : Nat → Nat) (n : Nat) (areas : Nat → Int32) (keys : Nat → Int32) (there : Nat → Int32) (order : Nat → Int32) (added : Int32) (size : Int32) (loads : Nat → Int32) (widths : Nat → Int32) (height : Int32) (ranks : Nat → Int32) (a1 : Int32) (a2 : Int32) (r : Int32) (k : Nat) (hk0 : ¬ k = 0) (hf : f_X4_sideOf n areas there a1 a2 = some (k, r)) : xM l yX4_sideOf wsX4_sideOf rxX4_sideOf D (ty4 cT) [.ref (ad 0), .int a1, .int a2] (wX cT ad areas keys there order added size loads widths height ranks) (xE k) (wX cT ad areas keys there order added size loads widths height ranks) := by
  refine xM_of (cc := cX4_sideOf) (maxL := 3) (ret := (some .int)) (own := RX4) (lv := [(0, .ref (ad 0)), (1, .int a1), (2, .int a2)]) hX0 (by decide) rfl (Nat.le_of_ble_eq_true rfl) rfl rfl ?_
  intro p e s m args below meth c A C X
  unfold f_X4_sideOf at hf
  refine h_iload_n (pc := 0) C dX4_sideOf_0 rfl 2 rfl ?_
  obtain ⟨v1, hc, hf⟩ := jbd_s hf
  by_cases hk : v1 = 0
  · replace hf := jif_t hk hf
    refine h_callP (pc := 1) (As := [.int a2]) (rest := []) (st2 := []) C (c_X4_checkSide l D cT ad n a2 v1 hk hc) (va_cwS 1 C.1.2.2.2.2 gX4_sideOf_X4_checkSide rfl rfl rfl ps_X4_checkSide ⟨(Nat.le_of_ble_eq_true rfl), (Nat.le_of_ble_eq_true rfl)⟩) dX4_sideOf_1 rfl rfl (Nat.le_of_ble_eq_true rfl) ⟨rfl, rfl⟩ ⟨(Nat.le_of_ble_eq_true rfl), (Nat.le_of_ble_eq_true rfl)⟩ rfl ?_
    clear hc
    refine h_aload_n (pc := 4) C dX4_sideOf_4 rfl 0 rfl ?_
    refine h_iload_n (pc := 5) C dX4_sideOf_5 rfl 1 rfl ?_
    obtain ⟨v2, hc, hf⟩ := jbd_s hf
    by_cases hk : v2 = 0
    · replace hf := jif_t hk hf
      refine h_callV (pc := 6) (q0 := 0) (As := [.int a1]) (rest := []) (ws' := (wX cT ad areas keys there order added size loads widths height ranks)) (st2 := []) C (c_X4_checkBox l D cT ad n areas keys there order added size loads widths height ranks a1 v2 hk hc) (cwV 1 C.1.2.2.2.2 gX4_sideOf_X4_checkBox rfl rfl rfl pv_X4_checkBox ⟨(Nat.le_of_ble_eq_true rfl), (Nat.le_of_ble_eq_true rfl)⟩) dX4_sideOf_6 rfl rfl rfl rfl rfl (Nat.le_of_ble_eq_true rfl) ⟨rfl, rfl⟩ ⟨(Nat.le_of_ble_eq_true rfl), (Nat.le_of_ble_eq_true rfl)⟩ [0, 1, 2, 3, 4, 5, 6, 7, 8, 9] [] [0, 1, 2, 3, 4, 5, 6, 7, 8, 9] rfl rfl rfl rfl (by decide) rfl rfl rfl ?_
      clear hc
      refine h_aload_n (pc := 9) C dX4_sideOf_9 rfl 0 rfl ?_
      refine h_get (pc := 10) (ci := 2) (C0 := RX4) (T := TX4) (N := 3) C uX4_sideOf_X4 rfl 0 rfl 0 (by decide) (List.mem_of_getElem? (i := 1) rfl) rfl rfl dX4_sideOf_10 ?_
      refine h_iload_n (pc := 13) C dX4_sideOf_13 rfl 1 rfl ?_
      obtain ⟨v3, hc, hf⟩ := jbd_s hf
      refine h_callV (pc := 14) (q0 := 1) (As := [.int a1]) (rest := []) (ws' := (wX cT ad areas keys there order added size loads widths height ranks)) (st2 := .int v3 :: []) C (c_X2_areaOf l D cT ad n areas keys there order added size a1 v3 hc) (cwV 1 C.1.2.2.2.2 gX4_sideOf_X2_areaOf rfl rfl rfl pv_X2_areaOf ⟨(Nat.le_of_ble_eq_true rfl), (Nat.le_of_ble_eq_true rfl)⟩) dX4_sideOf_14 rfl rfl rfl rfl rfl (Nat.le_of_ble_eq_true rfl) ⟨rfl, rfl⟩ ⟨(Nat.le_of_ble_eq_true rfl), (Nat.le_of_ble_eq_true rfl)⟩ [1, 2, 3, 4, 5] [0, 6, 7, 8, 9] [0, 5, 6, 7, 8, 9, 1, 2, 3, 4] rfl rfl rfl rfl (by decide) rfl rfl rfl ?_
      clear hc
      refine h_iload_n (pc := 17) C dX4_sideOf_17 rfl 2 rfl ?_
      obtain ⟨v4, hc, hf⟩ := jbd_s hf
      refine h_callP (pc := 18) (As := [.int v3, .int a2]) (rest := []) (st2 := .int v4 :: []) C (c_X0_side l D cT ad n v3 a2 v4 hc) (va_cwS 2 C.1.2.2.2.2 gX4_sideOf_X0_side rfl rfl rfl ps_X0_side ⟨(Nat.le_of_ble_eq_true rfl), (Nat.le_of_ble_eq_true rfl)⟩) dX4_sideOf_18 rfl rfl (Nat.le_of_ble_eq_true rfl) ⟨rfl, rfl⟩ ⟨(Nat.le_of_ble_eq_true rfl), (Nat.le_of_ble_eq_true rfl)⟩ rfl ?_
      clear hc
      exact absurd (Prod.mk.inj (Option.some.inj hf)).1.symm hk0
    · replace hf := jif_f hk hf
      have g0 := (Prod.mk.inj (Option.some.inj hf)).1
      have g1 := (Prod.mk.inj (Option.some.inj hf)).2
      clear hf
      subst g0
      subst g1
      exact h_xV (pc := 6) (q0 := 0) (As := [.int a1]) (rest := []) (ws' := (wX cT ad areas keys there order added size loads widths height ranks)) C X.1 (x_X4_checkBox hX0 D cT ad n areas keys there order added size loads widths height ranks a1 v2 hk hc) (cwV 1 C.1.2.2.2.2 gX4_sideOf_X4_checkBox rfl rfl rfl pv_X4_checkBox ⟨(Nat.le_of_ble_eq_true rfl), (Nat.le_of_ble_eq_true rfl)⟩) dX4_sideOf_6 rfl rfl rfl rfl rfl (Nat.le_of_ble_eq_true rfl) ⟨(Nat.le_of_ble_eq_true rfl), (Nat.le_of_ble_eq_true rfl)⟩ [0, 1, 2, 3, 4, 5, 6, 7, 8, 9] [] [0, 1, 2, 3, 4, 5, 6, 7, 8, 9] rfl rfl rfl rfl (by decide) rfl rfl (h_outK C X ⟨(Nat.le_of_ble_eq_true rfl), (Nat.le_of_ble_eq_true rfl)⟩)
  · replace hf := jif_f hk hf
    have g0 := (Prod.mk.inj (Option.some.inj hf)).1
    have g1 := (Prod.mk.inj (Option.some.inj hf)).2
    clear hf
    subst g0
    subst g1
    exact h_xS (pc := 1) (As := [.int a2]) (rest := []) C X.1 (x_X4_checkSide hX0 D cT ad n a2 v1 hk hc) (va_cwS 1 C.1.2.2.2.2 gX4_sideOf_X4_checkSide rfl rfl rfl ps_X4_checkSide ⟨(Nat.le_of_ble_eq_true rfl), (Nat.le_of_ble_eq_true rfl)⟩) dX4_sideOf_1 rfl rfl (Nat.le_of_ble_eq_true rfl) ⟨(Nat.le_of_ble_eq_true rfl), (Nat.le_of_ble_eq_true rfl)⟩ (h_outK C X ⟨(Nat.le_of_ble_eq_true rfl), (Nat.le_of_ble_eq_true rfl)⟩)
abbrev rmX4_levels : Room := { frames := 1, cells := 0, slots := 0, locals := 20 }
theorem uX4_levels_X4 : ∀ w ∈ u_ws RX4 TX4 3, w ∈ wsX4_levels := fun w h => List.mem_cons_of_mem _ (List.mem_append_left _ (List.mem_append_right _ h))
set_option maxRecDepth 100000 in
set_option maxHeartbeats 4000000 in
theorem c_X4_levels (l : Launch) (D : va_G) (cT : Nat → ClassId) (ad : Nat → Nat) (n : Nat) (areas : Nat → Int32) (keys : Nat → Int32) (there : Nat → Int32) (order : Nat → Int32) (added : Int32) (size : Int32) (loads : Nat → Int32) (widths : Nat → Int32) (height : Int32) (ranks : Nat → Int32)  (r : Int32) (hf : f_X4_levels n height = some r) : cM l yX4_levels wsX4_levels rmX4_levels D (ty4 cT) [.ref (ad 0)] (wX cT ad areas keys there order added size loads widths height ranks) (some (.int r)) (wX cT ad areas keys there order added size loads widths height ranks) := by
  refine cM_of (cc := cX4_levels) (maxL := 1) (ret := (some .int)) (own := RX4) (lv := [(0, .ref (ad 0))]) (by decide) rfl (Nat.le_of_ble_eq_true rfl) rfl rfl ?_
  intro p e s m args below meth c A C hr
  unfold f_X4_levels at hf
  refine h_aload_n (pc := 0) C dX4_levels_0 rfl 0 rfl ?_
  refine h_get (pc := 1) (ci := 2) (C0 := RX4) (T := TX4) (N := 3) C uX4_levels_X4 rfl 0 rfl 1 (by decide) (List.mem_of_getElem? (i := 1) rfl) rfl rfl dX4_levels_1 ?_
  obtain ⟨v1, hc, hf⟩ := jbd_s hf
  refine h_callV (pc := 4) (q0 := 6) (As := []) (rest := []) (ws' := (wX cT ad areas keys there order added size loads widths height ranks)) (st2 := .int v1 :: []) C (c_X3_height l D cT ad n loads widths height v1 hc) (cwV 0 C.1.2.2.2.2 gX4_levels_X3_height rfl rfl rfl pv_X3_height ⟨(Nat.le_of_ble_eq_true rfl), (Nat.le_of_ble_eq_true rfl)⟩) dX4_levels_4 rfl rfl rfl rfl rfl (Nat.le_of_ble_eq_true rfl) ⟨rfl, rfl⟩ ⟨(Nat.le_of_ble_eq_true rfl), (Nat.le_of_ble_eq_true rfl)⟩ [6, 7, 8] [0, 1, 2, 3, 4, 5, 9] [0, 1, 2, 3, 4, 5, 7, 8, 9, 6] rfl rfl rfl rfl (by decide) rfl rfl rfl ?_
  clear hc
  have g0 := (Option.some.inj hf)
  clear hf
  subst g0
  exact h_iret C hr dX4_levels_7
theorem pv_X4_levels : yX4_levels.cls = RX4 ∧ yX4_levels.cls ≠ "java/lang/invoke/MethodHandle" ∧ yX4_levels.cls ≠ "java/lang/invoke/VarHandle" ∧ (parseMethodDescriptor yX4_levels.desc).map (fun d => d.parameters.length) = some 0 := by decide +kernel
abbrev rmX4_nodes : Room := { frames := 6, cells := 0, slots := 0, locals := 90 }
theorem uX4_nodes_X4 : ∀ w ∈ u_ws RX4 TX4 3, w ∈ wsX4_nodes := fun w h => List.mem_cons_of_mem _ (List.mem_append_left _ (List.mem_append_left _ (List.mem_append_right _ h)))
set_option maxRecDepth 100000 in
set_option maxHeartbeats 4000000 in
theorem c_X4_nodes (l : Launch) (D : va_G) (cT : Nat → ClassId) (ad : Nat → Nat) (n : Nat) (areas : Nat → Int32) (keys : Nat → Int32) (there : Nat → Int32) (order : Nat → Int32) (added : Int32) (size : Int32) (loads : Nat → Int32) (widths : Nat → Int32) (height : Int32) (ranks : Nat → Int32) (a1 : Int32) (r : Int32) (k : Nat) (hk0 : k = 0) (hf : f_X4_nodes n widths height a1 = some (k, r)) : cM l yX4_nodes wsX4_nodes rmX4_nodes D (ty4 cT) [.ref (ad 0), .int a1] (wX cT ad areas keys there order added size loads widths height ranks) (some (.int r)) (wX cT ad areas keys there order added size loads widths height ranks) := by
  refine cM_of (cc := cX4_nodes) (maxL := 2) (ret := (some .int)) (own := RX4) (lv := [(0, .ref (ad 0)), (1, .int a1)]) (by decide) rfl (Nat.le_of_ble_eq_true rfl) rfl rfl ?_
  intro p e s m args below meth c A C hr
  unfold f_X4_nodes at hf
  refine h_aload_n (pc := 0) C dX4_nodes_0 rfl 0 rfl ?_
  refine h_get (pc := 1) (ci := 2) (C0 := RX4) (T := TX4) (N := 3) C uX4_nodes_X4 rfl 0 rfl 1 (by decide) (List.mem_of_getElem? (i := 3) rfl) rfl rfl dX4_nodes_1 ?_
  refine h_iload_n (pc := 4) C dX4_nodes_4 rfl 1 rfl ?_
  obtain ⟨v1, hc, hf⟩ := jbd_s hf
  refine h_callV (pc := 5) (q0 := 6) (As := [.int a1]) (rest := []) (ws' := (wX cT ad areas keys there order added size loads widths height ranks)) (st2 := .int v1 :: []) C (c_X3_hasLevel l D cT ad n loads widths height a1 v1 hc) (cwV 1 C.1.2.2.2.2 gX4_nodes_X3_hasLevel rfl rfl rfl pv_X3_hasLevel ⟨(Nat.le_of_ble_eq_true rfl), (Nat.le_of_ble_eq_true rfl)⟩) dX4_nodes_5 rfl rfl rfl rfl rfl (Nat.le_of_ble_eq_true rfl) ⟨rfl, rfl⟩ ⟨(Nat.le_of_ble_eq_true rfl), (Nat.le_of_ble_eq_true rfl)⟩ [6, 7, 8] [0, 1, 2, 3, 4, 5, 9] [0, 1, 2, 3, 4, 5, 7, 8, 9, 6] rfl rfl rfl rfl (by decide) rfl rfl rfl ?_
  clear hc
  refine h_if_ne (pc := 8) (tgt := 21) C dX4_nodes_8 (by decide) (fun q => ?_) (fun q => ?_)
  · replace hf := jif_f q hf
    clear q
    refine h_aload_n (pc := 21) C dX4_nodes_21 rfl 0 rfl ?_
    refine h_get (pc := 22) (ci := 2) (C0 := RX4) (T := TX4) (N := 3) C uX4_nodes_X4 rfl 0 rfl 1 (by decide) (List.mem_of_getElem? (i := 3) rfl) rfl rfl dX4_nodes_22 ?_
    refine h_iload_n (pc := 25) C dX4_nodes_25 rfl 1 rfl ?_
    obtain ⟨v2, hc, hf⟩ := jbd_s hf
    refine h_callV (pc := 26) (q0 := 6) (As := [.int a1]) (rest := []) (ws' := (wX cT ad areas keys there order added size loads widths height ranks)) (st2 := .int v2 :: []) C (c_X3_width l D cT ad n loads widths height a1 v2 hc) (cwV 1 C.1.2.2.2.2 gX4_nodes_X3_width rfl rfl rfl pv_X3_width ⟨(Nat.le_of_ble_eq_true rfl), (Nat.le_of_ble_eq_true rfl)⟩) dX4_nodes_26 rfl rfl rfl rfl rfl (Nat.le_of_ble_eq_true rfl) ⟨rfl, rfl⟩ ⟨(Nat.le_of_ble_eq_true rfl), (Nat.le_of_ble_eq_true rfl)⟩ [6, 7, 8] [0, 1, 2, 3, 4, 5, 9] [0, 1, 2, 3, 4, 5, 7, 8, 9, 6] rfl rfl rfl rfl (by decide) rfl rfl rfl ?_
    clear hc
    have g0 := (Prod.mk.inj (Option.some.inj hf)).1
    have g1 := (Prod.mk.inj (Option.some.inj hf)).2
    clear hf
    subst g0
    subst g1
    exact h_iret C hr dX4_nodes_29
  · replace hf := jif_t q hf
    clear q
    exact absurd ((Prod.mk.inj (Option.some.inj hf)).1.trans hk0) (by decide)
theorem pv_X4_nodes : yX4_nodes.cls = RX4 ∧ yX4_nodes.cls ≠ "java/lang/invoke/MethodHandle" ∧ yX4_nodes.cls ≠ "java/lang/invoke/VarHandle" ∧ (parseMethodDescriptor yX4_nodes.desc).map (fun d => d.parameters.length) = some 1 := by decide +kernel
abbrev rxX4_nodes : Room := { frames := 6, cells := 1, slots := 6, locals := 90 }
set_option maxRecDepth 100000 in
set_option maxHeartbeats 4000000 in
theorem x_X4_nodes {l : Launch} (hX0 : l.stackTraces = false) (D : va_G) (cT : Nat → ClassId) (ad : Nat → Nat) (n : Nat) (areas : Nat → Int32) (keys : Nat → Int32) (there : Nat → Int32) (order : Nat → Int32) (added : Int32) (size : Int32) (loads : Nat → Int32) (widths : Nat → Int32) (height : Int32) (ranks : Nat → Int32) (a1 : Int32) (r : Int32) (k : Nat) (hk0 : ¬ k = 0) (hf : f_X4_nodes n widths height a1 = some (k, r)) : xM l yX4_nodes wsX4_nodes rxX4_nodes D (ty4 cT) [.ref (ad 0), .int a1] (wX cT ad areas keys there order added size loads widths height ranks) (xE k) (wX cT ad areas keys there order added size loads widths height ranks) := by
  refine xM_of (cc := cX4_nodes) (maxL := 2) (ret := (some .int)) (own := RX4) (lv := [(0, .ref (ad 0)), (1, .int a1)]) hX0 (by decide) rfl (Nat.le_of_ble_eq_true rfl) rfl rfl ?_
  intro p e s m args below meth c A C X
  unfold f_X4_nodes at hf
  refine h_aload_n (pc := 0) C dX4_nodes_0 rfl 0 rfl ?_
  refine h_get (pc := 1) (ci := 2) (C0 := RX4) (T := TX4) (N := 3) C uX4_nodes_X4 rfl 0 rfl 1 (by decide) (List.mem_of_getElem? (i := 3) rfl) rfl rfl dX4_nodes_1 ?_
  refine h_iload_n (pc := 4) C dX4_nodes_4 rfl 1 rfl ?_
  obtain ⟨v1, hc, hf⟩ := jbd_s hf
  refine h_callV (pc := 5) (q0 := 6) (As := [.int a1]) (rest := []) (ws' := (wX cT ad areas keys there order added size loads widths height ranks)) (st2 := .int v1 :: []) C (c_X3_hasLevel l D cT ad n loads widths height a1 v1 hc) (cwV 1 C.1.2.2.2.2 gX4_nodes_X3_hasLevel rfl rfl rfl pv_X3_hasLevel ⟨(Nat.le_of_ble_eq_true rfl), (Nat.le_of_ble_eq_true rfl)⟩) dX4_nodes_5 rfl rfl rfl rfl rfl (Nat.le_of_ble_eq_true rfl) ⟨rfl, rfl⟩ ⟨(Nat.le_of_ble_eq_true rfl), (Nat.le_of_ble_eq_true rfl)⟩ [6, 7, 8] [0, 1, 2, 3, 4, 5, 9] [0, 1, 2, 3, 4, 5, 7, 8, 9, 6] rfl rfl rfl rfl (by decide) rfl rfl rfl ?_
  clear hc
  refine h_if_ne (pc := 8) (tgt := 21) C dX4_nodes_8 (by decide) (fun q => ?_) (fun q => ?_)
  · replace hf := jif_f q hf
    clear q
    refine h_aload_n (pc := 21) C dX4_nodes_21 rfl 0 rfl ?_
    refine h_get (pc := 22) (ci := 2) (C0 := RX4) (T := TX4) (N := 3) C uX4_nodes_X4 rfl 0 rfl 1 (by decide) (List.mem_of_getElem? (i := 3) rfl) rfl rfl dX4_nodes_22 ?_
    refine h_iload_n (pc := 25) C dX4_nodes_25 rfl 1 rfl ?_
    obtain ⟨v2, hc, hf⟩ := jbd_s hf
    refine h_callV (pc := 26) (q0 := 6) (As := [.int a1]) (rest := []) (ws' := (wX cT ad areas keys there order added size loads widths height ranks)) (st2 := .int v2 :: []) C (c_X3_width l D cT ad n loads widths height a1 v2 hc) (cwV 1 C.1.2.2.2.2 gX4_nodes_X3_width rfl rfl rfl pv_X3_width ⟨(Nat.le_of_ble_eq_true rfl), (Nat.le_of_ble_eq_true rfl)⟩) dX4_nodes_26 rfl rfl rfl rfl rfl (Nat.le_of_ble_eq_true rfl) ⟨rfl, rfl⟩ ⟨(Nat.le_of_ble_eq_true rfl), (Nat.le_of_ble_eq_true rfl)⟩ [6, 7, 8] [0, 1, 2, 3, 4, 5, 9] [0, 1, 2, 3, 4, 5, 7, 8, 9, 6] rfl rfl rfl rfl (by decide) rfl rfl rfl ?_
    clear hc
    exact absurd (Prod.mk.inj (Option.some.inj hf)).1.symm hk0
  · replace hf := jif_t q hf
    clear q
    have g0 := (Prod.mk.inj (Option.some.inj hf)).1
    have g1 := (Prod.mk.inj (Option.some.inj hf)).2
    clear hf
    subst g0
    subst g1
    exact h_throw (pc := 11) C X xin_IOE xft_IOE xft_up (List.mem_of_getElem? (i := 1) rfl) (List.mem_of_getElem? (i := 2) rfl) (List.mem_of_getElem? (i := 1) rfl) (fun w h => List.mem_cons_of_mem _ (List.mem_append_right _ h)) xng_IOE xgd_IOE dX4_nodes_11 dX4_nodes_14 dX4_nodes_15 dX4_nodes_17 dX4_nodes_20 ⟨Nat.le_of_ble_eq_true rfl, Nat.le_of_ble_eq_true rfl, Nat.le_of_ble_eq_true rfl, Nat.le_of_ble_eq_true rfl⟩ ⟨Nat.le_of_ble_eq_true rfl, Nat.le_of_ble_eq_true rfl⟩
abbrev rmX4_checkNode : Room := { frames := 6, cells := 0, slots := 0, locals := 90 }
theorem uX4_checkNode_X4 : ∀ w ∈ u_ws RX4 TX4 3, w ∈ wsX4_checkNode := fun w h => List.mem_cons_of_mem _ (List.mem_append_left _ (List.mem_append_left _ (List.mem_append_right _ h)))
set_option maxRecDepth 100000 in
set_option maxHeartbeats 4000000 in
theorem c_X4_checkNode (l : Launch) (D : va_G) (cT : Nat → ClassId) (ad : Nat → Nat) (n : Nat) (areas : Nat → Int32) (keys : Nat → Int32) (there : Nat → Int32) (order : Nat → Int32) (added : Int32) (size : Int32) (loads : Nat → Int32) (widths : Nat → Int32) (height : Int32) (ranks : Nat → Int32) (a1 : Int32) (a2 : Int32)  (k : Nat) (hk0 : k = 0) (hf : f_X4_checkNode n widths height a1 a2 = some k) : cM l yX4_checkNode wsX4_checkNode rmX4_checkNode D (ty4 cT) [.ref (ad 0), .int a1, .int a2] (wX cT ad areas keys there order added size loads widths height ranks) none (wX cT ad areas keys there order added size loads widths height ranks) := by
  refine cM_of (cc := cX4_checkNode) (maxL := 3) (ret := none) (own := RX4) (lv := [(0, .ref (ad 0)), (1, .int a1), (2, .int a2)]) (by decide) rfl (Nat.le_of_ble_eq_true rfl) rfl rfl ?_
  intro p e s m args below meth c A C hr
  unfold f_X4_checkNode at hf
  refine h_aload_n (pc := 0) C dX4_checkNode_0 rfl 0 rfl ?_
  refine h_get (pc := 1) (ci := 2) (C0 := RX4) (T := TX4) (N := 3) C uX4_checkNode_X4 rfl 0 rfl 1 (by decide) (List.mem_of_getElem? (i := 3) rfl) rfl rfl dX4_checkNode_1 ?_
  refine h_iload_n (pc := 4) C dX4_checkNode_4 rfl 1 rfl ?_
  refine h_iload_n (pc := 5) C dX4_checkNode_5 rfl 2 rfl ?_
  obtain ⟨v1, hc, hf⟩ := jbd_s hf
  refine h_callV (pc := 6) (q0 := 6) (As := [.int a1, .int a2]) (rest := []) (ws' := (wX cT ad areas keys there order added size loads widths height ranks)) (st2 := .int v1 :: []) C (c_X3_hasNode l D cT ad n loads widths height a1 a2 v1 hc) (cwV 2 C.1.2.2.2.2 gX4_checkNode_X3_hasNode rfl rfl rfl pv_X3_hasNode ⟨(Nat.le_of_ble_eq_true rfl), (Nat.le_of_ble_eq_true rfl)⟩) dX4_checkNode_6 rfl rfl rfl rfl rfl (Nat.le_of_ble_eq_true rfl) ⟨rfl, rfl⟩ ⟨(Nat.le_of_ble_eq_true rfl), (Nat.le_of_ble_eq_true rfl)⟩ [6, 7, 8] [0, 1, 2, 3, 4, 5, 9] [0, 1, 2, 3, 4, 5, 7, 8, 9, 6] rfl rfl rfl rfl (by decide) rfl rfl rfl ?_
  clear hc
  refine h_if_ne (pc := 9) (tgt := 22) C dX4_checkNode_9 (by decide) (fun q => ?_) (fun q => ?_)
  · replace hf := jif_f q hf
    clear q
    have g0 := (Option.some.inj hf)
    clear hf
    subst g0
    exact h_vret C hr dX4_checkNode_22
  · replace hf := jif_t q hf
    clear q
    exact absurd ((Option.some.inj hf).trans hk0) (by decide)
theorem pv_X4_checkNode : yX4_checkNode.cls = RX4 ∧ yX4_checkNode.cls ≠ "java/lang/invoke/MethodHandle" ∧ yX4_checkNode.cls ≠ "java/lang/invoke/VarHandle" ∧ (parseMethodDescriptor yX4_checkNode.desc).map (fun d => d.parameters.length) = some 2 := by decide +kernel
abbrev rxX4_checkNode : Room := { frames := 6, cells := 1, slots := 6, locals := 90 }
set_option maxRecDepth 100000 in
set_option maxHeartbeats 4000000 in
theorem x_X4_checkNode {l : Launch} (hX0 : l.stackTraces = false) (D : va_G) (cT : Nat → ClassId) (ad : Nat → Nat) (n : Nat) (areas : Nat → Int32) (keys : Nat → Int32) (there : Nat → Int32) (order : Nat → Int32) (added : Int32) (size : Int32) (loads : Nat → Int32) (widths : Nat → Int32) (height : Int32) (ranks : Nat → Int32) (a1 : Int32) (a2 : Int32)  (k : Nat) (hk0 : ¬ k = 0) (hf : f_X4_checkNode n widths height a1 a2 = some k) : xM l yX4_checkNode wsX4_checkNode rxX4_checkNode D (ty4 cT) [.ref (ad 0), .int a1, .int a2] (wX cT ad areas keys there order added size loads widths height ranks) (xE k) (wX cT ad areas keys there order added size loads widths height ranks) := by
  refine xM_of (cc := cX4_checkNode) (maxL := 3) (ret := none) (own := RX4) (lv := [(0, .ref (ad 0)), (1, .int a1), (2, .int a2)]) hX0 (by decide) rfl (Nat.le_of_ble_eq_true rfl) rfl rfl ?_
  intro p e s m args below meth c A C X
  unfold f_X4_checkNode at hf
  refine h_aload_n (pc := 0) C dX4_checkNode_0 rfl 0 rfl ?_
  refine h_get (pc := 1) (ci := 2) (C0 := RX4) (T := TX4) (N := 3) C uX4_checkNode_X4 rfl 0 rfl 1 (by decide) (List.mem_of_getElem? (i := 3) rfl) rfl rfl dX4_checkNode_1 ?_
  refine h_iload_n (pc := 4) C dX4_checkNode_4 rfl 1 rfl ?_
  refine h_iload_n (pc := 5) C dX4_checkNode_5 rfl 2 rfl ?_
  obtain ⟨v1, hc, hf⟩ := jbd_s hf
  refine h_callV (pc := 6) (q0 := 6) (As := [.int a1, .int a2]) (rest := []) (ws' := (wX cT ad areas keys there order added size loads widths height ranks)) (st2 := .int v1 :: []) C (c_X3_hasNode l D cT ad n loads widths height a1 a2 v1 hc) (cwV 2 C.1.2.2.2.2 gX4_checkNode_X3_hasNode rfl rfl rfl pv_X3_hasNode ⟨(Nat.le_of_ble_eq_true rfl), (Nat.le_of_ble_eq_true rfl)⟩) dX4_checkNode_6 rfl rfl rfl rfl rfl (Nat.le_of_ble_eq_true rfl) ⟨rfl, rfl⟩ ⟨(Nat.le_of_ble_eq_true rfl), (Nat.le_of_ble_eq_true rfl)⟩ [6, 7, 8] [0, 1, 2, 3, 4, 5, 9] [0, 1, 2, 3, 4, 5, 7, 8, 9, 6] rfl rfl rfl rfl (by decide) rfl rfl rfl ?_
  clear hc
  refine h_if_ne (pc := 9) (tgt := 22) C dX4_checkNode_9 (by decide) (fun q => ?_) (fun q => ?_)
  · replace hf := jif_f q hf
    clear q
    exact absurd (Option.some.inj hf).symm hk0
  · replace hf := jif_t q hf
    clear q
    have g0 := (Option.some.inj hf)
    clear hf
    subst g0
    exact h_throw (pc := 12) C X xin_IOE xft_IOE xft_up (List.mem_of_getElem? (i := 1) rfl) (List.mem_of_getElem? (i := 2) rfl) (List.mem_of_getElem? (i := 8) rfl) (fun w h => List.mem_cons_of_mem _ (List.mem_append_right _ h)) xng_IOE xgd_IOE dX4_checkNode_12 dX4_checkNode_15 dX4_checkNode_16 dX4_checkNode_18 dX4_checkNode_21 ⟨Nat.le_of_ble_eq_true rfl, Nat.le_of_ble_eq_true rfl, Nat.le_of_ble_eq_true rfl, Nat.le_of_ble_eq_true rfl⟩ ⟨Nat.le_of_ble_eq_true rfl, Nat.le_of_ble_eq_true rfl⟩
abbrev rmX4_entries : Room := { frames := 7, cells := 0, slots := 0, locals := 112 }
theorem uX4_entries_X4 : ∀ w ∈ u_ws RX4 TX4 3, w ∈ wsX4_entries := fun w h => List.mem_cons_of_mem _ (List.mem_append_left _ (List.mem_append_left _ (List.mem_append_right _ h)))
set_option maxRecDepth 100000 in
set_option maxHeartbeats 4000000 in
theorem c_X4_entries (l : Launch) (D : va_G) (cT : Nat → ClassId) (ad : Nat → Nat) (n : Nat) (areas : Nat → Int32) (keys : Nat → Int32) (there : Nat → Int32) (order : Nat → Int32) (added : Int32) (size : Int32) (loads : Nat → Int32) (widths : Nat → Int32) (height : Int32) (ranks : Nat → Int32) (a1 : Int32) (a2 : Int32) (r : Int32) (k : Nat) (hk0 : k = 0) (hf : f_X4_entries n loads widths height a1 a2 = some (k, r)) : cM l yX4_entries wsX4_entries rmX4_entries D (ty4 cT) [.ref (ad 0), .int a1, .int a2] (wX cT ad areas keys there order added size loads widths height ranks) (some (.int r)) (wX cT ad areas keys there order added size loads widths height ranks) := by
  refine cM_of (cc := cX4_entries) (maxL := 3) (ret := (some .int)) (own := RX4) (lv := [(0, .ref (ad 0)), (1, .int a1), (2, .int a2)]) (by decide) rfl (Nat.le_of_ble_eq_true rfl) rfl rfl ?_
  intro p e s m args below meth c A C hr
  unfold f_X4_entries at hf
  refine h_aload_n (pc := 0) C dX4_entries_0 rfl 0 rfl ?_
  refine h_iload_n (pc := 1) C dX4_entries_1 rfl 1 rfl ?_
  refine h_iload_n (pc := 2) C dX4_entries_2 rfl 2 rfl ?_
  obtain ⟨v1, hc, hf⟩ := jbd_s hf
  by_cases hk : v1 = 0
  · replace hf := jif_t hk hf
    refine h_callV (pc := 3) (q0 := 0) (As := [.int a1, .int a2]) (rest := []) (ws' := (wX cT ad areas keys there order added size loads widths height ranks)) (st2 := []) C (c_X4_checkNode l D cT ad n areas keys there order added size loads widths height ranks a1 a2 v1 hk hc) (cwV 2 C.1.2.2.2.2 gX4_entries_X4_checkNode rfl rfl rfl pv_X4_checkNode ⟨(Nat.le_of_ble_eq_true rfl), (Nat.le_of_ble_eq_true rfl)⟩) dX4_entries_3 rfl rfl rfl rfl rfl (Nat.le_of_ble_eq_true rfl) ⟨rfl, rfl⟩ ⟨(Nat.le_of_ble_eq_true rfl), (Nat.le_of_ble_eq_true rfl)⟩ [0, 1, 2, 3, 4, 5, 6, 7, 8, 9] [] [0, 1, 2, 3, 4, 5, 6, 7, 8, 9] rfl rfl rfl rfl (by decide) rfl rfl rfl ?_
    clear hc
    refine h_aload_n (pc := 6) C dX4_entries_6 rfl 0 rfl ?_
    refine h_get (pc := 7) (ci := 2) (C0 := RX4) (T := TX4) (N := 3) C uX4_entries_X4 rfl 0 rfl 1 (by decide) (List.mem_of_getElem? (i := 1) rfl) rfl rfl dX4_entries_7 ?_
    refine h_iload_n (pc := 10) C dX4_entries_10 rfl 1 rfl ?_
    refine h_iload_n (pc := 11) C dX4_entries_11 rfl 2 rfl ?_
    obtain ⟨v2, hc, hf⟩ := jbd_s hf
    refine h_callV (pc := 12) (q0 := 6) (As := [.int a1, .int a2]) (rest := []) (ws' := (wX cT ad areas keys there order added size loads widths height ranks)) (st2 := .int v2 :: []) C (c_X3_load l D cT ad n loads widths height a1 a2 v2 hc) (cwV 2 C.1.2.2.2.2 gX4_entries_X3_load rfl rfl rfl pv_X3_load ⟨(Nat.le_of_ble_eq_true rfl), (Nat.le_of_ble_eq_true rfl)⟩) dX4_entries_12 rfl rfl rfl rfl rfl (Nat.le_of_ble_eq_true rfl) ⟨rfl, rfl⟩ ⟨(Nat.le_of_ble_eq_true rfl), (Nat.le_of_ble_eq_true rfl)⟩ [6, 7, 8] [0, 1, 2, 3, 4, 5, 9] [0, 1, 2, 3, 4, 5, 7, 8, 9, 6] rfl rfl rfl rfl (by decide) rfl rfl rfl ?_
    clear hc
    have g0 := (Prod.mk.inj (Option.some.inj hf)).1
    have g1 := (Prod.mk.inj (Option.some.inj hf)).2
    clear hf
    subst g0
    subst g1
    exact h_iret C hr dX4_entries_15
  · replace hf := jif_f hk hf
    exact absurd ((Prod.mk.inj (Option.some.inj hf)).1.trans hk0) hk
theorem pv_X4_entries : yX4_entries.cls = RX4 ∧ yX4_entries.cls ≠ "java/lang/invoke/MethodHandle" ∧ yX4_entries.cls ≠ "java/lang/invoke/VarHandle" ∧ (parseMethodDescriptor yX4_entries.desc).map (fun d => d.parameters.length) = some 2 := by decide +kernel
abbrev rxX4_entries : Room := { frames := 7, cells := 1, slots := 6, locals := 112 }
set_option maxRecDepth 100000 in
set_option maxHeartbeats 4000000 in
theorem x_X4_entries {l : Launch} (hX0 : l.stackTraces = false) (D : va_G) (cT : Nat → ClassId) (ad : Nat → Nat) (n : Nat) (areas : Nat → Int32) (keys : Nat → Int32) (there : Nat → Int32) (order : Nat → Int32) (added : Int32) (size : Int32) (loads : Nat → Int32) (widths : Nat → Int32) (height : Int32) (ranks : Nat → Int32) (a1 : Int32) (a2 : Int32) (r : Int32) (k : Nat) (hk0 : ¬ k = 0) (hf : f_X4_entries n loads widths height a1 a2 = some (k, r)) : xM l yX4_entries wsX4_entries rxX4_entries D (ty4 cT) [.ref (ad 0), .int a1, .int a2] (wX cT ad areas keys there order added size loads widths height ranks) (xE k) (wX cT ad areas keys there order added size loads widths height ranks) := by
  refine xM_of (cc := cX4_entries) (maxL := 3) (ret := (some .int)) (own := RX4) (lv := [(0, .ref (ad 0)), (1, .int a1), (2, .int a2)]) hX0 (by decide) rfl (Nat.le_of_ble_eq_true rfl) rfl rfl ?_
  intro p e s m args below meth c A C X
  unfold f_X4_entries at hf
  refine h_aload_n (pc := 0) C dX4_entries_0 rfl 0 rfl ?_
  refine h_iload_n (pc := 1) C dX4_entries_1 rfl 1 rfl ?_
  refine h_iload_n (pc := 2) C dX4_entries_2 rfl 2 rfl ?_
  obtain ⟨v1, hc, hf⟩ := jbd_s hf
  by_cases hk : v1 = 0
  · replace hf := jif_t hk hf
    refine h_callV (pc := 3) (q0 := 0) (As := [.int a1, .int a2]) (rest := []) (ws' := (wX cT ad areas keys there order added size loads widths height ranks)) (st2 := []) C (c_X4_checkNode l D cT ad n areas keys there order added size loads widths height ranks a1 a2 v1 hk hc) (cwV 2 C.1.2.2.2.2 gX4_entries_X4_checkNode rfl rfl rfl pv_X4_checkNode ⟨(Nat.le_of_ble_eq_true rfl), (Nat.le_of_ble_eq_true rfl)⟩) dX4_entries_3 rfl rfl rfl rfl rfl (Nat.le_of_ble_eq_true rfl) ⟨rfl, rfl⟩ ⟨(Nat.le_of_ble_eq_true rfl), (Nat.le_of_ble_eq_true rfl)⟩ [0, 1, 2, 3, 4, 5, 6, 7, 8, 9] [] [0, 1, 2, 3, 4, 5, 6, 7, 8, 9] rfl rfl rfl rfl (by decide) rfl rfl rfl ?_
    clear hc
    refine h_aload_n (pc := 6) C dX4_entries_6 rfl 0 rfl ?_
    refine h_get (pc := 7) (ci := 2) (C0 := RX4) (T := TX4) (N := 3) C uX4_entries_X4 rfl 0 rfl 1 (by decide) (List.mem_of_getElem? (i := 1) rfl) rfl rfl dX4_entries_7 ?_
    refine h_iload_n (pc := 10) C dX4_entries_10 rfl 1 rfl ?_
    refine h_iload_n (pc := 11) C dX4_entries_11 rfl 2 rfl ?_
    obtain ⟨v2, hc, hf⟩ := jbd_s hf
    refine h_callV (pc := 12) (q0 := 6) (As := [.int a1, .int a2]) (rest := []) (ws' := (wX cT ad areas keys there order added size loads widths height ranks)) (st2 := .int v2 :: []) C (c_X3_load l D cT ad n loads widths height a1 a2 v2 hc) (cwV 2 C.1.2.2.2.2 gX4_entries_X3_load rfl rfl rfl pv_X3_load ⟨(Nat.le_of_ble_eq_true rfl), (Nat.le_of_ble_eq_true rfl)⟩) dX4_entries_12 rfl rfl rfl rfl rfl (Nat.le_of_ble_eq_true rfl) ⟨rfl, rfl⟩ ⟨(Nat.le_of_ble_eq_true rfl), (Nat.le_of_ble_eq_true rfl)⟩ [6, 7, 8] [0, 1, 2, 3, 4, 5, 9] [0, 1, 2, 3, 4, 5, 7, 8, 9, 6] rfl rfl rfl rfl (by decide) rfl rfl rfl ?_
    clear hc
    exact absurd (Prod.mk.inj (Option.some.inj hf)).1.symm hk0
  · replace hf := jif_f hk hf
    have g0 := (Prod.mk.inj (Option.some.inj hf)).1
    have g1 := (Prod.mk.inj (Option.some.inj hf)).2
    clear hf
    subst g0
    subst g1
    exact h_xV (pc := 3) (q0 := 0) (As := [.int a1, .int a2]) (rest := []) (ws' := (wX cT ad areas keys there order added size loads widths height ranks)) C X.1 (x_X4_checkNode hX0 D cT ad n areas keys there order added size loads widths height ranks a1 a2 v1 hk hc) (cwV 2 C.1.2.2.2.2 gX4_entries_X4_checkNode rfl rfl rfl pv_X4_checkNode ⟨(Nat.le_of_ble_eq_true rfl), (Nat.le_of_ble_eq_true rfl)⟩) dX4_entries_3 rfl rfl rfl rfl rfl (Nat.le_of_ble_eq_true rfl) ⟨(Nat.le_of_ble_eq_true rfl), (Nat.le_of_ble_eq_true rfl)⟩ [0, 1, 2, 3, 4, 5, 6, 7, 8, 9] [] [0, 1, 2, 3, 4, 5, 6, 7, 8, 9] rfl rfl rfl rfl (by decide) rfl rfl (h_outK C X ⟨(Nat.le_of_ble_eq_true rfl), (Nat.le_of_ble_eq_true rfl)⟩)
abbrev rmX4_coverOf : Room := { frames := 4, cells := 0, slots := 0, locals := 93 }
theorem uX4_coverOf_X4 : ∀ w ∈ u_ws RX4 TX4 3, w ∈ wsX4_coverOf := fun w h => List.mem_cons_of_mem _ (List.mem_append_left _ (List.mem_append_left _ (List.mem_append_right _ h)))
set_option maxRecDepth 100000 in
set_option maxHeartbeats 4000000 in
theorem k_X4_coverOf_38 {p : Program} {e : Env} {s : State} {m : MethodId} {args : Array Value} {below : List Frame} {meth : Method} {c : Code} {A : Nat → Prop} (l : Launch) (D : va_G) (cT : Nat → ClassId) (ad : Nat → Nat) (C : hC p s m args meth c cX4_coverOf 7 wsX4_coverOf RX4 D (ty4 cT) A) (hr : meth.sig.returnType = (some .int)) (n : Nat) (areas : Nat → Int32) (keys : Nat → Int32) (there : Nat → Int32) (order : Nat → Int32) (added : Int32) (size : Int32) (loads : Nat → Int32) (widths : Nat → Int32) (height : Int32) (ranks : Nat → Int32) (r : Int32)  : ∀ (fu : Nat)  (x4 : Int32) (x5 : Int32) (x6 : Int32), f_X4_coverOf_38 n areas order size loads widths height fu x4 x5 x6 = some r → hS p l e rmX4_coverOf s m args below meth c 7 D A 0 0 (MQ below (cQ D (ty4 cT) A (some (.int r)) (wX cT ad areas keys there order added size loads widths height ranks)) args s 0 0 A) 38 [(0, .ref (ad 0)), (4, .int x4), (5, .int x5), (6, .int x6)] [] (wX cT ad areas keys there order added size loads widths height ranks) := by
  intro fu
  induction fu with
  | zero =>
    intro x4 x5 x6 hf
    exact nomatch (show (none : Option (Int32)) = some r from hf)
  | succ fu ih =>
    intro x4 x5 x6 hf
    rw [f_X4_coverOf_38] at hf
    refine h_iload (pc := 38) C dX4_coverOf_38 3 rfl ?_
    refine h_iload (pc := 40) C dX4_coverOf_40 1 rfl ?_
    refine h_icmp_ge (pc := 42) (tgt := 67) C dX4_coverOf_42 (by decide) (fun q => ?_) (fun q => ?_)
    · replace hf := jif_t q hf
      clear q
      refine h_iload (pc := 67) C dX4_coverOf_67 2 rfl ?_
      have g0 := (Option.some.inj hf)
      clear hf
      subst g0
      exact h_iret C hr dX4_coverOf_69
    · replace hf := jif_f q hf
      clear q
      refine h_iload (pc := 45) C dX4_coverOf_45 2 rfl ?_
      refine h_aload_n (pc := 47) C dX4_coverOf_47 rfl 0 rfl ?_
      refine h_get (pc := 48) (ci := 2) (C0 := RX4) (T := TX4) (N := 3) C uX4_coverOf_X4 rfl 0 rfl 0 (by decide) (List.mem_of_getElem? (i := 2) rfl) rfl rfl dX4_coverOf_48 ?_
      refine h_iload (pc := 51) C dX4_coverOf_51 3 rfl ?_
      obtain ⟨v4, hc, hf⟩ := jbd_s hf
      refine h_callV (pc := 53) (q0 := 1) (As := [.int x6]) (rest := .int x5 :: []) (ws' := (wX cT ad areas keys there order added size loads widths height ranks)) (st2 := .int v4 :: .int x5 :: []) C (c_X2_areaAt l D cT ad n areas keys there order added size x6 v4 hc) (cwV 1 C.1.2.2.2.2 gX4_coverOf_X2_areaAt rfl rfl rfl pv_X2_areaAt ⟨(Nat.le_of_ble_eq_true rfl), (Nat.le_of_ble_eq_true rfl)⟩) dX4_coverOf_53 rfl rfl rfl rfl rfl (Nat.le_of_ble_eq_true rfl) ⟨rfl, rfl⟩ ⟨(Nat.le_of_ble_eq_true rfl), (Nat.le_of_ble_eq_true rfl)⟩ [1, 2, 3, 4, 5] [0, 6, 7, 8, 9] [0, 5, 6, 7, 8, 9, 1, 2, 3, 4] rfl rfl rfl rfl (by decide) rfl rfl rfl ?_
      clear hc
      obtain ⟨v5, hc, hf⟩ := jbd_s hf
      refine h_callP (pc := 56) (As := [.int x5, .int v4]) (rest := []) (st2 := .int v5 :: []) C (c_X0_around l D cT ad n x5 v4 v5 hc) (va_cwS 2 C.1.2.2.2.2 gX4_coverOf_X0_around rfl rfl rfl ps_X0_around ⟨(Nat.le_of_ble_eq_true rfl), (Nat.le_of_ble_eq_true rfl)⟩) dX4_coverOf_56 rfl rfl (Nat.le_of_ble_eq_true rfl) ⟨rfl, rfl⟩ ⟨(Nat.le_of_ble_eq_true rfl), (Nat.le_of_ble_eq_true rfl)⟩ rfl ?_
      clear hc
      refine h_istore (pc := 59) (lv' := [(5, .int v5), (0, .ref (ad 0)), (4, .int x4), (6, .int x6)]) C dX4_coverOf_59 (by decide) rfl ?_
      refine h_iinc (pc := 61) (v := x6 + 1) (lv' := [(6, .int (x6 + 1)), (5, .int v5), (0, .ref (ad 0)), (4, .int x4)]) C dX4_coverOf_61 3 rfl (ji_1 _) (by decide) rfl ?_
      refine h_goto (pc := 64) (tgt := 38) C dX4_coverOf_64 (by decide) ?_
      refine h_sub [2, 3, 1, 0] rfl ?_
      exact ih x4 v5 (x6 + 1) hf
set_option maxRecDepth 100000 in
set_option maxHeartbeats 4000000 in
theorem c_X4_coverOf (l : Launch) (D : va_G) (cT : Nat → ClassId) (ad : Nat → Nat) (n : Nat) (areas : Nat → Int32) (keys : Nat → Int32) (there : Nat → Int32) (order : Nat → Int32) (added : Int32) (size : Int32) (loads : Nat → Int32) (widths : Nat → Int32) (height : Int32) (ranks : Nat → Int32) (a1 : Int32) (a2 : Int32) (r : Int32) (hf : f_X4_coverOf n areas order size loads widths height a1 a2 = some r) : cM l yX4_coverOf wsX4_coverOf rmX4_coverOf D (ty4 cT) [.ref (ad 0), .int a1, .int a2] (wX cT ad areas keys there order added size loads widths height ranks) (some (.int r)) (wX cT ad areas keys there order added size loads widths height ranks) := by
  refine cM_of (cc := cX4_coverOf) (maxL := 7) (ret := (some .int)) (own := RX4) (lv := [(0, .ref (ad 0)), (1, .int a1), (2, .int a2)]) (by decide) rfl (Nat.le_of_ble_eq_true rfl) rfl rfl ?_
  intro p e s m args below meth c A C hr
  unfold f_X4_coverOf at hf
  refine h_aload_n (pc := 0) C dX4_coverOf_0 rfl 0 rfl ?_
  refine h_get (pc := 1) (ci := 2) (C0 := RX4) (T := TX4) (N := 3) C uX4_coverOf_X4 rfl 0 rfl 1 (by decide) (List.mem_of_getElem? (i := 1) rfl) rfl rfl dX4_coverOf_1 ?_
  refine h_iload_n (pc := 4) C dX4_coverOf_4 rfl 1 rfl ?_
  refine h_iload_n (pc := 5) C dX4_coverOf_5 rfl 2 rfl ?_
  obtain ⟨v1, hc, hf⟩ := jbd_s hf
  refine h_callV (pc := 6) (q0 := 6) (As := [.int a1, .int a2]) (rest := []) (ws' := (wX cT ad areas keys there order added size loads widths height ranks)) (st2 := .int v1 :: []) C (c_X3_boxesBefore l D cT ad n loads widths height a1 a2 v1 hc) (cwV 2 C.1.2.2.2.2 gX4_coverOf_X3_boxesBefore rfl rfl rfl pv_X3_boxesBefore ⟨(Nat.le_of_ble_eq_true rfl), (Nat.le_of_ble_eq_true rfl)⟩) dX4_coverOf_6 rfl rfl rfl rfl rfl (Nat.le_of_ble_eq_true rfl) ⟨rfl, rfl⟩ ⟨(Nat.le_of_ble_eq_true rfl), (Nat.le_of_ble_eq_true rfl)⟩ [6, 7, 8] [0, 1, 2, 3, 4, 5, 9] [0, 1, 2, 3, 4, 5, 7, 8, 9, 6] rfl rfl rfl rfl (by decide) rfl rfl rfl ?_
  clear hc
  refine h_istore_n (pc := 9) (lv' := [(3, .int v1), (0, .ref (ad 0)), (1, .int a1), (2, .int a2)]) C dX4_coverOf_9 rfl (by decide) rfl ?_
  refine h_aload_n (pc := 10) C dX4_coverOf_10 rfl 1 rfl ?_
  refine h_get (pc := 11) (ci := 2) (C0 := RX4) (T := TX4) (N := 3) C uX4_coverOf_X4 rfl 0 rfl 1 (by decide) (List.mem_of_getElem? (i := 1) rfl) rfl rfl dX4_coverOf_11 ?_
  refine h_iload_n (pc := 14) C dX4_coverOf_14 rfl 2 rfl ?_
  refine h_iload_n (pc := 15) C dX4_coverOf_15 rfl 3 rfl ?_
  refine h_iconst (pc := 16) C dX4_coverOf_16 jc_1 ?_
  refine h_iadd (pc := 17) C dX4_coverOf_17 ?_
  obtain ⟨v2, hc, hf⟩ := jbd_s hf
  refine h_callV (pc := 18) (q0 := 6) (As := [.int a1, .int (a2 + 1)]) (rest := []) (ws' := (wX cT ad areas keys there order added size loads widths height ranks)) (st2 := .int v2 :: []) C (c_X3_boxesBefore l D cT ad n loads widths height a1 (a2 + 1) v2 hc) (cwV 2 C.1.2.2.2.2 gX4_coverOf_X3_boxesBefore rfl rfl rfl pv_X3_boxesBefore ⟨(Nat.le_of_ble_eq_true rfl), (Nat.le_of_ble_eq_true rfl)⟩) dX4_coverOf_18 rfl rfl rfl rfl rfl (Nat.le_of_ble_eq_true rfl) ⟨rfl, rfl⟩ ⟨(Nat.le_of_ble_eq_true rfl), (Nat.le_of_ble_eq_true rfl)⟩ [6, 7, 8] [0, 1, 2, 3, 4, 5, 9] [0, 1, 2, 3, 4, 5, 7, 8, 9, 6] rfl rfl rfl rfl (by decide) rfl rfl rfl ?_
  clear hc
  refine h_istore (pc := 21) (lv' := [(4, .int v2), (3, .int v1), (0, .ref (ad 0)), (1, .int a1), (2, .int a2)]) C dX4_coverOf_21 (by decide) rfl ?_
  refine h_aload_n (pc := 23) C dX4_coverOf_23 rfl 2 rfl ?_
  refine h_get (pc := 24) (ci := 2) (C0 := RX4) (T := TX4) (N := 3) C uX4_coverOf_X4 rfl 0 rfl 0 (by decide) (List.mem_of_getElem? (i := 2) rfl) rfl rfl dX4_coverOf_24 ?_
  refine h_iload_n (pc := 27) C dX4_coverOf_27 rfl 1 rfl ?_
  obtain ⟨v3, hc, hf⟩ := jbd_s hf
  refine h_callV (pc := 28) (q0 := 1) (As := [.int v1]) (rest := []) (ws' := (wX cT ad areas keys there order added size loads widths height ranks)) (st2 := .int v3 :: []) C (c_X2_areaAt l D cT ad n areas keys there order added size v1 v3 hc) (cwV 1 C.1.2.2.2.2 gX4_coverOf_X2_areaAt rfl rfl rfl pv_X2_areaAt ⟨(Nat.le_of_ble_eq_true rfl), (Nat.le_of_ble_eq_true rfl)⟩) dX4_coverOf_28 rfl rfl rfl rfl rfl (Nat.le_of_ble_eq_true rfl) ⟨rfl, rfl⟩ ⟨(Nat.le_of_ble_eq_true rfl), (Nat.le_of_ble_eq_true rfl)⟩ [1, 2, 3, 4, 5] [0, 6, 7, 8, 9] [0, 5, 6, 7, 8, 9, 1, 2, 3, 4] rfl rfl rfl rfl (by decide) rfl rfl rfl ?_
  clear hc
  refine h_istore (pc := 31) (lv' := [(5, .int v3), (4, .int v2), (3, .int v1), (0, .ref (ad 0)), (1, .int a1), (2, .int a2)]) C dX4_coverOf_31 (by decide) rfl ?_
  refine h_iload_n (pc := 33) C dX4_coverOf_33 rfl 2 rfl ?_
  refine h_iconst (pc := 34) C dX4_coverOf_34 jc_1 ?_
  refine h_iadd (pc := 35) C dX4_coverOf_35 ?_
  refine h_istore (pc := 36) (lv' := [(6, .int (v1 + 1)), (5, .int v3), (4, .int v2), (3, .int v1), (0, .ref (ad 0)), (1, .int a1), (2, .int a2)]) C dX4_coverOf_36 (by decide) rfl ?_
  refine h_sub [4, 2, 1, 0] rfl ?_
  exact k_X4_coverOf_38 l D cT ad C hr n areas keys there order added size loads widths height ranks r n v2 v3 (v1 + 1) hf
theorem pv_X4_coverOf : yX4_coverOf.cls = RX4 ∧ yX4_coverOf.cls ≠ "java/lang/invoke/MethodHandle" ∧ yX4_coverOf.cls ≠ "java/lang/invoke/VarHandle" ∧ (parseMethodDescriptor yX4_coverOf.desc).map (fun d => d.parameters.length) = some 2 := by decide +kernel
abbrev rmX4_cover : Room := { frames := 7, cells := 0, slots := 0, locals := 119 }
set_option maxRecDepth 100000 in
set_option maxHeartbeats 4000000 in
theorem c_X4_cover (l : Launch) (D : va_G) (cT : Nat → ClassId) (ad : Nat → Nat) (n : Nat) (areas : Nat → Int32) (keys : Nat → Int32) (there : Nat → Int32) (order : Nat → Int32) (added : Int32) (size : Int32) (loads : Nat → Int32) (widths : Nat → Int32) (height : Int32) (ranks : Nat → Int32) (a1 : Int32) (a2 : Int32) (a3 : Int32) (r : Int32) (k : Nat) (hk0 : k = 0) (hf : f_X4_cover n areas order size loads widths height a1 a2 a3 = some (k, r)) : cM l yX4_cover wsX4_cover rmX4_cover D (ty4 cT) [.ref (ad 0), .int a1, .int a2, .int a3] (wX cT ad areas keys there order added size loads widths height ranks) (some (.int r)) (wX cT ad areas keys there order added size loads widths height ranks) := by
  refine cM_of (cc := cX4_cover) (maxL := 4) (ret := (some .int)) (own := RX4) (lv := [(0, .ref (ad 0)), (1, .int a1), (2, .int a2), (3, .int a3)]) (by decide) rfl (Nat.le_of_ble_eq_true rfl) rfl rfl ?_
  intro p e s m args below meth c A C hr
  unfold f_X4_cover at hf
  refine h_iload_n (pc := 0) C dX4_cover_0 rfl 3 rfl ?_
  obtain ⟨v1, hc, hf⟩ := jbd_s hf
  by_cases hk : v1 = 0
  · replace hf := jif_t hk hf
    refine h_callP (pc := 1) (As := [.int a3]) (rest := []) (st2 := []) C (c_X4_checkSide l D cT ad n a3 v1 hk hc) (va_cwS 1 C.1.2.2.2.2 gX4_cover_X4_checkSide rfl rfl rfl ps_X4_checkSide ⟨(Nat.le_of_ble_eq_true rfl), (Nat.le_of_ble_eq_true rfl)⟩) dX4_cover_1 rfl rfl (Nat.le_of_ble_eq_true rfl) ⟨rfl, rfl⟩ ⟨(Nat.le_of_ble_eq_true rfl), (Nat.le_of_ble_eq_true rfl)⟩ rfl ?_
    clear hc
    refine h_aload_n (pc := 4) C dX4_cover_4 rfl 0 rfl ?_
    refine h_iload_n (pc := 5) C dX4_cover_5 rfl 1 rfl ?_
    refine h_iload_n (pc := 6) C dX4_cover_6 rfl 2 rfl ?_
    obtain ⟨v2, hc, hf⟩ := jbd_s hf
    by_cases hk : v2 = 0
    · replace hf := jif_t hk hf
      refine h_callV (pc := 7) (q0 := 0) (As := [.int a1, .int a2]) (rest := []) (ws' := (wX cT ad areas keys there order added size loads widths height ranks)) (st2 := []) C (c_X4_checkNode l D cT ad n areas keys there order added size loads widths height ranks a1 a2 v2 hk hc) (cwV 2 C.1.2.2.2.2 gX4_cover_X4_checkNode rfl rfl rfl pv_X4_checkNode ⟨(Nat.le_of_ble_eq_true rfl), (Nat.le_of_ble_eq_true rfl)⟩) dX4_cover_7 rfl rfl rfl rfl rfl (Nat.le_of_ble_eq_true rfl) ⟨rfl, rfl⟩ ⟨(Nat.le_of_ble_eq_true rfl), (Nat.le_of_ble_eq_true rfl)⟩ [0, 1, 2, 3, 4, 5, 6, 7, 8, 9] [] [0, 1, 2, 3, 4, 5, 6, 7, 8, 9] rfl rfl rfl rfl (by decide) rfl rfl rfl ?_
      clear hc
      refine h_aload_n (pc := 10) C dX4_cover_10 rfl 0 rfl ?_
      refine h_iload_n (pc := 11) C dX4_cover_11 rfl 1 rfl ?_
      refine h_iload_n (pc := 12) C dX4_cover_12 rfl 2 rfl ?_
      obtain ⟨v3, hc, hf⟩ := jbd_s hf
      refine h_callV (pc := 13) (q0 := 0) (As := [.int a1, .int a2]) (rest := []) (ws' := (wX cT ad areas keys there order added size loads widths height ranks)) (st2 := .int v3 :: []) C (c_X4_coverOf l D cT ad n areas keys there order added size loads widths height ranks a1 a2 v3 hc) (cwV 2 C.1.2.2.2.2 gX4_cover_X4_coverOf rfl rfl rfl pv_X4_coverOf ⟨(Nat.le_of_ble_eq_true rfl), (Nat.le_of_ble_eq_true rfl)⟩) dX4_cover_13 rfl rfl rfl rfl rfl (Nat.le_of_ble_eq_true rfl) ⟨rfl, rfl⟩ ⟨(Nat.le_of_ble_eq_true rfl), (Nat.le_of_ble_eq_true rfl)⟩ [0, 1, 2, 3, 4, 5, 6, 7, 8, 9] [] [0, 1, 2, 3, 4, 5, 6, 7, 8, 9] rfl rfl rfl rfl (by decide) rfl rfl rfl ?_
      clear hc
      refine h_iload_n (pc := 16) C dX4_cover_16 rfl 3 rfl ?_
      obtain ⟨v4, hc, hf⟩ := jbd_s hf
      refine h_callP (pc := 17) (As := [.int v3, .int a3]) (rest := []) (st2 := .int v4 :: []) C (c_X0_side l D cT ad n v3 a3 v4 hc) (va_cwS 2 C.1.2.2.2.2 gX4_cover_X0_side rfl rfl rfl ps_X0_side ⟨(Nat.le_of_ble_eq_true rfl), (Nat.le_of_ble_eq_true rfl)⟩) dX4_cover_17 rfl rfl (Nat.le_of_ble_eq_true rfl) ⟨rfl, rfl⟩ ⟨(Nat.le_of_ble_eq_true rfl), (Nat.le_of_ble_eq_true rfl)⟩ rfl ?_
      clear hc
      have g0 := (Prod.mk.inj (Option.some.inj hf)).1
      have g1 := (Prod.mk.inj (Option.some.inj hf)).2
      clear hf
      subst g0
      subst g1
      exact h_iret C hr dX4_cover_20
    · replace hf := jif_f hk hf
      exact absurd ((Prod.mk.inj (Option.some.inj hf)).1.trans hk0) hk
  · replace hf := jif_f hk hf
    exact absurd ((Prod.mk.inj (Option.some.inj hf)).1.trans hk0) hk
theorem pv_X4_cover : yX4_cover.cls = RX4 ∧ yX4_cover.cls ≠ "java/lang/invoke/MethodHandle" ∧ yX4_cover.cls ≠ "java/lang/invoke/VarHandle" ∧ (parseMethodDescriptor yX4_cover.desc).map (fun d => d.parameters.length) = some 3 := by decide +kernel
abbrev rxX4_cover : Room := { frames := 7, cells := 1, slots := 6, locals := 119 }
set_option maxRecDepth 100000 in
set_option maxHeartbeats 4000000 in
theorem x_X4_cover {l : Launch} (hX0 : l.stackTraces = false) (D : va_G) (cT : Nat → ClassId) (ad : Nat → Nat) (n : Nat) (areas : Nat → Int32) (keys : Nat → Int32) (there : Nat → Int32) (order : Nat → Int32) (added : Int32) (size : Int32) (loads : Nat → Int32) (widths : Nat → Int32) (height : Int32) (ranks : Nat → Int32) (a1 : Int32) (a2 : Int32) (a3 : Int32) (r : Int32) (k : Nat) (hk0 : ¬ k = 0) (hf : f_X4_cover n areas order size loads widths height a1 a2 a3 = some (k, r)) : xM l yX4_cover wsX4_cover rxX4_cover D (ty4 cT) [.ref (ad 0), .int a1, .int a2, .int a3] (wX cT ad areas keys there order added size loads widths height ranks) (xE k) (wX cT ad areas keys there order added size loads widths height ranks) := by
  refine xM_of (cc := cX4_cover) (maxL := 4) (ret := (some .int)) (own := RX4) (lv := [(0, .ref (ad 0)), (1, .int a1), (2, .int a2), (3, .int a3)]) hX0 (by decide) rfl (Nat.le_of_ble_eq_true rfl) rfl rfl ?_
  intro p e s m args below meth c A C X
  unfold f_X4_cover at hf
  refine h_iload_n (pc := 0) C dX4_cover_0 rfl 3 rfl ?_
  obtain ⟨v1, hc, hf⟩ := jbd_s hf
  by_cases hk : v1 = 0
  · replace hf := jif_t hk hf
    refine h_callP (pc := 1) (As := [.int a3]) (rest := []) (st2 := []) C (c_X4_checkSide l D cT ad n a3 v1 hk hc) (va_cwS 1 C.1.2.2.2.2 gX4_cover_X4_checkSide rfl rfl rfl ps_X4_checkSide ⟨(Nat.le_of_ble_eq_true rfl), (Nat.le_of_ble_eq_true rfl)⟩) dX4_cover_1 rfl rfl (Nat.le_of_ble_eq_true rfl) ⟨rfl, rfl⟩ ⟨(Nat.le_of_ble_eq_true rfl), (Nat.le_of_ble_eq_true rfl)⟩ rfl ?_
    clear hc
    refine h_aload_n (pc := 4) C dX4_cover_4 rfl 0 rfl ?_
    refine h_iload_n (pc := 5) C dX4_cover_5 rfl 1 rfl ?_
    refine h_iload_n (pc := 6) C dX4_cover_6 rfl 2 rfl ?_
    obtain ⟨v2, hc, hf⟩ := jbd_s hf
    by_cases hk : v2 = 0
    · replace hf := jif_t hk hf
      refine h_callV (pc := 7) (q0 := 0) (As := [.int a1, .int a2]) (rest := []) (ws' := (wX cT ad areas keys there order added size loads widths height ranks)) (st2 := []) C (c_X4_checkNode l D cT ad n areas keys there order added size loads widths height ranks a1 a2 v2 hk hc) (cwV 2 C.1.2.2.2.2 gX4_cover_X4_checkNode rfl rfl rfl pv_X4_checkNode ⟨(Nat.le_of_ble_eq_true rfl), (Nat.le_of_ble_eq_true rfl)⟩) dX4_cover_7 rfl rfl rfl rfl rfl (Nat.le_of_ble_eq_true rfl) ⟨rfl, rfl⟩ ⟨(Nat.le_of_ble_eq_true rfl), (Nat.le_of_ble_eq_true rfl)⟩ [0, 1, 2, 3, 4, 5, 6, 7, 8, 9] [] [0, 1, 2, 3, 4, 5, 6, 7, 8, 9] rfl rfl rfl rfl (by decide) rfl rfl rfl ?_
      clear hc
      refine h_aload_n (pc := 10) C dX4_cover_10 rfl 0 rfl ?_
      refine h_iload_n (pc := 11) C dX4_cover_11 rfl 1 rfl ?_
      refine h_iload_n (pc := 12) C dX4_cover_12 rfl 2 rfl ?_
      obtain ⟨v3, hc, hf⟩ := jbd_s hf
      refine h_callV (pc := 13) (q0 := 0) (As := [.int a1, .int a2]) (rest := []) (ws' := (wX cT ad areas keys there order added size loads widths height ranks)) (st2 := .int v3 :: []) C (c_X4_coverOf l D cT ad n areas keys there order added size loads widths height ranks a1 a2 v3 hc) (cwV 2 C.1.2.2.2.2 gX4_cover_X4_coverOf rfl rfl rfl pv_X4_coverOf ⟨(Nat.le_of_ble_eq_true rfl), (Nat.le_of_ble_eq_true rfl)⟩) dX4_cover_13 rfl rfl rfl rfl rfl (Nat.le_of_ble_eq_true rfl) ⟨rfl, rfl⟩ ⟨(Nat.le_of_ble_eq_true rfl), (Nat.le_of_ble_eq_true rfl)⟩ [0, 1, 2, 3, 4, 5, 6, 7, 8, 9] [] [0, 1, 2, 3, 4, 5, 6, 7, 8, 9] rfl rfl rfl rfl (by decide) rfl rfl rfl ?_
      clear hc
      refine h_iload_n (pc := 16) C dX4_cover_16 rfl 3 rfl ?_
      obtain ⟨v4, hc, hf⟩ := jbd_s hf
      refine h_callP (pc := 17) (As := [.int v3, .int a3]) (rest := []) (st2 := .int v4 :: []) C (c_X0_side l D cT ad n v3 a3 v4 hc) (va_cwS 2 C.1.2.2.2.2 gX4_cover_X0_side rfl rfl rfl ps_X0_side ⟨(Nat.le_of_ble_eq_true rfl), (Nat.le_of_ble_eq_true rfl)⟩) dX4_cover_17 rfl rfl (Nat.le_of_ble_eq_true rfl) ⟨rfl, rfl⟩ ⟨(Nat.le_of_ble_eq_true rfl), (Nat.le_of_ble_eq_true rfl)⟩ rfl ?_
      clear hc
      exact absurd (Prod.mk.inj (Option.some.inj hf)).1.symm hk0
    · replace hf := jif_f hk hf
      have g0 := (Prod.mk.inj (Option.some.inj hf)).1
      have g1 := (Prod.mk.inj (Option.some.inj hf)).2
      clear hf
      subst g0
      subst g1
      exact h_xV (pc := 7) (q0 := 0) (As := [.int a1, .int a2]) (rest := []) (ws' := (wX cT ad areas keys there order added size loads widths height ranks)) C X.1 (x_X4_checkNode hX0 D cT ad n areas keys there order added size loads widths height ranks a1 a2 v2 hk hc) (cwV 2 C.1.2.2.2.2 gX4_cover_X4_checkNode rfl rfl rfl pv_X4_checkNode ⟨(Nat.le_of_ble_eq_true rfl), (Nat.le_of_ble_eq_true rfl)⟩) dX4_cover_7 rfl rfl rfl rfl rfl (Nat.le_of_ble_eq_true rfl) ⟨(Nat.le_of_ble_eq_true rfl), (Nat.le_of_ble_eq_true rfl)⟩ [0, 1, 2, 3, 4, 5, 6, 7, 8, 9] [] [0, 1, 2, 3, 4, 5, 6, 7, 8, 9] rfl rfl rfl rfl (by decide) rfl rfl (h_outK C X ⟨(Nat.le_of_ble_eq_true rfl), (Nat.le_of_ble_eq_true rfl)⟩)
  · replace hf := jif_f hk hf
    have g0 := (Prod.mk.inj (Option.some.inj hf)).1
    have g1 := (Prod.mk.inj (Option.some.inj hf)).2
    clear hf
    subst g0
    subst g1
    exact h_xS (pc := 1) (As := [.int a3]) (rest := []) C X.1 (x_X4_checkSide hX0 D cT ad n a3 v1 hk hc) (va_cwS 1 C.1.2.2.2.2 gX4_cover_X4_checkSide rfl rfl rfl ps_X4_checkSide ⟨(Nat.le_of_ble_eq_true rfl), (Nat.le_of_ble_eq_true rfl)⟩) dX4_cover_1 rfl rfl (Nat.le_of_ble_eq_true rfl) ⟨(Nat.le_of_ble_eq_true rfl), (Nat.le_of_ble_eq_true rfl)⟩ (h_outK C X ⟨(Nat.le_of_ble_eq_true rfl), (Nat.le_of_ble_eq_true rfl)⟩)
abbrev rmX4_leafOf : Room := { frames := 7, cells := 0, slots := 0, locals := 111 }
theorem uX4_leafOf_X4 : ∀ w ∈ u_ws RX4 TX4 3, w ∈ wsX4_leafOf := fun w h => List.mem_cons_of_mem _ (List.mem_append_left _ (List.mem_append_left _ (List.mem_append_left _ (List.mem_append_right _ h))))
set_option maxRecDepth 100000 in
set_option maxHeartbeats 4000000 in
theorem c_X4_leafOf (l : Launch) (D : va_G) (cT : Nat → ClassId) (ad : Nat → Nat) (n : Nat) (areas : Nat → Int32) (keys : Nat → Int32) (there : Nat → Int32) (order : Nat → Int32) (added : Int32) (size : Int32) (loads : Nat → Int32) (widths : Nat → Int32) (height : Int32) (ranks : Nat → Int32) (a1 : Int32) (r : Int32) (k : Nat) (hk0 : k = 0) (hf : f_X4_leafOf n there order size loads widths height a1 = some (k, r)) : cM l yX4_leafOf wsX4_leafOf rmX4_leafOf D (ty4 cT) [.ref (ad 0), .int a1] (wX cT ad areas keys there order added size loads widths height ranks) (some (.int r)) (wX cT ad areas keys there order added size loads widths height ranks) := by
  refine cM_of (cc := cX4_leafOf) (maxL := 2) (ret := (some .int)) (own := RX4) (lv := [(0, .ref (ad 0)), (1, .int a1)]) (by decide) rfl (Nat.le_of_ble_eq_true rfl) rfl rfl ?_
  intro p e s m args below meth c A C hr
  unfold f_X4_leafOf at hf
  refine h_aload_n (pc := 0) C dX4_leafOf_0 rfl 0 rfl ?_
  refine h_iload_n (pc := 1) C dX4_leafOf_1 rfl 1 rfl ?_
  obtain ⟨v1, hc, hf⟩ := jbd_s hf
  by_cases hk : v1 = 0
  · replace hf := jif_t hk hf
    refine h_callV (pc := 2) (q0 := 0) (As := [.int a1]) (rest := []) (ws' := (wX cT ad areas keys there order added size loads widths height ranks)) (st2 := []) C (c_X4_checkBox l D cT ad n areas keys there order added size loads widths height ranks a1 v1 hk hc) (cwV 1 C.1.2.2.2.2 gX4_leafOf_X4_checkBox rfl rfl rfl pv_X4_checkBox ⟨(Nat.le_of_ble_eq_true rfl), (Nat.le_of_ble_eq_true rfl)⟩) dX4_leafOf_2 rfl rfl rfl rfl rfl (Nat.le_of_ble_eq_true rfl) ⟨rfl, rfl⟩ ⟨(Nat.le_of_ble_eq_true rfl), (Nat.le_of_ble_eq_true rfl)⟩ [0, 1, 2, 3, 4, 5, 6, 7, 8, 9] [] [0, 1, 2, 3, 4, 5, 6, 7, 8, 9] rfl rfl rfl rfl (by decide) rfl rfl rfl ?_
    clear hc
    refine h_aload_n (pc := 5) C dX4_leafOf_5 rfl 0 rfl ?_
    refine h_get (pc := 6) (ci := 2) (C0 := RX4) (T := TX4) (N := 3) C uX4_leafOf_X4 rfl 0 rfl 1 (by decide) (List.mem_of_getElem? (i := 1) rfl) rfl rfl dX4_leafOf_6 ?_
    refine h_iconst (pc := 9) C dX4_leafOf_9 jc_0 ?_
    refine h_aload_n (pc := 10) C dX4_leafOf_10 rfl 0 rfl ?_
    refine h_get (pc := 11) (ci := 2) (C0 := RX4) (T := TX4) (N := 3) C uX4_leafOf_X4 rfl 0 rfl 0 (by decide) (List.mem_of_getElem? (i := 2) rfl) rfl rfl dX4_leafOf_11 ?_
    refine h_iload_n (pc := 14) C dX4_leafOf_14 rfl 1 rfl ?_
    obtain ⟨v2, hc, hf⟩ := jbd_s hf
    refine h_callV (pc := 15) (q0 := 1) (As := [.int a1]) (rest := .int 0 :: .ref (ad 6) :: []) (ws' := (wX cT ad areas keys there order added size loads widths height ranks)) (st2 := .int v2 :: .int 0 :: .ref (ad 6) :: []) C (c_X2_placeOf l D cT ad n areas keys there order added size a1 v2 hc) (cwV 1 C.1.2.2.2.2 gX4_leafOf_X2_placeOf rfl rfl rfl pv_X2_placeOf ⟨(Nat.le_of_ble_eq_true rfl), (Nat.le_of_ble_eq_true rfl)⟩) dX4_leafOf_15 rfl rfl rfl rfl rfl (Nat.le_of_ble_eq_true rfl) ⟨rfl, rfl⟩ ⟨(Nat.le_of_ble_eq_true rfl), (Nat.le_of_ble_eq_true rfl)⟩ [1, 2, 3, 4, 5] [0, 6, 7, 8, 9] [0, 5, 6, 7, 8, 9, 1, 2, 3, 4] rfl rfl rfl rfl (by decide) rfl rfl rfl ?_
    clear hc
    obtain ⟨v3, hc, hf⟩ := jbd_s hf
    refine h_callV (pc := 18) (q0 := 6) (As := [.int 0, .int v2]) (rest := []) (ws' := (wX cT ad areas keys there order added size loads widths height ranks)) (st2 := .int v3 :: []) C (c_X3_holder l D cT ad n loads widths height 0 v2 v3 hc) (cwV 2 C.1.2.2.2.2 gX4_leafOf_X3_holder rfl rfl rfl pv_X3_holder ⟨(Nat.le_of_ble_eq_true rfl), (Nat.le_of_ble_eq_true rfl)⟩) dX4_leafOf_18 rfl rfl rfl rfl rfl (Nat.le_of_ble_eq_true rfl) ⟨rfl, rfl⟩ ⟨(Nat.le_of_ble_eq_true rfl), (Nat.le_of_ble_eq_true rfl)⟩ [6, 7, 8] [0, 1, 2, 3, 4, 5, 9] [0, 1, 2, 3, 4, 5, 7, 8, 9, 6] rfl rfl rfl rfl (by decide) rfl rfl rfl ?_
    clear hc
    have g0 := (Prod.mk.inj (Option.some.inj hf)).1
    have g1 := (Prod.mk.inj (Option.some.inj hf)).2
    clear hf
    subst g0
    subst g1
    exact h_iret C hr dX4_leafOf_21
  · replace hf := jif_f hk hf
    exact absurd ((Prod.mk.inj (Option.some.inj hf)).1.trans hk0) hk
theorem pv_X4_leafOf : yX4_leafOf.cls = RX4 ∧ yX4_leafOf.cls ≠ "java/lang/invoke/MethodHandle" ∧ yX4_leafOf.cls ≠ "java/lang/invoke/VarHandle" ∧ (parseMethodDescriptor yX4_leafOf.desc).map (fun d => d.parameters.length) = some 1 := by decide +kernel
abbrev rxX4_leafOf : Room := { frames := 7, cells := 1, slots := 6, locals := 111 }
set_option maxRecDepth 100000 in
set_option maxHeartbeats 4000000 in
theorem x_X4_leafOf {l : Launch} (hX0 : l.stackTraces = false) (D : va_G) (cT : Nat → ClassId) (ad : Nat → Nat) (n : Nat) (areas : Nat → Int32) (keys : Nat → Int32) (there : Nat → Int32) (order : Nat → Int32) (added : Int32) (size : Int32) (loads : Nat → Int32) (widths : Nat → Int32) (height : Int32) (ranks : Nat → Int32) (a1 : Int32) (r : Int32) (k : Nat) (hk0 : ¬ k = 0) (hf : f_X4_leafOf n there order size loads widths height a1 = some (k, r)) : xM l yX4_leafOf wsX4_leafOf rxX4_leafOf D (ty4 cT) [.ref (ad 0), .int a1] (wX cT ad areas keys there order added size loads widths height ranks) (xE k) (wX cT ad areas keys there order added size loads widths height ranks) := by
  refine xM_of (cc := cX4_leafOf) (maxL := 2) (ret := (some .int)) (own := RX4) (lv := [(0, .ref (ad 0)), (1, .int a1)]) hX0 (by decide) rfl (Nat.le_of_ble_eq_true rfl) rfl rfl ?_
  intro p e s m args below meth c A C X
  unfold f_X4_leafOf at hf
  refine h_aload_n (pc := 0) C dX4_leafOf_0 rfl 0 rfl ?_
  refine h_iload_n (pc := 1) C dX4_leafOf_1 rfl 1 rfl ?_
  obtain ⟨v1, hc, hf⟩ := jbd_s hf
  by_cases hk : v1 = 0
  · replace hf := jif_t hk hf
    refine h_callV (pc := 2) (q0 := 0) (As := [.int a1]) (rest := []) (ws' := (wX cT ad areas keys there order added size loads widths height ranks)) (st2 := []) C (c_X4_checkBox l D cT ad n areas keys there order added size loads widths height ranks a1 v1 hk hc) (cwV 1 C.1.2.2.2.2 gX4_leafOf_X4_checkBox rfl rfl rfl pv_X4_checkBox ⟨(Nat.le_of_ble_eq_true rfl), (Nat.le_of_ble_eq_true rfl)⟩) dX4_leafOf_2 rfl rfl rfl rfl rfl (Nat.le_of_ble_eq_true rfl) ⟨rfl, rfl⟩ ⟨(Nat.le_of_ble_eq_true rfl), (Nat.le_of_ble_eq_true rfl)⟩ [0, 1, 2, 3, 4, 5, 6, 7, 8, 9] [] [0, 1, 2, 3, 4, 5, 6, 7, 8, 9] rfl rfl rfl rfl (by decide) rfl rfl rfl ?_
    clear hc
    refine h_aload_n (pc := 5) C dX4_leafOf_5 rfl 0 rfl ?_
    refine h_get (pc := 6) (ci := 2) (C0 := RX4) (T := TX4) (N := 3) C uX4_leafOf_X4 rfl 0 rfl 1 (by decide) (List.mem_of_getElem? (i := 1) rfl) rfl rfl dX4_leafOf_6 ?_
    refine h_iconst (pc := 9) C dX4_leafOf_9 jc_0 ?_
    refine h_aload_n (pc := 10) C dX4_leafOf_10 rfl 0 rfl ?_
    refine h_get (pc := 11) (ci := 2) (C0 := RX4) (T := TX4) (N := 3) C uX4_leafOf_X4 rfl 0 rfl 0 (by decide) (List.mem_of_getElem? (i := 2) rfl) rfl rfl dX4_leafOf_11 ?_
    refine h_iload_n (pc := 14) C dX4_leafOf_14 rfl 1 rfl ?_
    obtain ⟨v2, hc, hf⟩ := jbd_s hf
    refine h_callV (pc := 15) (q0 := 1) (As := [.int a1]) (rest := .int 0 :: .ref (ad 6) :: []) (ws' := (wX cT ad areas keys there order added size loads widths height ranks)) (st2 := .int v2 :: .int 0 :: .ref (ad 6) :: []) C (c_X2_placeOf l D cT ad n areas keys there order added size a1 v2 hc) (cwV 1 C.1.2.2.2.2 gX4_leafOf_X2_placeOf rfl rfl rfl pv_X2_placeOf ⟨(Nat.le_of_ble_eq_true rfl), (Nat.le_of_ble_eq_true rfl)⟩) dX4_leafOf_15 rfl rfl rfl rfl rfl (Nat.le_of_ble_eq_true rfl) ⟨rfl, rfl⟩ ⟨(Nat.le_of_ble_eq_true rfl), (Nat.le_of_ble_eq_true rfl)⟩ [1, 2, 3, 4, 5] [0, 6, 7, 8, 9] [0, 5, 6, 7, 8, 9, 1, 2, 3, 4] rfl rfl rfl rfl (by decide) rfl rfl rfl ?_
    clear hc
    obtain ⟨v3, hc, hf⟩ := jbd_s hf
    refine h_callV (pc := 18) (q0 := 6) (As := [.int 0, .int v2]) (rest := []) (ws' := (wX cT ad areas keys there order added size loads widths height ranks)) (st2 := .int v3 :: []) C (c_X3_holder l D cT ad n loads widths height 0 v2 v3 hc) (cwV 2 C.1.2.2.2.2 gX4_leafOf_X3_holder rfl rfl rfl pv_X3_holder ⟨(Nat.le_of_ble_eq_true rfl), (Nat.le_of_ble_eq_true rfl)⟩) dX4_leafOf_18 rfl rfl rfl rfl rfl (Nat.le_of_ble_eq_true rfl) ⟨rfl, rfl⟩ ⟨(Nat.le_of_ble_eq_true rfl), (Nat.le_of_ble_eq_true rfl)⟩ [6, 7, 8] [0, 1, 2, 3, 4, 5, 9] [0, 1, 2, 3, 4, 5, 7, 8, 9, 6] rfl rfl rfl rfl (by decide) rfl rfl rfl ?_
    clear hc
    exact absurd (Prod.mk.inj (Option.some.inj hf)).1.symm hk0
  · replace hf := jif_f hk hf
    have g0 := (Prod.mk.inj (Option.some.inj hf)).1
    have g1 := (Prod.mk.inj (Option.some.inj hf)).2
    clear hf
    subst g0
    subst g1
    exact h_xV (pc := 2) (q0 := 0) (As := [.int a1]) (rest := []) (ws' := (wX cT ad areas keys there order added size loads widths height ranks)) C X.1 (x_X4_checkBox hX0 D cT ad n areas keys there order added size loads widths height ranks a1 v1 hk hc) (cwV 1 C.1.2.2.2.2 gX4_leafOf_X4_checkBox rfl rfl rfl pv_X4_checkBox ⟨(Nat.le_of_ble_eq_true rfl), (Nat.le_of_ble_eq_true rfl)⟩) dX4_leafOf_2 rfl rfl rfl rfl rfl (Nat.le_of_ble_eq_true rfl) ⟨(Nat.le_of_ble_eq_true rfl), (Nat.le_of_ble_eq_true rfl)⟩ [0, 1, 2, 3, 4, 5, 6, 7, 8, 9] [] [0, 1, 2, 3, 4, 5, 6, 7, 8, 9] rfl rfl rfl rfl (by decide) rfl rfl (h_outK C X ⟨(Nat.le_of_ble_eq_true rfl), (Nat.le_of_ble_eq_true rfl)⟩)
abbrev rmX4_boxAt : Room := { frames := 6, cells := 0, slots := 0, locals := 90 }
theorem uX4_boxAt_X4 : ∀ w ∈ u_ws RX4 TX4 3, w ∈ wsX4_boxAt := fun w h => List.mem_cons_of_mem _ (List.mem_append_left _ (List.mem_append_left _ (List.mem_append_right _ h)))
set_option maxRecDepth 100000 in
set_option maxHeartbeats 4000000 in
theorem k_X4_boxAt_15 {p : Program} {e : Env} {s : State} {m : MethodId} {args : Array Value} {below : List Frame} {meth : Method} {c : Code} {A : Nat → Prop} (l : Launch) (D : va_G) (cT : Nat → ClassId) (ad : Nat → Nat) (C : hC p s m args meth c cX4_boxAt 2 wsX4_boxAt RX4 D (ty4 cT) A) (hr : meth.sig.returnType = (some .int)) (n : Nat) (areas : Nat → Int32) (keys : Nat → Int32) (there : Nat → Int32) (order : Nat → Int32) (added : Int32) (size : Int32) (loads : Nat → Int32) (widths : Nat → Int32) (height : Int32) (ranks : Nat → Int32) (r : Int32) (k : Nat) (hk0 : k = 0)  : f_X4_boxAt_15 n order size = some (k, r) → hS p l e rmX4_boxAt s m args below meth c 2 D A 0 0 (MQ below (cQ D (ty4 cT) A (some (.int r)) (wX cT ad areas keys there order added size loads widths height ranks)) args s 0 0 A) 15 [] [] (wX cT ad areas keys there order added size loads widths height ranks) := by
  intro  hf
  unfold f_X4_boxAt_15 at hf
  exact absurd ((Prod.mk.inj (Option.some.inj hf)).1.trans hk0) (by decide)
set_option maxRecDepth 100000 in
set_option maxHeartbeats 4000000 in
theorem c_X4_boxAt (l : Launch) (D : va_G) (cT : Nat → ClassId) (ad : Nat → Nat) (n : Nat) (areas : Nat → Int32) (keys : Nat → Int32) (there : Nat → Int32) (order : Nat → Int32) (added : Int32) (size : Int32) (loads : Nat → Int32) (widths : Nat → Int32) (height : Int32) (ranks : Nat → Int32) (a1 : Int32) (r : Int32) (k : Nat) (hk0 : k = 0) (hf : f_X4_boxAt n order size a1 = some (k, r)) : cM l yX4_boxAt wsX4_boxAt rmX4_boxAt D (ty4 cT) [.ref (ad 0), .int a1] (wX cT ad areas keys there order added size loads widths height ranks) (some (.int r)) (wX cT ad areas keys there order added size loads widths height ranks) := by
  refine cM_of (cc := cX4_boxAt) (maxL := 2) (ret := (some .int)) (own := RX4) (lv := [(0, .ref (ad 0)), (1, .int a1)]) (by decide) rfl (Nat.le_of_ble_eq_true rfl) rfl rfl ?_
  intro p e s m args below meth c A C hr
  unfold f_X4_boxAt at hf
  refine h_iload_n (pc := 0) C dX4_boxAt_0 rfl 1 rfl ?_
  refine h_if_lt (pc := 1) (tgt := 15) C dX4_boxAt_1 (by decide) (fun q => ?_) (fun q => ?_)
  · replace hf := jif_t q hf
    clear q
    refine h_sub [] rfl ?_
    exact k_X4_boxAt_15 l D cT ad C hr n areas keys there order added size loads widths height ranks r k hk0 hf
  · replace hf := jif_f q hf
    clear q
    refine h_iload_n (pc := 4) C dX4_boxAt_4 rfl 1 rfl ?_
    refine h_aload_n (pc := 5) C dX4_boxAt_5 rfl 0 rfl ?_
    refine h_get (pc := 6) (ci := 2) (C0 := RX4) (T := TX4) (N := 3) C uX4_boxAt_X4 rfl 0 rfl 0 (by decide) (List.mem_of_getElem? (i := 3) rfl) rfl rfl dX4_boxAt_6 ?_
    obtain ⟨v1, hc, hf⟩ := jbd_s hf
    refine h_callV (pc := 9) (q0 := 1) (As := []) (rest := .int a1 :: []) (ws' := (wX cT ad areas keys there order added size loads widths height ranks)) (st2 := .int v1 :: .int a1 :: []) C (c_X2_size l D cT ad n areas keys there order added size v1 hc) (cwV 0 C.1.2.2.2.2 gX4_boxAt_X2_size rfl rfl rfl pv_X2_size ⟨(Nat.le_of_ble_eq_true rfl), (Nat.le_of_ble_eq_true rfl)⟩) dX4_boxAt_9 rfl rfl rfl rfl rfl (Nat.le_of_ble_eq_true rfl) ⟨rfl, rfl⟩ ⟨(Nat.le_of_ble_eq_true rfl), (Nat.le_of_ble_eq_true rfl)⟩ [1, 2, 3, 4, 5] [0, 6, 7, 8, 9] [0, 5, 6, 7, 8, 9, 1, 2, 3, 4] rfl rfl rfl rfl (by decide) rfl rfl rfl ?_
    clear hc
    refine h_icmp_lt (pc := 12) (tgt := 25) C dX4_boxAt_12 (by decide) (fun q => ?_) (fun q => ?_)
    · replace hf := jif_t q hf
      clear q
      refine h_aload_n (pc := 25) C dX4_boxAt_25 rfl 0 rfl ?_
      refine h_get (pc := 26) (ci := 2) (C0 := RX4) (T := TX4) (N := 3) C uX4_boxAt_X4 rfl 0 rfl 0 (by decide) (List.mem_of_getElem? (i := 3) rfl) rfl rfl dX4_boxAt_26 ?_
      refine h_iload_n (pc := 29) C dX4_boxAt_29 rfl 1 rfl ?_
      obtain ⟨v2, hc, hf⟩ := jbd_s hf
      refine h_callV (pc := 30) (q0 := 1) (As := [.int a1]) (rest := []) (ws' := (wX cT ad areas keys there order added size loads widths height ranks)) (st2 := .int v2 :: []) C (c_X2_numberAt l D cT ad n areas keys there order added size a1 v2 hc) (cwV 1 C.1.2.2.2.2 gX4_boxAt_X2_numberAt rfl rfl rfl pv_X2_numberAt ⟨(Nat.le_of_ble_eq_true rfl), (Nat.le_of_ble_eq_true rfl)⟩) dX4_boxAt_30 rfl rfl rfl rfl rfl (Nat.le_of_ble_eq_true rfl) ⟨rfl, rfl⟩ ⟨(Nat.le_of_ble_eq_true rfl), (Nat.le_of_ble_eq_true rfl)⟩ [1, 2, 3, 4, 5] [0, 6, 7, 8, 9] [0, 5, 6, 7, 8, 9, 1, 2, 3, 4] rfl rfl rfl rfl (by decide) rfl rfl rfl ?_
      clear hc
      have g0 := (Prod.mk.inj (Option.some.inj hf)).1
      have g1 := (Prod.mk.inj (Option.some.inj hf)).2
      clear hf
      subst g0
      subst g1
      exact h_iret C hr dX4_boxAt_33
    · replace hf := jif_f q hf
      clear q
      refine h_sub [] rfl ?_
      exact k_X4_boxAt_15 l D cT ad C hr n areas keys there order added size loads widths height ranks r k hk0 hf
theorem pv_X4_boxAt : yX4_boxAt.cls = RX4 ∧ yX4_boxAt.cls ≠ "java/lang/invoke/MethodHandle" ∧ yX4_boxAt.cls ≠ "java/lang/invoke/VarHandle" ∧ (parseMethodDescriptor yX4_boxAt.desc).map (fun d => d.parameters.length) = some 1 := by decide +kernel
abbrev rxX4_boxAt : Room := { frames := 6, cells := 1, slots := 6, locals := 90 }
set_option maxRecDepth 100000 in
set_option maxHeartbeats 4000000 in
theorem kx_X4_boxAt_15 {p : Program} {e : Env} {s : State} {m : MethodId} {args : Array Value} {below : List Frame} {meth : Method} {c : Code} {A : Nat → Prop} {l : Launch} (hX0 : l.stackTraces = false) (D : va_G) (cT : Nat → ClassId) (ad : Nat → Nat) (C : hC p s m args meth c cX4_boxAt 2 wsX4_boxAt RX4 D (ty4 cT) A) (X : hX l s c A) (n : Nat) (areas : Nat → Int32) (keys : Nat → Int32) (there : Nat → Int32) (order : Nat → Int32) (added : Int32) (size : Int32) (loads : Nat → Int32) (widths : Nat → Int32) (height : Int32) (ranks : Nat → Int32) (r : Int32) (k : Nat) (hk0 : ¬ k = 0)  : f_X4_boxAt_15 n order size = some (k, r) → hS p l e rxX4_boxAt s m args below meth c 2 D A 0 0 (vx_MQ below (fun _ _ _ _ => False) (xX D (ty4 cT) A (xE k) (wX cT ad areas keys there order added size loads widths height ranks)) args s 1 6 A) 15 [] [] (wX cT ad areas keys there order added size loads widths height ranks) := by
  intro  hf
  unfold f_X4_boxAt_15 at hf
  have g0 := (Prod.mk.inj (Option.some.inj hf)).1
  have g1 := (Prod.mk.inj (Option.some.inj hf)).2
  clear hf
  subst g0
  subst g1
  exact h_throw (pc := 15) C X xin_IOE xft_IOE xft_up (List.mem_of_getElem? (i := 1) rfl) (List.mem_of_getElem? (i := 2) rfl) (List.mem_of_getElem? (i := 2) rfl) (fun w h => List.mem_cons_of_mem _ (List.mem_append_right _ h)) xng_IOE xgd_IOE dX4_boxAt_15 dX4_boxAt_18 dX4_boxAt_19 dX4_boxAt_21 dX4_boxAt_24 ⟨Nat.le_of_ble_eq_true rfl, Nat.le_of_ble_eq_true rfl, Nat.le_of_ble_eq_true rfl, Nat.le_of_ble_eq_true rfl⟩ ⟨Nat.le_of_ble_eq_true rfl, Nat.le_of_ble_eq_true rfl⟩
set_option maxRecDepth 100000 in
set_option maxHeartbeats 4000000 in
theorem x_X4_boxAt {l : Launch} (hX0 : l.stackTraces = false) (D : va_G) (cT : Nat → ClassId) (ad : Nat → Nat) (n : Nat) (areas : Nat → Int32) (keys : Nat → Int32) (there : Nat → Int32) (order : Nat → Int32) (added : Int32) (size : Int32) (loads : Nat → Int32) (widths : Nat → Int32) (height : Int32) (ranks : Nat → Int32) (a1 : Int32) (r : Int32) (k : Nat) (hk0 : ¬ k = 0) (hf : f_X4_boxAt n order size a1 = some (k, r)) : xM l yX4_boxAt wsX4_boxAt rxX4_boxAt D (ty4 cT) [.ref (ad 0), .int a1] (wX cT ad areas keys there order added size loads widths height ranks) (xE k) (wX cT ad areas keys there order added size loads widths height ranks) := by
  refine xM_of (cc := cX4_boxAt) (maxL := 2) (ret := (some .int)) (own := RX4) (lv := [(0, .ref (ad 0)), (1, .int a1)]) hX0 (by decide) rfl (Nat.le_of_ble_eq_true rfl) rfl rfl ?_
  intro p e s m args below meth c A C X
  unfold f_X4_boxAt at hf
  refine h_iload_n (pc := 0) C dX4_boxAt_0 rfl 1 rfl ?_
  refine h_if_lt (pc := 1) (tgt := 15) C dX4_boxAt_1 (by decide) (fun q => ?_) (fun q => ?_)
  · replace hf := jif_t q hf
    clear q
    refine h_sub [] rfl ?_
    exact kx_X4_boxAt_15 hX0 D cT ad C X n areas keys there order added size loads widths height ranks r k hk0 hf
  · replace hf := jif_f q hf
    clear q
    refine h_iload_n (pc := 4) C dX4_boxAt_4 rfl 1 rfl ?_
    refine h_aload_n (pc := 5) C dX4_boxAt_5 rfl 0 rfl ?_
    refine h_get (pc := 6) (ci := 2) (C0 := RX4) (T := TX4) (N := 3) C uX4_boxAt_X4 rfl 0 rfl 0 (by decide) (List.mem_of_getElem? (i := 3) rfl) rfl rfl dX4_boxAt_6 ?_
    obtain ⟨v1, hc, hf⟩ := jbd_s hf
    refine h_callV (pc := 9) (q0 := 1) (As := []) (rest := .int a1 :: []) (ws' := (wX cT ad areas keys there order added size loads widths height ranks)) (st2 := .int v1 :: .int a1 :: []) C (c_X2_size l D cT ad n areas keys there order added size v1 hc) (cwV 0 C.1.2.2.2.2 gX4_boxAt_X2_size rfl rfl rfl pv_X2_size ⟨(Nat.le_of_ble_eq_true rfl), (Nat.le_of_ble_eq_true rfl)⟩) dX4_boxAt_9 rfl rfl rfl rfl rfl (Nat.le_of_ble_eq_true rfl) ⟨rfl, rfl⟩ ⟨(Nat.le_of_ble_eq_true rfl), (Nat.le_of_ble_eq_true rfl)⟩ [1, 2, 3, 4, 5] [0, 6, 7, 8, 9] [0, 5, 6, 7, 8, 9, 1, 2, 3, 4] rfl rfl rfl rfl (by decide) rfl rfl rfl ?_
    clear hc
    refine h_icmp_lt (pc := 12) (tgt := 25) C dX4_boxAt_12 (by decide) (fun q => ?_) (fun q => ?_)
    · replace hf := jif_t q hf
      clear q
      refine h_aload_n (pc := 25) C dX4_boxAt_25 rfl 0 rfl ?_
      refine h_get (pc := 26) (ci := 2) (C0 := RX4) (T := TX4) (N := 3) C uX4_boxAt_X4 rfl 0 rfl 0 (by decide) (List.mem_of_getElem? (i := 3) rfl) rfl rfl dX4_boxAt_26 ?_
      refine h_iload_n (pc := 29) C dX4_boxAt_29 rfl 1 rfl ?_
      obtain ⟨v2, hc, hf⟩ := jbd_s hf
      refine h_callV (pc := 30) (q0 := 1) (As := [.int a1]) (rest := []) (ws' := (wX cT ad areas keys there order added size loads widths height ranks)) (st2 := .int v2 :: []) C (c_X2_numberAt l D cT ad n areas keys there order added size a1 v2 hc) (cwV 1 C.1.2.2.2.2 gX4_boxAt_X2_numberAt rfl rfl rfl pv_X2_numberAt ⟨(Nat.le_of_ble_eq_true rfl), (Nat.le_of_ble_eq_true rfl)⟩) dX4_boxAt_30 rfl rfl rfl rfl rfl (Nat.le_of_ble_eq_true rfl) ⟨rfl, rfl⟩ ⟨(Nat.le_of_ble_eq_true rfl), (Nat.le_of_ble_eq_true rfl)⟩ [1, 2, 3, 4, 5] [0, 6, 7, 8, 9] [0, 5, 6, 7, 8, 9, 1, 2, 3, 4] rfl rfl rfl rfl (by decide) rfl rfl rfl ?_
      clear hc
      exact absurd (Prod.mk.inj (Option.some.inj hf)).1.symm hk0
    · replace hf := jif_f q hf
      clear q
      refine h_sub [] rfl ?_
      exact kx_X4_boxAt_15 hX0 D cT ad C X n areas keys there order added size loads widths height ranks r k hk0 hf
