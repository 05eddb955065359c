/-! laid by wip/whole/lay.py: contracts -/
abbrev rmX4_isCoordinate : Room := { frames := 0, cells := 0, slots := 0, locals := 0 }
set_option maxRecDepth 100000 in
set_option maxHeartbeats 4000000 in
theorem c_X4_isCoordinate (l : Launch) (D : va_G) (cT : Nat → ClassId) (ad : Nat → Nat) (n : Nat)  (a0 : Int32) (r : Int32) (hf : f_X4_isCoordinate n a0 = some r) : cM l yX4_isCoordinate wsX4_isCoordinate rmX4_isCoordinate D (ty4 cT) [.int a0] [] (some (.int r)) [] := by
  refine cM_of (cc := cX4_isCoordinate) (maxL := 1) (ret := (some .boolean)) (own := RX4) (lv := [(0, .int a0)]) (by decide) rfl (Nat.le_of_ble_eq_true rfl) rfl rfl ?_
  intro p e s m args below meth c A C hr
  unfold f_X4_isCoordinate at hf
  refine h_iload_n (pc := 0) C dX4_isCoordinate_0 rfl 0 rfl ?_
  refine h_if_lt (pc := 1) (tgt := 15) C dX4_isCoordinate_1 (by decide) (fun q => ?_) (fun q => ?_)
  · replace hf := jif_t q hf
    clear q
    refine h_iconst (pc := 15) C dX4_isCoordinate_15 jc_0 ?_
    have g0 := (Option.some.inj hf)
    clear hf
    subst g0
    exact h_zret C hr rfl dX4_isCoordinate_16
  · replace hf := jif_f q hf
    clear q
    refine h_iload_n (pc := 4) C dX4_isCoordinate_4 rfl 0 rfl ?_
    refine h_sipush (pc := 5) C dX4_isCoordinate_5 js_255 ?_
    refine h_icmp_gt (pc := 8) (tgt := 15) C dX4_isCoordinate_8 (by decide) (fun q => ?_) (fun q => ?_)
    · replace hf := jif_t q hf
      clear q
      refine h_iconst (pc := 15) C dX4_isCoordinate_15 jc_0 ?_
      have g0 := (Option.some.inj hf)
      clear hf
      subst g0
      exact h_zret C hr rfl dX4_isCoordinate_16
    · replace hf := jif_f q hf
      clear q
      refine h_iconst (pc := 11) C dX4_isCoordinate_11 jc_1 ?_
      refine h_goto (pc := 12) (tgt := 16) C dX4_isCoordinate_12 (by decide) ?_
      have g0 := (Option.some.inj hf)
      clear hf
      subst g0
      exact h_zret C hr rfl dX4_isCoordinate_16
theorem ps_X4_isCoordinate : yX4_isCoordinate.cls ≠ "java/lang/invoke/MethodHandle" ∧ yX4_isCoordinate.cls ≠ "java/lang/invoke/VarHandle" ∧ (parseMethodDescriptor yX4_isCoordinate.desc).map (fun d => d.parameters.length) = some 1 := by decide +kernel
abbrev rmX4_checkSides : Room := { frames := 6, cells := 0, slots := 0, locals := 90 }
set_option maxRecDepth 100000 in
set_option maxHeartbeats 4000000 in
theorem k_X4_checkSides_38 {p : Program} {e : Env} {s : State} {m : MethodId} {args : Array Value} {below : List Frame} {meth : Method} {c : Code} {A : Nat → Prop} (l : Launch) (D : va_G) (cT : Nat → ClassId) (ad : Nat → Nat) (C : hC p s m args meth c cX4_checkSides 4 wsX4_checkSides RX4 D (ty4 cT) A) (hr : meth.sig.returnType = none) (n : Nat)   (k : Nat) (hk0 : k = 0)  : f_X4_checkSides_38 n = some k → hS p l e rmX4_checkSides s m args below meth c 4 D A 0 0 (MQ below (cQ D (ty4 cT) A none []) args s 0 0 A) 38 [] [] [] := by
  intro  hf
  unfold f_X4_checkSides_38 at hf
  exact absurd ((Option.some.inj hf).trans hk0) (by decide)
set_option maxRecDepth 100000 in
set_option maxHeartbeats 4000000 in
theorem c_X4_checkSides (l : Launch) (D : va_G) (cT : Nat → ClassId) (ad : Nat → Nat) (n : Nat)  (a0 : Int32) (a1 : Int32) (a2 : Int32) (a3 : Int32)  (k : Nat) (hk0 : k = 0) (hf : f_X4_checkSides n a0 a1 a2 a3 = some k) : cM l yX4_checkSides wsX4_checkSides rmX4_checkSides D (ty4 cT) [.int a0, .int a1, .int a2, .int a3] [] none [] := by
  refine cM_of (cc := cX4_checkSides) (maxL := 4) (ret := none) (own := RX4) (lv := [(0, .int a0), (1, .int a1), (2, .int a2), (3, .int a3)]) (by decide) rfl (Nat.le_of_ble_eq_true rfl) rfl rfl ?_
  intro p e s m args below meth c A C hr
  unfold f_X4_checkSides at hf
  refine h_iload_n (pc := 0) C dX4_checkSides_0 rfl 0 rfl ?_
  obtain ⟨v1, hc, hf⟩ := jbd_s hf
  refine h_callP (pc := 1) (As := [.int a0]) (rest := []) (st2 := .int v1 :: []) C (c_X4_isCoordinate l D cT ad n a0 v1 hc) (va_cwS 1 C.1.2.2.2.2 gX4_checkSides_X4_isCoordinate rfl rfl rfl ps_X4_isCoordinate ⟨(Nat.le_of_ble_eq_true rfl), (Nat.le_of_ble_eq_true rfl)⟩) dX4_checkSides_1 rfl rfl (Nat.le_of_ble_eq_true rfl) ⟨rfl, rfl⟩ ⟨(Nat.le_of_ble_eq_true rfl), (Nat.le_of_ble_eq_true rfl)⟩ rfl ?_
  clear hc
  refine h_if_eq (pc := 4) (tgt := 38) C dX4_checkSides_4 (by decide) (fun q => ?_) (fun q => ?_)
  · replace hf := jif_t q hf
    clear q
    refine h_sub [] rfl ?_
    exact k_X4_checkSides_38 l D cT ad C hr n k hk0 hf
  · replace hf := jif_f q hf
    clear q
    refine h_iload_n (pc := 7) C dX4_checkSides_7 rfl 1 rfl ?_
    obtain ⟨v2, hc, hf⟩ := jbd_s hf
    refine h_callP (pc := 8) (As := [.int a1]) (rest := []) (st2 := .int v2 :: []) C (c_X4_isCoordinate l D cT ad n a1 v2 hc) (va_cwS 1 C.1.2.2.2.2 gX4_checkSides_X4_isCoordinate rfl rfl rfl ps_X4_isCoordinate ⟨(Nat.le_of_ble_eq_true rfl), (Nat.le_of_ble_eq_true rfl)⟩) dX4_checkSides_8 rfl rfl (Nat.le_of_ble_eq_true rfl) ⟨rfl, rfl⟩ ⟨(Nat.le_of_ble_eq_true rfl), (Nat.le_of_ble_eq_true rfl)⟩ rfl ?_
    clear hc
    refine h_if_eq (pc := 11) (tgt := 38) C dX4_checkSides_11 (by decide) (fun q => ?_) (fun q => ?_)
    · replace hf := jif_t q hf
      clear q
      refine h_sub [] rfl ?_
      exact k_X4_checkSides_38 l D cT ad C hr n k hk0 hf
    · replace hf := jif_f q hf
      clear q
      refine h_iload_n (pc := 14) C dX4_checkSides_14 rfl 2 rfl ?_
      obtain ⟨v3, hc, hf⟩ := jbd_s hf
      refine h_callP (pc := 15) (As := [.int a2]) (rest := []) (st2 := .int v3 :: []) C (c_X4_isCoordinate l D cT ad n a2 v3 hc) (va_cwS 1 C.1.2.2.2.2 gX4_checkSides_X4_isCoordinate rfl rfl rfl ps_X4_isCoordinate ⟨(Nat.le_of_ble_eq_true rfl), (Nat.le_of_ble_eq_true rfl)⟩) dX4_checkSides_15 rfl rfl (Nat.le_of_ble_eq_true rfl) ⟨rfl, rfl⟩ ⟨(Nat.le_of_ble_eq_true rfl), (Nat.le_of_ble_eq_true rfl)⟩ rfl ?_
      clear hc
      refine h_if_eq (pc := 18) (tgt := 38) C dX4_checkSides_18 (by decide) (fun q => ?_) (fun q => ?_)
      · replace hf := jif_t q hf
        clear q
        refine h_sub [] rfl ?_
        exact k_X4_checkSides_38 l D cT ad C hr n k hk0 hf
      · replace hf := jif_f q hf
        clear q
        refine h_iload_n (pc := 21) C dX4_checkSides_21 rfl 3 rfl ?_
        obtain ⟨v4, hc, hf⟩ := jbd_s hf
        refine h_callP (pc := 22) (As := [.int a3]) (rest := []) (st2 := .int v4 :: []) C (c_X4_isCoordinate l D cT ad n a3 v4 hc) (va_cwS 1 C.1.2.2.2.2 gX4_checkSides_X4_isCoordinate rfl rfl rfl ps_X4_isCoordinate ⟨(Nat.le_of_ble_eq_true rfl), (Nat.le_of_ble_eq_true rfl)⟩) dX4_checkSides_22 rfl rfl (Nat.le_of_ble_eq_true rfl) ⟨rfl, rfl⟩ ⟨(Nat.le_of_ble_eq_true rfl), (Nat.le_of_ble_eq_true rfl)⟩ rfl ?_
        clear hc
        refine h_if_eq (pc := 25) (tgt := 38) C dX4_checkSides_25 (by decide) (fun q => ?_) (fun q => ?_)
        · replace hf := jif_t q hf
          clear q
          refine h_sub [] rfl ?_
          exact k_X4_checkSides_38 l D cT ad C hr n k hk0 hf
        · replace hf := jif_f q hf
          clear q
          refine h_iload_n (pc := 28) C dX4_checkSides_28 rfl 0 rfl ?_
          refine h_iload_n (pc := 29) C dX4_checkSides_29 rfl 2 rfl ?_
          refine h_icmp_gt (pc := 30) (tgt := 38) C dX4_checkSides_30 (by decide) (fun q => ?_) (fun q => ?_)
          · replace hf := jif_t q hf
            clear q
            refine h_sub [] rfl ?_
            exact k_X4_checkSides_38 l D cT ad C hr n k hk0 hf
          · replace hf := jif_f q hf
            clear q
            refine h_iload_n (pc := 33) C dX4_checkSides_33 rfl 1 rfl ?_
            refine h_iload_n (pc := 34) C dX4_checkSides_34 rfl 3 rfl ?_
            refine h_icmp_le (pc := 35) (tgt := 48) C dX4_checkSides_35 (by decide) (fun q => ?_) (fun q => ?_)
            · replace hf := jif_t q hf
              clear q
              have g0 := (Option.some.inj hf)
              clear hf
              subst g0
              exact h_vret C hr dX4_checkSides_48
            · replace hf := jif_f q hf
              clear q
              refine h_sub [] rfl ?_
              exact k_X4_checkSides_38 l D cT ad C hr n k hk0 hf
theorem ps_X4_checkSides : yX4_checkSides.cls ≠ "java/lang/invoke/MethodHandle" ∧ yX4_checkSides.cls ≠ "java/lang/invoke/VarHandle" ∧ (parseMethodDescriptor yX4_checkSides.desc).map (fun d => d.parameters.length) = some 4 := by decide +kernel
abbrev rxX4_checkSides : Room := { frames := 6, cells := 1, slots := 6, locals := 90 }
set_option maxRecDepth 100000 in
set_option maxHeartbeats 4000000 in
theorem kx_X4_checkSides_38 {p : Program} {e : Env} {s : State} {m : MethodId} {args : Array Value} {below : List Frame} {meth : Method} {c : Code} {A : Nat → Prop} {l : Launch} (hX0 : l.stackTraces = false) (D : va_G) (cT : Nat → ClassId) (ad : Nat → Nat) (C : hC p s m args meth c cX4_checkSides 4 wsX4_checkSides RX4 D (ty4 cT) A) (X : hX l s c A) (n : Nat)   (k : Nat) (hk0 : ¬ k = 0)  : f_X4_checkSides_38 n = some k → hS p l e rxX4_checkSides s m args below meth c 4 D A 0 0 (vx_MQ below (fun _ _ _ _ => False) (xX D (ty4 cT) A (xE k) []) args s 1 6 A) 38 [] [] [] := by
  intro  hf
  unfold f_X4_checkSides_38 at hf
  have g0 := (Option.some.inj hf)
  clear hf
  subst g0
  exact h_throw (pc := 38) C X xin_IAE xft_IAE xft_up (List.mem_of_getElem? (i := 1) rfl) (List.mem_of_getElem? (i := 2) rfl) (List.mem_of_getElem? (i := 5) rfl) (fun w h => List.mem_cons_of_mem _ (List.mem_append_right _ h)) xng_IAE xgd_IAE dX4_checkSides_38 dX4_checkSides_41 dX4_checkSides_42 dX4_checkSides_44 dX4_checkSides_47 ⟨Nat.le_of_ble_eq_true rfl, Nat.le_of_ble_eq_true rfl, Nat.le_of_ble_eq_true rfl, Nat.le_of_ble_eq_true rfl⟩ ⟨Nat.le_of_ble_eq_true rfl, Nat.le_of_ble_eq_true rfl⟩
set_option maxRecDepth 100000 in
set_option maxHeartbeats 4000000 in
theorem x_X4_checkSides {l : Launch} (hX0 : l.stackTraces = false) (D : va_G) (cT : Nat → ClassId) (ad : Nat → Nat) (n : Nat)  (a0 : Int32) (a1 : Int32) (a2 : Int32) (a3 : Int32)  (k : Nat) (hk0 : ¬ k = 0) (hf : f_X4_checkSides n a0 a1 a2 a3 = some k) : xM l yX4_checkSides wsX4_checkSides rxX4_checkSides D (ty4 cT) [.int a0, .int a1, .int a2, .int a3] [] (xE k) [] := by
  refine xM_of (cc := cX4_checkSides) (maxL := 4) (ret := none) (own := RX4) (lv := [(0, .int a0), (1, .int a1), (2, .int a2), (3, .int a3)]) hX0 (by decide) rfl (Nat.le_of_ble_eq_true rfl) rfl rfl ?_
  intro p e s m args below meth c A C X
  unfold f_X4_checkSides at hf
  refine h_iload_n (pc := 0) C dX4_checkSides_0 rfl 0 rfl ?_
  obtain ⟨v1, hc, hf⟩ := jbd_s hf
  refine h_callP (pc := 1) (As := [.int a0]) (rest := []) (st2 := .int v1 :: []) C (c_X4_isCoordinate l D cT ad n a0 v1 hc) (va_cwS 1 C.1.2.2.2.2 gX4_checkSides_X4_isCoordinate rfl rfl rfl ps_X4_isCoordinate ⟨(Nat.le_of_ble_eq_true rfl), (Nat.le_of_ble_eq_true rfl)⟩) dX4_checkSides_1 rfl rfl (Nat.le_of_ble_eq_true rfl) ⟨rfl, rfl⟩ ⟨(Nat.le_of_ble_eq_true rfl), (Nat.le_of_ble_eq_true rfl)⟩ rfl ?_
  clear hc
  refine h_if_eq (pc := 4) (tgt := 38) C dX4_checkSides_4 (by decide) (fun q => ?_) (fun q => ?_)
  · replace hf := jif_t q hf
    clear q
    refine h_sub [] rfl ?_
    exact kx_X4_checkSides_38 hX0 D cT ad C X n k hk0 hf
  · replace hf := jif_f q hf
    clear q
    refine h_iload_n (pc := 7) C dX4_checkSides_7 rfl 1 rfl ?_
    obtain ⟨v2, hc, hf⟩ := jbd_s hf
    refine h_callP (pc := 8) (As := [.int a1]) (rest := []) (st2 := .int v2 :: []) C (c_X4_isCoordinate l D cT ad n a1 v2 hc) (va_cwS 1 C.1.2.2.2.2 gX4_checkSides_X4_isCoordinate rfl rfl rfl ps_X4_isCoordinate ⟨(Nat.le_of_ble_eq_true rfl), (Nat.le_of_ble_eq_true rfl)⟩) dX4_checkSides_8 rfl rfl (Nat.le_of_ble_eq_true rfl) ⟨rfl, rfl⟩ ⟨(Nat.le_of_ble_eq_true rfl), (Nat.le_of_ble_eq_true rfl)⟩ rfl ?_
    clear hc
    refine h_if_eq (pc := 11) (tgt := 38) C dX4_checkSides_11 (by decide) (fun q => ?_) (fun q => ?_)
    · replace hf := jif_t q hf
      clear q
      refine h_sub [] rfl ?_
      exact kx_X4_checkSides_38 hX0 D cT ad C X n k hk0 hf
    · replace hf := jif_f q hf
      clear q
      refine h_iload_n (pc := 14) C dX4_checkSides_14 rfl 2 rfl ?_
      obtain ⟨v3, hc, hf⟩ := jbd_s hf
      refine h_callP (pc := 15) (As := [.int a2]) (rest := []) (st2 := .int v3 :: []) C (c_X4_isCoordinate l D cT ad n a2 v3 hc) (va_cwS 1 C.1.2.2.2.2 gX4_checkSides_X4_isCoordinate rfl rfl rfl ps_X4_isCoordinate ⟨(Nat.le_of_ble_eq_true rfl), (Nat.le_of_ble_eq_true rfl)⟩) dX4_checkSides_15 rfl rfl (Nat.le_of_ble_eq_true rfl) ⟨rfl, rfl⟩ ⟨(Nat.le_of_ble_eq_true rfl), (Nat.le_of_ble_eq_true rfl)⟩ rfl ?_
      clear hc
      refine h_if_eq (pc := 18) (tgt := 38) C dX4_checkSides_18 (by decide) (fun q => ?_) (fun q => ?_)
      · replace hf := jif_t q hf
        clear q
        refine h_sub [] rfl ?_
        exact kx_X4_checkSides_38 hX0 D cT ad C X n k hk0 hf
      · replace hf := jif_f q hf
        clear q
        refine h_iload_n (pc := 21) C dX4_checkSides_21 rfl 3 rfl ?_
        obtain ⟨v4, hc, hf⟩ := jbd_s hf
        refine h_callP (pc := 22) (As := [.int a3]) (rest := []) (st2 := .int v4 :: []) C (c_X4_isCoordinate l D cT ad n a3 v4 hc) (va_cwS 1 C.1.2.2.2.2 gX4_checkSides_X4_isCoordinate rfl rfl rfl ps_X4_isCoordinate ⟨(Nat.le_of_ble_eq_true rfl), (Nat.le_of_ble_eq_true rfl)⟩) dX4_checkSides_22 rfl rfl (Nat.le_of_ble_eq_true rfl) ⟨rfl, rfl⟩ ⟨(Nat.le_of_ble_eq_true rfl), (Nat.le_of_ble_eq_true rfl)⟩ rfl ?_
        clear hc
        refine h_if_eq (pc := 25) (tgt := 38) C dX4_checkSides_25 (by decide) (fun q => ?_) (fun q => ?_)
        · replace hf := jif_t q hf
          clear q
          refine h_sub [] rfl ?_
          exact kx_X4_checkSides_38 hX0 D cT ad C X n k hk0 hf
        · replace hf := jif_f q hf
          clear q
          refine h_iload_n (pc := 28) C dX4_checkSides_28 rfl 0 rfl ?_
          refine h_iload_n (pc := 29) C dX4_checkSides_29 rfl 2 rfl ?_
          refine h_icmp_gt (pc := 30) (tgt := 38) C dX4_checkSides_30 (by decide) (fun q => ?_) (fun q => ?_)
          · replace hf := jif_t q hf
            clear q
            refine h_sub [] rfl ?_
            exact kx_X4_checkSides_38 hX0 D cT ad C X n k hk0 hf
          · replace hf := jif_f q hf
            clear q
            refine h_iload_n (pc := 33) C dX4_checkSides_33 rfl 1 rfl ?_
            refine h_iload_n (pc := 34) C dX4_checkSides_34 rfl 3 rfl ?_
            refine h_icmp_le (pc := 35) (tgt := 48) C dX4_checkSides_35 (by decide) (fun q => ?_) (fun q => ?_)
            · replace hf := jif_t q hf
              clear q
              exact absurd (Option.some.inj hf).symm hk0
            · replace hf := jif_f q hf
              clear q
              refine h_sub [] rfl ?_
              exact kx_X4_checkSides_38 hX0 D cT ad C X n k hk0 hf
abbrev rmX4_add : Room := { frames := 7, cells := 0, slots := 0, locals := 143 }
theorem uX4_add_X4 : ∀ w ∈ u_ws RX4 TX4 3, w ∈ wsX4_add := fun w h => List.mem_cons_of_mem _ (List.mem_append_left _ (List.mem_append_left _ (List.mem_append_left _ (List.mem_append_left _ (List.mem_append_right _ h)))))
set_option maxRecDepth 100000 in
set_option maxHeartbeats 4000000 in
theorem c_X4_add (l : Launch) (D : va_G) (cT : Nat → ClassId) (ad : Nat → Nat) (n : Nat) (areas : Nat → Int32) (keys : Nat → Int32) (there : Nat → Int32) (order : Nat → Int32) (added : Int32) (size : Int32) (loads : Nat → Int32) (widths : Nat → Int32) (height : Int32) (ranks : Nat → Int32) (a1 : Int32) (a2 : Int32) (a3 : Int32) (a4 : Int32) (r : Int32) (areas' : Nat → Int32) (keys' : Nat → Int32) (there' : Nat → Int32) (order' : Nat → Int32) (added' : Int32) (size' : Int32) (loads' : Nat → Int32) (widths' : Nat → Int32) (height' : Int32) (k : Nat) (hk0 : k = 0) (hf : f_X4_add n areas keys there order added size loads widths height a1 a2 a3 a4 = some (k, r, areas', keys', there', order', added', size', loads', widths', height')) : cM l yX4_add wsX4_add rmX4_add D (ty4 cT) [.ref (ad 0), .int a1, .int a2, .int a3, .int a4] (wX cT ad areas keys there order added size loads widths height ranks) (some (.int r)) (wX cT ad areas' keys' there' order' added' size' loads' widths' height' ranks) := by
  refine cM_of (cc := cX4_add) (maxL := 6) (ret := (some .int)) (own := RX4) (lv := [(0, .ref (ad 0)), (1, .int a1), (2, .int a2), (3, .int a3), (4, .int a4)]) (by decide) rfl (Nat.le_of_ble_eq_true rfl) rfl rfl ?_
  intro p e s m args below meth c A C hr
  unfold f_X4_add at hf
  refine h_iload_n (pc := 0) C dX4_add_0 rfl 1 rfl ?_
  refine h_iload_n (pc := 1) C dX4_add_1 rfl 2 rfl ?_
  refine h_iload_n (pc := 2) C dX4_add_2 rfl 3 rfl ?_
  refine h_iload (pc := 3) C dX4_add_3 4 rfl ?_
  obtain ⟨v1, hc, hf⟩ := jbd_s hf
  by_cases hk : v1 = 0
  · replace hf := jif_t hk hf
    refine h_callP (pc := 5) (As := [.int a1, .int a2, .int a3, .int a4]) (rest := []) (st2 := []) C (c_X4_checkSides l D cT ad n a1 a2 a3 a4 v1 hk hc) (va_cwS 4 C.1.2.2.2.2 gX4_add_X4_checkSides rfl rfl rfl ps_X4_checkSides ⟨(Nat.le_of_ble_eq_true rfl), (Nat.le_of_ble_eq_true rfl)⟩) dX4_add_5 rfl rfl (Nat.le_of_ble_eq_true rfl) ⟨rfl, rfl⟩ ⟨(Nat.le_of_ble_eq_true rfl), (Nat.le_of_ble_eq_true rfl)⟩ rfl ?_
    clear hc
    refine h_aload_n (pc := 8) C dX4_add_8 rfl 0 rfl ?_
    refine h_get (pc := 9) (ci := 2) (C0 := RX4) (T := TX4) (N := 3) C uX4_add_X4 rfl 0 rfl 0 (by decide) (List.mem_of_getElem? (i := 3) rfl) rfl rfl dX4_add_9 ?_
    obtain ⟨v2, hc, hf⟩ := jbd_s hf
    refine h_callV (pc := 12) (q0 := 1) (As := []) (rest := []) (ws' := (wX cT ad areas keys there order added size loads widths height ranks)) (st2 := .int v2 :: []) C (c_X2_hasRoom l D cT ad n areas keys there order added size v2 hc) (cwV 0 C.1.2.2.2.2 gX4_add_X2_hasRoom rfl rfl rfl pv_X2_hasRoom ⟨(Nat.le_of_ble_eq_true rfl), (Nat.le_of_ble_eq_true rfl)⟩) dX4_add_12 rfl rfl rfl rfl rfl (Nat.le_of_ble_eq_true rfl) ⟨rfl, rfl⟩ ⟨(Nat.le_of_ble_eq_true rfl), (Nat.le_of_ble_eq_true rfl)⟩ [1, 2, 3, 4, 5] [0, 6, 7, 8, 9] [0, 5, 6, 7, 8, 9, 1, 2, 3, 4] rfl rfl rfl rfl (by decide) rfl rfl rfl ?_
    clear hc
    refine h_if_ne (pc := 15) (tgt := 28) C dX4_add_15 (by decide) (fun q => ?_) (fun q => ?_)
    · replace hf := jif_f q hf
      clear q
      refine h_aload_n (pc := 28) C dX4_add_28 rfl 0 rfl ?_
      refine h_get (pc := 29) (ci := 2) (C0 := RX4) (T := TX4) (N := 3) C uX4_add_X4 rfl 0 rfl 0 (by decide) (List.mem_of_getElem? (i := 3) rfl) rfl rfl dX4_add_29 ?_
      refine h_iload_n (pc := 32) C dX4_add_32 rfl 1 rfl ?_
      refine h_iload_n (pc := 33) C dX4_add_33 rfl 2 rfl ?_
      refine h_iload_n (pc := 34) C dX4_add_34 rfl 3 rfl ?_
      refine h_iload (pc := 35) C dX4_add_35 4 rfl ?_
      obtain ⟨v3, hc, hf⟩ := jbd_s hf
      refine h_callP (pc := 37) (As := [.int a1, .int a2, .int a3, .int a4]) (rest := .ref (ad 1) :: []) (st2 := .int v3 :: .ref (ad 1) :: []) C (c_X0_of l D cT ad n a1 a2 a3 a4 v3 hc) (va_cwS 4 C.1.2.2.2.2 gX4_add_X0_of rfl rfl rfl ps_X0_of ⟨(Nat.le_of_ble_eq_true rfl), (Nat.le_of_ble_eq_true rfl)⟩) dX4_add_37 rfl rfl (Nat.le_of_ble_eq_true rfl) ⟨rfl, rfl⟩ ⟨(Nat.le_of_ble_eq_true rfl), (Nat.le_of_ble_eq_true rfl)⟩ rfl ?_
      clear hc
      obtain ⟨v4, hc, hf⟩ := jbd_s hf
      refine h_callV (pc := 40) (q0 := 1) (As := [.int v3]) (rest := []) (ws' := (wX cT ad v4.2.1 v4.2.2.1 v4.2.2.2.1 v4.2.2.2.2.1 v4.2.2.2.2.2.1 v4.2.2.2.2.2.2 loads widths height ranks)) (st2 := .int v4.1 :: []) C (c_X2_putIn l D cT ad n areas keys there order added size v3 v4.1 v4.2.1 v4.2.2.1 v4.2.2.2.1 v4.2.2.2.2.1 v4.2.2.2.2.2.1 v4.2.2.2.2.2.2 hc) (cwV 1 C.1.2.2.2.2 gX4_add_X2_putIn rfl rfl rfl pv_X2_putIn ⟨(Nat.le_of_ble_eq_true rfl), (Nat.le_of_ble_eq_true rfl)⟩) dX4_add_40 rfl rfl rfl rfl rfl (Nat.le_of_ble_eq_true rfl) ⟨rfl, rfl⟩ ⟨(Nat.le_of_ble_eq_true rfl), (Nat.le_of_ble_eq_true rfl)⟩ [1, 2, 3, 4, 5] [0, 6, 7, 8, 9] [0, 5, 6, 7, 8, 9, 1, 2, 3, 4] rfl rfl rfl rfl (by decide) rfl rfl rfl ?_
      clear hc
      refine h_istore (pc := 43) (lv' := [(5, .int v4.1), (0, .ref (ad 0)), (1, .int a1), (2, .int a2), (3, .int a3), (4, .int a4)]) C dX4_add_43 (by decide) rfl ?_
      refine h_aload_n (pc := 45) C dX4_add_45 rfl 1 rfl ?_
      refine h_get (pc := 46) (ci := 2) (C0 := RX4) (T := TX4) (N := 3) C uX4_add_X4 rfl 0 rfl 1 (by decide) (List.mem_of_getElem? (i := 4) rfl) rfl rfl dX4_add_46 ?_
      refine h_aload_n (pc := 49) C dX4_add_49 rfl 1 rfl ?_
      refine h_get (pc := 50) (ci := 2) (C0 := RX4) (T := TX4) (N := 3) C uX4_add_X4 rfl 0 rfl 0 (by decide) (List.mem_of_getElem? (i := 3) rfl) rfl rfl dX4_add_50 ?_
      refine h_iload (pc := 53) C dX4_add_53 0 rfl ?_
      obtain ⟨v5, hc, hf⟩ := jbd_s hf
      refine h_callV (pc := 55) (q0 := 1) (As := [.int v4.1]) (rest := .ref (ad 6) :: []) (ws' := (wX cT ad v4.2.1 v4.2.2.1 v4.2.2.2.1 v4.2.2.2.2.1 v4.2.2.2.2.2.1 v4.2.2.2.2.2.2 loads widths height ranks)) (st2 := .int v5 :: .ref (ad 6) :: []) C (c_X2_placeOf l D cT ad n v4.2.1 v4.2.2.1 v4.2.2.2.1 v4.2.2.2.2.1 v4.2.2.2.2.2.1 v4.2.2.2.2.2.2 v4.1 v5 hc) (cwV 1 C.1.2.2.2.2 gX4_add_X2_placeOf rfl rfl rfl pv_X2_placeOf ⟨(Nat.le_of_ble_eq_true rfl), (Nat.le_of_ble_eq_true rfl)⟩) dX4_add_55 rfl rfl rfl rfl rfl (Nat.le_of_ble_eq_true rfl) ⟨rfl, rfl⟩ ⟨(Nat.le_of_ble_eq_true rfl), (Nat.le_of_ble_eq_true rfl)⟩ [1, 2, 3, 4, 5] [0, 6, 7, 8, 9] [0, 5, 6, 7, 8, 9, 1, 2, 3, 4] rfl rfl rfl rfl (by decide) rfl rfl rfl ?_
      clear hc
      obtain ⟨v6, hc, hf⟩ := jbd_s hf
      refine h_callV (pc := 58) (q0 := 6) (As := [.int v5]) (rest := []) (ws' := (wX cT ad v4.2.1 v4.2.2.1 v4.2.2.2.1 v4.2.2.2.2.1 v4.2.2.2.2.2.1 v4.2.2.2.2.2.2 v6.1 v6.2.1 v6.2.2 ranks)) (st2 := []) C (c_X3_grow l D cT ad n loads widths height v5 v6.1 v6.2.1 v6.2.2 hc) (cwV 1 C.1.2.2.2.2 gX4_add_X3_grow rfl rfl rfl pv_X3_grow ⟨(Nat.le_of_ble_eq_true rfl), (Nat.le_of_ble_eq_true rfl)⟩) dX4_add_58 rfl rfl rfl rfl rfl (Nat.le_of_ble_eq_true rfl) ⟨rfl, rfl⟩ ⟨(Nat.le_of_ble_eq_true rfl), (Nat.le_of_ble_eq_true rfl)⟩ [6, 7, 8] [0, 1, 2, 3, 4, 5, 9] [0, 1, 2, 3, 4, 5, 7, 8, 9, 6] rfl rfl rfl rfl (by decide) rfl rfl rfl ?_
      clear hc
      refine h_iload (pc := 61) C dX4_add_61 0 rfl ?_
      have g0 := (Prod.mk.inj (Option.some.inj hf)).1
      have g1 := (Prod.mk.inj (Prod.mk.inj (Option.some.inj hf)).2).1
      have g2 := (Prod.mk.inj (Prod.mk.inj (Prod.mk.inj (Option.some.inj hf)).2).2).1
      have g3 := (Prod.mk.inj (Prod.mk.inj (Prod.mk.inj (Prod.mk.inj (Option.some.inj hf)).2).2).2).1
      have g4 := (Prod.mk.inj (Prod.mk.inj (Prod.mk.inj (Prod.mk.inj (Prod.mk.inj (Option.some.inj hf)).2).2).2).2).1
      have g5 := (Prod.mk.inj (Prod.mk.inj (Prod.mk.inj (Prod.mk.inj (Prod.mk.inj (Prod.mk.inj (Option.some.inj hf)).2).2).2).2).2).1
      have g6 := (Prod.mk.inj (Prod.mk.inj (Prod.mk.inj (Prod.mk.inj (Prod.mk.inj (Prod.mk.inj (Prod.mk.inj (Option.some.inj hf)).2).2).2).2).2).2).1
      have g7 := (Prod.mk.inj (Prod.mk.inj (Prod.mk.inj (Prod.mk.inj (Prod.mk.inj (Prod.mk.inj (Prod.mk.inj (Prod.mk.inj (Option.some.inj hf)).2).2).2).2).2).2).2).1
      have g8 := (Prod.mk.inj (Prod.mk.inj (Prod.mk.inj (Prod.mk.inj (Prod.mk.inj (Prod.mk.inj (Prod.mk.inj (Prod.mk.inj (Prod.mk.inj (Option.some.inj hf)).2).2).2).2).2).2).2).2).1
      have g9 := (Prod.mk.inj (Prod.mk.inj (Prod.mk.inj (Prod.mk.inj (Prod.mk.inj (Prod.mk.inj (Prod.mk.inj (Prod.mk.inj (Prod.mk.inj (Prod.mk.inj (Option.some.inj hf)).2).2).2).2).2).2).2).2).2).1
      have g10 := (Prod.mk.inj (Prod.mk.inj (Prod.mk.inj (Prod.mk.inj (Prod.mk.inj (Prod.mk.inj (Prod.mk.inj (Prod.mk.inj (Prod.mk.inj (Prod.mk.inj (Option.some.inj hf)).2).2).2).2).2).2).2).2).2).2
      clear hf
      subst g0
      subst g1
      subst g2
      subst g3
      subst g4
      subst g5
      subst g6
      subst g7
      subst g8
      subst g9
      subst g10
      exact h_iret C hr dX4_add_63
    · replace hf := jif_t q hf
      clear q
      exact absurd ((Prod.mk.inj (Option.some.inj hf)).1.trans hk0) (by decide)
  · replace hf := jif_f hk hf
    exact absurd ((Prod.mk.inj (Option.some.inj hf)).1.trans hk0) hk
theorem pv_X4_add : yX4_add.cls = RX4 ∧ yX4_add.cls ≠ "java/lang/invoke/MethodHandle" ∧ yX4_add.cls ≠ "java/lang/invoke/VarHandle" ∧ (parseMethodDescriptor yX4_add.desc).map (fun d => d.parameters.length) = some 4 := by decide +kernel
abbrev rxX4_add : Room := { frames := 7, cells := 1, slots := 6, locals := 143 }
set_option maxRecDepth 100000 in
set_option maxHeartbeats 4000000 in
theorem x_X4_add {l : Launch} (hX0 : l.stackTraces = false) (D : va_G) (cT : Nat → ClassId) (ad : Nat → Nat) (n : Nat) (areas : Nat → Int32) (keys : Nat → Int32) (there : Nat → Int32) (order : Nat → Int32) (added : Int32) (size : Int32) (loads : Nat → Int32) (widths : Nat → Int32) (height : Int32) (ranks : Nat → Int32) (a1 : Int32) (a2 : Int32) (a3 : Int32) (a4 : Int32) (r : Int32) (areas' : Nat → Int32) (keys' : Nat → Int32) (there' : Nat → Int32) (order' : Nat → Int32) (added' : Int32) (size' : Int32) (loads' : Nat → Int32) (widths' : Nat → Int32) (height' : Int32) (k : Nat) (hk0 : ¬ k = 0) (hf : f_X4_add n areas keys there order added size loads widths height a1 a2 a3 a4 = some (k, r, areas', keys', there', order', added', size', loads', widths', height')) : xM l yX4_add wsX4_add rxX4_add D (ty4 cT) [.ref (ad 0), .int a1, .int a2, .int a3, .int a4] (wX cT ad areas keys there order added size loads widths height ranks) (xE k) (wX cT ad areas' keys' there' order' added' size' loads' widths' height' ranks) := by
  refine xM_of (cc := cX4_add) (maxL := 6) (ret := (some .int)) (own := RX4) (lv := [(0, .ref (ad 0)), (1, .int a1), (2, .int a2), (3, .int a3), (4, .int a4)]) hX0 (by decide) rfl (Nat.le_of_ble_eq_true rfl) rfl rfl ?_
  intro p e s m args below meth c A C X
  unfold f_X4_add at hf
  refine h_iload_n (pc := 0) C dX4_add_0 rfl 1 rfl ?_
  refine h_iload_n (pc := 1) C dX4_add_1 rfl 2 rfl ?_
  refine h_iload_n (pc := 2) C dX4_add_2 rfl 3 rfl ?_
  refine h_iload (pc := 3) C dX4_add_3 4 rfl ?_
  obtain ⟨v1, hc, hf⟩ := jbd_s hf
  by_cases hk : v1 = 0
  · replace hf := jif_t hk hf
    refine h_callP (pc := 5) (As := [.int a1, .int a2, .int a3, .int a4]) (rest := []) (st2 := []) C (c_X4_checkSides l D cT ad n a1 a2 a3 a4 v1 hk hc) (va_cwS 4 C.1.2.2.2.2 gX4_add_X4_checkSides rfl rfl rfl ps_X4_checkSides ⟨(Nat.le_of_ble_eq_true rfl), (Nat.le_of_ble_eq_true rfl)⟩) dX4_add_5 rfl rfl (Nat.le_of_ble_eq_true rfl) ⟨rfl, rfl⟩ ⟨(Nat.le_of_ble_eq_true rfl), (Nat.le_of_ble_eq_true rfl)⟩ rfl ?_
    clear hc
    refine h_aload_n (pc := 8) C dX4_add_8 rfl 0 rfl ?_
    refine h_get (pc := 9) (ci := 2) (C0 := RX4) (T := TX4) (N := 3) C uX4_add_X4 rfl 0 rfl 0 (by decide) (List.mem_of_getElem? (i := 3) rfl) rfl rfl dX4_add_9 ?_
    obtain ⟨v2, hc, hf⟩ := jbd_s hf
    refine h_callV (pc := 12) (q0 := 1) (As := []) (rest := []) (ws' := (wX cT ad areas keys there order added size loads widths height ranks)) (st2 := .int v2 :: []) C (c_X2_hasRoom l D cT ad n areas keys there order added size v2 hc) (cwV 0 C.1.2.2.2.2 gX4_add_X2_hasRoom rfl rfl rfl pv_X2_hasRoom ⟨(Nat.le_of_ble_eq_true rfl), (Nat.le_of_ble_eq_true rfl)⟩) dX4_add_12 rfl rfl rfl rfl rfl (Nat.le_of_ble_eq_true rfl) ⟨rfl, rfl⟩ ⟨(Nat.le_of_ble_eq_true rfl), (Nat.le_of_ble_eq_true rfl)⟩ [1, 2, 3, 4, 5] [0, 6, 7, 8, 9] [0, 5, 6, 7, 8, 9, 1, 2, 3, 4] rfl rfl rfl rfl (by decide) rfl rfl rfl ?_
    clear hc
    refine h_if_ne (pc := 15) (tgt := 28) C dX4_add_15 (by decide) (fun q => ?_) (fun q => ?_)
    · replace hf := jif_f q hf
      clear q
      refine h_aload_n (pc := 28) C dX4_add_28 rfl 0 rfl ?_
      refine h_get (pc := 29) (ci := 2) (C0 := RX4) (T := TX4) (N := 3) C uX4_add_X4 rfl 0 rfl 0 (by decide) (List.mem_of_getElem? (i := 3) rfl) rfl rfl dX4_add_29 ?_
      refine h_iload_n (pc := 32) C dX4_add_32 rfl 1 rfl ?_
      refine h_iload_n (pc := 33) C dX4_add_33 rfl 2 rfl ?_
      refine h_iload_n (pc := 34) C dX4_add_34 rfl 3 rfl ?_
      refine h_iload (pc := 35) C dX4_add_35 4 rfl ?_
      obtain ⟨v3, hc, hf⟩ := jbd_s hf
      refine h_callP (pc := 37) (As := [.int a1, .int a2, .int a3, .int a4]) (rest := .ref (ad 1) :: []) (st2 := .int v3 :: .ref (ad 1) :: []) C (c_X0_of l D cT ad n a1 a2 a3 a4 v3 hc) (va_cwS 4 C.1.2.2.2.2 gX4_add_X0_of rfl rfl rfl ps_X0_of ⟨(Nat.le_of_ble_eq_true rfl), (Nat.le_of_ble_eq_true rfl)⟩) dX4_add_37 rfl rfl (Nat.le_of_ble_eq_true rfl) ⟨rfl, rfl⟩ ⟨(Nat.le_of_ble_eq_true rfl), (Nat.le_of_ble_eq_true rfl)⟩ rfl ?_
      clear hc
      obtain ⟨v4, hc, hf⟩ := jbd_s hf
      refine h_callV (pc := 40) (q0 := 1) (As := [.int v3]) (rest := []) (ws' := (wX cT ad v4.2.1 v4.2.2.1 v4.2.2.2.1 v4.2.2.2.2.1 v4.2.2.2.2.2.1 v4.2.2.2.2.2.2 loads widths height ranks)) (st2 := .int v4.1 :: []) C (c_X2_putIn l D cT ad n areas keys there order added size v3 v4.1 v4.2.1 v4.2.2.1 v4.2.2.2.1 v4.2.2.2.2.1 v4.2.2.2.2.2.1 v4.2.2.2.2.2.2 hc) (cwV 1 C.1.2.2.2.2 gX4_add_X2_putIn rfl rfl rfl pv_X2_putIn ⟨(Nat.le_of_ble_eq_true rfl), (Nat.le_of_ble_eq_true rfl)⟩) dX4_add_40 rfl rfl rfl rfl rfl (Nat.le_of_ble_eq_true rfl) ⟨rfl, rfl⟩ ⟨(Nat.le_of_ble_eq_true rfl), (Nat.le_of_ble_eq_true rfl)⟩ [1, 2, 3, 4, 5] [0, 6, 7, 8, 9] [0, 5, 6, 7, 8, 9, 1, 2, 3, 4] rfl rfl rfl rfl (by decide) rfl rfl rfl ?_
      clear hc
      refine h_istore (pc := 43) (lv' := [(5, .int v4.1), (0, .ref (ad 0)), (1, .int a1), (2, .int a2), (3, .int a3), (4, .int a4)]) C dX4_add_43 (by decide) rfl ?_
      refine h_aload_n (pc := 45) C dX4_add_45 rfl 1 rfl ?_
      refine h_get (pc := 46) (ci := 2) (C0 := RX4) (T := TX4) (N := 3) C uX4_add_X4 rfl 0 rfl 1 (by decide) (List.mem_of_getElem? (i := 4) rfl) rfl rfl dX4_add_46 ?_
      refine h_aload_n (pc := 49) C dX4_add_49 rfl 1 rfl ?_
      refine h_get (pc := 50) (ci := 2) (C0 := RX4) (T := TX4) (N := 3) C uX4_add_X4 rfl 0 rfl 0 (by decide) (List.mem_of_getElem? (i := 3) rfl) rfl rfl dX4_add_50 ?_
      refine h_iload (pc := 53) C dX4_add_53 0 rfl ?_
      obtain ⟨v5, hc, hf⟩ := jbd_s hf
      refine h_callV (pc := 55) (q0 := 1) (As := [.int v4.1]) (rest := .ref (ad 6) :: []) (ws' := (wX cT ad v4.2.1 v4.2.2.1 v4.2.2.2.1 v4.2.2.2.2.1 v4.2.2.2.2.2.1 v4.2.2.2.2.2.2 loads widths height ranks)) (st2 := .int v5 :: .ref (ad 6) :: []) C (c_X2_placeOf l D cT ad n v4.2.1 v4.2.2.1 v4.2.2.2.1 v4.2.2.2.2.1 v4.2.2.2.2.2.1 v4.2.2.2.2.2.2 v4.1 v5 hc) (cwV 1 C.1.2.2.2.2 gX4_add_X2_placeOf rfl rfl rfl pv_X2_placeOf ⟨(Nat.le_of_ble_eq_true rfl), (Nat.le_of_ble_eq_true rfl)⟩) dX4_add_55 rfl rfl rfl rfl rfl (Nat.le_of_ble_eq_true rfl) ⟨rfl, rfl⟩ ⟨(Nat.le_of_ble_eq_true rfl), (Nat.le_of_ble_eq_true rfl)⟩ [1, 2, 3, 4, 5] [0, 6, 7, 8, 9] [0, 5, 6, 7, 8, 9, 1, 2, 3, 4] rfl rfl rfl rfl (by decide) rfl rfl rfl ?_
      clear hc
      obtain ⟨v6, hc, hf⟩ := jbd_s hf
      refine h_callV (pc := 58) (q0 := 6) (As := [.int v5]) (rest := []) (ws' := (wX cT ad v4.2.1 v4.2.2.1 v4.2.2.2.1 v4.2.2.2.2.1 v4.2.2.2.2.2.1 v4.2.2.2.2.2.2 v6.1 v6.2.1 v6.2.2 ranks)) (st2 := []) C (c_X3_grow l D cT ad n loads widths height v5 v6.1 v6.2.1 v6.2.2 hc) (cwV 1 C.1.2.2.2.2 gX4_add_X3_grow rfl rfl rfl pv_X3_grow ⟨(Nat.le_of_ble_eq_true rfl), (Nat.le_of_ble_eq_true rfl)⟩) dX4_add_58 rfl rfl rfl rfl rfl (Nat.le_of_ble_eq_true rfl) ⟨rfl, rfl⟩ ⟨(Nat.le_of_ble_eq_true rfl), (Nat.le_of_ble_eq_true rfl)⟩ [6, 7, 8] [0, 1, 2, 3, 4, 5, 9] [0, 1, 2, 3, 4, 5, 7, 8, 9, 6] rfl rfl rfl rfl (by decide) rfl rfl rfl ?_
      clear hc
      refine h_iload (pc := 61) C dX4_add_61 0 rfl ?_
      exact absurd (Prod.mk.inj (Option.some.inj hf)).1.symm hk0
    · replace hf := jif_t q hf
      clear q
      have g0 := (Prod.mk.inj (Option.some.inj hf)).1
      have g1 := (Prod.mk.inj (Prod.mk.inj (Option.some.inj hf)).2).1
      have g2 := (Prod.mk.inj (Prod.mk.inj (Prod.mk.inj (Option.some.inj hf)).2).2).1
      have g3 := (Prod.mk.inj (Prod.mk.inj (Prod.mk.inj (Prod.mk.inj (Option.some.inj hf)).2).2).2).1
      have g4 := (Prod.mk.inj (Prod.mk.inj (Prod.mk.inj (Prod.mk.inj (Prod.mk.inj (Option.some.inj hf)).2).2).2).2).1
      have g5 := (Prod.mk.inj (Prod.mk.inj (Prod.mk.inj (Prod.mk.inj (Prod.mk.inj (Prod.mk.inj (Option.some.inj hf)).2).2).2).2).2).1
      have g6 := (Prod.mk.inj (Prod.mk.inj (Prod.mk.inj (Prod.mk.inj (Prod.mk.inj (Prod.mk.inj (Prod.mk.inj (Option.some.inj hf)).2).2).2).2).2).2).1
      have g7 := (Prod.mk.inj (Prod.mk.inj (Prod.mk.inj (Prod.mk.inj (Prod.mk.inj (Prod.mk.inj (Prod.mk.inj (Prod.mk.inj (Option.some.inj hf)).2).2).2).2).2).2).2).1
      have g8 := (Prod.mk.inj (Prod.mk.inj (Prod.mk.inj (Prod.mk.inj (Prod.mk.inj (Prod.mk.inj (Prod.mk.inj (Prod.mk.inj (Prod.mk.inj (Option.some.inj hf)).2).2).2).2).2).2).2).2).1
      have g9 := (Prod.mk.inj (Prod.mk.inj (Prod.mk.inj (Prod.mk.inj (Prod.mk.inj (Prod.mk.inj (Prod.mk.inj (Prod.mk.inj (Prod.mk.inj (Prod.mk.inj (Option.some.inj hf)).2).2).2).2).2).2).2).2).2).1
      have g10 := (Prod.mk.inj (Prod.mk.inj (Prod.mk.inj (Prod.mk.inj (Prod.mk.inj (Prod.mk.inj (Prod.mk.inj (Prod.mk.inj (Prod.mk.inj (Prod.mk.inj (Option.some.inj hf)).2).2).2).2).2).2).2).2).2).2
      clear hf
      subst g0
      subst g1
      subst g2
      subst g3
      subst g4
      subst g5
      subst g6
      subst g7
      subst g8
      subst g9
      subst g10
      exact h_throw (pc := 18) C X xin_ISE xft_ISE xft_up (List.mem_of_getElem? (i := 1) rfl) (List.mem_of_getElem? (i := 2) rfl) (List.mem_of_getElem? (i := 0) rfl) (fun w h => List.mem_cons_of_mem _ (List.mem_append_left _ (List.mem_append_right _ h))) xng_ISE xgd_ISE dX4_add_18 dX4_add_21 dX4_add_22 dX4_add_24 dX4_add_27 ⟨Nat.le_of_ble_eq_true rfl, Nat.le_of_ble_eq_true rfl, Nat.le_of_ble_eq_true rfl, Nat.le_of_ble_eq_true rfl⟩ ⟨Nat.le_of_ble_eq_true rfl, Nat.le_of_ble_eq_true rfl⟩
  · replace hf := jif_f hk hf
    have g0 := (Prod.mk.inj (Option.some.inj hf)).1
    have g1 := (Prod.mk.inj (Prod.mk.inj (Option.some.inj hf)).2).1
    have g2 := (Prod.mk.inj (Prod.mk.inj (Prod.mk.inj (Option.some.inj hf)).2).2).1
    have g3 := (Prod.mk.inj (Prod.mk.inj (Prod.mk.inj (Prod.mk.inj (Option.some.inj hf)).2).2).2).1
    have g4 := (Prod.mk.inj (Prod.mk.inj (Prod.mk.inj (Prod.mk.inj (Prod.mk.inj (Option.some.inj hf)).2).2).2).2).1
    have g5 := (Prod.mk.inj (Prod.mk.inj (Prod.mk.inj (Prod.mk.inj (Prod.mk.inj (Prod.mk.inj (Option.some.inj hf)).2).2).2).2).2).1
    have g6 := (Prod.mk.inj (Prod.mk.inj (Prod.mk.inj (Prod.mk.inj (Prod.mk.inj (Prod.mk.inj (Prod.mk.inj (Option.some.inj hf)).2).2).2).2).2).2).1
    have g7 := (Prod.mk.inj (Prod.mk.inj (Prod.mk.inj (Prod.mk.inj (Prod.mk.inj (Prod.mk.inj (Prod.mk.inj (Prod.mk.inj (Option.some.inj hf)).2).2).2).2).2).2).2).1
    have g8 := (Prod.mk.inj (Prod.mk.inj (Prod.mk.inj (Prod.mk.inj (Prod.mk.inj (Prod.mk.inj (Prod.mk.inj (Prod.mk.inj (Prod.mk.inj (Option.some.inj hf)).2).2).2).2).2).2).2).2).1
    have g9 := (Prod.mk.inj (Prod.mk.inj (Prod.mk.inj (Prod.mk.inj (Prod.mk.inj (Prod.mk.inj (Prod.mk.inj (Prod.mk.inj (Prod.mk.inj (Prod.mk.inj (Option.some.inj hf)).2).2).2).2).2).2).2).2).2).1
    have g10 := (Prod.mk.inj (Prod.mk.inj (Prod.mk.inj (Prod.mk.inj (Prod.mk.inj (Prod.mk.inj (Prod.mk.inj (Prod.mk.inj (Prod.mk.inj (Prod.mk.inj (Option.some.inj hf)).2).2).2).2).2).2).2).2).2).2
    clear hf
    subst g0
    subst g1
    subst g2
    subst g3
    subst g4
    subst g5
    subst g6
    subst g7
    subst g8
    subst g9
    subst g10
    exact h_xS (pc := 5) (As := [.int a1, .int a2, .int a3, .int a4]) (rest := []) C X.1 (x_X4_checkSides hX0 D cT ad n a1 a2 a3 a4 v1 hk hc) (va_cwS 4 C.1.2.2.2.2 gX4_add_X4_checkSides rfl rfl rfl ps_X4_checkSides ⟨(Nat.le_of_ble_eq_true rfl), (Nat.le_of_ble_eq_true rfl)⟩) dX4_add_5 rfl rfl (Nat.le_of_ble_eq_true rfl) ⟨(Nat.le_of_ble_eq_true rfl), (Nat.le_of_ble_eq_true rfl)⟩ (h_outK C X ⟨(Nat.le_of_ble_eq_true rfl), (Nat.le_of_ble_eq_true rfl)⟩)
abbrev rmX4_checkBox : Room := { frames := 6, cells := 0, slots := 0, locals := 90 }
theorem uX4_checkBox_X4 : ∀ w ∈ u_ws RX4 TX4 3, w ∈ wsX4_checkBox := fun w h => List.mem_cons_of_mem _ (List.mem_append_left _ (List.mem_append_left _ (List.mem_append_right _ h)))
set_option maxRecDepth 100000 in
set_option maxHeartbeats 4000000 in
theorem c_X4_checkBox (l : Launch) (D : va_G) (cT : Nat → ClassId) (ad : Nat → Nat) (n : Nat) (areas : Nat → Int32) (keys : Nat → Int32) (there : Nat → Int32) (order : Nat → Int32) (added : Int32) (size : Int32) (loads : Nat → Int32) (widths : Nat → Int32) (height : Int32) (ranks : Nat → Int32) (a1 : Int32)  (k : Nat) (hk0 : k = 0) (hf : f_X4_checkBox n there a1 = some k) : cM l yX4_checkBox wsX4_checkBox rmX4_checkBox D (ty4 cT) [.ref (ad 0), .int a1] (wX cT ad areas keys there order added size loads widths height ranks) none (wX cT ad areas keys there order added size loads widths height ranks) := by
  refine cM_of (cc := cX4_checkBox) (maxL := 2) (ret := none) (own := RX4) (lv := [(0, .ref (ad 0)), (1, .int a1)]) (by decide) rfl (Nat.le_of_ble_eq_true rfl) rfl rfl ?_
  intro p e s m args below meth c A C hr
  unfold f_X4_checkBox at hf
  refine h_aload_n (pc := 0) C dX4_checkBox_0 rfl 0 rfl ?_
  refine h_get (pc := 1) (ci := 2) (C0 := RX4) (T := TX4) (N := 3) C uX4_checkBox_X4 rfl 0 rfl 0 (by decide) (List.mem_of_getElem? (i := 3) rfl) rfl rfl dX4_checkBox_1 ?_
  refine h_iload_n (pc := 4) C dX4_checkBox_4 rfl 1 rfl ?_
  obtain ⟨v1, hc, hf⟩ := jbd_s hf
  refine h_callV (pc := 5) (q0 := 1) (As := [.int a1]) (rest := []) (ws' := (wX cT ad areas keys there order added size loads widths height ranks)) (st2 := .int v1 :: []) C (c_X2_has l D cT ad n areas keys there order added size a1 v1 hc) (cwV 1 C.1.2.2.2.2 gX4_checkBox_X2_has rfl rfl rfl pv_X2_has ⟨(Nat.le_of_ble_eq_true rfl), (Nat.le_of_ble_eq_true rfl)⟩) dX4_checkBox_5 rfl rfl rfl rfl rfl (Nat.le_of_ble_eq_true rfl) ⟨rfl, rfl⟩ ⟨(Nat.le_of_ble_eq_true rfl), (Nat.le_of_ble_eq_true rfl)⟩ [1, 2, 3, 4, 5] [0, 6, 7, 8, 9] [0, 5, 6, 7, 8, 9, 1, 2, 3, 4] rfl rfl rfl rfl (by decide) rfl rfl rfl ?_
  clear hc
  refine h_if_ne (pc := 8) (tgt := 21) C dX4_checkBox_8 (by decide) (fun q => ?_) (fun q => ?_)
  · replace hf := jif_f q hf
    clear q
    have g0 := (Option.some.inj hf)
    clear hf
    subst g0
    exact h_vret C hr dX4_checkBox_21
  · replace hf := jif_t q hf
    clear q
    exact absurd ((Option.some.inj hf).trans hk0) (by decide)
theorem pv_X4_checkBox : yX4_checkBox.cls = RX4 ∧ yX4_checkBox.cls ≠ "java/lang/invoke/MethodHandle" ∧ yX4_checkBox.cls ≠ "java/lang/invoke/VarHandle" ∧ (parseMethodDescriptor yX4_checkBox.desc).map (fun d => d.parameters.length) = some 1 := by decide +kernel
abbrev rxX4_checkBox : Room := { frames := 6, cells := 1, slots := 6, locals := 90 }
set_option maxRecDepth 100000 in
set_option maxHeartbeats 4000000 in
theorem x_X4_checkBox {l : Launch} (hX0 : l.stackTraces = false) (D : va_G) (cT : Nat → ClassId) (ad : Nat → Nat) (n : Nat) (areas : Nat → Int32) (keys : Nat → Int32) (there : Nat → Int32) (order : Nat → Int32) (added : Int32) (size : Int32) (loads : Nat → Int32) (widths : Nat → Int32) (height : Int32) (ranks : Nat → Int32) (a1 : Int32)  (k : Nat) (hk0 : ¬ k = 0) (hf : f_X4_checkBox n there a1 = some k) : xM l yX4_checkBox wsX4_checkBox rxX4_checkBox D (ty4 cT) [.ref (ad 0), .int a1] (wX cT ad areas keys there order added size loads widths height ranks) (xE k) (wX cT ad areas keys there order added size loads widths height ranks) := by
  refine xM_of (cc := cX4_checkBox) (maxL := 2) (ret := none) (own := RX4) (lv := [(0, .ref (ad 0)), (1, .int a1)]) hX0 (by decide) rfl (Nat.le_of_ble_eq_true rfl) rfl rfl ?_
  intro p e s m args below meth c A C X
  unfold f_X4_checkBox at hf
  refine h_aload_n (pc := 0) C dX4_checkBox_0 rfl 0 rfl ?_
  refine h_get (pc := 1) (ci := 2) (C0 := RX4) (T := TX4) (N := 3) C uX4_checkBox_X4 rfl 0 rfl 0 (by decide) (List.mem_of_getElem? (i := 3) rfl) rfl rfl dX4_checkBox_1 ?_
  refine h_iload_n (pc := 4) C dX4_checkBox_4 rfl 1 rfl ?_
  obtain ⟨v1, hc, hf⟩ := jbd_s hf
  refine h_callV (pc := 5) (q0 := 1) (As := [.int a1]) (rest := []) (ws' := (wX cT ad areas keys there order added size loads widths height ranks)) (st2 := .int v1 :: []) C (c_X2_has l D cT ad n areas keys there order added size a1 v1 hc) (cwV 1 C.1.2.2.2.2 gX4_checkBox_X2_has rfl rfl rfl pv_X2_has ⟨(Nat.le_of_ble_eq_true rfl), (Nat.le_of_ble_eq_true rfl)⟩) dX4_checkBox_5 rfl rfl rfl rfl rfl (Nat.le_of_ble_eq_true rfl) ⟨rfl, rfl⟩ ⟨(Nat.le_of_ble_eq_true rfl), (Nat.le_of_ble_eq_true rfl)⟩ [1, 2, 3, 4, 5] [0, 6, 7, 8, 9] [0, 5, 6, 7, 8, 9, 1, 2, 3, 4] rfl rfl rfl rfl (by decide) rfl rfl rfl ?_
  clear hc
  refine h_if_ne (pc := 8) (tgt := 21) C dX4_checkBox_8 (by decide) (fun q => ?_) (fun q => ?_)
  · replace hf := jif_f q hf
    clear q
    exact absurd (Option.some.inj hf).symm hk0
  · replace hf := jif_t q hf
    clear q
    have g0 := (Option.some.inj hf)
    clear hf
    subst g0
    exact h_throw (pc := 11) C X xin_IOE xft_IOE xft_up (List.mem_of_getElem? (i := 1) rfl) (List.mem_of_getElem? (i := 2) rfl) (List.mem_of_getElem? (i := 7) rfl) (fun w h => List.mem_cons_of_mem _ (List.mem_append_right _ h)) xng_IOE xgd_IOE dX4_checkBox_11 dX4_checkBox_14 dX4_checkBox_15 dX4_checkBox_17 dX4_checkBox_20 ⟨Nat.le_of_ble_eq_true rfl, Nat.le_of_ble_eq_true rfl, Nat.le_of_ble_eq_true rfl, Nat.le_of_ble_eq_true rfl⟩ ⟨Nat.le_of_ble_eq_true rfl, Nat.le_of_ble_eq_true rfl⟩
abbrev rmX4_remove : Room := { frames := 7, cells := 0, slots := 0, locals := 145 }
theorem uX4_remove_X4 : ∀ w ∈ u_ws RX4 TX4 3, w ∈ wsX4_remove := fun w h => List.mem_cons_of_mem _ (List.mem_append_left _ (List.mem_append_left _ (List.mem_append_left _ (List.mem_append_right _ h))))
set_option maxRecDepth 100000 in
set_option maxHeartbeats 4000000 in
theorem c_X4_remove (l : Launch) (D : va_G) (cT : Nat → ClassId) (ad : Nat → Nat) (n : Nat) (areas : Nat → Int32) (keys : Nat → Int32) (there : Nat → Int32) (order : Nat → Int32) (added : Int32) (size : Int32) (loads : Nat → Int32) (widths : Nat → Int32) (height : Int32) (ranks : Nat → Int32) (a1 : Int32) (r : Int32) (there' : Nat → Int32) (order' : Nat → Int32) (size' : Int32) (loads' : Nat → Int32) (widths' : Nat → Int32) (height' : Int32) (k : Nat) (hk0 : k = 0) (hf : f_X4_remove n there order size loads widths height a1 = some (k, r, there', order', size', loads', widths', height')) : cM l yX4_remove wsX4_remove rmX4_remove D (ty4 cT) [.ref (ad 0), .int a1] (wX cT ad areas keys there order added size loads widths height ranks) (some (.int r)) (wX cT ad areas keys there' order' added size' loads' widths' height' ranks) := by
  refine cM_of (cc := cX4_remove) (maxL := 2) (ret := (some .int)) (own := RX4) (lv := [(0, .ref (ad 0)), (1, .int a1)]) (by decide) rfl (Nat.le_of_ble_eq_true rfl) rfl rfl ?_
  intro p e s m args below meth c A C hr
  unfold f_X4_remove at hf
  refine h_aload_n (pc := 0) C dX4_remove_0 rfl 0 rfl ?_
  refine h_iload_n (pc := 1) C dX4_remove_1 rfl 1 rfl ?_
  obtain ⟨v1, hc, hf⟩ := jbd_s hf
  by_cases hk : v1 = 0
  · replace hf := jif_t hk hf
    refine h_callV (pc := 2) (q0 := 0) (As := [.int a1]) (rest := []) (ws' := (wX cT ad areas keys there order added size loads widths height ranks)) (st2 := []) C (c_X4_checkBox l D cT ad n areas keys there order added size loads widths height ranks a1 v1 hk hc) (cwV 1 C.1.2.2.2.2 gX4_remove_X4_checkBox rfl rfl rfl pv_X4_checkBox ⟨(Nat.le_of_ble_eq_true rfl), (Nat.le_of_ble_eq_true rfl)⟩) dX4_remove_2 rfl rfl rfl rfl rfl (Nat.le_of_ble_eq_true rfl) ⟨rfl, rfl⟩ ⟨(Nat.le_of_ble_eq_true rfl), (Nat.le_of_ble_eq_true rfl)⟩ [0, 1, 2, 3, 4, 5, 6, 7, 8, 9] [] [0, 1, 2, 3, 4, 5, 6, 7, 8, 9] rfl rfl rfl rfl (by decide) rfl rfl rfl ?_
    clear hc
    refine h_aload_n (pc := 5) C dX4_remove_5 rfl 0 rfl ?_
    refine h_get (pc := 6) (ci := 2) (C0 := RX4) (T := TX4) (N := 3) C uX4_remove_X4 rfl 0 rfl 1 (by decide) (List.mem_of_getElem? (i := 1) rfl) rfl rfl dX4_remove_6 ?_
    refine h_aload_n (pc := 9) C dX4_remove_9 rfl 0 rfl ?_
    refine h_get (pc := 10) (ci := 2) (C0 := RX4) (T := TX4) (N := 3) C uX4_remove_X4 rfl 0 rfl 0 (by decide) (List.mem_of_getElem? (i := 2) rfl) rfl rfl dX4_remove_10 ?_
    refine h_iload_n (pc := 13) C dX4_remove_13 rfl 1 rfl ?_
    obtain ⟨v2, hc, hf⟩ := jbd_s hf
    refine h_callV (pc := 14) (q0 := 1) (As := [.int a1]) (rest := .ref (ad 6) :: []) (ws' := (wX cT ad areas keys there order added size loads widths height ranks)) (st2 := .int v2 :: .ref (ad 6) :: []) C (c_X2_placeOf l D cT ad n areas keys there order added size a1 v2 hc) (cwV 1 C.1.2.2.2.2 gX4_remove_X2_placeOf rfl rfl rfl pv_X2_placeOf ⟨(Nat.le_of_ble_eq_true rfl), (Nat.le_of_ble_eq_true rfl)⟩) dX4_remove_14 rfl rfl rfl rfl rfl (Nat.le_of_ble_eq_true rfl) ⟨rfl, rfl⟩ ⟨(Nat.le_of_ble_eq_true rfl), (Nat.le_of_ble_eq_true rfl)⟩ [1, 2, 3, 4, 5] [0, 6, 7, 8, 9] [0, 5, 6, 7, 8, 9, 1, 2, 3, 4] rfl rfl rfl rfl (by decide) rfl rfl rfl ?_
    clear hc
    obtain ⟨v3, hc, hf⟩ := jbd_s hf
    refine h_callV (pc := 17) (q0 := 6) (As := [.int v2]) (rest := []) (ws' := (wX cT ad areas keys there order added size v3.1 v3.2.1 v3.2.2 ranks)) (st2 := []) C (c_X3_shrink l D cT ad n loads widths height v2 v3.1 v3.2.1 v3.2.2 hc) (cwV 1 C.1.2.2.2.2 gX4_remove_X3_shrink rfl rfl rfl pv_X3_shrink ⟨(Nat.le_of_ble_eq_true rfl), (Nat.le_of_ble_eq_true rfl)⟩) dX4_remove_17 rfl rfl rfl rfl rfl (Nat.le_of_ble_eq_true rfl) ⟨rfl, rfl⟩ ⟨(Nat.le_of_ble_eq_true rfl), (Nat.le_of_ble_eq_true rfl)⟩ [6, 7, 8] [0, 1, 2, 3, 4, 5, 9] [0, 1, 2, 3, 4, 5, 7, 8, 9, 6] rfl rfl rfl rfl (by decide) rfl rfl rfl ?_
    clear hc
    refine h_aload_n (pc := 20) C dX4_remove_20 rfl 0 rfl ?_
    refine h_get (pc := 21) (ci := 2) (C0 := RX4) (T := TX4) (N := 3) C uX4_remove_X4 rfl 0 rfl 0 (by decide) (List.mem_of_getElem? (i := 2) rfl) rfl rfl dX4_remove_21 ?_
    refine h_iload_n (pc := 24) C dX4_remove_24 rfl 1 rfl ?_
    obtain ⟨v4, hc, hf⟩ := jbd_s hf
    refine h_callV (pc := 25) (q0 := 1) (As := [.int a1]) (rest := []) (ws' := (wX cT ad areas keys v4.1 v4.2.1 added v4.2.2 v3.1 v3.2.1 v3.2.2 ranks)) (st2 := []) C (c_X2_takeOut l D cT ad n areas keys there order added size a1 v4.1 v4.2.1 v4.2.2 hc) (cwV 1 C.1.2.2.2.2 gX4_remove_X2_takeOut rfl rfl rfl pv_X2_takeOut ⟨(Nat.le_of_ble_eq_true rfl), (Nat.le_of_ble_eq_true rfl)⟩) dX4_remove_25 rfl rfl rfl rfl rfl (Nat.le_of_ble_eq_true rfl) ⟨rfl, rfl⟩ ⟨(Nat.le_of_ble_eq_true rfl), (Nat.le_of_ble_eq_true rfl)⟩ [1, 2, 3, 4, 5] [0, 6, 7, 8, 9] [0, 5, 6, 7, 8, 9, 1, 2, 3, 4] rfl rfl rfl rfl (by decide) rfl rfl rfl ?_
    clear hc
    refine h_aload_n (pc := 28) C dX4_remove_28 rfl 0 rfl ?_
    refine h_get (pc := 29) (ci := 2) (C0 := RX4) (T := TX4) (N := 3) C uX4_remove_X4 rfl 0 rfl 0 (by decide) (List.mem_of_getElem? (i := 2) rfl) rfl rfl dX4_remove_29 ?_
    obtain ⟨v5, hc, hf⟩ := jbd_s hf
    refine h_callV (pc := 32) (q0 := 1) (As := []) (rest := []) (ws' := (wX cT ad areas keys v4.1 v4.2.1 added v4.2.2 v3.1 v3.2.1 v3.2.2 ranks)) (st2 := .int v5 :: []) C (c_X2_size l D cT ad n areas keys v4.1 v4.2.1 added v4.2.2 v5 hc) (cwV 0 C.1.2.2.2.2 gX4_remove_X2_size rfl rfl rfl pv_X2_size ⟨(Nat.le_of_ble_eq_true rfl), (Nat.le_of_ble_eq_true rfl)⟩) dX4_remove_32 rfl rfl rfl rfl rfl (Nat.le_of_ble_eq_true rfl) ⟨rfl, rfl⟩ ⟨(Nat.le_of_ble_eq_true rfl), (Nat.le_of_ble_eq_true rfl)⟩ [1, 2, 3, 4, 5] [0, 6, 7, 8, 9] [0, 5, 6, 7, 8, 9, 1, 2, 3, 4] rfl rfl rfl rfl (by decide) rfl rfl rfl ?_
    clear hc
    have g0 := (Prod.mk.inj (Option.some.inj hf)).1
    have g1 := (Prod.mk.inj (Prod.mk.inj (Option.some.inj hf)).2).1
    have g2 := (Prod.mk.inj (Prod.mk.inj (Prod.mk.inj (Option.some.inj hf)).2).2).1
    have g3 := (Prod.mk.inj (Prod.mk.inj (Prod.mk.inj (Prod.mk.inj (Option.some.inj hf)).2).2).2).1
    have g4 := (Prod.mk.inj (Prod.mk.inj (Prod.mk.inj (Prod.mk.inj (Prod.mk.inj (Option.some.inj hf)).2).2).2).2).1
    have g5 := (Prod.mk.inj (Prod.mk.inj (Prod.mk.inj (Prod.mk.inj (Prod.mk.inj (Prod.mk.inj (Option.some.inj hf)).2).2).2).2).2).1
    have g6 := (Prod.mk.inj (Prod.mk.inj (Prod.mk.inj (Prod.mk.inj (Prod.mk.inj (Prod.mk.inj (Prod.mk.inj (Option.some.inj hf)).2).2).2).2).2).2).1
    have g7 := (Prod.mk.inj (Prod.mk.inj (Prod.mk.inj (Prod.mk.inj (Prod.mk.inj (Prod.mk.inj (Prod.mk.inj (Option.some.inj hf)).2).2).2).2).2).2).2
    clear hf
    subst g0
    subst g1
    subst g2
    subst g3
    subst g4
    subst g5
    subst g6
    subst g7
    exact h_iret C hr dX4_remove_35
  · replace hf := jif_f hk hf
    exact absurd ((Prod.mk.inj (Option.some.inj hf)).1.trans hk0) hk
theorem pv_X4_remove : yX4_remove.cls = RX4 ∧ yX4_remove.cls ≠ "java/lang/invoke/MethodHandle" ∧ yX4_remove.cls ≠ "java/lang/invoke/VarHandle" ∧ (parseMethodDescriptor yX4_remove.desc).map (fun d => d.parameters.length) = some 1 := by decide +kernel
abbrev rxX4_remove : Room := { frames := 7, cells := 1, slots := 6, locals := 145 }
set_option maxRecDepth 100000 in
set_option maxHeartbeats 4000000 in
theorem x_X4_remove {l : Launch} (hX0 : l.stackTraces = false) (D : va_G) (cT : Nat → ClassId) (ad : Nat → Nat) (n : Nat) (areas : Nat → Int32) (keys : Nat → Int32) (there : Nat → Int32) (order : Nat → Int32) (added : Int32) (size : Int32) (loads : Nat → Int32) (widths : Nat → Int32) (height : Int32) (ranks : Nat → Int32) (a1 : Int32) (r : Int32) (there' : Nat → Int32) (order' : Nat → Int32) (size' : Int32) (loads' : Nat → Int32) (widths' : Nat → Int32) (height' : Int32) (k : Nat) (hk0 : ¬ k = 0) (hf : f_X4_remove n there order size loads widths height a1 = some (k, r, there', order', size', loads', widths', height')) : xM l yX4_remove wsX4_remove rxX4_remove D (ty4 cT) [.ref (ad 0), .int a1] (wX cT ad areas keys there order added size loads widths height ranks) (xE k) (wX cT ad areas keys there' order' added size' loads' widths' height' ranks) := by
  refine xM_of (cc := cX4_remove) (maxL := 2) (ret := (some .int)) (own := RX4) (lv := [(0, .ref (ad 0)), (1, .int a1)]) hX0 (by decide) rfl (Nat.le_of_ble_eq_true rfl) rfl rfl ?_
  intro p e s m args below meth c A C X
  unfold f_X4_remove at hf
  refine h_aload_n (pc := 0) C dX4_remove_0 rfl 0 rfl ?_
  refine h_iload_n (pc := 1) C dX4_remove_1 rfl 1 rfl ?_
  obtain ⟨v1, hc, hf⟩ := jbd_s hf
  by_cases hk : v1 = 0
  · replace hf := jif_t hk hf
    refine h_callV (pc := 2) (q0 := 0) (As := [.int a1]) (rest := []) (ws' := (wX cT ad areas keys there order added size loads widths height ranks)) (st2 := []) C (c_X4_checkBox l D cT ad n areas keys there order added size loads widths height ranks a1 v1 hk hc) (cwV 1 C.1.2.2.2.2 gX4_remove_X4_checkBox rfl rfl rfl pv_X4_checkBox ⟨(Nat.le_of_ble_eq_true rfl), (Nat.le_of_ble_eq_true rfl)⟩) dX4_remove_2 rfl rfl rfl rfl rfl (Nat.le_of_ble_eq_true rfl) ⟨rfl, rfl⟩ ⟨(Nat.le_of_ble_eq_true rfl), (Nat.le_of_ble_eq_true rfl)⟩ [0, 1, 2, 3, 4, 5, 6, 7, 8, 9] [] [0, 1, 2, 3, 4, 5, 6, 7, 8, 9] rfl rfl rfl rfl (by decide) rfl rfl rfl ?_
    clear hc
    refine h_aload_n (pc := 5) C dX4_remove_5 rfl 0 rfl ?_
    refine h_get (pc := 6) (ci := 2) (C0 := RX4) (T := TX4) (N := 3) C uX4_remove_X4 rfl 0 rfl 1 (by decide) (List.mem_of_getElem? (i := 1) rfl) rfl rfl dX4_remove_6 ?_
    refine h_aload_n (pc := 9) C dX4_remove_9 rfl 0 rfl ?_
    refine h_get (pc := 10) (ci := 2) (C0 := RX4) (T := TX4) (N := 3) C uX4_remove_X4 rfl 0 rfl 0 (by decide) (List.mem_of_getElem? (i := 2) rfl) rfl rfl dX4_remove_10 ?_
    refine h_iload_n (pc := 13) C dX4_remove_13 rfl 1 rfl ?_
    obtain ⟨v2, hc, hf⟩ := jbd_s hf
    refine h_callV (pc := 14) (q0 := 1) (As := [.int a1]) (rest := .ref (ad 6) :: []) (ws' := (wX cT ad areas keys there order added size loads widths height ranks)) (st2 := .int v2 :: .ref (ad 6) :: []) C (c_X2_placeOf l D cT ad n areas keys there order added size a1 v2 hc) (cwV 1 C.1.2.2.2.2 gX4_remove_X2_placeOf rfl rfl rfl pv_X2_placeOf ⟨(Nat.le_of_ble_eq_true rfl), (Nat.le_of_ble_eq_true rfl)⟩) dX4_remove_14 rfl rfl rfl rfl rfl (Nat.le_of_ble_eq_true rfl) ⟨rfl, rfl⟩ ⟨(Nat.le_of_ble_eq_true rfl), (Nat.le_of_ble_eq_true rfl)⟩ [1, 2, 3, 4, 5] [0, 6, 7, 8, 9] [0, 5, 6, 7, 8, 9, 1, 2, 3, 4] rfl rfl rfl rfl (by decide) rfl rfl rfl ?_
    clear hc
    obtain ⟨v3, hc, hf⟩ := jbd_s hf
    refine h_callV (pc := 17) (q0 := 6) (As := [.int v2]) (rest := []) (ws' := (wX cT ad areas keys there order added size v3.1 v3.2.1 v3.2.2 ranks)) (st2 := []) C (c_X3_shrink l D cT ad n loads widths height v2 v3.1 v3.2.1 v3.2.2 hc) (cwV 1 C.1.2.2.2.2 gX4_remove_X3_shrink rfl rfl rfl pv_X3_shrink ⟨(Nat.le_of_ble_eq_true rfl), (Nat.le_of_ble_eq_true rfl)⟩) dX4_remove_17 rfl rfl rfl rfl rfl (Nat.le_of_ble_eq_true rfl) ⟨rfl, rfl⟩ ⟨(Nat.le_of_ble_eq_true rfl), (Nat.le_of_ble_eq_true rfl)⟩ [6, 7, 8] [0, 1, 2, 3, 4, 5, 9] [0, 1, 2, 3, 4, 5, 7, 8, 9, 6] rfl rfl rfl rfl (by decide) rfl rfl rfl ?_
    clear hc
    refine h_aload_n (pc := 20) C dX4_remove_20 rfl 0 rfl ?_
    refine h_get (pc := 21) (ci := 2) (C0 := RX4) (T := TX4) (N := 3) C uX4_remove_X4 rfl 0 rfl 0 (by decide) (List.mem_of_getElem? (i := 2) rfl) rfl rfl dX4_remove_21 ?_
    refine h_iload_n (pc := 24) C dX4_remove_24 rfl 1 rfl ?_
    obtain ⟨v4, hc, hf⟩ := jbd_s hf
    refine h_callV (pc := 25) (q0 := 1) (As := [.int a1]) (rest := []) (ws' := (wX cT ad areas keys v4.1 v4.2.1 added v4.2.2 v3.1 v3.2.1 v3.2.2 ranks)) (st2 := []) C (c_X2_takeOut l D cT ad n areas keys there order added size a1 v4.1 v4.2.1 v4.2.2 hc) (cwV 1 C.1.2.2.2.2 gX4_remove_X2_takeOut rfl rfl rfl pv_X2_takeOut ⟨(Nat.le_of_ble_eq_true rfl), (Nat.le_of_ble_eq_true rfl)⟩) dX4_remove_25 rfl rfl rfl rfl rfl (Nat.le_of_ble_eq_true rfl) ⟨rfl, rfl⟩ ⟨(Nat.le_of_ble_eq_true rfl), (Nat.le_of_ble_eq_true rfl)⟩ [1, 2, 3, 4, 5] [0, 6, 7, 8, 9] [0, 5, 6, 7, 8, 9, 1, 2, 3, 4] rfl rfl rfl rfl (by decide) rfl rfl rfl ?_
    clear hc
    refine h_aload_n (pc := 28) C dX4_remove_28 rfl 0 rfl ?_
    refine h_get (pc := 29) (ci := 2) (C0 := RX4) (T := TX4) (N := 3) C uX4_remove_X4 rfl 0 rfl 0 (by decide) (List.mem_of_getElem? (i := 2) rfl) rfl rfl dX4_remove_29 ?_
    obtain ⟨v5, hc, hf⟩ := jbd_s hf
    refine h_callV (pc := 32) (q0 := 1) (As := []) (rest := []) (ws' := (wX cT ad areas keys v4.1 v4.2.1 added v4.2.2 v3.1 v3.2.1 v3.2.2 ranks)) (st2 := .int v5 :: []) C (c_X2_size l D cT ad n areas keys v4.1 v4.2.1 added v4.2.2 v5 hc) (cwV 0 C.1.2.2.2.2 gX4_remove_X2_size rfl rfl rfl pv_X2_size ⟨(Nat.le_of_ble_eq_true rfl), (Nat.le_of_ble_eq_true rfl)⟩) dX4_remove_32 rfl rfl rfl rfl rfl (Nat.le_of_ble_eq_true rfl) ⟨rfl, rfl⟩ ⟨(Nat.le_of_ble_eq_true rfl), (Nat.le_of_ble_eq_true rfl)⟩ [1, 2, 3, 4, 5] [0, 6, 7, 8, 9] [0, 5, 6, 7, 8, 9, 1, 2, 3, 4] rfl rfl rfl rfl (by decide) rfl rfl rfl ?_
    clear hc
    exact absurd (Prod.mk.inj (Option.some.inj hf)).1.symm hk0
  · replace hf := jif_f hk hf
    have g0 := (Prod.mk.inj (Option.some.inj hf)).1
    have g1 := (Prod.mk.inj (Prod.mk.inj (Option.some.inj hf)).2).1
    have g2 := (Prod.mk.inj (Prod.mk.inj (Prod.mk.inj (Option.some.inj hf)).2).2).1
    have g3 := (Prod.mk.inj (Prod.mk.inj (Prod.mk.inj (Prod.mk.inj (Option.some.inj hf)).2).2).2).1
    have g4 := (Prod.mk.inj (Prod.mk.inj (Prod.mk.inj (Prod.mk.inj (Prod.mk.inj (Option.some.inj hf)).2).2).2).2).1
    have g5 := (Prod.mk.inj (Prod.mk.inj (Prod.mk.inj (Prod.mk.inj (Prod.mk.inj (Prod.mk.inj (Option.some.inj hf)).2).2).2).2).2).1
    have g6 := (Prod.mk.inj (Prod.mk.inj (Prod.mk.inj (Prod.mk.inj (Prod.mk.inj (Prod.mk.inj (Prod.mk.inj (Option.some.inj hf)).2).2).2).2).2).2).1
    have g7 := (Prod.mk.inj (Prod.mk.inj (Prod.mk.inj (Prod.mk.inj (Prod.mk.inj (Prod.mk.inj (Prod.mk.inj (Option.some.inj hf)).2).2).2).2).2).2).2
    clear hf
    subst g0
    subst g1
    subst g2
    subst g3
    subst g4
    subst g5
    subst g6
    subst g7
    exact h_xV (pc := 2) (q0 := 0) (As := [.int a1]) (rest := []) (ws' := (wX cT ad areas keys there order added size loads widths height ranks)) C X.1 (x_X4_checkBox hX0 D cT ad n areas keys there order added size loads widths height ranks a1 v1 hk hc) (cwV 1 C.1.2.2.2.2 gX4_remove_X4_checkBox rfl rfl rfl pv_X4_checkBox ⟨(Nat.le_of_ble_eq_true rfl), (Nat.le_of_ble_eq_true rfl)⟩) dX4_remove_2 rfl rfl rfl rfl rfl (Nat.le_of_ble_eq_true rfl) ⟨(Nat.le_of_ble_eq_true rfl), (Nat.le_of_ble_eq_true rfl)⟩ [0, 1, 2, 3, 4, 5, 6, 7, 8, 9] [] [0, 1, 2, 3, 4, 5, 6, 7, 8, 9] rfl rfl rfl rfl (by decide) rfl rfl (h_outK C X ⟨(Nat.le_of_ble_eq_true rfl), (Nat.le_of_ble_eq_true rfl)⟩)
abbrev rmX4_pack : Room := { frames := 3, cells := 0, slots := 0, locals := 71 }
theorem uX4_pack_X4 : ∀ w ∈ u_ws RX4 TX4 3, w ∈ wsX4_pack := fun w h => List.mem_cons_of_mem _ (List.mem_append_left _ (List.mem_append_left _ (List.mem_append_right _ h)))
set_option maxRecDepth 100000 in
set_option maxHeartbeats 4000000 in
theorem c_X4_pack (l : Launch) (D : va_G) (cT : Nat → ClassId) (ad : Nat → Nat) (n : Nat) (areas : Nat → Int32) (keys : Nat → Int32) (there : Nat → Int32) (order : Nat → Int32) (added : Int32) (size : Int32) (loads : Nat → Int32) (widths : Nat → Int32) (height : Int32) (ranks : Nat → Int32)  (r : Int32) (loads' : Nat → Int32) (widths' : Nat → Int32) (height' : Int32) (hf : f_X4_pack n size loads widths height = some (r, loads', widths', height')) : cM l yX4_pack wsX4_pack rmX4_pack D (ty4 cT) [.ref (ad 0)] (wX cT ad areas keys there order added size loads widths height ranks) (some (.int r)) (wX cT ad areas keys there order added size loads' widths' height' ranks) := by
  refine cM_of (cc := cX4_pack) (maxL := 1) (ret := (some .int)) (own := RX4) (lv := [(0, .ref (ad 0))]) (by decide) rfl (Nat.le_of_ble_eq_true rfl) rfl rfl ?_
  intro p e s m args below meth c A C hr
  unfold f_X4_pack at hf
  refine h_aload_n (pc := 0) C dX4_pack_0 rfl 0 rfl ?_
  refine h_get (pc := 1) (ci := 2) (C0 := RX4) (T := TX4) (N := 3) C uX4_pack_X4 rfl 0 rfl 1 (by decide) (List.mem_of_getElem? (i := 1) rfl) rfl rfl dX4_pack_1 ?_
  refine h_aload_n (pc := 4) C dX4_pack_4 rfl 0 rfl ?_
  refine h_get (pc := 5) (ci := 2) (C0 := RX4) (T := TX4) (N := 3) C uX4_pack_X4 rfl 0 rfl 0 (by decide) (List.mem_of_getElem? (i := 2) rfl) rfl rfl dX4_pack_5 ?_
  obtain ⟨v1, hc, hf⟩ := jbd_s hf
  refine h_callV (pc := 8) (q0 := 1) (As := []) (rest := .ref (ad 6) :: []) (ws' := (wX cT ad areas keys there order added size loads widths height ranks)) (st2 := .int v1 :: .ref (ad 6) :: []) C (c_X2_size l D cT ad n areas keys there order added size v1 hc) (cwV 0 C.1.2.2.2.2 gX4_pack_X2_size rfl rfl rfl pv_X2_size ⟨(Nat.le_of_ble_eq_true rfl), (Nat.le_of_ble_eq_true rfl)⟩) dX4_pack_8 rfl rfl rfl rfl rfl (Nat.le_of_ble_eq_true rfl) ⟨rfl, rfl⟩ ⟨(Nat.le_of_ble_eq_true rfl), (Nat.le_of_ble_eq_true rfl)⟩ [1, 2, 3, 4, 5] [0, 6, 7, 8, 9] [0, 5, 6, 7, 8, 9, 1, 2, 3, 4] rfl rfl rfl rfl (by decide) rfl rfl rfl ?_
  clear hc
  obtain ⟨v2, hc, hf⟩ := jbd_s hf
  refine h_callV (pc := 11) (q0 := 6) (As := [.int v1]) (rest := []) (ws' := (wX cT ad areas keys there order added size v2.1 v2.2.1 v2.2.2 ranks)) (st2 := []) C (c_X3_planAnew l D cT ad n loads widths height v1 v2.1 v2.2.1 v2.2.2 hc) (cwV 1 C.1.2.2.2.2 gX4_pack_X3_planAnew rfl rfl rfl pv_X3_planAnew ⟨(Nat.le_of_ble_eq_true rfl), (Nat.le_of_ble_eq_true rfl)⟩) dX4_pack_11 rfl rfl rfl rfl rfl (Nat.le_of_ble_eq_true rfl) ⟨rfl, rfl⟩ ⟨(Nat.le_of_ble_eq_true rfl), (Nat.le_of_ble_eq_true rfl)⟩ [6, 7, 8] [0, 1, 2, 3, 4, 5, 9] [0, 1, 2, 3, 4, 5, 7, 8, 9, 6] rfl rfl rfl rfl (by decide) rfl rfl rfl ?_
  clear hc
  refine h_aload_n (pc := 14) C dX4_pack_14 rfl 0 rfl ?_
  refine h_get (pc := 15) (ci := 2) (C0 := RX4) (T := TX4) (N := 3) C uX4_pack_X4 rfl 0 rfl 1 (by decide) (List.mem_of_getElem? (i := 1) rfl) rfl rfl dX4_pack_15 ?_
  refine h_iconst (pc := 18) C dX4_pack_18 jc_0 ?_
  obtain ⟨v3, hc, hf⟩ := jbd_s hf
  refine h_callV (pc := 19) (q0 := 6) (As := [.int 0]) (rest := []) (ws' := (wX cT ad areas keys there order added size v2.1 v2.2.1 v2.2.2 ranks)) (st2 := .int v3 :: []) C (c_X3_width l D cT ad n v2.1 v2.2.1 v2.2.2 0 v3 hc) (cwV 1 C.1.2.2.2.2 gX4_pack_X3_width rfl rfl rfl pv_X3_width ⟨(Nat.le_of_ble_eq_true rfl), (Nat.le_of_ble_eq_true rfl)⟩) dX4_pack_19 rfl rfl rfl rfl rfl (Nat.le_of_ble_eq_true rfl) ⟨rfl, rfl⟩ ⟨(Nat.le_of_ble_eq_true rfl), (Nat.le_of_ble_eq_true rfl)⟩ [6, 7, 8] [0, 1, 2, 3, 4, 5, 9] [0, 1, 2, 3, 4, 5, 7, 8, 9, 6] rfl rfl rfl rfl (by decide) rfl rfl rfl ?_
  clear hc
  have g0 := (Prod.mk.inj (Option.some.inj hf)).1
  have g1 := (Prod.mk.inj (Prod.mk.inj (Option.some.inj hf)).2).1
  have g2 := (Prod.mk.inj (Prod.mk.inj (Prod.mk.inj (Option.some.inj hf)).2).2).1
  have g3 := (Prod.mk.inj (Prod.mk.inj (Prod.mk.inj (Option.some.inj hf)).2).2).2
  clear hf
  subst g0
  subst g1
  subst g2
  subst g3
  exact h_iret C hr dX4_pack_22
theorem pv_X4_pack : yX4_pack.cls = RX4 ∧ yX4_pack.cls ≠ "java/lang/invoke/MethodHandle" ∧ yX4_pack.cls ≠ "java/lang/invoke/VarHandle" ∧ (parseMethodDescriptor yX4_pack.desc).map (fun d => d.parameters.length) = some 0 := by decide +kernel
abbrev rmX4_boxes : Room := { frames := 1, cells := 0, slots := 0, locals := 20 }
theorem uX4_boxes_X4 : ∀ w ∈ u_ws RX4 TX4 3, w ∈ wsX4_boxes := fun w h => List.mem_cons_of_mem _ (List.mem_append_left _ (List.mem_append_right _ h))
set_option maxRecDepth 100000 in
set_option maxHeartbeats 4000000 in
theorem c_X4_boxes (l : Launch) (D : va_G) (cT : Nat → ClassId) (ad : Nat → Nat) (n : Nat) (areas : Nat → Int32) (keys : Nat → Int32) (there : Nat → Int32) (order : Nat → Int32) (added : Int32) (size : Int32) (loads : Nat → Int32) (widths : Nat → Int32) (height : Int32) (ranks : Nat → Int32)  (r : Int32) (hf : f_X4_boxes n size = some r) : cM l yX4_boxes wsX4_boxes rmX4_boxes D (ty4 cT) [.ref (ad 0)] (wX cT ad areas keys there order added size loads widths height ranks) (some (.int r)) (wX cT ad areas keys there order added size loads widths height ranks) := by
  refine cM_of (cc := cX4_boxes) (maxL := 1) (ret := (some .int)) (own := RX4) (lv := [(0, .ref (ad 0))]) (by decide) rfl (Nat.le_of_ble_eq_true rfl) rfl rfl ?_
  intro p e s m args below meth c A C hr
  unfold f_X4_boxes at hf
  refine h_aload_n (pc := 0) C dX4_boxes_0 rfl 0 rfl ?_
  refine h_get (pc := 1) (ci := 2) (C0 := RX4) (T := TX4) (N := 3) C uX4_boxes_X4 rfl 0 rfl 0 (by decide) (List.mem_of_getElem? (i := 1) rfl) rfl rfl dX4_boxes_1 ?_
  obtain ⟨v1, hc, hf⟩ := jbd_s hf
  refine h_callV (pc := 4) (q0 := 1) (As := []) (rest := []) (ws' := (wX cT ad areas keys there order added size loads widths height ranks)) (st2 := .int v1 :: []) C (c_X2_size l D cT ad n areas keys there order added size v1 hc) (cwV 0 C.1.2.2.2.2 gX4_boxes_X2_size rfl rfl rfl pv_X2_size ⟨(Nat.le_of_ble_eq_true rfl), (Nat.le_of_ble_eq_true rfl)⟩) dX4_boxes_4 rfl rfl rfl rfl rfl (Nat.le_of_ble_eq_true rfl) ⟨rfl, rfl⟩ ⟨(Nat.le_of_ble_eq_true rfl), (Nat.le_of_ble_eq_true rfl)⟩ [1, 2, 3, 4, 5] [0, 6, 7, 8, 9] [0, 5, 6, 7, 8, 9, 1, 2, 3, 4] rfl rfl rfl rfl (by decide) rfl rfl rfl ?_
  clear hc
  have g0 := (Option.some.inj hf)
  clear hf
  subst g0
  exact h_iret C hr dX4_boxes_7
theorem pv_X4_boxes : yX4_boxes.cls = RX4 ∧ yX4_boxes.cls ≠ "java/lang/invoke/MethodHandle" ∧ yX4_boxes.cls ≠ "java/lang/invoke/VarHandle" ∧ (parseMethodDescriptor yX4_boxes.desc).map (fun d => d.parameters.length) = some 0 := by decide +kernel
abbrev rmX4_checkPoint : Room := { frames := 6, cells := 0, slots := 0, locals := 90 }
set_option maxRecDepth 100000 in
set_option maxHeartbeats 4000000 in
theorem k_X4_checkPoint_14 {p : Program} {e : Env} {s : State} {m : MethodId} {args : Array Value} {below : List Frame} {meth : Method} {c : Code} {A : Nat → Prop} (l : Launch) (D : va_G) (cT : Nat → ClassId) (ad : Nat → Nat) (C : hC p s m args meth c cX4_checkPoint 2 wsX4_checkPoint RX4 D (ty4 cT) A) (hr : meth.sig.returnType = none) (n : Nat)   (k : Nat) (hk0 : k = 0)  : f_X4_checkPoint_14 n = some k → hS p l e rmX4_checkPoint s m args below meth c 2 D A 0 0 (MQ below (cQ D (ty4 cT) A none []) args s 0 0 A) 14 [] [] [] := by
  intro  hf
  unfold f_X4_checkPoint_14 at hf
  exact absurd ((Option.some.inj hf).trans hk0) (by decide)
set_option maxRecDepth 100000 in
set_option maxHeartbeats 4000000 in
theorem c_X4_checkPoint (l : Launch) (D : va_G) (cT : Nat → ClassId) (ad : Nat → Nat) (n : Nat)  (a0 : Int32) (a1 : Int32)  (k : Nat) (hk0 : k = 0) (hf : f_X4_checkPoint n a0 a1 = some k) : cM l yX4_checkPoint wsX4_checkPoint rmX4_checkPoint D (ty4 cT) [.int a0, .int a1] [] none [] := by
  refine cM_of (cc := cX4_checkPoint) (maxL := 2) (ret := none) (own := RX4) (lv := [(0, .int a0), (1, .int a1)]) (by decide) rfl (Nat.le_of_ble_eq_true rfl) rfl rfl ?_
  intro p e s m args below meth c A C hr
  unfold f_X4_checkPoint at hf
  refine h_iload_n (pc := 0) C dX4_checkPoint_0 rfl 0 rfl ?_
  obtain ⟨v1, hc, hf⟩ := jbd_s hf
  refine h_callP (pc := 1) (As := [.int a0]) (rest := []) (st2 := .int v1 :: []) C (c_X4_isCoordinate l D cT ad n a0 v1 hc) (va_cwS 1 C.1.2.2.2.2 gX4_checkPoint_X4_isCoordinate rfl rfl rfl ps_X4_isCoordinate ⟨(Nat.le_of_ble_eq_true rfl), (Nat.le_of_ble_eq_true rfl)⟩) dX4_checkPoint_1 rfl rfl (Nat.le_of_ble_eq_true rfl) ⟨rfl, rfl⟩ ⟨(Nat.le_of_ble_eq_true rfl), (Nat.le_of_ble_eq_true rfl)⟩ rfl ?_
  clear hc
  refine h_if_eq (pc := 4) (tgt := 14) C dX4_checkPoint_4 (by decide) (fun q => ?_) (fun q => ?_)
  · replace hf := jif_t q hf
    clear q
    refine h_sub [] rfl ?_
    exact k_X4_checkPoint_14 l D cT ad C hr n k hk0 hf
  · replace hf := jif_f q hf
    clear q
    refine h_iload_n (pc := 7) C dX4_checkPoint_7 rfl 1 rfl ?_
    obtain ⟨v2, hc, hf⟩ := jbd_s hf
    refine h_callP (pc := 8) (As := [.int a1]) (rest := []) (st2 := .int v2 :: []) C (c_X4_isCoordinate l D cT ad n a1 v2 hc) (va_cwS 1 C.1.2.2.2.2 gX4_checkPoint_X4_isCoordinate rfl rfl rfl ps_X4_isCoordinate ⟨(Nat.le_of_ble_eq_true rfl), (Nat.le_of_ble_eq_true rfl)⟩) dX4_checkPoint_8 rfl rfl (Nat.le_of_ble_eq_true rfl) ⟨rfl, rfl⟩ ⟨(Nat.le_of_ble_eq_true rfl), (Nat.le_of_ble_eq_true rfl)⟩ rfl ?_
    clear hc
    refine h_if_ne (pc := 11) (tgt := 24) C dX4_checkPoint_11 (by decide) (fun q => ?_) (fun q => ?_)
    · replace hf := jif_f q hf
      clear q
      have g0 := (Option.some.inj hf)
      clear hf
      subst g0
      exact h_vret C hr dX4_checkPoint_24
    · replace hf := jif_t q hf
      clear q
      refine h_sub [] rfl ?_
      exact k_X4_checkPoint_14 l D cT ad C hr n k hk0 hf
theorem ps_X4_checkPoint : yX4_checkPoint.cls ≠ "java/lang/invoke/MethodHandle" ∧ yX4_checkPoint.cls ≠ "java/lang/invoke/VarHandle" ∧ (parseMethodDescriptor yX4_checkPoint.desc).map (fun d => d.parameters.length) = some 2 := by decide +kernel
abbrev rxX4_checkPoint : Room := { frames := 6, cells := 1, slots := 6, locals := 90 }
set_option maxRecDepth 100000 in
set_option maxHeartbeats 4000000 in
theorem kx_X4_checkPoint_14 {p : Program} {e : Env} {s : State} {m : MethodId} {args : Array Value} {below : List Frame} {meth : Method} {c : Code} {A : Nat → Prop} {l : Launch} (hX0 : l.stackTraces = false) (D : va_G) (cT : Nat → ClassId) (ad : Nat → Nat) (C : hC p s m args meth c cX4_checkPoint 2 wsX4_checkPoint RX4 D (ty4 cT) A) (X : hX l s c A) (n : Nat)   (k : Nat) (hk0 : ¬ k = 0)  : f_X4_checkPoint_14 n = some k → hS p l e rxX4_checkPoint s m args below meth c 2 D A 0 0 (vx_MQ below (fun _ _ _ _ => False) (xX D (ty4 cT) A (xE k) []) args s 1 6 A) 14 [] [] [] := by
  intro  hf
  unfold f_X4_checkPoint_14 at hf
  have g0 := (Option.some.inj hf)
  clear hf
  subst g0
  exact h_throw (pc := 14) C X xin_IAE xft_IAE xft_up (List.mem_of_getElem? (i := 1) rfl) (List.mem_of_getElem? (i := 2) rfl) (List.mem_of_getElem? (i := 4) rfl) (fun w h => List.mem_cons_of_mem _ (List.mem_append_right _ h)) xng_IAE xgd_IAE dX4_checkPoint_14 dX4_checkPoint_17 dX4_checkPoint_18 dX4_checkPoint_20 dX4_checkPoint_23 ⟨Nat.le_of_ble_eq_true rfl, Nat.le_of_ble_eq_true rfl, Nat.le_of_ble_eq_true rfl, Nat.le_of_ble_eq_true rfl⟩ ⟨Nat.le_of_ble_eq_true rfl, Nat.le_of_ble_eq_true rfl⟩
set_option maxRecDepth 100000 in
set_option maxHeartbeats 4000000 in
theorem x_X4_checkPoint {l : Launch} (hX0 : l.stackTraces = false) (D : va_G) (cT : Nat → ClassId) (ad : Nat → Nat) (n : Nat)  (a0 : Int32) (a1 : Int32)  (k : Nat) (hk0 : ¬ k = 0) (hf : f_X4_checkPoint n a0 a1 = some k) : xM l yX4_checkPoint wsX4_checkPoint rxX4_checkPoint D (ty4 cT) [.int a0, .int a1] [] (xE k) [] := by
  refine xM_of (cc := cX4_checkPoint) (maxL := 2) (ret := none) (own := RX4) (lv := [(0, .int a0), (1, .int a1)]) hX0 (by decide) rfl (Nat.le_of_ble_eq_true rfl) rfl rfl ?_
  intro p e s m args below meth c A C X
  unfold f_X4_checkPoint at hf
  refine h_iload_n (pc := 0) C dX4_checkPoint_0 rfl 0 rfl ?_
  obtain ⟨v1, hc, hf⟩ := jbd_s hf
  refine h_callP (pc := 1) (As := [.int a0]) (rest := []) (st2 := .int v1 :: []) C (c_X4_isCoordinate l D cT ad n a0 v1 hc) (va_cwS 1 C.1.2.2.2.2 gX4_checkPoint_X4_isCoordinate rfl rfl rfl ps_X4_isCoordinate ⟨(Nat.le_of_ble_eq_true rfl), (Nat.le_of_ble_eq_true rfl)⟩) dX4_checkPoint_1 rfl rfl (Nat.le_of_ble_eq_true rfl) ⟨rfl, rfl⟩ ⟨(Nat.le_of_ble_eq_true rfl), (Nat.le_of_ble_eq_true rfl)⟩ rfl ?_
  clear hc
  refine h_if_eq (pc := 4) (tgt := 14) C dX4_checkPoint_4 (by decide) (fun q => ?_) (fun q => ?_)
  · replace hf := jif_t q hf
    clear q
    refine h_sub [] rfl ?_
    exact kx_X4_checkPoint_14 hX0 D cT ad C X n k hk0 hf
  · replace hf := jif_f q hf
    clear q
    refine h_iload_n (pc := 7) C dX4_checkPoint_7 rfl 1 rfl ?_
    obtain ⟨v2, hc, hf⟩ := jbd_s hf
    refine h_callP (pc := 8) (As := [.int a1]) (rest := []) (st2 := .int v2 :: []) C (c_X4_isCoordinate l D cT ad n a1 v2 hc) (va_cwS 1 C.1.2.2.2.2 gX4_checkPoint_X4_isCoordinate rfl rfl rfl ps_X4_isCoordinate ⟨(Nat.le_of_ble_eq_true rfl), (Nat.le_of_ble_eq_true rfl)⟩) dX4_checkPoint_8 rfl rfl (Nat.le_of_ble_eq_true rfl) ⟨rfl, rfl⟩ ⟨(Nat.le_of_ble_eq_true rfl), (Nat.le_of_ble_eq_true rfl)⟩ rfl ?_
    clear hc
    refine h_if_ne (pc := 11) (tgt := 24) C dX4_checkPoint_11 (by decide) (fun q => ?_) (fun q => ?_)
    · replace hf := jif_f q hf
      clear q
      exact absurd (Option.some.inj hf).symm hk0
    · replace hf := jif_t q hf
      clear q
      refine h_sub [] rfl ?_
      exact kx_X4_checkPoint_14 hX0 D cT ad C X n k hk0 hf
abbrev rmX4_key : Room := { frames := 7, cells := 0, slots := 0, locals := 111 }
set_option maxRecDepth 100000 in
set_option maxHeartbeats 4000000 in
theorem c_X4_key (l : Launch) (D : va_G) (cT : Nat → ClassId) (ad : Nat → Nat) (n : Nat) (areas : Nat → Int32) (keys : Nat → Int32) (there : Nat → Int32) (order : Nat → Int32) (added : Int32) (size : Int32) (loads : Nat → Int32) (widths : Nat → Int32) (height : Int32) (ranks : Nat → Int32) (a1 : Int32) (a2 : Int32) (r : Int32) (k : Nat) (hk0 : k = 0) (hf : f_X4_key n a1 a2 = some (k, r)) : cM l yX4_key wsX4_key rmX4_key D (ty4 cT) [.ref (ad 0), .int a1, .int a2] (wX cT ad areas keys there order added size loads widths height ranks) (some (.int r)) (wX cT ad areas keys there order added size loads widths height ranks) := by
  refine cM_of (cc := cX4_key) (maxL := 3) (ret := (some .int)) (own := RX4) (lv := [(0, .ref (ad 0)), (1, .int a1), (2, .int a2)]) (by decide) rfl (Nat.le_of_ble_eq_true rfl) rfl rfl ?_
  intro p e s m args below meth c A C hr
  unfold f_X4_key at hf
  refine h_iload_n (pc := 0) C dX4_key_0 rfl 1 rfl ?_
  refine h_iload_n (pc := 1) C dX4_key_1 rfl 2 rfl ?_
  obtain ⟨v1, hc, hf⟩ := jbd_s hf
  by_cases hk : v1 = 0
  · replace hf := jif_t hk hf
    refine h_callP (pc := 2) (As := [.int a1, .int a2]) (rest := []) (st2 := []) C (c_X4_checkPoint l D cT ad n a1 a2 v1 hk hc) (va_cwS 2 C.1.2.2.2.2 gX4_key_X4_checkPoint rfl rfl rfl ps_X4_checkPoint ⟨(Nat.le_of_ble_eq_true rfl), (Nat.le_of_ble_eq_true rfl)⟩) dX4_key_2 rfl rfl (Nat.le_of_ble_eq_true rfl) ⟨rfl, rfl⟩ ⟨(Nat.le_of_ble_eq_true rfl), (Nat.le_of_ble_eq_true rfl)⟩ rfl ?_
    clear hc
    refine h_iload_n (pc := 5) C dX4_key_5 rfl 1 rfl ?_
    refine h_iload_n (pc := 6) C dX4_key_6 rfl 2 rfl ?_
    obtain ⟨v2, hc, hf⟩ := jbd_s hf
    refine h_callP (pc := 7) (As := [.int a1, .int a2]) (rest := []) (st2 := .int v2 :: []) C (c_X1_lengthTo l D cT ad n a1 a2 v2 hc) (va_cwS 2 C.1.2.2.2.2 gX4_key_X1_lengthTo rfl rfl rfl ps_X1_lengthTo ⟨(Nat.le_of_ble_eq_true rfl), (Nat.le_of_ble_eq_true rfl)⟩) dX4_key_7 rfl rfl (Nat.le_of_ble_eq_true rfl) ⟨rfl, rfl⟩ ⟨(Nat.le_of_ble_eq_true rfl), (Nat.le_of_ble_eq_true rfl)⟩ rfl ?_
    clear hc
    have g0 := (Prod.mk.inj (Option.some.inj hf)).1
    have g1 := (Prod.mk.inj (Option.some.inj hf)).2
    clear hf
    subst g0
    subst g1
    exact h_iret C hr dX4_key_10
  · replace hf := jif_f hk hf
    exact absurd ((Prod.mk.inj (Option.some.inj hf)).1.trans hk0) hk
theorem pv_X4_key : yX4_key.cls = RX4 ∧ yX4_key.cls ≠ "java/lang/invoke/MethodHandle" ∧ yX4_key.cls ≠ "java/lang/invoke/VarHandle" ∧ (parseMethodDescriptor yX4_key.desc).map (fun d => d.parameters.length) = some 2 := by decide +kernel
abbrev rxX4_key : Room := { frames := 7, cells := 1, slots := 6, locals := 111 }
set_option maxRecDepth 100000 in
set_option maxHeartbeats 4000000 in
theorem x_X4_key {l : Launch} (hX0 : l.stackTraces = false) (D : va_G) (cT : Nat → ClassId) (ad : Nat → Nat) (n : Nat) (areas : Nat → Int32) (keys : Nat → Int32) (there : Nat → Int32) (order : Nat → Int32) (added : Int32) (size : Int32) (loads : Nat → Int32) (widths : Nat → Int32) (height : Int32) (ranks : Nat → Int32) (a1 : Int32) (a2 : Int32) (r : Int32) (k : Nat) (hk0 : ¬ k = 0) (hf : f_X4_key n a1 a2 = some (k, r)) : xM l yX4_key wsX4_key rxX4_key D (ty4 cT) [.ref (ad 0), .int a1, .int a2] (wX cT ad areas keys there order added size loads widths height ranks) (xE k) (wX cT ad areas keys there order added size loads widths height ranks) := by
  refine xM_of (cc := cX4_key) (maxL := 3) (ret := (some .int)) (own := RX4) (lv := [(0, .ref (ad 0)), (1, .int a1), (2, .int a2)]) hX0 (by decide) rfl (Nat.le_of_ble_eq_true rfl) rfl rfl ?_
  intro p e s m args below meth c A C X
  unfold f_X4_key at hf
  refine h_iload_n (pc := 0) C dX4_key_0 rfl 1 rfl ?_
  refine h_iload_n (pc := 1) C dX4_key_1 rfl 2 rfl ?_
  obtain ⟨v1, hc, hf⟩ := jbd_s hf
  by_cases hk : v1 = 0
  · replace hf := jif_t hk hf
    refine h_callP (pc := 2) (As := [.int a1, .int a2]) (rest := []) (st2 := []) C (c_X4_checkPoint l D cT ad n a1 a2 v1 hk hc) (va_cwS 2 C.1.2.2.2.2 gX4_key_X4_checkPoint rfl rfl rfl ps_X4_checkPoint ⟨(Nat.le_of_ble_eq_true rfl), (Nat.le_of_ble_eq_true rfl)⟩) dX4_key_2 rfl rfl (Nat.le_of_ble_eq_true rfl) ⟨rfl, rfl⟩ ⟨(Nat.le_of_ble_eq_true rfl), (Nat.le_of_ble_eq_true rfl)⟩ rfl ?_
    clear hc
    refine h_iload_n (pc := 5) C dX4_key_5 rfl 1 rfl ?_
    refine h_iload_n (pc := 6) C dX4_key_6 rfl 2 rfl ?_
    obtain ⟨v2, hc, hf⟩ := jbd_s hf
    refine h_callP (pc := 7) (As := [.int a1, .int a2]) (rest := []) (st2 := .int v2 :: []) C (c_X1_lengthTo l D cT ad n a1 a2 v2 hc) (va_cwS 2 C.1.2.2.2.2 gX4_key_X1_lengthTo rfl rfl rfl ps_X1_lengthTo ⟨(Nat.le_of_ble_eq_true rfl), (Nat.le_of_ble_eq_true rfl)⟩) dX4_key_7 rfl rfl (Nat.le_of_ble_eq_true rfl) ⟨rfl, rfl⟩ ⟨(Nat.le_of_ble_eq_true rfl), (Nat.le_of_ble_eq_true rfl)⟩ rfl ?_
    clear hc
    exact absurd (Prod.mk.inj (Option.some.inj hf)).1.symm hk0
  · replace hf := jif_f hk hf
    have g0 := (Prod.mk.inj (Option.some.inj hf)).1
    have g1 := (Prod.mk.inj (Option.some.inj hf)).2
    clear hf
    subst g0
    subst g1
    exact h_xS (pc := 2) (As := [.int a1, .int a2]) (rest := []) C X.1 (x_X4_checkPoint hX0 D cT ad n a1 a2 v1 hk hc) (va_cwS 2 C.1.2.2.2.2 gX4_key_X4_checkPoint rfl rfl rfl ps_X4_checkPoint ⟨(Nat.le_of_ble_eq_true rfl), (Nat.le_of_ble_eq_true rfl)⟩) dX4_key_2 rfl rfl (Nat.le_of_ble_eq_true rfl) ⟨(Nat.le_of_ble_eq_true rfl), (Nat.le_of_ble_eq_true rfl)⟩ (h_outK C X ⟨(Nat.le_of_ble_eq_true rfl), (Nat.le_of_ble_eq_true rfl)⟩)
abbrev rmX4_keyOf : Room := { frames := 7, cells := 0, slots := 0, locals := 111 }
theorem uX4_keyOf_X4 : ∀ w ∈ u_ws RX4 TX4 3, w ∈ wsX4_keyOf := fun w h => List.mem_cons_of_mem _ (List.mem_append_left _ (List.mem_append_left _ (List.mem_append_right _ h)))
set_option maxRecDepth 100000 in
set_option maxHeartbeats 4000000 in
theorem c_X4_keyOf (l : Launch) (D : va_G) (cT : Nat → ClassId) (ad : Nat → Nat) (n : Nat) (areas : Nat → Int32) (keys : Nat → Int32) (there : Nat → Int32) (order : Nat → Int32) (added : Int32) (size : Int32) (loads : Nat → Int32) (widths : Nat → Int32) (height : Int32) (ranks : Nat → Int32) (a1 : Int32) (r : Int32) (k : Nat) (hk0 : k = 0) (hf : f_X4_keyOf n keys there a1 = some (k, r)) : cM l yX4_keyOf wsX4_keyOf rmX4_keyOf D (ty4 cT) [.ref (ad 0), .int a1] (wX cT ad areas keys there order added size loads widths height ranks) (some (.int r)) (wX cT ad areas keys there order added size loads widths height ranks) := by
  refine cM_of (cc := cX4_keyOf) (maxL := 2) (ret := (some .int)) (own := RX4) (lv := [(0, .ref (ad 0)), (1, .int a1)]) (by decide) rfl (Nat.le_of_ble_eq_true rfl) rfl rfl ?_
  intro p e s m args below meth c A C hr
  unfold f_X4_keyOf at hf
  refine h_aload_n (pc := 0) C dX4_keyOf_0 rfl 0 rfl ?_
  refine h_iload_n (pc := 1) C dX4_keyOf_1 rfl 1 rfl ?_
  obtain ⟨v1, hc, hf⟩ := jbd_s hf
  by_cases hk : v1 = 0
  · replace hf := jif_t hk hf
    refine h_callV (pc := 2) (q0 := 0) (As := [.int a1]) (rest := []) (ws' := (wX cT ad areas keys there order added size loads widths height ranks)) (st2 := []) C (c_X4_checkBox l D cT ad n areas keys there order added size loads widths height ranks a1 v1 hk hc) (cwV 1 C.1.2.2.2.2 gX4_keyOf_X4_checkBox rfl rfl rfl pv_X4_checkBox ⟨(Nat.le_of_ble_eq_true rfl), (Nat.le_of_ble_eq_true rfl)⟩) dX4_keyOf_2 rfl rfl rfl rfl rfl (Nat.le_of_ble_eq_true rfl) ⟨rfl, rfl⟩ ⟨(Nat.le_of_ble_eq_true rfl), (Nat.le_of_ble_eq_true rfl)⟩ [0, 1, 2, 3, 4, 5, 6, 7, 8, 9] [] [0, 1, 2, 3, 4, 5, 6, 7, 8, 9] rfl rfl rfl rfl (by decide) rfl rfl rfl ?_
    clear hc
    refine h_aload_n (pc := 5) C dX4_keyOf_5 rfl 0 rfl ?_
    refine h_get (pc := 6) (ci := 2) (C0 := RX4) (T := TX4) (N := 3) C uX4_keyOf_X4 rfl 0 rfl 0 (by decide) (List.mem_of_getElem? (i := 1) rfl) rfl rfl dX4_keyOf_6 ?_
    refine h_iload_n (pc := 9) C dX4_keyOf_9 rfl 1 rfl ?_
    obtain ⟨v2, hc, hf⟩ := jbd_s hf
    refine h_callV (pc := 10) (q0 := 1) (As := [.int a1]) (rest := []) (ws' := (wX cT ad areas keys there order added size loads widths height ranks)) (st2 := .int v2 :: []) C (c_X2_keyFor l D cT ad n areas keys there order added size a1 v2 hc) (cwV 1 C.1.2.2.2.2 gX4_keyOf_X2_keyFor rfl rfl rfl pv_X2_keyFor ⟨(Nat.le_of_ble_eq_true rfl), (Nat.le_of_ble_eq_true rfl)⟩) dX4_keyOf_10 rfl rfl rfl rfl rfl (Nat.le_of_ble_eq_true rfl) ⟨rfl, rfl⟩ ⟨(Nat.le_of_ble_eq_true rfl), (Nat.le_of_ble_eq_true rfl)⟩ [1, 2, 3, 4, 5] [0, 6, 7, 8, 9] [0, 5, 6, 7, 8, 9, 1, 2, 3, 4] rfl rfl rfl rfl (by decide) rfl rfl rfl ?_
    clear hc
    have g0 := (Prod.mk.inj (Option.some.inj hf)).1
    have g1 := (Prod.mk.inj (Option.some.inj hf)).2
    clear hf
    subst g0
    subst g1
    exact h_iret C hr dX4_keyOf_13
  · replace hf := jif_f hk hf
    exact absurd ((Prod.mk.inj (Option.some.inj hf)).1.trans hk0) hk
theorem pv_X4_keyOf : yX4_keyOf.cls = RX4 ∧ yX4_keyOf.cls ≠ "java/lang/invoke/MethodHandle" ∧ yX4_keyOf.cls ≠ "java/lang/invoke/VarHandle" ∧ (parseMethodDescriptor yX4_keyOf.desc).map (fun d => d.parameters.length) = some 1 := by decide +kernel
abbrev rxX4_keyOf : Room := { frames := 7, cells := 1, slots := 6, locals := 111 }
set_option maxRecDepth 100000 in
set_option maxHeartbeats 4000000 in
theorem x_X4_keyOf {l : Launch} (hX0 : l.stackTraces = false) (D : va_G) (cT : Nat → ClassId) (ad : Nat → Nat) (n : Nat) (areas : Nat → Int32) (keys : Nat → Int32) (there : Nat → Int32) (order : Nat → Int32) (added : Int32) (size : Int32) (loads : Nat → Int32) (widths : Nat → Int32) (height : Int32) (ranks : Nat → Int32) (a1 : Int32) (r : Int32) (k : Nat) (hk0 : ¬ k = 0) (hf : f_X4_keyOf n keys there a1 = some (k, r)) : xM l yX4_keyOf wsX4_keyOf rxX4_keyOf D (ty4 cT) [.ref (ad 0), .int a1] (wX cT ad areas keys there order added size loads widths height ranks) (xE k) (wX cT ad areas keys there order added size loads widths height ranks) := by
  refine xM_of (cc := cX4_keyOf) (maxL := 2) (ret := (some .int)) (own := RX4) (lv := [(0, .ref (ad 0)), (1, .int a1)]) hX0 (by decide) rfl (Nat.le_of_ble_eq_true rfl) rfl rfl ?_
  intro p e s m args below meth c A C X
  unfold f_X4_keyOf at hf
  refine h_aload_n (pc := 0) C dX4_keyOf_0 rfl 0 rfl ?_
  refine h_iload_n (pc := 1) C dX4_keyOf_1 rfl 1 rfl ?_
  obtain ⟨v1, hc, hf⟩ := jbd_s hf
  by_cases hk : v1 = 0
  · replace hf := jif_t hk hf
    refine h_callV (pc := 2) (q0 := 0) (As := [.int a1]) (rest := []) (ws' := (wX cT ad areas keys there order added size loads widths height ranks)) (st2 := []) C (c_X4_checkBox l D cT ad n areas keys there order added size loads widths height ranks a1 v1 hk hc) (cwV 1 C.1.2.2.2.2 gX4_keyOf_X4_checkBox rfl rfl rfl pv_X4_checkBox ⟨(Nat.le_of_ble_eq_true rfl), (Nat.le_of_ble_eq_true rfl)⟩) dX4_keyOf_2 rfl rfl rfl rfl rfl (Nat.le_of_ble_eq_true rfl) ⟨rfl, rfl⟩ ⟨(Nat.le_of_ble_eq_true rfl), (Nat.le_of_ble_eq_true rfl)⟩ [0, 1, 2, 3, 4, 5, 6, 7, 8, 9] [] [0, 1, 2, 3, 4, 5, 6, 7, 8, 9] rfl rfl rfl rfl (by decide) rfl rfl rfl ?_
    clear hc
    refine h_aload_n (pc := 5) C dX4_keyOf_5 rfl 0 rfl ?_
    refine h_get (pc := 6) (ci := 2) (C0 := RX4) (T := TX4) (N := 3) C uX4_keyOf_X4 rfl 0 rfl 0 (by decide) (List.mem_of_getElem? (i := 1) rfl) rfl rfl dX4_keyOf_6 ?_
    refine h_iload_n (pc := 9) C dX4_keyOf_9 rfl 1 rfl ?_
    obtain ⟨v2, hc, hf⟩ := jbd_s hf
    refine h_callV (pc := 10) (q0 := 1) (As := [.int a1]) (rest := []) (ws' := (wX cT ad areas keys there order added size loads widths height ranks)) (st2 := .int v2 :: []) C (c_X2_keyFor l D cT ad n areas keys there order added size a1 v2 hc) (cwV 1 C.1.2.2.2.2 gX4_keyOf_X2_keyFor rfl rfl rfl pv_X2_keyFor ⟨(Nat.le_of_ble_eq_true rfl), (Nat.le_of_ble_eq_true rfl)⟩) dX4_keyOf_10 rfl rfl rfl rfl rfl (Nat.le_of_ble_eq_true rfl) ⟨rfl, rfl⟩ ⟨(Nat.le_of_ble_eq_true rfl), (Nat.le_of_ble_eq_true rfl)⟩ [1, 2, 3, 4, 5] [0, 6, 7, 8, 9] [0, 5, 6, 7, 8, 9, 1, 2, 3, 4] rfl rfl rfl rfl (by decide) rfl rfl rfl ?_
    clear hc
    exact absurd (Prod.mk.inj (Option.some.inj hf)).1.symm hk0
  · replace hf := jif_f hk hf
    have g0 := (Prod.mk.inj (Option.some.inj hf)).1
    have g1 := (Prod.mk.inj (Option.some.inj hf)).2
    clear hf
    subst g0
    subst g1
    exact h_xV (pc := 2) (q0 := 0) (As := [.int a1]) (rest := []) (ws' := (wX cT ad areas keys there order added size loads widths height ranks)) C X.1 (x_X4_checkBox hX0 D cT ad n areas keys there order added size loads widths height ranks a1 v1 hk hc) (cwV 1 C.1.2.2.2.2 gX4_keyOf_X4_checkBox rfl rfl rfl pv_X4_checkBox ⟨(Nat.le_of_ble_eq_true rfl), (Nat.le_of_ble_eq_true rfl)⟩) dX4_keyOf_2 rfl rfl rfl rfl rfl (Nat.le_of_ble_eq_true rfl) ⟨(Nat.le_of_ble_eq_true rfl), (Nat.le_of_ble_eq_true rfl)⟩ [0, 1, 2, 3, 4, 5, 6, 7, 8, 9] [] [0, 1, 2, 3, 4, 5, 6, 7, 8, 9] rfl rfl rfl rfl (by decide) rfl rfl (h_outK C X ⟨(Nat.le_of_ble_eq_true rfl), (Nat.le_of_ble_eq_true rfl)⟩)
