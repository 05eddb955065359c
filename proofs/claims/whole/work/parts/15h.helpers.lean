/-! laid by wip/whole/lay.py: the law's helpers: contracts -/
abbrev rmL_add : Room := { frames := 8, cells := 1, slots := 6, locals := 168 }
set_option maxRecDepth 100000 in
set_option maxHeartbeats 4000000 in
theorem c_L_add {l : Launch} (hX0 : l.stackTraces = false) (D : va_G) (cT : Nat → ClassId) (ad : Nat → Nat) (n : Nat) (areas : Nat → Int32) (keys : Nat → Int32) (there : Nat → Int32) (order : Nat → Int32) (added : Int32) (size : Int32) (loads : Nat → Int32) (widths : Nat → Int32) (height : Int32) (ranks : Nat → Int32) (a1 : Int32) (a2 : Int32) (a3 : Int32) (a4 : Int32) (out : Nat → Int64) (r : Int32) (areas' : Nat → Int32) (keys' : Nat → Int32) (there' : Nat → Int32) (order' : Nat → Int32) (added' : Int32) (size' : Int32) (loads' : Nat → Int32) (widths' : Nat → Int32) (height' : Int32) (out' : Nat → Int64) (hf : f_L_add n areas keys there order added size loads widths height a1 a2 a3 a4 out = some (r, areas', keys', there', order', added', size', loads', widths', height', out')) : yM l yL_add wsL_add rmL_add D (ty4 cT) [.ref (ad 0), .int a1, .int a2, .int a3, .int a4, .ref (ad 17)] (wH cT ad areas keys there order added size loads widths height ranks out) (some (.int r)) (wH cT ad areas' keys' there' order' added' size' loads' widths' height' ranks out') := by
  refine yM_of (cc := cL_add) (maxL := 7) (ret := (some .int)) (hh := [(0, 14, 17, 13), (0, 14, 21, 15)]) (own := RL) (lv := [(0, .ref (ad 0)), (1, .int a1), (2, .int a2), (3, .int a3), (4, .int a4), (5, .ref (ad 17))]) (by decide) rfl (Nat.le_of_ble_eq_true rfl) rfl rfl ?_
  intro p e s m args below meth c A C Z htab hr
  unfold f_L_add at hf
  refine h_aload (pc := 0) C dL_add_0 5 rfl ?_
  refine h_iconst (pc := 2) C dL_add_2 jc_0 ?_
  refine h_aload_n (pc := 3) C dL_add_3 rfl 0 rfl ?_
  refine h_iload_n (pc := 4) C dL_add_4 rfl 1 rfl ?_
  refine h_iload_n (pc := 5) C dL_add_5 rfl 2 rfl ?_
  refine h_iload_n (pc := 6) C dL_add_6 rfl 3 rfl ?_
  refine h_iload (pc := 7) C dL_add_7 4 rfl ?_
  obtain ⟨v1, hc, hf⟩ := jbd_s hf
  by_cases hk : v1.1 = 0
  · replace hf := jif_t hk hf
    refine h_callV (pc := 9) (q0 := 0) (As := [.int a1, .int a2, .int a3, .int a4]) (rest := .int 0 :: .ref (ad 17) :: []) (ws' := (wH cT ad v1.2.2.1 v1.2.2.2.1 v1.2.2.2.2.1 v1.2.2.2.2.2.1 v1.2.2.2.2.2.2.1 v1.2.2.2.2.2.2.2.1 v1.2.2.2.2.2.2.2.2.1 v1.2.2.2.2.2.2.2.2.2.1 v1.2.2.2.2.2.2.2.2.2.2 ranks out)) (st2 := .int v1.2.1 :: .int 0 :: .ref (ad 17) :: []) C (c_X4_add l D cT ad n areas keys there order added size loads widths height ranks a1 a2 a3 a4 v1.2.1 v1.2.2.1 v1.2.2.2.1 v1.2.2.2.2.1 v1.2.2.2.2.2.1 v1.2.2.2.2.2.2.1 v1.2.2.2.2.2.2.2.1 v1.2.2.2.2.2.2.2.2.1 v1.2.2.2.2.2.2.2.2.2.1 v1.2.2.2.2.2.2.2.2.2.2 v1.1 hk hc) (cwV 4 C.1.2.2.2.2 gL_add_X4_add rfl rfl rfl pv_X4_add ⟨(Nat.le_of_ble_eq_true rfl), (Nat.le_of_ble_eq_true rfl)⟩) dL_add_9 rfl rfl rfl rfl rfl (Nat.le_of_ble_eq_true rfl) ⟨rfl, rfl⟩ ⟨(Nat.le_of_ble_eq_true rfl), (Nat.le_of_ble_eq_true rfl)⟩ [0, 1, 2, 3, 4, 5, 6, 7, 8, 9] [10] [1, 2, 3, 4, 5, 6, 7, 8, 9, 10, 0] rfl rfl rfl rfl (by decide) rfl rfl rfl ?_
    clear hc
    refine h_i2l (pc := 12) C dL_add_12 ?_
    obtain ⟨hi, w, hv, hf⟩ := jwrL_s hf
    refine h_last (pc := 13) (ws' := (wH cT ad v1.2.2.1 v1.2.2.2.1 v1.2.2.2.2.1 v1.2.2.2.2.2.1 v1.2.2.2.2.2.2.1 v1.2.2.2.2.2.2.2.1 v1.2.2.2.2.2.2.2.2.1 v1.2.2.2.2.2.2.2.2.2.1 v1.2.2.2.2.2.2.2.2.2.2 ranks w)) C 10 2 rfl rfl hi hv rfl dL_add_13 ?_
    clear hi hv
    refine h_goto (pc := 14) (tgt := 25) C dL_add_14 (by decide) ?_
    have g0 := (Prod.mk.inj (Option.some.inj hf)).1
    have g1 := (Prod.mk.inj (Prod.mk.inj (Option.some.inj hf)).2).1
    have g2 := (Prod.mk.inj (Prod.mk.inj (Prod.mk.inj (Option.some.inj hf)).2).2).1
    have g3 := (Prod.mk.inj (Prod.mk.inj (Prod.mk.inj (Prod.mk.inj (Option.some.inj hf)).2).2).2).1
    have g4 := (Prod.mk.inj (Prod.mk.inj (Prod.mk.inj (Prod.mk.inj (Prod.mk.inj (Option.some.inj hf)).2).2).2).2).1
    have g5 := (Prod.mk.inj (Prod.mk.inj (Prod.mk.inj (Prod.mk.inj (Prod.mk.inj (Prod.mk.inj (Option.some.inj hf)).2).2).2).2).2).1
    have g6 := (Prod.mk.inj (Prod.mk.inj (Prod.mk.inj (Prod.mk.inj (Prod.mk.inj (Prod.mk.inj (Prod.mk.inj (Option.some.inj hf)).2).2).2).2).2).2).1
    have g7 := (Prod.mk.inj (Prod.mk.inj (Prod.mk.inj (Prod.mk.inj (Prod.mk.inj (Prod.mk.inj (Prod.mk.inj (Prod.mk.inj (Option.some.inj hf)).2).2).2).2).2).2).2).1
    have g8 := (Prod.mk.inj (Prod.mk.inj (Prod.mk.inj (Prod.mk.inj (Prod.mk.inj (Prod.mk.inj (Prod.mk.inj (Prod.mk.inj (Prod.mk.inj (Option.some.inj hf)).2).2).2).2).2).2).2).2).1
    have g9 := (Prod.mk.inj (Prod.mk.inj (Prod.mk.inj (Prod.mk.inj (Prod.mk.inj (Prod.mk.inj (Prod.mk.inj (Prod.mk.inj (Prod.mk.inj (Prod.mk.inj (Option.some.inj hf)).2).2).2).2).2).2).2).2).2).1
    have g10 := (Prod.mk.inj (Prod.mk.inj (Prod.mk.inj (Prod.mk.inj (Prod.mk.inj (Prod.mk.inj (Prod.mk.inj (Prod.mk.inj (Prod.mk.inj (Prod.mk.inj (Option.some.inj hf)).2).2).2).2).2).2).2).2).2).2
    clear hf
    subst g0
    subst g1
    subst g2
    subst g3
    subst g4
    subst g5
    subst g6
    subst g7
    subst g8
    subst g9
    subst g10
    refine h_iconst (pc := 25) C dL_add_25 jc_0 ?_
    refine h_widen (k := 1) (n := 6) (Nat.le_of_ble_eq_true rfl) (Nat.le_of_ble_eq_true rfl) ?_
    exact h_iret C hr dL_add_26
  · replace hf := jif_f hk hf
    by_cases hk1 : v1.1 = 1
    · replace hf := jif_t hk1 hf
      have g0 := (Prod.mk.inj (Option.some.inj hf)).1
      have g1 := (Prod.mk.inj (Prod.mk.inj (Option.some.inj hf)).2).1
      have g2 := (Prod.mk.inj (Prod.mk.inj (Prod.mk.inj (Option.some.inj hf)).2).2).1
      have g3 := (Prod.mk.inj (Prod.mk.inj (Prod.mk.inj (Prod.mk.inj (Option.some.inj hf)).2).2).2).1
      have g4 := (Prod.mk.inj (Prod.mk.inj (Prod.mk.inj (Prod.mk.inj (Prod.mk.inj (Option.some.inj hf)).2).2).2).2).1
      have g5 := (Prod.mk.inj (Prod.mk.inj (Prod.mk.inj (Prod.mk.inj (Prod.mk.inj (Prod.mk.inj (Option.some.inj hf)).2).2).2).2).2).1
      have g6 := (Prod.mk.inj (Prod.mk.inj (Prod.mk.inj (Prod.mk.inj (Prod.mk.inj (Prod.mk.inj (Prod.mk.inj (Option.some.inj hf)).2).2).2).2).2).2).1
      have g7 := (Prod.mk.inj (Prod.mk.inj (Prod.mk.inj (Prod.mk.inj (Prod.mk.inj (Prod.mk.inj (Prod.mk.inj (Prod.mk.inj (Option.some.inj hf)).2).2).2).2).2).2).2).1
      have g8 := (Prod.mk.inj (Prod.mk.inj (Prod.mk.inj (Prod.mk.inj (Prod.mk.inj (Prod.mk.inj (Prod.mk.inj (Prod.mk.inj (Prod.mk.inj (Option.some.inj hf)).2).2).2).2).2).2).2).2).1
      have g9 := (Prod.mk.inj (Prod.mk.inj (Prod.mk.inj (Prod.mk.inj (Prod.mk.inj (Prod.mk.inj (Prod.mk.inj (Prod.mk.inj (Prod.mk.inj (Prod.mk.inj (Option.some.inj hf)).2).2).2).2).2).2).2).2).2).1
      have g10 := (Prod.mk.inj (Prod.mk.inj (Prod.mk.inj (Prod.mk.inj (Prod.mk.inj (Prod.mk.inj (Prod.mk.inj (Prod.mk.inj (Prod.mk.inj (Prod.mk.inj (Option.some.inj hf)).2).2).2).2).2).2).2).2).2).2
      clear hf
      subst g0
      subst g1
      subst g2
      subst g3
      subst g4
      subst g5
      subst g6
      subst g7
      subst g8
      subst g9
      subst g10
      refine h_xV (pc := 9) (q0 := 0) (As := [.int a1, .int a2, .int a3, .int a4]) (rest := .int 0 :: .ref (ad 17) :: []) (ws' := (wH cT ad v1.2.2.1 v1.2.2.2.1 v1.2.2.2.2.1 v1.2.2.2.2.2.1 v1.2.2.2.2.2.2.1 v1.2.2.2.2.2.2.2.1 v1.2.2.2.2.2.2.2.2.1 v1.2.2.2.2.2.2.2.2.2.1 v1.2.2.2.2.2.2.2.2.2.2 ranks out)) (E := xIAE) C Z (by have h := x_X4_add hX0 D cT ad n areas keys there order added size loads widths height ranks a1 a2 a3 a4 v1.2.1 v1.2.2.1 v1.2.2.2.1 v1.2.2.2.2.1 v1.2.2.2.2.2.1 v1.2.2.2.2.2.2.1 v1.2.2.2.2.2.2.2.1 v1.2.2.2.2.2.2.2.2.1 v1.2.2.2.2.2.2.2.2.2.1 v1.2.2.2.2.2.2.2.2.2.2 v1.1 hk hc; rw [hk1] at h; exact h) (cwV 4 C.1.2.2.2.2 gL_add_X4_add rfl rfl rfl pv_X4_add ⟨(Nat.le_of_ble_eq_true rfl), (Nat.le_of_ble_eq_true rfl)⟩) dL_add_9 rfl rfl rfl rfl rfl (Nat.le_of_ble_eq_true rfl) ⟨(Nat.le_of_ble_eq_true rfl), (Nat.le_of_ble_eq_true rfl)⟩ [0, 1, 2, 3, 4, 5, 6, 7, 8, 9] [10] [1, 2, 3, 4, 5, 6, 7, 8, 9, 10, 0] rfl rfl rfl rfl (by decide) rfl rfl (h_catchK C Z [] ⟨0, 14, 17, 13⟩ [⟨0, 14, 21, 15⟩] htab (fun z hz => nomatch hz) (by decide) (by decide) (List.mem_of_getElem? (i := 1) rfl) xin_IAE (hpc := 17) rfl (fun q9 => ?_))
      refine h_astore (pc := 17) (lv' := [(6, .ref q9), (0, .ref (ad 0)), (1, .int a1), (2, .int a2), (3, .int a3), (4, .int a4), (5, .ref (ad 17))]) C dL_add_17 (by decide) rfl ?_
      refine h_iconst (pc := 19) C dL_add_19 jc_1 ?_
      exact h_iret C hr dL_add_20
    · replace hf := jif_f hk1 hf
      by_cases hk2 : v1.1 = 2
      · replace hf := jif_t hk2 hf
        have g0 := (Prod.mk.inj (Option.some.inj hf)).1
        have g1 := (Prod.mk.inj (Prod.mk.inj (Option.some.inj hf)).2).1
        have g2 := (Prod.mk.inj (Prod.mk.inj (Prod.mk.inj (Option.some.inj hf)).2).2).1
        have g3 := (Prod.mk.inj (Prod.mk.inj (Prod.mk.inj (Prod.mk.inj (Option.some.inj hf)).2).2).2).1
        have g4 := (Prod.mk.inj (Prod.mk.inj (Prod.mk.inj (Prod.mk.inj (Prod.mk.inj (Option.some.inj hf)).2).2).2).2).1
        have g5 := (Prod.mk.inj (Prod.mk.inj (Prod.mk.inj (Prod.mk.inj (Prod.mk.inj (Prod.mk.inj (Option.some.inj hf)).2).2).2).2).2).1
        have g6 := (Prod.mk.inj (Prod.mk.inj (Prod.mk.inj (Prod.mk.inj (Prod.mk.inj (Prod.mk.inj (Prod.mk.inj (Option.some.inj hf)).2).2).2).2).2).2).1
        have g7 := (Prod.mk.inj (Prod.mk.inj (Prod.mk.inj (Prod.mk.inj (Prod.mk.inj (Prod.mk.inj (Prod.mk.inj (Prod.mk.inj (Option.some.inj hf)).2).2).2).2).2).2).2).1
        have g8 := (Prod.mk.inj (Prod.mk.inj (Prod.mk.inj (Prod.mk.inj (Prod.mk.inj (Prod.mk.inj (Prod.mk.inj (Prod.mk.inj (Prod.mk.inj (Option.some.inj hf)).2).2).2).2).2).2).2).2).1
        have g9 := (Prod.mk.inj (Prod.mk.inj (Prod.mk.inj (Prod.mk.inj (Prod.mk.inj (Prod.mk.inj (Prod.mk.inj (Prod.mk.inj (Prod.mk.inj (Prod.mk.inj (Option.some.inj hf)).2).2).2).2).2).2).2).2).2).1
        have g10 := (Prod.mk.inj (Prod.mk.inj (Prod.mk.inj (Prod.mk.inj (Prod.mk.inj (Prod.mk.inj (Prod.mk.inj (Prod.mk.inj (Prod.mk.inj (Prod.mk.inj (Option.some.inj hf)).2).2).2).2).2).2).2).2).2).2
        clear hf
        subst g0
        subst g1
        subst g2
        subst g3
        subst g4
        subst g5
        subst g6
        subst g7
        subst g8
        subst g9
        subst g10
        refine h_xV (pc := 9) (q0 := 0) (As := [.int a1, .int a2, .int a3, .int a4]) (rest := .int 0 :: .ref (ad 17) :: []) (ws' := (wH cT ad v1.2.2.1 v1.2.2.2.1 v1.2.2.2.2.1 v1.2.2.2.2.2.1 v1.2.2.2.2.2.2.1 v1.2.2.2.2.2.2.2.1 v1.2.2.2.2.2.2.2.2.1 v1.2.2.2.2.2.2.2.2.2.1 v1.2.2.2.2.2.2.2.2.2.2 ranks out)) (E := xISE) C Z (by have h := x_X4_add hX0 D cT ad n areas keys there order added size loads widths height ranks a1 a2 a3 a4 v1.2.1 v1.2.2.1 v1.2.2.2.1 v1.2.2.2.2.1 v1.2.2.2.2.2.1 v1.2.2.2.2.2.2.1 v1.2.2.2.2.2.2.2.1 v1.2.2.2.2.2.2.2.2.1 v1.2.2.2.2.2.2.2.2.2.1 v1.2.2.2.2.2.2.2.2.2.2 v1.1 hk hc; rw [hk2] at h; exact h) (cwV 4 C.1.2.2.2.2 gL_add_X4_add rfl rfl rfl pv_X4_add ⟨(Nat.le_of_ble_eq_true rfl), (Nat.le_of_ble_eq_true rfl)⟩) dL_add_9 rfl rfl rfl rfl rfl (Nat.le_of_ble_eq_true rfl) ⟨(Nat.le_of_ble_eq_true rfl), (Nat.le_of_ble_eq_true rfl)⟩ [0, 1, 2, 3, 4, 5, 6, 7, 8, 9] [10] [1, 2, 3, 4, 5, 6, 7, 8, 9, 10, 0] rfl rfl rfl rfl (by decide) rfl rfl (h_catchK C Z [⟨0, 14, 17, 13⟩] ⟨0, 14, 21, 15⟩ [] htab (fun z hz => by rw [List.mem_singleton.mp hz]; exact Or.inr ⟨by decide, xIAE, List.mem_of_getElem? (i := 1) rfl, Z.2.2.2.2.1.1⟩) (by decide) (by decide) (List.mem_of_getElem? (i := 2) rfl) xin_ISE (hpc := 21) rfl (fun q9 => ?_))
        refine h_astore (pc := 21) (lv' := [(6, .ref q9), (0, .ref (ad 0)), (1, .int a1), (2, .int a2), (3, .int a3), (4, .int a4), (5, .ref (ad 17))]) C dL_add_21 (by decide) rfl ?_
        refine h_iconst (pc := 23) C dL_add_23 jc_2 ?_
        exact h_iret C hr dL_add_24
      · replace hf := jif_f hk2 hf
        exact nomatch hf
theorem ps_L_add : yL_add.cls ≠ "java/lang/invoke/MethodHandle" ∧ yL_add.cls ≠ "java/lang/invoke/VarHandle" ∧ (parseMethodDescriptor yL_add.desc).map (fun d => d.parameters.length) = some 6 := by decide +kernel
abbrev rmL_remove : Room := { frames := 8, cells := 1, slots := 6, locals := 166 }
set_option maxRecDepth 100000 in
set_option maxHeartbeats 4000000 in
theorem c_L_remove {l : Launch} (hX0 : l.stackTraces = false) (D : va_G) (cT : Nat → ClassId) (ad : Nat → Nat) (n : Nat) (areas : Nat → Int32) (keys : Nat → Int32) (there : Nat → Int32) (order : Nat → Int32) (added : Int32) (size : Int32) (loads : Nat → Int32) (widths : Nat → Int32) (height : Int32) (ranks : Nat → Int32) (a1 : Int32) (out : Nat → Int64) (r : Int32) (there' : Nat → Int32) (order' : Nat → Int32) (size' : Int32) (loads' : Nat → Int32) (widths' : Nat → Int32) (height' : Int32) (out' : Nat → Int64) (hf : f_L_remove n there order size loads widths height a1 out = some (r, there', order', size', loads', widths', height', out')) : yM l yL_remove wsL_remove rmL_remove D (ty4 cT) [.ref (ad 0), .int a1, .ref (ad 17)] (wH cT ad areas keys there order added size loads widths height ranks out) (some (.int r)) (wH cT ad areas keys there' order' added size' loads' widths' height' ranks out') := by
  refine yM_of (cc := cL_remove) (maxL := 4) (ret := (some .int)) (hh := [(0, 9, 12, 21)]) (own := RL) (lv := [(0, .ref (ad 0)), (1, .int a1), (2, .ref (ad 17))]) (by decide) rfl (Nat.le_of_ble_eq_true rfl) rfl rfl ?_
  intro p e s m args below meth c A C Z htab hr
  unfold f_L_remove at hf
  refine h_aload_n (pc := 0) C dL_remove_0 rfl 2 rfl ?_
  refine h_iconst (pc := 1) C dL_remove_1 jc_0 ?_
  refine h_aload_n (pc := 2) C dL_remove_2 rfl 0 rfl ?_
  refine h_iload_n (pc := 3) C dL_remove_3 rfl 1 rfl ?_
  obtain ⟨v1, hc, hf⟩ := jbd_s hf
  by_cases hk : v1.1 = 0
  · replace hf := jif_t hk hf
    refine h_callV (pc := 4) (q0 := 0) (As := [.int a1]) (rest := .int 0 :: .ref (ad 17) :: []) (ws' := (wH cT ad areas keys v1.2.2.1 v1.2.2.2.1 added v1.2.2.2.2.1 v1.2.2.2.2.2.1 v1.2.2.2.2.2.2.1 v1.2.2.2.2.2.2.2 ranks out)) (st2 := .int v1.2.1 :: .int 0 :: .ref (ad 17) :: []) C (c_X4_remove l D cT ad n areas keys there order added size loads widths height ranks a1 v1.2.1 v1.2.2.1 v1.2.2.2.1 v1.2.2.2.2.1 v1.2.2.2.2.2.1 v1.2.2.2.2.2.2.1 v1.2.2.2.2.2.2.2 v1.1 hk hc) (cwV 1 C.1.2.2.2.2 gL_remove_X4_remove rfl rfl rfl pv_X4_remove ⟨(Nat.le_of_ble_eq_true rfl), (Nat.le_of_ble_eq_true rfl)⟩) dL_remove_4 rfl rfl rfl rfl rfl (Nat.le_of_ble_eq_true rfl) ⟨rfl, rfl⟩ ⟨(Nat.le_of_ble_eq_true rfl), (Nat.le_of_ble_eq_true rfl)⟩ [0, 1, 2, 3, 4, 5, 6, 7, 8, 9] [10] [1, 2, 3, 4, 5, 6, 7, 8, 9, 10, 0] rfl rfl rfl rfl (by decide) rfl rfl rfl ?_
    clear hc
    refine h_i2l (pc := 7) C dL_remove_7 ?_
    obtain ⟨hi, w, hv, hf⟩ := jwrL_s hf
    refine h_last (pc := 8) (ws' := (wH cT ad areas keys v1.2.2.1 v1.2.2.2.1 added v1.2.2.2.2.1 v1.2.2.2.2.2.1 v1.2.2.2.2.2.2.1 v1.2.2.2.2.2.2.2 ranks w)) C 10 2 rfl rfl hi hv rfl dL_remove_8 ?_
    clear hi hv
    refine h_goto (pc := 9) (tgt := 15) C dL_remove_9 (by decide) ?_
    have g0 := (Prod.mk.inj (Option.some.inj hf)).1
    have g1 := (Prod.mk.inj (Prod.mk.inj (Option.some.inj hf)).2).1
    have g2 := (Prod.mk.inj (Prod.mk.inj (Prod.mk.inj (Option.some.inj hf)).2).2).1
    have g3 := (Prod.mk.inj (Prod.mk.inj (Prod.mk.inj (Prod.mk.inj (Option.some.inj hf)).2).2).2).1
    have g4 := (Prod.mk.inj (Prod.mk.inj (Prod.mk.inj (Prod.mk.inj (Prod.mk.inj (Option.some.inj hf)).2).2).2).2).1
    have g5 := (Prod.mk.inj (Prod.mk.inj (Prod.mk.inj (Prod.mk.inj (Prod.mk.inj (Prod.mk.inj (Option.some.inj hf)).2).2).2).2).2).1
    have g6 := (Prod.mk.inj (Prod.mk.inj (Prod.mk.inj (Prod.mk.inj (Prod.mk.inj (Prod.mk.inj (Prod.mk.inj (Option.some.inj hf)).2).2).2).2).2).2).1
    have g7 := (Prod.mk.inj (Prod.mk.inj (Prod.mk.inj (Prod.mk.inj (Prod.mk.inj (Prod.mk.inj (Prod.mk.inj (Option.some.inj hf)).2).2).2).2).2).2).2
    clear hf
    subst g0
    subst g1
    subst g2
    subst g3
    subst g4
    subst g5
    subst g6
    subst g7
    refine h_iconst (pc := 15) C dL_remove_15 jc_0 ?_
    refine h_widen (k := 1) (n := 6) (Nat.le_of_ble_eq_true rfl) (Nat.le_of_ble_eq_true rfl) ?_
    exact h_iret C hr dL_remove_16
  · replace hf := jif_f hk hf
    by_cases hk3 : v1.1 = 3
    · replace hf := jif_t hk3 hf
      have g0 := (Prod.mk.inj (Option.some.inj hf)).1
      have g1 := (Prod.mk.inj (Prod.mk.inj (Option.some.inj hf)).2).1
      have g2 := (Prod.mk.inj (Prod.mk.inj (Prod.mk.inj (Option.some.inj hf)).2).2).1
      have g3 := (Prod.mk.inj (Prod.mk.inj (Prod.mk.inj (Prod.mk.inj (Option.some.inj hf)).2).2).2).1
      have g4 := (Prod.mk.inj (Prod.mk.inj (Prod.mk.inj (Prod.mk.inj (Prod.mk.inj (Option.some.inj hf)).2).2).2).2).1
      have g5 := (Prod.mk.inj (Prod.mk.inj (Prod.mk.inj (Prod.mk.inj (Prod.mk.inj (Prod.mk.inj (Option.some.inj hf)).2).2).2).2).2).1
      have g6 := (Prod.mk.inj (Prod.mk.inj (Prod.mk.inj (Prod.mk.inj (Prod.mk.inj (Prod.mk.inj (Prod.mk.inj (Option.some.inj hf)).2).2).2).2).2).2).1
      have g7 := (Prod.mk.inj (Prod.mk.inj (Prod.mk.inj (Prod.mk.inj (Prod.mk.inj (Prod.mk.inj (Prod.mk.inj (Option.some.inj hf)).2).2).2).2).2).2).2
      clear hf
      subst g0
      subst g1
      subst g2
      subst g3
      subst g4
      subst g5
      subst g6
      subst g7
      refine h_xV (pc := 4) (q0 := 0) (As := [.int a1]) (rest := .int 0 :: .ref (ad 17) :: []) (ws' := (wH cT ad areas keys v1.2.2.1 v1.2.2.2.1 added v1.2.2.2.2.1 v1.2.2.2.2.2.1 v1.2.2.2.2.2.2.1 v1.2.2.2.2.2.2.2 ranks out)) (E := xIOE) C Z (by have h := x_X4_remove hX0 D cT ad n areas keys there order added size loads widths height ranks a1 v1.2.1 v1.2.2.1 v1.2.2.2.1 v1.2.2.2.2.1 v1.2.2.2.2.2.1 v1.2.2.2.2.2.2.1 v1.2.2.2.2.2.2.2 v1.1 hk hc; rw [hk3] at h; exact h) (cwV 1 C.1.2.2.2.2 gL_remove_X4_remove rfl rfl rfl pv_X4_remove ⟨(Nat.le_of_ble_eq_true rfl), (Nat.le_of_ble_eq_true rfl)⟩) dL_remove_4 rfl rfl rfl rfl rfl (Nat.le_of_ble_eq_true rfl) ⟨(Nat.le_of_ble_eq_true rfl), (Nat.le_of_ble_eq_true rfl)⟩ [0, 1, 2, 3, 4, 5, 6, 7, 8, 9] [10] [1, 2, 3, 4, 5, 6, 7, 8, 9, 10, 0] rfl rfl rfl rfl (by decide) rfl rfl (h_catchK C Z [] ⟨0, 9, 12, 21⟩ [] htab (fun z hz => nomatch hz) (by decide) (by decide) (List.mem_of_getElem? (i := 1) rfl) xin_IOE (hpc := 12) rfl (fun q9 => ?_))
      refine h_astore_n (pc := 12) (lv' := [(3, .ref q9), (0, .ref (ad 0)), (1, .int a1), (2, .ref (ad 17))]) C dL_remove_12 rfl (by decide) rfl ?_
      refine h_iconst (pc := 13) C dL_remove_13 jc_1 ?_
      exact h_iret C hr dL_remove_14
    · replace hf := jif_f hk3 hf
      exact nomatch hf
theorem ps_L_remove : yL_remove.cls ≠ "java/lang/invoke/MethodHandle" ∧ yL_remove.cls ≠ "java/lang/invoke/VarHandle" ∧ (parseMethodDescriptor yL_remove.desc).map (fun d => d.parameters.length) = some 3 := by decide +kernel
abbrev rmL_key : Room := { frames := 8, cells := 1, slots := 6, locals := 133 }
set_option maxRecDepth 100000 in
set_option maxHeartbeats 4000000 in
theorem c_L_key {l : Launch} (hX0 : l.stackTraces = false) (D : va_G) (cT : Nat → ClassId) (ad : Nat → Nat) (n : Nat) (areas : Nat → Int32) (keys : Nat → Int32) (there : Nat → Int32) (order : Nat → Int32) (added : Int32) (size : Int32) (loads : Nat → Int32) (widths : Nat → Int32) (height : Int32) (ranks : Nat → Int32) (a1 : Int32) (a2 : Int32) (out : Nat → Int64) (r : Int32)  (out' : Nat → Int64) (hf : f_L_key n a1 a2 out = some (r, out')) : yM l yL_key wsL_key rmL_key D (ty4 cT) [.ref (ad 0), .int a1, .int a2, .ref (ad 17)] (wH cT ad areas keys there order added size loads widths height ranks out) (some (.int r)) (wH cT ad areas keys there order added size loads widths height ranks out') := by
  refine yM_of (cc := cL_key) (maxL := 5) (ret := (some .int)) (hh := [(0, 10, 13, 13)]) (own := RL) (lv := [(0, .ref (ad 0)), (1, .int a1), (2, .int a2), (3, .ref (ad 17))]) (by decide) rfl (Nat.le_of_ble_eq_true rfl) rfl rfl ?_
  intro p e s m args below meth c A C Z htab hr
  unfold f_L_key at hf
  refine h_aload_n (pc := 0) C dL_key_0 rfl 3 rfl ?_
  refine h_iconst (pc := 1) C dL_key_1 jc_0 ?_
  refine h_aload_n (pc := 2) C dL_key_2 rfl 0 rfl ?_
  refine h_iload_n (pc := 3) C dL_key_3 rfl 1 rfl ?_
  refine h_iload_n (pc := 4) C dL_key_4 rfl 2 rfl ?_
  obtain ⟨v1, hc, hf⟩ := jbd_s hf
  by_cases hk : v1.1 = 0
  · replace hf := jif_t hk hf
    refine h_callV (pc := 5) (q0 := 0) (As := [.int a1, .int a2]) (rest := .int 0 :: .ref (ad 17) :: []) (ws' := (wH cT ad areas keys there order added size loads widths height ranks out)) (st2 := .int v1.2 :: .int 0 :: .ref (ad 17) :: []) C (c_X4_key l D cT ad n areas keys there order added size loads widths height ranks a1 a2 v1.2 v1.1 hk hc) (cwV 2 C.1.2.2.2.2 gL_key_X4_key rfl rfl rfl pv_X4_key ⟨(Nat.le_of_ble_eq_true rfl), (Nat.le_of_ble_eq_true rfl)⟩) dL_key_5 rfl rfl rfl rfl rfl (Nat.le_of_ble_eq_true rfl) ⟨rfl, rfl⟩ ⟨(Nat.le_of_ble_eq_true rfl), (Nat.le_of_ble_eq_true rfl)⟩ [0, 1, 2, 3, 4, 5, 6, 7, 8, 9] [10] [1, 2, 3, 4, 5, 6, 7, 8, 9, 10, 0] rfl rfl rfl rfl (by decide) rfl rfl rfl ?_
    clear hc
    refine h_i2l (pc := 8) C dL_key_8 ?_
    obtain ⟨hi, w, hv, hf⟩ := jwrL_s hf
    refine h_last (pc := 9) (ws' := (wH cT ad areas keys there order added size loads widths height ranks w)) C 10 2 rfl rfl hi hv rfl dL_key_9 ?_
    clear hi hv
    refine h_goto (pc := 10) (tgt := 17) C dL_key_10 (by decide) ?_
    have g0 := (Prod.mk.inj (Option.some.inj hf)).1
    have g1 := (Prod.mk.inj (Option.some.inj hf)).2
    clear hf
    subst g0
    subst g1
    refine h_iconst (pc := 17) C dL_key_17 jc_0 ?_
    refine h_widen (k := 1) (n := 6) (Nat.le_of_ble_eq_true rfl) (Nat.le_of_ble_eq_true rfl) ?_
    exact h_iret C hr dL_key_18
  · replace hf := jif_f hk hf
    by_cases hk1 : v1.1 = 1
    · replace hf := jif_t hk1 hf
      have g0 := (Prod.mk.inj (Option.some.inj hf)).1
      have g1 := (Prod.mk.inj (Option.some.inj hf)).2
      clear hf
      subst g0
      subst g1
      refine h_xV (pc := 5) (q0 := 0) (As := [.int a1, .int a2]) (rest := .int 0 :: .ref (ad 17) :: []) (ws' := (wH cT ad areas keys there order added size loads widths height ranks out)) (E := xIAE) C Z (by have h := x_X4_key hX0 D cT ad n areas keys there order added size loads widths height ranks a1 a2 v1.2 v1.1 hk hc; rw [hk1] at h; exact h) (cwV 2 C.1.2.2.2.2 gL_key_X4_key rfl rfl rfl pv_X4_key ⟨(Nat.le_of_ble_eq_true rfl), (Nat.le_of_ble_eq_true rfl)⟩) dL_key_5 rfl rfl rfl rfl rfl (Nat.le_of_ble_eq_true rfl) ⟨(Nat.le_of_ble_eq_true rfl), (Nat.le_of_ble_eq_true rfl)⟩ [0, 1, 2, 3, 4, 5, 6, 7, 8, 9] [10] [1, 2, 3, 4, 5, 6, 7, 8, 9, 10, 0] rfl rfl rfl rfl (by decide) rfl rfl (h_catchK C Z [] ⟨0, 10, 13, 13⟩ [] htab (fun z hz => nomatch hz) (by decide) (by decide) (List.mem_of_getElem? (i := 1) rfl) xin_IAE (hpc := 13) rfl (fun q9 => ?_))
      refine h_astore (pc := 13) (lv' := [(4, .ref q9), (0, .ref (ad 0)), (1, .int a1), (2, .int a2), (3, .ref (ad 17))]) C dL_key_13 (by decide) rfl ?_
      refine h_iconst (pc := 15) C dL_key_15 jc_1 ?_
      exact h_iret C hr dL_key_16
    · replace hf := jif_f hk1 hf
      exact nomatch hf
theorem ps_L_key : yL_key.cls ≠ "java/lang/invoke/MethodHandle" ∧ yL_key.cls ≠ "java/lang/invoke/VarHandle" ∧ (parseMethodDescriptor yL_key.desc).map (fun d => d.parameters.length) = some 4 := by decide +kernel
abbrev rmL_keyOf : Room := { frames := 8, cells := 1, slots := 6, locals := 132 }
set_option maxRecDepth 100000 in
set_option maxHeartbeats 4000000 in
theorem c_L_keyOf {l : Launch} (hX0 : l.stackTraces = false) (D : va_G) (cT : Nat → ClassId) (ad : Nat → Nat) (n : Nat) (areas : Nat → Int32) (keys : Nat → Int32) (there : Nat → Int32) (order : Nat → Int32) (added : Int32) (size : Int32) (loads : Nat → Int32) (widths : Nat → Int32) (height : Int32) (ranks : Nat → Int32) (a1 : Int32) (out : Nat → Int64) (r : Int32)  (out' : Nat → Int64) (hf : f_L_keyOf n keys there a1 out = some (r, out')) : yM l yL_keyOf wsL_keyOf rmL_keyOf D (ty4 cT) [.ref (ad 0), .int a1, .ref (ad 17)] (wH cT ad areas keys there order added size loads widths height ranks out) (some (.int r)) (wH cT ad areas keys there order added size loads widths height ranks out') := by
  refine yM_of (cc := cL_keyOf) (maxL := 4) (ret := (some .int)) (hh := [(0, 9, 12, 21)]) (own := RL) (lv := [(0, .ref (ad 0)), (1, .int a1), (2, .ref (ad 17))]) (by decide) rfl (Nat.le_of_ble_eq_true rfl) rfl rfl ?_
  intro p e s m args below meth c A C Z htab hr
  unfold f_L_keyOf at hf
  refine h_aload_n (pc := 0) C dL_keyOf_0 rfl 2 rfl ?_
  refine h_iconst (pc := 1) C dL_keyOf_1 jc_0 ?_
  refine h_aload_n (pc := 2) C dL_keyOf_2 rfl 0 rfl ?_
  refine h_iload_n (pc := 3) C dL_keyOf_3 rfl 1 rfl ?_
  obtain ⟨v1, hc, hf⟩ := jbd_s hf
  by_cases hk : v1.1 = 0
  · replace hf := jif_t hk hf
    refine h_callV (pc := 4) (q0 := 0) (As := [.int a1]) (rest := .int 0 :: .ref (ad 17) :: []) (ws' := (wH cT ad areas keys there order added size loads widths height ranks out)) (st2 := .int v1.2 :: .int 0 :: .ref (ad 17) :: []) C (c_X4_keyOf l D cT ad n areas keys there order added size loads widths height ranks a1 v1.2 v1.1 hk hc) (cwV 1 C.1.2.2.2.2 gL_keyOf_X4_keyOf rfl rfl rfl pv_X4_keyOf ⟨(Nat.le_of_ble_eq_true rfl), (Nat.le_of_ble_eq_true rfl)⟩) dL_keyOf_4 rfl rfl rfl rfl rfl (Nat.le_of_ble_eq_true rfl) ⟨rfl, rfl⟩ ⟨(Nat.le_of_ble_eq_true rfl), (Nat.le_of_ble_eq_true rfl)⟩ [0, 1, 2, 3, 4, 5, 6, 7, 8, 9] [10] [1, 2, 3, 4, 5, 6, 7, 8, 9, 10, 0] rfl rfl rfl rfl (by decide) rfl rfl rfl ?_
    clear hc
    refine h_i2l (pc := 7) C dL_keyOf_7 ?_
    obtain ⟨hi, w, hv, hf⟩ := jwrL_s hf
    refine h_last (pc := 8) (ws' := (wH cT ad areas keys there order added size loads widths height ranks w)) C 10 2 rfl rfl hi hv rfl dL_keyOf_8 ?_
    clear hi hv
    refine h_goto (pc := 9) (tgt := 15) C dL_keyOf_9 (by decide) ?_
    have g0 := (Prod.mk.inj (Option.some.inj hf)).1
    have g1 := (Prod.mk.inj (Option.some.inj hf)).2
    clear hf
    subst g0
    subst g1
    refine h_iconst (pc := 15) C dL_keyOf_15 jc_0 ?_
    refine h_widen (k := 1) (n := 6) (Nat.le_of_ble_eq_true rfl) (Nat.le_of_ble_eq_true rfl) ?_
    exact h_iret C hr dL_keyOf_16
  · replace hf := jif_f hk hf
    by_cases hk3 : v1.1 = 3
    · replace hf := jif_t hk3 hf
      have g0 := (Prod.mk.inj (Option.some.inj hf)).1
      have g1 := (Prod.mk.inj (Option.some.inj hf)).2
      clear hf
      subst g0
      subst g1
      refine h_xV (pc := 4) (q0 := 0) (As := [.int a1]) (rest := .int 0 :: .ref (ad 17) :: []) (ws' := (wH cT ad areas keys there order added size loads widths height ranks out)) (E := xIOE) C Z (by have h := x_X4_keyOf hX0 D cT ad n areas keys there order added size loads widths height ranks a1 v1.2 v1.1 hk hc; rw [hk3] at h; exact h) (cwV 1 C.1.2.2.2.2 gL_keyOf_X4_keyOf rfl rfl rfl pv_X4_keyOf ⟨(Nat.le_of_ble_eq_true rfl), (Nat.le_of_ble_eq_true rfl)⟩) dL_keyOf_4 rfl rfl rfl rfl rfl (Nat.le_of_ble_eq_true rfl) ⟨(Nat.le_of_ble_eq_true rfl), (Nat.le_of_ble_eq_true rfl)⟩ [0, 1, 2, 3, 4, 5, 6, 7, 8, 9] [10] [1, 2, 3, 4, 5, 6, 7, 8, 9, 10, 0] rfl rfl rfl rfl (by decide) rfl rfl (h_catchK C Z [] ⟨0, 9, 12, 21⟩ [] htab (fun z hz => nomatch hz) (by decide) (by decide) (List.mem_of_getElem? (i := 1) rfl) xin_IOE (hpc := 12) rfl (fun q9 => ?_))
      refine h_astore_n (pc := 12) (lv' := [(3, .ref q9), (0, .ref (ad 0)), (1, .int a1), (2, .ref (ad 17))]) C dL_keyOf_12 rfl (by decide) rfl ?_
      refine h_iconst (pc := 13) C dL_keyOf_13 jc_1 ?_
      exact h_iret C hr dL_keyOf_14
    · replace hf := jif_f hk3 hf
      exact nomatch hf
theorem ps_L_keyOf : yL_keyOf.cls ≠ "java/lang/invoke/MethodHandle" ∧ yL_keyOf.cls ≠ "java/lang/invoke/VarHandle" ∧ (parseMethodDescriptor yL_keyOf.desc).map (fun d => d.parameters.length) = some 3 := by decide +kernel
abbrev rmL_sideOf : Room := { frames := 8, cells := 1, slots := 6, locals := 133 }
set_option maxRecDepth 100000 in
set_option maxHeartbeats 4000000 in
theorem c_L_sideOf {l : Launch} (hX0 : l.stackTraces = false) (D : va_G) (cT : Nat → ClassId) (ad : Nat → Nat) (n : Nat) (areas : Nat → Int32) (keys : Nat → Int32) (there : Nat → Int32) (order : Nat → Int32) (added : Int32) (size : Int32) (loads : Nat → Int32) (widths : Nat → Int32) (height : Int32) (ranks : Nat → Int32) (a1 : Int32) (a2 : Int32) (out : Nat → Int64) (r : Int32)  (out' : Nat → Int64) (hf : f_L_sideOf n areas there a1 a2 out = some (r, out')) : yM l yL_sideOf wsL_sideOf rmL_sideOf D (ty4 cT) [.ref (ad 0), .int a1, .int a2, .ref (ad 17)] (wH cT ad areas keys there order added size loads widths height ranks out) (some (.int r)) (wH cT ad areas keys there order added size loads widths height ranks out') := by
  refine yM_of (cc := cL_sideOf) (maxL := 5) (ret := (some .int)) (hh := [(0, 10, 13, 13), (0, 10, 17, 21)]) (own := RL) (lv := [(0, .ref (ad 0)), (1, .int a1), (2, .int a2), (3, .ref (ad 17))]) (by decide) rfl (Nat.le_of_ble_eq_true rfl) rfl rfl ?_
  intro p e s m args below meth c A C Z htab hr
  unfold f_L_sideOf at hf
  refine h_aload_n (pc := 0) C dL_sideOf_0 rfl 3 rfl ?_
  refine h_iconst (pc := 1) C dL_sideOf_1 jc_0 ?_
  refine h_aload_n (pc := 2) C dL_sideOf_2 rfl 0 rfl ?_
  refine h_iload_n (pc := 3) C dL_sideOf_3 rfl 1 rfl ?_
  refine h_iload_n (pc := 4) C dL_sideOf_4 rfl 2 rfl ?_
  obtain ⟨v1, hc, hf⟩ := jbd_s hf
  by_cases hk : v1.1 = 0
  · replace hf := jif_t hk hf
    refine h_callV (pc := 5) (q0 := 0) (As := [.int a1, .int a2]) (rest := .int 0 :: .ref (ad 17) :: []) (ws' := (wH cT ad areas keys there order added size loads widths height ranks out)) (st2 := .int v1.2 :: .int 0 :: .ref (ad 17) :: []) C (c_X4_sideOf l D cT ad n areas keys there order added size loads widths height ranks a1 a2 v1.2 v1.1 hk hc) (cwV 2 C.1.2.2.2.2 gL_sideOf_X4_sideOf rfl rfl rfl pv_X4_sideOf ⟨(Nat.le_of_ble_eq_true rfl), (Nat.le_of_ble_eq_true rfl)⟩) dL_sideOf_5 rfl rfl rfl rfl rfl (Nat.le_of_ble_eq_true rfl) ⟨rfl, rfl⟩ ⟨(Nat.le_of_ble_eq_true rfl), (Nat.le_of_ble_eq_true rfl)⟩ [0, 1, 2, 3, 4, 5, 6, 7, 8, 9] [10] [1, 2, 3, 4, 5, 6, 7, 8, 9, 10, 0] rfl rfl rfl rfl (by decide) rfl rfl rfl ?_
    clear hc
    refine h_i2l (pc := 8) C dL_sideOf_8 ?_
    obtain ⟨hi, w, hv, hf⟩ := jwrL_s hf
    refine h_last (pc := 9) (ws' := (wH cT ad areas keys there order added size loads widths height ranks w)) C 10 2 rfl rfl hi hv rfl dL_sideOf_9 ?_
    clear hi hv
    refine h_goto (pc := 10) (tgt := 21) C dL_sideOf_10 (by decide) ?_
    have g0 := (Prod.mk.inj (Option.some.inj hf)).1
    have g1 := (Prod.mk.inj (Option.some.inj hf)).2
    clear hf
    subst g0
    subst g1
    refine h_iconst (pc := 21) C dL_sideOf_21 jc_0 ?_
    refine h_widen (k := 1) (n := 6) (Nat.le_of_ble_eq_true rfl) (Nat.le_of_ble_eq_true rfl) ?_
    exact h_iret C hr dL_sideOf_22
  · replace hf := jif_f hk hf
    by_cases hk1 : v1.1 = 1
    · replace hf := jif_t hk1 hf
      have g0 := (Prod.mk.inj (Option.some.inj hf)).1
      have g1 := (Prod.mk.inj (Option.some.inj hf)).2
      clear hf
      subst g0
      subst g1
      refine h_xV (pc := 5) (q0 := 0) (As := [.int a1, .int a2]) (rest := .int 0 :: .ref (ad 17) :: []) (ws' := (wH cT ad areas keys there order added size loads widths height ranks out)) (E := xIAE) C Z (by have h := x_X4_sideOf hX0 D cT ad n areas keys there order added size loads widths height ranks a1 a2 v1.2 v1.1 hk hc; rw [hk1] at h; exact h) (cwV 2 C.1.2.2.2.2 gL_sideOf_X4_sideOf rfl rfl rfl pv_X4_sideOf ⟨(Nat.le_of_ble_eq_true rfl), (Nat.le_of_ble_eq_true rfl)⟩) dL_sideOf_5 rfl rfl rfl rfl rfl (Nat.le_of_ble_eq_true rfl) ⟨(Nat.le_of_ble_eq_true rfl), (Nat.le_of_ble_eq_true rfl)⟩ [0, 1, 2, 3, 4, 5, 6, 7, 8, 9] [10] [1, 2, 3, 4, 5, 6, 7, 8, 9, 10, 0] rfl rfl rfl rfl (by decide) rfl rfl (h_catchK C Z [] ⟨0, 10, 13, 13⟩ [⟨0, 10, 17, 21⟩] htab (fun z hz => nomatch hz) (by decide) (by decide) (List.mem_of_getElem? (i := 1) rfl) xin_IAE (hpc := 13) rfl (fun q9 => ?_))
      refine h_astore (pc := 13) (lv' := [(4, .ref q9), (0, .ref (ad 0)), (1, .int a1), (2, .int a2), (3, .ref (ad 17))]) C dL_sideOf_13 (by decide) rfl ?_
      refine h_iconst (pc := 15) C dL_sideOf_15 jc_1 ?_
      exact h_iret C hr dL_sideOf_16
    · replace hf := jif_f hk1 hf
      by_cases hk3 : v1.1 = 3
      · replace hf := jif_t hk3 hf
        have g0 := (Prod.mk.inj (Option.some.inj hf)).1
        have g1 := (Prod.mk.inj (Option.some.inj hf)).2
        clear hf
        subst g0
        subst g1
        refine h_xV (pc := 5) (q0 := 0) (As := [.int a1, .int a2]) (rest := .int 0 :: .ref (ad 17) :: []) (ws' := (wH cT ad areas keys there order added size loads widths height ranks out)) (E := xIOE) C Z (by have h := x_X4_sideOf hX0 D cT ad n areas keys there order added size loads widths height ranks a1 a2 v1.2 v1.1 hk hc; rw [hk3] at h; exact h) (cwV 2 C.1.2.2.2.2 gL_sideOf_X4_sideOf rfl rfl rfl pv_X4_sideOf ⟨(Nat.le_of_ble_eq_true rfl), (Nat.le_of_ble_eq_true rfl)⟩) dL_sideOf_5 rfl rfl rfl rfl rfl (Nat.le_of_ble_eq_true rfl) ⟨(Nat.le_of_ble_eq_true rfl), (Nat.le_of_ble_eq_true rfl)⟩ [0, 1, 2, 3, 4, 5, 6, 7, 8, 9] [10] [1, 2, 3, 4, 5, 6, 7, 8, 9, 10, 0] rfl rfl rfl rfl (by decide) rfl rfl (h_catchK C Z [⟨0, 10, 13, 13⟩] ⟨0, 10, 17, 21⟩ [] htab (fun z hz => by rw [List.mem_singleton.mp hz]; exact Or.inr ⟨by decide, xIAE, List.mem_of_getElem? (i := 1) rfl, Z.2.2.2.2.1.2⟩) (by decide) (by decide) (List.mem_of_getElem? (i := 2) rfl) xin_IOE (hpc := 17) rfl (fun q9 => ?_))
        refine h_astore (pc := 17) (lv' := [(4, .ref q9), (0, .ref (ad 0)), (1, .int a1), (2, .int a2), (3, .ref (ad 17))]) C dL_sideOf_17 (by decide) rfl ?_
        refine h_iconst (pc := 19) C dL_sideOf_19 jc_2 ?_
        exact h_iret C hr dL_sideOf_20
      · replace hf := jif_f hk3 hf
        exact nomatch hf
theorem ps_L_sideOf : yL_sideOf.cls ≠ "java/lang/invoke/MethodHandle" ∧ yL_sideOf.cls ≠ "java/lang/invoke/VarHandle" ∧ (parseMethodDescriptor yL_sideOf.desc).map (fun d => d.parameters.length) = some 4 := by decide +kernel
abbrev rmL_nodes : Room := { frames := 7, cells := 1, slots := 6, locals := 111 }
set_option maxRecDepth 100000 in
set_option maxHeartbeats 4000000 in
theorem c_L_nodes {l : Launch} (hX0 : l.stackTraces = false) (D : va_G) (cT : Nat → ClassId) (ad : Nat → Nat) (n : Nat) (areas : Nat → Int32) (keys : Nat → Int32) (there : Nat → Int32) (order : Nat → Int32) (added : Int32) (size : Int32) (loads : Nat → Int32) (widths : Nat → Int32) (height : Int32) (ranks : Nat → Int32) (a1 : Int32) (out : Nat → Int64) (r : Int32)  (out' : Nat → Int64) (hf : f_L_nodes n widths height a1 out = some (r, out')) : yM l yL_nodes wsL_nodes rmL_nodes D (ty4 cT) [.ref (ad 0), .int a1, .ref (ad 17)] (wH cT ad areas keys there order added size loads widths height ranks out) (some (.int r)) (wH cT ad areas keys there order added size loads widths height ranks out') := by
  refine yM_of (cc := cL_nodes) (maxL := 4) (ret := (some .int)) (hh := [(0, 9, 12, 21)]) (own := RL) (lv := [(0, .ref (ad 0)), (1, .int a1), (2, .ref (ad 17))]) (by decide) rfl (Nat.le_of_ble_eq_true rfl) rfl rfl ?_
  intro p e s m args below meth c A C Z htab hr
  unfold f_L_nodes at hf
  refine h_aload_n (pc := 0) C dL_nodes_0 rfl 2 rfl ?_
  refine h_iconst (pc := 1) C dL_nodes_1 jc_0 ?_
  refine h_aload_n (pc := 2) C dL_nodes_2 rfl 0 rfl ?_
  refine h_iload_n (pc := 3) C dL_nodes_3 rfl 1 rfl ?_
  obtain ⟨v1, hc, hf⟩ := jbd_s hf
  by_cases hk : v1.1 = 0
  · replace hf := jif_t hk hf
    refine h_callV (pc := 4) (q0 := 0) (As := [.int a1]) (rest := .int 0 :: .ref (ad 17) :: []) (ws' := (wH cT ad areas keys there order added size loads widths height ranks out)) (st2 := .int v1.2 :: .int 0 :: .ref (ad 17) :: []) C (c_X4_nodes l D cT ad n areas keys there order added size loads widths height ranks a1 v1.2 v1.1 hk hc) (cwV 1 C.1.2.2.2.2 gL_nodes_X4_nodes rfl rfl rfl pv_X4_nodes ⟨(Nat.le_of_ble_eq_true rfl), (Nat.le_of_ble_eq_true rfl)⟩) dL_nodes_4 rfl rfl rfl rfl rfl (Nat.le_of_ble_eq_true rfl) ⟨rfl, rfl⟩ ⟨(Nat.le_of_ble_eq_true rfl), (Nat.le_of_ble_eq_true rfl)⟩ [0, 1, 2, 3, 4, 5, 6, 7, 8, 9] [10] [1, 2, 3, 4, 5, 6, 7, 8, 9, 10, 0] rfl rfl rfl rfl (by decide) rfl rfl rfl ?_
    clear hc
    refine h_i2l (pc := 7) C dL_nodes_7 ?_
    obtain ⟨hi, w, hv, hf⟩ := jwrL_s hf
    refine h_last (pc := 8) (ws' := (wH cT ad areas keys there order added size loads widths height ranks w)) C 10 2 rfl rfl hi hv rfl dL_nodes_8 ?_
    clear hi hv
    refine h_goto (pc := 9) (tgt := 15) C dL_nodes_9 (by decide) ?_
    have g0 := (Prod.mk.inj (Option.some.inj hf)).1
    have g1 := (Prod.mk.inj (Option.some.inj hf)).2
    clear hf
    subst g0
    subst g1
    refine h_iconst (pc := 15) C dL_nodes_15 jc_0 ?_
    refine h_widen (k := 1) (n := 6) (Nat.le_of_ble_eq_true rfl) (Nat.le_of_ble_eq_true rfl) ?_
    exact h_iret C hr dL_nodes_16
  · replace hf := jif_f hk hf
    by_cases hk3 : v1.1 = 3
    · replace hf := jif_t hk3 hf
      have g0 := (Prod.mk.inj (Option.some.inj hf)).1
      have g1 := (Prod.mk.inj (Option.some.inj hf)).2
      clear hf
      subst g0
      subst g1
      refine h_xV (pc := 4) (q0 := 0) (As := [.int a1]) (rest := .int 0 :: .ref (ad 17) :: []) (ws' := (wH cT ad areas keys there order added size loads widths height ranks out)) (E := xIOE) C Z (by have h := x_X4_nodes hX0 D cT ad n areas keys there order added size loads widths height ranks a1 v1.2 v1.1 hk hc; rw [hk3] at h; exact h) (cwV 1 C.1.2.2.2.2 gL_nodes_X4_nodes rfl rfl rfl pv_X4_nodes ⟨(Nat.le_of_ble_eq_true rfl), (Nat.le_of_ble_eq_true rfl)⟩) dL_nodes_4 rfl rfl rfl rfl rfl (Nat.le_of_ble_eq_true rfl) ⟨(Nat.le_of_ble_eq_true rfl), (Nat.le_of_ble_eq_true rfl)⟩ [0, 1, 2, 3, 4, 5, 6, 7, 8, 9] [10] [1, 2, 3, 4, 5, 6, 7, 8, 9, 10, 0] rfl rfl rfl rfl (by decide) rfl rfl (h_catchK C Z [] ⟨0, 9, 12, 21⟩ [] htab (fun z hz => nomatch hz) (by decide) (by decide) (List.mem_of_getElem? (i := 1) rfl) xin_IOE (hpc := 12) rfl (fun q9 => ?_))
      refine h_astore_n (pc := 12) (lv' := [(3, .ref q9), (0, .ref (ad 0)), (1, .int a1), (2, .ref (ad 17))]) C dL_nodes_12 rfl (by decide) rfl ?_
      refine h_iconst (pc := 13) C dL_nodes_13 jc_1 ?_
      exact h_iret C hr dL_nodes_14
    · replace hf := jif_f hk3 hf
      exact nomatch hf
theorem ps_L_nodes : yL_nodes.cls ≠ "java/lang/invoke/MethodHandle" ∧ yL_nodes.cls ≠ "java/lang/invoke/VarHandle" ∧ (parseMethodDescriptor yL_nodes.desc).map (fun d => d.parameters.length) = some 3 := by decide +kernel
abbrev rmL_entries : Room := { frames := 8, cells := 1, slots := 6, locals := 134 }
set_option maxRecDepth 100000 in
set_option maxHeartbeats 4000000 in
theorem c_L_entries {l : Launch} (hX0 : l.stackTraces = false) (D : va_G) (cT : Nat → ClassId) (ad : Nat → Nat) (n : Nat) (areas : Nat → Int32) (keys : Nat → Int32) (there : Nat → Int32) (order : Nat → Int32) (added : Int32) (size : Int32) (loads : Nat → Int32) (widths : Nat → Int32) (height : Int32) (ranks : Nat → Int32) (a1 : Int32) (a2 : Int32) (out : Nat → Int64) (r : Int32)  (out' : Nat → Int64) (hf : f_L_entries n loads widths height a1 a2 out = some (r, out')) : yM l yL_entries wsL_entries rmL_entries D (ty4 cT) [.ref (ad 0), .int a1, .int a2, .ref (ad 17)] (wH cT ad areas keys there order added size loads widths height ranks out) (some (.int r)) (wH cT ad areas keys there order added size loads widths height ranks out') := by
  refine yM_of (cc := cL_entries) (maxL := 5) (ret := (some .int)) (hh := [(0, 10, 13, 21)]) (own := RL) (lv := [(0, .ref (ad 0)), (1, .int a1), (2, .int a2), (3, .ref (ad 17))]) (by decide) rfl (Nat.le_of_ble_eq_true rfl) rfl rfl ?_
  intro p e s m args below meth c A C Z htab hr
  unfold f_L_entries at hf
  refine h_aload_n (pc := 0) C dL_entries_0 rfl 3 rfl ?_
  refine h_iconst (pc := 1) C dL_entries_1 jc_0 ?_
  refine h_aload_n (pc := 2) C dL_entries_2 rfl 0 rfl ?_
  refine h_iload_n (pc := 3) C dL_entries_3 rfl 1 rfl ?_
  refine h_iload_n (pc := 4) C dL_entries_4 rfl 2 rfl ?_
  obtain ⟨v1, hc, hf⟩ := jbd_s hf
  by_cases hk : v1.1 = 0
  · replace hf := jif_t hk hf
    refine h_callV (pc := 5) (q0 := 0) (As := [.int a1, .int a2]) (rest := .int 0 :: .ref (ad 17) :: []) (ws' := (wH cT ad areas keys there order added size loads widths height ranks out)) (st2 := .int v1.2 :: .int 0 :: .ref (ad 17) :: []) C (c_X4_entries l D cT ad n areas keys there order added size loads widths height ranks a1 a2 v1.2 v1.1 hk hc) (cwV 2 C.1.2.2.2.2 gL_entries_X4_entries rfl rfl rfl pv_X4_entries ⟨(Nat.le_of_ble_eq_true rfl), (Nat.le_of_ble_eq_true rfl)⟩) dL_entries_5 rfl rfl rfl rfl rfl (Nat.le_of_ble_eq_true rfl) ⟨rfl, rfl⟩ ⟨(Nat.le_of_ble_eq_true rfl), (Nat.le_of_ble_eq_true rfl)⟩ [0, 1, 2, 3, 4, 5, 6, 7, 8, 9] [10] [1, 2, 3, 4, 5, 6, 7, 8, 9, 10, 0] rfl rfl rfl rfl (by decide) rfl rfl rfl ?_
    clear hc
    refine h_i2l (pc := 8) C dL_entries_8 ?_
    obtain ⟨hi, w, hv, hf⟩ := jwrL_s hf
    refine h_last (pc := 9) (ws' := (wH cT ad areas keys there order added size loads widths height ranks w)) C 10 2 rfl rfl hi hv rfl dL_entries_9 ?_
    clear hi hv
    refine h_goto (pc := 10) (tgt := 17) C dL_entries_10 (by decide) ?_
    have g0 := (Prod.mk.inj (Option.some.inj hf)).1
    have g1 := (Prod.mk.inj (Option.some.inj hf)).2
    clear hf
    subst g0
    subst g1
    refine h_iconst (pc := 17) C dL_entries_17 jc_0 ?_
    refine h_widen (k := 1) (n := 6) (Nat.le_of_ble_eq_true rfl) (Nat.le_of_ble_eq_true rfl) ?_
    exact h_iret C hr dL_entries_18
  · replace hf := jif_f hk hf
    by_cases hk3 : v1.1 = 3
    · replace hf := jif_t hk3 hf
      have g0 := (Prod.mk.inj (Option.some.inj hf)).1
      have g1 := (Prod.mk.inj (Option.some.inj hf)).2
      clear hf
      subst g0
      subst g1
      refine h_xV (pc := 5) (q0 := 0) (As := [.int a1, .int a2]) (rest := .int 0 :: .ref (ad 17) :: []) (ws' := (wH cT ad areas keys there order added size loads widths height ranks out)) (E := xIOE) C Z (by have h := x_X4_entries hX0 D cT ad n areas keys there order added size loads widths height ranks a1 a2 v1.2 v1.1 hk hc; rw [hk3] at h; exact h) (cwV 2 C.1.2.2.2.2 gL_entries_X4_entries rfl rfl rfl pv_X4_entries ⟨(Nat.le_of_ble_eq_true rfl), (Nat.le_of_ble_eq_true rfl)⟩) dL_entries_5 rfl rfl rfl rfl rfl (Nat.le_of_ble_eq_true rfl) ⟨(Nat.le_of_ble_eq_true rfl), (Nat.le_of_ble_eq_true rfl)⟩ [0, 1, 2, 3, 4, 5, 6, 7, 8, 9] [10] [1, 2, 3, 4, 5, 6, 7, 8, 9, 10, 0] rfl rfl rfl rfl (by decide) rfl rfl (h_catchK C Z [] ⟨0, 10, 13, 21⟩ [] htab (fun z hz => nomatch hz) (by decide) (by decide) (List.mem_of_getElem? (i := 1) rfl) xin_IOE (hpc := 13) rfl (fun q9 => ?_))
      refine h_astore (pc := 13) (lv' := [(4, .ref q9), (0, .ref (ad 0)), (1, .int a1), (2, .int a2), (3, .ref (ad 17))]) C dL_entries_13 (by decide) rfl ?_
      refine h_iconst (pc := 15) C dL_entries_15 jc_1 ?_
      exact h_iret C hr dL_entries_16
    · replace hf := jif_f hk3 hf
      exact nomatch hf
theorem ps_L_entries : yL_entries.cls ≠ "java/lang/invoke/MethodHandle" ∧ yL_entries.cls ≠ "java/lang/invoke/VarHandle" ∧ (parseMethodDescriptor yL_entries.desc).map (fun d => d.parameters.length) = some 4 := by decide +kernel
abbrev rmL_cover : Room := { frames := 8, cells := 1, slots := 6, locals := 142 }
set_option maxRecDepth 100000 in
set_option maxHeartbeats 4000000 in
theorem c_L_cover {l : Launch} (hX0 : l.stackTraces = false) (D : va_G) (cT : Nat → ClassId) (ad : Nat → Nat) (n : Nat) (areas : Nat → Int32) (keys : Nat → Int32) (there : Nat → Int32) (order : Nat → Int32) (added : Int32) (size : Int32) (loads : Nat → Int32) (widths : Nat → Int32) (height : Int32) (ranks : Nat → Int32) (a1 : Int32) (a2 : Int32) (a3 : Int32) (out : Nat → Int64) (r : Int32)  (out' : Nat → Int64) (hf : f_L_cover n areas order size loads widths height a1 a2 a3 out = some (r, out')) : yM l yL_cover wsL_cover rmL_cover D (ty4 cT) [.ref (ad 0), .int a1, .int a2, .int a3, .ref (ad 17)] (wH cT ad areas keys there order added size loads widths height ranks out) (some (.int r)) (wH cT ad areas keys there order added size loads widths height ranks out') := by
  refine yM_of (cc := cL_cover) (maxL := 6) (ret := (some .int)) (hh := [(0, 12, 15, 13), (0, 12, 19, 21)]) (own := RL) (lv := [(0, .ref (ad 0)), (1, .int a1), (2, .int a2), (3, .int a3), (4, .ref (ad 17))]) (by decide) rfl (Nat.le_of_ble_eq_true rfl) rfl rfl ?_
  intro p e s m args below meth c A C Z htab hr
  unfold f_L_cover at hf
  refine h_aload (pc := 0) C dL_cover_0 4 rfl ?_
  refine h_iconst (pc := 2) C dL_cover_2 jc_0 ?_
  refine h_aload_n (pc := 3) C dL_cover_3 rfl 0 rfl ?_
  refine h_iload_n (pc := 4) C dL_cover_4 rfl 1 rfl ?_
  refine h_iload_n (pc := 5) C dL_cover_5 rfl 2 rfl ?_
  refine h_iload_n (pc := 6) C dL_cover_6 rfl 3 rfl ?_
  obtain ⟨v1, hc, hf⟩ := jbd_s hf
  by_cases hk : v1.1 = 0
  · replace hf := jif_t hk hf
    refine h_callV (pc := 7) (q0 := 0) (As := [.int a1, .int a2, .int a3]) (rest := .int 0 :: .ref (ad 17) :: []) (ws' := (wH cT ad areas keys there order added size loads widths height ranks out)) (st2 := .int v1.2 :: .int 0 :: .ref (ad 17) :: []) C (c_X4_cover l D cT ad n areas keys there order added size loads widths height ranks a1 a2 a3 v1.2 v1.1 hk hc) (cwV 3 C.1.2.2.2.2 gL_cover_X4_cover rfl rfl rfl pv_X4_cover ⟨(Nat.le_of_ble_eq_true rfl), (Nat.le_of_ble_eq_true rfl)⟩) dL_cover_7 rfl rfl rfl rfl rfl (Nat.le_of_ble_eq_true rfl) ⟨rfl, rfl⟩ ⟨(Nat.le_of_ble_eq_true rfl), (Nat.le_of_ble_eq_true rfl)⟩ [0, 1, 2, 3, 4, 5, 6, 7, 8, 9] [10] [1, 2, 3, 4, 5, 6, 7, 8, 9, 10, 0] rfl rfl rfl rfl (by decide) rfl rfl rfl ?_
    clear hc
    refine h_i2l (pc := 10) C dL_cover_10 ?_
    obtain ⟨hi, w, hv, hf⟩ := jwrL_s hf
    refine h_last (pc := 11) (ws' := (wH cT ad areas keys there order added size loads widths height ranks w)) C 10 2 rfl rfl hi hv rfl dL_cover_11 ?_
    clear hi hv
    refine h_goto (pc := 12) (tgt := 23) C dL_cover_12 (by decide) ?_
    have g0 := (Prod.mk.inj (Option.some.inj hf)).1
    have g1 := (Prod.mk.inj (Option.some.inj hf)).2
    clear hf
    subst g0
    subst g1
    refine h_iconst (pc := 23) C dL_cover_23 jc_0 ?_
    refine h_widen (k := 1) (n := 6) (Nat.le_of_ble_eq_true rfl) (Nat.le_of_ble_eq_true rfl) ?_
    exact h_iret C hr dL_cover_24
  · replace hf := jif_f hk hf
    by_cases hk1 : v1.1 = 1
    · replace hf := jif_t hk1 hf
      have g0 := (Prod.mk.inj (Option.some.inj hf)).1
      have g1 := (Prod.mk.inj (Option.some.inj hf)).2
      clear hf
      subst g0
      subst g1
      refine h_xV (pc := 7) (q0 := 0) (As := [.int a1, .int a2, .int a3]) (rest := .int 0 :: .ref (ad 17) :: []) (ws' := (wH cT ad areas keys there order added size loads widths height ranks out)) (E := xIAE) C Z (by have h := x_X4_cover hX0 D cT ad n areas keys there order added size loads widths height ranks a1 a2 a3 v1.2 v1.1 hk hc; rw [hk1] at h; exact h) (cwV 3 C.1.2.2.2.2 gL_cover_X4_cover rfl rfl rfl pv_X4_cover ⟨(Nat.le_of_ble_eq_true rfl), (Nat.le_of_ble_eq_true rfl)⟩) dL_cover_7 rfl rfl rfl rfl rfl (Nat.le_of_ble_eq_true rfl) ⟨(Nat.le_of_ble_eq_true rfl), (Nat.le_of_ble_eq_true rfl)⟩ [0, 1, 2, 3, 4, 5, 6, 7, 8, 9] [10] [1, 2, 3, 4, 5, 6, 7, 8, 9, 10, 0] rfl rfl rfl rfl (by decide) rfl rfl (h_catchK C Z [] ⟨0, 12, 15, 13⟩ [⟨0, 12, 19, 21⟩] htab (fun z hz => nomatch hz) (by decide) (by decide) (List.mem_of_getElem? (i := 1) rfl) xin_IAE (hpc := 15) rfl (fun q9 => ?_))
      refine h_astore (pc := 15) (lv' := [(5, .ref q9), (0, .ref (ad 0)), (1, .int a1), (2, .int a2), (3, .int a3), (4, .ref (ad 17))]) C dL_cover_15 (by decide) rfl ?_
      refine h_iconst (pc := 17) C dL_cover_17 jc_1 ?_
      exact h_iret C hr dL_cover_18
    · replace hf := jif_f hk1 hf
      by_cases hk3 : v1.1 = 3
      · replace hf := jif_t hk3 hf
        have g0 := (Prod.mk.inj (Option.some.inj hf)).1
        have g1 := (Prod.mk.inj (Option.some.inj hf)).2
        clear hf
        subst g0
        subst g1
        refine h_xV (pc := 7) (q0 := 0) (As := [.int a1, .int a2, .int a3]) (rest := .int 0 :: .ref (ad 17) :: []) (ws' := (wH cT ad areas keys there order added size loads widths height ranks out)) (E := xIOE) C Z (by have h := x_X4_cover hX0 D cT ad n areas keys there order added size loads widths height ranks a1 a2 a3 v1.2 v1.1 hk hc; rw [hk3] at h; exact h) (cwV 3 C.1.2.2.2.2 gL_cover_X4_cover rfl rfl rfl pv_X4_cover ⟨(Nat.le_of_ble_eq_true rfl), (Nat.le_of_ble_eq_true rfl)⟩) dL_cover_7 rfl rfl rfl rfl rfl (Nat.le_of_ble_eq_true rfl) ⟨(Nat.le_of_ble_eq_true rfl), (Nat.le_of_ble_eq_true rfl)⟩ [0, 1, 2, 3, 4, 5, 6, 7, 8, 9] [10] [1, 2, 3, 4, 5, 6, 7, 8, 9, 10, 0] rfl rfl rfl rfl (by decide) rfl rfl (h_catchK C Z [⟨0, 12, 15, 13⟩] ⟨0, 12, 19, 21⟩ [] htab (fun z hz => by rw [List.mem_singleton.mp hz]; exact Or.inr ⟨by decide, xIAE, List.mem_of_getElem? (i := 1) rfl, Z.2.2.2.2.1.2⟩) (by decide) (by decide) (List.mem_of_getElem? (i := 2) rfl) xin_IOE (hpc := 19) rfl (fun q9 => ?_))
        refine h_astore (pc := 19) (lv' := [(5, .ref q9), (0, .ref (ad 0)), (1, .int a1), (2, .int a2), (3, .int a3), (4, .ref (ad 17))]) C dL_cover_19 (by decide) rfl ?_
        refine h_iconst (pc := 21) C dL_cover_21 jc_2 ?_
        exact h_iret C hr dL_cover_22
      · replace hf := jif_f hk3 hf
        exact nomatch hf
theorem ps_L_cover : yL_cover.cls ≠ "java/lang/invoke/MethodHandle" ∧ yL_cover.cls ≠ "java/lang/invoke/VarHandle" ∧ (parseMethodDescriptor yL_cover.desc).map (fun d => d.parameters.length) = some 5 := by decide +kernel
abbrev rmL_leafOf : Room := { frames := 8, cells := 1, slots := 6, locals := 132 }
set_option maxRecDepth 100000 in
set_option maxHeartbeats 4000000 in
theorem c_L_leafOf {l : Launch} (hX0 : l.stackTraces = false) (D : va_G) (cT : Nat → ClassId) (ad : Nat → Nat) (n : Nat) (areas : Nat → Int32) (keys : Nat → Int32) (there : Nat → Int32) (order : Nat → Int32) (added : Int32) (size : Int32) (loads : Nat → Int32) (widths : Nat → Int32) (height : Int32) (ranks : Nat → Int32) (a1 : Int32) (out : Nat → Int64) (r : Int32)  (out' : Nat → Int64) (hf : f_L_leafOf n there order size loads widths height a1 out = some (r, out')) : yM l yL_leafOf wsL_leafOf rmL_leafOf D (ty4 cT) [.ref (ad 0), .int a1, .ref (ad 17)] (wH cT ad areas keys there order added size loads widths height ranks out) (some (.int r)) (wH cT ad areas keys there order added size loads widths height ranks out') := by
  refine yM_of (cc := cL_leafOf) (maxL := 4) (ret := (some .int)) (hh := [(0, 9, 12, 21)]) (own := RL) (lv := [(0, .ref (ad 0)), (1, .int a1), (2, .ref (ad 17))]) (by decide) rfl (Nat.le_of_ble_eq_true rfl) rfl rfl ?_
  intro p e s m args below meth c A C Z htab hr
  unfold f_L_leafOf at hf
  refine h_aload_n (pc := 0) C dL_leafOf_0 rfl 2 rfl ?_
  refine h_iconst (pc := 1) C dL_leafOf_1 jc_0 ?_
  refine h_aload_n (pc := 2) C dL_leafOf_2 rfl 0 rfl ?_
  refine h_iload_n (pc := 3) C dL_leafOf_3 rfl 1 rfl ?_
  obtain ⟨v1, hc, hf⟩ := jbd_s hf
  by_cases hk : v1.1 = 0
  · replace hf := jif_t hk hf
    refine h_callV (pc := 4) (q0 := 0) (As := [.int a1]) (rest := .int 0 :: .ref (ad 17) :: []) (ws' := (wH cT ad areas keys there order added size loads widths height ranks out)) (st2 := .int v1.2 :: .int 0 :: .ref (ad 17) :: []) C (c_X4_leafOf l D cT ad n areas keys there order added size loads widths height ranks a1 v1.2 v1.1 hk hc) (cwV 1 C.1.2.2.2.2 gL_leafOf_X4_leafOf rfl rfl rfl pv_X4_leafOf ⟨(Nat.le_of_ble_eq_true rfl), (Nat.le_of_ble_eq_true rfl)⟩) dL_leafOf_4 rfl rfl rfl rfl rfl (Nat.le_of_ble_eq_true rfl) ⟨rfl, rfl⟩ ⟨(Nat.le_of_ble_eq_true rfl), (Nat.le_of_ble_eq_true rfl)⟩ [0, 1, 2, 3, 4, 5, 6, 7, 8, 9] [10] [1, 2, 3, 4, 5, 6, 7, 8, 9, 10, 0] rfl rfl rfl rfl (by decide) rfl rfl rfl ?_
    clear hc
    refine h_i2l (pc := 7) C dL_leafOf_7 ?_
    obtain ⟨hi, w, hv, hf⟩ := jwrL_s hf
    refine h_last (pc := 8) (ws' := (wH cT ad areas keys there order added size loads widths height ranks w)) C 10 2 rfl rfl hi hv rfl dL_leafOf_8 ?_
    clear hi hv
    refine h_goto (pc := 9) (tgt := 15) C dL_leafOf_9 (by decide) ?_
    have g0 := (Prod.mk.inj (Option.some.inj hf)).1
    have g1 := (Prod.mk.inj (Option.some.inj hf)).2
    clear hf
    subst g0
    subst g1
    refine h_iconst (pc := 15) C dL_leafOf_15 jc_0 ?_
    refine h_widen (k := 1) (n := 6) (Nat.le_of_ble_eq_true rfl) (Nat.le_of_ble_eq_true rfl) ?_
    exact h_iret C hr dL_leafOf_16
  · replace hf := jif_f hk hf
    by_cases hk3 : v1.1 = 3
    · replace hf := jif_t hk3 hf
      have g0 := (Prod.mk.inj (Option.some.inj hf)).1
      have g1 := (Prod.mk.inj (Option.some.inj hf)).2
      clear hf
      subst g0
      subst g1
      refine h_xV (pc := 4) (q0 := 0) (As := [.int a1]) (rest := .int 0 :: .ref (ad 17) :: []) (ws' := (wH cT ad areas keys there order added size loads widths height ranks out)) (E := xIOE) C Z (by have h := x_X4_leafOf hX0 D cT ad n areas keys there order added size loads widths height ranks a1 v1.2 v1.1 hk hc; rw [hk3] at h; exact h) (cwV 1 C.1.2.2.2.2 gL_leafOf_X4_leafOf rfl rfl rfl pv_X4_leafOf ⟨(Nat.le_of_ble_eq_true rfl), (Nat.le_of_ble_eq_true rfl)⟩) dL_leafOf_4 rfl rfl rfl rfl rfl (Nat.le_of_ble_eq_true rfl) ⟨(Nat.le_of_ble_eq_true rfl), (Nat.le_of_ble_eq_true rfl)⟩ [0, 1, 2, 3, 4, 5, 6, 7, 8, 9] [10] [1, 2, 3, 4, 5, 6, 7, 8, 9, 10, 0] rfl rfl rfl rfl (by decide) rfl rfl (h_catchK C Z [] ⟨0, 9, 12, 21⟩ [] htab (fun z hz => nomatch hz) (by decide) (by decide) (List.mem_of_getElem? (i := 1) rfl) xin_IOE (hpc := 12) rfl (fun q9 => ?_))
      refine h_astore_n (pc := 12) (lv' := [(3, .ref q9), (0, .ref (ad 0)), (1, .int a1), (2, .ref (ad 17))]) C dL_leafOf_12 rfl (by decide) rfl ?_
      refine h_iconst (pc := 13) C dL_leafOf_13 jc_1 ?_
      exact h_iret C hr dL_leafOf_14
    · replace hf := jif_f hk3 hf
      exact nomatch hf
theorem ps_L_leafOf : yL_leafOf.cls ≠ "java/lang/invoke/MethodHandle" ∧ yL_leafOf.cls ≠ "java/lang/invoke/VarHandle" ∧ (parseMethodDescriptor yL_leafOf.desc).map (fun d => d.parameters.length) = some 3 := by decide +kernel
abbrev rmL_boxAt : Room := { frames := 7, cells := 1, slots := 6, locals := 111 }
set_option maxRecDepth 100000 in
set_option maxHeartbeats 4000000 in
theorem c_L_boxAt {l : Launch} (hX0 : l.stackTraces = false) (D : va_G) (cT : Nat → ClassId) (ad : Nat → Nat) (n : Nat) (areas : Nat → Int32) (keys : Nat → Int32) (there : Nat → Int32) (order : Nat → Int32) (added : Int32) (size : Int32) (loads : Nat → Int32) (widths : Nat → Int32) (height : Int32) (ranks : Nat → Int32) (a1 : Int32) (out : Nat → Int64) (r : Int32)  (out' : Nat → Int64) (hf : f_L_boxAt n order size a1 out = some (r, out')) : yM l yL_boxAt wsL_boxAt rmL_boxAt D (ty4 cT) [.ref (ad 0), .int a1, .ref (ad 17)] (wH cT ad areas keys there order added size loads widths height ranks out) (some (.int r)) (wH cT ad areas keys there order added size loads widths height ranks out') := by
  refine yM_of (cc := cL_boxAt) (maxL := 4) (ret := (some .int)) (hh := [(0, 9, 12, 21)]) (own := RL) (lv := [(0, .ref (ad 0)), (1, .int a1), (2, .ref (ad 17))]) (by decide) rfl (Nat.le_of_ble_eq_true rfl) rfl rfl ?_
  intro p e s m args below meth c A C Z htab hr
  unfold f_L_boxAt at hf
  refine h_aload_n (pc := 0) C dL_boxAt_0 rfl 2 rfl ?_
  refine h_iconst (pc := 1) C dL_boxAt_1 jc_0 ?_
  refine h_aload_n (pc := 2) C dL_boxAt_2 rfl 0 rfl ?_
  refine h_iload_n (pc := 3) C dL_boxAt_3 rfl 1 rfl ?_
  obtain ⟨v1, hc, hf⟩ := jbd_s hf
  by_cases hk : v1.1 = 0
  · replace hf := jif_t hk hf
    refine h_callV (pc := 4) (q0 := 0) (As := [.int a1]) (rest := .int 0 :: .ref (ad 17) :: []) (ws' := (wH cT ad areas keys there order added size loads widths height ranks out)) (st2 := .int v1.2 :: .int 0 :: .ref (ad 17) :: []) C (c_X4_boxAt l D cT ad n areas keys there order added size loads widths height ranks a1 v1.2 v1.1 hk hc) (cwV 1 C.1.2.2.2.2 gL_boxAt_X4_boxAt rfl rfl rfl pv_X4_boxAt ⟨(Nat.le_of_ble_eq_true rfl), (Nat.le_of_ble_eq_true rfl)⟩) dL_boxAt_4 rfl rfl rfl rfl rfl (Nat.le_of_ble_eq_true rfl) ⟨rfl, rfl⟩ ⟨(Nat.le_of_ble_eq_true rfl), (Nat.le_of_ble_eq_true rfl)⟩ [0, 1, 2, 3, 4, 5, 6, 7, 8, 9] [10] [1, 2, 3, 4, 5, 6, 7, 8, 9, 10, 0] rfl rfl rfl rfl (by decide) rfl rfl rfl ?_
    clear hc
    refine h_i2l (pc := 7) C dL_boxAt_7 ?_
    obtain ⟨hi, w, hv, hf⟩ := jwrL_s hf
    refine h_last (pc := 8) (ws' := (wH cT ad areas keys there order added size loads widths height ranks w)) C 10 2 rfl rfl hi hv rfl dL_boxAt_8 ?_
    clear hi hv
    refine h_goto (pc := 9) (tgt := 15) C dL_boxAt_9 (by decide) ?_
    have g0 := (Prod.mk.inj (Option.some.inj hf)).1
    have g1 := (Prod.mk.inj (Option.some.inj hf)).2
    clear hf
    subst g0
    subst g1
    refine h_iconst (pc := 15) C dL_boxAt_15 jc_0 ?_
    refine h_widen (k := 1) (n := 6) (Nat.le_of_ble_eq_true rfl) (Nat.le_of_ble_eq_true rfl) ?_
    exact h_iret C hr dL_boxAt_16
  · replace hf := jif_f hk hf
    by_cases hk3 : v1.1 = 3
    · replace hf := jif_t hk3 hf
      have g0 := (Prod.mk.inj (Option.some.inj hf)).1
      have g1 := (Prod.mk.inj (Option.some.inj hf)).2
      clear hf
      subst g0
      subst g1
      refine h_xV (pc := 4) (q0 := 0) (As := [.int a1]) (rest := .int 0 :: .ref (ad 17) :: []) (ws' := (wH cT ad areas keys there order added size loads widths height ranks out)) (E := xIOE) C Z (by have h := x_X4_boxAt hX0 D cT ad n areas keys there order added size loads widths height ranks a1 v1.2 v1.1 hk hc; rw [hk3] at h; exact h) (cwV 1 C.1.2.2.2.2 gL_boxAt_X4_boxAt rfl rfl rfl pv_X4_boxAt ⟨(Nat.le_of_ble_eq_true rfl), (Nat.le_of_ble_eq_true rfl)⟩) dL_boxAt_4 rfl rfl rfl rfl rfl (Nat.le_of_ble_eq_true rfl) ⟨(Nat.le_of_ble_eq_true rfl), (Nat.le_of_ble_eq_true rfl)⟩ [0, 1, 2, 3, 4, 5, 6, 7, 8, 9] [10] [1, 2, 3, 4, 5, 6, 7, 8, 9, 10, 0] rfl rfl rfl rfl (by decide) rfl rfl (h_catchK C Z [] ⟨0, 9, 12, 21⟩ [] htab (fun z hz => nomatch hz) (by decide) (by decide) (List.mem_of_getElem? (i := 1) rfl) xin_IOE (hpc := 12) rfl (fun q9 => ?_))
      refine h_astore_n (pc := 12) (lv' := [(3, .ref q9), (0, .ref (ad 0)), (1, .int a1), (2, .ref (ad 17))]) C dL_boxAt_12 rfl (by decide) rfl ?_
      refine h_iconst (pc := 13) C dL_boxAt_13 jc_1 ?_
      exact h_iret C hr dL_boxAt_14
    · replace hf := jif_f hk3 hf
      exact nomatch hf
theorem ps_L_boxAt : yL_boxAt.cls ≠ "java/lang/invoke/MethodHandle" ∧ yL_boxAt.cls ≠ "java/lang/invoke/VarHandle" ∧ (parseMethodDescriptor yL_boxAt.desc).map (fun d => d.parameters.length) = some 3 := by decide +kernel
abbrev rmL_tightness : Room := { frames := 7, cells := 1, slots := 6, locals := 142 }
set_option maxRecDepth 100000 in
set_option maxHeartbeats 4000000 in
theorem c_L_tightness {l : Launch} (hX0 : l.stackTraces = false) (D : va_G) (cT : Nat → ClassId) (ad : Nat → Nat) (n : Nat) (areas : Nat → Int32) (keys : Nat → Int32) (there : Nat → Int32) (order : Nat → Int32) (added : Int32) (size : Int32) (loads : Nat → Int32) (widths : Nat → Int32) (height : Int32) (ranks : Nat → Int32)  (outD : Nat → UInt64) (r : Int32)  (outD' : Nat → UInt64) (hf : f_L_tightness n areas order size loads widths height outD = some (r, outD')) : yM l yL_tightness wsL_tightness rmL_tightness D (ty4 cT) [.ref (ad 0), .ref (ad 18)] (wHD cT ad areas keys there order added size loads widths height ranks outD) (some (.int r)) (wHD cT ad areas keys there order added size loads widths height ranks outD') := by
  refine yM_of (cc := cL_tightness) (maxL := 3) (ret := (some .int)) (hh := [(0, 8, 11, 15)]) (own := RL) (lv := [(0, .ref (ad 0)), (1, .ref (ad 18))]) (by decide) rfl (Nat.le_of_ble_eq_true rfl) rfl rfl ?_
  intro p e s m args below meth c A C Z htab hr
  unfold f_L_tightness at hf
  refine h_aload_n (pc := 0) C dL_tightness_0 rfl 1 rfl ?_
  refine h_iconst (pc := 1) C dL_tightness_1 jc_0 ?_
  refine h_aload_n (pc := 2) C dL_tightness_2 rfl 0 rfl ?_
  obtain ⟨v1, hc, hf⟩ := jbd_s hf
  by_cases hk : v1.1 = 0
  · replace hf := jif_t hk hf
    refine h_callV (pc := 3) (q0 := 0) (As := []) (rest := .int 0 :: .ref (ad 18) :: []) (ws' := (wHD cT ad areas keys there order added size loads widths height ranks outD)) (st2 := .float v1.2 :: .int 0 :: .ref (ad 18) :: []) C (c_X4_tightness l D cT ad n areas keys there order added size loads widths height ranks v1.2 v1.1 hk hc) (cwV 0 C.1.2.2.2.2 gL_tightness_X4_tightness rfl rfl rfl pv_X4_tightness ⟨(Nat.le_of_ble_eq_true rfl), (Nat.le_of_ble_eq_true rfl)⟩) dL_tightness_3 rfl rfl rfl rfl rfl (Nat.le_of_ble_eq_true rfl) ⟨rfl, rfl⟩ ⟨(Nat.le_of_ble_eq_true rfl), (Nat.le_of_ble_eq_true rfl)⟩ [0, 1, 2, 3, 4, 5, 6, 7, 8, 9] [10] [1, 2, 3, 4, 5, 6, 7, 8, 9, 10, 0] rfl rfl rfl rfl (by decide) rfl rfl rfl ?_
    clear hc
    obtain ⟨hi, hf⟩ := jf2d_s hf
    refine h_f2d (pc := 6) C hi dL_tightness_6 ?_
    clear hi
    obtain ⟨hi, w, hv, hf⟩ := jwrD_s hf
    refine h_dast (pc := 7) (ws' := (wHD cT ad areas keys there order added size loads widths height ranks w)) C 10 3 rfl rfl hi hv rfl dL_tightness_7 ?_
    clear hi hv
    refine h_goto (pc := 8) (tgt := 14) C dL_tightness_8 (by decide) ?_
    have g0 := (Prod.mk.inj (Option.some.inj hf)).1
    have g1 := (Prod.mk.inj (Option.some.inj hf)).2
    clear hf
    subst g0
    subst g1
    refine h_iconst (pc := 14) C dL_tightness_14 jc_0 ?_
    refine h_widen (k := 1) (n := 6) (Nat.le_of_ble_eq_true rfl) (Nat.le_of_ble_eq_true rfl) ?_
    exact h_iret C hr dL_tightness_15
  · replace hf := jif_f hk hf
    by_cases hk2 : v1.1 = 2
    · replace hf := jif_t hk2 hf
      have g0 := (Prod.mk.inj (Option.some.inj hf)).1
      have g1 := (Prod.mk.inj (Option.some.inj hf)).2
      clear hf
      subst g0
      subst g1
      refine h_xV (pc := 3) (q0 := 0) (As := []) (rest := .int 0 :: .ref (ad 18) :: []) (ws' := (wHD cT ad areas keys there order added size loads widths height ranks outD)) (E := xISE) C Z (by have h := x_X4_tightness hX0 D cT ad n areas keys there order added size loads widths height ranks v1.2 v1.1 hk hc; rw [hk2] at h; exact h) (cwV 0 C.1.2.2.2.2 gL_tightness_X4_tightness rfl rfl rfl pv_X4_tightness ⟨(Nat.le_of_ble_eq_true rfl), (Nat.le_of_ble_eq_true rfl)⟩) dL_tightness_3 rfl rfl rfl rfl rfl (Nat.le_of_ble_eq_true rfl) ⟨(Nat.le_of_ble_eq_true rfl), (Nat.le_of_ble_eq_true rfl)⟩ [0, 1, 2, 3, 4, 5, 6, 7, 8, 9] [10] [1, 2, 3, 4, 5, 6, 7, 8, 9, 10, 0] rfl rfl rfl rfl (by decide) rfl rfl (h_catchK C Z [] ⟨0, 8, 11, 15⟩ [] htab (fun z hz => nomatch hz) (by decide) (by decide) (List.mem_of_getElem? (i := 1) rfl) xin_ISE (hpc := 11) rfl (fun q9 => ?_))
      refine h_astore_n (pc := 11) (lv' := [(2, .ref q9), (0, .ref (ad 0)), (1, .ref (ad 18))]) C dL_tightness_11 rfl (by decide) rfl ?_
      refine h_iconst (pc := 12) C dL_tightness_12 jc_1 ?_
      exact h_iret C hr dL_tightness_13
    · replace hf := jif_f hk2 hf
      exact nomatch hf
theorem ps_L_tightness : yL_tightness.cls ≠ "java/lang/invoke/MethodHandle" ∧ yL_tightness.cls ≠ "java/lang/invoke/VarHandle" ∧ (parseMethodDescriptor yL_tightness.desc).map (fun d => d.parameters.length) = some 2 := by decide +kernel
abbrev rmL_count : Room := { frames := 8, cells := 1, slots := 6, locals := 140 }
set_option maxRecDepth 100000 in
set_option maxHeartbeats 4000000 in
theorem c_L_count {l : Launch} (hX0 : l.stackTraces = false) (D : va_G) (cT : Nat → ClassId) (ad : Nat → Nat) (n : Nat) (areas : Nat → Int32) (keys : Nat → Int32) (there : Nat → Int32) (order : Nat → Int32) (added : Int32) (size : Int32) (loads : Nat → Int32) (widths : Nat → Int32) (height : Int32) (ranks : Nat → Int32) (a1 : Int32) (a2 : Int32) (a3 : Int32) (a4 : Int32) (out : Nat → Int64) (r : Int32)  (out' : Nat → Int64) (hf : f_L_count n areas order size a1 a2 a3 a4 out = some (r, out')) : yM l yL_count wsL_count rmL_count D (ty4 cT) [.ref (ad 0), .int a1, .int a2, .int a3, .int a4, .ref (ad 17)] (wH cT ad areas keys there order added size loads widths height ranks out) (some (.int r)) (wH cT ad areas keys there order added size loads widths height ranks out') := by
  refine yM_of (cc := cL_count) (maxL := 7) (ret := (some .int)) (hh := [(0, 14, 17, 13)]) (own := RL) (lv := [(0, .ref (ad 0)), (1, .int a1), (2, .int a2), (3, .int a3), (4, .int a4), (5, .ref (ad 17))]) (by decide) rfl (Nat.le_of_ble_eq_true rfl) rfl rfl ?_
  intro p e s m args below meth c A C Z htab hr
  unfold f_L_count at hf
  refine h_aload (pc := 0) C dL_count_0 5 rfl ?_
  refine h_iconst (pc := 2) C dL_count_2 jc_0 ?_
  refine h_aload_n (pc := 3) C dL_count_3 rfl 0 rfl ?_
  refine h_iload_n (pc := 4) C dL_count_4 rfl 1 rfl ?_
  refine h_iload_n (pc := 5) C dL_count_5 rfl 2 rfl ?_
  refine h_iload_n (pc := 6) C dL_count_6 rfl 3 rfl ?_
  refine h_iload (pc := 7) C dL_count_7 4 rfl ?_
  obtain ⟨v1, hc, hf⟩ := jbd_s hf
  by_cases hk : v1.1 = 0
  · replace hf := jif_t hk hf
    refine h_callV (pc := 9) (q0 := 0) (As := [.int a1, .int a2, .int a3, .int a4]) (rest := .int 0 :: .ref (ad 17) :: []) (ws' := (wH cT ad areas keys there order added size loads widths height ranks out)) (st2 := .int v1.2 :: .int 0 :: .ref (ad 17) :: []) C (c_X4_count l D cT ad n areas keys there order added size loads widths height ranks a1 a2 a3 a4 v1.2 v1.1 hk hc) (cwV 4 C.1.2.2.2.2 gL_count_X4_count rfl rfl rfl pv_X4_count ⟨(Nat.le_of_ble_eq_true rfl), (Nat.le_of_ble_eq_true rfl)⟩) dL_count_9 rfl rfl rfl rfl rfl (Nat.le_of_ble_eq_true rfl) ⟨rfl, rfl⟩ ⟨(Nat.le_of_ble_eq_true rfl), (Nat.le_of_ble_eq_true rfl)⟩ [0, 1, 2, 3, 4, 5, 6, 7, 8, 9] [10] [1, 2, 3, 4, 5, 6, 7, 8, 9, 10, 0] rfl rfl rfl rfl (by decide) rfl rfl rfl ?_
    clear hc
    refine h_i2l (pc := 12) C dL_count_12 ?_
    obtain ⟨hi, w, hv, hf⟩ := jwrL_s hf
    refine h_last (pc := 13) (ws' := (wH cT ad areas keys there order added size loads widths height ranks w)) C 10 2 rfl rfl hi hv rfl dL_count_13 ?_
    clear hi hv
    refine h_goto (pc := 14) (tgt := 21) C dL_count_14 (by decide) ?_
    have g0 := (Prod.mk.inj (Option.some.inj hf)).1
    have g1 := (Prod.mk.inj (Option.some.inj hf)).2
    clear hf
    subst g0
    subst g1
    refine h_iconst (pc := 21) C dL_count_21 jc_0 ?_
    refine h_widen (k := 1) (n := 6) (Nat.le_of_ble_eq_true rfl) (Nat.le_of_ble_eq_true rfl) ?_
    exact h_iret C hr dL_count_22
  · replace hf := jif_f hk hf
    by_cases hk1 : v1.1 = 1
    · replace hf := jif_t hk1 hf
      have g0 := (Prod.mk.inj (Option.some.inj hf)).1
      have g1 := (Prod.mk.inj (Option.some.inj hf)).2
      clear hf
      subst g0
      subst g1
      refine h_xV (pc := 9) (q0 := 0) (As := [.int a1, .int a2, .int a3, .int a4]) (rest := .int 0 :: .ref (ad 17) :: []) (ws' := (wH cT ad areas keys there order added size loads widths height ranks out)) (E := xIAE) C Z (by have h := x_X4_count hX0 D cT ad n areas keys there order added size loads widths height ranks a1 a2 a3 a4 v1.2 v1.1 hk hc; rw [hk1] at h; exact h) (cwV 4 C.1.2.2.2.2 gL_count_X4_count rfl rfl rfl pv_X4_count ⟨(Nat.le_of_ble_eq_true rfl), (Nat.le_of_ble_eq_true rfl)⟩) dL_count_9 rfl rfl rfl rfl rfl (Nat.le_of_ble_eq_true rfl) ⟨(Nat.le_of_ble_eq_true rfl), (Nat.le_of_ble_eq_true rfl)⟩ [0, 1, 2, 3, 4, 5, 6, 7, 8, 9] [10] [1, 2, 3, 4, 5, 6, 7, 8, 9, 10, 0] rfl rfl rfl rfl (by decide) rfl rfl (h_catchK C Z [] ⟨0, 14, 17, 13⟩ [] htab (fun z hz => nomatch hz) (by decide) (by decide) (List.mem_of_getElem? (i := 1) rfl) xin_IAE (hpc := 17) rfl (fun q9 => ?_))
      refine h_astore (pc := 17) (lv' := [(6, .ref q9), (0, .ref (ad 0)), (1, .int a1), (2, .int a2), (3, .int a3), (4, .int a4), (5, .ref (ad 17))]) C dL_count_17 (by decide) rfl ?_
      refine h_iconst (pc := 19) C dL_count_19 jc_1 ?_
      exact h_iret C hr dL_count_20
    · replace hf := jif_f hk1 hf
      exact nomatch hf
theorem ps_L_count : yL_count.cls ≠ "java/lang/invoke/MethodHandle" ∧ yL_count.cls ≠ "java/lang/invoke/VarHandle" ∧ (parseMethodDescriptor yL_count.desc).map (fun d => d.parameters.length) = some 6 := by decide +kernel
abbrev rmL_found : Room := { frames := 8, cells := 1, slots := 6, locals := 141 }
set_option maxRecDepth 100000 in
set_option maxHeartbeats 4000000 in
theorem c_L_found {l : Launch} (hX0 : l.stackTraces = false) (D : va_G) (cT : Nat → ClassId) (ad : Nat → Nat) (n : Nat) (areas : Nat → Int32) (keys : Nat → Int32) (there : Nat → Int32) (order : Nat → Int32) (added : Int32) (size : Int32) (loads : Nat → Int32) (widths : Nat → Int32) (height : Int32) (ranks : Nat → Int32) (a1 : Int32) (a2 : Int32) (a3 : Int32) (a4 : Int32) (a5 : Int32) (out : Nat → Int64) (r : Int32)  (out' : Nat → Int64) (hf : f_L_found n areas order size a1 a2 a3 a4 a5 out = some (r, out')) : yM l yL_found wsL_found rmL_found D (ty4 cT) [.ref (ad 0), .int a1, .int a2, .int a3, .int a4, .int a5, .ref (ad 17)] (wH cT ad areas keys there order added size loads widths height ranks out) (some (.int r)) (wH cT ad areas keys there order added size loads widths height ranks out') := by
  refine yM_of (cc := cL_found) (maxL := 8) (ret := (some .int)) (hh := [(0, 16, 19, 13), (0, 16, 23, 21)]) (own := RL) (lv := [(0, .ref (ad 0)), (1, .int a1), (2, .int a2), (3, .int a3), (4, .int a4), (5, .int a5), (6, .ref (ad 17))]) (by decide) rfl (Nat.le_of_ble_eq_true rfl) rfl rfl ?_
  intro p e s m args below meth c A C Z htab hr
  unfold f_L_found at hf
  refine h_aload (pc := 0) C dL_found_0 6 rfl ?_
  refine h_iconst (pc := 2) C dL_found_2 jc_0 ?_
  refine h_aload_n (pc := 3) C dL_found_3 rfl 0 rfl ?_
  refine h_iload_n (pc := 4) C dL_found_4 rfl 1 rfl ?_
  refine h_iload_n (pc := 5) C dL_found_5 rfl 2 rfl ?_
  refine h_iload_n (pc := 6) C dL_found_6 rfl 3 rfl ?_
  refine h_iload (pc := 7) C dL_found_7 4 rfl ?_
  refine h_iload (pc := 9) C dL_found_9 5 rfl ?_
  obtain ⟨v1, hc, hf⟩ := jbd_s hf
  by_cases hk : v1.1 = 0
  · replace hf := jif_t hk hf
    refine h_callV (pc := 11) (q0 := 0) (As := [.int a1, .int a2, .int a3, .int a4, .int a5]) (rest := .int 0 :: .ref (ad 17) :: []) (ws' := (wH cT ad areas keys there order added size loads widths height ranks out)) (st2 := .int v1.2 :: .int 0 :: .ref (ad 17) :: []) C (c_X4_found l D cT ad n areas keys there order added size loads widths height ranks a1 a2 a3 a4 a5 v1.2 v1.1 hk hc) (cwV 5 C.1.2.2.2.2 gL_found_X4_found rfl rfl rfl pv_X4_found ⟨(Nat.le_of_ble_eq_true rfl), (Nat.le_of_ble_eq_true rfl)⟩) dL_found_11 rfl rfl rfl rfl rfl (Nat.le_of_ble_eq_true rfl) ⟨rfl, rfl⟩ ⟨(Nat.le_of_ble_eq_true rfl), (Nat.le_of_ble_eq_true rfl)⟩ [0, 1, 2, 3, 4, 5, 6, 7, 8, 9] [10] [1, 2, 3, 4, 5, 6, 7, 8, 9, 10, 0] rfl rfl rfl rfl (by decide) rfl rfl rfl ?_
    clear hc
    refine h_i2l (pc := 14) C dL_found_14 ?_
    obtain ⟨hi, w, hv, hf⟩ := jwrL_s hf
    refine h_last (pc := 15) (ws' := (wH cT ad areas keys there order added size loads widths height ranks w)) C 10 2 rfl rfl hi hv rfl dL_found_15 ?_
    clear hi hv
    refine h_goto (pc := 16) (tgt := 27) C dL_found_16 (by decide) ?_
    have g0 := (Prod.mk.inj (Option.some.inj hf)).1
    have g1 := (Prod.mk.inj (Option.some.inj hf)).2
    clear hf
    subst g0
    subst g1
    refine h_iconst (pc := 27) C dL_found_27 jc_0 ?_
    refine h_widen (k := 1) (n := 6) (Nat.le_of_ble_eq_true rfl) (Nat.le_of_ble_eq_true rfl) ?_
    exact h_iret C hr dL_found_28
  · replace hf := jif_f hk hf
    by_cases hk1 : v1.1 = 1
    · replace hf := jif_t hk1 hf
      have g0 := (Prod.mk.inj (Option.some.inj hf)).1
      have g1 := (Prod.mk.inj (Option.some.inj hf)).2
      clear hf
      subst g0
      subst g1
      refine h_xV (pc := 11) (q0 := 0) (As := [.int a1, .int a2, .int a3, .int a4, .int a5]) (rest := .int 0 :: .ref (ad 17) :: []) (ws' := (wH cT ad areas keys there order added size loads widths height ranks out)) (E := xIAE) C Z (by have h := x_X4_found hX0 D cT ad n areas keys there order added size loads widths height ranks a1 a2 a3 a4 a5 v1.2 v1.1 hk hc; rw [hk1] at h; exact h) (cwV 5 C.1.2.2.2.2 gL_found_X4_found rfl rfl rfl pv_X4_found ⟨(Nat.le_of_ble_eq_true rfl), (Nat.le_of_ble_eq_true rfl)⟩) dL_found_11 rfl rfl rfl rfl rfl (Nat.le_of_ble_eq_true rfl) ⟨(Nat.le_of_ble_eq_true rfl), (Nat.le_of_ble_eq_true rfl)⟩ [0, 1, 2, 3, 4, 5, 6, 7, 8, 9] [10] [1, 2, 3, 4, 5, 6, 7, 8, 9, 10, 0] rfl rfl rfl rfl (by decide) rfl rfl (h_catchK C Z [] ⟨0, 16, 19, 13⟩ [⟨0, 16, 23, 21⟩] htab (fun z hz => nomatch hz) (by decide) (by decide) (List.mem_of_getElem? (i := 1) rfl) xin_IAE (hpc := 19) rfl (fun q9 => ?_))
      refine h_astore (pc := 19) (lv' := [(7, .ref q9), (0, .ref (ad 0)), (1, .int a1), (2, .int a2), (3, .int a3), (4, .int a4), (5, .int a5), (6, .ref (ad 17))]) C dL_found_19 (by decide) rfl ?_
      refine h_iconst (pc := 21) C dL_found_21 jc_1 ?_
      exact h_iret C hr dL_found_22
    · replace hf := jif_f hk1 hf
      by_cases hk3 : v1.1 = 3
      · replace hf := jif_t hk3 hf
        have g0 := (Prod.mk.inj (Option.some.inj hf)).1
        have g1 := (Prod.mk.inj (Option.some.inj hf)).2
        clear hf
        subst g0
        subst g1
        refine h_xV (pc := 11) (q0 := 0) (As := [.int a1, .int a2, .int a3, .int a4, .int a5]) (rest := .int 0 :: .ref (ad 17) :: []) (ws' := (wH cT ad areas keys there order added size loads widths height ranks out)) (E := xIOE) C Z (by have h := x_X4_found hX0 D cT ad n areas keys there order added size loads widths height ranks a1 a2 a3 a4 a5 v1.2 v1.1 hk hc; rw [hk3] at h; exact h) (cwV 5 C.1.2.2.2.2 gL_found_X4_found rfl rfl rfl pv_X4_found ⟨(Nat.le_of_ble_eq_true rfl), (Nat.le_of_ble_eq_true rfl)⟩) dL_found_11 rfl rfl rfl rfl rfl (Nat.le_of_ble_eq_true rfl) ⟨(Nat.le_of_ble_eq_true rfl), (Nat.le_of_ble_eq_true rfl)⟩ [0, 1, 2, 3, 4, 5, 6, 7, 8, 9] [10] [1, 2, 3, 4, 5, 6, 7, 8, 9, 10, 0] rfl rfl rfl rfl (by decide) rfl rfl (h_catchK C Z [⟨0, 16, 19, 13⟩] ⟨0, 16, 23, 21⟩ [] htab (fun z hz => by rw [List.mem_singleton.mp hz]; exact Or.inr ⟨by decide, xIAE, List.mem_of_getElem? (i := 1) rfl, Z.2.2.2.2.1.2⟩) (by decide) (by decide) (List.mem_of_getElem? (i := 2) rfl) xin_IOE (hpc := 23) rfl (fun q9 => ?_))
        refine h_astore (pc := 23) (lv' := [(7, .ref q9), (0, .ref (ad 0)), (1, .int a1), (2, .int a2), (3, .int a3), (4, .int a4), (5, .int a5), (6, .ref (ad 17))]) C dL_found_23 (by decide) rfl ?_
        refine h_iconst (pc := 25) C dL_found_25 jc_2 ?_
        exact h_iret C hr dL_found_26
      · replace hf := jif_f hk3 hf
        exact nomatch hf
theorem ps_L_found : yL_found.cls ≠ "java/lang/invoke/MethodHandle" ∧ yL_found.cls ≠ "java/lang/invoke/VarHandle" ∧ (parseMethodDescriptor yL_found.desc).map (fun d => d.parameters.length) = some 7 := by decide +kernel
abbrev rmL_visits : Room := { frames := 8, cells := 1, slots := 6, locals := 147 }
set_option maxRecDepth 100000 in
set_option maxHeartbeats 4000000 in
theorem c_L_visits {l : Launch} (hX0 : l.stackTraces = false) (D : va_G) (cT : Nat → ClassId) (ad : Nat → Nat) (n : Nat) (areas : Nat → Int32) (keys : Nat → Int32) (there : Nat → Int32) (order : Nat → Int32) (added : Int32) (size : Int32) (loads : Nat → Int32) (widths : Nat → Int32) (height : Int32) (ranks : Nat → Int32) (a1 : Int32) (a2 : Int32) (a3 : Int32) (a4 : Int32) (out : Nat → Int64) (r : Int32)  (out' : Nat → Int64) (hf : f_L_visits n areas order size loads widths height a1 a2 a3 a4 out = some (r, out')) : yM l yL_visits wsL_visits rmL_visits D (ty4 cT) [.ref (ad 0), .int a1, .int a2, .int a3, .int a4, .ref (ad 17)] (wH cT ad areas keys there order added size loads widths height ranks out) (some (.int r)) (wH cT ad areas keys there order added size loads widths height ranks out') := by
  refine yM_of (cc := cL_visits) (maxL := 7) (ret := (some .int)) (hh := [(0, 14, 17, 13)]) (own := RL) (lv := [(0, .ref (ad 0)), (1, .int a1), (2, .int a2), (3, .int a3), (4, .int a4), (5, .ref (ad 17))]) (by decide) rfl (Nat.le_of_ble_eq_true rfl) rfl rfl ?_
  intro p e s m args below meth c A C Z htab hr
  unfold f_L_visits at hf
  refine h_aload (pc := 0) C dL_visits_0 5 rfl ?_
  refine h_iconst (pc := 2) C dL_visits_2 jc_0 ?_
  refine h_aload_n (pc := 3) C dL_visits_3 rfl 0 rfl ?_
  refine h_iload_n (pc := 4) C dL_visits_4 rfl 1 rfl ?_
  refine h_iload_n (pc := 5) C dL_visits_5 rfl 2 rfl ?_
  refine h_iload_n (pc := 6) C dL_visits_6 rfl 3 rfl ?_
  refine h_iload (pc := 7) C dL_visits_7 4 rfl ?_
  obtain ⟨v1, hc, hf⟩ := jbd_s hf
  by_cases hk : v1.1 = 0
  · replace hf := jif_t hk hf
    refine h_callV (pc := 9) (q0 := 0) (As := [.int a1, .int a2, .int a3, .int a4]) (rest := .int 0 :: .ref (ad 17) :: []) (ws' := (wH cT ad areas keys there order added size loads widths height ranks out)) (st2 := .int v1.2 :: .int 0 :: .ref (ad 17) :: []) C (c_X4_visits l D cT ad n areas keys there order added size loads widths height ranks a1 a2 a3 a4 v1.2 v1.1 hk hc) (cwV 4 C.1.2.2.2.2 gL_visits_X4_visits rfl rfl rfl pv_X4_visits ⟨(Nat.le_of_ble_eq_true rfl), (Nat.le_of_ble_eq_true rfl)⟩) dL_visits_9 rfl rfl rfl rfl rfl (Nat.le_of_ble_eq_true rfl) ⟨rfl, rfl⟩ ⟨(Nat.le_of_ble_eq_true rfl), (Nat.le_of_ble_eq_true rfl)⟩ [0, 1, 2, 3, 4, 5, 6, 7, 8, 9] [10] [1, 2, 3, 4, 5, 6, 7, 8, 9, 10, 0] rfl rfl rfl rfl (by decide) rfl rfl rfl ?_
    clear hc
    refine h_i2l (pc := 12) C dL_visits_12 ?_
    obtain ⟨hi, w, hv, hf⟩ := jwrL_s hf
    refine h_last (pc := 13) (ws' := (wH cT ad areas keys there order added size loads widths height ranks w)) C 10 2 rfl rfl hi hv rfl dL_visits_13 ?_
    clear hi hv
    refine h_goto (pc := 14) (tgt := 21) C dL_visits_14 (by decide) ?_
    have g0 := (Prod.mk.inj (Option.some.inj hf)).1
    have g1 := (Prod.mk.inj (Option.some.inj hf)).2
    clear hf
    subst g0
    subst g1
    refine h_iconst (pc := 21) C dL_visits_21 jc_0 ?_
    refine h_widen (k := 1) (n := 6) (Nat.le_of_ble_eq_true rfl) (Nat.le_of_ble_eq_true rfl) ?_
    exact h_iret C hr dL_visits_22
  · replace hf := jif_f hk hf
    by_cases hk1 : v1.1 = 1
    · replace hf := jif_t hk1 hf
      have g0 := (Prod.mk.inj (Option.some.inj hf)).1
      have g1 := (Prod.mk.inj (Option.some.inj hf)).2
      clear hf
      subst g0
      subst g1
      refine h_xV (pc := 9) (q0 := 0) (As := [.int a1, .int a2, .int a3, .int a4]) (rest := .int 0 :: .ref (ad 17) :: []) (ws' := (wH cT ad areas keys there order added size loads widths height ranks out)) (E := xIAE) C Z (by have h := x_X4_visits hX0 D cT ad n areas keys there order added size loads widths height ranks a1 a2 a3 a4 v1.2 v1.1 hk hc; rw [hk1] at h; exact h) (cwV 4 C.1.2.2.2.2 gL_visits_X4_visits rfl rfl rfl pv_X4_visits ⟨(Nat.le_of_ble_eq_true rfl), (Nat.le_of_ble_eq_true rfl)⟩) dL_visits_9 rfl rfl rfl rfl rfl (Nat.le_of_ble_eq_true rfl) ⟨(Nat.le_of_ble_eq_true rfl), (Nat.le_of_ble_eq_true rfl)⟩ [0, 1, 2, 3, 4, 5, 6, 7, 8, 9] [10] [1, 2, 3, 4, 5, 6, 7, 8, 9, 10, 0] rfl rfl rfl rfl (by decide) rfl rfl (h_catchK C Z [] ⟨0, 14, 17, 13⟩ [] htab (fun z hz => nomatch hz) (by decide) (by decide) (List.mem_of_getElem? (i := 1) rfl) xin_IAE (hpc := 17) rfl (fun q9 => ?_))
      refine h_astore (pc := 17) (lv' := [(6, .ref q9), (0, .ref (ad 0)), (1, .int a1), (2, .int a2), (3, .int a3), (4, .int a4), (5, .ref (ad 17))]) C dL_visits_17 (by decide) rfl ?_
      refine h_iconst (pc := 19) C dL_visits_19 jc_1 ?_
      exact h_iret C hr dL_visits_20
    · replace hf := jif_f hk1 hf
      exact nomatch hf
theorem ps_L_visits : yL_visits.cls ≠ "java/lang/invoke/MethodHandle" ∧ yL_visits.cls ≠ "java/lang/invoke/VarHandle" ∧ (parseMethodDescriptor yL_visits.desc).map (fun d => d.parameters.length) = some 6 := by decide +kernel
abbrev rmL_nearest : Room := { frames := 8, cells := 1, slots := 6, locals := 135 }
set_option maxRecDepth 100000 in
set_option maxHeartbeats 4000000 in
theorem c_L_nearest {l : Launch} (hX0 : l.stackTraces = false) (D : va_G) (cT : Nat → ClassId) (ad : Nat → Nat) (n : Nat) (areas : Nat → Int32) (keys : Nat → Int32) (there : Nat → Int32) (order : Nat → Int32) (added : Int32) (size : Int32) (loads : Nat → Int32) (widths : Nat → Int32) (height : Int32) (ranks : Nat → Int32) (a1 : Int32) (a2 : Int32) (a3 : Int32) (out : Nat → Int64) (r : Int32) (ranks' : Nat → Int32) (out' : Nat → Int64) (hf : f_L_nearest n areas order size ranks a1 a2 a3 out = some (r, ranks', out')) : yM l yL_nearest wsL_nearest rmL_nearest D (ty4 cT) [.ref (ad 0), .int a1, .int a2, .int a3, .ref (ad 17)] (wH cT ad areas keys there order added size loads widths height ranks out) (some (.int r)) (wH cT ad areas keys there order added size loads widths height ranks' out') := by
  refine yM_of (cc := cL_nearest) (maxL := 6) (ret := (some .int)) (hh := [(0, 12, 15, 13), (0, 12, 19, 21)]) (own := RL) (lv := [(0, .ref (ad 0)), (1, .int a1), (2, .int a2), (3, .int a3), (4, .ref (ad 17))]) (by decide) rfl (Nat.le_of_ble_eq_true rfl) rfl rfl ?_
  intro p e s m args below meth c A C Z htab hr
  unfold f_L_nearest at hf
  refine h_aload (pc := 0) C dL_nearest_0 4 rfl ?_
  refine h_iconst (pc := 2) C dL_nearest_2 jc_0 ?_
  refine h_aload_n (pc := 3) C dL_nearest_3 rfl 0 rfl ?_
  refine h_iload_n (pc := 4) C dL_nearest_4 rfl 1 rfl ?_
  refine h_iload_n (pc := 5) C dL_nearest_5 rfl 2 rfl ?_
  refine h_iload_n (pc := 6) C dL_nearest_6 rfl 3 rfl ?_
  obtain ⟨v1, hc, hf⟩ := jbd_s hf
  by_cases hk : v1.1 = 0
  · replace hf := jif_t hk hf
    refine h_callV (pc := 7) (q0 := 0) (As := [.int a1, .int a2, .int a3]) (rest := .int 0 :: .ref (ad 17) :: []) (ws' := (wH cT ad areas keys there order added size loads widths height v1.2.2 out)) (st2 := .int v1.2.1 :: .int 0 :: .ref (ad 17) :: []) C (c_X4_nearest l D cT ad n areas keys there order added size loads widths height ranks a1 a2 a3 v1.2.1 v1.2.2 v1.1 hk hc) (cwV 3 C.1.2.2.2.2 gL_nearest_X4_nearest rfl rfl rfl pv_X4_nearest ⟨(Nat.le_of_ble_eq_true rfl), (Nat.le_of_ble_eq_true rfl)⟩) dL_nearest_7 rfl rfl rfl rfl rfl (Nat.le_of_ble_eq_true rfl) ⟨rfl, rfl⟩ ⟨(Nat.le_of_ble_eq_true rfl), (Nat.le_of_ble_eq_true rfl)⟩ [0, 1, 2, 3, 4, 5, 6, 7, 8, 9] [10] [1, 2, 3, 4, 5, 6, 7, 8, 9, 10, 0] rfl rfl rfl rfl (by decide) rfl rfl rfl ?_
    clear hc
    refine h_i2l (pc := 10) C dL_nearest_10 ?_
    obtain ⟨hi, w, hv, hf⟩ := jwrL_s hf
    refine h_last (pc := 11) (ws' := (wH cT ad areas keys there order added size loads widths height v1.2.2 w)) C 10 2 rfl rfl hi hv rfl dL_nearest_11 ?_
    clear hi hv
    refine h_goto (pc := 12) (tgt := 23) C dL_nearest_12 (by decide) ?_
    have g0 := (Prod.mk.inj (Option.some.inj hf)).1
    have g1 := (Prod.mk.inj (Prod.mk.inj (Option.some.inj hf)).2).1
    have g2 := (Prod.mk.inj (Prod.mk.inj (Option.some.inj hf)).2).2
    clear hf
    subst g0
    subst g1
    subst g2
    refine h_iconst (pc := 23) C dL_nearest_23 jc_0 ?_
    refine h_widen (k := 1) (n := 6) (Nat.le_of_ble_eq_true rfl) (Nat.le_of_ble_eq_true rfl) ?_
    exact h_iret C hr dL_nearest_24
  · replace hf := jif_f hk hf
    by_cases hk1 : v1.1 = 1
    · replace hf := jif_t hk1 hf
      have g0 := (Prod.mk.inj (Option.some.inj hf)).1
      have g1 := (Prod.mk.inj (Prod.mk.inj (Option.some.inj hf)).2).1
      have g2 := (Prod.mk.inj (Prod.mk.inj (Option.some.inj hf)).2).2
      clear hf
      subst g0
      subst g1
      subst g2
      refine h_xV (pc := 7) (q0 := 0) (As := [.int a1, .int a2, .int a3]) (rest := .int 0 :: .ref (ad 17) :: []) (ws' := (wH cT ad areas keys there order added size loads widths height v1.2.2 out)) (E := xIAE) C Z (by have h := x_X4_nearest hX0 D cT ad n areas keys there order added size loads widths height ranks a1 a2 a3 v1.2.1 v1.2.2 v1.1 hk hc; rw [hk1] at h; exact h) (cwV 3 C.1.2.2.2.2 gL_nearest_X4_nearest rfl rfl rfl pv_X4_nearest ⟨(Nat.le_of_ble_eq_true rfl), (Nat.le_of_ble_eq_true rfl)⟩) dL_nearest_7 rfl rfl rfl rfl rfl (Nat.le_of_ble_eq_true rfl) ⟨(Nat.le_of_ble_eq_true rfl), (Nat.le_of_ble_eq_true rfl)⟩ [0, 1, 2, 3, 4, 5, 6, 7, 8, 9] [10] [1, 2, 3, 4, 5, 6, 7, 8, 9, 10, 0] rfl rfl rfl rfl (by decide) rfl rfl (h_catchK C Z [] ⟨0, 12, 15, 13⟩ [⟨0, 12, 19, 21⟩] htab (fun z hz => nomatch hz) (by decide) (by decide) (List.mem_of_getElem? (i := 1) rfl) xin_IAE (hpc := 15) rfl (fun q9 => ?_))
      refine h_astore (pc := 15) (lv' := [(5, .ref q9), (0, .ref (ad 0)), (1, .int a1), (2, .int a2), (3, .int a3), (4, .ref (ad 17))]) C dL_nearest_15 (by decide) rfl ?_
      refine h_iconst (pc := 17) C dL_nearest_17 jc_1 ?_
      exact h_iret C hr dL_nearest_18
    · replace hf := jif_f hk1 hf
      by_cases hk3 : v1.1 = 3
      · replace hf := jif_t hk3 hf
        have g0 := (Prod.mk.inj (Option.some.inj hf)).1
        have g1 := (Prod.mk.inj (Prod.mk.inj (Option.some.inj hf)).2).1
        have g2 := (Prod.mk.inj (Prod.mk.inj (Option.some.inj hf)).2).2
        clear hf
        subst g0
        subst g1
        subst g2
        refine h_xV (pc := 7) (q0 := 0) (As := [.int a1, .int a2, .int a3]) (rest := .int 0 :: .ref (ad 17) :: []) (ws' := (wH cT ad areas keys there order added size loads widths height v1.2.2 out)) (E := xIOE) C Z (by have h := x_X4_nearest hX0 D cT ad n areas keys there order added size loads widths height ranks a1 a2 a3 v1.2.1 v1.2.2 v1.1 hk hc; rw [hk3] at h; exact h) (cwV 3 C.1.2.2.2.2 gL_nearest_X4_nearest rfl rfl rfl pv_X4_nearest ⟨(Nat.le_of_ble_eq_true rfl), (Nat.le_of_ble_eq_true rfl)⟩) dL_nearest_7 rfl rfl rfl rfl rfl (Nat.le_of_ble_eq_true rfl) ⟨(Nat.le_of_ble_eq_true rfl), (Nat.le_of_ble_eq_true rfl)⟩ [0, 1, 2, 3, 4, 5, 6, 7, 8, 9] [10] [1, 2, 3, 4, 5, 6, 7, 8, 9, 10, 0] rfl rfl rfl rfl (by decide) rfl rfl (h_catchK C Z [⟨0, 12, 15, 13⟩] ⟨0, 12, 19, 21⟩ [] htab (fun z hz => by rw [List.mem_singleton.mp hz]; exact Or.inr ⟨by decide, xIAE, List.mem_of_getElem? (i := 1) rfl, Z.2.2.2.2.1.2⟩) (by decide) (by decide) (List.mem_of_getElem? (i := 2) rfl) xin_IOE (hpc := 19) rfl (fun q9 => ?_))
        refine h_astore (pc := 19) (lv' := [(5, .ref q9), (0, .ref (ad 0)), (1, .int a1), (2, .int a2), (3, .int a3), (4, .ref (ad 17))]) C dL_nearest_19 (by decide) rfl ?_
        refine h_iconst (pc := 21) C dL_nearest_21 jc_2 ?_
        exact h_iret C hr dL_nearest_22
      · replace hf := jif_f hk3 hf
        exact nomatch hf
theorem ps_L_nearest : yL_nearest.cls ≠ "java/lang/invoke/MethodHandle" ∧ yL_nearest.cls ≠ "java/lang/invoke/VarHandle" ∧ (parseMethodDescriptor yL_nearest.desc).map (fun d => d.parameters.length) = some 5 := by decide +kernel
abbrev rmL_distance : Room := { frames := 8, cells := 1, slots := 6, locals := 134 }
set_option maxRecDepth 100000 in
set_option maxHeartbeats 4000000 in
theorem c_L_distance {l : Launch} (hX0 : l.stackTraces = false) (D : va_G) (cT : Nat → ClassId) (ad : Nat → Nat) (n : Nat) (areas : Nat → Int32) (keys : Nat → Int32) (there : Nat → Int32) (order : Nat → Int32) (added : Int32) (size : Int32) (loads : Nat → Int32) (widths : Nat → Int32) (height : Int32) (ranks : Nat → Int32) (a1 : Int32) (a2 : Int32) (a3 : Int32) (out : Nat → Int64) (r : Int32)  (out' : Nat → Int64) (hf : f_L_distance n areas there a1 a2 a3 out = some (r, out')) : yM l yL_distance wsL_distance rmL_distance D (ty4 cT) [.ref (ad 0), .int a1, .int a2, .int a3, .ref (ad 17)] (wH cT ad areas keys there order added size loads widths height ranks out) (some (.int r)) (wH cT ad areas keys there order added size loads widths height ranks out') := by
  refine yM_of (cc := cL_distance) (maxL := 6) (ret := (some .int)) (hh := [(0, 12, 15, 13), (0, 12, 19, 21)]) (own := RL) (lv := [(0, .ref (ad 0)), (1, .int a1), (2, .int a2), (3, .int a3), (4, .ref (ad 17))]) (by decide) rfl (Nat.le_of_ble_eq_true rfl) rfl rfl ?_
  intro p e s m args below meth c A C Z htab hr
  unfold f_L_distance at hf
  refine h_aload (pc := 0) C dL_distance_0 4 rfl ?_
  refine h_iconst (pc := 2) C dL_distance_2 jc_0 ?_
  refine h_aload_n (pc := 3) C dL_distance_3 rfl 0 rfl ?_
  refine h_iload_n (pc := 4) C dL_distance_4 rfl 1 rfl ?_
  refine h_iload_n (pc := 5) C dL_distance_5 rfl 2 rfl ?_
  refine h_iload_n (pc := 6) C dL_distance_6 rfl 3 rfl ?_
  obtain ⟨v1, hc, hf⟩ := jbd_s hf
  by_cases hk : v1.1 = 0
  · replace hf := jif_t hk hf
    refine h_callV (pc := 7) (q0 := 0) (As := [.int a1, .int a2, .int a3]) (rest := .int 0 :: .ref (ad 17) :: []) (ws' := (wH cT ad areas keys there order added size loads widths height ranks out)) (st2 := .int v1.2 :: .int 0 :: .ref (ad 17) :: []) C (c_X4_distance l D cT ad n areas keys there order added size loads widths height ranks a1 a2 a3 v1.2 v1.1 hk hc) (cwV 3 C.1.2.2.2.2 gL_distance_X4_distance rfl rfl rfl pv_X4_distance ⟨(Nat.le_of_ble_eq_true rfl), (Nat.le_of_ble_eq_true rfl)⟩) dL_distance_7 rfl rfl rfl rfl rfl (Nat.le_of_ble_eq_true rfl) ⟨rfl, rfl⟩ ⟨(Nat.le_of_ble_eq_true rfl), (Nat.le_of_ble_eq_true rfl)⟩ [0, 1, 2, 3, 4, 5, 6, 7, 8, 9] [10] [1, 2, 3, 4, 5, 6, 7, 8, 9, 10, 0] rfl rfl rfl rfl (by decide) rfl rfl rfl ?_
    clear hc
    refine h_i2l (pc := 10) C dL_distance_10 ?_
    obtain ⟨hi, w, hv, hf⟩ := jwrL_s hf
    refine h_last (pc := 11) (ws' := (wH cT ad areas keys there order added size loads widths height ranks w)) C 10 2 rfl rfl hi hv rfl dL_distance_11 ?_
    clear hi hv
    refine h_goto (pc := 12) (tgt := 23) C dL_distance_12 (by decide) ?_
    have g0 := (Prod.mk.inj (Option.some.inj hf)).1
    have g1 := (Prod.mk.inj (Option.some.inj hf)).2
    clear hf
    subst g0
    subst g1
    refine h_iconst (pc := 23) C dL_distance_23 jc_0 ?_
    refine h_widen (k := 1) (n := 6) (Nat.le_of_ble_eq_true rfl) (Nat.le_of_ble_eq_true rfl) ?_
    exact h_iret C hr dL_distance_24
  · replace hf := jif_f hk hf
    by_cases hk1 : v1.1 = 1
    · replace hf := jif_t hk1 hf
      have g0 := (Prod.mk.inj (Option.some.inj hf)).1
      have g1 := (Prod.mk.inj (Option.some.inj hf)).2
      clear hf
      subst g0
      subst g1
      refine h_xV (pc := 7) (q0 := 0) (As := [.int a1, .int a2, .int a3]) (rest := .int 0 :: .ref (ad 17) :: []) (ws' := (wH cT ad areas keys there order added size loads widths height ranks out)) (E := xIAE) C Z (by have h := x_X4_distance hX0 D cT ad n areas keys there order added size loads widths height ranks a1 a2 a3 v1.2 v1.1 hk hc; rw [hk1] at h; exact h) (cwV 3 C.1.2.2.2.2 gL_distance_X4_distance rfl rfl rfl pv_X4_distance ⟨(Nat.le_of_ble_eq_true rfl), (Nat.le_of_ble_eq_true rfl)⟩) dL_distance_7 rfl rfl rfl rfl rfl (Nat.le_of_ble_eq_true rfl) ⟨(Nat.le_of_ble_eq_true rfl), (Nat.le_of_ble_eq_true rfl)⟩ [0, 1, 2, 3, 4, 5, 6, 7, 8, 9] [10] [1, 2, 3, 4, 5, 6, 7, 8, 9, 10, 0] rfl rfl rfl rfl (by decide) rfl rfl (h_catchK C Z [] ⟨0, 12, 15, 13⟩ [⟨0, 12, 19, 21⟩] htab (fun z hz => nomatch hz) (by decide) (by decide) (List.mem_of_getElem? (i := 1) rfl) xin_IAE (hpc := 15) rfl (fun q9 => ?_))
      refine h_astore (pc := 15) (lv' := [(5, .ref q9), (0, .ref (ad 0)), (1, .int a1), (2, .int a2), (3, .int a3), (4, .ref (ad 17))]) C dL_distance_15 (by decide) rfl ?_
      refine h_iconst (pc := 17) C dL_distance_17 jc_1 ?_
      exact h_iret C hr dL_distance_18
    · replace hf := jif_f hk1 hf
      by_cases hk3 : v1.1 = 3
      · replace hf := jif_t hk3 hf
        have g0 := (Prod.mk.inj (Option.some.inj hf)).1
        have g1 := (Prod.mk.inj (Option.some.inj hf)).2
        clear hf
        subst g0
        subst g1
        refine h_xV (pc := 7) (q0 := 0) (As := [.int a1, .int a2, .int a3]) (rest := .int 0 :: .ref (ad 17) :: []) (ws' := (wH cT ad areas keys there order added size loads widths height ranks out)) (E := xIOE) C Z (by have h := x_X4_distance hX0 D cT ad n areas keys there order added size loads widths height ranks a1 a2 a3 v1.2 v1.1 hk hc; rw [hk3] at h; exact h) (cwV 3 C.1.2.2.2.2 gL_distance_X4_distance rfl rfl rfl pv_X4_distance ⟨(Nat.le_of_ble_eq_true rfl), (Nat.le_of_ble_eq_true rfl)⟩) dL_distance_7 rfl rfl rfl rfl rfl (Nat.le_of_ble_eq_true rfl) ⟨(Nat.le_of_ble_eq_true rfl), (Nat.le_of_ble_eq_true rfl)⟩ [0, 1, 2, 3, 4, 5, 6, 7, 8, 9] [10] [1, 2, 3, 4, 5, 6, 7, 8, 9, 10, 0] rfl rfl rfl rfl (by decide) rfl rfl (h_catchK C Z [⟨0, 12, 15, 13⟩] ⟨0, 12, 19, 21⟩ [] htab (fun z hz => by rw [List.mem_singleton.mp hz]; exact Or.inr ⟨by decide, xIAE, List.mem_of_getElem? (i := 1) rfl, Z.2.2.2.2.1.2⟩) (by decide) (by decide) (List.mem_of_getElem? (i := 2) rfl) xin_IOE (hpc := 19) rfl (fun q9 => ?_))
        refine h_astore (pc := 19) (lv' := [(5, .ref q9), (0, .ref (ad 0)), (1, .int a1), (2, .int a2), (3, .int a3), (4, .ref (ad 17))]) C dL_distance_19 (by decide) rfl ?_
        refine h_iconst (pc := 21) C dL_distance_21 jc_2 ?_
        exact h_iret C hr dL_distance_22
      · replace hf := jif_f hk3 hf
        exact nomatch hf
theorem ps_L_distance : yL_distance.cls ≠ "java/lang/invoke/MethodHandle" ∧ yL_distance.cls ≠ "java/lang/invoke/VarHandle" ∧ (parseMethodDescriptor yL_distance.desc).map (fun d => d.parameters.length) = some 5 := by decide +kernel
abbrev rmL_pair : Room := { frames := 7, cells := 1, slots := 6, locals := 114 }
set_option maxRecDepth 100000 in
set_option maxHeartbeats 4000000 in
theorem c_L_pair {l : Launch} (hX0 : l.stackTraces = false) (D : va_G) (cT : Nat → ClassId) (ad : Nat → Nat) (n : Nat) (areas : Nat → Int32) (keys : Nat → Int32) (there : Nat → Int32) (order : Nat → Int32) (added : Int32) (size : Int32) (loads : Nat → Int32) (widths : Nat → Int32) (height : Int32) (ranks : Nat → Int32) (a1 : Int32) (out : Nat → Int64) (r : Int32)  (out' : Nat → Int64) (hf : f_L_pair n areas there added a1 out = some (r, out')) : yM l yL_pair wsL_pair rmL_pair D (ty4 cT) [.ref (ad 0), .int a1, .ref (ad 17)] (wH cT ad areas keys there order added size loads widths height ranks out) (some (.int r)) (wH cT ad areas keys there order added size loads widths height ranks out') := by
  refine yM_of (cc := cL_pair) (maxL := 4) (ret := (some .int)) (hh := [(0, 9, 12, 21)]) (own := RL) (lv := [(0, .ref (ad 0)), (1, .int a1), (2, .ref (ad 17))]) (by decide) rfl (Nat.le_of_ble_eq_true rfl) rfl rfl ?_
  intro p e s m args below meth c A C Z htab hr
  unfold f_L_pair at hf
  refine h_aload_n (pc := 0) C dL_pair_0 rfl 2 rfl ?_
  refine h_iconst (pc := 1) C dL_pair_1 jc_0 ?_
  refine h_aload_n (pc := 2) C dL_pair_2 rfl 0 rfl ?_
  refine h_iload_n (pc := 3) C dL_pair_3 rfl 1 rfl ?_
  obtain ⟨v1, hc, hf⟩ := jbd_s hf
  by_cases hk : v1.1 = 0
  · replace hf := jif_t hk hf
    refine h_callV (pc := 4) (q0 := 0) (As := [.int a1]) (rest := .int 0 :: .ref (ad 17) :: []) (ws' := (wH cT ad areas keys there order added size loads widths height ranks out)) (st2 := .int v1.2 :: .int 0 :: .ref (ad 17) :: []) C (c_X4_pair l D cT ad n areas keys there order added size loads widths height ranks a1 v1.2 v1.1 hk hc) (cwV 1 C.1.2.2.2.2 gL_pair_X4_pair rfl rfl rfl pv_X4_pair ⟨(Nat.le_of_ble_eq_true rfl), (Nat.le_of_ble_eq_true rfl)⟩) dL_pair_4 rfl rfl rfl rfl rfl (Nat.le_of_ble_eq_true rfl) ⟨rfl, rfl⟩ ⟨(Nat.le_of_ble_eq_true rfl), (Nat.le_of_ble_eq_true rfl)⟩ [0, 1, 2, 3, 4, 5, 6, 7, 8, 9] [10] [1, 2, 3, 4, 5, 6, 7, 8, 9, 10, 0] rfl rfl rfl rfl (by decide) rfl rfl rfl ?_
    clear hc
    refine h_i2l (pc := 7) C dL_pair_7 ?_
    obtain ⟨hi, w, hv, hf⟩ := jwrL_s hf
    refine h_last (pc := 8) (ws' := (wH cT ad areas keys there order added size loads widths height ranks w)) C 10 2 rfl rfl hi hv rfl dL_pair_8 ?_
    clear hi hv
    refine h_goto (pc := 9) (tgt := 15) C dL_pair_9 (by decide) ?_
    have g0 := (Prod.mk.inj (Option.some.inj hf)).1
    have g1 := (Prod.mk.inj (Option.some.inj hf)).2
    clear hf
    subst g0
    subst g1
    refine h_iconst (pc := 15) C dL_pair_15 jc_0 ?_
    refine h_widen (k := 1) (n := 6) (Nat.le_of_ble_eq_true rfl) (Nat.le_of_ble_eq_true rfl) ?_
    exact h_iret C hr dL_pair_16
  · replace hf := jif_f hk hf
    by_cases hk3 : v1.1 = 3
    · replace hf := jif_t hk3 hf
      have g0 := (Prod.mk.inj (Option.some.inj hf)).1
      have g1 := (Prod.mk.inj (Option.some.inj hf)).2
      clear hf
      subst g0
      subst g1
      refine h_xV (pc := 4) (q0 := 0) (As := [.int a1]) (rest := .int 0 :: .ref (ad 17) :: []) (ws' := (wH cT ad areas keys there order added size loads widths height ranks out)) (E := xIOE) C Z (by have h := x_X4_pair hX0 D cT ad n areas keys there order added size loads widths height ranks a1 v1.2 v1.1 hk hc; rw [hk3] at h; exact h) (cwV 1 C.1.2.2.2.2 gL_pair_X4_pair rfl rfl rfl pv_X4_pair ⟨(Nat.le_of_ble_eq_true rfl), (Nat.le_of_ble_eq_true rfl)⟩) dL_pair_4 rfl rfl rfl rfl rfl (Nat.le_of_ble_eq_true rfl) ⟨(Nat.le_of_ble_eq_true rfl), (Nat.le_of_ble_eq_true rfl)⟩ [0, 1, 2, 3, 4, 5, 6, 7, 8, 9] [10] [1, 2, 3, 4, 5, 6, 7, 8, 9, 10, 0] rfl rfl rfl rfl (by decide) rfl rfl (h_catchK C Z [] ⟨0, 9, 12, 21⟩ [] htab (fun z hz => nomatch hz) (by decide) (by decide) (List.mem_of_getElem? (i := 1) rfl) xin_IOE (hpc := 12) rfl (fun q9 => ?_))
      refine h_astore_n (pc := 12) (lv' := [(3, .ref q9), (0, .ref (ad 0)), (1, .int a1), (2, .ref (ad 17))]) C dL_pair_12 rfl (by decide) rfl ?_
      refine h_iconst (pc := 13) C dL_pair_13 jc_1 ?_
      exact h_iret C hr dL_pair_14
    · replace hf := jif_f hk3 hf
      exact nomatch hf
theorem ps_L_pair : yL_pair.cls ≠ "java/lang/invoke/MethodHandle" ∧ yL_pair.cls ≠ "java/lang/invoke/VarHandle" ∧ (parseMethodDescriptor yL_pair.desc).map (fun d => d.parameters.length) = some 3 := by decide +kernel
