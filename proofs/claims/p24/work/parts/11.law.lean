/-! laid by wip/p24/lay24.py: the law's methods on the empty tree -/
abbrev rmL_tree_4_0_0_0 : Room := { frames := 7, cells := 1, slots := 6, locals := 111 }
set_option maxRecDepth 100000 in
set_option maxHeartbeats 4000000 in
theorem g_L_tree_4_0_0_0 {l : Launch} (hX0 : l.stackTraces = false) (D : va_G) (cT : Nat → ClassId) (ad : Nat → Nat) : gM 1 l yL_tree wsL_tree rmL_tree_4_0_0_0 D (ty2 cT) [.ref (ad 0), .int 4, .int 0, .int 0, .int 0] (wX cT ad) (some (.int jm30)) := by
  refine gM_ofW (cc := cL_tree) (maxL := 6) (ret := (some .int)) (hh := [(0, 73, 74, 14), (0, 73, 79, 22)]) (own := RL) (lv := [(0, .ref (ad 0)), (1, .int 4), (2, .int 0), (3, .int 0), (4, .int 0)]) (by decide) rfl (Nat.le_of_ble_eq_true rfl) rfl rfl ?_
  intro p e s m args below meth c A C Z htab hr
  refine h_iload_n (pc := 0) C dL_tree_0 rfl 1 rfl ?_
  refine h_if_ne (pc := 1) (tgt := 12) C dL_tree_1 (by decide) (fun _ => ?_) (fun q => absurd q (by decide))
  refine h_iload_n (pc := 12) C dL_tree_12 rfl 1 rfl ?_
  refine h_iconst (pc := 13) (v := 1) C dL_tree_13 (by decide) ?_
  refine h_icmp_ne (pc := 14) (tgt := 26) C dL_tree_14 (by decide) (fun _ => ?_) (fun q => absurd q (by decide))
  refine h_iload_n (pc := 26) C dL_tree_26 rfl 1 rfl ?_
  refine h_iconst (pc := 27) (v := 2) C dL_tree_27 (by decide) ?_
  refine h_icmp_ne (pc := 28) (tgt := 42) C dL_tree_28 (by decide) (fun _ => ?_) (fun q => absurd q (by decide))
  refine h_iload_n (pc := 42) C dL_tree_42 rfl 1 rfl ?_
  refine h_iconst (pc := 43) (v := 3) C dL_tree_43 (by decide) ?_
  refine h_icmp_ne (pc := 44) (tgt := 55) C dL_tree_44 (by decide) (fun _ => ?_) (fun q => absurd q (by decide))
  refine h_iload_n (pc := 55) C dL_tree_55 rfl 1 rfl ?_
  refine h_iconst (pc := 56) (v := 4) C dL_tree_56 (by decide) ?_
  refine h_icmp_ne (pc := 57) (tgt := 68) C dL_tree_57 (by decide) (fun q => absurd (by decide) q) (fun _ => ?_)
  refine h_aload_n (pc := 60) C dL_tree_60 rfl 0 rfl ?_
  refine h_iload_n (pc := 61) C dL_tree_61 rfl 2 rfl ?_
  refine h_xcatch (pc := 62) (q0 := 0) (As := [.int 0]) (rest := []) (E := xIOE) C Z (x_X4_boxAt_0 hX0 D cT ad) (cwV 1 C.1.2.2.2.2 gL_tree_X4_boxAt rfl rfl rfl pv_X4_boxAt ⟨Nat.le_of_ble_eq_true rfl, Nat.le_of_ble_eq_true rfl⟩) dL_tree_62 rfl rfl rfl rfl rfl (Nat.le_of_ble_eq_true rfl) ⟨Nat.le_of_ble_eq_true rfl, Nat.le_of_ble_eq_true rfl⟩ [0, 1, 2, 3, 4, 5, 6, 7, 8, 9] [] [0, 1, 2, 3, 4, 5, 6, 7, 8, 9] rfl rfl rfl rfl (by decide) rfl rfl [⟨0, 73, 74, 14⟩] ⟨0, 73, 79, 22⟩ [] htab (fun z hz => by rw [List.mem_singleton.mp hz]; exact Or.inr ⟨by decide, xIAE, List.mem_of_getElem? (i := 1) rfl, Z.2.2.2.2.1.2⟩) (by decide) (by decide) (List.mem_of_getElem? (i := 2) rfl) xin_IOE (hpc := 79) rfl (fun q9 => ?_)
  refine h_astore (pc := 79) (lv' := [(5, .ref q9), (0, .ref (ad 0)), (1, .int 4), (2, .int 0), (3, .int 0), (4, .int 0)]) C dL_tree_79 (by decide) rfl ?_
  refine h_bipush (pc := 81) (v := jm30) C dL_tree_81 (by decide) ?_
  refine h_widen (k := 1) (n := 6) (Nat.le_of_ble_eq_true rfl) (Nat.le_of_ble_eq_true rfl) ?_
  refine h_less (G1 := 1) (Nat.le_of_ble_eq_true rfl) ?_
  exact h_iret C hr dL_tree_83
abbrev rmL_tree_4_m1_0_0 : Room := { frames := 7, cells := 1, slots := 6, locals := 111 }
set_option maxRecDepth 100000 in
set_option maxHeartbeats 4000000 in
theorem g_L_tree_4_m1_0_0 {l : Launch} (hX0 : l.stackTraces = false) (D : va_G) (cT : Nat → ClassId) (ad : Nat → Nat) : gM 1 l yL_tree wsL_tree rmL_tree_4_m1_0_0 D (ty2 cT) [.ref (ad 0), .int 4, .int jm1, .int 0, .int 0] (wX cT ad) (some (.int jm30)) := by
  refine gM_ofW (cc := cL_tree) (maxL := 6) (ret := (some .int)) (hh := [(0, 73, 74, 14), (0, 73, 79, 22)]) (own := RL) (lv := [(0, .ref (ad 0)), (1, .int 4), (2, .int jm1), (3, .int 0), (4, .int 0)]) (by decide) rfl (Nat.le_of_ble_eq_true rfl) rfl rfl ?_
  intro p e s m args below meth c A C Z htab hr
  refine h_iload_n (pc := 0) C dL_tree_0 rfl 1 rfl ?_
  refine h_if_ne (pc := 1) (tgt := 12) C dL_tree_1 (by decide) (fun _ => ?_) (fun q => absurd q (by decide))
  refine h_iload_n (pc := 12) C dL_tree_12 rfl 1 rfl ?_
  refine h_iconst (pc := 13) (v := 1) C dL_tree_13 (by decide) ?_
  refine h_icmp_ne (pc := 14) (tgt := 26) C dL_tree_14 (by decide) (fun _ => ?_) (fun q => absurd q (by decide))
  refine h_iload_n (pc := 26) C dL_tree_26 rfl 1 rfl ?_
  refine h_iconst (pc := 27) (v := 2) C dL_tree_27 (by decide) ?_
  refine h_icmp_ne (pc := 28) (tgt := 42) C dL_tree_28 (by decide) (fun _ => ?_) (fun q => absurd q (by decide))
  refine h_iload_n (pc := 42) C dL_tree_42 rfl 1 rfl ?_
  refine h_iconst (pc := 43) (v := 3) C dL_tree_43 (by decide) ?_
  refine h_icmp_ne (pc := 44) (tgt := 55) C dL_tree_44 (by decide) (fun _ => ?_) (fun q => absurd q (by decide))
  refine h_iload_n (pc := 55) C dL_tree_55 rfl 1 rfl ?_
  refine h_iconst (pc := 56) (v := 4) C dL_tree_56 (by decide) ?_
  refine h_icmp_ne (pc := 57) (tgt := 68) C dL_tree_57 (by decide) (fun q => absurd (by decide) q) (fun _ => ?_)
  refine h_aload_n (pc := 60) C dL_tree_60 rfl 0 rfl ?_
  refine h_iload_n (pc := 61) C dL_tree_61 rfl 2 rfl ?_
  refine h_xcatch (pc := 62) (q0 := 0) (As := [.int jm1]) (rest := []) (E := xIOE) C Z (x_X4_boxAt_m1 hX0 D cT ad) (cwV 1 C.1.2.2.2.2 gL_tree_X4_boxAt rfl rfl rfl pv_X4_boxAt ⟨Nat.le_of_ble_eq_true rfl, Nat.le_of_ble_eq_true rfl⟩) dL_tree_62 rfl rfl rfl rfl rfl (Nat.le_of_ble_eq_true rfl) ⟨Nat.le_of_ble_eq_true rfl, Nat.le_of_ble_eq_true rfl⟩ [0, 1, 2, 3, 4, 5, 6, 7, 8, 9] [] [0, 1, 2, 3, 4, 5, 6, 7, 8, 9] rfl rfl rfl rfl (by decide) rfl rfl [⟨0, 73, 74, 14⟩] ⟨0, 73, 79, 22⟩ [] htab (fun z hz => by rw [List.mem_singleton.mp hz]; exact Or.inr ⟨by decide, xIAE, List.mem_of_getElem? (i := 1) rfl, Z.2.2.2.2.1.2⟩) (by decide) (by decide) (List.mem_of_getElem? (i := 2) rfl) xin_IOE (hpc := 79) rfl (fun q9 => ?_)
  refine h_astore (pc := 79) (lv' := [(5, .ref q9), (0, .ref (ad 0)), (1, .int 4), (2, .int jm1), (3, .int 0), (4, .int 0)]) C dL_tree_79 (by decide) rfl ?_
  refine h_bipush (pc := 81) (v := jm30) C dL_tree_81 (by decide) ?_
  refine h_widen (k := 1) (n := 6) (Nat.le_of_ble_eq_true rfl) (Nat.le_of_ble_eq_true rfl) ?_
  refine h_less (G1 := 1) (Nat.le_of_ble_eq_true rfl) ?_
  exact h_iret C hr dL_tree_83
abbrev rmL_isOrder : Room := { frames := 8, cells := 2, slots := 12, locals := 136 }
set_option maxRecDepth 100000 in
set_option maxHeartbeats 4000000 in
theorem g_L_isOrder {l : Launch} (hX0 : l.stackTraces = false) (D : va_G) (cT : Nat → ClassId) (ad : Nat → Nat) : gM 2 l yL_isOrder wsL_isOrder rmL_isOrder D (ty2 cT) [.ref (ad 0), .ref (ad 10)] (wG cT ad) (some (.int 1)) := by
  refine gM_of (cc := cL_isOrder) (maxL := 7) (ret := (some .boolean)) (own := RL) (lv := [(0, .ref (ad 0)), (1, .ref (ad 10))]) (by decide) rfl (Nat.le_of_ble_eq_true rfl) rfl rfl ?_
  intro p e s m args below meth c A C Z hr
  refine h_aload_n (pc := 0) C dL_isOrder_0 rfl 0 rfl ?_
  refine h_callV (pc := 1) (q0 := 0) (As := []) (rest := []) (st2 := .int 0 :: []) C (c_X4_boxes l D cT ad) (cwV 0 C.1.2.2.2.2 gL_isOrder_X4_boxes rfl rfl rfl pv_X4_boxes ⟨Nat.le_of_ble_eq_true rfl, Nat.le_of_ble_eq_true rfl⟩) dL_isOrder_1 rfl rfl rfl rfl rfl (Nat.le_of_ble_eq_true rfl) ⟨rfl, rfl⟩ ⟨Nat.le_of_ble_eq_true rfl, Nat.le_of_ble_eq_true rfl⟩ [0, 1, 2, 3, 4, 5, 6, 7, 8, 9] [10] [1, 2, 3, 4, 5, 6, 7, 8, 9, 10, 0] rfl rfl rfl rfl (by decide) rfl rfl rfl ?_
  refine h_aload_n (pc := 4) C dL_isOrder_4 rfl 1 rfl ?_
  refine h_iconst (pc := 5) (v := 1) C dL_isOrder_5 (by decide) ?_
  refine h_iald (pc := 6) (v := 0) C 10 0 rfl rfl (by unfold vp_in; decide) rfl dL_isOrder_6 ?_
  refine h_icmp_ne (pc := 7) (tgt := 42) C dL_isOrder_7 (by decide) (fun q => absurd (by decide) q) (fun _ => ?_)
  refine h_aload_n (pc := 10) C dL_isOrder_10 rfl 0 rfl ?_
  refine h_iconst (pc := 11) (v := 4) C dL_isOrder_11 (by decide) ?_
  refine h_aload_n (pc := 12) C dL_isOrder_12 rfl 1 rfl ?_
  refine h_iconst (pc := 13) (v := 1) C dL_isOrder_13 (by decide) ?_
  refine h_iald (pc := 14) (v := 0) C 10 0 rfl rfl (by unfold vp_in; decide) rfl dL_isOrder_14 ?_
  refine h_iconst (pc := 15) (v := 0) C dL_isOrder_15 (by decide) ?_
  refine h_iconst (pc := 16) (v := 0) C dL_isOrder_16 (by decide) ?_
  refine h_callSW (pc := 17) (As := [.ref (ad 0), .int 4, .int 0, .int 0, .int 0]) (rest := []) (st2 := .int jm30 :: []) C Z (g_L_tree_4_0_0_0 hX0 D cT ad) (vx_cwSW 5 C.1.2.2.2.2 gL_isOrder_L_tree rfl rfl rfl ps_L_tree ⟨Nat.le_of_ble_eq_true rfl, Nat.le_of_ble_eq_true rfl⟩) dL_isOrder_17 rfl rfl (Nat.le_of_ble_eq_true rfl) ⟨Nat.le_of_ble_eq_true rfl, Nat.le_of_ble_eq_true rfl⟩ [0, 1, 2, 3, 4, 5, 6, 7, 8, 9] [10] [1, 2, 3, 4, 5, 6, 7, 8, 9, 10, 0] rfl rfl rfl rfl (by decide) rfl rfl rfl ?_
  refine h_bipush (pc := 20) (v := jm30) C dL_isOrder_20 (by decide) ?_
  refine h_icmp_ne (pc := 22) (tgt := 42) C dL_isOrder_22 (by decide) (fun q => absurd (by decide) q) (fun _ => ?_)
  refine h_aload_n (pc := 25) C dL_isOrder_25 rfl 0 rfl ?_
  refine h_iconst (pc := 26) (v := 4) C dL_isOrder_26 (by decide) ?_
  refine h_iconst (pc := 27) (v := jm1) C dL_isOrder_27 (by decide) ?_
  refine h_iconst (pc := 28) (v := 0) C dL_isOrder_28 (by decide) ?_
  refine h_iconst (pc := 29) (v := 0) C dL_isOrder_29 (by decide) ?_
  refine h_callSW (pc := 30) (As := [.ref (ad 0), .int 4, .int jm1, .int 0, .int 0]) (rest := []) (st2 := .int jm30 :: []) C Z (g_L_tree_4_m1_0_0 hX0 D cT ad) (vx_cwSW 5 C.1.2.2.2.2 gL_isOrder_L_tree rfl rfl rfl ps_L_tree ⟨Nat.le_of_ble_eq_true rfl, Nat.le_of_ble_eq_true rfl⟩) dL_isOrder_30 rfl rfl (Nat.le_of_ble_eq_true rfl) ⟨Nat.le_of_ble_eq_true rfl, Nat.le_of_ble_eq_true rfl⟩ [0, 1, 2, 3, 4, 5, 6, 7, 8, 9] [10] [1, 2, 3, 4, 5, 6, 7, 8, 9, 10, 0] rfl rfl rfl rfl (by decide) rfl rfl rfl ?_
  refine h_bipush (pc := 33) (v := jm30) C dL_isOrder_33 (by decide) ?_
  refine h_icmp_ne (pc := 35) (tgt := 42) C dL_isOrder_35 (by decide) (fun q => absurd (by decide) q) (fun _ => ?_)
  refine h_iconst (pc := 38) (v := 1) C dL_isOrder_38 (by decide) ?_
  refine h_goto (pc := 39) (tgt := 43) C dL_isOrder_39 (by decide) ?_
  refine h_istore_n (pc := 43) (lv' := [(2, .int 1), (0, .ref (ad 0)), (1, .ref (ad 10))]) C dL_isOrder_43 rfl (by decide) rfl ?_
  refine h_iconst (pc := 44) (v := 0) C dL_isOrder_44 (by decide) ?_
  refine h_istore_n (pc := 45) (lv' := [(3, .int 0), (2, .int 1), (0, .ref (ad 0)), (1, .ref (ad 10))]) C dL_isOrder_45 rfl (by decide) rfl ?_
  refine h_iload_n (pc := 46) C dL_isOrder_46 rfl 0 rfl ?_
  refine h_aload_n (pc := 47) C dL_isOrder_47 rfl 3 rfl ?_
  refine h_iconst (pc := 48) (v := 1) C dL_isOrder_48 (by decide) ?_
  refine h_iald (pc := 49) (v := 0) C 10 0 rfl rfl (by unfold vp_in; decide) rfl dL_isOrder_49 ?_
  refine h_icmp_ge (pc := 50) (tgt := 187) C dL_isOrder_50 (by decide) (fun _ => ?_) (fun q => absurd (by decide) q)
  refine h_iload_n (pc := 187) C dL_isOrder_187 rfl 1 rfl ?_
  refine h_widen (k := 2) (n := 12) (Nat.le_of_ble_eq_true rfl) (Nat.le_of_ble_eq_true rfl) ?_
  refine h_less (G1 := 2) (Nat.le_of_ble_eq_true rfl) ?_
  exact h_zret C hr rfl dL_isOrder_188
abbrev rmL_tree_0_0_0_0 : Room := { frames := 7, cells := 1, slots := 6, locals := 111 }
set_option maxRecDepth 100000 in
set_option maxHeartbeats 4000000 in
theorem g_L_tree_0_0_0_0 {l : Launch} (hX0 : l.stackTraces = false) (D : va_G) (cT : Nat → ClassId) (ad : Nat → Nat) : gM 1 l yL_tree wsL_tree rmL_tree_0_0_0_0 D (ty2 cT) [.ref (ad 0), .int 0, .int 0, .int 0, .int 0] (wX cT ad) (some (.int jm30)) := by
  refine gM_ofW (cc := cL_tree) (maxL := 6) (ret := (some .int)) (hh := [(0, 73, 74, 14), (0, 73, 79, 22)]) (own := RL) (lv := [(0, .ref (ad 0)), (1, .int 0), (2, .int 0), (3, .int 0), (4, .int 0)]) (by decide) rfl (Nat.le_of_ble_eq_true rfl) rfl rfl ?_
  intro p e s m args below meth c A C Z htab hr
  refine h_iload_n (pc := 0) C dL_tree_0 rfl 1 rfl ?_
  refine h_if_ne (pc := 1) (tgt := 12) C dL_tree_1 (by decide) (fun q => absurd (by decide) q) (fun _ => ?_)
  refine h_aload_n (pc := 4) C dL_tree_4 rfl 0 rfl ?_
  refine h_iload_n (pc := 5) C dL_tree_5 rfl 2 rfl ?_
  refine h_xcatch (pc := 6) (q0 := 0) (As := [.int 0]) (rest := []) (E := xIOE) C Z (x_X4_nodes_0 hX0 D cT ad) (cwV 1 C.1.2.2.2.2 gL_tree_X4_nodes rfl rfl rfl pv_X4_nodes ⟨Nat.le_of_ble_eq_true rfl, Nat.le_of_ble_eq_true rfl⟩) dL_tree_6 rfl rfl rfl rfl rfl (Nat.le_of_ble_eq_true rfl) ⟨Nat.le_of_ble_eq_true rfl, Nat.le_of_ble_eq_true rfl⟩ [0, 1, 2, 3, 4, 5, 6, 7, 8, 9] [] [0, 1, 2, 3, 4, 5, 6, 7, 8, 9] rfl rfl rfl rfl (by decide) rfl rfl [⟨0, 73, 74, 14⟩] ⟨0, 73, 79, 22⟩ [] htab (fun z hz => by rw [List.mem_singleton.mp hz]; exact Or.inr ⟨by decide, xIAE, List.mem_of_getElem? (i := 1) rfl, Z.2.2.2.2.1.2⟩) (by decide) (by decide) (List.mem_of_getElem? (i := 2) rfl) xin_IOE (hpc := 79) rfl (fun q9 => ?_)
  refine h_astore (pc := 79) (lv' := [(5, .ref q9), (0, .ref (ad 0)), (1, .int 0), (2, .int 0), (3, .int 0), (4, .int 0)]) C dL_tree_79 (by decide) rfl ?_
  refine h_bipush (pc := 81) (v := jm30) C dL_tree_81 (by decide) ?_
  refine h_widen (k := 1) (n := 6) (Nat.le_of_ble_eq_true rfl) (Nat.le_of_ble_eq_true rfl) ?_
  refine h_less (G1 := 1) (Nat.le_of_ble_eq_true rfl) ?_
  exact h_iret C hr dL_tree_83
abbrev rmL_tree_0_m1_0_0 : Room := { frames := 7, cells := 1, slots := 6, locals := 111 }
set_option maxRecDepth 100000 in
set_option maxHeartbeats 4000000 in
theorem g_L_tree_0_m1_0_0 {l : Launch} (hX0 : l.stackTraces = false) (D : va_G) (cT : Nat → ClassId) (ad : Nat → Nat) : gM 1 l yL_tree wsL_tree rmL_tree_0_m1_0_0 D (ty2 cT) [.ref (ad 0), .int 0, .int jm1, .int 0, .int 0] (wX cT ad) (some (.int jm30)) := by
  refine gM_ofW (cc := cL_tree) (maxL := 6) (ret := (some .int)) (hh := [(0, 73, 74, 14), (0, 73, 79, 22)]) (own := RL) (lv := [(0, .ref (ad 0)), (1, .int 0), (2, .int jm1), (3, .int 0), (4, .int 0)]) (by decide) rfl (Nat.le_of_ble_eq_true rfl) rfl rfl ?_
  intro p e s m args below meth c A C Z htab hr
  refine h_iload_n (pc := 0) C dL_tree_0 rfl 1 rfl ?_
  refine h_if_ne (pc := 1) (tgt := 12) C dL_tree_1 (by decide) (fun q => absurd (by decide) q) (fun _ => ?_)
  refine h_aload_n (pc := 4) C dL_tree_4 rfl 0 rfl ?_
  refine h_iload_n (pc := 5) C dL_tree_5 rfl 2 rfl ?_
  refine h_xcatch (pc := 6) (q0 := 0) (As := [.int jm1]) (rest := []) (E := xIOE) C Z (x_X4_nodes_m1 hX0 D cT ad) (cwV 1 C.1.2.2.2.2 gL_tree_X4_nodes rfl rfl rfl pv_X4_nodes ⟨Nat.le_of_ble_eq_true rfl, Nat.le_of_ble_eq_true rfl⟩) dL_tree_6 rfl rfl rfl rfl rfl (Nat.le_of_ble_eq_true rfl) ⟨Nat.le_of_ble_eq_true rfl, Nat.le_of_ble_eq_true rfl⟩ [0, 1, 2, 3, 4, 5, 6, 7, 8, 9] [] [0, 1, 2, 3, 4, 5, 6, 7, 8, 9] rfl rfl rfl rfl (by decide) rfl rfl [⟨0, 73, 74, 14⟩] ⟨0, 73, 79, 22⟩ [] htab (fun z hz => by rw [List.mem_singleton.mp hz]; exact Or.inr ⟨by decide, xIAE, List.mem_of_getElem? (i := 1) rfl, Z.2.2.2.2.1.2⟩) (by decide) (by decide) (List.mem_of_getElem? (i := 2) rfl) xin_IOE (hpc := 79) rfl (fun q9 => ?_)
  refine h_astore (pc := 79) (lv' := [(5, .ref q9), (0, .ref (ad 0)), (1, .int 0), (2, .int jm1), (3, .int 0), (4, .int 0)]) C dL_tree_79 (by decide) rfl ?_
  refine h_bipush (pc := 81) (v := jm30) C dL_tree_81 (by decide) ?_
  refine h_widen (k := 1) (n := 6) (Nat.le_of_ble_eq_true rfl) (Nat.le_of_ble_eq_true rfl) ?_
  refine h_less (G1 := 1) (Nat.le_of_ble_eq_true rfl) ?_
  exact h_iret C hr dL_tree_83
abbrev rmL_tightness : Room := { frames := 7, cells := 1, slots := 6, locals := 113 }
set_option maxRecDepth 100000 in
set_option maxHeartbeats 4000000 in
theorem g_L_tightness {l : Launch} (hX0 : l.stackTraces = false) (D : va_G) (cT : Nat → ClassId) (ad : Nat → Nat) : gM 1 l yL_tightness wsL_tightness rmL_tightness D (ty2 cT) [.ref (ad 0)] (wX cT ad) (some (.float 3212836864)) := by
  refine gM_ofW (cc := cL_tightness) (maxL := 2) (ret := (some .float)) (hh := [(0, 4, 5, 16)]) (own := RL) (lv := [(0, .ref (ad 0))]) (by decide) rfl (Nat.le_of_ble_eq_true rfl) rfl rfl ?_
  intro p e s m args below meth c A C Z htab hr
  refine h_aload_n (pc := 0) C dL_tightness_0 rfl 0 rfl ?_
  refine h_xcatch (pc := 1) (q0 := 0) (As := []) (rest := []) (E := xISE) C Z (x_X4_tightness hX0 D cT ad) (cwV 0 C.1.2.2.2.2 gL_tightness_X4_tightness rfl rfl rfl pv_X4_tightness ⟨Nat.le_of_ble_eq_true rfl, Nat.le_of_ble_eq_true rfl⟩) dL_tightness_1 rfl rfl rfl rfl rfl (Nat.le_of_ble_eq_true rfl) ⟨Nat.le_of_ble_eq_true rfl, Nat.le_of_ble_eq_true rfl⟩ [0, 1, 2, 3, 4, 5, 6, 7, 8, 9] [] [0, 1, 2, 3, 4, 5, 6, 7, 8, 9] rfl rfl rfl rfl (by decide) rfl rfl [] ⟨0, 4, 5, 16⟩ [] htab (fun z hz => nomatch hz) (by decide) (by decide) (List.mem_of_getElem? (i := 1) rfl) xin_ISE (hpc := 5) rfl (fun q9 => ?_)
  refine h_astore_n (pc := 5) (lv' := [(1, .ref q9), (0, .ref (ad 0))]) C dL_tightness_5 rfl (by decide) rfl ?_
  refine h_ldcf (pc := 6) (v := 3212836864) C (List.mem_of_getElem? (i := 2) rfl) dL_tightness_6 ?_
  refine h_widen (k := 1) (n := 6) (Nat.le_of_ble_eq_true rfl) (Nat.le_of_ble_eq_true rfl) ?_
  refine h_less (G1 := 1) (Nat.le_of_ble_eq_true rfl) ?_
  exact h_fret C hr dL_tightness_8
abbrev rmL_isTree : Room := { frames := 8, cells := 3, slots := 18, locals := 136 }
set_option maxRecDepth 100000 in
set_option maxHeartbeats 4000000 in
theorem g_L_isTree {l : Launch} (hX0 : l.stackTraces = false) (D : va_G) (cT : Nat → ClassId) (ad : Nat → Nat) : gM 3 l yL_isTree wsL_isTree rmL_isTree D (ty2 cT) [.ref (ad 0), .ref (ad 10)] (wG cT ad) (some (.int 1)) := by
  refine gM_of (cc := cL_isTree) (maxL := 14) (ret := (some .boolean)) (own := RL) (lv := [(0, .ref (ad 0)), (1, .ref (ad 10))]) (by decide) rfl (Nat.le_of_ble_eq_true rfl) rfl rfl ?_
  intro p e s m args below meth c A C Z hr
  refine h_aload_n (pc := 0) C dL_isTree_0 rfl 1 rfl ?_
  refine h_iconst (pc := 1) (v := 1) C dL_isTree_1 (by decide) ?_
  refine h_iald (pc := 2) (v := 0) C 10 0 rfl rfl (by unfold vp_in; decide) rfl dL_isTree_2 ?_
  refine h_istore_n (pc := 3) (lv' := [(2, .int 0), (0, .ref (ad 0)), (1, .ref (ad 10))]) C dL_isTree_3 rfl (by decide) rfl ?_
  refine h_aload_n (pc := 4) C dL_isTree_4 rfl 1 rfl ?_
  refine h_callV (pc := 5) (q0 := 0) (As := []) (rest := []) (st2 := .int 0 :: []) C (c_X4_levels l D cT ad) (cwV 0 C.1.2.2.2.2 gL_isTree_X4_levels rfl rfl rfl pv_X4_levels ⟨Nat.le_of_ble_eq_true rfl, Nat.le_of_ble_eq_true rfl⟩) dL_isTree_5 rfl rfl rfl rfl rfl (Nat.le_of_ble_eq_true rfl) ⟨rfl, rfl⟩ ⟨Nat.le_of_ble_eq_true rfl, Nat.le_of_ble_eq_true rfl⟩ [0, 1, 2, 3, 4, 5, 6, 7, 8, 9] [10] [1, 2, 3, 4, 5, 6, 7, 8, 9, 10, 0] rfl rfl rfl rfl (by decide) rfl rfl rfl ?_
  refine h_istore_n (pc := 8) (lv' := [(3, .int 0), (2, .int 0), (0, .ref (ad 0)), (1, .ref (ad 10))]) C dL_isTree_8 rfl (by decide) rfl ?_
  refine h_iload_n (pc := 9) C dL_isTree_9 rfl 0 rfl ?_
  refine h_if_ne (pc := 10) (tgt := 17) C dL_isTree_10 (by decide) (fun q => absurd (by decide) q) (fun _ => ?_)
  refine h_iconst (pc := 13) (v := 1) C dL_isTree_13 (by decide) ?_
  refine h_goto (pc := 14) (tgt := 18) C dL_isTree_14 (by decide) ?_
  refine h_aload_n (pc := 18) C dL_isTree_18 rfl 3 rfl ?_
  refine h_iconst (pc := 19) (v := 1) C dL_isTree_19 (by decide) ?_
  refine h_iald (pc := 20) (v := 0) C 10 0 rfl rfl (by unfold vp_in; decide) rfl dL_isTree_20 ?_
  refine h_if_ne (pc := 21) (tgt := 28) C dL_isTree_21 (by decide) (fun q => absurd (by decide) q) (fun _ => ?_)
  refine h_iconst (pc := 24) (v := 1) C dL_isTree_24 (by decide) ?_
  refine h_goto (pc := 25) (tgt := 29) C dL_isTree_25 (by decide) ?_
  refine h_icmp_ne (pc := 29) (tgt := 68) C dL_isTree_29 (by decide) (fun q => absurd (by decide) q) (fun _ => ?_)
  refine h_iload_n (pc := 32) C dL_isTree_32 rfl 0 rfl ?_
  refine h_bipush (pc := 33) (v := 9) C dL_isTree_33 (by decide) ?_
  refine h_icmp_ge (pc := 35) (tgt := 68) C dL_isTree_35 (by decide) (fun q => absurd q (by decide)) (fun _ => ?_)
  refine h_aload_n (pc := 38) C dL_isTree_38 rfl 2 rfl ?_
  refine h_iconst (pc := 39) (v := 0) C dL_isTree_39 (by decide) ?_
  refine h_iload_n (pc := 40) C dL_isTree_40 rfl 0 rfl ?_
  refine h_iconst (pc := 41) (v := 0) C dL_isTree_41 (by decide) ?_
  refine h_iconst (pc := 42) (v := 0) C dL_isTree_42 (by decide) ?_
  refine h_callSW (pc := 43) (As := [.ref (ad 0), .int 0, .int 0, .int 0, .int 0]) (rest := []) (st2 := .int jm30 :: []) C Z (g_L_tree_0_0_0_0 hX0 D cT ad) (vx_cwSW 5 C.1.2.2.2.2 gL_isTree_L_tree rfl rfl rfl ps_L_tree ⟨Nat.le_of_ble_eq_true rfl, Nat.le_of_ble_eq_true rfl⟩) dL_isTree_43 rfl rfl (Nat.le_of_ble_eq_true rfl) ⟨Nat.le_of_ble_eq_true rfl, Nat.le_of_ble_eq_true rfl⟩ [0, 1, 2, 3, 4, 5, 6, 7, 8, 9] [10] [1, 2, 3, 4, 5, 6, 7, 8, 9, 10, 0] rfl rfl rfl rfl (by decide) rfl rfl rfl ?_
  refine h_bipush (pc := 46) (v := jm30) C dL_isTree_46 (by decide) ?_
  refine h_icmp_ne (pc := 48) (tgt := 68) C dL_isTree_48 (by decide) (fun q => absurd (by decide) q) (fun _ => ?_)
  refine h_aload_n (pc := 51) C dL_isTree_51 rfl 2 rfl ?_
  refine h_iconst (pc := 52) (v := 0) C dL_isTree_52 (by decide) ?_
  refine h_iconst (pc := 53) (v := jm1) C dL_isTree_53 (by decide) ?_
  refine h_iconst (pc := 54) (v := 0) C dL_isTree_54 (by decide) ?_
  refine h_iconst (pc := 55) (v := 0) C dL_isTree_55 (by decide) ?_
  refine h_callSW (pc := 56) (As := [.ref (ad 0), .int 0, .int jm1, .int 0, .int 0]) (rest := []) (st2 := .int jm30 :: []) C Z (g_L_tree_0_m1_0_0 hX0 D cT ad) (vx_cwSW 5 C.1.2.2.2.2 gL_isTree_L_tree rfl rfl rfl ps_L_tree ⟨Nat.le_of_ble_eq_true rfl, Nat.le_of_ble_eq_true rfl⟩) dL_isTree_56 rfl rfl (Nat.le_of_ble_eq_true rfl) ⟨Nat.le_of_ble_eq_true rfl, Nat.le_of_ble_eq_true rfl⟩ [0, 1, 2, 3, 4, 5, 6, 7, 8, 9] [10] [1, 2, 3, 4, 5, 6, 7, 8, 9, 10, 0] rfl rfl rfl rfl (by decide) rfl rfl rfl ?_
  refine h_bipush (pc := 59) (v := jm30) C dL_isTree_59 (by decide) ?_
  refine h_icmp_ne (pc := 61) (tgt := 68) C dL_isTree_61 (by decide) (fun q => absurd (by decide) q) (fun _ => ?_)
  refine h_iconst (pc := 64) (v := 1) C dL_isTree_64 (by decide) ?_
  refine h_goto (pc := 65) (tgt := 69) C dL_isTree_65 (by decide) ?_
  refine h_istore (pc := 69) (lv' := [(4, .int 1), (3, .int 0), (2, .int 0), (0, .ref (ad 0)), (1, .ref (ad 10))]) C dL_isTree_69 (by decide) rfl ?_
  refine h_iconst (pc := 71) (v := 0) C dL_isTree_71 (by decide) ?_
  refine h_istore (pc := 72) (lv' := [(5, .int 0), (4, .int 1), (3, .int 0), (2, .int 0), (0, .ref (ad 0)), (1, .ref (ad 10))]) C dL_isTree_72 (by decide) rfl ?_
  refine h_iload (pc := 74) C dL_isTree_74 0 rfl ?_
  refine h_iload_n (pc := 76) C dL_isTree_76 rfl 2 rfl ?_
  refine h_icmp_ge (pc := 77) (tgt := 418) C dL_isTree_77 (by decide) (fun _ => ?_) (fun q => absurd (by decide) q)
  refine h_aload_n (pc := 418) C dL_isTree_418 rfl 4 rfl ?_
  refine h_callSW (pc := 419) (As := [.ref (ad 0)]) (rest := []) (st2 := .float 3212836864 :: []) C Z (g_L_tightness hX0 D cT ad) (vx_cwSW 1 C.1.2.2.2.2 gL_isTree_L_tightness rfl rfl rfl ps_L_tightness ⟨Nat.le_of_ble_eq_true rfl, Nat.le_of_ble_eq_true rfl⟩) dL_isTree_419 rfl rfl (Nat.le_of_ble_eq_true rfl) ⟨Nat.le_of_ble_eq_true rfl, Nat.le_of_ble_eq_true rfl⟩ [0, 1, 2, 3, 4, 5, 6, 7, 8, 9] [10] [1, 2, 3, 4, 5, 6, 7, 8, 9, 10, 0] rfl rfl rfl rfl (by decide) rfl rfl rfl ?_
  refine h_fstore (pc := 422) (lv' := [(5, .float 3212836864), (4, .int 1), (3, .int 0), (2, .int 0), (0, .ref (ad 0)), (1, .ref (ad 10))]) C dL_isTree_422 (by decide) rfl ?_
  refine h_iload (pc := 424) C dL_isTree_424 1 rfl ?_
  refine h_if_eq (pc := 426) (tgt := 491) C dL_isTree_426 (by decide) (fun q => absurd q (by decide)) (fun _ => ?_)
  refine h_iload_n (pc := 429) C dL_isTree_429 rfl 2 rfl ?_
  refine h_if_eq (pc := 430) (tgt := 455) C dL_isTree_430 (by decide) (fun _ => ?_) (fun q => absurd (by decide) q)
  refine h_iload_n (pc := 455) C dL_isTree_455 rfl 2 rfl ?_
  refine h_if_ne (pc := 456) (tgt := 470) C dL_isTree_456 (by decide) (fun q => absurd (by decide) q) (fun _ => ?_)
  refine h_fload (pc := 459) C dL_isTree_459 0 rfl ?_
  refine h_ldcf (pc := 461) (v := 3212836864) C (List.mem_of_getElem? (i := 1) rfl) dL_isTree_461 ?_
  refine h_fcmp (pc := 463) C dL_isTree_463 ?_
  refine h_eq (v := 0) (by decide +kernel) ?_
  refine h_if_ne (pc := 464) (tgt := 491) C dL_isTree_464 (by decide) (fun q => absurd (by decide) q) (fun _ => ?_)
  refine h_goto (pc := 467) (tgt := 487) C dL_isTree_467 (by decide) ?_
  refine h_iconst (pc := 487) (v := 1) C dL_isTree_487 (by decide) ?_
  refine h_goto (pc := 488) (tgt := 492) C dL_isTree_488 (by decide) ?_
  refine h_widen (k := 3) (n := 18) (Nat.le_of_ble_eq_true rfl) (Nat.le_of_ble_eq_true rfl) ?_
  refine h_less (G1 := 3) (Nat.le_of_ble_eq_true rfl) ?_
  exact h_zret C hr rfl dL_isTree_492
abbrev rmL_areAll : Room := { frames := 9, cells := 5, slots := 30, locals := 169 }
set_option maxRecDepth 100000 in
set_option maxHeartbeats 4000000 in
theorem g_L_areAll {l : Launch} (hX0 : l.stackTraces = false) (D : va_G) (cT : Nat → ClassId) (ad : Nat → Nat) : gM 5 l yL_areAll wsL_areAll rmL_areAll D (ty2 cT) [.ref (ad 0), .ref (ad 10)] (wG cT ad) (some (.int 1)) := by
  refine gM_of (cc := cL_areAll) (maxL := 2) (ret := (some .boolean)) (own := RL) (lv := [(0, .ref (ad 0)), (1, .ref (ad 10))]) (by decide) rfl (Nat.le_of_ble_eq_true rfl) rfl rfl ?_
  intro p e s m args below meth c A C Z hr
  refine h_aload_n (pc := 0) C dL_areAll_0 rfl 0 rfl ?_
  refine h_aload_n (pc := 1) C dL_areAll_1 rfl 1 rfl ?_
  refine h_callS (pc := 2) (As := [.ref (ad 0), .ref (ad 10)]) (rest := []) (st2 := .int 1 :: []) C Z (g_L_isOrder hX0 D cT ad) (va_cwS 2 C.1.2.2.2.2 gL_areAll_L_isOrder rfl rfl rfl ps_L_isOrder ⟨Nat.le_of_ble_eq_true rfl, Nat.le_of_ble_eq_true rfl⟩) dL_areAll_2 rfl rfl (Nat.le_of_ble_eq_true rfl) ⟨Nat.le_of_ble_eq_true rfl, Nat.le_of_ble_eq_true rfl⟩ [0, 1, 2, 3, 4, 5, 6, 7, 8, 9, 10] [] [0, 1, 2, 3, 4, 5, 6, 7, 8, 9, 10] rfl rfl rfl rfl (by decide) rfl rfl rfl ?_
  refine h_if_eq (pc := 5) (tgt := 20) C dL_areAll_5 (by decide) (fun q => absurd q (by decide)) (fun _ => ?_)
  refine h_aload_n (pc := 8) C dL_areAll_8 rfl 0 rfl ?_
  refine h_aload_n (pc := 9) C dL_areAll_9 rfl 1 rfl ?_
  refine h_callS (pc := 10) (As := [.ref (ad 0), .ref (ad 10)]) (rest := []) (st2 := .int 1 :: []) C Z (g_L_isTree hX0 D cT ad) (va_cwS 2 C.1.2.2.2.2 gL_areAll_L_isTree rfl rfl rfl ps_L_isTree ⟨Nat.le_of_ble_eq_true rfl, Nat.le_of_ble_eq_true rfl⟩) dL_areAll_10 rfl rfl (Nat.le_of_ble_eq_true rfl) ⟨Nat.le_of_ble_eq_true rfl, Nat.le_of_ble_eq_true rfl⟩ [0, 1, 2, 3, 4, 5, 6, 7, 8, 9, 10] [] [0, 1, 2, 3, 4, 5, 6, 7, 8, 9, 10] rfl rfl rfl rfl (by decide) rfl rfl rfl ?_
  refine h_if_eq (pc := 13) (tgt := 20) C dL_areAll_13 (by decide) (fun q => absurd q (by decide)) (fun _ => ?_)
  refine h_iconst (pc := 16) (v := 1) C dL_areAll_16 (by decide) ?_
  refine h_goto (pc := 17) (tgt := 21) C dL_areAll_17 (by decide) ?_
  refine h_widen (k := 5) (n := 30) (Nat.le_of_ble_eq_true rfl) (Nat.le_of_ble_eq_true rfl) ?_
  refine h_less (G1 := 5) (Nat.le_of_ble_eq_true rfl) ?_
  exact h_zret C hr rfl dL_areAll_21
abbrev rmL_pair_0 : Room := { frames := 7, cells := 1, slots := 6, locals := 114 }
set_option maxRecDepth 100000 in
set_option maxHeartbeats 4000000 in
theorem g_L_pair_0 {l : Launch} (hX0 : l.stackTraces = false) (D : va_G) (cT : Nat → ClassId) (ad : Nat → Nat) : gM 1 l yL_pair wsL_pair rmL_pair_0 D (ty2 cT) [.ref (ad 0), .int 0] (wX cT ad) (some (.int jm30)) := by
  refine gM_ofW (cc := cL_pair) (maxL := 3) (ret := (some .int)) (hh := [(0, 5, 6, 22)]) (own := RL) (lv := [(0, .ref (ad 0)), (1, .int 0)]) (by decide) rfl (Nat.le_of_ble_eq_true rfl) rfl rfl ?_
  intro p e s m args below meth c A C Z htab hr
  refine h_aload_n (pc := 0) C dL_pair_0 rfl 0 rfl ?_
  refine h_iload_n (pc := 1) C dL_pair_1 rfl 1 rfl ?_
  refine h_xcatch (pc := 2) (q0 := 0) (As := [.int 0]) (rest := []) (E := xIOE) C Z (x_X4_pair_0 hX0 D cT ad) (cwV 1 C.1.2.2.2.2 gL_pair_X4_pair rfl rfl rfl pv_X4_pair ⟨Nat.le_of_ble_eq_true rfl, Nat.le_of_ble_eq_true rfl⟩) dL_pair_2 rfl rfl rfl rfl rfl (Nat.le_of_ble_eq_true rfl) ⟨Nat.le_of_ble_eq_true rfl, Nat.le_of_ble_eq_true rfl⟩ [0, 1, 2, 3, 4, 5, 6, 7, 8, 9] [] [0, 1, 2, 3, 4, 5, 6, 7, 8, 9] rfl rfl rfl rfl (by decide) rfl rfl [] ⟨0, 5, 6, 22⟩ [] htab (fun z hz => nomatch hz) (by decide) (by decide) (List.mem_of_getElem? (i := 1) rfl) xin_IOE (hpc := 6) rfl (fun q9 => ?_)
  refine h_astore_n (pc := 6) (lv' := [(2, .ref q9), (0, .ref (ad 0)), (1, .int 0)]) C dL_pair_6 rfl (by decide) rfl ?_
  refine h_bipush (pc := 7) (v := jm30) C dL_pair_7 (by decide) ?_
  refine h_widen (k := 1) (n := 6) (Nat.le_of_ble_eq_true rfl) (Nat.le_of_ble_eq_true rfl) ?_
  refine h_less (G1 := 1) (Nat.le_of_ble_eq_true rfl) ?_
  exact h_iret C hr dL_pair_9
abbrev rmL_pair_m1 : Room := { frames := 7, cells := 1, slots := 6, locals := 114 }
set_option maxRecDepth 100000 in
set_option maxHeartbeats 4000000 in
theorem g_L_pair_m1 {l : Launch} (hX0 : l.stackTraces = false) (D : va_G) (cT : Nat → ClassId) (ad : Nat → Nat) : gM 1 l yL_pair wsL_pair rmL_pair_m1 D (ty2 cT) [.ref (ad 0), .int jm1] (wX cT ad) (some (.int jm30)) := by
  refine gM_ofW (cc := cL_pair) (maxL := 3) (ret := (some .int)) (hh := [(0, 5, 6, 22)]) (own := RL) (lv := [(0, .ref (ad 0)), (1, .int jm1)]) (by decide) rfl (Nat.le_of_ble_eq_true rfl) rfl rfl ?_
  intro p e s m args below meth c A C Z htab hr
  refine h_aload_n (pc := 0) C dL_pair_0 rfl 0 rfl ?_
  refine h_iload_n (pc := 1) C dL_pair_1 rfl 1 rfl ?_
  refine h_xcatch (pc := 2) (q0 := 0) (As := [.int jm1]) (rest := []) (E := xIOE) C Z (x_X4_pair_m1 hX0 D cT ad) (cwV 1 C.1.2.2.2.2 gL_pair_X4_pair rfl rfl rfl pv_X4_pair ⟨Nat.le_of_ble_eq_true rfl, Nat.le_of_ble_eq_true rfl⟩) dL_pair_2 rfl rfl rfl rfl rfl (Nat.le_of_ble_eq_true rfl) ⟨Nat.le_of_ble_eq_true rfl, Nat.le_of_ble_eq_true rfl⟩ [0, 1, 2, 3, 4, 5, 6, 7, 8, 9] [] [0, 1, 2, 3, 4, 5, 6, 7, 8, 9] rfl rfl rfl rfl (by decide) rfl rfl [] ⟨0, 5, 6, 22⟩ [] htab (fun z hz => nomatch hz) (by decide) (by decide) (List.mem_of_getElem? (i := 1) rfl) xin_IOE (hpc := 6) rfl (fun q9 => ?_)
  refine h_astore_n (pc := 6) (lv' := [(2, .ref q9), (0, .ref (ad 0)), (1, .int jm1)]) C dL_pair_6 rfl (by decide) rfl ?_
  refine h_bipush (pc := 7) (v := jm30) C dL_pair_7 (by decide) ?_
  refine h_widen (k := 1) (n := 6) (Nat.le_of_ble_eq_true rfl) (Nat.le_of_ble_eq_true rfl) ?_
  refine h_less (G1 := 1) (Nat.le_of_ble_eq_true rfl) ?_
  exact h_iret C hr dL_pair_9
abbrev rmL_arePairs : Room := { frames := 8, cells := 2, slots := 12, locals := 136 }
set_option maxRecDepth 100000 in
set_option maxHeartbeats 4000000 in
theorem g_L_arePairs {l : Launch} (hX0 : l.stackTraces = false) (D : va_G) (cT : Nat → ClassId) (ad : Nat → Nat) : gM 2 l yL_arePairs wsL_arePairs rmL_arePairs D (ty2 cT) [.ref (ad 0), .ref (ad 10)] (wG cT ad) (some (.int 1)) := by
  refine gM_of (cc := cL_arePairs) (maxL := 6) (ret := (some .boolean)) (own := RL) (lv := [(0, .ref (ad 0)), (1, .ref (ad 10))]) (by decide) rfl (Nat.le_of_ble_eq_true rfl) rfl rfl ?_
  intro p e s m args below meth c A C Z hr
  refine h_iconst (pc := 0) (v := 0) C dL_arePairs_0 (by decide) ?_
  refine h_istore_n (pc := 1) (lv' := [(2, .int 0), (0, .ref (ad 0)), (1, .ref (ad 10))]) C dL_arePairs_1 rfl (by decide) rfl ?_
  refine h_iconst (pc := 2) (v := 1) C dL_arePairs_2 (by decide) ?_
  refine h_istore_n (pc := 3) (lv' := [(3, .int 1), (2, .int 0), (0, .ref (ad 0)), (1, .ref (ad 10))]) C dL_arePairs_3 rfl (by decide) rfl ?_
  refine h_iconst (pc := 4) (v := 0) C dL_arePairs_4 (by decide) ?_
  refine h_istore (pc := 5) (lv' := [(4, .int 0), (3, .int 1), (2, .int 0), (0, .ref (ad 0)), (1, .ref (ad 10))]) C dL_arePairs_5 (by decide) rfl ?_
  refine h_iload (pc := 7) C dL_arePairs_7 0 rfl ?_
  refine h_aload_n (pc := 9) C dL_arePairs_9 rfl 4 rfl ?_
  refine h_iconst (pc := 10) (v := 0) C dL_arePairs_10 (by decide) ?_
  refine h_iald (pc := 11) (v := 0) C 10 0 rfl rfl (by unfold vp_in; decide) rfl dL_arePairs_11 ?_
  refine h_icmp_ge (pc := 12) (tgt := 131) C dL_arePairs_12 (by decide) (fun _ => ?_) (fun q => absurd (by decide) q)
  refine h_iload_n (pc := 131) C dL_arePairs_131 rfl 1 rfl ?_
  refine h_if_eq (pc := 132) (tgt := 167) C dL_arePairs_132 (by decide) (fun q => absurd q (by decide)) (fun _ => ?_)
  refine h_aload_n (pc := 135) C dL_arePairs_135 rfl 3 rfl ?_
  refine h_callV (pc := 136) (q0 := 0) (As := []) (rest := []) (st2 := .int 0 :: []) C (c_X4_pairs l D cT ad) (cwV 0 C.1.2.2.2.2 gL_arePairs_X4_pairs rfl rfl rfl pv_X4_pairs ⟨Nat.le_of_ble_eq_true rfl, Nat.le_of_ble_eq_true rfl⟩) dL_arePairs_136 rfl rfl rfl rfl rfl (Nat.le_of_ble_eq_true rfl) ⟨rfl, rfl⟩ ⟨Nat.le_of_ble_eq_true rfl, Nat.le_of_ble_eq_true rfl⟩ [0, 1, 2, 3, 4, 5, 6, 7, 8, 9] [10] [1, 2, 3, 4, 5, 6, 7, 8, 9, 10, 0] rfl rfl rfl rfl (by decide) rfl rfl rfl ?_
  refine h_iload_n (pc := 139) C dL_arePairs_139 rfl 2 rfl ?_
  refine h_icmp_ne (pc := 140) (tgt := 167) C dL_arePairs_140 (by decide) (fun q => absurd (by decide) q) (fun _ => ?_)
  refine h_aload_n (pc := 143) C dL_arePairs_143 rfl 3 rfl ?_
  refine h_iload_n (pc := 144) C dL_arePairs_144 rfl 2 rfl ?_
  refine h_callSW (pc := 145) (As := [.ref (ad 0), .int 0]) (rest := []) (st2 := .int jm30 :: []) C Z (g_L_pair_0 hX0 D cT ad) (vx_cwSW 2 C.1.2.2.2.2 gL_arePairs_L_pair rfl rfl rfl ps_L_pair ⟨Nat.le_of_ble_eq_true rfl, Nat.le_of_ble_eq_true rfl⟩) dL_arePairs_145 rfl rfl (Nat.le_of_ble_eq_true rfl) ⟨Nat.le_of_ble_eq_true rfl, Nat.le_of_ble_eq_true rfl⟩ [0, 1, 2, 3, 4, 5, 6, 7, 8, 9] [10] [1, 2, 3, 4, 5, 6, 7, 8, 9, 10, 0] rfl rfl rfl rfl (by decide) rfl rfl rfl ?_
  refine h_bipush (pc := 148) (v := jm30) C dL_arePairs_148 (by decide) ?_
  refine h_icmp_ne (pc := 150) (tgt := 167) C dL_arePairs_150 (by decide) (fun q => absurd (by decide) q) (fun _ => ?_)
  refine h_aload_n (pc := 153) C dL_arePairs_153 rfl 3 rfl ?_
  refine h_iconst (pc := 154) (v := jm1) C dL_arePairs_154 (by decide) ?_
  refine h_callSW (pc := 155) (As := [.ref (ad 0), .int jm1]) (rest := []) (st2 := .int jm30 :: []) C Z (g_L_pair_m1 hX0 D cT ad) (vx_cwSW 2 C.1.2.2.2.2 gL_arePairs_L_pair rfl rfl rfl ps_L_pair ⟨Nat.le_of_ble_eq_true rfl, Nat.le_of_ble_eq_true rfl⟩) dL_arePairs_155 rfl rfl (Nat.le_of_ble_eq_true rfl) ⟨Nat.le_of_ble_eq_true rfl, Nat.le_of_ble_eq_true rfl⟩ [0, 1, 2, 3, 4, 5, 6, 7, 8, 9] [10] [1, 2, 3, 4, 5, 6, 7, 8, 9, 10, 0] rfl rfl rfl rfl (by decide) rfl rfl rfl ?_
  refine h_bipush (pc := 158) (v := jm30) C dL_arePairs_158 (by decide) ?_
  refine h_icmp_ne (pc := 160) (tgt := 167) C dL_arePairs_160 (by decide) (fun q => absurd (by decide) q) (fun _ => ?_)
  refine h_iconst (pc := 163) (v := 1) C dL_arePairs_163 (by decide) ?_
  refine h_goto (pc := 164) (tgt := 168) C dL_arePairs_164 (by decide) ?_
  refine h_widen (k := 2) (n := 12) (Nat.le_of_ble_eq_true rfl) (Nat.le_of_ble_eq_true rfl) ?_
  refine h_less (G1 := 2) (Nat.le_of_ble_eq_true rfl) ?_
  exact h_zret C hr rfl dL_arePairs_168
abbrev rmL_part_x1_20 : Room := { frames := 0, cells := 0, slots := 0, locals := 0 }
set_option maxRecDepth 100000 in
set_option maxHeartbeats 4000000 in
theorem g_L_part_x1_20 {l : Launch} (hX0 : l.stackTraces = false) (D : va_G) (cT : Nat → ClassId) (ad : Nat → Nat) (x1 : Int32) (hlt : ¬ 256 ≤ x1) (hin : vp_in x1 256) : gM 0 l yL_part wsL_part rmL_part_x1_20 D (ty2 cT) [.ref (ad 11), .int x1, .int 20] (wP cT ad) (some (.int 18)) := by
  refine gM_of (cc := cL_part) (maxL := 4) (ret := (some .int)) (own := RL) (lv := [(0, .ref (ad 11)), (1, .int x1), (2, .int 20)]) (by decide) rfl (Nat.le_of_ble_eq_true rfl) rfl rfl ?_
  intro p e s m args below meth c A C Z hr
  refine h_iload_n (pc := 0) C dL_part_0 rfl 1 rfl ?_
  refine h_aload_n (pc := 1) C dL_part_1 rfl 0 rfl ?_
  refine h_alen (pc := 2) (v := 256) (ty := .int) C 0 0 rfl rfl (by decide) dL_part_2 ?_
  refine h_icmp_ge (pc := 3) (tgt := 12) C dL_part_3 (by decide) (fun q => absurd q hlt) (fun _ => ?_)
  refine h_aload_n (pc := 6) C dL_part_6 rfl 0 rfl ?_
  refine h_iload_n (pc := 7) C dL_part_7 rfl 1 rfl ?_
  refine h_iald (pc := 8) (v := 18) C 0 0 rfl rfl hin rfl dL_part_8 ?_
  refine h_goto (pc := 9) (tgt := 24) C dL_part_9 (by decide) ?_
  refine h_istore_n (pc := 24) (lv' := [(3, .int 18), (0, .ref (ad 11)), (1, .int x1), (2, .int 20)]) C dL_part_24 rfl (by decide) rfl ?_
  refine h_iload_n (pc := 25) C dL_part_25 rfl 0 rfl ?_
  refine h_ldc (pc := 26) (v := 2147483647) C (List.mem_of_getElem? (i := 1) rfl) dL_part_26 ?_
  refine h_iand (pc := 28) C dL_part_28 ?_
  refine h_eq (v := 18) (by decide) ?_
  refine h_iload_n (pc := 29) C dL_part_29 rfl 3 rfl ?_
  refine h_irem (pc := 30) C dL_part_30 (by decide) ?_
  refine h_eq (v := 18) (by decide) ?_
  refine h_widen (k := 0) (n := 0) (Nat.le_of_ble_eq_true rfl) (Nat.le_of_ble_eq_true rfl) ?_
  refine h_less (G1 := 0) (Nat.le_of_ble_eq_true rfl) ?_
  exact h_iret C hr dL_part_31
abbrev rmL_part_x1_60000 : Room := { frames := 0, cells := 0, slots := 0, locals := 0 }
set_option maxRecDepth 100000 in
set_option maxHeartbeats 4000000 in
theorem g_L_part_x1_60000 {l : Launch} (hX0 : l.stackTraces = false) (D : va_G) (cT : Nat → ClassId) (ad : Nat → Nat) (x1 : Int32) (hlt : ¬ 256 ≤ x1) (hin : vp_in x1 256) : gM 0 l yL_part wsL_part rmL_part_x1_60000 D (ty2 cT) [.ref (ad 11), .int x1, .int 60000] (wP cT ad) (some (.int 18)) := by
  refine gM_of (cc := cL_part) (maxL := 4) (ret := (some .int)) (own := RL) (lv := [(0, .ref (ad 11)), (1, .int x1), (2, .int 60000)]) (by decide) rfl (Nat.le_of_ble_eq_true rfl) rfl rfl ?_
  intro p e s m args below meth c A C Z hr
  refine h_iload_n (pc := 0) C dL_part_0 rfl 1 rfl ?_
  refine h_aload_n (pc := 1) C dL_part_1 rfl 0 rfl ?_
  refine h_alen (pc := 2) (v := 256) (ty := .int) C 0 0 rfl rfl (by decide) dL_part_2 ?_
  refine h_icmp_ge (pc := 3) (tgt := 12) C dL_part_3 (by decide) (fun q => absurd q hlt) (fun _ => ?_)
  refine h_aload_n (pc := 6) C dL_part_6 rfl 0 rfl ?_
  refine h_iload_n (pc := 7) C dL_part_7 rfl 1 rfl ?_
  refine h_iald (pc := 8) (v := 18) C 0 0 rfl rfl hin rfl dL_part_8 ?_
  refine h_goto (pc := 9) (tgt := 24) C dL_part_9 (by decide) ?_
  refine h_istore_n (pc := 24) (lv' := [(3, .int 18), (0, .ref (ad 11)), (1, .int x1), (2, .int 60000)]) C dL_part_24 rfl (by decide) rfl ?_
  refine h_iload_n (pc := 25) C dL_part_25 rfl 0 rfl ?_
  refine h_ldc (pc := 26) (v := 2147483647) C (List.mem_of_getElem? (i := 1) rfl) dL_part_26 ?_
  refine h_iand (pc := 28) C dL_part_28 ?_
  refine h_eq (v := 18) (by decide) ?_
  refine h_iload_n (pc := 29) C dL_part_29 rfl 3 rfl ?_
  refine h_irem (pc := 30) C dL_part_30 (by decide) ?_
  refine h_eq (v := 18) (by decide) ?_
  refine h_widen (k := 0) (n := 0) (Nat.le_of_ble_eq_true rfl) (Nat.le_of_ble_eq_true rfl) ?_
  refine h_less (G1 := 0) (Nat.le_of_ble_eq_true rfl) ?_
  exact h_iret C hr dL_part_31
abbrev rmL_part_x1_7000 : Room := { frames := 0, cells := 0, slots := 0, locals := 0 }
set_option maxRecDepth 100000 in
set_option maxHeartbeats 4000000 in
theorem g_L_part_x1_7000 {l : Launch} (hX0 : l.stackTraces = false) (D : va_G) (cT : Nat → ClassId) (ad : Nat → Nat) (x1 : Int32) (hlt : ¬ 256 ≤ x1) (hin : vp_in x1 256) : gM 0 l yL_part wsL_part rmL_part_x1_7000 D (ty2 cT) [.ref (ad 11), .int x1, .int 7000] (wP cT ad) (some (.int 18)) := by
  refine gM_of (cc := cL_part) (maxL := 4) (ret := (some .int)) (own := RL) (lv := [(0, .ref (ad 11)), (1, .int x1), (2, .int 7000)]) (by decide) rfl (Nat.le_of_ble_eq_true rfl) rfl rfl ?_
  intro p e s m args below meth c A C Z hr
  refine h_iload_n (pc := 0) C dL_part_0 rfl 1 rfl ?_
  refine h_aload_n (pc := 1) C dL_part_1 rfl 0 rfl ?_
  refine h_alen (pc := 2) (v := 256) (ty := .int) C 0 0 rfl rfl (by decide) dL_part_2 ?_
  refine h_icmp_ge (pc := 3) (tgt := 12) C dL_part_3 (by decide) (fun q => absurd q hlt) (fun _ => ?_)
  refine h_aload_n (pc := 6) C dL_part_6 rfl 0 rfl ?_
  refine h_iload_n (pc := 7) C dL_part_7 rfl 1 rfl ?_
  refine h_iald (pc := 8) (v := 18) C 0 0 rfl rfl hin rfl dL_part_8 ?_
  refine h_goto (pc := 9) (tgt := 24) C dL_part_9 (by decide) ?_
  refine h_istore_n (pc := 24) (lv' := [(3, .int 18), (0, .ref (ad 11)), (1, .int x1), (2, .int 7000)]) C dL_part_24 rfl (by decide) rfl ?_
  refine h_iload_n (pc := 25) C dL_part_25 rfl 0 rfl ?_
  refine h_ldc (pc := 26) (v := 2147483647) C (List.mem_of_getElem? (i := 1) rfl) dL_part_26 ?_
  refine h_iand (pc := 28) C dL_part_28 ?_
  refine h_eq (v := 18) (by decide) ?_
  refine h_iload_n (pc := 29) C dL_part_29 rfl 3 rfl ?_
  refine h_irem (pc := 30) C dL_part_30 (by decide) ?_
  refine h_eq (v := 18) (by decide) ?_
  refine h_widen (k := 0) (n := 0) (Nat.le_of_ble_eq_true rfl) (Nat.le_of_ble_eq_true rfl) ?_
  refine h_less (G1 := 0) (Nat.le_of_ble_eq_true rfl) ?_
  exact h_iret C hr dL_part_31
abbrev rmL_part_x1_8000 : Room := { frames := 0, cells := 0, slots := 0, locals := 0 }
set_option maxRecDepth 100000 in
set_option maxHeartbeats 4000000 in
theorem g_L_part_x1_8000 {l : Launch} (hX0 : l.stackTraces = false) (D : va_G) (cT : Nat → ClassId) (ad : Nat → Nat) (x1 : Int32) (hlt : ¬ 256 ≤ x1) (hin : vp_in x1 256) : gM 0 l yL_part wsL_part rmL_part_x1_8000 D (ty2 cT) [.ref (ad 11), .int x1, .int 8000] (wP cT ad) (some (.int 18)) := by
  refine gM_of (cc := cL_part) (maxL := 4) (ret := (some .int)) (own := RL) (lv := [(0, .ref (ad 11)), (1, .int x1), (2, .int 8000)]) (by decide) rfl (Nat.le_of_ble_eq_true rfl) rfl rfl ?_
  intro p e s m args below meth c A C Z hr
  refine h_iload_n (pc := 0) C dL_part_0 rfl 1 rfl ?_
  refine h_aload_n (pc := 1) C dL_part_1 rfl 0 rfl ?_
  refine h_alen (pc := 2) (v := 256) (ty := .int) C 0 0 rfl rfl (by decide) dL_part_2 ?_
  refine h_icmp_ge (pc := 3) (tgt := 12) C dL_part_3 (by decide) (fun q => absurd q hlt) (fun _ => ?_)
  refine h_aload_n (pc := 6) C dL_part_6 rfl 0 rfl ?_
  refine h_iload_n (pc := 7) C dL_part_7 rfl 1 rfl ?_
  refine h_iald (pc := 8) (v := 18) C 0 0 rfl rfl hin rfl dL_part_8 ?_
  refine h_goto (pc := 9) (tgt := 24) C dL_part_9 (by decide) ?_
  refine h_istore_n (pc := 24) (lv' := [(3, .int 18), (0, .ref (ad 11)), (1, .int x1), (2, .int 8000)]) C dL_part_24 rfl (by decide) rfl ?_
  refine h_iload_n (pc := 25) C dL_part_25 rfl 0 rfl ?_
  refine h_ldc (pc := 26) (v := 2147483647) C (List.mem_of_getElem? (i := 1) rfl) dL_part_26 ?_
  refine h_iand (pc := 28) C dL_part_28 ?_
  refine h_eq (v := 18) (by decide) ?_
  refine h_iload_n (pc := 29) C dL_part_29 rfl 3 rfl ?_
  refine h_irem (pc := 30) C dL_part_30 (by decide) ?_
  refine h_eq (v := 18) (by decide) ?_
  refine h_widen (k := 0) (n := 0) (Nat.le_of_ble_eq_true rfl) (Nat.le_of_ble_eq_true rfl) ?_
  refine h_less (G1 := 0) (Nat.le_of_ble_eq_true rfl) ?_
  exact h_iret C hr dL_part_31
abbrev rmL_isDone_x2 : Room := { frames := 9, cells := 2, slots := 12, locals := 161 }
set_option maxRecDepth 100000 in
set_option maxHeartbeats 4000000 in
theorem g_L_isDone_x2 {l : Launch} (hX0 : l.stackTraces = false) (D : va_G) (cT : Nat → ClassId) (ad : Nat → Nat) (x2 : Int32) (h0 : pAt x2) (h1 : pAt (x2 + 1)) (h2 : pAt (x2 + 2)) (h3 : pAt (x2 + 3)) : gM 2 l yL_isDone wsL_isDone rmL_isDone_x2 D (ty2 cT) [.ref (ad 0), .ref (ad 11), .int x2, .ref (ad 10)] (wN cT ad) (some (.int 1)) := by
  refine gM_of (cc := cL_isDone) (maxL := 12) (ret := (some .boolean)) (own := RL) (lv := [(0, .ref (ad 0)), (1, .ref (ad 11)), (2, .int x2), (3, .ref (ad 10))]) (by decide) rfl (Nat.le_of_ble_eq_true rfl) rfl rfl ?_
  intro p e s m args below meth c A C Z hr
  refine h_aload_n (pc := 0) C dL_isDone_0 rfl 1 rfl ?_
  refine h_iload_n (pc := 1) C dL_isDone_1 rfl 2 rfl ?_
  refine h_bipush (pc := 2) (v := 20) C dL_isDone_2 (by decide) ?_
  refine h_callS (pc := 4) (As := [.ref (ad 11), .int x2, .int 20]) (rest := []) (st2 := .int 18 :: []) C Z (g_L_part_x1_20 hX0 D cT ad (x2) h0.1 h0.2) (va_cwS 3 C.1.2.2.2.2 gL_isDone_L_part rfl rfl rfl ps_L_part ⟨Nat.le_of_ble_eq_true rfl, Nat.le_of_ble_eq_true rfl⟩) dL_isDone_4 rfl rfl (Nat.le_of_ble_eq_true rfl) ⟨Nat.le_of_ble_eq_true rfl, Nat.le_of_ble_eq_true rfl⟩ [11] [0, 1, 2, 3, 4, 5, 6, 7, 8, 9, 10] [0, 1, 2, 3, 4, 5, 6, 7, 8, 9, 10, 11] rfl rfl rfl rfl (by decide) rfl rfl rfl ?_
  refine h_istore (pc := 7) (lv' := [(4, .int 18), (0, .ref (ad 0)), (1, .ref (ad 11)), (2, .int x2), (3, .ref (ad 10))]) C dL_isDone_7 (by decide) rfl ?_
  refine h_aload_n (pc := 9) C dL_isDone_9 rfl 2 rfl ?_
  refine h_iload_n (pc := 10) C dL_isDone_10 rfl 3 rfl ?_
  refine h_iconst (pc := 11) (v := 1) C dL_isDone_11 (by decide) ?_
  refine h_iadd (pc := 12) C dL_isDone_12 ?_
  refine h_ldc (pc := 13) (v := 60000) C (List.mem_of_getElem? (i := 1) rfl) dL_isDone_13 ?_
  refine h_callS (pc := 15) (As := [.ref (ad 11), .int (x2 + 1), .int 60000]) (rest := []) (st2 := .int 18 :: []) C Z (g_L_part_x1_60000 hX0 D cT ad (x2 + 1) h1.1 h1.2) (va_cwS 3 C.1.2.2.2.2 gL_isDone_L_part rfl rfl rfl ps_L_part ⟨Nat.le_of_ble_eq_true rfl, Nat.le_of_ble_eq_true rfl⟩) dL_isDone_15 rfl rfl (Nat.le_of_ble_eq_true rfl) ⟨Nat.le_of_ble_eq_true rfl, Nat.le_of_ble_eq_true rfl⟩ [11] [0, 1, 2, 3, 4, 5, 6, 7, 8, 9, 10] [0, 1, 2, 3, 4, 5, 6, 7, 8, 9, 10, 11] rfl rfl rfl rfl (by decide) rfl rfl rfl ?_
  refine h_istore (pc := 18) (lv' := [(5, .int 18), (4, .int 18), (0, .ref (ad 0)), (1, .ref (ad 11)), (2, .int x2), (3, .ref (ad 10))]) C dL_isDone_18 (by decide) rfl ?_
  refine h_aload_n (pc := 20) C dL_isDone_20 rfl 3 rfl ?_
  refine h_iload_n (pc := 21) C dL_isDone_21 rfl 4 rfl ?_
  refine h_iconst (pc := 22) (v := 2) C dL_isDone_22 (by decide) ?_
  refine h_iadd (pc := 23) C dL_isDone_23 ?_
  refine h_sipush (pc := 24) (v := 7000) C dL_isDone_24 (by decide) ?_
  refine h_callS (pc := 27) (As := [.ref (ad 11), .int (x2 + 2), .int 7000]) (rest := []) (st2 := .int 18 :: []) C Z (g_L_part_x1_7000 hX0 D cT ad (x2 + 2) h2.1 h2.2) (va_cwS 3 C.1.2.2.2.2 gL_isDone_L_part rfl rfl rfl ps_L_part ⟨Nat.le_of_ble_eq_true rfl, Nat.le_of_ble_eq_true rfl⟩) dL_isDone_27 rfl rfl (Nat.le_of_ble_eq_true rfl) ⟨Nat.le_of_ble_eq_true rfl, Nat.le_of_ble_eq_true rfl⟩ [11] [0, 1, 2, 3, 4, 5, 6, 7, 8, 9, 10] [0, 1, 2, 3, 4, 5, 6, 7, 8, 9, 10, 11] rfl rfl rfl rfl (by decide) rfl rfl rfl ?_
  refine h_istore (pc := 30) (lv' := [(6, .int 18), (5, .int 18), (4, .int 18), (0, .ref (ad 0)), (1, .ref (ad 11)), (2, .int x2), (3, .ref (ad 10))]) C dL_isDone_30 (by decide) rfl ?_
  refine h_aload_n (pc := 32) C dL_isDone_32 rfl 4 rfl ?_
  refine h_iload_n (pc := 33) C dL_isDone_33 rfl 5 rfl ?_
  refine h_iconst (pc := 34) (v := 3) C dL_isDone_34 (by decide) ?_
  refine h_iadd (pc := 35) C dL_isDone_35 ?_
  refine h_sipush (pc := 36) (v := 8000) C dL_isDone_36 (by decide) ?_
  refine h_callS (pc := 39) (As := [.ref (ad 11), .int (x2 + 3), .int 8000]) (rest := []) (st2 := .int 18 :: []) C Z (g_L_part_x1_8000 hX0 D cT ad (x2 + 3) h3.1 h3.2) (va_cwS 3 C.1.2.2.2.2 gL_isDone_L_part rfl rfl rfl ps_L_part ⟨Nat.le_of_ble_eq_true rfl, Nat.le_of_ble_eq_true rfl⟩) dL_isDone_39 rfl rfl (Nat.le_of_ble_eq_true rfl) ⟨Nat.le_of_ble_eq_true rfl, Nat.le_of_ble_eq_true rfl⟩ [11] [0, 1, 2, 3, 4, 5, 6, 7, 8, 9, 10] [0, 1, 2, 3, 4, 5, 6, 7, 8, 9, 10, 11] rfl rfl rfl rfl (by decide) rfl rfl rfl ?_
  refine h_istore (pc := 42) (lv' := [(7, .int 18), (6, .int 18), (5, .int 18), (4, .int 18), (0, .ref (ad 0)), (1, .ref (ad 11)), (2, .int x2), (3, .ref (ad 10))]) C dL_isDone_42 (by decide) rfl ?_
  refine h_iload (pc := 44) C dL_isDone_44 3 rfl ?_
  refine h_bipush (pc := 46) (v := 9) C dL_isDone_46 (by decide) ?_
  refine h_icmp_ge (pc := 48) (tgt := 100) C dL_isDone_48 (by decide) (fun _ => ?_) (fun q => absurd (by decide) q)
  refine h_iload (pc := 100) C dL_isDone_100 3 rfl ?_
  refine h_bipush (pc := 102) (v := 13) C dL_isDone_102 (by decide) ?_
  refine h_icmp_ge (pc := 104) (tgt := 222) C dL_isDone_104 (by decide) (fun _ => ?_) (fun q => absurd (by decide) q)
  refine h_iload (pc := 222) C dL_isDone_222 3 rfl ?_
  refine h_bipush (pc := 224) (v := 13) C dL_isDone_224 (by decide) ?_
  refine h_icmp_ne (pc := 226) (tgt := 278) C dL_isDone_226 (by decide) (fun _ => ?_) (fun q => absurd q (by decide))
  refine h_iload (pc := 278) C dL_isDone_278 2 rfl ?_
  refine h_sipush (pc := 280) (v := 256) C dL_isDone_280 (by decide) ?_
  refine h_irem (pc := 283) C dL_isDone_283 (by decide) ?_
  refine h_eq (v := 18) (by decide) ?_
  refine h_istore (pc := 284) (lv' := [(8, .int 18), (7, .int 18), (6, .int 18), (5, .int 18), (4, .int 18), (0, .ref (ad 0)), (1, .ref (ad 11)), (2, .int x2), (3, .ref (ad 10))]) C dL_isDone_284 (by decide) rfl ?_
  refine h_iload (pc := 286) C dL_isDone_286 2 rfl ?_
  refine h_sipush (pc := 288) (v := 256) C dL_isDone_288 (by decide) ?_
  refine h_irem (pc := 291) C dL_isDone_291 (by decide) ?_
  refine h_eq (v := 18) (by decide) ?_
  refine h_istore (pc := 292) (lv' := [(9, .int 18), (8, .int 18), (7, .int 18), (6, .int 18), (5, .int 18), (4, .int 18), (0, .ref (ad 0)), (1, .ref (ad 11)), (2, .int x2), (3, .ref (ad 10))]) C dL_isDone_292 (by decide) rfl ?_
  refine h_iload (pc := 294) C dL_isDone_294 1 rfl ?_
  refine h_iload (pc := 296) C dL_isDone_296 2 rfl ?_
  refine h_sipush (pc := 298) (v := 256) C dL_isDone_298 (by decide) ?_
  refine h_iload (pc := 301) C dL_isDone_301 1 rfl ?_
  refine h_isub (pc := 303) C dL_isDone_303 ?_
  refine h_eq (v := 238) (by decide) ?_
  refine h_irem (pc := 304) C dL_isDone_304 (by decide) ?_
  refine h_eq (v := 18) (by decide) ?_
  refine h_iadd (pc := 305) C dL_isDone_305 ?_
  refine h_eq (v := 36) (by decide) ?_
  refine h_istore (pc := 306) (lv' := [(10, .int 36), (9, .int 18), (8, .int 18), (7, .int 18), (6, .int 18), (5, .int 18), (4, .int 18), (0, .ref (ad 0)), (1, .ref (ad 11)), (2, .int x2), (3, .ref (ad 10))]) C dL_isDone_306 (by decide) rfl ?_
  refine h_iload (pc := 308) C dL_isDone_308 1 rfl ?_
  refine h_iload (pc := 310) C dL_isDone_310 5 rfl ?_
  refine h_sipush (pc := 312) (v := 256) C dL_isDone_312 (by decide) ?_
  refine h_idiv (pc := 315) C dL_isDone_315 (by decide) ?_
  refine h_eq (v := 0) (by decide) ?_
  refine h_sipush (pc := 316) (v := 256) C dL_isDone_316 (by decide) ?_
  refine h_iload (pc := 319) C dL_isDone_319 1 rfl ?_
  refine h_isub (pc := 321) C dL_isDone_321 ?_
  refine h_eq (v := 238) (by decide) ?_
  refine h_irem (pc := 322) C dL_isDone_322 (by decide) ?_
  refine h_eq (v := 0) (by decide) ?_
  refine h_iadd (pc := 323) C dL_isDone_323 ?_
  refine h_eq (v := 18) (by decide) ?_
  refine h_istore (pc := 324) (lv' := [(11, .int 18), (10, .int 36), (9, .int 18), (8, .int 18), (7, .int 18), (6, .int 18), (5, .int 18), (4, .int 18), (0, .ref (ad 0)), (1, .ref (ad 11)), (2, .int x2), (3, .ref (ad 10))]) C dL_isDone_324 (by decide) rfl ?_
  refine h_iload (pc := 326) C dL_isDone_326 7 rfl ?_
  refine h_bipush (pc := 328) (v := 16) C dL_isDone_328 (by decide) ?_
  refine h_icmp_ge (pc := 330) (tgt := 397) C dL_isDone_330 (by decide) (fun _ => ?_) (fun q => absurd (by decide) q)
  refine h_iload (pc := 397) C dL_isDone_397 7 rfl ?_
  refine h_bipush (pc := 399) (v := 18) C dL_isDone_399 (by decide) ?_
  refine h_icmp_ge (pc := 401) (tgt := 414) C dL_isDone_401 (by decide) (fun _ => ?_) (fun q => absurd (by decide) q)
  refine h_iload (pc := 414) C dL_isDone_414 7 rfl ?_
  refine h_bipush (pc := 416) (v := 18) C dL_isDone_416 (by decide) ?_
  refine h_icmp_ne (pc := 418) (tgt := 429) C dL_isDone_418 (by decide) (fun q => absurd (by decide) q) (fun _ => ?_)
  refine h_aload_n (pc := 421) C dL_isDone_421 rfl 8 rfl ?_
  refine h_aload_n (pc := 422) C dL_isDone_422 rfl 11 rfl ?_
  refine h_callS (pc := 423) (As := [.ref (ad 0), .ref (ad 10)]) (rest := []) (st2 := .int 1 :: []) C Z (g_L_arePairs hX0 D cT ad) (va_cwS 2 C.1.2.2.2.2 gL_isDone_L_arePairs rfl rfl rfl ps_L_arePairs ⟨Nat.le_of_ble_eq_true rfl, Nat.le_of_ble_eq_true rfl⟩) dL_isDone_423 rfl rfl (Nat.le_of_ble_eq_true rfl) ⟨Nat.le_of_ble_eq_true rfl, Nat.le_of_ble_eq_true rfl⟩ [0, 1, 2, 3, 4, 5, 6, 7, 8, 9, 10] [11] [1, 2, 3, 4, 5, 6, 7, 8, 9, 10, 11, 0] rfl rfl rfl rfl (by decide) rfl rfl rfl ?_
  refine h_goto (pc := 426) (tgt := 437) C dL_isDone_426 (by decide) ?_
  refine h_widen (k := 2) (n := 12) (Nat.le_of_ble_eq_true rfl) (Nat.le_of_ble_eq_true rfl) ?_
  refine h_less (G1 := 2) (Nat.le_of_ble_eq_true rfl) ?_
  exact h_zret C hr rfl dL_isDone_437
