/-! laid by wip/whole/lay.py: the law, a road a block -/
set_option maxRecDepth 100000 in
set_option maxHeartbeats 4000000 in
theorem k_L_law_1101 {p : Program} {e : Env} {s : State} {m : MethodId} {args : Array Value} {below : List Frame} {meth : Method} {c : Code} {A : Nat → Prop} {Q : State → Prop} {l : Launch} {L : Nat} {xs : Nat → Int32} (hX0 : l.stackTraces = false) (D : va_G) (cT : Nat → ClassId) (ad : Nat → Nat) (C : hC p s m args meth c code 8 wsL_law RL D (ty4 cT) A) (X9 : va_X (ad 19) L xs s s.heap ∧ ad 19 < s.heap.size ∧ ¬ A (ad 19)) (Z : xZ A s s.heap) (hEnd : ∀ (CE SL : Nat), CE ≤ 1055 → SL ≤ 10903 → ∀ (lv : List (Nat × Value)) (ws : va_W), hS p l e room_1 s m args below meth c 8 D A CE SL Q 1429 lv [.int 1] ws) (n : Nat) (k28 : (Nat → Int32) → (Nat → Int32) → (Nat → Int32) → (Nat → Int32) → Int32 → Int32 → (Nat → Int32) → (Nat → Int32) → Int32 → (Nat → Int32) → Int32 → (Nat → Int32) → (Nat → Int32) → (Nat → Int32) → Int32 → (Nat → Int32) → Int32 → (Nat → Int32) → (Nat → Int32) → Int32 → Int32 → Int32 → Int32 → Int32 → Int32 → Int32 → (Nat → Int64) → (Nat → UInt64) → Int32 → Option Int32) (K28 : ∀ (CE SL : Nat) (areas : Nat → Int32) (keys : Nat → Int32) (there : Nat → Int32) (order : Nat → Int32) (added : Int32) (size : Int32) (loads : Nat → Int32) (widths : Nat → Int32) (height : Int32) (ranks : Nat → Int32) (madded : Int32) (msides : Nat → Int32) (mkey : Nat → Int32) (misThere : Nat → Int32) (mboxes : Int32) (morder : Nat → Int32) (mlevels : Int32) (mnodes : Nat → Int32) (mentries : Nat → Int32) (mleft : Int32) (mlow : Int32) (mright : Int32) (mhigh : Int32) (mfirst : Int32) (mend : Int32) (mthrown : Int32) (out : Nat → Int64) (outD : Nat → UInt64) (x5 : Int32), lwB L x5 CE SL → k28 areas keys there order added size loads widths height ranks madded msides mkey misThere mboxes morder mlevels mnodes mentries mleft mlow mright mhigh mfirst mend mthrown out outD x5 = some 1 → hS p l e room_1 s m args below meth c 8 D A CE SL Q 28 [(0, .ref (ad 19)), (1, .ref (ad 0)), (2, .ref (ad 10)), (3, .ref (ad 17)), (4, .ref (ad 18)), (5, .int x5)] [] (wL cT ad areas keys there order added size loads widths height ranks madded msides mkey misThere mboxes morder mlevels mnodes mentries mleft mlow mright mhigh mfirst mend mthrown out outD)) : ∀ (CE SL : Nat) (areas : Nat → Int32) (keys : Nat → Int32) (there : Nat → Int32) (order : Nat → Int32) (added : Int32) (size : Int32) (loads : Nat → Int32) (widths : Nat → Int32) (height : Int32) (ranks : Nat → Int32) (madded : Int32) (msides : Nat → Int32) (mkey : Nat → Int32) (misThere : Nat → Int32) (mboxes : Int32) (morder : Nat → Int32) (mlevels : Int32) (mnodes : Nat → Int32) (mentries : Nat → Int32) (mleft : Int32) (mlow : Int32) (mright : Int32) (mhigh : Int32) (mfirst : Int32) (mend : Int32) (mthrown : Int32) (out : Nat → Int64) (outD : Nat → UInt64) (x5 : Int32), lwB1 L x5 CE SL → f_L_law_1101 n L xs k28 areas keys there order added size loads widths height ranks madded msides mkey misThere mboxes morder mlevels mnodes mentries mleft mlow mright mhigh mfirst mend mthrown out outD x5 = some 1 → hS p l e room_1 s m args below meth c 8 D A CE SL Q 1101 [(0, .ref (ad 19)), (1, .ref (ad 0)), (2, .ref (ad 10)), (3, .ref (ad 17)), (4, .ref (ad 18)), (5, .int x5)] [] (wL cT ad areas keys there order added size loads widths height ranks madded msides mkey misThere mboxes morder mlevels mnodes mentries mleft mlow mright mhigh mfirst mend mthrown out outD) := by
  intro CE SL areas keys there order added size loads widths height ranks madded msides mkey misThere mboxes morder mlevels mnodes mentries mleft mlow mright mhigh mfirst mend mthrown out outD x5 hb hf
  have hE := lwB1_r hb
  unfold f_L_law_1101 at hf
  refine h_aload_n (pc := 1101) C dL_law_1101 rfl 1 rfl ?_
  refine h_aload_n (pc := 1102) C dL_law_1102 rfl 0 rfl ?_
  refine h_iload (pc := 1103) C dL_law_1103 5 rfl ?_
  refine h_iconst (pc := 1105) C dL_law_1105 jc_1 ?_
  refine h_iadd (pc := 1106) C dL_law_1106 ?_
  obtain ⟨hi, v118, hv, hf⟩ := jrd_s hf
  refine h_sld (pc := 1107) C X9 hi hv dL_law_1107 ?_
  clear hi hv
  refine h_aload_n (pc := 1108) C dL_law_1108 rfl 0 rfl ?_
  refine h_iload (pc := 1109) C dL_law_1109 5 rfl ?_
  refine h_iconst (pc := 1111) C dL_law_1111 jc_2 ?_
  refine h_iadd (pc := 1112) C dL_law_1112 ?_
  obtain ⟨hi, v119, hv, hf⟩ := jrd_s hf
  refine h_sld (pc := 1113) C X9 hi hv dL_law_1113 ?_
  clear hi hv
  refine h_aload_n (pc := 1114) C dL_law_1114 rfl 0 rfl ?_
  refine h_iload (pc := 1115) C dL_law_1115 5 rfl ?_
  refine h_iconst (pc := 1117) C dL_law_1117 jc_3 ?_
  refine h_iadd (pc := 1118) C dL_law_1118 ?_
  obtain ⟨hi, v120, hv, hf⟩ := jrd_s hf
  refine h_sld (pc := 1119) C X9 hi hv dL_law_1119 ?_
  clear hi hv
  refine h_aload_n (pc := 1120) C dL_law_1120 rfl 0 rfl ?_
  refine h_iload (pc := 1121) C dL_law_1121 5 rfl ?_
  refine h_iconst (pc := 1123) C dL_law_1123 jc_4 ?_
  refine h_iadd (pc := 1124) C dL_law_1124 ?_
  obtain ⟨hi, v121, hv, hf⟩ := jrd_s hf
  refine h_sld (pc := 1125) C X9 hi hv dL_law_1125 ?_
  clear hi hv
  refine h_aload_n (pc := 1126) C dL_law_1126 rfl 3 rfl ?_
  obtain ⟨v122, hc, hf⟩ := jbd_s hf
  refine h_callSW (pc := 1127) (As := [.ref (ad 0), .int v118, .int v119, .int v120, .int v121, .ref (ad 17)]) (rest := []) (ws' := (wL cT ad areas keys there order added size loads widths height ranks madded msides mkey misThere mboxes morder mlevels mnodes mentries mleft mlow mright mhigh mfirst mend mthrown v122.2 outD)) (st2 := .int v122.1 :: []) C Z (c_L_visits hX0 D cT ad n areas keys there order added size loads widths height ranks v118 v119 v120 v121 out v122.1 v122.2 hc) (vx_cwSW 6 C.1.2.2.2.2 gL_law_L_visits rfl rfl rfl ps_L_visits ⟨(Nat.le_of_ble_eq_true rfl), (Nat.le_of_ble_eq_true rfl)⟩) dL_law_1127 rfl rfl (Nat.le_of_ble_eq_true rfl) hE [0, 1, 2, 3, 4, 5, 6, 7, 8, 9, 17] [10, 11, 12, 13, 14, 15, 16, 18] [8, 9, 10, 11, 12, 13, 14, 15, 16, 17, 0, 1, 2, 3, 4, 5, 6, 18, 7] rfl rfl rfl rfl (by decide) rfl rfl rfl ?_
  clear hc
  refine h_istore (pc := 1130) (lv' := [(6, .int v122.1), (0, .ref (ad 19)), (1, .ref (ad 0)), (2, .ref (ad 10)), (3, .ref (ad 17)), (4, .ref (ad 18)), (5, .int x5)]) C dL_law_1130 (by decide) rfl ?_
  refine h_aload_n (pc := 1132) C dL_law_1132 rfl 3 rfl ?_
  refine h_aload_n (pc := 1133) C dL_law_1133 rfl 1 rfl ?_
  refine h_iload (pc := 1134) C dL_law_1134 6 rfl ?_
  refine h_iconst (pc := 1136) C dL_law_1136 jc_1 ?_
  refine h_iadd (pc := 1137) C dL_law_1137 ?_
  obtain ⟨hi, v123, hv, hf⟩ := jrd_s hf
  refine h_sld (pc := 1138) C X9 hi hv dL_law_1138 ?_
  clear hi hv
  refine h_aload_n (pc := 1139) C dL_law_1139 rfl 1 rfl ?_
  refine h_iload (pc := 1140) C dL_law_1140 6 rfl ?_
  refine h_iconst (pc := 1142) C dL_law_1142 jc_2 ?_
  refine h_iadd (pc := 1143) C dL_law_1143 ?_
  obtain ⟨hi, v124, hv, hf⟩ := jrd_s hf
  refine h_sld (pc := 1144) C X9 hi hv dL_law_1144 ?_
  clear hi hv
  refine h_aload_n (pc := 1145) C dL_law_1145 rfl 1 rfl ?_
  refine h_iload (pc := 1146) C dL_law_1146 6 rfl ?_
  refine h_iconst (pc := 1148) C dL_law_1148 jc_3 ?_
  refine h_iadd (pc := 1149) C dL_law_1149 ?_
  obtain ⟨hi, v125, hv, hf⟩ := jrd_s hf
  refine h_sld (pc := 1150) C X9 hi hv dL_law_1150 ?_
  clear hi hv
  refine h_aload_n (pc := 1151) C dL_law_1151 rfl 1 rfl ?_
  refine h_iload (pc := 1152) C dL_law_1152 6 rfl ?_
  refine h_iconst (pc := 1154) C dL_law_1154 jc_4 ?_
  refine h_iadd (pc := 1155) C dL_law_1155 ?_
  obtain ⟨hi, v126, hv, hf⟩ := jrd_s hf
  refine h_sld (pc := 1156) C X9 hi hv dL_law_1156 ?_
  clear hi hv
  obtain ⟨v127, hc, hf⟩ := jbd_s hf
  refine h_callV (pc := 1157) (q0 := 10) (As := [.int v123, .int v124, .int v125, .int v126]) (rest := []) (ws' := (wL cT ad areas keys there order added size loads widths height ranks madded msides mkey misThere mboxes morder mlevels mnodes mentries v127.2.1 v127.2.2.1 v127.2.2.2.1 v127.2.2.2.2.1 v127.2.2.2.2.2.1 v127.2.2.2.2.2.2.1 v127.2.2.2.2.2.2.2 v122.2 outD)) (st2 := .int v127.1 :: []) C (c_X5_visits l D cT ad n madded msides mkey misThere mboxes morder mlevels mnodes mentries mleft mlow mright mhigh mfirst mend mthrown v123 v124 v125 v126 v127.1 v127.2.1 v127.2.2.1 v127.2.2.2.1 v127.2.2.2.2.1 v127.2.2.2.2.2.1 v127.2.2.2.2.2.2.1 v127.2.2.2.2.2.2.2 hc) (cwV 4 C.1.2.2.2.2 gL_law_X5_visits rfl rfl rfl pv_X5_visits ⟨(Nat.le_of_ble_eq_true rfl), (Nat.le_of_ble_eq_true rfl)⟩) dL_law_1157 rfl rfl rfl rfl rfl (Nat.le_of_ble_eq_true rfl) ⟨rfl, rfl⟩ hE [10, 11, 12, 13, 14, 15, 16] [0, 1, 2, 3, 4, 5, 6, 7, 8, 9, 17, 18] [0, 1, 2, 3, 4, 5, 6, 7, 8, 9, 12, 13, 14, 15, 16, 17, 18, 10, 11] rfl rfl rfl rfl (by decide) rfl rfl rfl ?_
  clear hc
  refine h_istore (pc := 1160) (lv' := [(7, .int v127.1), (6, .int v122.1), (0, .ref (ad 19)), (1, .ref (ad 0)), (2, .ref (ad 10)), (3, .ref (ad 17)), (4, .ref (ad 18)), (5, .int x5)]) C dL_law_1160 (by decide) rfl ?_
  refine h_aload_n (pc := 1162) C dL_law_1162 rfl 4 rfl ?_
  obtain ⟨v128, hc, hf⟩ := jbd_s hf
  refine h_callV (pc := 1163) (q0 := 10) (As := []) (rest := []) (ws' := (wL cT ad areas keys there order added size loads widths height ranks madded msides mkey misThere mboxes morder mlevels mnodes mentries v127.2.1 v127.2.2.1 v127.2.2.2.1 v127.2.2.2.2.1 v127.2.2.2.2.2.1 v127.2.2.2.2.2.2.1 v127.2.2.2.2.2.2.2 v122.2 outD)) (st2 := .int v128 :: []) C (c_X5_thrown l D cT ad n madded msides mkey misThere mboxes morder mlevels mnodes mentries v127.2.1 v127.2.2.1 v127.2.2.2.1 v127.2.2.2.2.1 v127.2.2.2.2.2.1 v127.2.2.2.2.2.2.1 v127.2.2.2.2.2.2.2 v128 hc) (cwV 0 C.1.2.2.2.2 gL_law_X5_thrown rfl rfl rfl pv_X5_thrown ⟨(Nat.le_of_ble_eq_true rfl), (Nat.le_of_ble_eq_true rfl)⟩) dL_law_1163 rfl rfl rfl rfl rfl (Nat.le_of_ble_eq_true rfl) ⟨rfl, rfl⟩ hE [10, 11, 12, 13, 14, 15, 16] [0, 1, 2, 3, 4, 5, 6, 7, 8, 9, 17, 18] [0, 1, 2, 3, 4, 5, 6, 7, 8, 9, 12, 13, 14, 15, 16, 17, 18, 10, 11] rfl rfl rfl rfl (by decide) rfl rfl rfl ?_
  clear hc
  refine h_iload (pc := 1166) C dL_law_1166 1 rfl ?_
  refine h_icmp_eq (pc := 1168) (tgt := 1173) C dL_law_1168 (by decide) (fun q => ?_) (fun q => ?_)
  · replace hf := jif_t q hf
    refine h_iload (pc := 1173) C dL_law_1173 1 rfl ?_
    refine h_if_ne (pc := 1175) (tgt := 1190) C dL_law_1175 (by decide) (fun q => ?_) (fun q => ?_)
    · replace hf := jif_f q hf
      refine h_goto (pc := 1190) (tgt := 1422) C dL_law_1190 (by decide) ?_
      refine h_sub [2, 3, 4, 5, 6, 7] rfl ?_
      exact k_L_law_1422 hX0 D cT ad C X9 Z hEnd n k28 K28 (CE + rmL_visits.cells) (SL + rmL_visits.slots) areas keys there order added size loads widths height ranks madded msides mkey misThere mboxes morder mlevels mnodes mentries v127.2.1 v127.2.2.1 v127.2.2.2.1 v127.2.2.2.2.1 v127.2.2.2.2.2.1 v127.2.2.2.2.2.2.1 v127.2.2.2.2.2.2.2 v122.2 outD x5 (lwB_more hb) hf
    · replace hf := jif_t q hf
      refine h_aload_n (pc := 1178) C dL_law_1178 rfl 5 rfl ?_
      refine h_iconst (pc := 1179) C dL_law_1179 jc_0 ?_
      obtain ⟨hi, v129, hv, hf⟩ := jrdA_s hf
      refine h_lald (pc := 1180) C 17 2 rfl rfl hi hv dL_law_1180 ?_
      clear hi hv
      refine h_iload (pc := 1181) C dL_law_1181 0 rfl ?_
      refine h_i2l (pc := 1183) C dL_law_1183 ?_
      refine h_lcmp (pc := 1184) C dL_law_1184 ?_
      refine h_if_eq (pc := 1185) (tgt := 1190) C dL_law_1185 (by decide) (fun q => ?_) (fun q => ?_)
      · replace hf := jif_t q hf
        refine h_goto (pc := 1190) (tgt := 1422) C dL_law_1190 (by decide) ?_
        refine h_sub [2, 3, 4, 5, 6, 7] rfl ?_
        exact k_L_law_1422 hX0 D cT ad C X9 Z hEnd n k28 K28 (CE + rmL_visits.cells) (SL + rmL_visits.slots) areas keys there order added size loads widths height ranks madded msides mkey misThere mboxes morder mlevels mnodes mentries v127.2.1 v127.2.2.1 v127.2.2.2.1 v127.2.2.2.2.1 v127.2.2.2.2.2.1 v127.2.2.2.2.2.2.1 v127.2.2.2.2.2.2.2 v122.2 outD x5 (lwB_more hb) hf
      · replace hf := jif_f q hf
        refine h_iconst (pc := 1188) C dL_law_1188 jc_0 ?_
        exact absurd (Option.some.inj hf) (by decide)
  · replace hf := jif_f q hf
    refine h_iconst (pc := 1171) C dL_law_1171 jc_0 ?_
    exact absurd (Option.some.inj hf) (by decide)
set_option maxRecDepth 100000 in
set_option maxHeartbeats 4000000 in
theorem k_L_law_1193 {p : Program} {e : Env} {s : State} {m : MethodId} {args : Array Value} {below : List Frame} {meth : Method} {c : Code} {A : Nat → Prop} {Q : State → Prop} {l : Launch} {L : Nat} {xs : Nat → Int32} (hX0 : l.stackTraces = false) (D : va_G) (cT : Nat → ClassId) (ad : Nat → Nat) (C : hC p s m args meth c code 8 wsL_law RL D (ty4 cT) A) (X9 : va_X (ad 19) L xs s s.heap ∧ ad 19 < s.heap.size ∧ ¬ A (ad 19)) (Z : xZ A s s.heap) (hEnd : ∀ (CE SL : Nat), CE ≤ 1055 → SL ≤ 10903 → ∀ (lv : List (Nat × Value)) (ws : va_W), hS p l e room_1 s m args below meth c 8 D A CE SL Q 1429 lv [.int 1] ws) (n : Nat) (k28 : (Nat → Int32) → (Nat → Int32) → (Nat → Int32) → (Nat → Int32) → Int32 → Int32 → (Nat → Int32) → (Nat → Int32) → Int32 → (Nat → Int32) → Int32 → (Nat → Int32) → (Nat → Int32) → (Nat → Int32) → Int32 → (Nat → Int32) → Int32 → (Nat → Int32) → (Nat → Int32) → Int32 → Int32 → Int32 → Int32 → Int32 → Int32 → Int32 → (Nat → Int64) → (Nat → UInt64) → Int32 → Option Int32) (K28 : ∀ (CE SL : Nat) (areas : Nat → Int32) (keys : Nat → Int32) (there : Nat → Int32) (order : Nat → Int32) (added : Int32) (size : Int32) (loads : Nat → Int32) (widths : Nat → Int32) (height : Int32) (ranks : Nat → Int32) (madded : Int32) (msides : Nat → Int32) (mkey : Nat → Int32) (misThere : Nat → Int32) (mboxes : Int32) (morder : Nat → Int32) (mlevels : Int32) (mnodes : Nat → Int32) (mentries : Nat → Int32) (mleft : Int32) (mlow : Int32) (mright : Int32) (mhigh : Int32) (mfirst : Int32) (mend : Int32) (mthrown : Int32) (out : Nat → Int64) (outD : Nat → UInt64) (x5 : Int32), lwB L x5 CE SL → k28 areas keys there order added size loads widths height ranks madded msides mkey misThere mboxes morder mlevels mnodes mentries mleft mlow mright mhigh mfirst mend mthrown out outD x5 = some 1 → hS p l e room_1 s m args below meth c 8 D A CE SL Q 28 [(0, .ref (ad 19)), (1, .ref (ad 0)), (2, .ref (ad 10)), (3, .ref (ad 17)), (4, .ref (ad 18)), (5, .int x5)] [] (wL cT ad areas keys there order added size loads widths height ranks madded msides mkey misThere mboxes morder mlevels mnodes mentries mleft mlow mright mhigh mfirst mend mthrown out outD)) : ∀ (CE SL : Nat) (areas : Nat → Int32) (keys : Nat → Int32) (there : Nat → Int32) (order : Nat → Int32) (added : Int32) (size : Int32) (loads : Nat → Int32) (widths : Nat → Int32) (height : Int32) (ranks : Nat → Int32) (madded : Int32) (msides : Nat → Int32) (mkey : Nat → Int32) (misThere : Nat → Int32) (mboxes : Int32) (morder : Nat → Int32) (mlevels : Int32) (mnodes : Nat → Int32) (mentries : Nat → Int32) (mleft : Int32) (mlow : Int32) (mright : Int32) (mhigh : Int32) (mfirst : Int32) (mend : Int32) (mthrown : Int32) (out : Nat → Int64) (outD : Nat → UInt64) (x5 : Int32), lwB1 L x5 CE SL → f_L_law_1193 n L xs k28 areas keys there order added size loads widths height ranks madded msides mkey misThere mboxes morder mlevels mnodes mentries mleft mlow mright mhigh mfirst mend mthrown out outD x5 = some 1 → hS p l e room_1 s m args below meth c 8 D A CE SL Q 1193 [(0, .ref (ad 19)), (1, .ref (ad 0)), (2, .ref (ad 10)), (3, .ref (ad 17)), (4, .ref (ad 18)), (5, .int x5)] [] (wL cT ad areas keys there order added size loads widths height ranks madded msides mkey misThere mboxes morder mlevels mnodes mentries mleft mlow mright mhigh mfirst mend mthrown out outD) := by
  intro CE SL areas keys there order added size loads widths height ranks madded msides mkey misThere mboxes morder mlevels mnodes mentries mleft mlow mright mhigh mfirst mend mthrown out outD x5 hb hf
  have hE := lwB1_r hb
  unfold f_L_law_1193 at hf
  refine h_aload_n (pc := 1193) C dL_law_1193 rfl 1 rfl ?_
  refine h_aload_n (pc := 1194) C dL_law_1194 rfl 0 rfl ?_
  refine h_iload (pc := 1195) C dL_law_1195 5 rfl ?_
  refine h_iconst (pc := 1197) C dL_law_1197 jc_1 ?_
  refine h_iadd (pc := 1198) C dL_law_1198 ?_
  obtain ⟨hi, v130, hv, hf⟩ := jrd_s hf
  refine h_sld (pc := 1199) C X9 hi hv dL_law_1199 ?_
  clear hi hv
  refine h_aload_n (pc := 1200) C dL_law_1200 rfl 0 rfl ?_
  refine h_iload (pc := 1201) C dL_law_1201 5 rfl ?_
  refine h_iconst (pc := 1203) C dL_law_1203 jc_2 ?_
  refine h_iadd (pc := 1204) C dL_law_1204 ?_
  obtain ⟨hi, v131, hv, hf⟩ := jrd_s hf
  refine h_sld (pc := 1205) C X9 hi hv dL_law_1205 ?_
  clear hi hv
  refine h_aload_n (pc := 1206) C dL_law_1206 rfl 0 rfl ?_
  refine h_iload (pc := 1207) C dL_law_1207 5 rfl ?_
  refine h_iconst (pc := 1209) C dL_law_1209 jc_3 ?_
  refine h_iadd (pc := 1210) C dL_law_1210 ?_
  obtain ⟨hi, v132, hv, hf⟩ := jrd_s hf
  refine h_sld (pc := 1211) C X9 hi hv dL_law_1211 ?_
  clear hi hv
  refine h_aload_n (pc := 1212) C dL_law_1212 rfl 3 rfl ?_
  obtain ⟨v133, hc, hf⟩ := jbd_s hf
  refine h_callSW (pc := 1213) (As := [.ref (ad 0), .int v130, .int v131, .int v132, .ref (ad 17)]) (rest := []) (ws' := (wL cT ad areas keys there order added size loads widths height v133.2.1 madded msides mkey misThere mboxes morder mlevels mnodes mentries mleft mlow mright mhigh mfirst mend mthrown v133.2.2 outD)) (st2 := .int v133.1 :: []) C Z (c_L_nearest hX0 D cT ad n areas keys there order added size loads widths height ranks v130 v131 v132 out v133.1 v133.2.1 v133.2.2 hc) (vx_cwSW 5 C.1.2.2.2.2 gL_law_L_nearest rfl rfl rfl ps_L_nearest ⟨(Nat.le_of_ble_eq_true rfl), (Nat.le_of_ble_eq_true rfl)⟩) dL_law_1213 rfl rfl (Nat.le_of_ble_eq_true rfl) hE [0, 1, 2, 3, 4, 5, 6, 7, 8, 9, 17] [10, 11, 12, 13, 14, 15, 16, 18] [8, 9, 10, 11, 12, 13, 14, 15, 16, 17, 0, 1, 2, 3, 4, 5, 6, 18, 7] rfl rfl rfl rfl (by decide) rfl rfl rfl ?_
  clear hc
  refine h_istore (pc := 1216) (lv' := [(6, .int v133.1), (0, .ref (ad 19)), (1, .ref (ad 0)), (2, .ref (ad 10)), (3, .ref (ad 17)), (4, .ref (ad 18)), (5, .int x5)]) C dL_law_1216 (by decide) rfl ?_
  refine h_aload_n (pc := 1218) C dL_law_1218 rfl 3 rfl ?_
  refine h_aload_n (pc := 1219) C dL_law_1219 rfl 1 rfl ?_
  refine h_iload (pc := 1220) C dL_law_1220 6 rfl ?_
  refine h_iconst (pc := 1222) C dL_law_1222 jc_1 ?_
  refine h_iadd (pc := 1223) C dL_law_1223 ?_
  obtain ⟨hi, v134, hv, hf⟩ := jrd_s hf
  refine h_sld (pc := 1224) C X9 hi hv dL_law_1224 ?_
  clear hi hv
  refine h_aload_n (pc := 1225) C dL_law_1225 rfl 1 rfl ?_
  refine h_iload (pc := 1226) C dL_law_1226 6 rfl ?_
  refine h_iconst (pc := 1228) C dL_law_1228 jc_2 ?_
  refine h_iadd (pc := 1229) C dL_law_1229 ?_
  obtain ⟨hi, v135, hv, hf⟩ := jrd_s hf
  refine h_sld (pc := 1230) C X9 hi hv dL_law_1230 ?_
  clear hi hv
  refine h_aload_n (pc := 1231) C dL_law_1231 rfl 1 rfl ?_
  refine h_iload (pc := 1232) C dL_law_1232 6 rfl ?_
  refine h_iconst (pc := 1234) C dL_law_1234 jc_3 ?_
  refine h_iadd (pc := 1235) C dL_law_1235 ?_
  obtain ⟨hi, v136, hv, hf⟩ := jrd_s hf
  refine h_sld (pc := 1236) C X9 hi hv dL_law_1236 ?_
  clear hi hv
  obtain ⟨v137, hc, hf⟩ := jbd_s hf
  refine h_callV (pc := 1237) (q0 := 10) (As := [.int v134, .int v135, .int v136]) (rest := []) (ws' := (wL cT ad areas keys there order added size loads widths height v133.2.1 madded msides mkey misThere mboxes morder mlevels mnodes mentries mleft mlow mright mhigh mfirst mend v137.2 v133.2.2 outD)) (st2 := .int v137.1 :: []) C (c_X5_nearest l D cT ad n madded msides mkey misThere mboxes morder mlevels mnodes mentries mleft mlow mright mhigh mfirst mend mthrown v134 v135 v136 v137.1 v137.2 hc) (cwV 3 C.1.2.2.2.2 gL_law_X5_nearest rfl rfl rfl pv_X5_nearest ⟨(Nat.le_of_ble_eq_true rfl), (Nat.le_of_ble_eq_true rfl)⟩) dL_law_1237 rfl rfl rfl rfl rfl (Nat.le_of_ble_eq_true rfl) ⟨rfl, rfl⟩ hE [10, 11, 12, 13, 14, 15, 16] [0, 1, 2, 3, 4, 5, 6, 7, 8, 9, 17, 18] [0, 1, 2, 3, 4, 5, 6, 7, 8, 9, 12, 13, 14, 15, 16, 17, 18, 10, 11] rfl rfl rfl rfl (by decide) rfl rfl rfl ?_
  clear hc
  refine h_istore (pc := 1240) (lv' := [(7, .int v137.1), (6, .int v133.1), (0, .ref (ad 19)), (1, .ref (ad 0)), (2, .ref (ad 10)), (3, .ref (ad 17)), (4, .ref (ad 18)), (5, .int x5)]) C dL_law_1240 (by decide) rfl ?_
  refine h_aload_n (pc := 1242) C dL_law_1242 rfl 4 rfl ?_
  obtain ⟨v138, hc, hf⟩ := jbd_s hf
  refine h_callV (pc := 1243) (q0 := 10) (As := []) (rest := []) (ws' := (wL cT ad areas keys there order added size loads widths height v133.2.1 madded msides mkey misThere mboxes morder mlevels mnodes mentries mleft mlow mright mhigh mfirst mend v137.2 v133.2.2 outD)) (st2 := .int v138 :: []) C (c_X5_thrown l D cT ad n madded msides mkey misThere mboxes morder mlevels mnodes mentries mleft mlow mright mhigh mfirst mend v137.2 v138 hc) (cwV 0 C.1.2.2.2.2 gL_law_X5_thrown rfl rfl rfl pv_X5_thrown ⟨(Nat.le_of_ble_eq_true rfl), (Nat.le_of_ble_eq_true rfl)⟩) dL_law_1243 rfl rfl rfl rfl rfl (Nat.le_of_ble_eq_true rfl) ⟨rfl, rfl⟩ hE [10, 11, 12, 13, 14, 15, 16] [0, 1, 2, 3, 4, 5, 6, 7, 8, 9, 17, 18] [0, 1, 2, 3, 4, 5, 6, 7, 8, 9, 12, 13, 14, 15, 16, 17, 18, 10, 11] rfl rfl rfl rfl (by decide) rfl rfl rfl ?_
  clear hc
  refine h_iload (pc := 1246) C dL_law_1246 1 rfl ?_
  refine h_icmp_eq (pc := 1248) (tgt := 1253) C dL_law_1248 (by decide) (fun q => ?_) (fun q => ?_)
  · replace hf := jif_t q hf
    refine h_iload (pc := 1253) C dL_law_1253 1 rfl ?_
    refine h_if_ne (pc := 1255) (tgt := 1270) C dL_law_1255 (by decide) (fun q => ?_) (fun q => ?_)
    · replace hf := jif_f q hf
      refine h_goto (pc := 1270) (tgt := 1422) C dL_law_1270 (by decide) ?_
      refine h_sub [2, 3, 4, 5, 6, 7] rfl ?_
      exact k_L_law_1422 hX0 D cT ad C X9 Z hEnd n k28 K28 (CE + rmL_nearest.cells) (SL + rmL_nearest.slots) areas keys there order added size loads widths height v133.2.1 madded msides mkey misThere mboxes morder mlevels mnodes mentries mleft mlow mright mhigh mfirst mend v137.2 v133.2.2 outD x5 (lwB_more hb) hf
    · replace hf := jif_t q hf
      refine h_aload_n (pc := 1258) C dL_law_1258 rfl 5 rfl ?_
      refine h_iconst (pc := 1259) C dL_law_1259 jc_0 ?_
      obtain ⟨hi, v139, hv, hf⟩ := jrdA_s hf
      refine h_lald (pc := 1260) C 17 2 rfl rfl hi hv dL_law_1260 ?_
      clear hi hv
      refine h_iload (pc := 1261) C dL_law_1261 0 rfl ?_
      refine h_i2l (pc := 1263) C dL_law_1263 ?_
      refine h_lcmp (pc := 1264) C dL_law_1264 ?_
      refine h_if_eq (pc := 1265) (tgt := 1270) C dL_law_1265 (by decide) (fun q => ?_) (fun q => ?_)
      · replace hf := jif_t q hf
        refine h_goto (pc := 1270) (tgt := 1422) C dL_law_1270 (by decide) ?_
        refine h_sub [2, 3, 4, 5, 6, 7] rfl ?_
        exact k_L_law_1422 hX0 D cT ad C X9 Z hEnd n k28 K28 (CE + rmL_nearest.cells) (SL + rmL_nearest.slots) areas keys there order added size loads widths height v133.2.1 madded msides mkey misThere mboxes morder mlevels mnodes mentries mleft mlow mright mhigh mfirst mend v137.2 v133.2.2 outD x5 (lwB_more hb) hf
      · replace hf := jif_f q hf
        refine h_iconst (pc := 1268) C dL_law_1268 jc_0 ?_
        exact absurd (Option.some.inj hf) (by decide)
  · replace hf := jif_f q hf
    refine h_iconst (pc := 1251) C dL_law_1251 jc_0 ?_
    exact absurd (Option.some.inj hf) (by decide)
set_option maxRecDepth 100000 in
set_option maxHeartbeats 4000000 in
theorem k_L_law_1273 {p : Program} {e : Env} {s : State} {m : MethodId} {args : Array Value} {below : List Frame} {meth : Method} {c : Code} {A : Nat → Prop} {Q : State → Prop} {l : Launch} {L : Nat} {xs : Nat → Int32} (hX0 : l.stackTraces = false) (D : va_G) (cT : Nat → ClassId) (ad : Nat → Nat) (C : hC p s m args meth c code 8 wsL_law RL D (ty4 cT) A) (X9 : va_X (ad 19) L xs s s.heap ∧ ad 19 < s.heap.size ∧ ¬ A (ad 19)) (Z : xZ A s s.heap) (hEnd : ∀ (CE SL : Nat), CE ≤ 1055 → SL ≤ 10903 → ∀ (lv : List (Nat × Value)) (ws : va_W), hS p l e room_1 s m args below meth c 8 D A CE SL Q 1429 lv [.int 1] ws) (n : Nat) (k28 : (Nat → Int32) → (Nat → Int32) → (Nat → Int32) → (Nat → Int32) → Int32 → Int32 → (Nat → Int32) → (Nat → Int32) → Int32 → (Nat → Int32) → Int32 → (Nat → Int32) → (Nat → Int32) → (Nat → Int32) → Int32 → (Nat → Int32) → Int32 → (Nat → Int32) → (Nat → Int32) → Int32 → Int32 → Int32 → Int32 → Int32 → Int32 → Int32 → (Nat → Int64) → (Nat → UInt64) → Int32 → Option Int32) (K28 : ∀ (CE SL : Nat) (areas : Nat → Int32) (keys : Nat → Int32) (there : Nat → Int32) (order : Nat → Int32) (added : Int32) (size : Int32) (loads : Nat → Int32) (widths : Nat → Int32) (height : Int32) (ranks : Nat → Int32) (madded : Int32) (msides : Nat → Int32) (mkey : Nat → Int32) (misThere : Nat → Int32) (mboxes : Int32) (morder : Nat → Int32) (mlevels : Int32) (mnodes : Nat → Int32) (mentries : Nat → Int32) (mleft : Int32) (mlow : Int32) (mright : Int32) (mhigh : Int32) (mfirst : Int32) (mend : Int32) (mthrown : Int32) (out : Nat → Int64) (outD : Nat → UInt64) (x5 : Int32), lwB L x5 CE SL → k28 areas keys there order added size loads widths height ranks madded msides mkey misThere mboxes morder mlevels mnodes mentries mleft mlow mright mhigh mfirst mend mthrown out outD x5 = some 1 → hS p l e room_1 s m args below meth c 8 D A CE SL Q 28 [(0, .ref (ad 19)), (1, .ref (ad 0)), (2, .ref (ad 10)), (3, .ref (ad 17)), (4, .ref (ad 18)), (5, .int x5)] [] (wL cT ad areas keys there order added size loads widths height ranks madded msides mkey misThere mboxes morder mlevels mnodes mentries mleft mlow mright mhigh mfirst mend mthrown out outD)) : ∀ (CE SL : Nat) (areas : Nat → Int32) (keys : Nat → Int32) (there : Nat → Int32) (order : Nat → Int32) (added : Int32) (size : Int32) (loads : Nat → Int32) (widths : Nat → Int32) (height : Int32) (ranks : Nat → Int32) (madded : Int32) (msides : Nat → Int32) (mkey : Nat → Int32) (misThere : Nat → Int32) (mboxes : Int32) (morder : Nat → Int32) (mlevels : Int32) (mnodes : Nat → Int32) (mentries : Nat → Int32) (mleft : Int32) (mlow : Int32) (mright : Int32) (mhigh : Int32) (mfirst : Int32) (mend : Int32) (mthrown : Int32) (out : Nat → Int64) (outD : Nat → UInt64) (x5 : Int32), lwB1 L x5 CE SL → f_L_law_1273 n L xs k28 areas keys there order added size loads widths height ranks madded msides mkey misThere mboxes morder mlevels mnodes mentries mleft mlow mright mhigh mfirst mend mthrown out outD x5 = some 1 → hS p l e room_1 s m args below meth c 8 D A CE SL Q 1273 [(0, .ref (ad 19)), (1, .ref (ad 0)), (2, .ref (ad 10)), (3, .ref (ad 17)), (4, .ref (ad 18)), (5, .int x5)] [] (wL cT ad areas keys there order added size loads widths height ranks madded msides mkey misThere mboxes morder mlevels mnodes mentries mleft mlow mright mhigh mfirst mend mthrown out outD) := by
  intro CE SL areas keys there order added size loads widths height ranks madded msides mkey misThere mboxes morder mlevels mnodes mentries mleft mlow mright mhigh mfirst mend mthrown out outD x5 hb hf
  have hE := lwB1_r hb
  unfold f_L_law_1273 at hf
  refine h_aload_n (pc := 1273) C dL_law_1273 rfl 1 rfl ?_
  refine h_aload_n (pc := 1274) C dL_law_1274 rfl 0 rfl ?_
  refine h_iload (pc := 1275) C dL_law_1275 5 rfl ?_
  refine h_iconst (pc := 1277) C dL_law_1277 jc_1 ?_
  refine h_iadd (pc := 1278) C dL_law_1278 ?_
  obtain ⟨hi, v140, hv, hf⟩ := jrd_s hf
  refine h_sld (pc := 1279) C X9 hi hv dL_law_1279 ?_
  clear hi hv
  refine h_aload_n (pc := 1280) C dL_law_1280 rfl 0 rfl ?_
  refine h_iload (pc := 1281) C dL_law_1281 5 rfl ?_
  refine h_iconst (pc := 1283) C dL_law_1283 jc_2 ?_
  refine h_iadd (pc := 1284) C dL_law_1284 ?_
  obtain ⟨hi, v141, hv, hf⟩ := jrd_s hf
  refine h_sld (pc := 1285) C X9 hi hv dL_law_1285 ?_
  clear hi hv
  refine h_aload_n (pc := 1286) C dL_law_1286 rfl 0 rfl ?_
  refine h_iload (pc := 1287) C dL_law_1287 5 rfl ?_
  refine h_iconst (pc := 1289) C dL_law_1289 jc_3 ?_
  refine h_iadd (pc := 1290) C dL_law_1290 ?_
  obtain ⟨hi, v142, hv, hf⟩ := jrd_s hf
  refine h_sld (pc := 1291) C X9 hi hv dL_law_1291 ?_
  clear hi hv
  refine h_aload_n (pc := 1292) C dL_law_1292 rfl 3 rfl ?_
  obtain ⟨v143, hc, hf⟩ := jbd_s hf
  refine h_callSW (pc := 1293) (As := [.ref (ad 0), .int v140, .int v141, .int v142, .ref (ad 17)]) (rest := []) (ws' := (wL cT ad areas keys there order added size loads widths height ranks madded msides mkey misThere mboxes morder mlevels mnodes mentries mleft mlow mright mhigh mfirst mend mthrown v143.2 outD)) (st2 := .int v143.1 :: []) C Z (c_L_distance hX0 D cT ad n areas keys there order added size loads widths height ranks v140 v141 v142 out v143.1 v143.2 hc) (vx_cwSW 5 C.1.2.2.2.2 gL_law_L_distance rfl rfl rfl ps_L_distance ⟨(Nat.le_of_ble_eq_true rfl), (Nat.le_of_ble_eq_true rfl)⟩) dL_law_1293 rfl rfl (Nat.le_of_ble_eq_true rfl) hE [0, 1, 2, 3, 4, 5, 6, 7, 8, 9, 17] [10, 11, 12, 13, 14, 15, 16, 18] [8, 9, 10, 11, 12, 13, 14, 15, 16, 17, 0, 1, 2, 3, 4, 5, 6, 18, 7] rfl rfl rfl rfl (by decide) rfl rfl rfl ?_
  clear hc
  refine h_istore (pc := 1296) (lv' := [(6, .int v143.1), (0, .ref (ad 19)), (1, .ref (ad 0)), (2, .ref (ad 10)), (3, .ref (ad 17)), (4, .ref (ad 18)), (5, .int x5)]) C dL_law_1296 (by decide) rfl ?_
  refine h_aload_n (pc := 1298) C dL_law_1298 rfl 3 rfl ?_
  refine h_aload_n (pc := 1299) C dL_law_1299 rfl 1 rfl ?_
  refine h_iload (pc := 1300) C dL_law_1300 6 rfl ?_
  refine h_iconst (pc := 1302) C dL_law_1302 jc_1 ?_
  refine h_iadd (pc := 1303) C dL_law_1303 ?_
  obtain ⟨hi, v144, hv, hf⟩ := jrd_s hf
  refine h_sld (pc := 1304) C X9 hi hv dL_law_1304 ?_
  clear hi hv
  refine h_aload_n (pc := 1305) C dL_law_1305 rfl 1 rfl ?_
  refine h_iload (pc := 1306) C dL_law_1306 6 rfl ?_
  refine h_iconst (pc := 1308) C dL_law_1308 jc_2 ?_
  refine h_iadd (pc := 1309) C dL_law_1309 ?_
  obtain ⟨hi, v145, hv, hf⟩ := jrd_s hf
  refine h_sld (pc := 1310) C X9 hi hv dL_law_1310 ?_
  clear hi hv
  refine h_aload_n (pc := 1311) C dL_law_1311 rfl 1 rfl ?_
  refine h_iload (pc := 1312) C dL_law_1312 6 rfl ?_
  refine h_iconst (pc := 1314) C dL_law_1314 jc_3 ?_
  refine h_iadd (pc := 1315) C dL_law_1315 ?_
  obtain ⟨hi, v146, hv, hf⟩ := jrd_s hf
  refine h_sld (pc := 1316) C X9 hi hv dL_law_1316 ?_
  clear hi hv
  obtain ⟨v147, hc, hf⟩ := jbd_s hf
  refine h_callV (pc := 1317) (q0 := 10) (As := [.int v144, .int v145, .int v146]) (rest := []) (ws' := (wL cT ad areas keys there order added size loads widths height ranks madded msides mkey misThere mboxes morder mlevels mnodes mentries mleft mlow mright mhigh mfirst mend v147.2 v143.2 outD)) (st2 := .int v147.1 :: []) C (c_X5_distance l D cT ad n madded msides mkey misThere mboxes morder mlevels mnodes mentries mleft mlow mright mhigh mfirst mend mthrown v144 v145 v146 v147.1 v147.2 hc) (cwV 3 C.1.2.2.2.2 gL_law_X5_distance rfl rfl rfl pv_X5_distance ⟨(Nat.le_of_ble_eq_true rfl), (Nat.le_of_ble_eq_true rfl)⟩) dL_law_1317 rfl rfl rfl rfl rfl (Nat.le_of_ble_eq_true rfl) ⟨rfl, rfl⟩ hE [10, 11, 12, 13, 14, 15, 16] [0, 1, 2, 3, 4, 5, 6, 7, 8, 9, 17, 18] [0, 1, 2, 3, 4, 5, 6, 7, 8, 9, 12, 13, 14, 15, 16, 17, 18, 10, 11] rfl rfl rfl rfl (by decide) rfl rfl rfl ?_
  clear hc
  refine h_istore (pc := 1320) (lv' := [(7, .int v147.1), (6, .int v143.1), (0, .ref (ad 19)), (1, .ref (ad 0)), (2, .ref (ad 10)), (3, .ref (ad 17)), (4, .ref (ad 18)), (5, .int x5)]) C dL_law_1320 (by decide) rfl ?_
  refine h_aload_n (pc := 1322) C dL_law_1322 rfl 4 rfl ?_
  obtain ⟨v148, hc, hf⟩ := jbd_s hf
  refine h_callV (pc := 1323) (q0 := 10) (As := []) (rest := []) (ws' := (wL cT ad areas keys there order added size loads widths height ranks madded msides mkey misThere mboxes morder mlevels mnodes mentries mleft mlow mright mhigh mfirst mend v147.2 v143.2 outD)) (st2 := .int v148 :: []) C (c_X5_thrown l D cT ad n madded msides mkey misThere mboxes morder mlevels mnodes mentries mleft mlow mright mhigh mfirst mend v147.2 v148 hc) (cwV 0 C.1.2.2.2.2 gL_law_X5_thrown rfl rfl rfl pv_X5_thrown ⟨(Nat.le_of_ble_eq_true rfl), (Nat.le_of_ble_eq_true rfl)⟩) dL_law_1323 rfl rfl rfl rfl rfl (Nat.le_of_ble_eq_true rfl) ⟨rfl, rfl⟩ hE [10, 11, 12, 13, 14, 15, 16] [0, 1, 2, 3, 4, 5, 6, 7, 8, 9, 17, 18] [0, 1, 2, 3, 4, 5, 6, 7, 8, 9, 12, 13, 14, 15, 16, 17, 18, 10, 11] rfl rfl rfl rfl (by decide) rfl rfl rfl ?_
  clear hc
  refine h_iload (pc := 1326) C dL_law_1326 1 rfl ?_
  refine h_icmp_eq (pc := 1328) (tgt := 1333) C dL_law_1328 (by decide) (fun q => ?_) (fun q => ?_)
  · replace hf := jif_t q hf
    refine h_iload (pc := 1333) C dL_law_1333 1 rfl ?_
    refine h_if_ne (pc := 1335) (tgt := 1350) C dL_law_1335 (by decide) (fun q => ?_) (fun q => ?_)
    · replace hf := jif_f q hf
      refine h_goto (pc := 1350) (tgt := 1422) C dL_law_1350 (by decide) ?_
      refine h_sub [2, 3, 4, 5, 6, 7] rfl ?_
      exact k_L_law_1422 hX0 D cT ad C X9 Z hEnd n k28 K28 (CE + rmL_distance.cells) (SL + rmL_distance.slots) areas keys there order added size loads widths height ranks madded msides mkey misThere mboxes morder mlevels mnodes mentries mleft mlow mright mhigh mfirst mend v147.2 v143.2 outD x5 (lwB_more hb) hf
    · replace hf := jif_t q hf
      refine h_aload_n (pc := 1338) C dL_law_1338 rfl 5 rfl ?_
      refine h_iconst (pc := 1339) C dL_law_1339 jc_0 ?_
      obtain ⟨hi, v149, hv, hf⟩ := jrdA_s hf
      refine h_lald (pc := 1340) C 17 2 rfl rfl hi hv dL_law_1340 ?_
      clear hi hv
      refine h_iload (pc := 1341) C dL_law_1341 0 rfl ?_
      refine h_i2l (pc := 1343) C dL_law_1343 ?_
      refine h_lcmp (pc := 1344) C dL_law_1344 ?_
      refine h_if_eq (pc := 1345) (tgt := 1350) C dL_law_1345 (by decide) (fun q => ?_) (fun q => ?_)
      · replace hf := jif_t q hf
        refine h_goto (pc := 1350) (tgt := 1422) C dL_law_1350 (by decide) ?_
        refine h_sub [2, 3, 4, 5, 6, 7] rfl ?_
        exact k_L_law_1422 hX0 D cT ad C X9 Z hEnd n k28 K28 (CE + rmL_distance.cells) (SL + rmL_distance.slots) areas keys there order added size loads widths height ranks madded msides mkey misThere mboxes morder mlevels mnodes mentries mleft mlow mright mhigh mfirst mend v147.2 v143.2 outD x5 (lwB_more hb) hf
      · replace hf := jif_f q hf
        refine h_iconst (pc := 1348) C dL_law_1348 jc_0 ?_
        exact absurd (Option.some.inj hf) (by decide)
  · replace hf := jif_f q hf
    refine h_iconst (pc := 1331) C dL_law_1331 jc_0 ?_
    exact absurd (Option.some.inj hf) (by decide)
set_option maxRecDepth 100000 in
set_option maxHeartbeats 4000000 in
theorem k_L_law_1353 {p : Program} {e : Env} {s : State} {m : MethodId} {args : Array Value} {below : List Frame} {meth : Method} {c : Code} {A : Nat → Prop} {Q : State → Prop} {l : Launch} {L : Nat} {xs : Nat → Int32} (hX0 : l.stackTraces = false) (D : va_G) (cT : Nat → ClassId) (ad : Nat → Nat) (C : hC p s m args meth c code 8 wsL_law RL D (ty4 cT) A) (X9 : va_X (ad 19) L xs s s.heap ∧ ad 19 < s.heap.size ∧ ¬ A (ad 19)) (Z : xZ A s s.heap) (hEnd : ∀ (CE SL : Nat), CE ≤ 1055 → SL ≤ 10903 → ∀ (lv : List (Nat × Value)) (ws : va_W), hS p l e room_1 s m args below meth c 8 D A CE SL Q 1429 lv [.int 1] ws) (n : Nat) (k28 : (Nat → Int32) → (Nat → Int32) → (Nat → Int32) → (Nat → Int32) → Int32 → Int32 → (Nat → Int32) → (Nat → Int32) → Int32 → (Nat → Int32) → Int32 → (Nat → Int32) → (Nat → Int32) → (Nat → Int32) → Int32 → (Nat → Int32) → Int32 → (Nat → Int32) → (Nat → Int32) → Int32 → Int32 → Int32 → Int32 → Int32 → Int32 → Int32 → (Nat → Int64) → (Nat → UInt64) → Int32 → Option Int32) (K28 : ∀ (CE SL : Nat) (areas : Nat → Int32) (keys : Nat → Int32) (there : Nat → Int32) (order : Nat → Int32) (added : Int32) (size : Int32) (loads : Nat → Int32) (widths : Nat → Int32) (height : Int32) (ranks : Nat → Int32) (madded : Int32) (msides : Nat → Int32) (mkey : Nat → Int32) (misThere : Nat → Int32) (mboxes : Int32) (morder : Nat → Int32) (mlevels : Int32) (mnodes : Nat → Int32) (mentries : Nat → Int32) (mleft : Int32) (mlow : Int32) (mright : Int32) (mhigh : Int32) (mfirst : Int32) (mend : Int32) (mthrown : Int32) (out : Nat → Int64) (outD : Nat → UInt64) (x5 : Int32), lwB L x5 CE SL → k28 areas keys there order added size loads widths height ranks madded msides mkey misThere mboxes morder mlevels mnodes mentries mleft mlow mright mhigh mfirst mend mthrown out outD x5 = some 1 → hS p l e room_1 s m args below meth c 8 D A CE SL Q 28 [(0, .ref (ad 19)), (1, .ref (ad 0)), (2, .ref (ad 10)), (3, .ref (ad 17)), (4, .ref (ad 18)), (5, .int x5)] [] (wL cT ad areas keys there order added size loads widths height ranks madded msides mkey misThere mboxes morder mlevels mnodes mentries mleft mlow mright mhigh mfirst mend mthrown out outD)) : ∀ (CE SL : Nat) (areas : Nat → Int32) (keys : Nat → Int32) (there : Nat → Int32) (order : Nat → Int32) (added : Int32) (size : Int32) (loads : Nat → Int32) (widths : Nat → Int32) (height : Int32) (ranks : Nat → Int32) (madded : Int32) (msides : Nat → Int32) (mkey : Nat → Int32) (misThere : Nat → Int32) (mboxes : Int32) (morder : Nat → Int32) (mlevels : Int32) (mnodes : Nat → Int32) (mentries : Nat → Int32) (mleft : Int32) (mlow : Int32) (mright : Int32) (mhigh : Int32) (mfirst : Int32) (mend : Int32) (mthrown : Int32) (out : Nat → Int64) (outD : Nat → UInt64) (x5 : Int32), lwB1 L x5 CE SL → f_L_law_1353 n L xs k28 areas keys there order added size loads widths height ranks madded msides mkey misThere mboxes morder mlevels mnodes mentries mleft mlow mright mhigh mfirst mend mthrown out outD x5 = some 1 → hS p l e room_1 s m args below meth c 8 D A CE SL Q 1353 [(0, .ref (ad 19)), (1, .ref (ad 0)), (2, .ref (ad 10)), (3, .ref (ad 17)), (4, .ref (ad 18)), (5, .int x5)] [] (wL cT ad areas keys there order added size loads widths height ranks madded msides mkey misThere mboxes morder mlevels mnodes mentries mleft mlow mright mhigh mfirst mend mthrown out outD) := by
  intro CE SL areas keys there order added size loads widths height ranks madded msides mkey misThere mboxes morder mlevels mnodes mentries mleft mlow mright mhigh mfirst mend mthrown out outD x5 hb hf
  have hE := lwB1_r hb
  unfold f_L_law_1353 at hf
  refine h_aload_n (pc := 1353) C dL_law_1353 rfl 1 rfl ?_
  obtain ⟨v150, hc, hf⟩ := jbd_s hf
  refine h_callV (pc := 1354) (q0 := 0) (As := []) (rest := []) (ws' := (wL cT ad areas keys there order added size loads widths height ranks madded msides mkey misThere mboxes morder mlevels mnodes mentries mleft mlow mright mhigh mfirst mend mthrown out outD)) (st2 := .int v150 :: []) C (c_X4_pairs l D cT ad n areas keys there order added size loads widths height ranks v150 hc) (cwV 0 C.1.2.2.2.2 gL_law_X4_pairs rfl rfl rfl pv_X4_pairs ⟨(Nat.le_of_ble_eq_true rfl), (Nat.le_of_ble_eq_true rfl)⟩) dL_law_1354 rfl rfl rfl rfl rfl (Nat.le_of_ble_eq_true rfl) ⟨rfl, rfl⟩ ⟨Nat.le_trans (Nat.le_add_right _ _) hE.1, Nat.le_trans (Nat.le_add_right _ _) hE.2⟩ [0, 1, 2, 3, 4, 5, 6, 7, 8, 9] [10, 11, 12, 13, 14, 15, 16, 17, 18] [9, 10, 11, 12, 13, 14, 15, 16, 17, 18, 0, 1, 2, 3, 4, 5, 6, 7, 8] rfl rfl rfl rfl (by decide) rfl rfl rfl ?_
  clear hc
  refine h_aload_n (pc := 1357) C dL_law_1357 rfl 2 rfl ?_
  obtain ⟨v151, hc, hf⟩ := jbd_s hf
  refine h_callV (pc := 1358) (q0 := 10) (As := []) (rest := .int v150 :: []) (ws' := (wL cT ad areas keys there order added size loads widths height ranks madded msides mkey misThere mboxes morder mlevels mnodes mentries mleft mlow mright mhigh mfirst mend v151.2 out outD)) (st2 := .int v151.1 :: .int v150 :: []) C (c_X5_pairs l D cT ad n madded msides mkey misThere mboxes morder mlevels mnodes mentries mleft mlow mright mhigh mfirst mend mthrown v151.1 v151.2 hc) (cwV 0 C.1.2.2.2.2 gL_law_X5_pairs rfl rfl rfl pv_X5_pairs ⟨(Nat.le_of_ble_eq_true rfl), (Nat.le_of_ble_eq_true rfl)⟩) dL_law_1358 rfl rfl rfl rfl rfl (Nat.le_of_ble_eq_true rfl) ⟨rfl, rfl⟩ ⟨Nat.le_trans (Nat.le_add_right _ _) hE.1, Nat.le_trans (Nat.le_add_right _ _) hE.2⟩ [10, 11, 12, 13, 14, 15, 16] [0, 1, 2, 3, 4, 5, 6, 7, 8, 9, 17, 18] [0, 1, 2, 3, 4, 5, 6, 7, 8, 9, 12, 13, 14, 15, 16, 17, 18, 10, 11] rfl rfl rfl rfl (by decide) rfl rfl rfl ?_
  clear hc
  refine h_icmp_eq (pc := 1361) (tgt := 1422) C dL_law_1361 (by decide) (fun q => ?_) (fun q => ?_)
  · replace hf := jif_t q hf
    exact k_L_law_1422 hX0 D cT ad C X9 Z hEnd n k28 K28 CE SL areas keys there order added size loads widths height ranks madded msides mkey misThere mboxes morder mlevels mnodes mentries mleft mlow mright mhigh mfirst mend v151.2 out outD x5 (lwB_same hb) hf
  · replace hf := jif_f q hf
    refine h_iconst (pc := 1364) C dL_law_1364 jc_0 ?_
    exact absurd (Option.some.inj hf) (by decide)
set_option maxRecDepth 100000 in
set_option maxHeartbeats 4000000 in
theorem k_L_law_1366 {p : Program} {e : Env} {s : State} {m : MethodId} {args : Array Value} {below : List Frame} {meth : Method} {c : Code} {A : Nat → Prop} {Q : State → Prop} {l : Launch} {L : Nat} {xs : Nat → Int32} (hX0 : l.stackTraces = false) (D : va_G) (cT : Nat → ClassId) (ad : Nat → Nat) (C : hC p s m args meth c code 8 wsL_law RL D (ty4 cT) A) (X9 : va_X (ad 19) L xs s s.heap ∧ ad 19 < s.heap.size ∧ ¬ A (ad 19)) (Z : xZ A s s.heap) (hEnd : ∀ (CE SL : Nat), CE ≤ 1055 → SL ≤ 10903 → ∀ (lv : List (Nat × Value)) (ws : va_W), hS p l e room_1 s m args below meth c 8 D A CE SL Q 1429 lv [.int 1] ws) (n : Nat) (k28 : (Nat → Int32) → (Nat → Int32) → (Nat → Int32) → (Nat → Int32) → Int32 → Int32 → (Nat → Int32) → (Nat → Int32) → Int32 → (Nat → Int32) → Int32 → (Nat → Int32) → (Nat → Int32) → (Nat → Int32) → Int32 → (Nat → Int32) → Int32 → (Nat → Int32) → (Nat → Int32) → Int32 → Int32 → Int32 → Int32 → Int32 → Int32 → Int32 → (Nat → Int64) → (Nat → UInt64) → Int32 → Option Int32) (K28 : ∀ (CE SL : Nat) (areas : Nat → Int32) (keys : Nat → Int32) (there : Nat → Int32) (order : Nat → Int32) (added : Int32) (size : Int32) (loads : Nat → Int32) (widths : Nat → Int32) (height : Int32) (ranks : Nat → Int32) (madded : Int32) (msides : Nat → Int32) (mkey : Nat → Int32) (misThere : Nat → Int32) (mboxes : Int32) (morder : Nat → Int32) (mlevels : Int32) (mnodes : Nat → Int32) (mentries : Nat → Int32) (mleft : Int32) (mlow : Int32) (mright : Int32) (mhigh : Int32) (mfirst : Int32) (mend : Int32) (mthrown : Int32) (out : Nat → Int64) (outD : Nat → UInt64) (x5 : Int32), lwB L x5 CE SL → k28 areas keys there order added size loads widths height ranks madded msides mkey misThere mboxes morder mlevels mnodes mentries mleft mlow mright mhigh mfirst mend mthrown out outD x5 = some 1 → hS p l e room_1 s m args below meth c 8 D A CE SL Q 28 [(0, .ref (ad 19)), (1, .ref (ad 0)), (2, .ref (ad 10)), (3, .ref (ad 17)), (4, .ref (ad 18)), (5, .int x5)] [] (wL cT ad areas keys there order added size loads widths height ranks madded msides mkey misThere mboxes morder mlevels mnodes mentries mleft mlow mright mhigh mfirst mend mthrown out outD)) : ∀ (CE SL : Nat) (areas : Nat → Int32) (keys : Nat → Int32) (there : Nat → Int32) (order : Nat → Int32) (added : Int32) (size : Int32) (loads : Nat → Int32) (widths : Nat → Int32) (height : Int32) (ranks : Nat → Int32) (madded : Int32) (msides : Nat → Int32) (mkey : Nat → Int32) (misThere : Nat → Int32) (mboxes : Int32) (morder : Nat → Int32) (mlevels : Int32) (mnodes : Nat → Int32) (mentries : Nat → Int32) (mleft : Int32) (mlow : Int32) (mright : Int32) (mhigh : Int32) (mfirst : Int32) (mend : Int32) (mthrown : Int32) (out : Nat → Int64) (outD : Nat → UInt64) (x5 : Int32), lwB1 L x5 CE SL → f_L_law_1366 n L xs k28 areas keys there order added size loads widths height ranks madded msides mkey misThere mboxes morder mlevels mnodes mentries mleft mlow mright mhigh mfirst mend mthrown out outD x5 = some 1 → hS p l e room_1 s m args below meth c 8 D A CE SL Q 1366 [(0, .ref (ad 19)), (1, .ref (ad 0)), (2, .ref (ad 10)), (3, .ref (ad 17)), (4, .ref (ad 18)), (5, .int x5)] [] (wL cT ad areas keys there order added size loads widths height ranks madded msides mkey misThere mboxes morder mlevels mnodes mentries mleft mlow mright mhigh mfirst mend mthrown out outD) := by
  intro CE SL areas keys there order added size loads widths height ranks madded msides mkey misThere mboxes morder mlevels mnodes mentries mleft mlow mright mhigh mfirst mend mthrown out outD x5 hb hf
  have hE := lwB1_r hb
  unfold f_L_law_1366 at hf
  refine h_aload_n (pc := 1366) C dL_law_1366 rfl 1 rfl ?_
  refine h_aload_n (pc := 1367) C dL_law_1367 rfl 0 rfl ?_
  refine h_iload (pc := 1368) C dL_law_1368 5 rfl ?_
  refine h_iconst (pc := 1370) C dL_law_1370 jc_1 ?_
  refine h_iadd (pc := 1371) C dL_law_1371 ?_
  obtain ⟨hi, v152, hv, hf⟩ := jrd_s hf
  refine h_sld (pc := 1372) C X9 hi hv dL_law_1372 ?_
  clear hi hv
  refine h_aload_n (pc := 1373) C dL_law_1373 rfl 3 rfl ?_
  obtain ⟨v153, hc, hf⟩ := jbd_s hf
  refine h_callSW (pc := 1374) (As := [.ref (ad 0), .int v152, .ref (ad 17)]) (rest := []) (ws' := (wL cT ad areas keys there order added size loads widths height ranks madded msides mkey misThere mboxes morder mlevels mnodes mentries mleft mlow mright mhigh mfirst mend mthrown v153.2 outD)) (st2 := .int v153.1 :: []) C Z (c_L_pair hX0 D cT ad n areas keys there order added size loads widths height ranks v152 out v153.1 v153.2 hc) (vx_cwSW 3 C.1.2.2.2.2 gL_law_L_pair rfl rfl rfl ps_L_pair ⟨(Nat.le_of_ble_eq_true rfl), (Nat.le_of_ble_eq_true rfl)⟩) dL_law_1374 rfl rfl (Nat.le_of_ble_eq_true rfl) hE [0, 1, 2, 3, 4, 5, 6, 7, 8, 9, 17] [10, 11, 12, 13, 14, 15, 16, 18] [8, 9, 10, 11, 12, 13, 14, 15, 16, 17, 0, 1, 2, 3, 4, 5, 6, 18, 7] rfl rfl rfl rfl (by decide) rfl rfl rfl ?_
  clear hc
  refine h_istore (pc := 1377) (lv' := [(6, .int v153.1), (0, .ref (ad 19)), (1, .ref (ad 0)), (2, .ref (ad 10)), (3, .ref (ad 17)), (4, .ref (ad 18)), (5, .int x5)]) C dL_law_1377 (by decide) rfl ?_
  refine h_aload_n (pc := 1379) C dL_law_1379 rfl 3 rfl ?_
  refine h_aload_n (pc := 1380) C dL_law_1380 rfl 1 rfl ?_
  refine h_iload (pc := 1381) C dL_law_1381 6 rfl ?_
  refine h_iconst (pc := 1383) C dL_law_1383 jc_1 ?_
  refine h_iadd (pc := 1384) C dL_law_1384 ?_
  obtain ⟨hi, v154, hv, hf⟩ := jrd_s hf
  refine h_sld (pc := 1385) C X9 hi hv dL_law_1385 ?_
  clear hi hv
  obtain ⟨v155, hc, hf⟩ := jbd_s hf
  refine h_callV (pc := 1386) (q0 := 10) (As := [.int v154]) (rest := []) (ws' := (wL cT ad areas keys there order added size loads widths height ranks madded msides mkey misThere mboxes morder mlevels mnodes mentries mleft mlow mright mhigh mfirst mend v155.2 v153.2 outD)) (st2 := .int v155.1 :: []) C (c_X5_pair l D cT ad n madded msides mkey misThere mboxes morder mlevels mnodes mentries mleft mlow mright mhigh mfirst mend mthrown v154 v155.1 v155.2 hc) (cwV 1 C.1.2.2.2.2 gL_law_X5_pair rfl rfl rfl pv_X5_pair ⟨(Nat.le_of_ble_eq_true rfl), (Nat.le_of_ble_eq_true rfl)⟩) dL_law_1386 rfl rfl rfl rfl rfl (Nat.le_of_ble_eq_true rfl) ⟨rfl, rfl⟩ hE [10, 11, 12, 13, 14, 15, 16] [0, 1, 2, 3, 4, 5, 6, 7, 8, 9, 17, 18] [0, 1, 2, 3, 4, 5, 6, 7, 8, 9, 12, 13, 14, 15, 16, 17, 18, 10, 11] rfl rfl rfl rfl (by decide) rfl rfl rfl ?_
  clear hc
  refine h_istore (pc := 1389) (lv' := [(7, .int v155.1), (6, .int v153.1), (0, .ref (ad 19)), (1, .ref (ad 0)), (2, .ref (ad 10)), (3, .ref (ad 17)), (4, .ref (ad 18)), (5, .int x5)]) C dL_law_1389 (by decide) rfl ?_
  refine h_aload_n (pc := 1391) C dL_law_1391 rfl 4 rfl ?_
  obtain ⟨v156, hc, hf⟩ := jbd_s hf
  refine h_callV (pc := 1392) (q0 := 10) (As := []) (rest := []) (ws' := (wL cT ad areas keys there order added size loads widths height ranks madded msides mkey misThere mboxes morder mlevels mnodes mentries mleft mlow mright mhigh mfirst mend v155.2 v153.2 outD)) (st2 := .int v156 :: []) C (c_X5_thrown l D cT ad n madded msides mkey misThere mboxes morder mlevels mnodes mentries mleft mlow mright mhigh mfirst mend v155.2 v156 hc) (cwV 0 C.1.2.2.2.2 gL_law_X5_thrown rfl rfl rfl pv_X5_thrown ⟨(Nat.le_of_ble_eq_true rfl), (Nat.le_of_ble_eq_true rfl)⟩) dL_law_1392 rfl rfl rfl rfl rfl (Nat.le_of_ble_eq_true rfl) ⟨rfl, rfl⟩ hE [10, 11, 12, 13, 14, 15, 16] [0, 1, 2, 3, 4, 5, 6, 7, 8, 9, 17, 18] [0, 1, 2, 3, 4, 5, 6, 7, 8, 9, 12, 13, 14, 15, 16, 17, 18, 10, 11] rfl rfl rfl rfl (by decide) rfl rfl rfl ?_
  clear hc
  refine h_iload (pc := 1395) C dL_law_1395 1 rfl ?_
  refine h_icmp_eq (pc := 1397) (tgt := 1402) C dL_law_1397 (by decide) (fun q => ?_) (fun q => ?_)
  · replace hf := jif_t q hf
    refine h_iload (pc := 1402) C dL_law_1402 1 rfl ?_
    refine h_if_ne (pc := 1404) (tgt := 1419) C dL_law_1404 (by decide) (fun q => ?_) (fun q => ?_)
    · replace hf := jif_f q hf
      refine h_goto (pc := 1419) (tgt := 1422) C dL_law_1419 (by decide) ?_
      refine h_sub [2, 3, 4, 5, 6, 7] rfl ?_
      exact k_L_law_1422 hX0 D cT ad C X9 Z hEnd n k28 K28 (CE + rmL_pair.cells) (SL + rmL_pair.slots) areas keys there order added size loads widths height ranks madded msides mkey misThere mboxes morder mlevels mnodes mentries mleft mlow mright mhigh mfirst mend v155.2 v153.2 outD x5 (lwB_more hb) hf
    · replace hf := jif_t q hf
      refine h_aload_n (pc := 1407) C dL_law_1407 rfl 5 rfl ?_
      refine h_iconst (pc := 1408) C dL_law_1408 jc_0 ?_
      obtain ⟨hi, v157, hv, hf⟩ := jrdA_s hf
      refine h_lald (pc := 1409) C 17 2 rfl rfl hi hv dL_law_1409 ?_
      clear hi hv
      refine h_iload (pc := 1410) C dL_law_1410 0 rfl ?_
      refine h_i2l (pc := 1412) C dL_law_1412 ?_
      refine h_lcmp (pc := 1413) C dL_law_1413 ?_
      refine h_if_eq (pc := 1414) (tgt := 1419) C dL_law_1414 (by decide) (fun q => ?_) (fun q => ?_)
      · replace hf := jif_t q hf
        refine h_goto (pc := 1419) (tgt := 1422) C dL_law_1419 (by decide) ?_
        refine h_sub [2, 3, 4, 5, 6, 7] rfl ?_
        exact k_L_law_1422 hX0 D cT ad C X9 Z hEnd n k28 K28 (CE + rmL_pair.cells) (SL + rmL_pair.slots) areas keys there order added size loads widths height ranks madded msides mkey misThere mboxes morder mlevels mnodes mentries mleft mlow mright mhigh mfirst mend v155.2 v153.2 outD x5 (lwB_more hb) hf
      · replace hf := jif_f q hf
        refine h_iconst (pc := 1417) C dL_law_1417 jc_0 ?_
        exact absurd (Option.some.inj hf) (by decide)
  · replace hf := jif_f q hf
    refine h_iconst (pc := 1400) C dL_law_1400 jc_0 ?_
    exact absurd (Option.some.inj hf) (by decide)
set_option maxRecDepth 100000 in
set_option maxHeartbeats 4000000 in
theorem k_L_law_28 {p : Program} {e : Env} {s : State} {m : MethodId} {args : Array Value} {below : List Frame} {meth : Method} {c : Code} {A : Nat → Prop} {Q : State → Prop} {l : Launch} {L : Nat} {xs : Nat → Int32} (hX0 : l.stackTraces = false) (D : va_G) (cT : Nat → ClassId) (ad : Nat → Nat) (C : hC p s m args meth c code 8 wsL_law RL D (ty4 cT) A) (X9 : va_X (ad 19) L xs s s.heap ∧ ad 19 < s.heap.size ∧ ¬ A (ad 19)) (Z : xZ A s s.heap) (hEnd : ∀ (CE SL : Nat), CE ≤ 1055 → SL ≤ 10903 → ∀ (lv : List (Nat × Value)) (ws : va_W), hS p l e room_1 s m args below meth c 8 D A CE SL Q 1429 lv [.int 1] ws) (n : Nat) (hL : L ≤ 3072) : ∀ (fu CE SL : Nat) (areas : Nat → Int32) (keys : Nat → Int32) (there : Nat → Int32) (order : Nat → Int32) (added : Int32) (size : Int32) (loads : Nat → Int32) (widths : Nat → Int32) (height : Int32) (ranks : Nat → Int32) (madded : Int32) (msides : Nat → Int32) (mkey : Nat → Int32) (misThere : Nat → Int32) (mboxes : Int32) (morder : Nat → Int32) (mlevels : Int32) (mnodes : Nat → Int32) (mentries : Nat → Int32) (mleft : Int32) (mlow : Int32) (mright : Int32) (mhigh : Int32) (mfirst : Int32) (mend : Int32) (mthrown : Int32) (out : Nat → Int64) (outD : Nat → UInt64) (x5 : Int32), lwB L x5 CE SL → f_L_law_28 n L xs fu areas keys there order added size loads widths height ranks madded msides mkey misThere mboxes morder mlevels mnodes mentries mleft mlow mright mhigh mfirst mend mthrown out outD x5 = some 1 → hS p l e room_1 s m args below meth c 8 D A CE SL Q 28 [(0, .ref (ad 19)), (1, .ref (ad 0)), (2, .ref (ad 10)), (3, .ref (ad 17)), (4, .ref (ad 18)), (5, .int x5)] [] (wL cT ad areas keys there order added size loads widths height ranks madded msides mkey misThere mboxes morder mlevels mnodes mentries mleft mlow mright mhigh mfirst mend mthrown out outD) := by
  intro fu
  induction fu with
  | zero =>
    intro CE SL areas keys there order added size loads widths height ranks madded msides mkey misThere mboxes morder mlevels mnodes mentries mleft mlow mright mhigh mfirst mend mthrown out outD x5 hb hf
    exact nomatch (show (none : Option Int32) = some 1 from hf)
  | succ fu ih =>
    intro CE SL areas keys there order added size loads widths height ranks madded msides mkey misThere mboxes morder mlevels mnodes mentries mleft mlow mright mhigh mfirst mend mthrown out outD x5 hb hf
    have hE := lwB_r hL hb
    rw [f_L_law_28] at hf
    refine h_iload (pc := 28) C dL_law_28 5 rfl ?_
    refine h_aload_n (pc := 30) C dL_law_30 rfl 0 rfl ?_
    refine h_slen (pc := 31) C X9 dL_law_31 ?_
    refine h_bipush (pc := 32) C dL_law_32 jb_6 ?_
    refine h_isub (pc := 34) C dL_law_34 ?_
    refine h_icmp_gt (pc := 35) (tgt := 1428) C dL_law_35 (by decide) (fun q => ?_) (fun q => ?_)
    · replace hf := jif_t q hf
      refine h_iconst (pc := 1428) C dL_law_1428 jc_1 ?_
      exact hEnd CE SL hE.1 hE.2 _ _
    · replace hf := jif_f q hf
      refine h_aload_n (pc := 38) C dL_law_38 rfl 0 rfl ?_
      refine h_iload (pc := 39) C dL_law_39 5 rfl ?_
      obtain ⟨hi, v1, hv, hf⟩ := jrd_s hf
      refine h_sld (pc := 41) C X9 hi hv dL_law_41 ?_
      clear hi hv
      refine h_bipush (pc := 42) C dL_law_42 jb_31 ?_
      refine h_iand (pc := 44) C dL_law_44 ?_
      obtain ⟨v2, hv, hf⟩ := jlet_s hf
      refine h_eq hv ?_
      clear hv
      by_cases q0 : v2 = 0
      · replace hf := jif_t q0 hf
        refine h_tabIn (pc := 45) (tgt := 144) (K := 0) C q0 dL_law_45 (by decide) (by decide) rfl (by decide) ?_
        exact k_L_law_144 hX0 D cT ad C X9 Z hEnd n (f_L_law_28 n L xs fu) ih CE SL areas keys there order added size loads widths height ranks madded msides mkey misThere mboxes morder mlevels mnodes mentries mleft mlow mright mhigh mfirst mend mthrown out outD x5 (lwB_in hL hb q) hf
      · replace hf := jif_f q0 hf
        by_cases q1 : v2 = 1
        · replace hf := jif_t q1 hf
          refine h_tabIn (pc := 45) (tgt := 236) (K := 1) C q1 dL_law_45 (by decide) (by decide) rfl (by decide) ?_
          exact k_L_law_236 hX0 D cT ad C X9 Z hEnd n (f_L_law_28 n L xs fu) ih CE SL areas keys there order added size loads widths height ranks madded msides mkey misThere mboxes morder mlevels mnodes mentries mleft mlow mright mhigh mfirst mend mthrown out outD x5 (lwB_in hL hb q) hf
        · replace hf := jif_f q1 hf
          by_cases q2 : v2 = 2
          · replace hf := jif_t q2 hf
            refine h_tabIn (pc := 45) (tgt := 292) (K := 2) C q2 dL_law_45 (by decide) (by decide) rfl (by decide) ?_
            exact k_L_law_292 hX0 D cT ad C X9 Z hEnd n (f_L_law_28 n L xs fu) ih CE SL areas keys there order added size loads widths height ranks madded msides mkey misThere mboxes morder mlevels mnodes mentries mleft mlow mright mhigh mfirst mend mthrown out outD x5 (lwB_in hL hb q) hf
          · replace hf := jif_f q2 hf
            by_cases q3 : v2 = 3
            · replace hf := jif_t q3 hf
              refine h_tabIn (pc := 45) (tgt := 305) (K := 3) C q3 dL_law_45 (by decide) (by decide) rfl (by decide) ?_
              exact k_L_law_305 hX0 D cT ad C X9 Z hEnd n (f_L_law_28 n L xs fu) ih CE SL areas keys there order added size loads widths height ranks madded msides mkey misThere mboxes morder mlevels mnodes mentries mleft mlow mright mhigh mfirst mend mthrown out outD x5 (lwB_in hL hb q) hf
            · replace hf := jif_f q3 hf
              by_cases q4 : v2 = 4
              · replace hf := jif_t q4 hf
                refine h_tabIn (pc := 45) (tgt := 318) (K := 4) C q4 dL_law_45 (by decide) (by decide) rfl (by decide) ?_
                exact k_L_law_318 hX0 D cT ad C X9 Z hEnd n (f_L_law_28 n L xs fu) ih CE SL areas keys there order added size loads widths height ranks madded msides mkey misThere mboxes morder mlevels mnodes mentries mleft mlow mright mhigh mfirst mend mthrown out outD x5 (lwB_in hL hb q) hf
              · replace hf := jif_f q4 hf
                by_cases q5 : v2 = 5
                · replace hf := jif_t q5 hf
                  refine h_tabIn (pc := 45) (tgt := 386) (K := 5) C q5 dL_law_45 (by decide) (by decide) rfl (by decide) ?_
                  exact k_L_law_386 hX0 D cT ad C X9 Z hEnd n (f_L_law_28 n L xs fu) ih CE SL areas keys there order added size loads widths height ranks madded msides mkey misThere mboxes morder mlevels mnodes mentries mleft mlow mright mhigh mfirst mend mthrown out outD x5 (lwB_in hL hb q) hf
                · replace hf := jif_f q5 hf
                  by_cases q6 : v2 = 6
                  · replace hf := jif_t q6 hf
                    refine h_tabIn (pc := 45) (tgt := 442) (K := 6) C q6 dL_law_45 (by decide) (by decide) rfl (by decide) ?_
                    exact k_L_law_442 hX0 D cT ad C X9 Z hEnd n (f_L_law_28 n L xs fu) ih CE SL areas keys there order added size loads widths height ranks madded msides mkey misThere mboxes morder mlevels mnodes mentries mleft mlow mright mhigh mfirst mend mthrown out outD x5 (lwB_in hL hb q) hf
                  · replace hf := jif_f q6 hf
                    by_cases q7 : v2 = 7
                    · replace hf := jif_t q7 hf
                      refine h_tabIn (pc := 45) (tgt := 510) (K := 7) C q7 dL_law_45 (by decide) (by decide) rfl (by decide) ?_
                      exact k_L_law_510 hX0 D cT ad C X9 Z hEnd n (f_L_law_28 n L xs fu) ih CE SL areas keys there order added size loads widths height ranks madded msides mkey misThere mboxes morder mlevels mnodes mentries mleft mlow mright mhigh mfirst mend mthrown out outD x5 (lwB_in hL hb q) hf
                    · replace hf := jif_f q7 hf
                      by_cases q8 : v2 = 8
                      · replace hf := jif_t q8 hf
                        refine h_tabIn (pc := 45) (tgt := 523) (K := 8) C q8 dL_law_45 (by decide) (by decide) rfl (by decide) ?_
                        exact k_L_law_523 hX0 D cT ad C X9 Z hEnd n (f_L_law_28 n L xs fu) ih CE SL areas keys there order added size loads widths height ranks madded msides mkey misThere mboxes morder mlevels mnodes mentries mleft mlow mright mhigh mfirst mend mthrown out outD x5 (lwB_in hL hb q) hf
                      · replace hf := jif_f q8 hf
                        by_cases q9 : v2 = 9
                        · replace hf := jif_t q9 hf
                          refine h_tabIn (pc := 45) (tgt := 579) (K := 9) C q9 dL_law_45 (by decide) (by decide) rfl (by decide) ?_
                          exact k_L_law_579 hX0 D cT ad C X9 Z hEnd n (f_L_law_28 n L xs fu) ih CE SL areas keys there order added size loads widths height ranks madded msides mkey misThere mboxes morder mlevels mnodes mentries mleft mlow mright mhigh mfirst mend mthrown out outD x5 (lwB_in hL hb q) hf
                        · replace hf := jif_f q9 hf
                          by_cases q10 : v2 = 10
                          · replace hf := jif_t q10 hf
                            refine h_tabIn (pc := 45) (tgt := 647) (K := 10) C q10 dL_law_45 (by decide) (by decide) rfl (by decide) ?_
                            exact k_L_law_647 hX0 D cT ad C X9 Z hEnd n (f_L_law_28 n L xs fu) ih CE SL areas keys there order added size loads widths height ranks madded msides mkey misThere mboxes morder mlevels mnodes mentries mleft mlow mright mhigh mfirst mend mthrown out outD x5 (lwB_in hL hb q) hf
                          · replace hf := jif_f q10 hf
                            by_cases q11 : v2 = 11
                            · replace hf := jif_t q11 hf
                              refine h_tabIn (pc := 45) (tgt := 727) (K := 11) C q11 dL_law_45 (by decide) (by decide) rfl (by decide) ?_
                              exact k_L_law_727 hX0 D cT ad C X9 Z hEnd n (f_L_law_28 n L xs fu) ih CE SL areas keys there order added size loads widths height ranks madded msides mkey misThere mboxes morder mlevels mnodes mentries mleft mlow mright mhigh mfirst mend mthrown out outD x5 (lwB_in hL hb q) hf
                            · replace hf := jif_f q11 hf
                              by_cases q12 : v2 = 12
                              · replace hf := jif_t q12 hf
                                refine h_tabIn (pc := 45) (tgt := 783) (K := 12) C q12 dL_law_45 (by decide) (by decide) rfl (by decide) ?_
                                exact k_L_law_783 hX0 D cT ad C X9 Z hEnd n (f_L_law_28 n L xs fu) ih CE SL areas keys there order added size loads widths height ranks madded msides mkey misThere mboxes morder mlevels mnodes mentries mleft mlow mright mhigh mfirst mend mthrown out outD x5 (lwB_in hL hb q) hf
                              · replace hf := jif_f q12 hf
                                by_cases q13 : v2 = 13
                                · replace hf := jif_t q13 hf
                                  refine h_tabIn (pc := 45) (tgt := 839) (K := 13) C q13 dL_law_45 (by decide) (by decide) rfl (by decide) ?_
                                  exact k_L_law_839 hX0 D cT ad C X9 Z hEnd n (f_L_law_28 n L xs fu) ih CE SL areas keys there order added size loads widths height ranks madded msides mkey misThere mboxes morder mlevels mnodes mentries mleft mlow mright mhigh mfirst mend mthrown out outD x5 (lwB_in hL hb q) hf
                                · replace hf := jif_f q13 hf
                                  by_cases q14 : v2 = 14
                                  · replace hf := jif_t q14 hf
                                    refine h_tabIn (pc := 45) (tgt := 905) (K := 14) C q14 dL_law_45 (by decide) (by decide) rfl (by decide) ?_
                                    exact k_L_law_905 hX0 D cT ad C X9 Z hEnd n (f_L_law_28 n L xs fu) ih CE SL areas keys there order added size loads widths height ranks madded msides mkey misThere mboxes morder mlevels mnodes mentries mleft mlow mright mhigh mfirst mend mthrown out outD x5 (lwB_in hL hb q) hf
                                  · replace hf := jif_f q14 hf
                                    by_cases q15 : v2 = 15
                                    · replace hf := jif_t q15 hf
                                      refine h_tabIn (pc := 45) (tgt := 997) (K := 15) C q15 dL_law_45 (by decide) (by decide) rfl (by decide) ?_
                                      exact k_L_law_997 hX0 D cT ad C X9 Z hEnd n (f_L_law_28 n L xs fu) ih CE SL areas keys there order added size loads widths height ranks madded msides mkey misThere mboxes morder mlevels mnodes mentries mleft mlow mright mhigh mfirst mend mthrown out outD x5 (lwB_in hL hb q) hf
                                    · replace hf := jif_f q15 hf
                                      by_cases q16 : v2 = 16
                                      · replace hf := jif_t q16 hf
                                        refine h_tabIn (pc := 45) (tgt := 1101) (K := 16) C q16 dL_law_45 (by decide) (by decide) rfl (by decide) ?_
                                        exact k_L_law_1101 hX0 D cT ad C X9 Z hEnd n (f_L_law_28 n L xs fu) ih CE SL areas keys there order added size loads widths height ranks madded msides mkey misThere mboxes morder mlevels mnodes mentries mleft mlow mright mhigh mfirst mend mthrown out outD x5 (lwB_in hL hb q) hf
                                      · replace hf := jif_f q16 hf
                                        by_cases q17 : v2 = 17
                                        · replace hf := jif_t q17 hf
                                          refine h_tabIn (pc := 45) (tgt := 1193) (K := 17) C q17 dL_law_45 (by decide) (by decide) rfl (by decide) ?_
                                          exact k_L_law_1193 hX0 D cT ad C X9 Z hEnd n (f_L_law_28 n L xs fu) ih CE SL areas keys there order added size loads widths height ranks madded msides mkey misThere mboxes morder mlevels mnodes mentries mleft mlow mright mhigh mfirst mend mthrown out outD x5 (lwB_in hL hb q) hf
                                        · replace hf := jif_f q17 hf
                                          by_cases q18 : v2 = 18
                                          · replace hf := jif_t q18 hf
                                            refine h_tabIn (pc := 45) (tgt := 1273) (K := 18) C q18 dL_law_45 (by decide) (by decide) rfl (by decide) ?_
                                            exact k_L_law_1273 hX0 D cT ad C X9 Z hEnd n (f_L_law_28 n L xs fu) ih CE SL areas keys there order added size loads widths height ranks madded msides mkey misThere mboxes morder mlevels mnodes mentries mleft mlow mright mhigh mfirst mend mthrown out outD x5 (lwB_in hL hb q) hf
                                          · replace hf := jif_f q18 hf
                                            by_cases q19 : v2 = 19
                                            · replace hf := jif_t q19 hf
                                              refine h_tabIn (pc := 45) (tgt := 1353) (K := 19) C q19 dL_law_45 (by decide) (by decide) rfl (by decide) ?_
                                              exact k_L_law_1353 hX0 D cT ad C X9 Z hEnd n (f_L_law_28 n L xs fu) ih CE SL areas keys there order added size loads widths height ranks madded msides mkey misThere mboxes morder mlevels mnodes mentries mleft mlow mright mhigh mfirst mend mthrown out outD x5 (lwB_in hL hb q) hf
                                            · replace hf := jif_f q19 hf
                                              by_cases q20 : v2 = 20
                                              · replace hf := jif_t q20 hf
                                                refine h_tabIn (pc := 45) (tgt := 1366) (K := 20) C q20 dL_law_45 (by decide) (by decide) rfl (by decide) ?_
                                                exact k_L_law_1366 hX0 D cT ad C X9 Z hEnd n (f_L_law_28 n L xs fu) ih CE SL areas keys there order added size loads widths height ranks madded msides mkey misThere mboxes morder mlevels mnodes mentries mleft mlow mright mhigh mfirst mend mthrown out outD x5 (lwB_in hL hb q) hf
                                              · replace hf := jif_f q20 hf
                                                refine h_tabOut (pc := 45) (tgt := 1422) C (tab_out q0 q1 q2 q3 q4 q5 q6 q7 q8 q9 q10 q11 q12 q13 q14 q15 q16 q17 q18 q19 q20) dL_law_45 (by decide) ?_
                                                exact k_L_law_1422 hX0 D cT ad C X9 Z hEnd n (f_L_law_28 n L xs fu) ih CE SL areas keys there order added size loads widths height ranks madded msides mkey misThere mboxes morder mlevels mnodes mentries mleft mlow mright mhigh mfirst mend mthrown out outD x5 (lwB_out hL hb q) hf
