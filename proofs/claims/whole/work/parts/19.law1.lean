/-! laid by wip/whole/lay.py: the law, a road a block -/
set_option maxRecDepth 100000 in
set_option maxHeartbeats 4000000 in
theorem k_L_law_1422 {p : Program} {e : Env} {s : State} {m : MethodId} {args : Array Value} {below : List Frame} {meth : Method} {c : Code} {A : Nat → Prop} {Q : State → Prop} {l : Launch} {L : Nat} {xs : Nat → Int32} (hX0 : l.stackTraces = false) (D : va_G) (cT : Nat → ClassId) (ad : Nat → Nat) (C : hC p s m args meth c code 8 wsL_law RL D (ty4 cT) A) (X9 : va_X (ad 19) L xs s s.heap ∧ ad 19 < s.heap.size ∧ ¬ A (ad 19)) (Z : xZ A s s.heap) (hEnd : ∀ (CE SL : Nat), CE ≤ 1055 → SL ≤ 10903 → ∀ (lv : List (Nat × Value)) (ws : va_W), hS p l e room_1 s m args below meth c 8 D A CE SL Q 1429 lv [.int 1] ws) (n : Nat) (k28 : (Nat → Int32) → (Nat → Int32) → (Nat → Int32) → (Nat → Int32) → Int32 → Int32 → (Nat → Int32) → (Nat → Int32) → Int32 → (Nat → Int32) → Int32 → (Nat → Int32) → (Nat → Int32) → (Nat → Int32) → Int32 → (Nat → Int32) → Int32 → (Nat → Int32) → (Nat → Int32) → Int32 → Int32 → Int32 → Int32 → Int32 → Int32 → Int32 → (Nat → Int64) → (Nat → UInt64) → Int32 → Option Int32) (K28 : ∀ (CE SL : Nat) (areas : Nat → Int32) (keys : Nat → Int32) (there : Nat → Int32) (order : Nat → Int32) (added : Int32) (size : Int32) (loads : Nat → Int32) (widths : Nat → Int32) (height : Int32) (ranks : Nat → Int32) (madded : Int32) (msides : Nat → Int32) (mkey : Nat → Int32) (misThere : Nat → Int32) (mboxes : Int32) (morder : Nat → Int32) (mlevels : Int32) (mnodes : Nat → Int32) (mentries : Nat → Int32) (mleft : Int32) (mlow : Int32) (mright : Int32) (mhigh : Int32) (mfirst : Int32) (mend : Int32) (mthrown : Int32) (out : Nat → Int64) (outD : Nat → UInt64) (x5 : Int32), lwB L x5 CE SL → k28 areas keys there order added size loads widths height ranks madded msides mkey misThere mboxes morder mlevels mnodes mentries mleft mlow mright mhigh mfirst mend mthrown out outD x5 = some 1 → hS p l e room_1 s m args below meth c 8 D A CE SL Q 28 [(0, .ref (ad 19)), (1, .ref (ad 0)), (2, .ref (ad 10)), (3, .ref (ad 17)), (4, .ref (ad 18)), (5, .int x5)] [] (wL cT ad areas keys there order added size loads widths height ranks madded msides mkey misThere mboxes morder mlevels mnodes mentries mleft mlow mright mhigh mfirst mend mthrown out outD)) : ∀ (CE SL : Nat) (areas : Nat → Int32) (keys : Nat → Int32) (there : Nat → Int32) (order : Nat → Int32) (added : Int32) (size : Int32) (loads : Nat → Int32) (widths : Nat → Int32) (height : Int32) (ranks : Nat → Int32) (madded : Int32) (msides : Nat → Int32) (mkey : Nat → Int32) (misThere : Nat → Int32) (mboxes : Int32) (morder : Nat → Int32) (mlevels : Int32) (mnodes : Nat → Int32) (mentries : Nat → Int32) (mleft : Int32) (mlow : Int32) (mright : Int32) (mhigh : Int32) (mfirst : Int32) (mend : Int32) (mthrown : Int32) (out : Nat → Int64) (outD : Nat → UInt64) (x5 : Int32), lwB2 L x5 CE SL → f_L_law_1422 n L xs k28 areas keys there order added size loads widths height ranks madded msides mkey misThere mboxes morder mlevels mnodes mentries mleft mlow mright mhigh mfirst mend mthrown out outD x5 = some 1 → hS p l e room_1 s m args below meth c 8 D A CE SL Q 1422 [(0, .ref (ad 19)), (1, .ref (ad 0)), (2, .ref (ad 10)), (3, .ref (ad 17)), (4, .ref (ad 18)), (5, .int x5)] [] (wL cT ad areas keys there order added size loads widths height ranks madded msides mkey misThere mboxes morder mlevels mnodes mentries mleft mlow mright mhigh mfirst mend mthrown out outD) := by
  intro CE SL areas keys there order added size loads widths height ranks madded msides mkey misThere mboxes morder mlevels mnodes mentries mleft mlow mright mhigh mfirst mend mthrown out outD x5 hb hf
  have hE := lwB2_r hb
  unfold f_L_law_1422 at hf
  refine h_iinc (pc := 1422) (v := x5 + 6) (lv' := [(5, .int (x5 + 6)), (0, .ref (ad 19)), (1, .ref (ad 0)), (2, .ref (ad 10)), (3, .ref (ad 17)), (4, .ref (ad 18))]) C dL_law_1422 5 rfl (ji_6 _) (by decide) rfl ?_
  refine h_goto (pc := 1425) (tgt := 28) C dL_law_1425 (by decide) ?_
  refine h_sub [1, 2, 3, 4, 5, 0] rfl ?_
  exact K28 CE SL areas keys there order added size loads widths height ranks madded msides mkey misThere mboxes morder mlevels mnodes mentries mleft mlow mright mhigh mfirst mend mthrown out outD (x5 + 6) (lwB_step hb) hf
set_option maxRecDepth 100000 in
set_option maxHeartbeats 4000000 in
theorem k_L_law_144 {p : Program} {e : Env} {s : State} {m : MethodId} {args : Array Value} {below : List Frame} {meth : Method} {c : Code} {A : Nat → Prop} {Q : State → Prop} {l : Launch} {L : Nat} {xs : Nat → Int32} (hX0 : l.stackTraces = false) (D : va_G) (cT : Nat → ClassId) (ad : Nat → Nat) (C : hC p s m args meth c code 8 wsL_law RL D (ty4 cT) A) (X9 : va_X (ad 19) L xs s s.heap ∧ ad 19 < s.heap.size ∧ ¬ A (ad 19)) (Z : xZ A s s.heap) (hEnd : ∀ (CE SL : Nat), CE ≤ 1055 → SL ≤ 10903 → ∀ (lv : List (Nat × Value)) (ws : va_W), hS p l e room_1 s m args below meth c 8 D A CE SL Q 1429 lv [.int 1] ws) (n : Nat) (k28 : (Nat → Int32) → (Nat → Int32) → (Nat → Int32) → (Nat → Int32) → Int32 → Int32 → (Nat → Int32) → (Nat → Int32) → Int32 → (Nat → Int32) → Int32 → (Nat → Int32) → (Nat → Int32) → (Nat → Int32) → Int32 → (Nat → Int32) → Int32 → (Nat → Int32) → (Nat → Int32) → Int32 → Int32 → Int32 → Int32 → Int32 → Int32 → Int32 → (Nat → Int64) → (Nat → UInt64) → Int32 → Option Int32) (K28 : ∀ (CE SL : Nat) (areas : Nat → Int32) (keys : Nat → Int32) (there : Nat → Int32) (order : Nat → Int32) (added : Int32) (size : Int32) (loads : Nat → Int32) (widths : Nat → Int32) (height : Int32) (ranks : Nat → Int32) (madded : Int32) (msides : Nat → Int32) (mkey : Nat → Int32) (misThere : Nat → Int32) (mboxes : Int32) (morder : Nat → Int32) (mlevels : Int32) (mnodes : Nat → Int32) (mentries : Nat → Int32) (mleft : Int32) (mlow : Int32) (mright : Int32) (mhigh : Int32) (mfirst : Int32) (mend : Int32) (mthrown : Int32) (out : Nat → Int64) (outD : Nat → UInt64) (x5 : Int32), lwB L x5 CE SL → k28 areas keys there order added size loads widths height ranks madded msides mkey misThere mboxes morder mlevels mnodes mentries mleft mlow mright mhigh mfirst mend mthrown out outD x5 = some 1 → hS p l e room_1 s m args below meth c 8 D A CE SL Q 28 [(0, .ref (ad 19)), (1, .ref (ad 0)), (2, .ref (ad 10)), (3, .ref (ad 17)), (4, .ref (ad 18)), (5, .int x5)] [] (wL cT ad areas keys there order added size loads widths height ranks madded msides mkey misThere mboxes morder mlevels mnodes mentries mleft mlow mright mhigh mfirst mend mthrown out outD)) : ∀ (CE SL : Nat) (areas : Nat → Int32) (keys : Nat → Int32) (there : Nat → Int32) (order : Nat → Int32) (added : Int32) (size : Int32) (loads : Nat → Int32) (widths : Nat → Int32) (height : Int32) (ranks : Nat → Int32) (madded : Int32) (msides : Nat → Int32) (mkey : Nat → Int32) (misThere : Nat → Int32) (mboxes : Int32) (morder : Nat → Int32) (mlevels : Int32) (mnodes : Nat → Int32) (mentries : Nat → Int32) (mleft : Int32) (mlow : Int32) (mright : Int32) (mhigh : Int32) (mfirst : Int32) (mend : Int32) (mthrown : Int32) (out : Nat → Int64) (outD : Nat → UInt64) (x5 : Int32), lwB1 L x5 CE SL → f_L_law_144 n L xs k28 areas keys there order added size loads widths height ranks madded msides mkey misThere mboxes morder mlevels mnodes mentries mleft mlow mright mhigh mfirst mend mthrown out outD x5 = some 1 → hS p l e room_1 s m args below meth c 8 D A CE SL Q 144 [(0, .ref (ad 19)), (1, .ref (ad 0)), (2, .ref (ad 10)), (3, .ref (ad 17)), (4, .ref (ad 18)), (5, .int x5)] [] (wL cT ad areas keys there order added size loads widths height ranks madded msides mkey misThere mboxes morder mlevels mnodes mentries mleft mlow mright mhigh mfirst mend mthrown out outD) := by
  intro CE SL areas keys there order added size loads widths height ranks madded msides mkey misThere mboxes morder mlevels mnodes mentries mleft mlow mright mhigh mfirst mend mthrown out outD x5 hb hf
  have hE := lwB1_r hb
  unfold f_L_law_144 at hf
  refine h_aload_n (pc := 144) C dL_law_144 rfl 1 rfl ?_
  refine h_aload_n (pc := 145) C dL_law_145 rfl 0 rfl ?_
  refine h_iload (pc := 146) C dL_law_146 5 rfl ?_
  refine h_iconst (pc := 148) C dL_law_148 jc_1 ?_
  refine h_iadd (pc := 149) C dL_law_149 ?_
  obtain ⟨hi, v3, hv, hf⟩ := jrd_s hf
  refine h_sld (pc := 150) C X9 hi hv dL_law_150 ?_
  clear hi hv
  refine h_aload_n (pc := 151) C dL_law_151 rfl 0 rfl ?_
  refine h_iload (pc := 152) C dL_law_152 5 rfl ?_
  refine h_iconst (pc := 154) C dL_law_154 jc_2 ?_
  refine h_iadd (pc := 155) C dL_law_155 ?_
  obtain ⟨hi, v4, hv, hf⟩ := jrd_s hf
  refine h_sld (pc := 156) C X9 hi hv dL_law_156 ?_
  clear hi hv
  refine h_aload_n (pc := 157) C dL_law_157 rfl 0 rfl ?_
  refine h_iload (pc := 158) C dL_law_158 5 rfl ?_
  refine h_iconst (pc := 160) C dL_law_160 jc_3 ?_
  refine h_iadd (pc := 161) C dL_law_161 ?_
  obtain ⟨hi, v5, hv, hf⟩ := jrd_s hf
  refine h_sld (pc := 162) C X9 hi hv dL_law_162 ?_
  clear hi hv
  refine h_aload_n (pc := 163) C dL_law_163 rfl 0 rfl ?_
  refine h_iload (pc := 164) C dL_law_164 5 rfl ?_
  refine h_iconst (pc := 166) C dL_law_166 jc_4 ?_
  refine h_iadd (pc := 167) C dL_law_167 ?_
  obtain ⟨hi, v6, hv, hf⟩ := jrd_s hf
  refine h_sld (pc := 168) C X9 hi hv dL_law_168 ?_
  clear hi hv
  refine h_aload_n (pc := 169) C dL_law_169 rfl 3 rfl ?_
  obtain ⟨v7, hc, hf⟩ := jbd_s hf
  refine h_callSW (pc := 170) (As := [.ref (ad 0), .int v3, .int v4, .int v5, .int v6, .ref (ad 17)]) (rest := []) (ws' := (wL cT ad v7.2.1 v7.2.2.1 v7.2.2.2.1 v7.2.2.2.2.1 v7.2.2.2.2.2.1 v7.2.2.2.2.2.2.1 v7.2.2.2.2.2.2.2.1 v7.2.2.2.2.2.2.2.2.1 v7.2.2.2.2.2.2.2.2.2.1 ranks madded msides mkey misThere mboxes morder mlevels mnodes mentries mleft mlow mright mhigh mfirst mend mthrown v7.2.2.2.2.2.2.2.2.2.2 outD)) (st2 := .int v7.1 :: []) C Z (c_L_add hX0 D cT ad n areas keys there order added size loads widths height ranks v3 v4 v5 v6 out v7.1 v7.2.1 v7.2.2.1 v7.2.2.2.1 v7.2.2.2.2.1 v7.2.2.2.2.2.1 v7.2.2.2.2.2.2.1 v7.2.2.2.2.2.2.2.1 v7.2.2.2.2.2.2.2.2.1 v7.2.2.2.2.2.2.2.2.2.1 v7.2.2.2.2.2.2.2.2.2.2 hc) (vx_cwSW 6 C.1.2.2.2.2 gL_law_L_add rfl rfl rfl ps_L_add ⟨(Nat.le_of_ble_eq_true rfl), (Nat.le_of_ble_eq_true rfl)⟩) dL_law_170 rfl rfl (Nat.le_of_ble_eq_true rfl) hE [0, 1, 2, 3, 4, 5, 6, 7, 8, 9, 17] [10, 11, 12, 13, 14, 15, 16, 18] [8, 9, 10, 11, 12, 13, 14, 15, 16, 17, 0, 1, 2, 3, 4, 5, 6, 18, 7] rfl rfl rfl rfl (by decide) rfl rfl rfl ?_
  clear hc
  refine h_istore (pc := 173) (lv' := [(6, .int v7.1), (0, .ref (ad 19)), (1, .ref (ad 0)), (2, .ref (ad 10)), (3, .ref (ad 17)), (4, .ref (ad 18)), (5, .int x5)]) C dL_law_173 (by decide) rfl ?_
  refine h_aload_n (pc := 175) C dL_law_175 rfl 3 rfl ?_
  refine h_aload_n (pc := 176) C dL_law_176 rfl 1 rfl ?_
  refine h_iload (pc := 177) C dL_law_177 6 rfl ?_
  refine h_iconst (pc := 179) C dL_law_179 jc_1 ?_
  refine h_iadd (pc := 180) C dL_law_180 ?_
  obtain ⟨hi, v8, hv, hf⟩ := jrd_s hf
  refine h_sld (pc := 181) C X9 hi hv dL_law_181 ?_
  clear hi hv
  refine h_aload_n (pc := 182) C dL_law_182 rfl 1 rfl ?_
  refine h_iload (pc := 183) C dL_law_183 6 rfl ?_
  refine h_iconst (pc := 185) C dL_law_185 jc_2 ?_
  refine h_iadd (pc := 186) C dL_law_186 ?_
  obtain ⟨hi, v9, hv, hf⟩ := jrd_s hf
  refine h_sld (pc := 187) C X9 hi hv dL_law_187 ?_
  clear hi hv
  refine h_aload_n (pc := 188) C dL_law_188 rfl 1 rfl ?_
  refine h_iload (pc := 189) C dL_law_189 6 rfl ?_
  refine h_iconst (pc := 191) C dL_law_191 jc_3 ?_
  refine h_iadd (pc := 192) C dL_law_192 ?_
  obtain ⟨hi, v10, hv, hf⟩ := jrd_s hf
  refine h_sld (pc := 193) C X9 hi hv dL_law_193 ?_
  clear hi hv
  refine h_aload_n (pc := 194) C dL_law_194 rfl 1 rfl ?_
  refine h_iload (pc := 195) C dL_law_195 6 rfl ?_
  refine h_iconst (pc := 197) C dL_law_197 jc_4 ?_
  refine h_iadd (pc := 198) C dL_law_198 ?_
  obtain ⟨hi, v11, hv, hf⟩ := jrd_s hf
  refine h_sld (pc := 199) C X9 hi hv dL_law_199 ?_
  clear hi hv
  obtain ⟨v12, hc, hf⟩ := jbd_s hf
  refine h_callV (pc := 200) (q0 := 10) (As := [.int v8, .int v9, .int v10, .int v11]) (rest := []) (ws' := (wL cT ad v7.2.1 v7.2.2.1 v7.2.2.2.1 v7.2.2.2.2.1 v7.2.2.2.2.2.1 v7.2.2.2.2.2.2.1 v7.2.2.2.2.2.2.2.1 v7.2.2.2.2.2.2.2.2.1 v7.2.2.2.2.2.2.2.2.2.1 ranks v12.2.1 v12.2.2.1 v12.2.2.2.1 v12.2.2.2.2.1 v12.2.2.2.2.2.1 v12.2.2.2.2.2.2.1 v12.2.2.2.2.2.2.2.1 v12.2.2.2.2.2.2.2.2.1 v12.2.2.2.2.2.2.2.2.2.1 mleft mlow mright mhigh mfirst mend v12.2.2.2.2.2.2.2.2.2.2 v7.2.2.2.2.2.2.2.2.2.2 outD)) (st2 := .int v12.1 :: []) C (c_X5_add l D cT ad n madded msides mkey misThere mboxes morder mlevels mnodes mentries mleft mlow mright mhigh mfirst mend mthrown v8 v9 v10 v11 v12.1 v12.2.1 v12.2.2.1 v12.2.2.2.1 v12.2.2.2.2.1 v12.2.2.2.2.2.1 v12.2.2.2.2.2.2.1 v12.2.2.2.2.2.2.2.1 v12.2.2.2.2.2.2.2.2.1 v12.2.2.2.2.2.2.2.2.2.1 v12.2.2.2.2.2.2.2.2.2.2 hc) (cwV 4 C.1.2.2.2.2 gL_law_X5_add rfl rfl rfl pv_X5_add ⟨(Nat.le_of_ble_eq_true rfl), (Nat.le_of_ble_eq_true rfl)⟩) dL_law_200 rfl rfl rfl rfl rfl (Nat.le_of_ble_eq_true rfl) ⟨rfl, rfl⟩ hE [10, 11, 12, 13, 14, 15, 16] [0, 1, 2, 3, 4, 5, 6, 7, 8, 9, 17, 18] [0, 1, 2, 3, 4, 5, 6, 7, 8, 9, 12, 13, 14, 15, 16, 17, 18, 10, 11] rfl rfl rfl rfl (by decide) rfl rfl rfl ?_
  clear hc
  refine h_istore (pc := 203) (lv' := [(7, .int v12.1), (6, .int v7.1), (0, .ref (ad 19)), (1, .ref (ad 0)), (2, .ref (ad 10)), (3, .ref (ad 17)), (4, .ref (ad 18)), (5, .int x5)]) C dL_law_203 (by decide) rfl ?_
  refine h_aload_n (pc := 205) C dL_law_205 rfl 4 rfl ?_
  obtain ⟨v13, hc, hf⟩ := jbd_s hf
  refine h_callV (pc := 206) (q0 := 10) (As := []) (rest := []) (ws' := (wL cT ad v7.2.1 v7.2.2.1 v7.2.2.2.1 v7.2.2.2.2.1 v7.2.2.2.2.2.1 v7.2.2.2.2.2.2.1 v7.2.2.2.2.2.2.2.1 v7.2.2.2.2.2.2.2.2.1 v7.2.2.2.2.2.2.2.2.2.1 ranks v12.2.1 v12.2.2.1 v12.2.2.2.1 v12.2.2.2.2.1 v12.2.2.2.2.2.1 v12.2.2.2.2.2.2.1 v12.2.2.2.2.2.2.2.1 v12.2.2.2.2.2.2.2.2.1 v12.2.2.2.2.2.2.2.2.2.1 mleft mlow mright mhigh mfirst mend v12.2.2.2.2.2.2.2.2.2.2 v7.2.2.2.2.2.2.2.2.2.2 outD)) (st2 := .int v13 :: []) C (c_X5_thrown l D cT ad n v12.2.1 v12.2.2.1 v12.2.2.2.1 v12.2.2.2.2.1 v12.2.2.2.2.2.1 v12.2.2.2.2.2.2.1 v12.2.2.2.2.2.2.2.1 v12.2.2.2.2.2.2.2.2.1 v12.2.2.2.2.2.2.2.2.2.1 mleft mlow mright mhigh mfirst mend v12.2.2.2.2.2.2.2.2.2.2 v13 hc) (cwV 0 C.1.2.2.2.2 gL_law_X5_thrown rfl rfl rfl pv_X5_thrown ⟨(Nat.le_of_ble_eq_true rfl), (Nat.le_of_ble_eq_true rfl)⟩) dL_law_206 rfl rfl rfl rfl rfl (Nat.le_of_ble_eq_true rfl) ⟨rfl, rfl⟩ hE [10, 11, 12, 13, 14, 15, 16] [0, 1, 2, 3, 4, 5, 6, 7, 8, 9, 17, 18] [0, 1, 2, 3, 4, 5, 6, 7, 8, 9, 12, 13, 14, 15, 16, 17, 18, 10, 11] rfl rfl rfl rfl (by decide) rfl rfl rfl ?_
  clear hc
  refine h_iload (pc := 209) C dL_law_209 1 rfl ?_
  refine h_icmp_eq (pc := 211) (tgt := 216) C dL_law_211 (by decide) (fun q => ?_) (fun q => ?_)
  · replace hf := jif_t q hf
    refine h_iload (pc := 216) C dL_law_216 1 rfl ?_
    refine h_if_ne (pc := 218) (tgt := 233) C dL_law_218 (by decide) (fun q => ?_) (fun q => ?_)
    · replace hf := jif_f q hf
      refine h_goto (pc := 233) (tgt := 1422) C dL_law_233 (by decide) ?_
      refine h_sub [2, 3, 4, 5, 6, 7] rfl ?_
      exact k_L_law_1422 hX0 D cT ad C X9 Z hEnd n k28 K28 (CE + rmL_add.cells) (SL + rmL_add.slots) v7.2.1 v7.2.2.1 v7.2.2.2.1 v7.2.2.2.2.1 v7.2.2.2.2.2.1 v7.2.2.2.2.2.2.1 v7.2.2.2.2.2.2.2.1 v7.2.2.2.2.2.2.2.2.1 v7.2.2.2.2.2.2.2.2.2.1 ranks v12.2.1 v12.2.2.1 v12.2.2.2.1 v12.2.2.2.2.1 v12.2.2.2.2.2.1 v12.2.2.2.2.2.2.1 v12.2.2.2.2.2.2.2.1 v12.2.2.2.2.2.2.2.2.1 v12.2.2.2.2.2.2.2.2.2.1 mleft mlow mright mhigh mfirst mend v12.2.2.2.2.2.2.2.2.2.2 v7.2.2.2.2.2.2.2.2.2.2 outD x5 (lwB_more hb) hf
    · replace hf := jif_t q hf
      refine h_aload_n (pc := 221) C dL_law_221 rfl 5 rfl ?_
      refine h_iconst (pc := 222) C dL_law_222 jc_0 ?_
      obtain ⟨hi, v14, hv, hf⟩ := jrdA_s hf
      refine h_lald (pc := 223) C 17 2 rfl rfl hi hv dL_law_223 ?_
      clear hi hv
      refine h_iload (pc := 224) C dL_law_224 0 rfl ?_
      refine h_i2l (pc := 226) C dL_law_226 ?_
      refine h_lcmp (pc := 227) C dL_law_227 ?_
      refine h_if_eq (pc := 228) (tgt := 233) C dL_law_228 (by decide) (fun q => ?_) (fun q => ?_)
      · replace hf := jif_t q hf
        refine h_goto (pc := 233) (tgt := 1422) C dL_law_233 (by decide) ?_
        refine h_sub [2, 3, 4, 5, 6, 7] rfl ?_
        exact k_L_law_1422 hX0 D cT ad C X9 Z hEnd n k28 K28 (CE + rmL_add.cells) (SL + rmL_add.slots) v7.2.1 v7.2.2.1 v7.2.2.2.1 v7.2.2.2.2.1 v7.2.2.2.2.2.1 v7.2.2.2.2.2.2.1 v7.2.2.2.2.2.2.2.1 v7.2.2.2.2.2.2.2.2.1 v7.2.2.2.2.2.2.2.2.2.1 ranks v12.2.1 v12.2.2.1 v12.2.2.2.1 v12.2.2.2.2.1 v12.2.2.2.2.2.1 v12.2.2.2.2.2.2.1 v12.2.2.2.2.2.2.2.1 v12.2.2.2.2.2.2.2.2.1 v12.2.2.2.2.2.2.2.2.2.1 mleft mlow mright mhigh mfirst mend v12.2.2.2.2.2.2.2.2.2.2 v7.2.2.2.2.2.2.2.2.2.2 outD x5 (lwB_more hb) hf
      · replace hf := jif_f q hf
        refine h_iconst (pc := 231) C dL_law_231 jc_0 ?_
        exact absurd (Option.some.inj hf) (by decide)
  · replace hf := jif_f q hf
    refine h_iconst (pc := 214) C dL_law_214 jc_0 ?_
    exact absurd (Option.some.inj hf) (by decide)
set_option maxRecDepth 100000 in
set_option maxHeartbeats 4000000 in
theorem k_L_law_236 {p : Program} {e : Env} {s : State} {m : MethodId} {args : Array Value} {below : List Frame} {meth : Method} {c : Code} {A : Nat → Prop} {Q : State → Prop} {l : Launch} {L : Nat} {xs : Nat → Int32} (hX0 : l.stackTraces = false) (D : va_G) (cT : Nat → ClassId) (ad : Nat → Nat) (C : hC p s m args meth c code 8 wsL_law RL D (ty4 cT) A) (X9 : va_X (ad 19) L xs s s.heap ∧ ad 19 < s.heap.size ∧ ¬ A (ad 19)) (Z : xZ A s s.heap) (hEnd : ∀ (CE SL : Nat), CE ≤ 1055 → SL ≤ 10903 → ∀ (lv : List (Nat × Value)) (ws : va_W), hS p l e room_1 s m args below meth c 8 D A CE SL Q 1429 lv [.int 1] ws) (n : Nat) (k28 : (Nat → Int32) → (Nat → Int32) → (Nat → Int32) → (Nat → Int32) → Int32 → Int32 → (Nat → Int32) → (Nat → Int32) → Int32 → (Nat → Int32) → Int32 → (Nat → Int32) → (Nat → Int32) → (Nat → Int32) → Int32 → (Nat → Int32) → Int32 → (Nat → Int32) → (Nat → Int32) → Int32 → Int32 → Int32 → Int32 → Int32 → Int32 → Int32 → (Nat → Int64) → (Nat → UInt64) → Int32 → Option Int32) (K28 : ∀ (CE SL : Nat) (areas : Nat → Int32) (keys : Nat → Int32) (there : Nat → Int32) (order : Nat → Int32) (added : Int32) (size : Int32) (loads : Nat → Int32) (widths : Nat → Int32) (height : Int32) (ranks : Nat → Int32) (madded : Int32) (msides : Nat → Int32) (mkey : Nat → Int32) (misThere : Nat → Int32) (mboxes : Int32) (morder : Nat → Int32) (mlevels : Int32) (mnodes : Nat → Int32) (mentries : Nat → Int32) (mleft : Int32) (mlow : Int32) (mright : Int32) (mhigh : Int32) (mfirst : Int32) (mend : Int32) (mthrown : Int32) (out : Nat → Int64) (outD : Nat → UInt64) (x5 : Int32), lwB L x5 CE SL → k28 areas keys there order added size loads widths height ranks madded msides mkey misThere mboxes morder mlevels mnodes mentries mleft mlow mright mhigh mfirst mend mthrown out outD x5 = some 1 → hS p l e room_1 s m args below meth c 8 D A CE SL Q 28 [(0, .ref (ad 19)), (1, .ref (ad 0)), (2, .ref (ad 10)), (3, .ref (ad 17)), (4, .ref (ad 18)), (5, .int x5)] [] (wL cT ad areas keys there order added size loads widths height ranks madded msides mkey misThere mboxes morder mlevels mnodes mentries mleft mlow mright mhigh mfirst mend mthrown out outD)) : ∀ (CE SL : Nat) (areas : Nat → Int32) (keys : Nat → Int32) (there : Nat → Int32) (order : Nat → Int32) (added : Int32) (size : Int32) (loads : Nat → Int32) (widths : Nat → Int32) (height : Int32) (ranks : Nat → Int32) (madded : Int32) (msides : Nat → Int32) (mkey : Nat → Int32) (misThere : Nat → Int32) (mboxes : Int32) (morder : Nat → Int32) (mlevels : Int32) (mnodes : Nat → Int32) (mentries : Nat → Int32) (mleft : Int32) (mlow : Int32) (mright : Int32) (mhigh : Int32) (mfirst : Int32) (mend : Int32) (mthrown : Int32) (out : Nat → Int64) (outD : Nat → UInt64) (x5 : Int32), lwB1 L x5 CE SL → f_L_law_236 n L xs k28 areas keys there order added size loads widths height ranks madded msides mkey misThere mboxes morder mlevels mnodes mentries mleft mlow mright mhigh mfirst mend mthrown out outD x5 = some 1 → hS p l e room_1 s m args below meth c 8 D A CE SL Q 236 [(0, .ref (ad 19)), (1, .ref (ad 0)), (2, .ref (ad 10)), (3, .ref (ad 17)), (4, .ref (ad 18)), (5, .int x5)] [] (wL cT ad areas keys there order added size loads widths height ranks madded msides mkey misThere mboxes morder mlevels mnodes mentries mleft mlow mright mhigh mfirst mend mthrown out outD) := by
  intro CE SL areas keys there order added size loads widths height ranks madded msides mkey misThere mboxes morder mlevels mnodes mentries mleft mlow mright mhigh mfirst mend mthrown out outD x5 hb hf
  have hE := lwB1_r hb
  unfold f_L_law_236 at hf
  refine h_aload_n (pc := 236) C dL_law_236 rfl 1 rfl ?_
  refine h_aload_n (pc := 237) C dL_law_237 rfl 0 rfl ?_
  refine h_iload (pc := 238) C dL_law_238 5 rfl ?_
  refine h_iconst (pc := 240) C dL_law_240 jc_1 ?_
  refine h_iadd (pc := 241) C dL_law_241 ?_
  obtain ⟨hi, v15, hv, hf⟩ := jrd_s hf
  refine h_sld (pc := 242) C X9 hi hv dL_law_242 ?_
  clear hi hv
  refine h_aload_n (pc := 243) C dL_law_243 rfl 3 rfl ?_
  obtain ⟨v16, hc, hf⟩ := jbd_s hf
  refine h_callSW (pc := 244) (As := [.ref (ad 0), .int v15, .ref (ad 17)]) (rest := []) (ws' := (wL cT ad areas keys v16.2.1 v16.2.2.1 added v16.2.2.2.1 v16.2.2.2.2.1 v16.2.2.2.2.2.1 v16.2.2.2.2.2.2.1 ranks madded msides mkey misThere mboxes morder mlevels mnodes mentries mleft mlow mright mhigh mfirst mend mthrown v16.2.2.2.2.2.2.2 outD)) (st2 := .int v16.1 :: []) C Z (c_L_remove hX0 D cT ad n areas keys there order added size loads widths height ranks v15 out v16.1 v16.2.1 v16.2.2.1 v16.2.2.2.1 v16.2.2.2.2.1 v16.2.2.2.2.2.1 v16.2.2.2.2.2.2.1 v16.2.2.2.2.2.2.2 hc) (vx_cwSW 3 C.1.2.2.2.2 gL_law_L_remove rfl rfl rfl ps_L_remove ⟨(Nat.le_of_ble_eq_true rfl), (Nat.le_of_ble_eq_true rfl)⟩) dL_law_244 rfl rfl (Nat.le_of_ble_eq_true rfl) hE [0, 1, 2, 3, 4, 5, 6, 7, 8, 9, 17] [10, 11, 12, 13, 14, 15, 16, 18] [8, 9, 10, 11, 12, 13, 14, 15, 16, 17, 0, 1, 2, 3, 4, 5, 6, 18, 7] rfl rfl rfl rfl (by decide) rfl rfl rfl ?_
  clear hc
  refine h_istore (pc := 247) (lv' := [(6, .int v16.1), (0, .ref (ad 19)), (1, .ref (ad 0)), (2, .ref (ad 10)), (3, .ref (ad 17)), (4, .ref (ad 18)), (5, .int x5)]) C dL_law_247 (by decide) rfl ?_
  refine h_aload_n (pc := 249) C dL_law_249 rfl 3 rfl ?_
  refine h_aload_n (pc := 250) C dL_law_250 rfl 1 rfl ?_
  refine h_iload (pc := 251) C dL_law_251 6 rfl ?_
  refine h_iconst (pc := 253) C dL_law_253 jc_1 ?_
  refine h_iadd (pc := 254) C dL_law_254 ?_
  obtain ⟨hi, v17, hv, hf⟩ := jrd_s hf
  refine h_sld (pc := 255) C X9 hi hv dL_law_255 ?_
  clear hi hv
  obtain ⟨v18, hc, hf⟩ := jbd_s hf
  refine h_callV (pc := 256) (q0 := 10) (As := [.int v17]) (rest := []) (ws' := (wL cT ad areas keys v16.2.1 v16.2.2.1 added v16.2.2.2.1 v16.2.2.2.2.1 v16.2.2.2.2.2.1 v16.2.2.2.2.2.2.1 ranks madded msides mkey v18.2.1 v18.2.2.1 v18.2.2.2.1 v18.2.2.2.2.1 v18.2.2.2.2.2.1 v18.2.2.2.2.2.2.1 mleft mlow mright mhigh mfirst mend v18.2.2.2.2.2.2.2 v16.2.2.2.2.2.2.2 outD)) (st2 := .int v18.1 :: []) C (c_X5_remove l D cT ad n madded msides mkey misThere mboxes morder mlevels mnodes mentries mleft mlow mright mhigh mfirst mend mthrown v17 v18.1 v18.2.1 v18.2.2.1 v18.2.2.2.1 v18.2.2.2.2.1 v18.2.2.2.2.2.1 v18.2.2.2.2.2.2.1 v18.2.2.2.2.2.2.2 hc) (cwV 1 C.1.2.2.2.2 gL_law_X5_remove rfl rfl rfl pv_X5_remove ⟨(Nat.le_of_ble_eq_true rfl), (Nat.le_of_ble_eq_true rfl)⟩) dL_law_256 rfl rfl rfl rfl rfl (Nat.le_of_ble_eq_true rfl) ⟨rfl, rfl⟩ hE [10, 11, 12, 13, 14, 15, 16] [0, 1, 2, 3, 4, 5, 6, 7, 8, 9, 17, 18] [0, 1, 2, 3, 4, 5, 6, 7, 8, 9, 12, 13, 14, 15, 16, 17, 18, 10, 11] rfl rfl rfl rfl (by decide) rfl rfl rfl ?_
  clear hc
  refine h_istore (pc := 259) (lv' := [(7, .int v18.1), (6, .int v16.1), (0, .ref (ad 19)), (1, .ref (ad 0)), (2, .ref (ad 10)), (3, .ref (ad 17)), (4, .ref (ad 18)), (5, .int x5)]) C dL_law_259 (by decide) rfl ?_
  refine h_aload_n (pc := 261) C dL_law_261 rfl 4 rfl ?_
  obtain ⟨v19, hc, hf⟩ := jbd_s hf
  refine h_callV (pc := 262) (q0 := 10) (As := []) (rest := []) (ws' := (wL cT ad areas keys v16.2.1 v16.2.2.1 added v16.2.2.2.1 v16.2.2.2.2.1 v16.2.2.2.2.2.1 v16.2.2.2.2.2.2.1 ranks madded msides mkey v18.2.1 v18.2.2.1 v18.2.2.2.1 v18.2.2.2.2.1 v18.2.2.2.2.2.1 v18.2.2.2.2.2.2.1 mleft mlow mright mhigh mfirst mend v18.2.2.2.2.2.2.2 v16.2.2.2.2.2.2.2 outD)) (st2 := .int v19 :: []) C (c_X5_thrown l D cT ad n madded msides mkey v18.2.1 v18.2.2.1 v18.2.2.2.1 v18.2.2.2.2.1 v18.2.2.2.2.2.1 v18.2.2.2.2.2.2.1 mleft mlow mright mhigh mfirst mend v18.2.2.2.2.2.2.2 v19 hc) (cwV 0 C.1.2.2.2.2 gL_law_X5_thrown rfl rfl rfl pv_X5_thrown ⟨(Nat.le_of_ble_eq_true rfl), (Nat.le_of_ble_eq_true rfl)⟩) dL_law_262 rfl rfl rfl rfl rfl (Nat.le_of_ble_eq_true rfl) ⟨rfl, rfl⟩ hE [10, 11, 12, 13, 14, 15, 16] [0, 1, 2, 3, 4, 5, 6, 7, 8, 9, 17, 18] [0, 1, 2, 3, 4, 5, 6, 7, 8, 9, 12, 13, 14, 15, 16, 17, 18, 10, 11] rfl rfl rfl rfl (by decide) rfl rfl rfl ?_
  clear hc
  refine h_iload (pc := 265) C dL_law_265 1 rfl ?_
  refine h_icmp_eq (pc := 267) (tgt := 272) C dL_law_267 (by decide) (fun q => ?_) (fun q => ?_)
  · replace hf := jif_t q hf
    refine h_iload (pc := 272) C dL_law_272 1 rfl ?_
    refine h_if_ne (pc := 274) (tgt := 289) C dL_law_274 (by decide) (fun q => ?_) (fun q => ?_)
    · replace hf := jif_f q hf
      refine h_goto (pc := 289) (tgt := 1422) C dL_law_289 (by decide) ?_
      refine h_sub [2, 3, 4, 5, 6, 7] rfl ?_
      exact k_L_law_1422 hX0 D cT ad C X9 Z hEnd n k28 K28 (CE + rmL_remove.cells) (SL + rmL_remove.slots) areas keys v16.2.1 v16.2.2.1 added v16.2.2.2.1 v16.2.2.2.2.1 v16.2.2.2.2.2.1 v16.2.2.2.2.2.2.1 ranks madded msides mkey v18.2.1 v18.2.2.1 v18.2.2.2.1 v18.2.2.2.2.1 v18.2.2.2.2.2.1 v18.2.2.2.2.2.2.1 mleft mlow mright mhigh mfirst mend v18.2.2.2.2.2.2.2 v16.2.2.2.2.2.2.2 outD x5 (lwB_more hb) hf
    · replace hf := jif_t q hf
      refine h_aload_n (pc := 277) C dL_law_277 rfl 5 rfl ?_
      refine h_iconst (pc := 278) C dL_law_278 jc_0 ?_
      obtain ⟨hi, v20, hv, hf⟩ := jrdA_s hf
      refine h_lald (pc := 279) C 17 2 rfl rfl hi hv dL_law_279 ?_
      clear hi hv
      refine h_iload (pc := 280) C dL_law_280 0 rfl ?_
      refine h_i2l (pc := 282) C dL_law_282 ?_
      refine h_lcmp (pc := 283) C dL_law_283 ?_
      refine h_if_eq (pc := 284) (tgt := 289) C dL_law_284 (by decide) (fun q => ?_) (fun q => ?_)
      · replace hf := jif_t q hf
        refine h_goto (pc := 289) (tgt := 1422) C dL_law_289 (by decide) ?_
        refine h_sub [2, 3, 4, 5, 6, 7] rfl ?_
        exact k_L_law_1422 hX0 D cT ad C X9 Z hEnd n k28 K28 (CE + rmL_remove.cells) (SL + rmL_remove.slots) areas keys v16.2.1 v16.2.2.1 added v16.2.2.2.1 v16.2.2.2.2.1 v16.2.2.2.2.2.1 v16.2.2.2.2.2.2.1 ranks madded msides mkey v18.2.1 v18.2.2.1 v18.2.2.2.1 v18.2.2.2.2.1 v18.2.2.2.2.2.1 v18.2.2.2.2.2.2.1 mleft mlow mright mhigh mfirst mend v18.2.2.2.2.2.2.2 v16.2.2.2.2.2.2.2 outD x5 (lwB_more hb) hf
      · replace hf := jif_f q hf
        refine h_iconst (pc := 287) C dL_law_287 jc_0 ?_
        exact absurd (Option.some.inj hf) (by decide)
  · replace hf := jif_f q hf
    refine h_iconst (pc := 270) C dL_law_270 jc_0 ?_
    exact absurd (Option.some.inj hf) (by decide)
set_option maxRecDepth 100000 in
set_option maxHeartbeats 4000000 in
theorem k_L_law_292 {p : Program} {e : Env} {s : State} {m : MethodId} {args : Array Value} {below : List Frame} {meth : Method} {c : Code} {A : Nat → Prop} {Q : State → Prop} {l : Launch} {L : Nat} {xs : Nat → Int32} (hX0 : l.stackTraces = false) (D : va_G) (cT : Nat → ClassId) (ad : Nat → Nat) (C : hC p s m args meth c code 8 wsL_law RL D (ty4 cT) A) (X9 : va_X (ad 19) L xs s s.heap ∧ ad 19 < s.heap.size ∧ ¬ A (ad 19)) (Z : xZ A s s.heap) (hEnd : ∀ (CE SL : Nat), CE ≤ 1055 → SL ≤ 10903 → ∀ (lv : List (Nat × Value)) (ws : va_W), hS p l e room_1 s m args below meth c 8 D A CE SL Q 1429 lv [.int 1] ws) (n : Nat) (k28 : (Nat → Int32) → (Nat → Int32) → (Nat → Int32) → (Nat → Int32) → Int32 → Int32 → (Nat → Int32) → (Nat → Int32) → Int32 → (Nat → Int32) → Int32 → (Nat → Int32) → (Nat → Int32) → (Nat → Int32) → Int32 → (Nat → Int32) → Int32 → (Nat → Int32) → (Nat → Int32) → Int32 → Int32 → Int32 → Int32 → Int32 → Int32 → Int32 → (Nat → Int64) → (Nat → UInt64) → Int32 → Option Int32) (K28 : ∀ (CE SL : Nat) (areas : Nat → Int32) (keys : Nat → Int32) (there : Nat → Int32) (order : Nat → Int32) (added : Int32) (size : Int32) (loads : Nat → Int32) (widths : Nat → Int32) (height : Int32) (ranks : Nat → Int32) (madded : Int32) (msides : Nat → Int32) (mkey : Nat → Int32) (misThere : Nat → Int32) (mboxes : Int32) (morder : Nat → Int32) (mlevels : Int32) (mnodes : Nat → Int32) (mentries : Nat → Int32) (mleft : Int32) (mlow : Int32) (mright : Int32) (mhigh : Int32) (mfirst : Int32) (mend : Int32) (mthrown : Int32) (out : Nat → Int64) (outD : Nat → UInt64) (x5 : Int32), lwB L x5 CE SL → k28 areas keys there order added size loads widths height ranks madded msides mkey misThere mboxes morder mlevels mnodes mentries mleft mlow mright mhigh mfirst mend mthrown out outD x5 = some 1 → hS p l e room_1 s m args below meth c 8 D A CE SL Q 28 [(0, .ref (ad 19)), (1, .ref (ad 0)), (2, .ref (ad 10)), (3, .ref (ad 17)), (4, .ref (ad 18)), (5, .int x5)] [] (wL cT ad areas keys there order added size loads widths height ranks madded msides mkey misThere mboxes morder mlevels mnodes mentries mleft mlow mright mhigh mfirst mend mthrown out outD)) : ∀ (CE SL : Nat) (areas : Nat → Int32) (keys : Nat → Int32) (there : Nat → Int32) (order : Nat → Int32) (added : Int32) (size : Int32) (loads : Nat → Int32) (widths : Nat → Int32) (height : Int32) (ranks : Nat → Int32) (madded : Int32) (msides : Nat → Int32) (mkey : Nat → Int32) (misThere : Nat → Int32) (mboxes : Int32) (morder : Nat → Int32) (mlevels : Int32) (mnodes : Nat → Int32) (mentries : Nat → Int32) (mleft : Int32) (mlow : Int32) (mright : Int32) (mhigh : Int32) (mfirst : Int32) (mend : Int32) (mthrown : Int32) (out : Nat → Int64) (outD : Nat → UInt64) (x5 : Int32), lwB1 L x5 CE SL → f_L_law_292 n L xs k28 areas keys there order added size loads widths height ranks madded msides mkey misThere mboxes morder mlevels mnodes mentries mleft mlow mright mhigh mfirst mend mthrown out outD x5 = some 1 → hS p l e room_1 s m args below meth c 8 D A CE SL Q 292 [(0, .ref (ad 19)), (1, .ref (ad 0)), (2, .ref (ad 10)), (3, .ref (ad 17)), (4, .ref (ad 18)), (5, .int x5)] [] (wL cT ad areas keys there order added size loads widths height ranks madded msides mkey misThere mboxes morder mlevels mnodes mentries mleft mlow mright mhigh mfirst mend mthrown out outD) := by
  intro CE SL areas keys there order added size loads widths height ranks madded msides mkey misThere mboxes morder mlevels mnodes mentries mleft mlow mright mhigh mfirst mend mthrown out outD x5 hb hf
  have hE := lwB1_r hb
  unfold f_L_law_292 at hf
  refine h_aload_n (pc := 292) C dL_law_292 rfl 1 rfl ?_
  obtain ⟨v21, hc, hf⟩ := jbd_s hf
  refine h_callV (pc := 293) (q0 := 0) (As := []) (rest := []) (ws' := (wL cT ad areas keys there order added size v21.2.1 v21.2.2.1 v21.2.2.2 ranks madded msides mkey misThere mboxes morder mlevels mnodes mentries mleft mlow mright mhigh mfirst mend mthrown out outD)) (st2 := .int v21.1 :: []) C (c_X4_pack l D cT ad n areas keys there order added size loads widths height ranks v21.1 v21.2.1 v21.2.2.1 v21.2.2.2 hc) (cwV 0 C.1.2.2.2.2 gL_law_X4_pack rfl rfl rfl pv_X4_pack ⟨(Nat.le_of_ble_eq_true rfl), (Nat.le_of_ble_eq_true rfl)⟩) dL_law_293 rfl rfl rfl rfl rfl (Nat.le_of_ble_eq_true rfl) ⟨rfl, rfl⟩ ⟨Nat.le_trans (Nat.le_add_right _ _) hE.1, Nat.le_trans (Nat.le_add_right _ _) hE.2⟩ [0, 1, 2, 3, 4, 5, 6, 7, 8, 9] [10, 11, 12, 13, 14, 15, 16, 17, 18] [9, 10, 11, 12, 13, 14, 15, 16, 17, 18, 0, 1, 2, 3, 4, 5, 6, 7, 8] rfl rfl rfl rfl (by decide) rfl rfl rfl ?_
  clear hc
  refine h_aload_n (pc := 296) C dL_law_296 rfl 2 rfl ?_
  obtain ⟨v22, hc, hf⟩ := jbd_s hf
  refine h_callV (pc := 297) (q0 := 10) (As := []) (rest := .int v21.1 :: []) (ws' := (wL cT ad areas keys there order added size v21.2.1 v21.2.2.1 v21.2.2.2 ranks madded msides mkey misThere mboxes morder v22.2.1 v22.2.2.1 v22.2.2.2.1 mleft mlow mright mhigh mfirst mend v22.2.2.2.2 out outD)) (st2 := .int v22.1 :: .int v21.1 :: []) C (c_X5_pack l D cT ad n madded msides mkey misThere mboxes morder mlevels mnodes mentries mleft mlow mright mhigh mfirst mend mthrown v22.1 v22.2.1 v22.2.2.1 v22.2.2.2.1 v22.2.2.2.2 hc) (cwV 0 C.1.2.2.2.2 gL_law_X5_pack rfl rfl rfl pv_X5_pack ⟨(Nat.le_of_ble_eq_true rfl), (Nat.le_of_ble_eq_true rfl)⟩) dL_law_297 rfl rfl rfl rfl rfl (Nat.le_of_ble_eq_true rfl) ⟨rfl, rfl⟩ ⟨Nat.le_trans (Nat.le_add_right _ _) hE.1, Nat.le_trans (Nat.le_add_right _ _) hE.2⟩ [10, 11, 12, 13, 14, 15, 16] [0, 1, 2, 3, 4, 5, 6, 7, 8, 9, 17, 18] [0, 1, 2, 3, 4, 5, 6, 7, 8, 9, 12, 13, 14, 15, 16, 17, 18, 10, 11] rfl rfl rfl rfl (by decide) rfl rfl rfl ?_
  clear hc
  refine h_icmp_eq (pc := 300) (tgt := 1422) C dL_law_300 (by decide) (fun q => ?_) (fun q => ?_)
  · replace hf := jif_t q hf
    exact k_L_law_1422 hX0 D cT ad C X9 Z hEnd n k28 K28 CE SL areas keys there order added size v21.2.1 v21.2.2.1 v21.2.2.2 ranks madded msides mkey misThere mboxes morder v22.2.1 v22.2.2.1 v22.2.2.2.1 mleft mlow mright mhigh mfirst mend v22.2.2.2.2 out outD x5 (lwB_same hb) hf
  · replace hf := jif_f q hf
    refine h_iconst (pc := 303) C dL_law_303 jc_0 ?_
    exact absurd (Option.some.inj hf) (by decide)
set_option maxRecDepth 100000 in
set_option maxHeartbeats 4000000 in
theorem k_L_law_305 {p : Program} {e : Env} {s : State} {m : MethodId} {args : Array Value} {below : List Frame} {meth : Method} {c : Code} {A : Nat → Prop} {Q : State → Prop} {l : Launch} {L : Nat} {xs : Nat → Int32} (hX0 : l.stackTraces = false) (D : va_G) (cT : Nat → ClassId) (ad : Nat → Nat) (C : hC p s m args meth c code 8 wsL_law RL D (ty4 cT) A) (X9 : va_X (ad 19) L xs s s.heap ∧ ad 19 < s.heap.size ∧ ¬ A (ad 19)) (Z : xZ A s s.heap) (hEnd : ∀ (CE SL : Nat), CE ≤ 1055 → SL ≤ 10903 → ∀ (lv : List (Nat × Value)) (ws : va_W), hS p l e room_1 s m args below meth c 8 D A CE SL Q 1429 lv [.int 1] ws) (n : Nat) (k28 : (Nat → Int32) → (Nat → Int32) → (Nat → Int32) → (Nat → Int32) → Int32 → Int32 → (Nat → Int32) → (Nat → Int32) → Int32 → (Nat → Int32) → Int32 → (Nat → Int32) → (Nat → Int32) → (Nat → Int32) → Int32 → (Nat → Int32) → Int32 → (Nat → Int32) → (Nat → Int32) → Int32 → Int32 → Int32 → Int32 → Int32 → Int32 → Int32 → (Nat → Int64) → (Nat → UInt64) → Int32 → Option Int32) (K28 : ∀ (CE SL : Nat) (areas : Nat → Int32) (keys : Nat → Int32) (there : Nat → Int32) (order : Nat → Int32) (added : Int32) (size : Int32) (loads : Nat → Int32) (widths : Nat → Int32) (height : Int32) (ranks : Nat → Int32) (madded : Int32) (msides : Nat → Int32) (mkey : Nat → Int32) (misThere : Nat → Int32) (mboxes : Int32) (morder : Nat → Int32) (mlevels : Int32) (mnodes : Nat → Int32) (mentries : Nat → Int32) (mleft : Int32) (mlow : Int32) (mright : Int32) (mhigh : Int32) (mfirst : Int32) (mend : Int32) (mthrown : Int32) (out : Nat → Int64) (outD : Nat → UInt64) (x5 : Int32), lwB L x5 CE SL → k28 areas keys there order added size loads widths height ranks madded msides mkey misThere mboxes morder mlevels mnodes mentries mleft mlow mright mhigh mfirst mend mthrown out outD x5 = some 1 → hS p l e room_1 s m args below meth c 8 D A CE SL Q 28 [(0, .ref (ad 19)), (1, .ref (ad 0)), (2, .ref (ad 10)), (3, .ref (ad 17)), (4, .ref (ad 18)), (5, .int x5)] [] (wL cT ad areas keys there order added size loads widths height ranks madded msides mkey misThere mboxes morder mlevels mnodes mentries mleft mlow mright mhigh mfirst mend mthrown out outD)) : ∀ (CE SL : Nat) (areas : Nat → Int32) (keys : Nat → Int32) (there : Nat → Int32) (order : Nat → Int32) (added : Int32) (size : Int32) (loads : Nat → Int32) (widths : Nat → Int32) (height : Int32) (ranks : Nat → Int32) (madded : Int32) (msides : Nat → Int32) (mkey : Nat → Int32) (misThere : Nat → Int32) (mboxes : Int32) (morder : Nat → Int32) (mlevels : Int32) (mnodes : Nat → Int32) (mentries : Nat → Int32) (mleft : Int32) (mlow : Int32) (mright : Int32) (mhigh : Int32) (mfirst : Int32) (mend : Int32) (mthrown : Int32) (out : Nat → Int64) (outD : Nat → UInt64) (x5 : Int32), lwB1 L x5 CE SL → f_L_law_305 n L xs k28 areas keys there order added size loads widths height ranks madded msides mkey misThere mboxes morder mlevels mnodes mentries mleft mlow mright mhigh mfirst mend mthrown out outD x5 = some 1 → hS p l e room_1 s m args below meth c 8 D A CE SL Q 305 [(0, .ref (ad 19)), (1, .ref (ad 0)), (2, .ref (ad 10)), (3, .ref (ad 17)), (4, .ref (ad 18)), (5, .int x5)] [] (wL cT ad areas keys there order added size loads widths height ranks madded msides mkey misThere mboxes morder mlevels mnodes mentries mleft mlow mright mhigh mfirst mend mthrown out outD) := by
  intro CE SL areas keys there order added size loads widths height ranks madded msides mkey misThere mboxes morder mlevels mnodes mentries mleft mlow mright mhigh mfirst mend mthrown out outD x5 hb hf
  have hE := lwB1_r hb
  unfold f_L_law_305 at hf
  refine h_aload_n (pc := 305) C dL_law_305 rfl 1 rfl ?_
  obtain ⟨v23, hc, hf⟩ := jbd_s hf
  refine h_callV (pc := 306) (q0 := 0) (As := []) (rest := []) (ws' := (wL cT ad areas keys there order added size loads widths height ranks madded msides mkey misThere mboxes morder mlevels mnodes mentries mleft mlow mright mhigh mfirst mend mthrown out outD)) (st2 := .int v23 :: []) C (c_X4_boxes l D cT ad n areas keys there order added size loads widths height ranks v23 hc) (cwV 0 C.1.2.2.2.2 gL_law_X4_boxes rfl rfl rfl pv_X4_boxes ⟨(Nat.le_of_ble_eq_true rfl), (Nat.le_of_ble_eq_true rfl)⟩) dL_law_306 rfl rfl rfl rfl rfl (Nat.le_of_ble_eq_true rfl) ⟨rfl, rfl⟩ ⟨Nat.le_trans (Nat.le_add_right _ _) hE.1, Nat.le_trans (Nat.le_add_right _ _) hE.2⟩ [0, 1, 2, 3, 4, 5, 6, 7, 8, 9] [10, 11, 12, 13, 14, 15, 16, 17, 18] [9, 10, 11, 12, 13, 14, 15, 16, 17, 18, 0, 1, 2, 3, 4, 5, 6, 7, 8] rfl rfl rfl rfl (by decide) rfl rfl rfl ?_
  clear hc
  refine h_aload_n (pc := 309) C dL_law_309 rfl 2 rfl ?_
  obtain ⟨v24, hc, hf⟩ := jbd_s hf
  refine h_callV (pc := 310) (q0 := 10) (As := []) (rest := .int v23 :: []) (ws' := (wL cT ad areas keys there order added size loads widths height ranks madded msides mkey misThere mboxes morder mlevels mnodes mentries mleft mlow mright mhigh mfirst mend v24.2 out outD)) (st2 := .int v24.1 :: .int v23 :: []) C (c_X5_boxes l D cT ad n madded msides mkey misThere mboxes morder mlevels mnodes mentries mleft mlow mright mhigh mfirst mend mthrown v24.1 v24.2 hc) (cwV 0 C.1.2.2.2.2 gL_law_X5_boxes rfl rfl rfl pv_X5_boxes ⟨(Nat.le_of_ble_eq_true rfl), (Nat.le_of_ble_eq_true rfl)⟩) dL_law_310 rfl rfl rfl rfl rfl (Nat.le_of_ble_eq_true rfl) ⟨rfl, rfl⟩ ⟨Nat.le_trans (Nat.le_add_right _ _) hE.1, Nat.le_trans (Nat.le_add_right _ _) hE.2⟩ [10, 11, 12, 13, 14, 15, 16] [0, 1, 2, 3, 4, 5, 6, 7, 8, 9, 17, 18] [0, 1, 2, 3, 4, 5, 6, 7, 8, 9, 12, 13, 14, 15, 16, 17, 18, 10, 11] rfl rfl rfl rfl (by decide) rfl rfl rfl ?_
  clear hc
  refine h_icmp_eq (pc := 313) (tgt := 1422) C dL_law_313 (by decide) (fun q => ?_) (fun q => ?_)
  · replace hf := jif_t q hf
    exact k_L_law_1422 hX0 D cT ad C X9 Z hEnd n k28 K28 CE SL areas keys there order added size loads widths height ranks madded msides mkey misThere mboxes morder mlevels mnodes mentries mleft mlow mright mhigh mfirst mend v24.2 out outD x5 (lwB_same hb) hf
  · replace hf := jif_f q hf
    refine h_iconst (pc := 316) C dL_law_316 jc_0 ?_
    exact absurd (Option.some.inj hf) (by decide)
set_option maxRecDepth 100000 in
set_option maxHeartbeats 4000000 in
theorem k_L_law_318 {p : Program} {e : Env} {s : State} {m : MethodId} {args : Array Value} {below : List Frame} {meth : Method} {c : Code} {A : Nat → Prop} {Q : State → Prop} {l : Launch} {L : Nat} {xs : Nat → Int32} (hX0 : l.stackTraces = false) (D : va_G) (cT : Nat → ClassId) (ad : Nat → Nat) (C : hC p s m args meth c code 8 wsL_law RL D (ty4 cT) A) (X9 : va_X (ad 19) L xs s s.heap ∧ ad 19 < s.heap.size ∧ ¬ A (ad 19)) (Z : xZ A s s.heap) (hEnd : ∀ (CE SL : Nat), CE ≤ 1055 → SL ≤ 10903 → ∀ (lv : List (Nat × Value)) (ws : va_W), hS p l e room_1 s m args below meth c 8 D A CE SL Q 1429 lv [.int 1] ws) (n : Nat) (k28 : (Nat → Int32) → (Nat → Int32) → (Nat → Int32) → (Nat → Int32) → Int32 → Int32 → (Nat → Int32) → (Nat → Int32) → Int32 → (Nat → Int32) → Int32 → (Nat → Int32) → (Nat → Int32) → (Nat → Int32) → Int32 → (Nat → Int32) → Int32 → (Nat → Int32) → (Nat → Int32) → Int32 → Int32 → Int32 → Int32 → Int32 → Int32 → Int32 → (Nat → Int64) → (Nat → UInt64) → Int32 → Option Int32) (K28 : ∀ (CE SL : Nat) (areas : Nat → Int32) (keys : Nat → Int32) (there : Nat → Int32) (order : Nat → Int32) (added : Int32) (size : Int32) (loads : Nat → Int32) (widths : Nat → Int32) (height : Int32) (ranks : Nat → Int32) (madded : Int32) (msides : Nat → Int32) (mkey : Nat → Int32) (misThere : Nat → Int32) (mboxes : Int32) (morder : Nat → Int32) (mlevels : Int32) (mnodes : Nat → Int32) (mentries : Nat → Int32) (mleft : Int32) (mlow : Int32) (mright : Int32) (mhigh : Int32) (mfirst : Int32) (mend : Int32) (mthrown : Int32) (out : Nat → Int64) (outD : Nat → UInt64) (x5 : Int32), lwB L x5 CE SL → k28 areas keys there order added size loads widths height ranks madded msides mkey misThere mboxes morder mlevels mnodes mentries mleft mlow mright mhigh mfirst mend mthrown out outD x5 = some 1 → hS p l e room_1 s m args below meth c 8 D A CE SL Q 28 [(0, .ref (ad 19)), (1, .ref (ad 0)), (2, .ref (ad 10)), (3, .ref (ad 17)), (4, .ref (ad 18)), (5, .int x5)] [] (wL cT ad areas keys there order added size loads widths height ranks madded msides mkey misThere mboxes morder mlevels mnodes mentries mleft mlow mright mhigh mfirst mend mthrown out outD)) : ∀ (CE SL : Nat) (areas : Nat → Int32) (keys : Nat → Int32) (there : Nat → Int32) (order : Nat → Int32) (added : Int32) (size : Int32) (loads : Nat → Int32) (widths : Nat → Int32) (height : Int32) (ranks : Nat → Int32) (madded : Int32) (msides : Nat → Int32) (mkey : Nat → Int32) (misThere : Nat → Int32) (mboxes : Int32) (morder : Nat → Int32) (mlevels : Int32) (mnodes : Nat → Int32) (mentries : Nat → Int32) (mleft : Int32) (mlow : Int32) (mright : Int32) (mhigh : Int32) (mfirst : Int32) (mend : Int32) (mthrown : Int32) (out : Nat → Int64) (outD : Nat → UInt64) (x5 : Int32), lwB1 L x5 CE SL → f_L_law_318 n L xs k28 areas keys there order added size loads widths height ranks madded msides mkey misThere mboxes morder mlevels mnodes mentries mleft mlow mright mhigh mfirst mend mthrown out outD x5 = some 1 → hS p l e room_1 s m args below meth c 8 D A CE SL Q 318 [(0, .ref (ad 19)), (1, .ref (ad 0)), (2, .ref (ad 10)), (3, .ref (ad 17)), (4, .ref (ad 18)), (5, .int x5)] [] (wL cT ad areas keys there order added size loads widths height ranks madded msides mkey misThere mboxes morder mlevels mnodes mentries mleft mlow mright mhigh mfirst mend mthrown out outD) := by
  intro CE SL areas keys there order added size loads widths height ranks madded msides mkey misThere mboxes morder mlevels mnodes mentries mleft mlow mright mhigh mfirst mend mthrown out outD x5 hb hf
  have hE := lwB1_r hb
  unfold f_L_law_318 at hf
  refine h_aload_n (pc := 318) C dL_law_318 rfl 1 rfl ?_
  refine h_aload_n (pc := 319) C dL_law_319 rfl 0 rfl ?_
  refine h_iload (pc := 320) C dL_law_320 5 rfl ?_
  refine h_iconst (pc := 322) C dL_law_322 jc_1 ?_
  refine h_iadd (pc := 323) C dL_law_323 ?_
  obtain ⟨hi, v25, hv, hf⟩ := jrd_s hf
  refine h_sld (pc := 324) C X9 hi hv dL_law_324 ?_
  clear hi hv
  refine h_aload_n (pc := 325) C dL_law_325 rfl 0 rfl ?_
  refine h_iload (pc := 326) C dL_law_326 5 rfl ?_
  refine h_iconst (pc := 328) C dL_law_328 jc_2 ?_
  refine h_iadd (pc := 329) C dL_law_329 ?_
  obtain ⟨hi, v26, hv, hf⟩ := jrd_s hf
  refine h_sld (pc := 330) C X9 hi hv dL_law_330 ?_
  clear hi hv
  refine h_aload_n (pc := 331) C dL_law_331 rfl 3 rfl ?_
  obtain ⟨v27, hc, hf⟩ := jbd_s hf
  refine h_callSW (pc := 332) (As := [.ref (ad 0), .int v25, .int v26, .ref (ad 17)]) (rest := []) (ws' := (wL cT ad areas keys there order added size loads widths height ranks madded msides mkey misThere mboxes morder mlevels mnodes mentries mleft mlow mright mhigh mfirst mend mthrown v27.2 outD)) (st2 := .int v27.1 :: []) C Z (c_L_key hX0 D cT ad n areas keys there order added size loads widths height ranks v25 v26 out v27.1 v27.2 hc) (vx_cwSW 4 C.1.2.2.2.2 gL_law_L_key rfl rfl rfl ps_L_key ⟨(Nat.le_of_ble_eq_true rfl), (Nat.le_of_ble_eq_true rfl)⟩) dL_law_332 rfl rfl (Nat.le_of_ble_eq_true rfl) hE [0, 1, 2, 3, 4, 5, 6, 7, 8, 9, 17] [10, 11, 12, 13, 14, 15, 16, 18] [8, 9, 10, 11, 12, 13, 14, 15, 16, 17, 0, 1, 2, 3, 4, 5, 6, 18, 7] rfl rfl rfl rfl (by decide) rfl rfl rfl ?_
  clear hc
  refine h_istore (pc := 335) (lv' := [(6, .int v27.1), (0, .ref (ad 19)), (1, .ref (ad 0)), (2, .ref (ad 10)), (3, .ref (ad 17)), (4, .ref (ad 18)), (5, .int x5)]) C dL_law_335 (by decide) rfl ?_
  refine h_aload_n (pc := 337) C dL_law_337 rfl 3 rfl ?_
  refine h_aload_n (pc := 338) C dL_law_338 rfl 1 rfl ?_
  refine h_iload (pc := 339) C dL_law_339 6 rfl ?_
  refine h_iconst (pc := 341) C dL_law_341 jc_1 ?_
  refine h_iadd (pc := 342) C dL_law_342 ?_
  obtain ⟨hi, v28, hv, hf⟩ := jrd_s hf
  refine h_sld (pc := 343) C X9 hi hv dL_law_343 ?_
  clear hi hv
  refine h_aload_n (pc := 344) C dL_law_344 rfl 1 rfl ?_
  refine h_iload (pc := 345) C dL_law_345 6 rfl ?_
  refine h_iconst (pc := 347) C dL_law_347 jc_2 ?_
  refine h_iadd (pc := 348) C dL_law_348 ?_
  obtain ⟨hi, v29, hv, hf⟩ := jrd_s hf
  refine h_sld (pc := 349) C X9 hi hv dL_law_349 ?_
  clear hi hv
  obtain ⟨v30, hc, hf⟩ := jbd_s hf
  refine h_callV (pc := 350) (q0 := 10) (As := [.int v28, .int v29]) (rest := []) (ws' := (wL cT ad areas keys there order added size loads widths height ranks madded msides mkey misThere mboxes morder mlevels mnodes mentries mleft mlow mright mhigh mfirst mend v30.2 v27.2 outD)) (st2 := .int v30.1 :: []) C (c_X5_key l D cT ad n madded msides mkey misThere mboxes morder mlevels mnodes mentries mleft mlow mright mhigh mfirst mend mthrown v28 v29 v30.1 v30.2 hc) (cwV 2 C.1.2.2.2.2 gL_law_X5_key rfl rfl rfl pv_X5_key ⟨(Nat.le_of_ble_eq_true rfl), (Nat.le_of_ble_eq_true rfl)⟩) dL_law_350 rfl rfl rfl rfl rfl (Nat.le_of_ble_eq_true rfl) ⟨rfl, rfl⟩ hE [10, 11, 12, 13, 14, 15, 16] [0, 1, 2, 3, 4, 5, 6, 7, 8, 9, 17, 18] [0, 1, 2, 3, 4, 5, 6, 7, 8, 9, 12, 13, 14, 15, 16, 17, 18, 10, 11] rfl rfl rfl rfl (by decide) rfl rfl rfl ?_
  clear hc
  refine h_istore (pc := 353) (lv' := [(7, .int v30.1), (6, .int v27.1), (0, .ref (ad 19)), (1, .ref (ad 0)), (2, .ref (ad 10)), (3, .ref (ad 17)), (4, .ref (ad 18)), (5, .int x5)]) C dL_law_353 (by decide) rfl ?_
  refine h_aload_n (pc := 355) C dL_law_355 rfl 4 rfl ?_
  obtain ⟨v31, hc, hf⟩ := jbd_s hf
  refine h_callV (pc := 356) (q0 := 10) (As := []) (rest := []) (ws' := (wL cT ad areas keys there order added size loads widths height ranks madded msides mkey misThere mboxes morder mlevels mnodes mentries mleft mlow mright mhigh mfirst mend v30.2 v27.2 outD)) (st2 := .int v31 :: []) C (c_X5_thrown l D cT ad n madded msides mkey misThere mboxes morder mlevels mnodes mentries mleft mlow mright mhigh mfirst mend v30.2 v31 hc) (cwV 0 C.1.2.2.2.2 gL_law_X5_thrown rfl rfl rfl pv_X5_thrown ⟨(Nat.le_of_ble_eq_true rfl), (Nat.le_of_ble_eq_true rfl)⟩) dL_law_356 rfl rfl rfl rfl rfl (Nat.le_of_ble_eq_true rfl) ⟨rfl, rfl⟩ hE [10, 11, 12, 13, 14, 15, 16] [0, 1, 2, 3, 4, 5, 6, 7, 8, 9, 17, 18] [0, 1, 2, 3, 4, 5, 6, 7, 8, 9, 12, 13, 14, 15, 16, 17, 18, 10, 11] rfl rfl rfl rfl (by decide) rfl rfl rfl ?_
  clear hc
  refine h_iload (pc := 359) C dL_law_359 1 rfl ?_
  refine h_icmp_eq (pc := 361) (tgt := 366) C dL_law_361 (by decide) (fun q => ?_) (fun q => ?_)
  · replace hf := jif_t q hf
    refine h_iload (pc := 366) C dL_law_366 1 rfl ?_
    refine h_if_ne (pc := 368) (tgt := 383) C dL_law_368 (by decide) (fun q => ?_) (fun q => ?_)
    · replace hf := jif_f q hf
      refine h_goto (pc := 383) (tgt := 1422) C dL_law_383 (by decide) ?_
      refine h_sub [2, 3, 4, 5, 6, 7] rfl ?_
      exact k_L_law_1422 hX0 D cT ad C X9 Z hEnd n k28 K28 (CE + rmL_key.cells) (SL + rmL_key.slots) areas keys there order added size loads widths height ranks madded msides mkey misThere mboxes morder mlevels mnodes mentries mleft mlow mright mhigh mfirst mend v30.2 v27.2 outD x5 (lwB_more hb) hf
    · replace hf := jif_t q hf
      refine h_aload_n (pc := 371) C dL_law_371 rfl 5 rfl ?_
      refine h_iconst (pc := 372) C dL_law_372 jc_0 ?_
      obtain ⟨hi, v32, hv, hf⟩ := jrdA_s hf
      refine h_lald (pc := 373) C 17 2 rfl rfl hi hv dL_law_373 ?_
      clear hi hv
      refine h_iload (pc := 374) C dL_law_374 0 rfl ?_
      refine h_i2l (pc := 376) C dL_law_376 ?_
      refine h_lcmp (pc := 377) C dL_law_377 ?_
      refine h_if_eq (pc := 378) (tgt := 383) C dL_law_378 (by decide) (fun q => ?_) (fun q => ?_)
      · replace hf := jif_t q hf
        refine h_goto (pc := 383) (tgt := 1422) C dL_law_383 (by decide) ?_
        refine h_sub [2, 3, 4, 5, 6, 7] rfl ?_
        exact k_L_law_1422 hX0 D cT ad C X9 Z hEnd n k28 K28 (CE + rmL_key.cells) (SL + rmL_key.slots) areas keys there order added size loads widths height ranks madded msides mkey misThere mboxes morder mlevels mnodes mentries mleft mlow mright mhigh mfirst mend v30.2 v27.2 outD x5 (lwB_more hb) hf
      · replace hf := jif_f q hf
        refine h_iconst (pc := 381) C dL_law_381 jc_0 ?_
        exact absurd (Option.some.inj hf) (by decide)
  · replace hf := jif_f q hf
    refine h_iconst (pc := 364) C dL_law_364 jc_0 ?_
    exact absurd (Option.some.inj hf) (by decide)
