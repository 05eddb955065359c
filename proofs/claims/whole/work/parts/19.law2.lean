/-! laid by wip/whole/lay.py: the law, a road a block -/
set_option maxRecDepth 100000 in
set_option maxHeartbeats 4000000 in
theorem k_L_law_386 {p : Program} {e : Env} {s : State} {m : MethodId} {args : Array Value} {below : List Frame} {meth : Method} {c : Code} {A : Nat → Prop} {Q : State → Prop} {l : Launch} {L : Nat} {xs : Nat → Int32} (hX0 : l.stackTraces = false) (D : va_G) (cT : Nat → ClassId) (ad : Nat → Nat) (C : hC p s m args meth c code 8 wsL_law RL D (ty4 cT) A) (X9 : va_X (ad 19) L xs s s.heap ∧ ad 19 < s.heap.size ∧ ¬ A (ad 19)) (Z : xZ A s s.heap) (hEnd : ∀ (CE SL : Nat), CE ≤ 1055 → SL ≤ 10903 → ∀ (lv : List (Nat × Value)) (ws : va_W), hS p l e room_1 s m args below meth c 8 D A CE SL Q 1429 lv [.int 1] ws) (n : Nat) (k28 : (Nat → Int32) → (Nat → Int32) → (Nat → Int32) → (Nat → Int32) → Int32 → Int32 → (Nat → Int32) → (Nat → Int32) → Int32 → (Nat → Int32) → Int32 → (Nat → Int32) → (Nat → Int32) → (Nat → Int32) → Int32 → (Nat → Int32) → Int32 → (Nat → Int32) → (Nat → Int32) → Int32 → Int32 → Int32 → Int32 → Int32 → Int32 → Int32 → (Nat → Int64) → (Nat → UInt64) → Int32 → Option Int32) (K28 : ∀ (CE SL : Nat) (areas : Nat → Int32) (keys : Nat → Int32) (there : Nat → Int32) (order : Nat → Int32) (added : Int32) (size : Int32) (loads : Nat → Int32) (widths : Nat → Int32) (height : Int32) (ranks : Nat → Int32) (madded : Int32) (msides : Nat → Int32) (mkey : Nat → Int32) (misThere : Nat → Int32) (mboxes : Int32) (morder : Nat → Int32) (mlevels : Int32) (mnodes : Nat → Int32) (mentries : Nat → Int32) (mleft : Int32) (mlow : Int32) (mright : Int32) (mhigh : Int32) (mfirst : Int32) (mend : Int32) (mthrown : Int32) (out : Nat → Int64) (outD : Nat → UInt64) (x5 : Int32), lwB L x5 CE SL → k28 areas keys there order added size loads widths height ranks madded msides mkey misThere mboxes morder mlevels mnodes mentries mleft mlow mright mhigh mfirst mend mthrown out outD x5 = some 1 → hS p l e room_1 s m args below meth c 8 D A CE SL Q 28 [(0, .ref (ad 19)), (1, .ref (ad 0)), (2, .ref (ad 10)), (3, .ref (ad 17)), (4, .ref (ad 18)), (5, .int x5)] [] (wL cT ad areas keys there order added size loads widths height ranks madded msides mkey misThere mboxes morder mlevels mnodes mentries mleft mlow mright mhigh mfirst mend mthrown out outD)) : ∀ (CE SL : Nat) (areas : Nat → Int32) (keys : Nat → Int32) (there : Nat → Int32) (order : Nat → Int32) (added : Int32) (size : Int32) (loads : Nat → Int32) (widths : Nat → Int32) (height : Int32) (ranks : Nat → Int32) (madded : Int32) (msides : Nat → Int32) (mkey : Nat → Int32) (misThere : Nat → Int32) (mboxes : Int32) (morder : Nat → Int32) (mlevels : Int32) (mnodes : Nat → Int32) (mentries : Nat → Int32) (mleft : Int32) (mlow : Int32) (mright : Int32) (mhigh : Int32) (mfirst : Int32) (mend : Int32) (mthrown : Int32) (out : Nat → Int64) (outD : Nat → UInt64) (x5 : Int32), lwB1 L x5 CE SL → f_L_law_386 n L xs k28 areas keys there order added size loads widths height ranks madded msides mkey misThere mboxes morder mlevels mnodes mentries mleft mlow mright mhigh mfirst mend mthrown out outD x5 = some 1 → hS p l e room_1 s m args below meth c 8 D A CE SL Q 386 [(0, .ref (ad 19)), (1, .ref (ad 0)), (2, .ref (ad 10)), (3, .ref (ad 17)), (4, .ref (ad 18)), (5, .int x5)] [] (wL cT ad areas keys there order added size loads widths height ranks madded msides mkey misThere mboxes morder mlevels mnodes mentries mleft mlow mright mhigh mfirst mend mthrown out outD) := by
  intro CE SL areas keys there order added size loads widths height ranks madded msides mkey misThere mboxes morder mlevels mnodes mentries mleft mlow mright mhigh mfirst mend mthrown out outD x5 hb hf
  have hE := lwB1_r hb
  unfold f_L_law_386 at hf
  refine h_aload_n (pc := 386) C dL_law_386 rfl 1 rfl ?_
  refine h_aload_n (pc := 387) C dL_law_387 rfl 0 rfl ?_
  refine h_iload (pc := 388) C dL_law_388 5 rfl ?_
  refine h_iconst (pc := 390) C dL_law_390 jc_1 ?_
  refine h_iadd (pc := 391) C dL_law_391 ?_
  obtain ⟨hi, v33, hv, hf⟩ := jrd_s hf
  refine h_sld (pc := 392) C X9 hi hv dL_law_392 ?_
  clear hi hv
  refine h_aload_n (pc := 393) C dL_law_393 rfl 3 rfl ?_
  obtain ⟨v34, hc, hf⟩ := jbd_s hf
  refine h_callSW (pc := 394) (As := [.ref (ad 0), .int v33, .ref (ad 17)]) (rest := []) (ws' := (wL cT ad areas keys there order added size loads widths height ranks madded msides mkey misThere mboxes morder mlevels mnodes mentries mleft mlow mright mhigh mfirst mend mthrown v34.2 outD)) (st2 := .int v34.1 :: []) C Z (c_L_keyOf hX0 D cT ad n areas keys there order added size loads widths height ranks v33 out v34.1 v34.2 hc) (vx_cwSW 3 C.1.2.2.2.2 gL_law_L_keyOf rfl rfl rfl ps_L_keyOf ⟨(Nat.le_of_ble_eq_true rfl), (Nat.le_of_ble_eq_true rfl)⟩) dL_law_394 rfl rfl (Nat.le_of_ble_eq_true rfl) hE [0, 1, 2, 3, 4, 5, 6, 7, 8, 9, 17] [10, 11, 12, 13, 14, 15, 16, 18] [8, 9, 10, 11, 12, 13, 14, 15, 16, 17, 0, 1, 2, 3, 4, 5, 6, 18, 7] rfl rfl rfl rfl (by decide) rfl rfl rfl ?_
  clear hc
  refine h_istore (pc := 397) (lv' := [(6, .int v34.1), (0, .ref (ad 19)), (1, .ref (ad 0)), (2, .ref (ad 10)), (3, .ref (ad 17)), (4, .ref (ad 18)), (5, .int x5)]) C dL_law_397 (by decide) rfl ?_
  refine h_aload_n (pc := 399) C dL_law_399 rfl 3 rfl ?_
  refine h_aload_n (pc := 400) C dL_law_400 rfl 1 rfl ?_
  refine h_iload (pc := 401) C dL_law_401 6 rfl ?_
  refine h_iconst (pc := 403) C dL_law_403 jc_1 ?_
  refine h_iadd (pc := 404) C dL_law_404 ?_
  obtain ⟨hi, v35, hv, hf⟩ := jrd_s hf
  refine h_sld (pc := 405) C X9 hi hv dL_law_405 ?_
  clear hi hv
  obtain ⟨v36, hc, hf⟩ := jbd_s hf
  refine h_callV (pc := 406) (q0 := 10) (As := [.int v35]) (rest := []) (ws' := (wL cT ad areas keys there order added size loads widths height ranks madded msides mkey misThere mboxes morder mlevels mnodes mentries mleft mlow mright mhigh mfirst mend v36.2 v34.2 outD)) (st2 := .int v36.1 :: []) C (c_X5_keyOf l D cT ad n madded msides mkey misThere mboxes morder mlevels mnodes mentries mleft mlow mright mhigh mfirst mend mthrown v35 v36.1 v36.2 hc) (cwV 1 C.1.2.2.2.2 gL_law_X5_keyOf rfl rfl rfl pv_X5_keyOf ⟨(Nat.le_of_ble_eq_true rfl), (Nat.le_of_ble_eq_true rfl)⟩) dL_law_406 rfl rfl rfl rfl rfl (Nat.le_of_ble_eq_true rfl) ⟨rfl, rfl⟩ hE [10, 11, 12, 13, 14, 15, 16] [0, 1, 2, 3, 4, 5, 6, 7, 8, 9, 17, 18] [0, 1, 2, 3, 4, 5, 6, 7, 8, 9, 12, 13, 14, 15, 16, 17, 18, 10, 11] rfl rfl rfl rfl (by decide) rfl rfl rfl ?_
  clear hc
  refine h_istore (pc := 409) (lv' := [(7, .int v36.1), (6, .int v34.1), (0, .ref (ad 19)), (1, .ref (ad 0)), (2, .ref (ad 10)), (3, .ref (ad 17)), (4, .ref (ad 18)), (5, .int x5)]) C dL_law_409 (by decide) rfl ?_
  refine h_aload_n (pc := 411) C dL_law_411 rfl 4 rfl ?_
  obtain ⟨v37, hc, hf⟩ := jbd_s hf
  refine h_callV (pc := 412) (q0 := 10) (As := []) (rest := []) (ws' := (wL cT ad areas keys there order added size loads widths height ranks madded msides mkey misThere mboxes morder mlevels mnodes mentries mleft mlow mright mhigh mfirst mend v36.2 v34.2 outD)) (st2 := .int v37 :: []) C (c_X5_thrown l D cT ad n madded msides mkey misThere mboxes morder mlevels mnodes mentries mleft mlow mright mhigh mfirst mend v36.2 v37 hc) (cwV 0 C.1.2.2.2.2 gL_law_X5_thrown rfl rfl rfl pv_X5_thrown ⟨(Nat.le_of_ble_eq_true rfl), (Nat.le_of_ble_eq_true rfl)⟩) dL_law_412 rfl rfl rfl rfl rfl (Nat.le_of_ble_eq_true rfl) ⟨rfl, rfl⟩ hE [10, 11, 12, 13, 14, 15, 16] [0, 1, 2, 3, 4, 5, 6, 7, 8, 9, 17, 18] [0, 1, 2, 3, 4, 5, 6, 7, 8, 9, 12, 13, 14, 15, 16, 17, 18, 10, 11] rfl rfl rfl rfl (by decide) rfl rfl rfl ?_
  clear hc
  refine h_iload (pc := 415) C dL_law_415 1 rfl ?_
  refine h_icmp_eq (pc := 417) (tgt := 422) C dL_law_417 (by decide) (fun q => ?_) (fun q => ?_)
  · replace hf := jif_t q hf
    refine h_iload (pc := 422) C dL_law_422 1 rfl ?_
    refine h_if_ne (pc := 424) (tgt := 439) C dL_law_424 (by decide) (fun q => ?_) (fun q => ?_)
    · replace hf := jif_f q hf
      refine h_goto (pc := 439) (tgt := 1422) C dL_law_439 (by decide) ?_
      refine h_sub [2, 3, 4, 5, 6, 7] rfl ?_
      exact k_L_law_1422 hX0 D cT ad C X9 Z hEnd n k28 K28 (CE + rmL_keyOf.cells) (SL + rmL_keyOf.slots) areas keys there order added size loads widths height ranks madded msides mkey misThere mboxes morder mlevels mnodes mentries mleft mlow mright mhigh mfirst mend v36.2 v34.2 outD x5 (lwB_more hb) hf
    · replace hf := jif_t q hf
      refine h_aload_n (pc := 427) C dL_law_427 rfl 5 rfl ?_
      refine h_iconst (pc := 428) C dL_law_428 jc_0 ?_
      obtain ⟨hi, v38, hv, hf⟩ := jrdA_s hf
      refine h_lald (pc := 429) C 17 2 rfl rfl hi hv dL_law_429 ?_
      clear hi hv
      refine h_iload (pc := 430) C dL_law_430 0 rfl ?_
      refine h_i2l (pc := 432) C dL_law_432 ?_
      refine h_lcmp (pc := 433) C dL_law_433 ?_
      refine h_if_eq (pc := 434) (tgt := 439) C dL_law_434 (by decide) (fun q => ?_) (fun q => ?_)
      · replace hf := jif_t q hf
        refine h_goto (pc := 439) (tgt := 1422) C dL_law_439 (by decide) ?_
        refine h_sub [2, 3, 4, 5, 6, 7] rfl ?_
        exact k_L_law_1422 hX0 D cT ad C X9 Z hEnd n k28 K28 (CE + rmL_keyOf.cells) (SL + rmL_keyOf.slots) areas keys there order added size loads widths height ranks madded msides mkey misThere mboxes morder mlevels mnodes mentries mleft mlow mright mhigh mfirst mend v36.2 v34.2 outD x5 (lwB_more hb) hf
      · replace hf := jif_f q hf
        refine h_iconst (pc := 437) C dL_law_437 jc_0 ?_
        exact absurd (Option.some.inj hf) (by decide)
  · replace hf := jif_f q hf
    refine h_iconst (pc := 420) C dL_law_420 jc_0 ?_
    exact absurd (Option.some.inj hf) (by decide)
set_option maxRecDepth 100000 in
set_option maxHeartbeats 4000000 in
theorem k_L_law_442 {p : Program} {e : Env} {s : State} {m : MethodId} {args : Array Value} {below : List Frame} {meth : Method} {c : Code} {A : Nat → Prop} {Q : State → Prop} {l : Launch} {L : Nat} {xs : Nat → Int32} (hX0 : l.stackTraces = false) (D : va_G) (cT : Nat → ClassId) (ad : Nat → Nat) (C : hC p s m args meth c code 8 wsL_law RL D (ty4 cT) A) (X9 : va_X (ad 19) L xs s s.heap ∧ ad 19 < s.heap.size ∧ ¬ A (ad 19)) (Z : xZ A s s.heap) (hEnd : ∀ (CE SL : Nat), CE ≤ 1055 → SL ≤ 10903 → ∀ (lv : List (Nat × Value)) (ws : va_W), hS p l e room_1 s m args below meth c 8 D A CE SL Q 1429 lv [.int 1] ws) (n : Nat) (k28 : (Nat → Int32) → (Nat → Int32) → (Nat → Int32) → (Nat → Int32) → Int32 → Int32 → (Nat → Int32) → (Nat → Int32) → Int32 → (Nat → Int32) → Int32 → (Nat → Int32) → (Nat → Int32) → (Nat → Int32) → Int32 → (Nat → Int32) → Int32 → (Nat → Int32) → (Nat → Int32) → Int32 → Int32 → Int32 → Int32 → Int32 → Int32 → Int32 → (Nat → Int64) → (Nat → UInt64) → Int32 → Option Int32) (K28 : ∀ (CE SL : Nat) (areas : Nat → Int32) (keys : Nat → Int32) (there : Nat → Int32) (order : Nat → Int32) (added : Int32) (size : Int32) (loads : Nat → Int32) (widths : Nat → Int32) (height : Int32) (ranks : Nat → Int32) (madded : Int32) (msides : Nat → Int32) (mkey : Nat → Int32) (misThere : Nat → Int32) (mboxes : Int32) (morder : Nat → Int32) (mlevels : Int32) (mnodes : Nat → Int32) (mentries : Nat → Int32) (mleft : Int32) (mlow : Int32) (mright : Int32) (mhigh : Int32) (mfirst : Int32) (mend : Int32) (mthrown : Int32) (out : Nat → Int64) (outD : Nat → UInt64) (x5 : Int32), lwB L x5 CE SL → k28 areas keys there order added size loads widths height ranks madded msides mkey misThere mboxes morder mlevels mnodes mentries mleft mlow mright mhigh mfirst mend mthrown out outD x5 = some 1 → hS p l e room_1 s m args below meth c 8 D A CE SL Q 28 [(0, .ref (ad 19)), (1, .ref (ad 0)), (2, .ref (ad 10)), (3, .ref (ad 17)), (4, .ref (ad 18)), (5, .int x5)] [] (wL cT ad areas keys there order added size loads widths height ranks madded msides mkey misThere mboxes morder mlevels mnodes mentries mleft mlow mright mhigh mfirst mend mthrown out outD)) : ∀ (CE SL : Nat) (areas : Nat → Int32) (keys : Nat → Int32) (there : Nat → Int32) (order : Nat → Int32) (added : Int32) (size : Int32) (loads : Nat → Int32) (widths : Nat → Int32) (height : Int32) (ranks : Nat → Int32) (madded : Int32) (msides : Nat → Int32) (mkey : Nat → Int32) (misThere : Nat → Int32) (mboxes : Int32) (morder : Nat → Int32) (mlevels : Int32) (mnodes : Nat → Int32) (mentries : Nat → Int32) (mleft : Int32) (mlow : Int32) (mright : Int32) (mhigh : Int32) (mfirst : Int32) (mend : Int32) (mthrown : Int32) (out : Nat → Int64) (outD : Nat → UInt64) (x5 : Int32), lwB1 L x5 CE SL → f_L_law_442 n L xs k28 areas keys there order added size loads widths height ranks madded msides mkey misThere mboxes morder mlevels mnodes mentries mleft mlow mright mhigh mfirst mend mthrown out outD x5 = some 1 → hS p l e room_1 s m args below meth c 8 D A CE SL Q 442 [(0, .ref (ad 19)), (1, .ref (ad 0)), (2, .ref (ad 10)), (3, .ref (ad 17)), (4, .ref (ad 18)), (5, .int x5)] [] (wL cT ad areas keys there order added size loads widths height ranks madded msides mkey misThere mboxes morder mlevels mnodes mentries mleft mlow mright mhigh mfirst mend mthrown out outD) := by
  intro CE SL areas keys there order added size loads widths height ranks madded msides mkey misThere mboxes morder mlevels mnodes mentries mleft mlow mright mhigh mfirst mend mthrown out outD x5 hb hf
  have hE := lwB1_r hb
  unfold f_L_law_442 at hf
  refine h_aload_n (pc := 442) C dL_law_442 rfl 1 rfl ?_
  refine h_aload_n (pc := 443) C dL_law_443 rfl 0 rfl ?_
  refine h_iload (pc := 444) C dL_law_444 5 rfl ?_
  refine h_iconst (pc := 446) C dL_law_446 jc_1 ?_
  refine h_iadd (pc := 447) C dL_law_447 ?_
  obtain ⟨hi, v39, hv, hf⟩ := jrd_s hf
  refine h_sld (pc := 448) C X9 hi hv dL_law_448 ?_
  clear hi hv
  refine h_aload_n (pc := 449) C dL_law_449 rfl 0 rfl ?_
  refine h_iload (pc := 450) C dL_law_450 5 rfl ?_
  refine h_iconst (pc := 452) C dL_law_452 jc_2 ?_
  refine h_iadd (pc := 453) C dL_law_453 ?_
  obtain ⟨hi, v40, hv, hf⟩ := jrd_s hf
  refine h_sld (pc := 454) C X9 hi hv dL_law_454 ?_
  clear hi hv
  refine h_aload_n (pc := 455) C dL_law_455 rfl 3 rfl ?_
  obtain ⟨v41, hc, hf⟩ := jbd_s hf
  refine h_callSW (pc := 456) (As := [.ref (ad 0), .int v39, .int v40, .ref (ad 17)]) (rest := []) (ws' := (wL cT ad areas keys there order added size loads widths height ranks madded msides mkey misThere mboxes morder mlevels mnodes mentries mleft mlow mright mhigh mfirst mend mthrown v41.2 outD)) (st2 := .int v41.1 :: []) C Z (c_L_sideOf hX0 D cT ad n areas keys there order added size loads widths height ranks v39 v40 out v41.1 v41.2 hc) (vx_cwSW 4 C.1.2.2.2.2 gL_law_L_sideOf rfl rfl rfl ps_L_sideOf ⟨(Nat.le_of_ble_eq_true rfl), (Nat.le_of_ble_eq_true rfl)⟩) dL_law_456 rfl rfl (Nat.le_of_ble_eq_true rfl) hE [0, 1, 2, 3, 4, 5, 6, 7, 8, 9, 17] [10, 11, 12, 13, 14, 15, 16, 18] [8, 9, 10, 11, 12, 13, 14, 15, 16, 17, 0, 1, 2, 3, 4, 5, 6, 18, 7] rfl rfl rfl rfl (by decide) rfl rfl rfl ?_
  clear hc
  refine h_istore (pc := 459) (lv' := [(6, .int v41.1), (0, .ref (ad 19)), (1, .ref (ad 0)), (2, .ref (ad 10)), (3, .ref (ad 17)), (4, .ref (ad 18)), (5, .int x5)]) C dL_law_459 (by decide) rfl ?_
  refine h_aload_n (pc := 461) C dL_law_461 rfl 3 rfl ?_
  refine h_aload_n (pc := 462) C dL_law_462 rfl 1 rfl ?_
  refine h_iload (pc := 463) C dL_law_463 6 rfl ?_
  refine h_iconst (pc := 465) C dL_law_465 jc_1 ?_
  refine h_iadd (pc := 466) C dL_law_466 ?_
  obtain ⟨hi, v42, hv, hf⟩ := jrd_s hf
  refine h_sld (pc := 467) C X9 hi hv dL_law_467 ?_
  clear hi hv
  refine h_aload_n (pc := 468) C dL_law_468 rfl 1 rfl ?_
  refine h_iload (pc := 469) C dL_law_469 6 rfl ?_
  refine h_iconst (pc := 471) C dL_law_471 jc_2 ?_
  refine h_iadd (pc := 472) C dL_law_472 ?_
  obtain ⟨hi, v43, hv, hf⟩ := jrd_s hf
  refine h_sld (pc := 473) C X9 hi hv dL_law_473 ?_
  clear hi hv
  obtain ⟨v44, hc, hf⟩ := jbd_s hf
  refine h_callV (pc := 474) (q0 := 10) (As := [.int v42, .int v43]) (rest := []) (ws' := (wL cT ad areas keys there order added size loads widths height ranks madded msides mkey misThere mboxes morder mlevels mnodes mentries mleft mlow mright mhigh mfirst mend v44.2 v41.2 outD)) (st2 := .int v44.1 :: []) C (c_X5_sideOf l D cT ad n madded msides mkey misThere mboxes morder mlevels mnodes mentries mleft mlow mright mhigh mfirst mend mthrown v42 v43 v44.1 v44.2 hc) (cwV 2 C.1.2.2.2.2 gL_law_X5_sideOf rfl rfl rfl pv_X5_sideOf ⟨(Nat.le_of_ble_eq_true rfl), (Nat.le_of_ble_eq_true rfl)⟩) dL_law_474 rfl rfl rfl rfl rfl (Nat.le_of_ble_eq_true rfl) ⟨rfl, rfl⟩ hE [10, 11, 12, 13, 14, 15, 16] [0, 1, 2, 3, 4, 5, 6, 7, 8, 9, 17, 18] [0, 1, 2, 3, 4, 5, 6, 7, 8, 9, 12, 13, 14, 15, 16, 17, 18, 10, 11] rfl rfl rfl rfl (by decide) rfl rfl rfl ?_
  clear hc
  refine h_istore (pc := 477) (lv' := [(7, .int v44.1), (6, .int v41.1), (0, .ref (ad 19)), (1, .ref (ad 0)), (2, .ref (ad 10)), (3, .ref (ad 17)), (4, .ref (ad 18)), (5, .int x5)]) C dL_law_477 (by decide) rfl ?_
  refine h_aload_n (pc := 479) C dL_law_479 rfl 4 rfl ?_
  obtain ⟨v45, hc, hf⟩ := jbd_s hf
  refine h_callV (pc := 480) (q0 := 10) (As := []) (rest := []) (ws' := (wL cT ad areas keys there order added size loads widths height ranks madded msides mkey misThere mboxes morder mlevels mnodes mentries mleft mlow mright mhigh mfirst mend v44.2 v41.2 outD)) (st2 := .int v45 :: []) C (c_X5_thrown l D cT ad n madded msides mkey misThere mboxes morder mlevels mnodes mentries mleft mlow mright mhigh mfirst mend v44.2 v45 hc) (cwV 0 C.1.2.2.2.2 gL_law_X5_thrown rfl rfl rfl pv_X5_thrown ⟨(Nat.le_of_ble_eq_true rfl), (Nat.le_of_ble_eq_true rfl)⟩) dL_law_480 rfl rfl rfl rfl rfl (Nat.le_of_ble_eq_true rfl) ⟨rfl, rfl⟩ hE [10, 11, 12, 13, 14, 15, 16] [0, 1, 2, 3, 4, 5, 6, 7, 8, 9, 17, 18] [0, 1, 2, 3, 4, 5, 6, 7, 8, 9, 12, 13, 14, 15, 16, 17, 18, 10, 11] rfl rfl rfl rfl (by decide) rfl rfl rfl ?_
  clear hc
  refine h_iload (pc := 483) C dL_law_483 1 rfl ?_
  refine h_icmp_eq (pc := 485) (tgt := 490) C dL_law_485 (by decide) (fun q => ?_) (fun q => ?_)
  · replace hf := jif_t q hf
    refine h_iload (pc := 490) C dL_law_490 1 rfl ?_
    refine h_if_ne (pc := 492) (tgt := 507) C dL_law_492 (by decide) (fun q => ?_) (fun q => ?_)
    · replace hf := jif_f q hf
      refine h_goto (pc := 507) (tgt := 1422) C dL_law_507 (by decide) ?_
      refine h_sub [2, 3, 4, 5, 6, 7] rfl ?_
      exact k_L_law_1422 hX0 D cT ad C X9 Z hEnd n k28 K28 (CE + rmL_sideOf.cells) (SL + rmL_sideOf.slots) areas keys there order added size loads widths height ranks madded msides mkey misThere mboxes morder mlevels mnodes mentries mleft mlow mright mhigh mfirst mend v44.2 v41.2 outD x5 (lwB_more hb) hf
    · replace hf := jif_t q hf
      refine h_aload_n (pc := 495) C dL_law_495 rfl 5 rfl ?_
      refine h_iconst (pc := 496) C dL_law_496 jc_0 ?_
      obtain ⟨hi, v46, hv, hf⟩ := jrdA_s hf
      refine h_lald (pc := 497) C 17 2 rfl rfl hi hv dL_law_497 ?_
      clear hi hv
      refine h_iload (pc := 498) C dL_law_498 0 rfl ?_
      refine h_i2l (pc := 500) C dL_law_500 ?_
      refine h_lcmp (pc := 501) C dL_law_501 ?_
      refine h_if_eq (pc := 502) (tgt := 507) C dL_law_502 (by decide) (fun q => ?_) (fun q => ?_)
      · replace hf := jif_t q hf
        refine h_goto (pc := 507) (tgt := 1422) C dL_law_507 (by decide) ?_
        refine h_sub [2, 3, 4, 5, 6, 7] rfl ?_
        exact k_L_law_1422 hX0 D cT ad C X9 Z hEnd n k28 K28 (CE + rmL_sideOf.cells) (SL + rmL_sideOf.slots) areas keys there order added size loads widths height ranks madded msides mkey misThere mboxes morder mlevels mnodes mentries mleft mlow mright mhigh mfirst mend v44.2 v41.2 outD x5 (lwB_more hb) hf
      · replace hf := jif_f q hf
        refine h_iconst (pc := 505) C dL_law_505 jc_0 ?_
        exact absurd (Option.some.inj hf) (by decide)
  · replace hf := jif_f q hf
    refine h_iconst (pc := 488) C dL_law_488 jc_0 ?_
    exact absurd (Option.some.inj hf) (by decide)
set_option maxRecDepth 100000 in
set_option maxHeartbeats 4000000 in
theorem k_L_law_510 {p : Program} {e : Env} {s : State} {m : MethodId} {args : Array Value} {below : List Frame} {meth : Method} {c : Code} {A : Nat → Prop} {Q : State → Prop} {l : Launch} {L : Nat} {xs : Nat → Int32} (hX0 : l.stackTraces = false) (D : va_G) (cT : Nat → ClassId) (ad : Nat → Nat) (C : hC p s m args meth c code 8 wsL_law RL D (ty4 cT) A) (X9 : va_X (ad 19) L xs s s.heap ∧ ad 19 < s.heap.size ∧ ¬ A (ad 19)) (Z : xZ A s s.heap) (hEnd : ∀ (CE SL : Nat), CE ≤ 1055 → SL ≤ 10903 → ∀ (lv : List (Nat × Value)) (ws : va_W), hS p l e room_1 s m args below meth c 8 D A CE SL Q 1429 lv [.int 1] ws) (n : Nat) (k28 : (Nat → Int32) → (Nat → Int32) → (Nat → Int32) → (Nat → Int32) → Int32 → Int32 → (Nat → Int32) → (Nat → Int32) → Int32 → (Nat → Int32) → Int32 → (Nat → Int32) → (Nat → Int32) → (Nat → Int32) → Int32 → (Nat → Int32) → Int32 → (Nat → Int32) → (Nat → Int32) → Int32 → Int32 → Int32 → Int32 → Int32 → Int32 → Int32 → (Nat → Int64) → (Nat → UInt64) → Int32 → Option Int32) (K28 : ∀ (CE SL : Nat) (areas : Nat → Int32) (keys : Nat → Int32) (there : Nat → Int32) (order : Nat → Int32) (added : Int32) (size : Int32) (loads : Nat → Int32) (widths : Nat → Int32) (height : Int32) (ranks : Nat → Int32) (madded : Int32) (msides : Nat → Int32) (mkey : Nat → Int32) (misThere : Nat → Int32) (mboxes : Int32) (morder : Nat → Int32) (mlevels : Int32) (mnodes : Nat → Int32) (mentries : Nat → Int32) (mleft : Int32) (mlow : Int32) (mright : Int32) (mhigh : Int32) (mfirst : Int32) (mend : Int32) (mthrown : Int32) (out : Nat → Int64) (outD : Nat → UInt64) (x5 : Int32), lwB L x5 CE SL → k28 areas keys there order added size loads widths height ranks madded msides mkey misThere mboxes morder mlevels mnodes mentries mleft mlow mright mhigh mfirst mend mthrown out outD x5 = some 1 → hS p l e room_1 s m args below meth c 8 D A CE SL Q 28 [(0, .ref (ad 19)), (1, .ref (ad 0)), (2, .ref (ad 10)), (3, .ref (ad 17)), (4, .ref (ad 18)), (5, .int x5)] [] (wL cT ad areas keys there order added size loads widths height ranks madded msides mkey misThere mboxes morder mlevels mnodes mentries mleft mlow mright mhigh mfirst mend mthrown out outD)) : ∀ (CE SL : Nat) (areas : Nat → Int32) (keys : Nat → Int32) (there : Nat → Int32) (order : Nat → Int32) (added : Int32) (size : Int32) (loads : Nat → Int32) (widths : Nat → Int32) (height : Int32) (ranks : Nat → Int32) (madded : Int32) (msides : Nat → Int32) (mkey : Nat → Int32) (misThere : Nat → Int32) (mboxes : Int32) (morder : Nat → Int32) (mlevels : Int32) (mnodes : Nat → Int32) (mentries : Nat → Int32) (mleft : Int32) (mlow : Int32) (mright : Int32) (mhigh : Int32) (mfirst : Int32) (mend : Int32) (mthrown : Int32) (out : Nat → Int64) (outD : Nat → UInt64) (x5 : Int32), lwB1 L x5 CE SL → f_L_law_510 n L xs k28 areas keys there order added size loads widths height ranks madded msides mkey misThere mboxes morder mlevels mnodes mentries mleft mlow mright mhigh mfirst mend mthrown out outD x5 = some 1 → hS p l e room_1 s m args below meth c 8 D A CE SL Q 510 [(0, .ref (ad 19)), (1, .ref (ad 0)), (2, .ref (ad 10)), (3, .ref (ad 17)), (4, .ref (ad 18)), (5, .int x5)] [] (wL cT ad areas keys there order added size loads widths height ranks madded msides mkey misThere mboxes morder mlevels mnodes mentries mleft mlow mright mhigh mfirst mend mthrown out outD) := by
  intro CE SL areas keys there order added size loads widths height ranks madded msides mkey misThere mboxes morder mlevels mnodes mentries mleft mlow mright mhigh mfirst mend mthrown out outD x5 hb hf
  have hE := lwB1_r hb
  unfold f_L_law_510 at hf
  refine h_aload_n (pc := 510) C dL_law_510 rfl 1 rfl ?_
  obtain ⟨v47, hc, hf⟩ := jbd_s hf
  refine h_callV (pc := 511) (q0 := 0) (As := []) (rest := []) (ws' := (wL cT ad areas keys there order added size loads widths height ranks madded msides mkey misThere mboxes morder mlevels mnodes mentries mleft mlow mright mhigh mfirst mend mthrown out outD)) (st2 := .int v47 :: []) C (c_X4_levels l D cT ad n areas keys there order added size loads widths height ranks v47 hc) (cwV 0 C.1.2.2.2.2 gL_law_X4_levels rfl rfl rfl pv_X4_levels ⟨(Nat.le_of_ble_eq_true rfl), (Nat.le_of_ble_eq_true rfl)⟩) dL_law_511 rfl rfl rfl rfl rfl (Nat.le_of_ble_eq_true rfl) ⟨rfl, rfl⟩ ⟨Nat.le_trans (Nat.le_add_right _ _) hE.1, Nat.le_trans (Nat.le_add_right _ _) hE.2⟩ [0, 1, 2, 3, 4, 5, 6, 7, 8, 9] [10, 11, 12, 13, 14, 15, 16, 17, 18] [9, 10, 11, 12, 13, 14, 15, 16, 17, 18, 0, 1, 2, 3, 4, 5, 6, 7, 8] rfl rfl rfl rfl (by decide) rfl rfl rfl ?_
  clear hc
  refine h_aload_n (pc := 514) C dL_law_514 rfl 2 rfl ?_
  obtain ⟨v48, hc, hf⟩ := jbd_s hf
  refine h_callV (pc := 515) (q0 := 10) (As := []) (rest := .int v47 :: []) (ws' := (wL cT ad areas keys there order added size loads widths height ranks madded msides mkey misThere mboxes morder mlevels mnodes mentries mleft mlow mright mhigh mfirst mend v48.2 out outD)) (st2 := .int v48.1 :: .int v47 :: []) C (c_X5_levels l D cT ad n madded msides mkey misThere mboxes morder mlevels mnodes mentries mleft mlow mright mhigh mfirst mend mthrown v48.1 v48.2 hc) (cwV 0 C.1.2.2.2.2 gL_law_X5_levels rfl rfl rfl pv_X5_levels ⟨(Nat.le_of_ble_eq_true rfl), (Nat.le_of_ble_eq_true rfl)⟩) dL_law_515 rfl rfl rfl rfl rfl (Nat.le_of_ble_eq_true rfl) ⟨rfl, rfl⟩ ⟨Nat.le_trans (Nat.le_add_right _ _) hE.1, Nat.le_trans (Nat.le_add_right _ _) hE.2⟩ [10, 11, 12, 13, 14, 15, 16] [0, 1, 2, 3, 4, 5, 6, 7, 8, 9, 17, 18] [0, 1, 2, 3, 4, 5, 6, 7, 8, 9, 12, 13, 14, 15, 16, 17, 18, 10, 11] rfl rfl rfl rfl (by decide) rfl rfl rfl ?_
  clear hc
  refine h_icmp_eq (pc := 518) (tgt := 1422) C dL_law_518 (by decide) (fun q => ?_) (fun q => ?_)
  · replace hf := jif_t q hf
    exact k_L_law_1422 hX0 D cT ad C X9 Z hEnd n k28 K28 CE SL areas keys there order added size loads widths height ranks madded msides mkey misThere mboxes morder mlevels mnodes mentries mleft mlow mright mhigh mfirst mend v48.2 out outD x5 (lwB_same hb) hf
  · replace hf := jif_f q hf
    refine h_iconst (pc := 521) C dL_law_521 jc_0 ?_
    exact absurd (Option.some.inj hf) (by decide)
set_option maxRecDepth 100000 in
set_option maxHeartbeats 4000000 in
theorem k_L_law_523 {p : Program} {e : Env} {s : State} {m : MethodId} {args : Array Value} {below : List Frame} {meth : Method} {c : Code} {A : Nat → Prop} {Q : State → Prop} {l : Launch} {L : Nat} {xs : Nat → Int32} (hX0 : l.stackTraces = false) (D : va_G) (cT : Nat → ClassId) (ad : Nat → Nat) (C : hC p s m args meth c code 8 wsL_law RL D (ty4 cT) A) (X9 : va_X (ad 19) L xs s s.heap ∧ ad 19 < s.heap.size ∧ ¬ A (ad 19)) (Z : xZ A s s.heap) (hEnd : ∀ (CE SL : Nat), CE ≤ 1055 → SL ≤ 10903 → ∀ (lv : List (Nat × Value)) (ws : va_W), hS p l e room_1 s m args below meth c 8 D A CE SL Q 1429 lv [.int 1] ws) (n : Nat) (k28 : (Nat → Int32) → (Nat → Int32) → (Nat → Int32) → (Nat → Int32) → Int32 → Int32 → (Nat → Int32) → (Nat → Int32) → Int32 → (Nat → Int32) → Int32 → (Nat → Int32) → (Nat → Int32) → (Nat → Int32) → Int32 → (Nat → Int32) → Int32 → (Nat → Int32) → (Nat → Int32) → Int32 → Int32 → Int32 → Int32 → Int32 → Int32 → Int32 → (Nat → Int64) → (Nat → UInt64) → Int32 → Option Int32) (K28 : ∀ (CE SL : Nat) (areas : Nat → Int32) (keys : Nat → Int32) (there : Nat → Int32) (order : Nat → Int32) (added : Int32) (size : Int32) (loads : Nat → Int32) (widths : Nat → Int32) (height : Int32) (ranks : Nat → Int32) (madded : Int32) (msides : Nat → Int32) (mkey : Nat → Int32) (misThere : Nat → Int32) (mboxes : Int32) (morder : Nat → Int32) (mlevels : Int32) (mnodes : Nat → Int32) (mentries : Nat → Int32) (mleft : Int32) (mlow : Int32) (mright : Int32) (mhigh : Int32) (mfirst : Int32) (mend : Int32) (mthrown : Int32) (out : Nat → Int64) (outD : Nat → UInt64) (x5 : Int32), lwB L x5 CE SL → k28 areas keys there order added size loads widths height ranks madded msides mkey misThere mboxes morder mlevels mnodes mentries mleft mlow mright mhigh mfirst mend mthrown out outD x5 = some 1 → hS p l e room_1 s m args below meth c 8 D A CE SL Q 28 [(0, .ref (ad 19)), (1, .ref (ad 0)), (2, .ref (ad 10)), (3, .ref (ad 17)), (4, .ref (ad 18)), (5, .int x5)] [] (wL cT ad areas keys there order added size loads widths height ranks madded msides mkey misThere mboxes morder mlevels mnodes mentries mleft mlow mright mhigh mfirst mend mthrown out outD)) : ∀ (CE SL : Nat) (areas : Nat → Int32) (keys : Nat → Int32) (there : Nat → Int32) (order : Nat → Int32) (added : Int32) (size : Int32) (loads : Nat → Int32) (widths : Nat → Int32) (height : Int32) (ranks : Nat → Int32) (madded : Int32) (msides : Nat → Int32) (mkey : Nat → Int32) (misThere : Nat → Int32) (mboxes : Int32) (morder : Nat → Int32) (mlevels : Int32) (mnodes : Nat → Int32) (mentries : Nat → Int32) (mleft : Int32) (mlow : Int32) (mright : Int32) (mhigh : Int32) (mfirst : Int32) (mend : Int32) (mthrown : Int32) (out : Nat → Int64) (outD : Nat → UInt64) (x5 : Int32), lwB1 L x5 CE SL → f_L_law_523 n L xs k28 areas keys there order added size loads widths height ranks madded msides mkey misThere mboxes morder mlevels mnodes mentries mleft mlow mright mhigh mfirst mend mthrown out outD x5 = some 1 → hS p l e room_1 s m args below meth c 8 D A CE SL Q 523 [(0, .ref (ad 19)), (1, .ref (ad 0)), (2, .ref (ad 10)), (3, .ref (ad 17)), (4, .ref (ad 18)), (5, .int x5)] [] (wL cT ad areas keys there order added size loads widths height ranks madded msides mkey misThere mboxes morder mlevels mnodes mentries mleft mlow mright mhigh mfirst mend mthrown out outD) := by
  intro CE SL areas keys there order added size loads widths height ranks madded msides mkey misThere mboxes morder mlevels mnodes mentries mleft mlow mright mhigh mfirst mend mthrown out outD x5 hb hf
  have hE := lwB1_r hb
  unfold f_L_law_523 at hf
  refine h_aload_n (pc := 523) C dL_law_523 rfl 1 rfl ?_
  refine h_aload_n (pc := 524) C dL_law_524 rfl 0 rfl ?_
  refine h_iload (pc := 525) C dL_law_525 5 rfl ?_
  refine h_iconst (pc := 527) C dL_law_527 jc_1 ?_
  refine h_iadd (pc := 528) C dL_law_528 ?_
  obtain ⟨hi, v49, hv, hf⟩ := jrd_s hf
  refine h_sld (pc := 529) C X9 hi hv dL_law_529 ?_
  clear hi hv
  refine h_aload_n (pc := 530) C dL_law_530 rfl 3 rfl ?_
  obtain ⟨v50, hc, hf⟩ := jbd_s hf
  refine h_callSW (pc := 531) (As := [.ref (ad 0), .int v49, .ref (ad 17)]) (rest := []) (ws' := (wL cT ad areas keys there order added size loads widths height ranks madded msides mkey misThere mboxes morder mlevels mnodes mentries mleft mlow mright mhigh mfirst mend mthrown v50.2 outD)) (st2 := .int v50.1 :: []) C Z (c_L_nodes hX0 D cT ad n areas keys there order added size loads widths height ranks v49 out v50.1 v50.2 hc) (vx_cwSW 3 C.1.2.2.2.2 gL_law_L_nodes rfl rfl rfl ps_L_nodes ⟨(Nat.le_of_ble_eq_true rfl), (Nat.le_of_ble_eq_true rfl)⟩) dL_law_531 rfl rfl (Nat.le_of_ble_eq_true rfl) hE [0, 1, 2, 3, 4, 5, 6, 7, 8, 9, 17] [10, 11, 12, 13, 14, 15, 16, 18] [8, 9, 10, 11, 12, 13, 14, 15, 16, 17, 0, 1, 2, 3, 4, 5, 6, 18, 7] rfl rfl rfl rfl (by decide) rfl rfl rfl ?_
  clear hc
  refine h_istore (pc := 534) (lv' := [(6, .int v50.1), (0, .ref (ad 19)), (1, .ref (ad 0)), (2, .ref (ad 10)), (3, .ref (ad 17)), (4, .ref (ad 18)), (5, .int x5)]) C dL_law_534 (by decide) rfl ?_
  refine h_aload_n (pc := 536) C dL_law_536 rfl 3 rfl ?_
  refine h_aload_n (pc := 537) C dL_law_537 rfl 1 rfl ?_
  refine h_iload (pc := 538) C dL_law_538 6 rfl ?_
  refine h_iconst (pc := 540) C dL_law_540 jc_1 ?_
  refine h_iadd (pc := 541) C dL_law_541 ?_
  obtain ⟨hi, v51, hv, hf⟩ := jrd_s hf
  refine h_sld (pc := 542) C X9 hi hv dL_law_542 ?_
  clear hi hv
  obtain ⟨v52, hc, hf⟩ := jbd_s hf
  refine h_callV (pc := 543) (q0 := 10) (As := [.int v51]) (rest := []) (ws' := (wL cT ad areas keys there order added size loads widths height ranks madded msides mkey misThere mboxes morder mlevels mnodes mentries mleft mlow mright mhigh mfirst mend v52.2 v50.2 outD)) (st2 := .int v52.1 :: []) C (c_X5_nodes l D cT ad n madded msides mkey misThere mboxes morder mlevels mnodes mentries mleft mlow mright mhigh mfirst mend mthrown v51 v52.1 v52.2 hc) (cwV 1 C.1.2.2.2.2 gL_law_X5_nodes rfl rfl rfl pv_X5_nodes ⟨(Nat.le_of_ble_eq_true rfl), (Nat.le_of_ble_eq_true rfl)⟩) dL_law_543 rfl rfl rfl rfl rfl (Nat.le_of_ble_eq_true rfl) ⟨rfl, rfl⟩ hE [10, 11, 12, 13, 14, 15, 16] [0, 1, 2, 3, 4, 5, 6, 7, 8, 9, 17, 18] [0, 1, 2, 3, 4, 5, 6, 7, 8, 9, 12, 13, 14, 15, 16, 17, 18, 10, 11] rfl rfl rfl rfl (by decide) rfl rfl rfl ?_
  clear hc
  refine h_istore (pc := 546) (lv' := [(7, .int v52.1), (6, .int v50.1), (0, .ref (ad 19)), (1, .ref (ad 0)), (2, .ref (ad 10)), (3, .ref (ad 17)), (4, .ref (ad 18)), (5, .int x5)]) C dL_law_546 (by decide) rfl ?_
  refine h_aload_n (pc := 548) C dL_law_548 rfl 4 rfl ?_
  obtain ⟨v53, hc, hf⟩ := jbd_s hf
  refine h_callV (pc := 549) (q0 := 10) (As := []) (rest := []) (ws' := (wL cT ad areas keys there order added size loads widths height ranks madded msides mkey misThere mboxes morder mlevels mnodes mentries mleft mlow mright mhigh mfirst mend v52.2 v50.2 outD)) (st2 := .int v53 :: []) C (c_X5_thrown l D cT ad n madded msides mkey misThere mboxes morder mlevels mnodes mentries mleft mlow mright mhigh mfirst mend v52.2 v53 hc) (cwV 0 C.1.2.2.2.2 gL_law_X5_thrown rfl rfl rfl pv_X5_thrown ⟨(Nat.le_of_ble_eq_true rfl), (Nat.le_of_ble_eq_true rfl)⟩) dL_law_549 rfl rfl rfl rfl rfl (Nat.le_of_ble_eq_true rfl) ⟨rfl, rfl⟩ hE [10, 11, 12, 13, 14, 15, 16] [0, 1, 2, 3, 4, 5, 6, 7, 8, 9, 17, 18] [0, 1, 2, 3, 4, 5, 6, 7, 8, 9, 12, 13, 14, 15, 16, 17, 18, 10, 11] rfl rfl rfl rfl (by decide) rfl rfl rfl ?_
  clear hc
  refine h_iload (pc := 552) C dL_law_552 1 rfl ?_
  refine h_icmp_eq (pc := 554) (tgt := 559) C dL_law_554 (by decide) (fun q => ?_) (fun q => ?_)
  · replace hf := jif_t q hf
    refine h_iload (pc := 559) C dL_law_559 1 rfl ?_
    refine h_if_ne (pc := 561) (tgt := 576) C dL_law_561 (by decide) (fun q => ?_) (fun q => ?_)
    · replace hf := jif_f q hf
      refine h_goto (pc := 576) (tgt := 1422) C dL_law_576 (by decide) ?_
      refine h_sub [2, 3, 4, 5, 6, 7] rfl ?_
      exact k_L_law_1422 hX0 D cT ad C X9 Z hEnd n k28 K28 (CE + rmL_nodes.cells) (SL + rmL_nodes.slots) areas keys there order added size loads widths height ranks madded msides mkey misThere mboxes morder mlevels mnodes mentries mleft mlow mright mhigh mfirst mend v52.2 v50.2 outD x5 (lwB_more hb) hf
    · replace hf := jif_t q hf
      refine h_aload_n (pc := 564) C dL_law_564 rfl 5 rfl ?_
      refine h_iconst (pc := 565) C dL_law_565 jc_0 ?_
      obtain ⟨hi, v54, hv, hf⟩ := jrdA_s hf
      refine h_lald (pc := 566) C 17 2 rfl rfl hi hv dL_law_566 ?_
      clear hi hv
      refine h_iload (pc := 567) C dL_law_567 0 rfl ?_
      refine h_i2l (pc := 569) C dL_law_569 ?_
      refine h_lcmp (pc := 570) C dL_law_570 ?_
      refine h_if_eq (pc := 571) (tgt := 576) C dL_law_571 (by decide) (fun q => ?_) (fun q => ?_)
      · replace hf := jif_t q hf
        refine h_goto (pc := 576) (tgt := 1422) C dL_law_576 (by decide) ?_
        refine h_sub [2, 3, 4, 5, 6, 7] rfl ?_
        exact k_L_law_1422 hX0 D cT ad C X9 Z hEnd n k28 K28 (CE + rmL_nodes.cells) (SL + rmL_nodes.slots) areas keys there order added size loads widths height ranks madded msides mkey misThere mboxes morder mlevels mnodes mentries mleft mlow mright mhigh mfirst mend v52.2 v50.2 outD x5 (lwB_more hb) hf
      · replace hf := jif_f q hf
        refine h_iconst (pc := 574) C dL_law_574 jc_0 ?_
        exact absurd (Option.some.inj hf) (by decide)
  · replace hf := jif_f q hf
    refine h_iconst (pc := 557) C dL_law_557 jc_0 ?_
    exact absurd (Option.some.inj hf) (by decide)
set_option maxRecDepth 100000 in
set_option maxHeartbeats 4000000 in
theorem k_L_law_579 {p : Program} {e : Env} {s : State} {m : MethodId} {args : Array Value} {below : List Frame} {meth : Method} {c : Code} {A : Nat → Prop} {Q : State → Prop} {l : Launch} {L : Nat} {xs : Nat → Int32} (hX0 : l.stackTraces = false) (D : va_G) (cT : Nat → ClassId) (ad : Nat → Nat) (C : hC p s m args meth c code 8 wsL_law RL D (ty4 cT) A) (X9 : va_X (ad 19) L xs s s.heap ∧ ad 19 < s.heap.size ∧ ¬ A (ad 19)) (Z : xZ A s s.heap) (hEnd : ∀ (CE SL : Nat), CE ≤ 1055 → SL ≤ 10903 → ∀ (lv : List (Nat × Value)) (ws : va_W), hS p l e room_1 s m args below meth c 8 D A CE SL Q 1429 lv [.int 1] ws) (n : Nat) (k28 : (Nat → Int32) → (Nat → Int32) → (Nat → Int32) → (Nat → Int32) → Int32 → Int32 → (Nat → Int32) → (Nat → Int32) → Int32 → (Nat → Int32) → Int32 → (Nat → Int32) → (Nat → Int32) → (Nat → Int32) → Int32 → (Nat → Int32) → Int32 → (Nat → Int32) → (Nat → Int32) → Int32 → Int32 → Int32 → Int32 → Int32 → Int32 → Int32 → (Nat → Int64) → (Nat → UInt64) → Int32 → Option Int32) (K28 : ∀ (CE SL : Nat) (areas : Nat → Int32) (keys : Nat → Int32) (there : Nat → Int32) (order : Nat → Int32) (added : Int32) (size : Int32) (loads : Nat → Int32) (widths : Nat → Int32) (height : Int32) (ranks : Nat → Int32) (madded : Int32) (msides : Nat → Int32) (mkey : Nat → Int32) (misThere : Nat → Int32) (mboxes : Int32) (morder : Nat → Int32) (mlevels : Int32) (mnodes : Nat → Int32) (mentries : Nat → Int32) (mleft : Int32) (mlow : Int32) (mright : Int32) (mhigh : Int32) (mfirst : Int32) (mend : Int32) (mthrown : Int32) (out : Nat → Int64) (outD : Nat → UInt64) (x5 : Int32), lwB L x5 CE SL → k28 areas keys there order added size loads widths height ranks madded msides mkey misThere mboxes morder mlevels mnodes mentries mleft mlow mright mhigh mfirst mend mthrown out outD x5 = some 1 → hS p l e room_1 s m args below meth c 8 D A CE SL Q 28 [(0, .ref (ad 19)), (1, .ref (ad 0)), (2, .ref (ad 10)), (3, .ref (ad 17)), (4, .ref (ad 18)), (5, .int x5)] [] (wL cT ad areas keys there order added size loads widths height ranks madded msides mkey misThere mboxes morder mlevels mnodes mentries mleft mlow mright mhigh mfirst mend mthrown out outD)) : ∀ (CE SL : Nat) (areas : Nat → Int32) (keys : Nat → Int32) (there : Nat → Int32) (order : Nat → Int32) (added : Int32) (size : Int32) (loads : Nat → Int32) (widths : Nat → Int32) (height : Int32) (ranks : Nat → Int32) (madded : Int32) (msides : Nat → Int32) (mkey : Nat → Int32) (misThere : Nat → Int32) (mboxes : Int32) (morder : Nat → Int32) (mlevels : Int32) (mnodes : Nat → Int32) (mentries : Nat → Int32) (mleft : Int32) (mlow : Int32) (mright : Int32) (mhigh : Int32) (mfirst : Int32) (mend : Int32) (mthrown : Int32) (out : Nat → Int64) (outD : Nat → UInt64) (x5 : Int32), lwB1 L x5 CE SL → f_L_law_579 n L xs k28 areas keys there order added size loads widths height ranks madded msides mkey misThere mboxes morder mlevels mnodes mentries mleft mlow mright mhigh mfirst mend mthrown out outD x5 = some 1 → hS p l e room_1 s m args below meth c 8 D A CE SL Q 579 [(0, .ref (ad 19)), (1, .ref (ad 0)), (2, .ref (ad 10)), (3, .ref (ad 17)), (4, .ref (ad 18)), (5, .int x5)] [] (wL cT ad areas keys there order added size loads widths height ranks madded msides mkey misThere mboxes morder mlevels mnodes mentries mleft mlow mright mhigh mfirst mend mthrown out outD) := by
  intro CE SL areas keys there order added size loads widths height ranks madded msides mkey misThere mboxes morder mlevels mnodes mentries mleft mlow mright mhigh mfirst mend mthrown out outD x5 hb hf
  have hE := lwB1_r hb
  unfold f_L_law_579 at hf
  refine h_aload_n (pc := 579) C dL_law_579 rfl 1 rfl ?_
  refine h_aload_n (pc := 580) C dL_law_580 rfl 0 rfl ?_
  refine h_iload (pc := 581) C dL_law_581 5 rfl ?_
  refine h_iconst (pc := 583) C dL_law_583 jc_1 ?_
  refine h_iadd (pc := 584) C dL_law_584 ?_
  obtain ⟨hi, v55, hv, hf⟩ := jrd_s hf
  refine h_sld (pc := 585) C X9 hi hv dL_law_585 ?_
  clear hi hv
  refine h_aload_n (pc := 586) C dL_law_586 rfl 0 rfl ?_
  refine h_iload (pc := 587) C dL_law_587 5 rfl ?_
  refine h_iconst (pc := 589) C dL_law_589 jc_2 ?_
  refine h_iadd (pc := 590) C dL_law_590 ?_
  obtain ⟨hi, v56, hv, hf⟩ := jrd_s hf
  refine h_sld (pc := 591) C X9 hi hv dL_law_591 ?_
  clear hi hv
  refine h_aload_n (pc := 592) C dL_law_592 rfl 3 rfl ?_
  obtain ⟨v57, hc, hf⟩ := jbd_s hf
  refine h_callSW (pc := 593) (As := [.ref (ad 0), .int v55, .int v56, .ref (ad 17)]) (rest := []) (ws' := (wL cT ad areas keys there order added size loads widths height ranks madded msides mkey misThere mboxes morder mlevels mnodes mentries mleft mlow mright mhigh mfirst mend mthrown v57.2 outD)) (st2 := .int v57.1 :: []) C Z (c_L_entries hX0 D cT ad n areas keys there order added size loads widths height ranks v55 v56 out v57.1 v57.2 hc) (vx_cwSW 4 C.1.2.2.2.2 gL_law_L_entries rfl rfl rfl ps_L_entries ⟨(Nat.le_of_ble_eq_true rfl), (Nat.le_of_ble_eq_true rfl)⟩) dL_law_593 rfl rfl (Nat.le_of_ble_eq_true rfl) hE [0, 1, 2, 3, 4, 5, 6, 7, 8, 9, 17] [10, 11, 12, 13, 14, 15, 16, 18] [8, 9, 10, 11, 12, 13, 14, 15, 16, 17, 0, 1, 2, 3, 4, 5, 6, 18, 7] rfl rfl rfl rfl (by decide) rfl rfl rfl ?_
  clear hc
  refine h_istore (pc := 596) (lv' := [(6, .int v57.1), (0, .ref (ad 19)), (1, .ref (ad 0)), (2, .ref (ad 10)), (3, .ref (ad 17)), (4, .ref (ad 18)), (5, .int x5)]) C dL_law_596 (by decide) rfl ?_
  refine h_aload_n (pc := 598) C dL_law_598 rfl 3 rfl ?_
  refine h_aload_n (pc := 599) C dL_law_599 rfl 1 rfl ?_
  refine h_iload (pc := 600) C dL_law_600 6 rfl ?_
  refine h_iconst (pc := 602) C dL_law_602 jc_1 ?_
  refine h_iadd (pc := 603) C dL_law_603 ?_
  obtain ⟨hi, v58, hv, hf⟩ := jrd_s hf
  refine h_sld (pc := 604) C X9 hi hv dL_law_604 ?_
  clear hi hv
  refine h_aload_n (pc := 605) C dL_law_605 rfl 1 rfl ?_
  refine h_iload (pc := 606) C dL_law_606 6 rfl ?_
  refine h_iconst (pc := 608) C dL_law_608 jc_2 ?_
  refine h_iadd (pc := 609) C dL_law_609 ?_
  obtain ⟨hi, v59, hv, hf⟩ := jrd_s hf
  refine h_sld (pc := 610) C X9 hi hv dL_law_610 ?_
  clear hi hv
  obtain ⟨v60, hc, hf⟩ := jbd_s hf
  refine h_callV (pc := 611) (q0 := 10) (As := [.int v58, .int v59]) (rest := []) (ws' := (wL cT ad areas keys there order added size loads widths height ranks madded msides mkey misThere mboxes morder mlevels mnodes mentries mleft mlow mright mhigh mfirst mend v60.2 v57.2 outD)) (st2 := .int v60.1 :: []) C (c_X5_entries l D cT ad n madded msides mkey misThere mboxes morder mlevels mnodes mentries mleft mlow mright mhigh mfirst mend mthrown v58 v59 v60.1 v60.2 hc) (cwV 2 C.1.2.2.2.2 gL_law_X5_entries rfl rfl rfl pv_X5_entries ⟨(Nat.le_of_ble_eq_true rfl), (Nat.le_of_ble_eq_true rfl)⟩) dL_law_611 rfl rfl rfl rfl rfl (Nat.le_of_ble_eq_true rfl) ⟨rfl, rfl⟩ hE [10, 11, 12, 13, 14, 15, 16] [0, 1, 2, 3, 4, 5, 6, 7, 8, 9, 17, 18] [0, 1, 2, 3, 4, 5, 6, 7, 8, 9, 12, 13, 14, 15, 16, 17, 18, 10, 11] rfl rfl rfl rfl (by decide) rfl rfl rfl ?_
  clear hc
  refine h_istore (pc := 614) (lv' := [(7, .int v60.1), (6, .int v57.1), (0, .ref (ad 19)), (1, .ref (ad 0)), (2, .ref (ad 10)), (3, .ref (ad 17)), (4, .ref (ad 18)), (5, .int x5)]) C dL_law_614 (by decide) rfl ?_
  refine h_aload_n (pc := 616) C dL_law_616 rfl 4 rfl ?_
  obtain ⟨v61, hc, hf⟩ := jbd_s hf
  refine h_callV (pc := 617) (q0 := 10) (As := []) (rest := []) (ws' := (wL cT ad areas keys there order added size loads widths height ranks madded msides mkey misThere mboxes morder mlevels mnodes mentries mleft mlow mright mhigh mfirst mend v60.2 v57.2 outD)) (st2 := .int v61 :: []) C (c_X5_thrown l D cT ad n madded msides mkey misThere mboxes morder mlevels mnodes mentries mleft mlow mright mhigh mfirst mend v60.2 v61 hc) (cwV 0 C.1.2.2.2.2 gL_law_X5_thrown rfl rfl rfl pv_X5_thrown ⟨(Nat.le_of_ble_eq_true rfl), (Nat.le_of_ble_eq_true rfl)⟩) dL_law_617 rfl rfl rfl rfl rfl (Nat.le_of_ble_eq_true rfl) ⟨rfl, rfl⟩ hE [10, 11, 12, 13, 14, 15, 16] [0, 1, 2, 3, 4, 5, 6, 7, 8, 9, 17, 18] [0, 1, 2, 3, 4, 5, 6, 7, 8, 9, 12, 13, 14, 15, 16, 17, 18, 10, 11] rfl rfl rfl rfl (by decide) rfl rfl rfl ?_
  clear hc
  refine h_iload (pc := 620) C dL_law_620 1 rfl ?_
  refine h_icmp_eq (pc := 622) (tgt := 627) C dL_law_622 (by decide) (fun q => ?_) (fun q => ?_)
  · replace hf := jif_t q hf
    refine h_iload (pc := 627) C dL_law_627 1 rfl ?_
    refine h_if_ne (pc := 629) (tgt := 644) C dL_law_629 (by decide) (fun q => ?_) (fun q => ?_)
    · replace hf := jif_f q hf
      refine h_goto (pc := 644) (tgt := 1422) C dL_law_644 (by decide) ?_
      refine h_sub [2, 3, 4, 5, 6, 7] rfl ?_
      exact k_L_law_1422 hX0 D cT ad C X9 Z hEnd n k28 K28 (CE + rmL_entries.cells) (SL + rmL_entries.slots) areas keys there order added size loads widths height ranks madded msides mkey misThere mboxes morder mlevels mnodes mentries mleft mlow mright mhigh mfirst mend v60.2 v57.2 outD x5 (lwB_more hb) hf
    · replace hf := jif_t q hf
      refine h_aload_n (pc := 632) C dL_law_632 rfl 5 rfl ?_
      refine h_iconst (pc := 633) C dL_law_633 jc_0 ?_
      obtain ⟨hi, v62, hv, hf⟩ := jrdA_s hf
      refine h_lald (pc := 634) C 17 2 rfl rfl hi hv dL_law_634 ?_
      clear hi hv
      refine h_iload (pc := 635) C dL_law_635 0 rfl ?_
      refine h_i2l (pc := 637) C dL_law_637 ?_
      refine h_lcmp (pc := 638) C dL_law_638 ?_
      refine h_if_eq (pc := 639) (tgt := 644) C dL_law_639 (by decide) (fun q => ?_) (fun q => ?_)
      · replace hf := jif_t q hf
        refine h_goto (pc := 644) (tgt := 1422) C dL_law_644 (by decide) ?_
        refine h_sub [2, 3, 4, 5, 6, 7] rfl ?_
        exact k_L_law_1422 hX0 D cT ad C X9 Z hEnd n k28 K28 (CE + rmL_entries.cells) (SL + rmL_entries.slots) areas keys there order added size loads widths height ranks madded msides mkey misThere mboxes morder mlevels mnodes mentries mleft mlow mright mhigh mfirst mend v60.2 v57.2 outD x5 (lwB_more hb) hf
      · replace hf := jif_f q hf
        refine h_iconst (pc := 642) C dL_law_642 jc_0 ?_
        exact absurd (Option.some.inj hf) (by decide)
  · replace hf := jif_f q hf
    refine h_iconst (pc := 625) C dL_law_625 jc_0 ?_
    exact absurd (Option.some.inj hf) (by decide)
set_option maxRecDepth 100000 in
set_option maxHeartbeats 4000000 in
theorem k_L_law_647 {p : Program} {e : Env} {s : State} {m : MethodId} {args : Array Value} {below : List Frame} {meth : Method} {c : Code} {A : Nat → Prop} {Q : State → Prop} {l : Launch} {L : Nat} {xs : Nat → Int32} (hX0 : l.stackTraces = false) (D : va_G) (cT : Nat → ClassId) (ad : Nat → Nat) (C : hC p s m args meth c code 8 wsL_law RL D (ty4 cT) A) (X9 : va_X (ad 19) L xs s s.heap ∧ ad 19 < s.heap.size ∧ ¬ A (ad 19)) (Z : xZ A s s.heap) (hEnd : ∀ (CE SL : Nat), CE ≤ 1055 → SL ≤ 10903 → ∀ (lv : List (Nat × Value)) (ws : va_W), hS p l e room_1 s m args below meth c 8 D A CE SL Q 1429 lv [.int 1] ws) (n : Nat) (k28 : (Nat → Int32) → (Nat → Int32) → (Nat → Int32) → (Nat → Int32) → Int32 → Int32 → (Nat → Int32) → (Nat → Int32) → Int32 → (Nat → Int32) → Int32 → (Nat → Int32) → (Nat → Int32) → (Nat → Int32) → Int32 → (Nat → Int32) → Int32 → (Nat → Int32) → (Nat → Int32) → Int32 → Int32 → Int32 → Int32 → Int32 → Int32 → Int32 → (Nat → Int64) → (Nat → UInt64) → Int32 → Option Int32) (K28 : ∀ (CE SL : Nat) (areas : Nat → Int32) (keys : Nat → Int32) (there : Nat → Int32) (order : Nat → Int32) (added : Int32) (size : Int32) (loads : Nat → Int32) (widths : Nat → Int32) (height : Int32) (ranks : Nat → Int32) (madded : Int32) (msides : Nat → Int32) (mkey : Nat → Int32) (misThere : Nat → Int32) (mboxes : Int32) (morder : Nat → Int32) (mlevels : Int32) (mnodes : Nat → Int32) (mentries : Nat → Int32) (mleft : Int32) (mlow : Int32) (mright : Int32) (mhigh : Int32) (mfirst : Int32) (mend : Int32) (mthrown : Int32) (out : Nat → Int64) (outD : Nat → UInt64) (x5 : Int32), lwB L x5 CE SL → k28 areas keys there order added size loads widths height ranks madded msides mkey misThere mboxes morder mlevels mnodes mentries mleft mlow mright mhigh mfirst mend mthrown out outD x5 = some 1 → hS p l e room_1 s m args below meth c 8 D A CE SL Q 28 [(0, .ref (ad 19)), (1, .ref (ad 0)), (2, .ref (ad 10)), (3, .ref (ad 17)), (4, .ref (ad 18)), (5, .int x5)] [] (wL cT ad areas keys there order added size loads widths height ranks madded msides mkey misThere mboxes morder mlevels mnodes mentries mleft mlow mright mhigh mfirst mend mthrown out outD)) : ∀ (CE SL : Nat) (areas : Nat → Int32) (keys : Nat → Int32) (there : Nat → Int32) (order : Nat → Int32) (added : Int32) (size : Int32) (loads : Nat → Int32) (widths : Nat → Int32) (height : Int32) (ranks : Nat → Int32) (madded : Int32) (msides : Nat → Int32) (mkey : Nat → Int32) (misThere : Nat → Int32) (mboxes : Int32) (morder : Nat → Int32) (mlevels : Int32) (mnodes : Nat → Int32) (mentries : Nat → Int32) (mleft : Int32) (mlow : Int32) (mright : Int32) (mhigh : Int32) (mfirst : Int32) (mend : Int32) (mthrown : Int32) (out : Nat → Int64) (outD : Nat → UInt64) (x5 : Int32), lwB1 L x5 CE SL → f_L_law_647 n L xs k28 areas keys there order added size loads widths height ranks madded msides mkey misThere mboxes morder mlevels mnodes mentries mleft mlow mright mhigh mfirst mend mthrown out outD x5 = some 1 → hS p l e room_1 s m args below meth c 8 D A CE SL Q 647 [(0, .ref (ad 19)), (1, .ref (ad 0)), (2, .ref (ad 10)), (3, .ref (ad 17)), (4, .ref (ad 18)), (5, .int x5)] [] (wL cT ad areas keys there order added size loads widths height ranks madded msides mkey misThere mboxes morder mlevels mnodes mentries mleft mlow mright mhigh mfirst mend mthrown out outD) := by
  intro CE SL areas keys there order added size loads widths height ranks madded msides mkey misThere mboxes morder mlevels mnodes mentries mleft mlow mright mhigh mfirst mend mthrown out outD x5 hb hf
  have hE := lwB1_r hb
  unfold f_L_law_647 at hf
  refine h_aload_n (pc := 647) C dL_law_647 rfl 1 rfl ?_
  refine h_aload_n (pc := 648) C dL_law_648 rfl 0 rfl ?_
  refine h_iload (pc := 649) C dL_law_649 5 rfl ?_
  refine h_iconst (pc := 651) C dL_law_651 jc_1 ?_
  refine h_iadd (pc := 652) C dL_law_652 ?_
  obtain ⟨hi, v63, hv, hf⟩ := jrd_s hf
  refine h_sld (pc := 653) C X9 hi hv dL_law_653 ?_
  clear hi hv
  refine h_aload_n (pc := 654) C dL_law_654 rfl 0 rfl ?_
  refine h_iload (pc := 655) C dL_law_655 5 rfl ?_
  refine h_iconst (pc := 657) C dL_law_657 jc_2 ?_
  refine h_iadd (pc := 658) C dL_law_658 ?_
  obtain ⟨hi, v64, hv, hf⟩ := jrd_s hf
  refine h_sld (pc := 659) C X9 hi hv dL_law_659 ?_
  clear hi hv
  refine h_aload_n (pc := 660) C dL_law_660 rfl 0 rfl ?_
  refine h_iload (pc := 661) C dL_law_661 5 rfl ?_
  refine h_iconst (pc := 663) C dL_law_663 jc_3 ?_
  refine h_iadd (pc := 664) C dL_law_664 ?_
  obtain ⟨hi, v65, hv, hf⟩ := jrd_s hf
  refine h_sld (pc := 665) C X9 hi hv dL_law_665 ?_
  clear hi hv
  refine h_aload_n (pc := 666) C dL_law_666 rfl 3 rfl ?_
  obtain ⟨v66, hc, hf⟩ := jbd_s hf
  refine h_callSW (pc := 667) (As := [.ref (ad 0), .int v63, .int v64, .int v65, .ref (ad 17)]) (rest := []) (ws' := (wL cT ad areas keys there order added size loads widths height ranks madded msides mkey misThere mboxes morder mlevels mnodes mentries mleft mlow mright mhigh mfirst mend mthrown v66.2 outD)) (st2 := .int v66.1 :: []) C Z (c_L_cover hX0 D cT ad n areas keys there order added size loads widths height ranks v63 v64 v65 out v66.1 v66.2 hc) (vx_cwSW 5 C.1.2.2.2.2 gL_law_L_cover rfl rfl rfl ps_L_cover ⟨(Nat.le_of_ble_eq_true rfl), (Nat.le_of_ble_eq_true rfl)⟩) dL_law_667 rfl rfl (Nat.le_of_ble_eq_true rfl) hE [0, 1, 2, 3, 4, 5, 6, 7, 8, 9, 17] [10, 11, 12, 13, 14, 15, 16, 18] [8, 9, 10, 11, 12, 13, 14, 15, 16, 17, 0, 1, 2, 3, 4, 5, 6, 18, 7] rfl rfl rfl rfl (by decide) rfl rfl rfl ?_
  clear hc
  refine h_istore (pc := 670) (lv' := [(6, .int v66.1), (0, .ref (ad 19)), (1, .ref (ad 0)), (2, .ref (ad 10)), (3, .ref (ad 17)), (4, .ref (ad 18)), (5, .int x5)]) C dL_law_670 (by decide) rfl ?_
  refine h_aload_n (pc := 672) C dL_law_672 rfl 3 rfl ?_
  refine h_aload_n (pc := 673) C dL_law_673 rfl 1 rfl ?_
  refine h_iload (pc := 674) C dL_law_674 6 rfl ?_
  refine h_iconst (pc := 676) C dL_law_676 jc_1 ?_
  refine h_iadd (pc := 677) C dL_law_677 ?_
  obtain ⟨hi, v67, hv, hf⟩ := jrd_s hf
  refine h_sld (pc := 678) C X9 hi hv dL_law_678 ?_
  clear hi hv
  refine h_aload_n (pc := 679) C dL_law_679 rfl 1 rfl ?_
  refine h_iload (pc := 680) C dL_law_680 6 rfl ?_
  refine h_iconst (pc := 682) C dL_law_682 jc_2 ?_
  refine h_iadd (pc := 683) C dL_law_683 ?_
  obtain ⟨hi, v68, hv, hf⟩ := jrd_s hf
  refine h_sld (pc := 684) C X9 hi hv dL_law_684 ?_
  clear hi hv
  refine h_aload_n (pc := 685) C dL_law_685 rfl 1 rfl ?_
  refine h_iload (pc := 686) C dL_law_686 6 rfl ?_
  refine h_iconst (pc := 688) C dL_law_688 jc_3 ?_
  refine h_iadd (pc := 689) C dL_law_689 ?_
  obtain ⟨hi, v69, hv, hf⟩ := jrd_s hf
  refine h_sld (pc := 690) C X9 hi hv dL_law_690 ?_
  clear hi hv
  obtain ⟨v70, hc, hf⟩ := jbd_s hf
  refine h_callV (pc := 691) (q0 := 10) (As := [.int v67, .int v68, .int v69]) (rest := []) (ws' := (wL cT ad areas keys there order added size loads widths height ranks madded msides mkey misThere mboxes morder mlevels mnodes mentries v70.2.1 v70.2.2.1 v70.2.2.2.1 v70.2.2.2.2.1 v70.2.2.2.2.2.1 v70.2.2.2.2.2.2.1 v70.2.2.2.2.2.2.2 v66.2 outD)) (st2 := .int v70.1 :: []) C (c_X5_cover l D cT ad n madded msides mkey misThere mboxes morder mlevels mnodes mentries mleft mlow mright mhigh mfirst mend mthrown v67 v68 v69 v70.1 v70.2.1 v70.2.2.1 v70.2.2.2.1 v70.2.2.2.2.1 v70.2.2.2.2.2.1 v70.2.2.2.2.2.2.1 v70.2.2.2.2.2.2.2 hc) (cwV 3 C.1.2.2.2.2 gL_law_X5_cover rfl rfl rfl pv_X5_cover ⟨(Nat.le_of_ble_eq_true rfl), (Nat.le_of_ble_eq_true rfl)⟩) dL_law_691 rfl rfl rfl rfl rfl (Nat.le_of_ble_eq_true rfl) ⟨rfl, rfl⟩ hE [10, 11, 12, 13, 14, 15, 16] [0, 1, 2, 3, 4, 5, 6, 7, 8, 9, 17, 18] [0, 1, 2, 3, 4, 5, 6, 7, 8, 9, 12, 13, 14, 15, 16, 17, 18, 10, 11] rfl rfl rfl rfl (by decide) rfl rfl rfl ?_
  clear hc
  refine h_istore (pc := 694) (lv' := [(7, .int v70.1), (6, .int v66.1), (0, .ref (ad 19)), (1, .ref (ad 0)), (2, .ref (ad 10)), (3, .ref (ad 17)), (4, .ref (ad 18)), (5, .int x5)]) C dL_law_694 (by decide) rfl ?_
  refine h_aload_n (pc := 696) C dL_law_696 rfl 4 rfl ?_
  obtain ⟨v71, hc, hf⟩ := jbd_s hf
  refine h_callV (pc := 697) (q0 := 10) (As := []) (rest := []) (ws' := (wL cT ad areas keys there order added size loads widths height ranks madded msides mkey misThere mboxes morder mlevels mnodes mentries v70.2.1 v70.2.2.1 v70.2.2.2.1 v70.2.2.2.2.1 v70.2.2.2.2.2.1 v70.2.2.2.2.2.2.1 v70.2.2.2.2.2.2.2 v66.2 outD)) (st2 := .int v71 :: []) C (c_X5_thrown l D cT ad n madded msides mkey misThere mboxes morder mlevels mnodes mentries v70.2.1 v70.2.2.1 v70.2.2.2.1 v70.2.2.2.2.1 v70.2.2.2.2.2.1 v70.2.2.2.2.2.2.1 v70.2.2.2.2.2.2.2 v71 hc) (cwV 0 C.1.2.2.2.2 gL_law_X5_thrown rfl rfl rfl pv_X5_thrown ⟨(Nat.le_of_ble_eq_true rfl), (Nat.le_of_ble_eq_true rfl)⟩) dL_law_697 rfl rfl rfl rfl rfl (Nat.le_of_ble_eq_true rfl) ⟨rfl, rfl⟩ hE [10, 11, 12, 13, 14, 15, 16] [0, 1, 2, 3, 4, 5, 6, 7, 8, 9, 17, 18] [0, 1, 2, 3, 4, 5, 6, 7, 8, 9, 12, 13, 14, 15, 16, 17, 18, 10, 11] rfl rfl rfl rfl (by decide) rfl rfl rfl ?_
  clear hc
  refine h_iload (pc := 700) C dL_law_700 1 rfl ?_
  refine h_icmp_eq (pc := 702) (tgt := 707) C dL_law_702 (by decide) (fun q => ?_) (fun q => ?_)
  · replace hf := jif_t q hf
    refine h_iload (pc := 707) C dL_law_707 1 rfl ?_
    refine h_if_ne (pc := 709) (tgt := 724) C dL_law_709 (by decide) (fun q => ?_) (fun q => ?_)
    · replace hf := jif_f q hf
      refine h_goto (pc := 724) (tgt := 1422) C dL_law_724 (by decide) ?_
      refine h_sub [2, 3, 4, 5, 6, 7] rfl ?_
      exact k_L_law_1422 hX0 D cT ad C X9 Z hEnd n k28 K28 (CE + rmL_cover.cells) (SL + rmL_cover.slots) areas keys there order added size loads widths height ranks madded msides mkey misThere mboxes morder mlevels mnodes mentries v70.2.1 v70.2.2.1 v70.2.2.2.1 v70.2.2.2.2.1 v70.2.2.2.2.2.1 v70.2.2.2.2.2.2.1 v70.2.2.2.2.2.2.2 v66.2 outD x5 (lwB_more hb) hf
    · replace hf := jif_t q hf
      refine h_aload_n (pc := 712) C dL_law_712 rfl 5 rfl ?_
      refine h_iconst (pc := 713) C dL_law_713 jc_0 ?_
      obtain ⟨hi, v72, hv, hf⟩ := jrdA_s hf
      refine h_lald (pc := 714) C 17 2 rfl rfl hi hv dL_law_714 ?_
      clear hi hv
      refine h_iload (pc := 715) C dL_law_715 0 rfl ?_
      refine h_i2l (pc := 717) C dL_law_717 ?_
      refine h_lcmp (pc := 718) C dL_law_718 ?_
      refine h_if_eq (pc := 719) (tgt := 724) C dL_law_719 (by decide) (fun q => ?_) (fun q => ?_)
      · replace hf := jif_t q hf
        refine h_goto (pc := 724) (tgt := 1422) C dL_law_724 (by decide) ?_
        refine h_sub [2, 3, 4, 5, 6, 7] rfl ?_
        exact k_L_law_1422 hX0 D cT ad C X9 Z hEnd n k28 K28 (CE + rmL_cover.cells) (SL + rmL_cover.slots) areas keys there order added size loads widths height ranks madded msides mkey misThere mboxes morder mlevels mnodes mentries v70.2.1 v70.2.2.1 v70.2.2.2.1 v70.2.2.2.2.1 v70.2.2.2.2.2.1 v70.2.2.2.2.2.2.1 v70.2.2.2.2.2.2.2 v66.2 outD x5 (lwB_more hb) hf
      · replace hf := jif_f q hf
        refine h_iconst (pc := 722) C dL_law_722 jc_0 ?_
        exact absurd (Option.some.inj hf) (by decide)
  · replace hf := jif_f q hf
    refine h_iconst (pc := 705) C dL_law_705 jc_0 ?_
    exact absurd (Option.some.inj hf) (by decide)
