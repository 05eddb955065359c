/-! laid by wip/whole/lay.py: the law, a road a block -/
set_option maxRecDepth 100000 in
set_option maxHeartbeats 4000000 in
theorem k_L_law_727 {p : Program} {e : Env} {s : State} {m : MethodId} {args : Array Value} {below : List Frame} {meth : Method} {c : Code} {A : Nat → Prop} {Q : State → Prop} {l : Launch} {L : Nat} {xs : Nat → Int32} (hX0 : l.stackTraces = false) (D : va_G) (cT : Nat → ClassId) (ad : Nat → Nat) (C : hC p s m args meth c code 8 wsL_law RL D (ty4 cT) A) (X9 : va_X (ad 19) L xs s s.heap ∧ ad 19 < s.heap.size ∧ ¬ A (ad 19)) (Z : xZ A s s.heap) (hEnd : ∀ (CE SL : Nat), CE ≤ 1055 → SL ≤ 10903 → ∀ (lv : List (Nat × Value)) (ws : va_W), hS p l e room_1 s m args below meth c 8 D A CE SL Q 1429 lv [.int 1] ws) (n : Nat) (k28 : (Nat → Int32) → (Nat → Int32) → (Nat → Int32) → (Nat → Int32) → Int32 → Int32 → (Nat → Int32) → (Nat → Int32) → Int32 → (Nat → Int32) → Int32 → (Nat → Int32) → (Nat → Int32) → (Nat → Int32) → Int32 → (Nat → Int32) → Int32 → (Nat → Int32) → (Nat → Int32) → Int32 → Int32 → Int32 → Int32 → Int32 → Int32 → Int32 → (Nat → Int64) → (Nat → UInt64) → Int32 → Option Int32) (K28 : ∀ (CE SL : Nat) (areas : Nat → Int32) (keys : Nat → Int32) (there : Nat → Int32) (order : Nat → Int32) (added : Int32) (size : Int32) (loads : Nat → Int32) (widths : Nat → Int32) (height : Int32) (ranks : Nat → Int32) (madded : Int32) (msides : Nat → Int32) (mkey : Nat → Int32) (misThere : Nat → Int32) (mboxes : Int32) (morder : Nat → Int32) (mlevels : Int32) (mnodes : Nat → Int32) (mentries : Nat → Int32) (mleft : Int32) (mlow : Int32) (mright : Int32) (mhigh : Int32) (mfirst : Int32) (mend : Int32) (mthrown : Int32) (out : Nat → Int64) (outD : Nat → UInt64) (x5 : Int32), lwB L x5 CE SL → k28 areas keys there order added size loads widths height ranks madded msides mkey misThere mboxes morder mlevels mnodes mentries mleft mlow mright mhigh mfirst mend mthrown out outD x5 = some 1 → hS p l e room_1 s m args below meth c 8 D A CE SL Q 28 [(0, .ref (ad 19)), (1, .ref (ad 0)), (2, .ref (ad 10)), (3, .ref (ad 17)), (4, .ref (ad 18)), (5, .int x5)] [] (wL cT ad areas keys there order added size loads widths height ranks madded msides mkey misThere mboxes morder mlevels mnodes mentries mleft mlow mright mhigh mfirst mend mthrown out outD)) : ∀ (CE SL : Nat) (areas : Nat → Int32) (keys : Nat → Int32) (there : Nat → Int32) (order : Nat → Int32) (added : Int32) (size : Int32) (loads : Nat → Int32) (widths : Nat → Int32) (height : Int32) (ranks : Nat → Int32) (madded : Int32) (msides : Nat → Int32) (mkey : Nat → Int32) (misThere : Nat → Int32) (mboxes : Int32) (morder : Nat → Int32) (mlevels : Int32) (mnodes : Nat → Int32) (mentries : Nat → Int32) (mleft : Int32) (mlow : Int32) (mright : Int32) (mhigh : Int32) (mfirst : Int32) (mend : Int32) (mthrown : Int32) (out : Nat → Int64) (outD : Nat → UInt64) (x5 : Int32), lwB1 L x5 CE SL → f_L_law_727 n L xs k28 areas keys there order added size loads widths height ranks madded msides mkey misThere mboxes morder mlevels mnodes mentries mleft mlow mright mhigh mfirst mend mthrown out outD x5 = some 1 → hS p l e room_1 s m args below meth c 8 D A CE SL Q 727 [(0, .ref (ad 19)), (1, .ref (ad 0)), (2, .ref (ad 10)), (3, .ref (ad 17)), (4, .ref (ad 18)), (5, .int x5)] [] (wL cT ad areas keys there order added size loads widths height ranks madded msides mkey misThere mboxes morder mlevels mnodes mentries mleft mlow mright mhigh mfirst mend mthrown out outD) := by
  intro CE SL areas keys there order added size loads widths height ranks madded msides mkey misThere mboxes morder mlevels mnodes mentries mleft mlow mright mhigh mfirst mend mthrown out outD x5 hb hf
  have hE := lwB1_r hb
  unfold f_L_law_727 at hf
  refine h_aload_n (pc := 727) C dL_law_727 rfl 1 rfl ?_
  refine h_aload_n (pc := 728) C dL_law_728 rfl 0 rfl ?_
  refine h_iload (pc := 729) C dL_law_729 5 rfl ?_
  refine h_iconst (pc := 731) C dL_law_731 jc_1 ?_
  refine h_iadd (pc := 732) C dL_law_732 ?_
  obtain ⟨hi, v73, hv, hf⟩ := jrd_s hf
  refine h_sld (pc := 733) C X9 hi hv dL_law_733 ?_
  clear hi hv
  refine h_aload_n (pc := 734) C dL_law_734 rfl 3 rfl ?_
  obtain ⟨v74, hc, hf⟩ := jbd_s hf
  refine h_callSW (pc := 735) (As := [.ref (ad 0), .int v73, .ref (ad 17)]) (rest := []) (ws' := (wL cT ad areas keys there order added size loads widths height ranks madded msides mkey misThere mboxes morder mlevels mnodes mentries mleft mlow mright mhigh mfirst mend mthrown v74.2 outD)) (st2 := .int v74.1 :: []) C Z (c_L_leafOf hX0 D cT ad n areas keys there order added size loads widths height ranks v73 out v74.1 v74.2 hc) (vx_cwSW 3 C.1.2.2.2.2 gL_law_L_leafOf rfl rfl rfl ps_L_leafOf ⟨(Nat.le_of_ble_eq_true rfl), (Nat.le_of_ble_eq_true rfl)⟩) dL_law_735 rfl rfl (Nat.le_of_ble_eq_true rfl) hE [0, 1, 2, 3, 4, 5, 6, 7, 8, 9, 17] [10, 11, 12, 13, 14, 15, 16, 18] [8, 9, 10, 11, 12, 13, 14, 15, 16, 17, 0, 1, 2, 3, 4, 5, 6, 18, 7] rfl rfl rfl rfl (by decide) rfl rfl rfl ?_
  clear hc
  refine h_istore (pc := 738) (lv' := [(6, .int v74.1), (0, .ref (ad 19)), (1, .ref (ad 0)), (2, .ref (ad 10)), (3, .ref (ad 17)), (4, .ref (ad 18)), (5, .int x5)]) C dL_law_738 (by decide) rfl ?_
  refine h_aload_n (pc := 740) C dL_law_740 rfl 3 rfl ?_
  refine h_aload_n (pc := 741) C dL_law_741 rfl 1 rfl ?_
  refine h_iload (pc := 742) C dL_law_742 6 rfl ?_
  refine h_iconst (pc := 744) C dL_law_744 jc_1 ?_
  refine h_iadd (pc := 745) C dL_law_745 ?_
  obtain ⟨hi, v75, hv, hf⟩ := jrd_s hf
  refine h_sld (pc := 746) C X9 hi hv dL_law_746 ?_
  clear hi hv
  obtain ⟨v76, hc, hf⟩ := jbd_s hf
  refine h_callV (pc := 747) (q0 := 10) (As := [.int v75]) (rest := []) (ws' := (wL cT ad areas keys there order added size loads widths height ranks madded msides mkey misThere mboxes morder mlevels mnodes mentries mleft mlow mright mhigh mfirst mend v76.2 v74.2 outD)) (st2 := .int v76.1 :: []) C (c_X5_leafOf l D cT ad n madded msides mkey misThere mboxes morder mlevels mnodes mentries mleft mlow mright mhigh mfirst mend mthrown v75 v76.1 v76.2 hc) (cwV 1 C.1.2.2.2.2 gL_law_X5_leafOf rfl rfl rfl pv_X5_leafOf ⟨(Nat.le_of_ble_eq_true rfl), (Nat.le_of_ble_eq_true rfl)⟩) dL_law_747 rfl rfl rfl rfl rfl (Nat.le_of_ble_eq_true rfl) ⟨rfl, rfl⟩ hE [10, 11, 12, 13, 14, 15, 16] [0, 1, 2, 3, 4, 5, 6, 7, 8, 9, 17, 18] [0, 1, 2, 3, 4, 5, 6, 7, 8, 9, 12, 13, 14, 15, 16, 17, 18, 10, 11] rfl rfl rfl rfl (by decide) rfl rfl rfl ?_
  clear hc
  refine h_istore (pc := 750) (lv' := [(7, .int v76.1), (6, .int v74.1), (0, .ref (ad 19)), (1, .ref (ad 0)), (2, .ref (ad 10)), (3, .ref (ad 17)), (4, .ref (ad 18)), (5, .int x5)]) C dL_law_750 (by decide) rfl ?_
  refine h_aload_n (pc := 752) C dL_law_752 rfl 4 rfl ?_
  obtain ⟨v77, hc, hf⟩ := jbd_s hf
  refine h_callV (pc := 753) (q0 := 10) (As := []) (rest := []) (ws' := (wL cT ad areas keys there order added size loads widths height ranks madded msides mkey misThere mboxes morder mlevels mnodes mentries mleft mlow mright mhigh mfirst mend v76.2 v74.2 outD)) (st2 := .int v77 :: []) C (c_X5_thrown l D cT ad n madded msides mkey misThere mboxes morder mlevels mnodes mentries mleft mlow mright mhigh mfirst mend v76.2 v77 hc) (cwV 0 C.1.2.2.2.2 gL_law_X5_thrown rfl rfl rfl pv_X5_thrown ⟨(Nat.le_of_ble_eq_true rfl), (Nat.le_of_ble_eq_true rfl)⟩) dL_law_753 rfl rfl rfl rfl rfl (Nat.le_of_ble_eq_true rfl) ⟨rfl, rfl⟩ hE [10, 11, 12, 13, 14, 15, 16] [0, 1, 2, 3, 4, 5, 6, 7, 8, 9, 17, 18] [0, 1, 2, 3, 4, 5, 6, 7, 8, 9, 12, 13, 14, 15, 16, 17, 18, 10, 11] rfl rfl rfl rfl (by decide) rfl rfl rfl ?_
  clear hc
  refine h_iload (pc := 756) C dL_law_756 1 rfl ?_
  refine h_icmp_eq (pc := 758) (tgt := 763) C dL_law_758 (by decide) (fun q => ?_) (fun q => ?_)
  · replace hf := jif_t q hf
    refine h_iload (pc := 763) C dL_law_763 1 rfl ?_
    refine h_if_ne (pc := 765) (tgt := 780) C dL_law_765 (by decide) (fun q => ?_) (fun q => ?_)
    · replace hf := jif_f q hf
      refine h_goto (pc := 780) (tgt := 1422) C dL_law_780 (by decide) ?_
      refine h_sub [2, 3, 4, 5, 6, 7] rfl ?_
      exact k_L_law_1422 hX0 D cT ad C X9 Z hEnd n k28 K28 (CE + rmL_leafOf.cells) (SL + rmL_leafOf.slots) areas keys there order added size loads widths height ranks madded msides mkey misThere mboxes morder mlevels mnodes mentries mleft mlow mright mhigh mfirst mend v76.2 v74.2 outD x5 (lwB_more hb) hf
    · replace hf := jif_t q hf
      refine h_aload_n (pc := 768) C dL_law_768 rfl 5 rfl ?_
      refine h_iconst (pc := 769) C dL_law_769 jc_0 ?_
      obtain ⟨hi, v78, hv, hf⟩ := jrdA_s hf
      refine h_lald (pc := 770) C 17 2 rfl rfl hi hv dL_law_770 ?_
      clear hi hv
      refine h_iload (pc := 771) C dL_law_771 0 rfl ?_
      refine h_i2l (pc := 773) C dL_law_773 ?_
      refine h_lcmp (pc := 774) C dL_law_774 ?_
      refine h_if_eq (pc := 775) (tgt := 780) C dL_law_775 (by decide) (fun q => ?_) (fun q => ?_)
      · replace hf := jif_t q hf
        refine h_goto (pc := 780) (tgt := 1422) C dL_law_780 (by decide) ?_
        refine h_sub [2, 3, 4, 5, 6, 7] rfl ?_
        exact k_L_law_1422 hX0 D cT ad C X9 Z hEnd n k28 K28 (CE + rmL_leafOf.cells) (SL + rmL_leafOf.slots) areas keys there order added size loads widths height ranks madded msides mkey misThere mboxes morder mlevels mnodes mentries mleft mlow mright mhigh mfirst mend v76.2 v74.2 outD x5 (lwB_more hb) hf
      · replace hf := jif_f q hf
        refine h_iconst (pc := 778) C dL_law_778 jc_0 ?_
        exact absurd (Option.some.inj hf) (by decide)
  · replace hf := jif_f q hf
    refine h_iconst (pc := 761) C dL_law_761 jc_0 ?_
    exact absurd (Option.some.inj hf) (by decide)
set_option maxRecDepth 100000 in
set_option maxHeartbeats 4000000 in
theorem k_L_law_783 {p : Program} {e : Env} {s : State} {m : MethodId} {args : Array Value} {below : List Frame} {meth : Method} {c : Code} {A : Nat → Prop} {Q : State → Prop} {l : Launch} {L : Nat} {xs : Nat → Int32} (hX0 : l.stackTraces = false) (D : va_G) (cT : Nat → ClassId) (ad : Nat → Nat) (C : hC p s m args meth c code 8 wsL_law RL D (ty4 cT) A) (X9 : va_X (ad 19) L xs s s.heap ∧ ad 19 < s.heap.size ∧ ¬ A (ad 19)) (Z : xZ A s s.heap) (hEnd : ∀ (CE SL : Nat), CE ≤ 1055 → SL ≤ 10903 → ∀ (lv : List (Nat × Value)) (ws : va_W), hS p l e room_1 s m args below meth c 8 D A CE SL Q 1429 lv [.int 1] ws) (n : Nat) (k28 : (Nat → Int32) → (Nat → Int32) → (Nat → Int32) → (Nat → Int32) → Int32 → Int32 → (Nat → Int32) → (Nat → Int32) → Int32 → (Nat → Int32) → Int32 → (Nat → Int32) → (Nat → Int32) → (Nat → Int32) → Int32 → (Nat → Int32) → Int32 → (Nat → Int32) → (Nat → Int32) → Int32 → Int32 → Int32 → Int32 → Int32 → Int32 → Int32 → (Nat → Int64) → (Nat → UInt64) → Int32 → Option Int32) (K28 : ∀ (CE SL : Nat) (areas : Nat → Int32) (keys : Nat → Int32) (there : Nat → Int32) (order : Nat → Int32) (added : Int32) (size : Int32) (loads : Nat → Int32) (widths : Nat → Int32) (height : Int32) (ranks : Nat → Int32) (madded : Int32) (msides : Nat → Int32) (mkey : Nat → Int32) (misThere : Nat → Int32) (mboxes : Int32) (morder : Nat → Int32) (mlevels : Int32) (mnodes : Nat → Int32) (mentries : Nat → Int32) (mleft : Int32) (mlow : Int32) (mright : Int32) (mhigh : Int32) (mfirst : Int32) (mend : Int32) (mthrown : Int32) (out : Nat → Int64) (outD : Nat → UInt64) (x5 : Int32), lwB L x5 CE SL → k28 areas keys there order added size loads widths height ranks madded msides mkey misThere mboxes morder mlevels mnodes mentries mleft mlow mright mhigh mfirst mend mthrown out outD x5 = some 1 → hS p l e room_1 s m args below meth c 8 D A CE SL Q 28 [(0, .ref (ad 19)), (1, .ref (ad 0)), (2, .ref (ad 10)), (3, .ref (ad 17)), (4, .ref (ad 18)), (5, .int x5)] [] (wL cT ad areas keys there order added size loads widths height ranks madded msides mkey misThere mboxes morder mlevels mnodes mentries mleft mlow mright mhigh mfirst mend mthrown out outD)) : ∀ (CE SL : Nat) (areas : Nat → Int32) (keys : Nat → Int32) (there : Nat → Int32) (order : Nat → Int32) (added : Int32) (size : Int32) (loads : Nat → Int32) (widths : Nat → Int32) (height : Int32) (ranks : Nat → Int32) (madded : Int32) (msides : Nat → Int32) (mkey : Nat → Int32) (misThere : Nat → Int32) (mboxes : Int32) (morder : Nat → Int32) (mlevels : Int32) (mnodes : Nat → Int32) (mentries : Nat → Int32) (mleft : Int32) (mlow : Int32) (mright : Int32) (mhigh : Int32) (mfirst : Int32) (mend : Int32) (mthrown : Int32) (out : Nat → Int64) (outD : Nat → UInt64) (x5 : Int32), lwB1 L x5 CE SL → f_L_law_783 n L xs k28 areas keys there order added size loads widths height ranks madded msides mkey misThere mboxes morder mlevels mnodes mentries mleft mlow mright mhigh mfirst mend mthrown out outD x5 = some 1 → hS p l e room_1 s m args below meth c 8 D A CE SL Q 783 [(0, .ref (ad 19)), (1, .ref (ad 0)), (2, .ref (ad 10)), (3, .ref (ad 17)), (4, .ref (ad 18)), (5, .int x5)] [] (wL cT ad areas keys there order added size loads widths height ranks madded msides mkey misThere mboxes morder mlevels mnodes mentries mleft mlow mright mhigh mfirst mend mthrown out outD) := by
  intro CE SL areas keys there order added size loads widths height ranks madded msides mkey misThere mboxes morder mlevels mnodes mentries mleft mlow mright mhigh mfirst mend mthrown out outD x5 hb hf
  have hE := lwB1_r hb
  unfold f_L_law_783 at hf
  refine h_aload_n (pc := 783) C dL_law_783 rfl 1 rfl ?_
  refine h_aload_n (pc := 784) C dL_law_784 rfl 0 rfl ?_
  refine h_iload (pc := 785) C dL_law_785 5 rfl ?_
  refine h_iconst (pc := 787) C dL_law_787 jc_1 ?_
  refine h_iadd (pc := 788) C dL_law_788 ?_
  obtain ⟨hi, v79, hv, hf⟩ := jrd_s hf
  refine h_sld (pc := 789) C X9 hi hv dL_law_789 ?_
  clear hi hv
  refine h_aload_n (pc := 790) C dL_law_790 rfl 3 rfl ?_
  obtain ⟨v80, hc, hf⟩ := jbd_s hf
  refine h_callSW (pc := 791) (As := [.ref (ad 0), .int v79, .ref (ad 17)]) (rest := []) (ws' := (wL cT ad areas keys there order added size loads widths height ranks madded msides mkey misThere mboxes morder mlevels mnodes mentries mleft mlow mright mhigh mfirst mend mthrown v80.2 outD)) (st2 := .int v80.1 :: []) C Z (c_L_boxAt hX0 D cT ad n areas keys there order added size loads widths height ranks v79 out v80.1 v80.2 hc) (vx_cwSW 3 C.1.2.2.2.2 gL_law_L_boxAt rfl rfl rfl ps_L_boxAt ⟨(Nat.le_of_ble_eq_true rfl), (Nat.le_of_ble_eq_true rfl)⟩) dL_law_791 rfl rfl (Nat.le_of_ble_eq_true rfl) hE [0, 1, 2, 3, 4, 5, 6, 7, 8, 9, 17] [10, 11, 12, 13, 14, 15, 16, 18] [8, 9, 10, 11, 12, 13, 14, 15, 16, 17, 0, 1, 2, 3, 4, 5, 6, 18, 7] rfl rfl rfl rfl (by decide) rfl rfl rfl ?_
  clear hc
  refine h_istore (pc := 794) (lv' := [(6, .int v80.1), (0, .ref (ad 19)), (1, .ref (ad 0)), (2, .ref (ad 10)), (3, .ref (ad 17)), (4, .ref (ad 18)), (5, .int x5)]) C dL_law_794 (by decide) rfl ?_
  refine h_aload_n (pc := 796) C dL_law_796 rfl 3 rfl ?_
  refine h_aload_n (pc := 797) C dL_law_797 rfl 1 rfl ?_
  refine h_iload (pc := 798) C dL_law_798 6 rfl ?_
  refine h_iconst (pc := 800) C dL_law_800 jc_1 ?_
  refine h_iadd (pc := 801) C dL_law_801 ?_
  obtain ⟨hi, v81, hv, hf⟩ := jrd_s hf
  refine h_sld (pc := 802) C X9 hi hv dL_law_802 ?_
  clear hi hv
  obtain ⟨v82, hc, hf⟩ := jbd_s hf
  refine h_callV (pc := 803) (q0 := 10) (As := [.int v81]) (rest := []) (ws' := (wL cT ad areas keys there order added size loads widths height ranks madded msides mkey misThere mboxes morder mlevels mnodes mentries mleft mlow mright mhigh mfirst mend v82.2 v80.2 outD)) (st2 := .int v82.1 :: []) C (c_X5_boxAt l D cT ad n madded msides mkey misThere mboxes morder mlevels mnodes mentries mleft mlow mright mhigh mfirst mend mthrown v81 v82.1 v82.2 hc) (cwV 1 C.1.2.2.2.2 gL_law_X5_boxAt rfl rfl rfl pv_X5_boxAt ⟨(Nat.le_of_ble_eq_true rfl), (Nat.le_of_ble_eq_true rfl)⟩) dL_law_803 rfl rfl rfl rfl rfl (Nat.le_of_ble_eq_true rfl) ⟨rfl, rfl⟩ hE [10, 11, 12, 13, 14, 15, 16] [0, 1, 2, 3, 4, 5, 6, 7, 8, 9, 17, 18] [0, 1, 2, 3, 4, 5, 6, 7, 8, 9, 12, 13, 14, 15, 16, 17, 18, 10, 11] rfl rfl rfl rfl (by decide) rfl rfl rfl ?_
  clear hc
  refine h_istore (pc := 806) (lv' := [(7, .int v82.1), (6, .int v80.1), (0, .ref (ad 19)), (1, .ref (ad 0)), (2, .ref (ad 10)), (3, .ref (ad 17)), (4, .ref (ad 18)), (5, .int x5)]) C dL_law_806 (by decide) rfl ?_
  refine h_aload_n (pc := 808) C dL_law_808 rfl 4 rfl ?_
  obtain ⟨v83, hc, hf⟩ := jbd_s hf
  refine h_callV (pc := 809) (q0 := 10) (As := []) (rest := []) (ws' := (wL cT ad areas keys there order added size loads widths height ranks madded msides mkey misThere mboxes morder mlevels mnodes mentries mleft mlow mright mhigh mfirst mend v82.2 v80.2 outD)) (st2 := .int v83 :: []) C (c_X5_thrown l D cT ad n madded msides mkey misThere mboxes morder mlevels mnodes mentries mleft mlow mright mhigh mfirst mend v82.2 v83 hc) (cwV 0 C.1.2.2.2.2 gL_law_X5_thrown rfl rfl rfl pv_X5_thrown ⟨(Nat.le_of_ble_eq_true rfl), (Nat.le_of_ble_eq_true rfl)⟩) dL_law_809 rfl rfl rfl rfl rfl (Nat.le_of_ble_eq_true rfl) ⟨rfl, rfl⟩ hE [10, 11, 12, 13, 14, 15, 16] [0, 1, 2, 3, 4, 5, 6, 7, 8, 9, 17, 18] [0, 1, 2, 3, 4, 5, 6, 7, 8, 9, 12, 13, 14, 15, 16, 17, 18, 10, 11] rfl rfl rfl rfl (by decide) rfl rfl rfl ?_
  clear hc
  refine h_iload (pc := 812) C dL_law_812 1 rfl ?_
  refine h_icmp_eq (pc := 814) (tgt := 819) C dL_law_814 (by decide) (fun q => ?_) (fun q => ?_)
  · replace hf := jif_t q hf
    refine h_iload (pc := 819) C dL_law_819 1 rfl ?_
    refine h_if_ne (pc := 821) (tgt := 836) C dL_law_821 (by decide) (fun q => ?_) (fun q => ?_)
    · replace hf := jif_f q hf
      refine h_goto (pc := 836) (tgt := 1422) C dL_law_836 (by decide) ?_
      refine h_sub [2, 3, 4, 5, 6, 7] rfl ?_
      exact k_L_law_1422 hX0 D cT ad C X9 Z hEnd n k28 K28 (CE + rmL_boxAt.cells) (SL + rmL_boxAt.slots) areas keys there order added size loads widths height ranks madded msides mkey misThere mboxes morder mlevels mnodes mentries mleft mlow mright mhigh mfirst mend v82.2 v80.2 outD x5 (lwB_more hb) hf
    · replace hf := jif_t q hf
      refine h_aload_n (pc := 824) C dL_law_824 rfl 5 rfl ?_
      refine h_iconst (pc := 825) C dL_law_825 jc_0 ?_
      obtain ⟨hi, v84, hv, hf⟩ := jrdA_s hf
      refine h_lald (pc := 826) C 17 2 rfl rfl hi hv dL_law_826 ?_
      clear hi hv
      refine h_iload (pc := 827) C dL_law_827 0 rfl ?_
      refine h_i2l (pc := 829) C dL_law_829 ?_
      refine h_lcmp (pc := 830) C dL_law_830 ?_
      refine h_if_eq (pc := 831) (tgt := 836) C dL_law_831 (by decide) (fun q => ?_) (fun q => ?_)
      · replace hf := jif_t q hf
        refine h_goto (pc := 836) (tgt := 1422) C dL_law_836 (by decide) ?_
        refine h_sub [2, 3, 4, 5, 6, 7] rfl ?_
        exact k_L_law_1422 hX0 D cT ad C X9 Z hEnd n k28 K28 (CE + rmL_boxAt.cells) (SL + rmL_boxAt.slots) areas keys there order added size loads widths height ranks madded msides mkey misThere mboxes morder mlevels mnodes mentries mleft mlow mright mhigh mfirst mend v82.2 v80.2 outD x5 (lwB_more hb) hf
      · replace hf := jif_f q hf
        refine h_iconst (pc := 834) C dL_law_834 jc_0 ?_
        exact absurd (Option.some.inj hf) (by decide)
  · replace hf := jif_f q hf
    refine h_iconst (pc := 817) C dL_law_817 jc_0 ?_
    exact absurd (Option.some.inj hf) (by decide)
set_option maxRecDepth 100000 in
set_option maxHeartbeats 4000000 in
theorem k_L_law_839 {p : Program} {e : Env} {s : State} {m : MethodId} {args : Array Value} {below : List Frame} {meth : Method} {c : Code} {A : Nat → Prop} {Q : State → Prop} {l : Launch} {L : Nat} {xs : Nat → Int32} (hX0 : l.stackTraces = false) (D : va_G) (cT : Nat → ClassId) (ad : Nat → Nat) (C : hC p s m args meth c code 8 wsL_law RL D (ty4 cT) A) (X9 : va_X (ad 19) L xs s s.heap ∧ ad 19 < s.heap.size ∧ ¬ A (ad 19)) (Z : xZ A s s.heap) (hEnd : ∀ (CE SL : Nat), CE ≤ 1055 → SL ≤ 10903 → ∀ (lv : List (Nat × Value)) (ws : va_W), hS p l e room_1 s m args below meth c 8 D A CE SL Q 1429 lv [.int 1] ws) (n : Nat) (k28 : (Nat → Int32) → (Nat → Int32) → (Nat → Int32) → (Nat → Int32) → Int32 → Int32 → (Nat → Int32) → (Nat → Int32) → Int32 → (Nat → Int32) → Int32 → (Nat → Int32) → (Nat → Int32) → (Nat → Int32) → Int32 → (Nat → Int32) → Int32 → (Nat → Int32) → (Nat → Int32) → Int32 → Int32 → Int32 → Int32 → Int32 → Int32 → Int32 → (Nat → Int64) → (Nat → UInt64) → Int32 → Option Int32) (K28 : ∀ (CE SL : Nat) (areas : Nat → Int32) (keys : Nat → Int32) (there : Nat → Int32) (order : Nat → Int32) (added : Int32) (size : Int32) (loads : Nat → Int32) (widths : Nat → Int32) (height : Int32) (ranks : Nat → Int32) (madded : Int32) (msides : Nat → Int32) (mkey : Nat → Int32) (misThere : Nat → Int32) (mboxes : Int32) (morder : Nat → Int32) (mlevels : Int32) (mnodes : Nat → Int32) (mentries : Nat → Int32) (mleft : Int32) (mlow : Int32) (mright : Int32) (mhigh : Int32) (mfirst : Int32) (mend : Int32) (mthrown : Int32) (out : Nat → Int64) (outD : Nat → UInt64) (x5 : Int32), lwB L x5 CE SL → k28 areas keys there order added size loads widths height ranks madded msides mkey misThere mboxes morder mlevels mnodes mentries mleft mlow mright mhigh mfirst mend mthrown out outD x5 = some 1 → hS p l e room_1 s m args below meth c 8 D A CE SL Q 28 [(0, .ref (ad 19)), (1, .ref (ad 0)), (2, .ref (ad 10)), (3, .ref (ad 17)), (4, .ref (ad 18)), (5, .int x5)] [] (wL cT ad areas keys there order added size loads widths height ranks madded msides mkey misThere mboxes morder mlevels mnodes mentries mleft mlow mright mhigh mfirst mend mthrown out outD)) : ∀ (CE SL : Nat) (areas : Nat → Int32) (keys : Nat → Int32) (there : Nat → Int32) (order : Nat → Int32) (added : Int32) (size : Int32) (loads : Nat → Int32) (widths : Nat → Int32) (height : Int32) (ranks : Nat → Int32) (madded : Int32) (msides : Nat → Int32) (mkey : Nat → Int32) (misThere : Nat → Int32) (mboxes : Int32) (morder : Nat → Int32) (mlevels : Int32) (mnodes : Nat → Int32) (mentries : Nat → Int32) (mleft : Int32) (mlow : Int32) (mright : Int32) (mhigh : Int32) (mfirst : Int32) (mend : Int32) (mthrown : Int32) (out : Nat → Int64) (outD : Nat → UInt64) (x5 : Int32), lwB1 L x5 CE SL → f_L_law_839 n L xs k28 areas keys there order added size loads widths height ranks madded msides mkey misThere mboxes morder mlevels mnodes mentries mleft mlow mright mhigh mfirst mend mthrown out outD x5 = some 1 → hS p l e room_1 s m args below meth c 8 D A CE SL Q 839 [(0, .ref (ad 19)), (1, .ref (ad 0)), (2, .ref (ad 10)), (3, .ref (ad 17)), (4, .ref (ad 18)), (5, .int x5)] [] (wL cT ad areas keys there order added size loads widths height ranks madded msides mkey misThere mboxes morder mlevels mnodes mentries mleft mlow mright mhigh mfirst mend mthrown out outD) := by
  intro CE SL areas keys there order added size loads widths height ranks madded msides mkey misThere mboxes morder mlevels mnodes mentries mleft mlow mright mhigh mfirst mend mthrown out outD x5 hb hf
  have hE := lwB1_r hb
  unfold f_L_law_839 at hf
  refine h_aload_n (pc := 839) C dL_law_839 rfl 1 rfl ?_
  refine h_aload (pc := 840) C dL_law_840 4 rfl ?_
  obtain ⟨v85, hc, hf⟩ := jbd_s hf
  refine h_callSW (pc := 842) (As := [.ref (ad 0), .ref (ad 18)]) (rest := []) (ws' := (wL cT ad areas keys there order added size loads widths height ranks madded msides mkey misThere mboxes morder mlevels mnodes mentries mleft mlow mright mhigh mfirst mend mthrown out v85.2)) (st2 := .int v85.1 :: []) C Z (c_L_tightness hX0 D cT ad n areas keys there order added size loads widths height ranks outD v85.1 v85.2 hc) (vx_cwSW 2 C.1.2.2.2.2 gL_law_L_tightness rfl rfl rfl ps_L_tightness ⟨(Nat.le_of_ble_eq_true rfl), (Nat.le_of_ble_eq_true rfl)⟩) dL_law_842 rfl rfl (Nat.le_of_ble_eq_true rfl) hE [0, 1, 2, 3, 4, 5, 6, 7, 8, 9, 18] [10, 11, 12, 13, 14, 15, 16, 17] [8, 9, 10, 11, 12, 13, 14, 15, 16, 17, 0, 1, 2, 3, 4, 5, 6, 7, 18] rfl rfl rfl rfl (by decide) rfl rfl rfl ?_
  clear hc
  refine h_istore (pc := 845) (lv' := [(6, .int v85.1), (0, .ref (ad 19)), (1, .ref (ad 0)), (2, .ref (ad 10)), (3, .ref (ad 17)), (4, .ref (ad 18)), (5, .int x5)]) C dL_law_845 (by decide) rfl ?_
  refine h_aload_n (pc := 847) C dL_law_847 rfl 3 rfl ?_
  obtain ⟨v86, hc, hf⟩ := jbd_s hf
  refine h_callV (pc := 848) (q0 := 10) (As := []) (rest := []) (ws' := (wL cT ad areas keys there order added size loads widths height ranks madded msides mkey misThere mboxes morder mlevels mnodes mentries v86.2.1 v86.2.2.1 v86.2.2.2.1 v86.2.2.2.2.1 v86.2.2.2.2.2.1 v86.2.2.2.2.2.2.1 v86.2.2.2.2.2.2.2 out v85.2)) (st2 := .float v86.1 :: []) C (c_X5_tightness l D cT ad n madded msides mkey misThere mboxes morder mlevels mnodes mentries mleft mlow mright mhigh mfirst mend mthrown v86.1 v86.2.1 v86.2.2.1 v86.2.2.2.1 v86.2.2.2.2.1 v86.2.2.2.2.2.1 v86.2.2.2.2.2.2.1 v86.2.2.2.2.2.2.2 hc) (cwV 0 C.1.2.2.2.2 gL_law_X5_tightness rfl rfl rfl pv_X5_tightness ⟨(Nat.le_of_ble_eq_true rfl), (Nat.le_of_ble_eq_true rfl)⟩) dL_law_848 rfl rfl rfl rfl rfl (Nat.le_of_ble_eq_true rfl) ⟨rfl, rfl⟩ hE [10, 11, 12, 13, 14, 15, 16] [0, 1, 2, 3, 4, 5, 6, 7, 8, 9, 17, 18] [0, 1, 2, 3, 4, 5, 6, 7, 8, 9, 12, 13, 14, 15, 16, 17, 18, 10, 11] rfl rfl rfl rfl (by decide) rfl rfl rfl ?_
  clear hc
  refine h_fstore (pc := 851) (lv' := [(7, .float v86.1), (6, .int v85.1), (0, .ref (ad 19)), (1, .ref (ad 0)), (2, .ref (ad 10)), (3, .ref (ad 17)), (4, .ref (ad 18)), (5, .int x5)]) C dL_law_851 (by decide) rfl ?_
  refine h_aload_n (pc := 853) C dL_law_853 rfl 4 rfl ?_
  obtain ⟨v87, hc, hf⟩ := jbd_s hf
  refine h_callV (pc := 854) (q0 := 10) (As := []) (rest := []) (ws' := (wL cT ad areas keys there order added size loads widths height ranks madded msides mkey misThere mboxes morder mlevels mnodes mentries v86.2.1 v86.2.2.1 v86.2.2.2.1 v86.2.2.2.2.1 v86.2.2.2.2.2.1 v86.2.2.2.2.2.2.1 v86.2.2.2.2.2.2.2 out v85.2)) (st2 := .int v87 :: []) C (c_X5_thrown l D cT ad n madded msides mkey misThere mboxes morder mlevels mnodes mentries v86.2.1 v86.2.2.1 v86.2.2.2.1 v86.2.2.2.2.1 v86.2.2.2.2.2.1 v86.2.2.2.2.2.2.1 v86.2.2.2.2.2.2.2 v87 hc) (cwV 0 C.1.2.2.2.2 gL_law_X5_thrown rfl rfl rfl pv_X5_thrown ⟨(Nat.le_of_ble_eq_true rfl), (Nat.le_of_ble_eq_true rfl)⟩) dL_law_854 rfl rfl rfl rfl rfl (Nat.le_of_ble_eq_true rfl) ⟨rfl, rfl⟩ hE [10, 11, 12, 13, 14, 15, 16] [0, 1, 2, 3, 4, 5, 6, 7, 8, 9, 17, 18] [0, 1, 2, 3, 4, 5, 6, 7, 8, 9, 12, 13, 14, 15, 16, 17, 18, 10, 11] rfl rfl rfl rfl (by decide) rfl rfl rfl ?_
  clear hc
  refine h_iload (pc := 857) C dL_law_857 1 rfl ?_
  refine h_icmp_eq (pc := 859) (tgt := 864) C dL_law_859 (by decide) (fun q => ?_) (fun q => ?_)
  · replace hf := jif_t q hf
    refine h_iload (pc := 864) C dL_law_864 1 rfl ?_
    refine h_if_ne (pc := 866) (tgt := 902) C dL_law_866 (by decide) (fun q => ?_) (fun q => ?_)
    · replace hf := jif_f q hf
      refine h_goto (pc := 902) (tgt := 1422) C dL_law_902 (by decide) ?_
      refine h_sub [2, 3, 4, 5, 6, 7] rfl ?_
      exact k_L_law_1422 hX0 D cT ad C X9 Z hEnd n k28 K28 (CE + rmL_tightness.cells) (SL + rmL_tightness.slots) areas keys there order added size loads widths height ranks madded msides mkey misThere mboxes morder mlevels mnodes mentries v86.2.1 v86.2.2.1 v86.2.2.2.1 v86.2.2.2.2.1 v86.2.2.2.2.2.1 v86.2.2.2.2.2.2.1 v86.2.2.2.2.2.2.2 out v85.2 x5 (lwB_more hb) hf
    · replace hf := jif_t q hf
      refine h_aload (pc := 869) C dL_law_869 6 rfl ?_
      refine h_iconst (pc := 871) C dL_law_871 jc_0 ?_
      obtain ⟨hi, v88, hv, hf⟩ := jrdA_s hf
      refine h_dald (pc := 872) C 18 3 rfl rfl hi hv dL_law_872 ?_
      clear hi hv
      refine h_fload (pc := 873) C dL_law_873 0 rfl ?_
      obtain ⟨hi, hf⟩ := jf2d_s hf
      refine h_f2d (pc := 875) C hi dL_law_875 ?_
      clear hi
      refine h_dcmp (pc := 876) C dL_law_876 ?_
      refine h_if_eq (pc := 877) (tgt := 902) C dL_law_877 (by decide) (fun q => ?_) (fun q => ?_)
      · replace hf := jif_t q hf
        refine h_goto (pc := 902) (tgt := 1422) C dL_law_902 (by decide) ?_
        refine h_sub [2, 3, 4, 5, 6, 7] rfl ?_
        exact k_L_law_1422 hX0 D cT ad C X9 Z hEnd n k28 K28 (CE + rmL_tightness.cells) (SL + rmL_tightness.slots) areas keys there order added size loads widths height ranks madded msides mkey misThere mboxes morder mlevels mnodes mentries v86.2.1 v86.2.2.1 v86.2.2.2.1 v86.2.2.2.2.1 v86.2.2.2.2.2.1 v86.2.2.2.2.2.2.1 v86.2.2.2.2.2.2.2 out v85.2 x5 (lwB_more hb) hf
      · replace hf := jif_f q hf
        refine h_aload (pc := 880) C dL_law_880 6 rfl ?_
        refine h_iconst (pc := 882) C dL_law_882 jc_0 ?_
        obtain ⟨hi, v90, hv, hf⟩ := jrdA_s hf
        refine h_dald (pc := 883) C 18 3 rfl rfl hi hv dL_law_883 ?_
        clear hi hv
        refine h_aload (pc := 884) C dL_law_884 6 rfl ?_
        refine h_iconst (pc := 886) C dL_law_886 jc_0 ?_
        obtain ⟨hi, v91, hv, hf⟩ := jrdA_s hf
        refine h_dald (pc := 887) C 18 3 rfl rfl hi hv dL_law_887 ?_
        clear hi hv
        refine h_dcmp (pc := 888) C dL_law_888 ?_
        refine h_if_eq (pc := 889) (tgt := 900) C dL_law_889 (by decide) (fun q => ?_) (fun q => ?_)
        · replace hf := jif_t q hf
          refine h_iconst (pc := 900) C dL_law_900 jc_0 ?_
          exact absurd (Option.some.inj hf) (by decide)
        · replace hf := jif_f q hf
          refine h_fload (pc := 892) C dL_law_892 0 rfl ?_
          refine h_fload (pc := 894) C dL_law_894 0 rfl ?_
          refine h_fcmp (pc := 896) C dL_law_896 ?_
          refine h_if_ne (pc := 897) (tgt := 902) C dL_law_897 (by decide) (fun q => ?_) (fun q => ?_)
          · replace hf := jif_f q hf
            refine h_goto (pc := 902) (tgt := 1422) C dL_law_902 (by decide) ?_
            refine h_sub [2, 3, 4, 5, 6, 7] rfl ?_
            exact k_L_law_1422 hX0 D cT ad C X9 Z hEnd n k28 K28 (CE + rmL_tightness.cells) (SL + rmL_tightness.slots) areas keys there order added size loads widths height ranks madded msides mkey misThere mboxes morder mlevels mnodes mentries v86.2.1 v86.2.2.1 v86.2.2.2.1 v86.2.2.2.2.1 v86.2.2.2.2.2.1 v86.2.2.2.2.2.2.1 v86.2.2.2.2.2.2.2 out v85.2 x5 (lwB_more hb) hf
          · replace hf := jif_t q hf
            refine h_iconst (pc := 900) C dL_law_900 jc_0 ?_
            exact absurd (Option.some.inj hf) (by decide)
  · replace hf := jif_f q hf
    refine h_iconst (pc := 862) C dL_law_862 jc_0 ?_
    exact absurd (Option.some.inj hf) (by decide)
set_option maxRecDepth 100000 in
set_option maxHeartbeats 4000000 in
theorem k_L_law_905 {p : Program} {e : Env} {s : State} {m : MethodId} {args : Array Value} {below : List Frame} {meth : Method} {c : Code} {A : Nat → Prop} {Q : State → Prop} {l : Launch} {L : Nat} {xs : Nat → Int32} (hX0 : l.stackTraces = false) (D : va_G) (cT : Nat → ClassId) (ad : Nat → Nat) (C : hC p s m args meth c code 8 wsL_law RL D (ty4 cT) A) (X9 : va_X (ad 19) L xs s s.heap ∧ ad 19 < s.heap.size ∧ ¬ A (ad 19)) (Z : xZ A s s.heap) (hEnd : ∀ (CE SL : Nat), CE ≤ 1055 → SL ≤ 10903 → ∀ (lv : List (Nat × Value)) (ws : va_W), hS p l e room_1 s m args below meth c 8 D A CE SL Q 1429 lv [.int 1] ws) (n : Nat) (k28 : (Nat → Int32) → (Nat → Int32) → (Nat → Int32) → (Nat → Int32) → Int32 → Int32 → (Nat → Int32) → (Nat → Int32) → Int32 → (Nat → Int32) → Int32 → (Nat → Int32) → (Nat → Int32) → (Nat → Int32) → Int32 → (Nat → Int32) → Int32 → (Nat → Int32) → (Nat → Int32) → Int32 → Int32 → Int32 → Int32 → Int32 → Int32 → Int32 → (Nat → Int64) → (Nat → UInt64) → Int32 → Option Int32) (K28 : ∀ (CE SL : Nat) (areas : Nat → Int32) (keys : Nat → Int32) (there : Nat → Int32) (order : Nat → Int32) (added : Int32) (size : Int32) (loads : Nat → Int32) (widths : Nat → Int32) (height : Int32) (ranks : Nat → Int32) (madded : Int32) (msides : Nat → Int32) (mkey : Nat → Int32) (misThere : Nat → Int32) (mboxes : Int32) (morder : Nat → Int32) (mlevels : Int32) (mnodes : Nat → Int32) (mentries : Nat → Int32) (mleft : Int32) (mlow : Int32) (mright : Int32) (mhigh : Int32) (mfirst : Int32) (mend : Int32) (mthrown : Int32) (out : Nat → Int64) (outD : Nat → UInt64) (x5 : Int32), lwB L x5 CE SL → k28 areas keys there order added size loads widths height ranks madded msides mkey misThere mboxes morder mlevels mnodes mentries mleft mlow mright mhigh mfirst mend mthrown out outD x5 = some 1 → hS p l e room_1 s m args below meth c 8 D A CE SL Q 28 [(0, .ref (ad 19)), (1, .ref (ad 0)), (2, .ref (ad 10)), (3, .ref (ad 17)), (4, .ref (ad 18)), (5, .int x5)] [] (wL cT ad areas keys there order added size loads widths height ranks madded msides mkey misThere mboxes morder mlevels mnodes mentries mleft mlow mright mhigh mfirst mend mthrown out outD)) : ∀ (CE SL : Nat) (areas : Nat → Int32) (keys : Nat → Int32) (there : Nat → Int32) (order : Nat → Int32) (added : Int32) (size : Int32) (loads : Nat → Int32) (widths : Nat → Int32) (height : Int32) (ranks : Nat → Int32) (madded : Int32) (msides : Nat → Int32) (mkey : Nat → Int32) (misThere : Nat → Int32) (mboxes : Int32) (morder : Nat → Int32) (mlevels : Int32) (mnodes : Nat → Int32) (mentries : Nat → Int32) (mleft : Int32) (mlow : Int32) (mright : Int32) (mhigh : Int32) (mfirst : Int32) (mend : Int32) (mthrown : Int32) (out : Nat → Int64) (outD : Nat → UInt64) (x5 : Int32), lwB1 L x5 CE SL → f_L_law_905 n L xs k28 areas keys there order added size loads widths height ranks madded msides mkey misThere mboxes morder mlevels mnodes mentries mleft mlow mright mhigh mfirst mend mthrown out outD x5 = some 1 → hS p l e room_1 s m args below meth c 8 D A CE SL Q 905 [(0, .ref (ad 19)), (1, .ref (ad 0)), (2, .ref (ad 10)), (3, .ref (ad 17)), (4, .ref (ad 18)), (5, .int x5)] [] (wL cT ad areas keys there order added size loads widths height ranks madded msides mkey misThere mboxes morder mlevels mnodes mentries mleft mlow mright mhigh mfirst mend mthrown out outD) := by
  intro CE SL areas keys there order added size loads widths height ranks madded msides mkey misThere mboxes morder mlevels mnodes mentries mleft mlow mright mhigh mfirst mend mthrown out outD x5 hb hf
  have hE := lwB1_r hb
  unfold f_L_law_905 at hf
  refine h_aload_n (pc := 905) C dL_law_905 rfl 1 rfl ?_
  refine h_aload_n (pc := 906) C dL_law_906 rfl 0 rfl ?_
  refine h_iload (pc := 907) C dL_law_907 5 rfl ?_
  refine h_iconst (pc := 909) C dL_law_909 jc_1 ?_
  refine h_iadd (pc := 910) C dL_law_910 ?_
  obtain ⟨hi, v92, hv, hf⟩ := jrd_s hf
  refine h_sld (pc := 911) C X9 hi hv dL_law_911 ?_
  clear hi hv
  refine h_aload_n (pc := 912) C dL_law_912 rfl 0 rfl ?_
  refine h_iload (pc := 913) C dL_law_913 5 rfl ?_
  refine h_iconst (pc := 915) C dL_law_915 jc_2 ?_
  refine h_iadd (pc := 916) C dL_law_916 ?_
  obtain ⟨hi, v93, hv, hf⟩ := jrd_s hf
  refine h_sld (pc := 917) C X9 hi hv dL_law_917 ?_
  clear hi hv
  refine h_aload_n (pc := 918) C dL_law_918 rfl 0 rfl ?_
  refine h_iload (pc := 919) C dL_law_919 5 rfl ?_
  refine h_iconst (pc := 921) C dL_law_921 jc_3 ?_
  refine h_iadd (pc := 922) C dL_law_922 ?_
  obtain ⟨hi, v94, hv, hf⟩ := jrd_s hf
  refine h_sld (pc := 923) C X9 hi hv dL_law_923 ?_
  clear hi hv
  refine h_aload_n (pc := 924) C dL_law_924 rfl 0 rfl ?_
  refine h_iload (pc := 925) C dL_law_925 5 rfl ?_
  refine h_iconst (pc := 927) C dL_law_927 jc_4 ?_
  refine h_iadd (pc := 928) C dL_law_928 ?_
  obtain ⟨hi, v95, hv, hf⟩ := jrd_s hf
  refine h_sld (pc := 929) C X9 hi hv dL_law_929 ?_
  clear hi hv
  refine h_aload_n (pc := 930) C dL_law_930 rfl 3 rfl ?_
  obtain ⟨v96, hc, hf⟩ := jbd_s hf
  refine h_callSW (pc := 931) (As := [.ref (ad 0), .int v92, .int v93, .int v94, .int v95, .ref (ad 17)]) (rest := []) (ws' := (wL cT ad areas keys there order added size loads widths height ranks madded msides mkey misThere mboxes morder mlevels mnodes mentries mleft mlow mright mhigh mfirst mend mthrown v96.2 outD)) (st2 := .int v96.1 :: []) C Z (c_L_count hX0 D cT ad n areas keys there order added size loads widths height ranks v92 v93 v94 v95 out v96.1 v96.2 hc) (vx_cwSW 6 C.1.2.2.2.2 gL_law_L_count rfl rfl rfl ps_L_count ⟨(Nat.le_of_ble_eq_true rfl), (Nat.le_of_ble_eq_true rfl)⟩) dL_law_931 rfl rfl (Nat.le_of_ble_eq_true rfl) hE [0, 1, 2, 3, 4, 5, 6, 7, 8, 9, 17] [10, 11, 12, 13, 14, 15, 16, 18] [8, 9, 10, 11, 12, 13, 14, 15, 16, 17, 0, 1, 2, 3, 4, 5, 6, 18, 7] rfl rfl rfl rfl (by decide) rfl rfl rfl ?_
  clear hc
  refine h_istore (pc := 934) (lv' := [(6, .int v96.1), (0, .ref (ad 19)), (1, .ref (ad 0)), (2, .ref (ad 10)), (3, .ref (ad 17)), (4, .ref (ad 18)), (5, .int x5)]) C dL_law_934 (by decide) rfl ?_
  refine h_aload_n (pc := 936) C dL_law_936 rfl 3 rfl ?_
  refine h_aload_n (pc := 937) C dL_law_937 rfl 1 rfl ?_
  refine h_iload (pc := 938) C dL_law_938 6 rfl ?_
  refine h_iconst (pc := 940) C dL_law_940 jc_1 ?_
  refine h_iadd (pc := 941) C dL_law_941 ?_
  obtain ⟨hi, v97, hv, hf⟩ := jrd_s hf
  refine h_sld (pc := 942) C X9 hi hv dL_law_942 ?_
  clear hi hv
  refine h_aload_n (pc := 943) C dL_law_943 rfl 1 rfl ?_
  refine h_iload (pc := 944) C dL_law_944 6 rfl ?_
  refine h_iconst (pc := 946) C dL_law_946 jc_2 ?_
  refine h_iadd (pc := 947) C dL_law_947 ?_
  obtain ⟨hi, v98, hv, hf⟩ := jrd_s hf
  refine h_sld (pc := 948) C X9 hi hv dL_law_948 ?_
  clear hi hv
  refine h_aload_n (pc := 949) C dL_law_949 rfl 1 rfl ?_
  refine h_iload (pc := 950) C dL_law_950 6 rfl ?_
  refine h_iconst (pc := 952) C dL_law_952 jc_3 ?_
  refine h_iadd (pc := 953) C dL_law_953 ?_
  obtain ⟨hi, v99, hv, hf⟩ := jrd_s hf
  refine h_sld (pc := 954) C X9 hi hv dL_law_954 ?_
  clear hi hv
  refine h_aload_n (pc := 955) C dL_law_955 rfl 1 rfl ?_
  refine h_iload (pc := 956) C dL_law_956 6 rfl ?_
  refine h_iconst (pc := 958) C dL_law_958 jc_4 ?_
  refine h_iadd (pc := 959) C dL_law_959 ?_
  obtain ⟨hi, v100, hv, hf⟩ := jrd_s hf
  refine h_sld (pc := 960) C X9 hi hv dL_law_960 ?_
  clear hi hv
  obtain ⟨v101, hc, hf⟩ := jbd_s hf
  refine h_callV (pc := 961) (q0 := 10) (As := [.int v97, .int v98, .int v99, .int v100]) (rest := []) (ws' := (wL cT ad areas keys there order added size loads widths height ranks madded msides mkey misThere mboxes morder mlevels mnodes mentries mleft mlow mright mhigh mfirst mend v101.2 v96.2 outD)) (st2 := .int v101.1 :: []) C (c_X5_count l D cT ad n madded msides mkey misThere mboxes morder mlevels mnodes mentries mleft mlow mright mhigh mfirst mend mthrown v97 v98 v99 v100 v101.1 v101.2 hc) (cwV 4 C.1.2.2.2.2 gL_law_X5_count rfl rfl rfl pv_X5_count ⟨(Nat.le_of_ble_eq_true rfl), (Nat.le_of_ble_eq_true rfl)⟩) dL_law_961 rfl rfl rfl rfl rfl (Nat.le_of_ble_eq_true rfl) ⟨rfl, rfl⟩ hE [10, 11, 12, 13, 14, 15, 16] [0, 1, 2, 3, 4, 5, 6, 7, 8, 9, 17, 18] [0, 1, 2, 3, 4, 5, 6, 7, 8, 9, 12, 13, 14, 15, 16, 17, 18, 10, 11] rfl rfl rfl rfl (by decide) rfl rfl rfl ?_
  clear hc
  refine h_istore (pc := 964) (lv' := [(7, .int v101.1), (6, .int v96.1), (0, .ref (ad 19)), (1, .ref (ad 0)), (2, .ref (ad 10)), (3, .ref (ad 17)), (4, .ref (ad 18)), (5, .int x5)]) C dL_law_964 (by decide) rfl ?_
  refine h_aload_n (pc := 966) C dL_law_966 rfl 4 rfl ?_
  obtain ⟨v102, hc, hf⟩ := jbd_s hf
  refine h_callV (pc := 967) (q0 := 10) (As := []) (rest := []) (ws' := (wL cT ad areas keys there order added size loads widths height ranks madded msides mkey misThere mboxes morder mlevels mnodes mentries mleft mlow mright mhigh mfirst mend v101.2 v96.2 outD)) (st2 := .int v102 :: []) C (c_X5_thrown l D cT ad n madded msides mkey misThere mboxes morder mlevels mnodes mentries mleft mlow mright mhigh mfirst mend v101.2 v102 hc) (cwV 0 C.1.2.2.2.2 gL_law_X5_thrown rfl rfl rfl pv_X5_thrown ⟨(Nat.le_of_ble_eq_true rfl), (Nat.le_of_ble_eq_true rfl)⟩) dL_law_967 rfl rfl rfl rfl rfl (Nat.le_of_ble_eq_true rfl) ⟨rfl, rfl⟩ hE [10, 11, 12, 13, 14, 15, 16] [0, 1, 2, 3, 4, 5, 6, 7, 8, 9, 17, 18] [0, 1, 2, 3, 4, 5, 6, 7, 8, 9, 12, 13, 14, 15, 16, 17, 18, 10, 11] rfl rfl rfl rfl (by decide) rfl rfl rfl ?_
  clear hc
  refine h_iload (pc := 970) C dL_law_970 1 rfl ?_
  refine h_icmp_eq (pc := 972) (tgt := 977) C dL_law_972 (by decide) (fun q => ?_) (fun q => ?_)
  · replace hf := jif_t q hf
    refine h_iload (pc := 977) C dL_law_977 1 rfl ?_
    refine h_if_ne (pc := 979) (tgt := 994) C dL_law_979 (by decide) (fun q => ?_) (fun q => ?_)
    · replace hf := jif_f q hf
      refine h_goto (pc := 994) (tgt := 1422) C dL_law_994 (by decide) ?_
      refine h_sub [2, 3, 4, 5, 6, 7] rfl ?_
      exact k_L_law_1422 hX0 D cT ad C X9 Z hEnd n k28 K28 (CE + rmL_count.cells) (SL + rmL_count.slots) areas keys there order added size loads widths height ranks madded msides mkey misThere mboxes morder mlevels mnodes mentries mleft mlow mright mhigh mfirst mend v101.2 v96.2 outD x5 (lwB_more hb) hf
    · replace hf := jif_t q hf
      refine h_aload_n (pc := 982) C dL_law_982 rfl 5 rfl ?_
      refine h_iconst (pc := 983) C dL_law_983 jc_0 ?_
      obtain ⟨hi, v103, hv, hf⟩ := jrdA_s hf
      refine h_lald (pc := 984) C 17 2 rfl rfl hi hv dL_law_984 ?_
      clear hi hv
      refine h_iload (pc := 985) C dL_law_985 0 rfl ?_
      refine h_i2l (pc := 987) C dL_law_987 ?_
      refine h_lcmp (pc := 988) C dL_law_988 ?_
      refine h_if_eq (pc := 989) (tgt := 994) C dL_law_989 (by decide) (fun q => ?_) (fun q => ?_)
      · replace hf := jif_t q hf
        refine h_goto (pc := 994) (tgt := 1422) C dL_law_994 (by decide) ?_
        refine h_sub [2, 3, 4, 5, 6, 7] rfl ?_
        exact k_L_law_1422 hX0 D cT ad C X9 Z hEnd n k28 K28 (CE + rmL_count.cells) (SL + rmL_count.slots) areas keys there order added size loads widths height ranks madded msides mkey misThere mboxes morder mlevels mnodes mentries mleft mlow mright mhigh mfirst mend v101.2 v96.2 outD x5 (lwB_more hb) hf
      · replace hf := jif_f q hf
        refine h_iconst (pc := 992) C dL_law_992 jc_0 ?_
        exact absurd (Option.some.inj hf) (by decide)
  · replace hf := jif_f q hf
    refine h_iconst (pc := 975) C dL_law_975 jc_0 ?_
    exact absurd (Option.some.inj hf) (by decide)
set_option maxRecDepth 100000 in
set_option maxHeartbeats 4000000 in
theorem k_L_law_997 {p : Program} {e : Env} {s : State} {m : MethodId} {args : Array Value} {below : List Frame} {meth : Method} {c : Code} {A : Nat → Prop} {Q : State → Prop} {l : Launch} {L : Nat} {xs : Nat → Int32} (hX0 : l.stackTraces = false) (D : va_G) (cT : Nat → ClassId) (ad : Nat → Nat) (C : hC p s m args meth c code 8 wsL_law RL D (ty4 cT) A) (X9 : va_X (ad 19) L xs s s.heap ∧ ad 19 < s.heap.size ∧ ¬ A (ad 19)) (Z : xZ A s s.heap) (hEnd : ∀ (CE SL : Nat), CE ≤ 1055 → SL ≤ 10903 → ∀ (lv : List (Nat × Value)) (ws : va_W), hS p l e room_1 s m args below meth c 8 D A CE SL Q 1429 lv [.int 1] ws) (n : Nat) (k28 : (Nat → Int32) → (Nat → Int32) → (Nat → Int32) → (Nat → Int32) → Int32 → Int32 → (Nat → Int32) → (Nat → Int32) → Int32 → (Nat → Int32) → Int32 → (Nat → Int32) → (Nat → Int32) → (Nat → Int32) → Int32 → (Nat → Int32) → Int32 → (Nat → Int32) → (Nat → Int32) → Int32 → Int32 → Int32 → Int32 → Int32 → Int32 → Int32 → (Nat → Int64) → (Nat → UInt64) → Int32 → Option Int32) (K28 : ∀ (CE SL : Nat) (areas : Nat → Int32) (keys : Nat → Int32) (there : Nat → Int32) (order : Nat → Int32) (added : Int32) (size : Int32) (loads : Nat → Int32) (widths : Nat → Int32) (height : Int32) (ranks : Nat → Int32) (madded : Int32) (msides : Nat → Int32) (mkey : Nat → Int32) (misThere : Nat → Int32) (mboxes : Int32) (morder : Nat → Int32) (mlevels : Int32) (mnodes : Nat → Int32) (mentries : Nat → Int32) (mleft : Int32) (mlow : Int32) (mright : Int32) (mhigh : Int32) (mfirst : Int32) (mend : Int32) (mthrown : Int32) (out : Nat → Int64) (outD : Nat → UInt64) (x5 : Int32), lwB L x5 CE SL → k28 areas keys there order added size loads widths height ranks madded msides mkey misThere mboxes morder mlevels mnodes mentries mleft mlow mright mhigh mfirst mend mthrown out outD x5 = some 1 → hS p l e room_1 s m args below meth c 8 D A CE SL Q 28 [(0, .ref (ad 19)), (1, .ref (ad 0)), (2, .ref (ad 10)), (3, .ref (ad 17)), (4, .ref (ad 18)), (5, .int x5)] [] (wL cT ad areas keys there order added size loads widths height ranks madded msides mkey misThere mboxes morder mlevels mnodes mentries mleft mlow mright mhigh mfirst mend mthrown out outD)) : ∀ (CE SL : Nat) (areas : Nat → Int32) (keys : Nat → Int32) (there : Nat → Int32) (order : Nat → Int32) (added : Int32) (size : Int32) (loads : Nat → Int32) (widths : Nat → Int32) (height : Int32) (ranks : Nat → Int32) (madded : Int32) (msides : Nat → Int32) (mkey : Nat → Int32) (misThere : Nat → Int32) (mboxes : Int32) (morder : Nat → Int32) (mlevels : Int32) (mnodes : Nat → Int32) (mentries : Nat → Int32) (mleft : Int32) (mlow : Int32) (mright : Int32) (mhigh : Int32) (mfirst : Int32) (mend : Int32) (mthrown : Int32) (out : Nat → Int64) (outD : Nat → UInt64) (x5 : Int32), lwB1 L x5 CE SL → f_L_law_997 n L xs k28 areas keys there order added size loads widths height ranks madded msides mkey misThere mboxes morder mlevels mnodes mentries mleft mlow mright mhigh mfirst mend mthrown out outD x5 = some 1 → hS p l e room_1 s m args below meth c 8 D A CE SL Q 997 [(0, .ref (ad 19)), (1, .ref (ad 0)), (2, .ref (ad 10)), (3, .ref (ad 17)), (4, .ref (ad 18)), (5, .int x5)] [] (wL cT ad areas keys there order added size loads widths height ranks madded msides mkey misThere mboxes morder mlevels mnodes mentries mleft mlow mright mhigh mfirst mend mthrown out outD) := by
  intro CE SL areas keys there order added size loads widths height ranks madded msides mkey misThere mboxes morder mlevels mnodes mentries mleft mlow mright mhigh mfirst mend mthrown out outD x5 hb hf
  have hE := lwB1_r hb
  unfold f_L_law_997 at hf
  refine h_aload_n (pc := 997) C dL_law_997 rfl 1 rfl ?_
  refine h_aload_n (pc := 998) C dL_law_998 rfl 0 rfl ?_
  refine h_iload (pc := 999) C dL_law_999 5 rfl ?_
  refine h_iconst (pc := 1001) C dL_law_1001 jc_1 ?_
  refine h_iadd (pc := 1002) C dL_law_1002 ?_
  obtain ⟨hi, v104, hv, hf⟩ := jrd_s hf
  refine h_sld (pc := 1003) C X9 hi hv dL_law_1003 ?_
  clear hi hv
  refine h_aload_n (pc := 1004) C dL_law_1004 rfl 0 rfl ?_
  refine h_iload (pc := 1005) C dL_law_1005 5 rfl ?_
  refine h_iconst (pc := 1007) C dL_law_1007 jc_2 ?_
  refine h_iadd (pc := 1008) C dL_law_1008 ?_
  obtain ⟨hi, v105, hv, hf⟩ := jrd_s hf
  refine h_sld (pc := 1009) C X9 hi hv dL_law_1009 ?_
  clear hi hv
  refine h_aload_n (pc := 1010) C dL_law_1010 rfl 0 rfl ?_
  refine h_iload (pc := 1011) C dL_law_1011 5 rfl ?_
  refine h_iconst (pc := 1013) C dL_law_1013 jc_3 ?_
  refine h_iadd (pc := 1014) C dL_law_1014 ?_
  obtain ⟨hi, v106, hv, hf⟩ := jrd_s hf
  refine h_sld (pc := 1015) C X9 hi hv dL_law_1015 ?_
  clear hi hv
  refine h_aload_n (pc := 1016) C dL_law_1016 rfl 0 rfl ?_
  refine h_iload (pc := 1017) C dL_law_1017 5 rfl ?_
  refine h_iconst (pc := 1019) C dL_law_1019 jc_4 ?_
  refine h_iadd (pc := 1020) C dL_law_1020 ?_
  obtain ⟨hi, v107, hv, hf⟩ := jrd_s hf
  refine h_sld (pc := 1021) C X9 hi hv dL_law_1021 ?_
  clear hi hv
  refine h_aload_n (pc := 1022) C dL_law_1022 rfl 0 rfl ?_
  refine h_iload (pc := 1023) C dL_law_1023 5 rfl ?_
  refine h_iconst (pc := 1025) C dL_law_1025 jc_5 ?_
  refine h_iadd (pc := 1026) C dL_law_1026 ?_
  obtain ⟨hi, v108, hv, hf⟩ := jrd_s hf
  refine h_sld (pc := 1027) C X9 hi hv dL_law_1027 ?_
  clear hi hv
  refine h_aload_n (pc := 1028) C dL_law_1028 rfl 3 rfl ?_
  obtain ⟨v109, hc, hf⟩ := jbd_s hf
  refine h_callSW (pc := 1029) (As := [.ref (ad 0), .int v104, .int v105, .int v106, .int v107, .int v108, .ref (ad 17)]) (rest := []) (ws' := (wL cT ad areas keys there order added size loads widths height ranks madded msides mkey misThere mboxes morder mlevels mnodes mentries mleft mlow mright mhigh mfirst mend mthrown v109.2 outD)) (st2 := .int v109.1 :: []) C Z (c_L_found hX0 D cT ad n areas keys there order added size loads widths height ranks v104 v105 v106 v107 v108 out v109.1 v109.2 hc) (vx_cwSW 7 C.1.2.2.2.2 gL_law_L_found rfl rfl rfl ps_L_found ⟨(Nat.le_of_ble_eq_true rfl), (Nat.le_of_ble_eq_true rfl)⟩) dL_law_1029 rfl rfl (Nat.le_of_ble_eq_true rfl) hE [0, 1, 2, 3, 4, 5, 6, 7, 8, 9, 17] [10, 11, 12, 13, 14, 15, 16, 18] [8, 9, 10, 11, 12, 13, 14, 15, 16, 17, 0, 1, 2, 3, 4, 5, 6, 18, 7] rfl rfl rfl rfl (by decide) rfl rfl rfl ?_
  clear hc
  refine h_istore (pc := 1032) (lv' := [(6, .int v109.1), (0, .ref (ad 19)), (1, .ref (ad 0)), (2, .ref (ad 10)), (3, .ref (ad 17)), (4, .ref (ad 18)), (5, .int x5)]) C dL_law_1032 (by decide) rfl ?_
  refine h_aload_n (pc := 1034) C dL_law_1034 rfl 3 rfl ?_
  refine h_aload_n (pc := 1035) C dL_law_1035 rfl 1 rfl ?_
  refine h_iload (pc := 1036) C dL_law_1036 6 rfl ?_
  refine h_iconst (pc := 1038) C dL_law_1038 jc_1 ?_
  refine h_iadd (pc := 1039) C dL_law_1039 ?_
  obtain ⟨hi, v110, hv, hf⟩ := jrd_s hf
  refine h_sld (pc := 1040) C X9 hi hv dL_law_1040 ?_
  clear hi hv
  refine h_aload_n (pc := 1041) C dL_law_1041 rfl 1 rfl ?_
  refine h_iload (pc := 1042) C dL_law_1042 6 rfl ?_
  refine h_iconst (pc := 1044) C dL_law_1044 jc_2 ?_
  refine h_iadd (pc := 1045) C dL_law_1045 ?_
  obtain ⟨hi, v111, hv, hf⟩ := jrd_s hf
  refine h_sld (pc := 1046) C X9 hi hv dL_law_1046 ?_
  clear hi hv
  refine h_aload_n (pc := 1047) C dL_law_1047 rfl 1 rfl ?_
  refine h_iload (pc := 1048) C dL_law_1048 6 rfl ?_
  refine h_iconst (pc := 1050) C dL_law_1050 jc_3 ?_
  refine h_iadd (pc := 1051) C dL_law_1051 ?_
  obtain ⟨hi, v112, hv, hf⟩ := jrd_s hf
  refine h_sld (pc := 1052) C X9 hi hv dL_law_1052 ?_
  clear hi hv
  refine h_aload_n (pc := 1053) C dL_law_1053 rfl 1 rfl ?_
  refine h_iload (pc := 1054) C dL_law_1054 6 rfl ?_
  refine h_iconst (pc := 1056) C dL_law_1056 jc_4 ?_
  refine h_iadd (pc := 1057) C dL_law_1057 ?_
  obtain ⟨hi, v113, hv, hf⟩ := jrd_s hf
  refine h_sld (pc := 1058) C X9 hi hv dL_law_1058 ?_
  clear hi hv
  refine h_aload_n (pc := 1059) C dL_law_1059 rfl 1 rfl ?_
  refine h_iload (pc := 1060) C dL_law_1060 6 rfl ?_
  refine h_iconst (pc := 1062) C dL_law_1062 jc_5 ?_
  refine h_iadd (pc := 1063) C dL_law_1063 ?_
  obtain ⟨hi, v114, hv, hf⟩ := jrd_s hf
  refine h_sld (pc := 1064) C X9 hi hv dL_law_1064 ?_
  clear hi hv
  obtain ⟨v115, hc, hf⟩ := jbd_s hf
  refine h_callV (pc := 1065) (q0 := 10) (As := [.int v110, .int v111, .int v112, .int v113, .int v114]) (rest := []) (ws' := (wL cT ad areas keys there order added size loads widths height ranks madded msides mkey misThere mboxes morder mlevels mnodes mentries mleft mlow mright mhigh mfirst mend v115.2 v109.2 outD)) (st2 := .int v115.1 :: []) C (c_X5_found l D cT ad n madded msides mkey misThere mboxes morder mlevels mnodes mentries mleft mlow mright mhigh mfirst mend mthrown v110 v111 v112 v113 v114 v115.1 v115.2 hc) (cwV 5 C.1.2.2.2.2 gL_law_X5_found rfl rfl rfl pv_X5_found ⟨(Nat.le_of_ble_eq_true rfl), (Nat.le_of_ble_eq_true rfl)⟩) dL_law_1065 rfl rfl rfl rfl rfl (Nat.le_of_ble_eq_true rfl) ⟨rfl, rfl⟩ hE [10, 11, 12, 13, 14, 15, 16] [0, 1, 2, 3, 4, 5, 6, 7, 8, 9, 17, 18] [0, 1, 2, 3, 4, 5, 6, 7, 8, 9, 12, 13, 14, 15, 16, 17, 18, 10, 11] rfl rfl rfl rfl (by decide) rfl rfl rfl ?_
  clear hc
  refine h_istore (pc := 1068) (lv' := [(7, .int v115.1), (6, .int v109.1), (0, .ref (ad 19)), (1, .ref (ad 0)), (2, .ref (ad 10)), (3, .ref (ad 17)), (4, .ref (ad 18)), (5, .int x5)]) C dL_law_1068 (by decide) rfl ?_
  refine h_aload_n (pc := 1070) C dL_law_1070 rfl 4 rfl ?_
  obtain ⟨v116, hc, hf⟩ := jbd_s hf
  refine h_callV (pc := 1071) (q0 := 10) (As := []) (rest := []) (ws' := (wL cT ad areas keys there order added size loads widths height ranks madded msides mkey misThere mboxes morder mlevels mnodes mentries mleft mlow mright mhigh mfirst mend v115.2 v109.2 outD)) (st2 := .int v116 :: []) C (c_X5_thrown l D cT ad n madded msides mkey misThere mboxes morder mlevels mnodes mentries mleft mlow mright mhigh mfirst mend v115.2 v116 hc) (cwV 0 C.1.2.2.2.2 gL_law_X5_thrown rfl rfl rfl pv_X5_thrown ⟨(Nat.le_of_ble_eq_true rfl), (Nat.le_of_ble_eq_true rfl)⟩) dL_law_1071 rfl rfl rfl rfl rfl (Nat.le_of_ble_eq_true rfl) ⟨rfl, rfl⟩ hE [10, 11, 12, 13, 14, 15, 16] [0, 1, 2, 3, 4, 5, 6, 7, 8, 9, 17, 18] [0, 1, 2, 3, 4, 5, 6, 7, 8, 9, 12, 13, 14, 15, 16, 17, 18, 10, 11] rfl rfl rfl rfl (by decide) rfl rfl rfl ?_
  clear hc
  refine h_iload (pc := 1074) C dL_law_1074 1 rfl ?_
  refine h_icmp_eq (pc := 1076) (tgt := 1081) C dL_law_1076 (by decide) (fun q => ?_) (fun q => ?_)
  · replace hf := jif_t q hf
    refine h_iload (pc := 1081) C dL_law_1081 1 rfl ?_
    refine h_if_ne (pc := 1083) (tgt := 1098) C dL_law_1083 (by decide) (fun q => ?_) (fun q => ?_)
    · replace hf := jif_f q hf
      refine h_goto (pc := 1098) (tgt := 1422) C dL_law_1098 (by decide) ?_
      refine h_sub [2, 3, 4, 5, 6, 7] rfl ?_
      exact k_L_law_1422 hX0 D cT ad C X9 Z hEnd n k28 K28 (CE + rmL_found.cells) (SL + rmL_found.slots) areas keys there order added size loads widths height ranks madded msides mkey misThere mboxes morder mlevels mnodes mentries mleft mlow mright mhigh mfirst mend v115.2 v109.2 outD x5 (lwB_more hb) hf
    · replace hf := jif_t q hf
      refine h_aload_n (pc := 1086) C dL_law_1086 rfl 5 rfl ?_
      refine h_iconst (pc := 1087) C dL_law_1087 jc_0 ?_
      obtain ⟨hi, v117, hv, hf⟩ := jrdA_s hf
      refine h_lald (pc := 1088) C 17 2 rfl rfl hi hv dL_law_1088 ?_
      clear hi hv
      refine h_iload (pc := 1089) C dL_law_1089 0 rfl ?_
      refine h_i2l (pc := 1091) C dL_law_1091 ?_
      refine h_lcmp (pc := 1092) C dL_law_1092 ?_
      refine h_if_eq (pc := 1093) (tgt := 1098) C dL_law_1093 (by decide) (fun q => ?_) (fun q => ?_)
      · replace hf := jif_t q hf
        refine h_goto (pc := 1098) (tgt := 1422) C dL_law_1098 (by decide) ?_
        refine h_sub [2, 3, 4, 5, 6, 7] rfl ?_
        exact k_L_law_1422 hX0 D cT ad C X9 Z hEnd n k28 K28 (CE + rmL_found.cells) (SL + rmL_found.slots) areas keys there order added size loads widths height ranks madded msides mkey misThere mboxes morder mlevels mnodes mentries mleft mlow mright mhigh mfirst mend v115.2 v109.2 outD x5 (lwB_more hb) hf
      · replace hf := jif_f q hf
        refine h_iconst (pc := 1096) C dL_law_1096 jc_0 ?_
        exact absurd (Option.some.inj hf) (by decide)
  · replace hf := jif_f q hf
    refine h_iconst (pc := 1079) C dL_law_1079 jc_0 ?_
    exact absurd (Option.some.inj hf) (by decide)
