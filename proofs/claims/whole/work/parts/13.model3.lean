/-! laid by wip/whole/lay.py: contracts -/
abbrev rmX5_cover : Room := { frames := 3, cells := 0, slots := 0, locals := 70 }
theorem uX5_cover_X5 : ∀ w ∈ u_ws RX5 TX5 16, w ∈ wsX5_cover := fun w h => List.mem_cons_of_mem _ (List.mem_append_right _ h)
set_option maxRecDepth 100000 in
set_option maxHeartbeats 4000000 in
theorem k_X5_cover_26 {p : Program} {e : Env} {s : State} {m : MethodId} {args : Array Value} {below : List Frame} {meth : Method} {c : Code} {A : Nat → Prop} (l : Launch) (D : va_G) (cT : Nat → ClassId) (ad : Nat → Nat) (C : hC p s m args meth c cX5_cover 4 wsX5_cover RX5 D (ty4 cT) A) (hr : meth.sig.returnType = (some .int)) (n : Nat) (madded : Int32) (msides : Nat → Int32) (mkey : Nat → Int32) (misThere : Nat → Int32) (mboxes : Int32) (morder : Nat → Int32) (mlevels : Int32) (mnodes : Nat → Int32) (mentries : Nat → Int32) (r : Int32) (mleft' : Int32) (mlow' : Int32) (mright' : Int32) (mhigh' : Int32) (mfirst' : Int32) (mend' : Int32) (mthrown' : Int32)  : ∀ (mleft : Int32) (mlow : Int32) (mright : Int32) (mhigh : Int32) (mfirst : Int32) (mend : Int32) (mthrown : Int32) (x1 : Int32) (x2 : Int32) (x3 : Int32) (t1 : Int32), f_X5_cover_26 n msides morder mlevels mnodes mentries mleft mlow mright mhigh mfirst mend mthrown x1 x2 x3 t1 = some (r, mleft', mlow', mright', mhigh', mfirst', mend', mthrown') → hS p l e rmX5_cover s m args below meth c 4 D A 0 0 (MQ below (cQ D (ty4 cT) A (some (.int r)) (wM cT ad madded msides mkey misThere mboxes morder mlevels mnodes mentries mleft' mlow' mright' mhigh' mfirst' mend' mthrown')) args s 0 0 A) 26 [(0, .ref (ad 10)), (1, .int x1), (2, .int x2), (3, .int x3)] (.int t1 :: .ref (ad 10) :: []) (wM cT ad madded msides mkey misThere mboxes morder mlevels mnodes mentries mleft mlow mright mhigh mfirst mend mthrown) := by
  intro mleft mlow mright mhigh mfirst mend mthrown x1 x2 x3 t1 hf
  unfold f_X5_cover_26 at hf
  obtain ⟨v3, hc, hf⟩ := jbd_s hf
  refine h_callV (pc := 26) (q0 := 0) (As := [.int t1]) (rest := []) (ws' := (wM cT ad madded msides mkey misThere mboxes morder mlevels mnodes mentries mleft mlow mright mhigh mfirst mend v3.2)) (st2 := .int v3.1 :: []) C (c_X5_fails l D cT ad n madded msides mkey misThere mboxes morder mlevels mnodes mentries mleft mlow mright mhigh mfirst mend mthrown t1 v3.1 v3.2 hc) (cwV 1 C.1.2.2.2.2 gX5_cover_X5_fails rfl rfl rfl pv_X5_fails ⟨(Nat.le_of_ble_eq_true rfl), (Nat.le_of_ble_eq_true rfl)⟩) dX5_cover_26 rfl rfl rfl rfl rfl (Nat.le_of_ble_eq_true rfl) ⟨rfl, rfl⟩ ⟨(Nat.le_of_ble_eq_true rfl), (Nat.le_of_ble_eq_true rfl)⟩ [0, 1, 2, 3, 4, 5, 6] [] [0, 1, 2, 3, 4, 5, 6] rfl rfl rfl rfl (by decide) rfl rfl rfl ?_
  clear hc
  refine h_if_eq (pc := 29) (tgt := 34) C dX5_cover_29 (by decide) (fun q => ?_) (fun q => ?_)
  · replace hf := jif_t q hf
    clear q
    refine h_aload_n (pc := 34) C dX5_cover_34 rfl 0 rfl ?_
    refine h_iload_n (pc := 35) C dX5_cover_35 rfl 1 rfl ?_
    refine h_iload_n (pc := 36) C dX5_cover_36 rfl 2 rfl ?_
    obtain ⟨v4, hc, hf⟩ := jbd_s hf
    refine h_callV (pc := 37) (q0 := 0) (As := [.int x1, .int x2]) (rest := []) (ws' := (wM cT ad madded msides mkey misThere mboxes morder mlevels mnodes mentries v4.1 v4.2.1 v4.2.2.1 v4.2.2.2.1 v4.2.2.2.2.1 v4.2.2.2.2.2 v3.2)) (st2 := []) C (c_X5_covers l D cT ad n madded msides mkey misThere mboxes morder mlevels mnodes mentries mleft mlow mright mhigh mfirst mend v3.2 x1 x2 v4.1 v4.2.1 v4.2.2.1 v4.2.2.2.1 v4.2.2.2.2.1 v4.2.2.2.2.2 hc) (cwV 2 C.1.2.2.2.2 gX5_cover_X5_covers rfl rfl rfl pv_X5_covers ⟨(Nat.le_of_ble_eq_true rfl), (Nat.le_of_ble_eq_true rfl)⟩) dX5_cover_37 rfl rfl rfl rfl rfl (Nat.le_of_ble_eq_true rfl) ⟨rfl, rfl⟩ ⟨(Nat.le_of_ble_eq_true rfl), (Nat.le_of_ble_eq_true rfl)⟩ [0, 1, 2, 3, 4, 5, 6] [] [0, 1, 2, 3, 4, 5, 6] rfl rfl rfl rfl (by decide) rfl rfl rfl ?_
    clear hc
    refine h_iload_n (pc := 40) C dX5_cover_40 rfl 3 rfl ?_
    refine h_if_ne (pc := 41) (tgt := 51) C dX5_cover_41 (by decide) (fun q => ?_) (fun q => ?_)
    · replace hf := jif_f q hf
      clear q
      refine h_iload_n (pc := 51) C dX5_cover_51 rfl 3 rfl ?_
      refine h_iconst (pc := 52) C dX5_cover_52 jc_1 ?_
      refine h_icmp_ne (pc := 53) (tgt := 63) C dX5_cover_53 (by decide) (fun q => ?_) (fun q => ?_)
      · replace hf := jif_f q hf
        clear q
        refine h_iload_n (pc := 63) C dX5_cover_63 rfl 3 rfl ?_
        refine h_iconst (pc := 64) C dX5_cover_64 jc_2 ?_
        refine h_icmp_ne (pc := 65) (tgt := 75) C dX5_cover_65 (by decide) (fun q => ?_) (fun q => ?_)
        · replace hf := jif_f q hf
          clear q
          refine h_aload_n (pc := 75) C dX5_cover_75 rfl 0 rfl ?_
          refine h_get (pc := 76) (ci := 3) (C0 := RX5) (T := TX5) (N := 16) C uX5_cover_X5 rfl 0 rfl 12 (by decide) (List.mem_of_getElem? (i := 4) rfl) rfl rfl dX5_cover_76 ?_
          have g0 := (Prod.mk.inj (Option.some.inj hf)).1
          have g1 := (Prod.mk.inj (Prod.mk.inj (Option.some.inj hf)).2).1
          have g2 := (Prod.mk.inj (Prod.mk.inj (Prod.mk.inj (Option.some.inj hf)).2).2).1
          have g3 := (Prod.mk.inj (Prod.mk.inj (Prod.mk.inj (Prod.mk.inj (Option.some.inj hf)).2).2).2).1
          have g4 := (Prod.mk.inj (Prod.mk.inj (Prod.mk.inj (Prod.mk.inj (Prod.mk.inj (Option.some.inj hf)).2).2).2).2).1
          have g5 := (Prod.mk.inj (Prod.mk.inj (Prod.mk.inj (Prod.mk.inj (Prod.mk.inj (Prod.mk.inj (Option.some.inj hf)).2).2).2).2).2).1
          have g6 := (Prod.mk.inj (Prod.mk.inj (Prod.mk.inj (Prod.mk.inj (Prod.mk.inj (Prod.mk.inj (Prod.mk.inj (Option.some.inj hf)).2).2).2).2).2).2).1
          have g7 := (Prod.mk.inj (Prod.mk.inj (Prod.mk.inj (Prod.mk.inj (Prod.mk.inj (Prod.mk.inj (Prod.mk.inj (Option.some.inj hf)).2).2).2).2).2).2).2
          clear hf
          subst g0
          subst g1
          subst g2
          subst g3
          subst g4
          subst g5
          subst g6
          subst g7
          exact h_iret C hr dX5_cover_79
        · replace hf := jif_t q hf
          clear q
          refine h_aload_n (pc := 68) C dX5_cover_68 rfl 0 rfl ?_
          refine h_get (pc := 69) (ci := 3) (C0 := RX5) (T := TX5) (N := 16) C uX5_cover_X5 rfl 0 rfl 11 (by decide) (List.mem_of_getElem? (i := 3) rfl) rfl rfl dX5_cover_69 ?_
          refine h_goto (pc := 72) (tgt := 79) C dX5_cover_72 (by decide) ?_
          have g0 := (Prod.mk.inj (Option.some.inj hf)).1
          have g1 := (Prod.mk.inj (Prod.mk.inj (Option.some.inj hf)).2).1
          have g2 := (Prod.mk.inj (Prod.mk.inj (Prod.mk.inj (Option.some.inj hf)).2).2).1
          have g3 := (Prod.mk.inj (Prod.mk.inj (Prod.mk.inj (Prod.mk.inj (Option.some.inj hf)).2).2).2).1
          have g4 := (Prod.mk.inj (Prod.mk.inj (Prod.mk.inj (Prod.mk.inj (Prod.mk.inj (Option.some.inj hf)).2).2).2).2).1
          have g5 := (Prod.mk.inj (Prod.mk.inj (Prod.mk.inj (Prod.mk.inj (Prod.mk.inj (Prod.mk.inj (Option.some.inj hf)).2).2).2).2).2).1
          have g6 := (Prod.mk.inj (Prod.mk.inj (Prod.mk.inj (Prod.mk.inj (Prod.mk.inj (Prod.mk.inj (Prod.mk.inj (Option.some.inj hf)).2).2).2).2).2).2).1
          have g7 := (Prod.mk.inj (Prod.mk.inj (Prod.mk.inj (Prod.mk.inj (Prod.mk.inj (Prod.mk.inj (Prod.mk.inj (Option.some.inj hf)).2).2).2).2).2).2).2
          clear hf
          subst g0
          subst g1
          subst g2
          subst g3
          subst g4
          subst g5
          subst g6
          subst g7
          exact h_iret C hr dX5_cover_79
      · replace hf := jif_t q hf
        clear q
        refine h_aload_n (pc := 56) C dX5_cover_56 rfl 0 rfl ?_
        refine h_get (pc := 57) (ci := 3) (C0 := RX5) (T := TX5) (N := 16) C uX5_cover_X5 rfl 0 rfl 10 (by decide) (List.mem_of_getElem? (i := 2) rfl) rfl rfl dX5_cover_57 ?_
        refine h_goto (pc := 60) (tgt := 79) C dX5_cover_60 (by decide) ?_
        have g0 := (Prod.mk.inj (Option.some.inj hf)).1
        have g1 := (Prod.mk.inj (Prod.mk.inj (Option.some.inj hf)).2).1
        have g2 := (Prod.mk.inj (Prod.mk.inj (Prod.mk.inj (Option.some.inj hf)).2).2).1
        have g3 := (Prod.mk.inj (Prod.mk.inj (Prod.mk.inj (Prod.mk.inj (Option.some.inj hf)).2).2).2).1
        have g4 := (Prod.mk.inj (Prod.mk.inj (Prod.mk.inj (Prod.mk.inj (Prod.mk.inj (Option.some.inj hf)).2).2).2).2).1
        have g5 := (Prod.mk.inj (Prod.mk.inj (Prod.mk.inj (Prod.mk.inj (Prod.mk.inj (Prod.mk.inj (Option.some.inj hf)).2).2).2).2).2).1
        have g6 := (Prod.mk.inj (Prod.mk.inj (Prod.mk.inj (Prod.mk.inj (Prod.mk.inj (Prod.mk.inj (Prod.mk.inj (Option.some.inj hf)).2).2).2).2).2).2).1
        have g7 := (Prod.mk.inj (Prod.mk.inj (Prod.mk.inj (Prod.mk.inj (Prod.mk.inj (Prod.mk.inj (Prod.mk.inj (Option.some.inj hf)).2).2).2).2).2).2).2
        clear hf
        subst g0
        subst g1
        subst g2
        subst g3
        subst g4
        subst g5
        subst g6
        subst g7
        exact h_iret C hr dX5_cover_79
    · replace hf := jif_t q hf
      clear q
      refine h_aload_n (pc := 44) C dX5_cover_44 rfl 0 rfl ?_
      refine h_get (pc := 45) (ci := 3) (C0 := RX5) (T := TX5) (N := 16) C uX5_cover_X5 rfl 0 rfl 9 (by decide) (List.mem_of_getElem? (i := 1) rfl) rfl rfl dX5_cover_45 ?_
      refine h_goto (pc := 48) (tgt := 79) C dX5_cover_48 (by decide) ?_
      have g0 := (Prod.mk.inj (Option.some.inj hf)).1
      have g1 := (Prod.mk.inj (Prod.mk.inj (Option.some.inj hf)).2).1
      have g2 := (Prod.mk.inj (Prod.mk.inj (Prod.mk.inj (Option.some.inj hf)).2).2).1
      have g3 := (Prod.mk.inj (Prod.mk.inj (Prod.mk.inj (Prod.mk.inj (Option.some.inj hf)).2).2).2).1
      have g4 := (Prod.mk.inj (Prod.mk.inj (Prod.mk.inj (Prod.mk.inj (Prod.mk.inj (Option.some.inj hf)).2).2).2).2).1
      have g5 := (Prod.mk.inj (Prod.mk.inj (Prod.mk.inj (Prod.mk.inj (Prod.mk.inj (Prod.mk.inj (Option.some.inj hf)).2).2).2).2).2).1
      have g6 := (Prod.mk.inj (Prod.mk.inj (Prod.mk.inj (Prod.mk.inj (Prod.mk.inj (Prod.mk.inj (Prod.mk.inj (Option.some.inj hf)).2).2).2).2).2).2).1
      have g7 := (Prod.mk.inj (Prod.mk.inj (Prod.mk.inj (Prod.mk.inj (Prod.mk.inj (Prod.mk.inj (Prod.mk.inj (Option.some.inj hf)).2).2).2).2).2).2).2
      clear hf
      subst g0
      subst g1
      subst g2
      subst g3
      subst g4
      subst g5
      subst g6
      subst g7
      exact h_iret C hr dX5_cover_79
  · replace hf := jif_f q hf
    clear q
    refine h_iconst (pc := 32) C dX5_cover_32 jc_0 ?_
    have g0 := (Prod.mk.inj (Option.some.inj hf)).1
    have g1 := (Prod.mk.inj (Prod.mk.inj (Option.some.inj hf)).2).1
    have g2 := (Prod.mk.inj (Prod.mk.inj (Prod.mk.inj (Option.some.inj hf)).2).2).1
    have g3 := (Prod.mk.inj (Prod.mk.inj (Prod.mk.inj (Prod.mk.inj (Option.some.inj hf)).2).2).2).1
    have g4 := (Prod.mk.inj (Prod.mk.inj (Prod.mk.inj (Prod.mk.inj (Prod.mk.inj (Option.some.inj hf)).2).2).2).2).1
    have g5 := (Prod.mk.inj (Prod.mk.inj (Prod.mk.inj (Prod.mk.inj (Prod.mk.inj (Prod.mk.inj (Option.some.inj hf)).2).2).2).2).2).1
    have g6 := (Prod.mk.inj (Prod.mk.inj (Prod.mk.inj (Prod.mk.inj (Prod.mk.inj (Prod.mk.inj (Prod.mk.inj (Option.some.inj hf)).2).2).2).2).2).2).1
    have g7 := (Prod.mk.inj (Prod.mk.inj (Prod.mk.inj (Prod.mk.inj (Prod.mk.inj (Prod.mk.inj (Prod.mk.inj (Option.some.inj hf)).2).2).2).2).2).2).2
    clear hf
    subst g0
    subst g1
    subst g2
    subst g3
    subst g4
    subst g5
    subst g6
    subst g7
    exact h_iret C hr dX5_cover_33
set_option maxRecDepth 100000 in
set_option maxHeartbeats 4000000 in
theorem c_X5_cover (l : Launch) (D : va_G) (cT : Nat → ClassId) (ad : Nat → Nat) (n : Nat) (madded : Int32) (msides : Nat → Int32) (mkey : Nat → Int32) (misThere : Nat → Int32) (mboxes : Int32) (morder : Nat → Int32) (mlevels : Int32) (mnodes : Nat → Int32) (mentries : Nat → Int32) (mleft : Int32) (mlow : Int32) (mright : Int32) (mhigh : Int32) (mfirst : Int32) (mend : Int32) (mthrown : Int32) (a1 : Int32) (a2 : Int32) (a3 : Int32) (r : Int32) (mleft' : Int32) (mlow' : Int32) (mright' : Int32) (mhigh' : Int32) (mfirst' : Int32) (mend' : Int32) (mthrown' : Int32) (hf : f_X5_cover n msides morder mlevels mnodes mentries mleft mlow mright mhigh mfirst mend mthrown a1 a2 a3 = some (r, mleft', mlow', mright', mhigh', mfirst', mend', mthrown')) : cM l yX5_cover wsX5_cover rmX5_cover D (ty4 cT) [.ref (ad 10), .int a1, .int a2, .int a3] (wM cT ad madded msides mkey misThere mboxes morder mlevels mnodes mentries mleft mlow mright mhigh mfirst mend mthrown) (some (.int r)) (wM cT ad madded msides mkey misThere mboxes morder mlevels mnodes mentries mleft' mlow' mright' mhigh' mfirst' mend' mthrown') := by
  refine cM_of (cc := cX5_cover) (maxL := 4) (ret := (some .int)) (own := RX5) (lv := [(0, .ref (ad 10)), (1, .int a1), (2, .int a2), (3, .int a3)]) (by decide) rfl (Nat.le_of_ble_eq_true rfl) rfl rfl ?_
  intro p e s m args below meth c A C hr
  unfold f_X5_cover at hf
  refine h_aload_n (pc := 0) C dX5_cover_0 rfl 0 rfl ?_
  refine h_iload_n (pc := 1) C dX5_cover_1 rfl 3 rfl ?_
  obtain ⟨v1, hc, hf⟩ := jbd_s hf
  refine h_callP (pc := 2) (As := [.int a3]) (rest := .ref (ad 10) :: []) (st2 := .int v1 :: .ref (ad 10) :: []) C (c_X5_isSide l D cT ad n a3 v1 hc) (va_cwS 1 C.1.2.2.2.2 gX5_cover_X5_isSide rfl rfl rfl ps_X5_isSide ⟨(Nat.le_of_ble_eq_true rfl), (Nat.le_of_ble_eq_true rfl)⟩) dX5_cover_2 rfl rfl (Nat.le_of_ble_eq_true rfl) ⟨rfl, rfl⟩ ⟨(Nat.le_of_ble_eq_true rfl), (Nat.le_of_ble_eq_true rfl)⟩ rfl ?_
  clear hc
  refine h_if_ne (pc := 5) (tgt := 12) C dX5_cover_5 (by decide) (fun q => ?_) (fun q => ?_)
  · replace hf := jif_f q hf
    clear q
    refine h_aload_n (pc := 12) C dX5_cover_12 rfl 0 rfl ?_
    refine h_iload_n (pc := 13) C dX5_cover_13 rfl 1 rfl ?_
    refine h_iload_n (pc := 14) C dX5_cover_14 rfl 2 rfl ?_
    obtain ⟨v2, hc, hf⟩ := jbd_s hf
    refine h_callV (pc := 15) (q0 := 0) (As := [.int a1, .int a2]) (rest := .ref (ad 10) :: []) (ws' := (wM cT ad madded msides mkey misThere mboxes morder mlevels mnodes mentries mleft mlow mright mhigh mfirst mend mthrown)) (st2 := .int v2 :: .ref (ad 10) :: []) C (c_X5_isNode l D cT ad n madded msides mkey misThere mboxes morder mlevels mnodes mentries mleft mlow mright mhigh mfirst mend mthrown a1 a2 v2 hc) (cwV 2 C.1.2.2.2.2 gX5_cover_X5_isNode rfl rfl rfl pv_X5_isNode ⟨(Nat.le_of_ble_eq_true rfl), (Nat.le_of_ble_eq_true rfl)⟩) dX5_cover_15 rfl rfl rfl rfl rfl (Nat.le_of_ble_eq_true rfl) ⟨rfl, rfl⟩ ⟨(Nat.le_of_ble_eq_true rfl), (Nat.le_of_ble_eq_true rfl)⟩ [0, 1, 2, 3, 4, 5, 6] [] [0, 1, 2, 3, 4, 5, 6] rfl rfl rfl rfl (by decide) rfl rfl rfl ?_
    clear hc
    refine h_if_eq (pc := 18) (tgt := 25) C dX5_cover_18 (by decide) (fun q => ?_) (fun q => ?_)
    · replace hf := jif_t q hf
      clear q
      refine h_iconst (pc := 25) C dX5_cover_25 jc_2 ?_
      exact k_X5_cover_26 l D cT ad C hr n madded msides mkey misThere mboxes morder mlevels mnodes mentries r mleft' mlow' mright' mhigh' mfirst' mend' mthrown' mleft mlow mright mhigh mfirst mend mthrown a1 a2 a3 2 hf
    · replace hf := jif_f q hf
      clear q
      refine h_iconst (pc := 21) C dX5_cover_21 jc_0 ?_
      refine h_goto (pc := 22) (tgt := 26) C dX5_cover_22 (by decide) ?_
      exact k_X5_cover_26 l D cT ad C hr n madded msides mkey misThere mboxes morder mlevels mnodes mentries r mleft' mlow' mright' mhigh' mfirst' mend' mthrown' mleft mlow mright mhigh mfirst mend mthrown a1 a2 a3 0 hf
  · replace hf := jif_t q hf
    clear q
    refine h_iconst (pc := 8) C dX5_cover_8 jc_1 ?_
    refine h_goto (pc := 9) (tgt := 26) C dX5_cover_9 (by decide) ?_
    exact k_X5_cover_26 l D cT ad C hr n madded msides mkey misThere mboxes morder mlevels mnodes mentries r mleft' mlow' mright' mhigh' mfirst' mend' mthrown' mleft mlow mright mhigh mfirst mend mthrown a1 a2 a3 1 hf
theorem pv_X5_cover : yX5_cover.cls = RX5 ∧ yX5_cover.cls ≠ "java/lang/invoke/MethodHandle" ∧ yX5_cover.cls ≠ "java/lang/invoke/VarHandle" ∧ (parseMethodDescriptor yX5_cover.desc).map (fun d => d.parameters.length) = some 3 := by decide +kernel
abbrev rmX5_leafOf : Room := { frames := 3, cells := 0, slots := 0, locals := 68 }
set_option maxRecDepth 100000 in
set_option maxHeartbeats 4000000 in
theorem k_X5_leafOf_14 {p : Program} {e : Env} {s : State} {m : MethodId} {args : Array Value} {below : List Frame} {meth : Method} {c : Code} {A : Nat → Prop} (l : Launch) (D : va_G) (cT : Nat → ClassId) (ad : Nat → Nat) (C : hC p s m args meth c cX5_leafOf 2 wsX5_leafOf RX5 D (ty4 cT) A) (hr : meth.sig.returnType = (some .int)) (n : Nat) (madded : Int32) (msides : Nat → Int32) (mkey : Nat → Int32) (misThere : Nat → Int32) (mboxes : Int32) (morder : Nat → Int32) (mlevels : Int32) (mnodes : Nat → Int32) (mentries : Nat → Int32) (mleft : Int32) (mlow : Int32) (mright : Int32) (mhigh : Int32) (mfirst : Int32) (mend : Int32) (r : Int32) (mthrown' : Int32)  : ∀ (mthrown : Int32) (x1 : Int32) (t1 : Int32), f_X5_leafOf_14 n madded misThere morder mlevels mnodes mentries mthrown x1 t1 = some (r, mthrown') → hS p l e rmX5_leafOf s m args below meth c 2 D A 0 0 (MQ below (cQ D (ty4 cT) A (some (.int r)) (wM cT ad madded msides mkey misThere mboxes morder mlevels mnodes mentries mleft mlow mright mhigh mfirst mend mthrown')) args s 0 0 A) 14 [(0, .ref (ad 10)), (1, .int x1)] (.int t1 :: .ref (ad 10) :: []) (wM cT ad madded msides mkey misThere mboxes morder mlevels mnodes mentries mleft mlow mright mhigh mfirst mend mthrown) := by
  intro mthrown x1 t1 hf
  unfold f_X5_leafOf_14 at hf
  obtain ⟨v2, hc, hf⟩ := jbd_s hf
  refine h_callV (pc := 14) (q0 := 0) (As := [.int t1]) (rest := []) (ws' := (wM cT ad madded msides mkey misThere mboxes morder mlevels mnodes mentries mleft mlow mright mhigh mfirst mend v2.2)) (st2 := .int v2.1 :: []) C (c_X5_fails l D cT ad n madded msides mkey misThere mboxes morder mlevels mnodes mentries mleft mlow mright mhigh mfirst mend mthrown t1 v2.1 v2.2 hc) (cwV 1 C.1.2.2.2.2 gX5_leafOf_X5_fails rfl rfl rfl pv_X5_fails ⟨(Nat.le_of_ble_eq_true rfl), (Nat.le_of_ble_eq_true rfl)⟩) dX5_leafOf_14 rfl rfl rfl rfl rfl (Nat.le_of_ble_eq_true rfl) ⟨rfl, rfl⟩ ⟨(Nat.le_of_ble_eq_true rfl), (Nat.le_of_ble_eq_true rfl)⟩ [0, 1, 2, 3, 4, 5, 6] [] [0, 1, 2, 3, 4, 5, 6] rfl rfl rfl rfl (by decide) rfl rfl rfl ?_
  clear hc
  refine h_if_eq (pc := 17) (tgt := 24) C dX5_leafOf_17 (by decide) (fun q => ?_) (fun q => ?_)
  · replace hf := jif_t q hf
    clear q
    refine h_aload_n (pc := 24) C dX5_leafOf_24 rfl 0 rfl ?_
    refine h_aload_n (pc := 25) C dX5_leafOf_25 rfl 0 rfl ?_
    refine h_iload_n (pc := 26) C dX5_leafOf_26 rfl 1 rfl ?_
    obtain ⟨v3, hc, hf⟩ := jbd_s hf
    refine h_callV (pc := 27) (q0 := 0) (As := [.int x1]) (rest := .ref (ad 10) :: []) (ws' := (wM cT ad madded msides mkey misThere mboxes morder mlevels mnodes mentries mleft mlow mright mhigh mfirst mend v2.2)) (st2 := .int v3 :: .ref (ad 10) :: []) C (c_X5_placeOf l D cT ad n madded msides mkey misThere mboxes morder mlevels mnodes mentries mleft mlow mright mhigh mfirst mend v2.2 x1 v3 hc) (cwV 1 C.1.2.2.2.2 gX5_leafOf_X5_placeOf rfl rfl rfl pv_X5_placeOf ⟨(Nat.le_of_ble_eq_true rfl), (Nat.le_of_ble_eq_true rfl)⟩) dX5_leafOf_27 rfl rfl rfl rfl rfl (Nat.le_of_ble_eq_true rfl) ⟨rfl, rfl⟩ ⟨(Nat.le_of_ble_eq_true rfl), (Nat.le_of_ble_eq_true rfl)⟩ [0, 1, 2, 3, 4, 5, 6] [] [0, 1, 2, 3, 4, 5, 6] rfl rfl rfl rfl (by decide) rfl rfl rfl ?_
    clear hc
    obtain ⟨v4, hc, hf⟩ := jbd_s hf
    refine h_callV (pc := 30) (q0 := 0) (As := [.int v3]) (rest := []) (ws' := (wM cT ad madded msides mkey misThere mboxes morder mlevels mnodes mentries mleft mlow mright mhigh mfirst mend v2.2)) (st2 := .int v4 :: []) C (c_X5_leafFor l D cT ad n madded msides mkey misThere mboxes morder mlevels mnodes mentries mleft mlow mright mhigh mfirst mend v2.2 v3 v4 hc) (cwV 1 C.1.2.2.2.2 gX5_leafOf_X5_leafFor rfl rfl rfl pv_X5_leafFor ⟨(Nat.le_of_ble_eq_true rfl), (Nat.le_of_ble_eq_true rfl)⟩) dX5_leafOf_30 rfl rfl rfl rfl rfl (Nat.le_of_ble_eq_true rfl) ⟨rfl, rfl⟩ ⟨(Nat.le_of_ble_eq_true rfl), (Nat.le_of_ble_eq_true rfl)⟩ [0, 1, 2, 3, 4, 5, 6] [] [0, 1, 2, 3, 4, 5, 6] rfl rfl rfl rfl (by decide) rfl rfl rfl ?_
    clear hc
    have g0 := (Prod.mk.inj (Option.some.inj hf)).1
    have g1 := (Prod.mk.inj (Option.some.inj hf)).2
    clear hf
    subst g0
    subst g1
    exact h_iret C hr dX5_leafOf_33
  · replace hf := jif_f q hf
    clear q
    refine h_iconst (pc := 20) C dX5_leafOf_20 jc_0 ?_
    refine h_goto (pc := 21) (tgt := 33) C dX5_leafOf_21 (by decide) ?_
    have g0 := (Prod.mk.inj (Option.some.inj hf)).1
    have g1 := (Prod.mk.inj (Option.some.inj hf)).2
    clear hf
    subst g0
    subst g1
    exact h_iret C hr dX5_leafOf_33
set_option maxRecDepth 100000 in
set_option maxHeartbeats 4000000 in
theorem c_X5_leafOf (l : Launch) (D : va_G) (cT : Nat → ClassId) (ad : Nat → Nat) (n : Nat) (madded : Int32) (msides : Nat → Int32) (mkey : Nat → Int32) (misThere : Nat → Int32) (mboxes : Int32) (morder : Nat → Int32) (mlevels : Int32) (mnodes : Nat → Int32) (mentries : Nat → Int32) (mleft : Int32) (mlow : Int32) (mright : Int32) (mhigh : Int32) (mfirst : Int32) (mend : Int32) (mthrown : Int32) (a1 : Int32) (r : Int32) (mthrown' : Int32) (hf : f_X5_leafOf n madded misThere morder mlevels mnodes mentries mthrown a1 = some (r, mthrown')) : cM l yX5_leafOf wsX5_leafOf rmX5_leafOf D (ty4 cT) [.ref (ad 10), .int a1] (wM cT ad madded msides mkey misThere mboxes morder mlevels mnodes mentries mleft mlow mright mhigh mfirst mend mthrown) (some (.int r)) (wM cT ad madded msides mkey misThere mboxes morder mlevels mnodes mentries mleft mlow mright mhigh mfirst mend mthrown') := by
  refine cM_of (cc := cX5_leafOf) (maxL := 2) (ret := (some .int)) (own := RX5) (lv := [(0, .ref (ad 10)), (1, .int a1)]) (by decide) rfl (Nat.le_of_ble_eq_true rfl) rfl rfl ?_
  intro p e s m args below meth c A C hr
  unfold f_X5_leafOf at hf
  refine h_aload_n (pc := 0) C dX5_leafOf_0 rfl 0 rfl ?_
  refine h_aload_n (pc := 1) C dX5_leafOf_1 rfl 0 rfl ?_
  refine h_iload_n (pc := 2) C dX5_leafOf_2 rfl 1 rfl ?_
  obtain ⟨v1, hc, hf⟩ := jbd_s hf
  refine h_callV (pc := 3) (q0 := 0) (As := [.int a1]) (rest := .ref (ad 10) :: []) (ws' := (wM cT ad madded msides mkey misThere mboxes morder mlevels mnodes mentries mleft mlow mright mhigh mfirst mend mthrown)) (st2 := .int v1 :: .ref (ad 10) :: []) C (c_X5_is l D cT ad n madded msides mkey misThere mboxes morder mlevels mnodes mentries mleft mlow mright mhigh mfirst mend mthrown a1 v1 hc) (cwV 1 C.1.2.2.2.2 gX5_leafOf_X5_is rfl rfl rfl pv_X5_is ⟨(Nat.le_of_ble_eq_true rfl), (Nat.le_of_ble_eq_true rfl)⟩) dX5_leafOf_3 rfl rfl rfl rfl rfl (Nat.le_of_ble_eq_true rfl) ⟨rfl, rfl⟩ ⟨(Nat.le_of_ble_eq_true rfl), (Nat.le_of_ble_eq_true rfl)⟩ [0, 1, 2, 3, 4, 5, 6] [] [0, 1, 2, 3, 4, 5, 6] rfl rfl rfl rfl (by decide) rfl rfl rfl ?_
  clear hc
  refine h_if_eq (pc := 6) (tgt := 13) C dX5_leafOf_6 (by decide) (fun q => ?_) (fun q => ?_)
  · replace hf := jif_t q hf
    clear q
    refine h_iconst (pc := 13) C dX5_leafOf_13 jc_1 ?_
    exact k_X5_leafOf_14 l D cT ad C hr n madded msides mkey misThere mboxes morder mlevels mnodes mentries mleft mlow mright mhigh mfirst mend r mthrown' mthrown a1 1 hf
  · replace hf := jif_f q hf
    clear q
    refine h_iconst (pc := 9) C dX5_leafOf_9 jc_0 ?_
    refine h_goto (pc := 10) (tgt := 14) C dX5_leafOf_10 (by decide) ?_
    exact k_X5_leafOf_14 l D cT ad C hr n madded msides mkey misThere mboxes morder mlevels mnodes mentries mleft mlow mright mhigh mfirst mend r mthrown' mthrown a1 0 hf
theorem pv_X5_leafOf : yX5_leafOf.cls = RX5 ∧ yX5_leafOf.cls ≠ "java/lang/invoke/MethodHandle" ∧ yX5_leafOf.cls ≠ "java/lang/invoke/VarHandle" ∧ (parseMethodDescriptor yX5_leafOf.desc).map (fun d => d.parameters.length) = some 1 := by decide +kernel
abbrev rmX5_boxAt : Room := { frames := 1, cells := 0, slots := 0, locals := 21 }
theorem uX5_boxAt_X5 : ∀ w ∈ u_ws RX5 TX5 16, w ∈ wsX5_boxAt := fun w h => List.mem_cons_of_mem _ (List.mem_append_right _ h)
set_option maxRecDepth 100000 in
set_option maxHeartbeats 4000000 in
theorem k_X5_boxAt_18 {p : Program} {e : Env} {s : State} {m : MethodId} {args : Array Value} {below : List Frame} {meth : Method} {c : Code} {A : Nat → Prop} (l : Launch) (D : va_G) (cT : Nat → ClassId) (ad : Nat → Nat) (C : hC p s m args meth c cX5_boxAt 2 wsX5_boxAt RX5 D (ty4 cT) A) (hr : meth.sig.returnType = (some .int)) (n : Nat) (madded : Int32) (msides : Nat → Int32) (mkey : Nat → Int32) (misThere : Nat → Int32) (mboxes : Int32) (morder : Nat → Int32) (mlevels : Int32) (mnodes : Nat → Int32) (mentries : Nat → Int32) (mleft : Int32) (mlow : Int32) (mright : Int32) (mhigh : Int32) (mfirst : Int32) (mend : Int32) (r : Int32) (mthrown' : Int32)  : ∀ (mthrown : Int32) (x1 : Int32) (t1 : Int32), f_X5_boxAt_18 n mboxes morder mthrown x1 t1 = some (r, mthrown') → hS p l e rmX5_boxAt s m args below meth c 2 D A 0 0 (MQ below (cQ D (ty4 cT) A (some (.int r)) (wM cT ad madded msides mkey misThere mboxes morder mlevels mnodes mentries mleft mlow mright mhigh mfirst mend mthrown')) args s 0 0 A) 18 [(0, .ref (ad 10)), (1, .int x1)] (.int t1 :: .ref (ad 10) :: []) (wM cT ad madded msides mkey misThere mboxes morder mlevels mnodes mentries mleft mlow mright mhigh mfirst mend mthrown) := by
  intro mthrown x1 t1 hf
  unfold f_X5_boxAt_18 at hf
  obtain ⟨v1, hc, hf⟩ := jbd_s hf
  refine h_callV (pc := 18) (q0 := 0) (As := [.int t1]) (rest := []) (ws' := (wM cT ad madded msides mkey misThere mboxes morder mlevels mnodes mentries mleft mlow mright mhigh mfirst mend v1.2)) (st2 := .int v1.1 :: []) C (c_X5_fails l D cT ad n madded msides mkey misThere mboxes morder mlevels mnodes mentries mleft mlow mright mhigh mfirst mend mthrown t1 v1.1 v1.2 hc) (cwV 1 C.1.2.2.2.2 gX5_boxAt_X5_fails rfl rfl rfl pv_X5_fails ⟨(Nat.le_of_ble_eq_true rfl), (Nat.le_of_ble_eq_true rfl)⟩) dX5_boxAt_18 rfl rfl rfl rfl rfl (Nat.le_of_ble_eq_true rfl) ⟨rfl, rfl⟩ ⟨(Nat.le_of_ble_eq_true rfl), (Nat.le_of_ble_eq_true rfl)⟩ [0, 1, 2, 3, 4, 5, 6] [] [0, 1, 2, 3, 4, 5, 6] rfl rfl rfl rfl (by decide) rfl rfl rfl ?_
  clear hc
  refine h_if_eq (pc := 21) (tgt := 28) C dX5_boxAt_21 (by decide) (fun q => ?_) (fun q => ?_)
  · replace hf := jif_t q hf
    clear q
    refine h_aload_n (pc := 28) C dX5_boxAt_28 rfl 0 rfl ?_
    refine h_get (pc := 29) (ci := 3) (C0 := RX5) (T := TX5) (N := 16) C uX5_boxAt_X5 rfl 0 rfl 5 (by decide) (List.mem_of_getElem? (i := 2) rfl) rfl rfl dX5_boxAt_29 ?_
    refine h_iload_n (pc := 32) C dX5_boxAt_32 rfl 1 rfl ?_
    obtain ⟨hi, v2, hv, hf⟩ := jrd_s hf
    refine h_iald (pc := 33) C 4 0 rfl rfl hi hv dX5_boxAt_33 ?_
    clear hi hv
    have g0 := (Prod.mk.inj (Option.some.inj hf)).1
    have g1 := (Prod.mk.inj (Option.some.inj hf)).2
    clear hf
    subst g0
    subst g1
    exact h_iret C hr dX5_boxAt_34
  · replace hf := jif_f q hf
    clear q
    refine h_iconst (pc := 24) C dX5_boxAt_24 jc_0 ?_
    refine h_goto (pc := 25) (tgt := 34) C dX5_boxAt_25 (by decide) ?_
    have g0 := (Prod.mk.inj (Option.some.inj hf)).1
    have g1 := (Prod.mk.inj (Option.some.inj hf)).2
    clear hf
    subst g0
    subst g1
    exact h_iret C hr dX5_boxAt_34
set_option maxRecDepth 100000 in
set_option maxHeartbeats 4000000 in
theorem k_X5_boxAt_17 {p : Program} {e : Env} {s : State} {m : MethodId} {args : Array Value} {below : List Frame} {meth : Method} {c : Code} {A : Nat → Prop} (l : Launch) (D : va_G) (cT : Nat → ClassId) (ad : Nat → Nat) (C : hC p s m args meth c cX5_boxAt 2 wsX5_boxAt RX5 D (ty4 cT) A) (hr : meth.sig.returnType = (some .int)) (n : Nat) (madded : Int32) (msides : Nat → Int32) (mkey : Nat → Int32) (misThere : Nat → Int32) (mboxes : Int32) (morder : Nat → Int32) (mlevels : Int32) (mnodes : Nat → Int32) (mentries : Nat → Int32) (mleft : Int32) (mlow : Int32) (mright : Int32) (mhigh : Int32) (mfirst : Int32) (mend : Int32) (r : Int32) (mthrown' : Int32)  : ∀ (mthrown : Int32) (x1 : Int32), f_X5_boxAt_17 n mboxes morder mthrown x1 = some (r, mthrown') → hS p l e rmX5_boxAt s m args below meth c 2 D A 0 0 (MQ below (cQ D (ty4 cT) A (some (.int r)) (wM cT ad madded msides mkey misThere mboxes morder mlevels mnodes mentries mleft mlow mright mhigh mfirst mend mthrown')) args s 0 0 A) 17 [(0, .ref (ad 10)), (1, .int x1)] (.ref (ad 10) :: []) (wM cT ad madded msides mkey misThere mboxes morder mlevels mnodes mentries mleft mlow mright mhigh mfirst mend mthrown) := by
  intro mthrown x1 hf
  unfold f_X5_boxAt_17 at hf
  refine h_iconst (pc := 17) C dX5_boxAt_17 jc_1 ?_
  exact k_X5_boxAt_18 l D cT ad C hr n madded msides mkey misThere mboxes morder mlevels mnodes mentries mleft mlow mright mhigh mfirst mend r mthrown' mthrown x1 1 hf
set_option maxRecDepth 100000 in
set_option maxHeartbeats 4000000 in
theorem c_X5_boxAt (l : Launch) (D : va_G) (cT : Nat → ClassId) (ad : Nat → Nat) (n : Nat) (madded : Int32) (msides : Nat → Int32) (mkey : Nat → Int32) (misThere : Nat → Int32) (mboxes : Int32) (morder : Nat → Int32) (mlevels : Int32) (mnodes : Nat → Int32) (mentries : Nat → Int32) (mleft : Int32) (mlow : Int32) (mright : Int32) (mhigh : Int32) (mfirst : Int32) (mend : Int32) (mthrown : Int32) (a1 : Int32) (r : Int32) (mthrown' : Int32) (hf : f_X5_boxAt n mboxes morder mthrown a1 = some (r, mthrown')) : cM l yX5_boxAt wsX5_boxAt rmX5_boxAt D (ty4 cT) [.ref (ad 10), .int a1] (wM cT ad madded msides mkey misThere mboxes morder mlevels mnodes mentries mleft mlow mright mhigh mfirst mend mthrown) (some (.int r)) (wM cT ad madded msides mkey misThere mboxes morder mlevels mnodes mentries mleft mlow mright mhigh mfirst mend mthrown') := by
  refine cM_of (cc := cX5_boxAt) (maxL := 2) (ret := (some .int)) (own := RX5) (lv := [(0, .ref (ad 10)), (1, .int a1)]) (by decide) rfl (Nat.le_of_ble_eq_true rfl) rfl rfl ?_
  intro p e s m args below meth c A C hr
  unfold f_X5_boxAt at hf
  refine h_aload_n (pc := 0) C dX5_boxAt_0 rfl 0 rfl ?_
  refine h_iload_n (pc := 1) C dX5_boxAt_1 rfl 1 rfl ?_
  refine h_if_lt (pc := 2) (tgt := 17) C dX5_boxAt_2 (by decide) (fun q => ?_) (fun q => ?_)
  · replace hf := jif_t q hf
    clear q
    exact k_X5_boxAt_17 l D cT ad C hr n madded msides mkey misThere mboxes morder mlevels mnodes mentries mleft mlow mright mhigh mfirst mend r mthrown' mthrown a1 hf
  · replace hf := jif_f q hf
    clear q
    refine h_iload_n (pc := 5) C dX5_boxAt_5 rfl 1 rfl ?_
    refine h_aload_n (pc := 6) C dX5_boxAt_6 rfl 0 rfl ?_
    refine h_get (pc := 7) (ci := 3) (C0 := RX5) (T := TX5) (N := 16) C uX5_boxAt_X5 rfl 0 rfl 4 (by decide) (List.mem_of_getElem? (i := 1) rfl) rfl rfl dX5_boxAt_7 ?_
    refine h_icmp_ge (pc := 10) (tgt := 17) C dX5_boxAt_10 (by decide) (fun q => ?_) (fun q => ?_)
    · replace hf := jif_t q hf
      clear q
      exact k_X5_boxAt_17 l D cT ad C hr n madded msides mkey misThere mboxes morder mlevels mnodes mentries mleft mlow mright mhigh mfirst mend r mthrown' mthrown a1 hf
    · replace hf := jif_f q hf
      clear q
      refine h_iconst (pc := 13) C dX5_boxAt_13 jc_0 ?_
      refine h_goto (pc := 14) (tgt := 18) C dX5_boxAt_14 (by decide) ?_
      exact k_X5_boxAt_18 l D cT ad C hr n madded msides mkey misThere mboxes morder mlevels mnodes mentries mleft mlow mright mhigh mfirst mend r mthrown' mthrown a1 0 hf
theorem pv_X5_boxAt : yX5_boxAt.cls = RX5 ∧ yX5_boxAt.cls ≠ "java/lang/invoke/MethodHandle" ∧ yX5_boxAt.cls ≠ "java/lang/invoke/VarHandle" ∧ (parseMethodDescriptor yX5_boxAt.desc).map (fun d => d.parameters.length) = some 1 := by decide +kernel
abbrev rmX5_tightness : Room := { frames := 3, cells := 0, slots := 0, locals := 70 }
theorem uX5_tightness_X5 : ∀ w ∈ u_ws RX5 TX5 16, w ∈ wsX5_tightness := fun w h => List.mem_cons_of_mem _ (List.mem_append_right _ h)
set_option maxRecDepth 100000 in
set_option maxHeartbeats 4000000 in
theorem k_X5_tightness_92 {p : Program} {e : Env} {s : State} {m : MethodId} {args : Array Value} {below : List Frame} {meth : Method} {c : Code} {A : Nat → Prop} (l : Launch) (D : va_G) (cT : Nat → ClassId) (ad : Nat → Nat) (C : hC p s m args meth c cX5_tightness 4 wsX5_tightness RX5 D (ty4 cT) A) (hr : meth.sig.returnType = (some .float)) (n : Nat) (madded : Int32) (msides : Nat → Int32) (mkey : Nat → Int32) (misThere : Nat → Int32) (mboxes : Int32) (morder : Nat → Int32) (mlevels : Int32) (mnodes : Nat → Int32) (mentries : Nat → Int32) (r : UInt32) (mleft' : Int32) (mlow' : Int32) (mright' : Int32) (mhigh' : Int32) (mfirst' : Int32) (mend' : Int32) (mthrown' : Int32)  : ∀ (fu : Nat) (mleft : Int32) (mlow : Int32) (mright : Int32) (mhigh : Int32) (mfirst : Int32) (mend : Int32) (mthrown : Int32) (x1 : Int32) (x2 : Int32) (x3 : Int32), f_X5_tightness_92 n msides mboxes morder mnodes mentries fu mleft mlow mright mhigh mfirst mend mthrown x1 x2 x3 = some (r, mleft', mlow', mright', mhigh', mfirst', mend', mthrown') → hS p l e rmX5_tightness s m args below meth c 4 D A 0 0 (MQ below (cQ D (ty4 cT) A (some (.float r)) (wM cT ad madded msides mkey misThere mboxes morder mlevels mnodes mentries mleft' mlow' mright' mhigh' mfirst' mend' mthrown')) args s 0 0 A) 92 [(0, .ref (ad 10)), (1, .int x1), (2, .int x2), (3, .int x3)] [] (wM cT ad madded msides mkey misThere mboxes morder mlevels mnodes mentries mleft mlow mright mhigh mfirst mend mthrown) := by
  intro fu
  induction fu with
  | zero =>
    intro mleft mlow mright mhigh mfirst mend mthrown x1 x2 x3 hf
    exact nomatch (show (none : Option (UInt32 × Int32 × Int32 × Int32 × Int32 × Int32 × Int32 × Int32)) = some (r, mleft', mlow', mright', mhigh', mfirst', mend', mthrown') from hf)
  | succ fu ih =>
    intro mleft mlow mright mhigh mfirst mend mthrown x1 x2 x3 hf
    rw [f_X5_tightness_92] at hf
    refine h_iload_n (pc := 92) C dX5_tightness_92 rfl 3 rfl ?_
    refine h_aload_n (pc := 93) C dX5_tightness_93 rfl 0 rfl ?_
    refine h_get (pc := 94) (ci := 3) (C0 := RX5) (T := TX5) (N := 16) C uX5_tightness_X5 rfl 0 rfl 7 (by decide) (List.mem_of_getElem? (i := 4) rfl) rfl rfl dX5_tightness_94 ?_
    refine h_iconst (pc := 97) C dX5_tightness_97 jc_0 ?_
    obtain ⟨hi, v7, hv, hf⟩ := jrd_s hf
    refine h_iald (pc := 98) C 5 0 rfl rfl hi hv dX5_tightness_98 ?_
    clear hi hv
    refine h_icmp_ge (pc := 99) (tgt := 140) C dX5_tightness_99 (by decide) (fun q => ?_) (fun q => ?_)
    · replace hf := jif_t q hf
      clear q
      refine h_iload_n (pc := 140) C dX5_tightness_140 rfl 1 rfl ?_
      refine h_i2f (pc := 141) C dX5_tightness_141 ?_
      refine h_iload_n (pc := 142) C dX5_tightness_142 rfl 2 rfl ?_
      refine h_i2f (pc := 143) C dX5_tightness_143 ?_
      obtain ⟨hi, hf⟩ := jfdiv_s hf
      refine h_fdiv (pc := 144) C hi dX5_tightness_144 ?_
      clear hi
      have g0 := (Prod.mk.inj (Option.some.inj hf)).1
      have g1 := (Prod.mk.inj (Prod.mk.inj (Option.some.inj hf)).2).1
      have g2 := (Prod.mk.inj (Prod.mk.inj (Prod.mk.inj (Option.some.inj hf)).2).2).1
      have g3 := (Prod.mk.inj (Prod.mk.inj (Prod.mk.inj (Prod.mk.inj (Option.some.inj hf)).2).2).2).1
      have g4 := (Prod.mk.inj (Prod.mk.inj (Prod.mk.inj (Prod.mk.inj (Prod.mk.inj (Option.some.inj hf)).2).2).2).2).1
      have g5 := (Prod.mk.inj (Prod.mk.inj (Prod.mk.inj (Prod.mk.inj (Prod.mk.inj (Prod.mk.inj (Option.some.inj hf)).2).2).2).2).2).1
      have g6 := (Prod.mk.inj (Prod.mk.inj (Prod.mk.inj (Prod.mk.inj (Prod.mk.inj (Prod.mk.inj (Prod.mk.inj (Option.some.inj hf)).2).2).2).2).2).2).1
      have g7 := (Prod.mk.inj (Prod.mk.inj (Prod.mk.inj (Prod.mk.inj (Prod.mk.inj (Prod.mk.inj (Prod.mk.inj (Option.some.inj hf)).2).2).2).2).2).2).2
      clear hf
      subst g0
      subst g1
      subst g2
      subst g3
      subst g4
      subst g5
      subst g6
      subst g7
      exact h_fret C hr dX5_tightness_145
    · replace hf := jif_f q hf
      clear q
      refine h_aload_n (pc := 102) C dX5_tightness_102 rfl 0 rfl ?_
      refine h_iconst (pc := 103) C dX5_tightness_103 jc_0 ?_
      refine h_iload_n (pc := 104) C dX5_tightness_104 rfl 3 rfl ?_
      obtain ⟨v9, hc, hf⟩ := jbd_s hf
      refine h_callV (pc := 105) (q0 := 0) (As := [.int 0, .int x3]) (rest := []) (ws' := (wM cT ad madded msides mkey misThere mboxes morder mlevels mnodes mentries v9.1 v9.2.1 v9.2.2.1 v9.2.2.2.1 v9.2.2.2.2.1 v9.2.2.2.2.2 mthrown)) (st2 := []) C (c_X5_covers l D cT ad n madded msides mkey misThere mboxes morder mlevels mnodes mentries mleft mlow mright mhigh mfirst mend mthrown 0 x3 v9.1 v9.2.1 v9.2.2.1 v9.2.2.2.1 v9.2.2.2.2.1 v9.2.2.2.2.2 hc) (cwV 2 C.1.2.2.2.2 gX5_tightness_X5_covers rfl rfl rfl pv_X5_covers ⟨(Nat.le_of_ble_eq_true rfl), (Nat.le_of_ble_eq_true rfl)⟩) dX5_tightness_105 rfl rfl rfl rfl rfl (Nat.le_of_ble_eq_true rfl) ⟨rfl, rfl⟩ ⟨(Nat.le_of_ble_eq_true rfl), (Nat.le_of_ble_eq_true rfl)⟩ [0, 1, 2, 3, 4, 5, 6] [] [0, 1, 2, 3, 4, 5, 6] rfl rfl rfl rfl (by decide) rfl rfl rfl ?_
      clear hc
      refine h_iload_n (pc := 108) C dX5_tightness_108 rfl 2 rfl ?_
      refine h_aload_n (pc := 109) C dX5_tightness_109 rfl 0 rfl ?_
      refine h_get (pc := 110) (ci := 3) (C0 := RX5) (T := TX5) (N := 16) C uX5_tightness_X5 rfl 0 rfl 11 (by decide) (List.mem_of_getElem? (i := 5) rfl) rfl rfl dX5_tightness_110 ?_
      refine h_aload_n (pc := 113) C dX5_tightness_113 rfl 0 rfl ?_
      refine h_get (pc := 114) (ci := 3) (C0 := RX5) (T := TX5) (N := 16) C uX5_tightness_X5 rfl 0 rfl 9 (by decide) (List.mem_of_getElem? (i := 6) rfl) rfl rfl dX5_tightness_114 ?_
      refine h_isub (pc := 117) C dX5_tightness_117 ?_
      refine h_iconst (pc := 118) C dX5_tightness_118 jc_1 ?_
      refine h_iadd (pc := 119) C dX5_tightness_119 ?_
      refine h_aload_n (pc := 120) C dX5_tightness_120 rfl 0 rfl ?_
      refine h_get (pc := 121) (ci := 3) (C0 := RX5) (T := TX5) (N := 16) C uX5_tightness_X5 rfl 0 rfl 12 (by decide) (List.mem_of_getElem? (i := 7) rfl) rfl rfl dX5_tightness_121 ?_
      refine h_aload_n (pc := 124) C dX5_tightness_124 rfl 0 rfl ?_
      refine h_get (pc := 125) (ci := 3) (C0 := RX5) (T := TX5) (N := 16) C uX5_tightness_X5 rfl 0 rfl 10 (by decide) (List.mem_of_getElem? (i := 8) rfl) rfl rfl dX5_tightness_125 ?_
      refine h_isub (pc := 128) C dX5_tightness_128 ?_
      refine h_iconst (pc := 129) C dX5_tightness_129 jc_1 ?_
      refine h_iadd (pc := 130) C dX5_tightness_130 ?_
      refine h_imul (pc := 131) C dX5_tightness_131 ?_
      refine h_iadd (pc := 132) C dX5_tightness_132 ?_
      refine h_istore_n (pc := 133) (lv' := [(2, .int (x2 + (((v9.2.2.1 - v9.1) + 1) * ((v9.2.2.2.1 - v9.2.1) + 1)))), (0, .ref (ad 10)), (1, .int x1), (3, .int x3)]) C dX5_tightness_133 rfl (by decide) rfl ?_
      refine h_iinc (pc := 134) (v := x3 + 1) (lv' := [(3, .int (x3 + 1)), (2, .int (x2 + (((v9.2.2.1 - v9.1) + 1) * ((v9.2.2.2.1 - v9.2.1) + 1)))), (0, .ref (ad 10)), (1, .int x1)]) C dX5_tightness_134 3 rfl (ji_1 _) (by decide) rfl ?_
      refine h_goto (pc := 137) (tgt := 92) C dX5_tightness_137 (by decide) ?_
      refine h_sub [2, 3, 1, 0] rfl ?_
      exact ih v9.1 v9.2.1 v9.2.2.1 v9.2.2.2.1 v9.2.2.2.2.1 v9.2.2.2.2.2 mthrown x1 (x2 + (((v9.2.2.1 - v9.1) + 1) * ((v9.2.2.2.1 - v9.2.1) + 1))) (x3 + 1) hf
set_option maxRecDepth 100000 in
set_option maxHeartbeats 4000000 in
theorem k_X5_tightness_25 {p : Program} {e : Env} {s : State} {m : MethodId} {args : Array Value} {below : List Frame} {meth : Method} {c : Code} {A : Nat → Prop} (l : Launch) (D : va_G) (cT : Nat → ClassId) (ad : Nat → Nat) (C : hC p s m args meth c cX5_tightness 4 wsX5_tightness RX5 D (ty4 cT) A) (hr : meth.sig.returnType = (some .float)) (n : Nat) (madded : Int32) (msides : Nat → Int32) (mkey : Nat → Int32) (misThere : Nat → Int32) (mboxes : Int32) (morder : Nat → Int32) (mlevels : Int32) (mnodes : Nat → Int32) (mentries : Nat → Int32) (r : UInt32) (mleft' : Int32) (mlow' : Int32) (mright' : Int32) (mhigh' : Int32) (mfirst' : Int32) (mend' : Int32) (mthrown' : Int32)  : ∀ (fu : Nat) (mleft : Int32) (mlow : Int32) (mright : Int32) (mhigh : Int32) (mfirst : Int32) (mend : Int32) (mthrown : Int32) (x1 : Int32) (x2 : Int32), f_X5_tightness_25 n msides mboxes morder mnodes mentries fu mleft mlow mright mhigh mfirst mend mthrown x1 x2 = some (r, mleft', mlow', mright', mhigh', mfirst', mend', mthrown') → hS p l e rmX5_tightness s m args below meth c 4 D A 0 0 (MQ below (cQ D (ty4 cT) A (some (.float r)) (wM cT ad madded msides mkey misThere mboxes morder mlevels mnodes mentries mleft' mlow' mright' mhigh' mfirst' mend' mthrown')) args s 0 0 A) 25 [(0, .ref (ad 10)), (1, .int x1), (2, .int x2)] [] (wM cT ad madded msides mkey misThere mboxes morder mlevels mnodes mentries mleft mlow mright mhigh mfirst mend mthrown) := by
  intro fu
  induction fu with
  | zero =>
    intro mleft mlow mright mhigh mfirst mend mthrown x1 x2 hf
    exact nomatch (show (none : Option (UInt32 × Int32 × Int32 × Int32 × Int32 × Int32 × Int32 × Int32)) = some (r, mleft', mlow', mright', mhigh', mfirst', mend', mthrown') from hf)
  | succ fu ih =>
    intro mleft mlow mright mhigh mfirst mend mthrown x1 x2 hf
    rw [f_X5_tightness_25] at hf
    refine h_iload_n (pc := 25) C dX5_tightness_25 rfl 2 rfl ?_
    refine h_aload_n (pc := 26) C dX5_tightness_26 rfl 0 rfl ?_
    refine h_get (pc := 27) (ci := 3) (C0 := RX5) (T := TX5) (N := 16) C uX5_tightness_X5 rfl 0 rfl 4 (by decide) (List.mem_of_getElem? (i := 1) rfl) rfl rfl dX5_tightness_27 ?_
    refine h_icmp_ge (pc := 30) (tgt := 88) C dX5_tightness_30 (by decide) (fun q => ?_) (fun q => ?_)
    · replace hf := jif_t q hf
      clear q
      refine h_iconst (pc := 88) C dX5_tightness_88 jc_0 ?_
      refine h_istore_n (pc := 89) (lv' := [(2, .int 0), (0, .ref (ad 10)), (1, .int x1)]) C dX5_tightness_89 rfl (by decide) rfl ?_
      refine h_iconst (pc := 90) C dX5_tightness_90 jc_0 ?_
      refine h_istore_n (pc := 91) (lv' := [(3, .int 0), (2, .int 0), (0, .ref (ad 10)), (1, .int x1)]) C dX5_tightness_91 rfl (by decide) rfl ?_
      refine h_sub [2, 3, 1, 0] rfl ?_
      exact k_X5_tightness_92 l D cT ad C hr n madded msides mkey misThere mboxes morder mlevels mnodes mentries r mleft' mlow' mright' mhigh' mfirst' mend' mthrown' n mleft mlow mright mhigh mfirst mend mthrown x1 0 0 hf
    · replace hf := jif_f q hf
      clear q
      refine h_iconst (pc := 33) C dX5_tightness_33 jc_4 ?_
      refine h_aload_n (pc := 34) C dX5_tightness_34 rfl 0 rfl ?_
      refine h_get (pc := 35) (ci := 3) (C0 := RX5) (T := TX5) (N := 16) C uX5_tightness_X5 rfl 0 rfl 5 (by decide) (List.mem_of_getElem? (i := 2) rfl) rfl rfl dX5_tightness_35 ?_
      refine h_iload_n (pc := 38) C dX5_tightness_38 rfl 2 rfl ?_
      obtain ⟨hi, v2, hv, hf⟩ := jrd_s hf
      refine h_iald (pc := 39) C 4 0 rfl rfl hi hv dX5_tightness_39 ?_
      clear hi hv
      refine h_imul (pc := 40) C dX5_tightness_40 ?_
      refine h_istore_n (pc := 41) (lv' := [(3, .int (4 * v2)), (0, .ref (ad 10)), (1, .int x1), (2, .int x2)]) C dX5_tightness_41 rfl (by decide) rfl ?_
      refine h_iload_n (pc := 42) C dX5_tightness_42 rfl 2 rfl ?_
      refine h_aload_n (pc := 43) C dX5_tightness_43 rfl 1 rfl ?_
      refine h_get (pc := 44) (ci := 3) (C0 := RX5) (T := TX5) (N := 16) C uX5_tightness_X5 rfl 0 rfl 1 (by decide) (List.mem_of_getElem? (i := 3) rfl) rfl rfl dX5_tightness_44 ?_
      refine h_iload_n (pc := 47) C dX5_tightness_47 rfl 0 rfl ?_
      refine h_iconst (pc := 48) C dX5_tightness_48 jc_2 ?_
      refine h_iadd (pc := 49) C dX5_tightness_49 ?_
      obtain ⟨hi, v3, hv, hf⟩ := jrd_s hf
      refine h_iald (pc := 50) C 1 0 rfl rfl hi hv dX5_tightness_50 ?_
      clear hi hv
      refine h_aload_n (pc := 51) C dX5_tightness_51 rfl 1 rfl ?_
      refine h_get (pc := 52) (ci := 3) (C0 := RX5) (T := TX5) (N := 16) C uX5_tightness_X5 rfl 0 rfl 1 (by decide) (List.mem_of_getElem? (i := 3) rfl) rfl rfl dX5_tightness_52 ?_
      refine h_iload_n (pc := 55) C dX5_tightness_55 rfl 0 rfl ?_
      obtain ⟨hi, v4, hv, hf⟩ := jrd_s hf
      refine h_iald (pc := 56) C 1 0 rfl rfl hi hv dX5_tightness_56 ?_
      clear hi hv
      refine h_isub (pc := 57) C dX5_tightness_57 ?_
      refine h_iconst (pc := 58) C dX5_tightness_58 jc_1 ?_
      refine h_iadd (pc := 59) C dX5_tightness_59 ?_
      refine h_aload_n (pc := 60) C dX5_tightness_60 rfl 1 rfl ?_
      refine h_get (pc := 61) (ci := 3) (C0 := RX5) (T := TX5) (N := 16) C uX5_tightness_X5 rfl 0 rfl 1 (by decide) (List.mem_of_getElem? (i := 3) rfl) rfl rfl dX5_tightness_61 ?_
      refine h_iload_n (pc := 64) C dX5_tightness_64 rfl 0 rfl ?_
      refine h_iconst (pc := 65) C dX5_tightness_65 jc_3 ?_
      refine h_iadd (pc := 66) C dX5_tightness_66 ?_
      obtain ⟨hi, v5, hv, hf⟩ := jrd_s hf
      refine h_iald (pc := 67) C 1 0 rfl rfl hi hv dX5_tightness_67 ?_
      clear hi hv
      refine h_aload_n (pc := 68) C dX5_tightness_68 rfl 1 rfl ?_
      refine h_get (pc := 69) (ci := 3) (C0 := RX5) (T := TX5) (N := 16) C uX5_tightness_X5 rfl 0 rfl 1 (by decide) (List.mem_of_getElem? (i := 3) rfl) rfl rfl dX5_tightness_69 ?_
      refine h_iload_n (pc := 72) C dX5_tightness_72 rfl 0 rfl ?_
      refine h_iconst (pc := 73) C dX5_tightness_73 jc_1 ?_
      refine h_iadd (pc := 74) C dX5_tightness_74 ?_
      obtain ⟨hi, v6, hv, hf⟩ := jrd_s hf
      refine h_iald (pc := 75) C 1 0 rfl rfl hi hv dX5_tightness_75 ?_
      clear hi hv
      refine h_isub (pc := 76) C dX5_tightness_76 ?_
      refine h_iconst (pc := 77) C dX5_tightness_77 jc_1 ?_
      refine h_iadd (pc := 78) C dX5_tightness_78 ?_
      refine h_imul (pc := 79) C dX5_tightness_79 ?_
      refine h_iadd (pc := 80) C dX5_tightness_80 ?_
      refine h_istore_n (pc := 81) (lv' := [(1, .int (x1 + (((v3 - v4) + 1) * ((v5 - v6) + 1)))), (3, .int (4 * v2)), (0, .ref (ad 10)), (2, .int x2)]) C dX5_tightness_81 rfl (by decide) rfl ?_
      refine h_iinc (pc := 82) (v := x2 + 1) (lv' := [(2, .int (x2 + 1)), (1, .int (x1 + (((v3 - v4) + 1) * ((v5 - v6) + 1)))), (3, .int (4 * v2)), (0, .ref (ad 10))]) C dX5_tightness_82 3 rfl (ji_1 _) (by decide) rfl ?_
      refine h_goto (pc := 85) (tgt := 25) C dX5_tightness_85 (by decide) ?_
      refine h_sub [3, 1, 0] rfl ?_
      exact ih mleft mlow mright mhigh mfirst mend mthrown (x1 + (((v3 - v4) + 1) * ((v5 - v6) + 1))) (x2 + 1) hf
set_option maxRecDepth 100000 in
set_option maxHeartbeats 4000000 in
theorem k_X5_tightness_13 {p : Program} {e : Env} {s : State} {m : MethodId} {args : Array Value} {below : List Frame} {meth : Method} {c : Code} {A : Nat → Prop} (l : Launch) (D : va_G) (cT : Nat → ClassId) (ad : Nat → Nat) (C : hC p s m args meth c cX5_tightness 4 wsX5_tightness RX5 D (ty4 cT) A) (hr : meth.sig.returnType = (some .float)) (n : Nat) (madded : Int32) (msides : Nat → Int32) (mkey : Nat → Int32) (misThere : Nat → Int32) (mboxes : Int32) (morder : Nat → Int32) (mlevels : Int32) (mnodes : Nat → Int32) (mentries : Nat → Int32) (r : UInt32) (mleft' : Int32) (mlow' : Int32) (mright' : Int32) (mhigh' : Int32) (mfirst' : Int32) (mend' : Int32) (mthrown' : Int32)  : ∀ (mleft : Int32) (mlow : Int32) (mright : Int32) (mhigh : Int32) (mfirst : Int32) (mend : Int32) (mthrown : Int32) (t1 : Int32), f_X5_tightness_13 n msides mboxes morder mnodes mentries mleft mlow mright mhigh mfirst mend mthrown t1 = some (r, mleft', mlow', mright', mhigh', mfirst', mend', mthrown') → hS p l e rmX5_tightness s m args below meth c 4 D A 0 0 (MQ below (cQ D (ty4 cT) A (some (.float r)) (wM cT ad madded msides mkey misThere mboxes morder mlevels mnodes mentries mleft' mlow' mright' mhigh' mfirst' mend' mthrown')) args s 0 0 A) 13 [(0, .ref (ad 10))] (.int t1 :: .ref (ad 10) :: []) (wM cT ad madded msides mkey misThere mboxes morder mlevels mnodes mentries mleft mlow mright mhigh mfirst mend mthrown) := by
  intro mleft mlow mright mhigh mfirst mend mthrown t1 hf
  unfold f_X5_tightness_13 at hf
  obtain ⟨v1, hc, hf⟩ := jbd_s hf
  refine h_callV (pc := 13) (q0 := 0) (As := [.int t1]) (rest := []) (ws' := (wM cT ad madded msides mkey misThere mboxes morder mlevels mnodes mentries mleft mlow mright mhigh mfirst mend v1.2)) (st2 := .int v1.1 :: []) C (c_X5_fails l D cT ad n madded msides mkey misThere mboxes morder mlevels mnodes mentries mleft mlow mright mhigh mfirst mend mthrown t1 v1.1 v1.2 hc) (cwV 1 C.1.2.2.2.2 gX5_tightness_X5_fails rfl rfl rfl pv_X5_fails ⟨(Nat.le_of_ble_eq_true rfl), (Nat.le_of_ble_eq_true rfl)⟩) dX5_tightness_13 rfl rfl rfl rfl rfl (Nat.le_of_ble_eq_true rfl) ⟨rfl, rfl⟩ ⟨(Nat.le_of_ble_eq_true rfl), (Nat.le_of_ble_eq_true rfl)⟩ [0, 1, 2, 3, 4, 5, 6] [] [0, 1, 2, 3, 4, 5, 6] rfl rfl rfl rfl (by decide) rfl rfl rfl ?_
  clear hc
  refine h_if_eq (pc := 16) (tgt := 21) C dX5_tightness_16 (by decide) (fun q => ?_) (fun q => ?_)
  · replace hf := jif_t q hf
    clear q
    refine h_iconst (pc := 21) C dX5_tightness_21 jc_0 ?_
    refine h_istore_n (pc := 22) (lv' := [(1, .int 0), (0, .ref (ad 10))]) C dX5_tightness_22 rfl (by decide) rfl ?_
    refine h_iconst (pc := 23) C dX5_tightness_23 jc_0 ?_
    refine h_istore_n (pc := 24) (lv' := [(2, .int 0), (1, .int 0), (0, .ref (ad 10))]) C dX5_tightness_24 rfl (by decide) rfl ?_
    refine h_sub [2, 1, 0] rfl ?_
    exact k_X5_tightness_25 l D cT ad C hr n madded msides mkey misThere mboxes morder mlevels mnodes mentries r mleft' mlow' mright' mhigh' mfirst' mend' mthrown' n mleft mlow mright mhigh mfirst mend v1.2 0 0 hf
  · replace hf := jif_f q hf
    clear q
    refine h_fconst0 (pc := 19) C dX5_tightness_19 ?_
    have g0 := (Prod.mk.inj (Option.some.inj hf)).1
    have g1 := (Prod.mk.inj (Prod.mk.inj (Option.some.inj hf)).2).1
    have g2 := (Prod.mk.inj (Prod.mk.inj (Prod.mk.inj (Option.some.inj hf)).2).2).1
    have g3 := (Prod.mk.inj (Prod.mk.inj (Prod.mk.inj (Prod.mk.inj (Option.some.inj hf)).2).2).2).1
    have g4 := (Prod.mk.inj (Prod.mk.inj (Prod.mk.inj (Prod.mk.inj (Prod.mk.inj (Option.some.inj hf)).2).2).2).2).1
    have g5 := (Prod.mk.inj (Prod.mk.inj (Prod.mk.inj (Prod.mk.inj (Prod.mk.inj (Prod.mk.inj (Option.some.inj hf)).2).2).2).2).2).1
    have g6 := (Prod.mk.inj (Prod.mk.inj (Prod.mk.inj (Prod.mk.inj (Prod.mk.inj (Prod.mk.inj (Prod.mk.inj (Option.some.inj hf)).2).2).2).2).2).2).1
    have g7 := (Prod.mk.inj (Prod.mk.inj (Prod.mk.inj (Prod.mk.inj (Prod.mk.inj (Prod.mk.inj (Prod.mk.inj (Option.some.inj hf)).2).2).2).2).2).2).2
    clear hf
    subst g0
    subst g1
    subst g2
    subst g3
    subst g4
    subst g5
    subst g6
    subst g7
    exact h_fret C hr dX5_tightness_20
set_option maxRecDepth 100000 in
set_option maxHeartbeats 4000000 in
theorem c_X5_tightness (l : Launch) (D : va_G) (cT : Nat → ClassId) (ad : Nat → Nat) (n : Nat) (madded : Int32) (msides : Nat → Int32) (mkey : Nat → Int32) (misThere : Nat → Int32) (mboxes : Int32) (morder : Nat → Int32) (mlevels : Int32) (mnodes : Nat → Int32) (mentries : Nat → Int32) (mleft : Int32) (mlow : Int32) (mright : Int32) (mhigh : Int32) (mfirst : Int32) (mend : Int32) (mthrown : Int32)  (r : UInt32) (mleft' : Int32) (mlow' : Int32) (mright' : Int32) (mhigh' : Int32) (mfirst' : Int32) (mend' : Int32) (mthrown' : Int32) (hf : f_X5_tightness n msides mboxes morder mnodes mentries mleft mlow mright mhigh mfirst mend mthrown = some (r, mleft', mlow', mright', mhigh', mfirst', mend', mthrown')) : cM l yX5_tightness wsX5_tightness rmX5_tightness D (ty4 cT) [.ref (ad 10)] (wM cT ad madded msides mkey misThere mboxes morder mlevels mnodes mentries mleft mlow mright mhigh mfirst mend mthrown) (some (.float r)) (wM cT ad madded msides mkey misThere mboxes morder mlevels mnodes mentries mleft' mlow' mright' mhigh' mfirst' mend' mthrown') := by
  refine cM_of (cc := cX5_tightness) (maxL := 4) (ret := (some .float)) (own := RX5) (lv := [(0, .ref (ad 10))]) (by decide) rfl (Nat.le_of_ble_eq_true rfl) rfl rfl ?_
  intro p e s m args below meth c A C hr
  unfold f_X5_tightness at hf
  refine h_aload_n (pc := 0) C dX5_tightness_0 rfl 0 rfl ?_
  refine h_aload_n (pc := 1) C dX5_tightness_1 rfl 0 rfl ?_
  refine h_get (pc := 2) (ci := 3) (C0 := RX5) (T := TX5) (N := 16) C uX5_tightness_X5 rfl 0 rfl 4 (by decide) (List.mem_of_getElem? (i := 1) rfl) rfl rfl dX5_tightness_2 ?_
  refine h_if_ne (pc := 5) (tgt := 12) C dX5_tightness_5 (by decide) (fun q => ?_) (fun q => ?_)
  · replace hf := jif_f q hf
    clear q
    refine h_iconst (pc := 12) C dX5_tightness_12 jc_0 ?_
    exact k_X5_tightness_13 l D cT ad C hr n madded msides mkey misThere mboxes morder mlevels mnodes mentries r mleft' mlow' mright' mhigh' mfirst' mend' mthrown' mleft mlow mright mhigh mfirst mend mthrown 0 hf
  · replace hf := jif_t q hf
    clear q
    refine h_iconst (pc := 8) C dX5_tightness_8 jc_1 ?_
    refine h_goto (pc := 9) (tgt := 13) C dX5_tightness_9 (by decide) ?_
    exact k_X5_tightness_13 l D cT ad C hr n madded msides mkey misThere mboxes morder mlevels mnodes mentries r mleft' mlow' mright' mhigh' mfirst' mend' mthrown' mleft mlow mright mhigh mfirst mend mthrown 1 hf
theorem pv_X5_tightness : yX5_tightness.cls = RX5 ∧ yX5_tightness.cls ≠ "java/lang/invoke/MethodHandle" ∧ yX5_tightness.cls ≠ "java/lang/invoke/VarHandle" ∧ (parseMethodDescriptor yX5_tightness.desc).map (fun d => d.parameters.length) = some 0 := by decide +kernel
abbrev rmX5_doesMeet : Room := { frames := 0, cells := 0, slots := 0, locals := 0 }
theorem uX5_doesMeet_X5 : ∀ w ∈ u_ws RX5 TX5 16, w ∈ wsX5_doesMeet := fun w h => List.mem_cons_of_mem _ (List.mem_append_right _ h)
set_option maxRecDepth 100000 in
set_option maxHeartbeats 4000000 in
theorem c_X5_doesMeet (l : Launch) (D : va_G) (cT : Nat → ClassId) (ad : Nat → Nat) (n : Nat) (madded : Int32) (msides : Nat → Int32) (mkey : Nat → Int32) (misThere : Nat → Int32) (mboxes : Int32) (morder : Nat → Int32) (mlevels : Int32) (mnodes : Nat → Int32) (mentries : Nat → Int32) (mleft : Int32) (mlow : Int32) (mright : Int32) (mhigh : Int32) (mfirst : Int32) (mend : Int32) (mthrown : Int32) (a1 : Int32) (a2 : Int32) (a3 : Int32) (a4 : Int32) (a5 : Int32) (r : Int32) (hf : f_X5_doesMeet n msides a1 a2 a3 a4 a5 = some r) : cM l yX5_doesMeet wsX5_doesMeet rmX5_doesMeet D (ty4 cT) [.ref (ad 10), .int a1, .int a2, .int a3, .int a4, .int a5] (wM cT ad madded msides mkey misThere mboxes morder mlevels mnodes mentries mleft mlow mright mhigh mfirst mend mthrown) (some (.int r)) (wM cT ad madded msides mkey misThere mboxes morder mlevels mnodes mentries mleft mlow mright mhigh mfirst mend mthrown) := by
  refine cM_of (cc := cX5_doesMeet) (maxL := 7) (ret := (some .boolean)) (own := RX5) (lv := [(0, .ref (ad 10)), (1, .int a1), (2, .int a2), (3, .int a3), (4, .int a4), (5, .int a5)]) (by decide) rfl (Nat.le_of_ble_eq_true rfl) rfl rfl ?_
  intro p e s m args below meth c A C hr
  unfold f_X5_doesMeet at hf
  refine h_iconst (pc := 0) C dX5_doesMeet_0 jc_4 ?_
  refine h_iload_n (pc := 1) C dX5_doesMeet_1 rfl 1 rfl ?_
  refine h_imul (pc := 2) C dX5_doesMeet_2 ?_
  refine h_istore (pc := 3) (lv' := [(6, .int (4 * a1)), (0, .ref (ad 10)), (1, .int a1), (2, .int a2), (3, .int a3), (4, .int a4), (5, .int a5)]) C dX5_doesMeet_3 (by decide) rfl ?_
  refine h_aload_n (pc := 5) C dX5_doesMeet_5 rfl 1 rfl ?_
  refine h_get (pc := 6) (ci := 3) (C0 := RX5) (T := TX5) (N := 16) C uX5_doesMeet_X5 rfl 0 rfl 1 (by decide) (List.mem_of_getElem? (i := 1) rfl) rfl rfl dX5_doesMeet_6 ?_
  refine h_iload (pc := 9) C dX5_doesMeet_9 0 rfl ?_
  obtain ⟨hi, v1, hv, hf⟩ := jrd_s hf
  refine h_iald (pc := 11) C 1 0 rfl rfl hi hv dX5_doesMeet_11 ?_
  clear hi hv
  refine h_iload (pc := 12) C dX5_doesMeet_12 5 rfl ?_
  refine h_icmp_gt (pc := 14) (tgt := 61) C dX5_doesMeet_14 (by decide) (fun q => ?_) (fun q => ?_)
  · replace hf := jif_t q hf
    clear q
    refine h_iconst (pc := 61) C dX5_doesMeet_61 jc_0 ?_
    have g0 := (Option.some.inj hf)
    clear hf
    subst g0
    exact h_zret C hr rfl dX5_doesMeet_62
  · replace hf := jif_f q hf
    clear q
    refine h_aload_n (pc := 17) C dX5_doesMeet_17 rfl 1 rfl ?_
    refine h_get (pc := 18) (ci := 3) (C0 := RX5) (T := TX5) (N := 16) C uX5_doesMeet_X5 rfl 0 rfl 1 (by decide) (List.mem_of_getElem? (i := 1) rfl) rfl rfl dX5_doesMeet_18 ?_
    refine h_iload (pc := 21) C dX5_doesMeet_21 0 rfl ?_
    refine h_iconst (pc := 23) C dX5_doesMeet_23 jc_2 ?_
    refine h_iadd (pc := 24) C dX5_doesMeet_24 ?_
    obtain ⟨hi, v2, hv, hf⟩ := jrd_s hf
    refine h_iald (pc := 25) C 1 0 rfl rfl hi hv dX5_doesMeet_25 ?_
    clear hi hv
    refine h_iload_n (pc := 26) C dX5_doesMeet_26 rfl 3 rfl ?_
    refine h_icmp_lt (pc := 27) (tgt := 61) C dX5_doesMeet_27 (by decide) (fun q => ?_) (fun q => ?_)
    · replace hf := jif_t q hf
      clear q
      refine h_iconst (pc := 61) C dX5_doesMeet_61 jc_0 ?_
      have g0 := (Option.some.inj hf)
      clear hf
      subst g0
      exact h_zret C hr rfl dX5_doesMeet_62
    · replace hf := jif_f q hf
      clear q
      refine h_aload_n (pc := 30) C dX5_doesMeet_30 rfl 1 rfl ?_
      refine h_get (pc := 31) (ci := 3) (C0 := RX5) (T := TX5) (N := 16) C uX5_doesMeet_X5 rfl 0 rfl 1 (by decide) (List.mem_of_getElem? (i := 1) rfl) rfl rfl dX5_doesMeet_31 ?_
      refine h_iload (pc := 34) C dX5_doesMeet_34 0 rfl ?_
      refine h_iconst (pc := 36) C dX5_doesMeet_36 jc_1 ?_
      refine h_iadd (pc := 37) C dX5_doesMeet_37 ?_
      obtain ⟨hi, v3, hv, hf⟩ := jrd_s hf
      refine h_iald (pc := 38) C 1 0 rfl rfl hi hv dX5_doesMeet_38 ?_
      clear hi hv
      refine h_iload (pc := 39) C dX5_doesMeet_39 6 rfl ?_
      refine h_icmp_gt (pc := 41) (tgt := 61) C dX5_doesMeet_41 (by decide) (fun q => ?_) (fun q => ?_)
      · replace hf := jif_t q hf
        clear q
        refine h_iconst (pc := 61) C dX5_doesMeet_61 jc_0 ?_
        have g0 := (Option.some.inj hf)
        clear hf
        subst g0
        exact h_zret C hr rfl dX5_doesMeet_62
      · replace hf := jif_f q hf
        clear q
        refine h_aload_n (pc := 44) C dX5_doesMeet_44 rfl 1 rfl ?_
        refine h_get (pc := 45) (ci := 3) (C0 := RX5) (T := TX5) (N := 16) C uX5_doesMeet_X5 rfl 0 rfl 1 (by decide) (List.mem_of_getElem? (i := 1) rfl) rfl rfl dX5_doesMeet_45 ?_
        refine h_iload (pc := 48) C dX5_doesMeet_48 0 rfl ?_
        refine h_iconst (pc := 50) C dX5_doesMeet_50 jc_3 ?_
        refine h_iadd (pc := 51) C dX5_doesMeet_51 ?_
        obtain ⟨hi, v4, hv, hf⟩ := jrd_s hf
        refine h_iald (pc := 52) C 1 0 rfl rfl hi hv dX5_doesMeet_52 ?_
        clear hi hv
        refine h_iload_n (pc := 53) C dX5_doesMeet_53 rfl 4 rfl ?_
        refine h_icmp_lt (pc := 54) (tgt := 61) C dX5_doesMeet_54 (by decide) (fun q => ?_) (fun q => ?_)
        · replace hf := jif_t q hf
          clear q
          refine h_iconst (pc := 61) C dX5_doesMeet_61 jc_0 ?_
          have g0 := (Option.some.inj hf)
          clear hf
          subst g0
          exact h_zret C hr rfl dX5_doesMeet_62
        · replace hf := jif_f q hf
          clear q
          refine h_iconst (pc := 57) C dX5_doesMeet_57 jc_1 ?_
          refine h_goto (pc := 58) (tgt := 62) C dX5_doesMeet_58 (by decide) ?_
          have g0 := (Option.some.inj hf)
          clear hf
          subst g0
          exact h_zret C hr rfl dX5_doesMeet_62
theorem pv_X5_doesMeet : yX5_doesMeet.cls = RX5 ∧ yX5_doesMeet.cls ≠ "java/lang/invoke/MethodHandle" ∧ yX5_doesMeet.cls ≠ "java/lang/invoke/VarHandle" ∧ (parseMethodDescriptor yX5_doesMeet.desc).map (fun d => d.parameters.length) = some 5 := by decide +kernel
abbrev rmX5_met : Room := { frames := 1, cells := 0, slots := 0, locals := 26 }
theorem uX5_met_X5 : ∀ w ∈ u_ws RX5 TX5 16, w ∈ wsX5_met := fun w h => List.mem_cons_of_mem _ (List.mem_append_right _ h)
set_option maxRecDepth 100000 in
set_option maxHeartbeats 4000000 in
theorem k_X5_met_41 {p : Program} {e : Env} {s : State} {m : MethodId} {args : Array Value} {below : List Frame} {meth : Method} {c : Code} {A : Nat → Prop} (l : Launch) (D : va_G) (cT : Nat → ClassId) (ad : Nat → Nat) (C : hC p s m args meth c cX5_met 7 wsX5_met RX5 D (ty4 cT) A) (hr : meth.sig.returnType = (some .int)) (n : Nat) (madded : Int32) (msides : Nat → Int32) (mkey : Nat → Int32) (misThere : Nat → Int32) (mboxes : Int32) (morder : Nat → Int32) (mlevels : Int32) (mnodes : Nat → Int32) (mentries : Nat → Int32) (mleft : Int32) (mlow : Int32) (mright : Int32) (mhigh : Int32) (mfirst : Int32) (mend : Int32) (mthrown : Int32) (r : Int32) (k6 : Int32 → Int32 → Int32 → Int32 → Int32 → Int32 → Option (Int32)) (K6 : ∀  (x1 : Int32) (x2 : Int32) (x3 : Int32) (x4 : Int32) (x5 : Int32) (x6 : Int32), k6 x1 x2 x3 x4 x5 x6 = some r → hS p l e rmX5_met s m args below meth c 7 D A 0 0 (MQ below (cQ D (ty4 cT) A (some (.int r)) (wM cT ad madded msides mkey misThere mboxes morder mlevels mnodes mentries mleft mlow mright mhigh mfirst mend mthrown)) args s 0 0 A) 6 [(0, .ref (ad 10)), (1, .int x1), (2, .int x2), (3, .int x3), (4, .int x4), (5, .int x5), (6, .int x6)] [] (wM cT ad madded msides mkey misThere mboxes morder mlevels mnodes mentries mleft mlow mright mhigh mfirst mend mthrown)) : ∀  (x1 : Int32) (x2 : Int32) (x3 : Int32) (x4 : Int32) (x6 : Int32) (t0 : Int32) (t1 : Int32), f_X5_met_41 n msides mboxes morder k6 x1 x2 x3 x4 x6 t0 t1 = some r → hS p l e rmX5_met s m args below meth c 7 D A 0 0 (MQ below (cQ D (ty4 cT) A (some (.int r)) (wM cT ad madded msides mkey misThere mboxes morder mlevels mnodes mentries mleft mlow mright mhigh mfirst mend mthrown)) args s 0 0 A) 41 [(0, .ref (ad 10)), (1, .int x1), (2, .int x2), (3, .int x3), (4, .int x4), (6, .int x6)] (.int t1 :: .int t0 :: []) (wM cT ad madded msides mkey misThere mboxes morder mlevels mnodes mentries mleft mlow mright mhigh mfirst mend mthrown) := by
  intro x1 x2 x3 x4 x6 t0 t1 hf
  unfold f_X5_met_41 at hf
  refine h_iadd (pc := 41) C dX5_met_41 ?_
  refine h_istore (pc := 42) (lv' := [(5, .int (t0 + t1)), (0, .ref (ad 10)), (1, .int x1), (2, .int x2), (3, .int x3), (4, .int x4), (6, .int x6)]) C dX5_met_42 (by decide) rfl ?_
  refine h_iinc (pc := 44) (v := x6 + 1) (lv' := [(6, .int (x6 + 1)), (5, .int (t0 + t1)), (0, .ref (ad 10)), (1, .int x1), (2, .int x2), (3, .int x3), (4, .int x4)]) C dX5_met_44 6 rfl (ji_1 _) (by decide) rfl ?_
  refine h_goto (pc := 47) (tgt := 6) C dX5_met_47 (by decide) ?_
  refine h_sub [2, 3, 4, 5, 6, 1, 0] rfl ?_
  exact K6 x1 x2 x3 x4 (t0 + t1) (x6 + 1) hf
set_option maxRecDepth 100000 in
set_option maxHeartbeats 4000000 in
theorem k_X5_met_6 {p : Program} {e : Env} {s : State} {m : MethodId} {args : Array Value} {below : List Frame} {meth : Method} {c : Code} {A : Nat → Prop} (l : Launch) (D : va_G) (cT : Nat → ClassId) (ad : Nat → Nat) (C : hC p s m args meth c cX5_met 7 wsX5_met RX5 D (ty4 cT) A) (hr : meth.sig.returnType = (some .int)) (n : Nat) (madded : Int32) (msides : Nat → Int32) (mkey : Nat → Int32) (misThere : Nat → Int32) (mboxes : Int32) (morder : Nat → Int32) (mlevels : Int32) (mnodes : Nat → Int32) (mentries : Nat → Int32) (mleft : Int32) (mlow : Int32) (mright : Int32) (mhigh : Int32) (mfirst : Int32) (mend : Int32) (mthrown : Int32) (r : Int32)  : ∀ (fu : Nat)  (x1 : Int32) (x2 : Int32) (x3 : Int32) (x4 : Int32) (x5 : Int32) (x6 : Int32), f_X5_met_6 n msides mboxes morder fu x1 x2 x3 x4 x5 x6 = some r → hS p l e rmX5_met s m args below meth c 7 D A 0 0 (MQ below (cQ D (ty4 cT) A (some (.int r)) (wM cT ad madded msides mkey misThere mboxes morder mlevels mnodes mentries mleft mlow mright mhigh mfirst mend mthrown)) args s 0 0 A) 6 [(0, .ref (ad 10)), (1, .int x1), (2, .int x2), (3, .int x3), (4, .int x4), (5, .int x5), (6, .int x6)] [] (wM cT ad madded msides mkey misThere mboxes morder mlevels mnodes mentries mleft mlow mright mhigh mfirst mend mthrown) := by
  intro fu
  induction fu with
  | zero =>
    intro x1 x2 x3 x4 x5 x6 hf
    exact nomatch (show (none : Option (Int32)) = some r from hf)
  | succ fu ih =>
    intro x1 x2 x3 x4 x5 x6 hf
    rw [f_X5_met_6] at hf
    refine h_iload (pc := 6) C dX5_met_6 6 rfl ?_
    refine h_aload_n (pc := 8) C dX5_met_8 rfl 0 rfl ?_
    refine h_get (pc := 9) (ci := 3) (C0 := RX5) (T := TX5) (N := 16) C uX5_met_X5 rfl 0 rfl 4 (by decide) (List.mem_of_getElem? (i := 1) rfl) rfl rfl dX5_met_9 ?_
    refine h_icmp_ge (pc := 12) (tgt := 50) C dX5_met_12 (by decide) (fun q => ?_) (fun q => ?_)
    · replace hf := jif_t q hf
      clear q
      refine h_iload (pc := 50) C dX5_met_50 5 rfl ?_
      have g0 := (Option.some.inj hf)
      clear hf
      subst g0
      exact h_iret C hr dX5_met_52
    · replace hf := jif_f q hf
      clear q
      refine h_iload (pc := 15) C dX5_met_15 5 rfl ?_
      refine h_aload_n (pc := 17) C dX5_met_17 rfl 0 rfl ?_
      refine h_aload_n (pc := 18) C dX5_met_18 rfl 0 rfl ?_
      refine h_get (pc := 19) (ci := 3) (C0 := RX5) (T := TX5) (N := 16) C uX5_met_X5 rfl 0 rfl 5 (by decide) (List.mem_of_getElem? (i := 2) rfl) rfl rfl dX5_met_19 ?_
      refine h_iload (pc := 22) C dX5_met_22 6 rfl ?_
      obtain ⟨hi, v1, hv, hf⟩ := jrd_s hf
      refine h_iald (pc := 24) C 4 0 rfl rfl hi hv dX5_met_24 ?_
      clear hi hv
      refine h_iload_n (pc := 25) C dX5_met_25 rfl 1 rfl ?_
      refine h_iload_n (pc := 26) C dX5_met_26 rfl 2 rfl ?_
      refine h_iload_n (pc := 27) C dX5_met_27 rfl 3 rfl ?_
      refine h_iload (pc := 28) C dX5_met_28 4 rfl ?_
      obtain ⟨v2, hc, hf⟩ := jbd_s hf
      refine h_callV (pc := 30) (q0 := 0) (As := [.int v1, .int x1, .int x2, .int x3, .int x4]) (rest := .int x5 :: []) (ws' := (wM cT ad madded msides mkey misThere mboxes morder mlevels mnodes mentries mleft mlow mright mhigh mfirst mend mthrown)) (st2 := .int v2 :: .int x5 :: []) C (c_X5_doesMeet l D cT ad n madded msides mkey misThere mboxes morder mlevels mnodes mentries mleft mlow mright mhigh mfirst mend mthrown v1 x1 x2 x3 x4 v2 hc) (cwV 5 C.1.2.2.2.2 gX5_met_X5_doesMeet rfl rfl rfl pv_X5_doesMeet ⟨(Nat.le_of_ble_eq_true rfl), (Nat.le_of_ble_eq_true rfl)⟩) dX5_met_30 rfl rfl rfl rfl rfl (Nat.le_of_ble_eq_true rfl) ⟨rfl, rfl⟩ ⟨(Nat.le_of_ble_eq_true rfl), (Nat.le_of_ble_eq_true rfl)⟩ [0, 1, 2, 3, 4, 5, 6] [] [0, 1, 2, 3, 4, 5, 6] rfl rfl rfl rfl (by decide) rfl rfl rfl ?_
      clear hc
      refine h_if_eq (pc := 33) (tgt := 40) C dX5_met_33 (by decide) (fun q => ?_) (fun q => ?_)
      · replace hf := jif_t q hf
        clear q
        refine h_iconst (pc := 40) C dX5_met_40 jc_0 ?_
        refine h_sub [0, 1, 2, 3, 4, 6] rfl ?_
        exact k_X5_met_41 l D cT ad C hr n madded msides mkey misThere mboxes morder mlevels mnodes mentries mleft mlow mright mhigh mfirst mend mthrown r (f_X5_met_6 n msides mboxes morder fu) ih x1 x2 x3 x4 x6 x5 0 hf
      · replace hf := jif_f q hf
        clear q
        refine h_iconst (pc := 36) C dX5_met_36 jc_1 ?_
        refine h_goto (pc := 37) (tgt := 41) C dX5_met_37 (by decide) ?_
        refine h_sub [0, 1, 2, 3, 4, 6] rfl ?_
        exact k_X5_met_41 l D cT ad C hr n madded msides mkey misThere mboxes morder mlevels mnodes mentries mleft mlow mright mhigh mfirst mend mthrown r (f_X5_met_6 n msides mboxes morder fu) ih x1 x2 x3 x4 x6 x5 1 hf
set_option maxRecDepth 100000 in
set_option maxHeartbeats 4000000 in
theorem c_X5_met (l : Launch) (D : va_G) (cT : Nat → ClassId) (ad : Nat → Nat) (n : Nat) (madded : Int32) (msides : Nat → Int32) (mkey : Nat → Int32) (misThere : Nat → Int32) (mboxes : Int32) (morder : Nat → Int32) (mlevels : Int32) (mnodes : Nat → Int32) (mentries : Nat → Int32) (mleft : Int32) (mlow : Int32) (mright : Int32) (mhigh : Int32) (mfirst : Int32) (mend : Int32) (mthrown : Int32) (a1 : Int32) (a2 : Int32) (a3 : Int32) (a4 : Int32) (r : Int32) (hf : f_X5_met n msides mboxes morder a1 a2 a3 a4 = some r) : cM l yX5_met wsX5_met rmX5_met D (ty4 cT) [.ref (ad 10), .int a1, .int a2, .int a3, .int a4] (wM cT ad madded msides mkey misThere mboxes morder mlevels mnodes mentries mleft mlow mright mhigh mfirst mend mthrown) (some (.int r)) (wM cT ad madded msides mkey misThere mboxes morder mlevels mnodes mentries mleft mlow mright mhigh mfirst mend mthrown) := by
  refine cM_of (cc := cX5_met) (maxL := 7) (ret := (some .int)) (own := RX5) (lv := [(0, .ref (ad 10)), (1, .int a1), (2, .int a2), (3, .int a3), (4, .int a4)]) (by decide) rfl (Nat.le_of_ble_eq_true rfl) rfl rfl ?_
  intro p e s m args below meth c A C hr
  unfold f_X5_met at hf
  refine h_iconst (pc := 0) C dX5_met_0 jc_0 ?_
  refine h_istore (pc := 1) (lv' := [(5, .int 0), (0, .ref (ad 10)), (1, .int a1), (2, .int a2), (3, .int a3), (4, .int a4)]) C dX5_met_1 (by decide) rfl ?_
  refine h_iconst (pc := 3) C dX5_met_3 jc_0 ?_
  refine h_istore (pc := 4) (lv' := [(6, .int 0), (5, .int 0), (0, .ref (ad 10)), (1, .int a1), (2, .int a2), (3, .int a3), (4, .int a4)]) C dX5_met_4 (by decide) rfl ?_
  refine h_sub [2, 3, 4, 5, 6, 1, 0] rfl ?_
  exact k_X5_met_6 l D cT ad C hr n madded msides mkey misThere mboxes morder mlevels mnodes mentries mleft mlow mright mhigh mfirst mend mthrown r n a1 a2 a3 a4 0 0 hf
theorem pv_X5_met : yX5_met.cls = RX5 ∧ yX5_met.cls ≠ "java/lang/invoke/MethodHandle" ∧ yX5_met.cls ≠ "java/lang/invoke/VarHandle" ∧ (parseMethodDescriptor yX5_met.desc).map (fun d => d.parameters.length) = some 4 := by decide +kernel
abbrev rmX5_count : Room := { frames := 2, cells := 0, slots := 0, locals := 52 }
set_option maxRecDepth 100000 in
set_option maxHeartbeats 4000000 in
theorem k_X5_count_17 {p : Program} {e : Env} {s : State} {m : MethodId} {args : Array Value} {below : List Frame} {meth : Method} {c : Code} {A : Nat → Prop} (l : Launch) (D : va_G) (cT : Nat → ClassId) (ad : Nat → Nat) (C : hC p s m args meth c cX5_count 5 wsX5_count RX5 D (ty4 cT) A) (hr : meth.sig.returnType = (some .int)) (n : Nat) (madded : Int32) (msides : Nat → Int32) (mkey : Nat → Int32) (misThere : Nat → Int32) (mboxes : Int32) (morder : Nat → Int32) (mlevels : Int32) (mnodes : Nat → Int32) (mentries : Nat → Int32) (mleft : Int32) (mlow : Int32) (mright : Int32) (mhigh : Int32) (mfirst : Int32) (mend : Int32) (r : Int32) (mthrown' : Int32)  : ∀ (mthrown : Int32) (x1 : Int32) (x2 : Int32) (x3 : Int32) (x4 : Int32) (t1 : Int32), f_X5_count_17 n msides mboxes morder mthrown x1 x2 x3 x4 t1 = some (r, mthrown') → hS p l e rmX5_count s m args below meth c 5 D A 0 0 (MQ below (cQ D (ty4 cT) A (some (.int r)) (wM cT ad madded msides mkey misThere mboxes morder mlevels mnodes mentries mleft mlow mright mhigh mfirst mend mthrown')) args s 0 0 A) 17 [(0, .ref (ad 10)), (1, .int x1), (2, .int x2), (3, .int x3), (4, .int x4)] (.int t1 :: .ref (ad 10) :: []) (wM cT ad madded msides mkey misThere mboxes morder mlevels mnodes mentries mleft mlow mright mhigh mfirst mend mthrown) := by
  intro mthrown x1 x2 x3 x4 t1 hf
  unfold f_X5_count_17 at hf
  obtain ⟨v2, hc, hf⟩ := jbd_s hf
  refine h_callV (pc := 17) (q0 := 0) (As := [.int t1]) (rest := []) (ws' := (wM cT ad madded msides mkey misThere mboxes morder mlevels mnodes mentries mleft mlow mright mhigh mfirst mend v2.2)) (st2 := .int v2.1 :: []) C (c_X5_fails l D cT ad n madded msides mkey misThere mboxes morder mlevels mnodes mentries mleft mlow mright mhigh mfirst mend mthrown t1 v2.1 v2.2 hc) (cwV 1 C.1.2.2.2.2 gX5_count_X5_fails rfl rfl rfl pv_X5_fails ⟨(Nat.le_of_ble_eq_true rfl), (Nat.le_of_ble_eq_true rfl)⟩) dX5_count_17 rfl rfl rfl rfl rfl (Nat.le_of_ble_eq_true rfl) ⟨rfl, rfl⟩ ⟨(Nat.le_of_ble_eq_true rfl), (Nat.le_of_ble_eq_true rfl)⟩ [0, 1, 2, 3, 4, 5, 6] [] [0, 1, 2, 3, 4, 5, 6] rfl rfl rfl rfl (by decide) rfl rfl rfl ?_
  clear hc
  refine h_if_eq (pc := 20) (tgt := 27) C dX5_count_20 (by decide) (fun q => ?_) (fun q => ?_)
  · replace hf := jif_t q hf
    clear q
    refine h_aload_n (pc := 27) C dX5_count_27 rfl 0 rfl ?_
    refine h_iload_n (pc := 28) C dX5_count_28 rfl 1 rfl ?_
    refine h_iload_n (pc := 29) C dX5_count_29 rfl 2 rfl ?_
    refine h_iload_n (pc := 30) C dX5_count_30 rfl 3 rfl ?_
    refine h_iload (pc := 31) C dX5_count_31 4 rfl ?_
    obtain ⟨v3, hc, hf⟩ := jbd_s hf
    refine h_callV (pc := 33) (q0 := 0) (As := [.int x1, .int x2, .int x3, .int x4]) (rest := []) (ws' := (wM cT ad madded msides mkey misThere mboxes morder mlevels mnodes mentries mleft mlow mright mhigh mfirst mend v2.2)) (st2 := .int v3 :: []) C (c_X5_met l D cT ad n madded msides mkey misThere mboxes morder mlevels mnodes mentries mleft mlow mright mhigh mfirst mend v2.2 x1 x2 x3 x4 v3 hc) (cwV 4 C.1.2.2.2.2 gX5_count_X5_met rfl rfl rfl pv_X5_met ⟨(Nat.le_of_ble_eq_true rfl), (Nat.le_of_ble_eq_true rfl)⟩) dX5_count_33 rfl rfl rfl rfl rfl (Nat.le_of_ble_eq_true rfl) ⟨rfl, rfl⟩ ⟨(Nat.le_of_ble_eq_true rfl), (Nat.le_of_ble_eq_true rfl)⟩ [0, 1, 2, 3, 4, 5, 6] [] [0, 1, 2, 3, 4, 5, 6] rfl rfl rfl rfl (by decide) rfl rfl rfl ?_
    clear hc
    have g0 := (Prod.mk.inj (Option.some.inj hf)).1
    have g1 := (Prod.mk.inj (Option.some.inj hf)).2
    clear hf
    subst g0
    subst g1
    exact h_iret C hr dX5_count_36
  · replace hf := jif_f q hf
    clear q
    refine h_iconst (pc := 23) C dX5_count_23 jc_0 ?_
    refine h_goto (pc := 24) (tgt := 36) C dX5_count_24 (by decide) ?_
    have g0 := (Prod.mk.inj (Option.some.inj hf)).1
    have g1 := (Prod.mk.inj (Option.some.inj hf)).2
    clear hf
    subst g0
    subst g1
    exact h_iret C hr dX5_count_36
set_option maxRecDepth 100000 in
set_option maxHeartbeats 4000000 in
theorem c_X5_count (l : Launch) (D : va_G) (cT : Nat → ClassId) (ad : Nat → Nat) (n : Nat) (madded : Int32) (msides : Nat → Int32) (mkey : Nat → Int32) (misThere : Nat → Int32) (mboxes : Int32) (morder : Nat → Int32) (mlevels : Int32) (mnodes : Nat → Int32) (mentries : Nat → Int32) (mleft : Int32) (mlow : Int32) (mright : Int32) (mhigh : Int32) (mfirst : Int32) (mend : Int32) (mthrown : Int32) (a1 : Int32) (a2 : Int32) (a3 : Int32) (a4 : Int32) (r : Int32) (mthrown' : Int32) (hf : f_X5_count n msides mboxes morder mthrown a1 a2 a3 a4 = some (r, mthrown')) : cM l yX5_count wsX5_count rmX5_count D (ty4 cT) [.ref (ad 10), .int a1, .int a2, .int a3, .int a4] (wM cT ad madded msides mkey misThere mboxes morder mlevels mnodes mentries mleft mlow mright mhigh mfirst mend mthrown) (some (.int r)) (wM cT ad madded msides mkey misThere mboxes morder mlevels mnodes mentries mleft mlow mright mhigh mfirst mend mthrown') := by
  refine cM_of (cc := cX5_count) (maxL := 5) (ret := (some .int)) (own := RX5) (lv := [(0, .ref (ad 10)), (1, .int a1), (2, .int a2), (3, .int a3), (4, .int a4)]) (by decide) rfl (Nat.le_of_ble_eq_true rfl) rfl rfl ?_
  intro p e s m args below meth c A C hr
  unfold f_X5_count at hf
  refine h_aload_n (pc := 0) C dX5_count_0 rfl 0 rfl ?_
  refine h_iload_n (pc := 1) C dX5_count_1 rfl 1 rfl ?_
  refine h_iload_n (pc := 2) C dX5_count_2 rfl 2 rfl ?_
  refine h_iload_n (pc := 3) C dX5_count_3 rfl 3 rfl ?_
  refine h_iload (pc := 4) C dX5_count_4 4 rfl ?_
  obtain ⟨v1, hc, hf⟩ := jbd_s hf
  refine h_callP (pc := 6) (As := [.int a1, .int a2, .int a3, .int a4]) (rest := .ref (ad 10) :: []) (st2 := .int v1 :: .ref (ad 10) :: []) C (c_X5_isArea l D cT ad n a1 a2 a3 a4 v1 hc) (va_cwS 4 C.1.2.2.2.2 gX5_count_X5_isArea rfl rfl rfl ps_X5_isArea ⟨(Nat.le_of_ble_eq_true rfl), (Nat.le_of_ble_eq_true rfl)⟩) dX5_count_6 rfl rfl (Nat.le_of_ble_eq_true rfl) ⟨rfl, rfl⟩ ⟨(Nat.le_of_ble_eq_true rfl), (Nat.le_of_ble_eq_true rfl)⟩ rfl ?_
  clear hc
  refine h_if_eq (pc := 9) (tgt := 16) C dX5_count_9 (by decide) (fun q => ?_) (fun q => ?_)
  · replace hf := jif_t q hf
    clear q
    refine h_iconst (pc := 16) C dX5_count_16 jc_1 ?_
    exact k_X5_count_17 l D cT ad C hr n madded msides mkey misThere mboxes morder mlevels mnodes mentries mleft mlow mright mhigh mfirst mend r mthrown' mthrown a1 a2 a3 a4 1 hf
  · replace hf := jif_f q hf
    clear q
    refine h_iconst (pc := 12) C dX5_count_12 jc_0 ?_
    refine h_goto (pc := 13) (tgt := 17) C dX5_count_13 (by decide) ?_
    exact k_X5_count_17 l D cT ad C hr n madded msides mkey misThere mboxes morder mlevels mnodes mentries mleft mlow mright mhigh mfirst mend r mthrown' mthrown a1 a2 a3 a4 0 hf
theorem pv_X5_count : yX5_count.cls = RX5 ∧ yX5_count.cls ≠ "java/lang/invoke/MethodHandle" ∧ yX5_count.cls ≠ "java/lang/invoke/VarHandle" ∧ (parseMethodDescriptor yX5_count.desc).map (fun d => d.parameters.length) = some 4 := by decide +kernel
abbrev rmX5_found : Room := { frames := 2, cells := 0, slots := 0, locals := 52 }
theorem uX5_found_X5 : ∀ w ∈ u_ws RX5 TX5 16, w ∈ wsX5_found := fun w h => List.mem_cons_of_mem _ (List.mem_append_right _ h)
set_option maxRecDepth 100000 in
set_option maxHeartbeats 4000000 in
theorem k_X5_found_109 {p : Program} {e : Env} {s : State} {m : MethodId} {args : Array Value} {below : List Frame} {meth : Method} {c : Code} {A : Nat → Prop} (l : Launch) (D : va_G) (cT : Nat → ClassId) (ad : Nat → Nat) (C : hC p s m args meth c cX5_found 9 wsX5_found RX5 D (ty4 cT) A) (hr : meth.sig.returnType = (some .int)) (n : Nat) (madded : Int32) (msides : Nat → Int32) (mkey : Nat → Int32) (misThere : Nat → Int32) (mboxes : Int32) (morder : Nat → Int32) (mlevels : Int32) (mnodes : Nat → Int32) (mentries : Nat → Int32) (mleft : Int32) (mlow : Int32) (mright : Int32) (mhigh : Int32) (mfirst : Int32) (mend : Int32) (r : Int32) (mthrown' : Int32) (k59 : Int32 → Int32 → Int32 → Int32 → Int32 → Int32 → Int32 → Option (Int32 × Int32)) (K59 : ∀ (mthrown : Int32) (x1 : Int32) (x2 : Int32) (x3 : Int32) (x4 : Int32) (x7 : Int32) (x8 : Int32), k59 mthrown x1 x2 x3 x4 x7 x8 = some (r, mthrown') → hS p l e rmX5_found s m args below meth c 9 D A 0 0 (MQ below (cQ D (ty4 cT) A (some (.int r)) (wM cT ad madded msides mkey misThere mboxes morder mlevels mnodes mentries mleft mlow mright mhigh mfirst mend mthrown')) args s 0 0 A) 59 [(0, .ref (ad 10)), (1, .int x1), (2, .int x2), (3, .int x3), (4, .int x4), (7, .int x7), (8, .int x8)] [] (wM cT ad madded msides mkey misThere mboxes morder mlevels mnodes mentries mleft mlow mright mhigh mfirst mend mthrown)) : ∀ (mthrown : Int32) (x1 : Int32) (x2 : Int32) (x3 : Int32) (x4 : Int32) (x8 : Int32) (t0 : Int32) (t1 : Int32), f_X5_found_109 n msides mboxes morder k59 mthrown x1 x2 x3 x4 x8 t0 t1 = some (r, mthrown') → hS p l e rmX5_found s m args below meth c 9 D A 0 0 (MQ below (cQ D (ty4 cT) A (some (.int r)) (wM cT ad madded msides mkey misThere mboxes morder mlevels mnodes mentries mleft mlow mright mhigh mfirst mend mthrown')) args s 0 0 A) 109 [(0, .ref (ad 10)), (1, .int x1), (2, .int x2), (3, .int x3), (4, .int x4), (8, .int x8)] (.int t1 :: .int t0 :: []) (wM cT ad madded msides mkey misThere mboxes morder mlevels mnodes mentries mleft mlow mright mhigh mfirst mend mthrown) := by
  intro mthrown x1 x2 x3 x4 x8 t0 t1 hf
  unfold f_X5_found_109 at hf
  refine h_isub (pc := 109) C dX5_found_109 ?_
  refine h_istore (pc := 110) (lv' := [(7, .int (t0 - t1)), (0, .ref (ad 10)), (1, .int x1), (2, .int x2), (3, .int x3), (4, .int x4), (8, .int x8)]) C dX5_found_110 (by decide) rfl ?_
  refine h_iinc (pc := 112) (v := x8 + 1) (lv' := [(8, .int (x8 + 1)), (7, .int (t0 - t1)), (0, .ref (ad 10)), (1, .int x1), (2, .int x2), (3, .int x3), (4, .int x4)]) C dX5_found_112 6 rfl (ji_1 _) (by decide) rfl ?_
  refine h_goto (pc := 115) (tgt := 59) C dX5_found_115 (by decide) ?_
  refine h_sub [2, 3, 4, 5, 6, 1, 0] rfl ?_
  exact K59 mthrown x1 x2 x3 x4 (t0 - t1) (x8 + 1) hf
set_option maxRecDepth 100000 in
set_option maxHeartbeats 4000000 in
theorem k_X5_found_83 {p : Program} {e : Env} {s : State} {m : MethodId} {args : Array Value} {below : List Frame} {meth : Method} {c : Code} {A : Nat → Prop} (l : Launch) (D : va_G) (cT : Nat → ClassId) (ad : Nat → Nat) (C : hC p s m args meth c cX5_found 9 wsX5_found RX5 D (ty4 cT) A) (hr : meth.sig.returnType = (some .int)) (n : Nat) (madded : Int32) (msides : Nat → Int32) (mkey : Nat → Int32) (misThere : Nat → Int32) (mboxes : Int32) (morder : Nat → Int32) (mlevels : Int32) (mnodes : Nat → Int32) (mentries : Nat → Int32) (mleft : Int32) (mlow : Int32) (mright : Int32) (mhigh : Int32) (mfirst : Int32) (mend : Int32) (r : Int32) (mthrown' : Int32) (k59 : Int32 → Int32 → Int32 → Int32 → Int32 → Int32 → Int32 → Option (Int32 × Int32)) (K59 : ∀ (mthrown : Int32) (x1 : Int32) (x2 : Int32) (x3 : Int32) (x4 : Int32) (x7 : Int32) (x8 : Int32), k59 mthrown x1 x2 x3 x4 x7 x8 = some (r, mthrown') → hS p l e rmX5_found s m args below meth c 9 D A 0 0 (MQ below (cQ D (ty4 cT) A (some (.int r)) (wM cT ad madded msides mkey misThere mboxes morder mlevels mnodes mentries mleft mlow mright mhigh mfirst mend mthrown')) args s 0 0 A) 59 [(0, .ref (ad 10)), (1, .int x1), (2, .int x2), (3, .int x3), (4, .int x4), (7, .int x7), (8, .int x8)] [] (wM cT ad madded msides mkey misThere mboxes morder mlevels mnodes mentries mleft mlow mright mhigh mfirst mend mthrown)) : ∀ (mthrown : Int32) (x1 : Int32) (x2 : Int32) (x3 : Int32) (x4 : Int32) (x7 : Int32) (x8 : Int32), f_X5_found_83 n msides mboxes morder k59 mthrown x1 x2 x3 x4 x7 x8 = some (r, mthrown') → hS p l e rmX5_found s m args below meth c 9 D A 0 0 (MQ below (cQ D (ty4 cT) A (some (.int r)) (wM cT ad madded msides mkey misThere mboxes morder mlevels mnodes mentries mleft mlow mright mhigh mfirst mend mthrown')) args s 0 0 A) 83 [(0, .ref (ad 10)), (1, .int x1), (2, .int x2), (3, .int x3), (4, .int x4), (7, .int x7), (8, .int x8)] [] (wM cT ad madded msides mkey misThere mboxes morder mlevels mnodes mentries mleft mlow mright mhigh mfirst mend mthrown) := by
  intro mthrown x1 x2 x3 x4 x7 x8 hf
  unfold f_X5_found_83 at hf
  refine h_iload (pc := 83) C dX5_found_83 5 rfl ?_
  refine h_aload_n (pc := 85) C dX5_found_85 rfl 0 rfl ?_
  refine h_aload_n (pc := 86) C dX5_found_86 rfl 0 rfl ?_
  refine h_get (pc := 87) (ci := 3) (C0 := RX5) (T := TX5) (N := 16) C uX5_found_X5 rfl 0 rfl 5 (by decide) (List.mem_of_getElem? (i := 1) rfl) rfl rfl dX5_found_87 ?_
  refine h_iload (pc := 90) C dX5_found_90 6 rfl ?_
  obtain ⟨hi, v7, hv, hf⟩ := jrd_s hf
  refine h_iald (pc := 92) C 4 0 rfl rfl hi hv dX5_found_92 ?_
  clear hi hv
  refine h_iload_n (pc := 93) C dX5_found_93 rfl 1 rfl ?_
  refine h_iload_n (pc := 94) C dX5_found_94 rfl 2 rfl ?_
  refine h_iload_n (pc := 95) C dX5_found_95 rfl 3 rfl ?_
  refine h_iload (pc := 96) C dX5_found_96 4 rfl ?_
  obtain ⟨v8, hc, hf⟩ := jbd_s hf
  refine h_callV (pc := 98) (q0 := 0) (As := [.int v7, .int x1, .int x2, .int x3, .int x4]) (rest := .int x7 :: []) (ws' := (wM cT ad madded msides mkey misThere mboxes morder mlevels mnodes mentries mleft mlow mright mhigh mfirst mend mthrown)) (st2 := .int v8 :: .int x7 :: []) C (c_X5_doesMeet l D cT ad n madded msides mkey misThere mboxes morder mlevels mnodes mentries mleft mlow mright mhigh mfirst mend mthrown v7 x1 x2 x3 x4 v8 hc) (cwV 5 C.1.2.2.2.2 gX5_found_X5_doesMeet rfl rfl rfl pv_X5_doesMeet ⟨(Nat.le_of_ble_eq_true rfl), (Nat.le_of_ble_eq_true rfl)⟩) dX5_found_98 rfl rfl rfl rfl rfl (Nat.le_of_ble_eq_true rfl) ⟨rfl, rfl⟩ ⟨(Nat.le_of_ble_eq_true rfl), (Nat.le_of_ble_eq_true rfl)⟩ [0, 1, 2, 3, 4, 5, 6] [] [0, 1, 2, 3, 4, 5, 6] rfl rfl rfl rfl (by decide) rfl rfl rfl ?_
  clear hc
  refine h_if_eq (pc := 101) (tgt := 108) C dX5_found_101 (by decide) (fun q => ?_) (fun q => ?_)
  · replace hf := jif_t q hf
    clear q
    refine h_iconst (pc := 108) C dX5_found_108 jc_0 ?_
    refine h_sub [0, 1, 2, 3, 4, 6] rfl ?_
    exact k_X5_found_109 l D cT ad C hr n madded msides mkey misThere mboxes morder mlevels mnodes mentries mleft mlow mright mhigh mfirst mend r mthrown' k59 K59 mthrown x1 x2 x3 x4 x8 x7 0 hf
  · replace hf := jif_f q hf
    clear q
    refine h_iconst (pc := 104) C dX5_found_104 jc_1 ?_
    refine h_goto (pc := 105) (tgt := 109) C dX5_found_105 (by decide) ?_
    refine h_sub [0, 1, 2, 3, 4, 6] rfl ?_
    exact k_X5_found_109 l D cT ad C hr n madded msides mkey misThere mboxes morder mlevels mnodes mentries mleft mlow mright mhigh mfirst mend r mthrown' k59 K59 mthrown x1 x2 x3 x4 x8 x7 1 hf
set_option maxRecDepth 100000 in
set_option maxHeartbeats 4000000 in
theorem k_X5_found_59 {p : Program} {e : Env} {s : State} {m : MethodId} {args : Array Value} {below : List Frame} {meth : Method} {c : Code} {A : Nat → Prop} (l : Launch) (D : va_G) (cT : Nat → ClassId) (ad : Nat → Nat) (C : hC p s m args meth c cX5_found 9 wsX5_found RX5 D (ty4 cT) A) (hr : meth.sig.returnType = (some .int)) (n : Nat) (madded : Int32) (msides : Nat → Int32) (mkey : Nat → Int32) (misThere : Nat → Int32) (mboxes : Int32) (morder : Nat → Int32) (mlevels : Int32) (mnodes : Nat → Int32) (mentries : Nat → Int32) (mleft : Int32) (mlow : Int32) (mright : Int32) (mhigh : Int32) (mfirst : Int32) (mend : Int32) (r : Int32) (mthrown' : Int32)  : ∀ (fu : Nat) (mthrown : Int32) (x1 : Int32) (x2 : Int32) (x3 : Int32) (x4 : Int32) (x7 : Int32) (x8 : Int32), f_X5_found_59 n msides mboxes morder fu mthrown x1 x2 x3 x4 x7 x8 = some (r, mthrown') → hS p l e rmX5_found s m args below meth c 9 D A 0 0 (MQ below (cQ D (ty4 cT) A (some (.int r)) (wM cT ad madded msides mkey misThere mboxes morder mlevels mnodes mentries mleft mlow mright mhigh mfirst mend mthrown')) args s 0 0 A) 59 [(0, .ref (ad 10)), (1, .int x1), (2, .int x2), (3, .int x3), (4, .int x4), (7, .int x7), (8, .int x8)] [] (wM cT ad madded msides mkey misThere mboxes morder mlevels mnodes mentries mleft mlow mright mhigh mfirst mend mthrown) := by
  intro fu
  induction fu with
  | zero =>
    intro mthrown x1 x2 x3 x4 x7 x8 hf
    exact nomatch (show (none : Option (Int32 × Int32)) = some (r, mthrown') from hf)
  | succ fu ih =>
    intro mthrown x1 x2 x3 x4 x7 x8 hf
    rw [f_X5_found_59] at hf
    refine h_iload (pc := 59) C dX5_found_59 5 rfl ?_
    refine h_if_gt (pc := 61) (tgt := 83) C dX5_found_61 (by decide) (fun q => ?_) (fun q => ?_)
    · replace hf := jif_t q hf
      clear q
      exact k_X5_found_83 l D cT ad C hr n madded msides mkey misThere mboxes morder mlevels mnodes mentries mleft mlow mright mhigh mfirst mend r mthrown' (f_X5_found_59 n msides mboxes morder fu) ih mthrown x1 x2 x3 x4 x7 x8 hf
    · replace hf := jif_f q hf
      clear q
      refine h_aload_n (pc := 64) C dX5_found_64 rfl 0 rfl ?_
      refine h_aload_n (pc := 65) C dX5_found_65 rfl 0 rfl ?_
      refine h_get (pc := 66) (ci := 3) (C0 := RX5) (T := TX5) (N := 16) C uX5_found_X5 rfl 0 rfl 5 (by decide) (List.mem_of_getElem? (i := 1) rfl) rfl rfl dX5_found_66 ?_
      refine h_iload (pc := 69) C dX5_found_69 6 rfl ?_
      obtain ⟨hi, v4, hv, hf⟩ := jrd_s hf
      refine h_iald (pc := 71) C 4 0 rfl rfl hi hv dX5_found_71 ?_
      clear hi hv
      refine h_iload_n (pc := 72) C dX5_found_72 rfl 1 rfl ?_
      refine h_iload_n (pc := 73) C dX5_found_73 rfl 2 rfl ?_
      refine h_iload_n (pc := 74) C dX5_found_74 rfl 3 rfl ?_
      refine h_iload (pc := 75) C dX5_found_75 4 rfl ?_
      obtain ⟨v5, hc, hf⟩ := jbd_s hf
      refine h_callV (pc := 77) (q0 := 0) (As := [.int v4, .int x1, .int x2, .int x3, .int x4]) (rest := []) (ws' := (wM cT ad madded msides mkey misThere mboxes morder mlevels mnodes mentries mleft mlow mright mhigh mfirst mend mthrown)) (st2 := .int v5 :: []) C (c_X5_doesMeet l D cT ad n madded msides mkey misThere mboxes morder mlevels mnodes mentries mleft mlow mright mhigh mfirst mend mthrown v4 x1 x2 x3 x4 v5 hc) (cwV 5 C.1.2.2.2.2 gX5_found_X5_doesMeet rfl rfl rfl pv_X5_doesMeet ⟨(Nat.le_of_ble_eq_true rfl), (Nat.le_of_ble_eq_true rfl)⟩) dX5_found_77 rfl rfl rfl rfl rfl (Nat.le_of_ble_eq_true rfl) ⟨rfl, rfl⟩ ⟨(Nat.le_of_ble_eq_true rfl), (Nat.le_of_ble_eq_true rfl)⟩ [0, 1, 2, 3, 4, 5, 6] [] [0, 1, 2, 3, 4, 5, 6] rfl rfl rfl rfl (by decide) rfl rfl rfl ?_
      clear hc
      refine h_if_ne (pc := 80) (tgt := 118) C dX5_found_80 (by decide) (fun q => ?_) (fun q => ?_)
      · replace hf := jif_f q hf
        clear q
        refine h_aload_n (pc := 118) C dX5_found_118 rfl 0 rfl ?_
        refine h_get (pc := 119) (ci := 3) (C0 := RX5) (T := TX5) (N := 16) C uX5_found_X5 rfl 0 rfl 5 (by decide) (List.mem_of_getElem? (i := 1) rfl) rfl rfl dX5_found_119 ?_
        refine h_iload (pc := 122) C dX5_found_122 6 rfl ?_
        obtain ⟨hi, v6, hv, hf⟩ := jrd_s hf
        refine h_iald (pc := 124) C 4 0 rfl rfl hi hv dX5_found_124 ?_
        clear hi hv
        have g0 := (Prod.mk.inj (Option.some.inj hf)).1
        have g1 := (Prod.mk.inj (Option.some.inj hf)).2
        clear hf
        subst g0
        subst g1
        exact h_iret C hr dX5_found_125
      · replace hf := jif_t q hf
        clear q
        exact k_X5_found_83 l D cT ad C hr n madded msides mkey misThere mboxes morder mlevels mnodes mentries mleft mlow mright mhigh mfirst mend r mthrown' (f_X5_found_59 n msides mboxes morder fu) ih mthrown x1 x2 x3 x4 x7 x8 hf
set_option maxRecDepth 100000 in
set_option maxHeartbeats 4000000 in
theorem k_X5_found_44 {p : Program} {e : Env} {s : State} {m : MethodId} {args : Array Value} {below : List Frame} {meth : Method} {c : Code} {A : Nat → Prop} (l : Launch) (D : va_G) (cT : Nat → ClassId) (ad : Nat → Nat) (C : hC p s m args meth c cX5_found 9 wsX5_found RX5 D (ty4 cT) A) (hr : meth.sig.returnType = (some .int)) (n : Nat) (madded : Int32) (msides : Nat → Int32) (mkey : Nat → Int32) (misThere : Nat → Int32) (mboxes : Int32) (morder : Nat → Int32) (mlevels : Int32) (mnodes : Nat → Int32) (mentries : Nat → Int32) (mleft : Int32) (mlow : Int32) (mright : Int32) (mhigh : Int32) (mfirst : Int32) (mend : Int32) (r : Int32) (mthrown' : Int32)  : ∀ (mthrown : Int32) (x1 : Int32) (x2 : Int32) (x3 : Int32) (x4 : Int32) (x5 : Int32) (t1 : Int32), f_X5_found_44 n msides mboxes morder mthrown x1 x2 x3 x4 x5 t1 = some (r, mthrown') → hS p l e rmX5_found s m args below meth c 9 D A 0 0 (MQ below (cQ D (ty4 cT) A (some (.int r)) (wM cT ad madded msides mkey misThere mboxes morder mlevels mnodes mentries mleft mlow mright mhigh mfirst mend mthrown')) args s 0 0 A) 44 [(0, .ref (ad 10)), (1, .int x1), (2, .int x2), (3, .int x3), (4, .int x4), (5, .int x5)] (.int t1 :: .ref (ad 10) :: []) (wM cT ad madded msides mkey misThere mboxes morder mlevels mnodes mentries mleft mlow mright mhigh mfirst mend mthrown) := by
  intro mthrown x1 x2 x3 x4 x5 t1 hf
  unfold f_X5_found_44 at hf
  obtain ⟨v3, hc, hf⟩ := jbd_s hf
  refine h_callV (pc := 44) (q0 := 0) (As := [.int t1]) (rest := []) (ws' := (wM cT ad madded msides mkey misThere mboxes morder mlevels mnodes mentries mleft mlow mright mhigh mfirst mend v3.2)) (st2 := .int v3.1 :: []) C (c_X5_fails l D cT ad n madded msides mkey misThere mboxes morder mlevels mnodes mentries mleft mlow mright mhigh mfirst mend mthrown t1 v3.1 v3.2 hc) (cwV 1 C.1.2.2.2.2 gX5_found_X5_fails rfl rfl rfl pv_X5_fails ⟨(Nat.le_of_ble_eq_true rfl), (Nat.le_of_ble_eq_true rfl)⟩) dX5_found_44 rfl rfl rfl rfl rfl (Nat.le_of_ble_eq_true rfl) ⟨rfl, rfl⟩ ⟨(Nat.le_of_ble_eq_true rfl), (Nat.le_of_ble_eq_true rfl)⟩ [0, 1, 2, 3, 4, 5, 6] [] [0, 1, 2, 3, 4, 5, 6] rfl rfl rfl rfl (by decide) rfl rfl rfl ?_
  clear hc
  refine h_if_eq (pc := 47) (tgt := 52) C dX5_found_47 (by decide) (fun q => ?_) (fun q => ?_)
  · replace hf := jif_t q hf
    clear q
    refine h_iload (pc := 52) C dX5_found_52 5 rfl ?_
    refine h_istore (pc := 54) (lv' := [(7, .int x5), (0, .ref (ad 10)), (1, .int x1), (2, .int x2), (3, .int x3), (4, .int x4), (5, .int x5)]) C dX5_found_54 (by decide) rfl ?_
    refine h_iconst (pc := 56) C dX5_found_56 jc_0 ?_
    refine h_istore (pc := 57) (lv' := [(8, .int 0), (7, .int x5), (0, .ref (ad 10)), (1, .int x1), (2, .int x2), (3, .int x3), (4, .int x4), (5, .int x5)]) C dX5_found_57 (by decide) rfl ?_
    refine h_sub [2, 3, 4, 5, 6, 1, 0] rfl ?_
    exact k_X5_found_59 l D cT ad C hr n madded msides mkey misThere mboxes morder mlevels mnodes mentries mleft mlow mright mhigh mfirst mend r mthrown' n v3.2 x1 x2 x3 x4 x5 0 hf
  · replace hf := jif_f q hf
    clear q
    refine h_iconst (pc := 50) C dX5_found_50 jc_0 ?_
    have g0 := (Prod.mk.inj (Option.some.inj hf)).1
    have g1 := (Prod.mk.inj (Option.some.inj hf)).2
    clear hf
    subst g0
    subst g1
    exact h_iret C hr dX5_found_51
set_option maxRecDepth 100000 in
set_option maxHeartbeats 4000000 in
theorem k_X5_found_43 {p : Program} {e : Env} {s : State} {m : MethodId} {args : Array Value} {below : List Frame} {meth : Method} {c : Code} {A : Nat → Prop} (l : Launch) (D : va_G) (cT : Nat → ClassId) (ad : Nat → Nat) (C : hC p s m args meth c cX5_found 9 wsX5_found RX5 D (ty4 cT) A) (hr : meth.sig.returnType = (some .int)) (n : Nat) (madded : Int32) (msides : Nat → Int32) (mkey : Nat → Int32) (misThere : Nat → Int32) (mboxes : Int32) (morder : Nat → Int32) (mlevels : Int32) (mnodes : Nat → Int32) (mentries : Nat → Int32) (mleft : Int32) (mlow : Int32) (mright : Int32) (mhigh : Int32) (mfirst : Int32) (mend : Int32) (r : Int32) (mthrown' : Int32)  : ∀ (mthrown : Int32) (x1 : Int32) (x2 : Int32) (x3 : Int32) (x4 : Int32) (x5 : Int32), f_X5_found_43 n msides mboxes morder mthrown x1 x2 x3 x4 x5 = some (r, mthrown') → hS p l e rmX5_found s m args below meth c 9 D A 0 0 (MQ below (cQ D (ty4 cT) A (some (.int r)) (wM cT ad madded msides mkey misThere mboxes morder mlevels mnodes mentries mleft mlow mright mhigh mfirst mend mthrown')) args s 0 0 A) 43 [(0, .ref (ad 10)), (1, .int x1), (2, .int x2), (3, .int x3), (4, .int x4), (5, .int x5)] (.ref (ad 10) :: []) (wM cT ad madded msides mkey misThere mboxes morder mlevels mnodes mentries mleft mlow mright mhigh mfirst mend mthrown) := by
  intro mthrown x1 x2 x3 x4 x5 hf
  unfold f_X5_found_43 at hf
  refine h_iconst (pc := 43) C dX5_found_43 jc_2 ?_
  exact k_X5_found_44 l D cT ad C hr n madded msides mkey misThere mboxes morder mlevels mnodes mentries mleft mlow mright mhigh mfirst mend r mthrown' mthrown x1 x2 x3 x4 x5 2 hf
set_option maxRecDepth 100000 in
set_option maxHeartbeats 4000000 in
theorem c_X5_found (l : Launch) (D : va_G) (cT : Nat → ClassId) (ad : Nat → Nat) (n : Nat) (madded : Int32) (msides : Nat → Int32) (mkey : Nat → Int32) (misThere : Nat → Int32) (mboxes : Int32) (morder : Nat → Int32) (mlevels : Int32) (mnodes : Nat → Int32) (mentries : Nat → Int32) (mleft : Int32) (mlow : Int32) (mright : Int32) (mhigh : Int32) (mfirst : Int32) (mend : Int32) (mthrown : Int32) (a1 : Int32) (a2 : Int32) (a3 : Int32) (a4 : Int32) (a5 : Int32) (r : Int32) (mthrown' : Int32) (hf : f_X5_found n msides mboxes morder mthrown a1 a2 a3 a4 a5 = some (r, mthrown')) : cM l yX5_found wsX5_found rmX5_found D (ty4 cT) [.ref (ad 10), .int a1, .int a2, .int a3, .int a4, .int a5] (wM cT ad madded msides mkey misThere mboxes morder mlevels mnodes mentries mleft mlow mright mhigh mfirst mend mthrown) (some (.int r)) (wM cT ad madded msides mkey misThere mboxes morder mlevels mnodes mentries mleft mlow mright mhigh mfirst mend mthrown') := by
  refine cM_of (cc := cX5_found) (maxL := 9) (ret := (some .int)) (own := RX5) (lv := [(0, .ref (ad 10)), (1, .int a1), (2, .int a2), (3, .int a3), (4, .int a4), (5, .int a5)]) (by decide) rfl (Nat.le_of_ble_eq_true rfl) rfl rfl ?_
  intro p e s m args below meth c A C hr
  unfold f_X5_found at hf
  refine h_iload_n (pc := 0) C dX5_found_0 rfl 1 rfl ?_
  refine h_iload_n (pc := 1) C dX5_found_1 rfl 2 rfl ?_
  refine h_iload_n (pc := 2) C dX5_found_2 rfl 3 rfl ?_
  refine h_iload (pc := 3) C dX5_found_3 4 rfl ?_
  obtain ⟨v1, hc, hf⟩ := jbd_s hf
  refine h_callP (pc := 5) (As := [.int a1, .int a2, .int a3, .int a4]) (rest := []) (st2 := .int v1 :: []) C (c_X5_isArea l D cT ad n a1 a2 a3 a4 v1 hc) (va_cwS 4 C.1.2.2.2.2 gX5_found_X5_isArea rfl rfl rfl ps_X5_isArea ⟨(Nat.le_of_ble_eq_true rfl), (Nat.le_of_ble_eq_true rfl)⟩) dX5_found_5 rfl rfl (Nat.le_of_ble_eq_true rfl) ⟨rfl, rfl⟩ ⟨(Nat.le_of_ble_eq_true rfl), (Nat.le_of_ble_eq_true rfl)⟩ rfl ?_
  clear hc
  refine h_istore (pc := 8) (lv' := [(6, .int v1), (0, .ref (ad 10)), (1, .int a1), (2, .int a2), (3, .int a3), (4, .int a4), (5, .int a5)]) C dX5_found_8 (by decide) rfl ?_
  refine h_aload_n (pc := 10) C dX5_found_10 rfl 1 rfl ?_
  refine h_iload (pc := 11) C dX5_found_11 0 rfl ?_
  refine h_if_ne (pc := 13) (tgt := 20) C dX5_found_13 (by decide) (fun q => ?_) (fun q => ?_)
  · replace hf := jif_f q hf
    clear q
    refine h_iload (pc := 20) C dX5_found_20 6 rfl ?_
    refine h_if_lt (pc := 22) (tgt := 43) C dX5_found_22 (by decide) (fun q => ?_) (fun q => ?_)
    · replace hf := jif_t q hf
      clear q
      refine h_sub [1, 2, 3, 4, 5, 6] rfl ?_
      exact k_X5_found_43 l D cT ad C hr n madded msides mkey misThere mboxes morder mlevels mnodes mentries mleft mlow mright mhigh mfirst mend r mthrown' mthrown a1 a2 a3 a4 a5 hf
    · replace hf := jif_f q hf
      clear q
      refine h_iload (pc := 25) C dX5_found_25 6 rfl ?_
      refine h_aload_n (pc := 27) C dX5_found_27 rfl 1 rfl ?_
      refine h_iload_n (pc := 28) C dX5_found_28 rfl 2 rfl ?_
      refine h_iload_n (pc := 29) C dX5_found_29 rfl 3 rfl ?_
      refine h_iload_n (pc := 30) C dX5_found_30 rfl 4 rfl ?_
      refine h_iload (pc := 31) C dX5_found_31 5 rfl ?_
      obtain ⟨v2, hc, hf⟩ := jbd_s hf
      refine h_callV (pc := 33) (q0 := 0) (As := [.int a1, .int a2, .int a3, .int a4]) (rest := .int a5 :: .ref (ad 10) :: []) (ws' := (wM cT ad madded msides mkey misThere mboxes morder mlevels mnodes mentries mleft mlow mright mhigh mfirst mend mthrown)) (st2 := .int v2 :: .int a5 :: .ref (ad 10) :: []) C (c_X5_met l D cT ad n madded msides mkey misThere mboxes morder mlevels mnodes mentries mleft mlow mright mhigh mfirst mend mthrown a1 a2 a3 a4 v2 hc) (cwV 4 C.1.2.2.2.2 gX5_found_X5_met rfl rfl rfl pv_X5_met ⟨(Nat.le_of_ble_eq_true rfl), (Nat.le_of_ble_eq_true rfl)⟩) dX5_found_33 rfl rfl rfl rfl rfl (Nat.le_of_ble_eq_true rfl) ⟨rfl, rfl⟩ ⟨(Nat.le_of_ble_eq_true rfl), (Nat.le_of_ble_eq_true rfl)⟩ [0, 1, 2, 3, 4, 5, 6] [] [0, 1, 2, 3, 4, 5, 6] rfl rfl rfl rfl (by decide) rfl rfl rfl ?_
      clear hc
      refine h_icmp_ge (pc := 36) (tgt := 43) C dX5_found_36 (by decide) (fun q => ?_) (fun q => ?_)
      · replace hf := jif_t q hf
        clear q
        refine h_sub [1, 2, 3, 4, 5, 6] rfl ?_
        exact k_X5_found_43 l D cT ad C hr n madded msides mkey misThere mboxes morder mlevels mnodes mentries mleft mlow mright mhigh mfirst mend r mthrown' mthrown a1 a2 a3 a4 a5 hf
      · replace hf := jif_f q hf
        clear q
        refine h_iconst (pc := 39) C dX5_found_39 jc_0 ?_
        refine h_goto (pc := 40) (tgt := 44) C dX5_found_40 (by decide) ?_
        refine h_sub [1, 2, 3, 4, 5, 6] rfl ?_
        exact k_X5_found_44 l D cT ad C hr n madded msides mkey misThere mboxes morder mlevels mnodes mentries mleft mlow mright mhigh mfirst mend r mthrown' mthrown a1 a2 a3 a4 a5 0 hf
  · replace hf := jif_t q hf
    clear q
    refine h_iconst (pc := 16) C dX5_found_16 jc_1 ?_
    refine h_goto (pc := 17) (tgt := 44) C dX5_found_17 (by decide) ?_
    refine h_sub [1, 2, 3, 4, 5, 6] rfl ?_
    exact k_X5_found_44 l D cT ad C hr n madded msides mkey misThere mboxes morder mlevels mnodes mentries mleft mlow mright mhigh mfirst mend r mthrown' mthrown a1 a2 a3 a4 a5 1 hf
theorem pv_X5_found : yX5_found.cls = RX5 ∧ yX5_found.cls ≠ "java/lang/invoke/MethodHandle" ∧ yX5_found.cls ≠ "java/lang/invoke/VarHandle" ∧ (parseMethodDescriptor yX5_found.desc).map (fun d => d.parameters.length) = some 5 := by decide +kernel
abbrev rmX5_visits : Room := { frames := 3, cells := 0, slots := 0, locals := 70 }
theorem uX5_visits_X5 : ∀ w ∈ u_ws RX5 TX5 16, w ∈ wsX5_visits := fun w h => List.mem_cons_of_mem _ (List.mem_append_right _ h)
set_option maxRecDepth 100000 in
set_option maxHeartbeats 4000000 in
theorem k_X5_visits_103 {p : Program} {e : Env} {s : State} {m : MethodId} {args : Array Value} {below : List Frame} {meth : Method} {c : Code} {A : Nat → Prop} (l : Launch) (D : va_G) (cT : Nat → ClassId) (ad : Nat → Nat) (C : hC p s m args meth c cX5_visits 8 wsX5_visits RX5 D (ty4 cT) A) (hr : meth.sig.returnType = (some .int)) (n : Nat) (madded : Int32) (msides : Nat → Int32) (mkey : Nat → Int32) (misThere : Nat → Int32) (mboxes : Int32) (morder : Nat → Int32) (mlevels : Int32) (mnodes : Nat → Int32) (mentries : Nat → Int32) (r : Int32) (mleft' : Int32) (mlow' : Int32) (mright' : Int32) (mhigh' : Int32) (mfirst' : Int32) (mend' : Int32) (mthrown' : Int32) (k31 : Int32 → Int32 → Int32 → Int32 → Int32 → Int32 → Int32 → Int32 → Int32 → Int32 → Int32 → Int32 → Int32 → Option (Int32 × Int32 × Int32 × Int32 × Int32 × Int32 × Int32 × Int32)) (K31 : ∀ (mleft : Int32) (mlow : Int32) (mright : Int32) (mhigh : Int32) (mfirst : Int32) (mend : Int32) (mthrown : Int32) (x1 : Int32) (x2 : Int32) (x3 : Int32) (x4 : Int32) (x5 : Int32) (x6 : Int32), k31 mleft mlow mright mhigh mfirst mend mthrown x1 x2 x3 x4 x5 x6 = some (r, mleft', mlow', mright', mhigh', mfirst', mend', mthrown') → hS p l e rmX5_visits s m args below meth c 8 D A 0 0 (MQ below (cQ D (ty4 cT) A (some (.int r)) (wM cT ad madded msides mkey misThere mboxes morder mlevels mnodes mentries mleft' mlow' mright' mhigh' mfirst' mend' mthrown')) args s 0 0 A) 31 [(0, .ref (ad 10)), (1, .int x1), (2, .int x2), (3, .int x3), (4, .int x4), (5, .int x5), (6, .int x6)] [] (wM cT ad madded msides mkey misThere mboxes morder mlevels mnodes mentries mleft mlow mright mhigh mfirst mend mthrown)) (k43 : Int32 → Int32 → Int32 → Int32 → Int32 → Int32 → Int32 → Int32 → Int32 → Int32 → Int32 → Int32 → Int32 → Int32 → Option (Int32 × Int32 × Int32 × Int32 × Int32 × Int32 × Int32 × Int32)) (K43 : ∀ (mleft : Int32) (mlow : Int32) (mright : Int32) (mhigh : Int32) (mfirst : Int32) (mend : Int32) (mthrown : Int32) (x1 : Int32) (x2 : Int32) (x3 : Int32) (x4 : Int32) (x5 : Int32) (x6 : Int32) (x7 : Int32), k43 mleft mlow mright mhigh mfirst mend mthrown x1 x2 x3 x4 x5 x6 x7 = some (r, mleft', mlow', mright', mhigh', mfirst', mend', mthrown') → hS p l e rmX5_visits s m args below meth c 8 D A 0 0 (MQ below (cQ D (ty4 cT) A (some (.int r)) (wM cT ad madded msides mkey misThere mboxes morder mlevels mnodes mentries mleft' mlow' mright' mhigh' mfirst' mend' mthrown')) args s 0 0 A) 43 [(0, .ref (ad 10)), (1, .int x1), (2, .int x2), (3, .int x3), (4, .int x4), (5, .int x5), (6, .int x6), (7, .int x7)] [] (wM cT ad madded msides mkey misThere mboxes morder mlevels mnodes mentries mleft mlow mright mhigh mfirst mend mthrown)) : ∀ (mleft : Int32) (mlow : Int32) (mright : Int32) (mhigh : Int32) (mfirst : Int32) (mend : Int32) (mthrown : Int32) (x1 : Int32) (x2 : Int32) (x3 : Int32) (x4 : Int32) (x6 : Int32) (x7 : Int32) (t0 : Int32) (t1 : Int32), f_X5_visits_103 n msides morder mlevels mnodes mentries k31 k43 mleft mlow mright mhigh mfirst mend mthrown x1 x2 x3 x4 x6 x7 t0 t1 = some (r, mleft', mlow', mright', mhigh', mfirst', mend', mthrown') → hS p l e rmX5_visits s m args below meth c 8 D A 0 0 (MQ below (cQ D (ty4 cT) A (some (.int r)) (wM cT ad madded msides mkey misThere mboxes morder mlevels mnodes mentries mleft' mlow' mright' mhigh' mfirst' mend' mthrown')) args s 0 0 A) 103 [(0, .ref (ad 10)), (1, .int x1), (2, .int x2), (3, .int x3), (4, .int x4), (6, .int x6), (7, .int x7)] (.int t1 :: .int t0 :: []) (wM cT ad madded msides mkey misThere mboxes morder mlevels mnodes mentries mleft mlow mright mhigh mfirst mend mthrown) := by
  intro mleft mlow mright mhigh mfirst mend mthrown x1 x2 x3 x4 x6 x7 t0 t1 hf
  unfold f_X5_visits_103 at hf
  refine h_iadd (pc := 103) C dX5_visits_103 ?_
  refine h_istore (pc := 104) (lv' := [(5, .int (t0 + t1)), (0, .ref (ad 10)), (1, .int x1), (2, .int x2), (3, .int x3), (4, .int x4), (6, .int x6), (7, .int x7)]) C dX5_visits_104 (by decide) rfl ?_
  refine h_iinc (pc := 106) (v := x7 + 1) (lv' := [(7, .int (x7 + 1)), (5, .int (t0 + t1)), (0, .ref (ad 10)), (1, .int x1), (2, .int x2), (3, .int x3), (4, .int x4), (6, .int x6)]) C dX5_visits_106 7 rfl (ji_1 _) (by decide) rfl ?_
  refine h_goto (pc := 109) (tgt := 43) C dX5_visits_109 (by decide) ?_
  refine h_sub [2, 3, 4, 5, 6, 1, 7, 0] rfl ?_
  exact K43 mleft mlow mright mhigh mfirst mend mthrown x1 x2 x3 x4 (t0 + t1) x6 (x7 + 1) hf
set_option maxRecDepth 100000 in
set_option maxHeartbeats 4000000 in
theorem k_X5_visits_102 {p : Program} {e : Env} {s : State} {m : MethodId} {args : Array Value} {below : List Frame} {meth : Method} {c : Code} {A : Nat → Prop} (l : Launch) (D : va_G) (cT : Nat → ClassId) (ad : Nat → Nat) (C : hC p s m args meth c cX5_visits 8 wsX5_visits RX5 D (ty4 cT) A) (hr : meth.sig.returnType = (some .int)) (n : Nat) (madded : Int32) (msides : Nat → Int32) (mkey : Nat → Int32) (misThere : Nat → Int32) (mboxes : Int32) (morder : Nat → Int32) (mlevels : Int32) (mnodes : Nat → Int32) (mentries : Nat → Int32) (r : Int32) (mleft' : Int32) (mlow' : Int32) (mright' : Int32) (mhigh' : Int32) (mfirst' : Int32) (mend' : Int32) (mthrown' : Int32) (k31 : Int32 → Int32 → Int32 → Int32 → Int32 → Int32 → Int32 → Int32 → Int32 → Int32 → Int32 → Int32 → Int32 → Option (Int32 × Int32 × Int32 × Int32 × Int32 × Int32 × Int32 × Int32)) (K31 : ∀ (mleft : Int32) (mlow : Int32) (mright : Int32) (mhigh : Int32) (mfirst : Int32) (mend : Int32) (mthrown : Int32) (x1 : Int32) (x2 : Int32) (x3 : Int32) (x4 : Int32) (x5 : Int32) (x6 : Int32), k31 mleft mlow mright mhigh mfirst mend mthrown x1 x2 x3 x4 x5 x6 = some (r, mleft', mlow', mright', mhigh', mfirst', mend', mthrown') → hS p l e rmX5_visits s m args below meth c 8 D A 0 0 (MQ below (cQ D (ty4 cT) A (some (.int r)) (wM cT ad madded msides mkey misThere mboxes morder mlevels mnodes mentries mleft' mlow' mright' mhigh' mfirst' mend' mthrown')) args s 0 0 A) 31 [(0, .ref (ad 10)), (1, .int x1), (2, .int x2), (3, .int x3), (4, .int x4), (5, .int x5), (6, .int x6)] [] (wM cT ad madded msides mkey misThere mboxes morder mlevels mnodes mentries mleft mlow mright mhigh mfirst mend mthrown)) (k43 : Int32 → Int32 → Int32 → Int32 → Int32 → Int32 → Int32 → Int32 → Int32 → Int32 → Int32 → Int32 → Int32 → Int32 → Option (Int32 × Int32 × Int32 × Int32 × Int32 × Int32 × Int32 × Int32)) (K43 : ∀ (mleft : Int32) (mlow : Int32) (mright : Int32) (mhigh : Int32) (mfirst : Int32) (mend : Int32) (mthrown : Int32) (x1 : Int32) (x2 : Int32) (x3 : Int32) (x4 : Int32) (x5 : Int32) (x6 : Int32) (x7 : Int32), k43 mleft mlow mright mhigh mfirst mend mthrown x1 x2 x3 x4 x5 x6 x7 = some (r, mleft', mlow', mright', mhigh', mfirst', mend', mthrown') → hS p l e rmX5_visits s m args below meth c 8 D A 0 0 (MQ below (cQ D (ty4 cT) A (some (.int r)) (wM cT ad madded msides mkey misThere mboxes morder mlevels mnodes mentries mleft' mlow' mright' mhigh' mfirst' mend' mthrown')) args s 0 0 A) 43 [(0, .ref (ad 10)), (1, .int x1), (2, .int x2), (3, .int x3), (4, .int x4), (5, .int x5), (6, .int x6), (7, .int x7)] [] (wM cT ad madded msides mkey misThere mboxes morder mlevels mnodes mentries mleft mlow mright mhigh mfirst mend mthrown)) : ∀ (mleft : Int32) (mlow : Int32) (mright : Int32) (mhigh : Int32) (mfirst : Int32) (mend : Int32) (mthrown : Int32) (x1 : Int32) (x2 : Int32) (x3 : Int32) (x4 : Int32) (x6 : Int32) (x7 : Int32) (t0 : Int32), f_X5_visits_102 n msides morder mlevels mnodes mentries k31 k43 mleft mlow mright mhigh mfirst mend mthrown x1 x2 x3 x4 x6 x7 t0 = some (r, mleft', mlow', mright', mhigh', mfirst', mend', mthrown') → hS p l e rmX5_visits s m args below meth c 8 D A 0 0 (MQ below (cQ D (ty4 cT) A (some (.int r)) (wM cT ad madded msides mkey misThere mboxes morder mlevels mnodes mentries mleft' mlow' mright' mhigh' mfirst' mend' mthrown')) args s 0 0 A) 102 [(0, .ref (ad 10)), (1, .int x1), (2, .int x2), (3, .int x3), (4, .int x4), (6, .int x6), (7, .int x7)] (.int t0 :: []) (wM cT ad madded msides mkey misThere mboxes morder mlevels mnodes mentries mleft mlow mright mhigh mfirst mend mthrown) := by
  intro mleft mlow mright mhigh mfirst mend mthrown x1 x2 x3 x4 x6 x7 t0 hf
  unfold f_X5_visits_102 at hf
  refine h_iconst (pc := 102) C dX5_visits_102 jc_0 ?_
  exact k_X5_visits_103 l D cT ad C hr n madded msides mkey misThere mboxes morder mlevels mnodes mentries r mleft' mlow' mright' mhigh' mfirst' mend' mthrown' k31 K31 k43 K43 mleft mlow mright mhigh mfirst mend mthrown x1 x2 x3 x4 x6 x7 t0 0 hf
set_option maxRecDepth 100000 in
set_option maxHeartbeats 4000000 in
theorem k_X5_visits_43 {p : Program} {e : Env} {s : State} {m : MethodId} {args : Array Value} {below : List Frame} {meth : Method} {c : Code} {A : Nat → Prop} (l : Launch) (D : va_G) (cT : Nat → ClassId) (ad : Nat → Nat) (C : hC p s m args meth c cX5_visits 8 wsX5_visits RX5 D (ty4 cT) A) (hr : meth.sig.returnType = (some .int)) (n : Nat) (madded : Int32) (msides : Nat → Int32) (mkey : Nat → Int32) (misThere : Nat → Int32) (mboxes : Int32) (morder : Nat → Int32) (mlevels : Int32) (mnodes : Nat → Int32) (mentries : Nat → Int32) (r : Int32) (mleft' : Int32) (mlow' : Int32) (mright' : Int32) (mhigh' : Int32) (mfirst' : Int32) (mend' : Int32) (mthrown' : Int32) (k31 : Int32 → Int32 → Int32 → Int32 → Int32 → Int32 → Int32 → Int32 → Int32 → Int32 → Int32 → Int32 → Int32 → Option (Int32 × Int32 × Int32 × Int32 × Int32 × Int32 × Int32 × Int32)) (K31 : ∀ (mleft : Int32) (mlow : Int32) (mright : Int32) (mhigh : Int32) (mfirst : Int32) (mend : Int32) (mthrown : Int32) (x1 : Int32) (x2 : Int32) (x3 : Int32) (x4 : Int32) (x5 : Int32) (x6 : Int32), k31 mleft mlow mright mhigh mfirst mend mthrown x1 x2 x3 x4 x5 x6 = some (r, mleft', mlow', mright', mhigh', mfirst', mend', mthrown') → hS p l e rmX5_visits s m args below meth c 8 D A 0 0 (MQ below (cQ D (ty4 cT) A (some (.int r)) (wM cT ad madded msides mkey misThere mboxes morder mlevels mnodes mentries mleft' mlow' mright' mhigh' mfirst' mend' mthrown')) args s 0 0 A) 31 [(0, .ref (ad 10)), (1, .int x1), (2, .int x2), (3, .int x3), (4, .int x4), (5, .int x5), (6, .int x6)] [] (wM cT ad madded msides mkey misThere mboxes morder mlevels mnodes mentries mleft mlow mright mhigh mfirst mend mthrown)) : ∀ (fu : Nat) (mleft : Int32) (mlow : Int32) (mright : Int32) (mhigh : Int32) (mfirst : Int32) (mend : Int32) (mthrown : Int32) (x1 : Int32) (x2 : Int32) (x3 : Int32) (x4 : Int32) (x5 : Int32) (x6 : Int32) (x7 : Int32), f_X5_visits_43 n msides morder mlevels mnodes mentries k31 fu mleft mlow mright mhigh mfirst mend mthrown x1 x2 x3 x4 x5 x6 x7 = some (r, mleft', mlow', mright', mhigh', mfirst', mend', mthrown') → hS p l e rmX5_visits s m args below meth c 8 D A 0 0 (MQ below (cQ D (ty4 cT) A (some (.int r)) (wM cT ad madded msides mkey misThere mboxes morder mlevels mnodes mentries mleft' mlow' mright' mhigh' mfirst' mend' mthrown')) args s 0 0 A) 43 [(0, .ref (ad 10)), (1, .int x1), (2, .int x2), (3, .int x3), (4, .int x4), (5, .int x5), (6, .int x6), (7, .int x7)] [] (wM cT ad madded msides mkey misThere mboxes morder mlevels mnodes mentries mleft mlow mright mhigh mfirst mend mthrown) := by
  intro fu
  induction fu with
  | zero =>
    intro mleft mlow mright mhigh mfirst mend mthrown x1 x2 x3 x4 x5 x6 x7 hf
    exact nomatch (show (none : Option (Int32 × Int32 × Int32 × Int32 × Int32 × Int32 × Int32 × Int32)) = some (r, mleft', mlow', mright', mhigh', mfirst', mend', mthrown') from hf)
  | succ fu ih =>
    intro mleft mlow mright mhigh mfirst mend mthrown x1 x2 x3 x4 x5 x6 x7 hf
    rw [f_X5_visits_43] at hf
    refine h_iload (pc := 43) C dX5_visits_43 7 rfl ?_
    refine h_aload_n (pc := 45) C dX5_visits_45 rfl 0 rfl ?_
    refine h_get (pc := 46) (ci := 3) (C0 := RX5) (T := TX5) (N := 16) C uX5_visits_X5 rfl 0 rfl 7 (by decide) (List.mem_of_getElem? (i := 2) rfl) rfl rfl dX5_visits_46 ?_
    refine h_iload (pc := 49) C dX5_visits_49 6 rfl ?_
    obtain ⟨hi, v3, hv, hf⟩ := jrd_s hf
    refine h_iald (pc := 51) C 5 0 rfl rfl hi hv dX5_visits_51 ?_
    clear hi hv
    refine h_icmp_ge (pc := 52) (tgt := 112) C dX5_visits_52 (by decide) (fun q => ?_) (fun q => ?_)
    · replace hf := jif_t q hf
      clear q
      refine h_iinc (pc := 112) (v := x6 + 1) (lv' := [(6, .int (x6 + 1)), (0, .ref (ad 10)), (1, .int x1), (2, .int x2), (3, .int x3), (4, .int x4), (5, .int x5), (7, .int x7)]) C dX5_visits_112 6 rfl (ji_1 _) (by decide) rfl ?_
      refine h_goto (pc := 115) (tgt := 31) C dX5_visits_115 (by decide) ?_
      refine h_sub [1, 2, 3, 4, 5, 6, 0] rfl ?_
      exact K31 mleft mlow mright mhigh mfirst mend mthrown x1 x2 x3 x4 x5 (x6 + 1) hf
    · replace hf := jif_f q hf
      clear q
      refine h_aload_n (pc := 55) C dX5_visits_55 rfl 0 rfl ?_
      refine h_iload (pc := 56) C dX5_visits_56 6 rfl ?_
      refine h_iload (pc := 58) C dX5_visits_58 7 rfl ?_
      obtain ⟨v4, hc, hf⟩ := jbd_s hf
      refine h_callV (pc := 60) (q0 := 0) (As := [.int x6, .int x7]) (rest := []) (ws' := (wM cT ad madded msides mkey misThere mboxes morder mlevels mnodes mentries v4.1 v4.2.1 v4.2.2.1 v4.2.2.2.1 v4.2.2.2.2.1 v4.2.2.2.2.2 mthrown)) (st2 := []) C (c_X5_covers l D cT ad n madded msides mkey misThere mboxes morder mlevels mnodes mentries mleft mlow mright mhigh mfirst mend mthrown x6 x7 v4.1 v4.2.1 v4.2.2.1 v4.2.2.2.1 v4.2.2.2.2.1 v4.2.2.2.2.2 hc) (cwV 2 C.1.2.2.2.2 gX5_visits_X5_covers rfl rfl rfl pv_X5_covers ⟨(Nat.le_of_ble_eq_true rfl), (Nat.le_of_ble_eq_true rfl)⟩) dX5_visits_60 rfl rfl rfl rfl rfl (Nat.le_of_ble_eq_true rfl) ⟨rfl, rfl⟩ ⟨(Nat.le_of_ble_eq_true rfl), (Nat.le_of_ble_eq_true rfl)⟩ [0, 1, 2, 3, 4, 5, 6] [] [0, 1, 2, 3, 4, 5, 6] rfl rfl rfl rfl (by decide) rfl rfl rfl ?_
      clear hc
      refine h_iload (pc := 63) C dX5_visits_63 5 rfl ?_
      refine h_aload_n (pc := 65) C dX5_visits_65 rfl 0 rfl ?_
      refine h_get (pc := 66) (ci := 3) (C0 := RX5) (T := TX5) (N := 16) C uX5_visits_X5 rfl 0 rfl 9 (by decide) (List.mem_of_getElem? (i := 3) rfl) rfl rfl dX5_visits_66 ?_
      refine h_iload_n (pc := 69) C dX5_visits_69 rfl 3 rfl ?_
      refine h_icmp_gt (pc := 70) (tgt := 102) C dX5_visits_70 (by decide) (fun q => ?_) (fun q => ?_)
      · replace hf := jif_t q hf
        clear q
        refine h_sub [0, 1, 2, 3, 4, 6, 7] rfl ?_
        exact k_X5_visits_102 l D cT ad C hr n madded msides mkey misThere mboxes morder mlevels mnodes mentries r mleft' mlow' mright' mhigh' mfirst' mend' mthrown' k31 K31 (f_X5_visits_43 n msides morder mlevels mnodes mentries k31 fu) ih v4.1 v4.2.1 v4.2.2.1 v4.2.2.2.1 v4.2.2.2.2.1 v4.2.2.2.2.2 mthrown x1 x2 x3 x4 x6 x7 x5 hf
      · replace hf := jif_f q hf
        clear q
        refine h_aload_n (pc := 73) C dX5_visits_73 rfl 0 rfl ?_
        refine h_get (pc := 74) (ci := 3) (C0 := RX5) (T := TX5) (N := 16) C uX5_visits_X5 rfl 0 rfl 11 (by decide) (List.mem_of_getElem? (i := 4) rfl) rfl rfl dX5_visits_74 ?_
        refine h_iload_n (pc := 77) C dX5_visits_77 rfl 1 rfl ?_
        refine h_icmp_lt (pc := 78) (tgt := 102) C dX5_visits_78 (by decide) (fun q => ?_) (fun q => ?_)
        · replace hf := jif_t q hf
          clear q
          refine h_sub [0, 1, 2, 3, 4, 6, 7] rfl ?_
          exact k_X5_visits_102 l D cT ad C hr n madded msides mkey misThere mboxes morder mlevels mnodes mentries r mleft' mlow' mright' mhigh' mfirst' mend' mthrown' k31 K31 (f_X5_visits_43 n msides morder mlevels mnodes mentries k31 fu) ih v4.1 v4.2.1 v4.2.2.1 v4.2.2.2.1 v4.2.2.2.2.1 v4.2.2.2.2.2 mthrown x1 x2 x3 x4 x6 x7 x5 hf
        · replace hf := jif_f q hf
          clear q
          refine h_aload_n (pc := 81) C dX5_visits_81 rfl 0 rfl ?_
          refine h_get (pc := 82) (ci := 3) (C0 := RX5) (T := TX5) (N := 16) C uX5_visits_X5 rfl 0 rfl 10 (by decide) (List.mem_of_getElem? (i := 5) rfl) rfl rfl dX5_visits_82 ?_
          refine h_iload (pc := 85) C dX5_visits_85 4 rfl ?_
          refine h_icmp_gt (pc := 87) (tgt := 102) C dX5_visits_87 (by decide) (fun q => ?_) (fun q => ?_)
          · replace hf := jif_t q hf
            clear q
            refine h_sub [0, 1, 2, 3, 4, 6, 7] rfl ?_
            exact k_X5_visits_102 l D cT ad C hr n madded msides mkey misThere mboxes morder mlevels mnodes mentries r mleft' mlow' mright' mhigh' mfirst' mend' mthrown' k31 K31 (f_X5_visits_43 n msides morder mlevels mnodes mentries k31 fu) ih v4.1 v4.2.1 v4.2.2.1 v4.2.2.2.1 v4.2.2.2.2.1 v4.2.2.2.2.2 mthrown x1 x2 x3 x4 x6 x7 x5 hf
          · replace hf := jif_f q hf
            clear q
            refine h_aload_n (pc := 90) C dX5_visits_90 rfl 0 rfl ?_
            refine h_get (pc := 91) (ci := 3) (C0 := RX5) (T := TX5) (N := 16) C uX5_visits_X5 rfl 0 rfl 12 (by decide) (List.mem_of_getElem? (i := 6) rfl) rfl rfl dX5_visits_91 ?_
            refine h_iload_n (pc := 94) C dX5_visits_94 rfl 2 rfl ?_
            refine h_icmp_lt (pc := 95) (tgt := 102) C dX5_visits_95 (by decide) (fun q => ?_) (fun q => ?_)
            · replace hf := jif_t q hf
              clear q
              refine h_sub [0, 1, 2, 3, 4, 6, 7] rfl ?_
              exact k_X5_visits_102 l D cT ad C hr n madded msides mkey misThere mboxes morder mlevels mnodes mentries r mleft' mlow' mright' mhigh' mfirst' mend' mthrown' k31 K31 (f_X5_visits_43 n msides morder mlevels mnodes mentries k31 fu) ih v4.1 v4.2.1 v4.2.2.1 v4.2.2.2.1 v4.2.2.2.2.1 v4.2.2.2.2.2 mthrown x1 x2 x3 x4 x6 x7 x5 hf
            · replace hf := jif_f q hf
              clear q
              refine h_iconst (pc := 98) C dX5_visits_98 jc_1 ?_
              refine h_goto (pc := 99) (tgt := 103) C dX5_visits_99 (by decide) ?_
              refine h_sub [0, 1, 2, 3, 4, 6, 7] rfl ?_
              exact k_X5_visits_103 l D cT ad C hr n madded msides mkey misThere mboxes morder mlevels mnodes mentries r mleft' mlow' mright' mhigh' mfirst' mend' mthrown' k31 K31 (f_X5_visits_43 n msides morder mlevels mnodes mentries k31 fu) ih v4.1 v4.2.1 v4.2.2.1 v4.2.2.2.1 v4.2.2.2.2.1 v4.2.2.2.2.2 mthrown x1 x2 x3 x4 x6 x7 x5 1 hf
set_option maxRecDepth 100000 in
set_option maxHeartbeats 4000000 in
theorem k_X5_visits_31 {p : Program} {e : Env} {s : State} {m : MethodId} {args : Array Value} {below : List Frame} {meth : Method} {c : Code} {A : Nat → Prop} (l : Launch) (D : va_G) (cT : Nat → ClassId) (ad : Nat → Nat) (C : hC p s m args meth c cX5_visits 8 wsX5_visits RX5 D (ty4 cT) A) (hr : meth.sig.returnType = (some .int)) (n : Nat) (madded : Int32) (msides : Nat → Int32) (mkey : Nat → Int32) (misThere : Nat → Int32) (mboxes : Int32) (morder : Nat → Int32) (mlevels : Int32) (mnodes : Nat → Int32) (mentries : Nat → Int32) (r : Int32) (mleft' : Int32) (mlow' : Int32) (mright' : Int32) (mhigh' : Int32) (mfirst' : Int32) (mend' : Int32) (mthrown' : Int32)  : ∀ (fu : Nat) (mleft : Int32) (mlow : Int32) (mright : Int32) (mhigh : Int32) (mfirst : Int32) (mend : Int32) (mthrown : Int32) (x1 : Int32) (x2 : Int32) (x3 : Int32) (x4 : Int32) (x5 : Int32) (x6 : Int32), f_X5_visits_31 n msides morder mlevels mnodes mentries fu mleft mlow mright mhigh mfirst mend mthrown x1 x2 x3 x4 x5 x6 = some (r, mleft', mlow', mright', mhigh', mfirst', mend', mthrown') → hS p l e rmX5_visits s m args below meth c 8 D A 0 0 (MQ below (cQ D (ty4 cT) A (some (.int r)) (wM cT ad madded msides mkey misThere mboxes morder mlevels mnodes mentries mleft' mlow' mright' mhigh' mfirst' mend' mthrown')) args s 0 0 A) 31 [(0, .ref (ad 10)), (1, .int x1), (2, .int x2), (3, .int x3), (4, .int x4), (5, .int x5), (6, .int x6)] [] (wM cT ad madded msides mkey misThere mboxes morder mlevels mnodes mentries mleft mlow mright mhigh mfirst mend mthrown) := by
  intro fu
  induction fu with
  | zero =>
    intro mleft mlow mright mhigh mfirst mend mthrown x1 x2 x3 x4 x5 x6 hf
    exact nomatch (show (none : Option (Int32 × Int32 × Int32 × Int32 × Int32 × Int32 × Int32 × Int32)) = some (r, mleft', mlow', mright', mhigh', mfirst', mend', mthrown') from hf)
  | succ fu ih =>
    intro mleft mlow mright mhigh mfirst mend mthrown x1 x2 x3 x4 x5 x6 hf
    rw [f_X5_visits_31] at hf
    refine h_iload (pc := 31) C dX5_visits_31 6 rfl ?_
    refine h_aload_n (pc := 33) C dX5_visits_33 rfl 0 rfl ?_
    refine h_get (pc := 34) (ci := 3) (C0 := RX5) (T := TX5) (N := 16) C uX5_visits_X5 rfl 0 rfl 6 (by decide) (List.mem_of_getElem? (i := 1) rfl) rfl rfl dX5_visits_34 ?_
    refine h_icmp_ge (pc := 37) (tgt := 118) C dX5_visits_37 (by decide) (fun q => ?_) (fun q => ?_)
    · replace hf := jif_t q hf
      clear q
      refine h_iload (pc := 118) C dX5_visits_118 5 rfl ?_
      have g0 := (Prod.mk.inj (Option.some.inj hf)).1
      have g1 := (Prod.mk.inj (Prod.mk.inj (Option.some.inj hf)).2).1
      have g2 := (Prod.mk.inj (Prod.mk.inj (Prod.mk.inj (Option.some.inj hf)).2).2).1
      have g3 := (Prod.mk.inj (Prod.mk.inj (Prod.mk.inj (Prod.mk.inj (Option.some.inj hf)).2).2).2).1
      have g4 := (Prod.mk.inj (Prod.mk.inj (Prod.mk.inj (Prod.mk.inj (Prod.mk.inj (Option.some.inj hf)).2).2).2).2).1
      have g5 := (Prod.mk.inj (Prod.mk.inj (Prod.mk.inj (Prod.mk.inj (Prod.mk.inj (Prod.mk.inj (Option.some.inj hf)).2).2).2).2).2).1
      have g6 := (Prod.mk.inj (Prod.mk.inj (Prod.mk.inj (Prod.mk.inj (Prod.mk.inj (Prod.mk.inj (Prod.mk.inj (Option.some.inj hf)).2).2).2).2).2).2).1
      have g7 := (Prod.mk.inj (Prod.mk.inj (Prod.mk.inj (Prod.mk.inj (Prod.mk.inj (Prod.mk.inj (Prod.mk.inj (Option.some.inj hf)).2).2).2).2).2).2).2
      clear hf
      subst g0
      subst g1
      subst g2
      subst g3
      subst g4
      subst g5
      subst g6
      subst g7
      exact h_iret C hr dX5_visits_120
    · replace hf := jif_f q hf
      clear q
      refine h_iconst (pc := 40) C dX5_visits_40 jc_0 ?_
      refine h_istore (pc := 41) (lv' := [(7, .int 0), (0, .ref (ad 10)), (1, .int x1), (2, .int x2), (3, .int x3), (4, .int x4), (5, .int x5), (6, .int x6)]) C dX5_visits_41 (by decide) rfl ?_
      refine h_sub [1, 2, 3, 4, 5, 6, 7, 0] rfl ?_
      exact k_X5_visits_43 l D cT ad C hr n madded msides mkey misThere mboxes morder mlevels mnodes mentries r mleft' mlow' mright' mhigh' mfirst' mend' mthrown' (f_X5_visits_31 n msides morder mlevels mnodes mentries fu) ih n mleft mlow mright mhigh mfirst mend mthrown x1 x2 x3 x4 x5 x6 0 hf
set_option maxRecDepth 100000 in
set_option maxHeartbeats 4000000 in
theorem k_X5_visits_17 {p : Program} {e : Env} {s : State} {m : MethodId} {args : Array Value} {below : List Frame} {meth : Method} {c : Code} {A : Nat → Prop} (l : Launch) (D : va_G) (cT : Nat → ClassId) (ad : Nat → Nat) (C : hC p s m args meth c cX5_visits 8 wsX5_visits RX5 D (ty4 cT) A) (hr : meth.sig.returnType = (some .int)) (n : Nat) (madded : Int32) (msides : Nat → Int32) (mkey : Nat → Int32) (misThere : Nat → Int32) (mboxes : Int32) (morder : Nat → Int32) (mlevels : Int32) (mnodes : Nat → Int32) (mentries : Nat → Int32) (r : Int32) (mleft' : Int32) (mlow' : Int32) (mright' : Int32) (mhigh' : Int32) (mfirst' : Int32) (mend' : Int32) (mthrown' : Int32)  : ∀ (mleft : Int32) (mlow : Int32) (mright : Int32) (mhigh : Int32) (mfirst : Int32) (mend : Int32) (mthrown : Int32) (x1 : Int32) (x2 : Int32) (x3 : Int32) (x4 : Int32) (t1 : Int32), f_X5_visits_17 n msides morder mlevels mnodes mentries mleft mlow mright mhigh mfirst mend mthrown x1 x2 x3 x4 t1 = some (r, mleft', mlow', mright', mhigh', mfirst', mend', mthrown') → hS p l e rmX5_visits s m args below meth c 8 D A 0 0 (MQ below (cQ D (ty4 cT) A (some (.int r)) (wM cT ad madded msides mkey misThere mboxes morder mlevels mnodes mentries mleft' mlow' mright' mhigh' mfirst' mend' mthrown')) args s 0 0 A) 17 [(0, .ref (ad 10)), (1, .int x1), (2, .int x2), (3, .int x3), (4, .int x4)] (.int t1 :: .ref (ad 10) :: []) (wM cT ad madded msides mkey misThere mboxes morder mlevels mnodes mentries mleft mlow mright mhigh mfirst mend mthrown) := by
  intro mleft mlow mright mhigh mfirst mend mthrown x1 x2 x3 x4 t1 hf
  unfold f_X5_visits_17 at hf
  obtain ⟨v2, hc, hf⟩ := jbd_s hf
  refine h_callV (pc := 17) (q0 := 0) (As := [.int t1]) (rest := []) (ws' := (wM cT ad madded msides mkey misThere mboxes morder mlevels mnodes mentries mleft mlow mright mhigh mfirst mend v2.2)) (st2 := .int v2.1 :: []) C (c_X5_fails l D cT ad n madded msides mkey misThere mboxes morder mlevels mnodes mentries mleft mlow mright mhigh mfirst mend mthrown t1 v2.1 v2.2 hc) (cwV 1 C.1.2.2.2.2 gX5_visits_X5_fails rfl rfl rfl pv_X5_fails ⟨(Nat.le_of_ble_eq_true rfl), (Nat.le_of_ble_eq_true rfl)⟩) dX5_visits_17 rfl rfl rfl rfl rfl (Nat.le_of_ble_eq_true rfl) ⟨rfl, rfl⟩ ⟨(Nat.le_of_ble_eq_true rfl), (Nat.le_of_ble_eq_true rfl)⟩ [0, 1, 2, 3, 4, 5, 6] [] [0, 1, 2, 3, 4, 5, 6] rfl rfl rfl rfl (by decide) rfl rfl rfl ?_
  clear hc
  refine h_if_eq (pc := 20) (tgt := 25) C dX5_visits_20 (by decide) (fun q => ?_) (fun q => ?_)
  · replace hf := jif_t q hf
    clear q
    refine h_iconst (pc := 25) C dX5_visits_25 jc_0 ?_
    refine h_istore (pc := 26) (lv' := [(5, .int 0), (0, .ref (ad 10)), (1, .int x1), (2, .int x2), (3, .int x3), (4, .int x4)]) C dX5_visits_26 (by decide) rfl ?_
    refine h_iconst (pc := 28) C dX5_visits_28 jc_0 ?_
    refine h_istore (pc := 29) (lv' := [(6, .int 0), (5, .int 0), (0, .ref (ad 10)), (1, .int x1), (2, .int x2), (3, .int x3), (4, .int x4)]) C dX5_visits_29 (by decide) rfl ?_
    refine h_sub [2, 3, 4, 5, 6, 1, 0] rfl ?_
    exact k_X5_visits_31 l D cT ad C hr n madded msides mkey misThere mboxes morder mlevels mnodes mentries r mleft' mlow' mright' mhigh' mfirst' mend' mthrown' n mleft mlow mright mhigh mfirst mend v2.2 x1 x2 x3 x4 0 0 hf
  · replace hf := jif_f q hf
    clear q
    refine h_iconst (pc := 23) C dX5_visits_23 jc_0 ?_
    have g0 := (Prod.mk.inj (Option.some.inj hf)).1
    have g1 := (Prod.mk.inj (Prod.mk.inj (Option.some.inj hf)).2).1
    have g2 := (Prod.mk.inj (Prod.mk.inj (Prod.mk.inj (Option.some.inj hf)).2).2).1
    have g3 := (Prod.mk.inj (Prod.mk.inj (Prod.mk.inj (Prod.mk.inj (Option.some.inj hf)).2).2).2).1
    have g4 := (Prod.mk.inj (Prod.mk.inj (Prod.mk.inj (Prod.mk.inj (Prod.mk.inj (Option.some.inj hf)).2).2).2).2).1
    have g5 := (Prod.mk.inj (Prod.mk.inj (Prod.mk.inj (Prod.mk.inj (Prod.mk.inj (Prod.mk.inj (Option.some.inj hf)).2).2).2).2).2).1
    have g6 := (Prod.mk.inj (Prod.mk.inj (Prod.mk.inj (Prod.mk.inj (Prod.mk.inj (Prod.mk.inj (Prod.mk.inj (Option.some.inj hf)).2).2).2).2).2).2).1
    have g7 := (Prod.mk.inj (Prod.mk.inj (Prod.mk.inj (Prod.mk.inj (Prod.mk.inj (Prod.mk.inj (Prod.mk.inj (Option.some.inj hf)).2).2).2).2).2).2).2
    clear hf
    subst g0
    subst g1
    subst g2
    subst g3
    subst g4
    subst g5
    subst g6
    subst g7
    exact h_iret C hr dX5_visits_24
set_option maxRecDepth 100000 in
set_option maxHeartbeats 4000000 in
theorem c_X5_visits (l : Launch) (D : va_G) (cT : Nat → ClassId) (ad : Nat → Nat) (n : Nat) (madded : Int32) (msides : Nat → Int32) (mkey : Nat → Int32) (misThere : Nat → Int32) (mboxes : Int32) (morder : Nat → Int32) (mlevels : Int32) (mnodes : Nat → Int32) (mentries : Nat → Int32) (mleft : Int32) (mlow : Int32) (mright : Int32) (mhigh : Int32) (mfirst : Int32) (mend : Int32) (mthrown : Int32) (a1 : Int32) (a2 : Int32) (a3 : Int32) (a4 : Int32) (r : Int32) (mleft' : Int32) (mlow' : Int32) (mright' : Int32) (mhigh' : Int32) (mfirst' : Int32) (mend' : Int32) (mthrown' : Int32) (hf : f_X5_visits n msides morder mlevels mnodes mentries mleft mlow mright mhigh mfirst mend mthrown a1 a2 a3 a4 = some (r, mleft', mlow', mright', mhigh', mfirst', mend', mthrown')) : cM l yX5_visits wsX5_visits rmX5_visits D (ty4 cT) [.ref (ad 10), .int a1, .int a2, .int a3, .int a4] (wM cT ad madded msides mkey misThere mboxes morder mlevels mnodes mentries mleft mlow mright mhigh mfirst mend mthrown) (some (.int r)) (wM cT ad madded msides mkey misThere mboxes morder mlevels mnodes mentries mleft' mlow' mright' mhigh' mfirst' mend' mthrown') := by
  refine cM_of (cc := cX5_visits) (maxL := 8) (ret := (some .int)) (own := RX5) (lv := [(0, .ref (ad 10)), (1, .int a1), (2, .int a2), (3, .int a3), (4, .int a4)]) (by decide) rfl (Nat.le_of_ble_eq_true rfl) rfl rfl ?_
  intro p e s m args below meth c A C hr
  unfold f_X5_visits at hf
  refine h_aload_n (pc := 0) C dX5_visits_0 rfl 0 rfl ?_
  refine h_iload_n (pc := 1) C dX5_visits_1 rfl 1 rfl ?_
  refine h_iload_n (pc := 2) C dX5_visits_2 rfl 2 rfl ?_
  refine h_iload_n (pc := 3) C dX5_visits_3 rfl 3 rfl ?_
  refine h_iload (pc := 4) C dX5_visits_4 4 rfl ?_
  obtain ⟨v1, hc, hf⟩ := jbd_s hf
  refine h_callP (pc := 6) (As := [.int a1, .int a2, .int a3, .int a4]) (rest := .ref (ad 10) :: []) (st2 := .int v1 :: .ref (ad 10) :: []) C (c_X5_isArea l D cT ad n a1 a2 a3 a4 v1 hc) (va_cwS 4 C.1.2.2.2.2 gX5_visits_X5_isArea rfl rfl rfl ps_X5_isArea ⟨(Nat.le_of_ble_eq_true rfl), (Nat.le_of_ble_eq_true rfl)⟩) dX5_visits_6 rfl rfl (Nat.le_of_ble_eq_true rfl) ⟨rfl, rfl⟩ ⟨(Nat.le_of_ble_eq_true rfl), (Nat.le_of_ble_eq_true rfl)⟩ rfl ?_
  clear hc
  refine h_if_eq (pc := 9) (tgt := 16) C dX5_visits_9 (by decide) (fun q => ?_) (fun q => ?_)
  · replace hf := jif_t q hf
    clear q
    refine h_iconst (pc := 16) C dX5_visits_16 jc_1 ?_
    exact k_X5_visits_17 l D cT ad C hr n madded msides mkey misThere mboxes morder mlevels mnodes mentries r mleft' mlow' mright' mhigh' mfirst' mend' mthrown' mleft mlow mright mhigh mfirst mend mthrown a1 a2 a3 a4 1 hf
  · replace hf := jif_f q hf
    clear q
    refine h_iconst (pc := 12) C dX5_visits_12 jc_0 ?_
    refine h_goto (pc := 13) (tgt := 17) C dX5_visits_13 (by decide) ?_
    exact k_X5_visits_17 l D cT ad C hr n madded msides mkey misThere mboxes morder mlevels mnodes mentries r mleft' mlow' mright' mhigh' mfirst' mend' mthrown' mleft mlow mright mhigh mfirst mend mthrown a1 a2 a3 a4 0 hf
theorem pv_X5_visits : yX5_visits.cls = RX5 ∧ yX5_visits.cls ≠ "java/lang/invoke/MethodHandle" ∧ yX5_visits.cls ≠ "java/lang/invoke/VarHandle" ∧ (parseMethodDescriptor yX5_visits.desc).map (fun d => d.parameters.length) = some 4 := by decide +kernel
abbrev rmX5_far : Room := { frames := 0, cells := 0, slots := 0, locals := 0 }
theorem uX5_far_X5 : ∀ w ∈ u_ws RX5 TX5 16, w ∈ wsX5_far := fun w h => List.mem_cons_of_mem _ (List.mem_append_right _ h)
set_option maxRecDepth 100000 in
set_option maxHeartbeats 4000000 in
theorem k_X5_far_113 {p : Program} {e : Env} {s : State} {m : MethodId} {args : Array Value} {below : List Frame} {meth : Method} {c : Code} {A : Nat → Prop} (l : Launch) (D : va_G) (cT : Nat → ClassId) (ad : Nat → Nat) (C : hC p s m args meth c cX5_far 7 wsX5_far RX5 D (ty4 cT) A) (hr : meth.sig.returnType = (some .int)) (n : Nat) (madded : Int32) (msides : Nat → Int32) (mkey : Nat → Int32) (misThere : Nat → Int32) (mboxes : Int32) (morder : Nat → Int32) (mlevels : Int32) (mnodes : Nat → Int32) (mentries : Nat → Int32) (mleft : Int32) (mlow : Int32) (mright : Int32) (mhigh : Int32) (mfirst : Int32) (mend : Int32) (mthrown : Int32) (r : Int32)  : ∀  (x5 : Int32) (t0 : Int32), f_X5_far_113 n msides x5 t0 = some r → hS p l e rmX5_far s m args below meth c 7 D A 0 0 (MQ below (cQ D (ty4 cT) A (some (.int r)) (wM cT ad madded msides mkey misThere mboxes morder mlevels mnodes mentries mleft mlow mright mhigh mfirst mend mthrown)) args s 0 0 A) 113 [(5, .int x5)] (.int t0 :: []) (wM cT ad madded msides mkey misThere mboxes morder mlevels mnodes mentries mleft mlow mright mhigh mfirst mend mthrown) := by
  intro x5 t0 hf
  unfold f_X5_far_113 at hf
  refine h_istore (pc := 113) (lv' := [(6, .int t0), (5, .int x5)]) C dX5_far_113 (by decide) rfl ?_
  refine h_iload (pc := 115) C dX5_far_115 1 rfl ?_
  refine h_iload (pc := 117) C dX5_far_117 1 rfl ?_
  refine h_imul (pc := 119) C dX5_far_119 ?_
  refine h_iload (pc := 120) C dX5_far_120 0 rfl ?_
  refine h_iload (pc := 122) C dX5_far_122 0 rfl ?_
  refine h_imul (pc := 124) C dX5_far_124 ?_
  refine h_iadd (pc := 125) C dX5_far_125 ?_
  have g0 := (Option.some.inj hf)
  clear hf
  subst g0
  exact h_iret C hr dX5_far_126
set_option maxRecDepth 100000 in
set_option maxHeartbeats 4000000 in
theorem k_X5_far_56 {p : Program} {e : Env} {s : State} {m : MethodId} {args : Array Value} {below : List Frame} {meth : Method} {c : Code} {A : Nat → Prop} (l : Launch) (D : va_G) (cT : Nat → ClassId) (ad : Nat → Nat) (C : hC p s m args meth c cX5_far 7 wsX5_far RX5 D (ty4 cT) A) (hr : meth.sig.returnType = (some .int)) (n : Nat) (madded : Int32) (msides : Nat → Int32) (mkey : Nat → Int32) (misThere : Nat → Int32) (mboxes : Int32) (morder : Nat → Int32) (mlevels : Int32) (mnodes : Nat → Int32) (mentries : Nat → Int32) (mleft : Int32) (mlow : Int32) (mright : Int32) (mhigh : Int32) (mfirst : Int32) (mend : Int32) (mthrown : Int32) (r : Int32)  : ∀  (x2 : Int32) (x4 : Int32) (t0 : Int32), f_X5_far_56 n msides x2 x4 t0 = some r → hS p l e rmX5_far s m args below meth c 7 D A 0 0 (MQ below (cQ D (ty4 cT) A (some (.int r)) (wM cT ad madded msides mkey misThere mboxes morder mlevels mnodes mentries mleft mlow mright mhigh mfirst mend mthrown)) args s 0 0 A) 56 [(0, .ref (ad 10)), (2, .int x2), (4, .int x4)] (.int t0 :: []) (wM cT ad madded msides mkey misThere mboxes morder mlevels mnodes mentries mleft mlow mright mhigh mfirst mend mthrown) := by
  intro x2 x4 t0 hf
  unfold f_X5_far_56 at hf
  refine h_istore (pc := 56) (lv' := [(5, .int t0), (0, .ref (ad 10)), (2, .int x2), (4, .int x4)]) C dX5_far_56 (by decide) rfl ?_
  refine h_iload_n (pc := 58) C dX5_far_58 rfl 2 rfl ?_
  refine h_aload_n (pc := 59) C dX5_far_59 rfl 1 rfl ?_
  refine h_get (pc := 60) (ci := 3) (C0 := RX5) (T := TX5) (N := 16) C uX5_far_X5 rfl 0 rfl 1 (by decide) (List.mem_of_getElem? (i := 1) rfl) rfl rfl dX5_far_60 ?_
  refine h_iload (pc := 63) C dX5_far_63 3 rfl ?_
  refine h_iconst (pc := 65) C dX5_far_65 jc_1 ?_
  refine h_iadd (pc := 66) C dX5_far_66 ?_
  obtain ⟨hi, v5, hv, hf⟩ := jrd_s hf
  refine h_iald (pc := 67) C 1 0 rfl rfl hi hv dX5_far_67 ?_
  clear hi hv
  refine h_icmp_ge (pc := 68) (tgt := 85) C dX5_far_68 (by decide) (fun q => ?_) (fun q => ?_)
  · replace hf := jif_t q hf
    clear q
    refine h_iload_n (pc := 85) C dX5_far_85 rfl 2 rfl ?_
    refine h_aload_n (pc := 86) C dX5_far_86 rfl 1 rfl ?_
    refine h_get (pc := 87) (ci := 3) (C0 := RX5) (T := TX5) (N := 16) C uX5_far_X5 rfl 0 rfl 1 (by decide) (List.mem_of_getElem? (i := 1) rfl) rfl rfl dX5_far_87 ?_
    refine h_iload (pc := 90) C dX5_far_90 3 rfl ?_
    refine h_iconst (pc := 92) C dX5_far_92 jc_3 ?_
    refine h_iadd (pc := 93) C dX5_far_93 ?_
    obtain ⟨hi, v6, hv, hf⟩ := jrd_s hf
    refine h_iald (pc := 94) C 1 0 rfl rfl hi hv dX5_far_94 ?_
    clear hi hv
    refine h_icmp_le (pc := 95) (tgt := 112) C dX5_far_95 (by decide) (fun q => ?_) (fun q => ?_)
    · replace hf := jif_t q hf
      clear q
      refine h_iconst (pc := 112) C dX5_far_112 jc_0 ?_
      refine h_sub [0] rfl ?_
      exact k_X5_far_113 l D cT ad C hr n madded msides mkey misThere mboxes morder mlevels mnodes mentries mleft mlow mright mhigh mfirst mend mthrown r t0 0 hf
    · replace hf := jif_f q hf
      clear q
      refine h_iload_n (pc := 98) C dX5_far_98 rfl 2 rfl ?_
      refine h_aload_n (pc := 99) C dX5_far_99 rfl 1 rfl ?_
      refine h_get (pc := 100) (ci := 3) (C0 := RX5) (T := TX5) (N := 16) C uX5_far_X5 rfl 0 rfl 1 (by decide) (List.mem_of_getElem? (i := 1) rfl) rfl rfl dX5_far_100 ?_
      refine h_iload (pc := 103) C dX5_far_103 3 rfl ?_
      refine h_iconst (pc := 105) C dX5_far_105 jc_3 ?_
      refine h_iadd (pc := 106) C dX5_far_106 ?_
      obtain ⟨hi, v7, hv, hf⟩ := jrd_s hf
      refine h_iald (pc := 107) C 1 0 rfl rfl hi hv dX5_far_107 ?_
      clear hi hv
      refine h_isub (pc := 108) C dX5_far_108 ?_
      refine h_goto (pc := 109) (tgt := 113) C dX5_far_109 (by decide) ?_
      refine h_sub [0] rfl ?_
      exact k_X5_far_113 l D cT ad C hr n madded msides mkey misThere mboxes morder mlevels mnodes mentries mleft mlow mright mhigh mfirst mend mthrown r t0 (x2 - v7) hf
  · replace hf := jif_f q hf
    clear q
    refine h_aload_n (pc := 71) C dX5_far_71 rfl 1 rfl ?_
    refine h_get (pc := 72) (ci := 3) (C0 := RX5) (T := TX5) (N := 16) C uX5_far_X5 rfl 0 rfl 1 (by decide) (List.mem_of_getElem? (i := 1) rfl) rfl rfl dX5_far_72 ?_
    refine h_iload (pc := 75) C dX5_far_75 3 rfl ?_
    refine h_iconst (pc := 77) C dX5_far_77 jc_1 ?_
    refine h_iadd (pc := 78) C dX5_far_78 ?_
    obtain ⟨hi, v8, hv, hf⟩ := jrd_s hf
    refine h_iald (pc := 79) C 1 0 rfl rfl hi hv dX5_far_79 ?_
    clear hi hv
    refine h_iload_n (pc := 80) C dX5_far_80 rfl 2 rfl ?_
    refine h_isub (pc := 81) C dX5_far_81 ?_
    refine h_goto (pc := 82) (tgt := 113) C dX5_far_82 (by decide) ?_
    refine h_sub [0] rfl ?_
    exact k_X5_far_113 l D cT ad C hr n madded msides mkey misThere mboxes morder mlevels mnodes mentries mleft mlow mright mhigh mfirst mend mthrown r t0 (v8 - x2) hf
set_option maxRecDepth 100000 in
set_option maxHeartbeats 4000000 in
theorem c_X5_far (l : Launch) (D : va_G) (cT : Nat → ClassId) (ad : Nat → Nat) (n : Nat) (madded : Int32) (msides : Nat → Int32) (mkey : Nat → Int32) (misThere : Nat → Int32) (mboxes : Int32) (morder : Nat → Int32) (mlevels : Int32) (mnodes : Nat → Int32) (mentries : Nat → Int32) (mleft : Int32) (mlow : Int32) (mright : Int32) (mhigh : Int32) (mfirst : Int32) (mend : Int32) (mthrown : Int32) (a1 : Int32) (a2 : Int32) (a3 : Int32) (r : Int32) (hf : f_X5_far n msides a1 a2 a3 = some r) : cM l yX5_far wsX5_far rmX5_far D (ty4 cT) [.ref (ad 10), .int a1, .int a2, .int a3] (wM cT ad madded msides mkey misThere mboxes morder mlevels mnodes mentries mleft mlow mright mhigh mfirst mend mthrown) (some (.int r)) (wM cT ad madded msides mkey misThere mboxes morder mlevels mnodes mentries mleft mlow mright mhigh mfirst mend mthrown) := by
  refine cM_of (cc := cX5_far) (maxL := 7) (ret := (some .int)) (own := RX5) (lv := [(0, .ref (ad 10)), (1, .int a1), (2, .int a2), (3, .int a3)]) (by decide) rfl (Nat.le_of_ble_eq_true rfl) rfl rfl ?_
  intro p e s m args below meth c A C hr
  unfold f_X5_far at hf
  refine h_iconst (pc := 0) C dX5_far_0 jc_4 ?_
  refine h_iload_n (pc := 1) C dX5_far_1 rfl 3 rfl ?_
  refine h_imul (pc := 2) C dX5_far_2 ?_
  refine h_istore (pc := 3) (lv' := [(4, .int (4 * a3)), (0, .ref (ad 10)), (1, .int a1), (2, .int a2), (3, .int a3)]) C dX5_far_3 (by decide) rfl ?_
  refine h_iload_n (pc := 5) C dX5_far_5 rfl 2 rfl ?_
  refine h_aload_n (pc := 6) C dX5_far_6 rfl 1 rfl ?_
  refine h_get (pc := 7) (ci := 3) (C0 := RX5) (T := TX5) (N := 16) C uX5_far_X5 rfl 0 rfl 1 (by decide) (List.mem_of_getElem? (i := 1) rfl) rfl rfl dX5_far_7 ?_
  refine h_iload (pc := 10) C dX5_far_10 0 rfl ?_
  obtain ⟨hi, v1, hv, hf⟩ := jrd_s hf
  refine h_iald (pc := 12) C 1 0 rfl rfl hi hv dX5_far_12 ?_
  clear hi hv
  refine h_icmp_ge (pc := 13) (tgt := 28) C dX5_far_13 (by decide) (fun q => ?_) (fun q => ?_)
  · replace hf := jif_t q hf
    clear q
    refine h_iload_n (pc := 28) C dX5_far_28 rfl 2 rfl ?_
    refine h_aload_n (pc := 29) C dX5_far_29 rfl 1 rfl ?_
    refine h_get (pc := 30) (ci := 3) (C0 := RX5) (T := TX5) (N := 16) C uX5_far_X5 rfl 0 rfl 1 (by decide) (List.mem_of_getElem? (i := 1) rfl) rfl rfl dX5_far_30 ?_
    refine h_iload (pc := 33) C dX5_far_33 0 rfl ?_
    refine h_iconst (pc := 35) C dX5_far_35 jc_2 ?_
    refine h_iadd (pc := 36) C dX5_far_36 ?_
    obtain ⟨hi, v2, hv, hf⟩ := jrd_s hf
    refine h_iald (pc := 37) C 1 0 rfl rfl hi hv dX5_far_37 ?_
    clear hi hv
    refine h_icmp_le (pc := 38) (tgt := 55) C dX5_far_38 (by decide) (fun q => ?_) (fun q => ?_)
    · replace hf := jif_t q hf
      clear q
      refine h_iconst (pc := 55) C dX5_far_55 jc_0 ?_
      refine h_sub [1, 3, 0] rfl ?_
      exact k_X5_far_56 l D cT ad C hr n madded msides mkey misThere mboxes morder mlevels mnodes mentries mleft mlow mright mhigh mfirst mend mthrown r a2 (4 * a3) 0 hf
    · replace hf := jif_f q hf
      clear q
      refine h_iload_n (pc := 41) C dX5_far_41 rfl 2 rfl ?_
      refine h_aload_n (pc := 42) C dX5_far_42 rfl 1 rfl ?_
      refine h_get (pc := 43) (ci := 3) (C0 := RX5) (T := TX5) (N := 16) C uX5_far_X5 rfl 0 rfl 1 (by decide) (List.mem_of_getElem? (i := 1) rfl) rfl rfl dX5_far_43 ?_
      refine h_iload (pc := 46) C dX5_far_46 0 rfl ?_
      refine h_iconst (pc := 48) C dX5_far_48 jc_2 ?_
      refine h_iadd (pc := 49) C dX5_far_49 ?_
      obtain ⟨hi, v3, hv, hf⟩ := jrd_s hf
      refine h_iald (pc := 50) C 1 0 rfl rfl hi hv dX5_far_50 ?_
      clear hi hv
      refine h_isub (pc := 51) C dX5_far_51 ?_
      refine h_goto (pc := 52) (tgt := 56) C dX5_far_52 (by decide) ?_
      refine h_sub [1, 3, 0] rfl ?_
      exact k_X5_far_56 l D cT ad C hr n madded msides mkey misThere mboxes morder mlevels mnodes mentries mleft mlow mright mhigh mfirst mend mthrown r a2 (4 * a3) (a1 - v3) hf
  · replace hf := jif_f q hf
    clear q
    refine h_aload_n (pc := 16) C dX5_far_16 rfl 1 rfl ?_
    refine h_get (pc := 17) (ci := 3) (C0 := RX5) (T := TX5) (N := 16) C uX5_far_X5 rfl 0 rfl 1 (by decide) (List.mem_of_getElem? (i := 1) rfl) rfl rfl dX5_far_17 ?_
    refine h_iload (pc := 20) C dX5_far_20 0 rfl ?_
    obtain ⟨hi, v4, hv, hf⟩ := jrd_s hf
    refine h_iald (pc := 22) C 1 0 rfl rfl hi hv dX5_far_22 ?_
    clear hi hv
    refine h_iload_n (pc := 23) C dX5_far_23 rfl 2 rfl ?_
    refine h_isub (pc := 24) C dX5_far_24 ?_
    refine h_goto (pc := 25) (tgt := 56) C dX5_far_25 (by decide) ?_
    refine h_sub [1, 3, 0] rfl ?_
    exact k_X5_far_56 l D cT ad C hr n madded msides mkey misThere mboxes morder mlevels mnodes mentries mleft mlow mright mhigh mfirst mend mthrown r a2 (4 * a3) (v4 - a1) hf
theorem pv_X5_far : yX5_far.cls = RX5 ∧ yX5_far.cls ≠ "java/lang/invoke/MethodHandle" ∧ yX5_far.cls ≠ "java/lang/invoke/VarHandle" ∧ (parseMethodDescriptor yX5_far.desc).map (fun d => d.parameters.length) = some 3 := by decide +kernel
abbrev rmX5_nearer : Room := { frames := 1, cells := 0, slots := 0, locals := 26 }
theorem uX5_nearer_X5 : ∀ w ∈ u_ws RX5 TX5 16, w ∈ wsX5_nearer := fun w h => List.mem_cons_of_mem _ (List.mem_append_right _ h)
set_option maxRecDepth 100000 in
set_option maxHeartbeats 4000000 in
theorem k_X5_nearer_86 {p : Program} {e : Env} {s : State} {m : MethodId} {args : Array Value} {below : List Frame} {meth : Method} {c : Code} {A : Nat → Prop} (l : Launch) (D : va_G) (cT : Nat → ClassId) (ad : Nat → Nat) (C : hC p s m args meth c cX5_nearer 7 wsX5_nearer RX5 D (ty4 cT) A) (hr : meth.sig.returnType = (some .int)) (n : Nat) (madded : Int32) (msides : Nat → Int32) (mkey : Nat → Int32) (misThere : Nat → Int32) (mboxes : Int32) (morder : Nat → Int32) (mlevels : Int32) (mnodes : Nat → Int32) (mentries : Nat → Int32) (mleft : Int32) (mlow : Int32) (mright : Int32) (mhigh : Int32) (mfirst : Int32) (mend : Int32) (mthrown : Int32) (r : Int32) (k6 : Int32 → Int32 → Int32 → Int32 → Int32 → Option (Int32)) (K6 : ∀  (x1 : Int32) (x2 : Int32) (x3 : Int32) (x4 : Int32) (x5 : Int32), k6 x1 x2 x3 x4 x5 = some r → hS p l e rmX5_nearer s m args below meth c 7 D A 0 0 (MQ below (cQ D (ty4 cT) A (some (.int r)) (wM cT ad madded msides mkey misThere mboxes morder mlevels mnodes mentries mleft mlow mright mhigh mfirst mend mthrown)) args s 0 0 A) 6 [(0, .ref (ad 10)), (1, .int x1), (2, .int x2), (3, .int x3), (4, .int x4), (5, .int x5)] [] (wM cT ad madded msides mkey misThere mboxes morder mlevels mnodes mentries mleft mlow mright mhigh mfirst mend mthrown)) : ∀  (x1 : Int32) (x2 : Int32) (x3 : Int32) (x5 : Int32) (t0 : Int32) (t1 : Int32), f_X5_nearer_86 n madded msides misThere k6 x1 x2 x3 x5 t0 t1 = some r → hS p l e rmX5_nearer s m args below meth c 7 D A 0 0 (MQ below (cQ D (ty4 cT) A (some (.int r)) (wM cT ad madded msides mkey misThere mboxes morder mlevels mnodes mentries mleft mlow mright mhigh mfirst mend mthrown)) args s 0 0 A) 86 [(0, .ref (ad 10)), (1, .int x1), (2, .int x2), (3, .int x3), (5, .int x5)] (.int t1 :: .int t0 :: []) (wM cT ad madded msides mkey misThere mboxes morder mlevels mnodes mentries mleft mlow mright mhigh mfirst mend mthrown) := by
  intro x1 x2 x3 x5 t0 t1 hf
  unfold f_X5_nearer_86 at hf
  refine h_iadd (pc := 86) C dX5_nearer_86 ?_
  refine h_istore (pc := 87) (lv' := [(4, .int (t0 + t1)), (0, .ref (ad 10)), (1, .int x1), (2, .int x2), (3, .int x3), (5, .int x5)]) C dX5_nearer_87 (by decide) rfl ?_
  refine h_iinc (pc := 89) (v := x5 + 1) (lv' := [(5, .int (x5 + 1)), (4, .int (t0 + t1)), (0, .ref (ad 10)), (1, .int x1), (2, .int x2), (3, .int x3)]) C dX5_nearer_89 5 rfl (ji_1 _) (by decide) rfl ?_
  refine h_goto (pc := 92) (tgt := 6) C dX5_nearer_92 (by decide) ?_
  refine h_sub [2, 3, 4, 5, 1, 0] rfl ?_
  exact K6 x1 x2 x3 (t0 + t1) (x5 + 1) hf
set_option maxRecDepth 100000 in
set_option maxHeartbeats 4000000 in
theorem k_X5_nearer_72 {p : Program} {e : Env} {s : State} {m : MethodId} {args : Array Value} {below : List Frame} {meth : Method} {c : Code} {A : Nat → Prop} (l : Launch) (D : va_G) (cT : Nat → ClassId) (ad : Nat → Nat) (C : hC p s m args meth c cX5_nearer 7 wsX5_nearer RX5 D (ty4 cT) A) (hr : meth.sig.returnType = (some .int)) (n : Nat) (madded : Int32) (msides : Nat → Int32) (mkey : Nat → Int32) (misThere : Nat → Int32) (mboxes : Int32) (morder : Nat → Int32) (mlevels : Int32) (mnodes : Nat → Int32) (mentries : Nat → Int32) (mleft : Int32) (mlow : Int32) (mright : Int32) (mhigh : Int32) (mfirst : Int32) (mend : Int32) (mthrown : Int32) (r : Int32) (k6 : Int32 → Int32 → Int32 → Int32 → Int32 → Option (Int32)) (K6 : ∀  (x1 : Int32) (x2 : Int32) (x3 : Int32) (x4 : Int32) (x5 : Int32), k6 x1 x2 x3 x4 x5 = some r → hS p l e rmX5_nearer s m args below meth c 7 D A 0 0 (MQ below (cQ D (ty4 cT) A (some (.int r)) (wM cT ad madded msides mkey misThere mboxes morder mlevels mnodes mentries mleft mlow mright mhigh mfirst mend mthrown)) args s 0 0 A) 6 [(0, .ref (ad 10)), (1, .int x1), (2, .int x2), (3, .int x3), (4, .int x4), (5, .int x5)] [] (wM cT ad madded msides mkey misThere mboxes morder mlevels mnodes mentries mleft mlow mright mhigh mfirst mend mthrown)) : ∀  (x1 : Int32) (x2 : Int32) (x3 : Int32) (x4 : Int32) (x5 : Int32) (t0 : Int32), f_X5_nearer_72 n madded msides misThere k6 x1 x2 x3 x4 x5 t0 = some r → hS p l e rmX5_nearer s m args below meth c 7 D A 0 0 (MQ below (cQ D (ty4 cT) A (some (.int r)) (wM cT ad madded msides mkey misThere mboxes morder mlevels mnodes mentries mleft mlow mright mhigh mfirst mend mthrown)) args s 0 0 A) 72 [(0, .ref (ad 10)), (1, .int x1), (2, .int x2), (3, .int x3), (4, .int x4), (5, .int x5)] (.int t0 :: []) (wM cT ad madded msides mkey misThere mboxes morder mlevels mnodes mentries mleft mlow mright mhigh mfirst mend mthrown) := by
  intro x1 x2 x3 x4 x5 t0 hf
  unfold f_X5_nearer_72 at hf
  refine h_istore (pc := 72) (lv' := [(6, .int t0), (0, .ref (ad 10)), (1, .int x1), (2, .int x2), (3, .int x3), (4, .int x4), (5, .int x5)]) C dX5_nearer_72 (by decide) rfl ?_
  refine h_iload (pc := 74) C dX5_nearer_74 5 rfl ?_
  refine h_iload (pc := 76) C dX5_nearer_76 0 rfl ?_
  refine h_if_eq (pc := 78) (tgt := 85) C dX5_nearer_78 (by decide) (fun q => ?_) (fun q => ?_)
  · replace hf := jif_t q hf
    clear q
    refine h_iconst (pc := 85) C dX5_nearer_85 jc_0 ?_
    refine h_sub [1, 2, 3, 4, 6] rfl ?_
    exact k_X5_nearer_86 l D cT ad C hr n madded msides mkey misThere mboxes morder mlevels mnodes mentries mleft mlow mright mhigh mfirst mend mthrown r k6 K6 x1 x2 x3 x5 x4 0 hf
  · replace hf := jif_f q hf
    clear q
    refine h_iconst (pc := 81) C dX5_nearer_81 jc_1 ?_
    refine h_goto (pc := 82) (tgt := 86) C dX5_nearer_82 (by decide) ?_
    refine h_sub [1, 2, 3, 4, 6] rfl ?_
    exact k_X5_nearer_86 l D cT ad C hr n madded msides mkey misThere mboxes morder mlevels mnodes mentries mleft mlow mright mhigh mfirst mend mthrown r k6 K6 x1 x2 x3 x5 x4 1 hf
set_option maxRecDepth 100000 in
set_option maxHeartbeats 4000000 in
theorem k_X5_nearer_71 {p : Program} {e : Env} {s : State} {m : MethodId} {args : Array Value} {below : List Frame} {meth : Method} {c : Code} {A : Nat → Prop} (l : Launch) (D : va_G) (cT : Nat → ClassId) (ad : Nat → Nat) (C : hC p s m args meth c cX5_nearer 7 wsX5_nearer RX5 D (ty4 cT) A) (hr : meth.sig.returnType = (some .int)) (n : Nat) (madded : Int32) (msides : Nat → Int32) (mkey : Nat → Int32) (misThere : Nat → Int32) (mboxes : Int32) (morder : Nat → Int32) (mlevels : Int32) (mnodes : Nat → Int32) (mentries : Nat → Int32) (mleft : Int32) (mlow : Int32) (mright : Int32) (mhigh : Int32) (mfirst : Int32) (mend : Int32) (mthrown : Int32) (r : Int32) (k6 : Int32 → Int32 → Int32 → Int32 → Int32 → Option (Int32)) (K6 : ∀  (x1 : Int32) (x2 : Int32) (x3 : Int32) (x4 : Int32) (x5 : Int32), k6 x1 x2 x3 x4 x5 = some r → hS p l e rmX5_nearer s m args below meth c 7 D A 0 0 (MQ below (cQ D (ty4 cT) A (some (.int r)) (wM cT ad madded msides mkey misThere mboxes morder mlevels mnodes mentries mleft mlow mright mhigh mfirst mend mthrown)) args s 0 0 A) 6 [(0, .ref (ad 10)), (1, .int x1), (2, .int x2), (3, .int x3), (4, .int x4), (5, .int x5)] [] (wM cT ad madded msides mkey misThere mboxes morder mlevels mnodes mentries mleft mlow mright mhigh mfirst mend mthrown)) : ∀  (x1 : Int32) (x2 : Int32) (x3 : Int32) (x4 : Int32) (x5 : Int32), f_X5_nearer_71 n madded msides misThere k6 x1 x2 x3 x4 x5 = some r → hS p l e rmX5_nearer s m args below meth c 7 D A 0 0 (MQ below (cQ D (ty4 cT) A (some (.int r)) (wM cT ad madded msides mkey misThere mboxes morder mlevels mnodes mentries mleft mlow mright mhigh mfirst mend mthrown)) args s 0 0 A) 71 [(0, .ref (ad 10)), (1, .int x1), (2, .int x2), (3, .int x3), (4, .int x4), (5, .int x5)] [] (wM cT ad madded msides mkey misThere mboxes morder mlevels mnodes mentries mleft mlow mright mhigh mfirst mend mthrown) := by
  intro x1 x2 x3 x4 x5 hf
  unfold f_X5_nearer_71 at hf
  refine h_iconst (pc := 71) C dX5_nearer_71 jc_0 ?_
  exact k_X5_nearer_72 l D cT ad C hr n madded msides mkey misThere mboxes morder mlevels mnodes mentries mleft mlow mright mhigh mfirst mend mthrown r k6 K6 x1 x2 x3 x4 x5 0 hf
set_option maxRecDepth 100000 in
set_option maxHeartbeats 4000000 in
theorem k_X5_nearer_67 {p : Program} {e : Env} {s : State} {m : MethodId} {args : Array Value} {below : List Frame} {meth : Method} {c : Code} {A : Nat → Prop} (l : Launch) (D : va_G) (cT : Nat → ClassId) (ad : Nat → Nat) (C : hC p s m args meth c cX5_nearer 7 wsX5_nearer RX5 D (ty4 cT) A) (hr : meth.sig.returnType = (some .int)) (n : Nat) (madded : Int32) (msides : Nat → Int32) (mkey : Nat → Int32) (misThere : Nat → Int32) (mboxes : Int32) (morder : Nat → Int32) (mlevels : Int32) (mnodes : Nat → Int32) (mentries : Nat → Int32) (mleft : Int32) (mlow : Int32) (mright : Int32) (mhigh : Int32) (mfirst : Int32) (mend : Int32) (mthrown : Int32) (r : Int32) (k6 : Int32 → Int32 → Int32 → Int32 → Int32 → Option (Int32)) (K6 : ∀  (x1 : Int32) (x2 : Int32) (x3 : Int32) (x4 : Int32) (x5 : Int32), k6 x1 x2 x3 x4 x5 = some r → hS p l e rmX5_nearer s m args below meth c 7 D A 0 0 (MQ below (cQ D (ty4 cT) A (some (.int r)) (wM cT ad madded msides mkey misThere mboxes morder mlevels mnodes mentries mleft mlow mright mhigh mfirst mend mthrown)) args s 0 0 A) 6 [(0, .ref (ad 10)), (1, .int x1), (2, .int x2), (3, .int x3), (4, .int x4), (5, .int x5)] [] (wM cT ad madded msides mkey misThere mboxes morder mlevels mnodes mentries mleft mlow mright mhigh mfirst mend mthrown)) : ∀  (x1 : Int32) (x2 : Int32) (x3 : Int32) (x4 : Int32) (x5 : Int32), f_X5_nearer_67 n madded msides misThere k6 x1 x2 x3 x4 x5 = some r → hS p l e rmX5_nearer s m args below meth c 7 D A 0 0 (MQ below (cQ D (ty4 cT) A (some (.int r)) (wM cT ad madded msides mkey misThere mboxes morder mlevels mnodes mentries mleft mlow mright mhigh mfirst mend mthrown)) args s 0 0 A) 67 [(0, .ref (ad 10)), (1, .int x1), (2, .int x2), (3, .int x3), (4, .int x4), (5, .int x5)] [] (wM cT ad madded msides mkey misThere mboxes morder mlevels mnodes mentries mleft mlow mright mhigh mfirst mend mthrown) := by
  intro x1 x2 x3 x4 x5 hf
  unfold f_X5_nearer_67 at hf
  refine h_iconst (pc := 67) C dX5_nearer_67 jc_1 ?_
  refine h_goto (pc := 68) (tgt := 72) C dX5_nearer_68 (by decide) ?_
  exact k_X5_nearer_72 l D cT ad C hr n madded msides mkey misThere mboxes morder mlevels mnodes mentries mleft mlow mright mhigh mfirst mend mthrown r k6 K6 x1 x2 x3 x4 x5 1 hf
set_option maxRecDepth 100000 in
set_option maxHeartbeats 4000000 in
theorem k_X5_nearer_6 {p : Program} {e : Env} {s : State} {m : MethodId} {args : Array Value} {below : List Frame} {meth : Method} {c : Code} {A : Nat → Prop} (l : Launch) (D : va_G) (cT : Nat → ClassId) (ad : Nat → Nat) (C : hC p s m args meth c cX5_nearer 7 wsX5_nearer RX5 D (ty4 cT) A) (hr : meth.sig.returnType = (some .int)) (n : Nat) (madded : Int32) (msides : Nat → Int32) (mkey : Nat → Int32) (misThere : Nat → Int32) (mboxes : Int32) (morder : Nat → Int32) (mlevels : Int32) (mnodes : Nat → Int32) (mentries : Nat → Int32) (mleft : Int32) (mlow : Int32) (mright : Int32) (mhigh : Int32) (mfirst : Int32) (mend : Int32) (mthrown : Int32) (r : Int32)  : ∀ (fu : Nat)  (x1 : Int32) (x2 : Int32) (x3 : Int32) (x4 : Int32) (x5 : Int32), f_X5_nearer_6 n madded msides misThere fu x1 x2 x3 x4 x5 = some r → hS p l e rmX5_nearer s m args below meth c 7 D A 0 0 (MQ below (cQ D (ty4 cT) A (some (.int r)) (wM cT ad madded msides mkey misThere mboxes morder mlevels mnodes mentries mleft mlow mright mhigh mfirst mend mthrown)) args s 0 0 A) 6 [(0, .ref (ad 10)), (1, .int x1), (2, .int x2), (3, .int x3), (4, .int x4), (5, .int x5)] [] (wM cT ad madded msides mkey misThere mboxes morder mlevels mnodes mentries mleft mlow mright mhigh mfirst mend mthrown) := by
  intro fu
  induction fu with
  | zero =>
    intro x1 x2 x3 x4 x5 hf
    exact nomatch (show (none : Option (Int32)) = some r from hf)
  | succ fu ih =>
    intro x1 x2 x3 x4 x5 hf
    rw [f_X5_nearer_6] at hf
    refine h_iload (pc := 6) C dX5_nearer_6 5 rfl ?_
    refine h_aload_n (pc := 8) C dX5_nearer_8 rfl 0 rfl ?_
    refine h_get (pc := 9) (ci := 3) (C0 := RX5) (T := TX5) (N := 16) C uX5_nearer_X5 rfl 0 rfl 0 (by decide) (List.mem_of_getElem? (i := 1) rfl) rfl rfl dX5_nearer_9 ?_
    refine h_icmp_ge (pc := 12) (tgt := 95) C dX5_nearer_12 (by decide) (fun q => ?_) (fun q => ?_)
    · replace hf := jif_t q hf
      clear q
      refine h_iload (pc := 95) C dX5_nearer_95 4 rfl ?_
      have g0 := (Option.some.inj hf)
      clear hf
      subst g0
      exact h_iret C hr dX5_nearer_97
    · replace hf := jif_f q hf
      clear q
      refine h_aload_n (pc := 15) C dX5_nearer_15 rfl 0 rfl ?_
      refine h_get (pc := 16) (ci := 3) (C0 := RX5) (T := TX5) (N := 16) C uX5_nearer_X5 rfl 0 rfl 3 (by decide) (List.mem_of_getElem? (i := 2) rfl) rfl rfl dX5_nearer_16 ?_
      refine h_iload (pc := 19) C dX5_nearer_19 5 rfl ?_
      obtain ⟨hi, v1, hv, hf⟩ := jrd_s hf
      refine h_zald (pc := 21) C 3 1 rfl rfl hi hv dX5_nearer_21 ?_
      clear hi hv
      refine h_if_eq (pc := 22) (tgt := 71) C dX5_nearer_22 (by decide) (fun q => ?_) (fun q => ?_)
      · replace hf := jif_t q hf
        clear q
        exact k_X5_nearer_71 l D cT ad C hr n madded msides mkey misThere mboxes morder mlevels mnodes mentries mleft mlow mright mhigh mfirst mend mthrown r (f_X5_nearer_6 n madded msides misThere fu) ih x1 x2 x3 x4 x5 hf
      · replace hf := jif_f q hf
        clear q
        refine h_aload_n (pc := 25) C dX5_nearer_25 rfl 0 rfl ?_
        refine h_iload_n (pc := 26) C dX5_nearer_26 rfl 1 rfl ?_
        refine h_iload_n (pc := 27) C dX5_nearer_27 rfl 2 rfl ?_
        refine h_iload (pc := 28) C dX5_nearer_28 5 rfl ?_
        obtain ⟨v2, hc, hf⟩ := jbd_s hf
        refine h_callV (pc := 30) (q0 := 0) (As := [.int x1, .int x2, .int x5]) (rest := []) (ws' := (wM cT ad madded msides mkey misThere mboxes morder mlevels mnodes mentries mleft mlow mright mhigh mfirst mend mthrown)) (st2 := .int v2 :: []) C (c_X5_far l D cT ad n madded msides mkey misThere mboxes morder mlevels mnodes mentries mleft mlow mright mhigh mfirst mend mthrown x1 x2 x5 v2 hc) (cwV 3 C.1.2.2.2.2 gX5_nearer_X5_far rfl rfl rfl pv_X5_far ⟨(Nat.le_of_ble_eq_true rfl), (Nat.le_of_ble_eq_true rfl)⟩) dX5_nearer_30 rfl rfl rfl rfl rfl (Nat.le_of_ble_eq_true rfl) ⟨rfl, rfl⟩ ⟨(Nat.le_of_ble_eq_true rfl), (Nat.le_of_ble_eq_true rfl)⟩ [0, 1, 2, 3, 4, 5, 6] [] [0, 1, 2, 3, 4, 5, 6] rfl rfl rfl rfl (by decide) rfl rfl rfl ?_
        clear hc
        refine h_aload_n (pc := 33) C dX5_nearer_33 rfl 0 rfl ?_
        refine h_iload_n (pc := 34) C dX5_nearer_34 rfl 1 rfl ?_
        refine h_iload_n (pc := 35) C dX5_nearer_35 rfl 2 rfl ?_
        refine h_iload_n (pc := 36) C dX5_nearer_36 rfl 3 rfl ?_
        obtain ⟨v3, hc, hf⟩ := jbd_s hf
        refine h_callV (pc := 37) (q0 := 0) (As := [.int x1, .int x2, .int x3]) (rest := .int v2 :: []) (ws' := (wM cT ad madded msides mkey misThere mboxes morder mlevels mnodes mentries mleft mlow mright mhigh mfirst mend mthrown)) (st2 := .int v3 :: .int v2 :: []) C (c_X5_far l D cT ad n madded msides mkey misThere mboxes morder mlevels mnodes mentries mleft mlow mright mhigh mfirst mend mthrown x1 x2 x3 v3 hc) (cwV 3 C.1.2.2.2.2 gX5_nearer_X5_far rfl rfl rfl pv_X5_far ⟨(Nat.le_of_ble_eq_true rfl), (Nat.le_of_ble_eq_true rfl)⟩) dX5_nearer_37 rfl rfl rfl rfl rfl (Nat.le_of_ble_eq_true rfl) ⟨rfl, rfl⟩ ⟨(Nat.le_of_ble_eq_true rfl), (Nat.le_of_ble_eq_true rfl)⟩ [0, 1, 2, 3, 4, 5, 6] [] [0, 1, 2, 3, 4, 5, 6] rfl rfl rfl rfl (by decide) rfl rfl rfl ?_
        clear hc
        refine h_icmp_lt (pc := 40) (tgt := 67) C dX5_nearer_40 (by decide) (fun q => ?_) (fun q => ?_)
        · replace hf := jif_t q hf
          clear q
          exact k_X5_nearer_67 l D cT ad C hr n madded msides mkey misThere mboxes morder mlevels mnodes mentries mleft mlow mright mhigh mfirst mend mthrown r (f_X5_nearer_6 n madded msides misThere fu) ih x1 x2 x3 x4 x5 hf
        · replace hf := jif_f q hf
          clear q
          refine h_aload_n (pc := 43) C dX5_nearer_43 rfl 0 rfl ?_
          refine h_iload_n (pc := 44) C dX5_nearer_44 rfl 1 rfl ?_
          refine h_iload_n (pc := 45) C dX5_nearer_45 rfl 2 rfl ?_
          refine h_iload (pc := 46) C dX5_nearer_46 5 rfl ?_
          obtain ⟨v4, hc, hf⟩ := jbd_s hf
          refine h_callV (pc := 48) (q0 := 0) (As := [.int x1, .int x2, .int x5]) (rest := []) (ws' := (wM cT ad madded msides mkey misThere mboxes morder mlevels mnodes mentries mleft mlow mright mhigh mfirst mend mthrown)) (st2 := .int v4 :: []) C (c_X5_far l D cT ad n madded msides mkey misThere mboxes morder mlevels mnodes mentries mleft mlow mright mhigh mfirst mend mthrown x1 x2 x5 v4 hc) (cwV 3 C.1.2.2.2.2 gX5_nearer_X5_far rfl rfl rfl pv_X5_far ⟨(Nat.le_of_ble_eq_true rfl), (Nat.le_of_ble_eq_true rfl)⟩) dX5_nearer_48 rfl rfl rfl rfl rfl (Nat.le_of_ble_eq_true rfl) ⟨rfl, rfl⟩ ⟨(Nat.le_of_ble_eq_true rfl), (Nat.le_of_ble_eq_true rfl)⟩ [0, 1, 2, 3, 4, 5, 6] [] [0, 1, 2, 3, 4, 5, 6] rfl rfl rfl rfl (by decide) rfl rfl rfl ?_
          clear hc
          refine h_aload_n (pc := 51) C dX5_nearer_51 rfl 0 rfl ?_
          refine h_iload_n (pc := 52) C dX5_nearer_52 rfl 1 rfl ?_
          refine h_iload_n (pc := 53) C dX5_nearer_53 rfl 2 rfl ?_
          refine h_iload_n (pc := 54) C dX5_nearer_54 rfl 3 rfl ?_
          obtain ⟨v5, hc, hf⟩ := jbd_s hf
          refine h_callV (pc := 55) (q0 := 0) (As := [.int x1, .int x2, .int x3]) (rest := .int v4 :: []) (ws' := (wM cT ad madded msides mkey misThere mboxes morder mlevels mnodes mentries mleft mlow mright mhigh mfirst mend mthrown)) (st2 := .int v5 :: .int v4 :: []) C (c_X5_far l D cT ad n madded msides mkey misThere mboxes morder mlevels mnodes mentries mleft mlow mright mhigh mfirst mend mthrown x1 x2 x3 v5 hc) (cwV 3 C.1.2.2.2.2 gX5_nearer_X5_far rfl rfl rfl pv_X5_far ⟨(Nat.le_of_ble_eq_true rfl), (Nat.le_of_ble_eq_true rfl)⟩) dX5_nearer_55 rfl rfl rfl rfl rfl (Nat.le_of_ble_eq_true rfl) ⟨rfl, rfl⟩ ⟨(Nat.le_of_ble_eq_true rfl), (Nat.le_of_ble_eq_true rfl)⟩ [0, 1, 2, 3, 4, 5, 6] [] [0, 1, 2, 3, 4, 5, 6] rfl rfl rfl rfl (by decide) rfl rfl rfl ?_
          clear hc
          refine h_icmp_ne (pc := 58) (tgt := 71) C dX5_nearer_58 (by decide) (fun q => ?_) (fun q => ?_)
          · replace hf := jif_f q hf
            clear q
            exact k_X5_nearer_71 l D cT ad C hr n madded msides mkey misThere mboxes morder mlevels mnodes mentries mleft mlow mright mhigh mfirst mend mthrown r (f_X5_nearer_6 n madded msides misThere fu) ih x1 x2 x3 x4 x5 hf
          · replace hf := jif_t q hf
            clear q
            refine h_iload (pc := 61) C dX5_nearer_61 5 rfl ?_
            refine h_iload_n (pc := 63) C dX5_nearer_63 rfl 3 rfl ?_
            refine h_icmp_ge (pc := 64) (tgt := 71) C dX5_nearer_64 (by decide) (fun q => ?_) (fun q => ?_)
            · replace hf := jif_t q hf
              clear q
              exact k_X5_nearer_71 l D cT ad C hr n madded msides mkey misThere mboxes morder mlevels mnodes mentries mleft mlow mright mhigh mfirst mend mthrown r (f_X5_nearer_6 n madded msides misThere fu) ih x1 x2 x3 x4 x5 hf
            · replace hf := jif_f q hf
              clear q
              exact k_X5_nearer_67 l D cT ad C hr n madded msides mkey misThere mboxes morder mlevels mnodes mentries mleft mlow mright mhigh mfirst mend mthrown r (f_X5_nearer_6 n madded msides misThere fu) ih x1 x2 x3 x4 x5 hf
set_option maxRecDepth 100000 in
set_option maxHeartbeats 4000000 in
theorem c_X5_nearer (l : Launch) (D : va_G) (cT : Nat → ClassId) (ad : Nat → Nat) (n : Nat) (madded : Int32) (msides : Nat → Int32) (mkey : Nat → Int32) (misThere : Nat → Int32) (mboxes : Int32) (morder : Nat → Int32) (mlevels : Int32) (mnodes : Nat → Int32) (mentries : Nat → Int32) (mleft : Int32) (mlow : Int32) (mright : Int32) (mhigh : Int32) (mfirst : Int32) (mend : Int32) (mthrown : Int32) (a1 : Int32) (a2 : Int32) (a3 : Int32) (r : Int32) (hf : f_X5_nearer n madded msides misThere a1 a2 a3 = some r) : cM l yX5_nearer wsX5_nearer rmX5_nearer D (ty4 cT) [.ref (ad 10), .int a1, .int a2, .int a3] (wM cT ad madded msides mkey misThere mboxes morder mlevels mnodes mentries mleft mlow mright mhigh mfirst mend mthrown) (some (.int r)) (wM cT ad madded msides mkey misThere mboxes morder mlevels mnodes mentries mleft mlow mright mhigh mfirst mend mthrown) := by
  refine cM_of (cc := cX5_nearer) (maxL := 7) (ret := (some .int)) (own := RX5) (lv := [(0, .ref (ad 10)), (1, .int a1), (2, .int a2), (3, .int a3)]) (by decide) rfl (Nat.le_of_ble_eq_true rfl) rfl rfl ?_
  intro p e s m args below meth c A C hr
  unfold f_X5_nearer at hf
  refine h_iconst (pc := 0) C dX5_nearer_0 jc_0 ?_
  refine h_istore (pc := 1) (lv' := [(4, .int 0), (0, .ref (ad 10)), (1, .int a1), (2, .int a2), (3, .int a3)]) C dX5_nearer_1 (by decide) rfl ?_
  refine h_iconst (pc := 3) C dX5_nearer_3 jc_0 ?_
  refine h_istore (pc := 4) (lv' := [(5, .int 0), (4, .int 0), (0, .ref (ad 10)), (1, .int a1), (2, .int a2), (3, .int a3)]) C dX5_nearer_4 (by decide) rfl ?_
  refine h_sub [2, 3, 4, 5, 1, 0] rfl ?_
  exact k_X5_nearer_6 l D cT ad C hr n madded msides mkey misThere mboxes morder mlevels mnodes mentries mleft mlow mright mhigh mfirst mend mthrown r n a1 a2 a3 0 0 hf
theorem pv_X5_nearer : yX5_nearer.cls = RX5 ∧ yX5_nearer.cls ≠ "java/lang/invoke/MethodHandle" ∧ yX5_nearer.cls ≠ "java/lang/invoke/VarHandle" ∧ (parseMethodDescriptor yX5_nearer.desc).map (fun d => d.parameters.length) = some 3 := by decide +kernel
abbrev rmX5_nearest : Room := { frames := 2, cells := 0, slots := 0, locals := 52 }
theorem uX5_nearest_X5 : ∀ w ∈ u_ws RX5 TX5 16, w ∈ wsX5_nearest := fun w h => List.mem_cons_of_mem _ (List.mem_append_right _ h)
set_option maxRecDepth 100000 in
set_option maxHeartbeats 4000000 in
theorem k_X5_nearest_63 {p : Program} {e : Env} {s : State} {m : MethodId} {args : Array Value} {below : List Frame} {meth : Method} {c : Code} {A : Nat → Prop} (l : Launch) (D : va_G) (cT : Nat → ClassId) (ad : Nat → Nat) (C : hC p s m args meth c cX5_nearest 5 wsX5_nearest RX5 D (ty4 cT) A) (hr : meth.sig.returnType = (some .int)) (n : Nat) (madded : Int32) (msides : Nat → Int32) (mkey : Nat → Int32) (misThere : Nat → Int32) (mboxes : Int32) (morder : Nat → Int32) (mlevels : Int32) (mnodes : Nat → Int32) (mentries : Nat → Int32) (mleft : Int32) (mlow : Int32) (mright : Int32) (mhigh : Int32) (mfirst : Int32) (mend : Int32) (r : Int32) (mthrown' : Int32) (k41 : Int32 → Int32 → Int32 → Int32 → Int32 → Option (Int32 × Int32)) (K41 : ∀ (mthrown : Int32) (x1 : Int32) (x2 : Int32) (x3 : Int32) (x4 : Int32), k41 mthrown x1 x2 x3 x4 = some (r, mthrown') → hS p l e rmX5_nearest s m args below meth c 5 D A 0 0 (MQ below (cQ D (ty4 cT) A (some (.int r)) (wM cT ad madded msides mkey misThere mboxes morder mlevels mnodes mentries mleft mlow mright mhigh mfirst mend mthrown')) args s 0 0 A) 41 [(0, .ref (ad 10)), (1, .int x1), (2, .int x2), (3, .int x3), (4, .int x4)] [] (wM cT ad madded msides mkey misThere mboxes morder mlevels mnodes mentries mleft mlow mright mhigh mfirst mend mthrown)) : ∀ (mthrown : Int32) (x1 : Int32) (x2 : Int32) (x3 : Int32) (x4 : Int32), f_X5_nearest_63 n madded msides misThere mboxes k41 mthrown x1 x2 x3 x4 = some (r, mthrown') → hS p l e rmX5_nearest s m args below meth c 5 D A 0 0 (MQ below (cQ D (ty4 cT) A (some (.int r)) (wM cT ad madded msides mkey misThere mboxes morder mlevels mnodes mentries mleft mlow mright mhigh mfirst mend mthrown')) args s 0 0 A) 63 [(0, .ref (ad 10)), (1, .int x1), (2, .int x2), (3, .int x3), (4, .int x4)] [] (wM cT ad madded msides mkey misThere mboxes morder mlevels mnodes mentries mleft mlow mright mhigh mfirst mend mthrown) := by
  intro mthrown x1 x2 x3 x4 hf
  unfold f_X5_nearest_63 at hf
  refine h_iinc (pc := 63) (v := x4 + 1) (lv' := [(4, .int (x4 + 1)), (0, .ref (ad 10)), (1, .int x1), (2, .int x2), (3, .int x3)]) C dX5_nearest_63 4 rfl (ji_1 _) (by decide) rfl ?_
  refine h_goto (pc := 66) (tgt := 41) C dX5_nearest_66 (by decide) ?_
  refine h_sub [1, 2, 3, 4, 0] rfl ?_
  exact K41 mthrown x1 x2 x3 (x4 + 1) hf
set_option maxRecDepth 100000 in
set_option maxHeartbeats 4000000 in
theorem k_X5_nearest_41 {p : Program} {e : Env} {s : State} {m : MethodId} {args : Array Value} {below : List Frame} {meth : Method} {c : Code} {A : Nat → Prop} (l : Launch) (D : va_G) (cT : Nat → ClassId) (ad : Nat → Nat) (C : hC p s m args meth c cX5_nearest 5 wsX5_nearest RX5 D (ty4 cT) A) (hr : meth.sig.returnType = (some .int)) (n : Nat) (madded : Int32) (msides : Nat → Int32) (mkey : Nat → Int32) (misThere : Nat → Int32) (mboxes : Int32) (morder : Nat → Int32) (mlevels : Int32) (mnodes : Nat → Int32) (mentries : Nat → Int32) (mleft : Int32) (mlow : Int32) (mright : Int32) (mhigh : Int32) (mfirst : Int32) (mend : Int32) (r : Int32) (mthrown' : Int32)  : ∀ (fu : Nat) (mthrown : Int32) (x1 : Int32) (x2 : Int32) (x3 : Int32) (x4 : Int32), f_X5_nearest_41 n madded msides misThere mboxes fu mthrown x1 x2 x3 x4 = some (r, mthrown') → hS p l e rmX5_nearest s m args below meth c 5 D A 0 0 (MQ below (cQ D (ty4 cT) A (some (.int r)) (wM cT ad madded msides mkey misThere mboxes morder mlevels mnodes mentries mleft mlow mright mhigh mfirst mend mthrown')) args s 0 0 A) 41 [(0, .ref (ad 10)), (1, .int x1), (2, .int x2), (3, .int x3), (4, .int x4)] [] (wM cT ad madded msides mkey misThere mboxes morder mlevels mnodes mentries mleft mlow mright mhigh mfirst mend mthrown) := by
  intro fu
  induction fu with
  | zero =>
    intro mthrown x1 x2 x3 x4 hf
    exact nomatch (show (none : Option (Int32 × Int32)) = some (r, mthrown') from hf)
  | succ fu ih =>
    intro mthrown x1 x2 x3 x4 hf
    rw [f_X5_nearest_41] at hf
    refine h_aload_n (pc := 41) C dX5_nearest_41 rfl 0 rfl ?_
    refine h_get (pc := 42) (ci := 3) (C0 := RX5) (T := TX5) (N := 16) C uX5_nearest_X5 rfl 0 rfl 3 (by decide) (List.mem_of_getElem? (i := 2) rfl) rfl rfl dX5_nearest_42 ?_
    refine h_iload (pc := 45) C dX5_nearest_45 4 rfl ?_
    obtain ⟨hi, v3, hv, hf⟩ := jrd_s hf
    refine h_zald (pc := 47) C 3 1 rfl rfl hi hv dX5_nearest_47 ?_
    clear hi hv
    refine h_if_eq (pc := 48) (tgt := 63) C dX5_nearest_48 (by decide) (fun q => ?_) (fun q => ?_)
    · replace hf := jif_t q hf
      clear q
      exact k_X5_nearest_63 l D cT ad C hr n madded msides mkey misThere mboxes morder mlevels mnodes mentries mleft mlow mright mhigh mfirst mend r mthrown' (f_X5_nearest_41 n madded msides misThere mboxes fu) ih mthrown x1 x2 x3 x4 hf
    · replace hf := jif_f q hf
      clear q
      refine h_aload_n (pc := 51) C dX5_nearest_51 rfl 0 rfl ?_
      refine h_iload_n (pc := 52) C dX5_nearest_52 rfl 1 rfl ?_
      refine h_iload_n (pc := 53) C dX5_nearest_53 rfl 2 rfl ?_
      refine h_iload (pc := 54) C dX5_nearest_54 4 rfl ?_
      obtain ⟨v4, hc, hf⟩ := jbd_s hf
      refine h_callV (pc := 56) (q0 := 0) (As := [.int x1, .int x2, .int x4]) (rest := []) (ws' := (wM cT ad madded msides mkey misThere mboxes morder mlevels mnodes mentries mleft mlow mright mhigh mfirst mend mthrown)) (st2 := .int v4 :: []) C (c_X5_nearer l D cT ad n madded msides mkey misThere mboxes morder mlevels mnodes mentries mleft mlow mright mhigh mfirst mend mthrown x1 x2 x4 v4 hc) (cwV 3 C.1.2.2.2.2 gX5_nearest_X5_nearer rfl rfl rfl pv_X5_nearer ⟨(Nat.le_of_ble_eq_true rfl), (Nat.le_of_ble_eq_true rfl)⟩) dX5_nearest_56 rfl rfl rfl rfl rfl (Nat.le_of_ble_eq_true rfl) ⟨rfl, rfl⟩ ⟨(Nat.le_of_ble_eq_true rfl), (Nat.le_of_ble_eq_true rfl)⟩ [0, 1, 2, 3, 4, 5, 6] [] [0, 1, 2, 3, 4, 5, 6] rfl rfl rfl rfl (by decide) rfl rfl rfl ?_
      clear hc
      refine h_iload_n (pc := 59) C dX5_nearest_59 rfl 3 rfl ?_
      refine h_icmp_eq (pc := 60) (tgt := 69) C dX5_nearest_60 (by decide) (fun q => ?_) (fun q => ?_)
      · replace hf := jif_t q hf
        clear q
        refine h_iload (pc := 69) C dX5_nearest_69 4 rfl ?_
        have g0 := (Prod.mk.inj (Option.some.inj hf)).1
        have g1 := (Prod.mk.inj (Option.some.inj hf)).2
        clear hf
        subst g0
        subst g1
        exact h_iret C hr dX5_nearest_71
      · replace hf := jif_f q hf
        clear q
        exact k_X5_nearest_63 l D cT ad C hr n madded msides mkey misThere mboxes morder mlevels mnodes mentries mleft mlow mright mhigh mfirst mend r mthrown' (f_X5_nearest_41 n madded msides misThere mboxes fu) ih mthrown x1 x2 x3 x4 hf
set_option maxRecDepth 100000 in
set_option maxHeartbeats 4000000 in
theorem k_X5_nearest_30 {p : Program} {e : Env} {s : State} {m : MethodId} {args : Array Value} {below : List Frame} {meth : Method} {c : Code} {A : Nat → Prop} (l : Launch) (D : va_G) (cT : Nat → ClassId) (ad : Nat → Nat) (C : hC p s m args meth c cX5_nearest 5 wsX5_nearest RX5 D (ty4 cT) A) (hr : meth.sig.returnType = (some .int)) (n : Nat) (madded : Int32) (msides : Nat → Int32) (mkey : Nat → Int32) (misThere : Nat → Int32) (mboxes : Int32) (morder : Nat → Int32) (mlevels : Int32) (mnodes : Nat → Int32) (mentries : Nat → Int32) (mleft : Int32) (mlow : Int32) (mright : Int32) (mhigh : Int32) (mfirst : Int32) (mend : Int32) (r : Int32) (mthrown' : Int32)  : ∀ (mthrown : Int32) (x1 : Int32) (x2 : Int32) (x3 : Int32) (t1 : Int32), f_X5_nearest_30 n madded msides misThere mboxes mthrown x1 x2 x3 t1 = some (r, mthrown') → hS p l e rmX5_nearest s m args below meth c 5 D A 0 0 (MQ below (cQ D (ty4 cT) A (some (.int r)) (wM cT ad madded msides mkey misThere mboxes morder mlevels mnodes mentries mleft mlow mright mhigh mfirst mend mthrown')) args s 0 0 A) 30 [(0, .ref (ad 10)), (1, .int x1), (2, .int x2), (3, .int x3)] (.int t1 :: .ref (ad 10) :: []) (wM cT ad madded msides mkey misThere mboxes morder mlevels mnodes mentries mleft mlow mright mhigh mfirst mend mthrown) := by
  intro mthrown x1 x2 x3 t1 hf
  unfold f_X5_nearest_30 at hf
  obtain ⟨v2, hc, hf⟩ := jbd_s hf
  refine h_callV (pc := 30) (q0 := 0) (As := [.int t1]) (rest := []) (ws' := (wM cT ad madded msides mkey misThere mboxes morder mlevels mnodes mentries mleft mlow mright mhigh mfirst mend v2.2)) (st2 := .int v2.1 :: []) C (c_X5_fails l D cT ad n madded msides mkey misThere mboxes morder mlevels mnodes mentries mleft mlow mright mhigh mfirst mend mthrown t1 v2.1 v2.2 hc) (cwV 1 C.1.2.2.2.2 gX5_nearest_X5_fails rfl rfl rfl pv_X5_fails ⟨(Nat.le_of_ble_eq_true rfl), (Nat.le_of_ble_eq_true rfl)⟩) dX5_nearest_30 rfl rfl rfl rfl rfl (Nat.le_of_ble_eq_true rfl) ⟨rfl, rfl⟩ ⟨(Nat.le_of_ble_eq_true rfl), (Nat.le_of_ble_eq_true rfl)⟩ [0, 1, 2, 3, 4, 5, 6] [] [0, 1, 2, 3, 4, 5, 6] rfl rfl rfl rfl (by decide) rfl rfl rfl ?_
  clear hc
  refine h_if_eq (pc := 33) (tgt := 38) C dX5_nearest_33 (by decide) (fun q => ?_) (fun q => ?_)
  · replace hf := jif_t q hf
    clear q
    refine h_iconst (pc := 38) C dX5_nearest_38 jc_0 ?_
    refine h_istore (pc := 39) (lv' := [(4, .int 0), (0, .ref (ad 10)), (1, .int x1), (2, .int x2), (3, .int x3)]) C dX5_nearest_39 (by decide) rfl ?_
    refine h_sub [1, 2, 3, 4, 0] rfl ?_
    exact k_X5_nearest_41 l D cT ad C hr n madded msides mkey misThere mboxes morder mlevels mnodes mentries mleft mlow mright mhigh mfirst mend r mthrown' n v2.2 x1 x2 x3 0 hf
  · replace hf := jif_f q hf
    clear q
    refine h_iconst (pc := 36) C dX5_nearest_36 jc_0 ?_
    have g0 := (Prod.mk.inj (Option.some.inj hf)).1
    have g1 := (Prod.mk.inj (Option.some.inj hf)).2
    clear hf
    subst g0
    subst g1
    exact h_iret C hr dX5_nearest_37
set_option maxRecDepth 100000 in
set_option maxHeartbeats 4000000 in
theorem k_X5_nearest_29 {p : Program} {e : Env} {s : State} {m : MethodId} {args : Array Value} {below : List Frame} {meth : Method} {c : Code} {A : Nat → Prop} (l : Launch) (D : va_G) (cT : Nat → ClassId) (ad : Nat → Nat) (C : hC p s m args meth c cX5_nearest 5 wsX5_nearest RX5 D (ty4 cT) A) (hr : meth.sig.returnType = (some .int)) (n : Nat) (madded : Int32) (msides : Nat → Int32) (mkey : Nat → Int32) (misThere : Nat → Int32) (mboxes : Int32) (morder : Nat → Int32) (mlevels : Int32) (mnodes : Nat → Int32) (mentries : Nat → Int32) (mleft : Int32) (mlow : Int32) (mright : Int32) (mhigh : Int32) (mfirst : Int32) (mend : Int32) (r : Int32) (mthrown' : Int32)  : ∀ (mthrown : Int32) (x1 : Int32) (x2 : Int32) (x3 : Int32), f_X5_nearest_29 n madded msides misThere mboxes mthrown x1 x2 x3 = some (r, mthrown') → hS p l e rmX5_nearest s m args below meth c 5 D A 0 0 (MQ below (cQ D (ty4 cT) A (some (.int r)) (wM cT ad madded msides mkey misThere mboxes morder mlevels mnodes mentries mleft mlow mright mhigh mfirst mend mthrown')) args s 0 0 A) 29 [(0, .ref (ad 10)), (1, .int x1), (2, .int x2), (3, .int x3)] (.ref (ad 10) :: []) (wM cT ad madded msides mkey misThere mboxes morder mlevels mnodes mentries mleft mlow mright mhigh mfirst mend mthrown) := by
  intro mthrown x1 x2 x3 hf
  unfold f_X5_nearest_29 at hf
  refine h_iconst (pc := 29) C dX5_nearest_29 jc_2 ?_
  exact k_X5_nearest_30 l D cT ad C hr n madded msides mkey misThere mboxes morder mlevels mnodes mentries mleft mlow mright mhigh mfirst mend r mthrown' mthrown x1 x2 x3 2 hf
set_option maxRecDepth 100000 in
set_option maxHeartbeats 4000000 in
theorem c_X5_nearest (l : Launch) (D : va_G) (cT : Nat → ClassId) (ad : Nat → Nat) (n : Nat) (madded : Int32) (msides : Nat → Int32) (mkey : Nat → Int32) (misThere : Nat → Int32) (mboxes : Int32) (morder : Nat → Int32) (mlevels : Int32) (mnodes : Nat → Int32) (mentries : Nat → Int32) (mleft : Int32) (mlow : Int32) (mright : Int32) (mhigh : Int32) (mfirst : Int32) (mend : Int32) (mthrown : Int32) (a1 : Int32) (a2 : Int32) (a3 : Int32) (r : Int32) (mthrown' : Int32) (hf : f_X5_nearest n madded msides misThere mboxes mthrown a1 a2 a3 = some (r, mthrown')) : cM l yX5_nearest wsX5_nearest rmX5_nearest D (ty4 cT) [.ref (ad 10), .int a1, .int a2, .int a3] (wM cT ad madded msides mkey misThere mboxes morder mlevels mnodes mentries mleft mlow mright mhigh mfirst mend mthrown) (some (.int r)) (wM cT ad madded msides mkey misThere mboxes morder mlevels mnodes mentries mleft mlow mright mhigh mfirst mend mthrown') := by
  refine cM_of (cc := cX5_nearest) (maxL := 5) (ret := (some .int)) (own := RX5) (lv := [(0, .ref (ad 10)), (1, .int a1), (2, .int a2), (3, .int a3)]) (by decide) rfl (Nat.le_of_ble_eq_true rfl) rfl rfl ?_
  intro p e s m args below meth c A C hr
  unfold f_X5_nearest at hf
  refine h_aload_n (pc := 0) C dX5_nearest_0 rfl 0 rfl ?_
  refine h_iload_n (pc := 1) C dX5_nearest_1 rfl 1 rfl ?_
  refine h_iload_n (pc := 2) C dX5_nearest_2 rfl 2 rfl ?_
  obtain ⟨v1, hc, hf⟩ := jbd_s hf
  refine h_callP (pc := 3) (As := [.int a1, .int a2]) (rest := .ref (ad 10) :: []) (st2 := .int v1 :: .ref (ad 10) :: []) C (c_X5_isPoint l D cT ad n a1 a2 v1 hc) (va_cwS 2 C.1.2.2.2.2 gX5_nearest_X5_isPoint rfl rfl rfl ps_X5_isPoint ⟨(Nat.le_of_ble_eq_true rfl), (Nat.le_of_ble_eq_true rfl)⟩) dX5_nearest_3 rfl rfl (Nat.le_of_ble_eq_true rfl) ⟨rfl, rfl⟩ ⟨(Nat.le_of_ble_eq_true rfl), (Nat.le_of_ble_eq_true rfl)⟩ rfl ?_
  clear hc
  refine h_if_ne (pc := 6) (tgt := 13) C dX5_nearest_6 (by decide) (fun q => ?_) (fun q => ?_)
  · replace hf := jif_f q hf
    clear q
    refine h_iload_n (pc := 13) C dX5_nearest_13 rfl 3 rfl ?_
    refine h_if_lt (pc := 14) (tgt := 29) C dX5_nearest_14 (by decide) (fun q => ?_) (fun q => ?_)
    · replace hf := jif_t q hf
      clear q
      exact k_X5_nearest_29 l D cT ad C hr n madded msides mkey misThere mboxes morder mlevels mnodes mentries mleft mlow mright mhigh mfirst mend r mthrown' mthrown a1 a2 a3 hf
    · replace hf := jif_f q hf
      clear q
      refine h_iload_n (pc := 17) C dX5_nearest_17 rfl 3 rfl ?_
      refine h_aload_n (pc := 18) C dX5_nearest_18 rfl 0 rfl ?_
      refine h_get (pc := 19) (ci := 3) (C0 := RX5) (T := TX5) (N := 16) C uX5_nearest_X5 rfl 0 rfl 4 (by decide) (List.mem_of_getElem? (i := 1) rfl) rfl rfl dX5_nearest_19 ?_
      refine h_icmp_ge (pc := 22) (tgt := 29) C dX5_nearest_22 (by decide) (fun q => ?_) (fun q => ?_)
      · replace hf := jif_t q hf
        clear q
        exact k_X5_nearest_29 l D cT ad C hr n madded msides mkey misThere mboxes morder mlevels mnodes mentries mleft mlow mright mhigh mfirst mend r mthrown' mthrown a1 a2 a3 hf
      · replace hf := jif_f q hf
        clear q
        refine h_iconst (pc := 25) C dX5_nearest_25 jc_0 ?_
        refine h_goto (pc := 26) (tgt := 30) C dX5_nearest_26 (by decide) ?_
        exact k_X5_nearest_30 l D cT ad C hr n madded msides mkey misThere mboxes morder mlevels mnodes mentries mleft mlow mright mhigh mfirst mend r mthrown' mthrown a1 a2 a3 0 hf
  · replace hf := jif_t q hf
    clear q
    refine h_iconst (pc := 9) C dX5_nearest_9 jc_1 ?_
    refine h_goto (pc := 10) (tgt := 30) C dX5_nearest_10 (by decide) ?_
    exact k_X5_nearest_30 l D cT ad C hr n madded msides mkey misThere mboxes morder mlevels mnodes mentries mleft mlow mright mhigh mfirst mend r mthrown' mthrown a1 a2 a3 1 hf
theorem pv_X5_nearest : yX5_nearest.cls = RX5 ∧ yX5_nearest.cls ≠ "java/lang/invoke/MethodHandle" ∧ yX5_nearest.cls ≠ "java/lang/invoke/VarHandle" ∧ (parseMethodDescriptor yX5_nearest.desc).map (fun d => d.parameters.length) = some 3 := by decide +kernel
abbrev rmX5_distance : Room := { frames := 1, cells := 0, slots := 0, locals := 26 }
set_option maxRecDepth 100000 in
set_option maxHeartbeats 4000000 in
theorem k_X5_distance_26 {p : Program} {e : Env} {s : State} {m : MethodId} {args : Array Value} {below : List Frame} {meth : Method} {c : Code} {A : Nat → Prop} (l : Launch) (D : va_G) (cT : Nat → ClassId) (ad : Nat → Nat) (C : hC p s m args meth c cX5_distance 4 wsX5_distance RX5 D (ty4 cT) A) (hr : meth.sig.returnType = (some .int)) (n : Nat) (madded : Int32) (msides : Nat → Int32) (mkey : Nat → Int32) (misThere : Nat → Int32) (mboxes : Int32) (morder : Nat → Int32) (mlevels : Int32) (mnodes : Nat → Int32) (mentries : Nat → Int32) (mleft : Int32) (mlow : Int32) (mright : Int32) (mhigh : Int32) (mfirst : Int32) (mend : Int32) (r : Int32) (mthrown' : Int32)  : ∀ (mthrown : Int32) (x1 : Int32) (x2 : Int32) (x3 : Int32) (t1 : Int32), f_X5_distance_26 n madded msides misThere mthrown x1 x2 x3 t1 = some (r, mthrown') → hS p l e rmX5_distance s m args below meth c 4 D A 0 0 (MQ below (cQ D (ty4 cT) A (some (.int r)) (wM cT ad madded msides mkey misThere mboxes morder mlevels mnodes mentries mleft mlow mright mhigh mfirst mend mthrown')) args s 0 0 A) 26 [(0, .ref (ad 10)), (1, .int x1), (2, .int x2), (3, .int x3)] (.int t1 :: .ref (ad 10) :: []) (wM cT ad madded msides mkey misThere mboxes morder mlevels mnodes mentries mleft mlow mright mhigh mfirst mend mthrown) := by
  intro mthrown x1 x2 x3 t1 hf
  unfold f_X5_distance_26 at hf
  obtain ⟨v3, hc, hf⟩ := jbd_s hf
  refine h_callV (pc := 26) (q0 := 0) (As := [.int t1]) (rest := []) (ws' := (wM cT ad madded msides mkey misThere mboxes morder mlevels mnodes mentries mleft mlow mright mhigh mfirst mend v3.2)) (st2 := .int v3.1 :: []) C (c_X5_fails l D cT ad n madded msides mkey misThere mboxes morder mlevels mnodes mentries mleft mlow mright mhigh mfirst mend mthrown t1 v3.1 v3.2 hc) (cwV 1 C.1.2.2.2.2 gX5_distance_X5_fails rfl rfl rfl pv_X5_fails ⟨(Nat.le_of_ble_eq_true rfl), (Nat.le_of_ble_eq_true rfl)⟩) dX5_distance_26 rfl rfl rfl rfl rfl (Nat.le_of_ble_eq_true rfl) ⟨rfl, rfl⟩ ⟨(Nat.le_of_ble_eq_true rfl), (Nat.le_of_ble_eq_true rfl)⟩ [0, 1, 2, 3, 4, 5, 6] [] [0, 1, 2, 3, 4, 5, 6] rfl rfl rfl rfl (by decide) rfl rfl rfl ?_
  clear hc
  refine h_if_eq (pc := 29) (tgt := 36) C dX5_distance_29 (by decide) (fun q => ?_) (fun q => ?_)
  · replace hf := jif_t q hf
    clear q
    refine h_aload_n (pc := 36) C dX5_distance_36 rfl 0 rfl ?_
    refine h_iload_n (pc := 37) C dX5_distance_37 rfl 1 rfl ?_
    refine h_iload_n (pc := 38) C dX5_distance_38 rfl 2 rfl ?_
    refine h_iload_n (pc := 39) C dX5_distance_39 rfl 3 rfl ?_
    obtain ⟨v4, hc, hf⟩ := jbd_s hf
    refine h_callV (pc := 40) (q0 := 0) (As := [.int x1, .int x2, .int x3]) (rest := []) (ws' := (wM cT ad madded msides mkey misThere mboxes morder mlevels mnodes mentries mleft mlow mright mhigh mfirst mend v3.2)) (st2 := .int v4 :: []) C (c_X5_far l D cT ad n madded msides mkey misThere mboxes morder mlevels mnodes mentries mleft mlow mright mhigh mfirst mend v3.2 x1 x2 x3 v4 hc) (cwV 3 C.1.2.2.2.2 gX5_distance_X5_far rfl rfl rfl pv_X5_far ⟨(Nat.le_of_ble_eq_true rfl), (Nat.le_of_ble_eq_true rfl)⟩) dX5_distance_40 rfl rfl rfl rfl rfl (Nat.le_of_ble_eq_true rfl) ⟨rfl, rfl⟩ ⟨(Nat.le_of_ble_eq_true rfl), (Nat.le_of_ble_eq_true rfl)⟩ [0, 1, 2, 3, 4, 5, 6] [] [0, 1, 2, 3, 4, 5, 6] rfl rfl rfl rfl (by decide) rfl rfl rfl ?_
    clear hc
    have g0 := (Prod.mk.inj (Option.some.inj hf)).1
    have g1 := (Prod.mk.inj (Option.some.inj hf)).2
    clear hf
    subst g0
    subst g1
    exact h_iret C hr dX5_distance_43
  · replace hf := jif_f q hf
    clear q
    refine h_iconst (pc := 32) C dX5_distance_32 jc_0 ?_
    refine h_goto (pc := 33) (tgt := 43) C dX5_distance_33 (by decide) ?_
    have g0 := (Prod.mk.inj (Option.some.inj hf)).1
    have g1 := (Prod.mk.inj (Option.some.inj hf)).2
    clear hf
    subst g0
    subst g1
    exact h_iret C hr dX5_distance_43
set_option maxRecDepth 100000 in
set_option maxHeartbeats 4000000 in
theorem c_X5_distance (l : Launch) (D : va_G) (cT : Nat → ClassId) (ad : Nat → Nat) (n : Nat) (madded : Int32) (msides : Nat → Int32) (mkey : Nat → Int32) (misThere : Nat → Int32) (mboxes : Int32) (morder : Nat → Int32) (mlevels : Int32) (mnodes : Nat → Int32) (mentries : Nat → Int32) (mleft : Int32) (mlow : Int32) (mright : Int32) (mhigh : Int32) (mfirst : Int32) (mend : Int32) (mthrown : Int32) (a1 : Int32) (a2 : Int32) (a3 : Int32) (r : Int32) (mthrown' : Int32) (hf : f_X5_distance n madded msides misThere mthrown a1 a2 a3 = some (r, mthrown')) : cM l yX5_distance wsX5_distance rmX5_distance D (ty4 cT) [.ref (ad 10), .int a1, .int a2, .int a3] (wM cT ad madded msides mkey misThere mboxes morder mlevels mnodes mentries mleft mlow mright mhigh mfirst mend mthrown) (some (.int r)) (wM cT ad madded msides mkey misThere mboxes morder mlevels mnodes mentries mleft mlow mright mhigh mfirst mend mthrown') := by
  refine cM_of (cc := cX5_distance) (maxL := 4) (ret := (some .int)) (own := RX5) (lv := [(0, .ref (ad 10)), (1, .int a1), (2, .int a2), (3, .int a3)]) (by decide) rfl (Nat.le_of_ble_eq_true rfl) rfl rfl ?_
  intro p e s m args below meth c A C hr
  unfold f_X5_distance at hf
  refine h_aload_n (pc := 0) C dX5_distance_0 rfl 0 rfl ?_
  refine h_iload_n (pc := 1) C dX5_distance_1 rfl 1 rfl ?_
  refine h_iload_n (pc := 2) C dX5_distance_2 rfl 2 rfl ?_
  obtain ⟨v1, hc, hf⟩ := jbd_s hf
  refine h_callP (pc := 3) (As := [.int a1, .int a2]) (rest := .ref (ad 10) :: []) (st2 := .int v1 :: .ref (ad 10) :: []) C (c_X5_isPoint l D cT ad n a1 a2 v1 hc) (va_cwS 2 C.1.2.2.2.2 gX5_distance_X5_isPoint rfl rfl rfl ps_X5_isPoint ⟨(Nat.le_of_ble_eq_true rfl), (Nat.le_of_ble_eq_true rfl)⟩) dX5_distance_3 rfl rfl (Nat.le_of_ble_eq_true rfl) ⟨rfl, rfl⟩ ⟨(Nat.le_of_ble_eq_true rfl), (Nat.le_of_ble_eq_true rfl)⟩ rfl ?_
  clear hc
  refine h_if_ne (pc := 6) (tgt := 13) C dX5_distance_6 (by decide) (fun q => ?_) (fun q => ?_)
  · replace hf := jif_f q hf
    clear q
    refine h_aload_n (pc := 13) C dX5_distance_13 rfl 0 rfl ?_
    refine h_iload_n (pc := 14) C dX5_distance_14 rfl 3 rfl ?_
    obtain ⟨v2, hc, hf⟩ := jbd_s hf
    refine h_callV (pc := 15) (q0 := 0) (As := [.int a3]) (rest := .ref (ad 10) :: []) (ws' := (wM cT ad madded msides mkey misThere mboxes morder mlevels mnodes mentries mleft mlow mright mhigh mfirst mend mthrown)) (st2 := .int v2 :: .ref (ad 10) :: []) C (c_X5_is l D cT ad n madded msides mkey misThere mboxes morder mlevels mnodes mentries mleft mlow mright mhigh mfirst mend mthrown a3 v2 hc) (cwV 1 C.1.2.2.2.2 gX5_distance_X5_is rfl rfl rfl pv_X5_is ⟨(Nat.le_of_ble_eq_true rfl), (Nat.le_of_ble_eq_true rfl)⟩) dX5_distance_15 rfl rfl rfl rfl rfl (Nat.le_of_ble_eq_true rfl) ⟨rfl, rfl⟩ ⟨(Nat.le_of_ble_eq_true rfl), (Nat.le_of_ble_eq_true rfl)⟩ [0, 1, 2, 3, 4, 5, 6] [] [0, 1, 2, 3, 4, 5, 6] rfl rfl rfl rfl (by decide) rfl rfl rfl ?_
    clear hc
    refine h_if_eq (pc := 18) (tgt := 25) C dX5_distance_18 (by decide) (fun q => ?_) (fun q => ?_)
    · replace hf := jif_t q hf
      clear q
      refine h_iconst (pc := 25) C dX5_distance_25 jc_2 ?_
      exact k_X5_distance_26 l D cT ad C hr n madded msides mkey misThere mboxes morder mlevels mnodes mentries mleft mlow mright mhigh mfirst mend r mthrown' mthrown a1 a2 a3 2 hf
    · replace hf := jif_f q hf
      clear q
      refine h_iconst (pc := 21) C dX5_distance_21 jc_0 ?_
      refine h_goto (pc := 22) (tgt := 26) C dX5_distance_22 (by decide) ?_
      exact k_X5_distance_26 l D cT ad C hr n madded msides mkey misThere mboxes morder mlevels mnodes mentries mleft mlow mright mhigh mfirst mend r mthrown' mthrown a1 a2 a3 0 hf
  · replace hf := jif_t q hf
    clear q
    refine h_iconst (pc := 9) C dX5_distance_9 jc_1 ?_
    refine h_goto (pc := 10) (tgt := 26) C dX5_distance_10 (by decide) ?_
    exact k_X5_distance_26 l D cT ad C hr n madded msides mkey misThere mboxes morder mlevels mnodes mentries mleft mlow mright mhigh mfirst mend r mthrown' mthrown a1 a2 a3 1 hf
theorem pv_X5_distance : yX5_distance.cls = RX5 ∧ yX5_distance.cls ≠ "java/lang/invoke/MethodHandle" ∧ yX5_distance.cls ≠ "java/lang/invoke/VarHandle" ∧ (parseMethodDescriptor yX5_distance.desc).map (fun d => d.parameters.length) = some 3 := by decide +kernel
abbrev rmX5_arePair : Room := { frames := 1, cells := 0, slots := 0, locals := 26 }
theorem uX5_arePair_X5 : ∀ w ∈ u_ws RX5 TX5 16, w ∈ wsX5_arePair := fun w h => List.mem_cons_of_mem _ (List.mem_append_right _ h)
set_option maxRecDepth 100000 in
set_option maxHeartbeats 4000000 in
theorem c_X5_arePair (l : Launch) (D : va_G) (cT : Nat → ClassId) (ad : Nat → Nat) (n : Nat) (madded : Int32) (msides : Nat → Int32) (mkey : Nat → Int32) (misThere : Nat → Int32) (mboxes : Int32) (morder : Nat → Int32) (mlevels : Int32) (mnodes : Nat → Int32) (mentries : Nat → Int32) (mleft : Int32) (mlow : Int32) (mright : Int32) (mhigh : Int32) (mfirst : Int32) (mend : Int32) (mthrown : Int32) (a1 : Int32) (a2 : Int32) (r : Int32) (hf : f_X5_arePair n msides misThere a1 a2 = some r) : cM l yX5_arePair wsX5_arePair rmX5_arePair D (ty4 cT) [.ref (ad 10), .int a1, .int a2] (wM cT ad madded msides mkey misThere mboxes morder mlevels mnodes mentries mleft mlow mright mhigh mfirst mend mthrown) (some (.int r)) (wM cT ad madded msides mkey misThere mboxes morder mlevels mnodes mentries mleft mlow mright mhigh mfirst mend mthrown) := by
  refine cM_of (cc := cX5_arePair) (maxL := 4) (ret := (some .boolean)) (own := RX5) (lv := [(0, .ref (ad 10)), (1, .int a1), (2, .int a2)]) (by decide) rfl (Nat.le_of_ble_eq_true rfl) rfl rfl ?_
  intro p e s m args below meth c A C hr
  unfold f_X5_arePair at hf
  refine h_iconst (pc := 0) C dX5_arePair_0 jc_4 ?_
  refine h_iload_n (pc := 1) C dX5_arePair_1 rfl 2 rfl ?_
  refine h_imul (pc := 2) C dX5_arePair_2 ?_
  refine h_istore_n (pc := 3) (lv' := [(3, .int (4 * a2)), (0, .ref (ad 10)), (1, .int a1), (2, .int a2)]) C dX5_arePair_3 rfl (by decide) rfl ?_
  refine h_aload_n (pc := 4) C dX5_arePair_4 rfl 1 rfl ?_
  refine h_get (pc := 5) (ci := 3) (C0 := RX5) (T := TX5) (N := 16) C uX5_arePair_X5 rfl 0 rfl 3 (by decide) (List.mem_of_getElem? (i := 1) rfl) rfl rfl dX5_arePair_5 ?_
  refine h_iload_n (pc := 8) C dX5_arePair_8 rfl 2 rfl ?_
  obtain ⟨hi, v1, hv, hf⟩ := jrd_s hf
  refine h_zald (pc := 9) C 3 1 rfl rfl hi hv dX5_arePair_9 ?_
  clear hi hv
  refine h_if_eq (pc := 10) (tgt := 64) C dX5_arePair_10 (by decide) (fun q => ?_) (fun q => ?_)
  · replace hf := jif_t q hf
    clear q
    refine h_iconst (pc := 64) C dX5_arePair_64 jc_0 ?_
    have g0 := (Option.some.inj hf)
    clear hf
    subst g0
    exact h_zret C hr rfl dX5_arePair_65
  · replace hf := jif_f q hf
    clear q
    refine h_aload_n (pc := 13) C dX5_arePair_13 rfl 1 rfl ?_
    refine h_get (pc := 14) (ci := 3) (C0 := RX5) (T := TX5) (N := 16) C uX5_arePair_X5 rfl 0 rfl 3 (by decide) (List.mem_of_getElem? (i := 1) rfl) rfl rfl dX5_arePair_14 ?_
    refine h_iload_n (pc := 17) C dX5_arePair_17 rfl 3 rfl ?_
    obtain ⟨hi, v2, hv, hf⟩ := jrd_s hf
    refine h_zald (pc := 18) C 3 1 rfl rfl hi hv dX5_arePair_18 ?_
    clear hi hv
    refine h_if_eq (pc := 19) (tgt := 64) C dX5_arePair_19 (by decide) (fun q => ?_) (fun q => ?_)
    · replace hf := jif_t q hf
      clear q
      refine h_iconst (pc := 64) C dX5_arePair_64 jc_0 ?_
      have g0 := (Option.some.inj hf)
      clear hf
      subst g0
      exact h_zret C hr rfl dX5_arePair_65
    · replace hf := jif_f q hf
      clear q
      refine h_aload_n (pc := 22) C dX5_arePair_22 rfl 1 rfl ?_
      refine h_iload_n (pc := 23) C dX5_arePair_23 rfl 2 rfl ?_
      refine h_aload_n (pc := 24) C dX5_arePair_24 rfl 1 rfl ?_
      refine h_get (pc := 25) (ci := 3) (C0 := RX5) (T := TX5) (N := 16) C uX5_arePair_X5 rfl 0 rfl 1 (by decide) (List.mem_of_getElem? (i := 2) rfl) rfl rfl dX5_arePair_25 ?_
      refine h_iload_n (pc := 28) C dX5_arePair_28 rfl 0 rfl ?_
      obtain ⟨hi, v3, hv, hf⟩ := jrd_s hf
      refine h_iald (pc := 29) C 1 0 rfl rfl hi hv dX5_arePair_29 ?_
      clear hi hv
      refine h_aload_n (pc := 30) C dX5_arePair_30 rfl 1 rfl ?_
      refine h_get (pc := 31) (ci := 3) (C0 := RX5) (T := TX5) (N := 16) C uX5_arePair_X5 rfl 0 rfl 1 (by decide) (List.mem_of_getElem? (i := 2) rfl) rfl rfl dX5_arePair_31 ?_
      refine h_iload_n (pc := 34) C dX5_arePair_34 rfl 0 rfl ?_
      refine h_iconst (pc := 35) C dX5_arePair_35 jc_1 ?_
      refine h_iadd (pc := 36) C dX5_arePair_36 ?_
      obtain ⟨hi, v4, hv, hf⟩ := jrd_s hf
      refine h_iald (pc := 37) C 1 0 rfl rfl hi hv dX5_arePair_37 ?_
      clear hi hv
      refine h_aload_n (pc := 38) C dX5_arePair_38 rfl 1 rfl ?_
      refine h_get (pc := 39) (ci := 3) (C0 := RX5) (T := TX5) (N := 16) C uX5_arePair_X5 rfl 0 rfl 1 (by decide) (List.mem_of_getElem? (i := 2) rfl) rfl rfl dX5_arePair_39 ?_
      refine h_iload_n (pc := 42) C dX5_arePair_42 rfl 0 rfl ?_
      refine h_iconst (pc := 43) C dX5_arePair_43 jc_2 ?_
      refine h_iadd (pc := 44) C dX5_arePair_44 ?_
      obtain ⟨hi, v5, hv, hf⟩ := jrd_s hf
      refine h_iald (pc := 45) C 1 0 rfl rfl hi hv dX5_arePair_45 ?_
      clear hi hv
      refine h_aload_n (pc := 46) C dX5_arePair_46 rfl 1 rfl ?_
      refine h_get (pc := 47) (ci := 3) (C0 := RX5) (T := TX5) (N := 16) C uX5_arePair_X5 rfl 0 rfl 1 (by decide) (List.mem_of_getElem? (i := 2) rfl) rfl rfl dX5_arePair_47 ?_
      refine h_iload_n (pc := 50) C dX5_arePair_50 rfl 0 rfl ?_
      refine h_iconst (pc := 51) C dX5_arePair_51 jc_3 ?_
      refine h_iadd (pc := 52) C dX5_arePair_52 ?_
      obtain ⟨hi, v6, hv, hf⟩ := jrd_s hf
      refine h_iald (pc := 53) C 1 0 rfl rfl hi hv dX5_arePair_53 ?_
      clear hi hv
      obtain ⟨v7, hc, hf⟩ := jbd_s hf
      refine h_callV (pc := 54) (q0 := 0) (As := [.int a1, .int v3, .int v4, .int v5, .int v6]) (rest := []) (ws' := (wM cT ad madded msides mkey misThere mboxes morder mlevels mnodes mentries mleft mlow mright mhigh mfirst mend mthrown)) (st2 := .int v7 :: []) C (c_X5_doesMeet l D cT ad n madded msides mkey misThere mboxes morder mlevels mnodes mentries mleft mlow mright mhigh mfirst mend mthrown a1 v3 v4 v5 v6 v7 hc) (cwV 5 C.1.2.2.2.2 gX5_arePair_X5_doesMeet rfl rfl rfl pv_X5_doesMeet ⟨(Nat.le_of_ble_eq_true rfl), (Nat.le_of_ble_eq_true rfl)⟩) dX5_arePair_54 rfl rfl rfl rfl rfl (Nat.le_of_ble_eq_true rfl) ⟨rfl, rfl⟩ ⟨(Nat.le_of_ble_eq_true rfl), (Nat.le_of_ble_eq_true rfl)⟩ [0, 1, 2, 3, 4, 5, 6] [] [0, 1, 2, 3, 4, 5, 6] rfl rfl rfl rfl (by decide) rfl rfl rfl ?_
      clear hc
      refine h_if_eq (pc := 57) (tgt := 64) C dX5_arePair_57 (by decide) (fun q => ?_) (fun q => ?_)
      · replace hf := jif_t q hf
        clear q
        refine h_iconst (pc := 64) C dX5_arePair_64 jc_0 ?_
        have g0 := (Option.some.inj hf)
        clear hf
        subst g0
        exact h_zret C hr rfl dX5_arePair_65
      · replace hf := jif_f q hf
        clear q
        refine h_iconst (pc := 60) C dX5_arePair_60 jc_1 ?_
        refine h_goto (pc := 61) (tgt := 65) C dX5_arePair_61 (by decide) ?_
        have g0 := (Option.some.inj hf)
        clear hf
        subst g0
        exact h_zret C hr rfl dX5_arePair_65
theorem pv_X5_arePair : yX5_arePair.cls = RX5 ∧ yX5_arePair.cls ≠ "java/lang/invoke/MethodHandle" ∧ yX5_arePair.cls ≠ "java/lang/invoke/VarHandle" ∧ (parseMethodDescriptor yX5_arePair.desc).map (fun d => d.parameters.length) = some 2 := by decide +kernel
abbrev rmX5_goesThrough : Room := { frames := 2, cells := 0, slots := 0, locals := 49 }
theorem uX5_goesThrough_X5 : ∀ w ∈ u_ws RX5 TX5 16, w ∈ wsX5_goesThrough := fun w h => List.mem_cons_of_mem _ (List.mem_append_right _ h)
set_option maxRecDepth 100000 in
set_option maxHeartbeats 4000000 in
theorem k_X5_goesThrough_52 {p : Program} {e : Env} {s : State} {m : MethodId} {args : Array Value} {below : List Frame} {meth : Method} {c : Code} {A : Nat → Prop} (l : Launch) (D : va_G) (cT : Nat → ClassId) (ad : Nat → Nat) (C : hC p s m args meth c cX5_goesThrough 5 wsX5_goesThrough RX5 D (ty4 cT) A) (hr : meth.sig.returnType = (some .int)) (n : Nat) (madded : Int32) (msides : Nat → Int32) (mkey : Nat → Int32) (misThere : Nat → Int32) (mboxes : Int32) (morder : Nat → Int32) (mlevels : Int32) (mnodes : Nat → Int32) (mentries : Nat → Int32) (mleft : Int32) (mlow : Int32) (mright : Int32) (mhigh : Int32) (mfirst : Int32) (mend : Int32) (mthrown : Int32) (r : Int32) (k4 : Int32 → Int32 → Int32 → Option (Int32)) (K4 : ∀  (x1 : Int32) (x2 : Int32) (x3 : Int32), k4 x1 x2 x3 = some r → hS p l e rmX5_goesThrough s m args below meth c 5 D A 0 0 (MQ below (cQ D (ty4 cT) A (some (.int r)) (wM cT ad madded msides mkey misThere mboxes morder mlevels mnodes mentries mleft mlow mright mhigh mfirst mend mthrown)) args s 0 0 A) 4 [(0, .ref (ad 10)), (1, .int x1), (2, .int x2), (3, .int x3)] [] (wM cT ad madded msides mkey misThere mboxes morder mlevels mnodes mentries mleft mlow mright mhigh mfirst mend mthrown)) (k17 : Int32 → Int32 → Int32 → Int32 → Option (Int32)) (K17 : ∀  (x1 : Int32) (x2 : Int32) (x3 : Int32) (x4 : Int32), k17 x1 x2 x3 x4 = some r → hS p l e rmX5_goesThrough s m args below meth c 5 D A 0 0 (MQ below (cQ D (ty4 cT) A (some (.int r)) (wM cT ad madded msides mkey misThere mboxes morder mlevels mnodes mentries mleft mlow mright mhigh mfirst mend mthrown)) args s 0 0 A) 17 [(0, .ref (ad 10)), (1, .int x1), (2, .int x2), (3, .int x3), (4, .int x4)] [] (wM cT ad madded msides mkey misThere mboxes morder mlevels mnodes mentries mleft mlow mright mhigh mfirst mend mthrown)) : ∀  (x1 : Int32) (x2 : Int32) (x3 : Int32) (x4 : Int32), f_X5_goesThrough_52 n madded msides misThere k4 k17 x1 x2 x3 x4 = some r → hS p l e rmX5_goesThrough s m args below meth c 5 D A 0 0 (MQ below (cQ D (ty4 cT) A (some (.int r)) (wM cT ad madded msides mkey misThere mboxes morder mlevels mnodes mentries mleft mlow mright mhigh mfirst mend mthrown)) args s 0 0 A) 52 [(0, .ref (ad 10)), (1, .int x1), (2, .int x2), (3, .int x3), (4, .int x4)] [] (wM cT ad madded msides mkey misThere mboxes morder mlevels mnodes mentries mleft mlow mright mhigh mfirst mend mthrown) := by
  intro x1 x2 x3 x4 hf
  unfold f_X5_goesThrough_52 at hf
  refine h_iinc (pc := 52) (v := x4 + 1) (lv' := [(4, .int (x4 + 1)), (0, .ref (ad 10)), (1, .int x1), (2, .int x2), (3, .int x3)]) C dX5_goesThrough_52 4 rfl (ji_1 _) (by decide) rfl ?_
  refine h_goto (pc := 55) (tgt := 17) C dX5_goesThrough_55 (by decide) ?_
  refine h_sub [1, 2, 3, 4, 0] rfl ?_
  exact K17 x1 x2 x3 (x4 + 1) hf
set_option maxRecDepth 100000 in
set_option maxHeartbeats 4000000 in
theorem k_X5_goesThrough_17 {p : Program} {e : Env} {s : State} {m : MethodId} {args : Array Value} {below : List Frame} {meth : Method} {c : Code} {A : Nat → Prop} (l : Launch) (D : va_G) (cT : Nat → ClassId) (ad : Nat → Nat) (C : hC p s m args meth c cX5_goesThrough 5 wsX5_goesThrough RX5 D (ty4 cT) A) (hr : meth.sig.returnType = (some .int)) (n : Nat) (madded : Int32) (msides : Nat → Int32) (mkey : Nat → Int32) (misThere : Nat → Int32) (mboxes : Int32) (morder : Nat → Int32) (mlevels : Int32) (mnodes : Nat → Int32) (mentries : Nat → Int32) (mleft : Int32) (mlow : Int32) (mright : Int32) (mhigh : Int32) (mfirst : Int32) (mend : Int32) (mthrown : Int32) (r : Int32) (k4 : Int32 → Int32 → Int32 → Option (Int32)) (K4 : ∀  (x1 : Int32) (x2 : Int32) (x3 : Int32), k4 x1 x2 x3 = some r → hS p l e rmX5_goesThrough s m args below meth c 5 D A 0 0 (MQ below (cQ D (ty4 cT) A (some (.int r)) (wM cT ad madded msides mkey misThere mboxes morder mlevels mnodes mentries mleft mlow mright mhigh mfirst mend mthrown)) args s 0 0 A) 4 [(0, .ref (ad 10)), (1, .int x1), (2, .int x2), (3, .int x3)] [] (wM cT ad madded msides mkey misThere mboxes morder mlevels mnodes mentries mleft mlow mright mhigh mfirst mend mthrown)) : ∀ (fu : Nat)  (x1 : Int32) (x2 : Int32) (x3 : Int32) (x4 : Int32), f_X5_goesThrough_17 n madded msides misThere k4 fu x1 x2 x3 x4 = some r → hS p l e rmX5_goesThrough s m args below meth c 5 D A 0 0 (MQ below (cQ D (ty4 cT) A (some (.int r)) (wM cT ad madded msides mkey misThere mboxes morder mlevels mnodes mentries mleft mlow mright mhigh mfirst mend mthrown)) args s 0 0 A) 17 [(0, .ref (ad 10)), (1, .int x1), (2, .int x2), (3, .int x3), (4, .int x4)] [] (wM cT ad madded msides mkey misThere mboxes morder mlevels mnodes mentries mleft mlow mright mhigh mfirst mend mthrown) := by
  intro fu
  induction fu with
  | zero =>
    intro x1 x2 x3 x4 hf
    exact nomatch (show (none : Option (Int32)) = some r from hf)
  | succ fu ih =>
    intro x1 x2 x3 x4 hf
    rw [f_X5_goesThrough_17] at hf
    refine h_iload (pc := 17) C dX5_goesThrough_17 4 rfl ?_
    refine h_aload_n (pc := 19) C dX5_goesThrough_19 rfl 0 rfl ?_
    refine h_get (pc := 20) (ci := 3) (C0 := RX5) (T := TX5) (N := 16) C uX5_goesThrough_X5 rfl 0 rfl 0 (by decide) (List.mem_of_getElem? (i := 1) rfl) rfl rfl dX5_goesThrough_20 ?_
    refine h_icmp_ge (pc := 23) (tgt := 58) C dX5_goesThrough_23 (by decide) (fun q => ?_) (fun q => ?_)
    · replace hf := jif_t q hf
      clear q
      refine h_iinc (pc := 58) (v := x3 + 1) (lv' := [(3, .int (x3 + 1)), (0, .ref (ad 10)), (1, .int x1), (2, .int x2), (4, .int x4)]) C dX5_goesThrough_58 3 rfl (ji_1 _) (by decide) rfl ?_
      refine h_goto (pc := 61) (tgt := 4) C dX5_goesThrough_61 (by decide) ?_
      refine h_sub [1, 2, 3, 0] rfl ?_
      exact K4 x1 x2 (x3 + 1) hf
    · replace hf := jif_f q hf
      clear q
      refine h_aload_n (pc := 26) C dX5_goesThrough_26 rfl 0 rfl ?_
      refine h_iload_n (pc := 27) C dX5_goesThrough_27 rfl 3 rfl ?_
      refine h_iload (pc := 28) C dX5_goesThrough_28 4 rfl ?_
      obtain ⟨v1, hc, hf⟩ := jbd_s hf
      refine h_callV (pc := 30) (q0 := 0) (As := [.int x3, .int x4]) (rest := []) (ws' := (wM cT ad madded msides mkey misThere mboxes morder mlevels mnodes mentries mleft mlow mright mhigh mfirst mend mthrown)) (st2 := .int v1 :: []) C (c_X5_arePair l D cT ad n madded msides mkey misThere mboxes morder mlevels mnodes mentries mleft mlow mright mhigh mfirst mend mthrown x3 x4 v1 hc) (cwV 2 C.1.2.2.2.2 gX5_goesThrough_X5_arePair rfl rfl rfl pv_X5_arePair ⟨(Nat.le_of_ble_eq_true rfl), (Nat.le_of_ble_eq_true rfl)⟩) dX5_goesThrough_30 rfl rfl rfl rfl rfl (Nat.le_of_ble_eq_true rfl) ⟨rfl, rfl⟩ ⟨(Nat.le_of_ble_eq_true rfl), (Nat.le_of_ble_eq_true rfl)⟩ [0, 1, 2, 3, 4, 5, 6] [] [0, 1, 2, 3, 4, 5, 6] rfl rfl rfl rfl (by decide) rfl rfl rfl ?_
      clear hc
      refine h_if_eq (pc := 33) (tgt := 52) C dX5_goesThrough_33 (by decide) (fun q => ?_) (fun q => ?_)
      · replace hf := jif_t q hf
        clear q
        exact k_X5_goesThrough_52 l D cT ad C hr n madded msides mkey misThere mboxes morder mlevels mnodes mentries mleft mlow mright mhigh mfirst mend mthrown r k4 K4 (f_X5_goesThrough_17 n madded msides misThere k4 fu) ih x1 x2 x3 x4 hf
      · replace hf := jif_f q hf
        clear q
        refine h_iload_n (pc := 36) C dX5_goesThrough_36 rfl 2 rfl ?_
        refine h_iload_n (pc := 37) C dX5_goesThrough_37 rfl 1 rfl ?_
        refine h_icmp_ne (pc := 38) (tgt := 49) C dX5_goesThrough_38 (by decide) (fun q => ?_) (fun q => ?_)
        · replace hf := jif_f q hf
          clear q
          refine h_iinc (pc := 49) (v := x2 + 1) (lv' := [(2, .int (x2 + 1)), (0, .ref (ad 10)), (1, .int x1), (3, .int x3), (4, .int x4)]) C dX5_goesThrough_49 2 rfl (ji_1 _) (by decide) rfl ?_
          refine h_sub [1, 2, 0, 3, 4] rfl ?_
          exact k_X5_goesThrough_52 l D cT ad C hr n madded msides mkey misThere mboxes morder mlevels mnodes mentries mleft mlow mright mhigh mfirst mend mthrown r k4 K4 (f_X5_goesThrough_17 n madded msides misThere k4 fu) ih x1 (x2 + 1) x3 x4 hf
        · replace hf := jif_t q hf
          clear q
          refine h_bipush (pc := 41) C dX5_goesThrough_41 jb_100 ?_
          refine h_iload_n (pc := 43) C dX5_goesThrough_43 rfl 3 rfl ?_
          refine h_imul (pc := 44) C dX5_goesThrough_44 ?_
          refine h_iload (pc := 45) C dX5_goesThrough_45 4 rfl ?_
          refine h_iadd (pc := 47) C dX5_goesThrough_47 ?_
          have g0 := (Option.some.inj hf)
          clear hf
          subst g0
          exact h_iret C hr dX5_goesThrough_48
set_option maxRecDepth 100000 in
set_option maxHeartbeats 4000000 in
theorem k_X5_goesThrough_4 {p : Program} {e : Env} {s : State} {m : MethodId} {args : Array Value} {below : List Frame} {meth : Method} {c : Code} {A : Nat → Prop} (l : Launch) (D : va_G) (cT : Nat → ClassId) (ad : Nat → Nat) (C : hC p s m args meth c cX5_goesThrough 5 wsX5_goesThrough RX5 D (ty4 cT) A) (hr : meth.sig.returnType = (some .int)) (n : Nat) (madded : Int32) (msides : Nat → Int32) (mkey : Nat → Int32) (misThere : Nat → Int32) (mboxes : Int32) (morder : Nat → Int32) (mlevels : Int32) (mnodes : Nat → Int32) (mentries : Nat → Int32) (mleft : Int32) (mlow : Int32) (mright : Int32) (mhigh : Int32) (mfirst : Int32) (mend : Int32) (mthrown : Int32) (r : Int32)  : ∀ (fu : Nat)  (x1 : Int32) (x2 : Int32) (x3 : Int32), f_X5_goesThrough_4 n madded msides misThere fu x1 x2 x3 = some r → hS p l e rmX5_goesThrough s m args below meth c 5 D A 0 0 (MQ below (cQ D (ty4 cT) A (some (.int r)) (wM cT ad madded msides mkey misThere mboxes morder mlevels mnodes mentries mleft mlow mright mhigh mfirst mend mthrown)) args s 0 0 A) 4 [(0, .ref (ad 10)), (1, .int x1), (2, .int x2), (3, .int x3)] [] (wM cT ad madded msides mkey misThere mboxes morder mlevels mnodes mentries mleft mlow mright mhigh mfirst mend mthrown) := by
  intro fu
  induction fu with
  | zero =>
    intro x1 x2 x3 hf
    exact nomatch (show (none : Option (Int32)) = some r from hf)
  | succ fu ih =>
    intro x1 x2 x3 hf
    rw [f_X5_goesThrough_4] at hf
    refine h_iload_n (pc := 4) C dX5_goesThrough_4 rfl 3 rfl ?_
    refine h_aload_n (pc := 5) C dX5_goesThrough_5 rfl 0 rfl ?_
    refine h_get (pc := 6) (ci := 3) (C0 := RX5) (T := TX5) (N := 16) C uX5_goesThrough_X5 rfl 0 rfl 0 (by decide) (List.mem_of_getElem? (i := 1) rfl) rfl rfl dX5_goesThrough_6 ?_
    refine h_icmp_ge (pc := 9) (tgt := 64) C dX5_goesThrough_9 (by decide) (fun q => ?_) (fun q => ?_)
    · replace hf := jif_t q hf
      clear q
      refine h_iconst (pc := 64) C dX5_goesThrough_64 jc_m1 ?_
      refine h_iload_n (pc := 65) C dX5_goesThrough_65 rfl 2 rfl ?_
      refine h_isub (pc := 66) C dX5_goesThrough_66 ?_
      have g0 := (Option.some.inj hf)
      clear hf
      subst g0
      exact h_iret C hr dX5_goesThrough_67
    · replace hf := jif_f q hf
      clear q
      refine h_iload_n (pc := 12) C dX5_goesThrough_12 rfl 3 rfl ?_
      refine h_iconst (pc := 13) C dX5_goesThrough_13 jc_1 ?_
      refine h_iadd (pc := 14) C dX5_goesThrough_14 ?_
      refine h_istore (pc := 15) (lv' := [(4, .int (x3 + 1)), (0, .ref (ad 10)), (1, .int x1), (2, .int x2), (3, .int x3)]) C dX5_goesThrough_15 (by decide) rfl ?_
      refine h_sub [1, 2, 3, 4, 0] rfl ?_
      exact k_X5_goesThrough_17 l D cT ad C hr n madded msides mkey misThere mboxes morder mlevels mnodes mentries mleft mlow mright mhigh mfirst mend mthrown r (f_X5_goesThrough_4 n madded msides misThere fu) ih n x1 x2 x3 (x3 + 1) hf
set_option maxRecDepth 100000 in
set_option maxHeartbeats 4000000 in
theorem c_X5_goesThrough (l : Launch) (D : va_G) (cT : Nat → ClassId) (ad : Nat → Nat) (n : Nat) (madded : Int32) (msides : Nat → Int32) (mkey : Nat → Int32) (misThere : Nat → Int32) (mboxes : Int32) (morder : Nat → Int32) (mlevels : Int32) (mnodes : Nat → Int32) (mentries : Nat → Int32) (mleft : Int32) (mlow : Int32) (mright : Int32) (mhigh : Int32) (mfirst : Int32) (mend : Int32) (mthrown : Int32) (a1 : Int32) (r : Int32) (hf : f_X5_goesThrough n madded msides misThere a1 = some r) : cM l yX5_goesThrough wsX5_goesThrough rmX5_goesThrough D (ty4 cT) [.ref (ad 10), .int a1] (wM cT ad madded msides mkey misThere mboxes morder mlevels mnodes mentries mleft mlow mright mhigh mfirst mend mthrown) (some (.int r)) (wM cT ad madded msides mkey misThere mboxes morder mlevels mnodes mentries mleft mlow mright mhigh mfirst mend mthrown) := by
  refine cM_of (cc := cX5_goesThrough) (maxL := 5) (ret := (some .int)) (own := RX5) (lv := [(0, .ref (ad 10)), (1, .int a1)]) (by decide) rfl (Nat.le_of_ble_eq_true rfl) rfl rfl ?_
  intro p e s m args below meth c A C hr
  unfold f_X5_goesThrough at hf
  refine h_iconst (pc := 0) C dX5_goesThrough_0 jc_0 ?_
  refine h_istore_n (pc := 1) (lv' := [(2, .int 0), (0, .ref (ad 10)), (1, .int a1)]) C dX5_goesThrough_1 rfl (by decide) rfl ?_
  refine h_iconst (pc := 2) C dX5_goesThrough_2 jc_0 ?_
  refine h_istore_n (pc := 3) (lv' := [(3, .int 0), (2, .int 0), (0, .ref (ad 10)), (1, .int a1)]) C dX5_goesThrough_3 rfl (by decide) rfl ?_
  refine h_sub [2, 3, 1, 0] rfl ?_
  exact k_X5_goesThrough_4 l D cT ad C hr n madded msides mkey misThere mboxes morder mlevels mnodes mentries mleft mlow mright mhigh mfirst mend mthrown r n a1 0 0 hf
theorem pv_X5_goesThrough : yX5_goesThrough.cls = RX5 ∧ yX5_goesThrough.cls ≠ "java/lang/invoke/MethodHandle" ∧ yX5_goesThrough.cls ≠ "java/lang/invoke/VarHandle" ∧ (parseMethodDescriptor yX5_goesThrough.desc).map (fun d => d.parameters.length) = some 1 := by decide +kernel
abbrev rmX5_pairs : Room := { frames := 3, cells := 0, slots := 0, locals := 73 }
set_option maxRecDepth 100000 in
set_option maxHeartbeats 4000000 in
theorem c_X5_pairs (l : Launch) (D : va_G) (cT : Nat → ClassId) (ad : Nat → Nat) (n : Nat) (madded : Int32) (msides : Nat → Int32) (mkey : Nat → Int32) (misThere : Nat → Int32) (mboxes : Int32) (morder : Nat → Int32) (mlevels : Int32) (mnodes : Nat → Int32) (mentries : Nat → Int32) (mleft : Int32) (mlow : Int32) (mright : Int32) (mhigh : Int32) (mfirst : Int32) (mend : Int32) (mthrown : Int32)  (r : Int32) (mthrown' : Int32) (hf : f_X5_pairs n madded msides misThere mthrown = some (r, mthrown')) : cM l yX5_pairs wsX5_pairs rmX5_pairs D (ty4 cT) [.ref (ad 10)] (wM cT ad madded msides mkey misThere mboxes morder mlevels mnodes mentries mleft mlow mright mhigh mfirst mend mthrown) (some (.int r)) (wM cT ad madded msides mkey misThere mboxes morder mlevels mnodes mentries mleft mlow mright mhigh mfirst mend mthrown') := by
  refine cM_of (cc := cX5_pairs) (maxL := 1) (ret := (some .int)) (own := RX5) (lv := [(0, .ref (ad 10))]) (by decide) rfl (Nat.le_of_ble_eq_true rfl) rfl rfl ?_
  intro p e s m args below meth c A C hr
  unfold f_X5_pairs at hf
  refine h_aload_n (pc := 0) C dX5_pairs_0 rfl 0 rfl ?_
  refine h_iconst (pc := 1) C dX5_pairs_1 jc_m1 ?_
  refine h_aload_n (pc := 2) C dX5_pairs_2 rfl 0 rfl ?_
  refine h_iconst (pc := 3) C dX5_pairs_3 jc_m1 ?_
  obtain ⟨v1, hc, hf⟩ := jbd_s hf
  refine h_callV (pc := 4) (q0 := 0) (As := [.int jm1]) (rest := .int jm1 :: .ref (ad 10) :: []) (ws' := (wM cT ad madded msides mkey misThere mboxes morder mlevels mnodes mentries mleft mlow mright mhigh mfirst mend mthrown)) (st2 := .int v1 :: .int jm1 :: .ref (ad 10) :: []) C (c_X5_goesThrough l D cT ad n madded msides mkey misThere mboxes morder mlevels mnodes mentries mleft mlow mright mhigh mfirst mend mthrown jm1 v1 hc) (cwV 1 C.1.2.2.2.2 gX5_pairs_X5_goesThrough rfl rfl rfl pv_X5_goesThrough ⟨(Nat.le_of_ble_eq_true rfl), (Nat.le_of_ble_eq_true rfl)⟩) dX5_pairs_4 rfl rfl rfl rfl rfl (Nat.le_of_ble_eq_true rfl) ⟨rfl, rfl⟩ ⟨(Nat.le_of_ble_eq_true rfl), (Nat.le_of_ble_eq_true rfl)⟩ [0, 1, 2, 3, 4, 5, 6] [] [0, 1, 2, 3, 4, 5, 6] rfl rfl rfl rfl (by decide) rfl rfl rfl ?_
  clear hc
  refine h_isub (pc := 7) C dX5_pairs_7 ?_
  obtain ⟨v2, hc, hf⟩ := jbd_s hf
  refine h_callV (pc := 8) (q0 := 0) (As := [.int (jm1 - v1)]) (rest := []) (ws' := (wM cT ad madded msides mkey misThere mboxes morder mlevels mnodes mentries mleft mlow mright mhigh mfirst mend v2.2)) (st2 := .int v2.1 :: []) C (c_X5_tells l D cT ad n madded msides mkey misThere mboxes morder mlevels mnodes mentries mleft mlow mright mhigh mfirst mend mthrown (jm1 - v1) v2.1 v2.2 hc) (cwV 1 C.1.2.2.2.2 gX5_pairs_X5_tells rfl rfl rfl pv_X5_tells ⟨(Nat.le_of_ble_eq_true rfl), (Nat.le_of_ble_eq_true rfl)⟩) dX5_pairs_8 rfl rfl rfl rfl rfl (Nat.le_of_ble_eq_true rfl) ⟨rfl, rfl⟩ ⟨(Nat.le_of_ble_eq_true rfl), (Nat.le_of_ble_eq_true rfl)⟩ [0, 1, 2, 3, 4, 5, 6] [] [0, 1, 2, 3, 4, 5, 6] rfl rfl rfl rfl (by decide) rfl rfl rfl ?_
  clear hc
  have g0 := (Prod.mk.inj (Option.some.inj hf)).1
  have g1 := (Prod.mk.inj (Option.some.inj hf)).2
  clear hf
  subst g0
  subst g1
  exact h_iret C hr dX5_pairs_11
theorem pv_X5_pairs : yX5_pairs.cls = RX5 ∧ yX5_pairs.cls ≠ "java/lang/invoke/MethodHandle" ∧ yX5_pairs.cls ≠ "java/lang/invoke/VarHandle" ∧ (parseMethodDescriptor yX5_pairs.desc).map (fun d => d.parameters.length) = some 0 := by decide +kernel
abbrev rmX5_pair : Room := { frames := 3, cells := 0, slots := 0, locals := 73 }
set_option maxRecDepth 100000 in
set_option maxHeartbeats 4000000 in
theorem k_X5_pair_24 {p : Program} {e : Env} {s : State} {m : MethodId} {args : Array Value} {below : List Frame} {meth : Method} {c : Code} {A : Nat → Prop} (l : Launch) (D : va_G) (cT : Nat → ClassId) (ad : Nat → Nat) (C : hC p s m args meth c cX5_pair 3 wsX5_pair RX5 D (ty4 cT) A) (hr : meth.sig.returnType = (some .int)) (n : Nat) (madded : Int32) (msides : Nat → Int32) (mkey : Nat → Int32) (misThere : Nat → Int32) (mboxes : Int32) (morder : Nat → Int32) (mlevels : Int32) (mnodes : Nat → Int32) (mentries : Nat → Int32) (mleft : Int32) (mlow : Int32) (mright : Int32) (mhigh : Int32) (mfirst : Int32) (mend : Int32) (r : Int32) (mthrown' : Int32)  : ∀ (mthrown : Int32) (x2 : Int32) (t1 : Int32), f_X5_pair_24 n madded msides misThere mthrown x2 t1 = some (r, mthrown') → hS p l e rmX5_pair s m args below meth c 3 D A 0 0 (MQ below (cQ D (ty4 cT) A (some (.int r)) (wM cT ad madded msides mkey misThere mboxes morder mlevels mnodes mentries mleft mlow mright mhigh mfirst mend mthrown')) args s 0 0 A) 24 [(2, .int x2)] (.int t1 :: .ref (ad 10) :: []) (wM cT ad madded msides mkey misThere mboxes morder mlevels mnodes mentries mleft mlow mright mhigh mfirst mend mthrown) := by
  intro mthrown x2 t1 hf
  unfold f_X5_pair_24 at hf
  obtain ⟨v2, hc, hf⟩ := jbd_s hf
  refine h_callV (pc := 24) (q0 := 0) (As := [.int t1]) (rest := []) (ws' := (wM cT ad madded msides mkey misThere mboxes morder mlevels mnodes mentries mleft mlow mright mhigh mfirst mend v2.2)) (st2 := .int v2.1 :: []) C (c_X5_fails l D cT ad n madded msides mkey misThere mboxes morder mlevels mnodes mentries mleft mlow mright mhigh mfirst mend mthrown t1 v2.1 v2.2 hc) (cwV 1 C.1.2.2.2.2 gX5_pair_X5_fails rfl rfl rfl pv_X5_fails ⟨(Nat.le_of_ble_eq_true rfl), (Nat.le_of_ble_eq_true rfl)⟩) dX5_pair_24 rfl rfl rfl rfl rfl (Nat.le_of_ble_eq_true rfl) ⟨rfl, rfl⟩ ⟨(Nat.le_of_ble_eq_true rfl), (Nat.le_of_ble_eq_true rfl)⟩ [0, 1, 2, 3, 4, 5, 6] [] [0, 1, 2, 3, 4, 5, 6] rfl rfl rfl rfl (by decide) rfl rfl rfl ?_
  clear hc
  refine h_if_eq (pc := 27) (tgt := 34) C dX5_pair_27 (by decide) (fun q => ?_) (fun q => ?_)
  · replace hf := jif_t q hf
    clear q
    refine h_iload_n (pc := 34) C dX5_pair_34 rfl 0 rfl ?_
    have g0 := (Prod.mk.inj (Option.some.inj hf)).1
    have g1 := (Prod.mk.inj (Option.some.inj hf)).2
    clear hf
    subst g0
    subst g1
    exact h_iret C hr dX5_pair_35
  · replace hf := jif_f q hf
    clear q
    refine h_iconst (pc := 30) C dX5_pair_30 jc_0 ?_
    refine h_goto (pc := 31) (tgt := 35) C dX5_pair_31 (by decide) ?_
    have g0 := (Prod.mk.inj (Option.some.inj hf)).1
    have g1 := (Prod.mk.inj (Option.some.inj hf)).2
    clear hf
    subst g0
    subst g1
    exact h_iret C hr dX5_pair_35
set_option maxRecDepth 100000 in
set_option maxHeartbeats 4000000 in
theorem k_X5_pair_13 {p : Program} {e : Env} {s : State} {m : MethodId} {args : Array Value} {below : List Frame} {meth : Method} {c : Code} {A : Nat → Prop} (l : Launch) (D : va_G) (cT : Nat → ClassId) (ad : Nat → Nat) (C : hC p s m args meth c cX5_pair 3 wsX5_pair RX5 D (ty4 cT) A) (hr : meth.sig.returnType = (some .int)) (n : Nat) (madded : Int32) (msides : Nat → Int32) (mkey : Nat → Int32) (misThere : Nat → Int32) (mboxes : Int32) (morder : Nat → Int32) (mlevels : Int32) (mnodes : Nat → Int32) (mentries : Nat → Int32) (mleft : Int32) (mlow : Int32) (mright : Int32) (mhigh : Int32) (mfirst : Int32) (mend : Int32) (r : Int32) (mthrown' : Int32)  : ∀ (mthrown : Int32) (t0 : Int32), f_X5_pair_13 n madded msides misThere mthrown t0 = some (r, mthrown') → hS p l e rmX5_pair s m args below meth c 3 D A 0 0 (MQ below (cQ D (ty4 cT) A (some (.int r)) (wM cT ad madded msides mkey misThere mboxes morder mlevels mnodes mentries mleft mlow mright mhigh mfirst mend mthrown')) args s 0 0 A) 13 [(0, .ref (ad 10))] (.int t0 :: []) (wM cT ad madded msides mkey misThere mboxes morder mlevels mnodes mentries mleft mlow mright mhigh mfirst mend mthrown) := by
  intro mthrown t0 hf
  unfold f_X5_pair_13 at hf
  refine h_istore_n (pc := 13) (lv' := [(2, .int t0), (0, .ref (ad 10))]) C dX5_pair_13 rfl (by decide) rfl ?_
  refine h_aload_n (pc := 14) C dX5_pair_14 rfl 1 rfl ?_
  refine h_iload_n (pc := 15) C dX5_pair_15 rfl 0 rfl ?_
  refine h_if_ge (pc := 16) (tgt := 23) C dX5_pair_16 (by decide) (fun q => ?_) (fun q => ?_)
  · replace hf := jif_t q hf
    clear q
    refine h_iconst (pc := 23) C dX5_pair_23 jc_0 ?_
    refine h_sub [0] rfl ?_
    exact k_X5_pair_24 l D cT ad C hr n madded msides mkey misThere mboxes morder mlevels mnodes mentries mleft mlow mright mhigh mfirst mend r mthrown' mthrown t0 0 hf
  · replace hf := jif_f q hf
    clear q
    refine h_iconst (pc := 19) C dX5_pair_19 jc_1 ?_
    refine h_goto (pc := 20) (tgt := 24) C dX5_pair_20 (by decide) ?_
    refine h_sub [0] rfl ?_
    exact k_X5_pair_24 l D cT ad C hr n madded msides mkey misThere mboxes morder mlevels mnodes mentries mleft mlow mright mhigh mfirst mend r mthrown' mthrown t0 1 hf
set_option maxRecDepth 100000 in
set_option maxHeartbeats 4000000 in
theorem c_X5_pair (l : Launch) (D : va_G) (cT : Nat → ClassId) (ad : Nat → Nat) (n : Nat) (madded : Int32) (msides : Nat → Int32) (mkey : Nat → Int32) (misThere : Nat → Int32) (mboxes : Int32) (morder : Nat → Int32) (mlevels : Int32) (mnodes : Nat → Int32) (mentries : Nat → Int32) (mleft : Int32) (mlow : Int32) (mright : Int32) (mhigh : Int32) (mfirst : Int32) (mend : Int32) (mthrown : Int32) (a1 : Int32) (r : Int32) (mthrown' : Int32) (hf : f_X5_pair n madded msides misThere mthrown a1 = some (r, mthrown')) : cM l yX5_pair wsX5_pair rmX5_pair D (ty4 cT) [.ref (ad 10), .int a1] (wM cT ad madded msides mkey misThere mboxes morder mlevels mnodes mentries mleft mlow mright mhigh mfirst mend mthrown) (some (.int r)) (wM cT ad madded msides mkey misThere mboxes morder mlevels mnodes mentries mleft mlow mright mhigh mfirst mend mthrown') := by
  refine cM_of (cc := cX5_pair) (maxL := 3) (ret := (some .int)) (own := RX5) (lv := [(0, .ref (ad 10)), (1, .int a1)]) (by decide) rfl (Nat.le_of_ble_eq_true rfl) rfl rfl ?_
  intro p e s m args below meth c A C hr
  unfold f_X5_pair at hf
  refine h_iload_n (pc := 0) C dX5_pair_0 rfl 1 rfl ?_
  refine h_if_ge (pc := 1) (tgt := 8) C dX5_pair_1 (by decide) (fun q => ?_) (fun q => ?_)
  · replace hf := jif_t q hf
    clear q
    refine h_aload_n (pc := 8) C dX5_pair_8 rfl 0 rfl ?_
    refine h_iload_n (pc := 9) C dX5_pair_9 rfl 1 rfl ?_
    obtain ⟨v1, hc, hf⟩ := jbd_s hf
    refine h_callV (pc := 10) (q0 := 0) (As := [.int a1]) (rest := []) (ws' := (wM cT ad madded msides mkey misThere mboxes morder mlevels mnodes mentries mleft mlow mright mhigh mfirst mend mthrown)) (st2 := .int v1 :: []) C (c_X5_goesThrough l D cT ad n madded msides mkey misThere mboxes morder mlevels mnodes mentries mleft mlow mright mhigh mfirst mend mthrown a1 v1 hc) (cwV 1 C.1.2.2.2.2 gX5_pair_X5_goesThrough rfl rfl rfl pv_X5_goesThrough ⟨(Nat.le_of_ble_eq_true rfl), (Nat.le_of_ble_eq_true rfl)⟩) dX5_pair_10 rfl rfl rfl rfl rfl (Nat.le_of_ble_eq_true rfl) ⟨rfl, rfl⟩ ⟨(Nat.le_of_ble_eq_true rfl), (Nat.le_of_ble_eq_true rfl)⟩ [0, 1, 2, 3, 4, 5, 6] [] [0, 1, 2, 3, 4, 5, 6] rfl rfl rfl rfl (by decide) rfl rfl rfl ?_
    clear hc
    refine h_sub [0] rfl ?_
    exact k_X5_pair_13 l D cT ad C hr n madded msides mkey misThere mboxes morder mlevels mnodes mentries mleft mlow mright mhigh mfirst mend r mthrown' mthrown v1 hf
  · replace hf := jif_f q hf
    clear q
    refine h_iconst (pc := 4) C dX5_pair_4 jc_m1 ?_
    refine h_goto (pc := 5) (tgt := 13) C dX5_pair_5 (by decide) ?_
    refine h_sub [0] rfl ?_
    exact k_X5_pair_13 l D cT ad C hr n madded msides mkey misThere mboxes morder mlevels mnodes mentries mleft mlow mright mhigh mfirst mend r mthrown' mthrown jm1 hf
theorem pv_X5_pair : yX5_pair.cls = RX5 ∧ yX5_pair.cls ≠ "java/lang/invoke/MethodHandle" ∧ yX5_pair.cls ≠ "java/lang/invoke/VarHandle" ∧ (parseMethodDescriptor yX5_pair.desc).map (fun d => d.parameters.length) = some 1 := by decide +kernel
