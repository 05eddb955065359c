/-! laid by wip/whole/lay.py: contracts -/
abbrev rmX5_leafFor : Room := { frames := 2, cells := 0, slots := 0, locals := 46 }
theorem uX5_leafFor_X5 : ∀ w ∈ u_ws RX5 TX5 16, w ∈ wsX5_leafFor := fun w h => List.mem_cons_of_mem _ (List.mem_append_right _ h)
set_option maxRecDepth 100000 in
set_option maxHeartbeats 4000000 in
theorem k_X5_leafFor_2 {p : Program} {e : Env} {s : State} {m : MethodId} {args : Array Value} {below : List Frame} {meth : Method} {c : Code} {A : Nat → Prop} (l : Launch) (D : va_G) (cT : Nat → ClassId) (ad : Nat → Nat) (C : hC p s m args meth c cX5_leafFor 3 wsX5_leafFor RX5 D (ty4 cT) A) (hr : meth.sig.returnType = (some .int)) (n : Nat) (madded : Int32) (msides : Nat → Int32) (mkey : Nat → Int32) (misThere : Nat → Int32) (mboxes : Int32) (morder : Nat → Int32) (mlevels : Int32) (mnodes : Nat → Int32) (mentries : Nat → Int32) (mleft : Int32) (mlow : Int32) (mright : Int32) (mhigh : Int32) (mfirst : Int32) (mend : Int32) (mthrown : Int32) (r : Int32)  : ∀ (fu : Nat)  (x1 : Int32) (x2 : Int32), f_X5_leafFor_2 n mlevels mnodes mentries fu x1 x2 = some r → hS p l e rmX5_leafFor s m args below meth c 3 D A 0 0 (MQ below (cQ D (ty4 cT) A (some (.int r)) (wM cT ad madded msides mkey misThere mboxes morder mlevels mnodes mentries mleft mlow mright mhigh mfirst mend mthrown)) args s 0 0 A) 2 [(0, .ref (ad 10)), (1, .int x1), (2, .int x2)] [] (wM cT ad madded msides mkey misThere mboxes morder mlevels mnodes mentries mleft mlow mright mhigh mfirst mend mthrown) := by
  intro fu
  induction fu with
  | zero =>
    intro x1 x2 hf
    exact nomatch (show (none : Option (Int32)) = some r from hf)
  | succ fu ih =>
    intro x1 x2 hf
    rw [f_X5_leafFor_2] at hf
    refine h_aload_n (pc := 2) C dX5_leafFor_2 rfl 0 rfl ?_
    refine h_get (pc := 3) (ci := 3) (C0 := RX5) (T := TX5) (N := 16) C uX5_leafFor_X5 rfl 0 rfl 6 (by decide) (List.mem_of_getElem? (i := 1) rfl) rfl rfl dX5_leafFor_3 ?_
    refine h_if_le (pc := 6) (tgt := 39) C dX5_leafFor_6 (by decide) (fun q => ?_) (fun q => ?_)
    · replace hf := jif_t q hf
      clear q
      refine h_iload_n (pc := 39) C dX5_leafFor_39 rfl 2 rfl ?_
      have g0 := (Option.some.inj hf)
      clear hf
      subst g0
      exact h_iret C hr dX5_leafFor_40
    · replace hf := jif_f q hf
      clear q
      refine h_iload_n (pc := 9) C dX5_leafFor_9 rfl 2 rfl ?_
      refine h_iconst (pc := 10) C dX5_leafFor_10 jc_1 ?_
      refine h_iadd (pc := 11) C dX5_leafFor_11 ?_
      refine h_aload_n (pc := 12) C dX5_leafFor_12 rfl 0 rfl ?_
      refine h_get (pc := 13) (ci := 3) (C0 := RX5) (T := TX5) (N := 16) C uX5_leafFor_X5 rfl 0 rfl 7 (by decide) (List.mem_of_getElem? (i := 2) rfl) rfl rfl dX5_leafFor_13 ?_
      refine h_iconst (pc := 16) C dX5_leafFor_16 jc_0 ?_
      obtain ⟨hi, v1, hv, hf⟩ := jrd_s hf
      refine h_iald (pc := 17) C 5 0 rfl rfl hi hv dX5_leafFor_17 ?_
      clear hi hv
      refine h_icmp_ge (pc := 18) (tgt := 39) C dX5_leafFor_18 (by decide) (fun q => ?_) (fun q => ?_)
      · replace hf := jif_t q hf
        clear q
        refine h_iload_n (pc := 39) C dX5_leafFor_39 rfl 2 rfl ?_
        have g0 := (Option.some.inj hf)
        clear hf
        subst g0
        exact h_iret C hr dX5_leafFor_40
      · replace hf := jif_f q hf
        clear q
        refine h_aload_n (pc := 21) C dX5_leafFor_21 rfl 0 rfl ?_
        refine h_iconst (pc := 22) C dX5_leafFor_22 jc_0 ?_
        refine h_iload_n (pc := 23) C dX5_leafFor_23 rfl 2 rfl ?_
        refine h_iconst (pc := 24) C dX5_leafFor_24 jc_1 ?_
        refine h_iadd (pc := 25) C dX5_leafFor_25 ?_
        obtain ⟨v2, hc, hf⟩ := jbd_s hf
        refine h_callV (pc := 26) (q0 := 0) (As := [.int 0, .int (x2 + 1)]) (rest := []) (ws' := (wM cT ad madded msides mkey misThere mboxes morder mlevels mnodes mentries mleft mlow mright mhigh mfirst mend mthrown)) (st2 := .int v2 :: []) C (c_X5_ahead l D cT ad n madded msides mkey misThere mboxes morder mlevels mnodes mentries mleft mlow mright mhigh mfirst mend mthrown 0 (x2 + 1) v2 hc) (cwV 2 C.1.2.2.2.2 gX5_leafFor_X5_ahead rfl rfl rfl pv_X5_ahead ⟨(Nat.le_of_ble_eq_true rfl), (Nat.le_of_ble_eq_true rfl)⟩) dX5_leafFor_26 rfl rfl rfl rfl rfl (Nat.le_of_ble_eq_true rfl) ⟨rfl, rfl⟩ ⟨(Nat.le_of_ble_eq_true rfl), (Nat.le_of_ble_eq_true rfl)⟩ [0, 1, 2, 3, 4, 5, 6] [] [0, 1, 2, 3, 4, 5, 6] rfl rfl rfl rfl (by decide) rfl rfl rfl ?_
        clear hc
        refine h_iload_n (pc := 29) C dX5_leafFor_29 rfl 1 rfl ?_
        refine h_icmp_gt (pc := 30) (tgt := 39) C dX5_leafFor_30 (by decide) (fun q => ?_) (fun q => ?_)
        · replace hf := jif_t q hf
          clear q
          refine h_iload_n (pc := 39) C dX5_leafFor_39 rfl 2 rfl ?_
          have g0 := (Option.some.inj hf)
          clear hf
          subst g0
          exact h_iret C hr dX5_leafFor_40
        · replace hf := jif_f q hf
          clear q
          refine h_iinc (pc := 33) (v := x2 + 1) (lv' := [(2, .int (x2 + 1)), (0, .ref (ad 10)), (1, .int x1)]) C dX5_leafFor_33 2 rfl (ji_1 _) (by decide) rfl ?_
          refine h_goto (pc := 36) (tgt := 2) C dX5_leafFor_36 (by decide) ?_
          refine h_sub [1, 2, 0] rfl ?_
          exact ih x1 (x2 + 1) hf
set_option maxRecDepth 100000 in
set_option maxHeartbeats 4000000 in
theorem c_X5_leafFor (l : Launch) (D : va_G) (cT : Nat → ClassId) (ad : Nat → Nat) (n : Nat) (madded : Int32) (msides : Nat → Int32) (mkey : Nat → Int32) (misThere : Nat → Int32) (mboxes : Int32) (morder : Nat → Int32) (mlevels : Int32) (mnodes : Nat → Int32) (mentries : Nat → Int32) (mleft : Int32) (mlow : Int32) (mright : Int32) (mhigh : Int32) (mfirst : Int32) (mend : Int32) (mthrown : Int32) (a1 : Int32) (r : Int32) (hf : f_X5_leafFor n mlevels mnodes mentries a1 = some r) : cM l yX5_leafFor wsX5_leafFor rmX5_leafFor D (ty4 cT) [.ref (ad 10), .int a1] (wM cT ad madded msides mkey misThere mboxes morder mlevels mnodes mentries mleft mlow mright mhigh mfirst mend mthrown) (some (.int r)) (wM cT ad madded msides mkey misThere mboxes morder mlevels mnodes mentries mleft mlow mright mhigh mfirst mend mthrown) := by
  refine cM_of (cc := cX5_leafFor) (maxL := 3) (ret := (some .int)) (own := RX5) (lv := [(0, .ref (ad 10)), (1, .int a1)]) (by decide) rfl (Nat.le_of_ble_eq_true rfl) rfl rfl ?_
  intro p e s m args below meth c A C hr
  unfold f_X5_leafFor at hf
  refine h_iconst (pc := 0) C dX5_leafFor_0 jc_0 ?_
  refine h_istore_n (pc := 1) (lv' := [(2, .int 0), (0, .ref (ad 10)), (1, .int a1)]) C dX5_leafFor_1 rfl (by decide) rfl ?_
  refine h_sub [1, 2, 0] rfl ?_
  exact k_X5_leafFor_2 l D cT ad C hr n madded msides mkey misThere mboxes morder mlevels mnodes mentries mleft mlow mright mhigh mfirst mend mthrown r n a1 0 hf
theorem pv_X5_leafFor : yX5_leafFor.cls = RX5 ∧ yX5_leafFor.cls ≠ "java/lang/invoke/MethodHandle" ∧ yX5_leafFor.cls ≠ "java/lang/invoke/VarHandle" ∧ (parseMethodDescriptor yX5_leafFor.desc).map (fun d => d.parameters.length) = some 1 := by decide +kernel
abbrev rmX5_add : Room := { frames := 5, cells := 0, slots := 0, locals := 122 }
theorem uX5_add_X5 : ∀ w ∈ u_ws RX5 TX5 16, w ∈ wsX5_add := fun w h => List.mem_cons_of_mem _ (List.mem_append_right _ h)
set_option maxRecDepth 100000 in
set_option maxHeartbeats 4000000 in
theorem k_X5_add_287 {p : Program} {e : Env} {s : State} {m : MethodId} {args : Array Value} {below : List Frame} {meth : Method} {c : Code} {A : Nat → Prop} (l : Launch) (D : va_G) (cT : Nat → ClassId) (ad : Nat → Nat) (C : hC p s m args meth c cX5_add 8 wsX5_add RX5 D (ty4 cT) A) (hr : meth.sig.returnType = (some .int)) (n : Nat) (mleft : Int32) (mlow : Int32) (mright : Int32) (mhigh : Int32) (mfirst : Int32) (mend : Int32) (r : Int32) (madded' : Int32) (msides' : Nat → Int32) (mkey' : Nat → Int32) (misThere' : Nat → Int32) (mboxes' : Int32) (morder' : Nat → Int32) (mlevels' : Int32) (mnodes' : Nat → Int32) (mentries' : Nat → Int32) (mthrown' : Int32)  : ∀ (madded : Int32) (msides : Nat → Int32) (mkey : Nat → Int32) (misThere : Nat → Int32) (mboxes : Int32) (morder : Nat → Int32) (mlevels : Int32) (mnodes : Nat → Int32) (mentries : Nat → Int32) (mthrown : Int32) , f_X5_add_287 n madded msides mkey misThere mboxes morder mlevels mnodes mentries mthrown = some (r, madded', msides', mkey', misThere', mboxes', morder', mlevels', mnodes', mentries', mthrown') → hS p l e rmX5_add s m args below meth c 8 D A 0 0 (MQ below (cQ D (ty4 cT) A (some (.int r)) (wM cT ad madded' msides' mkey' misThere' mboxes' morder' mlevels' mnodes' mentries' mleft mlow mright mhigh mfirst mend mthrown')) args s 0 0 A) 287 [(0, .ref (ad 10))] [] (wM cT ad madded msides mkey misThere mboxes morder mlevels mnodes mentries mleft mlow mright mhigh mfirst mend mthrown) := by
  intro madded msides mkey misThere mboxes morder mlevels mnodes mentries mthrown hf
  unfold f_X5_add_287 at hf
  refine h_aload_n (pc := 287) C dX5_add_287 rfl 0 rfl ?_
  refine h_get (pc := 288) (ci := 3) (C0 := RX5) (T := TX5) (N := 16) C uX5_add_X5 rfl 0 rfl 0 (by decide) (List.mem_of_getElem? (i := 2) rfl) rfl rfl dX5_add_288 ?_
  refine h_iconst (pc := 291) C dX5_add_291 jc_1 ?_
  refine h_isub (pc := 292) C dX5_add_292 ?_
  have g0 := (Prod.mk.inj (Option.some.inj hf)).1
  have g1 := (Prod.mk.inj (Prod.mk.inj (Option.some.inj hf)).2).1
  have g2 := (Prod.mk.inj (Prod.mk.inj (Prod.mk.inj (Option.some.inj hf)).2).2).1
  have g3 := (Prod.mk.inj (Prod.mk.inj (Prod.mk.inj (Prod.mk.inj (Option.some.inj hf)).2).2).2).1
  have g4 := (Prod.mk.inj (Prod.mk.inj (Prod.mk.inj (Prod.mk.inj (Prod.mk.inj (Option.some.inj hf)).2).2).2).2).1
  have g5 := (Prod.mk.inj (Prod.mk.inj (Prod.mk.inj (Prod.mk.inj (Prod.mk.inj (Prod.mk.inj (Option.some.inj hf)).2).2).2).2).2).1
  have g6 := (Prod.mk.inj (Prod.mk.inj (Prod.mk.inj (Prod.mk.inj (Prod.mk.inj (Prod.mk.inj (Prod.mk.inj (Option.some.inj hf)).2).2).2).2).2).2).1
  have g7 := (Prod.mk.inj (Prod.mk.inj (Prod.mk.inj (Prod.mk.inj (Prod.mk.inj (Prod.mk.inj (Prod.mk.inj (Prod.mk.inj (Option.some.inj hf)).2).2).2).2).2).2).2).1
  have g8 := (Prod.mk.inj (Prod.mk.inj (Prod.mk.inj (Prod.mk.inj (Prod.mk.inj (Prod.mk.inj (Prod.mk.inj (Prod.mk.inj (Prod.mk.inj (Option.some.inj hf)).2).2).2).2).2).2).2).2).1
  have g9 := (Prod.mk.inj (Prod.mk.inj (Prod.mk.inj (Prod.mk.inj (Prod.mk.inj (Prod.mk.inj (Prod.mk.inj (Prod.mk.inj (Prod.mk.inj (Prod.mk.inj (Option.some.inj hf)).2).2).2).2).2).2).2).2).2).1
  have g10 := (Prod.mk.inj (Prod.mk.inj (Prod.mk.inj (Prod.mk.inj (Prod.mk.inj (Prod.mk.inj (Prod.mk.inj (Prod.mk.inj (Prod.mk.inj (Prod.mk.inj (Option.some.inj hf)).2).2).2).2).2).2).2).2).2).2
  clear hf
  subst g0
  subst g1
  subst g2
  subst g3
  subst g4
  subst g5
  subst g6
  subst g7
  subst g8
  subst g9
  subst g10
  exact h_iret C hr dX5_add_293
set_option maxRecDepth 100000 in
set_option maxHeartbeats 4000000 in
theorem k_X5_add_191 {p : Program} {e : Env} {s : State} {m : MethodId} {args : Array Value} {below : List Frame} {meth : Method} {c : Code} {A : Nat → Prop} (l : Launch) (D : va_G) (cT : Nat → ClassId) (ad : Nat → Nat) (C : hC p s m args meth c cX5_add 8 wsX5_add RX5 D (ty4 cT) A) (hr : meth.sig.returnType = (some .int)) (n : Nat) (mleft : Int32) (mlow : Int32) (mright : Int32) (mhigh : Int32) (mfirst : Int32) (mend : Int32) (r : Int32) (madded' : Int32) (msides' : Nat → Int32) (mkey' : Nat → Int32) (misThere' : Nat → Int32) (mboxes' : Int32) (morder' : Nat → Int32) (mlevels' : Int32) (mnodes' : Nat → Int32) (mentries' : Nat → Int32) (mthrown' : Int32)  : ∀ (fu : Nat) (madded : Int32) (msides : Nat → Int32) (mkey : Nat → Int32) (misThere : Nat → Int32) (mboxes : Int32) (morder : Nat → Int32) (mlevels : Int32) (mnodes : Nat → Int32) (mentries : Nat → Int32) (mthrown : Int32) (x5 : Int32) (x6 : Int32) (x7 : Int32), f_X5_add_191 n fu madded msides mkey misThere mboxes morder mlevels mnodes mentries mthrown x5 x6 x7 = some (r, madded', msides', mkey', misThere', mboxes', morder', mlevels', mnodes', mentries', mthrown') → hS p l e rmX5_add s m args below meth c 8 D A 0 0 (MQ below (cQ D (ty4 cT) A (some (.int r)) (wM cT ad madded' msides' mkey' misThere' mboxes' morder' mlevels' mnodes' mentries' mleft mlow mright mhigh mfirst mend mthrown')) args s 0 0 A) 191 [(0, .ref (ad 10)), (5, .int x5), (6, .int x6), (7, .int x7)] [] (wM cT ad madded msides mkey misThere mboxes morder mlevels mnodes mentries mleft mlow mright mhigh mfirst mend mthrown) := by
  intro fu
  induction fu with
  | zero =>
    intro madded msides mkey misThere mboxes morder mlevels mnodes mentries mthrown x5 x6 x7 hf
    exact nomatch (show (none : Option (Int32 × Int32 × (Nat → Int32) × (Nat → Int32) × (Nat → Int32) × Int32 × (Nat → Int32) × Int32 × (Nat → Int32) × (Nat → Int32) × Int32)) = some (r, madded', msides', mkey', misThere', mboxes', morder', mlevels', mnodes', mentries', mthrown') from hf)
  | succ fu ih =>
    intro madded msides mkey misThere mboxes morder mlevels mnodes mentries mthrown x5 x6 x7 hf
    rw [f_X5_add_191] at hf
    refine h_iload (pc := 191) C dX5_add_191 3 rfl ?_
    refine h_iload (pc := 193) C dX5_add_193 1 rfl ?_
    refine h_icmp_le (pc := 195) (tgt := 220) C dX5_add_195 (by decide) (fun q => ?_) (fun q => ?_)
    · replace hf := jif_t q hf
      clear q
      refine h_aload_n (pc := 220) C dX5_add_220 rfl 0 rfl ?_
      refine h_get (pc := 221) (ci := 3) (C0 := RX5) (T := TX5) (N := 16) C uX5_add_X5 rfl 0 rfl 5 (by decide) (List.mem_of_getElem? (i := 6) rfl) rfl rfl dX5_add_221 ?_
      refine h_iload (pc := 224) C dX5_add_224 1 rfl ?_
      refine h_aload_n (pc := 226) C dX5_add_226 rfl 0 rfl ?_
      refine h_get (pc := 227) (ci := 3) (C0 := RX5) (T := TX5) (N := 16) C uX5_add_X5 rfl 0 rfl 0 (by decide) (List.mem_of_getElem? (i := 2) rfl) rfl rfl dX5_add_227 ?_
      obtain ⟨hi, w14, hv, hf⟩ := jwr_s hf
      refine h_iast (pc := 230) (ws' := (wM cT ad madded msides mkey misThere mboxes w14 mlevels mnodes mentries mleft mlow mright mhigh mfirst mend mthrown)) C 4 0 rfl rfl hi hv rfl dX5_add_230 ?_
      clear hi hv
      refine h_aload_n (pc := 231) C dX5_add_231 rfl 0 rfl ?_
      refine h_dup (pc := 232) C dX5_add_232 rfl ?_
      refine h_get (pc := 233) (ci := 3) (C0 := RX5) (T := TX5) (N := 16) C uX5_add_X5 rfl 0 rfl 4 (by decide) (List.mem_of_getElem? (i := 1) rfl) rfl rfl dX5_add_233 ?_
      refine h_iconst (pc := 236) C dX5_add_236 jc_1 ?_
      refine h_iadd (pc := 237) C dX5_add_237 ?_
      refine h_put (pc := 238) (ci := 3) (C0 := RX5) (T := TX5) (N := 16) (ws' := (wM cT ad madded msides mkey misThere (mboxes + 1) w14 mlevels mnodes mentries mleft mlow mright mhigh mfirst mend mthrown)) C uX5_add_X5 tyX5 tyX5_ok nmX5 rfl 0 rfl 4 (by decide) (List.mem_of_getElem? (i := 1) rfl) rfl rfl rfl (Nat.le_of_ble_eq_true rfl) rfl dX5_add_238 ?_
      refine h_aload_n (pc := 241) C dX5_add_241 rfl 0 rfl ?_
      refine h_dup (pc := 242) C dX5_add_242 rfl ?_
      refine h_get (pc := 243) (ci := 3) (C0 := RX5) (T := TX5) (N := 16) C uX5_add_X5 rfl 0 rfl 0 (by decide) (List.mem_of_getElem? (i := 2) rfl) rfl rfl dX5_add_243 ?_
      refine h_iconst (pc := 246) C dX5_add_246 jc_1 ?_
      refine h_iadd (pc := 247) C dX5_add_247 ?_
      refine h_put (pc := 248) (ci := 3) (C0 := RX5) (T := TX5) (N := 16) (ws' := (wM cT ad (madded + 1) msides mkey misThere (mboxes + 1) w14 mlevels mnodes mentries mleft mlow mright mhigh mfirst mend mthrown)) C uX5_add_X5 tyX5 tyX5_ok nmX5 rfl 0 rfl 0 (by decide) (List.mem_of_getElem? (i := 2) rfl) rfl rfl rfl (Nat.le_of_ble_eq_true rfl) rfl dX5_add_248 ?_
      refine h_aload_n (pc := 251) C dX5_add_251 rfl 0 rfl ?_
      refine h_get (pc := 252) (ci := 3) (C0 := RX5) (T := TX5) (N := 16) C uX5_add_X5 rfl 0 rfl 6 (by decide) (List.mem_of_getElem? (i := 7) rfl) rfl rfl dX5_add_252 ?_
      refine h_if_ne (pc := 255) (tgt := 280) C dX5_add_255 (by decide) (fun q => ?_) (fun q => ?_)
      · replace hf := jif_f q hf
        clear q
        refine h_aload_n (pc := 280) C dX5_add_280 rfl 0 rfl ?_
        refine h_iconst (pc := 281) C dX5_add_281 jc_0 ?_
        refine h_iload (pc := 282) C dX5_add_282 2 rfl ?_
        obtain ⟨v15, hc, hf⟩ := jbd_s hf
        refine h_callV (pc := 284) (q0 := 0) (As := [.int 0, .int x6]) (rest := []) (ws' := (wM cT ad (madded + 1) msides mkey misThere (mboxes + 1) w14 v15.1 v15.2.1 v15.2.2 mleft mlow mright mhigh mfirst mend mthrown)) (st2 := []) C (c_X5_grows l D cT ad n (madded + 1) msides mkey misThere (mboxes + 1) w14 mlevels mnodes mentries mleft mlow mright mhigh mfirst mend mthrown 0 x6 v15.1 v15.2.1 v15.2.2 hc) (cwV 2 C.1.2.2.2.2 gX5_add_X5_grows rfl rfl rfl pv_X5_grows ⟨(Nat.le_of_ble_eq_true rfl), (Nat.le_of_ble_eq_true rfl)⟩) dX5_add_284 rfl rfl rfl rfl rfl (Nat.le_of_ble_eq_true rfl) ⟨rfl, rfl⟩ ⟨(Nat.le_of_ble_eq_true rfl), (Nat.le_of_ble_eq_true rfl)⟩ [0, 1, 2, 3, 4, 5, 6] [] [0, 1, 2, 3, 4, 5, 6] rfl rfl rfl rfl (by decide) rfl rfl rfl ?_
        clear hc
        refine h_sub [0] rfl ?_
        exact k_X5_add_287 l D cT ad C hr n mleft mlow mright mhigh mfirst mend r madded' msides' mkey' misThere' mboxes' morder' mlevels' mnodes' mentries' mthrown' (madded + 1) msides mkey misThere (mboxes + 1) w14 v15.1 v15.2.1 v15.2.2 mthrown hf
      · replace hf := jif_t q hf
        clear q
        refine h_aload_n (pc := 258) C dX5_add_258 rfl 0 rfl ?_
        refine h_iconst (pc := 259) C dX5_add_259 jc_1 ?_
        refine h_put (pc := 260) (ci := 3) (C0 := RX5) (T := TX5) (N := 16) (ws' := (wM cT ad (madded + 1) msides mkey misThere (mboxes + 1) w14 1 mnodes mentries mleft mlow mright mhigh mfirst mend mthrown)) C uX5_add_X5 tyX5 tyX5_ok nmX5 rfl 0 rfl 6 (by decide) (List.mem_of_getElem? (i := 7) rfl) rfl rfl rfl (Nat.le_of_ble_eq_true rfl) rfl dX5_add_260 ?_
        refine h_aload_n (pc := 263) C dX5_add_263 rfl 0 rfl ?_
        refine h_get (pc := 264) (ci := 3) (C0 := RX5) (T := TX5) (N := 16) C uX5_add_X5 rfl 0 rfl 7 (by decide) (List.mem_of_getElem? (i := 8) rfl) rfl rfl dX5_add_264 ?_
        refine h_iconst (pc := 267) C dX5_add_267 jc_0 ?_
        refine h_iconst (pc := 268) C dX5_add_268 jc_1 ?_
        obtain ⟨hi, w16, hv, hf⟩ := jwr_s hf
        refine h_iast (pc := 269) (ws' := (wM cT ad (madded + 1) msides mkey misThere (mboxes + 1) w14 1 w16 mentries mleft mlow mright mhigh mfirst mend mthrown)) C 5 0 rfl rfl hi hv rfl dX5_add_269 ?_
        clear hi hv
        refine h_aload_n (pc := 270) C dX5_add_270 rfl 0 rfl ?_
        refine h_get (pc := 271) (ci := 3) (C0 := RX5) (T := TX5) (N := 16) C uX5_add_X5 rfl 0 rfl 8 (by decide) (List.mem_of_getElem? (i := 9) rfl) rfl rfl dX5_add_271 ?_
        refine h_iconst (pc := 274) C dX5_add_274 jc_0 ?_
        refine h_iconst (pc := 275) C dX5_add_275 jc_1 ?_
        obtain ⟨hi, w17, hv, hf⟩ := jwr_s hf
        refine h_iast (pc := 276) (ws' := (wM cT ad (madded + 1) msides mkey misThere (mboxes + 1) w14 1 w16 w17 mleft mlow mright mhigh mfirst mend mthrown)) C 6 0 rfl rfl hi hv rfl dX5_add_276 ?_
        clear hi hv
        refine h_goto (pc := 277) (tgt := 287) C dX5_add_277 (by decide) ?_
        refine h_sub [0] rfl ?_
        exact k_X5_add_287 l D cT ad C hr n mleft mlow mright mhigh mfirst mend r madded' msides' mkey' misThere' mboxes' morder' mlevels' mnodes' mentries' mthrown' (madded + 1) msides mkey misThere (mboxes + 1) w14 1 w16 w17 mthrown hf
    · replace hf := jif_f q hf
      clear q
      refine h_aload_n (pc := 198) C dX5_add_198 rfl 0 rfl ?_
      refine h_get (pc := 199) (ci := 3) (C0 := RX5) (T := TX5) (N := 16) C uX5_add_X5 rfl 0 rfl 5 (by decide) (List.mem_of_getElem? (i := 6) rfl) rfl rfl dX5_add_199 ?_
      refine h_iload (pc := 202) C dX5_add_202 3 rfl ?_
      refine h_aload_n (pc := 204) C dX5_add_204 rfl 0 rfl ?_
      refine h_get (pc := 205) (ci := 3) (C0 := RX5) (T := TX5) (N := 16) C uX5_add_X5 rfl 0 rfl 5 (by decide) (List.mem_of_getElem? (i := 6) rfl) rfl rfl dX5_add_205 ?_
      refine h_iload (pc := 208) C dX5_add_208 3 rfl ?_
      refine h_iconst (pc := 210) C dX5_add_210 jc_1 ?_
      refine h_isub (pc := 211) C dX5_add_211 ?_
      obtain ⟨hi, v18, hv, hf⟩ := jrd_s hf
      refine h_iald (pc := 212) C 4 0 rfl rfl hi hv dX5_add_212 ?_
      clear hi hv
      obtain ⟨hi, w19, hv, hf⟩ := jwr_s hf
      refine h_iast (pc := 213) (ws' := (wM cT ad madded msides mkey misThere mboxes w19 mlevels mnodes mentries mleft mlow mright mhigh mfirst mend mthrown)) C 4 0 rfl rfl hi hv rfl dX5_add_213 ?_
      clear hi hv
      refine h_iinc (pc := 214) (v := x7 + jm1) (lv' := [(7, .int (x7 + jm1)), (0, .ref (ad 10)), (5, .int x5), (6, .int x6)]) C dX5_add_214 3 rfl (ji_m1 _) (by decide) rfl ?_
      refine h_goto (pc := 217) (tgt := 191) C dX5_add_217 (by decide) ?_
      refine h_sub [1, 2, 3, 0] rfl ?_
      exact ih madded msides mkey misThere mboxes w19 mlevels mnodes mentries mthrown x5 x6 (x7 + jm1) hf
set_option maxRecDepth 100000 in
set_option maxHeartbeats 4000000 in
theorem k_X5_add_177 {p : Program} {e : Env} {s : State} {m : MethodId} {args : Array Value} {below : List Frame} {meth : Method} {c : Code} {A : Nat → Prop} (l : Launch) (D : va_G) (cT : Nat → ClassId) (ad : Nat → Nat) (C : hC p s m args meth c cX5_add 8 wsX5_add RX5 D (ty4 cT) A) (hr : meth.sig.returnType = (some .int)) (n : Nat) (mleft : Int32) (mlow : Int32) (mright : Int32) (mhigh : Int32) (mfirst : Int32) (mend : Int32) (r : Int32) (madded' : Int32) (msides' : Nat → Int32) (mkey' : Nat → Int32) (misThere' : Nat → Int32) (mboxes' : Int32) (morder' : Nat → Int32) (mlevels' : Int32) (mnodes' : Nat → Int32) (mentries' : Nat → Int32) (mthrown' : Int32)  : ∀ (madded : Int32) (msides : Nat → Int32) (mkey : Nat → Int32) (misThere : Nat → Int32) (mboxes : Int32) (morder : Nat → Int32) (mlevels : Int32) (mnodes : Nat → Int32) (mentries : Nat → Int32) (mthrown : Int32) (x5 : Int32), f_X5_add_177 n madded msides mkey misThere mboxes morder mlevels mnodes mentries mthrown x5 = some (r, madded', msides', mkey', misThere', mboxes', morder', mlevels', mnodes', mentries', mthrown') → hS p l e rmX5_add s m args below meth c 8 D A 0 0 (MQ below (cQ D (ty4 cT) A (some (.int r)) (wM cT ad madded' msides' mkey' misThere' mboxes' morder' mlevels' mnodes' mentries' mleft mlow mright mhigh mfirst mend mthrown')) args s 0 0 A) 177 [(0, .ref (ad 10)), (5, .int x5)] [] (wM cT ad madded msides mkey misThere mboxes morder mlevels mnodes mentries mleft mlow mright mhigh mfirst mend mthrown) := by
  intro madded msides mkey misThere mboxes morder mlevels mnodes mentries mthrown x5 hf
  unfold f_X5_add_177 at hf
  refine h_aload_n (pc := 177) C dX5_add_177 rfl 0 rfl ?_
  refine h_iload (pc := 178) C dX5_add_178 1 rfl ?_
  obtain ⟨v13, hc, hf⟩ := jbd_s hf
  refine h_callV (pc := 180) (q0 := 0) (As := [.int x5]) (rest := []) (ws' := (wM cT ad madded msides mkey misThere mboxes morder mlevels mnodes mentries mleft mlow mright mhigh mfirst mend mthrown)) (st2 := .int v13 :: []) C (c_X5_leafFor l D cT ad n madded msides mkey misThere mboxes morder mlevels mnodes mentries mleft mlow mright mhigh mfirst mend mthrown x5 v13 hc) (cwV 1 C.1.2.2.2.2 gX5_add_X5_leafFor rfl rfl rfl pv_X5_leafFor ⟨(Nat.le_of_ble_eq_true rfl), (Nat.le_of_ble_eq_true rfl)⟩) dX5_add_180 rfl rfl rfl rfl rfl (Nat.le_of_ble_eq_true rfl) ⟨rfl, rfl⟩ ⟨(Nat.le_of_ble_eq_true rfl), (Nat.le_of_ble_eq_true rfl)⟩ [0, 1, 2, 3, 4, 5, 6] [] [0, 1, 2, 3, 4, 5, 6] rfl rfl rfl rfl (by decide) rfl rfl rfl ?_
  clear hc
  refine h_istore (pc := 183) (lv' := [(6, .int v13), (0, .ref (ad 10)), (5, .int x5)]) C dX5_add_183 (by decide) rfl ?_
  refine h_aload_n (pc := 185) C dX5_add_185 rfl 1 rfl ?_
  refine h_get (pc := 186) (ci := 3) (C0 := RX5) (T := TX5) (N := 16) C uX5_add_X5 rfl 0 rfl 4 (by decide) (List.mem_of_getElem? (i := 1) rfl) rfl rfl dX5_add_186 ?_
  refine h_istore (pc := 189) (lv' := [(7, .int mboxes), (6, .int v13), (0, .ref (ad 10)), (5, .int x5)]) C dX5_add_189 (by decide) rfl ?_
  refine h_sub [2, 3, 1, 0] rfl ?_
  exact k_X5_add_191 l D cT ad C hr n mleft mlow mright mhigh mfirst mend r madded' msides' mkey' misThere' mboxes' morder' mlevels' mnodes' mentries' mthrown' n madded msides mkey misThere mboxes morder mlevels mnodes mentries mthrown x5 v13 mboxes hf
set_option maxRecDepth 100000 in
set_option maxHeartbeats 4000000 in
theorem k_X5_add_138 {p : Program} {e : Env} {s : State} {m : MethodId} {args : Array Value} {below : List Frame} {meth : Method} {c : Code} {A : Nat → Prop} (l : Launch) (D : va_G) (cT : Nat → ClassId) (ad : Nat → Nat) (C : hC p s m args meth c cX5_add 8 wsX5_add RX5 D (ty4 cT) A) (hr : meth.sig.returnType = (some .int)) (n : Nat) (mleft : Int32) (mlow : Int32) (mright : Int32) (mhigh : Int32) (mfirst : Int32) (mend : Int32) (r : Int32) (madded' : Int32) (msides' : Nat → Int32) (mkey' : Nat → Int32) (misThere' : Nat → Int32) (mboxes' : Int32) (morder' : Nat → Int32) (mlevels' : Int32) (mnodes' : Nat → Int32) (mentries' : Nat → Int32) (mthrown' : Int32)  : ∀ (fu : Nat) (madded : Int32) (msides : Nat → Int32) (mkey : Nat → Int32) (misThere : Nat → Int32) (mboxes : Int32) (morder : Nat → Int32) (mlevels : Int32) (mnodes : Nat → Int32) (mentries : Nat → Int32) (mthrown : Int32) (x5 : Int32), f_X5_add_138 n fu madded msides mkey misThere mboxes morder mlevels mnodes mentries mthrown x5 = some (r, madded', msides', mkey', misThere', mboxes', morder', mlevels', mnodes', mentries', mthrown') → hS p l e rmX5_add s m args below meth c 8 D A 0 0 (MQ below (cQ D (ty4 cT) A (some (.int r)) (wM cT ad madded' msides' mkey' misThere' mboxes' morder' mlevels' mnodes' mentries' mleft mlow mright mhigh mfirst mend mthrown')) args s 0 0 A) 138 [(0, .ref (ad 10)), (5, .int x5)] [] (wM cT ad madded msides mkey misThere mboxes morder mlevels mnodes mentries mleft mlow mright mhigh mfirst mend mthrown) := by
  intro fu
  induction fu with
  | zero =>
    intro madded msides mkey misThere mboxes morder mlevels mnodes mentries mthrown x5 hf
    exact nomatch (show (none : Option (Int32 × Int32 × (Nat → Int32) × (Nat → Int32) × (Nat → Int32) × Int32 × (Nat → Int32) × Int32 × (Nat → Int32) × (Nat → Int32) × Int32)) = some (r, madded', msides', mkey', misThere', mboxes', morder', mlevels', mnodes', mentries', mthrown') from hf)
  | succ fu ih =>
    intro madded msides mkey misThere mboxes morder mlevels mnodes mentries mthrown x5 hf
    rw [f_X5_add_138] at hf
    refine h_iload (pc := 138) C dX5_add_138 1 rfl ?_
    refine h_aload_n (pc := 140) C dX5_add_140 rfl 0 rfl ?_
    refine h_get (pc := 141) (ci := 3) (C0 := RX5) (T := TX5) (N := 16) C uX5_add_X5 rfl 0 rfl 4 (by decide) (List.mem_of_getElem? (i := 1) rfl) rfl rfl dX5_add_141 ?_
    refine h_icmp_ge (pc := 144) (tgt := 177) C dX5_add_144 (by decide) (fun q => ?_) (fun q => ?_)
    · replace hf := jif_t q hf
      clear q
      exact k_X5_add_177 l D cT ad C hr n mleft mlow mright mhigh mfirst mend r madded' msides' mkey' misThere' mboxes' morder' mlevels' mnodes' mentries' mthrown' madded msides mkey misThere mboxes morder mlevels mnodes mentries mthrown x5 hf
    · replace hf := jif_f q hf
      clear q
      refine h_aload_n (pc := 147) C dX5_add_147 rfl 0 rfl ?_
      refine h_get (pc := 148) (ci := 3) (C0 := RX5) (T := TX5) (N := 16) C uX5_add_X5 rfl 0 rfl 2 (by decide) (List.mem_of_getElem? (i := 4) rfl) rfl rfl dX5_add_148 ?_
      refine h_aload_n (pc := 151) C dX5_add_151 rfl 0 rfl ?_
      refine h_get (pc := 152) (ci := 3) (C0 := RX5) (T := TX5) (N := 16) C uX5_add_X5 rfl 0 rfl 5 (by decide) (List.mem_of_getElem? (i := 6) rfl) rfl rfl dX5_add_152 ?_
      refine h_iload (pc := 155) C dX5_add_155 1 rfl ?_
      obtain ⟨hi, v10, hv, hf⟩ := jrd_s hf
      refine h_iald (pc := 157) C 4 0 rfl rfl hi hv dX5_add_157 ?_
      clear hi hv
      obtain ⟨hi, v11, hv, hf⟩ := jrd_s hf
      refine h_iald (pc := 158) C 2 0 rfl rfl hi hv dX5_add_158 ?_
      clear hi hv
      refine h_aload_n (pc := 159) C dX5_add_159 rfl 0 rfl ?_
      refine h_get (pc := 160) (ci := 3) (C0 := RX5) (T := TX5) (N := 16) C uX5_add_X5 rfl 0 rfl 2 (by decide) (List.mem_of_getElem? (i := 4) rfl) rfl rfl dX5_add_160 ?_
      refine h_aload_n (pc := 163) C dX5_add_163 rfl 0 rfl ?_
      refine h_get (pc := 164) (ci := 3) (C0 := RX5) (T := TX5) (N := 16) C uX5_add_X5 rfl 0 rfl 0 (by decide) (List.mem_of_getElem? (i := 2) rfl) rfl rfl dX5_add_164 ?_
      obtain ⟨hi, v12, hv, hf⟩ := jrd_s hf
      refine h_iald (pc := 167) C 2 0 rfl rfl hi hv dX5_add_167 ?_
      clear hi hv
      refine h_icmp_gt (pc := 168) (tgt := 177) C dX5_add_168 (by decide) (fun q => ?_) (fun q => ?_)
      · replace hf := jif_t q hf
        clear q
        exact k_X5_add_177 l D cT ad C hr n mleft mlow mright mhigh mfirst mend r madded' msides' mkey' misThere' mboxes' morder' mlevels' mnodes' mentries' mthrown' madded msides mkey misThere mboxes morder mlevels mnodes mentries mthrown x5 hf
      · replace hf := jif_f q hf
        clear q
        refine h_iinc (pc := 171) (v := x5 + 1) (lv' := [(5, .int (x5 + 1)), (0, .ref (ad 10))]) C dX5_add_171 1 rfl (ji_1 _) (by decide) rfl ?_
        refine h_goto (pc := 174) (tgt := 138) C dX5_add_174 (by decide) ?_
        refine h_sub [1, 0] rfl ?_
        exact ih madded msides mkey misThere mboxes morder mlevels mnodes mentries mthrown (x5 + 1) hf
set_option maxRecDepth 100000 in
set_option maxHeartbeats 4000000 in
theorem k_X5_add_39 {p : Program} {e : Env} {s : State} {m : MethodId} {args : Array Value} {below : List Frame} {meth : Method} {c : Code} {A : Nat → Prop} (l : Launch) (D : va_G) (cT : Nat → ClassId) (ad : Nat → Nat) (C : hC p s m args meth c cX5_add 8 wsX5_add RX5 D (ty4 cT) A) (hr : meth.sig.returnType = (some .int)) (n : Nat) (mleft : Int32) (mlow : Int32) (mright : Int32) (mhigh : Int32) (mfirst : Int32) (mend : Int32) (r : Int32) (madded' : Int32) (msides' : Nat → Int32) (mkey' : Nat → Int32) (misThere' : Nat → Int32) (mboxes' : Int32) (morder' : Nat → Int32) (mlevels' : Int32) (mnodes' : Nat → Int32) (mentries' : Nat → Int32) (mthrown' : Int32)  : ∀ (madded : Int32) (msides : Nat → Int32) (mkey : Nat → Int32) (misThere : Nat → Int32) (mboxes : Int32) (morder : Nat → Int32) (mlevels : Int32) (mnodes : Nat → Int32) (mentries : Nat → Int32) (mthrown : Int32) (x1 : Int32) (x2 : Int32) (x3 : Int32) (x4 : Int32) (t1 : Int32), f_X5_add_39 n madded msides mkey misThere mboxes morder mlevels mnodes mentries mthrown x1 x2 x3 x4 t1 = some (r, madded', msides', mkey', misThere', mboxes', morder', mlevels', mnodes', mentries', mthrown') → hS p l e rmX5_add s m args below meth c 8 D A 0 0 (MQ below (cQ D (ty4 cT) A (some (.int r)) (wM cT ad madded' msides' mkey' misThere' mboxes' morder' mlevels' mnodes' mentries' mleft mlow mright mhigh mfirst mend mthrown')) args s 0 0 A) 39 [(0, .ref (ad 10)), (1, .int x1), (2, .int x2), (3, .int x3), (4, .int x4)] (.int t1 :: .ref (ad 10) :: []) (wM cT ad madded msides mkey misThere mboxes morder mlevels mnodes mentries mleft mlow mright mhigh mfirst mend mthrown) := by
  intro madded msides mkey misThere mboxes morder mlevels mnodes mentries mthrown x1 x2 x3 x4 t1 hf
  unfold f_X5_add_39 at hf
  obtain ⟨v2, hc, hf⟩ := jbd_s hf
  refine h_callV (pc := 39) (q0 := 0) (As := [.int t1]) (rest := []) (ws' := (wM cT ad madded msides mkey misThere mboxes morder mlevels mnodes mentries mleft mlow mright mhigh mfirst mend v2.2)) (st2 := .int v2.1 :: []) C (c_X5_fails l D cT ad n madded msides mkey misThere mboxes morder mlevels mnodes mentries mleft mlow mright mhigh mfirst mend mthrown t1 v2.1 v2.2 hc) (cwV 1 C.1.2.2.2.2 gX5_add_X5_fails rfl rfl rfl pv_X5_fails ⟨(Nat.le_of_ble_eq_true rfl), (Nat.le_of_ble_eq_true rfl)⟩) dX5_add_39 rfl rfl rfl rfl rfl (Nat.le_of_ble_eq_true rfl) ⟨rfl, rfl⟩ ⟨(Nat.le_of_ble_eq_true rfl), (Nat.le_of_ble_eq_true rfl)⟩ [0, 1, 2, 3, 4, 5, 6] [] [0, 1, 2, 3, 4, 5, 6] rfl rfl rfl rfl (by decide) rfl rfl rfl ?_
  clear hc
  refine h_if_eq (pc := 42) (tgt := 47) C dX5_add_42 (by decide) (fun q => ?_) (fun q => ?_)
  · replace hf := jif_t q hf
    clear q
    refine h_aload_n (pc := 47) C dX5_add_47 rfl 0 rfl ?_
    refine h_get (pc := 48) (ci := 3) (C0 := RX5) (T := TX5) (N := 16) C uX5_add_X5 rfl 0 rfl 1 (by decide) (List.mem_of_getElem? (i := 3) rfl) rfl rfl dX5_add_48 ?_
    refine h_iconst (pc := 51) C dX5_add_51 jc_4 ?_
    refine h_aload_n (pc := 52) C dX5_add_52 rfl 0 rfl ?_
    refine h_get (pc := 53) (ci := 3) (C0 := RX5) (T := TX5) (N := 16) C uX5_add_X5 rfl 0 rfl 0 (by decide) (List.mem_of_getElem? (i := 2) rfl) rfl rfl dX5_add_53 ?_
    refine h_imul (pc := 56) C dX5_add_56 ?_
    refine h_iload_n (pc := 57) C dX5_add_57 rfl 1 rfl ?_
    obtain ⟨hi, w3, hv, hf⟩ := jwr_s hf
    refine h_iast (pc := 58) (ws' := (wM cT ad madded w3 mkey misThere mboxes morder mlevels mnodes mentries mleft mlow mright mhigh mfirst mend v2.2)) C 1 0 rfl rfl hi hv rfl dX5_add_58 ?_
    clear hi hv
    refine h_aload_n (pc := 59) C dX5_add_59 rfl 0 rfl ?_
    refine h_get (pc := 60) (ci := 3) (C0 := RX5) (T := TX5) (N := 16) C uX5_add_X5 rfl 0 rfl 1 (by decide) (List.mem_of_getElem? (i := 3) rfl) rfl rfl dX5_add_60 ?_
    refine h_iconst (pc := 63) C dX5_add_63 jc_4 ?_
    refine h_aload_n (pc := 64) C dX5_add_64 rfl 0 rfl ?_
    refine h_get (pc := 65) (ci := 3) (C0 := RX5) (T := TX5) (N := 16) C uX5_add_X5 rfl 0 rfl 0 (by decide) (List.mem_of_getElem? (i := 2) rfl) rfl rfl dX5_add_65 ?_
    refine h_imul (pc := 68) C dX5_add_68 ?_
    refine h_iconst (pc := 69) C dX5_add_69 jc_1 ?_
    refine h_iadd (pc := 70) C dX5_add_70 ?_
    refine h_iload_n (pc := 71) C dX5_add_71 rfl 2 rfl ?_
    obtain ⟨hi, w4, hv, hf⟩ := jwr_s hf
    refine h_iast (pc := 72) (ws' := (wM cT ad madded w4 mkey misThere mboxes morder mlevels mnodes mentries mleft mlow mright mhigh mfirst mend v2.2)) C 1 0 rfl rfl hi hv rfl dX5_add_72 ?_
    clear hi hv
    refine h_aload_n (pc := 73) C dX5_add_73 rfl 0 rfl ?_
    refine h_get (pc := 74) (ci := 3) (C0 := RX5) (T := TX5) (N := 16) C uX5_add_X5 rfl 0 rfl 1 (by decide) (List.mem_of_getElem? (i := 3) rfl) rfl rfl dX5_add_74 ?_
    refine h_iconst (pc := 77) C dX5_add_77 jc_4 ?_
    refine h_aload_n (pc := 78) C dX5_add_78 rfl 0 rfl ?_
    refine h_get (pc := 79) (ci := 3) (C0 := RX5) (T := TX5) (N := 16) C uX5_add_X5 rfl 0 rfl 0 (by decide) (List.mem_of_getElem? (i := 2) rfl) rfl rfl dX5_add_79 ?_
    refine h_imul (pc := 82) C dX5_add_82 ?_
    refine h_iconst (pc := 83) C dX5_add_83 jc_2 ?_
    refine h_iadd (pc := 84) C dX5_add_84 ?_
    refine h_iload_n (pc := 85) C dX5_add_85 rfl 3 rfl ?_
    obtain ⟨hi, w5, hv, hf⟩ := jwr_s hf
    refine h_iast (pc := 86) (ws' := (wM cT ad madded w5 mkey misThere mboxes morder mlevels mnodes mentries mleft mlow mright mhigh mfirst mend v2.2)) C 1 0 rfl rfl hi hv rfl dX5_add_86 ?_
    clear hi hv
    refine h_aload_n (pc := 87) C dX5_add_87 rfl 0 rfl ?_
    refine h_get (pc := 88) (ci := 3) (C0 := RX5) (T := TX5) (N := 16) C uX5_add_X5 rfl 0 rfl 1 (by decide) (List.mem_of_getElem? (i := 3) rfl) rfl rfl dX5_add_88 ?_
    refine h_iconst (pc := 91) C dX5_add_91 jc_4 ?_
    refine h_aload_n (pc := 92) C dX5_add_92 rfl 0 rfl ?_
    refine h_get (pc := 93) (ci := 3) (C0 := RX5) (T := TX5) (N := 16) C uX5_add_X5 rfl 0 rfl 0 (by decide) (List.mem_of_getElem? (i := 2) rfl) rfl rfl dX5_add_93 ?_
    refine h_imul (pc := 96) C dX5_add_96 ?_
    refine h_iconst (pc := 97) C dX5_add_97 jc_3 ?_
    refine h_iadd (pc := 98) C dX5_add_98 ?_
    refine h_iload (pc := 99) C dX5_add_99 4 rfl ?_
    obtain ⟨hi, w6, hv, hf⟩ := jwr_s hf
    refine h_iast (pc := 101) (ws' := (wM cT ad madded w6 mkey misThere mboxes morder mlevels mnodes mentries mleft mlow mright mhigh mfirst mend v2.2)) C 1 0 rfl rfl hi hv rfl dX5_add_101 ?_
    clear hi hv
    refine h_aload_n (pc := 102) C dX5_add_102 rfl 0 rfl ?_
    refine h_get (pc := 103) (ci := 3) (C0 := RX5) (T := TX5) (N := 16) C uX5_add_X5 rfl 0 rfl 2 (by decide) (List.mem_of_getElem? (i := 4) rfl) rfl rfl dX5_add_103 ?_
    refine h_aload_n (pc := 106) C dX5_add_106 rfl 0 rfl ?_
    refine h_get (pc := 107) (ci := 3) (C0 := RX5) (T := TX5) (N := 16) C uX5_add_X5 rfl 0 rfl 0 (by decide) (List.mem_of_getElem? (i := 2) rfl) rfl rfl dX5_add_107 ?_
    refine h_iload_n (pc := 110) C dX5_add_110 rfl 1 rfl ?_
    refine h_iload_n (pc := 111) C dX5_add_111 rfl 3 rfl ?_
    refine h_iadd (pc := 112) C dX5_add_112 ?_
    refine h_iconst (pc := 113) C dX5_add_113 jc_2 ?_
    refine h_idiv (pc := 114) C dX5_add_114 (by decide) ?_
    refine h_iload_n (pc := 115) C dX5_add_115 rfl 2 rfl ?_
    refine h_iload (pc := 116) C dX5_add_116 4 rfl ?_
    refine h_iadd (pc := 118) C dX5_add_118 ?_
    refine h_iconst (pc := 119) C dX5_add_119 jc_2 ?_
    refine h_idiv (pc := 120) C dX5_add_120 (by decide) ?_
    obtain ⟨v7, hc, hf⟩ := jbd_s hf
    refine h_callP (pc := 121) (As := [.int ((x1 + x3) / 2), .int ((x2 + x4) / 2)]) (rest := .int madded :: .ref (ad 12) :: []) (st2 := .int v7 :: .int madded :: .ref (ad 12) :: []) C (c_X5_keyAt l D cT ad n ((x1 + x3) / 2) ((x2 + x4) / 2) v7 hc) (va_cwS 2 C.1.2.2.2.2 gX5_add_X5_keyAt rfl rfl rfl ps_X5_keyAt ⟨(Nat.le_of_ble_eq_true rfl), (Nat.le_of_ble_eq_true rfl)⟩) dX5_add_121 rfl rfl (Nat.le_of_ble_eq_true rfl) ⟨rfl, rfl⟩ ⟨(Nat.le_of_ble_eq_true rfl), (Nat.le_of_ble_eq_true rfl)⟩ rfl ?_
    clear hc
    obtain ⟨hi, w8, hv, hf⟩ := jwr_s hf
    refine h_iast (pc := 124) (ws' := (wM cT ad madded w6 w8 misThere mboxes morder mlevels mnodes mentries mleft mlow mright mhigh mfirst mend v2.2)) C 2 0 rfl rfl hi hv rfl dX5_add_124 ?_
    clear hi hv
    refine h_aload_n (pc := 125) C dX5_add_125 rfl 0 rfl ?_
    refine h_get (pc := 126) (ci := 3) (C0 := RX5) (T := TX5) (N := 16) C uX5_add_X5 rfl 0 rfl 3 (by decide) (List.mem_of_getElem? (i := 5) rfl) rfl rfl dX5_add_126 ?_
    refine h_aload_n (pc := 129) C dX5_add_129 rfl 0 rfl ?_
    refine h_get (pc := 130) (ci := 3) (C0 := RX5) (T := TX5) (N := 16) C uX5_add_X5 rfl 0 rfl 0 (by decide) (List.mem_of_getElem? (i := 2) rfl) rfl rfl dX5_add_130 ?_
    refine h_iconst (pc := 133) C dX5_add_133 jc_1 ?_
    obtain ⟨hi, w9, hv, hf⟩ := jwr_s hf
    refine h_zast (pc := 134) (ws' := (wM cT ad madded w6 w8 w9 mboxes morder mlevels mnodes mentries mleft mlow mright mhigh mfirst mend v2.2)) C 3 1 rfl rfl hi rfl hv rfl dX5_add_134 ?_
    clear hi hv
    refine h_iconst (pc := 135) C dX5_add_135 jc_0 ?_
    refine h_istore (pc := 136) (lv' := [(5, .int 0), (0, .ref (ad 10)), (1, .int x1), (2, .int x2), (3, .int x3), (4, .int x4)]) C dX5_add_136 (by decide) rfl ?_
    refine h_sub [1, 0] rfl ?_
    exact k_X5_add_138 l D cT ad C hr n mleft mlow mright mhigh mfirst mend r madded' msides' mkey' misThere' mboxes' morder' mlevels' mnodes' mentries' mthrown' n madded w6 w8 w9 mboxes morder mlevels mnodes mentries v2.2 0 hf
  · replace hf := jif_f q hf
    clear q
    refine h_iconst (pc := 45) C dX5_add_45 jc_0 ?_
    have g0 := (Prod.mk.inj (Option.some.inj hf)).1
    have g1 := (Prod.mk.inj (Prod.mk.inj (Option.some.inj hf)).2).1
    have g2 := (Prod.mk.inj (Prod.mk.inj (Prod.mk.inj (Option.some.inj hf)).2).2).1
    have g3 := (Prod.mk.inj (Prod.mk.inj (Prod.mk.inj (Prod.mk.inj (Option.some.inj hf)).2).2).2).1
    have g4 := (Prod.mk.inj (Prod.mk.inj (Prod.mk.inj (Prod.mk.inj (Prod.mk.inj (Option.some.inj hf)).2).2).2).2).1
    have g5 := (Prod.mk.inj (Prod.mk.inj (Prod.mk.inj (Prod.mk.inj (Prod.mk.inj (Prod.mk.inj (Option.some.inj hf)).2).2).2).2).2).1
    have g6 := (Prod.mk.inj (Prod.mk.inj (Prod.mk.inj (Prod.mk.inj (Prod.mk.inj (Prod.mk.inj (Prod.mk.inj (Option.some.inj hf)).2).2).2).2).2).2).1
    have g7 := (Prod.mk.inj (Prod.mk.inj (Prod.mk.inj (Prod.mk.inj (Prod.mk.inj (Prod.mk.inj (Prod.mk.inj (Prod.mk.inj (Option.some.inj hf)).2).2).2).2).2).2).2).1
    have g8 := (Prod.mk.inj (Prod.mk.inj (Prod.mk.inj (Prod.mk.inj (Prod.mk.inj (Prod.mk.inj (Prod.mk.inj (Prod.mk.inj (Prod.mk.inj (Option.some.inj hf)).2).2).2).2).2).2).2).2).1
    have g9 := (Prod.mk.inj (Prod.mk.inj (Prod.mk.inj (Prod.mk.inj (Prod.mk.inj (Prod.mk.inj (Prod.mk.inj (Prod.mk.inj (Prod.mk.inj (Prod.mk.inj (Option.some.inj hf)).2).2).2).2).2).2).2).2).2).1
    have g10 := (Prod.mk.inj (Prod.mk.inj (Prod.mk.inj (Prod.mk.inj (Prod.mk.inj (Prod.mk.inj (Prod.mk.inj (Prod.mk.inj (Prod.mk.inj (Prod.mk.inj (Option.some.inj hf)).2).2).2).2).2).2).2).2).2).2
    clear hf
    subst g0
    subst g1
    subst g2
    subst g3
    subst g4
    subst g5
    subst g6
    subst g7
    subst g8
    subst g9
    subst g10
    exact h_iret C hr dX5_add_46
set_option maxRecDepth 100000 in
set_option maxHeartbeats 4000000 in
theorem k_X5_add_34 {p : Program} {e : Env} {s : State} {m : MethodId} {args : Array Value} {below : List Frame} {meth : Method} {c : Code} {A : Nat → Prop} (l : Launch) (D : va_G) (cT : Nat → ClassId) (ad : Nat → Nat) (C : hC p s m args meth c cX5_add 8 wsX5_add RX5 D (ty4 cT) A) (hr : meth.sig.returnType = (some .int)) (n : Nat) (mleft : Int32) (mlow : Int32) (mright : Int32) (mhigh : Int32) (mfirst : Int32) (mend : Int32) (r : Int32) (madded' : Int32) (msides' : Nat → Int32) (mkey' : Nat → Int32) (misThere' : Nat → Int32) (mboxes' : Int32) (morder' : Nat → Int32) (mlevels' : Int32) (mnodes' : Nat → Int32) (mentries' : Nat → Int32) (mthrown' : Int32)  : ∀ (madded : Int32) (msides : Nat → Int32) (mkey : Nat → Int32) (misThere : Nat → Int32) (mboxes : Int32) (morder : Nat → Int32) (mlevels : Int32) (mnodes : Nat → Int32) (mentries : Nat → Int32) (mthrown : Int32) (x1 : Int32) (x2 : Int32) (x3 : Int32) (x4 : Int32), f_X5_add_34 n madded msides mkey misThere mboxes morder mlevels mnodes mentries mthrown x1 x2 x3 x4 = some (r, madded', msides', mkey', misThere', mboxes', morder', mlevels', mnodes', mentries', mthrown') → hS p l e rmX5_add s m args below meth c 8 D A 0 0 (MQ below (cQ D (ty4 cT) A (some (.int r)) (wM cT ad madded' msides' mkey' misThere' mboxes' morder' mlevels' mnodes' mentries' mleft mlow mright mhigh mfirst mend mthrown')) args s 0 0 A) 34 [(0, .ref (ad 10)), (1, .int x1), (2, .int x2), (3, .int x3), (4, .int x4)] (.ref (ad 10) :: []) (wM cT ad madded msides mkey misThere mboxes morder mlevels mnodes mentries mleft mlow mright mhigh mfirst mend mthrown) := by
  intro madded msides mkey misThere mboxes morder mlevels mnodes mentries mthrown x1 x2 x3 x4 hf
  unfold f_X5_add_34 at hf
  refine h_iconst (pc := 34) C dX5_add_34 jc_2 ?_
  refine h_goto (pc := 35) (tgt := 39) C dX5_add_35 (by decide) ?_
  exact k_X5_add_39 l D cT ad C hr n mleft mlow mright mhigh mfirst mend r madded' msides' mkey' misThere' mboxes' morder' mlevels' mnodes' mentries' mthrown' madded msides mkey misThere mboxes morder mlevels mnodes mentries mthrown x1 x2 x3 x4 2 hf
set_option maxRecDepth 100000 in
set_option maxHeartbeats 4000000 in
theorem c_X5_add (l : Launch) (D : va_G) (cT : Nat → ClassId) (ad : Nat → Nat) (n : Nat) (madded : Int32) (msides : Nat → Int32) (mkey : Nat → Int32) (misThere : Nat → Int32) (mboxes : Int32) (morder : Nat → Int32) (mlevels : Int32) (mnodes : Nat → Int32) (mentries : Nat → Int32) (mleft : Int32) (mlow : Int32) (mright : Int32) (mhigh : Int32) (mfirst : Int32) (mend : Int32) (mthrown : Int32) (a1 : Int32) (a2 : Int32) (a3 : Int32) (a4 : Int32) (r : Int32) (madded' : Int32) (msides' : Nat → Int32) (mkey' : Nat → Int32) (misThere' : Nat → Int32) (mboxes' : Int32) (morder' : Nat → Int32) (mlevels' : Int32) (mnodes' : Nat → Int32) (mentries' : Nat → Int32) (mthrown' : Int32) (hf : f_X5_add n madded msides mkey misThere mboxes morder mlevels mnodes mentries mthrown a1 a2 a3 a4 = some (r, madded', msides', mkey', misThere', mboxes', morder', mlevels', mnodes', mentries', mthrown')) : cM l yX5_add wsX5_add rmX5_add D (ty4 cT) [.ref (ad 10), .int a1, .int a2, .int a3, .int a4] (wM cT ad madded msides mkey misThere mboxes morder mlevels mnodes mentries mleft mlow mright mhigh mfirst mend mthrown) (some (.int r)) (wM cT ad madded' msides' mkey' misThere' mboxes' morder' mlevels' mnodes' mentries' mleft mlow mright mhigh mfirst mend mthrown') := by
  refine cM_of (cc := cX5_add) (maxL := 8) (ret := (some .int)) (own := RX5) (lv := [(0, .ref (ad 10)), (1, .int a1), (2, .int a2), (3, .int a3), (4, .int a4)]) (by decide) rfl (Nat.le_of_ble_eq_true rfl) rfl rfl ?_
  intro p e s m args below meth c A C hr
  unfold f_X5_add at hf
  refine h_aload_n (pc := 0) C dX5_add_0 rfl 0 rfl ?_
  refine h_iload_n (pc := 1) C dX5_add_1 rfl 1 rfl ?_
  refine h_iload_n (pc := 2) C dX5_add_2 rfl 2 rfl ?_
  refine h_iload_n (pc := 3) C dX5_add_3 rfl 3 rfl ?_
  refine h_iload (pc := 4) C dX5_add_4 4 rfl ?_
  obtain ⟨v1, hc, hf⟩ := jbd_s hf
  refine h_callP (pc := 6) (As := [.int a1, .int a2, .int a3, .int a4]) (rest := .ref (ad 10) :: []) (st2 := .int v1 :: .ref (ad 10) :: []) C (c_X5_isArea l D cT ad n a1 a2 a3 a4 v1 hc) (va_cwS 4 C.1.2.2.2.2 gX5_add_X5_isArea rfl rfl rfl ps_X5_isArea ⟨(Nat.le_of_ble_eq_true rfl), (Nat.le_of_ble_eq_true rfl)⟩) dX5_add_6 rfl rfl (Nat.le_of_ble_eq_true rfl) ⟨rfl, rfl⟩ ⟨(Nat.le_of_ble_eq_true rfl), (Nat.le_of_ble_eq_true rfl)⟩ rfl ?_
  clear hc
  refine h_if_ne (pc := 9) (tgt := 16) C dX5_add_9 (by decide) (fun q => ?_) (fun q => ?_)
  · replace hf := jif_f q hf
    clear q
    refine h_aload_n (pc := 16) C dX5_add_16 rfl 0 rfl ?_
    refine h_get (pc := 17) (ci := 3) (C0 := RX5) (T := TX5) (N := 16) C uX5_add_X5 rfl 0 rfl 4 (by decide) (List.mem_of_getElem? (i := 1) rfl) rfl rfl dX5_add_17 ?_
    refine h_bipush (pc := 20) C dX5_add_20 jb_60 ?_
    refine h_icmp_eq (pc := 22) (tgt := 34) C dX5_add_22 (by decide) (fun q => ?_) (fun q => ?_)
    · replace hf := jif_t q hf
      clear q
      exact k_X5_add_34 l D cT ad C hr n mleft mlow mright mhigh mfirst mend r madded' msides' mkey' misThere' mboxes' morder' mlevels' mnodes' mentries' mthrown' madded msides mkey misThere mboxes morder mlevels mnodes mentries mthrown a1 a2 a3 a4 hf
    · replace hf := jif_f q hf
      clear q
      refine h_aload_n (pc := 25) C dX5_add_25 rfl 0 rfl ?_
      refine h_get (pc := 26) (ci := 3) (C0 := RX5) (T := TX5) (N := 16) C uX5_add_X5 rfl 0 rfl 0 (by decide) (List.mem_of_getElem? (i := 2) rfl) rfl rfl dX5_add_26 ?_
      refine h_bipush (pc := 29) C dX5_add_29 jb_100 ?_
      refine h_icmp_ne (pc := 31) (tgt := 38) C dX5_add_31 (by decide) (fun q => ?_) (fun q => ?_)
      · replace hf := jif_f q hf
        clear q
        refine h_iconst (pc := 38) C dX5_add_38 jc_0 ?_
        exact k_X5_add_39 l D cT ad C hr n mleft mlow mright mhigh mfirst mend r madded' msides' mkey' misThere' mboxes' morder' mlevels' mnodes' mentries' mthrown' madded msides mkey misThere mboxes morder mlevels mnodes mentries mthrown a1 a2 a3 a4 0 hf
      · replace hf := jif_t q hf
        clear q
        exact k_X5_add_34 l D cT ad C hr n mleft mlow mright mhigh mfirst mend r madded' msides' mkey' misThere' mboxes' morder' mlevels' mnodes' mentries' mthrown' madded msides mkey misThere mboxes morder mlevels mnodes mentries mthrown a1 a2 a3 a4 hf
  · replace hf := jif_t q hf
    clear q
    refine h_iconst (pc := 12) C dX5_add_12 jc_1 ?_
    refine h_goto (pc := 13) (tgt := 39) C dX5_add_13 (by decide) ?_
    exact k_X5_add_39 l D cT ad C hr n mleft mlow mright mhigh mfirst mend r madded' msides' mkey' misThere' mboxes' morder' mlevels' mnodes' mentries' mthrown' madded msides mkey misThere mboxes morder mlevels mnodes mentries mthrown a1 a2 a3 a4 1 hf
theorem pv_X5_add : yX5_add.cls = RX5 ∧ yX5_add.cls ≠ "java/lang/invoke/MethodHandle" ∧ yX5_add.cls ≠ "java/lang/invoke/VarHandle" ∧ (parseMethodDescriptor yX5_add.desc).map (fun d => d.parameters.length) = some 4 := by decide +kernel
abbrev rmX5_placeOf : Room := { frames := 0, cells := 0, slots := 0, locals := 0 }
theorem uX5_placeOf_X5 : ∀ w ∈ u_ws RX5 TX5 16, w ∈ wsX5_placeOf := fun w h => List.mem_cons_of_mem _ (List.mem_append_right _ h)
set_option maxRecDepth 100000 in
set_option maxHeartbeats 4000000 in
theorem k_X5_placeOf_2 {p : Program} {e : Env} {s : State} {m : MethodId} {args : Array Value} {below : List Frame} {meth : Method} {c : Code} {A : Nat → Prop} (l : Launch) (D : va_G) (cT : Nat → ClassId) (ad : Nat → Nat) (C : hC p s m args meth c cX5_placeOf 3 wsX5_placeOf RX5 D (ty4 cT) A) (hr : meth.sig.returnType = (some .int)) (n : Nat) (madded : Int32) (msides : Nat → Int32) (mkey : Nat → Int32) (misThere : Nat → Int32) (mboxes : Int32) (morder : Nat → Int32) (mlevels : Int32) (mnodes : Nat → Int32) (mentries : Nat → Int32) (mleft : Int32) (mlow : Int32) (mright : Int32) (mhigh : Int32) (mfirst : Int32) (mend : Int32) (mthrown : Int32) (r : Int32)  : ∀ (fu : Nat)  (x1 : Int32) (x2 : Int32), f_X5_placeOf_2 n morder fu x1 x2 = some r → hS p l e rmX5_placeOf s m args below meth c 3 D A 0 0 (MQ below (cQ D (ty4 cT) A (some (.int r)) (wM cT ad madded msides mkey misThere mboxes morder mlevels mnodes mentries mleft mlow mright mhigh mfirst mend mthrown)) args s 0 0 A) 2 [(0, .ref (ad 10)), (1, .int x1), (2, .int x2)] [] (wM cT ad madded msides mkey misThere mboxes morder mlevels mnodes mentries mleft mlow mright mhigh mfirst mend mthrown) := by
  intro fu
  induction fu with
  | zero =>
    intro x1 x2 hf
    exact nomatch (show (none : Option (Int32)) = some r from hf)
  | succ fu ih =>
    intro x1 x2 hf
    rw [f_X5_placeOf_2] at hf
    refine h_aload_n (pc := 2) C dX5_placeOf_2 rfl 0 rfl ?_
    refine h_get (pc := 3) (ci := 3) (C0 := RX5) (T := TX5) (N := 16) C uX5_placeOf_X5 rfl 0 rfl 5 (by decide) (List.mem_of_getElem? (i := 1) rfl) rfl rfl dX5_placeOf_3 ?_
    refine h_iload_n (pc := 6) C dX5_placeOf_6 rfl 2 rfl ?_
    obtain ⟨hi, v1, hv, hf⟩ := jrd_s hf
    refine h_iald (pc := 7) C 4 0 rfl rfl hi hv dX5_placeOf_7 ?_
    clear hi hv
    refine h_iload_n (pc := 8) C dX5_placeOf_8 rfl 1 rfl ?_
    refine h_icmp_eq (pc := 9) (tgt := 18) C dX5_placeOf_9 (by decide) (fun q => ?_) (fun q => ?_)
    · replace hf := jif_t q hf
      clear q
      refine h_iload_n (pc := 18) C dX5_placeOf_18 rfl 2 rfl ?_
      have g0 := (Option.some.inj hf)
      clear hf
      subst g0
      exact h_iret C hr dX5_placeOf_19
    · replace hf := jif_f q hf
      clear q
      refine h_iinc (pc := 12) (v := x2 + 1) (lv' := [(2, .int (x2 + 1)), (0, .ref (ad 10)), (1, .int x1)]) C dX5_placeOf_12 2 rfl (ji_1 _) (by decide) rfl ?_
      refine h_goto (pc := 15) (tgt := 2) C dX5_placeOf_15 (by decide) ?_
      refine h_sub [1, 2, 0] rfl ?_
      exact ih x1 (x2 + 1) hf
set_option maxRecDepth 100000 in
set_option maxHeartbeats 4000000 in
theorem c_X5_placeOf (l : Launch) (D : va_G) (cT : Nat → ClassId) (ad : Nat → Nat) (n : Nat) (madded : Int32) (msides : Nat → Int32) (mkey : Nat → Int32) (misThere : Nat → Int32) (mboxes : Int32) (morder : Nat → Int32) (mlevels : Int32) (mnodes : Nat → Int32) (mentries : Nat → Int32) (mleft : Int32) (mlow : Int32) (mright : Int32) (mhigh : Int32) (mfirst : Int32) (mend : Int32) (mthrown : Int32) (a1 : Int32) (r : Int32) (hf : f_X5_placeOf n morder a1 = some r) : cM l yX5_placeOf wsX5_placeOf rmX5_placeOf D (ty4 cT) [.ref (ad 10), .int a1] (wM cT ad madded msides mkey misThere mboxes morder mlevels mnodes mentries mleft mlow mright mhigh mfirst mend mthrown) (some (.int r)) (wM cT ad madded msides mkey misThere mboxes morder mlevels mnodes mentries mleft mlow mright mhigh mfirst mend mthrown) := by
  refine cM_of (cc := cX5_placeOf) (maxL := 3) (ret := (some .int)) (own := RX5) (lv := [(0, .ref (ad 10)), (1, .int a1)]) (by decide) rfl (Nat.le_of_ble_eq_true rfl) rfl rfl ?_
  intro p e s m args below meth c A C hr
  unfold f_X5_placeOf at hf
  refine h_iconst (pc := 0) C dX5_placeOf_0 jc_0 ?_
  refine h_istore_n (pc := 1) (lv' := [(2, .int 0), (0, .ref (ad 10)), (1, .int a1)]) C dX5_placeOf_1 rfl (by decide) rfl ?_
  refine h_sub [1, 2, 0] rfl ?_
  exact k_X5_placeOf_2 l D cT ad C hr n madded msides mkey misThere mboxes morder mlevels mnodes mentries mleft mlow mright mhigh mfirst mend mthrown r n a1 0 hf
theorem pv_X5_placeOf : yX5_placeOf.cls = RX5 ∧ yX5_placeOf.cls ≠ "java/lang/invoke/MethodHandle" ∧ yX5_placeOf.cls ≠ "java/lang/invoke/VarHandle" ∧ (parseMethodDescriptor yX5_placeOf.desc).map (fun d => d.parameters.length) = some 1 := by decide +kernel
abbrev rmX5_remove : Room := { frames := 5, cells := 0, slots := 0, locals := 122 }
theorem uX5_remove_X5 : ∀ w ∈ u_ws RX5 TX5 16, w ∈ wsX5_remove := fun w h => List.mem_cons_of_mem _ (List.mem_append_right _ h)
set_option maxRecDepth 100000 in
set_option maxHeartbeats 4000000 in
theorem k_X5_remove_54 {p : Program} {e : Env} {s : State} {m : MethodId} {args : Array Value} {below : List Frame} {meth : Method} {c : Code} {A : Nat → Prop} (l : Launch) (D : va_G) (cT : Nat → ClassId) (ad : Nat → Nat) (C : hC p s m args meth c cX5_remove 5 wsX5_remove RX5 D (ty4 cT) A) (hr : meth.sig.returnType = (some .int)) (n : Nat) (madded : Int32) (msides : Nat → Int32) (mkey : Nat → Int32) (mleft : Int32) (mlow : Int32) (mright : Int32) (mhigh : Int32) (mfirst : Int32) (mend : Int32) (r : Int32) (misThere' : Nat → Int32) (mboxes' : Int32) (morder' : Nat → Int32) (mlevels' : Int32) (mnodes' : Nat → Int32) (mentries' : Nat → Int32) (mthrown' : Int32)  : ∀ (fu : Nat) (misThere : Nat → Int32) (mboxes : Int32) (morder : Nat → Int32) (mlevels : Int32) (mnodes : Nat → Int32) (mentries : Nat → Int32) (mthrown : Int32) (x3 : Int32) (x4 : Int32), f_X5_remove_54 n madded fu misThere mboxes morder mlevels mnodes mentries mthrown x3 x4 = some (r, misThere', mboxes', morder', mlevels', mnodes', mentries', mthrown') → hS p l e rmX5_remove s m args below meth c 5 D A 0 0 (MQ below (cQ D (ty4 cT) A (some (.int r)) (wM cT ad madded msides mkey misThere' mboxes' morder' mlevels' mnodes' mentries' mleft mlow mright mhigh mfirst mend mthrown')) args s 0 0 A) 54 [(0, .ref (ad 10)), (3, .int x3), (4, .int x4)] [] (wM cT ad madded msides mkey misThere mboxes morder mlevels mnodes mentries mleft mlow mright mhigh mfirst mend mthrown) := by
  intro fu
  induction fu with
  | zero =>
    intro misThere mboxes morder mlevels mnodes mentries mthrown x3 x4 hf
    exact nomatch (show (none : Option (Int32 × (Nat → Int32) × Int32 × (Nat → Int32) × Int32 × (Nat → Int32) × (Nat → Int32) × Int32)) = some (r, misThere', mboxes', morder', mlevels', mnodes', mentries', mthrown') from hf)
  | succ fu ih =>
    intro misThere mboxes morder mlevels mnodes mentries mthrown x3 x4 hf
    rw [f_X5_remove_54] at hf
    refine h_iload (pc := 54) C dX5_remove_54 2 rfl ?_
    refine h_aload_n (pc := 56) C dX5_remove_56 rfl 0 rfl ?_
    refine h_get (pc := 57) (ci := 3) (C0 := RX5) (T := TX5) (N := 16) C uX5_remove_X5 rfl 0 rfl 4 (by decide) (List.mem_of_getElem? (i := 2) rfl) rfl rfl dX5_remove_57 ?_
    refine h_icmp_ge (pc := 60) (tgt := 85) C dX5_remove_60 (by decide) (fun q => ?_) (fun q => ?_)
    · replace hf := jif_t q hf
      clear q
      refine h_aload_n (pc := 85) C dX5_remove_85 rfl 0 rfl ?_
      refine h_iload_n (pc := 86) C dX5_remove_86 rfl 1 rfl ?_
      obtain ⟨v6, hc, hf⟩ := jbd_s hf
      refine h_callV (pc := 87) (q0 := 0) (As := [.int x3]) (rest := []) (ws' := (wM cT ad madded msides mkey misThere mboxes morder v6.1 v6.2.1 v6.2.2 mleft mlow mright mhigh mfirst mend mthrown)) (st2 := []) C (c_X5_shrinks l D cT ad n madded msides mkey misThere mboxes morder mlevels mnodes mentries mleft mlow mright mhigh mfirst mend mthrown x3 v6.1 v6.2.1 v6.2.2 hc) (cwV 1 C.1.2.2.2.2 gX5_remove_X5_shrinks rfl rfl rfl pv_X5_shrinks ⟨(Nat.le_of_ble_eq_true rfl), (Nat.le_of_ble_eq_true rfl)⟩) dX5_remove_87 rfl rfl rfl rfl rfl (Nat.le_of_ble_eq_true rfl) ⟨rfl, rfl⟩ ⟨(Nat.le_of_ble_eq_true rfl), (Nat.le_of_ble_eq_true rfl)⟩ [0, 1, 2, 3, 4, 5, 6] [] [0, 1, 2, 3, 4, 5, 6] rfl rfl rfl rfl (by decide) rfl rfl rfl ?_
      clear hc
      refine h_aload_n (pc := 90) C dX5_remove_90 rfl 0 rfl ?_
      refine h_get (pc := 91) (ci := 3) (C0 := RX5) (T := TX5) (N := 16) C uX5_remove_X5 rfl 0 rfl 4 (by decide) (List.mem_of_getElem? (i := 2) rfl) rfl rfl dX5_remove_91 ?_
      have g0 := (Prod.mk.inj (Option.some.inj hf)).1
      have g1 := (Prod.mk.inj (Prod.mk.inj (Option.some.inj hf)).2).1
      have g2 := (Prod.mk.inj (Prod.mk.inj (Prod.mk.inj (Option.some.inj hf)).2).2).1
      have g3 := (Prod.mk.inj (Prod.mk.inj (Prod.mk.inj (Prod.mk.inj (Option.some.inj hf)).2).2).2).1
      have g4 := (Prod.mk.inj (Prod.mk.inj (Prod.mk.inj (Prod.mk.inj (Prod.mk.inj (Option.some.inj hf)).2).2).2).2).1
      have g5 := (Prod.mk.inj (Prod.mk.inj (Prod.mk.inj (Prod.mk.inj (Prod.mk.inj (Prod.mk.inj (Option.some.inj hf)).2).2).2).2).2).1
      have g6 := (Prod.mk.inj (Prod.mk.inj (Prod.mk.inj (Prod.mk.inj (Prod.mk.inj (Prod.mk.inj (Prod.mk.inj (Option.some.inj hf)).2).2).2).2).2).2).1
      have g7 := (Prod.mk.inj (Prod.mk.inj (Prod.mk.inj (Prod.mk.inj (Prod.mk.inj (Prod.mk.inj (Prod.mk.inj (Option.some.inj hf)).2).2).2).2).2).2).2
      clear hf
      subst g0
      subst g1
      subst g2
      subst g3
      subst g4
      subst g5
      subst g6
      subst g7
      exact h_iret C hr dX5_remove_94
    · replace hf := jif_f q hf
      clear q
      refine h_aload_n (pc := 63) C dX5_remove_63 rfl 0 rfl ?_
      refine h_get (pc := 64) (ci := 3) (C0 := RX5) (T := TX5) (N := 16) C uX5_remove_X5 rfl 0 rfl 5 (by decide) (List.mem_of_getElem? (i := 3) rfl) rfl rfl dX5_remove_64 ?_
      refine h_iload (pc := 67) C dX5_remove_67 2 rfl ?_
      refine h_aload_n (pc := 69) C dX5_remove_69 rfl 0 rfl ?_
      refine h_get (pc := 70) (ci := 3) (C0 := RX5) (T := TX5) (N := 16) C uX5_remove_X5 rfl 0 rfl 5 (by decide) (List.mem_of_getElem? (i := 3) rfl) rfl rfl dX5_remove_70 ?_
      refine h_iload (pc := 73) C dX5_remove_73 2 rfl ?_
      refine h_iconst (pc := 75) C dX5_remove_75 jc_1 ?_
      refine h_iadd (pc := 76) C dX5_remove_76 ?_
      obtain ⟨hi, v7, hv, hf⟩ := jrd_s hf
      refine h_iald (pc := 77) C 4 0 rfl rfl hi hv dX5_remove_77 ?_
      clear hi hv
      obtain ⟨hi, w8, hv, hf⟩ := jwr_s hf
      refine h_iast (pc := 78) (ws' := (wM cT ad madded msides mkey misThere mboxes w8 mlevels mnodes mentries mleft mlow mright mhigh mfirst mend mthrown)) C 4 0 rfl rfl hi hv rfl dX5_remove_78 ?_
      clear hi hv
      refine h_iinc (pc := 79) (v := x4 + 1) (lv' := [(4, .int (x4 + 1)), (0, .ref (ad 10)), (3, .int x3)]) C dX5_remove_79 2 rfl (ji_1 _) (by decide) rfl ?_
      refine h_goto (pc := 82) (tgt := 54) C dX5_remove_82 (by decide) ?_
      refine h_sub [1, 2, 0] rfl ?_
      exact ih misThere mboxes w8 mlevels mnodes mentries mthrown x3 (x4 + 1) hf
set_option maxRecDepth 100000 in
set_option maxHeartbeats 4000000 in
theorem k_X5_remove_14 {p : Program} {e : Env} {s : State} {m : MethodId} {args : Array Value} {below : List Frame} {meth : Method} {c : Code} {A : Nat → Prop} (l : Launch) (D : va_G) (cT : Nat → ClassId) (ad : Nat → Nat) (C : hC p s m args meth c cX5_remove 5 wsX5_remove RX5 D (ty4 cT) A) (hr : meth.sig.returnType = (some .int)) (n : Nat) (madded : Int32) (msides : Nat → Int32) (mkey : Nat → Int32) (mleft : Int32) (mlow : Int32) (mright : Int32) (mhigh : Int32) (mfirst : Int32) (mend : Int32) (r : Int32) (misThere' : Nat → Int32) (mboxes' : Int32) (morder' : Nat → Int32) (mlevels' : Int32) (mnodes' : Nat → Int32) (mentries' : Nat → Int32) (mthrown' : Int32)  : ∀ (misThere : Nat → Int32) (mboxes : Int32) (morder : Nat → Int32) (mlevels : Int32) (mnodes : Nat → Int32) (mentries : Nat → Int32) (mthrown : Int32) (x1 : Int32) (t1 : Int32), f_X5_remove_14 n madded misThere mboxes morder mlevels mnodes mentries mthrown x1 t1 = some (r, misThere', mboxes', morder', mlevels', mnodes', mentries', mthrown') → hS p l e rmX5_remove s m args below meth c 5 D A 0 0 (MQ below (cQ D (ty4 cT) A (some (.int r)) (wM cT ad madded msides mkey misThere' mboxes' morder' mlevels' mnodes' mentries' mleft mlow mright mhigh mfirst mend mthrown')) args s 0 0 A) 14 [(0, .ref (ad 10)), (1, .int x1)] (.int t1 :: .ref (ad 10) :: []) (wM cT ad madded msides mkey misThere mboxes morder mlevels mnodes mentries mleft mlow mright mhigh mfirst mend mthrown) := by
  intro misThere mboxes morder mlevels mnodes mentries mthrown x1 t1 hf
  unfold f_X5_remove_14 at hf
  obtain ⟨v2, hc, hf⟩ := jbd_s hf
  refine h_callV (pc := 14) (q0 := 0) (As := [.int t1]) (rest := []) (ws' := (wM cT ad madded msides mkey misThere mboxes morder mlevels mnodes mentries mleft mlow mright mhigh mfirst mend v2.2)) (st2 := .int v2.1 :: []) C (c_X5_fails l D cT ad n madded msides mkey misThere mboxes morder mlevels mnodes mentries mleft mlow mright mhigh mfirst mend mthrown t1 v2.1 v2.2 hc) (cwV 1 C.1.2.2.2.2 gX5_remove_X5_fails rfl rfl rfl pv_X5_fails ⟨(Nat.le_of_ble_eq_true rfl), (Nat.le_of_ble_eq_true rfl)⟩) dX5_remove_14 rfl rfl rfl rfl rfl (Nat.le_of_ble_eq_true rfl) ⟨rfl, rfl⟩ ⟨(Nat.le_of_ble_eq_true rfl), (Nat.le_of_ble_eq_true rfl)⟩ [0, 1, 2, 3, 4, 5, 6] [] [0, 1, 2, 3, 4, 5, 6] rfl rfl rfl rfl (by decide) rfl rfl rfl ?_
  clear hc
  refine h_if_eq (pc := 17) (tgt := 22) C dX5_remove_17 (by decide) (fun q => ?_) (fun q => ?_)
  · replace hf := jif_t q hf
    clear q
    refine h_aload_n (pc := 22) C dX5_remove_22 rfl 0 rfl ?_
    refine h_iload_n (pc := 23) C dX5_remove_23 rfl 1 rfl ?_
    obtain ⟨v3, hc, hf⟩ := jbd_s hf
    refine h_callV (pc := 24) (q0 := 0) (As := [.int x1]) (rest := []) (ws' := (wM cT ad madded msides mkey misThere mboxes morder mlevels mnodes mentries mleft mlow mright mhigh mfirst mend v2.2)) (st2 := .int v3 :: []) C (c_X5_placeOf l D cT ad n madded msides mkey misThere mboxes morder mlevels mnodes mentries mleft mlow mright mhigh mfirst mend v2.2 x1 v3 hc) (cwV 1 C.1.2.2.2.2 gX5_remove_X5_placeOf rfl rfl rfl pv_X5_placeOf ⟨(Nat.le_of_ble_eq_true rfl), (Nat.le_of_ble_eq_true rfl)⟩) dX5_remove_24 rfl rfl rfl rfl rfl (Nat.le_of_ble_eq_true rfl) ⟨rfl, rfl⟩ ⟨(Nat.le_of_ble_eq_true rfl), (Nat.le_of_ble_eq_true rfl)⟩ [0, 1, 2, 3, 4, 5, 6] [] [0, 1, 2, 3, 4, 5, 6] rfl rfl rfl rfl (by decide) rfl rfl rfl ?_
    clear hc
    refine h_istore_n (pc := 27) (lv' := [(2, .int v3), (0, .ref (ad 10)), (1, .int x1)]) C dX5_remove_27 rfl (by decide) rfl ?_
    refine h_aload_n (pc := 28) C dX5_remove_28 rfl 1 rfl ?_
    refine h_iload_n (pc := 29) C dX5_remove_29 rfl 0 rfl ?_
    obtain ⟨v4, hc, hf⟩ := jbd_s hf
    refine h_callV (pc := 30) (q0 := 0) (As := [.int v3]) (rest := []) (ws' := (wM cT ad madded msides mkey misThere mboxes morder mlevels mnodes mentries mleft mlow mright mhigh mfirst mend v2.2)) (st2 := .int v4 :: []) C (c_X5_leafFor l D cT ad n madded msides mkey misThere mboxes morder mlevels mnodes mentries mleft mlow mright mhigh mfirst mend v2.2 v3 v4 hc) (cwV 1 C.1.2.2.2.2 gX5_remove_X5_leafFor rfl rfl rfl pv_X5_leafFor ⟨(Nat.le_of_ble_eq_true rfl), (Nat.le_of_ble_eq_true rfl)⟩) dX5_remove_30 rfl rfl rfl rfl rfl (Nat.le_of_ble_eq_true rfl) ⟨rfl, rfl⟩ ⟨(Nat.le_of_ble_eq_true rfl), (Nat.le_of_ble_eq_true rfl)⟩ [0, 1, 2, 3, 4, 5, 6] [] [0, 1, 2, 3, 4, 5, 6] rfl rfl rfl rfl (by decide) rfl rfl rfl ?_
    clear hc
    refine h_istore_n (pc := 33) (lv' := [(3, .int v4), (2, .int v3), (0, .ref (ad 10)), (1, .int x1)]) C dX5_remove_33 rfl (by decide) rfl ?_
    refine h_aload_n (pc := 34) C dX5_remove_34 rfl 2 rfl ?_
    refine h_get (pc := 35) (ci := 3) (C0 := RX5) (T := TX5) (N := 16) C uX5_remove_X5 rfl 0 rfl 3 (by decide) (List.mem_of_getElem? (i := 1) rfl) rfl rfl dX5_remove_35 ?_
    refine h_iload_n (pc := 38) C dX5_remove_38 rfl 3 rfl ?_
    refine h_iconst (pc := 39) C dX5_remove_39 jc_0 ?_
    obtain ⟨hi, w5, hv, hf⟩ := jwr_s hf
    refine h_zast (pc := 40) (ws' := (wM cT ad madded msides mkey w5 mboxes morder mlevels mnodes mentries mleft mlow mright mhigh mfirst mend v2.2)) C 3 1 rfl rfl hi rfl hv rfl dX5_remove_40 ?_
    clear hi hv
    refine h_aload_n (pc := 41) C dX5_remove_41 rfl 2 rfl ?_
    refine h_dup (pc := 42) C dX5_remove_42 rfl ?_
    refine h_get (pc := 43) (ci := 3) (C0 := RX5) (T := TX5) (N := 16) C uX5_remove_X5 rfl 0 rfl 4 (by decide) (List.mem_of_getElem? (i := 2) rfl) rfl rfl dX5_remove_43 ?_
    refine h_iconst (pc := 46) C dX5_remove_46 jc_1 ?_
    refine h_isub (pc := 47) C dX5_remove_47 ?_
    refine h_put (pc := 48) (ci := 3) (C0 := RX5) (T := TX5) (N := 16) (ws' := (wM cT ad madded msides mkey w5 (mboxes - 1) morder mlevels mnodes mentries mleft mlow mright mhigh mfirst mend v2.2)) C uX5_remove_X5 tyX5 tyX5_ok nmX5 rfl 0 rfl 4 (by decide) (List.mem_of_getElem? (i := 2) rfl) rfl rfl rfl (Nat.le_of_ble_eq_true rfl) rfl dX5_remove_48 ?_
    refine h_iload_n (pc := 51) C dX5_remove_51 rfl 1 rfl ?_
    refine h_istore (pc := 52) (lv' := [(4, .int v3), (3, .int v4), (2, .int v3), (0, .ref (ad 10)), (1, .int x1)]) C dX5_remove_52 (by decide) rfl ?_
    refine h_sub [3, 1, 0] rfl ?_
    exact k_X5_remove_54 l D cT ad C hr n madded msides mkey mleft mlow mright mhigh mfirst mend r misThere' mboxes' morder' mlevels' mnodes' mentries' mthrown' n w5 (mboxes - 1) morder mlevels mnodes mentries v2.2 v4 v3 hf
  · replace hf := jif_f q hf
    clear q
    refine h_iconst (pc := 20) C dX5_remove_20 jc_0 ?_
    have g0 := (Prod.mk.inj (Option.some.inj hf)).1
    have g1 := (Prod.mk.inj (Prod.mk.inj (Option.some.inj hf)).2).1
    have g2 := (Prod.mk.inj (Prod.mk.inj (Prod.mk.inj (Option.some.inj hf)).2).2).1
    have g3 := (Prod.mk.inj (Prod.mk.inj (Prod.mk.inj (Prod.mk.inj (Option.some.inj hf)).2).2).2).1
    have g4 := (Prod.mk.inj (Prod.mk.inj (Prod.mk.inj (Prod.mk.inj (Prod.mk.inj (Option.some.inj hf)).2).2).2).2).1
    have g5 := (Prod.mk.inj (Prod.mk.inj (Prod.mk.inj (Prod.mk.inj (Prod.mk.inj (Prod.mk.inj (Option.some.inj hf)).2).2).2).2).2).1
    have g6 := (Prod.mk.inj (Prod.mk.inj (Prod.mk.inj (Prod.mk.inj (Prod.mk.inj (Prod.mk.inj (Prod.mk.inj (Option.some.inj hf)).2).2).2).2).2).2).1
    have g7 := (Prod.mk.inj (Prod.mk.inj (Prod.mk.inj (Prod.mk.inj (Prod.mk.inj (Prod.mk.inj (Prod.mk.inj (Option.some.inj hf)).2).2).2).2).2).2).2
    clear hf
    subst g0
    subst g1
    subst g2
    subst g3
    subst g4
    subst g5
    subst g6
    subst g7
    exact h_iret C hr dX5_remove_21
set_option maxRecDepth 100000 in
set_option maxHeartbeats 4000000 in
theorem c_X5_remove (l : Launch) (D : va_G) (cT : Nat → ClassId) (ad : Nat → Nat) (n : Nat) (madded : Int32) (msides : Nat → Int32) (mkey : Nat → Int32) (misThere : Nat → Int32) (mboxes : Int32) (morder : Nat → Int32) (mlevels : Int32) (mnodes : Nat → Int32) (mentries : Nat → Int32) (mleft : Int32) (mlow : Int32) (mright : Int32) (mhigh : Int32) (mfirst : Int32) (mend : Int32) (mthrown : Int32) (a1 : Int32) (r : Int32) (misThere' : Nat → Int32) (mboxes' : Int32) (morder' : Nat → Int32) (mlevels' : Int32) (mnodes' : Nat → Int32) (mentries' : Nat → Int32) (mthrown' : Int32) (hf : f_X5_remove n madded misThere mboxes morder mlevels mnodes mentries mthrown a1 = some (r, misThere', mboxes', morder', mlevels', mnodes', mentries', mthrown')) : cM l yX5_remove wsX5_remove rmX5_remove D (ty4 cT) [.ref (ad 10), .int a1] (wM cT ad madded msides mkey misThere mboxes morder mlevels mnodes mentries mleft mlow mright mhigh mfirst mend mthrown) (some (.int r)) (wM cT ad madded msides mkey misThere' mboxes' morder' mlevels' mnodes' mentries' mleft mlow mright mhigh mfirst mend mthrown') := by
  refine cM_of (cc := cX5_remove) (maxL := 5) (ret := (some .int)) (own := RX5) (lv := [(0, .ref (ad 10)), (1, .int a1)]) (by decide) rfl (Nat.le_of_ble_eq_true rfl) rfl rfl ?_
  intro p e s m args below meth c A C hr
  unfold f_X5_remove at hf
  refine h_aload_n (pc := 0) C dX5_remove_0 rfl 0 rfl ?_
  refine h_aload_n (pc := 1) C dX5_remove_1 rfl 0 rfl ?_
  refine h_iload_n (pc := 2) C dX5_remove_2 rfl 1 rfl ?_
  obtain ⟨v1, hc, hf⟩ := jbd_s hf
  refine h_callV (pc := 3) (q0 := 0) (As := [.int a1]) (rest := .ref (ad 10) :: []) (ws' := (wM cT ad madded msides mkey misThere mboxes morder mlevels mnodes mentries mleft mlow mright mhigh mfirst mend mthrown)) (st2 := .int v1 :: .ref (ad 10) :: []) C (c_X5_is l D cT ad n madded msides mkey misThere mboxes morder mlevels mnodes mentries mleft mlow mright mhigh mfirst mend mthrown a1 v1 hc) (cwV 1 C.1.2.2.2.2 gX5_remove_X5_is rfl rfl rfl pv_X5_is ⟨(Nat.le_of_ble_eq_true rfl), (Nat.le_of_ble_eq_true rfl)⟩) dX5_remove_3 rfl rfl rfl rfl rfl (Nat.le_of_ble_eq_true rfl) ⟨rfl, rfl⟩ ⟨(Nat.le_of_ble_eq_true rfl), (Nat.le_of_ble_eq_true rfl)⟩ [0, 1, 2, 3, 4, 5, 6] [] [0, 1, 2, 3, 4, 5, 6] rfl rfl rfl rfl (by decide) rfl rfl rfl ?_
  clear hc
  refine h_if_eq (pc := 6) (tgt := 13) C dX5_remove_6 (by decide) (fun q => ?_) (fun q => ?_)
  · replace hf := jif_t q hf
    clear q
    refine h_iconst (pc := 13) C dX5_remove_13 jc_1 ?_
    exact k_X5_remove_14 l D cT ad C hr n madded msides mkey mleft mlow mright mhigh mfirst mend r misThere' mboxes' morder' mlevels' mnodes' mentries' mthrown' misThere mboxes morder mlevels mnodes mentries mthrown a1 1 hf
  · replace hf := jif_f q hf
    clear q
    refine h_iconst (pc := 9) C dX5_remove_9 jc_0 ?_
    refine h_goto (pc := 10) (tgt := 14) C dX5_remove_10 (by decide) ?_
    exact k_X5_remove_14 l D cT ad C hr n madded msides mkey mleft mlow mright mhigh mfirst mend r misThere' mboxes' morder' mlevels' mnodes' mentries' mthrown' misThere mboxes morder mlevels mnodes mentries mthrown a1 0 hf
theorem pv_X5_remove : yX5_remove.cls = RX5 ∧ yX5_remove.cls ≠ "java/lang/invoke/MethodHandle" ∧ yX5_remove.cls ≠ "java/lang/invoke/VarHandle" ∧ (parseMethodDescriptor yX5_remove.desc).map (fun d => d.parameters.length) = some 1 := by decide +kernel
abbrev rmX5_pack : Room := { frames := 0, cells := 0, slots := 0, locals := 0 }
theorem uX5_pack_X5 : ∀ w ∈ u_ws RX5 TX5 16, w ∈ wsX5_pack := fun w h => List.mem_cons_of_mem _ (List.mem_append_right _ h)
set_option maxRecDepth 100000 in
set_option maxHeartbeats 4000000 in
theorem k_X5_pack_91 {p : Program} {e : Env} {s : State} {m : MethodId} {args : Array Value} {below : List Frame} {meth : Method} {c : Code} {A : Nat → Prop} (l : Launch) (D : va_G) (cT : Nat → ClassId) (ad : Nat → Nat) (C : hC p s m args meth c cX5_pack 4 wsX5_pack RX5 D (ty4 cT) A) (hr : meth.sig.returnType = (some .int)) (n : Nat) (madded : Int32) (msides : Nat → Int32) (mkey : Nat → Int32) (misThere : Nat → Int32) (mboxes : Int32) (morder : Nat → Int32) (mleft : Int32) (mlow : Int32) (mright : Int32) (mhigh : Int32) (mfirst : Int32) (mend : Int32) (r : Int32) (mlevels' : Int32) (mnodes' : Nat → Int32) (mentries' : Nat → Int32) (mthrown' : Int32) (k15 : Int32 → (Nat → Int32) → (Nat → Int32) → Int32 → Int32 → Option (Int32 × Int32 × (Nat → Int32) × (Nat → Int32) × Int32)) (K15 : ∀ (mlevels : Int32) (mnodes : Nat → Int32) (mentries : Nat → Int32) (mthrown : Int32) (x1 : Int32), k15 mlevels mnodes mentries mthrown x1 = some (r, mlevels', mnodes', mentries', mthrown') → hS p l e rmX5_pack s m args below meth c 4 D A 0 0 (MQ below (cQ D (ty4 cT) A (some (.int r)) (wM cT ad madded msides mkey misThere mboxes morder mlevels' mnodes' mentries' mleft mlow mright mhigh mfirst mend mthrown')) args s 0 0 A) 15 [(0, .ref (ad 10)), (1, .int x1)] [] (wM cT ad madded msides mkey misThere mboxes morder mlevels mnodes mentries mleft mlow mright mhigh mfirst mend mthrown)) (k49 : Int32 → (Nat → Int32) → (Nat → Int32) → Int32 → Int32 → Int32 → Option (Int32 × Int32 × (Nat → Int32) × (Nat → Int32) × Int32)) (K49 : ∀ (mlevels : Int32) (mnodes : Nat → Int32) (mentries : Nat → Int32) (mthrown : Int32) (x1 : Int32) (x2 : Int32), k49 mlevels mnodes mentries mthrown x1 x2 = some (r, mlevels', mnodes', mentries', mthrown') → hS p l e rmX5_pack s m args below meth c 4 D A 0 0 (MQ below (cQ D (ty4 cT) A (some (.int r)) (wM cT ad madded msides mkey misThere mboxes morder mlevels' mnodes' mentries' mleft mlow mright mhigh mfirst mend mthrown')) args s 0 0 A) 49 [(0, .ref (ad 10)), (1, .int x1), (2, .int x2)] [] (wM cT ad madded msides mkey misThere mboxes morder mlevels mnodes mentries mleft mlow mright mhigh mfirst mend mthrown)) : ∀ (mlevels : Int32) (mnodes : Nat → Int32) (mentries : Nat → Int32) (mthrown : Int32) (x1 : Int32) (x2 : Int32) (t1 : Int32) (t2 : Int32), f_X5_pack_91 n mboxes k15 k49 mlevels mnodes mentries mthrown x1 x2 t1 t2 = some (r, mlevels', mnodes', mentries', mthrown') → hS p l e rmX5_pack s m args below meth c 4 D A 0 0 (MQ below (cQ D (ty4 cT) A (some (.int r)) (wM cT ad madded msides mkey misThere mboxes morder mlevels' mnodes' mentries' mleft mlow mright mhigh mfirst mend mthrown')) args s 0 0 A) 91 [(0, .ref (ad 10)), (1, .int x1), (2, .int x2)] (.int t2 :: .int t1 :: .ref (ad 16) :: []) (wM cT ad madded msides mkey misThere mboxes morder mlevels mnodes mentries mleft mlow mright mhigh mfirst mend mthrown) := by
  intro mlevels mnodes mentries mthrown x1 x2 t1 t2 hf
  unfold f_X5_pack_91 at hf
  obtain ⟨hi, w5, hv, hf⟩ := jwr_s hf
  refine h_iast (pc := 91) (ws' := (wM cT ad madded msides mkey misThere mboxes morder mlevels mnodes w5 mleft mlow mright mhigh mfirst mend mthrown)) C 6 0 rfl rfl hi hv rfl dX5_pack_91 ?_
  clear hi hv
  refine h_iinc (pc := 92) (v := x2 + 1) (lv' := [(2, .int (x2 + 1)), (0, .ref (ad 10)), (1, .int x1)]) C dX5_pack_92 2 rfl (ji_1 _) (by decide) rfl ?_
  refine h_goto (pc := 95) (tgt := 49) C dX5_pack_95 (by decide) ?_
  refine h_sub [1, 2, 0] rfl ?_
  exact K49 mlevels mnodes w5 mthrown x1 (x2 + 1) hf
set_option maxRecDepth 100000 in
set_option maxHeartbeats 4000000 in
theorem k_X5_pack_49 {p : Program} {e : Env} {s : State} {m : MethodId} {args : Array Value} {below : List Frame} {meth : Method} {c : Code} {A : Nat → Prop} (l : Launch) (D : va_G) (cT : Nat → ClassId) (ad : Nat → Nat) (C : hC p s m args meth c cX5_pack 4 wsX5_pack RX5 D (ty4 cT) A) (hr : meth.sig.returnType = (some .int)) (n : Nat) (madded : Int32) (msides : Nat → Int32) (mkey : Nat → Int32) (misThere : Nat → Int32) (mboxes : Int32) (morder : Nat → Int32) (mleft : Int32) (mlow : Int32) (mright : Int32) (mhigh : Int32) (mfirst : Int32) (mend : Int32) (r : Int32) (mlevels' : Int32) (mnodes' : Nat → Int32) (mentries' : Nat → Int32) (mthrown' : Int32) (k15 : Int32 → (Nat → Int32) → (Nat → Int32) → Int32 → Int32 → Option (Int32 × Int32 × (Nat → Int32) × (Nat → Int32) × Int32)) (K15 : ∀ (mlevels : Int32) (mnodes : Nat → Int32) (mentries : Nat → Int32) (mthrown : Int32) (x1 : Int32), k15 mlevels mnodes mentries mthrown x1 = some (r, mlevels', mnodes', mentries', mthrown') → hS p l e rmX5_pack s m args below meth c 4 D A 0 0 (MQ below (cQ D (ty4 cT) A (some (.int r)) (wM cT ad madded msides mkey misThere mboxes morder mlevels' mnodes' mentries' mleft mlow mright mhigh mfirst mend mthrown')) args s 0 0 A) 15 [(0, .ref (ad 10)), (1, .int x1)] [] (wM cT ad madded msides mkey misThere mboxes morder mlevels mnodes mentries mleft mlow mright mhigh mfirst mend mthrown)) : ∀ (fu : Nat) (mlevels : Int32) (mnodes : Nat → Int32) (mentries : Nat → Int32) (mthrown : Int32) (x1 : Int32) (x2 : Int32), f_X5_pack_49 n mboxes k15 fu mlevels mnodes mentries mthrown x1 x2 = some (r, mlevels', mnodes', mentries', mthrown') → hS p l e rmX5_pack s m args below meth c 4 D A 0 0 (MQ below (cQ D (ty4 cT) A (some (.int r)) (wM cT ad madded msides mkey misThere mboxes morder mlevels' mnodes' mentries' mleft mlow mright mhigh mfirst mend mthrown')) args s 0 0 A) 49 [(0, .ref (ad 10)), (1, .int x1), (2, .int x2)] [] (wM cT ad madded msides mkey misThere mboxes morder mlevels mnodes mentries mleft mlow mright mhigh mfirst mend mthrown) := by
  intro fu
  induction fu with
  | zero =>
    intro mlevels mnodes mentries mthrown x1 x2 hf
    exact nomatch (show (none : Option (Int32 × Int32 × (Nat → Int32) × (Nat → Int32) × Int32)) = some (r, mlevels', mnodes', mentries', mthrown') from hf)
  | succ fu ih =>
    intro mlevels mnodes mentries mthrown x1 x2 hf
    rw [f_X5_pack_49] at hf
    refine h_iload_n (pc := 49) C dX5_pack_49 rfl 2 rfl ?_
    refine h_aload_n (pc := 50) C dX5_pack_50 rfl 0 rfl ?_
    refine h_get (pc := 51) (ci := 3) (C0 := RX5) (T := TX5) (N := 16) C uX5_pack_X5 rfl 0 rfl 7 (by decide) (List.mem_of_getElem? (i := 4) rfl) rfl rfl dX5_pack_51 ?_
    refine h_aload_n (pc := 54) C dX5_pack_54 rfl 0 rfl ?_
    refine h_get (pc := 55) (ci := 3) (C0 := RX5) (T := TX5) (N := 16) C uX5_pack_X5 rfl 0 rfl 6 (by decide) (List.mem_of_getElem? (i := 3) rfl) rfl rfl dX5_pack_55 ?_
    obtain ⟨hi, v3, hv, hf⟩ := jrd_s hf
    refine h_iald (pc := 58) C 5 0 rfl rfl hi hv dX5_pack_58 ?_
    clear hi hv
    refine h_icmp_ge (pc := 59) (tgt := 98) C dX5_pack_59 (by decide) (fun q => ?_) (fun q => ?_)
    · replace hf := jif_t q hf
      clear q
      refine h_aload_n (pc := 98) C dX5_pack_98 rfl 0 rfl ?_
      refine h_get (pc := 99) (ci := 3) (C0 := RX5) (T := TX5) (N := 16) C uX5_pack_X5 rfl 0 rfl 7 (by decide) (List.mem_of_getElem? (i := 4) rfl) rfl rfl dX5_pack_99 ?_
      refine h_aload_n (pc := 102) C dX5_pack_102 rfl 0 rfl ?_
      refine h_get (pc := 103) (ci := 3) (C0 := RX5) (T := TX5) (N := 16) C uX5_pack_X5 rfl 0 rfl 6 (by decide) (List.mem_of_getElem? (i := 3) rfl) rfl rfl dX5_pack_103 ?_
      obtain ⟨hi, v4, hv, hf⟩ := jrd_s hf
      refine h_iald (pc := 106) C 5 0 rfl rfl hi hv dX5_pack_106 ?_
      clear hi hv
      refine h_istore_n (pc := 107) (lv' := [(1, .int v4), (0, .ref (ad 10)), (2, .int x2)]) C dX5_pack_107 rfl (by decide) rfl ?_
      refine h_aload_n (pc := 108) C dX5_pack_108 rfl 1 rfl ?_
      refine h_dup (pc := 109) C dX5_pack_109 rfl ?_
      refine h_get (pc := 110) (ci := 3) (C0 := RX5) (T := TX5) (N := 16) C uX5_pack_X5 rfl 0 rfl 6 (by decide) (List.mem_of_getElem? (i := 3) rfl) rfl rfl dX5_pack_110 ?_
      refine h_iconst (pc := 113) C dX5_pack_113 jc_1 ?_
      refine h_iadd (pc := 114) C dX5_pack_114 ?_
      refine h_put (pc := 115) (ci := 3) (C0 := RX5) (T := TX5) (N := 16) (ws' := (wM cT ad madded msides mkey misThere mboxes morder (mlevels + 1) mnodes mentries mleft mlow mright mhigh mfirst mend mthrown)) C uX5_pack_X5 tyX5 tyX5_ok nmX5 rfl 0 rfl 6 (by decide) (List.mem_of_getElem? (i := 3) rfl) rfl rfl rfl (Nat.le_of_ble_eq_true rfl) rfl dX5_pack_115 ?_
      refine h_goto (pc := 118) (tgt := 15) C dX5_pack_118 (by decide) ?_
      refine h_sub [1, 0] rfl ?_
      exact K15 (mlevels + 1) mnodes mentries mthrown v4 hf
    · replace hf := jif_f q hf
      clear q
      refine h_iload_n (pc := 62) C dX5_pack_62 rfl 1 rfl ?_
      refine h_iconst (pc := 63) C dX5_pack_63 jc_4 ?_
      refine h_iload_n (pc := 64) C dX5_pack_64 rfl 2 rfl ?_
      refine h_imul (pc := 65) C dX5_pack_65 ?_
      refine h_isub (pc := 66) C dX5_pack_66 ?_
      refine h_istore_n (pc := 67) (lv' := [(3, .int (x1 - (4 * x2))), (0, .ref (ad 10)), (1, .int x1), (2, .int x2)]) C dX5_pack_67 rfl (by decide) rfl ?_
      refine h_aload_n (pc := 68) C dX5_pack_68 rfl 1 rfl ?_
      refine h_get (pc := 69) (ci := 3) (C0 := RX5) (T := TX5) (N := 16) C uX5_pack_X5 rfl 0 rfl 8 (by decide) (List.mem_of_getElem? (i := 5) rfl) rfl rfl dX5_pack_69 ?_
      refine h_bipush (pc := 72) C dX5_pack_72 jb_64 ?_
      refine h_aload_n (pc := 74) C dX5_pack_74 rfl 1 rfl ?_
      refine h_get (pc := 75) (ci := 3) (C0 := RX5) (T := TX5) (N := 16) C uX5_pack_X5 rfl 0 rfl 6 (by decide) (List.mem_of_getElem? (i := 3) rfl) rfl rfl dX5_pack_75 ?_
      refine h_imul (pc := 78) C dX5_pack_78 ?_
      refine h_iload_n (pc := 79) C dX5_pack_79 rfl 3 rfl ?_
      refine h_iadd (pc := 80) C dX5_pack_80 ?_
      refine h_iload_n (pc := 81) C dX5_pack_81 rfl 0 rfl ?_
      refine h_iconst (pc := 82) C dX5_pack_82 jc_4 ?_
      refine h_icmp_le (pc := 83) (tgt := 90) C dX5_pack_83 (by decide) (fun q => ?_) (fun q => ?_)
      · replace hf := jif_t q hf
        clear q
        refine h_iload_n (pc := 90) C dX5_pack_90 rfl 0 rfl ?_
        refine h_sub [1, 2, 3] rfl ?_
        exact k_X5_pack_91 l D cT ad C hr n madded msides mkey misThere mboxes morder mleft mlow mright mhigh mfirst mend r mlevels' mnodes' mentries' mthrown' k15 K15 (f_X5_pack_49 n mboxes k15 fu) ih mlevels mnodes mentries mthrown x1 x2 ((64 * mlevels) + x2) (x1 - (4 * x2)) hf
      · replace hf := jif_f q hf
        clear q
        refine h_iconst (pc := 86) C dX5_pack_86 jc_4 ?_
        refine h_goto (pc := 87) (tgt := 91) C dX5_pack_87 (by decide) ?_
        refine h_sub [1, 2, 3] rfl ?_
        exact k_X5_pack_91 l D cT ad C hr n madded msides mkey misThere mboxes morder mleft mlow mright mhigh mfirst mend r mlevels' mnodes' mentries' mthrown' k15 K15 (f_X5_pack_49 n mboxes k15 fu) ih mlevels mnodes mentries mthrown x1 x2 ((64 * mlevels) + x2) 4 hf
set_option maxRecDepth 100000 in
set_option maxHeartbeats 4000000 in
theorem k_X5_pack_31 {p : Program} {e : Env} {s : State} {m : MethodId} {args : Array Value} {below : List Frame} {meth : Method} {c : Code} {A : Nat → Prop} (l : Launch) (D : va_G) (cT : Nat → ClassId) (ad : Nat → Nat) (C : hC p s m args meth c cX5_pack 4 wsX5_pack RX5 D (ty4 cT) A) (hr : meth.sig.returnType = (some .int)) (n : Nat) (madded : Int32) (msides : Nat → Int32) (mkey : Nat → Int32) (misThere : Nat → Int32) (mboxes : Int32) (morder : Nat → Int32) (mleft : Int32) (mlow : Int32) (mright : Int32) (mhigh : Int32) (mfirst : Int32) (mend : Int32) (r : Int32) (mlevels' : Int32) (mnodes' : Nat → Int32) (mentries' : Nat → Int32) (mthrown' : Int32) (k15 : Int32 → (Nat → Int32) → (Nat → Int32) → Int32 → Int32 → Option (Int32 × Int32 × (Nat → Int32) × (Nat → Int32) × Int32)) (K15 : ∀ (mlevels : Int32) (mnodes : Nat → Int32) (mentries : Nat → Int32) (mthrown : Int32) (x1 : Int32), k15 mlevels mnodes mentries mthrown x1 = some (r, mlevels', mnodes', mentries', mthrown') → hS p l e rmX5_pack s m args below meth c 4 D A 0 0 (MQ below (cQ D (ty4 cT) A (some (.int r)) (wM cT ad madded msides mkey misThere mboxes morder mlevels' mnodes' mentries' mleft mlow mright mhigh mfirst mend mthrown')) args s 0 0 A) 15 [(0, .ref (ad 10)), (1, .int x1)] [] (wM cT ad madded msides mkey misThere mboxes morder mlevels mnodes mentries mleft mlow mright mhigh mfirst mend mthrown)) : ∀ (mlevels : Int32) (mnodes : Nat → Int32) (mentries : Nat → Int32) (mthrown : Int32) (x1 : Int32), f_X5_pack_31 n mboxes k15 mlevels mnodes mentries mthrown x1 = some (r, mlevels', mnodes', mentries', mthrown') → hS p l e rmX5_pack s m args below meth c 4 D A 0 0 (MQ below (cQ D (ty4 cT) A (some (.int r)) (wM cT ad madded msides mkey misThere mboxes morder mlevels' mnodes' mentries' mleft mlow mright mhigh mfirst mend mthrown')) args s 0 0 A) 31 [(0, .ref (ad 10)), (1, .int x1)] [] (wM cT ad madded msides mkey misThere mboxes morder mlevels mnodes mentries mleft mlow mright mhigh mfirst mend mthrown) := by
  intro mlevels mnodes mentries mthrown x1 hf
  unfold f_X5_pack_31 at hf
  refine h_aload_n (pc := 31) C dX5_pack_31 rfl 0 rfl ?_
  refine h_get (pc := 32) (ci := 3) (C0 := RX5) (T := TX5) (N := 16) C uX5_pack_X5 rfl 0 rfl 7 (by decide) (List.mem_of_getElem? (i := 4) rfl) rfl rfl dX5_pack_32 ?_
  refine h_aload_n (pc := 35) C dX5_pack_35 rfl 0 rfl ?_
  refine h_get (pc := 36) (ci := 3) (C0 := RX5) (T := TX5) (N := 16) C uX5_pack_X5 rfl 0 rfl 6 (by decide) (List.mem_of_getElem? (i := 3) rfl) rfl rfl dX5_pack_36 ?_
  refine h_iload_n (pc := 39) C dX5_pack_39 rfl 1 rfl ?_
  refine h_iconst (pc := 40) C dX5_pack_40 jc_4 ?_
  refine h_iadd (pc := 41) C dX5_pack_41 ?_
  refine h_iconst (pc := 42) C dX5_pack_42 jc_1 ?_
  refine h_isub (pc := 43) C dX5_pack_43 ?_
  refine h_iconst (pc := 44) C dX5_pack_44 jc_4 ?_
  refine h_idiv (pc := 45) C dX5_pack_45 (by decide) ?_
  obtain ⟨hi, w1, hv, hf⟩ := jwr_s hf
  refine h_iast (pc := 46) (ws' := (wM cT ad madded msides mkey misThere mboxes morder mlevels w1 mentries mleft mlow mright mhigh mfirst mend mthrown)) C 5 0 rfl rfl hi hv rfl dX5_pack_46 ?_
  clear hi hv
  refine h_iconst (pc := 47) C dX5_pack_47 jc_0 ?_
  refine h_istore_n (pc := 48) (lv' := [(2, .int 0), (0, .ref (ad 10)), (1, .int x1)]) C dX5_pack_48 rfl (by decide) rfl ?_
  refine h_sub [1, 2, 0] rfl ?_
  exact k_X5_pack_49 l D cT ad C hr n madded msides mkey misThere mboxes morder mleft mlow mright mhigh mfirst mend r mlevels' mnodes' mentries' mthrown' k15 K15 n mlevels w1 mentries mthrown x1 0 hf
set_option maxRecDepth 100000 in
set_option maxHeartbeats 4000000 in
theorem k_X5_pack_121 {p : Program} {e : Env} {s : State} {m : MethodId} {args : Array Value} {below : List Frame} {meth : Method} {c : Code} {A : Nat → Prop} (l : Launch) (D : va_G) (cT : Nat → ClassId) (ad : Nat → Nat) (C : hC p s m args meth c cX5_pack 4 wsX5_pack RX5 D (ty4 cT) A) (hr : meth.sig.returnType = (some .int)) (n : Nat) (madded : Int32) (msides : Nat → Int32) (mkey : Nat → Int32) (misThere : Nat → Int32) (mboxes : Int32) (morder : Nat → Int32) (mleft : Int32) (mlow : Int32) (mright : Int32) (mhigh : Int32) (mfirst : Int32) (mend : Int32) (r : Int32) (mlevels' : Int32) (mnodes' : Nat → Int32) (mentries' : Nat → Int32) (mthrown' : Int32)  : ∀ (mlevels : Int32) (mnodes : Nat → Int32) (mentries : Nat → Int32) (mthrown : Int32) , f_X5_pack_121 n mboxes mlevels mnodes mentries mthrown = some (r, mlevels', mnodes', mentries', mthrown') → hS p l e rmX5_pack s m args below meth c 4 D A 0 0 (MQ below (cQ D (ty4 cT) A (some (.int r)) (wM cT ad madded msides mkey misThere mboxes morder mlevels' mnodes' mentries' mleft mlow mright mhigh mfirst mend mthrown')) args s 0 0 A) 121 [(0, .ref (ad 10))] [] (wM cT ad madded msides mkey misThere mboxes morder mlevels mnodes mentries mleft mlow mright mhigh mfirst mend mthrown) := by
  intro mlevels mnodes mentries mthrown hf
  unfold f_X5_pack_121 at hf
  refine h_aload_n (pc := 121) C dX5_pack_121 rfl 0 rfl ?_
  refine h_get (pc := 122) (ci := 3) (C0 := RX5) (T := TX5) (N := 16) C uX5_pack_X5 rfl 0 rfl 4 (by decide) (List.mem_of_getElem? (i := 2) rfl) rfl rfl dX5_pack_122 ?_
  refine h_if_ne (pc := 125) (tgt := 132) C dX5_pack_125 (by decide) (fun q => ?_) (fun q => ?_)
  · replace hf := jif_f q hf
    clear q
    refine h_aload_n (pc := 132) C dX5_pack_132 rfl 0 rfl ?_
    refine h_get (pc := 133) (ci := 3) (C0 := RX5) (T := TX5) (N := 16) C uX5_pack_X5 rfl 0 rfl 7 (by decide) (List.mem_of_getElem? (i := 4) rfl) rfl rfl dX5_pack_133 ?_
    refine h_iconst (pc := 136) C dX5_pack_136 jc_0 ?_
    obtain ⟨hi, v2, hv, hf⟩ := jrd_s hf
    refine h_iald (pc := 137) C 5 0 rfl rfl hi hv dX5_pack_137 ?_
    clear hi hv
    have g0 := (Prod.mk.inj (Option.some.inj hf)).1
    have g1 := (Prod.mk.inj (Prod.mk.inj (Option.some.inj hf)).2).1
    have g2 := (Prod.mk.inj (Prod.mk.inj (Prod.mk.inj (Option.some.inj hf)).2).2).1
    have g3 := (Prod.mk.inj (Prod.mk.inj (Prod.mk.inj (Prod.mk.inj (Option.some.inj hf)).2).2).2).1
    have g4 := (Prod.mk.inj (Prod.mk.inj (Prod.mk.inj (Prod.mk.inj (Option.some.inj hf)).2).2).2).2
    clear hf
    subst g0
    subst g1
    subst g2
    subst g3
    subst g4
    exact h_iret C hr dX5_pack_138
  · replace hf := jif_t q hf
    clear q
    refine h_iconst (pc := 128) C dX5_pack_128 jc_0 ?_
    refine h_goto (pc := 129) (tgt := 138) C dX5_pack_129 (by decide) ?_
    have g0 := (Prod.mk.inj (Option.some.inj hf)).1
    have g1 := (Prod.mk.inj (Prod.mk.inj (Option.some.inj hf)).2).1
    have g2 := (Prod.mk.inj (Prod.mk.inj (Prod.mk.inj (Option.some.inj hf)).2).2).1
    have g3 := (Prod.mk.inj (Prod.mk.inj (Prod.mk.inj (Prod.mk.inj (Option.some.inj hf)).2).2).2).1
    have g4 := (Prod.mk.inj (Prod.mk.inj (Prod.mk.inj (Prod.mk.inj (Option.some.inj hf)).2).2).2).2
    clear hf
    subst g0
    subst g1
    subst g2
    subst g3
    subst g4
    exact h_iret C hr dX5_pack_138
set_option maxRecDepth 100000 in
set_option maxHeartbeats 4000000 in
theorem k_X5_pack_15 {p : Program} {e : Env} {s : State} {m : MethodId} {args : Array Value} {below : List Frame} {meth : Method} {c : Code} {A : Nat → Prop} (l : Launch) (D : va_G) (cT : Nat → ClassId) (ad : Nat → Nat) (C : hC p s m args meth c cX5_pack 4 wsX5_pack RX5 D (ty4 cT) A) (hr : meth.sig.returnType = (some .int)) (n : Nat) (madded : Int32) (msides : Nat → Int32) (mkey : Nat → Int32) (misThere : Nat → Int32) (mboxes : Int32) (morder : Nat → Int32) (mleft : Int32) (mlow : Int32) (mright : Int32) (mhigh : Int32) (mfirst : Int32) (mend : Int32) (r : Int32) (mlevels' : Int32) (mnodes' : Nat → Int32) (mentries' : Nat → Int32) (mthrown' : Int32)  : ∀ (fu : Nat) (mlevels : Int32) (mnodes : Nat → Int32) (mentries : Nat → Int32) (mthrown : Int32) (x1 : Int32), f_X5_pack_15 n mboxes fu mlevels mnodes mentries mthrown x1 = some (r, mlevels', mnodes', mentries', mthrown') → hS p l e rmX5_pack s m args below meth c 4 D A 0 0 (MQ below (cQ D (ty4 cT) A (some (.int r)) (wM cT ad madded msides mkey misThere mboxes morder mlevels' mnodes' mentries' mleft mlow mright mhigh mfirst mend mthrown')) args s 0 0 A) 15 [(0, .ref (ad 10)), (1, .int x1)] [] (wM cT ad madded msides mkey misThere mboxes morder mlevels mnodes mentries mleft mlow mright mhigh mfirst mend mthrown) := by
  intro fu
  induction fu with
  | zero =>
    intro mlevels mnodes mentries mthrown x1 hf
    exact nomatch (show (none : Option (Int32 × Int32 × (Nat → Int32) × (Nat → Int32) × Int32)) = some (r, mlevels', mnodes', mentries', mthrown') from hf)
  | succ fu ih =>
    intro mlevels mnodes mentries mthrown x1 hf
    rw [f_X5_pack_15] at hf
    refine h_iload_n (pc := 15) C dX5_pack_15 rfl 1 rfl ?_
    refine h_iconst (pc := 16) C dX5_pack_16 jc_1 ?_
    refine h_icmp_gt (pc := 17) (tgt := 31) C dX5_pack_17 (by decide) (fun q => ?_) (fun q => ?_)
    · replace hf := jif_t q hf
      clear q
      exact k_X5_pack_31 l D cT ad C hr n madded msides mkey misThere mboxes morder mleft mlow mright mhigh mfirst mend r mlevels' mnodes' mentries' mthrown' (f_X5_pack_15 n mboxes fu) ih mlevels mnodes mentries mthrown x1 hf
    · replace hf := jif_f q hf
      clear q
      refine h_iload_n (pc := 20) C dX5_pack_20 rfl 1 rfl ?_
      refine h_if_le (pc := 21) (tgt := 121) C dX5_pack_21 (by decide) (fun q => ?_) (fun q => ?_)
      · replace hf := jif_t q hf
        clear q
        refine h_sub [0] rfl ?_
        exact k_X5_pack_121 l D cT ad C hr n madded msides mkey misThere mboxes morder mleft mlow mright mhigh mfirst mend r mlevels' mnodes' mentries' mthrown' mlevels mnodes mentries mthrown hf
      · replace hf := jif_f q hf
        clear q
        refine h_aload_n (pc := 24) C dX5_pack_24 rfl 0 rfl ?_
        refine h_get (pc := 25) (ci := 3) (C0 := RX5) (T := TX5) (N := 16) C uX5_pack_X5 rfl 0 rfl 6 (by decide) (List.mem_of_getElem? (i := 3) rfl) rfl rfl dX5_pack_25 ?_
        refine h_if_ne (pc := 28) (tgt := 121) C dX5_pack_28 (by decide) (fun q => ?_) (fun q => ?_)
        · replace hf := jif_f q hf
          clear q
          refine h_sub [0] rfl ?_
          exact k_X5_pack_121 l D cT ad C hr n madded msides mkey misThere mboxes morder mleft mlow mright mhigh mfirst mend r mlevels' mnodes' mentries' mthrown' mlevels mnodes mentries mthrown hf
        · replace hf := jif_t q hf
          clear q
          exact k_X5_pack_31 l D cT ad C hr n madded msides mkey misThere mboxes morder mleft mlow mright mhigh mfirst mend r mlevels' mnodes' mentries' mthrown' (f_X5_pack_15 n mboxes fu) ih mlevels mnodes mentries mthrown x1 hf
set_option maxRecDepth 100000 in
set_option maxHeartbeats 4000000 in
theorem c_X5_pack (l : Launch) (D : va_G) (cT : Nat → ClassId) (ad : Nat → Nat) (n : Nat) (madded : Int32) (msides : Nat → Int32) (mkey : Nat → Int32) (misThere : Nat → Int32) (mboxes : Int32) (morder : Nat → Int32) (mlevels : Int32) (mnodes : Nat → Int32) (mentries : Nat → Int32) (mleft : Int32) (mlow : Int32) (mright : Int32) (mhigh : Int32) (mfirst : Int32) (mend : Int32) (mthrown : Int32)  (r : Int32) (mlevels' : Int32) (mnodes' : Nat → Int32) (mentries' : Nat → Int32) (mthrown' : Int32) (hf : f_X5_pack n mboxes mlevels mnodes mentries mthrown = some (r, mlevels', mnodes', mentries', mthrown')) : cM l yX5_pack wsX5_pack rmX5_pack D (ty4 cT) [.ref (ad 10)] (wM cT ad madded msides mkey misThere mboxes morder mlevels mnodes mentries mleft mlow mright mhigh mfirst mend mthrown) (some (.int r)) (wM cT ad madded msides mkey misThere mboxes morder mlevels' mnodes' mentries' mleft mlow mright mhigh mfirst mend mthrown') := by
  refine cM_of (cc := cX5_pack) (maxL := 4) (ret := (some .int)) (own := RX5) (lv := [(0, .ref (ad 10))]) (by decide) rfl (Nat.le_of_ble_eq_true rfl) rfl rfl ?_
  intro p e s m args below meth c A C hr
  unfold f_X5_pack at hf
  refine h_aload_n (pc := 0) C dX5_pack_0 rfl 0 rfl ?_
  refine h_iconst (pc := 1) C dX5_pack_1 jc_0 ?_
  refine h_put (pc := 2) (ci := 3) (C0 := RX5) (T := TX5) (N := 16) (ws' := (wM cT ad madded msides mkey misThere mboxes morder mlevels mnodes mentries mleft mlow mright mhigh mfirst mend 0)) C uX5_pack_X5 tyX5 tyX5_ok nmX5 rfl 0 rfl 15 (by decide) (List.mem_of_getElem? (i := 1) rfl) rfl rfl rfl (Nat.le_of_ble_eq_true rfl) rfl dX5_pack_2 ?_
  refine h_aload_n (pc := 5) C dX5_pack_5 rfl 0 rfl ?_
  refine h_get (pc := 6) (ci := 3) (C0 := RX5) (T := TX5) (N := 16) C uX5_pack_X5 rfl 0 rfl 4 (by decide) (List.mem_of_getElem? (i := 2) rfl) rfl rfl dX5_pack_6 ?_
  refine h_istore_n (pc := 9) (lv' := [(1, .int mboxes), (0, .ref (ad 10))]) C dX5_pack_9 rfl (by decide) rfl ?_
  refine h_aload_n (pc := 10) C dX5_pack_10 rfl 1 rfl ?_
  refine h_iconst (pc := 11) C dX5_pack_11 jc_0 ?_
  refine h_put (pc := 12) (ci := 3) (C0 := RX5) (T := TX5) (N := 16) (ws' := (wM cT ad madded msides mkey misThere mboxes morder 0 mnodes mentries mleft mlow mright mhigh mfirst mend 0)) C uX5_pack_X5 tyX5 tyX5_ok nmX5 rfl 0 rfl 6 (by decide) (List.mem_of_getElem? (i := 3) rfl) rfl rfl rfl (Nat.le_of_ble_eq_true rfl) rfl dX5_pack_12 ?_
  refine h_sub [1, 0] rfl ?_
  exact k_X5_pack_15 l D cT ad C hr n madded msides mkey misThere mboxes morder mleft mlow mright mhigh mfirst mend r mlevels' mnodes' mentries' mthrown' n 0 mnodes mentries 0 mboxes hf
theorem pv_X5_pack : yX5_pack.cls = RX5 ∧ yX5_pack.cls ≠ "java/lang/invoke/MethodHandle" ∧ yX5_pack.cls ≠ "java/lang/invoke/VarHandle" ∧ (parseMethodDescriptor yX5_pack.desc).map (fun d => d.parameters.length) = some 0 := by decide +kernel
abbrev rmX5_boxes : Room := { frames := 1, cells := 0, slots := 0, locals := 21 }
theorem uX5_boxes_X5 : ∀ w ∈ u_ws RX5 TX5 16, w ∈ wsX5_boxes := fun w h => List.mem_cons_of_mem _ (List.mem_append_right _ h)
set_option maxRecDepth 100000 in
set_option maxHeartbeats 4000000 in
theorem c_X5_boxes (l : Launch) (D : va_G) (cT : Nat → ClassId) (ad : Nat → Nat) (n : Nat) (madded : Int32) (msides : Nat → Int32) (mkey : Nat → Int32) (misThere : Nat → Int32) (mboxes : Int32) (morder : Nat → Int32) (mlevels : Int32) (mnodes : Nat → Int32) (mentries : Nat → Int32) (mleft : Int32) (mlow : Int32) (mright : Int32) (mhigh : Int32) (mfirst : Int32) (mend : Int32) (mthrown : Int32)  (r : Int32) (mthrown' : Int32) (hf : f_X5_boxes n mboxes mthrown = some (r, mthrown')) : cM l yX5_boxes wsX5_boxes rmX5_boxes D (ty4 cT) [.ref (ad 10)] (wM cT ad madded msides mkey misThere mboxes morder mlevels mnodes mentries mleft mlow mright mhigh mfirst mend mthrown) (some (.int r)) (wM cT ad madded msides mkey misThere mboxes morder mlevels mnodes mentries mleft mlow mright mhigh mfirst mend mthrown') := by
  refine cM_of (cc := cX5_boxes) (maxL := 1) (ret := (some .int)) (own := RX5) (lv := [(0, .ref (ad 10))]) (by decide) rfl (Nat.le_of_ble_eq_true rfl) rfl rfl ?_
  intro p e s m args below meth c A C hr
  unfold f_X5_boxes at hf
  refine h_aload_n (pc := 0) C dX5_boxes_0 rfl 0 rfl ?_
  refine h_aload_n (pc := 1) C dX5_boxes_1 rfl 0 rfl ?_
  refine h_get (pc := 2) (ci := 3) (C0 := RX5) (T := TX5) (N := 16) C uX5_boxes_X5 rfl 0 rfl 4 (by decide) (List.mem_of_getElem? (i := 1) rfl) rfl rfl dX5_boxes_2 ?_
  obtain ⟨v1, hc, hf⟩ := jbd_s hf
  refine h_callV (pc := 5) (q0 := 0) (As := [.int mboxes]) (rest := []) (ws' := (wM cT ad madded msides mkey misThere mboxes morder mlevels mnodes mentries mleft mlow mright mhigh mfirst mend v1.2)) (st2 := .int v1.1 :: []) C (c_X5_tells l D cT ad n madded msides mkey misThere mboxes morder mlevels mnodes mentries mleft mlow mright mhigh mfirst mend mthrown mboxes v1.1 v1.2 hc) (cwV 1 C.1.2.2.2.2 gX5_boxes_X5_tells rfl rfl rfl pv_X5_tells ⟨(Nat.le_of_ble_eq_true rfl), (Nat.le_of_ble_eq_true rfl)⟩) dX5_boxes_5 rfl rfl rfl rfl rfl (Nat.le_of_ble_eq_true rfl) ⟨rfl, rfl⟩ ⟨(Nat.le_of_ble_eq_true rfl), (Nat.le_of_ble_eq_true rfl)⟩ [0, 1, 2, 3, 4, 5, 6] [] [0, 1, 2, 3, 4, 5, 6] rfl rfl rfl rfl (by decide) rfl rfl rfl ?_
  clear hc
  have g0 := (Prod.mk.inj (Option.some.inj hf)).1
  have g1 := (Prod.mk.inj (Option.some.inj hf)).2
  clear hf
  subst g0
  subst g1
  exact h_iret C hr dX5_boxes_8
theorem pv_X5_boxes : yX5_boxes.cls = RX5 ∧ yX5_boxes.cls ≠ "java/lang/invoke/MethodHandle" ∧ yX5_boxes.cls ≠ "java/lang/invoke/VarHandle" ∧ (parseMethodDescriptor yX5_boxes.desc).map (fun d => d.parameters.length) = some 0 := by decide +kernel
abbrev rmX5_key : Room := { frames := 1, cells := 0, slots := 0, locals := 29 }
set_option maxRecDepth 100000 in
set_option maxHeartbeats 4000000 in
theorem k_X5_key_14 {p : Program} {e : Env} {s : State} {m : MethodId} {args : Array Value} {below : List Frame} {meth : Method} {c : Code} {A : Nat → Prop} (l : Launch) (D : va_G) (cT : Nat → ClassId) (ad : Nat → Nat) (C : hC p s m args meth c cX5_key 3 wsX5_key RX5 D (ty4 cT) A) (hr : meth.sig.returnType = (some .int)) (n : Nat) (madded : Int32) (msides : Nat → Int32) (mkey : Nat → Int32) (misThere : Nat → Int32) (mboxes : Int32) (morder : Nat → Int32) (mlevels : Int32) (mnodes : Nat → Int32) (mentries : Nat → Int32) (mleft : Int32) (mlow : Int32) (mright : Int32) (mhigh : Int32) (mfirst : Int32) (mend : Int32) (r : Int32) (mthrown' : Int32)  : ∀ (mthrown : Int32) (x1 : Int32) (x2 : Int32) (t1 : Int32), f_X5_key_14 n mthrown x1 x2 t1 = some (r, mthrown') → hS p l e rmX5_key s m args below meth c 3 D A 0 0 (MQ below (cQ D (ty4 cT) A (some (.int r)) (wM cT ad madded msides mkey misThere mboxes morder mlevels mnodes mentries mleft mlow mright mhigh mfirst mend mthrown')) args s 0 0 A) 14 [(1, .int x1), (2, .int x2)] (.int t1 :: .ref (ad 10) :: []) (wM cT ad madded msides mkey misThere mboxes morder mlevels mnodes mentries mleft mlow mright mhigh mfirst mend mthrown) := by
  intro mthrown x1 x2 t1 hf
  unfold f_X5_key_14 at hf
  obtain ⟨v2, hc, hf⟩ := jbd_s hf
  refine h_callV (pc := 14) (q0 := 0) (As := [.int t1]) (rest := []) (ws' := (wM cT ad madded msides mkey misThere mboxes morder mlevels mnodes mentries mleft mlow mright mhigh mfirst mend v2.2)) (st2 := .int v2.1 :: []) C (c_X5_fails l D cT ad n madded msides mkey misThere mboxes morder mlevels mnodes mentries mleft mlow mright mhigh mfirst mend mthrown t1 v2.1 v2.2 hc) (cwV 1 C.1.2.2.2.2 gX5_key_X5_fails rfl rfl rfl pv_X5_fails ⟨(Nat.le_of_ble_eq_true rfl), (Nat.le_of_ble_eq_true rfl)⟩) dX5_key_14 rfl rfl rfl rfl rfl (Nat.le_of_ble_eq_true rfl) ⟨rfl, rfl⟩ ⟨(Nat.le_of_ble_eq_true rfl), (Nat.le_of_ble_eq_true rfl)⟩ [0, 1, 2, 3, 4, 5, 6] [] [0, 1, 2, 3, 4, 5, 6] rfl rfl rfl rfl (by decide) rfl rfl rfl ?_
  clear hc
  refine h_if_eq (pc := 17) (tgt := 24) C dX5_key_17 (by decide) (fun q => ?_) (fun q => ?_)
  · replace hf := jif_t q hf
    clear q
    refine h_iload_n (pc := 24) C dX5_key_24 rfl 0 rfl ?_
    refine h_iload_n (pc := 25) C dX5_key_25 rfl 1 rfl ?_
    obtain ⟨v3, hc, hf⟩ := jbd_s hf
    refine h_callP (pc := 26) (As := [.int x1, .int x2]) (rest := []) (st2 := .int v3 :: []) C (c_X5_keyAt l D cT ad n x1 x2 v3 hc) (va_cwS 2 C.1.2.2.2.2 gX5_key_X5_keyAt rfl rfl rfl ps_X5_keyAt ⟨(Nat.le_of_ble_eq_true rfl), (Nat.le_of_ble_eq_true rfl)⟩) dX5_key_26 rfl rfl (Nat.le_of_ble_eq_true rfl) ⟨rfl, rfl⟩ ⟨(Nat.le_of_ble_eq_true rfl), (Nat.le_of_ble_eq_true rfl)⟩ rfl ?_
    clear hc
    have g0 := (Prod.mk.inj (Option.some.inj hf)).1
    have g1 := (Prod.mk.inj (Option.some.inj hf)).2
    clear hf
    subst g0
    subst g1
    exact h_iret C hr dX5_key_29
  · replace hf := jif_f q hf
    clear q
    refine h_iconst (pc := 20) C dX5_key_20 jc_0 ?_
    refine h_goto (pc := 21) (tgt := 29) C dX5_key_21 (by decide) ?_
    have g0 := (Prod.mk.inj (Option.some.inj hf)).1
    have g1 := (Prod.mk.inj (Option.some.inj hf)).2
    clear hf
    subst g0
    subst g1
    exact h_iret C hr dX5_key_29
set_option maxRecDepth 100000 in
set_option maxHeartbeats 4000000 in
theorem c_X5_key (l : Launch) (D : va_G) (cT : Nat → ClassId) (ad : Nat → Nat) (n : Nat) (madded : Int32) (msides : Nat → Int32) (mkey : Nat → Int32) (misThere : Nat → Int32) (mboxes : Int32) (morder : Nat → Int32) (mlevels : Int32) (mnodes : Nat → Int32) (mentries : Nat → Int32) (mleft : Int32) (mlow : Int32) (mright : Int32) (mhigh : Int32) (mfirst : Int32) (mend : Int32) (mthrown : Int32) (a1 : Int32) (a2 : Int32) (r : Int32) (mthrown' : Int32) (hf : f_X5_key n mthrown a1 a2 = some (r, mthrown')) : cM l yX5_key wsX5_key rmX5_key D (ty4 cT) [.ref (ad 10), .int a1, .int a2] (wM cT ad madded msides mkey misThere mboxes morder mlevels mnodes mentries mleft mlow mright mhigh mfirst mend mthrown) (some (.int r)) (wM cT ad madded msides mkey misThere mboxes morder mlevels mnodes mentries mleft mlow mright mhigh mfirst mend mthrown') := by
  refine cM_of (cc := cX5_key) (maxL := 3) (ret := (some .int)) (own := RX5) (lv := [(0, .ref (ad 10)), (1, .int a1), (2, .int a2)]) (by decide) rfl (Nat.le_of_ble_eq_true rfl) rfl rfl ?_
  intro p e s m args below meth c A C hr
  unfold f_X5_key at hf
  refine h_aload_n (pc := 0) C dX5_key_0 rfl 0 rfl ?_
  refine h_iload_n (pc := 1) C dX5_key_1 rfl 1 rfl ?_
  refine h_iload_n (pc := 2) C dX5_key_2 rfl 2 rfl ?_
  obtain ⟨v1, hc, hf⟩ := jbd_s hf
  refine h_callP (pc := 3) (As := [.int a1, .int a2]) (rest := .ref (ad 10) :: []) (st2 := .int v1 :: .ref (ad 10) :: []) C (c_X5_isPoint l D cT ad n a1 a2 v1 hc) (va_cwS 2 C.1.2.2.2.2 gX5_key_X5_isPoint rfl rfl rfl ps_X5_isPoint ⟨(Nat.le_of_ble_eq_true rfl), (Nat.le_of_ble_eq_true rfl)⟩) dX5_key_3 rfl rfl (Nat.le_of_ble_eq_true rfl) ⟨rfl, rfl⟩ ⟨(Nat.le_of_ble_eq_true rfl), (Nat.le_of_ble_eq_true rfl)⟩ rfl ?_
  clear hc
  refine h_if_eq (pc := 6) (tgt := 13) C dX5_key_6 (by decide) (fun q => ?_) (fun q => ?_)
  · replace hf := jif_t q hf
    clear q
    refine h_iconst (pc := 13) C dX5_key_13 jc_1 ?_
    refine h_sub [1, 2] rfl ?_
    exact k_X5_key_14 l D cT ad C hr n madded msides mkey misThere mboxes morder mlevels mnodes mentries mleft mlow mright mhigh mfirst mend r mthrown' mthrown a1 a2 1 hf
  · replace hf := jif_f q hf
    clear q
    refine h_iconst (pc := 9) C dX5_key_9 jc_0 ?_
    refine h_goto (pc := 10) (tgt := 14) C dX5_key_10 (by decide) ?_
    refine h_sub [1, 2] rfl ?_
    exact k_X5_key_14 l D cT ad C hr n madded msides mkey misThere mboxes morder mlevels mnodes mentries mleft mlow mright mhigh mfirst mend r mthrown' mthrown a1 a2 0 hf
theorem pv_X5_key : yX5_key.cls = RX5 ∧ yX5_key.cls ≠ "java/lang/invoke/MethodHandle" ∧ yX5_key.cls ≠ "java/lang/invoke/VarHandle" ∧ (parseMethodDescriptor yX5_key.desc).map (fun d => d.parameters.length) = some 2 := by decide +kernel
abbrev rmX5_keyOf : Room := { frames := 1, cells := 0, slots := 0, locals := 21 }
theorem uX5_keyOf_X5 : ∀ w ∈ u_ws RX5 TX5 16, w ∈ wsX5_keyOf := fun w h => List.mem_cons_of_mem _ (List.mem_append_right _ h)
set_option maxRecDepth 100000 in
set_option maxHeartbeats 4000000 in
theorem k_X5_keyOf_14 {p : Program} {e : Env} {s : State} {m : MethodId} {args : Array Value} {below : List Frame} {meth : Method} {c : Code} {A : Nat → Prop} (l : Launch) (D : va_G) (cT : Nat → ClassId) (ad : Nat → Nat) (C : hC p s m args meth c cX5_keyOf 2 wsX5_keyOf RX5 D (ty4 cT) A) (hr : meth.sig.returnType = (some .int)) (n : Nat) (madded : Int32) (msides : Nat → Int32) (mkey : Nat → Int32) (misThere : Nat → Int32) (mboxes : Int32) (morder : Nat → Int32) (mlevels : Int32) (mnodes : Nat → Int32) (mentries : Nat → Int32) (mleft : Int32) (mlow : Int32) (mright : Int32) (mhigh : Int32) (mfirst : Int32) (mend : Int32) (r : Int32) (mthrown' : Int32)  : ∀ (mthrown : Int32) (x1 : Int32) (t1 : Int32), f_X5_keyOf_14 n madded mkey misThere mthrown x1 t1 = some (r, mthrown') → hS p l e rmX5_keyOf s m args below meth c 2 D A 0 0 (MQ below (cQ D (ty4 cT) A (some (.int r)) (wM cT ad madded msides mkey misThere mboxes morder mlevels mnodes mentries mleft mlow mright mhigh mfirst mend mthrown')) args s 0 0 A) 14 [(0, .ref (ad 10)), (1, .int x1)] (.int t1 :: .ref (ad 10) :: []) (wM cT ad madded msides mkey misThere mboxes morder mlevels mnodes mentries mleft mlow mright mhigh mfirst mend mthrown) := by
  intro mthrown x1 t1 hf
  unfold f_X5_keyOf_14 at hf
  obtain ⟨v2, hc, hf⟩ := jbd_s hf
  refine h_callV (pc := 14) (q0 := 0) (As := [.int t1]) (rest := []) (ws' := (wM cT ad madded msides mkey misThere mboxes morder mlevels mnodes mentries mleft mlow mright mhigh mfirst mend v2.2)) (st2 := .int v2.1 :: []) C (c_X5_fails l D cT ad n madded msides mkey misThere mboxes morder mlevels mnodes mentries mleft mlow mright mhigh mfirst mend mthrown t1 v2.1 v2.2 hc) (cwV 1 C.1.2.2.2.2 gX5_keyOf_X5_fails rfl rfl rfl pv_X5_fails ⟨(Nat.le_of_ble_eq_true rfl), (Nat.le_of_ble_eq_true rfl)⟩) dX5_keyOf_14 rfl rfl rfl rfl rfl (Nat.le_of_ble_eq_true rfl) ⟨rfl, rfl⟩ ⟨(Nat.le_of_ble_eq_true rfl), (Nat.le_of_ble_eq_true rfl)⟩ [0, 1, 2, 3, 4, 5, 6] [] [0, 1, 2, 3, 4, 5, 6] rfl rfl rfl rfl (by decide) rfl rfl rfl ?_
  clear hc
  refine h_if_eq (pc := 17) (tgt := 24) C dX5_keyOf_17 (by decide) (fun q => ?_) (fun q => ?_)
  · replace hf := jif_t q hf
    clear q
    refine h_aload_n (pc := 24) C dX5_keyOf_24 rfl 0 rfl ?_
    refine h_get (pc := 25) (ci := 3) (C0 := RX5) (T := TX5) (N := 16) C uX5_keyOf_X5 rfl 0 rfl 2 (by decide) (List.mem_of_getElem? (i := 1) rfl) rfl rfl dX5_keyOf_25 ?_
    refine h_iload_n (pc := 28) C dX5_keyOf_28 rfl 1 rfl ?_
    obtain ⟨hi, v3, hv, hf⟩ := jrd_s hf
    refine h_iald (pc := 29) C 2 0 rfl rfl hi hv dX5_keyOf_29 ?_
    clear hi hv
    have g0 := (Prod.mk.inj (Option.some.inj hf)).1
    have g1 := (Prod.mk.inj (Option.some.inj hf)).2
    clear hf
    subst g0
    subst g1
    exact h_iret C hr dX5_keyOf_30
  · replace hf := jif_f q hf
    clear q
    refine h_iconst (pc := 20) C dX5_keyOf_20 jc_0 ?_
    refine h_goto (pc := 21) (tgt := 30) C dX5_keyOf_21 (by decide) ?_
    have g0 := (Prod.mk.inj (Option.some.inj hf)).1
    have g1 := (Prod.mk.inj (Option.some.inj hf)).2
    clear hf
    subst g0
    subst g1
    exact h_iret C hr dX5_keyOf_30
set_option maxRecDepth 100000 in
set_option maxHeartbeats 4000000 in
theorem c_X5_keyOf (l : Launch) (D : va_G) (cT : Nat → ClassId) (ad : Nat → Nat) (n : Nat) (madded : Int32) (msides : Nat → Int32) (mkey : Nat → Int32) (misThere : Nat → Int32) (mboxes : Int32) (morder : Nat → Int32) (mlevels : Int32) (mnodes : Nat → Int32) (mentries : Nat → Int32) (mleft : Int32) (mlow : Int32) (mright : Int32) (mhigh : Int32) (mfirst : Int32) (mend : Int32) (mthrown : Int32) (a1 : Int32) (r : Int32) (mthrown' : Int32) (hf : f_X5_keyOf n madded mkey misThere mthrown a1 = some (r, mthrown')) : cM l yX5_keyOf wsX5_keyOf rmX5_keyOf D (ty4 cT) [.ref (ad 10), .int a1] (wM cT ad madded msides mkey misThere mboxes morder mlevels mnodes mentries mleft mlow mright mhigh mfirst mend mthrown) (some (.int r)) (wM cT ad madded msides mkey misThere mboxes morder mlevels mnodes mentries mleft mlow mright mhigh mfirst mend mthrown') := by
  refine cM_of (cc := cX5_keyOf) (maxL := 2) (ret := (some .int)) (own := RX5) (lv := [(0, .ref (ad 10)), (1, .int a1)]) (by decide) rfl (Nat.le_of_ble_eq_true rfl) rfl rfl ?_
  intro p e s m args below meth c A C hr
  unfold f_X5_keyOf at hf
  refine h_aload_n (pc := 0) C dX5_keyOf_0 rfl 0 rfl ?_
  refine h_aload_n (pc := 1) C dX5_keyOf_1 rfl 0 rfl ?_
  refine h_iload_n (pc := 2) C dX5_keyOf_2 rfl 1 rfl ?_
  obtain ⟨v1, hc, hf⟩ := jbd_s hf
  refine h_callV (pc := 3) (q0 := 0) (As := [.int a1]) (rest := .ref (ad 10) :: []) (ws' := (wM cT ad madded msides mkey misThere mboxes morder mlevels mnodes mentries mleft mlow mright mhigh mfirst mend mthrown)) (st2 := .int v1 :: .ref (ad 10) :: []) C (c_X5_is l D cT ad n madded msides mkey misThere mboxes morder mlevels mnodes mentries mleft mlow mright mhigh mfirst mend mthrown a1 v1 hc) (cwV 1 C.1.2.2.2.2 gX5_keyOf_X5_is rfl rfl rfl pv_X5_is ⟨(Nat.le_of_ble_eq_true rfl), (Nat.le_of_ble_eq_true rfl)⟩) dX5_keyOf_3 rfl rfl rfl rfl rfl (Nat.le_of_ble_eq_true rfl) ⟨rfl, rfl⟩ ⟨(Nat.le_of_ble_eq_true rfl), (Nat.le_of_ble_eq_true rfl)⟩ [0, 1, 2, 3, 4, 5, 6] [] [0, 1, 2, 3, 4, 5, 6] rfl rfl rfl rfl (by decide) rfl rfl rfl ?_
  clear hc
  refine h_if_eq (pc := 6) (tgt := 13) C dX5_keyOf_6 (by decide) (fun q => ?_) (fun q => ?_)
  · replace hf := jif_t q hf
    clear q
    refine h_iconst (pc := 13) C dX5_keyOf_13 jc_1 ?_
    exact k_X5_keyOf_14 l D cT ad C hr n madded msides mkey misThere mboxes morder mlevels mnodes mentries mleft mlow mright mhigh mfirst mend r mthrown' mthrown a1 1 hf
  · replace hf := jif_f q hf
    clear q
    refine h_iconst (pc := 9) C dX5_keyOf_9 jc_0 ?_
    refine h_goto (pc := 10) (tgt := 14) C dX5_keyOf_10 (by decide) ?_
    exact k_X5_keyOf_14 l D cT ad C hr n madded msides mkey misThere mboxes morder mlevels mnodes mentries mleft mlow mright mhigh mfirst mend r mthrown' mthrown a1 0 hf
theorem pv_X5_keyOf : yX5_keyOf.cls = RX5 ∧ yX5_keyOf.cls ≠ "java/lang/invoke/MethodHandle" ∧ yX5_keyOf.cls ≠ "java/lang/invoke/VarHandle" ∧ (parseMethodDescriptor yX5_keyOf.desc).map (fun d => d.parameters.length) = some 1 := by decide +kernel
abbrev rmX5_isSide : Room := { frames := 0, cells := 0, slots := 0, locals := 0 }
set_option maxRecDepth 100000 in
set_option maxHeartbeats 4000000 in
theorem c_X5_isSide (l : Launch) (D : va_G) (cT : Nat → ClassId) (ad : Nat → Nat) (n : Nat)  (a0 : Int32) (r : Int32) (hf : f_X5_isSide n a0 = some r) : cM l yX5_isSide wsX5_isSide rmX5_isSide D (ty4 cT) [.int a0] [] (some (.int r)) [] := by
  refine cM_of (cc := cX5_isSide) (maxL := 1) (ret := (some .boolean)) (own := RX5) (lv := [(0, .int a0)]) (by decide) rfl (Nat.le_of_ble_eq_true rfl) rfl rfl ?_
  intro p e s m args below meth c A C hr
  unfold f_X5_isSide at hf
  refine h_iload_n (pc := 0) C dX5_isSide_0 rfl 0 rfl ?_
  refine h_if_lt (pc := 1) (tgt := 13) C dX5_isSide_1 (by decide) (fun q => ?_) (fun q => ?_)
  · replace hf := jif_t q hf
    clear q
    refine h_iconst (pc := 13) C dX5_isSide_13 jc_0 ?_
    have g0 := (Option.some.inj hf)
    clear hf
    subst g0
    exact h_zret C hr rfl dX5_isSide_14
  · replace hf := jif_f q hf
    clear q
    refine h_iload_n (pc := 4) C dX5_isSide_4 rfl 0 rfl ?_
    refine h_iconst (pc := 5) C dX5_isSide_5 jc_4 ?_
    refine h_icmp_ge (pc := 6) (tgt := 13) C dX5_isSide_6 (by decide) (fun q => ?_) (fun q => ?_)
    · replace hf := jif_t q hf
      clear q
      refine h_iconst (pc := 13) C dX5_isSide_13 jc_0 ?_
      have g0 := (Option.some.inj hf)
      clear hf
      subst g0
      exact h_zret C hr rfl dX5_isSide_14
    · replace hf := jif_f q hf
      clear q
      refine h_iconst (pc := 9) C dX5_isSide_9 jc_1 ?_
      refine h_goto (pc := 10) (tgt := 14) C dX5_isSide_10 (by decide) ?_
      have g0 := (Option.some.inj hf)
      clear hf
      subst g0
      exact h_zret C hr rfl dX5_isSide_14
theorem ps_X5_isSide : yX5_isSide.cls ≠ "java/lang/invoke/MethodHandle" ∧ yX5_isSide.cls ≠ "java/lang/invoke/VarHandle" ∧ (parseMethodDescriptor yX5_isSide.desc).map (fun d => d.parameters.length) = some 1 := by decide +kernel
abbrev rmX5_sideOf : Room := { frames := 1, cells := 0, slots := 0, locals := 21 }
theorem uX5_sideOf_X5 : ∀ w ∈ u_ws RX5 TX5 16, w ∈ wsX5_sideOf := fun w h => List.mem_cons_of_mem _ (List.mem_append_right _ h)
set_option maxRecDepth 100000 in
set_option maxHeartbeats 4000000 in
theorem k_X5_sideOf_25 {p : Program} {e : Env} {s : State} {m : MethodId} {args : Array Value} {below : List Frame} {meth : Method} {c : Code} {A : Nat → Prop} (l : Launch) (D : va_G) (cT : Nat → ClassId) (ad : Nat → Nat) (C : hC p s m args meth c cX5_sideOf 3 wsX5_sideOf RX5 D (ty4 cT) A) (hr : meth.sig.returnType = (some .int)) (n : Nat) (madded : Int32) (msides : Nat → Int32) (mkey : Nat → Int32) (misThere : Nat → Int32) (mboxes : Int32) (morder : Nat → Int32) (mlevels : Int32) (mnodes : Nat → Int32) (mentries : Nat → Int32) (mleft : Int32) (mlow : Int32) (mright : Int32) (mhigh : Int32) (mfirst : Int32) (mend : Int32) (r : Int32) (mthrown' : Int32)  : ∀ (mthrown : Int32) (x1 : Int32) (x2 : Int32) (t1 : Int32), f_X5_sideOf_25 n madded msides misThere mthrown x1 x2 t1 = some (r, mthrown') → hS p l e rmX5_sideOf s m args below meth c 3 D A 0 0 (MQ below (cQ D (ty4 cT) A (some (.int r)) (wM cT ad madded msides mkey misThere mboxes morder mlevels mnodes mentries mleft mlow mright mhigh mfirst mend mthrown')) args s 0 0 A) 25 [(0, .ref (ad 10)), (1, .int x1), (2, .int x2)] (.int t1 :: .ref (ad 10) :: []) (wM cT ad madded msides mkey misThere mboxes morder mlevels mnodes mentries mleft mlow mright mhigh mfirst mend mthrown) := by
  intro mthrown x1 x2 t1 hf
  unfold f_X5_sideOf_25 at hf
  obtain ⟨v3, hc, hf⟩ := jbd_s hf
  refine h_callV (pc := 25) (q0 := 0) (As := [.int t1]) (rest := []) (ws' := (wM cT ad madded msides mkey misThere mboxes morder mlevels mnodes mentries mleft mlow mright mhigh mfirst mend v3.2)) (st2 := .int v3.1 :: []) C (c_X5_fails l D cT ad n madded msides mkey misThere mboxes morder mlevels mnodes mentries mleft mlow mright mhigh mfirst mend mthrown t1 v3.1 v3.2 hc) (cwV 1 C.1.2.2.2.2 gX5_sideOf_X5_fails rfl rfl rfl pv_X5_fails ⟨(Nat.le_of_ble_eq_true rfl), (Nat.le_of_ble_eq_true rfl)⟩) dX5_sideOf_25 rfl rfl rfl rfl rfl (Nat.le_of_ble_eq_true rfl) ⟨rfl, rfl⟩ ⟨(Nat.le_of_ble_eq_true rfl), (Nat.le_of_ble_eq_true rfl)⟩ [0, 1, 2, 3, 4, 5, 6] [] [0, 1, 2, 3, 4, 5, 6] rfl rfl rfl rfl (by decide) rfl rfl rfl ?_
  clear hc
  refine h_if_eq (pc := 28) (tgt := 35) C dX5_sideOf_28 (by decide) (fun q => ?_) (fun q => ?_)
  · replace hf := jif_t q hf
    clear q
    refine h_aload_n (pc := 35) C dX5_sideOf_35 rfl 0 rfl ?_
    refine h_get (pc := 36) (ci := 3) (C0 := RX5) (T := TX5) (N := 16) C uX5_sideOf_X5 rfl 0 rfl 1 (by decide) (List.mem_of_getElem? (i := 1) rfl) rfl rfl dX5_sideOf_36 ?_
    refine h_iconst (pc := 39) C dX5_sideOf_39 jc_4 ?_
    refine h_iload_n (pc := 40) C dX5_sideOf_40 rfl 1 rfl ?_
    refine h_imul (pc := 41) C dX5_sideOf_41 ?_
    refine h_iload_n (pc := 42) C dX5_sideOf_42 rfl 2 rfl ?_
    refine h_iadd (pc := 43) C dX5_sideOf_43 ?_
    obtain ⟨hi, v4, hv, hf⟩ := jrd_s hf
    refine h_iald (pc := 44) C 1 0 rfl rfl hi hv dX5_sideOf_44 ?_
    clear hi hv
    have g0 := (Prod.mk.inj (Option.some.inj hf)).1
    have g1 := (Prod.mk.inj (Option.some.inj hf)).2
    clear hf
    subst g0
    subst g1
    exact h_iret C hr dX5_sideOf_45
  · replace hf := jif_f q hf
    clear q
    refine h_iconst (pc := 31) C dX5_sideOf_31 jc_0 ?_
    refine h_goto (pc := 32) (tgt := 45) C dX5_sideOf_32 (by decide) ?_
    have g0 := (Prod.mk.inj (Option.some.inj hf)).1
    have g1 := (Prod.mk.inj (Option.some.inj hf)).2
    clear hf
    subst g0
    subst g1
    exact h_iret C hr dX5_sideOf_45
set_option maxRecDepth 100000 in
set_option maxHeartbeats 4000000 in
theorem c_X5_sideOf (l : Launch) (D : va_G) (cT : Nat → ClassId) (ad : Nat → Nat) (n : Nat) (madded : Int32) (msides : Nat → Int32) (mkey : Nat → Int32) (misThere : Nat → Int32) (mboxes : Int32) (morder : Nat → Int32) (mlevels : Int32) (mnodes : Nat → Int32) (mentries : Nat → Int32) (mleft : Int32) (mlow : Int32) (mright : Int32) (mhigh : Int32) (mfirst : Int32) (mend : Int32) (mthrown : Int32) (a1 : Int32) (a2 : Int32) (r : Int32) (mthrown' : Int32) (hf : f_X5_sideOf n madded msides misThere mthrown a1 a2 = some (r, mthrown')) : cM l yX5_sideOf wsX5_sideOf rmX5_sideOf D (ty4 cT) [.ref (ad 10), .int a1, .int a2] (wM cT ad madded msides mkey misThere mboxes morder mlevels mnodes mentries mleft mlow mright mhigh mfirst mend mthrown) (some (.int r)) (wM cT ad madded msides mkey misThere mboxes morder mlevels mnodes mentries mleft mlow mright mhigh mfirst mend mthrown') := by
  refine cM_of (cc := cX5_sideOf) (maxL := 3) (ret := (some .int)) (own := RX5) (lv := [(0, .ref (ad 10)), (1, .int a1), (2, .int a2)]) (by decide) rfl (Nat.le_of_ble_eq_true rfl) rfl rfl ?_
  intro p e s m args below meth c A C hr
  unfold f_X5_sideOf at hf
  refine h_aload_n (pc := 0) C dX5_sideOf_0 rfl 0 rfl ?_
  refine h_iload_n (pc := 1) C dX5_sideOf_1 rfl 2 rfl ?_
  obtain ⟨v1, hc, hf⟩ := jbd_s hf
  refine h_callP (pc := 2) (As := [.int a2]) (rest := .ref (ad 10) :: []) (st2 := .int v1 :: .ref (ad 10) :: []) C (c_X5_isSide l D cT ad n a2 v1 hc) (va_cwS 1 C.1.2.2.2.2 gX5_sideOf_X5_isSide rfl rfl rfl ps_X5_isSide ⟨(Nat.le_of_ble_eq_true rfl), (Nat.le_of_ble_eq_true rfl)⟩) dX5_sideOf_2 rfl rfl (Nat.le_of_ble_eq_true rfl) ⟨rfl, rfl⟩ ⟨(Nat.le_of_ble_eq_true rfl), (Nat.le_of_ble_eq_true rfl)⟩ rfl ?_
  clear hc
  refine h_if_ne (pc := 5) (tgt := 12) C dX5_sideOf_5 (by decide) (fun q => ?_) (fun q => ?_)
  · replace hf := jif_f q hf
    clear q
    refine h_aload_n (pc := 12) C dX5_sideOf_12 rfl 0 rfl ?_
    refine h_iload_n (pc := 13) C dX5_sideOf_13 rfl 1 rfl ?_
    obtain ⟨v2, hc, hf⟩ := jbd_s hf
    refine h_callV (pc := 14) (q0 := 0) (As := [.int a1]) (rest := .ref (ad 10) :: []) (ws' := (wM cT ad madded msides mkey misThere mboxes morder mlevels mnodes mentries mleft mlow mright mhigh mfirst mend mthrown)) (st2 := .int v2 :: .ref (ad 10) :: []) C (c_X5_is l D cT ad n madded msides mkey misThere mboxes morder mlevels mnodes mentries mleft mlow mright mhigh mfirst mend mthrown a1 v2 hc) (cwV 1 C.1.2.2.2.2 gX5_sideOf_X5_is rfl rfl rfl pv_X5_is ⟨(Nat.le_of_ble_eq_true rfl), (Nat.le_of_ble_eq_true rfl)⟩) dX5_sideOf_14 rfl rfl rfl rfl rfl (Nat.le_of_ble_eq_true rfl) ⟨rfl, rfl⟩ ⟨(Nat.le_of_ble_eq_true rfl), (Nat.le_of_ble_eq_true rfl)⟩ [0, 1, 2, 3, 4, 5, 6] [] [0, 1, 2, 3, 4, 5, 6] rfl rfl rfl rfl (by decide) rfl rfl rfl ?_
    clear hc
    refine h_if_eq (pc := 17) (tgt := 24) C dX5_sideOf_17 (by decide) (fun q => ?_) (fun q => ?_)
    · replace hf := jif_t q hf
      clear q
      refine h_iconst (pc := 24) C dX5_sideOf_24 jc_2 ?_
      exact k_X5_sideOf_25 l D cT ad C hr n madded msides mkey misThere mboxes morder mlevels mnodes mentries mleft mlow mright mhigh mfirst mend r mthrown' mthrown a1 a2 2 hf
    · replace hf := jif_f q hf
      clear q
      refine h_iconst (pc := 20) C dX5_sideOf_20 jc_0 ?_
      refine h_goto (pc := 21) (tgt := 25) C dX5_sideOf_21 (by decide) ?_
      exact k_X5_sideOf_25 l D cT ad C hr n madded msides mkey misThere mboxes morder mlevels mnodes mentries mleft mlow mright mhigh mfirst mend r mthrown' mthrown a1 a2 0 hf
  · replace hf := jif_t q hf
    clear q
    refine h_iconst (pc := 8) C dX5_sideOf_8 jc_1 ?_
    refine h_goto (pc := 9) (tgt := 25) C dX5_sideOf_9 (by decide) ?_
    exact k_X5_sideOf_25 l D cT ad C hr n madded msides mkey misThere mboxes morder mlevels mnodes mentries mleft mlow mright mhigh mfirst mend r mthrown' mthrown a1 a2 1 hf
theorem pv_X5_sideOf : yX5_sideOf.cls = RX5 ∧ yX5_sideOf.cls ≠ "java/lang/invoke/MethodHandle" ∧ yX5_sideOf.cls ≠ "java/lang/invoke/VarHandle" ∧ (parseMethodDescriptor yX5_sideOf.desc).map (fun d => d.parameters.length) = some 2 := by decide +kernel
abbrev rmX5_levels : Room := { frames := 1, cells := 0, slots := 0, locals := 21 }
theorem uX5_levels_X5 : ∀ w ∈ u_ws RX5 TX5 16, w ∈ wsX5_levels := fun w h => List.mem_cons_of_mem _ (List.mem_append_right _ h)
set_option maxRecDepth 100000 in
set_option maxHeartbeats 4000000 in
theorem c_X5_levels (l : Launch) (D : va_G) (cT : Nat → ClassId) (ad : Nat → Nat) (n : Nat) (madded : Int32) (msides : Nat → Int32) (mkey : Nat → Int32) (misThere : Nat → Int32) (mboxes : Int32) (morder : Nat → Int32) (mlevels : Int32) (mnodes : Nat → Int32) (mentries : Nat → Int32) (mleft : Int32) (mlow : Int32) (mright : Int32) (mhigh : Int32) (mfirst : Int32) (mend : Int32) (mthrown : Int32)  (r : Int32) (mthrown' : Int32) (hf : f_X5_levels n mlevels mthrown = some (r, mthrown')) : cM l yX5_levels wsX5_levels rmX5_levels D (ty4 cT) [.ref (ad 10)] (wM cT ad madded msides mkey misThere mboxes morder mlevels mnodes mentries mleft mlow mright mhigh mfirst mend mthrown) (some (.int r)) (wM cT ad madded msides mkey misThere mboxes morder mlevels mnodes mentries mleft mlow mright mhigh mfirst mend mthrown') := by
  refine cM_of (cc := cX5_levels) (maxL := 1) (ret := (some .int)) (own := RX5) (lv := [(0, .ref (ad 10))]) (by decide) rfl (Nat.le_of_ble_eq_true rfl) rfl rfl ?_
  intro p e s m args below meth c A C hr
  unfold f_X5_levels at hf
  refine h_aload_n (pc := 0) C dX5_levels_0 rfl 0 rfl ?_
  refine h_aload_n (pc := 1) C dX5_levels_1 rfl 0 rfl ?_
  refine h_get (pc := 2) (ci := 3) (C0 := RX5) (T := TX5) (N := 16) C uX5_levels_X5 rfl 0 rfl 6 (by decide) (List.mem_of_getElem? (i := 1) rfl) rfl rfl dX5_levels_2 ?_
  obtain ⟨v1, hc, hf⟩ := jbd_s hf
  refine h_callV (pc := 5) (q0 := 0) (As := [.int mlevels]) (rest := []) (ws' := (wM cT ad madded msides mkey misThere mboxes morder mlevels mnodes mentries mleft mlow mright mhigh mfirst mend v1.2)) (st2 := .int v1.1 :: []) C (c_X5_tells l D cT ad n madded msides mkey misThere mboxes morder mlevels mnodes mentries mleft mlow mright mhigh mfirst mend mthrown mlevels v1.1 v1.2 hc) (cwV 1 C.1.2.2.2.2 gX5_levels_X5_tells rfl rfl rfl pv_X5_tells ⟨(Nat.le_of_ble_eq_true rfl), (Nat.le_of_ble_eq_true rfl)⟩) dX5_levels_5 rfl rfl rfl rfl rfl (Nat.le_of_ble_eq_true rfl) ⟨rfl, rfl⟩ ⟨(Nat.le_of_ble_eq_true rfl), (Nat.le_of_ble_eq_true rfl)⟩ [0, 1, 2, 3, 4, 5, 6] [] [0, 1, 2, 3, 4, 5, 6] rfl rfl rfl rfl (by decide) rfl rfl rfl ?_
  clear hc
  have g0 := (Prod.mk.inj (Option.some.inj hf)).1
  have g1 := (Prod.mk.inj (Option.some.inj hf)).2
  clear hf
  subst g0
  subst g1
  exact h_iret C hr dX5_levels_8
theorem pv_X5_levels : yX5_levels.cls = RX5 ∧ yX5_levels.cls ≠ "java/lang/invoke/MethodHandle" ∧ yX5_levels.cls ≠ "java/lang/invoke/VarHandle" ∧ (parseMethodDescriptor yX5_levels.desc).map (fun d => d.parameters.length) = some 0 := by decide +kernel
abbrev rmX5_isLevel : Room := { frames := 0, cells := 0, slots := 0, locals := 0 }
theorem uX5_isLevel_X5 : ∀ w ∈ u_ws RX5 TX5 16, w ∈ wsX5_isLevel := fun w h => List.mem_cons_of_mem _ (List.mem_append_right _ h)
set_option maxRecDepth 100000 in
set_option maxHeartbeats 4000000 in
theorem c_X5_isLevel (l : Launch) (D : va_G) (cT : Nat → ClassId) (ad : Nat → Nat) (n : Nat) (madded : Int32) (msides : Nat → Int32) (mkey : Nat → Int32) (misThere : Nat → Int32) (mboxes : Int32) (morder : Nat → Int32) (mlevels : Int32) (mnodes : Nat → Int32) (mentries : Nat → Int32) (mleft : Int32) (mlow : Int32) (mright : Int32) (mhigh : Int32) (mfirst : Int32) (mend : Int32) (mthrown : Int32) (a1 : Int32) (r : Int32) (hf : f_X5_isLevel n mlevels a1 = some r) : cM l yX5_isLevel wsX5_isLevel rmX5_isLevel D (ty4 cT) [.ref (ad 10), .int a1] (wM cT ad madded msides mkey misThere mboxes morder mlevels mnodes mentries mleft mlow mright mhigh mfirst mend mthrown) (some (.int r)) (wM cT ad madded msides mkey misThere mboxes morder mlevels mnodes mentries mleft mlow mright mhigh mfirst mend mthrown) := by
  refine cM_of (cc := cX5_isLevel) (maxL := 2) (ret := (some .boolean)) (own := RX5) (lv := [(0, .ref (ad 10)), (1, .int a1)]) (by decide) rfl (Nat.le_of_ble_eq_true rfl) rfl rfl ?_
  intro p e s m args below meth c A C hr
  unfold f_X5_isLevel at hf
  refine h_iload_n (pc := 0) C dX5_isLevel_0 rfl 1 rfl ?_
  refine h_if_lt (pc := 1) (tgt := 16) C dX5_isLevel_1 (by decide) (fun q => ?_) (fun q => ?_)
  · replace hf := jif_t q hf
    clear q
    refine h_iconst (pc := 16) C dX5_isLevel_16 jc_0 ?_
    have g0 := (Option.some.inj hf)
    clear hf
    subst g0
    exact h_zret C hr rfl dX5_isLevel_17
  · replace hf := jif_f q hf
    clear q
    refine h_iload_n (pc := 4) C dX5_isLevel_4 rfl 1 rfl ?_
    refine h_aload_n (pc := 5) C dX5_isLevel_5 rfl 0 rfl ?_
    refine h_get (pc := 6) (ci := 3) (C0 := RX5) (T := TX5) (N := 16) C uX5_isLevel_X5 rfl 0 rfl 6 (by decide) (List.mem_of_getElem? (i := 1) rfl) rfl rfl dX5_isLevel_6 ?_
    refine h_icmp_ge (pc := 9) (tgt := 16) C dX5_isLevel_9 (by decide) (fun q => ?_) (fun q => ?_)
    · replace hf := jif_t q hf
      clear q
      refine h_iconst (pc := 16) C dX5_isLevel_16 jc_0 ?_
      have g0 := (Option.some.inj hf)
      clear hf
      subst g0
      exact h_zret C hr rfl dX5_isLevel_17
    · replace hf := jif_f q hf
      clear q
      refine h_iconst (pc := 12) C dX5_isLevel_12 jc_1 ?_
      refine h_goto (pc := 13) (tgt := 17) C dX5_isLevel_13 (by decide) ?_
      have g0 := (Option.some.inj hf)
      clear hf
      subst g0
      exact h_zret C hr rfl dX5_isLevel_17
theorem pv_X5_isLevel : yX5_isLevel.cls = RX5 ∧ yX5_isLevel.cls ≠ "java/lang/invoke/MethodHandle" ∧ yX5_isLevel.cls ≠ "java/lang/invoke/VarHandle" ∧ (parseMethodDescriptor yX5_isLevel.desc).map (fun d => d.parameters.length) = some 1 := by decide +kernel
abbrev rmX5_nodes : Room := { frames := 1, cells := 0, slots := 0, locals := 21 }
theorem uX5_nodes_X5 : ∀ w ∈ u_ws RX5 TX5 16, w ∈ wsX5_nodes := fun w h => List.mem_cons_of_mem _ (List.mem_append_right _ h)
set_option maxRecDepth 100000 in
set_option maxHeartbeats 4000000 in
theorem k_X5_nodes_14 {p : Program} {e : Env} {s : State} {m : MethodId} {args : Array Value} {below : List Frame} {meth : Method} {c : Code} {A : Nat → Prop} (l : Launch) (D : va_G) (cT : Nat → ClassId) (ad : Nat → Nat) (C : hC p s m args meth c cX5_nodes 2 wsX5_nodes RX5 D (ty4 cT) A) (hr : meth.sig.returnType = (some .int)) (n : Nat) (madded : Int32) (msides : Nat → Int32) (mkey : Nat → Int32) (misThere : Nat → Int32) (mboxes : Int32) (morder : Nat → Int32) (mlevels : Int32) (mnodes : Nat → Int32) (mentries : Nat → Int32) (mleft : Int32) (mlow : Int32) (mright : Int32) (mhigh : Int32) (mfirst : Int32) (mend : Int32) (r : Int32) (mthrown' : Int32)  : ∀ (mthrown : Int32) (x1 : Int32) (t1 : Int32), f_X5_nodes_14 n mlevels mnodes mthrown x1 t1 = some (r, mthrown') → hS p l e rmX5_nodes s m args below meth c 2 D A 0 0 (MQ below (cQ D (ty4 cT) A (some (.int r)) (wM cT ad madded msides mkey misThere mboxes morder mlevels mnodes mentries mleft mlow mright mhigh mfirst mend mthrown')) args s 0 0 A) 14 [(0, .ref (ad 10)), (1, .int x1)] (.int t1 :: .ref (ad 10) :: []) (wM cT ad madded msides mkey misThere mboxes morder mlevels mnodes mentries mleft mlow mright mhigh mfirst mend mthrown) := by
  intro mthrown x1 t1 hf
  unfold f_X5_nodes_14 at hf
  obtain ⟨v2, hc, hf⟩ := jbd_s hf
  refine h_callV (pc := 14) (q0 := 0) (As := [.int t1]) (rest := []) (ws' := (wM cT ad madded msides mkey misThere mboxes morder mlevels mnodes mentries mleft mlow mright mhigh mfirst mend v2.2)) (st2 := .int v2.1 :: []) C (c_X5_fails l D cT ad n madded msides mkey misThere mboxes morder mlevels mnodes mentries mleft mlow mright mhigh mfirst mend mthrown t1 v2.1 v2.2 hc) (cwV 1 C.1.2.2.2.2 gX5_nodes_X5_fails rfl rfl rfl pv_X5_fails ⟨(Nat.le_of_ble_eq_true rfl), (Nat.le_of_ble_eq_true rfl)⟩) dX5_nodes_14 rfl rfl rfl rfl rfl (Nat.le_of_ble_eq_true rfl) ⟨rfl, rfl⟩ ⟨(Nat.le_of_ble_eq_true rfl), (Nat.le_of_ble_eq_true rfl)⟩ [0, 1, 2, 3, 4, 5, 6] [] [0, 1, 2, 3, 4, 5, 6] rfl rfl rfl rfl (by decide) rfl rfl rfl ?_
  clear hc
  refine h_if_eq (pc := 17) (tgt := 24) C dX5_nodes_17 (by decide) (fun q => ?_) (fun q => ?_)
  · replace hf := jif_t q hf
    clear q
    refine h_aload_n (pc := 24) C dX5_nodes_24 rfl 0 rfl ?_
    refine h_get (pc := 25) (ci := 3) (C0 := RX5) (T := TX5) (N := 16) C uX5_nodes_X5 rfl 0 rfl 7 (by decide) (List.mem_of_getElem? (i := 1) rfl) rfl rfl dX5_nodes_25 ?_
    refine h_iload_n (pc := 28) C dX5_nodes_28 rfl 1 rfl ?_
    obtain ⟨hi, v3, hv, hf⟩ := jrd_s hf
    refine h_iald (pc := 29) C 5 0 rfl rfl hi hv dX5_nodes_29 ?_
    clear hi hv
    have g0 := (Prod.mk.inj (Option.some.inj hf)).1
    have g1 := (Prod.mk.inj (Option.some.inj hf)).2
    clear hf
    subst g0
    subst g1
    exact h_iret C hr dX5_nodes_30
  · replace hf := jif_f q hf
    clear q
    refine h_iconst (pc := 20) C dX5_nodes_20 jc_0 ?_
    refine h_goto (pc := 21) (tgt := 30) C dX5_nodes_21 (by decide) ?_
    have g0 := (Prod.mk.inj (Option.some.inj hf)).1
    have g1 := (Prod.mk.inj (Option.some.inj hf)).2
    clear hf
    subst g0
    subst g1
    exact h_iret C hr dX5_nodes_30
set_option maxRecDepth 100000 in
set_option maxHeartbeats 4000000 in
theorem c_X5_nodes (l : Launch) (D : va_G) (cT : Nat → ClassId) (ad : Nat → Nat) (n : Nat) (madded : Int32) (msides : Nat → Int32) (mkey : Nat → Int32) (misThere : Nat → Int32) (mboxes : Int32) (morder : Nat → Int32) (mlevels : Int32) (mnodes : Nat → Int32) (mentries : Nat → Int32) (mleft : Int32) (mlow : Int32) (mright : Int32) (mhigh : Int32) (mfirst : Int32) (mend : Int32) (mthrown : Int32) (a1 : Int32) (r : Int32) (mthrown' : Int32) (hf : f_X5_nodes n mlevels mnodes mthrown a1 = some (r, mthrown')) : cM l yX5_nodes wsX5_nodes rmX5_nodes D (ty4 cT) [.ref (ad 10), .int a1] (wM cT ad madded msides mkey misThere mboxes morder mlevels mnodes mentries mleft mlow mright mhigh mfirst mend mthrown) (some (.int r)) (wM cT ad madded msides mkey misThere mboxes morder mlevels mnodes mentries mleft mlow mright mhigh mfirst mend mthrown') := by
  refine cM_of (cc := cX5_nodes) (maxL := 2) (ret := (some .int)) (own := RX5) (lv := [(0, .ref (ad 10)), (1, .int a1)]) (by decide) rfl (Nat.le_of_ble_eq_true rfl) rfl rfl ?_
  intro p e s m args below meth c A C hr
  unfold f_X5_nodes at hf
  refine h_aload_n (pc := 0) C dX5_nodes_0 rfl 0 rfl ?_
  refine h_aload_n (pc := 1) C dX5_nodes_1 rfl 0 rfl ?_
  refine h_iload_n (pc := 2) C dX5_nodes_2 rfl 1 rfl ?_
  obtain ⟨v1, hc, hf⟩ := jbd_s hf
  refine h_callV (pc := 3) (q0 := 0) (As := [.int a1]) (rest := .ref (ad 10) :: []) (ws' := (wM cT ad madded msides mkey misThere mboxes morder mlevels mnodes mentries mleft mlow mright mhigh mfirst mend mthrown)) (st2 := .int v1 :: .ref (ad 10) :: []) C (c_X5_isLevel l D cT ad n madded msides mkey misThere mboxes morder mlevels mnodes mentries mleft mlow mright mhigh mfirst mend mthrown a1 v1 hc) (cwV 1 C.1.2.2.2.2 gX5_nodes_X5_isLevel rfl rfl rfl pv_X5_isLevel ⟨(Nat.le_of_ble_eq_true rfl), (Nat.le_of_ble_eq_true rfl)⟩) dX5_nodes_3 rfl rfl rfl rfl rfl (Nat.le_of_ble_eq_true rfl) ⟨rfl, rfl⟩ ⟨(Nat.le_of_ble_eq_true rfl), (Nat.le_of_ble_eq_true rfl)⟩ [0, 1, 2, 3, 4, 5, 6] [] [0, 1, 2, 3, 4, 5, 6] rfl rfl rfl rfl (by decide) rfl rfl rfl ?_
  clear hc
  refine h_if_eq (pc := 6) (tgt := 13) C dX5_nodes_6 (by decide) (fun q => ?_) (fun q => ?_)
  · replace hf := jif_t q hf
    clear q
    refine h_iconst (pc := 13) C dX5_nodes_13 jc_1 ?_
    exact k_X5_nodes_14 l D cT ad C hr n madded msides mkey misThere mboxes morder mlevels mnodes mentries mleft mlow mright mhigh mfirst mend r mthrown' mthrown a1 1 hf
  · replace hf := jif_f q hf
    clear q
    refine h_iconst (pc := 9) C dX5_nodes_9 jc_0 ?_
    refine h_goto (pc := 10) (tgt := 14) C dX5_nodes_10 (by decide) ?_
    exact k_X5_nodes_14 l D cT ad C hr n madded msides mkey misThere mboxes morder mlevels mnodes mentries mleft mlow mright mhigh mfirst mend r mthrown' mthrown a1 0 hf
theorem pv_X5_nodes : yX5_nodes.cls = RX5 ∧ yX5_nodes.cls ≠ "java/lang/invoke/MethodHandle" ∧ yX5_nodes.cls ≠ "java/lang/invoke/VarHandle" ∧ (parseMethodDescriptor yX5_nodes.desc).map (fun d => d.parameters.length) = some 1 := by decide +kernel
abbrev rmX5_isNode : Room := { frames := 1, cells := 0, slots := 0, locals := 21 }
theorem uX5_isNode_X5 : ∀ w ∈ u_ws RX5 TX5 16, w ∈ wsX5_isNode := fun w h => List.mem_cons_of_mem _ (List.mem_append_right _ h)
set_option maxRecDepth 100000 in
set_option maxHeartbeats 4000000 in
theorem c_X5_isNode (l : Launch) (D : va_G) (cT : Nat → ClassId) (ad : Nat → Nat) (n : Nat) (madded : Int32) (msides : Nat → Int32) (mkey : Nat → Int32) (misThere : Nat → Int32) (mboxes : Int32) (morder : Nat → Int32) (mlevels : Int32) (mnodes : Nat → Int32) (mentries : Nat → Int32) (mleft : Int32) (mlow : Int32) (mright : Int32) (mhigh : Int32) (mfirst : Int32) (mend : Int32) (mthrown : Int32) (a1 : Int32) (a2 : Int32) (r : Int32) (hf : f_X5_isNode n mlevels mnodes a1 a2 = some r) : cM l yX5_isNode wsX5_isNode rmX5_isNode D (ty4 cT) [.ref (ad 10), .int a1, .int a2] (wM cT ad madded msides mkey misThere mboxes morder mlevels mnodes mentries mleft mlow mright mhigh mfirst mend mthrown) (some (.int r)) (wM cT ad madded msides mkey misThere mboxes morder mlevels mnodes mentries mleft mlow mright mhigh mfirst mend mthrown) := by
  refine cM_of (cc := cX5_isNode) (maxL := 3) (ret := (some .boolean)) (own := RX5) (lv := [(0, .ref (ad 10)), (1, .int a1), (2, .int a2)]) (by decide) rfl (Nat.le_of_ble_eq_true rfl) rfl rfl ?_
  intro p e s m args below meth c A C hr
  unfold f_X5_isNode at hf
  refine h_aload_n (pc := 0) C dX5_isNode_0 rfl 0 rfl ?_
  refine h_iload_n (pc := 1) C dX5_isNode_1 rfl 1 rfl ?_
  obtain ⟨v1, hc, hf⟩ := jbd_s hf
  refine h_callV (pc := 2) (q0 := 0) (As := [.int a1]) (rest := []) (ws' := (wM cT ad madded msides mkey misThere mboxes morder mlevels mnodes mentries mleft mlow mright mhigh mfirst mend mthrown)) (st2 := .int v1 :: []) C (c_X5_isLevel l D cT ad n madded msides mkey misThere mboxes morder mlevels mnodes mentries mleft mlow mright mhigh mfirst mend mthrown a1 v1 hc) (cwV 1 C.1.2.2.2.2 gX5_isNode_X5_isLevel rfl rfl rfl pv_X5_isLevel ⟨(Nat.le_of_ble_eq_true rfl), (Nat.le_of_ble_eq_true rfl)⟩) dX5_isNode_2 rfl rfl rfl rfl rfl (Nat.le_of_ble_eq_true rfl) ⟨rfl, rfl⟩ ⟨(Nat.le_of_ble_eq_true rfl), (Nat.le_of_ble_eq_true rfl)⟩ [0, 1, 2, 3, 4, 5, 6] [] [0, 1, 2, 3, 4, 5, 6] rfl rfl rfl rfl (by decide) rfl rfl rfl ?_
  clear hc
  refine h_if_eq (pc := 5) (tgt := 26) C dX5_isNode_5 (by decide) (fun q => ?_) (fun q => ?_)
  · replace hf := jif_t q hf
    clear q
    refine h_iconst (pc := 26) C dX5_isNode_26 jc_0 ?_
    have g0 := (Option.some.inj hf)
    clear hf
    subst g0
    exact h_zret C hr rfl dX5_isNode_27
  · replace hf := jif_f q hf
    clear q
    refine h_iload_n (pc := 8) C dX5_isNode_8 rfl 2 rfl ?_
    refine h_if_lt (pc := 9) (tgt := 26) C dX5_isNode_9 (by decide) (fun q => ?_) (fun q => ?_)
    · replace hf := jif_t q hf
      clear q
      refine h_iconst (pc := 26) C dX5_isNode_26 jc_0 ?_
      have g0 := (Option.some.inj hf)
      clear hf
      subst g0
      exact h_zret C hr rfl dX5_isNode_27
    · replace hf := jif_f q hf
      clear q
      refine h_iload_n (pc := 12) C dX5_isNode_12 rfl 2 rfl ?_
      refine h_aload_n (pc := 13) C dX5_isNode_13 rfl 0 rfl ?_
      refine h_get (pc := 14) (ci := 3) (C0 := RX5) (T := TX5) (N := 16) C uX5_isNode_X5 rfl 0 rfl 7 (by decide) (List.mem_of_getElem? (i := 1) rfl) rfl rfl dX5_isNode_14 ?_
      refine h_iload_n (pc := 17) C dX5_isNode_17 rfl 1 rfl ?_
      obtain ⟨hi, v2, hv, hf⟩ := jrd_s hf
      refine h_iald (pc := 18) C 5 0 rfl rfl hi hv dX5_isNode_18 ?_
      clear hi hv
      refine h_icmp_ge (pc := 19) (tgt := 26) C dX5_isNode_19 (by decide) (fun q => ?_) (fun q => ?_)
      · replace hf := jif_t q hf
        clear q
        refine h_iconst (pc := 26) C dX5_isNode_26 jc_0 ?_
        have g0 := (Option.some.inj hf)
        clear hf
        subst g0
        exact h_zret C hr rfl dX5_isNode_27
      · replace hf := jif_f q hf
        clear q
        refine h_iconst (pc := 22) C dX5_isNode_22 jc_1 ?_
        refine h_goto (pc := 23) (tgt := 27) C dX5_isNode_23 (by decide) ?_
        have g0 := (Option.some.inj hf)
        clear hf
        subst g0
        exact h_zret C hr rfl dX5_isNode_27
theorem pv_X5_isNode : yX5_isNode.cls = RX5 ∧ yX5_isNode.cls ≠ "java/lang/invoke/MethodHandle" ∧ yX5_isNode.cls ≠ "java/lang/invoke/VarHandle" ∧ (parseMethodDescriptor yX5_isNode.desc).map (fun d => d.parameters.length) = some 2 := by decide +kernel
abbrev rmX5_entries : Room := { frames := 2, cells := 0, slots := 0, locals := 43 }
set_option maxRecDepth 100000 in
set_option maxHeartbeats 4000000 in
theorem k_X5_entries_15 {p : Program} {e : Env} {s : State} {m : MethodId} {args : Array Value} {below : List Frame} {meth : Method} {c : Code} {A : Nat → Prop} (l : Launch) (D : va_G) (cT : Nat → ClassId) (ad : Nat → Nat) (C : hC p s m args meth c cX5_entries 3 wsX5_entries RX5 D (ty4 cT) A) (hr : meth.sig.returnType = (some .int)) (n : Nat) (madded : Int32) (msides : Nat → Int32) (mkey : Nat → Int32) (misThere : Nat → Int32) (mboxes : Int32) (morder : Nat → Int32) (mlevels : Int32) (mnodes : Nat → Int32) (mentries : Nat → Int32) (mleft : Int32) (mlow : Int32) (mright : Int32) (mhigh : Int32) (mfirst : Int32) (mend : Int32) (r : Int32) (mthrown' : Int32)  : ∀ (mthrown : Int32) (x1 : Int32) (x2 : Int32) (t1 : Int32), f_X5_entries_15 n mlevels mnodes mentries mthrown x1 x2 t1 = some (r, mthrown') → hS p l e rmX5_entries s m args below meth c 3 D A 0 0 (MQ below (cQ D (ty4 cT) A (some (.int r)) (wM cT ad madded msides mkey misThere mboxes morder mlevels mnodes mentries mleft mlow mright mhigh mfirst mend mthrown')) args s 0 0 A) 15 [(0, .ref (ad 10)), (1, .int x1), (2, .int x2)] (.int t1 :: .ref (ad 10) :: []) (wM cT ad madded msides mkey misThere mboxes morder mlevels mnodes mentries mleft mlow mright mhigh mfirst mend mthrown) := by
  intro mthrown x1 x2 t1 hf
  unfold f_X5_entries_15 at hf
  obtain ⟨v2, hc, hf⟩ := jbd_s hf
  refine h_callV (pc := 15) (q0 := 0) (As := [.int t1]) (rest := []) (ws' := (wM cT ad madded msides mkey misThere mboxes morder mlevels mnodes mentries mleft mlow mright mhigh mfirst mend v2.2)) (st2 := .int v2.1 :: []) C (c_X5_fails l D cT ad n madded msides mkey misThere mboxes morder mlevels mnodes mentries mleft mlow mright mhigh mfirst mend mthrown t1 v2.1 v2.2 hc) (cwV 1 C.1.2.2.2.2 gX5_entries_X5_fails rfl rfl rfl pv_X5_fails ⟨(Nat.le_of_ble_eq_true rfl), (Nat.le_of_ble_eq_true rfl)⟩) dX5_entries_15 rfl rfl rfl rfl rfl (Nat.le_of_ble_eq_true rfl) ⟨rfl, rfl⟩ ⟨(Nat.le_of_ble_eq_true rfl), (Nat.le_of_ble_eq_true rfl)⟩ [0, 1, 2, 3, 4, 5, 6] [] [0, 1, 2, 3, 4, 5, 6] rfl rfl rfl rfl (by decide) rfl rfl rfl ?_
  clear hc
  refine h_if_eq (pc := 18) (tgt := 25) C dX5_entries_18 (by decide) (fun q => ?_) (fun q => ?_)
  · replace hf := jif_t q hf
    clear q
    refine h_aload_n (pc := 25) C dX5_entries_25 rfl 0 rfl ?_
    refine h_iload_n (pc := 26) C dX5_entries_26 rfl 1 rfl ?_
    refine h_iload_n (pc := 27) C dX5_entries_27 rfl 2 rfl ?_
    obtain ⟨v3, hc, hf⟩ := jbd_s hf
    refine h_callV (pc := 28) (q0 := 0) (As := [.int x1, .int x2]) (rest := []) (ws' := (wM cT ad madded msides mkey misThere mboxes morder mlevels mnodes mentries mleft mlow mright mhigh mfirst mend v2.2)) (st2 := .int v3 :: []) C (c_X5_many l D cT ad n madded msides mkey misThere mboxes morder mlevels mnodes mentries mleft mlow mright mhigh mfirst mend v2.2 x1 x2 v3 hc) (cwV 2 C.1.2.2.2.2 gX5_entries_X5_many rfl rfl rfl pv_X5_many ⟨(Nat.le_of_ble_eq_true rfl), (Nat.le_of_ble_eq_true rfl)⟩) dX5_entries_28 rfl rfl rfl rfl rfl (Nat.le_of_ble_eq_true rfl) ⟨rfl, rfl⟩ ⟨(Nat.le_of_ble_eq_true rfl), (Nat.le_of_ble_eq_true rfl)⟩ [0, 1, 2, 3, 4, 5, 6] [] [0, 1, 2, 3, 4, 5, 6] rfl rfl rfl rfl (by decide) rfl rfl rfl ?_
    clear hc
    have g0 := (Prod.mk.inj (Option.some.inj hf)).1
    have g1 := (Prod.mk.inj (Option.some.inj hf)).2
    clear hf
    subst g0
    subst g1
    exact h_iret C hr dX5_entries_31
  · replace hf := jif_f q hf
    clear q
    refine h_iconst (pc := 21) C dX5_entries_21 jc_0 ?_
    refine h_goto (pc := 22) (tgt := 31) C dX5_entries_22 (by decide) ?_
    have g0 := (Prod.mk.inj (Option.some.inj hf)).1
    have g1 := (Prod.mk.inj (Option.some.inj hf)).2
    clear hf
    subst g0
    subst g1
    exact h_iret C hr dX5_entries_31
set_option maxRecDepth 100000 in
set_option maxHeartbeats 4000000 in
theorem c_X5_entries (l : Launch) (D : va_G) (cT : Nat → ClassId) (ad : Nat → Nat) (n : Nat) (madded : Int32) (msides : Nat → Int32) (mkey : Nat → Int32) (misThere : Nat → Int32) (mboxes : Int32) (morder : Nat → Int32) (mlevels : Int32) (mnodes : Nat → Int32) (mentries : Nat → Int32) (mleft : Int32) (mlow : Int32) (mright : Int32) (mhigh : Int32) (mfirst : Int32) (mend : Int32) (mthrown : Int32) (a1 : Int32) (a2 : Int32) (r : Int32) (mthrown' : Int32) (hf : f_X5_entries n mlevels mnodes mentries mthrown a1 a2 = some (r, mthrown')) : cM l yX5_entries wsX5_entries rmX5_entries D (ty4 cT) [.ref (ad 10), .int a1, .int a2] (wM cT ad madded msides mkey misThere mboxes morder mlevels mnodes mentries mleft mlow mright mhigh mfirst mend mthrown) (some (.int r)) (wM cT ad madded msides mkey misThere mboxes morder mlevels mnodes mentries mleft mlow mright mhigh mfirst mend mthrown') := by
  refine cM_of (cc := cX5_entries) (maxL := 3) (ret := (some .int)) (own := RX5) (lv := [(0, .ref (ad 10)), (1, .int a1), (2, .int a2)]) (by decide) rfl (Nat.le_of_ble_eq_true rfl) rfl rfl ?_
  intro p e s m args below meth c A C hr
  unfold f_X5_entries at hf
  refine h_aload_n (pc := 0) C dX5_entries_0 rfl 0 rfl ?_
  refine h_aload_n (pc := 1) C dX5_entries_1 rfl 0 rfl ?_
  refine h_iload_n (pc := 2) C dX5_entries_2 rfl 1 rfl ?_
  refine h_iload_n (pc := 3) C dX5_entries_3 rfl 2 rfl ?_
  obtain ⟨v1, hc, hf⟩ := jbd_s hf
  refine h_callV (pc := 4) (q0 := 0) (As := [.int a1, .int a2]) (rest := .ref (ad 10) :: []) (ws' := (wM cT ad madded msides mkey misThere mboxes morder mlevels mnodes mentries mleft mlow mright mhigh mfirst mend mthrown)) (st2 := .int v1 :: .ref (ad 10) :: []) C (c_X5_isNode l D cT ad n madded msides mkey misThere mboxes morder mlevels mnodes mentries mleft mlow mright mhigh mfirst mend mthrown a1 a2 v1 hc) (cwV 2 C.1.2.2.2.2 gX5_entries_X5_isNode rfl rfl rfl pv_X5_isNode ⟨(Nat.le_of_ble_eq_true rfl), (Nat.le_of_ble_eq_true rfl)⟩) dX5_entries_4 rfl rfl rfl rfl rfl (Nat.le_of_ble_eq_true rfl) ⟨rfl, rfl⟩ ⟨(Nat.le_of_ble_eq_true rfl), (Nat.le_of_ble_eq_true rfl)⟩ [0, 1, 2, 3, 4, 5, 6] [] [0, 1, 2, 3, 4, 5, 6] rfl rfl rfl rfl (by decide) rfl rfl rfl ?_
  clear hc
  refine h_if_eq (pc := 7) (tgt := 14) C dX5_entries_7 (by decide) (fun q => ?_) (fun q => ?_)
  · replace hf := jif_t q hf
    clear q
    refine h_iconst (pc := 14) C dX5_entries_14 jc_1 ?_
    exact k_X5_entries_15 l D cT ad C hr n madded msides mkey misThere mboxes morder mlevels mnodes mentries mleft mlow mright mhigh mfirst mend r mthrown' mthrown a1 a2 1 hf
  · replace hf := jif_f q hf
    clear q
    refine h_iconst (pc := 10) C dX5_entries_10 jc_0 ?_
    refine h_goto (pc := 11) (tgt := 15) C dX5_entries_11 (by decide) ?_
    exact k_X5_entries_15 l D cT ad C hr n madded msides mkey misThere mboxes morder mlevels mnodes mentries mleft mlow mright mhigh mfirst mend r mthrown' mthrown a1 a2 0 hf
theorem pv_X5_entries : yX5_entries.cls = RX5 ∧ yX5_entries.cls ≠ "java/lang/invoke/MethodHandle" ∧ yX5_entries.cls ≠ "java/lang/invoke/VarHandle" ∧ (parseMethodDescriptor yX5_entries.desc).map (fun d => d.parameters.length) = some 2 := by decide +kernel
abbrev rmX5_covers : Room := { frames := 2, cells := 0, slots := 0, locals := 46 }
theorem uX5_covers_X5 : ∀ w ∈ u_ws RX5 TX5 16, w ∈ wsX5_covers := fun w h => List.mem_cons_of_mem _ (List.mem_append_right _ h)
set_option maxRecDepth 100000 in
set_option maxHeartbeats 4000000 in
theorem k_X5_covers_234 {p : Program} {e : Env} {s : State} {m : MethodId} {args : Array Value} {below : List Frame} {meth : Method} {c : Code} {A : Nat → Prop} (l : Launch) (D : va_G) (cT : Nat → ClassId) (ad : Nat → Nat) (C : hC p s m args meth c cX5_covers 5 wsX5_covers RX5 D (ty4 cT) A) (hr : meth.sig.returnType = none) (n : Nat) (madded : Int32) (msides : Nat → Int32) (mkey : Nat → Int32) (misThere : Nat → Int32) (mboxes : Int32) (morder : Nat → Int32) (mlevels : Int32) (mnodes : Nat → Int32) (mentries : Nat → Int32) (mthrown : Int32) (mleft' : Int32) (mlow' : Int32) (mright' : Int32) (mhigh' : Int32) (mfirst' : Int32) (mend' : Int32) (k79 : Int32 → Int32 → Int32 → Int32 → Int32 → Int32 → Int32 → Option (Int32 × Int32 × Int32 × Int32 × Int32 × Int32)) (K79 : ∀ (mleft : Int32) (mlow : Int32) (mright : Int32) (mhigh : Int32) (mfirst : Int32) (mend : Int32) (x3 : Int32), k79 mleft mlow mright mhigh mfirst mend x3 = some (mleft', mlow', mright', mhigh', mfirst', mend') → hS p l e rmX5_covers s m args below meth c 5 D A 0 0 (MQ below (cQ D (ty4 cT) A none (wM cT ad madded msides mkey misThere mboxes morder mlevels mnodes mentries mleft' mlow' mright' mhigh' mfirst' mend' mthrown)) args s 0 0 A) 79 [(0, .ref (ad 10)), (3, .int x3)] [] (wM cT ad madded msides mkey misThere mboxes morder mlevels mnodes mentries mleft mlow mright mhigh mfirst mend mthrown)) : ∀ (mleft : Int32) (mlow : Int32) (mright : Int32) (mhigh : Int32) (mfirst : Int32) (mend : Int32) (x3 : Int32) (t1 : Int32), f_X5_covers_234 n msides morder mentries k79 mleft mlow mright mhigh mfirst mend x3 t1 = some (mleft', mlow', mright', mhigh', mfirst', mend') → hS p l e rmX5_covers s m args below meth c 5 D A 0 0 (MQ below (cQ D (ty4 cT) A none (wM cT ad madded msides mkey misThere mboxes morder mlevels mnodes mentries mleft' mlow' mright' mhigh' mfirst' mend' mthrown)) args s 0 0 A) 234 [(0, .ref (ad 10)), (3, .int x3)] (.int t1 :: .ref (ad 10) :: []) (wM cT ad madded msides mkey misThere mboxes morder mlevels mnodes mentries mleft mlow mright mhigh mfirst mend mthrown) := by
  intro mleft mlow mright mhigh mfirst mend x3 t1 hf
  unfold f_X5_covers_234 at hf
  refine h_put (pc := 234) (ci := 3) (C0 := RX5) (T := TX5) (N := 16) (ws' := (wM cT ad madded msides mkey misThere mboxes morder mlevels mnodes mentries mleft mlow mright t1 mfirst mend mthrown)) C uX5_covers_X5 tyX5 tyX5_ok nmX5 rfl 0 rfl 12 (by decide) (List.mem_of_getElem? (i := 6) rfl) rfl rfl rfl (Nat.le_of_ble_eq_true rfl) rfl dX5_covers_234 ?_
  refine h_iinc (pc := 237) (v := x3 + 1) (lv' := [(3, .int (x3 + 1)), (0, .ref (ad 10))]) C dX5_covers_237 1 rfl (ji_1 _) (by decide) rfl ?_
  refine h_goto (pc := 240) (tgt := 79) C dX5_covers_240 (by decide) ?_
  refine h_sub [1, 0] rfl ?_
  exact K79 mleft mlow mright t1 mfirst mend (x3 + 1) hf
set_option maxRecDepth 100000 in
set_option maxHeartbeats 4000000 in
theorem k_X5_covers_198 {p : Program} {e : Env} {s : State} {m : MethodId} {args : Array Value} {below : List Frame} {meth : Method} {c : Code} {A : Nat → Prop} (l : Launch) (D : va_G) (cT : Nat → ClassId) (ad : Nat → Nat) (C : hC p s m args meth c cX5_covers 5 wsX5_covers RX5 D (ty4 cT) A) (hr : meth.sig.returnType = none) (n : Nat) (madded : Int32) (msides : Nat → Int32) (mkey : Nat → Int32) (misThere : Nat → Int32) (mboxes : Int32) (morder : Nat → Int32) (mlevels : Int32) (mnodes : Nat → Int32) (mentries : Nat → Int32) (mthrown : Int32) (mleft' : Int32) (mlow' : Int32) (mright' : Int32) (mhigh' : Int32) (mfirst' : Int32) (mend' : Int32) (k79 : Int32 → Int32 → Int32 → Int32 → Int32 → Int32 → Int32 → Option (Int32 × Int32 × Int32 × Int32 × Int32 × Int32)) (K79 : ∀ (mleft : Int32) (mlow : Int32) (mright : Int32) (mhigh : Int32) (mfirst : Int32) (mend : Int32) (x3 : Int32), k79 mleft mlow mright mhigh mfirst mend x3 = some (mleft', mlow', mright', mhigh', mfirst', mend') → hS p l e rmX5_covers s m args below meth c 5 D A 0 0 (MQ below (cQ D (ty4 cT) A none (wM cT ad madded msides mkey misThere mboxes morder mlevels mnodes mentries mleft' mlow' mright' mhigh' mfirst' mend' mthrown)) args s 0 0 A) 79 [(0, .ref (ad 10)), (3, .int x3)] [] (wM cT ad madded msides mkey misThere mboxes morder mlevels mnodes mentries mleft mlow mright mhigh mfirst mend mthrown)) : ∀ (mleft : Int32) (mlow : Int32) (mright : Int32) (mhigh : Int32) (mfirst : Int32) (mend : Int32) (x3 : Int32) (x4 : Int32) (t1 : Int32), f_X5_covers_198 n msides morder mentries k79 mleft mlow mright mhigh mfirst mend x3 x4 t1 = some (mleft', mlow', mright', mhigh', mfirst', mend') → hS p l e rmX5_covers s m args below meth c 5 D A 0 0 (MQ below (cQ D (ty4 cT) A none (wM cT ad madded msides mkey misThere mboxes morder mlevels mnodes mentries mleft' mlow' mright' mhigh' mfirst' mend' mthrown)) args s 0 0 A) 198 [(0, .ref (ad 10)), (3, .int x3), (4, .int x4)] (.int t1 :: .ref (ad 10) :: []) (wM cT ad madded msides mkey misThere mboxes morder mlevels mnodes mentries mleft mlow mright mhigh mfirst mend mthrown) := by
  intro mleft mlow mright mhigh mfirst mend x3 x4 t1 hf
  unfold f_X5_covers_198 at hf
  refine h_put (pc := 198) (ci := 3) (C0 := RX5) (T := TX5) (N := 16) (ws' := (wM cT ad madded msides mkey misThere mboxes morder mlevels mnodes mentries mleft mlow t1 mhigh mfirst mend mthrown)) C uX5_covers_X5 tyX5 tyX5_ok nmX5 rfl 0 rfl 11 (by decide) (List.mem_of_getElem? (i := 5) rfl) rfl rfl rfl (Nat.le_of_ble_eq_true rfl) rfl dX5_covers_198 ?_
  refine h_aload_n (pc := 201) C dX5_covers_201 rfl 0 rfl ?_
  refine h_aload_n (pc := 202) C dX5_covers_202 rfl 0 rfl ?_
  refine h_get (pc := 203) (ci := 3) (C0 := RX5) (T := TX5) (N := 16) C uX5_covers_X5 rfl 0 rfl 1 (by decide) (List.mem_of_getElem? (i := 8) rfl) rfl rfl dX5_covers_203 ?_
  refine h_iload (pc := 206) C dX5_covers_206 2 rfl ?_
  refine h_iconst (pc := 208) C dX5_covers_208 jc_3 ?_
  refine h_iadd (pc := 209) C dX5_covers_209 ?_
  obtain ⟨hi, v10, hv, hf⟩ := jrd_s hf
  refine h_iald (pc := 210) C 1 0 rfl rfl hi hv dX5_covers_210 ?_
  clear hi hv
  refine h_aload_n (pc := 211) C dX5_covers_211 rfl 0 rfl ?_
  refine h_get (pc := 212) (ci := 3) (C0 := RX5) (T := TX5) (N := 16) C uX5_covers_X5 rfl 0 rfl 12 (by decide) (List.mem_of_getElem? (i := 6) rfl) rfl rfl dX5_covers_212 ?_
  refine h_icmp_le (pc := 215) (tgt := 230) C dX5_covers_215 (by decide) (fun q => ?_) (fun q => ?_)
  · replace hf := jif_t q hf
    clear q
    refine h_aload_n (pc := 230) C dX5_covers_230 rfl 0 rfl ?_
    refine h_get (pc := 231) (ci := 3) (C0 := RX5) (T := TX5) (N := 16) C uX5_covers_X5 rfl 0 rfl 12 (by decide) (List.mem_of_getElem? (i := 6) rfl) rfl rfl dX5_covers_231 ?_
    refine h_sub [0, 1] rfl ?_
    exact k_X5_covers_234 l D cT ad C hr n madded msides mkey misThere mboxes morder mlevels mnodes mentries mthrown mleft' mlow' mright' mhigh' mfirst' mend' k79 K79 mleft mlow t1 mhigh mfirst mend x3 mhigh hf
  · replace hf := jif_f q hf
    clear q
    refine h_aload_n (pc := 218) C dX5_covers_218 rfl 0 rfl ?_
    refine h_get (pc := 219) (ci := 3) (C0 := RX5) (T := TX5) (N := 16) C uX5_covers_X5 rfl 0 rfl 1 (by decide) (List.mem_of_getElem? (i := 8) rfl) rfl rfl dX5_covers_219 ?_
    refine h_iload (pc := 222) C dX5_covers_222 2 rfl ?_
    refine h_iconst (pc := 224) C dX5_covers_224 jc_3 ?_
    refine h_iadd (pc := 225) C dX5_covers_225 ?_
    obtain ⟨hi, v11, hv, hf⟩ := jrd_s hf
    refine h_iald (pc := 226) C 1 0 rfl rfl hi hv dX5_covers_226 ?_
    clear hi hv
    refine h_goto (pc := 227) (tgt := 234) C dX5_covers_227 (by decide) ?_
    refine h_sub [0, 1] rfl ?_
    exact k_X5_covers_234 l D cT ad C hr n madded msides mkey misThere mboxes morder mlevels mnodes mentries mthrown mleft' mlow' mright' mhigh' mfirst' mend' k79 K79 mleft mlow t1 mhigh mfirst mend x3 v11 hf
set_option maxRecDepth 100000 in
set_option maxHeartbeats 4000000 in
theorem k_X5_covers_162 {p : Program} {e : Env} {s : State} {m : MethodId} {args : Array Value} {below : List Frame} {meth : Method} {c : Code} {A : Nat → Prop} (l : Launch) (D : va_G) (cT : Nat → ClassId) (ad : Nat → Nat) (C : hC p s m args meth c cX5_covers 5 wsX5_covers RX5 D (ty4 cT) A) (hr : meth.sig.returnType = none) (n : Nat) (madded : Int32) (msides : Nat → Int32) (mkey : Nat → Int32) (misThere : Nat → Int32) (mboxes : Int32) (morder : Nat → Int32) (mlevels : Int32) (mnodes : Nat → Int32) (mentries : Nat → Int32) (mthrown : Int32) (mleft' : Int32) (mlow' : Int32) (mright' : Int32) (mhigh' : Int32) (mfirst' : Int32) (mend' : Int32) (k79 : Int32 → Int32 → Int32 → Int32 → Int32 → Int32 → Int32 → Option (Int32 × Int32 × Int32 × Int32 × Int32 × Int32)) (K79 : ∀ (mleft : Int32) (mlow : Int32) (mright : Int32) (mhigh : Int32) (mfirst : Int32) (mend : Int32) (x3 : Int32), k79 mleft mlow mright mhigh mfirst mend x3 = some (mleft', mlow', mright', mhigh', mfirst', mend') → hS p l e rmX5_covers s m args below meth c 5 D A 0 0 (MQ below (cQ D (ty4 cT) A none (wM cT ad madded msides mkey misThere mboxes morder mlevels mnodes mentries mleft' mlow' mright' mhigh' mfirst' mend' mthrown)) args s 0 0 A) 79 [(0, .ref (ad 10)), (3, .int x3)] [] (wM cT ad madded msides mkey misThere mboxes morder mlevels mnodes mentries mleft mlow mright mhigh mfirst mend mthrown)) : ∀ (mleft : Int32) (mlow : Int32) (mright : Int32) (mhigh : Int32) (mfirst : Int32) (mend : Int32) (x3 : Int32) (x4 : Int32) (t1 : Int32), f_X5_covers_162 n msides morder mentries k79 mleft mlow mright mhigh mfirst mend x3 x4 t1 = some (mleft', mlow', mright', mhigh', mfirst', mend') → hS p l e rmX5_covers s m args below meth c 5 D A 0 0 (MQ below (cQ D (ty4 cT) A none (wM cT ad madded msides mkey misThere mboxes morder mlevels mnodes mentries mleft' mlow' mright' mhigh' mfirst' mend' mthrown)) args s 0 0 A) 162 [(0, .ref (ad 10)), (3, .int x3), (4, .int x4)] (.int t1 :: .ref (ad 10) :: []) (wM cT ad madded msides mkey misThere mboxes morder mlevels mnodes mentries mleft mlow mright mhigh mfirst mend mthrown) := by
  intro mleft mlow mright mhigh mfirst mend x3 x4 t1 hf
  unfold f_X5_covers_162 at hf
  refine h_put (pc := 162) (ci := 3) (C0 := RX5) (T := TX5) (N := 16) (ws' := (wM cT ad madded msides mkey misThere mboxes morder mlevels mnodes mentries mleft t1 mright mhigh mfirst mend mthrown)) C uX5_covers_X5 tyX5 tyX5_ok nmX5 rfl 0 rfl 10 (by decide) (List.mem_of_getElem? (i := 4) rfl) rfl rfl rfl (Nat.le_of_ble_eq_true rfl) rfl dX5_covers_162 ?_
  refine h_aload_n (pc := 165) C dX5_covers_165 rfl 0 rfl ?_
  refine h_aload_n (pc := 166) C dX5_covers_166 rfl 0 rfl ?_
  refine h_get (pc := 167) (ci := 3) (C0 := RX5) (T := TX5) (N := 16) C uX5_covers_X5 rfl 0 rfl 1 (by decide) (List.mem_of_getElem? (i := 8) rfl) rfl rfl dX5_covers_167 ?_
  refine h_iload (pc := 170) C dX5_covers_170 2 rfl ?_
  refine h_iconst (pc := 172) C dX5_covers_172 jc_2 ?_
  refine h_iadd (pc := 173) C dX5_covers_173 ?_
  obtain ⟨hi, v8, hv, hf⟩ := jrd_s hf
  refine h_iald (pc := 174) C 1 0 rfl rfl hi hv dX5_covers_174 ?_
  clear hi hv
  refine h_aload_n (pc := 175) C dX5_covers_175 rfl 0 rfl ?_
  refine h_get (pc := 176) (ci := 3) (C0 := RX5) (T := TX5) (N := 16) C uX5_covers_X5 rfl 0 rfl 11 (by decide) (List.mem_of_getElem? (i := 5) rfl) rfl rfl dX5_covers_176 ?_
  refine h_icmp_le (pc := 179) (tgt := 194) C dX5_covers_179 (by decide) (fun q => ?_) (fun q => ?_)
  · replace hf := jif_t q hf
    clear q
    refine h_aload_n (pc := 194) C dX5_covers_194 rfl 0 rfl ?_
    refine h_get (pc := 195) (ci := 3) (C0 := RX5) (T := TX5) (N := 16) C uX5_covers_X5 rfl 0 rfl 11 (by decide) (List.mem_of_getElem? (i := 5) rfl) rfl rfl dX5_covers_195 ?_
    exact k_X5_covers_198 l D cT ad C hr n madded msides mkey misThere mboxes morder mlevels mnodes mentries mthrown mleft' mlow' mright' mhigh' mfirst' mend' k79 K79 mleft t1 mright mhigh mfirst mend x3 x4 mright hf
  · replace hf := jif_f q hf
    clear q
    refine h_aload_n (pc := 182) C dX5_covers_182 rfl 0 rfl ?_
    refine h_get (pc := 183) (ci := 3) (C0 := RX5) (T := TX5) (N := 16) C uX5_covers_X5 rfl 0 rfl 1 (by decide) (List.mem_of_getElem? (i := 8) rfl) rfl rfl dX5_covers_183 ?_
    refine h_iload (pc := 186) C dX5_covers_186 2 rfl ?_
    refine h_iconst (pc := 188) C dX5_covers_188 jc_2 ?_
    refine h_iadd (pc := 189) C dX5_covers_189 ?_
    obtain ⟨hi, v9, hv, hf⟩ := jrd_s hf
    refine h_iald (pc := 190) C 1 0 rfl rfl hi hv dX5_covers_190 ?_
    clear hi hv
    refine h_goto (pc := 191) (tgt := 198) C dX5_covers_191 (by decide) ?_
    exact k_X5_covers_198 l D cT ad C hr n madded msides mkey misThere mboxes morder mlevels mnodes mentries mthrown mleft' mlow' mright' mhigh' mfirst' mend' k79 K79 mleft t1 mright mhigh mfirst mend x3 x4 v9 hf
set_option maxRecDepth 100000 in
set_option maxHeartbeats 4000000 in
theorem k_X5_covers_126 {p : Program} {e : Env} {s : State} {m : MethodId} {args : Array Value} {below : List Frame} {meth : Method} {c : Code} {A : Nat → Prop} (l : Launch) (D : va_G) (cT : Nat → ClassId) (ad : Nat → Nat) (C : hC p s m args meth c cX5_covers 5 wsX5_covers RX5 D (ty4 cT) A) (hr : meth.sig.returnType = none) (n : Nat) (madded : Int32) (msides : Nat → Int32) (mkey : Nat → Int32) (misThere : Nat → Int32) (mboxes : Int32) (morder : Nat → Int32) (mlevels : Int32) (mnodes : Nat → Int32) (mentries : Nat → Int32) (mthrown : Int32) (mleft' : Int32) (mlow' : Int32) (mright' : Int32) (mhigh' : Int32) (mfirst' : Int32) (mend' : Int32) (k79 : Int32 → Int32 → Int32 → Int32 → Int32 → Int32 → Int32 → Option (Int32 × Int32 × Int32 × Int32 × Int32 × Int32)) (K79 : ∀ (mleft : Int32) (mlow : Int32) (mright : Int32) (mhigh : Int32) (mfirst : Int32) (mend : Int32) (x3 : Int32), k79 mleft mlow mright mhigh mfirst mend x3 = some (mleft', mlow', mright', mhigh', mfirst', mend') → hS p l e rmX5_covers s m args below meth c 5 D A 0 0 (MQ below (cQ D (ty4 cT) A none (wM cT ad madded msides mkey misThere mboxes morder mlevels mnodes mentries mleft' mlow' mright' mhigh' mfirst' mend' mthrown)) args s 0 0 A) 79 [(0, .ref (ad 10)), (3, .int x3)] [] (wM cT ad madded msides mkey misThere mboxes morder mlevels mnodes mentries mleft mlow mright mhigh mfirst mend mthrown)) : ∀ (mleft : Int32) (mlow : Int32) (mright : Int32) (mhigh : Int32) (mfirst : Int32) (mend : Int32) (x3 : Int32) (x4 : Int32) (t1 : Int32), f_X5_covers_126 n msides morder mentries k79 mleft mlow mright mhigh mfirst mend x3 x4 t1 = some (mleft', mlow', mright', mhigh', mfirst', mend') → hS p l e rmX5_covers s m args below meth c 5 D A 0 0 (MQ below (cQ D (ty4 cT) A none (wM cT ad madded msides mkey misThere mboxes morder mlevels mnodes mentries mleft' mlow' mright' mhigh' mfirst' mend' mthrown)) args s 0 0 A) 126 [(0, .ref (ad 10)), (3, .int x3), (4, .int x4)] (.int t1 :: .ref (ad 10) :: []) (wM cT ad madded msides mkey misThere mboxes morder mlevels mnodes mentries mleft mlow mright mhigh mfirst mend mthrown) := by
  intro mleft mlow mright mhigh mfirst mend x3 x4 t1 hf
  unfold f_X5_covers_126 at hf
  refine h_put (pc := 126) (ci := 3) (C0 := RX5) (T := TX5) (N := 16) (ws' := (wM cT ad madded msides mkey misThere mboxes morder mlevels mnodes mentries t1 mlow mright mhigh mfirst mend mthrown)) C uX5_covers_X5 tyX5 tyX5_ok nmX5 rfl 0 rfl 9 (by decide) (List.mem_of_getElem? (i := 3) rfl) rfl rfl rfl (Nat.le_of_ble_eq_true rfl) rfl dX5_covers_126 ?_
  refine h_aload_n (pc := 129) C dX5_covers_129 rfl 0 rfl ?_
  refine h_aload_n (pc := 130) C dX5_covers_130 rfl 0 rfl ?_
  refine h_get (pc := 131) (ci := 3) (C0 := RX5) (T := TX5) (N := 16) C uX5_covers_X5 rfl 0 rfl 1 (by decide) (List.mem_of_getElem? (i := 8) rfl) rfl rfl dX5_covers_131 ?_
  refine h_iload (pc := 134) C dX5_covers_134 2 rfl ?_
  refine h_iconst (pc := 136) C dX5_covers_136 jc_1 ?_
  refine h_iadd (pc := 137) C dX5_covers_137 ?_
  obtain ⟨hi, v6, hv, hf⟩ := jrd_s hf
  refine h_iald (pc := 138) C 1 0 rfl rfl hi hv dX5_covers_138 ?_
  clear hi hv
  refine h_aload_n (pc := 139) C dX5_covers_139 rfl 0 rfl ?_
  refine h_get (pc := 140) (ci := 3) (C0 := RX5) (T := TX5) (N := 16) C uX5_covers_X5 rfl 0 rfl 10 (by decide) (List.mem_of_getElem? (i := 4) rfl) rfl rfl dX5_covers_140 ?_
  refine h_icmp_ge (pc := 143) (tgt := 158) C dX5_covers_143 (by decide) (fun q => ?_) (fun q => ?_)
  · replace hf := jif_t q hf
    clear q
    refine h_aload_n (pc := 158) C dX5_covers_158 rfl 0 rfl ?_
    refine h_get (pc := 159) (ci := 3) (C0 := RX5) (T := TX5) (N := 16) C uX5_covers_X5 rfl 0 rfl 10 (by decide) (List.mem_of_getElem? (i := 4) rfl) rfl rfl dX5_covers_159 ?_
    exact k_X5_covers_162 l D cT ad C hr n madded msides mkey misThere mboxes morder mlevels mnodes mentries mthrown mleft' mlow' mright' mhigh' mfirst' mend' k79 K79 t1 mlow mright mhigh mfirst mend x3 x4 mlow hf
  · replace hf := jif_f q hf
    clear q
    refine h_aload_n (pc := 146) C dX5_covers_146 rfl 0 rfl ?_
    refine h_get (pc := 147) (ci := 3) (C0 := RX5) (T := TX5) (N := 16) C uX5_covers_X5 rfl 0 rfl 1 (by decide) (List.mem_of_getElem? (i := 8) rfl) rfl rfl dX5_covers_147 ?_
    refine h_iload (pc := 150) C dX5_covers_150 2 rfl ?_
    refine h_iconst (pc := 152) C dX5_covers_152 jc_1 ?_
    refine h_iadd (pc := 153) C dX5_covers_153 ?_
    obtain ⟨hi, v7, hv, hf⟩ := jrd_s hf
    refine h_iald (pc := 154) C 1 0 rfl rfl hi hv dX5_covers_154 ?_
    clear hi hv
    refine h_goto (pc := 155) (tgt := 162) C dX5_covers_155 (by decide) ?_
    exact k_X5_covers_162 l D cT ad C hr n madded msides mkey misThere mboxes morder mlevels mnodes mentries mthrown mleft' mlow' mright' mhigh' mfirst' mend' k79 K79 t1 mlow mright mhigh mfirst mend x3 x4 v7 hf
set_option maxRecDepth 100000 in
set_option maxHeartbeats 4000000 in
theorem k_X5_covers_79 {p : Program} {e : Env} {s : State} {m : MethodId} {args : Array Value} {below : List Frame} {meth : Method} {c : Code} {A : Nat → Prop} (l : Launch) (D : va_G) (cT : Nat → ClassId) (ad : Nat → Nat) (C : hC p s m args meth c cX5_covers 5 wsX5_covers RX5 D (ty4 cT) A) (hr : meth.sig.returnType = none) (n : Nat) (madded : Int32) (msides : Nat → Int32) (mkey : Nat → Int32) (misThere : Nat → Int32) (mboxes : Int32) (morder : Nat → Int32) (mlevels : Int32) (mnodes : Nat → Int32) (mentries : Nat → Int32) (mthrown : Int32) (mleft' : Int32) (mlow' : Int32) (mright' : Int32) (mhigh' : Int32) (mfirst' : Int32) (mend' : Int32)  : ∀ (fu : Nat) (mleft : Int32) (mlow : Int32) (mright : Int32) (mhigh : Int32) (mfirst : Int32) (mend : Int32) (x3 : Int32), f_X5_covers_79 n msides morder mentries fu mleft mlow mright mhigh mfirst mend x3 = some (mleft', mlow', mright', mhigh', mfirst', mend') → hS p l e rmX5_covers s m args below meth c 5 D A 0 0 (MQ below (cQ D (ty4 cT) A none (wM cT ad madded msides mkey misThere mboxes morder mlevels mnodes mentries mleft' mlow' mright' mhigh' mfirst' mend' mthrown)) args s 0 0 A) 79 [(0, .ref (ad 10)), (3, .int x3)] [] (wM cT ad madded msides mkey misThere mboxes morder mlevels mnodes mentries mleft mlow mright mhigh mfirst mend mthrown) := by
  intro fu
  induction fu with
  | zero =>
    intro mleft mlow mright mhigh mfirst mend x3 hf
    exact nomatch (show (none : Option (Int32 × Int32 × Int32 × Int32 × Int32 × Int32)) = some (mleft', mlow', mright', mhigh', mfirst', mend') from hf)
  | succ fu ih =>
    intro mleft mlow mright mhigh mfirst mend x3 hf
    rw [f_X5_covers_79] at hf
    refine h_iload_n (pc := 79) C dX5_covers_79 rfl 1 rfl ?_
    refine h_aload_n (pc := 80) C dX5_covers_80 rfl 0 rfl ?_
    refine h_get (pc := 81) (ci := 3) (C0 := RX5) (T := TX5) (N := 16) C uX5_covers_X5 rfl 0 rfl 14 (by decide) (List.mem_of_getElem? (i := 2) rfl) rfl rfl dX5_covers_81 ?_
    refine h_icmp_ge (pc := 84) (tgt := 243) C dX5_covers_84 (by decide) (fun q => ?_) (fun q => ?_)
    · replace hf := jif_t q hf
      clear q
      have g0 := (Prod.mk.inj (Option.some.inj hf)).1
      have g1 := (Prod.mk.inj (Prod.mk.inj (Option.some.inj hf)).2).1
      have g2 := (Prod.mk.inj (Prod.mk.inj (Prod.mk.inj (Option.some.inj hf)).2).2).1
      have g3 := (Prod.mk.inj (Prod.mk.inj (Prod.mk.inj (Prod.mk.inj (Option.some.inj hf)).2).2).2).1
      have g4 := (Prod.mk.inj (Prod.mk.inj (Prod.mk.inj (Prod.mk.inj (Prod.mk.inj (Option.some.inj hf)).2).2).2).2).1
      have g5 := (Prod.mk.inj (Prod.mk.inj (Prod.mk.inj (Prod.mk.inj (Prod.mk.inj (Option.some.inj hf)).2).2).2).2).2
      clear hf
      subst g0
      subst g1
      subst g2
      subst g3
      subst g4
      subst g5
      exact h_vret C hr dX5_covers_243
    · replace hf := jif_f q hf
      clear q
      refine h_iconst (pc := 87) C dX5_covers_87 jc_4 ?_
      refine h_aload_n (pc := 88) C dX5_covers_88 rfl 0 rfl ?_
      refine h_get (pc := 89) (ci := 3) (C0 := RX5) (T := TX5) (N := 16) C uX5_covers_X5 rfl 0 rfl 5 (by decide) (List.mem_of_getElem? (i := 7) rfl) rfl rfl dX5_covers_89 ?_
      refine h_iload_n (pc := 92) C dX5_covers_92 rfl 1 rfl ?_
      obtain ⟨hi, v3, hv, hf⟩ := jrd_s hf
      refine h_iald (pc := 93) C 4 0 rfl rfl hi hv dX5_covers_93 ?_
      clear hi hv
      refine h_imul (pc := 94) C dX5_covers_94 ?_
      refine h_istore (pc := 95) (lv' := [(4, .int (4 * v3)), (0, .ref (ad 10)), (3, .int x3)]) C dX5_covers_95 (by decide) rfl ?_
      refine h_aload_n (pc := 97) C dX5_covers_97 rfl 1 rfl ?_
      refine h_aload_n (pc := 98) C dX5_covers_98 rfl 1 rfl ?_
      refine h_get (pc := 99) (ci := 3) (C0 := RX5) (T := TX5) (N := 16) C uX5_covers_X5 rfl 0 rfl 1 (by decide) (List.mem_of_getElem? (i := 8) rfl) rfl rfl dX5_covers_99 ?_
      refine h_iload (pc := 102) C dX5_covers_102 0 rfl ?_
      obtain ⟨hi, v4, hv, hf⟩ := jrd_s hf
      refine h_iald (pc := 104) C 1 0 rfl rfl hi hv dX5_covers_104 ?_
      clear hi hv
      refine h_aload_n (pc := 105) C dX5_covers_105 rfl 1 rfl ?_
      refine h_get (pc := 106) (ci := 3) (C0 := RX5) (T := TX5) (N := 16) C uX5_covers_X5 rfl 0 rfl 9 (by decide) (List.mem_of_getElem? (i := 3) rfl) rfl rfl dX5_covers_106 ?_
      refine h_icmp_ge (pc := 109) (tgt := 122) C dX5_covers_109 (by decide) (fun q => ?_) (fun q => ?_)
      · replace hf := jif_t q hf
        clear q
        refine h_aload_n (pc := 122) C dX5_covers_122 rfl 1 rfl ?_
        refine h_get (pc := 123) (ci := 3) (C0 := RX5) (T := TX5) (N := 16) C uX5_covers_X5 rfl 0 rfl 9 (by decide) (List.mem_of_getElem? (i := 3) rfl) rfl rfl dX5_covers_123 ?_
        refine h_sub [1, 2, 0] rfl ?_
        exact k_X5_covers_126 l D cT ad C hr n madded msides mkey misThere mboxes morder mlevels mnodes mentries mthrown mleft' mlow' mright' mhigh' mfirst' mend' (f_X5_covers_79 n msides morder mentries fu) ih mleft mlow mright mhigh mfirst mend x3 (4 * v3) mleft hf
      · replace hf := jif_f q hf
        clear q
        refine h_aload_n (pc := 112) C dX5_covers_112 rfl 1 rfl ?_
        refine h_get (pc := 113) (ci := 3) (C0 := RX5) (T := TX5) (N := 16) C uX5_covers_X5 rfl 0 rfl 1 (by decide) (List.mem_of_getElem? (i := 8) rfl) rfl rfl dX5_covers_113 ?_
        refine h_iload (pc := 116) C dX5_covers_116 0 rfl ?_
        obtain ⟨hi, v5, hv, hf⟩ := jrd_s hf
        refine h_iald (pc := 118) C 1 0 rfl rfl hi hv dX5_covers_118 ?_
        clear hi hv
        refine h_goto (pc := 119) (tgt := 126) C dX5_covers_119 (by decide) ?_
        refine h_sub [1, 2, 0] rfl ?_
        exact k_X5_covers_126 l D cT ad C hr n madded msides mkey misThere mboxes morder mlevels mnodes mentries mthrown mleft' mlow' mright' mhigh' mfirst' mend' (f_X5_covers_79 n msides morder mentries fu) ih mleft mlow mright mhigh mfirst mend x3 (4 * v3) v5 hf
set_option maxRecDepth 100000 in
set_option maxHeartbeats 4000000 in
theorem k_X5_covers_14 {p : Program} {e : Env} {s : State} {m : MethodId} {args : Array Value} {below : List Frame} {meth : Method} {c : Code} {A : Nat → Prop} (l : Launch) (D : va_G) (cT : Nat → ClassId) (ad : Nat → Nat) (C : hC p s m args meth c cX5_covers 5 wsX5_covers RX5 D (ty4 cT) A) (hr : meth.sig.returnType = none) (n : Nat) (madded : Int32) (msides : Nat → Int32) (mkey : Nat → Int32) (misThere : Nat → Int32) (mboxes : Int32) (morder : Nat → Int32) (mlevels : Int32) (mnodes : Nat → Int32) (mentries : Nat → Int32) (mthrown : Int32) (mleft' : Int32) (mlow' : Int32) (mright' : Int32) (mhigh' : Int32) (mfirst' : Int32) (mend' : Int32)  : ∀ (fu : Nat) (mleft : Int32) (mlow : Int32) (mright : Int32) (mhigh : Int32) (mfirst : Int32) (mend : Int32) (x3 : Int32), f_X5_covers_14 n msides morder mentries fu mleft mlow mright mhigh mfirst mend x3 = some (mleft', mlow', mright', mhigh', mfirst', mend') → hS p l e rmX5_covers s m args below meth c 5 D A 0 0 (MQ below (cQ D (ty4 cT) A none (wM cT ad madded msides mkey misThere mboxes morder mlevels mnodes mentries mleft' mlow' mright' mhigh' mfirst' mend' mthrown)) args s 0 0 A) 14 [(0, .ref (ad 10)), (3, .int x3)] [] (wM cT ad madded msides mkey misThere mboxes morder mlevels mnodes mentries mleft mlow mright mhigh mfirst mend mthrown) := by
  intro fu
  induction fu with
  | zero =>
    intro mleft mlow mright mhigh mfirst mend x3 hf
    exact nomatch (show (none : Option (Int32 × Int32 × Int32 × Int32 × Int32 × Int32)) = some (mleft', mlow', mright', mhigh', mfirst', mend') from hf)
  | succ fu ih =>
    intro mleft mlow mright mhigh mfirst mend x3 hf
    rw [f_X5_covers_14] at hf
    refine h_iload_n (pc := 14) C dX5_covers_14 rfl 1 rfl ?_
    refine h_if_lt (pc := 15) (tgt := 50) C dX5_covers_15 (by decide) (fun q => ?_) (fun q => ?_)
    · replace hf := jif_t q hf
      clear q
      refine h_aload_n (pc := 50) C dX5_covers_50 rfl 0 rfl ?_
      refine h_sipush (pc := 51) C dX5_covers_51 js_255 ?_
      refine h_put (pc := 54) (ci := 3) (C0 := RX5) (T := TX5) (N := 16) (ws' := (wM cT ad madded msides mkey misThere mboxes morder mlevels mnodes mentries 255 mlow mright mhigh mfirst mend mthrown)) C uX5_covers_X5 tyX5 tyX5_ok nmX5 rfl 0 rfl 9 (by decide) (List.mem_of_getElem? (i := 3) rfl) rfl rfl rfl (Nat.le_of_ble_eq_true rfl) rfl dX5_covers_54 ?_
      refine h_aload_n (pc := 57) C dX5_covers_57 rfl 0 rfl ?_
      refine h_sipush (pc := 58) C dX5_covers_58 js_255 ?_
      refine h_put (pc := 61) (ci := 3) (C0 := RX5) (T := TX5) (N := 16) (ws' := (wM cT ad madded msides mkey misThere mboxes morder mlevels mnodes mentries 255 255 mright mhigh mfirst mend mthrown)) C uX5_covers_X5 tyX5 tyX5_ok nmX5 rfl 0 rfl 10 (by decide) (List.mem_of_getElem? (i := 4) rfl) rfl rfl rfl (Nat.le_of_ble_eq_true rfl) rfl dX5_covers_61 ?_
      refine h_aload_n (pc := 64) C dX5_covers_64 rfl 0 rfl ?_
      refine h_iconst (pc := 65) C dX5_covers_65 jc_0 ?_
      refine h_put (pc := 66) (ci := 3) (C0 := RX5) (T := TX5) (N := 16) (ws' := (wM cT ad madded msides mkey misThere mboxes morder mlevels mnodes mentries 255 255 0 mhigh mfirst mend mthrown)) C uX5_covers_X5 tyX5 tyX5_ok nmX5 rfl 0 rfl 11 (by decide) (List.mem_of_getElem? (i := 5) rfl) rfl rfl rfl (Nat.le_of_ble_eq_true rfl) rfl dX5_covers_66 ?_
      refine h_aload_n (pc := 69) C dX5_covers_69 rfl 0 rfl ?_
      refine h_iconst (pc := 70) C dX5_covers_70 jc_0 ?_
      refine h_put (pc := 71) (ci := 3) (C0 := RX5) (T := TX5) (N := 16) (ws' := (wM cT ad madded msides mkey misThere mboxes morder mlevels mnodes mentries 255 255 0 0 mfirst mend mthrown)) C uX5_covers_X5 tyX5 tyX5_ok nmX5 rfl 0 rfl 12 (by decide) (List.mem_of_getElem? (i := 6) rfl) rfl rfl rfl (Nat.le_of_ble_eq_true rfl) rfl dX5_covers_71 ?_
      refine h_aload_n (pc := 74) C dX5_covers_74 rfl 0 rfl ?_
      refine h_get (pc := 75) (ci := 3) (C0 := RX5) (T := TX5) (N := 16) C uX5_covers_X5 rfl 0 rfl 13 (by decide) (List.mem_of_getElem? (i := 1) rfl) rfl rfl dX5_covers_75 ?_
      refine h_istore_n (pc := 78) (lv' := [(3, .int mfirst), (0, .ref (ad 10))]) C dX5_covers_78 rfl (by decide) rfl ?_
      refine h_sub [1, 0] rfl ?_
      exact k_X5_covers_79 l D cT ad C hr n madded msides mkey misThere mboxes morder mlevels mnodes mentries mthrown mleft' mlow' mright' mhigh' mfirst' mend' n 255 255 0 0 mfirst mend mfirst hf
    · replace hf := jif_f q hf
      clear q
      refine h_aload_n (pc := 18) C dX5_covers_18 rfl 0 rfl ?_
      refine h_aload_n (pc := 19) C dX5_covers_19 rfl 0 rfl ?_
      refine h_iload_n (pc := 20) C dX5_covers_20 rfl 1 rfl ?_
      refine h_aload_n (pc := 21) C dX5_covers_21 rfl 0 rfl ?_
      refine h_get (pc := 22) (ci := 3) (C0 := RX5) (T := TX5) (N := 16) C uX5_covers_X5 rfl 0 rfl 13 (by decide) (List.mem_of_getElem? (i := 1) rfl) rfl rfl dX5_covers_22 ?_
      obtain ⟨v1, hc, hf⟩ := jbd_s hf
      refine h_callV (pc := 25) (q0 := 0) (As := [.int x3, .int mfirst]) (rest := .ref (ad 10) :: []) (ws' := (wM cT ad madded msides mkey misThere mboxes morder mlevels mnodes mentries mleft mlow mright mhigh mfirst mend mthrown)) (st2 := .int v1 :: .ref (ad 10) :: []) C (c_X5_ahead l D cT ad n madded msides mkey misThere mboxes morder mlevels mnodes mentries mleft mlow mright mhigh mfirst mend mthrown x3 mfirst v1 hc) (cwV 2 C.1.2.2.2.2 gX5_covers_X5_ahead rfl rfl rfl pv_X5_ahead ⟨(Nat.le_of_ble_eq_true rfl), (Nat.le_of_ble_eq_true rfl)⟩) dX5_covers_25 rfl rfl rfl rfl rfl (Nat.le_of_ble_eq_true rfl) ⟨rfl, rfl⟩ ⟨(Nat.le_of_ble_eq_true rfl), (Nat.le_of_ble_eq_true rfl)⟩ [0, 1, 2, 3, 4, 5, 6] [] [0, 1, 2, 3, 4, 5, 6] rfl rfl rfl rfl (by decide) rfl rfl rfl ?_
      clear hc
      refine h_put (pc := 28) (ci := 3) (C0 := RX5) (T := TX5) (N := 16) (ws' := (wM cT ad madded msides mkey misThere mboxes morder mlevels mnodes mentries mleft mlow mright mhigh v1 mend mthrown)) C uX5_covers_X5 tyX5 tyX5_ok nmX5 rfl 0 rfl 13 (by decide) (List.mem_of_getElem? (i := 1) rfl) rfl rfl rfl (Nat.le_of_ble_eq_true rfl) rfl dX5_covers_28 ?_
      refine h_aload_n (pc := 31) C dX5_covers_31 rfl 0 rfl ?_
      refine h_aload_n (pc := 32) C dX5_covers_32 rfl 0 rfl ?_
      refine h_iload_n (pc := 33) C dX5_covers_33 rfl 1 rfl ?_
      refine h_aload_n (pc := 34) C dX5_covers_34 rfl 0 rfl ?_
      refine h_get (pc := 35) (ci := 3) (C0 := RX5) (T := TX5) (N := 16) C uX5_covers_X5 rfl 0 rfl 14 (by decide) (List.mem_of_getElem? (i := 2) rfl) rfl rfl dX5_covers_35 ?_
      obtain ⟨v2, hc, hf⟩ := jbd_s hf
      refine h_callV (pc := 38) (q0 := 0) (As := [.int x3, .int mend]) (rest := .ref (ad 10) :: []) (ws' := (wM cT ad madded msides mkey misThere mboxes morder mlevels mnodes mentries mleft mlow mright mhigh v1 mend mthrown)) (st2 := .int v2 :: .ref (ad 10) :: []) C (c_X5_ahead l D cT ad n madded msides mkey misThere mboxes morder mlevels mnodes mentries mleft mlow mright mhigh v1 mend mthrown x3 mend v2 hc) (cwV 2 C.1.2.2.2.2 gX5_covers_X5_ahead rfl rfl rfl pv_X5_ahead ⟨(Nat.le_of_ble_eq_true rfl), (Nat.le_of_ble_eq_true rfl)⟩) dX5_covers_38 rfl rfl rfl rfl rfl (Nat.le_of_ble_eq_true rfl) ⟨rfl, rfl⟩ ⟨(Nat.le_of_ble_eq_true rfl), (Nat.le_of_ble_eq_true rfl)⟩ [0, 1, 2, 3, 4, 5, 6] [] [0, 1, 2, 3, 4, 5, 6] rfl rfl rfl rfl (by decide) rfl rfl rfl ?_
      clear hc
      refine h_put (pc := 41) (ci := 3) (C0 := RX5) (T := TX5) (N := 16) (ws' := (wM cT ad madded msides mkey misThere mboxes morder mlevels mnodes mentries mleft mlow mright mhigh v1 v2 mthrown)) C uX5_covers_X5 tyX5 tyX5_ok nmX5 rfl 0 rfl 14 (by decide) (List.mem_of_getElem? (i := 2) rfl) rfl rfl rfl (Nat.le_of_ble_eq_true rfl) rfl dX5_covers_41 ?_
      refine h_iinc (pc := 44) (v := x3 + jm1) (lv' := [(3, .int (x3 + jm1)), (0, .ref (ad 10))]) C dX5_covers_44 1 rfl (ji_m1 _) (by decide) rfl ?_
      refine h_goto (pc := 47) (tgt := 14) C dX5_covers_47 (by decide) ?_
      refine h_sub [1, 0] rfl ?_
      exact ih mleft mlow mright mhigh v1 v2 (x3 + jm1) hf
set_option maxRecDepth 100000 in
set_option maxHeartbeats 4000000 in
theorem c_X5_covers (l : Launch) (D : va_G) (cT : Nat → ClassId) (ad : Nat → Nat) (n : Nat) (madded : Int32) (msides : Nat → Int32) (mkey : Nat → Int32) (misThere : Nat → Int32) (mboxes : Int32) (morder : Nat → Int32) (mlevels : Int32) (mnodes : Nat → Int32) (mentries : Nat → Int32) (mleft : Int32) (mlow : Int32) (mright : Int32) (mhigh : Int32) (mfirst : Int32) (mend : Int32) (mthrown : Int32) (a1 : Int32) (a2 : Int32) (mleft' : Int32) (mlow' : Int32) (mright' : Int32) (mhigh' : Int32) (mfirst' : Int32) (mend' : Int32) (hf : f_X5_covers n msides morder mentries mleft mlow mright mhigh mfirst mend a1 a2 = some (mleft', mlow', mright', mhigh', mfirst', mend')) : cM l yX5_covers wsX5_covers rmX5_covers D (ty4 cT) [.ref (ad 10), .int a1, .int a2] (wM cT ad madded msides mkey misThere mboxes morder mlevels mnodes mentries mleft mlow mright mhigh mfirst mend mthrown) none (wM cT ad madded msides mkey misThere mboxes morder mlevels mnodes mentries mleft' mlow' mright' mhigh' mfirst' mend' mthrown) := by
  refine cM_of (cc := cX5_covers) (maxL := 5) (ret := none) (own := RX5) (lv := [(0, .ref (ad 10)), (1, .int a1), (2, .int a2)]) (by decide) rfl (Nat.le_of_ble_eq_true rfl) rfl rfl ?_
  intro p e s m args below meth c A C hr
  unfold f_X5_covers at hf
  refine h_aload_n (pc := 0) C dX5_covers_0 rfl 0 rfl ?_
  refine h_iload_n (pc := 1) C dX5_covers_1 rfl 2 rfl ?_
  refine h_put (pc := 2) (ci := 3) (C0 := RX5) (T := TX5) (N := 16) (ws' := (wM cT ad madded msides mkey misThere mboxes morder mlevels mnodes mentries mleft mlow mright mhigh a2 mend mthrown)) C uX5_covers_X5 tyX5 tyX5_ok nmX5 rfl 0 rfl 13 (by decide) (List.mem_of_getElem? (i := 1) rfl) rfl rfl rfl (Nat.le_of_ble_eq_true rfl) rfl dX5_covers_2 ?_
  refine h_aload_n (pc := 5) C dX5_covers_5 rfl 0 rfl ?_
  refine h_iload_n (pc := 6) C dX5_covers_6 rfl 2 rfl ?_
  refine h_iconst (pc := 7) C dX5_covers_7 jc_1 ?_
  refine h_iadd (pc := 8) C dX5_covers_8 ?_
  refine h_put (pc := 9) (ci := 3) (C0 := RX5) (T := TX5) (N := 16) (ws' := (wM cT ad madded msides mkey misThere mboxes morder mlevels mnodes mentries mleft mlow mright mhigh a2 (a2 + 1) mthrown)) C uX5_covers_X5 tyX5 tyX5_ok nmX5 rfl 0 rfl 14 (by decide) (List.mem_of_getElem? (i := 2) rfl) rfl rfl rfl (Nat.le_of_ble_eq_true rfl) rfl dX5_covers_9 ?_
  refine h_iload_n (pc := 12) C dX5_covers_12 rfl 1 rfl ?_
  refine h_istore_n (pc := 13) (lv' := [(3, .int a1), (0, .ref (ad 10)), (1, .int a1), (2, .int a2)]) C dX5_covers_13 rfl (by decide) rfl ?_
  refine h_sub [1, 0] rfl ?_
  exact k_X5_covers_14 l D cT ad C hr n madded msides mkey misThere mboxes morder mlevels mnodes mentries mthrown mleft' mlow' mright' mhigh' mfirst' mend' n mleft mlow mright mhigh a2 (a2 + 1) a1 hf
theorem pv_X5_covers : yX5_covers.cls = RX5 ∧ yX5_covers.cls ≠ "java/lang/invoke/MethodHandle" ∧ yX5_covers.cls ≠ "java/lang/invoke/VarHandle" ∧ (parseMethodDescriptor yX5_covers.desc).map (fun d => d.parameters.length) = some 2 := by decide +kernel
