/-! laid by wip/whole/lay.py: contracts -/
abbrev rmX1_quarter : Room := { frames := 0, cells := 0, slots := 0, locals := 0 }
set_option maxRecDepth 100000 in
set_option maxHeartbeats 4000000 in
theorem c_X1_quarter (l : Launch) (D : va_G) (cT : Nat → ClassId) (ad : Nat → Nat) (n : Nat)  (a0 : Int32) (a1 : Int32) (r : Int32) (hf : f_X1_quarter n a0 a1 = some r) : cM l yX1_quarter wsX1_quarter rmX1_quarter D (ty4 cT) [.int a0, .int a1] [] (some (.int r)) [] := by
  refine cM_of (cc := cX1_quarter) (maxL := 2) (ret := (some .int)) (own := RX1) (lv := [(0, .int a0), (1, .int a1)]) (by decide) rfl (Nat.le_of_ble_eq_true rfl) rfl rfl ?_
  intro p e s m args below meth c A C hr
  unfold f_X1_quarter at hf
  refine h_iload_n (pc := 0) C dX1_quarter_0 rfl 0 rfl ?_
  refine h_if_eq (pc := 1) (tgt := 14) C dX1_quarter_1 (by decide) (fun q => ?_) (fun q => ?_)
  · replace hf := jif_t q hf
    clear q
    refine h_iload_n (pc := 14) C dX1_quarter_14 rfl 1 rfl ?_
    refine h_if_eq (pc := 15) (tgt := 22) C dX1_quarter_15 (by decide) (fun q => ?_) (fun q => ?_)
    · replace hf := jif_t q hf
      clear q
      refine h_iconst (pc := 22) C dX1_quarter_22 jc_0 ?_
      have g0 := (Option.some.inj hf)
      clear hf
      subst g0
      exact h_iret C hr dX1_quarter_23
    · replace hf := jif_f q hf
      clear q
      refine h_iconst (pc := 18) C dX1_quarter_18 jc_1 ?_
      refine h_goto (pc := 19) (tgt := 23) C dX1_quarter_19 (by decide) ?_
      have g0 := (Option.some.inj hf)
      clear hf
      subst g0
      exact h_iret C hr dX1_quarter_23
  · replace hf := jif_f q hf
    clear q
    refine h_iload_n (pc := 4) C dX1_quarter_4 rfl 1 rfl ?_
    refine h_if_eq (pc := 5) (tgt := 12) C dX1_quarter_5 (by decide) (fun q => ?_) (fun q => ?_)
    · replace hf := jif_t q hf
      clear q
      refine h_iconst (pc := 12) C dX1_quarter_12 jc_3 ?_
      have g0 := (Option.some.inj hf)
      clear hf
      subst g0
      exact h_iret C hr dX1_quarter_13
    · replace hf := jif_f q hf
      clear q
      refine h_iconst (pc := 8) C dX1_quarter_8 jc_2 ?_
      refine h_goto (pc := 9) (tgt := 13) C dX1_quarter_9 (by decide) ?_
      have g0 := (Option.some.inj hf)
      clear hf
      subst g0
      exact h_iret C hr dX1_quarter_13
theorem ps_X1_quarter : yX1_quarter.cls ≠ "java/lang/invoke/MethodHandle" ∧ yX1_quarter.cls ≠ "java/lang/invoke/VarHandle" ∧ (parseMethodDescriptor yX1_quarter.desc).map (fun d => d.parameters.length) = some 2 := by decide +kernel
abbrev rmX1_lengthTo : Room := { frames := 1, cells := 0, slots := 0, locals := 21 }
set_option maxRecDepth 100000 in
set_option maxHeartbeats 4000000 in
theorem k_X1_lengthTo_103 {p : Program} {e : Env} {s : State} {m : MethodId} {args : Array Value} {below : List Frame} {meth : Method} {c : Code} {A : Nat → Prop} (l : Launch) (D : va_G) (cT : Nat → ClassId) (ad : Nat → Nat) (C : hC p s m args meth c cX1_lengthTo 9 wsX1_lengthTo RX1 D (ty4 cT) A) (hr : meth.sig.returnType = (some .int)) (n : Nat)  (r : Int32) (k12 : Int32 → Int32 → Int32 → Int32 → Option (Int32)) (K12 : ∀  (x2 : Int32) (x3 : Int32) (x4 : Int32) (x5 : Int32), k12 x2 x3 x4 x5 = some r → hS p l e rmX1_lengthTo s m args below meth c 9 D A 0 0 (MQ below (cQ D (ty4 cT) A (some (.int r)) []) args s 0 0 A) 12 [(2, .int x2), (3, .int x3), (4, .int x4), (5, .int x5)] [] []) : ∀  (x2 : Int32) (x3 : Int32) (x4 : Int32) (x5 : Int32), f_X1_lengthTo_103 n k12 x2 x3 x4 x5 = some r → hS p l e rmX1_lengthTo s m args below meth c 9 D A 0 0 (MQ below (cQ D (ty4 cT) A (some (.int r)) []) args s 0 0 A) 103 [(2, .int x2), (3, .int x3), (4, .int x4), (5, .int x5)] [] [] := by
  intro x2 x3 x4 x5 hf
  unfold f_X1_lengthTo_103 at hf
  refine h_iload (pc := 103) C dX1_lengthTo_103 3 rfl ?_
  refine h_iconst (pc := 105) C dX1_lengthTo_105 jc_2 ?_
  refine h_idiv (pc := 106) C dX1_lengthTo_106 (by decide) ?_
  refine h_istore (pc := 107) (lv' := [(5, .int (x5 / 2)), (2, .int x2), (3, .int x3), (4, .int x4)]) C dX1_lengthTo_107 (by decide) rfl ?_
  refine h_goto (pc := 109) (tgt := 12) C dX1_lengthTo_109 (by decide) ?_
  refine h_sub [1, 2, 3, 0] rfl ?_
  exact K12 x2 x3 x4 (x5 / 2) hf
set_option maxRecDepth 100000 in
set_option maxHeartbeats 4000000 in
theorem k_X1_lengthTo_102 {p : Program} {e : Env} {s : State} {m : MethodId} {args : Array Value} {below : List Frame} {meth : Method} {c : Code} {A : Nat → Prop} (l : Launch) (D : va_G) (cT : Nat → ClassId) (ad : Nat → Nat) (C : hC p s m args meth c cX1_lengthTo 9 wsX1_lengthTo RX1 D (ty4 cT) A) (hr : meth.sig.returnType = (some .int)) (n : Nat)  (r : Int32) (k12 : Int32 → Int32 → Int32 → Int32 → Option (Int32)) (K12 : ∀  (x2 : Int32) (x3 : Int32) (x4 : Int32) (x5 : Int32), k12 x2 x3 x4 x5 = some r → hS p l e rmX1_lengthTo s m args below meth c 9 D A 0 0 (MQ below (cQ D (ty4 cT) A (some (.int r)) []) args s 0 0 A) 12 [(2, .int x2), (3, .int x3), (4, .int x4), (5, .int x5)] [] []) : ∀  (x2 : Int32) (x4 : Int32) (x5 : Int32) (t0 : Int32), f_X1_lengthTo_102 n k12 x2 x4 x5 t0 = some r → hS p l e rmX1_lengthTo s m args below meth c 9 D A 0 0 (MQ below (cQ D (ty4 cT) A (some (.int r)) []) args s 0 0 A) 102 [(2, .int x2), (4, .int x4), (5, .int x5)] (.int t0 :: []) [] := by
  intro x2 x4 x5 t0 hf
  unfold f_X1_lengthTo_102 at hf
  refine h_istore_n (pc := 102) (lv' := [(3, .int t0), (2, .int x2), (4, .int x4), (5, .int x5)]) C dX1_lengthTo_102 rfl (by decide) rfl ?_
  refine h_sub [1, 0, 2, 3] rfl ?_
  exact k_X1_lengthTo_103 l D cT ad C hr n r k12 K12 x2 t0 x4 x5 hf
set_option maxRecDepth 100000 in
set_option maxHeartbeats 4000000 in
theorem k_X1_lengthTo_85 {p : Program} {e : Env} {s : State} {m : MethodId} {args : Array Value} {below : List Frame} {meth : Method} {c : Code} {A : Nat → Prop} (l : Launch) (D : va_G) (cT : Nat → ClassId) (ad : Nat → Nat) (C : hC p s m args meth c cX1_lengthTo 9 wsX1_lengthTo RX1 D (ty4 cT) A) (hr : meth.sig.returnType = (some .int)) (n : Nat)  (r : Int32) (k12 : Int32 → Int32 → Int32 → Int32 → Option (Int32)) (K12 : ∀  (x2 : Int32) (x3 : Int32) (x4 : Int32) (x5 : Int32), k12 x2 x3 x4 x5 = some r → hS p l e rmX1_lengthTo s m args below meth c 9 D A 0 0 (MQ below (cQ D (ty4 cT) A (some (.int r)) []) args s 0 0 A) 12 [(2, .int x2), (3, .int x3), (4, .int x4), (5, .int x5)] [] []) : ∀  (x4 : Int32) (x5 : Int32) (x6 : Int32) (x8 : Int32) (t0 : Int32), f_X1_lengthTo_85 n k12 x4 x5 x6 x8 t0 = some r → hS p l e rmX1_lengthTo s m args below meth c 9 D A 0 0 (MQ below (cQ D (ty4 cT) A (some (.int r)) []) args s 0 0 A) 85 [(4, .int x4), (5, .int x5), (6, .int x6), (8, .int x8)] (.int t0 :: []) [] := by
  intro x4 x5 x6 x8 t0 hf
  unfold f_X1_lengthTo_85 at hf
  refine h_istore_n (pc := 85) (lv' := [(2, .int t0), (4, .int x4), (5, .int x5), (6, .int x6), (8, .int x8)]) C dX1_lengthTo_85 rfl (by decide) rfl ?_
  refine h_iload (pc := 86) C dX1_lengthTo_86 3 rfl ?_
  refine h_if_eq (pc := 88) (tgt := 100) C dX1_lengthTo_88 (by decide) (fun q => ?_) (fun q => ?_)
  · replace hf := jif_t q hf
    clear q
    refine h_iload (pc := 100) C dX1_lengthTo_100 4 rfl ?_
    refine h_sub [0, 1, 2] rfl ?_
    exact k_X1_lengthTo_102 l D cT ad C hr n r k12 K12 t0 x4 x5 x8 hf
  · replace hf := jif_f q hf
    clear q
    refine h_sipush (pc := 91) C dX1_lengthTo_91 js_255 ?_
    refine h_iload (pc := 94) C dX1_lengthTo_94 4 rfl ?_
    refine h_isub (pc := 96) C dX1_lengthTo_96 ?_
    refine h_goto (pc := 97) (tgt := 102) C dX1_lengthTo_97 (by decide) ?_
    refine h_sub [0, 1, 2] rfl ?_
    exact k_X1_lengthTo_102 l D cT ad C hr n r k12 K12 t0 x4 x5 (255 - x8) hf
set_option maxRecDepth 100000 in
set_option maxHeartbeats 4000000 in
theorem k_X1_lengthTo_43 {p : Program} {e : Env} {s : State} {m : MethodId} {args : Array Value} {below : List Frame} {meth : Method} {c : Code} {A : Nat → Prop} (l : Launch) (D : va_G) (cT : Nat → ClassId) (ad : Nat → Nat) (C : hC p s m args meth c cX1_lengthTo 9 wsX1_lengthTo RX1 D (ty4 cT) A) (hr : meth.sig.returnType = (some .int)) (n : Nat)  (r : Int32) (k12 : Int32 → Int32 → Int32 → Int32 → Option (Int32)) (K12 : ∀  (x2 : Int32) (x3 : Int32) (x4 : Int32) (x5 : Int32), k12 x2 x3 x4 x5 = some r → hS p l e rmX1_lengthTo s m args below meth c 9 D A 0 0 (MQ below (cQ D (ty4 cT) A (some (.int r)) []) args s 0 0 A) 12 [(2, .int x2), (3, .int x3), (4, .int x4), (5, .int x5)] [] []) : ∀  (x2 : Int32) (x3 : Int32) (x4 : Int32) (x5 : Int32) (x6 : Int32) (t0 : Int32), f_X1_lengthTo_43 n k12 x2 x3 x4 x5 x6 t0 = some r → hS p l e rmX1_lengthTo s m args below meth c 9 D A 0 0 (MQ below (cQ D (ty4 cT) A (some (.int r)) []) args s 0 0 A) 43 [(2, .int x2), (3, .int x3), (4, .int x4), (5, .int x5), (6, .int x6)] (.int t0 :: []) [] := by
  intro x2 x3 x4 x5 x6 t0 hf
  unfold f_X1_lengthTo_43 at hf
  refine h_istore (pc := 43) (lv' := [(7, .int t0), (2, .int x2), (3, .int x3), (4, .int x4), (5, .int x5), (6, .int x6)]) C dX1_lengthTo_43 (by decide) rfl ?_
  refine h_iload (pc := 45) C dX1_lengthTo_45 3 rfl ?_
  refine h_iload (pc := 47) C dX1_lengthTo_47 4 rfl ?_
  refine h_iload (pc := 49) C dX1_lengthTo_49 4 rfl ?_
  refine h_imul (pc := 51) C dX1_lengthTo_51 ?_
  refine h_iload (pc := 52) C dX1_lengthTo_52 5 rfl ?_
  refine h_iload (pc := 54) C dX1_lengthTo_54 0 rfl ?_
  obtain ⟨v1, hc, hf⟩ := jbd_s hf
  refine h_callP (pc := 56) (As := [.int x6, .int t0]) (rest := .int (x5 * x5) :: .int x4 :: []) (st2 := .int v1 :: .int (x5 * x5) :: .int x4 :: []) C (c_X1_quarter l D cT ad n x6 t0 v1 hc) (va_cwS 2 C.1.2.2.2.2 gX1_lengthTo_X1_quarter rfl rfl rfl ps_X1_quarter ⟨(Nat.le_of_ble_eq_true rfl), (Nat.le_of_ble_eq_true rfl)⟩) dX1_lengthTo_56 rfl rfl (Nat.le_of_ble_eq_true rfl) ⟨rfl, rfl⟩ ⟨(Nat.le_of_ble_eq_true rfl), (Nat.le_of_ble_eq_true rfl)⟩ rfl ?_
  clear hc
  refine h_imul (pc := 59) C dX1_lengthTo_59 ?_
  refine h_iadd (pc := 60) C dX1_lengthTo_60 ?_
  refine h_istore (pc := 61) (lv' := [(4, .int (x4 + ((x5 * x5) * v1))), (7, .int t0), (2, .int x2), (3, .int x3), (5, .int x5), (6, .int x6)]) C dX1_lengthTo_61 (by decide) rfl ?_
  refine h_iload (pc := 63) C dX1_lengthTo_63 1 rfl ?_
  refine h_if_ne (pc := 65) (tgt := 103) C dX1_lengthTo_65 (by decide) (fun q => ?_) (fun q => ?_)
  · replace hf := jif_f q hf
    clear q
    refine h_sub [2, 3, 0, 4] rfl ?_
    exact k_X1_lengthTo_103 l D cT ad C hr n r k12 K12 x2 x3 (x4 + ((x5 * x5) * v1)) x5 hf
  · replace hf := jif_t q hf
    clear q
    refine h_iload_n (pc := 68) C dX1_lengthTo_68 rfl 2 rfl ?_
    refine h_istore (pc := 69) (lv' := [(8, .int x2), (4, .int (x4 + ((x5 * x5) * v1))), (7, .int t0), (2, .int x2), (3, .int x3), (5, .int x5), (6, .int x6)]) C dX1_lengthTo_69 (by decide) rfl ?_
    refine h_iload (pc := 71) C dX1_lengthTo_71 6 rfl ?_
    refine h_if_eq (pc := 73) (tgt := 84) C dX1_lengthTo_73 (by decide) (fun q => ?_) (fun q => ?_)
    · replace hf := jif_t q hf
      clear q
      refine h_iload_n (pc := 84) C dX1_lengthTo_84 rfl 4 rfl ?_
      refine h_sub [1, 5, 6, 0] rfl ?_
      exact k_X1_lengthTo_85 l D cT ad C hr n r k12 K12 (x4 + ((x5 * x5) * v1)) x5 x6 x2 x3 hf
    · replace hf := jif_f q hf
      clear q
      refine h_sipush (pc := 76) C dX1_lengthTo_76 js_255 ?_
      refine h_iload_n (pc := 79) C dX1_lengthTo_79 rfl 4 rfl ?_
      refine h_isub (pc := 80) C dX1_lengthTo_80 ?_
      refine h_goto (pc := 81) (tgt := 85) C dX1_lengthTo_81 (by decide) ?_
      refine h_sub [1, 5, 6, 0] rfl ?_
      exact k_X1_lengthTo_85 l D cT ad C hr n r k12 K12 (x4 + ((x5 * x5) * v1)) x5 x6 x2 (255 - x3) hf
set_option maxRecDepth 100000 in
set_option maxHeartbeats 4000000 in
theorem k_X1_lengthTo_29 {p : Program} {e : Env} {s : State} {m : MethodId} {args : Array Value} {below : List Frame} {meth : Method} {c : Code} {A : Nat → Prop} (l : Launch) (D : va_G) (cT : Nat → ClassId) (ad : Nat → Nat) (C : hC p s m args meth c cX1_lengthTo 9 wsX1_lengthTo RX1 D (ty4 cT) A) (hr : meth.sig.returnType = (some .int)) (n : Nat)  (r : Int32) (k12 : Int32 → Int32 → Int32 → Int32 → Option (Int32)) (K12 : ∀  (x2 : Int32) (x3 : Int32) (x4 : Int32) (x5 : Int32), k12 x2 x3 x4 x5 = some r → hS p l e rmX1_lengthTo s m args below meth c 9 D A 0 0 (MQ below (cQ D (ty4 cT) A (some (.int r)) []) args s 0 0 A) 12 [(2, .int x2), (3, .int x3), (4, .int x4), (5, .int x5)] [] []) : ∀  (x2 : Int32) (x3 : Int32) (x4 : Int32) (x5 : Int32) (t0 : Int32), f_X1_lengthTo_29 n k12 x2 x3 x4 x5 t0 = some r → hS p l e rmX1_lengthTo s m args below meth c 9 D A 0 0 (MQ below (cQ D (ty4 cT) A (some (.int r)) []) args s 0 0 A) 29 [(2, .int x2), (3, .int x3), (4, .int x4), (5, .int x5)] (.int t0 :: []) [] := by
  intro x2 x3 x4 x5 t0 hf
  unfold f_X1_lengthTo_29 at hf
  refine h_istore (pc := 29) (lv' := [(6, .int t0), (2, .int x2), (3, .int x3), (4, .int x4), (5, .int x5)]) C dX1_lengthTo_29 (by decide) rfl ?_
  refine h_iload_n (pc := 31) C dX1_lengthTo_31 rfl 2 rfl ?_
  refine h_iload (pc := 32) C dX1_lengthTo_32 4 rfl ?_
  refine h_iand (pc := 34) C dX1_lengthTo_34 ?_
  refine h_if_eq (pc := 35) (tgt := 42) C dX1_lengthTo_35 (by decide) (fun q => ?_) (fun q => ?_)
  · replace hf := jif_t q hf
    clear q
    refine h_iconst (pc := 42) C dX1_lengthTo_42 jc_0 ?_
    refine h_sub [1, 2, 3, 4, 0] rfl ?_
    exact k_X1_lengthTo_43 l D cT ad C hr n r k12 K12 x2 x3 x4 x5 t0 0 hf
  · replace hf := jif_f q hf
    clear q
    refine h_iconst (pc := 38) C dX1_lengthTo_38 jc_1 ?_
    refine h_goto (pc := 39) (tgt := 43) C dX1_lengthTo_39 (by decide) ?_
    refine h_sub [1, 2, 3, 4, 0] rfl ?_
    exact k_X1_lengthTo_43 l D cT ad C hr n r k12 K12 x2 x3 x4 x5 t0 1 hf
set_option maxRecDepth 100000 in
set_option maxHeartbeats 4000000 in
theorem k_X1_lengthTo_12 {p : Program} {e : Env} {s : State} {m : MethodId} {args : Array Value} {below : List Frame} {meth : Method} {c : Code} {A : Nat → Prop} (l : Launch) (D : va_G) (cT : Nat → ClassId) (ad : Nat → Nat) (C : hC p s m args meth c cX1_lengthTo 9 wsX1_lengthTo RX1 D (ty4 cT) A) (hr : meth.sig.returnType = (some .int)) (n : Nat)  (r : Int32)  : ∀ (fu : Nat)  (x2 : Int32) (x3 : Int32) (x4 : Int32) (x5 : Int32), f_X1_lengthTo_12 n fu x2 x3 x4 x5 = some r → hS p l e rmX1_lengthTo s m args below meth c 9 D A 0 0 (MQ below (cQ D (ty4 cT) A (some (.int r)) []) args s 0 0 A) 12 [(2, .int x2), (3, .int x3), (4, .int x4), (5, .int x5)] [] [] := by
  intro fu
  induction fu with
  | zero =>
    intro x2 x3 x4 x5 hf
    exact nomatch (show (none : Option (Int32)) = some r from hf)
  | succ fu ih =>
    intro x2 x3 x4 x5 hf
    rw [f_X1_lengthTo_12] at hf
    refine h_iload (pc := 12) C dX1_lengthTo_12 3 rfl ?_
    refine h_if_le (pc := 14) (tgt := 112) C dX1_lengthTo_14 (by decide) (fun q => ?_) (fun q => ?_)
    · replace hf := jif_t q hf
      clear q
      refine h_iload (pc := 112) C dX1_lengthTo_112 2 rfl ?_
      have g0 := (Option.some.inj hf)
      clear hf
      subst g0
      exact h_iret C hr dX1_lengthTo_114
    · replace hf := jif_f q hf
      clear q
      refine h_iload_n (pc := 17) C dX1_lengthTo_17 rfl 0 rfl ?_
      refine h_iload (pc := 18) C dX1_lengthTo_18 3 rfl ?_
      refine h_iand (pc := 20) C dX1_lengthTo_20 ?_
      refine h_if_eq (pc := 21) (tgt := 28) C dX1_lengthTo_21 (by decide) (fun q => ?_) (fun q => ?_)
      · replace hf := jif_t q hf
        clear q
        refine h_iconst (pc := 28) C dX1_lengthTo_28 jc_0 ?_
        exact k_X1_lengthTo_29 l D cT ad C hr n r (f_X1_lengthTo_12 n fu) ih x2 x3 x4 x5 0 hf
      · replace hf := jif_f q hf
        clear q
        refine h_iconst (pc := 24) C dX1_lengthTo_24 jc_1 ?_
        refine h_goto (pc := 25) (tgt := 29) C dX1_lengthTo_25 (by decide) ?_
        exact k_X1_lengthTo_29 l D cT ad C hr n r (f_X1_lengthTo_12 n fu) ih x2 x3 x4 x5 1 hf
set_option maxRecDepth 100000 in
set_option maxHeartbeats 4000000 in
theorem c_X1_lengthTo (l : Launch) (D : va_G) (cT : Nat → ClassId) (ad : Nat → Nat) (n : Nat)  (a0 : Int32) (a1 : Int32) (r : Int32) (hf : f_X1_lengthTo n a0 a1 = some r) : cM l yX1_lengthTo wsX1_lengthTo rmX1_lengthTo D (ty4 cT) [.int a0, .int a1] [] (some (.int r)) [] := by
  refine cM_of (cc := cX1_lengthTo) (maxL := 9) (ret := (some .int)) (own := RX1) (lv := [(0, .int a0), (1, .int a1)]) (by decide) rfl (Nat.le_of_ble_eq_true rfl) rfl rfl ?_
  intro p e s m args below meth c A C hr
  unfold f_X1_lengthTo at hf
  refine h_iload_n (pc := 0) C dX1_lengthTo_0 rfl 0 rfl ?_
  refine h_istore_n (pc := 1) (lv' := [(2, .int a0), (0, .int a0), (1, .int a1)]) C dX1_lengthTo_1 rfl (by decide) rfl ?_
  refine h_iload_n (pc := 2) C dX1_lengthTo_2 rfl 2 rfl ?_
  refine h_istore_n (pc := 3) (lv' := [(3, .int a1), (2, .int a0), (0, .int a0), (1, .int a1)]) C dX1_lengthTo_3 rfl (by decide) rfl ?_
  refine h_iconst (pc := 4) C dX1_lengthTo_4 jc_0 ?_
  refine h_istore (pc := 5) (lv' := [(4, .int 0), (3, .int a1), (2, .int a0), (0, .int a0), (1, .int a1)]) C dX1_lengthTo_5 (by decide) rfl ?_
  refine h_sipush (pc := 7) C dX1_lengthTo_7 js_128 ?_
  refine h_istore (pc := 10) (lv' := [(5, .int 128), (4, .int 0), (3, .int a1), (2, .int a0), (0, .int a0), (1, .int a1)]) C dX1_lengthTo_10 (by decide) rfl ?_
  refine h_sub [3, 2, 1, 0] rfl ?_
  exact k_X1_lengthTo_12 l D cT ad C hr n r n a0 a1 0 128 hf
theorem ps_X1_lengthTo : yX1_lengthTo.cls ≠ "java/lang/invoke/MethodHandle" ∧ yX1_lengthTo.cls ≠ "java/lang/invoke/VarHandle" ∧ (parseMethodDescriptor yX1_lengthTo.desc).map (fun d => d.parameters.length) = some 2 := by decide +kernel
abbrev rmX0_of : Room := { frames := 0, cells := 0, slots := 0, locals := 0 }
set_option maxRecDepth 100000 in
set_option maxHeartbeats 4000000 in
theorem c_X0_of (l : Launch) (D : va_G) (cT : Nat → ClassId) (ad : Nat → Nat) (n : Nat)  (a0 : Int32) (a1 : Int32) (a2 : Int32) (a3 : Int32) (r : Int32) (hf : f_X0_of n a0 a1 a2 a3 = some r) : cM l yX0_of wsX0_of rmX0_of D (ty4 cT) [.int a0, .int a1, .int a2, .int a3] [] (some (.int r)) [] := by
  refine cM_of (cc := cX0_of) (maxL := 4) (ret := (some .int)) (own := RX0) (lv := [(0, .int a0), (1, .int a1), (2, .int a2), (3, .int a3)]) (by decide) rfl (Nat.le_of_ble_eq_true rfl) rfl rfl ?_
  intro p e s m args below meth c A C hr
  unfold f_X0_of at hf
  refine h_iload_n (pc := 0) C dX0_of_0 rfl 0 rfl ?_
  refine h_iload_n (pc := 1) C dX0_of_1 rfl 1 rfl ?_
  refine h_bipush (pc := 2) C dX0_of_2 jb_8 ?_
  refine h_ishl (pc := 4) C dX0_of_4 ?_
  refine h_ior (pc := 5) C dX0_of_5 ?_
  refine h_iload_n (pc := 6) C dX0_of_6 rfl 2 rfl ?_
  refine h_bipush (pc := 7) C dX0_of_7 jb_16 ?_
  refine h_ishl (pc := 9) C dX0_of_9 ?_
  refine h_ior (pc := 10) C dX0_of_10 ?_
  refine h_iload_n (pc := 11) C dX0_of_11 rfl 3 rfl ?_
  refine h_bipush (pc := 12) C dX0_of_12 jb_24 ?_
  refine h_ishl (pc := 14) C dX0_of_14 ?_
  refine h_ior (pc := 15) C dX0_of_15 ?_
  have g0 := (Option.some.inj hf)
  clear hf
  subst g0
  exact h_iret C hr dX0_of_16
theorem ps_X0_of : yX0_of.cls ≠ "java/lang/invoke/MethodHandle" ∧ yX0_of.cls ≠ "java/lang/invoke/VarHandle" ∧ (parseMethodDescriptor yX0_of.desc).map (fun d => d.parameters.length) = some 4 := by decide +kernel
abbrev rmX0_side : Room := { frames := 0, cells := 0, slots := 0, locals := 0 }
set_option maxRecDepth 100000 in
set_option maxHeartbeats 4000000 in
theorem c_X0_side (l : Launch) (D : va_G) (cT : Nat → ClassId) (ad : Nat → Nat) (n : Nat)  (a0 : Int32) (a1 : Int32) (r : Int32) (hf : f_X0_side n a0 a1 = some r) : cM l yX0_side wsX0_side rmX0_side D (ty4 cT) [.int a0, .int a1] [] (some (.int r)) [] := by
  refine cM_of (cc := cX0_side) (maxL := 2) (ret := (some .int)) (own := RX0) (lv := [(0, .int a0), (1, .int a1)]) (by decide) rfl (Nat.le_of_ble_eq_true rfl) rfl rfl ?_
  intro p e s m args below meth c A C hr
  unfold f_X0_side at hf
  refine h_iload_n (pc := 0) C dX0_side_0 rfl 0 rfl ?_
  refine h_bipush (pc := 1) C dX0_side_1 jb_8 ?_
  refine h_iload_n (pc := 3) C dX0_side_3 rfl 1 rfl ?_
  refine h_imul (pc := 4) C dX0_side_4 ?_
  refine h_iushr (pc := 5) C dX0_side_5 ?_
  refine h_sipush (pc := 6) C dX0_side_6 js_255 ?_
  refine h_iand (pc := 9) C dX0_side_9 ?_
  have g0 := (Option.some.inj hf)
  clear hf
  subst g0
  exact h_iret C hr dX0_side_10
theorem ps_X0_side : yX0_side.cls ≠ "java/lang/invoke/MethodHandle" ∧ yX0_side.cls ≠ "java/lang/invoke/VarHandle" ∧ (parseMethodDescriptor yX0_side.desc).map (fun d => d.parameters.length) = some 2 := by decide +kernel
abbrev rmX0_meet : Room := { frames := 1, cells := 0, slots := 0, locals := 21 }
set_option maxRecDepth 100000 in
set_option maxHeartbeats 4000000 in
theorem c_X0_meet (l : Launch) (D : va_G) (cT : Nat → ClassId) (ad : Nat → Nat) (n : Nat)  (a0 : Int32) (a1 : Int32) (r : Int32) (hf : f_X0_meet n a0 a1 = some r) : cM l yX0_meet wsX0_meet rmX0_meet D (ty4 cT) [.int a0, .int a1] [] (some (.int r)) [] := by
  refine cM_of (cc := cX0_meet) (maxL := 2) (ret := (some .boolean)) (own := RX0) (lv := [(0, .int a0), (1, .int a1)]) (by decide) rfl (Nat.le_of_ble_eq_true rfl) rfl rfl ?_
  intro p e s m args below meth c A C hr
  unfold f_X0_meet at hf
  refine h_iload_n (pc := 0) C dX0_meet_0 rfl 0 rfl ?_
  refine h_iconst (pc := 1) C dX0_meet_1 jc_0 ?_
  obtain ⟨v1, hc, hf⟩ := jbd_s hf
  refine h_callP (pc := 2) (As := [.int a0, .int 0]) (rest := []) (st2 := .int v1 :: []) C (c_X0_side l D cT ad n a0 0 v1 hc) (va_cwS 2 C.1.2.2.2.2 gX0_meet_X0_side rfl rfl rfl ps_X0_side ⟨(Nat.le_of_ble_eq_true rfl), (Nat.le_of_ble_eq_true rfl)⟩) dX0_meet_2 rfl rfl (Nat.le_of_ble_eq_true rfl) ⟨rfl, rfl⟩ ⟨(Nat.le_of_ble_eq_true rfl), (Nat.le_of_ble_eq_true rfl)⟩ rfl ?_
  clear hc
  refine h_iload_n (pc := 5) C dX0_meet_5 rfl 1 rfl ?_
  refine h_iconst (pc := 6) C dX0_meet_6 jc_2 ?_
  obtain ⟨v2, hc, hf⟩ := jbd_s hf
  refine h_callP (pc := 7) (As := [.int a1, .int 2]) (rest := .int v1 :: []) (st2 := .int v2 :: .int v1 :: []) C (c_X0_side l D cT ad n a1 2 v2 hc) (va_cwS 2 C.1.2.2.2.2 gX0_meet_X0_side rfl rfl rfl ps_X0_side ⟨(Nat.le_of_ble_eq_true rfl), (Nat.le_of_ble_eq_true rfl)⟩) dX0_meet_7 rfl rfl (Nat.le_of_ble_eq_true rfl) ⟨rfl, rfl⟩ ⟨(Nat.le_of_ble_eq_true rfl), (Nat.le_of_ble_eq_true rfl)⟩ rfl ?_
  clear hc
  refine h_icmp_gt (pc := 10) (tgt := 56) C dX0_meet_10 (by decide) (fun q => ?_) (fun q => ?_)
  · replace hf := jif_t q hf
    clear q
    refine h_iconst (pc := 56) C dX0_meet_56 jc_0 ?_
    have g0 := (Option.some.inj hf)
    clear hf
    subst g0
    exact h_zret C hr rfl dX0_meet_57
  · replace hf := jif_f q hf
    clear q
    refine h_iload_n (pc := 13) C dX0_meet_13 rfl 1 rfl ?_
    refine h_iconst (pc := 14) C dX0_meet_14 jc_0 ?_
    obtain ⟨v3, hc, hf⟩ := jbd_s hf
    refine h_callP (pc := 15) (As := [.int a1, .int 0]) (rest := []) (st2 := .int v3 :: []) C (c_X0_side l D cT ad n a1 0 v3 hc) (va_cwS 2 C.1.2.2.2.2 gX0_meet_X0_side rfl rfl rfl ps_X0_side ⟨(Nat.le_of_ble_eq_true rfl), (Nat.le_of_ble_eq_true rfl)⟩) dX0_meet_15 rfl rfl (Nat.le_of_ble_eq_true rfl) ⟨rfl, rfl⟩ ⟨(Nat.le_of_ble_eq_true rfl), (Nat.le_of_ble_eq_true rfl)⟩ rfl ?_
    clear hc
    refine h_iload_n (pc := 18) C dX0_meet_18 rfl 0 rfl ?_
    refine h_iconst (pc := 19) C dX0_meet_19 jc_2 ?_
    obtain ⟨v4, hc, hf⟩ := jbd_s hf
    refine h_callP (pc := 20) (As := [.int a0, .int 2]) (rest := .int v3 :: []) (st2 := .int v4 :: .int v3 :: []) C (c_X0_side l D cT ad n a0 2 v4 hc) (va_cwS 2 C.1.2.2.2.2 gX0_meet_X0_side rfl rfl rfl ps_X0_side ⟨(Nat.le_of_ble_eq_true rfl), (Nat.le_of_ble_eq_true rfl)⟩) dX0_meet_20 rfl rfl (Nat.le_of_ble_eq_true rfl) ⟨rfl, rfl⟩ ⟨(Nat.le_of_ble_eq_true rfl), (Nat.le_of_ble_eq_true rfl)⟩ rfl ?_
    clear hc
    refine h_icmp_gt (pc := 23) (tgt := 56) C dX0_meet_23 (by decide) (fun q => ?_) (fun q => ?_)
    · replace hf := jif_t q hf
      clear q
      refine h_iconst (pc := 56) C dX0_meet_56 jc_0 ?_
      have g0 := (Option.some.inj hf)
      clear hf
      subst g0
      exact h_zret C hr rfl dX0_meet_57
    · replace hf := jif_f q hf
      clear q
      refine h_iload_n (pc := 26) C dX0_meet_26 rfl 0 rfl ?_
      refine h_iconst (pc := 27) C dX0_meet_27 jc_1 ?_
      obtain ⟨v5, hc, hf⟩ := jbd_s hf
      refine h_callP (pc := 28) (As := [.int a0, .int 1]) (rest := []) (st2 := .int v5 :: []) C (c_X0_side l D cT ad n a0 1 v5 hc) (va_cwS 2 C.1.2.2.2.2 gX0_meet_X0_side rfl rfl rfl ps_X0_side ⟨(Nat.le_of_ble_eq_true rfl), (Nat.le_of_ble_eq_true rfl)⟩) dX0_meet_28 rfl rfl (Nat.le_of_ble_eq_true rfl) ⟨rfl, rfl⟩ ⟨(Nat.le_of_ble_eq_true rfl), (Nat.le_of_ble_eq_true rfl)⟩ rfl ?_
      clear hc
      refine h_iload_n (pc := 31) C dX0_meet_31 rfl 1 rfl ?_
      refine h_iconst (pc := 32) C dX0_meet_32 jc_3 ?_
      obtain ⟨v6, hc, hf⟩ := jbd_s hf
      refine h_callP (pc := 33) (As := [.int a1, .int 3]) (rest := .int v5 :: []) (st2 := .int v6 :: .int v5 :: []) C (c_X0_side l D cT ad n a1 3 v6 hc) (va_cwS 2 C.1.2.2.2.2 gX0_meet_X0_side rfl rfl rfl ps_X0_side ⟨(Nat.le_of_ble_eq_true rfl), (Nat.le_of_ble_eq_true rfl)⟩) dX0_meet_33 rfl rfl (Nat.le_of_ble_eq_true rfl) ⟨rfl, rfl⟩ ⟨(Nat.le_of_ble_eq_true rfl), (Nat.le_of_ble_eq_true rfl)⟩ rfl ?_
      clear hc
      refine h_icmp_gt (pc := 36) (tgt := 56) C dX0_meet_36 (by decide) (fun q => ?_) (fun q => ?_)
      · replace hf := jif_t q hf
        clear q
        refine h_iconst (pc := 56) C dX0_meet_56 jc_0 ?_
        have g0 := (Option.some.inj hf)
        clear hf
        subst g0
        exact h_zret C hr rfl dX0_meet_57
      · replace hf := jif_f q hf
        clear q
        refine h_iload_n (pc := 39) C dX0_meet_39 rfl 1 rfl ?_
        refine h_iconst (pc := 40) C dX0_meet_40 jc_1 ?_
        obtain ⟨v7, hc, hf⟩ := jbd_s hf
        refine h_callP (pc := 41) (As := [.int a1, .int 1]) (rest := []) (st2 := .int v7 :: []) C (c_X0_side l D cT ad n a1 1 v7 hc) (va_cwS 2 C.1.2.2.2.2 gX0_meet_X0_side rfl rfl rfl ps_X0_side ⟨(Nat.le_of_ble_eq_true rfl), (Nat.le_of_ble_eq_true rfl)⟩) dX0_meet_41 rfl rfl (Nat.le_of_ble_eq_true rfl) ⟨rfl, rfl⟩ ⟨(Nat.le_of_ble_eq_true rfl), (Nat.le_of_ble_eq_true rfl)⟩ rfl ?_
        clear hc
        refine h_iload_n (pc := 44) C dX0_meet_44 rfl 0 rfl ?_
        refine h_iconst (pc := 45) C dX0_meet_45 jc_3 ?_
        obtain ⟨v8, hc, hf⟩ := jbd_s hf
        refine h_callP (pc := 46) (As := [.int a0, .int 3]) (rest := .int v7 :: []) (st2 := .int v8 :: .int v7 :: []) C (c_X0_side l D cT ad n a0 3 v8 hc) (va_cwS 2 C.1.2.2.2.2 gX0_meet_X0_side rfl rfl rfl ps_X0_side ⟨(Nat.le_of_ble_eq_true rfl), (Nat.le_of_ble_eq_true rfl)⟩) dX0_meet_46 rfl rfl (Nat.le_of_ble_eq_true rfl) ⟨rfl, rfl⟩ ⟨(Nat.le_of_ble_eq_true rfl), (Nat.le_of_ble_eq_true rfl)⟩ rfl ?_
        clear hc
        refine h_icmp_gt (pc := 49) (tgt := 56) C dX0_meet_49 (by decide) (fun q => ?_) (fun q => ?_)
        · replace hf := jif_t q hf
          clear q
          refine h_iconst (pc := 56) C dX0_meet_56 jc_0 ?_
          have g0 := (Option.some.inj hf)
          clear hf
          subst g0
          exact h_zret C hr rfl dX0_meet_57
        · replace hf := jif_f q hf
          clear q
          refine h_iconst (pc := 52) C dX0_meet_52 jc_1 ?_
          refine h_goto (pc := 53) (tgt := 57) C dX0_meet_53 (by decide) ?_
          have g0 := (Option.some.inj hf)
          clear hf
          subst g0
          exact h_zret C hr rfl dX0_meet_57
theorem ps_X0_meet : yX0_meet.cls ≠ "java/lang/invoke/MethodHandle" ∧ yX0_meet.cls ≠ "java/lang/invoke/VarHandle" ∧ (parseMethodDescriptor yX0_meet.desc).map (fun d => d.parameters.length) = some 2 := by decide +kernel
abbrev rmX0_around : Room := { frames := 1, cells := 0, slots := 0, locals := 23 }
set_option maxRecDepth 100000 in
set_option maxHeartbeats 4000000 in
theorem c_X0_around (l : Launch) (D : va_G) (cT : Nat → ClassId) (ad : Nat → Nat) (n : Nat)  (a0 : Int32) (a1 : Int32) (r : Int32) (hf : f_X0_around n a0 a1 = some r) : cM l yX0_around wsX0_around rmX0_around D (ty4 cT) [.int a0, .int a1] [] (some (.int r)) [] := by
  refine cM_of (cc := cX0_around) (maxL := 2) (ret := (some .int)) (own := RX0) (lv := [(0, .int a0), (1, .int a1)]) (by decide) rfl (Nat.le_of_ble_eq_true rfl) rfl rfl ?_
  intro p e s m args below meth c A C hr
  unfold f_X0_around at hf
  refine h_iload_n (pc := 0) C dX0_around_0 rfl 0 rfl ?_
  refine h_iconst (pc := 1) C dX0_around_1 jc_0 ?_
  obtain ⟨v1, hc, hf⟩ := jbd_s hf
  refine h_callP (pc := 2) (As := [.int a0, .int 0]) (rest := []) (st2 := .int v1 :: []) C (c_X0_side l D cT ad n a0 0 v1 hc) (va_cwS 2 C.1.2.2.2.2 gX0_around_X0_side rfl rfl rfl ps_X0_side ⟨(Nat.le_of_ble_eq_true rfl), (Nat.le_of_ble_eq_true rfl)⟩) dX0_around_2 rfl rfl (Nat.le_of_ble_eq_true rfl) ⟨rfl, rfl⟩ ⟨(Nat.le_of_ble_eq_true rfl), (Nat.le_of_ble_eq_true rfl)⟩ rfl ?_
  clear hc
  refine h_iload_n (pc := 5) C dX0_around_5 rfl 1 rfl ?_
  refine h_iconst (pc := 6) C dX0_around_6 jc_0 ?_
  obtain ⟨v2, hc, hf⟩ := jbd_s hf
  refine h_callP (pc := 7) (As := [.int a1, .int 0]) (rest := .int v1 :: []) (st2 := .int v2 :: .int v1 :: []) C (c_X0_side l D cT ad n a1 0 v2 hc) (va_cwS 2 C.1.2.2.2.2 gX0_around_X0_side rfl rfl rfl ps_X0_side ⟨(Nat.le_of_ble_eq_true rfl), (Nat.le_of_ble_eq_true rfl)⟩) dX0_around_7 rfl rfl (Nat.le_of_ble_eq_true rfl) ⟨rfl, rfl⟩ ⟨(Nat.le_of_ble_eq_true rfl), (Nat.le_of_ble_eq_true rfl)⟩ rfl ?_
  clear hc
  refine h_mmin (pc := 10) C (List.mem_of_getElem? (i := 1) rfl) (List.mem_of_getElem? (i := 2) rfl) (List.mem_of_getElem? (i := 3) rfl) (List.mem_of_getElem? (i := 4) rfl) ⟨Nat.le_of_ble_eq_true rfl, Nat.le_of_ble_eq_true rfl, Nat.le_of_ble_eq_true rfl, Nat.le_of_ble_eq_true rfl⟩ dX0_around_10 ?_
  refine h_iload_n (pc := 13) C dX0_around_13 rfl 0 rfl ?_
  refine h_iconst (pc := 14) C dX0_around_14 jc_1 ?_
  obtain ⟨v3, hc, hf⟩ := jbd_s hf
  refine h_callP (pc := 15) (As := [.int a0, .int 1]) (rest := .int (jmin v1 v2) :: []) (st2 := .int v3 :: .int (jmin v1 v2) :: []) C (c_X0_side l D cT ad n a0 1 v3 hc) (va_cwS 2 C.1.2.2.2.2 gX0_around_X0_side rfl rfl rfl ps_X0_side ⟨(Nat.le_of_ble_eq_true rfl), (Nat.le_of_ble_eq_true rfl)⟩) dX0_around_15 rfl rfl (Nat.le_of_ble_eq_true rfl) ⟨rfl, rfl⟩ ⟨(Nat.le_of_ble_eq_true rfl), (Nat.le_of_ble_eq_true rfl)⟩ rfl ?_
  clear hc
  refine h_iload_n (pc := 18) C dX0_around_18 rfl 1 rfl ?_
  refine h_iconst (pc := 19) C dX0_around_19 jc_1 ?_
  obtain ⟨v4, hc, hf⟩ := jbd_s hf
  refine h_callP (pc := 20) (As := [.int a1, .int 1]) (rest := .int v3 :: .int (jmin v1 v2) :: []) (st2 := .int v4 :: .int v3 :: .int (jmin v1 v2) :: []) C (c_X0_side l D cT ad n a1 1 v4 hc) (va_cwS 2 C.1.2.2.2.2 gX0_around_X0_side rfl rfl rfl ps_X0_side ⟨(Nat.le_of_ble_eq_true rfl), (Nat.le_of_ble_eq_true rfl)⟩) dX0_around_20 rfl rfl (Nat.le_of_ble_eq_true rfl) ⟨rfl, rfl⟩ ⟨(Nat.le_of_ble_eq_true rfl), (Nat.le_of_ble_eq_true rfl)⟩ rfl ?_
  clear hc
  refine h_mmin (pc := 23) C (List.mem_of_getElem? (i := 1) rfl) (List.mem_of_getElem? (i := 2) rfl) (List.mem_of_getElem? (i := 3) rfl) (List.mem_of_getElem? (i := 4) rfl) ⟨Nat.le_of_ble_eq_true rfl, Nat.le_of_ble_eq_true rfl, Nat.le_of_ble_eq_true rfl, Nat.le_of_ble_eq_true rfl⟩ dX0_around_23 ?_
  refine h_iload_n (pc := 26) C dX0_around_26 rfl 0 rfl ?_
  refine h_iconst (pc := 27) C dX0_around_27 jc_2 ?_
  obtain ⟨v5, hc, hf⟩ := jbd_s hf
  refine h_callP (pc := 28) (As := [.int a0, .int 2]) (rest := .int (jmin v3 v4) :: .int (jmin v1 v2) :: []) (st2 := .int v5 :: .int (jmin v3 v4) :: .int (jmin v1 v2) :: []) C (c_X0_side l D cT ad n a0 2 v5 hc) (va_cwS 2 C.1.2.2.2.2 gX0_around_X0_side rfl rfl rfl ps_X0_side ⟨(Nat.le_of_ble_eq_true rfl), (Nat.le_of_ble_eq_true rfl)⟩) dX0_around_28 rfl rfl (Nat.le_of_ble_eq_true rfl) ⟨rfl, rfl⟩ ⟨(Nat.le_of_ble_eq_true rfl), (Nat.le_of_ble_eq_true rfl)⟩ rfl ?_
  clear hc
  refine h_iload_n (pc := 31) C dX0_around_31 rfl 1 rfl ?_
  refine h_iconst (pc := 32) C dX0_around_32 jc_2 ?_
  obtain ⟨v6, hc, hf⟩ := jbd_s hf
  refine h_callP (pc := 33) (As := [.int a1, .int 2]) (rest := .int v5 :: .int (jmin v3 v4) :: .int (jmin v1 v2) :: []) (st2 := .int v6 :: .int v5 :: .int (jmin v3 v4) :: .int (jmin v1 v2) :: []) C (c_X0_side l D cT ad n a1 2 v6 hc) (va_cwS 2 C.1.2.2.2.2 gX0_around_X0_side rfl rfl rfl ps_X0_side ⟨(Nat.le_of_ble_eq_true rfl), (Nat.le_of_ble_eq_true rfl)⟩) dX0_around_33 rfl rfl (Nat.le_of_ble_eq_true rfl) ⟨rfl, rfl⟩ ⟨(Nat.le_of_ble_eq_true rfl), (Nat.le_of_ble_eq_true rfl)⟩ rfl ?_
  clear hc
  refine h_mmax (pc := 36) C (List.mem_of_getElem? (i := 5) rfl) (List.mem_of_getElem? (i := 6) rfl) (List.mem_of_getElem? (i := 3) rfl) (List.mem_of_getElem? (i := 7) rfl) ⟨Nat.le_of_ble_eq_true rfl, Nat.le_of_ble_eq_true rfl, Nat.le_of_ble_eq_true rfl, Nat.le_of_ble_eq_true rfl⟩ dX0_around_36 ?_
  refine h_iload_n (pc := 39) C dX0_around_39 rfl 0 rfl ?_
  refine h_iconst (pc := 40) C dX0_around_40 jc_3 ?_
  obtain ⟨v7, hc, hf⟩ := jbd_s hf
  refine h_callP (pc := 41) (As := [.int a0, .int 3]) (rest := .int (jmax v5 v6) :: .int (jmin v3 v4) :: .int (jmin v1 v2) :: []) (st2 := .int v7 :: .int (jmax v5 v6) :: .int (jmin v3 v4) :: .int (jmin v1 v2) :: []) C (c_X0_side l D cT ad n a0 3 v7 hc) (va_cwS 2 C.1.2.2.2.2 gX0_around_X0_side rfl rfl rfl ps_X0_side ⟨(Nat.le_of_ble_eq_true rfl), (Nat.le_of_ble_eq_true rfl)⟩) dX0_around_41 rfl rfl (Nat.le_of_ble_eq_true rfl) ⟨rfl, rfl⟩ ⟨(Nat.le_of_ble_eq_true rfl), (Nat.le_of_ble_eq_true rfl)⟩ rfl ?_
  clear hc
  refine h_iload_n (pc := 44) C dX0_around_44 rfl 1 rfl ?_
  refine h_iconst (pc := 45) C dX0_around_45 jc_3 ?_
  obtain ⟨v8, hc, hf⟩ := jbd_s hf
  refine h_callP (pc := 46) (As := [.int a1, .int 3]) (rest := .int v7 :: .int (jmax v5 v6) :: .int (jmin v3 v4) :: .int (jmin v1 v2) :: []) (st2 := .int v8 :: .int v7 :: .int (jmax v5 v6) :: .int (jmin v3 v4) :: .int (jmin v1 v2) :: []) C (c_X0_side l D cT ad n a1 3 v8 hc) (va_cwS 2 C.1.2.2.2.2 gX0_around_X0_side rfl rfl rfl ps_X0_side ⟨(Nat.le_of_ble_eq_true rfl), (Nat.le_of_ble_eq_true rfl)⟩) dX0_around_46 rfl rfl (Nat.le_of_ble_eq_true rfl) ⟨rfl, rfl⟩ ⟨(Nat.le_of_ble_eq_true rfl), (Nat.le_of_ble_eq_true rfl)⟩ rfl ?_
  clear hc
  refine h_mmax (pc := 49) C (List.mem_of_getElem? (i := 5) rfl) (List.mem_of_getElem? (i := 6) rfl) (List.mem_of_getElem? (i := 3) rfl) (List.mem_of_getElem? (i := 7) rfl) ⟨Nat.le_of_ble_eq_true rfl, Nat.le_of_ble_eq_true rfl, Nat.le_of_ble_eq_true rfl, Nat.le_of_ble_eq_true rfl⟩ dX0_around_49 ?_
  obtain ⟨v9, hc, hf⟩ := jbd_s hf
  refine h_callP (pc := 52) (As := [.int (jmin v1 v2), .int (jmin v3 v4), .int (jmax v5 v6), .int (jmax v7 v8)]) (rest := []) (st2 := .int v9 :: []) C (c_X0_of l D cT ad n (jmin v1 v2) (jmin v3 v4) (jmax v5 v6) (jmax v7 v8) v9 hc) (va_cwS 4 C.1.2.2.2.2 gX0_around_X0_of rfl rfl rfl ps_X0_of ⟨(Nat.le_of_ble_eq_true rfl), (Nat.le_of_ble_eq_true rfl)⟩) dX0_around_52 rfl rfl (Nat.le_of_ble_eq_true rfl) ⟨rfl, rfl⟩ ⟨(Nat.le_of_ble_eq_true rfl), (Nat.le_of_ble_eq_true rfl)⟩ rfl ?_
  clear hc
  have g0 := (Option.some.inj hf)
  clear hf
  subst g0
  exact h_iret C hr dX0_around_55
theorem ps_X0_around : yX0_around.cls ≠ "java/lang/invoke/MethodHandle" ∧ yX0_around.cls ≠ "java/lang/invoke/VarHandle" ∧ (parseMethodDescriptor yX0_around.desc).map (fun d => d.parameters.length) = some 2 := by decide +kernel
abbrev rmX0_points : Room := { frames := 1, cells := 0, slots := 0, locals := 21 }
set_option maxRecDepth 100000 in
set_option maxHeartbeats 4000000 in
theorem c_X0_points (l : Launch) (D : va_G) (cT : Nat → ClassId) (ad : Nat → Nat) (n : Nat)  (a0 : Int32) (r : Int32) (hf : f_X0_points n a0 = some r) : cM l yX0_points wsX0_points rmX0_points D (ty4 cT) [.int a0] [] (some (.int r)) [] := by
  refine cM_of (cc := cX0_points) (maxL := 1) (ret := (some .int)) (own := RX0) (lv := [(0, .int a0)]) (by decide) rfl (Nat.le_of_ble_eq_true rfl) rfl rfl ?_
  intro p e s m args below meth c A C hr
  unfold f_X0_points at hf
  refine h_iload_n (pc := 0) C dX0_points_0 rfl 0 rfl ?_
  refine h_iconst (pc := 1) C dX0_points_1 jc_2 ?_
  obtain ⟨v1, hc, hf⟩ := jbd_s hf
  refine h_callP (pc := 2) (As := [.int a0, .int 2]) (rest := []) (st2 := .int v1 :: []) C (c_X0_side l D cT ad n a0 2 v1 hc) (va_cwS 2 C.1.2.2.2.2 gX0_points_X0_side rfl rfl rfl ps_X0_side ⟨(Nat.le_of_ble_eq_true rfl), (Nat.le_of_ble_eq_true rfl)⟩) dX0_points_2 rfl rfl (Nat.le_of_ble_eq_true rfl) ⟨rfl, rfl⟩ ⟨(Nat.le_of_ble_eq_true rfl), (Nat.le_of_ble_eq_true rfl)⟩ rfl ?_
  clear hc
  refine h_iload_n (pc := 5) C dX0_points_5 rfl 0 rfl ?_
  refine h_iconst (pc := 6) C dX0_points_6 jc_0 ?_
  obtain ⟨v2, hc, hf⟩ := jbd_s hf
  refine h_callP (pc := 7) (As := [.int a0, .int 0]) (rest := .int v1 :: []) (st2 := .int v2 :: .int v1 :: []) C (c_X0_side l D cT ad n a0 0 v2 hc) (va_cwS 2 C.1.2.2.2.2 gX0_points_X0_side rfl rfl rfl ps_X0_side ⟨(Nat.le_of_ble_eq_true rfl), (Nat.le_of_ble_eq_true rfl)⟩) dX0_points_7 rfl rfl (Nat.le_of_ble_eq_true rfl) ⟨rfl, rfl⟩ ⟨(Nat.le_of_ble_eq_true rfl), (Nat.le_of_ble_eq_true rfl)⟩ rfl ?_
  clear hc
  refine h_isub (pc := 10) C dX0_points_10 ?_
  refine h_iconst (pc := 11) C dX0_points_11 jc_1 ?_
  refine h_iadd (pc := 12) C dX0_points_12 ?_
  refine h_iload_n (pc := 13) C dX0_points_13 rfl 0 rfl ?_
  refine h_iconst (pc := 14) C dX0_points_14 jc_3 ?_
  obtain ⟨v3, hc, hf⟩ := jbd_s hf
  refine h_callP (pc := 15) (As := [.int a0, .int 3]) (rest := .int ((v1 - v2) + 1) :: []) (st2 := .int v3 :: .int ((v1 - v2) + 1) :: []) C (c_X0_side l D cT ad n a0 3 v3 hc) (va_cwS 2 C.1.2.2.2.2 gX0_points_X0_side rfl rfl rfl ps_X0_side ⟨(Nat.le_of_ble_eq_true rfl), (Nat.le_of_ble_eq_true rfl)⟩) dX0_points_15 rfl rfl (Nat.le_of_ble_eq_true rfl) ⟨rfl, rfl⟩ ⟨(Nat.le_of_ble_eq_true rfl), (Nat.le_of_ble_eq_true rfl)⟩ rfl ?_
  clear hc
  refine h_iload_n (pc := 18) C dX0_points_18 rfl 0 rfl ?_
  refine h_iconst (pc := 19) C dX0_points_19 jc_1 ?_
  obtain ⟨v4, hc, hf⟩ := jbd_s hf
  refine h_callP (pc := 20) (As := [.int a0, .int 1]) (rest := .int v3 :: .int ((v1 - v2) + 1) :: []) (st2 := .int v4 :: .int v3 :: .int ((v1 - v2) + 1) :: []) C (c_X0_side l D cT ad n a0 1 v4 hc) (va_cwS 2 C.1.2.2.2.2 gX0_points_X0_side rfl rfl rfl ps_X0_side ⟨(Nat.le_of_ble_eq_true rfl), (Nat.le_of_ble_eq_true rfl)⟩) dX0_points_20 rfl rfl (Nat.le_of_ble_eq_true rfl) ⟨rfl, rfl⟩ ⟨(Nat.le_of_ble_eq_true rfl), (Nat.le_of_ble_eq_true rfl)⟩ rfl ?_
  clear hc
  refine h_isub (pc := 23) C dX0_points_23 ?_
  refine h_iconst (pc := 24) C dX0_points_24 jc_1 ?_
  refine h_iadd (pc := 25) C dX0_points_25 ?_
  refine h_imul (pc := 26) C dX0_points_26 ?_
  have g0 := (Option.some.inj hf)
  clear hf
  subst g0
  exact h_iret C hr dX0_points_27
theorem ps_X0_points : yX0_points.cls ≠ "java/lang/invoke/MethodHandle" ∧ yX0_points.cls ≠ "java/lang/invoke/VarHandle" ∧ (parseMethodDescriptor yX0_points.desc).map (fun d => d.parameters.length) = some 1 := by decide +kernel
abbrev rmX0_gap : Room := { frames := 1, cells := 0, slots := 0, locals := 21 }
set_option maxRecDepth 100000 in
set_option maxHeartbeats 4000000 in
theorem c_X0_gap (l : Launch) (D : va_G) (cT : Nat → ClassId) (ad : Nat → Nat) (n : Nat)  (a0 : Int32) (a1 : Int32) (a2 : Int32) (r : Int32) (hf : f_X0_gap n a0 a1 a2 = some r) : cM l yX0_gap wsX0_gap rmX0_gap D (ty4 cT) [.int a0, .int a1, .int a2] [] (some (.int r)) [] := by
  refine cM_of (cc := cX0_gap) (maxL := 3) (ret := (some .int)) (own := RX0) (lv := [(0, .int a0), (1, .int a1), (2, .int a2)]) (by decide) rfl (Nat.le_of_ble_eq_true rfl) rfl rfl ?_
  intro p e s m args below meth c A C hr
  unfold f_X0_gap at hf
  refine h_iconst (pc := 0) C dX0_gap_0 jc_0 ?_
  refine h_iload_n (pc := 1) C dX0_gap_1 rfl 0 rfl ?_
  refine h_iload_n (pc := 2) C dX0_gap_2 rfl 2 rfl ?_
  refine h_isub (pc := 3) C dX0_gap_3 ?_
  refine h_iload_n (pc := 4) C dX0_gap_4 rfl 2 rfl ?_
  refine h_iload_n (pc := 5) C dX0_gap_5 rfl 1 rfl ?_
  refine h_isub (pc := 6) C dX0_gap_6 ?_
  refine h_mmax (pc := 7) C (List.mem_of_getElem? (i := 1) rfl) (List.mem_of_getElem? (i := 2) rfl) (List.mem_of_getElem? (i := 3) rfl) (List.mem_of_getElem? (i := 4) rfl) ⟨Nat.le_of_ble_eq_true rfl, Nat.le_of_ble_eq_true rfl, Nat.le_of_ble_eq_true rfl, Nat.le_of_ble_eq_true rfl⟩ dX0_gap_7 ?_
  refine h_mmax (pc := 10) C (List.mem_of_getElem? (i := 1) rfl) (List.mem_of_getElem? (i := 2) rfl) (List.mem_of_getElem? (i := 3) rfl) (List.mem_of_getElem? (i := 4) rfl) ⟨Nat.le_of_ble_eq_true rfl, Nat.le_of_ble_eq_true rfl, Nat.le_of_ble_eq_true rfl, Nat.le_of_ble_eq_true rfl⟩ dX0_gap_10 ?_
  have g0 := (Option.some.inj hf)
  clear hf
  subst g0
  exact h_iret C hr dX0_gap_13
theorem ps_X0_gap : yX0_gap.cls ≠ "java/lang/invoke/MethodHandle" ∧ yX0_gap.cls ≠ "java/lang/invoke/VarHandle" ∧ (parseMethodDescriptor yX0_gap.desc).map (fun d => d.parameters.length) = some 3 := by decide +kernel
abbrev rmX0_distanceFrom : Room := { frames := 2, cells := 0, slots := 0, locals := 43 }
set_option maxRecDepth 100000 in
set_option maxHeartbeats 4000000 in
theorem c_X0_distanceFrom (l : Launch) (D : va_G) (cT : Nat → ClassId) (ad : Nat → Nat) (n : Nat)  (a0 : Int32) (a1 : Int32) (a2 : Int32) (r : Int32) (hf : f_X0_distanceFrom n a0 a1 a2 = some r) : cM l yX0_distanceFrom wsX0_distanceFrom rmX0_distanceFrom D (ty4 cT) [.int a0, .int a1, .int a2] [] (some (.int r)) [] := by
  refine cM_of (cc := cX0_distanceFrom) (maxL := 5) (ret := (some .int)) (own := RX0) (lv := [(0, .int a0), (1, .int a1), (2, .int a2)]) (by decide) rfl (Nat.le_of_ble_eq_true rfl) rfl rfl ?_
  intro p e s m args below meth c A C hr
  unfold f_X0_distanceFrom at hf
  refine h_iload_n (pc := 0) C dX0_distanceFrom_0 rfl 0 rfl ?_
  refine h_iconst (pc := 1) C dX0_distanceFrom_1 jc_0 ?_
  obtain ⟨v1, hc, hf⟩ := jbd_s hf
  refine h_callP (pc := 2) (As := [.int a0, .int 0]) (rest := []) (st2 := .int v1 :: []) C (c_X0_side l D cT ad n a0 0 v1 hc) (va_cwS 2 C.1.2.2.2.2 gX0_distanceFrom_X0_side rfl rfl rfl ps_X0_side ⟨(Nat.le_of_ble_eq_true rfl), (Nat.le_of_ble_eq_true rfl)⟩) dX0_distanceFrom_2 rfl rfl (Nat.le_of_ble_eq_true rfl) ⟨rfl, rfl⟩ ⟨(Nat.le_of_ble_eq_true rfl), (Nat.le_of_ble_eq_true rfl)⟩ rfl ?_
  clear hc
  refine h_iload_n (pc := 5) C dX0_distanceFrom_5 rfl 0 rfl ?_
  refine h_iconst (pc := 6) C dX0_distanceFrom_6 jc_2 ?_
  obtain ⟨v2, hc, hf⟩ := jbd_s hf
  refine h_callP (pc := 7) (As := [.int a0, .int 2]) (rest := .int v1 :: []) (st2 := .int v2 :: .int v1 :: []) C (c_X0_side l D cT ad n a0 2 v2 hc) (va_cwS 2 C.1.2.2.2.2 gX0_distanceFrom_X0_side rfl rfl rfl ps_X0_side ⟨(Nat.le_of_ble_eq_true rfl), (Nat.le_of_ble_eq_true rfl)⟩) dX0_distanceFrom_7 rfl rfl (Nat.le_of_ble_eq_true rfl) ⟨rfl, rfl⟩ ⟨(Nat.le_of_ble_eq_true rfl), (Nat.le_of_ble_eq_true rfl)⟩ rfl ?_
  clear hc
  refine h_iload_n (pc := 10) C dX0_distanceFrom_10 rfl 1 rfl ?_
  obtain ⟨v3, hc, hf⟩ := jbd_s hf
  refine h_callP (pc := 11) (As := [.int v1, .int v2, .int a1]) (rest := []) (st2 := .int v3 :: []) C (c_X0_gap l D cT ad n v1 v2 a1 v3 hc) (va_cwS 3 C.1.2.2.2.2 gX0_distanceFrom_X0_gap rfl rfl rfl ps_X0_gap ⟨(Nat.le_of_ble_eq_true rfl), (Nat.le_of_ble_eq_true rfl)⟩) dX0_distanceFrom_11 rfl rfl (Nat.le_of_ble_eq_true rfl) ⟨rfl, rfl⟩ ⟨(Nat.le_of_ble_eq_true rfl), (Nat.le_of_ble_eq_true rfl)⟩ rfl ?_
  clear hc
  refine h_istore_n (pc := 14) (lv' := [(3, .int v3), (0, .int a0), (1, .int a1), (2, .int a2)]) C dX0_distanceFrom_14 rfl (by decide) rfl ?_
  refine h_iload_n (pc := 15) C dX0_distanceFrom_15 rfl 1 rfl ?_
  refine h_iconst (pc := 16) C dX0_distanceFrom_16 jc_1 ?_
  obtain ⟨v4, hc, hf⟩ := jbd_s hf
  refine h_callP (pc := 17) (As := [.int a0, .int 1]) (rest := []) (st2 := .int v4 :: []) C (c_X0_side l D cT ad n a0 1 v4 hc) (va_cwS 2 C.1.2.2.2.2 gX0_distanceFrom_X0_side rfl rfl rfl ps_X0_side ⟨(Nat.le_of_ble_eq_true rfl), (Nat.le_of_ble_eq_true rfl)⟩) dX0_distanceFrom_17 rfl rfl (Nat.le_of_ble_eq_true rfl) ⟨rfl, rfl⟩ ⟨(Nat.le_of_ble_eq_true rfl), (Nat.le_of_ble_eq_true rfl)⟩ rfl ?_
  clear hc
  refine h_iload_n (pc := 20) C dX0_distanceFrom_20 rfl 1 rfl ?_
  refine h_iconst (pc := 21) C dX0_distanceFrom_21 jc_3 ?_
  obtain ⟨v5, hc, hf⟩ := jbd_s hf
  refine h_callP (pc := 22) (As := [.int a0, .int 3]) (rest := .int v4 :: []) (st2 := .int v5 :: .int v4 :: []) C (c_X0_side l D cT ad n a0 3 v5 hc) (va_cwS 2 C.1.2.2.2.2 gX0_distanceFrom_X0_side rfl rfl rfl ps_X0_side ⟨(Nat.le_of_ble_eq_true rfl), (Nat.le_of_ble_eq_true rfl)⟩) dX0_distanceFrom_22 rfl rfl (Nat.le_of_ble_eq_true rfl) ⟨rfl, rfl⟩ ⟨(Nat.le_of_ble_eq_true rfl), (Nat.le_of_ble_eq_true rfl)⟩ rfl ?_
  clear hc
  refine h_iload_n (pc := 25) C dX0_distanceFrom_25 rfl 3 rfl ?_
  obtain ⟨v6, hc, hf⟩ := jbd_s hf
  refine h_callP (pc := 26) (As := [.int v4, .int v5, .int a2]) (rest := []) (st2 := .int v6 :: []) C (c_X0_gap l D cT ad n v4 v5 a2 v6 hc) (va_cwS 3 C.1.2.2.2.2 gX0_distanceFrom_X0_gap rfl rfl rfl ps_X0_gap ⟨(Nat.le_of_ble_eq_true rfl), (Nat.le_of_ble_eq_true rfl)⟩) dX0_distanceFrom_26 rfl rfl (Nat.le_of_ble_eq_true rfl) ⟨rfl, rfl⟩ ⟨(Nat.le_of_ble_eq_true rfl), (Nat.le_of_ble_eq_true rfl)⟩ rfl ?_
  clear hc
  refine h_istore (pc := 29) (lv' := [(4, .int v6), (3, .int v3), (0, .int a0), (1, .int a1), (2, .int a2)]) C dX0_distanceFrom_29 (by decide) rfl ?_
  refine h_iload_n (pc := 31) C dX0_distanceFrom_31 rfl 1 rfl ?_
  refine h_iload_n (pc := 32) C dX0_distanceFrom_32 rfl 1 rfl ?_
  refine h_imul (pc := 33) C dX0_distanceFrom_33 ?_
  refine h_iload (pc := 34) C dX0_distanceFrom_34 0 rfl ?_
  refine h_iload (pc := 36) C dX0_distanceFrom_36 0 rfl ?_
  refine h_imul (pc := 38) C dX0_distanceFrom_38 ?_
  refine h_iadd (pc := 39) C dX0_distanceFrom_39 ?_
  have g0 := (Option.some.inj hf)
  clear hf
  subst g0
  exact h_iret C hr dX0_distanceFrom_40
theorem ps_X0_distanceFrom : yX0_distanceFrom.cls ≠ "java/lang/invoke/MethodHandle" ∧ yX0_distanceFrom.cls ≠ "java/lang/invoke/VarHandle" ∧ (parseMethodDescriptor yX0_distanceFrom.desc).map (fun d => d.parameters.length) = some 3 := by decide +kernel
abbrev rmX0_middleKey : Room := { frames := 2, cells := 0, slots := 0, locals := 49 }
set_option maxRecDepth 100000 in
set_option maxHeartbeats 4000000 in
theorem c_X0_middleKey (l : Launch) (D : va_G) (cT : Nat → ClassId) (ad : Nat → Nat) (n : Nat)  (a0 : Int32) (r : Int32) (hf : f_X0_middleKey n a0 = some r) : cM l yX0_middleKey wsX0_middleKey rmX0_middleKey D (ty4 cT) [.int a0] [] (some (.int r)) [] := by
  refine cM_of (cc := cX0_middleKey) (maxL := 3) (ret := (some .int)) (own := RX0) (lv := [(0, .int a0)]) (by decide) rfl (Nat.le_of_ble_eq_true rfl) rfl rfl ?_
  intro p e s m args below meth c A C hr
  unfold f_X0_middleKey at hf
  refine h_iload_n (pc := 0) C dX0_middleKey_0 rfl 0 rfl ?_
  refine h_iconst (pc := 1) C dX0_middleKey_1 jc_0 ?_
  obtain ⟨v1, hc, hf⟩ := jbd_s hf
  refine h_callP (pc := 2) (As := [.int a0, .int 0]) (rest := []) (st2 := .int v1 :: []) C (c_X0_side l D cT ad n a0 0 v1 hc) (va_cwS 2 C.1.2.2.2.2 gX0_middleKey_X0_side rfl rfl rfl ps_X0_side ⟨(Nat.le_of_ble_eq_true rfl), (Nat.le_of_ble_eq_true rfl)⟩) dX0_middleKey_2 rfl rfl (Nat.le_of_ble_eq_true rfl) ⟨rfl, rfl⟩ ⟨(Nat.le_of_ble_eq_true rfl), (Nat.le_of_ble_eq_true rfl)⟩ rfl ?_
  clear hc
  refine h_iload_n (pc := 5) C dX0_middleKey_5 rfl 0 rfl ?_
  refine h_iconst (pc := 6) C dX0_middleKey_6 jc_2 ?_
  obtain ⟨v2, hc, hf⟩ := jbd_s hf
  refine h_callP (pc := 7) (As := [.int a0, .int 2]) (rest := .int v1 :: []) (st2 := .int v2 :: .int v1 :: []) C (c_X0_side l D cT ad n a0 2 v2 hc) (va_cwS 2 C.1.2.2.2.2 gX0_middleKey_X0_side rfl rfl rfl ps_X0_side ⟨(Nat.le_of_ble_eq_true rfl), (Nat.le_of_ble_eq_true rfl)⟩) dX0_middleKey_7 rfl rfl (Nat.le_of_ble_eq_true rfl) ⟨rfl, rfl⟩ ⟨(Nat.le_of_ble_eq_true rfl), (Nat.le_of_ble_eq_true rfl)⟩ rfl ?_
  clear hc
  refine h_iadd (pc := 10) C dX0_middleKey_10 ?_
  refine h_iconst (pc := 11) C dX0_middleKey_11 jc_2 ?_
  refine h_idiv (pc := 12) C dX0_middleKey_12 (by decide) ?_
  refine h_istore_n (pc := 13) (lv' := [(1, .int ((v1 + v2) / 2)), (0, .int a0)]) C dX0_middleKey_13 rfl (by decide) rfl ?_
  refine h_iload_n (pc := 14) C dX0_middleKey_14 rfl 1 rfl ?_
  refine h_iconst (pc := 15) C dX0_middleKey_15 jc_1 ?_
  obtain ⟨v3, hc, hf⟩ := jbd_s hf
  refine h_callP (pc := 16) (As := [.int a0, .int 1]) (rest := []) (st2 := .int v3 :: []) C (c_X0_side l D cT ad n a0 1 v3 hc) (va_cwS 2 C.1.2.2.2.2 gX0_middleKey_X0_side rfl rfl rfl ps_X0_side ⟨(Nat.le_of_ble_eq_true rfl), (Nat.le_of_ble_eq_true rfl)⟩) dX0_middleKey_16 rfl rfl (Nat.le_of_ble_eq_true rfl) ⟨rfl, rfl⟩ ⟨(Nat.le_of_ble_eq_true rfl), (Nat.le_of_ble_eq_true rfl)⟩ rfl ?_
  clear hc
  refine h_iload_n (pc := 19) C dX0_middleKey_19 rfl 1 rfl ?_
  refine h_iconst (pc := 20) C dX0_middleKey_20 jc_3 ?_
  obtain ⟨v4, hc, hf⟩ := jbd_s hf
  refine h_callP (pc := 21) (As := [.int a0, .int 3]) (rest := .int v3 :: []) (st2 := .int v4 :: .int v3 :: []) C (c_X0_side l D cT ad n a0 3 v4 hc) (va_cwS 2 C.1.2.2.2.2 gX0_middleKey_X0_side rfl rfl rfl ps_X0_side ⟨(Nat.le_of_ble_eq_true rfl), (Nat.le_of_ble_eq_true rfl)⟩) dX0_middleKey_21 rfl rfl (Nat.le_of_ble_eq_true rfl) ⟨rfl, rfl⟩ ⟨(Nat.le_of_ble_eq_true rfl), (Nat.le_of_ble_eq_true rfl)⟩ rfl ?_
  clear hc
  refine h_iadd (pc := 24) C dX0_middleKey_24 ?_
  refine h_iconst (pc := 25) C dX0_middleKey_25 jc_2 ?_
  refine h_idiv (pc := 26) C dX0_middleKey_26 (by decide) ?_
  refine h_istore_n (pc := 27) (lv' := [(2, .int ((v3 + v4) / 2)), (1, .int ((v1 + v2) / 2)), (0, .int a0)]) C dX0_middleKey_27 rfl (by decide) rfl ?_
  refine h_iload_n (pc := 28) C dX0_middleKey_28 rfl 1 rfl ?_
  refine h_iload_n (pc := 29) C dX0_middleKey_29 rfl 0 rfl ?_
  obtain ⟨v5, hc, hf⟩ := jbd_s hf
  refine h_callP (pc := 30) (As := [.int ((v1 + v2) / 2), .int ((v3 + v4) / 2)]) (rest := []) (st2 := .int v5 :: []) C (c_X1_lengthTo l D cT ad n ((v1 + v2) / 2) ((v3 + v4) / 2) v5 hc) (va_cwS 2 C.1.2.2.2.2 gX0_middleKey_X1_lengthTo rfl rfl rfl ps_X1_lengthTo ⟨(Nat.le_of_ble_eq_true rfl), (Nat.le_of_ble_eq_true rfl)⟩) dX0_middleKey_30 rfl rfl (Nat.le_of_ble_eq_true rfl) ⟨rfl, rfl⟩ ⟨(Nat.le_of_ble_eq_true rfl), (Nat.le_of_ble_eq_true rfl)⟩ rfl ?_
  clear hc
  have g0 := (Option.some.inj hf)
  clear hf
  subst g0
  exact h_iret C hr dX0_middleKey_33
theorem ps_X0_middleKey : yX0_middleKey.cls ≠ "java/lang/invoke/MethodHandle" ∧ yX0_middleKey.cls ≠ "java/lang/invoke/VarHandle" ∧ (parseMethodDescriptor yX0_middleKey.desc).map (fun d => d.parameters.length) = some 1 := by decide +kernel
