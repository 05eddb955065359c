/-! the constructors -/
section HI
variable {p : Program} {l : Launch} {e : Env} {R : Room} {s : State} {m : MethodId} {args : Array Value} {below : List Frame} {meth : Method} {c : Code} {cells slots : Nat} {Q : State → Prop}
variable {cc : ByteArray} {nL : Nat} {Ts : List Cond} {own : String} {D : va_G} {tys : List (ClassId × FieldType)} {A : Nat → Prop} {pc : Nat} {lv : List (Nat × Value)} {st : List Value} {ws : va_W}
def iQ (D : va_G) (tys : List (ClassId × FieldType)) (A : Nat → Prop) (wf : (Nat → Nat) → va_W) : Array Value → State → Outcome → State → Prop := fun _ st oc t => oc = .returned none ∧ (∃ qs : Nat → Nat, va_P D vwCl (wf qs) t.heap ∧ va_D A (wf qs)) ∧ va_K D vwCl tys t ∧ va_F A st t
def nW (U : State) : Prop := va_Nw (.methodLinkNest RX4 15 yX2_init "HilbertHutch") U ∧ va_Nw (.methodLinkNest RX4 22 yX3_init "HilbertHutch") U
theorem nW.warm {s U : State} (hW : s.WarmedH U.vm) (h : nW s) : nW U := ⟨va_Nw.warmM hW h.1, va_Nw.warmM hW h.2⟩
def iP (D : va_G) (tys : List (ClassId × FieldType)) (av : List Value) (w : va_W) (sz : Nat) : Array Value → State → Prop := va_Pc av (fun U => U.heap.size = sz ∧ va_P D vwCl w U.heap ∧ va_K D vwCl tys U ∧ va_D (fun _ => True) w ∧ nW U)
theorem iP_blind {av : List Value} {w : va_W} {sz : Nat} : FrameBlind (iP D tys av w sz) := fun a U g mk q => by
  obtain ⟨q0, q1, qP, qK, qD, z1, z2⟩ := q
  exact ⟨q0, q1, qP, va_K.moved (u := U) (U := U.calling g mk a) (Vm.Alike.refl U.vm) qK, qD, va_Nw.same (u := U) (U := U.calling g mk a) rfl rfl z1, va_Nw.same (u := U) (U := U.calling g mk a) rfl rfl z2⟩
def iM (l : Launch) (y : MethodName) (wsy : List Cond) (rm : Room) (D : va_G) (tys : List (ClassId × FieldType)) (av : List Value) (w : va_W) (wf : (Nat → Nat) → va_W) : Prop :=
  ∀ sz : Nat, Met l y wsy rm (iP D tys av w sz) (iQ D tys (va_A w sz) wf) rm.cells rm.slots (va_A w sz)
theorem iM_of {y : MethodName} {wsy ws' : List Cond} {rm : Room} {av : List Value} {w : va_W} {wf : (Nat → Nat) → va_W} {maxL : Nat} {ret : Option FieldType} {own : String} {lv : List (Nat × Value)} (hy : plainName y.cls = true) (hw : wsy = Cond.code y cc maxL ret :: ws') (hlen : (lg_sl av).length ≤ maxL) (ho : y.cls = own) (hnm : y.name = "<init>") (hlv : lv_args 0 av = lv)
    (body : ∀ (p : Program) (e : Env) (s : State) (m : MethodId) (args : Array Value) (below : List Frame) (meth : Method) (c : Code) (A : Nat → Prop), hC p s m args meth c cc maxL wsy own D tys A → meth.sig.returnType = ret → meth.name = "<init>" → nW s →
      hK 0 p l e rm s m args below meth c maxL D A 0 0 (MQ below (iQ D tys A wf) args s rm.cells rm.slots A) 0 lv [] w) : iM l y wsy rm D tys av w wf := by
  subst hlv
  subst ho
  intro sz
  refine Met.ofW (cc := cc) (maxL := maxL) (ret := ret) hy hw ?_
  intro p e s m args below meth c s₁ B hml hv
  obtain ⟨rfl, hsz, hP, hK, hD0, hN⟩ := hv
  subst hsz
  have hts := atoms_spec (ws := wsy) B.pre
  have hown : s.vm.findClass y.cls = some m.cls := findClass_of_methodNamed B.named
  have hin : meth.name = "<init>" := (name_of_methodNamed B.named B.method).1.trans hnm
  have hD := hD0.self (sz := s.heap.size)
  have hA : ∀ q : Nat, s.heap.size ≤ q → va_A w s.heap.size q := fun q h => Or.inr h
  have hb := body p e s m av.toArray below meth c (va_A w s.heap.size) ⟨⟨B.exec, B.bytes, hml, hown, hts⟩, hK, B.notSynchronized, hA⟩ B.returns hin hN
  rw [lg_entry_eq]
  exact hb s.heap [] _ hP hD va_S.rf (Nat.le_refl _) (lv_entry av hlen)
theorem h_vretI (C : hC p s m args meth c cc nL Ts own D tys A) {wf : (Nat → Nat) → va_W} (qs : Nat → Nat) (is : List Nat) (hin : va_nd is = true) (his : is.map (fun i => ws[i]?) = (wf qs).map some) (hr : meth.sig.returnType = none) (hdg : decode cc pc = .ok (.return_, 1)) : hK 0 p l e R s m args below meth c nL D A cells slots (MQ below (iQ D tys A wf) args s cells slots A) pc lv [] ws :=
  fun H locs ls hP hD hS hG hl => W.vret C.1.1 C.1.2.1 hr (fun t ht hW => ⟨rfl, ⟨qs, by rw [ht]; exact h_psub his hP, hD.sub is hin his⟩, va_K.moved hW.alike C.2.1, hS.F ht⟩) hS.2.2 hdg C.2.2.1
theorem h_newa (C : hC p s m args meth c cc nL Ts own D tys A) {atype : ArrayType} {ty : FieldType} (hty : newarray.typeOf atype = ty) (harr : Cond.arrayClass ty ∈ Ts) (hRA : ∀ (U : State) (cA : ClassId), va_RA U cA ty → U.vm.findClass ("[" ++ ty.toString) = some cA) (t0 : Nat) {cA : ClassId} (ht : tys[t0]? = some (cA, ty)) {n : Int32} {N' : Nat} {a0 : vp_A} (ha : ∀ cA : ClassId, vp_cell cA a0 = arrV cA N' (fun _ => defaultValue ty)) (hn : ¬ n < 0) (hN : n.toNatClampNeg = N') (hbytes : N' * componentBytes ty ≤ 536870912) (hcells : cells + 1 ≤ R.cells ∧ slots + N' ≤ R.slots) (hdg : decode cc pc = .ok (.newarray atype, 2))
    (kk : ∀ q : Nat, hK 0 p l e R s m args below meth c nL D A (cells + 1) (slots + N') Q (pc + 2) lv (.ref q :: st) (ws ++ [(q, .inl (cA, a0))])) : hK 0 p l e R s m args below meth c nL D A cells slots Q pc lv (.int n :: st) ws := by
  subst hty
  intro H locs ls hP hD hS hG hl
  refine va_newa C.1.1 C.1.2.1 (C.1.2.2.2.2 _ harr) rfl C.2.1 hP hD hS C.2.2.2 ha hn hN hbytes hcells.1 hcells.2 hdg (fun q cA' H1 hK1 hP1 hD1 hS1 => ?_)
  have h1 := hRA _ _ (hK1.2 tys.length (cA', newarray.typeOf atype) (by simp)).2
  have h2 := hRA _ _ (C.2.1.2 t0 _ ht).2
  have h3 : cA' = cA := Option.some.inj (h1.symm.trans h2)
  subst h3
  exact kk q H1 locs ls hP1 hD1 hS1 (by have := hS1.1; omega) hl
theorem h_new (C : hC p s m args meth c cc nL Ts own D tys A) {C0 : String} {T : u_T} {N ci index : Nat} (hin : ∀ w ∈ u_ws C0 T N, w ∈ Ts) (ty : Nat → FieldType) (hty : ∀ k, k < N → parseFieldDescriptor (T k).2.2.1 = some (ty k)) (hcl : Cond.classLink own index C0 ∈ Ts) (hinst : Cond.instantiable C0 N ∈ Ts) (hini : Cond.initialized C0 ∈ Ts) (hc : vwCl[ci]? = some (C0, T, N)) {fs : List Value} (hfs : ∀ j, j < N → defaultValue (ty j) = vp_V fs j) (hcells : cells + 1 ≤ R.cells ∧ slots + N ≤ R.slots) (hdg : decode cc pc = .ok (.new index, 3))
    (kk : ∀ q : Nat, hK 0 p l e R s m args below meth c nL D A (cells + 1) (slots + N) Q (pc + 3) lv (.ref q :: st) (ws ++ [(q, .inr (ci, fs))])) : hK 0 p l e R s m args below meth c nL D A cells slots Q pc lv st ws :=
  fun H locs ls hP hD hS hG hl => va_new C.1.1 C.1.2.1 C.1.2.2.2.2 hin ty hty C.1.2.2.2.1 (C.1.2.2.2.2 _ hcl) (C.1.2.2.2.2 _ hinst) (C.1.2.2.2.2 _ hini) C.2.1 hP hD hS C.2.2.2 hc hfs hcells.1 hcells.2 hdg (fun q H1 hP1 hD1 hS1 => kk q H1 locs ls hP1 hD1 hS1 (by have := hS1.1; omega) hl)
theorem h_putF (C : hC p s m args meth c cc nL Ts own D tys A) {C0 : String} {T : u_T} {N ci index a : Nat} (hin : ∀ w ∈ u_ws C0 T N, w ∈ Ts) (ty0 : Nat → FieldType) (hty : ∀ k, k < N → parseFieldDescriptor (T k).2.2.1 = some (ty0 k)) (hnm : ∀ a, a < N → ∀ b, b < N → a ≠ b → (T a).2.1 ≠ (T b).2.1) (hc : vwCl[ci]? = some (C0, T, N)) (hin2 : meth.name = "<init>") (q0 : Nat) {fs : List Value} (he : ws[q0]? = some (a, .inr (ci, fs))) (k : Nat) (hk : k < N) {ref : String} (hlink : Cond.fieldLink own index ref (T k).2.1 (T k).2.2.1 ∈ Ts) (hown2 : (T k).1 = ref) (hown3 : (T k).1 = own) (hfin : (T k).2.2.2 = true) {ty : FieldType} {v : Value} (hd : ty0 k = ty) (hn : narrow ty v = v) (hfit : fits ty v = true) (hl1 : k < fs.length) {ws' : va_W} (hw : ws.set q0 (a, .inr (ci, fs.set k v)) = ws') (hdg : decode cc pc = .ok (.putfield index, 3)) (kk : hK 0 p l e R s m args below meth c nL D A cells slots Q (pc + 3) lv st ws') : hK 0 p l e R s m args below meth c nL D A cells slots Q pc lv (v :: .ref a :: st) ws := by
  subst hw
  intro H locs ls hP hD hS hG hl
  exact va_putF C.1.1 C.1.2.1 C.1.2.2.2.2 hin ty0 hty hnm C.1.2.2.2.1 C.2.1 hP hD hS q0 he hc k hk (C.1.2.2.2.2 _ hlink) (fun _ h9 => by rw [← hown2]; exact h9) hfin hin2 hown3 (ty := ty) (v := v) (by rw [hty k hk, hd]) hn hfit hl1 hdg (fun H1 locs1 hP1 hD1 hS1 => kk H1 locs1 ls hP1 hD1 hS1 (by have := hS1.1; omega) hl)
theorem h_obj (C : hC p s m args meth c cc nL Ts own D tys A) {a index : Nat} (h1 : Cond.methodLink own index objectInit ∈ Ts) (h2 : Cond.instanceMethod objectInit ∈ Ts) (h3 : Cond.code objectInit ⟨#[0xb1]⟩ 1 none ∈ Ts) (hR : 1 ≤ R.frames ∧ 12 ≤ R.locals) (hdg : decode cc pc = .ok (.invokespecial index, 3)) (kk : hK 0 p l e R s m args below meth c nL D A cells slots Q (pc + 3) lv [] ws) : hK 0 p l e R s m args below meth c nL D A cells slots Q pc lv [.ref a] ws :=
  fun H locs ls hP hD hS hG hl => W.objInit C.1.1 C.1.2.1 C.1.2.2.2.1 (C.1.2.2.2.2 _ h1) (C.1.2.2.2.2 _ h2) (C.1.2.2.2.2 _ h3) rfl (by rw [C.1.2.2.1]; exact hl.1) rfl hdg hR.1 hR.2 (W.eq (g2 := F0 m (pc + 3) ls []) rfl (kk H locs ls hP hD hS hG hl))
theorem h_callI (C : hC p s m args meth c cc nL Ts own D tys A) (hN : nW s) {y : MethodName} {wsy : List Cond} {rm : Room} {bytes : ByteArray} {maxL n index b : Nat} {As rest : List Value} {wc : va_W} {wf ws' : (Nat → Nat) → va_W}
    (hM : iM l y wsy rm D tys (.ref b :: As) wc wf) (cw : CallB R s args own index y bytes maxL none wsy rm rm.cells rm.slots n ∧ y.name = "<init>" ∧ (Cond.instanceMethod y).before args s = true) (hdg : decode cc pc = .ok (.invokespecial index, 3))
    (hn : As.length = n) (hst : st = As.reverse ++ .ref b :: rest) (hcat : (rest.map fun v => v.category).sum ≤ 8) (hf : cells + rm.cells ≤ R.cells ∧ slots + rm.slots ≤ R.slots)
    (isC isR is : List Nat) (hCs : isC.map (fun i => ws[i]?) = wc.map some) (hRs : isR.map (fun i => ws[i]?) = (isR.filterMap (fun i => ws[i]?)).map some) (hndC : va_nd isC = true) (hnd : va_nd isR = true) (hdis : ∀ i ∈ isR, i ∉ isC) (hin : va_nd is = true) (his : ∀ qs, is.map (fun i => (isR.filterMap (fun i => ws[i]?) ++ wf qs)[i]?) = (ws' qs).map some)
    (kk : ∀ qs, hK 0 p l e R s m args below meth c nL D A (cells + rm.cells) (slots + rm.slots) Q (pc + 3) lv rest (ws' qs)) : hK 0 p l e R s m args below meth c nL D A cells slots Q pc lv st ws := by
  subst hst
  intro H locs ls hP hD hS hG hl
  have hDc : va_D A wc := hD.sub isC hndC hCs
  have hFc := va_free (wc := wc) hD hS C.2.2.2 isC hCs
  intro T hT X
  obtain ⟨v, st₀, t, T', L, h0, X', hL, e1, e2, ⟨hv, ⟨qs, hP1, hD1⟩, hK1, hz, hk⟩, go⟩ := va_runI (As := As) (rest := rest) C.1 (hM H.size) cw ⟨iP_blind, fun U hU hW => ⟨rfl, by rw [hU], by rw [hU]; exact h_psub hCs hP, va_K.moved hW.alike C.2.1, hDc.weaken (fun _ _ _ _ => trivial), hN.warm hW⟩⟩ rfl hn hl.1 rfl (lv_room hcat) hdg hf T hT X
  have hv : v = none := by injection hv
  subst hv
  rw [h0] at hz hk
  obtain ⟨hP2, hD2⟩ := va_join (H1 := T'.heap) (wr := isR.filterMap (fun i => ws[i]?)) (w1 := wf qs) hP hD isC isR hCs hRs hnd hdis (fun q h1 h2 => by rw [e1]; exact hk q h1 h2) hFc (by rw [e1]; exact hP1) hD1
  obtain ⟨t2, a1, b1⟩ := kk qs T'.heap (locs ++ L) ls (h_psub (his qs) hP2) (hD2.sub is hin (his qs)) ⟨Nat.le_trans hS.1 (by rw [e1]; exact hz), fun q h1 h2 => by rw [e1, hk q (Nat.lt_of_lt_of_le h1 hS.1) (fun z => h2 (hFc q z))]; exact hS.2.1 q h1 h2, fun q hq => by
      rcases List.mem_append.mp hq with h | h
      · exact hS.2.2 q h
      · exact hFc _ (hL q h)⟩ (by rw [e1]; have := hS.1; omega) hl T' rfl X'
  exact ⟨t2, go t2 a1, b1⟩
theorem h_callIN (C : hC p s m args meth c cc nL Ts own D tys A) (hN : nW s) {y : MethodName} {wsy : List Cond} {rm : Room} {bytes : ByteArray} {maxL n index b : Nat} {host : String} {As rest : List Value} {wc : va_W} {wf ws' : (Nat → Nat) → va_W}
    (hM : iM l y wsy rm D tys (.ref b :: As) wc wf) (cw : va_CN R s args own index y host bytes maxL none wsy rm rm.cells rm.slots n ∧ y.name = "<init>" ∧ (Cond.instanceMethod y).before args s = true) (hdg : decode cc pc = .ok (.invokespecial index, 3))
    (hn : As.length = n) (hst : st = As.reverse ++ .ref b :: rest) (hcat : (rest.map fun v => v.category).sum ≤ 8) (hf : cells + rm.cells ≤ R.cells ∧ slots + rm.slots ≤ R.slots)
    (isC isR is : List Nat) (hCs : isC.map (fun i => ws[i]?) = wc.map some) (hRs : isR.map (fun i => ws[i]?) = (isR.filterMap (fun i => ws[i]?)).map some) (hndC : va_nd isC = true) (hnd : va_nd isR = true) (hdis : ∀ i ∈ isR, i ∉ isC) (hin : va_nd is = true) (his : ∀ qs, is.map (fun i => (isR.filterMap (fun i => ws[i]?) ++ wf qs)[i]?) = (ws' qs).map some)
    (kk : ∀ qs, hK 0 p l e R s m args below meth c nL D A (cells + rm.cells) (slots + rm.slots) Q (pc + 3) lv rest (ws' qs)) : hK 0 p l e R s m args below meth c nL D A cells slots Q pc lv st ws := by
  subst hst
  intro H locs ls hP hD hS hG hl
  have hDc : va_D A wc := hD.sub isC hndC hCs
  have hFc := va_free (wc := wc) hD hS C.2.2.2 isC hCs
  intro T hT X
  obtain ⟨v, st₀, t, T', L, h0, X', hL, e1, e2, ⟨hv, ⟨qs, hP1, hD1⟩, hK1, hz, hk⟩, go⟩ := va_runIN (As := As) (rest := rest) C.1 (hM H.size) cw ⟨iP_blind, fun U hU hW => ⟨rfl, by rw [hU], by rw [hU]; exact h_psub hCs hP, va_K.moved hW.alike C.2.1, hDc.weaken (fun _ _ _ _ => trivial), hN.warm hW⟩⟩ rfl hn hl.1 rfl (lv_room hcat) hdg hf T hT X
  have hv : v = none := by injection hv
  subst hv
  rw [h0] at hz hk
  obtain ⟨hP2, hD2⟩ := va_join (H1 := T'.heap) (wr := isR.filterMap (fun i => ws[i]?)) (w1 := wf qs) hP hD isC isR hCs hRs hnd hdis (fun q h1 h2 => by rw [e1]; exact hk q h1 h2) hFc (by rw [e1]; exact hP1) hD1
  obtain ⟨t2, a1, b1⟩ := kk qs T'.heap (locs ++ L) ls (h_psub (his qs) hP2) (hD2.sub is hin (his qs)) ⟨Nat.le_trans hS.1 (by rw [e1]; exact hz), fun q h1 h2 => by rw [e1, hk q (Nat.lt_of_lt_of_le h1 hS.1) (fun z => h2 (hFc q z))]; exact hS.2.1 q h1 h2, fun q hq => by
      rcases List.mem_append.mp hq with h | h
      · exact hS.2.2 q h
      · exact hFc _ (hL q h)⟩ (by rw [e1]; have := hS.1; omega) hl T' rfl X'
  exact ⟨t2, go t2 a1, b1⟩
end HI
theorem raI (U : State) (cA : ClassId) (h : va_RA U cA .int) : U.vm.findClass ("[" ++ FieldType.int.toString) = some cA := h
theorem raZ (U : State) (cA : ClassId) (h : va_RA U cA .boolean) : U.vm.findClass ("[" ++ FieldType.boolean.toString) = some cA := h
def adx (h0 : Nat) (qs : Nat → Nat) : Nat → Nat := fun k => match k with
  | 0 => h0
  | k + 1 => qs k
abbrev rmX2_init : Room := { frames := 1, cells := 4, slots := 360, locals := 12 }
theorem uX2_init_X2 : ∀ w ∈ u_ws RX2 TX2 6, w ∈ wsX2_init := fun w h => List.mem_cons_of_mem _ (List.mem_append_right _ h)
set_option maxRecDepth 100000 in
set_option maxHeartbeats 4000000 in
theorem c_X2_init (l : Launch) (D : va_G) (cT : Nat → ClassId) (h0 : Nat) : iM l yX2_init wsX2_init rmX2_init D (ty2 cT) [.ref h0] [(h0, .inr (0, [.null, .null, .null, .null, .int 0, .int 0]))] (fun qs => [(h0, .inr (0, [.ref (qs 0), .ref (qs 1), .ref (qs 2), .ref (qs 3), .int 0, .int 0])), (qs 0, .inl (cT 0, 100, .inl j0)), (qs 1, .inl (cT 0, 100, .inl j0)), (qs 2, .inl (cT 1, 100, .inl j0)), (qs 3, .inl (cT 0, 60, .inl j0))]) := by
  refine iM_of (cc := cX2_init) (maxL := 1) (ret := none) (own := RX2) (lv := [(0, .ref h0)]) (by decide) rfl (Nat.le_of_ble_eq_true rfl) rfl rfl rfl ?_
  intro p e s m args below meth c A C hr hin hN
  refine h_aload_n (pc := 0) C dX2_init_0 rfl 0 rfl ?_
  refine h_obj (pc := 1) C (List.mem_of_getElem? (i := 1) rfl) (List.mem_of_getElem? (i := 2) rfl) (List.mem_of_getElem? (i := 3) rfl) ⟨Nat.le_of_ble_eq_true rfl, Nat.le_of_ble_eq_true rfl⟩ dX2_init_1 ?_
  refine h_aload_n (pc := 4) C dX2_init_4 rfl 0 rfl ?_
  refine h_bipush (pc := 5) (v := 100) C dX2_init_5 (by decide) ?_
  refine h_newa (pc := 7) (ty := .int) (cA := cT 0) (N' := 100) (a0 := (100, .inl j0)) C rfl (List.mem_of_getElem? (i := 4) rfl) raI 0 rfl (fun _ => rfl) (by decide) (by decide) (by decide) ⟨Nat.le_of_ble_eq_true rfl, Nat.le_of_ble_eq_true rfl⟩ dX2_init_7 (fun q1 => ?_)
  refine h_putF (pc := 9) (C0 := RX2) (T := TX2) (N := 6) (ci := 0) (ty := (.array .int)) (ws' := [(h0, .inr (0, [.ref q1, .null, .null, .null, .int 0, .int 0])), (q1, .inl (cT 0, 100, .inl j0))]) C uX2_init_X2 tyX2 tyX2_ok nmX2 rfl hin 0 rfl 0 (by decide) (List.mem_of_getElem? (i := 5) rfl) rfl rfl rfl rfl rfl rfl (Nat.le_of_ble_eq_true rfl) rfl dX2_init_9 ?_
  refine h_aload_n (pc := 12) C dX2_init_12 rfl 0 rfl ?_
  refine h_bipush (pc := 13) (v := 100) C dX2_init_13 (by decide) ?_
  refine h_newa (pc := 15) (ty := .int) (cA := cT 0) (N' := 100) (a0 := (100, .inl j0)) C rfl (List.mem_of_getElem? (i := 4) rfl) raI 0 rfl (fun _ => rfl) (by decide) (by decide) (by decide) ⟨Nat.le_of_ble_eq_true rfl, Nat.le_of_ble_eq_true rfl⟩ dX2_init_15 (fun q2 => ?_)
  refine h_putF (pc := 17) (C0 := RX2) (T := TX2) (N := 6) (ci := 0) (ty := (.array .int)) (ws' := [(h0, .inr (0, [.ref q1, .ref q2, .null, .null, .int 0, .int 0])), (q1, .inl (cT 0, 100, .inl j0)), (q2, .inl (cT 0, 100, .inl j0))]) C uX2_init_X2 tyX2 tyX2_ok nmX2 rfl hin 0 rfl 1 (by decide) (List.mem_of_getElem? (i := 6) rfl) rfl rfl rfl rfl rfl rfl (Nat.le_of_ble_eq_true rfl) rfl dX2_init_17 ?_
  refine h_aload_n (pc := 20) C dX2_init_20 rfl 0 rfl ?_
  refine h_bipush (pc := 21) (v := 100) C dX2_init_21 (by decide) ?_
  refine h_newa (pc := 23) (ty := .boolean) (cA := cT 1) (N' := 100) (a0 := (100, .inl j0)) C rfl (List.mem_of_getElem? (i := 7) rfl) raZ 1 rfl (fun _ => rfl) (by decide) (by decide) (by decide) ⟨Nat.le_of_ble_eq_true rfl, Nat.le_of_ble_eq_true rfl⟩ dX2_init_23 (fun q3 => ?_)
  refine h_putF (pc := 25) (C0 := RX2) (T := TX2) (N := 6) (ci := 0) (ty := (.array .boolean)) (ws' := [(h0, .inr (0, [.ref q1, .ref q2, .ref q3, .null, .int 0, .int 0])), (q1, .inl (cT 0, 100, .inl j0)), (q2, .inl (cT 0, 100, .inl j0)), (q3, .inl (cT 1, 100, .inl j0))]) C uX2_init_X2 tyX2 tyX2_ok nmX2 rfl hin 0 rfl 2 (by decide) (List.mem_of_getElem? (i := 8) rfl) rfl rfl rfl rfl rfl rfl (Nat.le_of_ble_eq_true rfl) rfl dX2_init_25 ?_
  refine h_aload_n (pc := 28) C dX2_init_28 rfl 0 rfl ?_
  refine h_bipush (pc := 29) (v := 60) C dX2_init_29 (by decide) ?_
  refine h_newa (pc := 31) (ty := .int) (cA := cT 0) (N' := 60) (a0 := (60, .inl j0)) C rfl (List.mem_of_getElem? (i := 4) rfl) raI 0 rfl (fun _ => rfl) (by decide) (by decide) (by decide) ⟨Nat.le_of_ble_eq_true rfl, Nat.le_of_ble_eq_true rfl⟩ dX2_init_31 (fun q4 => ?_)
  refine h_putF (pc := 33) (C0 := RX2) (T := TX2) (N := 6) (ci := 0) (ty := (.array .int)) (ws' := [(h0, .inr (0, [.ref q1, .ref q2, .ref q3, .ref q4, .int 0, .int 0])), (q1, .inl (cT 0, 100, .inl j0)), (q2, .inl (cT 0, 100, .inl j0)), (q3, .inl (cT 1, 100, .inl j0)), (q4, .inl (cT 0, 60, .inl j0))]) C uX2_init_X2 tyX2 tyX2_ok nmX2 rfl hin 0 rfl 3 (by decide) (List.mem_of_getElem? (i := 9) rfl) rfl rfl rfl rfl rfl rfl (Nat.le_of_ble_eq_true rfl) rfl dX2_init_33 ?_
  exact h_vretI (pc := 36) C (fun k => [q1, q2, q3, q4].getD k 0) [0, 1, 2, 3, 4] rfl rfl hr dX2_init_36
abbrev rmX3_init : Room := { frames := 1, cells := 2, slots := 488, locals := 12 }
theorem uX3_init_X3 : ∀ w ∈ u_ws RX3 TX3 3, w ∈ wsX3_init := fun w h => List.mem_cons_of_mem _ (List.mem_append_right _ h)
set_option maxRecDepth 100000 in
set_option maxHeartbeats 4000000 in
theorem c_X3_init (l : Launch) (D : va_G) (cT : Nat → ClassId) (h0 : Nat) : iM l yX3_init wsX3_init rmX3_init D (ty2 cT) [.ref h0] [(h0, .inr (1, [.null, .null, .int 0]))] (fun qs => [(h0, .inr (1, [.ref (qs 0), .ref (qs 1), .int 0])), (qs 0, .inl (cT 0, 480, .inl j0)), (qs 1, .inl (cT 0, 8, .inl j0))]) := by
  refine iM_of (cc := cX3_init) (maxL := 1) (ret := none) (own := RX3) (lv := [(0, .ref h0)]) (by decide) rfl (Nat.le_of_ble_eq_true rfl) rfl rfl rfl ?_
  intro p e s m args below meth c A C hr hin hN
  refine h_aload_n (pc := 0) C dX3_init_0 rfl 0 rfl ?_
  refine h_obj (pc := 1) C (List.mem_of_getElem? (i := 1) rfl) (List.mem_of_getElem? (i := 2) rfl) (List.mem_of_getElem? (i := 3) rfl) ⟨Nat.le_of_ble_eq_true rfl, Nat.le_of_ble_eq_true rfl⟩ dX3_init_1 ?_
  refine h_aload_n (pc := 4) C dX3_init_4 rfl 0 rfl ?_
  refine h_sipush (pc := 5) (v := 480) C dX3_init_5 (by decide) ?_
  refine h_newa (pc := 8) (ty := .int) (cA := cT 0) (N' := 480) (a0 := (480, .inl j0)) C rfl (List.mem_of_getElem? (i := 4) rfl) raI 0 rfl (fun _ => rfl) (by decide) (by decide) (by decide) ⟨Nat.le_of_ble_eq_true rfl, Nat.le_of_ble_eq_true rfl⟩ dX3_init_8 (fun q1 => ?_)
  refine h_putF (pc := 10) (C0 := RX3) (T := TX3) (N := 3) (ci := 1) (ty := (.array .int)) (ws' := [(h0, .inr (1, [.ref q1, .null, .int 0])), (q1, .inl (cT 0, 480, .inl j0))]) C uX3_init_X3 tyX3 tyX3_ok nmX3 rfl hin 0 rfl 0 (by decide) (List.mem_of_getElem? (i := 5) rfl) rfl rfl rfl rfl rfl rfl (Nat.le_of_ble_eq_true rfl) rfl dX3_init_10 ?_
  refine h_aload_n (pc := 13) C dX3_init_13 rfl 0 rfl ?_
  refine h_bipush (pc := 14) (v := 8) C dX3_init_14 (by decide) ?_
  refine h_newa (pc := 16) (ty := .int) (cA := cT 0) (N' := 8) (a0 := (8, .inl j0)) C rfl (List.mem_of_getElem? (i := 4) rfl) raI 0 rfl (fun _ => rfl) (by decide) (by decide) (by decide) ⟨Nat.le_of_ble_eq_true rfl, Nat.le_of_ble_eq_true rfl⟩ dX3_init_16 (fun q2 => ?_)
  refine h_putF (pc := 18) (C0 := RX3) (T := TX3) (N := 3) (ci := 1) (ty := (.array .int)) (ws' := [(h0, .inr (1, [.ref q1, .ref q2, .int 0])), (q1, .inl (cT 0, 480, .inl j0)), (q2, .inl (cT 0, 8, .inl j0))]) C uX3_init_X3 tyX3 tyX3_ok nmX3 rfl hin 0 rfl 1 (by decide) (List.mem_of_getElem? (i := 6) rfl) rfl rfl rfl rfl rfl rfl (Nat.le_of_ble_eq_true rfl) rfl dX3_init_18 ?_
  exact h_vretI (pc := 21) C (fun k => [q1, q2].getD k 0) [0, 1, 2] rfl rfl hr dX3_init_21
abbrev rmX4_init : Room := { frames := 2, cells := 9, slots := 917, locals := 32 }
theorem uX4_init_X4 : ∀ w ∈ u_ws RX4 TX4 3, w ∈ wsX4_init := fun w h => List.mem_cons_of_mem _ (List.mem_append_left _ (List.mem_append_left _ (List.mem_append_right _ h)))
theorem uX4_init_X2 : ∀ w ∈ u_ws RX2 TX2 6, w ∈ wsX4_init := fun w h => List.mem_cons_of_mem _ (List.mem_append_left _ (List.mem_append_right _ h))
theorem uX4_init_X3 : ∀ w ∈ u_ws RX3 TX3 3, w ∈ wsX4_init := fun w h => List.mem_cons_of_mem _ (List.mem_append_right _ h)
set_option maxRecDepth 100000 in
set_option maxHeartbeats 4000000 in
theorem c_X4_init (l : Launch) (D : va_G) (cT : Nat → ClassId) (h0 : Nat) : iM l yX4_init wsX4_init rmX4_init D (ty2 cT) [.ref h0] [(h0, .inr (2, [.null, .null, .null]))] (fun qs => wX cT (adx h0 qs)) := by
  refine iM_of (cc := cX4_init) (maxL := 1) (ret := none) (own := RX4) (lv := [(0, .ref h0)]) (by decide) rfl (Nat.le_of_ble_eq_true rfl) rfl rfl rfl ?_
  intro p e s m args below meth c A C hr hin hN
  refine h_aload_n (pc := 0) C dX4_init_0 rfl 0 rfl ?_
  refine h_obj (pc := 1) C (List.mem_of_getElem? (i := 1) rfl) (List.mem_of_getElem? (i := 2) rfl) (List.mem_of_getElem? (i := 3) rfl) ⟨Nat.le_of_ble_eq_true rfl, Nat.le_of_ble_eq_true rfl⟩ dX4_init_1 ?_
  refine h_aload_n (pc := 4) C dX4_init_4 rfl 0 rfl ?_
  refine h_bipush (pc := 5) (v := 60) C dX4_init_5 (by decide) ?_
  refine h_newa (pc := 7) (ty := .int) (cA := cT 0) (N' := 60) (a0 := (60, .inl j0)) C rfl (List.mem_of_getElem? (i := 4) rfl) raI 0 rfl (fun _ => rfl) (by decide) (by decide) (by decide) ⟨Nat.le_of_ble_eq_true rfl, Nat.le_of_ble_eq_true rfl⟩ dX4_init_7 (fun q1 => ?_)
  refine h_putF (pc := 9) (C0 := RX4) (T := TX4) (N := 3) (ci := 2) (ty := (.array .int)) (ws' := [(h0, .inr (2, [.null, .null, .ref q1])), (q1, .inl (cT 0, 60, .inl j0))]) C uX4_init_X4 tyX4 tyX4_ok nmX4 rfl hin 0 rfl 2 (by decide) (List.mem_of_getElem? (i := 5) rfl) rfl rfl rfl rfl rfl rfl (Nat.le_of_ble_eq_true rfl) rfl dX4_init_9 ?_
  refine h_aload_n (pc := 12) C dX4_init_12 rfl 0 rfl ?_
  refine h_new (pc := 13) (C0 := RX2) (T := TX2) (N := 6) (ci := 0) (fs := [.null, .null, .null, .null, .int 0, .int 0]) C uX4_init_X2 tyX2 tyX2_ok (List.mem_of_getElem? (i := 6) rfl) (List.mem_of_getElem? (i := 7) rfl) (List.mem_of_getElem? (i := 8) rfl) rfl (fun j hj => by rcases (show j = 0 ∨ j = 1 ∨ j = 2 ∨ j = 3 ∨ j = 4 ∨ j = 5 by omega) with rfl | rfl | rfl | rfl | rfl | rfl <;> rfl) ⟨Nat.le_of_ble_eq_true rfl, Nat.le_of_ble_eq_true rfl⟩ dX4_init_13 (fun q2 => ?_)
  refine h_dup (pc := 16) C dX4_init_16 rfl ?_
  refine h_callIN (pc := 17) (As := []) (rest := [.ref q2, .ref h0]) (ws' := fun sX2 => [(h0, .inr (2, [.null, .null, .ref q1])), (q1, .inl (cT 0, 60, .inl j0)), (q2, .inr (0, [.ref (sX2 0), .ref (sX2 1), .ref (sX2 2), .ref (sX2 3), .int 0, .int 0])), (sX2 0, .inl (cT 0, 100, .inl j0)), (sX2 1, .inl (cT 0, 100, .inl j0)), (sX2 2, .inl (cT 1, 100, .inl j0)), (sX2 3, .inl (cT 0, 60, .inl j0))]) C hN (c_X2_init l D cT q2) ⟨va_cnB 0 C.1.2.2.2.2 gX4_init_X2_init_n15 rfl rfl rfl hN.1 (C.1.2.2.2.2 _ (List.mem_of_getElem? (i := 8) rfl)) (by decide +kernel) ⟨Nat.le_of_ble_eq_true rfl, Nat.le_of_ble_eq_true rfl⟩, rfl, C.1.2.2.2.2 _ (List.mem_of_getElem? (i := 14) rfl)⟩ dX4_init_17 rfl rfl (Nat.le_of_ble_eq_true rfl) ⟨Nat.le_of_ble_eq_true rfl, Nat.le_of_ble_eq_true rfl⟩ [2] [0, 1] [0, 1, 2, 3, 4, 5, 6] rfl rfl rfl rfl (by decide) rfl (fun _ => rfl) (fun sX2 => ?_)
  refine h_putF (pc := 20) (C0 := RX4) (T := TX4) (N := 3) (ci := 2) (ty := (.object "HilbertHutch$Stock")) (ws' := [(h0, .inr (2, [.ref q2, .null, .ref q1])), (q1, .inl (cT 0, 60, .inl j0)), (q2, .inr (0, [.ref (sX2 0), .ref (sX2 1), .ref (sX2 2), .ref (sX2 3), .int 0, .int 0])), (sX2 0, .inl (cT 0, 100, .inl j0)), (sX2 1, .inl (cT 0, 100, .inl j0)), (sX2 2, .inl (cT 1, 100, .inl j0)), (sX2 3, .inl (cT 0, 60, .inl j0))]) C uX4_init_X4 tyX4 tyX4_ok nmX4 rfl hin 0 rfl 0 (by decide) (List.mem_of_getElem? (i := 9) rfl) rfl rfl rfl rfl rfl rfl (Nat.le_of_ble_eq_true rfl) rfl dX4_init_20 ?_
  refine h_aload_n (pc := 23) C dX4_init_23 rfl 0 rfl ?_
  refine h_new (pc := 24) (C0 := RX3) (T := TX3) (N := 3) (ci := 1) (fs := [.null, .null, .int 0]) C uX4_init_X3 tyX3 tyX3_ok (List.mem_of_getElem? (i := 10) rfl) (List.mem_of_getElem? (i := 11) rfl) (List.mem_of_getElem? (i := 12) rfl) rfl (fun j hj => by rcases (show j = 0 ∨ j = 1 ∨ j = 2 by omega) with rfl | rfl | rfl <;> rfl) ⟨Nat.le_of_ble_eq_true rfl, Nat.le_of_ble_eq_true rfl⟩ dX4_init_24 (fun q3 => ?_)
  refine h_dup (pc := 27) C dX4_init_27 rfl ?_
  refine h_callIN (pc := 28) (As := []) (rest := [.ref q3, .ref h0]) (ws' := fun sX3 => [(h0, .inr (2, [.ref q2, .null, .ref q1])), (q1, .inl (cT 0, 60, .inl j0)), (q2, .inr (0, [.ref (sX2 0), .ref (sX2 1), .ref (sX2 2), .ref (sX2 3), .int 0, .int 0])), (sX2 0, .inl (cT 0, 100, .inl j0)), (sX2 1, .inl (cT 0, 100, .inl j0)), (sX2 2, .inl (cT 1, 100, .inl j0)), (sX2 3, .inl (cT 0, 60, .inl j0)), (q3, .inr (1, [.ref (sX3 0), .ref (sX3 1), .int 0])), (sX3 0, .inl (cT 0, 480, .inl j0)), (sX3 1, .inl (cT 0, 8, .inl j0))]) C hN (c_X3_init l D cT q3) ⟨va_cnB 0 C.1.2.2.2.2 gX4_init_X3_init_n22 rfl rfl rfl hN.2 (C.1.2.2.2.2 _ (List.mem_of_getElem? (i := 12) rfl)) (by decide +kernel) ⟨Nat.le_of_ble_eq_true rfl, Nat.le_of_ble_eq_true rfl⟩, rfl, C.1.2.2.2.2 _ (List.mem_of_getElem? (i := 22) rfl)⟩ dX4_init_28 rfl rfl (Nat.le_of_ble_eq_true rfl) ⟨Nat.le_of_ble_eq_true rfl, Nat.le_of_ble_eq_true rfl⟩ [7] [0, 1, 2, 3, 4, 5, 6] [0, 1, 2, 3, 4, 5, 6, 7, 8, 9] rfl rfl rfl rfl (by decide) rfl (fun _ => rfl) (fun sX3 => ?_)
  refine h_putF (pc := 31) (C0 := RX4) (T := TX4) (N := 3) (ci := 2) (ty := (.object "HilbertHutch$Tree")) (ws' := [(h0, .inr (2, [.ref q2, .ref q3, .ref q1])), (q1, .inl (cT 0, 60, .inl j0)), (q2, .inr (0, [.ref (sX2 0), .ref (sX2 1), .ref (sX2 2), .ref (sX2 3), .int 0, .int 0])), (sX2 0, .inl (cT 0, 100, .inl j0)), (sX2 1, .inl (cT 0, 100, .inl j0)), (sX2 2, .inl (cT 1, 100, .inl j0)), (sX2 3, .inl (cT 0, 60, .inl j0)), (q3, .inr (1, [.ref (sX3 0), .ref (sX3 1), .int 0])), (sX3 0, .inl (cT 0, 480, .inl j0)), (sX3 1, .inl (cT 0, 8, .inl j0))]) C uX4_init_X4 tyX4 tyX4_ok nmX4 rfl hin 0 rfl 1 (by decide) (List.mem_of_getElem? (i := 13) rfl) rfl rfl rfl rfl rfl rfl (Nat.le_of_ble_eq_true rfl) rfl dX4_init_31 ?_
  exact h_vretI (pc := 34) C (fun k => [q2, sX2 0, sX2 1, sX2 2, sX2 3, q3, sX3 0, sX3 1, q1].getD k 0) [0, 2, 3, 4, 5, 6, 7, 8, 9, 1] rfl rfl hr dX4_init_34

