/-! ===== my kit, second half: methods that throw, and those that catch; floats, longs ===== -/
section HX
variable {p : Program} {l : Launch} {e : Env} {R : Room} {s : State} {m : MethodId} {args : Array Value} {below : List Frame} {meth : Method} {c : Code} {cells slots : Nat} {Q : State → Prop}
variable {cc : ByteArray} {nL : Nat} {Ts : List Cond} {own : String} {D : va_G} {tys : List (ClassId × FieldType)} {A : Nat → Prop} {pc : Nat} {lv : List (Nat × Value)} {st : List Value} {ws : va_W}
def xIAE : String := "java/lang/IllegalArgumentException"
def xISE : String := "java/lang/IllegalStateException"
def xIOE : String := "java/lang/IndexOutOfBoundsException"
def xE : Nat → String := fun k => match k with
  | 1 => xIAE
  | 2 => xISE
  | _ => xIOE
def xUp : List String := ["java/lang/RuntimeException", "java/lang/Exception"]
def xDc : List MethodName := [Bundle.initS "java/lang/RuntimeException", Bundle.initS "java/lang/Exception", Bundle.initS Bundle.tN]
def xCs : List String := [xIAE, xISE, xIOE]
def xStr : List (Nat × String) := [(37, "no further box can be added"), (109, "no such level"), (124, "no such place"), (132, "there are no boxes"), (162, "a coordinate is out of range"), (165, "a side is out of range"), (167, "no such side"), (172, "no such box"), (177, "no such level or node")]
/-- what a throw needs of the tables besides a method's own words -/
def xW (U : State) : Prop := (∀ y ∈ xDc, va_Nw (.declares y) U) ∧ (∀ E ∈ xCs, va_Nw (.castable E E) U) ∧ (va_Nc xISE xIAE U ∧ va_Nc xIOE xIAE U) ∧ ∀ q ∈ xStr, ∃ sa, vk_R RX4 q.1 q.2 sa U
theorem xW.warm {s U : State} (hW : s.WarmedH U.vm) (h : xW s) : xW U :=
  ⟨fun y hy => va_Nw.warmD hW (h.1 y hy), fun E hE => va_Nw.warmC hW (h.2.1 E hE), ⟨va_Nc.moved hW.alike h.2.2.1.1, va_Nc.moved hW.alike h.2.2.1.2⟩, fun q hq => by
    obtain ⟨sa, hs⟩ := h.2.2.2 q hq
    exact ⟨sa, vk_R.warm hW hs⟩⟩
theorem xW.same {u U : State} (hv : u.vm = U.vm) (h : xW u) : xW U :=
  ⟨fun y hy => va_Nw.same rfl hv (h.1 y hy), fun E hE => va_Nw.same rfl hv (h.2.1 E hE), ⟨va_Nc.moved (by rw [hv]; exact Vm.Alike.refl _) h.2.2.1.1, va_Nc.moved (by rw [hv]; exact Vm.Alike.refl _) h.2.2.1.2⟩, fun q hq => by
    obtain ⟨sa, hs⟩ := h.2.2.2 q hq
    exact ⟨sa, vk_R.same hv.symm hs⟩⟩
def xZ (A : Nat → Prop) (U : State) (H : Heap) : Prop := vx_Zq Bundle.tN "UNASSIGNED_STACK" Bundle.steD A U H ∧ vx_Zq Bundle.tN "SUPPRESSED_SENTINEL" Bundle.listD A U H ∧ xW U
theorem xZ.warm {s U : State} {H : Heap} (hW : s.WarmedH U.vm) (h : xZ A s H) : xZ A U H := ⟨vx_Zq.moved hW.alike h.1, vx_Zq.moved hW.alike h.2.1, h.2.2.warm hW⟩
theorem xZ.kept {U : State} {H H1 : Heap} (h : xZ A U H) (hq : ∀ a : Nat, a < H.size → ¬ A a → H1[a]? = H[a]?) : xZ A U H1 := ⟨h.1.kept hq, h.2.1.kept hq, h.2.2⟩
theorem xZ.narrow {B : Nat → Prop} {U : State} {H : Heap} (h : xZ A U H) (hAB : ∀ q, B q → A q) : xZ B U H := ⟨h.1.narrow hAB, h.2.1.narrow hAB, h.2.2⟩
def xP (D : va_G) (tys : List (ClassId × FieldType)) (av : List Value) (w : va_W) (sz : Nat) : Array Value → State → Prop := va_Pc av (fun U => U.heap.size = sz ∧ va_P D vwCl w U.heap ∧ va_K D vwCl tys U ∧ va_D (fun _ => True) w ∧ xZ (va_A w sz) U U.heap)
def xX (D : va_G) (tys : List (ClassId × FieldType)) (A : Nat → Prop) (E : String) (w' : va_W) : String → State → State → Prop := fun E' st t => E' = E ∧ va_P D vwCl w' t.heap ∧ va_K D vwCl tys t ∧ va_D A w' ∧ va_F A st t
/-- a contract of a call that throws E -/
def xM (l : Launch) (y : MethodName) (wsy : List Cond) (rm : Room) (D : va_G) (tys : List (ClassId × FieldType)) (av : List Value) (w : va_W) (E : String) (w' : va_W) : Prop :=
  ∀ sz : Nat, vx_Met l y wsy rm (xP D tys av w sz) (fun _ _ _ _ => False) (xX D tys (va_A w sz) E w') rm.cells rm.slots (va_A w sz)
theorem xP_blind {av : List Value} {w : va_W} {sz : Nat} : FrameBlind (xP D tys av w sz) := fun a U g mk q => by
  obtain ⟨q0, q1, qP, qK, qD, z1, z2, z3⟩ := q
  exact ⟨q0, q1, qP, va_K.moved (u := U) (U := U.calling g mk a) (Vm.Alike.refl U.vm) qK, qD, vx_Zq.moved (u := U) (U := U.calling g mk a) (Vm.Alike.refl U.vm) z1, vx_Zq.moved (u := U) (U := U.calling g mk a) (Vm.Alike.refl U.vm) z2, xW.same (u := U) (U := U.calling g mk a) rfl z3⟩
/-- a method's fixed things, where it may throw -/
def hX (l : Launch) (s : State) (c : Code) (A : Nat → Prop) : Prop := xZ A s s.heap ∧ l.stackTraces = false ∧ ∀ x ∈ c.exceptionTable.toList, False
theorem xM_of {y : MethodName} {wsy ws' : List Cond} {rm : Room} {av : List Value} {w w' : va_W} {E : String} {maxL : Nat} {ret : Option FieldType} {own : String} {lv : List (Nat × Value)} (hl : l.stackTraces = false) (hy : plainName y.cls = true) (hw : wsy = Cond.code y cc maxL ret :: ws') (hlen : (lg_sl av).length ≤ maxL) (ho : y.cls = own) (hlv : lv_args 0 av = lv)
    (body : ∀ (p : Program) (e : Env) (s : State) (m : MethodId) (args : Array Value) (below : List Frame) (meth : Method) (c : Code) (A : Nat → Prop), hC p s m args meth c cc maxL wsy own D tys A → hX l s c A →
      hS p l e rm s m args below meth c maxL D A 0 0 (vx_MQ below (fun _ _ _ _ => False) (xX D tys A E w') args s rm.cells rm.slots A) 0 lv [] w) : xM l y wsy rm D tys av w E w' := by
  subst hlv
  subst ho
  intro sz
  refine vx_ofW (cc := cc) (maxL := maxL) (ret := ret) hy hw ?_
  intro p e s m args below meth c s₁ B hml ht hv
  obtain ⟨rfl, hsz, hP, hK, hD0, hZ⟩ := hv
  subst hsz
  have hts := atoms_spec (ws := wsy) B.pre
  have hown : s.vm.findClass y.cls = some m.cls := findClass_of_methodNamed B.named
  have hD := hD0.self (sz := s.heap.size)
  have hA : ∀ q : Nat, s.heap.size ≤ q → va_A w s.heap.size q := fun q h => Or.inr h
  have hb := body p e s m av.toArray below meth c (va_A w s.heap.size) ⟨⟨B.exec, B.bytes, hml, hown, hts⟩, hK, B.notSynchronized, hA⟩ ⟨hZ, hl, ht⟩
  rw [lg_entry_eq]
  exact hb s.heap [] _ hP hD va_S.rf (lv_entry av hlen)
theorem xng_words {ic : Nat} {cls : String} (hc : cls ∈ xCs) (hg : ∀ w ∈ vx_atS RX4 ic cls xUp, goodWord w = true ∨ w ∈ xDc.map Cond.declares ∨ w = .castable cls cls) (h1 : ∀ w ∈ (vx_atS RX4 ic cls xUp).filter goodWord, w.before args s = true) (hW : xW s) : ∀ w ∈ vx_atS RX4 ic cls xUp, w.before args s = true := by
  intro w hw
  rcases hg w hw with h | h | h
  · exact h1 w (List.mem_filter.mpr ⟨hw, h⟩)
  · obtain ⟨y, hy, rfl⟩ := List.mem_map.mp h
    exact va_Nw.use rfl (hW.1 y hy)
  · subst h
    exact va_Nw.use rfl (hW.2.1 cls hc)
/-- 'throw new E(text)' leaves the method -/
theorem h_throw (C : hC p s m args meth c cc nL Ts RX4 D tys A) (X : hX l s c A) {cls text : String} {ik is ic : Nat} (hcs : cls ∈ xCs) (hcls : Bundle.fit cls = true) (hnames : ∀ n ∈ xUp, Bundle.fit n = true) (hk : Cond.classLink RX4 ik cls ∈ Ts) (hini : Cond.initialized cls ∈ Ts) (hstr : (is, text) ∈ xStr)
    (hat : ∀ w ∈ (vx_atS RX4 ic cls xUp).filter goodWord, w ∈ Ts) (hg : ∀ w ∈ vx_atS RX4 ic cls xUp, goodWord w = true ∨ w ∈ xDc.map Cond.declares ∨ w = .castable cls cls) (hgood : ∀ w ∈ Cond.classLink RX4 ik cls :: Cond.initialized cls :: vx_atS RX4 ic cls xUp, vx_ot w = true)
    (d0 : decode cc pc = .ok (.new ik, 3)) (d3 : decode cc (pc + 3) = .ok (.dup, 1)) (d4 : decode cc (pc + 4) = .ok (.ldc is, 2)) (d6 : decode cc (pc + 6) = .ok (.invokespecial ic, 3)) (d9 : decode cc (pc + 9) = .ok (.athrow, 1))
    (hR : 5 < R.frames ∧ (st.map fun v => v.category).sum + 82 ≤ R.locals ∧ cells + 1 ≤ R.cells ∧ slots + 6 ≤ R.slots) {mc ms : Nat} (hm : cells + 1 ≤ mc ∧ slots + 6 ≤ ms) :
    hS p l e R s m args below meth c nL D A cells slots (vx_MQ below (fun _ _ _ _ => False) (xX D tys A cls ws) args s mc ms A) pc lv st ws := by
  intro H locs ls hP hD hS hl
  obtain ⟨⟨zU, zN, zW⟩, hl9, ht⟩ := X
  obtain ⟨sa, hsa⟩ := zW.2.2.2 _ hstr
  have hts := C.1.2.2.2.2
  refine vx_throwS (names := xUp) (sa := sa) C.1.1 C.1.2.1 hl9 C.1.2.2.2.1 hcls hnames (hts _ hk) (hts _ hini) hsa (xng_words hcs hg (fun w h => hts w (hat w h)) zW) hgood zU zN hS (hl.1.trans C.1.2.2.1.symm) d0 d3 d4 d6 d9 (fun x hx => (ht x hx).elim) hR.1 hR.2.1 hR.2.2.1 hR.2.2.2 C.2.2.1 ?_ hS.2.2 hm.1 hm.2
  intro t hvm hz hk
  exact ⟨rfl, hP.kept (fun k q h => hk q.1 ((hP k q h).lt)), va_K.moved hvm C.2.1, hD, ⟨Nat.le_trans hS.1 hz, fun q h1 h2 => (hk q (Nat.lt_of_lt_of_le h1 hS.1)).trans (hS.2.1 q h1 h2)⟩⟩
theorem h_psub {is : List Nat} {w w' : va_W} {H : Heap} (h : is.map (fun i => w[i]?) = w'.map some) (hp : va_P D vwCl w H) : va_P D vwCl w' H := by
  intro k q hk
  have h1 : (is.map (fun i => w[i]?))[k]? = some (some q) := by rw [h, List.getElem?_map, hk]; rfl
  rw [List.getElem?_map] at h1
  cases hi : is[k]? with
  | none => rw [hi] at h1; cases h1
  | some i => rw [hi] at h1; exact hp i q (Option.some.inj h1)
/-- behind a call that throws: what goes on with the exception at q -/
theorem h_runX {st rest : List Value} {wc wc' ws' : va_W} {E : String} {mc ms : Nat} (hA : ∀ q, s.heap.size ≤ q → A q) (hZ : xZ A s s.heap)
    (hr : ∀ (H : Heap) (locs : List Loc) (ls : Array Slot), va_P D vwCl wc H → va_P D vwCl ws H → va_D (fun _ => True) wc → xZ (va_A wc H.size) s H → lv_has ls nL lv → vx_Run p l e R s m args below meth c H locs cells slots mc ms (F0 m pc ls st) rest (fun _ _ _ => False) (xX D tys (va_A wc H.size) E wc') (va_A wc H.size))
    (isC isR is : List Nat) (hCs : isC.map (fun i => ws[i]?) = wc.map some) (hRs : isR.map (fun i => ws[i]?) = (isR.filterMap (fun i => ws[i]?)).map some) (hndC : va_nd isC = true) (hnd : va_nd isR = true) (hdis : ∀ i ∈ isR, i ∉ isC) (hin : va_nd is = true) (his : is.map (fun i => (isR.filterMap (fun i => ws[i]?) ++ wc')[i]?) = ws'.map some)
    (kk : ∀ (H : Heap) (locs : List Loc) (ls : Array Slot) (q : Addr) (ce : Cell), va_P D vwCl ws' H → va_D A ws' → va_S A s.heap H locs → lv_has ls nL lv → H[q]? = some ce → ce.vm = .none → s.vm.findClass E = some ce.cls → vx_W p l e R s m args below meth c H locs (cells + mc) (slots + ms) Q (F0 m pc ls rest) q) : hS p l e R s m args below meth c nL D A cells slots Q pc lv st ws := by
  intro H locs ls hP hD hS hl
  have hDc : va_D A wc := hD.sub isC hndC hCs
  have hFc := va_free (wc := wc) hD hS hA isC hCs
  have hZ1 : xZ (va_A wc H.size) s H := (hZ.kept (fun a h1 h2 => hS.2.1 a h1 h2)).narrow hFc
  intro T hT X
  rcases hr H locs ls (h_psub hCs hP) hP (hDc.weaken (fun _ _ _ _ => trivial)) hZ1 hl T hT X with ⟨v, st₀, t, T', L, h0, X', hL, e1, e2, hf, go⟩ | ⟨q, st₀, t, T', L, E', ce, h0, X', hL, e1, e2, ⟨rfl, hP1, hK1, hD1, hz, hk⟩, hce, hcv, hcl, go⟩
  · exact hf.elim
  · rw [h0] at hz hk
    obtain ⟨hP2, hD2⟩ := va_join (H1 := T'.heap) (wr := isR.filterMap (fun i => ws[i]?)) (w1 := wc') hP hD isC isR hCs hRs hnd hdis (fun q h1 h2 => by rw [e1]; exact hk q h1 h2) hFc (by rw [e1]; exact hP1) hD1
    obtain ⟨t2, a1, b1⟩ := kk T'.heap (locs ++ L) ls q ce (h_psub his hP2) (hD2.sub is hin his) ⟨Nat.le_trans hS.1 (by rw [e1]; exact hz), fun q h1 h2 => by rw [e1, hk q (Nat.lt_of_lt_of_le h1 hS.1) (fun z => h2 (hFc q z))]; exact hS.2.1 q h1 h2, fun q hq => by
        rcases List.mem_append.mp hq with h | h
        · exact hS.2.2 q h
        · exact hFc _ (hL q h)⟩ hl (by rw [e1]; exact hce) hcv hcl T' rfl X'
    exact ⟨t2, go.trans a1, b1⟩
/-- .. it leaves this method too -/
theorem h_outK (C : hC p s m args meth c cc nL Ts own D tys A) (X : hX l s c A) {ws' : va_W} {E : String} {rest : List Value} {mc ms mc1 ms1 : Nat} (hm : cells + mc1 ≤ mc ∧ slots + ms1 ≤ ms) : ∀ (H : Heap) (locs : List Loc) (ls : Array Slot) (q : Addr) (ce : Cell), va_P D vwCl ws' H → va_D A ws' → va_S A s.heap H locs → lv_has ls nL lv → H[q]? = some ce → ce.vm = .none → s.vm.findClass E = some ce.cls → vx_W p l e R s m args below meth c H locs (cells + mc1) (slots + ms1) (vx_MQ below (fun _ _ _ _ => False) (xX D tys A E ws') args s mc ms A) (F0 m pc ls rest) q :=
  fun H locs ls q ce hP hD hS hl hce hcv hcl => vx_out (fun x hx => (X.2.2 x hx).elim) C.2.2.1 hce hcv hcl (fun t ht hvm => ⟨rfl, by rw [ht]; exact hP, va_K.moved hvm C.2.1, hD, hS.F ht⟩) hS.2.2 hm.1 hm.2
theorem h_xV (C : hC p s m args meth c cc nL Ts own D tys A) (hZ : xZ A s s.heap) {y : MethodName} {wsy : List Cond} {rm : Room} {bytes : ByteArray} {maxL n index q0 ci b : Nat} {ret : Option FieldType} {Cn : String} {As rest : List Value} {wc wc' ws' : va_W} {E : String} {fs : List Value} {qc : vw_C}
    (hM : xM l y wsy rm D tys (.ref b :: As) wc E wc') (cw : CallW R s args own Cn index y bytes maxL ret wsy rm rm.cells rm.slots n) (hdg : decode cc pc = .ok (.invokevirtual index, 3))
    (hrec : ws[q0]? = some (b, .inr (ci, fs))) (hci : vwCl[ci]? = some qc) (hqn : qc.1 = Cn) (hn : As.length = n) (hst : st = As.reverse ++ .ref b :: rest) (hcat : (rest.map fun v => v.category).sum ≤ 8) (hf : cells + rm.cells ≤ R.cells ∧ slots + rm.slots ≤ R.slots)
    (isC isR is : List Nat) (hCs : isC.map (fun i => ws[i]?) = wc.map some) (hRs : isR.map (fun i => ws[i]?) = (isR.filterMap (fun i => ws[i]?)).map some) (hndC : va_nd isC = true) (hnd : va_nd isR = true) (hdis : ∀ i ∈ isR, i ∉ isC) (hin : va_nd is = true) (his : is.map (fun i => (isR.filterMap (fun i => ws[i]?) ++ wc')[i]?) = ws'.map some)
    (kk : ∀ (H : Heap) (locs : List Loc) (ls : Array Slot) (q : Addr) (ce : Cell), va_P D vwCl ws' H → va_D A ws' → va_S A s.heap H locs → lv_has ls nL lv → H[q]? = some ce → ce.vm = .none → s.vm.findClass E = some ce.cls → vx_W p l e R s m args below meth c H locs (cells + rm.cells) (slots + rm.slots) Q (F0 m pc ls rest) q) : hS p l e R s m args below meth c nL D A cells slots Q pc lv st ws := by
  subst hst
  exact h_runX C.2.2.2 hZ (fun H locs ls hPc hP hDc hZ1 hl => vx_runV (As := As) (rest := rest) C.1 (hM H.size) cw ⟨xP_blind, by rw [← hqn]; exact va_recv C.2.1 hP hci hrec, fun U hU hW => ⟨rfl, by rw [hU], by rw [hU]; exact hPc, va_K.moved hW.alike C.2.1, hDc, by rw [hU]; exact hZ1.warm hW⟩⟩ rfl hn hl.1 rfl (lv_room hcat) hdg hf) isC isR is hCs hRs hndC hnd hdis hin his kk
theorem h_xS (C : hC p s m args meth c cc nL Ts own D tys A) (hZ : xZ A s s.heap) {y : MethodName} {wsy : List Cond} {rm : Room} {bytes : ByteArray} {maxL n index : Nat} {ret : Option FieldType} {As rest : List Value} {E : String}
    (hM : xM l y wsy rm D tys As [] E []) (cw : CallB R s args own index y bytes maxL ret wsy rm rm.cells rm.slots n ∧ (Cond.static y).before args s = true) (hdg : decode cc pc = .ok (.invokestatic index, 3))
    (hn : As.length = n) (hst : st = As.reverse ++ rest) (hcat : (rest.map fun v => v.category).sum ≤ 8) (hf : cells + rm.cells ≤ R.cells ∧ slots + rm.slots ≤ R.slots)
    (kk : ∀ (H : Heap) (locs : List Loc) (ls : Array Slot) (q : Addr) (ce : Cell), va_P D vwCl ws H → va_D A ws → va_S A s.heap H locs → lv_has ls nL lv → H[q]? = some ce → ce.vm = .none → s.vm.findClass E = some ce.cls → vx_W p l e R s m args below meth c H locs (cells + rm.cells) (slots + rm.slots) Q (F0 m pc ls rest) q) : hS p l e R s m args below meth c nL D A cells slots Q pc lv st ws := by
  subst hst
  intro H locs ls hP hD hS hl T hT X
  have hFc : ∀ q, va_A [] H.size q → A q := va_free (wc := []) hD hS C.2.2.2 [] rfl
  have hZ1 : xZ (va_A [] H.size) s H := (hZ.kept (fun a h1 h2 => hS.2.1 a h1 h2)).narrow hFc
  rcases vx_runS (As := As) (rest := rest) C.1 (hM H.size) cw ⟨xP_blind, fun U hU hW => ⟨rfl, by rw [hU], fun k q h => by simp at h, va_K.moved hW.alike C.2.1, ⟨fun i j p q h => by simp at h, fun k q h => by simp at h⟩, by rw [hU]; exact hZ1.warm hW⟩⟩ rfl hn hl.1 rfl (lv_room hcat) hdg hf T hT X with ⟨v, st₀, t, T', L, h0, X', hL, e1, e2, hf, go⟩ | ⟨q, st₀, t, T', L, E', ce, h0, X', hL, e1, e2, ⟨rfl, hP1, hK1, hD1, hz, hk⟩, hce, hcv, hcl, go⟩
  · exact hf.elim
  · rw [h0] at hz hk
    have hkeep : ∀ q : Nat, q < H.size → T'.heap[q]? = H[q]? := fun q h1 => by
      rw [e1]
      refine hk q h1 (fun z => ?_)
      rcases z with ⟨k9, e9, h9⟩ | h9
      · simp at h9
      · omega
    obtain ⟨t2, a1, b1⟩ := kk T'.heap (locs ++ L) ls q ce (hP.kept (fun k q h => hkeep q.1 ((hP k q h).lt))) hD ⟨Nat.le_trans hS.1 (by rw [e1]; exact hz), fun q h1 h2 => by rw [hkeep q (Nat.lt_of_lt_of_le h1 hS.1)]; exact hS.2.1 q h1 h2, fun q hq => by
        rcases List.mem_append.mp hq with h | h
        · exact hS.2.2 q h
        · exact hFc _ (hL q h)⟩ hl (by rw [e1]; exact hce) hcv hcl T' rfl X'
    exact ⟨t2, go.trans a1, b1⟩
/-- .. it is caught by a row of this method's table, past rows that name other classes -/
theorem h_catchK (C : hC p s m args meth c cc nL Ts own D tys A) (hZ : xZ A s s.heap) {ws' : va_W} {E : String} {rest : List Value} {mc1 ms1 : Nat} (pre : List ExceptionTableEntry) (x : ExceptionTableEntry) (suf : List ExceptionTableEntry) (hsplit : c.exceptionTable.toList = pre ++ x :: suf)
    (hpass : ∀ z ∈ pre, covers z pc = false ∨ (z.catchType ≠ 0 ∧ ∃ nm : String, Cond.classLink own z.catchType nm ∈ Ts ∧ va_Nc E nm s)) (hx : covers x pc = true) (h0 : x.catchType ≠ 0) (hlink : Cond.classLink own x.catchType E ∈ Ts) (hE : E ∈ xCs) {hpc : Nat} (hh : x.handlerPc = hpc)
    (kk : ∀ q : Nat, hS p l e R s m args below meth c nL D A (cells + mc1) (slots + ms1) Q hpc lv [.ref q] ws') : ∀ (H : Heap) (locs : List Loc) (ls : Array Slot) (q : Addr) (ce : Cell), va_P D vwCl ws' H → va_D A ws' → va_S A s.heap H locs → lv_has ls nL lv → H[q]? = some ce → ce.vm = .none → s.vm.findClass E = some ce.cls → vx_W p l e R s m args below meth c H locs (cells + mc1) (slots + ms1) Q (F0 m pc ls rest) q := by
  subst hh
  intro H locs ls q ce hP hD hS hl hce hcv hcl
  refine vx_catch C.1.2.2.2.1 pre x suf hsplit (fun z hz => ?_) hx h0 (C.1.2.2.2.2 _ hlink) (va_Nw.use rfl (hZ.2.2.2.1 E hE)) hce hcv hcl (kk q H locs ls hP hD hS hl)
  rcases hpass z hz with h | ⟨h1, nm, h2, h3⟩
  · exact Or.inl h
  · exact Or.inr ⟨h1, nm, C.1.2.2.2.2 _ h2, h3⟩
/-! methods with a table of their own that return -/
def yP (D : va_G) (tys : List (ClassId × FieldType)) (av : List Value) (w : va_W) (sz : Nat) : Array Value → State → Prop := xP D tys av w sz
def yM (l : Launch) (y : MethodName) (wsy : List Cond) (rm : Room) (D : va_G) (tys : List (ClassId × FieldType)) (av : List Value) (w : va_W) (ro : Option Value) (w' : va_W) : Prop :=
  ∀ sz : Nat, Met l y wsy rm (xP D tys av w sz) (cQ D tys (va_A w sz) ro w') rm.cells rm.slots (va_A w sz)
theorem yM_of {y : MethodName} {wsy ws' : List Cond} {rm : Room} {av : List Value} {w w' : va_W} {ro : Option Value} {maxL : Nat} {ret : Option FieldType} {hh : List (Nat × Nat × Nat × Nat)} {own : String} {lv : List (Nat × Value)} (hy : plainName y.cls = true) (hw : wsy = Cond.codeWith y cc maxL ret hh :: ws') (hlen : (lg_sl av).length ≤ maxL) (ho : y.cls = own) (hlv : lv_args 0 av = lv)
    (body : ∀ (p : Program) (e : Env) (s : State) (m : MethodId) (args : Array Value) (below : List Frame) (meth : Method) (c : Code) (A : Nat → Prop), hC p s m args meth c cc maxL wsy own D tys A → xZ A s s.heap → c.exceptionTable.toList = tableOf hh → meth.sig.returnType = ret →
      hS p l e rm s m args below meth c maxL D A 0 0 (MQ below (cQ D tys A ro w') args s rm.cells rm.slots A) 0 lv [] w) : yM l y wsy rm D tys av w ro w' := by
  subst hlv
  subst ho
  intro sz
  refine va_MetW (cc := cc) (maxL := maxL) (ret := ret) (hh := hh) hy hw ?_
  intro p e s m args below meth c s₁ B hml hv
  obtain ⟨rfl, hsz, hP, hK, hD0, hZ⟩ := hv
  subst hsz
  have hts := atoms_spec (ws := wsy) B.pre
  have hown : s.vm.findClass y.cls = some m.cls := findClass_of_methodNamed B.named
  have hD := hD0.self (sz := s.heap.size)
  have hA : ∀ q : Nat, s.heap.size ≤ q → va_A w s.heap.size q := fun q h => Or.inr h
  have htab := vx_table (x := y) B (hts _ (by rw [hw]; exact List.mem_cons_self))
  have hb := body p e s m av.toArray below meth c (va_A w s.heap.size) ⟨⟨B.exec, B.bytes, hml, hown, hts⟩, hK, B.notSynchronized, hA⟩ hZ htab B.returns
  rw [lg_entry_eq]
  exact hb s.heap [] _ hP hD va_S.rf (lv_entry av hlen)
theorem h_widen {k n : Nat} (h1 : cells ≤ k) (h2 : slots ≤ n) (kk : hS p l e R s m args below meth c nL D A k n Q pc lv st ws) : hS p l e R s m args below meth c nL D A cells slots Q pc lv st ws :=
  fun H locs ls hP hD hS hl => W.widen (k := k) (n := n) h1 h2 (kk H locs ls hP hD hS hl)
theorem h_callSW (C : hC p s m args meth c cc nL Ts own D tys A) (hZ : xZ A s s.heap) {y : MethodName} {wsy : List Cond} {rm : Room} {bytes : ByteArray} {maxL n index : Nat} {ret : Option FieldType} {hh : List (Nat × Nat × Nat × Nat)} {As rest : List Value} {wc wc' ws' : va_W} {ro : Option Value}
    (hM : yM l y wsy rm D tys As wc ro wc') (cw : vx_CSW R s args own index y bytes maxL ret hh wsy rm rm.cells rm.slots n) (hdg : decode cc pc = .ok (.invokestatic index, 3))
    (hn : As.length = n) (hst : st = As.reverse ++ rest) (hcat : (rest.map fun v => v.category).sum ≤ 8) (hf : cells + rm.cells ≤ R.cells ∧ slots + rm.slots ≤ R.slots)
    (isC isR is : List Nat) (hCs : isC.map (fun i => ws[i]?) = wc.map some) (hRs : isR.map (fun i => ws[i]?) = (isR.filterMap (fun i => ws[i]?)).map some) (hndC : va_nd isC = true) (hnd : va_nd isR = true) (hdis : ∀ i ∈ isR, i ∉ isC) (hin : va_nd is = true) (his : is.map (fun i => (isR.filterMap (fun i => ws[i]?) ++ wc')[i]?) = ws'.map some) {st2 : List Value} (hst2 : ro.toList ++ rest = st2)
    (kk : hS p l e R s m args below meth c nL D A (cells + rm.cells) (slots + rm.slots) Q (pc + 3) lv st2 ws') : hS p l e R s m args below meth c nL D A cells slots Q pc lv st ws := by
  subst hst
  subst hst2
  exact h_run C.2.2.2 (fun H locs ls hPc hP hDc hFc hS hl => vx_runSW (As := As) (rest := rest) C.1 (hM H.size) cw ⟨xP_blind, fun U hU hW => ⟨rfl, by rw [hU], by rw [hU]; exact hPc, va_K.moved hW.alike C.2.1, hDc, by rw [hU]; exact ((hZ.kept (fun a h1 h2 => hS.2.1 a h1 h2)).narrow hFc).warm hW⟩⟩ rfl hn hl.1 rfl (lv_room hcat) hdg hf) isC isR is hCs hRs hndC hnd hdis hin his kk
/-! floats, longs, doubles -/
theorem h_i2f (C : hC p s m args meth c cc nL Ts own D tys A) {x : Int32} (hdg : decode cc pc = .ok (.i2f, 1)) (k : hS p l e R s m args below meth c nL D A cells slots Q (pc + 1) lv (.float (FP.i2f x) :: st) ws) : hS p l e R s m args below meth c nL D A cells slots Q pc lv (.int x :: st) ws :=
  fun H locs ls hP hD hS hl => lv_i2f C.1.1 C.1.2.1 hdg (k H locs ls hP hD hS hl)
theorem h_fdiv (C : hC p s m args meth c cc nL Ts own D tys A) {x y : UInt32} (hne : vf_n32 (FP.fdiv x y)) (hdg : decode cc pc = .ok (.fdiv, 1)) (k : hS p l e R s m args below meth c nL D A cells slots Q (pc + 1) lv (.float (FP.fdiv x y) :: st) ws) : hS p l e R s m args below meth c nL D A cells slots Q pc lv (.float y :: .float x :: st) ws :=
  fun H locs ls hP hD hS hl => lv_fdiv C.1.1 C.1.2.1 hdg hne (k H locs ls hP hD hS hl)
theorem h_f2d (C : hC p s m args meth c cc nL Ts own D tys A) {x : UInt32} (hne : vf_n64 (FP.f2d x)) (hdg : decode cc pc = .ok (.f2d, 1)) (k : hS p l e R s m args below meth c nL D A cells slots Q (pc + 1) lv (.double (FP.f2d x) :: st) ws) : hS p l e R s m args below meth c nL D A cells slots Q pc lv (.float x :: st) ws :=
  fun H locs ls hP hD hS hl => lv_f2d C.1.1 C.1.2.1 hdg hne (k H locs ls hP hD hS hl)
theorem h_fconst0 (C : hC p s m args meth c cc nL Ts own D tys A) (hdg : decode cc pc = .ok (.fconst 0, 1)) (k : hS p l e R s m args below meth c nL D A cells slots Q (pc + 1) lv (.float FP.fconst0 :: st) ws) : hS p l e R s m args below meth c nL D A cells slots Q pc lv st ws :=
  fun H locs ls hP hD hS hl => lv_fconst0 C.1.1 C.1.2.1 hdg (k H locs ls hP hD hS hl)
theorem h_fload (C : hC p s m args meth c cc nL Ts own D tys A) {i : Nat} {x : UInt32} (hdg : decode cc pc = .ok (.fload i, 2)) (j : Nat) (hj : lv[j]? = some (i, .float x)) (k : hS p l e R s m args below meth c nL D A cells slots Q (pc + 2) lv (.float x :: st) ws) : hS p l e R s m args below meth c nL D A cells slots Q pc lv st ws :=
  fun H locs ls hP hD hS hl => lv_fload C.1.1 C.1.2.1 hdg (lv_at hl j hj) (k H locs ls hP hD hS hl)
theorem h_fstore (C : hC p s m args meth c cc nL Ts own D tys A) {i : Nat} {x : UInt32} {lv' : List (Nat × Value)} (hdg : decode cc pc = .ok (.fstore i, 2)) (hn : i < nL) (hl' : (i, Value.float x) :: lv.filter (fun q => !(q.1 == i) && !(q.1 + 1 == i && q.2.category == 2)) = lv') (kk : hS p l e R s m args below meth c nL D A cells slots Q (pc + 2) lv' st ws) : hS p l e R s m args below meth c nL D A cells slots Q pc lv (.float x :: st) ws :=
  fun H locs ls hP hD hS hl => lv_fstore C.1.1 C.1.2.1 hdg hl hn hl' (fun ls' h' => kk H locs ls' hP hD hS h')
theorem h_fcmp (C : hC p s m args meth c cc nL Ts own D tys A) {x y : UInt32} {op : CmpOp} (hdg : decode cc pc = .ok (.fcmp op, 1)) (k : hS p l e R s m args below meth c nL D A cells slots Q (pc + 1) lv (.int (Op.cmpValue (FP.fcmp x y) op) :: st) ws) : hS p l e R s m args below meth c nL D A cells slots Q pc lv (.float y :: .float x :: st) ws :=
  fun H locs ls hP hD hS hl => lv_fcmp C.1.1 C.1.2.1 hdg (k H locs ls hP hD hS hl)
theorem h_dcmp (C : hC p s m args meth c cc nL Ts own D tys A) {x y : UInt64} {op : CmpOp} (hdg : decode cc pc = .ok (.dcmp op, 1)) (k : hS p l e R s m args below meth c nL D A cells slots Q (pc + 1) lv (.int (Op.cmpValue (FP.dcmp x y) op) :: st) ws) : hS p l e R s m args below meth c nL D A cells slots Q pc lv (.double y :: .double x :: st) ws :=
  fun H locs ls hP hD hS hl => lv_dcmp C.1.1 C.1.2.1 hdg (k H locs ls hP hD hS hl)
theorem h_i2l (C : hC p s m args meth c cc nL Ts own D tys A) {x : Int32} (hdg : decode cc pc = .ok (.i2l, 1)) (k : hS p l e R s m args below meth c nL D A cells slots Q (pc + 1) lv (.long x.toInt64 :: st) ws) : hS p l e R s m args below meth c nL D A cells slots Q pc lv (.int x :: st) ws :=
  fun H locs ls hP hD hS hl => lv_i2l C.1.1 C.1.2.1 hdg rfl (k H locs ls hP hD hS hl)
theorem h_lcmp (C : hC p s m args meth c cc nL Ts own D tys A) {x y : Int64} (hdg : decode cc pc = .ok (.lcmp, 1)) (k : hS p l e R s m args below meth c nL D A cells slots Q (pc + 1) lv (.int (lg_cmp x y) :: st) ws) : hS p l e R s m args below meth c nL D A cells slots Q pc lv (.long y :: .long x :: st) ws :=
  fun H locs ls hP hD hS hl => W.lcmp C.1.1 C.1.2.1 hdg (k H locs ls hP hD hS hl)
theorem h_lald (C : hC p s m args meth c cc nL Ts own D tys A) (q0 t0 : Nat) {a : Nat} {cA : ClassId} {n : Nat} {f : Nat → Int64} (ha : ws[q0]? = some (a, .inl (cA, n, .inr (.inl f)))) (ht : tys[t0]? = some (cA, .long)) {i : Int32} {v : Int64} (hin : vp_in i n) (hv : v = f i.toNatClampNeg) (hdg : decode cc pc = .ok (.laload, 1)) (kk : hS p l e R s m args below meth c nL D A cells slots Q (pc + 1) lv (.long v :: st) ws) : hS p l e R s m args below meth c nL D A cells slots Q pc lv (.int i :: .ref a :: st) ws := by
  subst hv
  exact fun H locs ls hP hD hS hl => va_lald C.1.1 C.1.2.1 C.2.1 hP q0 t0 ha ht hin hdg (kk H locs ls hP hD hS hl)
theorem h_dald (C : hC p s m args meth c cc nL Ts own D tys A) (q0 t0 : Nat) {a : Nat} {cA : ClassId} {n : Nat} {f : Nat → UInt64} (ha : ws[q0]? = some (a, .inl (cA, n, .inr (.inr (.inr (.inl f)))))) (ht : tys[t0]? = some (cA, .double)) {i : Int32} {v : UInt64} (hin : vp_in i n) (hv : v = f i.toNatClampNeg) (hdg : decode cc pc = .ok (.daload, 1)) (kk : hS p l e R s m args below meth c nL D A cells slots Q (pc + 1) lv (.double v :: st) ws) : hS p l e R s m args below meth c nL D A cells slots Q pc lv (.int i :: .ref a :: st) ws := by
  subst hv
  exact fun H locs ls hP hD hS hl => va_dald C.1.1 C.1.2.1 C.2.1 hP q0 t0 ha ht hin hdg (kk H locs ls hP hD hS hl)
theorem h_last (C : hC p s m args meth c cc nL Ts own D tys A) (q0 t0 : Nat) {a : Nat} {cA : ClassId} {n : Nat} {f : Nat → Int64} (ha : ws[q0]? = some (a, .inl (cA, n, .inr (.inl f)))) (ht : tys[t0]? = some (cA, .long)) {i : Int32} {x : Int64} {f2 : Nat → Int64} (hin : vp_in i n) (hf2 : f2 = vp_updL f i.toNatClampNeg x) {ws' : va_W} (hw : ws.set q0 (a, .inl (cA, n, .inr (.inl f2))) = ws') (hdg : decode cc pc = .ok (.lastore, 1)) (kk : hS p l e R s m args below meth c nL D A cells slots Q (pc + 1) lv st ws') : hS p l e R s m args below meth c nL D A cells slots Q pc lv (.long x :: .int i :: .ref a :: st) ws := by
  subst hw
  subst hf2
  intro H locs ls hP hD hS hl
  exact va_last C.1.1 C.1.2.1 C.2.1 hP hD hS q0 t0 ha ht hin hdg (fun H1 locs1 hP1 hD1 hS1 => kk H1 locs1 ls hP1 hD1 hS1 hl)
theorem h_dast (C : hC p s m args meth c cc nL Ts own D tys A) (q0 t0 : Nat) {a : Nat} {cA : ClassId} {n : Nat} {f : Nat → UInt64} (ha : ws[q0]? = some (a, .inl (cA, n, .inr (.inr (.inr (.inl f)))))) (ht : tys[t0]? = some (cA, .double)) {i : Int32} {x : UInt64} {f2 : Nat → UInt64} (hin : vp_in i n) (hf2 : f2 = vf_upd f i.toNatClampNeg x) {ws' : va_W} (hw : ws.set q0 (a, .inl (cA, n, .inr (.inr (.inr (.inl f2))))) = ws') (hdg : decode cc pc = .ok (.dastore, 1)) (kk : hS p l e R s m args below meth c nL D A cells slots Q (pc + 1) lv st ws') : hS p l e R s m args below meth c nL D A cells slots Q pc lv (.double x :: .int i :: .ref a :: st) ws := by
  subst hw
  subst hf2
  intro H locs ls hP hD hS hl
  exact va_dast C.1.1 C.1.2.1 C.2.1 hP hD hS q0 t0 ha ht hin hdg (fun H1 locs1 hP1 hD1 hS1 => kk H1 locs1 ls hP1 hD1 hS1 hl)
/-- a row's new answers, or none where it would throw or draw -/
def jfdiv {α : Type} (x y : UInt32) (k : UInt32 → Option α) : Option α := if FP.fdiv x y &&& 0x7fffffff ≤ 0x7f800000 then k (FP.fdiv x y) else none
def jf2d {α : Type} (x : UInt32) (k : UInt64 → Option α) : Option α := if FP.f2d x &&& 0x7fffffffffffffff ≤ 0x7ff0000000000000 then k (FP.f2d x) else none
theorem jfdiv_s {α : Type} {x y : UInt32} {k : UInt32 → Option α} {r : α} (h : jfdiv x y k = some r) : vf_n32 (FP.fdiv x y) ∧ k (FP.fdiv x y) = some r := by
  unfold jfdiv at h
  split at h
  · exact ⟨by assumption, h⟩
  · cases h
theorem jf2d_s {α : Type} {x : UInt32} {k : UInt64 → Option α} {r : α} (h : jf2d x k = some r) : vf_n64 (FP.f2d x) ∧ k (FP.f2d x) = some r := by
  unfold jf2d at h
  split at h
  · exact ⟨by assumption, h⟩
  · cases h
def jwrL {α : Type} (f : Nat → Int64) (n : Nat) (i : Int32) (v : Int64) (k : (Nat → Int64) → Option α) : Option α := if i < 0 ∨ n ≤ i.toNatClampNeg then none else k (vp_updL f i.toNatClampNeg v)
def jwrD {α : Type} (f : Nat → UInt64) (n : Nat) (i : Int32) (v : UInt64) (k : (Nat → UInt64) → Option α) : Option α := if i < 0 ∨ n ≤ i.toNatClampNeg then none else k (vf_upd f i.toNatClampNeg v)
def jrdA {α β : Type} (f : Nat → β) (n : Nat) (i : Int32) (k : β → Option α) : Option α := if i < 0 ∨ n ≤ i.toNatClampNeg then none else k (f i.toNatClampNeg)
theorem jrdA_s {α β : Type} {f : Nat → β} {n : Nat} {i : Int32} {k : β → Option α} {x : α} (h : jrdA f n i k = some x) : vp_in i n ∧ ∃ v, v = f i.toNatClampNeg ∧ k v = some x := by
  unfold jrdA at h
  split at h
  · cases h
  · exact ⟨by assumption, _, rfl, h⟩
theorem jwrL_s {α : Type} {f : Nat → Int64} {n : Nat} {i : Int32} {v : Int64} {k : (Nat → Int64) → Option α} {x : α} (h : jwrL f n i v k = some x) : vp_in i n ∧ ∃ f2, f2 = vp_updL f i.toNatClampNeg v ∧ k f2 = some x := by
  unfold jwrL at h
  split at h
  · cases h
  · exact ⟨by assumption, _, rfl, h⟩
theorem jwrD_s {α : Type} {f : Nat → UInt64} {n : Nat} {i : Int32} {v : UInt64} {k : (Nat → UInt64) → Option α} {x : α} (h : jwrD f n i v k = some x) : vp_in i n ∧ ∃ f2, f2 = vf_upd f i.toNatClampNeg v ∧ k f2 = some x := by
  unfold jwrD at h
  split at h
  · cases h
  · exact ⟨by assumption, _, rfl, h⟩
theorem xng_IAE : ∀ w ∈ vx_atS RX4 164 xIAE xUp, goodWord w = true ∨ w ∈ xDc.map Cond.declares ∨ w = .castable xIAE xIAE := by decide +kernel
theorem xng_ISE : ∀ w ∈ vx_atS RX4 39 xISE xUp, goodWord w = true ∨ w ∈ xDc.map Cond.declares ∨ w = .castable xISE xISE := by decide +kernel
theorem xng_IOE : ∀ w ∈ vx_atS RX4 111 xIOE xUp, goodWord w = true ∨ w ∈ xDc.map Cond.declares ∨ w = .castable xIOE xIOE := by decide +kernel
theorem xgd_IAE : ∀ w ∈ Cond.classLink RX4 160 xIAE :: Cond.initialized xIAE :: vx_atS RX4 164 xIAE xUp, vx_ot w = true := by decide +kernel
theorem xgd_ISE : ∀ w ∈ Cond.classLink RX4 35 xISE :: Cond.initialized xISE :: vx_atS RX4 39 xISE xUp, vx_ot w = true := by decide +kernel
theorem xgd_IOE : ∀ w ∈ Cond.classLink RX4 107 xIOE :: Cond.initialized xIOE :: vx_atS RX4 111 xIOE xUp, vx_ot w = true := by decide +kernel
theorem xft_IAE : Bundle.fit xIAE = true := by decide +kernel
theorem xft_ISE : Bundle.fit xISE = true := by decide +kernel
theorem xft_IOE : Bundle.fit xIOE = true := by decide +kernel
theorem xft_up : ∀ n ∈ xUp, Bundle.fit n = true := by decide +kernel
theorem xin_IAE : xIAE ∈ xCs := by decide +kernel
theorem xin_ISE : xISE ∈ xCs := by decide +kernel
theorem xin_IOE : xIOE ∈ xCs := by decide +kernel
end HX
