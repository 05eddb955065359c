section
-- ===== PART A: goes FIRST, ahead of the names: the tables' words, and 'selects' of the private methods out of them =====
/-- a private method of a class that the tables say can be made, by its rows of tables_1 -/
def lw_okq (q : MethodName × Nat) : Prop := (q.1.cls ≠ "java/lang/invoke/MethodHandle" ∧ q.1.cls ≠ "java/lang/invoke/VarHandle") ∧ Cond.instantiable q.1.cls q.2 ∈ tables_1 ∧ Cond.privateMethod q.1 ∈ tables_1 ∧ Cond.instanceMethod q.1 ∈ tables_1
theorem lw_p0 : lw_okq (⟨"java/lang/Throwable", "fillInStackTrace", "(I)Ljava/lang/Throwable;"⟩, 6) := ⟨⟨by decide +kernel, by decide +kernel⟩, List.mem_of_getElem? (i := 128) (by decide +kernel), List.mem_of_getElem? (i := 126) (by decide +kernel), List.mem_of_getElem? (i := 127) (by decide +kernel)⟩
theorem lw_p1 : lw_okq (⟨"HilbertHutch$Stock", "putInOrder", "(I)V"⟩, 6) := ⟨⟨by decide +kernel, by decide +kernel⟩, List.mem_of_getElem? (i := 22) (by decide +kernel), List.mem_of_getElem? (i := 197) (by decide +kernel), List.mem_of_getElem? (i := 198) (by decide +kernel)⟩
theorem lw_p2 : lw_okq (⟨"HilbertHutch$Stock", "setOrder", "(II)V"⟩, 6) := ⟨⟨by decide +kernel, by decide +kernel⟩, List.mem_of_getElem? (i := 22) (by decide +kernel), List.mem_of_getElem? (i := 209) (by decide +kernel), List.mem_of_getElem? (i := 210) (by decide +kernel)⟩
theorem lw_p3 : lw_okq (⟨"HilbertHutch$Tree", "addRoot", "(I)V"⟩, 3) := ⟨⟨by decide +kernel, by decide +kernel⟩, List.mem_of_getElem? (i := 49) (by decide +kernel), List.mem_of_getElem? (i := 221) (by decide +kernel), List.mem_of_getElem? (i := 222) (by decide +kernel)⟩
theorem lw_p4 : lw_okq (⟨"HilbertHutch$Tree", "setWidth", "(II)V"⟩, 3) := ⟨⟨by decide +kernel, by decide +kernel⟩, List.mem_of_getElem? (i := 49) (by decide +kernel), List.mem_of_getElem? (i := 225) (by decide +kernel), List.mem_of_getElem? (i := 226) (by decide +kernel)⟩
theorem lw_p5 : lw_okq (⟨"HilbertHutch$Tree", "setLoad", "(III)V"⟩, 3) := ⟨⟨by decide +kernel, by decide +kernel⟩, List.mem_of_getElem? (i := 49) (by decide +kernel), List.mem_of_getElem? (i := 229) (by decide +kernel), List.mem_of_getElem? (i := 230) (by decide +kernel)⟩
theorem lw_p6 : lw_okq (⟨"HilbertHutch$Tree", "parent", "(II)I"⟩, 3) := ⟨⟨by decide +kernel, by decide +kernel⟩, List.mem_of_getElem? (i := 49) (by decide +kernel), List.mem_of_getElem? (i := 249) (by decide +kernel), List.mem_of_getElem? (i := 250) (by decide +kernel)⟩
theorem lw_p7 : lw_okq (⟨"HilbertHutch$Tree", "relieve", "(III)Z"⟩, 3) := ⟨⟨by decide +kernel, by decide +kernel⟩, List.mem_of_getElem? (i := 49) (by decide +kernel), List.mem_of_getElem? (i := 257) (by decide +kernel), List.mem_of_getElem? (i := 258) (by decide +kernel)⟩
theorem lw_p8 : lw_okq (⟨"HilbertHutch$Tree", "partner", "(III)I"⟩, 3) := ⟨⟨by decide +kernel, by decide +kernel⟩, List.mem_of_getElem? (i := 49) (by decide +kernel), List.mem_of_getElem? (i := 261) (by decide +kernel), List.mem_of_getElem? (i := 262) (by decide +kernel)⟩
theorem lw_p9 : lw_okq (⟨"HilbertHutch$Tree", "entriesBefore", "(II)I"⟩, 3) := ⟨⟨by decide +kernel, by decide +kernel⟩, List.mem_of_getElem? (i := 49) (by decide +kernel), List.mem_of_getElem? (i := 265) (by decide +kernel), List.mem_of_getElem? (i := 266) (by decide +kernel)⟩
theorem lw_p10 : lw_okq (⟨"HilbertHutch$Tree", "insertNode", "(III)V"⟩, 3) := ⟨⟨by decide +kernel, by decide +kernel⟩, List.mem_of_getElem? (i := 49) (by decide +kernel), List.mem_of_getElem? (i := 269) (by decide +kernel), List.mem_of_getElem? (i := 270) (by decide +kernel)⟩
theorem lw_p11 : lw_okq (⟨"HilbertHutch$Tree", "halve", "(II)V"⟩, 3) := ⟨⟨by decide +kernel, by decide +kernel⟩, List.mem_of_getElem? (i := 49) (by decide +kernel), List.mem_of_getElem? (i := 276) (by decide +kernel), List.mem_of_getElem? (i := 277) (by decide +kernel)⟩
theorem lw_p12 : lw_okq (⟨"HilbertHutch$Tree", "gainEntry", "(II)V"⟩, 3) := ⟨⟨by decide +kernel, by decide +kernel⟩, List.mem_of_getElem? (i := 49) (by decide +kernel), List.mem_of_getElem? (i := 280) (by decide +kernel), List.mem_of_getElem? (i := 281) (by decide +kernel)⟩
theorem lw_p13 : lw_okq (⟨"HilbertHutch", "checkBox", "(I)V"⟩, 3) := ⟨⟨by decide +kernel, by decide +kernel⟩, List.mem_of_getElem? (i := 14) (by decide +kernel), List.mem_of_getElem? (i := 292) (by decide +kernel), List.mem_of_getElem? (i := 293) (by decide +kernel)⟩
theorem lw_p14 : lw_okq (⟨"HilbertHutch$Tree", "unite", "(III)Z"⟩, 3) := ⟨⟨by decide +kernel, by decide +kernel⟩, List.mem_of_getElem? (i := 49) (by decide +kernel), List.mem_of_getElem? (i := 320) (by decide +kernel), List.mem_of_getElem? (i := 321) (by decide +kernel)⟩
theorem lw_p15 : lw_okq (⟨"HilbertHutch$Tree", "deleteNode", "(II)V"⟩, 3) := ⟨⟨by decide +kernel, by decide +kernel⟩, List.mem_of_getElem? (i := 49) (by decide +kernel), List.mem_of_getElem? (i := 324) (by decide +kernel), List.mem_of_getElem? (i := 325) (by decide +kernel)⟩
def lw_privs_1 : List (MethodName × Nat) := [(⟨"java/lang/Throwable", "fillInStackTrace", "(I)Ljava/lang/Throwable;"⟩, 6), (⟨"HilbertHutch$Stock", "putInOrder", "(I)V"⟩, 6), (⟨"HilbertHutch$Stock", "setOrder", "(II)V"⟩, 6), (⟨"HilbertHutch$Tree", "addRoot", "(I)V"⟩, 3), (⟨"HilbertHutch$Tree", "setWidth", "(II)V"⟩, 3), (⟨"HilbertHutch$Tree", "setLoad", "(III)V"⟩, 3), (⟨"HilbertHutch$Tree", "parent", "(II)I"⟩, 3), (⟨"HilbertHutch$Tree", "relieve", "(III)Z"⟩, 3), (⟨"HilbertHutch$Tree", "partner", "(III)I"⟩, 3), (⟨"HilbertHutch$Tree", "entriesBefore", "(II)I"⟩, 3), (⟨"HilbertHutch$Tree", "insertNode", "(III)V"⟩, 3), (⟨"HilbertHutch$Tree", "halve", "(II)V"⟩, 3), (⟨"HilbertHutch$Tree", "gainEntry", "(II)V"⟩, 3), (⟨"HilbertHutch", "checkBox", "(I)V"⟩, 3), (⟨"HilbertHutch$Tree", "unite", "(III)Z"⟩, 3), (⟨"HilbertHutch$Tree", "deleteNode", "(II)V"⟩, 3)]
theorem lw_r1 : ∀ q ∈ lw_privs_1, lw_okq q := List.forall_mem_cons.mpr ⟨lw_p0, List.forall_mem_cons.mpr ⟨lw_p1, List.forall_mem_cons.mpr ⟨lw_p2, List.forall_mem_cons.mpr ⟨lw_p3, List.forall_mem_cons.mpr ⟨lw_p4, List.forall_mem_cons.mpr ⟨lw_p5, List.forall_mem_cons.mpr ⟨lw_p6, List.forall_mem_cons.mpr ⟨lw_p7, List.forall_mem_cons.mpr ⟨lw_p8, List.forall_mem_cons.mpr ⟨lw_p9, List.forall_mem_cons.mpr ⟨lw_p10, List.forall_mem_cons.mpr ⟨lw_p11, List.forall_mem_cons.mpr ⟨lw_p12, List.forall_mem_cons.mpr ⟨lw_p13, List.forall_mem_cons.mpr ⟨lw_p14, List.forall_mem_cons.mpr ⟨lw_p15, fun _ h => absurd h List.not_mem_nil⟩⟩⟩⟩⟩⟩⟩⟩⟩⟩⟩⟩⟩⟩⟩⟩
theorem lw_p16 : lw_okq (⟨"HilbertHutch$Tree", "lowerRoot", "()V"⟩, 3) := ⟨⟨by decide +kernel, by decide +kernel⟩, List.mem_of_getElem? (i := 49) (by decide +kernel), List.mem_of_getElem? (i := 331) (by decide +kernel), List.mem_of_getElem? (i := 332) (by decide +kernel)⟩
theorem lw_p17 : lw_okq (⟨"HilbertHutch", "checkNode", "(II)V"⟩, 3) := ⟨⟨by decide +kernel, by decide +kernel⟩, List.mem_of_getElem? (i := 14) (by decide +kernel), List.mem_of_getElem? (i := 415) (by decide +kernel), List.mem_of_getElem? (i := 416) (by decide +kernel)⟩
theorem lw_p18 : lw_okq (⟨"HilbertHutch", "coverOf", "(II)I"⟩, 3) := ⟨⟨by decide +kernel, by decide +kernel⟩, List.mem_of_getElem? (i := 14) (by decide +kernel), List.mem_of_getElem? (i := 426) (by decide +kernel), List.mem_of_getElem? (i := 427) (by decide +kernel)⟩
theorem lw_p19 : lw_okq (⟨"HilbertHutch", "rankByDistance", "(II)V"⟩, 3) := ⟨⟨by decide +kernel, by decide +kernel⟩, List.mem_of_getElem? (i := 14) (by decide +kernel), List.mem_of_getElem? (i := 549) (by decide +kernel), List.mem_of_getElem? (i := 550) (by decide +kernel)⟩
theorem lw_p20 : lw_okq (⟨"HilbertHutch", "ranksBefore", "(I)I"⟩, 3) := ⟨⟨by decide +kernel, by decide +kernel⟩, List.mem_of_getElem? (i := 14) (by decide +kernel), List.mem_of_getElem? (i := 553) (by decide +kernel), List.mem_of_getElem? (i := 554) (by decide +kernel)⟩
def lw_privs_2 : List (MethodName × Nat) := [(⟨"HilbertHutch$Tree", "lowerRoot", "()V"⟩, 3), (⟨"HilbertHutch", "checkNode", "(II)V"⟩, 3), (⟨"HilbertHutch", "coverOf", "(II)I"⟩, 3), (⟨"HilbertHutch", "rankByDistance", "(II)V"⟩, 3), (⟨"HilbertHutch", "ranksBefore", "(I)I"⟩, 3)]
theorem lw_r2 : ∀ q ∈ lw_privs_2, lw_okq q := List.forall_mem_cons.mpr ⟨lw_p16, List.forall_mem_cons.mpr ⟨lw_p17, List.forall_mem_cons.mpr ⟨lw_p18, List.forall_mem_cons.mpr ⟨lw_p19, List.forall_mem_cons.mpr ⟨lw_p20, fun _ h => absurd h List.not_mem_nil⟩⟩⟩⟩⟩
def lw_privs : List (MethodName × Nat) := lw_privs_1 ++ (lw_privs_2)
def lw_tbl : List Cond := k2_sels lw_privs ++ tables_1
theorem lw_privs_ok : ∀ q ∈ lw_privs, lw_okq q := by
  show ∀ q ∈ lw_privs_1 ++ (lw_privs_2), lw_okq q
  exact List.forall_mem_append.mpr ⟨lw_r1, lw_r2⟩
/-- the streams that the claim lets the run draw from -/
abbrev lw_cs : List Choice := [Jvm.Choice.named "NaN.bits"]
theorem lw_bits : nanBits ∈ lw_cs := by first | decide | exact List.mem_cons_self | simp [lw_cs, nanBits]
-- ===== end of PART A; then your names; then what follows =====
end
section
/-! ===== BEGIN words of one list among another's, by their places ===== -/
theorem goodIn_r {big : List Cond} (ws : List Cond) (ps : List Nat) (hp : ws = ps.filterMap (fun i => big[i]?)) (h : ws.all goodWord = true) : GoodIn big ws := by
  intro w hw
  have h1 := List.all_eq_true.mp h w hw
  rw [hp] at hw
  obtain ⟨i, -, hi⟩ := List.mem_filterMap.mp hw
  have hm : w ∈ big := by first | exact List.mem_of_getElem? hi | exact List.getElem?_mem hi
  exact ⟨hm, good_of_word h1⟩
theorem goodIn_app {big a b : List Cond} (ha : GoodIn big a) (hb : GoodIn big b) : GoodIn big (a ++ b) := fun w h => (List.mem_append.mp h).elim (ha w) (hb w)
theorem goodIn_ca {big a b : List Cond} {c : Cond} (ha : GoodIn big (c :: a)) (hb : GoodIn big b) : GoodIn big (c :: (a ++ b)) := fun w h => (List.mem_cons.mp h).elim (fun e => ha w (List.mem_cons.mpr (Or.inl e))) (fun h => (List.mem_append.mp h).elim (fun h => ha w (List.mem_cons.mpr (Or.inr h))) (hb w))
theorem goodIn_sub {big ws : List Cond} (hm : ∀ w ∈ ws, w ∈ big) (h : ws.all goodWord = true) : GoodIn big ws := fun w hw => ⟨hm w hw, good_of_word (List.all_eq_true.mp h w hw)⟩
/-! ===== END ===== -/

/-! ===== BEGIN exceptions that leave a method, and their catching by the caller (launches without stack traces) ===== -/
section VXA
/-! The laws vx_back, vx_callV, vx_callS, vx_callSW, vx_throw0, vx_throwS follow proofs of the library, with one case more: JvmDerived/Free/Laws.lean (Back.of_free), Shelf42/LK1.lean (callV, callS), Shelf/KitTraced.lean (throwNew0V, throwNewS). -/
/-- where a method has thrown q: the class by its name, the cell, what was written, the world -/
def vx_T (XC : String → State → State → Prop) (st : State) (q : Addr) (t : State) (mc ms : Nat) (free : Addr → Prop) : Prop :=
  ∃ (E : String) (ce : Cell) (L : List Loc), XC E st t ∧ t.heap[q]? = some ce ∧ ce.vm = .none ∧ st.vm.findClass E = some ce.cls ∧ st.WarmedH t.vm ∧ st.sameButNew ({ t with vm := st.vm } : State) L mc ms ∧ ∀ z ∈ L, free z.base
def vx_Q (Qc : Array Value → State → Outcome → State → Prop) (XC : String → State → State → Prop) (mc ms : Nat) (free : Addr → Prop) : Array Value → State → Outcome → State → Prop := fun a st o t =>
  (Qc a st o t ∧ ∃ L, FrameEnd st o t L mc ms ∧ ∀ q ∈ L, free q.base) ∨ ∃ q, o = .threw q ∧ vx_T XC st q t mc ms free
/-- a callee that returns or throws -/
def vx_Met (l : Launch) (y : MethodName) (ws : List Cond) (rm : Room) (Pc : Array Value → State → Prop) (Qc : Array Value → State → Outcome → State → Prop) (XC : String → State → State → Prop) (mc ms : Nat) (free : Addr → Prop) : Prop :=
  MetFree l y (headSpec ws rm) Pc (fun _ _ _ _ _ => True) (vx_Q Qc XC mc ms free)
def vx_Post (XC : String → State → State → Prop) (mc ms : Nat) (free : Addr → Prop) : Pt → Array Value → Addr → Pt → Prop := fun A a q B =>
  ∃ (g : JFrame) (mk : MethodId) (t : State) (L : List Loc) (E : String) (ce : Cell), B.U.heap = t.heap ∧ B.U.vm = t.vm ∧ XC E (A.U.calling g mk a) t ∧ t.heap[q]? = some ce ∧ ce.vm = .none ∧ A.U.vm.findClass E = some ce.cls ∧ B.locs = A.locs ++ L ∧ (∀ z ∈ L, free z.base) ∧ B.cells = A.cells + mc ∧ B.slots = A.slots + ms
def vx_Back (l : Launch) (R : Room) (p : Program) (e : Env) (below : List Frame) (s : State) (sargs : Array Value) (y : MethodName) (len W9 : Nat)
    (Pre : Pt → Array Value → Prop) (Post : Pt → Array Value → Option Value → Pt → Prop) (PostX : Pt → Array Value → Addr → Pt → Prop) : Prop :=
  ∀ (m : MethodId) (meth : Method) (c : Code) (A : Pt) (g : JFrame) (ig : Instr) (mk : MethodId) (a : Array Value),
    Stand p l e R s m sargs below meth c A.U A.locs A.cells A.slots → g.method = m → g.locals.size = c.maxLocals → decode c.code g.pc = .ok (ig, len) →
    2 * g.monitorRoom + (g.stack.map fun v => v.category).sum ≤ W9 → A.U.methodNamed? y = some mk → Pre A a →
    (∃ (v : Option Value) (B : Pt), Stand p l e R s m sargs below meth c B.U B.locs B.cells B.slots ∧ Post A a v B ∧
      Steps p.tables e below (doInvoke e (A.U.setTop g) [] mk a).1 (B.U.setTop { g with pc := g.pc + len, stack := v.toList ++ g.stack })) ∨
    (∃ (q : Addr) (B : Pt), Stand p l e R s m sargs below meth c B.U B.locs B.cells B.slots ∧ PostX A a q B ∧
      Steps p.tables e below (doInvoke e (A.U.setTop g) [] mk a).1 ((B.U.setTop g).pushFrame (.throwing q)))
section Payer
variable {l : Launch} {R : Room} {p : Program} {e : Env} {below : List Frame} {s : State} {sargs : Array Value} {y : MethodName} {len W9 : Nat}
theorem vx_back {ws : List Cond} {rm : Room} {Pc : Array Value → State → Prop} {Qc : Array Value → State → Outcome → State → Prop} {XC : String → State → State → Prop} {mc ms : Nat} {free : Addr → Prop} {bytes : ByteArray} {maxL : Nat} {ret : Option FieldType}
    (hM : vx_Met l y ws rm Pc Qc XC mc ms free) (hblind : FrameBlind Pc) (hrc : rm.cells = mc) (hrs : rm.slots = ms)
    (hframes : rm.frames + 1 ≤ R.frames) (hlocals : W9 + (maxL + 11) + rm.locals ≤ R.locals)
    (hws : ∀ w ∈ ws, ∀ a' U, s.WarmedH U.vm → w.before a' U = true) (hcode : Cond.code y bytes maxL ret ∈ ws) (hinit : ∀ a' U, s.WarmedH U.vm → (Cond.initialized y.cls).before a' U = true) :
    vx_Back l R p e below s sargs y len W9 (PreOf R mc ms Pc) (PostOf Qc mc ms free) (vx_Post XC mc ms free) := by
  intro m meth c A g ig mk a X hg hsize hdg hW hn hp
  have h1 : (headSpec ws rm).pre.before a A.U = true := atoms_intro fun w hw => hws w hw _ _ X.warmed
  have h2 : (Cond.code y bytes maxL ret).before a A.U = true := hws _ hcode _ _ X.warmed
  have h3 : (Cond.initialized y.cls).before a A.U = true := hinit _ _ X.warmed
  have h4 : A.cells + (headSpec ws rm).room.cells ≤ R.cells := by rw [show (headSpec ws rm).room.cells = mc from hrc]; exact hp.1
  have h5 : A.slots + (headSpec ws rm).room.slots ≤ R.slots := by rw [show (headSpec ws rm).room.slots = ms from hrs]; exact hp.2.1
  have hPc : Pc a (A.U.calling g mk a) := hblind _ _ _ _ hp.2.2
  obtain ⟨U, Ls, c0, s0⟩ := A
  dsimp only [Pt.U, Pt.locs, Pt.cells, Pt.slots] at h1 h2 h3 h4 h5 X hn hPc ⊢
  obtain ⟨methY, cY, hmY, hcY, -, hlY, -, -, -, -⟩ := Cond.code_spec hn h2
  obtain ⟨kY, hkY, -⟩ := className_of_methodNamed hn
  have hinitY : kY.init = .initialized := Cond.initialized_spec (findClass_of_methodNamed hn) hkY h3
  have h : At U g.method c below := by rw [hg]; exact X.here
  have hlocals9 : W9 + (maxL + 11) + (headSpec ws rm).room.locals ≤ R.locals := hlocals
  have happ : (headSpec ws rm).appliesLoose y e.platform (U.calling g mk a) = true :=
    Spec.appliesLoose_calling (g := g) h hdg hn hkY hinitY
      (X.room_calling (g := g) (R' := (headSpec ws rm).room) hsize hmY hcY hframes (by rw [hlY]; omega) h4 h5) h1
  obtain ⟨mid, hmid⟩ := h.above
  have hfr : (U.setTop g).frames = (.java g :: mid) ++ below := by rw [State.frames_setTop' g h.top, hmid]; rfl
  obtain ⟨o, s₂, hsteps, -, hend, hq⟩ := Steps.callFree hM p X.admits X.cas X.clock (acts := []) hfr happ hPc trivial
  have hq' : vx_Q Qc XC mc ms free a (U.calling g mk a) o s₂ := hq
  rw [State.frames_setTop' g h.top] at hend
  obtain ⟨g₀, hg0⟩ := Option.isSome_iff_exists.mp h.top
  obtain ⟨r, hr⟩ := State.topJava?_eq_some.mp hg0
  have hr' : (({ U with heap := s₂.heap, slotsUsed := s₂.slotsUsed } : State).setVm s₂.vm).frames = .java g₀ :: r := hr
  rcases hq' with ⟨hqc, L, hfe, hL⟩ | ⟨q, rfl, E, ce, L, hx, hce, hcv, hcl, hW₂, hsm, hL⟩
  · obtain ⟨⟨v, rfl⟩, hW₂, e2, q2, q3, q4, q5, q6⟩ := id hfe
    have e3 : s₂ = ({ (U.calling g mk a).setFrames s₂.frames with heap := s₂.heap, slotsUsed := s₂.slotsUsed } : State).setVm s₂.vm := by
      have : s₂ = ({ s₂ with vm := (U.calling g mk a).vm } : State).setVm s₂.vm := rfl
      rw [e2] at this
      exact this
    obtain ⟨c₂, i₂, len₂, hc₂, hd₂, hf₂⟩ := hend
    have hW' : U.WarmedH s₂.vm := hW₂
    have hcc : c₂ = c := by
      have h1 : s₂.code? g.method = U.code? g.method := by
        rw [State.code?_eq, State.code?_eq, hW'.alike.method?]
      exact Option.some.inj (hc₂.symm.trans (h1.trans h.code))
    subst hcc
    have hlen : len₂ = len := by rw [hdg] at hd₂; cases hd₂; rfl
    subst hlen
    have hs₂ : s₂ = (({ U with heap := s₂.heap, slotsUsed := s₂.slotsUsed } : State).setVm s₂.vm).setTop { g with pc := g.pc + len₂, stack := v.toList ++ g.stack } := by
      refine e3.trans ?_
      rw [hf₂, State.calling_eq h.top, State.setFrames_setFrames, State.setTop_of_frames _ hr', hr]
      rfl
    have hsame : U.sameButNew ({ U with heap := s₂.heap, slotsUsed := s₂.slotsUsed } : State) L mc ms := by
      refine ⟨?_, q2, q3, q4, q5, q6⟩
      obtain ⟨t, ht, -⟩ := State.frames_cons hr
      show ({ U with heap := s₂.heap, slotsUsed := s₂.slotsUsed } : State) = { U.setFrames U.frames with heap := s₂.heap, slotsUsed := s₂.slotsUsed }
      rw [State.setFrames_self ht]
    subst hg
    refine Or.inl ⟨v, ⟨(({ U with heap := s₂.heap, slotsUsed := s₂.slotsUsed } : State).setVm s₂.vm), Ls ++ L, c0 + mc, s0 + ms⟩,
      ⟨X.admits, X.cas, X.clock, X.frames, X.room, X.hears, X.method, X.code, (X.here.setHeapUsed s₂.heap s₂.slotsUsed).setVm hW'.alike, X.tail, State.WarmedH.trans X.warmed hW', X.limits, X.bytes, X.same.trans (hsame.setVm s.vm)⟩,
      ⟨g, mk, s₂, L, rfl, rfl, hqc, rfl, hL, rfl, rfl⟩, ?_⟩
    show Steps p.tables e below _ ((({ U with heap := s₂.heap, slotsUsed := s₂.slotsUsed } : State).setVm s₂.vm).setTop { g with pc := g.pc + len₂, stack := v.toList ++ g.stack })
    rw [← hs₂]
    exact hsteps
  · obtain ⟨e2, q2, q3, q4, q5, q6⟩ := id hsm
    have e3 : s₂ = ({ (U.calling g mk a).setFrames s₂.frames with heap := s₂.heap, slotsUsed := s₂.slotsUsed } : State).setVm s₂.vm := by
      have : s₂ = ({ s₂ with vm := (U.calling g mk a).vm } : State).setVm s₂.vm := rfl
      rw [e2] at this
      exact this
    have hf₂ : s₂.frames = .throwing q :: .java g :: U.frames.tail := hend
    have hW' : U.WarmedH s₂.vm := hW₂
    have hs₂ : s₂ = ((({ U with heap := s₂.heap, slotsUsed := s₂.slotsUsed } : State).setVm s₂.vm).setTop g).pushFrame (.throwing q) := by
      refine e3.trans ?_
      rw [hf₂, State.calling_eq h.top, State.setFrames_setFrames, State.pushFrame, State.frames_setTop _ hr', State.setTop_of_frames _ hr', State.setFrames_setFrames, hr]
      rfl
    have hsame : U.sameButNew ({ U with heap := s₂.heap, slotsUsed := s₂.slotsUsed } : State) L mc ms := by
      refine ⟨?_, q2, q3, q4, q5, q6⟩
      obtain ⟨t, ht, -⟩ := State.frames_cons hr
      show ({ U with heap := s₂.heap, slotsUsed := s₂.slotsUsed } : State) = { U.setFrames U.frames with heap := s₂.heap, slotsUsed := s₂.slotsUsed }
      rw [State.setFrames_self ht]
    subst hg
    refine Or.inr ⟨q, ⟨(({ U with heap := s₂.heap, slotsUsed := s₂.slotsUsed } : State).setVm s₂.vm), Ls ++ L, c0 + mc, s0 + ms⟩,
      ⟨X.admits, X.cas, X.clock, X.frames, X.room, X.hears, X.method, X.code, (X.here.setHeapUsed s₂.heap s₂.slotsUsed).setVm hW'.alike, X.tail, State.WarmedH.trans X.warmed hW', X.limits, X.bytes, X.same.trans (hsame.setVm s.vm)⟩,
      ⟨g, mk, s₂, L, E, ce, rfl, rfl, hx, hce, hcv, hcl, rfl, hL, rfl, rfl⟩, ?_⟩
    show Steps p.tables e below _ (((({ U with heap := s₂.heap, slotsUsed := s₂.slotsUsed } : State).setVm s₂.vm).setTop g).pushFrame (.throwing q))
    rw [← hs₂]
    exact hsteps
end Payer
section Calls
variable {p : Program} {l : Launch} {e : Env} {R : Room} {s : State} {m : MethodId} {args : Array Value} {below : List Frame} {meth : Method} {c : Code} {T : State} {locs : List Loc} {cells slots : Nat}
theorem vx_callV (X : Stand p l e R s m args below meth c T locs cells slots) (hexec : p.tables.exec = Jvm.exec) {own C : String} {index : Nat} {y : MethodName} {bytes : ByteArray} {maxL : Nat} {ret : Option FieldType}
    (hown : s.vm.findClass own = some m.cls) (hlink : (Cond.methodLink own index y).before args s = true) (hinst : (Cond.instanceMethod y).before args s = true) (hsel : (Cond.selects C y y).before args s = true)
    (hcode : (Cond.code y bytes maxL ret).before args s = true) (hy : y.cls ≠ "java/lang/invoke/MethodHandle" ∧ y.cls ≠ "java/lang/invoke/VarHandle")
    {W9 : Nat} {Pre : Pt → Array Value → Prop} {Post : Pt → Array Value → Option Value → Pt → Prop} {PostX : Pt → Array Value → Addr → Pt → Prop} (hK : vx_Back l R p e below s args y 3 W9 Pre Post PostX)
    {b : Addr} {cellB : Cell} (hcell : T.heap[b]? = some cellB) (hobj : cellB.vm.isStatics = false) (hcls : s.vm.findClass C = some cellB.cls)
    {g : JFrame} (hg : g.method = m) (hsize : g.locals.size = c.maxLocals) {argsL rest : List Value} (hlen : ∀ sig, parseMethodDescriptor y.desc = some sig → argsL.length = sig.parameters.length)
    (hstack : g.stack = argsL.reverse ++ .ref b :: rest) (hW : 2 * g.monitorRoom + (rest.map fun v => v.category).sum ≤ W9) (hdg : decode c.code g.pc = .ok (.invokevirtual index, 3))
    (hpre : ∀ vm₁, s.WarmedH vm₁ → Pre ⟨T.setVm vm₁, locs, cells, slots⟩ (Value.ref b :: argsL).toArray) :
    (∃ (v : Option Value) (vm₁ : Vm) (B : Pt), s.WarmedH vm₁ ∧ Stand p l e R s m args below meth c B.U B.locs B.cells B.slots ∧ Post ⟨T.setVm vm₁, locs, cells, slots⟩ (Value.ref b :: argsL).toArray v B ∧
      ∀ target, Steps p.tables e below (B.U.setTop { g with pc := g.pc + 3, stack := v.toList ++ rest }) target → Steps p.tables e below (T.setTop g) target) ∨
    (∃ (q : Addr) (vm₁ : Vm) (B : Pt), s.WarmedH vm₁ ∧ Stand p l e R s m args below meth c B.U B.locs B.cells B.slots ∧ PostX ⟨T.setVm vm₁, locs, cells, slots⟩ (Value.ref b :: argsL).toArray q B ∧
      Steps p.tables e below (T.setTop g) ((B.U.setTop { g with stack := rest }).pushFrame (.throwing q))) := by
  obtain ⟨mk, methM, hnamed, hmethM, hstM, habM⟩ := Cond.instanceMethod_spec hinst
  obtain ⟨methM', cM, hmethM', -, -, -, -, -, -, hsigM⟩ := Cond.code_spec hnamed hcode
  cases hmethM.symm.trans hmethM'
  obtain ⟨c2, r2, m2, q1, q2, q3, q4, kP, hkP, hkPi⟩ := Cond.selects_spec hsel
  cases hcls.symm.trans q1
  cases (State.methodFound?_of_named hnamed hy).symm.trans q2
  cases hnamed.symm.trans q3
  have hselP : selectMethod e.platform s.vm cellB.cls mk = .method mk := by rw [Launch.admits_selectMethod X.admits]; exact q4
  obtain ⟨vm₁, X₁, hstep₁⟩ := X.invokevirtual hexec hown hlink hnamed hmethM hstM hkP hkPi hy (a := b) (cell := cellB) hcell
    (fun z h => by rw [h] at hobj; cases hobj) hselP hmethM habM hkP hkPi (g := g) hg (argsL := argsL) (rest := rest) (hlen _ hsigM) hstack hdg
  rcases hK m meth c ⟨T.setVm vm₁, locs, cells, slots⟩ { g with stack := rest } (.invokevirtual index) mk (Value.ref b :: argsL).toArray X₁ hg hsize hdg hW (X₁.named hnamed) (hpre vm₁ X₁.warmed) with ⟨v, B, X', hpost, hsteps⟩ | ⟨q, B, X', hpost, hsteps⟩
  · exact Or.inl ⟨v, vm₁, B, X₁.warmed, X', hpost, fun target h => hstep₁ _ fun acts => by rw [doInvoke_state]; exact hsteps.trans h⟩
  · exact Or.inr ⟨q, vm₁, B, X₁.warmed, X', hpost, hstep₁ _ fun acts => by rw [doInvoke_state]; exact hsteps⟩
theorem vx_callS (X : Stand p l e R s m args below meth c T locs cells slots) (hexec : p.tables.exec = Jvm.exec) {own : String} {index : Nat} {y : MethodName} {bytes : ByteArray} {maxL : Nat} {ret : Option FieldType}
    (hown : s.vm.findClass own = some m.cls) (hlink : (Cond.methodLink own index y).before args s = true) (hstat : (Cond.static y).before args s = true) (hinit : (Cond.initialized y.cls).before args s = true)
    (hcode : (Cond.code y bytes maxL ret).before args s = true) (hy : y.cls ≠ "java/lang/invoke/MethodHandle" ∧ y.cls ≠ "java/lang/invoke/VarHandle")
    {W9 : Nat} {Pre : Pt → Array Value → Prop} {Post : Pt → Array Value → Option Value → Pt → Prop} {PostX : Pt → Array Value → Addr → Pt → Prop} (hK : vx_Back l R p e below s args y 3 W9 Pre Post PostX)
    {g : JFrame} (hg : g.method = m) (hsize : g.locals.size = c.maxLocals) {argsL rest : List Value} (hlen : ∀ sig, parseMethodDescriptor y.desc = some sig → argsL.length = sig.parameters.length)
    (hstack : g.stack = argsL.reverse ++ rest) (hW : 2 * g.monitorRoom + (rest.map fun v => v.category).sum ≤ W9) (hdg : decode c.code g.pc = .ok (.invokestatic index, 3))
    (hpre : ∀ vm₁, s.WarmedH vm₁ → Pre ⟨T.setVm vm₁, locs, cells, slots⟩ argsL.toArray) :
    (∃ (v : Option Value) (vm₁ : Vm) (B : Pt), s.WarmedH vm₁ ∧ Stand p l e R s m args below meth c B.U B.locs B.cells B.slots ∧ Post ⟨T.setVm vm₁, locs, cells, slots⟩ argsL.toArray v B ∧
      ∀ target, Steps p.tables e below (B.U.setTop { g with pc := g.pc + 3, stack := v.toList ++ rest }) target → Steps p.tables e below (T.setTop g) target) ∨
    (∃ (q : Addr) (vm₁ : Vm) (B : Pt), s.WarmedH vm₁ ∧ Stand p l e R s m args below meth c B.U B.locs B.cells B.slots ∧ PostX ⟨T.setVm vm₁, locs, cells, slots⟩ argsL.toArray q B ∧
      Steps p.tables e below (T.setTop g) ((B.U.setTop { g with stack := rest }).pushFrame (.throwing q))) := by
  obtain ⟨mk, hnamed⟩ := Cond.code_named hcode
  obtain ⟨methM, cM, hmethM, -, -, -, -, -, -, hsigM⟩ := Cond.code_spec hnamed hcode
  have hstatic : methM.isStatic = true := Cond.static_spec hnamed hmethM hstat
  obtain ⟨kP, hkP, -⟩ := className_of_methodNamed hnamed
  have hinitP : kP.init = .initialized := Cond.initialized_spec (findClass_of_methodNamed hnamed) hkP hinit
  obtain ⟨vm₁, X₁, hstep₁⟩ := X.invokestatic hexec hown hlink hnamed hmethM hstatic hkP hinitP hy (g := g) hg (argsL := argsL) (rest := rest) (hlen _ hsigM) hstack hdg
  rcases hK m meth c ⟨T.setVm vm₁, locs, cells, slots⟩ { g with stack := rest } (.invokestatic index) mk argsL.toArray X₁ hg hsize hdg hW (X₁.named hnamed) (hpre vm₁ X₁.warmed) with ⟨v, B, X', hpost, hsteps⟩ | ⟨q, B, X', hpost, hsteps⟩
  · exact Or.inl ⟨v, vm₁, B, X₁.warmed, X', hpost, fun target h => hstep₁ _ fun acts => by rw [doInvoke_state]; exact hsteps.trans h⟩
  · exact Or.inr ⟨q, vm₁, B, X₁.warmed, X', hpost, hstep₁ _ fun acts => by rw [doInvoke_state]; exact hsteps⟩
end Calls
theorem vx_cls {s : State} {T : State} {vm₁ : Vm} {E : String} {k : ClassId} (hW : s.WarmedH vm₁) (h : (T.setVm vm₁).vm.findClass E = some k) : s.vm.findClass E = some k := by
  have h1 : vm₁.findClass E = some k := h
  rw [hW.alike.findClass] at h1
  exact h1
/-- the method's frame g, with q thrown over it -/
def vx_W (p : Program) (l : Launch) (e : Env) (R : Room) (s : State) (m : MethodId) (args : Array Value) (below : List Frame) (meth : Method) (c : Code) (H : Heap) (locs : List Loc) (cells slots : Nat) (Q : State → Prop) (g : JFrame) (q : Addr) : Prop :=
  ∀ T : State, T.heap = H → Stand p l e R s m args below meth c T locs cells slots → ∃ t, Steps p.tables e below ((T.setTop g).pushFrame (.throwing q)) t ∧ Q t
def vx_Run (p : Program) (l : Launch) (e : Env) (R : Room) (s : State) (m : MethodId) (args : Array Value) (below : List Frame) (meth : Method) (c : Code) (H : Heap) (locs : List Loc) (cells slots mc ms : Nat) (g : JFrame) (rest : List Value) (Qa : State → Outcome → State → Prop) (XC : String → State → State → Prop) (free : Addr → Prop) : Prop :=
  ∀ T : State, T.heap = H → Stand p l e R s m args below meth c T locs cells slots →
    (∃ (v : Option Value) (st₀ t T' : State) (L : List Loc), st₀.heap = H ∧ Stand p l e R s m args below meth c T' (locs ++ L) (cells + mc) (slots + ms) ∧ (∀ q ∈ L, free q.base) ∧ T'.heap = t.heap ∧ T'.vm = t.vm ∧ Qa st₀ (.returned v) t ∧
      Goes p e below T g T' { g with pc := g.pc + 3, stack := v.toList ++ rest }) ∨
    (∃ (q : Addr) (st₀ t T' : State) (L : List Loc) (E : String) (ce : Cell), st₀.heap = H ∧ Stand p l e R s m args below meth c T' (locs ++ L) (cells + mc) (slots + ms) ∧ (∀ z ∈ L, free z.base) ∧ T'.heap = t.heap ∧ T'.vm = t.vm ∧ XC E st₀ t ∧ t.heap[q]? = some ce ∧ ce.vm = .none ∧ s.vm.findClass E = some ce.cls ∧
      Steps p.tables e below (T.setTop g) ((T'.setTop { g with stack := rest }).pushFrame (.throwing q)))
def vx_X {S : Type} (px : S → Prop) (B : String → S → State → Prop) (A : Nat → Prop) : String → State → State → Prop := fun E st t => ∃ u : S, px u ∧ B E u t ∧ va_F A st t
section Runs
variable {p : Program} {l : Launch} {e : Env} {R : Room} {s : State} {m : MethodId} {args : Array Value} {below : List Frame} {meth : Method} {c : Code} {H : Heap} {locs : List Loc} {cells slots : Nat}
variable {y : MethodName} {bytes cc : ByteArray} {maxL nL mc ms n index : Nat} {ret : Option FieldType} {ws : List Cond} {rm : Room} {Pc : Array Value → State → Prop} {Qc : Array Value → State → Outcome → State → Prop} {XC : String → State → State → Prop} {free : Addr → Prop} {Ts : List Cond} {own C : String} {b : Addr} {As rest : List Value} {g : JFrame}
theorem vx_callBack (cb : CallB R s args own index y bytes maxL ret ws rm mc ms n) (hM : vx_Met l y ws rm Pc Qc XC mc ms free) (hbl : FrameBlind Pc) : vx_Back l R p e below s args y 3 8 (PreOf R mc ms Pc) (PostOf Qc mc ms free) (vx_Post XC mc ms free) := by
  obtain ⟨hrc, hrs, hfr, hlo, hws, hcw, -, hini, -⟩ := cb
  exact vx_back (bytes := bytes) (maxL := maxL) (ret := ret) hM hbl hrc hrs hfr hlo hws hcw (fun a' U hW => word_at hW (Or.inl (by first | rfl | simp [Cond.onTables, Cond.keeps, Cond.steady])) hini)
theorem vx_runV (S : CallFix p m c cc nL s args Ts own) (hM : vx_Met l y ws rm Pc Qc XC mc ms free) (cw : CallW R s args own C index y bytes maxL ret ws rm mc ms n) (hp : PreV s H C b Pc As)
    (hg : g.method = m) (hn : As.length = n) (hsize : g.locals.size = nL) (hstack : g.stack = As.reverse ++ .ref b :: rest) (hW : 2 * g.monitorRoom + (rest.map fun v => v.category).sum ≤ 8) (hdg : decode cc g.pc = .ok (.invokevirtual index, 3)) (hf : cells + mc ≤ R.cells ∧ slots + ms ≤ R.slots) :
    vx_Run p l e R s m args below meth c H locs cells slots mc ms g rest (Qc (Value.ref b :: As).toArray) XC free := by
  have hK : vx_Back l R p e below s args y 3 8 (PreOf R mc ms Pc) (PostOf Qc mc ms free) (vx_Post XC mc ms free) := vx_callBack cw.1 hM hp.1
  obtain ⟨⟨-, -, -, -, -, -, hcode, -, hy, hlen, hl⟩, hin, hse⟩ := cw
  obtain ⟨hx, hb, hml, ho, -⟩ := S
  obtain ⟨-, ⟨cellB, hcB, hoB, hclB⟩, hPc⟩ := hp
  intro T hT X
  rcases vx_callV X hx (C := C) (bytes := bytes) (maxL := maxL) (ret := ret) ho hl hin hse hcode hy hK (by rw [hT]; exact hcB) hoB hclB hg (hsize.trans hml.symm) (argsL := As) (rest := rest) (fun sig h => hn.trans (hlen sig h)) hstack hW (by rw [hb]; exact hdg)
    (fun vm₁ hW₁ => ⟨hf.1, hf.2, hPc (T.setVm vm₁) hT hW₁⟩) with ⟨v, vm₁, ⟨U', l2, c2, s2⟩, hW₁, X', ⟨g', mk, t, L, e1, e2, hq, h1, hL, h2, h3⟩, st⟩ | ⟨q, vm₁, ⟨U', l2, c2, s2⟩, hW₁, X', ⟨g', mk, t, L, E, ce, e1, e2, hq, hce, hcv, hcl, h1, hL, h2, h3⟩, st⟩
  · dsimp only [Pt.U, Pt.locs, Pt.cells, Pt.slots] at X' e1 e2 h1 h2 h3 st
    subst h1; subst h2; subst h3
    exact Or.inl ⟨v, (T.setVm vm₁).calling g' mk (Value.ref b :: As).toArray, t, U', L, hT, X', hL, e1, e2, hq, st⟩
  · dsimp only [Pt.U, Pt.locs, Pt.cells, Pt.slots] at X' e1 e2 h1 h2 h3 st hcl
    subst h1; subst h2; subst h3
    exact Or.inr ⟨q, (T.setVm vm₁).calling g' mk (Value.ref b :: As).toArray, t, U', L, E, ce, hT, X', hL, e1, e2, hq, hce, hcv, vx_cls hW₁ hcl, st⟩
theorem vx_runS (S : CallFix p m c cc nL s args Ts own) (hM : vx_Met l y ws rm Pc Qc XC mc ms free) (cw : CallB R s args own index y bytes maxL ret ws rm mc ms n ∧ (Cond.static y).before args s = true) (hp : PreS s H Pc As)
    (hg : g.method = m) (hn : As.length = n) (hsize : g.locals.size = nL) (hstack : g.stack = As.reverse ++ rest) (hW : 2 * g.monitorRoom + (rest.map fun v => v.category).sum ≤ 8) (hdg : decode cc g.pc = .ok (.invokestatic index, 3)) (hf : cells + mc ≤ R.cells ∧ slots + ms ≤ R.slots) :
    vx_Run p l e R s m args below meth c H locs cells slots mc ms g rest (Qc As.toArray) XC free := by
  have hK : vx_Back l R p e below s args y 3 8 (PreOf R mc ms Pc) (PostOf Qc mc ms free) (vx_Post XC mc ms free) := vx_callBack cw.1 hM hp.1
  obtain ⟨⟨-, -, -, -, -, -, hcode, hini, hy, hlen, hl⟩, hstt⟩ := cw
  obtain ⟨hx, hb, hml, ho, -⟩ := S
  intro T hT X
  rcases vx_callS X hx (bytes := bytes) (maxL := maxL) (ret := ret) ho hl hstt hini hcode hy hK hg (hsize.trans hml.symm) (argsL := As) (rest := rest) (fun sig h => hn.trans (hlen sig h)) hstack hW (by rw [hb]; exact hdg)
    (fun vm₁ hW₁ => ⟨hf.1, hf.2, hp.2 (T.setVm vm₁) hT hW₁⟩) with ⟨v, vm₁, ⟨U', l2, c2, s2⟩, hW₁, X', ⟨g', mk, t, L, e1, e2, hq, h1, hL, h2, h3⟩, st⟩ | ⟨q, vm₁, ⟨U', l2, c2, s2⟩, hW₁, X', ⟨g', mk, t, L, E, ce, e1, e2, hq, hce, hcv, hcl, h1, hL, h2, h3⟩, st⟩
  · dsimp only [Pt.U, Pt.locs, Pt.cells, Pt.slots] at X' e1 e2 h1 h2 h3 st
    subst h1; subst h2; subst h3
    exact Or.inl ⟨v, (T.setVm vm₁).calling g' mk As.toArray, t, U', L, hT, X', hL, e1, e2, hq, st⟩
  · dsimp only [Pt.U, Pt.locs, Pt.cells, Pt.slots] at X' e1 e2 h1 h2 h3 st hcl
    subst h1; subst h2; subst h3
    exact Or.inr ⟨q, (T.setVm vm₁).calling g' mk As.toArray, t, U', L, E, ce, hT, X', hL, e1, e2, hq, hce, hcv, vx_cls hW₁ hcl, st⟩
end Runs
section Rows
variable {p : Program} {l : Launch} {e : Env} {R : Room} {s : State} {m : MethodId} {args : Array Value} {below : List Frame} {meth : Method} {c : Code} {H : Heap} {locs : List Loc} {cells slots : Nat} {Q : State → Prop}
variable {mc ms : Nat} {free : Addr → Prop} {A0 A1 : Nat → Prop} {H0 : Heap} {a : Array Value} {pc : Nat} {ls : Array Slot} {st0 rest : List Value}
theorem vx_keep {st₀ t T' : State} {L : List Loc} (h0 : st₀.heap = H) (e1 : T'.heap = t.heap) (hS : va_S A0 H0 H locs) (hA : ∀ q, q < H.size → A1 q → A0 q) (hf : ∀ q, free q → A0 q) (hL : ∀ q ∈ L, free q.base) (hF : va_F A1 st₀ t) :
    H.size ≤ T'.heap.size ∧ (∀ q : Nat, q < H.size → ¬ A1 q → T'.heap[q]? = H[q]?) ∧ va_S A0 H0 T'.heap (locs ++ L) := by
  obtain ⟨hz, hk⟩ := hF
  rw [h0] at hz hk
  exact ⟨by rw [e1]; exact hz, fun q h1 h2 => by rw [e1]; exact hk q h1 h2,
    ⟨Nat.le_trans hS.1 (by rw [e1]; exact hz), fun q h1 h2 => by rw [e1, hk q (Nat.lt_of_lt_of_le h1 hS.1) (fun z => h2 (hA q (Nat.lt_of_lt_of_le h1 hS.1) z))]; exact hS.2.1 q h1 h2, fun q hq => by
      rcases List.mem_append.mp hq with h | h
      · exact hS.2.2 q h
      · exact hf _ (hL q h)⟩⟩
theorem vx_calli {S SX : Type} {post : Int32 → S → Prop} {px : SX → Prop} {B : S → State → Prop} {BX : String → SX → State → Prop} {AX : Nat → Prop} (hr : vx_Run p l e R s m args below meth c H locs cells slots mc ms (F0 m pc ls st0) rest (va_Qi post B A1 a) (vx_X px BX AX) free) (hS : va_S A0 H0 H locs) (hA : ∀ q, q < H.size → A1 q → A0 q) (hf : ∀ q, free q → A0 q) (hAX : ∀ q, q < H.size → AX q → A0 q)
    (kx : ∀ (E : String) (ce : Cell) (q9 : Addr) (u : SX) (t : State) (H1 : Heap) (locs1 : List Loc), t.heap = H1 → s.vm.Alike t.vm → px u → BX E u t → H.size ≤ H1.size → (∀ q : Nat, q < H.size → ¬ AX q → H1[q]? = H[q]?) → va_S A0 H0 H1 locs1 → H1[q9]? = some ce → ce.vm = .none → s.vm.findClass E = some ce.cls → vx_W p l e R s m args below meth c H1 locs1 (cells + mc) (slots + ms) Q (F0 m pc ls rest) q9)
    (kk : ∀ (r : Int32) (u : S) (t : State) (H1 : Heap) (locs1 : List Loc), t.heap = H1 → s.vm.Alike t.vm → post r u → B u t → H.size ≤ H1.size → (∀ q : Nat, q < H.size → ¬ A1 q → H1[q]? = H[q]?) → va_S A0 H0 H1 locs1 → W p l e R s m args below meth c H1 locs1 (cells + mc) (slots + ms) Q (F0 m (pc + 3) ls (.int r :: rest))) : W p l e R s m args below meth c H locs cells slots Q (F0 m pc ls st0) := by
  intro T hT X
  rcases hr T hT X with ⟨v, st₀, t, T', L, h0, X', hL, e1, e2, ⟨⟨r, u, hv, hp, hb⟩, hF⟩, st⟩ | ⟨q, st₀, t, T', L, E, ce, h0, X', hL, e1, e2, ⟨u, hp, hb, hF⟩, hce, hcv, hcl, st⟩
  · cases hv
    obtain ⟨k1, k2, k3⟩ := vx_keep h0 e1 hS hA hf hL hF
    obtain ⟨t2, a1, b1⟩ := kk r u t T'.heap (locs ++ L) e1.symm (by rw [← e2]; exact X'.warmed.alike) hp hb k1 k2 k3 T' rfl X'
    exact ⟨t2, st t2 a1, b1⟩
  · obtain ⟨k1, k2, k3⟩ := vx_keep h0 e1 hS hAX hf hL hF
    obtain ⟨t2, a1, b1⟩ := kx E ce q u t T'.heap (locs ++ L) e1.symm (by rw [← e2]; exact X'.warmed.alike) hp hb k1 k2 k3 (by rw [e1]; exact hce) hcv hcl T' rfl X'
    exact ⟨t2, st.trans a1, b1⟩
theorem vx_calll {S SX : Type} {post : Int64 → S → Prop} {px : SX → Prop} {B : S → State → Prop} {BX : String → SX → State → Prop} {AX : Nat → Prop} (hr : vx_Run p l e R s m args below meth c H locs cells slots mc ms (F0 m pc ls st0) rest (va_Ql post B A1 a) (vx_X px BX AX) free) (hS : va_S A0 H0 H locs) (hA : ∀ q, q < H.size → A1 q → A0 q) (hf : ∀ q, free q → A0 q) (hAX : ∀ q, q < H.size → AX q → A0 q)
    (kx : ∀ (E : String) (ce : Cell) (q9 : Addr) (u : SX) (t : State) (H1 : Heap) (locs1 : List Loc), t.heap = H1 → s.vm.Alike t.vm → px u → BX E u t → H.size ≤ H1.size → (∀ q : Nat, q < H.size → ¬ AX q → H1[q]? = H[q]?) → va_S A0 H0 H1 locs1 → H1[q9]? = some ce → ce.vm = .none → s.vm.findClass E = some ce.cls → vx_W p l e R s m args below meth c H1 locs1 (cells + mc) (slots + ms) Q (F0 m pc ls rest) q9)
    (kk : ∀ (r : Int64) (u : S) (t : State) (H1 : Heap) (locs1 : List Loc), t.heap = H1 → s.vm.Alike t.vm → post r u → B u t → H.size ≤ H1.size → (∀ q : Nat, q < H.size → ¬ A1 q → H1[q]? = H[q]?) → va_S A0 H0 H1 locs1 → W p l e R s m args below meth c H1 locs1 (cells + mc) (slots + ms) Q (F0 m (pc + 3) ls (.long r :: rest))) : W p l e R s m args below meth c H locs cells slots Q (F0 m pc ls st0) := by
  intro T hT X
  rcases hr T hT X with ⟨v, st₀, t, T', L, h0, X', hL, e1, e2, ⟨⟨r, u, hv, hp, hb⟩, hF⟩, st⟩ | ⟨q, st₀, t, T', L, E, ce, h0, X', hL, e1, e2, ⟨u, hp, hb, hF⟩, hce, hcv, hcl, st⟩
  · cases hv
    obtain ⟨k1, k2, k3⟩ := vx_keep h0 e1 hS hA hf hL hF
    obtain ⟨t2, a1, b1⟩ := kk r u t T'.heap (locs ++ L) e1.symm (by rw [← e2]; exact X'.warmed.alike) hp hb k1 k2 k3 T' rfl X'
    exact ⟨t2, st t2 a1, b1⟩
  · obtain ⟨k1, k2, k3⟩ := vx_keep h0 e1 hS hAX hf hL hF
    obtain ⟨t2, a1, b1⟩ := kx E ce q u t T'.heap (locs ++ L) e1.symm (by rw [← e2]; exact X'.warmed.alike) hp hb k1 k2 k3 (by rw [e1]; exact hce) hcv hcl T' rfl X'
    exact ⟨t2, st.trans a1, b1⟩
theorem vx_callf {S SX : Type} {post : UInt32 → S → Prop} {px : SX → Prop} {B : S → State → Prop} {BX : String → SX → State → Prop} {AX : Nat → Prop} (hr : vx_Run p l e R s m args below meth c H locs cells slots mc ms (F0 m pc ls st0) rest (va_Qf post B A1 a) (vx_X px BX AX) free) (hS : va_S A0 H0 H locs) (hA : ∀ q, q < H.size → A1 q → A0 q) (hf : ∀ q, free q → A0 q) (hAX : ∀ q, q < H.size → AX q → A0 q)
    (kx : ∀ (E : String) (ce : Cell) (q9 : Addr) (u : SX) (t : State) (H1 : Heap) (locs1 : List Loc), t.heap = H1 → s.vm.Alike t.vm → px u → BX E u t → H.size ≤ H1.size → (∀ q : Nat, q < H.size → ¬ AX q → H1[q]? = H[q]?) → va_S A0 H0 H1 locs1 → H1[q9]? = some ce → ce.vm = .none → s.vm.findClass E = some ce.cls → vx_W p l e R s m args below meth c H1 locs1 (cells + mc) (slots + ms) Q (F0 m pc ls rest) q9)
    (kk : ∀ (r : UInt32) (u : S) (t : State) (H1 : Heap) (locs1 : List Loc), t.heap = H1 → s.vm.Alike t.vm → post r u → B u t → H.size ≤ H1.size → (∀ q : Nat, q < H.size → ¬ A1 q → H1[q]? = H[q]?) → va_S A0 H0 H1 locs1 → W p l e R s m args below meth c H1 locs1 (cells + mc) (slots + ms) Q (F0 m (pc + 3) ls (.float r :: rest))) : W p l e R s m args below meth c H locs cells slots Q (F0 m pc ls st0) := by
  intro T hT X
  rcases hr T hT X with ⟨v, st₀, t, T', L, h0, X', hL, e1, e2, ⟨⟨r, u, hv, hp, hb⟩, hF⟩, st⟩ | ⟨q, st₀, t, T', L, E, ce, h0, X', hL, e1, e2, ⟨u, hp, hb, hF⟩, hce, hcv, hcl, st⟩
  · cases hv
    obtain ⟨k1, k2, k3⟩ := vx_keep h0 e1 hS hA hf hL hF
    obtain ⟨t2, a1, b1⟩ := kk r u t T'.heap (locs ++ L) e1.symm (by rw [← e2]; exact X'.warmed.alike) hp hb k1 k2 k3 T' rfl X'
    exact ⟨t2, st t2 a1, b1⟩
  · obtain ⟨k1, k2, k3⟩ := vx_keep h0 e1 hS hAX hf hL hF
    obtain ⟨t2, a1, b1⟩ := kx E ce q u t T'.heap (locs ++ L) e1.symm (by rw [← e2]; exact X'.warmed.alike) hp hb k1 k2 k3 (by rw [e1]; exact hce) hcv hcl T' rfl X'
    exact ⟨t2, st.trans a1, b1⟩
theorem vx_calld {S SX : Type} {post : UInt64 → S → Prop} {px : SX → Prop} {B : S → State → Prop} {BX : String → SX → State → Prop} {AX : Nat → Prop} (hr : vx_Run p l e R s m args below meth c H locs cells slots mc ms (F0 m pc ls st0) rest (va_Qd post B A1 a) (vx_X px BX AX) free) (hS : va_S A0 H0 H locs) (hA : ∀ q, q < H.size → A1 q → A0 q) (hf : ∀ q, free q → A0 q) (hAX : ∀ q, q < H.size → AX q → A0 q)
    (kx : ∀ (E : String) (ce : Cell) (q9 : Addr) (u : SX) (t : State) (H1 : Heap) (locs1 : List Loc), t.heap = H1 → s.vm.Alike t.vm → px u → BX E u t → H.size ≤ H1.size → (∀ q : Nat, q < H.size → ¬ AX q → H1[q]? = H[q]?) → va_S A0 H0 H1 locs1 → H1[q9]? = some ce → ce.vm = .none → s.vm.findClass E = some ce.cls → vx_W p l e R s m args below meth c H1 locs1 (cells + mc) (slots + ms) Q (F0 m pc ls rest) q9)
    (kk : ∀ (r : UInt64) (u : S) (t : State) (H1 : Heap) (locs1 : List Loc), t.heap = H1 → s.vm.Alike t.vm → post r u → B u t → H.size ≤ H1.size → (∀ q : Nat, q < H.size → ¬ A1 q → H1[q]? = H[q]?) → va_S A0 H0 H1 locs1 → W p l e R s m args below meth c H1 locs1 (cells + mc) (slots + ms) Q (F0 m (pc + 3) ls (.double r :: rest))) : W p l e R s m args below meth c H locs cells slots Q (F0 m pc ls st0) := by
  intro T hT X
  rcases hr T hT X with ⟨v, st₀, t, T', L, h0, X', hL, e1, e2, ⟨⟨r, u, hv, hp, hb⟩, hF⟩, st⟩ | ⟨q, st₀, t, T', L, E, ce, h0, X', hL, e1, e2, ⟨u, hp, hb, hF⟩, hce, hcv, hcl, st⟩
  · cases hv
    obtain ⟨k1, k2, k3⟩ := vx_keep h0 e1 hS hA hf hL hF
    obtain ⟨t2, a1, b1⟩ := kk r u t T'.heap (locs ++ L) e1.symm (by rw [← e2]; exact X'.warmed.alike) hp hb k1 k2 k3 T' rfl X'
    exact ⟨t2, st t2 a1, b1⟩
  · obtain ⟨k1, k2, k3⟩ := vx_keep h0 e1 hS hAX hf hL hF
    obtain ⟨t2, a1, b1⟩ := kx E ce q u t T'.heap (locs ++ L) e1.symm (by rw [← e2]; exact X'.warmed.alike) hp hb k1 k2 k3 (by rw [e1]; exact hce) hcv hcl T' rfl X'
    exact ⟨t2, st.trans a1, b1⟩
theorem vx_callv {S SX : Type} {post : S → Prop} {px : SX → Prop} {B : S → State → Prop} {BX : String → SX → State → Prop} {AX : Nat → Prop} (hr : vx_Run p l e R s m args below meth c H locs cells slots mc ms (F0 m pc ls st0) rest (va_Qv post B A1 a) (vx_X px BX AX) free) (hS : va_S A0 H0 H locs) (hA : ∀ q, q < H.size → A1 q → A0 q) (hf : ∀ q, free q → A0 q) (hAX : ∀ q, q < H.size → AX q → A0 q)
    (kx : ∀ (E : String) (ce : Cell) (q9 : Addr) (u : SX) (t : State) (H1 : Heap) (locs1 : List Loc), t.heap = H1 → s.vm.Alike t.vm → px u → BX E u t → H.size ≤ H1.size → (∀ q : Nat, q < H.size → ¬ AX q → H1[q]? = H[q]?) → va_S A0 H0 H1 locs1 → H1[q9]? = some ce → ce.vm = .none → s.vm.findClass E = some ce.cls → vx_W p l e R s m args below meth c H1 locs1 (cells + mc) (slots + ms) Q (F0 m pc ls rest) q9)
    (kk : ∀ (u : S) (t : State) (H1 : Heap) (locs1 : List Loc), t.heap = H1 → s.vm.Alike t.vm → post u → B u t → H.size ≤ H1.size → (∀ q : Nat, q < H.size → ¬ A1 q → H1[q]? = H[q]?) → va_S A0 H0 H1 locs1 → W p l e R s m args below meth c H1 locs1 (cells + mc) (slots + ms) Q (F0 m (pc + 3) ls (rest))) : W p l e R s m args below meth c H locs cells slots Q (F0 m pc ls st0) := by
  intro T hT X
  rcases hr T hT X with ⟨v, st₀, t, T', L, h0, X', hL, e1, e2, ⟨⟨u, hv, hp, hb⟩, hF⟩, st⟩ | ⟨q, st₀, t, T', L, E, ce, h0, X', hL, e1, e2, ⟨u, hp, hb, hF⟩, hce, hcv, hcl, st⟩
  · cases hv
    obtain ⟨k1, k2, k3⟩ := vx_keep h0 e1 hS hA hf hL hF
    obtain ⟨t2, a1, b1⟩ := kk u t T'.heap (locs ++ L) e1.symm (by rw [← e2]; exact X'.warmed.alike) hp hb k1 k2 k3 T' rfl X'
    exact ⟨t2, st t2 a1, b1⟩
  · obtain ⟨k1, k2, k3⟩ := vx_keep h0 e1 hS hAX hf hL hF
    obtain ⟨t2, a1, b1⟩ := kx E ce q u t T'.heap (locs ++ L) e1.symm (by rw [← e2]; exact X'.warmed.alike) hp hb k1 k2 k3 (by rw [e1]; exact hce) hcv hcl T' rfl X'
    exact ⟨t2, st.trans a1, b1⟩
/-- caught by the row x of this method's table; the rows ahead don't take it -/
theorem vx_catch {own name : String} {E : String} {ce : Cell} {q : Addr} (hown : s.vm.findClass own = some m.cls) (pre : List ExceptionTableEntry) (x : ExceptionTableEntry) (suf : List ExceptionTableEntry) (hsplit : c.exceptionTable.toList = pre ++ x :: suf)
    (hpass : ∀ z ∈ pre, covers z pc = false ∨ (z.catchType ≠ 0 ∧ ∃ nm : String, (Cond.classLink own z.catchType nm).before args s = true ∧ va_Nc E nm s)) (hx : covers x pc = true) (h0 : x.catchType ≠ 0)
    (hlink : (Cond.classLink own x.catchType name).before args s = true) (hcast : (Cond.castable E name).before args s = true) (hcell : H[q]? = some ce) (hv : ce.vm = .none) (hcl : s.vm.findClass E = some ce.cls)
    (kk : W p l e R s m args below meth c H locs cells slots Q (F0 m x.handlerPc ls [.ref q])) : vx_W p l e R s m args below meth c H locs cells slots Q (F0 m pc ls rest) q := by
  intro T hT X
  have hpl : e.platform.magicAccessors = ({} : Platform).magicAccessors := by rw [X.admits.platform]
  obtain ⟨c3, c4, hc3, hc4, hasg⟩ := Cond.castable_spec hcast
  cases Option.some.inj (hc3.symm.trans hcl)
  obtain ⟨c5, hc5, hcl5⟩ := Cond.classLink_spec hown hlink e.platform hpl
  cases Option.some.inj (hc4.symm.trans hc5)
  obtain ⟨vm', X', st⟩ := X.thenCaughtThrough q (g := F0 m pc ls rest) rfl (Steps.refl _) (by rw [hT]; exact hcell) (by rw [hv]; rfl) (by obtain ⟨k9, h9, -⟩ := Vm.findClass_spec hcl; exact ⟨k9, h9⟩) pre x suf hsplit
    (fun z hz => by
      rcases hpass z hz with h | ⟨hz0, nm, hl1, hn1⟩
      · exact Or.inl h
      · obtain ⟨c6, hc6, hcl6⟩ := Cond.classLink_spec hown hl1 e.platform hpl
        obtain ⟨a8, b8, h1, h2, h3⟩ := hn1
        cases Option.some.inj (h1.symm.trans hcl)
        cases Option.some.inj (h2.symm.trans hc6)
        exact Or.inr ⟨hz0, _, hcl6, h3⟩) hx (Or.inr ⟨h0, c4, hcl5, hasg⟩)
  obtain ⟨t, a1, b1⟩ := kk (T.setVm vm') hT X'
  exact ⟨t, st.trans a1, b1⟩
end Rows
section Ends
variable {p : Program} {l : Launch} {e : Env} {R : Room} {s : State} {m : MethodId} {args : Array Value} {below : List Frame} {meth : Method} {c : Code} {H : Heap} {locs : List Loc} {cells slots : Nat} {Q : State → Prop}
variable {mc ms : Nat} {free : Addr → Prop} {A0 A1 : Nat → Prop} {H0 : Heap} {a : Array Value} {ls : Array Slot} {st0 rest : List Value}
variable {Qc : Array Value → State → Outcome → State → Prop} {XC : String → State → State → Prop}
/-- what a body that may throw owes at its end -/
def vx_MQ (below : List Frame) (Qc : Array Value → State → Outcome → State → Prop) (XC : String → State → State → Prop) (a : Array Value) (s : State) (mc ms : Nat) (free : Addr → Prop) : State → Prop := fun t =>
  ∃ o, t.status = .running ∧ Ended t below o ∧ vx_Q Qc XC mc ms free a s o t
theorem vx_ret {g : JFrame} {mc ms : Nat} (k : W p l e R s m args below meth c H locs cells slots (MQ below Qc args s mc ms free) g) : W p l e R s m args below meth c H locs cells slots (vx_MQ below Qc XC args s mc ms free) g := by
  intro T hT X
  obtain ⟨t, a1, o, b1, b2, b3, b4⟩ := k T hT X
  exact ⟨t, a1, o, b1, b2, Or.inl ⟨b3, b4⟩⟩
/-- not caught here: it goes on to the caller -/
theorem vx_widen {g : JFrame} {q : Addr} {k n : Nat} (h1 : cells ≤ k) (h2 : slots ≤ n) (kk : vx_W p l e R s m args below meth c H locs k n Q g q) : vx_W p l e R s m args below meth c H locs cells slots Q g q := fun T hT X => kk T hT (stand_widen X h1 h2)
theorem vx_out {pc : Nat} {E : String} {ce : Cell} {q : Addr} {mc ms : Nat} (hout : ∀ x ∈ c.exceptionTable.toList, covers x pc = false) (hlocks : meth.locks = false) (hcell : H[q]? = some ce) (hv : ce.vm = .none) (hcl : s.vm.findClass E = some ce.cls)
    (hx : ∀ t : State, t.heap = H → s.vm.Alike t.vm → XC E s t) (hf : ∀ z ∈ locs, free z.base) (hc : cells ≤ mc) (hs : slots ≤ ms) :
    vx_W p l e R s m args below meth c H locs cells slots (vx_MQ below Qc XC args s mc ms free) (F0 m pc ls rest) q := by
  intro T hT X
  obtain ⟨st1, hrun, hend, hW, hsm⟩ := X.leaveThrown q (g := F0 m pc ls rest) rfl rfl rfl hout hlocks
  have hcell9 : (T.setFrames (.throwing q :: below)).heap[q]? = some ce := by
    show T.heap[q]? = some ce
    rw [hT]; exact hcell
  exact ⟨_, st1, .threw q, hrun, hend, Or.inr ⟨q, rfl, E, ce, locs, hx _ hT hW.alike, hcell9, hv, hcl, hW, hsm.mono hc hs, hf⟩⟩
theorem vx_frame {U : State} {k n : Nat} (h : s.sameButNew ({ U with vm := s.vm } : State) locs k n) : s.heap.size ≤ U.heap.size ∧ ∀ q : Nat, q < s.heap.size → (∀ z ∈ locs, z.base ≠ q) → U.heap[q]? = s.heap[q]? := by
  obtain ⟨-, h2, -, -, -, h6⟩ := h
  refine ⟨h2, fun q hq hz => ?_⟩
  obtain ⟨c9, e1, e2, e3, e4⟩ := h6 q _ (Array.getElem?_eq_getElem hq)
  have hs : c9.slots = (s.heap[q]).slots := Array.ext_getElem? fun i => e4 i fun hm => hz _ hm rfl
  have h9 : c9 = s.heap[q] := by
    rw [hs] at e2
    exact e2
  have e5 : U.heap[q]? = some c9 := e1
  rw [e5, h9, Array.getElem?_eq_getElem hq]
/-- the words of a throw but the four that speak of the heap -/
def vx_no (w : Cond) : Bool := decide (w ≠ .isRef (.static Bundle.tN "UNASSIGNED_STACK" Bundle.steD)) && decide (w ≠ .isRef (.static Bundle.tN "SUPPRESSED_SENTINEL" Bundle.listD)) && decide (w ≠ .laysStatic Bundle.tN "UNASSIGNED_STACK" Bundle.steD) && decide (w ≠ .laysStatic Bundle.tN "SUPPRESSED_SENTINEL" Bundle.listD)
def vx_at0 (own : String) (ic : Nat) (X : String) (names : List String) : List Cond := (Bundle.ownAtoms0 own ic X names).filter vx_no
def vx_atS (own : String) (ic : Nat) (X : String) (names : List String) : List Cond := (Bundle.ownAtoms own ic X names).filter vx_no
/-- a word that the tables alone decide, or a good one -/
def vx_ot (w : Cond) : Bool := w.onTables || goodWord w
theorem vx_ot_at {args a' : Array Value} {s U : State} {w : Cond} (hW : s.WarmedH U.vm) (hvm : s.vm = U.vm) (hg : vx_ot w = true) (h : w.before args s = true) : w.before a' U = true := by
  simp only [vx_ot, Bool.or_eq_true] at hg
  rcases hg with hg | hg
  · exact va_tabs hg hvm h
  · exact word_at hW (good_of_word hg) h
/-- a list's words: the good ones out of the method's own list, the others by premises of their own -/
theorem vx_hat {args : Array Value} {s : State} {L B : List Cond} (h1 : ∀ w ∈ L.filter goodWord, w.before args s = true) (h2 : ∀ w ∈ L.filter (fun w => !goodWord w), w ∈ B) (h3 : ∀ w ∈ B, w.before args s = true) : ∀ w ∈ L, w.before args s = true := by
  intro w hw
  by_cases g : goodWord w = true
  · exact h1 w (List.mem_filter.mpr ⟨hw, g⟩)
  · refine h3 w (h2 w (List.mem_filter.mpr ⟨hw, ?_⟩))
    show (!goodWord w) = true
    cases hgw : goodWord w
    · rfl
    · exact absurd hgw g
theorem vx_c {args : Array Value} {s : State} {w : Cond} {B : List Cond} (h : w.before args s = true) (t : ∀ w ∈ B, w.before args s = true) : ∀ w' ∈ w :: B, w'.before args s = true := fun w' h' => (List.mem_cons.mp h').elim (fun e => by rw [e]; exact h) (t w')
theorem vx_n {args : Array Value} {s : State} : ∀ w ∈ ([] : List Cond), w.before args s = true := fun _ h => nomatch h
theorem vx_own {args : Array Value} {s : State} {L : List Cond} (h1 : ∀ w ∈ L.filter vx_no, w.before args s = true)
    (hU : (Cond.isRef (.static Bundle.tN "UNASSIGNED_STACK" Bundle.steD)).before args s = true) (hN : (Cond.isRef (.static Bundle.tN "SUPPRESSED_SENTINEL" Bundle.listD)).before args s = true)
    (lU : (Cond.laysStatic Bundle.tN "UNASSIGNED_STACK" Bundle.steD).before args s = true) (lN : (Cond.laysStatic Bundle.tN "SUPPRESSED_SENTINEL" Bundle.listD).before args s = true) : ∀ w ∈ L, w.before args s = true := by
  intro w hw
  by_cases e1 : w = .isRef (.static Bundle.tN "UNASSIGNED_STACK" Bundle.steD)
  · rw [e1]; exact hU
  · by_cases e2 : w = .isRef (.static Bundle.tN "SUPPRESSED_SENTINEL" Bundle.listD)
    · rw [e2]; exact hN
    · by_cases e3 : w = .laysStatic Bundle.tN "UNASSIGNED_STACK" Bundle.steD
      · rw [e3]; exact lU
      · by_cases e4 : w = .laysStatic Bundle.tN "SUPPRESSED_SENTINEL" Bundle.listD
        · rw [e4]; exact lN
        · exact h1 w (List.mem_filter.mpr ⟨hw, by unfold vx_no; rw [decide_eq_true e1, decide_eq_true e2, decide_eq_true e3, decide_eq_true e4]; rfl⟩)
/-- where a static field lies, its class's statics cell in H -/
def vx_L (C n d : String) (A : Nat → Prop) (U : State) (H : Heap) : Prop := ∃ (c : ClassId) (k : Class) (i : Nat) (f : Field) (a : Nat) (cell : Cell), U.vm.findClass C = some c ∧ U.fieldFound? C n d = some (c, k, i, f) ∧ f.isStatic = true ∧ k.statics = some a ∧ H[a]? = some cell ∧ cell.vm.isStatics = true ∧ cell.cls = c ∧ f.slot < cell.slots.size ∧ k.staticTypes[f.slot]? = some f.type ∧ ¬ A a
theorem vx_L.moved {C n d : String} {A : Nat → Prop} {u U : State} {H : Heap} (hvm : u.vm.Alike U.vm) (h : vx_L C n d A u H) : vx_L C n d A U H := by
  obtain ⟨c, k, i, f, a, cell, h1, h2, h3, h4, h5, h6, h7, h8, h9, h10⟩ := h
  obtain ⟨k', hi', he⟩ := State.fieldFound?_setVm hvm h2
  exact ⟨c, k', i, f, a, cell, by rw [hvm.findClass]; exact h1, hi', h3, by rw [he]; exact h4, h5, h6, h7, h8, by rw [he]; exact h9, h10⟩
theorem vx_L.kept {C n d : String} {A : Nat → Prop} {U : State} {H H1 : Heap} (h : vx_L C n d A U H) (hq : ∀ a : Nat, a < H.size → ¬ A a → H1[a]? = H[a]?) : vx_L C n d A U H1 := by
  obtain ⟨c, k, i, f, a, cell, h1, h2, h3, h4, h5, h6, h7, h8, h9, h10⟩ := h
  exact ⟨c, k, i, f, a, cell, h1, h2, h3, h4, by rw [hq a (Array.getElem?_eq_some_iff.mp h5).1 h10]; exact h5, h6, h7, h8, h9, h10⟩
theorem vx_L.narrow {C n d : String} {A B : Nat → Prop} {U : State} {H : Heap} (h : vx_L C n d A U H) (hAB : ∀ q, B q → A q) : vx_L C n d B U H := by
  obtain ⟨c, k, i, f, a, cell, h1, h2, h3, h4, h5, h6, h7, h8, h9, h10⟩ := h
  exact ⟨c, k, i, f, a, cell, h1, h2, h3, h4, h5, h6, h7, h8, h9, fun z => h10 (hAB _ z)⟩
theorem vx_L.word {C n d : String} {A : Nat → Prop} {s : State} {args : Array Value} (h : vx_L C n d A s s.heap) : (Cond.laysStatic C n d).before args s = true := by
  obtain ⟨c, k, i, f, a, cell, h1, h2, h3, h4, h5, h6, h7, h8, h9, -⟩ := h
  show (Cond.laysStatic C n d).holds args s none s [] = true
  exact Cond.laysStatic_of h1 h2 h3 h4 h5 h6 h7 h8 h9
/-- .. and what it holds: null or some reference -/
def vx_Zq (C n d : String) (A : Nat → Prop) (U : State) (H : Heap) : Prop := va_Zq C n d A U H ∧ vx_L C n d A U H
theorem vx_Zq.moved {C n d : String} {A : Nat → Prop} {u U : State} {H : Heap} (hvm : u.vm.Alike U.vm) (h : vx_Zq C n d A u H) : vx_Zq C n d A U H := ⟨va_Zq.moved hvm h.1, vx_L.moved hvm h.2⟩
theorem vx_Zq.kept {C n d : String} {A : Nat → Prop} {U : State} {H H1 : Heap} (h : vx_Zq C n d A U H) (hq : ∀ a : Nat, a < H.size → ¬ A a → H1[a]? = H[a]?) : vx_Zq C n d A U H1 := ⟨va_Zq.kept h.1 hq, vx_L.kept h.2 hq⟩
theorem vx_Zq.narrow {C n d : String} {A B : Nat → Prop} {U : State} {H : Heap} (h : vx_Zq C n d A U H) (hAB : ∀ q, B q → A q) : vx_Zq C n d B U H := ⟨va_Zq.narrow h.1 hAB, vx_L.narrow h.2 hAB⟩
theorem vx_Zqof {args : Array Value} {s : State} {C n d : String} {A : Nat → Prop} (hl : (Cond.laysStatic C n d).before args s = true) (hini : (Cond.initialized C).before args s = true) (h : (Cond.isRef (.static C n d)).before args s = true) (hA : ∀ a : Nat, a < s.heap.size → ¬ A a) : vx_Zq C n d A s s.heap := by
  refine ⟨va_Zqof hl hini h hA, ?_⟩
  obtain ⟨c, k, i, f, a, cell, h1, h2, h3, h4, h5, h6, h7, h8, h9⟩ := Cond.laysStatic_spec hl
  exact ⟨c, k, i, f, a, cell, h1, h2, h3, h4, h5, h6, h7, h8, h9, hA a (Array.getElem?_eq_some_iff.mp h5).1⟩
theorem vx_isRef {C n d : String} {v : Value} {A : Nat → Prop} {s : State} {args : Array Value} (h : va_Z C n d v A s s.heap) (hv : v.isRef = true) : (Cond.isRef (.static C n d)).before args s = true := by
  obtain ⟨cf, kf, fi, f, a, cell, h1, h2, h3, h4, h5, h6, h7, -⟩ := h
  have he : (Term.static C n d).eval args s none [] s = some v := by
    simp [Term.eval, State.fieldNamed?, h1, h2, h4, h5, h6, h7]
  simp only [Cond.before, Cond.holds, Cond.value, he]
  cases v <;> simp_all [Value.isRef]
theorem vx_isRefq {C n d : String} {A : Nat → Prop} {s : State} {args : Array Value} (h : va_Zq C n d A s s.heap) : (Cond.isRef (.static C n d)).before args s = true := by
  rcases h with h | ⟨t, h⟩
  · exact vx_isRef h rfl
  · exact vx_isRef h rfl
/-- the same frame, seen from here: as if the method were called anew in this heap -/
theorem vx_rebase {T : State} (X : Stand p l e R s m args below meth c T locs cells slots) {R' : Room} (hf : R'.frames ≤ R.frames) (hl : R'.locals ≤ R.locals) (hc : cells + R'.cells ≤ R.cells) (hs : slots + R'.slots ≤ R.slots) :
    Stand p l e R' ((T.setVm s.vm).setFrames (.invoking m args :: below)) m args below meth c T [] 0 0 := by
  have htop : (T.setVm s.vm).topJava?.isSome := X.here.top
  have hF : ((T.setVm s.vm).setFrames (.invoking m args :: below)).frames = .invoking m args :: below := State.frames_setFrames _ (State.cur_lt_of_top htop)
  obtain ⟨g₀, hg0⟩ := Option.isSome_iff_exists.mp htop
  obtain ⟨r, hr⟩ := State.topJava?_eq_some.mp hg0
  have hl9 : e.platform.stackLimits (T.setVm s.vm).me = e.platform.stackLimits s.me := X.limits
  have hb9 : (T.setVm s.vm).me.stackBytes = s.me.stackBytes := X.bytes
  refine ⟨X.admits, X.cas, X.clock, hF, ?_, X.hears, X.method, X.code, X.here, X.tail, X.warmed, ?_, ?_, ?_⟩
  · have h := X.room
    have hU : ((T.setVm s.vm).setFrames (.invoking m args :: below)).localsInUse = s.localsInUse := by
      rw [State.localsInUse_invoking hF (meth := meth) (c := c) X.method X.code, State.localsInUse_invoking X.frames X.method X.code]
    simp only [State.hasRoom, Bool.and_eq_true, decide_eq_true_eq] at h ⊢
    obtain ⟨⟨⟨⟨h1, h2, h3, h4, h5, h6⟩, h7⟩, h8⟩, h9⟩ := h
    rw [X.frames, List.length_cons] at h2 h3
    have q1 := X.heapSize
    have q2 := X.used
    simp only [hF, hU, List.length_cons, State.stackLimits_setFrames, State.stackBytes_setFrames, hl9, hb9]
    refine ⟨⟨⟨⟨by omega, by omega, by omega, by omega, by omega, h6⟩, ?_⟩, ?_⟩, X.book⟩
    · show T.heap.size + R'.cells ≤ e.platform.maxCells
      omega
    · show T.slotsUsed + R'.slots ≤ e.platform.maxSlots
      omega
  · rw [State.stackLimits_setFrames]; rfl
  · rw [State.stackBytes_setFrames]; rfl
  · refine ⟨?_, Nat.le_refl _, Nat.le_refl _, ?_, ?_, fun a c9 h9 => ⟨c9, h9, rfl, rfl, fun _ _ => rfl⟩⟩
    · obtain ⟨t, ht, -⟩ := State.frames_cons hr
      show T.setVm s.vm = { ((T.setVm s.vm).setFrames (.invoking m args :: below)).setFrames (T.setVm s.vm).frames with heap := T.heap, slotsUsed := T.slotsUsed }
      rw [State.setFrames_setFrames, State.setFrames_self ht]
      rfl
    · show T.slotsUsed = T.slotsUsed + ((T.heap.toList.drop T.heap.size).map (·.slots.size)).sum
      rw [List.drop_eq_nil_of_le (Nat.le_of_eq Array.length_toList)]
      rfl
    · show ((T.heap.toList.drop T.heap.size).map (·.slots.size)).sum ≤ 0
      rw [List.drop_eq_nil_of_le (Nat.le_of_eq Array.length_toList)]
      exact Nat.le_refl _
/-- 'throw new E()': new; dup; invokespecial; athrow -/
theorem vx_throw0 {cc : ByteArray} {pc : Nat} (hexec : p.tables.exec = Jvm.exec) (hb : c.code = cc) (hl : l.stackTraces = false) {own cls : String} {names : List String} {ik ic mc ms : Nat} {A : Nat → Prop}
    (hown : s.vm.findClass own = some m.cls) (hcls : Bundle.fit cls = true) (hnames : ∀ n ∈ names, Bundle.fit n = true)
    (hk : (Cond.classLink own ik cls).before args s = true) (hini : (Cond.initialized cls).before args s = true) (hat : ∀ w ∈ vx_at0 own ic cls names, w.before args s = true)
    (hgood : ∀ w ∈ Cond.classLink own ik cls :: Cond.initialized cls :: vx_at0 own ic cls names, vx_ot w = true)
    (hU : vx_Zq Bundle.tN "UNASSIGNED_STACK" Bundle.steD A s s.heap) (hN : vx_Zq Bundle.tN "SUPPRESSED_SENTINEL" Bundle.listD A s s.heap) (hS : va_S A s.heap H locs) (hsize : ls.size = c.maxLocals)
    (d0 : decode cc pc = .ok (.new ik, 3)) (d3 : decode cc (pc + 3) = .ok (.dup, 1)) (d4 : decode cc (pc + 4) = .ok (.invokespecial ic, 3)) (d7 : decode cc (pc + 7) = .ok (.athrow, 1))
    (hout : ∀ x ∈ c.exceptionTable.toList, covers x (pc + 7) = false)
    (hRframes : names.length + 3 < R.frames) (hRlocals : (rest.map fun v => v.category).sum + (13 * (names.length + 1) + 42) ≤ R.locals) (hRcells : cells + 1 ≤ R.cells) (hRslots : slots + 6 ≤ R.slots) (hlocks : meth.locks = false)
    (hx : ∀ t : State, s.vm.Alike t.vm → H.size ≤ t.heap.size → (∀ q : Nat, q < H.size → t.heap[q]? = H[q]?) → XC cls s t)
    (hf : ∀ z ∈ locs, free z.base) (hc : cells + 1 ≤ mc) (hs : slots + 6 ≤ ms) :
    W p l e R s m args below meth c H locs cells slots (vx_MQ below Qc XC args s mc ms free) (F0 m pc ls rest) := by
  intro T hT X
  have htr : e.platform.stackTraces = false := (show e.platform.stackTraces = l.stackTraces by rw [X.admits.platform]).trans hl
  have Y := vx_rebase X (R' := { frames := R.frames, locals := R.locals, cells := 1, slots := 6 }) (Nat.le_refl _) (Nat.le_refl _) hRcells hRslots
  obtain ⟨s', hA⟩ : ∃ z, z = (T.setVm s.vm).setFrames (.invoking m args :: below) := ⟨_, rfl⟩
  rw [← hA] at Y
  have hvm : s'.vm = s.vm := by rw [hA]; rfl
  have hhp : s'.heap = H := by rw [hA]; exact hT
  have hW0 : s.WarmedH s'.vm := by rw [hvm]; exact State.WarmedH.refl s
  have hat' : ∀ w ∈ vx_at0 own ic cls names, w.before args s' = true := fun w hw => vx_ot_at hW0 hvm.symm (hgood w (List.mem_cons_of_mem _ (List.mem_cons_of_mem _ hw))) (hat w hw)
  have hk' : (Cond.classLink own ik cls).before args s' = true := vx_ot_at hW0 hvm.symm (hgood _ List.mem_cons_self) hk
  have hini' : (Cond.initialized cls).before args s' = true := vx_ot_at hW0 hvm.symm (hgood _ (List.mem_cons_of_mem _ List.mem_cons_self)) hini
  have hU' : vx_Zq Bundle.tN "UNASSIGNED_STACK" Bundle.steD A s' s'.heap := by rw [hhp]; exact vx_Zq.moved hW0.alike (hU.kept hS.2.1)
  have hN' : vx_Zq Bundle.tN "SUPPRESSED_SENTINEL" Bundle.listD A s' s'.heap := by rw [hhp]; exact vx_Zq.moved hW0.alike (hN.kept hS.2.1)
  have h : ∀ w ∈ Bundle.ownAtoms0 own ic cls names, w.before args s' = true := vx_own hat' (vx_isRefq hU'.1) (vx_isRefq hN'.1) hU'.2.word hN'.2.word
  have hown' : s'.vm.findClass own = some m.cls := by rw [hvm]; exact hown
  have hins : (Cond.instantiable cls 6).before args s' = true := h _ (by simp [Bundle.ownAtoms0])
  obtain ⟨vm₁, cX, kX, hfX, hkX, -, -, X₁, st1⟩ := Y.newCold hexec (own := own) (C := cls) (index := ik) (n := 6) hown' hk' hins hini'
    (g := F0 m pc ls rest) rfl (by rw [hb]; exact d0) (Nat.le_refl _) (Nat.le_refl _)
  generalize hT1 : (T.setVm vm₁).pushCell { cls := cX, slots := kX.instanceTypes.map defaultValue, vm := .none } = T1 at X₁ st1
  have hcat : (Value.ref T.heap.size).category = 1 := rfl
  have hcellA : T1.heap[T.heap.size]? = some (freshCell cX kX) := by rw [← hT1]; exact State.heap_pushCell_size _ _
  have d3' : decode c.code (pc + 3) = .ok (.dup, 1) := by rw [hb]; exact d3
  obtain ⟨U, hsteps, hrun, hend, hW, hsame, ce, hce, hO⟩ := X₁.ctorThrow0 hexec htr (own := own) (cls := cls) (names := names) (ic := ic) hown' hcls hnames h (fun x hx => nomatch hx) hfX hkX hcellA (by rw [hhp, hT]; exact Nat.le_refl _)
    (g := { method := m, pc := pc + 4, locals := ls, stack := .ref T.heap.size :: .ref T.heap.size :: rest, locked := none }) rfl hsize rfl rfl (rest := rest) rfl
    (by rw [hb]; exact d4) (by rw [hb]; exact d7) hout hRframes (by simp only [List.map_cons, List.sum_cons, hcat]; omega) hlocks
  obtain ⟨f1, f2⟩ := vx_frame hsame
  rw [hhp] at f1 f2
  have hWs : s.WarmedH U.vm := State.WarmedH.trans hW0 hW
  have hcl : s.vm.findClass cls = some ce.cls := by
    have h9 := hO.cls
    rw [hvm] at h9
    exact h9
  have hall : s.sameButNew ({ U with vm := s.vm } : State) locs mc ms := by
    subst hA
    obtain ⟨e1, e2⟩ := hsame
    rw [State.setFrames_setFrames] at e1
    have h2 : (T.setVm s.vm).sameButNew ({ U with vm := s.vm } : State) [] (0 + 1) (0 + 6) := ⟨e1, e2⟩
    have h3 := X.same.trans h2
    rw [List.append_nil] at h3
    exact h3.mono hc hs
  refine ⟨U, ?_, .threw T.heap.size, hrun, hend, Or.inr ⟨T.heap.size, rfl, cls, ce, locs, hx U hWs.alike f1 (fun q hq => f2 q hq (fun z hz => nomatch hz)), hce, hO.vm, hcl, hWs, hall, hf⟩⟩
  refine st1 _ ?_
  show Steps p.tables e below (T1.setTop { method := m, pc := pc + 3, locals := ls, stack := .ref T.heap.size :: rest, locked := none }) _
  jvm_step X₁.here [X₁.here.top, hexec, d3', Value.category]
  exact hsteps
/-- 'throw new E("text")': new; dup; ldc; invokespecial; athrow -/
theorem vx_throwS {cc : ByteArray} {pc : Nat} (hexec : p.tables.exec = Jvm.exec) (hb : c.code = cc) (hl : l.stackTraces = false) {own cls text : String} {names : List String} {ik is ic mc ms sa : Nat} {A : Nat → Prop}
    (hown : s.vm.findClass own = some m.cls) (hcls : Bundle.fit cls = true) (hnames : ∀ n ∈ names, Bundle.fit n = true)
    (hk : (Cond.classLink own ik cls).before args s = true) (hini : (Cond.initialized cls).before args s = true) (hstr : vk_R own is text sa s) (hat : ∀ w ∈ vx_atS own ic cls names, w.before args s = true)
    (hgood : ∀ w ∈ Cond.classLink own ik cls :: Cond.initialized cls :: vx_atS own ic cls names, vx_ot w = true)
    (hU : vx_Zq Bundle.tN "UNASSIGNED_STACK" Bundle.steD A s s.heap) (hN : vx_Zq Bundle.tN "SUPPRESSED_SENTINEL" Bundle.listD A s s.heap) (hS : va_S A s.heap H locs) (hsize : ls.size = c.maxLocals)
    (d0 : decode cc pc = .ok (.new ik, 3)) (d3 : decode cc (pc + 3) = .ok (.dup, 1)) (d4 : decode cc (pc + 4) = .ok (.ldc is, 2)) (d6 : decode cc (pc + 6) = .ok (.invokespecial ic, 3)) (d9 : decode cc (pc + 9) = .ok (.athrow, 1))
    (hout : ∀ x ∈ c.exceptionTable.toList, covers x (pc + 9) = false)
    (hRframes : names.length + 3 < R.frames) (hRlocals : (rest.map fun v => v.category).sum + (13 * (names.length + 1) + 43) ≤ R.locals) (hRcells : cells + 1 ≤ R.cells) (hRslots : slots + 6 ≤ R.slots) (hlocks : meth.locks = false)
    (hx : ∀ t : State, s.vm.Alike t.vm → H.size ≤ t.heap.size → (∀ q : Nat, q < H.size → t.heap[q]? = H[q]?) → XC cls s t)
    (hf : ∀ z ∈ locs, free z.base) (hc : cells + 1 ≤ mc) (hs : slots + 6 ≤ ms) :
    W p l e R s m args below meth c H locs cells slots (vx_MQ below Qc XC args s mc ms free) (F0 m pc ls rest) := by
  intro T hT X
  have htr : e.platform.stackTraces = false := (show e.platform.stackTraces = l.stackTraces by rw [X.admits.platform]).trans hl
  have Y := vx_rebase X (R' := { frames := R.frames, locals := R.locals, cells := 1, slots := 6 }) (Nat.le_refl _) (Nat.le_refl _) hRcells hRslots
  obtain ⟨s', hA⟩ : ∃ z, z = (T.setVm s.vm).setFrames (.invoking m args :: below) := ⟨_, rfl⟩
  rw [← hA] at Y
  have hvm : s'.vm = s.vm := by rw [hA]; rfl
  have hhp : s'.heap = H := by rw [hA]; exact hT
  have hW0 : s.WarmedH s'.vm := by rw [hvm]; exact State.WarmedH.refl s
  have hat' : ∀ w ∈ vx_atS own ic cls names, w.before args s' = true := fun w hw => vx_ot_at hW0 hvm.symm (hgood w (List.mem_cons_of_mem _ (List.mem_cons_of_mem _ hw))) (hat w hw)
  have hk' : (Cond.classLink own ik cls).before args s' = true := vx_ot_at hW0 hvm.symm (hgood _ List.mem_cons_self) hk
  have hini' : (Cond.initialized cls).before args s' = true := vx_ot_at hW0 hvm.symm (hgood _ (List.mem_cons_of_mem _ List.mem_cons_self)) hini
  have hU' : vx_Zq Bundle.tN "UNASSIGNED_STACK" Bundle.steD A s' s'.heap := by rw [hhp]; exact vx_Zq.moved hW0.alike (hU.kept hS.2.1)
  have hN' : vx_Zq Bundle.tN "SUPPRESSED_SENTINEL" Bundle.listD A s' s'.heap := by rw [hhp]; exact vx_Zq.moved hW0.alike (hN.kept hS.2.1)
  have h : ∀ w ∈ Bundle.ownAtoms own ic cls names, w.before args s' = true := vx_own hat' (vx_isRefq hU'.1) (vx_isRefq hN'.1) hU'.2.word hN'.2.word
  have hown' : s'.vm.findClass own = some m.cls := by rw [hvm]; exact hown
  have hins : (Cond.instantiable cls 6).before args s' = true := h _ (by simp [Bundle.ownAtoms])
  obtain ⟨vm₁, cX, kX, hfX, hkX, -, -, X₁, st1⟩ := Y.newCold hexec (own := own) (C := cls) (index := ik) (n := 6) hown' hk' hins hini'
    (g := F0 m pc ls rest) rfl (by rw [hb]; exact d0) (Nat.le_refl _) (Nat.le_refl _)
  generalize hT1 : (T.setVm vm₁).pushCell { cls := cX, slots := kX.instanceTypes.map defaultValue, vm := .none } = T1 at X₁ st1
  have hcat : (Value.ref T.heap.size).category = 1 := rfl
  have hcellA : T1.heap[T.heap.size]? = some (freshCell cX kX) := by rw [← hT1]; exact State.heap_pushCell_size _ _
  have d3' : decode c.code (pc + 3) = .ok (.dup, 1) := by rw [hb]; exact d3
  have d4' : decode c.code (pc + 4) = .ok (.ldc is, 2) := by rw [hb]; exact d4
  have hstr' : vk_R own is text sa s' := vk_R.warm hW0 hstr
  obtain ⟨U, hsteps, hrun, hend, hW, hsame, ce, hce, hO⟩ := X₁.ctorThrowS hexec htr (own := own) (cls := cls) (names := names) (ic := ic) hown' hcls hnames h (fun x hx => nomatch hx) hfX hkX hcellA (by rw [hhp, hT]; exact Nat.le_refl _) (msg := .ref sa) rfl
    (g := { method := m, pc := pc + 6, locals := ls, stack := .ref sa :: .ref T.heap.size :: .ref T.heap.size :: rest, locked := none }) rfl hsize rfl rfl (rest := rest) rfl
    (by rw [hb]; exact d6) (by rw [hb]; exact d9) hout hRframes (by simp only [List.map_cons, List.sum_cons, hcat]; omega) hlocks
  obtain ⟨f1, f2⟩ := vx_frame hsame
  rw [hhp] at f1 f2
  have hWs : s.WarmedH U.vm := State.WarmedH.trans hW0 hW
  have hcl : s.vm.findClass cls = some ce.cls := by
    have h9 := hO.cls
    rw [hvm] at h9
    exact h9
  have hall : s.sameButNew ({ U with vm := s.vm } : State) locs mc ms := by
    subst hA
    obtain ⟨e1, e2⟩ := hsame
    rw [State.setFrames_setFrames] at e1
    have h2 : (T.setVm s.vm).sameButNew ({ U with vm := s.vm } : State) [] (0 + 1) (0 + 6) := ⟨e1, e2⟩
    have h3 := X.same.trans h2
    rw [List.append_nil] at h3
    exact h3.mono hc hs
  refine ⟨U, ?_, .threw T.heap.size, hrun, hend, Or.inr ⟨T.heap.size, rfl, cls, ce, locs, hx U hWs.alike f1 (fun q hq => f2 q hq (fun z hz => nomatch hz)), hce, hO.vm, hcl, hWs, hall, hf⟩⟩
  refine st1 _ ?_
  show Steps p.tables e below (T1.setTop { method := m, pc := pc + 3, locals := ls, stack := .ref T.heap.size :: rest, locked := none }) _
  jvm_step X₁.here [X₁.here.top, hexec, d3', Value.category]
  exact X₁.ldcString hexec (own := own) (text := text) (index := is) (a := sa) hown' hstr'.1 hstr'.2
    (g := { method := m, pc := pc + 4, locals := ls, stack := .ref T.heap.size :: .ref T.heap.size :: rest, locked := none }) rfl d4' _ hsteps
/-- 'throw new E("text")', the text by a wide index -/
theorem vx_throwSW {cc : ByteArray} {pc : Nat} (hexec : p.tables.exec = Jvm.exec) (hb : c.code = cc) (hl : l.stackTraces = false) {own cls text : String} {names : List String} {ik is ic mc ms sa : Nat} {A : Nat → Prop}
    (hown : s.vm.findClass own = some m.cls) (hcls : Bundle.fit cls = true) (hnames : ∀ n ∈ names, Bundle.fit n = true)
    (hk : (Cond.classLink own ik cls).before args s = true) (hini : (Cond.initialized cls).before args s = true) (hstr : vk_R own is text sa s) (hat : ∀ w ∈ vx_atS own ic cls names, w.before args s = true)
    (hgood : ∀ w ∈ Cond.classLink own ik cls :: Cond.initialized cls :: vx_atS own ic cls names, vx_ot w = true)
    (hU : vx_Zq Bundle.tN "UNASSIGNED_STACK" Bundle.steD A s s.heap) (hN : vx_Zq Bundle.tN "SUPPRESSED_SENTINEL" Bundle.listD A s s.heap) (hS : va_S A s.heap H locs) (hsize : ls.size = c.maxLocals)
    (d0 : decode cc pc = .ok (.new ik, 3)) (d3 : decode cc (pc + 3) = .ok (.dup, 1)) (d4 : decode cc (pc + 4) = .ok (.ldc_w is, 3)) (d7 : decode cc (pc + 7) = .ok (.invokespecial ic, 3)) (d10 : decode cc (pc + 10) = .ok (.athrow, 1))
    (hout : ∀ x ∈ c.exceptionTable.toList, covers x (pc + 10) = false)
    (hRframes : names.length + 3 < R.frames) (hRlocals : (rest.map fun v => v.category).sum + (13 * (names.length + 1) + 43) ≤ R.locals) (hRcells : cells + 1 ≤ R.cells) (hRslots : slots + 6 ≤ R.slots) (hlocks : meth.locks = false)
    (hx : ∀ t : State, s.vm.Alike t.vm → H.size ≤ t.heap.size → (∀ q : Nat, q < H.size → t.heap[q]? = H[q]?) → XC cls s t)
    (hf : ∀ z ∈ locs, free z.base) (hc : cells + 1 ≤ mc) (hs : slots + 6 ≤ ms) :
    W p l e R s m args below meth c H locs cells slots (vx_MQ below Qc XC args s mc ms free) (F0 m pc ls rest) := by
  intro T hT X
  have htr : e.platform.stackTraces = false := (show e.platform.stackTraces = l.stackTraces by rw [X.admits.platform]).trans hl
  have Y := vx_rebase X (R' := { frames := R.frames, locals := R.locals, cells := 1, slots := 6 }) (Nat.le_refl _) (Nat.le_refl _) hRcells hRslots
  obtain ⟨s', hA⟩ : ∃ z, z = (T.setVm s.vm).setFrames (.invoking m args :: below) := ⟨_, rfl⟩
  rw [← hA] at Y
  have hvm : s'.vm = s.vm := by rw [hA]; rfl
  have hhp : s'.heap = H := by rw [hA]; exact hT
  have hW0 : s.WarmedH s'.vm := by rw [hvm]; exact State.WarmedH.refl s
  have hat' : ∀ w ∈ vx_atS own ic cls names, w.before args s' = true := fun w hw => vx_ot_at hW0 hvm.symm (hgood w (List.mem_cons_of_mem _ (List.mem_cons_of_mem _ hw))) (hat w hw)
  have hk' : (Cond.classLink own ik cls).before args s' = true := vx_ot_at hW0 hvm.symm (hgood _ List.mem_cons_self) hk
  have hini' : (Cond.initialized cls).before args s' = true := vx_ot_at hW0 hvm.symm (hgood _ (List.mem_cons_of_mem _ List.mem_cons_self)) hini
  have hU' : vx_Zq Bundle.tN "UNASSIGNED_STACK" Bundle.steD A s' s'.heap := by rw [hhp]; exact vx_Zq.moved hW0.alike (hU.kept hS.2.1)
  have hN' : vx_Zq Bundle.tN "SUPPRESSED_SENTINEL" Bundle.listD A s' s'.heap := by rw [hhp]; exact vx_Zq.moved hW0.alike (hN.kept hS.2.1)
  have h : ∀ w ∈ Bundle.ownAtoms own ic cls names, w.before args s' = true := vx_own hat' (vx_isRefq hU'.1) (vx_isRefq hN'.1) hU'.2.word hN'.2.word
  have hown' : s'.vm.findClass own = some m.cls := by rw [hvm]; exact hown
  have hins : (Cond.instantiable cls 6).before args s' = true := h _ (by simp [Bundle.ownAtoms])
  obtain ⟨vm₁, cX, kX, hfX, hkX, -, -, X₁, st1⟩ := Y.newCold hexec (own := own) (C := cls) (index := ik) (n := 6) hown' hk' hins hini'
    (g := F0 m pc ls rest) rfl (by rw [hb]; exact d0) (Nat.le_refl _) (Nat.le_refl _)
  generalize hT1 : (T.setVm vm₁).pushCell { cls := cX, slots := kX.instanceTypes.map defaultValue, vm := .none } = T1 at X₁ st1
  have hcat : (Value.ref T.heap.size).category = 1 := rfl
  have hcellA : T1.heap[T.heap.size]? = some (freshCell cX kX) := by rw [← hT1]; exact State.heap_pushCell_size _ _
  have d3' : decode c.code (pc + 3) = .ok (.dup, 1) := by rw [hb]; exact d3
  have d4' : decode c.code (pc + 4) = .ok (.ldc_w is, 3) := by rw [hb]; exact d4
  have hstr' : vk_R own is text sa s' := vk_R.warm hW0 hstr
  obtain ⟨U, hsteps, hrun, hend, hW, hsame, ce, hce, hO⟩ := X₁.ctorThrowS hexec htr (own := own) (cls := cls) (names := names) (ic := ic) hown' hcls hnames h (fun x hx => nomatch hx) hfX hkX hcellA (by rw [hhp, hT]; exact Nat.le_refl _) (msg := .ref sa) rfl
    (g := { method := m, pc := pc + 7, locals := ls, stack := .ref sa :: .ref T.heap.size :: .ref T.heap.size :: rest, locked := none }) rfl hsize rfl rfl (rest := rest) rfl
    (by rw [hb]; exact d7) (by rw [hb]; exact d10) hout hRframes (by simp only [List.map_cons, List.sum_cons, hcat]; omega) hlocks
  obtain ⟨f1, f2⟩ := vx_frame hsame
  rw [hhp] at f1 f2
  have hWs : s.WarmedH U.vm := State.WarmedH.trans hW0 hW
  have hcl : s.vm.findClass cls = some ce.cls := by
    have h9 := hO.cls
    rw [hvm] at h9
    exact h9
  have hall : s.sameButNew ({ U with vm := s.vm } : State) locs mc ms := by
    subst hA
    obtain ⟨e1, e2⟩ := hsame
    rw [State.setFrames_setFrames] at e1
    have h2 : (T.setVm s.vm).sameButNew ({ U with vm := s.vm } : State) [] (0 + 1) (0 + 6) := ⟨e1, e2⟩
    have h3 := X.same.trans h2
    rw [List.append_nil] at h3
    exact h3.mono hc hs
  refine ⟨U, ?_, .threw T.heap.size, hrun, hend, Or.inr ⟨T.heap.size, rfl, cls, ce, locs, hx U hWs.alike f1 (fun q hq => f2 q hq (fun z hz => nomatch hz)), hce, hO.vm, hcl, hWs, hall, hf⟩⟩
  refine st1 _ ?_
  show Steps p.tables e below (T1.setTop { method := m, pc := pc + 3, locals := ls, stack := .ref T.heap.size :: rest, locked := none }) _
  jvm_step X₁.here [X₁.here.top, hexec, d3', Value.category]
  exact X₁.ldcStringW hexec (own := own) (text := text) (index := is) (a := sa) hown' hstr'.1 hstr'.2
    (g := { method := m, pc := pc + 4, locals := ls, stack := .ref T.heap.size :: .ref T.heap.size :: rest, locked := none }) rfl d4' _ hsteps
end Ends
section Bodies
variable {l : Launch}
theorem vx_ofW {y : MethodName} {ws ws' : List Cond} {rm : Room} {Pc : Array Value → State → Prop} {Qc : Array Value → State → Outcome → State → Prop} {XC : String → State → State → Prop} {mc ms : Nat} {free : Addr → Prop} {cc : ByteArray} {maxL : Nat} {ret : Option FieldType}
    (hy : plainName y.cls = true) (hw : ws = Cond.code y cc maxL ret :: ws')
    (body : ∀ p e s m args below meth c s₁, BodyLoose p l y (headSpec ws rm) cc maxL ret e s m args below meth c s₁ → c.maxLocals = maxL → (∀ x ∈ c.exceptionTable.toList, False) → Pc args s →
      W p l e (headSpec ws rm).room s m args below meth c s.heap [] 0 0 (vx_MQ below Qc XC args s mc ms free) (entryFrame m args maxL)) : vx_Met l y ws rm Pc Qc XC mc ms free := by
  refine MetFree.of_bodyS (code := cc) (maxLocals := maxL) (ret := ret) hy ?_ ?_
  · intro args s m h hn
    obtain ⟨meth, c, h1, h2, h3, h4, h5, h6, -, -⟩ := Cond.code_spec hn (atoms_spec (ws := ws) h _ (by rw [hw]; exact List.mem_cons_self))
    exact ⟨meth, c, h1, h2, h3, h4, h5, h6⟩
  · intro p e s m args below meth c s₁ B hml hP _
    have hh0 : s₁.heap = s.heap := by rw [B.state]; rfl
    have ht : ∀ x ∈ c.exceptionTable.toList, False := by
      obtain ⟨meth9, c9, h1, h2, -, -, -, -, h7, -⟩ := Cond.code_spec B.named (atoms_spec (ws := ws) B.pre _ (by rw [hw]; exact List.mem_cons_self))
      cases Option.some.inj (h1.symm.trans B.method)
      cases Option.some.inj (h2.symm.trans (Stand.of_body B).code)
      intro x hx
      rw [Array.isEmpty_iff.mp h7] at hx
      cases hx
    obtain ⟨t, a1, o, b1, b2, b3⟩ := body p e s m args below meth c s₁ B hml ht hP s₁ hh0 (Stand.of_body B)
    exact ⟨t, o, a1, b1, b2, b3⟩
/-- the table of a body with handlers -/
theorem vx_table {p : Program} {x y : MethodName} {S : Spec} {cc bytes : ByteArray} {maxL maxL' : Nat} {ret ret' : Option FieldType} {e : Env} {s s₁ : State} {m : MethodId} {args : Array Value} {below : List Frame} {meth : Method} {c : Code} {hh : List (Nat × Nat × Nat × Nat)}
    (B : BodyLoose p l y S cc maxL ret e s m args below meth c s₁) (h : (Cond.codeWith y bytes maxL' ret' hh).before args s = true) : c.exceptionTable.toList = tableOf hh := by
  obtain ⟨m9, meth9, c9, hn9, h1, h2, -, -, h6, -⟩ := Cond.codeWith_spec h
  cases Option.some.inj (hn9.symm.trans B.named)
  cases Option.some.inj (h1.symm.trans B.method)
  cases Option.some.inj (h2.symm.trans (Stand.of_body B).code)
  rw [← h6, table_eq]
end Bodies
end VXA
/-! ===== END ===== -/
/-! ===== BEGIN a static call of a method with an exception table ===== -/
section VXS
variable {p : Program} {l : Launch} {e : Env} {R : Room} {s : State} {m : MethodId} {args : Array Value} {below : List Frame} {meth : Method} {c : Code} {T : State} {H : Heap} {locs : List Loc} {cells slots : Nat}
abbrev vx_CSW (R : Room) (s : State) (args : Array Value) (own : String) (index : Nat) (y : MethodName) (bytes : ByteArray) (maxL : Nat) (ret : Option FieldType) (hh : List (Nat × Nat × Nat × Nat)) (ws : List Cond) (rm : Room) (mc ms n : Nat) : Prop :=
  (rm.cells = mc ∧ rm.slots = ms ∧ rm.frames + 1 ≤ R.frames ∧ 8 + (maxL + 11) + rm.locals ≤ R.locals ∧ (∀ w ∈ ws, ∀ (a' : Array Value) (U : State), s.WarmedH U.vm → w.before a' U = true) ∧ Cond.codeWith y bytes maxL ret hh ∈ ws) ∧
  (Cond.codeWith y bytes maxL ret hh).before args s = true ∧ (Cond.initialized y.cls).before args s = true ∧ (y.cls ≠ "java/lang/invoke/MethodHandle" ∧ y.cls ≠ "java/lang/invoke/VarHandle") ∧
  (∀ sig, parseMethodDescriptor y.desc = some sig → n = sig.parameters.length) ∧ (Cond.methodLink own index y).before args s = true ∧ (Cond.static y).before args s = true
theorem vx_cwSW {own : String} {index maxL mc ms : Nat} {y : MethodName} {bytes : ByteArray} {ret : Option FieldType} {hh : List (Nat × Nat × Nat × Nat)} {Ts ws ws' : List Cond} {rm : Room} (n : Nat) (ht : ∀ w ∈ Ts, w.before args s = true) (hT : GoodIn Ts (va_wsS own index y ws)) (hw : ws = Cond.codeWith y bytes maxL ret hh :: ws') (hrc : rm.cells = mc) (hrs : rm.slots = ms)
    (hd : y.cls ≠ "java/lang/invoke/MethodHandle" ∧ y.cls ≠ "java/lang/invoke/VarHandle" ∧ (parseMethodDescriptor y.desc).map (fun d => d.parameters.length) = some n) (hR : rm.frames + 1 ≤ R.frames ∧ 8 + (maxL + 11) + rm.locals ≤ R.locals) :
    vx_CSW R s args own index y bytes maxL ret hh ws rm mc ms n := by
  have ok : ∀ w ∈ va_wsS own index y ws, w.before args s = true := fun w h => ht w (hT w h).1
  have hG : GoodIn Ts ws := fun w h => hT w (by unfold va_wsS; exact List.mem_append_right _ h)
  have hc : Cond.codeWith y bytes maxL ret hh ∈ ws := by rw [hw]; exact List.mem_cons_self
  refine ⟨⟨hrc, hrs, hR.1, hR.2, pay_in ht hG, hc⟩, ht _ (hG _ hc).1, ok _ (by simp [va_wsS]), ⟨hd.1, hd.2.1⟩, fun sig h => ?_, ok _ (by simp [va_wsS]), ok _ (by simp [va_wsS])⟩
  have h2 := hd.2.2
  rw [h] at h2
  exact (Option.some.inj h2).symm
theorem vx_callSW (X : Stand p l e R s m args below meth c T locs cells slots) (hexec : p.tables.exec = Jvm.exec) {own : String} {index : Nat} {y : MethodName} {bytes : ByteArray} {maxL : Nat} {ret : Option FieldType} {hh : List (Nat × Nat × Nat × Nat)}
    (hown : s.vm.findClass own = some m.cls) (hlink : (Cond.methodLink own index y).before args s = true) (hstat : (Cond.static y).before args s = true) (hinit : (Cond.initialized y.cls).before args s = true)
    (hcode : (Cond.codeWith y bytes maxL ret hh).before args s = true) (hy : y.cls ≠ "java/lang/invoke/MethodHandle" ∧ y.cls ≠ "java/lang/invoke/VarHandle")
    {W9 : Nat} {Pre : Pt → Array Value → Prop} {Post : Pt → Array Value → Option Value → Pt → Prop} (hK : Back l R p e below s args y 3 W9 Pre Post)
    {g : JFrame} (hg : g.method = m) (hsize : g.locals.size = c.maxLocals) {argsL rest : List Value} (hlen : ∀ sig, parseMethodDescriptor y.desc = some sig → argsL.length = sig.parameters.length)
    (hstack : g.stack = argsL.reverse ++ rest) (hW : 2 * g.monitorRoom + (rest.map fun v => v.category).sum ≤ W9) (hdg : decode c.code g.pc = .ok (.invokestatic index, 3))
    (hpre : ∀ vm₁, s.WarmedH vm₁ → Pre ⟨T.setVm vm₁, locs, cells, slots⟩ argsL.toArray) :
    ∃ (v : Option Value) (vm₁ : Vm) (B : Pt), s.WarmedH vm₁ ∧ Stand p l e R s m args below meth c B.U B.locs B.cells B.slots ∧ Post ⟨T.setVm vm₁, locs, cells, slots⟩ argsL.toArray v B ∧
      ∀ target, Steps p.tables e below (B.U.setTop { g with pc := g.pc + 3, stack := v.toList ++ rest }) target → Steps p.tables e below (T.setTop g) target := by
  obtain ⟨mk, methM, cM, hnamed, hmethM, -, -, -, -, -, -, hsigM⟩ := Cond.codeWith_spec hcode
  have hstatic : methM.isStatic = true := Cond.static_spec hnamed hmethM hstat
  obtain ⟨kP, hkP, -⟩ := className_of_methodNamed hnamed
  have hinitP : kP.init = .initialized := Cond.initialized_spec (findClass_of_methodNamed hnamed) hkP hinit
  obtain ⟨vm₁, X₁, hstep₁⟩ := X.invokestatic hexec hown hlink hnamed hmethM hstatic hkP hinitP hy (g := g) hg (argsL := argsL) (rest := rest) (hlen _ hsigM) hstack hdg
  obtain ⟨v, B, X', hpost, hsteps⟩ := hK m meth c ⟨T.setVm vm₁, locs, cells, slots⟩ { g with stack := rest } (.invokestatic index) mk argsL.toArray X₁ hg hsize hdg hW (X₁.named hnamed) (hpre vm₁ X₁.warmed)
  exact ⟨v, vm₁, B, X₁.warmed, X', hpost, fun target h => hstep₁ _ fun acts => by rw [doInvoke_state]; exact hsteps.trans h⟩
theorem vx_runSW {y : MethodName} {bytes cc : ByteArray} {maxL nL mc ms n index : Nat} {ret : Option FieldType} {hh : List (Nat × Nat × Nat × Nat)} {ws : List Cond} {rm : Room} {Pc : Array Value → State → Prop} {Qc : Array Value → State → Outcome → State → Prop} {free : Addr → Prop} {Ts : List Cond} {own : String} {As rest : List Value} {g : JFrame}
    (S : CallFix p m c cc nL s args Ts own) (hM : Met l y ws rm Pc Qc mc ms free) (cw : vx_CSW R s args own index y bytes maxL ret hh ws rm mc ms n) (hp : PreS s H Pc As)
    (hg : g.method = m) (hn : As.length = n) (hsize : g.locals.size = nL) (hstack : g.stack = As.reverse ++ rest) (hW : 2 * g.monitorRoom + (rest.map fun v => v.category).sum ≤ 8) (hdg : decode cc g.pc = .ok (.invokestatic index, 3)) (hf : cells + mc ≤ R.cells ∧ slots + ms ≤ R.slots) :
    va_Run p l e R s m args below meth c H locs cells slots mc ms g rest (Qc As.toArray) (free) := by
  obtain ⟨⟨hrc, hrs, hfr, hlo, hws, hcw⟩, hcode, hini, hy, hlen, hl, hstt⟩ := cw
  have hK : Back l R p e below s args y 3 8 (PreOf R mc ms Pc) (PostOf Qc mc ms free) := va_backW (hh := hh) (bytes := bytes) (maxL := maxL) (ret := ret) hM hp.1 hrc hrs hfr hlo hws hcw (fun a' U hW => word_at hW (Or.inl (by first | rfl | simp [Cond.onTables, Cond.keeps, Cond.steady])) hini)
  obtain ⟨hx, hb, hml, ho, -⟩ := S
  intro T hT X
  obtain ⟨v, vm₁, ⟨U', l2, c2, s2⟩, hW₁, X', ⟨g', mk, t, L, e1, e2, hq, h1, hL, h2, h3⟩, st⟩ := vx_callSW X hx (hh := hh) (bytes := bytes) (maxL := maxL) (ret := ret) ho hl hstt hini hcode hy hK hg (hsize.trans hml.symm) (argsL := As) (rest := rest) (fun sig h => hn.trans (hlen sig h)) hstack hW (by rw [hb]; exact hdg)
    (fun vm₁ hW₁ => ⟨hf.1, hf.2, hp.2 (T.setVm vm₁) hT hW₁⟩)
  dsimp only [Pt.U, Pt.locs, Pt.cells, Pt.slots] at X' e1 e2 h1 h2 h3 st
  subst h1; subst h2; subst h3
  exact ⟨v, (T.setVm vm₁).calling g' mk As.toArray, t, U', L, hT, X', hL, e1, e2, hq, st⟩
/-- not caught here, past rows that name other classes: it goes on to the caller -/
theorem vx_outP {p : Program} {l : Launch} {e : Env} {R : Room} {s : State} {m : MethodId} {args : Array Value} {below : List Frame} {meth : Method} {c : Code} {H : Heap} {locs : List Loc} {cells slots : Nat} {free : Addr → Prop} {ls : Array Slot} {rest : List Value} {Qc : Array Value → State → Outcome → State → Prop} {XC : String → State → State → Prop}
    {pc : Nat} {own E : String} {ce : Cell} {q : Addr} {mc ms : Nat} (hown : s.vm.findClass own = some m.cls) (hlocks : meth.locks = false)
    (hpass : ∀ z ∈ c.exceptionTable.toList, covers z pc = false ∨ (z.catchType ≠ 0 ∧ ∃ nm : String, (Cond.classLink own z.catchType nm).before args s = true ∧ va_Nc E nm s)) (hcell : H[q]? = some ce) (hv : ce.vm = .none) (hcl : s.vm.findClass E = some ce.cls)
    (hx : ∀ t : State, t.heap = H → s.vm.Alike t.vm → XC E s t) (hf : ∀ z ∈ locs, free z.base) (hc : cells ≤ mc) (hs : slots ≤ ms) :
    vx_W p l e R s m args below meth c H locs cells slots (vx_MQ below Qc XC args s mc ms free) (F0 m pc ls rest) q := by
  intro T hT X
  have hpl : e.platform.magicAccessors = ({} : Platform).magicAccessors := by rw [X.admits.platform]
  obtain ⟨vm', hW', X', st⟩ := X.outThrough hlocks q (g := F0 m pc ls rest) rfl rfl rfl (cell := ce) (by rw [hT]; exact hcell) (by rw [hv]; rfl)
    (by obtain ⟨k9, h9, -⟩ := Vm.findClass_spec hcl; exact ⟨k9, h9⟩) (fun z hz => by
      rcases hpass z hz with h | ⟨hz0, nm, hl1, hn1⟩
      · exact Or.inl h
      · obtain ⟨c6, hc6, hcl6⟩ := Cond.classLink_spec hown hl1 e.platform hpl
        obtain ⟨a8, b8, h1, h2, h3⟩ := hn1
        cases Option.some.inj (h1.symm.trans hcl)
        cases Option.some.inj (h2.symm.trans hc6)
        exact Or.inr ⟨hz0, _, hcl6, h3⟩)
  obtain ⟨g₀, hfr⟩ := X'.frames_eq
  have hcell9 : ((T.setVm vm').setFrames (.throwing q :: below)).heap[q]? = some ce := by
    show T.heap[q]? = some ce
    rw [hT]; exact hcell
  have hend : Ended ((T.setVm vm').setFrames (.throwing q :: below)) below (.threw q) := State.frames_setFrames _ (State.cur_lt_of_frames hfr)
  refine ⟨(T.setVm vm').setFrames (.throwing q :: below), ?_, .threw q, X'.here.running, hend, Or.inr ⟨q, rfl, E, ce, locs, hx _ hT (X'.ends _).1.alike, hcell9, hv, hcl, (X'.ends _).1, (X'.ends _).2.mono hc hs, hf⟩⟩
  rw [X.pushThrowing_eq]
  exact st
/-- a thing of a world lies in the heap -/
theorem vx_lt {D : va_G} {cl : List vw_C} {ws : va_W} {H1 : Heap} (h : va_P D cl ws H1) {k : Nat} {q : Nat × va_E} (hk : ws[k]? = some q) : q.1 < H1.size := (h k q hk).lt
end VXS
/-! ===== END ===== -/
/-! ===== BEGIN methods with a table of their own: called by a name, returning or throwing ===== -/
section VXH
/-! vx_backW, vx_callVX, vx_callSX, vx_callVW, vx_runVW, vx_runVX, vx_runSX, vx_ofWH follow the same proofs as their sisters above (Free/Laws.lean, Shelf42/LK1.lean); vx_outP calls Shelf42/NT130.lean (outThrough). -/
section
variable {l : Launch} {R : Room} {p : Program} {e : Env} {below : List Frame} {s : State} {sargs : Array Value} {y : MethodName} {len W9 : Nat}
theorem vx_backW {ws : List Cond} {rm : Room} {Pc : Array Value → State → Prop} {Qc : Array Value → State → Outcome → State → Prop} {XC : String → State → State → Prop} {mc ms : Nat} {free : Addr → Prop} {bytes : ByteArray} {maxL : Nat} {ret : Option FieldType} {hh : List (Nat × Nat × Nat × Nat)}
    (hM : vx_Met l y ws rm Pc Qc XC mc ms free) (hblind : FrameBlind Pc) (hrc : rm.cells = mc) (hrs : rm.slots = ms)
    (hframes : rm.frames + 1 ≤ R.frames) (hlocals : W9 + (maxL + 11) + rm.locals ≤ R.locals)
    (hws : ∀ w ∈ ws, ∀ a' U, s.WarmedH U.vm → w.before a' U = true) (hcode : Cond.codeWith y bytes maxL ret hh ∈ ws) (hinit : ∀ a' U, s.WarmedH U.vm → (Cond.initialized y.cls).before a' U = true) :
    vx_Back l R p e below s sargs y len W9 (PreOf R mc ms Pc) (PostOf Qc mc ms free) (vx_Post XC mc ms free) := by
  intro m meth c A g ig mk a X hg hsize hdg hW hn hp
  have h1 : (headSpec ws rm).pre.before a A.U = true := atoms_intro fun w hw => hws w hw _ _ X.warmed
  have h2 : (Cond.codeWith y bytes maxL ret hh).before a A.U = true := hws _ hcode _ _ X.warmed
  have h3 : (Cond.initialized y.cls).before a A.U = true := hinit _ _ X.warmed
  have h4 : A.cells + (headSpec ws rm).room.cells ≤ R.cells := by rw [show (headSpec ws rm).room.cells = mc from hrc]; exact hp.1
  have h5 : A.slots + (headSpec ws rm).room.slots ≤ R.slots := by rw [show (headSpec ws rm).room.slots = ms from hrs]; exact hp.2.1
  have hPc : Pc a (A.U.calling g mk a) := hblind _ _ _ _ hp.2.2
  obtain ⟨U, Ls, c0, s0⟩ := A
  dsimp only [Pt.U, Pt.locs, Pt.cells, Pt.slots] at h1 h2 h3 h4 h5 X hn hPc ⊢
  obtain ⟨m9, methY, cY, hn9, hmY, hcY, -, hlY, -⟩ := Cond.codeWith_spec h2
  cases Option.some.inj (hn9.symm.trans hn)
  obtain ⟨kY, hkY, -⟩ := className_of_methodNamed hn
  have hinitY : kY.init = .initialized := Cond.initialized_spec (findClass_of_methodNamed hn) hkY h3
  have h : At U g.method c below := by rw [hg]; exact X.here
  have hlocals9 : W9 + (maxL + 11) + (headSpec ws rm).room.locals ≤ R.locals := hlocals
  have happ : (headSpec ws rm).appliesLoose y e.platform (U.calling g mk a) = true :=
    Spec.appliesLoose_calling (g := g) h hdg hn hkY hinitY
      (X.room_calling (g := g) (R' := (headSpec ws rm).room) hsize hmY hcY hframes (by rw [hlY]; omega) h4 h5) h1
  obtain ⟨mid, hmid⟩ := h.above
  have hfr : (U.setTop g).frames = (.java g :: mid) ++ below := by rw [State.frames_setTop' g h.top, hmid]; rfl
  obtain ⟨o, s₂, hsteps, -, hend, hq⟩ := Steps.callFree hM p X.admits X.cas X.clock (acts := []) hfr happ hPc trivial
  have hq' : vx_Q Qc XC mc ms free a (U.calling g mk a) o s₂ := hq
  rw [State.frames_setTop' g h.top] at hend
  obtain ⟨g₀, hg0⟩ := Option.isSome_iff_exists.mp h.top
  obtain ⟨r, hr⟩ := State.topJava?_eq_some.mp hg0
  have hr' : (({ U with heap := s₂.heap, slotsUsed := s₂.slotsUsed } : State).setVm s₂.vm).frames = .java g₀ :: r := hr
  rcases hq' with ⟨hqc, L, hfe, hL⟩ | ⟨q, rfl, E, ce, L, hx, hce, hcv, hcl, hW₂, hsm, hL⟩
  · obtain ⟨⟨v, rfl⟩, hW₂, e2, q2, q3, q4, q5, q6⟩ := id hfe
    have e3 : s₂ = ({ (U.calling g mk a).setFrames s₂.frames with heap := s₂.heap, slotsUsed := s₂.slotsUsed } : State).setVm s₂.vm := by
      have : s₂ = ({ s₂ with vm := (U.calling g mk a).vm } : State).setVm s₂.vm := rfl
      rw [e2] at this
      exact this
    obtain ⟨c₂, i₂, len₂, hc₂, hd₂, hf₂⟩ := hend
    have hW' : U.WarmedH s₂.vm := hW₂
    have hcc : c₂ = c := by
      have h1 : s₂.code? g.method = U.code? g.method := by
        rw [State.code?_eq, State.code?_eq, hW'.alike.method?]
      exact Option.some.inj (hc₂.symm.trans (h1.trans h.code))
    subst hcc
    have hlen : len₂ = len := by rw [hdg] at hd₂; cases hd₂; rfl
    subst hlen
    have hs₂ : s₂ = (({ U with heap := s₂.heap, slotsUsed := s₂.slotsUsed } : State).setVm s₂.vm).setTop { g with pc := g.pc + len₂, stack := v.toList ++ g.stack } := by
      refine e3.trans ?_
      rw [hf₂, State.calling_eq h.top, State.setFrames_setFrames, State.setTop_of_frames _ hr', hr]
      rfl
    have hsame : U.sameButNew ({ U with heap := s₂.heap, slotsUsed := s₂.slotsUsed } : State) L mc ms := by
      refine ⟨?_, q2, q3, q4, q5, q6⟩
      obtain ⟨t, ht, -⟩ := State.frames_cons hr
      show ({ U with heap := s₂.heap, slotsUsed := s₂.slotsUsed } : State) = { U.setFrames U.frames with heap := s₂.heap, slotsUsed := s₂.slotsUsed }
      rw [State.setFrames_self ht]
    subst hg
    refine Or.inl ⟨v, ⟨(({ U with heap := s₂.heap, slotsUsed := s₂.slotsUsed } : State).setVm s₂.vm), Ls ++ L, c0 + mc, s0 + ms⟩,
      ⟨X.admits, X.cas, X.clock, X.frames, X.room, X.hears, X.method, X.code, (X.here.setHeapUsed s₂.heap s₂.slotsUsed).setVm hW'.alike, X.tail, State.WarmedH.trans X.warmed hW', X.limits, X.bytes, X.same.trans (hsame.setVm s.vm)⟩,
      ⟨g, mk, s₂, L, rfl, rfl, hqc, rfl, hL, rfl, rfl⟩, ?_⟩
    show Steps p.tables e below _ ((({ U with heap := s₂.heap, slotsUsed := s₂.slotsUsed } : State).setVm s₂.vm).setTop { g with pc := g.pc + len₂, stack := v.toList ++ g.stack })
    rw [← hs₂]
    exact hsteps
  · obtain ⟨e2, q2, q3, q4, q5, q6⟩ := id hsm
    have e3 : s₂ = ({ (U.calling g mk a).setFrames s₂.frames with heap := s₂.heap, slotsUsed := s₂.slotsUsed } : State).setVm s₂.vm := by
      have : s₂ = ({ s₂ with vm := (U.calling g mk a).vm } : State).setVm s₂.vm := rfl
      rw [e2] at this
      exact this
    have hf₂ : s₂.frames = .throwing q :: .java g :: U.frames.tail := hend
    have hW' : U.WarmedH s₂.vm := hW₂
    have hs₂ : s₂ = ((({ U with heap := s₂.heap, slotsUsed := s₂.slotsUsed } : State).setVm s₂.vm).setTop g).pushFrame (.throwing q) := by
      refine e3.trans ?_
      rw [hf₂, State.calling_eq h.top, State.setFrames_setFrames, State.pushFrame, State.frames_setTop _ hr', State.setTop_of_frames _ hr', State.setFrames_setFrames, hr]
      rfl
    have hsame : U.sameButNew ({ U with heap := s₂.heap, slotsUsed := s₂.slotsUsed } : State) L mc ms := by
      refine ⟨?_, q2, q3, q4, q5, q6⟩
      obtain ⟨t, ht, -⟩ := State.frames_cons hr
      show ({ U with heap := s₂.heap, slotsUsed := s₂.slotsUsed } : State) = { U.setFrames U.frames with heap := s₂.heap, slotsUsed := s₂.slotsUsed }
      rw [State.setFrames_self ht]
    subst hg
    refine Or.inr ⟨q, ⟨(({ U with heap := s₂.heap, slotsUsed := s₂.slotsUsed } : State).setVm s₂.vm), Ls ++ L, c0 + mc, s0 + ms⟩,
      ⟨X.admits, X.cas, X.clock, X.frames, X.room, X.hears, X.method, X.code, (X.here.setHeapUsed s₂.heap s₂.slotsUsed).setVm hW'.alike, X.tail, State.WarmedH.trans X.warmed hW', X.limits, X.bytes, X.same.trans (hsame.setVm s.vm)⟩,
      ⟨g, mk, s₂, L, E, ce, rfl, rfl, hx, hce, hcv, hcl, rfl, hL, rfl, rfl⟩, ?_⟩
    show Steps p.tables e below _ (((({ U with heap := s₂.heap, slotsUsed := s₂.slotsUsed } : State).setVm s₂.vm).setTop g).pushFrame (.throwing q))
    rw [← hs₂]
    exact hsteps
end
variable {p : Program} {l : Launch} {e : Env} {R : Room} {s : State} {m : MethodId} {args : Array Value} {below : List Frame} {meth : Method} {c : Code} {T : State} {H : Heap} {locs : List Loc} {cells slots : Nat}
theorem vx_callVX (X : Stand p l e R s m args below meth c T locs cells slots) (hexec : p.tables.exec = Jvm.exec) {own C : String} {index : Nat} {y : MethodName} {bytes : ByteArray} {maxL : Nat} {ret : Option FieldType} {hh : List (Nat × Nat × Nat × Nat)}
    (hown : s.vm.findClass own = some m.cls) (hlink : (Cond.methodLink own index y).before args s = true) (hinst : (Cond.instanceMethod y).before args s = true) (hsel : (Cond.selects C y y).before args s = true)
    (hcode : (Cond.codeWith y bytes maxL ret hh).before args s = true) (hy : y.cls ≠ "java/lang/invoke/MethodHandle" ∧ y.cls ≠ "java/lang/invoke/VarHandle")
    {W9 : Nat} {Pre : Pt → Array Value → Prop} {Post : Pt → Array Value → Option Value → Pt → Prop} {PostX : Pt → Array Value → Addr → Pt → Prop} (hK : vx_Back l R p e below s args y 3 W9 Pre Post PostX)
    {b : Addr} {cellB : Cell} (hcell : T.heap[b]? = some cellB) (hobj : cellB.vm.isStatics = false) (hcls : s.vm.findClass C = some cellB.cls)
    {g : JFrame} (hg : g.method = m) (hsize : g.locals.size = c.maxLocals) {argsL rest : List Value} (hlen : ∀ sig, parseMethodDescriptor y.desc = some sig → argsL.length = sig.parameters.length)
    (hstack : g.stack = argsL.reverse ++ .ref b :: rest) (hW : 2 * g.monitorRoom + (rest.map fun v => v.category).sum ≤ W9) (hdg : decode c.code g.pc = .ok (.invokevirtual index, 3))
    (hpre : ∀ vm₁, s.WarmedH vm₁ → Pre ⟨T.setVm vm₁, locs, cells, slots⟩ (Value.ref b :: argsL).toArray) :
    (∃ (v : Option Value) (vm₁ : Vm) (B : Pt), s.WarmedH vm₁ ∧ Stand p l e R s m args below meth c B.U B.locs B.cells B.slots ∧ Post ⟨T.setVm vm₁, locs, cells, slots⟩ (Value.ref b :: argsL).toArray v B ∧
      ∀ target, Steps p.tables e below (B.U.setTop { g with pc := g.pc + 3, stack := v.toList ++ rest }) target → Steps p.tables e below (T.setTop g) target) ∨
    (∃ (q : Addr) (vm₁ : Vm) (B : Pt), s.WarmedH vm₁ ∧ Stand p l e R s m args below meth c B.U B.locs B.cells B.slots ∧ PostX ⟨T.setVm vm₁, locs, cells, slots⟩ (Value.ref b :: argsL).toArray q B ∧
      Steps p.tables e below (T.setTop g) ((B.U.setTop { g with stack := rest }).pushFrame (.throwing q))) := by
  obtain ⟨mk, methM, hnamed, hmethM, hstM, habM⟩ := Cond.instanceMethod_spec hinst
  obtain ⟨m8, methM', cM, hn8, hmethM', -, -, -, -, -, -, hsigM⟩ := Cond.codeWith_spec hcode
  cases Option.some.inj (hn8.symm.trans hnamed)
  cases hmethM.symm.trans hmethM'
  obtain ⟨c2, r2, m2, q1, q2, q3, q4, kP, hkP, hkPi⟩ := Cond.selects_spec hsel
  cases hcls.symm.trans q1
  cases (State.methodFound?_of_named hnamed hy).symm.trans q2
  cases hnamed.symm.trans q3
  have hselP : selectMethod e.platform s.vm cellB.cls mk = .method mk := by rw [Launch.admits_selectMethod X.admits]; exact q4
  obtain ⟨vm₁, X₁, hstep₁⟩ := X.invokevirtual hexec hown hlink hnamed hmethM hstM hkP hkPi hy (a := b) (cell := cellB) hcell
    (fun z h => by rw [h] at hobj; cases hobj) hselP hmethM habM hkP hkPi (g := g) hg (argsL := argsL) (rest := rest) (hlen _ hsigM) hstack hdg
  rcases hK m meth c ⟨T.setVm vm₁, locs, cells, slots⟩ { g with stack := rest } (.invokevirtual index) mk (Value.ref b :: argsL).toArray X₁ hg hsize hdg hW (X₁.named hnamed) (hpre vm₁ X₁.warmed) with ⟨v, B, X', hpost, hsteps⟩ | ⟨q, B, X', hpost, hsteps⟩
  · exact Or.inl ⟨v, vm₁, B, X₁.warmed, X', hpost, fun target h => hstep₁ _ fun acts => by rw [doInvoke_state]; exact hsteps.trans h⟩
  · exact Or.inr ⟨q, vm₁, B, X₁.warmed, X', hpost, hstep₁ _ fun acts => by rw [doInvoke_state]; exact hsteps⟩
theorem vx_callSX (X : Stand p l e R s m args below meth c T locs cells slots) (hexec : p.tables.exec = Jvm.exec) {own : String} {index : Nat} {y : MethodName} {bytes : ByteArray} {maxL : Nat} {ret : Option FieldType} {hh : List (Nat × Nat × Nat × Nat)}
    (hown : s.vm.findClass own = some m.cls) (hlink : (Cond.methodLink own index y).before args s = true) (hstat : (Cond.static y).before args s = true) (hinit : (Cond.initialized y.cls).before args s = true)
    (hcode : (Cond.codeWith y bytes maxL ret hh).before args s = true) (hy : y.cls ≠ "java/lang/invoke/MethodHandle" ∧ y.cls ≠ "java/lang/invoke/VarHandle")
    {W9 : Nat} {Pre : Pt → Array Value → Prop} {Post : Pt → Array Value → Option Value → Pt → Prop} {PostX : Pt → Array Value → Addr → Pt → Prop} (hK : vx_Back l R p e below s args y 3 W9 Pre Post PostX)
    {g : JFrame} (hg : g.method = m) (hsize : g.locals.size = c.maxLocals) {argsL rest : List Value} (hlen : ∀ sig, parseMethodDescriptor y.desc = some sig → argsL.length = sig.parameters.length)
    (hstack : g.stack = argsL.reverse ++ rest) (hW : 2 * g.monitorRoom + (rest.map fun v => v.category).sum ≤ W9) (hdg : decode c.code g.pc = .ok (.invokestatic index, 3))
    (hpre : ∀ vm₁, s.WarmedH vm₁ → Pre ⟨T.setVm vm₁, locs, cells, slots⟩ argsL.toArray) :
    (∃ (v : Option Value) (vm₁ : Vm) (B : Pt), s.WarmedH vm₁ ∧ Stand p l e R s m args below meth c B.U B.locs B.cells B.slots ∧ Post ⟨T.setVm vm₁, locs, cells, slots⟩ argsL.toArray v B ∧
      ∀ target, Steps p.tables e below (B.U.setTop { g with pc := g.pc + 3, stack := v.toList ++ rest }) target → Steps p.tables e below (T.setTop g) target) ∨
    (∃ (q : Addr) (vm₁ : Vm) (B : Pt), s.WarmedH vm₁ ∧ Stand p l e R s m args below meth c B.U B.locs B.cells B.slots ∧ PostX ⟨T.setVm vm₁, locs, cells, slots⟩ argsL.toArray q B ∧
      Steps p.tables e below (T.setTop g) ((B.U.setTop { g with stack := rest }).pushFrame (.throwing q))) := by
  obtain ⟨mk, methM, cM, hnamed, hmethM, -, -, -, -, -, -, hsigM⟩ := Cond.codeWith_spec hcode
  have hstatic : methM.isStatic = true := Cond.static_spec hnamed hmethM hstat
  obtain ⟨kP, hkP, -⟩ := className_of_methodNamed hnamed
  have hinitP : kP.init = .initialized := Cond.initialized_spec (findClass_of_methodNamed hnamed) hkP hinit
  obtain ⟨vm₁, X₁, hstep₁⟩ := X.invokestatic hexec hown hlink hnamed hmethM hstatic hkP hinitP hy (g := g) hg (argsL := argsL) (rest := rest) (hlen _ hsigM) hstack hdg
  rcases hK m meth c ⟨T.setVm vm₁, locs, cells, slots⟩ { g with stack := rest } (.invokestatic index) mk argsL.toArray X₁ hg hsize hdg hW (X₁.named hnamed) (hpre vm₁ X₁.warmed) with ⟨v, B, X', hpost, hsteps⟩ | ⟨q, B, X', hpost, hsteps⟩
  · exact Or.inl ⟨v, vm₁, B, X₁.warmed, X', hpost, fun target h => hstep₁ _ fun acts => by rw [doInvoke_state]; exact hsteps.trans h⟩
  · exact Or.inr ⟨q, vm₁, B, X₁.warmed, X', hpost, hstep₁ _ fun acts => by rw [doInvoke_state]; exact hsteps⟩
theorem vx_callVW (X : Stand p l e R s m args below meth c T locs cells slots) (hexec : p.tables.exec = Jvm.exec) {own C : String} {index : Nat} {y : MethodName} {bytes : ByteArray} {maxL : Nat} {ret : Option FieldType} {hh : List (Nat × Nat × Nat × Nat)}
    (hown : s.vm.findClass own = some m.cls) (hlink : (Cond.methodLink own index y).before args s = true) (hinst : (Cond.instanceMethod y).before args s = true) (hsel : (Cond.selects C y y).before args s = true)
    (hcode : (Cond.codeWith y bytes maxL ret hh).before args s = true) (hy : y.cls ≠ "java/lang/invoke/MethodHandle" ∧ y.cls ≠ "java/lang/invoke/VarHandle")
    {W9 : Nat} {Pre : Pt → Array Value → Prop} {Post : Pt → Array Value → Option Value → Pt → Prop} (hK : Back l R p e below s args y 3 W9 Pre Post)
    {b : Addr} {cellB : Cell} (hcell : T.heap[b]? = some cellB) (hobj : cellB.vm.isStatics = false) (hcls : s.vm.findClass C = some cellB.cls)
    {g : JFrame} (hg : g.method = m) (hsize : g.locals.size = c.maxLocals) {argsL rest : List Value} (hlen : ∀ sig, parseMethodDescriptor y.desc = some sig → argsL.length = sig.parameters.length)
    (hstack : g.stack = argsL.reverse ++ .ref b :: rest) (hW : 2 * g.monitorRoom + (rest.map fun v => v.category).sum ≤ W9) (hdg : decode c.code g.pc = .ok (.invokevirtual index, 3))
    (hpre : ∀ vm₁, s.WarmedH vm₁ → Pre ⟨T.setVm vm₁, locs, cells, slots⟩ (Value.ref b :: argsL).toArray) :
    ∃ (v : Option Value) (vm₁ : Vm) (B : Pt), s.WarmedH vm₁ ∧ Stand p l e R s m args below meth c B.U B.locs B.cells B.slots ∧ Post ⟨T.setVm vm₁, locs, cells, slots⟩ (Value.ref b :: argsL).toArray v B ∧
      ∀ target, Steps p.tables e below (B.U.setTop { g with pc := g.pc + 3, stack := v.toList ++ rest }) target → Steps p.tables e below (T.setTop g) target := by
  obtain ⟨mk, methM, hnamed, hmethM, hstM, habM⟩ := Cond.instanceMethod_spec hinst
  obtain ⟨m8, methM', cM, hn8, hmethM', -, -, -, -, -, -, hsigM⟩ := Cond.codeWith_spec hcode
  cases Option.some.inj (hn8.symm.trans hnamed)
  cases hmethM.symm.trans hmethM'
  obtain ⟨c2, r2, m2, q1, q2, q3, q4, kP, hkP, hkPi⟩ := Cond.selects_spec hsel
  cases hcls.symm.trans q1
  cases (State.methodFound?_of_named hnamed hy).symm.trans q2
  cases hnamed.symm.trans q3
  have hselP : selectMethod e.platform s.vm cellB.cls mk = .method mk := by rw [Launch.admits_selectMethod X.admits]; exact q4
  obtain ⟨vm₁, X₁, hstep₁⟩ := X.invokevirtual hexec hown hlink hnamed hmethM hstM hkP hkPi hy (a := b) (cell := cellB) hcell
    (fun z h => by rw [h] at hobj; cases hobj) hselP hmethM habM hkP hkPi (g := g) hg (argsL := argsL) (rest := rest) (hlen _ hsigM) hstack hdg
  obtain ⟨v, B, X', hpost, hsteps⟩ := hK m meth c ⟨T.setVm vm₁, locs, cells, slots⟩ { g with stack := rest } (.invokevirtual index) mk (Value.ref b :: argsL).toArray X₁ hg hsize hdg hW (X₁.named hnamed) (hpre vm₁ X₁.warmed)
  exact ⟨v, vm₁, B, X₁.warmed, X', hpost, fun target h => hstep₁ _ fun acts => by rw [doInvoke_state]; exact hsteps.trans h⟩
abbrev vx_CVW (R : Room) (s : State) (args : Array Value) (own C : String) (index : Nat) (y : MethodName) (bytes : ByteArray) (maxL : Nat) (ret : Option FieldType) (hh : List (Nat × Nat × Nat × Nat)) (ws : List Cond) (rm : Room) (mc ms n : Nat) : Prop :=
  (rm.cells = mc ∧ rm.slots = ms ∧ rm.frames + 1 ≤ R.frames ∧ 8 + (maxL + 11) + rm.locals ≤ R.locals ∧ (∀ w ∈ ws, ∀ (a' : Array Value) (U : State), s.WarmedH U.vm → w.before a' U = true) ∧ Cond.codeWith y bytes maxL ret hh ∈ ws) ∧
  (Cond.codeWith y bytes maxL ret hh).before args s = true ∧ (Cond.initialized y.cls).before args s = true ∧ (y.cls ≠ "java/lang/invoke/MethodHandle" ∧ y.cls ≠ "java/lang/invoke/VarHandle") ∧
  (∀ sig, parseMethodDescriptor y.desc = some sig → n = sig.parameters.length) ∧ (Cond.methodLink own index y).before args s = true ∧ (Cond.instanceMethod y).before args s = true ∧ (Cond.selects C y y).before args s = true
theorem vx_cwVW {own C : String} {index maxL mc ms : Nat} {y : MethodName} {bytes : ByteArray} {ret : Option FieldType} {hh : List (Nat × Nat × Nat × Nat)} {Ts ws ws' : List Cond} {rm : Room} (n : Nat) (ht : ∀ w ∈ Ts, w.before args s = true) (hT : GoodIn Ts (wsV own index C y ws)) (hw : ws = Cond.codeWith y bytes maxL ret hh :: ws') (hrc : rm.cells = mc) (hrs : rm.slots = ms)
    (hd : y.cls = C ∧ y.cls ≠ "java/lang/invoke/MethodHandle" ∧ y.cls ≠ "java/lang/invoke/VarHandle" ∧ (parseMethodDescriptor y.desc).map (fun d => d.parameters.length) = some n) (hR : rm.frames + 1 ≤ R.frames ∧ 8 + (maxL + 11) + rm.locals ≤ R.locals) :
    vx_CVW R s args own C index y bytes maxL ret hh ws rm mc ms n := by
  obtain ⟨hC, hd⟩ := hd
  subst hC
  have ok : ∀ w ∈ wsV own index y.cls y ws, w.before args s = true := fun w h => ht w (hT w h).1
  have hG : GoodIn Ts ws := fun w h => hT w (by unfold wsV; exact List.mem_append_right _ h)
  have hc : Cond.codeWith y bytes maxL ret hh ∈ ws := by rw [hw]; exact List.mem_cons_self
  refine ⟨⟨hrc, hrs, hR.1, hR.2, pay_in ht hG, hc⟩, ht _ (hG _ hc).1, ok _ (by simp [wsV]), ⟨hd.1, hd.2.1⟩, fun sig h => ?_, ok _ (by simp [wsV]), ok _ (by simp [wsV]), ok _ (by simp [wsV])⟩
  have h2 := hd.2.2
  rw [h] at h2
  exact (Option.some.inj h2).symm
theorem vx_runVW {y : MethodName} {bytes cc : ByteArray} {maxL nL mc ms n index : Nat} {ret : Option FieldType} {hh : List (Nat × Nat × Nat × Nat)} {ws : List Cond} {rm : Room} {Pc : Array Value → State → Prop} {Qc : Array Value → State → Outcome → State → Prop} {free : Addr → Prop} {Ts : List Cond} {own C : String} {b : Addr} {As rest : List Value} {g : JFrame}
    (S : CallFix p m c cc nL s args Ts own) (hM : Met l y ws rm Pc Qc mc ms free) (cw : vx_CVW R s args own C index y bytes maxL ret hh ws rm mc ms n) (hp : PreV s H C b Pc As)
    (hg : g.method = m) (hn : As.length = n) (hsize : g.locals.size = nL) (hstack : g.stack = As.reverse ++ .ref b :: rest) (hW : 2 * g.monitorRoom + (rest.map fun v => v.category).sum ≤ 8) (hdg : decode cc g.pc = .ok (.invokevirtual index, 3)) (hf : cells + mc ≤ R.cells ∧ slots + ms ≤ R.slots) :
    va_Run p l e R s m args below meth c H locs cells slots mc ms g rest (Qc (Value.ref b :: As).toArray) free := by
  obtain ⟨⟨hrc, hrs, hfr, hlo, hws, hcw⟩, hcode, hini, hy, hlen, hl, hin, hse⟩ := cw
  have hK : Back l R p e below s args y 3 8 (PreOf R mc ms Pc) (PostOf Qc mc ms free) := va_backW (hh := hh) (bytes := bytes) (maxL := maxL) (ret := ret) hM hp.1 hrc hrs hfr hlo hws hcw (fun a' U hW => word_at hW (Or.inl (by first | rfl | simp [Cond.onTables, Cond.keeps, Cond.steady])) hini)
  obtain ⟨hx, hb, hml, ho, -⟩ := S
  obtain ⟨-, ⟨cellB, hcB, hoB, hclB⟩, hPc⟩ := hp
  intro T hT X
  obtain ⟨v, vm₁, ⟨U', l2, c2, s2⟩, hW₁, X', ⟨g', mk, t, L, e1, e2, hq, h1, hL, h2, h3⟩, st⟩ := vx_callVW X hx (C := C) (hh := hh) (bytes := bytes) (maxL := maxL) (ret := ret) ho hl hin hse hcode hy hK (by rw [hT]; exact hcB) hoB hclB hg (hsize.trans hml.symm) (argsL := As) (rest := rest) (fun sig h => hn.trans (hlen sig h)) hstack hW (by rw [hb]; exact hdg)
    (fun vm₁ hW₁ => ⟨hf.1, hf.2, hPc (T.setVm vm₁) hT hW₁⟩)
  dsimp only [Pt.U, Pt.locs, Pt.cells, Pt.slots] at X' e1 e2 h1 h2 h3 st
  subst h1; subst h2; subst h3
  exact ⟨v, (T.setVm vm₁).calling g' mk (Value.ref b :: As).toArray, t, U', L, hT, X', hL, e1, e2, hq, st⟩
section
variable {y : MethodName} {bytes cc : ByteArray} {maxL nL mc ms n index : Nat} {ret : Option FieldType} {ws : List Cond} {rm : Room} {Pc : Array Value → State → Prop} {Qc : Array Value → State → Outcome → State → Prop} {XC : String → State → State → Prop} {free : Addr → Prop} {Ts : List Cond} {own C : String} {b : Addr} {As rest : List Value} {g : JFrame}
theorem vx_runVX {hh : List (Nat × Nat × Nat × Nat)} (S : CallFix p m c cc nL s args Ts own) (hM : vx_Met l y ws rm Pc Qc XC mc ms free) (cw : vx_CVW R s args own C index y bytes maxL ret hh ws rm mc ms n) (hp : PreV s H C b Pc As)
    (hg : g.method = m) (hn : As.length = n) (hsize : g.locals.size = nL) (hstack : g.stack = As.reverse ++ .ref b :: rest) (hW : 2 * g.monitorRoom + (rest.map fun v => v.category).sum ≤ 8) (hdg : decode cc g.pc = .ok (.invokevirtual index, 3)) (hf : cells + mc ≤ R.cells ∧ slots + ms ≤ R.slots) :
    vx_Run p l e R s m args below meth c H locs cells slots mc ms g rest (Qc (Value.ref b :: As).toArray) XC free := by
  obtain ⟨⟨hrc, hrs, hfr, hlo, hws, hcw⟩, hcode, hini, hy, hlen, hl, hin, hse⟩ := cw
  have hK : vx_Back l R p e below s args y 3 8 (PreOf R mc ms Pc) (PostOf Qc mc ms free) (vx_Post XC mc ms free) := vx_backW (hh := hh) (bytes := bytes) (maxL := maxL) (ret := ret) hM hp.1 hrc hrs hfr hlo hws hcw (fun a' U hW => word_at hW (Or.inl (by first | rfl | simp [Cond.onTables, Cond.keeps, Cond.steady])) hini)
  obtain ⟨hx, hb, hml, ho, -⟩ := S
  obtain ⟨-, ⟨cellB, hcB, hoB, hclB⟩, hPc⟩ := hp
  intro T hT X
  rcases vx_callVX X hx (C := C) (hh := hh) (bytes := bytes) (maxL := maxL) (ret := ret) ho hl hin hse hcode hy hK (by rw [hT]; exact hcB) hoB hclB hg (hsize.trans hml.symm) (argsL := As) (rest := rest) (fun sig h => hn.trans (hlen sig h)) hstack hW (by rw [hb]; exact hdg)
    (fun vm₁ hW₁ => ⟨hf.1, hf.2, hPc (T.setVm vm₁) hT hW₁⟩) with ⟨v, vm₁, ⟨U', l2, c2, s2⟩, hW₁, X', ⟨g', mk, t, L, e1, e2, hq, h1, hL, h2, h3⟩, st⟩ | ⟨q, vm₁, ⟨U', l2, c2, s2⟩, hW₁, X', ⟨g', mk, t, L, E, ce, e1, e2, hq, hce, hcv, hcl, h1, hL, h2, h3⟩, st⟩
  · dsimp only [Pt.U, Pt.locs, Pt.cells, Pt.slots] at X' e1 e2 h1 h2 h3 st
    subst h1; subst h2; subst h3
    exact Or.inl ⟨v, (T.setVm vm₁).calling g' mk (Value.ref b :: As).toArray, t, U', L, hT, X', hL, e1, e2, hq, st⟩
  · dsimp only [Pt.U, Pt.locs, Pt.cells, Pt.slots] at X' e1 e2 h1 h2 h3 st hcl
    subst h1; subst h2; subst h3
    exact Or.inr ⟨q, (T.setVm vm₁).calling g' mk (Value.ref b :: As).toArray, t, U', L, E, ce, hT, X', hL, e1, e2, hq, hce, hcv, vx_cls hW₁ hcl, st⟩
theorem vx_runSX {hh : List (Nat × Nat × Nat × Nat)} (S : CallFix p m c cc nL s args Ts own) (hM : vx_Met l y ws rm Pc Qc XC mc ms free) (cw : vx_CSW R s args own index y bytes maxL ret hh ws rm mc ms n) (hp : PreS s H Pc As)
    (hg : g.method = m) (hn : As.length = n) (hsize : g.locals.size = nL) (hstack : g.stack = As.reverse ++ rest) (hW : 2 * g.monitorRoom + (rest.map fun v => v.category).sum ≤ 8) (hdg : decode cc g.pc = .ok (.invokestatic index, 3)) (hf : cells + mc ≤ R.cells ∧ slots + ms ≤ R.slots) :
    vx_Run p l e R s m args below meth c H locs cells slots mc ms g rest (Qc As.toArray) XC free := by
  obtain ⟨⟨hrc, hrs, hfr, hlo, hws, hcw⟩, hcode, hini, hy, hlen, hl, hstt⟩ := cw
  have hK : vx_Back l R p e below s args y 3 8 (PreOf R mc ms Pc) (PostOf Qc mc ms free) (vx_Post XC mc ms free) := vx_backW (hh := hh) (bytes := bytes) (maxL := maxL) (ret := ret) hM hp.1 hrc hrs hfr hlo hws hcw (fun a' U hW => word_at hW (Or.inl (by first | rfl | simp [Cond.onTables, Cond.keeps, Cond.steady])) hini)
  obtain ⟨hx, hb, hml, ho, -⟩ := S
  intro T hT X
  rcases vx_callSX X hx (hh := hh) (bytes := bytes) (maxL := maxL) (ret := ret) ho hl hstt hini hcode hy hK hg (hsize.trans hml.symm) (argsL := As) (rest := rest) (fun sig h => hn.trans (hlen sig h)) hstack hW (by rw [hb]; exact hdg)
    (fun vm₁ hW₁ => ⟨hf.1, hf.2, hp.2 (T.setVm vm₁) hT hW₁⟩) with ⟨v, vm₁, ⟨U', l2, c2, s2⟩, hW₁, X', ⟨g', mk, t, L, e1, e2, hq, h1, hL, h2, h3⟩, st⟩ | ⟨q, vm₁, ⟨U', l2, c2, s2⟩, hW₁, X', ⟨g', mk, t, L, E, ce, e1, e2, hq, hce, hcv, hcl, h1, hL, h2, h3⟩, st⟩
  · dsimp only [Pt.U, Pt.locs, Pt.cells, Pt.slots] at X' e1 e2 h1 h2 h3 st
    subst h1; subst h2; subst h3
    exact Or.inl ⟨v, (T.setVm vm₁).calling g' mk As.toArray, t, U', L, hT, X', hL, e1, e2, hq, st⟩
  · dsimp only [Pt.U, Pt.locs, Pt.cells, Pt.slots] at X' e1 e2 h1 h2 h3 st hcl
    subst h1; subst h2; subst h3
    exact Or.inr ⟨q, (T.setVm vm₁).calling g' mk As.toArray, t, U', L, E, ce, hT, X', hL, e1, e2, hq, hce, hcv, vx_cls hW₁ hcl, st⟩
end
end VXH
theorem vx_ofWH {l : Launch} {y : MethodName} {ws ws' : List Cond} {rm : Room} {Pc : Array Value → State → Prop} {Qc : Array Value → State → Outcome → State → Prop} {XC : String → State → State → Prop} {mc ms : Nat} {free : Addr → Prop} {cc : ByteArray} {maxL : Nat} {ret : Option FieldType} {hh : List (Nat × Nat × Nat × Nat)}
    (hy : plainName y.cls = true) (hw : ws = Cond.codeWith y cc maxL ret hh :: ws')
    (body : ∀ p e s m args below meth c s₁, BodyLoose p l y (headSpec ws rm) cc maxL ret e s m args below meth c s₁ → c.maxLocals = maxL → Pc args s →
      W p l e (headSpec ws rm).room s m args below meth c s.heap [] 0 0 (vx_MQ below Qc XC args s mc ms free) (entryFrame m args maxL)) : vx_Met l y ws rm Pc Qc XC mc ms free := by
  refine MetFree.of_bodyS (code := cc) (maxLocals := maxL) (ret := ret) hy ?_ ?_
  · intro args s m h hn
    obtain ⟨m9, meth, c, hn9, h1, h2, h3, h4, -, h5, h6, -⟩ := Cond.codeWith_spec (atoms_spec (ws := ws) h _ (by rw [hw]; exact List.mem_cons_self))
    cases hn.symm.trans hn9
    exact ⟨meth, c, h1, h2, h3, h4, h5, h6⟩
  · intro p e s m args below meth c s₁ B hml hP _
    have hh0 : s₁.heap = s.heap := by rw [B.state]; rfl
    obtain ⟨t, a1, o, b1, b2, b3⟩ := body p e s m args below meth c s₁ B hml hP s₁ hh0 (Stand.of_body B)
    exact ⟨t, o, a1, b1, b2, b3⟩
/-! ===== END ===== -/
end
section
/-! ===== BEGIN printed: names, fields, word lists, decode rows ===== -/
def RX0 : String := "HilbertHutch$Area"
def TX0 : u_T := fun k => match k with
  | _ => ("", "", "", false)
def tyX0 : Nat → FieldType := fun k => match k with
  | _ => .int
abbrev wsX00 : List Cond := u_ws RX0 TX0 0
theorem nmX0 : ∀ a, a < 0 → ∀ b, b < 0 → a ≠ b → (TX0 a).2.1 ≠ (TX0 b).2.1 := by decide +kernel
theorem tyX0_ok : ∀ k, k < 0 → parseFieldDescriptor (TX0 k).2.2.1 = some (tyX0 k) := by decide +kernel
abbrev cX0_of : ByteArray := prog_2_method_2_code
def yX0_of : MethodName := ⟨RX0, "of", "(IIII)I"⟩
abbrev cX0_side : ByteArray := prog_2_method_3_code
def yX0_side : MethodName := ⟨RX0, "side", "(II)I"⟩
abbrev cX0_meet : ByteArray := prog_2_method_4_code
def yX0_meet : MethodName := ⟨RX0, "meet", "(II)Z"⟩
abbrev cX0_around : ByteArray := prog_2_method_5_code
def yX0_around : MethodName := ⟨RX0, "around", "(II)I"⟩
abbrev cX0_points : ByteArray := prog_2_method_6_code
def yX0_points : MethodName := ⟨RX0, "points", "(I)I"⟩
abbrev cX0_distanceFrom : ByteArray := prog_2_method_7_code
def yX0_distanceFrom : MethodName := ⟨RX0, "distanceFrom", "(III)I"⟩
abbrev cX0_gap : ByteArray := prog_2_method_8_code
def yX0_gap : MethodName := ⟨RX0, "gap", "(III)I"⟩
abbrev cX0_middleKey : ByteArray := prog_2_method_9_code
def yX0_middleKey : MethodName := ⟨RX0, "middleKey", "(I)I"⟩
def RX1 : String := "HilbertHutch$Curve"
def TX1 : u_T := fun k => match k with
  | _ => ("", "", "", false)
def tyX1 : Nat → FieldType := fun k => match k with
  | _ => .int
abbrev wsX10 : List Cond := u_ws RX1 TX1 0
theorem nmX1 : ∀ a, a < 0 → ∀ b, b < 0 → a ≠ b → (TX1 a).2.1 ≠ (TX1 b).2.1 := by decide +kernel
theorem tyX1_ok : ∀ k, k < 0 → parseFieldDescriptor (TX1 k).2.2.1 = some (tyX1 k) := by decide +kernel
abbrev cX1_lengthTo : ByteArray := prog_3_method_2_code
def yX1_lengthTo : MethodName := ⟨RX1, "lengthTo", "(II)I"⟩
abbrev cX1_quarter : ByteArray := prog_3_method_3_code
def yX1_quarter : MethodName := ⟨RX1, "quarter", "(ZZ)I"⟩
def RX2 : String := "HilbertHutch$Stock"
def TX2 : u_T := fun k => match k with
  | 0 => ("HilbertHutch$Stock", "areas", "[I", true)
  | 1 => ("HilbertHutch$Stock", "keys", "[I", true)
  | 2 => ("HilbertHutch$Stock", "there", "[Z", true)
  | 3 => ("HilbertHutch$Stock", "order", "[I", true)
  | 4 => ("HilbertHutch$Stock", "added", "I", false)
  | _ => ("HilbertHutch$Stock", "size", "I", false)
def tyX2 : Nat → FieldType := fun k => match k with
  | 0 => .array .int
  | 1 => .array .int
  | 2 => .array .boolean
  | 3 => .array .int
  | 4 => .int
  | _ => .int
abbrev wsX20 : List Cond := u_ws RX2 TX2 6
theorem nmX2 : ∀ a, a < 6 → ∀ b, b < 6 → a ≠ b → (TX2 a).2.1 ≠ (TX2 b).2.1 := by decide +kernel
theorem tyX2_ok : ∀ k, k < 6 → parseFieldDescriptor (TX2 k).2.2.1 = some (tyX2 k) := by decide +kernel
abbrev cX2_init : ByteArray := prog_4_method_1_code
def yX2_init : MethodName := ⟨RX2, "<init>", "()V"⟩
abbrev cX2_size : ByteArray := prog_4_method_2_code
def yX2_size : MethodName := ⟨RX2, "size", "()I"⟩
abbrev cX2_added : ByteArray := prog_4_method_3_code
def yX2_added : MethodName := ⟨RX2, "added", "()I"⟩
abbrev cX2_hasRoom : ByteArray := prog_4_method_4_code
def yX2_hasRoom : MethodName := ⟨RX2, "hasRoom", "()Z"⟩
abbrev cX2_has : ByteArray := prog_4_method_5_code
def yX2_has : MethodName := ⟨RX2, "has", "(I)Z"⟩
abbrev cX2_areaOf : ByteArray := prog_4_method_6_code
def yX2_areaOf : MethodName := ⟨RX2, "areaOf", "(I)I"⟩
abbrev cX2_keyFor : ByteArray := prog_4_method_7_code
def yX2_keyFor : MethodName := ⟨RX2, "keyFor", "(I)I"⟩
abbrev cX2_numberAt : ByteArray := prog_4_method_8_code
def yX2_numberAt : MethodName := ⟨RX2, "numberAt", "(I)I"⟩
abbrev cX2_areaAt : ByteArray := prog_4_method_9_code
def yX2_areaAt : MethodName := ⟨RX2, "areaAt", "(I)I"⟩
abbrev cX2_placeOf : ByteArray := prog_4_method_10_code
def yX2_placeOf : MethodName := ⟨RX2, "placeOf", "(I)I"⟩
abbrev cX2_haveMet : ByteArray := prog_4_method_11_code
def yX2_haveMet : MethodName := ⟨RX2, "haveMet", "(II)Z"⟩
abbrev cX2_putIn : ByteArray := prog_4_method_12_code
def yX2_putIn : MethodName := ⟨RX2, "putIn", "(I)I"⟩
abbrev cX2_putInOrder : ByteArray := prog_4_method_13_code
def yX2_putInOrder : MethodName := ⟨RX2, "putInOrder", "(I)V"⟩
abbrev cX2_takeOut : ByteArray := prog_4_method_14_code
def yX2_takeOut : MethodName := ⟨RX2, "takeOut", "(I)V"⟩
abbrev cX2_setOrder : ByteArray := prog_4_method_15_code
def yX2_setOrder : MethodName := ⟨RX2, "setOrder", "(II)V"⟩
def RX3 : String := "HilbertHutch$Tree"
def TX3 : u_T := fun k => match k with
  | 0 => ("HilbertHutch$Tree", "loads", "[I", true)
  | 1 => ("HilbertHutch$Tree", "widths", "[I", true)
  | _ => ("HilbertHutch$Tree", "height", "I", false)
def tyX3 : Nat → FieldType := fun k => match k with
  | 0 => .array .int
  | 1 => .array .int
  | _ => .int
abbrev wsX30 : List Cond := u_ws RX3 TX3 3
theorem nmX3 : ∀ a, a < 3 → ∀ b, b < 3 → a ≠ b → (TX3 a).2.1 ≠ (TX3 b).2.1 := by decide +kernel
theorem tyX3_ok : ∀ k, k < 3 → parseFieldDescriptor (TX3 k).2.2.1 = some (tyX3 k) := by decide +kernel
abbrev cX3_init : ByteArray := prog_5_method_1_code
def yX3_init : MethodName := ⟨RX3, "<init>", "()V"⟩
abbrev cX3_height : ByteArray := prog_5_method_2_code
def yX3_height : MethodName := ⟨RX3, "height", "()I"⟩
abbrev cX3_hasLevel : ByteArray := prog_5_method_3_code
def yX3_hasLevel : MethodName := ⟨RX3, "hasLevel", "(I)Z"⟩
abbrev cX3_width : ByteArray := prog_5_method_4_code
def yX3_width : MethodName := ⟨RX3, "width", "(I)I"⟩
abbrev cX3_hasNode : ByteArray := prog_5_method_5_code
def yX3_hasNode : MethodName := ⟨RX3, "hasNode", "(II)Z"⟩
abbrev cX3_load : ByteArray := prog_5_method_6_code
def yX3_load : MethodName := ⟨RX3, "load", "(II)I"⟩
abbrev cX3_setLoad : ByteArray := prog_5_method_7_code
def yX3_setLoad : MethodName := ⟨RX3, "setLoad", "(III)V"⟩
abbrev cX3_setWidth : ByteArray := prog_5_method_8_code
def yX3_setWidth : MethodName := ⟨RX3, "setWidth", "(II)V"⟩
abbrev cX3_entriesBefore : ByteArray := prog_5_method_9_code
def yX3_entriesBefore : MethodName := ⟨RX3, "entriesBefore", "(II)I"⟩
abbrev cX3_boxesBefore : ByteArray := prog_5_method_10_code
def yX3_boxesBefore : MethodName := ⟨RX3, "boxesBefore", "(II)I"⟩
abbrev cX3_holder : ByteArray := prog_5_method_11_code
def yX3_holder : MethodName := ⟨RX3, "holder", "(II)I"⟩
abbrev cX3_parent : ByteArray := prog_5_method_12_code
def yX3_parent : MethodName := ⟨RX3, "parent", "(II)I"⟩
abbrev cX3_partner : ByteArray := prog_5_method_13_code
def yX3_partner : MethodName := ⟨RX3, "partner", "(III)I"⟩
abbrev cX3_grow : ByteArray := prog_5_method_14_code
def yX3_grow : MethodName := ⟨RX3, "grow", "(I)V"⟩
abbrev cX3_gainEntry : ByteArray := prog_5_method_15_code
def yX3_gainEntry : MethodName := ⟨RX3, "gainEntry", "(II)V"⟩
abbrev cX3_addRoot : ByteArray := prog_5_method_16_code
def yX3_addRoot : MethodName := ⟨RX3, "addRoot", "(I)V"⟩
abbrev cX3_relieve : ByteArray := prog_5_method_17_code
def yX3_relieve : MethodName := ⟨RX3, "relieve", "(III)Z"⟩
abbrev cX3_halve : ByteArray := prog_5_method_18_code
def yX3_halve : MethodName := ⟨RX3, "halve", "(II)V"⟩
abbrev cX3_shrink : ByteArray := prog_5_method_19_code
def yX3_shrink : MethodName := ⟨RX3, "shrink", "(I)V"⟩
abbrev cX3_unite : ByteArray := prog_5_method_20_code
def yX3_unite : MethodName := ⟨RX3, "unite", "(III)Z"⟩
abbrev cX3_lowerRoot : ByteArray := prog_5_method_21_code
def yX3_lowerRoot : MethodName := ⟨RX3, "lowerRoot", "()V"⟩
abbrev cX3_insertNode : ByteArray := prog_5_method_22_code
def yX3_insertNode : MethodName := ⟨RX3, "insertNode", "(III)V"⟩
abbrev cX3_deleteNode : ByteArray := prog_5_method_23_code
def yX3_deleteNode : MethodName := ⟨RX3, "deleteNode", "(II)V"⟩
abbrev cX3_planAnew : ByteArray := prog_5_method_24_code
def yX3_planAnew : MethodName := ⟨RX3, "planAnew", "(I)V"⟩
def RX4 : String := "HilbertHutch"
def TX4 : u_T := fun k => match k with
  | 0 => ("HilbertHutch", "stock", "LHilbertHutch$Stock;", true)
  | 1 => ("HilbertHutch", "tree", "LHilbertHutch$Tree;", true)
  | _ => ("HilbertHutch", "ranks", "[I", true)
def tyX4 : Nat → FieldType := fun k => match k with
  | 0 => .object "HilbertHutch$Stock"
  | 1 => .object "HilbertHutch$Tree"
  | _ => .array .int
abbrev wsX40 : List Cond := u_ws RX4 TX4 3
theorem nmX4 : ∀ a, a < 3 → ∀ b, b < 3 → a ≠ b → (TX4 a).2.1 ≠ (TX4 b).2.1 := by decide +kernel
theorem tyX4_ok : ∀ k, k < 3 → parseFieldDescriptor (TX4 k).2.2.1 = some (tyX4 k) := by decide +kernel
abbrev cX4_init : ByteArray := prog_1_method_1_code
def yX4_init : MethodName := ⟨RX4, "<init>", "()V"⟩
abbrev cX4_add : ByteArray := prog_1_method_2_code
def yX4_add : MethodName := ⟨RX4, "add", "(IIII)I"⟩
abbrev cX4_remove : ByteArray := prog_1_method_3_code
def yX4_remove : MethodName := ⟨RX4, "remove", "(I)I"⟩
abbrev cX4_pack : ByteArray := prog_1_method_4_code
def yX4_pack : MethodName := ⟨RX4, "pack", "()I"⟩
abbrev cX4_boxes : ByteArray := prog_1_method_5_code
def yX4_boxes : MethodName := ⟨RX4, "boxes", "()I"⟩
abbrev cX4_key : ByteArray := prog_1_method_6_code
def yX4_key : MethodName := ⟨RX4, "key", "(II)I"⟩
abbrev cX4_keyOf : ByteArray := prog_1_method_7_code
def yX4_keyOf : MethodName := ⟨RX4, "keyOf", "(I)I"⟩
abbrev cX4_sideOf : ByteArray := prog_1_method_8_code
def yX4_sideOf : MethodName := ⟨RX4, "sideOf", "(II)I"⟩
abbrev cX4_levels : ByteArray := prog_1_method_9_code
def yX4_levels : MethodName := ⟨RX4, "levels", "()I"⟩
abbrev cX4_nodes : ByteArray := prog_1_method_10_code
def yX4_nodes : MethodName := ⟨RX4, "nodes", "(I)I"⟩
abbrev cX4_entries : ByteArray := prog_1_method_11_code
def yX4_entries : MethodName := ⟨RX4, "entries", "(II)I"⟩
abbrev cX4_cover : ByteArray := prog_1_method_12_code
def yX4_cover : MethodName := ⟨RX4, "cover", "(III)I"⟩
abbrev cX4_leafOf : ByteArray := prog_1_method_13_code
def yX4_leafOf : MethodName := ⟨RX4, "leafOf", "(I)I"⟩
abbrev cX4_boxAt : ByteArray := prog_1_method_14_code
def yX4_boxAt : MethodName := ⟨RX4, "boxAt", "(I)I"⟩
abbrev cX4_tightness : ByteArray := prog_1_method_15_code
def yX4_tightness : MethodName := ⟨RX4, "tightness", "()F"⟩
abbrev cX4_count : ByteArray := prog_1_method_16_code
def yX4_count : MethodName := ⟨RX4, "count", "(IIII)I"⟩
abbrev cX4_found : ByteArray := prog_1_method_17_code
def yX4_found : MethodName := ⟨RX4, "found", "(IIIII)I"⟩
abbrev cX4_visits : ByteArray := prog_1_method_18_code
def yX4_visits : MethodName := ⟨RX4, "visits", "(IIII)I"⟩
abbrev cX4_nearest : ByteArray := prog_1_method_19_code
def yX4_nearest : MethodName := ⟨RX4, "nearest", "(III)I"⟩
abbrev cX4_distance : ByteArray := prog_1_method_20_code
def yX4_distance : MethodName := ⟨RX4, "distance", "(III)I"⟩
abbrev cX4_pairs : ByteArray := prog_1_method_21_code
def yX4_pairs : MethodName := ⟨RX4, "pairs", "()I"⟩
abbrev cX4_pair : ByteArray := prog_1_method_22_code
def yX4_pair : MethodName := ⟨RX4, "pair", "(I)I"⟩
abbrev cX4_isCoordinate : ByteArray := prog_1_method_23_code
def yX4_isCoordinate : MethodName := ⟨RX4, "isCoordinate", "(I)Z"⟩
abbrev cX4_checkPoint : ByteArray := prog_1_method_24_code
def yX4_checkPoint : MethodName := ⟨RX4, "checkPoint", "(II)V"⟩
abbrev cX4_checkSides : ByteArray := prog_1_method_25_code
def yX4_checkSides : MethodName := ⟨RX4, "checkSides", "(IIII)V"⟩
abbrev cX4_checkSide : ByteArray := prog_1_method_26_code
def yX4_checkSide : MethodName := ⟨RX4, "checkSide", "(I)V"⟩
abbrev cX4_checkBox : ByteArray := prog_1_method_27_code
def yX4_checkBox : MethodName := ⟨RX4, "checkBox", "(I)V"⟩
abbrev cX4_checkNode : ByteArray := prog_1_method_28_code
def yX4_checkNode : MethodName := ⟨RX4, "checkNode", "(II)V"⟩
abbrev cX4_coverOf : ByteArray := prog_1_method_29_code
def yX4_coverOf : MethodName := ⟨RX4, "coverOf", "(II)I"⟩
abbrev cX4_rankByDistance : ByteArray := prog_1_method_30_code
def yX4_rankByDistance : MethodName := ⟨RX4, "rankByDistance", "(II)V"⟩
abbrev cX4_ranksBefore : ByteArray := prog_1_method_31_code
def yX4_ranksBefore : MethodName := ⟨RX4, "ranksBefore", "(I)I"⟩
def RX5 : String := "HilbertHutchModel"
def TX5 : u_T := fun k => match k with
  | _ => ("", "", "", false)
def tyX5 : Nat → FieldType := fun k => match k with
  | _ => .int
abbrev wsX50 : List Cond := u_ws RX5 TX5 0
theorem nmX5 : ∀ a, a < 0 → ∀ b, b < 0 → a ≠ b → (TX5 a).2.1 ≠ (TX5 b).2.1 := by decide +kernel
theorem tyX5_ok : ∀ k, k < 0 → parseFieldDescriptor (TX5 k).2.2.1 = some (tyX5 k) := by decide +kernel
def RJ9 : String := "java/lang/Math"
def TJ9 : u_T := fun k => match k with
  | _ => ("", "", "", false)
def tyJ9 : Nat → FieldType := fun k => match k with
  | _ => .int
abbrev wsJ90 : List Cond := u_ws RJ9 TJ9 0
theorem nmJ9 : ∀ a, a < 0 → ∀ b, b < 0 → a ≠ b → (TJ9 a).2.1 ≠ (TJ9 b).2.1 := by decide +kernel
theorem tyJ9_ok : ∀ k, k < 0 → parseFieldDescriptor (TJ9 k).2.2.1 = some (tyJ9 k) := by decide +kernel
abbrev cJ9_max_7cf53 : ByteArray := prog_12_method_65_code
def yJ9_max_7cf53 : MethodName := ⟨RJ9, "max", "(II)I"⟩
abbrev cJ9_min_7cf53 : ByteArray := prog_12_method_69_code
def yJ9_min_7cf53 : MethodName := ⟨RJ9, "min", "(II)I"⟩
def RJ0 : String := "java/lang/String"
def TJ0 : u_T := fun k => match k with
  | _ => ("", "", "", false)
def tyJ0 : Nat → FieldType := fun k => match k with
  | _ => .int
abbrev wsJ00 : List Cond := u_ws RJ0 TJ0 0
theorem nmJ0 : ∀ a, a < 0 → ∀ b, b < 0 → a ≠ b → (TJ0 a).2.1 ≠ (TJ0 b).2.1 := by decide +kernel
theorem tyJ0_ok : ∀ k, k < 0 → parseFieldDescriptor (TJ0 k).2.2.1 = some (tyJ0 k) := by decide +kernel
def RL : String := "HilbertHutchLaw"
abbrev cL_part : ByteArray := method_2_code
def yL_part : MethodName := ⟨RL, "part", "([III)I"⟩
abbrev cL_adds : ByteArray := method_3_code
def yL_adds : MethodName := ⟨RL, "adds", "(LHilbertHutch;IIII)I"⟩
abbrev cL_removes : ByteArray := method_4_code
def yL_removes : MethodName := ⟨RL, "removes", "(LHilbertHutch;I)I"⟩
abbrev cL_key : ByteArray := method_5_code
def yL_key : MethodName := ⟨RL, "key", "(LHilbertHutch;II)I"⟩
abbrev cL_side : ByteArray := method_6_code
def yL_side : MethodName := ⟨RL, "side", "(LHilbertHutch;II)I"⟩
abbrev cL_tree : ByteArray := method_7_code
def yL_tree : MethodName := ⟨RL, "tree", "(LHilbertHutch;IIII)I"⟩
abbrev cL_meets : ByteArray := method_8_code
def yL_meets : MethodName := ⟨RL, "meets", "(LHilbertHutch;IIIIII)I"⟩
abbrev cL_near : ByteArray := method_9_code
def yL_near : MethodName := ⟨RL, "near", "(LHilbertHutch;ZIII)I"⟩
abbrev cL_pair : ByteArray := method_10_code
def yL_pair : MethodName := ⟨RL, "pair", "(LHilbertHutch;I)I"⟩
abbrev cL_tightness : ByteArray := method_11_code
def yL_tightness : MethodName := ⟨RL, "tightness", "(LHilbertHutch;)F"⟩
abbrev cL_isOrder : ByteArray := method_12_code
def yL_isOrder : MethodName := ⟨RL, "isOrder", "(LHilbertHutch;[I)Z"⟩
abbrev cL_isTree : ByteArray := method_13_code
def yL_isTree : MethodName := ⟨RL, "isTree", "(LHilbertHutch;[I)Z"⟩
abbrev cL_far : ByteArray := method_14_code
def yL_far : MethodName := ⟨RL, "far", "(LHilbertHutch;III)I"⟩
abbrev cL_isNear : ByteArray := method_15_code
def yL_isNear : MethodName := ⟨RL, "isNear", "(LHilbertHutch;[III)Z"⟩
abbrev cL_doMeet : ByteArray := method_16_code
def yL_doMeet : MethodName := ⟨RL, "doMeet", "(LHilbertHutch;IIIII)Z"⟩
abbrev cL_areMet : ByteArray := method_17_code
def yL_areMet : MethodName := ⟨RL, "areMet", "(LHilbertHutch;[IIIII)Z"⟩
abbrev cL_arePairs : ByteArray := method_18_code
def yL_arePairs : MethodName := ⟨RL, "arePairs", "(LHilbertHutch;[I)Z"⟩
abbrev cL_areAll : ByteArray := method_19_code
def yL_areAll : MethodName := ⟨RL, "areAll", "(LHilbertHutch;[I)Z"⟩
abbrev cL_areKeys : ByteArray := method_20_code
def yL_areKeys : MethodName := ⟨RL, "areKeys", "(LHilbertHutch;II)Z"⟩
abbrev cL_isAdded : ByteArray := method_21_code
def yL_isAdded : MethodName := ⟨RL, "isAdded", "(LHilbertHutch;[IIII)Z"⟩
abbrev cL_isDone : ByteArray := method_22_code
def yL_isDone : MethodName := ⟨RL, "isDone", "(LHilbertHutch;[II[I)Z"⟩
abbrev cL_law : ByteArray := code
def yL_law : MethodName := ⟨RL, "law", "([I)Z"⟩
def wsX0_of : List Cond := .code yX0_of cX0_of 4 (some .int) :: ([])
def wsX0_side : List Cond := .code yX0_side cX0_side 2 (some .int) :: ([])
def wsX0_meet : List Cond := .code yX0_meet cX0_meet 2 (some .boolean) :: ([.methodLink RX0 9 yX0_side, .static yX0_side, .initialized RX0, .code yX0_side cX0_side 2 (some .int)])
def wsX0_around : List Cond := .code yX0_around cX0_around 2 (some .int) :: ([.methodLink RX0 15 Lib.Math.min.name, .static Lib.Math.min.name, .initialized "java/lang/Math", .code Lib.Math.min.name Lib.Math.min.code 2 (some .int), .methodLink RX0 20 Lib.Math.max.name, .static Lib.Math.max.name, .code Lib.Math.max.name Lib.Math.max.code 2 (some .int), .methodLink RX0 9 yX0_side, .static yX0_side, .initialized RX0, .code yX0_side cX0_side 2 (some .int), .methodLink RX0 23 yX0_of, .static yX0_of, .code yX0_of cX0_of 4 (some .int)])
def wsX0_points : List Cond := .code yX0_points cX0_points 1 (some .int) :: ([.methodLink RX0 9 yX0_side, .static yX0_side, .initialized RX0, .code yX0_side cX0_side 2 (some .int)])
def wsX0_gap : List Cond := .code yX0_gap cX0_gap 3 (some .int) :: ([.methodLink RX0 20 Lib.Math.max.name, .static Lib.Math.max.name, .initialized "java/lang/Math", .code Lib.Math.max.name Lib.Math.max.code 2 (some .int)])
def wsX0_distanceFrom : List Cond := .code yX0_distanceFrom cX0_distanceFrom 5 (some .int) :: ([.methodLink RX0 9 yX0_side, .static yX0_side, .initialized RX0, .code yX0_side cX0_side 2 (some .int), .methodLink RX0 27 yX0_gap, .static yX0_gap, .code yX0_gap cX0_gap 3 (some .int), .methodLink RX0 20 Lib.Math.max.name, .static Lib.Math.max.name, .initialized "java/lang/Math", .code Lib.Math.max.name Lib.Math.max.code 2 (some .int)])
def wsX1_quarter : List Cond := .code yX1_quarter cX1_quarter 2 (some .int) :: ([])
def wsX1_lengthTo : List Cond := .code yX1_lengthTo cX1_lengthTo 9 (some .int) :: ([.methodLink RX1 9 yX1_quarter, .static yX1_quarter, .initialized RX1, .code yX1_quarter cX1_quarter 2 (some .int)])
def wsX0_middleKey : List Cond := .code yX0_middleKey cX0_middleKey 3 (some .int) :: ([.methodLink RX0 9 yX0_side, .static yX0_side, .initialized RX0, .code yX0_side cX0_side 2 (some .int), .methodLink RX0 31 yX1_lengthTo, .static yX1_lengthTo, .initialized RX1, .code yX1_lengthTo cX1_lengthTo 9 (some .int), .methodLink RX1 9 yX1_quarter, .static yX1_quarter, .code yX1_quarter cX1_quarter 2 (some .int)])
def wsX2_init : List Cond := .code yX2_init cX2_init 1 none :: ([.methodLink RX2 3 objectInit, .instanceMethod objectInit, .code objectInit ⟨#[0xb1]⟩ 1 none, .arrayClass .int, .fieldLink RX2 9 "HilbertHutch$Stock" "areas" "[I", .fieldLink RX2 15 "HilbertHutch$Stock" "keys" "[I", .arrayClass .boolean, .fieldLink RX2 18 "HilbertHutch$Stock" "there" "[Z", .fieldLink RX2 22 "HilbertHutch$Stock" "order" "[I"] ++ wsX20)
def wsX2_size : List Cond := .code yX2_size cX2_size 1 (some .int) :: ([.fieldLink RX2 25 "HilbertHutch$Stock" "size" "I"] ++ wsX20)
def wsX2_added : List Cond := .code yX2_added cX2_added 1 (some .int) :: ([.fieldLink RX2 29 "HilbertHutch$Stock" "added" "I"] ++ wsX20)
def wsX2_hasRoom : List Cond := .code yX2_hasRoom cX2_hasRoom 1 (some .boolean) :: ([.fieldLink RX2 29 "HilbertHutch$Stock" "added" "I", .fieldLink RX2 25 "HilbertHutch$Stock" "size" "I"] ++ wsX20)
def wsX2_has : List Cond := .code yX2_has cX2_has 2 (some .boolean) :: ([.fieldLink RX2 18 "HilbertHutch$Stock" "there" "[Z"] ++ wsX20)
def wsX2_areaOf : List Cond := .code yX2_areaOf cX2_areaOf 2 (some .int) :: ([.fieldLink RX2 9 "HilbertHutch$Stock" "areas" "[I"] ++ wsX20)
def wsX2_keyFor : List Cond := .code yX2_keyFor cX2_keyFor 2 (some .int) :: ([.fieldLink RX2 15 "HilbertHutch$Stock" "keys" "[I"] ++ wsX20)
def wsX2_numberAt : List Cond := .code yX2_numberAt cX2_numberAt 2 (some .int) :: ([.fieldLink RX2 22 "HilbertHutch$Stock" "order" "[I", .fieldLink RX2 25 "HilbertHutch$Stock" "size" "I"] ++ wsX20)
def wsX2_areaAt : List Cond := .code yX2_areaAt cX2_areaAt 2 (some .int) :: ([.methodLink RX2 32 yX2_numberAt, .instanceMethod yX2_numberAt, .selects RX2 yX2_numberAt yX2_numberAt, .initialized RX2, .code yX2_numberAt cX2_numberAt 2 (some .int), .fieldLink RX2 22 "HilbertHutch$Stock" "order" "[I", .fieldLink RX2 25 "HilbertHutch$Stock" "size" "I", .methodLink RX2 36 yX2_areaOf, .instanceMethod yX2_areaOf, .selects RX2 yX2_areaOf yX2_areaOf, .code yX2_areaOf cX2_areaOf 2 (some .int), .fieldLink RX2 9 "HilbertHutch$Stock" "areas" "[I"] ++ wsX20)
def wsX2_placeOf : List Cond := .code yX2_placeOf cX2_placeOf 3 (some .int) :: ([.fieldLink RX2 25 "HilbertHutch$Stock" "size" "I", .methodLink RX2 32 yX2_numberAt, .instanceMethod yX2_numberAt, .selects RX2 yX2_numberAt yX2_numberAt, .initialized RX2, .code yX2_numberAt cX2_numberAt 2 (some .int), .fieldLink RX2 22 "HilbertHutch$Stock" "order" "[I"] ++ wsX20)
def wsX2_haveMet : List Cond := .code yX2_haveMet cX2_haveMet 3 (some .boolean) :: ([.methodLink RX2 39 yX2_has, .instanceMethod yX2_has, .selects RX2 yX2_has yX2_has, .initialized RX2, .code yX2_has cX2_has 2 (some .boolean), .fieldLink RX2 18 "HilbertHutch$Stock" "there" "[Z", .methodLink RX2 36 yX2_areaOf, .instanceMethod yX2_areaOf, .selects RX2 yX2_areaOf yX2_areaOf, .code yX2_areaOf cX2_areaOf 2 (some .int), .fieldLink RX2 9 "HilbertHutch$Stock" "areas" "[I", .methodLink RX2 43 yX0_meet, .static yX0_meet, .initialized RX0, .code yX0_meet cX0_meet 2 (some .boolean), .methodLink RX0 9 yX0_side, .static yX0_side, .code yX0_side cX0_side 2 (some .int)] ++ wsX20)
def wsX2_setOrder : List Cond := .code yX2_setOrder cX2_setOrder 3 none :: ([.fieldLink RX2 22 "HilbertHutch$Stock" "order" "[I"] ++ wsX20)
def wsX2_putInOrder : List Cond := .code yX2_putInOrder cX2_putInOrder 4 none :: ([.fieldLink RX2 25 "HilbertHutch$Stock" "size" "I", .methodLink RX2 32 yX2_numberAt, .instanceMethod yX2_numberAt, .selects RX2 yX2_numberAt yX2_numberAt, .initialized RX2, .code yX2_numberAt cX2_numberAt 2 (some .int), .fieldLink RX2 22 "HilbertHutch$Stock" "order" "[I", .methodLink RX2 56 yX2_keyFor, .instanceMethod yX2_keyFor, .selects RX2 yX2_keyFor yX2_keyFor, .code yX2_keyFor cX2_keyFor 2 (some .int), .fieldLink RX2 15 "HilbertHutch$Stock" "keys" "[I", .methodLink RX2 59 yX2_setOrder, .instanceMethod yX2_setOrder, .selects RX2 yX2_setOrder yX2_setOrder, .code yX2_setOrder cX2_setOrder 3 none] ++ wsX20)
def wsX2_putIn_r1 : List Cond := [Cond.fieldLink RX2 29 "HilbertHutch$Stock" "added" "I", Cond.fieldLink RX2 9 "HilbertHutch$Stock" "areas" "[I", Cond.fieldLink RX2 15 "HilbertHutch$Stock" "keys" "[I", Cond.fieldLink RX2 18 "HilbertHutch$Stock" "there" "[Z", Cond.methodLink RX2 49 yX0_middleKey, Cond.static yX0_middleKey, Cond.initialized RX0, Cond.code yX0_middleKey cX0_middleKey 3 (some .int), Cond.methodLink RX0 9 yX0_side, Cond.static yX0_side, Cond.code yX0_side cX0_side 2 (some .int), Cond.methodLink RX0 31 yX1_lengthTo, Cond.static yX1_lengthTo, Cond.initialized RX1, Cond.code yX1_lengthTo cX1_lengthTo 9 (some .int), Cond.methodLink RX1 9 yX1_quarter, Cond.static yX1_quarter, Cond.code yX1_quarter cX1_quarter 2 (some .int), Cond.methodLink RX2 52 yX2_putInOrder, Cond.instanceMethod yX2_putInOrder, Cond.selects RX2 yX2_putInOrder yX2_putInOrder, Cond.initialized RX2, Cond.code yX2_putInOrder cX2_putInOrder 4 none, Cond.fieldLink RX2 25 "HilbertHutch$Stock" "size" "I"]
def wsX2_putIn_r2 : List Cond := [Cond.methodLink RX2 32 yX2_numberAt, Cond.instanceMethod yX2_numberAt, Cond.selects RX2 yX2_numberAt yX2_numberAt, Cond.code yX2_numberAt cX2_numberAt 2 (some .int), Cond.fieldLink RX2 22 "HilbertHutch$Stock" "order" "[I", Cond.methodLink RX2 56 yX2_keyFor, Cond.instanceMethod yX2_keyFor, Cond.selects RX2 yX2_keyFor yX2_keyFor, Cond.code yX2_keyFor cX2_keyFor 2 (some .int), Cond.methodLink RX2 59 yX2_setOrder, Cond.instanceMethod yX2_setOrder, Cond.selects RX2 yX2_setOrder yX2_setOrder, Cond.code yX2_setOrder cX2_setOrder 3 none]
def wsX2_putIn : List Cond := .code yX2_putIn cX2_putIn 3 (some .int) :: ((wsX2_putIn_r1 ++ wsX2_putIn_r2) ++ wsX20)
def wsX2_takeOut : List Cond := .code yX2_takeOut cX2_takeOut 4 none :: ([.fieldLink RX2 18 "HilbertHutch$Stock" "there" "[Z", .fieldLink RX2 25 "HilbertHutch$Stock" "size" "I", .methodLink RX2 63 yX2_placeOf, .instanceMethod yX2_placeOf, .selects RX2 yX2_placeOf yX2_placeOf, .initialized RX2, .code yX2_placeOf cX2_placeOf 3 (some .int), .methodLink RX2 32 yX2_numberAt, .instanceMethod yX2_numberAt, .selects RX2 yX2_numberAt yX2_numberAt, .code yX2_numberAt cX2_numberAt 2 (some .int), .fieldLink RX2 22 "HilbertHutch$Stock" "order" "[I", .methodLink RX2 39 yX2_has, .instanceMethod yX2_has, .selects RX2 yX2_has yX2_has, .code yX2_has cX2_has 2 (some .boolean), .methodLink RX2 59 yX2_setOrder, .instanceMethod yX2_setOrder, .selects RX2 yX2_setOrder yX2_setOrder, .code yX2_setOrder cX2_setOrder 3 none] ++ wsX20)
def wsX3_init : List Cond := .code yX3_init cX3_init 1 none :: ([.methodLink RX3 3 objectInit, .instanceMethod objectInit, .code objectInit ⟨#[0xb1]⟩ 1 none, .arrayClass .int, .fieldLink RX3 11 "HilbertHutch$Tree" "loads" "[I", .fieldLink RX3 15 "HilbertHutch$Tree" "widths" "[I"] ++ wsX30)
def wsX3_height : List Cond := .code yX3_height cX3_height 1 (some .int) :: ([.fieldLink RX3 18 "HilbertHutch$Tree" "height" "I"] ++ wsX30)
def wsX3_hasLevel : List Cond := .code yX3_hasLevel cX3_hasLevel 2 (some .boolean) :: ([.fieldLink RX3 18 "HilbertHutch$Tree" "height" "I"] ++ wsX30)
def wsX3_width : List Cond := .code yX3_width cX3_width 2 (some .int) :: ([.fieldLink RX3 18 "HilbertHutch$Tree" "height" "I", .fieldLink RX3 15 "HilbertHutch$Tree" "widths" "[I"] ++ wsX30)
def wsX3_hasNode : List Cond := .code yX3_hasNode cX3_hasNode 3 (some .boolean) :: ([.fieldLink RX3 18 "HilbertHutch$Tree" "height" "I", .fieldLink RX3 15 "HilbertHutch$Tree" "widths" "[I"] ++ wsX30)
def wsX3_load : List Cond := .code yX3_load cX3_load 4 (some .int) :: ([.fieldLink RX3 11 "HilbertHutch$Tree" "loads" "[I", .methodLink RX3 22 yX3_hasNode, .instanceMethod yX3_hasNode, .selects RX3 yX3_hasNode yX3_hasNode, .initialized RX3, .code yX3_hasNode cX3_hasNode 3 (some .boolean), .fieldLink RX3 18 "HilbertHutch$Tree" "height" "I", .fieldLink RX3 15 "HilbertHutch$Tree" "widths" "[I"] ++ wsX30)
def wsX3_setLoad : List Cond := .code yX3_setLoad cX3_setLoad 5 none :: ([.fieldLink RX3 11 "HilbertHutch$Tree" "loads" "[I", .methodLink RX3 22 yX3_hasNode, .instanceMethod yX3_hasNode, .selects RX3 yX3_hasNode yX3_hasNode, .initialized RX3, .code yX3_hasNode cX3_hasNode 3 (some .boolean), .fieldLink RX3 18 "HilbertHutch$Tree" "height" "I", .fieldLink RX3 15 "HilbertHutch$Tree" "widths" "[I"] ++ wsX30)
def wsX3_setWidth : List Cond := .code yX3_setWidth cX3_setWidth 3 none :: ([.fieldLink RX3 15 "HilbertHutch$Tree" "widths" "[I"] ++ wsX30)
def wsX3_entriesBefore : List Cond := .code yX3_entriesBefore cX3_entriesBefore 5 (some .int) :: ([.methodLink RX3 26 yX3_width, .instanceMethod yX3_width, .selects RX3 yX3_width yX3_width, .initialized RX3, .code yX3_width cX3_width 2 (some .int), .fieldLink RX3 18 "HilbertHutch$Tree" "height" "I", .fieldLink RX3 15 "HilbertHutch$Tree" "widths" "[I", .methodLink RX3 30 yX3_load, .instanceMethod yX3_load, .selects RX3 yX3_load yX3_load, .code yX3_load cX3_load 4 (some .int), .fieldLink RX3 11 "HilbertHutch$Tree" "loads" "[I", .methodLink RX3 22 yX3_hasNode, .instanceMethod yX3_hasNode, .selects RX3 yX3_hasNode yX3_hasNode, .code yX3_hasNode cX3_hasNode 3 (some .boolean)] ++ wsX30)
def wsX3_boxesBefore : List Cond := .code yX3_boxesBefore cX3_boxesBefore 5 (some .int) :: ([.methodLink RX3 34 yX3_entriesBefore, .instanceMethod yX3_entriesBefore, .selects RX3 yX3_entriesBefore yX3_entriesBefore, .initialized RX3, .code yX3_entriesBefore cX3_entriesBefore 5 (some .int), .methodLink RX3 26 yX3_width, .instanceMethod yX3_width, .selects RX3 yX3_width yX3_width, .code yX3_width cX3_width 2 (some .int), .fieldLink RX3 18 "HilbertHutch$Tree" "height" "I", .fieldLink RX3 15 "HilbertHutch$Tree" "widths" "[I", .methodLink RX3 30 yX3_load, .instanceMethod yX3_load, .selects RX3 yX3_load yX3_load, .code yX3_load cX3_load 4 (some .int), .fieldLink RX3 11 "HilbertHutch$Tree" "loads" "[I", .methodLink RX3 22 yX3_hasNode, .instanceMethod yX3_hasNode, .selects RX3 yX3_hasNode yX3_hasNode, .code yX3_hasNode cX3_hasNode 3 (some .boolean)] ++ wsX30)
def wsX3_holder : List Cond := .code yX3_holder cX3_holder 5 (some .int) :: ([.methodLink RX3 26 yX3_width, .instanceMethod yX3_width, .selects RX3 yX3_width yX3_width, .initialized RX3, .code yX3_width cX3_width 2 (some .int), .fieldLink RX3 18 "HilbertHutch$Tree" "height" "I", .fieldLink RX3 15 "HilbertHutch$Tree" "widths" "[I", .methodLink RX3 30 yX3_load, .instanceMethod yX3_load, .selects RX3 yX3_load yX3_load, .code yX3_load cX3_load 4 (some .int), .fieldLink RX3 11 "HilbertHutch$Tree" "loads" "[I", .methodLink RX3 22 yX3_hasNode, .instanceMethod yX3_hasNode, .selects RX3 yX3_hasNode yX3_hasNode, .code yX3_hasNode cX3_hasNode 3 (some .boolean)] ++ wsX30)
def wsX3_parent : List Cond := .code yX3_parent cX3_parent 3 (some .int) :: ([.methodLink RX3 37 yX3_hasLevel, .instanceMethod yX3_hasLevel, .selects RX3 yX3_hasLevel yX3_hasLevel, .initialized RX3, .code yX3_hasLevel cX3_hasLevel 2 (some .boolean), .fieldLink RX3 18 "HilbertHutch$Tree" "height" "I", .methodLink RX3 41 yX3_holder, .instanceMethod yX3_holder, .selects RX3 yX3_holder yX3_holder, .code yX3_holder cX3_holder 5 (some .int), .methodLink RX3 26 yX3_width, .instanceMethod yX3_width, .selects RX3 yX3_width yX3_width, .code yX3_width cX3_width 2 (some .int), .fieldLink RX3 15 "HilbertHutch$Tree" "widths" "[I", .methodLink RX3 30 yX3_load, .instanceMethod yX3_load, .selects RX3 yX3_load yX3_load, .code yX3_load cX3_load 4 (some .int), .fieldLink RX3 11 "HilbertHutch$Tree" "loads" "[I", .methodLink RX3 22 yX3_hasNode, .instanceMethod yX3_hasNode, .selects RX3 yX3_hasNode yX3_hasNode, .code yX3_hasNode cX3_hasNode 3 (some .boolean)] ++ wsX30)
def wsX3_partner : List Cond := .code yX3_partner cX3_partner 6 (some .int) :: ([.methodLink RX3 34 yX3_entriesBefore, .instanceMethod yX3_entriesBefore, .selects RX3 yX3_entriesBefore yX3_entriesBefore, .initialized RX3, .code yX3_entriesBefore cX3_entriesBefore 5 (some .int), .methodLink RX3 26 yX3_width, .instanceMethod yX3_width, .selects RX3 yX3_width yX3_width, .code yX3_width cX3_width 2 (some .int), .fieldLink RX3 18 "HilbertHutch$Tree" "height" "I", .fieldLink RX3 15 "HilbertHutch$Tree" "widths" "[I", .methodLink RX3 30 yX3_load, .instanceMethod yX3_load, .selects RX3 yX3_load yX3_load, .code yX3_load cX3_load 4 (some .int), .fieldLink RX3 11 "HilbertHutch$Tree" "loads" "[I", .methodLink RX3 22 yX3_hasNode, .instanceMethod yX3_hasNode, .selects RX3 yX3_hasNode yX3_hasNode, .code yX3_hasNode cX3_hasNode 3 (some .boolean)] ++ wsX30)
def wsX3_addRoot : List Cond := .code yX3_addRoot cX3_addRoot 2 none :: ([.fieldLink RX3 18 "HilbertHutch$Tree" "height" "I", .methodLink RX3 63 yX3_setWidth, .instanceMethod yX3_setWidth, .selects RX3 yX3_setWidth yX3_setWidth, .initialized RX3, .code yX3_setWidth cX3_setWidth 3 none, .fieldLink RX3 15 "HilbertHutch$Tree" "widths" "[I", .methodLink RX3 48 yX3_setLoad, .instanceMethod yX3_setLoad, .selects RX3 yX3_setLoad yX3_setLoad, .code yX3_setLoad cX3_setLoad 5 none, .fieldLink RX3 11 "HilbertHutch$Tree" "loads" "[I", .methodLink RX3 22 yX3_hasNode, .instanceMethod yX3_hasNode, .selects RX3 yX3_hasNode yX3_hasNode, .code yX3_hasNode cX3_hasNode 3 (some .boolean)] ++ wsX30)
def wsX3_insertNode : List Cond := .code yX3_insertNode cX3_insertNode 6 none :: ([.methodLink RX3 26 yX3_width, .instanceMethod yX3_width, .selects RX3 yX3_width yX3_width, .initialized RX3, .code yX3_width cX3_width 2 (some .int), .fieldLink RX3 18 "HilbertHutch$Tree" "height" "I", .fieldLink RX3 15 "HilbertHutch$Tree" "widths" "[I", .methodLink RX3 63 yX3_setWidth, .instanceMethod yX3_setWidth, .selects RX3 yX3_setWidth yX3_setWidth, .code yX3_setWidth cX3_setWidth 3 none, .methodLink RX3 30 yX3_load, .instanceMethod yX3_load, .selects RX3 yX3_load yX3_load, .code yX3_load cX3_load 4 (some .int), .fieldLink RX3 11 "HilbertHutch$Tree" "loads" "[I", .methodLink RX3 22 yX3_hasNode, .instanceMethod yX3_hasNode, .selects RX3 yX3_hasNode yX3_hasNode, .code yX3_hasNode cX3_hasNode 3 (some .boolean), .methodLink RX3 48 yX3_setLoad, .instanceMethod yX3_setLoad, .selects RX3 yX3_setLoad yX3_setLoad, .code yX3_setLoad cX3_setLoad 5 none] ++ wsX30)
def wsX3_halve : List Cond := .code yX3_halve cX3_halve 4 none :: ([.methodLink RX3 30 yX3_load, .instanceMethod yX3_load, .selects RX3 yX3_load yX3_load, .initialized RX3, .code yX3_load cX3_load 4 (some .int), .fieldLink RX3 11 "HilbertHutch$Tree" "loads" "[I", .methodLink RX3 22 yX3_hasNode, .instanceMethod yX3_hasNode, .selects RX3 yX3_hasNode yX3_hasNode, .code yX3_hasNode cX3_hasNode 3 (some .boolean), .fieldLink RX3 18 "HilbertHutch$Tree" "height" "I", .fieldLink RX3 15 "HilbertHutch$Tree" "widths" "[I", .methodLink RX3 48 yX3_setLoad, .instanceMethod yX3_setLoad, .selects RX3 yX3_setLoad yX3_setLoad, .code yX3_setLoad cX3_setLoad 5 none] ++ wsX30)
def wsX3_relieve_r1 : List Cond := [Cond.methodLink RX3 73 Lib.Math.min.name, Cond.static Lib.Math.min.name, Cond.initialized "java/lang/Math", Cond.code Lib.Math.min.name Lib.Math.min.code 2 (some .int), Cond.methodLink RX3 66 yX3_partner, Cond.instanceMethod yX3_partner, Cond.selects RX3 yX3_partner yX3_partner, Cond.initialized RX3, Cond.code yX3_partner cX3_partner 6 (some .int), Cond.methodLink RX3 34 yX3_entriesBefore, Cond.instanceMethod yX3_entriesBefore, Cond.selects RX3 yX3_entriesBefore yX3_entriesBefore, Cond.code yX3_entriesBefore cX3_entriesBefore 5 (some .int), Cond.methodLink RX3 26 yX3_width, Cond.instanceMethod yX3_width, Cond.selects RX3 yX3_width yX3_width, Cond.code yX3_width cX3_width 2 (some .int), Cond.fieldLink RX3 18 "HilbertHutch$Tree" "height" "I", Cond.fieldLink RX3 15 "HilbertHutch$Tree" "widths" "[I", Cond.methodLink RX3 30 yX3_load, Cond.instanceMethod yX3_load, Cond.selects RX3 yX3_load yX3_load, Cond.code yX3_load cX3_load 4 (some .int), Cond.fieldLink RX3 11 "HilbertHutch$Tree" "loads" "[I"]
def wsX3_relieve_r2 : List Cond := [Cond.methodLink RX3 22 yX3_hasNode, Cond.instanceMethod yX3_hasNode, Cond.selects RX3 yX3_hasNode yX3_hasNode, Cond.code yX3_hasNode cX3_hasNode 3 (some .boolean), Cond.methodLink RX3 48 yX3_setLoad, Cond.instanceMethod yX3_setLoad, Cond.selects RX3 yX3_setLoad yX3_setLoad, Cond.code yX3_setLoad cX3_setLoad 5 none, Cond.methodLink RX3 70 yX3_insertNode, Cond.instanceMethod yX3_insertNode, Cond.selects RX3 yX3_insertNode yX3_insertNode, Cond.code yX3_insertNode cX3_insertNode 6 none, Cond.methodLink RX3 63 yX3_setWidth, Cond.instanceMethod yX3_setWidth, Cond.selects RX3 yX3_setWidth yX3_setWidth, Cond.code yX3_setWidth cX3_setWidth 3 none, Cond.methodLink RX3 78 yX3_halve, Cond.instanceMethod yX3_halve, Cond.selects RX3 yX3_halve yX3_halve, Cond.code yX3_halve cX3_halve 4 none]
def wsX3_relieve : List Cond := .code yX3_relieve cX3_relieve 6 (some .boolean) :: ((wsX3_relieve_r1 ++ wsX3_relieve_r2) ++ wsX30)
def wsX3_gainEntry : List Cond := .code yX3_gainEntry cX3_gainEntry 3 none :: ([.methodLink RX3 44 yX3_addRoot, .instanceMethod yX3_addRoot, .selects RX3 yX3_addRoot yX3_addRoot, .initialized RX3, .code yX3_addRoot cX3_addRoot 2 none, .fieldLink RX3 18 "HilbertHutch$Tree" "height" "I", .methodLink RX3 63 yX3_setWidth, .instanceMethod yX3_setWidth, .selects RX3 yX3_setWidth yX3_setWidth, .code yX3_setWidth cX3_setWidth 3 none, .fieldLink RX3 15 "HilbertHutch$Tree" "widths" "[I", .methodLink RX3 48 yX3_setLoad, .instanceMethod yX3_setLoad, .selects RX3 yX3_setLoad yX3_setLoad, .code yX3_setLoad cX3_setLoad 5 none, .fieldLink RX3 11 "HilbertHutch$Tree" "loads" "[I", .methodLink RX3 22 yX3_hasNode, .instanceMethod yX3_hasNode, .selects RX3 yX3_hasNode yX3_hasNode, .code yX3_hasNode cX3_hasNode 3 (some .boolean), .methodLink RX3 30 yX3_load, .instanceMethod yX3_load, .selects RX3 yX3_load yX3_load, .code yX3_load cX3_load 4 (some .int)] ++ wsX30)
def wsX3_grow_r1 : List Cond := [Cond.fieldLink RX3 18 "HilbertHutch$Tree" "height" "I", Cond.methodLink RX3 44 yX3_addRoot, Cond.instanceMethod yX3_addRoot, Cond.selects RX3 yX3_addRoot yX3_addRoot, Cond.initialized RX3, Cond.code yX3_addRoot cX3_addRoot 2 none, Cond.methodLink RX3 63 yX3_setWidth, Cond.instanceMethod yX3_setWidth, Cond.selects RX3 yX3_setWidth yX3_setWidth, Cond.code yX3_setWidth cX3_setWidth 3 none, Cond.fieldLink RX3 15 "HilbertHutch$Tree" "widths" "[I", Cond.methodLink RX3 48 yX3_setLoad, Cond.instanceMethod yX3_setLoad, Cond.selects RX3 yX3_setLoad yX3_setLoad, Cond.code yX3_setLoad cX3_setLoad 5 none, Cond.fieldLink RX3 11 "HilbertHutch$Tree" "loads" "[I", Cond.methodLink RX3 22 yX3_hasNode, Cond.instanceMethod yX3_hasNode, Cond.selects RX3 yX3_hasNode yX3_hasNode, Cond.code yX3_hasNode cX3_hasNode 3 (some .boolean), Cond.methodLink RX3 41 yX3_holder, Cond.instanceMethod yX3_holder, Cond.selects RX3 yX3_holder yX3_holder, Cond.code yX3_holder cX3_holder 5 (some .int)]
def wsX3_grow_r2 : List Cond := [Cond.methodLink RX3 26 yX3_width, Cond.instanceMethod yX3_width, Cond.selects RX3 yX3_width yX3_width, Cond.code yX3_width cX3_width 2 (some .int), Cond.methodLink RX3 30 yX3_load, Cond.instanceMethod yX3_load, Cond.selects RX3 yX3_load yX3_load, Cond.code yX3_load cX3_load 4 (some .int), Cond.methodLink RX3 52 yX3_parent, Cond.instanceMethod yX3_parent, Cond.selects RX3 yX3_parent yX3_parent, Cond.code yX3_parent cX3_parent 3 (some .int), Cond.methodLink RX3 37 yX3_hasLevel, Cond.instanceMethod yX3_hasLevel, Cond.selects RX3 yX3_hasLevel yX3_hasLevel, Cond.code yX3_hasLevel cX3_hasLevel 2 (some .boolean), Cond.methodLink RX3 55 yX3_relieve, Cond.instanceMethod yX3_relieve, Cond.selects RX3 yX3_relieve yX3_relieve, Cond.code yX3_relieve cX3_relieve 6 (some .boolean), Cond.methodLink RX3 73 Lib.Math.min.name, Cond.static Lib.Math.min.name, Cond.initialized "java/lang/Math", Cond.code Lib.Math.min.name Lib.Math.min.code 2 (some .int)]
def wsX3_grow_r3 : List Cond := [Cond.methodLink RX3 66 yX3_partner, Cond.instanceMethod yX3_partner, Cond.selects RX3 yX3_partner yX3_partner, Cond.code yX3_partner cX3_partner 6 (some .int), Cond.methodLink RX3 34 yX3_entriesBefore, Cond.instanceMethod yX3_entriesBefore, Cond.selects RX3 yX3_entriesBefore yX3_entriesBefore, Cond.code yX3_entriesBefore cX3_entriesBefore 5 (some .int), Cond.methodLink RX3 70 yX3_insertNode, Cond.instanceMethod yX3_insertNode, Cond.selects RX3 yX3_insertNode yX3_insertNode, Cond.code yX3_insertNode cX3_insertNode 6 none, Cond.methodLink RX3 78 yX3_halve, Cond.instanceMethod yX3_halve, Cond.selects RX3 yX3_halve yX3_halve, Cond.code yX3_halve cX3_halve 4 none, Cond.methodLink RX3 59 yX3_gainEntry, Cond.instanceMethod yX3_gainEntry, Cond.selects RX3 yX3_gainEntry yX3_gainEntry, Cond.code yX3_gainEntry cX3_gainEntry 3 none]
def wsX3_grow : List Cond := .code yX3_grow cX3_grow 5 none :: ((wsX3_grow_r1 ++ (wsX3_grow_r2 ++ wsX3_grow_r3)) ++ wsX30)
def wsX3_deleteNode_r1 : List Cond := [Cond.methodLink RX3 90 Lib.Math.max.name, Cond.static Lib.Math.max.name, Cond.initialized "java/lang/Math", Cond.code Lib.Math.max.name Lib.Math.max.code 2 (some .int), Cond.methodLink RX3 26 yX3_width, Cond.instanceMethod yX3_width, Cond.selects RX3 yX3_width yX3_width, Cond.initialized RX3, Cond.code yX3_width cX3_width 2 (some .int), Cond.fieldLink RX3 18 "HilbertHutch$Tree" "height" "I", Cond.fieldLink RX3 15 "HilbertHutch$Tree" "widths" "[I", Cond.methodLink RX3 30 yX3_load, Cond.instanceMethod yX3_load, Cond.selects RX3 yX3_load yX3_load, Cond.code yX3_load cX3_load 4 (some .int), Cond.fieldLink RX3 11 "HilbertHutch$Tree" "loads" "[I", Cond.methodLink RX3 22 yX3_hasNode, Cond.instanceMethod yX3_hasNode, Cond.selects RX3 yX3_hasNode yX3_hasNode, Cond.code yX3_hasNode cX3_hasNode 3 (some .boolean), Cond.methodLink RX3 48 yX3_setLoad, Cond.instanceMethod yX3_setLoad, Cond.selects RX3 yX3_setLoad yX3_setLoad, Cond.code yX3_setLoad cX3_setLoad 5 none]
def wsX3_deleteNode_r2 : List Cond := [Cond.methodLink RX3 63 yX3_setWidth, Cond.instanceMethod yX3_setWidth, Cond.selects RX3 yX3_setWidth yX3_setWidth, Cond.code yX3_setWidth cX3_setWidth 3 none]
def wsX3_deleteNode : List Cond := .code yX3_deleteNode cX3_deleteNode 5 none :: ((wsX3_deleteNode_r1 ++ wsX3_deleteNode_r2) ++ wsX30)
def wsX3_unite_r1 : List Cond := [Cond.methodLink RX3 73 Lib.Math.min.name, Cond.static Lib.Math.min.name, Cond.initialized "java/lang/Math", Cond.code Lib.Math.min.name Lib.Math.min.code 2 (some .int), Cond.methodLink RX3 66 yX3_partner, Cond.instanceMethod yX3_partner, Cond.selects RX3 yX3_partner yX3_partner, Cond.initialized RX3, Cond.code yX3_partner cX3_partner 6 (some .int), Cond.methodLink RX3 34 yX3_entriesBefore, Cond.instanceMethod yX3_entriesBefore, Cond.selects RX3 yX3_entriesBefore yX3_entriesBefore, Cond.code yX3_entriesBefore cX3_entriesBefore 5 (some .int), Cond.methodLink RX3 26 yX3_width, Cond.instanceMethod yX3_width, Cond.selects RX3 yX3_width yX3_width, Cond.code yX3_width cX3_width 2 (some .int), Cond.fieldLink RX3 18 "HilbertHutch$Tree" "height" "I", Cond.fieldLink RX3 15 "HilbertHutch$Tree" "widths" "[I", Cond.methodLink RX3 30 yX3_load, Cond.instanceMethod yX3_load, Cond.selects RX3 yX3_load yX3_load, Cond.code yX3_load cX3_load 4 (some .int), Cond.fieldLink RX3 11 "HilbertHutch$Tree" "loads" "[I"]
def wsX3_unite_r2 : List Cond := [Cond.methodLink RX3 22 yX3_hasNode, Cond.instanceMethod yX3_hasNode, Cond.selects RX3 yX3_hasNode yX3_hasNode, Cond.code yX3_hasNode cX3_hasNode 3 (some .boolean), Cond.methodLink RX3 87 yX3_deleteNode, Cond.instanceMethod yX3_deleteNode, Cond.selects RX3 yX3_deleteNode yX3_deleteNode, Cond.code yX3_deleteNode cX3_deleteNode 5 none, Cond.methodLink RX3 90 Lib.Math.max.name, Cond.static Lib.Math.max.name, Cond.code Lib.Math.max.name Lib.Math.max.code 2 (some .int), Cond.methodLink RX3 48 yX3_setLoad, Cond.instanceMethod yX3_setLoad, Cond.selects RX3 yX3_setLoad yX3_setLoad, Cond.code yX3_setLoad cX3_setLoad 5 none, Cond.methodLink RX3 63 yX3_setWidth, Cond.instanceMethod yX3_setWidth, Cond.selects RX3 yX3_setWidth yX3_setWidth, Cond.code yX3_setWidth cX3_setWidth 3 none, Cond.methodLink RX3 78 yX3_halve, Cond.instanceMethod yX3_halve, Cond.selects RX3 yX3_halve yX3_halve, Cond.code yX3_halve cX3_halve 4 none]
def wsX3_unite : List Cond := .code yX3_unite cX3_unite 7 (some .boolean) :: ((wsX3_unite_r1 ++ wsX3_unite_r2) ++ wsX30)
def wsX3_lowerRoot : List Cond := .code yX3_lowerRoot cX3_lowerRoot 2 none :: ([.fieldLink RX3 18 "HilbertHutch$Tree" "height" "I", .methodLink RX3 30 yX3_load, .instanceMethod yX3_load, .selects RX3 yX3_load yX3_load, .initialized RX3, .code yX3_load cX3_load 4 (some .int), .fieldLink RX3 11 "HilbertHutch$Tree" "loads" "[I", .methodLink RX3 22 yX3_hasNode, .instanceMethod yX3_hasNode, .selects RX3 yX3_hasNode yX3_hasNode, .code yX3_hasNode cX3_hasNode 3 (some .boolean), .fieldLink RX3 15 "HilbertHutch$Tree" "widths" "[I"] ++ wsX30)
def wsX3_shrink_r1 : List Cond := [Cond.fieldLink RX3 18 "HilbertHutch$Tree" "height" "I", Cond.methodLink RX3 41 yX3_holder, Cond.instanceMethod yX3_holder, Cond.selects RX3 yX3_holder yX3_holder, Cond.initialized RX3, Cond.code yX3_holder cX3_holder 5 (some .int), Cond.methodLink RX3 26 yX3_width, Cond.instanceMethod yX3_width, Cond.selects RX3 yX3_width yX3_width, Cond.code yX3_width cX3_width 2 (some .int), Cond.fieldLink RX3 15 "HilbertHutch$Tree" "widths" "[I", Cond.methodLink RX3 30 yX3_load, Cond.instanceMethod yX3_load, Cond.selects RX3 yX3_load yX3_load, Cond.code yX3_load cX3_load 4 (some .int), Cond.fieldLink RX3 11 "HilbertHutch$Tree" "loads" "[I", Cond.methodLink RX3 22 yX3_hasNode, Cond.instanceMethod yX3_hasNode, Cond.selects RX3 yX3_hasNode yX3_hasNode, Cond.code yX3_hasNode cX3_hasNode 3 (some .boolean), Cond.methodLink RX3 48 yX3_setLoad, Cond.instanceMethod yX3_setLoad, Cond.selects RX3 yX3_setLoad yX3_setLoad, Cond.code yX3_setLoad cX3_setLoad 5 none]
def wsX3_shrink_r2 : List Cond := [Cond.methodLink RX3 52 yX3_parent, Cond.instanceMethod yX3_parent, Cond.selects RX3 yX3_parent yX3_parent, Cond.code yX3_parent cX3_parent 3 (some .int), Cond.methodLink RX3 37 yX3_hasLevel, Cond.instanceMethod yX3_hasLevel, Cond.selects RX3 yX3_hasLevel yX3_hasLevel, Cond.code yX3_hasLevel cX3_hasLevel 2 (some .boolean), Cond.methodLink RX3 81 yX3_unite, Cond.instanceMethod yX3_unite, Cond.selects RX3 yX3_unite yX3_unite, Cond.code yX3_unite cX3_unite 7 (some .boolean), Cond.methodLink RX3 73 Lib.Math.min.name, Cond.static Lib.Math.min.name, Cond.initialized "java/lang/Math", Cond.code Lib.Math.min.name Lib.Math.min.code 2 (some .int), Cond.methodLink RX3 66 yX3_partner, Cond.instanceMethod yX3_partner, Cond.selects RX3 yX3_partner yX3_partner, Cond.code yX3_partner cX3_partner 6 (some .int), Cond.methodLink RX3 34 yX3_entriesBefore, Cond.instanceMethod yX3_entriesBefore, Cond.selects RX3 yX3_entriesBefore yX3_entriesBefore, Cond.code yX3_entriesBefore cX3_entriesBefore 5 (some .int)]
def wsX3_shrink_r3 : List Cond := [Cond.methodLink RX3 87 yX3_deleteNode, Cond.instanceMethod yX3_deleteNode, Cond.selects RX3 yX3_deleteNode yX3_deleteNode, Cond.code yX3_deleteNode cX3_deleteNode 5 none, Cond.methodLink RX3 90 Lib.Math.max.name, Cond.static Lib.Math.max.name, Cond.code Lib.Math.max.name Lib.Math.max.code 2 (some .int), Cond.methodLink RX3 63 yX3_setWidth, Cond.instanceMethod yX3_setWidth, Cond.selects RX3 yX3_setWidth yX3_setWidth, Cond.code yX3_setWidth cX3_setWidth 3 none, Cond.methodLink RX3 78 yX3_halve, Cond.instanceMethod yX3_halve, Cond.selects RX3 yX3_halve yX3_halve, Cond.code yX3_halve cX3_halve 4 none, Cond.methodLink RX3 84 yX3_lowerRoot, Cond.instanceMethod yX3_lowerRoot, Cond.selects RX3 yX3_lowerRoot yX3_lowerRoot, Cond.code yX3_lowerRoot cX3_lowerRoot 2 none]
def wsX3_shrink : List Cond := .code yX3_shrink cX3_shrink 6 none :: ((wsX3_shrink_r1 ++ (wsX3_shrink_r2 ++ wsX3_shrink_r3)) ++ wsX30)
def wsX3_planAnew : List Cond := .code yX3_planAnew cX3_planAnew 6 none :: ([.fieldLink RX3 18 "HilbertHutch$Tree" "height" "I", .methodLink RX3 73 Lib.Math.min.name, .static Lib.Math.min.name, .initialized "java/lang/Math", .code Lib.Math.min.name Lib.Math.min.code 2 (some .int), .methodLink RX3 63 yX3_setWidth, .instanceMethod yX3_setWidth, .selects RX3 yX3_setWidth yX3_setWidth, .initialized RX3, .code yX3_setWidth cX3_setWidth 3 none, .fieldLink RX3 15 "HilbertHutch$Tree" "widths" "[I", .methodLink RX3 48 yX3_setLoad, .instanceMethod yX3_setLoad, .selects RX3 yX3_setLoad yX3_setLoad, .code yX3_setLoad cX3_setLoad 5 none, .fieldLink RX3 11 "HilbertHutch$Tree" "loads" "[I", .methodLink RX3 22 yX3_hasNode, .instanceMethod yX3_hasNode, .selects RX3 yX3_hasNode yX3_hasNode, .code yX3_hasNode cX3_hasNode 3 (some .boolean)] ++ wsX30)
def wsX4_init_r1 : List Cond := [Cond.methodLink RX4 1 objectInit, Cond.instanceMethod objectInit, Cond.code objectInit ⟨#[0xb1]⟩ 1 none, Cond.arrayClass .int, Cond.fieldLink RX4 9 "HilbertHutch" "ranks" "[I", Cond.classLink RX4 13 RX2, Cond.instantiable RX2 6, Cond.initialized RX2, Cond.fieldLink RX4 16 "HilbertHutch" "stock" "LHilbertHutch$Stock;", Cond.classLink RX4 20 RX3, Cond.instantiable RX3 3, Cond.initialized RX3, Cond.fieldLink RX4 23 "HilbertHutch" "tree" "LHilbertHutch$Tree;", Cond.instanceMethod yX2_init, Cond.code yX2_init cX2_init 1 none, Cond.methodLink RX2 3 objectInit, Cond.fieldLink RX2 9 "HilbertHutch$Stock" "areas" "[I", Cond.fieldLink RX2 15 "HilbertHutch$Stock" "keys" "[I", Cond.arrayClass .boolean, Cond.fieldLink RX2 18 "HilbertHutch$Stock" "there" "[Z", Cond.fieldLink RX2 22 "HilbertHutch$Stock" "order" "[I", Cond.instanceMethod yX3_init, Cond.code yX3_init cX3_init 1 none, Cond.methodLink RX3 3 objectInit]
def wsX4_init_r2 : List Cond := [Cond.fieldLink RX3 11 "HilbertHutch$Tree" "loads" "[I", Cond.fieldLink RX3 15 "HilbertHutch$Tree" "widths" "[I"]
def wsX4_init : List Cond := .code yX4_init cX4_init 1 none :: ((wsX4_init_r1 ++ wsX4_init_r2) ++ wsX40 ++ wsX20 ++ wsX30)
def wsX4_isCoordinate : List Cond := .code yX4_isCoordinate cX4_isCoordinate 1 (some .boolean) :: ([])
def wsX4_checkSides : List Cond := .code yX4_checkSides cX4_checkSides 4 none :: ([.classLink RX4 160 "java/lang/IllegalArgumentException", .initialized "java/lang/IllegalArgumentException", .methodLink RX4 157 yX4_isCoordinate, .static yX4_isCoordinate, .initialized RX4, .code yX4_isCoordinate cX4_isCoordinate 1 (some .boolean)] ++ (vx_atS RX4 164 "java/lang/IllegalArgumentException" ["java/lang/RuntimeException", "java/lang/Exception"]).filter goodWord)
def wsX4_add_r1 : List Cond := [Cond.classLink RX4 35 "java/lang/IllegalStateException", Cond.initialized "java/lang/IllegalStateException", Cond.fieldLink RX4 16 "HilbertHutch" "stock" "LHilbertHutch$Stock;", Cond.fieldLink RX4 23 "HilbertHutch" "tree" "LHilbertHutch$Tree;", Cond.methodLink RX4 27 yX4_checkSides, Cond.static yX4_checkSides, Cond.initialized RX4, Cond.code yX4_checkSides cX4_checkSides 4 none, Cond.classLink RX4 160 "java/lang/IllegalArgumentException", Cond.initialized "java/lang/IllegalArgumentException", Cond.methodLink RX4 157 yX4_isCoordinate, Cond.static yX4_isCoordinate, Cond.code yX4_isCoordinate cX4_isCoordinate 1 (some .boolean), Cond.methodLink RX4 31 yX2_hasRoom, Cond.instanceMethod yX2_hasRoom, Cond.selects RX2 yX2_hasRoom yX2_hasRoom, Cond.initialized RX2, Cond.code yX2_hasRoom cX2_hasRoom 1 (some .boolean), Cond.fieldLink RX2 29 "HilbertHutch$Stock" "added" "I", Cond.fieldLink RX2 25 "HilbertHutch$Stock" "size" "I", Cond.methodLink RX4 42 yX0_of, Cond.static yX0_of, Cond.initialized RX0, Cond.code yX0_of cX0_of 4 (some .int)]
def wsX4_add_r2 : List Cond := [Cond.methodLink RX4 48 yX2_putIn, Cond.instanceMethod yX2_putIn, Cond.selects RX2 yX2_putIn yX2_putIn, Cond.code yX2_putIn cX2_putIn 3 (some .int), Cond.fieldLink RX2 9 "HilbertHutch$Stock" "areas" "[I", Cond.fieldLink RX2 15 "HilbertHutch$Stock" "keys" "[I", Cond.fieldLink RX2 18 "HilbertHutch$Stock" "there" "[Z", Cond.methodLink RX2 49 yX0_middleKey, Cond.static yX0_middleKey, Cond.code yX0_middleKey cX0_middleKey 3 (some .int), Cond.methodLink RX0 9 yX0_side, Cond.static yX0_side, Cond.code yX0_side cX0_side 2 (some .int), Cond.methodLink RX0 31 yX1_lengthTo, Cond.static yX1_lengthTo, Cond.initialized RX1, Cond.code yX1_lengthTo cX1_lengthTo 9 (some .int), Cond.methodLink RX1 9 yX1_quarter, Cond.static yX1_quarter, Cond.code yX1_quarter cX1_quarter 2 (some .int), Cond.methodLink RX2 52 yX2_putInOrder, Cond.instanceMethod yX2_putInOrder, Cond.selects RX2 yX2_putInOrder yX2_putInOrder, Cond.code yX2_putInOrder cX2_putInOrder 4 none]
def wsX4_add_r3 : List Cond := [Cond.methodLink RX2 32 yX2_numberAt, Cond.instanceMethod yX2_numberAt, Cond.selects RX2 yX2_numberAt yX2_numberAt, Cond.code yX2_numberAt cX2_numberAt 2 (some .int), Cond.fieldLink RX2 22 "HilbertHutch$Stock" "order" "[I", Cond.methodLink RX2 56 yX2_keyFor, Cond.instanceMethod yX2_keyFor, Cond.selects RX2 yX2_keyFor yX2_keyFor, Cond.code yX2_keyFor cX2_keyFor 2 (some .int), Cond.methodLink RX2 59 yX2_setOrder, Cond.instanceMethod yX2_setOrder, Cond.selects RX2 yX2_setOrder yX2_setOrder, Cond.code yX2_setOrder cX2_setOrder 3 none, Cond.methodLink RX4 52 yX2_placeOf, Cond.instanceMethod yX2_placeOf, Cond.selects RX2 yX2_placeOf yX2_placeOf, Cond.code yX2_placeOf cX2_placeOf 3 (some .int), Cond.methodLink RX4 55 yX3_grow, Cond.instanceMethod yX3_grow, Cond.selects RX3 yX3_grow yX3_grow, Cond.initialized RX3, Cond.code yX3_grow cX3_grow 5 none, Cond.fieldLink RX3 18 "HilbertHutch$Tree" "height" "I", Cond.methodLink RX3 44 yX3_addRoot]
def wsX4_add_r4 : List Cond := [Cond.instanceMethod yX3_addRoot, Cond.selects RX3 yX3_addRoot yX3_addRoot, Cond.code yX3_addRoot cX3_addRoot 2 none, Cond.methodLink RX3 63 yX3_setWidth, Cond.instanceMethod yX3_setWidth, Cond.selects RX3 yX3_setWidth yX3_setWidth, Cond.code yX3_setWidth cX3_setWidth 3 none, Cond.fieldLink RX3 15 "HilbertHutch$Tree" "widths" "[I", Cond.methodLink RX3 48 yX3_setLoad, Cond.instanceMethod yX3_setLoad, Cond.selects RX3 yX3_setLoad yX3_setLoad, Cond.code yX3_setLoad cX3_setLoad 5 none, Cond.fieldLink RX3 11 "HilbertHutch$Tree" "loads" "[I", Cond.methodLink RX3 22 yX3_hasNode, Cond.instanceMethod yX3_hasNode, Cond.selects RX3 yX3_hasNode yX3_hasNode, Cond.code yX3_hasNode cX3_hasNode 3 (some .boolean), Cond.methodLink RX3 41 yX3_holder, Cond.instanceMethod yX3_holder, Cond.selects RX3 yX3_holder yX3_holder, Cond.code yX3_holder cX3_holder 5 (some .int), Cond.methodLink RX3 26 yX3_width, Cond.instanceMethod yX3_width, Cond.selects RX3 yX3_width yX3_width]
def wsX4_add_r5 : List Cond := [Cond.code yX3_width cX3_width 2 (some .int), Cond.methodLink RX3 30 yX3_load, Cond.instanceMethod yX3_load, Cond.selects RX3 yX3_load yX3_load, Cond.code yX3_load cX3_load 4 (some .int), Cond.methodLink RX3 52 yX3_parent, Cond.instanceMethod yX3_parent, Cond.selects RX3 yX3_parent yX3_parent, Cond.code yX3_parent cX3_parent 3 (some .int), Cond.methodLink RX3 37 yX3_hasLevel, Cond.instanceMethod yX3_hasLevel, Cond.selects RX3 yX3_hasLevel yX3_hasLevel, Cond.code yX3_hasLevel cX3_hasLevel 2 (some .boolean), Cond.methodLink RX3 55 yX3_relieve, Cond.instanceMethod yX3_relieve, Cond.selects RX3 yX3_relieve yX3_relieve, Cond.code yX3_relieve cX3_relieve 6 (some .boolean), Cond.methodLink RX3 73 Lib.Math.min.name, Cond.static Lib.Math.min.name, Cond.initialized "java/lang/Math", Cond.code Lib.Math.min.name Lib.Math.min.code 2 (some .int), Cond.methodLink RX3 66 yX3_partner, Cond.instanceMethod yX3_partner, Cond.selects RX3 yX3_partner yX3_partner]
def wsX4_add_r6 : List Cond := [Cond.code yX3_partner cX3_partner 6 (some .int), Cond.methodLink RX3 34 yX3_entriesBefore, Cond.instanceMethod yX3_entriesBefore, Cond.selects RX3 yX3_entriesBefore yX3_entriesBefore, Cond.code yX3_entriesBefore cX3_entriesBefore 5 (some .int), Cond.methodLink RX3 70 yX3_insertNode, Cond.instanceMethod yX3_insertNode, Cond.selects RX3 yX3_insertNode yX3_insertNode, Cond.code yX3_insertNode cX3_insertNode 6 none, Cond.methodLink RX3 78 yX3_halve, Cond.instanceMethod yX3_halve, Cond.selects RX3 yX3_halve yX3_halve, Cond.code yX3_halve cX3_halve 4 none, Cond.methodLink RX3 59 yX3_gainEntry, Cond.instanceMethod yX3_gainEntry, Cond.selects RX3 yX3_gainEntry yX3_gainEntry, Cond.code yX3_gainEntry cX3_gainEntry 3 none]
def wsX4_add : List Cond := .code yX4_add cX4_add 6 (some .int) :: ((wsX4_add_r1 ++ (wsX4_add_r2 ++ (wsX4_add_r3 ++ (wsX4_add_r4 ++ (wsX4_add_r5 ++ wsX4_add_r6))))) ++ wsX40 ++ wsX20 ++ wsX30 ++ (vx_atS RX4 39 "java/lang/IllegalStateException" ["java/lang/RuntimeException", "java/lang/Exception"]).filter goodWord ++ (vx_atS RX4 164 "java/lang/IllegalArgumentException" ["java/lang/RuntimeException", "java/lang/Exception"]).filter goodWord)
def wsX4_checkBox : List Cond := .code yX4_checkBox cX4_checkBox 2 none :: ([.classLink RX4 107 "java/lang/IndexOutOfBoundsException", .initialized "java/lang/IndexOutOfBoundsException", .fieldLink RX4 16 "HilbertHutch" "stock" "LHilbertHutch$Stock;", .methodLink RX4 169 yX2_has, .instanceMethod yX2_has, .selects RX2 yX2_has yX2_has, .initialized RX2, .code yX2_has cX2_has 2 (some .boolean), .fieldLink RX2 18 "HilbertHutch$Stock" "there" "[Z"] ++ wsX40 ++ wsX20 ++ (vx_atS RX4 111 "java/lang/IndexOutOfBoundsException" ["java/lang/RuntimeException", "java/lang/Exception"]).filter goodWord)
def wsX4_remove_r1 : List Cond := [Cond.fieldLink RX4 23 "HilbertHutch" "tree" "LHilbertHutch$Tree;", Cond.fieldLink RX4 16 "HilbertHutch" "stock" "LHilbertHutch$Stock;", Cond.methodLink RX4 59 yX4_checkBox, Cond.instanceMethod yX4_checkBox, Cond.selects RX4 yX4_checkBox yX4_checkBox, Cond.initialized RX4, Cond.code yX4_checkBox cX4_checkBox 2 none, Cond.classLink RX4 107 "java/lang/IndexOutOfBoundsException", Cond.initialized "java/lang/IndexOutOfBoundsException", Cond.methodLink RX4 169 yX2_has, Cond.instanceMethod yX2_has, Cond.selects RX2 yX2_has yX2_has, Cond.initialized RX2, Cond.code yX2_has cX2_has 2 (some .boolean), Cond.fieldLink RX2 18 "HilbertHutch$Stock" "there" "[Z", Cond.methodLink RX4 52 yX2_placeOf, Cond.instanceMethod yX2_placeOf, Cond.selects RX2 yX2_placeOf yX2_placeOf, Cond.code yX2_placeOf cX2_placeOf 3 (some .int), Cond.fieldLink RX2 25 "HilbertHutch$Stock" "size" "I", Cond.methodLink RX2 32 yX2_numberAt, Cond.instanceMethod yX2_numberAt, Cond.selects RX2 yX2_numberAt yX2_numberAt, Cond.code yX2_numberAt cX2_numberAt 2 (some .int)]
def wsX4_remove_r2 : List Cond := [Cond.fieldLink RX2 22 "HilbertHutch$Stock" "order" "[I", Cond.methodLink RX4 62 yX3_shrink, Cond.instanceMethod yX3_shrink, Cond.selects RX3 yX3_shrink yX3_shrink, Cond.initialized RX3, Cond.code yX3_shrink cX3_shrink 6 none, Cond.fieldLink RX3 18 "HilbertHutch$Tree" "height" "I", Cond.methodLink RX3 41 yX3_holder, Cond.instanceMethod yX3_holder, Cond.selects RX3 yX3_holder yX3_holder, Cond.code yX3_holder cX3_holder 5 (some .int), Cond.methodLink RX3 26 yX3_width, Cond.instanceMethod yX3_width, Cond.selects RX3 yX3_width yX3_width, Cond.code yX3_width cX3_width 2 (some .int), Cond.fieldLink RX3 15 "HilbertHutch$Tree" "widths" "[I", Cond.methodLink RX3 30 yX3_load, Cond.instanceMethod yX3_load, Cond.selects RX3 yX3_load yX3_load, Cond.code yX3_load cX3_load 4 (some .int), Cond.fieldLink RX3 11 "HilbertHutch$Tree" "loads" "[I", Cond.methodLink RX3 22 yX3_hasNode, Cond.instanceMethod yX3_hasNode, Cond.selects RX3 yX3_hasNode yX3_hasNode]
def wsX4_remove_r3 : List Cond := [Cond.code yX3_hasNode cX3_hasNode 3 (some .boolean), Cond.methodLink RX3 48 yX3_setLoad, Cond.instanceMethod yX3_setLoad, Cond.selects RX3 yX3_setLoad yX3_setLoad, Cond.code yX3_setLoad cX3_setLoad 5 none, Cond.methodLink RX3 52 yX3_parent, Cond.instanceMethod yX3_parent, Cond.selects RX3 yX3_parent yX3_parent, Cond.code yX3_parent cX3_parent 3 (some .int), Cond.methodLink RX3 37 yX3_hasLevel, Cond.instanceMethod yX3_hasLevel, Cond.selects RX3 yX3_hasLevel yX3_hasLevel, Cond.code yX3_hasLevel cX3_hasLevel 2 (some .boolean), Cond.methodLink RX3 81 yX3_unite, Cond.instanceMethod yX3_unite, Cond.selects RX3 yX3_unite yX3_unite, Cond.code yX3_unite cX3_unite 7 (some .boolean), Cond.methodLink RX3 73 Lib.Math.min.name, Cond.static Lib.Math.min.name, Cond.initialized "java/lang/Math", Cond.code Lib.Math.min.name Lib.Math.min.code 2 (some .int), Cond.methodLink RX3 66 yX3_partner, Cond.instanceMethod yX3_partner, Cond.selects RX3 yX3_partner yX3_partner]
def wsX4_remove_r4 : List Cond := [Cond.code yX3_partner cX3_partner 6 (some .int), Cond.methodLink RX3 34 yX3_entriesBefore, Cond.instanceMethod yX3_entriesBefore, Cond.selects RX3 yX3_entriesBefore yX3_entriesBefore, Cond.code yX3_entriesBefore cX3_entriesBefore 5 (some .int), Cond.methodLink RX3 87 yX3_deleteNode, Cond.instanceMethod yX3_deleteNode, Cond.selects RX3 yX3_deleteNode yX3_deleteNode, Cond.code yX3_deleteNode cX3_deleteNode 5 none, Cond.methodLink RX3 90 Lib.Math.max.name, Cond.static Lib.Math.max.name, Cond.code Lib.Math.max.name Lib.Math.max.code 2 (some .int), Cond.methodLink RX3 63 yX3_setWidth, Cond.instanceMethod yX3_setWidth, Cond.selects RX3 yX3_setWidth yX3_setWidth, Cond.code yX3_setWidth cX3_setWidth 3 none, Cond.methodLink RX3 78 yX3_halve, Cond.instanceMethod yX3_halve, Cond.selects RX3 yX3_halve yX3_halve, Cond.code yX3_halve cX3_halve 4 none, Cond.methodLink RX3 84 yX3_lowerRoot, Cond.instanceMethod yX3_lowerRoot, Cond.selects RX3 yX3_lowerRoot yX3_lowerRoot, Cond.code yX3_lowerRoot cX3_lowerRoot 2 none]
def wsX4_remove_r5 : List Cond := [Cond.methodLink RX4 65 yX2_takeOut, Cond.instanceMethod yX2_takeOut, Cond.selects RX2 yX2_takeOut yX2_takeOut, Cond.code yX2_takeOut cX2_takeOut 4 none, Cond.methodLink RX2 63 yX2_placeOf, Cond.methodLink RX2 39 yX2_has, Cond.methodLink RX2 59 yX2_setOrder, Cond.instanceMethod yX2_setOrder, Cond.selects RX2 yX2_setOrder yX2_setOrder, Cond.code yX2_setOrder cX2_setOrder 3 none, Cond.methodLink RX4 68 yX2_size, Cond.instanceMethod yX2_size, Cond.selects RX2 yX2_size yX2_size, Cond.code yX2_size cX2_size 1 (some .int)]
def wsX4_remove : List Cond := .code yX4_remove cX4_remove 2 (some .int) :: ((wsX4_remove_r1 ++ (wsX4_remove_r2 ++ (wsX4_remove_r3 ++ (wsX4_remove_r4 ++ wsX4_remove_r5)))) ++ wsX40 ++ wsX20 ++ wsX30 ++ (vx_atS RX4 111 "java/lang/IndexOutOfBoundsException" ["java/lang/RuntimeException", "java/lang/Exception"]).filter goodWord)
def wsX4_pack_r1 : List Cond := [Cond.fieldLink RX4 23 "HilbertHutch" "tree" "LHilbertHutch$Tree;", Cond.fieldLink RX4 16 "HilbertHutch" "stock" "LHilbertHutch$Stock;", Cond.methodLink RX4 68 yX2_size, Cond.instanceMethod yX2_size, Cond.selects RX2 yX2_size yX2_size, Cond.initialized RX2, Cond.code yX2_size cX2_size 1 (some .int), Cond.fieldLink RX2 25 "HilbertHutch$Stock" "size" "I", Cond.methodLink RX4 72 yX3_planAnew, Cond.instanceMethod yX3_planAnew, Cond.selects RX3 yX3_planAnew yX3_planAnew, Cond.initialized RX3, Cond.code yX3_planAnew cX3_planAnew 6 none, Cond.fieldLink RX3 18 "HilbertHutch$Tree" "height" "I", Cond.methodLink RX3 73 Lib.Math.min.name, Cond.static Lib.Math.min.name, Cond.initialized "java/lang/Math", Cond.code Lib.Math.min.name Lib.Math.min.code 2 (some .int), Cond.methodLink RX3 63 yX3_setWidth, Cond.instanceMethod yX3_setWidth, Cond.selects RX3 yX3_setWidth yX3_setWidth, Cond.code yX3_setWidth cX3_setWidth 3 none, Cond.fieldLink RX3 15 "HilbertHutch$Tree" "widths" "[I", Cond.methodLink RX3 48 yX3_setLoad]
def wsX4_pack_r2 : List Cond := [Cond.instanceMethod yX3_setLoad, Cond.selects RX3 yX3_setLoad yX3_setLoad, Cond.code yX3_setLoad cX3_setLoad 5 none, Cond.fieldLink RX3 11 "HilbertHutch$Tree" "loads" "[I", Cond.methodLink RX3 22 yX3_hasNode, Cond.instanceMethod yX3_hasNode, Cond.selects RX3 yX3_hasNode yX3_hasNode, Cond.code yX3_hasNode cX3_hasNode 3 (some .boolean), Cond.methodLink RX4 75 yX3_width, Cond.instanceMethod yX3_width, Cond.selects RX3 yX3_width yX3_width, Cond.code yX3_width cX3_width 2 (some .int)]
def wsX4_pack : List Cond := .code yX4_pack cX4_pack 1 (some .int) :: ((wsX4_pack_r1 ++ wsX4_pack_r2) ++ wsX40 ++ wsX20 ++ wsX30)
def wsX4_boxes : List Cond := .code yX4_boxes cX4_boxes 1 (some .int) :: ([.fieldLink RX4 16 "HilbertHutch" "stock" "LHilbertHutch$Stock;", .methodLink RX4 68 yX2_size, .instanceMethod yX2_size, .selects RX2 yX2_size yX2_size, .initialized RX2, .code yX2_size cX2_size 1 (some .int), .fieldLink RX2 25 "HilbertHutch$Stock" "size" "I"] ++ wsX40 ++ wsX20)
def wsX4_checkPoint : List Cond := .code yX4_checkPoint cX4_checkPoint 2 none :: ([.classLink RX4 160 "java/lang/IllegalArgumentException", .initialized "java/lang/IllegalArgumentException", .methodLink RX4 157 yX4_isCoordinate, .static yX4_isCoordinate, .initialized RX4, .code yX4_isCoordinate cX4_isCoordinate 1 (some .boolean)] ++ (vx_atS RX4 164 "java/lang/IllegalArgumentException" ["java/lang/RuntimeException", "java/lang/Exception"]).filter goodWord)
def wsX4_key : List Cond := .code yX4_key cX4_key 3 (some .int) :: ([.methodLink RX4 78 yX4_checkPoint, .static yX4_checkPoint, .initialized RX4, .code yX4_checkPoint cX4_checkPoint 2 none, .classLink RX4 160 "java/lang/IllegalArgumentException", .initialized "java/lang/IllegalArgumentException", .methodLink RX4 157 yX4_isCoordinate, .static yX4_isCoordinate, .code yX4_isCoordinate cX4_isCoordinate 1 (some .boolean), .methodLink RX4 82 yX1_lengthTo, .static yX1_lengthTo, .initialized RX1, .code yX1_lengthTo cX1_lengthTo 9 (some .int), .methodLink RX1 9 yX1_quarter, .static yX1_quarter, .code yX1_quarter cX1_quarter 2 (some .int)] ++ (vx_atS RX4 164 "java/lang/IllegalArgumentException" ["java/lang/RuntimeException", "java/lang/Exception"]).filter goodWord)
def wsX4_keyOf : List Cond := .code yX4_keyOf cX4_keyOf 2 (some .int) :: ([.fieldLink RX4 16 "HilbertHutch" "stock" "LHilbertHutch$Stock;", .methodLink RX4 59 yX4_checkBox, .instanceMethod yX4_checkBox, .selects RX4 yX4_checkBox yX4_checkBox, .initialized RX4, .code yX4_checkBox cX4_checkBox 2 none, .classLink RX4 107 "java/lang/IndexOutOfBoundsException", .initialized "java/lang/IndexOutOfBoundsException", .methodLink RX4 169 yX2_has, .instanceMethod yX2_has, .selects RX2 yX2_has yX2_has, .initialized RX2, .code yX2_has cX2_has 2 (some .boolean), .fieldLink RX2 18 "HilbertHutch$Stock" "there" "[Z", .methodLink RX4 88 yX2_keyFor, .instanceMethod yX2_keyFor, .selects RX2 yX2_keyFor yX2_keyFor, .code yX2_keyFor cX2_keyFor 2 (some .int), .fieldLink RX2 15 "HilbertHutch$Stock" "keys" "[I"] ++ wsX40 ++ wsX20 ++ (vx_atS RX4 111 "java/lang/IndexOutOfBoundsException" ["java/lang/RuntimeException", "java/lang/Exception"]).filter goodWord)
def wsX4_checkSide : List Cond := .code yX4_checkSide cX4_checkSide 1 none :: ([.classLink RX4 160 "java/lang/IllegalArgumentException", .initialized "java/lang/IllegalArgumentException"] ++ (vx_atS RX4 164 "java/lang/IllegalArgumentException" ["java/lang/RuntimeException", "java/lang/Exception"]).filter goodWord)
def wsX4_sideOf_r1 : List Cond := [Cond.fieldLink RX4 16 "HilbertHutch" "stock" "LHilbertHutch$Stock;", Cond.methodLink RX4 91 yX4_checkSide, Cond.static yX4_checkSide, Cond.initialized RX4, Cond.code yX4_checkSide cX4_checkSide 1 none, Cond.classLink RX4 160 "java/lang/IllegalArgumentException", Cond.initialized "java/lang/IllegalArgumentException", Cond.methodLink RX4 59 yX4_checkBox, Cond.instanceMethod yX4_checkBox, Cond.selects RX4 yX4_checkBox yX4_checkBox, Cond.code yX4_checkBox cX4_checkBox 2 none, Cond.classLink RX4 107 "java/lang/IndexOutOfBoundsException", Cond.initialized "java/lang/IndexOutOfBoundsException", Cond.methodLink RX4 169 yX2_has, Cond.instanceMethod yX2_has, Cond.selects RX2 yX2_has yX2_has, Cond.initialized RX2, Cond.code yX2_has cX2_has 2 (some .boolean), Cond.fieldLink RX2 18 "HilbertHutch$Stock" "there" "[Z", Cond.methodLink RX4 94 yX2_areaOf, Cond.instanceMethod yX2_areaOf, Cond.selects RX2 yX2_areaOf yX2_areaOf, Cond.code yX2_areaOf cX2_areaOf 2 (some .int), Cond.fieldLink RX2 9 "HilbertHutch$Stock" "areas" "[I"]
def wsX4_sideOf_r2 : List Cond := [Cond.methodLink RX4 97 yX0_side, Cond.static yX0_side, Cond.initialized RX0, Cond.code yX0_side cX0_side 2 (some .int)]
def wsX4_sideOf : List Cond := .code yX4_sideOf cX4_sideOf 3 (some .int) :: ((wsX4_sideOf_r1 ++ wsX4_sideOf_r2) ++ wsX40 ++ wsX20 ++ (vx_atS RX4 164 "java/lang/IllegalArgumentException" ["java/lang/RuntimeException", "java/lang/Exception"]).filter goodWord ++ (vx_atS RX4 111 "java/lang/IndexOutOfBoundsException" ["java/lang/RuntimeException", "java/lang/Exception"]).filter goodWord)
def wsX4_levels : List Cond := .code yX4_levels cX4_levels 1 (some .int) :: ([.fieldLink RX4 23 "HilbertHutch" "tree" "LHilbertHutch$Tree;", .methodLink RX4 100 yX3_height, .instanceMethod yX3_height, .selects RX3 yX3_height yX3_height, .initialized RX3, .code yX3_height cX3_height 1 (some .int), .fieldLink RX3 18 "HilbertHutch$Tree" "height" "I"] ++ wsX40 ++ wsX30)
def wsX4_nodes : List Cond := .code yX4_nodes cX4_nodes 2 (some .int) :: ([.classLink RX4 107 "java/lang/IndexOutOfBoundsException", .initialized "java/lang/IndexOutOfBoundsException", .fieldLink RX4 23 "HilbertHutch" "tree" "LHilbertHutch$Tree;", .methodLink RX4 103 yX3_hasLevel, .instanceMethod yX3_hasLevel, .selects RX3 yX3_hasLevel yX3_hasLevel, .initialized RX3, .code yX3_hasLevel cX3_hasLevel 2 (some .boolean), .fieldLink RX3 18 "HilbertHutch$Tree" "height" "I", .methodLink RX4 75 yX3_width, .instanceMethod yX3_width, .selects RX3 yX3_width yX3_width, .code yX3_width cX3_width 2 (some .int), .fieldLink RX3 15 "HilbertHutch$Tree" "widths" "[I"] ++ wsX40 ++ wsX30 ++ (vx_atS RX4 111 "java/lang/IndexOutOfBoundsException" ["java/lang/RuntimeException", "java/lang/Exception"]).filter goodWord)
def wsX4_checkNode : List Cond := .code yX4_checkNode cX4_checkNode 3 none :: ([.classLink RX4 107 "java/lang/IndexOutOfBoundsException", .initialized "java/lang/IndexOutOfBoundsException", .fieldLink RX4 23 "HilbertHutch" "tree" "LHilbertHutch$Tree;", .methodLink RX4 174 yX3_hasNode, .instanceMethod yX3_hasNode, .selects RX3 yX3_hasNode yX3_hasNode, .initialized RX3, .code yX3_hasNode cX3_hasNode 3 (some .boolean), .fieldLink RX3 18 "HilbertHutch$Tree" "height" "I", .fieldLink RX3 15 "HilbertHutch$Tree" "widths" "[I"] ++ wsX40 ++ wsX30 ++ (vx_atS RX4 111 "java/lang/IndexOutOfBoundsException" ["java/lang/RuntimeException", "java/lang/Exception"]).filter goodWord)
def wsX4_entries : List Cond := .code yX4_entries cX4_entries 3 (some .int) :: ([.fieldLink RX4 23 "HilbertHutch" "tree" "LHilbertHutch$Tree;", .methodLink RX4 112 yX4_checkNode, .instanceMethod yX4_checkNode, .selects RX4 yX4_checkNode yX4_checkNode, .initialized RX4, .code yX4_checkNode cX4_checkNode 3 none, .classLink RX4 107 "java/lang/IndexOutOfBoundsException", .initialized "java/lang/IndexOutOfBoundsException", .methodLink RX4 174 yX3_hasNode, .instanceMethod yX3_hasNode, .selects RX3 yX3_hasNode yX3_hasNode, .initialized RX3, .code yX3_hasNode cX3_hasNode 3 (some .boolean), .fieldLink RX3 18 "HilbertHutch$Tree" "height" "I", .fieldLink RX3 15 "HilbertHutch$Tree" "widths" "[I", .methodLink RX4 115 yX3_load, .instanceMethod yX3_load, .selects RX3 yX3_load yX3_load, .code yX3_load cX3_load 4 (some .int), .fieldLink RX3 11 "HilbertHutch$Tree" "loads" "[I", .methodLink RX3 22 yX3_hasNode] ++ wsX40 ++ wsX30 ++ (vx_atS RX4 111 "java/lang/IndexOutOfBoundsException" ["java/lang/RuntimeException", "java/lang/Exception"]).filter goodWord)
def wsX4_coverOf_r1 : List Cond := [Cond.fieldLink RX4 23 "HilbertHutch" "tree" "LHilbertHutch$Tree;", Cond.fieldLink RX4 16 "HilbertHutch" "stock" "LHilbertHutch$Stock;", Cond.methodLink RX4 179 yX3_boxesBefore, Cond.instanceMethod yX3_boxesBefore, Cond.selects RX3 yX3_boxesBefore yX3_boxesBefore, Cond.initialized RX3, Cond.code yX3_boxesBefore cX3_boxesBefore 5 (some .int), Cond.methodLink RX3 34 yX3_entriesBefore, Cond.instanceMethod yX3_entriesBefore, Cond.selects RX3 yX3_entriesBefore yX3_entriesBefore, Cond.code yX3_entriesBefore cX3_entriesBefore 5 (some .int), Cond.methodLink RX3 26 yX3_width, Cond.instanceMethod yX3_width, Cond.selects RX3 yX3_width yX3_width, Cond.code yX3_width cX3_width 2 (some .int), Cond.fieldLink RX3 18 "HilbertHutch$Tree" "height" "I", Cond.fieldLink RX3 15 "HilbertHutch$Tree" "widths" "[I", Cond.methodLink RX3 30 yX3_load, Cond.instanceMethod yX3_load, Cond.selects RX3 yX3_load yX3_load, Cond.code yX3_load cX3_load 4 (some .int), Cond.fieldLink RX3 11 "HilbertHutch$Tree" "loads" "[I", Cond.methodLink RX3 22 yX3_hasNode, Cond.instanceMethod yX3_hasNode]
def wsX4_coverOf_r2 : List Cond := [Cond.selects RX3 yX3_hasNode yX3_hasNode, Cond.code yX3_hasNode cX3_hasNode 3 (some .boolean), Cond.methodLink RX4 134 yX2_areaAt, Cond.instanceMethod yX2_areaAt, Cond.selects RX2 yX2_areaAt yX2_areaAt, Cond.initialized RX2, Cond.code yX2_areaAt cX2_areaAt 2 (some .int), Cond.methodLink RX2 32 yX2_numberAt, Cond.instanceMethod yX2_numberAt, Cond.selects RX2 yX2_numberAt yX2_numberAt, Cond.code yX2_numberAt cX2_numberAt 2 (some .int), Cond.fieldLink RX2 22 "HilbertHutch$Stock" "order" "[I", Cond.fieldLink RX2 25 "HilbertHutch$Stock" "size" "I", Cond.methodLink RX2 36 yX2_areaOf, Cond.instanceMethod yX2_areaOf, Cond.selects RX2 yX2_areaOf yX2_areaOf, Cond.code yX2_areaOf cX2_areaOf 2 (some .int), Cond.fieldLink RX2 9 "HilbertHutch$Stock" "areas" "[I", Cond.methodLink RX4 182 yX0_around, Cond.static yX0_around, Cond.initialized RX0, Cond.code yX0_around cX0_around 2 (some .int), Cond.methodLink RX0 15 Lib.Math.min.name, Cond.static Lib.Math.min.name]
def wsX4_coverOf_r3 : List Cond := [Cond.initialized "java/lang/Math", Cond.code Lib.Math.min.name Lib.Math.min.code 2 (some .int), Cond.methodLink RX0 20 Lib.Math.max.name, Cond.static Lib.Math.max.name, Cond.code Lib.Math.max.name Lib.Math.max.code 2 (some .int), Cond.methodLink RX0 9 yX0_side, Cond.static yX0_side, Cond.code yX0_side cX0_side 2 (some .int), Cond.methodLink RX0 23 yX0_of, Cond.static yX0_of, Cond.code yX0_of cX0_of 4 (some .int)]
def wsX4_coverOf : List Cond := .code yX4_coverOf cX4_coverOf 7 (some .int) :: ((wsX4_coverOf_r1 ++ (wsX4_coverOf_r2 ++ wsX4_coverOf_r3)) ++ wsX40 ++ wsX30 ++ wsX20)
def wsX4_cover_r1 : List Cond := [Cond.methodLink RX4 91 yX4_checkSide, Cond.static yX4_checkSide, Cond.initialized RX4, Cond.code yX4_checkSide cX4_checkSide 1 none, Cond.classLink RX4 160 "java/lang/IllegalArgumentException", Cond.initialized "java/lang/IllegalArgumentException", Cond.methodLink RX4 112 yX4_checkNode, Cond.instanceMethod yX4_checkNode, Cond.selects RX4 yX4_checkNode yX4_checkNode, Cond.code yX4_checkNode cX4_checkNode 3 none, Cond.classLink RX4 107 "java/lang/IndexOutOfBoundsException", Cond.initialized "java/lang/IndexOutOfBoundsException", Cond.fieldLink RX4 23 "HilbertHutch" "tree" "LHilbertHutch$Tree;", Cond.methodLink RX4 174 yX3_hasNode, Cond.instanceMethod yX3_hasNode, Cond.selects RX3 yX3_hasNode yX3_hasNode, Cond.initialized RX3, Cond.code yX3_hasNode cX3_hasNode 3 (some .boolean), Cond.fieldLink RX3 18 "HilbertHutch$Tree" "height" "I", Cond.fieldLink RX3 15 "HilbertHutch$Tree" "widths" "[I", Cond.methodLink RX4 118 yX4_coverOf, Cond.instanceMethod yX4_coverOf, Cond.selects RX4 yX4_coverOf yX4_coverOf, Cond.code yX4_coverOf cX4_coverOf 7 (some .int)]
def wsX4_cover_r2 : List Cond := [Cond.fieldLink RX4 16 "HilbertHutch" "stock" "LHilbertHutch$Stock;", Cond.methodLink RX4 179 yX3_boxesBefore, Cond.instanceMethod yX3_boxesBefore, Cond.selects RX3 yX3_boxesBefore yX3_boxesBefore, Cond.code yX3_boxesBefore cX3_boxesBefore 5 (some .int), Cond.methodLink RX3 34 yX3_entriesBefore, Cond.instanceMethod yX3_entriesBefore, Cond.selects RX3 yX3_entriesBefore yX3_entriesBefore, Cond.code yX3_entriesBefore cX3_entriesBefore 5 (some .int), Cond.methodLink RX3 26 yX3_width, Cond.instanceMethod yX3_width, Cond.selects RX3 yX3_width yX3_width, Cond.code yX3_width cX3_width 2 (some .int), Cond.methodLink RX3 30 yX3_load, Cond.instanceMethod yX3_load, Cond.selects RX3 yX3_load yX3_load, Cond.code yX3_load cX3_load 4 (some .int), Cond.fieldLink RX3 11 "HilbertHutch$Tree" "loads" "[I", Cond.methodLink RX3 22 yX3_hasNode, Cond.methodLink RX4 134 yX2_areaAt, Cond.instanceMethod yX2_areaAt, Cond.selects RX2 yX2_areaAt yX2_areaAt, Cond.initialized RX2, Cond.code yX2_areaAt cX2_areaAt 2 (some .int)]
def wsX4_cover_r3 : List Cond := [Cond.methodLink RX2 32 yX2_numberAt, Cond.instanceMethod yX2_numberAt, Cond.selects RX2 yX2_numberAt yX2_numberAt, Cond.code yX2_numberAt cX2_numberAt 2 (some .int), Cond.fieldLink RX2 22 "HilbertHutch$Stock" "order" "[I", Cond.fieldLink RX2 25 "HilbertHutch$Stock" "size" "I", Cond.methodLink RX2 36 yX2_areaOf, Cond.instanceMethod yX2_areaOf, Cond.selects RX2 yX2_areaOf yX2_areaOf, Cond.code yX2_areaOf cX2_areaOf 2 (some .int), Cond.fieldLink RX2 9 "HilbertHutch$Stock" "areas" "[I", Cond.methodLink RX4 182 yX0_around, Cond.static yX0_around, Cond.initialized RX0, Cond.code yX0_around cX0_around 2 (some .int), Cond.methodLink RX0 15 Lib.Math.min.name, Cond.static Lib.Math.min.name, Cond.initialized "java/lang/Math", Cond.code Lib.Math.min.name Lib.Math.min.code 2 (some .int), Cond.methodLink RX0 20 Lib.Math.max.name, Cond.static Lib.Math.max.name, Cond.code Lib.Math.max.name Lib.Math.max.code 2 (some .int), Cond.methodLink RX0 9 yX0_side, Cond.static yX0_side]
def wsX4_cover_r4 : List Cond := [Cond.code yX0_side cX0_side 2 (some .int), Cond.methodLink RX0 23 yX0_of, Cond.static yX0_of, Cond.code yX0_of cX0_of 4 (some .int), Cond.methodLink RX4 97 yX0_side]
def wsX4_cover : List Cond := .code yX4_cover cX4_cover 4 (some .int) :: ((wsX4_cover_r1 ++ (wsX4_cover_r2 ++ (wsX4_cover_r3 ++ wsX4_cover_r4))) ++ wsX40 ++ wsX30 ++ wsX20 ++ (vx_atS RX4 164 "java/lang/IllegalArgumentException" ["java/lang/RuntimeException", "java/lang/Exception"]).filter goodWord ++ (vx_atS RX4 111 "java/lang/IndexOutOfBoundsException" ["java/lang/RuntimeException", "java/lang/Exception"]).filter goodWord)
def wsX4_leafOf_r1 : List Cond := [Cond.fieldLink RX4 23 "HilbertHutch" "tree" "LHilbertHutch$Tree;", Cond.fieldLink RX4 16 "HilbertHutch" "stock" "LHilbertHutch$Stock;", Cond.methodLink RX4 59 yX4_checkBox, Cond.instanceMethod yX4_checkBox, Cond.selects RX4 yX4_checkBox yX4_checkBox, Cond.initialized RX4, Cond.code yX4_checkBox cX4_checkBox 2 none, Cond.classLink RX4 107 "java/lang/IndexOutOfBoundsException", Cond.initialized "java/lang/IndexOutOfBoundsException", Cond.methodLink RX4 169 yX2_has, Cond.instanceMethod yX2_has, Cond.selects RX2 yX2_has yX2_has, Cond.initialized RX2, Cond.code yX2_has cX2_has 2 (some .boolean), Cond.fieldLink RX2 18 "HilbertHutch$Stock" "there" "[Z", Cond.methodLink RX4 52 yX2_placeOf, Cond.instanceMethod yX2_placeOf, Cond.selects RX2 yX2_placeOf yX2_placeOf, Cond.code yX2_placeOf cX2_placeOf 3 (some .int), Cond.fieldLink RX2 25 "HilbertHutch$Stock" "size" "I", Cond.methodLink RX2 32 yX2_numberAt, Cond.instanceMethod yX2_numberAt, Cond.selects RX2 yX2_numberAt yX2_numberAt, Cond.code yX2_numberAt cX2_numberAt 2 (some .int)]
def wsX4_leafOf_r2 : List Cond := [Cond.fieldLink RX2 22 "HilbertHutch$Stock" "order" "[I", Cond.methodLink RX4 121 yX3_holder, Cond.instanceMethod yX3_holder, Cond.selects RX3 yX3_holder yX3_holder, Cond.initialized RX3, Cond.code yX3_holder cX3_holder 5 (some .int), Cond.methodLink RX3 26 yX3_width, Cond.instanceMethod yX3_width, Cond.selects RX3 yX3_width yX3_width, Cond.code yX3_width cX3_width 2 (some .int), Cond.fieldLink RX3 18 "HilbertHutch$Tree" "height" "I", Cond.fieldLink RX3 15 "HilbertHutch$Tree" "widths" "[I", Cond.methodLink RX3 30 yX3_load, Cond.instanceMethod yX3_load, Cond.selects RX3 yX3_load yX3_load, Cond.code yX3_load cX3_load 4 (some .int), Cond.fieldLink RX3 11 "HilbertHutch$Tree" "loads" "[I", Cond.methodLink RX3 22 yX3_hasNode, Cond.instanceMethod yX3_hasNode, Cond.selects RX3 yX3_hasNode yX3_hasNode, Cond.code yX3_hasNode cX3_hasNode 3 (some .boolean)]
def wsX4_leafOf : List Cond := .code yX4_leafOf cX4_leafOf 2 (some .int) :: ((wsX4_leafOf_r1 ++ wsX4_leafOf_r2) ++ wsX40 ++ wsX20 ++ wsX30 ++ (vx_atS RX4 111 "java/lang/IndexOutOfBoundsException" ["java/lang/RuntimeException", "java/lang/Exception"]).filter goodWord)
def wsX4_boxAt : List Cond := .code yX4_boxAt cX4_boxAt 2 (some .int) :: ([.classLink RX4 107 "java/lang/IndexOutOfBoundsException", .initialized "java/lang/IndexOutOfBoundsException", .fieldLink RX4 16 "HilbertHutch" "stock" "LHilbertHutch$Stock;", .methodLink RX4 68 yX2_size, .instanceMethod yX2_size, .selects RX2 yX2_size yX2_size, .initialized RX2, .code yX2_size cX2_size 1 (some .int), .fieldLink RX2 25 "HilbertHutch$Stock" "size" "I", .methodLink RX4 126 yX2_numberAt, .instanceMethod yX2_numberAt, .selects RX2 yX2_numberAt yX2_numberAt, .code yX2_numberAt cX2_numberAt 2 (some .int), .fieldLink RX2 22 "HilbertHutch$Stock" "order" "[I"] ++ wsX40 ++ wsX20 ++ (vx_atS RX4 111 "java/lang/IndexOutOfBoundsException" ["java/lang/RuntimeException", "java/lang/Exception"]).filter goodWord)
def wsX4_tightness_r1 : List Cond := [Cond.classLink RX4 35 "java/lang/IllegalStateException", Cond.initialized "java/lang/IllegalStateException", Cond.fieldLink RX4 23 "HilbertHutch" "tree" "LHilbertHutch$Tree;", Cond.fieldLink RX4 16 "HilbertHutch" "stock" "LHilbertHutch$Stock;", Cond.methodLink RX4 75 yX3_width, Cond.instanceMethod yX3_width, Cond.selects RX3 yX3_width yX3_width, Cond.initialized RX3, Cond.code yX3_width cX3_width 2 (some .int), Cond.fieldLink RX3 18 "HilbertHutch$Tree" "height" "I", Cond.fieldLink RX3 15 "HilbertHutch$Tree" "widths" "[I", Cond.methodLink RX4 118 yX4_coverOf, Cond.instanceMethod yX4_coverOf, Cond.selects RX4 yX4_coverOf yX4_coverOf, Cond.initialized RX4, Cond.code yX4_coverOf cX4_coverOf 7 (some .int), Cond.methodLink RX4 179 yX3_boxesBefore, Cond.instanceMethod yX3_boxesBefore, Cond.selects RX3 yX3_boxesBefore yX3_boxesBefore, Cond.code yX3_boxesBefore cX3_boxesBefore 5 (some .int), Cond.methodLink RX3 34 yX3_entriesBefore, Cond.instanceMethod yX3_entriesBefore, Cond.selects RX3 yX3_entriesBefore yX3_entriesBefore, Cond.code yX3_entriesBefore cX3_entriesBefore 5 (some .int)]
def wsX4_tightness_r2 : List Cond := [Cond.methodLink RX3 26 yX3_width, Cond.methodLink RX3 30 yX3_load, Cond.instanceMethod yX3_load, Cond.selects RX3 yX3_load yX3_load, Cond.code yX3_load cX3_load 4 (some .int), Cond.fieldLink RX3 11 "HilbertHutch$Tree" "loads" "[I", Cond.methodLink RX3 22 yX3_hasNode, Cond.instanceMethod yX3_hasNode, Cond.selects RX3 yX3_hasNode yX3_hasNode, Cond.code yX3_hasNode cX3_hasNode 3 (some .boolean), Cond.methodLink RX4 134 yX2_areaAt, Cond.instanceMethod yX2_areaAt, Cond.selects RX2 yX2_areaAt yX2_areaAt, Cond.initialized RX2, Cond.code yX2_areaAt cX2_areaAt 2 (some .int), Cond.methodLink RX2 32 yX2_numberAt, Cond.instanceMethod yX2_numberAt, Cond.selects RX2 yX2_numberAt yX2_numberAt, Cond.code yX2_numberAt cX2_numberAt 2 (some .int), Cond.fieldLink RX2 22 "HilbertHutch$Stock" "order" "[I", Cond.fieldLink RX2 25 "HilbertHutch$Stock" "size" "I", Cond.methodLink RX2 36 yX2_areaOf, Cond.instanceMethod yX2_areaOf, Cond.selects RX2 yX2_areaOf yX2_areaOf]
def wsX4_tightness_r3 : List Cond := [Cond.code yX2_areaOf cX2_areaOf 2 (some .int), Cond.fieldLink RX2 9 "HilbertHutch$Stock" "areas" "[I", Cond.methodLink RX4 182 yX0_around, Cond.static yX0_around, Cond.initialized RX0, Cond.code yX0_around cX0_around 2 (some .int), Cond.methodLink RX0 15 Lib.Math.min.name, Cond.static Lib.Math.min.name, Cond.initialized "java/lang/Math", Cond.code Lib.Math.min.name Lib.Math.min.code 2 (some .int), Cond.methodLink RX0 20 Lib.Math.max.name, Cond.static Lib.Math.max.name, Cond.code Lib.Math.max.name Lib.Math.max.code 2 (some .int), Cond.methodLink RX0 9 yX0_side, Cond.static yX0_side, Cond.code yX0_side cX0_side 2 (some .int), Cond.methodLink RX0 23 yX0_of, Cond.static yX0_of, Cond.code yX0_of cX0_of 4 (some .int), Cond.methodLink RX4 129 yX0_points, Cond.static yX0_points, Cond.code yX0_points cX0_points 1 (some .int), Cond.methodLink RX4 68 yX2_size, Cond.instanceMethod yX2_size]
def wsX4_tightness_r4 : List Cond := [Cond.selects RX2 yX2_size yX2_size, Cond.code yX2_size cX2_size 1 (some .int)]
def wsX4_tightness : List Cond := .code yX4_tightness cX4_tightness 4 (some .float) :: ((wsX4_tightness_r1 ++ (wsX4_tightness_r2 ++ (wsX4_tightness_r3 ++ wsX4_tightness_r4))) ++ wsX40 ++ wsX30 ++ wsX20 ++ (vx_atS RX4 39 "java/lang/IllegalStateException" ["java/lang/RuntimeException", "java/lang/Exception"]).filter goodWord)
def wsX4_count_r1 : List Cond := [Cond.fieldLink RX4 16 "HilbertHutch" "stock" "LHilbertHutch$Stock;", Cond.methodLink RX4 27 yX4_checkSides, Cond.static yX4_checkSides, Cond.initialized RX4, Cond.code yX4_checkSides cX4_checkSides 4 none, Cond.classLink RX4 160 "java/lang/IllegalArgumentException", Cond.initialized "java/lang/IllegalArgumentException", Cond.methodLink RX4 157 yX4_isCoordinate, Cond.static yX4_isCoordinate, Cond.code yX4_isCoordinate cX4_isCoordinate 1 (some .boolean), Cond.methodLink RX4 42 yX0_of, Cond.static yX0_of, Cond.initialized RX0, Cond.code yX0_of cX0_of 4 (some .int), Cond.methodLink RX4 68 yX2_size, Cond.instanceMethod yX2_size, Cond.selects RX2 yX2_size yX2_size, Cond.initialized RX2, Cond.code yX2_size cX2_size 1 (some .int), Cond.fieldLink RX2 25 "HilbertHutch$Stock" "size" "I", Cond.methodLink RX4 134 yX2_areaAt, Cond.instanceMethod yX2_areaAt, Cond.selects RX2 yX2_areaAt yX2_areaAt, Cond.code yX2_areaAt cX2_areaAt 2 (some .int)]
def wsX4_count_r2 : List Cond := [Cond.methodLink RX2 32 yX2_numberAt, Cond.instanceMethod yX2_numberAt, Cond.selects RX2 yX2_numberAt yX2_numberAt, Cond.code yX2_numberAt cX2_numberAt 2 (some .int), Cond.fieldLink RX2 22 "HilbertHutch$Stock" "order" "[I", Cond.methodLink RX2 36 yX2_areaOf, Cond.instanceMethod yX2_areaOf, Cond.selects RX2 yX2_areaOf yX2_areaOf, Cond.code yX2_areaOf cX2_areaOf 2 (some .int), Cond.fieldLink RX2 9 "HilbertHutch$Stock" "areas" "[I", Cond.methodLink RX4 137 yX0_meet, Cond.static yX0_meet, Cond.code yX0_meet cX0_meet 2 (some .boolean), Cond.methodLink RX0 9 yX0_side, Cond.static yX0_side, Cond.code yX0_side cX0_side 2 (some .int)]
def wsX4_count : List Cond := .code yX4_count cX4_count 8 (some .int) :: ((wsX4_count_r1 ++ wsX4_count_r2) ++ wsX40 ++ wsX20 ++ (vx_atS RX4 164 "java/lang/IllegalArgumentException" ["java/lang/RuntimeException", "java/lang/Exception"]).filter goodWord)
def wsX4_found_r1 : List Cond := [Cond.classLink RX4 107 "java/lang/IndexOutOfBoundsException", Cond.initialized "java/lang/IndexOutOfBoundsException", Cond.fieldLink RX4 16 "HilbertHutch" "stock" "LHilbertHutch$Stock;", Cond.methodLink RX4 27 yX4_checkSides, Cond.static yX4_checkSides, Cond.initialized RX4, Cond.code yX4_checkSides cX4_checkSides 4 none, Cond.classLink RX4 160 "java/lang/IllegalArgumentException", Cond.initialized "java/lang/IllegalArgumentException", Cond.methodLink RX4 157 yX4_isCoordinate, Cond.static yX4_isCoordinate, Cond.code yX4_isCoordinate cX4_isCoordinate 1 (some .boolean), Cond.methodLink RX4 42 yX0_of, Cond.static yX0_of, Cond.initialized RX0, Cond.code yX0_of cX0_of 4 (some .int), Cond.methodLink RX4 68 yX2_size, Cond.instanceMethod yX2_size, Cond.selects RX2 yX2_size yX2_size, Cond.initialized RX2, Cond.code yX2_size cX2_size 1 (some .int), Cond.fieldLink RX2 25 "HilbertHutch$Stock" "size" "I", Cond.methodLink RX4 134 yX2_areaAt, Cond.instanceMethod yX2_areaAt]
def wsX4_found_r2 : List Cond := [Cond.selects RX2 yX2_areaAt yX2_areaAt, Cond.code yX2_areaAt cX2_areaAt 2 (some .int), Cond.methodLink RX2 32 yX2_numberAt, Cond.instanceMethod yX2_numberAt, Cond.selects RX2 yX2_numberAt yX2_numberAt, Cond.code yX2_numberAt cX2_numberAt 2 (some .int), Cond.fieldLink RX2 22 "HilbertHutch$Stock" "order" "[I", Cond.methodLink RX2 36 yX2_areaOf, Cond.instanceMethod yX2_areaOf, Cond.selects RX2 yX2_areaOf yX2_areaOf, Cond.code yX2_areaOf cX2_areaOf 2 (some .int), Cond.fieldLink RX2 9 "HilbertHutch$Stock" "areas" "[I", Cond.methodLink RX4 137 yX0_meet, Cond.static yX0_meet, Cond.code yX0_meet cX0_meet 2 (some .boolean), Cond.methodLink RX0 9 yX0_side, Cond.static yX0_side, Cond.code yX0_side cX0_side 2 (some .int), Cond.methodLink RX4 126 yX2_numberAt]
def wsX4_found : List Cond := .code yX4_found cX4_found 9 (some .int) :: ((wsX4_found_r1 ++ wsX4_found_r2) ++ wsX40 ++ wsX20 ++ (vx_atS RX4 111 "java/lang/IndexOutOfBoundsException" ["java/lang/RuntimeException", "java/lang/Exception"]).filter goodWord ++ (vx_atS RX4 164 "java/lang/IllegalArgumentException" ["java/lang/RuntimeException", "java/lang/Exception"]).filter goodWord)
def wsX4_visits_r1 : List Cond := [Cond.fieldLink RX4 23 "HilbertHutch" "tree" "LHilbertHutch$Tree;", Cond.methodLink RX4 27 yX4_checkSides, Cond.static yX4_checkSides, Cond.initialized RX4, Cond.code yX4_checkSides cX4_checkSides 4 none, Cond.classLink RX4 160 "java/lang/IllegalArgumentException", Cond.initialized "java/lang/IllegalArgumentException", Cond.methodLink RX4 157 yX4_isCoordinate, Cond.static yX4_isCoordinate, Cond.code yX4_isCoordinate cX4_isCoordinate 1 (some .boolean), Cond.methodLink RX4 42 yX0_of, Cond.static yX0_of, Cond.initialized RX0, Cond.code yX0_of cX0_of 4 (some .int), Cond.methodLink RX4 100 yX3_height, Cond.instanceMethod yX3_height, Cond.selects RX3 yX3_height yX3_height, Cond.initialized RX3, Cond.code yX3_height cX3_height 1 (some .int), Cond.fieldLink RX3 18 "HilbertHutch$Tree" "height" "I", Cond.methodLink RX4 75 yX3_width, Cond.instanceMethod yX3_width, Cond.selects RX3 yX3_width yX3_width, Cond.code yX3_width cX3_width 2 (some .int)]
def wsX4_visits_r2 : List Cond := [Cond.fieldLink RX3 15 "HilbertHutch$Tree" "widths" "[I", Cond.methodLink RX4 118 yX4_coverOf, Cond.instanceMethod yX4_coverOf, Cond.selects RX4 yX4_coverOf yX4_coverOf, Cond.code yX4_coverOf cX4_coverOf 7 (some .int), Cond.fieldLink RX4 16 "HilbertHutch" "stock" "LHilbertHutch$Stock;", Cond.methodLink RX4 179 yX3_boxesBefore, Cond.instanceMethod yX3_boxesBefore, Cond.selects RX3 yX3_boxesBefore yX3_boxesBefore, Cond.code yX3_boxesBefore cX3_boxesBefore 5 (some .int), Cond.methodLink RX3 34 yX3_entriesBefore, Cond.instanceMethod yX3_entriesBefore, Cond.selects RX3 yX3_entriesBefore yX3_entriesBefore, Cond.code yX3_entriesBefore cX3_entriesBefore 5 (some .int), Cond.methodLink RX3 26 yX3_width, Cond.methodLink RX3 30 yX3_load, Cond.instanceMethod yX3_load, Cond.selects RX3 yX3_load yX3_load, Cond.code yX3_load cX3_load 4 (some .int), Cond.fieldLink RX3 11 "HilbertHutch$Tree" "loads" "[I", Cond.methodLink RX3 22 yX3_hasNode, Cond.instanceMethod yX3_hasNode, Cond.selects RX3 yX3_hasNode yX3_hasNode, Cond.code yX3_hasNode cX3_hasNode 3 (some .boolean)]
def wsX4_visits_r3 : List Cond := [Cond.methodLink RX4 134 yX2_areaAt, Cond.instanceMethod yX2_areaAt, Cond.selects RX2 yX2_areaAt yX2_areaAt, Cond.initialized RX2, Cond.code yX2_areaAt cX2_areaAt 2 (some .int), Cond.methodLink RX2 32 yX2_numberAt, Cond.instanceMethod yX2_numberAt, Cond.selects RX2 yX2_numberAt yX2_numberAt, Cond.code yX2_numberAt cX2_numberAt 2 (some .int), Cond.fieldLink RX2 22 "HilbertHutch$Stock" "order" "[I", Cond.fieldLink RX2 25 "HilbertHutch$Stock" "size" "I", Cond.methodLink RX2 36 yX2_areaOf, Cond.instanceMethod yX2_areaOf, Cond.selects RX2 yX2_areaOf yX2_areaOf, Cond.code yX2_areaOf cX2_areaOf 2 (some .int), Cond.fieldLink RX2 9 "HilbertHutch$Stock" "areas" "[I", Cond.methodLink RX4 182 yX0_around, Cond.static yX0_around, Cond.code yX0_around cX0_around 2 (some .int), Cond.methodLink RX0 15 Lib.Math.min.name, Cond.static Lib.Math.min.name, Cond.initialized "java/lang/Math", Cond.code Lib.Math.min.name Lib.Math.min.code 2 (some .int), Cond.methodLink RX0 20 Lib.Math.max.name]
def wsX4_visits_r4 : List Cond := [Cond.static Lib.Math.max.name, Cond.code Lib.Math.max.name Lib.Math.max.code 2 (some .int), Cond.methodLink RX0 9 yX0_side, Cond.static yX0_side, Cond.code yX0_side cX0_side 2 (some .int), Cond.methodLink RX0 23 yX0_of, Cond.methodLink RX4 137 yX0_meet, Cond.static yX0_meet, Cond.code yX0_meet cX0_meet 2 (some .boolean)]
def wsX4_visits : List Cond := .code yX4_visits cX4_visits 9 (some .int) :: ((wsX4_visits_r1 ++ (wsX4_visits_r2 ++ (wsX4_visits_r3 ++ wsX4_visits_r4))) ++ wsX40 ++ wsX30 ++ wsX20 ++ (vx_atS RX4 164 "java/lang/IllegalArgumentException" ["java/lang/RuntimeException", "java/lang/Exception"]).filter goodWord)
def wsX4_rankByDistance_r1 : List Cond := [Cond.fieldLink RX4 9 "HilbertHutch" "ranks" "[I", Cond.fieldLink RX4 16 "HilbertHutch" "stock" "LHilbertHutch$Stock;", Cond.methodLink RX4 68 yX2_size, Cond.instanceMethod yX2_size, Cond.selects RX2 yX2_size yX2_size, Cond.initialized RX2, Cond.code yX2_size cX2_size 1 (some .int), Cond.fieldLink RX2 25 "HilbertHutch$Stock" "size" "I", Cond.methodLink RX4 134 yX2_areaAt, Cond.instanceMethod yX2_areaAt, Cond.selects RX2 yX2_areaAt yX2_areaAt, Cond.code yX2_areaAt cX2_areaAt 2 (some .int), Cond.methodLink RX2 32 yX2_numberAt, Cond.instanceMethod yX2_numberAt, Cond.selects RX2 yX2_numberAt yX2_numberAt, Cond.code yX2_numberAt cX2_numberAt 2 (some .int), Cond.fieldLink RX2 22 "HilbertHutch$Stock" "order" "[I", Cond.methodLink RX2 36 yX2_areaOf, Cond.instanceMethod yX2_areaOf, Cond.selects RX2 yX2_areaOf yX2_areaOf, Cond.code yX2_areaOf cX2_areaOf 2 (some .int), Cond.fieldLink RX2 9 "HilbertHutch$Stock" "areas" "[I", Cond.methodLink RX4 147 yX0_distanceFrom, Cond.static yX0_distanceFrom]
def wsX4_rankByDistance_r2 : List Cond := [Cond.initialized RX0, Cond.code yX0_distanceFrom cX0_distanceFrom 5 (some .int), Cond.methodLink RX0 9 yX0_side, Cond.static yX0_side, Cond.code yX0_side cX0_side 2 (some .int), Cond.methodLink RX0 27 yX0_gap, Cond.static yX0_gap, Cond.code yX0_gap cX0_gap 3 (some .int), Cond.methodLink RX0 20 Lib.Math.max.name, Cond.static Lib.Math.max.name, Cond.initialized "java/lang/Math", Cond.code Lib.Math.max.name Lib.Math.max.code 2 (some .int), Cond.methodLink RX4 126 yX2_numberAt]
def wsX4_rankByDistance : List Cond := .code yX4_rankByDistance cX4_rankByDistance 5 none :: ((wsX4_rankByDistance_r1 ++ wsX4_rankByDistance_r2) ++ wsX40 ++ wsX20)
def wsX4_ranksBefore : List Cond := .code yX4_ranksBefore cX4_ranksBefore 5 (some .int) :: ([.fieldLink RX4 9 "HilbertHutch" "ranks" "[I", .fieldLink RX4 16 "HilbertHutch" "stock" "LHilbertHutch$Stock;", .methodLink RX4 68 yX2_size, .instanceMethod yX2_size, .selects RX2 yX2_size yX2_size, .initialized RX2, .code yX2_size cX2_size 1 (some .int), .fieldLink RX2 25 "HilbertHutch$Stock" "size" "I"] ++ wsX40 ++ wsX20)
def wsX4_nearest_r1 : List Cond := [Cond.classLink RX4 107 "java/lang/IndexOutOfBoundsException", Cond.initialized "java/lang/IndexOutOfBoundsException", Cond.fieldLink RX4 16 "HilbertHutch" "stock" "LHilbertHutch$Stock;", Cond.methodLink RX4 78 yX4_checkPoint, Cond.static yX4_checkPoint, Cond.initialized RX4, Cond.code yX4_checkPoint cX4_checkPoint 2 none, Cond.classLink RX4 160 "java/lang/IllegalArgumentException", Cond.initialized "java/lang/IllegalArgumentException", Cond.methodLink RX4 157 yX4_isCoordinate, Cond.static yX4_isCoordinate, Cond.code yX4_isCoordinate cX4_isCoordinate 1 (some .boolean), Cond.methodLink RX4 141 yX4_rankByDistance, Cond.instanceMethod yX4_rankByDistance, Cond.selects RX4 yX4_rankByDistance yX4_rankByDistance, Cond.code yX4_rankByDistance cX4_rankByDistance 5 none, Cond.fieldLink RX4 9 "HilbertHutch" "ranks" "[I", Cond.methodLink RX4 68 yX2_size, Cond.instanceMethod yX2_size, Cond.selects RX2 yX2_size yX2_size, Cond.initialized RX2, Cond.code yX2_size cX2_size 1 (some .int), Cond.fieldLink RX2 25 "HilbertHutch$Stock" "size" "I", Cond.methodLink RX4 134 yX2_areaAt]
def wsX4_nearest_r2 : List Cond := [Cond.instanceMethod yX2_areaAt, Cond.selects RX2 yX2_areaAt yX2_areaAt, Cond.code yX2_areaAt cX2_areaAt 2 (some .int), Cond.methodLink RX2 32 yX2_numberAt, Cond.instanceMethod yX2_numberAt, Cond.selects RX2 yX2_numberAt yX2_numberAt, Cond.code yX2_numberAt cX2_numberAt 2 (some .int), Cond.fieldLink RX2 22 "HilbertHutch$Stock" "order" "[I", Cond.methodLink RX2 36 yX2_areaOf, Cond.instanceMethod yX2_areaOf, Cond.selects RX2 yX2_areaOf yX2_areaOf, Cond.code yX2_areaOf cX2_areaOf 2 (some .int), Cond.fieldLink RX2 9 "HilbertHutch$Stock" "areas" "[I", Cond.methodLink RX4 147 yX0_distanceFrom, Cond.static yX0_distanceFrom, Cond.initialized RX0, Cond.code yX0_distanceFrom cX0_distanceFrom 5 (some .int), Cond.methodLink RX0 9 yX0_side, Cond.static yX0_side, Cond.code yX0_side cX0_side 2 (some .int), Cond.methodLink RX0 27 yX0_gap, Cond.static yX0_gap, Cond.code yX0_gap cX0_gap 3 (some .int), Cond.methodLink RX0 20 Lib.Math.max.name]
def wsX4_nearest_r3 : List Cond := [Cond.static Lib.Math.max.name, Cond.initialized "java/lang/Math", Cond.code Lib.Math.max.name Lib.Math.max.code 2 (some .int), Cond.methodLink RX4 126 yX2_numberAt, Cond.methodLink RX4 144 yX4_ranksBefore, Cond.instanceMethod yX4_ranksBefore, Cond.selects RX4 yX4_ranksBefore yX4_ranksBefore, Cond.code yX4_ranksBefore cX4_ranksBefore 5 (some .int)]
def wsX4_nearest : List Cond := .code yX4_nearest cX4_nearest 5 (some .int) :: ((wsX4_nearest_r1 ++ (wsX4_nearest_r2 ++ wsX4_nearest_r3)) ++ wsX40 ++ wsX20 ++ (vx_atS RX4 111 "java/lang/IndexOutOfBoundsException" ["java/lang/RuntimeException", "java/lang/Exception"]).filter goodWord ++ (vx_atS RX4 164 "java/lang/IllegalArgumentException" ["java/lang/RuntimeException", "java/lang/Exception"]).filter goodWord)
def wsX4_distance_r1 : List Cond := [Cond.fieldLink RX4 16 "HilbertHutch" "stock" "LHilbertHutch$Stock;", Cond.methodLink RX4 78 yX4_checkPoint, Cond.static yX4_checkPoint, Cond.initialized RX4, Cond.code yX4_checkPoint cX4_checkPoint 2 none, Cond.classLink RX4 160 "java/lang/IllegalArgumentException", Cond.initialized "java/lang/IllegalArgumentException", Cond.methodLink RX4 157 yX4_isCoordinate, Cond.static yX4_isCoordinate, Cond.code yX4_isCoordinate cX4_isCoordinate 1 (some .boolean), Cond.methodLink RX4 59 yX4_checkBox, Cond.instanceMethod yX4_checkBox, Cond.selects RX4 yX4_checkBox yX4_checkBox, Cond.code yX4_checkBox cX4_checkBox 2 none, Cond.classLink RX4 107 "java/lang/IndexOutOfBoundsException", Cond.initialized "java/lang/IndexOutOfBoundsException", Cond.methodLink RX4 169 yX2_has, Cond.instanceMethod yX2_has, Cond.selects RX2 yX2_has yX2_has, Cond.initialized RX2, Cond.code yX2_has cX2_has 2 (some .boolean), Cond.fieldLink RX2 18 "HilbertHutch$Stock" "there" "[Z", Cond.methodLink RX4 94 yX2_areaOf, Cond.instanceMethod yX2_areaOf]
def wsX4_distance_r2 : List Cond := [Cond.selects RX2 yX2_areaOf yX2_areaOf, Cond.code yX2_areaOf cX2_areaOf 2 (some .int), Cond.fieldLink RX2 9 "HilbertHutch$Stock" "areas" "[I", Cond.methodLink RX4 147 yX0_distanceFrom, Cond.static yX0_distanceFrom, Cond.initialized RX0, Cond.code yX0_distanceFrom cX0_distanceFrom 5 (some .int), Cond.methodLink RX0 9 yX0_side, Cond.static yX0_side, Cond.code yX0_side cX0_side 2 (some .int), Cond.methodLink RX0 27 yX0_gap, Cond.static yX0_gap, Cond.code yX0_gap cX0_gap 3 (some .int), Cond.methodLink RX0 20 Lib.Math.max.name, Cond.static Lib.Math.max.name, Cond.initialized "java/lang/Math", Cond.code Lib.Math.max.name Lib.Math.max.code 2 (some .int)]
def wsX4_distance : List Cond := .code yX4_distance cX4_distance 4 (some .int) :: ((wsX4_distance_r1 ++ wsX4_distance_r2) ++ wsX40 ++ wsX20 ++ (vx_atS RX4 164 "java/lang/IllegalArgumentException" ["java/lang/RuntimeException", "java/lang/Exception"]).filter goodWord ++ (vx_atS RX4 111 "java/lang/IndexOutOfBoundsException" ["java/lang/RuntimeException", "java/lang/Exception"]).filter goodWord)
def wsX4_pairs_r1 : List Cond := [Cond.fieldLink RX4 16 "HilbertHutch" "stock" "LHilbertHutch$Stock;", Cond.methodLink RX4 151 yX2_added, Cond.instanceMethod yX2_added, Cond.selects RX2 yX2_added yX2_added, Cond.initialized RX2, Cond.code yX2_added cX2_added 1 (some .int), Cond.fieldLink RX2 29 "HilbertHutch$Stock" "added" "I", Cond.methodLink RX4 154 yX2_haveMet, Cond.instanceMethod yX2_haveMet, Cond.selects RX2 yX2_haveMet yX2_haveMet, Cond.code yX2_haveMet cX2_haveMet 3 (some .boolean), Cond.methodLink RX2 39 yX2_has, Cond.instanceMethod yX2_has, Cond.selects RX2 yX2_has yX2_has, Cond.code yX2_has cX2_has 2 (some .boolean), Cond.fieldLink RX2 18 "HilbertHutch$Stock" "there" "[Z", Cond.methodLink RX2 36 yX2_areaOf, Cond.instanceMethod yX2_areaOf, Cond.selects RX2 yX2_areaOf yX2_areaOf, Cond.code yX2_areaOf cX2_areaOf 2 (some .int), Cond.fieldLink RX2 9 "HilbertHutch$Stock" "areas" "[I", Cond.methodLink RX2 43 yX0_meet, Cond.static yX0_meet, Cond.initialized RX0]
def wsX4_pairs_r2 : List Cond := [Cond.code yX0_meet cX0_meet 2 (some .boolean), Cond.methodLink RX0 9 yX0_side, Cond.static yX0_side, Cond.code yX0_side cX0_side 2 (some .int)]
def wsX4_pairs : List Cond := .code yX4_pairs cX4_pairs 4 (some .int) :: ((wsX4_pairs_r1 ++ wsX4_pairs_r2) ++ wsX40 ++ wsX20)
def wsX4_pair_r1 : List Cond := [Cond.classLink RX4 107 "java/lang/IndexOutOfBoundsException", Cond.initialized "java/lang/IndexOutOfBoundsException", Cond.fieldLink RX4 16 "HilbertHutch" "stock" "LHilbertHutch$Stock;", Cond.methodLink RX4 151 yX2_added, Cond.instanceMethod yX2_added, Cond.selects RX2 yX2_added yX2_added, Cond.initialized RX2, Cond.code yX2_added cX2_added 1 (some .int), Cond.fieldLink RX2 29 "HilbertHutch$Stock" "added" "I", Cond.methodLink RX4 154 yX2_haveMet, Cond.instanceMethod yX2_haveMet, Cond.selects RX2 yX2_haveMet yX2_haveMet, Cond.code yX2_haveMet cX2_haveMet 3 (some .boolean), Cond.methodLink RX2 39 yX2_has, Cond.instanceMethod yX2_has, Cond.selects RX2 yX2_has yX2_has, Cond.code yX2_has cX2_has 2 (some .boolean), Cond.fieldLink RX2 18 "HilbertHutch$Stock" "there" "[Z", Cond.methodLink RX2 36 yX2_areaOf, Cond.instanceMethod yX2_areaOf, Cond.selects RX2 yX2_areaOf yX2_areaOf, Cond.code yX2_areaOf cX2_areaOf 2 (some .int), Cond.fieldLink RX2 9 "HilbertHutch$Stock" "areas" "[I", Cond.methodLink RX2 43 yX0_meet]
def wsX4_pair_r2 : List Cond := [Cond.static yX0_meet, Cond.initialized RX0, Cond.code yX0_meet cX0_meet 2 (some .boolean), Cond.methodLink RX0 9 yX0_side, Cond.static yX0_side, Cond.code yX0_side cX0_side 2 (some .int)]
def wsX4_pair : List Cond := .code yX4_pair cX4_pair 5 (some .int) :: ((wsX4_pair_r1 ++ wsX4_pair_r2) ++ wsX40 ++ wsX20 ++ (vx_atS RX4 111 "java/lang/IndexOutOfBoundsException" ["java/lang/RuntimeException", "java/lang/Exception"]).filter goodWord)
def wsJ9_max_7cf53 : List Cond := .code yJ9_max_7cf53 cJ9_max_7cf53 2 (some .int) :: ([])
def wsJ9_min_7cf53 : List Cond := .code yJ9_min_7cf53 cJ9_min_7cf53 2 (some .int) :: ([])
def wsL_part : List Cond := .code yL_part cL_part 4 (some .int) :: ([.constant RL 7 (2147483647)])
def wsL_adds_r1 : List Cond := [Cond.classLink RL 14 "java/lang/IllegalArgumentException", Cond.classLink RL 16 "java/lang/IllegalStateException", Cond.methodLink RL 8 yX4_add, Cond.instanceMethod yX4_add, Cond.selects RX4 yX4_add yX4_add, Cond.initialized RX4, Cond.code yX4_add cX4_add 6 (some .int), Cond.classLink RX4 35 "java/lang/IllegalStateException", Cond.initialized "java/lang/IllegalStateException", Cond.fieldLink RX4 16 "HilbertHutch" "stock" "LHilbertHutch$Stock;", Cond.fieldLink RX4 23 "HilbertHutch" "tree" "LHilbertHutch$Tree;", Cond.methodLink RX4 27 yX4_checkSides, Cond.static yX4_checkSides, Cond.code yX4_checkSides cX4_checkSides 4 none, Cond.classLink RX4 160 "java/lang/IllegalArgumentException", Cond.initialized "java/lang/IllegalArgumentException", Cond.methodLink RX4 157 yX4_isCoordinate, Cond.static yX4_isCoordinate, Cond.code yX4_isCoordinate cX4_isCoordinate 1 (some .boolean), Cond.methodLink RX4 31 yX2_hasRoom, Cond.instanceMethod yX2_hasRoom, Cond.selects RX2 yX2_hasRoom yX2_hasRoom, Cond.initialized RX2, Cond.code yX2_hasRoom cX2_hasRoom 1 (some .boolean)]
def wsL_adds_r2 : List Cond := [Cond.fieldLink RX2 29 "HilbertHutch$Stock" "added" "I", Cond.fieldLink RX2 25 "HilbertHutch$Stock" "size" "I", Cond.methodLink RX4 42 yX0_of, Cond.static yX0_of, Cond.initialized RX0, Cond.code yX0_of cX0_of 4 (some .int), Cond.methodLink RX4 48 yX2_putIn, Cond.instanceMethod yX2_putIn, Cond.selects RX2 yX2_putIn yX2_putIn, Cond.code yX2_putIn cX2_putIn 3 (some .int), Cond.fieldLink RX2 9 "HilbertHutch$Stock" "areas" "[I", Cond.fieldLink RX2 15 "HilbertHutch$Stock" "keys" "[I", Cond.fieldLink RX2 18 "HilbertHutch$Stock" "there" "[Z", Cond.methodLink RX2 49 yX0_middleKey, Cond.static yX0_middleKey, Cond.code yX0_middleKey cX0_middleKey 3 (some .int), Cond.methodLink RX0 9 yX0_side, Cond.static yX0_side, Cond.code yX0_side cX0_side 2 (some .int), Cond.methodLink RX0 31 yX1_lengthTo, Cond.static yX1_lengthTo, Cond.initialized RX1, Cond.code yX1_lengthTo cX1_lengthTo 9 (some .int), Cond.methodLink RX1 9 yX1_quarter]
def wsL_adds_r3 : List Cond := [Cond.static yX1_quarter, Cond.code yX1_quarter cX1_quarter 2 (some .int), Cond.methodLink RX2 52 yX2_putInOrder, Cond.instanceMethod yX2_putInOrder, Cond.selects RX2 yX2_putInOrder yX2_putInOrder, Cond.code yX2_putInOrder cX2_putInOrder 4 none, Cond.methodLink RX2 32 yX2_numberAt, Cond.instanceMethod yX2_numberAt, Cond.selects RX2 yX2_numberAt yX2_numberAt, Cond.code yX2_numberAt cX2_numberAt 2 (some .int), Cond.fieldLink RX2 22 "HilbertHutch$Stock" "order" "[I", Cond.methodLink RX2 56 yX2_keyFor, Cond.instanceMethod yX2_keyFor, Cond.selects RX2 yX2_keyFor yX2_keyFor, Cond.code yX2_keyFor cX2_keyFor 2 (some .int), Cond.methodLink RX2 59 yX2_setOrder, Cond.instanceMethod yX2_setOrder, Cond.selects RX2 yX2_setOrder yX2_setOrder, Cond.code yX2_setOrder cX2_setOrder 3 none, Cond.methodLink RX4 52 yX2_placeOf, Cond.instanceMethod yX2_placeOf, Cond.selects RX2 yX2_placeOf yX2_placeOf, Cond.code yX2_placeOf cX2_placeOf 3 (some .int), Cond.methodLink RX4 55 yX3_grow]
def wsL_adds_r4 : List Cond := [Cond.instanceMethod yX3_grow, Cond.selects RX3 yX3_grow yX3_grow, Cond.initialized RX3, Cond.code yX3_grow cX3_grow 5 none, Cond.fieldLink RX3 18 "HilbertHutch$Tree" "height" "I", Cond.methodLink RX3 44 yX3_addRoot, Cond.instanceMethod yX3_addRoot, Cond.selects RX3 yX3_addRoot yX3_addRoot, Cond.code yX3_addRoot cX3_addRoot 2 none, Cond.methodLink RX3 63 yX3_setWidth, Cond.instanceMethod yX3_setWidth, Cond.selects RX3 yX3_setWidth yX3_setWidth, Cond.code yX3_setWidth cX3_setWidth 3 none, Cond.fieldLink RX3 15 "HilbertHutch$Tree" "widths" "[I", Cond.methodLink RX3 48 yX3_setLoad, Cond.instanceMethod yX3_setLoad, Cond.selects RX3 yX3_setLoad yX3_setLoad, Cond.code yX3_setLoad cX3_setLoad 5 none, Cond.fieldLink RX3 11 "HilbertHutch$Tree" "loads" "[I", Cond.methodLink RX3 22 yX3_hasNode, Cond.instanceMethod yX3_hasNode, Cond.selects RX3 yX3_hasNode yX3_hasNode, Cond.code yX3_hasNode cX3_hasNode 3 (some .boolean), Cond.methodLink RX3 41 yX3_holder]
def wsL_adds_r5 : List Cond := [Cond.instanceMethod yX3_holder, Cond.selects RX3 yX3_holder yX3_holder, Cond.code yX3_holder cX3_holder 5 (some .int), Cond.methodLink RX3 26 yX3_width, Cond.instanceMethod yX3_width, Cond.selects RX3 yX3_width yX3_width, Cond.code yX3_width cX3_width 2 (some .int), Cond.methodLink RX3 30 yX3_load, Cond.instanceMethod yX3_load, Cond.selects RX3 yX3_load yX3_load, Cond.code yX3_load cX3_load 4 (some .int), Cond.methodLink RX3 52 yX3_parent, Cond.instanceMethod yX3_parent, Cond.selects RX3 yX3_parent yX3_parent, Cond.code yX3_parent cX3_parent 3 (some .int), Cond.methodLink RX3 37 yX3_hasLevel, Cond.instanceMethod yX3_hasLevel, Cond.selects RX3 yX3_hasLevel yX3_hasLevel, Cond.code yX3_hasLevel cX3_hasLevel 2 (some .boolean), Cond.methodLink RX3 55 yX3_relieve, Cond.instanceMethod yX3_relieve, Cond.selects RX3 yX3_relieve yX3_relieve, Cond.code yX3_relieve cX3_relieve 6 (some .boolean), Cond.methodLink RX3 73 Lib.Math.min.name]
def wsL_adds_r6 : List Cond := [Cond.static Lib.Math.min.name, Cond.initialized "java/lang/Math", Cond.code Lib.Math.min.name Lib.Math.min.code 2 (some .int), Cond.methodLink RX3 66 yX3_partner, Cond.instanceMethod yX3_partner, Cond.selects RX3 yX3_partner yX3_partner, Cond.code yX3_partner cX3_partner 6 (some .int), Cond.methodLink RX3 34 yX3_entriesBefore, Cond.instanceMethod yX3_entriesBefore, Cond.selects RX3 yX3_entriesBefore yX3_entriesBefore, Cond.code yX3_entriesBefore cX3_entriesBefore 5 (some .int), Cond.methodLink RX3 70 yX3_insertNode, Cond.instanceMethod yX3_insertNode, Cond.selects RX3 yX3_insertNode yX3_insertNode, Cond.code yX3_insertNode cX3_insertNode 6 none, Cond.methodLink RX3 78 yX3_halve, Cond.instanceMethod yX3_halve, Cond.selects RX3 yX3_halve yX3_halve, Cond.code yX3_halve cX3_halve 4 none, Cond.methodLink RX3 59 yX3_gainEntry, Cond.instanceMethod yX3_gainEntry, Cond.selects RX3 yX3_gainEntry yX3_gainEntry, Cond.code yX3_gainEntry cX3_gainEntry 3 none]
def wsL_adds : List Cond := .codeWith yL_adds cL_adds 6 (some .int) [(0, 9, 10, 14), (0, 9, 15, 16)] :: ((wsL_adds_r1 ++ (wsL_adds_r2 ++ (wsL_adds_r3 ++ (wsL_adds_r4 ++ (wsL_adds_r5 ++ wsL_adds_r6))))) ++ wsX40 ++ wsX20 ++ wsX30 ++ (vx_atS RX4 39 "java/lang/IllegalStateException" ["java/lang/RuntimeException", "java/lang/Exception"]).filter goodWord ++ (vx_atS RX4 164 "java/lang/IllegalArgumentException" ["java/lang/RuntimeException", "java/lang/Exception"]).filter goodWord)
def wsL_removes_r1 : List Cond := [Cond.classLink RL 22 "java/lang/IndexOutOfBoundsException", Cond.methodLink RL 18 yX4_remove, Cond.instanceMethod yX4_remove, Cond.selects RX4 yX4_remove yX4_remove, Cond.initialized RX4, Cond.code yX4_remove cX4_remove 2 (some .int), Cond.fieldLink RX4 23 "HilbertHutch" "tree" "LHilbertHutch$Tree;", Cond.fieldLink RX4 16 "HilbertHutch" "stock" "LHilbertHutch$Stock;", Cond.methodLink RX4 59 yX4_checkBox, Cond.instanceMethod yX4_checkBox, Cond.selects RX4 yX4_checkBox yX4_checkBox, Cond.code yX4_checkBox cX4_checkBox 2 none, Cond.classLink RX4 107 "java/lang/IndexOutOfBoundsException", Cond.initialized "java/lang/IndexOutOfBoundsException", Cond.methodLink RX4 169 yX2_has, Cond.instanceMethod yX2_has, Cond.selects RX2 yX2_has yX2_has, Cond.initialized RX2, Cond.code yX2_has cX2_has 2 (some .boolean), Cond.fieldLink RX2 18 "HilbertHutch$Stock" "there" "[Z", Cond.methodLink RX4 52 yX2_placeOf, Cond.instanceMethod yX2_placeOf, Cond.selects RX2 yX2_placeOf yX2_placeOf, Cond.code yX2_placeOf cX2_placeOf 3 (some .int)]
def wsL_removes_r2 : List Cond := [Cond.fieldLink RX2 25 "HilbertHutch$Stock" "size" "I", Cond.methodLink RX2 32 yX2_numberAt, Cond.instanceMethod yX2_numberAt, Cond.selects RX2 yX2_numberAt yX2_numberAt, Cond.code yX2_numberAt cX2_numberAt 2 (some .int), Cond.fieldLink RX2 22 "HilbertHutch$Stock" "order" "[I", Cond.methodLink RX4 62 yX3_shrink, Cond.instanceMethod yX3_shrink, Cond.selects RX3 yX3_shrink yX3_shrink, Cond.initialized RX3, Cond.code yX3_shrink cX3_shrink 6 none, Cond.fieldLink RX3 18 "HilbertHutch$Tree" "height" "I", Cond.methodLink RX3 41 yX3_holder, Cond.instanceMethod yX3_holder, Cond.selects RX3 yX3_holder yX3_holder, Cond.code yX3_holder cX3_holder 5 (some .int), Cond.methodLink RX3 26 yX3_width, Cond.instanceMethod yX3_width, Cond.selects RX3 yX3_width yX3_width, Cond.code yX3_width cX3_width 2 (some .int), Cond.fieldLink RX3 15 "HilbertHutch$Tree" "widths" "[I", Cond.methodLink RX3 30 yX3_load, Cond.instanceMethod yX3_load, Cond.selects RX3 yX3_load yX3_load]
def wsL_removes_r3 : List Cond := [Cond.code yX3_load cX3_load 4 (some .int), Cond.fieldLink RX3 11 "HilbertHutch$Tree" "loads" "[I", Cond.methodLink RX3 22 yX3_hasNode, Cond.instanceMethod yX3_hasNode, Cond.selects RX3 yX3_hasNode yX3_hasNode, Cond.code yX3_hasNode cX3_hasNode 3 (some .boolean), Cond.methodLink RX3 48 yX3_setLoad, Cond.instanceMethod yX3_setLoad, Cond.selects RX3 yX3_setLoad yX3_setLoad, Cond.code yX3_setLoad cX3_setLoad 5 none, Cond.methodLink RX3 52 yX3_parent, Cond.instanceMethod yX3_parent, Cond.selects RX3 yX3_parent yX3_parent, Cond.code yX3_parent cX3_parent 3 (some .int), Cond.methodLink RX3 37 yX3_hasLevel, Cond.instanceMethod yX3_hasLevel, Cond.selects RX3 yX3_hasLevel yX3_hasLevel, Cond.code yX3_hasLevel cX3_hasLevel 2 (some .boolean), Cond.methodLink RX3 81 yX3_unite, Cond.instanceMethod yX3_unite, Cond.selects RX3 yX3_unite yX3_unite, Cond.code yX3_unite cX3_unite 7 (some .boolean), Cond.methodLink RX3 73 Lib.Math.min.name, Cond.static Lib.Math.min.name]
def wsL_removes_r4 : List Cond := [Cond.initialized "java/lang/Math", Cond.code Lib.Math.min.name Lib.Math.min.code 2 (some .int), Cond.methodLink RX3 66 yX3_partner, Cond.instanceMethod yX3_partner, Cond.selects RX3 yX3_partner yX3_partner, Cond.code yX3_partner cX3_partner 6 (some .int), Cond.methodLink RX3 34 yX3_entriesBefore, Cond.instanceMethod yX3_entriesBefore, Cond.selects RX3 yX3_entriesBefore yX3_entriesBefore, Cond.code yX3_entriesBefore cX3_entriesBefore 5 (some .int), Cond.methodLink RX3 87 yX3_deleteNode, Cond.instanceMethod yX3_deleteNode, Cond.selects RX3 yX3_deleteNode yX3_deleteNode, Cond.code yX3_deleteNode cX3_deleteNode 5 none, Cond.methodLink RX3 90 Lib.Math.max.name, Cond.static Lib.Math.max.name, Cond.code Lib.Math.max.name Lib.Math.max.code 2 (some .int), Cond.methodLink RX3 63 yX3_setWidth, Cond.instanceMethod yX3_setWidth, Cond.selects RX3 yX3_setWidth yX3_setWidth, Cond.code yX3_setWidth cX3_setWidth 3 none, Cond.methodLink RX3 78 yX3_halve, Cond.instanceMethod yX3_halve, Cond.selects RX3 yX3_halve yX3_halve]
def wsL_removes_r5 : List Cond := [Cond.code yX3_halve cX3_halve 4 none, Cond.methodLink RX3 84 yX3_lowerRoot, Cond.instanceMethod yX3_lowerRoot, Cond.selects RX3 yX3_lowerRoot yX3_lowerRoot, Cond.code yX3_lowerRoot cX3_lowerRoot 2 none, Cond.methodLink RX4 65 yX2_takeOut, Cond.instanceMethod yX2_takeOut, Cond.selects RX2 yX2_takeOut yX2_takeOut, Cond.code yX2_takeOut cX2_takeOut 4 none, Cond.methodLink RX2 63 yX2_placeOf, Cond.methodLink RX2 39 yX2_has, Cond.methodLink RX2 59 yX2_setOrder, Cond.instanceMethod yX2_setOrder, Cond.selects RX2 yX2_setOrder yX2_setOrder, Cond.code yX2_setOrder cX2_setOrder 3 none, Cond.methodLink RX4 68 yX2_size, Cond.instanceMethod yX2_size, Cond.selects RX2 yX2_size yX2_size, Cond.code yX2_size cX2_size 1 (some .int)]
def wsL_removes : List Cond := .codeWith yL_removes cL_removes 3 (some .int) [(0, 5, 6, 22)] :: ((wsL_removes_r1 ++ (wsL_removes_r2 ++ (wsL_removes_r3 ++ (wsL_removes_r4 ++ wsL_removes_r5)))) ++ wsX40 ++ wsX20 ++ wsX30 ++ (vx_atS RX4 111 "java/lang/IndexOutOfBoundsException" ["java/lang/RuntimeException", "java/lang/Exception"]).filter goodWord)
def wsL_key : List Cond := .codeWith yL_key cL_key 4 (some .int) [(0, 6, 7, 14)] :: ([.classLink RL 14 "java/lang/IllegalArgumentException", .methodLink RL 24 yX4_key, .instanceMethod yX4_key, .selects RX4 yX4_key yX4_key, .initialized RX4, .code yX4_key cX4_key 3 (some .int), .methodLink RX4 78 yX4_checkPoint, .static yX4_checkPoint, .code yX4_checkPoint cX4_checkPoint 2 none, .classLink RX4 160 "java/lang/IllegalArgumentException", .initialized "java/lang/IllegalArgumentException", .methodLink RX4 157 yX4_isCoordinate, .static yX4_isCoordinate, .code yX4_isCoordinate cX4_isCoordinate 1 (some .boolean), .methodLink RX4 82 yX1_lengthTo, .static yX1_lengthTo, .initialized RX1, .code yX1_lengthTo cX1_lengthTo 9 (some .int), .methodLink RX1 9 yX1_quarter, .static yX1_quarter, .code yX1_quarter cX1_quarter 2 (some .int)] ++ (vx_atS RX4 164 "java/lang/IllegalArgumentException" ["java/lang/RuntimeException", "java/lang/Exception"]).filter goodWord)
def wsL_side_r1 : List Cond := [Cond.classLink RL 14 "java/lang/IllegalArgumentException", Cond.classLink RL 22 "java/lang/IndexOutOfBoundsException", Cond.methodLink RL 28 yX4_sideOf, Cond.instanceMethod yX4_sideOf, Cond.selects RX4 yX4_sideOf yX4_sideOf, Cond.initialized RX4, Cond.code yX4_sideOf cX4_sideOf 3 (some .int), Cond.fieldLink RX4 16 "HilbertHutch" "stock" "LHilbertHutch$Stock;", Cond.methodLink RX4 91 yX4_checkSide, Cond.static yX4_checkSide, Cond.code yX4_checkSide cX4_checkSide 1 none, Cond.classLink RX4 160 "java/lang/IllegalArgumentException", Cond.initialized "java/lang/IllegalArgumentException", Cond.methodLink RX4 59 yX4_checkBox, Cond.instanceMethod yX4_checkBox, Cond.selects RX4 yX4_checkBox yX4_checkBox, Cond.code yX4_checkBox cX4_checkBox 2 none, Cond.classLink RX4 107 "java/lang/IndexOutOfBoundsException", Cond.initialized "java/lang/IndexOutOfBoundsException", Cond.methodLink RX4 169 yX2_has, Cond.instanceMethod yX2_has, Cond.selects RX2 yX2_has yX2_has, Cond.initialized RX2, Cond.code yX2_has cX2_has 2 (some .boolean)]
def wsL_side_r2 : List Cond := [Cond.fieldLink RX2 18 "HilbertHutch$Stock" "there" "[Z", Cond.methodLink RX4 94 yX2_areaOf, Cond.instanceMethod yX2_areaOf, Cond.selects RX2 yX2_areaOf yX2_areaOf, Cond.code yX2_areaOf cX2_areaOf 2 (some .int), Cond.fieldLink RX2 9 "HilbertHutch$Stock" "areas" "[I", Cond.methodLink RX4 97 yX0_side, Cond.static yX0_side, Cond.initialized RX0, Cond.code yX0_side cX0_side 2 (some .int)]
def wsL_side : List Cond := .codeWith yL_side cL_side 4 (some .int) [(0, 6, 7, 14), (0, 6, 11, 22)] :: ((wsL_side_r1 ++ wsL_side_r2) ++ wsX40 ++ wsX20 ++ (vx_atS RX4 164 "java/lang/IllegalArgumentException" ["java/lang/RuntimeException", "java/lang/Exception"]).filter goodWord ++ (vx_atS RX4 111 "java/lang/IndexOutOfBoundsException" ["java/lang/RuntimeException", "java/lang/Exception"]).filter goodWord)
def wsL_tree_r1 : List Cond := [Cond.classLink RL 14 "java/lang/IllegalArgumentException", Cond.classLink RL 22 "java/lang/IndexOutOfBoundsException", Cond.methodLink RL 31 yX4_nodes, Cond.instanceMethod yX4_nodes, Cond.selects RX4 yX4_nodes yX4_nodes, Cond.initialized RX4, Cond.code yX4_nodes cX4_nodes 2 (some .int), Cond.classLink RX4 107 "java/lang/IndexOutOfBoundsException", Cond.initialized "java/lang/IndexOutOfBoundsException", Cond.fieldLink RX4 23 "HilbertHutch" "tree" "LHilbertHutch$Tree;", Cond.methodLink RX4 103 yX3_hasLevel, Cond.instanceMethod yX3_hasLevel, Cond.selects RX3 yX3_hasLevel yX3_hasLevel, Cond.initialized RX3, Cond.code yX3_hasLevel cX3_hasLevel 2 (some .boolean), Cond.fieldLink RX3 18 "HilbertHutch$Tree" "height" "I", Cond.methodLink RX4 75 yX3_width, Cond.instanceMethod yX3_width, Cond.selects RX3 yX3_width yX3_width, Cond.code yX3_width cX3_width 2 (some .int), Cond.fieldLink RX3 15 "HilbertHutch$Tree" "widths" "[I", Cond.methodLink RL 34 yX4_entries, Cond.instanceMethod yX4_entries, Cond.selects RX4 yX4_entries yX4_entries]
def wsL_tree_r2 : List Cond := [Cond.code yX4_entries cX4_entries 3 (some .int), Cond.methodLink RX4 112 yX4_checkNode, Cond.instanceMethod yX4_checkNode, Cond.selects RX4 yX4_checkNode yX4_checkNode, Cond.code yX4_checkNode cX4_checkNode 3 none, Cond.methodLink RX4 174 yX3_hasNode, Cond.instanceMethod yX3_hasNode, Cond.selects RX3 yX3_hasNode yX3_hasNode, Cond.code yX3_hasNode cX3_hasNode 3 (some .boolean), Cond.methodLink RX4 115 yX3_load, Cond.instanceMethod yX3_load, Cond.selects RX3 yX3_load yX3_load, Cond.code yX3_load cX3_load 4 (some .int), Cond.fieldLink RX3 11 "HilbertHutch$Tree" "loads" "[I", Cond.methodLink RX3 22 yX3_hasNode, Cond.methodLink RL 37 yX4_cover, Cond.instanceMethod yX4_cover, Cond.selects RX4 yX4_cover yX4_cover, Cond.code yX4_cover cX4_cover 4 (some .int), Cond.methodLink RX4 91 yX4_checkSide, Cond.static yX4_checkSide, Cond.code yX4_checkSide cX4_checkSide 1 none, Cond.classLink RX4 160 "java/lang/IllegalArgumentException", Cond.initialized "java/lang/IllegalArgumentException"]
def wsL_tree_r3 : List Cond := [Cond.methodLink RX4 118 yX4_coverOf, Cond.instanceMethod yX4_coverOf, Cond.selects RX4 yX4_coverOf yX4_coverOf, Cond.code yX4_coverOf cX4_coverOf 7 (some .int), Cond.fieldLink RX4 16 "HilbertHutch" "stock" "LHilbertHutch$Stock;", Cond.methodLink RX4 179 yX3_boxesBefore, Cond.instanceMethod yX3_boxesBefore, Cond.selects RX3 yX3_boxesBefore yX3_boxesBefore, Cond.code yX3_boxesBefore cX3_boxesBefore 5 (some .int), Cond.methodLink RX3 34 yX3_entriesBefore, Cond.instanceMethod yX3_entriesBefore, Cond.selects RX3 yX3_entriesBefore yX3_entriesBefore, Cond.code yX3_entriesBefore cX3_entriesBefore 5 (some .int), Cond.methodLink RX3 26 yX3_width, Cond.methodLink RX3 30 yX3_load, Cond.methodLink RX4 134 yX2_areaAt, Cond.instanceMethod yX2_areaAt, Cond.selects RX2 yX2_areaAt yX2_areaAt, Cond.initialized RX2, Cond.code yX2_areaAt cX2_areaAt 2 (some .int), Cond.methodLink RX2 32 yX2_numberAt, Cond.instanceMethod yX2_numberAt, Cond.selects RX2 yX2_numberAt yX2_numberAt, Cond.code yX2_numberAt cX2_numberAt 2 (some .int)]
def wsL_tree_r4 : List Cond := [Cond.fieldLink RX2 22 "HilbertHutch$Stock" "order" "[I", Cond.fieldLink RX2 25 "HilbertHutch$Stock" "size" "I", Cond.methodLink RX2 36 yX2_areaOf, Cond.instanceMethod yX2_areaOf, Cond.selects RX2 yX2_areaOf yX2_areaOf, Cond.code yX2_areaOf cX2_areaOf 2 (some .int), Cond.fieldLink RX2 9 "HilbertHutch$Stock" "areas" "[I", Cond.methodLink RX4 182 yX0_around, Cond.static yX0_around, Cond.initialized RX0, Cond.code yX0_around cX0_around 2 (some .int), Cond.methodLink RX0 15 Lib.Math.min.name, Cond.static Lib.Math.min.name, Cond.initialized "java/lang/Math", Cond.code Lib.Math.min.name Lib.Math.min.code 2 (some .int), Cond.methodLink RX0 20 Lib.Math.max.name, Cond.static Lib.Math.max.name, Cond.code Lib.Math.max.name Lib.Math.max.code 2 (some .int), Cond.methodLink RX0 9 yX0_side, Cond.static yX0_side, Cond.code yX0_side cX0_side 2 (some .int), Cond.methodLink RX0 23 yX0_of, Cond.static yX0_of, Cond.code yX0_of cX0_of 4 (some .int)]
def wsL_tree_r5 : List Cond := [Cond.methodLink RX4 97 yX0_side, Cond.methodLink RL 41 yX4_leafOf, Cond.instanceMethod yX4_leafOf, Cond.selects RX4 yX4_leafOf yX4_leafOf, Cond.code yX4_leafOf cX4_leafOf 2 (some .int), Cond.methodLink RX4 59 yX4_checkBox, Cond.instanceMethod yX4_checkBox, Cond.selects RX4 yX4_checkBox yX4_checkBox, Cond.code yX4_checkBox cX4_checkBox 2 none, Cond.methodLink RX4 169 yX2_has, Cond.instanceMethod yX2_has, Cond.selects RX2 yX2_has yX2_has, Cond.code yX2_has cX2_has 2 (some .boolean), Cond.fieldLink RX2 18 "HilbertHutch$Stock" "there" "[Z", Cond.methodLink RX4 52 yX2_placeOf, Cond.instanceMethod yX2_placeOf, Cond.selects RX2 yX2_placeOf yX2_placeOf, Cond.code yX2_placeOf cX2_placeOf 3 (some .int), Cond.methodLink RX4 121 yX3_holder, Cond.instanceMethod yX3_holder, Cond.selects RX3 yX3_holder yX3_holder, Cond.code yX3_holder cX3_holder 5 (some .int), Cond.methodLink RL 44 yX4_boxAt, Cond.instanceMethod yX4_boxAt]
def wsL_tree_r6 : List Cond := [Cond.selects RX4 yX4_boxAt yX4_boxAt, Cond.code yX4_boxAt cX4_boxAt 2 (some .int), Cond.methodLink RX4 68 yX2_size, Cond.instanceMethod yX2_size, Cond.selects RX2 yX2_size yX2_size, Cond.code yX2_size cX2_size 1 (some .int), Cond.methodLink RX4 126 yX2_numberAt, Cond.methodLink RL 47 yX4_keyOf, Cond.instanceMethod yX4_keyOf, Cond.selects RX4 yX4_keyOf yX4_keyOf, Cond.code yX4_keyOf cX4_keyOf 2 (some .int), Cond.methodLink RX4 88 yX2_keyFor, Cond.instanceMethod yX2_keyFor, Cond.selects RX2 yX2_keyFor yX2_keyFor, Cond.code yX2_keyFor cX2_keyFor 2 (some .int), Cond.fieldLink RX2 15 "HilbertHutch$Stock" "keys" "[I"]
def wsL_tree : List Cond := .codeWith yL_tree cL_tree 6 (some .int) [(0, 73, 74, 14), (0, 73, 79, 22)] :: ((wsL_tree_r1 ++ (wsL_tree_r2 ++ (wsL_tree_r3 ++ (wsL_tree_r4 ++ (wsL_tree_r5 ++ wsL_tree_r6))))) ++ wsX40 ++ wsX30 ++ wsX20 ++ (vx_atS RX4 111 "java/lang/IndexOutOfBoundsException" ["java/lang/RuntimeException", "java/lang/Exception"]).filter goodWord ++ (vx_atS RX4 164 "java/lang/IllegalArgumentException" ["java/lang/RuntimeException", "java/lang/Exception"]).filter goodWord)
def wsL_meets_r1 : List Cond := [Cond.classLink RL 14 "java/lang/IllegalArgumentException", Cond.classLink RL 22 "java/lang/IndexOutOfBoundsException", Cond.methodLink RL 50 yX4_count, Cond.instanceMethod yX4_count, Cond.selects RX4 yX4_count yX4_count, Cond.initialized RX4, Cond.code yX4_count cX4_count 8 (some .int), Cond.fieldLink RX4 16 "HilbertHutch" "stock" "LHilbertHutch$Stock;", Cond.methodLink RX4 27 yX4_checkSides, Cond.static yX4_checkSides, Cond.code yX4_checkSides cX4_checkSides 4 none, Cond.classLink RX4 160 "java/lang/IllegalArgumentException", Cond.initialized "java/lang/IllegalArgumentException", Cond.methodLink RX4 157 yX4_isCoordinate, Cond.static yX4_isCoordinate, Cond.code yX4_isCoordinate cX4_isCoordinate 1 (some .boolean), Cond.methodLink RX4 42 yX0_of, Cond.static yX0_of, Cond.initialized RX0, Cond.code yX0_of cX0_of 4 (some .int), Cond.methodLink RX4 68 yX2_size, Cond.instanceMethod yX2_size, Cond.selects RX2 yX2_size yX2_size, Cond.initialized RX2]
def wsL_meets_r2 : List Cond := [Cond.code yX2_size cX2_size 1 (some .int), Cond.fieldLink RX2 25 "HilbertHutch$Stock" "size" "I", Cond.methodLink RX4 134 yX2_areaAt, Cond.instanceMethod yX2_areaAt, Cond.selects RX2 yX2_areaAt yX2_areaAt, Cond.code yX2_areaAt cX2_areaAt 2 (some .int), Cond.methodLink RX2 32 yX2_numberAt, Cond.instanceMethod yX2_numberAt, Cond.selects RX2 yX2_numberAt yX2_numberAt, Cond.code yX2_numberAt cX2_numberAt 2 (some .int), Cond.fieldLink RX2 22 "HilbertHutch$Stock" "order" "[I", Cond.methodLink RX2 36 yX2_areaOf, Cond.instanceMethod yX2_areaOf, Cond.selects RX2 yX2_areaOf yX2_areaOf, Cond.code yX2_areaOf cX2_areaOf 2 (some .int), Cond.fieldLink RX2 9 "HilbertHutch$Stock" "areas" "[I", Cond.methodLink RX4 137 yX0_meet, Cond.static yX0_meet, Cond.code yX0_meet cX0_meet 2 (some .boolean), Cond.methodLink RX0 9 yX0_side, Cond.static yX0_side, Cond.code yX0_side cX0_side 2 (some .int), Cond.methodLink RL 53 yX4_found, Cond.instanceMethod yX4_found]
def wsL_meets_r3 : List Cond := [Cond.selects RX4 yX4_found yX4_found, Cond.code yX4_found cX4_found 9 (some .int), Cond.classLink RX4 107 "java/lang/IndexOutOfBoundsException", Cond.initialized "java/lang/IndexOutOfBoundsException", Cond.methodLink RX4 126 yX2_numberAt, Cond.methodLink RL 57 yX4_visits, Cond.instanceMethod yX4_visits, Cond.selects RX4 yX4_visits yX4_visits, Cond.code yX4_visits cX4_visits 9 (some .int), Cond.fieldLink RX4 23 "HilbertHutch" "tree" "LHilbertHutch$Tree;", Cond.methodLink RX4 100 yX3_height, Cond.instanceMethod yX3_height, Cond.selects RX3 yX3_height yX3_height, Cond.initialized RX3, Cond.code yX3_height cX3_height 1 (some .int), Cond.fieldLink RX3 18 "HilbertHutch$Tree" "height" "I", Cond.methodLink RX4 75 yX3_width, Cond.instanceMethod yX3_width, Cond.selects RX3 yX3_width yX3_width, Cond.code yX3_width cX3_width 2 (some .int), Cond.fieldLink RX3 15 "HilbertHutch$Tree" "widths" "[I", Cond.methodLink RX4 118 yX4_coverOf, Cond.instanceMethod yX4_coverOf, Cond.selects RX4 yX4_coverOf yX4_coverOf]
def wsL_meets_r4 : List Cond := [Cond.code yX4_coverOf cX4_coverOf 7 (some .int), Cond.methodLink RX4 179 yX3_boxesBefore, Cond.instanceMethod yX3_boxesBefore, Cond.selects RX3 yX3_boxesBefore yX3_boxesBefore, Cond.code yX3_boxesBefore cX3_boxesBefore 5 (some .int), Cond.methodLink RX3 34 yX3_entriesBefore, Cond.instanceMethod yX3_entriesBefore, Cond.selects RX3 yX3_entriesBefore yX3_entriesBefore, Cond.code yX3_entriesBefore cX3_entriesBefore 5 (some .int), Cond.methodLink RX3 26 yX3_width, Cond.methodLink RX3 30 yX3_load, Cond.instanceMethod yX3_load, Cond.selects RX3 yX3_load yX3_load, Cond.code yX3_load cX3_load 4 (some .int), Cond.fieldLink RX3 11 "HilbertHutch$Tree" "loads" "[I", Cond.methodLink RX3 22 yX3_hasNode, Cond.instanceMethod yX3_hasNode, Cond.selects RX3 yX3_hasNode yX3_hasNode, Cond.code yX3_hasNode cX3_hasNode 3 (some .boolean), Cond.methodLink RX4 182 yX0_around, Cond.static yX0_around, Cond.code yX0_around cX0_around 2 (some .int), Cond.methodLink RX0 15 Lib.Math.min.name, Cond.static Lib.Math.min.name]
def wsL_meets_r5 : List Cond := [Cond.initialized "java/lang/Math", Cond.code Lib.Math.min.name Lib.Math.min.code 2 (some .int), Cond.methodLink RX0 20 Lib.Math.max.name, Cond.static Lib.Math.max.name, Cond.code Lib.Math.max.name Lib.Math.max.code 2 (some .int), Cond.methodLink RX0 23 yX0_of]
def wsL_meets : List Cond := .codeWith yL_meets cL_meets 8 (some .int) [(0, 47, 48, 14), (0, 47, 53, 22)] :: ((wsL_meets_r1 ++ (wsL_meets_r2 ++ (wsL_meets_r3 ++ (wsL_meets_r4 ++ wsL_meets_r5)))) ++ wsX40 ++ wsX20 ++ wsX30 ++ (vx_atS RX4 164 "java/lang/IllegalArgumentException" ["java/lang/RuntimeException", "java/lang/Exception"]).filter goodWord ++ (vx_atS RX4 111 "java/lang/IndexOutOfBoundsException" ["java/lang/RuntimeException", "java/lang/Exception"]).filter goodWord)
def wsL_near_r1 : List Cond := [Cond.classLink RL 14 "java/lang/IllegalArgumentException", Cond.classLink RL 22 "java/lang/IndexOutOfBoundsException", Cond.methodLink RL 60 yX4_distance, Cond.instanceMethod yX4_distance, Cond.selects RX4 yX4_distance yX4_distance, Cond.initialized RX4, Cond.code yX4_distance cX4_distance 4 (some .int), Cond.fieldLink RX4 16 "HilbertHutch" "stock" "LHilbertHutch$Stock;", Cond.methodLink RX4 78 yX4_checkPoint, Cond.static yX4_checkPoint, Cond.code yX4_checkPoint cX4_checkPoint 2 none, Cond.classLink RX4 160 "java/lang/IllegalArgumentException", Cond.initialized "java/lang/IllegalArgumentException", Cond.methodLink RX4 157 yX4_isCoordinate, Cond.static yX4_isCoordinate, Cond.code yX4_isCoordinate cX4_isCoordinate 1 (some .boolean), Cond.methodLink RX4 59 yX4_checkBox, Cond.instanceMethod yX4_checkBox, Cond.selects RX4 yX4_checkBox yX4_checkBox, Cond.code yX4_checkBox cX4_checkBox 2 none, Cond.classLink RX4 107 "java/lang/IndexOutOfBoundsException", Cond.initialized "java/lang/IndexOutOfBoundsException", Cond.methodLink RX4 169 yX2_has, Cond.instanceMethod yX2_has]
def wsL_near_r2 : List Cond := [Cond.selects RX2 yX2_has yX2_has, Cond.initialized RX2, Cond.code yX2_has cX2_has 2 (some .boolean), Cond.fieldLink RX2 18 "HilbertHutch$Stock" "there" "[Z", Cond.methodLink RX4 94 yX2_areaOf, Cond.instanceMethod yX2_areaOf, Cond.selects RX2 yX2_areaOf yX2_areaOf, Cond.code yX2_areaOf cX2_areaOf 2 (some .int), Cond.fieldLink RX2 9 "HilbertHutch$Stock" "areas" "[I", Cond.methodLink RX4 147 yX0_distanceFrom, Cond.static yX0_distanceFrom, Cond.initialized RX0, Cond.code yX0_distanceFrom cX0_distanceFrom 5 (some .int), Cond.methodLink RX0 9 yX0_side, Cond.static yX0_side, Cond.code yX0_side cX0_side 2 (some .int), Cond.methodLink RX0 27 yX0_gap, Cond.static yX0_gap, Cond.code yX0_gap cX0_gap 3 (some .int), Cond.methodLink RX0 20 Lib.Math.max.name, Cond.static Lib.Math.max.name, Cond.initialized "java/lang/Math", Cond.code Lib.Math.max.name Lib.Math.max.code 2 (some .int), Cond.methodLink RL 63 yX4_nearest]
def wsL_near_r3 : List Cond := [Cond.instanceMethod yX4_nearest, Cond.selects RX4 yX4_nearest yX4_nearest, Cond.code yX4_nearest cX4_nearest 5 (some .int), Cond.methodLink RX4 141 yX4_rankByDistance, Cond.instanceMethod yX4_rankByDistance, Cond.selects RX4 yX4_rankByDistance yX4_rankByDistance, Cond.code yX4_rankByDistance cX4_rankByDistance 5 none, Cond.fieldLink RX4 9 "HilbertHutch" "ranks" "[I", Cond.methodLink RX4 68 yX2_size, Cond.instanceMethod yX2_size, Cond.selects RX2 yX2_size yX2_size, Cond.code yX2_size cX2_size 1 (some .int), Cond.fieldLink RX2 25 "HilbertHutch$Stock" "size" "I", Cond.methodLink RX4 134 yX2_areaAt, Cond.instanceMethod yX2_areaAt, Cond.selects RX2 yX2_areaAt yX2_areaAt, Cond.code yX2_areaAt cX2_areaAt 2 (some .int), Cond.methodLink RX2 32 yX2_numberAt, Cond.instanceMethod yX2_numberAt, Cond.selects RX2 yX2_numberAt yX2_numberAt, Cond.code yX2_numberAt cX2_numberAt 2 (some .int), Cond.fieldLink RX2 22 "HilbertHutch$Stock" "order" "[I", Cond.methodLink RX2 36 yX2_areaOf, Cond.methodLink RX4 126 yX2_numberAt]
def wsL_near_r4 : List Cond := [Cond.methodLink RX4 144 yX4_ranksBefore, Cond.instanceMethod yX4_ranksBefore, Cond.selects RX4 yX4_ranksBefore yX4_ranksBefore, Cond.code yX4_ranksBefore cX4_ranksBefore 5 (some .int)]
def wsL_near : List Cond := .codeWith yL_near cL_near 6 (some .int) [(0, 23, 24, 14), (0, 23, 29, 22)] :: ((wsL_near_r1 ++ (wsL_near_r2 ++ (wsL_near_r3 ++ wsL_near_r4))) ++ wsX40 ++ wsX20 ++ (vx_atS RX4 164 "java/lang/IllegalArgumentException" ["java/lang/RuntimeException", "java/lang/Exception"]).filter goodWord ++ (vx_atS RX4 111 "java/lang/IndexOutOfBoundsException" ["java/lang/RuntimeException", "java/lang/Exception"]).filter goodWord)
def wsL_pair_r1 : List Cond := [Cond.classLink RL 22 "java/lang/IndexOutOfBoundsException", Cond.methodLink RL 66 yX4_pair, Cond.instanceMethod yX4_pair, Cond.selects RX4 yX4_pair yX4_pair, Cond.initialized RX4, Cond.code yX4_pair cX4_pair 5 (some .int), Cond.classLink RX4 107 "java/lang/IndexOutOfBoundsException", Cond.initialized "java/lang/IndexOutOfBoundsException", Cond.fieldLink RX4 16 "HilbertHutch" "stock" "LHilbertHutch$Stock;", Cond.methodLink RX4 151 yX2_added, Cond.instanceMethod yX2_added, Cond.selects RX2 yX2_added yX2_added, Cond.initialized RX2, Cond.code yX2_added cX2_added 1 (some .int), Cond.fieldLink RX2 29 "HilbertHutch$Stock" "added" "I", Cond.methodLink RX4 154 yX2_haveMet, Cond.instanceMethod yX2_haveMet, Cond.selects RX2 yX2_haveMet yX2_haveMet, Cond.code yX2_haveMet cX2_haveMet 3 (some .boolean), Cond.methodLink RX2 39 yX2_has, Cond.instanceMethod yX2_has, Cond.selects RX2 yX2_has yX2_has, Cond.code yX2_has cX2_has 2 (some .boolean), Cond.fieldLink RX2 18 "HilbertHutch$Stock" "there" "[Z"]
def wsL_pair_r2 : List Cond := [Cond.methodLink RX2 36 yX2_areaOf, Cond.instanceMethod yX2_areaOf, Cond.selects RX2 yX2_areaOf yX2_areaOf, Cond.code yX2_areaOf cX2_areaOf 2 (some .int), Cond.fieldLink RX2 9 "HilbertHutch$Stock" "areas" "[I", Cond.methodLink RX2 43 yX0_meet, Cond.static yX0_meet, Cond.initialized RX0, Cond.code yX0_meet cX0_meet 2 (some .boolean), Cond.methodLink RX0 9 yX0_side, Cond.static yX0_side, Cond.code yX0_side cX0_side 2 (some .int)]
def wsL_pair : List Cond := .codeWith yL_pair cL_pair 3 (some .int) [(0, 5, 6, 22)] :: ((wsL_pair_r1 ++ wsL_pair_r2) ++ wsX40 ++ wsX20 ++ (vx_atS RX4 111 "java/lang/IndexOutOfBoundsException" ["java/lang/RuntimeException", "java/lang/Exception"]).filter goodWord)
def wsL_tightness_r1 : List Cond := [Cond.classLink RL 16 "java/lang/IllegalStateException", Cond.constantFloat RL 73 (3212836864), Cond.methodLink RL 69 yX4_tightness, Cond.instanceMethod yX4_tightness, Cond.selects RX4 yX4_tightness yX4_tightness, Cond.initialized RX4, Cond.code yX4_tightness cX4_tightness 4 (some .float), Cond.classLink RX4 35 "java/lang/IllegalStateException", Cond.initialized "java/lang/IllegalStateException", Cond.fieldLink RX4 23 "HilbertHutch" "tree" "LHilbertHutch$Tree;", Cond.fieldLink RX4 16 "HilbertHutch" "stock" "LHilbertHutch$Stock;", Cond.methodLink RX4 75 yX3_width, Cond.instanceMethod yX3_width, Cond.selects RX3 yX3_width yX3_width, Cond.initialized RX3, Cond.code yX3_width cX3_width 2 (some .int), Cond.fieldLink RX3 18 "HilbertHutch$Tree" "height" "I", Cond.fieldLink RX3 15 "HilbertHutch$Tree" "widths" "[I", Cond.methodLink RX4 118 yX4_coverOf, Cond.instanceMethod yX4_coverOf, Cond.selects RX4 yX4_coverOf yX4_coverOf, Cond.code yX4_coverOf cX4_coverOf 7 (some .int), Cond.methodLink RX4 179 yX3_boxesBefore, Cond.instanceMethod yX3_boxesBefore]
def wsL_tightness_r2 : List Cond := [Cond.selects RX3 yX3_boxesBefore yX3_boxesBefore, Cond.code yX3_boxesBefore cX3_boxesBefore 5 (some .int), Cond.methodLink RX3 34 yX3_entriesBefore, Cond.instanceMethod yX3_entriesBefore, Cond.selects RX3 yX3_entriesBefore yX3_entriesBefore, Cond.code yX3_entriesBefore cX3_entriesBefore 5 (some .int), Cond.methodLink RX3 26 yX3_width, Cond.methodLink RX3 30 yX3_load, Cond.instanceMethod yX3_load, Cond.selects RX3 yX3_load yX3_load, Cond.code yX3_load cX3_load 4 (some .int), Cond.fieldLink RX3 11 "HilbertHutch$Tree" "loads" "[I", Cond.methodLink RX3 22 yX3_hasNode, Cond.instanceMethod yX3_hasNode, Cond.selects RX3 yX3_hasNode yX3_hasNode, Cond.code yX3_hasNode cX3_hasNode 3 (some .boolean), Cond.methodLink RX4 134 yX2_areaAt, Cond.instanceMethod yX2_areaAt, Cond.selects RX2 yX2_areaAt yX2_areaAt, Cond.initialized RX2, Cond.code yX2_areaAt cX2_areaAt 2 (some .int), Cond.methodLink RX2 32 yX2_numberAt, Cond.instanceMethod yX2_numberAt, Cond.selects RX2 yX2_numberAt yX2_numberAt]
def wsL_tightness_r3 : List Cond := [Cond.code yX2_numberAt cX2_numberAt 2 (some .int), Cond.fieldLink RX2 22 "HilbertHutch$Stock" "order" "[I", Cond.fieldLink RX2 25 "HilbertHutch$Stock" "size" "I", Cond.methodLink RX2 36 yX2_areaOf, Cond.instanceMethod yX2_areaOf, Cond.selects RX2 yX2_areaOf yX2_areaOf, Cond.code yX2_areaOf cX2_areaOf 2 (some .int), Cond.fieldLink RX2 9 "HilbertHutch$Stock" "areas" "[I", Cond.methodLink RX4 182 yX0_around, Cond.static yX0_around, Cond.initialized RX0, Cond.code yX0_around cX0_around 2 (some .int), Cond.methodLink RX0 15 Lib.Math.min.name, Cond.static Lib.Math.min.name, Cond.initialized "java/lang/Math", Cond.code Lib.Math.min.name Lib.Math.min.code 2 (some .int), Cond.methodLink RX0 20 Lib.Math.max.name, Cond.static Lib.Math.max.name, Cond.code Lib.Math.max.name Lib.Math.max.code 2 (some .int), Cond.methodLink RX0 9 yX0_side, Cond.static yX0_side, Cond.code yX0_side cX0_side 2 (some .int), Cond.methodLink RX0 23 yX0_of, Cond.static yX0_of]
def wsL_tightness_r4 : List Cond := [Cond.code yX0_of cX0_of 4 (some .int), Cond.methodLink RX4 129 yX0_points, Cond.static yX0_points, Cond.code yX0_points cX0_points 1 (some .int), Cond.methodLink RX4 68 yX2_size, Cond.instanceMethod yX2_size, Cond.selects RX2 yX2_size yX2_size, Cond.code yX2_size cX2_size 1 (some .int)]
def wsL_tightness : List Cond := .codeWith yL_tightness cL_tightness 2 (some .float) [(0, 4, 5, 16)] :: ((wsL_tightness_r1 ++ (wsL_tightness_r2 ++ (wsL_tightness_r3 ++ wsL_tightness_r4))) ++ wsX40 ++ wsX30 ++ wsX20 ++ (vx_atS RX4 39 "java/lang/IllegalStateException" ["java/lang/RuntimeException", "java/lang/Exception"]).filter goodWord)
def wsL_isOrder_r1 : List Cond := [Cond.methodLink RL 74 yX4_boxes, Cond.instanceMethod yX4_boxes, Cond.selects RX4 yX4_boxes yX4_boxes, Cond.initialized RX4, Cond.code yX4_boxes cX4_boxes 1 (some .int), Cond.fieldLink RX4 16 "HilbertHutch" "stock" "LHilbertHutch$Stock;", Cond.methodLink RX4 68 yX2_size, Cond.instanceMethod yX2_size, Cond.selects RX2 yX2_size yX2_size, Cond.initialized RX2, Cond.code yX2_size cX2_size 1 (some .int), Cond.fieldLink RX2 25 "HilbertHutch$Stock" "size" "I", Cond.methodLink RL 78 yL_tree, Cond.static yL_tree, Cond.initialized RL, Cond.codeWith yL_tree cL_tree 6 (some .int) [(0, 73, 74, 14), (0, 73, 79, 22)], Cond.classLink RL 14 "java/lang/IllegalArgumentException", Cond.classLink RL 22 "java/lang/IndexOutOfBoundsException", Cond.methodLink RL 31 yX4_nodes, Cond.instanceMethod yX4_nodes, Cond.selects RX4 yX4_nodes yX4_nodes, Cond.code yX4_nodes cX4_nodes 2 (some .int), Cond.classLink RX4 107 "java/lang/IndexOutOfBoundsException", Cond.initialized "java/lang/IndexOutOfBoundsException"]
def wsL_isOrder_r2 : List Cond := [Cond.fieldLink RX4 23 "HilbertHutch" "tree" "LHilbertHutch$Tree;", Cond.methodLink RX4 103 yX3_hasLevel, Cond.instanceMethod yX3_hasLevel, Cond.selects RX3 yX3_hasLevel yX3_hasLevel, Cond.initialized RX3, Cond.code yX3_hasLevel cX3_hasLevel 2 (some .boolean), Cond.fieldLink RX3 18 "HilbertHutch$Tree" "height" "I", Cond.methodLink RX4 75 yX3_width, Cond.instanceMethod yX3_width, Cond.selects RX3 yX3_width yX3_width, Cond.code yX3_width cX3_width 2 (some .int), Cond.fieldLink RX3 15 "HilbertHutch$Tree" "widths" "[I", Cond.methodLink RL 34 yX4_entries, Cond.instanceMethod yX4_entries, Cond.selects RX4 yX4_entries yX4_entries, Cond.code yX4_entries cX4_entries 3 (some .int), Cond.methodLink RX4 112 yX4_checkNode, Cond.instanceMethod yX4_checkNode, Cond.selects RX4 yX4_checkNode yX4_checkNode, Cond.code yX4_checkNode cX4_checkNode 3 none, Cond.methodLink RX4 174 yX3_hasNode, Cond.instanceMethod yX3_hasNode, Cond.selects RX3 yX3_hasNode yX3_hasNode, Cond.code yX3_hasNode cX3_hasNode 3 (some .boolean)]
def wsL_isOrder_r3 : List Cond := [Cond.methodLink RX4 115 yX3_load, Cond.instanceMethod yX3_load, Cond.selects RX3 yX3_load yX3_load, Cond.code yX3_load cX3_load 4 (some .int), Cond.fieldLink RX3 11 "HilbertHutch$Tree" "loads" "[I", Cond.methodLink RX3 22 yX3_hasNode, Cond.methodLink RL 37 yX4_cover, Cond.instanceMethod yX4_cover, Cond.selects RX4 yX4_cover yX4_cover, Cond.code yX4_cover cX4_cover 4 (some .int), Cond.methodLink RX4 91 yX4_checkSide, Cond.static yX4_checkSide, Cond.code yX4_checkSide cX4_checkSide 1 none, Cond.classLink RX4 160 "java/lang/IllegalArgumentException", Cond.initialized "java/lang/IllegalArgumentException", Cond.methodLink RX4 118 yX4_coverOf, Cond.instanceMethod yX4_coverOf, Cond.selects RX4 yX4_coverOf yX4_coverOf, Cond.code yX4_coverOf cX4_coverOf 7 (some .int), Cond.methodLink RX4 179 yX3_boxesBefore, Cond.instanceMethod yX3_boxesBefore, Cond.selects RX3 yX3_boxesBefore yX3_boxesBefore, Cond.code yX3_boxesBefore cX3_boxesBefore 5 (some .int), Cond.methodLink RX3 34 yX3_entriesBefore]
def wsL_isOrder_r4 : List Cond := [Cond.instanceMethod yX3_entriesBefore, Cond.selects RX3 yX3_entriesBefore yX3_entriesBefore, Cond.code yX3_entriesBefore cX3_entriesBefore 5 (some .int), Cond.methodLink RX3 26 yX3_width, Cond.methodLink RX3 30 yX3_load, Cond.methodLink RX4 134 yX2_areaAt, Cond.instanceMethod yX2_areaAt, Cond.selects RX2 yX2_areaAt yX2_areaAt, Cond.code yX2_areaAt cX2_areaAt 2 (some .int), Cond.methodLink RX2 32 yX2_numberAt, Cond.instanceMethod yX2_numberAt, Cond.selects RX2 yX2_numberAt yX2_numberAt, Cond.code yX2_numberAt cX2_numberAt 2 (some .int), Cond.fieldLink RX2 22 "HilbertHutch$Stock" "order" "[I", Cond.methodLink RX2 36 yX2_areaOf, Cond.instanceMethod yX2_areaOf, Cond.selects RX2 yX2_areaOf yX2_areaOf, Cond.code yX2_areaOf cX2_areaOf 2 (some .int), Cond.fieldLink RX2 9 "HilbertHutch$Stock" "areas" "[I", Cond.methodLink RX4 182 yX0_around, Cond.static yX0_around, Cond.initialized RX0, Cond.code yX0_around cX0_around 2 (some .int), Cond.methodLink RX0 15 Lib.Math.min.name]
def wsL_isOrder_r5 : List Cond := [Cond.static Lib.Math.min.name, Cond.initialized "java/lang/Math", Cond.code Lib.Math.min.name Lib.Math.min.code 2 (some .int), Cond.methodLink RX0 20 Lib.Math.max.name, Cond.static Lib.Math.max.name, Cond.code Lib.Math.max.name Lib.Math.max.code 2 (some .int), Cond.methodLink RX0 9 yX0_side, Cond.static yX0_side, Cond.code yX0_side cX0_side 2 (some .int), Cond.methodLink RX0 23 yX0_of, Cond.static yX0_of, Cond.code yX0_of cX0_of 4 (some .int), Cond.methodLink RX4 97 yX0_side, Cond.methodLink RL 41 yX4_leafOf, Cond.instanceMethod yX4_leafOf, Cond.selects RX4 yX4_leafOf yX4_leafOf, Cond.code yX4_leafOf cX4_leafOf 2 (some .int), Cond.methodLink RX4 59 yX4_checkBox, Cond.instanceMethod yX4_checkBox, Cond.selects RX4 yX4_checkBox yX4_checkBox, Cond.code yX4_checkBox cX4_checkBox 2 none, Cond.methodLink RX4 169 yX2_has, Cond.instanceMethod yX2_has, Cond.selects RX2 yX2_has yX2_has]
def wsL_isOrder_r6 : List Cond := [Cond.code yX2_has cX2_has 2 (some .boolean), Cond.fieldLink RX2 18 "HilbertHutch$Stock" "there" "[Z", Cond.methodLink RX4 52 yX2_placeOf, Cond.instanceMethod yX2_placeOf, Cond.selects RX2 yX2_placeOf yX2_placeOf, Cond.code yX2_placeOf cX2_placeOf 3 (some .int), Cond.methodLink RX4 121 yX3_holder, Cond.instanceMethod yX3_holder, Cond.selects RX3 yX3_holder yX3_holder, Cond.code yX3_holder cX3_holder 5 (some .int), Cond.methodLink RL 44 yX4_boxAt, Cond.instanceMethod yX4_boxAt, Cond.selects RX4 yX4_boxAt yX4_boxAt, Cond.code yX4_boxAt cX4_boxAt 2 (some .int), Cond.methodLink RX4 126 yX2_numberAt, Cond.methodLink RL 47 yX4_keyOf, Cond.instanceMethod yX4_keyOf, Cond.selects RX4 yX4_keyOf yX4_keyOf, Cond.code yX4_keyOf cX4_keyOf 2 (some .int), Cond.methodLink RX4 88 yX2_keyFor, Cond.instanceMethod yX2_keyFor, Cond.selects RX2 yX2_keyFor yX2_keyFor, Cond.code yX2_keyFor cX2_keyFor 2 (some .int), Cond.fieldLink RX2 15 "HilbertHutch$Stock" "keys" "[I"]
def wsL_isOrder_r7 : List Cond := [Cond.methodLink RL 28 yX4_sideOf, Cond.instanceMethod yX4_sideOf, Cond.selects RX4 yX4_sideOf yX4_sideOf, Cond.code yX4_sideOf cX4_sideOf 3 (some .int), Cond.methodLink RX4 94 yX2_areaOf, Cond.methodLink RL 24 yX4_key, Cond.instanceMethod yX4_key, Cond.selects RX4 yX4_key yX4_key, Cond.code yX4_key cX4_key 3 (some .int), Cond.methodLink RX4 78 yX4_checkPoint, Cond.static yX4_checkPoint, Cond.code yX4_checkPoint cX4_checkPoint 2 none, Cond.methodLink RX4 157 yX4_isCoordinate, Cond.static yX4_isCoordinate, Cond.code yX4_isCoordinate cX4_isCoordinate 1 (some .boolean), Cond.methodLink RX4 82 yX1_lengthTo, Cond.static yX1_lengthTo, Cond.initialized RX1, Cond.code yX1_lengthTo cX1_lengthTo 9 (some .int), Cond.methodLink RX1 9 yX1_quarter, Cond.static yX1_quarter, Cond.code yX1_quarter cX1_quarter 2 (some .int)]
def wsL_isOrder : List Cond := .code yL_isOrder cL_isOrder 7 (some .boolean) :: ((wsL_isOrder_r1 ++ (wsL_isOrder_r2 ++ (wsL_isOrder_r3 ++ (wsL_isOrder_r4 ++ (wsL_isOrder_r5 ++ (wsL_isOrder_r6 ++ wsL_isOrder_r7)))))) ++ wsX40 ++ wsX20 ++ wsX30 ++ (vx_atS RX4 111 "java/lang/IndexOutOfBoundsException" ["java/lang/RuntimeException", "java/lang/Exception"]).filter goodWord ++ (vx_atS RX4 164 "java/lang/IllegalArgumentException" ["java/lang/RuntimeException", "java/lang/Exception"]).filter goodWord)
def wsL_isTree_r1 : List Cond := [Cond.constantFloat RL 73 (3212836864), Cond.methodLink RL 84 yX4_levels, Cond.instanceMethod yX4_levels, Cond.selects RX4 yX4_levels yX4_levels, Cond.initialized RX4, Cond.code yX4_levels cX4_levels 1 (some .int), Cond.fieldLink RX4 23 "HilbertHutch" "tree" "LHilbertHutch$Tree;", Cond.methodLink RX4 100 yX3_height, Cond.instanceMethod yX3_height, Cond.selects RX3 yX3_height yX3_height, Cond.initialized RX3, Cond.code yX3_height cX3_height 1 (some .int), Cond.fieldLink RX3 18 "HilbertHutch$Tree" "height" "I", Cond.methodLink RL 78 yL_tree, Cond.static yL_tree, Cond.initialized RL, Cond.codeWith yL_tree cL_tree 6 (some .int) [(0, 73, 74, 14), (0, 73, 79, 22)], Cond.classLink RL 14 "java/lang/IllegalArgumentException", Cond.classLink RL 22 "java/lang/IndexOutOfBoundsException", Cond.methodLink RL 31 yX4_nodes, Cond.instanceMethod yX4_nodes, Cond.selects RX4 yX4_nodes yX4_nodes, Cond.code yX4_nodes cX4_nodes 2 (some .int), Cond.classLink RX4 107 "java/lang/IndexOutOfBoundsException"]
def wsL_isTree_r2 : List Cond := [Cond.initialized "java/lang/IndexOutOfBoundsException", Cond.methodLink RX4 103 yX3_hasLevel, Cond.instanceMethod yX3_hasLevel, Cond.selects RX3 yX3_hasLevel yX3_hasLevel, Cond.code yX3_hasLevel cX3_hasLevel 2 (some .boolean), Cond.methodLink RX4 75 yX3_width, Cond.instanceMethod yX3_width, Cond.selects RX3 yX3_width yX3_width, Cond.code yX3_width cX3_width 2 (some .int), Cond.fieldLink RX3 15 "HilbertHutch$Tree" "widths" "[I", Cond.methodLink RL 34 yX4_entries, Cond.instanceMethod yX4_entries, Cond.selects RX4 yX4_entries yX4_entries, Cond.code yX4_entries cX4_entries 3 (some .int), Cond.methodLink RX4 112 yX4_checkNode, Cond.instanceMethod yX4_checkNode, Cond.selects RX4 yX4_checkNode yX4_checkNode, Cond.code yX4_checkNode cX4_checkNode 3 none, Cond.methodLink RX4 174 yX3_hasNode, Cond.instanceMethod yX3_hasNode, Cond.selects RX3 yX3_hasNode yX3_hasNode, Cond.code yX3_hasNode cX3_hasNode 3 (some .boolean), Cond.methodLink RX4 115 yX3_load, Cond.instanceMethod yX3_load]
def wsL_isTree_r3 : List Cond := [Cond.selects RX3 yX3_load yX3_load, Cond.code yX3_load cX3_load 4 (some .int), Cond.fieldLink RX3 11 "HilbertHutch$Tree" "loads" "[I", Cond.methodLink RX3 22 yX3_hasNode, Cond.methodLink RL 37 yX4_cover, Cond.instanceMethod yX4_cover, Cond.selects RX4 yX4_cover yX4_cover, Cond.code yX4_cover cX4_cover 4 (some .int), Cond.methodLink RX4 91 yX4_checkSide, Cond.static yX4_checkSide, Cond.code yX4_checkSide cX4_checkSide 1 none, Cond.classLink RX4 160 "java/lang/IllegalArgumentException", Cond.initialized "java/lang/IllegalArgumentException", Cond.methodLink RX4 118 yX4_coverOf, Cond.instanceMethod yX4_coverOf, Cond.selects RX4 yX4_coverOf yX4_coverOf, Cond.code yX4_coverOf cX4_coverOf 7 (some .int), Cond.fieldLink RX4 16 "HilbertHutch" "stock" "LHilbertHutch$Stock;", Cond.methodLink RX4 179 yX3_boxesBefore, Cond.instanceMethod yX3_boxesBefore, Cond.selects RX3 yX3_boxesBefore yX3_boxesBefore, Cond.code yX3_boxesBefore cX3_boxesBefore 5 (some .int), Cond.methodLink RX3 34 yX3_entriesBefore, Cond.instanceMethod yX3_entriesBefore]
def wsL_isTree_r4 : List Cond := [Cond.selects RX3 yX3_entriesBefore yX3_entriesBefore, Cond.code yX3_entriesBefore cX3_entriesBefore 5 (some .int), Cond.methodLink RX3 26 yX3_width, Cond.methodLink RX3 30 yX3_load, Cond.methodLink RX4 134 yX2_areaAt, Cond.instanceMethod yX2_areaAt, Cond.selects RX2 yX2_areaAt yX2_areaAt, Cond.initialized RX2, Cond.code yX2_areaAt cX2_areaAt 2 (some .int), Cond.methodLink RX2 32 yX2_numberAt, Cond.instanceMethod yX2_numberAt, Cond.selects RX2 yX2_numberAt yX2_numberAt, Cond.code yX2_numberAt cX2_numberAt 2 (some .int), Cond.fieldLink RX2 22 "HilbertHutch$Stock" "order" "[I", Cond.fieldLink RX2 25 "HilbertHutch$Stock" "size" "I", Cond.methodLink RX2 36 yX2_areaOf, Cond.instanceMethod yX2_areaOf, Cond.selects RX2 yX2_areaOf yX2_areaOf, Cond.code yX2_areaOf cX2_areaOf 2 (some .int), Cond.fieldLink RX2 9 "HilbertHutch$Stock" "areas" "[I", Cond.methodLink RX4 182 yX0_around, Cond.static yX0_around, Cond.initialized RX0, Cond.code yX0_around cX0_around 2 (some .int)]
def wsL_isTree_r5 : List Cond := [Cond.methodLink RX0 15 Lib.Math.min.name, Cond.static Lib.Math.min.name, Cond.initialized "java/lang/Math", Cond.code Lib.Math.min.name Lib.Math.min.code 2 (some .int), Cond.methodLink RX0 20 Lib.Math.max.name, Cond.static Lib.Math.max.name, Cond.code Lib.Math.max.name Lib.Math.max.code 2 (some .int), Cond.methodLink RX0 9 yX0_side, Cond.static yX0_side, Cond.code yX0_side cX0_side 2 (some .int), Cond.methodLink RX0 23 yX0_of, Cond.static yX0_of, Cond.code yX0_of cX0_of 4 (some .int), Cond.methodLink RX4 97 yX0_side, Cond.methodLink RL 41 yX4_leafOf, Cond.instanceMethod yX4_leafOf, Cond.selects RX4 yX4_leafOf yX4_leafOf, Cond.code yX4_leafOf cX4_leafOf 2 (some .int), Cond.methodLink RX4 59 yX4_checkBox, Cond.instanceMethod yX4_checkBox, Cond.selects RX4 yX4_checkBox yX4_checkBox, Cond.code yX4_checkBox cX4_checkBox 2 none, Cond.methodLink RX4 169 yX2_has, Cond.instanceMethod yX2_has]
def wsL_isTree_r6 : List Cond := [Cond.selects RX2 yX2_has yX2_has, Cond.code yX2_has cX2_has 2 (some .boolean), Cond.fieldLink RX2 18 "HilbertHutch$Stock" "there" "[Z", Cond.methodLink RX4 52 yX2_placeOf, Cond.instanceMethod yX2_placeOf, Cond.selects RX2 yX2_placeOf yX2_placeOf, Cond.code yX2_placeOf cX2_placeOf 3 (some .int), Cond.methodLink RX4 121 yX3_holder, Cond.instanceMethod yX3_holder, Cond.selects RX3 yX3_holder yX3_holder, Cond.code yX3_holder cX3_holder 5 (some .int), Cond.methodLink RL 44 yX4_boxAt, Cond.instanceMethod yX4_boxAt, Cond.selects RX4 yX4_boxAt yX4_boxAt, Cond.code yX4_boxAt cX4_boxAt 2 (some .int), Cond.methodLink RX4 68 yX2_size, Cond.instanceMethod yX2_size, Cond.selects RX2 yX2_size yX2_size, Cond.code yX2_size cX2_size 1 (some .int), Cond.methodLink RX4 126 yX2_numberAt, Cond.methodLink RL 47 yX4_keyOf, Cond.instanceMethod yX4_keyOf, Cond.selects RX4 yX4_keyOf yX4_keyOf, Cond.code yX4_keyOf cX4_keyOf 2 (some .int)]
def wsL_isTree_r7 : List Cond := [Cond.methodLink RX4 88 yX2_keyFor, Cond.instanceMethod yX2_keyFor, Cond.selects RX2 yX2_keyFor yX2_keyFor, Cond.code yX2_keyFor cX2_keyFor 2 (some .int), Cond.fieldLink RX2 15 "HilbertHutch$Stock" "keys" "[I", Cond.methodLink RL 28 yX4_sideOf, Cond.instanceMethod yX4_sideOf, Cond.selects RX4 yX4_sideOf yX4_sideOf, Cond.code yX4_sideOf cX4_sideOf 3 (some .int), Cond.methodLink RX4 94 yX2_areaOf, Cond.methodLink RL 87 yL_tightness, Cond.static yL_tightness, Cond.codeWith yL_tightness cL_tightness 2 (some .float) [(0, 4, 5, 16)], Cond.classLink RL 16 "java/lang/IllegalStateException", Cond.methodLink RL 69 yX4_tightness, Cond.instanceMethod yX4_tightness, Cond.selects RX4 yX4_tightness yX4_tightness, Cond.code yX4_tightness cX4_tightness 4 (some .float), Cond.classLink RX4 35 "java/lang/IllegalStateException", Cond.initialized "java/lang/IllegalStateException", Cond.methodLink RX4 129 yX0_points, Cond.static yX0_points, Cond.code yX0_points cX0_points 1 (some .int)]
def wsL_isTree : List Cond := .code yL_isTree cL_isTree 14 (some .boolean) :: ((wsL_isTree_r1 ++ (wsL_isTree_r2 ++ (wsL_isTree_r3 ++ (wsL_isTree_r4 ++ (wsL_isTree_r5 ++ (wsL_isTree_r6 ++ wsL_isTree_r7)))))) ++ wsX40 ++ wsX30 ++ wsX20 ++ (vx_atS RX4 111 "java/lang/IndexOutOfBoundsException" ["java/lang/RuntimeException", "java/lang/Exception"]).filter goodWord ++ (vx_atS RX4 164 "java/lang/IllegalArgumentException" ["java/lang/RuntimeException", "java/lang/Exception"]).filter goodWord ++ (vx_atS RX4 39 "java/lang/IllegalStateException" ["java/lang/RuntimeException", "java/lang/Exception"]).filter goodWord)
def wsL_far_r1 : List Cond := [Cond.methodLink RL 28 yX4_sideOf, Cond.instanceMethod yX4_sideOf, Cond.selects RX4 yX4_sideOf yX4_sideOf, Cond.initialized RX4, Cond.code yX4_sideOf cX4_sideOf 3 (some .int), Cond.fieldLink RX4 16 "HilbertHutch" "stock" "LHilbertHutch$Stock;", Cond.methodLink RX4 91 yX4_checkSide, Cond.static yX4_checkSide, Cond.code yX4_checkSide cX4_checkSide 1 none, Cond.classLink RX4 160 "java/lang/IllegalArgumentException", Cond.initialized "java/lang/IllegalArgumentException", Cond.methodLink RX4 59 yX4_checkBox, Cond.instanceMethod yX4_checkBox, Cond.selects RX4 yX4_checkBox yX4_checkBox, Cond.code yX4_checkBox cX4_checkBox 2 none, Cond.classLink RX4 107 "java/lang/IndexOutOfBoundsException", Cond.initialized "java/lang/IndexOutOfBoundsException", Cond.methodLink RX4 169 yX2_has, Cond.instanceMethod yX2_has, Cond.selects RX2 yX2_has yX2_has, Cond.initialized RX2, Cond.code yX2_has cX2_has 2 (some .boolean), Cond.fieldLink RX2 18 "HilbertHutch$Stock" "there" "[Z", Cond.methodLink RX4 94 yX2_areaOf]
def wsL_far_r2 : List Cond := [Cond.instanceMethod yX2_areaOf, Cond.selects RX2 yX2_areaOf yX2_areaOf, Cond.code yX2_areaOf cX2_areaOf 2 (some .int), Cond.fieldLink RX2 9 "HilbertHutch$Stock" "areas" "[I", Cond.methodLink RX4 97 yX0_side, Cond.static yX0_side, Cond.initialized RX0, Cond.code yX0_side cX0_side 2 (some .int)]
def wsL_far : List Cond := .code yL_far cL_far 6 (some .int) :: ((wsL_far_r1 ++ wsL_far_r2) ++ wsX40 ++ wsX20 ++ (vx_atS RX4 164 "java/lang/IllegalArgumentException" ["java/lang/RuntimeException", "java/lang/Exception"]).filter goodWord ++ (vx_atS RX4 111 "java/lang/IndexOutOfBoundsException" ["java/lang/RuntimeException", "java/lang/Exception"]).filter goodWord)
def wsL_isNear_r1 : List Cond := [Cond.methodLink RL 90 yL_near, Cond.static yL_near, Cond.initialized RL, Cond.codeWith yL_near cL_near 6 (some .int) [(0, 23, 24, 14), (0, 23, 29, 22)], Cond.classLink RL 14 "java/lang/IllegalArgumentException", Cond.classLink RL 22 "java/lang/IndexOutOfBoundsException", Cond.methodLink RL 60 yX4_distance, Cond.instanceMethod yX4_distance, Cond.selects RX4 yX4_distance yX4_distance, Cond.initialized RX4, Cond.code yX4_distance cX4_distance 4 (some .int), Cond.fieldLink RX4 16 "HilbertHutch" "stock" "LHilbertHutch$Stock;", Cond.methodLink RX4 78 yX4_checkPoint, Cond.static yX4_checkPoint, Cond.code yX4_checkPoint cX4_checkPoint 2 none, Cond.classLink RX4 160 "java/lang/IllegalArgumentException", Cond.initialized "java/lang/IllegalArgumentException", Cond.methodLink RX4 157 yX4_isCoordinate, Cond.static yX4_isCoordinate, Cond.code yX4_isCoordinate cX4_isCoordinate 1 (some .boolean), Cond.methodLink RX4 59 yX4_checkBox, Cond.instanceMethod yX4_checkBox, Cond.selects RX4 yX4_checkBox yX4_checkBox, Cond.code yX4_checkBox cX4_checkBox 2 none]
def wsL_isNear_r2 : List Cond := [Cond.classLink RX4 107 "java/lang/IndexOutOfBoundsException", Cond.initialized "java/lang/IndexOutOfBoundsException", Cond.methodLink RX4 169 yX2_has, Cond.instanceMethod yX2_has, Cond.selects RX2 yX2_has yX2_has, Cond.initialized RX2, Cond.code yX2_has cX2_has 2 (some .boolean), Cond.fieldLink RX2 18 "HilbertHutch$Stock" "there" "[Z", Cond.methodLink RX4 94 yX2_areaOf, Cond.instanceMethod yX2_areaOf, Cond.selects RX2 yX2_areaOf yX2_areaOf, Cond.code yX2_areaOf cX2_areaOf 2 (some .int), Cond.fieldLink RX2 9 "HilbertHutch$Stock" "areas" "[I", Cond.methodLink RX4 147 yX0_distanceFrom, Cond.static yX0_distanceFrom, Cond.initialized RX0, Cond.code yX0_distanceFrom cX0_distanceFrom 5 (some .int), Cond.methodLink RX0 9 yX0_side, Cond.static yX0_side, Cond.code yX0_side cX0_side 2 (some .int), Cond.methodLink RX0 27 yX0_gap, Cond.static yX0_gap, Cond.code yX0_gap cX0_gap 3 (some .int), Cond.methodLink RX0 20 Lib.Math.max.name]
def wsL_isNear_r3 : List Cond := [Cond.static Lib.Math.max.name, Cond.initialized "java/lang/Math", Cond.code Lib.Math.max.name Lib.Math.max.code 2 (some .int), Cond.methodLink RL 63 yX4_nearest, Cond.instanceMethod yX4_nearest, Cond.selects RX4 yX4_nearest yX4_nearest, Cond.code yX4_nearest cX4_nearest 5 (some .int), Cond.methodLink RX4 141 yX4_rankByDistance, Cond.instanceMethod yX4_rankByDistance, Cond.selects RX4 yX4_rankByDistance yX4_rankByDistance, Cond.code yX4_rankByDistance cX4_rankByDistance 5 none, Cond.fieldLink RX4 9 "HilbertHutch" "ranks" "[I", Cond.methodLink RX4 68 yX2_size, Cond.instanceMethod yX2_size, Cond.selects RX2 yX2_size yX2_size, Cond.code yX2_size cX2_size 1 (some .int), Cond.fieldLink RX2 25 "HilbertHutch$Stock" "size" "I", Cond.methodLink RX4 134 yX2_areaAt, Cond.instanceMethod yX2_areaAt, Cond.selects RX2 yX2_areaAt yX2_areaAt, Cond.code yX2_areaAt cX2_areaAt 2 (some .int), Cond.methodLink RX2 32 yX2_numberAt, Cond.instanceMethod yX2_numberAt, Cond.selects RX2 yX2_numberAt yX2_numberAt]
def wsL_isNear_r4 : List Cond := [Cond.code yX2_numberAt cX2_numberAt 2 (some .int), Cond.fieldLink RX2 22 "HilbertHutch$Stock" "order" "[I", Cond.methodLink RX2 36 yX2_areaOf, Cond.methodLink RX4 126 yX2_numberAt, Cond.methodLink RX4 144 yX4_ranksBefore, Cond.instanceMethod yX4_ranksBefore, Cond.selects RX4 yX4_ranksBefore yX4_ranksBefore, Cond.code yX4_ranksBefore cX4_ranksBefore 5 (some .int), Cond.methodLink RL 94 yL_far, Cond.static yL_far, Cond.code yL_far cL_far 6 (some .int), Cond.methodLink RL 28 yX4_sideOf, Cond.instanceMethod yX4_sideOf, Cond.selects RX4 yX4_sideOf yX4_sideOf, Cond.code yX4_sideOf cX4_sideOf 3 (some .int), Cond.methodLink RX4 91 yX4_checkSide, Cond.static yX4_checkSide, Cond.code yX4_checkSide cX4_checkSide 1 none, Cond.methodLink RX4 97 yX0_side]
def wsL_isNear : List Cond := .code yL_isNear cL_isNear 10 (some .boolean) :: ((wsL_isNear_r1 ++ (wsL_isNear_r2 ++ (wsL_isNear_r3 ++ wsL_isNear_r4))) ++ wsX40 ++ wsX20 ++ (vx_atS RX4 164 "java/lang/IllegalArgumentException" ["java/lang/RuntimeException", "java/lang/Exception"]).filter goodWord ++ (vx_atS RX4 111 "java/lang/IndexOutOfBoundsException" ["java/lang/RuntimeException", "java/lang/Exception"]).filter goodWord)
def wsL_doMeet_r1 : List Cond := [Cond.methodLink RL 28 yX4_sideOf, Cond.instanceMethod yX4_sideOf, Cond.selects RX4 yX4_sideOf yX4_sideOf, Cond.initialized RX4, Cond.code yX4_sideOf cX4_sideOf 3 (some .int), Cond.fieldLink RX4 16 "HilbertHutch" "stock" "LHilbertHutch$Stock;", Cond.methodLink RX4 91 yX4_checkSide, Cond.static yX4_checkSide, Cond.code yX4_checkSide cX4_checkSide 1 none, Cond.classLink RX4 160 "java/lang/IllegalArgumentException", Cond.initialized "java/lang/IllegalArgumentException", Cond.methodLink RX4 59 yX4_checkBox, Cond.instanceMethod yX4_checkBox, Cond.selects RX4 yX4_checkBox yX4_checkBox, Cond.code yX4_checkBox cX4_checkBox 2 none, Cond.classLink RX4 107 "java/lang/IndexOutOfBoundsException", Cond.initialized "java/lang/IndexOutOfBoundsException", Cond.methodLink RX4 169 yX2_has, Cond.instanceMethod yX2_has, Cond.selects RX2 yX2_has yX2_has, Cond.initialized RX2, Cond.code yX2_has cX2_has 2 (some .boolean), Cond.fieldLink RX2 18 "HilbertHutch$Stock" "there" "[Z", Cond.methodLink RX4 94 yX2_areaOf]
def wsL_doMeet_r2 : List Cond := [Cond.instanceMethod yX2_areaOf, Cond.selects RX2 yX2_areaOf yX2_areaOf, Cond.code yX2_areaOf cX2_areaOf 2 (some .int), Cond.fieldLink RX2 9 "HilbertHutch$Stock" "areas" "[I", Cond.methodLink RX4 97 yX0_side, Cond.static yX0_side, Cond.initialized RX0, Cond.code yX0_side cX0_side 2 (some .int)]
def wsL_doMeet : List Cond := .code yL_doMeet cL_doMeet 6 (some .boolean) :: ((wsL_doMeet_r1 ++ wsL_doMeet_r2) ++ wsX40 ++ wsX20 ++ (vx_atS RX4 164 "java/lang/IllegalArgumentException" ["java/lang/RuntimeException", "java/lang/Exception"]).filter goodWord ++ (vx_atS RX4 111 "java/lang/IndexOutOfBoundsException" ["java/lang/RuntimeException", "java/lang/Exception"]).filter goodWord)
def wsL_areMet_r1 : List Cond := [Cond.methodLink RL 44 yX4_boxAt, Cond.instanceMethod yX4_boxAt, Cond.selects RX4 yX4_boxAt yX4_boxAt, Cond.initialized RX4, Cond.code yX4_boxAt cX4_boxAt 2 (some .int), Cond.classLink RX4 107 "java/lang/IndexOutOfBoundsException", Cond.initialized "java/lang/IndexOutOfBoundsException", Cond.fieldLink RX4 16 "HilbertHutch" "stock" "LHilbertHutch$Stock;", Cond.methodLink RX4 68 yX2_size, Cond.instanceMethod yX2_size, Cond.selects RX2 yX2_size yX2_size, Cond.initialized RX2, Cond.code yX2_size cX2_size 1 (some .int), Cond.fieldLink RX2 25 "HilbertHutch$Stock" "size" "I", Cond.methodLink RX4 126 yX2_numberAt, Cond.instanceMethod yX2_numberAt, Cond.selects RX2 yX2_numberAt yX2_numberAt, Cond.code yX2_numberAt cX2_numberAt 2 (some .int), Cond.fieldLink RX2 22 "HilbertHutch$Stock" "order" "[I", Cond.methodLink RL 98 yL_doMeet, Cond.static yL_doMeet, Cond.initialized RL, Cond.code yL_doMeet cL_doMeet 6 (some .boolean), Cond.methodLink RL 28 yX4_sideOf]
def wsL_areMet_r2 : List Cond := [Cond.instanceMethod yX4_sideOf, Cond.selects RX4 yX4_sideOf yX4_sideOf, Cond.code yX4_sideOf cX4_sideOf 3 (some .int), Cond.methodLink RX4 91 yX4_checkSide, Cond.static yX4_checkSide, Cond.code yX4_checkSide cX4_checkSide 1 none, Cond.classLink RX4 160 "java/lang/IllegalArgumentException", Cond.initialized "java/lang/IllegalArgumentException", Cond.methodLink RX4 59 yX4_checkBox, Cond.instanceMethod yX4_checkBox, Cond.selects RX4 yX4_checkBox yX4_checkBox, Cond.code yX4_checkBox cX4_checkBox 2 none, Cond.methodLink RX4 169 yX2_has, Cond.instanceMethod yX2_has, Cond.selects RX2 yX2_has yX2_has, Cond.code yX2_has cX2_has 2 (some .boolean), Cond.fieldLink RX2 18 "HilbertHutch$Stock" "there" "[Z", Cond.methodLink RX4 94 yX2_areaOf, Cond.instanceMethod yX2_areaOf, Cond.selects RX2 yX2_areaOf yX2_areaOf, Cond.code yX2_areaOf cX2_areaOf 2 (some .int), Cond.fieldLink RX2 9 "HilbertHutch$Stock" "areas" "[I", Cond.methodLink RX4 97 yX0_side, Cond.static yX0_side]
def wsL_areMet_r3 : List Cond := [Cond.initialized RX0, Cond.code yX0_side cX0_side 2 (some .int), Cond.methodLink RL 102 yL_meets, Cond.static yL_meets, Cond.codeWith yL_meets cL_meets 8 (some .int) [(0, 47, 48, 14), (0, 47, 53, 22)], Cond.classLink RL 14 "java/lang/IllegalArgumentException", Cond.classLink RL 22 "java/lang/IndexOutOfBoundsException", Cond.methodLink RL 50 yX4_count, Cond.instanceMethod yX4_count, Cond.selects RX4 yX4_count yX4_count, Cond.code yX4_count cX4_count 8 (some .int), Cond.methodLink RX4 27 yX4_checkSides, Cond.static yX4_checkSides, Cond.code yX4_checkSides cX4_checkSides 4 none, Cond.methodLink RX4 157 yX4_isCoordinate, Cond.static yX4_isCoordinate, Cond.code yX4_isCoordinate cX4_isCoordinate 1 (some .boolean), Cond.methodLink RX4 42 yX0_of, Cond.static yX0_of, Cond.code yX0_of cX0_of 4 (some .int), Cond.methodLink RX4 134 yX2_areaAt, Cond.instanceMethod yX2_areaAt, Cond.selects RX2 yX2_areaAt yX2_areaAt, Cond.code yX2_areaAt cX2_areaAt 2 (some .int)]
def wsL_areMet_r4 : List Cond := [Cond.methodLink RX2 32 yX2_numberAt, Cond.methodLink RX2 36 yX2_areaOf, Cond.methodLink RX4 137 yX0_meet, Cond.static yX0_meet, Cond.code yX0_meet cX0_meet 2 (some .boolean), Cond.methodLink RX0 9 yX0_side, Cond.methodLink RL 53 yX4_found, Cond.instanceMethod yX4_found, Cond.selects RX4 yX4_found yX4_found, Cond.code yX4_found cX4_found 9 (some .int), Cond.methodLink RL 57 yX4_visits, Cond.instanceMethod yX4_visits, Cond.selects RX4 yX4_visits yX4_visits, Cond.code yX4_visits cX4_visits 9 (some .int), Cond.fieldLink RX4 23 "HilbertHutch" "tree" "LHilbertHutch$Tree;", Cond.methodLink RX4 100 yX3_height, Cond.instanceMethod yX3_height, Cond.selects RX3 yX3_height yX3_height, Cond.initialized RX3, Cond.code yX3_height cX3_height 1 (some .int), Cond.fieldLink RX3 18 "HilbertHutch$Tree" "height" "I", Cond.methodLink RX4 75 yX3_width, Cond.instanceMethod yX3_width, Cond.selects RX3 yX3_width yX3_width]
def wsL_areMet_r5 : List Cond := [Cond.code yX3_width cX3_width 2 (some .int), Cond.fieldLink RX3 15 "HilbertHutch$Tree" "widths" "[I", Cond.methodLink RX4 118 yX4_coverOf, Cond.instanceMethod yX4_coverOf, Cond.selects RX4 yX4_coverOf yX4_coverOf, Cond.code yX4_coverOf cX4_coverOf 7 (some .int), Cond.methodLink RX4 179 yX3_boxesBefore, Cond.instanceMethod yX3_boxesBefore, Cond.selects RX3 yX3_boxesBefore yX3_boxesBefore, Cond.code yX3_boxesBefore cX3_boxesBefore 5 (some .int), Cond.methodLink RX3 34 yX3_entriesBefore, Cond.instanceMethod yX3_entriesBefore, Cond.selects RX3 yX3_entriesBefore yX3_entriesBefore, Cond.code yX3_entriesBefore cX3_entriesBefore 5 (some .int), Cond.methodLink RX3 26 yX3_width, Cond.methodLink RX3 30 yX3_load, Cond.instanceMethod yX3_load, Cond.selects RX3 yX3_load yX3_load, Cond.code yX3_load cX3_load 4 (some .int), Cond.fieldLink RX3 11 "HilbertHutch$Tree" "loads" "[I", Cond.methodLink RX3 22 yX3_hasNode, Cond.instanceMethod yX3_hasNode, Cond.selects RX3 yX3_hasNode yX3_hasNode, Cond.code yX3_hasNode cX3_hasNode 3 (some .boolean)]
def wsL_areMet_r6 : List Cond := [Cond.methodLink RX4 182 yX0_around, Cond.static yX0_around, Cond.code yX0_around cX0_around 2 (some .int), Cond.methodLink RX0 15 Lib.Math.min.name, Cond.static Lib.Math.min.name, Cond.initialized "java/lang/Math", Cond.code Lib.Math.min.name Lib.Math.min.code 2 (some .int), Cond.methodLink RX0 20 Lib.Math.max.name, Cond.static Lib.Math.max.name, Cond.code Lib.Math.max.name Lib.Math.max.code 2 (some .int), Cond.methodLink RX0 23 yX0_of, Cond.methodLink RL 84 yX4_levels, Cond.instanceMethod yX4_levels, Cond.selects RX4 yX4_levels yX4_levels, Cond.code yX4_levels cX4_levels 1 (some .int), Cond.methodLink RL 31 yX4_nodes, Cond.instanceMethod yX4_nodes, Cond.selects RX4 yX4_nodes yX4_nodes, Cond.code yX4_nodes cX4_nodes 2 (some .int), Cond.methodLink RX4 103 yX3_hasLevel, Cond.instanceMethod yX3_hasLevel, Cond.selects RX3 yX3_hasLevel yX3_hasLevel, Cond.code yX3_hasLevel cX3_hasLevel 2 (some .boolean), Cond.methodLink RL 37 yX4_cover]
def wsL_areMet_r7 : List Cond := [Cond.instanceMethod yX4_cover, Cond.selects RX4 yX4_cover yX4_cover, Cond.code yX4_cover cX4_cover 4 (some .int), Cond.methodLink RX4 112 yX4_checkNode, Cond.instanceMethod yX4_checkNode, Cond.selects RX4 yX4_checkNode yX4_checkNode, Cond.code yX4_checkNode cX4_checkNode 3 none, Cond.methodLink RX4 174 yX3_hasNode]
def wsL_areMet : List Cond := .code yL_areMet cL_areMet 11 (some .boolean) :: ((wsL_areMet_r1 ++ (wsL_areMet_r2 ++ (wsL_areMet_r3 ++ (wsL_areMet_r4 ++ (wsL_areMet_r5 ++ (wsL_areMet_r6 ++ wsL_areMet_r7)))))) ++ wsX40 ++ wsX20 ++ wsX30 ++ (vx_atS RX4 111 "java/lang/IndexOutOfBoundsException" ["java/lang/RuntimeException", "java/lang/Exception"]).filter goodWord ++ (vx_atS RX4 164 "java/lang/IllegalArgumentException" ["java/lang/RuntimeException", "java/lang/Exception"]).filter goodWord)
def wsL_arePairs_r1 : List Cond := [Cond.methodLink RL 106 yL_side, Cond.static yL_side, Cond.initialized RL, Cond.codeWith yL_side cL_side 4 (some .int) [(0, 6, 7, 14), (0, 6, 11, 22)], Cond.classLink RL 14 "java/lang/IllegalArgumentException", Cond.classLink RL 22 "java/lang/IndexOutOfBoundsException", Cond.methodLink RL 28 yX4_sideOf, Cond.instanceMethod yX4_sideOf, Cond.selects RX4 yX4_sideOf yX4_sideOf, Cond.initialized RX4, Cond.code yX4_sideOf cX4_sideOf 3 (some .int), Cond.fieldLink RX4 16 "HilbertHutch" "stock" "LHilbertHutch$Stock;", Cond.methodLink RX4 91 yX4_checkSide, Cond.static yX4_checkSide, Cond.code yX4_checkSide cX4_checkSide 1 none, Cond.classLink RX4 160 "java/lang/IllegalArgumentException", Cond.initialized "java/lang/IllegalArgumentException", Cond.methodLink RX4 59 yX4_checkBox, Cond.instanceMethod yX4_checkBox, Cond.selects RX4 yX4_checkBox yX4_checkBox, Cond.code yX4_checkBox cX4_checkBox 2 none, Cond.classLink RX4 107 "java/lang/IndexOutOfBoundsException", Cond.initialized "java/lang/IndexOutOfBoundsException", Cond.methodLink RX4 169 yX2_has]
def wsL_arePairs_r2 : List Cond := [Cond.instanceMethod yX2_has, Cond.selects RX2 yX2_has yX2_has, Cond.initialized RX2, Cond.code yX2_has cX2_has 2 (some .boolean), Cond.fieldLink RX2 18 "HilbertHutch$Stock" "there" "[Z", Cond.methodLink RX4 94 yX2_areaOf, Cond.instanceMethod yX2_areaOf, Cond.selects RX2 yX2_areaOf yX2_areaOf, Cond.code yX2_areaOf cX2_areaOf 2 (some .int), Cond.fieldLink RX2 9 "HilbertHutch$Stock" "areas" "[I", Cond.methodLink RX4 97 yX0_side, Cond.static yX0_side, Cond.initialized RX0, Cond.code yX0_side cX0_side 2 (some .int), Cond.methodLink RL 98 yL_doMeet, Cond.static yL_doMeet, Cond.code yL_doMeet cL_doMeet 6 (some .boolean), Cond.methodLink RL 110 yL_pair, Cond.static yL_pair, Cond.codeWith yL_pair cL_pair 3 (some .int) [(0, 5, 6, 22)], Cond.methodLink RL 66 yX4_pair, Cond.instanceMethod yX4_pair, Cond.selects RX4 yX4_pair yX4_pair, Cond.code yX4_pair cX4_pair 5 (some .int)]
def wsL_arePairs_r3 : List Cond := [Cond.methodLink RX4 151 yX2_added, Cond.instanceMethod yX2_added, Cond.selects RX2 yX2_added yX2_added, Cond.code yX2_added cX2_added 1 (some .int), Cond.fieldLink RX2 29 "HilbertHutch$Stock" "added" "I", Cond.methodLink RX4 154 yX2_haveMet, Cond.instanceMethod yX2_haveMet, Cond.selects RX2 yX2_haveMet yX2_haveMet, Cond.code yX2_haveMet cX2_haveMet 3 (some .boolean), Cond.methodLink RX2 39 yX2_has, Cond.methodLink RX2 36 yX2_areaOf, Cond.methodLink RX2 43 yX0_meet, Cond.static yX0_meet, Cond.code yX0_meet cX0_meet 2 (some .boolean), Cond.methodLink RX0 9 yX0_side, Cond.methodLink RL 113 yX4_pairs, Cond.instanceMethod yX4_pairs, Cond.selects RX4 yX4_pairs yX4_pairs, Cond.code yX4_pairs cX4_pairs 4 (some .int)]
def wsL_arePairs : List Cond := .code yL_arePairs cL_arePairs 6 (some .boolean) :: ((wsL_arePairs_r1 ++ (wsL_arePairs_r2 ++ wsL_arePairs_r3)) ++ wsX40 ++ wsX20 ++ (vx_atS RX4 164 "java/lang/IllegalArgumentException" ["java/lang/RuntimeException", "java/lang/Exception"]).filter goodWord ++ (vx_atS RX4 111 "java/lang/IndexOutOfBoundsException" ["java/lang/RuntimeException", "java/lang/Exception"]).filter goodWord)
def wsL_areAll_r1 : List Cond := [Cond.methodLink RL 116 yL_isOrder, Cond.static yL_isOrder, Cond.initialized RL, Cond.code yL_isOrder cL_isOrder 7 (some .boolean), Cond.methodLink RL 74 yX4_boxes, Cond.instanceMethod yX4_boxes, Cond.selects RX4 yX4_boxes yX4_boxes, Cond.initialized RX4, Cond.code yX4_boxes cX4_boxes 1 (some .int), Cond.fieldLink RX4 16 "HilbertHutch" "stock" "LHilbertHutch$Stock;", Cond.methodLink RX4 68 yX2_size, Cond.instanceMethod yX2_size, Cond.selects RX2 yX2_size yX2_size, Cond.initialized RX2, Cond.code yX2_size cX2_size 1 (some .int), Cond.fieldLink RX2 25 "HilbertHutch$Stock" "size" "I", Cond.methodLink RL 78 yL_tree, Cond.static yL_tree, Cond.codeWith yL_tree cL_tree 6 (some .int) [(0, 73, 74, 14), (0, 73, 79, 22)], Cond.classLink RL 14 "java/lang/IllegalArgumentException", Cond.classLink RL 22 "java/lang/IndexOutOfBoundsException", Cond.methodLink RL 31 yX4_nodes, Cond.instanceMethod yX4_nodes, Cond.selects RX4 yX4_nodes yX4_nodes]
def wsL_areAll_r2 : List Cond := [Cond.code yX4_nodes cX4_nodes 2 (some .int), Cond.classLink RX4 107 "java/lang/IndexOutOfBoundsException", Cond.initialized "java/lang/IndexOutOfBoundsException", Cond.fieldLink RX4 23 "HilbertHutch" "tree" "LHilbertHutch$Tree;", Cond.methodLink RX4 103 yX3_hasLevel, Cond.instanceMethod yX3_hasLevel, Cond.selects RX3 yX3_hasLevel yX3_hasLevel, Cond.initialized RX3, Cond.code yX3_hasLevel cX3_hasLevel 2 (some .boolean), Cond.fieldLink RX3 18 "HilbertHutch$Tree" "height" "I", Cond.methodLink RX4 75 yX3_width, Cond.instanceMethod yX3_width, Cond.selects RX3 yX3_width yX3_width, Cond.code yX3_width cX3_width 2 (some .int), Cond.fieldLink RX3 15 "HilbertHutch$Tree" "widths" "[I", Cond.methodLink RL 34 yX4_entries, Cond.instanceMethod yX4_entries, Cond.selects RX4 yX4_entries yX4_entries, Cond.code yX4_entries cX4_entries 3 (some .int), Cond.methodLink RX4 112 yX4_checkNode, Cond.instanceMethod yX4_checkNode, Cond.selects RX4 yX4_checkNode yX4_checkNode, Cond.code yX4_checkNode cX4_checkNode 3 none, Cond.methodLink RX4 174 yX3_hasNode]
def wsL_areAll_r3 : List Cond := [Cond.instanceMethod yX3_hasNode, Cond.selects RX3 yX3_hasNode yX3_hasNode, Cond.code yX3_hasNode cX3_hasNode 3 (some .boolean), Cond.methodLink RX4 115 yX3_load, Cond.instanceMethod yX3_load, Cond.selects RX3 yX3_load yX3_load, Cond.code yX3_load cX3_load 4 (some .int), Cond.fieldLink RX3 11 "HilbertHutch$Tree" "loads" "[I", Cond.methodLink RX3 22 yX3_hasNode, Cond.methodLink RL 37 yX4_cover, Cond.instanceMethod yX4_cover, Cond.selects RX4 yX4_cover yX4_cover, Cond.code yX4_cover cX4_cover 4 (some .int), Cond.methodLink RX4 91 yX4_checkSide, Cond.static yX4_checkSide, Cond.code yX4_checkSide cX4_checkSide 1 none, Cond.classLink RX4 160 "java/lang/IllegalArgumentException", Cond.initialized "java/lang/IllegalArgumentException", Cond.methodLink RX4 118 yX4_coverOf, Cond.instanceMethod yX4_coverOf, Cond.selects RX4 yX4_coverOf yX4_coverOf, Cond.code yX4_coverOf cX4_coverOf 7 (some .int), Cond.methodLink RX4 179 yX3_boxesBefore, Cond.instanceMethod yX3_boxesBefore]
def wsL_areAll_r4 : List Cond := [Cond.selects RX3 yX3_boxesBefore yX3_boxesBefore, Cond.code yX3_boxesBefore cX3_boxesBefore 5 (some .int), Cond.methodLink RX3 34 yX3_entriesBefore, Cond.instanceMethod yX3_entriesBefore, Cond.selects RX3 yX3_entriesBefore yX3_entriesBefore, Cond.code yX3_entriesBefore cX3_entriesBefore 5 (some .int), Cond.methodLink RX3 26 yX3_width, Cond.methodLink RX3 30 yX3_load, Cond.methodLink RX4 134 yX2_areaAt, Cond.instanceMethod yX2_areaAt, Cond.selects RX2 yX2_areaAt yX2_areaAt, Cond.code yX2_areaAt cX2_areaAt 2 (some .int), Cond.methodLink RX2 32 yX2_numberAt, Cond.instanceMethod yX2_numberAt, Cond.selects RX2 yX2_numberAt yX2_numberAt, Cond.code yX2_numberAt cX2_numberAt 2 (some .int), Cond.fieldLink RX2 22 "HilbertHutch$Stock" "order" "[I", Cond.methodLink RX2 36 yX2_areaOf, Cond.instanceMethod yX2_areaOf, Cond.selects RX2 yX2_areaOf yX2_areaOf, Cond.code yX2_areaOf cX2_areaOf 2 (some .int), Cond.fieldLink RX2 9 "HilbertHutch$Stock" "areas" "[I", Cond.methodLink RX4 182 yX0_around, Cond.static yX0_around]
def wsL_areAll_r5 : List Cond := [Cond.initialized RX0, Cond.code yX0_around cX0_around 2 (some .int), Cond.methodLink RX0 15 Lib.Math.min.name, Cond.static Lib.Math.min.name, Cond.initialized "java/lang/Math", Cond.code Lib.Math.min.name Lib.Math.min.code 2 (some .int), Cond.methodLink RX0 20 Lib.Math.max.name, Cond.static Lib.Math.max.name, Cond.code Lib.Math.max.name Lib.Math.max.code 2 (some .int), Cond.methodLink RX0 9 yX0_side, Cond.static yX0_side, Cond.code yX0_side cX0_side 2 (some .int), Cond.methodLink RX0 23 yX0_of, Cond.static yX0_of, Cond.code yX0_of cX0_of 4 (some .int), Cond.methodLink RX4 97 yX0_side, Cond.methodLink RL 41 yX4_leafOf, Cond.instanceMethod yX4_leafOf, Cond.selects RX4 yX4_leafOf yX4_leafOf, Cond.code yX4_leafOf cX4_leafOf 2 (some .int), Cond.methodLink RX4 59 yX4_checkBox, Cond.instanceMethod yX4_checkBox, Cond.selects RX4 yX4_checkBox yX4_checkBox, Cond.code yX4_checkBox cX4_checkBox 2 none]
def wsL_areAll_r6 : List Cond := [Cond.methodLink RX4 169 yX2_has, Cond.instanceMethod yX2_has, Cond.selects RX2 yX2_has yX2_has, Cond.code yX2_has cX2_has 2 (some .boolean), Cond.fieldLink RX2 18 "HilbertHutch$Stock" "there" "[Z", Cond.methodLink RX4 52 yX2_placeOf, Cond.instanceMethod yX2_placeOf, Cond.selects RX2 yX2_placeOf yX2_placeOf, Cond.code yX2_placeOf cX2_placeOf 3 (some .int), Cond.methodLink RX4 121 yX3_holder, Cond.instanceMethod yX3_holder, Cond.selects RX3 yX3_holder yX3_holder, Cond.code yX3_holder cX3_holder 5 (some .int), Cond.methodLink RL 44 yX4_boxAt, Cond.instanceMethod yX4_boxAt, Cond.selects RX4 yX4_boxAt yX4_boxAt, Cond.code yX4_boxAt cX4_boxAt 2 (some .int), Cond.methodLink RX4 126 yX2_numberAt, Cond.methodLink RL 47 yX4_keyOf, Cond.instanceMethod yX4_keyOf, Cond.selects RX4 yX4_keyOf yX4_keyOf, Cond.code yX4_keyOf cX4_keyOf 2 (some .int), Cond.methodLink RX4 88 yX2_keyFor, Cond.instanceMethod yX2_keyFor]
def wsL_areAll_r7 : List Cond := [Cond.selects RX2 yX2_keyFor yX2_keyFor, Cond.code yX2_keyFor cX2_keyFor 2 (some .int), Cond.fieldLink RX2 15 "HilbertHutch$Stock" "keys" "[I", Cond.methodLink RL 28 yX4_sideOf, Cond.instanceMethod yX4_sideOf, Cond.selects RX4 yX4_sideOf yX4_sideOf, Cond.code yX4_sideOf cX4_sideOf 3 (some .int), Cond.methodLink RX4 94 yX2_areaOf, Cond.methodLink RL 24 yX4_key, Cond.instanceMethod yX4_key, Cond.selects RX4 yX4_key yX4_key, Cond.code yX4_key cX4_key 3 (some .int), Cond.methodLink RX4 78 yX4_checkPoint, Cond.static yX4_checkPoint, Cond.code yX4_checkPoint cX4_checkPoint 2 none, Cond.methodLink RX4 157 yX4_isCoordinate, Cond.static yX4_isCoordinate, Cond.code yX4_isCoordinate cX4_isCoordinate 1 (some .boolean), Cond.methodLink RX4 82 yX1_lengthTo, Cond.static yX1_lengthTo, Cond.initialized RX1, Cond.code yX1_lengthTo cX1_lengthTo 9 (some .int), Cond.methodLink RX1 9 yX1_quarter, Cond.static yX1_quarter]
def wsL_areAll_r8 : List Cond := [Cond.code yX1_quarter cX1_quarter 2 (some .int), Cond.methodLink RL 120 yL_isTree, Cond.static yL_isTree, Cond.code yL_isTree cL_isTree 14 (some .boolean), Cond.constantFloat RL 73 (3212836864), Cond.methodLink RL 84 yX4_levels, Cond.instanceMethod yX4_levels, Cond.selects RX4 yX4_levels yX4_levels, Cond.code yX4_levels cX4_levels 1 (some .int), Cond.methodLink RX4 100 yX3_height, Cond.instanceMethod yX3_height, Cond.selects RX3 yX3_height yX3_height, Cond.code yX3_height cX3_height 1 (some .int), Cond.methodLink RL 87 yL_tightness, Cond.static yL_tightness, Cond.codeWith yL_tightness cL_tightness 2 (some .float) [(0, 4, 5, 16)], Cond.classLink RL 16 "java/lang/IllegalStateException", Cond.methodLink RL 69 yX4_tightness, Cond.instanceMethod yX4_tightness, Cond.selects RX4 yX4_tightness yX4_tightness, Cond.code yX4_tightness cX4_tightness 4 (some .float), Cond.classLink RX4 35 "java/lang/IllegalStateException", Cond.initialized "java/lang/IllegalStateException", Cond.methodLink RX4 129 yX0_points]
def wsL_areAll_r9 : List Cond := [Cond.static yX0_points, Cond.code yX0_points cX0_points 1 (some .int)]
def wsL_areAll : List Cond := .code yL_areAll cL_areAll 2 (some .boolean) :: ((wsL_areAll_r1 ++ (wsL_areAll_r2 ++ (wsL_areAll_r3 ++ (wsL_areAll_r4 ++ (wsL_areAll_r5 ++ (wsL_areAll_r6 ++ (wsL_areAll_r7 ++ (wsL_areAll_r8 ++ wsL_areAll_r9)))))))) ++ wsX40 ++ wsX20 ++ wsX30 ++ (vx_atS RX4 111 "java/lang/IndexOutOfBoundsException" ["java/lang/RuntimeException", "java/lang/Exception"]).filter goodWord ++ (vx_atS RX4 164 "java/lang/IllegalArgumentException" ["java/lang/RuntimeException", "java/lang/Exception"]).filter goodWord ++ (vx_atS RX4 39 "java/lang/IllegalStateException" ["java/lang/RuntimeException", "java/lang/Exception"]).filter goodWord)
def wsL_areKeys_r1 : List Cond := [Cond.constant RL 123 (65536), Cond.methodLink RL 24 yX4_key, Cond.instanceMethod yX4_key, Cond.selects RX4 yX4_key yX4_key, Cond.initialized RX4, Cond.code yX4_key cX4_key 3 (some .int), Cond.methodLink RX4 78 yX4_checkPoint, Cond.static yX4_checkPoint, Cond.code yX4_checkPoint cX4_checkPoint 2 none, Cond.classLink RX4 160 "java/lang/IllegalArgumentException", Cond.initialized "java/lang/IllegalArgumentException", Cond.methodLink RX4 157 yX4_isCoordinate, Cond.static yX4_isCoordinate, Cond.code yX4_isCoordinate cX4_isCoordinate 1 (some .boolean), Cond.methodLink RX4 82 yX1_lengthTo, Cond.static yX1_lengthTo, Cond.initialized RX1, Cond.code yX1_lengthTo cX1_lengthTo 9 (some .int), Cond.methodLink RX1 9 yX1_quarter, Cond.static yX1_quarter, Cond.code yX1_quarter cX1_quarter 2 (some .int), Cond.methodLink RL 124 yL_key, Cond.static yL_key, Cond.initialized RL]
def wsL_areKeys_r2 : List Cond := [Cond.codeWith yL_key cL_key 4 (some .int) [(0, 6, 7, 14)], Cond.classLink RL 14 "java/lang/IllegalArgumentException"]
def wsL_areKeys : List Cond := .code yL_areKeys cL_areKeys 10 (some .boolean) :: ((wsL_areKeys_r1 ++ wsL_areKeys_r2) ++ (vx_atS RX4 164 "java/lang/IllegalArgumentException" ["java/lang/RuntimeException", "java/lang/Exception"]).filter goodWord)
def wsL_isAdded_r1 : List Cond := [Cond.methodLink RL 126 yL_adds, Cond.static yL_adds, Cond.initialized RL, Cond.codeWith yL_adds cL_adds 6 (some .int) [(0, 9, 10, 14), (0, 9, 15, 16)], Cond.classLink RL 14 "java/lang/IllegalArgumentException", Cond.classLink RL 16 "java/lang/IllegalStateException", Cond.methodLink RL 8 yX4_add, Cond.instanceMethod yX4_add, Cond.selects RX4 yX4_add yX4_add, Cond.initialized RX4, Cond.code yX4_add cX4_add 6 (some .int), Cond.classLink RX4 35 "java/lang/IllegalStateException", Cond.initialized "java/lang/IllegalStateException", Cond.fieldLink RX4 16 "HilbertHutch" "stock" "LHilbertHutch$Stock;", Cond.fieldLink RX4 23 "HilbertHutch" "tree" "LHilbertHutch$Tree;", Cond.methodLink RX4 27 yX4_checkSides, Cond.static yX4_checkSides, Cond.code yX4_checkSides cX4_checkSides 4 none, Cond.classLink RX4 160 "java/lang/IllegalArgumentException", Cond.initialized "java/lang/IllegalArgumentException", Cond.methodLink RX4 157 yX4_isCoordinate, Cond.static yX4_isCoordinate, Cond.code yX4_isCoordinate cX4_isCoordinate 1 (some .boolean), Cond.methodLink RX4 31 yX2_hasRoom]
def wsL_isAdded_r2 : List Cond := [Cond.instanceMethod yX2_hasRoom, Cond.selects RX2 yX2_hasRoom yX2_hasRoom, Cond.initialized RX2, Cond.code yX2_hasRoom cX2_hasRoom 1 (some .boolean), Cond.fieldLink RX2 29 "HilbertHutch$Stock" "added" "I", Cond.fieldLink RX2 25 "HilbertHutch$Stock" "size" "I", Cond.methodLink RX4 42 yX0_of, Cond.static yX0_of, Cond.initialized RX0, Cond.code yX0_of cX0_of 4 (some .int), Cond.methodLink RX4 48 yX2_putIn, Cond.instanceMethod yX2_putIn, Cond.selects RX2 yX2_putIn yX2_putIn, Cond.code yX2_putIn cX2_putIn 3 (some .int), Cond.fieldLink RX2 9 "HilbertHutch$Stock" "areas" "[I", Cond.fieldLink RX2 15 "HilbertHutch$Stock" "keys" "[I", Cond.fieldLink RX2 18 "HilbertHutch$Stock" "there" "[Z", Cond.methodLink RX2 49 yX0_middleKey, Cond.static yX0_middleKey, Cond.code yX0_middleKey cX0_middleKey 3 (some .int), Cond.methodLink RX0 9 yX0_side, Cond.static yX0_side, Cond.code yX0_side cX0_side 2 (some .int), Cond.methodLink RX0 31 yX1_lengthTo]
def wsL_isAdded_r3 : List Cond := [Cond.static yX1_lengthTo, Cond.initialized RX1, Cond.code yX1_lengthTo cX1_lengthTo 9 (some .int), Cond.methodLink RX1 9 yX1_quarter, Cond.static yX1_quarter, Cond.code yX1_quarter cX1_quarter 2 (some .int), Cond.methodLink RX2 52 yX2_putInOrder, Cond.instanceMethod yX2_putInOrder, Cond.selects RX2 yX2_putInOrder yX2_putInOrder, Cond.code yX2_putInOrder cX2_putInOrder 4 none, Cond.methodLink RX2 32 yX2_numberAt, Cond.instanceMethod yX2_numberAt, Cond.selects RX2 yX2_numberAt yX2_numberAt, Cond.code yX2_numberAt cX2_numberAt 2 (some .int), Cond.fieldLink RX2 22 "HilbertHutch$Stock" "order" "[I", Cond.methodLink RX2 56 yX2_keyFor, Cond.instanceMethod yX2_keyFor, Cond.selects RX2 yX2_keyFor yX2_keyFor, Cond.code yX2_keyFor cX2_keyFor 2 (some .int), Cond.methodLink RX2 59 yX2_setOrder, Cond.instanceMethod yX2_setOrder, Cond.selects RX2 yX2_setOrder yX2_setOrder, Cond.code yX2_setOrder cX2_setOrder 3 none, Cond.methodLink RX4 52 yX2_placeOf]
def wsL_isAdded_r4 : List Cond := [Cond.instanceMethod yX2_placeOf, Cond.selects RX2 yX2_placeOf yX2_placeOf, Cond.code yX2_placeOf cX2_placeOf 3 (some .int), Cond.methodLink RX4 55 yX3_grow, Cond.instanceMethod yX3_grow, Cond.selects RX3 yX3_grow yX3_grow, Cond.initialized RX3, Cond.code yX3_grow cX3_grow 5 none, Cond.fieldLink RX3 18 "HilbertHutch$Tree" "height" "I", Cond.methodLink RX3 44 yX3_addRoot, Cond.instanceMethod yX3_addRoot, Cond.selects RX3 yX3_addRoot yX3_addRoot, Cond.code yX3_addRoot cX3_addRoot 2 none, Cond.methodLink RX3 63 yX3_setWidth, Cond.instanceMethod yX3_setWidth, Cond.selects RX3 yX3_setWidth yX3_setWidth, Cond.code yX3_setWidth cX3_setWidth 3 none, Cond.fieldLink RX3 15 "HilbertHutch$Tree" "widths" "[I", Cond.methodLink RX3 48 yX3_setLoad, Cond.instanceMethod yX3_setLoad, Cond.selects RX3 yX3_setLoad yX3_setLoad, Cond.code yX3_setLoad cX3_setLoad 5 none, Cond.fieldLink RX3 11 "HilbertHutch$Tree" "loads" "[I", Cond.methodLink RX3 22 yX3_hasNode]
def wsL_isAdded_r5 : List Cond := [Cond.instanceMethod yX3_hasNode, Cond.selects RX3 yX3_hasNode yX3_hasNode, Cond.code yX3_hasNode cX3_hasNode 3 (some .boolean), Cond.methodLink RX3 41 yX3_holder, Cond.instanceMethod yX3_holder, Cond.selects RX3 yX3_holder yX3_holder, Cond.code yX3_holder cX3_holder 5 (some .int), Cond.methodLink RX3 26 yX3_width, Cond.instanceMethod yX3_width, Cond.selects RX3 yX3_width yX3_width, Cond.code yX3_width cX3_width 2 (some .int), Cond.methodLink RX3 30 yX3_load, Cond.instanceMethod yX3_load, Cond.selects RX3 yX3_load yX3_load, Cond.code yX3_load cX3_load 4 (some .int), Cond.methodLink RX3 52 yX3_parent, Cond.instanceMethod yX3_parent, Cond.selects RX3 yX3_parent yX3_parent, Cond.code yX3_parent cX3_parent 3 (some .int), Cond.methodLink RX3 37 yX3_hasLevel, Cond.instanceMethod yX3_hasLevel, Cond.selects RX3 yX3_hasLevel yX3_hasLevel, Cond.code yX3_hasLevel cX3_hasLevel 2 (some .boolean), Cond.methodLink RX3 55 yX3_relieve]
def wsL_isAdded_r6 : List Cond := [Cond.instanceMethod yX3_relieve, Cond.selects RX3 yX3_relieve yX3_relieve, Cond.code yX3_relieve cX3_relieve 6 (some .boolean), Cond.methodLink RX3 73 Lib.Math.min.name, Cond.static Lib.Math.min.name, Cond.initialized "java/lang/Math", Cond.code Lib.Math.min.name Lib.Math.min.code 2 (some .int), Cond.methodLink RX3 66 yX3_partner, Cond.instanceMethod yX3_partner, Cond.selects RX3 yX3_partner yX3_partner, Cond.code yX3_partner cX3_partner 6 (some .int), Cond.methodLink RX3 34 yX3_entriesBefore, Cond.instanceMethod yX3_entriesBefore, Cond.selects RX3 yX3_entriesBefore yX3_entriesBefore, Cond.code yX3_entriesBefore cX3_entriesBefore 5 (some .int), Cond.methodLink RX3 70 yX3_insertNode, Cond.instanceMethod yX3_insertNode, Cond.selects RX3 yX3_insertNode yX3_insertNode, Cond.code yX3_insertNode cX3_insertNode 6 none, Cond.methodLink RX3 78 yX3_halve, Cond.instanceMethod yX3_halve, Cond.selects RX3 yX3_halve yX3_halve, Cond.code yX3_halve cX3_halve 4 none, Cond.methodLink RX3 59 yX3_gainEntry]
def wsL_isAdded_r7 : List Cond := [Cond.instanceMethod yX3_gainEntry, Cond.selects RX3 yX3_gainEntry yX3_gainEntry, Cond.code yX3_gainEntry cX3_gainEntry 3 none, Cond.methodLink RL 74 yX4_boxes, Cond.instanceMethod yX4_boxes, Cond.selects RX4 yX4_boxes yX4_boxes, Cond.code yX4_boxes cX4_boxes 1 (some .int), Cond.methodLink RX4 68 yX2_size, Cond.instanceMethod yX2_size, Cond.selects RX2 yX2_size yX2_size, Cond.code yX2_size cX2_size 1 (some .int), Cond.methodLink RL 106 yL_side, Cond.static yL_side, Cond.codeWith yL_side cL_side 4 (some .int) [(0, 6, 7, 14), (0, 6, 11, 22)], Cond.classLink RL 22 "java/lang/IndexOutOfBoundsException", Cond.methodLink RL 28 yX4_sideOf, Cond.instanceMethod yX4_sideOf, Cond.selects RX4 yX4_sideOf yX4_sideOf, Cond.code yX4_sideOf cX4_sideOf 3 (some .int), Cond.methodLink RX4 91 yX4_checkSide, Cond.static yX4_checkSide, Cond.code yX4_checkSide cX4_checkSide 1 none, Cond.methodLink RX4 59 yX4_checkBox, Cond.instanceMethod yX4_checkBox]
def wsL_isAdded_r8 : List Cond := [Cond.selects RX4 yX4_checkBox yX4_checkBox, Cond.code yX4_checkBox cX4_checkBox 2 none, Cond.classLink RX4 107 "java/lang/IndexOutOfBoundsException", Cond.initialized "java/lang/IndexOutOfBoundsException", Cond.methodLink RX4 169 yX2_has, Cond.instanceMethod yX2_has, Cond.selects RX2 yX2_has yX2_has, Cond.code yX2_has cX2_has 2 (some .boolean), Cond.methodLink RX4 94 yX2_areaOf, Cond.instanceMethod yX2_areaOf, Cond.selects RX2 yX2_areaOf yX2_areaOf, Cond.code yX2_areaOf cX2_areaOf 2 (some .int), Cond.methodLink RX4 97 yX0_side]
def wsL_isAdded : List Cond := .code yL_isAdded cL_isAdded 11 (some .boolean) :: ((wsL_isAdded_r1 ++ (wsL_isAdded_r2 ++ (wsL_isAdded_r3 ++ (wsL_isAdded_r4 ++ (wsL_isAdded_r5 ++ (wsL_isAdded_r6 ++ (wsL_isAdded_r7 ++ wsL_isAdded_r8))))))) ++ wsX40 ++ wsX20 ++ wsX30 ++ (vx_atS RX4 39 "java/lang/IllegalStateException" ["java/lang/RuntimeException", "java/lang/Exception"]).filter goodWord ++ (vx_atS RX4 164 "java/lang/IllegalArgumentException" ["java/lang/RuntimeException", "java/lang/Exception"]).filter goodWord ++ (vx_atS RX4 111 "java/lang/IndexOutOfBoundsException" ["java/lang/RuntimeException", "java/lang/Exception"]).filter goodWord)
def wsL_isDone_r1 : List Cond := [Cond.constant RL 133 (60000), Cond.methodLink RL 129 yL_part, Cond.static yL_part, Cond.initialized RL, Cond.code yL_part cL_part 4 (some .int), Cond.constant RL 7 (2147483647), Cond.methodLink RL 134 yL_isAdded, Cond.static yL_isAdded, Cond.code yL_isAdded cL_isAdded 11 (some .boolean), Cond.methodLink RL 126 yL_adds, Cond.static yL_adds, Cond.codeWith yL_adds cL_adds 6 (some .int) [(0, 9, 10, 14), (0, 9, 15, 16)], Cond.classLink RL 14 "java/lang/IllegalArgumentException", Cond.classLink RL 16 "java/lang/IllegalStateException", Cond.methodLink RL 8 yX4_add, Cond.instanceMethod yX4_add, Cond.selects RX4 yX4_add yX4_add, Cond.initialized RX4, Cond.code yX4_add cX4_add 6 (some .int), Cond.classLink RX4 35 "java/lang/IllegalStateException", Cond.initialized "java/lang/IllegalStateException", Cond.fieldLink RX4 16 "HilbertHutch" "stock" "LHilbertHutch$Stock;", Cond.fieldLink RX4 23 "HilbertHutch" "tree" "LHilbertHutch$Tree;", Cond.methodLink RX4 27 yX4_checkSides]
def wsL_isDone_r2 : List Cond := [Cond.static yX4_checkSides, Cond.code yX4_checkSides cX4_checkSides 4 none, Cond.classLink RX4 160 "java/lang/IllegalArgumentException", Cond.initialized "java/lang/IllegalArgumentException", Cond.methodLink RX4 157 yX4_isCoordinate, Cond.static yX4_isCoordinate, Cond.code yX4_isCoordinate cX4_isCoordinate 1 (some .boolean), Cond.methodLink RX4 31 yX2_hasRoom, Cond.instanceMethod yX2_hasRoom, Cond.selects RX2 yX2_hasRoom yX2_hasRoom, Cond.initialized RX2, Cond.code yX2_hasRoom cX2_hasRoom 1 (some .boolean), Cond.fieldLink RX2 29 "HilbertHutch$Stock" "added" "I", Cond.fieldLink RX2 25 "HilbertHutch$Stock" "size" "I", Cond.methodLink RX4 42 yX0_of, Cond.static yX0_of, Cond.initialized RX0, Cond.code yX0_of cX0_of 4 (some .int), Cond.methodLink RX4 48 yX2_putIn, Cond.instanceMethod yX2_putIn, Cond.selects RX2 yX2_putIn yX2_putIn, Cond.code yX2_putIn cX2_putIn 3 (some .int), Cond.fieldLink RX2 9 "HilbertHutch$Stock" "areas" "[I", Cond.fieldLink RX2 15 "HilbertHutch$Stock" "keys" "[I"]
def wsL_isDone_r3 : List Cond := [Cond.fieldLink RX2 18 "HilbertHutch$Stock" "there" "[Z", Cond.methodLink RX2 49 yX0_middleKey, Cond.static yX0_middleKey, Cond.code yX0_middleKey cX0_middleKey 3 (some .int), Cond.methodLink RX0 9 yX0_side, Cond.static yX0_side, Cond.code yX0_side cX0_side 2 (some .int), Cond.methodLink RX0 31 yX1_lengthTo, Cond.static yX1_lengthTo, Cond.initialized RX1, Cond.code yX1_lengthTo cX1_lengthTo 9 (some .int), Cond.methodLink RX1 9 yX1_quarter, Cond.static yX1_quarter, Cond.code yX1_quarter cX1_quarter 2 (some .int), Cond.methodLink RX2 52 yX2_putInOrder, Cond.instanceMethod yX2_putInOrder, Cond.selects RX2 yX2_putInOrder yX2_putInOrder, Cond.code yX2_putInOrder cX2_putInOrder 4 none, Cond.methodLink RX2 32 yX2_numberAt, Cond.instanceMethod yX2_numberAt, Cond.selects RX2 yX2_numberAt yX2_numberAt, Cond.code yX2_numberAt cX2_numberAt 2 (some .int), Cond.fieldLink RX2 22 "HilbertHutch$Stock" "order" "[I", Cond.methodLink RX2 56 yX2_keyFor]
def wsL_isDone_r4 : List Cond := [Cond.instanceMethod yX2_keyFor, Cond.selects RX2 yX2_keyFor yX2_keyFor, Cond.code yX2_keyFor cX2_keyFor 2 (some .int), Cond.methodLink RX2 59 yX2_setOrder, Cond.instanceMethod yX2_setOrder, Cond.selects RX2 yX2_setOrder yX2_setOrder, Cond.code yX2_setOrder cX2_setOrder 3 none, Cond.methodLink RX4 52 yX2_placeOf, Cond.instanceMethod yX2_placeOf, Cond.selects RX2 yX2_placeOf yX2_placeOf, Cond.code yX2_placeOf cX2_placeOf 3 (some .int), Cond.methodLink RX4 55 yX3_grow, Cond.instanceMethod yX3_grow, Cond.selects RX3 yX3_grow yX3_grow, Cond.initialized RX3, Cond.code yX3_grow cX3_grow 5 none, Cond.fieldLink RX3 18 "HilbertHutch$Tree" "height" "I", Cond.methodLink RX3 44 yX3_addRoot, Cond.instanceMethod yX3_addRoot, Cond.selects RX3 yX3_addRoot yX3_addRoot, Cond.code yX3_addRoot cX3_addRoot 2 none, Cond.methodLink RX3 63 yX3_setWidth, Cond.instanceMethod yX3_setWidth, Cond.selects RX3 yX3_setWidth yX3_setWidth]
def wsL_isDone_r5 : List Cond := [Cond.code yX3_setWidth cX3_setWidth 3 none, Cond.fieldLink RX3 15 "HilbertHutch$Tree" "widths" "[I", Cond.methodLink RX3 48 yX3_setLoad, Cond.instanceMethod yX3_setLoad, Cond.selects RX3 yX3_setLoad yX3_setLoad, Cond.code yX3_setLoad cX3_setLoad 5 none, Cond.fieldLink RX3 11 "HilbertHutch$Tree" "loads" "[I", Cond.methodLink RX3 22 yX3_hasNode, Cond.instanceMethod yX3_hasNode, Cond.selects RX3 yX3_hasNode yX3_hasNode, Cond.code yX3_hasNode cX3_hasNode 3 (some .boolean), Cond.methodLink RX3 41 yX3_holder, Cond.instanceMethod yX3_holder, Cond.selects RX3 yX3_holder yX3_holder, Cond.code yX3_holder cX3_holder 5 (some .int), Cond.methodLink RX3 26 yX3_width, Cond.instanceMethod yX3_width, Cond.selects RX3 yX3_width yX3_width, Cond.code yX3_width cX3_width 2 (some .int), Cond.methodLink RX3 30 yX3_load, Cond.instanceMethod yX3_load, Cond.selects RX3 yX3_load yX3_load, Cond.code yX3_load cX3_load 4 (some .int), Cond.methodLink RX3 52 yX3_parent]
def wsL_isDone_r6 : List Cond := [Cond.instanceMethod yX3_parent, Cond.selects RX3 yX3_parent yX3_parent, Cond.code yX3_parent cX3_parent 3 (some .int), Cond.methodLink RX3 37 yX3_hasLevel, Cond.instanceMethod yX3_hasLevel, Cond.selects RX3 yX3_hasLevel yX3_hasLevel, Cond.code yX3_hasLevel cX3_hasLevel 2 (some .boolean), Cond.methodLink RX3 55 yX3_relieve, Cond.instanceMethod yX3_relieve, Cond.selects RX3 yX3_relieve yX3_relieve, Cond.code yX3_relieve cX3_relieve 6 (some .boolean), Cond.methodLink RX3 73 Lib.Math.min.name, Cond.static Lib.Math.min.name, Cond.initialized "java/lang/Math", Cond.code Lib.Math.min.name Lib.Math.min.code 2 (some .int), Cond.methodLink RX3 66 yX3_partner, Cond.instanceMethod yX3_partner, Cond.selects RX3 yX3_partner yX3_partner, Cond.code yX3_partner cX3_partner 6 (some .int), Cond.methodLink RX3 34 yX3_entriesBefore, Cond.instanceMethod yX3_entriesBefore, Cond.selects RX3 yX3_entriesBefore yX3_entriesBefore, Cond.code yX3_entriesBefore cX3_entriesBefore 5 (some .int), Cond.methodLink RX3 70 yX3_insertNode]
def wsL_isDone_r7 : List Cond := [Cond.instanceMethod yX3_insertNode, Cond.selects RX3 yX3_insertNode yX3_insertNode, Cond.code yX3_insertNode cX3_insertNode 6 none, Cond.methodLink RX3 78 yX3_halve, Cond.instanceMethod yX3_halve, Cond.selects RX3 yX3_halve yX3_halve, Cond.code yX3_halve cX3_halve 4 none, Cond.methodLink RX3 59 yX3_gainEntry, Cond.instanceMethod yX3_gainEntry, Cond.selects RX3 yX3_gainEntry yX3_gainEntry, Cond.code yX3_gainEntry cX3_gainEntry 3 none, Cond.methodLink RL 74 yX4_boxes, Cond.instanceMethod yX4_boxes, Cond.selects RX4 yX4_boxes yX4_boxes, Cond.code yX4_boxes cX4_boxes 1 (some .int), Cond.methodLink RX4 68 yX2_size, Cond.instanceMethod yX2_size, Cond.selects RX2 yX2_size yX2_size, Cond.code yX2_size cX2_size 1 (some .int), Cond.methodLink RL 106 yL_side, Cond.static yL_side, Cond.codeWith yL_side cL_side 4 (some .int) [(0, 6, 7, 14), (0, 6, 11, 22)], Cond.classLink RL 22 "java/lang/IndexOutOfBoundsException", Cond.methodLink RL 28 yX4_sideOf]
def wsL_isDone_r8 : List Cond := [Cond.instanceMethod yX4_sideOf, Cond.selects RX4 yX4_sideOf yX4_sideOf, Cond.code yX4_sideOf cX4_sideOf 3 (some .int), Cond.methodLink RX4 91 yX4_checkSide, Cond.static yX4_checkSide, Cond.code yX4_checkSide cX4_checkSide 1 none, Cond.methodLink RX4 59 yX4_checkBox, Cond.instanceMethod yX4_checkBox, Cond.selects RX4 yX4_checkBox yX4_checkBox, Cond.code yX4_checkBox cX4_checkBox 2 none, Cond.classLink RX4 107 "java/lang/IndexOutOfBoundsException", Cond.initialized "java/lang/IndexOutOfBoundsException", Cond.methodLink RX4 169 yX2_has, Cond.instanceMethod yX2_has, Cond.selects RX2 yX2_has yX2_has, Cond.code yX2_has cX2_has 2 (some .boolean), Cond.methodLink RX4 94 yX2_areaOf, Cond.instanceMethod yX2_areaOf, Cond.selects RX2 yX2_areaOf yX2_areaOf, Cond.code yX2_areaOf cX2_areaOf 2 (some .int), Cond.methodLink RX4 97 yX0_side, Cond.methodLink RL 138 yL_removes, Cond.static yL_removes, Cond.codeWith yL_removes cL_removes 3 (some .int) [(0, 5, 6, 22)]]
def wsL_isDone_r9 : List Cond := [Cond.methodLink RL 18 yX4_remove, Cond.instanceMethod yX4_remove, Cond.selects RX4 yX4_remove yX4_remove, Cond.code yX4_remove cX4_remove 2 (some .int), Cond.methodLink RX4 62 yX3_shrink, Cond.instanceMethod yX3_shrink, Cond.selects RX3 yX3_shrink yX3_shrink, Cond.code yX3_shrink cX3_shrink 6 none, Cond.methodLink RX3 81 yX3_unite, Cond.instanceMethod yX3_unite, Cond.selects RX3 yX3_unite yX3_unite, Cond.code yX3_unite cX3_unite 7 (some .boolean), Cond.methodLink RX3 87 yX3_deleteNode, Cond.instanceMethod yX3_deleteNode, Cond.selects RX3 yX3_deleteNode yX3_deleteNode, Cond.code yX3_deleteNode cX3_deleteNode 5 none, Cond.methodLink RX3 90 Lib.Math.max.name, Cond.static Lib.Math.max.name, Cond.code Lib.Math.max.name Lib.Math.max.code 2 (some .int), Cond.methodLink RX3 84 yX3_lowerRoot, Cond.instanceMethod yX3_lowerRoot, Cond.selects RX3 yX3_lowerRoot yX3_lowerRoot, Cond.code yX3_lowerRoot cX3_lowerRoot 2 none, Cond.methodLink RX4 65 yX2_takeOut]
def wsL_isDone_r10 : List Cond := [Cond.instanceMethod yX2_takeOut, Cond.selects RX2 yX2_takeOut yX2_takeOut, Cond.code yX2_takeOut cX2_takeOut 4 none, Cond.methodLink RX2 63 yX2_placeOf, Cond.methodLink RX2 39 yX2_has, Cond.methodLink RL 78 yL_tree, Cond.static yL_tree, Cond.codeWith yL_tree cL_tree 6 (some .int) [(0, 73, 74, 14), (0, 73, 79, 22)], Cond.methodLink RL 31 yX4_nodes, Cond.instanceMethod yX4_nodes, Cond.selects RX4 yX4_nodes yX4_nodes, Cond.code yX4_nodes cX4_nodes 2 (some .int), Cond.methodLink RX4 103 yX3_hasLevel, Cond.methodLink RX4 75 yX3_width, Cond.methodLink RL 34 yX4_entries, Cond.instanceMethod yX4_entries, Cond.selects RX4 yX4_entries yX4_entries, Cond.code yX4_entries cX4_entries 3 (some .int), Cond.methodLink RX4 112 yX4_checkNode, Cond.instanceMethod yX4_checkNode, Cond.selects RX4 yX4_checkNode yX4_checkNode, Cond.code yX4_checkNode cX4_checkNode 3 none, Cond.methodLink RX4 174 yX3_hasNode, Cond.methodLink RX4 115 yX3_load]
def wsL_isDone_r11 : List Cond := [Cond.methodLink RL 37 yX4_cover, Cond.instanceMethod yX4_cover, Cond.selects RX4 yX4_cover yX4_cover, Cond.code yX4_cover cX4_cover 4 (some .int), Cond.methodLink RX4 118 yX4_coverOf, Cond.instanceMethod yX4_coverOf, Cond.selects RX4 yX4_coverOf yX4_coverOf, Cond.code yX4_coverOf cX4_coverOf 7 (some .int), Cond.methodLink RX4 179 yX3_boxesBefore, Cond.instanceMethod yX3_boxesBefore, Cond.selects RX3 yX3_boxesBefore yX3_boxesBefore, Cond.code yX3_boxesBefore cX3_boxesBefore 5 (some .int), Cond.methodLink RX4 134 yX2_areaAt, Cond.instanceMethod yX2_areaAt, Cond.selects RX2 yX2_areaAt yX2_areaAt, Cond.code yX2_areaAt cX2_areaAt 2 (some .int), Cond.methodLink RX2 36 yX2_areaOf, Cond.methodLink RX4 182 yX0_around, Cond.static yX0_around, Cond.code yX0_around cX0_around 2 (some .int), Cond.methodLink RX0 15 Lib.Math.min.name, Cond.methodLink RX0 20 Lib.Math.max.name, Cond.methodLink RX0 23 yX0_of, Cond.methodLink RL 41 yX4_leafOf]
def wsL_isDone_r12 : List Cond := [Cond.instanceMethod yX4_leafOf, Cond.selects RX4 yX4_leafOf yX4_leafOf, Cond.code yX4_leafOf cX4_leafOf 2 (some .int), Cond.methodLink RX4 121 yX3_holder, Cond.methodLink RL 44 yX4_boxAt, Cond.instanceMethod yX4_boxAt, Cond.selects RX4 yX4_boxAt yX4_boxAt, Cond.code yX4_boxAt cX4_boxAt 2 (some .int), Cond.methodLink RX4 126 yX2_numberAt, Cond.methodLink RL 47 yX4_keyOf, Cond.instanceMethod yX4_keyOf, Cond.selects RX4 yX4_keyOf yX4_keyOf, Cond.code yX4_keyOf cX4_keyOf 2 (some .int), Cond.methodLink RX4 88 yX2_keyFor, Cond.methodLink RL 141 yX4_pack, Cond.instanceMethod yX4_pack, Cond.selects RX4 yX4_pack yX4_pack, Cond.code yX4_pack cX4_pack 1 (some .int), Cond.methodLink RX4 72 yX3_planAnew, Cond.instanceMethod yX3_planAnew, Cond.selects RX3 yX3_planAnew yX3_planAnew, Cond.code yX3_planAnew cX3_planAnew 6 none, Cond.methodLink RL 84 yX4_levels, Cond.instanceMethod yX4_levels]
def wsL_isDone_r13 : List Cond := [Cond.selects RX4 yX4_levels yX4_levels, Cond.code yX4_levels cX4_levels 1 (some .int), Cond.methodLink RX4 100 yX3_height, Cond.instanceMethod yX3_height, Cond.selects RX3 yX3_height yX3_height, Cond.code yX3_height cX3_height 1 (some .int), Cond.methodLink RL 144 yL_areMet, Cond.static yL_areMet, Cond.code yL_areMet cL_areMet 11 (some .boolean), Cond.methodLink RL 98 yL_doMeet, Cond.static yL_doMeet, Cond.code yL_doMeet cL_doMeet 6 (some .boolean), Cond.methodLink RL 102 yL_meets, Cond.static yL_meets, Cond.codeWith yL_meets cL_meets 8 (some .int) [(0, 47, 48, 14), (0, 47, 53, 22)], Cond.methodLink RL 50 yX4_count, Cond.instanceMethod yX4_count, Cond.selects RX4 yX4_count yX4_count, Cond.code yX4_count cX4_count 8 (some .int), Cond.methodLink RX4 137 yX0_meet, Cond.static yX0_meet, Cond.code yX0_meet cX0_meet 2 (some .boolean), Cond.methodLink RL 53 yX4_found, Cond.instanceMethod yX4_found]
def wsL_isDone_r14 : List Cond := [Cond.selects RX4 yX4_found yX4_found, Cond.code yX4_found cX4_found 9 (some .int), Cond.methodLink RL 57 yX4_visits, Cond.instanceMethod yX4_visits, Cond.selects RX4 yX4_visits yX4_visits, Cond.code yX4_visits cX4_visits 9 (some .int), Cond.methodLink RL 148 yL_isNear, Cond.static yL_isNear, Cond.code yL_isNear cL_isNear 10 (some .boolean), Cond.methodLink RL 90 yL_near, Cond.static yL_near, Cond.codeWith yL_near cL_near 6 (some .int) [(0, 23, 24, 14), (0, 23, 29, 22)], Cond.methodLink RL 60 yX4_distance, Cond.instanceMethod yX4_distance, Cond.selects RX4 yX4_distance yX4_distance, Cond.code yX4_distance cX4_distance 4 (some .int), Cond.methodLink RX4 78 yX4_checkPoint, Cond.static yX4_checkPoint, Cond.code yX4_checkPoint cX4_checkPoint 2 none, Cond.methodLink RX4 147 yX0_distanceFrom, Cond.static yX0_distanceFrom, Cond.code yX0_distanceFrom cX0_distanceFrom 5 (some .int), Cond.methodLink RX0 27 yX0_gap, Cond.static yX0_gap]
def wsL_isDone_r15 : List Cond := [Cond.code yX0_gap cX0_gap 3 (some .int), Cond.methodLink RL 63 yX4_nearest, Cond.instanceMethod yX4_nearest, Cond.selects RX4 yX4_nearest yX4_nearest, Cond.code yX4_nearest cX4_nearest 5 (some .int), Cond.methodLink RX4 141 yX4_rankByDistance, Cond.instanceMethod yX4_rankByDistance, Cond.selects RX4 yX4_rankByDistance yX4_rankByDistance, Cond.code yX4_rankByDistance cX4_rankByDistance 5 none, Cond.fieldLink RX4 9 "HilbertHutch" "ranks" "[I", Cond.methodLink RX4 144 yX4_ranksBefore, Cond.instanceMethod yX4_ranksBefore, Cond.selects RX4 yX4_ranksBefore yX4_ranksBefore, Cond.code yX4_ranksBefore cX4_ranksBefore 5 (some .int), Cond.methodLink RL 94 yL_far, Cond.static yL_far, Cond.code yL_far cL_far 6 (some .int), Cond.methodLink RL 152 yL_arePairs, Cond.static yL_arePairs, Cond.code yL_arePairs cL_arePairs 6 (some .boolean), Cond.methodLink RL 110 yL_pair, Cond.static yL_pair, Cond.codeWith yL_pair cL_pair 3 (some .int) [(0, 5, 6, 22)], Cond.methodLink RL 66 yX4_pair]
def wsL_isDone_r16 : List Cond := [Cond.instanceMethod yX4_pair, Cond.selects RX4 yX4_pair yX4_pair, Cond.code yX4_pair cX4_pair 5 (some .int), Cond.methodLink RX4 151 yX2_added, Cond.instanceMethod yX2_added, Cond.selects RX2 yX2_added yX2_added, Cond.code yX2_added cX2_added 1 (some .int), Cond.methodLink RX4 154 yX2_haveMet, Cond.instanceMethod yX2_haveMet, Cond.selects RX2 yX2_haveMet yX2_haveMet, Cond.code yX2_haveMet cX2_haveMet 3 (some .boolean), Cond.methodLink RX2 43 yX0_meet, Cond.methodLink RL 113 yX4_pairs, Cond.instanceMethod yX4_pairs, Cond.selects RX4 yX4_pairs yX4_pairs, Cond.code yX4_pairs cX4_pairs 4 (some .int), Cond.methodLink RL 155 yL_areKeys, Cond.static yL_areKeys, Cond.code yL_areKeys cL_areKeys 10 (some .boolean), Cond.constant RL 123 (65536), Cond.methodLink RL 24 yX4_key, Cond.instanceMethod yX4_key, Cond.selects RX4 yX4_key yX4_key, Cond.code yX4_key cX4_key 3 (some .int)]
def wsL_isDone_r17 : List Cond := [Cond.methodLink RX4 82 yX1_lengthTo, Cond.methodLink RL 124 yL_key, Cond.static yL_key, Cond.codeWith yL_key cL_key 4 (some .int) [(0, 6, 7, 14)]]
def wsL_isDone : List Cond := .code yL_isDone cL_isDone 12 (some .boolean) :: ((wsL_isDone_r1 ++ (wsL_isDone_r2 ++ (wsL_isDone_r3 ++ (wsL_isDone_r4 ++ (wsL_isDone_r5 ++ (wsL_isDone_r6 ++ (wsL_isDone_r7 ++ (wsL_isDone_r8 ++ (wsL_isDone_r9 ++ (wsL_isDone_r10 ++ (wsL_isDone_r11 ++ (wsL_isDone_r12 ++ (wsL_isDone_r13 ++ (wsL_isDone_r14 ++ (wsL_isDone_r15 ++ (wsL_isDone_r16 ++ wsL_isDone_r17)))))))))))))))) ++ wsX40 ++ wsX20 ++ wsX30 ++ (vx_atS RX4 39 "java/lang/IllegalStateException" ["java/lang/RuntimeException", "java/lang/Exception"]).filter goodWord ++ (vx_atS RX4 164 "java/lang/IllegalArgumentException" ["java/lang/RuntimeException", "java/lang/Exception"]).filter goodWord ++ (vx_atS RX4 111 "java/lang/IndexOutOfBoundsException" ["java/lang/RuntimeException", "java/lang/Exception"]).filter goodWord)
def wsL_law0_r1 : List Cond := [Cond.classLink RL 9 RX4, Cond.instantiable RX4 3, Cond.initialized RX4, Cond.arrayClass .int, Cond.methodLink RL 159 yX4_init, Cond.instanceMethod yX4_init, Cond.code yX4_init cX4_init 1 none, Cond.methodLink RX4 1 objectInit, Cond.instanceMethod objectInit, Cond.code objectInit ⟨#[0xb1]⟩ 1 none, Cond.fieldLink RX4 9 "HilbertHutch" "ranks" "[I", Cond.classLink RX4 13 RX2, Cond.instantiable RX2 6, Cond.initialized RX2, Cond.fieldLink RX4 16 "HilbertHutch" "stock" "LHilbertHutch$Stock;", Cond.classLink RX4 20 RX3, Cond.instantiable RX3 3, Cond.initialized RX3, Cond.fieldLink RX4 23 "HilbertHutch" "tree" "LHilbertHutch$Tree;", Cond.instanceMethod yX2_init, Cond.code yX2_init cX2_init 1 none, Cond.methodLink RX2 3 objectInit, Cond.fieldLink RX2 9 "HilbertHutch$Stock" "areas" "[I", Cond.fieldLink RX2 15 "HilbertHutch$Stock" "keys" "[I"]
def wsL_law0_r2 : List Cond := [Cond.arrayClass .boolean, Cond.fieldLink RX2 18 "HilbertHutch$Stock" "there" "[Z", Cond.fieldLink RX2 22 "HilbertHutch$Stock" "order" "[I", Cond.instanceMethod yX3_init, Cond.code yX3_init cX3_init 1 none, Cond.methodLink RX3 3 objectInit, Cond.fieldLink RX3 11 "HilbertHutch$Tree" "loads" "[I", Cond.fieldLink RX3 15 "HilbertHutch$Tree" "widths" "[I", Cond.methodLink RL 160 yL_areAll, Cond.static yL_areAll, Cond.initialized RL, Cond.code yL_areAll cL_areAll 2 (some .boolean), Cond.methodLink RL 116 yL_isOrder, Cond.static yL_isOrder, Cond.code yL_isOrder cL_isOrder 7 (some .boolean), Cond.methodLink RL 74 yX4_boxes, Cond.instanceMethod yX4_boxes, Cond.selects RX4 yX4_boxes yX4_boxes, Cond.code yX4_boxes cX4_boxes 1 (some .int), Cond.methodLink RX4 68 yX2_size, Cond.instanceMethod yX2_size, Cond.selects RX2 yX2_size yX2_size, Cond.code yX2_size cX2_size 1 (some .int), Cond.fieldLink RX2 25 "HilbertHutch$Stock" "size" "I"]
def wsL_law0_r3 : List Cond := [Cond.methodLink RL 78 yL_tree, Cond.static yL_tree, Cond.codeWith yL_tree cL_tree 6 (some .int) [(0, 73, 74, 14), (0, 73, 79, 22)], Cond.classLink RL 14 "java/lang/IllegalArgumentException", Cond.classLink RL 22 "java/lang/IndexOutOfBoundsException", Cond.methodLink RL 31 yX4_nodes, Cond.instanceMethod yX4_nodes, Cond.selects RX4 yX4_nodes yX4_nodes, Cond.code yX4_nodes cX4_nodes 2 (some .int), Cond.classLink RX4 107 "java/lang/IndexOutOfBoundsException", Cond.initialized "java/lang/IndexOutOfBoundsException", Cond.methodLink RX4 103 yX3_hasLevel, Cond.instanceMethod yX3_hasLevel, Cond.selects RX3 yX3_hasLevel yX3_hasLevel, Cond.code yX3_hasLevel cX3_hasLevel 2 (some .boolean), Cond.fieldLink RX3 18 "HilbertHutch$Tree" "height" "I", Cond.methodLink RX4 75 yX3_width, Cond.instanceMethod yX3_width, Cond.selects RX3 yX3_width yX3_width, Cond.code yX3_width cX3_width 2 (some .int), Cond.methodLink RL 34 yX4_entries, Cond.instanceMethod yX4_entries, Cond.selects RX4 yX4_entries yX4_entries, Cond.code yX4_entries cX4_entries 3 (some .int)]
def wsL_law0_r4 : List Cond := [Cond.methodLink RX4 112 yX4_checkNode, Cond.instanceMethod yX4_checkNode, Cond.selects RX4 yX4_checkNode yX4_checkNode, Cond.code yX4_checkNode cX4_checkNode 3 none, Cond.methodLink RX4 174 yX3_hasNode, Cond.instanceMethod yX3_hasNode, Cond.selects RX3 yX3_hasNode yX3_hasNode, Cond.code yX3_hasNode cX3_hasNode 3 (some .boolean), Cond.methodLink RX4 115 yX3_load, Cond.instanceMethod yX3_load, Cond.selects RX3 yX3_load yX3_load, Cond.code yX3_load cX3_load 4 (some .int), Cond.methodLink RX3 22 yX3_hasNode, Cond.methodLink RL 37 yX4_cover, Cond.instanceMethod yX4_cover, Cond.selects RX4 yX4_cover yX4_cover, Cond.code yX4_cover cX4_cover 4 (some .int), Cond.methodLink RX4 91 yX4_checkSide, Cond.static yX4_checkSide, Cond.code yX4_checkSide cX4_checkSide 1 none, Cond.classLink RX4 160 "java/lang/IllegalArgumentException", Cond.initialized "java/lang/IllegalArgumentException", Cond.methodLink RX4 118 yX4_coverOf, Cond.instanceMethod yX4_coverOf]
def wsL_law0_r5 : List Cond := [Cond.selects RX4 yX4_coverOf yX4_coverOf, Cond.code yX4_coverOf cX4_coverOf 7 (some .int), Cond.methodLink RX4 179 yX3_boxesBefore, Cond.instanceMethod yX3_boxesBefore, Cond.selects RX3 yX3_boxesBefore yX3_boxesBefore, Cond.code yX3_boxesBefore cX3_boxesBefore 5 (some .int), Cond.methodLink RX3 34 yX3_entriesBefore, Cond.instanceMethod yX3_entriesBefore, Cond.selects RX3 yX3_entriesBefore yX3_entriesBefore, Cond.code yX3_entriesBefore cX3_entriesBefore 5 (some .int), Cond.methodLink RX3 26 yX3_width, Cond.methodLink RX3 30 yX3_load, Cond.methodLink RX4 134 yX2_areaAt, Cond.instanceMethod yX2_areaAt, Cond.selects RX2 yX2_areaAt yX2_areaAt, Cond.code yX2_areaAt cX2_areaAt 2 (some .int), Cond.methodLink RX2 32 yX2_numberAt, Cond.instanceMethod yX2_numberAt, Cond.selects RX2 yX2_numberAt yX2_numberAt, Cond.code yX2_numberAt cX2_numberAt 2 (some .int), Cond.methodLink RX2 36 yX2_areaOf, Cond.instanceMethod yX2_areaOf, Cond.selects RX2 yX2_areaOf yX2_areaOf, Cond.code yX2_areaOf cX2_areaOf 2 (some .int)]
def wsL_law0_r6 : List Cond := [Cond.methodLink RX4 182 yX0_around, Cond.static yX0_around, Cond.initialized RX0, Cond.code yX0_around cX0_around 2 (some .int), Cond.methodLink RX0 15 Lib.Math.min.name, Cond.static Lib.Math.min.name, Cond.initialized "java/lang/Math", Cond.code Lib.Math.min.name Lib.Math.min.code 2 (some .int), Cond.methodLink RX0 20 Lib.Math.max.name, Cond.static Lib.Math.max.name, Cond.code Lib.Math.max.name Lib.Math.max.code 2 (some .int), Cond.methodLink RX0 9 yX0_side, Cond.static yX0_side, Cond.code yX0_side cX0_side 2 (some .int), Cond.methodLink RX0 23 yX0_of, Cond.static yX0_of, Cond.code yX0_of cX0_of 4 (some .int), Cond.methodLink RX4 97 yX0_side, Cond.methodLink RL 41 yX4_leafOf, Cond.instanceMethod yX4_leafOf, Cond.selects RX4 yX4_leafOf yX4_leafOf, Cond.code yX4_leafOf cX4_leafOf 2 (some .int), Cond.methodLink RX4 59 yX4_checkBox, Cond.instanceMethod yX4_checkBox]
def wsL_law0_r7 : List Cond := [Cond.selects RX4 yX4_checkBox yX4_checkBox, Cond.code yX4_checkBox cX4_checkBox 2 none, Cond.methodLink RX4 169 yX2_has, Cond.instanceMethod yX2_has, Cond.selects RX2 yX2_has yX2_has, Cond.code yX2_has cX2_has 2 (some .boolean), Cond.methodLink RX4 52 yX2_placeOf, Cond.instanceMethod yX2_placeOf, Cond.selects RX2 yX2_placeOf yX2_placeOf, Cond.code yX2_placeOf cX2_placeOf 3 (some .int), Cond.methodLink RX4 121 yX3_holder, Cond.instanceMethod yX3_holder, Cond.selects RX3 yX3_holder yX3_holder, Cond.code yX3_holder cX3_holder 5 (some .int), Cond.methodLink RL 44 yX4_boxAt, Cond.instanceMethod yX4_boxAt, Cond.selects RX4 yX4_boxAt yX4_boxAt, Cond.code yX4_boxAt cX4_boxAt 2 (some .int), Cond.methodLink RX4 126 yX2_numberAt, Cond.methodLink RL 47 yX4_keyOf, Cond.instanceMethod yX4_keyOf, Cond.selects RX4 yX4_keyOf yX4_keyOf, Cond.code yX4_keyOf cX4_keyOf 2 (some .int), Cond.methodLink RX4 88 yX2_keyFor]
def wsL_law0_r8 : List Cond := [Cond.instanceMethod yX2_keyFor, Cond.selects RX2 yX2_keyFor yX2_keyFor, Cond.code yX2_keyFor cX2_keyFor 2 (some .int), Cond.methodLink RL 28 yX4_sideOf, Cond.instanceMethod yX4_sideOf, Cond.selects RX4 yX4_sideOf yX4_sideOf, Cond.code yX4_sideOf cX4_sideOf 3 (some .int), Cond.methodLink RX4 94 yX2_areaOf, Cond.methodLink RL 24 yX4_key, Cond.instanceMethod yX4_key, Cond.selects RX4 yX4_key yX4_key, Cond.code yX4_key cX4_key 3 (some .int), Cond.methodLink RX4 78 yX4_checkPoint, Cond.static yX4_checkPoint, Cond.code yX4_checkPoint cX4_checkPoint 2 none, Cond.methodLink RX4 157 yX4_isCoordinate, Cond.static yX4_isCoordinate, Cond.code yX4_isCoordinate cX4_isCoordinate 1 (some .boolean), Cond.methodLink RX4 82 yX1_lengthTo, Cond.static yX1_lengthTo, Cond.initialized RX1, Cond.code yX1_lengthTo cX1_lengthTo 9 (some .int), Cond.methodLink RX1 9 yX1_quarter, Cond.static yX1_quarter]
def wsL_law0_r9 : List Cond := [Cond.code yX1_quarter cX1_quarter 2 (some .int), Cond.methodLink RL 120 yL_isTree, Cond.static yL_isTree, Cond.code yL_isTree cL_isTree 14 (some .boolean), Cond.constantFloat RL 73 (3212836864), Cond.methodLink RL 84 yX4_levels, Cond.instanceMethod yX4_levels, Cond.selects RX4 yX4_levels yX4_levels, Cond.code yX4_levels cX4_levels 1 (some .int), Cond.methodLink RX4 100 yX3_height, Cond.instanceMethod yX3_height, Cond.selects RX3 yX3_height yX3_height, Cond.code yX3_height cX3_height 1 (some .int), Cond.methodLink RL 87 yL_tightness, Cond.static yL_tightness, Cond.codeWith yL_tightness cL_tightness 2 (some .float) [(0, 4, 5, 16)], Cond.classLink RL 16 "java/lang/IllegalStateException", Cond.methodLink RL 69 yX4_tightness, Cond.instanceMethod yX4_tightness, Cond.selects RX4 yX4_tightness yX4_tightness, Cond.code yX4_tightness cX4_tightness 4 (some .float), Cond.classLink RX4 35 "java/lang/IllegalStateException", Cond.initialized "java/lang/IllegalStateException", Cond.methodLink RX4 129 yX0_points]
def wsL_law0_r10 : List Cond := [Cond.static yX0_points, Cond.code yX0_points cX0_points 1 (some .int), Cond.methodLink RL 152 yL_arePairs, Cond.static yL_arePairs, Cond.code yL_arePairs cL_arePairs 6 (some .boolean), Cond.methodLink RL 106 yL_side, Cond.static yL_side, Cond.codeWith yL_side cL_side 4 (some .int) [(0, 6, 7, 14), (0, 6, 11, 22)], Cond.methodLink RL 98 yL_doMeet, Cond.static yL_doMeet, Cond.code yL_doMeet cL_doMeet 6 (some .boolean), Cond.methodLink RL 110 yL_pair, Cond.static yL_pair, Cond.codeWith yL_pair cL_pair 3 (some .int) [(0, 5, 6, 22)], Cond.methodLink RL 66 yX4_pair, Cond.instanceMethod yX4_pair, Cond.selects RX4 yX4_pair yX4_pair, Cond.code yX4_pair cX4_pair 5 (some .int), Cond.methodLink RX4 151 yX2_added, Cond.instanceMethod yX2_added, Cond.selects RX2 yX2_added yX2_added, Cond.code yX2_added cX2_added 1 (some .int), Cond.fieldLink RX2 29 "HilbertHutch$Stock" "added" "I", Cond.methodLink RX4 154 yX2_haveMet]
def wsL_law0_r11 : List Cond := [Cond.instanceMethod yX2_haveMet, Cond.selects RX2 yX2_haveMet yX2_haveMet, Cond.code yX2_haveMet cX2_haveMet 3 (some .boolean), Cond.methodLink RX2 39 yX2_has, Cond.methodLink RX2 43 yX0_meet, Cond.static yX0_meet, Cond.code yX0_meet cX0_meet 2 (some .boolean), Cond.methodLink RL 113 yX4_pairs, Cond.instanceMethod yX4_pairs, Cond.selects RX4 yX4_pairs yX4_pairs, Cond.code yX4_pairs cX4_pairs 4 (some .int), Cond.methodLink RL 163 yL_isDone, Cond.static yL_isDone, Cond.code yL_isDone cL_isDone 12 (some .boolean), Cond.constant RL 133 (60000), Cond.methodLink RL 129 yL_part, Cond.static yL_part, Cond.code yL_part cL_part 4 (some .int), Cond.constant RL 7 (2147483647), Cond.methodLink RL 134 yL_isAdded, Cond.static yL_isAdded, Cond.code yL_isAdded cL_isAdded 11 (some .boolean), Cond.methodLink RL 126 yL_adds, Cond.static yL_adds]
def wsL_law0_r12 : List Cond := [Cond.codeWith yL_adds cL_adds 6 (some .int) [(0, 9, 10, 14), (0, 9, 15, 16)], Cond.methodLink RL 8 yX4_add, Cond.instanceMethod yX4_add, Cond.selects RX4 yX4_add yX4_add, Cond.code yX4_add cX4_add 6 (some .int), Cond.methodLink RX4 27 yX4_checkSides, Cond.static yX4_checkSides, Cond.code yX4_checkSides cX4_checkSides 4 none, Cond.methodLink RX4 31 yX2_hasRoom, Cond.instanceMethod yX2_hasRoom, Cond.selects RX2 yX2_hasRoom yX2_hasRoom, Cond.code yX2_hasRoom cX2_hasRoom 1 (some .boolean), Cond.methodLink RX4 42 yX0_of, Cond.methodLink RX4 48 yX2_putIn, Cond.instanceMethod yX2_putIn, Cond.selects RX2 yX2_putIn yX2_putIn, Cond.code yX2_putIn cX2_putIn 3 (some .int), Cond.methodLink RX2 49 yX0_middleKey, Cond.static yX0_middleKey, Cond.code yX0_middleKey cX0_middleKey 3 (some .int), Cond.methodLink RX0 31 yX1_lengthTo, Cond.methodLink RX2 52 yX2_putInOrder, Cond.instanceMethod yX2_putInOrder, Cond.selects RX2 yX2_putInOrder yX2_putInOrder]
def wsL_law0_r13 : List Cond := [Cond.code yX2_putInOrder cX2_putInOrder 4 none, Cond.methodLink RX2 56 yX2_keyFor, Cond.methodLink RX2 59 yX2_setOrder, Cond.instanceMethod yX2_setOrder, Cond.selects RX2 yX2_setOrder yX2_setOrder, Cond.code yX2_setOrder cX2_setOrder 3 none, Cond.methodLink RX4 55 yX3_grow, Cond.instanceMethod yX3_grow, Cond.selects RX3 yX3_grow yX3_grow, Cond.code yX3_grow cX3_grow 5 none, Cond.methodLink RX3 44 yX3_addRoot, Cond.instanceMethod yX3_addRoot, Cond.selects RX3 yX3_addRoot yX3_addRoot, Cond.code yX3_addRoot cX3_addRoot 2 none, Cond.methodLink RX3 63 yX3_setWidth, Cond.instanceMethod yX3_setWidth, Cond.selects RX3 yX3_setWidth yX3_setWidth, Cond.code yX3_setWidth cX3_setWidth 3 none, Cond.methodLink RX3 48 yX3_setLoad, Cond.instanceMethod yX3_setLoad, Cond.selects RX3 yX3_setLoad yX3_setLoad, Cond.code yX3_setLoad cX3_setLoad 5 none, Cond.methodLink RX3 41 yX3_holder, Cond.methodLink RX3 52 yX3_parent]
def wsL_law0_r14 : List Cond := [Cond.instanceMethod yX3_parent, Cond.selects RX3 yX3_parent yX3_parent, Cond.code yX3_parent cX3_parent 3 (some .int), Cond.methodLink RX3 37 yX3_hasLevel, Cond.methodLink RX3 55 yX3_relieve, Cond.instanceMethod yX3_relieve, Cond.selects RX3 yX3_relieve yX3_relieve, Cond.code yX3_relieve cX3_relieve 6 (some .boolean), Cond.methodLink RX3 73 Lib.Math.min.name, Cond.methodLink RX3 66 yX3_partner, Cond.instanceMethod yX3_partner, Cond.selects RX3 yX3_partner yX3_partner, Cond.code yX3_partner cX3_partner 6 (some .int), Cond.methodLink RX3 70 yX3_insertNode, Cond.instanceMethod yX3_insertNode, Cond.selects RX3 yX3_insertNode yX3_insertNode, Cond.code yX3_insertNode cX3_insertNode 6 none, Cond.methodLink RX3 78 yX3_halve, Cond.instanceMethod yX3_halve, Cond.selects RX3 yX3_halve yX3_halve, Cond.code yX3_halve cX3_halve 4 none, Cond.methodLink RX3 59 yX3_gainEntry, Cond.instanceMethod yX3_gainEntry, Cond.selects RX3 yX3_gainEntry yX3_gainEntry]
def wsL_law0_r15 : List Cond := [Cond.code yX3_gainEntry cX3_gainEntry 3 none, Cond.methodLink RL 138 yL_removes, Cond.static yL_removes, Cond.codeWith yL_removes cL_removes 3 (some .int) [(0, 5, 6, 22)], Cond.methodLink RL 18 yX4_remove, Cond.instanceMethod yX4_remove, Cond.selects RX4 yX4_remove yX4_remove, Cond.code yX4_remove cX4_remove 2 (some .int), Cond.methodLink RX4 62 yX3_shrink, Cond.instanceMethod yX3_shrink, Cond.selects RX3 yX3_shrink yX3_shrink, Cond.code yX3_shrink cX3_shrink 6 none, Cond.methodLink RX3 81 yX3_unite, Cond.instanceMethod yX3_unite, Cond.selects RX3 yX3_unite yX3_unite, Cond.code yX3_unite cX3_unite 7 (some .boolean), Cond.methodLink RX3 87 yX3_deleteNode, Cond.instanceMethod yX3_deleteNode, Cond.selects RX3 yX3_deleteNode yX3_deleteNode, Cond.code yX3_deleteNode cX3_deleteNode 5 none, Cond.methodLink RX3 90 Lib.Math.max.name, Cond.methodLink RX3 84 yX3_lowerRoot, Cond.instanceMethod yX3_lowerRoot, Cond.selects RX3 yX3_lowerRoot yX3_lowerRoot]
def wsL_law0_r16 : List Cond := [Cond.code yX3_lowerRoot cX3_lowerRoot 2 none, Cond.methodLink RX4 65 yX2_takeOut, Cond.instanceMethod yX2_takeOut, Cond.selects RX2 yX2_takeOut yX2_takeOut, Cond.code yX2_takeOut cX2_takeOut 4 none, Cond.methodLink RX2 63 yX2_placeOf, Cond.methodLink RL 141 yX4_pack, Cond.instanceMethod yX4_pack, Cond.selects RX4 yX4_pack yX4_pack, Cond.code yX4_pack cX4_pack 1 (some .int), Cond.methodLink RX4 72 yX3_planAnew, Cond.instanceMethod yX3_planAnew, Cond.selects RX3 yX3_planAnew yX3_planAnew, Cond.code yX3_planAnew cX3_planAnew 6 none, Cond.methodLink RL 144 yL_areMet, Cond.static yL_areMet, Cond.code yL_areMet cL_areMet 11 (some .boolean), Cond.methodLink RL 102 yL_meets, Cond.static yL_meets, Cond.codeWith yL_meets cL_meets 8 (some .int) [(0, 47, 48, 14), (0, 47, 53, 22)], Cond.methodLink RL 50 yX4_count, Cond.instanceMethod yX4_count, Cond.selects RX4 yX4_count yX4_count, Cond.code yX4_count cX4_count 8 (some .int)]
def wsL_law0_r17 : List Cond := [Cond.methodLink RX4 137 yX0_meet, Cond.methodLink RL 53 yX4_found, Cond.instanceMethod yX4_found, Cond.selects RX4 yX4_found yX4_found, Cond.code yX4_found cX4_found 9 (some .int), Cond.methodLink RL 57 yX4_visits, Cond.instanceMethod yX4_visits, Cond.selects RX4 yX4_visits yX4_visits, Cond.code yX4_visits cX4_visits 9 (some .int), Cond.methodLink RL 148 yL_isNear, Cond.static yL_isNear, Cond.code yL_isNear cL_isNear 10 (some .boolean), Cond.methodLink RL 90 yL_near, Cond.static yL_near, Cond.codeWith yL_near cL_near 6 (some .int) [(0, 23, 24, 14), (0, 23, 29, 22)], Cond.methodLink RL 60 yX4_distance, Cond.instanceMethod yX4_distance, Cond.selects RX4 yX4_distance yX4_distance, Cond.code yX4_distance cX4_distance 4 (some .int), Cond.methodLink RX4 147 yX0_distanceFrom, Cond.static yX0_distanceFrom, Cond.code yX0_distanceFrom cX0_distanceFrom 5 (some .int), Cond.methodLink RX0 27 yX0_gap, Cond.static yX0_gap]
def wsL_law0_r18 : List Cond := [Cond.code yX0_gap cX0_gap 3 (some .int), Cond.methodLink RL 63 yX4_nearest, Cond.instanceMethod yX4_nearest, Cond.selects RX4 yX4_nearest yX4_nearest, Cond.code yX4_nearest cX4_nearest 5 (some .int), Cond.methodLink RX4 141 yX4_rankByDistance, Cond.instanceMethod yX4_rankByDistance, Cond.selects RX4 yX4_rankByDistance yX4_rankByDistance, Cond.code yX4_rankByDistance cX4_rankByDistance 5 none, Cond.methodLink RX4 144 yX4_ranksBefore, Cond.instanceMethod yX4_ranksBefore, Cond.selects RX4 yX4_ranksBefore yX4_ranksBefore, Cond.code yX4_ranksBefore cX4_ranksBefore 5 (some .int), Cond.methodLink RL 94 yL_far, Cond.static yL_far, Cond.code yL_far cL_far 6 (some .int), Cond.methodLink RL 155 yL_areKeys, Cond.static yL_areKeys, Cond.code yL_areKeys cL_areKeys 10 (some .boolean), Cond.constant RL 123 (65536), Cond.methodLink RL 124 yL_key, Cond.static yL_key, Cond.codeWith yL_key cL_key 4 (some .int) [(0, 6, 7, 14)]]
def wsL_law0 : List Cond := (wsL_law0_r1 ++ (wsL_law0_r2 ++ (wsL_law0_r3 ++ (wsL_law0_r4 ++ (wsL_law0_r5 ++ (wsL_law0_r6 ++ (wsL_law0_r7 ++ (wsL_law0_r8 ++ (wsL_law0_r9 ++ (wsL_law0_r10 ++ (wsL_law0_r11 ++ (wsL_law0_r12 ++ (wsL_law0_r13 ++ (wsL_law0_r14 ++ (wsL_law0_r15 ++ (wsL_law0_r16 ++ (wsL_law0_r17 ++ wsL_law0_r18))))))))))))))))) ++ wsX40 ++ wsX20 ++ wsX30 ++ ([] : List Cond)
def wsL_law : List Cond := wsL_law0 ++ (vx_atS RX4 111 "java/lang/IndexOutOfBoundsException" ["java/lang/RuntimeException", "java/lang/Exception"]).filter goodWord ++ (vx_atS RX4 164 "java/lang/IllegalArgumentException" ["java/lang/RuntimeException", "java/lang/Exception"]).filter goodWord ++ (vx_atS RX4 39 "java/lang/IllegalStateException" ["java/lang/RuntimeException", "java/lang/Exception"]).filter goodWord
theorem wsL_law_k1 : ∀ w ∈ wsL_law0_r1, w ∈ lw_tbl := fun w h => (goodIn_p wsL_law0_r1 [38, 41, 46] (by decide +kernel) (by decide +kernel) w h).1
theorem wsL_law_k2 : ∀ w ∈ wsL_law0_r2, w ∈ lw_tbl := fun w h => (goodIn_p wsL_law0_r2 [73, 413, 416, 420, 364] (by decide +kernel) (by decide +kernel) w h).1
theorem wsL_law_k3 : ∀ w ∈ wsL_law0_r3, w ∈ lw_tbl := fun w h => (goodIn_p wsL_law0_r3 [427, 276, 264, 434] (by decide +kernel) (by decide +kernel) w h).1
theorem wsL_law_k4 : ∀ w ∈ wsL_law0_r4, w ∈ lw_tbl := fun w h => (goodIn_p wsL_law0_r4 [438, 256, 268, 445, 374] (by decide +kernel) (by decide +kernel) w h).1
theorem wsL_law_k5 : ∀ w ∈ wsL_law0_r5, w ∈ lw_tbl := fun w h => (goodIn_p wsL_law0_r5 [449, 453, 288, 457, 224, 379] (by decide +kernel) (by decide +kernel) w h).1
theorem wsL_law_k6 : ∀ w ∈ wsL_law0_r6, w ∈ lw_tbl := fun w h => (goodIn_p wsL_law0_r6 [460, 295, 350, 210, 200, 467] (by decide +kernel) (by decide +kernel) w h).1
theorem wsL_law_k7 : ∀ w ∈ wsL_law0_r7, w ∈ lw_tbl := fun w h => (goodIn_p wsL_law0_r7 [315, 319, 236, 260, 472, 477] (by decide +kernel) (by decide +kernel) w h).1
theorem wsL_law_k8 : ∀ w ∈ wsL_law0_r8, w ∈ lw_tbl := fun w h => (goodIn_p wsL_law0_r8 [228, 371, 482, 485, 109, 213] (by decide +kernel) (by decide +kernel) w h).1
theorem wsL_law_k9 : ∀ w ∈ wsL_law0_r9, w ∈ lw_tbl := fun w h => (goodIn_p wsL_law0_r9 [216, 490, 494, 498, 505] (by decide +kernel) (by decide +kernel) w h).1
theorem wsL_law_k10 : ∀ w ∈ wsL_law0_r10, w ∈ lw_tbl := fun w h => (goodIn_p wsL_law0_r10 [508, 383, 386, 393, 397] (by decide +kernel) (by decide +kernel) w h).1
theorem wsL_law_k11 : ∀ w ∈ wsL_law0_r11, w ∈ lw_tbl := fun w h => (goodIn_p wsL_law0_r11 [401, 405, 410, 513, 516, 521] (by decide +kernel) (by decide +kernel) w h).1
theorem wsL_law_k12 : ∀ w ∈ wsL_law0_r12, w ∈ lw_tbl := fun w h => (goodIn_p wsL_law0_r12 [103, 106, 181, 204, 207] (by decide +kernel) (by decide +kernel) w h).1
theorem wsL_law_k13 : ∀ w ∈ wsL_law0_r13, w ∈ lw_tbl := fun w h => (goodIn_p wsL_law0_r13 [220, 232, 240, 244, 248, 252] (by decide +kernel) (by decide +kernel) w h).1
theorem wsL_law_k14 : ∀ w ∈ wsL_law0_r14, w ∈ lw_tbl := fun w h => (goodIn_p wsL_law0_r14 [272, 280, 284, 292, 299] (by decide +kernel) (by decide +kernel) w h).1
theorem wsL_law_k15 : ∀ w ∈ wsL_law0_r15, w ∈ lw_tbl := fun w h => (goodIn_p wsL_law0_r15 [303, 311, 339, 343, 347] (by decide +kernel) (by decide +kernel) w h).1
theorem wsL_law_k16 : ∀ w ∈ wsL_law0_r16, w ∈ lw_tbl := fun w h => (goodIn_p wsL_law0_r16 [354, 358, 525, 529, 532, 539] (by decide +kernel) (by decide +kernel) w h).1
theorem wsL_law_k17 : ∀ w ∈ wsL_law0_r17, w ∈ lw_tbl := fun w h => (goodIn_p wsL_law0_r17 [544, 548, 551, 558, 561] (by decide +kernel) (by decide +kernel) w h).1
theorem wsL_law_k18 : ∀ w ∈ wsL_law0_r18, w ∈ lw_tbl := fun w h => (goodIn_p wsL_law0_r18 [564, 568, 572, 576, 579, 582] (by decide +kernel) (by decide +kernel) w h).1
theorem wsL_law_twsX40 : ∀ w ∈ wsX40, w ∈ lw_tbl := by decide +kernel
theorem wsL_law_twsX20 : ∀ w ∈ wsX20, w ∈ lw_tbl := by decide +kernel
theorem wsL_law_twsX30 : ∀ w ∈ wsX30, w ∈ lw_tbl := by decide +kernel
theorem wsL_app {a b : List Cond} (ha : ∀ w ∈ a, w ∈ lw_tbl) (hb : ∀ w ∈ b, w ∈ lw_tbl) : ∀ w ∈ a ++ b, w ∈ lw_tbl := fun w h => (List.mem_append.mp h).elim (ha w) (hb w)
theorem wsL_law_in0 : ∀ w ∈ wsL_law0, w ∈ lw_tbl := (wsL_app (wsL_app (wsL_app (wsL_app (wsL_app wsL_law_k1 (wsL_app wsL_law_k2 (wsL_app wsL_law_k3 (wsL_app wsL_law_k4 (wsL_app wsL_law_k5 (wsL_app wsL_law_k6 (wsL_app wsL_law_k7 (wsL_app wsL_law_k8 (wsL_app wsL_law_k9 (wsL_app wsL_law_k10 (wsL_app wsL_law_k11 (wsL_app wsL_law_k12 (wsL_app wsL_law_k13 (wsL_app wsL_law_k14 (wsL_app wsL_law_k15 (wsL_app wsL_law_k16 (wsL_app wsL_law_k17 wsL_law_k18))))))))))))))))) wsL_law_twsX40) wsL_law_twsX20) wsL_law_twsX30) (fun w h => absurd h List.not_mem_nil))
theorem wsL_law_x0 : ∀ w ∈ (vx_atS RX4 111 "java/lang/IndexOutOfBoundsException" ["java/lang/RuntimeException", "java/lang/Exception"]).filter goodWord, w ∈ lw_tbl := by decide +kernel
theorem wsL_law_x1 : ∀ w ∈ (vx_atS RX4 164 "java/lang/IllegalArgumentException" ["java/lang/RuntimeException", "java/lang/Exception"]).filter goodWord, w ∈ lw_tbl := by decide +kernel
theorem wsL_law_x2 : ∀ w ∈ (vx_atS RX4 39 "java/lang/IllegalStateException" ["java/lang/RuntimeException", "java/lang/Exception"]).filter goodWord, w ∈ lw_tbl := by decide +kernel
theorem wsL_law_in : ∀ w ∈ wsL_law, w ∈ lw_tbl := fun w h => (List.mem_append.mp h).elim (fun h => (List.mem_append.mp h).elim (fun h => (List.mem_append.mp h).elim (fun h => wsL_law_in0 w h) (fun h => wsL_law_x0 w h)) (fun h => wsL_law_x1 w h)) (fun h => wsL_law_x2 w h)
theorem inX0 : ∀ w ∈ wsX00, w ∈ lw_tbl := by decide +kernel
theorem inX1 : ∀ w ∈ wsX10, w ∈ lw_tbl := by decide +kernel
theorem inlX2 : ∀ w ∈ wsX20, w ∈ wsL_law := fun _ h => List.mem_append_left _ (List.mem_append_left _ (List.mem_append_left _ (List.mem_append_left _ (List.mem_append_left _ (List.mem_append_right _ h)))))
theorem inX2 : ∀ w ∈ wsX20, w ∈ lw_tbl := fun w h => wsL_law_in w (inlX2 w h)
theorem inlX3 : ∀ w ∈ wsX30, w ∈ wsL_law := fun _ h => List.mem_append_left _ (List.mem_append_left _ (List.mem_append_left _ (List.mem_append_left _ (List.mem_append_right _ h))))
theorem inX3 : ∀ w ∈ wsX30, w ∈ lw_tbl := fun w h => wsL_law_in w (inlX3 w h)
theorem inlX4 : ∀ w ∈ wsX40, w ∈ wsL_law := fun _ h => List.mem_append_left _ (List.mem_append_left _ (List.mem_append_left _ (List.mem_append_left _ (List.mem_append_left _ (List.mem_append_left _ (List.mem_append_right _ h))))))
theorem inX4 : ∀ w ∈ wsX40, w ∈ lw_tbl := fun w h => wsL_law_in w (inlX4 w h)
theorem inX5 : ∀ w ∈ wsX50, w ∈ lw_tbl := by decide +kernel
theorem inJ9 : ∀ w ∈ wsJ90, w ∈ lw_tbl := by decide +kernel
theorem inJ0 : ∀ w ∈ wsJ00, w ∈ lw_tbl := by decide +kernel
theorem dX2_init_0 : decode cX2_init 0 = .ok (.aload_n 0, 1) := by decide +kernel
theorem dX2_init_1 : decode cX2_init 1 = .ok (.invokespecial 3, 3) := by decide +kernel
theorem dX2_init_4 : decode cX2_init 4 = .ok (.aload_n 0, 1) := by decide +kernel
theorem dX2_init_5 : decode cX2_init 5 = .ok (.bipush 100, 2) := by decide +kernel
theorem dX2_init_7 : decode cX2_init 7 = .ok (.newarray .int, 2) := by decide +kernel
theorem dX2_init_9 : decode cX2_init 9 = .ok (.putfield 9, 3) := by decide +kernel
theorem dX2_init_12 : decode cX2_init 12 = .ok (.aload_n 0, 1) := by decide +kernel
theorem dX2_init_13 : decode cX2_init 13 = .ok (.bipush 100, 2) := by decide +kernel
theorem dX2_init_15 : decode cX2_init 15 = .ok (.newarray .int, 2) := by decide +kernel
theorem dX2_init_17 : decode cX2_init 17 = .ok (.putfield 15, 3) := by decide +kernel
theorem dX2_init_20 : decode cX2_init 20 = .ok (.aload_n 0, 1) := by decide +kernel
theorem dX2_init_21 : decode cX2_init 21 = .ok (.bipush 100, 2) := by decide +kernel
theorem dX2_init_23 : decode cX2_init 23 = .ok (.newarray .boolean, 2) := by decide +kernel
theorem dX2_init_25 : decode cX2_init 25 = .ok (.putfield 18, 3) := by decide +kernel
theorem dX2_init_28 : decode cX2_init 28 = .ok (.aload_n 0, 1) := by decide +kernel
theorem dX2_init_29 : decode cX2_init 29 = .ok (.bipush 60, 2) := by decide +kernel
theorem dX2_init_31 : decode cX2_init 31 = .ok (.newarray .int, 2) := by decide +kernel
theorem dX2_init_33 : decode cX2_init 33 = .ok (.putfield 22, 3) := by decide +kernel
theorem dX2_init_36 : decode cX2_init 36 = .ok (.return_, 1) := by decide +kernel
theorem dX2_size_0 : decode cX2_size 0 = .ok (.aload_n 0, 1) := by decide +kernel
theorem dX2_size_1 : decode cX2_size 1 = .ok (.getfield 25, 3) := by decide +kernel
theorem dX2_size_4 : decode cX2_size 4 = .ok (.ireturn, 1) := by decide +kernel
theorem dX2_added_0 : decode cX2_added 0 = .ok (.aload_n 0, 1) := by decide +kernel
theorem dX2_added_1 : decode cX2_added 1 = .ok (.getfield 29, 3) := by decide +kernel
theorem dX2_added_4 : decode cX2_added 4 = .ok (.ireturn, 1) := by decide +kernel
theorem dX3_init_0 : decode cX3_init 0 = .ok (.aload_n 0, 1) := by decide +kernel
theorem dX3_init_1 : decode cX3_init 1 = .ok (.invokespecial 3, 3) := by decide +kernel
theorem dX3_init_4 : decode cX3_init 4 = .ok (.aload_n 0, 1) := by decide +kernel
theorem dX3_init_5 : decode cX3_init 5 = .ok (.sipush 480, 3) := by decide +kernel
theorem dX3_init_8 : decode cX3_init 8 = .ok (.newarray .int, 2) := by decide +kernel
theorem dX3_init_10 : decode cX3_init 10 = .ok (.putfield 11, 3) := by decide +kernel
theorem dX3_init_13 : decode cX3_init 13 = .ok (.aload_n 0, 1) := by decide +kernel
theorem dX3_init_14 : decode cX3_init 14 = .ok (.bipush 8, 2) := by decide +kernel
theorem dX3_init_16 : decode cX3_init 16 = .ok (.newarray .int, 2) := by decide +kernel
theorem dX3_init_18 : decode cX3_init 18 = .ok (.putfield 15, 3) := by decide +kernel
theorem dX3_init_21 : decode cX3_init 21 = .ok (.return_, 1) := by decide +kernel
theorem dX3_height_0 : decode cX3_height 0 = .ok (.aload_n 0, 1) := by decide +kernel
theorem dX3_height_1 : decode cX3_height 1 = .ok (.getfield 18, 3) := by decide +kernel
theorem dX3_height_4 : decode cX3_height 4 = .ok (.ireturn, 1) := by decide +kernel
theorem dX3_hasLevel_0 : decode cX3_hasLevel 0 = .ok (.iload_n 1, 1) := by decide +kernel
theorem dX3_hasLevel_1 : decode cX3_hasLevel 1 = .ok (.ifCond .lt 15, 3) := by decide +kernel
theorem dX3_hasLevel_4 : decode cX3_hasLevel 4 = .ok (.iload_n 1, 1) := by decide +kernel
theorem dX3_hasLevel_5 : decode cX3_hasLevel 5 = .ok (.aload_n 0, 1) := by decide +kernel
theorem dX3_hasLevel_6 : decode cX3_hasLevel 6 = .ok (.getfield 18, 3) := by decide +kernel
theorem dX3_hasLevel_9 : decode cX3_hasLevel 9 = .ok (.if_icmp .ge 7, 3) := by decide +kernel
theorem dX3_hasLevel_12 : decode cX3_hasLevel 12 = .ok (.iconst 1, 1) := by decide +kernel
theorem dX3_hasLevel_13 : decode cX3_hasLevel 13 = .ok (.goto 4, 3) := by decide +kernel
theorem dX3_hasLevel_16 : decode cX3_hasLevel 16 = .ok (.iconst 0, 1) := by decide +kernel
theorem dX3_hasLevel_17 : decode cX3_hasLevel 17 = .ok (.ireturn, 1) := by decide +kernel
theorem dX3_width_0 : decode cX3_width 0 = .ok (.iload_n 1, 1) := by decide +kernel
theorem dX3_width_1 : decode cX3_width 1 = .ok (.ifCond .lt 29, 3) := by decide +kernel
theorem dX3_width_4 : decode cX3_width 4 = .ok (.iload_n 1, 1) := by decide +kernel
theorem dX3_width_5 : decode cX3_width 5 = .ok (.aload_n 0, 1) := by decide +kernel
theorem dX3_width_6 : decode cX3_width 6 = .ok (.getfield 18, 3) := by decide +kernel
theorem dX3_width_9 : decode cX3_width 9 = .ok (.if_icmp .ge 21, 3) := by decide +kernel
theorem dX3_width_12 : decode cX3_width 12 = .ok (.iload_n 1, 1) := by decide +kernel
theorem dX3_width_13 : decode cX3_width 13 = .ok (.aload_n 0, 1) := by decide +kernel
theorem dX3_width_14 : decode cX3_width 14 = .ok (.getfield 15, 3) := by decide +kernel
theorem dX3_width_17 : decode cX3_width 17 = .ok (.arraylength, 1) := by decide +kernel
theorem dX3_width_18 : decode cX3_width 18 = .ok (.if_icmp .ge 12, 3) := by decide +kernel
theorem dX3_width_21 : decode cX3_width 21 = .ok (.aload_n 0, 1) := by decide +kernel
theorem dX3_width_22 : decode cX3_width 22 = .ok (.getfield 15, 3) := by decide +kernel
theorem dX3_width_25 : decode cX3_width 25 = .ok (.iload_n 1, 1) := by decide +kernel
theorem dX3_width_26 : decode cX3_width 26 = .ok (.iaload, 1) := by decide +kernel
theorem dX3_width_27 : decode cX3_width 27 = .ok (.goto 4, 3) := by decide +kernel
theorem dX3_width_30 : decode cX3_width 30 = .ok (.iconst 0, 1) := by decide +kernel
theorem dX3_width_31 : decode cX3_width 31 = .ok (.ireturn, 1) := by decide +kernel
set_option maxRecDepth 20000 in
theorem ggX4_init_X2_init : GoodIn wsX4_init wsX2_init := goodIn_r _ [15, 16, 2, 3, 4, 17, 18, 19, 20, 21, 30, 31, 32, 33, 34, 35] (by decide +kernel) (by decide +kernel)
set_option maxRecDepth 20000 in
theorem ggX4_init_X3_init : GoodIn wsX4_init wsX3_init := goodIn_r _ [23, 24, 2, 3, 4, 25, 26, 36, 37, 38] (by decide +kernel) (by decide +kernel)
theorem dX4_init_0 : decode cX4_init 0 = .ok (.aload_n 0, 1) := by decide +kernel
theorem dX4_init_1 : decode cX4_init 1 = .ok (.invokespecial 1, 3) := by decide +kernel
theorem dX4_init_4 : decode cX4_init 4 = .ok (.aload_n 0, 1) := by decide +kernel
theorem dX4_init_5 : decode cX4_init 5 = .ok (.bipush 60, 2) := by decide +kernel
theorem dX4_init_7 : decode cX4_init 7 = .ok (.newarray .int, 2) := by decide +kernel
theorem dX4_init_9 : decode cX4_init 9 = .ok (.putfield 9, 3) := by decide +kernel
theorem dX4_init_12 : decode cX4_init 12 = .ok (.aload_n 0, 1) := by decide +kernel
theorem dX4_init_13 : decode cX4_init 13 = .ok (.new 13, 3) := by decide +kernel
theorem dX4_init_16 : decode cX4_init 16 = .ok (.dup, 1) := by decide +kernel
theorem dX4_init_17 : decode cX4_init 17 = .ok (.invokespecial 15, 3) := by decide +kernel
theorem dX4_init_20 : decode cX4_init 20 = .ok (.putfield 16, 3) := by decide +kernel
theorem dX4_init_23 : decode cX4_init 23 = .ok (.aload_n 0, 1) := by decide +kernel
theorem dX4_init_24 : decode cX4_init 24 = .ok (.new 20, 3) := by decide +kernel
theorem dX4_init_27 : decode cX4_init 27 = .ok (.dup, 1) := by decide +kernel
theorem dX4_init_28 : decode cX4_init 28 = .ok (.invokespecial 22, 3) := by decide +kernel
theorem dX4_init_31 : decode cX4_init 31 = .ok (.putfield 23, 3) := by decide +kernel
theorem dX4_init_34 : decode cX4_init 34 = .ok (.return_, 1) := by decide +kernel
set_option maxRecDepth 20000 in
theorem ggX4_boxes_X2_size : GoodIn wsX4_boxes wsX2_size := goodIn_r _ [6, 7, 11, 12, 13, 14, 15, 16] (by decide +kernel) (by decide +kernel)
set_option maxRecDepth 20000 in
theorem gX4_boxes_X2_size : GoodIn wsX4_boxes (wsV RX4 68 RX2 yX2_size wsX2_size) := goodIn_app (goodIn_of _ (by decide +kernel)) ggX4_boxes_X2_size
theorem dX4_boxes_0 : decode cX4_boxes 0 = .ok (.aload_n 0, 1) := by decide +kernel
theorem dX4_boxes_1 : decode cX4_boxes 1 = .ok (.getfield 16, 3) := by decide +kernel
theorem dX4_boxes_4 : decode cX4_boxes 4 = .ok (.invokevirtual 68, 3) := by decide +kernel
theorem dX4_boxes_7 : decode cX4_boxes 7 = .ok (.ireturn, 1) := by decide +kernel
set_option maxRecDepth 20000 in
theorem ggX4_levels_X3_height : GoodIn wsX4_levels wsX3_height := goodIn_r _ [6, 7, 11, 12, 13] (by decide +kernel) (by decide +kernel)
set_option maxRecDepth 20000 in
theorem gX4_levels_X3_height : GoodIn wsX4_levels (wsV RX4 100 RX3 yX3_height wsX3_height) := goodIn_app (goodIn_of _ (by decide +kernel)) ggX4_levels_X3_height
theorem dX4_levels_0 : decode cX4_levels 0 = .ok (.aload_n 0, 1) := by decide +kernel
theorem dX4_levels_1 : decode cX4_levels 1 = .ok (.getfield 23, 3) := by decide +kernel
theorem dX4_levels_4 : decode cX4_levels 4 = .ok (.invokevirtual 100, 3) := by decide +kernel
theorem dX4_levels_7 : decode cX4_levels 7 = .ok (.ireturn, 1) := by decide +kernel
set_option maxRecDepth 20000 in
theorem ggX4_nodes_X3_hasLevel : GoodIn wsX4_nodes wsX3_hasLevel := goodIn_r _ [8, 9, 18, 19, 20] (by decide +kernel) (by decide +kernel)
set_option maxRecDepth 20000 in
theorem gX4_nodes_X3_hasLevel : GoodIn wsX4_nodes (wsV RX4 103 RX3 yX3_hasLevel wsX3_hasLevel) := goodIn_app (goodIn_of _ (by decide +kernel)) ggX4_nodes_X3_hasLevel
set_option maxRecDepth 20000 in
theorem ggX4_nodes_X3_width : GoodIn wsX4_nodes wsX3_width := goodIn_r _ [13, 9, 14, 18, 19, 20] (by decide +kernel) (by decide +kernel)
set_option maxRecDepth 20000 in
theorem gX4_nodes_X3_width : GoodIn wsX4_nodes (wsV RX4 75 RX3 yX3_width wsX3_width) := goodIn_app (goodIn_of _ (by decide +kernel)) ggX4_nodes_X3_width
theorem dX4_nodes_0 : decode cX4_nodes 0 = .ok (.aload_n 0, 1) := by decide +kernel
theorem dX4_nodes_1 : decode cX4_nodes 1 = .ok (.getfield 23, 3) := by decide +kernel
theorem dX4_nodes_4 : decode cX4_nodes 4 = .ok (.iload_n 1, 1) := by decide +kernel
theorem dX4_nodes_5 : decode cX4_nodes 5 = .ok (.invokevirtual 103, 3) := by decide +kernel
theorem dX4_nodes_8 : decode cX4_nodes 8 = .ok (.ifCond .ne 13, 3) := by decide +kernel
theorem dX4_nodes_11 : decode cX4_nodes 11 = .ok (.new 107, 3) := by decide +kernel
theorem dX4_nodes_14 : decode cX4_nodes 14 = .ok (.dup, 1) := by decide +kernel
theorem dX4_nodes_15 : decode cX4_nodes 15 = .ok (.ldc 109, 2) := by decide +kernel
theorem dX4_nodes_17 : decode cX4_nodes 17 = .ok (.invokespecial 111, 3) := by decide +kernel
theorem dX4_nodes_20 : decode cX4_nodes 20 = .ok (.athrow, 1) := by decide +kernel
theorem dX4_nodes_21 : decode cX4_nodes 21 = .ok (.aload_n 0, 1) := by decide +kernel
theorem dX4_nodes_22 : decode cX4_nodes 22 = .ok (.getfield 23, 3) := by decide +kernel
theorem dX4_nodes_25 : decode cX4_nodes 25 = .ok (.iload_n 1, 1) := by decide +kernel
theorem dX4_nodes_26 : decode cX4_nodes 26 = .ok (.invokevirtual 75, 3) := by decide +kernel
theorem dX4_nodes_29 : decode cX4_nodes 29 = .ok (.ireturn, 1) := by decide +kernel
set_option maxRecDepth 20000 in
theorem ggX4_boxAt_X2_size : GoodIn wsX4_boxAt wsX2_size := goodIn_r _ [8, 9, 18, 19, 20, 21, 22, 23] (by decide +kernel) (by decide +kernel)
set_option maxRecDepth 20000 in
theorem gX4_boxAt_X2_size : GoodIn wsX4_boxAt (wsV RX4 68 RX2 yX2_size wsX2_size) := goodIn_app (goodIn_of _ (by decide +kernel)) ggX4_boxAt_X2_size
theorem dX4_boxAt_0 : decode cX4_boxAt 0 = .ok (.iload_n 1, 1) := by decide +kernel
theorem dX4_boxAt_1 : decode cX4_boxAt 1 = .ok (.ifCond .lt 14, 3) := by decide +kernel
theorem dX4_boxAt_4 : decode cX4_boxAt 4 = .ok (.iload_n 1, 1) := by decide +kernel
theorem dX4_boxAt_5 : decode cX4_boxAt 5 = .ok (.aload_n 0, 1) := by decide +kernel
theorem dX4_boxAt_6 : decode cX4_boxAt 6 = .ok (.getfield 16, 3) := by decide +kernel
theorem dX4_boxAt_9 : decode cX4_boxAt 9 = .ok (.invokevirtual 68, 3) := by decide +kernel
theorem dX4_boxAt_12 : decode cX4_boxAt 12 = .ok (.if_icmp .lt 13, 3) := by decide +kernel
theorem dX4_boxAt_15 : decode cX4_boxAt 15 = .ok (.new 107, 3) := by decide +kernel
theorem dX4_boxAt_18 : decode cX4_boxAt 18 = .ok (.dup, 1) := by decide +kernel
theorem dX4_boxAt_19 : decode cX4_boxAt 19 = .ok (.ldc 124, 2) := by decide +kernel
theorem dX4_boxAt_21 : decode cX4_boxAt 21 = .ok (.invokespecial 111, 3) := by decide +kernel
theorem dX4_boxAt_24 : decode cX4_boxAt 24 = .ok (.athrow, 1) := by decide +kernel
theorem dX4_boxAt_25 : decode cX4_boxAt 25 = .ok (.aload_n 0, 1) := by decide +kernel
theorem dX4_boxAt_26 : decode cX4_boxAt 26 = .ok (.getfield 16, 3) := by decide +kernel
theorem dX4_boxAt_29 : decode cX4_boxAt 29 = .ok (.iload_n 1, 1) := by decide +kernel
theorem dX4_boxAt_30 : decode cX4_boxAt 30 = .ok (.invokevirtual 126, 3) := by decide +kernel
theorem dX4_boxAt_33 : decode cX4_boxAt 33 = .ok (.ireturn, 1) := by decide +kernel
set_option maxRecDepth 20000 in
theorem ggX4_tightness_X3_width : GoodIn wsX4_tightness wsX3_width := goodIn_r _ [9, 10, 11, 78, 79, 80] (by decide +kernel) (by decide +kernel)
set_option maxRecDepth 20000 in
theorem gX4_tightness_X3_width : GoodIn wsX4_tightness (wsV RX4 75 RX3 yX3_width wsX3_width) := goodIn_app (goodIn_of _ (by decide +kernel)) ggX4_tightness_X3_width
set_option maxRecDepth 20000 in
theorem ggX4_tightness_X2_size : GoodIn wsX4_tightness wsX2_size := goodIn_r _ [74, 45, 81, 82, 83, 84, 85, 86] (by decide +kernel) (by decide +kernel)
set_option maxRecDepth 20000 in
theorem gX4_tightness_X2_size : GoodIn wsX4_tightness (wsV RX4 68 RX2 yX2_size wsX2_size) := goodIn_app (goodIn_of _ (by decide +kernel)) ggX4_tightness_X2_size
theorem dX4_tightness_0 : decode cX4_tightness 0 = .ok (.iconst 0, 1) := by decide +kernel
theorem dX4_tightness_1 : decode cX4_tightness 1 = .ok (.istore_n 1, 1) := by decide +kernel
theorem dX4_tightness_2 : decode cX4_tightness 2 = .ok (.iconst 0, 1) := by decide +kernel
theorem dX4_tightness_3 : decode cX4_tightness 3 = .ok (.istore_n 2, 1) := by decide +kernel
theorem dX4_tightness_4 : decode cX4_tightness 4 = .ok (.iload_n 2, 1) := by decide +kernel
theorem dX4_tightness_5 : decode cX4_tightness 5 = .ok (.aload_n 0, 1) := by decide +kernel
theorem dX4_tightness_6 : decode cX4_tightness 6 = .ok (.getfield 23, 3) := by decide +kernel
theorem dX4_tightness_9 : decode cX4_tightness 9 = .ok (.iconst 0, 1) := by decide +kernel
theorem dX4_tightness_10 : decode cX4_tightness 10 = .ok (.invokevirtual 75, 3) := by decide +kernel
theorem dX4_tightness_13 : decode cX4_tightness 13 = .ok (.if_icmp .ge 21, 3) := by decide +kernel
theorem dX4_tightness_16 : decode cX4_tightness 16 = .ok (.iload_n 1, 1) := by decide +kernel
theorem dX4_tightness_17 : decode cX4_tightness 17 = .ok (.aload_n 0, 1) := by decide +kernel
theorem dX4_tightness_18 : decode cX4_tightness 18 = .ok (.iconst 0, 1) := by decide +kernel
theorem dX4_tightness_19 : decode cX4_tightness 19 = .ok (.iload_n 2, 1) := by decide +kernel
theorem dX4_tightness_20 : decode cX4_tightness 20 = .ok (.invokevirtual 118, 3) := by decide +kernel
theorem dX4_tightness_23 : decode cX4_tightness 23 = .ok (.invokestatic 129, 3) := by decide +kernel
theorem dX4_tightness_26 : decode cX4_tightness 26 = .ok (.iadd, 1) := by decide +kernel
theorem dX4_tightness_27 : decode cX4_tightness 27 = .ok (.istore_n 1, 1) := by decide +kernel
theorem dX4_tightness_28 : decode cX4_tightness 28 = .ok (.iinc 2 1, 3) := by decide +kernel
theorem dX4_tightness_31 : decode cX4_tightness 31 = .ok (.goto (-27), 3) := by decide +kernel
theorem dX4_tightness_34 : decode cX4_tightness 34 = .ok (.iload_n 1, 1) := by decide +kernel
theorem dX4_tightness_35 : decode cX4_tightness 35 = .ok (.ifCond .gt 13, 3) := by decide +kernel
theorem dX4_tightness_38 : decode cX4_tightness 38 = .ok (.new 35, 3) := by decide +kernel
theorem dX4_tightness_41 : decode cX4_tightness 41 = .ok (.dup, 1) := by decide +kernel
theorem dX4_tightness_42 : decode cX4_tightness 42 = .ok (.ldc 132, 2) := by decide +kernel
theorem dX4_tightness_44 : decode cX4_tightness 44 = .ok (.invokespecial 39, 3) := by decide +kernel
theorem dX4_tightness_47 : decode cX4_tightness 47 = .ok (.athrow, 1) := by decide +kernel
theorem dX4_tightness_48 : decode cX4_tightness 48 = .ok (.iconst 0, 1) := by decide +kernel
theorem dX4_tightness_49 : decode cX4_tightness 49 = .ok (.istore_n 2, 1) := by decide +kernel
theorem dX4_tightness_50 : decode cX4_tightness 50 = .ok (.iconst 0, 1) := by decide +kernel
theorem dX4_tightness_51 : decode cX4_tightness 51 = .ok (.istore_n 3, 1) := by decide +kernel
theorem dX4_tightness_52 : decode cX4_tightness 52 = .ok (.iload_n 3, 1) := by decide +kernel
theorem dX4_tightness_53 : decode cX4_tightness 53 = .ok (.aload_n 0, 1) := by decide +kernel
theorem dX4_tightness_54 : decode cX4_tightness 54 = .ok (.getfield 16, 3) := by decide +kernel
theorem dX4_tightness_57 : decode cX4_tightness 57 = .ok (.invokevirtual 68, 3) := by decide +kernel
theorem dX4_tightness_60 : decode cX4_tightness 60 = .ok (.if_icmp .ge 23, 3) := by decide +kernel
theorem dX4_tightness_63 : decode cX4_tightness 63 = .ok (.iload_n 2, 1) := by decide +kernel
theorem dX4_tightness_64 : decode cX4_tightness 64 = .ok (.aload_n 0, 1) := by decide +kernel
theorem dX4_tightness_65 : decode cX4_tightness 65 = .ok (.getfield 16, 3) := by decide +kernel
theorem dX4_tightness_68 : decode cX4_tightness 68 = .ok (.iload_n 3, 1) := by decide +kernel
theorem dX4_tightness_69 : decode cX4_tightness 69 = .ok (.invokevirtual 134, 3) := by decide +kernel
theorem dX4_tightness_72 : decode cX4_tightness 72 = .ok (.invokestatic 129, 3) := by decide +kernel
theorem dX4_tightness_75 : decode cX4_tightness 75 = .ok (.iadd, 1) := by decide +kernel
theorem dX4_tightness_76 : decode cX4_tightness 76 = .ok (.istore_n 2, 1) := by decide +kernel
theorem dX4_tightness_77 : decode cX4_tightness 77 = .ok (.iinc 3 1, 3) := by decide +kernel
theorem dX4_tightness_80 : decode cX4_tightness 80 = .ok (.goto (-28), 3) := by decide +kernel
theorem dX4_tightness_83 : decode cX4_tightness 83 = .ok (.iload_n 2, 1) := by decide +kernel
theorem dX4_tightness_84 : decode cX4_tightness 84 = .ok (.i2f, 1) := by decide +kernel
theorem dX4_tightness_85 : decode cX4_tightness 85 = .ok (.iload_n 1, 1) := by decide +kernel
theorem dX4_tightness_86 : decode cX4_tightness 86 = .ok (.i2f, 1) := by decide +kernel
theorem dX4_tightness_87 : decode cX4_tightness 87 = .ok (.fdiv, 1) := by decide +kernel
theorem dX4_tightness_88 : decode cX4_tightness 88 = .ok (.freturn, 1) := by decide +kernel
set_option maxRecDepth 20000 in
theorem ggX4_pairs_X2_added : GoodIn wsX4_pairs wsX2_added := goodIn_r _ [6, 7, 32, 33, 34, 35, 36, 37] (by decide +kernel) (by decide +kernel)
set_option maxRecDepth 20000 in
theorem gX4_pairs_X2_added : GoodIn wsX4_pairs (wsV RX4 151 RX2 yX2_added wsX2_added) := goodIn_app (goodIn_of _ (by decide +kernel)) ggX4_pairs_X2_added
theorem dX4_pairs_0 : decode cX4_pairs 0 = .ok (.iconst 0, 1) := by decide +kernel
theorem dX4_pairs_1 : decode cX4_pairs 1 = .ok (.istore_n 1, 1) := by decide +kernel
theorem dX4_pairs_2 : decode cX4_pairs 2 = .ok (.iconst 0, 1) := by decide +kernel
theorem dX4_pairs_3 : decode cX4_pairs 3 = .ok (.istore_n 2, 1) := by decide +kernel
theorem dX4_pairs_4 : decode cX4_pairs 4 = .ok (.iload_n 2, 1) := by decide +kernel
theorem dX4_pairs_5 : decode cX4_pairs 5 = .ok (.aload_n 0, 1) := by decide +kernel
theorem dX4_pairs_6 : decode cX4_pairs 6 = .ok (.getfield 16, 3) := by decide +kernel
theorem dX4_pairs_9 : decode cX4_pairs 9 = .ok (.invokevirtual 151, 3) := by decide +kernel
theorem dX4_pairs_12 : decode cX4_pairs 12 = .ok (.if_icmp .ge 45, 3) := by decide +kernel
theorem dX4_pairs_15 : decode cX4_pairs 15 = .ok (.iload_n 2, 1) := by decide +kernel
theorem dX4_pairs_16 : decode cX4_pairs 16 = .ok (.iconst 1, 1) := by decide +kernel
theorem dX4_pairs_17 : decode cX4_pairs 17 = .ok (.iadd, 1) := by decide +kernel
theorem dX4_pairs_18 : decode cX4_pairs 18 = .ok (.istore_n 3, 1) := by decide +kernel
theorem dX4_pairs_19 : decode cX4_pairs 19 = .ok (.iload_n 3, 1) := by decide +kernel
theorem dX4_pairs_20 : decode cX4_pairs 20 = .ok (.aload_n 0, 1) := by decide +kernel
theorem dX4_pairs_21 : decode cX4_pairs 21 = .ok (.getfield 16, 3) := by decide +kernel
theorem dX4_pairs_24 : decode cX4_pairs 24 = .ok (.invokevirtual 151, 3) := by decide +kernel
theorem dX4_pairs_27 : decode cX4_pairs 27 = .ok (.if_icmp .ge 24, 3) := by decide +kernel
theorem dX4_pairs_30 : decode cX4_pairs 30 = .ok (.aload_n 0, 1) := by decide +kernel
theorem dX4_pairs_31 : decode cX4_pairs 31 = .ok (.getfield 16, 3) := by decide +kernel
theorem dX4_pairs_34 : decode cX4_pairs 34 = .ok (.iload_n 2, 1) := by decide +kernel
theorem dX4_pairs_35 : decode cX4_pairs 35 = .ok (.iload_n 3, 1) := by decide +kernel
theorem dX4_pairs_36 : decode cX4_pairs 36 = .ok (.invokevirtual 154, 3) := by decide +kernel
theorem dX4_pairs_39 : decode cX4_pairs 39 = .ok (.ifCond .eq 6, 3) := by decide +kernel
theorem dX4_pairs_42 : decode cX4_pairs 42 = .ok (.iinc 1 1, 3) := by decide +kernel
theorem dX4_pairs_45 : decode cX4_pairs 45 = .ok (.iinc 3 1, 3) := by decide +kernel
theorem dX4_pairs_48 : decode cX4_pairs 48 = .ok (.goto (-29), 3) := by decide +kernel
theorem dX4_pairs_51 : decode cX4_pairs 51 = .ok (.iinc 2 1, 3) := by decide +kernel
theorem dX4_pairs_54 : decode cX4_pairs 54 = .ok (.goto (-50), 3) := by decide +kernel
theorem dX4_pairs_57 : decode cX4_pairs 57 = .ok (.iload_n 1, 1) := by decide +kernel
theorem dX4_pairs_58 : decode cX4_pairs 58 = .ok (.ireturn, 1) := by decide +kernel
set_option maxRecDepth 20000 in
theorem ggX4_pair_X2_added : GoodIn wsX4_pair wsX2_added := goodIn_r _ [8, 9, 34, 35, 36, 37, 38, 39] (by decide +kernel) (by decide +kernel)
set_option maxRecDepth 20000 in
theorem gX4_pair_X2_added : GoodIn wsX4_pair (wsV RX4 151 RX2 yX2_added wsX2_added) := goodIn_app (goodIn_of _ (by decide +kernel)) ggX4_pair_X2_added
theorem dX4_pair_0 : decode cX4_pair 0 = .ok (.iconst 0, 1) := by decide +kernel
theorem dX4_pair_1 : decode cX4_pair 1 = .ok (.istore_n 2, 1) := by decide +kernel
theorem dX4_pair_2 : decode cX4_pair 2 = .ok (.iconst 0, 1) := by decide +kernel
theorem dX4_pair_3 : decode cX4_pair 3 = .ok (.istore_n 3, 1) := by decide +kernel
theorem dX4_pair_4 : decode cX4_pair 4 = .ok (.iload_n 3, 1) := by decide +kernel
theorem dX4_pair_5 : decode cX4_pair 5 = .ok (.aload_n 0, 1) := by decide +kernel
theorem dX4_pair_6 : decode cX4_pair 6 = .ok (.getfield 16, 3) := by decide +kernel
theorem dX4_pair_9 : decode cX4_pair 9 = .ok (.invokevirtual 151, 3) := by decide +kernel
theorem dX4_pair_12 : decode cX4_pair 12 = .ok (.if_icmp .ge 61, 3) := by decide +kernel
theorem dX4_pair_15 : decode cX4_pair 15 = .ok (.iload_n 3, 1) := by decide +kernel
theorem dX4_pair_16 : decode cX4_pair 16 = .ok (.iconst 1, 1) := by decide +kernel
theorem dX4_pair_17 : decode cX4_pair 17 = .ok (.iadd, 1) := by decide +kernel
theorem dX4_pair_18 : decode cX4_pair 18 = .ok (.istore 4, 2) := by decide +kernel
theorem dX4_pair_20 : decode cX4_pair 20 = .ok (.iload 4, 2) := by decide +kernel
theorem dX4_pair_22 : decode cX4_pair 22 = .ok (.aload_n 0, 1) := by decide +kernel
theorem dX4_pair_23 : decode cX4_pair 23 = .ok (.getfield 16, 3) := by decide +kernel
theorem dX4_pair_26 : decode cX4_pair 26 = .ok (.invokevirtual 151, 3) := by decide +kernel
theorem dX4_pair_29 : decode cX4_pair 29 = .ok (.if_icmp .ge 38, 3) := by decide +kernel
theorem dX4_pair_32 : decode cX4_pair 32 = .ok (.aload_n 0, 1) := by decide +kernel
theorem dX4_pair_33 : decode cX4_pair 33 = .ok (.getfield 16, 3) := by decide +kernel
theorem dX4_pair_36 : decode cX4_pair 36 = .ok (.iload_n 3, 1) := by decide +kernel
theorem dX4_pair_37 : decode cX4_pair 37 = .ok (.iload 4, 2) := by decide +kernel
theorem dX4_pair_39 : decode cX4_pair 39 = .ok (.invokevirtual 154, 3) := by decide +kernel
theorem dX4_pair_42 : decode cX4_pair 42 = .ok (.ifCond .eq 19, 3) := by decide +kernel
theorem dX4_pair_45 : decode cX4_pair 45 = .ok (.iload_n 2, 1) := by decide +kernel
theorem dX4_pair_46 : decode cX4_pair 46 = .ok (.iload_n 1, 1) := by decide +kernel
theorem dX4_pair_47 : decode cX4_pair 47 = .ok (.if_icmp .ne 11, 3) := by decide +kernel
theorem dX4_pair_50 : decode cX4_pair 50 = .ok (.bipush 100, 2) := by decide +kernel
theorem dX4_pair_52 : decode cX4_pair 52 = .ok (.iload_n 3, 1) := by decide +kernel
theorem dX4_pair_53 : decode cX4_pair 53 = .ok (.imul, 1) := by decide +kernel
theorem dX4_pair_54 : decode cX4_pair 54 = .ok (.iload 4, 2) := by decide +kernel
theorem dX4_pair_56 : decode cX4_pair 56 = .ok (.iadd, 1) := by decide +kernel
theorem dX4_pair_57 : decode cX4_pair 57 = .ok (.ireturn, 1) := by decide +kernel
theorem dX4_pair_58 : decode cX4_pair 58 = .ok (.iinc 2 1, 3) := by decide +kernel
theorem dX4_pair_61 : decode cX4_pair 61 = .ok (.iinc 4 1, 3) := by decide +kernel
theorem dX4_pair_64 : decode cX4_pair 64 = .ok (.goto (-44), 3) := by decide +kernel
theorem dX4_pair_67 : decode cX4_pair 67 = .ok (.iinc 3 1, 3) := by decide +kernel
theorem dX4_pair_70 : decode cX4_pair 70 = .ok (.goto (-66), 3) := by decide +kernel
theorem dX4_pair_73 : decode cX4_pair 73 = .ok (.new 107, 3) := by decide +kernel
theorem dX4_pair_76 : decode cX4_pair 76 = .ok (.dup, 1) := by decide +kernel
theorem dX4_pair_77 : decode cX4_pair 77 = .ok (.ldc 124, 2) := by decide +kernel
theorem dX4_pair_79 : decode cX4_pair 79 = .ok (.invokespecial 111, 3) := by decide +kernel
theorem dX4_pair_82 : decode cX4_pair 82 = .ok (.athrow, 1) := by decide +kernel
theorem dL_part_0 : decode cL_part 0 = .ok (.iload_n 1, 1) := by decide +kernel
theorem dL_part_1 : decode cL_part 1 = .ok (.aload_n 0, 1) := by decide +kernel
theorem dL_part_2 : decode cL_part 2 = .ok (.arraylength, 1) := by decide +kernel
theorem dL_part_3 : decode cL_part 3 = .ok (.if_icmp .ge 9, 3) := by decide +kernel
theorem dL_part_6 : decode cL_part 6 = .ok (.aload_n 0, 1) := by decide +kernel
theorem dL_part_7 : decode cL_part 7 = .ok (.iload_n 1, 1) := by decide +kernel
theorem dL_part_8 : decode cL_part 8 = .ok (.iaload, 1) := by decide +kernel
theorem dL_part_9 : decode cL_part 9 = .ok (.goto 15, 3) := by decide +kernel
theorem dL_part_12 : decode cL_part 12 = .ok (.sipush 197, 3) := by decide +kernel
theorem dL_part_15 : decode cL_part 15 = .ok (.iload_n 1, 1) := by decide +kernel
theorem dL_part_16 : decode cL_part 16 = .ok (.imul, 1) := by decide +kernel
theorem dL_part_17 : decode cL_part 17 = .ok (.bipush 83, 2) := by decide +kernel
theorem dL_part_19 : decode cL_part 19 = .ok (.iload_n 1, 1) := by decide +kernel
theorem dL_part_20 : decode cL_part 20 = .ok (.imul, 1) := by decide +kernel
theorem dL_part_21 : decode cL_part 21 = .ok (.iload_n 1, 1) := by decide +kernel
theorem dL_part_22 : decode cL_part 22 = .ok (.imul, 1) := by decide +kernel
theorem dL_part_23 : decode cL_part 23 = .ok (.iadd, 1) := by decide +kernel
theorem dL_part_24 : decode cL_part 24 = .ok (.istore_n 3, 1) := by decide +kernel
theorem dL_part_25 : decode cL_part 25 = .ok (.iload_n 3, 1) := by decide +kernel
theorem dL_part_26 : decode cL_part 26 = .ok (.ldc 7, 2) := by decide +kernel
theorem dL_part_28 : decode cL_part 28 = .ok (.iand, 1) := by decide +kernel
theorem dL_part_29 : decode cL_part 29 = .ok (.iload_n 2, 1) := by decide +kernel
theorem dL_part_30 : decode cL_part 30 = .ok (.irem, 1) := by decide +kernel
theorem dL_part_31 : decode cL_part 31 = .ok (.ireturn, 1) := by decide +kernel
set_option maxRecDepth 20000 in
theorem ggL_tree_X4_nodes : GoodIn wsL_tree wsX4_nodes := goodIn_ca (goodIn_r _ [7, 8, 9, 10, 11, 12, 13, 14, 15, 16, 17, 18, 19, 20, 21, 137, 138, 139, 140, 141, 142] (by decide +kernel) (by decide +kernel)) (goodIn_sub (fun _ h => List.mem_cons_of_mem _ (List.mem_append_left _ (List.mem_append_right _ h))) (by decide +kernel))
set_option maxRecDepth 20000 in
theorem gL_tree_X4_nodes : GoodIn wsL_tree (wsV RL 31 RX4 yX4_nodes wsX4_nodes) := goodIn_app (goodIn_of _ (by decide +kernel)) ggL_tree_X4_nodes
set_option maxRecDepth 20000 in
theorem ggL_tree_X4_boxAt : GoodIn wsL_tree wsX4_boxAt := goodIn_ca (goodIn_r _ [122, 8, 9, 53, 123, 124, 125, 67, 126, 74, 127, 70, 71, 72, 73, 137, 138, 139, 143, 144, 145, 146, 147, 148] (by decide +kernel) (by decide +kernel)) (goodIn_sub (fun _ h => List.mem_cons_of_mem _ (List.mem_append_left _ (List.mem_append_right _ h))) (by decide +kernel))
set_option maxRecDepth 20000 in
theorem gL_tree_X4_boxAt : GoodIn wsL_tree (wsV RL 44 RX4 yX4_boxAt wsX4_boxAt) := goodIn_app (goodIn_of _ (by decide +kernel)) ggL_tree_X4_boxAt
theorem dL_tree_0 : decode cL_tree 0 = .ok (.iload_n 1, 1) := by decide +kernel
theorem dL_tree_1 : decode cL_tree 1 = .ok (.ifCond .ne 11, 3) := by decide +kernel
theorem dL_tree_4 : decode cL_tree 4 = .ok (.aload_n 0, 1) := by decide +kernel
theorem dL_tree_5 : decode cL_tree 5 = .ok (.iload_n 2, 1) := by decide +kernel
theorem dL_tree_6 : decode cL_tree 6 = .ok (.invokevirtual 31, 3) := by decide +kernel
theorem dL_tree_9 : decode cL_tree 9 = .ok (.goto 64, 3) := by decide +kernel
theorem dL_tree_12 : decode cL_tree 12 = .ok (.iload_n 1, 1) := by decide +kernel
theorem dL_tree_13 : decode cL_tree 13 = .ok (.iconst 1, 1) := by decide +kernel
theorem dL_tree_14 : decode cL_tree 14 = .ok (.if_icmp .ne 12, 3) := by decide +kernel
theorem dL_tree_17 : decode cL_tree 17 = .ok (.aload_n 0, 1) := by decide +kernel
theorem dL_tree_18 : decode cL_tree 18 = .ok (.iload_n 2, 1) := by decide +kernel
theorem dL_tree_19 : decode cL_tree 19 = .ok (.iload_n 3, 1) := by decide +kernel
theorem dL_tree_20 : decode cL_tree 20 = .ok (.invokevirtual 34, 3) := by decide +kernel
theorem dL_tree_23 : decode cL_tree 23 = .ok (.goto 50, 3) := by decide +kernel
theorem dL_tree_26 : decode cL_tree 26 = .ok (.iload_n 1, 1) := by decide +kernel
theorem dL_tree_27 : decode cL_tree 27 = .ok (.iconst 2, 1) := by decide +kernel
theorem dL_tree_28 : decode cL_tree 28 = .ok (.if_icmp .ne 14, 3) := by decide +kernel
theorem dL_tree_31 : decode cL_tree 31 = .ok (.aload_n 0, 1) := by decide +kernel
theorem dL_tree_32 : decode cL_tree 32 = .ok (.iload_n 2, 1) := by decide +kernel
theorem dL_tree_33 : decode cL_tree 33 = .ok (.iload_n 3, 1) := by decide +kernel
theorem dL_tree_34 : decode cL_tree 34 = .ok (.iload 4, 2) := by decide +kernel
theorem dL_tree_36 : decode cL_tree 36 = .ok (.invokevirtual 37, 3) := by decide +kernel
theorem dL_tree_39 : decode cL_tree 39 = .ok (.goto 34, 3) := by decide +kernel
theorem dL_tree_42 : decode cL_tree 42 = .ok (.iload_n 1, 1) := by decide +kernel
theorem dL_tree_43 : decode cL_tree 43 = .ok (.iconst 3, 1) := by decide +kernel
theorem dL_tree_44 : decode cL_tree 44 = .ok (.if_icmp .ne 11, 3) := by decide +kernel
theorem dL_tree_47 : decode cL_tree 47 = .ok (.aload_n 0, 1) := by decide +kernel
theorem dL_tree_48 : decode cL_tree 48 = .ok (.iload_n 2, 1) := by decide +kernel
theorem dL_tree_49 : decode cL_tree 49 = .ok (.invokevirtual 41, 3) := by decide +kernel
theorem dL_tree_52 : decode cL_tree 52 = .ok (.goto 21, 3) := by decide +kernel
theorem dL_tree_55 : decode cL_tree 55 = .ok (.iload_n 1, 1) := by decide +kernel
theorem dL_tree_56 : decode cL_tree 56 = .ok (.iconst 4, 1) := by decide +kernel
theorem dL_tree_57 : decode cL_tree 57 = .ok (.if_icmp .ne 11, 3) := by decide +kernel
theorem dL_tree_60 : decode cL_tree 60 = .ok (.aload_n 0, 1) := by decide +kernel
theorem dL_tree_61 : decode cL_tree 61 = .ok (.iload_n 2, 1) := by decide +kernel
theorem dL_tree_62 : decode cL_tree 62 = .ok (.invokevirtual 44, 3) := by decide +kernel
theorem dL_tree_65 : decode cL_tree 65 = .ok (.goto 8, 3) := by decide +kernel
theorem dL_tree_68 : decode cL_tree 68 = .ok (.aload_n 0, 1) := by decide +kernel
theorem dL_tree_69 : decode cL_tree 69 = .ok (.iload_n 2, 1) := by decide +kernel
theorem dL_tree_70 : decode cL_tree 70 = .ok (.invokevirtual 47, 3) := by decide +kernel
theorem dL_tree_73 : decode cL_tree 73 = .ok (.ireturn, 1) := by decide +kernel
theorem dL_tree_74 : decode cL_tree 74 = .ok (.astore 5, 2) := by decide +kernel
theorem dL_tree_76 : decode cL_tree 76 = .ok (.bipush (-20), 2) := by decide +kernel
theorem dL_tree_78 : decode cL_tree 78 = .ok (.ireturn, 1) := by decide +kernel
theorem dL_tree_79 : decode cL_tree 79 = .ok (.astore 5, 2) := by decide +kernel
theorem dL_tree_81 : decode cL_tree 81 = .ok (.bipush (-30), 2) := by decide +kernel
theorem dL_tree_83 : decode cL_tree 83 = .ok (.ireturn, 1) := by decide +kernel
set_option maxRecDepth 20000 in
theorem ggL_pair_X4_pair : GoodIn wsL_pair wsX4_pair := goodIn_ca (goodIn_r _ [6, 7, 8, 9, 10, 11, 12, 13, 14, 15, 16, 17, 18, 19, 20, 21, 22, 23, 24, 25, 26, 27, 28, 29, 30, 31, 32, 33, 34, 35, 36, 37, 38, 39, 40, 41, 42, 43, 44, 45] (by decide +kernel) (by decide +kernel)) (goodIn_sub (fun _ h => List.mem_cons_of_mem _ (List.mem_append_right _ h)) (by decide +kernel))
set_option maxRecDepth 20000 in
theorem gL_pair_X4_pair : GoodIn wsL_pair (wsV RL 66 RX4 yX4_pair wsX4_pair) := goodIn_app (goodIn_of _ (by decide +kernel)) ggL_pair_X4_pair
theorem dL_pair_0 : decode cL_pair 0 = .ok (.aload_n 0, 1) := by decide +kernel
theorem dL_pair_1 : decode cL_pair 1 = .ok (.iload_n 1, 1) := by decide +kernel
theorem dL_pair_2 : decode cL_pair 2 = .ok (.invokevirtual 66, 3) := by decide +kernel
theorem dL_pair_5 : decode cL_pair 5 = .ok (.ireturn, 1) := by decide +kernel
theorem dL_pair_6 : decode cL_pair 6 = .ok (.astore_n 2, 1) := by decide +kernel
theorem dL_pair_7 : decode cL_pair 7 = .ok (.bipush (-30), 2) := by decide +kernel
theorem dL_pair_9 : decode cL_pair 9 = .ok (.ireturn, 1) := by decide +kernel
set_option maxRecDepth 20000 in
theorem ggL_tightness_X4_tightness : GoodIn wsL_tightness wsX4_tightness := goodIn_ca (goodIn_r _ [7, 8, 9, 10, 11, 12, 13, 14, 15, 16, 17, 18, 19, 20, 21, 6, 22, 23, 24, 25, 26, 27, 28, 29, 30, 31, 32, 33, 34, 35, 36, 37, 38, 39, 40, 41, 42, 43, 44, 45, 46, 47, 48, 49, 50, 51, 52, 53, 54, 55, 56, 57, 58, 59, 60, 61, 62, 63, 64, 65, 66, 67, 68, 69, 70, 71, 72, 73, 74, 75, 76, 77, 78, 79, 80, 81, 82, 83, 84, 85, 86, 87, 88, 89, 90, 91, 92] (by decide +kernel) (by decide +kernel)) (goodIn_sub (fun _ h => List.mem_cons_of_mem _ (List.mem_append_right _ h)) (by decide +kernel))
set_option maxRecDepth 20000 in
theorem gL_tightness_X4_tightness : GoodIn wsL_tightness (wsV RL 69 RX4 yX4_tightness wsX4_tightness) := goodIn_app (goodIn_of _ (by decide +kernel)) ggL_tightness_X4_tightness
theorem dL_tightness_0 : decode cL_tightness 0 = .ok (.aload_n 0, 1) := by decide +kernel
theorem dL_tightness_1 : decode cL_tightness 1 = .ok (.invokevirtual 69, 3) := by decide +kernel
theorem dL_tightness_4 : decode cL_tightness 4 = .ok (.freturn, 1) := by decide +kernel
theorem dL_tightness_5 : decode cL_tightness 5 = .ok (.astore_n 1, 1) := by decide +kernel
theorem dL_tightness_6 : decode cL_tightness 6 = .ok (.ldc 73, 2) := by decide +kernel
theorem dL_tightness_8 : decode cL_tightness 8 = .ok (.freturn, 1) := by decide +kernel
set_option maxRecDepth 20000 in
theorem ggL_isOrder_X4_boxes : GoodIn wsL_isOrder wsX4_boxes := goodIn_r _ [5, 6, 7, 8, 9, 10, 11, 12, 167, 168, 169, 170, 171, 172, 173, 174, 175] (by decide +kernel) (by decide +kernel)
set_option maxRecDepth 20000 in
theorem gL_isOrder_X4_boxes : GoodIn wsL_isOrder (wsV RL 74 RX4 yX4_boxes wsX4_boxes) := goodIn_app (goodIn_of _ (by decide +kernel)) ggL_isOrder_X4_boxes
set_option maxRecDepth 20000 in
theorem ggL_isOrder_L_tree : GoodIn wsL_isOrder wsL_tree := goodIn_ca (goodIn_ca (goodIn_r _ [16, 17, 18, 19, 20, 21, 4, 22, 23, 24, 25, 26, 27, 28, 29, 30, 31, 32, 33, 34, 35, 36, 37, 38, 39, 40, 41, 42, 43, 44, 45, 46, 47, 48, 49, 50, 51, 52, 53, 54, 55, 56, 57, 58, 59, 60, 61, 62, 63, 64, 65, 66, 67, 6, 68, 69, 70, 71, 72, 73, 74, 75, 76, 77, 78, 79, 80, 10, 81, 82, 83, 84, 85, 86, 12, 87, 88, 89, 90, 91, 92, 93, 94, 95, 96, 97, 98, 99, 100, 101, 102, 103, 104, 105, 106, 107, 108, 109, 110, 111, 112, 113, 114, 115, 116, 117, 118, 119, 120, 121, 122, 123, 124, 125, 126, 127, 128, 129, 130, 131, 132, 133, 134, 7, 8, 9, 11, 135, 136, 137, 138, 139, 140, 141, 142, 143, 144, 167, 168, 169, 176, 177, 178, 170, 171, 172, 173, 174, 175] (by decide +kernel) (by decide +kernel)) (goodIn_sub (fun _ h => List.mem_cons_of_mem _ (List.mem_append_left _ (List.mem_append_right _ h))) (by decide +kernel))) (goodIn_sub (fun _ h => List.mem_cons_of_mem _ (List.mem_append_right _ h)) (by decide +kernel))
set_option maxRecDepth 20000 in
theorem gL_isOrder_L_tree : GoodIn wsL_isOrder (va_wsS RL 78 yL_tree wsL_tree) := goodIn_app (goodIn_of _ (by decide +kernel)) ggL_isOrder_L_tree
set_option maxRecDepth 20000 in
theorem ggL_isOrder_X4_boxAt : GoodIn wsL_isOrder wsX4_boxAt := goodIn_ca (goodIn_r _ [134, 23, 24, 6, 7, 8, 9, 10, 11, 12, 135, 83, 84, 85, 86, 167, 168, 169, 170, 171, 172, 173, 174, 175] (by decide +kernel) (by decide +kernel)) (goodIn_sub (fun _ h => List.mem_cons_of_mem _ (List.mem_append_left _ (List.mem_append_right _ h))) (by decide +kernel))
set_option maxRecDepth 20000 in
theorem gL_isOrder_X4_boxAt : GoodIn wsL_isOrder (wsV RL 44 RX4 yX4_boxAt wsX4_boxAt) := goodIn_app (goodIn_of _ (by decide +kernel)) ggL_isOrder_X4_boxAt
theorem dL_isOrder_0 : decode cL_isOrder 0 = .ok (.aload_n 0, 1) := by decide +kernel
theorem dL_isOrder_1 : decode cL_isOrder 1 = .ok (.invokevirtual 74, 3) := by decide +kernel
theorem dL_isOrder_4 : decode cL_isOrder 4 = .ok (.aload_n 1, 1) := by decide +kernel
theorem dL_isOrder_5 : decode cL_isOrder 5 = .ok (.iconst 1, 1) := by decide +kernel
theorem dL_isOrder_6 : decode cL_isOrder 6 = .ok (.iaload, 1) := by decide +kernel
theorem dL_isOrder_7 : decode cL_isOrder 7 = .ok (.if_icmp .ne 35, 3) := by decide +kernel
theorem dL_isOrder_10 : decode cL_isOrder 10 = .ok (.aload_n 0, 1) := by decide +kernel
theorem dL_isOrder_11 : decode cL_isOrder 11 = .ok (.iconst 4, 1) := by decide +kernel
theorem dL_isOrder_12 : decode cL_isOrder 12 = .ok (.aload_n 1, 1) := by decide +kernel
theorem dL_isOrder_13 : decode cL_isOrder 13 = .ok (.iconst 1, 1) := by decide +kernel
theorem dL_isOrder_14 : decode cL_isOrder 14 = .ok (.iaload, 1) := by decide +kernel
theorem dL_isOrder_15 : decode cL_isOrder 15 = .ok (.iconst 0, 1) := by decide +kernel
theorem dL_isOrder_16 : decode cL_isOrder 16 = .ok (.iconst 0, 1) := by decide +kernel
theorem dL_isOrder_17 : decode cL_isOrder 17 = .ok (.invokestatic 78, 3) := by decide +kernel
theorem dL_isOrder_20 : decode cL_isOrder 20 = .ok (.bipush (-30), 2) := by decide +kernel
theorem dL_isOrder_22 : decode cL_isOrder 22 = .ok (.if_icmp .ne 20, 3) := by decide +kernel
theorem dL_isOrder_25 : decode cL_isOrder 25 = .ok (.aload_n 0, 1) := by decide +kernel
theorem dL_isOrder_26 : decode cL_isOrder 26 = .ok (.iconst 4, 1) := by decide +kernel
theorem dL_isOrder_27 : decode cL_isOrder 27 = .ok (.iconst (-1), 1) := by decide +kernel
theorem dL_isOrder_28 : decode cL_isOrder 28 = .ok (.iconst 0, 1) := by decide +kernel
theorem dL_isOrder_29 : decode cL_isOrder 29 = .ok (.iconst 0, 1) := by decide +kernel
theorem dL_isOrder_30 : decode cL_isOrder 30 = .ok (.invokestatic 78, 3) := by decide +kernel
theorem dL_isOrder_33 : decode cL_isOrder 33 = .ok (.bipush (-30), 2) := by decide +kernel
theorem dL_isOrder_35 : decode cL_isOrder 35 = .ok (.if_icmp .ne 7, 3) := by decide +kernel
theorem dL_isOrder_38 : decode cL_isOrder 38 = .ok (.iconst 1, 1) := by decide +kernel
theorem dL_isOrder_39 : decode cL_isOrder 39 = .ok (.goto 4, 3) := by decide +kernel
theorem dL_isOrder_42 : decode cL_isOrder 42 = .ok (.iconst 0, 1) := by decide +kernel
theorem dL_isOrder_43 : decode cL_isOrder 43 = .ok (.istore_n 2, 1) := by decide +kernel
theorem dL_isOrder_44 : decode cL_isOrder 44 = .ok (.iconst 0, 1) := by decide +kernel
theorem dL_isOrder_45 : decode cL_isOrder 45 = .ok (.istore_n 3, 1) := by decide +kernel
theorem dL_isOrder_46 : decode cL_isOrder 46 = .ok (.iload_n 3, 1) := by decide +kernel
theorem dL_isOrder_47 : decode cL_isOrder 47 = .ok (.aload_n 1, 1) := by decide +kernel
theorem dL_isOrder_48 : decode cL_isOrder 48 = .ok (.iconst 1, 1) := by decide +kernel
theorem dL_isOrder_49 : decode cL_isOrder 49 = .ok (.iaload, 1) := by decide +kernel
theorem dL_isOrder_50 : decode cL_isOrder 50 = .ok (.if_icmp .ge 137, 3) := by decide +kernel
theorem dL_isOrder_53 : decode cL_isOrder 53 = .ok (.iload_n 2, 1) := by decide +kernel
theorem dL_isOrder_54 : decode cL_isOrder 54 = .ok (.ifCond .eq 133, 3) := by decide +kernel
theorem dL_isOrder_57 : decode cL_isOrder 57 = .ok (.aload_n 0, 1) := by decide +kernel
theorem dL_isOrder_58 : decode cL_isOrder 58 = .ok (.iload_n 3, 1) := by decide +kernel
theorem dL_isOrder_59 : decode cL_isOrder 59 = .ok (.invokevirtual 44, 3) := by decide +kernel
theorem dL_isOrder_62 : decode cL_isOrder 62 = .ok (.istore 4, 2) := by decide +kernel
theorem dL_isOrder_64 : decode cL_isOrder 64 = .ok (.aload_n 0, 1) := by decide +kernel
theorem dL_isOrder_65 : decode cL_isOrder 65 = .ok (.iload 4, 2) := by decide +kernel
theorem dL_isOrder_67 : decode cL_isOrder 67 = .ok (.iconst 0, 1) := by decide +kernel
theorem dL_isOrder_68 : decode cL_isOrder 68 = .ok (.invokevirtual 28, 3) := by decide +kernel
theorem dL_isOrder_71 : decode cL_isOrder 71 = .ok (.aload_n 0, 1) := by decide +kernel
theorem dL_isOrder_72 : decode cL_isOrder 72 = .ok (.iload 4, 2) := by decide +kernel
theorem dL_isOrder_74 : decode cL_isOrder 74 = .ok (.iconst 2, 1) := by decide +kernel
theorem dL_isOrder_75 : decode cL_isOrder 75 = .ok (.invokevirtual 28, 3) := by decide +kernel
theorem dL_isOrder_78 : decode cL_isOrder 78 = .ok (.iadd, 1) := by decide +kernel
theorem dL_isOrder_79 : decode cL_isOrder 79 = .ok (.iconst 2, 1) := by decide +kernel
theorem dL_isOrder_80 : decode cL_isOrder 80 = .ok (.idiv, 1) := by decide +kernel
theorem dL_isOrder_81 : decode cL_isOrder 81 = .ok (.istore 5, 2) := by decide +kernel
theorem dL_isOrder_83 : decode cL_isOrder 83 = .ok (.aload_n 0, 1) := by decide +kernel
theorem dL_isOrder_84 : decode cL_isOrder 84 = .ok (.iload 4, 2) := by decide +kernel
theorem dL_isOrder_86 : decode cL_isOrder 86 = .ok (.iconst 1, 1) := by decide +kernel
theorem dL_isOrder_87 : decode cL_isOrder 87 = .ok (.invokevirtual 28, 3) := by decide +kernel
theorem dL_isOrder_90 : decode cL_isOrder 90 = .ok (.aload_n 0, 1) := by decide +kernel
theorem dL_isOrder_91 : decode cL_isOrder 91 = .ok (.iload 4, 2) := by decide +kernel
theorem dL_isOrder_93 : decode cL_isOrder 93 = .ok (.iconst 3, 1) := by decide +kernel
theorem dL_isOrder_94 : decode cL_isOrder 94 = .ok (.invokevirtual 28, 3) := by decide +kernel
theorem dL_isOrder_97 : decode cL_isOrder 97 = .ok (.iadd, 1) := by decide +kernel
theorem dL_isOrder_98 : decode cL_isOrder 98 = .ok (.iconst 2, 1) := by decide +kernel
theorem dL_isOrder_99 : decode cL_isOrder 99 = .ok (.idiv, 1) := by decide +kernel
theorem dL_isOrder_100 : decode cL_isOrder 100 = .ok (.istore 6, 2) := by decide +kernel
theorem dL_isOrder_102 : decode cL_isOrder 102 = .ok (.aload_n 0, 1) := by decide +kernel
theorem dL_isOrder_103 : decode cL_isOrder 103 = .ok (.iload 4, 2) := by decide +kernel
theorem dL_isOrder_105 : decode cL_isOrder 105 = .ok (.invokevirtual 47, 3) := by decide +kernel
theorem dL_isOrder_108 : decode cL_isOrder 108 = .ok (.aload_n 0, 1) := by decide +kernel
theorem dL_isOrder_109 : decode cL_isOrder 109 = .ok (.iload 5, 2) := by decide +kernel
theorem dL_isOrder_111 : decode cL_isOrder 111 = .ok (.iload 6, 2) := by decide +kernel
theorem dL_isOrder_113 : decode cL_isOrder 113 = .ok (.invokevirtual 24, 3) := by decide +kernel
theorem dL_isOrder_116 : decode cL_isOrder 116 = .ok (.if_icmp .ne 63, 3) := by decide +kernel
theorem dL_isOrder_119 : decode cL_isOrder 119 = .ok (.iload_n 3, 1) := by decide +kernel
theorem dL_isOrder_120 : decode cL_isOrder 120 = .ok (.ifCond .eq 55, 3) := by decide +kernel
theorem dL_isOrder_123 : decode cL_isOrder 123 = .ok (.aload_n 0, 1) := by decide +kernel
theorem dL_isOrder_124 : decode cL_isOrder 124 = .ok (.aload_n 0, 1) := by decide +kernel
theorem dL_isOrder_125 : decode cL_isOrder 125 = .ok (.iload_n 3, 1) := by decide +kernel
theorem dL_isOrder_126 : decode cL_isOrder 126 = .ok (.iconst 1, 1) := by decide +kernel
theorem dL_isOrder_127 : decode cL_isOrder 127 = .ok (.isub, 1) := by decide +kernel
end
section
theorem dL_isOrder_128 : decode cL_isOrder 128 = .ok (.invokevirtual 44, 3) := by decide +kernel
theorem dL_isOrder_131 : decode cL_isOrder 131 = .ok (.invokevirtual 47, 3) := by decide +kernel
theorem dL_isOrder_134 : decode cL_isOrder 134 = .ok (.aload_n 0, 1) := by decide +kernel
theorem dL_isOrder_135 : decode cL_isOrder 135 = .ok (.iload 4, 2) := by decide +kernel
theorem dL_isOrder_137 : decode cL_isOrder 137 = .ok (.invokevirtual 47, 3) := by decide +kernel
theorem dL_isOrder_140 : decode cL_isOrder 140 = .ok (.if_icmp .lt 35, 3) := by decide +kernel
theorem dL_isOrder_143 : decode cL_isOrder 143 = .ok (.aload_n 0, 1) := by decide +kernel
theorem dL_isOrder_144 : decode cL_isOrder 144 = .ok (.aload_n 0, 1) := by decide +kernel
theorem dL_isOrder_145 : decode cL_isOrder 145 = .ok (.iload_n 3, 1) := by decide +kernel
theorem dL_isOrder_146 : decode cL_isOrder 146 = .ok (.iconst 1, 1) := by decide +kernel
theorem dL_isOrder_147 : decode cL_isOrder 147 = .ok (.isub, 1) := by decide +kernel
theorem dL_isOrder_148 : decode cL_isOrder 148 = .ok (.invokevirtual 44, 3) := by decide +kernel
theorem dL_isOrder_151 : decode cL_isOrder 151 = .ok (.invokevirtual 47, 3) := by decide +kernel
theorem dL_isOrder_154 : decode cL_isOrder 154 = .ok (.aload_n 0, 1) := by decide +kernel
theorem dL_isOrder_155 : decode cL_isOrder 155 = .ok (.iload 4, 2) := by decide +kernel
theorem dL_isOrder_157 : decode cL_isOrder 157 = .ok (.invokevirtual 47, 3) := by decide +kernel
theorem dL_isOrder_160 : decode cL_isOrder 160 = .ok (.if_icmp .ne 19, 3) := by decide +kernel
theorem dL_isOrder_163 : decode cL_isOrder 163 = .ok (.aload_n 0, 1) := by decide +kernel
theorem dL_isOrder_164 : decode cL_isOrder 164 = .ok (.iload_n 3, 1) := by decide +kernel
theorem dL_isOrder_165 : decode cL_isOrder 165 = .ok (.iconst 1, 1) := by decide +kernel
theorem dL_isOrder_166 : decode cL_isOrder 166 = .ok (.isub, 1) := by decide +kernel
theorem dL_isOrder_167 : decode cL_isOrder 167 = .ok (.invokevirtual 44, 3) := by decide +kernel
theorem dL_isOrder_170 : decode cL_isOrder 170 = .ok (.iload 4, 2) := by decide +kernel
theorem dL_isOrder_172 : decode cL_isOrder 172 = .ok (.if_icmp .ge 7, 3) := by decide +kernel
theorem dL_isOrder_175 : decode cL_isOrder 175 = .ok (.iconst 1, 1) := by decide +kernel
theorem dL_isOrder_176 : decode cL_isOrder 176 = .ok (.goto 4, 3) := by decide +kernel
theorem dL_isOrder_179 : decode cL_isOrder 179 = .ok (.iconst 0, 1) := by decide +kernel
theorem dL_isOrder_180 : decode cL_isOrder 180 = .ok (.istore_n 2, 1) := by decide +kernel
theorem dL_isOrder_181 : decode cL_isOrder 181 = .ok (.iinc 3 1, 3) := by decide +kernel
theorem dL_isOrder_184 : decode cL_isOrder 184 = .ok (.goto (-138), 3) := by decide +kernel
theorem dL_isOrder_187 : decode cL_isOrder 187 = .ok (.iload_n 2, 1) := by decide +kernel
theorem dL_isOrder_188 : decode cL_isOrder 188 = .ok (.ireturn, 1) := by decide +kernel
set_option maxRecDepth 20000 in
theorem ggL_isTree_X4_levels : GoodIn wsL_isTree wsX4_levels := goodIn_r _ [6, 7, 8, 9, 10, 11, 12, 13, 168, 169, 170, 171, 172, 173] (by decide +kernel) (by decide +kernel)
set_option maxRecDepth 20000 in
theorem gL_isTree_X4_levels : GoodIn wsL_isTree (wsV RL 84 RX4 yX4_levels wsX4_levels) := goodIn_app (goodIn_of _ (by decide +kernel)) ggL_isTree_X4_levels
set_option maxRecDepth 20000 in
theorem ggL_isTree_L_tree : GoodIn wsL_isTree wsL_tree := goodIn_ca (goodIn_ca (goodIn_r _ [17, 18, 19, 20, 21, 22, 5, 23, 24, 25, 7, 26, 27, 28, 11, 29, 13, 30, 31, 32, 33, 34, 35, 36, 37, 38, 39, 40, 41, 42, 43, 44, 45, 46, 47, 48, 49, 50, 51, 52, 53, 54, 55, 56, 57, 58, 59, 60, 61, 62, 63, 64, 65, 66, 67, 68, 69, 70, 71, 72, 73, 74, 75, 76, 77, 78, 79, 80, 81, 82, 83, 84, 85, 86, 87, 88, 89, 90, 91, 92, 93, 94, 95, 96, 97, 98, 99, 100, 101, 102, 103, 104, 105, 106, 107, 108, 109, 110, 111, 112, 113, 114, 115, 116, 117, 118, 119, 120, 121, 122, 123, 124, 125, 126, 127, 128, 129, 130, 131, 132, 133, 134, 135, 136, 137, 138, 139, 140, 141, 142, 143, 144, 145, 146, 147, 148, 149, 168, 169, 170, 171, 172, 173, 174, 175, 176, 177, 178, 179] (by decide +kernel) (by decide +kernel)) (goodIn_sub (fun _ h => List.mem_cons_of_mem _ (List.mem_append_left _ (List.mem_append_left _ (List.mem_append_right _ h)))) (by decide +kernel))) (goodIn_sub (fun _ h => List.mem_cons_of_mem _ (List.mem_append_left _ (List.mem_append_right _ h))) (by decide +kernel))
set_option maxRecDepth 20000 in
theorem gL_isTree_L_tree : GoodIn wsL_isTree (va_wsS RL 78 yL_tree wsL_tree) := goodIn_app (goodIn_of _ (by decide +kernel)) ggL_isTree_L_tree
set_option maxRecDepth 20000 in
theorem ggL_isTree_X4_nodes : GoodIn wsL_isTree wsX4_nodes := goodIn_ca (goodIn_r _ [23, 24, 25, 7, 26, 27, 28, 11, 29, 13, 30, 31, 32, 33, 34, 168, 169, 170, 171, 172, 173] (by decide +kernel) (by decide +kernel)) (goodIn_sub (fun _ h => List.mem_cons_of_mem _ (List.mem_append_left _ (List.mem_append_left _ (List.mem_append_right _ h)))) (by decide +kernel))
set_option maxRecDepth 20000 in
theorem gL_isTree_X4_nodes : GoodIn wsL_isTree (wsV RL 31 RX4 yX4_nodes wsX4_nodes) := goodIn_app (goodIn_of _ (by decide +kernel)) ggL_isTree_X4_nodes
set_option maxRecDepth 20000 in
theorem ggL_isTree_X4_boxAt : GoodIn wsL_isTree wsX4_boxAt := goodIn_ca (goodIn_r _ [135, 24, 25, 66, 136, 137, 138, 80, 139, 87, 140, 83, 84, 85, 86, 168, 169, 170, 174, 175, 176, 177, 178, 179] (by decide +kernel) (by decide +kernel)) (goodIn_sub (fun _ h => List.mem_cons_of_mem _ (List.mem_append_left _ (List.mem_append_left _ (List.mem_append_right _ h)))) (by decide +kernel))
set_option maxRecDepth 20000 in
theorem gL_isTree_X4_boxAt : GoodIn wsL_isTree (wsV RL 44 RX4 yX4_boxAt wsX4_boxAt) := goodIn_app (goodIn_of _ (by decide +kernel)) ggL_isTree_X4_boxAt
set_option maxRecDepth 20000 in
theorem ggL_isTree_L_tightness : GoodIn wsL_isTree wsL_tightness := goodIn_ca (goodIn_r _ [157, 158, 1, 159, 160, 161, 5, 162, 163, 164, 7, 66, 30, 31, 32, 11, 33, 13, 34, 62, 63, 64, 65, 67, 68, 69, 70, 71, 72, 73, 74, 75, 76, 48, 49, 50, 51, 52, 44, 45, 46, 77, 78, 79, 80, 81, 82, 83, 84, 85, 86, 87, 88, 89, 90, 91, 92, 93, 94, 95, 96, 97, 98, 99, 100, 101, 102, 103, 104, 105, 106, 107, 108, 109, 165, 166, 167, 136, 137, 138, 139, 168, 169, 170, 171, 172, 173, 174, 175, 176, 177, 178, 179] (by decide +kernel) (by decide +kernel)) (goodIn_sub (fun _ h => List.mem_cons_of_mem _ (List.mem_append_right _ h)) (by decide +kernel))
set_option maxRecDepth 20000 in
theorem gL_isTree_L_tightness : GoodIn wsL_isTree (va_wsS RL 87 yL_tightness wsL_tightness) := goodIn_app (goodIn_of _ (by decide +kernel)) ggL_isTree_L_tightness
theorem dL_isTree_0 : decode cL_isTree 0 = .ok (.aload_n 1, 1) := by decide +kernel
theorem dL_isTree_1 : decode cL_isTree 1 = .ok (.iconst 1, 1) := by decide +kernel
theorem dL_isTree_2 : decode cL_isTree 2 = .ok (.iaload, 1) := by decide +kernel
theorem dL_isTree_3 : decode cL_isTree 3 = .ok (.istore_n 2, 1) := by decide +kernel
theorem dL_isTree_4 : decode cL_isTree 4 = .ok (.aload_n 0, 1) := by decide +kernel
theorem dL_isTree_5 : decode cL_isTree 5 = .ok (.invokevirtual 84, 3) := by decide +kernel
theorem dL_isTree_8 : decode cL_isTree 8 = .ok (.istore_n 3, 1) := by decide +kernel
theorem dL_isTree_9 : decode cL_isTree 9 = .ok (.iload_n 3, 1) := by decide +kernel
theorem dL_isTree_10 : decode cL_isTree 10 = .ok (.ifCond .ne 7, 3) := by decide +kernel
theorem dL_isTree_13 : decode cL_isTree 13 = .ok (.iconst 1, 1) := by decide +kernel
theorem dL_isTree_14 : decode cL_isTree 14 = .ok (.goto 4, 3) := by decide +kernel
theorem dL_isTree_17 : decode cL_isTree 17 = .ok (.iconst 0, 1) := by decide +kernel
theorem dL_isTree_18 : decode cL_isTree 18 = .ok (.aload_n 1, 1) := by decide +kernel
theorem dL_isTree_19 : decode cL_isTree 19 = .ok (.iconst 1, 1) := by decide +kernel
theorem dL_isTree_20 : decode cL_isTree 20 = .ok (.iaload, 1) := by decide +kernel
theorem dL_isTree_21 : decode cL_isTree 21 = .ok (.ifCond .ne 7, 3) := by decide +kernel
theorem dL_isTree_24 : decode cL_isTree 24 = .ok (.iconst 1, 1) := by decide +kernel
theorem dL_isTree_25 : decode cL_isTree 25 = .ok (.goto 4, 3) := by decide +kernel
theorem dL_isTree_28 : decode cL_isTree 28 = .ok (.iconst 0, 1) := by decide +kernel
theorem dL_isTree_29 : decode cL_isTree 29 = .ok (.if_icmp .ne 39, 3) := by decide +kernel
theorem dL_isTree_32 : decode cL_isTree 32 = .ok (.iload_n 3, 1) := by decide +kernel
theorem dL_isTree_33 : decode cL_isTree 33 = .ok (.bipush 9, 2) := by decide +kernel
theorem dL_isTree_35 : decode cL_isTree 35 = .ok (.if_icmp .ge 33, 3) := by decide +kernel
theorem dL_isTree_38 : decode cL_isTree 38 = .ok (.aload_n 0, 1) := by decide +kernel
theorem dL_isTree_39 : decode cL_isTree 39 = .ok (.iconst 0, 1) := by decide +kernel
theorem dL_isTree_40 : decode cL_isTree 40 = .ok (.iload_n 3, 1) := by decide +kernel
theorem dL_isTree_41 : decode cL_isTree 41 = .ok (.iconst 0, 1) := by decide +kernel
theorem dL_isTree_42 : decode cL_isTree 42 = .ok (.iconst 0, 1) := by decide +kernel
theorem dL_isTree_43 : decode cL_isTree 43 = .ok (.invokestatic 78, 3) := by decide +kernel
theorem dL_isTree_46 : decode cL_isTree 46 = .ok (.bipush (-30), 2) := by decide +kernel
theorem dL_isTree_48 : decode cL_isTree 48 = .ok (.if_icmp .ne 20, 3) := by decide +kernel
theorem dL_isTree_51 : decode cL_isTree 51 = .ok (.aload_n 0, 1) := by decide +kernel
theorem dL_isTree_52 : decode cL_isTree 52 = .ok (.iconst 0, 1) := by decide +kernel
theorem dL_isTree_53 : decode cL_isTree 53 = .ok (.iconst (-1), 1) := by decide +kernel
theorem dL_isTree_54 : decode cL_isTree 54 = .ok (.iconst 0, 1) := by decide +kernel
theorem dL_isTree_55 : decode cL_isTree 55 = .ok (.iconst 0, 1) := by decide +kernel
theorem dL_isTree_56 : decode cL_isTree 56 = .ok (.invokestatic 78, 3) := by decide +kernel
theorem dL_isTree_59 : decode cL_isTree 59 = .ok (.bipush (-30), 2) := by decide +kernel
theorem dL_isTree_61 : decode cL_isTree 61 = .ok (.if_icmp .ne 7, 3) := by decide +kernel
theorem dL_isTree_64 : decode cL_isTree 64 = .ok (.iconst 1, 1) := by decide +kernel
theorem dL_isTree_65 : decode cL_isTree 65 = .ok (.goto 4, 3) := by decide +kernel
theorem dL_isTree_68 : decode cL_isTree 68 = .ok (.iconst 0, 1) := by decide +kernel
theorem dL_isTree_69 : decode cL_isTree 69 = .ok (.istore 4, 2) := by decide +kernel
theorem dL_isTree_71 : decode cL_isTree 71 = .ok (.iconst 0, 1) := by decide +kernel
theorem dL_isTree_72 : decode cL_isTree 72 = .ok (.istore 5, 2) := by decide +kernel
theorem dL_isTree_74 : decode cL_isTree 74 = .ok (.iload 5, 2) := by decide +kernel
theorem dL_isTree_76 : decode cL_isTree 76 = .ok (.iload_n 3, 1) := by decide +kernel
theorem dL_isTree_77 : decode cL_isTree 77 = .ok (.if_icmp .ge 341, 3) := by decide +kernel
theorem dL_isTree_80 : decode cL_isTree 80 = .ok (.iload 4, 2) := by decide +kernel
theorem dL_isTree_82 : decode cL_isTree 82 = .ok (.ifCond .eq 336, 3) := by decide +kernel
theorem dL_isTree_85 : decode cL_isTree 85 = .ok (.aload_n 0, 1) := by decide +kernel
theorem dL_isTree_86 : decode cL_isTree 86 = .ok (.iload 5, 2) := by decide +kernel
theorem dL_isTree_88 : decode cL_isTree 88 = .ok (.invokevirtual 31, 3) := by decide +kernel
theorem dL_isTree_91 : decode cL_isTree 91 = .ok (.istore 6, 2) := by decide +kernel
theorem dL_isTree_93 : decode cL_isTree 93 = .ok (.iconst 0, 1) := by decide +kernel
theorem dL_isTree_94 : decode cL_isTree 94 = .ok (.istore 7, 2) := by decide +kernel
theorem dL_isTree_96 : decode cL_isTree 96 = .ok (.iconst 0, 1) := by decide +kernel
theorem dL_isTree_97 : decode cL_isTree 97 = .ok (.istore 8, 2) := by decide +kernel
theorem dL_isTree_99 : decode cL_isTree 99 = .ok (.iload 8, 2) := by decide +kernel
theorem dL_isTree_101 : decode cL_isTree 101 = .ok (.iload 6, 2) := by decide +kernel
theorem dL_isTree_103 : decode cL_isTree 103 = .ok (.if_icmp .ge 259, 3) := by decide +kernel
theorem dL_isTree_106 : decode cL_isTree 106 = .ok (.iload 4, 2) := by decide +kernel
theorem dL_isTree_108 : decode cL_isTree 108 = .ok (.ifCond .eq 254, 3) := by decide +kernel
theorem dL_isTree_111 : decode cL_isTree 111 = .ok (.aload_n 0, 1) := by decide +kernel
theorem dL_isTree_112 : decode cL_isTree 112 = .ok (.iload 5, 2) := by decide +kernel
theorem dL_isTree_114 : decode cL_isTree 114 = .ok (.iload 8, 2) := by decide +kernel
theorem dL_isTree_116 : decode cL_isTree 116 = .ok (.invokevirtual 34, 3) := by decide +kernel
theorem dL_isTree_119 : decode cL_isTree 119 = .ok (.istore 9, 2) := by decide +kernel
theorem dL_isTree_121 : decode cL_isTree 121 = .ok (.iload 9, 2) := by decide +kernel
theorem dL_isTree_123 : decode cL_isTree 123 = .ok (.ifCond .le 13, 3) := by decide +kernel
theorem dL_isTree_126 : decode cL_isTree 126 = .ok (.iload 9, 2) := by decide +kernel
theorem dL_isTree_128 : decode cL_isTree 128 = .ok (.iconst 5, 1) := by decide +kernel
theorem dL_isTree_129 : decode cL_isTree 129 = .ok (.if_icmp .ge 7, 3) := by decide +kernel
theorem dL_isTree_132 : decode cL_isTree 132 = .ok (.iconst 1, 1) := by decide +kernel
theorem dL_isTree_133 : decode cL_isTree 133 = .ok (.goto 4, 3) := by decide +kernel
theorem dL_isTree_136 : decode cL_isTree 136 = .ok (.iconst 0, 1) := by decide +kernel
theorem dL_isTree_137 : decode cL_isTree 137 = .ok (.istore 4, 2) := by decide +kernel
theorem dL_isTree_139 : decode cL_isTree 139 = .ok (.iconst 0, 1) := by decide +kernel
theorem dL_isTree_140 : decode cL_isTree 140 = .ok (.istore 10, 2) := by decide +kernel
theorem dL_isTree_142 : decode cL_isTree 142 = .ok (.iload 10, 2) := by decide +kernel
theorem dL_isTree_144 : decode cL_isTree 144 = .ok (.iconst 4, 1) := by decide +kernel
theorem dL_isTree_145 : decode cL_isTree 145 = .ok (.if_icmp .ge 146, 3) := by decide +kernel
theorem dL_isTree_148 : decode cL_isTree 148 = .ok (.iload 4, 2) := by decide +kernel
theorem dL_isTree_150 : decode cL_isTree 150 = .ok (.ifCond .eq 141, 3) := by decide +kernel
theorem dL_isTree_153 : decode cL_isTree 153 = .ok (.iload 10, 2) := by decide +kernel
theorem dL_isTree_155 : decode cL_isTree 155 = .ok (.iconst 2, 1) := by decide +kernel
theorem dL_isTree_156 : decode cL_isTree 156 = .ok (.if_icmp .ge 9, 3) := by decide +kernel
theorem dL_isTree_159 : decode cL_isTree 159 = .ok (.sipush 255, 3) := by decide +kernel
theorem dL_isTree_162 : decode cL_isTree 162 = .ok (.goto 4, 3) := by decide +kernel
theorem dL_isTree_165 : decode cL_isTree 165 = .ok (.iconst 0, 1) := by decide +kernel
theorem dL_isTree_166 : decode cL_isTree 166 = .ok (.istore 11, 2) := by decide +kernel
theorem dL_isTree_168 : decode cL_isTree 168 = .ok (.iload 7, 2) := by decide +kernel
theorem dL_isTree_170 : decode cL_isTree 170 = .ok (.istore 12, 2) := by decide +kernel
theorem dL_isTree_172 : decode cL_isTree 172 = .ok (.iload 12, 2) := by decide +kernel
theorem dL_isTree_174 : decode cL_isTree 174 = .ok (.iload 7, 2) := by decide +kernel
theorem dL_isTree_176 : decode cL_isTree 176 = .ok (.iload 9, 2) := by decide +kernel
theorem dL_isTree_178 : decode cL_isTree 178 = .ok (.iadd, 1) := by decide +kernel
theorem dL_isTree_179 : decode cL_isTree 179 = .ok (.if_icmp .ge 84, 3) := by decide +kernel
theorem dL_isTree_182 : decode cL_isTree 182 = .ok (.iload 12, 2) := by decide +kernel
theorem dL_isTree_184 : decode cL_isTree 184 = .ok (.iload_n 2, 1) := by decide +kernel
theorem dL_isTree_185 : decode cL_isTree 185 = .ok (.if_icmp .ge 78, 3) := by decide +kernel
theorem dL_isTree_188 : decode cL_isTree 188 = .ok (.iload 5, 2) := by decide +kernel
theorem dL_isTree_190 : decode cL_isTree 190 = .ok (.ifCond .ne 18, 3) := by decide +kernel
theorem dL_isTree_193 : decode cL_isTree 193 = .ok (.aload_n 0, 1) := by decide +kernel
theorem dL_isTree_194 : decode cL_isTree 194 = .ok (.aload_n 0, 1) := by decide +kernel
theorem dL_isTree_195 : decode cL_isTree 195 = .ok (.iload 12, 2) := by decide +kernel
theorem dL_isTree_197 : decode cL_isTree 197 = .ok (.invokevirtual 44, 3) := by decide +kernel
theorem dL_isTree_200 : decode cL_isTree 200 = .ok (.iload 10, 2) := by decide +kernel
theorem dL_isTree_202 : decode cL_isTree 202 = .ok (.invokevirtual 28, 3) := by decide +kernel
theorem dL_isTree_205 : decode cL_isTree 205 = .ok (.goto 15, 3) := by decide +kernel
theorem dL_isTree_208 : decode cL_isTree 208 = .ok (.aload_n 0, 1) := by decide +kernel
theorem dL_isTree_209 : decode cL_isTree 209 = .ok (.iload 5, 2) := by decide +kernel
theorem dL_isTree_211 : decode cL_isTree 211 = .ok (.iconst 1, 1) := by decide +kernel
theorem dL_isTree_212 : decode cL_isTree 212 = .ok (.isub, 1) := by decide +kernel
theorem dL_isTree_213 : decode cL_isTree 213 = .ok (.iload 12, 2) := by decide +kernel
theorem dL_isTree_215 : decode cL_isTree 215 = .ok (.iload 10, 2) := by decide +kernel
theorem dL_isTree_217 : decode cL_isTree 217 = .ok (.invokevirtual 37, 3) := by decide +kernel
theorem dL_isTree_220 : decode cL_isTree 220 = .ok (.istore 13, 2) := by decide +kernel
theorem dL_isTree_222 : decode cL_isTree 222 = .ok (.iload 10, 2) := by decide +kernel
theorem dL_isTree_224 : decode cL_isTree 224 = .ok (.iconst 2, 1) := by decide +kernel
theorem dL_isTree_225 : decode cL_isTree 225 = .ok (.if_icmp .ge 7, 3) := by decide +kernel
theorem dL_isTree_228 : decode cL_isTree 228 = .ok (.iconst 1, 1) := by decide +kernel
theorem dL_isTree_229 : decode cL_isTree 229 = .ok (.goto 4, 3) := by decide +kernel
theorem dL_isTree_232 : decode cL_isTree 232 = .ok (.iconst 0, 1) := by decide +kernel
theorem dL_isTree_233 : decode cL_isTree 233 = .ok (.iload 13, 2) := by decide +kernel
theorem dL_isTree_235 : decode cL_isTree 235 = .ok (.iload 11, 2) := by decide +kernel
theorem dL_isTree_237 : decode cL_isTree 237 = .ok (.if_icmp .ge 7, 3) := by decide +kernel
theorem dL_isTree_240 : decode cL_isTree 240 = .ok (.iconst 1, 1) := by decide +kernel
theorem dL_isTree_241 : decode cL_isTree 241 = .ok (.goto 4, 3) := by decide +kernel
theorem dL_isTree_244 : decode cL_isTree 244 = .ok (.iconst 0, 1) := by decide +kernel
theorem dL_isTree_245 : decode cL_isTree 245 = .ok (.if_icmp .ne 8, 3) := by decide +kernel
theorem dL_isTree_248 : decode cL_isTree 248 = .ok (.iload 13, 2) := by decide +kernel
theorem dL_isTree_250 : decode cL_isTree 250 = .ok (.goto 5, 3) := by decide +kernel
theorem dL_isTree_253 : decode cL_isTree 253 = .ok (.iload 11, 2) := by decide +kernel
theorem dL_isTree_255 : decode cL_isTree 255 = .ok (.istore 11, 2) := by decide +kernel
theorem dL_isTree_257 : decode cL_isTree 257 = .ok (.iinc 12 1, 3) := by decide +kernel
theorem dL_isTree_260 : decode cL_isTree 260 = .ok (.goto (-88), 3) := by decide +kernel
theorem dL_isTree_263 : decode cL_isTree 263 = .ok (.aload_n 0, 1) := by decide +kernel
theorem dL_isTree_264 : decode cL_isTree 264 = .ok (.iload 5, 2) := by decide +kernel
theorem dL_isTree_266 : decode cL_isTree 266 = .ok (.iload 8, 2) := by decide +kernel
theorem dL_isTree_268 : decode cL_isTree 268 = .ok (.iload 10, 2) := by decide +kernel
theorem dL_isTree_270 : decode cL_isTree 270 = .ok (.invokevirtual 37, 3) := by decide +kernel
theorem dL_isTree_273 : decode cL_isTree 273 = .ok (.iload 11, 2) := by decide +kernel
theorem dL_isTree_275 : decode cL_isTree 275 = .ok (.if_icmp .ne 7, 3) := by decide +kernel
theorem dL_isTree_278 : decode cL_isTree 278 = .ok (.iconst 1, 1) := by decide +kernel
theorem dL_isTree_279 : decode cL_isTree 279 = .ok (.goto 4, 3) := by decide +kernel
theorem dL_isTree_282 : decode cL_isTree 282 = .ok (.iconst 0, 1) := by decide +kernel
theorem dL_isTree_283 : decode cL_isTree 283 = .ok (.istore 4, 2) := by decide +kernel
theorem dL_isTree_285 : decode cL_isTree 285 = .ok (.iinc 10 1, 3) := by decide +kernel
theorem dL_isTree_288 : decode cL_isTree 288 = .ok (.goto (-146), 3) := by decide +kernel
theorem dL_isTree_291 : decode cL_isTree 291 = .ok (.iload 7, 2) := by decide +kernel
theorem dL_isTree_293 : decode cL_isTree 293 = .ok (.istore 10, 2) := by decide +kernel
theorem dL_isTree_295 : decode cL_isTree 295 = .ok (.iload 10, 2) := by decide +kernel
theorem dL_isTree_297 : decode cL_isTree 297 = .ok (.iload 7, 2) := by decide +kernel
theorem dL_isTree_299 : decode cL_isTree 299 = .ok (.iload 9, 2) := by decide +kernel
theorem dL_isTree_301 : decode cL_isTree 301 = .ok (.iadd, 1) := by decide +kernel
theorem dL_isTree_302 : decode cL_isTree 302 = .ok (.if_icmp .ge 47, 3) := by decide +kernel
theorem dL_isTree_305 : decode cL_isTree 305 = .ok (.iload 10, 2) := by decide +kernel
theorem dL_isTree_307 : decode cL_isTree 307 = .ok (.iload_n 2, 1) := by decide +kernel
theorem dL_isTree_308 : decode cL_isTree 308 = .ok (.if_icmp .ge 41, 3) := by decide +kernel
theorem dL_isTree_311 : decode cL_isTree 311 = .ok (.iload 5, 2) := by decide +kernel
theorem dL_isTree_313 : decode cL_isTree 313 = .ok (.ifCond .ne 36, 3) := by decide +kernel
theorem dL_isTree_316 : decode cL_isTree 316 = .ok (.iload 4, 2) := by decide +kernel
theorem dL_isTree_318 : decode cL_isTree 318 = .ok (.ifCond .eq 31, 3) := by decide +kernel
theorem dL_isTree_321 : decode cL_isTree 321 = .ok (.aload_n 0, 1) := by decide +kernel
theorem dL_isTree_322 : decode cL_isTree 322 = .ok (.aload_n 0, 1) := by decide +kernel
theorem dL_isTree_323 : decode cL_isTree 323 = .ok (.iload 10, 2) := by decide +kernel
theorem dL_isTree_325 : decode cL_isTree 325 = .ok (.invokevirtual 44, 3) := by decide +kernel
theorem dL_isTree_328 : decode cL_isTree 328 = .ok (.invokevirtual 41, 3) := by decide +kernel
theorem dL_isTree_331 : decode cL_isTree 331 = .ok (.iload 8, 2) := by decide +kernel
theorem dL_isTree_333 : decode cL_isTree 333 = .ok (.if_icmp .ne 7, 3) := by decide +kernel
theorem dL_isTree_336 : decode cL_isTree 336 = .ok (.iconst 1, 1) := by decide +kernel
theorem dL_isTree_337 : decode cL_isTree 337 = .ok (.goto 4, 3) := by decide +kernel
theorem dL_isTree_340 : decode cL_isTree 340 = .ok (.iconst 0, 1) := by decide +kernel
theorem dL_isTree_341 : decode cL_isTree 341 = .ok (.istore 4, 2) := by decide +kernel
theorem dL_isTree_343 : decode cL_isTree 343 = .ok (.iinc 10 1, 3) := by decide +kernel
theorem dL_isTree_346 : decode cL_isTree 346 = .ok (.goto (-51), 3) := by decide +kernel
theorem dL_isTree_349 : decode cL_isTree 349 = .ok (.iload 7, 2) := by decide +kernel
theorem dL_isTree_351 : decode cL_isTree 351 = .ok (.iload 9, 2) := by decide +kernel
theorem dL_isTree_353 : decode cL_isTree 353 = .ok (.iadd, 1) := by decide +kernel
theorem dL_isTree_354 : decode cL_isTree 354 = .ok (.istore 7, 2) := by decide +kernel
theorem dL_isTree_356 : decode cL_isTree 356 = .ok (.iinc 8 1, 3) := by decide +kernel
theorem dL_isTree_359 : decode cL_isTree 359 = .ok (.goto (-260), 3) := by decide +kernel
theorem dL_isTree_362 : decode cL_isTree 362 = .ok (.iload 4, 2) := by decide +kernel
theorem dL_isTree_364 : decode cL_isTree 364 = .ok (.ifCond .eq 42, 3) := by decide +kernel
theorem dL_isTree_367 : decode cL_isTree 367 = .ok (.iload 7, 2) := by decide +kernel
theorem dL_isTree_369 : decode cL_isTree 369 = .ok (.iload_n 2, 1) := by decide +kernel
theorem dL_isTree_370 : decode cL_isTree 370 = .ok (.if_icmp .ne 36, 3) := by decide +kernel
theorem dL_isTree_373 : decode cL_isTree 373 = .ok (.aload_n 0, 1) := by decide +kernel
theorem dL_isTree_374 : decode cL_isTree 374 = .ok (.iconst 1, 1) := by decide +kernel
theorem dL_isTree_375 : decode cL_isTree 375 = .ok (.iload 5, 2) := by decide +kernel
theorem dL_isTree_377 : decode cL_isTree 377 = .ok (.iload 6, 2) := by decide +kernel
theorem dL_isTree_379 : decode cL_isTree 379 = .ok (.iconst 0, 1) := by decide +kernel
theorem dL_isTree_380 : decode cL_isTree 380 = .ok (.invokestatic 78, 3) := by decide +kernel
theorem dL_isTree_383 : decode cL_isTree 383 = .ok (.bipush (-30), 2) := by decide +kernel
theorem dL_isTree_385 : decode cL_isTree 385 = .ok (.if_icmp .ne 21, 3) := by decide +kernel
theorem dL_isTree_388 : decode cL_isTree 388 = .ok (.aload_n 0, 1) := by decide +kernel
theorem dL_isTree_389 : decode cL_isTree 389 = .ok (.iconst 2, 1) := by decide +kernel
theorem dL_isTree_390 : decode cL_isTree 390 = .ok (.iload 5, 2) := by decide +kernel
theorem dL_isTree_392 : decode cL_isTree 392 = .ok (.iconst 0, 1) := by decide +kernel
theorem dL_isTree_393 : decode cL_isTree 393 = .ok (.iconst 4, 1) := by decide +kernel
theorem dL_isTree_394 : decode cL_isTree 394 = .ok (.invokestatic 78, 3) := by decide +kernel
theorem dL_isTree_397 : decode cL_isTree 397 = .ok (.bipush (-20), 2) := by decide +kernel
theorem dL_isTree_399 : decode cL_isTree 399 = .ok (.if_icmp .ne 7, 3) := by decide +kernel
theorem dL_isTree_402 : decode cL_isTree 402 = .ok (.iconst 1, 1) := by decide +kernel
theorem dL_isTree_403 : decode cL_isTree 403 = .ok (.goto 4, 3) := by decide +kernel
theorem dL_isTree_406 : decode cL_isTree 406 = .ok (.iconst 0, 1) := by decide +kernel
theorem dL_isTree_407 : decode cL_isTree 407 = .ok (.istore 4, 2) := by decide +kernel
theorem dL_isTree_409 : decode cL_isTree 409 = .ok (.iload 6, 2) := by decide +kernel
theorem dL_isTree_411 : decode cL_isTree 411 = .ok (.istore_n 2, 1) := by decide +kernel
theorem dL_isTree_412 : decode cL_isTree 412 = .ok (.iinc 5 1, 3) := by decide +kernel
theorem dL_isTree_415 : decode cL_isTree 415 = .ok (.goto (-341), 3) := by decide +kernel
theorem dL_isTree_418 : decode cL_isTree 418 = .ok (.aload_n 0, 1) := by decide +kernel
theorem dL_isTree_419 : decode cL_isTree 419 = .ok (.invokestatic 87, 3) := by decide +kernel
theorem dL_isTree_422 : decode cL_isTree 422 = .ok (.fstore 5, 2) := by decide +kernel
theorem dL_isTree_424 : decode cL_isTree 424 = .ok (.iload 4, 2) := by decide +kernel
theorem dL_isTree_426 : decode cL_isTree 426 = .ok (.ifCond .eq 65, 3) := by decide +kernel
theorem dL_isTree_429 : decode cL_isTree 429 = .ok (.iload_n 3, 1) := by decide +kernel
theorem dL_isTree_430 : decode cL_isTree 430 = .ok (.ifCond .eq 25, 3) := by decide +kernel
theorem dL_isTree_433 : decode cL_isTree 433 = .ok (.iload_n 2, 1) := by decide +kernel
theorem dL_isTree_434 : decode cL_isTree 434 = .ok (.iconst 1, 1) := by decide +kernel
theorem dL_isTree_435 : decode cL_isTree 435 = .ok (.if_icmp .ne 56, 3) := by decide +kernel
theorem dL_isTree_438 : decode cL_isTree 438 = .ok (.iload_n 3, 1) := by decide +kernel
theorem dL_isTree_439 : decode cL_isTree 439 = .ok (.iconst 1, 1) := by decide +kernel
theorem dL_isTree_440 : decode cL_isTree 440 = .ok (.if_icmp .eq 15, 3) := by decide +kernel
theorem dL_isTree_443 : decode cL_isTree 443 = .ok (.aload_n 0, 1) := by decide +kernel
theorem dL_isTree_444 : decode cL_isTree 444 = .ok (.iload_n 3, 1) := by decide +kernel
theorem dL_isTree_445 : decode cL_isTree 445 = .ok (.iconst 1, 1) := by decide +kernel
theorem dL_isTree_446 : decode cL_isTree 446 = .ok (.isub, 1) := by decide +kernel
theorem dL_isTree_447 : decode cL_isTree 447 = .ok (.iconst 0, 1) := by decide +kernel
theorem dL_isTree_448 : decode cL_isTree 448 = .ok (.invokevirtual 34, 3) := by decide +kernel
theorem dL_isTree_451 : decode cL_isTree 451 = .ok (.iconst 1, 1) := by decide +kernel
theorem dL_isTree_452 : decode cL_isTree 452 = .ok (.if_icmp .le 39, 3) := by decide +kernel
theorem dL_isTree_455 : decode cL_isTree 455 = .ok (.iload_n 3, 1) := by decide +kernel
theorem dL_isTree_456 : decode cL_isTree 456 = .ok (.ifCond .ne 14, 3) := by decide +kernel
theorem dL_isTree_459 : decode cL_isTree 459 = .ok (.fload 5, 2) := by decide +kernel
theorem dL_isTree_461 : decode cL_isTree 461 = .ok (.ldc 73, 2) := by decide +kernel
theorem dL_isTree_463 : decode cL_isTree 463 = .ok (.fcmp .l, 1) := by decide +kernel
theorem dL_isTree_464 : decode cL_isTree 464 = .ok (.ifCond .ne 27, 3) := by decide +kernel
theorem dL_isTree_467 : decode cL_isTree 467 = .ok (.goto 20, 3) := by decide +kernel
theorem dL_isTree_470 : decode cL_isTree 470 = .ok (.fload 5, 2) := by decide +kernel
theorem dL_isTree_472 : decode cL_isTree 472 = .ok (.fconst 0, 1) := by decide +kernel
theorem dL_isTree_473 : decode cL_isTree 473 = .ok (.fcmp .l, 1) := by decide +kernel
theorem dL_isTree_474 : decode cL_isTree 474 = .ok (.ifCond .le 17, 3) := by decide +kernel
theorem dL_isTree_477 : decode cL_isTree 477 = .ok (.fload 5, 2) := by decide +kernel
theorem dL_isTree_479 : decode cL_isTree 479 = .ok (.aload_n 1, 1) := by decide +kernel
theorem dL_isTree_480 : decode cL_isTree 480 = .ok (.iconst 1, 1) := by decide +kernel
theorem dL_isTree_481 : decode cL_isTree 481 = .ok (.iaload, 1) := by decide +kernel
theorem dL_isTree_482 : decode cL_isTree 482 = .ok (.i2f, 1) := by decide +kernel
theorem dL_isTree_483 : decode cL_isTree 483 = .ok (.fcmp .g, 1) := by decide +kernel
theorem dL_isTree_484 : decode cL_isTree 484 = .ok (.ifCond .gt 7, 3) := by decide +kernel
theorem dL_isTree_487 : decode cL_isTree 487 = .ok (.iconst 1, 1) := by decide +kernel
theorem dL_isTree_488 : decode cL_isTree 488 = .ok (.goto 4, 3) := by decide +kernel
theorem dL_isTree_491 : decode cL_isTree 491 = .ok (.iconst 0, 1) := by decide +kernel
theorem dL_isTree_492 : decode cL_isTree 492 = .ok (.ireturn, 1) := by decide +kernel
set_option maxRecDepth 20000 in
theorem ggL_arePairs_L_pair : GoodIn wsL_arePairs wsL_pair := goodIn_ca (goodIn_r _ [44, 6, 45, 46, 47, 10, 48, 22, 23, 12, 49, 50, 51, 27, 52, 53, 54, 55, 56, 57, 58, 25, 26, 28, 29, 59, 31, 32, 33, 34, 60, 61, 37, 62, 63, 36, 38, 68, 69, 70, 71, 72, 73, 74, 75, 76] (by decide +kernel) (by decide +kernel)) (goodIn_sub (fun _ h => List.mem_cons_of_mem _ (List.mem_append_right _ h)) (by decide +kernel))
set_option maxRecDepth 20000 in
theorem gL_arePairs_L_pair : GoodIn wsL_arePairs (va_wsS RL 110 yL_pair wsL_pair) := goodIn_app (goodIn_of _ (by decide +kernel)) ggL_arePairs_L_pair
set_option maxRecDepth 20000 in
theorem ggL_arePairs_X4_pairs : GoodIn wsL_arePairs wsX4_pairs := goodIn_r _ [67, 12, 49, 50, 51, 27, 52, 53, 54, 55, 56, 57, 58, 25, 26, 28, 29, 59, 31, 32, 33, 34, 60, 61, 37, 62, 63, 36, 38, 68, 69, 70, 71, 72, 73, 74, 75, 76] (by decide +kernel) (by decide +kernel)
set_option maxRecDepth 20000 in
theorem gL_arePairs_X4_pairs : GoodIn wsL_arePairs (wsV RL 113 RX4 yX4_pairs wsX4_pairs) := goodIn_app (goodIn_of _ (by decide +kernel)) ggL_arePairs_X4_pairs
theorem dL_arePairs_0 : decode cL_arePairs 0 = .ok (.iconst 0, 1) := by decide +kernel
theorem dL_arePairs_1 : decode cL_arePairs 1 = .ok (.istore_n 2, 1) := by decide +kernel
theorem dL_arePairs_2 : decode cL_arePairs 2 = .ok (.iconst 1, 1) := by decide +kernel
theorem dL_arePairs_3 : decode cL_arePairs 3 = .ok (.istore_n 3, 1) := by decide +kernel
theorem dL_arePairs_4 : decode cL_arePairs 4 = .ok (.iconst 0, 1) := by decide +kernel
theorem dL_arePairs_5 : decode cL_arePairs 5 = .ok (.istore 4, 2) := by decide +kernel
theorem dL_arePairs_7 : decode cL_arePairs 7 = .ok (.iload 4, 2) := by decide +kernel
theorem dL_arePairs_9 : decode cL_arePairs 9 = .ok (.aload_n 1, 1) := by decide +kernel
theorem dL_arePairs_10 : decode cL_arePairs 10 = .ok (.iconst 0, 1) := by decide +kernel
theorem dL_arePairs_11 : decode cL_arePairs 11 = .ok (.iaload, 1) := by decide +kernel
theorem dL_arePairs_12 : decode cL_arePairs 12 = .ok (.if_icmp .ge 119, 3) := by decide +kernel
theorem dL_arePairs_15 : decode cL_arePairs 15 = .ok (.iload_n 3, 1) := by decide +kernel
theorem dL_arePairs_16 : decode cL_arePairs 16 = .ok (.ifCond .eq 115, 3) := by decide +kernel
theorem dL_arePairs_19 : decode cL_arePairs 19 = .ok (.iload 4, 2) := by decide +kernel
theorem dL_arePairs_21 : decode cL_arePairs 21 = .ok (.iconst 1, 1) := by decide +kernel
theorem dL_arePairs_22 : decode cL_arePairs 22 = .ok (.iadd, 1) := by decide +kernel
theorem dL_arePairs_23 : decode cL_arePairs 23 = .ok (.istore 5, 2) := by decide +kernel
theorem dL_arePairs_25 : decode cL_arePairs 25 = .ok (.iload 5, 2) := by decide +kernel
theorem dL_arePairs_27 : decode cL_arePairs 27 = .ok (.aload_n 1, 1) := by decide +kernel
theorem dL_arePairs_28 : decode cL_arePairs 28 = .ok (.iconst 0, 1) := by decide +kernel
theorem dL_arePairs_29 : decode cL_arePairs 29 = .ok (.iaload, 1) := by decide +kernel
theorem dL_arePairs_30 : decode cL_arePairs 30 = .ok (.if_icmp .ge 95, 3) := by decide +kernel
theorem dL_arePairs_33 : decode cL_arePairs 33 = .ok (.iload_n 3, 1) := by decide +kernel
theorem dL_arePairs_34 : decode cL_arePairs 34 = .ok (.ifCond .eq 91, 3) := by decide +kernel
theorem dL_arePairs_37 : decode cL_arePairs 37 = .ok (.aload_n 0, 1) := by decide +kernel
theorem dL_arePairs_38 : decode cL_arePairs 38 = .ok (.iload 4, 2) := by decide +kernel
theorem dL_arePairs_40 : decode cL_arePairs 40 = .ok (.iconst 0, 1) := by decide +kernel
theorem dL_arePairs_41 : decode cL_arePairs 41 = .ok (.invokestatic 106, 3) := by decide +kernel
theorem dL_arePairs_44 : decode cL_arePairs 44 = .ok (.ifCond .lt 75, 3) := by decide +kernel
theorem dL_arePairs_47 : decode cL_arePairs 47 = .ok (.aload_n 0, 1) := by decide +kernel
theorem dL_arePairs_48 : decode cL_arePairs 48 = .ok (.iload 5, 2) := by decide +kernel
theorem dL_arePairs_50 : decode cL_arePairs 50 = .ok (.iconst 0, 1) := by decide +kernel
theorem dL_arePairs_51 : decode cL_arePairs 51 = .ok (.invokestatic 106, 3) := by decide +kernel
theorem dL_arePairs_54 : decode cL_arePairs 54 = .ok (.ifCond .lt 65, 3) := by decide +kernel
theorem dL_arePairs_57 : decode cL_arePairs 57 = .ok (.aload_n 0, 1) := by decide +kernel
theorem dL_arePairs_58 : decode cL_arePairs 58 = .ok (.iload 4, 2) := by decide +kernel
theorem dL_arePairs_60 : decode cL_arePairs 60 = .ok (.aload_n 0, 1) := by decide +kernel
theorem dL_arePairs_61 : decode cL_arePairs 61 = .ok (.iload 5, 2) := by decide +kernel
theorem dL_arePairs_63 : decode cL_arePairs 63 = .ok (.iconst 0, 1) := by decide +kernel
theorem dL_arePairs_64 : decode cL_arePairs 64 = .ok (.invokevirtual 28, 3) := by decide +kernel
theorem dL_arePairs_67 : decode cL_arePairs 67 = .ok (.aload_n 0, 1) := by decide +kernel
theorem dL_arePairs_68 : decode cL_arePairs 68 = .ok (.iload 5, 2) := by decide +kernel
theorem dL_arePairs_70 : decode cL_arePairs 70 = .ok (.iconst 1, 1) := by decide +kernel
theorem dL_arePairs_71 : decode cL_arePairs 71 = .ok (.invokevirtual 28, 3) := by decide +kernel
theorem dL_arePairs_74 : decode cL_arePairs 74 = .ok (.aload_n 0, 1) := by decide +kernel
theorem dL_arePairs_75 : decode cL_arePairs 75 = .ok (.iload 5, 2) := by decide +kernel
theorem dL_arePairs_77 : decode cL_arePairs 77 = .ok (.iconst 2, 1) := by decide +kernel
theorem dL_arePairs_78 : decode cL_arePairs 78 = .ok (.invokevirtual 28, 3) := by decide +kernel
theorem dL_arePairs_81 : decode cL_arePairs 81 = .ok (.aload_n 0, 1) := by decide +kernel
theorem dL_arePairs_82 : decode cL_arePairs 82 = .ok (.iload 5, 2) := by decide +kernel
theorem dL_arePairs_84 : decode cL_arePairs 84 = .ok (.iconst 3, 1) := by decide +kernel
theorem dL_arePairs_85 : decode cL_arePairs 85 = .ok (.invokevirtual 28, 3) := by decide +kernel
theorem dL_arePairs_88 : decode cL_arePairs 88 = .ok (.invokestatic 98, 3) := by decide +kernel
theorem dL_arePairs_91 : decode cL_arePairs 91 = .ok (.ifCond .eq 28, 3) := by decide +kernel
theorem dL_arePairs_94 : decode cL_arePairs 94 = .ok (.aload_n 0, 1) := by decide +kernel
theorem dL_arePairs_95 : decode cL_arePairs 95 = .ok (.iload_n 2, 1) := by decide +kernel
theorem dL_arePairs_96 : decode cL_arePairs 96 = .ok (.invokestatic 110, 3) := by decide +kernel
theorem dL_arePairs_99 : decode cL_arePairs 99 = .ok (.bipush 100, 2) := by decide +kernel
theorem dL_arePairs_101 : decode cL_arePairs 101 = .ok (.iload 4, 2) := by decide +kernel
theorem dL_arePairs_103 : decode cL_arePairs 103 = .ok (.imul, 1) := by decide +kernel
theorem dL_arePairs_104 : decode cL_arePairs 104 = .ok (.iload 5, 2) := by decide +kernel
theorem dL_arePairs_106 : decode cL_arePairs 106 = .ok (.iadd, 1) := by decide +kernel
theorem dL_arePairs_107 : decode cL_arePairs 107 = .ok (.if_icmp .ne 7, 3) := by decide +kernel
theorem dL_arePairs_110 : decode cL_arePairs 110 = .ok (.iconst 1, 1) := by decide +kernel
theorem dL_arePairs_111 : decode cL_arePairs 111 = .ok (.goto 4, 3) := by decide +kernel
theorem dL_arePairs_114 : decode cL_arePairs 114 = .ok (.iconst 0, 1) := by decide +kernel
theorem dL_arePairs_115 : decode cL_arePairs 115 = .ok (.istore_n 3, 1) := by decide +kernel
theorem dL_arePairs_116 : decode cL_arePairs 116 = .ok (.iinc 2 1, 3) := by decide +kernel
theorem dL_arePairs_119 : decode cL_arePairs 119 = .ok (.iinc 5 1, 3) := by decide +kernel
theorem dL_arePairs_122 : decode cL_arePairs 122 = .ok (.goto (-97), 3) := by decide +kernel
theorem dL_arePairs_125 : decode cL_arePairs 125 = .ok (.iinc 4 1, 3) := by decide +kernel
theorem dL_arePairs_128 : decode cL_arePairs 128 = .ok (.goto (-121), 3) := by decide +kernel
theorem dL_arePairs_131 : decode cL_arePairs 131 = .ok (.iload_n 3, 1) := by decide +kernel
theorem dL_arePairs_132 : decode cL_arePairs 132 = .ok (.ifCond .eq 35, 3) := by decide +kernel
theorem dL_arePairs_135 : decode cL_arePairs 135 = .ok (.aload_n 0, 1) := by decide +kernel
theorem dL_arePairs_136 : decode cL_arePairs 136 = .ok (.invokevirtual 113, 3) := by decide +kernel
theorem dL_arePairs_139 : decode cL_arePairs 139 = .ok (.iload_n 2, 1) := by decide +kernel
theorem dL_arePairs_140 : decode cL_arePairs 140 = .ok (.if_icmp .ne 27, 3) := by decide +kernel
theorem dL_arePairs_143 : decode cL_arePairs 143 = .ok (.aload_n 0, 1) := by decide +kernel
theorem dL_arePairs_144 : decode cL_arePairs 144 = .ok (.iload_n 2, 1) := by decide +kernel
theorem dL_arePairs_145 : decode cL_arePairs 145 = .ok (.invokestatic 110, 3) := by decide +kernel
theorem dL_arePairs_148 : decode cL_arePairs 148 = .ok (.bipush (-30), 2) := by decide +kernel
theorem dL_arePairs_150 : decode cL_arePairs 150 = .ok (.if_icmp .ne 17, 3) := by decide +kernel
theorem dL_arePairs_153 : decode cL_arePairs 153 = .ok (.aload_n 0, 1) := by decide +kernel
theorem dL_arePairs_154 : decode cL_arePairs 154 = .ok (.iconst (-1), 1) := by decide +kernel
theorem dL_arePairs_155 : decode cL_arePairs 155 = .ok (.invokestatic 110, 3) := by decide +kernel
theorem dL_arePairs_158 : decode cL_arePairs 158 = .ok (.bipush (-30), 2) := by decide +kernel
theorem dL_arePairs_160 : decode cL_arePairs 160 = .ok (.if_icmp .ne 7, 3) := by decide +kernel
theorem dL_arePairs_163 : decode cL_arePairs 163 = .ok (.iconst 1, 1) := by decide +kernel
theorem dL_arePairs_164 : decode cL_arePairs 164 = .ok (.goto 4, 3) := by decide +kernel
theorem dL_arePairs_167 : decode cL_arePairs 167 = .ok (.iconst 0, 1) := by decide +kernel
theorem dL_arePairs_168 : decode cL_arePairs 168 = .ok (.ireturn, 1) := by decide +kernel
set_option maxRecDepth 20000 in
theorem ggL_areAll_L_isOrder : GoodIn wsL_areAll wsL_isOrder := goodIn_ca (goodIn_ca (goodIn_r _ [4, 5, 6, 7, 8, 9, 10, 11, 12, 13, 14, 15, 16, 17, 18, 3, 19, 20, 21, 22, 23, 24, 25, 26, 27, 28, 29, 30, 31, 32, 33, 34, 35, 36, 37, 38, 39, 40, 41, 42, 43, 44, 45, 46, 47, 48, 49, 50, 51, 52, 53, 54, 55, 56, 57, 58, 59, 60, 61, 62, 63, 64, 65, 66, 67, 68, 69, 70, 71, 72, 73, 74, 75, 76, 77, 78, 79, 80, 81, 82, 83, 84, 85, 86, 87, 88, 89, 90, 91, 92, 93, 94, 95, 96, 97, 98, 99, 100, 101, 102, 103, 104, 105, 106, 107, 108, 109, 110, 111, 112, 113, 114, 115, 116, 117, 118, 119, 120, 121, 122, 123, 124, 125, 126, 127, 128, 129, 130, 131, 132, 133, 134, 135, 136, 137, 138, 139, 140, 141, 142, 143, 144, 145, 146, 147, 148, 149, 150, 151, 152, 153, 154, 155, 156, 157, 158, 159, 160, 161, 162, 163, 164, 165, 166, 167, 168, 169, 195, 196, 197, 198, 199, 200, 201, 202, 203, 204, 205, 206] (by decide +kernel) (by decide +kernel)) (goodIn_sub (fun _ h => List.mem_cons_of_mem _ (List.mem_append_left _ (List.mem_append_left _ (List.mem_append_right _ h)))) (by decide +kernel))) (goodIn_sub (fun _ h => List.mem_cons_of_mem _ (List.mem_append_left _ (List.mem_append_right _ h))) (by decide +kernel))
set_option maxRecDepth 20000 in
theorem gL_areAll_L_isOrder : GoodIn wsL_areAll (va_wsS RL 116 yL_isOrder wsL_isOrder) := goodIn_app (goodIn_of _ (by decide +kernel)) ggL_areAll_L_isOrder
set_option maxRecDepth 20000 in
theorem ggL_areAll_L_isTree : GoodIn wsL_areAll wsL_isTree := goodIn_ca (goodIn_ca (goodIn_ca (goodIn_r _ [172, 173, 174, 175, 176, 8, 177, 28, 178, 179, 180, 32, 181, 34, 17, 18, 3, 19, 20, 21, 22, 23, 24, 25, 26, 27, 29, 30, 31, 33, 35, 36, 37, 38, 39, 40, 41, 42, 43, 44, 45, 46, 47, 48, 49, 50, 51, 52, 53, 54, 55, 56, 57, 58, 59, 60, 61, 62, 63, 64, 65, 66, 67, 68, 69, 70, 10, 71, 72, 73, 74, 75, 76, 77, 78, 79, 80, 81, 82, 83, 14, 84, 85, 86, 87, 88, 89, 16, 90, 91, 92, 93, 94, 95, 96, 97, 98, 99, 100, 101, 102, 103, 104, 105, 106, 107, 108, 109, 110, 111, 112, 113, 114, 115, 116, 117, 118, 119, 120, 121, 122, 123, 124, 125, 126, 127, 128, 129, 130, 131, 132, 133, 134, 135, 136, 137, 11, 12, 13, 15, 138, 139, 140, 141, 142, 143, 144, 145, 146, 147, 148, 149, 150, 151, 152, 182, 183, 184, 185, 186, 187, 188, 189, 190, 191, 192, 193, 194, 195, 196, 197, 204, 205, 206, 198, 199, 200, 201, 202, 203] (by decide +kernel) (by decide +kernel)) (goodIn_sub (fun _ h => List.mem_cons_of_mem _ (List.mem_append_left _ (List.mem_append_left _ (List.mem_append_right _ h)))) (by decide +kernel))) (goodIn_sub (fun _ h => List.mem_cons_of_mem _ (List.mem_append_left _ (List.mem_append_right _ h))) (by decide +kernel))) (goodIn_sub (fun _ h => List.mem_cons_of_mem _ (List.mem_append_right _ h)) (by decide +kernel))
set_option maxRecDepth 20000 in
theorem gL_areAll_L_isTree : GoodIn wsL_areAll (va_wsS RL 120 yL_isTree wsL_isTree) := goodIn_app (goodIn_of _ (by decide +kernel)) ggL_areAll_L_isTree
theorem dL_areAll_0 : decode cL_areAll 0 = .ok (.aload_n 0, 1) := by decide +kernel
theorem dL_areAll_1 : decode cL_areAll 1 = .ok (.aload_n 1, 1) := by decide +kernel
theorem dL_areAll_2 : decode cL_areAll 2 = .ok (.invokestatic 116, 3) := by decide +kernel
theorem dL_areAll_5 : decode cL_areAll 5 = .ok (.ifCond .eq 15, 3) := by decide +kernel
theorem dL_areAll_8 : decode cL_areAll 8 = .ok (.aload_n 0, 1) := by decide +kernel
theorem dL_areAll_9 : decode cL_areAll 9 = .ok (.aload_n 1, 1) := by decide +kernel
theorem dL_areAll_10 : decode cL_areAll 10 = .ok (.invokestatic 120, 3) := by decide +kernel
theorem dL_areAll_13 : decode cL_areAll 13 = .ok (.ifCond .eq 7, 3) := by decide +kernel
theorem dL_areAll_16 : decode cL_areAll 16 = .ok (.iconst 1, 1) := by decide +kernel
theorem dL_areAll_17 : decode cL_areAll 17 = .ok (.goto 4, 3) := by decide +kernel
theorem dL_areAll_20 : decode cL_areAll 20 = .ok (.iconst 0, 1) := by decide +kernel
theorem dL_areAll_21 : decode cL_areAll 21 = .ok (.ireturn, 1) := by decide +kernel
set_option maxRecDepth 20000 in
theorem ggL_isDone_L_part : GoodIn wsL_isDone wsL_part := goodIn_r _ [5, 6] (by decide +kernel) (by decide +kernel)
set_option maxRecDepth 20000 in
theorem gL_isDone_L_part : GoodIn wsL_isDone (va_wsS RL 129 yL_part wsL_part) := goodIn_app (goodIn_of _ (by decide +kernel)) ggL_isDone_L_part
set_option maxRecDepth 20000 in
theorem ggL_isDone_L_tree : GoodIn wsL_isDone wsL_tree := goodIn_ca (goodIn_ca (goodIn_r _ [224, 13, 167, 225, 226, 227, 18, 228, 179, 180, 23, 229, 125, 126, 87, 127, 89, 230, 113, 114, 115, 98, 231, 232, 233, 234, 235, 236, 237, 238, 239, 105, 106, 107, 240, 117, 118, 119, 103, 104, 241, 242, 243, 244, 172, 173, 174, 27, 28, 245, 246, 247, 248, 22, 249, 250, 251, 252, 140, 141, 142, 143, 112, 116, 253, 254, 255, 35, 256, 67, 68, 69, 70, 71, 38, 257, 186, 187, 188, 47, 258, 259, 41, 260, 261, 133, 134, 135, 262, 210, 211, 53, 54, 55, 263, 40, 42, 189, 264, 265, 266, 267, 175, 176, 177, 178, 181, 182, 183, 184, 49, 80, 81, 82, 83, 268, 109, 110, 111, 269, 270, 271, 272, 160, 161, 162, 163, 273, 274, 275, 276, 277, 278, 73, 74, 75, 48, 389, 390, 391, 398, 399, 400, 392, 393, 394, 395, 396, 397] (by decide +kernel) (by decide +kernel)) (goodIn_sub (fun _ h => List.mem_cons_of_mem _ (List.mem_append_right _ h)) (by decide +kernel))) (goodIn_sub (fun _ h => List.mem_cons_of_mem _ (List.mem_append_left _ (List.mem_append_right _ h))) (by decide +kernel))
set_option maxRecDepth 20000 in
theorem gL_isDone_L_tree : GoodIn wsL_isDone (va_wsS RL 78 yL_tree wsL_tree) := goodIn_app (goodIn_of _ (by decide +kernel)) ggL_isDone_L_tree
set_option maxRecDepth 20000 in
theorem ggL_isDone_X4_levels : GoodIn wsL_isDone wsX4_levels := goodIn_r _ [290, 23, 291, 292, 293, 87, 294, 89, 389, 390, 391, 398, 399, 400] (by decide +kernel) (by decide +kernel)
set_option maxRecDepth 20000 in
theorem gL_isDone_X4_levels : GoodIn wsL_isDone (wsV RL 84 RX4 yX4_levels wsX4_levels) := goodIn_app (goodIn_of _ (by decide +kernel)) ggL_isDone_X4_levels
set_option maxRecDepth 20000 in
theorem ggL_isDone_X4_nodes : GoodIn wsL_isDone wsX4_nodes := goodIn_ca (goodIn_r _ [228, 179, 180, 23, 229, 125, 126, 87, 127, 89, 230, 113, 114, 115, 98, 389, 390, 391, 398, 399, 400] (by decide +kernel) (by decide +kernel)) (goodIn_sub (fun _ h => List.mem_cons_of_mem _ (List.mem_append_right _ h)) (by decide +kernel))
set_option maxRecDepth 20000 in
theorem gL_isDone_X4_nodes : GoodIn wsL_isDone (wsV RL 31 RX4 yX4_nodes wsX4_nodes) := goodIn_app (goodIn_of _ (by decide +kernel)) ggL_isDone_X4_nodes
set_option maxRecDepth 20000 in
theorem ggL_isDone_L_arePairs : GoodIn wsL_isDone wsL_arePairs := goodIn_ca (goodIn_ca (goodIn_r _ [356, 164, 165, 4, 166, 13, 167, 168, 169, 170, 18, 171, 22, 172, 173, 174, 27, 28, 175, 176, 177, 178, 179, 180, 181, 182, 183, 35, 184, 49, 185, 186, 187, 188, 47, 189, 54, 41, 55, 298, 299, 300, 357, 358, 359, 360, 361, 362, 363, 364, 365, 366, 367, 37, 368, 369, 370, 371, 221, 257, 372, 309, 310, 53, 373, 374, 375, 376, 389, 390, 391, 392, 393, 394, 395, 396, 397] (by decide +kernel) (by decide +kernel)) (goodIn_sub (fun _ h => List.mem_cons_of_mem _ (List.mem_append_left _ (List.mem_append_right _ h))) (by decide +kernel))) (goodIn_sub (fun _ h => List.mem_cons_of_mem _ (List.mem_append_right _ h)) (by decide +kernel))
set_option maxRecDepth 20000 in
theorem gL_isDone_L_arePairs : GoodIn wsL_isDone (va_wsS RL 152 yL_arePairs wsL_arePairs) := goodIn_app (goodIn_of _ (by decide +kernel)) ggL_isDone_L_arePairs
theorem dL_isDone_0 : decode cL_isDone 0 = .ok (.aload_n 1, 1) := by decide +kernel
theorem dL_isDone_1 : decode cL_isDone 1 = .ok (.iload_n 2, 1) := by decide +kernel
theorem dL_isDone_2 : decode cL_isDone 2 = .ok (.bipush 20, 2) := by decide +kernel
theorem dL_isDone_4 : decode cL_isDone 4 = .ok (.invokestatic 129, 3) := by decide +kernel
theorem dL_isDone_7 : decode cL_isDone 7 = .ok (.istore 4, 2) := by decide +kernel
theorem dL_isDone_9 : decode cL_isDone 9 = .ok (.aload_n 1, 1) := by decide +kernel
theorem dL_isDone_10 : decode cL_isDone 10 = .ok (.iload_n 2, 1) := by decide +kernel
theorem dL_isDone_11 : decode cL_isDone 11 = .ok (.iconst 1, 1) := by decide +kernel
theorem dL_isDone_12 : decode cL_isDone 12 = .ok (.iadd, 1) := by decide +kernel
theorem dL_isDone_13 : decode cL_isDone 13 = .ok (.ldc 133, 2) := by decide +kernel
theorem dL_isDone_15 : decode cL_isDone 15 = .ok (.invokestatic 129, 3) := by decide +kernel
theorem dL_isDone_18 : decode cL_isDone 18 = .ok (.istore 5, 2) := by decide +kernel
theorem dL_isDone_20 : decode cL_isDone 20 = .ok (.aload_n 1, 1) := by decide +kernel
theorem dL_isDone_21 : decode cL_isDone 21 = .ok (.iload_n 2, 1) := by decide +kernel
theorem dL_isDone_22 : decode cL_isDone 22 = .ok (.iconst 2, 1) := by decide +kernel
theorem dL_isDone_23 : decode cL_isDone 23 = .ok (.iadd, 1) := by decide +kernel
theorem dL_isDone_24 : decode cL_isDone 24 = .ok (.sipush 7000, 3) := by decide +kernel
theorem dL_isDone_27 : decode cL_isDone 27 = .ok (.invokestatic 129, 3) := by decide +kernel
theorem dL_isDone_30 : decode cL_isDone 30 = .ok (.istore 6, 2) := by decide +kernel
theorem dL_isDone_32 : decode cL_isDone 32 = .ok (.aload_n 1, 1) := by decide +kernel
theorem dL_isDone_33 : decode cL_isDone 33 = .ok (.iload_n 2, 1) := by decide +kernel
theorem dL_isDone_34 : decode cL_isDone 34 = .ok (.iconst 3, 1) := by decide +kernel
theorem dL_isDone_35 : decode cL_isDone 35 = .ok (.iadd, 1) := by decide +kernel
theorem dL_isDone_36 : decode cL_isDone 36 = .ok (.sipush 8000, 3) := by decide +kernel
theorem dL_isDone_39 : decode cL_isDone 39 = .ok (.invokestatic 129, 3) := by decide +kernel
theorem dL_isDone_42 : decode cL_isDone 42 = .ok (.istore 7, 2) := by decide +kernel
theorem dL_isDone_44 : decode cL_isDone 44 = .ok (.iload 4, 2) := by decide +kernel
theorem dL_isDone_46 : decode cL_isDone 46 = .ok (.bipush 9, 2) := by decide +kernel
theorem dL_isDone_48 : decode cL_isDone 48 = .ok (.if_icmp .ge 52, 3) := by decide +kernel
theorem dL_isDone_51 : decode cL_isDone 51 = .ok (.aload_n 0, 1) := by decide +kernel
theorem dL_isDone_52 : decode cL_isDone 52 = .ok (.aload_n 3, 1) := by decide +kernel
theorem dL_isDone_53 : decode cL_isDone 53 = .ok (.iload 5, 2) := by decide +kernel
theorem dL_isDone_55 : decode cL_isDone 55 = .ok (.iload 6, 2) := by decide +kernel
theorem dL_isDone_57 : decode cL_isDone 57 = .ok (.iload 7, 2) := by decide +kernel
theorem dL_isDone_59 : decode cL_isDone 59 = .ok (.invokestatic 134, 3) := by decide +kernel
theorem dL_isDone_62 : decode cL_isDone 62 = .ok (.ifCond .eq 36, 3) := by decide +kernel
theorem dL_isDone_65 : decode cL_isDone 65 = .ok (.iload 4, 2) := by decide +kernel
theorem dL_isDone_67 : decode cL_isDone 67 = .ok (.iconst 5, 1) := by decide +kernel
theorem dL_isDone_68 : decode cL_isDone 68 = .ok (.if_icmp .lt 26, 3) := by decide +kernel
theorem dL_isDone_71 : decode cL_isDone 71 = .ok (.aload_n 0, 1) := by decide +kernel
theorem dL_isDone_72 : decode cL_isDone 72 = .ok (.aload_n 3, 1) := by decide +kernel
theorem dL_isDone_73 : decode cL_isDone 73 = .ok (.iload 6, 2) := by decide +kernel
theorem dL_isDone_75 : decode cL_isDone 75 = .ok (.iconst 3, 1) := by decide +kernel
theorem dL_isDone_76 : decode cL_isDone 76 = .ok (.imul, 1) := by decide +kernel
theorem dL_isDone_77 : decode cL_isDone 77 = .ok (.iload 7, 2) := by decide +kernel
theorem dL_isDone_79 : decode cL_isDone 79 = .ok (.iadd, 1) := by decide +kernel
theorem dL_isDone_80 : decode cL_isDone 80 = .ok (.iload 5, 2) := by decide +kernel
theorem dL_isDone_82 : decode cL_isDone 82 = .ok (.sipush 7000, 3) := by decide +kernel
theorem dL_isDone_85 : decode cL_isDone 85 = .ok (.irem, 1) := by decide +kernel
theorem dL_isDone_86 : decode cL_isDone 86 = .ok (.iload 6, 2) := by decide +kernel
theorem dL_isDone_88 : decode cL_isDone 88 = .ok (.invokestatic 134, 3) := by decide +kernel
theorem dL_isDone_91 : decode cL_isDone 91 = .ok (.ifCond .eq 7, 3) := by decide +kernel
theorem dL_isDone_94 : decode cL_isDone 94 = .ok (.iconst 1, 1) := by decide +kernel
theorem dL_isDone_95 : decode cL_isDone 95 = .ok (.goto 4, 3) := by decide +kernel
theorem dL_isDone_98 : decode cL_isDone 98 = .ok (.iconst 0, 1) := by decide +kernel
theorem dL_isDone_99 : decode cL_isDone 99 = .ok (.ireturn, 1) := by decide +kernel
theorem dL_isDone_100 : decode cL_isDone 100 = .ok (.iload 4, 2) := by decide +kernel
theorem dL_isDone_102 : decode cL_isDone 102 = .ok (.bipush 13, 2) := by decide +kernel
theorem dL_isDone_104 : decode cL_isDone 104 = .ok (.if_icmp .ge 118, 3) := by decide +kernel
theorem dL_isDone_107 : decode cL_isDone 107 = .ok (.iload 5, 2) := by decide +kernel
theorem dL_isDone_109 : decode cL_isDone 109 = .ok (.aload_n 3, 1) := by decide +kernel
theorem dL_isDone_110 : decode cL_isDone 110 = .ok (.iconst 0, 1) := by decide +kernel
theorem dL_isDone_111 : decode cL_isDone 111 = .ok (.iaload, 1) := by decide +kernel
theorem dL_isDone_112 : decode cL_isDone 112 = .ok (.iconst 1, 1) := by decide +kernel
theorem dL_isDone_113 : decode cL_isDone 113 = .ok (.iadd, 1) := by decide +kernel
theorem dL_isDone_114 : decode cL_isDone 114 = .ok (.irem, 1) := by decide +kernel
theorem dL_isDone_115 : decode cL_isDone 115 = .ok (.istore 8, 2) := by decide +kernel
theorem dL_isDone_117 : decode cL_isDone 117 = .ok (.aload_n 0, 1) := by decide +kernel
theorem dL_isDone_118 : decode cL_isDone 118 = .ok (.iload 8, 2) := by decide +kernel
theorem dL_isDone_120 : decode cL_isDone 120 = .ok (.iconst 0, 1) := by decide +kernel
theorem dL_isDone_121 : decode cL_isDone 121 = .ok (.invokestatic 106, 3) := by decide +kernel
theorem dL_isDone_124 : decode cL_isDone 124 = .ok (.ifCond .lt 7, 3) := by decide +kernel
theorem dL_isDone_127 : decode cL_isDone 127 = .ok (.iconst 1, 1) := by decide +kernel
theorem dL_isDone_128 : decode cL_isDone 128 = .ok (.goto 4, 3) := by decide +kernel
theorem dL_isDone_131 : decode cL_isDone 131 = .ok (.iconst 0, 1) := by decide +kernel
theorem dL_isDone_132 : decode cL_isDone 132 = .ok (.istore 9, 2) := by decide +kernel
theorem dL_isDone_134 : decode cL_isDone 134 = .ok (.aload_n 0, 1) := by decide +kernel
theorem dL_isDone_135 : decode cL_isDone 135 = .ok (.iload 8, 2) := by decide +kernel
theorem dL_isDone_137 : decode cL_isDone 137 = .ok (.invokestatic 138, 3) := by decide +kernel
theorem dL_isDone_140 : decode cL_isDone 140 = .ok (.istore 10, 2) := by decide +kernel
theorem dL_isDone_142 : decode cL_isDone 142 = .ok (.aload_n 3, 1) := by decide +kernel
theorem dL_isDone_143 : decode cL_isDone 143 = .ok (.iconst 1, 1) := by decide +kernel
theorem dL_isDone_144 : decode cL_isDone 144 = .ok (.dup2, 1) := by decide +kernel
theorem dL_isDone_145 : decode cL_isDone 145 = .ok (.iaload, 1) := by decide +kernel
theorem dL_isDone_146 : decode cL_isDone 146 = .ok (.iload 9, 2) := by decide +kernel
theorem dL_isDone_148 : decode cL_isDone 148 = .ok (.ifCond .eq 7, 3) := by decide +kernel
theorem dL_isDone_151 : decode cL_isDone 151 = .ok (.iconst 1, 1) := by decide +kernel
theorem dL_isDone_152 : decode cL_isDone 152 = .ok (.goto 4, 3) := by decide +kernel
theorem dL_isDone_155 : decode cL_isDone 155 = .ok (.iconst 0, 1) := by decide +kernel
theorem dL_isDone_156 : decode cL_isDone 156 = .ok (.isub, 1) := by decide +kernel
theorem dL_isDone_157 : decode cL_isDone 157 = .ok (.iastore, 1) := by decide +kernel
theorem dL_isDone_158 : decode cL_isDone 158 = .ok (.iload 10, 2) := by decide +kernel
theorem dL_isDone_160 : decode cL_isDone 160 = .ok (.iload 9, 2) := by decide +kernel
theorem dL_isDone_162 : decode cL_isDone 162 = .ok (.ifCond .eq 9, 3) := by decide +kernel
theorem dL_isDone_165 : decode cL_isDone 165 = .ok (.aload_n 3, 1) := by decide +kernel
theorem dL_isDone_166 : decode cL_isDone 166 = .ok (.iconst 1, 1) := by decide +kernel
theorem dL_isDone_167 : decode cL_isDone 167 = .ok (.iaload, 1) := by decide +kernel
theorem dL_isDone_168 : decode cL_isDone 168 = .ok (.goto 5, 3) := by decide +kernel
theorem dL_isDone_171 : decode cL_isDone 171 = .ok (.bipush (-30), 2) := by decide +kernel
theorem dL_isDone_173 : decode cL_isDone 173 = .ok (.if_icmp .ne 47, 3) := by decide +kernel
theorem dL_isDone_176 : decode cL_isDone 176 = .ok (.aload_n 0, 1) := by decide +kernel
theorem dL_isDone_177 : decode cL_isDone 177 = .ok (.iload 8, 2) := by decide +kernel
theorem dL_isDone_179 : decode cL_isDone 179 = .ok (.iconst 0, 1) := by decide +kernel
theorem dL_isDone_180 : decode cL_isDone 180 = .ok (.invokestatic 106, 3) := by decide +kernel
theorem dL_isDone_183 : decode cL_isDone 183 = .ok (.bipush (-30), 2) := by decide +kernel
theorem dL_isDone_185 : decode cL_isDone 185 = .ok (.if_icmp .ne 35, 3) := by decide +kernel
theorem dL_isDone_188 : decode cL_isDone 188 = .ok (.aload_n 0, 1) := by decide +kernel
theorem dL_isDone_189 : decode cL_isDone 189 = .ok (.iconst 3, 1) := by decide +kernel
theorem dL_isDone_190 : decode cL_isDone 190 = .ok (.iload 8, 2) := by decide +kernel
theorem dL_isDone_192 : decode cL_isDone 192 = .ok (.iconst 0, 1) := by decide +kernel
theorem dL_isDone_193 : decode cL_isDone 193 = .ok (.iconst 0, 1) := by decide +kernel
theorem dL_isDone_194 : decode cL_isDone 194 = .ok (.invokestatic 78, 3) := by decide +kernel
theorem dL_isDone_197 : decode cL_isDone 197 = .ok (.bipush (-30), 2) := by decide +kernel
theorem dL_isDone_199 : decode cL_isDone 199 = .ok (.if_icmp .ne 21, 3) := by decide +kernel
theorem dL_isDone_202 : decode cL_isDone 202 = .ok (.aload_n 0, 1) := by decide +kernel
theorem dL_isDone_203 : decode cL_isDone 203 = .ok (.iconst 5, 1) := by decide +kernel
theorem dL_isDone_204 : decode cL_isDone 204 = .ok (.iload 8, 2) := by decide +kernel
theorem dL_isDone_206 : decode cL_isDone 206 = .ok (.iconst 0, 1) := by decide +kernel
theorem dL_isDone_207 : decode cL_isDone 207 = .ok (.iconst 0, 1) := by decide +kernel
theorem dL_isDone_208 : decode cL_isDone 208 = .ok (.invokestatic 78, 3) := by decide +kernel
theorem dL_isDone_211 : decode cL_isDone 211 = .ok (.bipush (-30), 2) := by decide +kernel
theorem dL_isDone_213 : decode cL_isDone 213 = .ok (.if_icmp .ne 7, 3) := by decide +kernel
theorem dL_isDone_216 : decode cL_isDone 216 = .ok (.iconst 1, 1) := by decide +kernel
theorem dL_isDone_217 : decode cL_isDone 217 = .ok (.goto 4, 3) := by decide +kernel
theorem dL_isDone_220 : decode cL_isDone 220 = .ok (.iconst 0, 1) := by decide +kernel
theorem dL_isDone_221 : decode cL_isDone 221 = .ok (.ireturn, 1) := by decide +kernel
theorem dL_isDone_222 : decode cL_isDone 222 = .ok (.iload 4, 2) := by decide +kernel
theorem dL_isDone_224 : decode cL_isDone 224 = .ok (.bipush 13, 2) := by decide +kernel
theorem dL_isDone_226 : decode cL_isDone 226 = .ok (.if_icmp .ne 52, 3) := by decide +kernel
theorem dL_isDone_229 : decode cL_isDone 229 = .ok (.aload_n 3, 1) := by decide +kernel
theorem dL_isDone_230 : decode cL_isDone 230 = .ok (.iconst 1, 1) := by decide +kernel
theorem dL_isDone_231 : decode cL_isDone 231 = .ok (.iaload, 1) := by decide +kernel
theorem dL_isDone_232 : decode cL_isDone 232 = .ok (.iconst 3, 1) := by decide +kernel
theorem dL_isDone_233 : decode cL_isDone 233 = .ok (.iadd, 1) := by decide +kernel
theorem dL_isDone_234 : decode cL_isDone 234 = .ok (.iconst 4, 1) := by decide +kernel
theorem dL_isDone_235 : decode cL_isDone 235 = .ok (.idiv, 1) := by decide +kernel
theorem dL_isDone_236 : decode cL_isDone 236 = .ok (.istore 8, 2) := by decide +kernel
theorem dL_isDone_238 : decode cL_isDone 238 = .ok (.aload_n 0, 1) := by decide +kernel
theorem dL_isDone_239 : decode cL_isDone 239 = .ok (.invokevirtual 141, 3) := by decide +kernel
theorem dL_isDone_242 : decode cL_isDone 242 = .ok (.iload 8, 2) := by decide +kernel
theorem dL_isDone_244 : decode cL_isDone 244 = .ok (.if_icmp .ne 32, 3) := by decide +kernel
theorem dL_isDone_247 : decode cL_isDone 247 = .ok (.iload 8, 2) := by decide +kernel
theorem dL_isDone_249 : decode cL_isDone 249 = .ok (.ifCond .ne 13, 3) := by decide +kernel
theorem dL_isDone_252 : decode cL_isDone 252 = .ok (.aload_n 0, 1) := by decide +kernel
theorem dL_isDone_253 : decode cL_isDone 253 = .ok (.invokevirtual 84, 3) := by decide +kernel
theorem dL_isDone_256 : decode cL_isDone 256 = .ok (.ifCond .ne 20, 3) := by decide +kernel
theorem dL_isDone_259 : decode cL_isDone 259 = .ok (.goto 13, 3) := by decide +kernel
theorem dL_isDone_262 : decode cL_isDone 262 = .ok (.aload_n 0, 1) := by decide +kernel
theorem dL_isDone_263 : decode cL_isDone 263 = .ok (.iconst 0, 1) := by decide +kernel
theorem dL_isDone_264 : decode cL_isDone 264 = .ok (.invokevirtual 31, 3) := by decide +kernel
theorem dL_isDone_267 : decode cL_isDone 267 = .ok (.iload 8, 2) := by decide +kernel
theorem dL_isDone_269 : decode cL_isDone 269 = .ok (.if_icmp .ne 7, 3) := by decide +kernel
theorem dL_isDone_272 : decode cL_isDone 272 = .ok (.iconst 1, 1) := by decide +kernel
theorem dL_isDone_273 : decode cL_isDone 273 = .ok (.goto 4, 3) := by decide +kernel
theorem dL_isDone_276 : decode cL_isDone 276 = .ok (.iconst 0, 1) := by decide +kernel
theorem dL_isDone_277 : decode cL_isDone 277 = .ok (.ireturn, 1) := by decide +kernel
theorem dL_isDone_278 : decode cL_isDone 278 = .ok (.iload 5, 2) := by decide +kernel
theorem dL_isDone_280 : decode cL_isDone 280 = .ok (.sipush 256, 3) := by decide +kernel
theorem dL_isDone_283 : decode cL_isDone 283 = .ok (.irem, 1) := by decide +kernel
theorem dL_isDone_284 : decode cL_isDone 284 = .ok (.istore 8, 2) := by decide +kernel
theorem dL_isDone_286 : decode cL_isDone 286 = .ok (.iload 6, 2) := by decide +kernel
theorem dL_isDone_288 : decode cL_isDone 288 = .ok (.sipush 256, 3) := by decide +kernel
theorem dL_isDone_291 : decode cL_isDone 291 = .ok (.irem, 1) := by decide +kernel
theorem dL_isDone_292 : decode cL_isDone 292 = .ok (.istore 9, 2) := by decide +kernel
theorem dL_isDone_294 : decode cL_isDone 294 = .ok (.iload 8, 2) := by decide +kernel
theorem dL_isDone_296 : decode cL_isDone 296 = .ok (.iload 7, 2) := by decide +kernel
theorem dL_isDone_298 : decode cL_isDone 298 = .ok (.sipush 256, 3) := by decide +kernel
theorem dL_isDone_301 : decode cL_isDone 301 = .ok (.iload 8, 2) := by decide +kernel
theorem dL_isDone_303 : decode cL_isDone 303 = .ok (.isub, 1) := by decide +kernel
theorem dL_isDone_304 : decode cL_isDone 304 = .ok (.irem, 1) := by decide +kernel
theorem dL_isDone_305 : decode cL_isDone 305 = .ok (.iadd, 1) := by decide +kernel
theorem dL_isDone_306 : decode cL_isDone 306 = .ok (.istore 10, 2) := by decide +kernel
theorem dL_isDone_308 : decode cL_isDone 308 = .ok (.iload 9, 2) := by decide +kernel
theorem dL_isDone_310 : decode cL_isDone 310 = .ok (.iload 5, 2) := by decide +kernel
theorem dL_isDone_312 : decode cL_isDone 312 = .ok (.sipush 256, 3) := by decide +kernel
theorem dL_isDone_315 : decode cL_isDone 315 = .ok (.idiv, 1) := by decide +kernel
theorem dL_isDone_316 : decode cL_isDone 316 = .ok (.sipush 256, 3) := by decide +kernel
theorem dL_isDone_319 : decode cL_isDone 319 = .ok (.iload 9, 2) := by decide +kernel
theorem dL_isDone_321 : decode cL_isDone 321 = .ok (.isub, 1) := by decide +kernel
theorem dL_isDone_322 : decode cL_isDone 322 = .ok (.irem, 1) := by decide +kernel
theorem dL_isDone_323 : decode cL_isDone 323 = .ok (.iadd, 1) := by decide +kernel
theorem dL_isDone_324 : decode cL_isDone 324 = .ok (.istore 11, 2) := by decide +kernel
theorem dL_isDone_326 : decode cL_isDone 326 = .ok (.iload 4, 2) := by decide +kernel
theorem dL_isDone_328 : decode cL_isDone 328 = .ok (.bipush 16, 2) := by decide +kernel
theorem dL_isDone_330 : decode cL_isDone 330 = .ok (.if_icmp .ge 67, 3) := by decide +kernel
theorem dL_isDone_333 : decode cL_isDone 333 = .ok (.aload_n 0, 1) := by decide +kernel
theorem dL_isDone_334 : decode cL_isDone 334 = .ok (.aload_n 3, 1) := by decide +kernel
theorem dL_isDone_335 : decode cL_isDone 335 = .ok (.iload 8, 2) := by decide +kernel
theorem dL_isDone_337 : decode cL_isDone 337 = .ok (.iload 9, 2) := by decide +kernel
theorem dL_isDone_339 : decode cL_isDone 339 = .ok (.iload 10, 2) := by decide +kernel
theorem dL_isDone_341 : decode cL_isDone 341 = .ok (.iload 11, 2) := by decide +kernel
theorem dL_isDone_343 : decode cL_isDone 343 = .ok (.invokestatic 144, 3) := by decide +kernel
theorem dL_isDone_346 : decode cL_isDone 346 = .ok (.ifCond .eq 49, 3) := by decide +kernel
theorem dL_isDone_349 : decode cL_isDone 349 = .ok (.aload_n 0, 1) := by decide +kernel
theorem dL_isDone_350 : decode cL_isDone 350 = .ok (.iconst 0, 1) := by decide +kernel
theorem dL_isDone_351 : decode cL_isDone 351 = .ok (.iload 8, 2) := by decide +kernel
theorem dL_isDone_353 : decode cL_isDone 353 = .ok (.iload 9, 2) := by decide +kernel
theorem dL_isDone_355 : decode cL_isDone 355 = .ok (.iload 8, 2) := by decide +kernel
theorem dL_isDone_357 : decode cL_isDone 357 = .ok (.iconst 1, 1) := by decide +kernel
theorem dL_isDone_358 : decode cL_isDone 358 = .ok (.isub, 1) := by decide +kernel
theorem dL_isDone_359 : decode cL_isDone 359 = .ok (.iload 11, 2) := by decide +kernel
theorem dL_isDone_361 : decode cL_isDone 361 = .ok (.iconst 0, 1) := by decide +kernel
theorem dL_isDone_362 : decode cL_isDone 362 = .ok (.invokestatic 102, 3) := by decide +kernel
theorem dL_isDone_365 : decode cL_isDone 365 = .ok (.bipush (-20), 2) := by decide +kernel
theorem dL_isDone_367 : decode cL_isDone 367 = .ok (.if_icmp .ne 28, 3) := by decide +kernel
theorem dL_isDone_370 : decode cL_isDone 370 = .ok (.aload_n 0, 1) := by decide +kernel
theorem dL_isDone_371 : decode cL_isDone 371 = .ok (.iconst 1, 1) := by decide +kernel
theorem dL_isDone_372 : decode cL_isDone 372 = .ok (.iload 8, 2) := by decide +kernel
theorem dL_isDone_374 : decode cL_isDone 374 = .ok (.sipush 256, 3) := by decide +kernel
theorem dL_isDone_377 : decode cL_isDone 377 = .ok (.iload 10, 2) := by decide +kernel
theorem dL_isDone_379 : decode cL_isDone 379 = .ok (.sipush 256, 3) := by decide +kernel
theorem dL_isDone_382 : decode cL_isDone 382 = .ok (.iconst (-1), 1) := by decide +kernel
theorem dL_isDone_383 : decode cL_isDone 383 = .ok (.invokestatic 102, 3) := by decide +kernel
theorem dL_isDone_386 : decode cL_isDone 386 = .ok (.bipush (-20), 2) := by decide +kernel
theorem dL_isDone_388 : decode cL_isDone 388 = .ok (.if_icmp .ne 7, 3) := by decide +kernel
theorem dL_isDone_391 : decode cL_isDone 391 = .ok (.iconst 1, 1) := by decide +kernel
theorem dL_isDone_392 : decode cL_isDone 392 = .ok (.goto 4, 3) := by decide +kernel
theorem dL_isDone_395 : decode cL_isDone 395 = .ok (.iconst 0, 1) := by decide +kernel
theorem dL_isDone_396 : decode cL_isDone 396 = .ok (.ireturn, 1) := by decide +kernel
theorem dL_isDone_397 : decode cL_isDone 397 = .ok (.iload 4, 2) := by decide +kernel
theorem dL_isDone_399 : decode cL_isDone 399 = .ok (.bipush 18, 2) := by decide +kernel
theorem dL_isDone_401 : decode cL_isDone 401 = .ok (.if_icmp .ge 13, 3) := by decide +kernel
theorem dL_isDone_404 : decode cL_isDone 404 = .ok (.aload_n 0, 1) := by decide +kernel
theorem dL_isDone_405 : decode cL_isDone 405 = .ok (.aload_n 3, 1) := by decide +kernel
theorem dL_isDone_406 : decode cL_isDone 406 = .ok (.iload 8, 2) := by decide +kernel
theorem dL_isDone_408 : decode cL_isDone 408 = .ok (.iload 9, 2) := by decide +kernel
theorem dL_isDone_410 : decode cL_isDone 410 = .ok (.invokestatic 148, 3) := by decide +kernel
theorem dL_isDone_413 : decode cL_isDone 413 = .ok (.ireturn, 1) := by decide +kernel
theorem dL_isDone_414 : decode cL_isDone 414 = .ok (.iload 4, 2) := by decide +kernel
theorem dL_isDone_416 : decode cL_isDone 416 = .ok (.bipush 18, 2) := by decide +kernel
theorem dL_isDone_418 : decode cL_isDone 418 = .ok (.if_icmp .ne 11, 3) := by decide +kernel
theorem dL_isDone_421 : decode cL_isDone 421 = .ok (.aload_n 0, 1) := by decide +kernel
theorem dL_isDone_422 : decode cL_isDone 422 = .ok (.aload_n 3, 1) := by decide +kernel
theorem dL_isDone_423 : decode cL_isDone 423 = .ok (.invokestatic 152, 3) := by decide +kernel
theorem dL_isDone_426 : decode cL_isDone 426 = .ok (.goto 11, 3) := by decide +kernel
theorem dL_isDone_429 : decode cL_isDone 429 = .ok (.aload_n 0, 1) := by decide +kernel
theorem dL_isDone_430 : decode cL_isDone 430 = .ok (.iload 8, 2) := by decide +kernel
theorem dL_isDone_432 : decode cL_isDone 432 = .ok (.iload 9, 2) := by decide +kernel
theorem dL_isDone_434 : decode cL_isDone 434 = .ok (.invokestatic 155, 3) := by decide +kernel
theorem dL_isDone_437 : decode cL_isDone 437 = .ok (.ireturn, 1) := by decide +kernel
set_option maxRecDepth 20000 in
theorem ggL_law_X4_init : GoodIn wsL_law wsX4_init := goodIn_r _ [6, 7, 8, 9, 3, 10, 11, 12, 13, 14, 15, 16, 17, 18, 19, 20, 21, 22, 23, 24, 25, 26, 27, 28, 29, 30, 31, 431, 432, 433, 434, 435, 436, 437, 438, 439, 440, 441, 442] (by decide +kernel) (by decide +kernel)
set_option maxRecDepth 20000 in
theorem gL_law_X4_init : GoodIn wsL_law (wsX4_init) := ggL_law_X4_init
set_option maxRecDepth 20000 in
theorem ggL_law_L_areAll : GoodIn wsL_law wsL_areAll := goodIn_ca (goodIn_ca (goodIn_ca (goodIn_r _ [35, 36, 37, 34, 38, 39, 40, 41, 2, 42, 14, 43, 44, 45, 13, 46, 47, 48, 49, 50, 51, 52, 53, 54, 55, 56, 57, 58, 18, 59, 60, 61, 17, 62, 63, 64, 65, 66, 67, 31, 68, 69, 70, 71, 72, 73, 74, 75, 76, 77, 78, 79, 80, 81, 82, 83, 30, 84, 85, 86, 87, 88, 89, 90, 91, 92, 93, 94, 95, 96, 97, 98, 99, 100, 101, 102, 103, 104, 105, 106, 107, 108, 109, 110, 111, 112, 113, 114, 115, 26, 116, 117, 118, 119, 22, 120, 121, 122, 123, 124, 125, 126, 127, 128, 129, 130, 131, 132, 133, 134, 135, 136, 137, 138, 139, 140, 141, 142, 143, 144, 145, 146, 147, 148, 149, 25, 150, 151, 152, 153, 154, 155, 156, 157, 158, 159, 160, 161, 162, 163, 164, 165, 166, 167, 168, 169, 170, 23, 171, 172, 173, 174, 175, 176, 177, 178, 179, 180, 181, 182, 183, 184, 185, 186, 187, 188, 189, 190, 191, 192, 193, 194, 195, 196, 197, 198, 199, 200, 201, 202, 203, 204, 205, 206, 207, 208, 209, 210, 211, 212, 213, 214, 215, 216, 217, 431, 432, 433, 434, 435, 436, 437, 438, 439, 440, 441, 442] (by decide +kernel) (by decide +kernel)) (goodIn_sub (fun _ h => List.mem_append_left _ (List.mem_append_left _ (List.mem_append_right _ h))) (by decide +kernel))) (goodIn_sub (fun _ h => List.mem_append_left _ (List.mem_append_right _ h)) (by decide +kernel))) (goodIn_sub (fun _ h => List.mem_append_right _ h) (by decide +kernel))
set_option maxRecDepth 20000 in
theorem gL_law_L_areAll : GoodIn wsL_law (va_wsS RL 160 yL_areAll wsL_areAll) := goodIn_app (goodIn_of _ (by decide +kernel)) ggL_law_L_areAll
set_option maxRecDepth 20000 in
theorem ggL_law_L_arePairs : GoodIn wsL_law wsL_arePairs := goodIn_ca (goodIn_ca (goodIn_r _ [220, 221, 222, 34, 223, 51, 52, 171, 172, 173, 2, 174, 14, 89, 90, 91, 92, 93, 142, 143, 144, 145, 57, 58, 146, 147, 148, 13, 149, 25, 175, 117, 118, 119, 22, 137, 132, 122, 133, 224, 225, 226, 227, 228, 229, 230, 231, 232, 233, 234, 235, 236, 237, 238, 239, 240, 241, 242, 243, 116, 244, 245, 246, 131, 247, 248, 249, 250, 431, 432, 433, 434, 435, 436, 437, 438, 439] (by decide +kernel) (by decide +kernel)) (goodIn_sub (fun _ h => List.mem_append_left _ (List.mem_append_right _ h)) (by decide +kernel))) (goodIn_sub (fun _ h => List.mem_append_left _ (List.mem_append_left _ (List.mem_append_right _ h))) (by decide +kernel))
set_option maxRecDepth 20000 in
theorem gL_law_L_arePairs : GoodIn wsL_law (va_wsS RL 152 yL_arePairs wsL_arePairs) := goodIn_app (goodIn_of _ (by decide +kernel)) ggL_law_L_arePairs
theorem xg_cons {big a : List Cond} {c : Cond} (h : GoodIn big [c]) (ha : GoodIn big a) : GoodIn big (c :: a) := fun w hw => (List.mem_cons.mp hw).elim (fun e => h w (List.mem_singleton.mpr e)) (ha w)
set_option maxRecDepth 20000 in
theorem ggL_law_L_isDone_c0 : GoodIn wsL_law [.code yL_isDone cL_isDone 12 (some .boolean)] := goodIn_r _ [253] (by decide +kernel) (by decide +kernel)
set_option maxRecDepth 20000 in
theorem ggL_law_L_isDone_r1 : GoodIn wsL_law wsL_isDone_r1 := goodIn_r _ [254, 255, 256, 34, 257, 258, 259, 260, 261, 262, 263, 264, 51, 208, 265, 266, 267, 2, 268, 213, 214, 14, 18, 269] (by decide +kernel) (by decide +kernel)
set_option maxRecDepth 20000 in
theorem ggL_law_L_isDone_r2 : GoodIn wsL_law wsL_isDone_r2 := goodIn_r _ [270, 271, 92, 93, 183, 184, 185, 272, 273, 274, 13, 275, 238, 47, 276, 135, 122, 136, 277, 278, 279, 280, 22, 23] (by decide +kernel) (by decide +kernel)
set_option maxRecDepth 20000 in
theorem ggL_law_L_isDone_r3 : GoodIn wsL_law wsL_isDone_r3 := goodIn_r _ [25, 281, 282, 283, 131, 132, 133, 284, 187, 188, 189, 190, 191, 192, 285, 286, 287, 288, 112, 113, 114, 115, 26, 289] (by decide +kernel) (by decide +kernel)
set_option maxRecDepth 20000 in
theorem ggL_law_L_isDone_r4 : GoodIn wsL_law wsL_isDone_r4 := goodIn_r _ [168, 169, 170, 290, 291, 292, 293, 150, 151, 152, 153, 294, 295, 296, 17, 297, 63, 298, 299, 300, 301, 302, 303, 304] (by decide +kernel) (by decide +kernel)
set_option maxRecDepth 20000 in
theorem ggL_law_L_isDone_r5 : GoodIn wsL_law wsL_isDone_r5 := goodIn_r _ [305, 31, 306, 307, 308, 309, 30, 84, 77, 78, 79, 310, 155, 156, 157, 106, 65, 66, 67, 107, 81, 82, 83, 311] (by decide +kernel) (by decide +kernel)
set_option maxRecDepth 20000 in
theorem ggL_law_L_isDone_r6 : GoodIn wsL_law wsL_isDone_r6 := goodIn_r _ [312, 313, 314, 315, 60, 61, 62, 316, 317, 318, 319, 320, 125, 126, 127, 321, 322, 323, 324, 102, 103, 104, 105, 325] (by decide +kernel) (by decide +kernel)
set_option maxRecDepth 20000 in
theorem ggL_law_L_isDone_r7 : GoodIn wsL_law wsL_isDone_r7 := goodIn_r _ [326, 327, 328, 329, 330, 331, 332, 333, 334, 335, 336, 39, 40, 41, 42, 43, 44, 45, 46, 221, 222, 223, 52, 171] (by decide +kernel) (by decide +kernel)
set_option maxRecDepth 20000 in
theorem ggL_law_L_isDone_r8 : GoodIn wsL_law wsL_isDone_r8 := goodIn_r _ [172, 173, 174, 89, 90, 91, 142, 143, 144, 145, 57, 58, 146, 147, 148, 149, 175, 117, 118, 119, 137, 337, 338, 339] (by decide +kernel) (by decide +kernel)
set_option maxRecDepth 20000 in
theorem ggL_law_L_isDone_r9 : GoodIn wsL_law wsL_isDone_r9 := goodIn_r _ [340, 341, 342, 343, 344, 345, 346, 347, 348, 349, 350, 351, 352, 353, 354, 355, 356, 129, 130, 357, 358, 359, 360, 361] (by decide +kernel) (by decide +kernel)
set_option maxRecDepth 20000 in
theorem ggL_law_L_isDone_r10 : GoodIn wsL_law wsL_isDone_r10 := goodIn_r _ [362, 363, 364, 365, 243, 48, 49, 50, 53, 54, 55, 56, 59, 64, 68, 69, 70, 71, 72, 73, 74, 75, 76, 80] (by decide +kernel) (by decide +kernel)
set_option maxRecDepth 20000 in
theorem ggL_law_L_isDone_r11 : GoodIn wsL_law wsL_isDone_r11 := goodIn_r _ [85, 86, 87, 88, 94, 95, 96, 97, 98, 99, 100, 101, 108, 109, 110, 111, 116, 120, 121, 123, 124, 128, 134, 138] (by decide +kernel) (by decide +kernel)
set_option maxRecDepth 20000 in
theorem ggL_law_L_isDone_r12 : GoodIn wsL_law wsL_isDone_r12 := goodIn_r _ [139, 140, 141, 154, 158, 159, 160, 161, 162, 163, 164, 165, 166, 167, 366, 367, 368, 369, 370, 371, 372, 373, 197, 198] (by decide +kernel) (by decide +kernel)
set_option maxRecDepth 20000 in
theorem ggL_law_L_isDone_r13 : GoodIn wsL_law wsL_isDone_r13 := goodIn_r _ [199, 200, 201, 202, 203, 204, 374, 375, 376, 224, 225, 226, 377, 378, 379, 380, 381, 382, 383, 384, 245, 246, 385, 386] (by decide +kernel) (by decide +kernel)
set_option maxRecDepth 20000 in
theorem ggL_law_L_isDone_r14 : GoodIn wsL_law wsL_isDone_r14 := goodIn_r _ [387, 388, 389, 390, 391, 392, 393, 394, 395, 396, 397, 398, 399, 400, 401, 402, 180, 181, 182, 403, 404, 405, 406, 407] (by decide +kernel) (by decide +kernel)
set_option maxRecDepth 20000 in
theorem ggL_law_L_isDone_r15 : GoodIn wsL_law wsL_isDone_r15 := goodIn_r _ [408, 409, 410, 411, 412, 413, 414, 415, 416, 10, 417, 418, 419, 420, 421, 422, 423, 218, 219, 220, 227, 228, 229, 230] (by decide +kernel) (by decide +kernel)
set_option maxRecDepth 20000 in
theorem ggL_law_L_isDone_r16 : GoodIn wsL_law wsL_isDone_r16 := goodIn_r _ [231, 232, 233, 234, 235, 236, 237, 239, 240, 241, 242, 244, 247, 248, 249, 250, 424, 425, 426, 427, 176, 177, 178, 179] (by decide +kernel) (by decide +kernel)
set_option maxRecDepth 20000 in
theorem ggL_law_L_isDone_r17 : GoodIn wsL_law wsL_isDone_r17 := goodIn_r _ [186, 428, 429, 430] (by decide +kernel) (by decide +kernel)
set_option maxRecDepth 20000 in
theorem ggL_law_L_isDone_u4 : GoodIn wsL_law wsX40 := goodIn_r _ [431, 432, 433] (by decide +kernel) (by decide +kernel)
set_option maxRecDepth 20000 in
theorem ggL_law_L_isDone_u2 : GoodIn wsL_law wsX20 := goodIn_r _ [434, 435, 436, 437, 438, 439] (by decide +kernel) (by decide +kernel)
set_option maxRecDepth 20000 in
theorem ggL_law_L_isDone_u3 : GoodIn wsL_law wsX30 := goodIn_r _ [440, 441, 442] (by decide +kernel) (by decide +kernel)
set_option maxRecDepth 20000 in
theorem ggL_law_L_isDone : GoodIn wsL_law wsL_isDone := goodIn_ca (goodIn_ca (goodIn_ca (xg_cons ggL_law_L_isDone_c0 (goodIn_app (goodIn_app (goodIn_app (goodIn_app ggL_law_L_isDone_r1 (goodIn_app ggL_law_L_isDone_r2 (goodIn_app ggL_law_L_isDone_r3 (goodIn_app ggL_law_L_isDone_r4 (goodIn_app ggL_law_L_isDone_r5 (goodIn_app ggL_law_L_isDone_r6 (goodIn_app ggL_law_L_isDone_r7 (goodIn_app ggL_law_L_isDone_r8 (goodIn_app ggL_law_L_isDone_r9 (goodIn_app ggL_law_L_isDone_r10 (goodIn_app ggL_law_L_isDone_r11 (goodIn_app ggL_law_L_isDone_r12 (goodIn_app ggL_law_L_isDone_r13 (goodIn_app ggL_law_L_isDone_r14 (goodIn_app ggL_law_L_isDone_r15 (goodIn_app ggL_law_L_isDone_r16 ggL_law_L_isDone_r17)))))))))))))))) ggL_law_L_isDone_u4) ggL_law_L_isDone_u2) ggL_law_L_isDone_u3)) (goodIn_sub (fun _ h => List.mem_append_right _ h) (by decide +kernel))) (goodIn_sub (fun _ h => List.mem_append_left _ (List.mem_append_right _ h)) (by decide +kernel))) (goodIn_sub (fun _ h => List.mem_append_left _ (List.mem_append_left _ (List.mem_append_right _ h))) (by decide +kernel))
set_option maxRecDepth 20000 in
theorem gL_law_L_isDone : GoodIn wsL_law (va_wsS RL 163 yL_isDone wsL_isDone) := goodIn_app (goodIn_of _ (by decide +kernel)) ggL_law_L_isDone
theorem dL_law_0 : decode cL_law 0 = .ok (.new 9, 3) := by decide +kernel
theorem dL_law_3 : decode cL_law 3 = .ok (.dup, 1) := by decide +kernel
theorem dL_law_4 : decode cL_law 4 = .ok (.invokespecial 159, 3) := by decide +kernel
theorem dL_law_7 : decode cL_law 7 = .ok (.astore_n 1, 1) := by decide +kernel
theorem dL_law_8 : decode cL_law 8 = .ok (.iconst 2, 1) := by decide +kernel
theorem dL_law_9 : decode cL_law 9 = .ok (.newarray .int, 2) := by decide +kernel
theorem dL_law_11 : decode cL_law 11 = .ok (.astore_n 2, 1) := by decide +kernel
theorem dL_law_12 : decode cL_law 12 = .ok (.aload_n 1, 1) := by decide +kernel
theorem dL_law_13 : decode cL_law 13 = .ok (.aload_n 2, 1) := by decide +kernel
theorem dL_law_14 : decode cL_law 14 = .ok (.invokestatic 160, 3) := by decide +kernel
theorem dL_law_17 : decode cL_law 17 = .ok (.ifCond .eq 15, 3) := by decide +kernel
theorem dL_law_20 : decode cL_law 20 = .ok (.aload_n 1, 1) := by decide +kernel
theorem dL_law_21 : decode cL_law 21 = .ok (.aload_n 2, 1) := by decide +kernel
theorem dL_law_22 : decode cL_law 22 = .ok (.invokestatic 152, 3) := by decide +kernel
theorem dL_law_25 : decode cL_law 25 = .ok (.ifCond .eq 7, 3) := by decide +kernel
theorem dL_law_28 : decode cL_law 28 = .ok (.iconst 1, 1) := by decide +kernel
theorem dL_law_29 : decode cL_law 29 = .ok (.goto 4, 3) := by decide +kernel
theorem dL_law_32 : decode cL_law 32 = .ok (.iconst 0, 1) := by decide +kernel
theorem dL_law_33 : decode cL_law 33 = .ok (.istore_n 3, 1) := by decide +kernel
theorem dL_law_34 : decode cL_law 34 = .ok (.iconst 0, 1) := by decide +kernel
theorem dL_law_35 : decode cL_law 35 = .ok (.istore 4, 2) := by decide +kernel
theorem dL_law_37 : decode cL_law 37 = .ok (.iload 4, 2) := by decide +kernel
theorem dL_law_39 : decode cL_law 39 = .ok (.bipush 64, 2) := by decide +kernel
theorem dL_law_41 : decode cL_law 41 = .ok (.if_icmp .ge 48, 3) := by decide +kernel
theorem dL_law_44 : decode cL_law 44 = .ok (.iload_n 3, 1) := by decide +kernel
theorem dL_law_45 : decode cL_law 45 = .ok (.ifCond .eq 44, 3) := by decide +kernel
theorem dL_law_48 : decode cL_law 48 = .ok (.aload_n 1, 1) := by decide +kernel
theorem dL_law_49 : decode cL_law 49 = .ok (.aload_n 0, 1) := by decide +kernel
theorem dL_law_50 : decode cL_law 50 = .ok (.iconst 4, 1) := by decide +kernel
theorem dL_law_51 : decode cL_law 51 = .ok (.iload 4, 2) := by decide +kernel
theorem dL_law_53 : decode cL_law 53 = .ok (.imul, 1) := by decide +kernel
theorem dL_law_54 : decode cL_law 54 = .ok (.aload_n 2, 1) := by decide +kernel
theorem dL_law_55 : decode cL_law 55 = .ok (.invokestatic 163, 3) := by decide +kernel
theorem dL_law_58 : decode cL_law 58 = .ok (.ifCond .eq 23, 3) := by decide +kernel
theorem dL_law_61 : decode cL_law 61 = .ok (.iload 4, 2) := by decide +kernel
theorem dL_law_63 : decode cL_law 63 = .ok (.iconst 4, 1) := by decide +kernel
theorem dL_law_64 : decode cL_law 64 = .ok (.irem, 1) := by decide +kernel
theorem dL_law_65 : decode cL_law 65 = .ok (.iconst 3, 1) := by decide +kernel
theorem dL_law_66 : decode cL_law 66 = .ok (.if_icmp .lt 11, 3) := by decide +kernel
theorem dL_law_69 : decode cL_law 69 = .ok (.aload_n 1, 1) := by decide +kernel
theorem dL_law_70 : decode cL_law 70 = .ok (.aload_n 2, 1) := by decide +kernel
theorem dL_law_71 : decode cL_law 71 = .ok (.invokestatic 160, 3) := by decide +kernel
theorem dL_law_74 : decode cL_law 74 = .ok (.ifCond .eq 7, 3) := by decide +kernel
theorem dL_law_77 : decode cL_law 77 = .ok (.iconst 1, 1) := by decide +kernel
theorem dL_law_78 : decode cL_law 78 = .ok (.goto 4, 3) := by decide +kernel
theorem dL_law_81 : decode cL_law 81 = .ok (.iconst 0, 1) := by decide +kernel
theorem dL_law_82 : decode cL_law 82 = .ok (.istore_n 3, 1) := by decide +kernel
theorem dL_law_83 : decode cL_law 83 = .ok (.iinc 4 1, 3) := by decide +kernel
theorem dL_law_86 : decode cL_law 86 = .ok (.goto (-49), 3) := by decide +kernel
theorem dL_law_89 : decode cL_law 89 = .ok (.iload_n 3, 1) := by decide +kernel
theorem dL_law_90 : decode cL_law 90 = .ok (.ifCond .eq 69, 3) := by decide +kernel
theorem dL_law_93 : decode cL_law 93 = .ok (.aload_n 1, 1) := by decide +kernel
theorem dL_law_94 : decode cL_law 94 = .ok (.iconst 1, 1) := by decide +kernel
theorem dL_law_95 : decode cL_law 95 = .ok (.iconst 0, 1) := by decide +kernel
theorem dL_law_96 : decode cL_law 96 = .ok (.iconst 0, 1) := by decide +kernel
theorem dL_law_97 : decode cL_law 97 = .ok (.iconst 0, 1) := by decide +kernel
theorem dL_law_98 : decode cL_law 98 = .ok (.invokestatic 126, 3) := by decide +kernel
theorem dL_law_101 : decode cL_law 101 = .ok (.bipush (-20), 2) := by decide +kernel
theorem dL_law_103 : decode cL_law 103 = .ok (.if_icmp .ne 56, 3) := by decide +kernel
theorem dL_law_106 : decode cL_law 106 = .ok (.aload_n 1, 1) := by decide +kernel
theorem dL_law_107 : decode cL_law 107 = .ok (.iconst 0, 1) := by decide +kernel
theorem dL_law_108 : decode cL_law 108 = .ok (.iconst 0, 1) := by decide +kernel
theorem dL_law_109 : decode cL_law 109 = .ok (.iconst 0, 1) := by decide +kernel
theorem dL_law_110 : decode cL_law 110 = .ok (.sipush 256, 3) := by decide +kernel
theorem dL_law_113 : decode cL_law 113 = .ok (.invokestatic 126, 3) := by decide +kernel
theorem dL_law_116 : decode cL_law 116 = .ok (.bipush (-20), 2) := by decide +kernel
theorem dL_law_118 : decode cL_law 118 = .ok (.if_icmp .ne 41, 3) := by decide +kernel
theorem dL_law_121 : decode cL_law 121 = .ok (.aload_n 1, 1) := by decide +kernel
theorem dL_law_122 : decode cL_law 122 = .ok (.iconst (-1), 1) := by decide +kernel
theorem dL_law_123 : decode cL_law 123 = .ok (.invokestatic 138, 3) := by decide +kernel
theorem dL_law_126 : decode cL_law 126 = .ok (.bipush (-30), 2) := by decide +kernel
theorem dL_law_128 : decode cL_law 128 = .ok (.if_icmp .ne 31, 3) := by decide +kernel
theorem dL_law_131 : decode cL_law 131 = .ok (.aload_n 1, 1) := by decide +kernel
theorem dL_law_132 : decode cL_law 132 = .ok (.bipush 100, 2) := by decide +kernel
theorem dL_law_134 : decode cL_law 134 = .ok (.iconst 4, 1) := by decide +kernel
theorem dL_law_135 : decode cL_law 135 = .ok (.invokestatic 106, 3) := by decide +kernel
theorem dL_law_138 : decode cL_law 138 = .ok (.bipush (-20), 2) := by decide +kernel
theorem dL_law_140 : decode cL_law 140 = .ok (.if_icmp .ne 19, 3) := by decide +kernel
theorem dL_law_143 : decode cL_law 143 = .ok (.aload_n 1, 1) := by decide +kernel
theorem dL_law_144 : decode cL_law 144 = .ok (.bipush 100, 2) := by decide +kernel
theorem dL_law_146 : decode cL_law 146 = .ok (.iconst 0, 1) := by decide +kernel
theorem dL_law_147 : decode cL_law 147 = .ok (.invokestatic 106, 3) := by decide +kernel
theorem dL_law_150 : decode cL_law 150 = .ok (.bipush (-30), 2) := by decide +kernel
theorem dL_law_152 : decode cL_law 152 = .ok (.if_icmp .ne 7, 3) := by decide +kernel
theorem dL_law_155 : decode cL_law 155 = .ok (.iconst 1, 1) := by decide +kernel
theorem dL_law_156 : decode cL_law 156 = .ok (.goto 4, 3) := by decide +kernel
theorem dL_law_159 : decode cL_law 159 = .ok (.iconst 0, 1) := by decide +kernel
theorem dL_law_160 : decode cL_law 160 = .ok (.istore_n 3, 1) := by decide +kernel
theorem dL_law_161 : decode cL_law 161 = .ok (.iload_n 3, 1) := by decide +kernel
theorem dL_law_162 : decode cL_law 162 = .ok (.ifCond .eq 23, 3) := by decide +kernel
theorem dL_law_165 : decode cL_law 165 = .ok (.aload_n 1, 1) := by decide +kernel
theorem dL_law_166 : decode cL_law 166 = .ok (.aload_n 2, 1) := by decide +kernel
theorem dL_law_167 : decode cL_law 167 = .ok (.invokestatic 160, 3) := by decide +kernel
theorem dL_law_170 : decode cL_law 170 = .ok (.ifCond .eq 15, 3) := by decide +kernel
theorem dL_law_173 : decode cL_law 173 = .ok (.aload_n 1, 1) := by decide +kernel
theorem dL_law_174 : decode cL_law 174 = .ok (.aload_n 2, 1) := by decide +kernel
theorem dL_law_175 : decode cL_law 175 = .ok (.invokestatic 152, 3) := by decide +kernel
theorem dL_law_178 : decode cL_law 178 = .ok (.ifCond .eq 7, 3) := by decide +kernel
theorem dL_law_181 : decode cL_law 181 = .ok (.iconst 1, 1) := by decide +kernel
theorem dL_law_182 : decode cL_law 182 = .ok (.goto 4, 3) := by decide +kernel
theorem dL_law_185 : decode cL_law 185 = .ok (.iconst 0, 1) := by decide +kernel
theorem dL_law_186 : decode cL_law 186 = .ok (.ireturn, 1) := by decide +kernel
abbrev vwCl : List vw_C := [(RX2, TX2, 6), (RX3, TX3, 3), (RX4, TX4, 3)]
end
section
/-! printed: private methods of a nest mate -/
set_option maxRecDepth 20000 in
theorem gX4_init_X2_init_n15 : GoodIn wsX4_init (wsX2_init) := ggX4_init_X2_init
set_option maxRecDepth 20000 in
theorem gX4_init_X3_init_n22 : GoodIn wsX4_init (wsX3_init) := ggX4_init_X3_init
end
section
/-! ===== p24, the refutation's kit (laid by wip/p24/mkkit.py out of whole's): a method's fixed things in one word, a point of its walk in another; G: so many cells at least have been made since the method began ===== -/
section HK
variable {p : Program} {l : Launch} {e : Env} {R : Room} {s : State} {m : MethodId} {args : Array Value} {below : List Frame} {meth : Method} {c : Code} {cells slots G : Nat} {Q : State → Prop}
variable {cc : ByteArray} {nL : Nat} {Ts : List Cond} {own : String} {D : va_G} {tys : List (ClassId × FieldType)} {A : Nat → Prop} {pc : Nat} {lv : List (Nat × Value)} {st : List Value} {ws : va_W}
def hC (p : Program) (s : State) (m : MethodId) (args : Array Value) (meth : Method) (c : Code) (cc : ByteArray) (nL : Nat) (Ts : List Cond) (own : String) (D : va_G) (tys : List (ClassId × FieldType)) (A : Nat → Prop) : Prop :=
  CallFix p m c cc nL s args Ts own ∧ va_K D vwCl tys s ∧ meth.locks = false ∧ ∀ q, s.heap.size ≤ q → A q
/-- at pc, with these locals, this stack and this world, and G new cells at least, the machine comes to Q -/
def hK (G : Nat) (p : Program) (l : Launch) (e : Env) (R : Room) (s : State) (m : MethodId) (args : Array Value) (below : List Frame) (meth : Method) (c : Code) (nL : Nat) (D : va_G) (A : Nat → Prop) (cells slots : Nat) (Q : State → Prop) (pc : Nat) (lv : List (Nat × Value)) (st : List Value) (ws : va_W) : Prop :=
  ∀ (H : Heap) (locs : List Loc) (ls : Array Slot), va_P D vwCl ws H → va_D A ws → va_S A s.heap H locs → s.heap.size + G ≤ H.size → lv_has ls nL lv → W p l e R s m args below meth c H locs cells slots Q (F0 m pc ls st)
theorem h_iconst (C : hC p s m args meth c cc nL Ts own D tys A) {n : Int} {v : Int32} (hdg : decode cc pc = .ok (.iconst n, 1)) (hv : Int32.ofInt n = v) (k : hK G p l e R s m args below meth c nL D A cells slots Q (pc + 1) lv (.int v :: st) ws) : hK G p l e R s m args below meth c nL D A cells slots Q pc lv st ws :=
  fun H locs ls hP hD hS hG hl => lv_iconst C.1.1 C.1.2.1 hdg hv (k H locs ls hP hD hS hG hl)
theorem h_bipush (C : hC p s m args meth c cc nL Ts own D tys A) {n : Int} {v : Int32} (hdg : decode cc pc = .ok (.bipush n, 2)) (hv : (Int8.ofInt n).toInt32 = v) (k : hK G p l e R s m args below meth c nL D A cells slots Q (pc + 2) lv (.int v :: st) ws) : hK G p l e R s m args below meth c nL D A cells slots Q pc lv st ws :=
  fun H locs ls hP hD hS hG hl => lv_bipush C.1.1 C.1.2.1 hdg hv (k H locs ls hP hD hS hG hl)
theorem h_sipush (C : hC p s m args meth c cc nL Ts own D tys A) {n : Int} {v : Int32} (hdg : decode cc pc = .ok (.sipush n, 3)) (hv : (Int16.ofInt n).toInt32 = v) (k : hK G p l e R s m args below meth c nL D A cells slots Q (pc + 3) lv (.int v :: st) ws) : hK G p l e R s m args below meth c nL D A cells slots Q pc lv st ws :=
  fun H locs ls hP hD hS hG hl => lv_sipush C.1.1 C.1.2.1 hdg hv (k H locs ls hP hD hS hG hl)
theorem h_iload_n (C : hC p s m args meth c cc nL Ts own D tys A) {k : Fin 4} {i : Nat} {x : Int32} (hdg : decode cc pc = .ok (.iload_n k, 1)) (hi : (k : Nat) = i) (j : Nat) (hj : lv[j]? = some (i, .int x)) (kk : hK G p l e R s m args below meth c nL D A cells slots Q (pc + 1) lv (.int x :: st) ws) : hK G p l e R s m args below meth c nL D A cells slots Q pc lv st ws :=
  fun H locs ls hP hD hS hG hl => lv_iload_n C.1.1 C.1.2.1 hdg hi (lv_at hl j hj) (kk H locs ls hP hD hS hG hl)
theorem h_iload (C : hC p s m args meth c cc nL Ts own D tys A) {i : Nat} {x : Int32} (hdg : decode cc pc = .ok (.iload i, 2)) (j : Nat) (hj : lv[j]? = some (i, .int x)) (kk : hK G p l e R s m args below meth c nL D A cells slots Q (pc + 2) lv (.int x :: st) ws) : hK G p l e R s m args below meth c nL D A cells slots Q pc lv st ws :=
  fun H locs ls hP hD hS hG hl => lv_iload C.1.1 C.1.2.1 hdg (lv_at hl j hj) (kk H locs ls hP hD hS hG hl)
theorem h_aload_n (C : hC p s m args meth c cc nL Ts own D tys A) {k : Fin 4} {i : Nat} {x : Nat} (hdg : decode cc pc = .ok (.aload_n k, 1)) (hi : (k : Nat) = i) (j : Nat) (hj : lv[j]? = some (i, .ref x)) (kk : hK G p l e R s m args below meth c nL D A cells slots Q (pc + 1) lv (.ref x :: st) ws) : hK G p l e R s m args below meth c nL D A cells slots Q pc lv st ws :=
  fun H locs ls hP hD hS hG hl => lv_aload_n C.1.1 C.1.2.1 hdg hi (lv_at hl j hj) (kk H locs ls hP hD hS hG hl)
theorem h_aload (C : hC p s m args meth c cc nL Ts own D tys A) {i : Nat} {x : Nat} (hdg : decode cc pc = .ok (.aload i, 2)) (j : Nat) (hj : lv[j]? = some (i, .ref x)) (kk : hK G p l e R s m args below meth c nL D A cells slots Q (pc + 2) lv (.ref x :: st) ws) : hK G p l e R s m args below meth c nL D A cells slots Q pc lv st ws :=
  fun H locs ls hP hD hS hG hl => lv_aload C.1.1 C.1.2.1 hdg (lv_at hl j hj) (kk H locs ls hP hD hS hG hl)
theorem h_istore_n (C : hC p s m args meth c cc nL Ts own D tys A) {k : Fin 4} {i : Nat} {x : Int32} {lv' : List (Nat × Value)} (hdg : decode cc pc = .ok (.istore_n k, 1)) (hi : (k : Nat) = i) (hn : i < nL) (hl' : (i, Value.int x) :: lv.filter (fun q => !(q.1 == i) && !(q.1 + 1 == i && q.2.category == 2)) = lv') (kk : hK G p l e R s m args below meth c nL D A cells slots Q (pc + 1) lv' st ws) : hK G p l e R s m args below meth c nL D A cells slots Q pc lv (.int x :: st) ws :=
  fun H locs ls hP hD hS hG hl => lv_istore_n C.1.1 C.1.2.1 hdg hi hl hn hl' (fun ls' h' => kk H locs ls' hP hD hS hG h')
theorem h_istore (C : hC p s m args meth c cc nL Ts own D tys A) {i : Nat} {x : Int32} {lv' : List (Nat × Value)} (hdg : decode cc pc = .ok (.istore i, 2)) (hn : i < nL) (hl' : (i, Value.int x) :: lv.filter (fun q => !(q.1 == i) && !(q.1 + 1 == i && q.2.category == 2)) = lv') (kk : hK G p l e R s m args below meth c nL D A cells slots Q (pc + 2) lv' st ws) : hK G p l e R s m args below meth c nL D A cells slots Q pc lv (.int x :: st) ws :=
  fun H locs ls hP hD hS hG hl => lv_istore C.1.1 C.1.2.1 hdg hl hn hl' (fun ls' h' => kk H locs ls' hP hD hS hG h')
theorem h_astore_n (C : hC p s m args meth c cc nL Ts own D tys A) {k : Fin 4} {i : Nat} {x : Nat} {lv' : List (Nat × Value)} (hdg : decode cc pc = .ok (.astore_n k, 1)) (hi : (k : Nat) = i) (hn : i < nL) (hl' : (i, Value.ref x) :: lv.filter (fun q => !(q.1 == i) && !(q.1 + 1 == i && q.2.category == 2)) = lv') (kk : hK G p l e R s m args below meth c nL D A cells slots Q (pc + 1) lv' st ws) : hK G p l e R s m args below meth c nL D A cells slots Q pc lv (.ref x :: st) ws :=
  fun H locs ls hP hD hS hG hl => lv_astore_n C.1.1 C.1.2.1 hdg hi hl hn hl' (fun ls' h' => kk H locs ls' hP hD hS hG h')
theorem h_astore (C : hC p s m args meth c cc nL Ts own D tys A) {i : Nat} {x : Nat} {lv' : List (Nat × Value)} (hdg : decode cc pc = .ok (.astore i, 2)) (hn : i < nL) (hl' : (i, Value.ref x) :: lv.filter (fun q => !(q.1 == i) && !(q.1 + 1 == i && q.2.category == 2)) = lv') (kk : hK G p l e R s m args below meth c nL D A cells slots Q (pc + 2) lv' st ws) : hK G p l e R s m args below meth c nL D A cells slots Q pc lv (.ref x :: st) ws :=
  fun H locs ls hP hD hS hG hl => lv_astore C.1.1 C.1.2.1 hdg hl hn hl' (fun ls' h' => kk H locs ls' hP hD hS hG h')
theorem h_iinc (C : hC p s m args meth c cc nL Ts own D tys A) {i : Nat} {n : Int} {x v : Int32} {lv' : List (Nat × Value)} (hdg : decode cc pc = .ok (.iinc i n, 3)) (k : Nat) (hk : lv[k]? = some (i, .int x)) (hv : x + Int32.ofInt n = v) (hn : i < nL) (hl' : (i, Value.int v) :: lv.filter (fun q => !(q.1 == i) && !(q.1 + 1 == i && q.2.category == 2)) = lv') (kk : hK G p l e R s m args below meth c nL D A cells slots Q (pc + 3) lv' st ws) : hK G p l e R s m args below meth c nL D A cells slots Q pc lv st ws :=
  fun H locs ls hP hD hS hG hl => lv_iinc C.1.1 C.1.2.1 hdg hl hk hv hn hl' (fun ls' h' => kk H locs ls' hP hD hS hG h')
theorem h_iadd (C : hC p s m args meth c cc nL Ts own D tys A) {x y : Int32} (hdg : decode cc pc = .ok (.iadd, 1)) (k : hK G p l e R s m args below meth c nL D A cells slots Q (pc + 1) lv (.int (x + y) :: st) ws) : hK G p l e R s m args below meth c nL D A cells slots Q pc lv (.int y :: .int x :: st) ws :=
  fun H locs ls hP hD hS hG hl => lv_iadd C.1.1 C.1.2.1 hdg (k H locs ls hP hD hS hG hl)
theorem h_isub (C : hC p s m args meth c cc nL Ts own D tys A) {x y : Int32} (hdg : decode cc pc = .ok (.isub, 1)) (k : hK G p l e R s m args below meth c nL D A cells slots Q (pc + 1) lv (.int (x - y) :: st) ws) : hK G p l e R s m args below meth c nL D A cells slots Q pc lv (.int y :: .int x :: st) ws :=
  fun H locs ls hP hD hS hG hl => lv_isub C.1.1 C.1.2.1 hdg (k H locs ls hP hD hS hG hl)
theorem h_imul (C : hC p s m args meth c cc nL Ts own D tys A) {x y : Int32} (hdg : decode cc pc = .ok (.imul, 1)) (k : hK G p l e R s m args below meth c nL D A cells slots Q (pc + 1) lv (.int (x * y) :: st) ws) : hK G p l e R s m args below meth c nL D A cells slots Q pc lv (.int y :: .int x :: st) ws :=
  fun H locs ls hP hD hS hG hl => lv_imul C.1.1 C.1.2.1 hdg (k H locs ls hP hD hS hG hl)
theorem h_idiv (C : hC p s m args meth c cc nL Ts own D tys A) {x y : Int32} (hdg : decode cc pc = .ok (.idiv, 1)) (hne : ¬ y = 0) (k : hK G p l e R s m args below meth c nL D A cells slots Q (pc + 1) lv (.int (x / y) :: st) ws) : hK G p l e R s m args below meth c nL D A cells slots Q pc lv (.int y :: .int x :: st) ws :=
  fun H locs ls hP hD hS hG hl => lv_idiv C.1.1 C.1.2.1 hdg hne (k H locs ls hP hD hS hG hl)
theorem h_iand (C : hC p s m args meth c cc nL Ts own D tys A) {x y : Int32} (hdg : decode cc pc = .ok (.iand, 1)) (k : hK G p l e R s m args below meth c nL D A cells slots Q (pc + 1) lv (.int (x &&& y) :: st) ws) : hK G p l e R s m args below meth c nL D A cells slots Q pc lv (.int y :: .int x :: st) ws :=
  fun H locs ls hP hD hS hG hl => lv_iand C.1.1 C.1.2.1 hdg (k H locs ls hP hD hS hG hl)
theorem h_dup (C : hC p s m args meth c cc nL Ts own D tys A) {va : Value} (hdg : decode cc pc = .ok (.dup, 1)) (hva : va.category = 1) (k : hK G p l e R s m args below meth c nL D A cells slots Q (pc + 1) lv (va :: va :: st) ws) : hK G p l e R s m args below meth c nL D A cells slots Q pc lv (va :: st) ws :=
  fun H locs ls hP hD hS hG hl => lv_dup C.1.1 C.1.2.1 hdg hva (k H locs ls hP hD hS hG hl)
theorem h_goto (C : hC p s m args meth c cc nL Ts own D tys A) {off : Int} {tgt : Nat} (hdg : decode cc pc = .ok (.goto off, 3)) (ht : (pc : Int) + off = (tgt : Int)) (k : hK G p l e R s m args below meth c nL D A cells slots Q tgt lv st ws) : hK G p l e R s m args below meth c nL D A cells slots Q pc lv st ws :=
  fun H locs ls hP hD hS hG hl => lv_goto C.1.1 C.1.2.1 hdg ht (k H locs ls hP hD hS hG hl)
theorem h_if_eq (C : hC p s m args meth c cc nL Ts own D tys A) {x : Int32} {off : Int} {tgt : Nat} (hdg : decode cc pc = .ok (.ifCond .eq off, 3)) (ht : (pc : Int) + off = (tgt : Int)) (kt : x = 0 → hK G p l e R s m args below meth c nL D A cells slots Q tgt lv st ws) (kf : ¬ x = 0 → hK G p l e R s m args below meth c nL D A cells slots Q (pc + 3) lv st ws) : hK G p l e R s m args below meth c nL D A cells slots Q pc lv (.int x :: st) ws :=
  fun H locs ls hP hD hS hG hl => lv_if_eq C.1.1 C.1.2.1 hdg ht (fun q => kt q H locs ls hP hD hS hG hl) (fun q => kf q H locs ls hP hD hS hG hl)
theorem h_if_ne (C : hC p s m args meth c cc nL Ts own D tys A) {x : Int32} {off : Int} {tgt : Nat} (hdg : decode cc pc = .ok (.ifCond .ne off, 3)) (ht : (pc : Int) + off = (tgt : Int)) (kt : ¬ x = 0 → hK G p l e R s m args below meth c nL D A cells slots Q tgt lv st ws) (kf : x = 0 → hK G p l e R s m args below meth c nL D A cells slots Q (pc + 3) lv st ws) : hK G p l e R s m args below meth c nL D A cells slots Q pc lv (.int x :: st) ws :=
  fun H locs ls hP hD hS hG hl => lv_if_ne C.1.1 C.1.2.1 hdg ht (fun q => kt q H locs ls hP hD hS hG hl) (fun q => kf q H locs ls hP hD hS hG hl)
theorem h_if_lt (C : hC p s m args meth c cc nL Ts own D tys A) {x : Int32} {off : Int} {tgt : Nat} (hdg : decode cc pc = .ok (.ifCond .lt off, 3)) (ht : (pc : Int) + off = (tgt : Int)) (kt : x < 0 → hK G p l e R s m args below meth c nL D A cells slots Q tgt lv st ws) (kf : ¬ x < 0 → hK G p l e R s m args below meth c nL D A cells slots Q (pc + 3) lv st ws) : hK G p l e R s m args below meth c nL D A cells slots Q pc lv (.int x :: st) ws :=
  fun H locs ls hP hD hS hG hl => lv_if_lt C.1.1 C.1.2.1 hdg ht (fun q => kt q H locs ls hP hD hS hG hl) (fun q => kf q H locs ls hP hD hS hG hl)
theorem h_if_ge (C : hC p s m args meth c cc nL Ts own D tys A) {x : Int32} {off : Int} {tgt : Nat} (hdg : decode cc pc = .ok (.ifCond .ge off, 3)) (ht : (pc : Int) + off = (tgt : Int)) (kt : 0 ≤ x → hK G p l e R s m args below meth c nL D A cells slots Q tgt lv st ws) (kf : ¬ 0 ≤ x → hK G p l e R s m args below meth c nL D A cells slots Q (pc + 3) lv st ws) : hK G p l e R s m args below meth c nL D A cells slots Q pc lv (.int x :: st) ws :=
  fun H locs ls hP hD hS hG hl => lv_if_ge C.1.1 C.1.2.1 hdg ht (fun q => kt q H locs ls hP hD hS hG hl) (fun q => kf q H locs ls hP hD hS hG hl)
theorem h_if_gt (C : hC p s m args meth c cc nL Ts own D tys A) {x : Int32} {off : Int} {tgt : Nat} (hdg : decode cc pc = .ok (.ifCond .gt off, 3)) (ht : (pc : Int) + off = (tgt : Int)) (kt : 0 < x → hK G p l e R s m args below meth c nL D A cells slots Q tgt lv st ws) (kf : ¬ 0 < x → hK G p l e R s m args below meth c nL D A cells slots Q (pc + 3) lv st ws) : hK G p l e R s m args below meth c nL D A cells slots Q pc lv (.int x :: st) ws :=
  fun H locs ls hP hD hS hG hl => lv_if_gt C.1.1 C.1.2.1 hdg ht (fun q => kt q H locs ls hP hD hS hG hl) (fun q => kf q H locs ls hP hD hS hG hl)
theorem h_if_le (C : hC p s m args meth c cc nL Ts own D tys A) {x : Int32} {off : Int} {tgt : Nat} (hdg : decode cc pc = .ok (.ifCond .le off, 3)) (ht : (pc : Int) + off = (tgt : Int)) (kt : x ≤ 0 → hK G p l e R s m args below meth c nL D A cells slots Q tgt lv st ws) (kf : ¬ x ≤ 0 → hK G p l e R s m args below meth c nL D A cells slots Q (pc + 3) lv st ws) : hK G p l e R s m args below meth c nL D A cells slots Q pc lv (.int x :: st) ws :=
  fun H locs ls hP hD hS hG hl => lv_if_le C.1.1 C.1.2.1 hdg ht (fun q => kt q H locs ls hP hD hS hG hl) (fun q => kf q H locs ls hP hD hS hG hl)
theorem h_icmp_eq (C : hC p s m args meth c cc nL Ts own D tys A) {x y : Int32} {off : Int} {tgt : Nat} (hdg : decode cc pc = .ok (.if_icmp .eq off, 3)) (ht : (pc : Int) + off = (tgt : Int)) (kt : x = y → hK G p l e R s m args below meth c nL D A cells slots Q tgt lv st ws) (kf : ¬ x = y → hK G p l e R s m args below meth c nL D A cells slots Q (pc + 3) lv st ws) : hK G p l e R s m args below meth c nL D A cells slots Q pc lv (.int y :: .int x :: st) ws :=
  fun H locs ls hP hD hS hG hl => lv_icmp_eq C.1.1 C.1.2.1 hdg ht (fun q => kt q H locs ls hP hD hS hG hl) (fun q => kf q H locs ls hP hD hS hG hl)
theorem h_icmp_ne (C : hC p s m args meth c cc nL Ts own D tys A) {x y : Int32} {off : Int} {tgt : Nat} (hdg : decode cc pc = .ok (.if_icmp .ne off, 3)) (ht : (pc : Int) + off = (tgt : Int)) (kt : ¬ x = y → hK G p l e R s m args below meth c nL D A cells slots Q tgt lv st ws) (kf : x = y → hK G p l e R s m args below meth c nL D A cells slots Q (pc + 3) lv st ws) : hK G p l e R s m args below meth c nL D A cells slots Q pc lv (.int y :: .int x :: st) ws :=
  fun H locs ls hP hD hS hG hl => lv_icmp_ne C.1.1 C.1.2.1 hdg ht (fun q => kt q H locs ls hP hD hS hG hl) (fun q => kf q H locs ls hP hD hS hG hl)
theorem h_icmp_lt (C : hC p s m args meth c cc nL Ts own D tys A) {x y : Int32} {off : Int} {tgt : Nat} (hdg : decode cc pc = .ok (.if_icmp .lt off, 3)) (ht : (pc : Int) + off = (tgt : Int)) (kt : x < y → hK G p l e R s m args below meth c nL D A cells slots Q tgt lv st ws) (kf : ¬ x < y → hK G p l e R s m args below meth c nL D A cells slots Q (pc + 3) lv st ws) : hK G p l e R s m args below meth c nL D A cells slots Q pc lv (.int y :: .int x :: st) ws :=
  fun H locs ls hP hD hS hG hl => lv_icmp_lt C.1.1 C.1.2.1 hdg ht (fun q => kt q H locs ls hP hD hS hG hl) (fun q => kf q H locs ls hP hD hS hG hl)
theorem h_icmp_ge (C : hC p s m args meth c cc nL Ts own D tys A) {x y : Int32} {off : Int} {tgt : Nat} (hdg : decode cc pc = .ok (.if_icmp .ge off, 3)) (ht : (pc : Int) + off = (tgt : Int)) (kt : y ≤ x → hK G p l e R s m args below meth c nL D A cells slots Q tgt lv st ws) (kf : ¬ y ≤ x → hK G p l e R s m args below meth c nL D A cells slots Q (pc + 3) lv st ws) : hK G p l e R s m args below meth c nL D A cells slots Q pc lv (.int y :: .int x :: st) ws :=
  fun H locs ls hP hD hS hG hl => lv_icmp_ge C.1.1 C.1.2.1 hdg ht (fun q => kt q H locs ls hP hD hS hG hl) (fun q => kf q H locs ls hP hD hS hG hl)
theorem h_icmp_gt (C : hC p s m args meth c cc nL Ts own D tys A) {x y : Int32} {off : Int} {tgt : Nat} (hdg : decode cc pc = .ok (.if_icmp .gt off, 3)) (ht : (pc : Int) + off = (tgt : Int)) (kt : y < x → hK G p l e R s m args below meth c nL D A cells slots Q tgt lv st ws) (kf : ¬ y < x → hK G p l e R s m args below meth c nL D A cells slots Q (pc + 3) lv st ws) : hK G p l e R s m args below meth c nL D A cells slots Q pc lv (.int y :: .int x :: st) ws :=
  fun H locs ls hP hD hS hG hl => lv_icmp_gt C.1.1 C.1.2.1 hdg ht (fun q => kt q H locs ls hP hD hS hG hl) (fun q => kf q H locs ls hP hD hS hG hl)
theorem h_icmp_le (C : hC p s m args meth c cc nL Ts own D tys A) {x y : Int32} {off : Int} {tgt : Nat} (hdg : decode cc pc = .ok (.if_icmp .le off, 3)) (ht : (pc : Int) + off = (tgt : Int)) (kt : x ≤ y → hK G p l e R s m args below meth c nL D A cells slots Q tgt lv st ws) (kf : ¬ x ≤ y → hK G p l e R s m args below meth c nL D A cells slots Q (pc + 3) lv st ws) : hK G p l e R s m args below meth c nL D A cells slots Q pc lv (.int y :: .int x :: st) ws :=
  fun H locs ls hP hD hS hG hl => lv_icmp_le C.1.1 C.1.2.1 hdg ht (fun q => kt q H locs ls hP hD hS hG hl) (fun q => kf q H locs ls hP hD hS hG hl)
theorem h_get (C : hC p s m args meth c cc nL Ts own D tys A) {ref C0 : String} {T : u_T} {N ci index a : Nat} (hin : ∀ w ∈ u_ws C0 T N, w ∈ Ts) (hc : vwCl[ci]? = some (C0, T, N)) (q0 : Nat) {fs : List Value} (he : ws[q0]? = some (a, .inr (ci, fs))) (k : Nat) (hk : k < N) (hlink : Cond.fieldLink own index ref (T k).2.1 (T k).2.2.1 ∈ Ts) (hown2 : (T k).1 = ref) {v : Value} (hv : fs[k]? = some v) (hdg : decode cc pc = .ok (.getfield index, 3)) (kk : hK G p l e R s m args below meth c nL D A cells slots Q (pc + 3) lv (v :: st) ws) : hK G p l e R s m args below meth c nL D A cells slots Q pc lv (.ref a :: st) ws :=
  fun H locs ls hP hD hS hG hl => va_get C.1.1 C.1.2.1 C.1.2.2.2.2 hin C.1.2.2.2.1 C.2.1 hP q0 he hc k hk (C.1.2.2.2.2 _ hlink) (fun _ h9 => by rw [← hown2]; exact h9) hv hdg (kk H locs ls hP hD hS hG hl)
theorem h_iald (C : hC p s m args meth c cc nL Ts own D tys A) (q0 t0 : Nat) {a : Nat} {cA : ClassId} {n : Nat} {f : Nat → Int32} (ha : ws[q0]? = some (a, .inl (cA, n, .inl f))) (ht : tys[t0]? = some (cA, .int)) {i v : Int32} (hin : vp_in i n) (hv : v = f i.toNatClampNeg) (hdg : decode cc pc = .ok (.iaload, 1)) (kk : hK G p l e R s m args below meth c nL D A cells slots Q (pc + 1) lv (.int v :: st) ws) : hK G p l e R s m args below meth c nL D A cells slots Q pc lv (.int i :: .ref a :: st) ws := by
  subst hv
  exact fun H locs ls hP hD hS hG hl => va_iald C.1.1 C.1.2.1 C.2.1 hP q0 t0 ha ht hin hdg (kk H locs ls hP hD hS hG hl)
theorem h_alen (C : hC p s m args meth c cc nL Ts own D tys A) (q0 t0 : Nat) {a : Nat} {cA : ClassId} {n : Nat} {f : Nat → Int32} (ha : ws[q0]? = some (a, .inl (cA, n, .inl f))) {ty : FieldType} (ht : tys[t0]? = some (cA, ty)) {v : Int32} (hv : Int32.ofNat n = v) (hdg : decode cc pc = .ok (.arraylength, 1)) (kk : hK G p l e R s m args below meth c nL D A cells slots Q (pc + 1) lv (.int v :: st) ws) : hK G p l e R s m args below meth c nL D A cells slots Q pc lv (.ref a :: st) ws :=
  fun H locs ls hP hD hS hG hl => va_alen C.1.1 C.1.2.1 C.2.1 hP q0 t0 ha ht hv hdg (kk H locs ls hP hD hS hG hl)
theorem h_sub (ks : List Nat) {lv' : List (Nat × Value)} (h : lv_pick lv ks = lv') (kk : hK G p l e R s m args below meth c nL D A cells slots Q pc lv' st ws) : hK G p l e R s m args below meth c nL D A cells slots Q pc lv st ws :=
  fun H locs ls hP hD hS hG hl => kk H locs ls hP hD hS hG (lv_sub hl ks h)
theorem h_fload (C : hC p s m args meth c cc nL Ts own D tys A) {i : Nat} {x : UInt32} (hdg : decode cc pc = .ok (.fload i, 2)) (j : Nat) (hj : lv[j]? = some (i, .float x)) (k : hK G p l e R s m args below meth c nL D A cells slots Q (pc + 2) lv (.float x :: st) ws) : hK G p l e R s m args below meth c nL D A cells slots Q pc lv st ws :=
  fun H locs ls hP hD hS hG hl => lv_fload C.1.1 C.1.2.1 hdg (lv_at hl j hj) (k H locs ls hP hD hS hG hl)
theorem h_fstore (C : hC p s m args meth c cc nL Ts own D tys A) {i : Nat} {x : UInt32} {lv' : List (Nat × Value)} (hdg : decode cc pc = .ok (.fstore i, 2)) (hn : i < nL) (hl' : (i, Value.float x) :: lv.filter (fun q => !(q.1 == i) && !(q.1 + 1 == i && q.2.category == 2)) = lv') (kk : hK G p l e R s m args below meth c nL D A cells slots Q (pc + 2) lv' st ws) : hK G p l e R s m args below meth c nL D A cells slots Q pc lv (.float x :: st) ws :=
  fun H locs ls hP hD hS hG hl => lv_fstore C.1.1 C.1.2.1 hdg hl hn hl' (fun ls' h' => kk H locs ls' hP hD hS hG h')
theorem h_fcmp (C : hC p s m args meth c cc nL Ts own D tys A) {x y : UInt32} {op : CmpOp} (hdg : decode cc pc = .ok (.fcmp op, 1)) (k : hK G p l e R s m args below meth c nL D A cells slots Q (pc + 1) lv (.int (Op.cmpValue (FP.fcmp x y) op) :: st) ws) : hK G p l e R s m args below meth c nL D A cells slots Q pc lv (.float y :: .float x :: st) ws :=
  fun H locs ls hP hD hS hG hl => lv_fcmp C.1.1 C.1.2.1 hdg (k H locs ls hP hD hS hG hl)
theorem h_sld (C : hC p s m args meth c cc nL Ts own D tys A) {b L : Nat} {xs : Nat → Int32} (X : va_X b L xs s s.heap ∧ b < s.heap.size ∧ ¬ A b) {i v : Int32} (hin : vp_in i L) (hv : v = xs i.toNatClampNeg) (hdg : decode cc pc = .ok (.iaload, 1)) (kk : hK G p l e R s m args below meth c nL D A cells slots Q (pc + 1) lv (.int v :: st) ws) : hK G p l e R s m args below meth c nL D A cells slots Q pc lv (.int i :: .ref b :: st) ws := by
  subst hv
  exact fun H locs ls hP hD hS hG hl => va_sld C.1.1 C.1.2.1 X.1 X.2.1 X.2.2 hS hin hdg (kk H locs ls hP hD hS hG hl)
theorem h_slen (C : hC p s m args meth c cc nL Ts own D tys A) {b L : Nat} {xs : Nat → Int32} (X : va_X b L xs s s.heap ∧ b < s.heap.size ∧ ¬ A b) (hdg : decode cc pc = .ok (.arraylength, 1)) (kk : hK G p l e R s m args below meth c nL D A cells slots Q (pc + 1) lv (.int (nI L) :: st) ws) : hK G p l e R s m args below meth c nL D A cells slots Q pc lv (.ref b :: st) ws :=
  fun H locs ls hP hD hS hG hl => va_slen C.1.1 C.1.2.1 X.1 X.2.1 X.2.2 hS hdg (kk H locs ls hP hD hS hG hl)
theorem h_eq {x v : Int32} (hv : v = x) (kk : hK G p l e R s m args below meth c nL D A cells slots Q pc lv (.int v :: st) ws) : hK G p l e R s m args below meth c nL D A cells slots Q pc lv (.int x :: st) ws := by
  subst hv
  exact kk
theorem h_widen {k n : Nat} (h1 : cells ≤ k) (h2 : slots ≤ n) (kk : hK G p l e R s m args below meth c nL D A k n Q pc lv st ws) : hK G p l e R s m args below meth c nL D A cells slots Q pc lv st ws :=
  fun H locs ls hP hD hS hG hl => W.widen (k := k) (n := n) h1 h2 (kk H locs ls hP hD hS hG hl)
theorem h_irem (C : hC p s m args meth c cc nL Ts own D tys A) {x y : Int32} (hdg : decode cc pc = .ok (.irem, 1)) (hne : ¬ y = 0) (k : hK G p l e R s m args below meth c nL D A cells slots Q (pc + 1) lv (.int (x - x / y * y) :: st) ws) : hK G p l e R s m args below meth c nL D A cells slots Q pc lv (.int y :: .int x :: st) ws :=
  fun H locs ls hP hD hS hG hl => lv_irem C.1.1 C.1.2.1 hdg hne (k H locs ls hP hD hS hG hl)
theorem h_ldc (C : hC p s m args meth c cc nL Ts own D tys A) {index : Nat} {v : Int32} (hconst : Jvm.Cond.constant own index v ∈ Ts) (hdg : decode cc pc = .ok (.ldc index, 2)) (k : hK G p l e R s m args below meth c nL D A cells slots Q (pc + 2) lv (.int v :: st) ws) : hK G p l e R s m args below meth c nL D A cells slots Q pc lv st ws :=
  fun H locs ls hP hD hS hG hl => lv_ldc C.1.1 C.1.2.1 C.1.2.2.2.1 (C.1.2.2.2.2 _ hconst) hdg (k H locs ls hP hD hS hG hl)
theorem h_ldcf (C : hC p s m args meth c cc nL Ts own D tys A) {index : Nat} {v : UInt32} (hconst : Jvm.Cond.constantFloat own index v ∈ Ts) (hdg : decode cc pc = .ok (.ldc index, 2)) (k : hK G p l e R s m args below meth c nL D A cells slots Q (pc + 2) lv (.float v :: st) ws) : hK G p l e R s m args below meth c nL D A cells slots Q pc lv st ws :=
  fun H locs ls hP hD hS hG hl => lv_ldcf C.1.1 C.1.2.1 C.1.2.2.2.1 (C.1.2.2.2.2 _ hconst) hdg (k H locs ls hP hD hS hG hl)
/-- what is known of the growth may be said more weakly; a walk may stop once the heap is as large as wanted -/
theorem h_less {G1 : Nat} (h : G1 ≤ G) (k : hK G1 p l e R s m args below meth c nL D A cells slots Q pc lv st ws) : hK G p l e R s m args below meth c nL D A cells slots Q pc lv st ws :=
  fun H locs ls hP hD hS hG hl => k H locs ls hP hD hS (by omega) hl
theorem h_stop {n : Nat} (h : n ≤ G) : hK G p l e R s m args below meth c nL D A cells slots (fun t => s.heap.size + n ≤ t.heap.size) pc lv st ws := by
  intro H locs ls hP hD hS hG hl T hT X
  refine ⟨T.setTop (F0 m pc ls st), Steps.refl _, ?_⟩
  show s.heap.size + n ≤ T.heap.size
  rw [hT]
  omega
def cQ (D : va_G) (tys : List (ClassId × FieldType)) (A : Nat → Prop) (ro : Option Value) (w' : va_W) : Array Value → State → Outcome → State → Prop := fun _ st oc t => oc = .returned ro ∧ va_P D vwCl w' t.heap ∧ va_K D vwCl tys t ∧ va_D A w' ∧ va_F A st t
/-- .. and g new cells at least -/
def gQ (g : Nat) (D : va_G) (tys : List (ClassId × FieldType)) (A : Nat → Prop) (ro : Option Value) (w' : va_W) : Array Value → State → Outcome → State → Prop := fun a st oc t => cQ D tys A ro w' a st oc t ∧ st.heap.size + g ≤ t.heap.size
def cP (D : va_G) (tys : List (ClassId × FieldType)) (av : List Value) (w : va_W) (sz : Nat) : Array Value → State → Prop := va_Pc av (fun U => U.heap.size = sz ∧ va_P D vwCl w U.heap ∧ va_K D vwCl tys U ∧ va_D (fun _ => True) w)
theorem cP_blind {av : List Value} {w : va_W} {sz : Nat} : FrameBlind (cP D tys av w sz) := fun a U g mk q => by
  obtain ⟨q0, q1, qP, qK, qD⟩ := q
  exact ⟨q0, q1, qP, va_K.moved (u := U) (U := U.calling g mk a) (Vm.Alike.refl U.vm) qK, qD⟩
/-- a method that makes nothing and changes nothing -/
def cM (l : Launch) (y : MethodName) (wsy : List Cond) (rm : Room) (D : va_G) (tys : List (ClassId × FieldType)) (av : List Value) (w : va_W) (ro : Option Value) : Prop :=
  ∀ sz : Nat, Met l y wsy rm (cP D tys av w sz) (gQ 0 D tys (va_A w sz) ro w) rm.cells rm.slots (va_A w sz)
theorem cM_of {y : MethodName} {wsy ws' : List Cond} {rm : Room} {av : List Value} {w : va_W} {ro : Option Value} {maxL : Nat} {ret : Option FieldType} {own : String} {lv : List (Nat × Value)} (hy : plainName y.cls = true) (hw : wsy = Cond.code y cc maxL ret :: ws') (hlen : (lg_sl av).length ≤ maxL) (ho : y.cls = own) (hlv : lv_args 0 av = lv)
    (body : ∀ (p : Program) (e : Env) (s : State) (m : MethodId) (args : Array Value) (below : List Frame) (meth : Method) (c : Code) (A : Nat → Prop), hC p s m args meth c cc maxL wsy own D tys A → meth.sig.returnType = ret →
      hK 0 p l e rm s m args below meth c maxL D A 0 0 (MQ below (gQ 0 D tys A ro w) args s rm.cells rm.slots A) 0 lv [] w) : cM l y wsy rm D tys av w ro := by
  subst hlv
  subst ho
  intro sz
  refine Met.ofW (cc := cc) (maxL := maxL) (ret := ret) hy hw ?_
  intro p e s m args below meth c s₁ B hml hv
  obtain ⟨rfl, hsz, hP, hK, hD0⟩ := hv
  subst hsz
  have hts := atoms_spec (ws := wsy) B.pre
  have hown : s.vm.findClass y.cls = some m.cls := findClass_of_methodNamed B.named
  have hD := hD0.self (sz := s.heap.size)
  have hA : ∀ q : Nat, s.heap.size ≤ q → va_A w s.heap.size q := fun q h => Or.inr h
  have hb := body p e s m av.toArray below meth c (va_A w s.heap.size) ⟨⟨B.exec, B.bytes, hml, hown, hts⟩, hK, B.notSynchronized, hA⟩ B.returns
  rw [lg_entry_eq]
  exact hb s.heap [] _ hP hD va_S.rf (Nat.le_refl _) (lv_entry av hlen)
/-- returns, having made g cells at least -/
theorem h_iret {g : Nat} (C : hC p s m args meth c cc nL Ts own D tys A) {v : Int32} (hr : meth.sig.returnType = some .int) (hdg : decode cc pc = .ok (.ireturn, 1)) : hK g p l e R s m args below meth c nL D A cells slots (MQ below (gQ g D tys A (some (.int v)) ws) args s cells slots A) pc lv [.int v] ws :=
  fun H locs ls hP hD hS hG hl => W.iret C.1.1 C.1.2.1 hr (fun t ht hW => ⟨⟨rfl, by rw [ht]; exact hP, va_K.moved hW.alike C.2.1, hD, hS.F ht⟩, by rw [ht]; exact hG⟩) hS.2.2 hdg C.2.2.1
theorem h_zret {g : Nat} (C : hC p s m args meth c cc nL Ts own D tys A) {v : Int32} {ty : FieldType} (hr : meth.sig.returnType = some ty) (hn : narrow ty (.int v) = .int v) (hdg : decode cc pc = .ok (.ireturn, 1)) : hK g p l e R s m args below meth c nL D A cells slots (MQ below (gQ g D tys A (some (.int v)) ws) args s cells slots A) pc lv [.int v] ws :=
  fun H locs ls hP hD hS hG hl => W.zret C.1.1 C.1.2.1 hr hn (fun t ht hW => ⟨⟨rfl, by rw [ht]; exact hP, va_K.moved hW.alike C.2.1, hD, hS.F ht⟩, by rw [ht]; exact hG⟩) hS.2.2 hdg C.2.2.1
theorem h_fret {g : Nat} (C : hC p s m args meth c cc nL Ts own D tys A) {v : UInt32} (hr : meth.sig.returnType = some .float) (hdg : decode cc pc = .ok (.freturn, 1)) : hK g p l e R s m args below meth c nL D A cells slots (MQ below (gQ g D tys A (some (.float v)) ws) args s cells slots A) pc lv [.float v] ws :=
  fun H locs ls hP hD hS hG hl => W.fret C.1.1 C.1.2.1 hr (fun t ht hW => ⟨⟨rfl, by rw [ht]; exact hP, va_K.moved hW.alike C.2.1, hD, hS.F ht⟩, by rw [ht]; exact hG⟩) hS.2.2 hdg C.2.2.1
theorem h_psub {is : List Nat} {w w' : va_W} {H : Heap} (h : is.map (fun i => w[i]?) = w'.map some) (hp : va_P D vwCl w H) : va_P D vwCl w' H := by
  intro k q hk
  have h1 : (is.map (fun i => w[i]?))[k]? = some (some q) := by rw [h, List.getElem?_map, hk]; rfl
  rw [List.getElem?_map] at h1
  cases hi : is[k]? with
  | none => rw [hi] at h1; cases h1
  | some i => rw [hi] at h1; exact hp i q (Option.some.inj h1)
/-- what is behind a call that leaves the callee's cells as they were: g new cells more -/
theorem h_run {g : Nat} {st rest : List Value} {a : Array Value} {wc : va_W} {ro : Option Value} {mc ms : Nat} (hA : ∀ q, s.heap.size ≤ q → A q)
    (hr : ∀ (H : Heap) (locs : List Loc) (ls : Array Slot), va_P D vwCl wc H → va_P D vwCl ws H → va_D (fun _ => True) wc → (∀ q, va_A wc H.size q → A q) → va_S A s.heap H locs → lv_has ls nL lv → va_Run p l e R s m args below meth c H locs cells slots mc ms (F0 m pc ls st) rest (gQ g D tys (va_A wc H.size) ro wc a) (va_A wc H.size))
    (isC isR is : List Nat) (hCs : isC.map (fun i => ws[i]?) = wc.map some) (hRs : isR.map (fun i => ws[i]?) = (isR.filterMap (fun i => ws[i]?)).map some) (hndC : va_nd isC = true) (hnd : va_nd isR = true) (hdis : ∀ i ∈ isR, i ∉ isC) (hin : va_nd is = true) (his : is.map (fun i => (isR.filterMap (fun i => ws[i]?) ++ wc)[i]?) = ws.map some)
    (kk : hK (G + g) p l e R s m args below meth c nL D A (cells + mc) (slots + ms) Q (pc + 3) lv (ro.toList ++ rest) ws) : hK G p l e R s m args below meth c nL D A cells slots Q pc lv st ws := by
  intro H locs ls hP hD hS hG hl
  have hDc : va_D A wc := hD.sub isC hndC hCs
  have hFc := va_free (wc := wc) hD hS hA isC hCs
  intro T hT X
  obtain ⟨v, st₀, t, T', L, h0, X', hL, e1, e2, ⟨⟨hv, hP1, hK1, hD1, hz, hk⟩, hg⟩, go⟩ := hr H locs ls (h_psub hCs hP) hP (hDc.weaken (fun _ _ _ _ => trivial)) hFc hS hl T hT X
  have hv : v = ro := by injection hv
  subst hv
  rw [h0] at hz hk hg
  obtain ⟨hP2, hD2⟩ := va_join (H1 := T'.heap) (wr := isR.filterMap (fun i => ws[i]?)) (w1 := wc) hP hD isC isR hCs hRs hnd hdis (fun q h1 h2 => by rw [e1]; exact hk q h1 h2) hFc (by rw [e1]; exact hP1) hD1
  obtain ⟨t2, a1, b1⟩ := kk T'.heap (locs ++ L) ls (h_psub his hP2) (hD2.sub is hin his) ⟨Nat.le_trans hS.1 (by rw [e1]; exact hz), fun q h1 h2 => by rw [e1, hk q (Nat.lt_of_lt_of_le h1 hS.1) (fun z => h2 (hFc q z))]; exact hS.2.1 q h1 h2, fun q hq => by
      rcases List.mem_append.mp hq with h | h
      · exact hS.2.2 q h
      · exact hFc _ (hL q h)⟩ (by rw [e1]; omega) hl T' rfl X'
  exact ⟨t2, go t2 a1, b1⟩
theorem h_callV (C : hC p s m args meth c cc nL Ts own D tys A) {y : MethodName} {wsy : List Cond} {rm : Room} {bytes : ByteArray} {maxL n index q0 ci b : Nat} {ret : Option FieldType} {Cn : String} {As rest : List Value} {wc : va_W} {ro : Option Value} {fs : List Value} {qc : vw_C}
    (hM : cM l y wsy rm D tys (.ref b :: As) wc ro) (cw : CallW R s args own Cn index y bytes maxL ret wsy rm rm.cells rm.slots n) (hdg : decode cc pc = .ok (.invokevirtual index, 3))
    (hrec : ws[q0]? = some (b, .inr (ci, fs))) (hci : vwCl[ci]? = some qc) (hqn : qc.1 = Cn) (hn : As.length = n) (hst : st = As.reverse ++ .ref b :: rest) (hcat : (rest.map fun v => v.category).sum ≤ 8) (hz : rm.cells = 0 ∧ rm.slots = 0) (hf0 : cells ≤ R.cells ∧ slots ≤ R.slots)
    (isC isR is : List Nat) (hCs : isC.map (fun i => ws[i]?) = wc.map some) (hRs : isR.map (fun i => ws[i]?) = (isR.filterMap (fun i => ws[i]?)).map some) (hndC : va_nd isC = true) (hnd : va_nd isR = true) (hdis : ∀ i ∈ isR, i ∉ isC) (hin : va_nd is = true) (his : is.map (fun i => (isR.filterMap (fun i => ws[i]?) ++ wc)[i]?) = ws.map some)
    {st2 : List Value} (hst2 : ro.toList ++ rest = st2) (kk : hK G p l e R s m args below meth c nL D A cells slots Q (pc + 3) lv st2 ws) : hK G p l e R s m args below meth c nL D A cells slots Q pc lv st ws := by
  subst hst
  subst hst2
  have hf : cells + rm.cells ≤ R.cells ∧ slots + rm.slots ≤ R.slots := by rw [hz.1, hz.2]; exact hf0
  have kk : hK (G + 0) p l e R s m args below meth c nL D A (cells + rm.cells) (slots + rm.slots) Q (pc + 3) lv (ro.toList ++ rest) ws := by rw [hz.1, hz.2]; exact kk
  exact h_run C.2.2.2 (fun H locs ls hPc hP hDc _ _ hl => va_runV (As := As) (rest := rest) C.1 (hM H.size) cw ⟨cP_blind, by rw [← hqn]; exact va_recv C.2.1 hP hci hrec, fun U hU hW => ⟨rfl, by rw [hU], by rw [hU]; exact hPc, va_K.moved hW.alike C.2.1, hDc⟩⟩ rfl hn hl.1 rfl (lv_room hcat) hdg hf) isC isR is hCs hRs hndC hnd hdis hin his kk
end HK
/-! methods that throw, and those that catch -/
section HX
variable {p : Program} {l : Launch} {e : Env} {R : Room} {s : State} {m : MethodId} {args : Array Value} {below : List Frame} {meth : Method} {c : Code} {cells slots G : Nat} {Q : State → Prop}
variable {cc : ByteArray} {nL : Nat} {Ts : List Cond} {own : String} {D : va_G} {tys : List (ClassId × FieldType)} {A : Nat → Prop} {pc : Nat} {lv : List (Nat × Value)} {st : List Value} {ws : va_W}
def xIAE : String := "java/lang/IllegalArgumentException"
def xISE : String := "java/lang/IllegalStateException"
def xIOE : String := "java/lang/IndexOutOfBoundsException"
def xE : Nat → String := fun k => match k with
  | 1 => xIAE
  | 2 => xISE
  | _ => xIOE
def xUp : List String := ["java/lang/RuntimeException", "java/lang/Exception"]
def xDc : List MethodName := [Bundle.initS "java/lang/RuntimeException", Bundle.initS "java/lang/Exception", Bundle.initS Bundle.tN]
def xCs : List String := [xIAE, xISE, xIOE]
def xStr : List (Nat × String) := [(37, "no further box can be added"), (109, "no such level"), (124, "no such place"), (132, "there are no boxes"), (162, "a coordinate is out of range"), (165, "a side is out of range"), (167, "no such side"), (172, "no such box"), (177, "no such level or node")]
def xW (U : State) : Prop := (∀ y ∈ xDc, va_Nw (.declares y) U) ∧ (∀ E ∈ xCs, va_Nw (.castable E E) U) ∧ (va_Nc xISE xIAE U ∧ va_Nc xIOE xIAE U) ∧ ∀ q ∈ xStr, ∃ sa, vk_R RX4 q.1 q.2 sa U
theorem xW.warm {s U : State} (hW : s.WarmedH U.vm) (h : xW s) : xW U :=
  ⟨fun y hy => va_Nw.warmD hW (h.1 y hy), fun E hE => va_Nw.warmC hW (h.2.1 E hE), ⟨va_Nc.moved hW.alike h.2.2.1.1, va_Nc.moved hW.alike h.2.2.1.2⟩, fun q hq => by
    obtain ⟨sa, hs⟩ := h.2.2.2 q hq
    exact ⟨sa, vk_R.warm hW hs⟩⟩
theorem xW.same {u U : State} (hv : u.vm = U.vm) (h : xW u) : xW U :=
  ⟨fun y hy => va_Nw.same rfl hv (h.1 y hy), fun E hE => va_Nw.same rfl hv (h.2.1 E hE), ⟨va_Nc.moved (by rw [hv]; exact Vm.Alike.refl _) h.2.2.1.1, va_Nc.moved (by rw [hv]; exact Vm.Alike.refl _) h.2.2.1.2⟩, fun q hq => by
    obtain ⟨sa, hs⟩ := h.2.2.2 q hq
    exact ⟨sa, vk_R.same hv.symm hs⟩⟩
def xZ (A : Nat → Prop) (U : State) (H : Heap) : Prop := vx_Zq Bundle.tN "UNASSIGNED_STACK" Bundle.steD A U H ∧ vx_Zq Bundle.tN "SUPPRESSED_SENTINEL" Bundle.listD A U H ∧ xW U
theorem xZ.warm {s U : State} {H : Heap} (hW : s.WarmedH U.vm) (h : xZ A s H) : xZ A U H := ⟨vx_Zq.moved hW.alike h.1, vx_Zq.moved hW.alike h.2.1, h.2.2.warm hW⟩
theorem xZ.kept {U : State} {H H1 : Heap} (h : xZ A U H) (hq : ∀ a : Nat, a < H.size → ¬ A a → H1[a]? = H[a]?) : xZ A U H1 := ⟨h.1.kept hq, h.2.1.kept hq, h.2.2⟩
theorem xZ.narrow {B : Nat → Prop} {U : State} {H : Heap} (h : xZ A U H) (hAB : ∀ q, B q → A q) : xZ B U H := ⟨h.1.narrow hAB, h.2.1.narrow hAB, h.2.2⟩
def xP (D : va_G) (tys : List (ClassId × FieldType)) (av : List Value) (w : va_W) (sz : Nat) : Array Value → State → Prop := va_Pc av (fun U => U.heap.size = sz ∧ va_P D vwCl w U.heap ∧ va_K D vwCl tys U ∧ va_D (fun _ => True) w ∧ xZ (va_A w sz) U U.heap)
/-- it has thrown E, and one cell at least is new -/
def xX (D : va_G) (tys : List (ClassId × FieldType)) (A : Nat → Prop) (E : String) (w' : va_W) : String → State → State → Prop := fun E' st t => (E' = E ∧ va_P D vwCl w' t.heap ∧ va_K D vwCl tys t ∧ va_D A w' ∧ va_F A st t) ∧ st.heap.size + 1 ≤ t.heap.size
/-- a contract of a call that throws E -/
def xM (l : Launch) (y : MethodName) (wsy : List Cond) (rm : Room) (D : va_G) (tys : List (ClassId × FieldType)) (av : List Value) (w : va_W) (E : String) : Prop :=
  ∀ sz : Nat, vx_Met l y wsy rm (xP D tys av w sz) (fun _ _ _ _ => False) (xX D tys (va_A w sz) E w) rm.cells rm.slots (va_A w sz)
theorem xP_blind {av : List Value} {w : va_W} {sz : Nat} : FrameBlind (xP D tys av w sz) := fun a U g mk q => by
  obtain ⟨q0, q1, qP, qK, qD, z1, z2, z3⟩ := q
  exact ⟨q0, q1, qP, va_K.moved (u := U) (U := U.calling g mk a) (Vm.Alike.refl U.vm) qK, qD, vx_Zq.moved (u := U) (U := U.calling g mk a) (Vm.Alike.refl U.vm) z1, vx_Zq.moved (u := U) (U := U.calling g mk a) (Vm.Alike.refl U.vm) z2, xW.same (u := U) (U := U.calling g mk a) rfl z3⟩
def hX (l : Launch) (s : State) (c : Code) (A : Nat → Prop) : Prop := xZ A s s.heap ∧ l.stackTraces = false ∧ ∀ x ∈ c.exceptionTable.toList, False
theorem xM_of {y : MethodName} {wsy ws' : List Cond} {rm : Room} {av : List Value} {w : va_W} {E : String} {maxL : Nat} {ret : Option FieldType} {own : String} {lv : List (Nat × Value)} (hl : l.stackTraces = false) (hy : plainName y.cls = true) (hw : wsy = Cond.code y cc maxL ret :: ws') (hlen : (lg_sl av).length ≤ maxL) (ho : y.cls = own) (hlv : lv_args 0 av = lv)
    (body : ∀ (p : Program) (e : Env) (s : State) (m : MethodId) (args : Array Value) (below : List Frame) (meth : Method) (c : Code) (A : Nat → Prop), hC p s m args meth c cc maxL wsy own D tys A → hX l s c A →
      hK 0 p l e rm s m args below meth c maxL D A 0 0 (vx_MQ below (fun _ _ _ _ => False) (xX D tys A E w) args s rm.cells rm.slots A) 0 lv [] w) : xM l y wsy rm D tys av w E := by
  subst hlv
  subst ho
  intro sz
  refine vx_ofW (cc := cc) (maxL := maxL) (ret := ret) hy hw ?_
  intro p e s m args below meth c s₁ B hml ht hv
  obtain ⟨rfl, hsz, hP, hK, hD0, hZ⟩ := hv
  subst hsz
  have hts := atoms_spec (ws := wsy) B.pre
  have hown : s.vm.findClass y.cls = some m.cls := findClass_of_methodNamed B.named
  have hD := hD0.self (sz := s.heap.size)
  have hA : ∀ q : Nat, s.heap.size ≤ q → va_A w s.heap.size q := fun q h => Or.inr h
  have hb := body p e s m av.toArray below meth c (va_A w s.heap.size) ⟨⟨B.exec, B.bytes, hml, hown, hts⟩, hK, B.notSynchronized, hA⟩ ⟨hZ, hl, ht⟩
  rw [lg_entry_eq]
  exact hb s.heap [] _ hP hD va_S.rf (Nat.le_refl _) (lv_entry av hlen)
theorem xng_words {ic : Nat} {cls : String} (hc : cls ∈ xCs) (hg : ∀ w ∈ vx_atS RX4 ic cls xUp, goodWord w = true ∨ w ∈ xDc.map Cond.declares ∨ w = .castable cls cls) (h1 : ∀ w ∈ (vx_atS RX4 ic cls xUp).filter goodWord, w.before args s = true) (hW : xW s) : ∀ w ∈ vx_atS RX4 ic cls xUp, w.before args s = true := by
  intro w hw
  rcases hg w hw with h | h | h
  · exact h1 w (List.mem_filter.mpr ⟨hw, h⟩)
  · obtain ⟨y, hy, rfl⟩ := List.mem_map.mp h
    exact va_Nw.use rfl (hW.1 y hy)
  · subst h
    exact va_Nw.use rfl (hW.2.1 cls hc)
/-- as vx_throwS of 02.exc, whose proof this follows: with the exception's own cell counted -/
theorem vx_throwG {ls : Array Slot} {H : Heap} {locs : List Loc} {rest : List Value} {free : Addr → Prop} {Qc : Array Value → State → Outcome → State → Prop} {XC : String → State → State → Prop} {cc : ByteArray} {pc : Nat} (hexec : p.tables.exec = Jvm.exec) (hb : c.code = cc) (hl : l.stackTraces = false) {own cls text : String} {names : List String} {ik is ic mc ms sa : Nat} {A : Nat → Prop}
    (hown : s.vm.findClass own = some m.cls) (hcls : Bundle.fit cls = true) (hnames : ∀ n ∈ names, Bundle.fit n = true)
    (hk : (Cond.classLink own ik cls).before args s = true) (hini : (Cond.initialized cls).before args s = true) (hstr : vk_R own is text sa s) (hat : ∀ w ∈ vx_atS own ic cls names, w.before args s = true)
    (hgood : ∀ w ∈ Cond.classLink own ik cls :: Cond.initialized cls :: vx_atS own ic cls names, vx_ot w = true)
    (hU : vx_Zq Bundle.tN "UNASSIGNED_STACK" Bundle.steD A s s.heap) (hN : vx_Zq Bundle.tN "SUPPRESSED_SENTINEL" Bundle.listD A s s.heap) (hS : va_S A s.heap H locs) (hsize : ls.size = c.maxLocals)
    (d0 : decode cc pc = .ok (.new ik, 3)) (d3 : decode cc (pc + 3) = .ok (.dup, 1)) (d4 : decode cc (pc + 4) = .ok (.ldc is, 2)) (d6 : decode cc (pc + 6) = .ok (.invokespecial ic, 3)) (d9 : decode cc (pc + 9) = .ok (.athrow, 1))
    (hout : ∀ x ∈ c.exceptionTable.toList, covers x (pc + 9) = false)
    (hRframes : names.length + 3 < R.frames) (hRlocals : (rest.map fun v => v.category).sum + (13 * (names.length + 1) + 43) ≤ R.locals) (hRcells : cells + 1 ≤ R.cells) (hRslots : slots + 6 ≤ R.slots) (hlocks : meth.locks = false)
    (hx : ∀ t : State, s.vm.Alike t.vm → H.size + 1 ≤ t.heap.size → (∀ q : Nat, q < H.size → t.heap[q]? = H[q]?) → XC cls s t)
    (hf : ∀ z ∈ locs, free z.base) (hc : cells + 1 ≤ mc) (hs : slots + 6 ≤ ms) :
    W p l e R s m args below meth c H locs cells slots (vx_MQ below Qc XC args s mc ms free) (F0 m pc ls rest) := by
  intro T hT X
  have htr : e.platform.stackTraces = false := (show e.platform.stackTraces = l.stackTraces by rw [X.admits.platform]).trans hl
  have Y := vx_rebase X (R' := { frames := R.frames, locals := R.locals, cells := 1, slots := 6 }) (Nat.le_refl _) (Nat.le_refl _) hRcells hRslots
  obtain ⟨s', hA⟩ : ∃ z, z = (T.setVm s.vm).setFrames (.invoking m args :: below) := ⟨_, rfl⟩
  rw [← hA] at Y
  have hvm : s'.vm = s.vm := by rw [hA]; rfl
  have hhp : s'.heap = H := by rw [hA]; exact hT
  have hW0 : s.WarmedH s'.vm := by rw [hvm]; exact State.WarmedH.refl s
  have hat' : ∀ w ∈ vx_atS own ic cls names, w.before args s' = true := fun w hw => vx_ot_at hW0 hvm.symm (hgood w (List.mem_cons_of_mem _ (List.mem_cons_of_mem _ hw))) (hat w hw)
  have hk' : (Cond.classLink own ik cls).before args s' = true := vx_ot_at hW0 hvm.symm (hgood _ List.mem_cons_self) hk
  have hini' : (Cond.initialized cls).before args s' = true := vx_ot_at hW0 hvm.symm (hgood _ (List.mem_cons_of_mem _ List.mem_cons_self)) hini
  have hU' : vx_Zq Bundle.tN "UNASSIGNED_STACK" Bundle.steD A s' s'.heap := by rw [hhp]; exact vx_Zq.moved hW0.alike (hU.kept hS.2.1)
  have hN' : vx_Zq Bundle.tN "SUPPRESSED_SENTINEL" Bundle.listD A s' s'.heap := by rw [hhp]; exact vx_Zq.moved hW0.alike (hN.kept hS.2.1)
  have h : ∀ w ∈ Bundle.ownAtoms own ic cls names, w.before args s' = true := vx_own hat' (vx_isRefq hU'.1) (vx_isRefq hN'.1) hU'.2.word hN'.2.word
  have hown' : s'.vm.findClass own = some m.cls := by rw [hvm]; exact hown
  have hins : (Cond.instantiable cls 6).before args s' = true := h _ (by simp [Bundle.ownAtoms])
  obtain ⟨vm₁, cX, kX, hfX, hkX, -, -, X₁, st1⟩ := Y.newCold hexec (own := own) (C := cls) (index := ik) (n := 6) hown' hk' hins hini'
    (g := F0 m pc ls rest) rfl (by rw [hb]; exact d0) (Nat.le_refl _) (Nat.le_refl _)
  generalize hT1 : (T.setVm vm₁).pushCell { cls := cX, slots := kX.instanceTypes.map defaultValue, vm := .none } = T1 at X₁ st1
  have hcat : (Value.ref T.heap.size).category = 1 := rfl
  have hcellA : T1.heap[T.heap.size]? = some (freshCell cX kX) := by rw [← hT1]; exact State.heap_pushCell_size _ _
  have d3' : decode c.code (pc + 3) = .ok (.dup, 1) := by rw [hb]; exact d3
  have d4' : decode c.code (pc + 4) = .ok (.ldc is, 2) := by rw [hb]; exact d4
  have hstr' : vk_R own is text sa s' := vk_R.warm hW0 hstr
  obtain ⟨U, hsteps, hrun, hend, hW, hsame, ce, hce, hO⟩ := X₁.ctorThrowS hexec htr (own := own) (cls := cls) (names := names) (ic := ic) hown' hcls hnames h (fun x hx => nomatch hx) hfX hkX hcellA (by rw [hhp, hT]; exact Nat.le_refl _) (msg := .ref sa) rfl
    (g := { method := m, pc := pc + 6, locals := ls, stack := .ref sa :: .ref T.heap.size :: .ref T.heap.size :: rest, locked := none }) rfl hsize rfl rfl (rest := rest) rfl
    (by rw [hb]; exact d6) (by rw [hb]; exact d9) hout hRframes (by simp only [List.map_cons, List.sum_cons, hcat]; omega) hlocks
  obtain ⟨f1, f2⟩ := vx_frame hsame
  rw [hhp] at f1 f2
  have hWs : s.WarmedH U.vm := State.WarmedH.trans hW0 hW
  have hcl : s.vm.findClass cls = some ce.cls := by
    have h9 := hO.cls
    rw [hvm] at h9
    exact h9
  have hall : s.sameButNew ({ U with vm := s.vm } : State) locs mc ms := by
    subst hA
    obtain ⟨e1, e2⟩ := hsame
    rw [State.setFrames_setFrames] at e1
    have h2 : (T.setVm s.vm).sameButNew ({ U with vm := s.vm } : State) [] (0 + 1) (0 + 6) := ⟨e1, e2⟩
    have h3 := X.same.trans h2
    rw [List.append_nil] at h3
    exact h3.mono hc hs
  have f0 : H.size + 1 ≤ U.heap.size := by
    have h9 := (Array.getElem?_eq_some_iff.mp hce).1
    rw [hT] at h9
    exact h9
  refine ⟨U, ?_, .threw T.heap.size, hrun, hend, Or.inr ⟨T.heap.size, rfl, cls, ce, locs, hx U hWs.alike f0 (fun q hq => f2 q hq (fun z hz => nomatch hz)), hce, hO.vm, hcl, hWs, hall, hf⟩⟩
  refine st1 _ ?_
  show Steps p.tables e below (T1.setTop { method := m, pc := pc + 3, locals := ls, stack := .ref T.heap.size :: rest, locked := none }) _
  jvm_step X₁.here [X₁.here.top, hexec, d3', Value.category]
  exact X₁.ldcString hexec (own := own) (text := text) (index := is) (a := sa) hown' hstr'.1 hstr'.2
    (g := { method := m, pc := pc + 4, locals := ls, stack := .ref T.heap.size :: .ref T.heap.size :: rest, locked := none }) rfl d4' _ hsteps
/-- 'throw new E(text)' leaves the method -/
theorem h_throw (C : hC p s m args meth c cc nL Ts RX4 D tys A) (X : hX l s c A) {cls text : String} {ik is ic : Nat} (hcs : cls ∈ xCs) (hcls : Bundle.fit cls = true) (hnames : ∀ n ∈ xUp, Bundle.fit n = true) (hk : Cond.classLink RX4 ik cls ∈ Ts) (hini : Cond.initialized cls ∈ Ts) (hstr : (is, text) ∈ xStr)
    (hat : ∀ w ∈ (vx_atS RX4 ic cls xUp).filter goodWord, w ∈ Ts) (hg : ∀ w ∈ vx_atS RX4 ic cls xUp, goodWord w = true ∨ w ∈ xDc.map Cond.declares ∨ w = .castable cls cls) (hgood : ∀ w ∈ Cond.classLink RX4 ik cls :: Cond.initialized cls :: vx_atS RX4 ic cls xUp, vx_ot w = true)
    (d0 : decode cc pc = .ok (.new ik, 3)) (d3 : decode cc (pc + 3) = .ok (.dup, 1)) (d4 : decode cc (pc + 4) = .ok (.ldc is, 2)) (d6 : decode cc (pc + 6) = .ok (.invokespecial ic, 3)) (d9 : decode cc (pc + 9) = .ok (.athrow, 1))
    (hR : 5 < R.frames ∧ (st.map fun v => v.category).sum + 82 ≤ R.locals ∧ cells + 1 ≤ R.cells ∧ slots + 6 ≤ R.slots) {mc ms : Nat} (hm : cells + 1 ≤ mc ∧ slots + 6 ≤ ms) :
    hK 0 p l e R s m args below meth c nL D A cells slots (vx_MQ below (fun _ _ _ _ => False) (xX D tys A cls ws) args s mc ms A) pc lv st ws := by
  intro H locs ls hP hD hS hG hl
  obtain ⟨⟨zU, zN, zW⟩, hl9, ht⟩ := X
  obtain ⟨sa, hsa⟩ := zW.2.2.2 _ hstr
  have hts := C.1.2.2.2.2
  refine vx_throwG (names := xUp) (sa := sa) C.1.1 C.1.2.1 hl9 C.1.2.2.2.1 hcls hnames (hts _ hk) (hts _ hini) hsa (xng_words hcs hg (fun w h => hts w (hat w h)) zW) hgood zU zN hS (hl.1.trans C.1.2.2.1.symm) d0 d3 d4 d6 d9 (fun x hx => (ht x hx).elim) hR.1 hR.2.1 hR.2.2.1 hR.2.2.2 C.2.2.1 ?_ hS.2.2 hm.1 hm.2
  intro t hvm hz hk
  exact ⟨⟨rfl, hP.kept (fun k q h => hk q.1 ((hP k q h).lt)), va_K.moved hvm C.2.1, hD, ⟨Nat.le_trans hS.1 (by omega), fun q h1 h2 => (hk q (Nat.lt_of_lt_of_le h1 hS.1)).trans (hS.2.1 q h1 h2)⟩⟩, by omega⟩
/-- a call that throws E, which a row of this method's table catches, past rows that name other classes: one cell more -/
theorem h_xcatch (C : hC p s m args meth c cc nL Ts own D tys A) (hZ : xZ A s s.heap) {y : MethodName} {wsy : List Cond} {rm : Room} {bytes : ByteArray} {maxL n index q0 ci b : Nat} {ret : Option FieldType} {Cn : String} {As rest : List Value} {wc : va_W} {E : String} {fs : List Value} {qc : vw_C}
    (hM : xM l y wsy rm D tys (.ref b :: As) wc E) (cw : CallW R s args own Cn index y bytes maxL ret wsy rm rm.cells rm.slots n) (hdg : decode cc pc = .ok (.invokevirtual index, 3))
    (hrec : ws[q0]? = some (b, .inr (ci, fs))) (hci : vwCl[ci]? = some qc) (hqn : qc.1 = Cn) (hn : As.length = n) (hst : st = As.reverse ++ .ref b :: rest) (hcat : (rest.map fun v => v.category).sum ≤ 8) (hf : cells + rm.cells ≤ R.cells ∧ slots + rm.slots ≤ R.slots)
    (isC isR is : List Nat) (hCs : isC.map (fun i => ws[i]?) = wc.map some) (hRs : isR.map (fun i => ws[i]?) = (isR.filterMap (fun i => ws[i]?)).map some) (hndC : va_nd isC = true) (hnd : va_nd isR = true) (hdis : ∀ i ∈ isR, i ∉ isC) (hin : va_nd is = true) (his : is.map (fun i => (isR.filterMap (fun i => ws[i]?) ++ wc)[i]?) = ws.map some)
    (pre : List ExceptionTableEntry) (x : ExceptionTableEntry) (suf : List ExceptionTableEntry) (hsplit : c.exceptionTable.toList = pre ++ x :: suf)
    (hpass : ∀ z ∈ pre, covers z pc = false ∨ (z.catchType ≠ 0 ∧ ∃ nm : String, Cond.classLink own z.catchType nm ∈ Ts ∧ va_Nc E nm s)) (hx : covers x pc = true) (hcz : x.catchType ≠ 0) (hlink : Cond.classLink own x.catchType E ∈ Ts) (hE : E ∈ xCs) {hpc : Nat} (hh : x.handlerPc = hpc)
    (kk : ∀ q : Nat, hK (G + 1) p l e R s m args below meth c nL D A (cells + rm.cells) (slots + rm.slots) Q hpc lv [.ref q] ws) : hK G p l e R s m args below meth c nL D A cells slots Q pc lv st ws := by
  subst hst
  subst hh
  intro H locs ls hP hD hS hG hl
  have hA := C.2.2.2
  have hDc : va_D A wc := hD.sub isC hndC hCs
  have hFc := va_free (wc := wc) hD hS hA isC hCs
  have hZ1 : xZ (va_A wc H.size) s H := (hZ.kept (fun a h1 h2 => hS.2.1 a h1 h2)).narrow hFc
  have hPc := h_psub hCs hP
  intro T hT X
  rcases vx_runV (As := As) (rest := rest) C.1 (hM H.size) cw ⟨xP_blind, by rw [← hqn]; exact va_recv C.2.1 hP hci hrec, fun U hU hW => ⟨rfl, by rw [hU], by rw [hU]; exact hPc, va_K.moved hW.alike C.2.1, hDc.weaken (fun _ _ _ _ => trivial), by rw [hU]; exact hZ1.warm hW⟩⟩ rfl hn hl.1 rfl (lv_room hcat) hdg hf T hT X with ⟨v, st₀, t, T', L, h0, X', hL, e1, e2, hf, go⟩ | ⟨q, st₀, t, T', L, E', ce, h0, X', hL, e1, e2, ⟨⟨rfl, hP1, hK1, hD1, hz, hk⟩, hg⟩, hce, hcv, hcl, go⟩
  · exact hf.elim
  · rw [h0] at hz hk hg
    obtain ⟨hP2, hD2⟩ := va_join (H1 := T'.heap) (wr := isR.filterMap (fun i => ws[i]?)) (w1 := wc) hP hD isC isR hCs hRs hnd hdis (fun q h1 h2 => by rw [e1]; exact hk q h1 h2) hFc (by rw [e1]; exact hP1) hD1
    have hS2 : va_S A s.heap T'.heap (locs ++ L) := ⟨Nat.le_trans hS.1 (by rw [e1]; exact hz), fun q h1 h2 => by rw [e1, hk q (Nat.lt_of_lt_of_le h1 hS.1) (fun z => h2 (hFc q z))]; exact hS.2.1 q h1 h2, fun q hq => by
        rcases List.mem_append.mp hq with h | h
        · exact hS.2.2 q h
        · exact hFc _ (hL q h)⟩
    have hG2 : s.heap.size + (G + 1) ≤ T'.heap.size := by rw [e1]; omega
    obtain ⟨t2, a1, b1⟩ := vx_catch (own := own) C.1.2.2.2.1 pre x suf hsplit (fun z hz => by
        rcases hpass z hz with h | ⟨h1, nm, h2, h3⟩
        · exact Or.inl h
        · exact Or.inr ⟨h1, nm, C.1.2.2.2.2 _ h2, h3⟩) hx hcz (C.1.2.2.2.2 _ hlink) (va_Nw.use rfl (hZ.2.2.2.1 _ hE)) (by rw [e1]; exact hce) hcv hcl (kk q T'.heap (locs ++ L) ls (h_psub his hP2) (hD2.sub is hin his) hS2 hG2 hl) T' rfl X'
    exact ⟨t2, go.trans a1, b1⟩
/-! methods that return, having made g cells at least; their callees may throw -/
def gM (g : Nat) (l : Launch) (y : MethodName) (wsy : List Cond) (rm : Room) (D : va_G) (tys : List (ClassId × FieldType)) (av : List Value) (w : va_W) (ro : Option Value) : Prop :=
  ∀ sz : Nat, Met l y wsy rm (xP D tys av w sz) (gQ g D tys (va_A w sz) ro w) rm.cells rm.slots (va_A w sz)
/-- .. with a table of their own -/
theorem gM_ofW {g : Nat} {y : MethodName} {wsy ws' : List Cond} {rm : Room} {av : List Value} {w : va_W} {ro : Option Value} {maxL : Nat} {ret : Option FieldType} {hh : List (Nat × Nat × Nat × Nat)} {own : String} {lv : List (Nat × Value)} (hy : plainName y.cls = true) (hw : wsy = Cond.codeWith y cc maxL ret hh :: ws') (hlen : (lg_sl av).length ≤ maxL) (ho : y.cls = own) (hlv : lv_args 0 av = lv)
    (body : ∀ (p : Program) (e : Env) (s : State) (m : MethodId) (args : Array Value) (below : List Frame) (meth : Method) (c : Code) (A : Nat → Prop), hC p s m args meth c cc maxL wsy own D tys A → xZ A s s.heap → c.exceptionTable.toList = tableOf hh → meth.sig.returnType = ret →
      hK 0 p l e rm s m args below meth c maxL D A 0 0 (MQ below (gQ g D tys A ro w) args s rm.cells rm.slots A) 0 lv [] w) : gM g l y wsy rm D tys av w ro := by
  subst hlv
  subst ho
  intro sz
  refine va_MetW (cc := cc) (maxL := maxL) (ret := ret) (hh := hh) hy hw ?_
  intro p e s m args below meth c s₁ B hml hv
  obtain ⟨rfl, hsz, hP, hK, hD0, hZ⟩ := hv
  subst hsz
  have hts := atoms_spec (ws := wsy) B.pre
  have hown : s.vm.findClass y.cls = some m.cls := findClass_of_methodNamed B.named
  have hD := hD0.self (sz := s.heap.size)
  have hA : ∀ q : Nat, s.heap.size ≤ q → va_A w s.heap.size q := fun q h => Or.inr h
  have htab := vx_table (x := y) B (hts _ (by rw [hw]; exact List.mem_cons_self))
  have hb := body p e s m av.toArray below meth c (va_A w s.heap.size) ⟨⟨B.exec, B.bytes, hml, hown, hts⟩, hK, B.notSynchronized, hA⟩ hZ htab B.returns
  rw [lg_entry_eq]
  exact hb s.heap [] _ hP hD va_S.rf (Nat.le_refl _) (lv_entry av hlen)
/-- .. without one -/
theorem gM_of {g : Nat} {y : MethodName} {wsy ws' : List Cond} {rm : Room} {av : List Value} {w : va_W} {ro : Option Value} {maxL : Nat} {ret : Option FieldType} {own : String} {lv : List (Nat × Value)} (hy : plainName y.cls = true) (hw : wsy = Cond.code y cc maxL ret :: ws') (hlen : (lg_sl av).length ≤ maxL) (ho : y.cls = own) (hlv : lv_args 0 av = lv)
    (body : ∀ (p : Program) (e : Env) (s : State) (m : MethodId) (args : Array Value) (below : List Frame) (meth : Method) (c : Code) (A : Nat → Prop), hC p s m args meth c cc maxL wsy own D tys A → xZ A s s.heap → meth.sig.returnType = ret →
      hK 0 p l e rm s m args below meth c maxL D A 0 0 (MQ below (gQ g D tys A ro w) args s rm.cells rm.slots A) 0 lv [] w) : gM g l y wsy rm D tys av w ro := by
  subst hlv
  subst ho
  intro sz
  refine Met.ofW (cc := cc) (maxL := maxL) (ret := ret) hy hw ?_
  intro p e s m args below meth c s₁ B hml hv
  obtain ⟨rfl, hsz, hP, hK, hD0, hZ⟩ := hv
  subst hsz
  have hts := atoms_spec (ws := wsy) B.pre
  have hown : s.vm.findClass y.cls = some m.cls := findClass_of_methodNamed B.named
  have hD := hD0.self (sz := s.heap.size)
  have hA : ∀ q : Nat, s.heap.size ≤ q → va_A w s.heap.size q := fun q h => Or.inr h
  have hb := body p e s m av.toArray below meth c (va_A w s.heap.size) ⟨⟨B.exec, B.bytes, hml, hown, hts⟩, hK, B.notSynchronized, hA⟩ hZ B.returns
  rw [lg_entry_eq]
  exact hb s.heap [] _ hP hD va_S.rf (Nat.le_refl _) (lv_entry av hlen)
theorem h_callSW {g : Nat} (C : hC p s m args meth c cc nL Ts own D tys A) (hZ : xZ A s s.heap) {y : MethodName} {wsy : List Cond} {rm : Room} {bytes : ByteArray} {maxL n index : Nat} {ret : Option FieldType} {hh : List (Nat × Nat × Nat × Nat)} {As rest : List Value} {wc : va_W} {ro : Option Value}
    (hM : gM g l y wsy rm D tys As wc ro) (cw : vx_CSW R s args own index y bytes maxL ret hh wsy rm rm.cells rm.slots n) (hdg : decode cc pc = .ok (.invokestatic index, 3))
    (hn : As.length = n) (hst : st = As.reverse ++ rest) (hcat : (rest.map fun v => v.category).sum ≤ 8) (hf : cells + rm.cells ≤ R.cells ∧ slots + rm.slots ≤ R.slots)
    (isC isR is : List Nat) (hCs : isC.map (fun i => ws[i]?) = wc.map some) (hRs : isR.map (fun i => ws[i]?) = (isR.filterMap (fun i => ws[i]?)).map some) (hndC : va_nd isC = true) (hnd : va_nd isR = true) (hdis : ∀ i ∈ isR, i ∉ isC) (hin : va_nd is = true) (his : is.map (fun i => (isR.filterMap (fun i => ws[i]?) ++ wc)[i]?) = ws.map some) {st2 : List Value} (hst2 : ro.toList ++ rest = st2)
    (kk : hK (G + g) p l e R s m args below meth c nL D A (cells + rm.cells) (slots + rm.slots) Q (pc + 3) lv st2 ws) : hK G p l e R s m args below meth c nL D A cells slots Q pc lv st ws := by
  subst hst
  subst hst2
  exact h_run C.2.2.2 (fun H locs ls hPc hP hDc hFc hS hl => vx_runSW (As := As) (rest := rest) C.1 (hM H.size) cw ⟨xP_blind, fun U hU hW => ⟨rfl, by rw [hU], by rw [hU]; exact hPc, va_K.moved hW.alike C.2.1, hDc, by rw [hU]; exact ((hZ.kept (fun a h1 h2 => hS.2.1 a h1 h2)).narrow hFc).warm hW⟩⟩ rfl hn hl.1 rfl (lv_room hcat) hdg hf) isC isR is hCs hRs hndC hnd hdis hin his kk
theorem h_callS {g : Nat} (C : hC p s m args meth c cc nL Ts own D tys A) (hZ : xZ A s s.heap) {y : MethodName} {wsy : List Cond} {rm : Room} {bytes : ByteArray} {maxL n index : Nat} {ret : Option FieldType} {As rest : List Value} {wc : va_W} {ro : Option Value}
    (hM : gM g l y wsy rm D tys As wc ro) (cw : CallB R s args own index y bytes maxL ret wsy rm rm.cells rm.slots n ∧ (Cond.static y).before args s = true) (hdg : decode cc pc = .ok (.invokestatic index, 3))
    (hn : As.length = n) (hst : st = As.reverse ++ rest) (hcat : (rest.map fun v => v.category).sum ≤ 8) (hf : cells + rm.cells ≤ R.cells ∧ slots + rm.slots ≤ R.slots)
    (isC isR is : List Nat) (hCs : isC.map (fun i => ws[i]?) = wc.map some) (hRs : isR.map (fun i => ws[i]?) = (isR.filterMap (fun i => ws[i]?)).map some) (hndC : va_nd isC = true) (hnd : va_nd isR = true) (hdis : ∀ i ∈ isR, i ∉ isC) (hin : va_nd is = true) (his : is.map (fun i => (isR.filterMap (fun i => ws[i]?) ++ wc)[i]?) = ws.map some) {st2 : List Value} (hst2 : ro.toList ++ rest = st2)
    (kk : hK (G + g) p l e R s m args below meth c nL D A (cells + rm.cells) (slots + rm.slots) Q (pc + 3) lv st2 ws) : hK G p l e R s m args below meth c nL D A cells slots Q pc lv st ws := by
  subst hst
  subst hst2
  exact h_run C.2.2.2 (fun H locs ls hPc hP hDc hFc hS hl => va_runS (As := As) (rest := rest) C.1 (hM H.size) cw ⟨xP_blind, fun U hU hW => ⟨rfl, by rw [hU], by rw [hU]; exact hPc, va_K.moved hW.alike C.2.1, hDc, by rw [hU]; exact ((hZ.kept (fun a h1 h2 => hS.2.1 a h1 h2)).narrow hFc).warm hW⟩⟩ rfl hn hl.1 rfl (lv_room hcat) hdg hf) isC isR is hCs hRs hndC hnd hdis hin his kk
theorem xng_IAE : ∀ w ∈ vx_atS RX4 164 xIAE xUp, goodWord w = true ∨ w ∈ xDc.map Cond.declares ∨ w = .castable xIAE xIAE := by decide +kernel
theorem xng_ISE : ∀ w ∈ vx_atS RX4 39 xISE xUp, goodWord w = true ∨ w ∈ xDc.map Cond.declares ∨ w = .castable xISE xISE := by decide +kernel
theorem xng_IOE : ∀ w ∈ vx_atS RX4 111 xIOE xUp, goodWord w = true ∨ w ∈ xDc.map Cond.declares ∨ w = .castable xIOE xIOE := by decide +kernel
theorem xgd_IAE : ∀ w ∈ Cond.classLink RX4 160 xIAE :: Cond.initialized xIAE :: vx_atS RX4 164 xIAE xUp, vx_ot w = true := by decide +kernel
theorem xgd_ISE : ∀ w ∈ Cond.classLink RX4 35 xISE :: Cond.initialized xISE :: vx_atS RX4 39 xISE xUp, vx_ot w = true := by decide +kernel
theorem xgd_IOE : ∀ w ∈ Cond.classLink RX4 107 xIOE :: Cond.initialized xIOE :: vx_atS RX4 111 xIOE xUp, vx_ot w = true := by decide +kernel
theorem xft_IAE : Bundle.fit xIAE = true := by decide +kernel
theorem xft_ISE : Bundle.fit xISE = true := by decide +kernel
theorem xft_IOE : Bundle.fit xIOE = true := by decide +kernel
theorem xft_up : ∀ n ∈ xUp, Bundle.fit n = true := by decide +kernel
theorem xin_IAE : xIAE ∈ xCs := by decide +kernel
theorem xin_ISE : xISE ∈ xCs := by decide +kernel
theorem xin_IOE : xIOE ∈ xCs := by decide +kernel
end HX
end
section
/-! laid by wip/p24/lay24.py: numbers, worlds: the empty tree, the law's own row g of two ints, the script of 256 times 18 -/
def jm30 : Int32 := -30
def jm1 : Int32 := -1
def j0 : Nat → Int32 := fun _ => 0
def j18 : Nat → Int32 := fun _ => 18
abbrev ty2 (cT : Nat → ClassId) : List (ClassId × FieldType) := [(cT 0, .int), (cT 1, .boolean)]
abbrev wS (cT : Nat → ClassId) (ad : Nat → Nat) : va_W := [(ad 1, .inr (0, [.ref (ad 2), .ref (ad 3), .ref (ad 4), .ref (ad 5), .int 0, .int 0])), (ad 2, .inl (cT 0, 100, .inl j0)), (ad 3, .inl (cT 0, 100, .inl j0)), (ad 4, .inl (cT 1, 100, .inl j0)), (ad 5, .inl (cT 0, 60, .inl j0))]
abbrev wT (cT : Nat → ClassId) (ad : Nat → Nat) : va_W := [(ad 6, .inr (1, [.ref (ad 7), .ref (ad 8), .int 0])), (ad 7, .inl (cT 0, 480, .inl j0)), (ad 8, .inl (cT 0, 8, .inl j0))]
abbrev wX (cT : Nat → ClassId) (ad : Nat → Nat) : va_W := [(ad 0, .inr (2, [.ref (ad 1), .ref (ad 6), .ref (ad 9)])), (ad 1, .inr (0, [.ref (ad 2), .ref (ad 3), .ref (ad 4), .ref (ad 5), .int 0, .int 0])), (ad 2, .inl (cT 0, 100, .inl j0)), (ad 3, .inl (cT 0, 100, .inl j0)), (ad 4, .inl (cT 1, 100, .inl j0)), (ad 5, .inl (cT 0, 60, .inl j0)), (ad 6, .inr (1, [.ref (ad 7), .ref (ad 8), .int 0])), (ad 7, .inl (cT 0, 480, .inl j0)), (ad 8, .inl (cT 0, 8, .inl j0)), (ad 9, .inl (cT 0, 60, .inl j0))]
abbrev wG (cT : Nat → ClassId) (ad : Nat → Nat) : va_W := [(ad 0, .inr (2, [.ref (ad 1), .ref (ad 6), .ref (ad 9)])), (ad 1, .inr (0, [.ref (ad 2), .ref (ad 3), .ref (ad 4), .ref (ad 5), .int 0, .int 0])), (ad 2, .inl (cT 0, 100, .inl j0)), (ad 3, .inl (cT 0, 100, .inl j0)), (ad 4, .inl (cT 1, 100, .inl j0)), (ad 5, .inl (cT 0, 60, .inl j0)), (ad 6, .inr (1, [.ref (ad 7), .ref (ad 8), .int 0])), (ad 7, .inl (cT 0, 480, .inl j0)), (ad 8, .inl (cT 0, 8, .inl j0)), (ad 9, .inl (cT 0, 60, .inl j0)), (ad 10, .inl (cT 0, 2, .inl j0))]
abbrev wP (cT : Nat → ClassId) (ad : Nat → Nat) : va_W := [(ad 11, .inl (cT 0, 256, .inl j18))]
abbrev wN (cT : Nat → ClassId) (ad : Nat → Nat) : va_W := [(ad 0, .inr (2, [.ref (ad 1), .ref (ad 6), .ref (ad 9)])), (ad 1, .inr (0, [.ref (ad 2), .ref (ad 3), .ref (ad 4), .ref (ad 5), .int 0, .int 0])), (ad 2, .inl (cT 0, 100, .inl j0)), (ad 3, .inl (cT 0, 100, .inl j0)), (ad 4, .inl (cT 1, 100, .inl j0)), (ad 5, .inl (cT 0, 60, .inl j0)), (ad 6, .inr (1, [.ref (ad 7), .ref (ad 8), .int 0])), (ad 7, .inl (cT 0, 480, .inl j0)), (ad 8, .inl (cT 0, 8, .inl j0)), (ad 9, .inl (cT 0, 60, .inl j0)), (ad 10, .inl (cT 0, 2, .inl j0)), (ad 11, .inl (cT 0, 256, .inl j18))]
/-- a place within the script -/
abbrev pAt (x : Int32) : Prop := ¬ 256 ≤ x ∧ vp_in x 256
end
section
/-! the constructors -/
section HI
variable {p : Program} {l : Launch} {e : Env} {R : Room} {s : State} {m : MethodId} {args : Array Value} {below : List Frame} {meth : Method} {c : Code} {cells slots : Nat} {Q : State → Prop}
variable {cc : ByteArray} {nL : Nat} {Ts : List Cond} {own : String} {D : va_G} {tys : List (ClassId × FieldType)} {A : Nat → Prop} {pc : Nat} {lv : List (Nat × Value)} {st : List Value} {ws : va_W}
def iQ (D : va_G) (tys : List (ClassId × FieldType)) (A : Nat → Prop) (wf : (Nat → Nat) → va_W) : Array Value → State → Outcome → State → Prop := fun _ st oc t => oc = .returned none ∧ (∃ qs : Nat → Nat, va_P D vwCl (wf qs) t.heap ∧ va_D A (wf qs)) ∧ va_K D vwCl tys t ∧ va_F A st t
def nW (U : State) : Prop := va_Nw (.methodLinkNest RX4 15 yX2_init "HilbertHutch") U ∧ va_Nw (.methodLinkNest RX4 22 yX3_init "HilbertHutch") U
theorem nW.warm {s U : State} (hW : s.WarmedH U.vm) (h : nW s) : nW U := ⟨va_Nw.warmM hW h.1, va_Nw.warmM hW h.2⟩
def iP (D : va_G) (tys : List (ClassId × FieldType)) (av : List Value) (w : va_W) (sz : Nat) : Array Value → State → Prop := va_Pc av (fun U => U.heap.size = sz ∧ va_P D vwCl w U.heap ∧ va_K D vwCl tys U ∧ va_D (fun _ => True) w ∧ nW U)
theorem iP_blind {av : List Value} {w : va_W} {sz : Nat} : FrameBlind (iP D tys av w sz) := fun a U g mk q => by
  obtain ⟨q0, q1, qP, qK, qD, z1, z2⟩ := q
  exact ⟨q0, q1, qP, va_K.moved (u := U) (U := U.calling g mk a) (Vm.Alike.refl U.vm) qK, qD, va_Nw.same (u := U) (U := U.calling g mk a) rfl rfl z1, va_Nw.same (u := U) (U := U.calling g mk a) rfl rfl z2⟩
def iM (l : Launch) (y : MethodName) (wsy : List Cond) (rm : Room) (D : va_G) (tys : List (ClassId × FieldType)) (av : List Value) (w : va_W) (wf : (Nat → Nat) → va_W) : Prop :=
  ∀ sz : Nat, Met l y wsy rm (iP D tys av w sz) (iQ D tys (va_A w sz) wf) rm.cells rm.slots (va_A w sz)
theorem iM_of {y : MethodName} {wsy ws' : List Cond} {rm : Room} {av : List Value} {w : va_W} {wf : (Nat → Nat) → va_W} {maxL : Nat} {ret : Option FieldType} {own : String} {lv : List (Nat × Value)} (hy : plainName y.cls = true) (hw : wsy = Cond.code y cc maxL ret :: ws') (hlen : (lg_sl av).length ≤ maxL) (ho : y.cls = own) (hnm : y.name = "<init>") (hlv : lv_args 0 av = lv)
    (body : ∀ (p : Program) (e : Env) (s : State) (m : MethodId) (args : Array Value) (below : List Frame) (meth : Method) (c : Code) (A : Nat → Prop), hC p s m args meth c cc maxL wsy own D tys A → meth.sig.returnType = ret → meth.name = "<init>" → nW s →
      hK 0 p l e rm s m args below meth c maxL D A 0 0 (MQ below (iQ D tys A wf) args s rm.cells rm.slots A) 0 lv [] w) : iM l y wsy rm D tys av w wf := by
  subst hlv
  subst ho
  intro sz
  refine Met.ofW (cc := cc) (maxL := maxL) (ret := ret) hy hw ?_
  intro p e s m args below meth c s₁ B hml hv
  obtain ⟨rfl, hsz, hP, hK, hD0, hN⟩ := hv
  subst hsz
  have hts := atoms_spec (ws := wsy) B.pre
  have hown : s.vm.findClass y.cls = some m.cls := findClass_of_methodNamed B.named
  have hin : meth.name = "<init>" := (name_of_methodNamed B.named B.method).1.trans hnm
  have hD := hD0.self (sz := s.heap.size)
  have hA : ∀ q : Nat, s.heap.size ≤ q → va_A w s.heap.size q := fun q h => Or.inr h
  have hb := body p e s m av.toArray below meth c (va_A w s.heap.size) ⟨⟨B.exec, B.bytes, hml, hown, hts⟩, hK, B.notSynchronized, hA⟩ B.returns hin hN
  rw [lg_entry_eq]
  exact hb s.heap [] _ hP hD va_S.rf (Nat.le_refl _) (lv_entry av hlen)
theorem h_vretI (C : hC p s m args meth c cc nL Ts own D tys A) {wf : (Nat → Nat) → va_W} (qs : Nat → Nat) (is : List Nat) (hin : va_nd is = true) (his : is.map (fun i => ws[i]?) = (wf qs).map some) (hr : meth.sig.returnType = none) (hdg : decode cc pc = .ok (.return_, 1)) : hK 0 p l e R s m args below meth c nL D A cells slots (MQ below (iQ D tys A wf) args s cells slots A) pc lv [] ws :=
  fun H locs ls hP hD hS hG hl => W.vret C.1.1 C.1.2.1 hr (fun t ht hW => ⟨rfl, ⟨qs, by rw [ht]; exact h_psub his hP, hD.sub is hin his⟩, va_K.moved hW.alike C.2.1, hS.F ht⟩) hS.2.2 hdg C.2.2.1
theorem h_newa (C : hC p s m args meth c cc nL Ts own D tys A) {atype : ArrayType} {ty : FieldType} (hty : newarray.typeOf atype = ty) (harr : Cond.arrayClass ty ∈ Ts) (hRA : ∀ (U : State) (cA : ClassId), va_RA U cA ty → U.vm.findClass ("[" ++ ty.toString) = some cA) (t0 : Nat) {cA : ClassId} (ht : tys[t0]? = some (cA, ty)) {n : Int32} {N' : Nat} {a0 : vp_A} (ha : ∀ cA : ClassId, vp_cell cA a0 = arrV cA N' (fun _ => defaultValue ty)) (hn : ¬ n < 0) (hN : n.toNatClampNeg = N') (hbytes : N' * componentBytes ty ≤ 536870912) (hcells : cells + 1 ≤ R.cells ∧ slots + N' ≤ R.slots) (hdg : decode cc pc = .ok (.newarray atype, 2))
    (kk : ∀ q : Nat, hK 0 p l e R s m args below meth c nL D A (cells + 1) (slots + N') Q (pc + 2) lv (.ref q :: st) (ws ++ [(q, .inl (cA, a0))])) : hK 0 p l e R s m args below meth c nL D A cells slots Q pc lv (.int n :: st) ws := by
  subst hty
  intro H locs ls hP hD hS hG hl
  refine va_newa C.1.1 C.1.2.1 (C.1.2.2.2.2 _ harr) rfl C.2.1 hP hD hS C.2.2.2 ha hn hN hbytes hcells.1 hcells.2 hdg (fun q cA' H1 hK1 hP1 hD1 hS1 => ?_)
  have h1 := hRA _ _ (hK1.2 tys.length (cA', newarray.typeOf atype) (by simp)).2
  have h2 := hRA _ _ (C.2.1.2 t0 _ ht).2
  have h3 : cA' = cA := Option.some.inj (h1.symm.trans h2)
  subst h3
  exact kk q H1 locs ls hP1 hD1 hS1 (by have := hS1.1; omega) hl
theorem h_new (C : hC p s m args meth c cc nL Ts own D tys A) {C0 : String} {T : u_T} {N ci index : Nat} (hin : ∀ w ∈ u_ws C0 T N, w ∈ Ts) (ty : Nat → FieldType) (hty : ∀ k, k < N → parseFieldDescriptor (T k).2.2.1 = some (ty k)) (hcl : Cond.classLink own index C0 ∈ Ts) (hinst : Cond.instantiable C0 N ∈ Ts) (hini : Cond.initialized C0 ∈ Ts) (hc : vwCl[ci]? = some (C0, T, N)) {fs : List Value} (hfs : ∀ j, j < N → defaultValue (ty j) = vp_V fs j) (hcells : cells + 1 ≤ R.cells ∧ slots + N ≤ R.slots) (hdg : decode cc pc = .ok (.new index, 3))
    (kk : ∀ q : Nat, hK 0 p l e R s m args below meth c nL D A (cells + 1) (slots + N) Q (pc + 3) lv (.ref q :: st) (ws ++ [(q, .inr (ci, fs))])) : hK 0 p l e R s m args below meth c nL D A cells slots Q pc lv st ws :=
  fun H locs ls hP hD hS hG hl => va_new C.1.1 C.1.2.1 C.1.2.2.2.2 hin ty hty C.1.2.2.2.1 (C.1.2.2.2.2 _ hcl) (C.1.2.2.2.2 _ hinst) (C.1.2.2.2.2 _ hini) C.2.1 hP hD hS C.2.2.2 hc hfs hcells.1 hcells.2 hdg (fun q H1 hP1 hD1 hS1 => kk q H1 locs ls hP1 hD1 hS1 (by have := hS1.1; omega) hl)
theorem h_putF (C : hC p s m args meth c cc nL Ts own D tys A) {C0 : String} {T : u_T} {N ci index a : Nat} (hin : ∀ w ∈ u_ws C0 T N, w ∈ Ts) (ty0 : Nat → FieldType) (hty : ∀ k, k < N → parseFieldDescriptor (T k).2.2.1 = some (ty0 k)) (hnm : ∀ a, a < N → ∀ b, b < N → a ≠ b → (T a).2.1 ≠ (T b).2.1) (hc : vwCl[ci]? = some (C0, T, N)) (hin2 : meth.name = "<init>") (q0 : Nat) {fs : List Value} (he : ws[q0]? = some (a, .inr (ci, fs))) (k : Nat) (hk : k < N) {ref : String} (hlink : Cond.fieldLink own index ref (T k).2.1 (T k).2.2.1 ∈ Ts) (hown2 : (T k).1 = ref) (hown3 : (T k).1 = own) (hfin : (T k).2.2.2 = true) {ty : FieldType} {v : Value} (hd : ty0 k = ty) (hn : narrow ty v = v) (hfit : fits ty v = true) (hl1 : k < fs.length) {ws' : va_W} (hw : ws.set q0 (a, .inr (ci, fs.set k v)) = ws') (hdg : decode cc pc = .ok (.putfield index, 3)) (kk : hK 0 p l e R s m args below meth c nL D A cells slots Q (pc + 3) lv st ws') : hK 0 p l e R s m args below meth c nL D A cells slots Q pc lv (v :: .ref a :: st) ws := by
  subst hw
  intro H locs ls hP hD hS hG hl
  exact va_putF C.1.1 C.1.2.1 C.1.2.2.2.2 hin ty0 hty hnm C.1.2.2.2.1 C.2.1 hP hD hS q0 he hc k hk (C.1.2.2.2.2 _ hlink) (fun _ h9 => by rw [← hown2]; exact h9) hfin hin2 hown3 (ty := ty) (v := v) (by rw [hty k hk, hd]) hn hfit hl1 hdg (fun H1 locs1 hP1 hD1 hS1 => kk H1 locs1 ls hP1 hD1 hS1 (by have := hS1.1; omega) hl)
theorem h_obj (C : hC p s m args meth c cc nL Ts own D tys A) {a index : Nat} (h1 : Cond.methodLink own index objectInit ∈ Ts) (h2 : Cond.instanceMethod objectInit ∈ Ts) (h3 : Cond.code objectInit ⟨#[0xb1]⟩ 1 none ∈ Ts) (hR : 1 ≤ R.frames ∧ 12 ≤ R.locals) (hdg : decode cc pc = .ok (.invokespecial index, 3)) (kk : hK 0 p l e R s m args below meth c nL D A cells slots Q (pc + 3) lv [] ws) : hK 0 p l e R s m args below meth c nL D A cells slots Q pc lv [.ref a] ws :=
  fun H locs ls hP hD hS hG hl => W.objInit C.1.1 C.1.2.1 C.1.2.2.2.1 (C.1.2.2.2.2 _ h1) (C.1.2.2.2.2 _ h2) (C.1.2.2.2.2 _ h3) rfl (by rw [C.1.2.2.1]; exact hl.1) rfl hdg hR.1 hR.2 (W.eq (g2 := F0 m (pc + 3) ls []) rfl (kk H locs ls hP hD hS hG hl))
theorem h_callI (C : hC p s m args meth c cc nL Ts own D tys A) (hN : nW s) {y : MethodName} {wsy : List Cond} {rm : Room} {bytes : ByteArray} {maxL n index b : Nat} {As rest : List Value} {wc : va_W} {wf ws' : (Nat → Nat) → va_W}
    (hM : iM l y wsy rm D tys (.ref b :: As) wc wf) (cw : CallB R s args own index y bytes maxL none wsy rm rm.cells rm.slots n ∧ y.name = "<init>" ∧ (Cond.instanceMethod y).before args s = true) (hdg : decode cc pc = .ok (.invokespecial index, 3))
    (hn : As.length = n) (hst : st = As.reverse ++ .ref b :: rest) (hcat : (rest.map fun v => v.category).sum ≤ 8) (hf : cells + rm.cells ≤ R.cells ∧ slots + rm.slots ≤ R.slots)
    (isC isR is : List Nat) (hCs : isC.map (fun i => ws[i]?) = wc.map some) (hRs : isR.map (fun i => ws[i]?) = (isR.filterMap (fun i => ws[i]?)).map some) (hndC : va_nd isC = true) (hnd : va_nd isR = true) (hdis : ∀ i ∈ isR, i ∉ isC) (hin : va_nd is = true) (his : ∀ qs, is.map (fun i => (isR.filterMap (fun i => ws[i]?) ++ wf qs)[i]?) = (ws' qs).map some)
    (kk : ∀ qs, hK 0 p l e R s m args below meth c nL D A (cells + rm.cells) (slots + rm.slots) Q (pc + 3) lv rest (ws' qs)) : hK 0 p l e R s m args below meth c nL D A cells slots Q pc lv st ws := by
  subst hst
  intro H locs ls hP hD hS hG hl
  have hDc : va_D A wc := hD.sub isC hndC hCs
  have hFc := va_free (wc := wc) hD hS C.2.2.2 isC hCs
  intro T hT X
  obtain ⟨v, st₀, t, T', L, h0, X', hL, e1, e2, ⟨hv, ⟨qs, hP1, hD1⟩, hK1, hz, hk⟩, go⟩ := va_runI (As := As) (rest := rest) C.1 (hM H.size) cw ⟨iP_blind, fun U hU hW => ⟨rfl, by rw [hU], by rw [hU]; exact h_psub hCs hP, va_K.moved hW.alike C.2.1, hDc.weaken (fun _ _ _ _ => trivial), hN.warm hW⟩⟩ rfl hn hl.1 rfl (lv_room hcat) hdg hf T hT X
  have hv : v = none := by injection hv
  subst hv
  rw [h0] at hz hk
  obtain ⟨hP2, hD2⟩ := va_join (H1 := T'.heap) (wr := isR.filterMap (fun i => ws[i]?)) (w1 := wf qs) hP hD isC isR hCs hRs hnd hdis (fun q h1 h2 => by rw [e1]; exact hk q h1 h2) hFc (by rw [e1]; exact hP1) hD1
  obtain ⟨t2, a1, b1⟩ := kk qs T'.heap (locs ++ L) ls (h_psub (his qs) hP2) (hD2.sub is hin (his qs)) ⟨Nat.le_trans hS.1 (by rw [e1]; exact hz), fun q h1 h2 => by rw [e1, hk q (Nat.lt_of_lt_of_le h1 hS.1) (fun z => h2 (hFc q z))]; exact hS.2.1 q h1 h2, fun q hq => by
      rcases List.mem_append.mp hq with h | h
      · exact hS.2.2 q h
      · exact hFc _ (hL q h)⟩ (by rw [e1]; have := hS.1; omega) hl T' rfl X'
  exact ⟨t2, go t2 a1, b1⟩
theorem h_callIN (C : hC p s m args meth c cc nL Ts own D tys A) (hN : nW s) {y : MethodName} {wsy : List Cond} {rm : Room} {bytes : ByteArray} {maxL n index b : Nat} {host : String} {As rest : List Value} {wc : va_W} {wf ws' : (Nat → Nat) → va_W}
    (hM : iM l y wsy rm D tys (.ref b :: As) wc wf) (cw : va_CN R s args own index y host bytes maxL none wsy rm rm.cells rm.slots n ∧ y.name = "<init>" ∧ (Cond.instanceMethod y).before args s = true) (hdg : decode cc pc = .ok (.invokespecial index, 3))
    (hn : As.length = n) (hst : st = As.reverse ++ .ref b :: rest) (hcat : (rest.map fun v => v.category).sum ≤ 8) (hf : cells + rm.cells ≤ R.cells ∧ slots + rm.slots ≤ R.slots)
    (isC isR is : List Nat) (hCs : isC.map (fun i => ws[i]?) = wc.map some) (hRs : isR.map (fun i => ws[i]?) = (isR.filterMap (fun i => ws[i]?)).map some) (hndC : va_nd isC = true) (hnd : va_nd isR = true) (hdis : ∀ i ∈ isR, i ∉ isC) (hin : va_nd is = true) (his : ∀ qs, is.map (fun i => (isR.filterMap (fun i => ws[i]?) ++ wf qs)[i]?) = (ws' qs).map some)
    (kk : ∀ qs, hK 0 p l e R s m args below meth c nL D A (cells + rm.cells) (slots + rm.slots) Q (pc + 3) lv rest (ws' qs)) : hK 0 p l e R s m args below meth c nL D A cells slots Q pc lv st ws := by
  subst hst
  intro H locs ls hP hD hS hG hl
  have hDc : va_D A wc := hD.sub isC hndC hCs
  have hFc := va_free (wc := wc) hD hS C.2.2.2 isC hCs
  intro T hT X
  obtain ⟨v, st₀, t, T', L, h0, X', hL, e1, e2, ⟨hv, ⟨qs, hP1, hD1⟩, hK1, hz, hk⟩, go⟩ := va_runIN (As := As) (rest := rest) C.1 (hM H.size) cw ⟨iP_blind, fun U hU hW => ⟨rfl, by rw [hU], by rw [hU]; exact h_psub hCs hP, va_K.moved hW.alike C.2.1, hDc.weaken (fun _ _ _ _ => trivial), hN.warm hW⟩⟩ rfl hn hl.1 rfl (lv_room hcat) hdg hf T hT X
  have hv : v = none := by injection hv
  subst hv
  rw [h0] at hz hk
  obtain ⟨hP2, hD2⟩ := va_join (H1 := T'.heap) (wr := isR.filterMap (fun i => ws[i]?)) (w1 := wf qs) hP hD isC isR hCs hRs hnd hdis (fun q h1 h2 => by rw [e1]; exact hk q h1 h2) hFc (by rw [e1]; exact hP1) hD1
  obtain ⟨t2, a1, b1⟩ := kk qs T'.heap (locs ++ L) ls (h_psub (his qs) hP2) (hD2.sub is hin (his qs)) ⟨Nat.le_trans hS.1 (by rw [e1]; exact hz), fun q h1 h2 => by rw [e1, hk q (Nat.lt_of_lt_of_le h1 hS.1) (fun z => h2 (hFc q z))]; exact hS.2.1 q h1 h2, fun q hq => by
      rcases List.mem_append.mp hq with h | h
      · exact hS.2.2 q h
      · exact hFc _ (hL q h)⟩ (by rw [e1]; have := hS.1; omega) hl T' rfl X'
  exact ⟨t2, go t2 a1, b1⟩
end HI
theorem raI (U : State) (cA : ClassId) (h : va_RA U cA .int) : U.vm.findClass ("[" ++ FieldType.int.toString) = some cA := h
theorem raZ (U : State) (cA : ClassId) (h : va_RA U cA .boolean) : U.vm.findClass ("[" ++ FieldType.boolean.toString) = some cA := h
def adx (h0 : Nat) (qs : Nat → Nat) : Nat → Nat := fun k => match k with
  | 0 => h0
  | k + 1 => qs k
abbrev rmX2_init : Room := { frames := 1, cells := 4, slots := 360, locals := 12 }
theorem uX2_init_X2 : ∀ w ∈ u_ws RX2 TX2 6, w ∈ wsX2_init := fun w h => List.mem_cons_of_mem _ (List.mem_append_right _ h)
set_option maxRecDepth 100000 in
set_option maxHeartbeats 4000000 in
theorem c_X2_init (l : Launch) (D : va_G) (cT : Nat → ClassId) (h0 : Nat) : iM l yX2_init wsX2_init rmX2_init D (ty2 cT) [.ref h0] [(h0, .inr (0, [.null, .null, .null, .null, .int 0, .int 0]))] (fun qs => [(h0, .inr (0, [.ref (qs 0), .ref (qs 1), .ref (qs 2), .ref (qs 3), .int 0, .int 0])), (qs 0, .inl (cT 0, 100, .inl j0)), (qs 1, .inl (cT 0, 100, .inl j0)), (qs 2, .inl (cT 1, 100, .inl j0)), (qs 3, .inl (cT 0, 60, .inl j0))]) := by
  refine iM_of (cc := cX2_init) (maxL := 1) (ret := none) (own := RX2) (lv := [(0, .ref h0)]) (by decide) rfl (Nat.le_of_ble_eq_true rfl) rfl rfl rfl ?_
  intro p e s m args below meth c A C hr hin hN
  refine h_aload_n (pc := 0) C dX2_init_0 rfl 0 rfl ?_
  refine h_obj (pc := 1) C (List.mem_of_getElem? (i := 1) rfl) (List.mem_of_getElem? (i := 2) rfl) (List.mem_of_getElem? (i := 3) rfl) ⟨Nat.le_of_ble_eq_true rfl, Nat.le_of_ble_eq_true rfl⟩ dX2_init_1 ?_
  refine h_aload_n (pc := 4) C dX2_init_4 rfl 0 rfl ?_
  refine h_bipush (pc := 5) (v := 100) C dX2_init_5 (by decide) ?_
  refine h_newa (pc := 7) (ty := .int) (cA := cT 0) (N' := 100) (a0 := (100, .inl j0)) C rfl (List.mem_of_getElem? (i := 4) rfl) raI 0 rfl (fun _ => rfl) (by decide) (by decide) (by decide) ⟨Nat.le_of_ble_eq_true rfl, Nat.le_of_ble_eq_true rfl⟩ dX2_init_7 (fun q1 => ?_)
  refine h_putF (pc := 9) (C0 := RX2) (T := TX2) (N := 6) (ci := 0) (ty := (.array .int)) (ws' := [(h0, .inr (0, [.ref q1, .null, .null, .null, .int 0, .int 0])), (q1, .inl (cT 0, 100, .inl j0))]) C uX2_init_X2 tyX2 tyX2_ok nmX2 rfl hin 0 rfl 0 (by decide) (List.mem_of_getElem? (i := 5) rfl) rfl rfl rfl rfl rfl rfl (Nat.le_of_ble_eq_true rfl) rfl dX2_init_9 ?_
  refine h_aload_n (pc := 12) C dX2_init_12 rfl 0 rfl ?_
  refine h_bipush (pc := 13) (v := 100) C dX2_init_13 (by decide) ?_
  refine h_newa (pc := 15) (ty := .int) (cA := cT 0) (N' := 100) (a0 := (100, .inl j0)) C rfl (List.mem_of_getElem? (i := 4) rfl) raI 0 rfl (fun _ => rfl) (by decide) (by decide) (by decide) ⟨Nat.le_of_ble_eq_true rfl, Nat.le_of_ble_eq_true rfl⟩ dX2_init_15 (fun q2 => ?_)
  refine h_putF (pc := 17) (C0 := RX2) (T := TX2) (N := 6) (ci := 0) (ty := (.array .int)) (ws' := [(h0, .inr (0, [.ref q1, .ref q2, .null, .null, .int 0, .int 0])), (q1, .inl (cT 0, 100, .inl j0)), (q2, .inl (cT 0, 100, .inl j0))]) C uX2_init_X2 tyX2 tyX2_ok nmX2 rfl hin 0 rfl 1 (by decide) (List.mem_of_getElem? (i := 6) rfl) rfl rfl rfl rfl rfl rfl (Nat.le_of_ble_eq_true rfl) rfl dX2_init_17 ?_
  refine h_aload_n (pc := 20) C dX2_init_20 rfl 0 rfl ?_
  refine h_bipush (pc := 21) (v := 100) C dX2_init_21 (by decide) ?_
  refine h_newa (pc := 23) (ty := .boolean) (cA := cT 1) (N' := 100) (a0 := (100, .inl j0)) C rfl (List.mem_of_getElem? (i := 7) rfl) raZ 1 rfl (fun _ => rfl) (by decide) (by decide) (by decide) ⟨Nat.le_of_ble_eq_true rfl, Nat.le_of_ble_eq_true rfl⟩ dX2_init_23 (fun q3 => ?_)
  refine h_putF (pc := 25) (C0 := RX2) (T := TX2) (N := 6) (ci := 0) (ty := (.array .boolean)) (ws' := [(h0, .inr (0, [.ref q1, .ref q2, .ref q3, .null, .int 0, .int 0])), (q1, .inl (cT 0, 100, .inl j0)), (q2, .inl (cT 0, 100, .inl j0)), (q3, .inl (cT 1, 100, .inl j0))]) C uX2_init_X2 tyX2 tyX2_ok nmX2 rfl hin 0 rfl 2 (by decide) (List.mem_of_getElem? (i := 8) rfl) rfl rfl rfl rfl rfl rfl (Nat.le_of_ble_eq_true rfl) rfl dX2_init_25 ?_
  refine h_aload_n (pc := 28) C dX2_init_28 rfl 0 rfl ?_
  refine h_bipush (pc := 29) (v := 60) C dX2_init_29 (by decide) ?_
  refine h_newa (pc := 31) (ty := .int) (cA := cT 0) (N' := 60) (a0 := (60, .inl j0)) C rfl (List.mem_of_getElem? (i := 4) rfl) raI 0 rfl (fun _ => rfl) (by decide) (by decide) (by decide) ⟨Nat.le_of_ble_eq_true rfl, Nat.le_of_ble_eq_true rfl⟩ dX2_init_31 (fun q4 => ?_)
  refine h_putF (pc := 33) (C0 := RX2) (T := TX2) (N := 6) (ci := 0) (ty := (.array .int)) (ws' := [(h0, .inr (0, [.ref q1, .ref q2, .ref q3, .ref q4, .int 0, .int 0])), (q1, .inl (cT 0, 100, .inl j0)), (q2, .inl (cT 0, 100, .inl j0)), (q3, .inl (cT 1, 100, .inl j0)), (q4, .inl (cT 0, 60, .inl j0))]) C uX2_init_X2 tyX2 tyX2_ok nmX2 rfl hin 0 rfl 3 (by decide) (List.mem_of_getElem? (i := 9) rfl) rfl rfl rfl rfl rfl rfl (Nat.le_of_ble_eq_true rfl) rfl dX2_init_33 ?_
  exact h_vretI (pc := 36) C (fun k => [q1, q2, q3, q4].getD k 0) [0, 1, 2, 3, 4] rfl rfl hr dX2_init_36
abbrev rmX3_init : Room := { frames := 1, cells := 2, slots := 488, locals := 12 }
theorem uX3_init_X3 : ∀ w ∈ u_ws RX3 TX3 3, w ∈ wsX3_init := fun w h => List.mem_cons_of_mem _ (List.mem_append_right _ h)
set_option maxRecDepth 100000 in
set_option maxHeartbeats 4000000 in
theorem c_X3_init (l : Launch) (D : va_G) (cT : Nat → ClassId) (h0 : Nat) : iM l yX3_init wsX3_init rmX3_init D (ty2 cT) [.ref h0] [(h0, .inr (1, [.null, .null, .int 0]))] (fun qs => [(h0, .inr (1, [.ref (qs 0), .ref (qs 1), .int 0])), (qs 0, .inl (cT 0, 480, .inl j0)), (qs 1, .inl (cT 0, 8, .inl j0))]) := by
  refine iM_of (cc := cX3_init) (maxL := 1) (ret := none) (own := RX3) (lv := [(0, .ref h0)]) (by decide) rfl (Nat.le_of_ble_eq_true rfl) rfl rfl rfl ?_
  intro p e s m args below meth c A C hr hin hN
  refine h_aload_n (pc := 0) C dX3_init_0 rfl 0 rfl ?_
  refine h_obj (pc := 1) C (List.mem_of_getElem? (i := 1) rfl) (List.mem_of_getElem? (i := 2) rfl) (List.mem_of_getElem? (i := 3) rfl) ⟨Nat.le_of_ble_eq_true rfl, Nat.le_of_ble_eq_true rfl⟩ dX3_init_1 ?_
  refine h_aload_n (pc := 4) C dX3_init_4 rfl 0 rfl ?_
  refine h_sipush (pc := 5) (v := 480) C dX3_init_5 (by decide) ?_
  refine h_newa (pc := 8) (ty := .int) (cA := cT 0) (N' := 480) (a0 := (480, .inl j0)) C rfl (List.mem_of_getElem? (i := 4) rfl) raI 0 rfl (fun _ => rfl) (by decide) (by decide) (by decide) ⟨Nat.le_of_ble_eq_true rfl, Nat.le_of_ble_eq_true rfl⟩ dX3_init_8 (fun q1 => ?_)
  refine h_putF (pc := 10) (C0 := RX3) (T := TX3) (N := 3) (ci := 1) (ty := (.array .int)) (ws' := [(h0, .inr (1, [.ref q1, .null, .int 0])), (q1, .inl (cT 0, 480, .inl j0))]) C uX3_init_X3 tyX3 tyX3_ok nmX3 rfl hin 0 rfl 0 (by decide) (List.mem_of_getElem? (i := 5) rfl) rfl rfl rfl rfl rfl rfl (Nat.le_of_ble_eq_true rfl) rfl dX3_init_10 ?_
  refine h_aload_n (pc := 13) C dX3_init_13 rfl 0 rfl ?_
  refine h_bipush (pc := 14) (v := 8) C dX3_init_14 (by decide) ?_
  refine h_newa (pc := 16) (ty := .int) (cA := cT 0) (N' := 8) (a0 := (8, .inl j0)) C rfl (List.mem_of_getElem? (i := 4) rfl) raI 0 rfl (fun _ => rfl) (by decide) (by decide) (by decide) ⟨Nat.le_of_ble_eq_true rfl, Nat.le_of_ble_eq_true rfl⟩ dX3_init_16 (fun q2 => ?_)
  refine h_putF (pc := 18) (C0 := RX3) (T := TX3) (N := 3) (ci := 1) (ty := (.array .int)) (ws' := [(h0, .inr (1, [.ref q1, .ref q2, .int 0])), (q1, .inl (cT 0, 480, .inl j0)), (q2, .inl (cT 0, 8, .inl j0))]) C uX3_init_X3 tyX3 tyX3_ok nmX3 rfl hin 0 rfl 1 (by decide) (List.mem_of_getElem? (i := 6) rfl) rfl rfl rfl rfl rfl rfl (Nat.le_of_ble_eq_true rfl) rfl dX3_init_18 ?_
  exact h_vretI (pc := 21) C (fun k => [q1, q2].getD k 0) [0, 1, 2] rfl rfl hr dX3_init_21
abbrev rmX4_init : Room := { frames := 2, cells := 9, slots := 917, locals := 32 }
theorem uX4_init_X4 : ∀ w ∈ u_ws RX4 TX4 3, w ∈ wsX4_init := fun w h => List.mem_cons_of_mem _ (List.mem_append_left _ (List.mem_append_left _ (List.mem_append_right _ h)))
theorem uX4_init_X2 : ∀ w ∈ u_ws RX2 TX2 6, w ∈ wsX4_init := fun w h => List.mem_cons_of_mem _ (List.mem_append_left _ (List.mem_append_right _ h))
theorem uX4_init_X3 : ∀ w ∈ u_ws RX3 TX3 3, w ∈ wsX4_init := fun w h => List.mem_cons_of_mem _ (List.mem_append_right _ h)
set_option maxRecDepth 100000 in
set_option maxHeartbeats 4000000 in
theorem c_X4_init (l : Launch) (D : va_G) (cT : Nat → ClassId) (h0 : Nat) : iM l yX4_init wsX4_init rmX4_init D (ty2 cT) [.ref h0] [(h0, .inr (2, [.null, .null, .null]))] (fun qs => wX cT (adx h0 qs)) := by
  refine iM_of (cc := cX4_init) (maxL := 1) (ret := none) (own := RX4) (lv := [(0, .ref h0)]) (by decide) rfl (Nat.le_of_ble_eq_true rfl) rfl rfl rfl ?_
  intro p e s m args below meth c A C hr hin hN
  refine h_aload_n (pc := 0) C dX4_init_0 rfl 0 rfl ?_
  refine h_obj (pc := 1) C (List.mem_of_getElem? (i := 1) rfl) (List.mem_of_getElem? (i := 2) rfl) (List.mem_of_getElem? (i := 3) rfl) ⟨Nat.le_of_ble_eq_true rfl, Nat.le_of_ble_eq_true rfl⟩ dX4_init_1 ?_
  refine h_aload_n (pc := 4) C dX4_init_4 rfl 0 rfl ?_
  refine h_bipush (pc := 5) (v := 60) C dX4_init_5 (by decide) ?_
  refine h_newa (pc := 7) (ty := .int) (cA := cT 0) (N' := 60) (a0 := (60, .inl j0)) C rfl (List.mem_of_getElem? (i := 4) rfl) raI 0 rfl (fun _ => rfl) (by decide) (by decide) (by decide) ⟨Nat.le_of_ble_eq_true rfl, Nat.le_of_ble_eq_true rfl⟩ dX4_init_7 (fun q1 => ?_)
  refine h_putF (pc := 9) (C0 := RX4) (T := TX4) (N := 3) (ci := 2) (ty := (.array .int)) (ws' := [(h0, .inr (2, [.null, .null, .ref q1])), (q1, .inl (cT 0, 60, .inl j0))]) C uX4_init_X4 tyX4 tyX4_ok nmX4 rfl hin 0 rfl 2 (by decide) (List.mem_of_getElem? (i := 5) rfl) rfl rfl rfl rfl rfl rfl (Nat.le_of_ble_eq_true rfl) rfl dX4_init_9 ?_
  refine h_aload_n (pc := 12) C dX4_init_12 rfl 0 rfl ?_
  refine h_new (pc := 13) (C0 := RX2) (T := TX2) (N := 6) (ci := 0) (fs := [.null, .null, .null, .null, .int 0, .int 0]) C uX4_init_X2 tyX2 tyX2_ok (List.mem_of_getElem? (i := 6) rfl) (List.mem_of_getElem? (i := 7) rfl) (List.mem_of_getElem? (i := 8) rfl) rfl (fun j hj => by rcases (show j = 0 ∨ j = 1 ∨ j = 2 ∨ j = 3 ∨ j = 4 ∨ j = 5 by omega) with rfl | rfl | rfl | rfl | rfl | rfl <;> rfl) ⟨Nat.le_of_ble_eq_true rfl, Nat.le_of_ble_eq_true rfl⟩ dX4_init_13 (fun q2 => ?_)
  refine h_dup (pc := 16) C dX4_init_16 rfl ?_
  refine h_callIN (pc := 17) (As := []) (rest := [.ref q2, .ref h0]) (ws' := fun sX2 => [(h0, .inr (2, [.null, .null, .ref q1])), (q1, .inl (cT 0, 60, .inl j0)), (q2, .inr (0, [.ref (sX2 0), .ref (sX2 1), .ref (sX2 2), .ref (sX2 3), .int 0, .int 0])), (sX2 0, .inl (cT 0, 100, .inl j0)), (sX2 1, .inl (cT 0, 100, .inl j0)), (sX2 2, .inl (cT 1, 100, .inl j0)), (sX2 3, .inl (cT 0, 60, .inl j0))]) C hN (c_X2_init l D cT q2) ⟨va_cnB 0 C.1.2.2.2.2 gX4_init_X2_init_n15 rfl rfl rfl hN.1 (C.1.2.2.2.2 _ (List.mem_of_getElem? (i := 8) rfl)) (by decide +kernel) ⟨Nat.le_of_ble_eq_true rfl, Nat.le_of_ble_eq_true rfl⟩, rfl, C.1.2.2.2.2 _ (List.mem_of_getElem? (i := 14) rfl)⟩ dX4_init_17 rfl rfl (Nat.le_of_ble_eq_true rfl) ⟨Nat.le_of_ble_eq_true rfl, Nat.le_of_ble_eq_true rfl⟩ [2] [0, 1] [0, 1, 2, 3, 4, 5, 6] rfl rfl rfl rfl (by decide) rfl (fun _ => rfl) (fun sX2 => ?_)
  refine h_putF (pc := 20) (C0 := RX4) (T := TX4) (N := 3) (ci := 2) (ty := (.object "HilbertHutch$Stock")) (ws' := [(h0, .inr (2, [.ref q2, .null, .ref q1])), (q1, .inl (cT 0, 60, .inl j0)), (q2, .inr (0, [.ref (sX2 0), .ref (sX2 1), .ref (sX2 2), .ref (sX2 3), .int 0, .int 0])), (sX2 0, .inl (cT 0, 100, .inl j0)), (sX2 1, .inl (cT 0, 100, .inl j0)), (sX2 2, .inl (cT 1, 100, .inl j0)), (sX2 3, .inl (cT 0, 60, .inl j0))]) C uX4_init_X4 tyX4 tyX4_ok nmX4 rfl hin 0 rfl 0 (by decide) (List.mem_of_getElem? (i := 9) rfl) rfl rfl rfl rfl rfl rfl (Nat.le_of_ble_eq_true rfl) rfl dX4_init_20 ?_
  refine h_aload_n (pc := 23) C dX4_init_23 rfl 0 rfl ?_
  refine h_new (pc := 24) (C0 := RX3) (T := TX3) (N := 3) (ci := 1) (fs := [.null, .null, .int 0]) C uX4_init_X3 tyX3 tyX3_ok (List.mem_of_getElem? (i := 10) rfl) (List.mem_of_getElem? (i := 11) rfl) (List.mem_of_getElem? (i := 12) rfl) rfl (fun j hj => by rcases (show j = 0 ∨ j = 1 ∨ j = 2 by omega) with rfl | rfl | rfl <;> rfl) ⟨Nat.le_of_ble_eq_true rfl, Nat.le_of_ble_eq_true rfl⟩ dX4_init_24 (fun q3 => ?_)
  refine h_dup (pc := 27) C dX4_init_27 rfl ?_
  refine h_callIN (pc := 28) (As := []) (rest := [.ref q3, .ref h0]) (ws' := fun sX3 => [(h0, .inr (2, [.ref q2, .null, .ref q1])), (q1, .inl (cT 0, 60, .inl j0)), (q2, .inr (0, [.ref (sX2 0), .ref (sX2 1), .ref (sX2 2), .ref (sX2 3), .int 0, .int 0])), (sX2 0, .inl (cT 0, 100, .inl j0)), (sX2 1, .inl (cT 0, 100, .inl j0)), (sX2 2, .inl (cT 1, 100, .inl j0)), (sX2 3, .inl (cT 0, 60, .inl j0)), (q3, .inr (1, [.ref (sX3 0), .ref (sX3 1), .int 0])), (sX3 0, .inl (cT 0, 480, .inl j0)), (sX3 1, .inl (cT 0, 8, .inl j0))]) C hN (c_X3_init l D cT q3) ⟨va_cnB 0 C.1.2.2.2.2 gX4_init_X3_init_n22 rfl rfl rfl hN.2 (C.1.2.2.2.2 _ (List.mem_of_getElem? (i := 12) rfl)) (by decide +kernel) ⟨Nat.le_of_ble_eq_true rfl, Nat.le_of_ble_eq_true rfl⟩, rfl, C.1.2.2.2.2 _ (List.mem_of_getElem? (i := 22) rfl)⟩ dX4_init_28 rfl rfl (Nat.le_of_ble_eq_true rfl) ⟨Nat.le_of_ble_eq_true rfl, Nat.le_of_ble_eq_true rfl⟩ [7] [0, 1, 2, 3, 4, 5, 6] [0, 1, 2, 3, 4, 5, 6, 7, 8, 9] rfl rfl rfl rfl (by decide) rfl (fun _ => rfl) (fun sX3 => ?_)
  refine h_putF (pc := 31) (C0 := RX4) (T := TX4) (N := 3) (ci := 2) (ty := (.object "HilbertHutch$Tree")) (ws' := [(h0, .inr (2, [.ref q2, .ref q3, .ref q1])), (q1, .inl (cT 0, 60, .inl j0)), (q2, .inr (0, [.ref (sX2 0), .ref (sX2 1), .ref (sX2 2), .ref (sX2 3), .int 0, .int 0])), (sX2 0, .inl (cT 0, 100, .inl j0)), (sX2 1, .inl (cT 0, 100, .inl j0)), (sX2 2, .inl (cT 1, 100, .inl j0)), (sX2 3, .inl (cT 0, 60, .inl j0)), (q3, .inr (1, [.ref (sX3 0), .ref (sX3 1), .int 0])), (sX3 0, .inl (cT 0, 480, .inl j0)), (sX3 1, .inl (cT 0, 8, .inl j0))]) C uX4_init_X4 tyX4 tyX4_ok nmX4 rfl hin 0 rfl 1 (by decide) (List.mem_of_getElem? (i := 13) rfl) rfl rfl rfl rfl rfl rfl (Nat.le_of_ble_eq_true rfl) rfl dX4_init_31 ?_
  exact h_vretI (pc := 34) C (fun k => [q2, sX2 0, sX2 1, sX2 2, sX2 3, q3, sX3 0, sX3 1, q1].getD k 0) [0, 2, 3, 4, 5, 6, 7, 8, 9, 1] rfl rfl hr dX4_init_34
end
section
/-! laid by wip/p24/lay24.py: the class's methods on the empty tree -/
theorem pv_X2_size : yX2_size.cls = RX2 ∧ yX2_size.cls ≠ "java/lang/invoke/MethodHandle" ∧ yX2_size.cls ≠ "java/lang/invoke/VarHandle" ∧ (parseMethodDescriptor yX2_size.desc).map (fun d => d.parameters.length) = some 0 := by decide +kernel
theorem pv_X4_boxes : yX4_boxes.cls = RX4 ∧ yX4_boxes.cls ≠ "java/lang/invoke/MethodHandle" ∧ yX4_boxes.cls ≠ "java/lang/invoke/VarHandle" ∧ (parseMethodDescriptor yX4_boxes.desc).map (fun d => d.parameters.length) = some 0 := by decide +kernel
theorem pv_X4_boxAt : yX4_boxAt.cls = RX4 ∧ yX4_boxAt.cls ≠ "java/lang/invoke/MethodHandle" ∧ yX4_boxAt.cls ≠ "java/lang/invoke/VarHandle" ∧ (parseMethodDescriptor yX4_boxAt.desc).map (fun d => d.parameters.length) = some 1 := by decide +kernel
theorem ps_L_tree : yL_tree.cls ≠ "java/lang/invoke/MethodHandle" ∧ yL_tree.cls ≠ "java/lang/invoke/VarHandle" ∧ (parseMethodDescriptor yL_tree.desc).map (fun d => d.parameters.length) = some 5 := by decide +kernel
theorem ps_L_isOrder : yL_isOrder.cls ≠ "java/lang/invoke/MethodHandle" ∧ yL_isOrder.cls ≠ "java/lang/invoke/VarHandle" ∧ (parseMethodDescriptor yL_isOrder.desc).map (fun d => d.parameters.length) = some 2 := by decide +kernel
theorem pv_X3_height : yX3_height.cls = RX3 ∧ yX3_height.cls ≠ "java/lang/invoke/MethodHandle" ∧ yX3_height.cls ≠ "java/lang/invoke/VarHandle" ∧ (parseMethodDescriptor yX3_height.desc).map (fun d => d.parameters.length) = some 0 := by decide +kernel
theorem pv_X4_levels : yX4_levels.cls = RX4 ∧ yX4_levels.cls ≠ "java/lang/invoke/MethodHandle" ∧ yX4_levels.cls ≠ "java/lang/invoke/VarHandle" ∧ (parseMethodDescriptor yX4_levels.desc).map (fun d => d.parameters.length) = some 0 := by decide +kernel
theorem pv_X3_hasLevel : yX3_hasLevel.cls = RX3 ∧ yX3_hasLevel.cls ≠ "java/lang/invoke/MethodHandle" ∧ yX3_hasLevel.cls ≠ "java/lang/invoke/VarHandle" ∧ (parseMethodDescriptor yX3_hasLevel.desc).map (fun d => d.parameters.length) = some 1 := by decide +kernel
theorem pv_X4_nodes : yX4_nodes.cls = RX4 ∧ yX4_nodes.cls ≠ "java/lang/invoke/MethodHandle" ∧ yX4_nodes.cls ≠ "java/lang/invoke/VarHandle" ∧ (parseMethodDescriptor yX4_nodes.desc).map (fun d => d.parameters.length) = some 1 := by decide +kernel
theorem pv_X3_width : yX3_width.cls = RX3 ∧ yX3_width.cls ≠ "java/lang/invoke/MethodHandle" ∧ yX3_width.cls ≠ "java/lang/invoke/VarHandle" ∧ (parseMethodDescriptor yX3_width.desc).map (fun d => d.parameters.length) = some 1 := by decide +kernel
theorem pv_X4_tightness : yX4_tightness.cls = RX4 ∧ yX4_tightness.cls ≠ "java/lang/invoke/MethodHandle" ∧ yX4_tightness.cls ≠ "java/lang/invoke/VarHandle" ∧ (parseMethodDescriptor yX4_tightness.desc).map (fun d => d.parameters.length) = some 0 := by decide +kernel
theorem ps_L_tightness : yL_tightness.cls ≠ "java/lang/invoke/MethodHandle" ∧ yL_tightness.cls ≠ "java/lang/invoke/VarHandle" ∧ (parseMethodDescriptor yL_tightness.desc).map (fun d => d.parameters.length) = some 1 := by decide +kernel
theorem ps_L_isTree : yL_isTree.cls ≠ "java/lang/invoke/MethodHandle" ∧ yL_isTree.cls ≠ "java/lang/invoke/VarHandle" ∧ (parseMethodDescriptor yL_isTree.desc).map (fun d => d.parameters.length) = some 2 := by decide +kernel
theorem ps_L_areAll : yL_areAll.cls ≠ "java/lang/invoke/MethodHandle" ∧ yL_areAll.cls ≠ "java/lang/invoke/VarHandle" ∧ (parseMethodDescriptor yL_areAll.desc).map (fun d => d.parameters.length) = some 2 := by decide +kernel
theorem pv_X2_added : yX2_added.cls = RX2 ∧ yX2_added.cls ≠ "java/lang/invoke/MethodHandle" ∧ yX2_added.cls ≠ "java/lang/invoke/VarHandle" ∧ (parseMethodDescriptor yX2_added.desc).map (fun d => d.parameters.length) = some 0 := by decide +kernel
theorem pv_X4_pairs : yX4_pairs.cls = RX4 ∧ yX4_pairs.cls ≠ "java/lang/invoke/MethodHandle" ∧ yX4_pairs.cls ≠ "java/lang/invoke/VarHandle" ∧ (parseMethodDescriptor yX4_pairs.desc).map (fun d => d.parameters.length) = some 0 := by decide +kernel
theorem pv_X4_pair : yX4_pair.cls = RX4 ∧ yX4_pair.cls ≠ "java/lang/invoke/MethodHandle" ∧ yX4_pair.cls ≠ "java/lang/invoke/VarHandle" ∧ (parseMethodDescriptor yX4_pair.desc).map (fun d => d.parameters.length) = some 1 := by decide +kernel
theorem ps_L_pair : yL_pair.cls ≠ "java/lang/invoke/MethodHandle" ∧ yL_pair.cls ≠ "java/lang/invoke/VarHandle" ∧ (parseMethodDescriptor yL_pair.desc).map (fun d => d.parameters.length) = some 2 := by decide +kernel
theorem ps_L_arePairs : yL_arePairs.cls ≠ "java/lang/invoke/MethodHandle" ∧ yL_arePairs.cls ≠ "java/lang/invoke/VarHandle" ∧ (parseMethodDescriptor yL_arePairs.desc).map (fun d => d.parameters.length) = some 2 := by decide +kernel
theorem ps_L_part : yL_part.cls ≠ "java/lang/invoke/MethodHandle" ∧ yL_part.cls ≠ "java/lang/invoke/VarHandle" ∧ (parseMethodDescriptor yL_part.desc).map (fun d => d.parameters.length) = some 3 := by decide +kernel
theorem ps_L_isDone : yL_isDone.cls ≠ "java/lang/invoke/MethodHandle" ∧ yL_isDone.cls ≠ "java/lang/invoke/VarHandle" ∧ (parseMethodDescriptor yL_isDone.desc).map (fun d => d.parameters.length) = some 4 := by decide +kernel
abbrev rmX2_size : Room := { frames := 0, cells := 0, slots := 0, locals := 0 }
theorem uuX2_size_X2 : ∀ w ∈ u_ws RX2 TX2 6, w ∈ wsX2_size := fun w h => List.mem_cons_of_mem _ (List.mem_append_right _ h)
set_option maxRecDepth 100000 in
set_option maxHeartbeats 4000000 in
theorem c_X2_size (l : Launch) (D : va_G) (cT : Nat → ClassId) (ad : Nat → Nat) : cM l yX2_size wsX2_size rmX2_size D (ty2 cT) [.ref (ad 1)] (wS cT ad) (some (.int 0)) := by
  refine cM_of (cc := cX2_size) (maxL := 1) (ret := (some .int)) (own := RX2) (lv := [(0, .ref (ad 1))]) (by decide) rfl (Nat.le_of_ble_eq_true rfl) rfl rfl ?_
  intro p e s m args below meth c A C hr
  refine h_aload_n (pc := 0) C dX2_size_0 rfl 0 rfl ?_
  refine h_get (pc := 1) (ci := 0) (C0 := RX2) (T := TX2) (N := 6) C uuX2_size_X2 rfl 0 rfl 5 (by decide) (List.mem_of_getElem? (i := 1) rfl) rfl rfl dX2_size_1 ?_
  exact h_iret C hr dX2_size_4
abbrev rmX4_boxes : Room := { frames := 1, cells := 0, slots := 0, locals := 20 }
theorem uuX4_boxes_X4 : ∀ w ∈ u_ws RX4 TX4 3, w ∈ wsX4_boxes := fun w h => List.mem_cons_of_mem _ (List.mem_append_left _ (List.mem_append_right _ h))
set_option maxRecDepth 100000 in
set_option maxHeartbeats 4000000 in
theorem c_X4_boxes (l : Launch) (D : va_G) (cT : Nat → ClassId) (ad : Nat → Nat) : cM l yX4_boxes wsX4_boxes rmX4_boxes D (ty2 cT) [.ref (ad 0)] (wX cT ad) (some (.int 0)) := by
  refine cM_of (cc := cX4_boxes) (maxL := 1) (ret := (some .int)) (own := RX4) (lv := [(0, .ref (ad 0))]) (by decide) rfl (Nat.le_of_ble_eq_true rfl) rfl rfl ?_
  intro p e s m args below meth c A C hr
  refine h_aload_n (pc := 0) C dX4_boxes_0 rfl 0 rfl ?_
  refine h_get (pc := 1) (ci := 2) (C0 := RX4) (T := TX4) (N := 3) C uuX4_boxes_X4 rfl 0 rfl 0 (by decide) (List.mem_of_getElem? (i := 1) rfl) rfl rfl dX4_boxes_1 ?_
  refine h_callV (pc := 4) (q0 := 1) (As := []) (rest := []) (st2 := .int 0 :: []) C (c_X2_size l D cT ad) (cwV 0 C.1.2.2.2.2 gX4_boxes_X2_size rfl rfl rfl pv_X2_size ⟨Nat.le_of_ble_eq_true rfl, Nat.le_of_ble_eq_true rfl⟩) dX4_boxes_4 rfl rfl rfl rfl rfl (Nat.le_of_ble_eq_true rfl) ⟨rfl, rfl⟩ ⟨Nat.le_of_ble_eq_true rfl, Nat.le_of_ble_eq_true rfl⟩ [1, 2, 3, 4, 5] [0, 6, 7, 8, 9] [0, 5, 6, 7, 8, 9, 1, 2, 3, 4] rfl rfl rfl rfl (by decide) rfl rfl rfl ?_
  exact h_iret C hr dX4_boxes_7
abbrev rmX4_boxAt_0 : Room := { frames := 6, cells := 1, slots := 6, locals := 90 }
theorem uuX4_boxAt_X4 : ∀ w ∈ u_ws RX4 TX4 3, w ∈ wsX4_boxAt := fun w h => List.mem_cons_of_mem _ (List.mem_append_left _ (List.mem_append_left _ (List.mem_append_right _ h)))
set_option maxRecDepth 100000 in
set_option maxHeartbeats 4000000 in
theorem x_X4_boxAt_0 {l : Launch} (hX0 : l.stackTraces = false) (D : va_G) (cT : Nat → ClassId) (ad : Nat → Nat) : xM l yX4_boxAt wsX4_boxAt rmX4_boxAt_0 D (ty2 cT) [.ref (ad 0), .int 0] (wX cT ad) xIOE := by
  refine xM_of (cc := cX4_boxAt) (maxL := 2) (ret := (some .int)) (own := RX4) (lv := [(0, .ref (ad 0)), (1, .int 0)]) hX0 (by decide) rfl (Nat.le_of_ble_eq_true rfl) rfl rfl ?_
  intro p e s m args below meth c A C X
  refine h_iload_n (pc := 0) C dX4_boxAt_0 rfl 1 rfl ?_
  refine h_if_lt (pc := 1) (tgt := 15) C dX4_boxAt_1 (by decide) (fun q => absurd q (by decide)) (fun _ => ?_)
  refine h_iload_n (pc := 4) C dX4_boxAt_4 rfl 1 rfl ?_
  refine h_aload_n (pc := 5) C dX4_boxAt_5 rfl 0 rfl ?_
  refine h_get (pc := 6) (ci := 2) (C0 := RX4) (T := TX4) (N := 3) C uuX4_boxAt_X4 rfl 0 rfl 0 (by decide) (List.mem_of_getElem? (i := 3) rfl) rfl rfl dX4_boxAt_6 ?_
  refine h_callV (pc := 9) (q0 := 1) (As := []) (rest := .int 0 :: []) (st2 := .int 0 :: .int 0 :: []) C (c_X2_size l D cT ad) (cwV 0 C.1.2.2.2.2 gX4_boxAt_X2_size rfl rfl rfl pv_X2_size ⟨Nat.le_of_ble_eq_true rfl, Nat.le_of_ble_eq_true rfl⟩) dX4_boxAt_9 rfl rfl rfl rfl rfl (Nat.le_of_ble_eq_true rfl) ⟨rfl, rfl⟩ ⟨Nat.le_of_ble_eq_true rfl, Nat.le_of_ble_eq_true rfl⟩ [1, 2, 3, 4, 5] [0, 6, 7, 8, 9] [0, 5, 6, 7, 8, 9, 1, 2, 3, 4] rfl rfl rfl rfl (by decide) rfl rfl rfl ?_
  refine h_icmp_lt (pc := 12) (tgt := 25) C dX4_boxAt_12 (by decide) (fun q => absurd q (by decide)) (fun _ => ?_)
  exact h_throw (pc := 15) C X xin_IOE xft_IOE xft_up (List.mem_of_getElem? (i := 1) rfl) (List.mem_of_getElem? (i := 2) rfl) (List.mem_of_getElem? (i := 2) rfl) (fun w h => List.mem_cons_of_mem _ (List.mem_append_right _ h)) xng_IOE xgd_IOE dX4_boxAt_15 dX4_boxAt_18 dX4_boxAt_19 dX4_boxAt_21 dX4_boxAt_24 ⟨Nat.le_of_ble_eq_true rfl, Nat.le_of_ble_eq_true rfl, Nat.le_of_ble_eq_true rfl, Nat.le_of_ble_eq_true rfl⟩ ⟨Nat.le_of_ble_eq_true rfl, Nat.le_of_ble_eq_true rfl⟩
abbrev rmX4_boxAt_m1 : Room := { frames := 6, cells := 1, slots := 6, locals := 90 }
set_option maxRecDepth 100000 in
set_option maxHeartbeats 4000000 in
theorem x_X4_boxAt_m1 {l : Launch} (hX0 : l.stackTraces = false) (D : va_G) (cT : Nat → ClassId) (ad : Nat → Nat) : xM l yX4_boxAt wsX4_boxAt rmX4_boxAt_m1 D (ty2 cT) [.ref (ad 0), .int jm1] (wX cT ad) xIOE := by
  refine xM_of (cc := cX4_boxAt) (maxL := 2) (ret := (some .int)) (own := RX4) (lv := [(0, .ref (ad 0)), (1, .int jm1)]) hX0 (by decide) rfl (Nat.le_of_ble_eq_true rfl) rfl rfl ?_
  intro p e s m args below meth c A C X
  refine h_iload_n (pc := 0) C dX4_boxAt_0 rfl 1 rfl ?_
  refine h_if_lt (pc := 1) (tgt := 15) C dX4_boxAt_1 (by decide) (fun _ => ?_) (fun q => absurd (by decide) q)
  exact h_throw (pc := 15) C X xin_IOE xft_IOE xft_up (List.mem_of_getElem? (i := 1) rfl) (List.mem_of_getElem? (i := 2) rfl) (List.mem_of_getElem? (i := 2) rfl) (fun w h => List.mem_cons_of_mem _ (List.mem_append_right _ h)) xng_IOE xgd_IOE dX4_boxAt_15 dX4_boxAt_18 dX4_boxAt_19 dX4_boxAt_21 dX4_boxAt_24 ⟨Nat.le_of_ble_eq_true rfl, Nat.le_of_ble_eq_true rfl, Nat.le_of_ble_eq_true rfl, Nat.le_of_ble_eq_true rfl⟩ ⟨Nat.le_of_ble_eq_true rfl, Nat.le_of_ble_eq_true rfl⟩
abbrev rmX3_height : Room := { frames := 0, cells := 0, slots := 0, locals := 0 }
theorem uuX3_height_X3 : ∀ w ∈ u_ws RX3 TX3 3, w ∈ wsX3_height := fun w h => List.mem_cons_of_mem _ (List.mem_append_right _ h)
set_option maxRecDepth 100000 in
set_option maxHeartbeats 4000000 in
theorem c_X3_height (l : Launch) (D : va_G) (cT : Nat → ClassId) (ad : Nat → Nat) : cM l yX3_height wsX3_height rmX3_height D (ty2 cT) [.ref (ad 6)] (wT cT ad) (some (.int 0)) := by
  refine cM_of (cc := cX3_height) (maxL := 1) (ret := (some .int)) (own := RX3) (lv := [(0, .ref (ad 6))]) (by decide) rfl (Nat.le_of_ble_eq_true rfl) rfl rfl ?_
  intro p e s m args below meth c A C hr
  refine h_aload_n (pc := 0) C dX3_height_0 rfl 0 rfl ?_
  refine h_get (pc := 1) (ci := 1) (C0 := RX3) (T := TX3) (N := 3) C uuX3_height_X3 rfl 0 rfl 2 (by decide) (List.mem_of_getElem? (i := 1) rfl) rfl rfl dX3_height_1 ?_
  exact h_iret C hr dX3_height_4
abbrev rmX4_levels : Room := { frames := 1, cells := 0, slots := 0, locals := 20 }
theorem uuX4_levels_X4 : ∀ w ∈ u_ws RX4 TX4 3, w ∈ wsX4_levels := fun w h => List.mem_cons_of_mem _ (List.mem_append_left _ (List.mem_append_right _ h))
set_option maxRecDepth 100000 in
set_option maxHeartbeats 4000000 in
theorem c_X4_levels (l : Launch) (D : va_G) (cT : Nat → ClassId) (ad : Nat → Nat) : cM l yX4_levels wsX4_levels rmX4_levels D (ty2 cT) [.ref (ad 0)] (wX cT ad) (some (.int 0)) := by
  refine cM_of (cc := cX4_levels) (maxL := 1) (ret := (some .int)) (own := RX4) (lv := [(0, .ref (ad 0))]) (by decide) rfl (Nat.le_of_ble_eq_true rfl) rfl rfl ?_
  intro p e s m args below meth c A C hr
  refine h_aload_n (pc := 0) C dX4_levels_0 rfl 0 rfl ?_
  refine h_get (pc := 1) (ci := 2) (C0 := RX4) (T := TX4) (N := 3) C uuX4_levels_X4 rfl 0 rfl 1 (by decide) (List.mem_of_getElem? (i := 1) rfl) rfl rfl dX4_levels_1 ?_
  refine h_callV (pc := 4) (q0 := 6) (As := []) (rest := []) (st2 := .int 0 :: []) C (c_X3_height l D cT ad) (cwV 0 C.1.2.2.2.2 gX4_levels_X3_height rfl rfl rfl pv_X3_height ⟨Nat.le_of_ble_eq_true rfl, Nat.le_of_ble_eq_true rfl⟩) dX4_levels_4 rfl rfl rfl rfl rfl (Nat.le_of_ble_eq_true rfl) ⟨rfl, rfl⟩ ⟨Nat.le_of_ble_eq_true rfl, Nat.le_of_ble_eq_true rfl⟩ [6, 7, 8] [0, 1, 2, 3, 4, 5, 9] [0, 1, 2, 3, 4, 5, 7, 8, 9, 6] rfl rfl rfl rfl (by decide) rfl rfl rfl ?_
  exact h_iret C hr dX4_levels_7
abbrev rmX3_hasLevel_0 : Room := { frames := 0, cells := 0, slots := 0, locals := 0 }
theorem uuX3_hasLevel_X3 : ∀ w ∈ u_ws RX3 TX3 3, w ∈ wsX3_hasLevel := fun w h => List.mem_cons_of_mem _ (List.mem_append_right _ h)
set_option maxRecDepth 100000 in
set_option maxHeartbeats 4000000 in
theorem c_X3_hasLevel_0 (l : Launch) (D : va_G) (cT : Nat → ClassId) (ad : Nat → Nat) : cM l yX3_hasLevel wsX3_hasLevel rmX3_hasLevel_0 D (ty2 cT) [.ref (ad 6), .int 0] (wT cT ad) (some (.int 0)) := by
  refine cM_of (cc := cX3_hasLevel) (maxL := 2) (ret := (some .boolean)) (own := RX3) (lv := [(0, .ref (ad 6)), (1, .int 0)]) (by decide) rfl (Nat.le_of_ble_eq_true rfl) rfl rfl ?_
  intro p e s m args below meth c A C hr
  refine h_iload_n (pc := 0) C dX3_hasLevel_0 rfl 1 rfl ?_
  refine h_if_lt (pc := 1) (tgt := 16) C dX3_hasLevel_1 (by decide) (fun q => absurd q (by decide)) (fun _ => ?_)
  refine h_iload_n (pc := 4) C dX3_hasLevel_4 rfl 1 rfl ?_
  refine h_aload_n (pc := 5) C dX3_hasLevel_5 rfl 0 rfl ?_
  refine h_get (pc := 6) (ci := 1) (C0 := RX3) (T := TX3) (N := 3) C uuX3_hasLevel_X3 rfl 0 rfl 2 (by decide) (List.mem_of_getElem? (i := 1) rfl) rfl rfl dX3_hasLevel_6 ?_
  refine h_icmp_ge (pc := 9) (tgt := 16) C dX3_hasLevel_9 (by decide) (fun _ => ?_) (fun q => absurd (by decide) q)
  refine h_iconst (pc := 16) (v := 0) C dX3_hasLevel_16 (by decide) ?_
  exact h_zret C hr rfl dX3_hasLevel_17
abbrev rmX4_nodes_0 : Room := { frames := 6, cells := 1, slots := 6, locals := 90 }
theorem uuX4_nodes_X4 : ∀ w ∈ u_ws RX4 TX4 3, w ∈ wsX4_nodes := fun w h => List.mem_cons_of_mem _ (List.mem_append_left _ (List.mem_append_left _ (List.mem_append_right _ h)))
set_option maxRecDepth 100000 in
set_option maxHeartbeats 4000000 in
theorem x_X4_nodes_0 {l : Launch} (hX0 : l.stackTraces = false) (D : va_G) (cT : Nat → ClassId) (ad : Nat → Nat) : xM l yX4_nodes wsX4_nodes rmX4_nodes_0 D (ty2 cT) [.ref (ad 0), .int 0] (wX cT ad) xIOE := by
  refine xM_of (cc := cX4_nodes) (maxL := 2) (ret := (some .int)) (own := RX4) (lv := [(0, .ref (ad 0)), (1, .int 0)]) hX0 (by decide) rfl (Nat.le_of_ble_eq_true rfl) rfl rfl ?_
  intro p e s m args below meth c A C X
  refine h_aload_n (pc := 0) C dX4_nodes_0 rfl 0 rfl ?_
  refine h_get (pc := 1) (ci := 2) (C0 := RX4) (T := TX4) (N := 3) C uuX4_nodes_X4 rfl 0 rfl 1 (by decide) (List.mem_of_getElem? (i := 3) rfl) rfl rfl dX4_nodes_1 ?_
  refine h_iload_n (pc := 4) C dX4_nodes_4 rfl 1 rfl ?_
  refine h_callV (pc := 5) (q0 := 6) (As := [.int 0]) (rest := []) (st2 := .int 0 :: []) C (c_X3_hasLevel_0 l D cT ad) (cwV 1 C.1.2.2.2.2 gX4_nodes_X3_hasLevel rfl rfl rfl pv_X3_hasLevel ⟨Nat.le_of_ble_eq_true rfl, Nat.le_of_ble_eq_true rfl⟩) dX4_nodes_5 rfl rfl rfl rfl rfl (Nat.le_of_ble_eq_true rfl) ⟨rfl, rfl⟩ ⟨Nat.le_of_ble_eq_true rfl, Nat.le_of_ble_eq_true rfl⟩ [6, 7, 8] [0, 1, 2, 3, 4, 5, 9] [0, 1, 2, 3, 4, 5, 7, 8, 9, 6] rfl rfl rfl rfl (by decide) rfl rfl rfl ?_
  refine h_if_ne (pc := 8) (tgt := 21) C dX4_nodes_8 (by decide) (fun q => absurd (by decide) q) (fun _ => ?_)
  exact h_throw (pc := 11) C X xin_IOE xft_IOE xft_up (List.mem_of_getElem? (i := 1) rfl) (List.mem_of_getElem? (i := 2) rfl) (List.mem_of_getElem? (i := 1) rfl) (fun w h => List.mem_cons_of_mem _ (List.mem_append_right _ h)) xng_IOE xgd_IOE dX4_nodes_11 dX4_nodes_14 dX4_nodes_15 dX4_nodes_17 dX4_nodes_20 ⟨Nat.le_of_ble_eq_true rfl, Nat.le_of_ble_eq_true rfl, Nat.le_of_ble_eq_true rfl, Nat.le_of_ble_eq_true rfl⟩ ⟨Nat.le_of_ble_eq_true rfl, Nat.le_of_ble_eq_true rfl⟩
abbrev rmX3_hasLevel_m1 : Room := { frames := 0, cells := 0, slots := 0, locals := 0 }
set_option maxRecDepth 100000 in
set_option maxHeartbeats 4000000 in
theorem c_X3_hasLevel_m1 (l : Launch) (D : va_G) (cT : Nat → ClassId) (ad : Nat → Nat) : cM l yX3_hasLevel wsX3_hasLevel rmX3_hasLevel_m1 D (ty2 cT) [.ref (ad 6), .int jm1] (wT cT ad) (some (.int 0)) := by
  refine cM_of (cc := cX3_hasLevel) (maxL := 2) (ret := (some .boolean)) (own := RX3) (lv := [(0, .ref (ad 6)), (1, .int jm1)]) (by decide) rfl (Nat.le_of_ble_eq_true rfl) rfl rfl ?_
  intro p e s m args below meth c A C hr
  refine h_iload_n (pc := 0) C dX3_hasLevel_0 rfl 1 rfl ?_
  refine h_if_lt (pc := 1) (tgt := 16) C dX3_hasLevel_1 (by decide) (fun _ => ?_) (fun q => absurd (by decide) q)
  refine h_iconst (pc := 16) (v := 0) C dX3_hasLevel_16 (by decide) ?_
  exact h_zret C hr rfl dX3_hasLevel_17
abbrev rmX4_nodes_m1 : Room := { frames := 6, cells := 1, slots := 6, locals := 90 }
set_option maxRecDepth 100000 in
set_option maxHeartbeats 4000000 in
theorem x_X4_nodes_m1 {l : Launch} (hX0 : l.stackTraces = false) (D : va_G) (cT : Nat → ClassId) (ad : Nat → Nat) : xM l yX4_nodes wsX4_nodes rmX4_nodes_m1 D (ty2 cT) [.ref (ad 0), .int jm1] (wX cT ad) xIOE := by
  refine xM_of (cc := cX4_nodes) (maxL := 2) (ret := (some .int)) (own := RX4) (lv := [(0, .ref (ad 0)), (1, .int jm1)]) hX0 (by decide) rfl (Nat.le_of_ble_eq_true rfl) rfl rfl ?_
  intro p e s m args below meth c A C X
  refine h_aload_n (pc := 0) C dX4_nodes_0 rfl 0 rfl ?_
  refine h_get (pc := 1) (ci := 2) (C0 := RX4) (T := TX4) (N := 3) C uuX4_nodes_X4 rfl 0 rfl 1 (by decide) (List.mem_of_getElem? (i := 3) rfl) rfl rfl dX4_nodes_1 ?_
  refine h_iload_n (pc := 4) C dX4_nodes_4 rfl 1 rfl ?_
  refine h_callV (pc := 5) (q0 := 6) (As := [.int jm1]) (rest := []) (st2 := .int 0 :: []) C (c_X3_hasLevel_m1 l D cT ad) (cwV 1 C.1.2.2.2.2 gX4_nodes_X3_hasLevel rfl rfl rfl pv_X3_hasLevel ⟨Nat.le_of_ble_eq_true rfl, Nat.le_of_ble_eq_true rfl⟩) dX4_nodes_5 rfl rfl rfl rfl rfl (Nat.le_of_ble_eq_true rfl) ⟨rfl, rfl⟩ ⟨Nat.le_of_ble_eq_true rfl, Nat.le_of_ble_eq_true rfl⟩ [6, 7, 8] [0, 1, 2, 3, 4, 5, 9] [0, 1, 2, 3, 4, 5, 7, 8, 9, 6] rfl rfl rfl rfl (by decide) rfl rfl rfl ?_
  refine h_if_ne (pc := 8) (tgt := 21) C dX4_nodes_8 (by decide) (fun q => absurd (by decide) q) (fun _ => ?_)
  exact h_throw (pc := 11) C X xin_IOE xft_IOE xft_up (List.mem_of_getElem? (i := 1) rfl) (List.mem_of_getElem? (i := 2) rfl) (List.mem_of_getElem? (i := 1) rfl) (fun w h => List.mem_cons_of_mem _ (List.mem_append_right _ h)) xng_IOE xgd_IOE dX4_nodes_11 dX4_nodes_14 dX4_nodes_15 dX4_nodes_17 dX4_nodes_20 ⟨Nat.le_of_ble_eq_true rfl, Nat.le_of_ble_eq_true rfl, Nat.le_of_ble_eq_true rfl, Nat.le_of_ble_eq_true rfl⟩ ⟨Nat.le_of_ble_eq_true rfl, Nat.le_of_ble_eq_true rfl⟩
abbrev rmX3_width_0 : Room := { frames := 0, cells := 0, slots := 0, locals := 0 }
theorem uuX3_width_X3 : ∀ w ∈ u_ws RX3 TX3 3, w ∈ wsX3_width := fun w h => List.mem_cons_of_mem _ (List.mem_append_right _ h)
set_option maxRecDepth 100000 in
set_option maxHeartbeats 4000000 in
theorem c_X3_width_0 (l : Launch) (D : va_G) (cT : Nat → ClassId) (ad : Nat → Nat) : cM l yX3_width wsX3_width rmX3_width_0 D (ty2 cT) [.ref (ad 6), .int 0] (wT cT ad) (some (.int 0)) := by
  refine cM_of (cc := cX3_width) (maxL := 2) (ret := (some .int)) (own := RX3) (lv := [(0, .ref (ad 6)), (1, .int 0)]) (by decide) rfl (Nat.le_of_ble_eq_true rfl) rfl rfl ?_
  intro p e s m args below meth c A C hr
  refine h_iload_n (pc := 0) C dX3_width_0 rfl 1 rfl ?_
  refine h_if_lt (pc := 1) (tgt := 30) C dX3_width_1 (by decide) (fun q => absurd q (by decide)) (fun _ => ?_)
  refine h_iload_n (pc := 4) C dX3_width_4 rfl 1 rfl ?_
  refine h_aload_n (pc := 5) C dX3_width_5 rfl 0 rfl ?_
  refine h_get (pc := 6) (ci := 1) (C0 := RX3) (T := TX3) (N := 3) C uuX3_width_X3 rfl 0 rfl 2 (by decide) (List.mem_of_getElem? (i := 1) rfl) rfl rfl dX3_width_6 ?_
  refine h_icmp_ge (pc := 9) (tgt := 30) C dX3_width_9 (by decide) (fun _ => ?_) (fun q => absurd (by decide) q)
  refine h_iconst (pc := 30) (v := 0) C dX3_width_30 (by decide) ?_
  exact h_iret C hr dX3_width_31
abbrev rmX4_tightness : Room := { frames := 6, cells := 1, slots := 6, locals := 90 }
theorem uuX4_tightness_X4 : ∀ w ∈ u_ws RX4 TX4 3, w ∈ wsX4_tightness := fun w h => List.mem_cons_of_mem _ (List.mem_append_left _ (List.mem_append_left _ (List.mem_append_left _ (List.mem_append_right _ h))))
set_option maxRecDepth 100000 in
set_option maxHeartbeats 4000000 in
theorem x_X4_tightness {l : Launch} (hX0 : l.stackTraces = false) (D : va_G) (cT : Nat → ClassId) (ad : Nat → Nat) : xM l yX4_tightness wsX4_tightness rmX4_tightness D (ty2 cT) [.ref (ad 0)] (wX cT ad) xISE := by
  refine xM_of (cc := cX4_tightness) (maxL := 4) (ret := (some .float)) (own := RX4) (lv := [(0, .ref (ad 0))]) hX0 (by decide) rfl (Nat.le_of_ble_eq_true rfl) rfl rfl ?_
  intro p e s m args below meth c A C X
  refine h_iconst (pc := 0) (v := 0) C dX4_tightness_0 (by decide) ?_
  refine h_istore_n (pc := 1) (lv' := [(1, .int 0), (0, .ref (ad 0))]) C dX4_tightness_1 rfl (by decide) rfl ?_
  refine h_iconst (pc := 2) (v := 0) C dX4_tightness_2 (by decide) ?_
  refine h_istore_n (pc := 3) (lv' := [(2, .int 0), (1, .int 0), (0, .ref (ad 0))]) C dX4_tightness_3 rfl (by decide) rfl ?_
  refine h_iload_n (pc := 4) C dX4_tightness_4 rfl 0 rfl ?_
  refine h_aload_n (pc := 5) C dX4_tightness_5 rfl 2 rfl ?_
  refine h_get (pc := 6) (ci := 2) (C0 := RX4) (T := TX4) (N := 3) C uuX4_tightness_X4 rfl 0 rfl 1 (by decide) (List.mem_of_getElem? (i := 3) rfl) rfl rfl dX4_tightness_6 ?_
  refine h_iconst (pc := 9) (v := 0) C dX4_tightness_9 (by decide) ?_
  refine h_callV (pc := 10) (q0 := 6) (As := [.int 0]) (rest := .int 0 :: []) (st2 := .int 0 :: .int 0 :: []) C (c_X3_width_0 l D cT ad) (cwV 1 C.1.2.2.2.2 gX4_tightness_X3_width rfl rfl rfl pv_X3_width ⟨Nat.le_of_ble_eq_true rfl, Nat.le_of_ble_eq_true rfl⟩) dX4_tightness_10 rfl rfl rfl rfl rfl (Nat.le_of_ble_eq_true rfl) ⟨rfl, rfl⟩ ⟨Nat.le_of_ble_eq_true rfl, Nat.le_of_ble_eq_true rfl⟩ [6, 7, 8] [0, 1, 2, 3, 4, 5, 9] [0, 1, 2, 3, 4, 5, 7, 8, 9, 6] rfl rfl rfl rfl (by decide) rfl rfl rfl ?_
  refine h_icmp_ge (pc := 13) (tgt := 34) C dX4_tightness_13 (by decide) (fun _ => ?_) (fun q => absurd (by decide) q)
  refine h_iload_n (pc := 34) C dX4_tightness_34 rfl 1 rfl ?_
  refine h_if_gt (pc := 35) (tgt := 48) C dX4_tightness_35 (by decide) (fun q => absurd q (by decide)) (fun _ => ?_)
  exact h_throw (pc := 38) C X xin_ISE xft_ISE xft_up (List.mem_of_getElem? (i := 1) rfl) (List.mem_of_getElem? (i := 2) rfl) (List.mem_of_getElem? (i := 3) rfl) (fun w h => List.mem_cons_of_mem _ (List.mem_append_right _ h)) xng_ISE xgd_ISE dX4_tightness_38 dX4_tightness_41 dX4_tightness_42 dX4_tightness_44 dX4_tightness_47 ⟨Nat.le_of_ble_eq_true rfl, Nat.le_of_ble_eq_true rfl, Nat.le_of_ble_eq_true rfl, Nat.le_of_ble_eq_true rfl⟩ ⟨Nat.le_of_ble_eq_true rfl, Nat.le_of_ble_eq_true rfl⟩
abbrev rmX2_added : Room := { frames := 0, cells := 0, slots := 0, locals := 0 }
theorem uuX2_added_X2 : ∀ w ∈ u_ws RX2 TX2 6, w ∈ wsX2_added := fun w h => List.mem_cons_of_mem _ (List.mem_append_right _ h)
set_option maxRecDepth 100000 in
set_option maxHeartbeats 4000000 in
theorem c_X2_added (l : Launch) (D : va_G) (cT : Nat → ClassId) (ad : Nat → Nat) : cM l yX2_added wsX2_added rmX2_added D (ty2 cT) [.ref (ad 1)] (wS cT ad) (some (.int 0)) := by
  refine cM_of (cc := cX2_added) (maxL := 1) (ret := (some .int)) (own := RX2) (lv := [(0, .ref (ad 1))]) (by decide) rfl (Nat.le_of_ble_eq_true rfl) rfl rfl ?_
  intro p e s m args below meth c A C hr
  refine h_aload_n (pc := 0) C dX2_added_0 rfl 0 rfl ?_
  refine h_get (pc := 1) (ci := 0) (C0 := RX2) (T := TX2) (N := 6) C uuX2_added_X2 rfl 0 rfl 4 (by decide) (List.mem_of_getElem? (i := 1) rfl) rfl rfl dX2_added_1 ?_
  exact h_iret C hr dX2_added_4
abbrev rmX4_pairs : Room := { frames := 1, cells := 0, slots := 0, locals := 20 }
theorem uuX4_pairs_X4 : ∀ w ∈ u_ws RX4 TX4 3, w ∈ wsX4_pairs := fun w h => List.mem_cons_of_mem _ (List.mem_append_left _ (List.mem_append_right _ h))
set_option maxRecDepth 100000 in
set_option maxHeartbeats 4000000 in
theorem c_X4_pairs (l : Launch) (D : va_G) (cT : Nat → ClassId) (ad : Nat → Nat) : cM l yX4_pairs wsX4_pairs rmX4_pairs D (ty2 cT) [.ref (ad 0)] (wX cT ad) (some (.int 0)) := by
  refine cM_of (cc := cX4_pairs) (maxL := 4) (ret := (some .int)) (own := RX4) (lv := [(0, .ref (ad 0))]) (by decide) rfl (Nat.le_of_ble_eq_true rfl) rfl rfl ?_
  intro p e s m args below meth c A C hr
  refine h_iconst (pc := 0) (v := 0) C dX4_pairs_0 (by decide) ?_
  refine h_istore_n (pc := 1) (lv' := [(1, .int 0), (0, .ref (ad 0))]) C dX4_pairs_1 rfl (by decide) rfl ?_
  refine h_iconst (pc := 2) (v := 0) C dX4_pairs_2 (by decide) ?_
  refine h_istore_n (pc := 3) (lv' := [(2, .int 0), (1, .int 0), (0, .ref (ad 0))]) C dX4_pairs_3 rfl (by decide) rfl ?_
  refine h_iload_n (pc := 4) C dX4_pairs_4 rfl 0 rfl ?_
  refine h_aload_n (pc := 5) C dX4_pairs_5 rfl 2 rfl ?_
  refine h_get (pc := 6) (ci := 2) (C0 := RX4) (T := TX4) (N := 3) C uuX4_pairs_X4 rfl 0 rfl 0 (by decide) (List.mem_of_getElem? (i := 1) rfl) rfl rfl dX4_pairs_6 ?_
  refine h_callV (pc := 9) (q0 := 1) (As := []) (rest := .int 0 :: []) (st2 := .int 0 :: .int 0 :: []) C (c_X2_added l D cT ad) (cwV 0 C.1.2.2.2.2 gX4_pairs_X2_added rfl rfl rfl pv_X2_added ⟨Nat.le_of_ble_eq_true rfl, Nat.le_of_ble_eq_true rfl⟩) dX4_pairs_9 rfl rfl rfl rfl rfl (Nat.le_of_ble_eq_true rfl) ⟨rfl, rfl⟩ ⟨Nat.le_of_ble_eq_true rfl, Nat.le_of_ble_eq_true rfl⟩ [1, 2, 3, 4, 5] [0, 6, 7, 8, 9] [0, 5, 6, 7, 8, 9, 1, 2, 3, 4] rfl rfl rfl rfl (by decide) rfl rfl rfl ?_
  refine h_icmp_ge (pc := 12) (tgt := 57) C dX4_pairs_12 (by decide) (fun _ => ?_) (fun q => absurd (by decide) q)
  refine h_iload_n (pc := 57) C dX4_pairs_57 rfl 1 rfl ?_
  exact h_iret C hr dX4_pairs_58
abbrev rmX4_pair_0 : Room := { frames := 6, cells := 1, slots := 6, locals := 90 }
theorem uuX4_pair_X4 : ∀ w ∈ u_ws RX4 TX4 3, w ∈ wsX4_pair := fun w h => List.mem_cons_of_mem _ (List.mem_append_left _ (List.mem_append_left _ (List.mem_append_right _ h)))
set_option maxRecDepth 100000 in
set_option maxHeartbeats 4000000 in
theorem x_X4_pair_0 {l : Launch} (hX0 : l.stackTraces = false) (D : va_G) (cT : Nat → ClassId) (ad : Nat → Nat) : xM l yX4_pair wsX4_pair rmX4_pair_0 D (ty2 cT) [.ref (ad 0), .int 0] (wX cT ad) xIOE := by
  refine xM_of (cc := cX4_pair) (maxL := 5) (ret := (some .int)) (own := RX4) (lv := [(0, .ref (ad 0)), (1, .int 0)]) hX0 (by decide) rfl (Nat.le_of_ble_eq_true rfl) rfl rfl ?_
  intro p e s m args below meth c A C X
  refine h_iconst (pc := 0) (v := 0) C dX4_pair_0 (by decide) ?_
  refine h_istore_n (pc := 1) (lv' := [(2, .int 0), (0, .ref (ad 0)), (1, .int 0)]) C dX4_pair_1 rfl (by decide) rfl ?_
  refine h_iconst (pc := 2) (v := 0) C dX4_pair_2 (by decide) ?_
  refine h_istore_n (pc := 3) (lv' := [(3, .int 0), (2, .int 0), (0, .ref (ad 0)), (1, .int 0)]) C dX4_pair_3 rfl (by decide) rfl ?_
  refine h_iload_n (pc := 4) C dX4_pair_4 rfl 0 rfl ?_
  refine h_aload_n (pc := 5) C dX4_pair_5 rfl 2 rfl ?_
  refine h_get (pc := 6) (ci := 2) (C0 := RX4) (T := TX4) (N := 3) C uuX4_pair_X4 rfl 0 rfl 0 (by decide) (List.mem_of_getElem? (i := 3) rfl) rfl rfl dX4_pair_6 ?_
  refine h_callV (pc := 9) (q0 := 1) (As := []) (rest := .int 0 :: []) (st2 := .int 0 :: .int 0 :: []) C (c_X2_added l D cT ad) (cwV 0 C.1.2.2.2.2 gX4_pair_X2_added rfl rfl rfl pv_X2_added ⟨Nat.le_of_ble_eq_true rfl, Nat.le_of_ble_eq_true rfl⟩) dX4_pair_9 rfl rfl rfl rfl rfl (Nat.le_of_ble_eq_true rfl) ⟨rfl, rfl⟩ ⟨Nat.le_of_ble_eq_true rfl, Nat.le_of_ble_eq_true rfl⟩ [1, 2, 3, 4, 5] [0, 6, 7, 8, 9] [0, 5, 6, 7, 8, 9, 1, 2, 3, 4] rfl rfl rfl rfl (by decide) rfl rfl rfl ?_
  refine h_icmp_ge (pc := 12) (tgt := 73) C dX4_pair_12 (by decide) (fun _ => ?_) (fun q => absurd (by decide) q)
  exact h_throw (pc := 73) C X xin_IOE xft_IOE xft_up (List.mem_of_getElem? (i := 1) rfl) (List.mem_of_getElem? (i := 2) rfl) (List.mem_of_getElem? (i := 2) rfl) (fun w h => List.mem_cons_of_mem _ (List.mem_append_right _ h)) xng_IOE xgd_IOE dX4_pair_73 dX4_pair_76 dX4_pair_77 dX4_pair_79 dX4_pair_82 ⟨Nat.le_of_ble_eq_true rfl, Nat.le_of_ble_eq_true rfl, Nat.le_of_ble_eq_true rfl, Nat.le_of_ble_eq_true rfl⟩ ⟨Nat.le_of_ble_eq_true rfl, Nat.le_of_ble_eq_true rfl⟩
abbrev rmX4_pair_m1 : Room := { frames := 6, cells := 1, slots := 6, locals := 90 }
set_option maxRecDepth 100000 in
set_option maxHeartbeats 4000000 in
theorem x_X4_pair_m1 {l : Launch} (hX0 : l.stackTraces = false) (D : va_G) (cT : Nat → ClassId) (ad : Nat → Nat) : xM l yX4_pair wsX4_pair rmX4_pair_m1 D (ty2 cT) [.ref (ad 0), .int jm1] (wX cT ad) xIOE := by
  refine xM_of (cc := cX4_pair) (maxL := 5) (ret := (some .int)) (own := RX4) (lv := [(0, .ref (ad 0)), (1, .int jm1)]) hX0 (by decide) rfl (Nat.le_of_ble_eq_true rfl) rfl rfl ?_
  intro p e s m args below meth c A C X
  refine h_iconst (pc := 0) (v := 0) C dX4_pair_0 (by decide) ?_
  refine h_istore_n (pc := 1) (lv' := [(2, .int 0), (0, .ref (ad 0)), (1, .int jm1)]) C dX4_pair_1 rfl (by decide) rfl ?_
  refine h_iconst (pc := 2) (v := 0) C dX4_pair_2 (by decide) ?_
  refine h_istore_n (pc := 3) (lv' := [(3, .int 0), (2, .int 0), (0, .ref (ad 0)), (1, .int jm1)]) C dX4_pair_3 rfl (by decide) rfl ?_
  refine h_iload_n (pc := 4) C dX4_pair_4 rfl 0 rfl ?_
  refine h_aload_n (pc := 5) C dX4_pair_5 rfl 2 rfl ?_
  refine h_get (pc := 6) (ci := 2) (C0 := RX4) (T := TX4) (N := 3) C uuX4_pair_X4 rfl 0 rfl 0 (by decide) (List.mem_of_getElem? (i := 3) rfl) rfl rfl dX4_pair_6 ?_
  refine h_callV (pc := 9) (q0 := 1) (As := []) (rest := .int 0 :: []) (st2 := .int 0 :: .int 0 :: []) C (c_X2_added l D cT ad) (cwV 0 C.1.2.2.2.2 gX4_pair_X2_added rfl rfl rfl pv_X2_added ⟨Nat.le_of_ble_eq_true rfl, Nat.le_of_ble_eq_true rfl⟩) dX4_pair_9 rfl rfl rfl rfl rfl (Nat.le_of_ble_eq_true rfl) ⟨rfl, rfl⟩ ⟨Nat.le_of_ble_eq_true rfl, Nat.le_of_ble_eq_true rfl⟩ [1, 2, 3, 4, 5] [0, 6, 7, 8, 9] [0, 5, 6, 7, 8, 9, 1, 2, 3, 4] rfl rfl rfl rfl (by decide) rfl rfl rfl ?_
  refine h_icmp_ge (pc := 12) (tgt := 73) C dX4_pair_12 (by decide) (fun _ => ?_) (fun q => absurd (by decide) q)
  exact h_throw (pc := 73) C X xin_IOE xft_IOE xft_up (List.mem_of_getElem? (i := 1) rfl) (List.mem_of_getElem? (i := 2) rfl) (List.mem_of_getElem? (i := 2) rfl) (fun w h => List.mem_cons_of_mem _ (List.mem_append_right _ h)) xng_IOE xgd_IOE dX4_pair_73 dX4_pair_76 dX4_pair_77 dX4_pair_79 dX4_pair_82 ⟨Nat.le_of_ble_eq_true rfl, Nat.le_of_ble_eq_true rfl, Nat.le_of_ble_eq_true rfl, Nat.le_of_ble_eq_true rfl⟩ ⟨Nat.le_of_ble_eq_true rfl, Nat.le_of_ble_eq_true rfl⟩
end
section
/-! laid by wip/p24/lay24.py: the law's methods on the empty tree -/
abbrev rmL_tree_4_0_0_0 : Room := { frames := 7, cells := 1, slots := 6, locals := 111 }
set_option maxRecDepth 100000 in
set_option maxHeartbeats 4000000 in
theorem g_L_tree_4_0_0_0 {l : Launch} (hX0 : l.stackTraces = false) (D : va_G) (cT : Nat → ClassId) (ad : Nat → Nat) : gM 1 l yL_tree wsL_tree rmL_tree_4_0_0_0 D (ty2 cT) [.ref (ad 0), .int 4, .int 0, .int 0, .int 0] (wX cT ad) (some (.int jm30)) := by
  refine gM_ofW (cc := cL_tree) (maxL := 6) (ret := (some .int)) (hh := [(0, 73, 74, 14), (0, 73, 79, 22)]) (own := RL) (lv := [(0, .ref (ad 0)), (1, .int 4), (2, .int 0), (3, .int 0), (4, .int 0)]) (by decide) rfl (Nat.le_of_ble_eq_true rfl) rfl rfl ?_
  intro p e s m args below meth c A C Z htab hr
  refine h_iload_n (pc := 0) C dL_tree_0 rfl 1 rfl ?_
  refine h_if_ne (pc := 1) (tgt := 12) C dL_tree_1 (by decide) (fun _ => ?_) (fun q => absurd q (by decide))
  refine h_iload_n (pc := 12) C dL_tree_12 rfl 1 rfl ?_
  refine h_iconst (pc := 13) (v := 1) C dL_tree_13 (by decide) ?_
  refine h_icmp_ne (pc := 14) (tgt := 26) C dL_tree_14 (by decide) (fun _ => ?_) (fun q => absurd q (by decide))
  refine h_iload_n (pc := 26) C dL_tree_26 rfl 1 rfl ?_
  refine h_iconst (pc := 27) (v := 2) C dL_tree_27 (by decide) ?_
  refine h_icmp_ne (pc := 28) (tgt := 42) C dL_tree_28 (by decide) (fun _ => ?_) (fun q => absurd q (by decide))
  refine h_iload_n (pc := 42) C dL_tree_42 rfl 1 rfl ?_
  refine h_iconst (pc := 43) (v := 3) C dL_tree_43 (by decide) ?_
  refine h_icmp_ne (pc := 44) (tgt := 55) C dL_tree_44 (by decide) (fun _ => ?_) (fun q => absurd q (by decide))
  refine h_iload_n (pc := 55) C dL_tree_55 rfl 1 rfl ?_
  refine h_iconst (pc := 56) (v := 4) C dL_tree_56 (by decide) ?_
  refine h_icmp_ne (pc := 57) (tgt := 68) C dL_tree_57 (by decide) (fun q => absurd (by decide) q) (fun _ => ?_)
  refine h_aload_n (pc := 60) C dL_tree_60 rfl 0 rfl ?_
  refine h_iload_n (pc := 61) C dL_tree_61 rfl 2 rfl ?_
  refine h_xcatch (pc := 62) (q0 := 0) (As := [.int 0]) (rest := []) (E := xIOE) C Z (x_X4_boxAt_0 hX0 D cT ad) (cwV 1 C.1.2.2.2.2 gL_tree_X4_boxAt rfl rfl rfl pv_X4_boxAt ⟨Nat.le_of_ble_eq_true rfl, Nat.le_of_ble_eq_true rfl⟩) dL_tree_62 rfl rfl rfl rfl rfl (Nat.le_of_ble_eq_true rfl) ⟨Nat.le_of_ble_eq_true rfl, Nat.le_of_ble_eq_true rfl⟩ [0, 1, 2, 3, 4, 5, 6, 7, 8, 9] [] [0, 1, 2, 3, 4, 5, 6, 7, 8, 9] rfl rfl rfl rfl (by decide) rfl rfl [⟨0, 73, 74, 14⟩] ⟨0, 73, 79, 22⟩ [] htab (fun z hz => by rw [List.mem_singleton.mp hz]; exact Or.inr ⟨by decide, xIAE, List.mem_of_getElem? (i := 1) rfl, Z.2.2.2.2.1.2⟩) (by decide) (by decide) (List.mem_of_getElem? (i := 2) rfl) xin_IOE (hpc := 79) rfl (fun q9 => ?_)
  refine h_astore (pc := 79) (lv' := [(5, .ref q9), (0, .ref (ad 0)), (1, .int 4), (2, .int 0), (3, .int 0), (4, .int 0)]) C dL_tree_79 (by decide) rfl ?_
  refine h_bipush (pc := 81) (v := jm30) C dL_tree_81 (by decide) ?_
  refine h_widen (k := 1) (n := 6) (Nat.le_of_ble_eq_true rfl) (Nat.le_of_ble_eq_true rfl) ?_
  refine h_less (G1 := 1) (Nat.le_of_ble_eq_true rfl) ?_
  exact h_iret C hr dL_tree_83
abbrev rmL_tree_4_m1_0_0 : Room := { frames := 7, cells := 1, slots := 6, locals := 111 }
set_option maxRecDepth 100000 in
set_option maxHeartbeats 4000000 in
theorem g_L_tree_4_m1_0_0 {l : Launch} (hX0 : l.stackTraces = false) (D : va_G) (cT : Nat → ClassId) (ad : Nat → Nat) : gM 1 l yL_tree wsL_tree rmL_tree_4_m1_0_0 D (ty2 cT) [.ref (ad 0), .int 4, .int jm1, .int 0, .int 0] (wX cT ad) (some (.int jm30)) := by
  refine gM_ofW (cc := cL_tree) (maxL := 6) (ret := (some .int)) (hh := [(0, 73, 74, 14), (0, 73, 79, 22)]) (own := RL) (lv := [(0, .ref (ad 0)), (1, .int 4), (2, .int jm1), (3, .int 0), (4, .int 0)]) (by decide) rfl (Nat.le_of_ble_eq_true rfl) rfl rfl ?_
  intro p e s m args below meth c A C Z htab hr
  refine h_iload_n (pc := 0) C dL_tree_0 rfl 1 rfl ?_
  refine h_if_ne (pc := 1) (tgt := 12) C dL_tree_1 (by decide) (fun _ => ?_) (fun q => absurd q (by decide))
  refine h_iload_n (pc := 12) C dL_tree_12 rfl 1 rfl ?_
  refine h_iconst (pc := 13) (v := 1) C dL_tree_13 (by decide) ?_
  refine h_icmp_ne (pc := 14) (tgt := 26) C dL_tree_14 (by decide) (fun _ => ?_) (fun q => absurd q (by decide))
  refine h_iload_n (pc := 26) C dL_tree_26 rfl 1 rfl ?_
  refine h_iconst (pc := 27) (v := 2) C dL_tree_27 (by decide) ?_
  refine h_icmp_ne (pc := 28) (tgt := 42) C dL_tree_28 (by decide) (fun _ => ?_) (fun q => absurd q (by decide))
  refine h_iload_n (pc := 42) C dL_tree_42 rfl 1 rfl ?_
  refine h_iconst (pc := 43) (v := 3) C dL_tree_43 (by decide) ?_
  refine h_icmp_ne (pc := 44) (tgt := 55) C dL_tree_44 (by decide) (fun _ => ?_) (fun q => absurd q (by decide))
  refine h_iload_n (pc := 55) C dL_tree_55 rfl 1 rfl ?_
  refine h_iconst (pc := 56) (v := 4) C dL_tree_56 (by decide) ?_
  refine h_icmp_ne (pc := 57) (tgt := 68) C dL_tree_57 (by decide) (fun q => absurd (by decide) q) (fun _ => ?_)
  refine h_aload_n (pc := 60) C dL_tree_60 rfl 0 rfl ?_
  refine h_iload_n (pc := 61) C dL_tree_61 rfl 2 rfl ?_
  refine h_xcatch (pc := 62) (q0 := 0) (As := [.int jm1]) (rest := []) (E := xIOE) C Z (x_X4_boxAt_m1 hX0 D cT ad) (cwV 1 C.1.2.2.2.2 gL_tree_X4_boxAt rfl rfl rfl pv_X4_boxAt ⟨Nat.le_of_ble_eq_true rfl, Nat.le_of_ble_eq_true rfl⟩) dL_tree_62 rfl rfl rfl rfl rfl (Nat.le_of_ble_eq_true rfl) ⟨Nat.le_of_ble_eq_true rfl, Nat.le_of_ble_eq_true rfl⟩ [0, 1, 2, 3, 4, 5, 6, 7, 8, 9] [] [0, 1, 2, 3, 4, 5, 6, 7, 8, 9] rfl rfl rfl rfl (by decide) rfl rfl [⟨0, 73, 74, 14⟩] ⟨0, 73, 79, 22⟩ [] htab (fun z hz => by rw [List.mem_singleton.mp hz]; exact Or.inr ⟨by decide, xIAE, List.mem_of_getElem? (i := 1) rfl, Z.2.2.2.2.1.2⟩) (by decide) (by decide) (List.mem_of_getElem? (i := 2) rfl) xin_IOE (hpc := 79) rfl (fun q9 => ?_)
  refine h_astore (pc := 79) (lv' := [(5, .ref q9), (0, .ref (ad 0)), (1, .int 4), (2, .int jm1), (3, .int 0), (4, .int 0)]) C dL_tree_79 (by decide) rfl ?_
  refine h_bipush (pc := 81) (v := jm30) C dL_tree_81 (by decide) ?_
  refine h_widen (k := 1) (n := 6) (Nat.le_of_ble_eq_true rfl) (Nat.le_of_ble_eq_true rfl) ?_
  refine h_less (G1 := 1) (Nat.le_of_ble_eq_true rfl) ?_
  exact h_iret C hr dL_tree_83
abbrev rmL_isOrder : Room := { frames := 8, cells := 2, slots := 12, locals := 136 }
set_option maxRecDepth 100000 in
set_option maxHeartbeats 4000000 in
theorem g_L_isOrder {l : Launch} (hX0 : l.stackTraces = false) (D : va_G) (cT : Nat → ClassId) (ad : Nat → Nat) : gM 2 l yL_isOrder wsL_isOrder rmL_isOrder D (ty2 cT) [.ref (ad 0), .ref (ad 10)] (wG cT ad) (some (.int 1)) := by
  refine gM_of (cc := cL_isOrder) (maxL := 7) (ret := (some .boolean)) (own := RL) (lv := [(0, .ref (ad 0)), (1, .ref (ad 10))]) (by decide) rfl (Nat.le_of_ble_eq_true rfl) rfl rfl ?_
  intro p e s m args below meth c A C Z hr
  refine h_aload_n (pc := 0) C dL_isOrder_0 rfl 0 rfl ?_
  refine h_callV (pc := 1) (q0 := 0) (As := []) (rest := []) (st2 := .int 0 :: []) C (c_X4_boxes l D cT ad) (cwV 0 C.1.2.2.2.2 gL_isOrder_X4_boxes rfl rfl rfl pv_X4_boxes ⟨Nat.le_of_ble_eq_true rfl, Nat.le_of_ble_eq_true rfl⟩) dL_isOrder_1 rfl rfl rfl rfl rfl (Nat.le_of_ble_eq_true rfl) ⟨rfl, rfl⟩ ⟨Nat.le_of_ble_eq_true rfl, Nat.le_of_ble_eq_true rfl⟩ [0, 1, 2, 3, 4, 5, 6, 7, 8, 9] [10] [1, 2, 3, 4, 5, 6, 7, 8, 9, 10, 0] rfl rfl rfl rfl (by decide) rfl rfl rfl ?_
  refine h_aload_n (pc := 4) C dL_isOrder_4 rfl 1 rfl ?_
  refine h_iconst (pc := 5) (v := 1) C dL_isOrder_5 (by decide) ?_
  refine h_iald (pc := 6) (v := 0) C 10 0 rfl rfl (by unfold vp_in; decide) rfl dL_isOrder_6 ?_
  refine h_icmp_ne (pc := 7) (tgt := 42) C dL_isOrder_7 (by decide) (fun q => absurd (by decide) q) (fun _ => ?_)
  refine h_aload_n (pc := 10) C dL_isOrder_10 rfl 0 rfl ?_
  refine h_iconst (pc := 11) (v := 4) C dL_isOrder_11 (by decide) ?_
  refine h_aload_n (pc := 12) C dL_isOrder_12 rfl 1 rfl ?_
  refine h_iconst (pc := 13) (v := 1) C dL_isOrder_13 (by decide) ?_
  refine h_iald (pc := 14) (v := 0) C 10 0 rfl rfl (by unfold vp_in; decide) rfl dL_isOrder_14 ?_
  refine h_iconst (pc := 15) (v := 0) C dL_isOrder_15 (by decide) ?_
  refine h_iconst (pc := 16) (v := 0) C dL_isOrder_16 (by decide) ?_
  refine h_callSW (pc := 17) (As := [.ref (ad 0), .int 4, .int 0, .int 0, .int 0]) (rest := []) (st2 := .int jm30 :: []) C Z (g_L_tree_4_0_0_0 hX0 D cT ad) (vx_cwSW 5 C.1.2.2.2.2 gL_isOrder_L_tree rfl rfl rfl ps_L_tree ⟨Nat.le_of_ble_eq_true rfl, Nat.le_of_ble_eq_true rfl⟩) dL_isOrder_17 rfl rfl (Nat.le_of_ble_eq_true rfl) ⟨Nat.le_of_ble_eq_true rfl, Nat.le_of_ble_eq_true rfl⟩ [0, 1, 2, 3, 4, 5, 6, 7, 8, 9] [10] [1, 2, 3, 4, 5, 6, 7, 8, 9, 10, 0] rfl rfl rfl rfl (by decide) rfl rfl rfl ?_
  refine h_bipush (pc := 20) (v := jm30) C dL_isOrder_20 (by decide) ?_
  refine h_icmp_ne (pc := 22) (tgt := 42) C dL_isOrder_22 (by decide) (fun q => absurd (by decide) q) (fun _ => ?_)
  refine h_aload_n (pc := 25) C dL_isOrder_25 rfl 0 rfl ?_
  refine h_iconst (pc := 26) (v := 4) C dL_isOrder_26 (by decide) ?_
  refine h_iconst (pc := 27) (v := jm1) C dL_isOrder_27 (by decide) ?_
  refine h_iconst (pc := 28) (v := 0) C dL_isOrder_28 (by decide) ?_
  refine h_iconst (pc := 29) (v := 0) C dL_isOrder_29 (by decide) ?_
  refine h_callSW (pc := 30) (As := [.ref (ad 0), .int 4, .int jm1, .int 0, .int 0]) (rest := []) (st2 := .int jm30 :: []) C Z (g_L_tree_4_m1_0_0 hX0 D cT ad) (vx_cwSW 5 C.1.2.2.2.2 gL_isOrder_L_tree rfl rfl rfl ps_L_tree ⟨Nat.le_of_ble_eq_true rfl, Nat.le_of_ble_eq_true rfl⟩) dL_isOrder_30 rfl rfl (Nat.le_of_ble_eq_true rfl) ⟨Nat.le_of_ble_eq_true rfl, Nat.le_of_ble_eq_true rfl⟩ [0, 1, 2, 3, 4, 5, 6, 7, 8, 9] [10] [1, 2, 3, 4, 5, 6, 7, 8, 9, 10, 0] rfl rfl rfl rfl (by decide) rfl rfl rfl ?_
  refine h_bipush (pc := 33) (v := jm30) C dL_isOrder_33 (by decide) ?_
  refine h_icmp_ne (pc := 35) (tgt := 42) C dL_isOrder_35 (by decide) (fun q => absurd (by decide) q) (fun _ => ?_)
  refine h_iconst (pc := 38) (v := 1) C dL_isOrder_38 (by decide) ?_
  refine h_goto (pc := 39) (tgt := 43) C dL_isOrder_39 (by decide) ?_
  refine h_istore_n (pc := 43) (lv' := [(2, .int 1), (0, .ref (ad 0)), (1, .ref (ad 10))]) C dL_isOrder_43 rfl (by decide) rfl ?_
  refine h_iconst (pc := 44) (v := 0) C dL_isOrder_44 (by decide) ?_
  refine h_istore_n (pc := 45) (lv' := [(3, .int 0), (2, .int 1), (0, .ref (ad 0)), (1, .ref (ad 10))]) C dL_isOrder_45 rfl (by decide) rfl ?_
  refine h_iload_n (pc := 46) C dL_isOrder_46 rfl 0 rfl ?_
  refine h_aload_n (pc := 47) C dL_isOrder_47 rfl 3 rfl ?_
  refine h_iconst (pc := 48) (v := 1) C dL_isOrder_48 (by decide) ?_
  refine h_iald (pc := 49) (v := 0) C 10 0 rfl rfl (by unfold vp_in; decide) rfl dL_isOrder_49 ?_
  refine h_icmp_ge (pc := 50) (tgt := 187) C dL_isOrder_50 (by decide) (fun _ => ?_) (fun q => absurd (by decide) q)
  refine h_iload_n (pc := 187) C dL_isOrder_187 rfl 1 rfl ?_
  refine h_widen (k := 2) (n := 12) (Nat.le_of_ble_eq_true rfl) (Nat.le_of_ble_eq_true rfl) ?_
  refine h_less (G1 := 2) (Nat.le_of_ble_eq_true rfl) ?_
  exact h_zret C hr rfl dL_isOrder_188
abbrev rmL_tree_0_0_0_0 : Room := { frames := 7, cells := 1, slots := 6, locals := 111 }
set_option maxRecDepth 100000 in
set_option maxHeartbeats 4000000 in
theorem g_L_tree_0_0_0_0 {l : Launch} (hX0 : l.stackTraces = false) (D : va_G) (cT : Nat → ClassId) (ad : Nat → Nat) : gM 1 l yL_tree wsL_tree rmL_tree_0_0_0_0 D (ty2 cT) [.ref (ad 0), .int 0, .int 0, .int 0, .int 0] (wX cT ad) (some (.int jm30)) := by
  refine gM_ofW (cc := cL_tree) (maxL := 6) (ret := (some .int)) (hh := [(0, 73, 74, 14), (0, 73, 79, 22)]) (own := RL) (lv := [(0, .ref (ad 0)), (1, .int 0), (2, .int 0), (3, .int 0), (4, .int 0)]) (by decide) rfl (Nat.le_of_ble_eq_true rfl) rfl rfl ?_
  intro p e s m args below meth c A C Z htab hr
  refine h_iload_n (pc := 0) C dL_tree_0 rfl 1 rfl ?_
  refine h_if_ne (pc := 1) (tgt := 12) C dL_tree_1 (by decide) (fun q => absurd (by decide) q) (fun _ => ?_)
  refine h_aload_n (pc := 4) C dL_tree_4 rfl 0 rfl ?_
  refine h_iload_n (pc := 5) C dL_tree_5 rfl 2 rfl ?_
  refine h_xcatch (pc := 6) (q0 := 0) (As := [.int 0]) (rest := []) (E := xIOE) C Z (x_X4_nodes_0 hX0 D cT ad) (cwV 1 C.1.2.2.2.2 gL_tree_X4_nodes rfl rfl rfl pv_X4_nodes ⟨Nat.le_of_ble_eq_true rfl, Nat.le_of_ble_eq_true rfl⟩) dL_tree_6 rfl rfl rfl rfl rfl (Nat.le_of_ble_eq_true rfl) ⟨Nat.le_of_ble_eq_true rfl, Nat.le_of_ble_eq_true rfl⟩ [0, 1, 2, 3, 4, 5, 6, 7, 8, 9] [] [0, 1, 2, 3, 4, 5, 6, 7, 8, 9] rfl rfl rfl rfl (by decide) rfl rfl [⟨0, 73, 74, 14⟩] ⟨0, 73, 79, 22⟩ [] htab (fun z hz => by rw [List.mem_singleton.mp hz]; exact Or.inr ⟨by decide, xIAE, List.mem_of_getElem? (i := 1) rfl, Z.2.2.2.2.1.2⟩) (by decide) (by decide) (List.mem_of_getElem? (i := 2) rfl) xin_IOE (hpc := 79) rfl (fun q9 => ?_)
  refine h_astore (pc := 79) (lv' := [(5, .ref q9), (0, .ref (ad 0)), (1, .int 0), (2, .int 0), (3, .int 0), (4, .int 0)]) C dL_tree_79 (by decide) rfl ?_
  refine h_bipush (pc := 81) (v := jm30) C dL_tree_81 (by decide) ?_
  refine h_widen (k := 1) (n := 6) (Nat.le_of_ble_eq_true rfl) (Nat.le_of_ble_eq_true rfl) ?_
  refine h_less (G1 := 1) (Nat.le_of_ble_eq_true rfl) ?_
  exact h_iret C hr dL_tree_83
abbrev rmL_tree_0_m1_0_0 : Room := { frames := 7, cells := 1, slots := 6, locals := 111 }
set_option maxRecDepth 100000 in
set_option maxHeartbeats 4000000 in
theorem g_L_tree_0_m1_0_0 {l : Launch} (hX0 : l.stackTraces = false) (D : va_G) (cT : Nat → ClassId) (ad : Nat → Nat) : gM 1 l yL_tree wsL_tree rmL_tree_0_m1_0_0 D (ty2 cT) [.ref (ad 0), .int 0, .int jm1, .int 0, .int 0] (wX cT ad) (some (.int jm30)) := by
  refine gM_ofW (cc := cL_tree) (maxL := 6) (ret := (some .int)) (hh := [(0, 73, 74, 14), (0, 73, 79, 22)]) (own := RL) (lv := [(0, .ref (ad 0)), (1, .int 0), (2, .int jm1), (3, .int 0), (4, .int 0)]) (by decide) rfl (Nat.le_of_ble_eq_true rfl) rfl rfl ?_
  intro p e s m args below meth c A C Z htab hr
  refine h_iload_n (pc := 0) C dL_tree_0 rfl 1 rfl ?_
  refine h_if_ne (pc := 1) (tgt := 12) C dL_tree_1 (by decide) (fun q => absurd (by decide) q) (fun _ => ?_)
  refine h_aload_n (pc := 4) C dL_tree_4 rfl 0 rfl ?_
  refine h_iload_n (pc := 5) C dL_tree_5 rfl 2 rfl ?_
  refine h_xcatch (pc := 6) (q0 := 0) (As := [.int jm1]) (rest := []) (E := xIOE) C Z (x_X4_nodes_m1 hX0 D cT ad) (cwV 1 C.1.2.2.2.2 gL_tree_X4_nodes rfl rfl rfl pv_X4_nodes ⟨Nat.le_of_ble_eq_true rfl, Nat.le_of_ble_eq_true rfl⟩) dL_tree_6 rfl rfl rfl rfl rfl (Nat.le_of_ble_eq_true rfl) ⟨Nat.le_of_ble_eq_true rfl, Nat.le_of_ble_eq_true rfl⟩ [0, 1, 2, 3, 4, 5, 6, 7, 8, 9] [] [0, 1, 2, 3, 4, 5, 6, 7, 8, 9] rfl rfl rfl rfl (by decide) rfl rfl [⟨0, 73, 74, 14⟩] ⟨0, 73, 79, 22⟩ [] htab (fun z hz => by rw [List.mem_singleton.mp hz]; exact Or.inr ⟨by decide, xIAE, List.mem_of_getElem? (i := 1) rfl, Z.2.2.2.2.1.2⟩) (by decide) (by decide) (List.mem_of_getElem? (i := 2) rfl) xin_IOE (hpc := 79) rfl (fun q9 => ?_)
  refine h_astore (pc := 79) (lv' := [(5, .ref q9), (0, .ref (ad 0)), (1, .int 0), (2, .int jm1), (3, .int 0), (4, .int 0)]) C dL_tree_79 (by decide) rfl ?_
  refine h_bipush (pc := 81) (v := jm30) C dL_tree_81 (by decide) ?_
  refine h_widen (k := 1) (n := 6) (Nat.le_of_ble_eq_true rfl) (Nat.le_of_ble_eq_true rfl) ?_
  refine h_less (G1 := 1) (Nat.le_of_ble_eq_true rfl) ?_
  exact h_iret C hr dL_tree_83
abbrev rmL_tightness : Room := { frames := 7, cells := 1, slots := 6, locals := 113 }
set_option maxRecDepth 100000 in
set_option maxHeartbeats 4000000 in
theorem g_L_tightness {l : Launch} (hX0 : l.stackTraces = false) (D : va_G) (cT : Nat → ClassId) (ad : Nat → Nat) : gM 1 l yL_tightness wsL_tightness rmL_tightness D (ty2 cT) [.ref (ad 0)] (wX cT ad) (some (.float 3212836864)) := by
  refine gM_ofW (cc := cL_tightness) (maxL := 2) (ret := (some .float)) (hh := [(0, 4, 5, 16)]) (own := RL) (lv := [(0, .ref (ad 0))]) (by decide) rfl (Nat.le_of_ble_eq_true rfl) rfl rfl ?_
  intro p e s m args below meth c A C Z htab hr
  refine h_aload_n (pc := 0) C dL_tightness_0 rfl 0 rfl ?_
  refine h_xcatch (pc := 1) (q0 := 0) (As := []) (rest := []) (E := xISE) C Z (x_X4_tightness hX0 D cT ad) (cwV 0 C.1.2.2.2.2 gL_tightness_X4_tightness rfl rfl rfl pv_X4_tightness ⟨Nat.le_of_ble_eq_true rfl, Nat.le_of_ble_eq_true rfl⟩) dL_tightness_1 rfl rfl rfl rfl rfl (Nat.le_of_ble_eq_true rfl) ⟨Nat.le_of_ble_eq_true rfl, Nat.le_of_ble_eq_true rfl⟩ [0, 1, 2, 3, 4, 5, 6, 7, 8, 9] [] [0, 1, 2, 3, 4, 5, 6, 7, 8, 9] rfl rfl rfl rfl (by decide) rfl rfl [] ⟨0, 4, 5, 16⟩ [] htab (fun z hz => nomatch hz) (by decide) (by decide) (List.mem_of_getElem? (i := 1) rfl) xin_ISE (hpc := 5) rfl (fun q9 => ?_)
  refine h_astore_n (pc := 5) (lv' := [(1, .ref q9), (0, .ref (ad 0))]) C dL_tightness_5 rfl (by decide) rfl ?_
  refine h_ldcf (pc := 6) (v := 3212836864) C (List.mem_of_getElem? (i := 2) rfl) dL_tightness_6 ?_
  refine h_widen (k := 1) (n := 6) (Nat.le_of_ble_eq_true rfl) (Nat.le_of_ble_eq_true rfl) ?_
  refine h_less (G1 := 1) (Nat.le_of_ble_eq_true rfl) ?_
  exact h_fret C hr dL_tightness_8
abbrev rmL_isTree : Room := { frames := 8, cells := 3, slots := 18, locals := 136 }
set_option maxRecDepth 100000 in
set_option maxHeartbeats 4000000 in
theorem g_L_isTree {l : Launch} (hX0 : l.stackTraces = false) (D : va_G) (cT : Nat → ClassId) (ad : Nat → Nat) : gM 3 l yL_isTree wsL_isTree rmL_isTree D (ty2 cT) [.ref (ad 0), .ref (ad 10)] (wG cT ad) (some (.int 1)) := by
  refine gM_of (cc := cL_isTree) (maxL := 14) (ret := (some .boolean)) (own := RL) (lv := [(0, .ref (ad 0)), (1, .ref (ad 10))]) (by decide) rfl (Nat.le_of_ble_eq_true rfl) rfl rfl ?_
  intro p e s m args below meth c A C Z hr
  refine h_aload_n (pc := 0) C dL_isTree_0 rfl 1 rfl ?_
  refine h_iconst (pc := 1) (v := 1) C dL_isTree_1 (by decide) ?_
  refine h_iald (pc := 2) (v := 0) C 10 0 rfl rfl (by unfold vp_in; decide) rfl dL_isTree_2 ?_
  refine h_istore_n (pc := 3) (lv' := [(2, .int 0), (0, .ref (ad 0)), (1, .ref (ad 10))]) C dL_isTree_3 rfl (by decide) rfl ?_
  refine h_aload_n (pc := 4) C dL_isTree_4 rfl 1 rfl ?_
  refine h_callV (pc := 5) (q0 := 0) (As := []) (rest := []) (st2 := .int 0 :: []) C (c_X4_levels l D cT ad) (cwV 0 C.1.2.2.2.2 gL_isTree_X4_levels rfl rfl rfl pv_X4_levels ⟨Nat.le_of_ble_eq_true rfl, Nat.le_of_ble_eq_true rfl⟩) dL_isTree_5 rfl rfl rfl rfl rfl (Nat.le_of_ble_eq_true rfl) ⟨rfl, rfl⟩ ⟨Nat.le_of_ble_eq_true rfl, Nat.le_of_ble_eq_true rfl⟩ [0, 1, 2, 3, 4, 5, 6, 7, 8, 9] [10] [1, 2, 3, 4, 5, 6, 7, 8, 9, 10, 0] rfl rfl rfl rfl (by decide) rfl rfl rfl ?_
  refine h_istore_n (pc := 8) (lv' := [(3, .int 0), (2, .int 0), (0, .ref (ad 0)), (1, .ref (ad 10))]) C dL_isTree_8 rfl (by decide) rfl ?_
  refine h_iload_n (pc := 9) C dL_isTree_9 rfl 0 rfl ?_
  refine h_if_ne (pc := 10) (tgt := 17) C dL_isTree_10 (by decide) (fun q => absurd (by decide) q) (fun _ => ?_)
  refine h_iconst (pc := 13) (v := 1) C dL_isTree_13 (by decide) ?_
  refine h_goto (pc := 14) (tgt := 18) C dL_isTree_14 (by decide) ?_
  refine h_aload_n (pc := 18) C dL_isTree_18 rfl 3 rfl ?_
  refine h_iconst (pc := 19) (v := 1) C dL_isTree_19 (by decide) ?_
  refine h_iald (pc := 20) (v := 0) C 10 0 rfl rfl (by unfold vp_in; decide) rfl dL_isTree_20 ?_
  refine h_if_ne (pc := 21) (tgt := 28) C dL_isTree_21 (by decide) (fun q => absurd (by decide) q) (fun _ => ?_)
  refine h_iconst (pc := 24) (v := 1) C dL_isTree_24 (by decide) ?_
  refine h_goto (pc := 25) (tgt := 29) C dL_isTree_25 (by decide) ?_
  refine h_icmp_ne (pc := 29) (tgt := 68) C dL_isTree_29 (by decide) (fun q => absurd (by decide) q) (fun _ => ?_)
  refine h_iload_n (pc := 32) C dL_isTree_32 rfl 0 rfl ?_
  refine h_bipush (pc := 33) (v := 9) C dL_isTree_33 (by decide) ?_
  refine h_icmp_ge (pc := 35) (tgt := 68) C dL_isTree_35 (by decide) (fun q => absurd q (by decide)) (fun _ => ?_)
  refine h_aload_n (pc := 38) C dL_isTree_38 rfl 2 rfl ?_
  refine h_iconst (pc := 39) (v := 0) C dL_isTree_39 (by decide) ?_
  refine h_iload_n (pc := 40) C dL_isTree_40 rfl 0 rfl ?_
  refine h_iconst (pc := 41) (v := 0) C dL_isTree_41 (by decide) ?_
  refine h_iconst (pc := 42) (v := 0) C dL_isTree_42 (by decide) ?_
  refine h_callSW (pc := 43) (As := [.ref (ad 0), .int 0, .int 0, .int 0, .int 0]) (rest := []) (st2 := .int jm30 :: []) C Z (g_L_tree_0_0_0_0 hX0 D cT ad) (vx_cwSW 5 C.1.2.2.2.2 gL_isTree_L_tree rfl rfl rfl ps_L_tree ⟨Nat.le_of_ble_eq_true rfl, Nat.le_of_ble_eq_true rfl⟩) dL_isTree_43 rfl rfl (Nat.le_of_ble_eq_true rfl) ⟨Nat.le_of_ble_eq_true rfl, Nat.le_of_ble_eq_true rfl⟩ [0, 1, 2, 3, 4, 5, 6, 7, 8, 9] [10] [1, 2, 3, 4, 5, 6, 7, 8, 9, 10, 0] rfl rfl rfl rfl (by decide) rfl rfl rfl ?_
  refine h_bipush (pc := 46) (v := jm30) C dL_isTree_46 (by decide) ?_
  refine h_icmp_ne (pc := 48) (tgt := 68) C dL_isTree_48 (by decide) (fun q => absurd (by decide) q) (fun _ => ?_)
  refine h_aload_n (pc := 51) C dL_isTree_51 rfl 2 rfl ?_
  refine h_iconst (pc := 52) (v := 0) C dL_isTree_52 (by decide) ?_
  refine h_iconst (pc := 53) (v := jm1) C dL_isTree_53 (by decide) ?_
  refine h_iconst (pc := 54) (v := 0) C dL_isTree_54 (by decide) ?_
  refine h_iconst (pc := 55) (v := 0) C dL_isTree_55 (by decide) ?_
  refine h_callSW (pc := 56) (As := [.ref (ad 0), .int 0, .int jm1, .int 0, .int 0]) (rest := []) (st2 := .int jm30 :: []) C Z (g_L_tree_0_m1_0_0 hX0 D cT ad) (vx_cwSW 5 C.1.2.2.2.2 gL_isTree_L_tree rfl rfl rfl ps_L_tree ⟨Nat.le_of_ble_eq_true rfl, Nat.le_of_ble_eq_true rfl⟩) dL_isTree_56 rfl rfl (Nat.le_of_ble_eq_true rfl) ⟨Nat.le_of_ble_eq_true rfl, Nat.le_of_ble_eq_true rfl⟩ [0, 1, 2, 3, 4, 5, 6, 7, 8, 9] [10] [1, 2, 3, 4, 5, 6, 7, 8, 9, 10, 0] rfl rfl rfl rfl (by decide) rfl rfl rfl ?_
  refine h_bipush (pc := 59) (v := jm30) C dL_isTree_59 (by decide) ?_
  refine h_icmp_ne (pc := 61) (tgt := 68) C dL_isTree_61 (by decide) (fun q => absurd (by decide) q) (fun _ => ?_)
  refine h_iconst (pc := 64) (v := 1) C dL_isTree_64 (by decide) ?_
  refine h_goto (pc := 65) (tgt := 69) C dL_isTree_65 (by decide) ?_
  refine h_istore (pc := 69) (lv' := [(4, .int 1), (3, .int 0), (2, .int 0), (0, .ref (ad 0)), (1, .ref (ad 10))]) C dL_isTree_69 (by decide) rfl ?_
  refine h_iconst (pc := 71) (v := 0) C dL_isTree_71 (by decide) ?_
  refine h_istore (pc := 72) (lv' := [(5, .int 0), (4, .int 1), (3, .int 0), (2, .int 0), (0, .ref (ad 0)), (1, .ref (ad 10))]) C dL_isTree_72 (by decide) rfl ?_
  refine h_iload (pc := 74) C dL_isTree_74 0 rfl ?_
  refine h_iload_n (pc := 76) C dL_isTree_76 rfl 2 rfl ?_
  refine h_icmp_ge (pc := 77) (tgt := 418) C dL_isTree_77 (by decide) (fun _ => ?_) (fun q => absurd (by decide) q)
  refine h_aload_n (pc := 418) C dL_isTree_418 rfl 4 rfl ?_
  refine h_callSW (pc := 419) (As := [.ref (ad 0)]) (rest := []) (st2 := .float 3212836864 :: []) C Z (g_L_tightness hX0 D cT ad) (vx_cwSW 1 C.1.2.2.2.2 gL_isTree_L_tightness rfl rfl rfl ps_L_tightness ⟨Nat.le_of_ble_eq_true rfl, Nat.le_of_ble_eq_true rfl⟩) dL_isTree_419 rfl rfl (Nat.le_of_ble_eq_true rfl) ⟨Nat.le_of_ble_eq_true rfl, Nat.le_of_ble_eq_true rfl⟩ [0, 1, 2, 3, 4, 5, 6, 7, 8, 9] [10] [1, 2, 3, 4, 5, 6, 7, 8, 9, 10, 0] rfl rfl rfl rfl (by decide) rfl rfl rfl ?_
  refine h_fstore (pc := 422) (lv' := [(5, .float 3212836864), (4, .int 1), (3, .int 0), (2, .int 0), (0, .ref (ad 0)), (1, .ref (ad 10))]) C dL_isTree_422 (by decide) rfl ?_
  refine h_iload (pc := 424) C dL_isTree_424 1 rfl ?_
  refine h_if_eq (pc := 426) (tgt := 491) C dL_isTree_426 (by decide) (fun q => absurd q (by decide)) (fun _ => ?_)
  refine h_iload_n (pc := 429) C dL_isTree_429 rfl 2 rfl ?_
  refine h_if_eq (pc := 430) (tgt := 455) C dL_isTree_430 (by decide) (fun _ => ?_) (fun q => absurd (by decide) q)
  refine h_iload_n (pc := 455) C dL_isTree_455 rfl 2 rfl ?_
  refine h_if_ne (pc := 456) (tgt := 470) C dL_isTree_456 (by decide) (fun q => absurd (by decide) q) (fun _ => ?_)
  refine h_fload (pc := 459) C dL_isTree_459 0 rfl ?_
  refine h_ldcf (pc := 461) (v := 3212836864) C (List.mem_of_getElem? (i := 1) rfl) dL_isTree_461 ?_
  refine h_fcmp (pc := 463) C dL_isTree_463 ?_
  refine h_eq (v := 0) (by decide +kernel) ?_
  refine h_if_ne (pc := 464) (tgt := 491) C dL_isTree_464 (by decide) (fun q => absurd (by decide) q) (fun _ => ?_)
  refine h_goto (pc := 467) (tgt := 487) C dL_isTree_467 (by decide) ?_
  refine h_iconst (pc := 487) (v := 1) C dL_isTree_487 (by decide) ?_
  refine h_goto (pc := 488) (tgt := 492) C dL_isTree_488 (by decide) ?_
  refine h_widen (k := 3) (n := 18) (Nat.le_of_ble_eq_true rfl) (Nat.le_of_ble_eq_true rfl) ?_
  refine h_less (G1 := 3) (Nat.le_of_ble_eq_true rfl) ?_
  exact h_zret C hr rfl dL_isTree_492
abbrev rmL_areAll : Room := { frames := 9, cells := 5, slots := 30, locals := 169 }
set_option maxRecDepth 100000 in
set_option maxHeartbeats 4000000 in
theorem g_L_areAll {l : Launch} (hX0 : l.stackTraces = false) (D : va_G) (cT : Nat → ClassId) (ad : Nat → Nat) : gM 5 l yL_areAll wsL_areAll rmL_areAll D (ty2 cT) [.ref (ad 0), .ref (ad 10)] (wG cT ad) (some (.int 1)) := by
  refine gM_of (cc := cL_areAll) (maxL := 2) (ret := (some .boolean)) (own := RL) (lv := [(0, .ref (ad 0)), (1, .ref (ad 10))]) (by decide) rfl (Nat.le_of_ble_eq_true rfl) rfl rfl ?_
  intro p e s m args below meth c A C Z hr
  refine h_aload_n (pc := 0) C dL_areAll_0 rfl 0 rfl ?_
  refine h_aload_n (pc := 1) C dL_areAll_1 rfl 1 rfl ?_
  refine h_callS (pc := 2) (As := [.ref (ad 0), .ref (ad 10)]) (rest := []) (st2 := .int 1 :: []) C Z (g_L_isOrder hX0 D cT ad) (va_cwS 2 C.1.2.2.2.2 gL_areAll_L_isOrder rfl rfl rfl ps_L_isOrder ⟨Nat.le_of_ble_eq_true rfl, Nat.le_of_ble_eq_true rfl⟩) dL_areAll_2 rfl rfl (Nat.le_of_ble_eq_true rfl) ⟨Nat.le_of_ble_eq_true rfl, Nat.le_of_ble_eq_true rfl⟩ [0, 1, 2, 3, 4, 5, 6, 7, 8, 9, 10] [] [0, 1, 2, 3, 4, 5, 6, 7, 8, 9, 10] rfl rfl rfl rfl (by decide) rfl rfl rfl ?_
  refine h_if_eq (pc := 5) (tgt := 20) C dL_areAll_5 (by decide) (fun q => absurd q (by decide)) (fun _ => ?_)
  refine h_aload_n (pc := 8) C dL_areAll_8 rfl 0 rfl ?_
  refine h_aload_n (pc := 9) C dL_areAll_9 rfl 1 rfl ?_
  refine h_callS (pc := 10) (As := [.ref (ad 0), .ref (ad 10)]) (rest := []) (st2 := .int 1 :: []) C Z (g_L_isTree hX0 D cT ad) (va_cwS 2 C.1.2.2.2.2 gL_areAll_L_isTree rfl rfl rfl ps_L_isTree ⟨Nat.le_of_ble_eq_true rfl, Nat.le_of_ble_eq_true rfl⟩) dL_areAll_10 rfl rfl (Nat.le_of_ble_eq_true rfl) ⟨Nat.le_of_ble_eq_true rfl, Nat.le_of_ble_eq_true rfl⟩ [0, 1, 2, 3, 4, 5, 6, 7, 8, 9, 10] [] [0, 1, 2, 3, 4, 5, 6, 7, 8, 9, 10] rfl rfl rfl rfl (by decide) rfl rfl rfl ?_
  refine h_if_eq (pc := 13) (tgt := 20) C dL_areAll_13 (by decide) (fun q => absurd q (by decide)) (fun _ => ?_)
  refine h_iconst (pc := 16) (v := 1) C dL_areAll_16 (by decide) ?_
  refine h_goto (pc := 17) (tgt := 21) C dL_areAll_17 (by decide) ?_
  refine h_widen (k := 5) (n := 30) (Nat.le_of_ble_eq_true rfl) (Nat.le_of_ble_eq_true rfl) ?_
  refine h_less (G1 := 5) (Nat.le_of_ble_eq_true rfl) ?_
  exact h_zret C hr rfl dL_areAll_21
abbrev rmL_pair_0 : Room := { frames := 7, cells := 1, slots := 6, locals := 114 }
set_option maxRecDepth 100000 in
set_option maxHeartbeats 4000000 in
theorem g_L_pair_0 {l : Launch} (hX0 : l.stackTraces = false) (D : va_G) (cT : Nat → ClassId) (ad : Nat → Nat) : gM 1 l yL_pair wsL_pair rmL_pair_0 D (ty2 cT) [.ref (ad 0), .int 0] (wX cT ad) (some (.int jm30)) := by
  refine gM_ofW (cc := cL_pair) (maxL := 3) (ret := (some .int)) (hh := [(0, 5, 6, 22)]) (own := RL) (lv := [(0, .ref (ad 0)), (1, .int 0)]) (by decide) rfl (Nat.le_of_ble_eq_true rfl) rfl rfl ?_
  intro p e s m args below meth c A C Z htab hr
  refine h_aload_n (pc := 0) C dL_pair_0 rfl 0 rfl ?_
  refine h_iload_n (pc := 1) C dL_pair_1 rfl 1 rfl ?_
  refine h_xcatch (pc := 2) (q0 := 0) (As := [.int 0]) (rest := []) (E := xIOE) C Z (x_X4_pair_0 hX0 D cT ad) (cwV 1 C.1.2.2.2.2 gL_pair_X4_pair rfl rfl rfl pv_X4_pair ⟨Nat.le_of_ble_eq_true rfl, Nat.le_of_ble_eq_true rfl⟩) dL_pair_2 rfl rfl rfl rfl rfl (Nat.le_of_ble_eq_true rfl) ⟨Nat.le_of_ble_eq_true rfl, Nat.le_of_ble_eq_true rfl⟩ [0, 1, 2, 3, 4, 5, 6, 7, 8, 9] [] [0, 1, 2, 3, 4, 5, 6, 7, 8, 9] rfl rfl rfl rfl (by decide) rfl rfl [] ⟨0, 5, 6, 22⟩ [] htab (fun z hz => nomatch hz) (by decide) (by decide) (List.mem_of_getElem? (i := 1) rfl) xin_IOE (hpc := 6) rfl (fun q9 => ?_)
  refine h_astore_n (pc := 6) (lv' := [(2, .ref q9), (0, .ref (ad 0)), (1, .int 0)]) C dL_pair_6 rfl (by decide) rfl ?_
  refine h_bipush (pc := 7) (v := jm30) C dL_pair_7 (by decide) ?_
  refine h_widen (k := 1) (n := 6) (Nat.le_of_ble_eq_true rfl) (Nat.le_of_ble_eq_true rfl) ?_
  refine h_less (G1 := 1) (Nat.le_of_ble_eq_true rfl) ?_
  exact h_iret C hr dL_pair_9
abbrev rmL_pair_m1 : Room := { frames := 7, cells := 1, slots := 6, locals := 114 }
set_option maxRecDepth 100000 in
set_option maxHeartbeats 4000000 in
theorem g_L_pair_m1 {l : Launch} (hX0 : l.stackTraces = false) (D : va_G) (cT : Nat → ClassId) (ad : Nat → Nat) : gM 1 l yL_pair wsL_pair rmL_pair_m1 D (ty2 cT) [.ref (ad 0), .int jm1] (wX cT ad) (some (.int jm30)) := by
  refine gM_ofW (cc := cL_pair) (maxL := 3) (ret := (some .int)) (hh := [(0, 5, 6, 22)]) (own := RL) (lv := [(0, .ref (ad 0)), (1, .int jm1)]) (by decide) rfl (Nat.le_of_ble_eq_true rfl) rfl rfl ?_
  intro p e s m args below meth c A C Z htab hr
  refine h_aload_n (pc := 0) C dL_pair_0 rfl 0 rfl ?_
  refine h_iload_n (pc := 1) C dL_pair_1 rfl 1 rfl ?_
  refine h_xcatch (pc := 2) (q0 := 0) (As := [.int jm1]) (rest := []) (E := xIOE) C Z (x_X4_pair_m1 hX0 D cT ad) (cwV 1 C.1.2.2.2.2 gL_pair_X4_pair rfl rfl rfl pv_X4_pair ⟨Nat.le_of_ble_eq_true rfl, Nat.le_of_ble_eq_true rfl⟩) dL_pair_2 rfl rfl rfl rfl rfl (Nat.le_of_ble_eq_true rfl) ⟨Nat.le_of_ble_eq_true rfl, Nat.le_of_ble_eq_true rfl⟩ [0, 1, 2, 3, 4, 5, 6, 7, 8, 9] [] [0, 1, 2, 3, 4, 5, 6, 7, 8, 9] rfl rfl rfl rfl (by decide) rfl rfl [] ⟨0, 5, 6, 22⟩ [] htab (fun z hz => nomatch hz) (by decide) (by decide) (List.mem_of_getElem? (i := 1) rfl) xin_IOE (hpc := 6) rfl (fun q9 => ?_)
  refine h_astore_n (pc := 6) (lv' := [(2, .ref q9), (0, .ref (ad 0)), (1, .int jm1)]) C dL_pair_6 rfl (by decide) rfl ?_
  refine h_bipush (pc := 7) (v := jm30) C dL_pair_7 (by decide) ?_
  refine h_widen (k := 1) (n := 6) (Nat.le_of_ble_eq_true rfl) (Nat.le_of_ble_eq_true rfl) ?_
  refine h_less (G1 := 1) (Nat.le_of_ble_eq_true rfl) ?_
  exact h_iret C hr dL_pair_9
abbrev rmL_arePairs : Room := { frames := 8, cells := 2, slots := 12, locals := 136 }
set_option maxRecDepth 100000 in
set_option maxHeartbeats 4000000 in
theorem g_L_arePairs {l : Launch} (hX0 : l.stackTraces = false) (D : va_G) (cT : Nat → ClassId) (ad : Nat → Nat) : gM 2 l yL_arePairs wsL_arePairs rmL_arePairs D (ty2 cT) [.ref (ad 0), .ref (ad 10)] (wG cT ad) (some (.int 1)) := by
  refine gM_of (cc := cL_arePairs) (maxL := 6) (ret := (some .boolean)) (own := RL) (lv := [(0, .ref (ad 0)), (1, .ref (ad 10))]) (by decide) rfl (Nat.le_of_ble_eq_true rfl) rfl rfl ?_
  intro p e s m args below meth c A C Z hr
  refine h_iconst (pc := 0) (v := 0) C dL_arePairs_0 (by decide) ?_
  refine h_istore_n (pc := 1) (lv' := [(2, .int 0), (0, .ref (ad 0)), (1, .ref (ad 10))]) C dL_arePairs_1 rfl (by decide) rfl ?_
  refine h_iconst (pc := 2) (v := 1) C dL_arePairs_2 (by decide) ?_
  refine h_istore_n (pc := 3) (lv' := [(3, .int 1), (2, .int 0), (0, .ref (ad 0)), (1, .ref (ad 10))]) C dL_arePairs_3 rfl (by decide) rfl ?_
  refine h_iconst (pc := 4) (v := 0) C dL_arePairs_4 (by decide) ?_
  refine h_istore (pc := 5) (lv' := [(4, .int 0), (3, .int 1), (2, .int 0), (0, .ref (ad 0)), (1, .ref (ad 10))]) C dL_arePairs_5 (by decide) rfl ?_
  refine h_iload (pc := 7) C dL_arePairs_7 0 rfl ?_
  refine h_aload_n (pc := 9) C dL_arePairs_9 rfl 4 rfl ?_
  refine h_iconst (pc := 10) (v := 0) C dL_arePairs_10 (by decide) ?_
  refine h_iald (pc := 11) (v := 0) C 10 0 rfl rfl (by unfold vp_in; decide) rfl dL_arePairs_11 ?_
  refine h_icmp_ge (pc := 12) (tgt := 131) C dL_arePairs_12 (by decide) (fun _ => ?_) (fun q => absurd (by decide) q)
  refine h_iload_n (pc := 131) C dL_arePairs_131 rfl 1 rfl ?_
  refine h_if_eq (pc := 132) (tgt := 167) C dL_arePairs_132 (by decide) (fun q => absurd q (by decide)) (fun _ => ?_)
  refine h_aload_n (pc := 135) C dL_arePairs_135 rfl 3 rfl ?_
  refine h_callV (pc := 136) (q0 := 0) (As := []) (rest := []) (st2 := .int 0 :: []) C (c_X4_pairs l D cT ad) (cwV 0 C.1.2.2.2.2 gL_arePairs_X4_pairs rfl rfl rfl pv_X4_pairs ⟨Nat.le_of_ble_eq_true rfl, Nat.le_of_ble_eq_true rfl⟩) dL_arePairs_136 rfl rfl rfl rfl rfl (Nat.le_of_ble_eq_true rfl) ⟨rfl, rfl⟩ ⟨Nat.le_of_ble_eq_true rfl, Nat.le_of_ble_eq_true rfl⟩ [0, 1, 2, 3, 4, 5, 6, 7, 8, 9] [10] [1, 2, 3, 4, 5, 6, 7, 8, 9, 10, 0] rfl rfl rfl rfl (by decide) rfl rfl rfl ?_
  refine h_iload_n (pc := 139) C dL_arePairs_139 rfl 2 rfl ?_
  refine h_icmp_ne (pc := 140) (tgt := 167) C dL_arePairs_140 (by decide) (fun q => absurd (by decide) q) (fun _ => ?_)
  refine h_aload_n (pc := 143) C dL_arePairs_143 rfl 3 rfl ?_
  refine h_iload_n (pc := 144) C dL_arePairs_144 rfl 2 rfl ?_
  refine h_callSW (pc := 145) (As := [.ref (ad 0), .int 0]) (rest := []) (st2 := .int jm30 :: []) C Z (g_L_pair_0 hX0 D cT ad) (vx_cwSW 2 C.1.2.2.2.2 gL_arePairs_L_pair rfl rfl rfl ps_L_pair ⟨Nat.le_of_ble_eq_true rfl, Nat.le_of_ble_eq_true rfl⟩) dL_arePairs_145 rfl rfl (Nat.le_of_ble_eq_true rfl) ⟨Nat.le_of_ble_eq_true rfl, Nat.le_of_ble_eq_true rfl⟩ [0, 1, 2, 3, 4, 5, 6, 7, 8, 9] [10] [1, 2, 3, 4, 5, 6, 7, 8, 9, 10, 0] rfl rfl rfl rfl (by decide) rfl rfl rfl ?_
  refine h_bipush (pc := 148) (v := jm30) C dL_arePairs_148 (by decide) ?_
  refine h_icmp_ne (pc := 150) (tgt := 167) C dL_arePairs_150 (by decide) (fun q => absurd (by decide) q) (fun _ => ?_)
  refine h_aload_n (pc := 153) C dL_arePairs_153 rfl 3 rfl ?_
  refine h_iconst (pc := 154) (v := jm1) C dL_arePairs_154 (by decide) ?_
  refine h_callSW (pc := 155) (As := [.ref (ad 0), .int jm1]) (rest := []) (st2 := .int jm30 :: []) C Z (g_L_pair_m1 hX0 D cT ad) (vx_cwSW 2 C.1.2.2.2.2 gL_arePairs_L_pair rfl rfl rfl ps_L_pair ⟨Nat.le_of_ble_eq_true rfl, Nat.le_of_ble_eq_true rfl⟩) dL_arePairs_155 rfl rfl (Nat.le_of_ble_eq_true rfl) ⟨Nat.le_of_ble_eq_true rfl, Nat.le_of_ble_eq_true rfl⟩ [0, 1, 2, 3, 4, 5, 6, 7, 8, 9] [10] [1, 2, 3, 4, 5, 6, 7, 8, 9, 10, 0] rfl rfl rfl rfl (by decide) rfl rfl rfl ?_
  refine h_bipush (pc := 158) (v := jm30) C dL_arePairs_158 (by decide) ?_
  refine h_icmp_ne (pc := 160) (tgt := 167) C dL_arePairs_160 (by decide) (fun q => absurd (by decide) q) (fun _ => ?_)
  refine h_iconst (pc := 163) (v := 1) C dL_arePairs_163 (by decide) ?_
  refine h_goto (pc := 164) (tgt := 168) C dL_arePairs_164 (by decide) ?_
  refine h_widen (k := 2) (n := 12) (Nat.le_of_ble_eq_true rfl) (Nat.le_of_ble_eq_true rfl) ?_
  refine h_less (G1 := 2) (Nat.le_of_ble_eq_true rfl) ?_
  exact h_zret C hr rfl dL_arePairs_168
abbrev rmL_part_x1_20 : Room := { frames := 0, cells := 0, slots := 0, locals := 0 }
set_option maxRecDepth 100000 in
set_option maxHeartbeats 4000000 in
theorem g_L_part_x1_20 {l : Launch} (hX0 : l.stackTraces = false) (D : va_G) (cT : Nat → ClassId) (ad : Nat → Nat) (x1 : Int32) (hlt : ¬ 256 ≤ x1) (hin : vp_in x1 256) : gM 0 l yL_part wsL_part rmL_part_x1_20 D (ty2 cT) [.ref (ad 11), .int x1, .int 20] (wP cT ad) (some (.int 18)) := by
  refine gM_of (cc := cL_part) (maxL := 4) (ret := (some .int)) (own := RL) (lv := [(0, .ref (ad 11)), (1, .int x1), (2, .int 20)]) (by decide) rfl (Nat.le_of_ble_eq_true rfl) rfl rfl ?_
  intro p e s m args below meth c A C Z hr
  refine h_iload_n (pc := 0) C dL_part_0 rfl 1 rfl ?_
  refine h_aload_n (pc := 1) C dL_part_1 rfl 0 rfl ?_
  refine h_alen (pc := 2) (v := 256) (ty := .int) C 0 0 rfl rfl (by decide) dL_part_2 ?_
  refine h_icmp_ge (pc := 3) (tgt := 12) C dL_part_3 (by decide) (fun q => absurd q hlt) (fun _ => ?_)
  refine h_aload_n (pc := 6) C dL_part_6 rfl 0 rfl ?_
  refine h_iload_n (pc := 7) C dL_part_7 rfl 1 rfl ?_
  refine h_iald (pc := 8) (v := 18) C 0 0 rfl rfl hin rfl dL_part_8 ?_
  refine h_goto (pc := 9) (tgt := 24) C dL_part_9 (by decide) ?_
  refine h_istore_n (pc := 24) (lv' := [(3, .int 18), (0, .ref (ad 11)), (1, .int x1), (2, .int 20)]) C dL_part_24 rfl (by decide) rfl ?_
  refine h_iload_n (pc := 25) C dL_part_25 rfl 0 rfl ?_
  refine h_ldc (pc := 26) (v := 2147483647) C (List.mem_of_getElem? (i := 1) rfl) dL_part_26 ?_
  refine h_iand (pc := 28) C dL_part_28 ?_
  refine h_eq (v := 18) (by decide) ?_
  refine h_iload_n (pc := 29) C dL_part_29 rfl 3 rfl ?_
  refine h_irem (pc := 30) C dL_part_30 (by decide) ?_
  refine h_eq (v := 18) (by decide) ?_
  refine h_widen (k := 0) (n := 0) (Nat.le_of_ble_eq_true rfl) (Nat.le_of_ble_eq_true rfl) ?_
  refine h_less (G1 := 0) (Nat.le_of_ble_eq_true rfl) ?_
  exact h_iret C hr dL_part_31
abbrev rmL_part_x1_60000 : Room := { frames := 0, cells := 0, slots := 0, locals := 0 }
set_option maxRecDepth 100000 in
set_option maxHeartbeats 4000000 in
theorem g_L_part_x1_60000 {l : Launch} (hX0 : l.stackTraces = false) (D : va_G) (cT : Nat → ClassId) (ad : Nat → Nat) (x1 : Int32) (hlt : ¬ 256 ≤ x1) (hin : vp_in x1 256) : gM 0 l yL_part wsL_part rmL_part_x1_60000 D (ty2 cT) [.ref (ad 11), .int x1, .int 60000] (wP cT ad) (some (.int 18)) := by
  refine gM_of (cc := cL_part) (maxL := 4) (ret := (some .int)) (own := RL) (lv := [(0, .ref (ad 11)), (1, .int x1), (2, .int 60000)]) (by decide) rfl (Nat.le_of_ble_eq_true rfl) rfl rfl ?_
  intro p e s m args below meth c A C Z hr
  refine h_iload_n (pc := 0) C dL_part_0 rfl 1 rfl ?_
  refine h_aload_n (pc := 1) C dL_part_1 rfl 0 rfl ?_
  refine h_alen (pc := 2) (v := 256) (ty := .int) C 0 0 rfl rfl (by decide) dL_part_2 ?_
  refine h_icmp_ge (pc := 3) (tgt := 12) C dL_part_3 (by decide) (fun q => absurd q hlt) (fun _ => ?_)
  refine h_aload_n (pc := 6) C dL_part_6 rfl 0 rfl ?_
  refine h_iload_n (pc := 7) C dL_part_7 rfl 1 rfl ?_
  refine h_iald (pc := 8) (v := 18) C 0 0 rfl rfl hin rfl dL_part_8 ?_
  refine h_goto (pc := 9) (tgt := 24) C dL_part_9 (by decide) ?_
  refine h_istore_n (pc := 24) (lv' := [(3, .int 18), (0, .ref (ad 11)), (1, .int x1), (2, .int 60000)]) C dL_part_24 rfl (by decide) rfl ?_
  refine h_iload_n (pc := 25) C dL_part_25 rfl 0 rfl ?_
  refine h_ldc (pc := 26) (v := 2147483647) C (List.mem_of_getElem? (i := 1) rfl) dL_part_26 ?_
  refine h_iand (pc := 28) C dL_part_28 ?_
  refine h_eq (v := 18) (by decide) ?_
  refine h_iload_n (pc := 29) C dL_part_29 rfl 3 rfl ?_
  refine h_irem (pc := 30) C dL_part_30 (by decide) ?_
  refine h_eq (v := 18) (by decide) ?_
  refine h_widen (k := 0) (n := 0) (Nat.le_of_ble_eq_true rfl) (Nat.le_of_ble_eq_true rfl) ?_
  refine h_less (G1 := 0) (Nat.le_of_ble_eq_true rfl) ?_
  exact h_iret C hr dL_part_31
abbrev rmL_part_x1_7000 : Room := { frames := 0, cells := 0, slots := 0, locals := 0 }
set_option maxRecDepth 100000 in
set_option maxHeartbeats 4000000 in
theorem g_L_part_x1_7000 {l : Launch} (hX0 : l.stackTraces = false) (D : va_G) (cT : Nat → ClassId) (ad : Nat → Nat) (x1 : Int32) (hlt : ¬ 256 ≤ x1) (hin : vp_in x1 256) : gM 0 l yL_part wsL_part rmL_part_x1_7000 D (ty2 cT) [.ref (ad 11), .int x1, .int 7000] (wP cT ad) (some (.int 18)) := by
  refine gM_of (cc := cL_part) (maxL := 4) (ret := (some .int)) (own := RL) (lv := [(0, .ref (ad 11)), (1, .int x1), (2, .int 7000)]) (by decide) rfl (Nat.le_of_ble_eq_true rfl) rfl rfl ?_
  intro p e s m args below meth c A C Z hr
  refine h_iload_n (pc := 0) C dL_part_0 rfl 1 rfl ?_
  refine h_aload_n (pc := 1) C dL_part_1 rfl 0 rfl ?_
  refine h_alen (pc := 2) (v := 256) (ty := .int) C 0 0 rfl rfl (by decide) dL_part_2 ?_
  refine h_icmp_ge (pc := 3) (tgt := 12) C dL_part_3 (by decide) (fun q => absurd q hlt) (fun _ => ?_)
  refine h_aload_n (pc := 6) C dL_part_6 rfl 0 rfl ?_
  refine h_iload_n (pc := 7) C dL_part_7 rfl 1 rfl ?_
  refine h_iald (pc := 8) (v := 18) C 0 0 rfl rfl hin rfl dL_part_8 ?_
  refine h_goto (pc := 9) (tgt := 24) C dL_part_9 (by decide) ?_
  refine h_istore_n (pc := 24) (lv' := [(3, .int 18), (0, .ref (ad 11)), (1, .int x1), (2, .int 7000)]) C dL_part_24 rfl (by decide) rfl ?_
  refine h_iload_n (pc := 25) C dL_part_25 rfl 0 rfl ?_
  refine h_ldc (pc := 26) (v := 2147483647) C (List.mem_of_getElem? (i := 1) rfl) dL_part_26 ?_
  refine h_iand (pc := 28) C dL_part_28 ?_
  refine h_eq (v := 18) (by decide) ?_
  refine h_iload_n (pc := 29) C dL_part_29 rfl 3 rfl ?_
  refine h_irem (pc := 30) C dL_part_30 (by decide) ?_
  refine h_eq (v := 18) (by decide) ?_
  refine h_widen (k := 0) (n := 0) (Nat.le_of_ble_eq_true rfl) (Nat.le_of_ble_eq_true rfl) ?_
  refine h_less (G1 := 0) (Nat.le_of_ble_eq_true rfl) ?_
  exact h_iret C hr dL_part_31
abbrev rmL_part_x1_8000 : Room := { frames := 0, cells := 0, slots := 0, locals := 0 }
set_option maxRecDepth 100000 in
set_option maxHeartbeats 4000000 in
theorem g_L_part_x1_8000 {l : Launch} (hX0 : l.stackTraces = false) (D : va_G) (cT : Nat → ClassId) (ad : Nat → Nat) (x1 : Int32) (hlt : ¬ 256 ≤ x1) (hin : vp_in x1 256) : gM 0 l yL_part wsL_part rmL_part_x1_8000 D (ty2 cT) [.ref (ad 11), .int x1, .int 8000] (wP cT ad) (some (.int 18)) := by
  refine gM_of (cc := cL_part) (maxL := 4) (ret := (some .int)) (own := RL) (lv := [(0, .ref (ad 11)), (1, .int x1), (2, .int 8000)]) (by decide) rfl (Nat.le_of_ble_eq_true rfl) rfl rfl ?_
  intro p e s m args below meth c A C Z hr
  refine h_iload_n (pc := 0) C dL_part_0 rfl 1 rfl ?_
  refine h_aload_n (pc := 1) C dL_part_1 rfl 0 rfl ?_
  refine h_alen (pc := 2) (v := 256) (ty := .int) C 0 0 rfl rfl (by decide) dL_part_2 ?_
  refine h_icmp_ge (pc := 3) (tgt := 12) C dL_part_3 (by decide) (fun q => absurd q hlt) (fun _ => ?_)
  refine h_aload_n (pc := 6) C dL_part_6 rfl 0 rfl ?_
  refine h_iload_n (pc := 7) C dL_part_7 rfl 1 rfl ?_
  refine h_iald (pc := 8) (v := 18) C 0 0 rfl rfl hin rfl dL_part_8 ?_
  refine h_goto (pc := 9) (tgt := 24) C dL_part_9 (by decide) ?_
  refine h_istore_n (pc := 24) (lv' := [(3, .int 18), (0, .ref (ad 11)), (1, .int x1), (2, .int 8000)]) C dL_part_24 rfl (by decide) rfl ?_
  refine h_iload_n (pc := 25) C dL_part_25 rfl 0 rfl ?_
  refine h_ldc (pc := 26) (v := 2147483647) C (List.mem_of_getElem? (i := 1) rfl) dL_part_26 ?_
  refine h_iand (pc := 28) C dL_part_28 ?_
  refine h_eq (v := 18) (by decide) ?_
  refine h_iload_n (pc := 29) C dL_part_29 rfl 3 rfl ?_
  refine h_irem (pc := 30) C dL_part_30 (by decide) ?_
  refine h_eq (v := 18) (by decide) ?_
  refine h_widen (k := 0) (n := 0) (Nat.le_of_ble_eq_true rfl) (Nat.le_of_ble_eq_true rfl) ?_
  refine h_less (G1 := 0) (Nat.le_of_ble_eq_true rfl) ?_
  exact h_iret C hr dL_part_31
abbrev rmL_isDone_x2 : Room := { frames := 9, cells := 2, slots := 12, locals := 161 }
set_option maxRecDepth 100000 in
set_option maxHeartbeats 4000000 in
theorem g_L_isDone_x2 {l : Launch} (hX0 : l.stackTraces = false) (D : va_G) (cT : Nat → ClassId) (ad : Nat → Nat) (x2 : Int32) (h0 : pAt x2) (h1 : pAt (x2 + 1)) (h2 : pAt (x2 + 2)) (h3 : pAt (x2 + 3)) : gM 2 l yL_isDone wsL_isDone rmL_isDone_x2 D (ty2 cT) [.ref (ad 0), .ref (ad 11), .int x2, .ref (ad 10)] (wN cT ad) (some (.int 1)) := by
  refine gM_of (cc := cL_isDone) (maxL := 12) (ret := (some .boolean)) (own := RL) (lv := [(0, .ref (ad 0)), (1, .ref (ad 11)), (2, .int x2), (3, .ref (ad 10))]) (by decide) rfl (Nat.le_of_ble_eq_true rfl) rfl rfl ?_
  intro p e s m args below meth c A C Z hr
  refine h_aload_n (pc := 0) C dL_isDone_0 rfl 1 rfl ?_
  refine h_iload_n (pc := 1) C dL_isDone_1 rfl 2 rfl ?_
  refine h_bipush (pc := 2) (v := 20) C dL_isDone_2 (by decide) ?_
  refine h_callS (pc := 4) (As := [.ref (ad 11), .int x2, .int 20]) (rest := []) (st2 := .int 18 :: []) C Z (g_L_part_x1_20 hX0 D cT ad (x2) h0.1 h0.2) (va_cwS 3 C.1.2.2.2.2 gL_isDone_L_part rfl rfl rfl ps_L_part ⟨Nat.le_of_ble_eq_true rfl, Nat.le_of_ble_eq_true rfl⟩) dL_isDone_4 rfl rfl (Nat.le_of_ble_eq_true rfl) ⟨Nat.le_of_ble_eq_true rfl, Nat.le_of_ble_eq_true rfl⟩ [11] [0, 1, 2, 3, 4, 5, 6, 7, 8, 9, 10] [0, 1, 2, 3, 4, 5, 6, 7, 8, 9, 10, 11] rfl rfl rfl rfl (by decide) rfl rfl rfl ?_
  refine h_istore (pc := 7) (lv' := [(4, .int 18), (0, .ref (ad 0)), (1, .ref (ad 11)), (2, .int x2), (3, .ref (ad 10))]) C dL_isDone_7 (by decide) rfl ?_
  refine h_aload_n (pc := 9) C dL_isDone_9 rfl 2 rfl ?_
  refine h_iload_n (pc := 10) C dL_isDone_10 rfl 3 rfl ?_
  refine h_iconst (pc := 11) (v := 1) C dL_isDone_11 (by decide) ?_
  refine h_iadd (pc := 12) C dL_isDone_12 ?_
  refine h_ldc (pc := 13) (v := 60000) C (List.mem_of_getElem? (i := 1) rfl) dL_isDone_13 ?_
  refine h_callS (pc := 15) (As := [.ref (ad 11), .int (x2 + 1), .int 60000]) (rest := []) (st2 := .int 18 :: []) C Z (g_L_part_x1_60000 hX0 D cT ad (x2 + 1) h1.1 h1.2) (va_cwS 3 C.1.2.2.2.2 gL_isDone_L_part rfl rfl rfl ps_L_part ⟨Nat.le_of_ble_eq_true rfl, Nat.le_of_ble_eq_true rfl⟩) dL_isDone_15 rfl rfl (Nat.le_of_ble_eq_true rfl) ⟨Nat.le_of_ble_eq_true rfl, Nat.le_of_ble_eq_true rfl⟩ [11] [0, 1, 2, 3, 4, 5, 6, 7, 8, 9, 10] [0, 1, 2, 3, 4, 5, 6, 7, 8, 9, 10, 11] rfl rfl rfl rfl (by decide) rfl rfl rfl ?_
  refine h_istore (pc := 18) (lv' := [(5, .int 18), (4, .int 18), (0, .ref (ad 0)), (1, .ref (ad 11)), (2, .int x2), (3, .ref (ad 10))]) C dL_isDone_18 (by decide) rfl ?_
  refine h_aload_n (pc := 20) C dL_isDone_20 rfl 3 rfl ?_
  refine h_iload_n (pc := 21) C dL_isDone_21 rfl 4 rfl ?_
  refine h_iconst (pc := 22) (v := 2) C dL_isDone_22 (by decide) ?_
  refine h_iadd (pc := 23) C dL_isDone_23 ?_
  refine h_sipush (pc := 24) (v := 7000) C dL_isDone_24 (by decide) ?_
  refine h_callS (pc := 27) (As := [.ref (ad 11), .int (x2 + 2), .int 7000]) (rest := []) (st2 := .int 18 :: []) C Z (g_L_part_x1_7000 hX0 D cT ad (x2 + 2) h2.1 h2.2) (va_cwS 3 C.1.2.2.2.2 gL_isDone_L_part rfl rfl rfl ps_L_part ⟨Nat.le_of_ble_eq_true rfl, Nat.le_of_ble_eq_true rfl⟩) dL_isDone_27 rfl rfl (Nat.le_of_ble_eq_true rfl) ⟨Nat.le_of_ble_eq_true rfl, Nat.le_of_ble_eq_true rfl⟩ [11] [0, 1, 2, 3, 4, 5, 6, 7, 8, 9, 10] [0, 1, 2, 3, 4, 5, 6, 7, 8, 9, 10, 11] rfl rfl rfl rfl (by decide) rfl rfl rfl ?_
  refine h_istore (pc := 30) (lv' := [(6, .int 18), (5, .int 18), (4, .int 18), (0, .ref (ad 0)), (1, .ref (ad 11)), (2, .int x2), (3, .ref (ad 10))]) C dL_isDone_30 (by decide) rfl ?_
  refine h_aload_n (pc := 32) C dL_isDone_32 rfl 4 rfl ?_
  refine h_iload_n (pc := 33) C dL_isDone_33 rfl 5 rfl ?_
  refine h_iconst (pc := 34) (v := 3) C dL_isDone_34 (by decide) ?_
  refine h_iadd (pc := 35) C dL_isDone_35 ?_
  refine h_sipush (pc := 36) (v := 8000) C dL_isDone_36 (by decide) ?_
  refine h_callS (pc := 39) (As := [.ref (ad 11), .int (x2 + 3), .int 8000]) (rest := []) (st2 := .int 18 :: []) C Z (g_L_part_x1_8000 hX0 D cT ad (x2 + 3) h3.1 h3.2) (va_cwS 3 C.1.2.2.2.2 gL_isDone_L_part rfl rfl rfl ps_L_part ⟨Nat.le_of_ble_eq_true rfl, Nat.le_of_ble_eq_true rfl⟩) dL_isDone_39 rfl rfl (Nat.le_of_ble_eq_true rfl) ⟨Nat.le_of_ble_eq_true rfl, Nat.le_of_ble_eq_true rfl⟩ [11] [0, 1, 2, 3, 4, 5, 6, 7, 8, 9, 10] [0, 1, 2, 3, 4, 5, 6, 7, 8, 9, 10, 11] rfl rfl rfl rfl (by decide) rfl rfl rfl ?_
  refine h_istore (pc := 42) (lv' := [(7, .int 18), (6, .int 18), (5, .int 18), (4, .int 18), (0, .ref (ad 0)), (1, .ref (ad 11)), (2, .int x2), (3, .ref (ad 10))]) C dL_isDone_42 (by decide) rfl ?_
  refine h_iload (pc := 44) C dL_isDone_44 3 rfl ?_
  refine h_bipush (pc := 46) (v := 9) C dL_isDone_46 (by decide) ?_
  refine h_icmp_ge (pc := 48) (tgt := 100) C dL_isDone_48 (by decide) (fun _ => ?_) (fun q => absurd (by decide) q)
  refine h_iload (pc := 100) C dL_isDone_100 3 rfl ?_
  refine h_bipush (pc := 102) (v := 13) C dL_isDone_102 (by decide) ?_
  refine h_icmp_ge (pc := 104) (tgt := 222) C dL_isDone_104 (by decide) (fun _ => ?_) (fun q => absurd (by decide) q)
  refine h_iload (pc := 222) C dL_isDone_222 3 rfl ?_
  refine h_bipush (pc := 224) (v := 13) C dL_isDone_224 (by decide) ?_
  refine h_icmp_ne (pc := 226) (tgt := 278) C dL_isDone_226 (by decide) (fun _ => ?_) (fun q => absurd q (by decide))
  refine h_iload (pc := 278) C dL_isDone_278 2 rfl ?_
  refine h_sipush (pc := 280) (v := 256) C dL_isDone_280 (by decide) ?_
  refine h_irem (pc := 283) C dL_isDone_283 (by decide) ?_
  refine h_eq (v := 18) (by decide) ?_
  refine h_istore (pc := 284) (lv' := [(8, .int 18), (7, .int 18), (6, .int 18), (5, .int 18), (4, .int 18), (0, .ref (ad 0)), (1, .ref (ad 11)), (2, .int x2), (3, .ref (ad 10))]) C dL_isDone_284 (by decide) rfl ?_
  refine h_iload (pc := 286) C dL_isDone_286 2 rfl ?_
  refine h_sipush (pc := 288) (v := 256) C dL_isDone_288 (by decide) ?_
  refine h_irem (pc := 291) C dL_isDone_291 (by decide) ?_
  refine h_eq (v := 18) (by decide) ?_
  refine h_istore (pc := 292) (lv' := [(9, .int 18), (8, .int 18), (7, .int 18), (6, .int 18), (5, .int 18), (4, .int 18), (0, .ref (ad 0)), (1, .ref (ad 11)), (2, .int x2), (3, .ref (ad 10))]) C dL_isDone_292 (by decide) rfl ?_
  refine h_iload (pc := 294) C dL_isDone_294 1 rfl ?_
  refine h_iload (pc := 296) C dL_isDone_296 2 rfl ?_
  refine h_sipush (pc := 298) (v := 256) C dL_isDone_298 (by decide) ?_
  refine h_iload (pc := 301) C dL_isDone_301 1 rfl ?_
  refine h_isub (pc := 303) C dL_isDone_303 ?_
  refine h_eq (v := 238) (by decide) ?_
  refine h_irem (pc := 304) C dL_isDone_304 (by decide) ?_
  refine h_eq (v := 18) (by decide) ?_
  refine h_iadd (pc := 305) C dL_isDone_305 ?_
  refine h_eq (v := 36) (by decide) ?_
  refine h_istore (pc := 306) (lv' := [(10, .int 36), (9, .int 18), (8, .int 18), (7, .int 18), (6, .int 18), (5, .int 18), (4, .int 18), (0, .ref (ad 0)), (1, .ref (ad 11)), (2, .int x2), (3, .ref (ad 10))]) C dL_isDone_306 (by decide) rfl ?_
  refine h_iload (pc := 308) C dL_isDone_308 1 rfl ?_
  refine h_iload (pc := 310) C dL_isDone_310 5 rfl ?_
  refine h_sipush (pc := 312) (v := 256) C dL_isDone_312 (by decide) ?_
  refine h_idiv (pc := 315) C dL_isDone_315 (by decide) ?_
  refine h_eq (v := 0) (by decide) ?_
  refine h_sipush (pc := 316) (v := 256) C dL_isDone_316 (by decide) ?_
  refine h_iload (pc := 319) C dL_isDone_319 1 rfl ?_
  refine h_isub (pc := 321) C dL_isDone_321 ?_
  refine h_eq (v := 238) (by decide) ?_
  refine h_irem (pc := 322) C dL_isDone_322 (by decide) ?_
  refine h_eq (v := 0) (by decide) ?_
  refine h_iadd (pc := 323) C dL_isDone_323 ?_
  refine h_eq (v := 18) (by decide) ?_
  refine h_istore (pc := 324) (lv' := [(11, .int 18), (10, .int 36), (9, .int 18), (8, .int 18), (7, .int 18), (6, .int 18), (5, .int 18), (4, .int 18), (0, .ref (ad 0)), (1, .ref (ad 11)), (2, .int x2), (3, .ref (ad 10))]) C dL_isDone_324 (by decide) rfl ?_
  refine h_iload (pc := 326) C dL_isDone_326 7 rfl ?_
  refine h_bipush (pc := 328) (v := 16) C dL_isDone_328 (by decide) ?_
  refine h_icmp_ge (pc := 330) (tgt := 397) C dL_isDone_330 (by decide) (fun _ => ?_) (fun q => absurd (by decide) q)
  refine h_iload (pc := 397) C dL_isDone_397 7 rfl ?_
  refine h_bipush (pc := 399) (v := 18) C dL_isDone_399 (by decide) ?_
  refine h_icmp_ge (pc := 401) (tgt := 414) C dL_isDone_401 (by decide) (fun _ => ?_) (fun q => absurd (by decide) q)
  refine h_iload (pc := 414) C dL_isDone_414 7 rfl ?_
  refine h_bipush (pc := 416) (v := 18) C dL_isDone_416 (by decide) ?_
  refine h_icmp_ne (pc := 418) (tgt := 429) C dL_isDone_418 (by decide) (fun q => absurd (by decide) q) (fun _ => ?_)
  refine h_aload_n (pc := 421) C dL_isDone_421 rfl 8 rfl ?_
  refine h_aload_n (pc := 422) C dL_isDone_422 rfl 11 rfl ?_
  refine h_callS (pc := 423) (As := [.ref (ad 0), .ref (ad 10)]) (rest := []) (st2 := .int 1 :: []) C Z (g_L_arePairs hX0 D cT ad) (va_cwS 2 C.1.2.2.2.2 gL_isDone_L_arePairs rfl rfl rfl ps_L_arePairs ⟨Nat.le_of_ble_eq_true rfl, Nat.le_of_ble_eq_true rfl⟩) dL_isDone_423 rfl rfl (Nat.le_of_ble_eq_true rfl) ⟨Nat.le_of_ble_eq_true rfl, Nat.le_of_ble_eq_true rfl⟩ [0, 1, 2, 3, 4, 5, 6, 7, 8, 9, 10] [11] [1, 2, 3, 4, 5, 6, 7, 8, 9, 10, 11, 0] rfl rfl rfl rfl (by decide) rfl rfl rfl ?_
  refine h_goto (pc := 426) (tgt := 437) C dL_isDone_426 (by decide) ?_
  refine h_widen (k := 2) (n := 12) (Nat.le_of_ble_eq_true rfl) (Nat.le_of_ble_eq_true rfl) ?_
  refine h_less (G1 := 2) (Nat.le_of_ble_eq_true rfl) ?_
  exact h_zret C hr rfl dL_isDone_437
end
section
/-! laid by wip/p24/law24.py: the law on a script of 18s: each round is a question for the pairs of an empty tree, and two calls of it are refused -/
abbrev R2 : Room := { frames := 13, cells := 500, slots := 4000, locals := 528 }
theorem h_wsub {p : Program} {l : Launch} {e : Env} {R : Room} {s : State} {m : MethodId} {args : Array Value} {below : List Frame} {meth : Method} {c : Code} {cells slots G nL : Nat} {Q : State → Prop} {D : va_G} {A : Nat → Prop} {pc : Nat} {lv : List (Nat × Value)} {st : List Value} {ws ws' : va_W} (is : List Nat) (hin : va_nd is = true) (his : is.map (fun i => ws[i]?) = ws'.map some) (kk : hK G p l e R s m args below meth c nL D A cells slots Q pc lv st ws') : hK G p l e R s m args below meth c nL D A cells slots Q pc lv st ws :=
  fun H locs ls hP hD hS hG hl => kk H locs ls (h_psub his hP) (hD.sub is hin his) hS hG hl
set_option maxRecDepth 100000 in
theorem k_facts : ∀ k : Nat, k < 64 → ¬ 64 ≤ nI k ∧ pAt (4 * nI k) ∧ pAt (4 * nI k + 1) ∧ pAt (4 * nI k + 2) ∧ pAt (4 * nI k + 3) ∧ nI k + Int32.ofInt 1 = nI (k + 1) := by
  unfold pAt vp_in
  decide +kernel
set_option maxRecDepth 100000 in
set_option maxHeartbeats 4000000 in
theorem k_loop {p : Program} {l : Launch} {e : Env} {s : State} {m : MethodId} {args : Array Value} {below : List Frame} {meth : Method} {c : Code} {A : Nat → Prop} (hX0 : l.stackTraces = false) (D : va_G) (cT : Nat → ClassId) (ad : Nat → Nat) (C : hC p s m args meth c code 5 wsL_law RL D (ty2 cT) A) (Z : xZ A s s.heap) : ∀ d k CE SL : Nat, k + d = 55 → CE ≤ 20 + 7 * k → SL ≤ 1000 + 42 * k → hK (2 * k) p l e R2 s m args below meth c 5 D A CE SL (fun t => s.heap.size + 110 ≤ t.heap.size) 37 [(0, .ref (ad 11)), (1, .ref (ad 0)), (2, .ref (ad 10)), (3, .int 1), (4, .int (nI k))] [] (wN cT ad) := by
  intro d
  induction d with
  | zero => intro k CE SL h1 h2 h3; exact h_stop (by omega)
  | succ d ih =>
  intro k CE SL h1 h2 h3
  obtain ⟨hk64, p0, p1, p2, p3, hk1⟩ := k_facts k (by omega)
  refine h_iload (pc := 37) C dL_law_37 4 rfl ?_
  refine h_bipush (pc := 39) (v := 64) C dL_law_39 (by decide) ?_
  refine h_icmp_ge (pc := 41) (tgt := 89) C dL_law_41 (by decide) (fun q => absurd q hk64) (fun _ => ?_)
  refine h_iload_n (pc := 44) C dL_law_44 rfl 3 rfl ?_
  refine h_if_eq (pc := 45) (tgt := 89) C dL_law_45 (by decide) (fun q => absurd q (by decide)) (fun _ => ?_)
  refine h_aload_n (pc := 48) C dL_law_48 rfl 1 rfl ?_
  refine h_aload_n (pc := 49) C dL_law_49 rfl 0 rfl ?_
  refine h_iconst (pc := 50) (v := 4) C dL_law_50 (by decide) ?_
  refine h_iload (pc := 51) C dL_law_51 4 rfl ?_
  refine h_imul (pc := 53) C dL_law_53 ?_
  refine h_aload_n (pc := 54) C dL_law_54 rfl 2 rfl ?_
  refine h_callS (pc := 55) (As := [.ref (ad 0), .ref (ad 11), .int (4 * (nI k)), .ref (ad 10)]) (rest := []) (st2 := .int 1 :: []) C Z (g_L_isDone_x2 hX0 D cT ad (4 * nI k) p0 p1 p2 p3) (va_cwS 4 C.1.2.2.2.2 gL_law_L_isDone rfl rfl rfl ps_L_isDone ⟨Nat.le_of_ble_eq_true rfl, Nat.le_of_ble_eq_true rfl⟩) dL_law_55 rfl rfl (Nat.le_of_ble_eq_true rfl) ⟨by show CE + 2 ≤ 500; omega, by show SL + 12 ≤ 4000; omega⟩ [0, 1, 2, 3, 4, 5, 6, 7, 8, 9, 10, 11] [] [0, 1, 2, 3, 4, 5, 6, 7, 8, 9, 10, 11] rfl rfl rfl rfl (by decide) rfl rfl rfl ?_
  refine h_if_eq (pc := 58) (tgt := 81) C dL_law_58 (by decide) (fun q => absurd q (by decide)) (fun _ => ?_)
  refine h_iload (pc := 61) C dL_law_61 4 rfl ?_
  refine h_iconst (pc := 63) (v := 4) C dL_law_63 (by decide) ?_
  refine h_irem (pc := 64) C dL_law_64 (by decide) ?_
  refine h_iconst (pc := 65) (v := 3) C dL_law_65 (by decide) ?_
  refine h_icmp_lt (pc := 66) (tgt := 77) C dL_law_66 (by decide) (fun _ => ?_) (fun _ => ?_)
  · skip
    refine h_iconst (pc := 77) (v := 1) C dL_law_77 (by decide) ?_
    refine h_goto (pc := 78) (tgt := 82) C dL_law_78 (by decide) ?_
    refine h_istore_n (pc := 82) (lv' := [(3, .int 1), (0, .ref (ad 11)), (1, .ref (ad 0)), (2, .ref (ad 10)), (4, .int (nI k))]) C dL_law_82 rfl (by decide) rfl ?_
    refine h_iinc (pc := 83) (v := nI (k + 1)) (lv' := [(4, .int (nI (k + 1))), (3, .int 1), (0, .ref (ad 11)), (1, .ref (ad 0)), (2, .ref (ad 10))]) C dL_law_83 4 rfl hk1 (by decide) rfl ?_
    refine h_goto (pc := 86) (tgt := 37) C dL_law_86 (by decide) ?_
    refine h_sub [2, 3, 4, 1, 0] rfl ?_
    refine h_less (G1 := 2 * (k + 1)) (by omega) ?_
    exact ih (k + 1) _ _ (by omega) (by show CE + 2 ≤ 20 + 7 * (k + 1); omega) (by show SL + 12 ≤ 1000 + 42 * (k + 1); omega)
  · skip
    refine h_aload_n (pc := 69) C dL_law_69 rfl 1 rfl ?_
    refine h_aload_n (pc := 70) C dL_law_70 rfl 2 rfl ?_
    refine h_callS (pc := 71) (As := [.ref (ad 0), .ref (ad 10)]) (rest := []) (st2 := .int 1 :: []) C Z (g_L_areAll hX0 D cT ad) (va_cwS 2 C.1.2.2.2.2 gL_law_L_areAll rfl rfl rfl ps_L_areAll ⟨Nat.le_of_ble_eq_true rfl, Nat.le_of_ble_eq_true rfl⟩) dL_law_71 rfl rfl (Nat.le_of_ble_eq_true rfl) ⟨by show CE + 7 ≤ 500; omega, by show SL + 42 ≤ 4000; omega⟩ [0, 1, 2, 3, 4, 5, 6, 7, 8, 9, 10] [11] [1, 2, 3, 4, 5, 6, 7, 8, 9, 10, 11, 0] rfl rfl rfl rfl (by decide) rfl rfl rfl ?_
    refine h_if_eq (pc := 74) (tgt := 81) C dL_law_74 (by decide) (fun q => absurd q (by decide)) (fun _ => ?_)
    refine h_iconst (pc := 77) (v := 1) C dL_law_77 (by decide) ?_
    refine h_goto (pc := 78) (tgt := 82) C dL_law_78 (by decide) ?_
    refine h_istore_n (pc := 82) (lv' := [(3, .int 1), (0, .ref (ad 11)), (1, .ref (ad 0)), (2, .ref (ad 10)), (4, .int (nI k))]) C dL_law_82 rfl (by decide) rfl ?_
    refine h_iinc (pc := 83) (v := nI (k + 1)) (lv' := [(4, .int (nI (k + 1))), (3, .int 1), (0, .ref (ad 11)), (1, .ref (ad 0)), (2, .ref (ad 10))]) C dL_law_83 4 rfl hk1 (by decide) rfl ?_
    refine h_goto (pc := 86) (tgt := 37) C dL_law_86 (by decide) ?_
    refine h_sub [2, 3, 4, 1, 0] rfl ?_
    refine h_less (G1 := 2 * (k + 1)) (by omega) ?_
    exact ih (k + 1) _ _ (by omega) (by show CE + 7 ≤ 20 + 7 * (k + 1); omega) (by show SL + 42 ≤ 1000 + 42 * (k + 1); omega)
set_option maxRecDepth 100000 in
set_option maxHeartbeats 4000000 in
theorem k_entry {p : Program} {l : Launch} {e : Env} {s : State} {m : MethodId} {args : Array Value} {below : List Frame} {meth : Method} {c : Code} {A : Nat → Prop} (hX0 : l.stackTraces = false) (D : va_G) (cT : Nat → ClassId) (ad : Nat → Nat) (C : hC p s m args meth c code 5 wsL_law RL D (ty2 cT) A) (Z : xZ A s s.heap) : hK 0 p l e R2 s m args below meth c 5 D A 11 922 (fun t => s.heap.size + 110 ≤ t.heap.size) 12 [(2, .ref (ad 10)), (1, .ref (ad 0)), (0, .ref (ad 11))] [] (wN cT ad) := by
  refine h_aload_n (pc := 12) C dL_law_12 rfl 1 rfl ?_
  refine h_aload_n (pc := 13) C dL_law_13 rfl 0 rfl ?_
  refine h_callS (pc := 14) (As := [.ref (ad 0), .ref (ad 10)]) (rest := []) (st2 := .int 1 :: []) C Z (g_L_areAll hX0 D cT ad) (va_cwS 2 C.1.2.2.2.2 gL_law_L_areAll rfl rfl rfl ps_L_areAll ⟨Nat.le_of_ble_eq_true rfl, Nat.le_of_ble_eq_true rfl⟩) dL_law_14 rfl rfl (Nat.le_of_ble_eq_true rfl) ⟨Nat.le_of_ble_eq_true rfl, Nat.le_of_ble_eq_true rfl⟩ [0, 1, 2, 3, 4, 5, 6, 7, 8, 9, 10] [11] [1, 2, 3, 4, 5, 6, 7, 8, 9, 10, 11, 0] rfl rfl rfl rfl (by decide) rfl rfl rfl ?_
  refine h_if_eq (pc := 17) (tgt := 32) C dL_law_17 (by decide) (fun q => absurd q (by decide)) (fun _ => ?_)
  refine h_aload_n (pc := 20) C dL_law_20 rfl 1 rfl ?_
  refine h_aload_n (pc := 21) C dL_law_21 rfl 0 rfl ?_
  refine h_callS (pc := 22) (As := [.ref (ad 0), .ref (ad 10)]) (rest := []) (st2 := .int 1 :: []) C Z (g_L_arePairs hX0 D cT ad) (va_cwS 2 C.1.2.2.2.2 gL_law_L_arePairs rfl rfl rfl ps_L_arePairs ⟨Nat.le_of_ble_eq_true rfl, Nat.le_of_ble_eq_true rfl⟩) dL_law_22 rfl rfl (Nat.le_of_ble_eq_true rfl) ⟨Nat.le_of_ble_eq_true rfl, Nat.le_of_ble_eq_true rfl⟩ [0, 1, 2, 3, 4, 5, 6, 7, 8, 9, 10] [11] [1, 2, 3, 4, 5, 6, 7, 8, 9, 10, 11, 0] rfl rfl rfl rfl (by decide) rfl rfl rfl ?_
  refine h_if_eq (pc := 25) (tgt := 32) C dL_law_25 (by decide) (fun q => absurd q (by decide)) (fun _ => ?_)
  refine h_iconst (pc := 28) (v := 1) C dL_law_28 (by decide) ?_
  refine h_goto (pc := 29) (tgt := 33) C dL_law_29 (by decide) ?_
  refine h_istore_n (pc := 33) (lv' := [(3, .int 1), (2, .ref (ad 10)), (1, .ref (ad 0)), (0, .ref (ad 11))]) C dL_law_33 rfl (by decide) rfl ?_
  refine h_iconst (pc := 34) (v := 0) C dL_law_34 (by decide) ?_
  refine h_istore (pc := 35) (lv' := [(4, .int 0), (3, .int 1), (2, .ref (ad 10)), (1, .ref (ad 0)), (0, .ref (ad 11))]) C dL_law_35 (by decide) rfl ?_
  refine h_sub [4, 3, 2, 1, 0] rfl ?_
  refine h_less (G1 := 2 * 0) (Nat.zero_le _) ?_
  exact k_loop hX0 D cT ad C Z 55 0 _ _ rfl (Nat.le_of_ble_eq_true rfl) (Nat.le_of_ble_eq_true rfl)
set_option maxRecDepth 100000 in
set_option maxHeartbeats 4000000 in
theorem k_start {p : Program} {l : Launch} {e : Env} {s : State} {m : MethodId} {args : Array Value} {below : List Frame} {meth : Method} {c : Code} {A : Nat → Prop} {b : Nat} (hX0 : l.stackTraces = false) (D : va_G) (cT : Nat → ClassId) (C : hC p s m args meth c code 5 wsL_law RL D (ty2 cT) A) (Z : xZ A s s.heap) (hN : nW s) : hK 0 p l e R2 s m args below meth c 5 D A 0 0 (fun t => s.heap.size + 110 ≤ t.heap.size) 0 [(0, .ref b)] [] (wP cT (fun _ => b)) := by
  refine h_new (pc := 0) (C0 := RX4) (T := TX4) (N := 3) (ci := 2) (fs := [.null, .null, .null]) C inlX4 tyX4 tyX4_ok (List.mem_of_getElem? (i := 0) rfl) (List.mem_of_getElem? (i := 1) rfl) (List.mem_of_getElem? (i := 2) rfl) rfl (fun j hj => by rcases (show j = 0 ∨ j = 1 ∨ j = 2 by omega) with rfl | rfl | rfl <;> rfl) ⟨Nat.le_of_ble_eq_true rfl, Nat.le_of_ble_eq_true rfl⟩ dL_law_0 (fun x0 => ?_)
  refine h_dup (pc := 3) C dL_law_3 rfl ?_
  refine h_callI (pc := 4) (As := []) (rest := [.ref x0]) (ws' := fun qs => (b, .inl (cT 0, 256, .inl j18)) :: wX cT (adx x0 qs)) C hN (c_X4_init l D cT x0) (cwI 0 C.1.2.2.2.2 gL_law_X4_init rfl rfl rfl (C.1.2.2.2.2 _ (List.mem_of_getElem? (i := 2) rfl)) (C.1.2.2.2.2 _ (List.mem_of_getElem? (i := 4) rfl)) (C.1.2.2.2.2 _ (List.mem_of_getElem? (i := 5) rfl)) rfl (by decide +kernel) ⟨Nat.le_of_ble_eq_true rfl, Nat.le_of_ble_eq_true rfl⟩) dL_law_4 rfl rfl (Nat.le_of_ble_eq_true rfl) ⟨Nat.le_of_ble_eq_true rfl, Nat.le_of_ble_eq_true rfl⟩ [1] [0] [0, 1, 2, 3, 4, 5, 6, 7, 8, 9, 10] rfl rfl rfl rfl (by decide) rfl (fun _ => rfl) (fun qx => ?_)
  refine h_astore_n (pc := 7) (lv' := [(1, .ref x0), (0, .ref b)]) C dL_law_7 rfl (by decide) rfl ?_
  refine h_iconst (pc := 8) (v := 2) C dL_law_8 (by decide) ?_
  refine h_newa (pc := 9) (ty := .int) (cA := cT 0) (N' := 2) (a0 := (2, .inl j0)) C rfl (List.mem_of_getElem? (i := 3) rfl) raI 0 rfl (fun _ => rfl) (by decide) (by decide) (by decide) ⟨Nat.le_of_ble_eq_true rfl, Nat.le_of_ble_eq_true rfl⟩ dL_law_9 (fun g0 => ?_)
  refine h_astore_n (pc := 11) (lv' := [(2, .ref g0), (1, .ref x0), (0, .ref b)]) C dL_law_11 rfl (by decide) rfl ?_
  obtain ⟨ad, ha⟩ : ∃ ad : Nat → Nat, ad = fun k => [x0, qx 0, qx 1, qx 2, qx 3, qx 4, qx 5, qx 6, qx 7, qx 8, g0, b].getD k 0 := ⟨_, rfl⟩
  have K := k_entry (below := below) (e := e) hX0 D cT ad C Z
  subst ha
  exact h_wsub (ws' := wN cT (fun k => [x0, qx 0, qx 1, qx 2, qx 3, qx 4, qx 5, qx 6, qx 7, qx 8, g0, b].getD k 0)) [1, 2, 3, 4, 5, 6, 7, 8, 9, 10, 11, 0] rfl rfl K
end
section
/-! what the start's tables give: the classes, the arrays, the texts; the run from the start -/
theorem st_arr {s : State} {args : Array Value} {ty : FieldType} (h : (Cond.arrayClass ty).before args s = true) : ∃ cA : ClassId, ArrOfT s cA ty ∧ s.vm.findClass ("[" ++ ty.toString) = some cA := by
  obtain ⟨cA, kA, comp, h1, h2, h3⟩ := Cond.arrayClass_spec h
  exact ⟨cA, fun n z => ⟨fun k h => (by cases h), kA, h2, comp, h3⟩, h1⟩
theorem st_str {s : State} {args : Array Value} {i : Nat} {tx : String} (h1 : (Cond.stringRef RX4 i tx).before args s = true) (h2 : (Cond.exactly (Term.string RX4 i) "java/lang/String").before args s = true) : ∃ sa, vk_R RX4 i tx sa s := by
  obtain ⟨a, c, cell, k, h3, -⟩ := Cond.exactly_spec h2
  exact ⟨a, vk_R.of h1 h3⟩
/-- the script's own cell may be said to be free too: it is no cell of statics -/
theorem zq_more {C n d : String} {A : Nat → Prop} {U : State} {H : Heap} {b : Nat} (hb : ∀ cell, H[b]? = some cell → cell.vm.isStatics = false) (h : vx_Zq C n d A U H) : vx_Zq C n d (fun q => A q ∨ q = b) U H := by
  have no : ∀ {a : Nat} {cell : Cell}, H[a]? = some cell → cell.vm.isStatics = true → ¬ A a → ¬ (A a ∨ a = b) := by
    intro a cell h1 h2 h3 h4
    rcases h4 with h4 | h4
    · exact h3 h4
    · subst h4
      rw [hb cell h1] at h2
      cases h2
  have z : ∀ v, va_Z C n d v A U H → va_Z C n d v (fun q => A q ∨ q = b) U H := by
    intro v hv
    obtain ⟨cf, kf, fi, f, a, ce, h1, h2, h3, h4, h5, h6, h7, h8⟩ := hv
    exact ⟨cf, kf, fi, f, a, ce, h1, h2, h3, h4, h5, h6, h7, no h5 h6 h8⟩
  obtain ⟨hz, c, k, i, f, a, ce, h1, h2, h3, h4, h5, h6, h7, h8, h9, h10⟩ := h
  refine ⟨?_, c, k, i, f, a, ce, h1, h2, h3, h4, h5, h6, h7, h8, h9, no h5 h6 h10⟩
  rcases hz with hz | ⟨t, hz⟩
  · exact Or.inl (z _ hz)
  · exact Or.inr ⟨t, z _ hz⟩
set_option maxRecDepth 100000 in
set_option maxHeartbeats 4000000 in
theorem st_words {s : State} {b : Nat} (hts : ∀ w ∈ lw_tbl, w.before #[Value.ref b] s = true) (hgv : (Jvm.Cond.and given_1 narrow_1).before #[Value.ref b] s = true) (hb : ∀ cell, s.heap[b]? = some cell → cell.vm.isStatics = false) : xZ (fun q : Nat => s.heap.size ≤ q ∨ q = b) s s.heap := by
  have hs := flat_of_before _ hgv
  have hA : ∀ a : Nat, a < s.heap.size → ¬ (fun q : Nat => s.heap.size ≤ q) a := fun a h => Nat.not_le.mpr h
  refine ⟨zq_more hb (vx_Zqof (hts (.laysStatic Bundle.tN "UNASSIGNED_STACK" Bundle.steD) (by decide +kernel)) (hts (.initialized Bundle.tN) (by decide +kernel)) (hs (.isRef (.static Bundle.tN "UNASSIGNED_STACK" Bundle.steD)) (by decide +kernel)) hA),
    zq_more hb (vx_Zqof (hts (.laysStatic Bundle.tN "SUPPRESSED_SENTINEL" Bundle.listD) (by decide +kernel)) (hts (.initialized Bundle.tN) (by decide +kernel)) (hs (.isRef (.static Bundle.tN "SUPPRESSED_SENTINEL" Bundle.listD)) (by decide +kernel)) hA), ?_, ?_, ?_, ?_⟩
  · have h : ∀ y ∈ xDc, Cond.declares y ∈ lw_tbl := by decide +kernel
    exact fun y hy => va_Nw.of rfl (hts _ (h y hy))
  · have h : ∀ E ∈ xCs, Cond.castable E E ∈ lw_tbl := by decide +kernel
    exact fun E hE => va_Nw.of rfl (hts _ (h E hE))
  · exact ⟨va_Nc.of (hs (.not (.castable xISE xIAE)) (by decide +kernel)), va_Nc.of (hs (.not (.castable xIOE xIAE)) (by decide +kernel))⟩
  · have h1 : ∀ q ∈ xStr, Cond.stringRef RX4 q.1 q.2 ∈ lw_tbl := by decide +kernel
    have h2 : ∀ q ∈ xStr, Cond.exactly (Term.string RX4 q.1) "java/lang/String" ∈ flatC (Jvm.Cond.and given_1 narrow_1) := by decide +kernel
    exact fun q hq => st_str (hts _ (h1 q hq)) (hs _ (h2 q hq))
set_option maxRecDepth 100000 in
set_option maxHeartbeats 4000000 in
theorem st_known {s : State} {b : Nat} (hts : ∀ w ∈ lw_tbl, w.before #[Value.ref b] s = true) : ∃ (D : va_G) (cT : Nat → ClassId), va_K D vwCl (ty2 cT) s ∧ s.vm.findClass ("[" ++ FieldType.int.toString) = some (cT 0) := by
  obtain ⟨c0, i0, K0⟩ := u_known (C := RX2) (T := TX2) (N := 6) (n := 6) hts inX2 (hts (.instantiable RX2 6) (by decide +kernel))
  obtain ⟨c1, i1, K1⟩ := u_known (C := RX3) (T := TX3) (N := 3) (n := 3) hts inX3 (hts (.instantiable RX3 3) (by decide +kernel))
  obtain ⟨c2, i2, K2⟩ := u_known (C := RX4) (T := TX4) (N := 3) (n := 3) hts inX4 (hts (.instantiable RX4 3) (by decide +kernel))
  obtain ⟨a0, A0, B0⟩ := st_arr (hts (.arrayClass .int) (by decide +kernel))
  obtain ⟨a1, A1, B1⟩ := st_arr (hts (.arrayClass .boolean) (by decide +kernel))
  refine ⟨(fun k => if k = 0 then c0 else if k = 1 then c1 else c2, fun k => if k = 0 then i0 else if k = 1 then i1 else i2), fun k => if k = 0 then a0 else a1, ⟨?_, ?_⟩, B0⟩
  · intro k q hq
    match k, hq with
    | 0, hq => cases hq; exact K0
    | 1, hq => cases hq; exact K1
    | 2, hq => cases hq; exact K2
    | k + 3, hq => simp [vwCl] at hq
  · intro k q hq
    match k, hq with
    | 0, hq => cases hq; exact ⟨A0, B0⟩
    | 1, hq => cases hq; exact ⟨A1, B1⟩
    | k + 2, hq => simp at hq
set_option maxRecDepth 100000 in
set_option maxHeartbeats 4000000 in
/-- from the law's entry, with room for 500 new cells and the script of 18s at b: it comes to a state with 110 new cells at least -/
theorem law_start {p : Program} {e : Env} {s : State} {m : MethodId} {below : List Frame} {meth : Method} {c : Code} (l : Launch) (hflags : l.flags = flags0) {b : Nat} (hx : p.tables.exec = Jvm.exec) (hb : c.code = code) (hml : c.maxLocals = 5) (hown : s.vm.findClass RL = some m.cls) (hts : ∀ w ∈ lw_tbl, w.before #[Value.ref b] s = true) (hlocks : meth.locks = false) (hgv : (Jvm.Cond.and given_1 narrow_1).before #[Value.ref b] s = true)
    (hscr : ∀ cA, s.vm.findClass ("[" ++ FieldType.int.toString) = some cA → s.heap[b]? = some (vp_cell cA (256, .inl j18))) : W p l e R2 s m #[Value.ref b] below meth c s.heap [] 0 0 (fun t => s.heap.size + 110 ≤ t.heap.size) (entryFrame m ([Value.ref b] : List Value).toArray 5) := by
  have hX0 : l.stackTraces = false := by unfold Launch.stackTraces; rw [hflags]; decide +kernel
  obtain ⟨D, cT, hK, hc0⟩ := st_known hts
  have hcell := hscr _ hc0
  have Z := st_words hts hgv (fun cell h => by
    rw [hcell] at h
    cases h
    rfl)
  have C : hC p s m #[Value.ref b] meth c code 5 wsL_law RL D (ty2 cT) (fun q : Nat => s.heap.size ≤ q ∨ q = b) := ⟨⟨hx, hb, hml, hown, fun w h => hts w (wsL_law_in w h)⟩, hK, hlocks, fun _ h => Or.inl h⟩
  have hN : nW s := ⟨va_Nw.of rfl (hts (.methodLinkNest RX4 15 yX2_init "HilbertHutch") (by decide +kernel)), va_Nw.of rfl (hts (.methodLinkNest RX4 22 yX3_init "HilbertHutch") (by decide +kernel))⟩
  have go := k_start (below := below) (e := e) (b := b) hX0 D cT C Z hN
  have hl := lv_entry ([.ref b]) (n := 5) (Nat.le_of_ble_eq_true rfl)
  rw [lg_entry_eq]
  refine go s.heap [] _ (fun k q h => ?_) ⟨fun i j p q h1 h2 _ => ?_, fun k q h => ?_⟩ va_S.rf (Nat.le_refl _) hl
  · have hk : k < 1 := (List.getElem?_eq_some_iff.mp h).1
    rw [show k = 0 by omega] at h
    cases h
    exact hcell
  · have hi : i < 1 := (List.getElem?_eq_some_iff.mp h1).1
    have hj : j < 1 := (List.getElem?_eq_some_iff.mp h2).1
    omega
  · have hk : k < 1 := (List.getElem?_eq_some_iff.mp h).1
    rw [show k = 0 by omega] at h
    cases h
    exact Or.inr rfl
end
section
/-! the run from a start -/
set_option maxHeartbeats 4000000 in
theorem law_grows (l : Launch) (hflags : l.flags = flags0) {p : Program} {e : Env} (ha : l.admits e) (hc : FairCas e.choices) (hk : FairClock e.choices) {s : State} {m : MethodId} {below : List Frame} {b : Nat} (hf : s.frames = Frame.invoking m #[Value.ref b] :: below)
    (happ : (headSpec (Jvm.Cond.code x code maxLocals ret :: tables_1) R2).appliesLoose x e.platform s = true) (hgv : (Jvm.Cond.and given_1 narrow_1).before #[Value.ref b] s = true)
    (hscr : ∀ cA, s.vm.findClass ("[" ++ FieldType.int.toString) = some cA → s.heap[b]? = some (vp_cell cA (256, .inl j18))) : ∃ t, Steps p.tables e below s t ∧ s.heap.size + 110 ≤ t.heap.size := by
  refine Classical.byContradiction fun hno => ?_
  have M : MetFree l x (headSpec (Jvm.Cond.code x code maxLocals ret :: tables_1) R2) (fun a u => a = #[Value.ref b] ∧ (Jvm.Cond.and given_1 narrow_1).before #[Value.ref b] u = true ∧ ∀ cA, u.vm.findClass ("[" ++ FieldType.int.toString) = some cA → u.heap[b]? = some (vp_cell cA (256, .inl j18)))
      (fun p e below u _ => ¬ ∃ t, Steps p.tables e below u t ∧ u.heap.size + 110 ≤ t.heap.size) (fun _ _ _ _ => False) := by
    refine MetFree.of_bodyRF (code := code) (maxLocals := maxLocals) (ret := ret) (plainFor_of_name (by decide)) ?_ ?_
    · intro args s m h hn
      obtain ⟨meth, c, h1, h2, h3, h4, h5, h6, -, -⟩ := Cond.code_spec hn (atoms_spec (ws := Jvm.Cond.code x code maxLocals ret :: tables_1) h _ List.mem_cons_self)
      exact ⟨meth, c, h1, h2, h3, h4, h5, h6⟩
    · intro p e s m args below meth c s₁ B hml0 hP hno hst
      obtain ⟨rfl, hgv, hscr⟩ := hP
      have hts0 : ∀ w ∈ (Jvm.Cond.code x code maxLocals ret :: tables_1), w.before #[Value.ref b] s = true := atoms_spec (ws := Jvm.Cond.code x code maxLocals ret :: tables_1) B.pre
      have hts : ∀ w ∈ lw_tbl, w.before #[Value.ref b] s = true := k2_hts_sels lw_privs (fun w hw => hts0 w (List.mem_cons_of_mem _ hw)) lw_privs_ok
      have hh0 : s₁.heap = s.heap := by rw [B.state]; rfl
      obtain ⟨t, a1, b1⟩ := law_start l hflags B.exec B.bytes hml0 (findClass_of_methodNamed B.named) hts B.notSynchronized hgv hscr s₁ hh0 (Stand.of_body B)
      exact (hno ⟨t, hst.trans a1, b1⟩).elim
  obtain ⟨n, o, h1, h2, h3, h4⟩ := M p e ha hc hk s m #[Value.ref b] below hf happ ⟨rfl, hgv, hscr⟩ hno
  exact h4
/-- a state within a call hasn't ended it -/
theorem no_end {s : State} {below : List Frame} {o : Outcome} (hw : Within s below) (he : Ended s below o) : False := by
  obtain ⟨above, h1, h2, h3⟩ := hw
  have hl : ∀ fs : List Frame, s.frames = fs → fs.length = below.length → False := by
    intro fs e1 e2
    have e3 := congrArg List.length (e1.symm.trans h1)
    rw [List.length_append, e2] at e3
    cases above with
    | nil => exact h2 rfl
    | cons a r => simp at e3
  cases o with
  | threw a =>
    have e1 : s.frames = .throwing a :: below := he
    have e2 : above ++ below = [.throwing a] ++ below := by rw [← h1, e1]; rfl
    exact h3 a (List.append_cancel_right e2)
  | returned v =>
    cases below with
    | nil => exact hl _ he.2 rfl
    | cons g r =>
      cases g with
      | java g =>
        obtain ⟨c, i, len, -, -, e1⟩ := he
        exact hl _ e1 rfl
      | native g => exact hl _ he rfl
      | proc g => exact hl _ he rfl
      | _ => exact hl _ he.2 rfl
/-! the start: the witness's, with a script of 256 times 18 -/
def p24_scr : Array Value := ⟨List.replicate 256 (Value.int 18)⟩
def p24_s : State := start1.aboutOf p24_scr
theorem arr_rep (cI : ClassId) (N : Nat) (v : Value) : (arrV cI N (fun _ => v)).slots = ⟨List.replicate N v⟩ := by
  apply Array.ext
  · simp [arrV]
  · intro i h2 h3
    simp [arrV]
theorem p24_slots : (arrV 16 256 (fun j => .int (j18 j))).slots = p24_scr := arr_rep 16 256 (.int 18)
theorem arr_eta (cI : ClassId) (N : Nat) (f : Nat → Value) : ({ cls := cI, slots := (arrV cI N f).slots, vm := .none } : Cell) = arrV cI N f := rfl
theorem p24_cell : ∀ cA, p24_s.vm.findClass ("[" ++ FieldType.int.toString) = some cA → p24_s.heap[0]? = some (vp_cell cA (256, .inl j18)) := by
  intro cA h
  have h1 : p24_s.vm.findClass ("[" ++ FieldType.int.toString) = some 16 := by decide +kernel
  rw [h1] at h
  cases h
  have e1 : (arrV 16 256 (fun j => .int (j18 j))).slots = p24_scr := p24_slots
  show some ({ cls := 16, slots := p24_scr, vm := .none } : Cell) = some (arrV 16 256 (fun j => .int (j18 j)))
  rw [← e1]
  exact congrArg some (arr_eta 16 256 (fun j => .int (j18 j)))
set_option maxRecDepth 100000 in
theorem p24_rest : ((Jvm.Cond.code x code maxLocals ret :: tables_1).filter (fun c => !c.onTables)).all (fun c => c.before start1.args0 p24_s) = true := by decide +kernel
theorem p24_words : ∀ c ∈ (Jvm.Cond.code x code maxLocals ret :: tables_1), c.before start1.args0 p24_s = true := by
  intro c hc
  cases ht : c.onTables with
  | true => exact va_tabs ht (u := start1.about) rfl (start1.words c hc)
  | false => exact List.all_eq_true.mp p24_rest c (List.mem_filter.mpr ⟨hc, by rw [ht]; rfl⟩)
set_option maxRecDepth 100000 in
theorem p24_pre : (Jvm.Cond.and given_1 narrow_1).before start1.args0 p24_s = true := by decide +kernel
set_option maxRecDepth 100000 in
theorem p24_ints : rest_1_c.before start1.args0 p24_s = true := by decide +kernel
set_option maxRecDepth 100000 in
theorem p24_fits : argsFit p24_s.vm ⟨0, 0⟩ start1.args0 = true ∧ heapFits p24_s = true := ⟨by decide +kernel, by decide +kernel⟩
set_option maxRecDepth 100000 in
theorem p24_app (R : Room) (hR : R.frames ≤ 13 ∧ R.cells ≤ 500 ∧ R.slots ≤ 4000 ∧ R.locals ≤ 528) : (headSpec (Jvm.Cond.code x code maxLocals ret :: tables_1) R).applies x start1.e0.platform p24_s = true := by
  refine (Spec.applies_iff (m := ⟨0, 0⟩) (args := start1.args0) (below := Lib.HandBits.below0) rfl).mpr ⟨rfl, rfl, rfl, by decide +kernel, by decide +kernel, by decide +kernel, launch0.hasRoom_least _ R ?_ ?_ ?_ ?_ (by decide +kernel) (by decide +kernel) ?_, atoms_intro p24_words⟩
  · exact Nat.le_trans (Nat.add_le_add_left hR.1 _) (by decide +kernel)
  · exact Nat.le_trans (Nat.add_le_add_left hR.2.1 _) (by decide +kernel)
  · exact Nat.le_trans (Nat.add_le_add_left hR.2.2.1 _) (by decide +kernel)
  · exact Nat.le_trans (Nat.add_le_add_left hR.2.2.2 _) (by decide +kernel)
  · exact Nat.le_trans (Nat.add_le_add_right (Nat.add_le_add_left hR.2.2.2 _) _) (by decide +kernel)
/-- THE REFUTATION: on this start, whatever state the law's run ends in, it holds more new cells than the claim lets it make -/
theorem p24_over {n : Nat} {o : Outcome} (hw : ∀ k, k < n → Within (stepsAlone start1.p0.tables start1.e0 k p24_s) Lib.HandBits.below0) (he : Ended (stepsAlone start1.p0.tables start1.e0 n p24_s) Lib.HandBits.below0 o) : p24_s.heap.size + 110 ≤ (stepsAlone start1.p0.tables start1.e0 n p24_s).heap.size := by
  have happ := ((Spec.applies_iff_loose (m := ⟨0, 0⟩) (args := start1.args0) (below := Lib.HandBits.below0) rfl).mp (p24_app R2 ⟨by decide, by decide, by decide, by decide⟩)).1
  obtain ⟨t, ⟨j, hj, hwj⟩, ht⟩ := law_grows launch0 rfl (p := start1.p0) (e := start1.e0) (launch0.admits_env _ _ _) fairChoices_fair.cas fairChoices_fair.clock (s := p24_s) (m := ⟨0, 0⟩) (below := Lib.HandBits.below0) (b := 0) rfl happ p24_pre p24_cell
  rcases Nat.lt_or_ge n j with h | h
  · exact (no_end (hwj n h) he).elim
  · obtain ⟨d, rfl⟩ := Nat.exists_eq_add_of_le h
    rw [stepsAlone_add, hj]
    exact Nat.le_trans ht (stepsAlone_heap_le _ _ d t)
theorem p24_false_1 : ¬ Claimed_1_1 := by
  intro h
  obtain ⟨n, o, hw, hrun, he, hpost⟩ := h launch0 rfl lists_1 trivial start1.p0 start1.e0 (launch0.admits_env _ _ _) fairChoices_fair.cas fairChoices_fair.clock p24_s ⟨0, 0⟩ start1.args0 Lib.HandBits.below0 rfl p24_fits.1 p24_fits.2 (p24_app room_1 ⟨by decide, by decide, by decide, by decide⟩) ⟨trivial, p24_ints, p24_pre⟩
  have h1 := p24_over hw he
  have h2 := hpost.2.1.2.2.2.2.1
  have h3 : (stepsAlone start1.p0.tables start1.e0 n p24_s).heap.size ≤ p24_s.heap.size + 109 := h2
  omega
theorem p24_false_2 : ¬ Claimed_1_2 := by
  intro h
  obtain ⟨n, o, hw, hrun, he, hpost⟩ := h launch0 rfl lists_1 trivial start1.p0 start1.e0 (launch0.admits_env _ _ _) fairChoices_fair.cas fairChoices_fair.clock p24_s ⟨0, 0⟩ start1.args0 Lib.HandBits.below0 rfl p24_fits.1 p24_fits.2 (p24_app room_1 ⟨by decide, by decide, by decide, by decide⟩) ⟨trivial, p24_ints, p24_pre⟩
  have h1 := p24_over hw he
  have h2 := hpost.2.1.2.2.2.2.1
  have h3 : (stepsAlone start1.p0.tables start1.e0 n p24_s).heap.size ≤ p24_s.heap.size + 109 := h2
  omega
theorem p24_false : ¬ (Claimed_1_1 ∧ Claimed_1_2) := fun h => p24_false_1 h.1
end
