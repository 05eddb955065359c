/-! ===== p24, the refutation's kit (laid by wip/p24/mkkit.py out of whole's): a method's fixed things in one word, a point of its walk in another; G: so many cells at least have been made since the method began ===== -/
section HK
variable {p : Program} {l : Launch} {e : Env} {R : Room} {s : State} {m : MethodId} {args : Array Value} {below : List Frame} {meth : Method} {c : Code} {cells slots G : Nat} {Q : State → Prop}
variable {cc : ByteArray} {nL : Nat} {Ts : List Cond} {own : String} {D : va_G} {tys : List (ClassId × FieldType)} {A : Nat → Prop} {pc : Nat} {lv : List (Nat × Value)} {st : List Value} {ws : va_W}
def hC (p : Program) (s : State) (m : MethodId) (args : Array Value) (meth : Method) (c : Code) (cc : ByteArray) (nL : Nat) (Ts : List Cond) (own : String) (D : va_G) (tys : List (ClassId × FieldType)) (A : Nat → Prop) : Prop :=
  CallFix p m c cc nL s args Ts own ∧ va_K D vwCl tys s ∧ meth.locks = false ∧ ∀ q, s.heap.size ≤ q → A q
/-- at pc, with these locals, this stack and this world, and G new cells at least, the machine comes to Q -/
def hK (G : Nat) (p : Program) (l : Launch) (e : Env) (R : Room) (s : State) (m : MethodId) (args : Array Value) (below : List Frame) (meth : Method) (c : Code) (nL : Nat) (D : va_G) (A : Nat → Prop) (cells slots : Nat) (Q : State → Prop) (pc : Nat) (lv : List (Nat × Value)) (st : List Value) (ws : va_W) : Prop :=
  ∀ (H : Heap) (locs : List Loc) (ls : Array Slot), va_P D vwCl ws H → va_D A ws → va_S A s.heap H locs → s.heap.size + G ≤ H.size → lv_has ls nL lv → W p l e R s m args below meth c H locs cells slots Q (F0 m pc ls st)
theorem h_iconst (C : hC p s m args meth c cc nL Ts own D tys A) {n : Int} {v : Int32} (hdg : decode cc pc = .ok (.iconst n, 1)) (hv : Int32.ofInt n = v) (k : hK G p l e R s m args below meth c nL D A cells slots Q (pc + 1) lv (.int v :: st) ws) : hK G p l e R s m args below meth c nL D A cells slots Q pc lv st ws :=
  fun H locs ls hP hD hS hG hl => lv_iconst C.1.1 C.1.2.1 hdg hv (k H locs ls hP hD hS hG hl)
theorem h_bipush (C : hC p s m args meth c cc nL Ts own D tys A) {n : Int} {v : Int32} (hdg : decode cc pc = .ok (.bipush n, 2)) (hv : (Int8.ofInt n).toInt32 = v) (k : hK G p l e R s m args below meth c nL D A cells slots Q (pc + 2) lv (.int v :: st) ws) : hK G p l e R s m args below meth c nL D A cells slots Q pc lv st ws :=
  fun H locs ls hP hD hS hG hl => lv_bipush C.1.1 C.1.2.1 hdg hv (k H locs ls hP hD hS hG hl)
theorem h_sipush (C : hC p s m args meth c cc nL Ts own D tys A) {n : Int} {v : Int32} (hdg : decode cc pc = .ok (.sipush n, 3)) (hv : (Int16.ofInt n).toInt32 = v) (k : hK G p l e R s m args below meth c nL D A cells slots Q (pc + 3) lv (.int v :: st) ws) : hK G p l e R s m args below meth c nL D A cells slots Q pc lv st ws :=
  fun H locs ls hP hD hS hG hl => lv_sipush C.1.1 C.1.2.1 hdg hv (k H locs ls hP hD hS hG hl)
theorem h_iload_n (C : hC p s m args meth c cc nL Ts own D tys A) {k : Fin 4} {i : Nat} {x : Int32} (hdg : decode cc pc = .ok (.iload_n k, 1)) (hi : (k : Nat) = i) (j : Nat) (hj : lv[j]? = some (i, .int x)) (kk : hK G p l e R s m args below meth c nL D A cells slots Q (pc + 1) lv (.int x :: st) ws) : hK G p l e R s m args below meth c nL D A cells slots Q pc lv st ws :=
  fun H locs ls hP hD hS hG hl => lv_iload_n C.1.1 C.1.2.1 hdg hi (lv_at hl j hj) (kk H locs ls hP hD hS hG hl)
theorem h_iload (C : hC p s m args meth c cc nL Ts own D tys A) {i : Nat} {x : Int32} (hdg : decode cc pc = .ok (.iload i, 2)) (j : Nat) (hj : lv[j]? = some (i, .int x)) (kk : hK G p l e R s m args below meth c nL D A cells slots Q (pc + 2) lv (.int x :: st) ws) : hK G p l e R s m args below meth c nL D A cells slots Q pc lv st ws :=
  fun H locs ls hP hD hS hG hl => lv_iload C.1.1 C.1.2.1 hdg (lv_at hl j hj) (kk H locs ls hP hD hS hG hl)
theorem h_aload_n (C : hC p s m args meth c cc nL Ts own D tys A) {k : Fin 4} {i : Nat} {x : Nat} (hdg : decode cc pc = .ok (.aload_n k, 1)) (hi : (k : Nat) = i) (j : Nat) (hj : lv[j]? = some (i, .ref x)) (kk : hK G p l e R s m args below meth c nL D A cells slots Q (pc + 1) lv (.ref x :: st) ws) : hK G p l e R s m args below meth c nL D A cells slots Q pc lv st ws :=
  fun H locs ls hP hD hS hG hl => lv_aload_n C.1.1 C.1.2.1 hdg hi (lv_at hl j hj) (kk H locs ls hP hD hS hG hl)
theorem h_aload (C : hC p s m args meth c cc nL Ts own D tys A) {i : Nat} {x : Nat} (hdg : decode cc pc = .ok (.aload i, 2)) (j : Nat) (hj : lv[j]? = some (i, .ref x)) (kk : hK G p l e R s m args below meth c nL D A cells slots Q (pc + 2) lv (.ref x :: st) ws) : hK G p l e R s m args below meth c nL D A cells slots Q pc lv st ws :=
  fun H locs ls hP hD hS hG hl => lv_aload C.1.1 C.1.2.1 hdg (lv_at hl j hj) (kk H locs ls hP hD hS hG hl)
theorem h_istore_n (C : hC p s m args meth c cc nL Ts own D tys A) {k : Fin 4} {i : Nat} {x : Int32} {lv' : List (Nat × Value)} (hdg : decode cc pc = .ok (.istore_n k, 1)) (hi : (k : Nat) = i) (hn : i < nL) (hl' : (i, Value.int x) :: lv.filter (fun q => !(q.1 == i) && !(q.1 + 1 == i && q.2.category == 2)) = lv') (kk : hK G p l e R s m args below meth c nL D A cells slots Q (pc + 1) lv' st ws) : hK G p l e R s m args below meth c nL D A cells slots Q pc lv (.int x :: st) ws :=
  fun H locs ls hP hD hS hG hl => lv_istore_n C.1.1 C.1.2.1 hdg hi hl hn hl' (fun ls' h' => kk H locs ls' hP hD hS hG h')
theorem h_istore (C : hC p s m args meth c cc nL Ts own D tys A) {i : Nat} {x : Int32} {lv' : List (Nat × Value)} (hdg : decode cc pc = .ok (.istore i, 2)) (hn : i < nL) (hl' : (i, Value.int x) :: lv.filter (fun q => !(q.1 == i) && !(q.1 + 1 == i && q.2.category == 2)) = lv') (kk : hK G p l e R s m args below meth c nL D A cells slots Q (pc + 2) lv' st ws) : hK G p l e R s m args below meth c nL D A cells slots Q pc lv (.int x :: st) ws :=
  fun H locs ls hP hD hS hG hl => lv_istore C.1.1 C.1.2.1 hdg hl hn hl' (fun ls' h' => kk H locs ls' hP hD hS hG h')
theorem h_astore_n (C : hC p s m args meth c cc nL Ts own D tys A) {k : Fin 4} {i : Nat} {x : Nat} {lv' : List (Nat × Value)} (hdg : decode cc pc = .ok (.astore_n k, 1)) (hi : (k : Nat) = i) (hn : i < nL) (hl' : (i, Value.ref x) :: lv.filter (fun q => !(q.1 == i) && !(q.1 + 1 == i && q.2.category == 2)) = lv') (kk : hK G p l e R s m args below meth c nL D A cells slots Q (pc + 1) lv' st ws) : hK G p l e R s m args below meth c nL D A cells slots Q pc lv (.ref x :: st) ws :=
  fun H locs ls hP hD hS hG hl => lv_astore_n C.1.1 C.1.2.1 hdg hi hl hn hl' (fun ls' h' => kk H locs ls' hP hD hS hG h')
theorem h_astore (C : hC p s m args meth c cc nL Ts own D tys A) {i : Nat} {x : Nat} {lv' : List (Nat × Value)} (hdg : decode cc pc = .ok (.astore i, 2)) (hn : i < nL) (hl' : (i, Value.ref x) :: lv.filter (fun q => !(q.1 == i) && !(q.1 + 1 == i && q.2.category == 2)) = lv') (kk : hK G p l e R s m args below meth c nL D A cells slots Q (pc + 2) lv' st ws) : hK G p l e R s m args below meth c nL D A cells slots Q pc lv (.ref x :: st) ws :=
  fun H locs ls hP hD hS hG hl => lv_astore C.1.1 C.1.2.1 hdg hl hn hl' (fun ls' h' => kk H locs ls' hP hD hS hG h')
theorem h_iinc (C : hC p s m args meth c cc nL Ts own D tys A) {i : Nat} {n : Int} {x v : Int32} {lv' : List (Nat × Value)} (hdg : decode cc pc = .ok (.iinc i n, 3)) (k : Nat) (hk : lv[k]? = some (i, .int x)) (hv : x + Int32.ofInt n = v) (hn : i < nL) (hl' : (i, Value.int v) :: lv.filter (fun q => !(q.1 == i) && !(q.1 + 1 == i && q.2.category == 2)) = lv') (kk : hK G p l e R s m args below meth c nL D A cells slots Q (pc + 3) lv' st ws) : hK G p l e R s m args below meth c nL D A cells slots Q pc lv st ws :=
  fun H locs ls hP hD hS hG hl => lv_iinc C.1.1 C.1.2.1 hdg hl hk hv hn hl' (fun ls' h' => kk H locs ls' hP hD hS hG h')
theorem h_iadd (C : hC p s m args meth c cc nL Ts own D tys A) {x y : Int32} (hdg : decode cc pc = .ok (.iadd, 1)) (k : hK G p l e R s m args below meth c nL D A cells slots Q (pc + 1) lv (.int (x + y) :: st) ws) : hK G p l e R s m args below meth c nL D A cells slots Q pc lv (.int y :: .int x :: st) ws :=
  fun H locs ls hP hD hS hG hl => lv_iadd C.1.1 C.1.2.1 hdg (k H locs ls hP hD hS hG hl)
theorem h_isub (C : hC p s m args meth c cc nL Ts own D tys A) {x y : Int32} (hdg : decode cc pc = .ok (.isub, 1)) (k : hK G p l e R s m args below meth c nL D A cells slots Q (pc + 1) lv (.int (x - y) :: st) ws) : hK G p l e R s m args below meth c nL D A cells slots Q pc lv (.int y :: .int x :: st) ws :=
  fun H locs ls hP hD hS hG hl => lv_isub C.1.1 C.1.2.1 hdg (k H locs ls hP hD hS hG hl)
theorem h_imul (C : hC p s m args meth c cc nL Ts own D tys A) {x y : Int32} (hdg : decode cc pc = .ok (.imul, 1)) (k : hK G p l e R s m args below meth c nL D A cells slots Q (pc + 1) lv (.int (x * y) :: st) ws) : hK G p l e R s m args below meth c nL D A cells slots Q pc lv (.int y :: .int x :: st) ws :=
  fun H locs ls hP hD hS hG hl => lv_imul C.1.1 C.1.2.1 hdg (k H locs ls hP hD hS hG hl)
theorem h_idiv (C : hC p s m args meth c cc nL Ts own D tys A) {x y : Int32} (hdg : decode cc pc = .ok (.idiv, 1)) (hne : ¬ y = 0) (k : hK G p l e R s m args below meth c nL D A cells slots Q (pc + 1) lv (.int (x / y) :: st) ws) : hK G p l e R s m args below meth c nL D A cells slots Q pc lv (.int y :: .int x :: st) ws :=
  fun H locs ls hP hD hS hG hl => lv_idiv C.1.1 C.1.2.1 hdg hne (k H locs ls hP hD hS hG hl)
theorem h_iand (C : hC p s m args meth c cc nL Ts own D tys A) {x y : Int32} (hdg : decode cc pc = .ok (.iand, 1)) (k : hK G p l e R s m args below meth c nL D A cells slots Q (pc + 1) lv (.int (x &&& y) :: st) ws) : hK G p l e R s m args below meth c nL D A cells slots Q pc lv (.int y :: .int x :: st) ws :=
  fun H locs ls hP hD hS hG hl => lv_iand C.1.1 C.1.2.1 hdg (k H locs ls hP hD hS hG hl)
theorem h_dup (C : hC p s m args meth c cc nL Ts own D tys A) {va : Value} (hdg : decode cc pc = .ok (.dup, 1)) (hva : va.category = 1) (k : hK G p l e R s m args below meth c nL D A cells slots Q (pc + 1) lv (va :: va :: st) ws) : hK G p l e R s m args below meth c nL D A cells slots Q pc lv (va :: st) ws :=
  fun H locs ls hP hD hS hG hl => lv_dup C.1.1 C.1.2.1 hdg hva (k H locs ls hP hD hS hG hl)
theorem h_goto (C : hC p s m args meth c cc nL Ts own D tys A) {off : Int} {tgt : Nat} (hdg : decode cc pc = .ok (.goto off, 3)) (ht : (pc : Int) + off = (tgt : Int)) (k : hK G p l e R s m args below meth c nL D A cells slots Q tgt lv st ws) : hK G p l e R s m args below meth c nL D A cells slots Q pc lv st ws :=
  fun H locs ls hP hD hS hG hl => lv_goto C.1.1 C.1.2.1 hdg ht (k H locs ls hP hD hS hG hl)
theorem h_if_eq (C : hC p s m args meth c cc nL Ts own D tys A) {x : Int32} {off : Int} {tgt : Nat} (hdg : decode cc pc = .ok (.ifCond .eq off, 3)) (ht : (pc : Int) + off = (tgt : Int)) (kt : x = 0 → hK G p l e R s m args below meth c nL D A cells slots Q tgt lv st ws) (kf : ¬ x = 0 → hK G p l e R s m args below meth c nL D A cells slots Q (pc + 3) lv st ws) : hK G p l e R s m args below meth c nL D A cells slots Q pc lv (.int x :: st) ws :=
  fun H locs ls hP hD hS hG hl => lv_if_eq C.1.1 C.1.2.1 hdg ht (fun q => kt q H locs ls hP hD hS hG hl) (fun q => kf q H locs ls hP hD hS hG hl)
theorem h_if_ne (C : hC p s m args meth c cc nL Ts own D tys A) {x : Int32} {off : Int} {tgt : Nat} (hdg : decode cc pc = .ok (.ifCond .ne off, 3)) (ht : (pc : Int) + off = (tgt : Int)) (kt : ¬ x = 0 → hK G p l e R s m args below meth c nL D A cells slots Q tgt lv st ws) (kf : x = 0 → hK G p l e R s m args below meth c nL D A cells slots Q (pc + 3) lv st ws) : hK G p l e R s m args below meth c nL D A cells slots Q pc lv (.int x :: st) ws :=
  fun H locs ls hP hD hS hG hl => lv_if_ne C.1.1 C.1.2.1 hdg ht (fun q => kt q H locs ls hP hD hS hG hl) (fun q => kf q H locs ls hP hD hS hG hl)
theorem h_if_lt (C : hC p s m args meth c cc nL Ts own D tys A) {x : Int32} {off : Int} {tgt : Nat} (hdg : decode cc pc = .ok (.ifCond .lt off, 3)) (ht : (pc : Int) + off = (tgt : Int)) (kt : x < 0 → hK G p l e R s m args below meth c nL D A cells slots Q tgt lv st ws) (kf : ¬ x < 0 → hK G p l e R s m args below meth c nL D A cells slots Q (pc + 3) lv st ws) : hK G p l e R s m args below meth c nL D A cells slots Q pc lv (.int x :: st) ws :=
  fun H locs ls hP hD hS hG hl => lv_if_lt C.1.1 C.1.2.1 hdg ht (fun q => kt q H locs ls hP hD hS hG hl) (fun q => kf q H locs ls hP hD hS hG hl)
theorem h_if_ge (C : hC p s m args meth c cc nL Ts own D tys A) {x : Int32} {off : Int} {tgt : Nat} (hdg : decode cc pc = .ok (.ifCond .ge off, 3)) (ht : (pc : Int) + off = (tgt : Int)) (kt : 0 ≤ x → hK G p l e R s m args below meth c nL D A cells slots Q tgt lv st ws) (kf : ¬ 0 ≤ x → hK G p l e R s m args below meth c nL D A cells slots Q (pc + 3) lv st ws) : hK G p l e R s m args below meth c nL D A cells slots Q pc lv (.int x :: st) ws :=
  fun H locs ls hP hD hS hG hl => lv_if_ge C.1.1 C.1.2.1 hdg ht (fun q => kt q H locs ls hP hD hS hG hl) (fun q => kf q H locs ls hP hD hS hG hl)
theorem h_if_gt (C : hC p s m args meth c cc nL Ts own D tys A) {x : Int32} {off : Int} {tgt : Nat} (hdg : decode cc pc = .ok (.ifCond .gt off, 3)) (ht : (pc : Int) + off = (tgt : Int)) (kt : 0 < x → hK G p l e R s m args below meth c nL D A cells slots Q tgt lv st ws) (kf : ¬ 0 < x → hK G p l e R s m args below meth c nL D A cells slots Q (pc + 3) lv st ws) : hK G p l e R s m args below meth c nL D A cells slots Q pc lv (.int x :: st) ws :=
  fun H locs ls hP hD hS hG hl => lv_if_gt C.1.1 C.1.2.1 hdg ht (fun q => kt q H locs ls hP hD hS hG hl) (fun q => kf q H locs ls hP hD hS hG hl)
theorem h_if_le (C : hC p s m args meth c cc nL Ts own D tys A) {x : Int32} {off : Int} {tgt : Nat} (hdg : decode cc pc = .ok (.ifCond .le off, 3)) (ht : (pc : Int) + off = (tgt : Int)) (kt : x ≤ 0 → hK G p l e R s m args below meth c nL D A cells slots Q tgt lv st ws) (kf : ¬ x ≤ 0 → hK G p l e R s m args below meth c nL D A cells slots Q (pc + 3) lv st ws) : hK G p l e R s m args below meth c nL D A cells slots Q pc lv (.int x :: st) ws :=
  fun H locs ls hP hD hS hG hl => lv_if_le C.1.1 C.1.2.1 hdg ht (fun q => kt q H locs ls hP hD hS hG hl) (fun q => kf q H locs ls hP hD hS hG hl)
theorem h_icmp_eq (C : hC p s m args meth c cc nL Ts own D tys A) {x y : Int32} {off : Int} {tgt : Nat} (hdg : decode cc pc = .ok (.if_icmp .eq off, 3)) (ht : (pc : Int) + off = (tgt : Int)) (kt : x = y → hK G p l e R s m args below meth c nL D A cells slots Q tgt lv st ws) (kf : ¬ x = y → hK G p l e R s m args below meth c nL D A cells slots Q (pc + 3) lv st ws) : hK G p l e R s m args below meth c nL D A cells slots Q pc lv (.int y :: .int x :: st) ws :=
  fun H locs ls hP hD hS hG hl => lv_icmp_eq C.1.1 C.1.2.1 hdg ht (fun q => kt q H locs ls hP hD hS hG hl) (fun q => kf q H locs ls hP hD hS hG hl)
theorem h_icmp_ne (C : hC p s m args meth c cc nL Ts own D tys A) {x y : Int32} {off : Int} {tgt : Nat} (hdg : decode cc pc = .ok (.if_icmp .ne off, 3)) (ht : (pc : Int) + off = (tgt : Int)) (kt : ¬ x = y → hK G p l e R s m args below meth c nL D A cells slots Q tgt lv st ws) (kf : x = y → hK G p l e R s m args below meth c nL D A cells slots Q (pc + 3) lv st ws) : hK G p l e R s m args below meth c nL D A cells slots Q pc lv (.int y :: .int x :: st) ws :=
  fun H locs ls hP hD hS hG hl => lv_icmp_ne C.1.1 C.1.2.1 hdg ht (fun q => kt q H locs ls hP hD hS hG hl) (fun q => kf q H locs ls hP hD hS hG hl)
theorem h_icmp_lt (C : hC p s m args meth c cc nL Ts own D tys A) {x y : Int32} {off : Int} {tgt : Nat} (hdg : decode cc pc = .ok (.if_icmp .lt off, 3)) (ht : (pc : Int) + off = (tgt : Int)) (kt : x < y → hK G p l e R s m args below meth c nL D A cells slots Q tgt lv st ws) (kf : ¬ x < y → hK G p l e R s m args below meth c nL D A cells slots Q (pc + 3) lv st ws) : hK G p l e R s m args below meth c nL D A cells slots Q pc lv (.int y :: .int x :: st) ws :=
  fun H locs ls hP hD hS hG hl => lv_icmp_lt C.1.1 C.1.2.1 hdg ht (fun q => kt q H locs ls hP hD hS hG hl) (fun q => kf q H locs ls hP hD hS hG hl)
theorem h_icmp_ge (C : hC p s m args meth c cc nL Ts own D tys A) {x y : Int32} {off : Int} {tgt : Nat} (hdg : decode cc pc = .ok (.if_icmp .ge off, 3)) (ht : (pc : Int) + off = (tgt : Int)) (kt : y ≤ x → hK G p l e R s m args below meth c nL D A cells slots Q tgt lv st ws) (kf : ¬ y ≤ x → hK G p l e R s m args below meth c nL D A cells slots Q (pc + 3) lv st ws) : hK G p l e R s m args below meth c nL D A cells slots Q pc lv (.int y :: .int x :: st) ws :=
  fun H locs ls hP hD hS hG hl => lv_icmp_ge C.1.1 C.1.2.1 hdg ht (fun q => kt q H locs ls hP hD hS hG hl) (fun q => kf q H locs ls hP hD hS hG hl)
theorem h_icmp_gt (C : hC p s m args meth c cc nL Ts own D tys A) {x y : Int32} {off : Int} {tgt : Nat} (hdg : decode cc pc = .ok (.if_icmp .gt off, 3)) (ht : (pc : Int) + off = (tgt : Int)) (kt : y < x → hK G p l e R s m args below meth c nL D A cells slots Q tgt lv st ws) (kf : ¬ y < x → hK G p l e R s m args below meth c nL D A cells slots Q (pc + 3) lv st ws) : hK G p l e R s m args below meth c nL D A cells slots Q pc lv (.int y :: .int x :: st) ws :=
  fun H locs ls hP hD hS hG hl => lv_icmp_gt C.1.1 C.1.2.1 hdg ht (fun q => kt q H locs ls hP hD hS hG hl) (fun q => kf q H locs ls hP hD hS hG hl)
theorem h_icmp_le (C : hC p s m args meth c cc nL Ts own D tys A) {x y : Int32} {off : Int} {tgt : Nat} (hdg : decode cc pc = .ok (.if_icmp .le off, 3)) (ht : (pc : Int) + off = (tgt : Int)) (kt : x ≤ y → hK G p l e R s m args below meth c nL D A cells slots Q tgt lv st ws) (kf : ¬ x ≤ y → hK G p l e R s m args below meth c nL D A cells slots Q (pc + 3) lv st ws) : hK G p l e R s m args below meth c nL D A cells slots Q pc lv (.int y :: .int x :: st) ws :=
  fun H locs ls hP hD hS hG hl => lv_icmp_le C.1.1 C.1.2.1 hdg ht (fun q => kt q H locs ls hP hD hS hG hl) (fun q => kf q H locs ls hP hD hS hG hl)
theorem h_get (C : hC p s m args meth c cc nL Ts own D tys A) {ref C0 : String} {T : u_T} {N ci index a : Nat} (hin : ∀ w ∈ u_ws C0 T N, w ∈ Ts) (hc : vwCl[ci]? = some (C0, T, N)) (q0 : Nat) {fs : List Value} (he : ws[q0]? = some (a, .inr (ci, fs))) (k : Nat) (hk : k < N) (hlink : Cond.fieldLink own index ref (T k).2.1 (T k).2.2.1 ∈ Ts) (hown2 : (T k).1 = ref) {v : Value} (hv : fs[k]? = some v) (hdg : decode cc pc = .ok (.getfield index, 3)) (kk : hK G p l e R s m args below meth c nL D A cells slots Q (pc + 3) lv (v :: st) ws) : hK G p l e R s m args below meth c nL D A cells slots Q pc lv (.ref a :: st) ws :=
  fun H locs ls hP hD hS hG hl => va_get C.1.1 C.1.2.1 C.1.2.2.2.2 hin C.1.2.2.2.1 C.2.1 hP q0 he hc k hk (C.1.2.2.2.2 _ hlink) (fun _ h9 => by rw [← hown2]; exact h9) hv hdg (kk H locs ls hP hD hS hG hl)
theorem h_iald (C : hC p s m args meth c cc nL Ts own D tys A) (q0 t0 : Nat) {a : Nat} {cA : ClassId} {n : Nat} {f : Nat → Int32} (ha : ws[q0]? = some (a, .inl (cA, n, .inl f))) (ht : tys[t0]? = some (cA, .int)) {i v : Int32} (hin : vp_in i n) (hv : v = f i.toNatClampNeg) (hdg : decode cc pc = .ok (.iaload, 1)) (kk : hK G p l e R s m args below meth c nL D A cells slots Q (pc + 1) lv (.int v :: st) ws) : hK G p l e R s m args below meth c nL D A cells slots Q pc lv (.int i :: .ref a :: st) ws := by
  subst hv
  exact fun H locs ls hP hD hS hG hl => va_iald C.1.1 C.1.2.1 C.2.1 hP q0 t0 ha ht hin hdg (kk H locs ls hP hD hS hG hl)
theorem h_alen (C : hC p s m args meth c cc nL Ts own D tys A) (q0 t0 : Nat) {a : Nat} {cA : ClassId} {n : Nat} {f : Nat → Int32} (ha : ws[q0]? = some (a, .inl (cA, n, .inl f))) {ty : FieldType} (ht : tys[t0]? = some (cA, ty)) {v : Int32} (hv : Int32.ofNat n = v) (hdg : decode cc pc = .ok (.arraylength, 1)) (kk : hK G p l e R s m args below meth c nL D A cells slots Q (pc + 1) lv (.int v :: st) ws) : hK G p l e R s m args below meth c nL D A cells slots Q pc lv (.ref a :: st) ws :=
  fun H locs ls hP hD hS hG hl => va_alen C.1.1 C.1.2.1 C.2.1 hP q0 t0 ha ht hv hdg (kk H locs ls hP hD hS hG hl)
theorem h_sub (ks : List Nat) {lv' : List (Nat × Value)} (h : lv_pick lv ks = lv') (kk : hK G p l e R s m args below meth c nL D A cells slots Q pc lv' st ws) : hK G p l e R s m args below meth c nL D A cells slots Q pc lv st ws :=
  fun H locs ls hP hD hS hG hl => kk H locs ls hP hD hS hG (lv_sub hl ks h)
theorem h_fload (C : hC p s m args meth c cc nL Ts own D tys A) {i : Nat} {x : UInt32} (hdg : decode cc pc = .ok (.fload i, 2)) (j : Nat) (hj : lv[j]? = some (i, .float x)) (k : hK G p l e R s m args below meth c nL D A cells slots Q (pc + 2) lv (.float x :: st) ws) : hK G p l e R s m args below meth c nL D A cells slots Q pc lv st ws :=
  fun H locs ls hP hD hS hG hl => lv_fload C.1.1 C.1.2.1 hdg (lv_at hl j hj) (k H locs ls hP hD hS hG hl)
theorem h_fstore (C : hC p s m args meth c cc nL Ts own D tys A) {i : Nat} {x : UInt32} {lv' : List (Nat × Value)} (hdg : decode cc pc = .ok (.fstore i, 2)) (hn : i < nL) (hl' : (i, Value.float x) :: lv.filter (fun q => !(q.1 == i) && !(q.1 + 1 == i && q.2.category == 2)) = lv') (kk : hK G p l e R s m args below meth c nL D A cells slots Q (pc + 2) lv' st ws) : hK G p l e R s m args below meth c nL D A cells slots Q pc lv (.float x :: st) ws :=
  fun H locs ls hP hD hS hG hl => lv_fstore C.1.1 C.1.2.1 hdg hl hn hl' (fun ls' h' => kk H locs ls' hP hD hS hG h')
theorem h_fcmp (C : hC p s m args meth c cc nL Ts own D tys A) {x y : UInt32} {op : CmpOp} (hdg : decode cc pc = .ok (.fcmp op, 1)) (k : hK G p l e R s m args below meth c nL D A cells slots Q (pc + 1) lv (.int (Op.cmpValue (FP.fcmp x y) op) :: st) ws) : hK G p l e R s m args below meth c nL D A cells slots Q pc lv (.float y :: .float x :: st) ws :=
  fun H locs ls hP hD hS hG hl => lv_fcmp C.1.1 C.1.2.1 hdg (k H locs ls hP hD hS hG hl)
theorem h_sld (C : hC p s m args meth c cc nL Ts own D tys A) {b L : Nat} {xs : Nat → Int32} (X : va_X b L xs s s.heap ∧ b < s.heap.size ∧ ¬ A b) {i v : Int32} (hin : vp_in i L) (hv : v = xs i.toNatClampNeg) (hdg : decode cc pc = .ok (.iaload, 1)) (kk : hK G p l e R s m args below meth c nL D A cells slots Q (pc + 1) lv (.int v :: st) ws) : hK G p l e R s m args below meth c nL D A cells slots Q pc lv (.int i :: .ref b :: st) ws := by
  subst hv
  exact fun H locs ls hP hD hS hG hl => va_sld C.1.1 C.1.2.1 X.1 X.2.1 X.2.2 hS hin hdg (kk H locs ls hP hD hS hG hl)
theorem h_slen (C : hC p s m args meth c cc nL Ts own D tys A) {b L : Nat} {xs : Nat → Int32} (X : va_X b L xs s s.heap ∧ b < s.heap.size ∧ ¬ A b) (hdg : decode cc pc = .ok (.arraylength, 1)) (kk : hK G p l e R s m args below meth c nL D A cells slots Q (pc + 1) lv (.int (nI L) :: st) ws) : hK G p l e R s m args below meth c nL D A cells slots Q pc lv (.ref b :: st) ws :=
  fun H locs ls hP hD hS hG hl => va_slen C.1.1 C.1.2.1 X.1 X.2.1 X.2.2 hS hdg (kk H locs ls hP hD hS hG hl)
theorem h_eq {x v : Int32} (hv : v = x) (kk : hK G p l e R s m args below meth c nL D A cells slots Q pc lv (.int v :: st) ws) : hK G p l e R s m args below meth c nL D A cells slots Q pc lv (.int x :: st) ws := by
  subst hv
  exact kk
theorem h_widen {k n : Nat} (h1 : cells ≤ k) (h2 : slots ≤ n) (kk : hK G p l e R s m args below meth c nL D A k n Q pc lv st ws) : hK G p l e R s m args below meth c nL D A cells slots Q pc lv st ws :=
  fun H locs ls hP hD hS hG hl => W.widen (k := k) (n := n) h1 h2 (kk H locs ls hP hD hS hG hl)
theorem h_irem (C : hC p s m args meth c cc nL Ts own D tys A) {x y : Int32} (hdg : decode cc pc = .ok (.irem, 1)) (hne : ¬ y = 0) (k : hK G p l e R s m args below meth c nL D A cells slots Q (pc + 1) lv (.int (x - x / y * y) :: st) ws) : hK G p l e R s m args below meth c nL D A cells slots Q pc lv (.int y :: .int x :: st) ws :=
  fun H locs ls hP hD hS hG hl => lv_irem C.1.1 C.1.2.1 hdg hne (k H locs ls hP hD hS hG hl)
theorem h_ldc (C : hC p s m args meth c cc nL Ts own D tys A) {index : Nat} {v : Int32} (hconst : Jvm.Cond.constant own index v ∈ Ts) (hdg : decode cc pc = .ok (.ldc index, 2)) (k : hK G p l e R s m args below meth c nL D A cells slots Q (pc + 2) lv (.int v :: st) ws) : hK G p l e R s m args below meth c nL D A cells slots Q pc lv st ws :=
  fun H locs ls hP hD hS hG hl => lv_ldc C.1.1 C.1.2.1 C.1.2.2.2.1 (C.1.2.2.2.2 _ hconst) hdg (k H locs ls hP hD hS hG hl)
theorem h_ldcf (C : hC p s m args meth c cc nL Ts own D tys A) {index : Nat} {v : UInt32} (hconst : Jvm.Cond.constantFloat own index v ∈ Ts) (hdg : decode cc pc = .ok (.ldc index, 2)) (k : hK G p l e R s m args below meth c nL D A cells slots Q (pc + 2) lv (.float v :: st) ws) : hK G p l e R s m args below meth c nL D A cells slots Q pc lv st ws :=
  fun H locs ls hP hD hS hG hl => lv_ldcf C.1.1 C.1.2.1 C.1.2.2.2.1 (C.1.2.2.2.2 _ hconst) hdg (k H locs ls hP hD hS hG hl)
/-- what is known of the growth may be said more weakly; a walk may stop once the heap is as large as wanted -/
theorem h_less {G1 : Nat} (h : G1 ≤ G) (k : hK G1 p l e R s m args below meth c nL D A cells slots Q pc lv st ws) : hK G p l e R s m args below meth c nL D A cells slots Q pc lv st ws :=
  fun H locs ls hP hD hS hG hl => k H locs ls hP hD hS (by omega) hl
theorem h_stop {n : Nat} (h : n ≤ G) : hK G p l e R s m args below meth c nL D A cells slots (fun t => s.heap.size + n ≤ t.heap.size) pc lv st ws := by
  intro H locs ls hP hD hS hG hl T hT X
  refine ⟨T.setTop (F0 m pc ls st), Steps.refl _, ?_⟩
  show s.heap.size + n ≤ T.heap.size
  rw [hT]
  omega
def cQ (D : va_G) (tys : List (ClassId × FieldType)) (A : Nat → Prop) (ro : Option Value) (w' : va_W) : Array Value → State → Outcome → State → Prop := fun _ st oc t => oc = .returned ro ∧ va_P D vwCl w' t.heap ∧ va_K D vwCl tys t ∧ va_D A w' ∧ va_F A st t
/-- .. and g new cells at least -/
def gQ (g : Nat) (D : va_G) (tys : List (ClassId × FieldType)) (A : Nat → Prop) (ro : Option Value) (w' : va_W) : Array Value → State → Outcome → State → Prop := fun a st oc t => cQ D tys A ro w' a st oc t ∧ st.heap.size + g ≤ t.heap.size
def cP (D : va_G) (tys : List (ClassId × FieldType)) (av : List Value) (w : va_W) (sz : Nat) : Array Value → State → Prop := va_Pc av (fun U => U.heap.size = sz ∧ va_P D vwCl w U.heap ∧ va_K D vwCl tys U ∧ va_D (fun _ => True) w)
theorem cP_blind {av : List Value} {w : va_W} {sz : Nat} : FrameBlind (cP D tys av w sz) := fun a U g mk q => by
  obtain ⟨q0, q1, qP, qK, qD⟩ := q
  exact ⟨q0, q1, qP, va_K.moved (u := U) (U := U.calling g mk a) (Vm.Alike.refl U.vm) qK, qD⟩
/-- a method that makes nothing and changes nothing -/
def cM (l : Launch) (y : MethodName) (wsy : List Cond) (rm : Room) (D : va_G) (tys : List (ClassId × FieldType)) (av : List Value) (w : va_W) (ro : Option Value) : Prop :=
  ∀ sz : Nat, Met l y wsy rm (cP D tys av w sz) (gQ 0 D tys (va_A w sz) ro w) rm.cells rm.slots (va_A w sz)
theorem cM_of {y : MethodName} {wsy ws' : List Cond} {rm : Room} {av : List Value} {w : va_W} {ro : Option Value} {maxL : Nat} {ret : Option FieldType} {own : String} {lv : List (Nat × Value)} (hy : plainName y.cls = true) (hw : wsy = Cond.code y cc maxL ret :: ws') (hlen : (lg_sl av).length ≤ maxL) (ho : y.cls = own) (hlv : lv_args 0 av = lv)
    (body : ∀ (p : Program) (e : Env) (s : State) (m : MethodId) (args : Array Value) (below : List Frame) (meth : Method) (c : Code) (A : Nat → Prop), hC p s m args meth c cc maxL wsy own D tys A → meth.sig.returnType = ret →
      hK 0 p l e rm s m args below meth c maxL D A 0 0 (MQ below (gQ 0 D tys A ro w) args s rm.cells rm.slots A) 0 lv [] w) : cM l y wsy rm D tys av w ro := by
  subst hlv
  subst ho
  intro sz
  refine Met.ofW (cc := cc) (maxL := maxL) (ret := ret) hy hw ?_
  intro p e s m args below meth c s₁ B hml hv
  obtain ⟨rfl, hsz, hP, hK, hD0⟩ := hv
  subst hsz
  have hts := atoms_spec (ws := wsy) B.pre
  have hown : s.vm.findClass y.cls = some m.cls := findClass_of_methodNamed B.named
  have hD := hD0.self (sz := s.heap.size)
  have hA : ∀ q : Nat, s.heap.size ≤ q → va_A w s.heap.size q := fun q h => Or.inr h
  have hb := body p e s m av.toArray below meth c (va_A w s.heap.size) ⟨⟨B.exec, B.bytes, hml, hown, hts⟩, hK, B.notSynchronized, hA⟩ B.returns
  rw [lg_entry_eq]
  exact hb s.heap [] _ hP hD va_S.rf (Nat.le_refl _) (lv_entry av hlen)
/-- returns, having made g cells at least -/
theorem h_iret {g : Nat} (C : hC p s m args meth c cc nL Ts own D tys A) {v : Int32} (hr : meth.sig.returnType = some .int) (hdg : decode cc pc = .ok (.ireturn, 1)) : hK g p l e R s m args below meth c nL D A cells slots (MQ below (gQ g D tys A (some (.int v)) ws) args s cells slots A) pc lv [.int v] ws :=
  fun H locs ls hP hD hS hG hl => W.iret C.1.1 C.1.2.1 hr (fun t ht hW => ⟨⟨rfl, by rw [ht]; exact hP, va_K.moved hW.alike C.2.1, hD, hS.F ht⟩, by rw [ht]; exact hG⟩) hS.2.2 hdg C.2.2.1
theorem h_zret {g : Nat} (C : hC p s m args meth c cc nL Ts own D tys A) {v : Int32} {ty : FieldType} (hr : meth.sig.returnType = some ty) (hn : narrow ty (.int v) = .int v) (hdg : decode cc pc = .ok (.ireturn, 1)) : hK g p l e R s m args below meth c nL D A cells slots (MQ below (gQ g D tys A (some (.int v)) ws) args s cells slots A) pc lv [.int v] ws :=
  fun H locs ls hP hD hS hG hl => W.zret C.1.1 C.1.2.1 hr hn (fun t ht hW => ⟨⟨rfl, by rw [ht]; exact hP, va_K.moved hW.alike C.2.1, hD, hS.F ht⟩, by rw [ht]; exact hG⟩) hS.2.2 hdg C.2.2.1
theorem h_fret {g : Nat} (C : hC p s m args meth c cc nL Ts own D tys A) {v : UInt32} (hr : meth.sig.returnType = some .float) (hdg : decode cc pc = .ok (.freturn, 1)) : hK g p l e R s m args below meth c nL D A cells slots (MQ below (gQ g D tys A (some (.float v)) ws) args s cells slots A) pc lv [.float v] ws :=
  fun H locs ls hP hD hS hG hl => W.fret C.1.1 C.1.2.1 hr (fun t ht hW => ⟨⟨rfl, by rw [ht]; exact hP, va_K.moved hW.alike C.2.1, hD, hS.F ht⟩, by rw [ht]; exact hG⟩) hS.2.2 hdg C.2.2.1
theorem h_psub {is : List Nat} {w w' : va_W} {H : Heap} (h : is.map (fun i => w[i]?) = w'.map some) (hp : va_P D vwCl w H) : va_P D vwCl w' H := by
  intro k q hk
  have h1 : (is.map (fun i => w[i]?))[k]? = some (some q) := by rw [h, List.getElem?_map, hk]; rfl
  rw [List.getElem?_map] at h1
  cases hi : is[k]? with
  | none => rw [hi] at h1; cases h1
  | some i => rw [hi] at h1; exact hp i q (Option.some.inj h1)
/-- what is behind a call that leaves the callee's cells as they were: g new cells more -/
theorem h_run {g : Nat} {st rest : List Value} {a : Array Value} {wc : va_W} {ro : Option Value} {mc ms : Nat} (hA : ∀ q, s.heap.size ≤ q → A q)
    (hr : ∀ (H : Heap) (locs : List Loc) (ls : Array Slot), va_P D vwCl wc H → va_P D vwCl ws H → va_D (fun _ => True) wc → (∀ q, va_A wc H.size q → A q) → va_S A s.heap H locs → lv_has ls nL lv → va_Run p l e R s m args below meth c H locs cells slots mc ms (F0 m pc ls st) rest (gQ g D tys (va_A wc H.size) ro wc a) (va_A wc H.size))
    (isC isR is : List Nat) (hCs : isC.map (fun i => ws[i]?) = wc.map some) (hRs : isR.map (fun i => ws[i]?) = (isR.filterMap (fun i => ws[i]?)).map some) (hndC : va_nd isC = true) (hnd : va_nd isR = true) (hdis : ∀ i ∈ isR, i ∉ isC) (hin : va_nd is = true) (his : is.map (fun i => (isR.filterMap (fun i => ws[i]?) ++ wc)[i]?) = ws.map some)
    (kk : hK (G + g) p l e R s m args below meth c nL D A (cells + mc) (slots + ms) Q (pc + 3) lv (ro.toList ++ rest) ws) : hK G p l e R s m args below meth c nL D A cells slots Q pc lv st ws := by
  intro H locs ls hP hD hS hG hl
  have hDc : va_D A wc := hD.sub isC hndC hCs
  have hFc := va_free (wc := wc) hD hS hA isC hCs
  intro T hT X
  obtain ⟨v, st₀, t, T', L, h0, X', hL, e1, e2, ⟨⟨hv, hP1, hK1, hD1, hz, hk⟩, hg⟩, go⟩ := hr H locs ls (h_psub hCs hP) hP (hDc.weaken (fun _ _ _ _ => trivial)) hFc hS hl T hT X
  have hv : v = ro := by injection hv
  subst hv
  rw [h0] at hz hk hg
  obtain ⟨hP2, hD2⟩ := va_join (H1 := T'.heap) (wr := isR.filterMap (fun i => ws[i]?)) (w1 := wc) hP hD isC isR hCs hRs hnd hdis (fun q h1 h2 => by rw [e1]; exact hk q h1 h2) hFc (by rw [e1]; exact hP1) hD1
  obtain ⟨t2, a1, b1⟩ := kk T'.heap (locs ++ L) ls (h_psub his hP2) (hD2.sub is hin his) ⟨Nat.le_trans hS.1 (by rw [e1]; exact hz), fun q h1 h2 => by rw [e1, hk q (Nat.lt_of_lt_of_le h1 hS.1) (fun z => h2 (hFc q z))]; exact hS.2.1 q h1 h2, fun q hq => by
      rcases List.mem_append.mp hq with h | h
      · exact hS.2.2 q h
      · exact hFc _ (hL q h)⟩ (by rw [e1]; omega) hl T' rfl X'
  exact ⟨t2, go t2 a1, b1⟩
theorem h_callV (C : hC p s m args meth c cc nL Ts own D tys A) {y : MethodName} {wsy : List Cond} {rm : Room} {bytes : ByteArray} {maxL n index q0 ci b : Nat} {ret : Option FieldType} {Cn : String} {As rest : List Value} {wc : va_W} {ro : Option Value} {fs : List Value} {qc : vw_C}
    (hM : cM l y wsy rm D tys (.ref b :: As) wc ro) (cw : CallW R s args own Cn index y bytes maxL ret wsy rm rm.cells rm.slots n) (hdg : decode cc pc = .ok (.invokevirtual index, 3))
    (hrec : ws[q0]? = some (b, .inr (ci, fs))) (hci : vwCl[ci]? = some qc) (hqn : qc.1 = Cn) (hn : As.length = n) (hst : st = As.reverse ++ .ref b :: rest) (hcat : (rest.map fun v => v.category).sum ≤ 8) (hz : rm.cells = 0 ∧ rm.slots = 0) (hf0 : cells ≤ R.cells ∧ slots ≤ R.slots)
    (isC isR is : List Nat) (hCs : isC.map (fun i => ws[i]?) = wc.map some) (hRs : isR.map (fun i => ws[i]?) = (isR.filterMap (fun i => ws[i]?)).map some) (hndC : va_nd isC = true) (hnd : va_nd isR = true) (hdis : ∀ i ∈ isR, i ∉ isC) (hin : va_nd is = true) (his : is.map (fun i => (isR.filterMap (fun i => ws[i]?) ++ wc)[i]?) = ws.map some)
    {st2 : List Value} (hst2 : ro.toList ++ rest = st2) (kk : hK G p l e R s m args below meth c nL D A cells slots Q (pc + 3) lv st2 ws) : hK G p l e R s m args below meth c nL D A cells slots Q pc lv st ws := by
  subst hst
  subst hst2
  have hf : cells + rm.cells ≤ R.cells ∧ slots + rm.slots ≤ R.slots := by rw [hz.1, hz.2]; exact hf0
  have kk : hK (G + 0) p l e R s m args below meth c nL D A (cells + rm.cells) (slots + rm.slots) Q (pc + 3) lv (ro.toList ++ rest) ws := by rw [hz.1, hz.2]; exact kk
  exact h_run C.2.2.2 (fun H locs ls hPc hP hDc _ _ hl => va_runV (As := As) (rest := rest) C.1 (hM H.size) cw ⟨cP_blind, by rw [← hqn]; exact va_recv C.2.1 hP hci hrec, fun U hU hW => ⟨rfl, by rw [hU], by rw [hU]; exact hPc, va_K.moved hW.alike C.2.1, hDc⟩⟩ rfl hn hl.1 rfl (lv_room hcat) hdg hf) isC isR is hCs hRs hndC hnd hdis hin his kk
end HK
/-! methods that throw, and those that catch -/
section HX
variable {p : Program} {l : Launch} {e : Env} {R : Room} {s : State} {m : MethodId} {args : Array Value} {below : List Frame} {meth : Method} {c : Code} {cells slots G : Nat} {Q : State → Prop}
variable {cc : ByteArray} {nL : Nat} {Ts : List Cond} {own : String} {D : va_G} {tys : List (ClassId × FieldType)} {A : Nat → Prop} {pc : Nat} {lv : List (Nat × Value)} {st : List Value} {ws : va_W}
def xIAE : String := "java/lang/IllegalArgumentException"
def xISE : String := "java/lang/IllegalStateException"
def xIOE : String := "java/lang/IndexOutOfBoundsException"
def xE : Nat → String := fun k => match k with
  | 1 => xIAE
  | 2 => xISE
  | _ => xIOE
def xUp : List String := ["java/lang/RuntimeException", "java/lang/Exception"]
def xDc : List MethodName := [Bundle.initS "java/lang/RuntimeException", Bundle.initS "java/lang/Exception", Bundle.initS Bundle.tN]
def xCs : List String := [xIAE, xISE, xIOE]
def xStr : List (Nat × String) := [(37, "no further box can be added"), (109, "no such level"), (124, "no such place"), (132, "there are no boxes"), (162, "a coordinate is out of range"), (165, "a side is out of range"), (167, "no such side"), (172, "no such box"), (177, "no such level or node")]
def xW (U : State) : Prop := (∀ y ∈ xDc, va_Nw (.declares y) U) ∧ (∀ E ∈ xCs, va_Nw (.castable E E) U) ∧ (va_Nc xISE xIAE U ∧ va_Nc xIOE xIAE U) ∧ ∀ q ∈ xStr, ∃ sa, vk_R RX4 q.1 q.2 sa U
theorem xW.warm {s U : State} (hW : s.WarmedH U.vm) (h : xW s) : xW U :=
  ⟨fun y hy => va_Nw.warmD hW (h.1 y hy), fun E hE => va_Nw.warmC hW (h.2.1 E hE), ⟨va_Nc.moved hW.alike h.2.2.1.1, va_Nc.moved hW.alike h.2.2.1.2⟩, fun q hq => by
    obtain ⟨sa, hs⟩ := h.2.2.2 q hq
    exact ⟨sa, vk_R.warm hW hs⟩⟩
theorem xW.same {u U : State} (hv : u.vm = U.vm) (h : xW u) : xW U :=
  ⟨fun y hy => va_Nw.same rfl hv (h.1 y hy), fun E hE => va_Nw.same rfl hv (h.2.1 E hE), ⟨va_Nc.moved (by rw [hv]; exact Vm.Alike.refl _) h.2.2.1.1, va_Nc.moved (by rw [hv]; exact Vm.Alike.refl _) h.2.2.1.2⟩, fun q hq => by
    obtain ⟨sa, hs⟩ := h.2.2.2 q hq
    exact ⟨sa, vk_R.same hv.symm hs⟩⟩
def xZ (A : Nat → Prop) (U : State) (H : Heap) : Prop := vx_Zq Bundle.tN "UNASSIGNED_STACK" Bundle.steD A U H ∧ vx_Zq Bundle.tN "SUPPRESSED_SENTINEL" Bundle.listD A U H ∧ xW U
theorem xZ.warm {s U : State} {H : Heap} (hW : s.WarmedH U.vm) (h : xZ A s H) : xZ A U H := ⟨vx_Zq.moved hW.alike h.1, vx_Zq.moved hW.alike h.2.1, h.2.2.warm hW⟩
theorem xZ.kept {U : State} {H H1 : Heap} (h : xZ A U H) (hq : ∀ a : Nat, a < H.size → ¬ A a → H1[a]? = H[a]?) : xZ A U H1 := ⟨h.1.kept hq, h.2.1.kept hq, h.2.2⟩
theorem xZ.narrow {B : Nat → Prop} {U : State} {H : Heap} (h : xZ A U H) (hAB : ∀ q, B q → A q) : xZ B U H := ⟨h.1.narrow hAB, h.2.1.narrow hAB, h.2.2⟩
def xP (D : va_G) (tys : List (ClassId × FieldType)) (av : List Value) (w : va_W) (sz : Nat) : Array Value → State → Prop := va_Pc av (fun U => U.heap.size = sz ∧ va_P D vwCl w U.heap ∧ va_K D vwCl tys U ∧ va_D (fun _ => True) w ∧ xZ (va_A w sz) U U.heap)
/-- it has thrown E, and one cell at least is new -/
def xX (D : va_G) (tys : List (ClassId × FieldType)) (A : Nat → Prop) (E : String) (w' : va_W) : String → State → State → Prop := fun E' st t => (E' = E ∧ va_P D vwCl w' t.heap ∧ va_K D vwCl tys t ∧ va_D A w' ∧ va_F A st t) ∧ st.heap.size + 1 ≤ t.heap.size
/-- a contract of a call that throws E -/
def xM (l : Launch) (y : MethodName) (wsy : List Cond) (rm : Room) (D : va_G) (tys : List (ClassId × FieldType)) (av : List Value) (w : va_W) (E : String) : Prop :=
  ∀ sz : Nat, vx_Met l y wsy rm (xP D tys av w sz) (fun _ _ _ _ => False) (xX D tys (va_A w sz) E w) rm.cells rm.slots (va_A w sz)
theorem xP_blind {av : List Value} {w : va_W} {sz : Nat} : FrameBlind (xP D tys av w sz) := fun a U g mk q => by
  obtain ⟨q0, q1, qP, qK, qD, z1, z2, z3⟩ := q
  exact ⟨q0, q1, qP, va_K.moved (u := U) (U := U.calling g mk a) (Vm.Alike.refl U.vm) qK, qD, vx_Zq.moved (u := U) (U := U.calling g mk a) (Vm.Alike.refl U.vm) z1, vx_Zq.moved (u := U) (U := U.calling g mk a) (Vm.Alike.refl U.vm) z2, xW.same (u := U) (U := U.calling g mk a) rfl z3⟩
def hX (l : Launch) (s : State) (c : Code) (A : Nat → Prop) : Prop := xZ A s s.heap ∧ l.stackTraces = false ∧ ∀ x ∈ c.exceptionTable.toList, False
theorem xM_of {y : MethodName} {wsy ws' : List Cond} {rm : Room} {av : List Value} {w : va_W} {E : String} {maxL : Nat} {ret : Option FieldType} {own : String} {lv : List (Nat × Value)} (hl : l.stackTraces = false) (hy : plainName y.cls = true) (hw : wsy = Cond.code y cc maxL ret :: ws') (hlen : (lg_sl av).length ≤ maxL) (ho : y.cls = own) (hlv : lv_args 0 av = lv)
    (body : ∀ (p : Program) (e : Env) (s : State) (m : MethodId) (args : Array Value) (below : List Frame) (meth : Method) (c : Code) (A : Nat → Prop), hC p s m args meth c cc maxL wsy own D tys A → hX l s c A →
      hK 0 p l e rm s m args below meth c maxL D A 0 0 (vx_MQ below (fun _ _ _ _ => False) (xX D tys A E w) args s rm.cells rm.slots A) 0 lv [] w) : xM l y wsy rm D tys av w E := by
  subst hlv
  subst ho
  intro sz
  refine vx_ofW (cc := cc) (maxL := maxL) (ret := ret) hy hw ?_
  intro p e s m args below meth c s₁ B hml ht hv
  obtain ⟨rfl, hsz, hP, hK, hD0, hZ⟩ := hv
  subst hsz
  have hts := atoms_spec (ws := wsy) B.pre
  have hown : s.vm.findClass y.cls = some m.cls := findClass_of_methodNamed B.named
  have hD := hD0.self (sz := s.heap.size)
  have hA : ∀ q : Nat, s.heap.size ≤ q → va_A w s.heap.size q := fun q h => Or.inr h
  have hb := body p e s m av.toArray below meth c (va_A w s.heap.size) ⟨⟨B.exec, B.bytes, hml, hown, hts⟩, hK, B.notSynchronized, hA⟩ ⟨hZ, hl, ht⟩
  rw [lg_entry_eq]
  exact hb s.heap [] _ hP hD va_S.rf (Nat.le_refl _) (lv_entry av hlen)
theorem xng_words {ic : Nat} {cls : String} (hc : cls ∈ xCs) (hg : ∀ w ∈ vx_atS RX4 ic cls xUp, goodWord w = true ∨ w ∈ xDc.map Cond.declares ∨ w = .castable cls cls) (h1 : ∀ w ∈ (vx_atS RX4 ic cls xUp).filter goodWord, w.before args s = true) (hW : xW s) : ∀ w ∈ vx_atS RX4 ic cls xUp, w.before args s = true := by
  intro w hw
  rcases hg w hw with h | h | h
  · exact h1 w (List.mem_filter.mpr ⟨hw, h⟩)
  · obtain ⟨y, hy, rfl⟩ := List.mem_map.mp h
    exact va_Nw.use rfl (hW.1 y hy)
  · subst h
    exact va_Nw.use rfl (hW.2.1 cls hc)
/-- as vx_throwS of 02.exc, whose proof this follows: with the exception's own cell counted -/
theorem vx_throwG {ls : Array Slot} {H : Heap} {locs : List Loc} {rest : List Value} {free : Addr → Prop} {Qc : Array Value → State → Outcome → State → Prop} {XC : String → State → State → Prop} {cc : ByteArray} {pc : Nat} (hexec : p.tables.exec = Jvm.exec) (hb : c.code = cc) (hl : l.stackTraces = false) {own cls text : String} {names : List String} {ik is ic mc ms sa : Nat} {A : Nat → Prop}
    (hown : s.vm.findClass own = some m.cls) (hcls : Bundle.fit cls = true) (hnames : ∀ n ∈ names, Bundle.fit n = true)
    (hk : (Cond.classLink own ik cls).before args s = true) (hini : (Cond.initialized cls).before args s = true) (hstr : vk_R own is text sa s) (hat : ∀ w ∈ vx_atS own ic cls names, w.before args s = true)
    (hgood : ∀ w ∈ Cond.classLink own ik cls :: Cond.initialized cls :: vx_atS own ic cls names, vx_ot w = true)
    (hU : vx_Zq Bundle.tN "UNASSIGNED_STACK" Bundle.steD A s s.heap) (hN : vx_Zq Bundle.tN "SUPPRESSED_SENTINEL" Bundle.listD A s s.heap) (hS : va_S A s.heap H locs) (hsize : ls.size = c.maxLocals)
    (d0 : decode cc pc = .ok (.new ik, 3)) (d3 : decode cc (pc + 3) = .ok (.dup, 1)) (d4 : decode cc (pc + 4) = .ok (.ldc is, 2)) (d6 : decode cc (pc + 6) = .ok (.invokespecial ic, 3)) (d9 : decode cc (pc + 9) = .ok (.athrow, 1))
    (hout : ∀ x ∈ c.exceptionTable.toList, covers x (pc + 9) = false)
    (hRframes : names.length + 3 < R.frames) (hRlocals : (rest.map fun v => v.category).sum + (13 * (names.length + 1) + 43) ≤ R.locals) (hRcells : cells + 1 ≤ R.cells) (hRslots : slots + 6 ≤ R.slots) (hlocks : meth.locks = false)
    (hx : ∀ t : State, s.vm.Alike t.vm → H.size + 1 ≤ t.heap.size → (∀ q : Nat, q < H.size → t.heap[q]? = H[q]?) → XC cls s t)
    (hf : ∀ z ∈ locs, free z.base) (hc : cells + 1 ≤ mc) (hs : slots + 6 ≤ ms) :
    W p l e R s m args below meth c H locs cells slots (vx_MQ below Qc XC args s mc ms free) (F0 m pc ls rest) := by
  intro T hT X
  have htr : e.platform.stackTraces = false := (show e.platform.stackTraces = l.stackTraces by rw [X.admits.platform]).trans hl
  have Y := vx_rebase X (R' := { frames := R.frames, locals := R.locals, cells := 1, slots := 6 }) (Nat.le_refl _) (Nat.le_refl _) hRcells hRslots
  obtain ⟨s', hA⟩ : ∃ z, z = (T.setVm s.vm).setFrames (.invoking m args :: below) := ⟨_, rfl⟩
  rw [← hA] at Y
  have hvm : s'.vm = s.vm := by rw [hA]; rfl
  have hhp : s'.heap = H := by rw [hA]; exact hT
  have hW0 : s.WarmedH s'.vm := by rw [hvm]; exact State.WarmedH.refl s
  have hat' : ∀ w ∈ vx_atS own ic cls names, w.before args s' = true := fun w hw => vx_ot_at hW0 hvm.symm (hgood w (List.mem_cons_of_mem _ (List.mem_cons_of_mem _ hw))) (hat w hw)
  have hk' : (Cond.classLink own ik cls).before args s' = true := vx_ot_at hW0 hvm.symm (hgood _ List.mem_cons_self) hk
  have hini' : (Cond.initialized cls).before args s' = true := vx_ot_at hW0 hvm.symm (hgood _ (List.mem_cons_of_mem _ List.mem_cons_self)) hini
  have hU' : vx_Zq Bundle.tN "UNASSIGNED_STACK" Bundle.steD A s' s'.heap := by rw [hhp]; exact vx_Zq.moved hW0.alike (hU.kept hS.2.1)
  have hN' : vx_Zq Bundle.tN "SUPPRESSED_SENTINEL" Bundle.listD A s' s'.heap := by rw [hhp]; exact vx_Zq.moved hW0.alike (hN.kept hS.2.1)
  have h : ∀ w ∈ Bundle.ownAtoms own ic cls names, w.before args s' = true := vx_own hat' (vx_isRefq hU'.1) (vx_isRefq hN'.1) hU'.2.word hN'.2.word
  have hown' : s'.vm.findClass own = some m.cls := by rw [hvm]; exact hown
  have hins : (Cond.instantiable cls 6).before args s' = true := h _ (by simp [Bundle.ownAtoms])
  obtain ⟨vm₁, cX, kX, hfX, hkX, -, -, X₁, st1⟩ := Y.newCold hexec (own := own) (C := cls) (index := ik) (n := 6) hown' hk' hins hini'
    (g := F0 m pc ls rest) rfl (by rw [hb]; exact d0) (Nat.le_refl _) (Nat.le_refl _)
  generalize hT1 : (T.setVm vm₁).pushCell { cls := cX, slots := kX.instanceTypes.map defaultValue, vm := .none } = T1 at X₁ st1
  have hcat : (Value.ref T.heap.size).category = 1 := rfl
  have hcellA : T1.heap[T.heap.size]? = some (freshCell cX kX) := by rw [← hT1]; exact State.heap_pushCell_size _ _
  have d3' : decode c.code (pc + 3) = .ok (.dup, 1) := by rw [hb]; exact d3
  have d4' : decode c.code (pc + 4) = .ok (.ldc is, 2) := by rw [hb]; exact d4
  have hstr' : vk_R own is text sa s' := vk_R.warm hW0 hstr
  obtain ⟨U, hsteps, hrun, hend, hW, hsame, ce, hce, hO⟩ := X₁.ctorThrowS hexec htr (own := own) (cls := cls) (names := names) (ic := ic) hown' hcls hnames h (fun x hx => nomatch hx) hfX hkX hcellA (by rw [hhp, hT]; exact Nat.le_refl _) (msg := .ref sa) rfl
    (g := { method := m, pc := pc + 6, locals := ls, stack := .ref sa :: .ref T.heap.size :: .ref T.heap.size :: rest, locked := none }) rfl hsize rfl rfl (rest := rest) rfl
    (by rw [hb]; exact d6) (by rw [hb]; exact d9) hout hRframes (by simp only [List.map_cons, List.sum_cons, hcat]; omega) hlocks
  obtain ⟨f1, f2⟩ := vx_frame hsame
  rw [hhp] at f1 f2
  have hWs : s.WarmedH U.vm := State.WarmedH.trans hW0 hW
  have hcl : s.vm.findClass cls = some ce.cls := by
    have h9 := hO.cls
    rw [hvm] at h9
    exact h9
  have hall : s.sameButNew ({ U with vm := s.vm } : State) locs mc ms := by
    subst hA
    obtain ⟨e1, e2⟩ := hsame
    rw [State.setFrames_setFrames] at e1
    have h2 : (T.setVm s.vm).sameButNew ({ U with vm := s.vm } : State) [] (0 + 1) (0 + 6) := ⟨e1, e2⟩
    have h3 := X.same.trans h2
    rw [List.append_nil] at h3
    exact h3.mono hc hs
  have f0 : H.size + 1 ≤ U.heap.size := by
    have h9 := (Array.getElem?_eq_some_iff.mp hce).1
    rw [hT] at h9
    exact h9
  refine ⟨U, ?_, .threw T.heap.size, hrun, hend, Or.inr ⟨T.heap.size, rfl, cls, ce, locs, hx U hWs.alike f0 (fun q hq => f2 q hq (fun z hz => nomatch hz)), hce, hO.vm, hcl, hWs, hall, hf⟩⟩
  refine st1 _ ?_
  show Steps p.tables e below (T1.setTop { method := m, pc := pc + 3, locals := ls, stack := .ref T.heap.size :: rest, locked := none }) _
  jvm_step X₁.here [X₁.here.top, hexec, d3', Value.category]
  exact X₁.ldcString hexec (own := own) (text := text) (index := is) (a := sa) hown' hstr'.1 hstr'.2
    (g := { method := m, pc := pc + 4, locals := ls, stack := .ref T.heap.size :: .ref T.heap.size :: rest, locked := none }) rfl d4' _ hsteps
/-- 'throw new E(text)' leaves the method -/
theorem h_throw (C : hC p s m args meth c cc nL Ts RX4 D tys A) (X : hX l s c A) {cls text : String} {ik is ic : Nat} (hcs : cls ∈ xCs) (hcls : Bundle.fit cls = true) (hnames : ∀ n ∈ xUp, Bundle.fit n = true) (hk : Cond.classLink RX4 ik cls ∈ Ts) (hini : Cond.initialized cls ∈ Ts) (hstr : (is, text) ∈ xStr)
    (hat : ∀ w ∈ (vx_atS RX4 ic cls xUp).filter goodWord, w ∈ Ts) (hg : ∀ w ∈ vx_atS RX4 ic cls xUp, goodWord w = true ∨ w ∈ xDc.map Cond.declares ∨ w = .castable cls cls) (hgood : ∀ w ∈ Cond.classLink RX4 ik cls :: Cond.initialized cls :: vx_atS RX4 ic cls xUp, vx_ot w = true)
    (d0 : decode cc pc = .ok (.new ik, 3)) (d3 : decode cc (pc + 3) = .ok (.dup, 1)) (d4 : decode cc (pc + 4) = .ok (.ldc is, 2)) (d6 : decode cc (pc + 6) = .ok (.invokespecial ic, 3)) (d9 : decode cc (pc + 9) = .ok (.athrow, 1))
    (hR : 5 < R.frames ∧ (st.map fun v => v.category).sum + 82 ≤ R.locals ∧ cells + 1 ≤ R.cells ∧ slots + 6 ≤ R.slots) {mc ms : Nat} (hm : cells + 1 ≤ mc ∧ slots + 6 ≤ ms) :
    hK 0 p l e R s m args below meth c nL D A cells slots (vx_MQ below (fun _ _ _ _ => False) (xX D tys A cls ws) args s mc ms A) pc lv st ws := by
  intro H locs ls hP hD hS hG hl
  obtain ⟨⟨zU, zN, zW⟩, hl9, ht⟩ := X
  obtain ⟨sa, hsa⟩ := zW.2.2.2 _ hstr
  have hts := C.1.2.2.2.2
  refine vx_throwG (names := xUp) (sa := sa) C.1.1 C.1.2.1 hl9 C.1.2.2.2.1 hcls hnames (hts _ hk) (hts _ hini) hsa (xng_words hcs hg (fun w h => hts w (hat w h)) zW) hgood zU zN hS (hl.1.trans C.1.2.2.1.symm) d0 d3 d4 d6 d9 (fun x hx => (ht x hx).elim) hR.1 hR.2.1 hR.2.2.1 hR.2.2.2 C.2.2.1 ?_ hS.2.2 hm.1 hm.2
  intro t hvm hz hk
  exact ⟨⟨rfl, hP.kept (fun k q h => hk q.1 ((hP k q h).lt)), va_K.moved hvm C.2.1, hD, ⟨Nat.le_trans hS.1 (by omega), fun q h1 h2 => (hk q (Nat.lt_of_lt_of_le h1 hS.1)).trans (hS.2.1 q h1 h2)⟩⟩, by omega⟩
/-- a call that throws E, which a row of this method's table catches, past rows that name other classes: one cell more -/
theorem h_xcatch (C : hC p s m args meth c cc nL Ts own D tys A) (hZ : xZ A s s.heap) {y : MethodName} {wsy : List Cond} {rm : Room} {bytes : ByteArray} {maxL n index q0 ci b : Nat} {ret : Option FieldType} {Cn : String} {As rest : List Value} {wc : va_W} {E : String} {fs : List Value} {qc : vw_C}
    (hM : xM l y wsy rm D tys (.ref b :: As) wc E) (cw : CallW R s args own Cn index y bytes maxL ret wsy rm rm.cells rm.slots n) (hdg : decode cc pc = .ok (.invokevirtual index, 3))
    (hrec : ws[q0]? = some (b, .inr (ci, fs))) (hci : vwCl[ci]? = some qc) (hqn : qc.1 = Cn) (hn : As.length = n) (hst : st = As.reverse ++ .ref b :: rest) (hcat : (rest.map fun v => v.category).sum ≤ 8) (hf : cells + rm.cells ≤ R.cells ∧ slots + rm.slots ≤ R.slots)
    (isC isR is : List Nat) (hCs : isC.map (fun i => ws[i]?) = wc.map some) (hRs : isR.map (fun i => ws[i]?) = (isR.filterMap (fun i => ws[i]?)).map some) (hndC : va_nd isC = true) (hnd : va_nd isR = true) (hdis : ∀ i ∈ isR, i ∉ isC) (hin : va_nd is = true) (his : is.map (fun i => (isR.filterMap (fun i => ws[i]?) ++ wc)[i]?) = ws.map some)
    (pre : List ExceptionTableEntry) (x : ExceptionTableEntry) (suf : List ExceptionTableEntry) (hsplit : c.exceptionTable.toList = pre ++ x :: suf)
    (hpass : ∀ z ∈ pre, covers z pc = false ∨ (z.catchType ≠ 0 ∧ ∃ nm : String, Cond.classLink own z.catchType nm ∈ Ts ∧ va_Nc E nm s)) (hx : covers x pc = true) (hcz : x.catchType ≠ 0) (hlink : Cond.classLink own x.catchType E ∈ Ts) (hE : E ∈ xCs) {hpc : Nat} (hh : x.handlerPc = hpc)
    (kk : ∀ q : Nat, hK (G + 1) p l e R s m args below meth c nL D A (cells + rm.cells) (slots + rm.slots) Q hpc lv [.ref q] ws) : hK G p l e R s m args below meth c nL D A cells slots Q pc lv st ws := by
  subst hst
  subst hh
  intro H locs ls hP hD hS hG hl
  have hA := C.2.2.2
  have hDc : va_D A wc := hD.sub isC hndC hCs
  have hFc := va_free (wc := wc) hD hS hA isC hCs
  have hZ1 : xZ (va_A wc H.size) s H := (hZ.kept (fun a h1 h2 => hS.2.1 a h1 h2)).narrow hFc
  have hPc := h_psub hCs hP
  intro T hT X
  rcases vx_runV (As := As) (rest := rest) C.1 (hM H.size) cw ⟨xP_blind, by rw [← hqn]; exact va_recv C.2.1 hP hci hrec, fun U hU hW => ⟨rfl, by rw [hU], by rw [hU]; exact hPc, va_K.moved hW.alike C.2.1, hDc.weaken (fun _ _ _ _ => trivial), by rw [hU]; exact hZ1.warm hW⟩⟩ rfl hn hl.1 rfl (lv_room hcat) hdg hf T hT X with ⟨v, st₀, t, T', L, h0, X', hL, e1, e2, hf, go⟩ | ⟨q, st₀, t, T', L, E', ce, h0, X', hL, e1, e2, ⟨⟨rfl, hP1, hK1, hD1, hz, hk⟩, hg⟩, hce, hcv, hcl, go⟩
  · exact hf.elim
  · rw [h0] at hz hk hg
    obtain ⟨hP2, hD2⟩ := va_join (H1 := T'.heap) (wr := isR.filterMap (fun i => ws[i]?)) (w1 := wc) hP hD isC isR hCs hRs hnd hdis (fun q h1 h2 => by rw [e1]; exact hk q h1 h2) hFc (by rw [e1]; exact hP1) hD1
    have hS2 : va_S A s.heap T'.heap (locs ++ L) := ⟨Nat.le_trans hS.1 (by rw [e1]; exact hz), fun q h1 h2 => by rw [e1, hk q (Nat.lt_of_lt_of_le h1 hS.1) (fun z => h2 (hFc q z))]; exact hS.2.1 q h1 h2, fun q hq => by
        rcases List.mem_append.mp hq with h | h
        · exact hS.2.2 q h
        · exact hFc _ (hL q h)⟩
    have hG2 : s.heap.size + (G + 1) ≤ T'.heap.size := by rw [e1]; omega
    obtain ⟨t2, a1, b1⟩ := vx_catch (own := own) C.1.2.2.2.1 pre x suf hsplit (fun z hz => by
        rcases hpass z hz with h | ⟨h1, nm, h2, h3⟩
        · exact Or.inl h
        · exact Or.inr ⟨h1, nm, C.1.2.2.2.2 _ h2, h3⟩) hx hcz (C.1.2.2.2.2 _ hlink) (va_Nw.use rfl (hZ.2.2.2.1 _ hE)) (by rw [e1]; exact hce) hcv hcl (kk q T'.heap (locs ++ L) ls (h_psub his hP2) (hD2.sub is hin his) hS2 hG2 hl) T' rfl X'
    exact ⟨t2, go.trans a1, b1⟩
/-! methods that return, having made g cells at least; their callees may throw -/
def gM (g : Nat) (l : Launch) (y : MethodName) (wsy : List Cond) (rm : Room) (D : va_G) (tys : List (ClassId × FieldType)) (av : List Value) (w : va_W) (ro : Option Value) : Prop :=
  ∀ sz : Nat, Met l y wsy rm (xP D tys av w sz) (gQ g D tys (va_A w sz) ro w) rm.cells rm.slots (va_A w sz)
/-- .. with a table of their own -/
theorem gM_ofW {g : Nat} {y : MethodName} {wsy ws' : List Cond} {rm : Room} {av : List Value} {w : va_W} {ro : Option Value} {maxL : Nat} {ret : Option FieldType} {hh : List (Nat × Nat × Nat × Nat)} {own : String} {lv : List (Nat × Value)} (hy : plainName y.cls = true) (hw : wsy = Cond.codeWith y cc maxL ret hh :: ws') (hlen : (lg_sl av).length ≤ maxL) (ho : y.cls = own) (hlv : lv_args 0 av = lv)
    (body : ∀ (p : Program) (e : Env) (s : State) (m : MethodId) (args : Array Value) (below : List Frame) (meth : Method) (c : Code) (A : Nat → Prop), hC p s m args meth c cc maxL wsy own D tys A → xZ A s s.heap → c.exceptionTable.toList = tableOf hh → meth.sig.returnType = ret →
      hK 0 p l e rm s m args below meth c maxL D A 0 0 (MQ below (gQ g D tys A ro w) args s rm.cells rm.slots A) 0 lv [] w) : gM g l y wsy rm D tys av w ro := by
  subst hlv
  subst ho
  intro sz
  refine va_MetW (cc := cc) (maxL := maxL) (ret := ret) (hh := hh) hy hw ?_
  intro p e s m args below meth c s₁ B hml hv
  obtain ⟨rfl, hsz, hP, hK, hD0, hZ⟩ := hv
  subst hsz
  have hts := atoms_spec (ws := wsy) B.pre
  have hown : s.vm.findClass y.cls = some m.cls := findClass_of_methodNamed B.named
  have hD := hD0.self (sz := s.heap.size)
  have hA : ∀ q : Nat, s.heap.size ≤ q → va_A w s.heap.size q := fun q h => Or.inr h
  have htab := vx_table (x := y) B (hts _ (by rw [hw]; exact List.mem_cons_self))
  have hb := body p e s m av.toArray below meth c (va_A w s.heap.size) ⟨⟨B.exec, B.bytes, hml, hown, hts⟩, hK, B.notSynchronized, hA⟩ hZ htab B.returns
  rw [lg_entry_eq]
  exact hb s.heap [] _ hP hD va_S.rf (Nat.le_refl _) (lv_entry av hlen)
/-- .. without one -/
theorem gM_of {g : Nat} {y : MethodName} {wsy ws' : List Cond} {rm : Room} {av : List Value} {w : va_W} {ro : Option Value} {maxL : Nat} {ret : Option FieldType} {own : String} {lv : List (Nat × Value)} (hy : plainName y.cls = true) (hw : wsy = Cond.code y cc maxL ret :: ws') (hlen : (lg_sl av).length ≤ maxL) (ho : y.cls = own) (hlv : lv_args 0 av = lv)
    (body : ∀ (p : Program) (e : Env) (s : State) (m : MethodId) (args : Array Value) (below : List Frame) (meth : Method) (c : Code) (A : Nat → Prop), hC p s m args meth c cc maxL wsy own D tys A → xZ A s s.heap → meth.sig.returnType = ret →
      hK 0 p l e rm s m args below meth c maxL D A 0 0 (MQ below (gQ g D tys A ro w) args s rm.cells rm.slots A) 0 lv [] w) : gM g l y wsy rm D tys av w ro := by
  subst hlv
  subst ho
  intro sz
  refine Met.ofW (cc := cc) (maxL := maxL) (ret := ret) hy hw ?_
  intro p e s m args below meth c s₁ B hml hv
  obtain ⟨rfl, hsz, hP, hK, hD0, hZ⟩ := hv
  subst hsz
  have hts := atoms_spec (ws := wsy) B.pre
  have hown : s.vm.findClass y.cls = some m.cls := findClass_of_methodNamed B.named
  have hD := hD0.self (sz := s.heap.size)
  have hA : ∀ q : Nat, s.heap.size ≤ q → va_A w s.heap.size q := fun q h => Or.inr h
  have hb := body p e s m av.toArray below meth c (va_A w s.heap.size) ⟨⟨B.exec, B.bytes, hml, hown, hts⟩, hK, B.notSynchronized, hA⟩ hZ B.returns
  rw [lg_entry_eq]
  exact hb s.heap [] _ hP hD va_S.rf (Nat.le_refl _) (lv_entry av hlen)
theorem h_callSW {g : Nat} (C : hC p s m args meth c cc nL Ts own D tys A) (hZ : xZ A s s.heap) {y : MethodName} {wsy : List Cond} {rm : Room} {bytes : ByteArray} {maxL n index : Nat} {ret : Option FieldType} {hh : List (Nat × Nat × Nat × Nat)} {As rest : List Value} {wc : va_W} {ro : Option Value}
    (hM : gM g l y wsy rm D tys As wc ro) (cw : vx_CSW R s args own index y bytes maxL ret hh wsy rm rm.cells rm.slots n) (hdg : decode cc pc = .ok (.invokestatic index, 3))
    (hn : As.length = n) (hst : st = As.reverse ++ rest) (hcat : (rest.map fun v => v.category).sum ≤ 8) (hf : cells + rm.cells ≤ R.cells ∧ slots + rm.slots ≤ R.slots)
    (isC isR is : List Nat) (hCs : isC.map (fun i => ws[i]?) = wc.map some) (hRs : isR.map (fun i => ws[i]?) = (isR.filterMap (fun i => ws[i]?)).map some) (hndC : va_nd isC = true) (hnd : va_nd isR = true) (hdis : ∀ i ∈ isR, i ∉ isC) (hin : va_nd is = true) (his : is.map (fun i => (isR.filterMap (fun i => ws[i]?) ++ wc)[i]?) = ws.map some) {st2 : List Value} (hst2 : ro.toList ++ rest = st2)
    (kk : hK (G + g) p l e R s m args below meth c nL D A (cells + rm.cells) (slots + rm.slots) Q (pc + 3) lv st2 ws) : hK G p l e R s m args below meth c nL D A cells slots Q pc lv st ws := by
  subst hst
  subst hst2
  exact h_run C.2.2.2 (fun H locs ls hPc hP hDc hFc hS hl => vx_runSW (As := As) (rest := rest) C.1 (hM H.size) cw ⟨xP_blind, fun U hU hW => ⟨rfl, by rw [hU], by rw [hU]; exact hPc, va_K.moved hW.alike C.2.1, hDc, by rw [hU]; exact ((hZ.kept (fun a h1 h2 => hS.2.1 a h1 h2)).narrow hFc).warm hW⟩⟩ rfl hn hl.1 rfl (lv_room hcat) hdg hf) isC isR is hCs hRs hndC hnd hdis hin his kk
theorem h_callS {g : Nat} (C : hC p s m args meth c cc nL Ts own D tys A) (hZ : xZ A s s.heap) {y : MethodName} {wsy : List Cond} {rm : Room} {bytes : ByteArray} {maxL n index : Nat} {ret : Option FieldType} {As rest : List Value} {wc : va_W} {ro : Option Value}
    (hM : gM g l y wsy rm D tys As wc ro) (cw : CallB R s args own index y bytes maxL ret wsy rm rm.cells rm.slots n ∧ (Cond.static y).before args s = true) (hdg : decode cc pc = .ok (.invokestatic index, 3))
    (hn : As.length = n) (hst : st = As.reverse ++ rest) (hcat : (rest.map fun v => v.category).sum ≤ 8) (hf : cells + rm.cells ≤ R.cells ∧ slots + rm.slots ≤ R.slots)
    (isC isR is : List Nat) (hCs : isC.map (fun i => ws[i]?) = wc.map some) (hRs : isR.map (fun i => ws[i]?) = (isR.filterMap (fun i => ws[i]?)).map some) (hndC : va_nd isC = true) (hnd : va_nd isR = true) (hdis : ∀ i ∈ isR, i ∉ isC) (hin : va_nd is = true) (his : is.map (fun i => (isR.filterMap (fun i => ws[i]?) ++ wc)[i]?) = ws.map some) {st2 : List Value} (hst2 : ro.toList ++ rest = st2)
    (kk : hK (G + g) p l e R s m args below meth c nL D A (cells + rm.cells) (slots + rm.slots) Q (pc + 3) lv st2 ws) : hK G p l e R s m args below meth c nL D A cells slots Q pc lv st ws := by
  subst hst
  subst hst2
  exact h_run C.2.2.2 (fun H locs ls hPc hP hDc hFc hS hl => va_runS (As := As) (rest := rest) C.1 (hM H.size) cw ⟨xP_blind, fun U hU hW => ⟨rfl, by rw [hU], by rw [hU]; exact hPc, va_K.moved hW.alike C.2.1, hDc, by rw [hU]; exact ((hZ.kept (fun a h1 h2 => hS.2.1 a h1 h2)).narrow hFc).warm hW⟩⟩ rfl hn hl.1 rfl (lv_room hcat) hdg hf) isC isR is hCs hRs hndC hnd hdis hin his kk
theorem xng_IAE : ∀ w ∈ vx_atS RX4 164 xIAE xUp, goodWord w = true ∨ w ∈ xDc.map Cond.declares ∨ w = .castable xIAE xIAE := by decide +kernel
theorem xng_ISE : ∀ w ∈ vx_atS RX4 39 xISE xUp, goodWord w = true ∨ w ∈ xDc.map Cond.declares ∨ w = .castable xISE xISE := by decide +kernel
theorem xng_IOE : ∀ w ∈ vx_atS RX4 111 xIOE xUp, goodWord w = true ∨ w ∈ xDc.map Cond.declares ∨ w = .castable xIOE xIOE := by decide +kernel
theorem xgd_IAE : ∀ w ∈ Cond.classLink RX4 160 xIAE :: Cond.initialized xIAE :: vx_atS RX4 164 xIAE xUp, vx_ot w = true := by decide +kernel
theorem xgd_ISE : ∀ w ∈ Cond.classLink RX4 35 xISE :: Cond.initialized xISE :: vx_atS RX4 39 xISE xUp, vx_ot w = true := by decide +kernel
theorem xgd_IOE : ∀ w ∈ Cond.classLink RX4 107 xIOE :: Cond.initialized xIOE :: vx_atS RX4 111 xIOE xUp, vx_ot w = true := by decide +kernel
theorem xft_IAE : Bundle.fit xIAE = true := by decide +kernel
theorem xft_ISE : Bundle.fit xISE = true := by decide +kernel
theorem xft_IOE : Bundle.fit xIOE = true := by decide +kernel
theorem xft_up : ∀ n ∈ xUp, Bundle.fit n = true := by decide +kernel
theorem xin_IAE : xIAE ∈ xCs := by decide +kernel
theorem xin_ISE : xISE ∈ xCs := by decide +kernel
theorem xin_IOE : xIOE ∈ xCs := by decide +kernel
end HX
