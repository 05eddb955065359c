/-! ===== my kit: a method's fixed things in one word, a point of its walk in another; an instruction a row ===== -/
section HK
variable {p : Program} {l : Launch} {e : Env} {R : Room} {s : State} {m : MethodId} {args : Array Value} {below : List Frame} {meth : Method} {c : Code} {cells slots : Nat} {Q : State → Prop}
variable {cc : ByteArray} {nL : Nat} {Ts : List Cond} {own : String} {D : va_G} {tys : List (ClassId × FieldType)} {A : Nat → Prop} {pc : Nat} {lv : List (Nat × Value)} {st : List Value} {ws : va_W}
def hC (p : Program) (s : State) (m : MethodId) (args : Array Value) (meth : Method) (c : Code) (cc : ByteArray) (nL : Nat) (Ts : List Cond) (own : String) (D : va_G) (tys : List (ClassId × FieldType)) (A : Nat → Prop) : Prop :=
  CallFix p m c cc nL s args Ts own ∧ va_K D vwCl tys s ∧ meth.locks = false ∧ ∀ q, s.heap.size ≤ q → A q
/-- at pc, with these locals, this stack and this world, the machine comes to Q -/
def hS (p : Program) (l : Launch) (e : Env) (R : Room) (s : State) (m : MethodId) (args : Array Value) (below : List Frame) (meth : Method) (c : Code) (nL : Nat) (D : va_G) (A : Nat → Prop) (cells slots : Nat) (Q : State → Prop) (pc : Nat) (lv : List (Nat × Value)) (st : List Value) (ws : va_W) : Prop :=
  ∀ (H : Heap) (locs : List Loc) (ls : Array Slot), va_P D vwCl ws H → va_D A ws → va_S A s.heap H locs → lv_has ls nL lv → W p l e R s m args below meth c H locs cells slots Q (F0 m pc ls st)
theorem h_iconst (C : hC p s m args meth c cc nL Ts own D tys A) {n : Int} {v : Int32} (hdg : decode cc pc = .ok (.iconst n, 1)) (hv : Int32.ofInt n = v) (k : hS p l e R s m args below meth c nL D A cells slots Q (pc + 1) lv (.int v :: st) ws) : hS p l e R s m args below meth c nL D A cells slots Q pc lv st ws :=
  fun H locs ls hP hD hS hl => lv_iconst C.1.1 C.1.2.1 hdg hv (k H locs ls hP hD hS hl)
theorem h_bipush (C : hC p s m args meth c cc nL Ts own D tys A) {n : Int} {v : Int32} (hdg : decode cc pc = .ok (.bipush n, 2)) (hv : (Int8.ofInt n).toInt32 = v) (k : hS p l e R s m args below meth c nL D A cells slots Q (pc + 2) lv (.int v :: st) ws) : hS p l e R s m args below meth c nL D A cells slots Q pc lv st ws :=
  fun H locs ls hP hD hS hl => lv_bipush C.1.1 C.1.2.1 hdg hv (k H locs ls hP hD hS hl)
theorem h_sipush (C : hC p s m args meth c cc nL Ts own D tys A) {n : Int} {v : Int32} (hdg : decode cc pc = .ok (.sipush n, 3)) (hv : (Int16.ofInt n).toInt32 = v) (k : hS p l e R s m args below meth c nL D A cells slots Q (pc + 3) lv (.int v :: st) ws) : hS p l e R s m args below meth c nL D A cells slots Q pc lv st ws :=
  fun H locs ls hP hD hS hl => lv_sipush C.1.1 C.1.2.1 hdg hv (k H locs ls hP hD hS hl)
theorem h_iload_n (C : hC p s m args meth c cc nL Ts own D tys A) {k : Fin 4} {i : Nat} {x : Int32} (hdg : decode cc pc = .ok (.iload_n k, 1)) (hi : (k : Nat) = i) (j : Nat) (hj : lv[j]? = some (i, .int x)) (kk : hS p l e R s m args below meth c nL D A cells slots Q (pc + 1) lv (.int x :: st) ws) : hS p l e R s m args below meth c nL D A cells slots Q pc lv st ws :=
  fun H locs ls hP hD hS hl => lv_iload_n C.1.1 C.1.2.1 hdg hi (lv_at hl j hj) (kk H locs ls hP hD hS hl)
theorem h_iload (C : hC p s m args meth c cc nL Ts own D tys A) {i : Nat} {x : Int32} (hdg : decode cc pc = .ok (.iload i, 2)) (j : Nat) (hj : lv[j]? = some (i, .int x)) (kk : hS p l e R s m args below meth c nL D A cells slots Q (pc + 2) lv (.int x :: st) ws) : hS p l e R s m args below meth c nL D A cells slots Q pc lv st ws :=
  fun H locs ls hP hD hS hl => lv_iload C.1.1 C.1.2.1 hdg (lv_at hl j hj) (kk H locs ls hP hD hS hl)
theorem h_aload_n (C : hC p s m args meth c cc nL Ts own D tys A) {k : Fin 4} {i : Nat} {x : Nat} (hdg : decode cc pc = .ok (.aload_n k, 1)) (hi : (k : Nat) = i) (j : Nat) (hj : lv[j]? = some (i, .ref x)) (kk : hS p l e R s m args below meth c nL D A cells slots Q (pc + 1) lv (.ref x :: st) ws) : hS p l e R s m args below meth c nL D A cells slots Q pc lv st ws :=
  fun H locs ls hP hD hS hl => lv_aload_n C.1.1 C.1.2.1 hdg hi (lv_at hl j hj) (kk H locs ls hP hD hS hl)
theorem h_aload (C : hC p s m args meth c cc nL Ts own D tys A) {i : Nat} {x : Nat} (hdg : decode cc pc = .ok (.aload i, 2)) (j : Nat) (hj : lv[j]? = some (i, .ref x)) (kk : hS p l e R s m args below meth c nL D A cells slots Q (pc + 2) lv (.ref x :: st) ws) : hS p l e R s m args below meth c nL D A cells slots Q pc lv st ws :=
  fun H locs ls hP hD hS hl => lv_aload C.1.1 C.1.2.1 hdg (lv_at hl j hj) (kk H locs ls hP hD hS hl)
theorem h_istore_n (C : hC p s m args meth c cc nL Ts own D tys A) {k : Fin 4} {i : Nat} {x : Int32} {lv' : List (Nat × Value)} (hdg : decode cc pc = .ok (.istore_n k, 1)) (hi : (k : Nat) = i) (hn : i < nL) (hl' : (i, Value.int x) :: lv.filter (fun q => !(q.1 == i) && !(q.1 + 1 == i && q.2.category == 2)) = lv') (kk : hS p l e R s m args below meth c nL D A cells slots Q (pc + 1) lv' st ws) : hS p l e R s m args below meth c nL D A cells slots Q pc lv (.int x :: st) ws :=
  fun H locs ls hP hD hS hl => lv_istore_n C.1.1 C.1.2.1 hdg hi hl hn hl' (fun ls' h' => kk H locs ls' hP hD hS h')
theorem h_istore (C : hC p s m args meth c cc nL Ts own D tys A) {i : Nat} {x : Int32} {lv' : List (Nat × Value)} (hdg : decode cc pc = .ok (.istore i, 2)) (hn : i < nL) (hl' : (i, Value.int x) :: lv.filter (fun q => !(q.1 == i) && !(q.1 + 1 == i && q.2.category == 2)) = lv') (kk : hS p l e R s m args below meth c nL D A cells slots Q (pc + 2) lv' st ws) : hS p l e R s m args below meth c nL D A cells slots Q pc lv (.int x :: st) ws :=
  fun H locs ls hP hD hS hl => lv_istore C.1.1 C.1.2.1 hdg hl hn hl' (fun ls' h' => kk H locs ls' hP hD hS h')
theorem h_astore_n (C : hC p s m args meth c cc nL Ts own D tys A) {k : Fin 4} {i : Nat} {x : Nat} {lv' : List (Nat × Value)} (hdg : decode cc pc = .ok (.astore_n k, 1)) (hi : (k : Nat) = i) (hn : i < nL) (hl' : (i, Value.ref x) :: lv.filter (fun q => !(q.1 == i) && !(q.1 + 1 == i && q.2.category == 2)) = lv') (kk : hS p l e R s m args below meth c nL D A cells slots Q (pc + 1) lv' st ws) : hS p l e R s m args below meth c nL D A cells slots Q pc lv (.ref x :: st) ws :=
  fun H locs ls hP hD hS hl => lv_astore_n C.1.1 C.1.2.1 hdg hi hl hn hl' (fun ls' h' => kk H locs ls' hP hD hS h')
theorem h_astore (C : hC p s m args meth c cc nL Ts own D tys A) {i : Nat} {x : Nat} {lv' : List (Nat × Value)} (hdg : decode cc pc = .ok (.astore i, 2)) (hn : i < nL) (hl' : (i, Value.ref x) :: lv.filter (fun q => !(q.1 == i) && !(q.1 + 1 == i && q.2.category == 2)) = lv') (kk : hS p l e R s m args below meth c nL D A cells slots Q (pc + 2) lv' st ws) : hS p l e R s m args below meth c nL D A cells slots Q pc lv (.ref x :: st) ws :=
  fun H locs ls hP hD hS hl => lv_astore C.1.1 C.1.2.1 hdg hl hn hl' (fun ls' h' => kk H locs ls' hP hD hS h')
theorem h_iinc (C : hC p s m args meth c cc nL Ts own D tys A) {i : Nat} {n : Int} {x v : Int32} {lv' : List (Nat × Value)} (hdg : decode cc pc = .ok (.iinc i n, 3)) (k : Nat) (hk : lv[k]? = some (i, .int x)) (hv : x + Int32.ofInt n = v) (hn : i < nL) (hl' : (i, Value.int v) :: lv.filter (fun q => !(q.1 == i) && !(q.1 + 1 == i && q.2.category == 2)) = lv') (kk : hS p l e R s m args below meth c nL D A cells slots Q (pc + 3) lv' st ws) : hS p l e R s m args below meth c nL D A cells slots Q pc lv st ws :=
  fun H locs ls hP hD hS hl => lv_iinc C.1.1 C.1.2.1 hdg hl hk hv hn hl' (fun ls' h' => kk H locs ls' hP hD hS h')
theorem h_iadd (C : hC p s m args meth c cc nL Ts own D tys A) {x y : Int32} (hdg : decode cc pc = .ok (.iadd, 1)) (k : hS p l e R s m args below meth c nL D A cells slots Q (pc + 1) lv (.int (x + y) :: st) ws) : hS p l e R s m args below meth c nL D A cells slots Q pc lv (.int y :: .int x :: st) ws :=
  fun H locs ls hP hD hS hl => lv_iadd C.1.1 C.1.2.1 hdg (k H locs ls hP hD hS hl)
theorem h_isub (C : hC p s m args meth c cc nL Ts own D tys A) {x y : Int32} (hdg : decode cc pc = .ok (.isub, 1)) (k : hS p l e R s m args below meth c nL D A cells slots Q (pc + 1) lv (.int (x - y) :: st) ws) : hS p l e R s m args below meth c nL D A cells slots Q pc lv (.int y :: .int x :: st) ws :=
  fun H locs ls hP hD hS hl => lv_isub C.1.1 C.1.2.1 hdg (k H locs ls hP hD hS hl)
theorem h_imul (C : hC p s m args meth c cc nL Ts own D tys A) {x y : Int32} (hdg : decode cc pc = .ok (.imul, 1)) (k : hS p l e R s m args below meth c nL D A cells slots Q (pc + 1) lv (.int (x * y) :: st) ws) : hS p l e R s m args below meth c nL D A cells slots Q pc lv (.int y :: .int x :: st) ws :=
  fun H locs ls hP hD hS hl => lv_imul C.1.1 C.1.2.1 hdg (k H locs ls hP hD hS hl)
theorem h_idiv (C : hC p s m args meth c cc nL Ts own D tys A) {x y : Int32} (hdg : decode cc pc = .ok (.idiv, 1)) (hne : ¬ y = 0) (k : hS p l e R s m args below meth c nL D A cells slots Q (pc + 1) lv (.int (x / y) :: st) ws) : hS p l e R s m args below meth c nL D A cells slots Q pc lv (.int y :: .int x :: st) ws :=
  fun H locs ls hP hD hS hl => lv_idiv C.1.1 C.1.2.1 hdg hne (k H locs ls hP hD hS hl)
theorem h_iand (C : hC p s m args meth c cc nL Ts own D tys A) {x y : Int32} (hdg : decode cc pc = .ok (.iand, 1)) (k : hS p l e R s m args below meth c nL D A cells slots Q (pc + 1) lv (.int (x &&& y) :: st) ws) : hS p l e R s m args below meth c nL D A cells slots Q pc lv (.int y :: .int x :: st) ws :=
  fun H locs ls hP hD hS hl => lv_iand C.1.1 C.1.2.1 hdg (k H locs ls hP hD hS hl)
theorem h_ior (C : hC p s m args meth c cc nL Ts own D tys A) {x y : Int32} (hdg : decode cc pc = .ok (.ior, 1)) (k : hS p l e R s m args below meth c nL D A cells slots Q (pc + 1) lv (.int (x ||| y) :: st) ws) : hS p l e R s m args below meth c nL D A cells slots Q pc lv (.int y :: .int x :: st) ws :=
  fun H locs ls hP hD hS hl => lv_ior C.1.1 C.1.2.1 hdg (k H locs ls hP hD hS hl)
/-- x << y, x >>> y of ints -/
def jshl (x y : Int32) : Int32 := x <<< (y &&& 31)
def jushr (x y : Int32) : Int32 := (x.toUInt32 >>> (y.toUInt32 &&& Int32.toUInt32 31)).toInt32
theorem h_ishl (C : hC p s m args meth c cc nL Ts own D tys A) {x y : Int32} (hdg : decode cc pc = .ok (.ishl, 1)) (k : hS p l e R s m args below meth c nL D A cells slots Q (pc + 1) lv (.int (jshl x y) :: st) ws) : hS p l e R s m args below meth c nL D A cells slots Q pc lv (.int y :: .int x :: st) ws :=
  fun H locs ls hP hD hS hl => lv_ishl C.1.1 C.1.2.1 hdg (k H locs ls hP hD hS hl)
theorem h_iushr (C : hC p s m args meth c cc nL Ts own D tys A) {x y : Int32} (hdg : decode cc pc = .ok (.iushr, 1)) (k : hS p l e R s m args below meth c nL D A cells slots Q (pc + 1) lv (.int (jushr x y) :: st) ws) : hS p l e R s m args below meth c nL D A cells slots Q pc lv (.int y :: .int x :: st) ws :=
  fun H locs ls hP hD hS hl => lv_iushr C.1.1 C.1.2.1 hdg rfl (k H locs ls hP hD hS hl)
theorem h_dup (C : hC p s m args meth c cc nL Ts own D tys A) {va : Value} (hdg : decode cc pc = .ok (.dup, 1)) (hva : va.category = 1) (k : hS p l e R s m args below meth c nL D A cells slots Q (pc + 1) lv (va :: va :: st) ws) : hS p l e R s m args below meth c nL D A cells slots Q pc lv (va :: st) ws :=
  fun H locs ls hP hD hS hl => lv_dup C.1.1 C.1.2.1 hdg hva (k H locs ls hP hD hS hl)
theorem h_dup2 (C : hC p s m args meth c cc nL Ts own D tys A) {va vb : Value} (hdg : decode cc pc = .ok (.dup2, 1)) (hva : va.category = 1) (hvb : vb.category = 1) (k : hS p l e R s m args below meth c nL D A cells slots Q (pc + 1) lv (va :: vb :: va :: vb :: st) ws) : hS p l e R s m args below meth c nL D A cells slots Q pc lv (va :: vb :: st) ws :=
  fun H locs ls hP hD hS hl => lv_dup2_11 C.1.1 C.1.2.1 hdg hva hvb (k H locs ls hP hD hS hl)
theorem h_goto (C : hC p s m args meth c cc nL Ts own D tys A) {off : Int} {tgt : Nat} (hdg : decode cc pc = .ok (.goto off, 3)) (ht : (pc : Int) + off = (tgt : Int)) (k : hS p l e R s m args below meth c nL D A cells slots Q tgt lv st ws) : hS p l e R s m args below meth c nL D A cells slots Q pc lv st ws :=
  fun H locs ls hP hD hS hl => lv_goto C.1.1 C.1.2.1 hdg ht (k H locs ls hP hD hS hl)
theorem h_if_eq (C : hC p s m args meth c cc nL Ts own D tys A) {x : Int32} {off : Int} {tgt : Nat} (hdg : decode cc pc = .ok (.ifCond .eq off, 3)) (ht : (pc : Int) + off = (tgt : Int)) (kt : x = 0 → hS p l e R s m args below meth c nL D A cells slots Q tgt lv st ws) (kf : ¬ x = 0 → hS p l e R s m args below meth c nL D A cells slots Q (pc + 3) lv st ws) : hS p l e R s m args below meth c nL D A cells slots Q pc lv (.int x :: st) ws :=
  fun H locs ls hP hD hS hl => lv_if_eq C.1.1 C.1.2.1 hdg ht (fun q => kt q H locs ls hP hD hS hl) (fun q => kf q H locs ls hP hD hS hl)
theorem h_if_ne (C : hC p s m args meth c cc nL Ts own D tys A) {x : Int32} {off : Int} {tgt : Nat} (hdg : decode cc pc = .ok (.ifCond .ne off, 3)) (ht : (pc : Int) + off = (tgt : Int)) (kt : ¬ x = 0 → hS p l e R s m args below meth c nL D A cells slots Q tgt lv st ws) (kf : x = 0 → hS p l e R s m args below meth c nL D A cells slots Q (pc + 3) lv st ws) : hS p l e R s m args below meth c nL D A cells slots Q pc lv (.int x :: st) ws :=
  fun H locs ls hP hD hS hl => lv_if_ne C.1.1 C.1.2.1 hdg ht (fun q => kt q H locs ls hP hD hS hl) (fun q => kf q H locs ls hP hD hS hl)
theorem h_if_lt (C : hC p s m args meth c cc nL Ts own D tys A) {x : Int32} {off : Int} {tgt : Nat} (hdg : decode cc pc = .ok (.ifCond .lt off, 3)) (ht : (pc : Int) + off = (tgt : Int)) (kt : x < 0 → hS p l e R s m args below meth c nL D A cells slots Q tgt lv st ws) (kf : ¬ x < 0 → hS p l e R s m args below meth c nL D A cells slots Q (pc + 3) lv st ws) : hS p l e R s m args below meth c nL D A cells slots Q pc lv (.int x :: st) ws :=
  fun H locs ls hP hD hS hl => lv_if_lt C.1.1 C.1.2.1 hdg ht (fun q => kt q H locs ls hP hD hS hl) (fun q => kf q H locs ls hP hD hS hl)
theorem h_if_ge (C : hC p s m args meth c cc nL Ts own D tys A) {x : Int32} {off : Int} {tgt : Nat} (hdg : decode cc pc = .ok (.ifCond .ge off, 3)) (ht : (pc : Int) + off = (tgt : Int)) (kt : 0 ≤ x → hS p l e R s m args below meth c nL D A cells slots Q tgt lv st ws) (kf : ¬ 0 ≤ x → hS p l e R s m args below meth c nL D A cells slots Q (pc + 3) lv st ws) : hS p l e R s m args below meth c nL D A cells slots Q pc lv (.int x :: st) ws :=
  fun H locs ls hP hD hS hl => lv_if_ge C.1.1 C.1.2.1 hdg ht (fun q => kt q H locs ls hP hD hS hl) (fun q => kf q H locs ls hP hD hS hl)
theorem h_if_gt (C : hC p s m args meth c cc nL Ts own D tys A) {x : Int32} {off : Int} {tgt : Nat} (hdg : decode cc pc = .ok (.ifCond .gt off, 3)) (ht : (pc : Int) + off = (tgt : Int)) (kt : 0 < x → hS p l e R s m args below meth c nL D A cells slots Q tgt lv st ws) (kf : ¬ 0 < x → hS p l e R s m args below meth c nL D A cells slots Q (pc + 3) lv st ws) : hS p l e R s m args below meth c nL D A cells slots Q pc lv (.int x :: st) ws :=
  fun H locs ls hP hD hS hl => lv_if_gt C.1.1 C.1.2.1 hdg ht (fun q => kt q H locs ls hP hD hS hl) (fun q => kf q H locs ls hP hD hS hl)
theorem h_if_le (C : hC p s m args meth c cc nL Ts own D tys A) {x : Int32} {off : Int} {tgt : Nat} (hdg : decode cc pc = .ok (.ifCond .le off, 3)) (ht : (pc : Int) + off = (tgt : Int)) (kt : x ≤ 0 → hS p l e R s m args below meth c nL D A cells slots Q tgt lv st ws) (kf : ¬ x ≤ 0 → hS p l e R s m args below meth c nL D A cells slots Q (pc + 3) lv st ws) : hS p l e R s m args below meth c nL D A cells slots Q pc lv (.int x :: st) ws :=
  fun H locs ls hP hD hS hl => lv_if_le C.1.1 C.1.2.1 hdg ht (fun q => kt q H locs ls hP hD hS hl) (fun q => kf q H locs ls hP hD hS hl)
theorem h_icmp_eq (C : hC p s m args meth c cc nL Ts own D tys A) {x y : Int32} {off : Int} {tgt : Nat} (hdg : decode cc pc = .ok (.if_icmp .eq off, 3)) (ht : (pc : Int) + off = (tgt : Int)) (kt : x = y → hS p l e R s m args below meth c nL D A cells slots Q tgt lv st ws) (kf : ¬ x = y → hS p l e R s m args below meth c nL D A cells slots Q (pc + 3) lv st ws) : hS p l e R s m args below meth c nL D A cells slots Q pc lv (.int y :: .int x :: st) ws :=
  fun H locs ls hP hD hS hl => lv_icmp_eq C.1.1 C.1.2.1 hdg ht (fun q => kt q H locs ls hP hD hS hl) (fun q => kf q H locs ls hP hD hS hl)
theorem h_icmp_ne (C : hC p s m args meth c cc nL Ts own D tys A) {x y : Int32} {off : Int} {tgt : Nat} (hdg : decode cc pc = .ok (.if_icmp .ne off, 3)) (ht : (pc : Int) + off = (tgt : Int)) (kt : ¬ x = y → hS p l e R s m args below meth c nL D A cells slots Q tgt lv st ws) (kf : x = y → hS p l e R s m args below meth c nL D A cells slots Q (pc + 3) lv st ws) : hS p l e R s m args below meth c nL D A cells slots Q pc lv (.int y :: .int x :: st) ws :=
  fun H locs ls hP hD hS hl => lv_icmp_ne C.1.1 C.1.2.1 hdg ht (fun q => kt q H locs ls hP hD hS hl) (fun q => kf q H locs ls hP hD hS hl)
theorem h_icmp_lt (C : hC p s m args meth c cc nL Ts own D tys A) {x y : Int32} {off : Int} {tgt : Nat} (hdg : decode cc pc = .ok (.if_icmp .lt off, 3)) (ht : (pc : Int) + off = (tgt : Int)) (kt : x < y → hS p l e R s m args below meth c nL D A cells slots Q tgt lv st ws) (kf : ¬ x < y → hS p l e R s m args below meth c nL D A cells slots Q (pc + 3) lv st ws) : hS p l e R s m args below meth c nL D A cells slots Q pc lv (.int y :: .int x :: st) ws :=
  fun H locs ls hP hD hS hl => lv_icmp_lt C.1.1 C.1.2.1 hdg ht (fun q => kt q H locs ls hP hD hS hl) (fun q => kf q H locs ls hP hD hS hl)
theorem h_icmp_ge (C : hC p s m args meth c cc nL Ts own D tys A) {x y : Int32} {off : Int} {tgt : Nat} (hdg : decode cc pc = .ok (.if_icmp .ge off, 3)) (ht : (pc : Int) + off = (tgt : Int)) (kt : y ≤ x → hS p l e R s m args below meth c nL D A cells slots Q tgt lv st ws) (kf : ¬ y ≤ x → hS p l e R s m args below meth c nL D A cells slots Q (pc + 3) lv st ws) : hS p l e R s m args below meth c nL D A cells slots Q pc lv (.int y :: .int x :: st) ws :=
  fun H locs ls hP hD hS hl => lv_icmp_ge C.1.1 C.1.2.1 hdg ht (fun q => kt q H locs ls hP hD hS hl) (fun q => kf q H locs ls hP hD hS hl)
theorem h_icmp_gt (C : hC p s m args meth c cc nL Ts own D tys A) {x y : Int32} {off : Int} {tgt : Nat} (hdg : decode cc pc = .ok (.if_icmp .gt off, 3)) (ht : (pc : Int) + off = (tgt : Int)) (kt : y < x → hS p l e R s m args below meth c nL D A cells slots Q tgt lv st ws) (kf : ¬ y < x → hS p l e R s m args below meth c nL D A cells slots Q (pc + 3) lv st ws) : hS p l e R s m args below meth c nL D A cells slots Q pc lv (.int y :: .int x :: st) ws :=
  fun H locs ls hP hD hS hl => lv_icmp_gt C.1.1 C.1.2.1 hdg ht (fun q => kt q H locs ls hP hD hS hl) (fun q => kf q H locs ls hP hD hS hl)
theorem h_icmp_le (C : hC p s m args meth c cc nL Ts own D tys A) {x y : Int32} {off : Int} {tgt : Nat} (hdg : decode cc pc = .ok (.if_icmp .le off, 3)) (ht : (pc : Int) + off = (tgt : Int)) (kt : x ≤ y → hS p l e R s m args below meth c nL D A cells slots Q tgt lv st ws) (kf : ¬ x ≤ y → hS p l e R s m args below meth c nL D A cells slots Q (pc + 3) lv st ws) : hS p l e R s m args below meth c nL D A cells slots Q pc lv (.int y :: .int x :: st) ws :=
  fun H locs ls hP hD hS hl => lv_icmp_le C.1.1 C.1.2.1 hdg ht (fun q => kt q H locs ls hP hD hS hl) (fun q => kf q H locs ls hP hD hS hl)
theorem h_get (C : hC p s m args meth c cc nL Ts own D tys A) {ref C0 : String} {T : u_T} {N ci index a : Nat} (hin : ∀ w ∈ u_ws C0 T N, w ∈ Ts) (hc : vwCl[ci]? = some (C0, T, N)) (q0 : Nat) {fs : List Value} (he : ws[q0]? = some (a, .inr (ci, fs))) (k : Nat) (hk : k < N) (hlink : Cond.fieldLink own index ref (T k).2.1 (T k).2.2.1 ∈ Ts) (hown2 : (T k).1 = ref) {v : Value} (hv : fs[k]? = some v) (hdg : decode cc pc = .ok (.getfield index, 3)) (kk : hS p l e R s m args below meth c nL D A cells slots Q (pc + 3) lv (v :: st) ws) : hS p l e R s m args below meth c nL D A cells slots Q pc lv (.ref a :: st) ws :=
  fun H locs ls hP hD hS hl => va_get C.1.1 C.1.2.1 C.1.2.2.2.2 hin C.1.2.2.2.1 C.2.1 hP q0 he hc k hk (C.1.2.2.2.2 _ hlink) (fun _ h9 => by rw [← hown2]; exact h9) hv hdg (kk H locs ls hP hD hS hl)
theorem h_put (C : hC p s m args meth c cc nL Ts own D tys A) {ref C0 : String} {T : u_T} {N ci index a : Nat} (hin : ∀ w ∈ u_ws C0 T N, w ∈ Ts) (ty0 : Nat → FieldType) (hty : ∀ k, k < N → parseFieldDescriptor (T k).2.2.1 = some (ty0 k)) (hnm : ∀ a, a < N → ∀ b, b < N → a ≠ b → (T a).2.1 ≠ (T b).2.1) (hc : vwCl[ci]? = some (C0, T, N)) (q0 : Nat) {fs : List Value} (he : ws[q0]? = some (a, .inr (ci, fs))) (k : Nat) (hk : k < N) (hlink : Cond.fieldLink own index ref (T k).2.1 (T k).2.2.1 ∈ Ts) (hown2 : (T k).1 = ref) (hfin : (T k).2.2.2 = false) (hi : ty0 k = .int) {x : Int32} (hl1 : k < fs.length) {ws' : va_W} (hw : ws.set q0 (a, .inr (ci, fs.set k (.int x))) = ws') (hdg : decode cc pc = .ok (.putfield index, 3)) (kk : hS p l e R s m args below meth c nL D A cells slots Q (pc + 3) lv st ws') : hS p l e R s m args below meth c nL D A cells slots Q pc lv (.int x :: .ref a :: st) ws := by
  subst hw
  intro H locs ls hP hD hS hl
  exact va_put C.1.1 C.1.2.1 C.1.2.2.2.2 hin ty0 hty hnm C.1.2.2.2.1 C.2.1 hP hD hS q0 he hc k hk (C.1.2.2.2.2 _ hlink) (fun _ h9 => by rw [← hown2]; exact h9) hfin (ty := .int) (v := .int x) (by rw [hty k hk, hi]) rfl rfl hl1 hdg (fun H1 locs1 hP1 hD1 hS1 => kk H1 locs1 ls hP1 hD1 hS1 hl)
theorem h_iald (C : hC p s m args meth c cc nL Ts own D tys A) (q0 t0 : Nat) {a : Nat} {cA : ClassId} {n : Nat} {f : Nat → Int32} (ha : ws[q0]? = some (a, .inl (cA, n, .inl f))) (ht : tys[t0]? = some (cA, .int)) {i v : Int32} (hin : vp_in i n) (hv : v = f i.toNatClampNeg) (hdg : decode cc pc = .ok (.iaload, 1)) (kk : hS p l e R s m args below meth c nL D A cells slots Q (pc + 1) lv (.int v :: st) ws) : hS p l e R s m args below meth c nL D A cells slots Q pc lv (.int i :: .ref a :: st) ws := by
  subst hv
  exact fun H locs ls hP hD hS hl => va_iald C.1.1 C.1.2.1 C.2.1 hP q0 t0 ha ht hin hdg (kk H locs ls hP hD hS hl)
theorem h_zald (C : hC p s m args meth c cc nL Ts own D tys A) (q0 t0 : Nat) {a : Nat} {cA : ClassId} {n : Nat} {f : Nat → Int32} (ha : ws[q0]? = some (a, .inl (cA, n, .inl f))) (ht : tys[t0]? = some (cA, .boolean)) {i v : Int32} (hin : vp_in i n) (hv : v = f i.toNatClampNeg) (hdg : decode cc pc = .ok (.baload, 1)) (kk : hS p l e R s m args below meth c nL D A cells slots Q (pc + 1) lv (.int v :: st) ws) : hS p l e R s m args below meth c nL D A cells slots Q pc lv (.int i :: .ref a :: st) ws := by
  subst hv
  exact fun H locs ls hP hD hS hl => va_zald C.1.1 C.1.2.1 C.2.1 hP q0 t0 ha ht hin hdg (kk H locs ls hP hD hS hl)
theorem h_iast (C : hC p s m args meth c cc nL Ts own D tys A) (q0 t0 : Nat) {a : Nat} {cA : ClassId} {n : Nat} {f : Nat → Int32} (ha : ws[q0]? = some (a, .inl (cA, n, .inl f))) (ht : tys[t0]? = some (cA, .int)) {i x : Int32} {f2 : Nat → Int32} (hin : vp_in i n) (hf2 : f2 = upd f i.toNatClampNeg x) {ws' : va_W} (hw : ws.set q0 (a, .inl (cA, n, .inl f2)) = ws') (hdg : decode cc pc = .ok (.iastore, 1)) (kk : hS p l e R s m args below meth c nL D A cells slots Q (pc + 1) lv st ws') : hS p l e R s m args below meth c nL D A cells slots Q pc lv (.int x :: .int i :: .ref a :: st) ws := by
  subst hw
  subst hf2
  intro H locs ls hP hD hS hl
  exact va_iast C.1.1 C.1.2.1 C.2.1 hP hD hS q0 t0 ha ht hin hdg (fun H1 locs1 hP1 hD1 hS1 => kk H1 locs1 ls hP1 hD1 hS1 hl)
theorem h_zast (C : hC p s m args meth c cc nL Ts own D tys A) (q0 t0 : Nat) {a : Nat} {cA : ClassId} {n : Nat} {f : Nat → Int32} (ha : ws[q0]? = some (a, .inl (cA, n, .inl f))) (ht : tys[t0]? = some (cA, .boolean)) {i x : Int32} {f2 : Nat → Int32} (hin : vp_in i n) (hx : vp_nar .boolean x = x) (hf2 : f2 = upd f i.toNatClampNeg x) {ws' : va_W} (hw : ws.set q0 (a, .inl (cA, n, .inl f2)) = ws') (hdg : decode cc pc = .ok (.bastore, 1)) (kk : hS p l e R s m args below meth c nL D A cells slots Q (pc + 1) lv st ws') : hS p l e R s m args below meth c nL D A cells slots Q pc lv (.int x :: .int i :: .ref a :: st) ws := by
  subst hw
  subst hf2
  intro H locs ls hP hD hS hl
  exact va_zast C.1.1 C.1.2.1 C.2.1 hP hD hS q0 t0 ha ht hin hdg (fun H1 locs1 hP1 hD1 hS1 => kk H1 locs1 ls (by rw [hx] at hP1; exact hP1) (by rw [hx] at hD1; exact hD1) hS1 hl)
theorem h_alen (C : hC p s m args meth c cc nL Ts own D tys A) (q0 t0 : Nat) {a : Nat} {cA : ClassId} {n : Nat} {f : Nat → Int32} (ha : ws[q0]? = some (a, .inl (cA, n, .inl f))) {ty : FieldType} (ht : tys[t0]? = some (cA, ty)) {v : Int32} (hv : Int32.ofNat n = v) (hdg : decode cc pc = .ok (.arraylength, 1)) (kk : hS p l e R s m args below meth c nL D A cells slots Q (pc + 1) lv (.int v :: st) ws) : hS p l e R s m args below meth c nL D A cells slots Q pc lv (.ref a :: st) ws :=
  fun H locs ls hP hD hS hl => va_alen C.1.1 C.1.2.1 C.2.1 hP q0 t0 ha ht hv hdg (kk H locs ls hP hD hS hl)
theorem h_sub (ks : List Nat) {lv' : List (Nat × Value)} (h : lv_pick lv ks = lv') (kk : hS p l e R s m args below meth c nL D A cells slots Q pc lv' st ws) : hS p l e R s m args below meth c nL D A cells slots Q pc lv st ws :=
  fun H locs ls hP hD hS hl => kk H locs ls hP hD hS (lv_sub hl ks h)
def jmax (x y : Int32) : Int32 := if x < y then y else x
def jmin (x y : Int32) : Int32 := if y < x then y else x
theorem h_mmax (C : hC p s m args meth c cc nL Ts own D tys A) {index : Nat} (hlink : Cond.methodLink own index Lib.Math.max.name ∈ Ts) (hstat : Cond.static Lib.Math.max.name ∈ Ts) (hini : Cond.initialized "java/lang/Math" ∈ Ts) (hcode : Cond.code Lib.Math.max.name Lib.Math.max.code 2 (some .int) ∈ Ts) (hR : 1 ≤ R.frames ∧ (st.map fun v => v.category).sum + 13 ≤ R.locals ∧ cells ≤ R.cells ∧ slots ≤ R.slots) {x y : Int32} (hdg : decode cc pc = .ok (.invokestatic index, 3)) (kk : hS p l e R s m args below meth c nL D A cells slots Q (pc + 3) lv (.int (jmax x y) :: st) ws) : hS p l e R s m args below meth c nL D A cells slots Q pc lv (.int y :: .int x :: st) ws :=
  fun H locs ls hP hD hS hl => va_mmax C.1.1 C.1.2.1 (C.1.2.2.1.trans hl.1.symm) C.1.2.2.2.1 (C.1.2.2.2.2 _ hlink) (C.1.2.2.2.2 _ hstat) (C.1.2.2.2.2 _ hini) (C.1.2.2.2.2 _ hcode) hR.1 hR.2.1 hR.2.2.1 hR.2.2.2 hdg (kk H locs ls hP hD hS hl)
theorem h_mmin (C : hC p s m args meth c cc nL Ts own D tys A) {index : Nat} (hlink : Cond.methodLink own index Lib.Math.min.name ∈ Ts) (hstat : Cond.static Lib.Math.min.name ∈ Ts) (hini : Cond.initialized "java/lang/Math" ∈ Ts) (hcode : Cond.code Lib.Math.min.name Lib.Math.min.code 2 (some .int) ∈ Ts) (hR : 1 ≤ R.frames ∧ (st.map fun v => v.category).sum + 13 ≤ R.locals ∧ cells ≤ R.cells ∧ slots ≤ R.slots) {x y : Int32} (hdg : decode cc pc = .ok (.invokestatic index, 3)) (kk : hS p l e R s m args below meth c nL D A cells slots Q (pc + 3) lv (.int (jmin x y) :: st) ws) : hS p l e R s m args below meth c nL D A cells slots Q pc lv (.int y :: .int x :: st) ws :=
  fun H locs ls hP hD hS hl => va_mmin C.1.1 C.1.2.1 (C.1.2.2.1.trans hl.1.symm) C.1.2.2.2.1 (C.1.2.2.2.2 _ hlink) (C.1.2.2.2.2 _ hstat) (C.1.2.2.2.2 _ hini) (C.1.2.2.2.2 _ hcode) hR.1 hR.2.1 hR.2.2.1 hR.2.2.2 hdg (kk H locs ls hP hD hS hl)
/-! contracts: from the world w to the world w', with the answer ro; rm's cells and slots are what it may make -/
def cQ (D : va_G) (tys : List (ClassId × FieldType)) (A : Nat → Prop) (ro : Option Value) (w' : va_W) : Array Value → State → Outcome → State → Prop := fun _ st oc t => oc = .returned ro ∧ va_P D vwCl w' t.heap ∧ va_K D vwCl tys t ∧ va_D A w' ∧ va_F A st t
def cP (D : va_G) (tys : List (ClassId × FieldType)) (av : List Value) (w : va_W) (sz : Nat) : Array Value → State → Prop := va_Pc av (fun U => U.heap.size = sz ∧ va_P D vwCl w U.heap ∧ va_K D vwCl tys U ∧ va_D (fun _ => True) w)
def cM (l : Launch) (y : MethodName) (wsy : List Cond) (rm : Room) (D : va_G) (tys : List (ClassId × FieldType)) (av : List Value) (w : va_W) (ro : Option Value) (w' : va_W) : Prop :=
  ∀ sz : Nat, Met l y wsy rm (cP D tys av w sz) (cQ D tys (va_A w sz) ro w') rm.cells rm.slots (va_A w sz)
theorem cP_blind {av : List Value} {w : va_W} {sz : Nat} : FrameBlind (cP D tys av w sz) := fun a U g mk q => by
  obtain ⟨q0, q1, qP, qK, qD⟩ := q
  exact ⟨q0, q1, qP, va_K.moved (u := U) (U := U.calling g mk a) (Vm.Alike.refl U.vm) qK, qD⟩
theorem cM_of {y : MethodName} {wsy ws' : List Cond} {rm : Room} {av : List Value} {w w' : va_W} {ro : Option Value} {maxL : Nat} {ret : Option FieldType} {own : String} {lv : List (Nat × Value)} (hy : plainName y.cls = true) (hw : wsy = Cond.code y cc maxL ret :: ws') (hlen : (lg_sl av).length ≤ maxL) (ho : y.cls = own) (hlv : lv_args 0 av = lv)
    (body : ∀ (p : Program) (e : Env) (s : State) (m : MethodId) (args : Array Value) (below : List Frame) (meth : Method) (c : Code) (A : Nat → Prop), hC p s m args meth c cc maxL wsy own D tys A → meth.sig.returnType = ret →
      hS p l e rm s m args below meth c maxL D A 0 0 (MQ below (cQ D tys A ro w') args s rm.cells rm.slots A) 0 lv [] w) : cM l y wsy rm D tys av w ro w' := by
  subst hlv
  subst ho
  intro sz
  refine Met.ofW (cc := cc) (maxL := maxL) (ret := ret) hy hw ?_
  intro p e s m args below meth c s₁ B hml hv
  obtain ⟨rfl, hsz, hP, hK, hD0⟩ := hv
  subst hsz
  have hts := atoms_spec (ws := wsy) B.pre
  have hown : s.vm.findClass y.cls = some m.cls := findClass_of_methodNamed B.named
  have hD := hD0.self (sz := s.heap.size)
  have hA : ∀ q : Nat, s.heap.size ≤ q → va_A w s.heap.size q := fun q h => Or.inr h
  have hb := body p e s m av.toArray below meth c (va_A w s.heap.size) ⟨⟨B.exec, B.bytes, hml, hown, hts⟩, hK, B.notSynchronized, hA⟩ B.returns
  rw [lg_entry_eq]
  exact hb s.heap [] _ hP hD va_S.rf (lv_entry av hlen)
/-- returns -/
theorem h_iret (C : hC p s m args meth c cc nL Ts own D tys A) {v : Int32} (hr : meth.sig.returnType = some .int) (hdg : decode cc pc = .ok (.ireturn, 1)) : hS p l e R s m args below meth c nL D A cells slots (MQ below (cQ D tys A (some (.int v)) ws) args s cells slots A) pc lv [.int v] ws :=
  fun H locs ls hP hD hS hl => W.iret C.1.1 C.1.2.1 hr (fun t ht hW => ⟨rfl, by rw [ht]; exact hP, va_K.moved hW.alike C.2.1, hD, hS.F ht⟩) hS.2.2 hdg C.2.2.1
theorem h_zret (C : hC p s m args meth c cc nL Ts own D tys A) {v : Int32} {ty : FieldType} (hr : meth.sig.returnType = some ty) (hn : narrow ty (.int v) = .int v) (hdg : decode cc pc = .ok (.ireturn, 1)) : hS p l e R s m args below meth c nL D A cells slots (MQ below (cQ D tys A (some (.int v)) ws) args s cells slots A) pc lv [.int v] ws :=
  fun H locs ls hP hD hS hl => W.zret C.1.1 C.1.2.1 hr hn (fun t ht hW => ⟨rfl, by rw [ht]; exact hP, va_K.moved hW.alike C.2.1, hD, hS.F ht⟩) hS.2.2 hdg C.2.2.1
theorem h_vret (C : hC p s m args meth c cc nL Ts own D tys A) (hr : meth.sig.returnType = none) (hdg : decode cc pc = .ok (.return_, 1)) : hS p l e R s m args below meth c nL D A cells slots (MQ below (cQ D tys A none ws) args s cells slots A) pc lv [] ws :=
  fun H locs ls hP hD hS hl => W.vret C.1.1 C.1.2.1 hr (fun t ht hW => ⟨rfl, by rw [ht]; exact hP, va_K.moved hW.alike C.2.1, hD, hS.F ht⟩) hS.2.2 hdg C.2.2.1
theorem h_fret (C : hC p s m args meth c cc nL Ts own D tys A) {v : UInt32} (hr : meth.sig.returnType = some .float) (hdg : decode cc pc = .ok (.freturn, 1)) : hS p l e R s m args below meth c nL D A cells slots (MQ below (cQ D tys A (some (.float v)) ws) args s cells slots A) pc lv [.float v] ws :=
  fun H locs ls hP hD hS hl => W.fret C.1.1 C.1.2.1 hr (fun t ht hW => ⟨rfl, by rw [ht]; exact hP, va_K.moved hW.alike C.2.1, hD, hS.F ht⟩) hS.2.2 hdg C.2.2.1
/-- what is behind a call: the callee's cells changed, the others as they were -/
theorem h_run {st rest : List Value} {a : Array Value} {wc wc' wr ws' : va_W} {ro : Option Value} {mc ms : Nat} (hA : ∀ q, s.heap.size ≤ q → A q)
    (hr : ∀ (H : Heap) (locs : List Loc) (ls : Array Slot), va_P D vwCl wc H → va_P D vwCl ws H → va_D (fun _ => True) wc → (∀ q, va_A wc H.size q → A q) → va_S A s.heap H locs → lv_has ls nL lv → va_Run p l e R s m args below meth c H locs cells slots mc ms (F0 m pc ls st) rest (cQ D tys (va_A wc H.size) ro wc' a) (va_A wc H.size))
    (isC isR is : List Nat) (hCs : isC.map (fun i => ws[i]?) = wc.map some) (hRs : isR.map (fun i => ws[i]?) = wr.map some) (hndC : va_nd isC = true) (hnd : va_nd isR = true) (hdis : ∀ i ∈ isR, i ∉ isC) (hin : va_nd is = true) (his : is.map (fun i => (wr ++ wc')[i]?) = ws'.map some)
    (kk : hS p l e R s m args below meth c nL D A (cells + mc) (slots + ms) Q (pc + 3) lv (ro.toList ++ rest) ws') : hS p l e R s m args below meth c nL D A cells slots Q pc lv st ws := by
  intro H locs ls hP hD hS hl
  have hDc : va_D A wc := hD.sub isC hndC hCs
  have sub : ∀ {is : List Nat} {w w' : va_W}, is.map (fun i => w[i]?) = w'.map some → va_P D vwCl w H → va_P D vwCl w' H := by
    intro is w w' h hp k q hk
    have h1 : (is.map (fun i => w[i]?))[k]? = some (some q) := by rw [h, List.getElem?_map, hk]; rfl
    rw [List.getElem?_map] at h1
    cases hi : is[k]? with
    | none => rw [hi] at h1; cases h1
    | some i => rw [hi] at h1; exact hp i q (Option.some.inj h1)
  have hFc := va_free (wc := wc) hD hS hA isC hCs
  intro T hT X
  obtain ⟨v, st₀, t, T', L, h0, X', hL, e1, e2, ⟨hv, hP1, hK1, hD1, hz, hk⟩, go⟩ := hr H locs ls (sub hCs hP) hP (hDc.weaken (fun _ _ _ _ => trivial)) hFc hS hl T hT X
  have hv : v = ro := by injection hv
  subst hv
  rw [h0] at hz hk
  obtain ⟨hP2, hD2⟩ := va_join (H1 := T'.heap) (wr := wr) (w1 := wc') hP hD isC isR hCs hRs hnd hdis (fun q h1 h2 => by rw [e1]; exact hk q h1 h2) hFc (by rw [e1]; exact hP1) hD1
  have hP3 : va_P D vwCl ws' T'.heap := by
    intro k q hk
    have h1 : (is.map (fun i => (wr ++ wc')[i]?))[k]? = some (some q) := by rw [his, List.getElem?_map, hk]; rfl
    rw [List.getElem?_map] at h1
    cases hi : is[k]? with
    | none => rw [hi] at h1; cases h1
    | some i => rw [hi] at h1; exact hP2 i q (Option.some.inj h1)
  obtain ⟨t2, a1, b1⟩ := kk T'.heap (locs ++ L) ls hP3 (hD2.sub is hin his) ⟨Nat.le_trans hS.1 (by rw [e1]; exact hz), fun q h1 h2 => by rw [e1, hk q (Nat.lt_of_lt_of_le h1 hS.1) (fun z => h2 (hFc q z))]; exact hS.2.1 q h1 h2, fun q hq => by
      rcases List.mem_append.mp hq with h | h
      · exact hS.2.2 q h
      · exact hFc _ (hL q h)⟩ hl T' rfl X'
  exact ⟨t2, go t2 a1, b1⟩
theorem h_callV (C : hC p s m args meth c cc nL Ts own D tys A) {y : MethodName} {wsy : List Cond} {rm : Room} {bytes : ByteArray} {maxL n index q0 ci b : Nat} {ret : Option FieldType} {Cn : String} {As rest : List Value} {wc wc' ws' : va_W} {ro : Option Value} {fs : List Value} {qc : vw_C}
    (hM : cM l y wsy rm D tys (.ref b :: As) wc ro wc') (cw : CallW R s args own Cn index y bytes maxL ret wsy rm rm.cells rm.slots n) (hdg : decode cc pc = .ok (.invokevirtual index, 3))
    (hrec : ws[q0]? = some (b, .inr (ci, fs))) (hci : vwCl[ci]? = some qc) (hqn : qc.1 = Cn) (hn : As.length = n) (hst : st = As.reverse ++ .ref b :: rest) (hcat : (rest.map fun v => v.category).sum ≤ 8) (hz : rm.cells = 0 ∧ rm.slots = 0) (hf0 : cells ≤ R.cells ∧ slots ≤ R.slots)
    (isC isR is : List Nat) (hCs : isC.map (fun i => ws[i]?) = wc.map some) (hRs : isR.map (fun i => ws[i]?) = (isR.filterMap (fun i => ws[i]?)).map some) (hndC : va_nd isC = true) (hnd : va_nd isR = true) (hdis : ∀ i ∈ isR, i ∉ isC) (hin : va_nd is = true) (his : is.map (fun i => (isR.filterMap (fun i => ws[i]?) ++ wc')[i]?) = ws'.map some)
    {st2 : List Value} (hst2 : ro.toList ++ rest = st2) (kk : hS p l e R s m args below meth c nL D A cells slots Q (pc + 3) lv st2 ws') : hS p l e R s m args below meth c nL D A cells slots Q pc lv st ws := by
  subst hst
  subst hst2
  have hf : cells + rm.cells ≤ R.cells ∧ slots + rm.slots ≤ R.slots := by rw [hz.1, hz.2]; exact hf0
  have kk : hS p l e R s m args below meth c nL D A (cells + rm.cells) (slots + rm.slots) Q (pc + 3) lv (ro.toList ++ rest) ws' := by rw [hz.1, hz.2]; exact kk
  exact h_run C.2.2.2 (fun H locs ls hPc hP hDc _ _ hl => va_runV (As := As) (rest := rest) C.1 (hM H.size) cw ⟨cP_blind, by rw [← hqn]; exact va_recv C.2.1 hP hci hrec, fun U hU hW => ⟨rfl, by rw [hU], by rw [hU]; exact hPc, va_K.moved hW.alike C.2.1, hDc⟩⟩ rfl hn hl.1 rfl (lv_room hcat) hdg hf) isC isR is hCs hRs hndC hnd hdis hin his kk
theorem h_callS (C : hC p s m args meth c cc nL Ts own D tys A) {y : MethodName} {wsy : List Cond} {rm : Room} {bytes : ByteArray} {maxL n index : Nat} {ret : Option FieldType} {As rest : List Value} {wc wc' ws' : va_W} {ro : Option Value}
    (hM : cM l y wsy rm D tys As wc ro wc') (cw : CallB R s args own index y bytes maxL ret wsy rm rm.cells rm.slots n ∧ (Cond.static y).before args s = true) (hdg : decode cc pc = .ok (.invokestatic index, 3))
    (hn : As.length = n) (hst : st = As.reverse ++ rest) (hcat : (rest.map fun v => v.category).sum ≤ 8) (hz : rm.cells = 0 ∧ rm.slots = 0) (hf0 : cells ≤ R.cells ∧ slots ≤ R.slots)
    (isC isR is : List Nat) (hCs : isC.map (fun i => ws[i]?) = wc.map some) (hRs : isR.map (fun i => ws[i]?) = (isR.filterMap (fun i => ws[i]?)).map some) (hndC : va_nd isC = true) (hnd : va_nd isR = true) (hdis : ∀ i ∈ isR, i ∉ isC) (hin : va_nd is = true) (his : is.map (fun i => (isR.filterMap (fun i => ws[i]?) ++ wc')[i]?) = ws'.map some)
    {st2 : List Value} (hst2 : ro.toList ++ rest = st2) (kk : hS p l e R s m args below meth c nL D A cells slots Q (pc + 3) lv st2 ws') : hS p l e R s m args below meth c nL D A cells slots Q pc lv st ws := by
  subst hst
  subst hst2
  have hf : cells + rm.cells ≤ R.cells ∧ slots + rm.slots ≤ R.slots := by rw [hz.1, hz.2]; exact hf0
  have kk : hS p l e R s m args below meth c nL D A (cells + rm.cells) (slots + rm.slots) Q (pc + 3) lv (ro.toList ++ rest) ws' := by rw [hz.1, hz.2]; exact kk
  exact h_run C.2.2.2 (fun H locs ls hPc hP hDc _ _ hl => va_runS (As := As) (rest := rest) C.1 (hM H.size) cw ⟨cP_blind, fun U hU hW => ⟨rfl, by rw [hU], by rw [hU]; exact hPc, va_K.moved hW.alike C.2.1, hDc⟩⟩ rfl hn hl.1 rfl (lv_room hcat) hdg hf) isC isR is hCs hRs hndC hnd hdis hin his kk
/-- a static method that sees no cell -/
theorem h_callP (C : hC p s m args meth c cc nL Ts own D tys A) {y : MethodName} {wsy : List Cond} {rm : Room} {bytes : ByteArray} {maxL n index : Nat} {ret : Option FieldType} {As rest : List Value} {ro : Option Value}
    (hM : cM l y wsy rm D tys As [] ro []) (cw : CallB R s args own index y bytes maxL ret wsy rm rm.cells rm.slots n ∧ (Cond.static y).before args s = true) (hdg : decode cc pc = .ok (.invokestatic index, 3))
    (hn : As.length = n) (hst : st = As.reverse ++ rest) (hcat : (rest.map fun v => v.category).sum ≤ 8) (hz : rm.cells = 0 ∧ rm.slots = 0) (hf0 : cells ≤ R.cells ∧ slots ≤ R.slots)
    {st2 : List Value} (hst2 : ro.toList ++ rest = st2) (kk : hS p l e R s m args below meth c nL D A cells slots Q (pc + 3) lv st2 ws) : hS p l e R s m args below meth c nL D A cells slots Q pc lv st ws := by
  subst hst
  subst hst2
  have hf : cells + rm.cells ≤ R.cells ∧ slots + rm.slots ≤ R.slots := by rw [hz.1, hz.2]; exact hf0
  have kk : hS p l e R s m args below meth c nL D A (cells + rm.cells) (slots + rm.slots) Q (pc + 3) lv (ro.toList ++ rest) ws := by rw [hz.1, hz.2]; exact kk
  intro H locs ls hP hD hS hl T hT X
  have hFc : ∀ q, va_A [] H.size q → A q := va_free (wc := []) hD hS C.2.2.2 [] rfl
  obtain ⟨v, st₀, t, T', L, h0, X', hL, e1, e2, ⟨hv, hP1, hK1, hD1, hz, hk⟩, go⟩ := va_runS (As := As) (rest := rest) C.1 (hM H.size) cw ⟨cP_blind, fun U hU hW => ⟨rfl, by rw [hU], fun k q h => by simp at h, va_K.moved hW.alike C.2.1, ⟨fun i j p q h => by simp at h, fun k q h => by simp at h⟩⟩⟩ rfl hn hl.1 rfl (lv_room hcat) hdg hf T hT X
  have hv : v = ro := by injection hv
  subst hv
  rw [h0] at hz hk
  have hkeep : ∀ q : Nat, q < H.size → T'.heap[q]? = H[q]? := fun q h1 => by
    rw [e1]
    refine hk q h1 (fun z => ?_)
    rcases z with ⟨k9, e9, h9⟩ | h9
    · simp at h9
    · omega
  obtain ⟨t2, a1, b1⟩ := kk T'.heap (locs ++ L) ls (hP.kept (fun k q h => hkeep q.1 ((hP k q h).lt))) hD ⟨Nat.le_trans hS.1 (by rw [e1]; exact hz), fun q h1 h2 => by rw [hkeep q (Nat.lt_of_lt_of_le h1 hS.1)]; exact hS.2.1 q h1 h2, fun q hq => by
      rcases List.mem_append.mp hq with h | h
      · exact hS.2.2 q h
      · exact hFc _ (hL q h)⟩ hl T' rfl X'
  exact ⟨t2, go t2 a1, b1⟩
/-! the pure side: what a method answers, or none where the machine would throw -/
def jrd {α : Type} (f : Nat → Int32) (n : Nat) (i : Int32) (k : Int32 → Option α) : Option α := if i < 0 ∨ n ≤ i.toNatClampNeg then none else k (f i.toNatClampNeg)
def jwr {α : Type} (f : Nat → Int32) (n : Nat) (i v : Int32) (k : (Nat → Int32) → Option α) : Option α := if i < 0 ∨ n ≤ i.toNatClampNeg then none else k (upd f i.toNatClampNeg v)
def jbd {α β : Type} (o : Option α) (k : α → Option β) : Option β := match o with | none => none | some a => k a
def jdiv {α : Type} (x y : Int32) (k : Int32 → Option α) : Option α := if y = 0 then none else k (x / y)
theorem jrd_s {α : Type} {f : Nat → Int32} {n : Nat} {i : Int32} {k : Int32 → Option α} {x : α} (h : jrd f n i k = some x) : vp_in i n ∧ ∃ v, v = f i.toNatClampNeg ∧ k v = some x := by
  unfold jrd at h
  split at h
  · cases h
  · exact ⟨by assumption, _, rfl, h⟩
theorem jwr_s {α : Type} {f : Nat → Int32} {n : Nat} {i v : Int32} {k : (Nat → Int32) → Option α} {x : α} (h : jwr f n i v k = some x) : vp_in i n ∧ ∃ f2, f2 = upd f i.toNatClampNeg v ∧ k f2 = some x := by
  unfold jwr at h
  split at h
  · cases h
  · exact ⟨by assumption, _, rfl, h⟩
theorem jbd_s {α β : Type} {o : Option α} {k : α → Option β} {x : β} (h : jbd o k = some x) : ∃ a, o = some a ∧ k a = some x := by
  cases o with
  | none => cases h
  | some a => exact ⟨a, rfl, h⟩
theorem jdiv_s {α : Type} {x y : Int32} {k : Int32 → Option α} {r : α} (h : jdiv x y k = some r) : ¬ y = 0 ∧ k (x / y) = some r := by
  unfold jdiv at h
  split at h
  · cases h
  · exact ⟨by assumption, h⟩
theorem jif_t {α : Type} {c : Prop} [Decidable c] {a b x : Option α} (h : c) (e : (if c then a else b) = x) : a = x := by rw [if_pos h] at e; exact e
theorem jif_f {α : Type} {c : Prop} [Decidable c] {a b x : Option α} (h : ¬ c) (e : (if c then a else b) = x) : b = x := by rw [if_neg h] at e; exact e
theorem jif_n {α : Type} {c : Prop} [Decidable c] {a b x : Option α} (h : ¬ c) (e : (if ¬ c then a else b) = x) : a = x := by rw [if_pos h] at e; exact e
theorem jif_m {α : Type} {c : Prop} [Decidable c] {a b x : Option α} (h : c) (e : (if ¬ c then a else b) = x) : b = x := by rw [if_neg (fun z => z h)] at e; exact e
end HK
