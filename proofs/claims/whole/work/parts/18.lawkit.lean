/-! rows of the law's own -/
section HL
variable {p : Program} {l : Launch} {e : Env} {R : Room} {s : State} {m : MethodId} {args : Array Value} {below : List Frame} {meth : Method} {c : Code} {cells slots : Nat} {Q : State → Prop}
variable {cc : ByteArray} {nL : Nat} {Ts : List Cond} {own : String} {D : va_G} {tys : List (ClassId × FieldType)} {A : Nat → Prop} {pc : Nat} {lv : List (Nat × Value)} {st : List Value} {ws : va_W}
theorem h_sld (C : hC p s m args meth c cc nL Ts own D tys A) {b L : Nat} {xs : Nat → Int32} (X : va_X b L xs s s.heap ∧ b < s.heap.size ∧ ¬ A b) {i v : Int32} (hin : vp_in i L) (hv : v = xs i.toNatClampNeg) (hdg : decode cc pc = .ok (.iaload, 1)) (kk : hS p l e R s m args below meth c nL D A cells slots Q (pc + 1) lv (.int v :: st) ws) : hS p l e R s m args below meth c nL D A cells slots Q pc lv (.int i :: .ref b :: st) ws := by
  subst hv
  exact fun H locs ls hP hD hS hl => va_sld C.1.1 C.1.2.1 X.1 X.2.1 X.2.2 hS hin hdg (kk H locs ls hP hD hS hl)
theorem h_slen (C : hC p s m args meth c cc nL Ts own D tys A) {b L : Nat} {xs : Nat → Int32} (X : va_X b L xs s s.heap ∧ b < s.heap.size ∧ ¬ A b) (hdg : decode cc pc = .ok (.arraylength, 1)) (kk : hS p l e R s m args below meth c nL D A cells slots Q (pc + 1) lv (.int (nI L) :: st) ws) : hS p l e R s m args below meth c nL D A cells slots Q pc lv (.ref b :: st) ws :=
  fun H locs ls hP hD hS hl => va_slen C.1.1 C.1.2.1 X.1 X.2.1 X.2.2 hS hdg (kk H locs ls hP hD hS hl)
theorem h_eq {x v : Int32} (hv : v = x) (kk : hS p l e R s m args below meth c nL D A cells slots Q pc lv (.int v :: st) ws) : hS p l e R s m args below meth c nL D A cells slots Q pc lv (.int x :: st) ws := by
  subst hv
  exact kk
theorem h_tabIn (C : hC p s m args meth c cc nL Ts own D tys A) {dflt lo hi : Int} {offs : Array Int} {len : Nat} {x : Int32} {off : Int} {tgt : Nat} {K : Int32} (hx : x = K) (hdg : decode cc pc = .ok (.tableswitch dflt lo hi offs, len)) (h1 : ¬ K.toInt < lo) (h2 : ¬ hi < K.toInt) (ho : offs[(K.toInt - lo).toNat]? = some off) (ht : (pc : Int) + off = (tgt : Int)) (kk : hS p l e R s m args below meth c nL D A cells slots Q tgt lv st ws) : hS p l e R s m args below meth c nL D A cells slots Q pc lv (.int x :: st) ws := by
  subst hx
  exact fun H locs ls hP hD hS hl => lv_tableIn C.1.1 C.1.2.1 hdg h1 h2 ho ht (kk H locs ls hP hD hS hl)
theorem h_tabOut (C : hC p s m args meth c cc nL Ts own D tys A) {dflt lo hi : Int} {offs : Array Int} {len : Nat} {x : Int32} {tgt : Nat} (h : x.toInt < lo ∨ hi < x.toInt) (hdg : decode cc pc = .ok (.tableswitch dflt lo hi offs, len)) (ht : (pc : Int) + dflt = (tgt : Int)) (kk : hS p l e R s m args below meth c nL D A cells slots Q tgt lv st ws) : hS p l e R s m args below meth c nL D A cells slots Q pc lv (.int x :: st) ws :=
  fun H locs ls hP hD hS hl => lv_tableOut C.1.1 C.1.2.1 hdg h ht (kk H locs ls hP hD hS hl)
end HL
theorem jlet_s {α : Type} {x : Int32} {k : Int32 → Option α} {r : α} (h : jlet x k = some r) : ∃ v, v = x ∧ k v = some r := ⟨x, rfl, h⟩
theorem tab_ne {x : Int32} {k : Int32} (h : ¬ x = k) : x.toInt ≠ k.toInt := fun e => h (Int32.toInt_inj.mp e)
theorem tab_out {x : Int32} (h0 : ¬ x = 0) (h1 : ¬ x = 1) (h2 : ¬ x = 2) (h3 : ¬ x = 3) (h4 : ¬ x = 4) (h5 : ¬ x = 5) (h6 : ¬ x = 6) (h7 : ¬ x = 7) (h8 : ¬ x = 8) (h9 : ¬ x = 9) (h10 : ¬ x = 10) (h11 : ¬ x = 11) (h12 : ¬ x = 12) (h13 : ¬ x = 13) (h14 : ¬ x = 14) (h15 : ¬ x = 15) (h16 : ¬ x = 16) (h17 : ¬ x = 17) (h18 : ¬ x = 18) (h19 : ¬ x = 19) (h20 : ¬ x = 20) : x.toInt < 0 ∨ 20 < x.toInt := by
  have a0 : x.toInt ≠ 0 := tab_ne h0
  have a1 : x.toInt ≠ 1 := tab_ne h1
  have a2 : x.toInt ≠ 2 := tab_ne h2
  have a3 : x.toInt ≠ 3 := tab_ne h3
  have a4 : x.toInt ≠ 4 := tab_ne h4
  have a5 : x.toInt ≠ 5 := tab_ne h5
  have a6 : x.toInt ≠ 6 := tab_ne h6
  have a7 : x.toInt ≠ 7 := tab_ne h7
  have a8 : x.toInt ≠ 8 := tab_ne h8
  have a9 : x.toInt ≠ 9 := tab_ne h9
  have a10 : x.toInt ≠ 10 := tab_ne h10
  have a11 : x.toInt ≠ 11 := tab_ne h11
  have a12 : x.toInt ≠ 12 := tab_ne h12
  have a13 : x.toInt ≠ 13 := tab_ne h13
  have a14 : x.toInt ≠ 14 := tab_ne h14
  have a15 : x.toInt ≠ 15 := tab_ne h15
  have a16 : x.toInt ≠ 16 := tab_ne h16
  have a17 : x.toInt ≠ 17 := tab_ne h17
  have a18 : x.toInt ≠ 18 := tab_ne h18
  have a19 : x.toInt ≠ 19 := tab_ne h19
  have a20 : x.toInt ≠ 20 := tab_ne h20
  omega
/-! what the law has made, by how far it has come -/
def lwB (L : Nat) (x : Int32) (CE SL : Nat) : Prop := 0 ≤ x.toInt ∧ x.toInt ≤ (L : Int) ∧ 6 * (CE : Int) ≤ 114 + x.toInt ∧ (SL : Int) ≤ 2639 + x.toInt
def lwB1 (L : Nat) (x : Int32) (CE SL : Nat) : Prop := L ≤ 3072 ∧ 0 ≤ x.toInt ∧ x.toInt + 6 ≤ (L : Int) ∧ 6 * (CE : Int) ≤ 114 + x.toInt ∧ (SL : Int) ≤ 2639 + x.toInt
def lwB2 (L : Nat) (x : Int32) (CE SL : Nat) : Prop := L ≤ 3072 ∧ 0 ≤ x.toInt ∧ x.toInt + 6 ≤ (L : Int) ∧ 6 * (CE : Int) ≤ 120 + x.toInt ∧ (SL : Int) ≤ 2645 + x.toInt
theorem lwB_r {L : Nat} {x : Int32} {CE SL : Nat} (hL : L ≤ 3072) (h : lwB L x CE SL) : CE ≤ 1055 ∧ SL ≤ 10903 := by unfold lwB at h; omega
theorem lwB1_r {L : Nat} {x : Int32} {CE SL : Nat} (h : lwB1 L x CE SL) : CE + 1 ≤ 1055 ∧ SL + 6 ≤ 10903 := by unfold lwB1 at h; omega
theorem lwB2_r {L : Nat} {x : Int32} {CE SL : Nat} (h : lwB2 L x CE SL) : CE ≤ 1055 ∧ SL ≤ 10903 := by unfold lwB2 at h; omega
theorem lwB_same {L : Nat} {x : Int32} {CE SL : Nat} (h : lwB1 L x CE SL) : lwB2 L x CE SL := by unfold lwB1 at h; unfold lwB2; omega
theorem lwB_more {L : Nat} {x : Int32} {CE SL : Nat} (h : lwB1 L x CE SL) : lwB2 L x (CE + 1) (SL + 6) := by unfold lwB1 at h; unfold lwB2; omega
theorem lw_add6 {x : Int32} (h0 : 0 ≤ x.toInt) (h1 : x.toInt ≤ 3072) : (x + 6).toInt = x.toInt + 6 := by
  rw [Int32.toInt_add]
  show (x.toInt + 6).bmod (2 ^ 32) = x.toInt + 6
  rw [Int.bmod_eq_of_le] <;> omega
theorem lwB_step {L : Nat} {x : Int32} {CE SL : Nat} (h : lwB2 L x CE SL) : lwB L (x + 6) CE SL := by
  unfold lwB2 at h
  have h6 := lw_add6 (x := x) h.2.1 (by omega)
  unfold lwB
  rw [h6]
  omega
theorem lw_Lm6 {L : Nat} (hL : L ≤ 3072) : (nI L - 6).toInt = (L : Int) - 6 := by
  rw [Int32.toInt_sub, nI_toInt (by omega)]
  show ((L : Int) - 6).bmod (2 ^ 32) = (L : Int) - 6
  rw [Int.bmod_eq_of_le] <;> omega
theorem lwB_in {L : Nat} {x : Int32} {CE SL : Nat} (hL : L ≤ 3072) (h : lwB L x CE SL) (q : ¬ nI L - 6 < x) : lwB1 L x CE SL := by
  rw [Int32.lt_iff_toInt_lt, lw_Lm6 hL] at q
  unfold lwB at h
  unfold lwB1
  omega
theorem lwB_out {L : Nat} {x : Int32} {CE SL : Nat} (hL : L ≤ 3072) (h : lwB L x CE SL) (q : ¬ nI L - 6 < x) : lwB2 L x CE SL := lwB_same (lwB_in hL h q)
