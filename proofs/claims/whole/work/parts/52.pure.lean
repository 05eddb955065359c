section
variable {n L : Nat} {xs : Nat → Int32}
theorem law_step (hn : 1000 ≤ n) (hL : L ≤ 3072) {fu m : Nat} (hm4 : m ≤ 4000) (g : m + 6 ≤ L → GO n L xs fu (m + 6)) : GO n L xs (fu + 1) m := by
  intro areas keys there order added size loads widths height ranks madded msides mkey misThere mboxes morder mlevels mnodes mentries mleft mlow mright mhigh mfirst mend mthrown out outD I
  have six : nI L - 6 < nI m ↔ ¬ m + 6 ≤ L := by
    rw [show (6 : Int32) = nI 6 from rfl, Int32.lt_iff_toInt_lt, pk_sub_toInt (by omega) (by omega), nI_toInt (by omega)]
    omega
  rw [f_L_law_28]
  by_cases hm : m + 6 ≤ L
  · replace g := g hm
    rw [if_neg (fun z => six.1 z hm), jrd_n (by omega) (by omega)]
    unfold jlet
    dsimp only
    by_cases q0 : (xs m &&& 31) = 0
    · rw [if_pos q0]
      exact L_add hn hL hm I g
    rw [if_neg q0]
    by_cases q1 : (xs m &&& 31) = 1
    · rw [if_pos q1]
      exact L_remove hn hL hm I g
    rw [if_neg q1]
    by_cases q2 : (xs m &&& 31) = 2
    · rw [if_pos q2]
      exact L_pack hn hL hm I g
    rw [if_neg q2]
    by_cases q3 : (xs m &&& 31) = 3
    · rw [if_pos q3]
      exact L_boxes hn hL hm I g
    rw [if_neg q3]
    by_cases q4 : (xs m &&& 31) = 4
    · rw [if_pos q4]
      exact L_key hn hL hm I g
    rw [if_neg q4]
    by_cases q5 : (xs m &&& 31) = 5
    · rw [if_pos q5]
      exact L_keyOf hn hL hm I g
    rw [if_neg q5]
    by_cases q6 : (xs m &&& 31) = 6
    · rw [if_pos q6]
      exact L_sideOf hn hL hm I g
    rw [if_neg q6]
    by_cases q7 : (xs m &&& 31) = 7
    · rw [if_pos q7]
      exact L_levels hn hL hm I g
    rw [if_neg q7]
    by_cases q8 : (xs m &&& 31) = 8
    · rw [if_pos q8]
      exact L_nodes hn hL hm I g
    rw [if_neg q8]
    by_cases q9 : (xs m &&& 31) = 9
    · rw [if_pos q9]
      exact L_entries hn hL hm I g
    rw [if_neg q9]
    by_cases q10 : (xs m &&& 31) = 10
    · rw [if_pos q10]
      exact L_cover hn hL hm I g
    rw [if_neg q10]
    by_cases q11 : (xs m &&& 31) = 11
    · rw [if_pos q11]
      exact L_leafOf hn hL hm I g
    rw [if_neg q11]
    by_cases q12 : (xs m &&& 31) = 12
    · rw [if_pos q12]
      exact L_boxAt hn hL hm I g
    rw [if_neg q12]
    by_cases q13 : (xs m &&& 31) = 13
    · rw [if_pos q13]
      exact L_tightness hn hL hm I g
    rw [if_neg q13]
    by_cases q14 : (xs m &&& 31) = 14
    · rw [if_pos q14]
      exact L_count hn hL hm I g
    rw [if_neg q14]
    by_cases q15 : (xs m &&& 31) = 15
    · rw [if_pos q15]
      exact L_found hn hL hm I g
    rw [if_neg q15]
    by_cases q16 : (xs m &&& 31) = 16
    · rw [if_pos q16]
      exact L_visits hn hL hm I g
    rw [if_neg q16]
    by_cases q17 : (xs m &&& 31) = 17
    · rw [if_pos q17]
      exact L_nearest hn hL hm I g
    rw [if_neg q17]
    by_cases q18 : (xs m &&& 31) = 18
    · rw [if_pos q18]
      exact L_distance hn hL hm I g
    rw [if_neg q18]
    by_cases q19 : (xs m &&& 31) = 19
    · rw [if_pos q19]
      exact L_pairs hn hL hm I g
    rw [if_neg q19]
    by_cases q20 : (xs m &&& 31) = 20
    · rw [if_pos q20]
      exact L_pair hn hL hm I g
    rw [if_neg q20]
    unfold f_L_law_1422
    rw [show (6 : Int32) = nI 6 from rfl, nI_add]
    exact g _ _ _ _ _ _ _ _ _ _ _ _ _ _ _ _ _ _ _ _ _ _ _ _ _ _ _ _ I
  · rw [if_pos (six.2 hm)]
theorem law_loop (hn : 1000 ≤ n) (hL : L ≤ 3072) : ∀ fu m, m ≤ L + 6 → L < m + 6 * fu + 6 → GO n L xs (fu + 1) m := by
  intro fu
  induction fu with
  | zero => exact fun m h1 h2 => law_step hn hL (by omega) (fun z => by omega)
  | succ fu ih => exact fun m h1 h2 => law_step hn hL (by omega) (fun z => ih (m + 6) (by omega) (by omega))
end
theorem inv_0 : INV j0 j0 j0 j0 0 0 j0 j0 0 0 j0 j0 j0 0 j0 0 j0 j0 := by
  refine ⟨0, 0, fun _ _ => 0, fun _ => false, fun _ => 0, 0, fun _ => 0, fun _ _ => 0, ⟨rfl, rfl, rfl, rfl, rfl, rfl⟩, ?_, ?_, ?_, ?_⟩
  · refine ⟨by omega, by omega, fun b hb => by omega, fun b hb => by omega, fun b j hb => by omega, fun b hb => by omega, fun b hb => rfl, fun b hb => rfl, fun b hb => rfl, fun i hi => by omega, fun i hi => by omega, fun f => rfl⟩
  · exact ⟨by omega, fun l hl => by omega, fun l k hl => by omega⟩
  · exact ⟨by omega, fun l hl => by omega, fun l k hl => by omega⟩
  · exact ⟨by omega, by omega, ⟨fun z => by omega, fun l z => by omega, fun z => by omega⟩, fun l z => by omega, fun z => by omega⟩
theorem law_pure (L : Nat) (hL : L ≤ 3072) (xs : Nat → Int32) : ∃ n, f_L_law_28 n L xs n j0 j0 j0 j0 0 0 j0 j0 0 j0 0 j0 j0 j0 0 j0 0 j0 j0 0 0 0 0 0 0 0 (fun _ => 0) (fun _ => 0) 0 = some 1 := by
  have g := law_loop (n := L + 999 + 1) (xs := xs) (by omega) hL (L + 999) 0 (by omega) (by omega)
  exact ⟨L + 999 + 1, g _ _ _ _ _ _ _ _ _ _ _ _ _ _ _ _ _ _ _ _ _ _ _ _ _ _ _ _ inv_0⟩
