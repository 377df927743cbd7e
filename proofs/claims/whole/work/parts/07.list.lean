/-! the list of words: what each method does, as predicates over the state; the walks of their bytecode -/
def wX4_size (σ : St) (K : Int32 → Prop) : Prop := K (gI σ 5)
def wX4_rowAt (σ : St) (x1 : Int32) (K : Nat → Prop) : Prop := ((x1 < 0 → K 56) ∧ (¬ x1 < 0 → (((gI σ 5) ≤ x1 → K 56) ∧ (¬ (gI σ 5) ≤ x1 → vp_in x1 24 ∧ (K (gR σ (x1).toNatClampNeg))))))
def wX4_numberAt (σ : St) (x1 : Int32) (K : Int32 → Prop) : Prop := ((x1 < 0 → K (-1 : Int32)) ∧ (¬ x1 < 0 → (((gI σ 5) ≤ x1 → K (-1 : Int32)) ∧ (¬ (gI σ 5) ≤ x1 → vp_in x1 24 ∧ (K (gA σ 55 (x1).toNatClampNeg))))))
def wX4_setNumber (σ : St) (x1 : Int32) (x2 : Int32) (K : St → Prop) : Prop := ((x1 < 0 → K σ) ∧ (¬ x1 < 0 → (((gI σ 5) ≤ x1 → K σ) ∧ (¬ (gI σ 5) ≤ x1 → vp_in x1 24 ∧ (∀ σ_4 : St, σ_4 = pA σ 55 (x1).toNatClampNeg x2 → K σ_4)))))
def wX4_countLess_L2 (K : Int32 → Prop) (σ : St) (x1 : Nat) : Nat → Int32 → Prop
  | 0, _ => False
  | n + 1, x2 => (((gI σ 5) ≤ x2 → K x2) ∧ (¬ (gI σ 5) ≤ x2 → wX4_rowAt σ x2 (fun r_2 => wX2_compareWith σ r_2 x1 (fun r_3 => ((0 ≤ r_3 → K x2) ∧ (¬ 0 ≤ r_3 → wX4_countLess_L2 K σ x1 n (x2 + 1)))))))
def wX4_countLess (σ : St) (x1 : Nat) (K : Int32 → Prop) : Prop := (∃ n : Nat, wX4_countLess_L2 K σ x1 n (0 : Int32))
def wX4_countNotGreater_L2 (K : Int32 → Prop) (σ : St) (x1 : Nat) : Nat → Int32 → Prop
  | 0, _ => False
  | n + 1, x2 => (((gI σ 5) ≤ x2 → K x2) ∧ (¬ (gI σ 5) ≤ x2 → wX4_rowAt σ x2 (fun r_2 => wX2_compareWith σ r_2 x1 (fun r_3 => ((0 < r_3 → K x2) ∧ (¬ 0 < r_3 → wX4_countNotGreater_L2 K σ x1 n (x2 + 1)))))))
def wX4_countNotGreater (σ : St) (x1 : Nat) (K : Int32 → Prop) : Prop := (∃ n : Nat, wX4_countNotGreater_L2 K σ x1 n (0 : Int32))
def wX4_rankOf (σ : St) (x1 : Nat) (K : Int32 → Prop) : Prop := wX4_countLess σ x1 (fun r_1 => (((gI σ 5) ≤ r_1 → K (-1 : Int32)) ∧ (¬ (gI σ 5) ≤ r_1 → wX4_rowAt σ r_1 (fun r_3 => wX2_compareWith σ r_3 x1 (fun r_4 => ((r_4 = 0 → K r_1) ∧ (¬ r_4 = 0 → K (-1 : Int32))))))))
def wX4_insert_L36 (K : St → Prop) (x1 : Nat) (x2 : Int32) (x3 : Int32) (x4 : Nat) : Nat → St → Int32 → Prop
  | 0, _, _ => False
  | n + 1, σ, x5 => ((x5 ≤ x3 → wX2_become σ x4 x1 (fun σ_3 => vp_in x3 24 ∧ (∀ σ_5 : St, σ_5 = pR σ_3 (x3).toNatClampNeg x4 → vp_in x3 24 ∧ (∀ σ_7 : St, σ_7 = pA σ_5 55 (x3).toNatClampNeg x2 → ∀ σ_8 : St, σ_8 = pI σ_7 5 ((gI σ_7 5) + (1 : Int32)) → K σ_8)))) ∧ (¬ x5 ≤ x3 → vp_in (x5 - (1 : Int32)) 24 ∧ (vp_in x5 24 ∧ (∀ σ_12 : St, σ_12 = pR σ (x5).toNatClampNeg (gR σ ((x5 - (1 : Int32))).toNatClampNeg) → vp_in (x5 - (1 : Int32)) 24 ∧ (vp_in x5 24 ∧ (∀ σ_15 : St, σ_15 = pA σ_12 55 (x5).toNatClampNeg (gA σ_12 55 ((x5 - (1 : Int32))).toNatClampNeg) → wX4_insert_L36 K x1 x2 x3 x4 n σ_15 (x5 + (-1))))))))
def wX4_insert (σ : St) (x1 : Nat) (x2 : Int32) (K : St → Prop) : Prop := (((gI σ 5) < (24 : Int32) → wX4_countLess σ x1 (fun r_17 => vp_in (gI σ 5) 24 ∧ (∀ x5_20 : Int32, x5_20 = (gI σ 5) → (∃ n : Nat, wX4_insert_L36 K x1 x2 r_17 (gR σ ((gI σ 5)).toNatClampNeg) n σ x5_20)))) ∧ (¬ (gI σ 5) < (24 : Int32) → K σ))
def wX4_remove_L24 (K : St → Prop) (x2 : Nat) : Nat → St → Int32 → Prop
  | 0, _, _ => False
  | n + 1, σ, x3 => (((gI σ 5) ≤ x3 → ∀ σ_2 : St, σ_2 = pI σ 5 ((gI σ 5) - (1 : Int32)) → vp_in (gI σ_2 5) 24 ∧ (∀ σ_4 : St, σ_4 = pR σ_2 ((gI σ_2 5)).toNatClampNeg x2 → K σ_4)) ∧ (¬ (gI σ 5) ≤ x3 → vp_in x3 24 ∧ (vp_in (x3 - (1 : Int32)) 24 ∧ (∀ σ_8 : St, σ_8 = pR σ ((x3 - (1 : Int32))).toNatClampNeg (gR σ (x3).toNatClampNeg) → vp_in x3 24 ∧ (vp_in (x3 - (1 : Int32)) 24 ∧ (∀ σ_11 : St, σ_11 = pA σ_8 55 ((x3 - (1 : Int32))).toNatClampNeg (gA σ_8 55 (x3).toNatClampNeg) → wX4_remove_L24 K x2 n σ_11 (x3 + 1)))))))
def wX4_remove (σ : St) (x1 : Int32) (K : St → Prop) : Prop := ((x1 < 0 → K σ) ∧ (¬ x1 < 0 → ((x1 < (gI σ 5) → vp_in x1 24 ∧ ((∃ n : Nat, wX4_remove_L24 K (gR σ (x1).toNatClampNeg) n σ (x1 + (1 : Int32))))) ∧ (¬ x1 < (gI σ 5) → K σ))))
def wX4_countBegun_L4 (K : Int32 → Prop) (σ : St) (x1 : Nat) : Nat → Int32 → Int32 → Prop
  | 0, _, _ => False
  | n + 1, x2, x3 => (((gI σ 5) ≤ x3 → K x2) ∧ (¬ (gI σ 5) ≤ x3 → wX4_rowAt σ x3 (fun r_2 => wX2_beginsWith σ r_2 x1 (fun r_3 => ((r_3 = 0 → wX4_countBegun_L4 K σ x1 n x2 (x3 + 1)) ∧ (¬ r_3 = 0 → wX4_countBegun_L4 K σ x1 n (x2 + 1) (x3 + 1)))))))
def wX4_countBegun (σ : St) (x1 : Nat) (K : Int32 → Prop) : Prop := (∃ n : Nat, wX4_countBegun_L4 K σ x1 n (0 : Int32) (0 : Int32))
def wX4_rankBegun_L5 (K : Int32 → Prop) (σ : St) (x1 : Nat) : Nat → Int32 → Int32 → Prop
  | 0, _, _ => False
  | n + 1, x3, x4 => (((gI σ 5) ≤ x4 → K (-1 : Int32)) ∧ (¬ (gI σ 5) ≤ x4 → wX4_rowAt σ x4 (fun r_2 => wX2_beginsWith σ r_2 x1 (fun r_3 => ((r_3 = 0 → wX4_rankBegun_L5 K σ x1 n x3 (x4 + 1)) ∧ (¬ r_3 = 0 → ((x3 = 0 → K x4) ∧ (¬ x3 = 0 → wX4_rankBegun_L5 K σ x1 n (x3 + (-1)) (x4 + 1)))))))))
def wX4_rankBegun (σ : St) (x1 : Nat) (x2 : Int32) (K : Int32 → Prop) : Prop := (∃ n : Nat, wX4_rankBegun_L5 K σ x1 n x2 (0 : Int32))
def wX4_sumBegun_L4 (K : Int32 → Prop) (σ : St) (x1 : Nat) : Nat → Int32 → Int32 → Prop
  | 0, _, _ => False
  | n + 1, x2, x3 => (((gI σ 5) ≤ x3 → K x2) ∧ (¬ (gI σ 5) ≤ x3 → wX4_rowAt σ x3 (fun r_2 => wX2_beginsWith σ r_2 x1 (fun r_3 => ((r_3 = 0 → wX4_sumBegun_L4 K σ x1 n x2 (x3 + 1)) ∧ (¬ r_3 = 0 → wX4_numberAt σ x3 (fun r_5 => wX4_sumBegun_L4 K σ x1 n (x2 + r_5) (x3 + 1))))))))
def wX4_sumBegun (σ : St) (x1 : Nat) (K : Int32 → Prop) : Prop := (∃ n : Nat, wX4_sumBegun_L4 K σ x1 n (0 : Int32) (0 : Int32))
def wX4_removeBegun_L9 (K : Int32 → St → Prop) (x1 : Nat) : Nat → St → Int32 → Int32 → Prop
  | 0, _, _, _ => False
  | n + 1, σ, x2, x3 => ((x3 < 0 → K x2 σ) ∧ (¬ x3 < 0 → wX4_rowAt σ x3 (fun r_2 => wX2_beginsWith σ r_2 x1 (fun r_3 => ((r_3 = 0 → wX4_removeBegun_L9 K x1 n σ x2 (x3 + (-1))) ∧ (¬ r_3 = 0 → wX4_remove σ x3 (fun σ_6 => wX4_removeBegun_L9 K x1 n σ_6 (x2 + 1) (x3 + (-1)))))))))
def wX4_removeBegun (σ : St) (x1 : Nat) (K : Int32 → St → Prop) : Prop := ∀ x3_7 : Int32, x3_7 = ((gI σ 5) - (1 : Int32)) → (∃ n : Nat, wX4_removeBegun_L9 K x1 n σ (0 : Int32) x3_7)
def wX4_longestAt_L5 (K : Int32 → Prop) (σ : St) (x1 : Nat) (x2 : Int32) : Nat → Int32 → Int32 → Prop
  | 0, _, _ => False
  | n + 1, x3, x4 => (((gI σ 5) ≤ x4 → K x3) ∧ (¬ (gI σ 5) ≤ x4 → wX4_rowAt σ x4 (fun r_2 => wX2_hasAt σ x1 x2 r_2 (fun r_3 => ((r_3 = 0 → wX4_longestAt_L5 K σ x1 x2 n x3 (x4 + 1)) ∧ (¬ r_3 = 0 → wX4_rowAt σ x4 (fun r_5 => wX2_size σ r_5 (fun r_6 => ∀ x3_7 : Int32, x3_7 = (if x3 < r_6 then r_6 else x3) → wX4_longestAt_L5 K σ x1 x2 n x3_7 (x4 + 1)))))))))
def wX4_longestAt (σ : St) (x1 : Nat) (x2 : Int32) (K : Int32 → Prop) : Prop := (∃ n : Nat, wX4_longestAt_L5 K σ x1 x2 n (0 : Int32) (0 : Int32))
def wX4_mostCommon_L4 (K : Int32 → Prop) (σ : St) (x1 : Nat) : Nat → Int32 → Int32 → Prop
  | 0, _, _ => False
  | n + 1, x2, x3 => (((gI σ 5) ≤ x3 → K x2) ∧ (¬ (gI σ 5) ≤ x3 → wX4_rowAt σ x3 (fun r_2 => wX2_common σ x1 r_2 (fun r_3 => ∀ x2_4 : Int32, x2_4 = (if x2 < r_3 then r_3 else x2) → wX4_mostCommon_L4 K σ x1 n x2_4 (x3 + 1)))))
def wX4_mostCommon (σ : St) (x1 : Nat) (K : Int32 → Prop) : Prop := (∃ n : Nat, wX4_mostCommon_L4 K σ x1 n (0 : Int32) (0 : Int32))
def wX4_mostCommonOfTwo_L16 (K : Int32 → Prop) (B4 : Int32 → Int32 → Prop) (σ : St) (x2 : Int32) : Nat → Int32 → Int32 → Prop
  | 0, _, _ => False
  | n + 1, x1, x3 => (((gI σ 5) ≤ x3 → B4 x1 (x2 + 1)) ∧ (¬ (gI σ 5) ≤ x3 → wX4_rowAt σ x2 (fun r_2 => wX4_rowAt σ x3 (fun r_3 => wX2_common σ r_2 r_3 (fun r_4 => ∀ x1_5 : Int32, x1_5 = (if x1 < r_4 then r_4 else x1) → wX4_mostCommonOfTwo_L16 K B4 σ x2 n x1_5 (x3 + 1))))))
def wX4_mostCommonOfTwo_L4 (K : Int32 → Prop) (σ : St) : Nat → Int32 → Int32 → Prop
  | 0, _, _ => False
  | n + 1, x1, x2 => (((gI σ 5) ≤ x2 → K x1) ∧ (¬ (gI σ 5) ≤ x2 → (∃ nn : Nat, wX4_mostCommonOfTwo_L16 K (wX4_mostCommonOfTwo_L4 K σ n) σ x2 nn x1 (x2 + (1 : Int32)))))
def wX4_mostCommonOfTwo (σ : St) (K : Int32 → Prop) : Prop := (∃ n : Nat, wX4_mostCommonOfTwo_L4 K σ n (0 : Int32) (0 : Int32))
abbrev rmX4_size : Room := { frames := 0, cells := 0, slots := 0, locals := 0 }
theorem ddX4_size : yX4_size.cls = RX4 ∧ yX4_size.cls ≠ "java/lang/invoke/MethodHandle" ∧ yX4_size.cls ≠ "java/lang/invoke/VarHandle" ∧ (parseMethodDescriptor yX4_size.desc).map (fun d => d.parameters.length) = some 0 := by decide +kernel
set_option maxRecDepth 20000 in
theorem kX4_size_0 : Cond.fieldLink RX4 28 "Stemspan$WordList" "count" "I" ∈ wsX4_size := by decide +kernel
set_option maxRecDepth 20000 in
theorem kX4_size_inX4 : ∀ w ∈ wsX40, w ∈ wsX4_size := by decide +kernel
abbrev rmX4_rowAt : Room := { frames := 0, cells := 0, slots := 0, locals := 0 }
theorem ddX4_rowAt : yX4_rowAt.cls = RX4 ∧ yX4_rowAt.cls ≠ "java/lang/invoke/MethodHandle" ∧ yX4_rowAt.cls ≠ "java/lang/invoke/VarHandle" ∧ (parseMethodDescriptor yX4_rowAt.desc).map (fun d => d.parameters.length) = some 1 := by decide +kernel
set_option maxRecDepth 20000 in
theorem kX4_rowAt_0 : Cond.fieldLink RX4 24 "Stemspan$WordList" "nothing" "LStemspan$Row;" ∈ wsX4_rowAt := by decide +kernel
set_option maxRecDepth 20000 in
theorem kX4_rowAt_inX4 : ∀ w ∈ wsX40, w ∈ wsX4_rowAt := by decide +kernel
set_option maxRecDepth 20000 in
theorem kX4_rowAt_2 : Cond.fieldLink RX4 28 "Stemspan$WordList" "count" "I" ∈ wsX4_rowAt := by decide +kernel
set_option maxRecDepth 20000 in
theorem kX4_rowAt_3 : Cond.fieldLink RX4 11 "Stemspan$WordList" "rows" "[LStemspan$Row;" ∈ wsX4_rowAt := by decide +kernel
abbrev rmX4_numberAt : Room := { frames := 0, cells := 0, slots := 0, locals := 0 }
theorem ddX4_numberAt : yX4_numberAt.cls = RX4 ∧ yX4_numberAt.cls ≠ "java/lang/invoke/MethodHandle" ∧ yX4_numberAt.cls ≠ "java/lang/invoke/VarHandle" ∧ (parseMethodDescriptor yX4_numberAt.desc).map (fun d => d.parameters.length) = some 1 := by decide +kernel
set_option maxRecDepth 20000 in
theorem kX4_numberAt_0 : Cond.fieldLink RX4 28 "Stemspan$WordList" "count" "I" ∈ wsX4_numberAt := by decide +kernel
set_option maxRecDepth 20000 in
theorem kX4_numberAt_inX4 : ∀ w ∈ wsX40, w ∈ wsX4_numberAt := by decide +kernel
set_option maxRecDepth 20000 in
theorem kX4_numberAt_2 : Cond.fieldLink RX4 20 "Stemspan$WordList" "numbers" "[I" ∈ wsX4_numberAt := by decide +kernel
abbrev rmX4_setNumber : Room := { frames := 0, cells := 0, slots := 0, locals := 0 }
theorem ddX4_setNumber : yX4_setNumber.cls = RX4 ∧ yX4_setNumber.cls ≠ "java/lang/invoke/MethodHandle" ∧ yX4_setNumber.cls ≠ "java/lang/invoke/VarHandle" ∧ (parseMethodDescriptor yX4_setNumber.desc).map (fun d => d.parameters.length) = some 2 := by decide +kernel
set_option maxRecDepth 20000 in
theorem kX4_setNumber_0 : Cond.fieldLink RX4 28 "Stemspan$WordList" "count" "I" ∈ wsX4_setNumber := by decide +kernel
set_option maxRecDepth 20000 in
theorem kX4_setNumber_inX4 : ∀ w ∈ wsX40, w ∈ wsX4_setNumber := by decide +kernel
set_option maxRecDepth 20000 in
theorem kX4_setNumber_2 : Cond.fieldLink RX4 20 "Stemspan$WordList" "numbers" "[I" ∈ wsX4_setNumber := by decide +kernel
abbrev rmX4_countLess : Room := { frames := 2, cells := 0, slots := 0, locals := 44 }
theorem ddX4_countLess : yX4_countLess.cls = RX4 ∧ yX4_countLess.cls ≠ "java/lang/invoke/MethodHandle" ∧ yX4_countLess.cls ≠ "java/lang/invoke/VarHandle" ∧ (parseMethodDescriptor yX4_countLess.desc).map (fun d => d.parameters.length) = some 1 := by decide +kernel
set_option maxRecDepth 20000 in
theorem kX4_countLess_0 : Cond.fieldLink RX4 28 "Stemspan$WordList" "count" "I" ∈ wsX4_countLess := by decide +kernel
set_option maxRecDepth 20000 in
theorem kX4_countLess_inX4 : ∀ w ∈ wsX40, w ∈ wsX4_countLess := by decide +kernel
abbrev rmX4_countNotGreater : Room := { frames := 2, cells := 0, slots := 0, locals := 44 }
theorem ddX4_countNotGreater : yX4_countNotGreater.cls = RX4 ∧ yX4_countNotGreater.cls ≠ "java/lang/invoke/MethodHandle" ∧ yX4_countNotGreater.cls ≠ "java/lang/invoke/VarHandle" ∧ (parseMethodDescriptor yX4_countNotGreater.desc).map (fun d => d.parameters.length) = some 1 := by decide +kernel
set_option maxRecDepth 20000 in
theorem kX4_countNotGreater_0 : Cond.fieldLink RX4 28 "Stemspan$WordList" "count" "I" ∈ wsX4_countNotGreater := by decide +kernel
set_option maxRecDepth 20000 in
theorem kX4_countNotGreater_inX4 : ∀ w ∈ wsX40, w ∈ wsX4_countNotGreater := by decide +kernel
abbrev rmX4_rankOf : Room := { frames := 3, cells := 0, slots := 0, locals := 66 }
theorem ddX4_rankOf : yX4_rankOf.cls = RX4 ∧ yX4_rankOf.cls ≠ "java/lang/invoke/MethodHandle" ∧ yX4_rankOf.cls ≠ "java/lang/invoke/VarHandle" ∧ (parseMethodDescriptor yX4_rankOf.desc).map (fun d => d.parameters.length) = some 1 := by decide +kernel
set_option maxRecDepth 20000 in
theorem kX4_rankOf_0 : Cond.fieldLink RX4 28 "Stemspan$WordList" "count" "I" ∈ wsX4_rankOf := by decide +kernel
set_option maxRecDepth 20000 in
theorem kX4_rankOf_inX4 : ∀ w ∈ wsX40, w ∈ wsX4_rankOf := by decide +kernel
abbrev rmX4_insert : Room := { frames := 3, cells := 0, slots := 0, locals := 66 }
theorem ddX4_insert : yX4_insert.cls = RX4 ∧ yX4_insert.cls ≠ "java/lang/invoke/MethodHandle" ∧ yX4_insert.cls ≠ "java/lang/invoke/VarHandle" ∧ (parseMethodDescriptor yX4_insert.desc).map (fun d => d.parameters.length) = some 2 := by decide +kernel
set_option maxRecDepth 20000 in
theorem kX4_insert_0 : Cond.fieldLink RX4 11 "Stemspan$WordList" "rows" "[LStemspan$Row;" ∈ wsX4_insert := by decide +kernel
set_option maxRecDepth 20000 in
theorem kX4_insert_inX4 : ∀ w ∈ wsX40, w ∈ wsX4_insert := by decide +kernel
set_option maxRecDepth 20000 in
theorem kX4_insert_2 : Cond.fieldLink RX4 20 "Stemspan$WordList" "numbers" "[I" ∈ wsX4_insert := by decide +kernel
set_option maxRecDepth 20000 in
theorem kX4_insert_3 : Cond.fieldLink RX4 28 "Stemspan$WordList" "count" "I" ∈ wsX4_insert := by decide +kernel
abbrev rmX4_remove : Room := { frames := 0, cells := 0, slots := 0, locals := 0 }
theorem ddX4_remove : yX4_remove.cls = RX4 ∧ yX4_remove.cls ≠ "java/lang/invoke/MethodHandle" ∧ yX4_remove.cls ≠ "java/lang/invoke/VarHandle" ∧ (parseMethodDescriptor yX4_remove.desc).map (fun d => d.parameters.length) = some 1 := by decide +kernel
set_option maxRecDepth 20000 in
theorem kX4_remove_0 : Cond.fieldLink RX4 28 "Stemspan$WordList" "count" "I" ∈ wsX4_remove := by decide +kernel
set_option maxRecDepth 20000 in
theorem kX4_remove_inX4 : ∀ w ∈ wsX40, w ∈ wsX4_remove := by decide +kernel
set_option maxRecDepth 20000 in
theorem kX4_remove_2 : Cond.fieldLink RX4 11 "Stemspan$WordList" "rows" "[LStemspan$Row;" ∈ wsX4_remove := by decide +kernel
set_option maxRecDepth 20000 in
theorem kX4_remove_3 : Cond.fieldLink RX4 20 "Stemspan$WordList" "numbers" "[I" ∈ wsX4_remove := by decide +kernel
abbrev rmX4_countBegun : Room := { frames := 2, cells := 0, slots := 0, locals := 44 }
theorem ddX4_countBegun : yX4_countBegun.cls = RX4 ∧ yX4_countBegun.cls ≠ "java/lang/invoke/MethodHandle" ∧ yX4_countBegun.cls ≠ "java/lang/invoke/VarHandle" ∧ (parseMethodDescriptor yX4_countBegun.desc).map (fun d => d.parameters.length) = some 1 := by decide +kernel
set_option maxRecDepth 20000 in
theorem kX4_countBegun_0 : Cond.fieldLink RX4 28 "Stemspan$WordList" "count" "I" ∈ wsX4_countBegun := by decide +kernel
set_option maxRecDepth 20000 in
theorem kX4_countBegun_inX4 : ∀ w ∈ wsX40, w ∈ wsX4_countBegun := by decide +kernel
abbrev rmX4_rankBegun : Room := { frames := 2, cells := 0, slots := 0, locals := 44 }
theorem ddX4_rankBegun : yX4_rankBegun.cls = RX4 ∧ yX4_rankBegun.cls ≠ "java/lang/invoke/MethodHandle" ∧ yX4_rankBegun.cls ≠ "java/lang/invoke/VarHandle" ∧ (parseMethodDescriptor yX4_rankBegun.desc).map (fun d => d.parameters.length) = some 2 := by decide +kernel
set_option maxRecDepth 20000 in
theorem kX4_rankBegun_0 : Cond.fieldLink RX4 28 "Stemspan$WordList" "count" "I" ∈ wsX4_rankBegun := by decide +kernel
set_option maxRecDepth 20000 in
theorem kX4_rankBegun_inX4 : ∀ w ∈ wsX40, w ∈ wsX4_rankBegun := by decide +kernel
abbrev rmX4_sumBegun : Room := { frames := 2, cells := 0, slots := 0, locals := 44 }
theorem ddX4_sumBegun : yX4_sumBegun.cls = RX4 ∧ yX4_sumBegun.cls ≠ "java/lang/invoke/MethodHandle" ∧ yX4_sumBegun.cls ≠ "java/lang/invoke/VarHandle" ∧ (parseMethodDescriptor yX4_sumBegun.desc).map (fun d => d.parameters.length) = some 1 := by decide +kernel
set_option maxRecDepth 20000 in
theorem kX4_sumBegun_0 : Cond.fieldLink RX4 28 "Stemspan$WordList" "count" "I" ∈ wsX4_sumBegun := by decide +kernel
set_option maxRecDepth 20000 in
theorem kX4_sumBegun_inX4 : ∀ w ∈ wsX40, w ∈ wsX4_sumBegun := by decide +kernel
abbrev rmX4_removeBegun : Room := { frames := 2, cells := 0, slots := 0, locals := 44 }
theorem ddX4_removeBegun : yX4_removeBegun.cls = RX4 ∧ yX4_removeBegun.cls ≠ "java/lang/invoke/MethodHandle" ∧ yX4_removeBegun.cls ≠ "java/lang/invoke/VarHandle" ∧ (parseMethodDescriptor yX4_removeBegun.desc).map (fun d => d.parameters.length) = some 1 := by decide +kernel
set_option maxRecDepth 20000 in
theorem kX4_removeBegun_0 : Cond.fieldLink RX4 28 "Stemspan$WordList" "count" "I" ∈ wsX4_removeBegun := by decide +kernel
set_option maxRecDepth 20000 in
theorem kX4_removeBegun_inX4 : ∀ w ∈ wsX40, w ∈ wsX4_removeBegun := by decide +kernel
abbrev rmX4_longestAt : Room := { frames := 1, cells := 0, slots := 0, locals := 23 }
theorem ddX4_longestAt : yX4_longestAt.cls = RX4 ∧ yX4_longestAt.cls ≠ "java/lang/invoke/MethodHandle" ∧ yX4_longestAt.cls ≠ "java/lang/invoke/VarHandle" ∧ (parseMethodDescriptor yX4_longestAt.desc).map (fun d => d.parameters.length) = some 2 := by decide +kernel
set_option maxRecDepth 20000 in
theorem kX4_longestAt_0 : Cond.fieldLink RX4 28 "Stemspan$WordList" "count" "I" ∈ wsX4_longestAt := by decide +kernel
set_option maxRecDepth 20000 in
theorem kX4_longestAt_inX4 : ∀ w ∈ wsX40, w ∈ wsX4_longestAt := by decide +kernel
set_option maxRecDepth 20000 in
theorem kX4_longestAt_2 : Cond.methodLink RX4 66 Lib.Math.max.name ∈ wsX4_longestAt := by decide +kernel
set_option maxRecDepth 20000 in
theorem kX4_longestAt_3 : Cond.static Lib.Math.max.name ∈ wsX4_longestAt := by decide +kernel
set_option maxRecDepth 20000 in
theorem kX4_longestAt_4 : Cond.initialized "java/lang/Math" ∈ wsX4_longestAt := by decide +kernel
set_option maxRecDepth 20000 in
theorem kX4_longestAt_5 : Cond.code Lib.Math.max.name Lib.Math.max.code 2 (some .int) ∈ wsX4_longestAt := by decide +kernel
abbrev rmX4_mostCommon : Room := { frames := 1, cells := 0, slots := 0, locals := 22 }
theorem ddX4_mostCommon : yX4_mostCommon.cls = RX4 ∧ yX4_mostCommon.cls ≠ "java/lang/invoke/MethodHandle" ∧ yX4_mostCommon.cls ≠ "java/lang/invoke/VarHandle" ∧ (parseMethodDescriptor yX4_mostCommon.desc).map (fun d => d.parameters.length) = some 1 := by decide +kernel
set_option maxRecDepth 20000 in
theorem kX4_mostCommon_0 : Cond.fieldLink RX4 28 "Stemspan$WordList" "count" "I" ∈ wsX4_mostCommon := by decide +kernel
set_option maxRecDepth 20000 in
theorem kX4_mostCommon_inX4 : ∀ w ∈ wsX40, w ∈ wsX4_mostCommon := by decide +kernel
set_option maxRecDepth 20000 in
theorem kX4_mostCommon_2 : Cond.methodLink RX4 66 Lib.Math.max.name ∈ wsX4_mostCommon := by decide +kernel
set_option maxRecDepth 20000 in
theorem kX4_mostCommon_3 : Cond.static Lib.Math.max.name ∈ wsX4_mostCommon := by decide +kernel
set_option maxRecDepth 20000 in
theorem kX4_mostCommon_4 : Cond.initialized "java/lang/Math" ∈ wsX4_mostCommon := by decide +kernel
set_option maxRecDepth 20000 in
theorem kX4_mostCommon_5 : Cond.code Lib.Math.max.name Lib.Math.max.code 2 (some .int) ∈ wsX4_mostCommon := by decide +kernel
abbrev rmX4_mostCommonOfTwo : Room := { frames := 1, cells := 0, slots := 0, locals := 22 }
theorem ddX4_mostCommonOfTwo : yX4_mostCommonOfTwo.cls = RX4 ∧ yX4_mostCommonOfTwo.cls ≠ "java/lang/invoke/MethodHandle" ∧ yX4_mostCommonOfTwo.cls ≠ "java/lang/invoke/VarHandle" ∧ (parseMethodDescriptor yX4_mostCommonOfTwo.desc).map (fun d => d.parameters.length) = some 0 := by decide +kernel
set_option maxRecDepth 20000 in
theorem kX4_mostCommonOfTwo_0 : Cond.fieldLink RX4 28 "Stemspan$WordList" "count" "I" ∈ wsX4_mostCommonOfTwo := by decide +kernel
set_option maxRecDepth 20000 in
theorem kX4_mostCommonOfTwo_inX4 : ∀ w ∈ wsX40, w ∈ wsX4_mostCommonOfTwo := by decide +kernel
set_option maxRecDepth 20000 in
theorem kX4_mostCommonOfTwo_2 : Cond.methodLink RX4 66 Lib.Math.max.name ∈ wsX4_mostCommonOfTwo := by decide +kernel
set_option maxRecDepth 20000 in
theorem kX4_mostCommonOfTwo_3 : Cond.static Lib.Math.max.name ∈ wsX4_mostCommonOfTwo := by decide +kernel
set_option maxRecDepth 20000 in
theorem kX4_mostCommonOfTwo_4 : Cond.initialized "java/lang/Math" ∈ wsX4_mostCommonOfTwo := by decide +kernel
set_option maxRecDepth 20000 in
theorem kX4_mostCommonOfTwo_5 : Cond.code Lib.Math.max.name Lib.Math.max.code 2 (some .int) ∈ wsX4_mostCommonOfTwo := by decide +kernel
section
variable {p : Program} {l : Launch} {e : Env} {s : State} {m : MethodId} {args : Array Value} {below : List Frame} {meth : Method} {c : Code} {Q : State → Prop} {D : va_G} {ad : Nat → Nat} {ci : Nat → ClassId} {A : Nat → Prop} {H0 : Heap}
set_option maxHeartbeats 4000000 in
set_option maxRecDepth 100000 in
theorem eX4_size (C0 : CallFix p m c cX4_size 1 s args wsX4_size RX4) (hK : Kx D (tyC ci) s) (K : Int32 → Prop) (σ : St) (hret : ∀ (r : Int32) (H : Heap) (locs : List Loc) (pc : Nat) (ls : Array Slot), K r → Sy D 132 ad A H0 (obC ad ci σ) H locs → decode cX4_size pc = .ok (.ireturn, 1) → W p l e rmX4_size s m args below meth c H locs 0 0 Q (F0 m pc ls [.int r])) (h : wX4_size σ K) (H : Heap) (locs : List Loc) (hY : Sy D 132 ad A H0 (obC ad ci σ) H locs) (hR : Rok σ) (ls : Array Slot) (hl : lv_has ls 1 [(0, .ref (ad 5))]) : W p l e rmX4_size s m args below meth c H locs 0 0 Q (F0 m 0 ls []) := by
  obtain ⟨hx, hb, hml, hown, hts⟩ := id C0
  refine lv_aload_n hx hb dX4_size_0 rfl (lv_at hl 0 rfl) ?_
  refine w_get (o := 5) (ci := 4) (C := RX4) (T := TX4) (N1 := 4) (v := .int (gI σ 5)) hx hb hts kX4_size_inX4 hown hK.1 hY (by decide) obC_list rfl 3 (by decide) (hts _ kX4_size_0) rfl rfl dX4_size_1 ?_
  exact hret (gI σ 5) _ _ _ _ h hY dX4_size_4
set_option maxHeartbeats 4000000 in
set_option maxRecDepth 100000 in
theorem mX4_size (l : Launch) (D : va_G) (ad : Nat → Nat) (ci : Nat → ClassId) (A : Nat → Prop) (σ : St) (K : Int32 → Prop) (hR : Rok σ) (h : wX4_size σ K) : Met l yX4_size wsX4_size rmX4_size (va_Pc [.ref (ad 5)] (PreW D 132 ad A (tyC ci) (obC ad ci σ))) (va_Qi (fun r (_ : Unit) => K r) (fun _ => (PostW D 132 ad (tyC ci) (obC ad ci) Rok σ)) A) 0 0 A := by
  refine Met.ofW (cc := cX4_size) (maxL := 1) (ret := (some .int)) (by decide) rfl ?_
  intro p e s m args below meth c s₁ B hml hv
  obtain ⟨rfl, hP, hK, hD⟩ := hv
  have C0 : CallFix p m c cX4_size 1 s _ wsX4_size RX4 := ⟨B.exec, B.bytes, hml, findClass_of_methodNamed B.named, atoms_spec (ws := wsX4_size) B.pre⟩
  have hlocks := B.notSynchronized
  have hY : Sy D 132 ad A s.heap (obC ad ci σ) s.heap [] := ⟨hP, hD, va_S.rf⟩
  have hl := lv_entry ([.ref (ad 5)]) (n := 1) (Nat.le_of_ble_eq_true rfl)
  rw [lg_entry_eq]
  generalize (lg_sl ([.ref (ad 5)]) ++ List.replicate (1 - (lg_sl ([.ref (ad 5)])).length) Slot.unset).toArray = ls at hl ⊢
  exact eX4_size C0 hK K σ (fun r H locs pc ls hk hY hd => w_iret (I := Rok) B.exec B.bytes B.returns hlocks (u := ()) hK hk (fun t ht => ht) hY hR hd) h _ _ hY hR ls hl
set_option maxHeartbeats 4000000 in
set_option maxRecDepth 100000 in
theorem eX4_rowAt (C0 : CallFix p m c cX4_rowAt 2 s args wsX4_rowAt RX4) (hK : Kx D (tyC ci) s) (K : Nat → Prop) (σ : St) (hret : ∀ (r : Nat) (H : Heap) (locs : List Loc) (pc : Nat) (ls : Array Slot), rowB r = true → K r → Sy D 132 ad A H0 (obC ad ci σ) H locs → decode cX4_rowAt pc = .ok (.areturn, 1) → W p l e rmX4_rowAt s m args below meth c H locs 0 0 Q (F0 m pc ls [.ref (ad r)])) (x1 : Int32) (h : wX4_rowAt σ x1 K) (H : Heap) (locs : List Loc) (hY : Sy D 132 ad A H0 (obC ad ci σ) H locs) (hR : Rok σ) (ls : Array Slot) (hl : lv_has ls 2 [(0, .ref (ad 5)), (1, .int x1)]) : W p l e rmX4_rowAt s m args below meth c H locs 0 0 Q (F0 m 0 ls []) := by
  obtain ⟨hx, hb, hml, hown, hts⟩ := id C0
  refine lv_iload_n hx hb dX4_rowAt_0 rfl (lv_at hl 1 rfl) ?_
  refine lv_if_lt (tgt := 21) hx hb dX4_rowAt_1 (by decide) (fun c_1 => ?_) (fun c_1 => ?_)
  · have h := h.1 c_1
    refine lv_aload_n hx hb dX4_rowAt_21 rfl (lv_at hl 0 rfl) ?_
    refine w_get (o := 5) (ci := 4) (C := RX4) (T := TX4) (N1 := 4) (v := .ref (ad 56)) hx hb hts kX4_rowAt_inX4 hown hK.1 hY (by decide) obC_list rfl 2 (by decide) (hts _ kX4_rowAt_0) rfl rfl dX4_rowAt_22 ?_
    exact hret 56 _ _ _ _ (by decide) h hY dX4_rowAt_25
  · have h := h.2 c_1
    refine lv_iload_n hx hb dX4_rowAt_4 rfl (lv_at hl 1 rfl) ?_
    refine lv_aload_n hx hb dX4_rowAt_5 rfl (lv_at hl 0 rfl) ?_
    refine w_get (o := 5) (ci := 4) (C := RX4) (T := TX4) (N1 := 4) (v := .int (gI σ 5)) hx hb hts kX4_rowAt_inX4 hown hK.1 hY (by decide) obC_list rfl 3 (by decide) (hts _ kX4_rowAt_2) rfl rfl dX4_rowAt_6 ?_
    refine lv_icmp_ge (tgt := 21) hx hb dX4_rowAt_9 (by decide) (fun c_2 => ?_) (fun c_2 => ?_)
    · have h := h.1 c_2
      refine lv_aload_n hx hb dX4_rowAt_21 rfl (lv_at hl 0 rfl) ?_
      refine w_get (o := 5) (ci := 4) (C := RX4) (T := TX4) (N1 := 4) (v := .ref (ad 56)) hx hb hts kX4_rowAt_inX4 hown hK.1 hY (by decide) obC_list rfl 2 (by decide) (hts _ kX4_rowAt_0) rfl rfl dX4_rowAt_22 ?_
      exact hret 56 _ _ _ _ (by decide) h hY dX4_rowAt_25
    · have h := h.2 c_2
      refine lv_aload_n hx hb dX4_rowAt_12 rfl (lv_at hl 0 rfl) ?_
      refine w_get (o := 5) (ci := 4) (C := RX4) (T := TX4) (N1 := 4) (v := .ref (ad 6)) hx hb hts kX4_rowAt_inX4 hown hK.1 hY (by decide) obC_list rfl 0 (by decide) (hts _ kX4_rowAt_3) rfl rfl dX4_rowAt_13 ?_
      refine lv_iload_n hx hb dX4_rowAt_16 rfl (lv_at hl 1 rfl) ?_
      obtain ⟨b_3, h⟩ := h
      refine w_aald (o := 6) (C := RX2) (f := gR σ) hx hb hK.1 hY (by decide) 3 rfl rfl b_3 dX4_rowAt_17 ?_
      have r_4 : rowB (gR σ (x1).toNatClampNeg) = true := hR _ (vp_lt b_3)
      refine lv_goto (tgt := 25) hx hb dX4_rowAt_18 (by decide) ?_
      exact hret (gR σ (x1).toNatClampNeg) _ _ _ _ r_4 h hY dX4_rowAt_25
set_option maxHeartbeats 4000000 in
set_option maxRecDepth 100000 in
theorem mX4_rowAt (l : Launch) (D : va_G) (ad : Nat → Nat) (ci : Nat → ClassId) (A : Nat → Prop) (σ : St) (x1 : Int32) (K : Nat → Prop) (hR : Rok σ) (h : wX4_rowAt σ x1 K) : Met l yX4_rowAt wsX4_rowAt rmX4_rowAt (va_Pc [.ref (ad 5), .int x1] (PreW D 132 ad A (tyC ci) (obC ad ci σ))) (va_Qr (fun r => rowB r = true ∧ K r) (fun r b t => b = ad r ∧ (PostW D 132 ad (tyC ci) (obC ad ci) Rok σ t)) A) 0 0 A := by
  refine Met.ofW (cc := cX4_rowAt) (maxL := 2) (ret := (some (.object "Stemspan$Row"))) (by decide) rfl ?_
  intro p e s m args below meth c s₁ B hml hv
  obtain ⟨rfl, hP, hK, hD⟩ := hv
  have C0 : CallFix p m c cX4_rowAt 2 s _ wsX4_rowAt RX4 := ⟨B.exec, B.bytes, hml, findClass_of_methodNamed B.named, atoms_spec (ws := wsX4_rowAt) B.pre⟩
  have hlocks := B.notSynchronized
  have hY : Sy D 132 ad A s.heap (obC ad ci σ) s.heap [] := ⟨hP, hD, va_S.rf⟩
  have hl := lv_entry ([.ref (ad 5), .int x1]) (n := 2) (Nat.le_of_ble_eq_true rfl)
  rw [lg_entry_eq]
  generalize (lg_sl ([.ref (ad 5), .int x1]) ++ List.replicate (2 - (lg_sl ([.ref (ad 5), .int x1])).length) Slot.unset).toArray = ls at hl ⊢
  exact eX4_rowAt C0 hK K σ (fun r H locs pc ls hr hk hY hd => w_rret (I := Rok) B.exec B.bytes B.returns hlocks hK ⟨hr, hk⟩ (fun t ht => ⟨rfl, ht⟩) hY hR hd) x1 h _ _ hY hR ls hl
set_option maxHeartbeats 4000000 in
set_option maxRecDepth 100000 in
theorem eX4_numberAt (C0 : CallFix p m c cX4_numberAt 2 s args wsX4_numberAt RX4) (hK : Kx D (tyC ci) s) (K : Int32 → Prop) (σ : St) (hret : ∀ (r : Int32) (H : Heap) (locs : List Loc) (pc : Nat) (ls : Array Slot), K r → Sy D 132 ad A H0 (obC ad ci σ) H locs → decode cX4_numberAt pc = .ok (.ireturn, 1) → W p l e rmX4_numberAt s m args below meth c H locs 0 0 Q (F0 m pc ls [.int r])) (x1 : Int32) (h : wX4_numberAt σ x1 K) (H : Heap) (locs : List Loc) (hY : Sy D 132 ad A H0 (obC ad ci σ) H locs) (hR : Rok σ) (ls : Array Slot) (hl : lv_has ls 2 [(0, .ref (ad 5)), (1, .int x1)]) : W p l e rmX4_numberAt s m args below meth c H locs 0 0 Q (F0 m 0 ls []) := by
  obtain ⟨hx, hb, hml, hown, hts⟩ := id C0
  refine lv_iload_n hx hb dX4_numberAt_0 rfl (lv_at hl 1 rfl) ?_
  refine lv_if_lt (tgt := 21) hx hb dX4_numberAt_1 (by decide) (fun c_1 => ?_) (fun c_1 => ?_)
  · have h := h.1 c_1
    refine lv_iconst (v := (-1 : Int32)) hx hb dX4_numberAt_21 (by decide) ?_
    exact hret (-1 : Int32) _ _ _ _ h hY dX4_numberAt_22
  · have h := h.2 c_1
    refine lv_iload_n hx hb dX4_numberAt_4 rfl (lv_at hl 1 rfl) ?_
    refine lv_aload_n hx hb dX4_numberAt_5 rfl (lv_at hl 0 rfl) ?_
    refine w_get (o := 5) (ci := 4) (C := RX4) (T := TX4) (N1 := 4) (v := .int (gI σ 5)) hx hb hts kX4_numberAt_inX4 hown hK.1 hY (by decide) obC_list rfl 3 (by decide) (hts _ kX4_numberAt_0) rfl rfl dX4_numberAt_6 ?_
    refine lv_icmp_ge (tgt := 21) hx hb dX4_numberAt_9 (by decide) (fun c_2 => ?_) (fun c_2 => ?_)
    · have h := h.1 c_2
      refine lv_iconst (v := (-1 : Int32)) hx hb dX4_numberAt_21 (by decide) ?_
      exact hret (-1 : Int32) _ _ _ _ h hY dX4_numberAt_22
    · have h := h.2 c_2
      refine lv_aload_n hx hb dX4_numberAt_12 rfl (lv_at hl 0 rfl) ?_
      refine w_get (o := 5) (ci := 4) (C := RX4) (T := TX4) (N1 := 4) (v := .ref (ad 55)) hx hb hts kX4_numberAt_inX4 hown hK.1 hY (by decide) obC_list rfl 1 (by decide) (hts _ kX4_numberAt_2) rfl rfl dX4_numberAt_13 ?_
      refine lv_iload_n hx hb dX4_numberAt_16 rfl (lv_at hl 1 rfl) ?_
      obtain ⟨b_3, h⟩ := h
      refine w_iald (o := 55) hx hb hK.1 hY (by decide) 1 rfl rfl b_3 dX4_numberAt_17 ?_
      refine lv_goto (tgt := 22) hx hb dX4_numberAt_18 (by decide) ?_
      exact hret (gA σ 55 (x1).toNatClampNeg) _ _ _ _ h hY dX4_numberAt_22
set_option maxHeartbeats 4000000 in
set_option maxRecDepth 100000 in
theorem mX4_numberAt (l : Launch) (D : va_G) (ad : Nat → Nat) (ci : Nat → ClassId) (A : Nat → Prop) (σ : St) (x1 : Int32) (K : Int32 → Prop) (hR : Rok σ) (h : wX4_numberAt σ x1 K) : Met l yX4_numberAt wsX4_numberAt rmX4_numberAt (va_Pc [.ref (ad 5), .int x1] (PreW D 132 ad A (tyC ci) (obC ad ci σ))) (va_Qi (fun r (_ : Unit) => K r) (fun _ => (PostW D 132 ad (tyC ci) (obC ad ci) Rok σ)) A) 0 0 A := by
  refine Met.ofW (cc := cX4_numberAt) (maxL := 2) (ret := (some .int)) (by decide) rfl ?_
  intro p e s m args below meth c s₁ B hml hv
  obtain ⟨rfl, hP, hK, hD⟩ := hv
  have C0 : CallFix p m c cX4_numberAt 2 s _ wsX4_numberAt RX4 := ⟨B.exec, B.bytes, hml, findClass_of_methodNamed B.named, atoms_spec (ws := wsX4_numberAt) B.pre⟩
  have hlocks := B.notSynchronized
  have hY : Sy D 132 ad A s.heap (obC ad ci σ) s.heap [] := ⟨hP, hD, va_S.rf⟩
  have hl := lv_entry ([.ref (ad 5), .int x1]) (n := 2) (Nat.le_of_ble_eq_true rfl)
  rw [lg_entry_eq]
  generalize (lg_sl ([.ref (ad 5), .int x1]) ++ List.replicate (2 - (lg_sl ([.ref (ad 5), .int x1])).length) Slot.unset).toArray = ls at hl ⊢
  exact eX4_numberAt C0 hK K σ (fun r H locs pc ls hk hY hd => w_iret (I := Rok) B.exec B.bytes B.returns hlocks (u := ()) hK hk (fun t ht => ht) hY hR hd) x1 h _ _ hY hR ls hl
set_option maxHeartbeats 4000000 in
set_option maxRecDepth 100000 in
theorem eX4_setNumber (C0 : CallFix p m c cX4_setNumber 3 s args wsX4_setNumber RX4) (hK : Kx D (tyC ci) s) (K : St → Prop) (σ : St) (hret : ∀ (u : St) (H : Heap) (locs : List Loc) (pc : Nat) (ls : Array Slot), K u → Sy D 132 ad A H0 (obC ad ci u) H locs → Rok u → decode cX4_setNumber pc = .ok (.return_, 1) → W p l e rmX4_setNumber s m args below meth c H locs 0 0 Q (F0 m pc ls [])) (x1 : Int32) (x2 : Int32) (h : wX4_setNumber σ x1 x2 K) (H : Heap) (locs : List Loc) (hY : Sy D 132 ad A H0 (obC ad ci σ) H locs) (hR : Rok σ) (ls : Array Slot) (hl : lv_has ls 3 [(0, .ref (ad 5)), (1, .int x1), (2, .int x2)]) : W p l e rmX4_setNumber s m args below meth c H locs 0 0 Q (F0 m 0 ls []) := by
  obtain ⟨hx, hb, hml, hown, hts⟩ := id C0
  refine lv_iload_n hx hb dX4_setNumber_0 rfl (lv_at hl 1 rfl) ?_
  refine lv_if_lt (tgt := 19) hx hb dX4_setNumber_1 (by decide) (fun c_1 => ?_) (fun c_1 => ?_)
  · have h := h.1 c_1
    exact hret σ _ _ _ _ h hY hR dX4_setNumber_19
  · have h := h.2 c_1
    refine lv_iload_n hx hb dX4_setNumber_4 rfl (lv_at hl 1 rfl) ?_
    refine lv_aload_n hx hb dX4_setNumber_5 rfl (lv_at hl 0 rfl) ?_
    refine w_get (o := 5) (ci := 4) (C := RX4) (T := TX4) (N1 := 4) (v := .int (gI σ 5)) hx hb hts kX4_setNumber_inX4 hown hK.1 hY (by decide) obC_list rfl 3 (by decide) (hts _ kX4_setNumber_0) rfl rfl dX4_setNumber_6 ?_
    refine lv_icmp_ge (tgt := 19) hx hb dX4_setNumber_9 (by decide) (fun c_2 => ?_) (fun c_2 => ?_)
    · have h := h.1 c_2
      exact hret σ _ _ _ _ h hY hR dX4_setNumber_19
    · have h := h.2 c_2
      refine lv_aload_n hx hb dX4_setNumber_12 rfl (lv_at hl 0 rfl) ?_
      refine w_get (o := 5) (ci := 4) (C := RX4) (T := TX4) (N1 := 4) (v := .ref (ad 55)) hx hb hts kX4_setNumber_inX4 hown hK.1 hY (by decide) obC_list rfl 1 (by decide) (hts _ kX4_setNumber_2) rfl rfl dX4_setNumber_13 ?_
      refine lv_iload_n hx hb dX4_setNumber_16 rfl (lv_at hl 1 rfl) ?_
      refine lv_iload_n hx hb dX4_setNumber_17 rfl (lv_at hl 2 rfl) ?_
      obtain ⟨b_3, h⟩ := h
      obtain ⟨σ_4, e_σ_4⟩ : ∃ z : St, z = pA σ 55 (x1).toNatClampNeg x2 := ⟨_, rfl⟩
      have h := h σ_4 e_σ_4
      have hR_σ_4 : Rok σ_4 := by rw [e_σ_4]; exact hR
      refine w_iast (o := 55) hx hb hK.1 hY (by decide) 1 rfl rfl b_3 dX4_setNumber_18 (ob' := obC ad ci σ_4) (by rw [e_σ_4]; exact obC_pA_int (by decide)) (fun H locs hY => ?_)
      exact hret σ_4 _ _ _ _ h hY hR_σ_4 dX4_setNumber_19
set_option maxHeartbeats 4000000 in
set_option maxRecDepth 100000 in
theorem mX4_setNumber (l : Launch) (D : va_G) (ad : Nat → Nat) (ci : Nat → ClassId) (A : Nat → Prop) (σ : St) (x1 : Int32) (x2 : Int32) (K : St → Prop) (hR : Rok σ) (h : wX4_setNumber σ x1 x2 K) : Met l yX4_setNumber wsX4_setNumber rmX4_setNumber (va_Pc [.ref (ad 5), .int x1, .int x2] (PreW D 132 ad A (tyC ci) (obC ad ci σ))) (va_Qv (fun u => K u) (PostW D 132 ad (tyC ci) (obC ad ci) Rok) A) 0 0 A := by
  refine Met.ofW (cc := cX4_setNumber) (maxL := 3) (ret := none) (by decide) rfl ?_
  intro p e s m args below meth c s₁ B hml hv
  obtain ⟨rfl, hP, hK, hD⟩ := hv
  have C0 : CallFix p m c cX4_setNumber 3 s _ wsX4_setNumber RX4 := ⟨B.exec, B.bytes, hml, findClass_of_methodNamed B.named, atoms_spec (ws := wsX4_setNumber) B.pre⟩
  have hlocks := B.notSynchronized
  have hY : Sy D 132 ad A s.heap (obC ad ci σ) s.heap [] := ⟨hP, hD, va_S.rf⟩
  have hl := lv_entry ([.ref (ad 5), .int x1, .int x2]) (n := 3) (Nat.le_of_ble_eq_true rfl)
  rw [lg_entry_eq]
  generalize (lg_sl ([.ref (ad 5), .int x1, .int x2]) ++ List.replicate (3 - (lg_sl ([.ref (ad 5), .int x1, .int x2])).length) Slot.unset).toArray = ls at hl ⊢
  exact eX4_setNumber C0 hK K σ (fun u H locs pc ls hk hY hR hd => w_vret (I := Rok) B.exec B.bytes B.returns hlocks hK hk (fun t ht => ht) hY hR hd) x1 x2 h _ _ hY hR ls hl
set_option maxHeartbeats 4000000 in
set_option maxRecDepth 100000 in
theorem tX4_countLess_L2 (C0 : CallFix p m c cX4_countLess 3 s args wsX4_countLess RX4) (hK : Kx D (tyC ci) s) (K : Int32 → Prop) (σ : St) (x1 : Nat) (hret : ∀ (r : Int32) (H : Heap) (locs : List Loc) (pc : Nat) (ls : Array Slot), K r → Sy D 132 ad A H0 (obC ad ci σ) H locs → decode cX4_countLess pc = .ok (.ireturn, 1) → W p l e rmX4_countLess s m args below meth c H locs 0 0 Q (F0 m pc ls [.int r])) (rx1 : rowB x1 = true) : ∀ (n : Nat) (x2 : Int32), wX4_countLess_L2 K σ x1 n x2 → ∀ (H : Heap) (locs : List Loc), Sy D 132 ad A H0 (obC ad ci σ) H locs → Rok σ → ∀ ls : Array Slot, lv_has ls 3 [(0, .ref (ad 5)), (1, .ref (ad x1)), (2, .int x2)] → W p l e rmX4_countLess s m args below meth c H locs 0 0 Q (F0 m 2 ls []) := by
  obtain ⟨hx, hb, hml, hown, hts⟩ := id C0
  intro n
  induction n with
  | zero =>
    intro x2 h
    exact h.elim
  | succ n ih =>
    intro x2 h H locs hY hR  ls hl
    refine lv_iload_n hx hb dX4_countLess_2 rfl (lv_at hl 2 rfl) ?_
    refine lv_aload_n hx hb dX4_countLess_3 rfl (lv_at hl 0 rfl) ?_
    refine w_get (o := 5) (ci := 4) (C := RX4) (T := TX4) (N1 := 4) (v := .int (gI σ 5)) hx hb hts kX4_countLess_inX4 hown hK.1 hY (by decide) obC_list rfl 3 (by decide) (hts _ kX4_countLess_0) rfl rfl dX4_countLess_4 ?_
    refine lv_icmp_ge (tgt := 28) hx hb dX4_countLess_7 (by decide) (fun c_1 => ?_) (fun c_1 => ?_)
    · have h := h.1 c_1
      refine lv_iload_n hx hb dX4_countLess_28 rfl (lv_at hl 2 rfl) ?_
      exact hret x2 _ _ _ _ h hY dX4_countLess_29
    · have h := h.2 c_1
      refine lv_aload_n hx hb dX4_countLess_10 rfl (lv_at hl 0 rfl) ?_
      refine lv_iload_n hx hb dX4_countLess_11 rfl (lv_at hl 2 rfl) ?_
      refine w_callrp (rest := []) (va_runV (As := [.int x2]) (rest := []) C0 (mX4_rowAt l D ad ci A σ x2 _ hR  h) (cwV 1 hts gX4_countLess_X4_rowAt rfl rfl rfl ddX4_rowAt ⟨Nat.le_of_ble_eq_true rfl, Nat.le_of_ble_eq_true rfl⟩) (w_preV (o := 5) (ci := 4) (ob := obC ad ci) (σ := σ) hK hY (by decide) obC_list rfl rfl) rfl rfl hl.1 rfl (lv_room (Nat.le_of_ble_eq_true rfl)) dX4_countLess_12 ⟨Nat.zero_le _, Nat.zero_le _⟩) hY (fun r_2 H locs h hY => ?_)
      obtain ⟨rr_2, h⟩ := h
      refine lv_aload_n hx hb dX4_countLess_15 rfl (lv_at hl 1 rfl) ?_
      refine w_callip (rest := []) (va_runV (As := [.ref (ad x1)]) (rest := []) C0 (mX2_compareWith l D ad ci A σ r_2 x1 _ hR rr_2 rx1 h) (cwV 1 hts gX4_countLess_X2_compareWith rfl rfl rfl ddX2_compareWith ⟨Nat.le_of_ble_eq_true rfl, Nat.le_of_ble_eq_true rfl⟩) (w_preV (o := r_2) (ci := 2) (ob := obC ad ci) (σ := σ) hK hY (rowB_lt rr_2) (obC_row rr_2) rfl rfl) rfl rfl hl.1 rfl (lv_room (Nat.le_of_ble_eq_true rfl)) dX4_countLess_16 ⟨Nat.zero_le _, Nat.zero_le _⟩) hY (fun r_3 H locs h hY => ?_)
      refine lv_if_ge (tgt := 28) hx hb dX4_countLess_19 (by decide) (fun c_4 => ?_) (fun c_4 => ?_)
      · have h := h.1 c_4
        refine lv_iload_n hx hb dX4_countLess_28 rfl (lv_at hl 2 rfl) ?_
        exact hret x2 _ _ _ _ h hY dX4_countLess_29
      · have h := h.2 c_4
        refine lv_iinc (v := (x2 + 1)) (lv' := [(2, .int (x2 + 1)), (0, .ref (ad 5)), (1, .ref (ad x1))]) hx hb dX4_countLess_22 hl (k := 2) rfl rfl (by decide) rfl (fun ls hl => ?_)
        refine lv_goto (tgt := 2) hx hb dX4_countLess_25 (by decide) ?_
        exact ih (x2 + 1) h _ _ hY hR  _ (lv_sub hl [1, 2, 0] rfl)
set_option maxHeartbeats 4000000 in
set_option maxRecDepth 100000 in
theorem eX4_countLess (C0 : CallFix p m c cX4_countLess 3 s args wsX4_countLess RX4) (hK : Kx D (tyC ci) s) (K : Int32 → Prop) (σ : St) (hret : ∀ (r : Int32) (H : Heap) (locs : List Loc) (pc : Nat) (ls : Array Slot), K r → Sy D 132 ad A H0 (obC ad ci σ) H locs → decode cX4_countLess pc = .ok (.ireturn, 1) → W p l e rmX4_countLess s m args below meth c H locs 0 0 Q (F0 m pc ls [.int r])) (x1 : Nat) (rx1 : rowB x1 = true) (h : wX4_countLess σ x1 K) (H : Heap) (locs : List Loc) (hY : Sy D 132 ad A H0 (obC ad ci σ) H locs) (hR : Rok σ) (ls : Array Slot) (hl : lv_has ls 3 [(0, .ref (ad 5)), (1, .ref (ad x1))]) : W p l e rmX4_countLess s m args below meth c H locs 0 0 Q (F0 m 0 ls []) := by
  obtain ⟨hx, hb, hml, hown, hts⟩ := id C0
  refine lv_iconst (v := (0 : Int32)) hx hb dX4_countLess_0 (by decide) ?_
  refine lv_istore_n (lv' := [(2, .int (0 : Int32)), (0, .ref (ad 5)), (1, .ref (ad x1))]) hx hb dX4_countLess_1 rfl hl (by decide) rfl (fun ls hl => ?_)
  obtain ⟨n_5, h⟩ := h
  exact tX4_countLess_L2 C0 hK K σ x1 hret rx1 n_5 (0 : Int32) h _ _ hY hR  _ (lv_sub hl [1, 2, 0] rfl)
set_option maxHeartbeats 4000000 in
set_option maxRecDepth 100000 in
theorem mX4_countLess (l : Launch) (D : va_G) (ad : Nat → Nat) (ci : Nat → ClassId) (A : Nat → Prop) (σ : St) (x1 : Nat) (K : Int32 → Prop) (hR : Rok σ) (rx1 : rowB x1 = true) (h : wX4_countLess σ x1 K) : Met l yX4_countLess wsX4_countLess rmX4_countLess (va_Pc [.ref (ad 5), .ref (ad x1)] (PreW D 132 ad A (tyC ci) (obC ad ci σ))) (va_Qi (fun r (_ : Unit) => K r) (fun _ => (PostW D 132 ad (tyC ci) (obC ad ci) Rok σ)) A) 0 0 A := by
  refine Met.ofW (cc := cX4_countLess) (maxL := 3) (ret := (some .int)) (by decide) rfl ?_
  intro p e s m args below meth c s₁ B hml hv
  obtain ⟨rfl, hP, hK, hD⟩ := hv
  have C0 : CallFix p m c cX4_countLess 3 s _ wsX4_countLess RX4 := ⟨B.exec, B.bytes, hml, findClass_of_methodNamed B.named, atoms_spec (ws := wsX4_countLess) B.pre⟩
  have hlocks := B.notSynchronized
  have hY : Sy D 132 ad A s.heap (obC ad ci σ) s.heap [] := ⟨hP, hD, va_S.rf⟩
  have hl := lv_entry ([.ref (ad 5), .ref (ad x1)]) (n := 3) (Nat.le_of_ble_eq_true rfl)
  rw [lg_entry_eq]
  generalize (lg_sl ([.ref (ad 5), .ref (ad x1)]) ++ List.replicate (3 - (lg_sl ([.ref (ad 5), .ref (ad x1)])).length) Slot.unset).toArray = ls at hl ⊢
  exact eX4_countLess C0 hK K σ (fun r H locs pc ls hk hY hd => w_iret (I := Rok) B.exec B.bytes B.returns hlocks (u := ()) hK hk (fun t ht => ht) hY hR hd) x1 rx1 h _ _ hY hR ls hl
set_option maxHeartbeats 4000000 in
set_option maxRecDepth 100000 in
theorem tX4_countNotGreater_L2 (C0 : CallFix p m c cX4_countNotGreater 3 s args wsX4_countNotGreater RX4) (hK : Kx D (tyC ci) s) (K : Int32 → Prop) (σ : St) (x1 : Nat) (hret : ∀ (r : Int32) (H : Heap) (locs : List Loc) (pc : Nat) (ls : Array Slot), K r → Sy D 132 ad A H0 (obC ad ci σ) H locs → decode cX4_countNotGreater pc = .ok (.ireturn, 1) → W p l e rmX4_countNotGreater s m args below meth c H locs 0 0 Q (F0 m pc ls [.int r])) (rx1 : rowB x1 = true) : ∀ (n : Nat) (x2 : Int32), wX4_countNotGreater_L2 K σ x1 n x2 → ∀ (H : Heap) (locs : List Loc), Sy D 132 ad A H0 (obC ad ci σ) H locs → Rok σ → ∀ ls : Array Slot, lv_has ls 3 [(0, .ref (ad 5)), (1, .ref (ad x1)), (2, .int x2)] → W p l e rmX4_countNotGreater s m args below meth c H locs 0 0 Q (F0 m 2 ls []) := by
  obtain ⟨hx, hb, hml, hown, hts⟩ := id C0
  intro n
  induction n with
  | zero =>
    intro x2 h
    exact h.elim
  | succ n ih =>
    intro x2 h H locs hY hR  ls hl
    refine lv_iload_n hx hb dX4_countNotGreater_2 rfl (lv_at hl 2 rfl) ?_
    refine lv_aload_n hx hb dX4_countNotGreater_3 rfl (lv_at hl 0 rfl) ?_
    refine w_get (o := 5) (ci := 4) (C := RX4) (T := TX4) (N1 := 4) (v := .int (gI σ 5)) hx hb hts kX4_countNotGreater_inX4 hown hK.1 hY (by decide) obC_list rfl 3 (by decide) (hts _ kX4_countNotGreater_0) rfl rfl dX4_countNotGreater_4 ?_
    refine lv_icmp_ge (tgt := 28) hx hb dX4_countNotGreater_7 (by decide) (fun c_1 => ?_) (fun c_1 => ?_)
    · have h := h.1 c_1
      refine lv_iload_n hx hb dX4_countNotGreater_28 rfl (lv_at hl 2 rfl) ?_
      exact hret x2 _ _ _ _ h hY dX4_countNotGreater_29
    · have h := h.2 c_1
      refine lv_aload_n hx hb dX4_countNotGreater_10 rfl (lv_at hl 0 rfl) ?_
      refine lv_iload_n hx hb dX4_countNotGreater_11 rfl (lv_at hl 2 rfl) ?_
      refine w_callrp (rest := []) (va_runV (As := [.int x2]) (rest := []) C0 (mX4_rowAt l D ad ci A σ x2 _ hR  h) (cwV 1 hts gX4_countNotGreater_X4_rowAt rfl rfl rfl ddX4_rowAt ⟨Nat.le_of_ble_eq_true rfl, Nat.le_of_ble_eq_true rfl⟩) (w_preV (o := 5) (ci := 4) (ob := obC ad ci) (σ := σ) hK hY (by decide) obC_list rfl rfl) rfl rfl hl.1 rfl (lv_room (Nat.le_of_ble_eq_true rfl)) dX4_countNotGreater_12 ⟨Nat.zero_le _, Nat.zero_le _⟩) hY (fun r_2 H locs h hY => ?_)
      obtain ⟨rr_2, h⟩ := h
      refine lv_aload_n hx hb dX4_countNotGreater_15 rfl (lv_at hl 1 rfl) ?_
      refine w_callip (rest := []) (va_runV (As := [.ref (ad x1)]) (rest := []) C0 (mX2_compareWith l D ad ci A σ r_2 x1 _ hR rr_2 rx1 h) (cwV 1 hts gX4_countNotGreater_X2_compareWith rfl rfl rfl ddX2_compareWith ⟨Nat.le_of_ble_eq_true rfl, Nat.le_of_ble_eq_true rfl⟩) (w_preV (o := r_2) (ci := 2) (ob := obC ad ci) (σ := σ) hK hY (rowB_lt rr_2) (obC_row rr_2) rfl rfl) rfl rfl hl.1 rfl (lv_room (Nat.le_of_ble_eq_true rfl)) dX4_countNotGreater_16 ⟨Nat.zero_le _, Nat.zero_le _⟩) hY (fun r_3 H locs h hY => ?_)
      refine lv_if_gt (tgt := 28) hx hb dX4_countNotGreater_19 (by decide) (fun c_4 => ?_) (fun c_4 => ?_)
      · have h := h.1 c_4
        refine lv_iload_n hx hb dX4_countNotGreater_28 rfl (lv_at hl 2 rfl) ?_
        exact hret x2 _ _ _ _ h hY dX4_countNotGreater_29
      · have h := h.2 c_4
        refine lv_iinc (v := (x2 + 1)) (lv' := [(2, .int (x2 + 1)), (0, .ref (ad 5)), (1, .ref (ad x1))]) hx hb dX4_countNotGreater_22 hl (k := 2) rfl rfl (by decide) rfl (fun ls hl => ?_)
        refine lv_goto (tgt := 2) hx hb dX4_countNotGreater_25 (by decide) ?_
        exact ih (x2 + 1) h _ _ hY hR  _ (lv_sub hl [1, 2, 0] rfl)
set_option maxHeartbeats 4000000 in
set_option maxRecDepth 100000 in
theorem eX4_countNotGreater (C0 : CallFix p m c cX4_countNotGreater 3 s args wsX4_countNotGreater RX4) (hK : Kx D (tyC ci) s) (K : Int32 → Prop) (σ : St) (hret : ∀ (r : Int32) (H : Heap) (locs : List Loc) (pc : Nat) (ls : Array Slot), K r → Sy D 132 ad A H0 (obC ad ci σ) H locs → decode cX4_countNotGreater pc = .ok (.ireturn, 1) → W p l e rmX4_countNotGreater s m args below meth c H locs 0 0 Q (F0 m pc ls [.int r])) (x1 : Nat) (rx1 : rowB x1 = true) (h : wX4_countNotGreater σ x1 K) (H : Heap) (locs : List Loc) (hY : Sy D 132 ad A H0 (obC ad ci σ) H locs) (hR : Rok σ) (ls : Array Slot) (hl : lv_has ls 3 [(0, .ref (ad 5)), (1, .ref (ad x1))]) : W p l e rmX4_countNotGreater s m args below meth c H locs 0 0 Q (F0 m 0 ls []) := by
  obtain ⟨hx, hb, hml, hown, hts⟩ := id C0
  refine lv_iconst (v := (0 : Int32)) hx hb dX4_countNotGreater_0 (by decide) ?_
  refine lv_istore_n (lv' := [(2, .int (0 : Int32)), (0, .ref (ad 5)), (1, .ref (ad x1))]) hx hb dX4_countNotGreater_1 rfl hl (by decide) rfl (fun ls hl => ?_)
  obtain ⟨n_5, h⟩ := h
  exact tX4_countNotGreater_L2 C0 hK K σ x1 hret rx1 n_5 (0 : Int32) h _ _ hY hR  _ (lv_sub hl [1, 2, 0] rfl)
set_option maxHeartbeats 4000000 in
set_option maxRecDepth 100000 in
theorem mX4_countNotGreater (l : Launch) (D : va_G) (ad : Nat → Nat) (ci : Nat → ClassId) (A : Nat → Prop) (σ : St) (x1 : Nat) (K : Int32 → Prop) (hR : Rok σ) (rx1 : rowB x1 = true) (h : wX4_countNotGreater σ x1 K) : Met l yX4_countNotGreater wsX4_countNotGreater rmX4_countNotGreater (va_Pc [.ref (ad 5), .ref (ad x1)] (PreW D 132 ad A (tyC ci) (obC ad ci σ))) (va_Qi (fun r (_ : Unit) => K r) (fun _ => (PostW D 132 ad (tyC ci) (obC ad ci) Rok σ)) A) 0 0 A := by
  refine Met.ofW (cc := cX4_countNotGreater) (maxL := 3) (ret := (some .int)) (by decide) rfl ?_
  intro p e s m args below meth c s₁ B hml hv
  obtain ⟨rfl, hP, hK, hD⟩ := hv
  have C0 : CallFix p m c cX4_countNotGreater 3 s _ wsX4_countNotGreater RX4 := ⟨B.exec, B.bytes, hml, findClass_of_methodNamed B.named, atoms_spec (ws := wsX4_countNotGreater) B.pre⟩
  have hlocks := B.notSynchronized
  have hY : Sy D 132 ad A s.heap (obC ad ci σ) s.heap [] := ⟨hP, hD, va_S.rf⟩
  have hl := lv_entry ([.ref (ad 5), .ref (ad x1)]) (n := 3) (Nat.le_of_ble_eq_true rfl)
  rw [lg_entry_eq]
  generalize (lg_sl ([.ref (ad 5), .ref (ad x1)]) ++ List.replicate (3 - (lg_sl ([.ref (ad 5), .ref (ad x1)])).length) Slot.unset).toArray = ls at hl ⊢
  exact eX4_countNotGreater C0 hK K σ (fun r H locs pc ls hk hY hd => w_iret (I := Rok) B.exec B.bytes B.returns hlocks (u := ()) hK hk (fun t ht => ht) hY hR hd) x1 rx1 h _ _ hY hR ls hl
set_option maxHeartbeats 4000000 in
set_option maxRecDepth 100000 in
theorem eX4_rankOf (C0 : CallFix p m c cX4_rankOf 3 s args wsX4_rankOf RX4) (hK : Kx D (tyC ci) s) (K : Int32 → Prop) (σ : St) (hret : ∀ (r : Int32) (H : Heap) (locs : List Loc) (pc : Nat) (ls : Array Slot), K r → Sy D 132 ad A H0 (obC ad ci σ) H locs → decode cX4_rankOf pc = .ok (.ireturn, 1) → W p l e rmX4_rankOf s m args below meth c H locs 0 0 Q (F0 m pc ls [.int r])) (x1 : Nat) (rx1 : rowB x1 = true) (h : wX4_rankOf σ x1 K) (H : Heap) (locs : List Loc) (hY : Sy D 132 ad A H0 (obC ad ci σ) H locs) (hR : Rok σ) (ls : Array Slot) (hl : lv_has ls 3 [(0, .ref (ad 5)), (1, .ref (ad x1))]) : W p l e rmX4_rankOf s m args below meth c H locs 0 0 Q (F0 m 0 ls []) := by
  obtain ⟨hx, hb, hml, hown, hts⟩ := id C0
  refine lv_aload_n hx hb dX4_rankOf_0 rfl (lv_at hl 0 rfl) ?_
  refine lv_aload_n hx hb dX4_rankOf_1 rfl (lv_at hl 1 rfl) ?_
  refine w_callip (rest := []) (va_runV (As := [.ref (ad x1)]) (rest := []) C0 (mX4_countLess l D ad ci A σ x1 _ hR rx1 h) (cwV 1 hts gX4_rankOf_X4_countLess rfl rfl rfl ddX4_countLess ⟨Nat.le_of_ble_eq_true rfl, Nat.le_of_ble_eq_true rfl⟩) (w_preV (o := 5) (ci := 4) (ob := obC ad ci) (σ := σ) hK hY (by decide) obC_list rfl rfl) rfl rfl hl.1 rfl (lv_room (Nat.le_of_ble_eq_true rfl)) dX4_rankOf_2 ⟨Nat.zero_le _, Nat.zero_le _⟩) hY (fun r_1 H locs h hY => ?_)
  refine lv_istore_n (lv' := [(2, .int r_1), (0, .ref (ad 5)), (1, .ref (ad x1))]) hx hb dX4_rankOf_5 rfl hl (by decide) rfl (fun ls hl => ?_)
  refine lv_iload_n hx hb dX4_rankOf_6 rfl (lv_at hl 0 rfl) ?_
  refine lv_aload_n hx hb dX4_rankOf_7 rfl (lv_at hl 1 rfl) ?_
  refine w_get (o := 5) (ci := 4) (C := RX4) (T := TX4) (N1 := 4) (v := .int (gI σ 5)) hx hb hts kX4_rankOf_inX4 hown hK.1 hY (by decide) obC_list rfl 3 (by decide) (hts _ kX4_rankOf_0) rfl rfl dX4_rankOf_8 ?_
  refine lv_icmp_ge (tgt := 30) hx hb dX4_rankOf_11 (by decide) (fun c_2 => ?_) (fun c_2 => ?_)
  · have h := h.1 c_2
    refine lv_iconst (v := (-1 : Int32)) hx hb dX4_rankOf_30 (by decide) ?_
    exact hret (-1 : Int32) _ _ _ _ h hY dX4_rankOf_31
  · have h := h.2 c_2
    refine lv_aload_n hx hb dX4_rankOf_14 rfl (lv_at hl 1 rfl) ?_
    refine lv_iload_n hx hb dX4_rankOf_15 rfl (lv_at hl 0 rfl) ?_
    refine w_callrp (rest := []) (va_runV (As := [.int r_1]) (rest := []) C0 (mX4_rowAt l D ad ci A σ r_1 _ hR  h) (cwV 1 hts gX4_rankOf_X4_rowAt rfl rfl rfl ddX4_rowAt ⟨Nat.le_of_ble_eq_true rfl, Nat.le_of_ble_eq_true rfl⟩) (w_preV (o := 5) (ci := 4) (ob := obC ad ci) (σ := σ) hK hY (by decide) obC_list rfl rfl) rfl rfl hl.1 rfl (lv_room (Nat.le_of_ble_eq_true rfl)) dX4_rankOf_16 ⟨Nat.zero_le _, Nat.zero_le _⟩) hY (fun r_3 H locs h hY => ?_)
    obtain ⟨rr_3, h⟩ := h
    refine lv_aload_n hx hb dX4_rankOf_19 rfl (lv_at hl 2 rfl) ?_
    refine w_callip (rest := []) (va_runV (As := [.ref (ad x1)]) (rest := []) C0 (mX2_compareWith l D ad ci A σ r_3 x1 _ hR rr_3 rx1 h) (cwV 1 hts gX4_rankOf_X2_compareWith rfl rfl rfl ddX2_compareWith ⟨Nat.le_of_ble_eq_true rfl, Nat.le_of_ble_eq_true rfl⟩) (w_preV (o := r_3) (ci := 2) (ob := obC ad ci) (σ := σ) hK hY (rowB_lt rr_3) (obC_row rr_3) rfl rfl) rfl rfl hl.1 rfl (lv_room (Nat.le_of_ble_eq_true rfl)) dX4_rankOf_20 ⟨Nat.zero_le _, Nat.zero_le _⟩) hY (fun r_4 H locs h hY => ?_)
    refine lv_if_ne (tgt := 30) hx hb dX4_rankOf_23 (by decide) (fun c_5 => ?_) (fun c_5 => ?_)
    · have h := h.2 c_5
      refine lv_iconst (v := (-1 : Int32)) hx hb dX4_rankOf_30 (by decide) ?_
      exact hret (-1 : Int32) _ _ _ _ h hY dX4_rankOf_31
    · have h := h.1 c_5
      refine lv_iload_n hx hb dX4_rankOf_26 rfl (lv_at hl 0 rfl) ?_
      refine lv_goto (tgt := 31) hx hb dX4_rankOf_27 (by decide) ?_
      exact hret r_1 _ _ _ _ h hY dX4_rankOf_31
set_option maxHeartbeats 4000000 in
set_option maxRecDepth 100000 in
theorem mX4_rankOf (l : Launch) (D : va_G) (ad : Nat → Nat) (ci : Nat → ClassId) (A : Nat → Prop) (σ : St) (x1 : Nat) (K : Int32 → Prop) (hR : Rok σ) (rx1 : rowB x1 = true) (h : wX4_rankOf σ x1 K) : Met l yX4_rankOf wsX4_rankOf rmX4_rankOf (va_Pc [.ref (ad 5), .ref (ad x1)] (PreW D 132 ad A (tyC ci) (obC ad ci σ))) (va_Qi (fun r (_ : Unit) => K r) (fun _ => (PostW D 132 ad (tyC ci) (obC ad ci) Rok σ)) A) 0 0 A := by
  refine Met.ofW (cc := cX4_rankOf) (maxL := 3) (ret := (some .int)) (by decide) rfl ?_
  intro p e s m args below meth c s₁ B hml hv
  obtain ⟨rfl, hP, hK, hD⟩ := hv
  have C0 : CallFix p m c cX4_rankOf 3 s _ wsX4_rankOf RX4 := ⟨B.exec, B.bytes, hml, findClass_of_methodNamed B.named, atoms_spec (ws := wsX4_rankOf) B.pre⟩
  have hlocks := B.notSynchronized
  have hY : Sy D 132 ad A s.heap (obC ad ci σ) s.heap [] := ⟨hP, hD, va_S.rf⟩
  have hl := lv_entry ([.ref (ad 5), .ref (ad x1)]) (n := 3) (Nat.le_of_ble_eq_true rfl)
  rw [lg_entry_eq]
  generalize (lg_sl ([.ref (ad 5), .ref (ad x1)]) ++ List.replicate (3 - (lg_sl ([.ref (ad 5), .ref (ad x1)])).length) Slot.unset).toArray = ls at hl ⊢
  exact eX4_rankOf C0 hK K σ (fun r H locs pc ls hk hY hd => w_iret (I := Rok) B.exec B.bytes B.returns hlocks (u := ()) hK hk (fun t ht => ht) hY hR hd) x1 rx1 h _ _ hY hR ls hl
set_option maxHeartbeats 4000000 in
set_option maxRecDepth 100000 in
theorem tX4_insert_L36 (C0 : CallFix p m c cX4_insert 6 s args wsX4_insert RX4) (hK : Kx D (tyC ci) s) (K : St → Prop) (x1 : Nat) (x2 : Int32) (x3 : Int32) (x4 : Nat) (hret : ∀ (u : St) (H : Heap) (locs : List Loc) (pc : Nat) (ls : Array Slot), K u → Sy D 132 ad A H0 (obC ad ci u) H locs → Rok u → decode cX4_insert pc = .ok (.return_, 1) → W p l e rmX4_insert s m args below meth c H locs 0 0 Q (F0 m pc ls [])) (rx1 : rowB x1 = true) (rx4 : rowB x4 = true) : ∀ (n : Nat) (σ : St) (x5 : Int32), wX4_insert_L36 K x1 x2 x3 x4 n σ x5 → ∀ (H : Heap) (locs : List Loc), Sy D 132 ad A H0 (obC ad ci σ) H locs → Rok σ → ∀ ls : Array Slot, lv_has ls 6 [(0, .ref (ad 5)), (1, .ref (ad x1)), (2, .int x2), (3, .int x3), (4, .ref (ad x4)), (5, .int x5)] → W p l e rmX4_insert s m args below meth c H locs 0 0 Q (F0 m 36 ls []) := by
  obtain ⟨hx, hb, hml, hown, hts⟩ := id C0
  intro n
  induction n with
  | zero =>
    intro σ x5 h
    exact h.elim
  | succ n ih =>
    intro σ x5 h H locs hY hR  ls hl
    refine lv_iload hx hb dX4_insert_36 (lv_at hl 5 rfl) ?_
    refine lv_iload_n hx hb dX4_insert_38 rfl (lv_at hl 3 rfl) ?_
    refine lv_icmp_le (tgt := 80) hx hb dX4_insert_39 (by decide) (fun c_1 => ?_) (fun c_1 => ?_)
    · have h := h.1 c_1
      refine lv_aload hx hb dX4_insert_80 (lv_at hl 4 rfl) ?_
      refine lv_aload_n hx hb dX4_insert_82 rfl (lv_at hl 1 rfl) ?_
      refine w_callv (rest := []) (va_runV (As := [.ref (ad x1)]) (rest := []) C0 (mX2_become l D ad ci A σ x4 x1 _ hR rx4 rx1 h) (cwV 1 hts gX4_insert_X2_become rfl rfl rfl ddX2_become ⟨Nat.le_of_ble_eq_true rfl, Nat.le_of_ble_eq_true rfl⟩) (w_preV (o := x4) (ci := 2) (ob := obC ad ci) (σ := σ) hK hY (rowB_lt rx4) (obC_row rx4) rfl rfl) rfl rfl hl.1 rfl (lv_room (Nat.le_of_ble_eq_true rfl)) dX4_insert_83 ⟨Nat.zero_le _, Nat.zero_le _⟩) hY (fun σ_3 H locs h hY hR_σ_3 => ?_)
      refine lv_aload_n hx hb dX4_insert_86 rfl (lv_at hl 0 rfl) ?_
      refine w_get (o := 5) (ci := 4) (C := RX4) (T := TX4) (N1 := 4) (v := .ref (ad 6)) hx hb hts kX4_insert_inX4 hown hK.1 hY (by decide) obC_list rfl 0 (by decide) (hts _ kX4_insert_0) rfl rfl dX4_insert_87 ?_
      refine lv_iload_n hx hb dX4_insert_90 rfl (lv_at hl 3 rfl) ?_
      refine lv_aload hx hb dX4_insert_91 (lv_at hl 4 rfl) ?_
      obtain ⟨b_4, h⟩ := h
      obtain ⟨σ_5, e_σ_5⟩ : ∃ z : St, z = pR σ_3 (x3).toNatClampNeg x4 := ⟨_, rfl⟩
      have h := h σ_5 e_σ_5
      have hR_σ_5 : Rok σ_5 := by rw [e_σ_5]; exact Rok_pR hR_σ_3 rx4
      refine w_aast (o := 6) (qk := x4) (r := (RX2, TX2, 2)) hx hb hK.1 hY (by decide) (rowB_lt rx4) 3 rfl rfl (obC_row rx4) rfl b_4 dX4_insert_93 (ob' := obC ad ci σ_5) (by rw [e_σ_5]; exact obC_pR) (fun H locs hY => ?_)
      refine lv_aload_n hx hb dX4_insert_94 rfl (lv_at hl 0 rfl) ?_
      refine w_get (o := 5) (ci := 4) (C := RX4) (T := TX4) (N1 := 4) (v := .ref (ad 55)) hx hb hts kX4_insert_inX4 hown hK.1 hY (by decide) obC_list rfl 1 (by decide) (hts _ kX4_insert_2) rfl rfl dX4_insert_95 ?_
      refine lv_iload_n hx hb dX4_insert_98 rfl (lv_at hl 3 rfl) ?_
      refine lv_iload_n hx hb dX4_insert_99 rfl (lv_at hl 2 rfl) ?_
      obtain ⟨b_6, h⟩ := h
      obtain ⟨σ_7, e_σ_7⟩ : ∃ z : St, z = pA σ_5 55 (x3).toNatClampNeg x2 := ⟨_, rfl⟩
      have h := h σ_7 e_σ_7
      have hR_σ_7 : Rok σ_7 := by rw [e_σ_7]; exact hR_σ_5
      refine w_iast (o := 55) hx hb hK.1 hY (by decide) 1 rfl rfl b_6 dX4_insert_100 (ob' := obC ad ci σ_7) (by rw [e_σ_7]; exact obC_pA_int (by decide)) (fun H locs hY => ?_)
      refine lv_aload_n hx hb dX4_insert_101 rfl (lv_at hl 0 rfl) ?_
      refine lv_dup hx hb dX4_insert_102 rfl ?_
      refine w_get (o := 5) (ci := 4) (C := RX4) (T := TX4) (N1 := 4) (v := .int (gI σ_7 5)) hx hb hts kX4_insert_inX4 hown hK.1 hY (by decide) obC_list rfl 3 (by decide) (hts _ kX4_insert_3) rfl rfl dX4_insert_103 ?_
      refine lv_iconst (v := (1 : Int32)) hx hb dX4_insert_106 (by decide) ?_
      refine lv_iadd hx hb dX4_insert_107 ?_
      obtain ⟨σ_8, e_σ_8⟩ : ∃ z : St, z = pI σ_7 5 ((gI σ_7 5) + (1 : Int32)) := ⟨_, rfl⟩
      have h := h σ_8 e_σ_8
      have hR_σ_8 : Rok σ_8 := by rw [e_σ_8]; exact hR_σ_7
      refine w_put (o := 5) (ci := 4) (C := RX4) (T := TX4) (N1 := 4) hx hb hts kX4_insert_inX4 tyX4 tyX4_ok nmX4 hown hK.1 hY (by decide) obC_list rfl 3 (by decide) (hts _ kX4_insert_3) rfl rfl rfl (Nat.le_of_ble_eq_true rfl) dX4_insert_108 (ob' := obC ad ci σ_8) (by rw [e_σ_8]; exact obC_pI_list) (fun H locs hY => ?_)
      exact hret σ_8 _ _ _ _ h hY hR_σ_8 dX4_insert_111
    · have h := h.2 c_1
      refine lv_aload_n hx hb dX4_insert_42 rfl (lv_at hl 0 rfl) ?_
      refine w_get (o := 5) (ci := 4) (C := RX4) (T := TX4) (N1 := 4) (v := .ref (ad 6)) hx hb hts kX4_insert_inX4 hown hK.1 hY (by decide) obC_list rfl 0 (by decide) (hts _ kX4_insert_0) rfl rfl dX4_insert_43 ?_
      refine lv_iload hx hb dX4_insert_46 (lv_at hl 5 rfl) ?_
      refine lv_aload_n hx hb dX4_insert_48 rfl (lv_at hl 0 rfl) ?_
      refine w_get (o := 5) (ci := 4) (C := RX4) (T := TX4) (N1 := 4) (v := .ref (ad 6)) hx hb hts kX4_insert_inX4 hown hK.1 hY (by decide) obC_list rfl 0 (by decide) (hts _ kX4_insert_0) rfl rfl dX4_insert_49 ?_
      refine lv_iload hx hb dX4_insert_52 (lv_at hl 5 rfl) ?_
      refine lv_iconst (v := (1 : Int32)) hx hb dX4_insert_54 (by decide) ?_
      refine lv_isub hx hb dX4_insert_55 ?_
      obtain ⟨b_9, h⟩ := h
      refine w_aald (o := 6) (C := RX2) (f := gR σ) hx hb hK.1 hY (by decide) 3 rfl rfl b_9 dX4_insert_56 ?_
      have r_10 : rowB (gR σ ((x5 - (1 : Int32))).toNatClampNeg) = true := hR _ (vp_lt b_9)
      obtain ⟨b_11, h⟩ := h
      obtain ⟨σ_12, e_σ_12⟩ : ∃ z : St, z = pR σ (x5).toNatClampNeg (gR σ ((x5 - (1 : Int32))).toNatClampNeg) := ⟨_, rfl⟩
      have h := h σ_12 e_σ_12
      have hR_σ_12 : Rok σ_12 := by rw [e_σ_12]; exact Rok_pR hR r_10
      refine w_aast (o := 6) (qk := (gR σ ((x5 - (1 : Int32))).toNatClampNeg)) (r := (RX2, TX2, 2)) hx hb hK.1 hY (by decide) (rowB_lt r_10) 3 rfl rfl (obC_row r_10) rfl b_11 dX4_insert_57 (ob' := obC ad ci σ_12) (by rw [e_σ_12]; exact obC_pR) (fun H locs hY => ?_)
      refine lv_aload_n hx hb dX4_insert_58 rfl (lv_at hl 0 rfl) ?_
      refine w_get (o := 5) (ci := 4) (C := RX4) (T := TX4) (N1 := 4) (v := .ref (ad 55)) hx hb hts kX4_insert_inX4 hown hK.1 hY (by decide) obC_list rfl 1 (by decide) (hts _ kX4_insert_2) rfl rfl dX4_insert_59 ?_
      refine lv_iload hx hb dX4_insert_62 (lv_at hl 5 rfl) ?_
      refine lv_aload_n hx hb dX4_insert_64 rfl (lv_at hl 0 rfl) ?_
      refine w_get (o := 5) (ci := 4) (C := RX4) (T := TX4) (N1 := 4) (v := .ref (ad 55)) hx hb hts kX4_insert_inX4 hown hK.1 hY (by decide) obC_list rfl 1 (by decide) (hts _ kX4_insert_2) rfl rfl dX4_insert_65 ?_
      refine lv_iload hx hb dX4_insert_68 (lv_at hl 5 rfl) ?_
      refine lv_iconst (v := (1 : Int32)) hx hb dX4_insert_70 (by decide) ?_
      refine lv_isub hx hb dX4_insert_71 ?_
      obtain ⟨b_13, h⟩ := h
      refine w_iald (o := 55) hx hb hK.1 hY (by decide) 1 rfl rfl b_13 dX4_insert_72 ?_
      obtain ⟨b_14, h⟩ := h
      obtain ⟨σ_15, e_σ_15⟩ : ∃ z : St, z = pA σ_12 55 (x5).toNatClampNeg (gA σ_12 55 ((x5 - (1 : Int32))).toNatClampNeg) := ⟨_, rfl⟩
      have h := h σ_15 e_σ_15
      have hR_σ_15 : Rok σ_15 := by rw [e_σ_15]; exact hR_σ_12
      refine w_iast (o := 55) hx hb hK.1 hY (by decide) 1 rfl rfl b_14 dX4_insert_73 (ob' := obC ad ci σ_15) (by rw [e_σ_15]; exact obC_pA_int (by decide)) (fun H locs hY => ?_)
      refine lv_iinc (v := (x5 + (-1))) (lv' := [(5, .int (x5 + (-1))), (0, .ref (ad 5)), (1, .ref (ad x1)), (2, .int x2), (3, .int x3), (4, .ref (ad x4))]) hx hb dX4_insert_74 hl (k := 5) rfl rfl (by decide) rfl (fun ls hl => ?_)
      refine lv_goto (tgt := 36) hx hb dX4_insert_77 (by decide) ?_
      exact ih σ_15 (x5 + (-1)) h _ _ hY hR_σ_15  _ (lv_sub hl [1, 2, 3, 4, 5, 0] rfl)
set_option maxHeartbeats 4000000 in
set_option maxRecDepth 100000 in
theorem eX4_insert (C0 : CallFix p m c cX4_insert 6 s args wsX4_insert RX4) (hK : Kx D (tyC ci) s) (K : St → Prop) (σ : St) (hret : ∀ (u : St) (H : Heap) (locs : List Loc) (pc : Nat) (ls : Array Slot), K u → Sy D 132 ad A H0 (obC ad ci u) H locs → Rok u → decode cX4_insert pc = .ok (.return_, 1) → W p l e rmX4_insert s m args below meth c H locs 0 0 Q (F0 m pc ls [])) (x1 : Nat) (x2 : Int32) (rx1 : rowB x1 = true) (h : wX4_insert σ x1 x2 K) (H : Heap) (locs : List Loc) (hY : Sy D 132 ad A H0 (obC ad ci σ) H locs) (hR : Rok σ) (ls : Array Slot) (hl : lv_has ls 6 [(0, .ref (ad 5)), (1, .ref (ad x1)), (2, .int x2)]) : W p l e rmX4_insert s m args below meth c H locs 0 0 Q (F0 m 0 ls []) := by
  obtain ⟨hx, hb, hml, hown, hts⟩ := id C0
  refine lv_aload_n hx hb dX4_insert_0 rfl (lv_at hl 0 rfl) ?_
  refine w_get (o := 5) (ci := 4) (C := RX4) (T := TX4) (N1 := 4) (v := .int (gI σ 5)) hx hb hts kX4_insert_inX4 hown hK.1 hY (by decide) obC_list rfl 3 (by decide) (hts _ kX4_insert_3) rfl rfl dX4_insert_1 ?_
  refine lv_aload_n hx hb dX4_insert_4 rfl (lv_at hl 0 rfl) ?_
  refine w_get (o := 5) (ci := 4) (C := RX4) (T := TX4) (N1 := 4) (v := .ref (ad 6)) hx hb hts kX4_insert_inX4 hown hK.1 hY (by decide) obC_list rfl 0 (by decide) (hts _ kX4_insert_0) rfl rfl dX4_insert_5 ?_
  refine w_alen (o := 6) hx hb hK.1 hY (by decide) 3 rfl rfl (v := (24 : Int32)) rfl dX4_insert_8 ?_
  refine lv_icmp_lt (tgt := 13) hx hb dX4_insert_9 (by decide) (fun c_16 => ?_) (fun c_16 => ?_)
  · have h := h.1 c_16
    refine lv_aload_n hx hb dX4_insert_13 rfl (lv_at hl 0 rfl) ?_
    refine lv_aload_n hx hb dX4_insert_14 rfl (lv_at hl 1 rfl) ?_
    refine w_callip (rest := []) (va_runV (As := [.ref (ad x1)]) (rest := []) C0 (mX4_countLess l D ad ci A σ x1 _ hR rx1 h) (cwV 1 hts gX4_insert_X4_countLess rfl rfl rfl ddX4_countLess ⟨Nat.le_of_ble_eq_true rfl, Nat.le_of_ble_eq_true rfl⟩) (w_preV (o := 5) (ci := 4) (ob := obC ad ci) (σ := σ) hK hY (by decide) obC_list rfl rfl) rfl rfl hl.1 rfl (lv_room (Nat.le_of_ble_eq_true rfl)) dX4_insert_15 ⟨Nat.zero_le _, Nat.zero_le _⟩) hY (fun r_17 H locs h hY => ?_)
    refine lv_istore_n (lv' := [(3, .int r_17), (0, .ref (ad 5)), (1, .ref (ad x1)), (2, .int x2)]) hx hb dX4_insert_18 rfl hl (by decide) rfl (fun ls hl => ?_)
    refine lv_aload_n hx hb dX4_insert_19 rfl (lv_at hl 1 rfl) ?_
    refine w_get (o := 5) (ci := 4) (C := RX4) (T := TX4) (N1 := 4) (v := .ref (ad 6)) hx hb hts kX4_insert_inX4 hown hK.1 hY (by decide) obC_list rfl 0 (by decide) (hts _ kX4_insert_0) rfl rfl dX4_insert_20 ?_
    refine lv_aload_n hx hb dX4_insert_23 rfl (lv_at hl 1 rfl) ?_
    refine w_get (o := 5) (ci := 4) (C := RX4) (T := TX4) (N1 := 4) (v := .int (gI σ 5)) hx hb hts kX4_insert_inX4 hown hK.1 hY (by decide) obC_list rfl 3 (by decide) (hts _ kX4_insert_3) rfl rfl dX4_insert_24 ?_
    obtain ⟨b_18, h⟩ := h
    refine w_aald (o := 6) (C := RX2) (f := gR σ) hx hb hK.1 hY (by decide) 3 rfl rfl b_18 dX4_insert_27 ?_
    have r_19 : rowB (gR σ ((gI σ 5)).toNatClampNeg) = true := hR _ (vp_lt b_18)
    refine lv_astore (lv' := [(4, .ref (ad (gR σ ((gI σ 5)).toNatClampNeg))), (3, .int r_17), (0, .ref (ad 5)), (1, .ref (ad x1)), (2, .int x2)]) hx hb dX4_insert_28 hl (by decide) rfl (fun ls hl => ?_)
    refine lv_aload_n hx hb dX4_insert_30 rfl (lv_at hl 2 rfl) ?_
    refine w_get (o := 5) (ci := 4) (C := RX4) (T := TX4) (N1 := 4) (v := .int (gI σ 5)) hx hb hts kX4_insert_inX4 hown hK.1 hY (by decide) obC_list rfl 3 (by decide) (hts _ kX4_insert_3) rfl rfl dX4_insert_31 ?_
    refine lv_topi (fun x5_20 e_x5_20 => ?_)
    have h := h x5_20 e_x5_20
    refine lv_istore (lv' := [(5, .int x5_20), (4, .ref (ad (gR σ ((gI σ 5)).toNatClampNeg))), (3, .int r_17), (0, .ref (ad 5)), (1, .ref (ad x1)), (2, .int x2)]) hx hb dX4_insert_34 hl (by decide) rfl (fun ls hl => ?_)
    obtain ⟨n_21, h⟩ := h
    exact tX4_insert_L36 C0 hK K x1 x2 r_17 (gR σ ((gI σ 5)).toNatClampNeg) hret rx1 r_19 n_21 σ x5_20 h _ _ hY hR  _ (lv_sub hl [3, 4, 5, 2, 1, 0] rfl)
  · have h := h.2 c_16
    exact hret σ _ _ _ _ h hY hR dX4_insert_12
set_option maxHeartbeats 4000000 in
set_option maxRecDepth 100000 in
theorem mX4_insert (l : Launch) (D : va_G) (ad : Nat → Nat) (ci : Nat → ClassId) (A : Nat → Prop) (σ : St) (x1 : Nat) (x2 : Int32) (K : St → Prop) (hR : Rok σ) (rx1 : rowB x1 = true) (h : wX4_insert σ x1 x2 K) : Met l yX4_insert wsX4_insert rmX4_insert (va_Pc [.ref (ad 5), .ref (ad x1), .int x2] (PreW D 132 ad A (tyC ci) (obC ad ci σ))) (va_Qv (fun u => K u) (PostW D 132 ad (tyC ci) (obC ad ci) Rok) A) 0 0 A := by
  refine Met.ofW (cc := cX4_insert) (maxL := 6) (ret := none) (by decide) rfl ?_
  intro p e s m args below meth c s₁ B hml hv
  obtain ⟨rfl, hP, hK, hD⟩ := hv
  have C0 : CallFix p m c cX4_insert 6 s _ wsX4_insert RX4 := ⟨B.exec, B.bytes, hml, findClass_of_methodNamed B.named, atoms_spec (ws := wsX4_insert) B.pre⟩
  have hlocks := B.notSynchronized
  have hY : Sy D 132 ad A s.heap (obC ad ci σ) s.heap [] := ⟨hP, hD, va_S.rf⟩
  have hl := lv_entry ([.ref (ad 5), .ref (ad x1), .int x2]) (n := 6) (Nat.le_of_ble_eq_true rfl)
  rw [lg_entry_eq]
  generalize (lg_sl ([.ref (ad 5), .ref (ad x1), .int x2]) ++ List.replicate (6 - (lg_sl ([.ref (ad 5), .ref (ad x1), .int x2])).length) Slot.unset).toArray = ls at hl ⊢
  exact eX4_insert C0 hK K σ (fun u H locs pc ls hk hY hR hd => w_vret (I := Rok) B.exec B.bytes B.returns hlocks hK hk (fun t ht => ht) hY hR hd) x1 x2 rx1 h _ _ hY hR ls hl
set_option maxHeartbeats 4000000 in
set_option maxRecDepth 100000 in
theorem tX4_remove_L24 (C0 : CallFix p m c cX4_remove 4 s args wsX4_remove RX4) (hK : Kx D (tyC ci) s) (K : St → Prop) (x2 : Nat) (hret : ∀ (u : St) (H : Heap) (locs : List Loc) (pc : Nat) (ls : Array Slot), K u → Sy D 132 ad A H0 (obC ad ci u) H locs → Rok u → decode cX4_remove pc = .ok (.return_, 1) → W p l e rmX4_remove s m args below meth c H locs 0 0 Q (F0 m pc ls [])) (rx2 : rowB x2 = true) : ∀ (n : Nat) (σ : St) (x3 : Int32), wX4_remove_L24 K x2 n σ x3 → ∀ (H : Heap) (locs : List Loc), Sy D 132 ad A H0 (obC ad ci σ) H locs → Rok σ → ∀ ls : Array Slot, lv_has ls 4 [(0, .ref (ad 5)), (2, .ref (ad x2)), (3, .int x3)] → W p l e rmX4_remove s m args below meth c H locs 0 0 Q (F0 m 24 ls []) := by
  obtain ⟨hx, hb, hml, hown, hts⟩ := id C0
  intro n
  induction n with
  | zero =>
    intro σ x3 h
    exact h.elim
  | succ n ih =>
    intro σ x3 h H locs hY hR  ls hl
    refine lv_iload_n hx hb dX4_remove_24 rfl (lv_at hl 2 rfl) ?_
    refine lv_aload_n hx hb dX4_remove_25 rfl (lv_at hl 0 rfl) ?_
    refine w_get (o := 5) (ci := 4) (C := RX4) (T := TX4) (N1 := 4) (v := .int (gI σ 5)) hx hb hts kX4_remove_inX4 hown hK.1 hY (by decide) obC_list rfl 3 (by decide) (hts _ kX4_remove_0) rfl rfl dX4_remove_26 ?_
    refine lv_icmp_ge (tgt := 66) hx hb dX4_remove_29 (by decide) (fun c_1 => ?_) (fun c_1 => ?_)
    · have h := h.1 c_1
      refine lv_aload_n hx hb dX4_remove_66 rfl (lv_at hl 0 rfl) ?_
      refine lv_dup hx hb dX4_remove_67 rfl ?_
      refine w_get (o := 5) (ci := 4) (C := RX4) (T := TX4) (N1 := 4) (v := .int (gI σ 5)) hx hb hts kX4_remove_inX4 hown hK.1 hY (by decide) obC_list rfl 3 (by decide) (hts _ kX4_remove_0) rfl rfl dX4_remove_68 ?_
      refine lv_iconst (v := (1 : Int32)) hx hb dX4_remove_71 (by decide) ?_
      refine lv_isub hx hb dX4_remove_72 ?_
      obtain ⟨σ_2, e_σ_2⟩ : ∃ z : St, z = pI σ 5 ((gI σ 5) - (1 : Int32)) := ⟨_, rfl⟩
      have h := h σ_2 e_σ_2
      have hR_σ_2 : Rok σ_2 := by rw [e_σ_2]; exact hR
      refine w_put (o := 5) (ci := 4) (C := RX4) (T := TX4) (N1 := 4) hx hb hts kX4_remove_inX4 tyX4 tyX4_ok nmX4 hown hK.1 hY (by decide) obC_list rfl 3 (by decide) (hts _ kX4_remove_0) rfl rfl rfl (Nat.le_of_ble_eq_true rfl) dX4_remove_73 (ob' := obC ad ci σ_2) (by rw [e_σ_2]; exact obC_pI_list) (fun H locs hY => ?_)
      refine lv_aload_n hx hb dX4_remove_76 rfl (lv_at hl 0 rfl) ?_
      refine w_get (o := 5) (ci := 4) (C := RX4) (T := TX4) (N1 := 4) (v := .ref (ad 6)) hx hb hts kX4_remove_inX4 hown hK.1 hY (by decide) obC_list rfl 0 (by decide) (hts _ kX4_remove_2) rfl rfl dX4_remove_77 ?_
      refine lv_aload_n hx hb dX4_remove_80 rfl (lv_at hl 0 rfl) ?_
      refine w_get (o := 5) (ci := 4) (C := RX4) (T := TX4) (N1 := 4) (v := .int (gI σ_2 5)) hx hb hts kX4_remove_inX4 hown hK.1 hY (by decide) obC_list rfl 3 (by decide) (hts _ kX4_remove_0) rfl rfl dX4_remove_81 ?_
      refine lv_aload_n hx hb dX4_remove_84 rfl (lv_at hl 1 rfl) ?_
      obtain ⟨b_3, h⟩ := h
      obtain ⟨σ_4, e_σ_4⟩ : ∃ z : St, z = pR σ_2 ((gI σ_2 5)).toNatClampNeg x2 := ⟨_, rfl⟩
      have h := h σ_4 e_σ_4
      have hR_σ_4 : Rok σ_4 := by rw [e_σ_4]; exact Rok_pR hR_σ_2 rx2
      refine w_aast (o := 6) (qk := x2) (r := (RX2, TX2, 2)) hx hb hK.1 hY (by decide) (rowB_lt rx2) 3 rfl rfl (obC_row rx2) rfl b_3 dX4_remove_85 (ob' := obC ad ci σ_4) (by rw [e_σ_4]; exact obC_pR) (fun H locs hY => ?_)
      exact hret σ_4 _ _ _ _ h hY hR_σ_4 dX4_remove_86
    · have h := h.2 c_1
      refine lv_aload_n hx hb dX4_remove_32 rfl (lv_at hl 0 rfl) ?_
      refine w_get (o := 5) (ci := 4) (C := RX4) (T := TX4) (N1 := 4) (v := .ref (ad 6)) hx hb hts kX4_remove_inX4 hown hK.1 hY (by decide) obC_list rfl 0 (by decide) (hts _ kX4_remove_2) rfl rfl dX4_remove_33 ?_
      refine lv_iload_n hx hb dX4_remove_36 rfl (lv_at hl 2 rfl) ?_
      refine lv_iconst (v := (1 : Int32)) hx hb dX4_remove_37 (by decide) ?_
      refine lv_isub hx hb dX4_remove_38 ?_
      refine lv_aload_n hx hb dX4_remove_39 rfl (lv_at hl 0 rfl) ?_
      refine w_get (o := 5) (ci := 4) (C := RX4) (T := TX4) (N1 := 4) (v := .ref (ad 6)) hx hb hts kX4_remove_inX4 hown hK.1 hY (by decide) obC_list rfl 0 (by decide) (hts _ kX4_remove_2) rfl rfl dX4_remove_40 ?_
      refine lv_iload_n hx hb dX4_remove_43 rfl (lv_at hl 2 rfl) ?_
      obtain ⟨b_5, h⟩ := h
      refine w_aald (o := 6) (C := RX2) (f := gR σ) hx hb hK.1 hY (by decide) 3 rfl rfl b_5 dX4_remove_44 ?_
      have r_6 : rowB (gR σ (x3).toNatClampNeg) = true := hR _ (vp_lt b_5)
      obtain ⟨b_7, h⟩ := h
      obtain ⟨σ_8, e_σ_8⟩ : ∃ z : St, z = pR σ ((x3 - (1 : Int32))).toNatClampNeg (gR σ (x3).toNatClampNeg) := ⟨_, rfl⟩
      have h := h σ_8 e_σ_8
      have hR_σ_8 : Rok σ_8 := by rw [e_σ_8]; exact Rok_pR hR r_6
      refine w_aast (o := 6) (qk := (gR σ (x3).toNatClampNeg)) (r := (RX2, TX2, 2)) hx hb hK.1 hY (by decide) (rowB_lt r_6) 3 rfl rfl (obC_row r_6) rfl b_7 dX4_remove_45 (ob' := obC ad ci σ_8) (by rw [e_σ_8]; exact obC_pR) (fun H locs hY => ?_)
      refine lv_aload_n hx hb dX4_remove_46 rfl (lv_at hl 0 rfl) ?_
      refine w_get (o := 5) (ci := 4) (C := RX4) (T := TX4) (N1 := 4) (v := .ref (ad 55)) hx hb hts kX4_remove_inX4 hown hK.1 hY (by decide) obC_list rfl 1 (by decide) (hts _ kX4_remove_3) rfl rfl dX4_remove_47 ?_
      refine lv_iload_n hx hb dX4_remove_50 rfl (lv_at hl 2 rfl) ?_
      refine lv_iconst (v := (1 : Int32)) hx hb dX4_remove_51 (by decide) ?_
      refine lv_isub hx hb dX4_remove_52 ?_
      refine lv_aload_n hx hb dX4_remove_53 rfl (lv_at hl 0 rfl) ?_
      refine w_get (o := 5) (ci := 4) (C := RX4) (T := TX4) (N1 := 4) (v := .ref (ad 55)) hx hb hts kX4_remove_inX4 hown hK.1 hY (by decide) obC_list rfl 1 (by decide) (hts _ kX4_remove_3) rfl rfl dX4_remove_54 ?_
      refine lv_iload_n hx hb dX4_remove_57 rfl (lv_at hl 2 rfl) ?_
      obtain ⟨b_9, h⟩ := h
      refine w_iald (o := 55) hx hb hK.1 hY (by decide) 1 rfl rfl b_9 dX4_remove_58 ?_
      obtain ⟨b_10, h⟩ := h
      obtain ⟨σ_11, e_σ_11⟩ : ∃ z : St, z = pA σ_8 55 ((x3 - (1 : Int32))).toNatClampNeg (gA σ_8 55 (x3).toNatClampNeg) := ⟨_, rfl⟩
      have h := h σ_11 e_σ_11
      have hR_σ_11 : Rok σ_11 := by rw [e_σ_11]; exact hR_σ_8
      refine w_iast (o := 55) hx hb hK.1 hY (by decide) 1 rfl rfl b_10 dX4_remove_59 (ob' := obC ad ci σ_11) (by rw [e_σ_11]; exact obC_pA_int (by decide)) (fun H locs hY => ?_)
      refine lv_iinc (v := (x3 + 1)) (lv' := [(3, .int (x3 + 1)), (0, .ref (ad 5)), (2, .ref (ad x2))]) hx hb dX4_remove_60 hl (k := 2) rfl rfl (by decide) rfl (fun ls hl => ?_)
      refine lv_goto (tgt := 24) hx hb dX4_remove_63 (by decide) ?_
      exact ih σ_11 (x3 + 1) h _ _ hY hR_σ_11  _ (lv_sub hl [1, 2, 0] rfl)
set_option maxHeartbeats 4000000 in
set_option maxRecDepth 100000 in
theorem eX4_remove (C0 : CallFix p m c cX4_remove 4 s args wsX4_remove RX4) (hK : Kx D (tyC ci) s) (K : St → Prop) (σ : St) (hret : ∀ (u : St) (H : Heap) (locs : List Loc) (pc : Nat) (ls : Array Slot), K u → Sy D 132 ad A H0 (obC ad ci u) H locs → Rok u → decode cX4_remove pc = .ok (.return_, 1) → W p l e rmX4_remove s m args below meth c H locs 0 0 Q (F0 m pc ls [])) (x1 : Int32) (h : wX4_remove σ x1 K) (H : Heap) (locs : List Loc) (hY : Sy D 132 ad A H0 (obC ad ci σ) H locs) (hR : Rok σ) (ls : Array Slot) (hl : lv_has ls 4 [(0, .ref (ad 5)), (1, .int x1)]) : W p l e rmX4_remove s m args below meth c H locs 0 0 Q (F0 m 0 ls []) := by
  obtain ⟨hx, hb, hml, hown, hts⟩ := id C0
  refine lv_iload_n hx hb dX4_remove_0 rfl (lv_at hl 1 rfl) ?_
  refine lv_if_lt (tgt := 12) hx hb dX4_remove_1 (by decide) (fun c_12 => ?_) (fun c_12 => ?_)
  · have h := h.1 c_12
    exact hret σ _ _ _ _ h hY hR dX4_remove_12
  · have h := h.2 c_12
    refine lv_iload_n hx hb dX4_remove_4 rfl (lv_at hl 1 rfl) ?_
    refine lv_aload_n hx hb dX4_remove_5 rfl (lv_at hl 0 rfl) ?_
    refine w_get (o := 5) (ci := 4) (C := RX4) (T := TX4) (N1 := 4) (v := .int (gI σ 5)) hx hb hts kX4_remove_inX4 hown hK.1 hY (by decide) obC_list rfl 3 (by decide) (hts _ kX4_remove_0) rfl rfl dX4_remove_6 ?_
    refine lv_icmp_lt (tgt := 13) hx hb dX4_remove_9 (by decide) (fun c_13 => ?_) (fun c_13 => ?_)
    · have h := h.1 c_13
      refine lv_aload_n hx hb dX4_remove_13 rfl (lv_at hl 0 rfl) ?_
      refine w_get (o := 5) (ci := 4) (C := RX4) (T := TX4) (N1 := 4) (v := .ref (ad 6)) hx hb hts kX4_remove_inX4 hown hK.1 hY (by decide) obC_list rfl 0 (by decide) (hts _ kX4_remove_2) rfl rfl dX4_remove_14 ?_
      refine lv_iload_n hx hb dX4_remove_17 rfl (lv_at hl 1 rfl) ?_
      obtain ⟨b_14, h⟩ := h
      refine w_aald (o := 6) (C := RX2) (f := gR σ) hx hb hK.1 hY (by decide) 3 rfl rfl b_14 dX4_remove_18 ?_
      have r_15 : rowB (gR σ (x1).toNatClampNeg) = true := hR _ (vp_lt b_14)
      refine lv_astore_n (lv' := [(2, .ref (ad (gR σ (x1).toNatClampNeg))), (0, .ref (ad 5)), (1, .int x1)]) hx hb dX4_remove_19 rfl hl (by decide) rfl (fun ls hl => ?_)
      refine lv_iload_n hx hb dX4_remove_20 rfl (lv_at hl 2 rfl) ?_
      refine lv_iconst (v := (1 : Int32)) hx hb dX4_remove_21 (by decide) ?_
      refine lv_iadd hx hb dX4_remove_22 ?_
      refine lv_istore_n (lv' := [(3, .int (x1 + (1 : Int32))), (2, .ref (ad (gR σ (x1).toNatClampNeg))), (0, .ref (ad 5)), (1, .int x1)]) hx hb dX4_remove_23 rfl hl (by decide) rfl (fun ls hl => ?_)
      obtain ⟨n_16, h⟩ := h
      exact tX4_remove_L24 C0 hK K (gR σ (x1).toNatClampNeg) hret r_15 n_16 σ (x1 + (1 : Int32)) h _ _ hY hR  _ (lv_sub hl [2, 1, 0] rfl)
    · have h := h.2 c_13
      exact hret σ _ _ _ _ h hY hR dX4_remove_12
set_option maxHeartbeats 4000000 in
set_option maxRecDepth 100000 in
theorem mX4_remove (l : Launch) (D : va_G) (ad : Nat → Nat) (ci : Nat → ClassId) (A : Nat → Prop) (σ : St) (x1 : Int32) (K : St → Prop) (hR : Rok σ) (h : wX4_remove σ x1 K) : Met l yX4_remove wsX4_remove rmX4_remove (va_Pc [.ref (ad 5), .int x1] (PreW D 132 ad A (tyC ci) (obC ad ci σ))) (va_Qv (fun u => K u) (PostW D 132 ad (tyC ci) (obC ad ci) Rok) A) 0 0 A := by
  refine Met.ofW (cc := cX4_remove) (maxL := 4) (ret := none) (by decide) rfl ?_
  intro p e s m args below meth c s₁ B hml hv
  obtain ⟨rfl, hP, hK, hD⟩ := hv
  have C0 : CallFix p m c cX4_remove 4 s _ wsX4_remove RX4 := ⟨B.exec, B.bytes, hml, findClass_of_methodNamed B.named, atoms_spec (ws := wsX4_remove) B.pre⟩
  have hlocks := B.notSynchronized
  have hY : Sy D 132 ad A s.heap (obC ad ci σ) s.heap [] := ⟨hP, hD, va_S.rf⟩
  have hl := lv_entry ([.ref (ad 5), .int x1]) (n := 4) (Nat.le_of_ble_eq_true rfl)
  rw [lg_entry_eq]
  generalize (lg_sl ([.ref (ad 5), .int x1]) ++ List.replicate (4 - (lg_sl ([.ref (ad 5), .int x1])).length) Slot.unset).toArray = ls at hl ⊢
  exact eX4_remove C0 hK K σ (fun u H locs pc ls hk hY hR hd => w_vret (I := Rok) B.exec B.bytes B.returns hlocks hK hk (fun t ht => ht) hY hR hd) x1 h _ _ hY hR ls hl
set_option maxHeartbeats 4000000 in
set_option maxRecDepth 100000 in
theorem tX4_countBegun_L4 (C0 : CallFix p m c cX4_countBegun 4 s args wsX4_countBegun RX4) (hK : Kx D (tyC ci) s) (K : Int32 → Prop) (σ : St) (x1 : Nat) (hret : ∀ (r : Int32) (H : Heap) (locs : List Loc) (pc : Nat) (ls : Array Slot), K r → Sy D 132 ad A H0 (obC ad ci σ) H locs → decode cX4_countBegun pc = .ok (.ireturn, 1) → W p l e rmX4_countBegun s m args below meth c H locs 0 0 Q (F0 m pc ls [.int r])) (rx1 : rowB x1 = true) : ∀ (n : Nat) (x2 : Int32) (x3 : Int32), wX4_countBegun_L4 K σ x1 n x2 x3 → ∀ (H : Heap) (locs : List Loc), Sy D 132 ad A H0 (obC ad ci σ) H locs → Rok σ → ∀ ls : Array Slot, lv_has ls 4 [(0, .ref (ad 5)), (1, .ref (ad x1)), (2, .int x2), (3, .int x3)] → W p l e rmX4_countBegun s m args below meth c H locs 0 0 Q (F0 m 4 ls []) := by
  obtain ⟨hx, hb, hml, hown, hts⟩ := id C0
  intro n
  induction n with
  | zero =>
    intro x2 x3 h
    exact h.elim
  | succ n ih =>
    intro x2 x3 h H locs hY hR  ls hl
    refine lv_iload_n hx hb dX4_countBegun_4 rfl (lv_at hl 3 rfl) ?_
    refine lv_aload_n hx hb dX4_countBegun_5 rfl (lv_at hl 0 rfl) ?_
    refine w_get (o := 5) (ci := 4) (C := RX4) (T := TX4) (N1 := 4) (v := .int (gI σ 5)) hx hb hts kX4_countBegun_inX4 hown hK.1 hY (by decide) obC_list rfl 3 (by decide) (hts _ kX4_countBegun_0) rfl rfl dX4_countBegun_6 ?_
    refine lv_icmp_ge (tgt := 33) hx hb dX4_countBegun_9 (by decide) (fun c_1 => ?_) (fun c_1 => ?_)
    · have h := h.1 c_1
      refine lv_iload_n hx hb dX4_countBegun_33 rfl (lv_at hl 2 rfl) ?_
      exact hret x2 _ _ _ _ h hY dX4_countBegun_34
    · have h := h.2 c_1
      refine lv_aload_n hx hb dX4_countBegun_12 rfl (lv_at hl 0 rfl) ?_
      refine lv_iload_n hx hb dX4_countBegun_13 rfl (lv_at hl 3 rfl) ?_
      refine w_callrp (rest := []) (va_runV (As := [.int x3]) (rest := []) C0 (mX4_rowAt l D ad ci A σ x3 _ hR  h) (cwV 1 hts gX4_countBegun_X4_rowAt rfl rfl rfl ddX4_rowAt ⟨Nat.le_of_ble_eq_true rfl, Nat.le_of_ble_eq_true rfl⟩) (w_preV (o := 5) (ci := 4) (ob := obC ad ci) (σ := σ) hK hY (by decide) obC_list rfl rfl) rfl rfl hl.1 rfl (lv_room (Nat.le_of_ble_eq_true rfl)) dX4_countBegun_14 ⟨Nat.zero_le _, Nat.zero_le _⟩) hY (fun r_2 H locs h hY => ?_)
      obtain ⟨rr_2, h⟩ := h
      refine lv_aload_n hx hb dX4_countBegun_17 rfl (lv_at hl 1 rfl) ?_
      refine w_callip (rest := []) (va_runV (As := [.ref (ad x1)]) (rest := []) C0 (mX2_beginsWith l D ad ci A σ r_2 x1 _ hR rr_2 rx1 h) (cwV 1 hts gX4_countBegun_X2_beginsWith rfl rfl rfl ddX2_beginsWith ⟨Nat.le_of_ble_eq_true rfl, Nat.le_of_ble_eq_true rfl⟩) (w_preV (o := r_2) (ci := 2) (ob := obC ad ci) (σ := σ) hK hY (rowB_lt rr_2) (obC_row rr_2) rfl rfl) rfl rfl hl.1 rfl (lv_room (Nat.le_of_ble_eq_true rfl)) dX4_countBegun_18 ⟨Nat.zero_le _, Nat.zero_le _⟩) hY (fun r_3 H locs h hY => ?_)
      obtain ⟨n_r_3, h⟩ := h
      refine lv_if_eq (tgt := 27) hx hb dX4_countBegun_21 (by decide) (fun c_4 => ?_) (fun c_4 => ?_)
      · have h := h.1 c_4
        refine lv_iinc (v := (x3 + 1)) (lv' := [(3, .int (x3 + 1)), (0, .ref (ad 5)), (1, .ref (ad x1)), (2, .int x2)]) hx hb dX4_countBegun_27 hl (k := 3) rfl rfl (by decide) rfl (fun ls hl => ?_)
        refine lv_goto (tgt := 4) hx hb dX4_countBegun_30 (by decide) ?_
        exact ih x2 (x3 + 1) h _ _ hY hR  _ (lv_sub hl [1, 2, 3, 0] rfl)
      · have h := h.2 c_4
        refine lv_iinc (v := (x2 + 1)) (lv' := [(2, .int (x2 + 1)), (0, .ref (ad 5)), (1, .ref (ad x1)), (3, .int x3)]) hx hb dX4_countBegun_24 hl (k := 2) rfl rfl (by decide) rfl (fun ls hl => ?_)
        refine lv_iinc (v := (x3 + 1)) (lv' := [(3, .int (x3 + 1)), (2, .int (x2 + 1)), (0, .ref (ad 5)), (1, .ref (ad x1))]) hx hb dX4_countBegun_27 hl (k := 3) rfl rfl (by decide) rfl (fun ls hl => ?_)
        refine lv_goto (tgt := 4) hx hb dX4_countBegun_30 (by decide) ?_
        exact ih (x2 + 1) (x3 + 1) h _ _ hY hR  _ (lv_sub hl [2, 3, 1, 0] rfl)
set_option maxHeartbeats 4000000 in
set_option maxRecDepth 100000 in
theorem eX4_countBegun (C0 : CallFix p m c cX4_countBegun 4 s args wsX4_countBegun RX4) (hK : Kx D (tyC ci) s) (K : Int32 → Prop) (σ : St) (hret : ∀ (r : Int32) (H : Heap) (locs : List Loc) (pc : Nat) (ls : Array Slot), K r → Sy D 132 ad A H0 (obC ad ci σ) H locs → decode cX4_countBegun pc = .ok (.ireturn, 1) → W p l e rmX4_countBegun s m args below meth c H locs 0 0 Q (F0 m pc ls [.int r])) (x1 : Nat) (rx1 : rowB x1 = true) (h : wX4_countBegun σ x1 K) (H : Heap) (locs : List Loc) (hY : Sy D 132 ad A H0 (obC ad ci σ) H locs) (hR : Rok σ) (ls : Array Slot) (hl : lv_has ls 4 [(0, .ref (ad 5)), (1, .ref (ad x1))]) : W p l e rmX4_countBegun s m args below meth c H locs 0 0 Q (F0 m 0 ls []) := by
  obtain ⟨hx, hb, hml, hown, hts⟩ := id C0
  refine lv_iconst (v := (0 : Int32)) hx hb dX4_countBegun_0 (by decide) ?_
  refine lv_istore_n (lv' := [(2, .int (0 : Int32)), (0, .ref (ad 5)), (1, .ref (ad x1))]) hx hb dX4_countBegun_1 rfl hl (by decide) rfl (fun ls hl => ?_)
  refine lv_iconst (v := (0 : Int32)) hx hb dX4_countBegun_2 (by decide) ?_
  refine lv_istore_n (lv' := [(3, .int (0 : Int32)), (2, .int (0 : Int32)), (0, .ref (ad 5)), (1, .ref (ad x1))]) hx hb dX4_countBegun_3 rfl hl (by decide) rfl (fun ls hl => ?_)
  obtain ⟨n_5, h⟩ := h
  exact tX4_countBegun_L4 C0 hK K σ x1 hret rx1 n_5 (0 : Int32) (0 : Int32) h _ _ hY hR  _ (lv_sub hl [2, 3, 1, 0] rfl)
set_option maxHeartbeats 4000000 in
set_option maxRecDepth 100000 in
theorem mX4_countBegun (l : Launch) (D : va_G) (ad : Nat → Nat) (ci : Nat → ClassId) (A : Nat → Prop) (σ : St) (x1 : Nat) (K : Int32 → Prop) (hR : Rok σ) (rx1 : rowB x1 = true) (h : wX4_countBegun σ x1 K) : Met l yX4_countBegun wsX4_countBegun rmX4_countBegun (va_Pc [.ref (ad 5), .ref (ad x1)] (PreW D 132 ad A (tyC ci) (obC ad ci σ))) (va_Qi (fun r (_ : Unit) => K r) (fun _ => (PostW D 132 ad (tyC ci) (obC ad ci) Rok σ)) A) 0 0 A := by
  refine Met.ofW (cc := cX4_countBegun) (maxL := 4) (ret := (some .int)) (by decide) rfl ?_
  intro p e s m args below meth c s₁ B hml hv
  obtain ⟨rfl, hP, hK, hD⟩ := hv
  have C0 : CallFix p m c cX4_countBegun 4 s _ wsX4_countBegun RX4 := ⟨B.exec, B.bytes, hml, findClass_of_methodNamed B.named, atoms_spec (ws := wsX4_countBegun) B.pre⟩
  have hlocks := B.notSynchronized
  have hY : Sy D 132 ad A s.heap (obC ad ci σ) s.heap [] := ⟨hP, hD, va_S.rf⟩
  have hl := lv_entry ([.ref (ad 5), .ref (ad x1)]) (n := 4) (Nat.le_of_ble_eq_true rfl)
  rw [lg_entry_eq]
  generalize (lg_sl ([.ref (ad 5), .ref (ad x1)]) ++ List.replicate (4 - (lg_sl ([.ref (ad 5), .ref (ad x1)])).length) Slot.unset).toArray = ls at hl ⊢
  exact eX4_countBegun C0 hK K σ (fun r H locs pc ls hk hY hd => w_iret (I := Rok) B.exec B.bytes B.returns hlocks (u := ()) hK hk (fun t ht => ht) hY hR hd) x1 rx1 h _ _ hY hR ls hl
set_option maxHeartbeats 4000000 in
set_option maxRecDepth 100000 in
theorem tX4_rankBegun_L5 (C0 : CallFix p m c cX4_rankBegun 5 s args wsX4_rankBegun RX4) (hK : Kx D (tyC ci) s) (K : Int32 → Prop) (σ : St) (x1 : Nat) (hret : ∀ (r : Int32) (H : Heap) (locs : List Loc) (pc : Nat) (ls : Array Slot), K r → Sy D 132 ad A H0 (obC ad ci σ) H locs → decode cX4_rankBegun pc = .ok (.ireturn, 1) → W p l e rmX4_rankBegun s m args below meth c H locs 0 0 Q (F0 m pc ls [.int r])) (rx1 : rowB x1 = true) : ∀ (n : Nat) (x3 : Int32) (x4 : Int32), wX4_rankBegun_L5 K σ x1 n x3 x4 → ∀ (H : Heap) (locs : List Loc), Sy D 132 ad A H0 (obC ad ci σ) H locs → Rok σ → ∀ ls : Array Slot, lv_has ls 5 [(0, .ref (ad 5)), (1, .ref (ad x1)), (3, .int x3), (4, .int x4)] → W p l e rmX4_rankBegun s m args below meth c H locs 0 0 Q (F0 m 5 ls []) := by
  obtain ⟨hx, hb, hml, hown, hts⟩ := id C0
  intro n
  induction n with
  | zero =>
    intro x3 x4 h
    exact h.elim
  | succ n ih =>
    intro x3 x4 h H locs hY hR  ls hl
    refine lv_iload hx hb dX4_rankBegun_5 (lv_at hl 3 rfl) ?_
    refine lv_aload_n hx hb dX4_rankBegun_7 rfl (lv_at hl 0 rfl) ?_
    refine w_get (o := 5) (ci := 4) (C := RX4) (T := TX4) (N1 := 4) (v := .int (gI σ 5)) hx hb hts kX4_rankBegun_inX4 hown hK.1 hY (by decide) obC_list rfl 3 (by decide) (hts _ kX4_rankBegun_0) rfl rfl dX4_rankBegun_8 ?_
    refine lv_icmp_ge (tgt := 43) hx hb dX4_rankBegun_11 (by decide) (fun c_1 => ?_) (fun c_1 => ?_)
    · have h := h.1 c_1
      refine lv_iconst (v := (-1 : Int32)) hx hb dX4_rankBegun_43 (by decide) ?_
      exact hret (-1 : Int32) _ _ _ _ h hY dX4_rankBegun_44
    · have h := h.2 c_1
      refine lv_aload_n hx hb dX4_rankBegun_14 rfl (lv_at hl 0 rfl) ?_
      refine lv_iload hx hb dX4_rankBegun_15 (lv_at hl 3 rfl) ?_
      refine w_callrp (rest := []) (va_runV (As := [.int x4]) (rest := []) C0 (mX4_rowAt l D ad ci A σ x4 _ hR  h) (cwV 1 hts gX4_rankBegun_X4_rowAt rfl rfl rfl ddX4_rowAt ⟨Nat.le_of_ble_eq_true rfl, Nat.le_of_ble_eq_true rfl⟩) (w_preV (o := 5) (ci := 4) (ob := obC ad ci) (σ := σ) hK hY (by decide) obC_list rfl rfl) rfl rfl hl.1 rfl (lv_room (Nat.le_of_ble_eq_true rfl)) dX4_rankBegun_17 ⟨Nat.zero_le _, Nat.zero_le _⟩) hY (fun r_2 H locs h hY => ?_)
      obtain ⟨rr_2, h⟩ := h
      refine lv_aload_n hx hb dX4_rankBegun_20 rfl (lv_at hl 1 rfl) ?_
      refine w_callip (rest := []) (va_runV (As := [.ref (ad x1)]) (rest := []) C0 (mX2_beginsWith l D ad ci A σ r_2 x1 _ hR rr_2 rx1 h) (cwV 1 hts gX4_rankBegun_X2_beginsWith rfl rfl rfl ddX2_beginsWith ⟨Nat.le_of_ble_eq_true rfl, Nat.le_of_ble_eq_true rfl⟩) (w_preV (o := r_2) (ci := 2) (ob := obC ad ci) (σ := σ) hK hY (rowB_lt rr_2) (obC_row rr_2) rfl rfl) rfl rfl hl.1 rfl (lv_room (Nat.le_of_ble_eq_true rfl)) dX4_rankBegun_21 ⟨Nat.zero_le _, Nat.zero_le _⟩) hY (fun r_3 H locs h hY => ?_)
      obtain ⟨n_r_3, h⟩ := h
      refine lv_if_eq (tgt := 37) hx hb dX4_rankBegun_24 (by decide) (fun c_4 => ?_) (fun c_4 => ?_)
      · have h := h.1 c_4
        refine lv_iinc (v := (x4 + 1)) (lv' := [(4, .int (x4 + 1)), (0, .ref (ad 5)), (1, .ref (ad x1)), (3, .int x3)]) hx hb dX4_rankBegun_37 hl (k := 3) rfl rfl (by decide) rfl (fun ls hl => ?_)
        refine lv_goto (tgt := 5) hx hb dX4_rankBegun_40 (by decide) ?_
        exact ih x3 (x4 + 1) h _ _ hY hR  _ (lv_sub hl [1, 2, 3, 0] rfl)
      · have h := h.2 c_4
        refine lv_iload_n hx hb dX4_rankBegun_27 rfl (lv_at hl 2 rfl) ?_
        refine lv_if_ne (tgt := 34) hx hb dX4_rankBegun_28 (by decide) (fun c_5 => ?_) (fun c_5 => ?_)
        · have h := h.2 c_5
          refine lv_iinc (v := (x3 + (-1))) (lv' := [(3, .int (x3 + (-1))), (0, .ref (ad 5)), (1, .ref (ad x1)), (4, .int x4)]) hx hb dX4_rankBegun_34 hl (k := 2) rfl rfl (by decide) rfl (fun ls hl => ?_)
          refine lv_iinc (v := (x4 + 1)) (lv' := [(4, .int (x4 + 1)), (3, .int (x3 + (-1))), (0, .ref (ad 5)), (1, .ref (ad x1))]) hx hb dX4_rankBegun_37 hl (k := 3) rfl rfl (by decide) rfl (fun ls hl => ?_)
          refine lv_goto (tgt := 5) hx hb dX4_rankBegun_40 (by decide) ?_
          exact ih (x3 + (-1)) (x4 + 1) h _ _ hY hR  _ (lv_sub hl [2, 3, 1, 0] rfl)
        · have h := h.1 c_5
          refine lv_iload hx hb dX4_rankBegun_31 (lv_at hl 3 rfl) ?_
          exact hret x4 _ _ _ _ h hY dX4_rankBegun_33
set_option maxHeartbeats 4000000 in
set_option maxRecDepth 100000 in
theorem eX4_rankBegun (C0 : CallFix p m c cX4_rankBegun 5 s args wsX4_rankBegun RX4) (hK : Kx D (tyC ci) s) (K : Int32 → Prop) (σ : St) (hret : ∀ (r : Int32) (H : Heap) (locs : List Loc) (pc : Nat) (ls : Array Slot), K r → Sy D 132 ad A H0 (obC ad ci σ) H locs → decode cX4_rankBegun pc = .ok (.ireturn, 1) → W p l e rmX4_rankBegun s m args below meth c H locs 0 0 Q (F0 m pc ls [.int r])) (x1 : Nat) (x2 : Int32) (rx1 : rowB x1 = true) (h : wX4_rankBegun σ x1 x2 K) (H : Heap) (locs : List Loc) (hY : Sy D 132 ad A H0 (obC ad ci σ) H locs) (hR : Rok σ) (ls : Array Slot) (hl : lv_has ls 5 [(0, .ref (ad 5)), (1, .ref (ad x1)), (2, .int x2)]) : W p l e rmX4_rankBegun s m args below meth c H locs 0 0 Q (F0 m 0 ls []) := by
  obtain ⟨hx, hb, hml, hown, hts⟩ := id C0
  refine lv_iload_n hx hb dX4_rankBegun_0 rfl (lv_at hl 2 rfl) ?_
  refine lv_istore_n (lv' := [(3, .int x2), (0, .ref (ad 5)), (1, .ref (ad x1)), (2, .int x2)]) hx hb dX4_rankBegun_1 rfl hl (by decide) rfl (fun ls hl => ?_)
  refine lv_iconst (v := (0 : Int32)) hx hb dX4_rankBegun_2 (by decide) ?_
  refine lv_istore (lv' := [(4, .int (0 : Int32)), (3, .int x2), (0, .ref (ad 5)), (1, .ref (ad x1)), (2, .int x2)]) hx hb dX4_rankBegun_3 hl (by decide) rfl (fun ls hl => ?_)
  obtain ⟨n_6, h⟩ := h
  exact tX4_rankBegun_L5 C0 hK K σ x1 hret rx1 n_6 x2 (0 : Int32) h _ _ hY hR  _ (lv_sub hl [2, 3, 1, 0] rfl)
set_option maxHeartbeats 4000000 in
set_option maxRecDepth 100000 in
theorem mX4_rankBegun (l : Launch) (D : va_G) (ad : Nat → Nat) (ci : Nat → ClassId) (A : Nat → Prop) (σ : St) (x1 : Nat) (x2 : Int32) (K : Int32 → Prop) (hR : Rok σ) (rx1 : rowB x1 = true) (h : wX4_rankBegun σ x1 x2 K) : Met l yX4_rankBegun wsX4_rankBegun rmX4_rankBegun (va_Pc [.ref (ad 5), .ref (ad x1), .int x2] (PreW D 132 ad A (tyC ci) (obC ad ci σ))) (va_Qi (fun r (_ : Unit) => K r) (fun _ => (PostW D 132 ad (tyC ci) (obC ad ci) Rok σ)) A) 0 0 A := by
  refine Met.ofW (cc := cX4_rankBegun) (maxL := 5) (ret := (some .int)) (by decide) rfl ?_
  intro p e s m args below meth c s₁ B hml hv
  obtain ⟨rfl, hP, hK, hD⟩ := hv
  have C0 : CallFix p m c cX4_rankBegun 5 s _ wsX4_rankBegun RX4 := ⟨B.exec, B.bytes, hml, findClass_of_methodNamed B.named, atoms_spec (ws := wsX4_rankBegun) B.pre⟩
  have hlocks := B.notSynchronized
  have hY : Sy D 132 ad A s.heap (obC ad ci σ) s.heap [] := ⟨hP, hD, va_S.rf⟩
  have hl := lv_entry ([.ref (ad 5), .ref (ad x1), .int x2]) (n := 5) (Nat.le_of_ble_eq_true rfl)
  rw [lg_entry_eq]
  generalize (lg_sl ([.ref (ad 5), .ref (ad x1), .int x2]) ++ List.replicate (5 - (lg_sl ([.ref (ad 5), .ref (ad x1), .int x2])).length) Slot.unset).toArray = ls at hl ⊢
  exact eX4_rankBegun C0 hK K σ (fun r H locs pc ls hk hY hd => w_iret (I := Rok) B.exec B.bytes B.returns hlocks (u := ()) hK hk (fun t ht => ht) hY hR hd) x1 x2 rx1 h _ _ hY hR ls hl
set_option maxHeartbeats 4000000 in
set_option maxRecDepth 100000 in
theorem tX4_sumBegun_L4 (C0 : CallFix p m c cX4_sumBegun 4 s args wsX4_sumBegun RX4) (hK : Kx D (tyC ci) s) (K : Int32 → Prop) (σ : St) (x1 : Nat) (hret : ∀ (r : Int32) (H : Heap) (locs : List Loc) (pc : Nat) (ls : Array Slot), K r → Sy D 132 ad A H0 (obC ad ci σ) H locs → decode cX4_sumBegun pc = .ok (.ireturn, 1) → W p l e rmX4_sumBegun s m args below meth c H locs 0 0 Q (F0 m pc ls [.int r])) (rx1 : rowB x1 = true) : ∀ (n : Nat) (x2 : Int32) (x3 : Int32), wX4_sumBegun_L4 K σ x1 n x2 x3 → ∀ (H : Heap) (locs : List Loc), Sy D 132 ad A H0 (obC ad ci σ) H locs → Rok σ → ∀ ls : Array Slot, lv_has ls 4 [(0, .ref (ad 5)), (1, .ref (ad x1)), (2, .int x2), (3, .int x3)] → W p l e rmX4_sumBegun s m args below meth c H locs 0 0 Q (F0 m 4 ls []) := by
  obtain ⟨hx, hb, hml, hown, hts⟩ := id C0
  intro n
  induction n with
  | zero =>
    intro x2 x3 h
    exact h.elim
  | succ n ih =>
    intro x2 x3 h H locs hY hR  ls hl
    refine lv_iload_n hx hb dX4_sumBegun_4 rfl (lv_at hl 3 rfl) ?_
    refine lv_aload_n hx hb dX4_sumBegun_5 rfl (lv_at hl 0 rfl) ?_
    refine w_get (o := 5) (ci := 4) (C := RX4) (T := TX4) (N1 := 4) (v := .int (gI σ 5)) hx hb hts kX4_sumBegun_inX4 hown hK.1 hY (by decide) obC_list rfl 3 (by decide) (hts _ kX4_sumBegun_0) rfl rfl dX4_sumBegun_6 ?_
    refine lv_icmp_ge (tgt := 38) hx hb dX4_sumBegun_9 (by decide) (fun c_1 => ?_) (fun c_1 => ?_)
    · have h := h.1 c_1
      refine lv_iload_n hx hb dX4_sumBegun_38 rfl (lv_at hl 2 rfl) ?_
      exact hret x2 _ _ _ _ h hY dX4_sumBegun_39
    · have h := h.2 c_1
      refine lv_aload_n hx hb dX4_sumBegun_12 rfl (lv_at hl 0 rfl) ?_
      refine lv_iload_n hx hb dX4_sumBegun_13 rfl (lv_at hl 3 rfl) ?_
      refine w_callrp (rest := []) (va_runV (As := [.int x3]) (rest := []) C0 (mX4_rowAt l D ad ci A σ x3 _ hR  h) (cwV 1 hts gX4_sumBegun_X4_rowAt rfl rfl rfl ddX4_rowAt ⟨Nat.le_of_ble_eq_true rfl, Nat.le_of_ble_eq_true rfl⟩) (w_preV (o := 5) (ci := 4) (ob := obC ad ci) (σ := σ) hK hY (by decide) obC_list rfl rfl) rfl rfl hl.1 rfl (lv_room (Nat.le_of_ble_eq_true rfl)) dX4_sumBegun_14 ⟨Nat.zero_le _, Nat.zero_le _⟩) hY (fun r_2 H locs h hY => ?_)
      obtain ⟨rr_2, h⟩ := h
      refine lv_aload_n hx hb dX4_sumBegun_17 rfl (lv_at hl 1 rfl) ?_
      refine w_callip (rest := []) (va_runV (As := [.ref (ad x1)]) (rest := []) C0 (mX2_beginsWith l D ad ci A σ r_2 x1 _ hR rr_2 rx1 h) (cwV 1 hts gX4_sumBegun_X2_beginsWith rfl rfl rfl ddX2_beginsWith ⟨Nat.le_of_ble_eq_true rfl, Nat.le_of_ble_eq_true rfl⟩) (w_preV (o := r_2) (ci := 2) (ob := obC ad ci) (σ := σ) hK hY (rowB_lt rr_2) (obC_row rr_2) rfl rfl) rfl rfl hl.1 rfl (lv_room (Nat.le_of_ble_eq_true rfl)) dX4_sumBegun_18 ⟨Nat.zero_le _, Nat.zero_le _⟩) hY (fun r_3 H locs h hY => ?_)
      obtain ⟨n_r_3, h⟩ := h
      refine lv_if_eq (tgt := 32) hx hb dX4_sumBegun_21 (by decide) (fun c_4 => ?_) (fun c_4 => ?_)
      · have h := h.1 c_4
        refine lv_iinc (v := (x3 + 1)) (lv' := [(3, .int (x3 + 1)), (0, .ref (ad 5)), (1, .ref (ad x1)), (2, .int x2)]) hx hb dX4_sumBegun_32 hl (k := 3) rfl rfl (by decide) rfl (fun ls hl => ?_)
        refine lv_goto (tgt := 4) hx hb dX4_sumBegun_35 (by decide) ?_
        exact ih x2 (x3 + 1) h _ _ hY hR  _ (lv_sub hl [1, 2, 3, 0] rfl)
      · have h := h.2 c_4
        refine lv_iload_n hx hb dX4_sumBegun_24 rfl (lv_at hl 2 rfl) ?_
        refine lv_aload_n hx hb dX4_sumBegun_25 rfl (lv_at hl 0 rfl) ?_
        refine lv_iload_n hx hb dX4_sumBegun_26 rfl (lv_at hl 3 rfl) ?_
        refine w_callip (rest := [.int x2]) (va_runV (As := [.int x3]) (rest := [.int x2]) C0 (mX4_numberAt l D ad ci A σ x3 _ hR  h) (cwV 1 hts gX4_sumBegun_X4_numberAt rfl rfl rfl ddX4_numberAt ⟨Nat.le_of_ble_eq_true rfl, Nat.le_of_ble_eq_true rfl⟩) (w_preV (o := 5) (ci := 4) (ob := obC ad ci) (σ := σ) hK hY (by decide) obC_list rfl rfl) rfl rfl hl.1 rfl (lv_room (Nat.le_of_ble_eq_true rfl)) dX4_sumBegun_27 ⟨Nat.zero_le _, Nat.zero_le _⟩) hY (fun r_5 H locs h hY => ?_)
        refine lv_iadd hx hb dX4_sumBegun_30 ?_
        refine lv_istore_n (lv' := [(2, .int (x2 + r_5)), (0, .ref (ad 5)), (1, .ref (ad x1)), (3, .int x3)]) hx hb dX4_sumBegun_31 rfl hl (by decide) rfl (fun ls hl => ?_)
        refine lv_iinc (v := (x3 + 1)) (lv' := [(3, .int (x3 + 1)), (2, .int (x2 + r_5)), (0, .ref (ad 5)), (1, .ref (ad x1))]) hx hb dX4_sumBegun_32 hl (k := 3) rfl rfl (by decide) rfl (fun ls hl => ?_)
        refine lv_goto (tgt := 4) hx hb dX4_sumBegun_35 (by decide) ?_
        exact ih (x2 + r_5) (x3 + 1) h _ _ hY hR  _ (lv_sub hl [2, 3, 1, 0] rfl)
set_option maxHeartbeats 4000000 in
set_option maxRecDepth 100000 in
theorem eX4_sumBegun (C0 : CallFix p m c cX4_sumBegun 4 s args wsX4_sumBegun RX4) (hK : Kx D (tyC ci) s) (K : Int32 → Prop) (σ : St) (hret : ∀ (r : Int32) (H : Heap) (locs : List Loc) (pc : Nat) (ls : Array Slot), K r → Sy D 132 ad A H0 (obC ad ci σ) H locs → decode cX4_sumBegun pc = .ok (.ireturn, 1) → W p l e rmX4_sumBegun s m args below meth c H locs 0 0 Q (F0 m pc ls [.int r])) (x1 : Nat) (rx1 : rowB x1 = true) (h : wX4_sumBegun σ x1 K) (H : Heap) (locs : List Loc) (hY : Sy D 132 ad A H0 (obC ad ci σ) H locs) (hR : Rok σ) (ls : Array Slot) (hl : lv_has ls 4 [(0, .ref (ad 5)), (1, .ref (ad x1))]) : W p l e rmX4_sumBegun s m args below meth c H locs 0 0 Q (F0 m 0 ls []) := by
  obtain ⟨hx, hb, hml, hown, hts⟩ := id C0
  refine lv_iconst (v := (0 : Int32)) hx hb dX4_sumBegun_0 (by decide) ?_
  refine lv_istore_n (lv' := [(2, .int (0 : Int32)), (0, .ref (ad 5)), (1, .ref (ad x1))]) hx hb dX4_sumBegun_1 rfl hl (by decide) rfl (fun ls hl => ?_)
  refine lv_iconst (v := (0 : Int32)) hx hb dX4_sumBegun_2 (by decide) ?_
  refine lv_istore_n (lv' := [(3, .int (0 : Int32)), (2, .int (0 : Int32)), (0, .ref (ad 5)), (1, .ref (ad x1))]) hx hb dX4_sumBegun_3 rfl hl (by decide) rfl (fun ls hl => ?_)
  obtain ⟨n_6, h⟩ := h
  exact tX4_sumBegun_L4 C0 hK K σ x1 hret rx1 n_6 (0 : Int32) (0 : Int32) h _ _ hY hR  _ (lv_sub hl [2, 3, 1, 0] rfl)
set_option maxHeartbeats 4000000 in
set_option maxRecDepth 100000 in
theorem mX4_sumBegun (l : Launch) (D : va_G) (ad : Nat → Nat) (ci : Nat → ClassId) (A : Nat → Prop) (σ : St) (x1 : Nat) (K : Int32 → Prop) (hR : Rok σ) (rx1 : rowB x1 = true) (h : wX4_sumBegun σ x1 K) : Met l yX4_sumBegun wsX4_sumBegun rmX4_sumBegun (va_Pc [.ref (ad 5), .ref (ad x1)] (PreW D 132 ad A (tyC ci) (obC ad ci σ))) (va_Qi (fun r (_ : Unit) => K r) (fun _ => (PostW D 132 ad (tyC ci) (obC ad ci) Rok σ)) A) 0 0 A := by
  refine Met.ofW (cc := cX4_sumBegun) (maxL := 4) (ret := (some .int)) (by decide) rfl ?_
  intro p e s m args below meth c s₁ B hml hv
  obtain ⟨rfl, hP, hK, hD⟩ := hv
  have C0 : CallFix p m c cX4_sumBegun 4 s _ wsX4_sumBegun RX4 := ⟨B.exec, B.bytes, hml, findClass_of_methodNamed B.named, atoms_spec (ws := wsX4_sumBegun) B.pre⟩
  have hlocks := B.notSynchronized
  have hY : Sy D 132 ad A s.heap (obC ad ci σ) s.heap [] := ⟨hP, hD, va_S.rf⟩
  have hl := lv_entry ([.ref (ad 5), .ref (ad x1)]) (n := 4) (Nat.le_of_ble_eq_true rfl)
  rw [lg_entry_eq]
  generalize (lg_sl ([.ref (ad 5), .ref (ad x1)]) ++ List.replicate (4 - (lg_sl ([.ref (ad 5), .ref (ad x1)])).length) Slot.unset).toArray = ls at hl ⊢
  exact eX4_sumBegun C0 hK K σ (fun r H locs pc ls hk hY hd => w_iret (I := Rok) B.exec B.bytes B.returns hlocks (u := ()) hK hk (fun t ht => ht) hY hR hd) x1 rx1 h _ _ hY hR ls hl
set_option maxHeartbeats 4000000 in
set_option maxRecDepth 100000 in
theorem tX4_removeBegun_L9 (C0 : CallFix p m c cX4_removeBegun 4 s args wsX4_removeBegun RX4) (hK : Kx D (tyC ci) s) (K : Int32 → St → Prop) (x1 : Nat) (hret : ∀ (r : Int32) (u : St) (H : Heap) (locs : List Loc) (pc : Nat) (ls : Array Slot), K r u → Sy D 132 ad A H0 (obC ad ci u) H locs → Rok u → decode cX4_removeBegun pc = .ok (.ireturn, 1) → W p l e rmX4_removeBegun s m args below meth c H locs 0 0 Q (F0 m pc ls [.int r])) (rx1 : rowB x1 = true) : ∀ (n : Nat) (σ : St) (x2 : Int32) (x3 : Int32), wX4_removeBegun_L9 K x1 n σ x2 x3 → ∀ (H : Heap) (locs : List Loc), Sy D 132 ad A H0 (obC ad ci σ) H locs → Rok σ → ∀ ls : Array Slot, lv_has ls 4 [(0, .ref (ad 5)), (1, .ref (ad x1)), (2, .int x2), (3, .int x3)] → W p l e rmX4_removeBegun s m args below meth c H locs 0 0 Q (F0 m 9 ls []) := by
  obtain ⟨hx, hb, hml, hown, hts⟩ := id C0
  intro n
  induction n with
  | zero =>
    intro σ x2 x3 h
    exact h.elim
  | succ n ih =>
    intro σ x2 x3 h H locs hY hR  ls hl
    refine lv_iload_n hx hb dX4_removeBegun_9 rfl (lv_at hl 3 rfl) ?_
    refine lv_if_lt (tgt := 39) hx hb dX4_removeBegun_10 (by decide) (fun c_1 => ?_) (fun c_1 => ?_)
    · have h := h.1 c_1
      refine lv_iload_n hx hb dX4_removeBegun_39 rfl (lv_at hl 2 rfl) ?_
      exact hret x2 σ _ _ _ _ h hY hR dX4_removeBegun_40
    · have h := h.2 c_1
      refine lv_aload_n hx hb dX4_removeBegun_13 rfl (lv_at hl 0 rfl) ?_
      refine lv_iload_n hx hb dX4_removeBegun_14 rfl (lv_at hl 3 rfl) ?_
      refine w_callrp (rest := []) (va_runV (As := [.int x3]) (rest := []) C0 (mX4_rowAt l D ad ci A σ x3 _ hR  h) (cwV 1 hts gX4_removeBegun_X4_rowAt rfl rfl rfl ddX4_rowAt ⟨Nat.le_of_ble_eq_true rfl, Nat.le_of_ble_eq_true rfl⟩) (w_preV (o := 5) (ci := 4) (ob := obC ad ci) (σ := σ) hK hY (by decide) obC_list rfl rfl) rfl rfl hl.1 rfl (lv_room (Nat.le_of_ble_eq_true rfl)) dX4_removeBegun_15 ⟨Nat.zero_le _, Nat.zero_le _⟩) hY (fun r_2 H locs h hY => ?_)
      obtain ⟨rr_2, h⟩ := h
      refine lv_aload_n hx hb dX4_removeBegun_18 rfl (lv_at hl 1 rfl) ?_
      refine w_callip (rest := []) (va_runV (As := [.ref (ad x1)]) (rest := []) C0 (mX2_beginsWith l D ad ci A σ r_2 x1 _ hR rr_2 rx1 h) (cwV 1 hts gX4_removeBegun_X2_beginsWith rfl rfl rfl ddX2_beginsWith ⟨Nat.le_of_ble_eq_true rfl, Nat.le_of_ble_eq_true rfl⟩) (w_preV (o := r_2) (ci := 2) (ob := obC ad ci) (σ := σ) hK hY (rowB_lt rr_2) (obC_row rr_2) rfl rfl) rfl rfl hl.1 rfl (lv_room (Nat.le_of_ble_eq_true rfl)) dX4_removeBegun_19 ⟨Nat.zero_le _, Nat.zero_le _⟩) hY (fun r_3 H locs h hY => ?_)
      obtain ⟨n_r_3, h⟩ := h
      refine lv_if_eq (tgt := 33) hx hb dX4_removeBegun_22 (by decide) (fun c_4 => ?_) (fun c_4 => ?_)
      · have h := h.1 c_4
        refine lv_iinc (v := (x3 + (-1))) (lv' := [(3, .int (x3 + (-1))), (0, .ref (ad 5)), (1, .ref (ad x1)), (2, .int x2)]) hx hb dX4_removeBegun_33 hl (k := 3) rfl rfl (by decide) rfl (fun ls hl => ?_)
        refine lv_goto (tgt := 9) hx hb dX4_removeBegun_36 (by decide) ?_
        exact ih σ x2 (x3 + (-1)) h _ _ hY hR  _ (lv_sub hl [1, 2, 3, 0] rfl)
      · have h := h.2 c_4
        refine lv_aload_n hx hb dX4_removeBegun_25 rfl (lv_at hl 0 rfl) ?_
        refine lv_iload_n hx hb dX4_removeBegun_26 rfl (lv_at hl 3 rfl) ?_
        refine w_callv (rest := []) (va_runV (As := [.int x3]) (rest := []) C0 (mX4_remove l D ad ci A σ x3 _ hR  h) (cwV 1 hts gX4_removeBegun_X4_remove rfl rfl rfl ddX4_remove ⟨Nat.le_of_ble_eq_true rfl, Nat.le_of_ble_eq_true rfl⟩) (w_preV (o := 5) (ci := 4) (ob := obC ad ci) (σ := σ) hK hY (by decide) obC_list rfl rfl) rfl rfl hl.1 rfl (lv_room (Nat.le_of_ble_eq_true rfl)) dX4_removeBegun_27 ⟨Nat.zero_le _, Nat.zero_le _⟩) hY (fun σ_6 H locs h hY hR_σ_6 => ?_)
        refine lv_iinc (v := (x2 + 1)) (lv' := [(2, .int (x2 + 1)), (0, .ref (ad 5)), (1, .ref (ad x1)), (3, .int x3)]) hx hb dX4_removeBegun_30 hl (k := 2) rfl rfl (by decide) rfl (fun ls hl => ?_)
        refine lv_iinc (v := (x3 + (-1))) (lv' := [(3, .int (x3 + (-1))), (2, .int (x2 + 1)), (0, .ref (ad 5)), (1, .ref (ad x1))]) hx hb dX4_removeBegun_33 hl (k := 3) rfl rfl (by decide) rfl (fun ls hl => ?_)
        refine lv_goto (tgt := 9) hx hb dX4_removeBegun_36 (by decide) ?_
        exact ih σ_6 (x2 + 1) (x3 + (-1)) h _ _ hY hR_σ_6  _ (lv_sub hl [2, 3, 1, 0] rfl)
set_option maxHeartbeats 4000000 in
set_option maxRecDepth 100000 in
theorem eX4_removeBegun (C0 : CallFix p m c cX4_removeBegun 4 s args wsX4_removeBegun RX4) (hK : Kx D (tyC ci) s) (K : Int32 → St → Prop) (σ : St) (hret : ∀ (r : Int32) (u : St) (H : Heap) (locs : List Loc) (pc : Nat) (ls : Array Slot), K r u → Sy D 132 ad A H0 (obC ad ci u) H locs → Rok u → decode cX4_removeBegun pc = .ok (.ireturn, 1) → W p l e rmX4_removeBegun s m args below meth c H locs 0 0 Q (F0 m pc ls [.int r])) (x1 : Nat) (rx1 : rowB x1 = true) (h : wX4_removeBegun σ x1 K) (H : Heap) (locs : List Loc) (hY : Sy D 132 ad A H0 (obC ad ci σ) H locs) (hR : Rok σ) (ls : Array Slot) (hl : lv_has ls 4 [(0, .ref (ad 5)), (1, .ref (ad x1))]) : W p l e rmX4_removeBegun s m args below meth c H locs 0 0 Q (F0 m 0 ls []) := by
  obtain ⟨hx, hb, hml, hown, hts⟩ := id C0
  refine lv_iconst (v := (0 : Int32)) hx hb dX4_removeBegun_0 (by decide) ?_
  refine lv_istore_n (lv' := [(2, .int (0 : Int32)), (0, .ref (ad 5)), (1, .ref (ad x1))]) hx hb dX4_removeBegun_1 rfl hl (by decide) rfl (fun ls hl => ?_)
  refine lv_aload_n hx hb dX4_removeBegun_2 rfl (lv_at hl 1 rfl) ?_
  refine w_get (o := 5) (ci := 4) (C := RX4) (T := TX4) (N1 := 4) (v := .int (gI σ 5)) hx hb hts kX4_removeBegun_inX4 hown hK.1 hY (by decide) obC_list rfl 3 (by decide) (hts _ kX4_removeBegun_0) rfl rfl dX4_removeBegun_3 ?_
  refine lv_iconst (v := (1 : Int32)) hx hb dX4_removeBegun_6 (by decide) ?_
  refine lv_isub hx hb dX4_removeBegun_7 ?_
  refine lv_topi (fun x3_7 e_x3_7 => ?_)
  have h := h x3_7 e_x3_7
  refine lv_istore_n (lv' := [(3, .int x3_7), (2, .int (0 : Int32)), (0, .ref (ad 5)), (1, .ref (ad x1))]) hx hb dX4_removeBegun_8 rfl hl (by decide) rfl (fun ls hl => ?_)
  obtain ⟨n_8, h⟩ := h
  exact tX4_removeBegun_L9 C0 hK K x1 hret rx1 n_8 σ (0 : Int32) x3_7 h _ _ hY hR  _ (lv_sub hl [2, 3, 1, 0] rfl)
set_option maxHeartbeats 4000000 in
set_option maxRecDepth 100000 in
theorem mX4_removeBegun (l : Launch) (D : va_G) (ad : Nat → Nat) (ci : Nat → ClassId) (A : Nat → Prop) (σ : St) (x1 : Nat) (K : Int32 → St → Prop) (hR : Rok σ) (rx1 : rowB x1 = true) (h : wX4_removeBegun σ x1 K) : Met l yX4_removeBegun wsX4_removeBegun rmX4_removeBegun (va_Pc [.ref (ad 5), .ref (ad x1)] (PreW D 132 ad A (tyC ci) (obC ad ci σ))) (va_Qi (fun r u => K r u) (PostW D 132 ad (tyC ci) (obC ad ci) Rok) A) 0 0 A := by
  refine Met.ofW (cc := cX4_removeBegun) (maxL := 4) (ret := (some .int)) (by decide) rfl ?_
  intro p e s m args below meth c s₁ B hml hv
  obtain ⟨rfl, hP, hK, hD⟩ := hv
  have C0 : CallFix p m c cX4_removeBegun 4 s _ wsX4_removeBegun RX4 := ⟨B.exec, B.bytes, hml, findClass_of_methodNamed B.named, atoms_spec (ws := wsX4_removeBegun) B.pre⟩
  have hlocks := B.notSynchronized
  have hY : Sy D 132 ad A s.heap (obC ad ci σ) s.heap [] := ⟨hP, hD, va_S.rf⟩
  have hl := lv_entry ([.ref (ad 5), .ref (ad x1)]) (n := 4) (Nat.le_of_ble_eq_true rfl)
  rw [lg_entry_eq]
  generalize (lg_sl ([.ref (ad 5), .ref (ad x1)]) ++ List.replicate (4 - (lg_sl ([.ref (ad 5), .ref (ad x1)])).length) Slot.unset).toArray = ls at hl ⊢
  exact eX4_removeBegun C0 hK K σ (fun r u H locs pc ls hk hY hR hd => w_iret (I := Rok) B.exec B.bytes B.returns hlocks hK hk (fun t ht => ht) hY hR hd) x1 rx1 h _ _ hY hR ls hl
set_option maxHeartbeats 4000000 in
set_option maxRecDepth 100000 in
theorem tX4_longestAt_L5 (C0 : CallFix p m c cX4_longestAt 5 s args wsX4_longestAt RX4) (hK : Kx D (tyC ci) s) (K : Int32 → Prop) (σ : St) (x1 : Nat) (x2 : Int32) (hret : ∀ (r : Int32) (H : Heap) (locs : List Loc) (pc : Nat) (ls : Array Slot), K r → Sy D 132 ad A H0 (obC ad ci σ) H locs → decode cX4_longestAt pc = .ok (.ireturn, 1) → W p l e rmX4_longestAt s m args below meth c H locs 0 0 Q (F0 m pc ls [.int r])) (rx1 : rowB x1 = true) : ∀ (n : Nat) (x3 : Int32) (x4 : Int32), wX4_longestAt_L5 K σ x1 x2 n x3 x4 → ∀ (H : Heap) (locs : List Loc), Sy D 132 ad A H0 (obC ad ci σ) H locs → Rok σ → ∀ ls : Array Slot, lv_has ls 5 [(0, .ref (ad 5)), (1, .ref (ad x1)), (2, .int x2), (3, .int x3), (4, .int x4)] → W p l e rmX4_longestAt s m args below meth c H locs 0 0 Q (F0 m 5 ls []) := by
  obtain ⟨hx, hb, hml, hown, hts⟩ := id C0
  intro n
  induction n with
  | zero =>
    intro x3 x4 h
    exact h.elim
  | succ n ih =>
    intro x3 x4 h H locs hY hR  ls hl
    refine lv_iload hx hb dX4_longestAt_5 (lv_at hl 4 rfl) ?_
    refine lv_aload_n hx hb dX4_longestAt_7 rfl (lv_at hl 0 rfl) ?_
    refine w_get (o := 5) (ci := 4) (C := RX4) (T := TX4) (N1 := 4) (v := .int (gI σ 5)) hx hb hts kX4_longestAt_inX4 hown hK.1 hY (by decide) obC_list rfl 3 (by decide) (hts _ kX4_longestAt_0) rfl rfl dX4_longestAt_8 ?_
    refine lv_icmp_ge (tgt := 48) hx hb dX4_longestAt_11 (by decide) (fun c_1 => ?_) (fun c_1 => ?_)
    · have h := h.1 c_1
      refine lv_iload_n hx hb dX4_longestAt_48 rfl (lv_at hl 3 rfl) ?_
      exact hret x3 _ _ _ _ h hY dX4_longestAt_49
    · have h := h.2 c_1
      refine lv_aload_n hx hb dX4_longestAt_14 rfl (lv_at hl 1 rfl) ?_
      refine lv_iload_n hx hb dX4_longestAt_15 rfl (lv_at hl 2 rfl) ?_
      refine lv_aload_n hx hb dX4_longestAt_16 rfl (lv_at hl 0 rfl) ?_
      refine lv_iload hx hb dX4_longestAt_17 (lv_at hl 4 rfl) ?_
      refine w_callrp (rest := [.int x2, .ref (ad x1)]) (va_runV (As := [.int x4]) (rest := [.int x2, .ref (ad x1)]) C0 (mX4_rowAt l D ad ci A σ x4 _ hR  h) (cwV 1 hts gX4_longestAt_X4_rowAt rfl rfl rfl ddX4_rowAt ⟨Nat.le_of_ble_eq_true rfl, Nat.le_of_ble_eq_true rfl⟩) (w_preV (o := 5) (ci := 4) (ob := obC ad ci) (σ := σ) hK hY (by decide) obC_list rfl rfl) rfl rfl hl.1 rfl (lv_room (Nat.le_of_ble_eq_true rfl)) dX4_longestAt_19 ⟨Nat.zero_le _, Nat.zero_le _⟩) hY (fun r_2 H locs h hY => ?_)
      obtain ⟨rr_2, h⟩ := h
      refine w_callip (rest := []) (va_runV (As := [.int x2, .ref (ad r_2)]) (rest := []) C0 (mX2_hasAt l D ad ci A σ x1 x2 r_2 _ hR rx1 rr_2 h) (cwV 2 hts gX4_longestAt_X2_hasAt rfl rfl rfl ddX2_hasAt ⟨Nat.le_of_ble_eq_true rfl, Nat.le_of_ble_eq_true rfl⟩) (w_preV (o := x1) (ci := 2) (ob := obC ad ci) (σ := σ) hK hY (rowB_lt rx1) (obC_row rx1) rfl rfl) rfl rfl hl.1 rfl (lv_room (Nat.le_of_ble_eq_true rfl)) dX4_longestAt_22 ⟨Nat.zero_le _, Nat.zero_le _⟩) hY (fun r_3 H locs h hY => ?_)
      obtain ⟨n_r_3, h⟩ := h
      refine lv_if_eq (tgt := 42) hx hb dX4_longestAt_25 (by decide) (fun c_4 => ?_) (fun c_4 => ?_)
      · have h := h.1 c_4
        refine lv_iinc (v := (x4 + 1)) (lv' := [(4, .int (x4 + 1)), (0, .ref (ad 5)), (1, .ref (ad x1)), (2, .int x2), (3, .int x3)]) hx hb dX4_longestAt_42 hl (k := 4) rfl rfl (by decide) rfl (fun ls hl => ?_)
        refine lv_goto (tgt := 5) hx hb dX4_longestAt_45 (by decide) ?_
        exact ih x3 (x4 + 1) h _ _ hY hR  _ (lv_sub hl [1, 2, 3, 4, 0] rfl)
      · have h := h.2 c_4
        refine lv_iload_n hx hb dX4_longestAt_28 rfl (lv_at hl 3 rfl) ?_
        refine lv_aload_n hx hb dX4_longestAt_29 rfl (lv_at hl 0 rfl) ?_
        refine lv_iload hx hb dX4_longestAt_30 (lv_at hl 4 rfl) ?_
        refine w_callrp (rest := [.int x3]) (va_runV (As := [.int x4]) (rest := [.int x3]) C0 (mX4_rowAt l D ad ci A σ x4 _ hR  h) (cwV 1 hts gX4_longestAt_X4_rowAt rfl rfl rfl ddX4_rowAt ⟨Nat.le_of_ble_eq_true rfl, Nat.le_of_ble_eq_true rfl⟩) (w_preV (o := 5) (ci := 4) (ob := obC ad ci) (σ := σ) hK hY (by decide) obC_list rfl rfl) rfl rfl hl.1 rfl (lv_room (Nat.le_of_ble_eq_true rfl)) dX4_longestAt_32 ⟨Nat.zero_le _, Nat.zero_le _⟩) hY (fun r_5 H locs h hY => ?_)
        obtain ⟨rr_5, h⟩ := h
        refine w_callip (rest := [.int x3]) (va_runV (As := []) (rest := [.int x3]) C0 (mX2_size l D ad ci A σ r_5 _ hR rr_5 h) (cwV 0 hts gX4_longestAt_X2_size rfl rfl rfl ddX2_size ⟨Nat.le_of_ble_eq_true rfl, Nat.le_of_ble_eq_true rfl⟩) (w_preV (o := r_5) (ci := 2) (ob := obC ad ci) (σ := σ) hK hY (rowB_lt rr_5) (obC_row rr_5) rfl rfl) rfl rfl hl.1 rfl (lv_room (Nat.le_of_ble_eq_true rfl)) dX4_longestAt_35 ⟨Nat.zero_le _, Nat.zero_le _⟩) hY (fun r_6 H locs h hY => ?_)
        refine va_mmax hx hb (hml.trans hl.1.symm) hown (hts _ kX4_longestAt_2) (hts _ kX4_longestAt_3) (hts _ kX4_longestAt_4) (hts _ kX4_longestAt_5) (Nat.le_of_ble_eq_true rfl) (Nat.le_of_ble_eq_true rfl) (Nat.zero_le _) (Nat.zero_le _) dX4_longestAt_38 ?_
        refine lv_topi (fun x3_7 e_x3_7 => ?_)
        have h := h x3_7 e_x3_7
        refine lv_istore_n (lv' := [(3, .int x3_7), (0, .ref (ad 5)), (1, .ref (ad x1)), (2, .int x2), (4, .int x4)]) hx hb dX4_longestAt_41 rfl hl (by decide) rfl (fun ls hl => ?_)
        refine lv_iinc (v := (x4 + 1)) (lv' := [(4, .int (x4 + 1)), (3, .int x3_7), (0, .ref (ad 5)), (1, .ref (ad x1)), (2, .int x2)]) hx hb dX4_longestAt_42 hl (k := 4) rfl rfl (by decide) rfl (fun ls hl => ?_)
        refine lv_goto (tgt := 5) hx hb dX4_longestAt_45 (by decide) ?_
        exact ih x3_7 (x4 + 1) h _ _ hY hR  _ (lv_sub hl [2, 3, 4, 1, 0] rfl)
set_option maxHeartbeats 4000000 in
set_option maxRecDepth 100000 in
theorem eX4_longestAt (C0 : CallFix p m c cX4_longestAt 5 s args wsX4_longestAt RX4) (hK : Kx D (tyC ci) s) (K : Int32 → Prop) (σ : St) (hret : ∀ (r : Int32) (H : Heap) (locs : List Loc) (pc : Nat) (ls : Array Slot), K r → Sy D 132 ad A H0 (obC ad ci σ) H locs → decode cX4_longestAt pc = .ok (.ireturn, 1) → W p l e rmX4_longestAt s m args below meth c H locs 0 0 Q (F0 m pc ls [.int r])) (x1 : Nat) (x2 : Int32) (rx1 : rowB x1 = true) (h : wX4_longestAt σ x1 x2 K) (H : Heap) (locs : List Loc) (hY : Sy D 132 ad A H0 (obC ad ci σ) H locs) (hR : Rok σ) (ls : Array Slot) (hl : lv_has ls 5 [(0, .ref (ad 5)), (1, .ref (ad x1)), (2, .int x2)]) : W p l e rmX4_longestAt s m args below meth c H locs 0 0 Q (F0 m 0 ls []) := by
  obtain ⟨hx, hb, hml, hown, hts⟩ := id C0
  refine lv_iconst (v := (0 : Int32)) hx hb dX4_longestAt_0 (by decide) ?_
  refine lv_istore_n (lv' := [(3, .int (0 : Int32)), (0, .ref (ad 5)), (1, .ref (ad x1)), (2, .int x2)]) hx hb dX4_longestAt_1 rfl hl (by decide) rfl (fun ls hl => ?_)
  refine lv_iconst (v := (0 : Int32)) hx hb dX4_longestAt_2 (by decide) ?_
  refine lv_istore (lv' := [(4, .int (0 : Int32)), (3, .int (0 : Int32)), (0, .ref (ad 5)), (1, .ref (ad x1)), (2, .int x2)]) hx hb dX4_longestAt_3 hl (by decide) rfl (fun ls hl => ?_)
  obtain ⟨n_8, h⟩ := h
  exact tX4_longestAt_L5 C0 hK K σ x1 x2 hret rx1 n_8 (0 : Int32) (0 : Int32) h _ _ hY hR  _ (lv_sub hl [2, 3, 4, 1, 0] rfl)
set_option maxHeartbeats 4000000 in
set_option maxRecDepth 100000 in
theorem mX4_longestAt (l : Launch) (D : va_G) (ad : Nat → Nat) (ci : Nat → ClassId) (A : Nat → Prop) (σ : St) (x1 : Nat) (x2 : Int32) (K : Int32 → Prop) (hR : Rok σ) (rx1 : rowB x1 = true) (h : wX4_longestAt σ x1 x2 K) : Met l yX4_longestAt wsX4_longestAt rmX4_longestAt (va_Pc [.ref (ad 5), .ref (ad x1), .int x2] (PreW D 132 ad A (tyC ci) (obC ad ci σ))) (va_Qi (fun r (_ : Unit) => K r) (fun _ => (PostW D 132 ad (tyC ci) (obC ad ci) Rok σ)) A) 0 0 A := by
  refine Met.ofW (cc := cX4_longestAt) (maxL := 5) (ret := (some .int)) (by decide) rfl ?_
  intro p e s m args below meth c s₁ B hml hv
  obtain ⟨rfl, hP, hK, hD⟩ := hv
  have C0 : CallFix p m c cX4_longestAt 5 s _ wsX4_longestAt RX4 := ⟨B.exec, B.bytes, hml, findClass_of_methodNamed B.named, atoms_spec (ws := wsX4_longestAt) B.pre⟩
  have hlocks := B.notSynchronized
  have hY : Sy D 132 ad A s.heap (obC ad ci σ) s.heap [] := ⟨hP, hD, va_S.rf⟩
  have hl := lv_entry ([.ref (ad 5), .ref (ad x1), .int x2]) (n := 5) (Nat.le_of_ble_eq_true rfl)
  rw [lg_entry_eq]
  generalize (lg_sl ([.ref (ad 5), .ref (ad x1), .int x2]) ++ List.replicate (5 - (lg_sl ([.ref (ad 5), .ref (ad x1), .int x2])).length) Slot.unset).toArray = ls at hl ⊢
  exact eX4_longestAt C0 hK K σ (fun r H locs pc ls hk hY hd => w_iret (I := Rok) B.exec B.bytes B.returns hlocks (u := ()) hK hk (fun t ht => ht) hY hR hd) x1 x2 rx1 h _ _ hY hR ls hl
set_option maxHeartbeats 4000000 in
set_option maxRecDepth 100000 in
theorem tX4_mostCommon_L4 (C0 : CallFix p m c cX4_mostCommon 4 s args wsX4_mostCommon RX4) (hK : Kx D (tyC ci) s) (K : Int32 → Prop) (σ : St) (x1 : Nat) (hret : ∀ (r : Int32) (H : Heap) (locs : List Loc) (pc : Nat) (ls : Array Slot), K r → Sy D 132 ad A H0 (obC ad ci σ) H locs → decode cX4_mostCommon pc = .ok (.ireturn, 1) → W p l e rmX4_mostCommon s m args below meth c H locs 0 0 Q (F0 m pc ls [.int r])) (rx1 : rowB x1 = true) : ∀ (n : Nat) (x2 : Int32) (x3 : Int32), wX4_mostCommon_L4 K σ x1 n x2 x3 → ∀ (H : Heap) (locs : List Loc), Sy D 132 ad A H0 (obC ad ci σ) H locs → Rok σ → ∀ ls : Array Slot, lv_has ls 4 [(0, .ref (ad 5)), (1, .ref (ad x1)), (2, .int x2), (3, .int x3)] → W p l e rmX4_mostCommon s m args below meth c H locs 0 0 Q (F0 m 4 ls []) := by
  obtain ⟨hx, hb, hml, hown, hts⟩ := id C0
  intro n
  induction n with
  | zero =>
    intro x2 x3 h
    exact h.elim
  | succ n ih =>
    intro x2 x3 h H locs hY hR  ls hl
    refine lv_iload_n hx hb dX4_mostCommon_4 rfl (lv_at hl 3 rfl) ?_
    refine lv_aload_n hx hb dX4_mostCommon_5 rfl (lv_at hl 0 rfl) ?_
    refine w_get (o := 5) (ci := 4) (C := RX4) (T := TX4) (N1 := 4) (v := .int (gI σ 5)) hx hb hts kX4_mostCommon_inX4 hown hK.1 hY (by decide) obC_list rfl 3 (by decide) (hts _ kX4_mostCommon_0) rfl rfl dX4_mostCommon_6 ?_
    refine lv_icmp_ge (tgt := 32) hx hb dX4_mostCommon_9 (by decide) (fun c_1 => ?_) (fun c_1 => ?_)
    · have h := h.1 c_1
      refine lv_iload_n hx hb dX4_mostCommon_32 rfl (lv_at hl 2 rfl) ?_
      exact hret x2 _ _ _ _ h hY dX4_mostCommon_33
    · have h := h.2 c_1
      refine lv_iload_n hx hb dX4_mostCommon_12 rfl (lv_at hl 2 rfl) ?_
      refine lv_aload_n hx hb dX4_mostCommon_13 rfl (lv_at hl 1 rfl) ?_
      refine lv_aload_n hx hb dX4_mostCommon_14 rfl (lv_at hl 0 rfl) ?_
      refine lv_iload_n hx hb dX4_mostCommon_15 rfl (lv_at hl 3 rfl) ?_
      refine w_callrp (rest := [.ref (ad x1), .int x2]) (va_runV (As := [.int x3]) (rest := [.ref (ad x1), .int x2]) C0 (mX4_rowAt l D ad ci A σ x3 _ hR  h) (cwV 1 hts gX4_mostCommon_X4_rowAt rfl rfl rfl ddX4_rowAt ⟨Nat.le_of_ble_eq_true rfl, Nat.le_of_ble_eq_true rfl⟩) (w_preV (o := 5) (ci := 4) (ob := obC ad ci) (σ := σ) hK hY (by decide) obC_list rfl rfl) rfl rfl hl.1 rfl (lv_room (Nat.le_of_ble_eq_true rfl)) dX4_mostCommon_16 ⟨Nat.zero_le _, Nat.zero_le _⟩) hY (fun r_2 H locs h hY => ?_)
      obtain ⟨rr_2, h⟩ := h
      refine w_callip (rest := [.int x2]) (va_runV (As := [.ref (ad r_2)]) (rest := [.int x2]) C0 (mX2_common l D ad ci A σ x1 r_2 _ hR rx1 rr_2 h) (cwV 1 hts gX4_mostCommon_X2_common rfl rfl rfl ddX2_common ⟨Nat.le_of_ble_eq_true rfl, Nat.le_of_ble_eq_true rfl⟩) (w_preV (o := x1) (ci := 2) (ob := obC ad ci) (σ := σ) hK hY (rowB_lt rx1) (obC_row rx1) rfl rfl) rfl rfl hl.1 rfl (lv_room (Nat.le_of_ble_eq_true rfl)) dX4_mostCommon_19 ⟨Nat.zero_le _, Nat.zero_le _⟩) hY (fun r_3 H locs h hY => ?_)
      refine va_mmax hx hb (hml.trans hl.1.symm) hown (hts _ kX4_mostCommon_2) (hts _ kX4_mostCommon_3) (hts _ kX4_mostCommon_4) (hts _ kX4_mostCommon_5) (Nat.le_of_ble_eq_true rfl) (Nat.le_of_ble_eq_true rfl) (Nat.zero_le _) (Nat.zero_le _) dX4_mostCommon_22 ?_
      refine lv_topi (fun x2_4 e_x2_4 => ?_)
      have h := h x2_4 e_x2_4
      refine lv_istore_n (lv' := [(2, .int x2_4), (0, .ref (ad 5)), (1, .ref (ad x1)), (3, .int x3)]) hx hb dX4_mostCommon_25 rfl hl (by decide) rfl (fun ls hl => ?_)
      refine lv_iinc (v := (x3 + 1)) (lv' := [(3, .int (x3 + 1)), (2, .int x2_4), (0, .ref (ad 5)), (1, .ref (ad x1))]) hx hb dX4_mostCommon_26 hl (k := 3) rfl rfl (by decide) rfl (fun ls hl => ?_)
      refine lv_goto (tgt := 4) hx hb dX4_mostCommon_29 (by decide) ?_
      exact ih x2_4 (x3 + 1) h _ _ hY hR  _ (lv_sub hl [2, 3, 1, 0] rfl)
set_option maxHeartbeats 4000000 in
set_option maxRecDepth 100000 in
theorem eX4_mostCommon (C0 : CallFix p m c cX4_mostCommon 4 s args wsX4_mostCommon RX4) (hK : Kx D (tyC ci) s) (K : Int32 → Prop) (σ : St) (hret : ∀ (r : Int32) (H : Heap) (locs : List Loc) (pc : Nat) (ls : Array Slot), K r → Sy D 132 ad A H0 (obC ad ci σ) H locs → decode cX4_mostCommon pc = .ok (.ireturn, 1) → W p l e rmX4_mostCommon s m args below meth c H locs 0 0 Q (F0 m pc ls [.int r])) (x1 : Nat) (rx1 : rowB x1 = true) (h : wX4_mostCommon σ x1 K) (H : Heap) (locs : List Loc) (hY : Sy D 132 ad A H0 (obC ad ci σ) H locs) (hR : Rok σ) (ls : Array Slot) (hl : lv_has ls 4 [(0, .ref (ad 5)), (1, .ref (ad x1))]) : W p l e rmX4_mostCommon s m args below meth c H locs 0 0 Q (F0 m 0 ls []) := by
  obtain ⟨hx, hb, hml, hown, hts⟩ := id C0
  refine lv_iconst (v := (0 : Int32)) hx hb dX4_mostCommon_0 (by decide) ?_
  refine lv_istore_n (lv' := [(2, .int (0 : Int32)), (0, .ref (ad 5)), (1, .ref (ad x1))]) hx hb dX4_mostCommon_1 rfl hl (by decide) rfl (fun ls hl => ?_)
  refine lv_iconst (v := (0 : Int32)) hx hb dX4_mostCommon_2 (by decide) ?_
  refine lv_istore_n (lv' := [(3, .int (0 : Int32)), (2, .int (0 : Int32)), (0, .ref (ad 5)), (1, .ref (ad x1))]) hx hb dX4_mostCommon_3 rfl hl (by decide) rfl (fun ls hl => ?_)
  obtain ⟨n_5, h⟩ := h
  exact tX4_mostCommon_L4 C0 hK K σ x1 hret rx1 n_5 (0 : Int32) (0 : Int32) h _ _ hY hR  _ (lv_sub hl [2, 3, 1, 0] rfl)
set_option maxHeartbeats 4000000 in
set_option maxRecDepth 100000 in
theorem mX4_mostCommon (l : Launch) (D : va_G) (ad : Nat → Nat) (ci : Nat → ClassId) (A : Nat → Prop) (σ : St) (x1 : Nat) (K : Int32 → Prop) (hR : Rok σ) (rx1 : rowB x1 = true) (h : wX4_mostCommon σ x1 K) : Met l yX4_mostCommon wsX4_mostCommon rmX4_mostCommon (va_Pc [.ref (ad 5), .ref (ad x1)] (PreW D 132 ad A (tyC ci) (obC ad ci σ))) (va_Qi (fun r (_ : Unit) => K r) (fun _ => (PostW D 132 ad (tyC ci) (obC ad ci) Rok σ)) A) 0 0 A := by
  refine Met.ofW (cc := cX4_mostCommon) (maxL := 4) (ret := (some .int)) (by decide) rfl ?_
  intro p e s m args below meth c s₁ B hml hv
  obtain ⟨rfl, hP, hK, hD⟩ := hv
  have C0 : CallFix p m c cX4_mostCommon 4 s _ wsX4_mostCommon RX4 := ⟨B.exec, B.bytes, hml, findClass_of_methodNamed B.named, atoms_spec (ws := wsX4_mostCommon) B.pre⟩
  have hlocks := B.notSynchronized
  have hY : Sy D 132 ad A s.heap (obC ad ci σ) s.heap [] := ⟨hP, hD, va_S.rf⟩
  have hl := lv_entry ([.ref (ad 5), .ref (ad x1)]) (n := 4) (Nat.le_of_ble_eq_true rfl)
  rw [lg_entry_eq]
  generalize (lg_sl ([.ref (ad 5), .ref (ad x1)]) ++ List.replicate (4 - (lg_sl ([.ref (ad 5), .ref (ad x1)])).length) Slot.unset).toArray = ls at hl ⊢
  exact eX4_mostCommon C0 hK K σ (fun r H locs pc ls hk hY hd => w_iret (I := Rok) B.exec B.bytes B.returns hlocks (u := ()) hK hk (fun t ht => ht) hY hR hd) x1 rx1 h _ _ hY hR ls hl
set_option maxHeartbeats 4000000 in
set_option maxRecDepth 100000 in
theorem tX4_mostCommonOfTwo_L16 (C0 : CallFix p m c cX4_mostCommonOfTwo 4 s args wsX4_mostCommonOfTwo RX4) (hK : Kx D (tyC ci) s) (K : Int32 → Prop) (B4 : Int32 → Int32 → Prop) (σ : St) (x2 : Int32) (hret : ∀ (r : Int32) (H : Heap) (locs : List Loc) (pc : Nat) (ls : Array Slot), K r → Sy D 132 ad A H0 (obC ad ci σ) H locs → decode cX4_mostCommonOfTwo pc = .ok (.ireturn, 1) → W p l e rmX4_mostCommonOfTwo s m args below meth c H locs 0 0 Q (F0 m pc ls [.int r])) (hB4 : ∀ (x1 : Int32) (x2 : Int32), B4 x1 x2 → ∀ (H : Heap) (locs : List Loc), Sy D 132 ad A H0 (obC ad ci σ) H locs → Rok σ → ∀ ls : Array Slot, lv_has ls 4 [(0, .ref (ad 5)), (1, .int x1), (2, .int x2)] → W p l e rmX4_mostCommonOfTwo s m args below meth c H locs 0 0 Q (F0 m 4 ls [])) : ∀ (n : Nat) (x1 : Int32) (x3 : Int32), wX4_mostCommonOfTwo_L16 K B4 σ x2 n x1 x3 → ∀ (H : Heap) (locs : List Loc), Sy D 132 ad A H0 (obC ad ci σ) H locs → Rok σ → ∀ ls : Array Slot, lv_has ls 4 [(0, .ref (ad 5)), (1, .int x1), (2, .int x2), (3, .int x3)] → W p l e rmX4_mostCommonOfTwo s m args below meth c H locs 0 0 Q (F0 m 16 ls []) := by
  obtain ⟨hx, hb, hml, hown, hts⟩ := id C0
  intro n
  induction n with
  | zero =>
    intro x1 x3 h
    exact h.elim
  | succ n ih =>
    intro x1 x3 h H locs hY hR  ls hl
    refine lv_iload_n hx hb dX4_mostCommonOfTwo_16 rfl (lv_at hl 3 rfl) ?_
    refine lv_aload_n hx hb dX4_mostCommonOfTwo_17 rfl (lv_at hl 0 rfl) ?_
    refine w_get (o := 5) (ci := 4) (C := RX4) (T := TX4) (N1 := 4) (v := .int (gI σ 5)) hx hb hts kX4_mostCommonOfTwo_inX4 hown hK.1 hY (by decide) obC_list rfl 3 (by decide) (hts _ kX4_mostCommonOfTwo_0) rfl rfl dX4_mostCommonOfTwo_18 ?_
    refine lv_icmp_ge (tgt := 48) hx hb dX4_mostCommonOfTwo_21 (by decide) (fun c_1 => ?_) (fun c_1 => ?_)
    · have h := h.1 c_1
      refine lv_iinc (v := (x2 + 1)) (lv' := [(2, .int (x2 + 1)), (0, .ref (ad 5)), (1, .int x1), (3, .int x3)]) hx hb dX4_mostCommonOfTwo_48 hl (k := 2) rfl rfl (by decide) rfl (fun ls hl => ?_)
      refine lv_goto (tgt := 4) hx hb dX4_mostCommonOfTwo_51 (by decide) ?_
      exact hB4 x1 (x2 + 1) h _ _ hY hR  _ (lv_sub hl [1, 2, 0] rfl)
    · have h := h.2 c_1
      refine lv_iload_n hx hb dX4_mostCommonOfTwo_24 rfl (lv_at hl 1 rfl) ?_
      refine lv_aload_n hx hb dX4_mostCommonOfTwo_25 rfl (lv_at hl 0 rfl) ?_
      refine lv_iload_n hx hb dX4_mostCommonOfTwo_26 rfl (lv_at hl 2 rfl) ?_
      refine w_callrp (rest := [.int x1]) (va_runV (As := [.int x2]) (rest := [.int x1]) C0 (mX4_rowAt l D ad ci A σ x2 _ hR  h) (cwV 1 hts gX4_mostCommonOfTwo_X4_rowAt rfl rfl rfl ddX4_rowAt ⟨Nat.le_of_ble_eq_true rfl, Nat.le_of_ble_eq_true rfl⟩) (w_preV (o := 5) (ci := 4) (ob := obC ad ci) (σ := σ) hK hY (by decide) obC_list rfl rfl) rfl rfl hl.1 rfl (lv_room (Nat.le_of_ble_eq_true rfl)) dX4_mostCommonOfTwo_27 ⟨Nat.zero_le _, Nat.zero_le _⟩) hY (fun r_2 H locs h hY => ?_)
      obtain ⟨rr_2, h⟩ := h
      refine lv_aload_n hx hb dX4_mostCommonOfTwo_30 rfl (lv_at hl 0 rfl) ?_
      refine lv_iload_n hx hb dX4_mostCommonOfTwo_31 rfl (lv_at hl 3 rfl) ?_
      refine w_callrp (rest := [.ref (ad r_2), .int x1]) (va_runV (As := [.int x3]) (rest := [.ref (ad r_2), .int x1]) C0 (mX4_rowAt l D ad ci A σ x3 _ hR  h) (cwV 1 hts gX4_mostCommonOfTwo_X4_rowAt rfl rfl rfl ddX4_rowAt ⟨Nat.le_of_ble_eq_true rfl, Nat.le_of_ble_eq_true rfl⟩) (w_preV (o := 5) (ci := 4) (ob := obC ad ci) (σ := σ) hK hY (by decide) obC_list rfl rfl) rfl rfl hl.1 rfl (lv_room (Nat.le_of_ble_eq_true rfl)) dX4_mostCommonOfTwo_32 ⟨Nat.zero_le _, Nat.zero_le _⟩) hY (fun r_3 H locs h hY => ?_)
      obtain ⟨rr_3, h⟩ := h
      refine w_callip (rest := [.int x1]) (va_runV (As := [.ref (ad r_3)]) (rest := [.int x1]) C0 (mX2_common l D ad ci A σ r_2 r_3 _ hR rr_2 rr_3 h) (cwV 1 hts gX4_mostCommonOfTwo_X2_common rfl rfl rfl ddX2_common ⟨Nat.le_of_ble_eq_true rfl, Nat.le_of_ble_eq_true rfl⟩) (w_preV (o := r_2) (ci := 2) (ob := obC ad ci) (σ := σ) hK hY (rowB_lt rr_2) (obC_row rr_2) rfl rfl) rfl rfl hl.1 rfl (lv_room (Nat.le_of_ble_eq_true rfl)) dX4_mostCommonOfTwo_35 ⟨Nat.zero_le _, Nat.zero_le _⟩) hY (fun r_4 H locs h hY => ?_)
      refine va_mmax hx hb (hml.trans hl.1.symm) hown (hts _ kX4_mostCommonOfTwo_2) (hts _ kX4_mostCommonOfTwo_3) (hts _ kX4_mostCommonOfTwo_4) (hts _ kX4_mostCommonOfTwo_5) (Nat.le_of_ble_eq_true rfl) (Nat.le_of_ble_eq_true rfl) (Nat.zero_le _) (Nat.zero_le _) dX4_mostCommonOfTwo_38 ?_
      refine lv_topi (fun x1_5 e_x1_5 => ?_)
      have h := h x1_5 e_x1_5
      refine lv_istore_n (lv' := [(1, .int x1_5), (0, .ref (ad 5)), (2, .int x2), (3, .int x3)]) hx hb dX4_mostCommonOfTwo_41 rfl hl (by decide) rfl (fun ls hl => ?_)
      refine lv_iinc (v := (x3 + 1)) (lv' := [(3, .int (x3 + 1)), (1, .int x1_5), (0, .ref (ad 5)), (2, .int x2)]) hx hb dX4_mostCommonOfTwo_42 hl (k := 3) rfl rfl (by decide) rfl (fun ls hl => ?_)
      refine lv_goto (tgt := 16) hx hb dX4_mostCommonOfTwo_45 (by decide) ?_
      exact ih x1_5 (x3 + 1) h _ _ hY hR  _ (lv_sub hl [2, 1, 3, 0] rfl)
set_option maxHeartbeats 4000000 in
set_option maxRecDepth 100000 in
theorem tX4_mostCommonOfTwo_L4 (C0 : CallFix p m c cX4_mostCommonOfTwo 4 s args wsX4_mostCommonOfTwo RX4) (hK : Kx D (tyC ci) s) (K : Int32 → Prop) (σ : St) (hret : ∀ (r : Int32) (H : Heap) (locs : List Loc) (pc : Nat) (ls : Array Slot), K r → Sy D 132 ad A H0 (obC ad ci σ) H locs → decode cX4_mostCommonOfTwo pc = .ok (.ireturn, 1) → W p l e rmX4_mostCommonOfTwo s m args below meth c H locs 0 0 Q (F0 m pc ls [.int r])) : ∀ (n : Nat) (x1 : Int32) (x2 : Int32), wX4_mostCommonOfTwo_L4 K σ n x1 x2 → ∀ (H : Heap) (locs : List Loc), Sy D 132 ad A H0 (obC ad ci σ) H locs → Rok σ → ∀ ls : Array Slot, lv_has ls 4 [(0, .ref (ad 5)), (1, .int x1), (2, .int x2)] → W p l e rmX4_mostCommonOfTwo s m args below meth c H locs 0 0 Q (F0 m 4 ls []) := by
  obtain ⟨hx, hb, hml, hown, hts⟩ := id C0
  intro n
  induction n with
  | zero =>
    intro x1 x2 h
    exact h.elim
  | succ n ih =>
    intro x1 x2 h H locs hY hR  ls hl
    refine lv_iload_n hx hb dX4_mostCommonOfTwo_4 rfl (lv_at hl 2 rfl) ?_
    refine lv_aload_n hx hb dX4_mostCommonOfTwo_5 rfl (lv_at hl 0 rfl) ?_
    refine w_get (o := 5) (ci := 4) (C := RX4) (T := TX4) (N1 := 4) (v := .int (gI σ 5)) hx hb hts kX4_mostCommonOfTwo_inX4 hown hK.1 hY (by decide) obC_list rfl 3 (by decide) (hts _ kX4_mostCommonOfTwo_0) rfl rfl dX4_mostCommonOfTwo_6 ?_
    refine lv_icmp_ge (tgt := 54) hx hb dX4_mostCommonOfTwo_9 (by decide) (fun c_6 => ?_) (fun c_6 => ?_)
    · have h := h.1 c_6
      refine lv_iload_n hx hb dX4_mostCommonOfTwo_54 rfl (lv_at hl 1 rfl) ?_
      exact hret x1 _ _ _ _ h hY dX4_mostCommonOfTwo_55
    · have h := h.2 c_6
      refine lv_iload_n hx hb dX4_mostCommonOfTwo_12 rfl (lv_at hl 2 rfl) ?_
      refine lv_iconst (v := (1 : Int32)) hx hb dX4_mostCommonOfTwo_13 (by decide) ?_
      refine lv_iadd hx hb dX4_mostCommonOfTwo_14 ?_
      refine lv_istore_n (lv' := [(3, .int (x2 + (1 : Int32))), (0, .ref (ad 5)), (1, .int x1), (2, .int x2)]) hx hb dX4_mostCommonOfTwo_15 rfl hl (by decide) rfl (fun ls hl => ?_)
      obtain ⟨n_7, h⟩ := h
      exact tX4_mostCommonOfTwo_L16 C0 hK K (wX4_mostCommonOfTwo_L4 K σ n) σ x2 hret ih n_7 x1 (x2 + (1 : Int32)) h _ _ hY hR  _ (lv_sub hl [1, 2, 3, 0] rfl)
set_option maxHeartbeats 4000000 in
set_option maxRecDepth 100000 in
theorem eX4_mostCommonOfTwo (C0 : CallFix p m c cX4_mostCommonOfTwo 4 s args wsX4_mostCommonOfTwo RX4) (hK : Kx D (tyC ci) s) (K : Int32 → Prop) (σ : St) (hret : ∀ (r : Int32) (H : Heap) (locs : List Loc) (pc : Nat) (ls : Array Slot), K r → Sy D 132 ad A H0 (obC ad ci σ) H locs → decode cX4_mostCommonOfTwo pc = .ok (.ireturn, 1) → W p l e rmX4_mostCommonOfTwo s m args below meth c H locs 0 0 Q (F0 m pc ls [.int r])) (h : wX4_mostCommonOfTwo σ K) (H : Heap) (locs : List Loc) (hY : Sy D 132 ad A H0 (obC ad ci σ) H locs) (hR : Rok σ) (ls : Array Slot) (hl : lv_has ls 4 [(0, .ref (ad 5))]) : W p l e rmX4_mostCommonOfTwo s m args below meth c H locs 0 0 Q (F0 m 0 ls []) := by
  obtain ⟨hx, hb, hml, hown, hts⟩ := id C0
  refine lv_iconst (v := (0 : Int32)) hx hb dX4_mostCommonOfTwo_0 (by decide) ?_
  refine lv_istore_n (lv' := [(1, .int (0 : Int32)), (0, .ref (ad 5))]) hx hb dX4_mostCommonOfTwo_1 rfl hl (by decide) rfl (fun ls hl => ?_)
  refine lv_iconst (v := (0 : Int32)) hx hb dX4_mostCommonOfTwo_2 (by decide) ?_
  refine lv_istore_n (lv' := [(2, .int (0 : Int32)), (1, .int (0 : Int32)), (0, .ref (ad 5))]) hx hb dX4_mostCommonOfTwo_3 rfl hl (by decide) rfl (fun ls hl => ?_)
  obtain ⟨n_8, h⟩ := h
  exact tX4_mostCommonOfTwo_L4 C0 hK K σ hret n_8 (0 : Int32) (0 : Int32) h _ _ hY hR  _ (lv_sub hl [2, 1, 0] rfl)
set_option maxHeartbeats 4000000 in
set_option maxRecDepth 100000 in
theorem mX4_mostCommonOfTwo (l : Launch) (D : va_G) (ad : Nat → Nat) (ci : Nat → ClassId) (A : Nat → Prop) (σ : St) (K : Int32 → Prop) (hR : Rok σ) (h : wX4_mostCommonOfTwo σ K) : Met l yX4_mostCommonOfTwo wsX4_mostCommonOfTwo rmX4_mostCommonOfTwo (va_Pc [.ref (ad 5)] (PreW D 132 ad A (tyC ci) (obC ad ci σ))) (va_Qi (fun r (_ : Unit) => K r) (fun _ => (PostW D 132 ad (tyC ci) (obC ad ci) Rok σ)) A) 0 0 A := by
  refine Met.ofW (cc := cX4_mostCommonOfTwo) (maxL := 4) (ret := (some .int)) (by decide) rfl ?_
  intro p e s m args below meth c s₁ B hml hv
  obtain ⟨rfl, hP, hK, hD⟩ := hv
  have C0 : CallFix p m c cX4_mostCommonOfTwo 4 s _ wsX4_mostCommonOfTwo RX4 := ⟨B.exec, B.bytes, hml, findClass_of_methodNamed B.named, atoms_spec (ws := wsX4_mostCommonOfTwo) B.pre⟩
  have hlocks := B.notSynchronized
  have hY : Sy D 132 ad A s.heap (obC ad ci σ) s.heap [] := ⟨hP, hD, va_S.rf⟩
  have hl := lv_entry ([.ref (ad 5)]) (n := 4) (Nat.le_of_ble_eq_true rfl)
  rw [lg_entry_eq]
  generalize (lg_sl ([.ref (ad 5)]) ++ List.replicate (4 - (lg_sl ([.ref (ad 5)])).length) Slot.unset).toArray = ls at hl ⊢
  exact eX4_mostCommonOfTwo C0 hK K σ (fun r H locs pc ls hk hY hd => w_iret (I := Rok) B.exec B.bytes B.returns hlocks (u := ()) hK hk (fun t ht => ht) hY hR hd) h _ _ hY hR ls hl
end
