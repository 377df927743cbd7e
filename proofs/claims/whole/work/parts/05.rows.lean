/-! rows: what each method does, as predicates over the state; the walks of their bytecode -/
def wX2_size (σ : St) (x0 : Nat) (K : Int32 → Prop) : Prop := K (gI σ x0)
def wX2_at (σ : St) (x0 : Nat) (x1 : Int32) (K : Int32 → Prop) : Prop := ((x1 < 0 → K (0 : Int32)) ∧ (¬ x1 < 0 → (((gI σ x0) ≤ x1 → K (0 : Int32)) ∧ (¬ (gI σ x0) ≤ x1 → vp_in x1 (capC x0) ∧ (narrow .char (.int (gA σ x0 (x1).toNatClampNeg)) = .int (gA σ x0 (x1).toNatClampNeg) ∧ (K (gA σ x0 (x1).toNatClampNeg)))))))
def wX2_clear (σ : St) (x0 : Nat) (K : St → Prop) : Prop := ∀ σ_1 : St, σ_1 = pI σ x0 (0 : Int32) → K σ_1
def wX2_append (σ : St) (x0 : Nat) (x1 : Int32) (K : St → Prop) : Prop := (((nI (capC x0)) ≤ (gI σ x0) → K σ) ∧ (¬ (nI (capC x0)) ≤ (gI σ x0) → vp_in (gI σ x0) (capC x0) ∧ (∀ σ_3 : St, σ_3 = pA σ x0 ((gI σ x0)).toNatClampNeg (vp_nar .char x1) → ∀ σ_4 : St, σ_4 = pI σ_3 x0 ((gI σ_3 x0) + (1 : Int32)) → K σ_4)))
def wX2_appendAll_L2 (K : St → Prop) (x0 : Nat) (x1 : Nat) : Nat → St → Int32 → Prop
  | 0, _, _ => False
  | n + 1, σ, x2 => (((gI σ x1) ≤ x2 → K σ) ∧ (¬ (gI σ x1) ≤ x2 → vp_in x2 (capC x1) ∧ (wX2_append σ x0 (gA σ x1 (x2).toNatClampNeg) (fun σ_4 => wX2_appendAll_L2 K x0 x1 n σ_4 (x2 + 1)))))
def wX2_appendAll (σ : St) (x0 : Nat) (x1 : Nat) (K : St → Prop) : Prop := (∃ n : Nat, wX2_appendAll_L2 K x0 x1 n σ (0 : Int32))
def wX2_insert_L30 (K : St → Prop) (x0 : Nat) (x1 : Int32) (x2 : Int32) : Nat → St → Int32 → Prop
  | 0, _, _ => False
  | n + 1, σ, x3 => ((x3 ≤ x1 → vp_in x1 (capC x0) ∧ (∀ σ_3 : St, σ_3 = pA σ x0 (x1).toNatClampNeg (vp_nar .char x2) → ∀ σ_4 : St, σ_4 = pI σ_3 x0 ((gI σ_3 x0) + (1 : Int32)) → K σ_4)) ∧ (¬ x3 ≤ x1 → vp_in (x3 - (1 : Int32)) (capC x0) ∧ (vp_in x3 (capC x0) ∧ (∀ σ_7 : St, σ_7 = pA σ x0 (x3).toNatClampNeg (vp_nar .char (gA σ x0 ((x3 - (1 : Int32))).toNatClampNeg)) → wX2_insert_L30 K x0 x1 x2 n σ_7 (x3 + (-1))))))
def wX2_insert (σ : St) (x0 : Nat) (x1 : Int32) (x2 : Int32) (K : St → Prop) : Prop := ((x1 < 0 → K σ) ∧ (¬ x1 < 0 → (((gI σ x0) < x1 → K σ) ∧ (¬ (gI σ x0) < x1 → (((gI σ x0) < (nI (capC x0)) → ∀ x3_11 : Int32, x3_11 = (gI σ x0) → (∃ n : Nat, wX2_insert_L30 K x0 x1 x2 n σ x3_11)) ∧ (¬ (gI σ x0) < (nI (capC x0)) → K σ))))))
def wX2_removePart_L25 (K : St → Prop) (x0 : Nat) (x3 : Int32) : Nat → St → Int32 → Prop
  | 0, _, _ => False
  | n + 1, σ, x4 => (((gI σ x0) ≤ x4 → ∀ σ_2 : St, σ_2 = pI σ x0 ((gI σ x0) - x3) → K σ_2) ∧ (¬ (gI σ x0) ≤ x4 → vp_in x4 (capC x0) ∧ (vp_in (x4 - x3) (capC x0) ∧ (∀ σ_5 : St, σ_5 = pA σ x0 ((x4 - x3)).toNatClampNeg (vp_nar .char (gA σ x0 (x4).toNatClampNeg)) → wX2_removePart_L25 K x0 x3 n σ_5 (x4 + 1)))))
def wX2_removePart (σ : St) (x0 : Nat) (x1 : Int32) (x2 : Int32) (K : St → Prop) : Prop := ((x1 < 0 → K σ) ∧ (¬ x1 < 0 → ((x2 < x1 → K σ) ∧ (¬ x2 < x1 → ((x2 ≤ (gI σ x0) → (∃ n : Nat, wX2_removePart_L25 K x0 (x2 - x1) n σ x2)) ∧ (¬ x2 ≤ (gI σ x0) → K σ))))))
def wX2_reverse_J51 (K : Int32 → St → Prop) (B4 : St → Int32 → Int32 → Prop) (σ : St) (x0 : Nat) (x2 : Int32) (x3 : Int32) (x4 : Int32) (s0 : Int32) : Prop := vp_in x3 (capC x0) ∧ (vp_in x2 (capC x0) ∧ (∀ σ_3 : St, σ_3 = pA σ x0 (x2).toNatClampNeg (vp_nar .char (gA σ x0 (x3).toNatClampNeg)) → vp_in x3 (capC x0) ∧ (∀ σ_5 : St, σ_5 = pA σ_3 x0 (x3).toNatClampNeg (vp_nar .char x4) → B4 σ_5 s0 (x2 + 1))))
def wX2_reverse_J50 (K : Int32 → St → Prop) (B4 : St → Int32 → Int32 → Prop) (σ : St) (x0 : Nat) (x2 : Int32) (x3 : Int32) (x4 : Int32) : Prop := wX2_reverse_J51 K B4 σ x0 x2 x3 x4 (0 : Int32)
def wX2_reverse_L4 (K : Int32 → St → Prop) (x0 : Nat) : Nat → St → Int32 → Int32 → Prop
  | 0, _, _, _ => False
  | n + 1, σ, x1, x2 => ((((gI σ x0) / (2 : Int32)) ≤ x2 → narrow .boolean (.int x1) = .int x1 ∧ (K x1 σ)) ∧ (¬ ((gI σ x0) / (2 : Int32)) ≤ x2 → ∀ x3_7 : Int32, x3_7 = (((gI σ x0) - (1 : Int32)) - x2) → vp_in x2 (capC x0) ∧ (∀ x4_9 : Int32, x4_9 = (gA σ x0 (x2).toNatClampNeg) → ((x1 = 0 → wX2_reverse_J50 K (wX2_reverse_L4 K x0 n) σ x0 x2 x3_7 x4_9) ∧ (¬ x1 = 0 → vp_in x3_7 (capC x0) ∧ (((x4_9 = (gA σ x0 (x3_7).toNatClampNeg) → wX2_reverse_J51 K (wX2_reverse_L4 K x0 n) σ x0 x2 x3_7 x4_9 (1 : Int32)) ∧ (¬ x4_9 = (gA σ x0 (x3_7).toNatClampNeg) → wX2_reverse_J50 K (wX2_reverse_L4 K x0 n) σ x0 x2 x3_7 x4_9))))))))
def wX2_reverse (σ : St) (x0 : Nat) (K : Int32 → St → Prop) : Prop := (∃ n : Nat, wX2_reverse_L4 K x0 n σ (1 : Int32) (0 : Int32))
def wX2_becomePart_L7 (K : St → Prop) (x0 : Nat) (x1 : Nat) (x3 : Int32) : Nat → St → Int32 → Prop
  | 0, _, _ => False
  | n + 1, σ, x4 => ((x3 ≤ x4 → K σ) ∧ (¬ x3 ≤ x4 → wX2_at σ x1 x4 (fun r_2 => wX2_append σ x0 r_2 (fun σ_4 => wX2_becomePart_L7 K x0 x1 x3 n σ_4 (x4 + 1)))))
def wX2_becomePart (σ : St) (x0 : Nat) (x1 : Nat) (x2 : Int32) (x3 : Int32) (K : St → Prop) : Prop := wX2_clear σ x0 (fun σ_6 => (∃ n : Nat, wX2_becomePart_L7 K x0 x1 x3 n σ_6 x2))
def wX2_become (σ : St) (x0 : Nat) (x1 : Nat) (K : St → Prop) : Prop := wX2_becomePart σ x0 x1 (0 : Int32) (gI σ x1) (fun σ_2 => K σ_2)
def wX2_common_L2 (K : Int32 → Prop) (σ : St) (x0 : Nat) (x1 : Nat) : Nat → Int32 → Prop
  | 0, _ => False
  | n + 1, x2 => (((gI σ x0) ≤ x2 → K x2) ∧ (¬ (gI σ x0) ≤ x2 → (((gI σ x1) ≤ x2 → K x2) ∧ (¬ (gI σ x1) ≤ x2 → vp_in x2 (capC x0) ∧ (vp_in x2 (capC x1) ∧ ((((gA σ x0 (x2).toNatClampNeg) = (gA σ x1 (x2).toNatClampNeg) → wX2_common_L2 K σ x0 x1 n (x2 + 1)) ∧ (¬ (gA σ x0 (x2).toNatClampNeg) = (gA σ x1 (x2).toNatClampNeg) → K x2))))))))
def wX2_common (σ : St) (x0 : Nat) (x1 : Nat) (K : Int32 → Prop) : Prop := (∃ n : Nat, wX2_common_L2 K σ x0 x1 n (0 : Int32))
def wX2_compareWith (σ : St) (x0 : Nat) (x1 : Nat) (K : Int32 → Prop) : Prop := wX2_common σ x0 x1 (fun r_1 => (((gI σ x0) ≤ r_1 → K ((gI σ x0) - (gI σ x1))) ∧ (¬ (gI σ x0) ≤ r_1 → (((gI σ x1) ≤ r_1 → K ((gI σ x0) - (gI σ x1))) ∧ (¬ (gI σ x1) ≤ r_1 → vp_in r_1 (capC x0) ∧ (vp_in r_1 (capC x1) ∧ (K ((gA σ x0 (r_1).toNatClampNeg) - (gA σ x1 (r_1).toNatClampNeg)))))))))
def wX2_hasAt_L29 (K : Int32 → Prop) (σ : St) (x0 : Nat) (x1 : Int32) (x2 : Nat) : Nat → Int32 → Prop
  | 0, _ => False
  | n + 1, x3 => (((gI σ x2) ≤ x3 → K (1 : Int32)) ∧ (¬ (gI σ x2) ≤ x3 → vp_in (x1 + x3) (capC x0) ∧ (vp_in x3 (capC x2) ∧ ((((gA σ x0 ((x1 + x3)).toNatClampNeg) = (gA σ x2 (x3).toNatClampNeg) → wX2_hasAt_L29 K σ x0 x1 x2 n (x3 + 1)) ∧ (¬ (gA σ x0 ((x1 + x3)).toNatClampNeg) = (gA σ x2 (x3).toNatClampNeg) → K (0 : Int32)))))))
def wX2_hasAt (σ : St) (x0 : Nat) (x1 : Int32) (x2 : Nat) (K : Int32 → Prop) : Prop := ((x1 < 0 → K (0 : Int32)) ∧ (¬ x1 < 0 → (((gI σ x0) < x1 → K (0 : Int32)) ∧ (¬ (gI σ x0) < x1 → (((gI σ x2) ≤ ((gI σ x0) - x1) → (∃ n : Nat, wX2_hasAt_L29 K σ x0 x1 x2 n (0 : Int32))) ∧ (¬ (gI σ x2) ≤ ((gI σ x0) - x1) → K (0 : Int32)))))))
def wX2_beginsWith (σ : St) (x0 : Nat) (x1 : Nat) (K : Int32 → Prop) : Prop := wX2_hasAt σ x0 (0 : Int32) x1 (fun r_1 => K r_1)
def wX2_addTo_L5 (K : Int64 → Prop) (σ : St) (x0 : Nat) : Nat → Int64 → Int32 → Prop
  | 0, _, _ => False
  | n + 1, x3, x5 => (((gI σ x0) ≤ x5 → K x3) ∧ (¬ (gI σ x0) ≤ x5 → vp_in x5 (capC x0) ∧ (∀ x3_3 : Int64, x3_3 = (((31 : Int64) * x3) + ((gA σ x0 (x5).toNatClampNeg)).toInt64) → wX2_addTo_L5 K σ x0 n x3_3 (x5 + 1))))
def wX2_addTo (σ : St) (x0 : Nat) (x1 : Int64) (K : Int64 → Prop) : Prop := (∃ n : Nat, wX2_addTo_L5 K σ x0 n x1 (0 : Int32))
abbrev rmX2_size : Room := { frames := 0, cells := 0, slots := 0, locals := 0 }
theorem ddX2_size : yX2_size.cls = RX2 ∧ yX2_size.cls ≠ "java/lang/invoke/MethodHandle" ∧ yX2_size.cls ≠ "java/lang/invoke/VarHandle" ∧ (parseMethodDescriptor yX2_size.desc).map (fun d => d.parameters.length) = some 0 := by decide +kernel
set_option maxRecDepth 20000 in
theorem kX2_size_0 : Cond.fieldLink RX2 21 "Stemspan$Row" "length" "I" ∈ wsX2_size := by decide +kernel
set_option maxRecDepth 20000 in
theorem kX2_size_inX2 : ∀ w ∈ wsX20, w ∈ wsX2_size := by decide +kernel
abbrev rmX2_at : Room := { frames := 0, cells := 0, slots := 0, locals := 0 }
theorem ddX2_at : yX2_at.cls = RX2 ∧ yX2_at.cls ≠ "java/lang/invoke/MethodHandle" ∧ yX2_at.cls ≠ "java/lang/invoke/VarHandle" ∧ (parseMethodDescriptor yX2_at.desc).map (fun d => d.parameters.length) = some 1 := by decide +kernel
set_option maxRecDepth 20000 in
theorem kX2_at_0 : Cond.fieldLink RX2 21 "Stemspan$Row" "length" "I" ∈ wsX2_at := by decide +kernel
set_option maxRecDepth 20000 in
theorem kX2_at_inX2 : ∀ w ∈ wsX20, w ∈ wsX2_at := by decide +kernel
set_option maxRecDepth 20000 in
theorem kX2_at_2 : Cond.fieldLink RX2 15 "Stemspan$Row" "signs" "[C" ∈ wsX2_at := by decide +kernel
abbrev rmX2_clear : Room := { frames := 0, cells := 0, slots := 0, locals := 0 }
theorem ddX2_clear : yX2_clear.cls = RX2 ∧ yX2_clear.cls ≠ "java/lang/invoke/MethodHandle" ∧ yX2_clear.cls ≠ "java/lang/invoke/VarHandle" ∧ (parseMethodDescriptor yX2_clear.desc).map (fun d => d.parameters.length) = some 0 := by decide +kernel
set_option maxRecDepth 20000 in
theorem kX2_clear_0 : Cond.fieldLink RX2 21 "Stemspan$Row" "length" "I" ∈ wsX2_clear := by decide +kernel
set_option maxRecDepth 20000 in
theorem kX2_clear_inX2 : ∀ w ∈ wsX20, w ∈ wsX2_clear := by decide +kernel
abbrev rmX2_append : Room := { frames := 0, cells := 0, slots := 0, locals := 0 }
theorem ddX2_append : yX2_append.cls = RX2 ∧ yX2_append.cls ≠ "java/lang/invoke/MethodHandle" ∧ yX2_append.cls ≠ "java/lang/invoke/VarHandle" ∧ (parseMethodDescriptor yX2_append.desc).map (fun d => d.parameters.length) = some 1 := by decide +kernel
set_option maxRecDepth 20000 in
theorem kX2_append_0 : Cond.fieldLink RX2 21 "Stemspan$Row" "length" "I" ∈ wsX2_append := by decide +kernel
set_option maxRecDepth 20000 in
theorem kX2_append_inX2 : ∀ w ∈ wsX20, w ∈ wsX2_append := by decide +kernel
set_option maxRecDepth 20000 in
theorem kX2_append_2 : Cond.fieldLink RX2 15 "Stemspan$Row" "signs" "[C" ∈ wsX2_append := by decide +kernel
abbrev rmX2_appendAll : Room := { frames := 1, cells := 0, slots := 0, locals := 21 }
theorem ddX2_appendAll : yX2_appendAll.cls = RX2 ∧ yX2_appendAll.cls ≠ "java/lang/invoke/MethodHandle" ∧ yX2_appendAll.cls ≠ "java/lang/invoke/VarHandle" ∧ (parseMethodDescriptor yX2_appendAll.desc).map (fun d => d.parameters.length) = some 1 := by decide +kernel
set_option maxRecDepth 20000 in
theorem kX2_appendAll_0 : Cond.fieldLink RX2 21 "Stemspan$Row" "length" "I" ∈ wsX2_appendAll := by decide +kernel
set_option maxRecDepth 20000 in
theorem kX2_appendAll_inX2 : ∀ w ∈ wsX20, w ∈ wsX2_appendAll := by decide +kernel
set_option maxRecDepth 20000 in
theorem kX2_appendAll_2 : Cond.fieldLink RX2 15 "Stemspan$Row" "signs" "[C" ∈ wsX2_appendAll := by decide +kernel
abbrev rmX2_insert : Room := { frames := 0, cells := 0, slots := 0, locals := 0 }
theorem ddX2_insert : yX2_insert.cls = RX2 ∧ yX2_insert.cls ≠ "java/lang/invoke/MethodHandle" ∧ yX2_insert.cls ≠ "java/lang/invoke/VarHandle" ∧ (parseMethodDescriptor yX2_insert.desc).map (fun d => d.parameters.length) = some 2 := by decide +kernel
set_option maxRecDepth 20000 in
theorem kX2_insert_0 : Cond.fieldLink RX2 15 "Stemspan$Row" "signs" "[C" ∈ wsX2_insert := by decide +kernel
set_option maxRecDepth 20000 in
theorem kX2_insert_inX2 : ∀ w ∈ wsX20, w ∈ wsX2_insert := by decide +kernel
set_option maxRecDepth 20000 in
theorem kX2_insert_2 : Cond.fieldLink RX2 21 "Stemspan$Row" "length" "I" ∈ wsX2_insert := by decide +kernel
abbrev rmX2_removePart : Room := { frames := 0, cells := 0, slots := 0, locals := 0 }
theorem ddX2_removePart : yX2_removePart.cls = RX2 ∧ yX2_removePart.cls ≠ "java/lang/invoke/MethodHandle" ∧ yX2_removePart.cls ≠ "java/lang/invoke/VarHandle" ∧ (parseMethodDescriptor yX2_removePart.desc).map (fun d => d.parameters.length) = some 2 := by decide +kernel
set_option maxRecDepth 20000 in
theorem kX2_removePart_0 : Cond.fieldLink RX2 21 "Stemspan$Row" "length" "I" ∈ wsX2_removePart := by decide +kernel
set_option maxRecDepth 20000 in
theorem kX2_removePart_inX2 : ∀ w ∈ wsX20, w ∈ wsX2_removePart := by decide +kernel
set_option maxRecDepth 20000 in
theorem kX2_removePart_2 : Cond.fieldLink RX2 15 "Stemspan$Row" "signs" "[C" ∈ wsX2_removePart := by decide +kernel
abbrev rmX2_reverse : Room := { frames := 0, cells := 0, slots := 0, locals := 0 }
theorem ddX2_reverse : yX2_reverse.cls = RX2 ∧ yX2_reverse.cls ≠ "java/lang/invoke/MethodHandle" ∧ yX2_reverse.cls ≠ "java/lang/invoke/VarHandle" ∧ (parseMethodDescriptor yX2_reverse.desc).map (fun d => d.parameters.length) = some 0 := by decide +kernel
set_option maxRecDepth 20000 in
theorem kX2_reverse_0 : Cond.fieldLink RX2 15 "Stemspan$Row" "signs" "[C" ∈ wsX2_reverse := by decide +kernel
set_option maxRecDepth 20000 in
theorem kX2_reverse_inX2 : ∀ w ∈ wsX20, w ∈ wsX2_reverse := by decide +kernel
set_option maxRecDepth 20000 in
theorem kX2_reverse_2 : Cond.fieldLink RX2 21 "Stemspan$Row" "length" "I" ∈ wsX2_reverse := by decide +kernel
abbrev rmX2_becomePart : Room := { frames := 1, cells := 0, slots := 0, locals := 21 }
theorem ddX2_becomePart : yX2_becomePart.cls = RX2 ∧ yX2_becomePart.cls ≠ "java/lang/invoke/MethodHandle" ∧ yX2_becomePart.cls ≠ "java/lang/invoke/VarHandle" ∧ (parseMethodDescriptor yX2_becomePart.desc).map (fun d => d.parameters.length) = some 3 := by decide +kernel
abbrev rmX2_become : Room := { frames := 2, cells := 0, slots := 0, locals := 45 }
theorem ddX2_become : yX2_become.cls = RX2 ∧ yX2_become.cls ≠ "java/lang/invoke/MethodHandle" ∧ yX2_become.cls ≠ "java/lang/invoke/VarHandle" ∧ (parseMethodDescriptor yX2_become.desc).map (fun d => d.parameters.length) = some 1 := by decide +kernel
set_option maxRecDepth 20000 in
theorem kX2_become_0 : Cond.fieldLink RX2 21 "Stemspan$Row" "length" "I" ∈ wsX2_become := by decide +kernel
set_option maxRecDepth 20000 in
theorem kX2_become_inX2 : ∀ w ∈ wsX20, w ∈ wsX2_become := by decide +kernel
abbrev rmX2_common : Room := { frames := 0, cells := 0, slots := 0, locals := 0 }
theorem ddX2_common : yX2_common.cls = RX2 ∧ yX2_common.cls ≠ "java/lang/invoke/MethodHandle" ∧ yX2_common.cls ≠ "java/lang/invoke/VarHandle" ∧ (parseMethodDescriptor yX2_common.desc).map (fun d => d.parameters.length) = some 1 := by decide +kernel
set_option maxRecDepth 20000 in
theorem kX2_common_0 : Cond.fieldLink RX2 21 "Stemspan$Row" "length" "I" ∈ wsX2_common := by decide +kernel
set_option maxRecDepth 20000 in
theorem kX2_common_inX2 : ∀ w ∈ wsX20, w ∈ wsX2_common := by decide +kernel
set_option maxRecDepth 20000 in
theorem kX2_common_2 : Cond.fieldLink RX2 15 "Stemspan$Row" "signs" "[C" ∈ wsX2_common := by decide +kernel
abbrev rmX2_compareWith : Room := { frames := 1, cells := 0, slots := 0, locals := 22 }
theorem ddX2_compareWith : yX2_compareWith.cls = RX2 ∧ yX2_compareWith.cls ≠ "java/lang/invoke/MethodHandle" ∧ yX2_compareWith.cls ≠ "java/lang/invoke/VarHandle" ∧ (parseMethodDescriptor yX2_compareWith.desc).map (fun d => d.parameters.length) = some 1 := by decide +kernel
set_option maxRecDepth 20000 in
theorem kX2_compareWith_0 : Cond.fieldLink RX2 21 "Stemspan$Row" "length" "I" ∈ wsX2_compareWith := by decide +kernel
set_option maxRecDepth 20000 in
theorem kX2_compareWith_inX2 : ∀ w ∈ wsX20, w ∈ wsX2_compareWith := by decide +kernel
set_option maxRecDepth 20000 in
theorem kX2_compareWith_2 : Cond.fieldLink RX2 15 "Stemspan$Row" "signs" "[C" ∈ wsX2_compareWith := by decide +kernel
abbrev rmX2_hasAt : Room := { frames := 0, cells := 0, slots := 0, locals := 0 }
theorem ddX2_hasAt : yX2_hasAt.cls = RX2 ∧ yX2_hasAt.cls ≠ "java/lang/invoke/MethodHandle" ∧ yX2_hasAt.cls ≠ "java/lang/invoke/VarHandle" ∧ (parseMethodDescriptor yX2_hasAt.desc).map (fun d => d.parameters.length) = some 2 := by decide +kernel
set_option maxRecDepth 20000 in
theorem kX2_hasAt_0 : Cond.fieldLink RX2 21 "Stemspan$Row" "length" "I" ∈ wsX2_hasAt := by decide +kernel
set_option maxRecDepth 20000 in
theorem kX2_hasAt_inX2 : ∀ w ∈ wsX20, w ∈ wsX2_hasAt := by decide +kernel
set_option maxRecDepth 20000 in
theorem kX2_hasAt_2 : Cond.fieldLink RX2 15 "Stemspan$Row" "signs" "[C" ∈ wsX2_hasAt := by decide +kernel
abbrev rmX2_beginsWith : Room := { frames := 1, cells := 0, slots := 0, locals := 23 }
theorem ddX2_beginsWith : yX2_beginsWith.cls = RX2 ∧ yX2_beginsWith.cls ≠ "java/lang/invoke/MethodHandle" ∧ yX2_beginsWith.cls ≠ "java/lang/invoke/VarHandle" ∧ (parseMethodDescriptor yX2_beginsWith.desc).map (fun d => d.parameters.length) = some 1 := by decide +kernel
abbrev rmX2_addTo : Room := { frames := 0, cells := 0, slots := 0, locals := 0 }
theorem ddX2_addTo : yX2_addTo.cls = RX2 ∧ yX2_addTo.cls ≠ "java/lang/invoke/MethodHandle" ∧ yX2_addTo.cls ≠ "java/lang/invoke/VarHandle" ∧ (parseMethodDescriptor yX2_addTo.desc).map (fun d => d.parameters.length) = some 1 := by decide +kernel
set_option maxRecDepth 20000 in
theorem kX2_addTo_0 : Cond.fieldLink RX2 21 "Stemspan$Row" "length" "I" ∈ wsX2_addTo := by decide +kernel
set_option maxRecDepth 20000 in
theorem kX2_addTo_inX2 : ∀ w ∈ wsX20, w ∈ wsX2_addTo := by decide +kernel
set_option maxRecDepth 20000 in
theorem kX2_addTo_2 : Cond.constantLong RX2 48 (31) ∈ wsX2_addTo := by decide +kernel
set_option maxRecDepth 20000 in
theorem kX2_addTo_3 : Cond.fieldLink RX2 15 "Stemspan$Row" "signs" "[C" ∈ wsX2_addTo := by decide +kernel
section
variable {p : Program} {l : Launch} {e : Env} {s : State} {m : MethodId} {args : Array Value} {below : List Frame} {meth : Method} {c : Code} {Q : State → Prop} {D : va_G} {ad : Nat → Nat} {ci : Nat → ClassId} {A : Nat → Prop} {H0 : Heap}
set_option maxHeartbeats 4000000 in
set_option maxRecDepth 100000 in
theorem eX2_size (C0 : CallFix p m c cX2_size 1 s args wsX2_size RX2) (hK : Kx D (tyC ci) s) (K : Int32 → Prop) (σ : St) (hret : ∀ (r : Int32) (H : Heap) (locs : List Loc) (pc : Nat) (ls : Array Slot), K r → Sy D 132 ad A H0 (obC ad ci σ) H locs → decode cX2_size pc = .ok (.ireturn, 1) → W p l e rmX2_size s m args below meth c H locs 0 0 Q (F0 m pc ls [.int r])) (x0 : Nat) (rx0 : rowB x0 = true) (h : wX2_size σ x0 K) (H : Heap) (locs : List Loc) (hY : Sy D 132 ad A H0 (obC ad ci σ) H locs) (hR : Rok σ) (ls : Array Slot) (hl : lv_has ls 1 [(0, .ref (ad x0))]) : W p l e rmX2_size s m args below meth c H locs 0 0 Q (F0 m 0 ls []) := by
  obtain ⟨hx, hb, hml, hown, hts⟩ := id C0
  refine lv_aload_n hx hb dX2_size_0 rfl (lv_at hl 0 rfl) ?_
  refine w_get (o := x0) (ci := 2) (C := RX2) (T := TX2) (N1 := 2) (v := .int (gI σ x0)) hx hb hts kX2_size_inX2 hown hK.1 hY (rowB_lt rx0) (obC_row rx0) rfl 1 (by decide) (hts _ kX2_size_0) rfl rfl dX2_size_1 ?_
  exact hret (gI σ x0) _ _ _ _ h hY dX2_size_4
set_option maxHeartbeats 4000000 in
set_option maxRecDepth 100000 in
theorem mX2_size (l : Launch) (D : va_G) (ad : Nat → Nat) (ci : Nat → ClassId) (A : Nat → Prop) (σ : St) (x0 : Nat) (K : Int32 → Prop) (hR : Rok σ) (rx0 : rowB x0 = true) (h : wX2_size σ x0 K) : Met l yX2_size wsX2_size rmX2_size (va_Pc [.ref (ad x0)] (PreW D 132 ad A (tyC ci) (obC ad ci σ))) (va_Qi (fun r (_ : Unit) => K r) (fun _ => (PostW D 132 ad (tyC ci) (obC ad ci) Rok σ)) A) 0 0 A := by
  refine Met.ofW (cc := cX2_size) (maxL := 1) (ret := (some .int)) (by decide) rfl ?_
  intro p e s m args below meth c s₁ B hml hv
  obtain ⟨rfl, hP, hK, hD⟩ := hv
  have C0 : CallFix p m c cX2_size 1 s _ wsX2_size RX2 := ⟨B.exec, B.bytes, hml, findClass_of_methodNamed B.named, atoms_spec (ws := wsX2_size) B.pre⟩
  have hlocks := B.notSynchronized
  have hY : Sy D 132 ad A s.heap (obC ad ci σ) s.heap [] := ⟨hP, hD, va_S.rf⟩
  have hl := lv_entry ([.ref (ad x0)]) (n := 1) (Nat.le_of_ble_eq_true rfl)
  rw [lg_entry_eq]
  generalize (lg_sl ([.ref (ad x0)]) ++ List.replicate (1 - (lg_sl ([.ref (ad x0)])).length) Slot.unset).toArray = ls at hl ⊢
  exact eX2_size C0 hK K σ (fun r H locs pc ls hk hY hd => w_iret (I := Rok) B.exec B.bytes B.returns hlocks (u := ()) hK hk (fun t ht => ht) hY hR hd) x0 rx0 h _ _ hY hR ls hl
set_option maxHeartbeats 4000000 in
set_option maxRecDepth 100000 in
theorem eX2_at (C0 : CallFix p m c cX2_at 2 s args wsX2_at RX2) (hK : Kx D (tyC ci) s) (K : Int32 → Prop) (σ : St) (hret : ∀ (r : Int32) (H : Heap) (locs : List Loc) (pc : Nat) (ls : Array Slot), narrow .char (.int r) = .int r → K r → Sy D 132 ad A H0 (obC ad ci σ) H locs → decode cX2_at pc = .ok (.ireturn, 1) → W p l e rmX2_at s m args below meth c H locs 0 0 Q (F0 m pc ls [.int r])) (x0 : Nat) (x1 : Int32) (rx0 : rowB x0 = true) (h : wX2_at σ x0 x1 K) (H : Heap) (locs : List Loc) (hY : Sy D 132 ad A H0 (obC ad ci σ) H locs) (hR : Rok σ) (ls : Array Slot) (hl : lv_has ls 2 [(0, .ref (ad x0)), (1, .int x1)]) : W p l e rmX2_at s m args below meth c H locs 0 0 Q (F0 m 0 ls []) := by
  obtain ⟨hx, hb, hml, hown, hts⟩ := id C0
  refine lv_iload_n hx hb dX2_at_0 rfl (lv_at hl 1 rfl) ?_
  refine lv_if_lt (tgt := 21) hx hb dX2_at_1 (by decide) (fun c_1 => ?_) (fun c_1 => ?_)
  · have h := h.1 c_1
    refine lv_iconst (v := (0 : Int32)) hx hb dX2_at_21 (by decide) ?_
    exact hret (0 : Int32) _ _ _ _ rfl h hY dX2_at_22
  · have h := h.2 c_1
    refine lv_iload_n hx hb dX2_at_4 rfl (lv_at hl 1 rfl) ?_
    refine lv_aload_n hx hb dX2_at_5 rfl (lv_at hl 0 rfl) ?_
    refine w_get (o := x0) (ci := 2) (C := RX2) (T := TX2) (N1 := 2) (v := .int (gI σ x0)) hx hb hts kX2_at_inX2 hown hK.1 hY (rowB_lt rx0) (obC_row rx0) rfl 1 (by decide) (hts _ kX2_at_0) rfl rfl dX2_at_6 ?_
    refine lv_icmp_ge (tgt := 21) hx hb dX2_at_9 (by decide) (fun c_2 => ?_) (fun c_2 => ?_)
    · have h := h.1 c_2
      refine lv_iconst (v := (0 : Int32)) hx hb dX2_at_21 (by decide) ?_
      exact hret (0 : Int32) _ _ _ _ rfl h hY dX2_at_22
    · have h := h.2 c_2
      refine lv_aload_n hx hb dX2_at_12 rfl (lv_at hl 0 rfl) ?_
      refine w_get (o := x0) (ci := 2) (C := RX2) (T := TX2) (N1 := 2) (v := .ref (ad (x0 + 1))) hx hb hts kX2_at_inX2 hown hK.1 hY (rowB_lt rx0) (obC_row rx0) rfl 0 (by decide) (hts _ kX2_at_2) rfl rfl dX2_at_13 ?_
      refine lv_iload_n hx hb dX2_at_16 rfl (lv_at hl 1 rfl) ?_
      obtain ⟨b_3, h⟩ := h
      refine w_cald (o := (x0 + 1)) hx hb hK.1 hY (rowB_1 rx0).1 0 (obC_chars rx0) rfl b_3 dX2_at_17 ?_
      refine lv_goto (tgt := 22) hx hb dX2_at_18 (by decide) ?_
      obtain ⟨nr, h⟩ := h
      exact hret (gA σ x0 (x1).toNatClampNeg) _ _ _ _ nr h hY dX2_at_22
set_option maxHeartbeats 4000000 in
set_option maxRecDepth 100000 in
theorem mX2_at (l : Launch) (D : va_G) (ad : Nat → Nat) (ci : Nat → ClassId) (A : Nat → Prop) (σ : St) (x0 : Nat) (x1 : Int32) (K : Int32 → Prop) (hR : Rok σ) (rx0 : rowB x0 = true) (h : wX2_at σ x0 x1 K) : Met l yX2_at wsX2_at rmX2_at (va_Pc [.ref (ad x0), .int x1] (PreW D 132 ad A (tyC ci) (obC ad ci σ))) (va_Qi (fun r (_ : Unit) => narrow .char (.int r) = .int r ∧ K r) (fun _ => (PostW D 132 ad (tyC ci) (obC ad ci) Rok σ)) A) 0 0 A := by
  refine Met.ofW (cc := cX2_at) (maxL := 2) (ret := (some .char)) (by decide) rfl ?_
  intro p e s m args below meth c s₁ B hml hv
  obtain ⟨rfl, hP, hK, hD⟩ := hv
  have C0 : CallFix p m c cX2_at 2 s _ wsX2_at RX2 := ⟨B.exec, B.bytes, hml, findClass_of_methodNamed B.named, atoms_spec (ws := wsX2_at) B.pre⟩
  have hlocks := B.notSynchronized
  have hY : Sy D 132 ad A s.heap (obC ad ci σ) s.heap [] := ⟨hP, hD, va_S.rf⟩
  have hl := lv_entry ([.ref (ad x0), .int x1]) (n := 2) (Nat.le_of_ble_eq_true rfl)
  rw [lg_entry_eq]
  generalize (lg_sl ([.ref (ad x0), .int x1]) ++ List.replicate (2 - (lg_sl ([.ref (ad x0), .int x1])).length) Slot.unset).toArray = ls at hl ⊢
  exact eX2_at C0 hK K σ (fun r H locs pc ls hn hk hY hd => w_zret (I := Rok) B.exec B.bytes B.returns hn hlocks (u := ()) hK ⟨hn, hk⟩ (fun t ht => ht) hY hR hd) x0 x1 rx0 h _ _ hY hR ls hl
set_option maxHeartbeats 4000000 in
set_option maxRecDepth 100000 in
theorem eX2_clear (C0 : CallFix p m c cX2_clear 1 s args wsX2_clear RX2) (hK : Kx D (tyC ci) s) (K : St → Prop) (σ : St) (hret : ∀ (u : St) (H : Heap) (locs : List Loc) (pc : Nat) (ls : Array Slot), K u → Sy D 132 ad A H0 (obC ad ci u) H locs → Rok u → decode cX2_clear pc = .ok (.return_, 1) → W p l e rmX2_clear s m args below meth c H locs 0 0 Q (F0 m pc ls [])) (x0 : Nat) (rx0 : rowB x0 = true) (h : wX2_clear σ x0 K) (H : Heap) (locs : List Loc) (hY : Sy D 132 ad A H0 (obC ad ci σ) H locs) (hR : Rok σ) (ls : Array Slot) (hl : lv_has ls 1 [(0, .ref (ad x0))]) : W p l e rmX2_clear s m args below meth c H locs 0 0 Q (F0 m 0 ls []) := by
  obtain ⟨hx, hb, hml, hown, hts⟩ := id C0
  refine lv_aload_n hx hb dX2_clear_0 rfl (lv_at hl 0 rfl) ?_
  refine lv_iconst (v := (0 : Int32)) hx hb dX2_clear_1 (by decide) ?_
  obtain ⟨σ_1, e_σ_1⟩ : ∃ z : St, z = pI σ x0 (0 : Int32) := ⟨_, rfl⟩
  have h := h σ_1 e_σ_1
  have hR_σ_1 : Rok σ_1 := by rw [e_σ_1]; exact hR
  refine w_put (o := x0) (ci := 2) (C := RX2) (T := TX2) (N1 := 2) hx hb hts kX2_clear_inX2 tyX2 tyX2_ok nmX2 hown hK.1 hY (rowB_lt rx0) (obC_row rx0) rfl 1 (by decide) (hts _ kX2_clear_0) rfl rfl rfl (Nat.le_of_ble_eq_true rfl) dX2_clear_2 (ob' := obC ad ci σ_1) (by rw [e_σ_1]; exact obC_pI_row rx0) (fun H locs hY => ?_)
  exact hret σ_1 _ _ _ _ h hY hR_σ_1 dX2_clear_5
set_option maxHeartbeats 4000000 in
set_option maxRecDepth 100000 in
theorem mX2_clear (l : Launch) (D : va_G) (ad : Nat → Nat) (ci : Nat → ClassId) (A : Nat → Prop) (σ : St) (x0 : Nat) (K : St → Prop) (hR : Rok σ) (rx0 : rowB x0 = true) (h : wX2_clear σ x0 K) : Met l yX2_clear wsX2_clear rmX2_clear (va_Pc [.ref (ad x0)] (PreW D 132 ad A (tyC ci) (obC ad ci σ))) (va_Qv (fun u => K u) (PostW D 132 ad (tyC ci) (obC ad ci) Rok) A) 0 0 A := by
  refine Met.ofW (cc := cX2_clear) (maxL := 1) (ret := none) (by decide) rfl ?_
  intro p e s m args below meth c s₁ B hml hv
  obtain ⟨rfl, hP, hK, hD⟩ := hv
  have C0 : CallFix p m c cX2_clear 1 s _ wsX2_clear RX2 := ⟨B.exec, B.bytes, hml, findClass_of_methodNamed B.named, atoms_spec (ws := wsX2_clear) B.pre⟩
  have hlocks := B.notSynchronized
  have hY : Sy D 132 ad A s.heap (obC ad ci σ) s.heap [] := ⟨hP, hD, va_S.rf⟩
  have hl := lv_entry ([.ref (ad x0)]) (n := 1) (Nat.le_of_ble_eq_true rfl)
  rw [lg_entry_eq]
  generalize (lg_sl ([.ref (ad x0)]) ++ List.replicate (1 - (lg_sl ([.ref (ad x0)])).length) Slot.unset).toArray = ls at hl ⊢
  exact eX2_clear C0 hK K σ (fun u H locs pc ls hk hY hR hd => w_vret (I := Rok) B.exec B.bytes B.returns hlocks hK hk (fun t ht => ht) hY hR hd) x0 rx0 h _ _ hY hR ls hl
set_option maxHeartbeats 4000000 in
set_option maxRecDepth 100000 in
theorem eX2_append (C0 : CallFix p m c cX2_append 2 s args wsX2_append RX2) (hK : Kx D (tyC ci) s) (K : St → Prop) (σ : St) (hret : ∀ (u : St) (H : Heap) (locs : List Loc) (pc : Nat) (ls : Array Slot), K u → Sy D 132 ad A H0 (obC ad ci u) H locs → Rok u → decode cX2_append pc = .ok (.return_, 1) → W p l e rmX2_append s m args below meth c H locs 0 0 Q (F0 m pc ls [])) (x0 : Nat) (x1 : Int32) (rx0 : rowB x0 = true) (h : wX2_append σ x0 x1 K) (H : Heap) (locs : List Loc) (hY : Sy D 132 ad A H0 (obC ad ci σ) H locs) (hR : Rok σ) (ls : Array Slot) (hl : lv_has ls 2 [(0, .ref (ad x0)), (1, .int x1)]) : W p l e rmX2_append s m args below meth c H locs 0 0 Q (F0 m 0 ls []) := by
  obtain ⟨hx, hb, hml, hown, hts⟩ := id C0
  refine lv_aload_n hx hb dX2_append_0 rfl (lv_at hl 0 rfl) ?_
  refine w_get (o := x0) (ci := 2) (C := RX2) (T := TX2) (N1 := 2) (v := .int (gI σ x0)) hx hb hts kX2_append_inX2 hown hK.1 hY (rowB_lt rx0) (obC_row rx0) rfl 1 (by decide) (hts _ kX2_append_0) rfl rfl dX2_append_1 ?_
  refine lv_aload_n hx hb dX2_append_4 rfl (lv_at hl 0 rfl) ?_
  refine w_get (o := x0) (ci := 2) (C := RX2) (T := TX2) (N1 := 2) (v := .ref (ad (x0 + 1))) hx hb hts kX2_append_inX2 hown hK.1 hY (rowB_lt rx0) (obC_row rx0) rfl 0 (by decide) (hts _ kX2_append_2) rfl rfl dX2_append_5 ?_
  refine w_alen (o := (x0 + 1)) hx hb hK.1 hY (rowB_1 rx0).1 0 (obC_chars rx0) rfl (v := (nI (capC x0))) rfl dX2_append_8 ?_
  refine lv_icmp_ge (tgt := 32) hx hb dX2_append_9 (by decide) (fun c_1 => ?_) (fun c_1 => ?_)
  · have h := h.1 c_1
    exact hret σ _ _ _ _ h hY hR dX2_append_32
  · have h := h.2 c_1
    refine lv_aload_n hx hb dX2_append_12 rfl (lv_at hl 0 rfl) ?_
    refine w_get (o := x0) (ci := 2) (C := RX2) (T := TX2) (N1 := 2) (v := .ref (ad (x0 + 1))) hx hb hts kX2_append_inX2 hown hK.1 hY (rowB_lt rx0) (obC_row rx0) rfl 0 (by decide) (hts _ kX2_append_2) rfl rfl dX2_append_13 ?_
    refine lv_aload_n hx hb dX2_append_16 rfl (lv_at hl 0 rfl) ?_
    refine w_get (o := x0) (ci := 2) (C := RX2) (T := TX2) (N1 := 2) (v := .int (gI σ x0)) hx hb hts kX2_append_inX2 hown hK.1 hY (rowB_lt rx0) (obC_row rx0) rfl 1 (by decide) (hts _ kX2_append_0) rfl rfl dX2_append_17 ?_
    refine lv_iload_n hx hb dX2_append_20 rfl (lv_at hl 1 rfl) ?_
    obtain ⟨b_2, h⟩ := h
    obtain ⟨σ_3, e_σ_3⟩ : ∃ z : St, z = pA σ x0 ((gI σ x0)).toNatClampNeg (vp_nar .char x1) := ⟨_, rfl⟩
    have h := h σ_3 e_σ_3
    have hR_σ_3 : Rok σ_3 := by rw [e_σ_3]; exact hR
    refine w_cast (o := (x0 + 1)) hx hb hK.1 hY (rowB_1 rx0).1 0 (obC_chars rx0) rfl b_2 dX2_append_21 (ob' := obC ad ci σ_3) (by rw [e_σ_3]; exact obC_pA_row rx0) (fun H locs hY => ?_)
    refine lv_aload_n hx hb dX2_append_22 rfl (lv_at hl 0 rfl) ?_
    refine lv_dup hx hb dX2_append_23 rfl ?_
    refine w_get (o := x0) (ci := 2) (C := RX2) (T := TX2) (N1 := 2) (v := .int (gI σ_3 x0)) hx hb hts kX2_append_inX2 hown hK.1 hY (rowB_lt rx0) (obC_row rx0) rfl 1 (by decide) (hts _ kX2_append_0) rfl rfl dX2_append_24 ?_
    refine lv_iconst (v := (1 : Int32)) hx hb dX2_append_27 (by decide) ?_
    refine lv_iadd hx hb dX2_append_28 ?_
    obtain ⟨σ_4, e_σ_4⟩ : ∃ z : St, z = pI σ_3 x0 ((gI σ_3 x0) + (1 : Int32)) := ⟨_, rfl⟩
    have h := h σ_4 e_σ_4
    have hR_σ_4 : Rok σ_4 := by rw [e_σ_4]; exact hR_σ_3
    refine w_put (o := x0) (ci := 2) (C := RX2) (T := TX2) (N1 := 2) hx hb hts kX2_append_inX2 tyX2 tyX2_ok nmX2 hown hK.1 hY (rowB_lt rx0) (obC_row rx0) rfl 1 (by decide) (hts _ kX2_append_0) rfl rfl rfl (Nat.le_of_ble_eq_true rfl) dX2_append_29 (ob' := obC ad ci σ_4) (by rw [e_σ_4]; exact obC_pI_row rx0) (fun H locs hY => ?_)
    exact hret σ_4 _ _ _ _ h hY hR_σ_4 dX2_append_32
set_option maxHeartbeats 4000000 in
set_option maxRecDepth 100000 in
theorem mX2_append (l : Launch) (D : va_G) (ad : Nat → Nat) (ci : Nat → ClassId) (A : Nat → Prop) (σ : St) (x0 : Nat) (x1 : Int32) (K : St → Prop) (hR : Rok σ) (rx0 : rowB x0 = true) (h : wX2_append σ x0 x1 K) : Met l yX2_append wsX2_append rmX2_append (va_Pc [.ref (ad x0), .int x1] (PreW D 132 ad A (tyC ci) (obC ad ci σ))) (va_Qv (fun u => K u) (PostW D 132 ad (tyC ci) (obC ad ci) Rok) A) 0 0 A := by
  refine Met.ofW (cc := cX2_append) (maxL := 2) (ret := none) (by decide) rfl ?_
  intro p e s m args below meth c s₁ B hml hv
  obtain ⟨rfl, hP, hK, hD⟩ := hv
  have C0 : CallFix p m c cX2_append 2 s _ wsX2_append RX2 := ⟨B.exec, B.bytes, hml, findClass_of_methodNamed B.named, atoms_spec (ws := wsX2_append) B.pre⟩
  have hlocks := B.notSynchronized
  have hY : Sy D 132 ad A s.heap (obC ad ci σ) s.heap [] := ⟨hP, hD, va_S.rf⟩
  have hl := lv_entry ([.ref (ad x0), .int x1]) (n := 2) (Nat.le_of_ble_eq_true rfl)
  rw [lg_entry_eq]
  generalize (lg_sl ([.ref (ad x0), .int x1]) ++ List.replicate (2 - (lg_sl ([.ref (ad x0), .int x1])).length) Slot.unset).toArray = ls at hl ⊢
  exact eX2_append C0 hK K σ (fun u H locs pc ls hk hY hR hd => w_vret (I := Rok) B.exec B.bytes B.returns hlocks hK hk (fun t ht => ht) hY hR hd) x0 x1 rx0 h _ _ hY hR ls hl
set_option maxHeartbeats 4000000 in
set_option maxRecDepth 100000 in
theorem tX2_appendAll_L2 (C0 : CallFix p m c cX2_appendAll 3 s args wsX2_appendAll RX2) (hK : Kx D (tyC ci) s) (K : St → Prop) (x0 : Nat) (x1 : Nat) (hret : ∀ (u : St) (H : Heap) (locs : List Loc) (pc : Nat) (ls : Array Slot), K u → Sy D 132 ad A H0 (obC ad ci u) H locs → Rok u → decode cX2_appendAll pc = .ok (.return_, 1) → W p l e rmX2_appendAll s m args below meth c H locs 0 0 Q (F0 m pc ls [])) (rx0 : rowB x0 = true) (rx1 : rowB x1 = true) : ∀ (n : Nat) (σ : St) (x2 : Int32), wX2_appendAll_L2 K x0 x1 n σ x2 → ∀ (H : Heap) (locs : List Loc), Sy D 132 ad A H0 (obC ad ci σ) H locs → Rok σ → ∀ ls : Array Slot, lv_has ls 3 [(0, .ref (ad x0)), (1, .ref (ad x1)), (2, .int x2)] → W p l e rmX2_appendAll s m args below meth c H locs 0 0 Q (F0 m 2 ls []) := by
  obtain ⟨hx, hb, hml, hown, hts⟩ := id C0
  intro n
  induction n with
  | zero =>
    intro σ x2 h
    exact h.elim
  | succ n ih =>
    intro σ x2 h H locs hY hR  ls hl
    refine lv_iload_n hx hb dX2_appendAll_2 rfl (lv_at hl 2 rfl) ?_
    refine lv_aload_n hx hb dX2_appendAll_3 rfl (lv_at hl 1 rfl) ?_
    refine w_get (o := x1) (ci := 2) (C := RX2) (T := TX2) (N1 := 2) (v := .int (gI σ x1)) hx hb hts kX2_appendAll_inX2 hown hK.1 hY (rowB_lt rx1) (obC_row rx1) rfl 1 (by decide) (hts _ kX2_appendAll_0) rfl rfl dX2_appendAll_4 ?_
    refine lv_icmp_ge (tgt := 26) hx hb dX2_appendAll_7 (by decide) (fun c_1 => ?_) (fun c_1 => ?_)
    · have h := h.1 c_1
      exact hret σ _ _ _ _ h hY hR dX2_appendAll_26
    · have h := h.2 c_1
      refine lv_aload_n hx hb dX2_appendAll_10 rfl (lv_at hl 0 rfl) ?_
      refine lv_aload_n hx hb dX2_appendAll_11 rfl (lv_at hl 1 rfl) ?_
      refine w_get (o := x1) (ci := 2) (C := RX2) (T := TX2) (N1 := 2) (v := .ref (ad (x1 + 1))) hx hb hts kX2_appendAll_inX2 hown hK.1 hY (rowB_lt rx1) (obC_row rx1) rfl 0 (by decide) (hts _ kX2_appendAll_2) rfl rfl dX2_appendAll_12 ?_
      refine lv_iload_n hx hb dX2_appendAll_15 rfl (lv_at hl 2 rfl) ?_
      obtain ⟨b_2, h⟩ := h
      refine w_cald (o := (x1 + 1)) hx hb hK.1 hY (rowB_1 rx1).1 0 (obC_chars rx1) rfl b_2 dX2_appendAll_16 ?_
      refine w_callv (rest := []) (va_runV (As := [.int (gA σ x1 (x2).toNatClampNeg)]) (rest := []) C0 (mX2_append l D ad ci A σ x0 (gA σ x1 (x2).toNatClampNeg) _ hR rx0 h) (cwV 1 hts gX2_appendAll_X2_append rfl rfl rfl ddX2_append ⟨Nat.le_of_ble_eq_true rfl, Nat.le_of_ble_eq_true rfl⟩) (w_preV (o := x0) (ci := 2) (ob := obC ad ci) (σ := σ) hK hY (rowB_lt rx0) (obC_row rx0) rfl rfl) rfl rfl hl.1 rfl (lv_room (Nat.le_of_ble_eq_true rfl)) dX2_appendAll_17 ⟨Nat.zero_le _, Nat.zero_le _⟩) hY (fun σ_4 H locs h hY hR_σ_4 => ?_)
      refine lv_iinc (v := (x2 + 1)) (lv' := [(2, .int (x2 + 1)), (0, .ref (ad x0)), (1, .ref (ad x1))]) hx hb dX2_appendAll_20 hl (k := 2) rfl rfl (by decide) rfl (fun ls hl => ?_)
      refine lv_goto (tgt := 2) hx hb dX2_appendAll_23 (by decide) ?_
      exact ih σ_4 (x2 + 1) h _ _ hY hR_σ_4  _ (lv_sub hl [1, 2, 0] rfl)
set_option maxHeartbeats 4000000 in
set_option maxRecDepth 100000 in
theorem eX2_appendAll (C0 : CallFix p m c cX2_appendAll 3 s args wsX2_appendAll RX2) (hK : Kx D (tyC ci) s) (K : St → Prop) (σ : St) (hret : ∀ (u : St) (H : Heap) (locs : List Loc) (pc : Nat) (ls : Array Slot), K u → Sy D 132 ad A H0 (obC ad ci u) H locs → Rok u → decode cX2_appendAll pc = .ok (.return_, 1) → W p l e rmX2_appendAll s m args below meth c H locs 0 0 Q (F0 m pc ls [])) (x0 : Nat) (x1 : Nat) (rx0 : rowB x0 = true) (rx1 : rowB x1 = true) (h : wX2_appendAll σ x0 x1 K) (H : Heap) (locs : List Loc) (hY : Sy D 132 ad A H0 (obC ad ci σ) H locs) (hR : Rok σ) (ls : Array Slot) (hl : lv_has ls 3 [(0, .ref (ad x0)), (1, .ref (ad x1))]) : W p l e rmX2_appendAll s m args below meth c H locs 0 0 Q (F0 m 0 ls []) := by
  obtain ⟨hx, hb, hml, hown, hts⟩ := id C0
  refine lv_iconst (v := (0 : Int32)) hx hb dX2_appendAll_0 (by decide) ?_
  refine lv_istore_n (lv' := [(2, .int (0 : Int32)), (0, .ref (ad x0)), (1, .ref (ad x1))]) hx hb dX2_appendAll_1 rfl hl (by decide) rfl (fun ls hl => ?_)
  obtain ⟨n_5, h⟩ := h
  exact tX2_appendAll_L2 C0 hK K x0 x1 hret rx0 rx1 n_5 σ (0 : Int32) h _ _ hY hR  _ (lv_sub hl [1, 2, 0] rfl)
set_option maxHeartbeats 4000000 in
set_option maxRecDepth 100000 in
theorem mX2_appendAll (l : Launch) (D : va_G) (ad : Nat → Nat) (ci : Nat → ClassId) (A : Nat → Prop) (σ : St) (x0 : Nat) (x1 : Nat) (K : St → Prop) (hR : Rok σ) (rx0 : rowB x0 = true) (rx1 : rowB x1 = true) (h : wX2_appendAll σ x0 x1 K) : Met l yX2_appendAll wsX2_appendAll rmX2_appendAll (va_Pc [.ref (ad x0), .ref (ad x1)] (PreW D 132 ad A (tyC ci) (obC ad ci σ))) (va_Qv (fun u => K u) (PostW D 132 ad (tyC ci) (obC ad ci) Rok) A) 0 0 A := by
  refine Met.ofW (cc := cX2_appendAll) (maxL := 3) (ret := none) (by decide) rfl ?_
  intro p e s m args below meth c s₁ B hml hv
  obtain ⟨rfl, hP, hK, hD⟩ := hv
  have C0 : CallFix p m c cX2_appendAll 3 s _ wsX2_appendAll RX2 := ⟨B.exec, B.bytes, hml, findClass_of_methodNamed B.named, atoms_spec (ws := wsX2_appendAll) B.pre⟩
  have hlocks := B.notSynchronized
  have hY : Sy D 132 ad A s.heap (obC ad ci σ) s.heap [] := ⟨hP, hD, va_S.rf⟩
  have hl := lv_entry ([.ref (ad x0), .ref (ad x1)]) (n := 3) (Nat.le_of_ble_eq_true rfl)
  rw [lg_entry_eq]
  generalize (lg_sl ([.ref (ad x0), .ref (ad x1)]) ++ List.replicate (3 - (lg_sl ([.ref (ad x0), .ref (ad x1)])).length) Slot.unset).toArray = ls at hl ⊢
  exact eX2_appendAll C0 hK K σ (fun u H locs pc ls hk hY hR hd => w_vret (I := Rok) B.exec B.bytes B.returns hlocks hK hk (fun t ht => ht) hY hR hd) x0 x1 rx0 rx1 h _ _ hY hR ls hl
set_option maxHeartbeats 4000000 in
set_option maxRecDepth 100000 in
theorem tX2_insert_L30 (C0 : CallFix p m c cX2_insert 4 s args wsX2_insert RX2) (hK : Kx D (tyC ci) s) (K : St → Prop) (x0 : Nat) (x1 : Int32) (x2 : Int32) (hret : ∀ (u : St) (H : Heap) (locs : List Loc) (pc : Nat) (ls : Array Slot), K u → Sy D 132 ad A H0 (obC ad ci u) H locs → Rok u → decode cX2_insert pc = .ok (.return_, 1) → W p l e rmX2_insert s m args below meth c H locs 0 0 Q (F0 m pc ls [])) (rx0 : rowB x0 = true) : ∀ (n : Nat) (σ : St) (x3 : Int32), wX2_insert_L30 K x0 x1 x2 n σ x3 → ∀ (H : Heap) (locs : List Loc), Sy D 132 ad A H0 (obC ad ci σ) H locs → Rok σ → ∀ ls : Array Slot, lv_has ls 4 [(0, .ref (ad x0)), (1, .int x1), (2, .int x2), (3, .int x3)] → W p l e rmX2_insert s m args below meth c H locs 0 0 Q (F0 m 30 ls []) := by
  obtain ⟨hx, hb, hml, hown, hts⟩ := id C0
  intro n
  induction n with
  | zero =>
    intro σ x3 h
    exact h.elim
  | succ n ih =>
    intro σ x3 h H locs hY hR  ls hl
    refine lv_iload_n hx hb dX2_insert_30 rfl (lv_at hl 3 rfl) ?_
    refine lv_iload_n hx hb dX2_insert_31 rfl (lv_at hl 1 rfl) ?_
    refine lv_icmp_le (tgt := 55) hx hb dX2_insert_32 (by decide) (fun c_1 => ?_) (fun c_1 => ?_)
    · have h := h.1 c_1
      refine lv_aload_n hx hb dX2_insert_55 rfl (lv_at hl 0 rfl) ?_
      refine w_get (o := x0) (ci := 2) (C := RX2) (T := TX2) (N1 := 2) (v := .ref (ad (x0 + 1))) hx hb hts kX2_insert_inX2 hown hK.1 hY (rowB_lt rx0) (obC_row rx0) rfl 0 (by decide) (hts _ kX2_insert_0) rfl rfl dX2_insert_56 ?_
      refine lv_iload_n hx hb dX2_insert_59 rfl (lv_at hl 1 rfl) ?_
      refine lv_iload_n hx hb dX2_insert_60 rfl (lv_at hl 2 rfl) ?_
      obtain ⟨b_2, h⟩ := h
      obtain ⟨σ_3, e_σ_3⟩ : ∃ z : St, z = pA σ x0 (x1).toNatClampNeg (vp_nar .char x2) := ⟨_, rfl⟩
      have h := h σ_3 e_σ_3
      have hR_σ_3 : Rok σ_3 := by rw [e_σ_3]; exact hR
      refine w_cast (o := (x0 + 1)) hx hb hK.1 hY (rowB_1 rx0).1 0 (obC_chars rx0) rfl b_2 dX2_insert_61 (ob' := obC ad ci σ_3) (by rw [e_σ_3]; exact obC_pA_row rx0) (fun H locs hY => ?_)
      refine lv_aload_n hx hb dX2_insert_62 rfl (lv_at hl 0 rfl) ?_
      refine lv_dup hx hb dX2_insert_63 rfl ?_
      refine w_get (o := x0) (ci := 2) (C := RX2) (T := TX2) (N1 := 2) (v := .int (gI σ_3 x0)) hx hb hts kX2_insert_inX2 hown hK.1 hY (rowB_lt rx0) (obC_row rx0) rfl 1 (by decide) (hts _ kX2_insert_2) rfl rfl dX2_insert_64 ?_
      refine lv_iconst (v := (1 : Int32)) hx hb dX2_insert_67 (by decide) ?_
      refine lv_iadd hx hb dX2_insert_68 ?_
      obtain ⟨σ_4, e_σ_4⟩ : ∃ z : St, z = pI σ_3 x0 ((gI σ_3 x0) + (1 : Int32)) := ⟨_, rfl⟩
      have h := h σ_4 e_σ_4
      have hR_σ_4 : Rok σ_4 := by rw [e_σ_4]; exact hR_σ_3
      refine w_put (o := x0) (ci := 2) (C := RX2) (T := TX2) (N1 := 2) hx hb hts kX2_insert_inX2 tyX2 tyX2_ok nmX2 hown hK.1 hY (rowB_lt rx0) (obC_row rx0) rfl 1 (by decide) (hts _ kX2_insert_2) rfl rfl rfl (Nat.le_of_ble_eq_true rfl) dX2_insert_69 (ob' := obC ad ci σ_4) (by rw [e_σ_4]; exact obC_pI_row rx0) (fun H locs hY => ?_)
      exact hret σ_4 _ _ _ _ h hY hR_σ_4 dX2_insert_72
    · have h := h.2 c_1
      refine lv_aload_n hx hb dX2_insert_35 rfl (lv_at hl 0 rfl) ?_
      refine w_get (o := x0) (ci := 2) (C := RX2) (T := TX2) (N1 := 2) (v := .ref (ad (x0 + 1))) hx hb hts kX2_insert_inX2 hown hK.1 hY (rowB_lt rx0) (obC_row rx0) rfl 0 (by decide) (hts _ kX2_insert_0) rfl rfl dX2_insert_36 ?_
      refine lv_iload_n hx hb dX2_insert_39 rfl (lv_at hl 3 rfl) ?_
      refine lv_aload_n hx hb dX2_insert_40 rfl (lv_at hl 0 rfl) ?_
      refine w_get (o := x0) (ci := 2) (C := RX2) (T := TX2) (N1 := 2) (v := .ref (ad (x0 + 1))) hx hb hts kX2_insert_inX2 hown hK.1 hY (rowB_lt rx0) (obC_row rx0) rfl 0 (by decide) (hts _ kX2_insert_0) rfl rfl dX2_insert_41 ?_
      refine lv_iload_n hx hb dX2_insert_44 rfl (lv_at hl 3 rfl) ?_
      refine lv_iconst (v := (1 : Int32)) hx hb dX2_insert_45 (by decide) ?_
      refine lv_isub hx hb dX2_insert_46 ?_
      obtain ⟨b_5, h⟩ := h
      refine w_cald (o := (x0 + 1)) hx hb hK.1 hY (rowB_1 rx0).1 0 (obC_chars rx0) rfl b_5 dX2_insert_47 ?_
      obtain ⟨b_6, h⟩ := h
      obtain ⟨σ_7, e_σ_7⟩ : ∃ z : St, z = pA σ x0 (x3).toNatClampNeg (vp_nar .char (gA σ x0 ((x3 - (1 : Int32))).toNatClampNeg)) := ⟨_, rfl⟩
      have h := h σ_7 e_σ_7
      have hR_σ_7 : Rok σ_7 := by rw [e_σ_7]; exact hR
      refine w_cast (o := (x0 + 1)) hx hb hK.1 hY (rowB_1 rx0).1 0 (obC_chars rx0) rfl b_6 dX2_insert_48 (ob' := obC ad ci σ_7) (by rw [e_σ_7]; exact obC_pA_row rx0) (fun H locs hY => ?_)
      refine lv_iinc (v := (x3 + (-1))) (lv' := [(3, .int (x3 + (-1))), (0, .ref (ad x0)), (1, .int x1), (2, .int x2)]) hx hb dX2_insert_49 hl (k := 3) rfl rfl (by decide) rfl (fun ls hl => ?_)
      refine lv_goto (tgt := 30) hx hb dX2_insert_52 (by decide) ?_
      exact ih σ_7 (x3 + (-1)) h _ _ hY hR_σ_7  _ (lv_sub hl [1, 2, 3, 0] rfl)
set_option maxHeartbeats 4000000 in
set_option maxRecDepth 100000 in
theorem eX2_insert (C0 : CallFix p m c cX2_insert 4 s args wsX2_insert RX2) (hK : Kx D (tyC ci) s) (K : St → Prop) (σ : St) (hret : ∀ (u : St) (H : Heap) (locs : List Loc) (pc : Nat) (ls : Array Slot), K u → Sy D 132 ad A H0 (obC ad ci u) H locs → Rok u → decode cX2_insert pc = .ok (.return_, 1) → W p l e rmX2_insert s m args below meth c H locs 0 0 Q (F0 m pc ls [])) (x0 : Nat) (x1 : Int32) (x2 : Int32) (rx0 : rowB x0 = true) (h : wX2_insert σ x0 x1 x2 K) (H : Heap) (locs : List Loc) (hY : Sy D 132 ad A H0 (obC ad ci σ) H locs) (hR : Rok σ) (ls : Array Slot) (hl : lv_has ls 4 [(0, .ref (ad x0)), (1, .int x1), (2, .int x2)]) : W p l e rmX2_insert s m args below meth c H locs 0 0 Q (F0 m 0 ls []) := by
  obtain ⟨hx, hb, hml, hown, hts⟩ := id C0
  refine lv_iload_n hx hb dX2_insert_0 rfl (lv_at hl 1 rfl) ?_
  refine lv_if_lt (tgt := 24) hx hb dX2_insert_1 (by decide) (fun c_8 => ?_) (fun c_8 => ?_)
  · have h := h.1 c_8
    exact hret σ _ _ _ _ h hY hR dX2_insert_24
  · have h := h.2 c_8
    refine lv_iload_n hx hb dX2_insert_4 rfl (lv_at hl 1 rfl) ?_
    refine lv_aload_n hx hb dX2_insert_5 rfl (lv_at hl 0 rfl) ?_
    refine w_get (o := x0) (ci := 2) (C := RX2) (T := TX2) (N1 := 2) (v := .int (gI σ x0)) hx hb hts kX2_insert_inX2 hown hK.1 hY (rowB_lt rx0) (obC_row rx0) rfl 1 (by decide) (hts _ kX2_insert_2) rfl rfl dX2_insert_6 ?_
    refine lv_icmp_gt (tgt := 24) hx hb dX2_insert_9 (by decide) (fun c_9 => ?_) (fun c_9 => ?_)
    · have h := h.1 c_9
      exact hret σ _ _ _ _ h hY hR dX2_insert_24
    · have h := h.2 c_9
      refine lv_aload_n hx hb dX2_insert_12 rfl (lv_at hl 0 rfl) ?_
      refine w_get (o := x0) (ci := 2) (C := RX2) (T := TX2) (N1 := 2) (v := .int (gI σ x0)) hx hb hts kX2_insert_inX2 hown hK.1 hY (rowB_lt rx0) (obC_row rx0) rfl 1 (by decide) (hts _ kX2_insert_2) rfl rfl dX2_insert_13 ?_
      refine lv_aload_n hx hb dX2_insert_16 rfl (lv_at hl 0 rfl) ?_
      refine w_get (o := x0) (ci := 2) (C := RX2) (T := TX2) (N1 := 2) (v := .ref (ad (x0 + 1))) hx hb hts kX2_insert_inX2 hown hK.1 hY (rowB_lt rx0) (obC_row rx0) rfl 0 (by decide) (hts _ kX2_insert_0) rfl rfl dX2_insert_17 ?_
      refine w_alen (o := (x0 + 1)) hx hb hK.1 hY (rowB_1 rx0).1 0 (obC_chars rx0) rfl (v := (nI (capC x0))) rfl dX2_insert_20 ?_
      refine lv_icmp_lt (tgt := 25) hx hb dX2_insert_21 (by decide) (fun c_10 => ?_) (fun c_10 => ?_)
      · have h := h.1 c_10
        refine lv_aload_n hx hb dX2_insert_25 rfl (lv_at hl 0 rfl) ?_
        refine w_get (o := x0) (ci := 2) (C := RX2) (T := TX2) (N1 := 2) (v := .int (gI σ x0)) hx hb hts kX2_insert_inX2 hown hK.1 hY (rowB_lt rx0) (obC_row rx0) rfl 1 (by decide) (hts _ kX2_insert_2) rfl rfl dX2_insert_26 ?_
        refine lv_topi (fun x3_11 e_x3_11 => ?_)
        have h := h x3_11 e_x3_11
        refine lv_istore_n (lv' := [(3, .int x3_11), (0, .ref (ad x0)), (1, .int x1), (2, .int x2)]) hx hb dX2_insert_29 rfl hl (by decide) rfl (fun ls hl => ?_)
        obtain ⟨n_12, h⟩ := h
        exact tX2_insert_L30 C0 hK K x0 x1 x2 hret rx0 n_12 σ x3_11 h _ _ hY hR  _ (lv_sub hl [1, 2, 3, 0] rfl)
      · have h := h.2 c_10
        exact hret σ _ _ _ _ h hY hR dX2_insert_24
set_option maxHeartbeats 4000000 in
set_option maxRecDepth 100000 in
theorem mX2_insert (l : Launch) (D : va_G) (ad : Nat → Nat) (ci : Nat → ClassId) (A : Nat → Prop) (σ : St) (x0 : Nat) (x1 : Int32) (x2 : Int32) (K : St → Prop) (hR : Rok σ) (rx0 : rowB x0 = true) (h : wX2_insert σ x0 x1 x2 K) : Met l yX2_insert wsX2_insert rmX2_insert (va_Pc [.ref (ad x0), .int x1, .int x2] (PreW D 132 ad A (tyC ci) (obC ad ci σ))) (va_Qv (fun u => K u) (PostW D 132 ad (tyC ci) (obC ad ci) Rok) A) 0 0 A := by
  refine Met.ofW (cc := cX2_insert) (maxL := 4) (ret := none) (by decide) rfl ?_
  intro p e s m args below meth c s₁ B hml hv
  obtain ⟨rfl, hP, hK, hD⟩ := hv
  have C0 : CallFix p m c cX2_insert 4 s _ wsX2_insert RX2 := ⟨B.exec, B.bytes, hml, findClass_of_methodNamed B.named, atoms_spec (ws := wsX2_insert) B.pre⟩
  have hlocks := B.notSynchronized
  have hY : Sy D 132 ad A s.heap (obC ad ci σ) s.heap [] := ⟨hP, hD, va_S.rf⟩
  have hl := lv_entry ([.ref (ad x0), .int x1, .int x2]) (n := 4) (Nat.le_of_ble_eq_true rfl)
  rw [lg_entry_eq]
  generalize (lg_sl ([.ref (ad x0), .int x1, .int x2]) ++ List.replicate (4 - (lg_sl ([.ref (ad x0), .int x1, .int x2])).length) Slot.unset).toArray = ls at hl ⊢
  exact eX2_insert C0 hK K σ (fun u H locs pc ls hk hY hR hd => w_vret (I := Rok) B.exec B.bytes B.returns hlocks hK hk (fun t ht => ht) hY hR hd) x0 x1 x2 rx0 h _ _ hY hR ls hl
set_option maxHeartbeats 4000000 in
set_option maxRecDepth 100000 in
theorem tX2_removePart_L25 (C0 : CallFix p m c cX2_removePart 5 s args wsX2_removePart RX2) (hK : Kx D (tyC ci) s) (K : St → Prop) (x0 : Nat) (x3 : Int32) (hret : ∀ (u : St) (H : Heap) (locs : List Loc) (pc : Nat) (ls : Array Slot), K u → Sy D 132 ad A H0 (obC ad ci u) H locs → Rok u → decode cX2_removePart pc = .ok (.return_, 1) → W p l e rmX2_removePart s m args below meth c H locs 0 0 Q (F0 m pc ls [])) (rx0 : rowB x0 = true) : ∀ (n : Nat) (σ : St) (x4 : Int32), wX2_removePart_L25 K x0 x3 n σ x4 → ∀ (H : Heap) (locs : List Loc), Sy D 132 ad A H0 (obC ad ci σ) H locs → Rok σ → ∀ ls : Array Slot, lv_has ls 5 [(0, .ref (ad x0)), (3, .int x3), (4, .int x4)] → W p l e rmX2_removePart s m args below meth c H locs 0 0 Q (F0 m 25 ls []) := by
  obtain ⟨hx, hb, hml, hown, hts⟩ := id C0
  intro n
  induction n with
  | zero =>
    intro σ x4 h
    exact h.elim
  | succ n ih =>
    intro σ x4 h H locs hY hR  ls hl
    refine lv_iload hx hb dX2_removePart_25 (lv_at hl 2 rfl) ?_
    refine lv_aload_n hx hb dX2_removePart_27 rfl (lv_at hl 0 rfl) ?_
    refine w_get (o := x0) (ci := 2) (C := RX2) (T := TX2) (N1 := 2) (v := .int (gI σ x0)) hx hb hts kX2_removePart_inX2 hown hK.1 hY (rowB_lt rx0) (obC_row rx0) rfl 1 (by decide) (hts _ kX2_removePart_0) rfl rfl dX2_removePart_28 ?_
    refine lv_icmp_ge (tgt := 56) hx hb dX2_removePart_31 (by decide) (fun c_1 => ?_) (fun c_1 => ?_)
    · have h := h.1 c_1
      refine lv_aload_n hx hb dX2_removePart_56 rfl (lv_at hl 0 rfl) ?_
      refine lv_dup hx hb dX2_removePart_57 rfl ?_
      refine w_get (o := x0) (ci := 2) (C := RX2) (T := TX2) (N1 := 2) (v := .int (gI σ x0)) hx hb hts kX2_removePart_inX2 hown hK.1 hY (rowB_lt rx0) (obC_row rx0) rfl 1 (by decide) (hts _ kX2_removePart_0) rfl rfl dX2_removePart_58 ?_
      refine lv_iload_n hx hb dX2_removePart_61 rfl (lv_at hl 1 rfl) ?_
      refine lv_isub hx hb dX2_removePart_62 ?_
      obtain ⟨σ_2, e_σ_2⟩ : ∃ z : St, z = pI σ x0 ((gI σ x0) - x3) := ⟨_, rfl⟩
      have h := h σ_2 e_σ_2
      have hR_σ_2 : Rok σ_2 := by rw [e_σ_2]; exact hR
      refine w_put (o := x0) (ci := 2) (C := RX2) (T := TX2) (N1 := 2) hx hb hts kX2_removePart_inX2 tyX2 tyX2_ok nmX2 hown hK.1 hY (rowB_lt rx0) (obC_row rx0) rfl 1 (by decide) (hts _ kX2_removePart_0) rfl rfl rfl (Nat.le_of_ble_eq_true rfl) dX2_removePart_63 (ob' := obC ad ci σ_2) (by rw [e_σ_2]; exact obC_pI_row rx0) (fun H locs hY => ?_)
      exact hret σ_2 _ _ _ _ h hY hR_σ_2 dX2_removePart_66
    · have h := h.2 c_1
      refine lv_aload_n hx hb dX2_removePart_34 rfl (lv_at hl 0 rfl) ?_
      refine w_get (o := x0) (ci := 2) (C := RX2) (T := TX2) (N1 := 2) (v := .ref (ad (x0 + 1))) hx hb hts kX2_removePart_inX2 hown hK.1 hY (rowB_lt rx0) (obC_row rx0) rfl 0 (by decide) (hts _ kX2_removePart_2) rfl rfl dX2_removePart_35 ?_
      refine lv_iload hx hb dX2_removePart_38 (lv_at hl 2 rfl) ?_
      refine lv_iload_n hx hb dX2_removePart_40 rfl (lv_at hl 1 rfl) ?_
      refine lv_isub hx hb dX2_removePart_41 ?_
      refine lv_aload_n hx hb dX2_removePart_42 rfl (lv_at hl 0 rfl) ?_
      refine w_get (o := x0) (ci := 2) (C := RX2) (T := TX2) (N1 := 2) (v := .ref (ad (x0 + 1))) hx hb hts kX2_removePart_inX2 hown hK.1 hY (rowB_lt rx0) (obC_row rx0) rfl 0 (by decide) (hts _ kX2_removePart_2) rfl rfl dX2_removePart_43 ?_
      refine lv_iload hx hb dX2_removePart_46 (lv_at hl 2 rfl) ?_
      obtain ⟨b_3, h⟩ := h
      refine w_cald (o := (x0 + 1)) hx hb hK.1 hY (rowB_1 rx0).1 0 (obC_chars rx0) rfl b_3 dX2_removePart_48 ?_
      obtain ⟨b_4, h⟩ := h
      obtain ⟨σ_5, e_σ_5⟩ : ∃ z : St, z = pA σ x0 ((x4 - x3)).toNatClampNeg (vp_nar .char (gA σ x0 (x4).toNatClampNeg)) := ⟨_, rfl⟩
      have h := h σ_5 e_σ_5
      have hR_σ_5 : Rok σ_5 := by rw [e_σ_5]; exact hR
      refine w_cast (o := (x0 + 1)) hx hb hK.1 hY (rowB_1 rx0).1 0 (obC_chars rx0) rfl b_4 dX2_removePart_49 (ob' := obC ad ci σ_5) (by rw [e_σ_5]; exact obC_pA_row rx0) (fun H locs hY => ?_)
      refine lv_iinc (v := (x4 + 1)) (lv' := [(4, .int (x4 + 1)), (0, .ref (ad x0)), (3, .int x3)]) hx hb dX2_removePart_50 hl (k := 2) rfl rfl (by decide) rfl (fun ls hl => ?_)
      refine lv_goto (tgt := 25) hx hb dX2_removePart_53 (by decide) ?_
      exact ih σ_5 (x4 + 1) h _ _ hY hR_σ_5  _ (lv_sub hl [1, 2, 0] rfl)
set_option maxHeartbeats 4000000 in
set_option maxRecDepth 100000 in
theorem eX2_removePart (C0 : CallFix p m c cX2_removePart 5 s args wsX2_removePart RX2) (hK : Kx D (tyC ci) s) (K : St → Prop) (σ : St) (hret : ∀ (u : St) (H : Heap) (locs : List Loc) (pc : Nat) (ls : Array Slot), K u → Sy D 132 ad A H0 (obC ad ci u) H locs → Rok u → decode cX2_removePart pc = .ok (.return_, 1) → W p l e rmX2_removePart s m args below meth c H locs 0 0 Q (F0 m pc ls [])) (x0 : Nat) (x1 : Int32) (x2 : Int32) (rx0 : rowB x0 = true) (h : wX2_removePart σ x0 x1 x2 K) (H : Heap) (locs : List Loc) (hY : Sy D 132 ad A H0 (obC ad ci σ) H locs) (hR : Rok σ) (ls : Array Slot) (hl : lv_has ls 5 [(0, .ref (ad x0)), (1, .int x1), (2, .int x2)]) : W p l e rmX2_removePart s m args below meth c H locs 0 0 Q (F0 m 0 ls []) := by
  obtain ⟨hx, hb, hml, hown, hts⟩ := id C0
  refine lv_iload_n hx hb dX2_removePart_0 rfl (lv_at hl 1 rfl) ?_
  refine lv_if_lt (tgt := 17) hx hb dX2_removePart_1 (by decide) (fun c_6 => ?_) (fun c_6 => ?_)
  · have h := h.1 c_6
    exact hret σ _ _ _ _ h hY hR dX2_removePart_17
  · have h := h.2 c_6
    refine lv_iload_n hx hb dX2_removePart_4 rfl (lv_at hl 2 rfl) ?_
    refine lv_iload_n hx hb dX2_removePart_5 rfl (lv_at hl 1 rfl) ?_
    refine lv_icmp_lt (tgt := 17) hx hb dX2_removePart_6 (by decide) (fun c_7 => ?_) (fun c_7 => ?_)
    · have h := h.1 c_7
      exact hret σ _ _ _ _ h hY hR dX2_removePart_17
    · have h := h.2 c_7
      refine lv_iload_n hx hb dX2_removePart_9 rfl (lv_at hl 2 rfl) ?_
      refine lv_aload_n hx hb dX2_removePart_10 rfl (lv_at hl 0 rfl) ?_
      refine w_get (o := x0) (ci := 2) (C := RX2) (T := TX2) (N1 := 2) (v := .int (gI σ x0)) hx hb hts kX2_removePart_inX2 hown hK.1 hY (rowB_lt rx0) (obC_row rx0) rfl 1 (by decide) (hts _ kX2_removePart_0) rfl rfl dX2_removePart_11 ?_
      refine lv_icmp_le (tgt := 18) hx hb dX2_removePart_14 (by decide) (fun c_8 => ?_) (fun c_8 => ?_)
      · have h := h.1 c_8
        refine lv_iload_n hx hb dX2_removePart_18 rfl (lv_at hl 2 rfl) ?_
        refine lv_iload_n hx hb dX2_removePart_19 rfl (lv_at hl 1 rfl) ?_
        refine lv_isub hx hb dX2_removePart_20 ?_
        refine lv_istore_n (lv' := [(3, .int (x2 - x1)), (0, .ref (ad x0)), (1, .int x1), (2, .int x2)]) hx hb dX2_removePart_21 rfl hl (by decide) rfl (fun ls hl => ?_)
        refine lv_iload_n hx hb dX2_removePart_22 rfl (lv_at hl 3 rfl) ?_
        refine lv_istore (lv' := [(4, .int x2), (3, .int (x2 - x1)), (0, .ref (ad x0)), (1, .int x1), (2, .int x2)]) hx hb dX2_removePart_23 hl (by decide) rfl (fun ls hl => ?_)
        obtain ⟨n_9, h⟩ := h
        exact tX2_removePart_L25 C0 hK K x0 (x2 - x1) hret rx0 n_9 σ x2 h _ _ hY hR  _ (lv_sub hl [2, 1, 0] rfl)
      · have h := h.2 c_8
        exact hret σ _ _ _ _ h hY hR dX2_removePart_17
set_option maxHeartbeats 4000000 in
set_option maxRecDepth 100000 in
theorem mX2_removePart (l : Launch) (D : va_G) (ad : Nat → Nat) (ci : Nat → ClassId) (A : Nat → Prop) (σ : St) (x0 : Nat) (x1 : Int32) (x2 : Int32) (K : St → Prop) (hR : Rok σ) (rx0 : rowB x0 = true) (h : wX2_removePart σ x0 x1 x2 K) : Met l yX2_removePart wsX2_removePart rmX2_removePart (va_Pc [.ref (ad x0), .int x1, .int x2] (PreW D 132 ad A (tyC ci) (obC ad ci σ))) (va_Qv (fun u => K u) (PostW D 132 ad (tyC ci) (obC ad ci) Rok) A) 0 0 A := by
  refine Met.ofW (cc := cX2_removePart) (maxL := 5) (ret := none) (by decide) rfl ?_
  intro p e s m args below meth c s₁ B hml hv
  obtain ⟨rfl, hP, hK, hD⟩ := hv
  have C0 : CallFix p m c cX2_removePart 5 s _ wsX2_removePart RX2 := ⟨B.exec, B.bytes, hml, findClass_of_methodNamed B.named, atoms_spec (ws := wsX2_removePart) B.pre⟩
  have hlocks := B.notSynchronized
  have hY : Sy D 132 ad A s.heap (obC ad ci σ) s.heap [] := ⟨hP, hD, va_S.rf⟩
  have hl := lv_entry ([.ref (ad x0), .int x1, .int x2]) (n := 5) (Nat.le_of_ble_eq_true rfl)
  rw [lg_entry_eq]
  generalize (lg_sl ([.ref (ad x0), .int x1, .int x2]) ++ List.replicate (5 - (lg_sl ([.ref (ad x0), .int x1, .int x2])).length) Slot.unset).toArray = ls at hl ⊢
  exact eX2_removePart C0 hK K σ (fun u H locs pc ls hk hY hR hd => w_vret (I := Rok) B.exec B.bytes B.returns hlocks hK hk (fun t ht => ht) hY hR hd) x0 x1 x2 rx0 h _ _ hY hR ls hl
set_option maxHeartbeats 4000000 in
set_option maxRecDepth 100000 in
theorem tX2_reverse_J51 (C0 : CallFix p m c cX2_reverse 5 s args wsX2_reverse RX2) (hK : Kx D (tyC ci) s) (K : Int32 → St → Prop) (B4 : St → Int32 → Int32 → Prop) (σ : St) (x0 : Nat) (x2 : Int32) (x3 : Int32) (x4 : Int32) (s0 : Int32) (hret : ∀ (r : Int32) (u : St) (H : Heap) (locs : List Loc) (pc : Nat) (ls : Array Slot), narrow .boolean (.int r) = .int r → K r u → Sy D 132 ad A H0 (obC ad ci u) H locs → Rok u → decode cX2_reverse pc = .ok (.ireturn, 1) → W p l e rmX2_reverse s m args below meth c H locs 0 0 Q (F0 m pc ls [.int r])) (hB4 : ∀ (σ : St) (x1 : Int32) (x2 : Int32), B4 σ x1 x2 → ∀ (H : Heap) (locs : List Loc), Sy D 132 ad A H0 (obC ad ci σ) H locs → Rok σ → ∀ ls : Array Slot, lv_has ls 5 [(0, .ref (ad x0)), (1, .int x1), (2, .int x2)] → W p l e rmX2_reverse s m args below meth c H locs 0 0 Q (F0 m 4 ls [])) (rx0 : rowB x0 = true) (h : wX2_reverse_J51 K B4 σ x0 x2 x3 x4 s0) (H : Heap) (locs : List Loc) (hY : Sy D 132 ad A H0 (obC ad ci σ) H locs) (hR : Rok σ) (ls : Array Slot) (hl : lv_has ls 5 [(0, .ref (ad x0)), (2, .int x2), (3, .int x3), (4, .int x4)]) : W p l e rmX2_reverse s m args below meth c H locs 0 0 Q (F0 m 51 ls [.int s0]) := by
  obtain ⟨hx, hb, hml, hown, hts⟩ := id C0
  refine lv_istore_n (lv' := [(1, .int s0), (0, .ref (ad x0)), (2, .int x2), (3, .int x3), (4, .int x4)]) hx hb dX2_reverse_51 rfl hl (by decide) rfl (fun ls hl => ?_)
  refine lv_aload_n hx hb dX2_reverse_52 rfl (lv_at hl 1 rfl) ?_
  refine w_get (o := x0) (ci := 2) (C := RX2) (T := TX2) (N1 := 2) (v := .ref (ad (x0 + 1))) hx hb hts kX2_reverse_inX2 hown hK.1 hY (rowB_lt rx0) (obC_row rx0) rfl 0 (by decide) (hts _ kX2_reverse_0) rfl rfl dX2_reverse_53 ?_
  refine lv_iload_n hx hb dX2_reverse_56 rfl (lv_at hl 2 rfl) ?_
  refine lv_aload_n hx hb dX2_reverse_57 rfl (lv_at hl 1 rfl) ?_
  refine w_get (o := x0) (ci := 2) (C := RX2) (T := TX2) (N1 := 2) (v := .ref (ad (x0 + 1))) hx hb hts kX2_reverse_inX2 hown hK.1 hY (rowB_lt rx0) (obC_row rx0) rfl 0 (by decide) (hts _ kX2_reverse_0) rfl rfl dX2_reverse_58 ?_
  refine lv_iload_n hx hb dX2_reverse_61 rfl (lv_at hl 3 rfl) ?_
  obtain ⟨b_1, h⟩ := h
  refine w_cald (o := (x0 + 1)) hx hb hK.1 hY (rowB_1 rx0).1 0 (obC_chars rx0) rfl b_1 dX2_reverse_62 ?_
  obtain ⟨b_2, h⟩ := h
  obtain ⟨σ_3, e_σ_3⟩ : ∃ z : St, z = pA σ x0 (x2).toNatClampNeg (vp_nar .char (gA σ x0 (x3).toNatClampNeg)) := ⟨_, rfl⟩
  have h := h σ_3 e_σ_3
  have hR_σ_3 : Rok σ_3 := by rw [e_σ_3]; exact hR
  refine w_cast (o := (x0 + 1)) hx hb hK.1 hY (rowB_1 rx0).1 0 (obC_chars rx0) rfl b_2 dX2_reverse_63 (ob' := obC ad ci σ_3) (by rw [e_σ_3]; exact obC_pA_row rx0) (fun H locs hY => ?_)
  refine lv_aload_n hx hb dX2_reverse_64 rfl (lv_at hl 1 rfl) ?_
  refine w_get (o := x0) (ci := 2) (C := RX2) (T := TX2) (N1 := 2) (v := .ref (ad (x0 + 1))) hx hb hts kX2_reverse_inX2 hown hK.1 hY (rowB_lt rx0) (obC_row rx0) rfl 0 (by decide) (hts _ kX2_reverse_0) rfl rfl dX2_reverse_65 ?_
  refine lv_iload_n hx hb dX2_reverse_68 rfl (lv_at hl 3 rfl) ?_
  refine lv_iload hx hb dX2_reverse_69 (lv_at hl 4 rfl) ?_
  obtain ⟨b_4, h⟩ := h
  obtain ⟨σ_5, e_σ_5⟩ : ∃ z : St, z = pA σ_3 x0 (x3).toNatClampNeg (vp_nar .char x4) := ⟨_, rfl⟩
  have h := h σ_5 e_σ_5
  have hR_σ_5 : Rok σ_5 := by rw [e_σ_5]; exact hR_σ_3
  refine w_cast (o := (x0 + 1)) hx hb hK.1 hY (rowB_1 rx0).1 0 (obC_chars rx0) rfl b_4 dX2_reverse_71 (ob' := obC ad ci σ_5) (by rw [e_σ_5]; exact obC_pA_row rx0) (fun H locs hY => ?_)
  refine lv_iinc (v := (x2 + 1)) (lv' := [(2, .int (x2 + 1)), (1, .int s0), (0, .ref (ad x0)), (3, .int x3), (4, .int x4)]) hx hb dX2_reverse_72 hl (k := 2) rfl rfl (by decide) rfl (fun ls hl => ?_)
  refine lv_goto (tgt := 4) hx hb dX2_reverse_75 (by decide) ?_
  exact hB4 σ_5 s0 (x2 + 1) h _ _ hY hR_σ_5  _ (lv_sub hl [2, 1, 0] rfl)
set_option maxHeartbeats 4000000 in
set_option maxRecDepth 100000 in
theorem tX2_reverse_J50 (C0 : CallFix p m c cX2_reverse 5 s args wsX2_reverse RX2) (hK : Kx D (tyC ci) s) (K : Int32 → St → Prop) (B4 : St → Int32 → Int32 → Prop) (σ : St) (x0 : Nat) (x2 : Int32) (x3 : Int32) (x4 : Int32) (hret : ∀ (r : Int32) (u : St) (H : Heap) (locs : List Loc) (pc : Nat) (ls : Array Slot), narrow .boolean (.int r) = .int r → K r u → Sy D 132 ad A H0 (obC ad ci u) H locs → Rok u → decode cX2_reverse pc = .ok (.ireturn, 1) → W p l e rmX2_reverse s m args below meth c H locs 0 0 Q (F0 m pc ls [.int r])) (hB4 : ∀ (σ : St) (x1 : Int32) (x2 : Int32), B4 σ x1 x2 → ∀ (H : Heap) (locs : List Loc), Sy D 132 ad A H0 (obC ad ci σ) H locs → Rok σ → ∀ ls : Array Slot, lv_has ls 5 [(0, .ref (ad x0)), (1, .int x1), (2, .int x2)] → W p l e rmX2_reverse s m args below meth c H locs 0 0 Q (F0 m 4 ls [])) (rx0 : rowB x0 = true) (h : wX2_reverse_J50 K B4 σ x0 x2 x3 x4) (H : Heap) (locs : List Loc) (hY : Sy D 132 ad A H0 (obC ad ci σ) H locs) (hR : Rok σ) (ls : Array Slot) (hl : lv_has ls 5 [(0, .ref (ad x0)), (2, .int x2), (3, .int x3), (4, .int x4)]) : W p l e rmX2_reverse s m args below meth c H locs 0 0 Q (F0 m 50 ls []) := by
  obtain ⟨hx, hb, hml, hown, hts⟩ := id C0
  refine lv_iconst (v := (0 : Int32)) hx hb dX2_reverse_50 (by decide) ?_
  exact tX2_reverse_J51 C0 hK K B4 σ x0 x2 x3 x4 (0 : Int32) hret hB4 rx0 h _ _ hY hR _ (lv_sub hl [0, 1, 2, 3] rfl)
set_option maxHeartbeats 4000000 in
set_option maxRecDepth 100000 in
theorem tX2_reverse_L4 (C0 : CallFix p m c cX2_reverse 5 s args wsX2_reverse RX2) (hK : Kx D (tyC ci) s) (K : Int32 → St → Prop) (x0 : Nat) (hret : ∀ (r : Int32) (u : St) (H : Heap) (locs : List Loc) (pc : Nat) (ls : Array Slot), narrow .boolean (.int r) = .int r → K r u → Sy D 132 ad A H0 (obC ad ci u) H locs → Rok u → decode cX2_reverse pc = .ok (.ireturn, 1) → W p l e rmX2_reverse s m args below meth c H locs 0 0 Q (F0 m pc ls [.int r])) (rx0 : rowB x0 = true) : ∀ (n : Nat) (σ : St) (x1 : Int32) (x2 : Int32), wX2_reverse_L4 K x0 n σ x1 x2 → ∀ (H : Heap) (locs : List Loc), Sy D 132 ad A H0 (obC ad ci σ) H locs → Rok σ → ∀ ls : Array Slot, lv_has ls 5 [(0, .ref (ad x0)), (1, .int x1), (2, .int x2)] → W p l e rmX2_reverse s m args below meth c H locs 0 0 Q (F0 m 4 ls []) := by
  obtain ⟨hx, hb, hml, hown, hts⟩ := id C0
  intro n
  induction n with
  | zero =>
    intro σ x1 x2 h
    exact h.elim
  | succ n ih =>
    intro σ x1 x2 h H locs hY hR  ls hl
    refine lv_iload_n hx hb dX2_reverse_4 rfl (lv_at hl 2 rfl) ?_
    refine lv_aload_n hx hb dX2_reverse_5 rfl (lv_at hl 0 rfl) ?_
    refine w_get (o := x0) (ci := 2) (C := RX2) (T := TX2) (N1 := 2) (v := .int (gI σ x0)) hx hb hts kX2_reverse_inX2 hown hK.1 hY (rowB_lt rx0) (obC_row rx0) rfl 1 (by decide) (hts _ kX2_reverse_2) rfl rfl dX2_reverse_6 ?_
    refine lv_iconst (v := (2 : Int32)) hx hb dX2_reverse_9 (by decide) ?_
    refine lv_idiv hx hb dX2_reverse_10 (by decide) ?_
    refine lv_icmp_ge (tgt := 78) hx hb dX2_reverse_11 (by decide) (fun c_6 => ?_) (fun c_6 => ?_)
    · have h := h.1 c_6
      refine lv_iload_n hx hb dX2_reverse_78 rfl (lv_at hl 1 rfl) ?_
      obtain ⟨nr, h⟩ := h
      exact hret x1 σ _ _ _ _ nr h hY hR dX2_reverse_79
    · have h := h.2 c_6
      refine lv_aload_n hx hb dX2_reverse_14 rfl (lv_at hl 0 rfl) ?_
      refine w_get (o := x0) (ci := 2) (C := RX2) (T := TX2) (N1 := 2) (v := .int (gI σ x0)) hx hb hts kX2_reverse_inX2 hown hK.1 hY (rowB_lt rx0) (obC_row rx0) rfl 1 (by decide) (hts _ kX2_reverse_2) rfl rfl dX2_reverse_15 ?_
      refine lv_iconst (v := (1 : Int32)) hx hb dX2_reverse_18 (by decide) ?_
      refine lv_isub hx hb dX2_reverse_19 ?_
      refine lv_iload_n hx hb dX2_reverse_20 rfl (lv_at hl 2 rfl) ?_
      refine lv_isub hx hb dX2_reverse_21 ?_
      refine lv_topi (fun x3_7 e_x3_7 => ?_)
      have h := h x3_7 e_x3_7
      refine lv_istore_n (lv' := [(3, .int x3_7), (0, .ref (ad x0)), (1, .int x1), (2, .int x2)]) hx hb dX2_reverse_22 rfl hl (by decide) rfl (fun ls hl => ?_)
      refine lv_aload_n hx hb dX2_reverse_23 rfl (lv_at hl 1 rfl) ?_
      refine w_get (o := x0) (ci := 2) (C := RX2) (T := TX2) (N1 := 2) (v := .ref (ad (x0 + 1))) hx hb hts kX2_reverse_inX2 hown hK.1 hY (rowB_lt rx0) (obC_row rx0) rfl 0 (by decide) (hts _ kX2_reverse_0) rfl rfl dX2_reverse_24 ?_
      refine lv_iload_n hx hb dX2_reverse_27 rfl (lv_at hl 3 rfl) ?_
      obtain ⟨b_8, h⟩ := h
      refine w_cald (o := (x0 + 1)) hx hb hK.1 hY (rowB_1 rx0).1 0 (obC_chars rx0) rfl b_8 dX2_reverse_28 ?_
      refine lv_topi (fun x4_9 e_x4_9 => ?_)
      have h := h x4_9 e_x4_9
      refine lv_istore (lv' := [(4, .int x4_9), (3, .int x3_7), (0, .ref (ad x0)), (1, .int x1), (2, .int x2)]) hx hb dX2_reverse_29 hl (by decide) rfl (fun ls hl => ?_)
      refine lv_iload_n hx hb dX2_reverse_31 rfl (lv_at hl 3 rfl) ?_
      refine lv_if_eq (tgt := 50) hx hb dX2_reverse_32 (by decide) (fun c_10 => ?_) (fun c_10 => ?_)
      · have h := h.1 c_10
        exact tX2_reverse_J50 C0 hK K (wX2_reverse_L4 K x0 n) σ x0 x2 x3_7 x4_9 hret ih rx0 h _ _ hY hR _ (lv_sub hl [2, 4, 1, 0] rfl)
      · have h := h.2 c_10
        refine lv_iload hx hb dX2_reverse_35 (lv_at hl 0 rfl) ?_
        refine lv_aload_n hx hb dX2_reverse_37 rfl (lv_at hl 2 rfl) ?_
        refine w_get (o := x0) (ci := 2) (C := RX2) (T := TX2) (N1 := 2) (v := .ref (ad (x0 + 1))) hx hb hts kX2_reverse_inX2 hown hK.1 hY (rowB_lt rx0) (obC_row rx0) rfl 0 (by decide) (hts _ kX2_reverse_0) rfl rfl dX2_reverse_38 ?_
        refine lv_iload_n hx hb dX2_reverse_41 rfl (lv_at hl 1 rfl) ?_
        obtain ⟨b_11, h⟩ := h
        refine w_cald (o := (x0 + 1)) hx hb hK.1 hY (rowB_1 rx0).1 0 (obC_chars rx0) rfl b_11 dX2_reverse_42 ?_
        refine lv_icmp_ne (tgt := 50) hx hb dX2_reverse_43 (by decide) (fun c_12 => ?_) (fun c_12 => ?_)
        · have h := h.2 c_12
          exact tX2_reverse_J50 C0 hK K (wX2_reverse_L4 K x0 n) σ x0 x2 x3_7 x4_9 hret ih rx0 h _ _ hY hR _ (lv_sub hl [2, 4, 1, 0] rfl)
        · have h := h.1 c_12
          refine lv_iconst (v := (1 : Int32)) hx hb dX2_reverse_46 (by decide) ?_
          refine lv_goto (tgt := 51) hx hb dX2_reverse_47 (by decide) ?_
          exact tX2_reverse_J51 C0 hK K (wX2_reverse_L4 K x0 n) σ x0 x2 x3_7 x4_9 (1 : Int32) hret ih rx0 h _ _ hY hR _ (lv_sub hl [2, 4, 1, 0] rfl)
set_option maxHeartbeats 4000000 in
set_option maxRecDepth 100000 in
theorem eX2_reverse (C0 : CallFix p m c cX2_reverse 5 s args wsX2_reverse RX2) (hK : Kx D (tyC ci) s) (K : Int32 → St → Prop) (σ : St) (hret : ∀ (r : Int32) (u : St) (H : Heap) (locs : List Loc) (pc : Nat) (ls : Array Slot), narrow .boolean (.int r) = .int r → K r u → Sy D 132 ad A H0 (obC ad ci u) H locs → Rok u → decode cX2_reverse pc = .ok (.ireturn, 1) → W p l e rmX2_reverse s m args below meth c H locs 0 0 Q (F0 m pc ls [.int r])) (x0 : Nat) (rx0 : rowB x0 = true) (h : wX2_reverse σ x0 K) (H : Heap) (locs : List Loc) (hY : Sy D 132 ad A H0 (obC ad ci σ) H locs) (hR : Rok σ) (ls : Array Slot) (hl : lv_has ls 5 [(0, .ref (ad x0))]) : W p l e rmX2_reverse s m args below meth c H locs 0 0 Q (F0 m 0 ls []) := by
  obtain ⟨hx, hb, hml, hown, hts⟩ := id C0
  refine lv_iconst (v := (1 : Int32)) hx hb dX2_reverse_0 (by decide) ?_
  refine lv_istore_n (lv' := [(1, .int (1 : Int32)), (0, .ref (ad x0))]) hx hb dX2_reverse_1 rfl hl (by decide) rfl (fun ls hl => ?_)
  refine lv_iconst (v := (0 : Int32)) hx hb dX2_reverse_2 (by decide) ?_
  refine lv_istore_n (lv' := [(2, .int (0 : Int32)), (1, .int (1 : Int32)), (0, .ref (ad x0))]) hx hb dX2_reverse_3 rfl hl (by decide) rfl (fun ls hl => ?_)
  obtain ⟨n_13, h⟩ := h
  exact tX2_reverse_L4 C0 hK K x0 hret rx0 n_13 σ (1 : Int32) (0 : Int32) h _ _ hY hR  _ (lv_sub hl [2, 1, 0] rfl)
set_option maxHeartbeats 4000000 in
set_option maxRecDepth 100000 in
theorem mX2_reverse (l : Launch) (D : va_G) (ad : Nat → Nat) (ci : Nat → ClassId) (A : Nat → Prop) (σ : St) (x0 : Nat) (K : Int32 → St → Prop) (hR : Rok σ) (rx0 : rowB x0 = true) (h : wX2_reverse σ x0 K) : Met l yX2_reverse wsX2_reverse rmX2_reverse (va_Pc [.ref (ad x0)] (PreW D 132 ad A (tyC ci) (obC ad ci σ))) (va_Qi (fun r u => narrow .boolean (.int r) = .int r ∧ K r u) (PostW D 132 ad (tyC ci) (obC ad ci) Rok) A) 0 0 A := by
  refine Met.ofW (cc := cX2_reverse) (maxL := 5) (ret := (some .boolean)) (by decide) rfl ?_
  intro p e s m args below meth c s₁ B hml hv
  obtain ⟨rfl, hP, hK, hD⟩ := hv
  have C0 : CallFix p m c cX2_reverse 5 s _ wsX2_reverse RX2 := ⟨B.exec, B.bytes, hml, findClass_of_methodNamed B.named, atoms_spec (ws := wsX2_reverse) B.pre⟩
  have hlocks := B.notSynchronized
  have hY : Sy D 132 ad A s.heap (obC ad ci σ) s.heap [] := ⟨hP, hD, va_S.rf⟩
  have hl := lv_entry ([.ref (ad x0)]) (n := 5) (Nat.le_of_ble_eq_true rfl)
  rw [lg_entry_eq]
  generalize (lg_sl ([.ref (ad x0)]) ++ List.replicate (5 - (lg_sl ([.ref (ad x0)])).length) Slot.unset).toArray = ls at hl ⊢
  exact eX2_reverse C0 hK K σ (fun r u H locs pc ls hn hk hY hR hd => w_zret (I := Rok) B.exec B.bytes B.returns hn hlocks hK ⟨hn, hk⟩ (fun t ht => ht) hY hR hd) x0 rx0 h _ _ hY hR ls hl
set_option maxHeartbeats 4000000 in
set_option maxRecDepth 100000 in
theorem tX2_becomePart_L7 (C0 : CallFix p m c cX2_becomePart 5 s args wsX2_becomePart RX2) (hK : Kx D (tyC ci) s) (K : St → Prop) (x0 : Nat) (x1 : Nat) (x3 : Int32) (hret : ∀ (u : St) (H : Heap) (locs : List Loc) (pc : Nat) (ls : Array Slot), K u → Sy D 132 ad A H0 (obC ad ci u) H locs → Rok u → decode cX2_becomePart pc = .ok (.return_, 1) → W p l e rmX2_becomePart s m args below meth c H locs 0 0 Q (F0 m pc ls [])) (rx0 : rowB x0 = true) (rx1 : rowB x1 = true) : ∀ (n : Nat) (σ : St) (x4 : Int32), wX2_becomePart_L7 K x0 x1 x3 n σ x4 → ∀ (H : Heap) (locs : List Loc), Sy D 132 ad A H0 (obC ad ci σ) H locs → Rok σ → ∀ ls : Array Slot, lv_has ls 5 [(0, .ref (ad x0)), (1, .ref (ad x1)), (3, .int x3), (4, .int x4)] → W p l e rmX2_becomePart s m args below meth c H locs 0 0 Q (F0 m 7 ls []) := by
  obtain ⟨hx, hb, hml, hown, hts⟩ := id C0
  intro n
  induction n with
  | zero =>
    intro σ x4 h
    exact h.elim
  | succ n ih =>
    intro σ x4 h H locs hY hR  ls hl
    refine lv_iload hx hb dX2_becomePart_7 (lv_at hl 3 rfl) ?_
    refine lv_iload_n hx hb dX2_becomePart_9 rfl (lv_at hl 2 rfl) ?_
    refine lv_icmp_ge (tgt := 29) hx hb dX2_becomePart_10 (by decide) (fun c_1 => ?_) (fun c_1 => ?_)
    · have h := h.1 c_1
      exact hret σ _ _ _ _ h hY hR dX2_becomePart_29
    · have h := h.2 c_1
      refine lv_aload_n hx hb dX2_becomePart_13 rfl (lv_at hl 0 rfl) ?_
      refine lv_aload_n hx hb dX2_becomePart_14 rfl (lv_at hl 1 rfl) ?_
      refine lv_iload hx hb dX2_becomePart_15 (lv_at hl 3 rfl) ?_
      refine w_callip (rest := [.ref (ad x0)]) (va_runV (As := [.int x4]) (rest := [.ref (ad x0)]) C0 (mX2_at l D ad ci A σ x1 x4 _ hR rx1 h) (cwV 1 hts gX2_becomePart_X2_at rfl rfl rfl ddX2_at ⟨Nat.le_of_ble_eq_true rfl, Nat.le_of_ble_eq_true rfl⟩) (w_preV (o := x1) (ci := 2) (ob := obC ad ci) (σ := σ) hK hY (rowB_lt rx1) (obC_row rx1) rfl rfl) rfl rfl hl.1 rfl (lv_room (Nat.le_of_ble_eq_true rfl)) dX2_becomePart_17 ⟨Nat.zero_le _, Nat.zero_le _⟩) hY (fun r_2 H locs h hY => ?_)
      obtain ⟨n_r_2, h⟩ := h
      refine w_callv (rest := []) (va_runV (As := [.int r_2]) (rest := []) C0 (mX2_append l D ad ci A σ x0 r_2 _ hR rx0 h) (cwV 1 hts gX2_becomePart_X2_append rfl rfl rfl ddX2_append ⟨Nat.le_of_ble_eq_true rfl, Nat.le_of_ble_eq_true rfl⟩) (w_preV (o := x0) (ci := 2) (ob := obC ad ci) (σ := σ) hK hY (rowB_lt rx0) (obC_row rx0) rfl rfl) rfl rfl hl.1 rfl (lv_room (Nat.le_of_ble_eq_true rfl)) dX2_becomePart_20 ⟨Nat.zero_le _, Nat.zero_le _⟩) hY (fun σ_4 H locs h hY hR_σ_4 => ?_)
      refine lv_iinc (v := (x4 + 1)) (lv' := [(4, .int (x4 + 1)), (0, .ref (ad x0)), (1, .ref (ad x1)), (3, .int x3)]) hx hb dX2_becomePart_23 hl (k := 3) rfl rfl (by decide) rfl (fun ls hl => ?_)
      refine lv_goto (tgt := 7) hx hb dX2_becomePart_26 (by decide) ?_
      exact ih σ_4 (x4 + 1) h _ _ hY hR_σ_4  _ (lv_sub hl [1, 2, 3, 0] rfl)
set_option maxHeartbeats 4000000 in
set_option maxRecDepth 100000 in
theorem eX2_becomePart (C0 : CallFix p m c cX2_becomePart 5 s args wsX2_becomePart RX2) (hK : Kx D (tyC ci) s) (K : St → Prop) (σ : St) (hret : ∀ (u : St) (H : Heap) (locs : List Loc) (pc : Nat) (ls : Array Slot), K u → Sy D 132 ad A H0 (obC ad ci u) H locs → Rok u → decode cX2_becomePart pc = .ok (.return_, 1) → W p l e rmX2_becomePart s m args below meth c H locs 0 0 Q (F0 m pc ls [])) (x0 : Nat) (x1 : Nat) (x2 : Int32) (x3 : Int32) (rx0 : rowB x0 = true) (rx1 : rowB x1 = true) (h : wX2_becomePart σ x0 x1 x2 x3 K) (H : Heap) (locs : List Loc) (hY : Sy D 132 ad A H0 (obC ad ci σ) H locs) (hR : Rok σ) (ls : Array Slot) (hl : lv_has ls 5 [(0, .ref (ad x0)), (1, .ref (ad x1)), (2, .int x2), (3, .int x3)]) : W p l e rmX2_becomePart s m args below meth c H locs 0 0 Q (F0 m 0 ls []) := by
  obtain ⟨hx, hb, hml, hown, hts⟩ := id C0
  refine lv_aload_n hx hb dX2_becomePart_0 rfl (lv_at hl 0 rfl) ?_
  refine w_callv (rest := []) (va_runV (As := []) (rest := []) C0 (mX2_clear l D ad ci A σ x0 _ hR rx0 h) (cwV 0 hts gX2_becomePart_X2_clear rfl rfl rfl ddX2_clear ⟨Nat.le_of_ble_eq_true rfl, Nat.le_of_ble_eq_true rfl⟩) (w_preV (o := x0) (ci := 2) (ob := obC ad ci) (σ := σ) hK hY (rowB_lt rx0) (obC_row rx0) rfl rfl) rfl rfl hl.1 rfl (lv_room (Nat.le_of_ble_eq_true rfl)) dX2_becomePart_1 ⟨Nat.zero_le _, Nat.zero_le _⟩) hY (fun σ_6 H locs h hY hR_σ_6 => ?_)
  refine lv_iload_n hx hb dX2_becomePart_4 rfl (lv_at hl 2 rfl) ?_
  refine lv_istore (lv' := [(4, .int x2), (0, .ref (ad x0)), (1, .ref (ad x1)), (2, .int x2), (3, .int x3)]) hx hb dX2_becomePart_5 hl (by decide) rfl (fun ls hl => ?_)
  obtain ⟨n_7, h⟩ := h
  exact tX2_becomePart_L7 C0 hK K x0 x1 x3 hret rx0 rx1 n_7 σ_6 x2 h _ _ hY hR_σ_6  _ (lv_sub hl [1, 2, 4, 0] rfl)
set_option maxHeartbeats 4000000 in
set_option maxRecDepth 100000 in
theorem mX2_becomePart (l : Launch) (D : va_G) (ad : Nat → Nat) (ci : Nat → ClassId) (A : Nat → Prop) (σ : St) (x0 : Nat) (x1 : Nat) (x2 : Int32) (x3 : Int32) (K : St → Prop) (hR : Rok σ) (rx0 : rowB x0 = true) (rx1 : rowB x1 = true) (h : wX2_becomePart σ x0 x1 x2 x3 K) : Met l yX2_becomePart wsX2_becomePart rmX2_becomePart (va_Pc [.ref (ad x0), .ref (ad x1), .int x2, .int x3] (PreW D 132 ad A (tyC ci) (obC ad ci σ))) (va_Qv (fun u => K u) (PostW D 132 ad (tyC ci) (obC ad ci) Rok) A) 0 0 A := by
  refine Met.ofW (cc := cX2_becomePart) (maxL := 5) (ret := none) (by decide) rfl ?_
  intro p e s m args below meth c s₁ B hml hv
  obtain ⟨rfl, hP, hK, hD⟩ := hv
  have C0 : CallFix p m c cX2_becomePart 5 s _ wsX2_becomePart RX2 := ⟨B.exec, B.bytes, hml, findClass_of_methodNamed B.named, atoms_spec (ws := wsX2_becomePart) B.pre⟩
  have hlocks := B.notSynchronized
  have hY : Sy D 132 ad A s.heap (obC ad ci σ) s.heap [] := ⟨hP, hD, va_S.rf⟩
  have hl := lv_entry ([.ref (ad x0), .ref (ad x1), .int x2, .int x3]) (n := 5) (Nat.le_of_ble_eq_true rfl)
  rw [lg_entry_eq]
  generalize (lg_sl ([.ref (ad x0), .ref (ad x1), .int x2, .int x3]) ++ List.replicate (5 - (lg_sl ([.ref (ad x0), .ref (ad x1), .int x2, .int x3])).length) Slot.unset).toArray = ls at hl ⊢
  exact eX2_becomePart C0 hK K σ (fun u H locs pc ls hk hY hR hd => w_vret (I := Rok) B.exec B.bytes B.returns hlocks hK hk (fun t ht => ht) hY hR hd) x0 x1 x2 x3 rx0 rx1 h _ _ hY hR ls hl
set_option maxHeartbeats 4000000 in
set_option maxRecDepth 100000 in
theorem eX2_become (C0 : CallFix p m c cX2_become 2 s args wsX2_become RX2) (hK : Kx D (tyC ci) s) (K : St → Prop) (σ : St) (hret : ∀ (u : St) (H : Heap) (locs : List Loc) (pc : Nat) (ls : Array Slot), K u → Sy D 132 ad A H0 (obC ad ci u) H locs → Rok u → decode cX2_become pc = .ok (.return_, 1) → W p l e rmX2_become s m args below meth c H locs 0 0 Q (F0 m pc ls [])) (x0 : Nat) (x1 : Nat) (rx0 : rowB x0 = true) (rx1 : rowB x1 = true) (h : wX2_become σ x0 x1 K) (H : Heap) (locs : List Loc) (hY : Sy D 132 ad A H0 (obC ad ci σ) H locs) (hR : Rok σ) (ls : Array Slot) (hl : lv_has ls 2 [(0, .ref (ad x0)), (1, .ref (ad x1))]) : W p l e rmX2_become s m args below meth c H locs 0 0 Q (F0 m 0 ls []) := by
  obtain ⟨hx, hb, hml, hown, hts⟩ := id C0
  refine lv_aload_n hx hb dX2_become_0 rfl (lv_at hl 0 rfl) ?_
  refine lv_aload_n hx hb dX2_become_1 rfl (lv_at hl 1 rfl) ?_
  refine lv_iconst (v := (0 : Int32)) hx hb dX2_become_2 (by decide) ?_
  refine lv_aload_n hx hb dX2_become_3 rfl (lv_at hl 1 rfl) ?_
  refine w_get (o := x1) (ci := 2) (C := RX2) (T := TX2) (N1 := 2) (v := .int (gI σ x1)) hx hb hts kX2_become_inX2 hown hK.1 hY (rowB_lt rx1) (obC_row rx1) rfl 1 (by decide) (hts _ kX2_become_0) rfl rfl dX2_become_4 ?_
  refine w_callv (rest := []) (va_runV (As := [.ref (ad x1), .int (0 : Int32), .int (gI σ x1)]) (rest := []) C0 (mX2_becomePart l D ad ci A σ x0 x1 (0 : Int32) (gI σ x1) _ hR rx0 rx1 h) (cwV 3 hts gX2_become_X2_becomePart rfl rfl rfl ddX2_becomePart ⟨Nat.le_of_ble_eq_true rfl, Nat.le_of_ble_eq_true rfl⟩) (w_preV (o := x0) (ci := 2) (ob := obC ad ci) (σ := σ) hK hY (rowB_lt rx0) (obC_row rx0) rfl rfl) rfl rfl hl.1 rfl (lv_room (Nat.le_of_ble_eq_true rfl)) dX2_become_7 ⟨Nat.zero_le _, Nat.zero_le _⟩) hY (fun σ_2 H locs h hY hR_σ_2 => ?_)
  exact hret σ_2 _ _ _ _ h hY hR_σ_2 dX2_become_10
set_option maxHeartbeats 4000000 in
set_option maxRecDepth 100000 in
theorem mX2_become (l : Launch) (D : va_G) (ad : Nat → Nat) (ci : Nat → ClassId) (A : Nat → Prop) (σ : St) (x0 : Nat) (x1 : Nat) (K : St → Prop) (hR : Rok σ) (rx0 : rowB x0 = true) (rx1 : rowB x1 = true) (h : wX2_become σ x0 x1 K) : Met l yX2_become wsX2_become rmX2_become (va_Pc [.ref (ad x0), .ref (ad x1)] (PreW D 132 ad A (tyC ci) (obC ad ci σ))) (va_Qv (fun u => K u) (PostW D 132 ad (tyC ci) (obC ad ci) Rok) A) 0 0 A := by
  refine Met.ofW (cc := cX2_become) (maxL := 2) (ret := none) (by decide) rfl ?_
  intro p e s m args below meth c s₁ B hml hv
  obtain ⟨rfl, hP, hK, hD⟩ := hv
  have C0 : CallFix p m c cX2_become 2 s _ wsX2_become RX2 := ⟨B.exec, B.bytes, hml, findClass_of_methodNamed B.named, atoms_spec (ws := wsX2_become) B.pre⟩
  have hlocks := B.notSynchronized
  have hY : Sy D 132 ad A s.heap (obC ad ci σ) s.heap [] := ⟨hP, hD, va_S.rf⟩
  have hl := lv_entry ([.ref (ad x0), .ref (ad x1)]) (n := 2) (Nat.le_of_ble_eq_true rfl)
  rw [lg_entry_eq]
  generalize (lg_sl ([.ref (ad x0), .ref (ad x1)]) ++ List.replicate (2 - (lg_sl ([.ref (ad x0), .ref (ad x1)])).length) Slot.unset).toArray = ls at hl ⊢
  exact eX2_become C0 hK K σ (fun u H locs pc ls hk hY hR hd => w_vret (I := Rok) B.exec B.bytes B.returns hlocks hK hk (fun t ht => ht) hY hR hd) x0 x1 rx0 rx1 h _ _ hY hR ls hl
set_option maxHeartbeats 4000000 in
set_option maxRecDepth 100000 in
theorem tX2_common_L2 (C0 : CallFix p m c cX2_common 3 s args wsX2_common RX2) (hK : Kx D (tyC ci) s) (K : Int32 → Prop) (σ : St) (x0 : Nat) (x1 : Nat) (hret : ∀ (r : Int32) (H : Heap) (locs : List Loc) (pc : Nat) (ls : Array Slot), K r → Sy D 132 ad A H0 (obC ad ci σ) H locs → decode cX2_common pc = .ok (.ireturn, 1) → W p l e rmX2_common s m args below meth c H locs 0 0 Q (F0 m pc ls [.int r])) (rx0 : rowB x0 = true) (rx1 : rowB x1 = true) : ∀ (n : Nat) (x2 : Int32), wX2_common_L2 K σ x0 x1 n x2 → ∀ (H : Heap) (locs : List Loc), Sy D 132 ad A H0 (obC ad ci σ) H locs → Rok σ → ∀ ls : Array Slot, lv_has ls 3 [(0, .ref (ad x0)), (1, .ref (ad x1)), (2, .int x2)] → W p l e rmX2_common s m args below meth c H locs 0 0 Q (F0 m 2 ls []) := by
  obtain ⟨hx, hb, hml, hown, hts⟩ := id C0
  intro n
  induction n with
  | zero =>
    intro x2 h
    exact h.elim
  | succ n ih =>
    intro x2 h H locs hY hR  ls hl
    refine lv_iload_n hx hb dX2_common_2 rfl (lv_at hl 2 rfl) ?_
    refine lv_aload_n hx hb dX2_common_3 rfl (lv_at hl 0 rfl) ?_
    refine w_get (o := x0) (ci := 2) (C := RX2) (T := TX2) (N1 := 2) (v := .int (gI σ x0)) hx hb hts kX2_common_inX2 hown hK.1 hY (rowB_lt rx0) (obC_row rx0) rfl 1 (by decide) (hts _ kX2_common_0) rfl rfl dX2_common_4 ?_
    refine lv_icmp_ge (tgt := 39) hx hb dX2_common_7 (by decide) (fun c_1 => ?_) (fun c_1 => ?_)
    · have h := h.1 c_1
      refine lv_iload_n hx hb dX2_common_39 rfl (lv_at hl 2 rfl) ?_
      exact hret x2 _ _ _ _ h hY dX2_common_40
    · have h := h.2 c_1
      refine lv_iload_n hx hb dX2_common_10 rfl (lv_at hl 2 rfl) ?_
      refine lv_aload_n hx hb dX2_common_11 rfl (lv_at hl 1 rfl) ?_
      refine w_get (o := x1) (ci := 2) (C := RX2) (T := TX2) (N1 := 2) (v := .int (gI σ x1)) hx hb hts kX2_common_inX2 hown hK.1 hY (rowB_lt rx1) (obC_row rx1) rfl 1 (by decide) (hts _ kX2_common_0) rfl rfl dX2_common_12 ?_
      refine lv_icmp_ge (tgt := 39) hx hb dX2_common_15 (by decide) (fun c_2 => ?_) (fun c_2 => ?_)
      · have h := h.1 c_2
        refine lv_iload_n hx hb dX2_common_39 rfl (lv_at hl 2 rfl) ?_
        exact hret x2 _ _ _ _ h hY dX2_common_40
      · have h := h.2 c_2
        refine lv_aload_n hx hb dX2_common_18 rfl (lv_at hl 0 rfl) ?_
        refine w_get (o := x0) (ci := 2) (C := RX2) (T := TX2) (N1 := 2) (v := .ref (ad (x0 + 1))) hx hb hts kX2_common_inX2 hown hK.1 hY (rowB_lt rx0) (obC_row rx0) rfl 0 (by decide) (hts _ kX2_common_2) rfl rfl dX2_common_19 ?_
        refine lv_iload_n hx hb dX2_common_22 rfl (lv_at hl 2 rfl) ?_
        obtain ⟨b_3, h⟩ := h
        refine w_cald (o := (x0 + 1)) hx hb hK.1 hY (rowB_1 rx0).1 0 (obC_chars rx0) rfl b_3 dX2_common_23 ?_
        refine lv_aload_n hx hb dX2_common_24 rfl (lv_at hl 1 rfl) ?_
        refine w_get (o := x1) (ci := 2) (C := RX2) (T := TX2) (N1 := 2) (v := .ref (ad (x1 + 1))) hx hb hts kX2_common_inX2 hown hK.1 hY (rowB_lt rx1) (obC_row rx1) rfl 0 (by decide) (hts _ kX2_common_2) rfl rfl dX2_common_25 ?_
        refine lv_iload_n hx hb dX2_common_28 rfl (lv_at hl 2 rfl) ?_
        obtain ⟨b_4, h⟩ := h
        refine w_cald (o := (x1 + 1)) hx hb hK.1 hY (rowB_1 rx1).1 0 (obC_chars rx1) rfl b_4 dX2_common_29 ?_
        refine lv_icmp_ne (tgt := 39) hx hb dX2_common_30 (by decide) (fun c_5 => ?_) (fun c_5 => ?_)
        · have h := h.2 c_5
          refine lv_iload_n hx hb dX2_common_39 rfl (lv_at hl 2 rfl) ?_
          exact hret x2 _ _ _ _ h hY dX2_common_40
        · have h := h.1 c_5
          refine lv_iinc (v := (x2 + 1)) (lv' := [(2, .int (x2 + 1)), (0, .ref (ad x0)), (1, .ref (ad x1))]) hx hb dX2_common_33 hl (k := 2) rfl rfl (by decide) rfl (fun ls hl => ?_)
          refine lv_goto (tgt := 2) hx hb dX2_common_36 (by decide) ?_
          exact ih (x2 + 1) h _ _ hY hR  _ (lv_sub hl [1, 2, 0] rfl)
set_option maxHeartbeats 4000000 in
set_option maxRecDepth 100000 in
theorem eX2_common (C0 : CallFix p m c cX2_common 3 s args wsX2_common RX2) (hK : Kx D (tyC ci) s) (K : Int32 → Prop) (σ : St) (hret : ∀ (r : Int32) (H : Heap) (locs : List Loc) (pc : Nat) (ls : Array Slot), K r → Sy D 132 ad A H0 (obC ad ci σ) H locs → decode cX2_common pc = .ok (.ireturn, 1) → W p l e rmX2_common s m args below meth c H locs 0 0 Q (F0 m pc ls [.int r])) (x0 : Nat) (x1 : Nat) (rx0 : rowB x0 = true) (rx1 : rowB x1 = true) (h : wX2_common σ x0 x1 K) (H : Heap) (locs : List Loc) (hY : Sy D 132 ad A H0 (obC ad ci σ) H locs) (hR : Rok σ) (ls : Array Slot) (hl : lv_has ls 3 [(0, .ref (ad x0)), (1, .ref (ad x1))]) : W p l e rmX2_common s m args below meth c H locs 0 0 Q (F0 m 0 ls []) := by
  obtain ⟨hx, hb, hml, hown, hts⟩ := id C0
  refine lv_iconst (v := (0 : Int32)) hx hb dX2_common_0 (by decide) ?_
  refine lv_istore_n (lv' := [(2, .int (0 : Int32)), (0, .ref (ad x0)), (1, .ref (ad x1))]) hx hb dX2_common_1 rfl hl (by decide) rfl (fun ls hl => ?_)
  obtain ⟨n_6, h⟩ := h
  exact tX2_common_L2 C0 hK K σ x0 x1 hret rx0 rx1 n_6 (0 : Int32) h _ _ hY hR  _ (lv_sub hl [1, 2, 0] rfl)
set_option maxHeartbeats 4000000 in
set_option maxRecDepth 100000 in
theorem mX2_common (l : Launch) (D : va_G) (ad : Nat → Nat) (ci : Nat → ClassId) (A : Nat → Prop) (σ : St) (x0 : Nat) (x1 : Nat) (K : Int32 → Prop) (hR : Rok σ) (rx0 : rowB x0 = true) (rx1 : rowB x1 = true) (h : wX2_common σ x0 x1 K) : Met l yX2_common wsX2_common rmX2_common (va_Pc [.ref (ad x0), .ref (ad x1)] (PreW D 132 ad A (tyC ci) (obC ad ci σ))) (va_Qi (fun r (_ : Unit) => K r) (fun _ => (PostW D 132 ad (tyC ci) (obC ad ci) Rok σ)) A) 0 0 A := by
  refine Met.ofW (cc := cX2_common) (maxL := 3) (ret := (some .int)) (by decide) rfl ?_
  intro p e s m args below meth c s₁ B hml hv
  obtain ⟨rfl, hP, hK, hD⟩ := hv
  have C0 : CallFix p m c cX2_common 3 s _ wsX2_common RX2 := ⟨B.exec, B.bytes, hml, findClass_of_methodNamed B.named, atoms_spec (ws := wsX2_common) B.pre⟩
  have hlocks := B.notSynchronized
  have hY : Sy D 132 ad A s.heap (obC ad ci σ) s.heap [] := ⟨hP, hD, va_S.rf⟩
  have hl := lv_entry ([.ref (ad x0), .ref (ad x1)]) (n := 3) (Nat.le_of_ble_eq_true rfl)
  rw [lg_entry_eq]
  generalize (lg_sl ([.ref (ad x0), .ref (ad x1)]) ++ List.replicate (3 - (lg_sl ([.ref (ad x0), .ref (ad x1)])).length) Slot.unset).toArray = ls at hl ⊢
  exact eX2_common C0 hK K σ (fun r H locs pc ls hk hY hd => w_iret (I := Rok) B.exec B.bytes B.returns hlocks (u := ()) hK hk (fun t ht => ht) hY hR hd) x0 x1 rx0 rx1 h _ _ hY hR ls hl
set_option maxHeartbeats 4000000 in
set_option maxRecDepth 100000 in
theorem eX2_compareWith (C0 : CallFix p m c cX2_compareWith 3 s args wsX2_compareWith RX2) (hK : Kx D (tyC ci) s) (K : Int32 → Prop) (σ : St) (hret : ∀ (r : Int32) (H : Heap) (locs : List Loc) (pc : Nat) (ls : Array Slot), K r → Sy D 132 ad A H0 (obC ad ci σ) H locs → decode cX2_compareWith pc = .ok (.ireturn, 1) → W p l e rmX2_compareWith s m args below meth c H locs 0 0 Q (F0 m pc ls [.int r])) (x0 : Nat) (x1 : Nat) (rx0 : rowB x0 = true) (rx1 : rowB x1 = true) (h : wX2_compareWith σ x0 x1 K) (H : Heap) (locs : List Loc) (hY : Sy D 132 ad A H0 (obC ad ci σ) H locs) (hR : Rok σ) (ls : Array Slot) (hl : lv_has ls 3 [(0, .ref (ad x0)), (1, .ref (ad x1))]) : W p l e rmX2_compareWith s m args below meth c H locs 0 0 Q (F0 m 0 ls []) := by
  obtain ⟨hx, hb, hml, hown, hts⟩ := id C0
  refine lv_aload_n hx hb dX2_compareWith_0 rfl (lv_at hl 0 rfl) ?_
  refine lv_aload_n hx hb dX2_compareWith_1 rfl (lv_at hl 1 rfl) ?_
  refine w_callip (rest := []) (va_runV (As := [.ref (ad x1)]) (rest := []) C0 (mX2_common l D ad ci A σ x0 x1 _ hR rx0 rx1 h) (cwV 1 hts gX2_compareWith_X2_common rfl rfl rfl ddX2_common ⟨Nat.le_of_ble_eq_true rfl, Nat.le_of_ble_eq_true rfl⟩) (w_preV (o := x0) (ci := 2) (ob := obC ad ci) (σ := σ) hK hY (rowB_lt rx0) (obC_row rx0) rfl rfl) rfl rfl hl.1 rfl (lv_room (Nat.le_of_ble_eq_true rfl)) dX2_compareWith_2 ⟨Nat.zero_le _, Nat.zero_le _⟩) hY (fun r_1 H locs h hY => ?_)
  refine lv_istore_n (lv' := [(2, .int r_1), (0, .ref (ad x0)), (1, .ref (ad x1))]) hx hb dX2_compareWith_5 rfl hl (by decide) rfl (fun ls hl => ?_)
  refine lv_iload_n hx hb dX2_compareWith_6 rfl (lv_at hl 0 rfl) ?_
  refine lv_aload_n hx hb dX2_compareWith_7 rfl (lv_at hl 1 rfl) ?_
  refine w_get (o := x0) (ci := 2) (C := RX2) (T := TX2) (N1 := 2) (v := .int (gI σ x0)) hx hb hts kX2_compareWith_inX2 hown hK.1 hY (rowB_lt rx0) (obC_row rx0) rfl 1 (by decide) (hts _ kX2_compareWith_0) rfl rfl dX2_compareWith_8 ?_
  refine lv_icmp_ge (tgt := 36) hx hb dX2_compareWith_11 (by decide) (fun c_2 => ?_) (fun c_2 => ?_)
  · have h := h.1 c_2
    refine lv_aload_n hx hb dX2_compareWith_36 rfl (lv_at hl 1 rfl) ?_
    refine w_get (o := x0) (ci := 2) (C := RX2) (T := TX2) (N1 := 2) (v := .int (gI σ x0)) hx hb hts kX2_compareWith_inX2 hown hK.1 hY (rowB_lt rx0) (obC_row rx0) rfl 1 (by decide) (hts _ kX2_compareWith_0) rfl rfl dX2_compareWith_37 ?_
    refine lv_aload_n hx hb dX2_compareWith_40 rfl (lv_at hl 2 rfl) ?_
    refine w_get (o := x1) (ci := 2) (C := RX2) (T := TX2) (N1 := 2) (v := .int (gI σ x1)) hx hb hts kX2_compareWith_inX2 hown hK.1 hY (rowB_lt rx1) (obC_row rx1) rfl 1 (by decide) (hts _ kX2_compareWith_0) rfl rfl dX2_compareWith_41 ?_
    refine lv_isub hx hb dX2_compareWith_44 ?_
    exact hret ((gI σ x0) - (gI σ x1)) _ _ _ _ h hY dX2_compareWith_45
  · have h := h.2 c_2
    refine lv_iload_n hx hb dX2_compareWith_14 rfl (lv_at hl 0 rfl) ?_
    refine lv_aload_n hx hb dX2_compareWith_15 rfl (lv_at hl 2 rfl) ?_
    refine w_get (o := x1) (ci := 2) (C := RX2) (T := TX2) (N1 := 2) (v := .int (gI σ x1)) hx hb hts kX2_compareWith_inX2 hown hK.1 hY (rowB_lt rx1) (obC_row rx1) rfl 1 (by decide) (hts _ kX2_compareWith_0) rfl rfl dX2_compareWith_16 ?_
    refine lv_icmp_ge (tgt := 36) hx hb dX2_compareWith_19 (by decide) (fun c_3 => ?_) (fun c_3 => ?_)
    · have h := h.1 c_3
      refine lv_aload_n hx hb dX2_compareWith_36 rfl (lv_at hl 1 rfl) ?_
      refine w_get (o := x0) (ci := 2) (C := RX2) (T := TX2) (N1 := 2) (v := .int (gI σ x0)) hx hb hts kX2_compareWith_inX2 hown hK.1 hY (rowB_lt rx0) (obC_row rx0) rfl 1 (by decide) (hts _ kX2_compareWith_0) rfl rfl dX2_compareWith_37 ?_
      refine lv_aload_n hx hb dX2_compareWith_40 rfl (lv_at hl 2 rfl) ?_
      refine w_get (o := x1) (ci := 2) (C := RX2) (T := TX2) (N1 := 2) (v := .int (gI σ x1)) hx hb hts kX2_compareWith_inX2 hown hK.1 hY (rowB_lt rx1) (obC_row rx1) rfl 1 (by decide) (hts _ kX2_compareWith_0) rfl rfl dX2_compareWith_41 ?_
      refine lv_isub hx hb dX2_compareWith_44 ?_
      exact hret ((gI σ x0) - (gI σ x1)) _ _ _ _ h hY dX2_compareWith_45
    · have h := h.2 c_3
      refine lv_aload_n hx hb dX2_compareWith_22 rfl (lv_at hl 1 rfl) ?_
      refine w_get (o := x0) (ci := 2) (C := RX2) (T := TX2) (N1 := 2) (v := .ref (ad (x0 + 1))) hx hb hts kX2_compareWith_inX2 hown hK.1 hY (rowB_lt rx0) (obC_row rx0) rfl 0 (by decide) (hts _ kX2_compareWith_2) rfl rfl dX2_compareWith_23 ?_
      refine lv_iload_n hx hb dX2_compareWith_26 rfl (lv_at hl 0 rfl) ?_
      obtain ⟨b_4, h⟩ := h
      refine w_cald (o := (x0 + 1)) hx hb hK.1 hY (rowB_1 rx0).1 0 (obC_chars rx0) rfl b_4 dX2_compareWith_27 ?_
      refine lv_aload_n hx hb dX2_compareWith_28 rfl (lv_at hl 2 rfl) ?_
      refine w_get (o := x1) (ci := 2) (C := RX2) (T := TX2) (N1 := 2) (v := .ref (ad (x1 + 1))) hx hb hts kX2_compareWith_inX2 hown hK.1 hY (rowB_lt rx1) (obC_row rx1) rfl 0 (by decide) (hts _ kX2_compareWith_2) rfl rfl dX2_compareWith_29 ?_
      refine lv_iload_n hx hb dX2_compareWith_32 rfl (lv_at hl 0 rfl) ?_
      obtain ⟨b_5, h⟩ := h
      refine w_cald (o := (x1 + 1)) hx hb hK.1 hY (rowB_1 rx1).1 0 (obC_chars rx1) rfl b_5 dX2_compareWith_33 ?_
      refine lv_isub hx hb dX2_compareWith_34 ?_
      exact hret ((gA σ x0 (r_1).toNatClampNeg) - (gA σ x1 (r_1).toNatClampNeg)) _ _ _ _ h hY dX2_compareWith_35
set_option maxHeartbeats 4000000 in
set_option maxRecDepth 100000 in
theorem mX2_compareWith (l : Launch) (D : va_G) (ad : Nat → Nat) (ci : Nat → ClassId) (A : Nat → Prop) (σ : St) (x0 : Nat) (x1 : Nat) (K : Int32 → Prop) (hR : Rok σ) (rx0 : rowB x0 = true) (rx1 : rowB x1 = true) (h : wX2_compareWith σ x0 x1 K) : Met l yX2_compareWith wsX2_compareWith rmX2_compareWith (va_Pc [.ref (ad x0), .ref (ad x1)] (PreW D 132 ad A (tyC ci) (obC ad ci σ))) (va_Qi (fun r (_ : Unit) => K r) (fun _ => (PostW D 132 ad (tyC ci) (obC ad ci) Rok σ)) A) 0 0 A := by
  refine Met.ofW (cc := cX2_compareWith) (maxL := 3) (ret := (some .int)) (by decide) rfl ?_
  intro p e s m args below meth c s₁ B hml hv
  obtain ⟨rfl, hP, hK, hD⟩ := hv
  have C0 : CallFix p m c cX2_compareWith 3 s _ wsX2_compareWith RX2 := ⟨B.exec, B.bytes, hml, findClass_of_methodNamed B.named, atoms_spec (ws := wsX2_compareWith) B.pre⟩
  have hlocks := B.notSynchronized
  have hY : Sy D 132 ad A s.heap (obC ad ci σ) s.heap [] := ⟨hP, hD, va_S.rf⟩
  have hl := lv_entry ([.ref (ad x0), .ref (ad x1)]) (n := 3) (Nat.le_of_ble_eq_true rfl)
  rw [lg_entry_eq]
  generalize (lg_sl ([.ref (ad x0), .ref (ad x1)]) ++ List.replicate (3 - (lg_sl ([.ref (ad x0), .ref (ad x1)])).length) Slot.unset).toArray = ls at hl ⊢
  exact eX2_compareWith C0 hK K σ (fun r H locs pc ls hk hY hd => w_iret (I := Rok) B.exec B.bytes B.returns hlocks (u := ()) hK hk (fun t ht => ht) hY hR hd) x0 x1 rx0 rx1 h _ _ hY hR ls hl
set_option maxHeartbeats 4000000 in
set_option maxRecDepth 100000 in
theorem tX2_hasAt_L29 (C0 : CallFix p m c cX2_hasAt 4 s args wsX2_hasAt RX2) (hK : Kx D (tyC ci) s) (K : Int32 → Prop) (σ : St) (x0 : Nat) (x1 : Int32) (x2 : Nat) (hret : ∀ (r : Int32) (H : Heap) (locs : List Loc) (pc : Nat) (ls : Array Slot), narrow .boolean (.int r) = .int r → K r → Sy D 132 ad A H0 (obC ad ci σ) H locs → decode cX2_hasAt pc = .ok (.ireturn, 1) → W p l e rmX2_hasAt s m args below meth c H locs 0 0 Q (F0 m pc ls [.int r])) (rx0 : rowB x0 = true) (rx2 : rowB x2 = true) : ∀ (n : Nat) (x3 : Int32), wX2_hasAt_L29 K σ x0 x1 x2 n x3 → ∀ (H : Heap) (locs : List Loc), Sy D 132 ad A H0 (obC ad ci σ) H locs → Rok σ → ∀ ls : Array Slot, lv_has ls 4 [(0, .ref (ad x0)), (1, .int x1), (2, .ref (ad x2)), (3, .int x3)] → W p l e rmX2_hasAt s m args below meth c H locs 0 0 Q (F0 m 29 ls []) := by
  obtain ⟨hx, hb, hml, hown, hts⟩ := id C0
  intro n
  induction n with
  | zero =>
    intro x3 h
    exact h.elim
  | succ n ih =>
    intro x3 h H locs hY hR  ls hl
    refine lv_iload_n hx hb dX2_hasAt_29 rfl (lv_at hl 3 rfl) ?_
    refine lv_aload_n hx hb dX2_hasAt_30 rfl (lv_at hl 2 rfl) ?_
    refine w_get (o := x2) (ci := 2) (C := RX2) (T := TX2) (N1 := 2) (v := .int (gI σ x2)) hx hb hts kX2_hasAt_inX2 hown hK.1 hY (rowB_lt rx2) (obC_row rx2) rfl 1 (by decide) (hts _ kX2_hasAt_0) rfl rfl dX2_hasAt_31 ?_
    refine lv_icmp_ge (tgt := 62) hx hb dX2_hasAt_34 (by decide) (fun c_1 => ?_) (fun c_1 => ?_)
    · have h := h.1 c_1
      refine lv_iconst (v := (1 : Int32)) hx hb dX2_hasAt_62 (by decide) ?_
      exact hret (1 : Int32) _ _ _ _ rfl h hY dX2_hasAt_63
    · have h := h.2 c_1
      refine lv_aload_n hx hb dX2_hasAt_37 rfl (lv_at hl 0 rfl) ?_
      refine w_get (o := x0) (ci := 2) (C := RX2) (T := TX2) (N1 := 2) (v := .ref (ad (x0 + 1))) hx hb hts kX2_hasAt_inX2 hown hK.1 hY (rowB_lt rx0) (obC_row rx0) rfl 0 (by decide) (hts _ kX2_hasAt_2) rfl rfl dX2_hasAt_38 ?_
      refine lv_iload_n hx hb dX2_hasAt_41 rfl (lv_at hl 1 rfl) ?_
      refine lv_iload_n hx hb dX2_hasAt_42 rfl (lv_at hl 3 rfl) ?_
      refine lv_iadd hx hb dX2_hasAt_43 ?_
      obtain ⟨b_2, h⟩ := h
      refine w_cald (o := (x0 + 1)) hx hb hK.1 hY (rowB_1 rx0).1 0 (obC_chars rx0) rfl b_2 dX2_hasAt_44 ?_
      refine lv_aload_n hx hb dX2_hasAt_45 rfl (lv_at hl 2 rfl) ?_
      refine w_get (o := x2) (ci := 2) (C := RX2) (T := TX2) (N1 := 2) (v := .ref (ad (x2 + 1))) hx hb hts kX2_hasAt_inX2 hown hK.1 hY (rowB_lt rx2) (obC_row rx2) rfl 0 (by decide) (hts _ kX2_hasAt_2) rfl rfl dX2_hasAt_46 ?_
      refine lv_iload_n hx hb dX2_hasAt_49 rfl (lv_at hl 3 rfl) ?_
      obtain ⟨b_3, h⟩ := h
      refine w_cald (o := (x2 + 1)) hx hb hK.1 hY (rowB_1 rx2).1 0 (obC_chars rx2) rfl b_3 dX2_hasAt_50 ?_
      refine lv_icmp_eq (tgt := 56) hx hb dX2_hasAt_51 (by decide) (fun c_4 => ?_) (fun c_4 => ?_)
      · have h := h.1 c_4
        refine lv_iinc (v := (x3 + 1)) (lv' := [(3, .int (x3 + 1)), (0, .ref (ad x0)), (1, .int x1), (2, .ref (ad x2))]) hx hb dX2_hasAt_56 hl (k := 3) rfl rfl (by decide) rfl (fun ls hl => ?_)
        refine lv_goto (tgt := 29) hx hb dX2_hasAt_59 (by decide) ?_
        exact ih (x3 + 1) h _ _ hY hR  _ (lv_sub hl [1, 2, 3, 0] rfl)
      · have h := h.2 c_4
        refine lv_iconst (v := (0 : Int32)) hx hb dX2_hasAt_54 (by decide) ?_
        exact hret (0 : Int32) _ _ _ _ rfl h hY dX2_hasAt_55
set_option maxHeartbeats 4000000 in
set_option maxRecDepth 100000 in
theorem eX2_hasAt (C0 : CallFix p m c cX2_hasAt 4 s args wsX2_hasAt RX2) (hK : Kx D (tyC ci) s) (K : Int32 → Prop) (σ : St) (hret : ∀ (r : Int32) (H : Heap) (locs : List Loc) (pc : Nat) (ls : Array Slot), narrow .boolean (.int r) = .int r → K r → Sy D 132 ad A H0 (obC ad ci σ) H locs → decode cX2_hasAt pc = .ok (.ireturn, 1) → W p l e rmX2_hasAt s m args below meth c H locs 0 0 Q (F0 m pc ls [.int r])) (x0 : Nat) (x1 : Int32) (x2 : Nat) (rx0 : rowB x0 = true) (rx2 : rowB x2 = true) (h : wX2_hasAt σ x0 x1 x2 K) (H : Heap) (locs : List Loc) (hY : Sy D 132 ad A H0 (obC ad ci σ) H locs) (hR : Rok σ) (ls : Array Slot) (hl : lv_has ls 4 [(0, .ref (ad x0)), (1, .int x1), (2, .ref (ad x2))]) : W p l e rmX2_hasAt s m args below meth c H locs 0 0 Q (F0 m 0 ls []) := by
  obtain ⟨hx, hb, hml, hown, hts⟩ := id C0
  refine lv_iload_n hx hb dX2_hasAt_0 rfl (lv_at hl 1 rfl) ?_
  refine lv_if_lt (tgt := 25) hx hb dX2_hasAt_1 (by decide) (fun c_5 => ?_) (fun c_5 => ?_)
  · have h := h.1 c_5
    refine lv_iconst (v := (0 : Int32)) hx hb dX2_hasAt_25 (by decide) ?_
    exact hret (0 : Int32) _ _ _ _ rfl h hY dX2_hasAt_26
  · have h := h.2 c_5
    refine lv_iload_n hx hb dX2_hasAt_4 rfl (lv_at hl 1 rfl) ?_
    refine lv_aload_n hx hb dX2_hasAt_5 rfl (lv_at hl 0 rfl) ?_
    refine w_get (o := x0) (ci := 2) (C := RX2) (T := TX2) (N1 := 2) (v := .int (gI σ x0)) hx hb hts kX2_hasAt_inX2 hown hK.1 hY (rowB_lt rx0) (obC_row rx0) rfl 1 (by decide) (hts _ kX2_hasAt_0) rfl rfl dX2_hasAt_6 ?_
    refine lv_icmp_gt (tgt := 25) hx hb dX2_hasAt_9 (by decide) (fun c_6 => ?_) (fun c_6 => ?_)
    · have h := h.1 c_6
      refine lv_iconst (v := (0 : Int32)) hx hb dX2_hasAt_25 (by decide) ?_
      exact hret (0 : Int32) _ _ _ _ rfl h hY dX2_hasAt_26
    · have h := h.2 c_6
      refine lv_aload_n hx hb dX2_hasAt_12 rfl (lv_at hl 2 rfl) ?_
      refine w_get (o := x2) (ci := 2) (C := RX2) (T := TX2) (N1 := 2) (v := .int (gI σ x2)) hx hb hts kX2_hasAt_inX2 hown hK.1 hY (rowB_lt rx2) (obC_row rx2) rfl 1 (by decide) (hts _ kX2_hasAt_0) rfl rfl dX2_hasAt_13 ?_
      refine lv_aload_n hx hb dX2_hasAt_16 rfl (lv_at hl 0 rfl) ?_
      refine w_get (o := x0) (ci := 2) (C := RX2) (T := TX2) (N1 := 2) (v := .int (gI σ x0)) hx hb hts kX2_hasAt_inX2 hown hK.1 hY (rowB_lt rx0) (obC_row rx0) rfl 1 (by decide) (hts _ kX2_hasAt_0) rfl rfl dX2_hasAt_17 ?_
      refine lv_iload_n hx hb dX2_hasAt_20 rfl (lv_at hl 1 rfl) ?_
      refine lv_isub hx hb dX2_hasAt_21 ?_
      refine lv_icmp_le (tgt := 27) hx hb dX2_hasAt_22 (by decide) (fun c_7 => ?_) (fun c_7 => ?_)
      · have h := h.1 c_7
        refine lv_iconst (v := (0 : Int32)) hx hb dX2_hasAt_27 (by decide) ?_
        refine lv_istore_n (lv' := [(3, .int (0 : Int32)), (0, .ref (ad x0)), (1, .int x1), (2, .ref (ad x2))]) hx hb dX2_hasAt_28 rfl hl (by decide) rfl (fun ls hl => ?_)
        obtain ⟨n_8, h⟩ := h
        exact tX2_hasAt_L29 C0 hK K σ x0 x1 x2 hret rx0 rx2 n_8 (0 : Int32) h _ _ hY hR  _ (lv_sub hl [1, 2, 3, 0] rfl)
      · have h := h.2 c_7
        refine lv_iconst (v := (0 : Int32)) hx hb dX2_hasAt_25 (by decide) ?_
        exact hret (0 : Int32) _ _ _ _ rfl h hY dX2_hasAt_26
set_option maxHeartbeats 4000000 in
set_option maxRecDepth 100000 in
theorem mX2_hasAt (l : Launch) (D : va_G) (ad : Nat → Nat) (ci : Nat → ClassId) (A : Nat → Prop) (σ : St) (x0 : Nat) (x1 : Int32) (x2 : Nat) (K : Int32 → Prop) (hR : Rok σ) (rx0 : rowB x0 = true) (rx2 : rowB x2 = true) (h : wX2_hasAt σ x0 x1 x2 K) : Met l yX2_hasAt wsX2_hasAt rmX2_hasAt (va_Pc [.ref (ad x0), .int x1, .ref (ad x2)] (PreW D 132 ad A (tyC ci) (obC ad ci σ))) (va_Qi (fun r (_ : Unit) => narrow .boolean (.int r) = .int r ∧ K r) (fun _ => (PostW D 132 ad (tyC ci) (obC ad ci) Rok σ)) A) 0 0 A := by
  refine Met.ofW (cc := cX2_hasAt) (maxL := 4) (ret := (some .boolean)) (by decide) rfl ?_
  intro p e s m args below meth c s₁ B hml hv
  obtain ⟨rfl, hP, hK, hD⟩ := hv
  have C0 : CallFix p m c cX2_hasAt 4 s _ wsX2_hasAt RX2 := ⟨B.exec, B.bytes, hml, findClass_of_methodNamed B.named, atoms_spec (ws := wsX2_hasAt) B.pre⟩
  have hlocks := B.notSynchronized
  have hY : Sy D 132 ad A s.heap (obC ad ci σ) s.heap [] := ⟨hP, hD, va_S.rf⟩
  have hl := lv_entry ([.ref (ad x0), .int x1, .ref (ad x2)]) (n := 4) (Nat.le_of_ble_eq_true rfl)
  rw [lg_entry_eq]
  generalize (lg_sl ([.ref (ad x0), .int x1, .ref (ad x2)]) ++ List.replicate (4 - (lg_sl ([.ref (ad x0), .int x1, .ref (ad x2)])).length) Slot.unset).toArray = ls at hl ⊢
  exact eX2_hasAt C0 hK K σ (fun r H locs pc ls hn hk hY hd => w_zret (I := Rok) B.exec B.bytes B.returns hn hlocks (u := ()) hK ⟨hn, hk⟩ (fun t ht => ht) hY hR hd) x0 x1 x2 rx0 rx2 h _ _ hY hR ls hl
set_option maxHeartbeats 4000000 in
set_option maxRecDepth 100000 in
theorem eX2_beginsWith (C0 : CallFix p m c cX2_beginsWith 2 s args wsX2_beginsWith RX2) (hK : Kx D (tyC ci) s) (K : Int32 → Prop) (σ : St) (hret : ∀ (r : Int32) (H : Heap) (locs : List Loc) (pc : Nat) (ls : Array Slot), narrow .boolean (.int r) = .int r → K r → Sy D 132 ad A H0 (obC ad ci σ) H locs → decode cX2_beginsWith pc = .ok (.ireturn, 1) → W p l e rmX2_beginsWith s m args below meth c H locs 0 0 Q (F0 m pc ls [.int r])) (x0 : Nat) (x1 : Nat) (rx0 : rowB x0 = true) (rx1 : rowB x1 = true) (h : wX2_beginsWith σ x0 x1 K) (H : Heap) (locs : List Loc) (hY : Sy D 132 ad A H0 (obC ad ci σ) H locs) (hR : Rok σ) (ls : Array Slot) (hl : lv_has ls 2 [(0, .ref (ad x0)), (1, .ref (ad x1))]) : W p l e rmX2_beginsWith s m args below meth c H locs 0 0 Q (F0 m 0 ls []) := by
  obtain ⟨hx, hb, hml, hown, hts⟩ := id C0
  refine lv_aload_n hx hb dX2_beginsWith_0 rfl (lv_at hl 0 rfl) ?_
  refine lv_iconst (v := (0 : Int32)) hx hb dX2_beginsWith_1 (by decide) ?_
  refine lv_aload_n hx hb dX2_beginsWith_2 rfl (lv_at hl 1 rfl) ?_
  refine w_callip (rest := []) (va_runV (As := [.int (0 : Int32), .ref (ad x1)]) (rest := []) C0 (mX2_hasAt l D ad ci A σ x0 (0 : Int32) x1 _ hR rx0 rx1 h) (cwV 2 hts gX2_beginsWith_X2_hasAt rfl rfl rfl ddX2_hasAt ⟨Nat.le_of_ble_eq_true rfl, Nat.le_of_ble_eq_true rfl⟩) (w_preV (o := x0) (ci := 2) (ob := obC ad ci) (σ := σ) hK hY (rowB_lt rx0) (obC_row rx0) rfl rfl) rfl rfl hl.1 rfl (lv_room (Nat.le_of_ble_eq_true rfl)) dX2_beginsWith_3 ⟨Nat.zero_le _, Nat.zero_le _⟩) hY (fun r_1 H locs h hY => ?_)
  obtain ⟨n_r_1, h⟩ := h
  exact hret r_1 _ _ _ _ n_r_1 h hY dX2_beginsWith_6
set_option maxHeartbeats 4000000 in
set_option maxRecDepth 100000 in
theorem mX2_beginsWith (l : Launch) (D : va_G) (ad : Nat → Nat) (ci : Nat → ClassId) (A : Nat → Prop) (σ : St) (x0 : Nat) (x1 : Nat) (K : Int32 → Prop) (hR : Rok σ) (rx0 : rowB x0 = true) (rx1 : rowB x1 = true) (h : wX2_beginsWith σ x0 x1 K) : Met l yX2_beginsWith wsX2_beginsWith rmX2_beginsWith (va_Pc [.ref (ad x0), .ref (ad x1)] (PreW D 132 ad A (tyC ci) (obC ad ci σ))) (va_Qi (fun r (_ : Unit) => narrow .boolean (.int r) = .int r ∧ K r) (fun _ => (PostW D 132 ad (tyC ci) (obC ad ci) Rok σ)) A) 0 0 A := by
  refine Met.ofW (cc := cX2_beginsWith) (maxL := 2) (ret := (some .boolean)) (by decide) rfl ?_
  intro p e s m args below meth c s₁ B hml hv
  obtain ⟨rfl, hP, hK, hD⟩ := hv
  have C0 : CallFix p m c cX2_beginsWith 2 s _ wsX2_beginsWith RX2 := ⟨B.exec, B.bytes, hml, findClass_of_methodNamed B.named, atoms_spec (ws := wsX2_beginsWith) B.pre⟩
  have hlocks := B.notSynchronized
  have hY : Sy D 132 ad A s.heap (obC ad ci σ) s.heap [] := ⟨hP, hD, va_S.rf⟩
  have hl := lv_entry ([.ref (ad x0), .ref (ad x1)]) (n := 2) (Nat.le_of_ble_eq_true rfl)
  rw [lg_entry_eq]
  generalize (lg_sl ([.ref (ad x0), .ref (ad x1)]) ++ List.replicate (2 - (lg_sl ([.ref (ad x0), .ref (ad x1)])).length) Slot.unset).toArray = ls at hl ⊢
  exact eX2_beginsWith C0 hK K σ (fun r H locs pc ls hn hk hY hd => w_zret (I := Rok) B.exec B.bytes B.returns hn hlocks (u := ()) hK ⟨hn, hk⟩ (fun t ht => ht) hY hR hd) x0 x1 rx0 rx1 h _ _ hY hR ls hl
set_option maxHeartbeats 4000000 in
set_option maxRecDepth 100000 in
theorem tX2_addTo_L5 (C0 : CallFix p m c cX2_addTo 6 s args wsX2_addTo RX2) (hK : Kx D (tyC ci) s) (K : Int64 → Prop) (σ : St) (x0 : Nat) (hret : ∀ (r : Int64) (H : Heap) (locs : List Loc) (pc : Nat) (ls : Array Slot), K r → Sy D 132 ad A H0 (obC ad ci σ) H locs → decode cX2_addTo pc = .ok (.lreturn, 1) → W p l e rmX2_addTo s m args below meth c H locs 0 0 Q (F0 m pc ls [.long r])) (rx0 : rowB x0 = true) : ∀ (n : Nat) (x3 : Int64) (x5 : Int32), wX2_addTo_L5 K σ x0 n x3 x5 → ∀ (H : Heap) (locs : List Loc), Sy D 132 ad A H0 (obC ad ci σ) H locs → Rok σ → ∀ ls : Array Slot, lv_has ls 6 [(0, .ref (ad x0)), (3, .long x3), (5, .int x5)] → W p l e rmX2_addTo s m args below meth c H locs 0 0 Q (F0 m 5 ls []) := by
  obtain ⟨hx, hb, hml, hown, hts⟩ := id C0
  intro n
  induction n with
  | zero =>
    intro x3 x5 h
    exact h.elim
  | succ n ih =>
    intro x3 x5 h H locs hY hR  ls hl
    refine lv_iload hx hb dX2_addTo_5 (lv_at hl 2 rfl) ?_
    refine lv_aload_n hx hb dX2_addTo_7 rfl (lv_at hl 0 rfl) ?_
    refine w_get (o := x0) (ci := 2) (C := RX2) (T := TX2) (N1 := 2) (v := .int (gI σ x0)) hx hb hts kX2_addTo_inX2 hown hK.1 hY (rowB_lt rx0) (obC_row rx0) rfl 1 (by decide) (hts _ kX2_addTo_0) rfl rfl dX2_addTo_8 ?_
    refine lv_icmp_ge (tgt := 35) hx hb dX2_addTo_11 (by decide) (fun c_1 => ?_) (fun c_1 => ?_)
    · have h := h.1 c_1
      refine lv_lload_n hx hb dX2_addTo_35 rfl (lv_at hl 1 rfl) ?_
      exact hret x3 _ _ _ _ h hY dX2_addTo_36
    · have h := h.2 c_1
      refine lv_ldc2 hx hb hown (hts _ kX2_addTo_2) dX2_addTo_14 ?_
      refine lv_lload_n hx hb dX2_addTo_17 rfl (lv_at hl 1 rfl) ?_
      refine lv_lmul hx hb dX2_addTo_18 ?_
      refine lv_aload_n hx hb dX2_addTo_19 rfl (lv_at hl 0 rfl) ?_
      refine w_get (o := x0) (ci := 2) (C := RX2) (T := TX2) (N1 := 2) (v := .ref (ad (x0 + 1))) hx hb hts kX2_addTo_inX2 hown hK.1 hY (rowB_lt rx0) (obC_row rx0) rfl 0 (by decide) (hts _ kX2_addTo_3) rfl rfl dX2_addTo_20 ?_
      refine lv_iload hx hb dX2_addTo_23 (lv_at hl 2 rfl) ?_
      obtain ⟨b_2, h⟩ := h
      refine w_cald (o := (x0 + 1)) hx hb hK.1 hY (rowB_1 rx0).1 0 (obC_chars rx0) rfl b_2 dX2_addTo_25 ?_
      refine lv_i2l hx hb dX2_addTo_26 rfl ?_
      refine lv_ladd hx hb dX2_addTo_27 ?_
      refine lv_topl (fun x3_3 e_x3_3 => ?_)
      have h := h x3_3 e_x3_3
      refine lv_lstore_n (lv' := [(3, .long x3_3), (0, .ref (ad x0)), (5, .int x5)]) hx hb dX2_addTo_28 rfl hl (by decide) rfl (fun ls hl => ?_)
      refine lv_iinc (v := (x5 + 1)) (lv' := [(5, .int (x5 + 1)), (3, .long x3_3), (0, .ref (ad x0))]) hx hb dX2_addTo_29 hl (k := 2) rfl rfl (by decide) rfl (fun ls hl => ?_)
      refine lv_goto (tgt := 5) hx hb dX2_addTo_32 (by decide) ?_
      exact ih x3_3 (x5 + 1) h _ _ hY hR  _ (lv_sub hl [2, 1, 0] rfl)
set_option maxHeartbeats 4000000 in
set_option maxRecDepth 100000 in
theorem eX2_addTo (C0 : CallFix p m c cX2_addTo 6 s args wsX2_addTo RX2) (hK : Kx D (tyC ci) s) (K : Int64 → Prop) (σ : St) (hret : ∀ (r : Int64) (H : Heap) (locs : List Loc) (pc : Nat) (ls : Array Slot), K r → Sy D 132 ad A H0 (obC ad ci σ) H locs → decode cX2_addTo pc = .ok (.lreturn, 1) → W p l e rmX2_addTo s m args below meth c H locs 0 0 Q (F0 m pc ls [.long r])) (x0 : Nat) (x1 : Int64) (rx0 : rowB x0 = true) (h : wX2_addTo σ x0 x1 K) (H : Heap) (locs : List Loc) (hY : Sy D 132 ad A H0 (obC ad ci σ) H locs) (hR : Rok σ) (ls : Array Slot) (hl : lv_has ls 6 [(0, .ref (ad x0)), (1, .long x1)]) : W p l e rmX2_addTo s m args below meth c H locs 0 0 Q (F0 m 0 ls []) := by
  obtain ⟨hx, hb, hml, hown, hts⟩ := id C0
  refine lv_lload_n hx hb dX2_addTo_0 rfl (lv_at hl 1 rfl) ?_
  refine lv_lstore_n (lv' := [(3, .long x1), (0, .ref (ad x0)), (1, .long x1)]) hx hb dX2_addTo_1 rfl hl (by decide) rfl (fun ls hl => ?_)
  refine lv_iconst (v := (0 : Int32)) hx hb dX2_addTo_2 (by decide) ?_
  refine lv_istore (lv' := [(5, .int (0 : Int32)), (3, .long x1), (0, .ref (ad x0)), (1, .long x1)]) hx hb dX2_addTo_3 hl (by decide) rfl (fun ls hl => ?_)
  obtain ⟨n_4, h⟩ := h
  exact tX2_addTo_L5 C0 hK K σ x0 hret rx0 n_4 x1 (0 : Int32) h _ _ hY hR  _ (lv_sub hl [2, 1, 0] rfl)
set_option maxHeartbeats 4000000 in
set_option maxRecDepth 100000 in
theorem mX2_addTo (l : Launch) (D : va_G) (ad : Nat → Nat) (ci : Nat → ClassId) (A : Nat → Prop) (σ : St) (x0 : Nat) (x1 : Int64) (K : Int64 → Prop) (hR : Rok σ) (rx0 : rowB x0 = true) (h : wX2_addTo σ x0 x1 K) : Met l yX2_addTo wsX2_addTo rmX2_addTo (va_Pc [.ref (ad x0), .long x1] (PreW D 132 ad A (tyC ci) (obC ad ci σ))) (va_Ql (fun r (_ : Unit) => K r) (fun _ => (PostW D 132 ad (tyC ci) (obC ad ci) Rok σ)) A) 0 0 A := by
  refine Met.ofW (cc := cX2_addTo) (maxL := 6) (ret := (some .long)) (by decide) rfl ?_
  intro p e s m args below meth c s₁ B hml hv
  obtain ⟨rfl, hP, hK, hD⟩ := hv
  have C0 : CallFix p m c cX2_addTo 6 s _ wsX2_addTo RX2 := ⟨B.exec, B.bytes, hml, findClass_of_methodNamed B.named, atoms_spec (ws := wsX2_addTo) B.pre⟩
  have hlocks := B.notSynchronized
  have hY : Sy D 132 ad A s.heap (obC ad ci σ) s.heap [] := ⟨hP, hD, va_S.rf⟩
  have hl := lv_entry ([.ref (ad x0), .long x1]) (n := 6) (Nat.le_of_ble_eq_true rfl)
  rw [lg_entry_eq]
  generalize (lg_sl ([.ref (ad x0), .long x1]) ++ List.replicate (6 - (lg_sl ([.ref (ad x0), .long x1])).length) Slot.unset).toArray = ls at hl ⊢
  exact eX2_addTo C0 hK K σ (fun r H locs pc ls hk hY hd => w_lret (I := Rok) B.exec B.bytes B.returns hlocks (u := ()) hK hk (fun t ht => ht) hY hR hd) x0 x1 rx0 h _ _ hY hR ls hl
end
