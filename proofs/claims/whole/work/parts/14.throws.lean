/-! the calls that may throw: what each method does, as predicates over the state; the walks of their bytecode -/
def wX5_type (σ : St) (x1 : Int32) (K : Int32 → St → Prop) (X : String → St → Prop) : Prop := wX5_isSign σ x1 (fun r_1 => ((r_1 = 0 → X "java/lang/IllegalArgumentException" σ) ∧ (¬ r_1 = 0 → wX2_size σ 1 (fun r_3 => ((r_3 < (24 : Int32) → wX2_append σ 1 x1 (fun σ_6 => wX2_size σ_6 1 (fun r_7 => K r_7 σ_6))) ∧ (¬ r_3 < (24 : Int32) → X "java/lang/IllegalStateException" σ))))))
def wX5_typeMore_L60 (K : Int32 → St → Prop) (X : String → St → Prop) (x1 : Int32) : Nat → St → Int32 → Int32 → Prop
  | 0, _, _, _ => False
  | n + 1, σ, x3, x4 => ((x1 ≤ x4 → wX2_size σ 1 (fun r_2 => K r_2 σ)) ∧ (¬ x1 ≤ x4 → wX5_signOf σ (x3 - x3 / (6 : Int32) * (6 : Int32)) (fun r_3 => wX2_append σ 1 r_3 (fun σ_5 => wX5_typeMore_L60 K X x1 n σ_5 (x3 / (6 : Int32)) (x4 + 1)))))
def wX5_typeMore (σ : St) (x1 : Int32) (x2 : Int32) (K : Int32 → St → Prop) (X : String → St → Prop) : Prop := ((x1 < (1 : Int32) → X "java/lang/IllegalArgumentException" σ) ∧ (¬ x1 < (1 : Int32) → (((8 : Int32) < x1 → X "java/lang/IllegalArgumentException" σ) ∧ (¬ (8 : Int32) < x1 → ((x2 < 0 → X "java/lang/IllegalArgumentException" σ) ∧ (¬ x2 < 0 → ((x2 ≤ (1679615 : Int32) → wX2_size σ 1 (fun r_10 => (((r_10 + x1) ≤ (24 : Int32) → (∃ n : Nat, wX5_typeMore_L60 K X x1 n σ x2 (0 : Int32))) ∧ (¬ (r_10 + x1) ≤ (24 : Int32) → X "java/lang/IllegalStateException" σ)))) ∧ (¬ x2 ≤ (1679615 : Int32) → X "java/lang/IllegalArgumentException" σ))))))))
def wX5_typeAt (σ : St) (x1 : Int32) (x2 : Int32) (K : Int32 → St → Prop) (X : String → St → Prop) : Prop := ((x1 < 0 → X "java/lang/IndexOutOfBoundsException" σ) ∧ (¬ x1 < 0 → wX2_size σ 1 (fun r_2 => ((x1 ≤ r_2 → wX5_isSign σ x2 (fun r_4 => ((r_4 = 0 → X "java/lang/IllegalArgumentException" σ) ∧ (¬ r_4 = 0 → wX2_size σ 1 (fun r_6 => ((r_6 < (24 : Int32) → wX2_insert σ 1 x1 x2 (fun σ_9 => wX2_size σ_9 1 (fun r_10 => K r_10 σ_9))) ∧ (¬ r_6 < (24 : Int32) → X "java/lang/IllegalStateException" σ))))))) ∧ (¬ x1 ≤ r_2 → X "java/lang/IndexOutOfBoundsException" σ)))))
def wX5_drop (σ : St) (K : Int32 → St → Prop) (X : String → St → Prop) : Prop := wX2_size σ 1 (fun r_1 => ((r_1 = 0 → X "java/util/NoSuchElementException" σ) ∧ (¬ r_1 = 0 → wX2_size σ 1 (fun r_3 => wX2_size σ 1 (fun r_4 => wX2_removePart σ 1 (r_3 - (1 : Int32)) r_4 (fun σ_6 => wX2_size σ_6 1 (fun r_7 => K r_7 σ_6)))))))
def wX5_clip (σ : St) (x1 : Int32) (x2 : Int32) (K : Int32 → St → Prop) (X : String → St → Prop) : Prop := ((x1 < 0 → X "java/lang/IndexOutOfBoundsException" σ) ∧ (¬ x1 < 0 → ((x2 < x1 → X "java/lang/IndexOutOfBoundsException" σ) ∧ (¬ x2 < x1 → wX2_size σ 1 (fun r_3 => ((x2 ≤ r_3 → wX2_removePart σ 1 x1 x2 (fun σ_6 => wX2_size σ_6 1 (fun r_7 => K r_7 σ_6))) ∧ (¬ x2 ≤ r_3 → X "java/lang/IndexOutOfBoundsException" σ)))))))
def wX5_signAt (σ : St) (x1 : Int32) (K : Int32 → St → Prop) (X : String → St → Prop) : Prop := ((x1 < 0 → X "java/lang/IndexOutOfBoundsException" σ) ∧ (¬ x1 < 0 → wX2_size σ 1 (fun r_2 => ((x1 < r_2 → wX2_at σ 1 x1 (fun r_4 => K r_4 σ)) ∧ (¬ x1 < r_2 → X "java/lang/IndexOutOfBoundsException" σ)))))
def wX5_put_J92 (K : Int32 → St → Prop) (X : String → St → Prop) (σ : St) (x1 : Int32) (x2 : Int32) : Prop := ((x2 = (-1 : Int32) → wX4_insert σ 1 x1 (fun σ_6 => K (-1 : Int32) σ_6)) ∧ (¬ x2 = (-1 : Int32) → wX4_numberAt σ x2 (fun r_2 => wX4_setNumber σ x2 x1 (fun σ_4 => K r_2 σ_4))))
def wX5_put (σ : St) (x1 : Int32) (K : Int32 → St → Prop) (X : String → St → Prop) : Prop := ((x1 < 0 → X "java/lang/IllegalArgumentException" σ) ∧ (¬ x1 < 0 → ((x1 ≤ (999 : Int32) → wX2_size σ 1 (fun r_9 => ((r_9 = 0 → X "java/lang/UnsupportedOperationException" σ) ∧ (¬ r_9 = 0 → wX2_size σ 1 (fun r_11 => ((r_11 ≤ (10 : Int32) → wX4_rankOf σ 1 (fun r_13 => ((r_13 = (-1 : Int32) → wX4_size σ (fun r_15 => ((r_15 < (24 : Int32) → wX5_put_J92 K X σ x1 r_13) ∧ (¬ r_15 < (24 : Int32) → X "java/lang/IllegalStateException" σ)))) ∧ (¬ r_13 = (-1 : Int32) → wX5_put_J92 K X σ x1 r_13)))) ∧ (¬ r_11 ≤ (10 : Int32) → X "java/lang/UnsupportedOperationException" σ))))))) ∧ (¬ x1 ≤ (999 : Int32) → X "java/lang/IllegalArgumentException" σ))))
def wX5_take (σ : St) (K : Int32 → St → Prop) (X : String → St → Prop) : Prop := wX4_rankOf σ 1 (fun r_1 => ((r_1 = (-1 : Int32) → X "java/util/NoSuchElementException" σ) ∧ (¬ r_1 = (-1 : Int32) → wX4_numberAt σ r_1 (fun r_3 => wX4_remove σ r_1 (fun σ_5 => K r_3 σ_5)))))
def wX5_number (σ : St) (K : Int32 → St → Prop) (X : String → St → Prop) : Prop := wX4_rankOf σ 1 (fun r_1 => ((r_1 = (-1 : Int32) → X "java/util/NoSuchElementException" σ) ∧ (¬ r_1 = (-1 : Int32) → wX4_numberAt σ r_1 (fun r_3 => K r_3 σ))))
def wX5_word (σ : St) (x1 : Int32) (K : Int32 → St → Prop) (X : String → St → Prop) : Prop := ((x1 < 0 → X "java/lang/IndexOutOfBoundsException" σ) ∧ (¬ x1 < 0 → wX4_size σ (fun r_2 => ((x1 < r_2 → wX4_rowAt σ x1 (fun r_4 => wX2_become σ 1 r_4 (fun σ_6 => wX2_size σ_6 1 (fun r_7 => K r_7 σ_6)))) ∧ (¬ x1 < r_2 → X "java/lang/IndexOutOfBoundsException" σ)))))
def wX5_near_J34 (K : Int32 → St → Prop) (X : String → St → Prop) (σ : St) (x1 : Int32) : Prop := wX5_rankNear σ x1 (fun r_1 => ((r_1 < 0 → X "java/util/NoSuchElementException" σ) ∧ (¬ r_1 < 0 → wX4_size σ (fun r_3 => ((r_1 < r_3 → wX4_rowAt σ r_1 (fun r_5 => wX2_become σ 1 r_5 (fun σ_7 => wX4_numberAt σ_7 r_1 (fun r_8 => K r_8 σ_7)))) ∧ (¬ r_1 < r_3 → X "java/util/NoSuchElementException" σ))))))
def wX5_near (σ : St) (x1 : Int32) (K : Int32 → St → Prop) (X : String → St → Prop) : Prop := ((x1 = (102 : Int32) → wX5_near_J34 K X σ x1) ∧ (¬ x1 = (102 : Int32) → ((x1 = (99 : Int32) → wX5_near_J34 K X σ x1) ∧ (¬ x1 = (99 : Int32) → ((x1 = (108 : Int32) → wX5_near_J34 K X σ x1) ∧ (¬ x1 = (108 : Int32) → ((x1 = (104 : Int32) → wX5_near_J34 K X σ x1) ∧ (¬ x1 = (104 : Int32) → X "java/lang/IllegalArgumentException" σ))))))))
def wX5_begunAt (σ : St) (x1 : Int32) (K : Int32 → St → Prop) (X : String → St → Prop) : Prop := wX4_rankBegun σ 1 x1 (fun r_1 => ((r_1 = (-1 : Int32) → X "java/util/NoSuchElementException" σ) ∧ (¬ r_1 = (-1 : Int32) → wX4_rowAt σ r_1 (fun r_3 => wX2_become σ 1 r_3 (fun σ_5 => wX4_numberAt σ_5 r_1 (fun r_6 => K r_6 σ_5))))))
def wX5_longest (σ : St) (x1 : Int32) (K : Int32 → St → Prop) (X : String → St → Prop) : Prop := ((x1 < 0 → X "java/lang/IndexOutOfBoundsException" σ) ∧ (¬ x1 < 0 → wX2_size σ 1 (fun r_2 => ((x1 ≤ r_2 → wX4_longestAt σ 1 x1 (fun r_4 => K r_4 σ)) ∧ (¬ x1 ≤ r_2 → X "java/lang/IndexOutOfBoundsException" σ)))))
def wX5_twin (σ : St) (K : Int32 → St → Prop) (X : String → St → Prop) : Prop := wX4_size σ (fun r_1 => (((2 : Int32) ≤ r_1 → wX4_mostCommonOfTwo σ (fun r_3 => K r_3 σ)) ∧ (¬ (2 : Int32) ≤ r_1 → X "java/util/NoSuchElementException" σ)))
def wX5_piece (σ : St) (x1 : Int32) (K : Int32 → St → Prop) (X : String → St → Prop) : Prop := wX1_look σ 1 (fun σ_2 => wX1_sizeOfLongest σ_2 x1 (fun r_3 => ((r_3 = 0 → X "java/util/NoSuchElementException" σ_2) ∧ (¬ r_3 = 0 → K r_3 σ_2))))
def wX5_code (σ : St) (x1 : Int32) (K : Int32 → St → Prop) (X : String → St → Prop) : Prop := wX5_isSign σ x1 (fun r_1 => ((r_1 = 0 → X "java/lang/IllegalArgumentException" σ) ∧ (¬ r_1 = 0 → wX2_size σ 1 (fun r_3 => ((r_3 = 0 → X "java/lang/UnsupportedOperationException" σ) ∧ (¬ r_3 = 0 → wX2_size σ 1 (fun r_5 => ((r_5 ≤ (3 : Int32) → wX0_codeOf σ x1 (fun r_7 => wX2_size σ r_7 (fun r_8 => wX2_become σ r_7 1 (fun σ_10 => K r_8 σ_10)))) ∧ (¬ r_5 ≤ (3 : Int32) → X "java/lang/UnsupportedOperationException" σ)))))))))
def wX5_write (σ : St) (K : Int32 → St → Prop) (X : String → St → Prop) : Prop := wX0_sizeWritten σ 1 (fun r_1 => ((r_1 ≤ (24 : Int32) → wX0_writeInto σ 1 3 (fun σ_4 => wX2_become σ_4 1 3 (fun σ_6 => wX2_size σ_6 1 (fun r_7 => K r_7 σ_6)))) ∧ (¬ r_1 ≤ (24 : Int32) → X "java/lang/IllegalStateException" σ)))
def wX5_read (σ : St) (K : Int32 → St → Prop) (X : String → St → Prop) : Prop := wX0_isOrderly σ (fun r_1 => ((r_1 = 0 → X "java/lang/UnsupportedOperationException" σ) ∧ (¬ r_1 = 0 → wX0_readInto σ 1 3 (fun r_3 σ_4 => ((r_3 = 0 → X "java/util/NoSuchElementException" σ_4) ∧ (¬ r_3 = 0 → wX2_become σ_4 1 3 (fun σ_7 => wX2_size σ_7 1 (fun r_8 => K r_8 σ_7))))))))
def wX5_writeAll_J106 (K : Int32 → St → Prop) (X : String → St → Prop) (B61 : St → Int32 → Int32 → Prop) (σ : St) (x1 : Int32) (x2 : Int32) (x3 : Nat) (x4 : Nat) : Prop := wX2_become σ x3 x4 (fun σ_2 => B61 σ_2 x1 (x2 + 1))
def wX5_writeAll_L61 (K : Int32 → St → Prop) (X : String → St → Prop) : Nat → St → Int32 → Int32 → Prop
  | 0, _, _, _ => False
  | n + 1, σ, x1, x2 => wX4_size σ (fun r_3 => ((r_3 ≤ x2 → K x1 σ) ∧ (¬ r_3 ≤ x2 → wX4_rowAt σ x2 (fun r_5 => wX0_writtenAt σ x2 (fun r_6 => wX2_size σ r_6 (fun r_7 => wX2_size σ r_5 (fun r_8 => ((r_7 ≤ r_8 → wX5_writeAll_J106 K X (wX5_writeAll_L61 K X n) σ x1 x2 r_5 r_6) ∧ (¬ r_7 ≤ r_8 → wX5_writeAll_J106 K X (wX5_writeAll_L61 K X n) σ (x1 + 1) x2 r_5 r_6)))))))))
def wX5_writeAll (σ : St) (K : Int32 → St → Prop) (X : String → St → Prop) : Prop := wX0_isOrderly σ (fun r_10 => ((r_10 = 0 → X "java/lang/UnsupportedOperationException" σ) ∧ (¬ r_10 = 0 → wX0_mostWritten σ (fun r_12 => ((r_12 ≤ (10 : Int32) → wX0_writeWords σ (fun σ_15 => (∃ n : Nat, wX5_writeAll_L61 K X n σ_15 (0 : Int32) (0 : Int32)))) ∧ (¬ r_12 ≤ (10 : Int32) → X "java/lang/IllegalStateException" σ))))))
abbrev rmX5_type : Room := { frames := 6, cells := 1, slots := 6, locals := 82 }
theorem ddX5_type : yX5_type.cls = RX5 ∧ yX5_type.cls ≠ "java/lang/invoke/MethodHandle" ∧ yX5_type.cls ≠ "java/lang/invoke/VarHandle" ∧ (parseMethodDescriptor yX5_type.desc).map (fun d => d.parameters.length) = some 1 := by decide +kernel
set_option maxRecDepth 20000 in
theorem kX5_type_0 : Cond.fieldLink RX5 14 "Stemspan" "text" "LStemspan$Row;" ∈ wsX5_type := by decide +kernel
set_option maxRecDepth 20000 in
theorem kX5_type_inX5 : ∀ w ∈ wsX50, w ∈ wsX5_type := by decide +kernel
theorem kX5_type_at68 : ∀ w ∈ (vx_atS RX5 68 "java/lang/IllegalStateException" exN).filter goodWord, w ∈ wsX5_type := fun _ h => List.mem_cons_of_mem _ (List.mem_append_right _ h)
set_option maxRecDepth 20000 in
theorem kX5_type_3 : Cond.classLink RX5 64 "java/lang/IllegalStateException" ∈ wsX5_type := by decide +kernel
set_option maxRecDepth 20000 in
theorem kX5_type_4 : Cond.initialized "java/lang/IllegalStateException" ∈ wsX5_type := by decide +kernel
theorem kX5_type_at57 : ∀ w ∈ (vx_atS RX5 57 "java/lang/IllegalArgumentException" exN).filter goodWord, w ∈ wsX5_type := fun _ h => List.mem_cons_of_mem _ (List.mem_append_left _ (List.mem_append_right _ h))
set_option maxRecDepth 20000 in
theorem kX5_type_6 : Cond.classLink RX5 53 "java/lang/IllegalArgumentException" ∈ wsX5_type := by decide +kernel
set_option maxRecDepth 20000 in
theorem kX5_type_7 : Cond.initialized "java/lang/IllegalArgumentException" ∈ wsX5_type := by decide +kernel
abbrev rmX5_typeMore : Room := { frames := 6, cells := 1, slots := 6, locals := 82 }
theorem ddX5_typeMore : yX5_typeMore.cls = RX5 ∧ yX5_typeMore.cls ≠ "java/lang/invoke/MethodHandle" ∧ yX5_typeMore.cls ≠ "java/lang/invoke/VarHandle" ∧ (parseMethodDescriptor yX5_typeMore.desc).map (fun d => d.parameters.length) = some 2 := by decide +kernel
set_option maxRecDepth 20000 in
theorem kX5_typeMore_0 : Cond.fieldLink RX5 14 "Stemspan" "text" "LStemspan$Row;" ∈ wsX5_typeMore := by decide +kernel
set_option maxRecDepth 20000 in
theorem kX5_typeMore_inX5 : ∀ w ∈ wsX50, w ∈ wsX5_typeMore := by decide +kernel
theorem kX5_typeMore_at57 : ∀ w ∈ (vx_atS RX5 57 "java/lang/IllegalArgumentException" exN).filter goodWord, w ∈ wsX5_typeMore := fun _ h => List.mem_cons_of_mem _ (List.mem_append_left _ (List.mem_append_right _ h))
set_option maxRecDepth 20000 in
theorem kX5_typeMore_3 : Cond.classLink RX5 53 "java/lang/IllegalArgumentException" ∈ wsX5_typeMore := by decide +kernel
set_option maxRecDepth 20000 in
theorem kX5_typeMore_4 : Cond.initialized "java/lang/IllegalArgumentException" ∈ wsX5_typeMore := by decide +kernel
set_option maxRecDepth 20000 in
theorem kX5_typeMore_5 : Cond.constant RX5 73 (1679615) ∈ wsX5_typeMore := by decide +kernel
theorem kX5_typeMore_at68 : ∀ w ∈ (vx_atS RX5 68 "java/lang/IllegalStateException" exN).filter goodWord, w ∈ wsX5_typeMore := fun _ h => List.mem_cons_of_mem _ (List.mem_append_right _ h)
set_option maxRecDepth 20000 in
theorem kX5_typeMore_7 : Cond.classLink RX5 64 "java/lang/IllegalStateException" ∈ wsX5_typeMore := by decide +kernel
set_option maxRecDepth 20000 in
theorem kX5_typeMore_8 : Cond.initialized "java/lang/IllegalStateException" ∈ wsX5_typeMore := by decide +kernel
abbrev rmX5_typeAt : Room := { frames := 6, cells := 1, slots := 6, locals := 82 }
theorem ddX5_typeAt : yX5_typeAt.cls = RX5 ∧ yX5_typeAt.cls ≠ "java/lang/invoke/MethodHandle" ∧ yX5_typeAt.cls ≠ "java/lang/invoke/VarHandle" ∧ (parseMethodDescriptor yX5_typeAt.desc).map (fun d => d.parameters.length) = some 2 := by decide +kernel
theorem kX5_typeAt_at86 : ∀ w ∈ (vx_atS RX5 86 "java/lang/IndexOutOfBoundsException" exN).filter goodWord, w ∈ wsX5_typeAt := fun _ h => List.mem_cons_of_mem _ (List.mem_append_left _ (List.mem_append_left _ (List.mem_append_right _ h)))
set_option maxRecDepth 20000 in
theorem kX5_typeAt_1 : Cond.classLink RX5 82 "java/lang/IndexOutOfBoundsException" ∈ wsX5_typeAt := by decide +kernel
set_option maxRecDepth 20000 in
theorem kX5_typeAt_2 : Cond.initialized "java/lang/IndexOutOfBoundsException" ∈ wsX5_typeAt := by decide +kernel
set_option maxRecDepth 20000 in
theorem kX5_typeAt_3 : Cond.fieldLink RX5 14 "Stemspan" "text" "LStemspan$Row;" ∈ wsX5_typeAt := by decide +kernel
set_option maxRecDepth 20000 in
theorem kX5_typeAt_inX5 : ∀ w ∈ wsX50, w ∈ wsX5_typeAt := by decide +kernel
theorem kX5_typeAt_at68 : ∀ w ∈ (vx_atS RX5 68 "java/lang/IllegalStateException" exN).filter goodWord, w ∈ wsX5_typeAt := fun _ h => List.mem_cons_of_mem _ (List.mem_append_right _ h)
set_option maxRecDepth 20000 in
theorem kX5_typeAt_6 : Cond.classLink RX5 64 "java/lang/IllegalStateException" ∈ wsX5_typeAt := by decide +kernel
set_option maxRecDepth 20000 in
theorem kX5_typeAt_7 : Cond.initialized "java/lang/IllegalStateException" ∈ wsX5_typeAt := by decide +kernel
theorem kX5_typeAt_at57 : ∀ w ∈ (vx_atS RX5 57 "java/lang/IllegalArgumentException" exN).filter goodWord, w ∈ wsX5_typeAt := fun _ h => List.mem_cons_of_mem _ (List.mem_append_left _ (List.mem_append_right _ h))
set_option maxRecDepth 20000 in
theorem kX5_typeAt_9 : Cond.classLink RX5 53 "java/lang/IllegalArgumentException" ∈ wsX5_typeAt := by decide +kernel
set_option maxRecDepth 20000 in
theorem kX5_typeAt_10 : Cond.initialized "java/lang/IllegalArgumentException" ∈ wsX5_typeAt := by decide +kernel
abbrev rmX5_drop : Room := { frames := 6, cells := 1, slots := 6, locals := 82 }
theorem ddX5_drop : yX5_drop.cls = RX5 ∧ yX5_drop.cls ≠ "java/lang/invoke/MethodHandle" ∧ yX5_drop.cls ≠ "java/lang/invoke/VarHandle" ∧ (parseMethodDescriptor yX5_drop.desc).map (fun d => d.parameters.length) = some 0 := by decide +kernel
set_option maxRecDepth 20000 in
theorem kX5_drop_0 : Cond.fieldLink RX5 14 "Stemspan" "text" "LStemspan$Row;" ∈ wsX5_drop := by decide +kernel
set_option maxRecDepth 20000 in
theorem kX5_drop_inX5 : ∀ w ∈ wsX50, w ∈ wsX5_drop := by decide +kernel
theorem kX5_drop_at95 : ∀ w ∈ (vx_atX RX5 95 "java/util/NoSuchElementException" "java/lang/RuntimeException" ["java/lang/Exception"]).filter goodWord, w ∈ wsX5_drop := fun _ h => List.mem_cons_of_mem _ (List.mem_append_right _ h)
set_option maxRecDepth 20000 in
theorem kX5_drop_3 : Cond.classLink RX5 91 "java/util/NoSuchElementException" ∈ wsX5_drop := by decide +kernel
set_option maxRecDepth 20000 in
theorem kX5_drop_4 : Cond.initialized "java/util/NoSuchElementException" ∈ wsX5_drop := by decide +kernel
abbrev rmX5_clip : Room := { frames := 6, cells := 1, slots := 6, locals := 82 }
theorem ddX5_clip : yX5_clip.cls = RX5 ∧ yX5_clip.cls ≠ "java/lang/invoke/MethodHandle" ∧ yX5_clip.cls ≠ "java/lang/invoke/VarHandle" ∧ (parseMethodDescriptor yX5_clip.desc).map (fun d => d.parameters.length) = some 2 := by decide +kernel
theorem kX5_clip_at86 : ∀ w ∈ (vx_atS RX5 86 "java/lang/IndexOutOfBoundsException" exN).filter goodWord, w ∈ wsX5_clip := fun _ h => List.mem_cons_of_mem _ (List.mem_append_right _ h)
set_option maxRecDepth 20000 in
theorem kX5_clip_1 : Cond.classLink RX5 82 "java/lang/IndexOutOfBoundsException" ∈ wsX5_clip := by decide +kernel
set_option maxRecDepth 20000 in
theorem kX5_clip_2 : Cond.initialized "java/lang/IndexOutOfBoundsException" ∈ wsX5_clip := by decide +kernel
set_option maxRecDepth 20000 in
theorem kX5_clip_3 : Cond.fieldLink RX5 14 "Stemspan" "text" "LStemspan$Row;" ∈ wsX5_clip := by decide +kernel
set_option maxRecDepth 20000 in
theorem kX5_clip_inX5 : ∀ w ∈ wsX50, w ∈ wsX5_clip := by decide +kernel
abbrev rmX5_signAt : Room := { frames := 6, cells := 1, slots := 6, locals := 82 }
theorem ddX5_signAt : yX5_signAt.cls = RX5 ∧ yX5_signAt.cls ≠ "java/lang/invoke/MethodHandle" ∧ yX5_signAt.cls ≠ "java/lang/invoke/VarHandle" ∧ (parseMethodDescriptor yX5_signAt.desc).map (fun d => d.parameters.length) = some 1 := by decide +kernel
theorem kX5_signAt_at86 : ∀ w ∈ (vx_atS RX5 86 "java/lang/IndexOutOfBoundsException" exN).filter goodWord, w ∈ wsX5_signAt := fun _ h => List.mem_cons_of_mem _ (List.mem_append_right _ h)
set_option maxRecDepth 20000 in
theorem kX5_signAt_1 : Cond.classLink RX5 82 "java/lang/IndexOutOfBoundsException" ∈ wsX5_signAt := by decide +kernel
set_option maxRecDepth 20000 in
theorem kX5_signAt_2 : Cond.initialized "java/lang/IndexOutOfBoundsException" ∈ wsX5_signAt := by decide +kernel
set_option maxRecDepth 20000 in
theorem kX5_signAt_3 : Cond.fieldLink RX5 14 "Stemspan" "text" "LStemspan$Row;" ∈ wsX5_signAt := by decide +kernel
set_option maxRecDepth 20000 in
theorem kX5_signAt_inX5 : ∀ w ∈ wsX50, w ∈ wsX5_signAt := by decide +kernel
abbrev rmX5_put : Room := { frames := 6, cells := 1, slots := 6, locals := 91 }
theorem ddX5_put : yX5_put.cls = RX5 ∧ yX5_put.cls ≠ "java/lang/invoke/MethodHandle" ∧ yX5_put.cls ≠ "java/lang/invoke/VarHandle" ∧ (parseMethodDescriptor yX5_put.desc).map (fun d => d.parameters.length) = some 1 := by decide +kernel
set_option maxRecDepth 20000 in
theorem kX5_put_0 : Cond.fieldLink RX5 24 "Stemspan" "list" "LStemspan$WordList;" ∈ wsX5_put := by decide +kernel
set_option maxRecDepth 20000 in
theorem kX5_put_inX5 : ∀ w ∈ wsX50, w ∈ wsX5_put := by decide +kernel
set_option maxRecDepth 20000 in
theorem kX5_put_2 : Cond.fieldLink RX5 14 "Stemspan" "text" "LStemspan$Row;" ∈ wsX5_put := by decide +kernel
theorem kX5_put_at57 : ∀ w ∈ (vx_atS RX5 57 "java/lang/IllegalArgumentException" exN).filter goodWord, w ∈ wsX5_put := fun _ h => List.mem_cons_of_mem _ (List.mem_append_left _ (List.mem_append_left _ (List.mem_append_right _ h)))
set_option maxRecDepth 20000 in
theorem kX5_put_4 : Cond.classLink RX5 53 "java/lang/IllegalArgumentException" ∈ wsX5_put := by decide +kernel
set_option maxRecDepth 20000 in
theorem kX5_put_5 : Cond.initialized "java/lang/IllegalArgumentException" ∈ wsX5_put := by decide +kernel
theorem kX5_put_at118 : ∀ w ∈ (vx_atS RX5 118 "java/lang/UnsupportedOperationException" exN).filter goodWord, w ∈ wsX5_put := fun _ h => List.mem_cons_of_mem _ (List.mem_append_left _ (List.mem_append_right _ h))
set_option maxRecDepth 20000 in
theorem kX5_put_7 : Cond.classLink RX5 114 "java/lang/UnsupportedOperationException" ∈ wsX5_put := by decide +kernel
set_option maxRecDepth 20000 in
theorem kX5_put_8 : Cond.initialized "java/lang/UnsupportedOperationException" ∈ wsX5_put := by decide +kernel
theorem kX5_put_at68 : ∀ w ∈ (vx_atS RX5 68 "java/lang/IllegalStateException" exN).filter goodWord, w ∈ wsX5_put := fun _ h => List.mem_cons_of_mem _ (List.mem_append_right _ h)
set_option maxRecDepth 20000 in
theorem kX5_put_10 : Cond.classLink RX5 64 "java/lang/IllegalStateException" ∈ wsX5_put := by decide +kernel
set_option maxRecDepth 20000 in
theorem kX5_put_11 : Cond.initialized "java/lang/IllegalStateException" ∈ wsX5_put := by decide +kernel
abbrev rmX5_take : Room := { frames := 6, cells := 1, slots := 6, locals := 88 }
theorem ddX5_take : yX5_take.cls = RX5 ∧ yX5_take.cls ≠ "java/lang/invoke/MethodHandle" ∧ yX5_take.cls ≠ "java/lang/invoke/VarHandle" ∧ (parseMethodDescriptor yX5_take.desc).map (fun d => d.parameters.length) = some 0 := by decide +kernel
set_option maxRecDepth 20000 in
theorem kX5_take_0 : Cond.fieldLink RX5 24 "Stemspan" "list" "LStemspan$WordList;" ∈ wsX5_take := by decide +kernel
set_option maxRecDepth 20000 in
theorem kX5_take_inX5 : ∀ w ∈ wsX50, w ∈ wsX5_take := by decide +kernel
set_option maxRecDepth 20000 in
theorem kX5_take_2 : Cond.fieldLink RX5 14 "Stemspan" "text" "LStemspan$Row;" ∈ wsX5_take := by decide +kernel
theorem kX5_take_at95 : ∀ w ∈ (vx_atX RX5 95 "java/util/NoSuchElementException" "java/lang/RuntimeException" ["java/lang/Exception"]).filter goodWord, w ∈ wsX5_take := fun _ h => List.mem_cons_of_mem _ (List.mem_append_right _ h)
set_option maxRecDepth 20000 in
theorem kX5_take_4 : Cond.classLink RX5 91 "java/util/NoSuchElementException" ∈ wsX5_take := by decide +kernel
set_option maxRecDepth 20000 in
theorem kX5_take_5 : Cond.initialized "java/util/NoSuchElementException" ∈ wsX5_take := by decide +kernel
abbrev rmX5_number : Room := { frames := 6, cells := 1, slots := 6, locals := 88 }
theorem ddX5_number : yX5_number.cls = RX5 ∧ yX5_number.cls ≠ "java/lang/invoke/MethodHandle" ∧ yX5_number.cls ≠ "java/lang/invoke/VarHandle" ∧ (parseMethodDescriptor yX5_number.desc).map (fun d => d.parameters.length) = some 0 := by decide +kernel
set_option maxRecDepth 20000 in
theorem kX5_number_0 : Cond.fieldLink RX5 24 "Stemspan" "list" "LStemspan$WordList;" ∈ wsX5_number := by decide +kernel
set_option maxRecDepth 20000 in
theorem kX5_number_inX5 : ∀ w ∈ wsX50, w ∈ wsX5_number := by decide +kernel
set_option maxRecDepth 20000 in
theorem kX5_number_2 : Cond.fieldLink RX5 14 "Stemspan" "text" "LStemspan$Row;" ∈ wsX5_number := by decide +kernel
theorem kX5_number_at95 : ∀ w ∈ (vx_atX RX5 95 "java/util/NoSuchElementException" "java/lang/RuntimeException" ["java/lang/Exception"]).filter goodWord, w ∈ wsX5_number := fun _ h => List.mem_cons_of_mem _ (List.mem_append_right _ h)
set_option maxRecDepth 20000 in
theorem kX5_number_4 : Cond.classLink RX5 91 "java/util/NoSuchElementException" ∈ wsX5_number := by decide +kernel
set_option maxRecDepth 20000 in
theorem kX5_number_5 : Cond.initialized "java/util/NoSuchElementException" ∈ wsX5_number := by decide +kernel
abbrev rmX5_word : Room := { frames := 6, cells := 1, slots := 6, locals := 82 }
theorem ddX5_word : yX5_word.cls = RX5 ∧ yX5_word.cls ≠ "java/lang/invoke/MethodHandle" ∧ yX5_word.cls ≠ "java/lang/invoke/VarHandle" ∧ (parseMethodDescriptor yX5_word.desc).map (fun d => d.parameters.length) = some 1 := by decide +kernel
theorem kX5_word_at86 : ∀ w ∈ (vx_atS RX5 86 "java/lang/IndexOutOfBoundsException" exN).filter goodWord, w ∈ wsX5_word := fun _ h => List.mem_cons_of_mem _ (List.mem_append_right _ h)
set_option maxRecDepth 20000 in
theorem kX5_word_1 : Cond.classLink RX5 82 "java/lang/IndexOutOfBoundsException" ∈ wsX5_word := by decide +kernel
set_option maxRecDepth 20000 in
theorem kX5_word_2 : Cond.initialized "java/lang/IndexOutOfBoundsException" ∈ wsX5_word := by decide +kernel
set_option maxRecDepth 20000 in
theorem kX5_word_3 : Cond.fieldLink RX5 24 "Stemspan" "list" "LStemspan$WordList;" ∈ wsX5_word := by decide +kernel
set_option maxRecDepth 20000 in
theorem kX5_word_inX5 : ∀ w ∈ wsX50, w ∈ wsX5_word := by decide +kernel
set_option maxRecDepth 20000 in
theorem kX5_word_5 : Cond.fieldLink RX5 14 "Stemspan" "text" "LStemspan$Row;" ∈ wsX5_word := by decide +kernel
abbrev rmX5_near : Room := { frames := 6, cells := 1, slots := 6, locals := 87 }
theorem ddX5_near : yX5_near.cls = RX5 ∧ yX5_near.cls ≠ "java/lang/invoke/MethodHandle" ∧ yX5_near.cls ≠ "java/lang/invoke/VarHandle" ∧ (parseMethodDescriptor yX5_near.desc).map (fun d => d.parameters.length) = some 1 := by decide +kernel
theorem kX5_near_at95 : ∀ w ∈ (vx_atX RX5 95 "java/util/NoSuchElementException" "java/lang/RuntimeException" ["java/lang/Exception"]).filter goodWord, w ∈ wsX5_near := fun _ h => List.mem_cons_of_mem _ (List.mem_append_right _ h)
set_option maxRecDepth 20000 in
theorem kX5_near_1 : Cond.classLink RX5 91 "java/util/NoSuchElementException" ∈ wsX5_near := by decide +kernel
set_option maxRecDepth 20000 in
theorem kX5_near_2 : Cond.initialized "java/util/NoSuchElementException" ∈ wsX5_near := by decide +kernel
set_option maxRecDepth 20000 in
theorem kX5_near_3 : Cond.fieldLink RX5 24 "Stemspan" "list" "LStemspan$WordList;" ∈ wsX5_near := by decide +kernel
set_option maxRecDepth 20000 in
theorem kX5_near_inX5 : ∀ w ∈ wsX50, w ∈ wsX5_near := by decide +kernel
set_option maxRecDepth 20000 in
theorem kX5_near_5 : Cond.fieldLink RX5 14 "Stemspan" "text" "LStemspan$Row;" ∈ wsX5_near := by decide +kernel
theorem kX5_near_at57 : ∀ w ∈ (vx_atS RX5 57 "java/lang/IllegalArgumentException" exN).filter goodWord, w ∈ wsX5_near := fun _ h => List.mem_cons_of_mem _ (List.mem_append_left _ (List.mem_append_right _ h))
set_option maxRecDepth 20000 in
theorem kX5_near_7 : Cond.classLink RX5 53 "java/lang/IllegalArgumentException" ∈ wsX5_near := by decide +kernel
set_option maxRecDepth 20000 in
theorem kX5_near_8 : Cond.initialized "java/lang/IllegalArgumentException" ∈ wsX5_near := by decide +kernel
abbrev rmX5_begunAt : Room := { frames := 6, cells := 1, slots := 6, locals := 82 }
theorem ddX5_begunAt : yX5_begunAt.cls = RX5 ∧ yX5_begunAt.cls ≠ "java/lang/invoke/MethodHandle" ∧ yX5_begunAt.cls ≠ "java/lang/invoke/VarHandle" ∧ (parseMethodDescriptor yX5_begunAt.desc).map (fun d => d.parameters.length) = some 1 := by decide +kernel
set_option maxRecDepth 20000 in
theorem kX5_begunAt_0 : Cond.fieldLink RX5 24 "Stemspan" "list" "LStemspan$WordList;" ∈ wsX5_begunAt := by decide +kernel
set_option maxRecDepth 20000 in
theorem kX5_begunAt_inX5 : ∀ w ∈ wsX50, w ∈ wsX5_begunAt := by decide +kernel
set_option maxRecDepth 20000 in
theorem kX5_begunAt_2 : Cond.fieldLink RX5 14 "Stemspan" "text" "LStemspan$Row;" ∈ wsX5_begunAt := by decide +kernel
theorem kX5_begunAt_at95 : ∀ w ∈ (vx_atX RX5 95 "java/util/NoSuchElementException" "java/lang/RuntimeException" ["java/lang/Exception"]).filter goodWord, w ∈ wsX5_begunAt := fun _ h => List.mem_cons_of_mem _ (List.mem_append_right _ h)
set_option maxRecDepth 20000 in
theorem kX5_begunAt_4 : Cond.classLink RX5 91 "java/util/NoSuchElementException" ∈ wsX5_begunAt := by decide +kernel
set_option maxRecDepth 20000 in
theorem kX5_begunAt_5 : Cond.initialized "java/util/NoSuchElementException" ∈ wsX5_begunAt := by decide +kernel
abbrev rmX5_longest : Room := { frames := 6, cells := 1, slots := 6, locals := 82 }
theorem ddX5_longest : yX5_longest.cls = RX5 ∧ yX5_longest.cls ≠ "java/lang/invoke/MethodHandle" ∧ yX5_longest.cls ≠ "java/lang/invoke/VarHandle" ∧ (parseMethodDescriptor yX5_longest.desc).map (fun d => d.parameters.length) = some 1 := by decide +kernel
theorem kX5_longest_at86 : ∀ w ∈ (vx_atS RX5 86 "java/lang/IndexOutOfBoundsException" exN).filter goodWord, w ∈ wsX5_longest := fun _ h => List.mem_cons_of_mem _ (List.mem_append_right _ h)
set_option maxRecDepth 20000 in
theorem kX5_longest_1 : Cond.classLink RX5 82 "java/lang/IndexOutOfBoundsException" ∈ wsX5_longest := by decide +kernel
set_option maxRecDepth 20000 in
theorem kX5_longest_2 : Cond.initialized "java/lang/IndexOutOfBoundsException" ∈ wsX5_longest := by decide +kernel
set_option maxRecDepth 20000 in
theorem kX5_longest_3 : Cond.fieldLink RX5 14 "Stemspan" "text" "LStemspan$Row;" ∈ wsX5_longest := by decide +kernel
set_option maxRecDepth 20000 in
theorem kX5_longest_inX5 : ∀ w ∈ wsX50, w ∈ wsX5_longest := by decide +kernel
set_option maxRecDepth 20000 in
theorem kX5_longest_5 : Cond.fieldLink RX5 24 "Stemspan" "list" "LStemspan$WordList;" ∈ wsX5_longest := by decide +kernel
abbrev rmX5_twin : Room := { frames := 6, cells := 1, slots := 6, locals := 82 }
theorem ddX5_twin : yX5_twin.cls = RX5 ∧ yX5_twin.cls ≠ "java/lang/invoke/MethodHandle" ∧ yX5_twin.cls ≠ "java/lang/invoke/VarHandle" ∧ (parseMethodDescriptor yX5_twin.desc).map (fun d => d.parameters.length) = some 0 := by decide +kernel
set_option maxRecDepth 20000 in
theorem kX5_twin_0 : Cond.fieldLink RX5 24 "Stemspan" "list" "LStemspan$WordList;" ∈ wsX5_twin := by decide +kernel
set_option maxRecDepth 20000 in
theorem kX5_twin_inX5 : ∀ w ∈ wsX50, w ∈ wsX5_twin := by decide +kernel
theorem kX5_twin_at95 : ∀ w ∈ (vx_atX RX5 95 "java/util/NoSuchElementException" "java/lang/RuntimeException" ["java/lang/Exception"]).filter goodWord, w ∈ wsX5_twin := fun _ h => List.mem_cons_of_mem _ (List.mem_append_right _ h)
set_option maxRecDepth 20000 in
theorem kX5_twin_3 : Cond.classLink RX5 91 "java/util/NoSuchElementException" ∈ wsX5_twin := by decide +kernel
set_option maxRecDepth 20000 in
theorem kX5_twin_4 : Cond.initialized "java/util/NoSuchElementException" ∈ wsX5_twin := by decide +kernel
abbrev rmX5_piece : Room := { frames := 6, cells := 1, slots := 6, locals := 82 }
theorem ddX5_piece : yX5_piece.cls = RX5 ∧ yX5_piece.cls ≠ "java/lang/invoke/MethodHandle" ∧ yX5_piece.cls ≠ "java/lang/invoke/VarHandle" ∧ (parseMethodDescriptor yX5_piece.desc).map (fun d => d.parameters.length) = some 1 := by decide +kernel
set_option maxRecDepth 20000 in
theorem kX5_piece_0 : Cond.fieldLink RX5 38 "Stemspan" "cutter" "LStemspan$Cutter;" ∈ wsX5_piece := by decide +kernel
set_option maxRecDepth 20000 in
theorem kX5_piece_inX5 : ∀ w ∈ wsX50, w ∈ wsX5_piece := by decide +kernel
set_option maxRecDepth 20000 in
theorem kX5_piece_2 : Cond.fieldLink RX5 14 "Stemspan" "text" "LStemspan$Row;" ∈ wsX5_piece := by decide +kernel
set_option maxRecDepth 20000 in
theorem kX5_piece_3 : Cond.fieldLink RX5 24 "Stemspan" "list" "LStemspan$WordList;" ∈ wsX5_piece := by decide +kernel
theorem kX5_piece_at95 : ∀ w ∈ (vx_atX RX5 95 "java/util/NoSuchElementException" "java/lang/RuntimeException" ["java/lang/Exception"]).filter goodWord, w ∈ wsX5_piece := fun _ h => List.mem_cons_of_mem _ (List.mem_append_right _ h)
set_option maxRecDepth 20000 in
theorem kX5_piece_5 : Cond.classLink RX5 91 "java/util/NoSuchElementException" ∈ wsX5_piece := by decide +kernel
set_option maxRecDepth 20000 in
theorem kX5_piece_6 : Cond.initialized "java/util/NoSuchElementException" ∈ wsX5_piece := by decide +kernel
abbrev rmX5_code : Room := { frames := 6, cells := 1, slots := 6, locals := 82 }
theorem ddX5_code : yX5_code.cls = RX5 ∧ yX5_code.cls ≠ "java/lang/invoke/MethodHandle" ∧ yX5_code.cls ≠ "java/lang/invoke/VarHandle" ∧ (parseMethodDescriptor yX5_code.desc).map (fun d => d.parameters.length) = some 1 := by decide +kernel
set_option maxRecDepth 20000 in
theorem kX5_code_0 : Cond.fieldLink RX5 14 "Stemspan" "text" "LStemspan$Row;" ∈ wsX5_code := by decide +kernel
set_option maxRecDepth 20000 in
theorem kX5_code_inX5 : ∀ w ∈ wsX50, w ∈ wsX5_code := by decide +kernel
theorem kX5_code_at118 : ∀ w ∈ (vx_atS RX5 118 "java/lang/UnsupportedOperationException" exN).filter goodWord, w ∈ wsX5_code := fun _ h => List.mem_cons_of_mem _ (List.mem_append_right _ h)
set_option maxRecDepth 20000 in
theorem kX5_code_3 : Cond.classLink RX5 114 "java/lang/UnsupportedOperationException" ∈ wsX5_code := by decide +kernel
set_option maxRecDepth 20000 in
theorem kX5_code_4 : Cond.initialized "java/lang/UnsupportedOperationException" ∈ wsX5_code := by decide +kernel
set_option maxRecDepth 20000 in
theorem kX5_code_5 : Cond.fieldLink RX5 31 "Stemspan" "book" "LStemspan$CodeBook;" ∈ wsX5_code := by decide +kernel
theorem kX5_code_at57 : ∀ w ∈ (vx_atS RX5 57 "java/lang/IllegalArgumentException" exN).filter goodWord, w ∈ wsX5_code := fun _ h => List.mem_cons_of_mem _ (List.mem_append_left _ (List.mem_append_right _ h))
set_option maxRecDepth 20000 in
theorem kX5_code_7 : Cond.classLink RX5 53 "java/lang/IllegalArgumentException" ∈ wsX5_code := by decide +kernel
set_option maxRecDepth 20000 in
theorem kX5_code_8 : Cond.initialized "java/lang/IllegalArgumentException" ∈ wsX5_code := by decide +kernel
abbrev rmX5_write : Room := { frames := 6, cells := 1, slots := 6, locals := 82 }
theorem ddX5_write : yX5_write.cls = RX5 ∧ yX5_write.cls ≠ "java/lang/invoke/MethodHandle" ∧ yX5_write.cls ≠ "java/lang/invoke/VarHandle" ∧ (parseMethodDescriptor yX5_write.desc).map (fun d => d.parameters.length) = some 0 := by decide +kernel
set_option maxRecDepth 20000 in
theorem kX5_write_0 : Cond.fieldLink RX5 31 "Stemspan" "book" "LStemspan$CodeBook;" ∈ wsX5_write := by decide +kernel
set_option maxRecDepth 20000 in
theorem kX5_write_inX5 : ∀ w ∈ wsX50, w ∈ wsX5_write := by decide +kernel
set_option maxRecDepth 20000 in
theorem kX5_write_2 : Cond.fieldLink RX5 14 "Stemspan" "text" "LStemspan$Row;" ∈ wsX5_write := by decide +kernel
set_option maxRecDepth 20000 in
theorem kX5_write_3 : Cond.fieldLink RX5 18 "Stemspan" "spare" "LStemspan$Row;" ∈ wsX5_write := by decide +kernel
theorem kX5_write_at68 : ∀ w ∈ (vx_atS RX5 68 "java/lang/IllegalStateException" exN).filter goodWord, w ∈ wsX5_write := fun _ h => List.mem_cons_of_mem _ (List.mem_append_right _ h)
set_option maxRecDepth 20000 in
theorem kX5_write_5 : Cond.classLink RX5 64 "java/lang/IllegalStateException" ∈ wsX5_write := by decide +kernel
set_option maxRecDepth 20000 in
theorem kX5_write_6 : Cond.initialized "java/lang/IllegalStateException" ∈ wsX5_write := by decide +kernel
abbrev rmX5_read : Room := { frames := 6, cells := 1, slots := 6, locals := 82 }
theorem ddX5_read : yX5_read.cls = RX5 ∧ yX5_read.cls ≠ "java/lang/invoke/MethodHandle" ∧ yX5_read.cls ≠ "java/lang/invoke/VarHandle" ∧ (parseMethodDescriptor yX5_read.desc).map (fun d => d.parameters.length) = some 0 := by decide +kernel
set_option maxRecDepth 20000 in
theorem kX5_read_0 : Cond.fieldLink RX5 31 "Stemspan" "book" "LStemspan$CodeBook;" ∈ wsX5_read := by decide +kernel
set_option maxRecDepth 20000 in
theorem kX5_read_inX5 : ∀ w ∈ wsX50, w ∈ wsX5_read := by decide +kernel
set_option maxRecDepth 20000 in
theorem kX5_read_2 : Cond.fieldLink RX5 14 "Stemspan" "text" "LStemspan$Row;" ∈ wsX5_read := by decide +kernel
set_option maxRecDepth 20000 in
theorem kX5_read_3 : Cond.fieldLink RX5 18 "Stemspan" "spare" "LStemspan$Row;" ∈ wsX5_read := by decide +kernel
theorem kX5_read_at95 : ∀ w ∈ (vx_atX RX5 95 "java/util/NoSuchElementException" "java/lang/RuntimeException" ["java/lang/Exception"]).filter goodWord, w ∈ wsX5_read := fun _ h => List.mem_cons_of_mem _ (List.mem_append_right _ h)
set_option maxRecDepth 20000 in
theorem kX5_read_5 : Cond.classLink RX5 91 "java/util/NoSuchElementException" ∈ wsX5_read := by decide +kernel
set_option maxRecDepth 20000 in
theorem kX5_read_6 : Cond.initialized "java/util/NoSuchElementException" ∈ wsX5_read := by decide +kernel
theorem kX5_read_at118 : ∀ w ∈ (vx_atS RX5 118 "java/lang/UnsupportedOperationException" exN).filter goodWord, w ∈ wsX5_read := fun _ h => List.mem_cons_of_mem _ (List.mem_append_left _ (List.mem_append_right _ h))
set_option maxRecDepth 20000 in
theorem kX5_read_8 : Cond.classLink RX5 114 "java/lang/UnsupportedOperationException" ∈ wsX5_read := by decide +kernel
set_option maxRecDepth 20000 in
theorem kX5_read_9 : Cond.initialized "java/lang/UnsupportedOperationException" ∈ wsX5_read := by decide +kernel
abbrev rmX5_writeAll : Room := { frames := 6, cells := 1, slots := 6, locals := 88 }
theorem ddX5_writeAll : yX5_writeAll.cls = RX5 ∧ yX5_writeAll.cls ≠ "java/lang/invoke/MethodHandle" ∧ yX5_writeAll.cls ≠ "java/lang/invoke/VarHandle" ∧ (parseMethodDescriptor yX5_writeAll.desc).map (fun d => d.parameters.length) = some 0 := by decide +kernel
set_option maxRecDepth 20000 in
theorem kX5_writeAll_0 : Cond.fieldLink RX5 24 "Stemspan" "list" "LStemspan$WordList;" ∈ wsX5_writeAll := by decide +kernel
set_option maxRecDepth 20000 in
theorem kX5_writeAll_inX5 : ∀ w ∈ wsX50, w ∈ wsX5_writeAll := by decide +kernel
set_option maxRecDepth 20000 in
theorem kX5_writeAll_2 : Cond.fieldLink RX5 31 "Stemspan" "book" "LStemspan$CodeBook;" ∈ wsX5_writeAll := by decide +kernel
theorem kX5_writeAll_at68 : ∀ w ∈ (vx_atS RX5 68 "java/lang/IllegalStateException" exN).filter goodWord, w ∈ wsX5_writeAll := fun _ h => List.mem_cons_of_mem _ (List.mem_append_right _ h)
set_option maxRecDepth 20000 in
theorem kX5_writeAll_4 : Cond.classLink RX5 64 "java/lang/IllegalStateException" ∈ wsX5_writeAll := by decide +kernel
set_option maxRecDepth 20000 in
theorem kX5_writeAll_5 : Cond.initialized "java/lang/IllegalStateException" ∈ wsX5_writeAll := by decide +kernel
theorem kX5_writeAll_at118 : ∀ w ∈ (vx_atS RX5 118 "java/lang/UnsupportedOperationException" exN).filter goodWord, w ∈ wsX5_writeAll := fun _ h => List.mem_cons_of_mem _ (List.mem_append_left _ (List.mem_append_right _ h))
set_option maxRecDepth 20000 in
theorem kX5_writeAll_7 : Cond.classLink RX5 114 "java/lang/UnsupportedOperationException" ∈ wsX5_writeAll := by decide +kernel
set_option maxRecDepth 20000 in
theorem kX5_writeAll_8 : Cond.initialized "java/lang/UnsupportedOperationException" ∈ wsX5_writeAll := by decide +kernel
section
variable {p : Program} {l : Launch} {e : Env} {s : State} {m : MethodId} {args : Array Value} {below : List Frame} {meth : Method} {c : Code} {Q : State → Prop} {D : va_G} {ad : Nat → Nat} {ci : Nat → ClassId} {A : Nat → Prop} {H0 : Heap}
set_option maxHeartbeats 4000000 in
set_option maxRecDepth 100000 in
theorem eX5_type (C0 : CallFix p m c cX5_type 2 s args wsX5_type RX5) (hK : Kx D (tyC ci) s) (K : Int32 → St → Prop) (X : String → St → Prop) (σ : St) (hret : ∀ (r : Int32) (u : St) (H : Heap) (locs : List Loc) (pc : Nat) (ls : Array Slot), K r u → Sy D 132 ad A H0 (obC ad ci u) H locs → Rok u → decode cX5_type pc = .ok (.ireturn, 1) → W p l e rmX5_type s m args below meth c H locs 0 0 Q (F0 m pc ls [.int r])) (hthr : ∀ (E text : String) (ik is ic pc : Nat) (av : List Cond) (u : St) (H : Heap) (locs : List Loc) (ls : Array Slot), X E u → Sy D 132 ad A H0 (obC ad ci u) H locs → Rok u → ls.size = c.maxLocals → TSite cX5_type s args E text ik is ic pc av → W p l e rmX5_type s m args below meth c H locs 0 0 Q (F0 m pc ls [])) (x1 : Int32) (h : wX5_type σ x1 K X) (H : Heap) (locs : List Loc) (hY : Sy D 132 ad A H0 (obC ad ci σ) H locs) (hR : Rok σ) (ls : Array Slot) (hl : lv_has ls 2 [(0, .ref (ad 0)), (1, .int x1)]) : W p l e rmX5_type s m args below meth c H locs 0 0 Q (F0 m 0 ls []) := by
  obtain ⟨hx, hb, hml, hown, hts⟩ := id C0
  refine lv_iload_n hx hb dX5_type_0 rfl (lv_at hl 1 rfl) ?_
  refine w_callip (rest := []) (va_runS (As := [.int x1]) (rest := []) C0 (mX5_isSign l D ad ci A σ x1 _ hR  h) (va_cwS 1 hts gX5_type_X5_isSign rfl rfl rfl ddX5_isSign ⟨Nat.le_of_ble_eq_true rfl, Nat.le_of_ble_eq_true rfl⟩) (w_preS (ob := obC ad ci) (σ := σ) hK hY) rfl rfl hl.1 rfl (lv_room (Nat.le_of_ble_eq_true rfl)) dX5_type_1 ⟨Nat.zero_le _, Nat.zero_le _⟩) hY (fun r_1 H locs h hY => ?_)
  obtain ⟨n_r_1, h⟩ := h
  refine lv_if_ne (tgt := 17) hx hb dX5_type_4 (by decide) (fun c_2 => ?_) (fun c_2 => ?_)
  · have h := h.2 c_2
    refine lv_aload_n hx hb dX5_type_17 rfl (lv_at hl 0 rfl) ?_
    refine w_get (o := 0) (ci := 5) (C := RX5) (T := TX5) (N1 := 6) (v := .ref (ad 1)) hx hb hts kX5_type_inX5 hown hK.1 hY (by decide) obC_main rfl 0 (by decide) (hts _ kX5_type_0) rfl rfl dX5_type_18 ?_
    refine w_callip (rest := []) (va_runV (As := []) (rest := []) C0 (mX2_size l D ad ci A σ 1 _ hR (by decide) h) (cwV 0 hts gX5_type_X2_size rfl rfl rfl ddX2_size ⟨Nat.le_of_ble_eq_true rfl, Nat.le_of_ble_eq_true rfl⟩) (w_preV (o := 1) (ci := 2) (ob := obC ad ci) (σ := σ) hK hY (rowB_lt (by decide)) (obC_row (by decide)) rfl rfl) rfl rfl hl.1 rfl (lv_room (Nat.le_of_ble_eq_true rfl)) dX5_type_21 ⟨Nat.zero_le _, Nat.zero_le _⟩) hY (fun r_3 H locs h hY => ?_)
    refine lv_bipush (v := (24 : Int32)) hx hb dX5_type_24 (by decide) ?_
    refine lv_icmp_lt (tgt := 39) hx hb dX5_type_26 (by decide) (fun c_4 => ?_) (fun c_4 => ?_)
    · have h := h.1 c_4
      refine lv_aload_n hx hb dX5_type_39 rfl (lv_at hl 0 rfl) ?_
      refine w_get (o := 0) (ci := 5) (C := RX5) (T := TX5) (N1 := 6) (v := .ref (ad 1)) hx hb hts kX5_type_inX5 hown hK.1 hY (by decide) obC_main rfl 0 (by decide) (hts _ kX5_type_0) rfl rfl dX5_type_40 ?_
      refine lv_iload_n hx hb dX5_type_43 rfl (lv_at hl 1 rfl) ?_
      refine w_callv (rest := []) (va_runV (As := [.int x1]) (rest := []) C0 (mX2_append l D ad ci A σ 1 x1 _ hR (by decide) h) (cwV 1 hts gX5_type_X2_append rfl rfl rfl ddX2_append ⟨Nat.le_of_ble_eq_true rfl, Nat.le_of_ble_eq_true rfl⟩) (w_preV (o := 1) (ci := 2) (ob := obC ad ci) (σ := σ) hK hY (rowB_lt (by decide)) (obC_row (by decide)) rfl rfl) rfl rfl hl.1 rfl (lv_room (Nat.le_of_ble_eq_true rfl)) dX5_type_44 ⟨Nat.zero_le _, Nat.zero_le _⟩) hY (fun σ_6 H locs h hY hR_σ_6 => ?_)
      refine lv_aload_n hx hb dX5_type_47 rfl (lv_at hl 0 rfl) ?_
      refine w_get (o := 0) (ci := 5) (C := RX5) (T := TX5) (N1 := 6) (v := .ref (ad 1)) hx hb hts kX5_type_inX5 hown hK.1 hY (by decide) obC_main rfl 0 (by decide) (hts _ kX5_type_0) rfl rfl dX5_type_48 ?_
      refine w_callip (rest := []) (va_runV (As := []) (rest := []) C0 (mX2_size l D ad ci A σ_6 1 _ hR_σ_6 (by decide) h) (cwV 0 hts gX5_type_X2_size rfl rfl rfl ddX2_size ⟨Nat.le_of_ble_eq_true rfl, Nat.le_of_ble_eq_true rfl⟩) (w_preV (o := 1) (ci := 2) (ob := obC ad ci) (σ := σ_6) hK hY (rowB_lt (by decide)) (obC_row (by decide)) rfl rfl) rfl rfl hl.1 rfl (lv_room (Nat.le_of_ble_eq_true rfl)) dX5_type_51 ⟨Nat.zero_le _, Nat.zero_le _⟩) hY (fun r_7 H locs h hY => ?_)
      exact hret r_7 σ_6 _ _ _ _ h hY hR_σ_6 dX5_type_54
    · have h := h.2 c_4
      exact hthr "java/lang/IllegalStateException" "the text is full" 64 66 68 29 _ _ _ _ _ h hY hR (hl.1.trans hml.symm) ⟨(hts _ kX5_type_3), (hts _ kX5_type_4), fun w hw => hts w (kX5_type_at68 w hw), by decide +kernel, by decide +kernel, dX5_type_29, dX5_type_32, dX5_type_33, dX5_type_35, dX5_type_38⟩
  · have h := h.1 c_2
    exact hthr "java/lang/IllegalArgumentException" "no sign" 53 55 57 7 _ _ _ _ _ h hY hR (hl.1.trans hml.symm) ⟨(hts _ kX5_type_6), (hts _ kX5_type_7), fun w hw => hts w (kX5_type_at57 w hw), by decide +kernel, by decide +kernel, dX5_type_7, dX5_type_10, dX5_type_11, dX5_type_13, dX5_type_16⟩
set_option maxHeartbeats 4000000 in
set_option maxRecDepth 100000 in
theorem mX5_type (l : Launch) (hlt : l.stackTraces = false) (D : va_G) (ad : Nat → Nat) (ci : Nat → ClassId) (A : Nat → Prop) (σ : St) (x1 : Int32) (K : Int32 → St → Prop) (X : String → St → Prop) (hR : Rok σ) (h : wX5_type σ x1 K X) : vx_Met l yX5_type wsX5_type rmX5_type (va_Pc [.ref (ad 0), .int x1] (PreX D 132 ad A (tyC ci) (obC ad ci σ))) (va_Qi (fun r u => K r u) (PostW D 132 ad (tyC ci) (obC ad ci) Rok) A) (PostX D 132 ad (obC ad ci) Rok X A) 1 6 A := by
  refine vx_ofW (cc := cX5_type) (maxL := 2) (ret := (some .int)) (by decide) rfl ?_
  intro p e s m args below meth c s₁ B hml ht hv
  obtain ⟨rfl, ⟨hP, hK, hD⟩, hE⟩ := hv
  have C0 : CallFix p m c cX5_type 2 s _ wsX5_type RX5 := ⟨B.exec, B.bytes, hml, findClass_of_methodNamed B.named, atoms_spec (ws := wsX5_type) B.pre⟩
  have hlocks := B.notSynchronized
  have hY : Sy D 132 ad A s.heap (obC ad ci σ) s.heap [] := ⟨hP, hD, va_S.rf⟩
  have hl := lv_entry ([.ref (ad 0), .int x1]) (n := 2) (Nat.le_of_ble_eq_true rfl)
  rw [lg_entry_eq]
  generalize (lg_sl ([.ref (ad 0), .int x1]) ++ List.replicate (2 - (lg_sl ([.ref (ad 0), .int x1])).length) Slot.unset).toArray = ls at hl ⊢
  exact eX5_type C0 hK K X σ (fun r u H locs pc ls hk hY hR hd => vx_ret (W.widen (Nat.zero_le _) (Nat.zero_le _) (w_iret (I := Rok) B.exec B.bytes B.returns hlocks hK hk (fun t ht => ht) hY hR hd))) (fun E text ik is ic pc av u H locs ls hx hY hR hsz hT => w_throw (I := Rok) B.exec B.bytes hlt (findClass_of_methodNamed B.named) hT hE ht hsz (Nat.lt_of_lt_of_le (by decide) (Nat.le_refl _)) (Nat.le_of_ble_eq_true rfl) (Nat.le_of_ble_eq_true rfl) (Nat.le_of_ble_eq_true rfl) hlocks hx hY hR) x1 h _ _ hY hR ls hl
set_option maxHeartbeats 4000000 in
set_option maxRecDepth 100000 in
theorem tX5_typeMore_L60 (C0 : CallFix p m c cX5_typeMore 5 s args wsX5_typeMore RX5) (hK : Kx D (tyC ci) s) (K : Int32 → St → Prop) (X : String → St → Prop) (x1 : Int32) (hret : ∀ (r : Int32) (u : St) (H : Heap) (locs : List Loc) (pc : Nat) (ls : Array Slot), K r u → Sy D 132 ad A H0 (obC ad ci u) H locs → Rok u → decode cX5_typeMore pc = .ok (.ireturn, 1) → W p l e rmX5_typeMore s m args below meth c H locs 0 0 Q (F0 m pc ls [.int r])) (hthr : ∀ (E text : String) (ik is ic pc : Nat) (av : List Cond) (u : St) (H : Heap) (locs : List Loc) (ls : Array Slot), X E u → Sy D 132 ad A H0 (obC ad ci u) H locs → Rok u → ls.size = c.maxLocals → TSite cX5_typeMore s args E text ik is ic pc av → W p l e rmX5_typeMore s m args below meth c H locs 0 0 Q (F0 m pc ls [])) : ∀ (n : Nat) (σ : St) (x3 : Int32) (x4 : Int32), wX5_typeMore_L60 K X x1 n σ x3 x4 → ∀ (H : Heap) (locs : List Loc), Sy D 132 ad A H0 (obC ad ci σ) H locs → Rok σ → ∀ ls : Array Slot, lv_has ls 5 [(0, .ref (ad 0)), (1, .int x1), (3, .int x3), (4, .int x4)] → W p l e rmX5_typeMore s m args below meth c H locs 0 0 Q (F0 m 60 ls []) := by
  obtain ⟨hx, hb, hml, hown, hts⟩ := id C0
  intro n
  induction n with
  | zero =>
    intro σ x3 x4 h
    exact h.elim
  | succ n ih =>
    intro σ x3 x4 h H locs hY hR  ls hl
    refine lv_iload hx hb dX5_typeMore_60 (lv_at hl 3 rfl) ?_
    refine lv_iload_n hx hb dX5_typeMore_62 rfl (lv_at hl 1 rfl) ?_
    refine lv_icmp_ge (tgt := 91) hx hb dX5_typeMore_63 (by decide) (fun c_1 => ?_) (fun c_1 => ?_)
    · have h := h.1 c_1
      refine lv_aload_n hx hb dX5_typeMore_91 rfl (lv_at hl 0 rfl) ?_
      refine w_get (o := 0) (ci := 5) (C := RX5) (T := TX5) (N1 := 6) (v := .ref (ad 1)) hx hb hts kX5_typeMore_inX5 hown hK.1 hY (by decide) obC_main rfl 0 (by decide) (hts _ kX5_typeMore_0) rfl rfl dX5_typeMore_92 ?_
      refine w_callip (rest := []) (va_runV (As := []) (rest := []) C0 (mX2_size l D ad ci A σ 1 _ hR (by decide) h) (cwV 0 hts gX5_typeMore_X2_size rfl rfl rfl ddX2_size ⟨Nat.le_of_ble_eq_true rfl, Nat.le_of_ble_eq_true rfl⟩) (w_preV (o := 1) (ci := 2) (ob := obC ad ci) (σ := σ) hK hY (rowB_lt (by decide)) (obC_row (by decide)) rfl rfl) rfl rfl hl.1 rfl (lv_room (Nat.le_of_ble_eq_true rfl)) dX5_typeMore_95 ⟨Nat.zero_le _, Nat.zero_le _⟩) hY (fun r_2 H locs h hY => ?_)
      exact hret r_2 σ _ _ _ _ h hY hR dX5_typeMore_98
    · have h := h.2 c_1
      refine lv_aload_n hx hb dX5_typeMore_66 rfl (lv_at hl 0 rfl) ?_
      refine w_get (o := 0) (ci := 5) (C := RX5) (T := TX5) (N1 := 6) (v := .ref (ad 1)) hx hb hts kX5_typeMore_inX5 hown hK.1 hY (by decide) obC_main rfl 0 (by decide) (hts _ kX5_typeMore_0) rfl rfl dX5_typeMore_67 ?_
      refine lv_iload_n hx hb dX5_typeMore_70 rfl (lv_at hl 2 rfl) ?_
      refine lv_bipush (v := (6 : Int32)) hx hb dX5_typeMore_71 (by decide) ?_
      refine lv_irem hx hb dX5_typeMore_73 (by decide) ?_
      refine w_callip (rest := [.ref (ad 1)]) (va_runS (As := [.int (x3 - x3 / (6 : Int32) * (6 : Int32))]) (rest := [.ref (ad 1)]) C0 (mX5_signOf l D ad ci A σ (x3 - x3 / (6 : Int32) * (6 : Int32)) _ hR  h) (va_cwS 1 hts gX5_typeMore_X5_signOf rfl rfl rfl ddX5_signOf ⟨Nat.le_of_ble_eq_true rfl, Nat.le_of_ble_eq_true rfl⟩) (w_preS (ob := obC ad ci) (σ := σ) hK hY) rfl rfl hl.1 rfl (lv_room (Nat.le_of_ble_eq_true rfl)) dX5_typeMore_74 ⟨Nat.zero_le _, Nat.zero_le _⟩) hY (fun r_3 H locs h hY => ?_)
      obtain ⟨n_r_3, h⟩ := h
      refine w_callv (rest := []) (va_runV (As := [.int r_3]) (rest := []) C0 (mX2_append l D ad ci A σ 1 r_3 _ hR (by decide) h) (cwV 1 hts gX5_typeMore_X2_append rfl rfl rfl ddX2_append ⟨Nat.le_of_ble_eq_true rfl, Nat.le_of_ble_eq_true rfl⟩) (w_preV (o := 1) (ci := 2) (ob := obC ad ci) (σ := σ) hK hY (rowB_lt (by decide)) (obC_row (by decide)) rfl rfl) rfl rfl hl.1 rfl (lv_room (Nat.le_of_ble_eq_true rfl)) dX5_typeMore_77 ⟨Nat.zero_le _, Nat.zero_le _⟩) hY (fun σ_5 H locs h hY hR_σ_5 => ?_)
      refine lv_iload_n hx hb dX5_typeMore_80 rfl (lv_at hl 2 rfl) ?_
      refine lv_bipush (v := (6 : Int32)) hx hb dX5_typeMore_81 (by decide) ?_
      refine lv_idiv hx hb dX5_typeMore_83 (by decide) ?_
      refine lv_istore_n (lv' := [(3, .int (x3 / (6 : Int32))), (0, .ref (ad 0)), (1, .int x1), (4, .int x4)]) hx hb dX5_typeMore_84 rfl hl (by decide) rfl (fun ls hl => ?_)
      refine lv_iinc (v := (x4 + 1)) (lv' := [(4, .int (x4 + 1)), (3, .int (x3 / (6 : Int32))), (0, .ref (ad 0)), (1, .int x1)]) hx hb dX5_typeMore_85 hl (k := 3) rfl rfl (by decide) rfl (fun ls hl => ?_)
      refine lv_goto (tgt := 60) hx hb dX5_typeMore_88 (by decide) ?_
      exact ih σ_5 (x3 / (6 : Int32)) (x4 + 1) h _ _ hY hR_σ_5  _ (lv_sub hl [2, 3, 1, 0] rfl)
set_option maxHeartbeats 4000000 in
set_option maxRecDepth 100000 in
theorem eX5_typeMore (C0 : CallFix p m c cX5_typeMore 5 s args wsX5_typeMore RX5) (hK : Kx D (tyC ci) s) (K : Int32 → St → Prop) (X : String → St → Prop) (σ : St) (hret : ∀ (r : Int32) (u : St) (H : Heap) (locs : List Loc) (pc : Nat) (ls : Array Slot), K r u → Sy D 132 ad A H0 (obC ad ci u) H locs → Rok u → decode cX5_typeMore pc = .ok (.ireturn, 1) → W p l e rmX5_typeMore s m args below meth c H locs 0 0 Q (F0 m pc ls [.int r])) (hthr : ∀ (E text : String) (ik is ic pc : Nat) (av : List Cond) (u : St) (H : Heap) (locs : List Loc) (ls : Array Slot), X E u → Sy D 132 ad A H0 (obC ad ci u) H locs → Rok u → ls.size = c.maxLocals → TSite cX5_typeMore s args E text ik is ic pc av → W p l e rmX5_typeMore s m args below meth c H locs 0 0 Q (F0 m pc ls [])) (x1 : Int32) (x2 : Int32) (h : wX5_typeMore σ x1 x2 K X) (H : Heap) (locs : List Loc) (hY : Sy D 132 ad A H0 (obC ad ci σ) H locs) (hR : Rok σ) (ls : Array Slot) (hl : lv_has ls 5 [(0, .ref (ad 0)), (1, .int x1), (2, .int x2)]) : W p l e rmX5_typeMore s m args below meth c H locs 0 0 Q (F0 m 0 ls []) := by
  obtain ⟨hx, hb, hml, hown, hts⟩ := id C0
  refine lv_iload_n hx hb dX5_typeMore_0 rfl (lv_at hl 1 rfl) ?_
  refine lv_iconst (v := (1 : Int32)) hx hb dX5_typeMore_1 (by decide) ?_
  refine lv_icmp_lt (tgt := 21) hx hb dX5_typeMore_2 (by decide) (fun c_6 => ?_) (fun c_6 => ?_)
  · have h := h.1 c_6
    exact hthr "java/lang/IllegalArgumentException" "a number is out of range" 53 74 57 21 _ _ _ _ _ h hY hR (hl.1.trans hml.symm) ⟨(hts _ kX5_typeMore_3), (hts _ kX5_typeMore_4), fun w hw => hts w (kX5_typeMore_at57 w hw), by decide +kernel, by decide +kernel, dX5_typeMore_21, dX5_typeMore_24, dX5_typeMore_25, dX5_typeMore_27, dX5_typeMore_30⟩
  · have h := h.2 c_6
    refine lv_iload_n hx hb dX5_typeMore_5 rfl (lv_at hl 1 rfl) ?_
    refine lv_bipush (v := (8 : Int32)) hx hb dX5_typeMore_6 (by decide) ?_
    refine lv_icmp_gt (tgt := 21) hx hb dX5_typeMore_8 (by decide) (fun c_7 => ?_) (fun c_7 => ?_)
    · have h := h.1 c_7
      exact hthr "java/lang/IllegalArgumentException" "a number is out of range" 53 74 57 21 _ _ _ _ _ h hY hR (hl.1.trans hml.symm) ⟨(hts _ kX5_typeMore_3), (hts _ kX5_typeMore_4), fun w hw => hts w (kX5_typeMore_at57 w hw), by decide +kernel, by decide +kernel, dX5_typeMore_21, dX5_typeMore_24, dX5_typeMore_25, dX5_typeMore_27, dX5_typeMore_30⟩
    · have h := h.2 c_7
      refine lv_iload_n hx hb dX5_typeMore_11 rfl (lv_at hl 2 rfl) ?_
      refine lv_if_lt (tgt := 21) hx hb dX5_typeMore_12 (by decide) (fun c_8 => ?_) (fun c_8 => ?_)
      · have h := h.1 c_8
        exact hthr "java/lang/IllegalArgumentException" "a number is out of range" 53 74 57 21 _ _ _ _ _ h hY hR (hl.1.trans hml.symm) ⟨(hts _ kX5_typeMore_3), (hts _ kX5_typeMore_4), fun w hw => hts w (kX5_typeMore_at57 w hw), by decide +kernel, by decide +kernel, dX5_typeMore_21, dX5_typeMore_24, dX5_typeMore_25, dX5_typeMore_27, dX5_typeMore_30⟩
      · have h := h.2 c_8
        refine lv_iload_n hx hb dX5_typeMore_15 rfl (lv_at hl 2 rfl) ?_
        refine lv_ldc hx hb hown (hts _ kX5_typeMore_5) dX5_typeMore_16 ?_
        refine lv_icmp_le (tgt := 31) hx hb dX5_typeMore_18 (by decide) (fun c_9 => ?_) (fun c_9 => ?_)
        · have h := h.1 c_9
          refine lv_aload_n hx hb dX5_typeMore_31 rfl (lv_at hl 0 rfl) ?_
          refine w_get (o := 0) (ci := 5) (C := RX5) (T := TX5) (N1 := 6) (v := .ref (ad 1)) hx hb hts kX5_typeMore_inX5 hown hK.1 hY (by decide) obC_main rfl 0 (by decide) (hts _ kX5_typeMore_0) rfl rfl dX5_typeMore_32 ?_
          refine w_callip (rest := []) (va_runV (As := []) (rest := []) C0 (mX2_size l D ad ci A σ 1 _ hR (by decide) h) (cwV 0 hts gX5_typeMore_X2_size rfl rfl rfl ddX2_size ⟨Nat.le_of_ble_eq_true rfl, Nat.le_of_ble_eq_true rfl⟩) (w_preV (o := 1) (ci := 2) (ob := obC ad ci) (σ := σ) hK hY (rowB_lt (by decide)) (obC_row (by decide)) rfl rfl) rfl rfl hl.1 rfl (lv_room (Nat.le_of_ble_eq_true rfl)) dX5_typeMore_35 ⟨Nat.zero_le _, Nat.zero_le _⟩) hY (fun r_10 H locs h hY => ?_)
          refine lv_iload_n hx hb dX5_typeMore_38 rfl (lv_at hl 1 rfl) ?_
          refine lv_iadd hx hb dX5_typeMore_39 ?_
          refine lv_bipush (v := (24 : Int32)) hx hb dX5_typeMore_40 (by decide) ?_
          refine lv_icmp_le (tgt := 55) hx hb dX5_typeMore_42 (by decide) (fun c_11 => ?_) (fun c_11 => ?_)
          · have h := h.1 c_11
            refine lv_iload_n hx hb dX5_typeMore_55 rfl (lv_at hl 2 rfl) ?_
            refine lv_istore_n (lv' := [(3, .int x2), (0, .ref (ad 0)), (1, .int x1), (2, .int x2)]) hx hb dX5_typeMore_56 rfl hl (by decide) rfl (fun ls hl => ?_)
            refine lv_iconst (v := (0 : Int32)) hx hb dX5_typeMore_57 (by decide) ?_
            refine lv_istore (lv' := [(4, .int (0 : Int32)), (3, .int x2), (0, .ref (ad 0)), (1, .int x1), (2, .int x2)]) hx hb dX5_typeMore_58 hl (by decide) rfl (fun ls hl => ?_)
            obtain ⟨n_12, h⟩ := h
            exact tX5_typeMore_L60 C0 hK K X x1 hret hthr n_12 σ x2 (0 : Int32) h _ _ hY hR  _ (lv_sub hl [2, 3, 1, 0] rfl)
          · have h := h.2 c_11
            exact hthr "java/lang/IllegalStateException" "the text would have too many signs" 64 76 68 45 _ _ _ _ _ h hY hR (hl.1.trans hml.symm) ⟨(hts _ kX5_typeMore_7), (hts _ kX5_typeMore_8), fun w hw => hts w (kX5_typeMore_at68 w hw), by decide +kernel, by decide +kernel, dX5_typeMore_45, dX5_typeMore_48, dX5_typeMore_49, dX5_typeMore_51, dX5_typeMore_54⟩
        · have h := h.2 c_9
          exact hthr "java/lang/IllegalArgumentException" "a number is out of range" 53 74 57 21 _ _ _ _ _ h hY hR (hl.1.trans hml.symm) ⟨(hts _ kX5_typeMore_3), (hts _ kX5_typeMore_4), fun w hw => hts w (kX5_typeMore_at57 w hw), by decide +kernel, by decide +kernel, dX5_typeMore_21, dX5_typeMore_24, dX5_typeMore_25, dX5_typeMore_27, dX5_typeMore_30⟩
set_option maxHeartbeats 4000000 in
set_option maxRecDepth 100000 in
theorem mX5_typeMore (l : Launch) (hlt : l.stackTraces = false) (D : va_G) (ad : Nat → Nat) (ci : Nat → ClassId) (A : Nat → Prop) (σ : St) (x1 : Int32) (x2 : Int32) (K : Int32 → St → Prop) (X : String → St → Prop) (hR : Rok σ) (h : wX5_typeMore σ x1 x2 K X) : vx_Met l yX5_typeMore wsX5_typeMore rmX5_typeMore (va_Pc [.ref (ad 0), .int x1, .int x2] (PreX D 132 ad A (tyC ci) (obC ad ci σ))) (va_Qi (fun r u => K r u) (PostW D 132 ad (tyC ci) (obC ad ci) Rok) A) (PostX D 132 ad (obC ad ci) Rok X A) 1 6 A := by
  refine vx_ofW (cc := cX5_typeMore) (maxL := 5) (ret := (some .int)) (by decide) rfl ?_
  intro p e s m args below meth c s₁ B hml ht hv
  obtain ⟨rfl, ⟨hP, hK, hD⟩, hE⟩ := hv
  have C0 : CallFix p m c cX5_typeMore 5 s _ wsX5_typeMore RX5 := ⟨B.exec, B.bytes, hml, findClass_of_methodNamed B.named, atoms_spec (ws := wsX5_typeMore) B.pre⟩
  have hlocks := B.notSynchronized
  have hY : Sy D 132 ad A s.heap (obC ad ci σ) s.heap [] := ⟨hP, hD, va_S.rf⟩
  have hl := lv_entry ([.ref (ad 0), .int x1, .int x2]) (n := 5) (Nat.le_of_ble_eq_true rfl)
  rw [lg_entry_eq]
  generalize (lg_sl ([.ref (ad 0), .int x1, .int x2]) ++ List.replicate (5 - (lg_sl ([.ref (ad 0), .int x1, .int x2])).length) Slot.unset).toArray = ls at hl ⊢
  exact eX5_typeMore C0 hK K X σ (fun r u H locs pc ls hk hY hR hd => vx_ret (W.widen (Nat.zero_le _) (Nat.zero_le _) (w_iret (I := Rok) B.exec B.bytes B.returns hlocks hK hk (fun t ht => ht) hY hR hd))) (fun E text ik is ic pc av u H locs ls hx hY hR hsz hT => w_throw (I := Rok) B.exec B.bytes hlt (findClass_of_methodNamed B.named) hT hE ht hsz (Nat.lt_of_lt_of_le (by decide) (Nat.le_refl _)) (Nat.le_of_ble_eq_true rfl) (Nat.le_of_ble_eq_true rfl) (Nat.le_of_ble_eq_true rfl) hlocks hx hY hR) x1 x2 h _ _ hY hR ls hl
set_option maxHeartbeats 4000000 in
set_option maxRecDepth 100000 in
theorem eX5_typeAt (C0 : CallFix p m c cX5_typeAt 3 s args wsX5_typeAt RX5) (hK : Kx D (tyC ci) s) (K : Int32 → St → Prop) (X : String → St → Prop) (σ : St) (hret : ∀ (r : Int32) (u : St) (H : Heap) (locs : List Loc) (pc : Nat) (ls : Array Slot), K r u → Sy D 132 ad A H0 (obC ad ci u) H locs → Rok u → decode cX5_typeAt pc = .ok (.ireturn, 1) → W p l e rmX5_typeAt s m args below meth c H locs 0 0 Q (F0 m pc ls [.int r])) (hthr : ∀ (E text : String) (ik is ic pc : Nat) (av : List Cond) (u : St) (H : Heap) (locs : List Loc) (ls : Array Slot), X E u → Sy D 132 ad A H0 (obC ad ci u) H locs → Rok u → ls.size = c.maxLocals → TSite cX5_typeAt s args E text ik is ic pc av → W p l e rmX5_typeAt s m args below meth c H locs 0 0 Q (F0 m pc ls [])) (x1 : Int32) (x2 : Int32) (h : wX5_typeAt σ x1 x2 K X) (H : Heap) (locs : List Loc) (hY : Sy D 132 ad A H0 (obC ad ci σ) H locs) (hR : Rok σ) (ls : Array Slot) (hl : lv_has ls 3 [(0, .ref (ad 0)), (1, .int x1), (2, .int x2)]) : W p l e rmX5_typeAt s m args below meth c H locs 0 0 Q (F0 m 0 ls []) := by
  obtain ⟨hx, hb, hml, hown, hts⟩ := id C0
  refine lv_iload_n hx hb dX5_typeAt_0 rfl (lv_at hl 1 rfl) ?_
  refine lv_if_lt (tgt := 15) hx hb dX5_typeAt_1 (by decide) (fun c_1 => ?_) (fun c_1 => ?_)
  · have h := h.1 c_1
    exact hthr "java/lang/IndexOutOfBoundsException" "no such place" 82 84 86 15 _ _ _ _ _ h hY hR (hl.1.trans hml.symm) ⟨(hts _ kX5_typeAt_1), (hts _ kX5_typeAt_2), fun w hw => hts w (kX5_typeAt_at86 w hw), by decide +kernel, by decide +kernel, dX5_typeAt_15, dX5_typeAt_18, dX5_typeAt_19, dX5_typeAt_21, dX5_typeAt_24⟩
  · have h := h.2 c_1
    refine lv_iload_n hx hb dX5_typeAt_4 rfl (lv_at hl 1 rfl) ?_
    refine lv_aload_n hx hb dX5_typeAt_5 rfl (lv_at hl 0 rfl) ?_
    refine w_get (o := 0) (ci := 5) (C := RX5) (T := TX5) (N1 := 6) (v := .ref (ad 1)) hx hb hts kX5_typeAt_inX5 hown hK.1 hY (by decide) obC_main rfl 0 (by decide) (hts _ kX5_typeAt_3) rfl rfl dX5_typeAt_6 ?_
    refine w_callip (rest := [.int x1]) (va_runV (As := []) (rest := [.int x1]) C0 (mX2_size l D ad ci A σ 1 _ hR (by decide) h) (cwV 0 hts gX5_typeAt_X2_size rfl rfl rfl ddX2_size ⟨Nat.le_of_ble_eq_true rfl, Nat.le_of_ble_eq_true rfl⟩) (w_preV (o := 1) (ci := 2) (ob := obC ad ci) (σ := σ) hK hY (rowB_lt (by decide)) (obC_row (by decide)) rfl rfl) rfl rfl hl.1 rfl (lv_room (Nat.le_of_ble_eq_true rfl)) dX5_typeAt_9 ⟨Nat.zero_le _, Nat.zero_le _⟩) hY (fun r_2 H locs h hY => ?_)
    refine lv_icmp_le (tgt := 25) hx hb dX5_typeAt_12 (by decide) (fun c_3 => ?_) (fun c_3 => ?_)
    · have h := h.1 c_3
      refine lv_iload_n hx hb dX5_typeAt_25 rfl (lv_at hl 2 rfl) ?_
      refine w_callip (rest := []) (va_runS (As := [.int x2]) (rest := []) C0 (mX5_isSign l D ad ci A σ x2 _ hR  h) (va_cwS 1 hts gX5_typeAt_X5_isSign rfl rfl rfl ddX5_isSign ⟨Nat.le_of_ble_eq_true rfl, Nat.le_of_ble_eq_true rfl⟩) (w_preS (ob := obC ad ci) (σ := σ) hK hY) rfl rfl hl.1 rfl (lv_room (Nat.le_of_ble_eq_true rfl)) dX5_typeAt_26 ⟨Nat.zero_le _, Nat.zero_le _⟩) hY (fun r_4 H locs h hY => ?_)
      obtain ⟨n_r_4, h⟩ := h
      refine lv_if_ne (tgt := 42) hx hb dX5_typeAt_29 (by decide) (fun c_5 => ?_) (fun c_5 => ?_)
      · have h := h.2 c_5
        refine lv_aload_n hx hb dX5_typeAt_42 rfl (lv_at hl 0 rfl) ?_
        refine w_get (o := 0) (ci := 5) (C := RX5) (T := TX5) (N1 := 6) (v := .ref (ad 1)) hx hb hts kX5_typeAt_inX5 hown hK.1 hY (by decide) obC_main rfl 0 (by decide) (hts _ kX5_typeAt_3) rfl rfl dX5_typeAt_43 ?_
        refine w_callip (rest := []) (va_runV (As := []) (rest := []) C0 (mX2_size l D ad ci A σ 1 _ hR (by decide) h) (cwV 0 hts gX5_typeAt_X2_size rfl rfl rfl ddX2_size ⟨Nat.le_of_ble_eq_true rfl, Nat.le_of_ble_eq_true rfl⟩) (w_preV (o := 1) (ci := 2) (ob := obC ad ci) (σ := σ) hK hY (rowB_lt (by decide)) (obC_row (by decide)) rfl rfl) rfl rfl hl.1 rfl (lv_room (Nat.le_of_ble_eq_true rfl)) dX5_typeAt_46 ⟨Nat.zero_le _, Nat.zero_le _⟩) hY (fun r_6 H locs h hY => ?_)
        refine lv_bipush (v := (24 : Int32)) hx hb dX5_typeAt_49 (by decide) ?_
        refine lv_icmp_lt (tgt := 64) hx hb dX5_typeAt_51 (by decide) (fun c_7 => ?_) (fun c_7 => ?_)
        · have h := h.1 c_7
          refine lv_aload_n hx hb dX5_typeAt_64 rfl (lv_at hl 0 rfl) ?_
          refine w_get (o := 0) (ci := 5) (C := RX5) (T := TX5) (N1 := 6) (v := .ref (ad 1)) hx hb hts kX5_typeAt_inX5 hown hK.1 hY (by decide) obC_main rfl 0 (by decide) (hts _ kX5_typeAt_3) rfl rfl dX5_typeAt_65 ?_
          refine lv_iload_n hx hb dX5_typeAt_68 rfl (lv_at hl 1 rfl) ?_
          refine lv_iload_n hx hb dX5_typeAt_69 rfl (lv_at hl 2 rfl) ?_
          refine w_callv (rest := []) (va_runV (As := [.int x1, .int x2]) (rest := []) C0 (mX2_insert l D ad ci A σ 1 x1 x2 _ hR (by decide) h) (cwV 2 hts gX5_typeAt_X2_insert rfl rfl rfl ddX2_insert ⟨Nat.le_of_ble_eq_true rfl, Nat.le_of_ble_eq_true rfl⟩) (w_preV (o := 1) (ci := 2) (ob := obC ad ci) (σ := σ) hK hY (rowB_lt (by decide)) (obC_row (by decide)) rfl rfl) rfl rfl hl.1 rfl (lv_room (Nat.le_of_ble_eq_true rfl)) dX5_typeAt_70 ⟨Nat.zero_le _, Nat.zero_le _⟩) hY (fun σ_9 H locs h hY hR_σ_9 => ?_)
          refine lv_aload_n hx hb dX5_typeAt_73 rfl (lv_at hl 0 rfl) ?_
          refine w_get (o := 0) (ci := 5) (C := RX5) (T := TX5) (N1 := 6) (v := .ref (ad 1)) hx hb hts kX5_typeAt_inX5 hown hK.1 hY (by decide) obC_main rfl 0 (by decide) (hts _ kX5_typeAt_3) rfl rfl dX5_typeAt_74 ?_
          refine w_callip (rest := []) (va_runV (As := []) (rest := []) C0 (mX2_size l D ad ci A σ_9 1 _ hR_σ_9 (by decide) h) (cwV 0 hts gX5_typeAt_X2_size rfl rfl rfl ddX2_size ⟨Nat.le_of_ble_eq_true rfl, Nat.le_of_ble_eq_true rfl⟩) (w_preV (o := 1) (ci := 2) (ob := obC ad ci) (σ := σ_9) hK hY (rowB_lt (by decide)) (obC_row (by decide)) rfl rfl) rfl rfl hl.1 rfl (lv_room (Nat.le_of_ble_eq_true rfl)) dX5_typeAt_77 ⟨Nat.zero_le _, Nat.zero_le _⟩) hY (fun r_10 H locs h hY => ?_)
          exact hret r_10 σ_9 _ _ _ _ h hY hR_σ_9 dX5_typeAt_80
        · have h := h.2 c_7
          exact hthr "java/lang/IllegalStateException" "the text is full" 64 66 68 54 _ _ _ _ _ h hY hR (hl.1.trans hml.symm) ⟨(hts _ kX5_typeAt_6), (hts _ kX5_typeAt_7), fun w hw => hts w (kX5_typeAt_at68 w hw), by decide +kernel, by decide +kernel, dX5_typeAt_54, dX5_typeAt_57, dX5_typeAt_58, dX5_typeAt_60, dX5_typeAt_63⟩
      · have h := h.1 c_5
        exact hthr "java/lang/IllegalArgumentException" "no sign" 53 55 57 32 _ _ _ _ _ h hY hR (hl.1.trans hml.symm) ⟨(hts _ kX5_typeAt_9), (hts _ kX5_typeAt_10), fun w hw => hts w (kX5_typeAt_at57 w hw), by decide +kernel, by decide +kernel, dX5_typeAt_32, dX5_typeAt_35, dX5_typeAt_36, dX5_typeAt_38, dX5_typeAt_41⟩
    · have h := h.2 c_3
      exact hthr "java/lang/IndexOutOfBoundsException" "no such place" 82 84 86 15 _ _ _ _ _ h hY hR (hl.1.trans hml.symm) ⟨(hts _ kX5_typeAt_1), (hts _ kX5_typeAt_2), fun w hw => hts w (kX5_typeAt_at86 w hw), by decide +kernel, by decide +kernel, dX5_typeAt_15, dX5_typeAt_18, dX5_typeAt_19, dX5_typeAt_21, dX5_typeAt_24⟩
set_option maxHeartbeats 4000000 in
set_option maxRecDepth 100000 in
theorem mX5_typeAt (l : Launch) (hlt : l.stackTraces = false) (D : va_G) (ad : Nat → Nat) (ci : Nat → ClassId) (A : Nat → Prop) (σ : St) (x1 : Int32) (x2 : Int32) (K : Int32 → St → Prop) (X : String → St → Prop) (hR : Rok σ) (h : wX5_typeAt σ x1 x2 K X) : vx_Met l yX5_typeAt wsX5_typeAt rmX5_typeAt (va_Pc [.ref (ad 0), .int x1, .int x2] (PreX D 132 ad A (tyC ci) (obC ad ci σ))) (va_Qi (fun r u => K r u) (PostW D 132 ad (tyC ci) (obC ad ci) Rok) A) (PostX D 132 ad (obC ad ci) Rok X A) 1 6 A := by
  refine vx_ofW (cc := cX5_typeAt) (maxL := 3) (ret := (some .int)) (by decide) rfl ?_
  intro p e s m args below meth c s₁ B hml ht hv
  obtain ⟨rfl, ⟨hP, hK, hD⟩, hE⟩ := hv
  have C0 : CallFix p m c cX5_typeAt 3 s _ wsX5_typeAt RX5 := ⟨B.exec, B.bytes, hml, findClass_of_methodNamed B.named, atoms_spec (ws := wsX5_typeAt) B.pre⟩
  have hlocks := B.notSynchronized
  have hY : Sy D 132 ad A s.heap (obC ad ci σ) s.heap [] := ⟨hP, hD, va_S.rf⟩
  have hl := lv_entry ([.ref (ad 0), .int x1, .int x2]) (n := 3) (Nat.le_of_ble_eq_true rfl)
  rw [lg_entry_eq]
  generalize (lg_sl ([.ref (ad 0), .int x1, .int x2]) ++ List.replicate (3 - (lg_sl ([.ref (ad 0), .int x1, .int x2])).length) Slot.unset).toArray = ls at hl ⊢
  exact eX5_typeAt C0 hK K X σ (fun r u H locs pc ls hk hY hR hd => vx_ret (W.widen (Nat.zero_le _) (Nat.zero_le _) (w_iret (I := Rok) B.exec B.bytes B.returns hlocks hK hk (fun t ht => ht) hY hR hd))) (fun E text ik is ic pc av u H locs ls hx hY hR hsz hT => w_throw (I := Rok) B.exec B.bytes hlt (findClass_of_methodNamed B.named) hT hE ht hsz (Nat.lt_of_lt_of_le (by decide) (Nat.le_refl _)) (Nat.le_of_ble_eq_true rfl) (Nat.le_of_ble_eq_true rfl) (Nat.le_of_ble_eq_true rfl) hlocks hx hY hR) x1 x2 h _ _ hY hR ls hl
set_option maxHeartbeats 4000000 in
set_option maxRecDepth 100000 in
theorem eX5_drop (C0 : CallFix p m c cX5_drop 1 s args wsX5_drop RX5) (hK : Kx D (tyC ci) s) (K : Int32 → St → Prop) (X : String → St → Prop) (σ : St) (hret : ∀ (r : Int32) (u : St) (H : Heap) (locs : List Loc) (pc : Nat) (ls : Array Slot), K r u → Sy D 132 ad A H0 (obC ad ci u) H locs → Rok u → decode cX5_drop pc = .ok (.ireturn, 1) → W p l e rmX5_drop s m args below meth c H locs 0 0 Q (F0 m pc ls [.int r])) (hthr : ∀ (E text : String) (ik is ic pc : Nat) (av : List Cond) (u : St) (H : Heap) (locs : List Loc) (ls : Array Slot), X E u → Sy D 132 ad A H0 (obC ad ci u) H locs → Rok u → ls.size = c.maxLocals → TSite cX5_drop s args E text ik is ic pc av → W p l e rmX5_drop s m args below meth c H locs 0 0 Q (F0 m pc ls [])) (h : wX5_drop σ K X) (H : Heap) (locs : List Loc) (hY : Sy D 132 ad A H0 (obC ad ci σ) H locs) (hR : Rok σ) (ls : Array Slot) (hl : lv_has ls 1 [(0, .ref (ad 0))]) : W p l e rmX5_drop s m args below meth c H locs 0 0 Q (F0 m 0 ls []) := by
  obtain ⟨hx, hb, hml, hown, hts⟩ := id C0
  refine lv_aload_n hx hb dX5_drop_0 rfl (lv_at hl 0 rfl) ?_
  refine w_get (o := 0) (ci := 5) (C := RX5) (T := TX5) (N1 := 6) (v := .ref (ad 1)) hx hb hts kX5_drop_inX5 hown hK.1 hY (by decide) obC_main rfl 0 (by decide) (hts _ kX5_drop_0) rfl rfl dX5_drop_1 ?_
  refine w_callip (rest := []) (va_runV (As := []) (rest := []) C0 (mX2_size l D ad ci A σ 1 _ hR (by decide) h) (cwV 0 hts gX5_drop_X2_size rfl rfl rfl ddX2_size ⟨Nat.le_of_ble_eq_true rfl, Nat.le_of_ble_eq_true rfl⟩) (w_preV (o := 1) (ci := 2) (ob := obC ad ci) (σ := σ) hK hY (rowB_lt (by decide)) (obC_row (by decide)) rfl rfl) rfl rfl hl.1 rfl (lv_room (Nat.le_of_ble_eq_true rfl)) dX5_drop_4 ⟨Nat.zero_le _, Nat.zero_le _⟩) hY (fun r_1 H locs h hY => ?_)
  refine lv_if_ne (tgt := 20) hx hb dX5_drop_7 (by decide) (fun c_2 => ?_) (fun c_2 => ?_)
  · have h := h.2 c_2
    refine lv_aload_n hx hb dX5_drop_20 rfl (lv_at hl 0 rfl) ?_
    refine w_get (o := 0) (ci := 5) (C := RX5) (T := TX5) (N1 := 6) (v := .ref (ad 1)) hx hb hts kX5_drop_inX5 hown hK.1 hY (by decide) obC_main rfl 0 (by decide) (hts _ kX5_drop_0) rfl rfl dX5_drop_21 ?_
    refine lv_aload_n hx hb dX5_drop_24 rfl (lv_at hl 0 rfl) ?_
    refine w_get (o := 0) (ci := 5) (C := RX5) (T := TX5) (N1 := 6) (v := .ref (ad 1)) hx hb hts kX5_drop_inX5 hown hK.1 hY (by decide) obC_main rfl 0 (by decide) (hts _ kX5_drop_0) rfl rfl dX5_drop_25 ?_
    refine w_callip (rest := [.ref (ad 1)]) (va_runV (As := []) (rest := [.ref (ad 1)]) C0 (mX2_size l D ad ci A σ 1 _ hR (by decide) h) (cwV 0 hts gX5_drop_X2_size rfl rfl rfl ddX2_size ⟨Nat.le_of_ble_eq_true rfl, Nat.le_of_ble_eq_true rfl⟩) (w_preV (o := 1) (ci := 2) (ob := obC ad ci) (σ := σ) hK hY (rowB_lt (by decide)) (obC_row (by decide)) rfl rfl) rfl rfl hl.1 rfl (lv_room (Nat.le_of_ble_eq_true rfl)) dX5_drop_28 ⟨Nat.zero_le _, Nat.zero_le _⟩) hY (fun r_3 H locs h hY => ?_)
    refine lv_iconst (v := (1 : Int32)) hx hb dX5_drop_31 (by decide) ?_
    refine lv_isub hx hb dX5_drop_32 ?_
    refine lv_aload_n hx hb dX5_drop_33 rfl (lv_at hl 0 rfl) ?_
    refine w_get (o := 0) (ci := 5) (C := RX5) (T := TX5) (N1 := 6) (v := .ref (ad 1)) hx hb hts kX5_drop_inX5 hown hK.1 hY (by decide) obC_main rfl 0 (by decide) (hts _ kX5_drop_0) rfl rfl dX5_drop_34 ?_
    refine w_callip (rest := [.int (r_3 - (1 : Int32)), .ref (ad 1)]) (va_runV (As := []) (rest := [.int (r_3 - (1 : Int32)), .ref (ad 1)]) C0 (mX2_size l D ad ci A σ 1 _ hR (by decide) h) (cwV 0 hts gX5_drop_X2_size rfl rfl rfl ddX2_size ⟨Nat.le_of_ble_eq_true rfl, Nat.le_of_ble_eq_true rfl⟩) (w_preV (o := 1) (ci := 2) (ob := obC ad ci) (σ := σ) hK hY (rowB_lt (by decide)) (obC_row (by decide)) rfl rfl) rfl rfl hl.1 rfl (lv_room (Nat.le_of_ble_eq_true rfl)) dX5_drop_37 ⟨Nat.zero_le _, Nat.zero_le _⟩) hY (fun r_4 H locs h hY => ?_)
    refine w_callv (rest := []) (va_runV (As := [.int (r_3 - (1 : Int32)), .int r_4]) (rest := []) C0 (mX2_removePart l D ad ci A σ 1 (r_3 - (1 : Int32)) r_4 _ hR (by decide) h) (cwV 2 hts gX5_drop_X2_removePart rfl rfl rfl ddX2_removePart ⟨Nat.le_of_ble_eq_true rfl, Nat.le_of_ble_eq_true rfl⟩) (w_preV (o := 1) (ci := 2) (ob := obC ad ci) (σ := σ) hK hY (rowB_lt (by decide)) (obC_row (by decide)) rfl rfl) rfl rfl hl.1 rfl (lv_room (Nat.le_of_ble_eq_true rfl)) dX5_drop_40 ⟨Nat.zero_le _, Nat.zero_le _⟩) hY (fun σ_6 H locs h hY hR_σ_6 => ?_)
    refine lv_aload_n hx hb dX5_drop_43 rfl (lv_at hl 0 rfl) ?_
    refine w_get (o := 0) (ci := 5) (C := RX5) (T := TX5) (N1 := 6) (v := .ref (ad 1)) hx hb hts kX5_drop_inX5 hown hK.1 hY (by decide) obC_main rfl 0 (by decide) (hts _ kX5_drop_0) rfl rfl dX5_drop_44 ?_
    refine w_callip (rest := []) (va_runV (As := []) (rest := []) C0 (mX2_size l D ad ci A σ_6 1 _ hR_σ_6 (by decide) h) (cwV 0 hts gX5_drop_X2_size rfl rfl rfl ddX2_size ⟨Nat.le_of_ble_eq_true rfl, Nat.le_of_ble_eq_true rfl⟩) (w_preV (o := 1) (ci := 2) (ob := obC ad ci) (σ := σ_6) hK hY (rowB_lt (by decide)) (obC_row (by decide)) rfl rfl) rfl rfl hl.1 rfl (lv_room (Nat.le_of_ble_eq_true rfl)) dX5_drop_47 ⟨Nat.zero_le _, Nat.zero_le _⟩) hY (fun r_7 H locs h hY => ?_)
    exact hret r_7 σ_6 _ _ _ _ h hY hR_σ_6 dX5_drop_50
  · have h := h.1 c_2
    exact hthr "java/util/NoSuchElementException" "the text has no signs" 91 93 95 10 _ _ _ _ _ h hY hR (hl.1.trans hml.symm) ⟨(hts _ kX5_drop_3), (hts _ kX5_drop_4), fun w hw => hts w (kX5_drop_at95 w hw), by decide +kernel, by decide +kernel, dX5_drop_10, dX5_drop_13, dX5_drop_14, dX5_drop_16, dX5_drop_19⟩
set_option maxHeartbeats 4000000 in
set_option maxRecDepth 100000 in
theorem mX5_drop (l : Launch) (hlt : l.stackTraces = false) (D : va_G) (ad : Nat → Nat) (ci : Nat → ClassId) (A : Nat → Prop) (σ : St) (K : Int32 → St → Prop) (X : String → St → Prop) (hR : Rok σ) (h : wX5_drop σ K X) : vx_Met l yX5_drop wsX5_drop rmX5_drop (va_Pc [.ref (ad 0)] (PreX D 132 ad A (tyC ci) (obC ad ci σ))) (va_Qi (fun r u => K r u) (PostW D 132 ad (tyC ci) (obC ad ci) Rok) A) (PostX D 132 ad (obC ad ci) Rok X A) 1 6 A := by
  refine vx_ofW (cc := cX5_drop) (maxL := 1) (ret := (some .int)) (by decide) rfl ?_
  intro p e s m args below meth c s₁ B hml ht hv
  obtain ⟨rfl, ⟨hP, hK, hD⟩, hE⟩ := hv
  have C0 : CallFix p m c cX5_drop 1 s _ wsX5_drop RX5 := ⟨B.exec, B.bytes, hml, findClass_of_methodNamed B.named, atoms_spec (ws := wsX5_drop) B.pre⟩
  have hlocks := B.notSynchronized
  have hY : Sy D 132 ad A s.heap (obC ad ci σ) s.heap [] := ⟨hP, hD, va_S.rf⟩
  have hl := lv_entry ([.ref (ad 0)]) (n := 1) (Nat.le_of_ble_eq_true rfl)
  rw [lg_entry_eq]
  generalize (lg_sl ([.ref (ad 0)]) ++ List.replicate (1 - (lg_sl ([.ref (ad 0)])).length) Slot.unset).toArray = ls at hl ⊢
  exact eX5_drop C0 hK K X σ (fun r u H locs pc ls hk hY hR hd => vx_ret (W.widen (Nat.zero_le _) (Nat.zero_le _) (w_iret (I := Rok) B.exec B.bytes B.returns hlocks hK hk (fun t ht => ht) hY hR hd))) (fun E text ik is ic pc av u H locs ls hx hY hR hsz hT => w_throw (I := Rok) B.exec B.bytes hlt (findClass_of_methodNamed B.named) hT hE ht hsz (Nat.lt_of_lt_of_le (by decide) (Nat.le_refl _)) (Nat.le_of_ble_eq_true rfl) (Nat.le_of_ble_eq_true rfl) (Nat.le_of_ble_eq_true rfl) hlocks hx hY hR) h _ _ hY hR ls hl
set_option maxHeartbeats 4000000 in
set_option maxRecDepth 100000 in
theorem eX5_clip (C0 : CallFix p m c cX5_clip 3 s args wsX5_clip RX5) (hK : Kx D (tyC ci) s) (K : Int32 → St → Prop) (X : String → St → Prop) (σ : St) (hret : ∀ (r : Int32) (u : St) (H : Heap) (locs : List Loc) (pc : Nat) (ls : Array Slot), K r u → Sy D 132 ad A H0 (obC ad ci u) H locs → Rok u → decode cX5_clip pc = .ok (.ireturn, 1) → W p l e rmX5_clip s m args below meth c H locs 0 0 Q (F0 m pc ls [.int r])) (hthr : ∀ (E text : String) (ik is ic pc : Nat) (av : List Cond) (u : St) (H : Heap) (locs : List Loc) (ls : Array Slot), X E u → Sy D 132 ad A H0 (obC ad ci u) H locs → Rok u → ls.size = c.maxLocals → TSite cX5_clip s args E text ik is ic pc av → W p l e rmX5_clip s m args below meth c H locs 0 0 Q (F0 m pc ls [])) (x1 : Int32) (x2 : Int32) (h : wX5_clip σ x1 x2 K X) (H : Heap) (locs : List Loc) (hY : Sy D 132 ad A H0 (obC ad ci σ) H locs) (hR : Rok σ) (ls : Array Slot) (hl : lv_has ls 3 [(0, .ref (ad 0)), (1, .int x1), (2, .int x2)]) : W p l e rmX5_clip s m args below meth c H locs 0 0 Q (F0 m 0 ls []) := by
  obtain ⟨hx, hb, hml, hown, hts⟩ := id C0
  refine lv_iload_n hx hb dX5_clip_0 rfl (lv_at hl 1 rfl) ?_
  refine lv_if_lt (tgt := 20) hx hb dX5_clip_1 (by decide) (fun c_1 => ?_) (fun c_1 => ?_)
  · have h := h.1 c_1
    exact hthr "java/lang/IndexOutOfBoundsException" "no such part" 82 100 86 20 _ _ _ _ _ h hY hR (hl.1.trans hml.symm) ⟨(hts _ kX5_clip_1), (hts _ kX5_clip_2), fun w hw => hts w (kX5_clip_at86 w hw), by decide +kernel, by decide +kernel, dX5_clip_20, dX5_clip_23, dX5_clip_24, dX5_clip_26, dX5_clip_29⟩
  · have h := h.2 c_1
    refine lv_iload_n hx hb dX5_clip_4 rfl (lv_at hl 2 rfl) ?_
    refine lv_iload_n hx hb dX5_clip_5 rfl (lv_at hl 1 rfl) ?_
    refine lv_icmp_lt (tgt := 20) hx hb dX5_clip_6 (by decide) (fun c_2 => ?_) (fun c_2 => ?_)
    · have h := h.1 c_2
      exact hthr "java/lang/IndexOutOfBoundsException" "no such part" 82 100 86 20 _ _ _ _ _ h hY hR (hl.1.trans hml.symm) ⟨(hts _ kX5_clip_1), (hts _ kX5_clip_2), fun w hw => hts w (kX5_clip_at86 w hw), by decide +kernel, by decide +kernel, dX5_clip_20, dX5_clip_23, dX5_clip_24, dX5_clip_26, dX5_clip_29⟩
    · have h := h.2 c_2
      refine lv_iload_n hx hb dX5_clip_9 rfl (lv_at hl 2 rfl) ?_
      refine lv_aload_n hx hb dX5_clip_10 rfl (lv_at hl 0 rfl) ?_
      refine w_get (o := 0) (ci := 5) (C := RX5) (T := TX5) (N1 := 6) (v := .ref (ad 1)) hx hb hts kX5_clip_inX5 hown hK.1 hY (by decide) obC_main rfl 0 (by decide) (hts _ kX5_clip_3) rfl rfl dX5_clip_11 ?_
      refine w_callip (rest := [.int x2]) (va_runV (As := []) (rest := [.int x2]) C0 (mX2_size l D ad ci A σ 1 _ hR (by decide) h) (cwV 0 hts gX5_clip_X2_size rfl rfl rfl ddX2_size ⟨Nat.le_of_ble_eq_true rfl, Nat.le_of_ble_eq_true rfl⟩) (w_preV (o := 1) (ci := 2) (ob := obC ad ci) (σ := σ) hK hY (rowB_lt (by decide)) (obC_row (by decide)) rfl rfl) rfl rfl hl.1 rfl (lv_room (Nat.le_of_ble_eq_true rfl)) dX5_clip_14 ⟨Nat.zero_le _, Nat.zero_le _⟩) hY (fun r_3 H locs h hY => ?_)
      refine lv_icmp_le (tgt := 30) hx hb dX5_clip_17 (by decide) (fun c_4 => ?_) (fun c_4 => ?_)
      · have h := h.1 c_4
        refine lv_aload_n hx hb dX5_clip_30 rfl (lv_at hl 0 rfl) ?_
        refine w_get (o := 0) (ci := 5) (C := RX5) (T := TX5) (N1 := 6) (v := .ref (ad 1)) hx hb hts kX5_clip_inX5 hown hK.1 hY (by decide) obC_main rfl 0 (by decide) (hts _ kX5_clip_3) rfl rfl dX5_clip_31 ?_
        refine lv_iload_n hx hb dX5_clip_34 rfl (lv_at hl 1 rfl) ?_
        refine lv_iload_n hx hb dX5_clip_35 rfl (lv_at hl 2 rfl) ?_
        refine w_callv (rest := []) (va_runV (As := [.int x1, .int x2]) (rest := []) C0 (mX2_removePart l D ad ci A σ 1 x1 x2 _ hR (by decide) h) (cwV 2 hts gX5_clip_X2_removePart rfl rfl rfl ddX2_removePart ⟨Nat.le_of_ble_eq_true rfl, Nat.le_of_ble_eq_true rfl⟩) (w_preV (o := 1) (ci := 2) (ob := obC ad ci) (σ := σ) hK hY (rowB_lt (by decide)) (obC_row (by decide)) rfl rfl) rfl rfl hl.1 rfl (lv_room (Nat.le_of_ble_eq_true rfl)) dX5_clip_36 ⟨Nat.zero_le _, Nat.zero_le _⟩) hY (fun σ_6 H locs h hY hR_σ_6 => ?_)
        refine lv_aload_n hx hb dX5_clip_39 rfl (lv_at hl 0 rfl) ?_
        refine w_get (o := 0) (ci := 5) (C := RX5) (T := TX5) (N1 := 6) (v := .ref (ad 1)) hx hb hts kX5_clip_inX5 hown hK.1 hY (by decide) obC_main rfl 0 (by decide) (hts _ kX5_clip_3) rfl rfl dX5_clip_40 ?_
        refine w_callip (rest := []) (va_runV (As := []) (rest := []) C0 (mX2_size l D ad ci A σ_6 1 _ hR_σ_6 (by decide) h) (cwV 0 hts gX5_clip_X2_size rfl rfl rfl ddX2_size ⟨Nat.le_of_ble_eq_true rfl, Nat.le_of_ble_eq_true rfl⟩) (w_preV (o := 1) (ci := 2) (ob := obC ad ci) (σ := σ_6) hK hY (rowB_lt (by decide)) (obC_row (by decide)) rfl rfl) rfl rfl hl.1 rfl (lv_room (Nat.le_of_ble_eq_true rfl)) dX5_clip_43 ⟨Nat.zero_le _, Nat.zero_le _⟩) hY (fun r_7 H locs h hY => ?_)
        exact hret r_7 σ_6 _ _ _ _ h hY hR_σ_6 dX5_clip_46
      · have h := h.2 c_4
        exact hthr "java/lang/IndexOutOfBoundsException" "no such part" 82 100 86 20 _ _ _ _ _ h hY hR (hl.1.trans hml.symm) ⟨(hts _ kX5_clip_1), (hts _ kX5_clip_2), fun w hw => hts w (kX5_clip_at86 w hw), by decide +kernel, by decide +kernel, dX5_clip_20, dX5_clip_23, dX5_clip_24, dX5_clip_26, dX5_clip_29⟩
set_option maxHeartbeats 4000000 in
set_option maxRecDepth 100000 in
theorem mX5_clip (l : Launch) (hlt : l.stackTraces = false) (D : va_G) (ad : Nat → Nat) (ci : Nat → ClassId) (A : Nat → Prop) (σ : St) (x1 : Int32) (x2 : Int32) (K : Int32 → St → Prop) (X : String → St → Prop) (hR : Rok σ) (h : wX5_clip σ x1 x2 K X) : vx_Met l yX5_clip wsX5_clip rmX5_clip (va_Pc [.ref (ad 0), .int x1, .int x2] (PreX D 132 ad A (tyC ci) (obC ad ci σ))) (va_Qi (fun r u => K r u) (PostW D 132 ad (tyC ci) (obC ad ci) Rok) A) (PostX D 132 ad (obC ad ci) Rok X A) 1 6 A := by
  refine vx_ofW (cc := cX5_clip) (maxL := 3) (ret := (some .int)) (by decide) rfl ?_
  intro p e s m args below meth c s₁ B hml ht hv
  obtain ⟨rfl, ⟨hP, hK, hD⟩, hE⟩ := hv
  have C0 : CallFix p m c cX5_clip 3 s _ wsX5_clip RX5 := ⟨B.exec, B.bytes, hml, findClass_of_methodNamed B.named, atoms_spec (ws := wsX5_clip) B.pre⟩
  have hlocks := B.notSynchronized
  have hY : Sy D 132 ad A s.heap (obC ad ci σ) s.heap [] := ⟨hP, hD, va_S.rf⟩
  have hl := lv_entry ([.ref (ad 0), .int x1, .int x2]) (n := 3) (Nat.le_of_ble_eq_true rfl)
  rw [lg_entry_eq]
  generalize (lg_sl ([.ref (ad 0), .int x1, .int x2]) ++ List.replicate (3 - (lg_sl ([.ref (ad 0), .int x1, .int x2])).length) Slot.unset).toArray = ls at hl ⊢
  exact eX5_clip C0 hK K X σ (fun r u H locs pc ls hk hY hR hd => vx_ret (W.widen (Nat.zero_le _) (Nat.zero_le _) (w_iret (I := Rok) B.exec B.bytes B.returns hlocks hK hk (fun t ht => ht) hY hR hd))) (fun E text ik is ic pc av u H locs ls hx hY hR hsz hT => w_throw (I := Rok) B.exec B.bytes hlt (findClass_of_methodNamed B.named) hT hE ht hsz (Nat.lt_of_lt_of_le (by decide) (Nat.le_refl _)) (Nat.le_of_ble_eq_true rfl) (Nat.le_of_ble_eq_true rfl) (Nat.le_of_ble_eq_true rfl) hlocks hx hY hR) x1 x2 h _ _ hY hR ls hl
set_option maxHeartbeats 4000000 in
set_option maxRecDepth 100000 in
theorem eX5_signAt (C0 : CallFix p m c cX5_signAt 2 s args wsX5_signAt RX5) (hK : Kx D (tyC ci) s) (K : Int32 → St → Prop) (X : String → St → Prop) (σ : St) (hret : ∀ (r : Int32) (u : St) (H : Heap) (locs : List Loc) (pc : Nat) (ls : Array Slot), narrow .char (.int r) = .int r → K r u → Sy D 132 ad A H0 (obC ad ci u) H locs → Rok u → decode cX5_signAt pc = .ok (.ireturn, 1) → W p l e rmX5_signAt s m args below meth c H locs 0 0 Q (F0 m pc ls [.int r])) (hthr : ∀ (E text : String) (ik is ic pc : Nat) (av : List Cond) (u : St) (H : Heap) (locs : List Loc) (ls : Array Slot), X E u → Sy D 132 ad A H0 (obC ad ci u) H locs → Rok u → ls.size = c.maxLocals → TSite cX5_signAt s args E text ik is ic pc av → W p l e rmX5_signAt s m args below meth c H locs 0 0 Q (F0 m pc ls [])) (x1 : Int32) (h : wX5_signAt σ x1 K X) (H : Heap) (locs : List Loc) (hY : Sy D 132 ad A H0 (obC ad ci σ) H locs) (hR : Rok σ) (ls : Array Slot) (hl : lv_has ls 2 [(0, .ref (ad 0)), (1, .int x1)]) : W p l e rmX5_signAt s m args below meth c H locs 0 0 Q (F0 m 0 ls []) := by
  obtain ⟨hx, hb, hml, hown, hts⟩ := id C0
  refine lv_iload_n hx hb dX5_signAt_0 rfl (lv_at hl 1 rfl) ?_
  refine lv_if_lt (tgt := 15) hx hb dX5_signAt_1 (by decide) (fun c_1 => ?_) (fun c_1 => ?_)
  · have h := h.1 c_1
    exact hthr "java/lang/IndexOutOfBoundsException" "no such place" 82 84 86 15 _ _ _ _ _ h hY hR (hl.1.trans hml.symm) ⟨(hts _ kX5_signAt_1), (hts _ kX5_signAt_2), fun w hw => hts w (kX5_signAt_at86 w hw), by decide +kernel, by decide +kernel, dX5_signAt_15, dX5_signAt_18, dX5_signAt_19, dX5_signAt_21, dX5_signAt_24⟩
  · have h := h.2 c_1
    refine lv_iload_n hx hb dX5_signAt_4 rfl (lv_at hl 1 rfl) ?_
    refine lv_aload_n hx hb dX5_signAt_5 rfl (lv_at hl 0 rfl) ?_
    refine w_get (o := 0) (ci := 5) (C := RX5) (T := TX5) (N1 := 6) (v := .ref (ad 1)) hx hb hts kX5_signAt_inX5 hown hK.1 hY (by decide) obC_main rfl 0 (by decide) (hts _ kX5_signAt_3) rfl rfl dX5_signAt_6 ?_
    refine w_callip (rest := [.int x1]) (va_runV (As := []) (rest := [.int x1]) C0 (mX2_size l D ad ci A σ 1 _ hR (by decide) h) (cwV 0 hts gX5_signAt_X2_size rfl rfl rfl ddX2_size ⟨Nat.le_of_ble_eq_true rfl, Nat.le_of_ble_eq_true rfl⟩) (w_preV (o := 1) (ci := 2) (ob := obC ad ci) (σ := σ) hK hY (rowB_lt (by decide)) (obC_row (by decide)) rfl rfl) rfl rfl hl.1 rfl (lv_room (Nat.le_of_ble_eq_true rfl)) dX5_signAt_9 ⟨Nat.zero_le _, Nat.zero_le _⟩) hY (fun r_2 H locs h hY => ?_)
    refine lv_icmp_lt (tgt := 25) hx hb dX5_signAt_12 (by decide) (fun c_3 => ?_) (fun c_3 => ?_)
    · have h := h.1 c_3
      refine lv_aload_n hx hb dX5_signAt_25 rfl (lv_at hl 0 rfl) ?_
      refine w_get (o := 0) (ci := 5) (C := RX5) (T := TX5) (N1 := 6) (v := .ref (ad 1)) hx hb hts kX5_signAt_inX5 hown hK.1 hY (by decide) obC_main rfl 0 (by decide) (hts _ kX5_signAt_3) rfl rfl dX5_signAt_26 ?_
      refine lv_iload_n hx hb dX5_signAt_29 rfl (lv_at hl 1 rfl) ?_
      refine w_callip (rest := []) (va_runV (As := [.int x1]) (rest := []) C0 (mX2_at l D ad ci A σ 1 x1 _ hR (by decide) h) (cwV 1 hts gX5_signAt_X2_at rfl rfl rfl ddX2_at ⟨Nat.le_of_ble_eq_true rfl, Nat.le_of_ble_eq_true rfl⟩) (w_preV (o := 1) (ci := 2) (ob := obC ad ci) (σ := σ) hK hY (rowB_lt (by decide)) (obC_row (by decide)) rfl rfl) rfl rfl hl.1 rfl (lv_room (Nat.le_of_ble_eq_true rfl)) dX5_signAt_30 ⟨Nat.zero_le _, Nat.zero_le _⟩) hY (fun r_4 H locs h hY => ?_)
      obtain ⟨n_r_4, h⟩ := h
      exact hret r_4 σ _ _ _ _ n_r_4 h hY hR dX5_signAt_33
    · have h := h.2 c_3
      exact hthr "java/lang/IndexOutOfBoundsException" "no such place" 82 84 86 15 _ _ _ _ _ h hY hR (hl.1.trans hml.symm) ⟨(hts _ kX5_signAt_1), (hts _ kX5_signAt_2), fun w hw => hts w (kX5_signAt_at86 w hw), by decide +kernel, by decide +kernel, dX5_signAt_15, dX5_signAt_18, dX5_signAt_19, dX5_signAt_21, dX5_signAt_24⟩
set_option maxHeartbeats 4000000 in
set_option maxRecDepth 100000 in
theorem mX5_signAt (l : Launch) (hlt : l.stackTraces = false) (D : va_G) (ad : Nat → Nat) (ci : Nat → ClassId) (A : Nat → Prop) (σ : St) (x1 : Int32) (K : Int32 → St → Prop) (X : String → St → Prop) (hR : Rok σ) (h : wX5_signAt σ x1 K X) : vx_Met l yX5_signAt wsX5_signAt rmX5_signAt (va_Pc [.ref (ad 0), .int x1] (PreX D 132 ad A (tyC ci) (obC ad ci σ))) (va_Qi (fun r u => narrow .char (.int r) = .int r ∧ K r u) (PostW D 132 ad (tyC ci) (obC ad ci) Rok) A) (PostX D 132 ad (obC ad ci) Rok X A) 1 6 A := by
  refine vx_ofW (cc := cX5_signAt) (maxL := 2) (ret := (some .char)) (by decide) rfl ?_
  intro p e s m args below meth c s₁ B hml ht hv
  obtain ⟨rfl, ⟨hP, hK, hD⟩, hE⟩ := hv
  have C0 : CallFix p m c cX5_signAt 2 s _ wsX5_signAt RX5 := ⟨B.exec, B.bytes, hml, findClass_of_methodNamed B.named, atoms_spec (ws := wsX5_signAt) B.pre⟩
  have hlocks := B.notSynchronized
  have hY : Sy D 132 ad A s.heap (obC ad ci σ) s.heap [] := ⟨hP, hD, va_S.rf⟩
  have hl := lv_entry ([.ref (ad 0), .int x1]) (n := 2) (Nat.le_of_ble_eq_true rfl)
  rw [lg_entry_eq]
  generalize (lg_sl ([.ref (ad 0), .int x1]) ++ List.replicate (2 - (lg_sl ([.ref (ad 0), .int x1])).length) Slot.unset).toArray = ls at hl ⊢
  exact eX5_signAt C0 hK K X σ (fun r u H locs pc ls hn hk hY hR hd => vx_ret (W.widen (Nat.zero_le _) (Nat.zero_le _) (w_zret (I := Rok) B.exec B.bytes B.returns hn hlocks hK ⟨hn, hk⟩ (fun t ht => ht) hY hR hd))) (fun E text ik is ic pc av u H locs ls hx hY hR hsz hT => w_throw (I := Rok) B.exec B.bytes hlt (findClass_of_methodNamed B.named) hT hE ht hsz (Nat.lt_of_lt_of_le (by decide) (Nat.le_refl _)) (Nat.le_of_ble_eq_true rfl) (Nat.le_of_ble_eq_true rfl) (Nat.le_of_ble_eq_true rfl) hlocks hx hY hR) x1 h _ _ hY hR ls hl
set_option maxHeartbeats 4000000 in
set_option maxRecDepth 100000 in
theorem tX5_put_J92 (C0 : CallFix p m c cX5_put 4 s args wsX5_put RX5) (hK : Kx D (tyC ci) s) (K : Int32 → St → Prop) (X : String → St → Prop) (σ : St) (x1 : Int32) (x2 : Int32) (hret : ∀ (r : Int32) (u : St) (H : Heap) (locs : List Loc) (pc : Nat) (ls : Array Slot), K r u → Sy D 132 ad A H0 (obC ad ci u) H locs → Rok u → decode cX5_put pc = .ok (.ireturn, 1) → W p l e rmX5_put s m args below meth c H locs 0 0 Q (F0 m pc ls [.int r])) (hthr : ∀ (E text : String) (ik is ic pc : Nat) (av : List Cond) (u : St) (H : Heap) (locs : List Loc) (ls : Array Slot), X E u → Sy D 132 ad A H0 (obC ad ci u) H locs → Rok u → ls.size = c.maxLocals → TSite cX5_put s args E text ik is ic pc av → W p l e rmX5_put s m args below meth c H locs 0 0 Q (F0 m pc ls [])) (h : wX5_put_J92 K X σ x1 x2) (H : Heap) (locs : List Loc) (hY : Sy D 132 ad A H0 (obC ad ci σ) H locs) (hR : Rok σ) (ls : Array Slot) (hl : lv_has ls 4 [(0, .ref (ad 0)), (1, .int x1), (2, .int x2)]) : W p l e rmX5_put s m args below meth c H locs 0 0 Q (F0 m 92 ls []) := by
  obtain ⟨hx, hb, hml, hown, hts⟩ := id C0
  refine lv_iload_n hx hb dX5_put_92 rfl (lv_at hl 2 rfl) ?_
  refine lv_iconst (v := (-1 : Int32)) hx hb dX5_put_93 (by decide) ?_
  refine lv_icmp_ne (tgt := 111) hx hb dX5_put_94 (by decide) (fun c_1 => ?_) (fun c_1 => ?_)
  · have h := h.2 c_1
    refine lv_aload_n hx hb dX5_put_111 rfl (lv_at hl 0 rfl) ?_
    refine w_get (o := 0) (ci := 5) (C := RX5) (T := TX5) (N1 := 6) (v := .ref (ad 5)) hx hb hts kX5_put_inX5 hown hK.1 hY (by decide) obC_main rfl 2 (by decide) (hts _ kX5_put_0) rfl rfl dX5_put_112 ?_
    refine lv_iload_n hx hb dX5_put_115 rfl (lv_at hl 2 rfl) ?_
    refine w_callip (rest := []) (va_runV (As := [.int x2]) (rest := []) C0 (mX4_numberAt l D ad ci A σ x2 _ hR  h) (cwV 1 hts gX5_put_X4_numberAt rfl rfl rfl ddX4_numberAt ⟨Nat.le_of_ble_eq_true rfl, Nat.le_of_ble_eq_true rfl⟩) (w_preV (o := 5) (ci := 4) (ob := obC ad ci) (σ := σ) hK hY (by decide) obC_list rfl rfl) rfl rfl hl.1 rfl (lv_room (Nat.le_of_ble_eq_true rfl)) dX5_put_116 ⟨Nat.zero_le _, Nat.zero_le _⟩) hY (fun r_2 H locs h hY => ?_)
    refine lv_istore_n (lv' := [(3, .int r_2), (0, .ref (ad 0)), (1, .int x1), (2, .int x2)]) hx hb dX5_put_119 rfl hl (by decide) rfl (fun ls hl => ?_)
    refine lv_aload_n hx hb dX5_put_120 rfl (lv_at hl 1 rfl) ?_
    refine w_get (o := 0) (ci := 5) (C := RX5) (T := TX5) (N1 := 6) (v := .ref (ad 5)) hx hb hts kX5_put_inX5 hown hK.1 hY (by decide) obC_main rfl 2 (by decide) (hts _ kX5_put_0) rfl rfl dX5_put_121 ?_
    refine lv_iload_n hx hb dX5_put_124 rfl (lv_at hl 3 rfl) ?_
    refine lv_iload_n hx hb dX5_put_125 rfl (lv_at hl 2 rfl) ?_
    refine w_callv (rest := []) (va_runV (As := [.int x2, .int x1]) (rest := []) C0 (mX4_setNumber l D ad ci A σ x2 x1 _ hR  h) (cwV 2 hts gX5_put_X4_setNumber rfl rfl rfl ddX4_setNumber ⟨Nat.le_of_ble_eq_true rfl, Nat.le_of_ble_eq_true rfl⟩) (w_preV (o := 5) (ci := 4) (ob := obC ad ci) (σ := σ) hK hY (by decide) obC_list rfl rfl) rfl rfl hl.1 rfl (lv_room (Nat.le_of_ble_eq_true rfl)) dX5_put_126 ⟨Nat.zero_le _, Nat.zero_le _⟩) hY (fun σ_4 H locs h hY hR_σ_4 => ?_)
    refine lv_iload_n hx hb dX5_put_129 rfl (lv_at hl 0 rfl) ?_
    exact hret r_2 σ_4 _ _ _ _ h hY hR_σ_4 dX5_put_130
  · have h := h.1 c_1
    refine lv_aload_n hx hb dX5_put_97 rfl (lv_at hl 0 rfl) ?_
    refine w_get (o := 0) (ci := 5) (C := RX5) (T := TX5) (N1 := 6) (v := .ref (ad 5)) hx hb hts kX5_put_inX5 hown hK.1 hY (by decide) obC_main rfl 2 (by decide) (hts _ kX5_put_0) rfl rfl dX5_put_98 ?_
    refine lv_aload_n hx hb dX5_put_101 rfl (lv_at hl 0 rfl) ?_
    refine w_get (o := 0) (ci := 5) (C := RX5) (T := TX5) (N1 := 6) (v := .ref (ad 1)) hx hb hts kX5_put_inX5 hown hK.1 hY (by decide) obC_main rfl 0 (by decide) (hts _ kX5_put_2) rfl rfl dX5_put_102 ?_
    refine lv_iload_n hx hb dX5_put_105 rfl (lv_at hl 1 rfl) ?_
    refine w_callv (rest := []) (va_runV (As := [.ref (ad 1), .int x1]) (rest := []) C0 (mX4_insert l D ad ci A σ 1 x1 _ hR (by decide) h) (cwV 2 hts gX5_put_X4_insert rfl rfl rfl ddX4_insert ⟨Nat.le_of_ble_eq_true rfl, Nat.le_of_ble_eq_true rfl⟩) (w_preV (o := 5) (ci := 4) (ob := obC ad ci) (σ := σ) hK hY (by decide) obC_list rfl rfl) rfl rfl hl.1 rfl (lv_room (Nat.le_of_ble_eq_true rfl)) dX5_put_106 ⟨Nat.zero_le _, Nat.zero_le _⟩) hY (fun σ_6 H locs h hY hR_σ_6 => ?_)
    refine lv_iconst (v := (-1 : Int32)) hx hb dX5_put_109 (by decide) ?_
    exact hret (-1 : Int32) σ_6 _ _ _ _ h hY hR_σ_6 dX5_put_110
set_option maxHeartbeats 4000000 in
set_option maxRecDepth 100000 in
theorem eX5_put (C0 : CallFix p m c cX5_put 4 s args wsX5_put RX5) (hK : Kx D (tyC ci) s) (K : Int32 → St → Prop) (X : String → St → Prop) (σ : St) (hret : ∀ (r : Int32) (u : St) (H : Heap) (locs : List Loc) (pc : Nat) (ls : Array Slot), K r u → Sy D 132 ad A H0 (obC ad ci u) H locs → Rok u → decode cX5_put pc = .ok (.ireturn, 1) → W p l e rmX5_put s m args below meth c H locs 0 0 Q (F0 m pc ls [.int r])) (hthr : ∀ (E text : String) (ik is ic pc : Nat) (av : List Cond) (u : St) (H : Heap) (locs : List Loc) (ls : Array Slot), X E u → Sy D 132 ad A H0 (obC ad ci u) H locs → Rok u → ls.size = c.maxLocals → TSite cX5_put s args E text ik is ic pc av → W p l e rmX5_put s m args below meth c H locs 0 0 Q (F0 m pc ls [])) (x1 : Int32) (h : wX5_put σ x1 K X) (H : Heap) (locs : List Loc) (hY : Sy D 132 ad A H0 (obC ad ci σ) H locs) (hR : Rok σ) (ls : Array Slot) (hl : lv_has ls 4 [(0, .ref (ad 0)), (1, .int x1)]) : W p l e rmX5_put s m args below meth c H locs 0 0 Q (F0 m 0 ls []) := by
  obtain ⟨hx, hb, hml, hown, hts⟩ := id C0
  refine lv_iload_n hx hb dX5_put_0 rfl (lv_at hl 1 rfl) ?_
  refine lv_if_lt (tgt := 11) hx hb dX5_put_1 (by decide) (fun c_7 => ?_) (fun c_7 => ?_)
  · have h := h.1 c_7
    exact hthr "java/lang/IllegalArgumentException" "the number is out of range" 53 112 57 11 _ _ _ _ _ h hY hR (hl.1.trans hml.symm) ⟨(hts _ kX5_put_4), (hts _ kX5_put_5), fun w hw => hts w (kX5_put_at57 w hw), by decide +kernel, by decide +kernel, dX5_put_11, dX5_put_14, dX5_put_15, dX5_put_17, dX5_put_20⟩
  · have h := h.2 c_7
    refine lv_iload_n hx hb dX5_put_4 rfl (lv_at hl 1 rfl) ?_
    refine lv_sipush (v := (999 : Int32)) hx hb dX5_put_5 (by decide) ?_
    refine lv_icmp_le (tgt := 21) hx hb dX5_put_8 (by decide) (fun c_8 => ?_) (fun c_8 => ?_)
    · have h := h.1 c_8
      refine lv_aload_n hx hb dX5_put_21 rfl (lv_at hl 0 rfl) ?_
      refine w_get (o := 0) (ci := 5) (C := RX5) (T := TX5) (N1 := 6) (v := .ref (ad 1)) hx hb hts kX5_put_inX5 hown hK.1 hY (by decide) obC_main rfl 0 (by decide) (hts _ kX5_put_2) rfl rfl dX5_put_22 ?_
      refine w_callip (rest := []) (va_runV (As := []) (rest := []) C0 (mX2_size l D ad ci A σ 1 _ hR (by decide) h) (cwV 0 hts gX5_put_X2_size rfl rfl rfl ddX2_size ⟨Nat.le_of_ble_eq_true rfl, Nat.le_of_ble_eq_true rfl⟩) (w_preV (o := 1) (ci := 2) (ob := obC ad ci) (σ := σ) hK hY (rowB_lt (by decide)) (obC_row (by decide)) rfl rfl) rfl rfl hl.1 rfl (lv_room (Nat.le_of_ble_eq_true rfl)) dX5_put_25 ⟨Nat.zero_le _, Nat.zero_le _⟩) hY (fun r_9 H locs h hY => ?_)
      refine lv_if_eq (tgt := 43) hx hb dX5_put_28 (by decide) (fun c_10 => ?_) (fun c_10 => ?_)
      · have h := h.1 c_10
        exact hthr "java/lang/UnsupportedOperationException" "the text can be no word" 114 116 118 43 _ _ _ _ _ h hY hR (hl.1.trans hml.symm) ⟨(hts _ kX5_put_7), (hts _ kX5_put_8), fun w hw => hts w (kX5_put_at118 w hw), by decide +kernel, by decide +kernel, dX5_put_43, dX5_put_46, dX5_put_47, dX5_put_49, dX5_put_52⟩
      · have h := h.2 c_10
        refine lv_aload_n hx hb dX5_put_31 rfl (lv_at hl 0 rfl) ?_
        refine w_get (o := 0) (ci := 5) (C := RX5) (T := TX5) (N1 := 6) (v := .ref (ad 1)) hx hb hts kX5_put_inX5 hown hK.1 hY (by decide) obC_main rfl 0 (by decide) (hts _ kX5_put_2) rfl rfl dX5_put_32 ?_
        refine w_callip (rest := []) (va_runV (As := []) (rest := []) C0 (mX2_size l D ad ci A σ 1 _ hR (by decide) h) (cwV 0 hts gX5_put_X2_size rfl rfl rfl ddX2_size ⟨Nat.le_of_ble_eq_true rfl, Nat.le_of_ble_eq_true rfl⟩) (w_preV (o := 1) (ci := 2) (ob := obC ad ci) (σ := σ) hK hY (rowB_lt (by decide)) (obC_row (by decide)) rfl rfl) rfl rfl hl.1 rfl (lv_room (Nat.le_of_ble_eq_true rfl)) dX5_put_35 ⟨Nat.zero_le _, Nat.zero_le _⟩) hY (fun r_11 H locs h hY => ?_)
        refine lv_bipush (v := (10 : Int32)) hx hb dX5_put_38 (by decide) ?_
        refine lv_icmp_le (tgt := 53) hx hb dX5_put_40 (by decide) (fun c_12 => ?_) (fun c_12 => ?_)
        · have h := h.1 c_12
          refine lv_aload_n hx hb dX5_put_53 rfl (lv_at hl 0 rfl) ?_
          refine w_get (o := 0) (ci := 5) (C := RX5) (T := TX5) (N1 := 6) (v := .ref (ad 5)) hx hb hts kX5_put_inX5 hown hK.1 hY (by decide) obC_main rfl 2 (by decide) (hts _ kX5_put_0) rfl rfl dX5_put_54 ?_
          refine lv_aload_n hx hb dX5_put_57 rfl (lv_at hl 0 rfl) ?_
          refine w_get (o := 0) (ci := 5) (C := RX5) (T := TX5) (N1 := 6) (v := .ref (ad 1)) hx hb hts kX5_put_inX5 hown hK.1 hY (by decide) obC_main rfl 0 (by decide) (hts _ kX5_put_2) rfl rfl dX5_put_58 ?_
          refine w_callip (rest := []) (va_runV (As := [.ref (ad 1)]) (rest := []) C0 (mX4_rankOf l D ad ci A σ 1 _ hR (by decide) h) (cwV 1 hts gX5_put_X4_rankOf rfl rfl rfl ddX4_rankOf ⟨Nat.le_of_ble_eq_true rfl, Nat.le_of_ble_eq_true rfl⟩) (w_preV (o := 5) (ci := 4) (ob := obC ad ci) (σ := σ) hK hY (by decide) obC_list rfl rfl) rfl rfl hl.1 rfl (lv_room (Nat.le_of_ble_eq_true rfl)) dX5_put_61 ⟨Nat.zero_le _, Nat.zero_le _⟩) hY (fun r_13 H locs h hY => ?_)
          refine lv_istore_n (lv' := [(2, .int r_13), (0, .ref (ad 0)), (1, .int x1)]) hx hb dX5_put_64 rfl hl (by decide) rfl (fun ls hl => ?_)
          refine lv_iload_n hx hb dX5_put_65 rfl (lv_at hl 0 rfl) ?_
          refine lv_iconst (v := (-1 : Int32)) hx hb dX5_put_66 (by decide) ?_
          refine lv_icmp_ne (tgt := 92) hx hb dX5_put_67 (by decide) (fun c_14 => ?_) (fun c_14 => ?_)
          · have h := h.2 c_14
            exact tX5_put_J92 C0 hK K X σ x1 r_13 hret hthr h _ _ hY hR _ (lv_sub hl [1, 2, 0] rfl)
          · have h := h.1 c_14
            refine lv_aload_n hx hb dX5_put_70 rfl (lv_at hl 1 rfl) ?_
            refine w_get (o := 0) (ci := 5) (C := RX5) (T := TX5) (N1 := 6) (v := .ref (ad 5)) hx hb hts kX5_put_inX5 hown hK.1 hY (by decide) obC_main rfl 2 (by decide) (hts _ kX5_put_0) rfl rfl dX5_put_71 ?_
            refine w_callip (rest := []) (va_runV (As := []) (rest := []) C0 (mX4_size l D ad ci A σ _ hR  h) (cwV 0 hts gX5_put_X4_size rfl rfl rfl ddX4_size ⟨Nat.le_of_ble_eq_true rfl, Nat.le_of_ble_eq_true rfl⟩) (w_preV (o := 5) (ci := 4) (ob := obC ad ci) (σ := σ) hK hY (by decide) obC_list rfl rfl) rfl rfl hl.1 rfl (lv_room (Nat.le_of_ble_eq_true rfl)) dX5_put_74 ⟨Nat.zero_le _, Nat.zero_le _⟩) hY (fun r_15 H locs h hY => ?_)
            refine lv_bipush (v := (24 : Int32)) hx hb dX5_put_77 (by decide) ?_
            refine lv_icmp_lt (tgt := 92) hx hb dX5_put_79 (by decide) (fun c_16 => ?_) (fun c_16 => ?_)
            · have h := h.1 c_16
              exact tX5_put_J92 C0 hK K X σ x1 r_13 hret hthr h _ _ hY hR _ (lv_sub hl [1, 2, 0] rfl)
            · have h := h.2 c_16
              exact hthr "java/lang/IllegalStateException" "there are as many words as there may be" 64 124 68 82 _ _ _ _ _ h hY hR (hl.1.trans hml.symm) ⟨(hts _ kX5_put_10), (hts _ kX5_put_11), fun w hw => hts w (kX5_put_at68 w hw), by decide +kernel, by decide +kernel, dX5_put_82, dX5_put_85, dX5_put_86, dX5_put_88, dX5_put_91⟩
        · have h := h.2 c_12
          exact hthr "java/lang/UnsupportedOperationException" "the text can be no word" 114 116 118 43 _ _ _ _ _ h hY hR (hl.1.trans hml.symm) ⟨(hts _ kX5_put_7), (hts _ kX5_put_8), fun w hw => hts w (kX5_put_at118 w hw), by decide +kernel, by decide +kernel, dX5_put_43, dX5_put_46, dX5_put_47, dX5_put_49, dX5_put_52⟩
    · have h := h.2 c_8
      exact hthr "java/lang/IllegalArgumentException" "the number is out of range" 53 112 57 11 _ _ _ _ _ h hY hR (hl.1.trans hml.symm) ⟨(hts _ kX5_put_4), (hts _ kX5_put_5), fun w hw => hts w (kX5_put_at57 w hw), by decide +kernel, by decide +kernel, dX5_put_11, dX5_put_14, dX5_put_15, dX5_put_17, dX5_put_20⟩
set_option maxHeartbeats 4000000 in
set_option maxRecDepth 100000 in
theorem mX5_put (l : Launch) (hlt : l.stackTraces = false) (D : va_G) (ad : Nat → Nat) (ci : Nat → ClassId) (A : Nat → Prop) (σ : St) (x1 : Int32) (K : Int32 → St → Prop) (X : String → St → Prop) (hR : Rok σ) (h : wX5_put σ x1 K X) : vx_Met l yX5_put wsX5_put rmX5_put (va_Pc [.ref (ad 0), .int x1] (PreX D 132 ad A (tyC ci) (obC ad ci σ))) (va_Qi (fun r u => K r u) (PostW D 132 ad (tyC ci) (obC ad ci) Rok) A) (PostX D 132 ad (obC ad ci) Rok X A) 1 6 A := by
  refine vx_ofW (cc := cX5_put) (maxL := 4) (ret := (some .int)) (by decide) rfl ?_
  intro p e s m args below meth c s₁ B hml ht hv
  obtain ⟨rfl, ⟨hP, hK, hD⟩, hE⟩ := hv
  have C0 : CallFix p m c cX5_put 4 s _ wsX5_put RX5 := ⟨B.exec, B.bytes, hml, findClass_of_methodNamed B.named, atoms_spec (ws := wsX5_put) B.pre⟩
  have hlocks := B.notSynchronized
  have hY : Sy D 132 ad A s.heap (obC ad ci σ) s.heap [] := ⟨hP, hD, va_S.rf⟩
  have hl := lv_entry ([.ref (ad 0), .int x1]) (n := 4) (Nat.le_of_ble_eq_true rfl)
  rw [lg_entry_eq]
  generalize (lg_sl ([.ref (ad 0), .int x1]) ++ List.replicate (4 - (lg_sl ([.ref (ad 0), .int x1])).length) Slot.unset).toArray = ls at hl ⊢
  exact eX5_put C0 hK K X σ (fun r u H locs pc ls hk hY hR hd => vx_ret (W.widen (Nat.zero_le _) (Nat.zero_le _) (w_iret (I := Rok) B.exec B.bytes B.returns hlocks hK hk (fun t ht => ht) hY hR hd))) (fun E text ik is ic pc av u H locs ls hx hY hR hsz hT => w_throw (I := Rok) B.exec B.bytes hlt (findClass_of_methodNamed B.named) hT hE ht hsz (Nat.lt_of_lt_of_le (by decide) (Nat.le_refl _)) (Nat.le_of_ble_eq_true rfl) (Nat.le_of_ble_eq_true rfl) (Nat.le_of_ble_eq_true rfl) hlocks hx hY hR) x1 h _ _ hY hR ls hl
set_option maxHeartbeats 4000000 in
set_option maxRecDepth 100000 in
theorem eX5_take (C0 : CallFix p m c cX5_take 3 s args wsX5_take RX5) (hK : Kx D (tyC ci) s) (K : Int32 → St → Prop) (X : String → St → Prop) (σ : St) (hret : ∀ (r : Int32) (u : St) (H : Heap) (locs : List Loc) (pc : Nat) (ls : Array Slot), K r u → Sy D 132 ad A H0 (obC ad ci u) H locs → Rok u → decode cX5_take pc = .ok (.ireturn, 1) → W p l e rmX5_take s m args below meth c H locs 0 0 Q (F0 m pc ls [.int r])) (hthr : ∀ (E text : String) (ik is ic pc : Nat) (av : List Cond) (u : St) (H : Heap) (locs : List Loc) (ls : Array Slot), X E u → Sy D 132 ad A H0 (obC ad ci u) H locs → Rok u → ls.size = c.maxLocals → TSite cX5_take s args E text ik is ic pc av → W p l e rmX5_take s m args below meth c H locs 0 0 Q (F0 m pc ls [])) (h : wX5_take σ K X) (H : Heap) (locs : List Loc) (hY : Sy D 132 ad A H0 (obC ad ci σ) H locs) (hR : Rok σ) (ls : Array Slot) (hl : lv_has ls 3 [(0, .ref (ad 0))]) : W p l e rmX5_take s m args below meth c H locs 0 0 Q (F0 m 0 ls []) := by
  obtain ⟨hx, hb, hml, hown, hts⟩ := id C0
  refine lv_aload_n hx hb dX5_take_0 rfl (lv_at hl 0 rfl) ?_
  refine w_get (o := 0) (ci := 5) (C := RX5) (T := TX5) (N1 := 6) (v := .ref (ad 5)) hx hb hts kX5_take_inX5 hown hK.1 hY (by decide) obC_main rfl 2 (by decide) (hts _ kX5_take_0) rfl rfl dX5_take_1 ?_
  refine lv_aload_n hx hb dX5_take_4 rfl (lv_at hl 0 rfl) ?_
  refine w_get (o := 0) (ci := 5) (C := RX5) (T := TX5) (N1 := 6) (v := .ref (ad 1)) hx hb hts kX5_take_inX5 hown hK.1 hY (by decide) obC_main rfl 0 (by decide) (hts _ kX5_take_2) rfl rfl dX5_take_5 ?_
  refine w_callip (rest := []) (va_runV (As := [.ref (ad 1)]) (rest := []) C0 (mX4_rankOf l D ad ci A σ 1 _ hR (by decide) h) (cwV 1 hts gX5_take_X4_rankOf rfl rfl rfl ddX4_rankOf ⟨Nat.le_of_ble_eq_true rfl, Nat.le_of_ble_eq_true rfl⟩) (w_preV (o := 5) (ci := 4) (ob := obC ad ci) (σ := σ) hK hY (by decide) obC_list rfl rfl) rfl rfl hl.1 rfl (lv_room (Nat.le_of_ble_eq_true rfl)) dX5_take_8 ⟨Nat.zero_le _, Nat.zero_le _⟩) hY (fun r_1 H locs h hY => ?_)
  refine lv_istore_n (lv' := [(1, .int r_1), (0, .ref (ad 0))]) hx hb dX5_take_11 rfl hl (by decide) rfl (fun ls hl => ?_)
  refine lv_iload_n hx hb dX5_take_12 rfl (lv_at hl 0 rfl) ?_
  refine lv_iconst (v := (-1 : Int32)) hx hb dX5_take_13 (by decide) ?_
  refine lv_icmp_ne (tgt := 27) hx hb dX5_take_14 (by decide) (fun c_2 => ?_) (fun c_2 => ?_)
  · have h := h.2 c_2
    refine lv_aload_n hx hb dX5_take_27 rfl (lv_at hl 1 rfl) ?_
    refine w_get (o := 0) (ci := 5) (C := RX5) (T := TX5) (N1 := 6) (v := .ref (ad 5)) hx hb hts kX5_take_inX5 hown hK.1 hY (by decide) obC_main rfl 2 (by decide) (hts _ kX5_take_0) rfl rfl dX5_take_28 ?_
    refine lv_iload_n hx hb dX5_take_31 rfl (lv_at hl 0 rfl) ?_
    refine w_callip (rest := []) (va_runV (As := [.int r_1]) (rest := []) C0 (mX4_numberAt l D ad ci A σ r_1 _ hR  h) (cwV 1 hts gX5_take_X4_numberAt rfl rfl rfl ddX4_numberAt ⟨Nat.le_of_ble_eq_true rfl, Nat.le_of_ble_eq_true rfl⟩) (w_preV (o := 5) (ci := 4) (ob := obC ad ci) (σ := σ) hK hY (by decide) obC_list rfl rfl) rfl rfl hl.1 rfl (lv_room (Nat.le_of_ble_eq_true rfl)) dX5_take_32 ⟨Nat.zero_le _, Nat.zero_le _⟩) hY (fun r_3 H locs h hY => ?_)
    refine lv_istore_n (lv' := [(2, .int r_3), (1, .int r_1), (0, .ref (ad 0))]) hx hb dX5_take_35 rfl hl (by decide) rfl (fun ls hl => ?_)
    refine lv_aload_n hx hb dX5_take_36 rfl (lv_at hl 2 rfl) ?_
    refine w_get (o := 0) (ci := 5) (C := RX5) (T := TX5) (N1 := 6) (v := .ref (ad 5)) hx hb hts kX5_take_inX5 hown hK.1 hY (by decide) obC_main rfl 2 (by decide) (hts _ kX5_take_0) rfl rfl dX5_take_37 ?_
    refine lv_iload_n hx hb dX5_take_40 rfl (lv_at hl 1 rfl) ?_
    refine w_callv (rest := []) (va_runV (As := [.int r_1]) (rest := []) C0 (mX4_remove l D ad ci A σ r_1 _ hR  h) (cwV 1 hts gX5_take_X4_remove rfl rfl rfl ddX4_remove ⟨Nat.le_of_ble_eq_true rfl, Nat.le_of_ble_eq_true rfl⟩) (w_preV (o := 5) (ci := 4) (ob := obC ad ci) (σ := σ) hK hY (by decide) obC_list rfl rfl) rfl rfl hl.1 rfl (lv_room (Nat.le_of_ble_eq_true rfl)) dX5_take_41 ⟨Nat.zero_le _, Nat.zero_le _⟩) hY (fun σ_5 H locs h hY hR_σ_5 => ?_)
    refine lv_iload_n hx hb dX5_take_44 rfl (lv_at hl 0 rfl) ?_
    exact hret r_3 σ_5 _ _ _ _ h hY hR_σ_5 dX5_take_45
  · have h := h.1 c_2
    exact hthr "java/util/NoSuchElementException" "the text is no word" 91 136 95 17 _ _ _ _ _ h hY hR (hl.1.trans hml.symm) ⟨(hts _ kX5_take_4), (hts _ kX5_take_5), fun w hw => hts w (kX5_take_at95 w hw), by decide +kernel, by decide +kernel, dX5_take_17, dX5_take_20, dX5_take_21, dX5_take_23, dX5_take_26⟩
set_option maxHeartbeats 4000000 in
set_option maxRecDepth 100000 in
theorem mX5_take (l : Launch) (hlt : l.stackTraces = false) (D : va_G) (ad : Nat → Nat) (ci : Nat → ClassId) (A : Nat → Prop) (σ : St) (K : Int32 → St → Prop) (X : String → St → Prop) (hR : Rok σ) (h : wX5_take σ K X) : vx_Met l yX5_take wsX5_take rmX5_take (va_Pc [.ref (ad 0)] (PreX D 132 ad A (tyC ci) (obC ad ci σ))) (va_Qi (fun r u => K r u) (PostW D 132 ad (tyC ci) (obC ad ci) Rok) A) (PostX D 132 ad (obC ad ci) Rok X A) 1 6 A := by
  refine vx_ofW (cc := cX5_take) (maxL := 3) (ret := (some .int)) (by decide) rfl ?_
  intro p e s m args below meth c s₁ B hml ht hv
  obtain ⟨rfl, ⟨hP, hK, hD⟩, hE⟩ := hv
  have C0 : CallFix p m c cX5_take 3 s _ wsX5_take RX5 := ⟨B.exec, B.bytes, hml, findClass_of_methodNamed B.named, atoms_spec (ws := wsX5_take) B.pre⟩
  have hlocks := B.notSynchronized
  have hY : Sy D 132 ad A s.heap (obC ad ci σ) s.heap [] := ⟨hP, hD, va_S.rf⟩
  have hl := lv_entry ([.ref (ad 0)]) (n := 3) (Nat.le_of_ble_eq_true rfl)
  rw [lg_entry_eq]
  generalize (lg_sl ([.ref (ad 0)]) ++ List.replicate (3 - (lg_sl ([.ref (ad 0)])).length) Slot.unset).toArray = ls at hl ⊢
  exact eX5_take C0 hK K X σ (fun r u H locs pc ls hk hY hR hd => vx_ret (W.widen (Nat.zero_le _) (Nat.zero_le _) (w_iret (I := Rok) B.exec B.bytes B.returns hlocks hK hk (fun t ht => ht) hY hR hd))) (fun E text ik is ic pc av u H locs ls hx hY hR hsz hT => w_throw (I := Rok) B.exec B.bytes hlt (findClass_of_methodNamed B.named) hT hE ht hsz (Nat.lt_of_lt_of_le (by decide) (Nat.le_refl _)) (Nat.le_of_ble_eq_true rfl) (Nat.le_of_ble_eq_true rfl) (Nat.le_of_ble_eq_true rfl) hlocks hx hY hR) h _ _ hY hR ls hl
set_option maxHeartbeats 4000000 in
set_option maxRecDepth 100000 in
theorem eX5_number (C0 : CallFix p m c cX5_number 2 s args wsX5_number RX5) (hK : Kx D (tyC ci) s) (K : Int32 → St → Prop) (X : String → St → Prop) (σ : St) (hret : ∀ (r : Int32) (u : St) (H : Heap) (locs : List Loc) (pc : Nat) (ls : Array Slot), K r u → Sy D 132 ad A H0 (obC ad ci u) H locs → Rok u → decode cX5_number pc = .ok (.ireturn, 1) → W p l e rmX5_number s m args below meth c H locs 0 0 Q (F0 m pc ls [.int r])) (hthr : ∀ (E text : String) (ik is ic pc : Nat) (av : List Cond) (u : St) (H : Heap) (locs : List Loc) (ls : Array Slot), X E u → Sy D 132 ad A H0 (obC ad ci u) H locs → Rok u → ls.size = c.maxLocals → TSite cX5_number s args E text ik is ic pc av → W p l e rmX5_number s m args below meth c H locs 0 0 Q (F0 m pc ls [])) (h : wX5_number σ K X) (H : Heap) (locs : List Loc) (hY : Sy D 132 ad A H0 (obC ad ci σ) H locs) (hR : Rok σ) (ls : Array Slot) (hl : lv_has ls 2 [(0, .ref (ad 0))]) : W p l e rmX5_number s m args below meth c H locs 0 0 Q (F0 m 0 ls []) := by
  obtain ⟨hx, hb, hml, hown, hts⟩ := id C0
  refine lv_aload_n hx hb dX5_number_0 rfl (lv_at hl 0 rfl) ?_
  refine w_get (o := 0) (ci := 5) (C := RX5) (T := TX5) (N1 := 6) (v := .ref (ad 5)) hx hb hts kX5_number_inX5 hown hK.1 hY (by decide) obC_main rfl 2 (by decide) (hts _ kX5_number_0) rfl rfl dX5_number_1 ?_
  refine lv_aload_n hx hb dX5_number_4 rfl (lv_at hl 0 rfl) ?_
  refine w_get (o := 0) (ci := 5) (C := RX5) (T := TX5) (N1 := 6) (v := .ref (ad 1)) hx hb hts kX5_number_inX5 hown hK.1 hY (by decide) obC_main rfl 0 (by decide) (hts _ kX5_number_2) rfl rfl dX5_number_5 ?_
  refine w_callip (rest := []) (va_runV (As := [.ref (ad 1)]) (rest := []) C0 (mX4_rankOf l D ad ci A σ 1 _ hR (by decide) h) (cwV 1 hts gX5_number_X4_rankOf rfl rfl rfl ddX4_rankOf ⟨Nat.le_of_ble_eq_true rfl, Nat.le_of_ble_eq_true rfl⟩) (w_preV (o := 5) (ci := 4) (ob := obC ad ci) (σ := σ) hK hY (by decide) obC_list rfl rfl) rfl rfl hl.1 rfl (lv_room (Nat.le_of_ble_eq_true rfl)) dX5_number_8 ⟨Nat.zero_le _, Nat.zero_le _⟩) hY (fun r_1 H locs h hY => ?_)
  refine lv_istore_n (lv' := [(1, .int r_1), (0, .ref (ad 0))]) hx hb dX5_number_11 rfl hl (by decide) rfl (fun ls hl => ?_)
  refine lv_iload_n hx hb dX5_number_12 rfl (lv_at hl 0 rfl) ?_
  refine lv_iconst (v := (-1 : Int32)) hx hb dX5_number_13 (by decide) ?_
  refine lv_icmp_ne (tgt := 27) hx hb dX5_number_14 (by decide) (fun c_2 => ?_) (fun c_2 => ?_)
  · have h := h.2 c_2
    refine lv_aload_n hx hb dX5_number_27 rfl (lv_at hl 1 rfl) ?_
    refine w_get (o := 0) (ci := 5) (C := RX5) (T := TX5) (N1 := 6) (v := .ref (ad 5)) hx hb hts kX5_number_inX5 hown hK.1 hY (by decide) obC_main rfl 2 (by decide) (hts _ kX5_number_0) rfl rfl dX5_number_28 ?_
    refine lv_iload_n hx hb dX5_number_31 rfl (lv_at hl 0 rfl) ?_
    refine w_callip (rest := []) (va_runV (As := [.int r_1]) (rest := []) C0 (mX4_numberAt l D ad ci A σ r_1 _ hR  h) (cwV 1 hts gX5_number_X4_numberAt rfl rfl rfl ddX4_numberAt ⟨Nat.le_of_ble_eq_true rfl, Nat.le_of_ble_eq_true rfl⟩) (w_preV (o := 5) (ci := 4) (ob := obC ad ci) (σ := σ) hK hY (by decide) obC_list rfl rfl) rfl rfl hl.1 rfl (lv_room (Nat.le_of_ble_eq_true rfl)) dX5_number_32 ⟨Nat.zero_le _, Nat.zero_le _⟩) hY (fun r_3 H locs h hY => ?_)
    exact hret r_3 σ _ _ _ _ h hY hR dX5_number_35
  · have h := h.1 c_2
    exact hthr "java/util/NoSuchElementException" "the text is no word" 91 136 95 17 _ _ _ _ _ h hY hR (hl.1.trans hml.symm) ⟨(hts _ kX5_number_4), (hts _ kX5_number_5), fun w hw => hts w (kX5_number_at95 w hw), by decide +kernel, by decide +kernel, dX5_number_17, dX5_number_20, dX5_number_21, dX5_number_23, dX5_number_26⟩
set_option maxHeartbeats 4000000 in
set_option maxRecDepth 100000 in
theorem mX5_number (l : Launch) (hlt : l.stackTraces = false) (D : va_G) (ad : Nat → Nat) (ci : Nat → ClassId) (A : Nat → Prop) (σ : St) (K : Int32 → St → Prop) (X : String → St → Prop) (hR : Rok σ) (h : wX5_number σ K X) : vx_Met l yX5_number wsX5_number rmX5_number (va_Pc [.ref (ad 0)] (PreX D 132 ad A (tyC ci) (obC ad ci σ))) (va_Qi (fun r u => K r u) (PostW D 132 ad (tyC ci) (obC ad ci) Rok) A) (PostX D 132 ad (obC ad ci) Rok X A) 1 6 A := by
  refine vx_ofW (cc := cX5_number) (maxL := 2) (ret := (some .int)) (by decide) rfl ?_
  intro p e s m args below meth c s₁ B hml ht hv
  obtain ⟨rfl, ⟨hP, hK, hD⟩, hE⟩ := hv
  have C0 : CallFix p m c cX5_number 2 s _ wsX5_number RX5 := ⟨B.exec, B.bytes, hml, findClass_of_methodNamed B.named, atoms_spec (ws := wsX5_number) B.pre⟩
  have hlocks := B.notSynchronized
  have hY : Sy D 132 ad A s.heap (obC ad ci σ) s.heap [] := ⟨hP, hD, va_S.rf⟩
  have hl := lv_entry ([.ref (ad 0)]) (n := 2) (Nat.le_of_ble_eq_true rfl)
  rw [lg_entry_eq]
  generalize (lg_sl ([.ref (ad 0)]) ++ List.replicate (2 - (lg_sl ([.ref (ad 0)])).length) Slot.unset).toArray = ls at hl ⊢
  exact eX5_number C0 hK K X σ (fun r u H locs pc ls hk hY hR hd => vx_ret (W.widen (Nat.zero_le _) (Nat.zero_le _) (w_iret (I := Rok) B.exec B.bytes B.returns hlocks hK hk (fun t ht => ht) hY hR hd))) (fun E text ik is ic pc av u H locs ls hx hY hR hsz hT => w_throw (I := Rok) B.exec B.bytes hlt (findClass_of_methodNamed B.named) hT hE ht hsz (Nat.lt_of_lt_of_le (by decide) (Nat.le_refl _)) (Nat.le_of_ble_eq_true rfl) (Nat.le_of_ble_eq_true rfl) (Nat.le_of_ble_eq_true rfl) hlocks hx hY hR) h _ _ hY hR ls hl
set_option maxHeartbeats 4000000 in
set_option maxRecDepth 100000 in
theorem eX5_word (C0 : CallFix p m c cX5_word 2 s args wsX5_word RX5) (hK : Kx D (tyC ci) s) (K : Int32 → St → Prop) (X : String → St → Prop) (σ : St) (hret : ∀ (r : Int32) (u : St) (H : Heap) (locs : List Loc) (pc : Nat) (ls : Array Slot), K r u → Sy D 132 ad A H0 (obC ad ci u) H locs → Rok u → decode cX5_word pc = .ok (.ireturn, 1) → W p l e rmX5_word s m args below meth c H locs 0 0 Q (F0 m pc ls [.int r])) (hthr : ∀ (E text : String) (ik is ic pc : Nat) (av : List Cond) (u : St) (H : Heap) (locs : List Loc) (ls : Array Slot), X E u → Sy D 132 ad A H0 (obC ad ci u) H locs → Rok u → ls.size = c.maxLocals → TSite cX5_word s args E text ik is ic pc av → W p l e rmX5_word s m args below meth c H locs 0 0 Q (F0 m pc ls [])) (x1 : Int32) (h : wX5_word σ x1 K X) (H : Heap) (locs : List Loc) (hY : Sy D 132 ad A H0 (obC ad ci σ) H locs) (hR : Rok σ) (ls : Array Slot) (hl : lv_has ls 2 [(0, .ref (ad 0)), (1, .int x1)]) : W p l e rmX5_word s m args below meth c H locs 0 0 Q (F0 m 0 ls []) := by
  obtain ⟨hx, hb, hml, hown, hts⟩ := id C0
  refine lv_iload_n hx hb dX5_word_0 rfl (lv_at hl 1 rfl) ?_
  refine lv_if_lt (tgt := 15) hx hb dX5_word_1 (by decide) (fun c_1 => ?_) (fun c_1 => ?_)
  · have h := h.1 c_1
    exact hthr "java/lang/IndexOutOfBoundsException" "no such rank" 82 144 86 15 _ _ _ _ _ h hY hR (hl.1.trans hml.symm) ⟨(hts _ kX5_word_1), (hts _ kX5_word_2), fun w hw => hts w (kX5_word_at86 w hw), by decide +kernel, by decide +kernel, dX5_word_15, dX5_word_18, dX5_word_19, dX5_word_21, dX5_word_24⟩
  · have h := h.2 c_1
    refine lv_iload_n hx hb dX5_word_4 rfl (lv_at hl 1 rfl) ?_
    refine lv_aload_n hx hb dX5_word_5 rfl (lv_at hl 0 rfl) ?_
    refine w_get (o := 0) (ci := 5) (C := RX5) (T := TX5) (N1 := 6) (v := .ref (ad 5)) hx hb hts kX5_word_inX5 hown hK.1 hY (by decide) obC_main rfl 2 (by decide) (hts _ kX5_word_3) rfl rfl dX5_word_6 ?_
    refine w_callip (rest := [.int x1]) (va_runV (As := []) (rest := [.int x1]) C0 (mX4_size l D ad ci A σ _ hR  h) (cwV 0 hts gX5_word_X4_size rfl rfl rfl ddX4_size ⟨Nat.le_of_ble_eq_true rfl, Nat.le_of_ble_eq_true rfl⟩) (w_preV (o := 5) (ci := 4) (ob := obC ad ci) (σ := σ) hK hY (by decide) obC_list rfl rfl) rfl rfl hl.1 rfl (lv_room (Nat.le_of_ble_eq_true rfl)) dX5_word_9 ⟨Nat.zero_le _, Nat.zero_le _⟩) hY (fun r_2 H locs h hY => ?_)
    refine lv_icmp_lt (tgt := 25) hx hb dX5_word_12 (by decide) (fun c_3 => ?_) (fun c_3 => ?_)
    · have h := h.1 c_3
      refine lv_aload_n hx hb dX5_word_25 rfl (lv_at hl 0 rfl) ?_
      refine w_get (o := 0) (ci := 5) (C := RX5) (T := TX5) (N1 := 6) (v := .ref (ad 1)) hx hb hts kX5_word_inX5 hown hK.1 hY (by decide) obC_main rfl 0 (by decide) (hts _ kX5_word_5) rfl rfl dX5_word_26 ?_
      refine lv_aload_n hx hb dX5_word_29 rfl (lv_at hl 0 rfl) ?_
      refine w_get (o := 0) (ci := 5) (C := RX5) (T := TX5) (N1 := 6) (v := .ref (ad 5)) hx hb hts kX5_word_inX5 hown hK.1 hY (by decide) obC_main rfl 2 (by decide) (hts _ kX5_word_3) rfl rfl dX5_word_30 ?_
      refine lv_iload_n hx hb dX5_word_33 rfl (lv_at hl 1 rfl) ?_
      refine w_callrp (rest := [.ref (ad 1)]) (va_runV (As := [.int x1]) (rest := [.ref (ad 1)]) C0 (mX4_rowAt l D ad ci A σ x1 _ hR  h) (cwV 1 hts gX5_word_X4_rowAt rfl rfl rfl ddX4_rowAt ⟨Nat.le_of_ble_eq_true rfl, Nat.le_of_ble_eq_true rfl⟩) (w_preV (o := 5) (ci := 4) (ob := obC ad ci) (σ := σ) hK hY (by decide) obC_list rfl rfl) rfl rfl hl.1 rfl (lv_room (Nat.le_of_ble_eq_true rfl)) dX5_word_34 ⟨Nat.zero_le _, Nat.zero_le _⟩) hY (fun r_4 H locs h hY => ?_)
      obtain ⟨rr_4, h⟩ := h
      refine w_callv (rest := []) (va_runV (As := [.ref (ad r_4)]) (rest := []) C0 (mX2_become l D ad ci A σ 1 r_4 _ hR (by decide) rr_4 h) (cwV 1 hts gX5_word_X2_become rfl rfl rfl ddX2_become ⟨Nat.le_of_ble_eq_true rfl, Nat.le_of_ble_eq_true rfl⟩) (w_preV (o := 1) (ci := 2) (ob := obC ad ci) (σ := σ) hK hY (rowB_lt (by decide)) (obC_row (by decide)) rfl rfl) rfl rfl hl.1 rfl (lv_room (Nat.le_of_ble_eq_true rfl)) dX5_word_37 ⟨Nat.zero_le _, Nat.zero_le _⟩) hY (fun σ_6 H locs h hY hR_σ_6 => ?_)
      refine lv_aload_n hx hb dX5_word_40 rfl (lv_at hl 0 rfl) ?_
      refine w_get (o := 0) (ci := 5) (C := RX5) (T := TX5) (N1 := 6) (v := .ref (ad 1)) hx hb hts kX5_word_inX5 hown hK.1 hY (by decide) obC_main rfl 0 (by decide) (hts _ kX5_word_5) rfl rfl dX5_word_41 ?_
      refine w_callip (rest := []) (va_runV (As := []) (rest := []) C0 (mX2_size l D ad ci A σ_6 1 _ hR_σ_6 (by decide) h) (cwV 0 hts gX5_word_X2_size rfl rfl rfl ddX2_size ⟨Nat.le_of_ble_eq_true rfl, Nat.le_of_ble_eq_true rfl⟩) (w_preV (o := 1) (ci := 2) (ob := obC ad ci) (σ := σ_6) hK hY (rowB_lt (by decide)) (obC_row (by decide)) rfl rfl) rfl rfl hl.1 rfl (lv_room (Nat.le_of_ble_eq_true rfl)) dX5_word_44 ⟨Nat.zero_le _, Nat.zero_le _⟩) hY (fun r_7 H locs h hY => ?_)
      exact hret r_7 σ_6 _ _ _ _ h hY hR_σ_6 dX5_word_47
    · have h := h.2 c_3
      exact hthr "java/lang/IndexOutOfBoundsException" "no such rank" 82 144 86 15 _ _ _ _ _ h hY hR (hl.1.trans hml.symm) ⟨(hts _ kX5_word_1), (hts _ kX5_word_2), fun w hw => hts w (kX5_word_at86 w hw), by decide +kernel, by decide +kernel, dX5_word_15, dX5_word_18, dX5_word_19, dX5_word_21, dX5_word_24⟩
set_option maxHeartbeats 4000000 in
set_option maxRecDepth 100000 in
theorem mX5_word (l : Launch) (hlt : l.stackTraces = false) (D : va_G) (ad : Nat → Nat) (ci : Nat → ClassId) (A : Nat → Prop) (σ : St) (x1 : Int32) (K : Int32 → St → Prop) (X : String → St → Prop) (hR : Rok σ) (h : wX5_word σ x1 K X) : vx_Met l yX5_word wsX5_word rmX5_word (va_Pc [.ref (ad 0), .int x1] (PreX D 132 ad A (tyC ci) (obC ad ci σ))) (va_Qi (fun r u => K r u) (PostW D 132 ad (tyC ci) (obC ad ci) Rok) A) (PostX D 132 ad (obC ad ci) Rok X A) 1 6 A := by
  refine vx_ofW (cc := cX5_word) (maxL := 2) (ret := (some .int)) (by decide) rfl ?_
  intro p e s m args below meth c s₁ B hml ht hv
  obtain ⟨rfl, ⟨hP, hK, hD⟩, hE⟩ := hv
  have C0 : CallFix p m c cX5_word 2 s _ wsX5_word RX5 := ⟨B.exec, B.bytes, hml, findClass_of_methodNamed B.named, atoms_spec (ws := wsX5_word) B.pre⟩
  have hlocks := B.notSynchronized
  have hY : Sy D 132 ad A s.heap (obC ad ci σ) s.heap [] := ⟨hP, hD, va_S.rf⟩
  have hl := lv_entry ([.ref (ad 0), .int x1]) (n := 2) (Nat.le_of_ble_eq_true rfl)
  rw [lg_entry_eq]
  generalize (lg_sl ([.ref (ad 0), .int x1]) ++ List.replicate (2 - (lg_sl ([.ref (ad 0), .int x1])).length) Slot.unset).toArray = ls at hl ⊢
  exact eX5_word C0 hK K X σ (fun r u H locs pc ls hk hY hR hd => vx_ret (W.widen (Nat.zero_le _) (Nat.zero_le _) (w_iret (I := Rok) B.exec B.bytes B.returns hlocks hK hk (fun t ht => ht) hY hR hd))) (fun E text ik is ic pc av u H locs ls hx hY hR hsz hT => w_throw (I := Rok) B.exec B.bytes hlt (findClass_of_methodNamed B.named) hT hE ht hsz (Nat.lt_of_lt_of_le (by decide) (Nat.le_refl _)) (Nat.le_of_ble_eq_true rfl) (Nat.le_of_ble_eq_true rfl) (Nat.le_of_ble_eq_true rfl) hlocks hx hY hR) x1 h _ _ hY hR ls hl
set_option maxHeartbeats 4000000 in
set_option maxRecDepth 100000 in
theorem tX5_near_J34 (C0 : CallFix p m c cX5_near 3 s args wsX5_near RX5) (hK : Kx D (tyC ci) s) (K : Int32 → St → Prop) (X : String → St → Prop) (σ : St) (x1 : Int32) (hret : ∀ (r : Int32) (u : St) (H : Heap) (locs : List Loc) (pc : Nat) (ls : Array Slot), K r u → Sy D 132 ad A H0 (obC ad ci u) H locs → Rok u → decode cX5_near pc = .ok (.ireturn, 1) → W p l e rmX5_near s m args below meth c H locs 0 0 Q (F0 m pc ls [.int r])) (hthr : ∀ (E text : String) (ik is ic pc : Nat) (av : List Cond) (u : St) (H : Heap) (locs : List Loc) (ls : Array Slot), X E u → Sy D 132 ad A H0 (obC ad ci u) H locs → Rok u → ls.size = c.maxLocals → TSite cX5_near s args E text ik is ic pc av → W p l e rmX5_near s m args below meth c H locs 0 0 Q (F0 m pc ls [])) (h : wX5_near_J34 K X σ x1) (H : Heap) (locs : List Loc) (hY : Sy D 132 ad A H0 (obC ad ci σ) H locs) (hR : Rok σ) (ls : Array Slot) (hl : lv_has ls 3 [(0, .ref (ad 0)), (1, .int x1)]) : W p l e rmX5_near s m args below meth c H locs 0 0 Q (F0 m 34 ls []) := by
  obtain ⟨hx, hb, hml, hown, hts⟩ := id C0
  refine lv_aload_n hx hb dX5_near_34 rfl (lv_at hl 0 rfl) ?_
  refine lv_iload_n hx hb dX5_near_35 rfl (lv_at hl 1 rfl) ?_
  refine w_callip (rest := []) (va_runV (As := [.int x1]) (rest := []) C0 (mX5_rankNear l D ad ci A σ x1 _ hR  h) (cwV 1 hts gX5_near_X5_rankNear rfl rfl rfl ddX5_rankNear ⟨Nat.le_of_ble_eq_true rfl, Nat.le_of_ble_eq_true rfl⟩) (w_preV (o := 0) (ci := 5) (ob := obC ad ci) (σ := σ) hK hY (by decide) obC_main rfl rfl) rfl rfl hl.1 rfl (lv_room (Nat.le_of_ble_eq_true rfl)) dX5_near_36 ⟨Nat.zero_le _, Nat.zero_le _⟩) hY (fun r_1 H locs h hY => ?_)
  refine lv_istore_n (lv' := [(2, .int r_1), (0, .ref (ad 0)), (1, .int x1)]) hx hb dX5_near_39 rfl hl (by decide) rfl (fun ls hl => ?_)
  refine lv_iload_n hx hb dX5_near_40 rfl (lv_at hl 0 rfl) ?_
  refine lv_if_lt (tgt := 55) hx hb dX5_near_41 (by decide) (fun c_2 => ?_) (fun c_2 => ?_)
  · have h := h.1 c_2
    exact hthr "java/util/NoSuchElementException" "no such word" 91 160 95 55 _ _ _ _ _ h hY hR (hl.1.trans hml.symm) ⟨(hts _ kX5_near_1), (hts _ kX5_near_2), fun w hw => hts w (kX5_near_at95 w hw), by decide +kernel, by decide +kernel, dX5_near_55, dX5_near_58, dX5_near_59, dX5_near_61, dX5_near_64⟩
  · have h := h.2 c_2
    refine lv_iload_n hx hb dX5_near_44 rfl (lv_at hl 0 rfl) ?_
    refine lv_aload_n hx hb dX5_near_45 rfl (lv_at hl 1 rfl) ?_
    refine w_get (o := 0) (ci := 5) (C := RX5) (T := TX5) (N1 := 6) (v := .ref (ad 5)) hx hb hts kX5_near_inX5 hown hK.1 hY (by decide) obC_main rfl 2 (by decide) (hts _ kX5_near_3) rfl rfl dX5_near_46 ?_
    refine w_callip (rest := [.int r_1]) (va_runV (As := []) (rest := [.int r_1]) C0 (mX4_size l D ad ci A σ _ hR  h) (cwV 0 hts gX5_near_X4_size rfl rfl rfl ddX4_size ⟨Nat.le_of_ble_eq_true rfl, Nat.le_of_ble_eq_true rfl⟩) (w_preV (o := 5) (ci := 4) (ob := obC ad ci) (σ := σ) hK hY (by decide) obC_list rfl rfl) rfl rfl hl.1 rfl (lv_room (Nat.le_of_ble_eq_true rfl)) dX5_near_49 ⟨Nat.zero_le _, Nat.zero_le _⟩) hY (fun r_3 H locs h hY => ?_)
    refine lv_icmp_lt (tgt := 65) hx hb dX5_near_52 (by decide) (fun c_4 => ?_) (fun c_4 => ?_)
    · have h := h.1 c_4
      refine lv_aload_n hx hb dX5_near_65 rfl (lv_at hl 1 rfl) ?_
      refine w_get (o := 0) (ci := 5) (C := RX5) (T := TX5) (N1 := 6) (v := .ref (ad 1)) hx hb hts kX5_near_inX5 hown hK.1 hY (by decide) obC_main rfl 0 (by decide) (hts _ kX5_near_5) rfl rfl dX5_near_66 ?_
      refine lv_aload_n hx hb dX5_near_69 rfl (lv_at hl 1 rfl) ?_
      refine w_get (o := 0) (ci := 5) (C := RX5) (T := TX5) (N1 := 6) (v := .ref (ad 5)) hx hb hts kX5_near_inX5 hown hK.1 hY (by decide) obC_main rfl 2 (by decide) (hts _ kX5_near_3) rfl rfl dX5_near_70 ?_
      refine lv_iload_n hx hb dX5_near_73 rfl (lv_at hl 0 rfl) ?_
      refine w_callrp (rest := [.ref (ad 1)]) (va_runV (As := [.int r_1]) (rest := [.ref (ad 1)]) C0 (mX4_rowAt l D ad ci A σ r_1 _ hR  h) (cwV 1 hts gX5_near_X4_rowAt rfl rfl rfl ddX4_rowAt ⟨Nat.le_of_ble_eq_true rfl, Nat.le_of_ble_eq_true rfl⟩) (w_preV (o := 5) (ci := 4) (ob := obC ad ci) (σ := σ) hK hY (by decide) obC_list rfl rfl) rfl rfl hl.1 rfl (lv_room (Nat.le_of_ble_eq_true rfl)) dX5_near_74 ⟨Nat.zero_le _, Nat.zero_le _⟩) hY (fun r_5 H locs h hY => ?_)
      obtain ⟨rr_5, h⟩ := h
      refine w_callv (rest := []) (va_runV (As := [.ref (ad r_5)]) (rest := []) C0 (mX2_become l D ad ci A σ 1 r_5 _ hR (by decide) rr_5 h) (cwV 1 hts gX5_near_X2_become rfl rfl rfl ddX2_become ⟨Nat.le_of_ble_eq_true rfl, Nat.le_of_ble_eq_true rfl⟩) (w_preV (o := 1) (ci := 2) (ob := obC ad ci) (σ := σ) hK hY (rowB_lt (by decide)) (obC_row (by decide)) rfl rfl) rfl rfl hl.1 rfl (lv_room (Nat.le_of_ble_eq_true rfl)) dX5_near_77 ⟨Nat.zero_le _, Nat.zero_le _⟩) hY (fun σ_7 H locs h hY hR_σ_7 => ?_)
      refine lv_aload_n hx hb dX5_near_80 rfl (lv_at hl 1 rfl) ?_
      refine w_get (o := 0) (ci := 5) (C := RX5) (T := TX5) (N1 := 6) (v := .ref (ad 5)) hx hb hts kX5_near_inX5 hown hK.1 hY (by decide) obC_main rfl 2 (by decide) (hts _ kX5_near_3) rfl rfl dX5_near_81 ?_
      refine lv_iload_n hx hb dX5_near_84 rfl (lv_at hl 0 rfl) ?_
      refine w_callip (rest := []) (va_runV (As := [.int r_1]) (rest := []) C0 (mX4_numberAt l D ad ci A σ_7 r_1 _ hR_σ_7  h) (cwV 1 hts gX5_near_X4_numberAt rfl rfl rfl ddX4_numberAt ⟨Nat.le_of_ble_eq_true rfl, Nat.le_of_ble_eq_true rfl⟩) (w_preV (o := 5) (ci := 4) (ob := obC ad ci) (σ := σ_7) hK hY (by decide) obC_list rfl rfl) rfl rfl hl.1 rfl (lv_room (Nat.le_of_ble_eq_true rfl)) dX5_near_85 ⟨Nat.zero_le _, Nat.zero_le _⟩) hY (fun r_8 H locs h hY => ?_)
      exact hret r_8 σ_7 _ _ _ _ h hY hR_σ_7 dX5_near_88
    · have h := h.2 c_4
      exact hthr "java/util/NoSuchElementException" "no such word" 91 160 95 55 _ _ _ _ _ h hY hR (hl.1.trans hml.symm) ⟨(hts _ kX5_near_1), (hts _ kX5_near_2), fun w hw => hts w (kX5_near_at95 w hw), by decide +kernel, by decide +kernel, dX5_near_55, dX5_near_58, dX5_near_59, dX5_near_61, dX5_near_64⟩
set_option maxHeartbeats 4000000 in
set_option maxRecDepth 100000 in
theorem eX5_near (C0 : CallFix p m c cX5_near 3 s args wsX5_near RX5) (hK : Kx D (tyC ci) s) (K : Int32 → St → Prop) (X : String → St → Prop) (σ : St) (hret : ∀ (r : Int32) (u : St) (H : Heap) (locs : List Loc) (pc : Nat) (ls : Array Slot), K r u → Sy D 132 ad A H0 (obC ad ci u) H locs → Rok u → decode cX5_near pc = .ok (.ireturn, 1) → W p l e rmX5_near s m args below meth c H locs 0 0 Q (F0 m pc ls [.int r])) (hthr : ∀ (E text : String) (ik is ic pc : Nat) (av : List Cond) (u : St) (H : Heap) (locs : List Loc) (ls : Array Slot), X E u → Sy D 132 ad A H0 (obC ad ci u) H locs → Rok u → ls.size = c.maxLocals → TSite cX5_near s args E text ik is ic pc av → W p l e rmX5_near s m args below meth c H locs 0 0 Q (F0 m pc ls [])) (x1 : Int32) (h : wX5_near σ x1 K X) (H : Heap) (locs : List Loc) (hY : Sy D 132 ad A H0 (obC ad ci σ) H locs) (hR : Rok σ) (ls : Array Slot) (hl : lv_has ls 3 [(0, .ref (ad 0)), (1, .int x1)]) : W p l e rmX5_near s m args below meth c H locs 0 0 Q (F0 m 0 ls []) := by
  obtain ⟨hx, hb, hml, hown, hts⟩ := id C0
  refine lv_iload_n hx hb dX5_near_0 rfl (lv_at hl 1 rfl) ?_
  refine lv_bipush (v := (102 : Int32)) hx hb dX5_near_1 (by decide) ?_
  refine lv_icmp_eq (tgt := 34) hx hb dX5_near_3 (by decide) (fun c_9 => ?_) (fun c_9 => ?_)
  · have h := h.1 c_9
    exact tX5_near_J34 C0 hK K X σ x1 hret hthr h _ _ hY hR _ (lv_sub hl [0, 1] rfl)
  · have h := h.2 c_9
    refine lv_iload_n hx hb dX5_near_6 rfl (lv_at hl 1 rfl) ?_
    refine lv_bipush (v := (99 : Int32)) hx hb dX5_near_7 (by decide) ?_
    refine lv_icmp_eq (tgt := 34) hx hb dX5_near_9 (by decide) (fun c_10 => ?_) (fun c_10 => ?_)
    · have h := h.1 c_10
      exact tX5_near_J34 C0 hK K X σ x1 hret hthr h _ _ hY hR _ (lv_sub hl [0, 1] rfl)
    · have h := h.2 c_10
      refine lv_iload_n hx hb dX5_near_12 rfl (lv_at hl 1 rfl) ?_
      refine lv_bipush (v := (108 : Int32)) hx hb dX5_near_13 (by decide) ?_
      refine lv_icmp_eq (tgt := 34) hx hb dX5_near_15 (by decide) (fun c_11 => ?_) (fun c_11 => ?_)
      · have h := h.1 c_11
        exact tX5_near_J34 C0 hK K X σ x1 hret hthr h _ _ hY hR _ (lv_sub hl [0, 1] rfl)
      · have h := h.2 c_11
        refine lv_iload_n hx hb dX5_near_18 rfl (lv_at hl 1 rfl) ?_
        refine lv_bipush (v := (104 : Int32)) hx hb dX5_near_19 (by decide) ?_
        refine lv_icmp_eq (tgt := 34) hx hb dX5_near_21 (by decide) (fun c_12 => ?_) (fun c_12 => ?_)
        · have h := h.1 c_12
          exact tX5_near_J34 C0 hK K X σ x1 hret hthr h _ _ hY hR _ (lv_sub hl [0, 1] rfl)
        · have h := h.2 c_12
          exact hthr "java/lang/IllegalArgumentException" "no way to be near" 53 154 57 24 _ _ _ _ _ h hY hR (hl.1.trans hml.symm) ⟨(hts _ kX5_near_7), (hts _ kX5_near_8), fun w hw => hts w (kX5_near_at57 w hw), by decide +kernel, by decide +kernel, dX5_near_24, dX5_near_27, dX5_near_28, dX5_near_30, dX5_near_33⟩
set_option maxHeartbeats 4000000 in
set_option maxRecDepth 100000 in
theorem mX5_near (l : Launch) (hlt : l.stackTraces = false) (D : va_G) (ad : Nat → Nat) (ci : Nat → ClassId) (A : Nat → Prop) (σ : St) (x1 : Int32) (K : Int32 → St → Prop) (X : String → St → Prop) (hR : Rok σ) (h : wX5_near σ x1 K X) : vx_Met l yX5_near wsX5_near rmX5_near (va_Pc [.ref (ad 0), .int x1] (PreX D 132 ad A (tyC ci) (obC ad ci σ))) (va_Qi (fun r u => K r u) (PostW D 132 ad (tyC ci) (obC ad ci) Rok) A) (PostX D 132 ad (obC ad ci) Rok X A) 1 6 A := by
  refine vx_ofW (cc := cX5_near) (maxL := 3) (ret := (some .int)) (by decide) rfl ?_
  intro p e s m args below meth c s₁ B hml ht hv
  obtain ⟨rfl, ⟨hP, hK, hD⟩, hE⟩ := hv
  have C0 : CallFix p m c cX5_near 3 s _ wsX5_near RX5 := ⟨B.exec, B.bytes, hml, findClass_of_methodNamed B.named, atoms_spec (ws := wsX5_near) B.pre⟩
  have hlocks := B.notSynchronized
  have hY : Sy D 132 ad A s.heap (obC ad ci σ) s.heap [] := ⟨hP, hD, va_S.rf⟩
  have hl := lv_entry ([.ref (ad 0), .int x1]) (n := 3) (Nat.le_of_ble_eq_true rfl)
  rw [lg_entry_eq]
  generalize (lg_sl ([.ref (ad 0), .int x1]) ++ List.replicate (3 - (lg_sl ([.ref (ad 0), .int x1])).length) Slot.unset).toArray = ls at hl ⊢
  exact eX5_near C0 hK K X σ (fun r u H locs pc ls hk hY hR hd => vx_ret (W.widen (Nat.zero_le _) (Nat.zero_le _) (w_iret (I := Rok) B.exec B.bytes B.returns hlocks hK hk (fun t ht => ht) hY hR hd))) (fun E text ik is ic pc av u H locs ls hx hY hR hsz hT => w_throw (I := Rok) B.exec B.bytes hlt (findClass_of_methodNamed B.named) hT hE ht hsz (Nat.lt_of_lt_of_le (by decide) (Nat.le_refl _)) (Nat.le_of_ble_eq_true rfl) (Nat.le_of_ble_eq_true rfl) (Nat.le_of_ble_eq_true rfl) hlocks hx hY hR) x1 h _ _ hY hR ls hl
set_option maxHeartbeats 4000000 in
set_option maxRecDepth 100000 in
theorem eX5_begunAt (C0 : CallFix p m c cX5_begunAt 3 s args wsX5_begunAt RX5) (hK : Kx D (tyC ci) s) (K : Int32 → St → Prop) (X : String → St → Prop) (σ : St) (hret : ∀ (r : Int32) (u : St) (H : Heap) (locs : List Loc) (pc : Nat) (ls : Array Slot), K r u → Sy D 132 ad A H0 (obC ad ci u) H locs → Rok u → decode cX5_begunAt pc = .ok (.ireturn, 1) → W p l e rmX5_begunAt s m args below meth c H locs 0 0 Q (F0 m pc ls [.int r])) (hthr : ∀ (E text : String) (ik is ic pc : Nat) (av : List Cond) (u : St) (H : Heap) (locs : List Loc) (ls : Array Slot), X E u → Sy D 132 ad A H0 (obC ad ci u) H locs → Rok u → ls.size = c.maxLocals → TSite cX5_begunAt s args E text ik is ic pc av → W p l e rmX5_begunAt s m args below meth c H locs 0 0 Q (F0 m pc ls [])) (x1 : Int32) (h : wX5_begunAt σ x1 K X) (H : Heap) (locs : List Loc) (hY : Sy D 132 ad A H0 (obC ad ci σ) H locs) (hR : Rok σ) (ls : Array Slot) (hl : lv_has ls 3 [(0, .ref (ad 0)), (1, .int x1)]) : W p l e rmX5_begunAt s m args below meth c H locs 0 0 Q (F0 m 0 ls []) := by
  obtain ⟨hx, hb, hml, hown, hts⟩ := id C0
  refine lv_aload_n hx hb dX5_begunAt_0 rfl (lv_at hl 0 rfl) ?_
  refine w_get (o := 0) (ci := 5) (C := RX5) (T := TX5) (N1 := 6) (v := .ref (ad 5)) hx hb hts kX5_begunAt_inX5 hown hK.1 hY (by decide) obC_main rfl 2 (by decide) (hts _ kX5_begunAt_0) rfl rfl dX5_begunAt_1 ?_
  refine lv_aload_n hx hb dX5_begunAt_4 rfl (lv_at hl 0 rfl) ?_
  refine w_get (o := 0) (ci := 5) (C := RX5) (T := TX5) (N1 := 6) (v := .ref (ad 1)) hx hb hts kX5_begunAt_inX5 hown hK.1 hY (by decide) obC_main rfl 0 (by decide) (hts _ kX5_begunAt_2) rfl rfl dX5_begunAt_5 ?_
  refine lv_iload_n hx hb dX5_begunAt_8 rfl (lv_at hl 1 rfl) ?_
  refine w_callip (rest := []) (va_runV (As := [.ref (ad 1), .int x1]) (rest := []) C0 (mX4_rankBegun l D ad ci A σ 1 x1 _ hR (by decide) h) (cwV 2 hts gX5_begunAt_X4_rankBegun rfl rfl rfl ddX4_rankBegun ⟨Nat.le_of_ble_eq_true rfl, Nat.le_of_ble_eq_true rfl⟩) (w_preV (o := 5) (ci := 4) (ob := obC ad ci) (σ := σ) hK hY (by decide) obC_list rfl rfl) rfl rfl hl.1 rfl (lv_room (Nat.le_of_ble_eq_true rfl)) dX5_begunAt_9 ⟨Nat.zero_le _, Nat.zero_le _⟩) hY (fun r_1 H locs h hY => ?_)
  refine lv_istore_n (lv' := [(2, .int r_1), (0, .ref (ad 0)), (1, .int x1)]) hx hb dX5_begunAt_12 rfl hl (by decide) rfl (fun ls hl => ?_)
  refine lv_iload_n hx hb dX5_begunAt_13 rfl (lv_at hl 0 rfl) ?_
  refine lv_iconst (v := (-1 : Int32)) hx hb dX5_begunAt_14 (by decide) ?_
  refine lv_icmp_ne (tgt := 28) hx hb dX5_begunAt_15 (by decide) (fun c_2 => ?_) (fun c_2 => ?_)
  · have h := h.2 c_2
    refine lv_aload_n hx hb dX5_begunAt_28 rfl (lv_at hl 1 rfl) ?_
    refine w_get (o := 0) (ci := 5) (C := RX5) (T := TX5) (N1 := 6) (v := .ref (ad 1)) hx hb hts kX5_begunAt_inX5 hown hK.1 hY (by decide) obC_main rfl 0 (by decide) (hts _ kX5_begunAt_2) rfl rfl dX5_begunAt_29 ?_
    refine lv_aload_n hx hb dX5_begunAt_32 rfl (lv_at hl 1 rfl) ?_
    refine w_get (o := 0) (ci := 5) (C := RX5) (T := TX5) (N1 := 6) (v := .ref (ad 5)) hx hb hts kX5_begunAt_inX5 hown hK.1 hY (by decide) obC_main rfl 2 (by decide) (hts _ kX5_begunAt_0) rfl rfl dX5_begunAt_33 ?_
    refine lv_iload_n hx hb dX5_begunAt_36 rfl (lv_at hl 0 rfl) ?_
    refine w_callrp (rest := [.ref (ad 1)]) (va_runV (As := [.int r_1]) (rest := [.ref (ad 1)]) C0 (mX4_rowAt l D ad ci A σ r_1 _ hR  h) (cwV 1 hts gX5_begunAt_X4_rowAt rfl rfl rfl ddX4_rowAt ⟨Nat.le_of_ble_eq_true rfl, Nat.le_of_ble_eq_true rfl⟩) (w_preV (o := 5) (ci := 4) (ob := obC ad ci) (σ := σ) hK hY (by decide) obC_list rfl rfl) rfl rfl hl.1 rfl (lv_room (Nat.le_of_ble_eq_true rfl)) dX5_begunAt_37 ⟨Nat.zero_le _, Nat.zero_le _⟩) hY (fun r_3 H locs h hY => ?_)
    obtain ⟨rr_3, h⟩ := h
    refine w_callv (rest := []) (va_runV (As := [.ref (ad r_3)]) (rest := []) C0 (mX2_become l D ad ci A σ 1 r_3 _ hR (by decide) rr_3 h) (cwV 1 hts gX5_begunAt_X2_become rfl rfl rfl ddX2_become ⟨Nat.le_of_ble_eq_true rfl, Nat.le_of_ble_eq_true rfl⟩) (w_preV (o := 1) (ci := 2) (ob := obC ad ci) (σ := σ) hK hY (rowB_lt (by decide)) (obC_row (by decide)) rfl rfl) rfl rfl hl.1 rfl (lv_room (Nat.le_of_ble_eq_true rfl)) dX5_begunAt_40 ⟨Nat.zero_le _, Nat.zero_le _⟩) hY (fun σ_5 H locs h hY hR_σ_5 => ?_)
    refine lv_aload_n hx hb dX5_begunAt_43 rfl (lv_at hl 1 rfl) ?_
    refine w_get (o := 0) (ci := 5) (C := RX5) (T := TX5) (N1 := 6) (v := .ref (ad 5)) hx hb hts kX5_begunAt_inX5 hown hK.1 hY (by decide) obC_main rfl 2 (by decide) (hts _ kX5_begunAt_0) rfl rfl dX5_begunAt_44 ?_
    refine lv_iload_n hx hb dX5_begunAt_47 rfl (lv_at hl 0 rfl) ?_
    refine w_callip (rest := []) (va_runV (As := [.int r_1]) (rest := []) C0 (mX4_numberAt l D ad ci A σ_5 r_1 _ hR_σ_5  h) (cwV 1 hts gX5_begunAt_X4_numberAt rfl rfl rfl ddX4_numberAt ⟨Nat.le_of_ble_eq_true rfl, Nat.le_of_ble_eq_true rfl⟩) (w_preV (o := 5) (ci := 4) (ob := obC ad ci) (σ := σ_5) hK hY (by decide) obC_list rfl rfl) rfl rfl hl.1 rfl (lv_room (Nat.le_of_ble_eq_true rfl)) dX5_begunAt_48 ⟨Nat.zero_le _, Nat.zero_le _⟩) hY (fun r_6 H locs h hY => ?_)
    exact hret r_6 σ_5 _ _ _ _ h hY hR_σ_5 dX5_begunAt_51
  · have h := h.1 c_2
    exact hthr "java/util/NoSuchElementException" "no such word" 91 160 95 18 _ _ _ _ _ h hY hR (hl.1.trans hml.symm) ⟨(hts _ kX5_begunAt_4), (hts _ kX5_begunAt_5), fun w hw => hts w (kX5_begunAt_at95 w hw), by decide +kernel, by decide +kernel, dX5_begunAt_18, dX5_begunAt_21, dX5_begunAt_22, dX5_begunAt_24, dX5_begunAt_27⟩
set_option maxHeartbeats 4000000 in
set_option maxRecDepth 100000 in
theorem mX5_begunAt (l : Launch) (hlt : l.stackTraces = false) (D : va_G) (ad : Nat → Nat) (ci : Nat → ClassId) (A : Nat → Prop) (σ : St) (x1 : Int32) (K : Int32 → St → Prop) (X : String → St → Prop) (hR : Rok σ) (h : wX5_begunAt σ x1 K X) : vx_Met l yX5_begunAt wsX5_begunAt rmX5_begunAt (va_Pc [.ref (ad 0), .int x1] (PreX D 132 ad A (tyC ci) (obC ad ci σ))) (va_Qi (fun r u => K r u) (PostW D 132 ad (tyC ci) (obC ad ci) Rok) A) (PostX D 132 ad (obC ad ci) Rok X A) 1 6 A := by
  refine vx_ofW (cc := cX5_begunAt) (maxL := 3) (ret := (some .int)) (by decide) rfl ?_
  intro p e s m args below meth c s₁ B hml ht hv
  obtain ⟨rfl, ⟨hP, hK, hD⟩, hE⟩ := hv
  have C0 : CallFix p m c cX5_begunAt 3 s _ wsX5_begunAt RX5 := ⟨B.exec, B.bytes, hml, findClass_of_methodNamed B.named, atoms_spec (ws := wsX5_begunAt) B.pre⟩
  have hlocks := B.notSynchronized
  have hY : Sy D 132 ad A s.heap (obC ad ci σ) s.heap [] := ⟨hP, hD, va_S.rf⟩
  have hl := lv_entry ([.ref (ad 0), .int x1]) (n := 3) (Nat.le_of_ble_eq_true rfl)
  rw [lg_entry_eq]
  generalize (lg_sl ([.ref (ad 0), .int x1]) ++ List.replicate (3 - (lg_sl ([.ref (ad 0), .int x1])).length) Slot.unset).toArray = ls at hl ⊢
  exact eX5_begunAt C0 hK K X σ (fun r u H locs pc ls hk hY hR hd => vx_ret (W.widen (Nat.zero_le _) (Nat.zero_le _) (w_iret (I := Rok) B.exec B.bytes B.returns hlocks hK hk (fun t ht => ht) hY hR hd))) (fun E text ik is ic pc av u H locs ls hx hY hR hsz hT => w_throw (I := Rok) B.exec B.bytes hlt (findClass_of_methodNamed B.named) hT hE ht hsz (Nat.lt_of_lt_of_le (by decide) (Nat.le_refl _)) (Nat.le_of_ble_eq_true rfl) (Nat.le_of_ble_eq_true rfl) (Nat.le_of_ble_eq_true rfl) hlocks hx hY hR) x1 h _ _ hY hR ls hl
set_option maxHeartbeats 4000000 in
set_option maxRecDepth 100000 in
theorem eX5_longest (C0 : CallFix p m c cX5_longest 2 s args wsX5_longest RX5) (hK : Kx D (tyC ci) s) (K : Int32 → St → Prop) (X : String → St → Prop) (σ : St) (hret : ∀ (r : Int32) (u : St) (H : Heap) (locs : List Loc) (pc : Nat) (ls : Array Slot), K r u → Sy D 132 ad A H0 (obC ad ci u) H locs → Rok u → decode cX5_longest pc = .ok (.ireturn, 1) → W p l e rmX5_longest s m args below meth c H locs 0 0 Q (F0 m pc ls [.int r])) (hthr : ∀ (E text : String) (ik is ic pc : Nat) (av : List Cond) (u : St) (H : Heap) (locs : List Loc) (ls : Array Slot), X E u → Sy D 132 ad A H0 (obC ad ci u) H locs → Rok u → ls.size = c.maxLocals → TSite cX5_longest s args E text ik is ic pc av → W p l e rmX5_longest s m args below meth c H locs 0 0 Q (F0 m pc ls [])) (x1 : Int32) (h : wX5_longest σ x1 K X) (H : Heap) (locs : List Loc) (hY : Sy D 132 ad A H0 (obC ad ci σ) H locs) (hR : Rok σ) (ls : Array Slot) (hl : lv_has ls 2 [(0, .ref (ad 0)), (1, .int x1)]) : W p l e rmX5_longest s m args below meth c H locs 0 0 Q (F0 m 0 ls []) := by
  obtain ⟨hx, hb, hml, hown, hts⟩ := id C0
  refine lv_iload_n hx hb dX5_longest_0 rfl (lv_at hl 1 rfl) ?_
  refine lv_if_lt (tgt := 15) hx hb dX5_longest_1 (by decide) (fun c_1 => ?_) (fun c_1 => ?_)
  · have h := h.1 c_1
    exact hthr "java/lang/IndexOutOfBoundsException" "no such place" 82 84 86 15 _ _ _ _ _ h hY hR (hl.1.trans hml.symm) ⟨(hts _ kX5_longest_1), (hts _ kX5_longest_2), fun w hw => hts w (kX5_longest_at86 w hw), by decide +kernel, by decide +kernel, dX5_longest_15, dX5_longest_18, dX5_longest_19, dX5_longest_21, dX5_longest_24⟩
  · have h := h.2 c_1
    refine lv_iload_n hx hb dX5_longest_4 rfl (lv_at hl 1 rfl) ?_
    refine lv_aload_n hx hb dX5_longest_5 rfl (lv_at hl 0 rfl) ?_
    refine w_get (o := 0) (ci := 5) (C := RX5) (T := TX5) (N1 := 6) (v := .ref (ad 1)) hx hb hts kX5_longest_inX5 hown hK.1 hY (by decide) obC_main rfl 0 (by decide) (hts _ kX5_longest_3) rfl rfl dX5_longest_6 ?_
    refine w_callip (rest := [.int x1]) (va_runV (As := []) (rest := [.int x1]) C0 (mX2_size l D ad ci A σ 1 _ hR (by decide) h) (cwV 0 hts gX5_longest_X2_size rfl rfl rfl ddX2_size ⟨Nat.le_of_ble_eq_true rfl, Nat.le_of_ble_eq_true rfl⟩) (w_preV (o := 1) (ci := 2) (ob := obC ad ci) (σ := σ) hK hY (rowB_lt (by decide)) (obC_row (by decide)) rfl rfl) rfl rfl hl.1 rfl (lv_room (Nat.le_of_ble_eq_true rfl)) dX5_longest_9 ⟨Nat.zero_le _, Nat.zero_le _⟩) hY (fun r_2 H locs h hY => ?_)
    refine lv_icmp_le (tgt := 25) hx hb dX5_longest_12 (by decide) (fun c_3 => ?_) (fun c_3 => ?_)
    · have h := h.1 c_3
      refine lv_aload_n hx hb dX5_longest_25 rfl (lv_at hl 0 rfl) ?_
      refine w_get (o := 0) (ci := 5) (C := RX5) (T := TX5) (N1 := 6) (v := .ref (ad 5)) hx hb hts kX5_longest_inX5 hown hK.1 hY (by decide) obC_main rfl 2 (by decide) (hts _ kX5_longest_5) rfl rfl dX5_longest_26 ?_
      refine lv_aload_n hx hb dX5_longest_29 rfl (lv_at hl 0 rfl) ?_
      refine w_get (o := 0) (ci := 5) (C := RX5) (T := TX5) (N1 := 6) (v := .ref (ad 1)) hx hb hts kX5_longest_inX5 hown hK.1 hY (by decide) obC_main rfl 0 (by decide) (hts _ kX5_longest_3) rfl rfl dX5_longest_30 ?_
      refine lv_iload_n hx hb dX5_longest_33 rfl (lv_at hl 1 rfl) ?_
      refine w_callip (rest := []) (va_runV (As := [.ref (ad 1), .int x1]) (rest := []) C0 (mX4_longestAt l D ad ci A σ 1 x1 _ hR (by decide) h) (cwV 2 hts gX5_longest_X4_longestAt rfl rfl rfl ddX4_longestAt ⟨Nat.le_of_ble_eq_true rfl, Nat.le_of_ble_eq_true rfl⟩) (w_preV (o := 5) (ci := 4) (ob := obC ad ci) (σ := σ) hK hY (by decide) obC_list rfl rfl) rfl rfl hl.1 rfl (lv_room (Nat.le_of_ble_eq_true rfl)) dX5_longest_34 ⟨Nat.zero_le _, Nat.zero_le _⟩) hY (fun r_4 H locs h hY => ?_)
      exact hret r_4 σ _ _ _ _ h hY hR dX5_longest_37
    · have h := h.2 c_3
      exact hthr "java/lang/IndexOutOfBoundsException" "no such place" 82 84 86 15 _ _ _ _ _ h hY hR (hl.1.trans hml.symm) ⟨(hts _ kX5_longest_1), (hts _ kX5_longest_2), fun w hw => hts w (kX5_longest_at86 w hw), by decide +kernel, by decide +kernel, dX5_longest_15, dX5_longest_18, dX5_longest_19, dX5_longest_21, dX5_longest_24⟩
set_option maxHeartbeats 4000000 in
set_option maxRecDepth 100000 in
theorem mX5_longest (l : Launch) (hlt : l.stackTraces = false) (D : va_G) (ad : Nat → Nat) (ci : Nat → ClassId) (A : Nat → Prop) (σ : St) (x1 : Int32) (K : Int32 → St → Prop) (X : String → St → Prop) (hR : Rok σ) (h : wX5_longest σ x1 K X) : vx_Met l yX5_longest wsX5_longest rmX5_longest (va_Pc [.ref (ad 0), .int x1] (PreX D 132 ad A (tyC ci) (obC ad ci σ))) (va_Qi (fun r u => K r u) (PostW D 132 ad (tyC ci) (obC ad ci) Rok) A) (PostX D 132 ad (obC ad ci) Rok X A) 1 6 A := by
  refine vx_ofW (cc := cX5_longest) (maxL := 2) (ret := (some .int)) (by decide) rfl ?_
  intro p e s m args below meth c s₁ B hml ht hv
  obtain ⟨rfl, ⟨hP, hK, hD⟩, hE⟩ := hv
  have C0 : CallFix p m c cX5_longest 2 s _ wsX5_longest RX5 := ⟨B.exec, B.bytes, hml, findClass_of_methodNamed B.named, atoms_spec (ws := wsX5_longest) B.pre⟩
  have hlocks := B.notSynchronized
  have hY : Sy D 132 ad A s.heap (obC ad ci σ) s.heap [] := ⟨hP, hD, va_S.rf⟩
  have hl := lv_entry ([.ref (ad 0), .int x1]) (n := 2) (Nat.le_of_ble_eq_true rfl)
  rw [lg_entry_eq]
  generalize (lg_sl ([.ref (ad 0), .int x1]) ++ List.replicate (2 - (lg_sl ([.ref (ad 0), .int x1])).length) Slot.unset).toArray = ls at hl ⊢
  exact eX5_longest C0 hK K X σ (fun r u H locs pc ls hk hY hR hd => vx_ret (W.widen (Nat.zero_le _) (Nat.zero_le _) (w_iret (I := Rok) B.exec B.bytes B.returns hlocks hK hk (fun t ht => ht) hY hR hd))) (fun E text ik is ic pc av u H locs ls hx hY hR hsz hT => w_throw (I := Rok) B.exec B.bytes hlt (findClass_of_methodNamed B.named) hT hE ht hsz (Nat.lt_of_lt_of_le (by decide) (Nat.le_refl _)) (Nat.le_of_ble_eq_true rfl) (Nat.le_of_ble_eq_true rfl) (Nat.le_of_ble_eq_true rfl) hlocks hx hY hR) x1 h _ _ hY hR ls hl
set_option maxHeartbeats 4000000 in
set_option maxRecDepth 100000 in
theorem eX5_twin (C0 : CallFix p m c cX5_twin 1 s args wsX5_twin RX5) (hK : Kx D (tyC ci) s) (K : Int32 → St → Prop) (X : String → St → Prop) (σ : St) (hret : ∀ (r : Int32) (u : St) (H : Heap) (locs : List Loc) (pc : Nat) (ls : Array Slot), K r u → Sy D 132 ad A H0 (obC ad ci u) H locs → Rok u → decode cX5_twin pc = .ok (.ireturn, 1) → W p l e rmX5_twin s m args below meth c H locs 0 0 Q (F0 m pc ls [.int r])) (hthr : ∀ (E text : String) (ik is ic pc : Nat) (av : List Cond) (u : St) (H : Heap) (locs : List Loc) (ls : Array Slot), X E u → Sy D 132 ad A H0 (obC ad ci u) H locs → Rok u → ls.size = c.maxLocals → TSite cX5_twin s args E text ik is ic pc av → W p l e rmX5_twin s m args below meth c H locs 0 0 Q (F0 m pc ls [])) (h : wX5_twin σ K X) (H : Heap) (locs : List Loc) (hY : Sy D 132 ad A H0 (obC ad ci σ) H locs) (hR : Rok σ) (ls : Array Slot) (hl : lv_has ls 1 [(0, .ref (ad 0))]) : W p l e rmX5_twin s m args below meth c H locs 0 0 Q (F0 m 0 ls []) := by
  obtain ⟨hx, hb, hml, hown, hts⟩ := id C0
  refine lv_aload_n hx hb dX5_twin_0 rfl (lv_at hl 0 rfl) ?_
  refine w_get (o := 0) (ci := 5) (C := RX5) (T := TX5) (N1 := 6) (v := .ref (ad 5)) hx hb hts kX5_twin_inX5 hown hK.1 hY (by decide) obC_main rfl 2 (by decide) (hts _ kX5_twin_0) rfl rfl dX5_twin_1 ?_
  refine w_callip (rest := []) (va_runV (As := []) (rest := []) C0 (mX4_size l D ad ci A σ _ hR  h) (cwV 0 hts gX5_twin_X4_size rfl rfl rfl ddX4_size ⟨Nat.le_of_ble_eq_true rfl, Nat.le_of_ble_eq_true rfl⟩) (w_preV (o := 5) (ci := 4) (ob := obC ad ci) (σ := σ) hK hY (by decide) obC_list rfl rfl) rfl rfl hl.1 rfl (lv_room (Nat.le_of_ble_eq_true rfl)) dX5_twin_4 ⟨Nat.zero_le _, Nat.zero_le _⟩) hY (fun r_1 H locs h hY => ?_)
  refine lv_iconst (v := (2 : Int32)) hx hb dX5_twin_7 (by decide) ?_
  refine lv_icmp_ge (tgt := 21) hx hb dX5_twin_8 (by decide) (fun c_2 => ?_) (fun c_2 => ?_)
  · have h := h.1 c_2
    refine lv_aload_n hx hb dX5_twin_21 rfl (lv_at hl 0 rfl) ?_
    refine w_get (o := 0) (ci := 5) (C := RX5) (T := TX5) (N1 := 6) (v := .ref (ad 5)) hx hb hts kX5_twin_inX5 hown hK.1 hY (by decide) obC_main rfl 2 (by decide) (hts _ kX5_twin_0) rfl rfl dX5_twin_22 ?_
    refine w_callip (rest := []) (va_runV (As := []) (rest := []) C0 (mX4_mostCommonOfTwo l D ad ci A σ _ hR  h) (cwV 0 hts gX5_twin_X4_mostCommonOfTwo rfl rfl rfl ddX4_mostCommonOfTwo ⟨Nat.le_of_ble_eq_true rfl, Nat.le_of_ble_eq_true rfl⟩) (w_preV (o := 5) (ci := 4) (ob := obC ad ci) (σ := σ) hK hY (by decide) obC_list rfl rfl) rfl rfl hl.1 rfl (lv_room (Nat.le_of_ble_eq_true rfl)) dX5_twin_25 ⟨Nat.zero_le _, Nat.zero_le _⟩) hY (fun r_3 H locs h hY => ?_)
    exact hret r_3 σ _ _ _ _ h hY hR dX5_twin_28
  · have h := h.2 c_2
    exact hthr "java/util/NoSuchElementException" "fewer than two words" 91 181 95 11 _ _ _ _ _ h hY hR (hl.1.trans hml.symm) ⟨(hts _ kX5_twin_3), (hts _ kX5_twin_4), fun w hw => hts w (kX5_twin_at95 w hw), by decide +kernel, by decide +kernel, dX5_twin_11, dX5_twin_14, dX5_twin_15, dX5_twin_17, dX5_twin_20⟩
set_option maxHeartbeats 4000000 in
set_option maxRecDepth 100000 in
theorem mX5_twin (l : Launch) (hlt : l.stackTraces = false) (D : va_G) (ad : Nat → Nat) (ci : Nat → ClassId) (A : Nat → Prop) (σ : St) (K : Int32 → St → Prop) (X : String → St → Prop) (hR : Rok σ) (h : wX5_twin σ K X) : vx_Met l yX5_twin wsX5_twin rmX5_twin (va_Pc [.ref (ad 0)] (PreX D 132 ad A (tyC ci) (obC ad ci σ))) (va_Qi (fun r u => K r u) (PostW D 132 ad (tyC ci) (obC ad ci) Rok) A) (PostX D 132 ad (obC ad ci) Rok X A) 1 6 A := by
  refine vx_ofW (cc := cX5_twin) (maxL := 1) (ret := (some .int)) (by decide) rfl ?_
  intro p e s m args below meth c s₁ B hml ht hv
  obtain ⟨rfl, ⟨hP, hK, hD⟩, hE⟩ := hv
  have C0 : CallFix p m c cX5_twin 1 s _ wsX5_twin RX5 := ⟨B.exec, B.bytes, hml, findClass_of_methodNamed B.named, atoms_spec (ws := wsX5_twin) B.pre⟩
  have hlocks := B.notSynchronized
  have hY : Sy D 132 ad A s.heap (obC ad ci σ) s.heap [] := ⟨hP, hD, va_S.rf⟩
  have hl := lv_entry ([.ref (ad 0)]) (n := 1) (Nat.le_of_ble_eq_true rfl)
  rw [lg_entry_eq]
  generalize (lg_sl ([.ref (ad 0)]) ++ List.replicate (1 - (lg_sl ([.ref (ad 0)])).length) Slot.unset).toArray = ls at hl ⊢
  exact eX5_twin C0 hK K X σ (fun r u H locs pc ls hk hY hR hd => vx_ret (W.widen (Nat.zero_le _) (Nat.zero_le _) (w_iret (I := Rok) B.exec B.bytes B.returns hlocks hK hk (fun t ht => ht) hY hR hd))) (fun E text ik is ic pc av u H locs ls hx hY hR hsz hT => w_throw (I := Rok) B.exec B.bytes hlt (findClass_of_methodNamed B.named) hT hE ht hsz (Nat.lt_of_lt_of_le (by decide) (Nat.le_refl _)) (Nat.le_of_ble_eq_true rfl) (Nat.le_of_ble_eq_true rfl) (Nat.le_of_ble_eq_true rfl) hlocks hx hY hR) h _ _ hY hR ls hl
set_option maxHeartbeats 4000000 in
set_option maxRecDepth 100000 in
theorem eX5_piece (C0 : CallFix p m c cX5_piece 3 s args wsX5_piece RX5) (hK : Kx D (tyC ci) s) (K : Int32 → St → Prop) (X : String → St → Prop) (σ : St) (hret : ∀ (r : Int32) (u : St) (H : Heap) (locs : List Loc) (pc : Nat) (ls : Array Slot), K r u → Sy D 132 ad A H0 (obC ad ci u) H locs → Rok u → decode cX5_piece pc = .ok (.ireturn, 1) → W p l e rmX5_piece s m args below meth c H locs 0 0 Q (F0 m pc ls [.int r])) (hthr : ∀ (E text : String) (ik is ic pc : Nat) (av : List Cond) (u : St) (H : Heap) (locs : List Loc) (ls : Array Slot), X E u → Sy D 132 ad A H0 (obC ad ci u) H locs → Rok u → ls.size = c.maxLocals → TSite cX5_piece s args E text ik is ic pc av → W p l e rmX5_piece s m args below meth c H locs 0 0 Q (F0 m pc ls [])) (x1 : Int32) (h : wX5_piece σ x1 K X) (H : Heap) (locs : List Loc) (hY : Sy D 132 ad A H0 (obC ad ci σ) H locs) (hR : Rok σ) (ls : Array Slot) (hl : lv_has ls 3 [(0, .ref (ad 0)), (1, .int x1)]) : W p l e rmX5_piece s m args below meth c H locs 0 0 Q (F0 m 0 ls []) := by
  obtain ⟨hx, hb, hml, hown, hts⟩ := id C0
  refine lv_aload_n hx hb dX5_piece_0 rfl (lv_at hl 0 rfl) ?_
  refine w_get (o := 0) (ci := 5) (C := RX5) (T := TX5) (N1 := 6) (v := .ref (ad 123)) hx hb hts kX5_piece_inX5 hown hK.1 hY (by decide) obC_main rfl 4 (by decide) (hts _ kX5_piece_0) rfl rfl dX5_piece_1 ?_
  refine lv_aload_n hx hb dX5_piece_4 rfl (lv_at hl 0 rfl) ?_
  refine w_get (o := 0) (ci := 5) (C := RX5) (T := TX5) (N1 := 6) (v := .ref (ad 1)) hx hb hts kX5_piece_inX5 hown hK.1 hY (by decide) obC_main rfl 0 (by decide) (hts _ kX5_piece_2) rfl rfl dX5_piece_5 ?_
  refine lv_aload_n hx hb dX5_piece_8 rfl (lv_at hl 0 rfl) ?_
  refine w_get (o := 0) (ci := 5) (C := RX5) (T := TX5) (N1 := 6) (v := .ref (ad 5)) hx hb hts kX5_piece_inX5 hown hK.1 hY (by decide) obC_main rfl 2 (by decide) (hts _ kX5_piece_3) rfl rfl dX5_piece_9 ?_
  refine w_callv (rest := []) (va_runV (As := [.ref (ad 1), .ref (ad 5)]) (rest := []) C0 (mX1_look l D ad ci A σ 1 _ hR (by decide) h) (cwV 2 hts gX5_piece_X1_look rfl rfl rfl ddX1_look ⟨Nat.le_of_ble_eq_true rfl, Nat.le_of_ble_eq_true rfl⟩) (w_preV (o := 123) (ci := 1) (ob := obC ad ci) (σ := σ) hK hY (by decide) obC_cut rfl rfl) rfl rfl hl.1 rfl (lv_room (Nat.le_of_ble_eq_true rfl)) dX5_piece_12 ⟨Nat.zero_le _, Nat.zero_le _⟩) hY (fun σ_2 H locs h hY hR_σ_2 => ?_)
  refine lv_aload_n hx hb dX5_piece_15 rfl (lv_at hl 0 rfl) ?_
  refine w_get (o := 0) (ci := 5) (C := RX5) (T := TX5) (N1 := 6) (v := .ref (ad 123)) hx hb hts kX5_piece_inX5 hown hK.1 hY (by decide) obC_main rfl 4 (by decide) (hts _ kX5_piece_0) rfl rfl dX5_piece_16 ?_
  refine lv_iload_n hx hb dX5_piece_19 rfl (lv_at hl 1 rfl) ?_
  refine w_callip (rest := []) (va_runV (As := [.int x1]) (rest := []) C0 (mX1_sizeOfLongest l D ad ci A σ_2 x1 _ hR_σ_2  h) (cwV 1 hts gX5_piece_X1_sizeOfLongest rfl rfl rfl ddX1_sizeOfLongest ⟨Nat.le_of_ble_eq_true rfl, Nat.le_of_ble_eq_true rfl⟩) (w_preV (o := 123) (ci := 1) (ob := obC ad ci) (σ := σ_2) hK hY (by decide) obC_cut rfl rfl) rfl rfl hl.1 rfl (lv_room (Nat.le_of_ble_eq_true rfl)) dX5_piece_20 ⟨Nat.zero_le _, Nat.zero_le _⟩) hY (fun r_3 H locs h hY => ?_)
  refine lv_istore_n (lv' := [(2, .int r_3), (0, .ref (ad 0)), (1, .int x1)]) hx hb dX5_piece_23 rfl hl (by decide) rfl (fun ls hl => ?_)
  refine lv_iload_n hx hb dX5_piece_24 rfl (lv_at hl 0 rfl) ?_
  refine lv_if_ne (tgt := 38) hx hb dX5_piece_25 (by decide) (fun c_4 => ?_) (fun c_4 => ?_)
  · have h := h.2 c_4
    refine lv_iload_n hx hb dX5_piece_38 rfl (lv_at hl 0 rfl) ?_
    exact hret r_3 σ_2 _ _ _ _ h hY hR_σ_2 dX5_piece_39
  · have h := h.1 c_4
    exact hthr "java/util/NoSuchElementException" "no such piece" 91 196 95 28 _ _ _ _ _ h hY hR_σ_2 (hl.1.trans hml.symm) ⟨(hts _ kX5_piece_5), (hts _ kX5_piece_6), fun w hw => hts w (kX5_piece_at95 w hw), by decide +kernel, by decide +kernel, dX5_piece_28, dX5_piece_31, dX5_piece_32, dX5_piece_34, dX5_piece_37⟩
set_option maxHeartbeats 4000000 in
set_option maxRecDepth 100000 in
theorem mX5_piece (l : Launch) (hlt : l.stackTraces = false) (D : va_G) (ad : Nat → Nat) (ci : Nat → ClassId) (A : Nat → Prop) (σ : St) (x1 : Int32) (K : Int32 → St → Prop) (X : String → St → Prop) (hR : Rok σ) (h : wX5_piece σ x1 K X) : vx_Met l yX5_piece wsX5_piece rmX5_piece (va_Pc [.ref (ad 0), .int x1] (PreX D 132 ad A (tyC ci) (obC ad ci σ))) (va_Qi (fun r u => K r u) (PostW D 132 ad (tyC ci) (obC ad ci) Rok) A) (PostX D 132 ad (obC ad ci) Rok X A) 1 6 A := by
  refine vx_ofW (cc := cX5_piece) (maxL := 3) (ret := (some .int)) (by decide) rfl ?_
  intro p e s m args below meth c s₁ B hml ht hv
  obtain ⟨rfl, ⟨hP, hK, hD⟩, hE⟩ := hv
  have C0 : CallFix p m c cX5_piece 3 s _ wsX5_piece RX5 := ⟨B.exec, B.bytes, hml, findClass_of_methodNamed B.named, atoms_spec (ws := wsX5_piece) B.pre⟩
  have hlocks := B.notSynchronized
  have hY : Sy D 132 ad A s.heap (obC ad ci σ) s.heap [] := ⟨hP, hD, va_S.rf⟩
  have hl := lv_entry ([.ref (ad 0), .int x1]) (n := 3) (Nat.le_of_ble_eq_true rfl)
  rw [lg_entry_eq]
  generalize (lg_sl ([.ref (ad 0), .int x1]) ++ List.replicate (3 - (lg_sl ([.ref (ad 0), .int x1])).length) Slot.unset).toArray = ls at hl ⊢
  exact eX5_piece C0 hK K X σ (fun r u H locs pc ls hk hY hR hd => vx_ret (W.widen (Nat.zero_le _) (Nat.zero_le _) (w_iret (I := Rok) B.exec B.bytes B.returns hlocks hK hk (fun t ht => ht) hY hR hd))) (fun E text ik is ic pc av u H locs ls hx hY hR hsz hT => w_throw (I := Rok) B.exec B.bytes hlt (findClass_of_methodNamed B.named) hT hE ht hsz (Nat.lt_of_lt_of_le (by decide) (Nat.le_refl _)) (Nat.le_of_ble_eq_true rfl) (Nat.le_of_ble_eq_true rfl) (Nat.le_of_ble_eq_true rfl) hlocks hx hY hR) x1 h _ _ hY hR ls hl
set_option maxHeartbeats 4000000 in
set_option maxRecDepth 100000 in
theorem eX5_code (C0 : CallFix p m c cX5_code 4 s args wsX5_code RX5) (hK : Kx D (tyC ci) s) (K : Int32 → St → Prop) (X : String → St → Prop) (σ : St) (hret : ∀ (r : Int32) (u : St) (H : Heap) (locs : List Loc) (pc : Nat) (ls : Array Slot), K r u → Sy D 132 ad A H0 (obC ad ci u) H locs → Rok u → decode cX5_code pc = .ok (.ireturn, 1) → W p l e rmX5_code s m args below meth c H locs 0 0 Q (F0 m pc ls [.int r])) (hthr : ∀ (E text : String) (ik is ic pc : Nat) (av : List Cond) (u : St) (H : Heap) (locs : List Loc) (ls : Array Slot), X E u → Sy D 132 ad A H0 (obC ad ci u) H locs → Rok u → ls.size = c.maxLocals → TSite cX5_code s args E text ik is ic pc av → W p l e rmX5_code s m args below meth c H locs 0 0 Q (F0 m pc ls [])) (x1 : Int32) (h : wX5_code σ x1 K X) (H : Heap) (locs : List Loc) (hY : Sy D 132 ad A H0 (obC ad ci σ) H locs) (hR : Rok σ) (ls : Array Slot) (hl : lv_has ls 4 [(0, .ref (ad 0)), (1, .int x1)]) : W p l e rmX5_code s m args below meth c H locs 0 0 Q (F0 m 0 ls []) := by
  obtain ⟨hx, hb, hml, hown, hts⟩ := id C0
  refine lv_iload_n hx hb dX5_code_0 rfl (lv_at hl 1 rfl) ?_
  refine w_callip (rest := []) (va_runS (As := [.int x1]) (rest := []) C0 (mX5_isSign l D ad ci A σ x1 _ hR  h) (va_cwS 1 hts gX5_code_X5_isSign rfl rfl rfl ddX5_isSign ⟨Nat.le_of_ble_eq_true rfl, Nat.le_of_ble_eq_true rfl⟩) (w_preS (ob := obC ad ci) (σ := σ) hK hY) rfl rfl hl.1 rfl (lv_room (Nat.le_of_ble_eq_true rfl)) dX5_code_1 ⟨Nat.zero_le _, Nat.zero_le _⟩) hY (fun r_1 H locs h hY => ?_)
  obtain ⟨n_r_1, h⟩ := h
  refine lv_if_ne (tgt := 17) hx hb dX5_code_4 (by decide) (fun c_2 => ?_) (fun c_2 => ?_)
  · have h := h.2 c_2
    refine lv_aload_n hx hb dX5_code_17 rfl (lv_at hl 0 rfl) ?_
    refine w_get (o := 0) (ci := 5) (C := RX5) (T := TX5) (N1 := 6) (v := .ref (ad 1)) hx hb hts kX5_code_inX5 hown hK.1 hY (by decide) obC_main rfl 0 (by decide) (hts _ kX5_code_0) rfl rfl dX5_code_18 ?_
    refine w_callip (rest := []) (va_runV (As := []) (rest := []) C0 (mX2_size l D ad ci A σ 1 _ hR (by decide) h) (cwV 0 hts gX5_code_X2_size rfl rfl rfl ddX2_size ⟨Nat.le_of_ble_eq_true rfl, Nat.le_of_ble_eq_true rfl⟩) (w_preV (o := 1) (ci := 2) (ob := obC ad ci) (σ := σ) hK hY (rowB_lt (by decide)) (obC_row (by decide)) rfl rfl) rfl rfl hl.1 rfl (lv_room (Nat.le_of_ble_eq_true rfl)) dX5_code_21 ⟨Nat.zero_le _, Nat.zero_le _⟩) hY (fun r_3 H locs h hY => ?_)
    refine lv_if_eq (tgt := 38) hx hb dX5_code_24 (by decide) (fun c_4 => ?_) (fun c_4 => ?_)
    · have h := h.1 c_4
      exact hthr "java/lang/UnsupportedOperationException" "the text can be no code" 114 205 118 38 _ _ _ _ _ h hY hR (hl.1.trans hml.symm) ⟨(hts _ kX5_code_3), (hts _ kX5_code_4), fun w hw => hts w (kX5_code_at118 w hw), by decide +kernel, by decide +kernel, dX5_code_38, dX5_code_41, dX5_code_42, dX5_code_44, dX5_code_47⟩
    · have h := h.2 c_4
      refine lv_aload_n hx hb dX5_code_27 rfl (lv_at hl 0 rfl) ?_
      refine w_get (o := 0) (ci := 5) (C := RX5) (T := TX5) (N1 := 6) (v := .ref (ad 1)) hx hb hts kX5_code_inX5 hown hK.1 hY (by decide) obC_main rfl 0 (by decide) (hts _ kX5_code_0) rfl rfl dX5_code_28 ?_
      refine w_callip (rest := []) (va_runV (As := []) (rest := []) C0 (mX2_size l D ad ci A σ 1 _ hR (by decide) h) (cwV 0 hts gX5_code_X2_size rfl rfl rfl ddX2_size ⟨Nat.le_of_ble_eq_true rfl, Nat.le_of_ble_eq_true rfl⟩) (w_preV (o := 1) (ci := 2) (ob := obC ad ci) (σ := σ) hK hY (rowB_lt (by decide)) (obC_row (by decide)) rfl rfl) rfl rfl hl.1 rfl (lv_room (Nat.le_of_ble_eq_true rfl)) dX5_code_31 ⟨Nat.zero_le _, Nat.zero_le _⟩) hY (fun r_5 H locs h hY => ?_)
      refine lv_iconst (v := (3 : Int32)) hx hb dX5_code_34 (by decide) ?_
      refine lv_icmp_le (tgt := 48) hx hb dX5_code_35 (by decide) (fun c_6 => ?_) (fun c_6 => ?_)
      · have h := h.1 c_6
        refine lv_aload_n hx hb dX5_code_48 rfl (lv_at hl 0 rfl) ?_
        refine w_get (o := 0) (ci := 5) (C := RX5) (T := TX5) (N1 := 6) (v := .ref (ad 58)) hx hb hts kX5_code_inX5 hown hK.1 hY (by decide) obC_main rfl 3 (by decide) (hts _ kX5_code_5) rfl rfl dX5_code_49 ?_
        refine lv_iload_n hx hb dX5_code_52 rfl (lv_at hl 1 rfl) ?_
        refine w_callrp (rest := []) (va_runV (As := [.int x1]) (rest := []) C0 (mX0_codeOf l D ad ci A σ x1 _ hR  h) (cwV 1 hts gX5_code_X0_codeOf rfl rfl rfl ddX0_codeOf ⟨Nat.le_of_ble_eq_true rfl, Nat.le_of_ble_eq_true rfl⟩) (w_preV (o := 58) (ci := 0) (ob := obC ad ci) (σ := σ) hK hY (by decide) obC_book rfl rfl) rfl rfl hl.1 rfl (lv_room (Nat.le_of_ble_eq_true rfl)) dX5_code_53 ⟨Nat.zero_le _, Nat.zero_le _⟩) hY (fun r_7 H locs h hY => ?_)
        obtain ⟨rr_7, h⟩ := h
        refine lv_astore_n (lv' := [(2, .ref (ad r_7)), (0, .ref (ad 0)), (1, .int x1)]) hx hb dX5_code_56 rfl hl (by decide) rfl (fun ls hl => ?_)
        refine lv_aload_n hx hb dX5_code_57 rfl (lv_at hl 0 rfl) ?_
        refine w_callip (rest := []) (va_runV (As := []) (rest := []) C0 (mX2_size l D ad ci A σ r_7 _ hR rr_7 h) (cwV 0 hts gX5_code_X2_size rfl rfl rfl ddX2_size ⟨Nat.le_of_ble_eq_true rfl, Nat.le_of_ble_eq_true rfl⟩) (w_preV (o := r_7) (ci := 2) (ob := obC ad ci) (σ := σ) hK hY (rowB_lt rr_7) (obC_row rr_7) rfl rfl) rfl rfl hl.1 rfl (lv_room (Nat.le_of_ble_eq_true rfl)) dX5_code_58 ⟨Nat.zero_le _, Nat.zero_le _⟩) hY (fun r_8 H locs h hY => ?_)
        refine lv_istore_n (lv' := [(3, .int r_8), (2, .ref (ad r_7)), (0, .ref (ad 0)), (1, .int x1)]) hx hb dX5_code_61 rfl hl (by decide) rfl (fun ls hl => ?_)
        refine lv_aload_n hx hb dX5_code_62 rfl (lv_at hl 1 rfl) ?_
        refine lv_aload_n hx hb dX5_code_63 rfl (lv_at hl 2 rfl) ?_
        refine w_get (o := 0) (ci := 5) (C := RX5) (T := TX5) (N1 := 6) (v := .ref (ad 1)) hx hb hts kX5_code_inX5 hown hK.1 hY (by decide) obC_main rfl 0 (by decide) (hts _ kX5_code_0) rfl rfl dX5_code_64 ?_
        refine w_callv (rest := []) (va_runV (As := [.ref (ad 1)]) (rest := []) C0 (mX2_become l D ad ci A σ r_7 1 _ hR rr_7 (by decide) h) (cwV 1 hts gX5_code_X2_become rfl rfl rfl ddX2_become ⟨Nat.le_of_ble_eq_true rfl, Nat.le_of_ble_eq_true rfl⟩) (w_preV (o := r_7) (ci := 2) (ob := obC ad ci) (σ := σ) hK hY (rowB_lt rr_7) (obC_row rr_7) rfl rfl) rfl rfl hl.1 rfl (lv_room (Nat.le_of_ble_eq_true rfl)) dX5_code_67 ⟨Nat.zero_le _, Nat.zero_le _⟩) hY (fun σ_10 H locs h hY hR_σ_10 => ?_)
        refine lv_iload_n hx hb dX5_code_70 rfl (lv_at hl 0 rfl) ?_
        exact hret r_8 σ_10 _ _ _ _ h hY hR_σ_10 dX5_code_71
      · have h := h.2 c_6
        exact hthr "java/lang/UnsupportedOperationException" "the text can be no code" 114 205 118 38 _ _ _ _ _ h hY hR (hl.1.trans hml.symm) ⟨(hts _ kX5_code_3), (hts _ kX5_code_4), fun w hw => hts w (kX5_code_at118 w hw), by decide +kernel, by decide +kernel, dX5_code_38, dX5_code_41, dX5_code_42, dX5_code_44, dX5_code_47⟩
  · have h := h.1 c_2
    exact hthr "java/lang/IllegalArgumentException" "no sign" 53 55 57 7 _ _ _ _ _ h hY hR (hl.1.trans hml.symm) ⟨(hts _ kX5_code_7), (hts _ kX5_code_8), fun w hw => hts w (kX5_code_at57 w hw), by decide +kernel, by decide +kernel, dX5_code_7, dX5_code_10, dX5_code_11, dX5_code_13, dX5_code_16⟩
set_option maxHeartbeats 4000000 in
set_option maxRecDepth 100000 in
theorem mX5_code (l : Launch) (hlt : l.stackTraces = false) (D : va_G) (ad : Nat → Nat) (ci : Nat → ClassId) (A : Nat → Prop) (σ : St) (x1 : Int32) (K : Int32 → St → Prop) (X : String → St → Prop) (hR : Rok σ) (h : wX5_code σ x1 K X) : vx_Met l yX5_code wsX5_code rmX5_code (va_Pc [.ref (ad 0), .int x1] (PreX D 132 ad A (tyC ci) (obC ad ci σ))) (va_Qi (fun r u => K r u) (PostW D 132 ad (tyC ci) (obC ad ci) Rok) A) (PostX D 132 ad (obC ad ci) Rok X A) 1 6 A := by
  refine vx_ofW (cc := cX5_code) (maxL := 4) (ret := (some .int)) (by decide) rfl ?_
  intro p e s m args below meth c s₁ B hml ht hv
  obtain ⟨rfl, ⟨hP, hK, hD⟩, hE⟩ := hv
  have C0 : CallFix p m c cX5_code 4 s _ wsX5_code RX5 := ⟨B.exec, B.bytes, hml, findClass_of_methodNamed B.named, atoms_spec (ws := wsX5_code) B.pre⟩
  have hlocks := B.notSynchronized
  have hY : Sy D 132 ad A s.heap (obC ad ci σ) s.heap [] := ⟨hP, hD, va_S.rf⟩
  have hl := lv_entry ([.ref (ad 0), .int x1]) (n := 4) (Nat.le_of_ble_eq_true rfl)
  rw [lg_entry_eq]
  generalize (lg_sl ([.ref (ad 0), .int x1]) ++ List.replicate (4 - (lg_sl ([.ref (ad 0), .int x1])).length) Slot.unset).toArray = ls at hl ⊢
  exact eX5_code C0 hK K X σ (fun r u H locs pc ls hk hY hR hd => vx_ret (W.widen (Nat.zero_le _) (Nat.zero_le _) (w_iret (I := Rok) B.exec B.bytes B.returns hlocks hK hk (fun t ht => ht) hY hR hd))) (fun E text ik is ic pc av u H locs ls hx hY hR hsz hT => w_throw (I := Rok) B.exec B.bytes hlt (findClass_of_methodNamed B.named) hT hE ht hsz (Nat.lt_of_lt_of_le (by decide) (Nat.le_refl _)) (Nat.le_of_ble_eq_true rfl) (Nat.le_of_ble_eq_true rfl) (Nat.le_of_ble_eq_true rfl) hlocks hx hY hR) x1 h _ _ hY hR ls hl
set_option maxHeartbeats 4000000 in
set_option maxRecDepth 100000 in
theorem eX5_write (C0 : CallFix p m c cX5_write 1 s args wsX5_write RX5) (hK : Kx D (tyC ci) s) (K : Int32 → St → Prop) (X : String → St → Prop) (σ : St) (hret : ∀ (r : Int32) (u : St) (H : Heap) (locs : List Loc) (pc : Nat) (ls : Array Slot), K r u → Sy D 132 ad A H0 (obC ad ci u) H locs → Rok u → decode cX5_write pc = .ok (.ireturn, 1) → W p l e rmX5_write s m args below meth c H locs 0 0 Q (F0 m pc ls [.int r])) (hthr : ∀ (E text : String) (ik is ic pc : Nat) (av : List Cond) (u : St) (H : Heap) (locs : List Loc) (ls : Array Slot), X E u → Sy D 132 ad A H0 (obC ad ci u) H locs → Rok u → ls.size = c.maxLocals → TSite cX5_write s args E text ik is ic pc av → W p l e rmX5_write s m args below meth c H locs 0 0 Q (F0 m pc ls [])) (h : wX5_write σ K X) (H : Heap) (locs : List Loc) (hY : Sy D 132 ad A H0 (obC ad ci σ) H locs) (hR : Rok σ) (ls : Array Slot) (hl : lv_has ls 1 [(0, .ref (ad 0))]) : W p l e rmX5_write s m args below meth c H locs 0 0 Q (F0 m 0 ls []) := by
  obtain ⟨hx, hb, hml, hown, hts⟩ := id C0
  refine lv_aload_n hx hb dX5_write_0 rfl (lv_at hl 0 rfl) ?_
  refine w_get (o := 0) (ci := 5) (C := RX5) (T := TX5) (N1 := 6) (v := .ref (ad 58)) hx hb hts kX5_write_inX5 hown hK.1 hY (by decide) obC_main rfl 3 (by decide) (hts _ kX5_write_0) rfl rfl dX5_write_1 ?_
  refine lv_aload_n hx hb dX5_write_4 rfl (lv_at hl 0 rfl) ?_
  refine w_get (o := 0) (ci := 5) (C := RX5) (T := TX5) (N1 := 6) (v := .ref (ad 1)) hx hb hts kX5_write_inX5 hown hK.1 hY (by decide) obC_main rfl 0 (by decide) (hts _ kX5_write_2) rfl rfl dX5_write_5 ?_
  refine w_callip (rest := []) (va_runV (As := [.ref (ad 1)]) (rest := []) C0 (mX0_sizeWritten l D ad ci A σ 1 _ hR (by decide) h) (cwV 1 hts gX5_write_X0_sizeWritten rfl rfl rfl ddX0_sizeWritten ⟨Nat.le_of_ble_eq_true rfl, Nat.le_of_ble_eq_true rfl⟩) (w_preV (o := 58) (ci := 0) (ob := obC ad ci) (σ := σ) hK hY (by decide) obC_book rfl rfl) rfl rfl hl.1 rfl (lv_room (Nat.le_of_ble_eq_true rfl)) dX5_write_8 ⟨Nat.zero_le _, Nat.zero_le _⟩) hY (fun r_1 H locs h hY => ?_)
  refine lv_bipush (v := (24 : Int32)) hx hb dX5_write_11 (by decide) ?_
  refine lv_icmp_le (tgt := 26) hx hb dX5_write_13 (by decide) (fun c_2 => ?_) (fun c_2 => ?_)
  · have h := h.1 c_2
    refine lv_aload_n hx hb dX5_write_26 rfl (lv_at hl 0 rfl) ?_
    refine w_get (o := 0) (ci := 5) (C := RX5) (T := TX5) (N1 := 6) (v := .ref (ad 58)) hx hb hts kX5_write_inX5 hown hK.1 hY (by decide) obC_main rfl 3 (by decide) (hts _ kX5_write_0) rfl rfl dX5_write_27 ?_
    refine lv_aload_n hx hb dX5_write_30 rfl (lv_at hl 0 rfl) ?_
    refine w_get (o := 0) (ci := 5) (C := RX5) (T := TX5) (N1 := 6) (v := .ref (ad 1)) hx hb hts kX5_write_inX5 hown hK.1 hY (by decide) obC_main rfl 0 (by decide) (hts _ kX5_write_2) rfl rfl dX5_write_31 ?_
    refine lv_aload_n hx hb dX5_write_34 rfl (lv_at hl 0 rfl) ?_
    refine w_get (o := 0) (ci := 5) (C := RX5) (T := TX5) (N1 := 6) (v := .ref (ad 3)) hx hb hts kX5_write_inX5 hown hK.1 hY (by decide) obC_main rfl 1 (by decide) (hts _ kX5_write_3) rfl rfl dX5_write_35 ?_
    refine w_callv (rest := []) (va_runV (As := [.ref (ad 1), .ref (ad 3)]) (rest := []) C0 (mX0_writeInto l D ad ci A σ 1 3 _ hR (by decide) (by decide) h) (cwV 2 hts gX5_write_X0_writeInto rfl rfl rfl ddX0_writeInto ⟨Nat.le_of_ble_eq_true rfl, Nat.le_of_ble_eq_true rfl⟩) (w_preV (o := 58) (ci := 0) (ob := obC ad ci) (σ := σ) hK hY (by decide) obC_book rfl rfl) rfl rfl hl.1 rfl (lv_room (Nat.le_of_ble_eq_true rfl)) dX5_write_38 ⟨Nat.zero_le _, Nat.zero_le _⟩) hY (fun σ_4 H locs h hY hR_σ_4 => ?_)
    refine lv_aload_n hx hb dX5_write_41 rfl (lv_at hl 0 rfl) ?_
    refine w_get (o := 0) (ci := 5) (C := RX5) (T := TX5) (N1 := 6) (v := .ref (ad 1)) hx hb hts kX5_write_inX5 hown hK.1 hY (by decide) obC_main rfl 0 (by decide) (hts _ kX5_write_2) rfl rfl dX5_write_42 ?_
    refine lv_aload_n hx hb dX5_write_45 rfl (lv_at hl 0 rfl) ?_
    refine w_get (o := 0) (ci := 5) (C := RX5) (T := TX5) (N1 := 6) (v := .ref (ad 3)) hx hb hts kX5_write_inX5 hown hK.1 hY (by decide) obC_main rfl 1 (by decide) (hts _ kX5_write_3) rfl rfl dX5_write_46 ?_
    refine w_callv (rest := []) (va_runV (As := [.ref (ad 3)]) (rest := []) C0 (mX2_become l D ad ci A σ_4 1 3 _ hR_σ_4 (by decide) (by decide) h) (cwV 1 hts gX5_write_X2_become rfl rfl rfl ddX2_become ⟨Nat.le_of_ble_eq_true rfl, Nat.le_of_ble_eq_true rfl⟩) (w_preV (o := 1) (ci := 2) (ob := obC ad ci) (σ := σ_4) hK hY (rowB_lt (by decide)) (obC_row (by decide)) rfl rfl) rfl rfl hl.1 rfl (lv_room (Nat.le_of_ble_eq_true rfl)) dX5_write_49 ⟨Nat.zero_le _, Nat.zero_le _⟩) hY (fun σ_6 H locs h hY hR_σ_6 => ?_)
    refine lv_aload_n hx hb dX5_write_52 rfl (lv_at hl 0 rfl) ?_
    refine w_get (o := 0) (ci := 5) (C := RX5) (T := TX5) (N1 := 6) (v := .ref (ad 1)) hx hb hts kX5_write_inX5 hown hK.1 hY (by decide) obC_main rfl 0 (by decide) (hts _ kX5_write_2) rfl rfl dX5_write_53 ?_
    refine w_callip (rest := []) (va_runV (As := []) (rest := []) C0 (mX2_size l D ad ci A σ_6 1 _ hR_σ_6 (by decide) h) (cwV 0 hts gX5_write_X2_size rfl rfl rfl ddX2_size ⟨Nat.le_of_ble_eq_true rfl, Nat.le_of_ble_eq_true rfl⟩) (w_preV (o := 1) (ci := 2) (ob := obC ad ci) (σ := σ_6) hK hY (rowB_lt (by decide)) (obC_row (by decide)) rfl rfl) rfl rfl hl.1 rfl (lv_room (Nat.le_of_ble_eq_true rfl)) dX5_write_56 ⟨Nat.zero_le _, Nat.zero_le _⟩) hY (fun r_7 H locs h hY => ?_)
    exact hret r_7 σ_6 _ _ _ _ h hY hR_σ_6 dX5_write_59
  · have h := h.2 c_2
    exact hthr "java/lang/IllegalStateException" "the text would have too many signs" 64 76 68 16 _ _ _ _ _ h hY hR (hl.1.trans hml.symm) ⟨(hts _ kX5_write_5), (hts _ kX5_write_6), fun w hw => hts w (kX5_write_at68 w hw), by decide +kernel, by decide +kernel, dX5_write_16, dX5_write_19, dX5_write_20, dX5_write_22, dX5_write_25⟩
set_option maxHeartbeats 4000000 in
set_option maxRecDepth 100000 in
theorem mX5_write (l : Launch) (hlt : l.stackTraces = false) (D : va_G) (ad : Nat → Nat) (ci : Nat → ClassId) (A : Nat → Prop) (σ : St) (K : Int32 → St → Prop) (X : String → St → Prop) (hR : Rok σ) (h : wX5_write σ K X) : vx_Met l yX5_write wsX5_write rmX5_write (va_Pc [.ref (ad 0)] (PreX D 132 ad A (tyC ci) (obC ad ci σ))) (va_Qi (fun r u => K r u) (PostW D 132 ad (tyC ci) (obC ad ci) Rok) A) (PostX D 132 ad (obC ad ci) Rok X A) 1 6 A := by
  refine vx_ofW (cc := cX5_write) (maxL := 1) (ret := (some .int)) (by decide) rfl ?_
  intro p e s m args below meth c s₁ B hml ht hv
  obtain ⟨rfl, ⟨hP, hK, hD⟩, hE⟩ := hv
  have C0 : CallFix p m c cX5_write 1 s _ wsX5_write RX5 := ⟨B.exec, B.bytes, hml, findClass_of_methodNamed B.named, atoms_spec (ws := wsX5_write) B.pre⟩
  have hlocks := B.notSynchronized
  have hY : Sy D 132 ad A s.heap (obC ad ci σ) s.heap [] := ⟨hP, hD, va_S.rf⟩
  have hl := lv_entry ([.ref (ad 0)]) (n := 1) (Nat.le_of_ble_eq_true rfl)
  rw [lg_entry_eq]
  generalize (lg_sl ([.ref (ad 0)]) ++ List.replicate (1 - (lg_sl ([.ref (ad 0)])).length) Slot.unset).toArray = ls at hl ⊢
  exact eX5_write C0 hK K X σ (fun r u H locs pc ls hk hY hR hd => vx_ret (W.widen (Nat.zero_le _) (Nat.zero_le _) (w_iret (I := Rok) B.exec B.bytes B.returns hlocks hK hk (fun t ht => ht) hY hR hd))) (fun E text ik is ic pc av u H locs ls hx hY hR hsz hT => w_throw (I := Rok) B.exec B.bytes hlt (findClass_of_methodNamed B.named) hT hE ht hsz (Nat.lt_of_lt_of_le (by decide) (Nat.le_refl _)) (Nat.le_of_ble_eq_true rfl) (Nat.le_of_ble_eq_true rfl) (Nat.le_of_ble_eq_true rfl) hlocks hx hY hR) h _ _ hY hR ls hl
set_option maxHeartbeats 4000000 in
set_option maxRecDepth 100000 in
theorem eX5_read (C0 : CallFix p m c cX5_read 1 s args wsX5_read RX5) (hK : Kx D (tyC ci) s) (K : Int32 → St → Prop) (X : String → St → Prop) (σ : St) (hret : ∀ (r : Int32) (u : St) (H : Heap) (locs : List Loc) (pc : Nat) (ls : Array Slot), K r u → Sy D 132 ad A H0 (obC ad ci u) H locs → Rok u → decode cX5_read pc = .ok (.ireturn, 1) → W p l e rmX5_read s m args below meth c H locs 0 0 Q (F0 m pc ls [.int r])) (hthr : ∀ (E text : String) (ik is ic pc : Nat) (av : List Cond) (u : St) (H : Heap) (locs : List Loc) (ls : Array Slot), X E u → Sy D 132 ad A H0 (obC ad ci u) H locs → Rok u → ls.size = c.maxLocals → TSite cX5_read s args E text ik is ic pc av → W p l e rmX5_read s m args below meth c H locs 0 0 Q (F0 m pc ls [])) (h : wX5_read σ K X) (H : Heap) (locs : List Loc) (hY : Sy D 132 ad A H0 (obC ad ci σ) H locs) (hR : Rok σ) (ls : Array Slot) (hl : lv_has ls 1 [(0, .ref (ad 0))]) : W p l e rmX5_read s m args below meth c H locs 0 0 Q (F0 m 0 ls []) := by
  obtain ⟨hx, hb, hml, hown, hts⟩ := id C0
  refine lv_aload_n hx hb dX5_read_0 rfl (lv_at hl 0 rfl) ?_
  refine w_get (o := 0) (ci := 5) (C := RX5) (T := TX5) (N1 := 6) (v := .ref (ad 58)) hx hb hts kX5_read_inX5 hown hK.1 hY (by decide) obC_main rfl 3 (by decide) (hts _ kX5_read_0) rfl rfl dX5_read_1 ?_
  refine w_callip (rest := []) (va_runV (As := []) (rest := []) C0 (mX0_isOrderly l D ad ci A σ _ hR  h) (cwV 0 hts gX5_read_X0_isOrderly rfl rfl rfl ddX0_isOrderly ⟨Nat.le_of_ble_eq_true rfl, Nat.le_of_ble_eq_true rfl⟩) (w_preV (o := 58) (ci := 0) (ob := obC ad ci) (σ := σ) hK hY (by decide) obC_book rfl rfl) rfl rfl hl.1 rfl (lv_room (Nat.le_of_ble_eq_true rfl)) dX5_read_4 ⟨Nat.zero_le _, Nat.zero_le _⟩) hY (fun r_1 H locs h hY => ?_)
  obtain ⟨n_r_1, h⟩ := h
  refine lv_if_ne (tgt := 20) hx hb dX5_read_7 (by decide) (fun c_2 => ?_) (fun c_2 => ?_)
  · have h := h.2 c_2
    refine lv_aload_n hx hb dX5_read_20 rfl (lv_at hl 0 rfl) ?_
    refine w_get (o := 0) (ci := 5) (C := RX5) (T := TX5) (N1 := 6) (v := .ref (ad 58)) hx hb hts kX5_read_inX5 hown hK.1 hY (by decide) obC_main rfl 3 (by decide) (hts _ kX5_read_0) rfl rfl dX5_read_21 ?_
    refine lv_aload_n hx hb dX5_read_24 rfl (lv_at hl 0 rfl) ?_
    refine w_get (o := 0) (ci := 5) (C := RX5) (T := TX5) (N1 := 6) (v := .ref (ad 1)) hx hb hts kX5_read_inX5 hown hK.1 hY (by decide) obC_main rfl 0 (by decide) (hts _ kX5_read_2) rfl rfl dX5_read_25 ?_
    refine lv_aload_n hx hb dX5_read_28 rfl (lv_at hl 0 rfl) ?_
    refine w_get (o := 0) (ci := 5) (C := RX5) (T := TX5) (N1 := 6) (v := .ref (ad 3)) hx hb hts kX5_read_inX5 hown hK.1 hY (by decide) obC_main rfl 1 (by decide) (hts _ kX5_read_3) rfl rfl dX5_read_29 ?_
    refine w_calli (rest := []) (va_runV (As := [.ref (ad 1), .ref (ad 3)]) (rest := []) C0 (mX0_readInto l D ad ci A σ 1 3 _ hR (by decide) (by decide) h) (cwV 2 hts gX5_read_X0_readInto rfl rfl rfl ddX0_readInto ⟨Nat.le_of_ble_eq_true rfl, Nat.le_of_ble_eq_true rfl⟩) (w_preV (o := 58) (ci := 0) (ob := obC ad ci) (σ := σ) hK hY (by decide) obC_book rfl rfl) rfl rfl hl.1 rfl (lv_room (Nat.le_of_ble_eq_true rfl)) dX5_read_32 ⟨Nat.zero_le _, Nat.zero_le _⟩) hY (fun r_3 σ_4 H locs h hY hR_σ_4 => ?_)
    obtain ⟨n_r_3, h⟩ := h
    refine lv_if_ne (tgt := 48) hx hb dX5_read_35 (by decide) (fun c_5 => ?_) (fun c_5 => ?_)
    · have h := h.2 c_5
      refine lv_aload_n hx hb dX5_read_48 rfl (lv_at hl 0 rfl) ?_
      refine w_get (o := 0) (ci := 5) (C := RX5) (T := TX5) (N1 := 6) (v := .ref (ad 1)) hx hb hts kX5_read_inX5 hown hK.1 hY (by decide) obC_main rfl 0 (by decide) (hts _ kX5_read_2) rfl rfl dX5_read_49 ?_
      refine lv_aload_n hx hb dX5_read_52 rfl (lv_at hl 0 rfl) ?_
      refine w_get (o := 0) (ci := 5) (C := RX5) (T := TX5) (N1 := 6) (v := .ref (ad 3)) hx hb hts kX5_read_inX5 hown hK.1 hY (by decide) obC_main rfl 1 (by decide) (hts _ kX5_read_3) rfl rfl dX5_read_53 ?_
      refine w_callv (rest := []) (va_runV (As := [.ref (ad 3)]) (rest := []) C0 (mX2_become l D ad ci A σ_4 1 3 _ hR_σ_4 (by decide) (by decide) h) (cwV 1 hts gX5_read_X2_become rfl rfl rfl ddX2_become ⟨Nat.le_of_ble_eq_true rfl, Nat.le_of_ble_eq_true rfl⟩) (w_preV (o := 1) (ci := 2) (ob := obC ad ci) (σ := σ_4) hK hY (rowB_lt (by decide)) (obC_row (by decide)) rfl rfl) rfl rfl hl.1 rfl (lv_room (Nat.le_of_ble_eq_true rfl)) dX5_read_56 ⟨Nat.zero_le _, Nat.zero_le _⟩) hY (fun σ_7 H locs h hY hR_σ_7 => ?_)
      refine lv_aload_n hx hb dX5_read_59 rfl (lv_at hl 0 rfl) ?_
      refine w_get (o := 0) (ci := 5) (C := RX5) (T := TX5) (N1 := 6) (v := .ref (ad 1)) hx hb hts kX5_read_inX5 hown hK.1 hY (by decide) obC_main rfl 0 (by decide) (hts _ kX5_read_2) rfl rfl dX5_read_60 ?_
      refine w_callip (rest := []) (va_runV (As := []) (rest := []) C0 (mX2_size l D ad ci A σ_7 1 _ hR_σ_7 (by decide) h) (cwV 0 hts gX5_read_X2_size rfl rfl rfl ddX2_size ⟨Nat.le_of_ble_eq_true rfl, Nat.le_of_ble_eq_true rfl⟩) (w_preV (o := 1) (ci := 2) (ob := obC ad ci) (σ := σ_7) hK hY (rowB_lt (by decide)) (obC_row (by decide)) rfl rfl) rfl rfl hl.1 rfl (lv_room (Nat.le_of_ble_eq_true rfl)) dX5_read_63 ⟨Nat.zero_le _, Nat.zero_le _⟩) hY (fun r_8 H locs h hY => ?_)
      exact hret r_8 σ_7 _ _ _ _ h hY hR_σ_7 dX5_read_66
    · have h := h.1 c_5
      exact hthr "java/util/NoSuchElementException" "no row is written so" 91 227 95 38 _ _ _ _ _ h hY hR_σ_4 (hl.1.trans hml.symm) ⟨(hts _ kX5_read_5), (hts _ kX5_read_6), fun w hw => hts w (kX5_read_at95 w hw), by decide +kernel, by decide +kernel, dX5_read_38, dX5_read_41, dX5_read_42, dX5_read_44, dX5_read_47⟩
  · have h := h.1 c_2
    exact hthr "java/lang/UnsupportedOperationException" "the codes are not orderly" 114 221 118 10 _ _ _ _ _ h hY hR (hl.1.trans hml.symm) ⟨(hts _ kX5_read_8), (hts _ kX5_read_9), fun w hw => hts w (kX5_read_at118 w hw), by decide +kernel, by decide +kernel, dX5_read_10, dX5_read_13, dX5_read_14, dX5_read_16, dX5_read_19⟩
set_option maxHeartbeats 4000000 in
set_option maxRecDepth 100000 in
theorem mX5_read (l : Launch) (hlt : l.stackTraces = false) (D : va_G) (ad : Nat → Nat) (ci : Nat → ClassId) (A : Nat → Prop) (σ : St) (K : Int32 → St → Prop) (X : String → St → Prop) (hR : Rok σ) (h : wX5_read σ K X) : vx_Met l yX5_read wsX5_read rmX5_read (va_Pc [.ref (ad 0)] (PreX D 132 ad A (tyC ci) (obC ad ci σ))) (va_Qi (fun r u => K r u) (PostW D 132 ad (tyC ci) (obC ad ci) Rok) A) (PostX D 132 ad (obC ad ci) Rok X A) 1 6 A := by
  refine vx_ofW (cc := cX5_read) (maxL := 1) (ret := (some .int)) (by decide) rfl ?_
  intro p e s m args below meth c s₁ B hml ht hv
  obtain ⟨rfl, ⟨hP, hK, hD⟩, hE⟩ := hv
  have C0 : CallFix p m c cX5_read 1 s _ wsX5_read RX5 := ⟨B.exec, B.bytes, hml, findClass_of_methodNamed B.named, atoms_spec (ws := wsX5_read) B.pre⟩
  have hlocks := B.notSynchronized
  have hY : Sy D 132 ad A s.heap (obC ad ci σ) s.heap [] := ⟨hP, hD, va_S.rf⟩
  have hl := lv_entry ([.ref (ad 0)]) (n := 1) (Nat.le_of_ble_eq_true rfl)
  rw [lg_entry_eq]
  generalize (lg_sl ([.ref (ad 0)]) ++ List.replicate (1 - (lg_sl ([.ref (ad 0)])).length) Slot.unset).toArray = ls at hl ⊢
  exact eX5_read C0 hK K X σ (fun r u H locs pc ls hk hY hR hd => vx_ret (W.widen (Nat.zero_le _) (Nat.zero_le _) (w_iret (I := Rok) B.exec B.bytes B.returns hlocks hK hk (fun t ht => ht) hY hR hd))) (fun E text ik is ic pc av u H locs ls hx hY hR hsz hT => w_throw (I := Rok) B.exec B.bytes hlt (findClass_of_methodNamed B.named) hT hE ht hsz (Nat.lt_of_lt_of_le (by decide) (Nat.le_refl _)) (Nat.le_of_ble_eq_true rfl) (Nat.le_of_ble_eq_true rfl) (Nat.le_of_ble_eq_true rfl) hlocks hx hY hR) h _ _ hY hR ls hl
set_option maxHeartbeats 4000000 in
set_option maxRecDepth 100000 in
theorem tX5_writeAll_J106 (C0 : CallFix p m c cX5_writeAll 5 s args wsX5_writeAll RX5) (hK : Kx D (tyC ci) s) (K : Int32 → St → Prop) (X : String → St → Prop) (B61 : St → Int32 → Int32 → Prop) (σ : St) (x1 : Int32) (x2 : Int32) (x3 : Nat) (x4 : Nat) (hret : ∀ (r : Int32) (u : St) (H : Heap) (locs : List Loc) (pc : Nat) (ls : Array Slot), K r u → Sy D 132 ad A H0 (obC ad ci u) H locs → Rok u → decode cX5_writeAll pc = .ok (.ireturn, 1) → W p l e rmX5_writeAll s m args below meth c H locs 0 0 Q (F0 m pc ls [.int r])) (hthr : ∀ (E text : String) (ik is ic pc : Nat) (av : List Cond) (u : St) (H : Heap) (locs : List Loc) (ls : Array Slot), X E u → Sy D 132 ad A H0 (obC ad ci u) H locs → Rok u → ls.size = c.maxLocals → TSite cX5_writeAll s args E text ik is ic pc av → W p l e rmX5_writeAll s m args below meth c H locs 0 0 Q (F0 m pc ls [])) (hB61 : ∀ (σ : St) (x1 : Int32) (x2 : Int32), B61 σ x1 x2 → ∀ (H : Heap) (locs : List Loc), Sy D 132 ad A H0 (obC ad ci σ) H locs → Rok σ → ∀ ls : Array Slot, lv_has ls 5 [(0, .ref (ad 0)), (1, .int x1), (2, .int x2)] → W p l e rmX5_writeAll s m args below meth c H locs 0 0 Q (F0 m 61 ls [])) (rx3 : rowB x3 = true) (rx4 : rowB x4 = true) (h : wX5_writeAll_J106 K X B61 σ x1 x2 x3 x4) (H : Heap) (locs : List Loc) (hY : Sy D 132 ad A H0 (obC ad ci σ) H locs) (hR : Rok σ) (ls : Array Slot) (hl : lv_has ls 5 [(0, .ref (ad 0)), (1, .int x1), (2, .int x2), (3, .ref (ad x3)), (4, .ref (ad x4))]) : W p l e rmX5_writeAll s m args below meth c H locs 0 0 Q (F0 m 106 ls []) := by
  obtain ⟨hx, hb, hml, hown, hts⟩ := id C0
  refine lv_aload_n hx hb dX5_writeAll_106 rfl (lv_at hl 3 rfl) ?_
  refine lv_aload hx hb dX5_writeAll_107 (lv_at hl 4 rfl) ?_
  refine w_callv (rest := []) (va_runV (As := [.ref (ad x4)]) (rest := []) C0 (mX2_become l D ad ci A σ x3 x4 _ hR rx3 rx4 h) (cwV 1 hts gX5_writeAll_X2_become rfl rfl rfl ddX2_become ⟨Nat.le_of_ble_eq_true rfl, Nat.le_of_ble_eq_true rfl⟩) (w_preV (o := x3) (ci := 2) (ob := obC ad ci) (σ := σ) hK hY (rowB_lt rx3) (obC_row rx3) rfl rfl) rfl rfl hl.1 rfl (lv_room (Nat.le_of_ble_eq_true rfl)) dX5_writeAll_109 ⟨Nat.zero_le _, Nat.zero_le _⟩) hY (fun σ_2 H locs h hY hR_σ_2 => ?_)
  refine lv_iinc (v := (x2 + 1)) (lv' := [(2, .int (x2 + 1)), (0, .ref (ad 0)), (1, .int x1), (3, .ref (ad x3)), (4, .ref (ad x4))]) hx hb dX5_writeAll_112 hl (k := 2) rfl rfl (by decide) rfl (fun ls hl => ?_)
  refine lv_goto (tgt := 61) hx hb dX5_writeAll_115 (by decide) ?_
  exact hB61 σ_2 x1 (x2 + 1) h _ _ hY hR_σ_2  _ (lv_sub hl [1, 2, 0] rfl)
set_option maxHeartbeats 4000000 in
set_option maxRecDepth 100000 in
theorem tX5_writeAll_L61 (C0 : CallFix p m c cX5_writeAll 5 s args wsX5_writeAll RX5) (hK : Kx D (tyC ci) s) (K : Int32 → St → Prop) (X : String → St → Prop) (hret : ∀ (r : Int32) (u : St) (H : Heap) (locs : List Loc) (pc : Nat) (ls : Array Slot), K r u → Sy D 132 ad A H0 (obC ad ci u) H locs → Rok u → decode cX5_writeAll pc = .ok (.ireturn, 1) → W p l e rmX5_writeAll s m args below meth c H locs 0 0 Q (F0 m pc ls [.int r])) (hthr : ∀ (E text : String) (ik is ic pc : Nat) (av : List Cond) (u : St) (H : Heap) (locs : List Loc) (ls : Array Slot), X E u → Sy D 132 ad A H0 (obC ad ci u) H locs → Rok u → ls.size = c.maxLocals → TSite cX5_writeAll s args E text ik is ic pc av → W p l e rmX5_writeAll s m args below meth c H locs 0 0 Q (F0 m pc ls [])) : ∀ (n : Nat) (σ : St) (x1 : Int32) (x2 : Int32), wX5_writeAll_L61 K X n σ x1 x2 → ∀ (H : Heap) (locs : List Loc), Sy D 132 ad A H0 (obC ad ci σ) H locs → Rok σ → ∀ ls : Array Slot, lv_has ls 5 [(0, .ref (ad 0)), (1, .int x1), (2, .int x2)] → W p l e rmX5_writeAll s m args below meth c H locs 0 0 Q (F0 m 61 ls []) := by
  obtain ⟨hx, hb, hml, hown, hts⟩ := id C0
  intro n
  induction n with
  | zero =>
    intro σ x1 x2 h
    exact h.elim
  | succ n ih =>
    intro σ x1 x2 h H locs hY hR  ls hl
    refine lv_iload_n hx hb dX5_writeAll_61 rfl (lv_at hl 2 rfl) ?_
    refine lv_aload_n hx hb dX5_writeAll_62 rfl (lv_at hl 0 rfl) ?_
    refine w_get (o := 0) (ci := 5) (C := RX5) (T := TX5) (N1 := 6) (v := .ref (ad 5)) hx hb hts kX5_writeAll_inX5 hown hK.1 hY (by decide) obC_main rfl 2 (by decide) (hts _ kX5_writeAll_0) rfl rfl dX5_writeAll_63 ?_
    refine w_callip (rest := [.int x2]) (va_runV (As := []) (rest := [.int x2]) C0 (mX4_size l D ad ci A σ _ hR  h) (cwV 0 hts gX5_writeAll_X4_size rfl rfl rfl ddX4_size ⟨Nat.le_of_ble_eq_true rfl, Nat.le_of_ble_eq_true rfl⟩) (w_preV (o := 5) (ci := 4) (ob := obC ad ci) (σ := σ) hK hY (by decide) obC_list rfl rfl) rfl rfl hl.1 rfl (lv_room (Nat.le_of_ble_eq_true rfl)) dX5_writeAll_66 ⟨Nat.zero_le _, Nat.zero_le _⟩) hY (fun r_3 H locs h hY => ?_)
    refine lv_icmp_ge (tgt := 118) hx hb dX5_writeAll_69 (by decide) (fun c_4 => ?_) (fun c_4 => ?_)
    · have h := h.1 c_4
      refine lv_iload_n hx hb dX5_writeAll_118 rfl (lv_at hl 1 rfl) ?_
      exact hret x1 σ _ _ _ _ h hY hR dX5_writeAll_119
    · have h := h.2 c_4
      refine lv_aload_n hx hb dX5_writeAll_72 rfl (lv_at hl 0 rfl) ?_
      refine w_get (o := 0) (ci := 5) (C := RX5) (T := TX5) (N1 := 6) (v := .ref (ad 5)) hx hb hts kX5_writeAll_inX5 hown hK.1 hY (by decide) obC_main rfl 2 (by decide) (hts _ kX5_writeAll_0) rfl rfl dX5_writeAll_73 ?_
      refine lv_iload_n hx hb dX5_writeAll_76 rfl (lv_at hl 2 rfl) ?_
      refine w_callrp (rest := []) (va_runV (As := [.int x2]) (rest := []) C0 (mX4_rowAt l D ad ci A σ x2 _ hR  h) (cwV 1 hts gX5_writeAll_X4_rowAt rfl rfl rfl ddX4_rowAt ⟨Nat.le_of_ble_eq_true rfl, Nat.le_of_ble_eq_true rfl⟩) (w_preV (o := 5) (ci := 4) (ob := obC ad ci) (σ := σ) hK hY (by decide) obC_list rfl rfl) rfl rfl hl.1 rfl (lv_room (Nat.le_of_ble_eq_true rfl)) dX5_writeAll_77 ⟨Nat.zero_le _, Nat.zero_le _⟩) hY (fun r_5 H locs h hY => ?_)
      obtain ⟨rr_5, h⟩ := h
      refine lv_astore_n (lv' := [(3, .ref (ad r_5)), (0, .ref (ad 0)), (1, .int x1), (2, .int x2)]) hx hb dX5_writeAll_80 rfl hl (by decide) rfl (fun ls hl => ?_)
      refine lv_aload_n hx hb dX5_writeAll_81 rfl (lv_at hl 1 rfl) ?_
      refine w_get (o := 0) (ci := 5) (C := RX5) (T := TX5) (N1 := 6) (v := .ref (ad 58)) hx hb hts kX5_writeAll_inX5 hown hK.1 hY (by decide) obC_main rfl 3 (by decide) (hts _ kX5_writeAll_2) rfl rfl dX5_writeAll_82 ?_
      refine lv_iload_n hx hb dX5_writeAll_85 rfl (lv_at hl 3 rfl) ?_
      refine w_callrp (rest := []) (va_runV (As := [.int x2]) (rest := []) C0 (mX0_writtenAt l D ad ci A σ x2 _ hR  h) (cwV 1 hts gX5_writeAll_X0_writtenAt rfl rfl rfl ddX0_writtenAt ⟨Nat.le_of_ble_eq_true rfl, Nat.le_of_ble_eq_true rfl⟩) (w_preV (o := 58) (ci := 0) (ob := obC ad ci) (σ := σ) hK hY (by decide) obC_book rfl rfl) rfl rfl hl.1 rfl (lv_room (Nat.le_of_ble_eq_true rfl)) dX5_writeAll_86 ⟨Nat.zero_le _, Nat.zero_le _⟩) hY (fun r_6 H locs h hY => ?_)
      obtain ⟨rr_6, h⟩ := h
      refine lv_astore (lv' := [(4, .ref (ad r_6)), (3, .ref (ad r_5)), (0, .ref (ad 0)), (1, .int x1), (2, .int x2)]) hx hb dX5_writeAll_89 hl (by decide) rfl (fun ls hl => ?_)
      refine lv_aload hx hb dX5_writeAll_91 (lv_at hl 0 rfl) ?_
      refine w_callip (rest := []) (va_runV (As := []) (rest := []) C0 (mX2_size l D ad ci A σ r_6 _ hR rr_6 h) (cwV 0 hts gX5_writeAll_X2_size rfl rfl rfl ddX2_size ⟨Nat.le_of_ble_eq_true rfl, Nat.le_of_ble_eq_true rfl⟩) (w_preV (o := r_6) (ci := 2) (ob := obC ad ci) (σ := σ) hK hY (rowB_lt rr_6) (obC_row rr_6) rfl rfl) rfl rfl hl.1 rfl (lv_room (Nat.le_of_ble_eq_true rfl)) dX5_writeAll_93 ⟨Nat.zero_le _, Nat.zero_le _⟩) hY (fun r_7 H locs h hY => ?_)
      refine lv_aload_n hx hb dX5_writeAll_96 rfl (lv_at hl 1 rfl) ?_
      refine w_callip (rest := [.int r_7]) (va_runV (As := []) (rest := [.int r_7]) C0 (mX2_size l D ad ci A σ r_5 _ hR rr_5 h) (cwV 0 hts gX5_writeAll_X2_size rfl rfl rfl ddX2_size ⟨Nat.le_of_ble_eq_true rfl, Nat.le_of_ble_eq_true rfl⟩) (w_preV (o := r_5) (ci := 2) (ob := obC ad ci) (σ := σ) hK hY (rowB_lt rr_5) (obC_row rr_5) rfl rfl) rfl rfl hl.1 rfl (lv_room (Nat.le_of_ble_eq_true rfl)) dX5_writeAll_97 ⟨Nat.zero_le _, Nat.zero_le _⟩) hY (fun r_8 H locs h hY => ?_)
      refine lv_icmp_le (tgt := 106) hx hb dX5_writeAll_100 (by decide) (fun c_9 => ?_) (fun c_9 => ?_)
      · have h := h.1 c_9
        exact tX5_writeAll_J106 C0 hK K X (wX5_writeAll_L61 K X n) σ x1 x2 r_5 r_6 hret hthr ih rr_5 rr_6 h _ _ hY hR _ (lv_sub hl [2, 3, 4, 1, 0] rfl)
      · have h := h.2 c_9
        refine lv_iinc (v := (x1 + 1)) (lv' := [(1, .int (x1 + 1)), (4, .ref (ad r_6)), (3, .ref (ad r_5)), (0, .ref (ad 0)), (2, .int x2)]) hx hb dX5_writeAll_103 hl (k := 3) rfl rfl (by decide) rfl (fun ls hl => ?_)
        exact tX5_writeAll_J106 C0 hK K X (wX5_writeAll_L61 K X n) σ (x1 + 1) x2 r_5 r_6 hret hthr ih rr_5 rr_6 h _ _ hY hR _ (lv_sub hl [3, 0, 4, 2, 1] rfl)
set_option maxHeartbeats 4000000 in
set_option maxRecDepth 100000 in
theorem eX5_writeAll (C0 : CallFix p m c cX5_writeAll 5 s args wsX5_writeAll RX5) (hK : Kx D (tyC ci) s) (K : Int32 → St → Prop) (X : String → St → Prop) (σ : St) (hret : ∀ (r : Int32) (u : St) (H : Heap) (locs : List Loc) (pc : Nat) (ls : Array Slot), K r u → Sy D 132 ad A H0 (obC ad ci u) H locs → Rok u → decode cX5_writeAll pc = .ok (.ireturn, 1) → W p l e rmX5_writeAll s m args below meth c H locs 0 0 Q (F0 m pc ls [.int r])) (hthr : ∀ (E text : String) (ik is ic pc : Nat) (av : List Cond) (u : St) (H : Heap) (locs : List Loc) (ls : Array Slot), X E u → Sy D 132 ad A H0 (obC ad ci u) H locs → Rok u → ls.size = c.maxLocals → TSite cX5_writeAll s args E text ik is ic pc av → W p l e rmX5_writeAll s m args below meth c H locs 0 0 Q (F0 m pc ls [])) (h : wX5_writeAll σ K X) (H : Heap) (locs : List Loc) (hY : Sy D 132 ad A H0 (obC ad ci σ) H locs) (hR : Rok σ) (ls : Array Slot) (hl : lv_has ls 5 [(0, .ref (ad 0))]) : W p l e rmX5_writeAll s m args below meth c H locs 0 0 Q (F0 m 0 ls []) := by
  obtain ⟨hx, hb, hml, hown, hts⟩ := id C0
  refine lv_aload_n hx hb dX5_writeAll_0 rfl (lv_at hl 0 rfl) ?_
  refine w_get (o := 0) (ci := 5) (C := RX5) (T := TX5) (N1 := 6) (v := .ref (ad 58)) hx hb hts kX5_writeAll_inX5 hown hK.1 hY (by decide) obC_main rfl 3 (by decide) (hts _ kX5_writeAll_2) rfl rfl dX5_writeAll_1 ?_
  refine w_callip (rest := []) (va_runV (As := []) (rest := []) C0 (mX0_isOrderly l D ad ci A σ _ hR  h) (cwV 0 hts gX5_writeAll_X0_isOrderly rfl rfl rfl ddX0_isOrderly ⟨Nat.le_of_ble_eq_true rfl, Nat.le_of_ble_eq_true rfl⟩) (w_preV (o := 58) (ci := 0) (ob := obC ad ci) (σ := σ) hK hY (by decide) obC_book rfl rfl) rfl rfl hl.1 rfl (lv_room (Nat.le_of_ble_eq_true rfl)) dX5_writeAll_4 ⟨Nat.zero_le _, Nat.zero_le _⟩) hY (fun r_10 H locs h hY => ?_)
  obtain ⟨n_r_10, h⟩ := h
  refine lv_if_ne (tgt := 20) hx hb dX5_writeAll_7 (by decide) (fun c_11 => ?_) (fun c_11 => ?_)
  · have h := h.2 c_11
    refine lv_aload_n hx hb dX5_writeAll_20 rfl (lv_at hl 0 rfl) ?_
    refine w_get (o := 0) (ci := 5) (C := RX5) (T := TX5) (N1 := 6) (v := .ref (ad 58)) hx hb hts kX5_writeAll_inX5 hown hK.1 hY (by decide) obC_main rfl 3 (by decide) (hts _ kX5_writeAll_2) rfl rfl dX5_writeAll_21 ?_
    refine lv_aload_n hx hb dX5_writeAll_24 rfl (lv_at hl 0 rfl) ?_
    refine w_get (o := 0) (ci := 5) (C := RX5) (T := TX5) (N1 := 6) (v := .ref (ad 5)) hx hb hts kX5_writeAll_inX5 hown hK.1 hY (by decide) obC_main rfl 2 (by decide) (hts _ kX5_writeAll_0) rfl rfl dX5_writeAll_25 ?_
    refine w_callip (rest := []) (va_runV (As := [.ref (ad 5)]) (rest := []) C0 (mX0_mostWritten l D ad ci A σ _ hR  h) (cwV 1 hts gX5_writeAll_X0_mostWritten rfl rfl rfl ddX0_mostWritten ⟨Nat.le_of_ble_eq_true rfl, Nat.le_of_ble_eq_true rfl⟩) (w_preV (o := 58) (ci := 0) (ob := obC ad ci) (σ := σ) hK hY (by decide) obC_book rfl rfl) rfl rfl hl.1 rfl (lv_room (Nat.le_of_ble_eq_true rfl)) dX5_writeAll_28 ⟨Nat.zero_le _, Nat.zero_le _⟩) hY (fun r_12 H locs h hY => ?_)
    refine lv_bipush (v := (10 : Int32)) hx hb dX5_writeAll_31 (by decide) ?_
    refine lv_icmp_le (tgt := 46) hx hb dX5_writeAll_33 (by decide) (fun c_13 => ?_) (fun c_13 => ?_)
    · have h := h.1 c_13
      refine lv_aload_n hx hb dX5_writeAll_46 rfl (lv_at hl 0 rfl) ?_
      refine w_get (o := 0) (ci := 5) (C := RX5) (T := TX5) (N1 := 6) (v := .ref (ad 58)) hx hb hts kX5_writeAll_inX5 hown hK.1 hY (by decide) obC_main rfl 3 (by decide) (hts _ kX5_writeAll_2) rfl rfl dX5_writeAll_47 ?_
      refine lv_aload_n hx hb dX5_writeAll_50 rfl (lv_at hl 0 rfl) ?_
      refine w_get (o := 0) (ci := 5) (C := RX5) (T := TX5) (N1 := 6) (v := .ref (ad 5)) hx hb hts kX5_writeAll_inX5 hown hK.1 hY (by decide) obC_main rfl 2 (by decide) (hts _ kX5_writeAll_0) rfl rfl dX5_writeAll_51 ?_
      refine w_callv (rest := []) (va_runV (As := [.ref (ad 5)]) (rest := []) C0 (mX0_writeWords l D ad ci A σ _ hR  h) (cwV 1 hts gX5_writeAll_X0_writeWords rfl rfl rfl ddX0_writeWords ⟨Nat.le_of_ble_eq_true rfl, Nat.le_of_ble_eq_true rfl⟩) (w_preV (o := 58) (ci := 0) (ob := obC ad ci) (σ := σ) hK hY (by decide) obC_book rfl rfl) rfl rfl hl.1 rfl (lv_room (Nat.le_of_ble_eq_true rfl)) dX5_writeAll_54 ⟨Nat.zero_le _, Nat.zero_le _⟩) hY (fun σ_15 H locs h hY hR_σ_15 => ?_)
      refine lv_iconst (v := (0 : Int32)) hx hb dX5_writeAll_57 (by decide) ?_
      refine lv_istore_n (lv' := [(1, .int (0 : Int32)), (0, .ref (ad 0))]) hx hb dX5_writeAll_58 rfl hl (by decide) rfl (fun ls hl => ?_)
      refine lv_iconst (v := (0 : Int32)) hx hb dX5_writeAll_59 (by decide) ?_
      refine lv_istore_n (lv' := [(2, .int (0 : Int32)), (1, .int (0 : Int32)), (0, .ref (ad 0))]) hx hb dX5_writeAll_60 rfl hl (by decide) rfl (fun ls hl => ?_)
      obtain ⟨n_16, h⟩ := h
      exact tX5_writeAll_L61 C0 hK K X hret hthr n_16 σ_15 (0 : Int32) (0 : Int32) h _ _ hY hR_σ_15  _ (lv_sub hl [2, 1, 0] rfl)
    · have h := h.2 c_13
      exact hthr "java/lang/IllegalStateException" "a word would have too many signs" 64 233 68 36 _ _ _ _ _ h hY hR (hl.1.trans hml.symm) ⟨(hts _ kX5_writeAll_4), (hts _ kX5_writeAll_5), fun w hw => hts w (kX5_writeAll_at68 w hw), by decide +kernel, by decide +kernel, dX5_writeAll_36, dX5_writeAll_39, dX5_writeAll_40, dX5_writeAll_42, dX5_writeAll_45⟩
  · have h := h.1 c_11
    exact hthr "java/lang/UnsupportedOperationException" "the codes are not orderly" 114 221 118 10 _ _ _ _ _ h hY hR (hl.1.trans hml.symm) ⟨(hts _ kX5_writeAll_7), (hts _ kX5_writeAll_8), fun w hw => hts w (kX5_writeAll_at118 w hw), by decide +kernel, by decide +kernel, dX5_writeAll_10, dX5_writeAll_13, dX5_writeAll_14, dX5_writeAll_16, dX5_writeAll_19⟩
set_option maxHeartbeats 4000000 in
set_option maxRecDepth 100000 in
theorem mX5_writeAll (l : Launch) (hlt : l.stackTraces = false) (D : va_G) (ad : Nat → Nat) (ci : Nat → ClassId) (A : Nat → Prop) (σ : St) (K : Int32 → St → Prop) (X : String → St → Prop) (hR : Rok σ) (h : wX5_writeAll σ K X) : vx_Met l yX5_writeAll wsX5_writeAll rmX5_writeAll (va_Pc [.ref (ad 0)] (PreX D 132 ad A (tyC ci) (obC ad ci σ))) (va_Qi (fun r u => K r u) (PostW D 132 ad (tyC ci) (obC ad ci) Rok) A) (PostX D 132 ad (obC ad ci) Rok X A) 1 6 A := by
  refine vx_ofW (cc := cX5_writeAll) (maxL := 5) (ret := (some .int)) (by decide) rfl ?_
  intro p e s m args below meth c s₁ B hml ht hv
  obtain ⟨rfl, ⟨hP, hK, hD⟩, hE⟩ := hv
  have C0 : CallFix p m c cX5_writeAll 5 s _ wsX5_writeAll RX5 := ⟨B.exec, B.bytes, hml, findClass_of_methodNamed B.named, atoms_spec (ws := wsX5_writeAll) B.pre⟩
  have hlocks := B.notSynchronized
  have hY : Sy D 132 ad A s.heap (obC ad ci σ) s.heap [] := ⟨hP, hD, va_S.rf⟩
  have hl := lv_entry ([.ref (ad 0)]) (n := 5) (Nat.le_of_ble_eq_true rfl)
  rw [lg_entry_eq]
  generalize (lg_sl ([.ref (ad 0)]) ++ List.replicate (5 - (lg_sl ([.ref (ad 0)])).length) Slot.unset).toArray = ls at hl ⊢
  exact eX5_writeAll C0 hK K X σ (fun r u H locs pc ls hk hY hR hd => vx_ret (W.widen (Nat.zero_le _) (Nat.zero_le _) (w_iret (I := Rok) B.exec B.bytes B.returns hlocks hK hk (fun t ht => ht) hY hR hd))) (fun E text ik is ic pc av u H locs ls hx hY hR hsz hT => w_throw (I := Rok) B.exec B.bytes hlt (findClass_of_methodNamed B.named) hT hE ht hsz (Nat.lt_of_lt_of_le (by decide) (Nat.le_refl _)) (Nat.le_of_ble_eq_true rfl) (Nat.le_of_ble_eq_true rfl) (Nat.le_of_ble_eq_true rfl) hlocks hx hY hR) h _ _ hY hR ls hl
end
