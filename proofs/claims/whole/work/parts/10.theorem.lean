/-! the theorem: what each method does, as predicates over the state; the walks of their bytecode -/
def wX3_standTogether_J49 (K : Int32 → Prop) (B23 : Int32 → Prop) (σ : St) (x2 : Int32) (x3 : Int32) (x4 : Int32) (s0 : Int32) : Prop := wX4_rowAt σ x4 (fun r_1 => wX2_beginsWith σ r_1 128 (fun r_2 => ((s0 = r_2 → B23 (x4 + 1)) ∧ (¬ s0 = r_2 → K (0 : Int32)))))
def wX3_standTogether_J48 (K : Int32 → Prop) (B23 : Int32 → Prop) (σ : St) (x2 : Int32) (x3 : Int32) (x4 : Int32) : Prop := wX3_standTogether_J49 K B23 σ x2 x3 x4 (0 : Int32)
def wX3_standTogether_L23 (K : Int32 → Prop) (σ : St) (x2 : Int32) (x3 : Int32) : Nat → Int32 → Prop
  | 0, _ => False
  | n + 1, x4 => wX4_size σ (fun r_4 => ((r_4 ≤ x4 → K (1 : Int32)) ∧ (¬ r_4 ≤ x4 → ((x4 < x2 → wX3_standTogether_J48 K (wX3_standTogether_L23 K σ x2 x3 n) σ x2 x3 x4) ∧ (¬ x4 < x2 → ((x3 ≤ x4 → wX3_standTogether_J48 K (wX3_standTogether_L23 K σ x2 x3 n) σ x2 x3 x4) ∧ (¬ x3 ≤ x4 → wX3_standTogether_J49 K (wX3_standTogether_L23 K σ x2 x3 n) σ x2 x3 x4 (1 : Int32))))))))
def wX3_standTogether (σ : St) (K : Int32 → Prop) : Prop := wX4_countLess σ 128 (fun r_8 => wX4_countBegun σ 128 (fun r_9 => (∃ n : Nat, wX3_standTogether_L23 K σ r_8 (r_8 + r_9) n (0 : Int32))))
def wX3_beginningsHold_L13 (K : Int32 → St → Prop) (x1 : Nat) (x3 : Int32) : Nat → St → Int32 → Prop
  | 0, _, _ => False
  | n + 1, σ, x4 => ((x3 < x4 → K (1 : Int32) σ) ∧ (¬ x3 < x4 → wX2_becomePart σ 128 x1 (0 : Int32) x4 (fun σ_3 => wX3_standTogether σ_3 (fun r_4 => ((r_4 = 0 → K (0 : Int32) σ_3) ∧ (¬ r_4 = 0 → wX3_beginningsHold_L13 K x1 x3 n σ_3 (x4 + 1)))))))
def wX3_beginningsHold (σ : St) (x1 : Nat) (K : Int32 → St → Prop) : Prop := wX2_size σ x1 (fun r_6 => ∀ x3_7 : Int32, x3_7 = (if (10 : Int32) < r_6 then (10 : Int32) else r_6) → (∃ n : Nat, wX3_beginningsHold_L13 K x1 x3_7 n σ (0 : Int32)))
def wX3_longestByOrder (σ : St) (K : Int32 → St → Prop) : Prop := wX4_countNotGreater σ 128 (fun r_1 => ((0 ≤ (r_1 - (1 : Int32)) → wX4_rowAt σ (r_1 - (1 : Int32)) (fun r_3 => wX2_beginsWith σ 128 r_3 (fun r_4 => ((r_4 = 0 → wX2_common σ 128 r_3 (fun r_6 => wX2_becomePart σ 130 128 (0 : Int32) r_6 (fun σ_8 => wX4_longestAt σ_8 130 (0 : Int32) (fun r_9 => K r_9 σ_8)))) ∧ (¬ r_4 = 0 → wX2_size σ r_3 (fun r_10 => K r_10 σ)))))) ∧ (¬ 0 ≤ (r_1 - (1 : Int32)) → K (0 : Int32) σ)))
def wX3_longestHolds_L2 (K : Int32 → St → Prop) (x1 : Nat) : Nat → St → Int32 → Prop
  | 0, _, _ => False
  | n + 1, σ, x3 => wX2_size σ x1 (fun r_1 => ((r_1 < x3 → K (1 : Int32) σ) ∧ (¬ r_1 < x3 → wX2_size σ x1 (fun r_3 => wX2_becomePart σ 128 x1 x3 r_3 (fun σ_5 => wX4_longestAt σ_5 x1 x3 (fun r_6 => wX3_longestByOrder σ_5 (fun r_7 σ_8 => ((r_6 = r_7 → wX3_longestHolds_L2 K x1 n σ_8 (x3 + 1)) ∧ (¬ r_6 = r_7 → K (0 : Int32) σ_8)))))))))
def wX3_longestHolds (σ : St) (x1 : Nat) (K : Int32 → St → Prop) : Prop := (∃ n : Nat, wX3_longestHolds_L2 K x1 n σ (0 : Int32))
def wX3_commonHolds (σ : St) (x1 : Nat) (K : Int32 → Prop) : Prop := wX4_countNotGreater σ x1 (fun r_1 => wX4_rowAt σ (r_1 - (1 : Int32)) (fun r_2 => wX2_common σ x1 r_2 (fun r_3 => wX4_countLess σ x1 (fun r_4 => wX4_rowAt σ r_4 (fun r_5 => wX2_common σ x1 r_5 (fun r_6 => wX4_mostCommon σ x1 (fun r_7 => ((r_7 = (if r_3 < r_6 then r_6 else r_3) → K (1 : Int32)) ∧ (¬ r_7 = (if r_3 < r_6 then r_6 else r_3) → K (0 : Int32))))))))))
def wX3_twinsHold_L4 (K : Int32 → Prop) (σ : St) : Nat → Int32 → Int32 → Prop
  | 0, _, _ => False
  | n + 1, x2, x3 => wX4_size σ (fun r_1 => ((r_1 ≤ x3 → wX4_mostCommonOfTwo σ (fun r_3 => ((r_3 = x2 → K (1 : Int32)) ∧ (¬ r_3 = x2 → K (0 : Int32))))) ∧ (¬ r_1 ≤ x3 → wX4_rowAt σ (x3 - (1 : Int32)) (fun r_5 => wX4_rowAt σ x3 (fun r_6 => wX2_common σ r_5 r_6 (fun r_7 => ∀ x2_8 : Int32, x2_8 = (if x2 < r_7 then r_7 else x2) → wX3_twinsHold_L4 K σ n x2_8 (x3 + 1)))))))
def wX3_twinsHold (σ : St) (K : Int32 → Prop) : Prop := (∃ n : Nat, wX3_twinsHold_L4 K σ n (0 : Int32) (1 : Int32))
def wX3_cutsHold_L14 (K : Int32 → St → Prop) : Nat → St → Int64 → Int32 → Prop
  | 0, _, _, _ => False
  | n + 1, σ, x3, x5 => (((10 : Int32) < x5 → wX1_countWays σ (0 : Int32) (fun r_2 σ_3 => (((lg_cmp r_2 x3) = 0 → K (1 : Int32) σ_3) ∧ (¬ (lg_cmp r_2 x3) = 0 → K (0 : Int32) σ_3)))) ∧ (¬ (10 : Int32) < x5 → wX1_fitsAt σ (0 : Int32) x5 (fun r_5 => ((r_5 = 0 → wX3_cutsHold_L14 K n σ x3 (x5 + 1)) ∧ (¬ r_5 = 0 → wX1_countWays σ x5 (fun r_7 σ_8 => wX3_cutsHold_L14 K n σ_8 (x3 + r_7) (x5 + 1)))))))
def wX3_cutsHold (σ : St) (x1 : Nat) (K : Int32 → St → Prop) : Prop := wX2_size σ x1 (fun r_9 => ((r_9 = 0 → K (1 : Int32) σ) ∧ (¬ r_9 = 0 → (∃ n : Nat, wX3_cutsHold_L14 K n σ (0 : Int64) (1 : Int32)))))
def wX3_endsAreWords_L19 (K : Int32 → St → Prop) (B2 : St → Int32 → Prop) (x2 : Int32) (x3 : Nat) : Nat → St → Int32 → Prop
  | 0, _, _ => False
  | n + 1, σ, x4 => wX2_size σ x3 (fun r_1 => ((r_1 ≤ x4 → B2 σ (x2 + 1)) ∧ (¬ r_1 ≤ x4 → wX2_size σ x3 (fun r_3 => wX2_becomePart σ 128 x3 x4 r_3 (fun σ_5 => wX4_rankOf σ_5 128 (fun r_6 => ((r_6 = (-1 : Int32) → K (0 : Int32) σ_5) ∧ (¬ r_6 = (-1 : Int32) → wX3_endsAreWords_L19 K B2 x2 x3 n σ_5 (x4 + 1)))))))))
def wX3_endsAreWords_L2 (K : Int32 → St → Prop) : Nat → St → Int32 → Prop
  | 0, _, _ => False
  | n + 1, σ, x2 => wX4_size σ (fun r_8 => ((r_8 ≤ x2 → K (1 : Int32) σ) ∧ (¬ r_8 ≤ x2 → wX4_rowAt σ x2 (fun r_10 => (∃ nn : Nat, wX3_endsAreWords_L19 K (wX3_endsAreWords_L2 K n) x2 r_10 nn σ (1 : Int32))))))
def wX3_endsAreWords (σ : St) (K : Int32 → St → Prop) : Prop := (∃ n : Nat, wX3_endsAreWords_L2 K n σ (0 : Int32))
def wX3_fewestHolds (σ : St) (K : Int32 → St → Prop) : Prop := wX1_leastPieces σ (fun r_1 σ_2 => ((r_1 = (-1 : Int32) → K (1 : Int32) σ_2) ∧ (¬ r_1 = (-1 : Int32) → wX1_countLongest σ_2 (fun r_4 => ((r_4 = r_1 → K (1 : Int32) σ_2) ∧ (¬ r_4 = r_1 → wX3_endsAreWords σ_2 (fun r_6 σ_7 => ((r_6 = 0 → K (1 : Int32) σ_7) ∧ (¬ r_6 = 0 → K (0 : Int32) σ_7)))))))))
def wX3_keepsOrder (σ : St) (x0 : Int32) (x1 : Int32) (K : Int32 → Prop) : Prop := wX0_writtenAt σ x0 (fun r_1 => wX0_writtenAt σ x1 (fun r_2 => wX2_compareWith σ r_1 r_2 (fun r_3 => ((0 ≤ r_3 → K (0 : Int32)) ∧ (¬ 0 ≤ r_3 → wX2_beginsWith σ r_1 r_2 (fun r_5 => ((r_5 = 0 → wX2_beginsWith σ r_2 r_1 (fun r_7 => wX4_rowAt σ x1 (fun r_8 => wX4_rowAt σ x0 (fun r_9 => wX2_beginsWith σ r_8 r_9 (fun r_10 => ((r_7 = r_10 → K (1 : Int32)) ∧ (¬ r_7 = r_10 → K (0 : Int32)))))))) ∧ (¬ r_5 = 0 → K (0 : Int32)))))))))
def wX3_codesHold_L29 (K : Int32 → St → Prop) (B16 : Int32 → Prop) (σ : St) (x3 : Int32) : Nat → Int32 → Prop
  | 0, _ => False
  | n + 1, x4 => wX4_size σ (fun r_1 => ((r_1 ≤ x4 → B16 (x3 + 1)) ∧ (¬ r_1 ≤ x4 → wX3_keepsOrder σ x3 x4 (fun r_3 => ((r_3 = 0 → K (0 : Int32) σ) ∧ (¬ r_3 = 0 → wX3_codesHold_L29 K B16 σ x3 n (x4 + 1)))))))
def wX3_codesHold_L16 (K : Int32 → St → Prop) (σ : St) : Nat → Int32 → Prop
  | 0, _ => False
  | n + 1, x3 => wX4_size σ (fun r_5 => ((r_5 ≤ x3 → K (1 : Int32) σ) ∧ (¬ r_5 ≤ x3 → (∃ nn : Nat, wX3_codesHold_L29 K (wX3_codesHold_L16 K σ n) σ x3 nn (x3 + (1 : Int32))))))
def wX3_codesHold (σ : St) (K : Int32 → St → Prop) : Prop := wX0_isOrderly σ (fun r_8 => ((r_8 = 0 → K (1 : Int32) σ) ∧ (¬ r_8 = 0 → wX0_writeWords σ (fun σ_11 => (∃ n : Nat, wX3_codesHold_L16 K σ_11 n (0 : Int32))))))
abbrev rmX3_standTogether : Room := { frames := 3, cells := 0, slots := 0, locals := 67 }
theorem ddX3_standTogether : yX3_standTogether.cls = RX3 ∧ yX3_standTogether.cls ≠ "java/lang/invoke/MethodHandle" ∧ yX3_standTogether.cls ≠ "java/lang/invoke/VarHandle" ∧ (parseMethodDescriptor yX3_standTogether.desc).map (fun d => d.parameters.length) = some 1 := by decide +kernel
set_option maxRecDepth 20000 in
theorem kX3_standTogether_0 : Cond.fieldLink RX3 14 "Stemspan$Theorem" "part" "LStemspan$Row;" ∈ wsX3_standTogether := by decide +kernel
set_option maxRecDepth 20000 in
theorem kX3_standTogether_inX3 : ∀ w ∈ wsX30, w ∈ wsX3_standTogether := by decide +kernel
abbrev rmX3_beginningsHold : Room := { frames := 4, cells := 0, slots := 0, locals := 92 }
theorem ddX3_beginningsHold : yX3_beginningsHold.cls = RX3 ∧ yX3_beginningsHold.cls ≠ "java/lang/invoke/MethodHandle" ∧ yX3_beginningsHold.cls ≠ "java/lang/invoke/VarHandle" ∧ (parseMethodDescriptor yX3_beginningsHold.desc).map (fun d => d.parameters.length) = some 2 := by decide +kernel
set_option maxRecDepth 20000 in
theorem kX3_beginningsHold_0 : Cond.fieldLink RX3 14 "Stemspan$Theorem" "part" "LStemspan$Row;" ∈ wsX3_beginningsHold := by decide +kernel
set_option maxRecDepth 20000 in
theorem kX3_beginningsHold_inX3 : ∀ w ∈ wsX30, w ∈ wsX3_beginningsHold := by decide +kernel
set_option maxRecDepth 20000 in
theorem kX3_beginningsHold_2 : Cond.methodLink RX3 27 Lib.Math.min.name ∈ wsX3_beginningsHold := by decide +kernel
set_option maxRecDepth 20000 in
theorem kX3_beginningsHold_3 : Cond.static Lib.Math.min.name ∈ wsX3_beginningsHold := by decide +kernel
set_option maxRecDepth 20000 in
theorem kX3_beginningsHold_4 : Cond.initialized "java/lang/Math" ∈ wsX3_beginningsHold := by decide +kernel
set_option maxRecDepth 20000 in
theorem kX3_beginningsHold_5 : Cond.code Lib.Math.min.name Lib.Math.min.code 2 (some .int) ∈ wsX3_beginningsHold := by decide +kernel
abbrev rmX3_longestByOrder : Room := { frames := 3, cells := 0, slots := 0, locals := 66 }
theorem ddX3_longestByOrder : yX3_longestByOrder.cls = RX3 ∧ yX3_longestByOrder.cls ≠ "java/lang/invoke/MethodHandle" ∧ yX3_longestByOrder.cls ≠ "java/lang/invoke/VarHandle" ∧ (parseMethodDescriptor yX3_longestByOrder.desc).map (fun d => d.parameters.length) = some 1 := by decide +kernel
set_option maxRecDepth 20000 in
theorem kX3_longestByOrder_0 : Cond.fieldLink RX3 14 "Stemspan$Theorem" "part" "LStemspan$Row;" ∈ wsX3_longestByOrder := by decide +kernel
set_option maxRecDepth 20000 in
theorem kX3_longestByOrder_inX3 : ∀ w ∈ wsX30, w ∈ wsX3_longestByOrder := by decide +kernel
set_option maxRecDepth 20000 in
theorem kX3_longestByOrder_2 : Cond.fieldLink RX3 20 "Stemspan$Theorem" "both" "LStemspan$Row;" ∈ wsX3_longestByOrder := by decide +kernel
abbrev rmX3_longestHolds : Room := { frames := 4, cells := 0, slots := 0, locals := 89 }
theorem ddX3_longestHolds : yX3_longestHolds.cls = RX3 ∧ yX3_longestHolds.cls ≠ "java/lang/invoke/MethodHandle" ∧ yX3_longestHolds.cls ≠ "java/lang/invoke/VarHandle" ∧ (parseMethodDescriptor yX3_longestHolds.desc).map (fun d => d.parameters.length) = some 2 := by decide +kernel
set_option maxRecDepth 20000 in
theorem kX3_longestHolds_0 : Cond.fieldLink RX3 14 "Stemspan$Theorem" "part" "LStemspan$Row;" ∈ wsX3_longestHolds := by decide +kernel
set_option maxRecDepth 20000 in
theorem kX3_longestHolds_inX3 : ∀ w ∈ wsX30, w ∈ wsX3_longestHolds := by decide +kernel
abbrev rmX3_commonHolds : Room := { frames := 3, cells := 0, slots := 0, locals := 66 }
theorem ddX3_commonHolds : yX3_commonHolds.cls = RX3 ∧ yX3_commonHolds.cls ≠ "java/lang/invoke/MethodHandle" ∧ yX3_commonHolds.cls ≠ "java/lang/invoke/VarHandle" ∧ (parseMethodDescriptor yX3_commonHolds.desc).map (fun d => d.parameters.length) = some 2 := by decide +kernel
set_option maxRecDepth 20000 in
theorem kX3_commonHolds_0 : Cond.methodLink RX3 76 Lib.Math.max.name ∈ wsX3_commonHolds := by decide +kernel
set_option maxRecDepth 20000 in
theorem kX3_commonHolds_1 : Cond.static Lib.Math.max.name ∈ wsX3_commonHolds := by decide +kernel
set_option maxRecDepth 20000 in
theorem kX3_commonHolds_2 : Cond.initialized "java/lang/Math" ∈ wsX3_commonHolds := by decide +kernel
set_option maxRecDepth 20000 in
theorem kX3_commonHolds_3 : Cond.code Lib.Math.max.name Lib.Math.max.code 2 (some .int) ∈ wsX3_commonHolds := by decide +kernel
abbrev rmX3_twinsHold : Room := { frames := 2, cells := 0, slots := 0, locals := 45 }
theorem ddX3_twinsHold : yX3_twinsHold.cls = RX3 ∧ yX3_twinsHold.cls ≠ "java/lang/invoke/MethodHandle" ∧ yX3_twinsHold.cls ≠ "java/lang/invoke/VarHandle" ∧ (parseMethodDescriptor yX3_twinsHold.desc).map (fun d => d.parameters.length) = some 1 := by decide +kernel
set_option maxRecDepth 20000 in
theorem kX3_twinsHold_0 : Cond.methodLink RX3 76 Lib.Math.max.name ∈ wsX3_twinsHold := by decide +kernel
set_option maxRecDepth 20000 in
theorem kX3_twinsHold_1 : Cond.static Lib.Math.max.name ∈ wsX3_twinsHold := by decide +kernel
set_option maxRecDepth 20000 in
theorem kX3_twinsHold_2 : Cond.initialized "java/lang/Math" ∈ wsX3_twinsHold := by decide +kernel
set_option maxRecDepth 20000 in
theorem kX3_twinsHold_3 : Cond.code Lib.Math.max.name Lib.Math.max.code 2 (some .int) ∈ wsX3_twinsHold := by decide +kernel
abbrev rmX3_cutsHold : Room := { frames := 2, cells := 0, slots := 0, locals := 45 }
theorem ddX3_cutsHold : yX3_cutsHold.cls = RX3 ∧ yX3_cutsHold.cls ≠ "java/lang/invoke/MethodHandle" ∧ yX3_cutsHold.cls ≠ "java/lang/invoke/VarHandle" ∧ (parseMethodDescriptor yX3_cutsHold.desc).map (fun d => d.parameters.length) = some 2 := by decide +kernel
abbrev rmX3_endsAreWords : Room := { frames := 4, cells := 0, slots := 0, locals := 88 }
theorem ddX3_endsAreWords : yX3_endsAreWords.cls = RX3 ∧ yX3_endsAreWords.cls ≠ "java/lang/invoke/MethodHandle" ∧ yX3_endsAreWords.cls ≠ "java/lang/invoke/VarHandle" ∧ (parseMethodDescriptor yX3_endsAreWords.desc).map (fun d => d.parameters.length) = some 1 := by decide +kernel
set_option maxRecDepth 20000 in
theorem kX3_endsAreWords_0 : Cond.fieldLink RX3 14 "Stemspan$Theorem" "part" "LStemspan$Row;" ∈ wsX3_endsAreWords := by decide +kernel
set_option maxRecDepth 20000 in
theorem kX3_endsAreWords_inX3 : ∀ w ∈ wsX30, w ∈ wsX3_endsAreWords := by decide +kernel
abbrev rmX3_fewestHolds : Room := { frames := 5, cells := 0, slots := 0, locals := 112 }
theorem ddX3_fewestHolds : yX3_fewestHolds.cls = RX3 ∧ yX3_fewestHolds.cls ≠ "java/lang/invoke/MethodHandle" ∧ yX3_fewestHolds.cls ≠ "java/lang/invoke/VarHandle" ∧ (parseMethodDescriptor yX3_fewestHolds.desc).map (fun d => d.parameters.length) = some 2 := by decide +kernel
abbrev rmX3_keepsOrder : Room := { frames := 2, cells := 0, slots := 0, locals := 44 }
theorem ddX3_keepsOrder : yX3_keepsOrder.cls ≠ "java/lang/invoke/MethodHandle" ∧ yX3_keepsOrder.cls ≠ "java/lang/invoke/VarHandle" ∧ (parseMethodDescriptor yX3_keepsOrder.desc).map (fun d => d.parameters.length) = some 4 := by decide +kernel
abbrev rmX3_codesHold : Room := { frames := 4, cells := 0, slots := 0, locals := 88 }
theorem ddX3_codesHold : yX3_codesHold.cls = RX3 ∧ yX3_codesHold.cls ≠ "java/lang/invoke/MethodHandle" ∧ yX3_codesHold.cls ≠ "java/lang/invoke/VarHandle" ∧ (parseMethodDescriptor yX3_codesHold.desc).map (fun d => d.parameters.length) = some 2 := by decide +kernel
section
variable {p : Program} {l : Launch} {e : Env} {s : State} {m : MethodId} {args : Array Value} {below : List Frame} {meth : Method} {c : Code} {Q : State → Prop} {D : va_G} {ad : Nat → Nat} {ci : Nat → ClassId} {A : Nat → Prop} {H0 : Heap}
set_option maxHeartbeats 4000000 in
set_option maxRecDepth 100000 in
theorem tX3_standTogether_J49 (C0 : CallFix p m c cX3_standTogether 6 s args wsX3_standTogether RX3) (hK : Kx D (tyC ci) s) (K : Int32 → Prop) (B23 : Int32 → Prop) (σ : St) (x2 : Int32) (x3 : Int32) (x4 : Int32) (s0 : Int32) (hret : ∀ (r : Int32) (H : Heap) (locs : List Loc) (pc : Nat) (ls : Array Slot), narrow .boolean (.int r) = .int r → K r → Sy D 132 ad A H0 (obC ad ci σ) H locs → decode cX3_standTogether pc = .ok (.ireturn, 1) → W p l e rmX3_standTogether s m args below meth c H locs 0 0 Q (F0 m pc ls [.int r])) (hB23 : ∀ (x4 : Int32), B23 x4 → ∀ (H : Heap) (locs : List Loc), Sy D 132 ad A H0 (obC ad ci σ) H locs → Rok σ → ∀ ls : Array Slot, lv_has ls 6 [(0, .ref (ad 127)), (1, .ref (ad 5)), (2, .int x2), (3, .int x3), (4, .int x4)] → W p l e rmX3_standTogether s m args below meth c H locs 0 0 Q (F0 m 23 ls [])) (h : wX3_standTogether_J49 K B23 σ x2 x3 x4 s0) (H : Heap) (locs : List Loc) (hY : Sy D 132 ad A H0 (obC ad ci σ) H locs) (hR : Rok σ) (ls : Array Slot) (hl : lv_has ls 6 [(0, .ref (ad 127)), (1, .ref (ad 5)), (2, .int x2), (3, .int x3), (4, .int x4)]) : W p l e rmX3_standTogether s m args below meth c H locs 0 0 Q (F0 m 49 ls [.int s0]) := by
  obtain ⟨hx, hb, hml, hown, hts⟩ := id C0
  refine lv_istore (lv' := [(5, .int s0), (0, .ref (ad 127)), (1, .ref (ad 5)), (2, .int x2), (3, .int x3), (4, .int x4)]) hx hb dX3_standTogether_49 hl (by decide) rfl (fun ls hl => ?_)
  refine lv_iload hx hb dX3_standTogether_51 (lv_at hl 0 rfl) ?_
  refine lv_aload_n hx hb dX3_standTogether_53 rfl (lv_at hl 2 rfl) ?_
  refine lv_iload hx hb dX3_standTogether_54 (lv_at hl 5 rfl) ?_
  refine w_callrp (rest := [.int s0]) (va_runV (As := [.int x4]) (rest := [.int s0]) C0 (mX4_rowAt l D ad ci A σ x4 _ hR  h) (cwV 1 hts gX3_standTogether_X4_rowAt rfl rfl rfl ddX4_rowAt ⟨Nat.le_of_ble_eq_true rfl, Nat.le_of_ble_eq_true rfl⟩) (w_preV (o := 5) (ci := 4) (ob := obC ad ci) (σ := σ) hK hY (by decide) obC_list rfl rfl) rfl rfl hl.1 rfl (lv_room (Nat.le_of_ble_eq_true rfl)) dX3_standTogether_56 ⟨Nat.zero_le _, Nat.zero_le _⟩) hY (fun r_1 H locs h hY => ?_)
  obtain ⟨rr_1, h⟩ := h
  refine lv_aload_n hx hb dX3_standTogether_59 rfl (lv_at hl 1 rfl) ?_
  refine w_get (o := 127) (ci := 3) (C := RX3) (T := TX3) (N1 := 2) (v := .ref (ad 128)) hx hb hts kX3_standTogether_inX3 hown hK.1 hY (by decide) obC_thm rfl 0 (by decide) (hts _ kX3_standTogether_0) rfl rfl dX3_standTogether_60 ?_
  refine w_callip (rest := [.int s0]) (va_runV (As := [.ref (ad 128)]) (rest := [.int s0]) C0 (mX2_beginsWith l D ad ci A σ r_1 128 _ hR rr_1 (by decide) h) (cwV 1 hts gX3_standTogether_X2_beginsWith rfl rfl rfl ddX2_beginsWith ⟨Nat.le_of_ble_eq_true rfl, Nat.le_of_ble_eq_true rfl⟩) (w_preV (o := r_1) (ci := 2) (ob := obC ad ci) (σ := σ) hK hY (rowB_lt rr_1) (obC_row rr_1) rfl rfl) rfl rfl hl.1 rfl (lv_room (Nat.le_of_ble_eq_true rfl)) dX3_standTogether_63 ⟨Nat.zero_le _, Nat.zero_le _⟩) hY (fun r_2 H locs h hY => ?_)
  obtain ⟨n_r_2, h⟩ := h
  refine lv_icmp_eq (tgt := 71) hx hb dX3_standTogether_66 (by decide) (fun c_3 => ?_) (fun c_3 => ?_)
  · have h := h.1 c_3
    refine lv_iinc (v := (x4 + 1)) (lv' := [(4, .int (x4 + 1)), (5, .int s0), (0, .ref (ad 127)), (1, .ref (ad 5)), (2, .int x2), (3, .int x3)]) hx hb dX3_standTogether_71 hl (k := 5) rfl rfl (by decide) rfl (fun ls hl => ?_)
    refine lv_goto (tgt := 23) hx hb dX3_standTogether_74 (by decide) ?_
    exact hB23 (x4 + 1) h _ _ hY hR  _ (lv_sub hl [2, 3, 4, 5, 0] rfl)
  · have h := h.2 c_3
    refine lv_iconst (v := (0 : Int32)) hx hb dX3_standTogether_69 (by decide) ?_
    exact hret (0 : Int32) _ _ _ _ rfl h hY dX3_standTogether_70
set_option maxHeartbeats 4000000 in
set_option maxRecDepth 100000 in
theorem tX3_standTogether_J48 (C0 : CallFix p m c cX3_standTogether 6 s args wsX3_standTogether RX3) (hK : Kx D (tyC ci) s) (K : Int32 → Prop) (B23 : Int32 → Prop) (σ : St) (x2 : Int32) (x3 : Int32) (x4 : Int32) (hret : ∀ (r : Int32) (H : Heap) (locs : List Loc) (pc : Nat) (ls : Array Slot), narrow .boolean (.int r) = .int r → K r → Sy D 132 ad A H0 (obC ad ci σ) H locs → decode cX3_standTogether pc = .ok (.ireturn, 1) → W p l e rmX3_standTogether s m args below meth c H locs 0 0 Q (F0 m pc ls [.int r])) (hB23 : ∀ (x4 : Int32), B23 x4 → ∀ (H : Heap) (locs : List Loc), Sy D 132 ad A H0 (obC ad ci σ) H locs → Rok σ → ∀ ls : Array Slot, lv_has ls 6 [(0, .ref (ad 127)), (1, .ref (ad 5)), (2, .int x2), (3, .int x3), (4, .int x4)] → W p l e rmX3_standTogether s m args below meth c H locs 0 0 Q (F0 m 23 ls [])) (h : wX3_standTogether_J48 K B23 σ x2 x3 x4) (H : Heap) (locs : List Loc) (hY : Sy D 132 ad A H0 (obC ad ci σ) H locs) (hR : Rok σ) (ls : Array Slot) (hl : lv_has ls 6 [(0, .ref (ad 127)), (1, .ref (ad 5)), (2, .int x2), (3, .int x3), (4, .int x4)]) : W p l e rmX3_standTogether s m args below meth c H locs 0 0 Q (F0 m 48 ls []) := by
  obtain ⟨hx, hb, hml, hown, hts⟩ := id C0
  refine lv_iconst (v := (0 : Int32)) hx hb dX3_standTogether_48 (by decide) ?_
  exact tX3_standTogether_J49 C0 hK K B23 σ x2 x3 x4 (0 : Int32) hret hB23 h _ _ hY hR _ (lv_sub hl [0, 1, 2, 3, 4] rfl)
set_option maxHeartbeats 4000000 in
set_option maxRecDepth 100000 in
theorem tX3_standTogether_L23 (C0 : CallFix p m c cX3_standTogether 6 s args wsX3_standTogether RX3) (hK : Kx D (tyC ci) s) (K : Int32 → Prop) (σ : St) (x2 : Int32) (x3 : Int32) (hret : ∀ (r : Int32) (H : Heap) (locs : List Loc) (pc : Nat) (ls : Array Slot), narrow .boolean (.int r) = .int r → K r → Sy D 132 ad A H0 (obC ad ci σ) H locs → decode cX3_standTogether pc = .ok (.ireturn, 1) → W p l e rmX3_standTogether s m args below meth c H locs 0 0 Q (F0 m pc ls [.int r])) : ∀ (n : Nat) (x4 : Int32), wX3_standTogether_L23 K σ x2 x3 n x4 → ∀ (H : Heap) (locs : List Loc), Sy D 132 ad A H0 (obC ad ci σ) H locs → Rok σ → ∀ ls : Array Slot, lv_has ls 6 [(0, .ref (ad 127)), (1, .ref (ad 5)), (2, .int x2), (3, .int x3), (4, .int x4)] → W p l e rmX3_standTogether s m args below meth c H locs 0 0 Q (F0 m 23 ls []) := by
  obtain ⟨hx, hb, hml, hown, hts⟩ := id C0
  intro n
  induction n with
  | zero =>
    intro x4 h
    exact h.elim
  | succ n ih =>
    intro x4 h H locs hY hR  ls hl
    refine lv_iload hx hb dX3_standTogether_23 (lv_at hl 4 rfl) ?_
    refine lv_aload_n hx hb dX3_standTogether_25 rfl (lv_at hl 1 rfl) ?_
    refine w_callip (rest := [.int x4]) (va_runV (As := []) (rest := [.int x4]) C0 (mX4_size l D ad ci A σ _ hR  h) (cwV 0 hts gX3_standTogether_X4_size rfl rfl rfl ddX4_size ⟨Nat.le_of_ble_eq_true rfl, Nat.le_of_ble_eq_true rfl⟩) (w_preV (o := 5) (ci := 4) (ob := obC ad ci) (σ := σ) hK hY (by decide) obC_list rfl rfl) rfl rfl hl.1 rfl (lv_room (Nat.le_of_ble_eq_true rfl)) dX3_standTogether_26 ⟨Nat.zero_le _, Nat.zero_le _⟩) hY (fun r_4 H locs h hY => ?_)
    refine lv_icmp_ge (tgt := 77) hx hb dX3_standTogether_29 (by decide) (fun c_5 => ?_) (fun c_5 => ?_)
    · have h := h.1 c_5
      refine lv_iconst (v := (1 : Int32)) hx hb dX3_standTogether_77 (by decide) ?_
      exact hret (1 : Int32) _ _ _ _ rfl h hY dX3_standTogether_78
    · have h := h.2 c_5
      refine lv_iload hx hb dX3_standTogether_32 (lv_at hl 4 rfl) ?_
      refine lv_iload_n hx hb dX3_standTogether_34 rfl (lv_at hl 2 rfl) ?_
      refine lv_icmp_lt (tgt := 48) hx hb dX3_standTogether_35 (by decide) (fun c_6 => ?_) (fun c_6 => ?_)
      · have h := h.1 c_6
        exact tX3_standTogether_J48 C0 hK K (wX3_standTogether_L23 K σ x2 x3 n) σ x2 x3 x4 hret ih h _ _ hY hR _ (lv_sub hl [0, 1, 2, 3, 4] rfl)
      · have h := h.2 c_6
        refine lv_iload hx hb dX3_standTogether_38 (lv_at hl 4 rfl) ?_
        refine lv_iload_n hx hb dX3_standTogether_40 rfl (lv_at hl 3 rfl) ?_
        refine lv_icmp_ge (tgt := 48) hx hb dX3_standTogether_41 (by decide) (fun c_7 => ?_) (fun c_7 => ?_)
        · have h := h.1 c_7
          exact tX3_standTogether_J48 C0 hK K (wX3_standTogether_L23 K σ x2 x3 n) σ x2 x3 x4 hret ih h _ _ hY hR _ (lv_sub hl [0, 1, 2, 3, 4] rfl)
        · have h := h.2 c_7
          refine lv_iconst (v := (1 : Int32)) hx hb dX3_standTogether_44 (by decide) ?_
          refine lv_goto (tgt := 49) hx hb dX3_standTogether_45 (by decide) ?_
          exact tX3_standTogether_J49 C0 hK K (wX3_standTogether_L23 K σ x2 x3 n) σ x2 x3 x4 (1 : Int32) hret ih h _ _ hY hR _ (lv_sub hl [0, 1, 2, 3, 4] rfl)
set_option maxHeartbeats 4000000 in
set_option maxRecDepth 100000 in
theorem eX3_standTogether (C0 : CallFix p m c cX3_standTogether 6 s args wsX3_standTogether RX3) (hK : Kx D (tyC ci) s) (K : Int32 → Prop) (σ : St) (hret : ∀ (r : Int32) (H : Heap) (locs : List Loc) (pc : Nat) (ls : Array Slot), narrow .boolean (.int r) = .int r → K r → Sy D 132 ad A H0 (obC ad ci σ) H locs → decode cX3_standTogether pc = .ok (.ireturn, 1) → W p l e rmX3_standTogether s m args below meth c H locs 0 0 Q (F0 m pc ls [.int r])) (h : wX3_standTogether σ K) (H : Heap) (locs : List Loc) (hY : Sy D 132 ad A H0 (obC ad ci σ) H locs) (hR : Rok σ) (ls : Array Slot) (hl : lv_has ls 6 [(0, .ref (ad 127)), (1, .ref (ad 5))]) : W p l e rmX3_standTogether s m args below meth c H locs 0 0 Q (F0 m 0 ls []) := by
  obtain ⟨hx, hb, hml, hown, hts⟩ := id C0
  refine lv_aload_n hx hb dX3_standTogether_0 rfl (lv_at hl 1 rfl) ?_
  refine lv_aload_n hx hb dX3_standTogether_1 rfl (lv_at hl 0 rfl) ?_
  refine w_get (o := 127) (ci := 3) (C := RX3) (T := TX3) (N1 := 2) (v := .ref (ad 128)) hx hb hts kX3_standTogether_inX3 hown hK.1 hY (by decide) obC_thm rfl 0 (by decide) (hts _ kX3_standTogether_0) rfl rfl dX3_standTogether_2 ?_
  refine w_callip (rest := []) (va_runV (As := [.ref (ad 128)]) (rest := []) C0 (mX4_countLess l D ad ci A σ 128 _ hR (by decide) h) (cwV 1 hts gX3_standTogether_X4_countLess rfl rfl rfl ddX4_countLess ⟨Nat.le_of_ble_eq_true rfl, Nat.le_of_ble_eq_true rfl⟩) (w_preV (o := 5) (ci := 4) (ob := obC ad ci) (σ := σ) hK hY (by decide) obC_list rfl rfl) rfl rfl hl.1 rfl (lv_room (Nat.le_of_ble_eq_true rfl)) dX3_standTogether_5 ⟨Nat.zero_le _, Nat.zero_le _⟩) hY (fun r_8 H locs h hY => ?_)
  refine lv_istore_n (lv' := [(2, .int r_8), (0, .ref (ad 127)), (1, .ref (ad 5))]) hx hb dX3_standTogether_8 rfl hl (by decide) rfl (fun ls hl => ?_)
  refine lv_iload_n hx hb dX3_standTogether_9 rfl (lv_at hl 0 rfl) ?_
  refine lv_aload_n hx hb dX3_standTogether_10 rfl (lv_at hl 2 rfl) ?_
  refine lv_aload_n hx hb dX3_standTogether_11 rfl (lv_at hl 1 rfl) ?_
  refine w_get (o := 127) (ci := 3) (C := RX3) (T := TX3) (N1 := 2) (v := .ref (ad 128)) hx hb hts kX3_standTogether_inX3 hown hK.1 hY (by decide) obC_thm rfl 0 (by decide) (hts _ kX3_standTogether_0) rfl rfl dX3_standTogether_12 ?_
  refine w_callip (rest := [.int r_8]) (va_runV (As := [.ref (ad 128)]) (rest := [.int r_8]) C0 (mX4_countBegun l D ad ci A σ 128 _ hR (by decide) h) (cwV 1 hts gX3_standTogether_X4_countBegun rfl rfl rfl ddX4_countBegun ⟨Nat.le_of_ble_eq_true rfl, Nat.le_of_ble_eq_true rfl⟩) (w_preV (o := 5) (ci := 4) (ob := obC ad ci) (σ := σ) hK hY (by decide) obC_list rfl rfl) rfl rfl hl.1 rfl (lv_room (Nat.le_of_ble_eq_true rfl)) dX3_standTogether_15 ⟨Nat.zero_le _, Nat.zero_le _⟩) hY (fun r_9 H locs h hY => ?_)
  refine lv_iadd hx hb dX3_standTogether_18 ?_
  refine lv_istore_n (lv' := [(3, .int (r_8 + r_9)), (2, .int r_8), (0, .ref (ad 127)), (1, .ref (ad 5))]) hx hb dX3_standTogether_19 rfl hl (by decide) rfl (fun ls hl => ?_)
  refine lv_iconst (v := (0 : Int32)) hx hb dX3_standTogether_20 (by decide) ?_
  refine lv_istore (lv' := [(4, .int (0 : Int32)), (3, .int (r_8 + r_9)), (2, .int r_8), (0, .ref (ad 127)), (1, .ref (ad 5))]) hx hb dX3_standTogether_21 hl (by decide) rfl (fun ls hl => ?_)
  obtain ⟨n_10, h⟩ := h
  exact tX3_standTogether_L23 C0 hK K σ r_8 (r_8 + r_9) hret n_10 (0 : Int32) h _ _ hY hR  _ (lv_sub hl [3, 4, 2, 1, 0] rfl)
set_option maxHeartbeats 4000000 in
set_option maxRecDepth 100000 in
theorem mX3_standTogether (l : Launch) (D : va_G) (ad : Nat → Nat) (ci : Nat → ClassId) (A : Nat → Prop) (σ : St) (K : Int32 → Prop) (hR : Rok σ) (h : wX3_standTogether σ K) : Met l yX3_standTogether wsX3_standTogether rmX3_standTogether (va_Pc [.ref (ad 127), .ref (ad 5)] (PreW D 132 ad A (tyC ci) (obC ad ci σ))) (va_Qi (fun r (_ : Unit) => narrow .boolean (.int r) = .int r ∧ K r) (fun _ => (PostW D 132 ad (tyC ci) (obC ad ci) Rok σ)) A) 0 0 A := by
  refine Met.ofW (cc := cX3_standTogether) (maxL := 6) (ret := (some .boolean)) (by decide) rfl ?_
  intro p e s m args below meth c s₁ B hml hv
  obtain ⟨rfl, hP, hK, hD⟩ := hv
  have C0 : CallFix p m c cX3_standTogether 6 s _ wsX3_standTogether RX3 := ⟨B.exec, B.bytes, hml, findClass_of_methodNamed B.named, atoms_spec (ws := wsX3_standTogether) B.pre⟩
  have hlocks := B.notSynchronized
  have hY : Sy D 132 ad A s.heap (obC ad ci σ) s.heap [] := ⟨hP, hD, va_S.rf⟩
  have hl := lv_entry ([.ref (ad 127), .ref (ad 5)]) (n := 6) (Nat.le_of_ble_eq_true rfl)
  rw [lg_entry_eq]
  generalize (lg_sl ([.ref (ad 127), .ref (ad 5)]) ++ List.replicate (6 - (lg_sl ([.ref (ad 127), .ref (ad 5)])).length) Slot.unset).toArray = ls at hl ⊢
  exact eX3_standTogether C0 hK K σ (fun r H locs pc ls hn hk hY hd => w_zret (I := Rok) B.exec B.bytes B.returns hn hlocks (u := ()) hK ⟨hn, hk⟩ (fun t ht => ht) hY hR hd) h _ _ hY hR ls hl
set_option maxHeartbeats 4000000 in
set_option maxRecDepth 100000 in
theorem tX3_beginningsHold_L13 (C0 : CallFix p m c cX3_beginningsHold 5 s args wsX3_beginningsHold RX3) (hK : Kx D (tyC ci) s) (K : Int32 → St → Prop) (x1 : Nat) (x3 : Int32) (hret : ∀ (r : Int32) (u : St) (H : Heap) (locs : List Loc) (pc : Nat) (ls : Array Slot), narrow .boolean (.int r) = .int r → K r u → Sy D 132 ad A H0 (obC ad ci u) H locs → Rok u → decode cX3_beginningsHold pc = .ok (.ireturn, 1) → W p l e rmX3_beginningsHold s m args below meth c H locs 0 0 Q (F0 m pc ls [.int r])) (rx1 : rowB x1 = true) : ∀ (n : Nat) (σ : St) (x4 : Int32), wX3_beginningsHold_L13 K x1 x3 n σ x4 → ∀ (H : Heap) (locs : List Loc), Sy D 132 ad A H0 (obC ad ci σ) H locs → Rok σ → ∀ ls : Array Slot, lv_has ls 5 [(0, .ref (ad 127)), (1, .ref (ad x1)), (2, .ref (ad 5)), (3, .int x3), (4, .int x4)] → W p l e rmX3_beginningsHold s m args below meth c H locs 0 0 Q (F0 m 13 ls []) := by
  obtain ⟨hx, hb, hml, hown, hts⟩ := id C0
  intro n
  induction n with
  | zero =>
    intro σ x4 h
    exact h.elim
  | succ n ih =>
    intro σ x4 h H locs hY hR  ls hl
    refine lv_iload hx hb dX3_beginningsHold_13 (lv_at hl 4 rfl) ?_
    refine lv_iload_n hx hb dX3_beginningsHold_15 rfl (lv_at hl 3 rfl) ?_
    refine lv_icmp_gt (tgt := 46) hx hb dX3_beginningsHold_16 (by decide) (fun c_1 => ?_) (fun c_1 => ?_)
    · have h := h.1 c_1
      refine lv_iconst (v := (1 : Int32)) hx hb dX3_beginningsHold_46 (by decide) ?_
      exact hret (1 : Int32) σ _ _ _ _ rfl h hY hR dX3_beginningsHold_47
    · have h := h.2 c_1
      refine lv_aload_n hx hb dX3_beginningsHold_19 rfl (lv_at hl 0 rfl) ?_
      refine w_get (o := 127) (ci := 3) (C := RX3) (T := TX3) (N1 := 2) (v := .ref (ad 128)) hx hb hts kX3_beginningsHold_inX3 hown hK.1 hY (by decide) obC_thm rfl 0 (by decide) (hts _ kX3_beginningsHold_0) rfl rfl dX3_beginningsHold_20 ?_
      refine lv_aload_n hx hb dX3_beginningsHold_23 rfl (lv_at hl 1 rfl) ?_
      refine lv_iconst (v := (0 : Int32)) hx hb dX3_beginningsHold_24 (by decide) ?_
      refine lv_iload hx hb dX3_beginningsHold_25 (lv_at hl 4 rfl) ?_
      refine w_callv (rest := []) (va_runV (As := [.ref (ad x1), .int (0 : Int32), .int x4]) (rest := []) C0 (mX2_becomePart l D ad ci A σ 128 x1 (0 : Int32) x4 _ hR (by decide) rx1 h) (cwV 3 hts gX3_beginningsHold_X2_becomePart rfl rfl rfl ddX2_becomePart ⟨Nat.le_of_ble_eq_true rfl, Nat.le_of_ble_eq_true rfl⟩) (w_preV (o := 128) (ci := 2) (ob := obC ad ci) (σ := σ) hK hY (rowB_lt (by decide)) (obC_row (by decide)) rfl rfl) rfl rfl hl.1 rfl (lv_room (Nat.le_of_ble_eq_true rfl)) dX3_beginningsHold_27 ⟨Nat.zero_le _, Nat.zero_le _⟩) hY (fun σ_3 H locs h hY hR_σ_3 => ?_)
      refine lv_aload_n hx hb dX3_beginningsHold_30 rfl (lv_at hl 0 rfl) ?_
      refine lv_aload_n hx hb dX3_beginningsHold_31 rfl (lv_at hl 2 rfl) ?_
      refine w_callip (rest := []) (va_runV (As := [.ref (ad 5)]) (rest := []) C0 (mX3_standTogether l D ad ci A σ_3 _ hR_σ_3  h) (cwV 1 hts gX3_beginningsHold_X3_standTogether rfl rfl rfl ddX3_standTogether ⟨Nat.le_of_ble_eq_true rfl, Nat.le_of_ble_eq_true rfl⟩) (w_preV (o := 127) (ci := 3) (ob := obC ad ci) (σ := σ_3) hK hY (by decide) obC_thm rfl rfl) rfl rfl hl.1 rfl (lv_room (Nat.le_of_ble_eq_true rfl)) dX3_beginningsHold_32 ⟨Nat.zero_le _, Nat.zero_le _⟩) hY (fun r_4 H locs h hY => ?_)
      obtain ⟨n_r_4, h⟩ := h
      refine lv_if_ne (tgt := 40) hx hb dX3_beginningsHold_35 (by decide) (fun c_5 => ?_) (fun c_5 => ?_)
      · have h := h.2 c_5
        refine lv_iinc (v := (x4 + 1)) (lv' := [(4, .int (x4 + 1)), (0, .ref (ad 127)), (1, .ref (ad x1)), (2, .ref (ad 5)), (3, .int x3)]) hx hb dX3_beginningsHold_40 hl (k := 4) rfl rfl (by decide) rfl (fun ls hl => ?_)
        refine lv_goto (tgt := 13) hx hb dX3_beginningsHold_43 (by decide) ?_
        exact ih σ_3 (x4 + 1) h _ _ hY hR_σ_3  _ (lv_sub hl [1, 2, 3, 4, 0] rfl)
      · have h := h.1 c_5
        refine lv_iconst (v := (0 : Int32)) hx hb dX3_beginningsHold_38 (by decide) ?_
        exact hret (0 : Int32) σ_3 _ _ _ _ rfl h hY hR_σ_3 dX3_beginningsHold_39
set_option maxHeartbeats 4000000 in
set_option maxRecDepth 100000 in
theorem eX3_beginningsHold (C0 : CallFix p m c cX3_beginningsHold 5 s args wsX3_beginningsHold RX3) (hK : Kx D (tyC ci) s) (K : Int32 → St → Prop) (σ : St) (hret : ∀ (r : Int32) (u : St) (H : Heap) (locs : List Loc) (pc : Nat) (ls : Array Slot), narrow .boolean (.int r) = .int r → K r u → Sy D 132 ad A H0 (obC ad ci u) H locs → Rok u → decode cX3_beginningsHold pc = .ok (.ireturn, 1) → W p l e rmX3_beginningsHold s m args below meth c H locs 0 0 Q (F0 m pc ls [.int r])) (x1 : Nat) (rx1 : rowB x1 = true) (h : wX3_beginningsHold σ x1 K) (H : Heap) (locs : List Loc) (hY : Sy D 132 ad A H0 (obC ad ci σ) H locs) (hR : Rok σ) (ls : Array Slot) (hl : lv_has ls 5 [(0, .ref (ad 127)), (1, .ref (ad x1)), (2, .ref (ad 5))]) : W p l e rmX3_beginningsHold s m args below meth c H locs 0 0 Q (F0 m 0 ls []) := by
  obtain ⟨hx, hb, hml, hown, hts⟩ := id C0
  refine lv_aload_n hx hb dX3_beginningsHold_0 rfl (lv_at hl 1 rfl) ?_
  refine w_callip (rest := []) (va_runV (As := []) (rest := []) C0 (mX2_size l D ad ci A σ x1 _ hR rx1 h) (cwV 0 hts gX3_beginningsHold_X2_size rfl rfl rfl ddX2_size ⟨Nat.le_of_ble_eq_true rfl, Nat.le_of_ble_eq_true rfl⟩) (w_preV (o := x1) (ci := 2) (ob := obC ad ci) (σ := σ) hK hY (rowB_lt rx1) (obC_row rx1) rfl rfl) rfl rfl hl.1 rfl (lv_room (Nat.le_of_ble_eq_true rfl)) dX3_beginningsHold_1 ⟨Nat.zero_le _, Nat.zero_le _⟩) hY (fun r_6 H locs h hY => ?_)
  refine lv_bipush (v := (10 : Int32)) hx hb dX3_beginningsHold_4 (by decide) ?_
  refine va_mmin hx hb (hml.trans hl.1.symm) hown (hts _ kX3_beginningsHold_2) (hts _ kX3_beginningsHold_3) (hts _ kX3_beginningsHold_4) (hts _ kX3_beginningsHold_5) (Nat.le_of_ble_eq_true rfl) (Nat.le_of_ble_eq_true rfl) (Nat.zero_le _) (Nat.zero_le _) dX3_beginningsHold_6 ?_
  refine lv_topi (fun x3_7 e_x3_7 => ?_)
  have h := h x3_7 e_x3_7
  refine lv_istore_n (lv' := [(3, .int x3_7), (0, .ref (ad 127)), (1, .ref (ad x1)), (2, .ref (ad 5))]) hx hb dX3_beginningsHold_9 rfl hl (by decide) rfl (fun ls hl => ?_)
  refine lv_iconst (v := (0 : Int32)) hx hb dX3_beginningsHold_10 (by decide) ?_
  refine lv_istore (lv' := [(4, .int (0 : Int32)), (3, .int x3_7), (0, .ref (ad 127)), (1, .ref (ad x1)), (2, .ref (ad 5))]) hx hb dX3_beginningsHold_11 hl (by decide) rfl (fun ls hl => ?_)
  obtain ⟨n_8, h⟩ := h
  exact tX3_beginningsHold_L13 C0 hK K x1 x3_7 hret rx1 n_8 σ (0 : Int32) h _ _ hY hR  _ (lv_sub hl [2, 3, 4, 1, 0] rfl)
set_option maxHeartbeats 4000000 in
set_option maxRecDepth 100000 in
theorem mX3_beginningsHold (l : Launch) (D : va_G) (ad : Nat → Nat) (ci : Nat → ClassId) (A : Nat → Prop) (σ : St) (x1 : Nat) (K : Int32 → St → Prop) (hR : Rok σ) (rx1 : rowB x1 = true) (h : wX3_beginningsHold σ x1 K) : Met l yX3_beginningsHold wsX3_beginningsHold rmX3_beginningsHold (va_Pc [.ref (ad 127), .ref (ad x1), .ref (ad 5)] (PreW D 132 ad A (tyC ci) (obC ad ci σ))) (va_Qi (fun r u => narrow .boolean (.int r) = .int r ∧ K r u) (PostW D 132 ad (tyC ci) (obC ad ci) Rok) A) 0 0 A := by
  refine Met.ofW (cc := cX3_beginningsHold) (maxL := 5) (ret := (some .boolean)) (by decide) rfl ?_
  intro p e s m args below meth c s₁ B hml hv
  obtain ⟨rfl, hP, hK, hD⟩ := hv
  have C0 : CallFix p m c cX3_beginningsHold 5 s _ wsX3_beginningsHold RX3 := ⟨B.exec, B.bytes, hml, findClass_of_methodNamed B.named, atoms_spec (ws := wsX3_beginningsHold) B.pre⟩
  have hlocks := B.notSynchronized
  have hY : Sy D 132 ad A s.heap (obC ad ci σ) s.heap [] := ⟨hP, hD, va_S.rf⟩
  have hl := lv_entry ([.ref (ad 127), .ref (ad x1), .ref (ad 5)]) (n := 5) (Nat.le_of_ble_eq_true rfl)
  rw [lg_entry_eq]
  generalize (lg_sl ([.ref (ad 127), .ref (ad x1), .ref (ad 5)]) ++ List.replicate (5 - (lg_sl ([.ref (ad 127), .ref (ad x1), .ref (ad 5)])).length) Slot.unset).toArray = ls at hl ⊢
  exact eX3_beginningsHold C0 hK K σ (fun r u H locs pc ls hn hk hY hR hd => w_zret (I := Rok) B.exec B.bytes B.returns hn hlocks hK ⟨hn, hk⟩ (fun t ht => ht) hY hR hd) x1 rx1 h _ _ hY hR ls hl
set_option maxHeartbeats 4000000 in
set_option maxRecDepth 100000 in
theorem eX3_longestByOrder (C0 : CallFix p m c cX3_longestByOrder 4 s args wsX3_longestByOrder RX3) (hK : Kx D (tyC ci) s) (K : Int32 → St → Prop) (σ : St) (hret : ∀ (r : Int32) (u : St) (H : Heap) (locs : List Loc) (pc : Nat) (ls : Array Slot), K r u → Sy D 132 ad A H0 (obC ad ci u) H locs → Rok u → decode cX3_longestByOrder pc = .ok (.ireturn, 1) → W p l e rmX3_longestByOrder s m args below meth c H locs 0 0 Q (F0 m pc ls [.int r])) (h : wX3_longestByOrder σ K) (H : Heap) (locs : List Loc) (hY : Sy D 132 ad A H0 (obC ad ci σ) H locs) (hR : Rok σ) (ls : Array Slot) (hl : lv_has ls 4 [(0, .ref (ad 127)), (1, .ref (ad 5))]) : W p l e rmX3_longestByOrder s m args below meth c H locs 0 0 Q (F0 m 0 ls []) := by
  obtain ⟨hx, hb, hml, hown, hts⟩ := id C0
  refine lv_aload_n hx hb dX3_longestByOrder_0 rfl (lv_at hl 1 rfl) ?_
  refine lv_aload_n hx hb dX3_longestByOrder_1 rfl (lv_at hl 0 rfl) ?_
  refine w_get (o := 127) (ci := 3) (C := RX3) (T := TX3) (N1 := 2) (v := .ref (ad 128)) hx hb hts kX3_longestByOrder_inX3 hown hK.1 hY (by decide) obC_thm rfl 0 (by decide) (hts _ kX3_longestByOrder_0) rfl rfl dX3_longestByOrder_2 ?_
  refine w_callip (rest := []) (va_runV (As := [.ref (ad 128)]) (rest := []) C0 (mX4_countNotGreater l D ad ci A σ 128 _ hR (by decide) h) (cwV 1 hts gX3_longestByOrder_X4_countNotGreater rfl rfl rfl ddX4_countNotGreater ⟨Nat.le_of_ble_eq_true rfl, Nat.le_of_ble_eq_true rfl⟩) (w_preV (o := 5) (ci := 4) (ob := obC ad ci) (σ := σ) hK hY (by decide) obC_list rfl rfl) rfl rfl hl.1 rfl (lv_room (Nat.le_of_ble_eq_true rfl)) dX3_longestByOrder_5 ⟨Nat.zero_le _, Nat.zero_le _⟩) hY (fun r_1 H locs h hY => ?_)
  refine lv_iconst (v := (1 : Int32)) hx hb dX3_longestByOrder_8 (by decide) ?_
  refine lv_isub hx hb dX3_longestByOrder_9 ?_
  refine lv_istore_n (lv' := [(2, .int (r_1 - (1 : Int32))), (0, .ref (ad 127)), (1, .ref (ad 5))]) hx hb dX3_longestByOrder_10 rfl hl (by decide) rfl (fun ls hl => ?_)
  refine lv_iload_n hx hb dX3_longestByOrder_11 rfl (lv_at hl 0 rfl) ?_
  refine lv_if_ge (tgt := 17) hx hb dX3_longestByOrder_12 (by decide) (fun c_2 => ?_) (fun c_2 => ?_)
  · have h := h.1 c_2
    refine lv_aload_n hx hb dX3_longestByOrder_17 rfl (lv_at hl 2 rfl) ?_
    refine lv_iload_n hx hb dX3_longestByOrder_18 rfl (lv_at hl 0 rfl) ?_
    refine w_callrp (rest := []) (va_runV (As := [.int (r_1 - (1 : Int32))]) (rest := []) C0 (mX4_rowAt l D ad ci A σ (r_1 - (1 : Int32)) _ hR  h) (cwV 1 hts gX3_longestByOrder_X4_rowAt rfl rfl rfl ddX4_rowAt ⟨Nat.le_of_ble_eq_true rfl, Nat.le_of_ble_eq_true rfl⟩) (w_preV (o := 5) (ci := 4) (ob := obC ad ci) (σ := σ) hK hY (by decide) obC_list rfl rfl) rfl rfl hl.1 rfl (lv_room (Nat.le_of_ble_eq_true rfl)) dX3_longestByOrder_19 ⟨Nat.zero_le _, Nat.zero_le _⟩) hY (fun r_3 H locs h hY => ?_)
    obtain ⟨rr_3, h⟩ := h
    refine lv_astore_n (lv' := [(3, .ref (ad r_3)), (2, .int (r_1 - (1 : Int32))), (0, .ref (ad 127)), (1, .ref (ad 5))]) hx hb dX3_longestByOrder_22 rfl hl (by decide) rfl (fun ls hl => ?_)
    refine lv_aload_n hx hb dX3_longestByOrder_23 rfl (lv_at hl 2 rfl) ?_
    refine w_get (o := 127) (ci := 3) (C := RX3) (T := TX3) (N1 := 2) (v := .ref (ad 128)) hx hb hts kX3_longestByOrder_inX3 hown hK.1 hY (by decide) obC_thm rfl 0 (by decide) (hts _ kX3_longestByOrder_0) rfl rfl dX3_longestByOrder_24 ?_
    refine lv_aload_n hx hb dX3_longestByOrder_27 rfl (lv_at hl 0 rfl) ?_
    refine w_callip (rest := []) (va_runV (As := [.ref (ad r_3)]) (rest := []) C0 (mX2_beginsWith l D ad ci A σ 128 r_3 _ hR (by decide) rr_3 h) (cwV 1 hts gX3_longestByOrder_X2_beginsWith rfl rfl rfl ddX2_beginsWith ⟨Nat.le_of_ble_eq_true rfl, Nat.le_of_ble_eq_true rfl⟩) (w_preV (o := 128) (ci := 2) (ob := obC ad ci) (σ := σ) hK hY (rowB_lt (by decide)) (obC_row (by decide)) rfl rfl) rfl rfl hl.1 rfl (lv_room (Nat.le_of_ble_eq_true rfl)) dX3_longestByOrder_28 ⟨Nat.zero_le _, Nat.zero_le _⟩) hY (fun r_4 H locs h hY => ?_)
    obtain ⟨n_r_4, h⟩ := h
    refine lv_if_eq (tgt := 39) hx hb dX3_longestByOrder_31 (by decide) (fun c_5 => ?_) (fun c_5 => ?_)
    · have h := h.1 c_5
      refine lv_aload_n hx hb dX3_longestByOrder_39 rfl (lv_at hl 2 rfl) ?_
      refine w_get (o := 127) (ci := 3) (C := RX3) (T := TX3) (N1 := 2) (v := .ref (ad 130)) hx hb hts kX3_longestByOrder_inX3 hown hK.1 hY (by decide) obC_thm rfl 1 (by decide) (hts _ kX3_longestByOrder_2) rfl rfl dX3_longestByOrder_40 ?_
      refine lv_aload_n hx hb dX3_longestByOrder_43 rfl (lv_at hl 2 rfl) ?_
      refine w_get (o := 127) (ci := 3) (C := RX3) (T := TX3) (N1 := 2) (v := .ref (ad 128)) hx hb hts kX3_longestByOrder_inX3 hown hK.1 hY (by decide) obC_thm rfl 0 (by decide) (hts _ kX3_longestByOrder_0) rfl rfl dX3_longestByOrder_44 ?_
      refine lv_iconst (v := (0 : Int32)) hx hb dX3_longestByOrder_47 (by decide) ?_
      refine lv_aload_n hx hb dX3_longestByOrder_48 rfl (lv_at hl 2 rfl) ?_
      refine w_get (o := 127) (ci := 3) (C := RX3) (T := TX3) (N1 := 2) (v := .ref (ad 128)) hx hb hts kX3_longestByOrder_inX3 hown hK.1 hY (by decide) obC_thm rfl 0 (by decide) (hts _ kX3_longestByOrder_0) rfl rfl dX3_longestByOrder_49 ?_
      refine lv_aload_n hx hb dX3_longestByOrder_52 rfl (lv_at hl 0 rfl) ?_
      refine w_callip (rest := [.int (0 : Int32), .ref (ad 128), .ref (ad 130)]) (va_runV (As := [.ref (ad r_3)]) (rest := [.int (0 : Int32), .ref (ad 128), .ref (ad 130)]) C0 (mX2_common l D ad ci A σ 128 r_3 _ hR (by decide) rr_3 h) (cwV 1 hts gX3_longestByOrder_X2_common rfl rfl rfl ddX2_common ⟨Nat.le_of_ble_eq_true rfl, Nat.le_of_ble_eq_true rfl⟩) (w_preV (o := 128) (ci := 2) (ob := obC ad ci) (σ := σ) hK hY (rowB_lt (by decide)) (obC_row (by decide)) rfl rfl) rfl rfl hl.1 rfl (lv_room (Nat.le_of_ble_eq_true rfl)) dX3_longestByOrder_53 ⟨Nat.zero_le _, Nat.zero_le _⟩) hY (fun r_6 H locs h hY => ?_)
      refine w_callv (rest := []) (va_runV (As := [.ref (ad 128), .int (0 : Int32), .int r_6]) (rest := []) C0 (mX2_becomePart l D ad ci A σ 130 128 (0 : Int32) r_6 _ hR (by decide) (by decide) h) (cwV 3 hts gX3_longestByOrder_X2_becomePart rfl rfl rfl ddX2_becomePart ⟨Nat.le_of_ble_eq_true rfl, Nat.le_of_ble_eq_true rfl⟩) (w_preV (o := 130) (ci := 2) (ob := obC ad ci) (σ := σ) hK hY (rowB_lt (by decide)) (obC_row (by decide)) rfl rfl) rfl rfl hl.1 rfl (lv_room (Nat.le_of_ble_eq_true rfl)) dX3_longestByOrder_56 ⟨Nat.zero_le _, Nat.zero_le _⟩) hY (fun σ_8 H locs h hY hR_σ_8 => ?_)
      refine lv_aload_n hx hb dX3_longestByOrder_59 rfl (lv_at hl 3 rfl) ?_
      refine lv_aload_n hx hb dX3_longestByOrder_60 rfl (lv_at hl 2 rfl) ?_
      refine w_get (o := 127) (ci := 3) (C := RX3) (T := TX3) (N1 := 2) (v := .ref (ad 130)) hx hb hts kX3_longestByOrder_inX3 hown hK.1 hY (by decide) obC_thm rfl 1 (by decide) (hts _ kX3_longestByOrder_2) rfl rfl dX3_longestByOrder_61 ?_
      refine lv_iconst (v := (0 : Int32)) hx hb dX3_longestByOrder_64 (by decide) ?_
      refine w_callip (rest := []) (va_runV (As := [.ref (ad 130), .int (0 : Int32)]) (rest := []) C0 (mX4_longestAt l D ad ci A σ_8 130 (0 : Int32) _ hR_σ_8 (by decide) h) (cwV 2 hts gX3_longestByOrder_X4_longestAt rfl rfl rfl ddX4_longestAt ⟨Nat.le_of_ble_eq_true rfl, Nat.le_of_ble_eq_true rfl⟩) (w_preV (o := 5) (ci := 4) (ob := obC ad ci) (σ := σ_8) hK hY (by decide) obC_list rfl rfl) rfl rfl hl.1 rfl (lv_room (Nat.le_of_ble_eq_true rfl)) dX3_longestByOrder_65 ⟨Nat.zero_le _, Nat.zero_le _⟩) hY (fun r_9 H locs h hY => ?_)
      exact hret r_9 σ_8 _ _ _ _ h hY hR_σ_8 dX3_longestByOrder_68
    · have h := h.2 c_5
      refine lv_aload_n hx hb dX3_longestByOrder_34 rfl (lv_at hl 0 rfl) ?_
      refine w_callip (rest := []) (va_runV (As := []) (rest := []) C0 (mX2_size l D ad ci A σ r_3 _ hR rr_3 h) (cwV 0 hts gX3_longestByOrder_X2_size rfl rfl rfl ddX2_size ⟨Nat.le_of_ble_eq_true rfl, Nat.le_of_ble_eq_true rfl⟩) (w_preV (o := r_3) (ci := 2) (ob := obC ad ci) (σ := σ) hK hY (rowB_lt rr_3) (obC_row rr_3) rfl rfl) rfl rfl hl.1 rfl (lv_room (Nat.le_of_ble_eq_true rfl)) dX3_longestByOrder_35 ⟨Nat.zero_le _, Nat.zero_le _⟩) hY (fun r_10 H locs h hY => ?_)
      exact hret r_10 σ _ _ _ _ h hY hR dX3_longestByOrder_38
  · have h := h.2 c_2
    refine lv_iconst (v := (0 : Int32)) hx hb dX3_longestByOrder_15 (by decide) ?_
    exact hret (0 : Int32) σ _ _ _ _ h hY hR dX3_longestByOrder_16
set_option maxHeartbeats 4000000 in
set_option maxRecDepth 100000 in
theorem mX3_longestByOrder (l : Launch) (D : va_G) (ad : Nat → Nat) (ci : Nat → ClassId) (A : Nat → Prop) (σ : St) (K : Int32 → St → Prop) (hR : Rok σ) (h : wX3_longestByOrder σ K) : Met l yX3_longestByOrder wsX3_longestByOrder rmX3_longestByOrder (va_Pc [.ref (ad 127), .ref (ad 5)] (PreW D 132 ad A (tyC ci) (obC ad ci σ))) (va_Qi (fun r u => K r u) (PostW D 132 ad (tyC ci) (obC ad ci) Rok) A) 0 0 A := by
  refine Met.ofW (cc := cX3_longestByOrder) (maxL := 4) (ret := (some .int)) (by decide) rfl ?_
  intro p e s m args below meth c s₁ B hml hv
  obtain ⟨rfl, hP, hK, hD⟩ := hv
  have C0 : CallFix p m c cX3_longestByOrder 4 s _ wsX3_longestByOrder RX3 := ⟨B.exec, B.bytes, hml, findClass_of_methodNamed B.named, atoms_spec (ws := wsX3_longestByOrder) B.pre⟩
  have hlocks := B.notSynchronized
  have hY : Sy D 132 ad A s.heap (obC ad ci σ) s.heap [] := ⟨hP, hD, va_S.rf⟩
  have hl := lv_entry ([.ref (ad 127), .ref (ad 5)]) (n := 4) (Nat.le_of_ble_eq_true rfl)
  rw [lg_entry_eq]
  generalize (lg_sl ([.ref (ad 127), .ref (ad 5)]) ++ List.replicate (4 - (lg_sl ([.ref (ad 127), .ref (ad 5)])).length) Slot.unset).toArray = ls at hl ⊢
  exact eX3_longestByOrder C0 hK K σ (fun r u H locs pc ls hk hY hR hd => w_iret (I := Rok) B.exec B.bytes B.returns hlocks hK hk (fun t ht => ht) hY hR hd) h _ _ hY hR ls hl
set_option maxHeartbeats 4000000 in
set_option maxRecDepth 100000 in
theorem tX3_longestHolds_L2 (C0 : CallFix p m c cX3_longestHolds 4 s args wsX3_longestHolds RX3) (hK : Kx D (tyC ci) s) (K : Int32 → St → Prop) (x1 : Nat) (hret : ∀ (r : Int32) (u : St) (H : Heap) (locs : List Loc) (pc : Nat) (ls : Array Slot), narrow .boolean (.int r) = .int r → K r u → Sy D 132 ad A H0 (obC ad ci u) H locs → Rok u → decode cX3_longestHolds pc = .ok (.ireturn, 1) → W p l e rmX3_longestHolds s m args below meth c H locs 0 0 Q (F0 m pc ls [.int r])) (rx1 : rowB x1 = true) : ∀ (n : Nat) (σ : St) (x3 : Int32), wX3_longestHolds_L2 K x1 n σ x3 → ∀ (H : Heap) (locs : List Loc), Sy D 132 ad A H0 (obC ad ci σ) H locs → Rok σ → ∀ ls : Array Slot, lv_has ls 4 [(0, .ref (ad 127)), (1, .ref (ad x1)), (2, .ref (ad 5)), (3, .int x3)] → W p l e rmX3_longestHolds s m args below meth c H locs 0 0 Q (F0 m 2 ls []) := by
  obtain ⟨hx, hb, hml, hown, hts⟩ := id C0
  intro n
  induction n with
  | zero =>
    intro σ x3 h
    exact h.elim
  | succ n ih =>
    intro σ x3 h H locs hY hR  ls hl
    refine lv_iload_n hx hb dX3_longestHolds_2 rfl (lv_at hl 3 rfl) ?_
    refine lv_aload_n hx hb dX3_longestHolds_3 rfl (lv_at hl 1 rfl) ?_
    refine w_callip (rest := [.int x3]) (va_runV (As := []) (rest := [.int x3]) C0 (mX2_size l D ad ci A σ x1 _ hR rx1 h) (cwV 0 hts gX3_longestHolds_X2_size rfl rfl rfl ddX2_size ⟨Nat.le_of_ble_eq_true rfl, Nat.le_of_ble_eq_true rfl⟩) (w_preV (o := x1) (ci := 2) (ob := obC ad ci) (σ := σ) hK hY (rowB_lt rx1) (obC_row rx1) rfl rfl) rfl rfl hl.1 rfl (lv_room (Nat.le_of_ble_eq_true rfl)) dX3_longestHolds_4 ⟨Nat.zero_le _, Nat.zero_le _⟩) hY (fun r_1 H locs h hY => ?_)
    refine lv_icmp_gt (tgt := 45) hx hb dX3_longestHolds_7 (by decide) (fun c_2 => ?_) (fun c_2 => ?_)
    · have h := h.1 c_2
      refine lv_iconst (v := (1 : Int32)) hx hb dX3_longestHolds_45 (by decide) ?_
      exact hret (1 : Int32) σ _ _ _ _ rfl h hY hR dX3_longestHolds_46
    · have h := h.2 c_2
      refine lv_aload_n hx hb dX3_longestHolds_10 rfl (lv_at hl 0 rfl) ?_
      refine w_get (o := 127) (ci := 3) (C := RX3) (T := TX3) (N1 := 2) (v := .ref (ad 128)) hx hb hts kX3_longestHolds_inX3 hown hK.1 hY (by decide) obC_thm rfl 0 (by decide) (hts _ kX3_longestHolds_0) rfl rfl dX3_longestHolds_11 ?_
      refine lv_aload_n hx hb dX3_longestHolds_14 rfl (lv_at hl 1 rfl) ?_
      refine lv_iload_n hx hb dX3_longestHolds_15 rfl (lv_at hl 3 rfl) ?_
      refine lv_aload_n hx hb dX3_longestHolds_16 rfl (lv_at hl 1 rfl) ?_
      refine w_callip (rest := [.int x3, .ref (ad x1), .ref (ad 128)]) (va_runV (As := []) (rest := [.int x3, .ref (ad x1), .ref (ad 128)]) C0 (mX2_size l D ad ci A σ x1 _ hR rx1 h) (cwV 0 hts gX3_longestHolds_X2_size rfl rfl rfl ddX2_size ⟨Nat.le_of_ble_eq_true rfl, Nat.le_of_ble_eq_true rfl⟩) (w_preV (o := x1) (ci := 2) (ob := obC ad ci) (σ := σ) hK hY (rowB_lt rx1) (obC_row rx1) rfl rfl) rfl rfl hl.1 rfl (lv_room (Nat.le_of_ble_eq_true rfl)) dX3_longestHolds_17 ⟨Nat.zero_le _, Nat.zero_le _⟩) hY (fun r_3 H locs h hY => ?_)
      refine w_callv (rest := []) (va_runV (As := [.ref (ad x1), .int x3, .int r_3]) (rest := []) C0 (mX2_becomePart l D ad ci A σ 128 x1 x3 r_3 _ hR (by decide) rx1 h) (cwV 3 hts gX3_longestHolds_X2_becomePart rfl rfl rfl ddX2_becomePart ⟨Nat.le_of_ble_eq_true rfl, Nat.le_of_ble_eq_true rfl⟩) (w_preV (o := 128) (ci := 2) (ob := obC ad ci) (σ := σ) hK hY (rowB_lt (by decide)) (obC_row (by decide)) rfl rfl) rfl rfl hl.1 rfl (lv_room (Nat.le_of_ble_eq_true rfl)) dX3_longestHolds_20 ⟨Nat.zero_le _, Nat.zero_le _⟩) hY (fun σ_5 H locs h hY hR_σ_5 => ?_)
      refine lv_aload_n hx hb dX3_longestHolds_23 rfl (lv_at hl 2 rfl) ?_
      refine lv_aload_n hx hb dX3_longestHolds_24 rfl (lv_at hl 1 rfl) ?_
      refine lv_iload_n hx hb dX3_longestHolds_25 rfl (lv_at hl 3 rfl) ?_
      refine w_callip (rest := []) (va_runV (As := [.ref (ad x1), .int x3]) (rest := []) C0 (mX4_longestAt l D ad ci A σ_5 x1 x3 _ hR_σ_5 rx1 h) (cwV 2 hts gX3_longestHolds_X4_longestAt rfl rfl rfl ddX4_longestAt ⟨Nat.le_of_ble_eq_true rfl, Nat.le_of_ble_eq_true rfl⟩) (w_preV (o := 5) (ci := 4) (ob := obC ad ci) (σ := σ_5) hK hY (by decide) obC_list rfl rfl) rfl rfl hl.1 rfl (lv_room (Nat.le_of_ble_eq_true rfl)) dX3_longestHolds_26 ⟨Nat.zero_le _, Nat.zero_le _⟩) hY (fun r_6 H locs h hY => ?_)
      refine lv_aload_n hx hb dX3_longestHolds_29 rfl (lv_at hl 0 rfl) ?_
      refine lv_aload_n hx hb dX3_longestHolds_30 rfl (lv_at hl 2 rfl) ?_
      refine w_calli (rest := [.int r_6]) (va_runV (As := [.ref (ad 5)]) (rest := [.int r_6]) C0 (mX3_longestByOrder l D ad ci A σ_5 _ hR_σ_5  h) (cwV 1 hts gX3_longestHolds_X3_longestByOrder rfl rfl rfl ddX3_longestByOrder ⟨Nat.le_of_ble_eq_true rfl, Nat.le_of_ble_eq_true rfl⟩) (w_preV (o := 127) (ci := 3) (ob := obC ad ci) (σ := σ_5) hK hY (by decide) obC_thm rfl rfl) rfl rfl hl.1 rfl (lv_room (Nat.le_of_ble_eq_true rfl)) dX3_longestHolds_31 ⟨Nat.zero_le _, Nat.zero_le _⟩) hY (fun r_7 σ_8 H locs h hY hR_σ_8 => ?_)
      refine lv_icmp_eq (tgt := 39) hx hb dX3_longestHolds_34 (by decide) (fun c_9 => ?_) (fun c_9 => ?_)
      · have h := h.1 c_9
        refine lv_iinc (v := (x3 + 1)) (lv' := [(3, .int (x3 + 1)), (0, .ref (ad 127)), (1, .ref (ad x1)), (2, .ref (ad 5))]) hx hb dX3_longestHolds_39 hl (k := 3) rfl rfl (by decide) rfl (fun ls hl => ?_)
        refine lv_goto (tgt := 2) hx hb dX3_longestHolds_42 (by decide) ?_
        exact ih σ_8 (x3 + 1) h _ _ hY hR_σ_8  _ (lv_sub hl [1, 2, 3, 0] rfl)
      · have h := h.2 c_9
        refine lv_iconst (v := (0 : Int32)) hx hb dX3_longestHolds_37 (by decide) ?_
        exact hret (0 : Int32) σ_8 _ _ _ _ rfl h hY hR_σ_8 dX3_longestHolds_38
set_option maxHeartbeats 4000000 in
set_option maxRecDepth 100000 in
theorem eX3_longestHolds (C0 : CallFix p m c cX3_longestHolds 4 s args wsX3_longestHolds RX3) (hK : Kx D (tyC ci) s) (K : Int32 → St → Prop) (σ : St) (hret : ∀ (r : Int32) (u : St) (H : Heap) (locs : List Loc) (pc : Nat) (ls : Array Slot), narrow .boolean (.int r) = .int r → K r u → Sy D 132 ad A H0 (obC ad ci u) H locs → Rok u → decode cX3_longestHolds pc = .ok (.ireturn, 1) → W p l e rmX3_longestHolds s m args below meth c H locs 0 0 Q (F0 m pc ls [.int r])) (x1 : Nat) (rx1 : rowB x1 = true) (h : wX3_longestHolds σ x1 K) (H : Heap) (locs : List Loc) (hY : Sy D 132 ad A H0 (obC ad ci σ) H locs) (hR : Rok σ) (ls : Array Slot) (hl : lv_has ls 4 [(0, .ref (ad 127)), (1, .ref (ad x1)), (2, .ref (ad 5))]) : W p l e rmX3_longestHolds s m args below meth c H locs 0 0 Q (F0 m 0 ls []) := by
  obtain ⟨hx, hb, hml, hown, hts⟩ := id C0
  refine lv_iconst (v := (0 : Int32)) hx hb dX3_longestHolds_0 (by decide) ?_
  refine lv_istore_n (lv' := [(3, .int (0 : Int32)), (0, .ref (ad 127)), (1, .ref (ad x1)), (2, .ref (ad 5))]) hx hb dX3_longestHolds_1 rfl hl (by decide) rfl (fun ls hl => ?_)
  obtain ⟨n_10, h⟩ := h
  exact tX3_longestHolds_L2 C0 hK K x1 hret rx1 n_10 σ (0 : Int32) h _ _ hY hR  _ (lv_sub hl [1, 2, 3, 0] rfl)
set_option maxHeartbeats 4000000 in
set_option maxRecDepth 100000 in
theorem mX3_longestHolds (l : Launch) (D : va_G) (ad : Nat → Nat) (ci : Nat → ClassId) (A : Nat → Prop) (σ : St) (x1 : Nat) (K : Int32 → St → Prop) (hR : Rok σ) (rx1 : rowB x1 = true) (h : wX3_longestHolds σ x1 K) : Met l yX3_longestHolds wsX3_longestHolds rmX3_longestHolds (va_Pc [.ref (ad 127), .ref (ad x1), .ref (ad 5)] (PreW D 132 ad A (tyC ci) (obC ad ci σ))) (va_Qi (fun r u => narrow .boolean (.int r) = .int r ∧ K r u) (PostW D 132 ad (tyC ci) (obC ad ci) Rok) A) 0 0 A := by
  refine Met.ofW (cc := cX3_longestHolds) (maxL := 4) (ret := (some .boolean)) (by decide) rfl ?_
  intro p e s m args below meth c s₁ B hml hv
  obtain ⟨rfl, hP, hK, hD⟩ := hv
  have C0 : CallFix p m c cX3_longestHolds 4 s _ wsX3_longestHolds RX3 := ⟨B.exec, B.bytes, hml, findClass_of_methodNamed B.named, atoms_spec (ws := wsX3_longestHolds) B.pre⟩
  have hlocks := B.notSynchronized
  have hY : Sy D 132 ad A s.heap (obC ad ci σ) s.heap [] := ⟨hP, hD, va_S.rf⟩
  have hl := lv_entry ([.ref (ad 127), .ref (ad x1), .ref (ad 5)]) (n := 4) (Nat.le_of_ble_eq_true rfl)
  rw [lg_entry_eq]
  generalize (lg_sl ([.ref (ad 127), .ref (ad x1), .ref (ad 5)]) ++ List.replicate (4 - (lg_sl ([.ref (ad 127), .ref (ad x1), .ref (ad 5)])).length) Slot.unset).toArray = ls at hl ⊢
  exact eX3_longestHolds C0 hK K σ (fun r u H locs pc ls hn hk hY hR hd => w_zret (I := Rok) B.exec B.bytes B.returns hn hlocks hK ⟨hn, hk⟩ (fun t ht => ht) hY hR hd) x1 rx1 h _ _ hY hR ls hl
set_option maxHeartbeats 4000000 in
set_option maxRecDepth 100000 in
theorem eX3_commonHolds (C0 : CallFix p m c cX3_commonHolds 5 s args wsX3_commonHolds RX3) (hK : Kx D (tyC ci) s) (K : Int32 → Prop) (σ : St) (hret : ∀ (r : Int32) (H : Heap) (locs : List Loc) (pc : Nat) (ls : Array Slot), narrow .boolean (.int r) = .int r → K r → Sy D 132 ad A H0 (obC ad ci σ) H locs → decode cX3_commonHolds pc = .ok (.ireturn, 1) → W p l e rmX3_commonHolds s m args below meth c H locs 0 0 Q (F0 m pc ls [.int r])) (x1 : Nat) (rx1 : rowB x1 = true) (h : wX3_commonHolds σ x1 K) (H : Heap) (locs : List Loc) (hY : Sy D 132 ad A H0 (obC ad ci σ) H locs) (hR : Rok σ) (ls : Array Slot) (hl : lv_has ls 5 [(0, .ref (ad 127)), (1, .ref (ad x1)), (2, .ref (ad 5))]) : W p l e rmX3_commonHolds s m args below meth c H locs 0 0 Q (F0 m 0 ls []) := by
  obtain ⟨hx, hb, hml, hown, hts⟩ := id C0
  refine lv_aload_n hx hb dX3_commonHolds_0 rfl (lv_at hl 1 rfl) ?_
  refine lv_aload_n hx hb dX3_commonHolds_1 rfl (lv_at hl 2 rfl) ?_
  refine lv_aload_n hx hb dX3_commonHolds_2 rfl (lv_at hl 2 rfl) ?_
  refine lv_aload_n hx hb dX3_commonHolds_3 rfl (lv_at hl 1 rfl) ?_
  refine w_callip (rest := [.ref (ad 5), .ref (ad x1)]) (va_runV (As := [.ref (ad x1)]) (rest := [.ref (ad 5), .ref (ad x1)]) C0 (mX4_countNotGreater l D ad ci A σ x1 _ hR rx1 h) (cwV 1 hts gX3_commonHolds_X4_countNotGreater rfl rfl rfl ddX4_countNotGreater ⟨Nat.le_of_ble_eq_true rfl, Nat.le_of_ble_eq_true rfl⟩) (w_preV (o := 5) (ci := 4) (ob := obC ad ci) (σ := σ) hK hY (by decide) obC_list rfl rfl) rfl rfl hl.1 rfl (lv_room (Nat.le_of_ble_eq_true rfl)) dX3_commonHolds_4 ⟨Nat.zero_le _, Nat.zero_le _⟩) hY (fun r_1 H locs h hY => ?_)
  refine lv_iconst (v := (1 : Int32)) hx hb dX3_commonHolds_7 (by decide) ?_
  refine lv_isub hx hb dX3_commonHolds_8 ?_
  refine w_callrp (rest := [.ref (ad x1)]) (va_runV (As := [.int (r_1 - (1 : Int32))]) (rest := [.ref (ad x1)]) C0 (mX4_rowAt l D ad ci A σ (r_1 - (1 : Int32)) _ hR  h) (cwV 1 hts gX3_commonHolds_X4_rowAt rfl rfl rfl ddX4_rowAt ⟨Nat.le_of_ble_eq_true rfl, Nat.le_of_ble_eq_true rfl⟩) (w_preV (o := 5) (ci := 4) (ob := obC ad ci) (σ := σ) hK hY (by decide) obC_list rfl rfl) rfl rfl hl.1 rfl (lv_room (Nat.le_of_ble_eq_true rfl)) dX3_commonHolds_9 ⟨Nat.zero_le _, Nat.zero_le _⟩) hY (fun r_2 H locs h hY => ?_)
  obtain ⟨rr_2, h⟩ := h
  refine w_callip (rest := []) (va_runV (As := [.ref (ad r_2)]) (rest := []) C0 (mX2_common l D ad ci A σ x1 r_2 _ hR rx1 rr_2 h) (cwV 1 hts gX3_commonHolds_X2_common rfl rfl rfl ddX2_common ⟨Nat.le_of_ble_eq_true rfl, Nat.le_of_ble_eq_true rfl⟩) (w_preV (o := x1) (ci := 2) (ob := obC ad ci) (σ := σ) hK hY (rowB_lt rx1) (obC_row rx1) rfl rfl) rfl rfl hl.1 rfl (lv_room (Nat.le_of_ble_eq_true rfl)) dX3_commonHolds_12 ⟨Nat.zero_le _, Nat.zero_le _⟩) hY (fun r_3 H locs h hY => ?_)
  refine lv_istore_n (lv' := [(3, .int r_3), (0, .ref (ad 127)), (1, .ref (ad x1)), (2, .ref (ad 5))]) hx hb dX3_commonHolds_15 rfl hl (by decide) rfl (fun ls hl => ?_)
  refine lv_aload_n hx hb dX3_commonHolds_16 rfl (lv_at hl 2 rfl) ?_
  refine lv_aload_n hx hb dX3_commonHolds_17 rfl (lv_at hl 3 rfl) ?_
  refine lv_aload_n hx hb dX3_commonHolds_18 rfl (lv_at hl 3 rfl) ?_
  refine lv_aload_n hx hb dX3_commonHolds_19 rfl (lv_at hl 2 rfl) ?_
  refine w_callip (rest := [.ref (ad 5), .ref (ad x1)]) (va_runV (As := [.ref (ad x1)]) (rest := [.ref (ad 5), .ref (ad x1)]) C0 (mX4_countLess l D ad ci A σ x1 _ hR rx1 h) (cwV 1 hts gX3_commonHolds_X4_countLess rfl rfl rfl ddX4_countLess ⟨Nat.le_of_ble_eq_true rfl, Nat.le_of_ble_eq_true rfl⟩) (w_preV (o := 5) (ci := 4) (ob := obC ad ci) (σ := σ) hK hY (by decide) obC_list rfl rfl) rfl rfl hl.1 rfl (lv_room (Nat.le_of_ble_eq_true rfl)) dX3_commonHolds_20 ⟨Nat.zero_le _, Nat.zero_le _⟩) hY (fun r_4 H locs h hY => ?_)
  refine w_callrp (rest := [.ref (ad x1)]) (va_runV (As := [.int r_4]) (rest := [.ref (ad x1)]) C0 (mX4_rowAt l D ad ci A σ r_4 _ hR  h) (cwV 1 hts gX3_commonHolds_X4_rowAt rfl rfl rfl ddX4_rowAt ⟨Nat.le_of_ble_eq_true rfl, Nat.le_of_ble_eq_true rfl⟩) (w_preV (o := 5) (ci := 4) (ob := obC ad ci) (σ := σ) hK hY (by decide) obC_list rfl rfl) rfl rfl hl.1 rfl (lv_room (Nat.le_of_ble_eq_true rfl)) dX3_commonHolds_23 ⟨Nat.zero_le _, Nat.zero_le _⟩) hY (fun r_5 H locs h hY => ?_)
  obtain ⟨rr_5, h⟩ := h
  refine w_callip (rest := []) (va_runV (As := [.ref (ad r_5)]) (rest := []) C0 (mX2_common l D ad ci A σ x1 r_5 _ hR rx1 rr_5 h) (cwV 1 hts gX3_commonHolds_X2_common rfl rfl rfl ddX2_common ⟨Nat.le_of_ble_eq_true rfl, Nat.le_of_ble_eq_true rfl⟩) (w_preV (o := x1) (ci := 2) (ob := obC ad ci) (σ := σ) hK hY (rowB_lt rx1) (obC_row rx1) rfl rfl) rfl rfl hl.1 rfl (lv_room (Nat.le_of_ble_eq_true rfl)) dX3_commonHolds_26 ⟨Nat.zero_le _, Nat.zero_le _⟩) hY (fun r_6 H locs h hY => ?_)
  refine lv_istore (lv' := [(4, .int r_6), (3, .int r_3), (0, .ref (ad 127)), (1, .ref (ad x1)), (2, .ref (ad 5))]) hx hb dX3_commonHolds_29 hl (by decide) rfl (fun ls hl => ?_)
  refine lv_aload_n hx hb dX3_commonHolds_31 rfl (lv_at hl 4 rfl) ?_
  refine lv_aload_n hx hb dX3_commonHolds_32 rfl (lv_at hl 3 rfl) ?_
  refine w_callip (rest := []) (va_runV (As := [.ref (ad x1)]) (rest := []) C0 (mX4_mostCommon l D ad ci A σ x1 _ hR rx1 h) (cwV 1 hts gX3_commonHolds_X4_mostCommon rfl rfl rfl ddX4_mostCommon ⟨Nat.le_of_ble_eq_true rfl, Nat.le_of_ble_eq_true rfl⟩) (w_preV (o := 5) (ci := 4) (ob := obC ad ci) (σ := σ) hK hY (by decide) obC_list rfl rfl) rfl rfl hl.1 rfl (lv_room (Nat.le_of_ble_eq_true rfl)) dX3_commonHolds_33 ⟨Nat.zero_le _, Nat.zero_le _⟩) hY (fun r_7 H locs h hY => ?_)
  refine lv_iload_n hx hb dX3_commonHolds_36 rfl (lv_at hl 1 rfl) ?_
  refine lv_iload hx hb dX3_commonHolds_37 (lv_at hl 0 rfl) ?_
  refine va_mmax hx hb (hml.trans hl.1.symm) hown (hts _ kX3_commonHolds_0) (hts _ kX3_commonHolds_1) (hts _ kX3_commonHolds_2) (hts _ kX3_commonHolds_3) (Nat.le_of_ble_eq_true rfl) (Nat.le_of_ble_eq_true rfl) (Nat.zero_le _) (Nat.zero_le _) dX3_commonHolds_39 ?_
  refine lv_icmp_ne (tgt := 49) hx hb dX3_commonHolds_42 (by decide) (fun c_8 => ?_) (fun c_8 => ?_)
  · have h := h.2 c_8
    refine lv_iconst (v := (0 : Int32)) hx hb dX3_commonHolds_49 (by decide) ?_
    exact hret (0 : Int32) _ _ _ _ rfl h hY dX3_commonHolds_50
  · have h := h.1 c_8
    refine lv_iconst (v := (1 : Int32)) hx hb dX3_commonHolds_45 (by decide) ?_
    refine lv_goto (tgt := 50) hx hb dX3_commonHolds_46 (by decide) ?_
    exact hret (1 : Int32) _ _ _ _ rfl h hY dX3_commonHolds_50
set_option maxHeartbeats 4000000 in
set_option maxRecDepth 100000 in
theorem mX3_commonHolds (l : Launch) (D : va_G) (ad : Nat → Nat) (ci : Nat → ClassId) (A : Nat → Prop) (σ : St) (x1 : Nat) (K : Int32 → Prop) (hR : Rok σ) (rx1 : rowB x1 = true) (h : wX3_commonHolds σ x1 K) : Met l yX3_commonHolds wsX3_commonHolds rmX3_commonHolds (va_Pc [.ref (ad 127), .ref (ad x1), .ref (ad 5)] (PreW D 132 ad A (tyC ci) (obC ad ci σ))) (va_Qi (fun r (_ : Unit) => narrow .boolean (.int r) = .int r ∧ K r) (fun _ => (PostW D 132 ad (tyC ci) (obC ad ci) Rok σ)) A) 0 0 A := by
  refine Met.ofW (cc := cX3_commonHolds) (maxL := 5) (ret := (some .boolean)) (by decide) rfl ?_
  intro p e s m args below meth c s₁ B hml hv
  obtain ⟨rfl, hP, hK, hD⟩ := hv
  have C0 : CallFix p m c cX3_commonHolds 5 s _ wsX3_commonHolds RX3 := ⟨B.exec, B.bytes, hml, findClass_of_methodNamed B.named, atoms_spec (ws := wsX3_commonHolds) B.pre⟩
  have hlocks := B.notSynchronized
  have hY : Sy D 132 ad A s.heap (obC ad ci σ) s.heap [] := ⟨hP, hD, va_S.rf⟩
  have hl := lv_entry ([.ref (ad 127), .ref (ad x1), .ref (ad 5)]) (n := 5) (Nat.le_of_ble_eq_true rfl)
  rw [lg_entry_eq]
  generalize (lg_sl ([.ref (ad 127), .ref (ad x1), .ref (ad 5)]) ++ List.replicate (5 - (lg_sl ([.ref (ad 127), .ref (ad x1), .ref (ad 5)])).length) Slot.unset).toArray = ls at hl ⊢
  exact eX3_commonHolds C0 hK K σ (fun r H locs pc ls hn hk hY hd => w_zret (I := Rok) B.exec B.bytes B.returns hn hlocks (u := ()) hK ⟨hn, hk⟩ (fun t ht => ht) hY hR hd) x1 rx1 h _ _ hY hR ls hl
set_option maxHeartbeats 4000000 in
set_option maxRecDepth 100000 in
theorem tX3_twinsHold_L4 (C0 : CallFix p m c cX3_twinsHold 4 s args wsX3_twinsHold RX3) (hK : Kx D (tyC ci) s) (K : Int32 → Prop) (σ : St) (hret : ∀ (r : Int32) (H : Heap) (locs : List Loc) (pc : Nat) (ls : Array Slot), narrow .boolean (.int r) = .int r → K r → Sy D 132 ad A H0 (obC ad ci σ) H locs → decode cX3_twinsHold pc = .ok (.ireturn, 1) → W p l e rmX3_twinsHold s m args below meth c H locs 0 0 Q (F0 m pc ls [.int r])) : ∀ (n : Nat) (x2 : Int32) (x3 : Int32), wX3_twinsHold_L4 K σ n x2 x3 → ∀ (H : Heap) (locs : List Loc), Sy D 132 ad A H0 (obC ad ci σ) H locs → Rok σ → ∀ ls : Array Slot, lv_has ls 4 [(1, .ref (ad 5)), (2, .int x2), (3, .int x3)] → W p l e rmX3_twinsHold s m args below meth c H locs 0 0 Q (F0 m 4 ls []) := by
  obtain ⟨hx, hb, hml, hown, hts⟩ := id C0
  intro n
  induction n with
  | zero =>
    intro x2 x3 h
    exact h.elim
  | succ n ih =>
    intro x2 x3 h H locs hY hR  ls hl
    refine lv_iload_n hx hb dX3_twinsHold_4 rfl (lv_at hl 2 rfl) ?_
    refine lv_aload_n hx hb dX3_twinsHold_5 rfl (lv_at hl 0 rfl) ?_
    refine w_callip (rest := [.int x3]) (va_runV (As := []) (rest := [.int x3]) C0 (mX4_size l D ad ci A σ _ hR  h) (cwV 0 hts gX3_twinsHold_X4_size rfl rfl rfl ddX4_size ⟨Nat.le_of_ble_eq_true rfl, Nat.le_of_ble_eq_true rfl⟩) (w_preV (o := 5) (ci := 4) (ob := obC ad ci) (σ := σ) hK hY (by decide) obC_list rfl rfl) rfl rfl hl.1 rfl (lv_room (Nat.le_of_ble_eq_true rfl)) dX3_twinsHold_6 ⟨Nat.zero_le _, Nat.zero_le _⟩) hY (fun r_1 H locs h hY => ?_)
    refine lv_icmp_ge (tgt := 38) hx hb dX3_twinsHold_9 (by decide) (fun c_2 => ?_) (fun c_2 => ?_)
    · have h := h.1 c_2
      refine lv_aload_n hx hb dX3_twinsHold_38 rfl (lv_at hl 0 rfl) ?_
      refine w_callip (rest := []) (va_runV (As := []) (rest := []) C0 (mX4_mostCommonOfTwo l D ad ci A σ _ hR  h) (cwV 0 hts gX3_twinsHold_X4_mostCommonOfTwo rfl rfl rfl ddX4_mostCommonOfTwo ⟨Nat.le_of_ble_eq_true rfl, Nat.le_of_ble_eq_true rfl⟩) (w_preV (o := 5) (ci := 4) (ob := obC ad ci) (σ := σ) hK hY (by decide) obC_list rfl rfl) rfl rfl hl.1 rfl (lv_room (Nat.le_of_ble_eq_true rfl)) dX3_twinsHold_39 ⟨Nat.zero_le _, Nat.zero_le _⟩) hY (fun r_3 H locs h hY => ?_)
      refine lv_iload_n hx hb dX3_twinsHold_42 rfl (lv_at hl 1 rfl) ?_
      refine lv_icmp_ne (tgt := 50) hx hb dX3_twinsHold_43 (by decide) (fun c_4 => ?_) (fun c_4 => ?_)
      · have h := h.2 c_4
        refine lv_iconst (v := (0 : Int32)) hx hb dX3_twinsHold_50 (by decide) ?_
        exact hret (0 : Int32) _ _ _ _ rfl h hY dX3_twinsHold_51
      · have h := h.1 c_4
        refine lv_iconst (v := (1 : Int32)) hx hb dX3_twinsHold_46 (by decide) ?_
        refine lv_goto (tgt := 51) hx hb dX3_twinsHold_47 (by decide) ?_
        exact hret (1 : Int32) _ _ _ _ rfl h hY dX3_twinsHold_51
    · have h := h.2 c_2
      refine lv_iload_n hx hb dX3_twinsHold_12 rfl (lv_at hl 1 rfl) ?_
      refine lv_aload_n hx hb dX3_twinsHold_13 rfl (lv_at hl 0 rfl) ?_
      refine lv_iload_n hx hb dX3_twinsHold_14 rfl (lv_at hl 2 rfl) ?_
      refine lv_iconst (v := (1 : Int32)) hx hb dX3_twinsHold_15 (by decide) ?_
      refine lv_isub hx hb dX3_twinsHold_16 ?_
      refine w_callrp (rest := [.int x2]) (va_runV (As := [.int (x3 - (1 : Int32))]) (rest := [.int x2]) C0 (mX4_rowAt l D ad ci A σ (x3 - (1 : Int32)) _ hR  h) (cwV 1 hts gX3_twinsHold_X4_rowAt rfl rfl rfl ddX4_rowAt ⟨Nat.le_of_ble_eq_true rfl, Nat.le_of_ble_eq_true rfl⟩) (w_preV (o := 5) (ci := 4) (ob := obC ad ci) (σ := σ) hK hY (by decide) obC_list rfl rfl) rfl rfl hl.1 rfl (lv_room (Nat.le_of_ble_eq_true rfl)) dX3_twinsHold_17 ⟨Nat.zero_le _, Nat.zero_le _⟩) hY (fun r_5 H locs h hY => ?_)
      obtain ⟨rr_5, h⟩ := h
      refine lv_aload_n hx hb dX3_twinsHold_20 rfl (lv_at hl 0 rfl) ?_
      refine lv_iload_n hx hb dX3_twinsHold_21 rfl (lv_at hl 2 rfl) ?_
      refine w_callrp (rest := [.ref (ad r_5), .int x2]) (va_runV (As := [.int x3]) (rest := [.ref (ad r_5), .int x2]) C0 (mX4_rowAt l D ad ci A σ x3 _ hR  h) (cwV 1 hts gX3_twinsHold_X4_rowAt rfl rfl rfl ddX4_rowAt ⟨Nat.le_of_ble_eq_true rfl, Nat.le_of_ble_eq_true rfl⟩) (w_preV (o := 5) (ci := 4) (ob := obC ad ci) (σ := σ) hK hY (by decide) obC_list rfl rfl) rfl rfl hl.1 rfl (lv_room (Nat.le_of_ble_eq_true rfl)) dX3_twinsHold_22 ⟨Nat.zero_le _, Nat.zero_le _⟩) hY (fun r_6 H locs h hY => ?_)
      obtain ⟨rr_6, h⟩ := h
      refine w_callip (rest := [.int x2]) (va_runV (As := [.ref (ad r_6)]) (rest := [.int x2]) C0 (mX2_common l D ad ci A σ r_5 r_6 _ hR rr_5 rr_6 h) (cwV 1 hts gX3_twinsHold_X2_common rfl rfl rfl ddX2_common ⟨Nat.le_of_ble_eq_true rfl, Nat.le_of_ble_eq_true rfl⟩) (w_preV (o := r_5) (ci := 2) (ob := obC ad ci) (σ := σ) hK hY (rowB_lt rr_5) (obC_row rr_5) rfl rfl) rfl rfl hl.1 rfl (lv_room (Nat.le_of_ble_eq_true rfl)) dX3_twinsHold_25 ⟨Nat.zero_le _, Nat.zero_le _⟩) hY (fun r_7 H locs h hY => ?_)
      refine va_mmax hx hb (hml.trans hl.1.symm) hown (hts _ kX3_twinsHold_0) (hts _ kX3_twinsHold_1) (hts _ kX3_twinsHold_2) (hts _ kX3_twinsHold_3) (Nat.le_of_ble_eq_true rfl) (Nat.le_of_ble_eq_true rfl) (Nat.zero_le _) (Nat.zero_le _) dX3_twinsHold_28 ?_
      refine lv_topi (fun x2_8 e_x2_8 => ?_)
      have h := h x2_8 e_x2_8
      refine lv_istore_n (lv' := [(2, .int x2_8), (1, .ref (ad 5)), (3, .int x3)]) hx hb dX3_twinsHold_31 rfl hl (by decide) rfl (fun ls hl => ?_)
      refine lv_iinc (v := (x3 + 1)) (lv' := [(3, .int (x3 + 1)), (2, .int x2_8), (1, .ref (ad 5))]) hx hb dX3_twinsHold_32 hl (k := 2) rfl rfl (by decide) rfl (fun ls hl => ?_)
      refine lv_goto (tgt := 4) hx hb dX3_twinsHold_35 (by decide) ?_
      exact ih x2_8 (x3 + 1) h _ _ hY hR  _ (lv_sub hl [2, 1, 0] rfl)
set_option maxHeartbeats 4000000 in
set_option maxRecDepth 100000 in
theorem eX3_twinsHold (C0 : CallFix p m c cX3_twinsHold 4 s args wsX3_twinsHold RX3) (hK : Kx D (tyC ci) s) (K : Int32 → Prop) (σ : St) (hret : ∀ (r : Int32) (H : Heap) (locs : List Loc) (pc : Nat) (ls : Array Slot), narrow .boolean (.int r) = .int r → K r → Sy D 132 ad A H0 (obC ad ci σ) H locs → decode cX3_twinsHold pc = .ok (.ireturn, 1) → W p l e rmX3_twinsHold s m args below meth c H locs 0 0 Q (F0 m pc ls [.int r])) (h : wX3_twinsHold σ K) (H : Heap) (locs : List Loc) (hY : Sy D 132 ad A H0 (obC ad ci σ) H locs) (hR : Rok σ) (ls : Array Slot) (hl : lv_has ls 4 [(0, .ref (ad 127)), (1, .ref (ad 5))]) : W p l e rmX3_twinsHold s m args below meth c H locs 0 0 Q (F0 m 0 ls []) := by
  obtain ⟨hx, hb, hml, hown, hts⟩ := id C0
  refine lv_iconst (v := (0 : Int32)) hx hb dX3_twinsHold_0 (by decide) ?_
  refine lv_istore_n (lv' := [(2, .int (0 : Int32)), (0, .ref (ad 127)), (1, .ref (ad 5))]) hx hb dX3_twinsHold_1 rfl hl (by decide) rfl (fun ls hl => ?_)
  refine lv_iconst (v := (1 : Int32)) hx hb dX3_twinsHold_2 (by decide) ?_
  refine lv_istore_n (lv' := [(3, .int (1 : Int32)), (2, .int (0 : Int32)), (0, .ref (ad 127)), (1, .ref (ad 5))]) hx hb dX3_twinsHold_3 rfl hl (by decide) rfl (fun ls hl => ?_)
  obtain ⟨n_9, h⟩ := h
  exact tX3_twinsHold_L4 C0 hK K σ hret n_9 (0 : Int32) (1 : Int32) h _ _ hY hR  _ (lv_sub hl [3, 1, 0] rfl)
set_option maxHeartbeats 4000000 in
set_option maxRecDepth 100000 in
theorem mX3_twinsHold (l : Launch) (D : va_G) (ad : Nat → Nat) (ci : Nat → ClassId) (A : Nat → Prop) (σ : St) (K : Int32 → Prop) (hR : Rok σ) (h : wX3_twinsHold σ K) : Met l yX3_twinsHold wsX3_twinsHold rmX3_twinsHold (va_Pc [.ref (ad 127), .ref (ad 5)] (PreW D 132 ad A (tyC ci) (obC ad ci σ))) (va_Qi (fun r (_ : Unit) => narrow .boolean (.int r) = .int r ∧ K r) (fun _ => (PostW D 132 ad (tyC ci) (obC ad ci) Rok σ)) A) 0 0 A := by
  refine Met.ofW (cc := cX3_twinsHold) (maxL := 4) (ret := (some .boolean)) (by decide) rfl ?_
  intro p e s m args below meth c s₁ B hml hv
  obtain ⟨rfl, hP, hK, hD⟩ := hv
  have C0 : CallFix p m c cX3_twinsHold 4 s _ wsX3_twinsHold RX3 := ⟨B.exec, B.bytes, hml, findClass_of_methodNamed B.named, atoms_spec (ws := wsX3_twinsHold) B.pre⟩
  have hlocks := B.notSynchronized
  have hY : Sy D 132 ad A s.heap (obC ad ci σ) s.heap [] := ⟨hP, hD, va_S.rf⟩
  have hl := lv_entry ([.ref (ad 127), .ref (ad 5)]) (n := 4) (Nat.le_of_ble_eq_true rfl)
  rw [lg_entry_eq]
  generalize (lg_sl ([.ref (ad 127), .ref (ad 5)]) ++ List.replicate (4 - (lg_sl ([.ref (ad 127), .ref (ad 5)])).length) Slot.unset).toArray = ls at hl ⊢
  exact eX3_twinsHold C0 hK K σ (fun r H locs pc ls hn hk hY hd => w_zret (I := Rok) B.exec B.bytes B.returns hn hlocks (u := ()) hK ⟨hn, hk⟩ (fun t ht => ht) hY hR hd) h _ _ hY hR ls hl
set_option maxHeartbeats 4000000 in
set_option maxRecDepth 100000 in
theorem tX3_cutsHold_L14 (C0 : CallFix p m c cX3_cutsHold 6 s args wsX3_cutsHold RX3) (hK : Kx D (tyC ci) s) (K : Int32 → St → Prop) (hret : ∀ (r : Int32) (u : St) (H : Heap) (locs : List Loc) (pc : Nat) (ls : Array Slot), narrow .boolean (.int r) = .int r → K r u → Sy D 132 ad A H0 (obC ad ci u) H locs → Rok u → decode cX3_cutsHold pc = .ok (.ireturn, 1) → W p l e rmX3_cutsHold s m args below meth c H locs 0 0 Q (F0 m pc ls [.int r])) : ∀ (n : Nat) (σ : St) (x3 : Int64) (x5 : Int32), wX3_cutsHold_L14 K n σ x3 x5 → ∀ (H : Heap) (locs : List Loc), Sy D 132 ad A H0 (obC ad ci σ) H locs → Rok σ → ∀ ls : Array Slot, lv_has ls 6 [(2, .ref (ad 123)), (3, .long x3), (5, .int x5)] → W p l e rmX3_cutsHold s m args below meth c H locs 0 0 Q (F0 m 14 ls []) := by
  obtain ⟨hx, hb, hml, hown, hts⟩ := id C0
  intro n
  induction n with
  | zero =>
    intro σ x3 x5 h
    exact h.elim
  | succ n ih =>
    intro σ x3 x5 h H locs hY hR  ls hl
    refine lv_iload hx hb dX3_cutsHold_14 (lv_at hl 2 rfl) ?_
    refine lv_bipush (v := (10 : Int32)) hx hb dX3_cutsHold_16 (by decide) ?_
    refine lv_icmp_gt (tgt := 46) hx hb dX3_cutsHold_18 (by decide) (fun c_1 => ?_) (fun c_1 => ?_)
    · have h := h.1 c_1
      refine lv_aload_n hx hb dX3_cutsHold_46 rfl (lv_at hl 0 rfl) ?_
      refine lv_iconst (v := (0 : Int32)) hx hb dX3_cutsHold_47 (by decide) ?_
      refine w_calll (rest := []) (va_runV (As := [.int (0 : Int32)]) (rest := []) C0 (mX1_countWays l D ad ci A σ (0 : Int32) _ hR  h) (cwV 1 hts gX3_cutsHold_X1_countWays rfl rfl rfl ddX1_countWays ⟨Nat.le_of_ble_eq_true rfl, Nat.le_of_ble_eq_true rfl⟩) (w_preV (o := 123) (ci := 1) (ob := obC ad ci) (σ := σ) hK hY (by decide) obC_cut rfl rfl) rfl rfl hl.1 rfl (lv_room (Nat.le_of_ble_eq_true rfl)) dX3_cutsHold_48 ⟨Nat.zero_le _, Nat.zero_le _⟩) hY (fun r_2 σ_3 H locs h hY hR_σ_3 => ?_)
      refine lv_lload_n hx hb dX3_cutsHold_51 rfl (lv_at hl 1 rfl) ?_
      refine W.lcmp hx hb dX3_cutsHold_52 ?_
      refine lv_if_ne (tgt := 60) hx hb dX3_cutsHold_53 (by decide) (fun c_4 => ?_) (fun c_4 => ?_)
      · have h := h.2 c_4
        refine lv_iconst (v := (0 : Int32)) hx hb dX3_cutsHold_60 (by decide) ?_
        exact hret (0 : Int32) σ_3 _ _ _ _ rfl h hY hR_σ_3 dX3_cutsHold_61
      · have h := h.1 c_4
        refine lv_iconst (v := (1 : Int32)) hx hb dX3_cutsHold_56 (by decide) ?_
        refine lv_goto (tgt := 61) hx hb dX3_cutsHold_57 (by decide) ?_
        exact hret (1 : Int32) σ_3 _ _ _ _ rfl h hY hR_σ_3 dX3_cutsHold_61
    · have h := h.2 c_1
      refine lv_aload_n hx hb dX3_cutsHold_21 rfl (lv_at hl 0 rfl) ?_
      refine lv_iconst (v := (0 : Int32)) hx hb dX3_cutsHold_22 (by decide) ?_
      refine lv_iload hx hb dX3_cutsHold_23 (lv_at hl 2 rfl) ?_
      refine w_callip (rest := []) (va_runV (As := [.int (0 : Int32), .int x5]) (rest := []) C0 (mX1_fitsAt l D ad ci A σ (0 : Int32) x5 _ hR  h) (cwV 2 hts gX3_cutsHold_X1_fitsAt rfl rfl rfl ddX1_fitsAt ⟨Nat.le_of_ble_eq_true rfl, Nat.le_of_ble_eq_true rfl⟩) (w_preV (o := 123) (ci := 1) (ob := obC ad ci) (σ := σ) hK hY (by decide) obC_cut rfl rfl) rfl rfl hl.1 rfl (lv_room (Nat.le_of_ble_eq_true rfl)) dX3_cutsHold_25 ⟨Nat.zero_le _, Nat.zero_le _⟩) hY (fun r_5 H locs h hY => ?_)
      obtain ⟨n_r_5, h⟩ := h
      refine lv_if_eq (tgt := 40) hx hb dX3_cutsHold_28 (by decide) (fun c_6 => ?_) (fun c_6 => ?_)
      · have h := h.1 c_6
        refine lv_iinc (v := (x5 + 1)) (lv' := [(5, .int (x5 + 1)), (2, .ref (ad 123)), (3, .long x3)]) hx hb dX3_cutsHold_40 hl (k := 2) rfl rfl (by decide) rfl (fun ls hl => ?_)
        refine lv_goto (tgt := 14) hx hb dX3_cutsHold_43 (by decide) ?_
        exact ih σ x3 (x5 + 1) h _ _ hY hR  _ (lv_sub hl [1, 2, 0] rfl)
      · have h := h.2 c_6
        refine lv_lload_n hx hb dX3_cutsHold_31 rfl (lv_at hl 1 rfl) ?_
        refine lv_aload_n hx hb dX3_cutsHold_32 rfl (lv_at hl 0 rfl) ?_
        refine lv_iload hx hb dX3_cutsHold_33 (lv_at hl 2 rfl) ?_
        refine w_calll (rest := [.long x3]) (va_runV (As := [.int x5]) (rest := [.long x3]) C0 (mX1_countWays l D ad ci A σ x5 _ hR  h) (cwV 1 hts gX3_cutsHold_X1_countWays rfl rfl rfl ddX1_countWays ⟨Nat.le_of_ble_eq_true rfl, Nat.le_of_ble_eq_true rfl⟩) (w_preV (o := 123) (ci := 1) (ob := obC ad ci) (σ := σ) hK hY (by decide) obC_cut rfl rfl) rfl rfl hl.1 rfl (lv_room (Nat.le_of_ble_eq_true rfl)) dX3_cutsHold_35 ⟨Nat.zero_le _, Nat.zero_le _⟩) hY (fun r_7 σ_8 H locs h hY hR_σ_8 => ?_)
        refine lv_ladd hx hb dX3_cutsHold_38 ?_
        refine lv_lstore_n (lv' := [(3, .long (x3 + r_7)), (2, .ref (ad 123)), (5, .int x5)]) hx hb dX3_cutsHold_39 rfl hl (by decide) rfl (fun ls hl => ?_)
        refine lv_iinc (v := (x5 + 1)) (lv' := [(5, .int (x5 + 1)), (3, .long (x3 + r_7)), (2, .ref (ad 123))]) hx hb dX3_cutsHold_40 hl (k := 2) rfl rfl (by decide) rfl (fun ls hl => ?_)
        refine lv_goto (tgt := 14) hx hb dX3_cutsHold_43 (by decide) ?_
        exact ih σ_8 (x3 + r_7) (x5 + 1) h _ _ hY hR_σ_8  _ (lv_sub hl [2, 1, 0] rfl)
set_option maxHeartbeats 4000000 in
set_option maxRecDepth 100000 in
theorem eX3_cutsHold (C0 : CallFix p m c cX3_cutsHold 6 s args wsX3_cutsHold RX3) (hK : Kx D (tyC ci) s) (K : Int32 → St → Prop) (σ : St) (hret : ∀ (r : Int32) (u : St) (H : Heap) (locs : List Loc) (pc : Nat) (ls : Array Slot), narrow .boolean (.int r) = .int r → K r u → Sy D 132 ad A H0 (obC ad ci u) H locs → Rok u → decode cX3_cutsHold pc = .ok (.ireturn, 1) → W p l e rmX3_cutsHold s m args below meth c H locs 0 0 Q (F0 m pc ls [.int r])) (x1 : Nat) (rx1 : rowB x1 = true) (h : wX3_cutsHold σ x1 K) (H : Heap) (locs : List Loc) (hY : Sy D 132 ad A H0 (obC ad ci σ) H locs) (hR : Rok σ) (ls : Array Slot) (hl : lv_has ls 6 [(0, .ref (ad 127)), (1, .ref (ad x1)), (2, .ref (ad 123))]) : W p l e rmX3_cutsHold s m args below meth c H locs 0 0 Q (F0 m 0 ls []) := by
  obtain ⟨hx, hb, hml, hown, hts⟩ := id C0
  refine lv_aload_n hx hb dX3_cutsHold_0 rfl (lv_at hl 1 rfl) ?_
  refine w_callip (rest := []) (va_runV (As := []) (rest := []) C0 (mX2_size l D ad ci A σ x1 _ hR rx1 h) (cwV 0 hts gX3_cutsHold_X2_size rfl rfl rfl ddX2_size ⟨Nat.le_of_ble_eq_true rfl, Nat.le_of_ble_eq_true rfl⟩) (w_preV (o := x1) (ci := 2) (ob := obC ad ci) (σ := σ) hK hY (rowB_lt rx1) (obC_row rx1) rfl rfl) rfl rfl hl.1 rfl (lv_room (Nat.le_of_ble_eq_true rfl)) dX3_cutsHold_1 ⟨Nat.zero_le _, Nat.zero_le _⟩) hY (fun r_9 H locs h hY => ?_)
  refine lv_if_ne (tgt := 9) hx hb dX3_cutsHold_4 (by decide) (fun c_10 => ?_) (fun c_10 => ?_)
  · have h := h.2 c_10
    refine lv_lconst (v := (0 : Int64)) hx hb dX3_cutsHold_9 (by decide) ?_
    refine lv_lstore_n (lv' := [(3, .long (0 : Int64)), (0, .ref (ad 127)), (1, .ref (ad x1)), (2, .ref (ad 123))]) hx hb dX3_cutsHold_10 rfl hl (by decide) rfl (fun ls hl => ?_)
    refine lv_iconst (v := (1 : Int32)) hx hb dX3_cutsHold_11 (by decide) ?_
    refine lv_istore (lv' := [(5, .int (1 : Int32)), (3, .long (0 : Int64)), (0, .ref (ad 127)), (1, .ref (ad x1)), (2, .ref (ad 123))]) hx hb dX3_cutsHold_12 hl (by decide) rfl (fun ls hl => ?_)
    obtain ⟨n_11, h⟩ := h
    exact tX3_cutsHold_L14 C0 hK K hret n_11 σ (0 : Int64) (1 : Int32) h _ _ hY hR  _ (lv_sub hl [4, 1, 0] rfl)
  · have h := h.1 c_10
    refine lv_iconst (v := (1 : Int32)) hx hb dX3_cutsHold_7 (by decide) ?_
    exact hret (1 : Int32) σ _ _ _ _ rfl h hY hR dX3_cutsHold_8
set_option maxHeartbeats 4000000 in
set_option maxRecDepth 100000 in
theorem mX3_cutsHold (l : Launch) (D : va_G) (ad : Nat → Nat) (ci : Nat → ClassId) (A : Nat → Prop) (σ : St) (x1 : Nat) (K : Int32 → St → Prop) (hR : Rok σ) (rx1 : rowB x1 = true) (h : wX3_cutsHold σ x1 K) : Met l yX3_cutsHold wsX3_cutsHold rmX3_cutsHold (va_Pc [.ref (ad 127), .ref (ad x1), .ref (ad 123)] (PreW D 132 ad A (tyC ci) (obC ad ci σ))) (va_Qi (fun r u => narrow .boolean (.int r) = .int r ∧ K r u) (PostW D 132 ad (tyC ci) (obC ad ci) Rok) A) 0 0 A := by
  refine Met.ofW (cc := cX3_cutsHold) (maxL := 6) (ret := (some .boolean)) (by decide) rfl ?_
  intro p e s m args below meth c s₁ B hml hv
  obtain ⟨rfl, hP, hK, hD⟩ := hv
  have C0 : CallFix p m c cX3_cutsHold 6 s _ wsX3_cutsHold RX3 := ⟨B.exec, B.bytes, hml, findClass_of_methodNamed B.named, atoms_spec (ws := wsX3_cutsHold) B.pre⟩
  have hlocks := B.notSynchronized
  have hY : Sy D 132 ad A s.heap (obC ad ci σ) s.heap [] := ⟨hP, hD, va_S.rf⟩
  have hl := lv_entry ([.ref (ad 127), .ref (ad x1), .ref (ad 123)]) (n := 6) (Nat.le_of_ble_eq_true rfl)
  rw [lg_entry_eq]
  generalize (lg_sl ([.ref (ad 127), .ref (ad x1), .ref (ad 123)]) ++ List.replicate (6 - (lg_sl ([.ref (ad 127), .ref (ad x1), .ref (ad 123)])).length) Slot.unset).toArray = ls at hl ⊢
  exact eX3_cutsHold C0 hK K σ (fun r u H locs pc ls hn hk hY hR hd => w_zret (I := Rok) B.exec B.bytes B.returns hn hlocks hK ⟨hn, hk⟩ (fun t ht => ht) hY hR hd) x1 rx1 h _ _ hY hR ls hl
set_option maxHeartbeats 4000000 in
set_option maxRecDepth 100000 in
theorem tX3_endsAreWords_L19 (C0 : CallFix p m c cX3_endsAreWords 5 s args wsX3_endsAreWords RX3) (hK : Kx D (tyC ci) s) (K : Int32 → St → Prop) (B2 : St → Int32 → Prop) (x2 : Int32) (x3 : Nat) (hret : ∀ (r : Int32) (u : St) (H : Heap) (locs : List Loc) (pc : Nat) (ls : Array Slot), narrow .boolean (.int r) = .int r → K r u → Sy D 132 ad A H0 (obC ad ci u) H locs → Rok u → decode cX3_endsAreWords pc = .ok (.ireturn, 1) → W p l e rmX3_endsAreWords s m args below meth c H locs 0 0 Q (F0 m pc ls [.int r])) (hB2 : ∀ (σ : St) (x2 : Int32), B2 σ x2 → ∀ (H : Heap) (locs : List Loc), Sy D 132 ad A H0 (obC ad ci σ) H locs → Rok σ → ∀ ls : Array Slot, lv_has ls 5 [(0, .ref (ad 127)), (1, .ref (ad 5)), (2, .int x2)] → W p l e rmX3_endsAreWords s m args below meth c H locs 0 0 Q (F0 m 2 ls [])) (rx3 : rowB x3 = true) : ∀ (n : Nat) (σ : St) (x4 : Int32), wX3_endsAreWords_L19 K B2 x2 x3 n σ x4 → ∀ (H : Heap) (locs : List Loc), Sy D 132 ad A H0 (obC ad ci σ) H locs → Rok σ → ∀ ls : Array Slot, lv_has ls 5 [(0, .ref (ad 127)), (1, .ref (ad 5)), (2, .int x2), (3, .ref (ad x3)), (4, .int x4)] → W p l e rmX3_endsAreWords s m args below meth c H locs 0 0 Q (F0 m 19 ls []) := by
  obtain ⟨hx, hb, hml, hown, hts⟩ := id C0
  intro n
  induction n with
  | zero =>
    intro σ x4 h
    exact h.elim
  | succ n ih =>
    intro σ x4 h H locs hY hR  ls hl
    refine lv_iload hx hb dX3_endsAreWords_19 (lv_at hl 4 rfl) ?_
    refine lv_aload_n hx hb dX3_endsAreWords_21 rfl (lv_at hl 3 rfl) ?_
    refine w_callip (rest := [.int x4]) (va_runV (As := []) (rest := [.int x4]) C0 (mX2_size l D ad ci A σ x3 _ hR rx3 h) (cwV 0 hts gX3_endsAreWords_X2_size rfl rfl rfl ddX2_size ⟨Nat.le_of_ble_eq_true rfl, Nat.le_of_ble_eq_true rfl⟩) (w_preV (o := x3) (ci := 2) (ob := obC ad ci) (σ := σ) hK hY (rowB_lt rx3) (obC_row rx3) rfl rfl) rfl rfl hl.1 rfl (lv_room (Nat.le_of_ble_eq_true rfl)) dX3_endsAreWords_22 ⟨Nat.zero_le _, Nat.zero_le _⟩) hY (fun r_1 H locs h hY => ?_)
    refine lv_icmp_ge (tgt := 62) hx hb dX3_endsAreWords_25 (by decide) (fun c_2 => ?_) (fun c_2 => ?_)
    · have h := h.1 c_2
      refine lv_iinc (v := (x2 + 1)) (lv' := [(2, .int (x2 + 1)), (0, .ref (ad 127)), (1, .ref (ad 5)), (3, .ref (ad x3)), (4, .int x4)]) hx hb dX3_endsAreWords_62 hl (k := 2) rfl rfl (by decide) rfl (fun ls hl => ?_)
      refine lv_goto (tgt := 2) hx hb dX3_endsAreWords_65 (by decide) ?_
      exact hB2 σ (x2 + 1) h _ _ hY hR  _ (lv_sub hl [1, 2, 0] rfl)
    · have h := h.2 c_2
      refine lv_aload_n hx hb dX3_endsAreWords_28 rfl (lv_at hl 0 rfl) ?_
      refine w_get (o := 127) (ci := 3) (C := RX3) (T := TX3) (N1 := 2) (v := .ref (ad 128)) hx hb hts kX3_endsAreWords_inX3 hown hK.1 hY (by decide) obC_thm rfl 0 (by decide) (hts _ kX3_endsAreWords_0) rfl rfl dX3_endsAreWords_29 ?_
      refine lv_aload_n hx hb dX3_endsAreWords_32 rfl (lv_at hl 3 rfl) ?_
      refine lv_iload hx hb dX3_endsAreWords_33 (lv_at hl 4 rfl) ?_
      refine lv_aload_n hx hb dX3_endsAreWords_35 rfl (lv_at hl 3 rfl) ?_
      refine w_callip (rest := [.int x4, .ref (ad x3), .ref (ad 128)]) (va_runV (As := []) (rest := [.int x4, .ref (ad x3), .ref (ad 128)]) C0 (mX2_size l D ad ci A σ x3 _ hR rx3 h) (cwV 0 hts gX3_endsAreWords_X2_size rfl rfl rfl ddX2_size ⟨Nat.le_of_ble_eq_true rfl, Nat.le_of_ble_eq_true rfl⟩) (w_preV (o := x3) (ci := 2) (ob := obC ad ci) (σ := σ) hK hY (rowB_lt rx3) (obC_row rx3) rfl rfl) rfl rfl hl.1 rfl (lv_room (Nat.le_of_ble_eq_true rfl)) dX3_endsAreWords_36 ⟨Nat.zero_le _, Nat.zero_le _⟩) hY (fun r_3 H locs h hY => ?_)
      refine w_callv (rest := []) (va_runV (As := [.ref (ad x3), .int x4, .int r_3]) (rest := []) C0 (mX2_becomePart l D ad ci A σ 128 x3 x4 r_3 _ hR (by decide) rx3 h) (cwV 3 hts gX3_endsAreWords_X2_becomePart rfl rfl rfl ddX2_becomePart ⟨Nat.le_of_ble_eq_true rfl, Nat.le_of_ble_eq_true rfl⟩) (w_preV (o := 128) (ci := 2) (ob := obC ad ci) (σ := σ) hK hY (rowB_lt (by decide)) (obC_row (by decide)) rfl rfl) rfl rfl hl.1 rfl (lv_room (Nat.le_of_ble_eq_true rfl)) dX3_endsAreWords_39 ⟨Nat.zero_le _, Nat.zero_le _⟩) hY (fun σ_5 H locs h hY hR_σ_5 => ?_)
      refine lv_aload_n hx hb dX3_endsAreWords_42 rfl (lv_at hl 1 rfl) ?_
      refine lv_aload_n hx hb dX3_endsAreWords_43 rfl (lv_at hl 0 rfl) ?_
      refine w_get (o := 127) (ci := 3) (C := RX3) (T := TX3) (N1 := 2) (v := .ref (ad 128)) hx hb hts kX3_endsAreWords_inX3 hown hK.1 hY (by decide) obC_thm rfl 0 (by decide) (hts _ kX3_endsAreWords_0) rfl rfl dX3_endsAreWords_44 ?_
      refine w_callip (rest := []) (va_runV (As := [.ref (ad 128)]) (rest := []) C0 (mX4_rankOf l D ad ci A σ_5 128 _ hR_σ_5 (by decide) h) (cwV 1 hts gX3_endsAreWords_X4_rankOf rfl rfl rfl ddX4_rankOf ⟨Nat.le_of_ble_eq_true rfl, Nat.le_of_ble_eq_true rfl⟩) (w_preV (o := 5) (ci := 4) (ob := obC ad ci) (σ := σ_5) hK hY (by decide) obC_list rfl rfl) rfl rfl hl.1 rfl (lv_room (Nat.le_of_ble_eq_true rfl)) dX3_endsAreWords_47 ⟨Nat.zero_le _, Nat.zero_le _⟩) hY (fun r_6 H locs h hY => ?_)
      refine lv_iconst (v := (-1 : Int32)) hx hb dX3_endsAreWords_50 (by decide) ?_
      refine lv_icmp_ne (tgt := 56) hx hb dX3_endsAreWords_51 (by decide) (fun c_7 => ?_) (fun c_7 => ?_)
      · have h := h.2 c_7
        refine lv_iinc (v := (x4 + 1)) (lv' := [(4, .int (x4 + 1)), (0, .ref (ad 127)), (1, .ref (ad 5)), (2, .int x2), (3, .ref (ad x3))]) hx hb dX3_endsAreWords_56 hl (k := 4) rfl rfl (by decide) rfl (fun ls hl => ?_)
        refine lv_goto (tgt := 19) hx hb dX3_endsAreWords_59 (by decide) ?_
        exact ih σ_5 (x4 + 1) h _ _ hY hR_σ_5  _ (lv_sub hl [1, 2, 3, 4, 0] rfl)
      · have h := h.1 c_7
        refine lv_iconst (v := (0 : Int32)) hx hb dX3_endsAreWords_54 (by decide) ?_
        exact hret (0 : Int32) σ_5 _ _ _ _ rfl h hY hR_σ_5 dX3_endsAreWords_55
set_option maxHeartbeats 4000000 in
set_option maxRecDepth 100000 in
theorem tX3_endsAreWords_L2 (C0 : CallFix p m c cX3_endsAreWords 5 s args wsX3_endsAreWords RX3) (hK : Kx D (tyC ci) s) (K : Int32 → St → Prop) (hret : ∀ (r : Int32) (u : St) (H : Heap) (locs : List Loc) (pc : Nat) (ls : Array Slot), narrow .boolean (.int r) = .int r → K r u → Sy D 132 ad A H0 (obC ad ci u) H locs → Rok u → decode cX3_endsAreWords pc = .ok (.ireturn, 1) → W p l e rmX3_endsAreWords s m args below meth c H locs 0 0 Q (F0 m pc ls [.int r])) : ∀ (n : Nat) (σ : St) (x2 : Int32), wX3_endsAreWords_L2 K n σ x2 → ∀ (H : Heap) (locs : List Loc), Sy D 132 ad A H0 (obC ad ci σ) H locs → Rok σ → ∀ ls : Array Slot, lv_has ls 5 [(0, .ref (ad 127)), (1, .ref (ad 5)), (2, .int x2)] → W p l e rmX3_endsAreWords s m args below meth c H locs 0 0 Q (F0 m 2 ls []) := by
  obtain ⟨hx, hb, hml, hown, hts⟩ := id C0
  intro n
  induction n with
  | zero =>
    intro σ x2 h
    exact h.elim
  | succ n ih =>
    intro σ x2 h H locs hY hR  ls hl
    refine lv_iload_n hx hb dX3_endsAreWords_2 rfl (lv_at hl 2 rfl) ?_
    refine lv_aload_n hx hb dX3_endsAreWords_3 rfl (lv_at hl 1 rfl) ?_
    refine w_callip (rest := [.int x2]) (va_runV (As := []) (rest := [.int x2]) C0 (mX4_size l D ad ci A σ _ hR  h) (cwV 0 hts gX3_endsAreWords_X4_size rfl rfl rfl ddX4_size ⟨Nat.le_of_ble_eq_true rfl, Nat.le_of_ble_eq_true rfl⟩) (w_preV (o := 5) (ci := 4) (ob := obC ad ci) (σ := σ) hK hY (by decide) obC_list rfl rfl) rfl rfl hl.1 rfl (lv_room (Nat.le_of_ble_eq_true rfl)) dX3_endsAreWords_4 ⟨Nat.zero_le _, Nat.zero_le _⟩) hY (fun r_8 H locs h hY => ?_)
    refine lv_icmp_ge (tgt := 68) hx hb dX3_endsAreWords_7 (by decide) (fun c_9 => ?_) (fun c_9 => ?_)
    · have h := h.1 c_9
      refine lv_iconst (v := (1 : Int32)) hx hb dX3_endsAreWords_68 (by decide) ?_
      exact hret (1 : Int32) σ _ _ _ _ rfl h hY hR dX3_endsAreWords_69
    · have h := h.2 c_9
      refine lv_aload_n hx hb dX3_endsAreWords_10 rfl (lv_at hl 1 rfl) ?_
      refine lv_iload_n hx hb dX3_endsAreWords_11 rfl (lv_at hl 2 rfl) ?_
      refine w_callrp (rest := []) (va_runV (As := [.int x2]) (rest := []) C0 (mX4_rowAt l D ad ci A σ x2 _ hR  h) (cwV 1 hts gX3_endsAreWords_X4_rowAt rfl rfl rfl ddX4_rowAt ⟨Nat.le_of_ble_eq_true rfl, Nat.le_of_ble_eq_true rfl⟩) (w_preV (o := 5) (ci := 4) (ob := obC ad ci) (σ := σ) hK hY (by decide) obC_list rfl rfl) rfl rfl hl.1 rfl (lv_room (Nat.le_of_ble_eq_true rfl)) dX3_endsAreWords_12 ⟨Nat.zero_le _, Nat.zero_le _⟩) hY (fun r_10 H locs h hY => ?_)
      obtain ⟨rr_10, h⟩ := h
      refine lv_astore_n (lv' := [(3, .ref (ad r_10)), (0, .ref (ad 127)), (1, .ref (ad 5)), (2, .int x2)]) hx hb dX3_endsAreWords_15 rfl hl (by decide) rfl (fun ls hl => ?_)
      refine lv_iconst (v := (1 : Int32)) hx hb dX3_endsAreWords_16 (by decide) ?_
      refine lv_istore (lv' := [(4, .int (1 : Int32)), (3, .ref (ad r_10)), (0, .ref (ad 127)), (1, .ref (ad 5)), (2, .int x2)]) hx hb dX3_endsAreWords_17 hl (by decide) rfl (fun ls hl => ?_)
      obtain ⟨n_11, h⟩ := h
      exact tX3_endsAreWords_L19 C0 hK K (wX3_endsAreWords_L2 K n) x2 r_10 hret ih rr_10 n_11 σ (1 : Int32) h _ _ hY hR  _ (lv_sub hl [2, 3, 4, 1, 0] rfl)
set_option maxHeartbeats 4000000 in
set_option maxRecDepth 100000 in
theorem eX3_endsAreWords (C0 : CallFix p m c cX3_endsAreWords 5 s args wsX3_endsAreWords RX3) (hK : Kx D (tyC ci) s) (K : Int32 → St → Prop) (σ : St) (hret : ∀ (r : Int32) (u : St) (H : Heap) (locs : List Loc) (pc : Nat) (ls : Array Slot), narrow .boolean (.int r) = .int r → K r u → Sy D 132 ad A H0 (obC ad ci u) H locs → Rok u → decode cX3_endsAreWords pc = .ok (.ireturn, 1) → W p l e rmX3_endsAreWords s m args below meth c H locs 0 0 Q (F0 m pc ls [.int r])) (h : wX3_endsAreWords σ K) (H : Heap) (locs : List Loc) (hY : Sy D 132 ad A H0 (obC ad ci σ) H locs) (hR : Rok σ) (ls : Array Slot) (hl : lv_has ls 5 [(0, .ref (ad 127)), (1, .ref (ad 5))]) : W p l e rmX3_endsAreWords s m args below meth c H locs 0 0 Q (F0 m 0 ls []) := by
  obtain ⟨hx, hb, hml, hown, hts⟩ := id C0
  refine lv_iconst (v := (0 : Int32)) hx hb dX3_endsAreWords_0 (by decide) ?_
  refine lv_istore_n (lv' := [(2, .int (0 : Int32)), (0, .ref (ad 127)), (1, .ref (ad 5))]) hx hb dX3_endsAreWords_1 rfl hl (by decide) rfl (fun ls hl => ?_)
  obtain ⟨n_12, h⟩ := h
  exact tX3_endsAreWords_L2 C0 hK K hret n_12 σ (0 : Int32) h _ _ hY hR  _ (lv_sub hl [1, 2, 0] rfl)
set_option maxHeartbeats 4000000 in
set_option maxRecDepth 100000 in
theorem mX3_endsAreWords (l : Launch) (D : va_G) (ad : Nat → Nat) (ci : Nat → ClassId) (A : Nat → Prop) (σ : St) (K : Int32 → St → Prop) (hR : Rok σ) (h : wX3_endsAreWords σ K) : Met l yX3_endsAreWords wsX3_endsAreWords rmX3_endsAreWords (va_Pc [.ref (ad 127), .ref (ad 5)] (PreW D 132 ad A (tyC ci) (obC ad ci σ))) (va_Qi (fun r u => narrow .boolean (.int r) = .int r ∧ K r u) (PostW D 132 ad (tyC ci) (obC ad ci) Rok) A) 0 0 A := by
  refine Met.ofW (cc := cX3_endsAreWords) (maxL := 5) (ret := (some .boolean)) (by decide) rfl ?_
  intro p e s m args below meth c s₁ B hml hv
  obtain ⟨rfl, hP, hK, hD⟩ := hv
  have C0 : CallFix p m c cX3_endsAreWords 5 s _ wsX3_endsAreWords RX3 := ⟨B.exec, B.bytes, hml, findClass_of_methodNamed B.named, atoms_spec (ws := wsX3_endsAreWords) B.pre⟩
  have hlocks := B.notSynchronized
  have hY : Sy D 132 ad A s.heap (obC ad ci σ) s.heap [] := ⟨hP, hD, va_S.rf⟩
  have hl := lv_entry ([.ref (ad 127), .ref (ad 5)]) (n := 5) (Nat.le_of_ble_eq_true rfl)
  rw [lg_entry_eq]
  generalize (lg_sl ([.ref (ad 127), .ref (ad 5)]) ++ List.replicate (5 - (lg_sl ([.ref (ad 127), .ref (ad 5)])).length) Slot.unset).toArray = ls at hl ⊢
  exact eX3_endsAreWords C0 hK K σ (fun r u H locs pc ls hn hk hY hR hd => w_zret (I := Rok) B.exec B.bytes B.returns hn hlocks hK ⟨hn, hk⟩ (fun t ht => ht) hY hR hd) h _ _ hY hR ls hl
set_option maxHeartbeats 4000000 in
set_option maxRecDepth 100000 in
theorem eX3_fewestHolds (C0 : CallFix p m c cX3_fewestHolds 4 s args wsX3_fewestHolds RX3) (hK : Kx D (tyC ci) s) (K : Int32 → St → Prop) (σ : St) (hret : ∀ (r : Int32) (u : St) (H : Heap) (locs : List Loc) (pc : Nat) (ls : Array Slot), narrow .boolean (.int r) = .int r → K r u → Sy D 132 ad A H0 (obC ad ci u) H locs → Rok u → decode cX3_fewestHolds pc = .ok (.ireturn, 1) → W p l e rmX3_fewestHolds s m args below meth c H locs 0 0 Q (F0 m pc ls [.int r])) (h : wX3_fewestHolds σ K) (H : Heap) (locs : List Loc) (hY : Sy D 132 ad A H0 (obC ad ci σ) H locs) (hR : Rok σ) (ls : Array Slot) (hl : lv_has ls 4 [(0, .ref (ad 127)), (1, .ref (ad 5)), (2, .ref (ad 123))]) : W p l e rmX3_fewestHolds s m args below meth c H locs 0 0 Q (F0 m 0 ls []) := by
  obtain ⟨hx, hb, hml, hown, hts⟩ := id C0
  refine lv_aload_n hx hb dX3_fewestHolds_0 rfl (lv_at hl 2 rfl) ?_
  refine w_calli (rest := []) (va_runV (As := []) (rest := []) C0 (mX1_leastPieces l D ad ci A σ _ hR  h) (cwV 0 hts gX3_fewestHolds_X1_leastPieces rfl rfl rfl ddX1_leastPieces ⟨Nat.le_of_ble_eq_true rfl, Nat.le_of_ble_eq_true rfl⟩) (w_preV (o := 123) (ci := 1) (ob := obC ad ci) (σ := σ) hK hY (by decide) obC_cut rfl rfl) rfl rfl hl.1 rfl (lv_room (Nat.le_of_ble_eq_true rfl)) dX3_fewestHolds_1 ⟨Nat.zero_le _, Nat.zero_le _⟩) hY (fun r_1 σ_2 H locs h hY hR_σ_2 => ?_)
  refine lv_istore_n (lv' := [(3, .int r_1), (0, .ref (ad 127)), (1, .ref (ad 5)), (2, .ref (ad 123))]) hx hb dX3_fewestHolds_4 rfl hl (by decide) rfl (fun ls hl => ?_)
  refine lv_iload_n hx hb dX3_fewestHolds_5 rfl (lv_at hl 0 rfl) ?_
  refine lv_iconst (v := (-1 : Int32)) hx hb dX3_fewestHolds_6 (by decide) ?_
  refine lv_icmp_eq (tgt := 26) hx hb dX3_fewestHolds_7 (by decide) (fun c_3 => ?_) (fun c_3 => ?_)
  · have h := h.1 c_3
    refine lv_iconst (v := (1 : Int32)) hx hb dX3_fewestHolds_26 (by decide) ?_
    refine lv_goto (tgt := 31) hx hb dX3_fewestHolds_27 (by decide) ?_
    exact hret (1 : Int32) σ_2 _ _ _ _ rfl h hY hR_σ_2 dX3_fewestHolds_31
  · have h := h.2 c_3
    refine lv_aload_n hx hb dX3_fewestHolds_10 rfl (lv_at hl 3 rfl) ?_
    refine w_callip (rest := []) (va_runV (As := []) (rest := []) C0 (mX1_countLongest l D ad ci A σ_2 _ hR_σ_2  h) (cwV 0 hts gX3_fewestHolds_X1_countLongest rfl rfl rfl ddX1_countLongest ⟨Nat.le_of_ble_eq_true rfl, Nat.le_of_ble_eq_true rfl⟩) (w_preV (o := 123) (ci := 1) (ob := obC ad ci) (σ := σ_2) hK hY (by decide) obC_cut rfl rfl) rfl rfl hl.1 rfl (lv_room (Nat.le_of_ble_eq_true rfl)) dX3_fewestHolds_11 ⟨Nat.zero_le _, Nat.zero_le _⟩) hY (fun r_4 H locs h hY => ?_)
    refine lv_iload_n hx hb dX3_fewestHolds_14 rfl (lv_at hl 0 rfl) ?_
    refine lv_icmp_eq (tgt := 26) hx hb dX3_fewestHolds_15 (by decide) (fun c_5 => ?_) (fun c_5 => ?_)
    · have h := h.1 c_5
      refine lv_iconst (v := (1 : Int32)) hx hb dX3_fewestHolds_26 (by decide) ?_
      refine lv_goto (tgt := 31) hx hb dX3_fewestHolds_27 (by decide) ?_
      exact hret (1 : Int32) σ_2 _ _ _ _ rfl h hY hR_σ_2 dX3_fewestHolds_31
    · have h := h.2 c_5
      refine lv_aload_n hx hb dX3_fewestHolds_18 rfl (lv_at hl 1 rfl) ?_
      refine lv_aload_n hx hb dX3_fewestHolds_19 rfl (lv_at hl 2 rfl) ?_
      refine w_calli (rest := []) (va_runV (As := [.ref (ad 5)]) (rest := []) C0 (mX3_endsAreWords l D ad ci A σ_2 _ hR_σ_2  h) (cwV 1 hts gX3_fewestHolds_X3_endsAreWords rfl rfl rfl ddX3_endsAreWords ⟨Nat.le_of_ble_eq_true rfl, Nat.le_of_ble_eq_true rfl⟩) (w_preV (o := 127) (ci := 3) (ob := obC ad ci) (σ := σ_2) hK hY (by decide) obC_thm rfl rfl) rfl rfl hl.1 rfl (lv_room (Nat.le_of_ble_eq_true rfl)) dX3_fewestHolds_20 ⟨Nat.zero_le _, Nat.zero_le _⟩) hY (fun r_6 σ_7 H locs h hY hR_σ_7 => ?_)
      obtain ⟨n_r_6, h⟩ := h
      refine lv_if_ne (tgt := 30) hx hb dX3_fewestHolds_23 (by decide) (fun c_8 => ?_) (fun c_8 => ?_)
      · have h := h.2 c_8
        refine lv_iconst (v := (0 : Int32)) hx hb dX3_fewestHolds_30 (by decide) ?_
        exact hret (0 : Int32) σ_7 _ _ _ _ rfl h hY hR_σ_7 dX3_fewestHolds_31
      · have h := h.1 c_8
        refine lv_iconst (v := (1 : Int32)) hx hb dX3_fewestHolds_26 (by decide) ?_
        refine lv_goto (tgt := 31) hx hb dX3_fewestHolds_27 (by decide) ?_
        exact hret (1 : Int32) σ_7 _ _ _ _ rfl h hY hR_σ_7 dX3_fewestHolds_31
set_option maxHeartbeats 4000000 in
set_option maxRecDepth 100000 in
theorem mX3_fewestHolds (l : Launch) (D : va_G) (ad : Nat → Nat) (ci : Nat → ClassId) (A : Nat → Prop) (σ : St) (K : Int32 → St → Prop) (hR : Rok σ) (h : wX3_fewestHolds σ K) : Met l yX3_fewestHolds wsX3_fewestHolds rmX3_fewestHolds (va_Pc [.ref (ad 127), .ref (ad 5), .ref (ad 123)] (PreW D 132 ad A (tyC ci) (obC ad ci σ))) (va_Qi (fun r u => narrow .boolean (.int r) = .int r ∧ K r u) (PostW D 132 ad (tyC ci) (obC ad ci) Rok) A) 0 0 A := by
  refine Met.ofW (cc := cX3_fewestHolds) (maxL := 4) (ret := (some .boolean)) (by decide) rfl ?_
  intro p e s m args below meth c s₁ B hml hv
  obtain ⟨rfl, hP, hK, hD⟩ := hv
  have C0 : CallFix p m c cX3_fewestHolds 4 s _ wsX3_fewestHolds RX3 := ⟨B.exec, B.bytes, hml, findClass_of_methodNamed B.named, atoms_spec (ws := wsX3_fewestHolds) B.pre⟩
  have hlocks := B.notSynchronized
  have hY : Sy D 132 ad A s.heap (obC ad ci σ) s.heap [] := ⟨hP, hD, va_S.rf⟩
  have hl := lv_entry ([.ref (ad 127), .ref (ad 5), .ref (ad 123)]) (n := 4) (Nat.le_of_ble_eq_true rfl)
  rw [lg_entry_eq]
  generalize (lg_sl ([.ref (ad 127), .ref (ad 5), .ref (ad 123)]) ++ List.replicate (4 - (lg_sl ([.ref (ad 127), .ref (ad 5), .ref (ad 123)])).length) Slot.unset).toArray = ls at hl ⊢
  exact eX3_fewestHolds C0 hK K σ (fun r u H locs pc ls hn hk hY hR hd => w_zret (I := Rok) B.exec B.bytes B.returns hn hlocks hK ⟨hn, hk⟩ (fun t ht => ht) hY hR hd) h _ _ hY hR ls hl
set_option maxHeartbeats 4000000 in
set_option maxRecDepth 100000 in
theorem eX3_keepsOrder (C0 : CallFix p m c cX3_keepsOrder 6 s args wsX3_keepsOrder RX3) (hK : Kx D (tyC ci) s) (K : Int32 → Prop) (σ : St) (hret : ∀ (r : Int32) (H : Heap) (locs : List Loc) (pc : Nat) (ls : Array Slot), narrow .boolean (.int r) = .int r → K r → Sy D 132 ad A H0 (obC ad ci σ) H locs → decode cX3_keepsOrder pc = .ok (.ireturn, 1) → W p l e rmX3_keepsOrder s m args below meth c H locs 0 0 Q (F0 m pc ls [.int r])) (x0 : Int32) (x1 : Int32) (h : wX3_keepsOrder σ x0 x1 K) (H : Heap) (locs : List Loc) (hY : Sy D 132 ad A H0 (obC ad ci σ) H locs) (hR : Rok σ) (ls : Array Slot) (hl : lv_has ls 6 [(0, .int x0), (1, .int x1), (2, .ref (ad 5)), (3, .ref (ad 58))]) : W p l e rmX3_keepsOrder s m args below meth c H locs 0 0 Q (F0 m 0 ls []) := by
  obtain ⟨hx, hb, hml, hown, hts⟩ := id C0
  refine lv_aload_n hx hb dX3_keepsOrder_0 rfl (lv_at hl 3 rfl) ?_
  refine lv_iload_n hx hb dX3_keepsOrder_1 rfl (lv_at hl 0 rfl) ?_
  refine w_callrp (rest := []) (va_runV (As := [.int x0]) (rest := []) C0 (mX0_writtenAt l D ad ci A σ x0 _ hR  h) (cwV 1 hts gX3_keepsOrder_X0_writtenAt rfl rfl rfl ddX0_writtenAt ⟨Nat.le_of_ble_eq_true rfl, Nat.le_of_ble_eq_true rfl⟩) (w_preV (o := 58) (ci := 0) (ob := obC ad ci) (σ := σ) hK hY (by decide) obC_book rfl rfl) rfl rfl hl.1 rfl (lv_room (Nat.le_of_ble_eq_true rfl)) dX3_keepsOrder_2 ⟨Nat.zero_le _, Nat.zero_le _⟩) hY (fun r_1 H locs h hY => ?_)
  obtain ⟨rr_1, h⟩ := h
  refine lv_astore (lv' := [(4, .ref (ad r_1)), (0, .int x0), (1, .int x1), (2, .ref (ad 5)), (3, .ref (ad 58))]) hx hb dX3_keepsOrder_5 hl (by decide) rfl (fun ls hl => ?_)
  refine lv_aload_n hx hb dX3_keepsOrder_7 rfl (lv_at hl 4 rfl) ?_
  refine lv_iload_n hx hb dX3_keepsOrder_8 rfl (lv_at hl 2 rfl) ?_
  refine w_callrp (rest := []) (va_runV (As := [.int x1]) (rest := []) C0 (mX0_writtenAt l D ad ci A σ x1 _ hR  h) (cwV 1 hts gX3_keepsOrder_X0_writtenAt rfl rfl rfl ddX0_writtenAt ⟨Nat.le_of_ble_eq_true rfl, Nat.le_of_ble_eq_true rfl⟩) (w_preV (o := 58) (ci := 0) (ob := obC ad ci) (σ := σ) hK hY (by decide) obC_book rfl rfl) rfl rfl hl.1 rfl (lv_room (Nat.le_of_ble_eq_true rfl)) dX3_keepsOrder_9 ⟨Nat.zero_le _, Nat.zero_le _⟩) hY (fun r_2 H locs h hY => ?_)
  obtain ⟨rr_2, h⟩ := h
  refine lv_astore (lv' := [(5, .ref (ad r_2)), (4, .ref (ad r_1)), (0, .int x0), (1, .int x1), (2, .ref (ad 5)), (3, .ref (ad 58))]) hx hb dX3_keepsOrder_12 hl (by decide) rfl (fun ls hl => ?_)
  refine lv_aload hx hb dX3_keepsOrder_14 (lv_at hl 1 rfl) ?_
  refine lv_aload hx hb dX3_keepsOrder_16 (lv_at hl 0 rfl) ?_
  refine w_callip (rest := []) (va_runV (As := [.ref (ad r_2)]) (rest := []) C0 (mX2_compareWith l D ad ci A σ r_1 r_2 _ hR rr_1 rr_2 h) (cwV 1 hts gX3_keepsOrder_X2_compareWith rfl rfl rfl ddX2_compareWith ⟨Nat.le_of_ble_eq_true rfl, Nat.le_of_ble_eq_true rfl⟩) (w_preV (o := r_1) (ci := 2) (ob := obC ad ci) (σ := σ) hK hY (rowB_lt rr_1) (obC_row rr_1) rfl rfl) rfl rfl hl.1 rfl (lv_room (Nat.le_of_ble_eq_true rfl)) dX3_keepsOrder_18 ⟨Nat.zero_le _, Nat.zero_le _⟩) hY (fun r_3 H locs h hY => ?_)
  refine lv_if_ge (tgt := 61) hx hb dX3_keepsOrder_21 (by decide) (fun c_4 => ?_) (fun c_4 => ?_)
  · have h := h.1 c_4
    refine lv_iconst (v := (0 : Int32)) hx hb dX3_keepsOrder_61 (by decide) ?_
    exact hret (0 : Int32) _ _ _ _ rfl h hY dX3_keepsOrder_62
  · have h := h.2 c_4
    refine lv_aload hx hb dX3_keepsOrder_24 (lv_at hl 1 rfl) ?_
    refine lv_aload hx hb dX3_keepsOrder_26 (lv_at hl 0 rfl) ?_
    refine w_callip (rest := []) (va_runV (As := [.ref (ad r_2)]) (rest := []) C0 (mX2_beginsWith l D ad ci A σ r_1 r_2 _ hR rr_1 rr_2 h) (cwV 1 hts gX3_keepsOrder_X2_beginsWith rfl rfl rfl ddX2_beginsWith ⟨Nat.le_of_ble_eq_true rfl, Nat.le_of_ble_eq_true rfl⟩) (w_preV (o := r_1) (ci := 2) (ob := obC ad ci) (σ := σ) hK hY (rowB_lt rr_1) (obC_row rr_1) rfl rfl) rfl rfl hl.1 rfl (lv_room (Nat.le_of_ble_eq_true rfl)) dX3_keepsOrder_28 ⟨Nat.zero_le _, Nat.zero_le _⟩) hY (fun r_5 H locs h hY => ?_)
    obtain ⟨n_r_5, h⟩ := h
    refine lv_if_ne (tgt := 61) hx hb dX3_keepsOrder_31 (by decide) (fun c_6 => ?_) (fun c_6 => ?_)
    · have h := h.2 c_6
      refine lv_iconst (v := (0 : Int32)) hx hb dX3_keepsOrder_61 (by decide) ?_
      exact hret (0 : Int32) _ _ _ _ rfl h hY dX3_keepsOrder_62
    · have h := h.1 c_6
      refine lv_aload hx hb dX3_keepsOrder_34 (lv_at hl 0 rfl) ?_
      refine lv_aload hx hb dX3_keepsOrder_36 (lv_at hl 1 rfl) ?_
      refine w_callip (rest := []) (va_runV (As := [.ref (ad r_1)]) (rest := []) C0 (mX2_beginsWith l D ad ci A σ r_2 r_1 _ hR rr_2 rr_1 h) (cwV 1 hts gX3_keepsOrder_X2_beginsWith rfl rfl rfl ddX2_beginsWith ⟨Nat.le_of_ble_eq_true rfl, Nat.le_of_ble_eq_true rfl⟩) (w_preV (o := r_2) (ci := 2) (ob := obC ad ci) (σ := σ) hK hY (rowB_lt rr_2) (obC_row rr_2) rfl rfl) rfl rfl hl.1 rfl (lv_room (Nat.le_of_ble_eq_true rfl)) dX3_keepsOrder_38 ⟨Nat.zero_le _, Nat.zero_le _⟩) hY (fun r_7 H locs h hY => ?_)
      obtain ⟨n_r_7, h⟩ := h
      refine lv_aload_n hx hb dX3_keepsOrder_41 rfl (lv_at hl 4 rfl) ?_
      refine lv_iload_n hx hb dX3_keepsOrder_42 rfl (lv_at hl 3 rfl) ?_
      refine w_callrp (rest := [.int r_7]) (va_runV (As := [.int x1]) (rest := [.int r_7]) C0 (mX4_rowAt l D ad ci A σ x1 _ hR  h) (cwV 1 hts gX3_keepsOrder_X4_rowAt rfl rfl rfl ddX4_rowAt ⟨Nat.le_of_ble_eq_true rfl, Nat.le_of_ble_eq_true rfl⟩) (w_preV (o := 5) (ci := 4) (ob := obC ad ci) (σ := σ) hK hY (by decide) obC_list rfl rfl) rfl rfl hl.1 rfl (lv_room (Nat.le_of_ble_eq_true rfl)) dX3_keepsOrder_43 ⟨Nat.zero_le _, Nat.zero_le _⟩) hY (fun r_8 H locs h hY => ?_)
      obtain ⟨rr_8, h⟩ := h
      refine lv_aload_n hx hb dX3_keepsOrder_46 rfl (lv_at hl 4 rfl) ?_
      refine lv_iload_n hx hb dX3_keepsOrder_47 rfl (lv_at hl 2 rfl) ?_
      refine w_callrp (rest := [.ref (ad r_8), .int r_7]) (va_runV (As := [.int x0]) (rest := [.ref (ad r_8), .int r_7]) C0 (mX4_rowAt l D ad ci A σ x0 _ hR  h) (cwV 1 hts gX3_keepsOrder_X4_rowAt rfl rfl rfl ddX4_rowAt ⟨Nat.le_of_ble_eq_true rfl, Nat.le_of_ble_eq_true rfl⟩) (w_preV (o := 5) (ci := 4) (ob := obC ad ci) (σ := σ) hK hY (by decide) obC_list rfl rfl) rfl rfl hl.1 rfl (lv_room (Nat.le_of_ble_eq_true rfl)) dX3_keepsOrder_48 ⟨Nat.zero_le _, Nat.zero_le _⟩) hY (fun r_9 H locs h hY => ?_)
      obtain ⟨rr_9, h⟩ := h
      refine w_callip (rest := [.int r_7]) (va_runV (As := [.ref (ad r_9)]) (rest := [.int r_7]) C0 (mX2_beginsWith l D ad ci A σ r_8 r_9 _ hR rr_8 rr_9 h) (cwV 1 hts gX3_keepsOrder_X2_beginsWith rfl rfl rfl ddX2_beginsWith ⟨Nat.le_of_ble_eq_true rfl, Nat.le_of_ble_eq_true rfl⟩) (w_preV (o := r_8) (ci := 2) (ob := obC ad ci) (σ := σ) hK hY (rowB_lt rr_8) (obC_row rr_8) rfl rfl) rfl rfl hl.1 rfl (lv_room (Nat.le_of_ble_eq_true rfl)) dX3_keepsOrder_51 ⟨Nat.zero_le _, Nat.zero_le _⟩) hY (fun r_10 H locs h hY => ?_)
      obtain ⟨n_r_10, h⟩ := h
      refine lv_icmp_ne (tgt := 61) hx hb dX3_keepsOrder_54 (by decide) (fun c_11 => ?_) (fun c_11 => ?_)
      · have h := h.2 c_11
        refine lv_iconst (v := (0 : Int32)) hx hb dX3_keepsOrder_61 (by decide) ?_
        exact hret (0 : Int32) _ _ _ _ rfl h hY dX3_keepsOrder_62
      · have h := h.1 c_11
        refine lv_iconst (v := (1 : Int32)) hx hb dX3_keepsOrder_57 (by decide) ?_
        refine lv_goto (tgt := 62) hx hb dX3_keepsOrder_58 (by decide) ?_
        exact hret (1 : Int32) _ _ _ _ rfl h hY dX3_keepsOrder_62
set_option maxHeartbeats 4000000 in
set_option maxRecDepth 100000 in
theorem mX3_keepsOrder (l : Launch) (D : va_G) (ad : Nat → Nat) (ci : Nat → ClassId) (A : Nat → Prop) (σ : St) (x0 : Int32) (x1 : Int32) (K : Int32 → Prop) (hR : Rok σ) (h : wX3_keepsOrder σ x0 x1 K) : Met l yX3_keepsOrder wsX3_keepsOrder rmX3_keepsOrder (va_Pc [.int x0, .int x1, .ref (ad 5), .ref (ad 58)] (PreW D 132 ad A (tyC ci) (obC ad ci σ))) (va_Qi (fun r (_ : Unit) => narrow .boolean (.int r) = .int r ∧ K r) (fun _ => (PostW D 132 ad (tyC ci) (obC ad ci) Rok σ)) A) 0 0 A := by
  refine Met.ofW (cc := cX3_keepsOrder) (maxL := 6) (ret := (some .boolean)) (by decide) rfl ?_
  intro p e s m args below meth c s₁ B hml hv
  obtain ⟨rfl, hP, hK, hD⟩ := hv
  have C0 : CallFix p m c cX3_keepsOrder 6 s _ wsX3_keepsOrder RX3 := ⟨B.exec, B.bytes, hml, findClass_of_methodNamed B.named, atoms_spec (ws := wsX3_keepsOrder) B.pre⟩
  have hlocks := B.notSynchronized
  have hY : Sy D 132 ad A s.heap (obC ad ci σ) s.heap [] := ⟨hP, hD, va_S.rf⟩
  have hl := lv_entry ([.int x0, .int x1, .ref (ad 5), .ref (ad 58)]) (n := 6) (Nat.le_of_ble_eq_true rfl)
  rw [lg_entry_eq]
  generalize (lg_sl ([.int x0, .int x1, .ref (ad 5), .ref (ad 58)]) ++ List.replicate (6 - (lg_sl ([.int x0, .int x1, .ref (ad 5), .ref (ad 58)])).length) Slot.unset).toArray = ls at hl ⊢
  exact eX3_keepsOrder C0 hK K σ (fun r H locs pc ls hn hk hY hd => w_zret (I := Rok) B.exec B.bytes B.returns hn hlocks (u := ()) hK ⟨hn, hk⟩ (fun t ht => ht) hY hR hd) x0 x1 h _ _ hY hR ls hl
set_option maxHeartbeats 4000000 in
set_option maxRecDepth 100000 in
theorem tX3_codesHold_L29 (C0 : CallFix p m c cX3_codesHold 5 s args wsX3_codesHold RX3) (hK : Kx D (tyC ci) s) (K : Int32 → St → Prop) (B16 : Int32 → Prop) (σ : St) (x3 : Int32) (hret : ∀ (r : Int32) (u : St) (H : Heap) (locs : List Loc) (pc : Nat) (ls : Array Slot), narrow .boolean (.int r) = .int r → K r u → Sy D 132 ad A H0 (obC ad ci u) H locs → Rok u → decode cX3_codesHold pc = .ok (.ireturn, 1) → W p l e rmX3_codesHold s m args below meth c H locs 0 0 Q (F0 m pc ls [.int r])) (hB16 : ∀ (x3 : Int32), B16 x3 → ∀ (H : Heap) (locs : List Loc), Sy D 132 ad A H0 (obC ad ci σ) H locs → Rok σ → ∀ ls : Array Slot, lv_has ls 5 [(1, .ref (ad 5)), (2, .ref (ad 58)), (3, .int x3)] → W p l e rmX3_codesHold s m args below meth c H locs 0 0 Q (F0 m 16 ls [])) : ∀ (n : Nat) (x4 : Int32), wX3_codesHold_L29 K B16 σ x3 n x4 → ∀ (H : Heap) (locs : List Loc), Sy D 132 ad A H0 (obC ad ci σ) H locs → Rok σ → ∀ ls : Array Slot, lv_has ls 5 [(1, .ref (ad 5)), (2, .ref (ad 58)), (3, .int x3), (4, .int x4)] → W p l e rmX3_codesHold s m args below meth c H locs 0 0 Q (F0 m 29 ls []) := by
  obtain ⟨hx, hb, hml, hown, hts⟩ := id C0
  intro n
  induction n with
  | zero =>
    intro x4 h
    exact h.elim
  | succ n ih =>
    intro x4 h H locs hY hR  ls hl
    refine lv_iload hx hb dX3_codesHold_29 (lv_at hl 3 rfl) ?_
    refine lv_aload_n hx hb dX3_codesHold_31 rfl (lv_at hl 0 rfl) ?_
    refine w_callip (rest := [.int x4]) (va_runV (As := []) (rest := [.int x4]) C0 (mX4_size l D ad ci A σ _ hR  h) (cwV 0 hts gX3_codesHold_X4_size rfl rfl rfl ddX4_size ⟨Nat.le_of_ble_eq_true rfl, Nat.le_of_ble_eq_true rfl⟩) (w_preV (o := 5) (ci := 4) (ob := obC ad ci) (σ := σ) hK hY (by decide) obC_list rfl rfl) rfl rfl hl.1 rfl (lv_room (Nat.le_of_ble_eq_true rfl)) dX3_codesHold_32 ⟨Nat.zero_le _, Nat.zero_le _⟩) hY (fun r_1 H locs h hY => ?_)
    refine lv_icmp_ge (tgt := 57) hx hb dX3_codesHold_35 (by decide) (fun c_2 => ?_) (fun c_2 => ?_)
    · have h := h.1 c_2
      refine lv_iinc (v := (x3 + 1)) (lv' := [(3, .int (x3 + 1)), (1, .ref (ad 5)), (2, .ref (ad 58)), (4, .int x4)]) hx hb dX3_codesHold_57 hl (k := 2) rfl rfl (by decide) rfl (fun ls hl => ?_)
      refine lv_goto (tgt := 16) hx hb dX3_codesHold_60 (by decide) ?_
      exact hB16 (x3 + 1) h _ _ hY hR  _ (lv_sub hl [1, 2, 0] rfl)
    · have h := h.2 c_2
      refine lv_iload_n hx hb dX3_codesHold_38 rfl (lv_at hl 2 rfl) ?_
      refine lv_iload hx hb dX3_codesHold_39 (lv_at hl 3 rfl) ?_
      refine lv_aload_n hx hb dX3_codesHold_41 rfl (lv_at hl 0 rfl) ?_
      refine lv_aload_n hx hb dX3_codesHold_42 rfl (lv_at hl 1 rfl) ?_
      refine w_callip (rest := []) (va_runS (As := [.int x3, .int x4, .ref (ad 5), .ref (ad 58)]) (rest := []) C0 (mX3_keepsOrder l D ad ci A σ x3 x4 _ hR  h) (va_cwS 4 hts gX3_codesHold_X3_keepsOrder rfl rfl rfl ddX3_keepsOrder ⟨Nat.le_of_ble_eq_true rfl, Nat.le_of_ble_eq_true rfl⟩) (w_preS (ob := obC ad ci) (σ := σ) hK hY) rfl rfl hl.1 rfl (lv_room (Nat.le_of_ble_eq_true rfl)) dX3_codesHold_43 ⟨Nat.zero_le _, Nat.zero_le _⟩) hY (fun r_3 H locs h hY => ?_)
      obtain ⟨n_r_3, h⟩ := h
      refine lv_if_ne (tgt := 51) hx hb dX3_codesHold_46 (by decide) (fun c_4 => ?_) (fun c_4 => ?_)
      · have h := h.2 c_4
        refine lv_iinc (v := (x4 + 1)) (lv' := [(4, .int (x4 + 1)), (1, .ref (ad 5)), (2, .ref (ad 58)), (3, .int x3)]) hx hb dX3_codesHold_51 hl (k := 3) rfl rfl (by decide) rfl (fun ls hl => ?_)
        refine lv_goto (tgt := 29) hx hb dX3_codesHold_54 (by decide) ?_
        exact ih (x4 + 1) h _ _ hY hR  _ (lv_sub hl [1, 2, 3, 0] rfl)
      · have h := h.1 c_4
        refine lv_iconst (v := (0 : Int32)) hx hb dX3_codesHold_49 (by decide) ?_
        exact hret (0 : Int32) σ _ _ _ _ rfl h hY hR dX3_codesHold_50
set_option maxHeartbeats 4000000 in
set_option maxRecDepth 100000 in
theorem tX3_codesHold_L16 (C0 : CallFix p m c cX3_codesHold 5 s args wsX3_codesHold RX3) (hK : Kx D (tyC ci) s) (K : Int32 → St → Prop) (σ : St) (hret : ∀ (r : Int32) (u : St) (H : Heap) (locs : List Loc) (pc : Nat) (ls : Array Slot), narrow .boolean (.int r) = .int r → K r u → Sy D 132 ad A H0 (obC ad ci u) H locs → Rok u → decode cX3_codesHold pc = .ok (.ireturn, 1) → W p l e rmX3_codesHold s m args below meth c H locs 0 0 Q (F0 m pc ls [.int r])) : ∀ (n : Nat) (x3 : Int32), wX3_codesHold_L16 K σ n x3 → ∀ (H : Heap) (locs : List Loc), Sy D 132 ad A H0 (obC ad ci σ) H locs → Rok σ → ∀ ls : Array Slot, lv_has ls 5 [(1, .ref (ad 5)), (2, .ref (ad 58)), (3, .int x3)] → W p l e rmX3_codesHold s m args below meth c H locs 0 0 Q (F0 m 16 ls []) := by
  obtain ⟨hx, hb, hml, hown, hts⟩ := id C0
  intro n
  induction n with
  | zero =>
    intro x3 h
    exact h.elim
  | succ n ih =>
    intro x3 h H locs hY hR  ls hl
    refine lv_iload_n hx hb dX3_codesHold_16 rfl (lv_at hl 2 rfl) ?_
    refine lv_aload_n hx hb dX3_codesHold_17 rfl (lv_at hl 0 rfl) ?_
    refine w_callip (rest := [.int x3]) (va_runV (As := []) (rest := [.int x3]) C0 (mX4_size l D ad ci A σ _ hR  h) (cwV 0 hts gX3_codesHold_X4_size rfl rfl rfl ddX4_size ⟨Nat.le_of_ble_eq_true rfl, Nat.le_of_ble_eq_true rfl⟩) (w_preV (o := 5) (ci := 4) (ob := obC ad ci) (σ := σ) hK hY (by decide) obC_list rfl rfl) rfl rfl hl.1 rfl (lv_room (Nat.le_of_ble_eq_true rfl)) dX3_codesHold_18 ⟨Nat.zero_le _, Nat.zero_le _⟩) hY (fun r_5 H locs h hY => ?_)
    refine lv_icmp_ge (tgt := 63) hx hb dX3_codesHold_21 (by decide) (fun c_6 => ?_) (fun c_6 => ?_)
    · have h := h.1 c_6
      refine lv_iconst (v := (1 : Int32)) hx hb dX3_codesHold_63 (by decide) ?_
      exact hret (1 : Int32) σ _ _ _ _ rfl h hY hR dX3_codesHold_64
    · have h := h.2 c_6
      refine lv_iload_n hx hb dX3_codesHold_24 rfl (lv_at hl 2 rfl) ?_
      refine lv_iconst (v := (1 : Int32)) hx hb dX3_codesHold_25 (by decide) ?_
      refine lv_iadd hx hb dX3_codesHold_26 ?_
      refine lv_istore (lv' := [(4, .int (x3 + (1 : Int32))), (1, .ref (ad 5)), (2, .ref (ad 58)), (3, .int x3)]) hx hb dX3_codesHold_27 hl (by decide) rfl (fun ls hl => ?_)
      obtain ⟨n_7, h⟩ := h
      exact tX3_codesHold_L29 C0 hK K (wX3_codesHold_L16 K σ n) σ x3 hret ih n_7 (x3 + (1 : Int32)) h _ _ hY hR  _ (lv_sub hl [1, 2, 3, 0] rfl)
set_option maxHeartbeats 4000000 in
set_option maxRecDepth 100000 in
theorem eX3_codesHold (C0 : CallFix p m c cX3_codesHold 5 s args wsX3_codesHold RX3) (hK : Kx D (tyC ci) s) (K : Int32 → St → Prop) (σ : St) (hret : ∀ (r : Int32) (u : St) (H : Heap) (locs : List Loc) (pc : Nat) (ls : Array Slot), narrow .boolean (.int r) = .int r → K r u → Sy D 132 ad A H0 (obC ad ci u) H locs → Rok u → decode cX3_codesHold pc = .ok (.ireturn, 1) → W p l e rmX3_codesHold s m args below meth c H locs 0 0 Q (F0 m pc ls [.int r])) (h : wX3_codesHold σ K) (H : Heap) (locs : List Loc) (hY : Sy D 132 ad A H0 (obC ad ci σ) H locs) (hR : Rok σ) (ls : Array Slot) (hl : lv_has ls 5 [(0, .ref (ad 127)), (1, .ref (ad 5)), (2, .ref (ad 58))]) : W p l e rmX3_codesHold s m args below meth c H locs 0 0 Q (F0 m 0 ls []) := by
  obtain ⟨hx, hb, hml, hown, hts⟩ := id C0
  refine lv_aload_n hx hb dX3_codesHold_0 rfl (lv_at hl 2 rfl) ?_
  refine w_callip (rest := []) (va_runV (As := []) (rest := []) C0 (mX0_isOrderly l D ad ci A σ _ hR  h) (cwV 0 hts gX3_codesHold_X0_isOrderly rfl rfl rfl ddX0_isOrderly ⟨Nat.le_of_ble_eq_true rfl, Nat.le_of_ble_eq_true rfl⟩) (w_preV (o := 58) (ci := 0) (ob := obC ad ci) (σ := σ) hK hY (by decide) obC_book rfl rfl) rfl rfl hl.1 rfl (lv_room (Nat.le_of_ble_eq_true rfl)) dX3_codesHold_1 ⟨Nat.zero_le _, Nat.zero_le _⟩) hY (fun r_8 H locs h hY => ?_)
  obtain ⟨n_r_8, h⟩ := h
  refine lv_if_ne (tgt := 9) hx hb dX3_codesHold_4 (by decide) (fun c_9 => ?_) (fun c_9 => ?_)
  · have h := h.2 c_9
    refine lv_aload_n hx hb dX3_codesHold_9 rfl (lv_at hl 2 rfl) ?_
    refine lv_aload_n hx hb dX3_codesHold_10 rfl (lv_at hl 1 rfl) ?_
    refine w_callv (rest := []) (va_runV (As := [.ref (ad 5)]) (rest := []) C0 (mX0_writeWords l D ad ci A σ _ hR  h) (cwV 1 hts gX3_codesHold_X0_writeWords rfl rfl rfl ddX0_writeWords ⟨Nat.le_of_ble_eq_true rfl, Nat.le_of_ble_eq_true rfl⟩) (w_preV (o := 58) (ci := 0) (ob := obC ad ci) (σ := σ) hK hY (by decide) obC_book rfl rfl) rfl rfl hl.1 rfl (lv_room (Nat.le_of_ble_eq_true rfl)) dX3_codesHold_11 ⟨Nat.zero_le _, Nat.zero_le _⟩) hY (fun σ_11 H locs h hY hR_σ_11 => ?_)
    refine lv_iconst (v := (0 : Int32)) hx hb dX3_codesHold_14 (by decide) ?_
    refine lv_istore_n (lv' := [(3, .int (0 : Int32)), (0, .ref (ad 127)), (1, .ref (ad 5)), (2, .ref (ad 58))]) hx hb dX3_codesHold_15 rfl hl (by decide) rfl (fun ls hl => ?_)
    obtain ⟨n_12, h⟩ := h
    exact tX3_codesHold_L16 C0 hK K σ_11 hret n_12 (0 : Int32) h _ _ hY hR_σ_11  _ (lv_sub hl [2, 3, 0] rfl)
  · have h := h.1 c_9
    refine lv_iconst (v := (1 : Int32)) hx hb dX3_codesHold_7 (by decide) ?_
    exact hret (1 : Int32) σ _ _ _ _ rfl h hY hR dX3_codesHold_8
set_option maxHeartbeats 4000000 in
set_option maxRecDepth 100000 in
theorem mX3_codesHold (l : Launch) (D : va_G) (ad : Nat → Nat) (ci : Nat → ClassId) (A : Nat → Prop) (σ : St) (K : Int32 → St → Prop) (hR : Rok σ) (h : wX3_codesHold σ K) : Met l yX3_codesHold wsX3_codesHold rmX3_codesHold (va_Pc [.ref (ad 127), .ref (ad 5), .ref (ad 58)] (PreW D 132 ad A (tyC ci) (obC ad ci σ))) (va_Qi (fun r u => narrow .boolean (.int r) = .int r ∧ K r u) (PostW D 132 ad (tyC ci) (obC ad ci) Rok) A) 0 0 A := by
  refine Met.ofW (cc := cX3_codesHold) (maxL := 5) (ret := (some .boolean)) (by decide) rfl ?_
  intro p e s m args below meth c s₁ B hml hv
  obtain ⟨rfl, hP, hK, hD⟩ := hv
  have C0 : CallFix p m c cX3_codesHold 5 s _ wsX3_codesHold RX3 := ⟨B.exec, B.bytes, hml, findClass_of_methodNamed B.named, atoms_spec (ws := wsX3_codesHold) B.pre⟩
  have hlocks := B.notSynchronized
  have hY : Sy D 132 ad A s.heap (obC ad ci σ) s.heap [] := ⟨hP, hD, va_S.rf⟩
  have hl := lv_entry ([.ref (ad 127), .ref (ad 5), .ref (ad 58)]) (n := 5) (Nat.le_of_ble_eq_true rfl)
  rw [lg_entry_eq]
  generalize (lg_sl ([.ref (ad 127), .ref (ad 5), .ref (ad 58)]) ++ List.replicate (5 - (lg_sl ([.ref (ad 127), .ref (ad 5), .ref (ad 58)])).length) Slot.unset).toArray = ls at hl ⊢
  exact eX3_codesHold C0 hK K σ (fun r u H locs pc ls hn hk hY hR hd => w_zret (I := Rok) B.exec B.bytes B.returns hn hlocks hK ⟨hn, hk⟩ (fun t ht => ht) hY hR hd) h _ _ hY hR ls hl
end
