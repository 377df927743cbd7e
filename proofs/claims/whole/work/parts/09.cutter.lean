/-! the cutter: what each method does, as predicates over the state; the walks of their bytecode -/
def wX1_look_L33 (K : St → Prop) (B15 : St → Int32 → Prop) (x1 : Nat) (x3 : Int32) : Nat → St → Int32 → Prop
  | 0, _, _ => False
  | n + 1, σ, x4 => wX4_size σ (fun r_1 => ((r_1 ≤ x4 → B15 σ (x3 + 1)) ∧ (¬ r_1 ≤ x4 → wX4_rowAt σ x4 (fun r_3 => wX2_hasAt σ x1 x3 r_3 (fun r_4 => ((r_4 = 0 → wX1_look_L33 K B15 x1 x3 n σ (x4 + 1)) ∧ (¬ r_4 = 0 → vp_in x3 25 ∧ (wX4_rowAt σ x4 (fun r_7 => wX2_size σ r_7 (fun r_8 => vp_in x3 25 ∧ (∀ σ_10 : St, σ_10 = pA σ 124 (x3).toNatClampNeg ((gA σ 124 (x3).toNatClampNeg) ||| ((1 : Int32) <<< (r_8 &&& 31))) → wX1_look_L33 K B15 x1 x3 n σ_10 (x4 + 1))))))))))))
def wX1_look_L15 (K : St → Prop) (x1 : Nat) : Nat → St → Int32 → Prop
  | 0, _, _ => False
  | n + 1, σ, x3 => (((gI σ 123) < x3 → K σ) ∧ (¬ (gI σ 123) < x3 → vp_in x3 25 ∧ (∀ σ_13 : St, σ_13 = pA σ 124 (x3).toNatClampNeg (0 : Int32) → (∃ nn : Nat, wX1_look_L33 K (wX1_look_L15 K x1 n) x1 x3 nn σ_13 (0 : Int32)))))
def wX1_look (σ : St) (x1 : Nat) (K : St → Prop) : Prop := wX2_size σ x1 (fun r_15 => ∀ σ_16 : St, σ_16 = pI σ 123 (if (24 : Int32) < r_15 then (24 : Int32) else r_15) → (∃ n : Nat, wX1_look_L15 K x1 n σ_16 (0 : Int32)))
def wX1_fitsAt (σ : St) (x1 : Int32) (x2 : Int32) (K : Int32 → Prop) : Prop := ((x1 < 0 → K (0 : Int32)) ∧ (¬ x1 < 0 → (((gI σ 123) < (x1 + x2) → K (0 : Int32)) ∧ (¬ (gI σ 123) < (x1 + x2) → vp_in x1 25 ∧ (((((gA σ 124 (x1).toNatClampNeg) &&& ((1 : Int32) <<< (x2 &&& 31))) = 0 → K (0 : Int32)) ∧ (¬ ((gA σ 124 (x1).toNatClampNeg) &&& ((1 : Int32) <<< (x2 &&& 31))) = 0 → K (1 : Int32))))))))
def wX1_longestFit_L3 (K : Int32 → Prop) (σ : St) (x1 : Int32) : Nat → Int32 → Prop
  | 0, _ => False
  | n + 1, x2 => ((x2 ≤ 0 → K x2) ∧ (¬ x2 ≤ 0 → wX1_fitsAt σ x1 x2 (fun r_2 => ((r_2 = 0 → wX1_longestFit_L3 K σ x1 n (x2 + (-1))) ∧ (¬ r_2 = 0 → K x2)))))
def wX1_longestFit (σ : St) (x1 : Int32) (K : Int32 → Prop) : Prop := (∃ n : Nat, wX1_longestFit_L3 K σ x1 n (10 : Int32))
def wX1_countLongest_J34 (K : Int32 → Prop) (σ : St) (x1 : Int32) (x2 : Int32) : Prop := ((x1 = (gI σ 123) → K x2) ∧ (¬ x1 = (gI σ 123) → K ((-1 : Int32) - x1)))
def wX1_countLongest_L4 (K : Int32 → Prop) (σ : St) : Nat → Int32 → Int32 → Prop
  | 0, _, _ => False
  | n + 1, x1, x2 => (((gI σ 123) ≤ x2 → wX1_countLongest_J34 K σ x1 x2) ∧ (¬ (gI σ 123) ≤ x2 → wX1_longestFit σ x1 (fun r_3 => ((r_3 ≤ 0 → wX1_countLongest_J34 K σ x1 x2) ∧ (¬ r_3 ≤ 0 → wX1_longestFit σ x1 (fun r_5 => wX1_countLongest_L4 K σ n (x1 + r_5) (x2 + 1)))))))
def wX1_countLongest (σ : St) (K : Int32 → Prop) : Prop := (∃ n : Nat, wX1_countLongest_L4 K σ n (0 : Int32) (0 : Int32))
def wX1_sizeOfLongest_L18 (K : Int32 → Prop) (σ : St) (x1 : Int32) : Nat → Int32 → Int32 → Prop
  | 0, _, _ => False
  | n + 1, x2, x3 => ((x1 ≤ x3 → wX1_longestFit σ x2 (fun r_2 => K r_2)) ∧ (¬ x1 ≤ x3 → wX1_longestFit σ x2 (fun r_3 => wX1_sizeOfLongest_L18 K σ x1 n (x2 + r_3) (x3 + 1))))
def wX1_sizeOfLongest (σ : St) (x1 : Int32) (K : Int32 → Prop) : Prop := ((x1 < 0 → K (0 : Int32)) ∧ (¬ x1 < 0 → ((x1 < (gI σ 123) → (∃ n : Nat, wX1_sizeOfLongest_L18 K σ x1 n (0 : Int32) (0 : Int32))) ∧ (¬ x1 < (gI σ 123) → K (0 : Int32)))))
def wX1_countWays_L58 (K : Int64 → St → Prop) (B48 : St → Int32 → Prop) (x2 : Int32) : Nat → St → Int32 → Prop
  | 0, _, _ => False
  | n + 1, σ, x3 => (((10 : Int32) < x3 → B48 σ (x2 + 1)) ∧ (¬ (10 : Int32) < x3 → wX1_fitsAt σ x2 x3 (fun r_2 => ((r_2 = 0 → wX1_countWays_L58 K B48 x2 n σ (x3 + 1)) ∧ (¬ r_2 = 0 → vp_in (x2 + x3) 25 ∧ (vp_in x2 25 ∧ (vp_in (x2 + x3) 25 ∧ (∀ σ_7 : St, σ_7 = pL σ ((x2 + x3)).toNatClampNeg ((gL σ ((x2 + x3)).toNatClampNeg) + (gL σ (x2).toNatClampNeg)) → wX1_countWays_L58 K B48 x2 n σ_7 (x3 + 1)))))))))
def wX1_countWays_L48 (K : Int64 → St → Prop) : Nat → St → Int32 → Prop
  | 0, _, _ => False
  | n + 1, σ, x2 => (((gI σ 123) ≤ x2 → vp_in (gI σ 123) 25 ∧ (K (gL σ ((gI σ 123)).toNatClampNeg) σ)) ∧ (¬ (gI σ 123) ≤ x2 → (∃ nn : Nat, wX1_countWays_L58 K (wX1_countWays_L48 K n) x2 nn σ (1 : Int32))))
def wX1_countWays_J39 (K : Int64 → St → Prop) (B16 : St → Int32 → Prop) (σ : St) (x1 : Int32) (x2 : Int32) (s1 : Int32) (s2 : Int64) : Prop := vp_in s1 25 ∧ (∀ σ_12 : St, σ_12 = pL σ (s1).toNatClampNeg s2 → B16 σ_12 (x2 + 1))
def wX1_countWays_L16 (K : Int64 → St → Prop) (x1 : Int32) : Nat → St → Int32 → Prop
  | 0, _, _ => False
  | n + 1, σ, x2 => (((gI σ 123) < x2 → (∃ n : Nat, wX1_countWays_L48 K n σ x1)) ∧ (¬ (gI σ 123) < x2 → ((x2 = x1 → wX1_countWays_J39 K (wX1_countWays_L16 K x1 n) σ x1 x2 x2 (1 : Int64)) ∧ (¬ x2 = x1 → wX1_countWays_J39 K (wX1_countWays_L16 K x1 n) σ x1 x2 x2 (0 : Int64)))))
def wX1_countWays (σ : St) (x1 : Int32) (K : Int64 → St → Prop) : Prop := ((x1 < 0 → K (0 : Int64) σ) ∧ (¬ x1 < 0 → ((x1 ≤ (gI σ 123) → (∃ n : Nat, wX1_countWays_L16 K x1 n σ x1)) ∧ (¬ x1 ≤ (gI σ 123) → K (0 : Int64) σ))))
def wX1_lesser (σ : St) (x0 : Int32) (x1 : Int32) (K : Int32 → Prop) : Prop := ((x0 = (-1 : Int32) → K x1) ∧ (¬ x0 = (-1 : Int32) → K (if x1 < x0 then x1 else x0)))
def wX1_leastPieces_L42 (K : Int32 → St → Prop) (B32 : St → Int32 → Prop) (x1 : Int32) : Nat → St → Int32 → Prop
  | 0, _, _ => False
  | n + 1, σ, x2 => (((10 : Int32) < x2 → B32 σ (x1 + 1)) ∧ (¬ (10 : Int32) < x2 → vp_in x1 25 ∧ ((((gA σ 126 (x1).toNatClampNeg) = (-1 : Int32) → wX1_leastPieces_L42 K B32 x1 n σ (x2 + 1)) ∧ (¬ (gA σ 126 (x1).toNatClampNeg) = (-1 : Int32) → wX1_fitsAt σ x1 x2 (fun r_4 => ((r_4 = 0 → wX1_leastPieces_L42 K B32 x1 n σ (x2 + 1)) ∧ (¬ r_4 = 0 → vp_in (x1 + x2) 25 ∧ (vp_in x1 25 ∧ (wX1_lesser σ (gA σ 126 ((x1 + x2)).toNatClampNeg) ((gA σ 126 (x1).toNatClampNeg) + (1 : Int32)) (fun r_8 => vp_in (x1 + x2) 25 ∧ (∀ σ_10 : St, σ_10 = pA σ 126 ((x1 + x2)).toNatClampNeg r_8 → wX1_leastPieces_L42 K B32 x1 n σ_10 (x2 + 1)))))))))))))
def wX1_leastPieces_L32 (K : Int32 → St → Prop) : Nat → St → Int32 → Prop
  | 0, _, _ => False
  | n + 1, σ, x1 => (((gI σ 123) ≤ x1 → vp_in (gI σ 123) 25 ∧ (K (gA σ 126 ((gI σ 123)).toNatClampNeg) σ)) ∧ (¬ (gI σ 123) ≤ x1 → (∃ nn : Nat, wX1_leastPieces_L42 K (wX1_leastPieces_L32 K n) x1 nn σ (1 : Int32))))
def wX1_leastPieces_L9 (K : Int32 → St → Prop) : Nat → St → Int32 → Prop
  | 0, _, _ => False
  | n + 1, σ, x1 => (((gI σ 123) < x1 → (∃ n : Nat, wX1_leastPieces_L32 K n σ (0 : Int32))) ∧ (¬ (gI σ 123) < x1 → vp_in x1 25 ∧ (∀ σ_17 : St, σ_17 = pA σ 126 (x1).toNatClampNeg (-1 : Int32) → wX1_leastPieces_L9 K n σ_17 (x1 + 1))))
def wX1_leastPieces (σ : St) (K : Int32 → St → Prop) : Prop := vp_in (0 : Int32) 25 ∧ (∀ σ_19 : St, σ_19 = pA σ 126 ((0 : Int32)).toNatClampNeg (0 : Int32) → (∃ n : Nat, wX1_leastPieces_L9 K n σ_19 (1 : Int32)))
abbrev rmX1_look : Room := { frames := 1, cells := 0, slots := 0, locals := 23 }
theorem ddX1_look : yX1_look.cls = RX1 ∧ yX1_look.cls ≠ "java/lang/invoke/MethodHandle" ∧ yX1_look.cls ≠ "java/lang/invoke/VarHandle" ∧ (parseMethodDescriptor yX1_look.desc).map (fun d => d.parameters.length) = some 2 := by decide +kernel
set_option maxRecDepth 20000 in
theorem kX1_look_0 : Cond.fieldLink RX1 9 "Stemspan$Cutter" "fits" "[I" ∈ wsX1_look := by decide +kernel
set_option maxRecDepth 20000 in
theorem kX1_look_inX1 : ∀ w ∈ wsX10, w ∈ wsX1_look := by decide +kernel
set_option maxRecDepth 20000 in
theorem kX1_look_2 : Cond.fieldLink RX1 22 "Stemspan$Cutter" "size" "I" ∈ wsX1_look := by decide +kernel
set_option maxRecDepth 20000 in
theorem kX1_look_3 : Cond.methodLink RX1 31 Lib.Math.min.name ∈ wsX1_look := by decide +kernel
set_option maxRecDepth 20000 in
theorem kX1_look_4 : Cond.static Lib.Math.min.name ∈ wsX1_look := by decide +kernel
set_option maxRecDepth 20000 in
theorem kX1_look_5 : Cond.initialized "java/lang/Math" ∈ wsX1_look := by decide +kernel
set_option maxRecDepth 20000 in
theorem kX1_look_6 : Cond.code Lib.Math.min.name Lib.Math.min.code 2 (some .int) ∈ wsX1_look := by decide +kernel
abbrev rmX1_fitsAt : Room := { frames := 0, cells := 0, slots := 0, locals := 0 }
theorem ddX1_fitsAt : yX1_fitsAt.cls = RX1 ∧ yX1_fitsAt.cls ≠ "java/lang/invoke/MethodHandle" ∧ yX1_fitsAt.cls ≠ "java/lang/invoke/VarHandle" ∧ (parseMethodDescriptor yX1_fitsAt.desc).map (fun d => d.parameters.length) = some 2 := by decide +kernel
set_option maxRecDepth 20000 in
theorem kX1_fitsAt_0 : Cond.fieldLink RX1 22 "Stemspan$Cutter" "size" "I" ∈ wsX1_fitsAt := by decide +kernel
set_option maxRecDepth 20000 in
theorem kX1_fitsAt_inX1 : ∀ w ∈ wsX10, w ∈ wsX1_fitsAt := by decide +kernel
set_option maxRecDepth 20000 in
theorem kX1_fitsAt_2 : Cond.fieldLink RX1 9 "Stemspan$Cutter" "fits" "[I" ∈ wsX1_fitsAt := by decide +kernel
abbrev rmX1_longestFit : Room := { frames := 1, cells := 0, slots := 0, locals := 22 }
theorem ddX1_longestFit : yX1_longestFit.cls = RX1 ∧ yX1_longestFit.cls ≠ "java/lang/invoke/MethodHandle" ∧ yX1_longestFit.cls ≠ "java/lang/invoke/VarHandle" ∧ (parseMethodDescriptor yX1_longestFit.desc).map (fun d => d.parameters.length) = some 1 := by decide +kernel
abbrev rmX1_countLongest : Room := { frames := 2, cells := 0, slots := 0, locals := 44 }
theorem ddX1_countLongest : yX1_countLongest.cls = RX1 ∧ yX1_countLongest.cls ≠ "java/lang/invoke/MethodHandle" ∧ yX1_countLongest.cls ≠ "java/lang/invoke/VarHandle" ∧ (parseMethodDescriptor yX1_countLongest.desc).map (fun d => d.parameters.length) = some 0 := by decide +kernel
set_option maxRecDepth 20000 in
theorem kX1_countLongest_0 : Cond.fieldLink RX1 22 "Stemspan$Cutter" "size" "I" ∈ wsX1_countLongest := by decide +kernel
set_option maxRecDepth 20000 in
theorem kX1_countLongest_inX1 : ∀ w ∈ wsX10, w ∈ wsX1_countLongest := by decide +kernel
abbrev rmX1_sizeOfLongest : Room := { frames := 2, cells := 0, slots := 0, locals := 44 }
theorem ddX1_sizeOfLongest : yX1_sizeOfLongest.cls = RX1 ∧ yX1_sizeOfLongest.cls ≠ "java/lang/invoke/MethodHandle" ∧ yX1_sizeOfLongest.cls ≠ "java/lang/invoke/VarHandle" ∧ (parseMethodDescriptor yX1_sizeOfLongest.desc).map (fun d => d.parameters.length) = some 1 := by decide +kernel
set_option maxRecDepth 20000 in
theorem kX1_sizeOfLongest_0 : Cond.fieldLink RX1 22 "Stemspan$Cutter" "size" "I" ∈ wsX1_sizeOfLongest := by decide +kernel
set_option maxRecDepth 20000 in
theorem kX1_sizeOfLongest_inX1 : ∀ w ∈ wsX10, w ∈ wsX1_sizeOfLongest := by decide +kernel
abbrev rmX1_countWays : Room := { frames := 1, cells := 0, slots := 0, locals := 22 }
theorem ddX1_countWays : yX1_countWays.cls = RX1 ∧ yX1_countWays.cls ≠ "java/lang/invoke/MethodHandle" ∧ yX1_countWays.cls ≠ "java/lang/invoke/VarHandle" ∧ (parseMethodDescriptor yX1_countWays.desc).map (fun d => d.parameters.length) = some 1 := by decide +kernel
set_option maxRecDepth 20000 in
theorem kX1_countWays_0 : Cond.fieldLink RX1 15 "Stemspan$Cutter" "ways" "[J" ∈ wsX1_countWays := by decide +kernel
set_option maxRecDepth 20000 in
theorem kX1_countWays_inX1 : ∀ w ∈ wsX10, w ∈ wsX1_countWays := by decide +kernel
set_option maxRecDepth 20000 in
theorem kX1_countWays_2 : Cond.fieldLink RX1 22 "Stemspan$Cutter" "size" "I" ∈ wsX1_countWays := by decide +kernel
abbrev rmX1_lesser : Room := { frames := 1, cells := 0, slots := 0, locals := 21 }
theorem ddX1_lesser : yX1_lesser.cls ≠ "java/lang/invoke/MethodHandle" ∧ yX1_lesser.cls ≠ "java/lang/invoke/VarHandle" ∧ (parseMethodDescriptor yX1_lesser.desc).map (fun d => d.parameters.length) = some 2 := by decide +kernel
set_option maxRecDepth 20000 in
theorem kX1_lesser_0 : Cond.methodLink RX1 31 Lib.Math.min.name ∈ wsX1_lesser := by decide +kernel
set_option maxRecDepth 20000 in
theorem kX1_lesser_1 : Cond.static Lib.Math.min.name ∈ wsX1_lesser := by decide +kernel
set_option maxRecDepth 20000 in
theorem kX1_lesser_2 : Cond.initialized "java/lang/Math" ∈ wsX1_lesser := by decide +kernel
set_option maxRecDepth 20000 in
theorem kX1_lesser_3 : Cond.code Lib.Math.min.name Lib.Math.min.code 2 (some .int) ∈ wsX1_lesser := by decide +kernel
abbrev rmX1_leastPieces : Room := { frames := 2, cells := 0, slots := 0, locals := 42 }
theorem ddX1_leastPieces : yX1_leastPieces.cls = RX1 ∧ yX1_leastPieces.cls ≠ "java/lang/invoke/MethodHandle" ∧ yX1_leastPieces.cls ≠ "java/lang/invoke/VarHandle" ∧ (parseMethodDescriptor yX1_leastPieces.desc).map (fun d => d.parameters.length) = some 0 := by decide +kernel
set_option maxRecDepth 20000 in
theorem kX1_leastPieces_0 : Cond.fieldLink RX1 19 "Stemspan$Cutter" "least" "[I" ∈ wsX1_leastPieces := by decide +kernel
set_option maxRecDepth 20000 in
theorem kX1_leastPieces_inX1 : ∀ w ∈ wsX10, w ∈ wsX1_leastPieces := by decide +kernel
set_option maxRecDepth 20000 in
theorem kX1_leastPieces_2 : Cond.fieldLink RX1 22 "Stemspan$Cutter" "size" "I" ∈ wsX1_leastPieces := by decide +kernel
section
variable {p : Program} {l : Launch} {e : Env} {s : State} {m : MethodId} {args : Array Value} {below : List Frame} {meth : Method} {c : Code} {Q : State → Prop} {D : va_G} {ad : Nat → Nat} {ci : Nat → ClassId} {A : Nat → Prop} {H0 : Heap}
set_option maxHeartbeats 4000000 in
set_option maxRecDepth 100000 in
theorem tX1_look_L33 (C0 : CallFix p m c cX1_look 5 s args wsX1_look RX1) (hK : Kx D (tyC ci) s) (K : St → Prop) (B15 : St → Int32 → Prop) (x1 : Nat) (x3 : Int32) (hret : ∀ (u : St) (H : Heap) (locs : List Loc) (pc : Nat) (ls : Array Slot), K u → Sy D 132 ad A H0 (obC ad ci u) H locs → Rok u → decode cX1_look pc = .ok (.return_, 1) → W p l e rmX1_look s m args below meth c H locs 0 0 Q (F0 m pc ls [])) (hB15 : ∀ (σ : St) (x3 : Int32), B15 σ x3 → ∀ (H : Heap) (locs : List Loc), Sy D 132 ad A H0 (obC ad ci σ) H locs → Rok σ → ∀ ls : Array Slot, lv_has ls 5 [(0, .ref (ad 123)), (1, .ref (ad x1)), (2, .ref (ad 5)), (3, .int x3)] → W p l e rmX1_look s m args below meth c H locs 0 0 Q (F0 m 15 ls [])) (rx1 : rowB x1 = true) : ∀ (n : Nat) (σ : St) (x4 : Int32), wX1_look_L33 K B15 x1 x3 n σ x4 → ∀ (H : Heap) (locs : List Loc), Sy D 132 ad A H0 (obC ad ci σ) H locs → Rok σ → ∀ ls : Array Slot, lv_has ls 5 [(0, .ref (ad 123)), (1, .ref (ad x1)), (2, .ref (ad 5)), (3, .int x3), (4, .int x4)] → W p l e rmX1_look s m args below meth c H locs 0 0 Q (F0 m 33 ls []) := by
  obtain ⟨hx, hb, hml, hown, hts⟩ := id C0
  intro n
  induction n with
  | zero =>
    intro σ x4 h
    exact h.elim
  | succ n ih =>
    intro σ x4 h H locs hY hR  ls hl
    refine lv_iload hx hb dX1_look_33 (lv_at hl 4 rfl) ?_
    refine lv_aload_n hx hb dX1_look_35 rfl (lv_at hl 2 rfl) ?_
    refine w_callip (rest := [.int x4]) (va_runV (As := []) (rest := [.int x4]) C0 (mX4_size l D ad ci A σ _ hR  h) (cwV 0 hts gX1_look_X4_size rfl rfl rfl ddX4_size ⟨Nat.le_of_ble_eq_true rfl, Nat.le_of_ble_eq_true rfl⟩) (w_preV (o := 5) (ci := 4) (ob := obC ad ci) (σ := σ) hK hY (by decide) obC_list rfl rfl) rfl rfl hl.1 rfl (lv_room (Nat.le_of_ble_eq_true rfl)) dX1_look_36 ⟨Nat.zero_le _, Nat.zero_le _⟩) hY (fun r_1 H locs h hY => ?_)
    refine lv_icmp_ge (tgt := 82) hx hb dX1_look_39 (by decide) (fun c_2 => ?_) (fun c_2 => ?_)
    · have h := h.1 c_2
      refine lv_iinc (v := (x3 + 1)) (lv' := [(3, .int (x3 + 1)), (0, .ref (ad 123)), (1, .ref (ad x1)), (2, .ref (ad 5)), (4, .int x4)]) hx hb dX1_look_82 hl (k := 3) rfl rfl (by decide) rfl (fun ls hl => ?_)
      refine lv_goto (tgt := 15) hx hb dX1_look_85 (by decide) ?_
      exact hB15 σ (x3 + 1) h _ _ hY hR  _ (lv_sub hl [1, 2, 3, 0] rfl)
    · have h := h.2 c_2
      refine lv_aload_n hx hb dX1_look_42 rfl (lv_at hl 1 rfl) ?_
      refine lv_iload_n hx hb dX1_look_43 rfl (lv_at hl 3 rfl) ?_
      refine lv_aload_n hx hb dX1_look_44 rfl (lv_at hl 2 rfl) ?_
      refine lv_iload hx hb dX1_look_45 (lv_at hl 4 rfl) ?_
      refine w_callrp (rest := [.int x3, .ref (ad x1)]) (va_runV (As := [.int x4]) (rest := [.int x3, .ref (ad x1)]) C0 (mX4_rowAt l D ad ci A σ x4 _ hR  h) (cwV 1 hts gX1_look_X4_rowAt rfl rfl rfl ddX4_rowAt ⟨Nat.le_of_ble_eq_true rfl, Nat.le_of_ble_eq_true rfl⟩) (w_preV (o := 5) (ci := 4) (ob := obC ad ci) (σ := σ) hK hY (by decide) obC_list rfl rfl) rfl rfl hl.1 rfl (lv_room (Nat.le_of_ble_eq_true rfl)) dX1_look_47 ⟨Nat.zero_le _, Nat.zero_le _⟩) hY (fun r_3 H locs h hY => ?_)
      obtain ⟨rr_3, h⟩ := h
      refine w_callip (rest := []) (va_runV (As := [.int x3, .ref (ad r_3)]) (rest := []) C0 (mX2_hasAt l D ad ci A σ x1 x3 r_3 _ hR rx1 rr_3 h) (cwV 2 hts gX1_look_X2_hasAt rfl rfl rfl ddX2_hasAt ⟨Nat.le_of_ble_eq_true rfl, Nat.le_of_ble_eq_true rfl⟩) (w_preV (o := x1) (ci := 2) (ob := obC ad ci) (σ := σ) hK hY (rowB_lt rx1) (obC_row rx1) rfl rfl) rfl rfl hl.1 rfl (lv_room (Nat.le_of_ble_eq_true rfl)) dX1_look_50 ⟨Nat.zero_le _, Nat.zero_le _⟩) hY (fun r_4 H locs h hY => ?_)
      obtain ⟨n_r_4, h⟩ := h
      refine lv_if_eq (tgt := 76) hx hb dX1_look_53 (by decide) (fun c_5 => ?_) (fun c_5 => ?_)
      · have h := h.1 c_5
        refine lv_iinc (v := (x4 + 1)) (lv' := [(4, .int (x4 + 1)), (0, .ref (ad 123)), (1, .ref (ad x1)), (2, .ref (ad 5)), (3, .int x3)]) hx hb dX1_look_76 hl (k := 4) rfl rfl (by decide) rfl (fun ls hl => ?_)
        refine lv_goto (tgt := 33) hx hb dX1_look_79 (by decide) ?_
        exact ih σ (x4 + 1) h _ _ hY hR  _ (lv_sub hl [1, 2, 3, 4, 0] rfl)
      · have h := h.2 c_5
        refine lv_aload_n hx hb dX1_look_56 rfl (lv_at hl 0 rfl) ?_
        refine w_get (o := 123) (ci := 1) (C := RX1) (T := TX1) (N1 := 4) (v := .ref (ad 124)) hx hb hts kX1_look_inX1 hown hK.1 hY (by decide) obC_cut rfl 0 (by decide) (hts _ kX1_look_0) rfl rfl dX1_look_57 ?_
        refine lv_iload_n hx hb dX1_look_60 rfl (lv_at hl 3 rfl) ?_
        refine lv_dup2_11 hx hb dX1_look_61 rfl rfl ?_
        obtain ⟨b_6, h⟩ := h
        refine w_iald (o := 124) hx hb hK.1 hY (by decide) 1 rfl rfl b_6 dX1_look_62 ?_
        refine lv_iconst (v := (1 : Int32)) hx hb dX1_look_63 (by decide) ?_
        refine lv_aload_n hx hb dX1_look_64 rfl (lv_at hl 2 rfl) ?_
        refine lv_iload hx hb dX1_look_65 (lv_at hl 4 rfl) ?_
        refine w_callrp (rest := [.int (1 : Int32), .int (gA σ 124 (x3).toNatClampNeg), .int x3, .ref (ad 124)]) (va_runV (As := [.int x4]) (rest := [.int (1 : Int32), .int (gA σ 124 (x3).toNatClampNeg), .int x3, .ref (ad 124)]) C0 (mX4_rowAt l D ad ci A σ x4 _ hR  h) (cwV 1 hts gX1_look_X4_rowAt rfl rfl rfl ddX4_rowAt ⟨Nat.le_of_ble_eq_true rfl, Nat.le_of_ble_eq_true rfl⟩) (w_preV (o := 5) (ci := 4) (ob := obC ad ci) (σ := σ) hK hY (by decide) obC_list rfl rfl) rfl rfl hl.1 rfl (lv_room (Nat.le_of_ble_eq_true rfl)) dX1_look_67 ⟨Nat.zero_le _, Nat.zero_le _⟩) hY (fun r_7 H locs h hY => ?_)
        obtain ⟨rr_7, h⟩ := h
        refine w_callip (rest := [.int (1 : Int32), .int (gA σ 124 (x3).toNatClampNeg), .int x3, .ref (ad 124)]) (va_runV (As := []) (rest := [.int (1 : Int32), .int (gA σ 124 (x3).toNatClampNeg), .int x3, .ref (ad 124)]) C0 (mX2_size l D ad ci A σ r_7 _ hR rr_7 h) (cwV 0 hts gX1_look_X2_size rfl rfl rfl ddX2_size ⟨Nat.le_of_ble_eq_true rfl, Nat.le_of_ble_eq_true rfl⟩) (w_preV (o := r_7) (ci := 2) (ob := obC ad ci) (σ := σ) hK hY (rowB_lt rr_7) (obC_row rr_7) rfl rfl) rfl rfl hl.1 rfl (lv_room (Nat.le_of_ble_eq_true rfl)) dX1_look_70 ⟨Nat.zero_le _, Nat.zero_le _⟩) hY (fun r_8 H locs h hY => ?_)
        refine lv_ishl hx hb dX1_look_73 ?_
        refine lv_ior hx hb dX1_look_74 ?_
        obtain ⟨b_9, h⟩ := h
        obtain ⟨σ_10, e_σ_10⟩ : ∃ z : St, z = pA σ 124 (x3).toNatClampNeg ((gA σ 124 (x3).toNatClampNeg) ||| ((1 : Int32) <<< (r_8 &&& 31))) := ⟨_, rfl⟩
        have h := h σ_10 e_σ_10
        have hR_σ_10 : Rok σ_10 := by rw [e_σ_10]; exact hR
        refine w_iast (o := 124) hx hb hK.1 hY (by decide) 1 rfl rfl b_9 dX1_look_75 (ob' := obC ad ci σ_10) (by rw [e_σ_10]; exact obC_pA_int (by decide)) (fun H locs hY => ?_)
        refine lv_iinc (v := (x4 + 1)) (lv' := [(4, .int (x4 + 1)), (0, .ref (ad 123)), (1, .ref (ad x1)), (2, .ref (ad 5)), (3, .int x3)]) hx hb dX1_look_76 hl (k := 4) rfl rfl (by decide) rfl (fun ls hl => ?_)
        refine lv_goto (tgt := 33) hx hb dX1_look_79 (by decide) ?_
        exact ih σ_10 (x4 + 1) h _ _ hY hR_σ_10  _ (lv_sub hl [1, 2, 3, 4, 0] rfl)
set_option maxHeartbeats 4000000 in
set_option maxRecDepth 100000 in
theorem tX1_look_L15 (C0 : CallFix p m c cX1_look 5 s args wsX1_look RX1) (hK : Kx D (tyC ci) s) (K : St → Prop) (x1 : Nat) (hret : ∀ (u : St) (H : Heap) (locs : List Loc) (pc : Nat) (ls : Array Slot), K u → Sy D 132 ad A H0 (obC ad ci u) H locs → Rok u → decode cX1_look pc = .ok (.return_, 1) → W p l e rmX1_look s m args below meth c H locs 0 0 Q (F0 m pc ls [])) (rx1 : rowB x1 = true) : ∀ (n : Nat) (σ : St) (x3 : Int32), wX1_look_L15 K x1 n σ x3 → ∀ (H : Heap) (locs : List Loc), Sy D 132 ad A H0 (obC ad ci σ) H locs → Rok σ → ∀ ls : Array Slot, lv_has ls 5 [(0, .ref (ad 123)), (1, .ref (ad x1)), (2, .ref (ad 5)), (3, .int x3)] → W p l e rmX1_look s m args below meth c H locs 0 0 Q (F0 m 15 ls []) := by
  obtain ⟨hx, hb, hml, hown, hts⟩ := id C0
  intro n
  induction n with
  | zero =>
    intro σ x3 h
    exact h.elim
  | succ n ih =>
    intro σ x3 h H locs hY hR  ls hl
    refine lv_iload_n hx hb dX1_look_15 rfl (lv_at hl 3 rfl) ?_
    refine lv_aload_n hx hb dX1_look_16 rfl (lv_at hl 0 rfl) ?_
    refine w_get (o := 123) (ci := 1) (C := RX1) (T := TX1) (N1 := 4) (v := .int (gI σ 123)) hx hb hts kX1_look_inX1 hown hK.1 hY (by decide) obC_cut rfl 3 (by decide) (hts _ kX1_look_2) rfl rfl dX1_look_17 ?_
    refine lv_icmp_gt (tgt := 88) hx hb dX1_look_20 (by decide) (fun c_11 => ?_) (fun c_11 => ?_)
    · have h := h.1 c_11
      exact hret σ _ _ _ _ h hY hR dX1_look_88
    · have h := h.2 c_11
      refine lv_aload_n hx hb dX1_look_23 rfl (lv_at hl 0 rfl) ?_
      refine w_get (o := 123) (ci := 1) (C := RX1) (T := TX1) (N1 := 4) (v := .ref (ad 124)) hx hb hts kX1_look_inX1 hown hK.1 hY (by decide) obC_cut rfl 0 (by decide) (hts _ kX1_look_0) rfl rfl dX1_look_24 ?_
      refine lv_iload_n hx hb dX1_look_27 rfl (lv_at hl 3 rfl) ?_
      refine lv_iconst (v := (0 : Int32)) hx hb dX1_look_28 (by decide) ?_
      obtain ⟨b_12, h⟩ := h
      obtain ⟨σ_13, e_σ_13⟩ : ∃ z : St, z = pA σ 124 (x3).toNatClampNeg (0 : Int32) := ⟨_, rfl⟩
      have h := h σ_13 e_σ_13
      have hR_σ_13 : Rok σ_13 := by rw [e_σ_13]; exact hR
      refine w_iast (o := 124) hx hb hK.1 hY (by decide) 1 rfl rfl b_12 dX1_look_29 (ob' := obC ad ci σ_13) (by rw [e_σ_13]; exact obC_pA_int (by decide)) (fun H locs hY => ?_)
      refine lv_iconst (v := (0 : Int32)) hx hb dX1_look_30 (by decide) ?_
      refine lv_istore (lv' := [(4, .int (0 : Int32)), (0, .ref (ad 123)), (1, .ref (ad x1)), (2, .ref (ad 5)), (3, .int x3)]) hx hb dX1_look_31 hl (by decide) rfl (fun ls hl => ?_)
      obtain ⟨n_14, h⟩ := h
      exact tX1_look_L33 C0 hK K (wX1_look_L15 K x1 n) x1 x3 hret ih rx1 n_14 σ_13 (0 : Int32) h _ _ hY hR_σ_13  _ (lv_sub hl [1, 2, 3, 4, 0] rfl)
set_option maxHeartbeats 4000000 in
set_option maxRecDepth 100000 in
theorem eX1_look (C0 : CallFix p m c cX1_look 5 s args wsX1_look RX1) (hK : Kx D (tyC ci) s) (K : St → Prop) (σ : St) (hret : ∀ (u : St) (H : Heap) (locs : List Loc) (pc : Nat) (ls : Array Slot), K u → Sy D 132 ad A H0 (obC ad ci u) H locs → Rok u → decode cX1_look pc = .ok (.return_, 1) → W p l e rmX1_look s m args below meth c H locs 0 0 Q (F0 m pc ls [])) (x1 : Nat) (rx1 : rowB x1 = true) (h : wX1_look σ x1 K) (H : Heap) (locs : List Loc) (hY : Sy D 132 ad A H0 (obC ad ci σ) H locs) (hR : Rok σ) (ls : Array Slot) (hl : lv_has ls 5 [(0, .ref (ad 123)), (1, .ref (ad x1)), (2, .ref (ad 5))]) : W p l e rmX1_look s m args below meth c H locs 0 0 Q (F0 m 0 ls []) := by
  obtain ⟨hx, hb, hml, hown, hts⟩ := id C0
  refine lv_aload_n hx hb dX1_look_0 rfl (lv_at hl 0 rfl) ?_
  refine lv_aload_n hx hb dX1_look_1 rfl (lv_at hl 1 rfl) ?_
  refine w_callip (rest := [.ref (ad 123)]) (va_runV (As := []) (rest := [.ref (ad 123)]) C0 (mX2_size l D ad ci A σ x1 _ hR rx1 h) (cwV 0 hts gX1_look_X2_size rfl rfl rfl ddX2_size ⟨Nat.le_of_ble_eq_true rfl, Nat.le_of_ble_eq_true rfl⟩) (w_preV (o := x1) (ci := 2) (ob := obC ad ci) (σ := σ) hK hY (rowB_lt rx1) (obC_row rx1) rfl rfl) rfl rfl hl.1 rfl (lv_room (Nat.le_of_ble_eq_true rfl)) dX1_look_2 ⟨Nat.zero_le _, Nat.zero_le _⟩) hY (fun r_15 H locs h hY => ?_)
  refine lv_bipush (v := (24 : Int32)) hx hb dX1_look_5 (by decide) ?_
  refine va_mmin hx hb (hml.trans hl.1.symm) hown (hts _ kX1_look_3) (hts _ kX1_look_4) (hts _ kX1_look_5) (hts _ kX1_look_6) (Nat.le_of_ble_eq_true rfl) (Nat.le_of_ble_eq_true rfl) (Nat.zero_le _) (Nat.zero_le _) dX1_look_7 ?_
  obtain ⟨σ_16, e_σ_16⟩ : ∃ z : St, z = pI σ 123 (if (24 : Int32) < r_15 then (24 : Int32) else r_15) := ⟨_, rfl⟩
  have h := h σ_16 e_σ_16
  have hR_σ_16 : Rok σ_16 := by rw [e_σ_16]; exact hR
  refine w_put (o := 123) (ci := 1) (C := RX1) (T := TX1) (N1 := 4) hx hb hts kX1_look_inX1 tyX1 tyX1_ok nmX1 hown hK.1 hY (by decide) obC_cut rfl 3 (by decide) (hts _ kX1_look_2) rfl rfl rfl (Nat.le_of_ble_eq_true rfl) dX1_look_10 (ob' := obC ad ci σ_16) (by rw [e_σ_16]; exact obC_pI_cut) (fun H locs hY => ?_)
  refine lv_iconst (v := (0 : Int32)) hx hb dX1_look_13 (by decide) ?_
  refine lv_istore_n (lv' := [(3, .int (0 : Int32)), (0, .ref (ad 123)), (1, .ref (ad x1)), (2, .ref (ad 5))]) hx hb dX1_look_14 rfl hl (by decide) rfl (fun ls hl => ?_)
  obtain ⟨n_17, h⟩ := h
  exact tX1_look_L15 C0 hK K x1 hret rx1 n_17 σ_16 (0 : Int32) h _ _ hY hR_σ_16  _ (lv_sub hl [1, 2, 3, 0] rfl)
set_option maxHeartbeats 4000000 in
set_option maxRecDepth 100000 in
theorem mX1_look (l : Launch) (D : va_G) (ad : Nat → Nat) (ci : Nat → ClassId) (A : Nat → Prop) (σ : St) (x1 : Nat) (K : St → Prop) (hR : Rok σ) (rx1 : rowB x1 = true) (h : wX1_look σ x1 K) : Met l yX1_look wsX1_look rmX1_look (va_Pc [.ref (ad 123), .ref (ad x1), .ref (ad 5)] (PreW D 132 ad A (tyC ci) (obC ad ci σ))) (va_Qv (fun u => K u) (PostW D 132 ad (tyC ci) (obC ad ci) Rok) A) 0 0 A := by
  refine Met.ofW (cc := cX1_look) (maxL := 5) (ret := none) (by decide) rfl ?_
  intro p e s m args below meth c s₁ B hml hv
  obtain ⟨rfl, hP, hK, hD⟩ := hv
  have C0 : CallFix p m c cX1_look 5 s _ wsX1_look RX1 := ⟨B.exec, B.bytes, hml, findClass_of_methodNamed B.named, atoms_spec (ws := wsX1_look) B.pre⟩
  have hlocks := B.notSynchronized
  have hY : Sy D 132 ad A s.heap (obC ad ci σ) s.heap [] := ⟨hP, hD, va_S.rf⟩
  have hl := lv_entry ([.ref (ad 123), .ref (ad x1), .ref (ad 5)]) (n := 5) (Nat.le_of_ble_eq_true rfl)
  rw [lg_entry_eq]
  generalize (lg_sl ([.ref (ad 123), .ref (ad x1), .ref (ad 5)]) ++ List.replicate (5 - (lg_sl ([.ref (ad 123), .ref (ad x1), .ref (ad 5)])).length) Slot.unset).toArray = ls at hl ⊢
  exact eX1_look C0 hK K σ (fun u H locs pc ls hk hY hR hd => w_vret (I := Rok) B.exec B.bytes B.returns hlocks hK hk (fun t ht => ht) hY hR hd) x1 rx1 h _ _ hY hR ls hl
set_option maxHeartbeats 4000000 in
set_option maxRecDepth 100000 in
theorem eX1_fitsAt (C0 : CallFix p m c cX1_fitsAt 3 s args wsX1_fitsAt RX1) (hK : Kx D (tyC ci) s) (K : Int32 → Prop) (σ : St) (hret : ∀ (r : Int32) (H : Heap) (locs : List Loc) (pc : Nat) (ls : Array Slot), narrow .boolean (.int r) = .int r → K r → Sy D 132 ad A H0 (obC ad ci σ) H locs → decode cX1_fitsAt pc = .ok (.ireturn, 1) → W p l e rmX1_fitsAt s m args below meth c H locs 0 0 Q (F0 m pc ls [.int r])) (x1 : Int32) (x2 : Int32) (h : wX1_fitsAt σ x1 x2 K) (H : Heap) (locs : List Loc) (hY : Sy D 132 ad A H0 (obC ad ci σ) H locs) (hR : Rok σ) (ls : Array Slot) (hl : lv_has ls 3 [(0, .ref (ad 123)), (1, .int x1), (2, .int x2)]) : W p l e rmX1_fitsAt s m args below meth c H locs 0 0 Q (F0 m 0 ls []) := by
  obtain ⟨hx, hb, hml, hown, hts⟩ := id C0
  refine lv_iload_n hx hb dX1_fitsAt_0 rfl (lv_at hl 1 rfl) ?_
  refine lv_if_lt (tgt := 31) hx hb dX1_fitsAt_1 (by decide) (fun c_1 => ?_) (fun c_1 => ?_)
  · have h := h.1 c_1
    refine lv_iconst (v := (0 : Int32)) hx hb dX1_fitsAt_31 (by decide) ?_
    exact hret (0 : Int32) _ _ _ _ rfl h hY dX1_fitsAt_32
  · have h := h.2 c_1
    refine lv_iload_n hx hb dX1_fitsAt_4 rfl (lv_at hl 1 rfl) ?_
    refine lv_iload_n hx hb dX1_fitsAt_5 rfl (lv_at hl 2 rfl) ?_
    refine lv_iadd hx hb dX1_fitsAt_6 ?_
    refine lv_aload_n hx hb dX1_fitsAt_7 rfl (lv_at hl 0 rfl) ?_
    refine w_get (o := 123) (ci := 1) (C := RX1) (T := TX1) (N1 := 4) (v := .int (gI σ 123)) hx hb hts kX1_fitsAt_inX1 hown hK.1 hY (by decide) obC_cut rfl 3 (by decide) (hts _ kX1_fitsAt_0) rfl rfl dX1_fitsAt_8 ?_
    refine lv_icmp_gt (tgt := 31) hx hb dX1_fitsAt_11 (by decide) (fun c_2 => ?_) (fun c_2 => ?_)
    · have h := h.1 c_2
      refine lv_iconst (v := (0 : Int32)) hx hb dX1_fitsAt_31 (by decide) ?_
      exact hret (0 : Int32) _ _ _ _ rfl h hY dX1_fitsAt_32
    · have h := h.2 c_2
      refine lv_aload_n hx hb dX1_fitsAt_14 rfl (lv_at hl 0 rfl) ?_
      refine w_get (o := 123) (ci := 1) (C := RX1) (T := TX1) (N1 := 4) (v := .ref (ad 124)) hx hb hts kX1_fitsAt_inX1 hown hK.1 hY (by decide) obC_cut rfl 0 (by decide) (hts _ kX1_fitsAt_2) rfl rfl dX1_fitsAt_15 ?_
      refine lv_iload_n hx hb dX1_fitsAt_18 rfl (lv_at hl 1 rfl) ?_
      obtain ⟨b_3, h⟩ := h
      refine w_iald (o := 124) hx hb hK.1 hY (by decide) 1 rfl rfl b_3 dX1_fitsAt_19 ?_
      refine lv_iconst (v := (1 : Int32)) hx hb dX1_fitsAt_20 (by decide) ?_
      refine lv_iload_n hx hb dX1_fitsAt_21 rfl (lv_at hl 2 rfl) ?_
      refine lv_ishl hx hb dX1_fitsAt_22 ?_
      refine lv_iand hx hb dX1_fitsAt_23 ?_
      refine lv_if_eq (tgt := 31) hx hb dX1_fitsAt_24 (by decide) (fun c_4 => ?_) (fun c_4 => ?_)
      · have h := h.1 c_4
        refine lv_iconst (v := (0 : Int32)) hx hb dX1_fitsAt_31 (by decide) ?_
        exact hret (0 : Int32) _ _ _ _ rfl h hY dX1_fitsAt_32
      · have h := h.2 c_4
        refine lv_iconst (v := (1 : Int32)) hx hb dX1_fitsAt_27 (by decide) ?_
        refine lv_goto (tgt := 32) hx hb dX1_fitsAt_28 (by decide) ?_
        exact hret (1 : Int32) _ _ _ _ rfl h hY dX1_fitsAt_32
set_option maxHeartbeats 4000000 in
set_option maxRecDepth 100000 in
theorem mX1_fitsAt (l : Launch) (D : va_G) (ad : Nat → Nat) (ci : Nat → ClassId) (A : Nat → Prop) (σ : St) (x1 : Int32) (x2 : Int32) (K : Int32 → Prop) (hR : Rok σ) (h : wX1_fitsAt σ x1 x2 K) : Met l yX1_fitsAt wsX1_fitsAt rmX1_fitsAt (va_Pc [.ref (ad 123), .int x1, .int x2] (PreW D 132 ad A (tyC ci) (obC ad ci σ))) (va_Qi (fun r (_ : Unit) => narrow .boolean (.int r) = .int r ∧ K r) (fun _ => (PostW D 132 ad (tyC ci) (obC ad ci) Rok σ)) A) 0 0 A := by
  refine Met.ofW (cc := cX1_fitsAt) (maxL := 3) (ret := (some .boolean)) (by decide) rfl ?_
  intro p e s m args below meth c s₁ B hml hv
  obtain ⟨rfl, hP, hK, hD⟩ := hv
  have C0 : CallFix p m c cX1_fitsAt 3 s _ wsX1_fitsAt RX1 := ⟨B.exec, B.bytes, hml, findClass_of_methodNamed B.named, atoms_spec (ws := wsX1_fitsAt) B.pre⟩
  have hlocks := B.notSynchronized
  have hY : Sy D 132 ad A s.heap (obC ad ci σ) s.heap [] := ⟨hP, hD, va_S.rf⟩
  have hl := lv_entry ([.ref (ad 123), .int x1, .int x2]) (n := 3) (Nat.le_of_ble_eq_true rfl)
  rw [lg_entry_eq]
  generalize (lg_sl ([.ref (ad 123), .int x1, .int x2]) ++ List.replicate (3 - (lg_sl ([.ref (ad 123), .int x1, .int x2])).length) Slot.unset).toArray = ls at hl ⊢
  exact eX1_fitsAt C0 hK K σ (fun r H locs pc ls hn hk hY hd => w_zret (I := Rok) B.exec B.bytes B.returns hn hlocks (u := ()) hK ⟨hn, hk⟩ (fun t ht => ht) hY hR hd) x1 x2 h _ _ hY hR ls hl
set_option maxHeartbeats 4000000 in
set_option maxRecDepth 100000 in
theorem tX1_longestFit_L3 (C0 : CallFix p m c cX1_longestFit 3 s args wsX1_longestFit RX1) (hK : Kx D (tyC ci) s) (K : Int32 → Prop) (σ : St) (x1 : Int32) (hret : ∀ (r : Int32) (H : Heap) (locs : List Loc) (pc : Nat) (ls : Array Slot), K r → Sy D 132 ad A H0 (obC ad ci σ) H locs → decode cX1_longestFit pc = .ok (.ireturn, 1) → W p l e rmX1_longestFit s m args below meth c H locs 0 0 Q (F0 m pc ls [.int r])) : ∀ (n : Nat) (x2 : Int32), wX1_longestFit_L3 K σ x1 n x2 → ∀ (H : Heap) (locs : List Loc), Sy D 132 ad A H0 (obC ad ci σ) H locs → Rok σ → ∀ ls : Array Slot, lv_has ls 3 [(0, .ref (ad 123)), (1, .int x1), (2, .int x2)] → W p l e rmX1_longestFit s m args below meth c H locs 0 0 Q (F0 m 3 ls []) := by
  obtain ⟨hx, hb, hml, hown, hts⟩ := id C0
  intro n
  induction n with
  | zero =>
    intro x2 h
    exact h.elim
  | succ n ih =>
    intro x2 h H locs hY hR  ls hl
    refine lv_iload_n hx hb dX1_longestFit_3 rfl (lv_at hl 2 rfl) ?_
    refine lv_if_le (tgt := 22) hx hb dX1_longestFit_4 (by decide) (fun c_1 => ?_) (fun c_1 => ?_)
    · have h := h.1 c_1
      refine lv_iload_n hx hb dX1_longestFit_22 rfl (lv_at hl 2 rfl) ?_
      exact hret x2 _ _ _ _ h hY dX1_longestFit_23
    · have h := h.2 c_1
      refine lv_aload_n hx hb dX1_longestFit_7 rfl (lv_at hl 0 rfl) ?_
      refine lv_iload_n hx hb dX1_longestFit_8 rfl (lv_at hl 1 rfl) ?_
      refine lv_iload_n hx hb dX1_longestFit_9 rfl (lv_at hl 2 rfl) ?_
      refine w_callip (rest := []) (va_runV (As := [.int x1, .int x2]) (rest := []) C0 (mX1_fitsAt l D ad ci A σ x1 x2 _ hR  h) (cwV 2 hts gX1_longestFit_X1_fitsAt rfl rfl rfl ddX1_fitsAt ⟨Nat.le_of_ble_eq_true rfl, Nat.le_of_ble_eq_true rfl⟩) (w_preV (o := 123) (ci := 1) (ob := obC ad ci) (σ := σ) hK hY (by decide) obC_cut rfl rfl) rfl rfl hl.1 rfl (lv_room (Nat.le_of_ble_eq_true rfl)) dX1_longestFit_10 ⟨Nat.zero_le _, Nat.zero_le _⟩) hY (fun r_2 H locs h hY => ?_)
      obtain ⟨n_r_2, h⟩ := h
      refine lv_if_ne (tgt := 22) hx hb dX1_longestFit_13 (by decide) (fun c_3 => ?_) (fun c_3 => ?_)
      · have h := h.2 c_3
        refine lv_iload_n hx hb dX1_longestFit_22 rfl (lv_at hl 2 rfl) ?_
        exact hret x2 _ _ _ _ h hY dX1_longestFit_23
      · have h := h.1 c_3
        refine lv_iinc (v := (x2 + (-1))) (lv' := [(2, .int (x2 + (-1))), (0, .ref (ad 123)), (1, .int x1)]) hx hb dX1_longestFit_16 hl (k := 2) rfl rfl (by decide) rfl (fun ls hl => ?_)
        refine lv_goto (tgt := 3) hx hb dX1_longestFit_19 (by decide) ?_
        exact ih (x2 + (-1)) h _ _ hY hR  _ (lv_sub hl [1, 2, 0] rfl)
set_option maxHeartbeats 4000000 in
set_option maxRecDepth 100000 in
theorem eX1_longestFit (C0 : CallFix p m c cX1_longestFit 3 s args wsX1_longestFit RX1) (hK : Kx D (tyC ci) s) (K : Int32 → Prop) (σ : St) (hret : ∀ (r : Int32) (H : Heap) (locs : List Loc) (pc : Nat) (ls : Array Slot), K r → Sy D 132 ad A H0 (obC ad ci σ) H locs → decode cX1_longestFit pc = .ok (.ireturn, 1) → W p l e rmX1_longestFit s m args below meth c H locs 0 0 Q (F0 m pc ls [.int r])) (x1 : Int32) (h : wX1_longestFit σ x1 K) (H : Heap) (locs : List Loc) (hY : Sy D 132 ad A H0 (obC ad ci σ) H locs) (hR : Rok σ) (ls : Array Slot) (hl : lv_has ls 3 [(0, .ref (ad 123)), (1, .int x1)]) : W p l e rmX1_longestFit s m args below meth c H locs 0 0 Q (F0 m 0 ls []) := by
  obtain ⟨hx, hb, hml, hown, hts⟩ := id C0
  refine lv_bipush (v := (10 : Int32)) hx hb dX1_longestFit_0 (by decide) ?_
  refine lv_istore_n (lv' := [(2, .int (10 : Int32)), (0, .ref (ad 123)), (1, .int x1)]) hx hb dX1_longestFit_2 rfl hl (by decide) rfl (fun ls hl => ?_)
  obtain ⟨n_4, h⟩ := h
  exact tX1_longestFit_L3 C0 hK K σ x1 hret n_4 (10 : Int32) h _ _ hY hR  _ (lv_sub hl [1, 2, 0] rfl)
set_option maxHeartbeats 4000000 in
set_option maxRecDepth 100000 in
theorem mX1_longestFit (l : Launch) (D : va_G) (ad : Nat → Nat) (ci : Nat → ClassId) (A : Nat → Prop) (σ : St) (x1 : Int32) (K : Int32 → Prop) (hR : Rok σ) (h : wX1_longestFit σ x1 K) : Met l yX1_longestFit wsX1_longestFit rmX1_longestFit (va_Pc [.ref (ad 123), .int x1] (PreW D 132 ad A (tyC ci) (obC ad ci σ))) (va_Qi (fun r (_ : Unit) => K r) (fun _ => (PostW D 132 ad (tyC ci) (obC ad ci) Rok σ)) A) 0 0 A := by
  refine Met.ofW (cc := cX1_longestFit) (maxL := 3) (ret := (some .int)) (by decide) rfl ?_
  intro p e s m args below meth c s₁ B hml hv
  obtain ⟨rfl, hP, hK, hD⟩ := hv
  have C0 : CallFix p m c cX1_longestFit 3 s _ wsX1_longestFit RX1 := ⟨B.exec, B.bytes, hml, findClass_of_methodNamed B.named, atoms_spec (ws := wsX1_longestFit) B.pre⟩
  have hlocks := B.notSynchronized
  have hY : Sy D 132 ad A s.heap (obC ad ci σ) s.heap [] := ⟨hP, hD, va_S.rf⟩
  have hl := lv_entry ([.ref (ad 123), .int x1]) (n := 3) (Nat.le_of_ble_eq_true rfl)
  rw [lg_entry_eq]
  generalize (lg_sl ([.ref (ad 123), .int x1]) ++ List.replicate (3 - (lg_sl ([.ref (ad 123), .int x1])).length) Slot.unset).toArray = ls at hl ⊢
  exact eX1_longestFit C0 hK K σ (fun r H locs pc ls hk hY hd => w_iret (I := Rok) B.exec B.bytes B.returns hlocks (u := ()) hK hk (fun t ht => ht) hY hR hd) x1 h _ _ hY hR ls hl
set_option maxHeartbeats 4000000 in
set_option maxRecDepth 100000 in
theorem tX1_countLongest_J34 (C0 : CallFix p m c cX1_countLongest 3 s args wsX1_countLongest RX1) (hK : Kx D (tyC ci) s) (K : Int32 → Prop) (σ : St) (x1 : Int32) (x2 : Int32) (hret : ∀ (r : Int32) (H : Heap) (locs : List Loc) (pc : Nat) (ls : Array Slot), K r → Sy D 132 ad A H0 (obC ad ci σ) H locs → decode cX1_countLongest pc = .ok (.ireturn, 1) → W p l e rmX1_countLongest s m args below meth c H locs 0 0 Q (F0 m pc ls [.int r])) (h : wX1_countLongest_J34 K σ x1 x2) (H : Heap) (locs : List Loc) (hY : Sy D 132 ad A H0 (obC ad ci σ) H locs) (hR : Rok σ) (ls : Array Slot) (hl : lv_has ls 3 [(0, .ref (ad 123)), (1, .int x1), (2, .int x2)]) : W p l e rmX1_countLongest s m args below meth c H locs 0 0 Q (F0 m 34 ls []) := by
  obtain ⟨hx, hb, hml, hown, hts⟩ := id C0
  refine lv_iload_n hx hb dX1_countLongest_34 rfl (lv_at hl 1 rfl) ?_
  refine lv_aload_n hx hb dX1_countLongest_35 rfl (lv_at hl 0 rfl) ?_
  refine w_get (o := 123) (ci := 1) (C := RX1) (T := TX1) (N1 := 4) (v := .int (gI σ 123)) hx hb hts kX1_countLongest_inX1 hown hK.1 hY (by decide) obC_cut rfl 3 (by decide) (hts _ kX1_countLongest_0) rfl rfl dX1_countLongest_36 ?_
  refine lv_icmp_ne (tgt := 46) hx hb dX1_countLongest_39 (by decide) (fun c_1 => ?_) (fun c_1 => ?_)
  · have h := h.2 c_1
    refine lv_iconst (v := (-1 : Int32)) hx hb dX1_countLongest_46 (by decide) ?_
    refine lv_iload_n hx hb dX1_countLongest_47 rfl (lv_at hl 1 rfl) ?_
    refine lv_isub hx hb dX1_countLongest_48 ?_
    exact hret ((-1 : Int32) - x1) _ _ _ _ h hY dX1_countLongest_49
  · have h := h.1 c_1
    refine lv_iload_n hx hb dX1_countLongest_42 rfl (lv_at hl 2 rfl) ?_
    refine lv_goto (tgt := 49) hx hb dX1_countLongest_43 (by decide) ?_
    exact hret x2 _ _ _ _ h hY dX1_countLongest_49
set_option maxHeartbeats 4000000 in
set_option maxRecDepth 100000 in
theorem tX1_countLongest_L4 (C0 : CallFix p m c cX1_countLongest 3 s args wsX1_countLongest RX1) (hK : Kx D (tyC ci) s) (K : Int32 → Prop) (σ : St) (hret : ∀ (r : Int32) (H : Heap) (locs : List Loc) (pc : Nat) (ls : Array Slot), K r → Sy D 132 ad A H0 (obC ad ci σ) H locs → decode cX1_countLongest pc = .ok (.ireturn, 1) → W p l e rmX1_countLongest s m args below meth c H locs 0 0 Q (F0 m pc ls [.int r])) : ∀ (n : Nat) (x1 : Int32) (x2 : Int32), wX1_countLongest_L4 K σ n x1 x2 → ∀ (H : Heap) (locs : List Loc), Sy D 132 ad A H0 (obC ad ci σ) H locs → Rok σ → ∀ ls : Array Slot, lv_has ls 3 [(0, .ref (ad 123)), (1, .int x1), (2, .int x2)] → W p l e rmX1_countLongest s m args below meth c H locs 0 0 Q (F0 m 4 ls []) := by
  obtain ⟨hx, hb, hml, hown, hts⟩ := id C0
  intro n
  induction n with
  | zero =>
    intro x1 x2 h
    exact h.elim
  | succ n ih =>
    intro x1 x2 h H locs hY hR  ls hl
    refine lv_iload_n hx hb dX1_countLongest_4 rfl (lv_at hl 2 rfl) ?_
    refine lv_aload_n hx hb dX1_countLongest_5 rfl (lv_at hl 0 rfl) ?_
    refine w_get (o := 123) (ci := 1) (C := RX1) (T := TX1) (N1 := 4) (v := .int (gI σ 123)) hx hb hts kX1_countLongest_inX1 hown hK.1 hY (by decide) obC_cut rfl 3 (by decide) (hts _ kX1_countLongest_0) rfl rfl dX1_countLongest_6 ?_
    refine lv_icmp_ge (tgt := 34) hx hb dX1_countLongest_9 (by decide) (fun c_2 => ?_) (fun c_2 => ?_)
    · have h := h.1 c_2
      exact tX1_countLongest_J34 C0 hK K σ x1 x2 hret h _ _ hY hR _ (lv_sub hl [0, 1, 2] rfl)
    · have h := h.2 c_2
      refine lv_aload_n hx hb dX1_countLongest_12 rfl (lv_at hl 0 rfl) ?_
      refine lv_iload_n hx hb dX1_countLongest_13 rfl (lv_at hl 1 rfl) ?_
      refine w_callip (rest := []) (va_runV (As := [.int x1]) (rest := []) C0 (mX1_longestFit l D ad ci A σ x1 _ hR  h) (cwV 1 hts gX1_countLongest_X1_longestFit rfl rfl rfl ddX1_longestFit ⟨Nat.le_of_ble_eq_true rfl, Nat.le_of_ble_eq_true rfl⟩) (w_preV (o := 123) (ci := 1) (ob := obC ad ci) (σ := σ) hK hY (by decide) obC_cut rfl rfl) rfl rfl hl.1 rfl (lv_room (Nat.le_of_ble_eq_true rfl)) dX1_countLongest_14 ⟨Nat.zero_le _, Nat.zero_le _⟩) hY (fun r_3 H locs h hY => ?_)
      refine lv_if_le (tgt := 34) hx hb dX1_countLongest_17 (by decide) (fun c_4 => ?_) (fun c_4 => ?_)
      · have h := h.1 c_4
        exact tX1_countLongest_J34 C0 hK K σ x1 x2 hret h _ _ hY hR _ (lv_sub hl [0, 1, 2] rfl)
      · have h := h.2 c_4
        refine lv_iload_n hx hb dX1_countLongest_20 rfl (lv_at hl 1 rfl) ?_
        refine lv_aload_n hx hb dX1_countLongest_21 rfl (lv_at hl 0 rfl) ?_
        refine lv_iload_n hx hb dX1_countLongest_22 rfl (lv_at hl 1 rfl) ?_
        refine w_callip (rest := [.int x1]) (va_runV (As := [.int x1]) (rest := [.int x1]) C0 (mX1_longestFit l D ad ci A σ x1 _ hR  h) (cwV 1 hts gX1_countLongest_X1_longestFit rfl rfl rfl ddX1_longestFit ⟨Nat.le_of_ble_eq_true rfl, Nat.le_of_ble_eq_true rfl⟩) (w_preV (o := 123) (ci := 1) (ob := obC ad ci) (σ := σ) hK hY (by decide) obC_cut rfl rfl) rfl rfl hl.1 rfl (lv_room (Nat.le_of_ble_eq_true rfl)) dX1_countLongest_23 ⟨Nat.zero_le _, Nat.zero_le _⟩) hY (fun r_5 H locs h hY => ?_)
        refine lv_iadd hx hb dX1_countLongest_26 ?_
        refine lv_istore_n (lv' := [(1, .int (x1 + r_5)), (0, .ref (ad 123)), (2, .int x2)]) hx hb dX1_countLongest_27 rfl hl (by decide) rfl (fun ls hl => ?_)
        refine lv_iinc (v := (x2 + 1)) (lv' := [(2, .int (x2 + 1)), (1, .int (x1 + r_5)), (0, .ref (ad 123))]) hx hb dX1_countLongest_28 hl (k := 2) rfl rfl (by decide) rfl (fun ls hl => ?_)
        refine lv_goto (tgt := 4) hx hb dX1_countLongest_31 (by decide) ?_
        exact ih (x1 + r_5) (x2 + 1) h _ _ hY hR  _ (lv_sub hl [2, 1, 0] rfl)
set_option maxHeartbeats 4000000 in
set_option maxRecDepth 100000 in
theorem eX1_countLongest (C0 : CallFix p m c cX1_countLongest 3 s args wsX1_countLongest RX1) (hK : Kx D (tyC ci) s) (K : Int32 → Prop) (σ : St) (hret : ∀ (r : Int32) (H : Heap) (locs : List Loc) (pc : Nat) (ls : Array Slot), K r → Sy D 132 ad A H0 (obC ad ci σ) H locs → decode cX1_countLongest pc = .ok (.ireturn, 1) → W p l e rmX1_countLongest s m args below meth c H locs 0 0 Q (F0 m pc ls [.int r])) (h : wX1_countLongest σ K) (H : Heap) (locs : List Loc) (hY : Sy D 132 ad A H0 (obC ad ci σ) H locs) (hR : Rok σ) (ls : Array Slot) (hl : lv_has ls 3 [(0, .ref (ad 123))]) : W p l e rmX1_countLongest s m args below meth c H locs 0 0 Q (F0 m 0 ls []) := by
  obtain ⟨hx, hb, hml, hown, hts⟩ := id C0
  refine lv_iconst (v := (0 : Int32)) hx hb dX1_countLongest_0 (by decide) ?_
  refine lv_istore_n (lv' := [(1, .int (0 : Int32)), (0, .ref (ad 123))]) hx hb dX1_countLongest_1 rfl hl (by decide) rfl (fun ls hl => ?_)
  refine lv_iconst (v := (0 : Int32)) hx hb dX1_countLongest_2 (by decide) ?_
  refine lv_istore_n (lv' := [(2, .int (0 : Int32)), (1, .int (0 : Int32)), (0, .ref (ad 123))]) hx hb dX1_countLongest_3 rfl hl (by decide) rfl (fun ls hl => ?_)
  obtain ⟨n_6, h⟩ := h
  exact tX1_countLongest_L4 C0 hK K σ hret n_6 (0 : Int32) (0 : Int32) h _ _ hY hR  _ (lv_sub hl [2, 1, 0] rfl)
set_option maxHeartbeats 4000000 in
set_option maxRecDepth 100000 in
theorem mX1_countLongest (l : Launch) (D : va_G) (ad : Nat → Nat) (ci : Nat → ClassId) (A : Nat → Prop) (σ : St) (K : Int32 → Prop) (hR : Rok σ) (h : wX1_countLongest σ K) : Met l yX1_countLongest wsX1_countLongest rmX1_countLongest (va_Pc [.ref (ad 123)] (PreW D 132 ad A (tyC ci) (obC ad ci σ))) (va_Qi (fun r (_ : Unit) => K r) (fun _ => (PostW D 132 ad (tyC ci) (obC ad ci) Rok σ)) A) 0 0 A := by
  refine Met.ofW (cc := cX1_countLongest) (maxL := 3) (ret := (some .int)) (by decide) rfl ?_
  intro p e s m args below meth c s₁ B hml hv
  obtain ⟨rfl, hP, hK, hD⟩ := hv
  have C0 : CallFix p m c cX1_countLongest 3 s _ wsX1_countLongest RX1 := ⟨B.exec, B.bytes, hml, findClass_of_methodNamed B.named, atoms_spec (ws := wsX1_countLongest) B.pre⟩
  have hlocks := B.notSynchronized
  have hY : Sy D 132 ad A s.heap (obC ad ci σ) s.heap [] := ⟨hP, hD, va_S.rf⟩
  have hl := lv_entry ([.ref (ad 123)]) (n := 3) (Nat.le_of_ble_eq_true rfl)
  rw [lg_entry_eq]
  generalize (lg_sl ([.ref (ad 123)]) ++ List.replicate (3 - (lg_sl ([.ref (ad 123)])).length) Slot.unset).toArray = ls at hl ⊢
  exact eX1_countLongest C0 hK K σ (fun r H locs pc ls hk hY hd => w_iret (I := Rok) B.exec B.bytes B.returns hlocks (u := ()) hK hk (fun t ht => ht) hY hR hd) h _ _ hY hR ls hl
set_option maxHeartbeats 4000000 in
set_option maxRecDepth 100000 in
theorem tX1_sizeOfLongest_L18 (C0 : CallFix p m c cX1_sizeOfLongest 4 s args wsX1_sizeOfLongest RX1) (hK : Kx D (tyC ci) s) (K : Int32 → Prop) (σ : St) (x1 : Int32) (hret : ∀ (r : Int32) (H : Heap) (locs : List Loc) (pc : Nat) (ls : Array Slot), K r → Sy D 132 ad A H0 (obC ad ci σ) H locs → decode cX1_sizeOfLongest pc = .ok (.ireturn, 1) → W p l e rmX1_sizeOfLongest s m args below meth c H locs 0 0 Q (F0 m pc ls [.int r])) : ∀ (n : Nat) (x2 : Int32) (x3 : Int32), wX1_sizeOfLongest_L18 K σ x1 n x2 x3 → ∀ (H : Heap) (locs : List Loc), Sy D 132 ad A H0 (obC ad ci σ) H locs → Rok σ → ∀ ls : Array Slot, lv_has ls 4 [(0, .ref (ad 123)), (1, .int x1), (2, .int x2), (3, .int x3)] → W p l e rmX1_sizeOfLongest s m args below meth c H locs 0 0 Q (F0 m 18 ls []) := by
  obtain ⟨hx, hb, hml, hown, hts⟩ := id C0
  intro n
  induction n with
  | zero =>
    intro x2 x3 h
    exact h.elim
  | succ n ih =>
    intro x2 x3 h H locs hY hR  ls hl
    refine lv_iload_n hx hb dX1_sizeOfLongest_18 rfl (lv_at hl 3 rfl) ?_
    refine lv_iload_n hx hb dX1_sizeOfLongest_19 rfl (lv_at hl 1 rfl) ?_
    refine lv_icmp_ge (tgt := 37) hx hb dX1_sizeOfLongest_20 (by decide) (fun c_1 => ?_) (fun c_1 => ?_)
    · have h := h.1 c_1
      refine lv_aload_n hx hb dX1_sizeOfLongest_37 rfl (lv_at hl 0 rfl) ?_
      refine lv_iload_n hx hb dX1_sizeOfLongest_38 rfl (lv_at hl 2 rfl) ?_
      refine w_callip (rest := []) (va_runV (As := [.int x2]) (rest := []) C0 (mX1_longestFit l D ad ci A σ x2 _ hR  h) (cwV 1 hts gX1_sizeOfLongest_X1_longestFit rfl rfl rfl ddX1_longestFit ⟨Nat.le_of_ble_eq_true rfl, Nat.le_of_ble_eq_true rfl⟩) (w_preV (o := 123) (ci := 1) (ob := obC ad ci) (σ := σ) hK hY (by decide) obC_cut rfl rfl) rfl rfl hl.1 rfl (lv_room (Nat.le_of_ble_eq_true rfl)) dX1_sizeOfLongest_39 ⟨Nat.zero_le _, Nat.zero_le _⟩) hY (fun r_2 H locs h hY => ?_)
      exact hret r_2 _ _ _ _ h hY dX1_sizeOfLongest_42
    · have h := h.2 c_1
      refine lv_iload_n hx hb dX1_sizeOfLongest_23 rfl (lv_at hl 2 rfl) ?_
      refine lv_aload_n hx hb dX1_sizeOfLongest_24 rfl (lv_at hl 0 rfl) ?_
      refine lv_iload_n hx hb dX1_sizeOfLongest_25 rfl (lv_at hl 2 rfl) ?_
      refine w_callip (rest := [.int x2]) (va_runV (As := [.int x2]) (rest := [.int x2]) C0 (mX1_longestFit l D ad ci A σ x2 _ hR  h) (cwV 1 hts gX1_sizeOfLongest_X1_longestFit rfl rfl rfl ddX1_longestFit ⟨Nat.le_of_ble_eq_true rfl, Nat.le_of_ble_eq_true rfl⟩) (w_preV (o := 123) (ci := 1) (ob := obC ad ci) (σ := σ) hK hY (by decide) obC_cut rfl rfl) rfl rfl hl.1 rfl (lv_room (Nat.le_of_ble_eq_true rfl)) dX1_sizeOfLongest_26 ⟨Nat.zero_le _, Nat.zero_le _⟩) hY (fun r_3 H locs h hY => ?_)
      refine lv_iadd hx hb dX1_sizeOfLongest_29 ?_
      refine lv_istore_n (lv' := [(2, .int (x2 + r_3)), (0, .ref (ad 123)), (1, .int x1), (3, .int x3)]) hx hb dX1_sizeOfLongest_30 rfl hl (by decide) rfl (fun ls hl => ?_)
      refine lv_iinc (v := (x3 + 1)) (lv' := [(3, .int (x3 + 1)), (2, .int (x2 + r_3)), (0, .ref (ad 123)), (1, .int x1)]) hx hb dX1_sizeOfLongest_31 hl (k := 3) rfl rfl (by decide) rfl (fun ls hl => ?_)
      refine lv_goto (tgt := 18) hx hb dX1_sizeOfLongest_34 (by decide) ?_
      exact ih (x2 + r_3) (x3 + 1) h _ _ hY hR  _ (lv_sub hl [2, 3, 1, 0] rfl)
set_option maxHeartbeats 4000000 in
set_option maxRecDepth 100000 in
theorem eX1_sizeOfLongest (C0 : CallFix p m c cX1_sizeOfLongest 4 s args wsX1_sizeOfLongest RX1) (hK : Kx D (tyC ci) s) (K : Int32 → Prop) (σ : St) (hret : ∀ (r : Int32) (H : Heap) (locs : List Loc) (pc : Nat) (ls : Array Slot), K r → Sy D 132 ad A H0 (obC ad ci σ) H locs → decode cX1_sizeOfLongest pc = .ok (.ireturn, 1) → W p l e rmX1_sizeOfLongest s m args below meth c H locs 0 0 Q (F0 m pc ls [.int r])) (x1 : Int32) (h : wX1_sizeOfLongest σ x1 K) (H : Heap) (locs : List Loc) (hY : Sy D 132 ad A H0 (obC ad ci σ) H locs) (hR : Rok σ) (ls : Array Slot) (hl : lv_has ls 4 [(0, .ref (ad 123)), (1, .int x1)]) : W p l e rmX1_sizeOfLongest s m args below meth c H locs 0 0 Q (F0 m 0 ls []) := by
  obtain ⟨hx, hb, hml, hown, hts⟩ := id C0
  refine lv_iload_n hx hb dX1_sizeOfLongest_0 rfl (lv_at hl 1 rfl) ?_
  refine lv_if_lt (tgt := 12) hx hb dX1_sizeOfLongest_1 (by decide) (fun c_4 => ?_) (fun c_4 => ?_)
  · have h := h.1 c_4
    refine lv_iconst (v := (0 : Int32)) hx hb dX1_sizeOfLongest_12 (by decide) ?_
    exact hret (0 : Int32) _ _ _ _ h hY dX1_sizeOfLongest_13
  · have h := h.2 c_4
    refine lv_iload_n hx hb dX1_sizeOfLongest_4 rfl (lv_at hl 1 rfl) ?_
    refine lv_aload_n hx hb dX1_sizeOfLongest_5 rfl (lv_at hl 0 rfl) ?_
    refine w_get (o := 123) (ci := 1) (C := RX1) (T := TX1) (N1 := 4) (v := .int (gI σ 123)) hx hb hts kX1_sizeOfLongest_inX1 hown hK.1 hY (by decide) obC_cut rfl 3 (by decide) (hts _ kX1_sizeOfLongest_0) rfl rfl dX1_sizeOfLongest_6 ?_
    refine lv_icmp_lt (tgt := 14) hx hb dX1_sizeOfLongest_9 (by decide) (fun c_5 => ?_) (fun c_5 => ?_)
    · have h := h.1 c_5
      refine lv_iconst (v := (0 : Int32)) hx hb dX1_sizeOfLongest_14 (by decide) ?_
      refine lv_istore_n (lv' := [(2, .int (0 : Int32)), (0, .ref (ad 123)), (1, .int x1)]) hx hb dX1_sizeOfLongest_15 rfl hl (by decide) rfl (fun ls hl => ?_)
      refine lv_iconst (v := (0 : Int32)) hx hb dX1_sizeOfLongest_16 (by decide) ?_
      refine lv_istore_n (lv' := [(3, .int (0 : Int32)), (2, .int (0 : Int32)), (0, .ref (ad 123)), (1, .int x1)]) hx hb dX1_sizeOfLongest_17 rfl hl (by decide) rfl (fun ls hl => ?_)
      obtain ⟨n_6, h⟩ := h
      exact tX1_sizeOfLongest_L18 C0 hK K σ x1 hret n_6 (0 : Int32) (0 : Int32) h _ _ hY hR  _ (lv_sub hl [2, 3, 1, 0] rfl)
    · have h := h.2 c_5
      refine lv_iconst (v := (0 : Int32)) hx hb dX1_sizeOfLongest_12 (by decide) ?_
      exact hret (0 : Int32) _ _ _ _ h hY dX1_sizeOfLongest_13
set_option maxHeartbeats 4000000 in
set_option maxRecDepth 100000 in
theorem mX1_sizeOfLongest (l : Launch) (D : va_G) (ad : Nat → Nat) (ci : Nat → ClassId) (A : Nat → Prop) (σ : St) (x1 : Int32) (K : Int32 → Prop) (hR : Rok σ) (h : wX1_sizeOfLongest σ x1 K) : Met l yX1_sizeOfLongest wsX1_sizeOfLongest rmX1_sizeOfLongest (va_Pc [.ref (ad 123), .int x1] (PreW D 132 ad A (tyC ci) (obC ad ci σ))) (va_Qi (fun r (_ : Unit) => K r) (fun _ => (PostW D 132 ad (tyC ci) (obC ad ci) Rok σ)) A) 0 0 A := by
  refine Met.ofW (cc := cX1_sizeOfLongest) (maxL := 4) (ret := (some .int)) (by decide) rfl ?_
  intro p e s m args below meth c s₁ B hml hv
  obtain ⟨rfl, hP, hK, hD⟩ := hv
  have C0 : CallFix p m c cX1_sizeOfLongest 4 s _ wsX1_sizeOfLongest RX1 := ⟨B.exec, B.bytes, hml, findClass_of_methodNamed B.named, atoms_spec (ws := wsX1_sizeOfLongest) B.pre⟩
  have hlocks := B.notSynchronized
  have hY : Sy D 132 ad A s.heap (obC ad ci σ) s.heap [] := ⟨hP, hD, va_S.rf⟩
  have hl := lv_entry ([.ref (ad 123), .int x1]) (n := 4) (Nat.le_of_ble_eq_true rfl)
  rw [lg_entry_eq]
  generalize (lg_sl ([.ref (ad 123), .int x1]) ++ List.replicate (4 - (lg_sl ([.ref (ad 123), .int x1])).length) Slot.unset).toArray = ls at hl ⊢
  exact eX1_sizeOfLongest C0 hK K σ (fun r H locs pc ls hk hY hd => w_iret (I := Rok) B.exec B.bytes B.returns hlocks (u := ()) hK hk (fun t ht => ht) hY hR hd) x1 h _ _ hY hR ls hl
set_option maxHeartbeats 4000000 in
set_option maxRecDepth 100000 in
theorem tX1_countWays_L58 (C0 : CallFix p m c cX1_countWays 4 s args wsX1_countWays RX1) (hK : Kx D (tyC ci) s) (K : Int64 → St → Prop) (B48 : St → Int32 → Prop) (x2 : Int32) (hret : ∀ (r : Int64) (u : St) (H : Heap) (locs : List Loc) (pc : Nat) (ls : Array Slot), K r u → Sy D 132 ad A H0 (obC ad ci u) H locs → Rok u → decode cX1_countWays pc = .ok (.lreturn, 1) → W p l e rmX1_countWays s m args below meth c H locs 0 0 Q (F0 m pc ls [.long r])) (hB48 : ∀ (σ : St) (x2 : Int32), B48 σ x2 → ∀ (H : Heap) (locs : List Loc), Sy D 132 ad A H0 (obC ad ci σ) H locs → Rok σ → ∀ ls : Array Slot, lv_has ls 4 [(0, .ref (ad 123)), (2, .int x2)] → W p l e rmX1_countWays s m args below meth c H locs 0 0 Q (F0 m 48 ls [])) : ∀ (n : Nat) (σ : St) (x3 : Int32), wX1_countWays_L58 K B48 x2 n σ x3 → ∀ (H : Heap) (locs : List Loc), Sy D 132 ad A H0 (obC ad ci σ) H locs → Rok σ → ∀ ls : Array Slot, lv_has ls 4 [(0, .ref (ad 123)), (2, .int x2), (3, .int x3)] → W p l e rmX1_countWays s m args below meth c H locs 0 0 Q (F0 m 58 ls []) := by
  obtain ⟨hx, hb, hml, hown, hts⟩ := id C0
  intro n
  induction n with
  | zero =>
    intro σ x3 h
    exact h.elim
  | succ n ih =>
    intro σ x3 h H locs hY hR  ls hl
    refine lv_iload_n hx hb dX1_countWays_58 rfl (lv_at hl 2 rfl) ?_
    refine lv_bipush (v := (10 : Int32)) hx hb dX1_countWays_59 (by decide) ?_
    refine lv_icmp_gt (tgt := 96) hx hb dX1_countWays_61 (by decide) (fun c_1 => ?_) (fun c_1 => ?_)
    · have h := h.1 c_1
      refine lv_iinc (v := (x2 + 1)) (lv' := [(2, .int (x2 + 1)), (0, .ref (ad 123)), (3, .int x3)]) hx hb dX1_countWays_96 hl (k := 1) rfl rfl (by decide) rfl (fun ls hl => ?_)
      refine lv_goto (tgt := 48) hx hb dX1_countWays_99 (by decide) ?_
      exact hB48 σ (x2 + 1) h _ _ hY hR  _ (lv_sub hl [1, 0] rfl)
    · have h := h.2 c_1
      refine lv_aload_n hx hb dX1_countWays_64 rfl (lv_at hl 0 rfl) ?_
      refine lv_iload_n hx hb dX1_countWays_65 rfl (lv_at hl 1 rfl) ?_
      refine lv_iload_n hx hb dX1_countWays_66 rfl (lv_at hl 2 rfl) ?_
      refine w_callip (rest := []) (va_runV (As := [.int x2, .int x3]) (rest := []) C0 (mX1_fitsAt l D ad ci A σ x2 x3 _ hR  h) (cwV 2 hts gX1_countWays_X1_fitsAt rfl rfl rfl ddX1_fitsAt ⟨Nat.le_of_ble_eq_true rfl, Nat.le_of_ble_eq_true rfl⟩) (w_preV (o := 123) (ci := 1) (ob := obC ad ci) (σ := σ) hK hY (by decide) obC_cut rfl rfl) rfl rfl hl.1 rfl (lv_room (Nat.le_of_ble_eq_true rfl)) dX1_countWays_67 ⟨Nat.zero_le _, Nat.zero_le _⟩) hY (fun r_2 H locs h hY => ?_)
      obtain ⟨n_r_2, h⟩ := h
      refine lv_if_eq (tgt := 90) hx hb dX1_countWays_70 (by decide) (fun c_3 => ?_) (fun c_3 => ?_)
      · have h := h.1 c_3
        refine lv_iinc (v := (x3 + 1)) (lv' := [(3, .int (x3 + 1)), (0, .ref (ad 123)), (2, .int x2)]) hx hb dX1_countWays_90 hl (k := 2) rfl rfl (by decide) rfl (fun ls hl => ?_)
        refine lv_goto (tgt := 58) hx hb dX1_countWays_93 (by decide) ?_
        exact ih σ (x3 + 1) h _ _ hY hR  _ (lv_sub hl [1, 2, 0] rfl)
      · have h := h.2 c_3
        refine lv_aload_n hx hb dX1_countWays_73 rfl (lv_at hl 0 rfl) ?_
        refine w_get (o := 123) (ci := 1) (C := RX1) (T := TX1) (N1 := 4) (v := .ref (ad 125)) hx hb hts kX1_countWays_inX1 hown hK.1 hY (by decide) obC_cut rfl 1 (by decide) (hts _ kX1_countWays_0) rfl rfl dX1_countWays_74 ?_
        refine lv_iload_n hx hb dX1_countWays_77 rfl (lv_at hl 1 rfl) ?_
        refine lv_iload_n hx hb dX1_countWays_78 rfl (lv_at hl 2 rfl) ?_
        refine lv_iadd hx hb dX1_countWays_79 ?_
        refine lv_dup2_11 hx hb dX1_countWays_80 rfl rfl ?_
        obtain ⟨b_4, h⟩ := h
        refine w_lald (o := 125) hx hb hK.1 hY (by decide) 2 rfl rfl b_4 dX1_countWays_81 ?_
        refine lv_aload_n hx hb dX1_countWays_82 rfl (lv_at hl 0 rfl) ?_
        refine w_get (o := 123) (ci := 1) (C := RX1) (T := TX1) (N1 := 4) (v := .ref (ad 125)) hx hb hts kX1_countWays_inX1 hown hK.1 hY (by decide) obC_cut rfl 1 (by decide) (hts _ kX1_countWays_0) rfl rfl dX1_countWays_83 ?_
        refine lv_iload_n hx hb dX1_countWays_86 rfl (lv_at hl 1 rfl) ?_
        obtain ⟨b_5, h⟩ := h
        refine w_lald (o := 125) hx hb hK.1 hY (by decide) 2 rfl rfl b_5 dX1_countWays_87 ?_
        refine lv_ladd hx hb dX1_countWays_88 ?_
        obtain ⟨b_6, h⟩ := h
        obtain ⟨σ_7, e_σ_7⟩ : ∃ z : St, z = pL σ ((x2 + x3)).toNatClampNeg ((gL σ ((x2 + x3)).toNatClampNeg) + (gL σ (x2).toNatClampNeg)) := ⟨_, rfl⟩
        have h := h σ_7 e_σ_7
        have hR_σ_7 : Rok σ_7 := by rw [e_σ_7]; exact hR
        refine w_last (o := 125) hx hb hK.1 hY (by decide) 2 rfl rfl b_6 dX1_countWays_89 (ob' := obC ad ci σ_7) (by rw [e_σ_7]; exact obC_pL) (fun H locs hY => ?_)
        refine lv_iinc (v := (x3 + 1)) (lv' := [(3, .int (x3 + 1)), (0, .ref (ad 123)), (2, .int x2)]) hx hb dX1_countWays_90 hl (k := 2) rfl rfl (by decide) rfl (fun ls hl => ?_)
        refine lv_goto (tgt := 58) hx hb dX1_countWays_93 (by decide) ?_
        exact ih σ_7 (x3 + 1) h _ _ hY hR_σ_7  _ (lv_sub hl [1, 2, 0] rfl)
set_option maxHeartbeats 4000000 in
set_option maxRecDepth 100000 in
theorem tX1_countWays_L48 (C0 : CallFix p m c cX1_countWays 4 s args wsX1_countWays RX1) (hK : Kx D (tyC ci) s) (K : Int64 → St → Prop) (hret : ∀ (r : Int64) (u : St) (H : Heap) (locs : List Loc) (pc : Nat) (ls : Array Slot), K r u → Sy D 132 ad A H0 (obC ad ci u) H locs → Rok u → decode cX1_countWays pc = .ok (.lreturn, 1) → W p l e rmX1_countWays s m args below meth c H locs 0 0 Q (F0 m pc ls [.long r])) : ∀ (n : Nat) (σ : St) (x2 : Int32), wX1_countWays_L48 K n σ x2 → ∀ (H : Heap) (locs : List Loc), Sy D 132 ad A H0 (obC ad ci σ) H locs → Rok σ → ∀ ls : Array Slot, lv_has ls 4 [(0, .ref (ad 123)), (2, .int x2)] → W p l e rmX1_countWays s m args below meth c H locs 0 0 Q (F0 m 48 ls []) := by
  obtain ⟨hx, hb, hml, hown, hts⟩ := id C0
  intro n
  induction n with
  | zero =>
    intro σ x2 h
    exact h.elim
  | succ n ih =>
    intro σ x2 h H locs hY hR  ls hl
    refine lv_iload_n hx hb dX1_countWays_48 rfl (lv_at hl 1 rfl) ?_
    refine lv_aload_n hx hb dX1_countWays_49 rfl (lv_at hl 0 rfl) ?_
    refine w_get (o := 123) (ci := 1) (C := RX1) (T := TX1) (N1 := 4) (v := .int (gI σ 123)) hx hb hts kX1_countWays_inX1 hown hK.1 hY (by decide) obC_cut rfl 3 (by decide) (hts _ kX1_countWays_2) rfl rfl dX1_countWays_50 ?_
    refine lv_icmp_ge (tgt := 102) hx hb dX1_countWays_53 (by decide) (fun c_8 => ?_) (fun c_8 => ?_)
    · have h := h.1 c_8
      refine lv_aload_n hx hb dX1_countWays_102 rfl (lv_at hl 0 rfl) ?_
      refine w_get (o := 123) (ci := 1) (C := RX1) (T := TX1) (N1 := 4) (v := .ref (ad 125)) hx hb hts kX1_countWays_inX1 hown hK.1 hY (by decide) obC_cut rfl 1 (by decide) (hts _ kX1_countWays_0) rfl rfl dX1_countWays_103 ?_
      refine lv_aload_n hx hb dX1_countWays_106 rfl (lv_at hl 0 rfl) ?_
      refine w_get (o := 123) (ci := 1) (C := RX1) (T := TX1) (N1 := 4) (v := .int (gI σ 123)) hx hb hts kX1_countWays_inX1 hown hK.1 hY (by decide) obC_cut rfl 3 (by decide) (hts _ kX1_countWays_2) rfl rfl dX1_countWays_107 ?_
      obtain ⟨b_9, h⟩ := h
      refine w_lald (o := 125) hx hb hK.1 hY (by decide) 2 rfl rfl b_9 dX1_countWays_110 ?_
      exact hret (gL σ ((gI σ 123)).toNatClampNeg) σ _ _ _ _ h hY hR dX1_countWays_111
    · have h := h.2 c_8
      refine lv_iconst (v := (1 : Int32)) hx hb dX1_countWays_56 (by decide) ?_
      refine lv_istore_n (lv' := [(3, .int (1 : Int32)), (0, .ref (ad 123)), (2, .int x2)]) hx hb dX1_countWays_57 rfl hl (by decide) rfl (fun ls hl => ?_)
      obtain ⟨n_10, h⟩ := h
      exact tX1_countWays_L58 C0 hK K (wX1_countWays_L48 K n) x2 hret ih n_10 σ (1 : Int32) h _ _ hY hR  _ (lv_sub hl [1, 2, 0] rfl)
set_option maxHeartbeats 4000000 in
set_option maxRecDepth 100000 in
theorem tX1_countWays_J39 (C0 : CallFix p m c cX1_countWays 4 s args wsX1_countWays RX1) (hK : Kx D (tyC ci) s) (K : Int64 → St → Prop) (B16 : St → Int32 → Prop) (σ : St) (x1 : Int32) (x2 : Int32) (s1 : Int32) (s2 : Int64) (hret : ∀ (r : Int64) (u : St) (H : Heap) (locs : List Loc) (pc : Nat) (ls : Array Slot), K r u → Sy D 132 ad A H0 (obC ad ci u) H locs → Rok u → decode cX1_countWays pc = .ok (.lreturn, 1) → W p l e rmX1_countWays s m args below meth c H locs 0 0 Q (F0 m pc ls [.long r])) (hB16 : ∀ (σ : St) (x2 : Int32), B16 σ x2 → ∀ (H : Heap) (locs : List Loc), Sy D 132 ad A H0 (obC ad ci σ) H locs → Rok σ → ∀ ls : Array Slot, lv_has ls 4 [(0, .ref (ad 123)), (1, .int x1), (2, .int x2)] → W p l e rmX1_countWays s m args below meth c H locs 0 0 Q (F0 m 16 ls [])) (h : wX1_countWays_J39 K B16 σ x1 x2 s1 s2) (H : Heap) (locs : List Loc) (hY : Sy D 132 ad A H0 (obC ad ci σ) H locs) (hR : Rok σ) (ls : Array Slot) (hl : lv_has ls 4 [(0, .ref (ad 123)), (1, .int x1), (2, .int x2)]) : W p l e rmX1_countWays s m args below meth c H locs 0 0 Q (F0 m 39 ls [.long s2, .int s1, .ref (ad 125)]) := by
  obtain ⟨hx, hb, hml, hown, hts⟩ := id C0
  obtain ⟨b_11, h⟩ := h
  obtain ⟨σ_12, e_σ_12⟩ : ∃ z : St, z = pL σ (s1).toNatClampNeg s2 := ⟨_, rfl⟩
  have h := h σ_12 e_σ_12
  have hR_σ_12 : Rok σ_12 := by rw [e_σ_12]; exact hR
  refine w_last (o := 125) hx hb hK.1 hY (by decide) 2 rfl rfl b_11 dX1_countWays_39 (ob' := obC ad ci σ_12) (by rw [e_σ_12]; exact obC_pL) (fun H locs hY => ?_)
  refine lv_iinc (v := (x2 + 1)) (lv' := [(2, .int (x2 + 1)), (0, .ref (ad 123)), (1, .int x1)]) hx hb dX1_countWays_40 hl (k := 2) rfl rfl (by decide) rfl (fun ls hl => ?_)
  refine lv_goto (tgt := 16) hx hb dX1_countWays_43 (by decide) ?_
  exact hB16 σ_12 (x2 + 1) h _ _ hY hR_σ_12  _ (lv_sub hl [1, 2, 0] rfl)
set_option maxHeartbeats 4000000 in
set_option maxRecDepth 100000 in
theorem tX1_countWays_L16 (C0 : CallFix p m c cX1_countWays 4 s args wsX1_countWays RX1) (hK : Kx D (tyC ci) s) (K : Int64 → St → Prop) (x1 : Int32) (hret : ∀ (r : Int64) (u : St) (H : Heap) (locs : List Loc) (pc : Nat) (ls : Array Slot), K r u → Sy D 132 ad A H0 (obC ad ci u) H locs → Rok u → decode cX1_countWays pc = .ok (.lreturn, 1) → W p l e rmX1_countWays s m args below meth c H locs 0 0 Q (F0 m pc ls [.long r])) : ∀ (n : Nat) (σ : St) (x2 : Int32), wX1_countWays_L16 K x1 n σ x2 → ∀ (H : Heap) (locs : List Loc), Sy D 132 ad A H0 (obC ad ci σ) H locs → Rok σ → ∀ ls : Array Slot, lv_has ls 4 [(0, .ref (ad 123)), (1, .int x1), (2, .int x2)] → W p l e rmX1_countWays s m args below meth c H locs 0 0 Q (F0 m 16 ls []) := by
  obtain ⟨hx, hb, hml, hown, hts⟩ := id C0
  intro n
  induction n with
  | zero =>
    intro σ x2 h
    exact h.elim
  | succ n ih =>
    intro σ x2 h H locs hY hR  ls hl
    refine lv_iload_n hx hb dX1_countWays_16 rfl (lv_at hl 2 rfl) ?_
    refine lv_aload_n hx hb dX1_countWays_17 rfl (lv_at hl 0 rfl) ?_
    refine w_get (o := 123) (ci := 1) (C := RX1) (T := TX1) (N1 := 4) (v := .int (gI σ 123)) hx hb hts kX1_countWays_inX1 hown hK.1 hY (by decide) obC_cut rfl 3 (by decide) (hts _ kX1_countWays_2) rfl rfl dX1_countWays_18 ?_
    refine lv_icmp_gt (tgt := 46) hx hb dX1_countWays_21 (by decide) (fun c_13 => ?_) (fun c_13 => ?_)
    · have h := h.1 c_13
      refine lv_iload_n hx hb dX1_countWays_46 rfl (lv_at hl 1 rfl) ?_
      refine lv_istore_n (lv' := [(2, .int x1), (0, .ref (ad 123)), (1, .int x1)]) hx hb dX1_countWays_47 rfl hl (by decide) rfl (fun ls hl => ?_)
      obtain ⟨n_14, h⟩ := h
      exact tX1_countWays_L48 C0 hK K hret n_14 σ x1 h _ _ hY hR  _ (lv_sub hl [1, 0] rfl)
    · have h := h.2 c_13
      refine lv_aload_n hx hb dX1_countWays_24 rfl (lv_at hl 0 rfl) ?_
      refine w_get (o := 123) (ci := 1) (C := RX1) (T := TX1) (N1 := 4) (v := .ref (ad 125)) hx hb hts kX1_countWays_inX1 hown hK.1 hY (by decide) obC_cut rfl 1 (by decide) (hts _ kX1_countWays_0) rfl rfl dX1_countWays_25 ?_
      refine lv_iload_n hx hb dX1_countWays_28 rfl (lv_at hl 2 rfl) ?_
      refine lv_iload_n hx hb dX1_countWays_29 rfl (lv_at hl 2 rfl) ?_
      refine lv_iload_n hx hb dX1_countWays_30 rfl (lv_at hl 1 rfl) ?_
      refine lv_icmp_ne (tgt := 38) hx hb dX1_countWays_31 (by decide) (fun c_15 => ?_) (fun c_15 => ?_)
      · have h := h.2 c_15
        refine lv_lconst (v := (0 : Int64)) hx hb dX1_countWays_38 (by decide) ?_
        exact tX1_countWays_J39 C0 hK K (wX1_countWays_L16 K x1 n) σ x1 x2 x2 (0 : Int64) hret ih h _ _ hY hR _ (lv_sub hl [0, 1, 2] rfl)
      · have h := h.1 c_15
        refine lv_lconst (v := (1 : Int64)) hx hb dX1_countWays_34 (by decide) ?_
        refine lv_goto (tgt := 39) hx hb dX1_countWays_35 (by decide) ?_
        exact tX1_countWays_J39 C0 hK K (wX1_countWays_L16 K x1 n) σ x1 x2 x2 (1 : Int64) hret ih h _ _ hY hR _ (lv_sub hl [0, 1, 2] rfl)
set_option maxHeartbeats 4000000 in
set_option maxRecDepth 100000 in
theorem eX1_countWays (C0 : CallFix p m c cX1_countWays 4 s args wsX1_countWays RX1) (hK : Kx D (tyC ci) s) (K : Int64 → St → Prop) (σ : St) (hret : ∀ (r : Int64) (u : St) (H : Heap) (locs : List Loc) (pc : Nat) (ls : Array Slot), K r u → Sy D 132 ad A H0 (obC ad ci u) H locs → Rok u → decode cX1_countWays pc = .ok (.lreturn, 1) → W p l e rmX1_countWays s m args below meth c H locs 0 0 Q (F0 m pc ls [.long r])) (x1 : Int32) (h : wX1_countWays σ x1 K) (H : Heap) (locs : List Loc) (hY : Sy D 132 ad A H0 (obC ad ci σ) H locs) (hR : Rok σ) (ls : Array Slot) (hl : lv_has ls 4 [(0, .ref (ad 123)), (1, .int x1)]) : W p l e rmX1_countWays s m args below meth c H locs 0 0 Q (F0 m 0 ls []) := by
  obtain ⟨hx, hb, hml, hown, hts⟩ := id C0
  refine lv_iload_n hx hb dX1_countWays_0 rfl (lv_at hl 1 rfl) ?_
  refine lv_if_lt (tgt := 12) hx hb dX1_countWays_1 (by decide) (fun c_16 => ?_) (fun c_16 => ?_)
  · have h := h.1 c_16
    refine lv_lconst (v := (0 : Int64)) hx hb dX1_countWays_12 (by decide) ?_
    exact hret (0 : Int64) σ _ _ _ _ h hY hR dX1_countWays_13
  · have h := h.2 c_16
    refine lv_iload_n hx hb dX1_countWays_4 rfl (lv_at hl 1 rfl) ?_
    refine lv_aload_n hx hb dX1_countWays_5 rfl (lv_at hl 0 rfl) ?_
    refine w_get (o := 123) (ci := 1) (C := RX1) (T := TX1) (N1 := 4) (v := .int (gI σ 123)) hx hb hts kX1_countWays_inX1 hown hK.1 hY (by decide) obC_cut rfl 3 (by decide) (hts _ kX1_countWays_2) rfl rfl dX1_countWays_6 ?_
    refine lv_icmp_le (tgt := 14) hx hb dX1_countWays_9 (by decide) (fun c_17 => ?_) (fun c_17 => ?_)
    · have h := h.1 c_17
      refine lv_iload_n hx hb dX1_countWays_14 rfl (lv_at hl 1 rfl) ?_
      refine lv_istore_n (lv' := [(2, .int x1), (0, .ref (ad 123)), (1, .int x1)]) hx hb dX1_countWays_15 rfl hl (by decide) rfl (fun ls hl => ?_)
      obtain ⟨n_18, h⟩ := h
      exact tX1_countWays_L16 C0 hK K x1 hret n_18 σ x1 h _ _ hY hR  _ (lv_sub hl [1, 2, 0] rfl)
    · have h := h.2 c_17
      refine lv_lconst (v := (0 : Int64)) hx hb dX1_countWays_12 (by decide) ?_
      exact hret (0 : Int64) σ _ _ _ _ h hY hR dX1_countWays_13
set_option maxHeartbeats 4000000 in
set_option maxRecDepth 100000 in
theorem mX1_countWays (l : Launch) (D : va_G) (ad : Nat → Nat) (ci : Nat → ClassId) (A : Nat → Prop) (σ : St) (x1 : Int32) (K : Int64 → St → Prop) (hR : Rok σ) (h : wX1_countWays σ x1 K) : Met l yX1_countWays wsX1_countWays rmX1_countWays (va_Pc [.ref (ad 123), .int x1] (PreW D 132 ad A (tyC ci) (obC ad ci σ))) (va_Ql (fun r u => K r u) (PostW D 132 ad (tyC ci) (obC ad ci) Rok) A) 0 0 A := by
  refine Met.ofW (cc := cX1_countWays) (maxL := 4) (ret := (some .long)) (by decide) rfl ?_
  intro p e s m args below meth c s₁ B hml hv
  obtain ⟨rfl, hP, hK, hD⟩ := hv
  have C0 : CallFix p m c cX1_countWays 4 s _ wsX1_countWays RX1 := ⟨B.exec, B.bytes, hml, findClass_of_methodNamed B.named, atoms_spec (ws := wsX1_countWays) B.pre⟩
  have hlocks := B.notSynchronized
  have hY : Sy D 132 ad A s.heap (obC ad ci σ) s.heap [] := ⟨hP, hD, va_S.rf⟩
  have hl := lv_entry ([.ref (ad 123), .int x1]) (n := 4) (Nat.le_of_ble_eq_true rfl)
  rw [lg_entry_eq]
  generalize (lg_sl ([.ref (ad 123), .int x1]) ++ List.replicate (4 - (lg_sl ([.ref (ad 123), .int x1])).length) Slot.unset).toArray = ls at hl ⊢
  exact eX1_countWays C0 hK K σ (fun r u H locs pc ls hk hY hR hd => w_lret (I := Rok) B.exec B.bytes B.returns hlocks hK hk (fun t ht => ht) hY hR hd) x1 h _ _ hY hR ls hl
set_option maxHeartbeats 4000000 in
set_option maxRecDepth 100000 in
theorem eX1_lesser (C0 : CallFix p m c cX1_lesser 2 s args wsX1_lesser RX1) (hK : Kx D (tyC ci) s) (K : Int32 → Prop) (σ : St) (hret : ∀ (r : Int32) (H : Heap) (locs : List Loc) (pc : Nat) (ls : Array Slot), K r → Sy D 132 ad A H0 (obC ad ci σ) H locs → decode cX1_lesser pc = .ok (.ireturn, 1) → W p l e rmX1_lesser s m args below meth c H locs 0 0 Q (F0 m pc ls [.int r])) (x0 : Int32) (x1 : Int32) (h : wX1_lesser σ x0 x1 K) (H : Heap) (locs : List Loc) (hY : Sy D 132 ad A H0 (obC ad ci σ) H locs) (hR : Rok σ) (ls : Array Slot) (hl : lv_has ls 2 [(0, .int x0), (1, .int x1)]) : W p l e rmX1_lesser s m args below meth c H locs 0 0 Q (F0 m 0 ls []) := by
  obtain ⟨hx, hb, hml, hown, hts⟩ := id C0
  refine lv_iload_n hx hb dX1_lesser_0 rfl (lv_at hl 0 rfl) ?_
  refine lv_iconst (v := (-1 : Int32)) hx hb dX1_lesser_1 (by decide) ?_
  refine lv_icmp_ne (tgt := 9) hx hb dX1_lesser_2 (by decide) (fun c_1 => ?_) (fun c_1 => ?_)
  · have h := h.2 c_1
    refine lv_iload_n hx hb dX1_lesser_9 rfl (lv_at hl 0 rfl) ?_
    refine lv_iload_n hx hb dX1_lesser_10 rfl (lv_at hl 1 rfl) ?_
    refine va_mmin hx hb (hml.trans hl.1.symm) hown (hts _ kX1_lesser_0) (hts _ kX1_lesser_1) (hts _ kX1_lesser_2) (hts _ kX1_lesser_3) (Nat.le_of_ble_eq_true rfl) (Nat.le_of_ble_eq_true rfl) (Nat.zero_le _) (Nat.zero_le _) dX1_lesser_11 ?_
    exact hret (if x1 < x0 then x1 else x0) _ _ _ _ h hY dX1_lesser_14
  · have h := h.1 c_1
    refine lv_iload_n hx hb dX1_lesser_5 rfl (lv_at hl 1 rfl) ?_
    refine lv_goto (tgt := 14) hx hb dX1_lesser_6 (by decide) ?_
    exact hret x1 _ _ _ _ h hY dX1_lesser_14
set_option maxHeartbeats 4000000 in
set_option maxRecDepth 100000 in
theorem mX1_lesser (l : Launch) (D : va_G) (ad : Nat → Nat) (ci : Nat → ClassId) (A : Nat → Prop) (σ : St) (x0 : Int32) (x1 : Int32) (K : Int32 → Prop) (hR : Rok σ) (h : wX1_lesser σ x0 x1 K) : Met l yX1_lesser wsX1_lesser rmX1_lesser (va_Pc [.int x0, .int x1] (PreW D 132 ad A (tyC ci) (obC ad ci σ))) (va_Qi (fun r (_ : Unit) => K r) (fun _ => (PostW D 132 ad (tyC ci) (obC ad ci) Rok σ)) A) 0 0 A := by
  refine Met.ofW (cc := cX1_lesser) (maxL := 2) (ret := (some .int)) (by decide) rfl ?_
  intro p e s m args below meth c s₁ B hml hv
  obtain ⟨rfl, hP, hK, hD⟩ := hv
  have C0 : CallFix p m c cX1_lesser 2 s _ wsX1_lesser RX1 := ⟨B.exec, B.bytes, hml, findClass_of_methodNamed B.named, atoms_spec (ws := wsX1_lesser) B.pre⟩
  have hlocks := B.notSynchronized
  have hY : Sy D 132 ad A s.heap (obC ad ci σ) s.heap [] := ⟨hP, hD, va_S.rf⟩
  have hl := lv_entry ([.int x0, .int x1]) (n := 2) (Nat.le_of_ble_eq_true rfl)
  rw [lg_entry_eq]
  generalize (lg_sl ([.int x0, .int x1]) ++ List.replicate (2 - (lg_sl ([.int x0, .int x1])).length) Slot.unset).toArray = ls at hl ⊢
  exact eX1_lesser C0 hK K σ (fun r H locs pc ls hk hY hd => w_iret (I := Rok) B.exec B.bytes B.returns hlocks (u := ()) hK hk (fun t ht => ht) hY hR hd) x0 x1 h _ _ hY hR ls hl
set_option maxHeartbeats 4000000 in
set_option maxRecDepth 100000 in
theorem tX1_leastPieces_L42 (C0 : CallFix p m c cX1_leastPieces 3 s args wsX1_leastPieces RX1) (hK : Kx D (tyC ci) s) (K : Int32 → St → Prop) (B32 : St → Int32 → Prop) (x1 : Int32) (hret : ∀ (r : Int32) (u : St) (H : Heap) (locs : List Loc) (pc : Nat) (ls : Array Slot), K r u → Sy D 132 ad A H0 (obC ad ci u) H locs → Rok u → decode cX1_leastPieces pc = .ok (.ireturn, 1) → W p l e rmX1_leastPieces s m args below meth c H locs 0 0 Q (F0 m pc ls [.int r])) (hB32 : ∀ (σ : St) (x1 : Int32), B32 σ x1 → ∀ (H : Heap) (locs : List Loc), Sy D 132 ad A H0 (obC ad ci σ) H locs → Rok σ → ∀ ls : Array Slot, lv_has ls 3 [(0, .ref (ad 123)), (1, .int x1)] → W p l e rmX1_leastPieces s m args below meth c H locs 0 0 Q (F0 m 32 ls [])) : ∀ (n : Nat) (σ : St) (x2 : Int32), wX1_leastPieces_L42 K B32 x1 n σ x2 → ∀ (H : Heap) (locs : List Loc), Sy D 132 ad A H0 (obC ad ci σ) H locs → Rok σ → ∀ ls : Array Slot, lv_has ls 3 [(0, .ref (ad 123)), (1, .int x1), (2, .int x2)] → W p l e rmX1_leastPieces s m args below meth c H locs 0 0 Q (F0 m 42 ls []) := by
  obtain ⟨hx, hb, hml, hown, hts⟩ := id C0
  intro n
  induction n with
  | zero =>
    intro σ x2 h
    exact h.elim
  | succ n ih =>
    intro σ x2 h H locs hY hR  ls hl
    refine lv_iload_n hx hb dX1_leastPieces_42 rfl (lv_at hl 2 rfl) ?_
    refine lv_bipush (v := (10 : Int32)) hx hb dX1_leastPieces_43 (by decide) ?_
    refine lv_icmp_gt (tgt := 100) hx hb dX1_leastPieces_45 (by decide) (fun c_1 => ?_) (fun c_1 => ?_)
    · have h := h.1 c_1
      refine lv_iinc (v := (x1 + 1)) (lv' := [(1, .int (x1 + 1)), (0, .ref (ad 123)), (2, .int x2)]) hx hb dX1_leastPieces_100 hl (k := 1) rfl rfl (by decide) rfl (fun ls hl => ?_)
      refine lv_goto (tgt := 32) hx hb dX1_leastPieces_103 (by decide) ?_
      exact hB32 σ (x1 + 1) h _ _ hY hR  _ (lv_sub hl [1, 0] rfl)
    · have h := h.2 c_1
      refine lv_aload_n hx hb dX1_leastPieces_48 rfl (lv_at hl 0 rfl) ?_
      refine w_get (o := 123) (ci := 1) (C := RX1) (T := TX1) (N1 := 4) (v := .ref (ad 126)) hx hb hts kX1_leastPieces_inX1 hown hK.1 hY (by decide) obC_cut rfl 2 (by decide) (hts _ kX1_leastPieces_0) rfl rfl dX1_leastPieces_49 ?_
      refine lv_iload_n hx hb dX1_leastPieces_52 rfl (lv_at hl 1 rfl) ?_
      obtain ⟨b_2, h⟩ := h
      refine w_iald (o := 126) hx hb hK.1 hY (by decide) 1 rfl rfl b_2 dX1_leastPieces_53 ?_
      refine lv_iconst (v := (-1 : Int32)) hx hb dX1_leastPieces_54 (by decide) ?_
      refine lv_icmp_eq (tgt := 94) hx hb dX1_leastPieces_55 (by decide) (fun c_3 => ?_) (fun c_3 => ?_)
      · have h := h.1 c_3
        refine lv_iinc (v := (x2 + 1)) (lv' := [(2, .int (x2 + 1)), (0, .ref (ad 123)), (1, .int x1)]) hx hb dX1_leastPieces_94 hl (k := 2) rfl rfl (by decide) rfl (fun ls hl => ?_)
        refine lv_goto (tgt := 42) hx hb dX1_leastPieces_97 (by decide) ?_
        exact ih σ (x2 + 1) h _ _ hY hR  _ (lv_sub hl [1, 2, 0] rfl)
      · have h := h.2 c_3
        refine lv_aload_n hx hb dX1_leastPieces_58 rfl (lv_at hl 0 rfl) ?_
        refine lv_iload_n hx hb dX1_leastPieces_59 rfl (lv_at hl 1 rfl) ?_
        refine lv_iload_n hx hb dX1_leastPieces_60 rfl (lv_at hl 2 rfl) ?_
        refine w_callip (rest := []) (va_runV (As := [.int x1, .int x2]) (rest := []) C0 (mX1_fitsAt l D ad ci A σ x1 x2 _ hR  h) (cwV 2 hts gX1_leastPieces_X1_fitsAt rfl rfl rfl ddX1_fitsAt ⟨Nat.le_of_ble_eq_true rfl, Nat.le_of_ble_eq_true rfl⟩) (w_preV (o := 123) (ci := 1) (ob := obC ad ci) (σ := σ) hK hY (by decide) obC_cut rfl rfl) rfl rfl hl.1 rfl (lv_room (Nat.le_of_ble_eq_true rfl)) dX1_leastPieces_61 ⟨Nat.zero_le _, Nat.zero_le _⟩) hY (fun r_4 H locs h hY => ?_)
        obtain ⟨n_r_4, h⟩ := h
        refine lv_if_eq (tgt := 94) hx hb dX1_leastPieces_64 (by decide) (fun c_5 => ?_) (fun c_5 => ?_)
        · have h := h.1 c_5
          refine lv_iinc (v := (x2 + 1)) (lv' := [(2, .int (x2 + 1)), (0, .ref (ad 123)), (1, .int x1)]) hx hb dX1_leastPieces_94 hl (k := 2) rfl rfl (by decide) rfl (fun ls hl => ?_)
          refine lv_goto (tgt := 42) hx hb dX1_leastPieces_97 (by decide) ?_
          exact ih σ (x2 + 1) h _ _ hY hR  _ (lv_sub hl [1, 2, 0] rfl)
        · have h := h.2 c_5
          refine lv_aload_n hx hb dX1_leastPieces_67 rfl (lv_at hl 0 rfl) ?_
          refine w_get (o := 123) (ci := 1) (C := RX1) (T := TX1) (N1 := 4) (v := .ref (ad 126)) hx hb hts kX1_leastPieces_inX1 hown hK.1 hY (by decide) obC_cut rfl 2 (by decide) (hts _ kX1_leastPieces_0) rfl rfl dX1_leastPieces_68 ?_
          refine lv_iload_n hx hb dX1_leastPieces_71 rfl (lv_at hl 1 rfl) ?_
          refine lv_iload_n hx hb dX1_leastPieces_72 rfl (lv_at hl 2 rfl) ?_
          refine lv_iadd hx hb dX1_leastPieces_73 ?_
          refine lv_aload_n hx hb dX1_leastPieces_74 rfl (lv_at hl 0 rfl) ?_
          refine w_get (o := 123) (ci := 1) (C := RX1) (T := TX1) (N1 := 4) (v := .ref (ad 126)) hx hb hts kX1_leastPieces_inX1 hown hK.1 hY (by decide) obC_cut rfl 2 (by decide) (hts _ kX1_leastPieces_0) rfl rfl dX1_leastPieces_75 ?_
          refine lv_iload_n hx hb dX1_leastPieces_78 rfl (lv_at hl 1 rfl) ?_
          refine lv_iload_n hx hb dX1_leastPieces_79 rfl (lv_at hl 2 rfl) ?_
          refine lv_iadd hx hb dX1_leastPieces_80 ?_
          obtain ⟨b_6, h⟩ := h
          refine w_iald (o := 126) hx hb hK.1 hY (by decide) 1 rfl rfl b_6 dX1_leastPieces_81 ?_
          refine lv_aload_n hx hb dX1_leastPieces_82 rfl (lv_at hl 0 rfl) ?_
          refine w_get (o := 123) (ci := 1) (C := RX1) (T := TX1) (N1 := 4) (v := .ref (ad 126)) hx hb hts kX1_leastPieces_inX1 hown hK.1 hY (by decide) obC_cut rfl 2 (by decide) (hts _ kX1_leastPieces_0) rfl rfl dX1_leastPieces_83 ?_
          refine lv_iload_n hx hb dX1_leastPieces_86 rfl (lv_at hl 1 rfl) ?_
          obtain ⟨b_7, h⟩ := h
          refine w_iald (o := 126) hx hb hK.1 hY (by decide) 1 rfl rfl b_7 dX1_leastPieces_87 ?_
          refine lv_iconst (v := (1 : Int32)) hx hb dX1_leastPieces_88 (by decide) ?_
          refine lv_iadd hx hb dX1_leastPieces_89 ?_
          refine w_callip (rest := [.int (x1 + x2), .ref (ad 126)]) (va_runS (As := [.int (gA σ 126 ((x1 + x2)).toNatClampNeg), .int ((gA σ 126 (x1).toNatClampNeg) + (1 : Int32))]) (rest := [.int (x1 + x2), .ref (ad 126)]) C0 (mX1_lesser l D ad ci A σ (gA σ 126 ((x1 + x2)).toNatClampNeg) ((gA σ 126 (x1).toNatClampNeg) + (1 : Int32)) _ hR  h) (va_cwS 2 hts gX1_leastPieces_X1_lesser rfl rfl rfl ddX1_lesser ⟨Nat.le_of_ble_eq_true rfl, Nat.le_of_ble_eq_true rfl⟩) (w_preS (ob := obC ad ci) (σ := σ) hK hY) rfl rfl hl.1 rfl (lv_room (Nat.le_of_ble_eq_true rfl)) dX1_leastPieces_90 ⟨Nat.zero_le _, Nat.zero_le _⟩) hY (fun r_8 H locs h hY => ?_)
          obtain ⟨b_9, h⟩ := h
          obtain ⟨σ_10, e_σ_10⟩ : ∃ z : St, z = pA σ 126 ((x1 + x2)).toNatClampNeg r_8 := ⟨_, rfl⟩
          have h := h σ_10 e_σ_10
          have hR_σ_10 : Rok σ_10 := by rw [e_σ_10]; exact hR
          refine w_iast (o := 126) hx hb hK.1 hY (by decide) 1 rfl rfl b_9 dX1_leastPieces_93 (ob' := obC ad ci σ_10) (by rw [e_σ_10]; exact obC_pA_int (by decide)) (fun H locs hY => ?_)
          refine lv_iinc (v := (x2 + 1)) (lv' := [(2, .int (x2 + 1)), (0, .ref (ad 123)), (1, .int x1)]) hx hb dX1_leastPieces_94 hl (k := 2) rfl rfl (by decide) rfl (fun ls hl => ?_)
          refine lv_goto (tgt := 42) hx hb dX1_leastPieces_97 (by decide) ?_
          exact ih σ_10 (x2 + 1) h _ _ hY hR_σ_10  _ (lv_sub hl [1, 2, 0] rfl)
set_option maxHeartbeats 4000000 in
set_option maxRecDepth 100000 in
theorem tX1_leastPieces_L32 (C0 : CallFix p m c cX1_leastPieces 3 s args wsX1_leastPieces RX1) (hK : Kx D (tyC ci) s) (K : Int32 → St → Prop) (hret : ∀ (r : Int32) (u : St) (H : Heap) (locs : List Loc) (pc : Nat) (ls : Array Slot), K r u → Sy D 132 ad A H0 (obC ad ci u) H locs → Rok u → decode cX1_leastPieces pc = .ok (.ireturn, 1) → W p l e rmX1_leastPieces s m args below meth c H locs 0 0 Q (F0 m pc ls [.int r])) : ∀ (n : Nat) (σ : St) (x1 : Int32), wX1_leastPieces_L32 K n σ x1 → ∀ (H : Heap) (locs : List Loc), Sy D 132 ad A H0 (obC ad ci σ) H locs → Rok σ → ∀ ls : Array Slot, lv_has ls 3 [(0, .ref (ad 123)), (1, .int x1)] → W p l e rmX1_leastPieces s m args below meth c H locs 0 0 Q (F0 m 32 ls []) := by
  obtain ⟨hx, hb, hml, hown, hts⟩ := id C0
  intro n
  induction n with
  | zero =>
    intro σ x1 h
    exact h.elim
  | succ n ih =>
    intro σ x1 h H locs hY hR  ls hl
    refine lv_iload_n hx hb dX1_leastPieces_32 rfl (lv_at hl 1 rfl) ?_
    refine lv_aload_n hx hb dX1_leastPieces_33 rfl (lv_at hl 0 rfl) ?_
    refine w_get (o := 123) (ci := 1) (C := RX1) (T := TX1) (N1 := 4) (v := .int (gI σ 123)) hx hb hts kX1_leastPieces_inX1 hown hK.1 hY (by decide) obC_cut rfl 3 (by decide) (hts _ kX1_leastPieces_2) rfl rfl dX1_leastPieces_34 ?_
    refine lv_icmp_ge (tgt := 106) hx hb dX1_leastPieces_37 (by decide) (fun c_11 => ?_) (fun c_11 => ?_)
    · have h := h.1 c_11
      refine lv_aload_n hx hb dX1_leastPieces_106 rfl (lv_at hl 0 rfl) ?_
      refine w_get (o := 123) (ci := 1) (C := RX1) (T := TX1) (N1 := 4) (v := .ref (ad 126)) hx hb hts kX1_leastPieces_inX1 hown hK.1 hY (by decide) obC_cut rfl 2 (by decide) (hts _ kX1_leastPieces_0) rfl rfl dX1_leastPieces_107 ?_
      refine lv_aload_n hx hb dX1_leastPieces_110 rfl (lv_at hl 0 rfl) ?_
      refine w_get (o := 123) (ci := 1) (C := RX1) (T := TX1) (N1 := 4) (v := .int (gI σ 123)) hx hb hts kX1_leastPieces_inX1 hown hK.1 hY (by decide) obC_cut rfl 3 (by decide) (hts _ kX1_leastPieces_2) rfl rfl dX1_leastPieces_111 ?_
      obtain ⟨b_12, h⟩ := h
      refine w_iald (o := 126) hx hb hK.1 hY (by decide) 1 rfl rfl b_12 dX1_leastPieces_114 ?_
      exact hret (gA σ 126 ((gI σ 123)).toNatClampNeg) σ _ _ _ _ h hY hR dX1_leastPieces_115
    · have h := h.2 c_11
      refine lv_iconst (v := (1 : Int32)) hx hb dX1_leastPieces_40 (by decide) ?_
      refine lv_istore_n (lv' := [(2, .int (1 : Int32)), (0, .ref (ad 123)), (1, .int x1)]) hx hb dX1_leastPieces_41 rfl hl (by decide) rfl (fun ls hl => ?_)
      obtain ⟨n_13, h⟩ := h
      exact tX1_leastPieces_L42 C0 hK K (wX1_leastPieces_L32 K n) x1 hret ih n_13 σ (1 : Int32) h _ _ hY hR  _ (lv_sub hl [1, 2, 0] rfl)
set_option maxHeartbeats 4000000 in
set_option maxRecDepth 100000 in
theorem tX1_leastPieces_L9 (C0 : CallFix p m c cX1_leastPieces 3 s args wsX1_leastPieces RX1) (hK : Kx D (tyC ci) s) (K : Int32 → St → Prop) (hret : ∀ (r : Int32) (u : St) (H : Heap) (locs : List Loc) (pc : Nat) (ls : Array Slot), K r u → Sy D 132 ad A H0 (obC ad ci u) H locs → Rok u → decode cX1_leastPieces pc = .ok (.ireturn, 1) → W p l e rmX1_leastPieces s m args below meth c H locs 0 0 Q (F0 m pc ls [.int r])) : ∀ (n : Nat) (σ : St) (x1 : Int32), wX1_leastPieces_L9 K n σ x1 → ∀ (H : Heap) (locs : List Loc), Sy D 132 ad A H0 (obC ad ci σ) H locs → Rok σ → ∀ ls : Array Slot, lv_has ls 3 [(0, .ref (ad 123)), (1, .int x1)] → W p l e rmX1_leastPieces s m args below meth c H locs 0 0 Q (F0 m 9 ls []) := by
  obtain ⟨hx, hb, hml, hown, hts⟩ := id C0
  intro n
  induction n with
  | zero =>
    intro σ x1 h
    exact h.elim
  | succ n ih =>
    intro σ x1 h H locs hY hR  ls hl
    refine lv_iload_n hx hb dX1_leastPieces_9 rfl (lv_at hl 1 rfl) ?_
    refine lv_aload_n hx hb dX1_leastPieces_10 rfl (lv_at hl 0 rfl) ?_
    refine w_get (o := 123) (ci := 1) (C := RX1) (T := TX1) (N1 := 4) (v := .int (gI σ 123)) hx hb hts kX1_leastPieces_inX1 hown hK.1 hY (by decide) obC_cut rfl 3 (by decide) (hts _ kX1_leastPieces_2) rfl rfl dX1_leastPieces_11 ?_
    refine lv_icmp_gt (tgt := 30) hx hb dX1_leastPieces_14 (by decide) (fun c_14 => ?_) (fun c_14 => ?_)
    · have h := h.1 c_14
      refine lv_iconst (v := (0 : Int32)) hx hb dX1_leastPieces_30 (by decide) ?_
      refine lv_istore_n (lv' := [(1, .int (0 : Int32)), (0, .ref (ad 123))]) hx hb dX1_leastPieces_31 rfl hl (by decide) rfl (fun ls hl => ?_)
      obtain ⟨n_15, h⟩ := h
      exact tX1_leastPieces_L32 C0 hK K hret n_15 σ (0 : Int32) h _ _ hY hR  _ (lv_sub hl [1, 0] rfl)
    · have h := h.2 c_14
      refine lv_aload_n hx hb dX1_leastPieces_17 rfl (lv_at hl 0 rfl) ?_
      refine w_get (o := 123) (ci := 1) (C := RX1) (T := TX1) (N1 := 4) (v := .ref (ad 126)) hx hb hts kX1_leastPieces_inX1 hown hK.1 hY (by decide) obC_cut rfl 2 (by decide) (hts _ kX1_leastPieces_0) rfl rfl dX1_leastPieces_18 ?_
      refine lv_iload_n hx hb dX1_leastPieces_21 rfl (lv_at hl 1 rfl) ?_
      refine lv_iconst (v := (-1 : Int32)) hx hb dX1_leastPieces_22 (by decide) ?_
      obtain ⟨b_16, h⟩ := h
      obtain ⟨σ_17, e_σ_17⟩ : ∃ z : St, z = pA σ 126 (x1).toNatClampNeg (-1 : Int32) := ⟨_, rfl⟩
      have h := h σ_17 e_σ_17
      have hR_σ_17 : Rok σ_17 := by rw [e_σ_17]; exact hR
      refine w_iast (o := 126) hx hb hK.1 hY (by decide) 1 rfl rfl b_16 dX1_leastPieces_23 (ob' := obC ad ci σ_17) (by rw [e_σ_17]; exact obC_pA_int (by decide)) (fun H locs hY => ?_)
      refine lv_iinc (v := (x1 + 1)) (lv' := [(1, .int (x1 + 1)), (0, .ref (ad 123))]) hx hb dX1_leastPieces_24 hl (k := 1) rfl rfl (by decide) rfl (fun ls hl => ?_)
      refine lv_goto (tgt := 9) hx hb dX1_leastPieces_27 (by decide) ?_
      exact ih σ_17 (x1 + 1) h _ _ hY hR_σ_17  _ (lv_sub hl [1, 0] rfl)
set_option maxHeartbeats 4000000 in
set_option maxRecDepth 100000 in
theorem eX1_leastPieces (C0 : CallFix p m c cX1_leastPieces 3 s args wsX1_leastPieces RX1) (hK : Kx D (tyC ci) s) (K : Int32 → St → Prop) (σ : St) (hret : ∀ (r : Int32) (u : St) (H : Heap) (locs : List Loc) (pc : Nat) (ls : Array Slot), K r u → Sy D 132 ad A H0 (obC ad ci u) H locs → Rok u → decode cX1_leastPieces pc = .ok (.ireturn, 1) → W p l e rmX1_leastPieces s m args below meth c H locs 0 0 Q (F0 m pc ls [.int r])) (h : wX1_leastPieces σ K) (H : Heap) (locs : List Loc) (hY : Sy D 132 ad A H0 (obC ad ci σ) H locs) (hR : Rok σ) (ls : Array Slot) (hl : lv_has ls 3 [(0, .ref (ad 123))]) : W p l e rmX1_leastPieces s m args below meth c H locs 0 0 Q (F0 m 0 ls []) := by
  obtain ⟨hx, hb, hml, hown, hts⟩ := id C0
  refine lv_aload_n hx hb dX1_leastPieces_0 rfl (lv_at hl 0 rfl) ?_
  refine w_get (o := 123) (ci := 1) (C := RX1) (T := TX1) (N1 := 4) (v := .ref (ad 126)) hx hb hts kX1_leastPieces_inX1 hown hK.1 hY (by decide) obC_cut rfl 2 (by decide) (hts _ kX1_leastPieces_0) rfl rfl dX1_leastPieces_1 ?_
  refine lv_iconst (v := (0 : Int32)) hx hb dX1_leastPieces_4 (by decide) ?_
  refine lv_iconst (v := (0 : Int32)) hx hb dX1_leastPieces_5 (by decide) ?_
  obtain ⟨b_18, h⟩ := h
  obtain ⟨σ_19, e_σ_19⟩ : ∃ z : St, z = pA σ 126 ((0 : Int32)).toNatClampNeg (0 : Int32) := ⟨_, rfl⟩
  have h := h σ_19 e_σ_19
  have hR_σ_19 : Rok σ_19 := by rw [e_σ_19]; exact hR
  refine w_iast (o := 126) hx hb hK.1 hY (by decide) 1 rfl rfl b_18 dX1_leastPieces_6 (ob' := obC ad ci σ_19) (by rw [e_σ_19]; exact obC_pA_int (by decide)) (fun H locs hY => ?_)
  refine lv_iconst (v := (1 : Int32)) hx hb dX1_leastPieces_7 (by decide) ?_
  refine lv_istore_n (lv' := [(1, .int (1 : Int32)), (0, .ref (ad 123))]) hx hb dX1_leastPieces_8 rfl hl (by decide) rfl (fun ls hl => ?_)
  obtain ⟨n_20, h⟩ := h
  exact tX1_leastPieces_L9 C0 hK K hret n_20 σ_19 (1 : Int32) h _ _ hY hR_σ_19  _ (lv_sub hl [1, 0] rfl)
set_option maxHeartbeats 4000000 in
set_option maxRecDepth 100000 in
theorem mX1_leastPieces (l : Launch) (D : va_G) (ad : Nat → Nat) (ci : Nat → ClassId) (A : Nat → Prop) (σ : St) (K : Int32 → St → Prop) (hR : Rok σ) (h : wX1_leastPieces σ K) : Met l yX1_leastPieces wsX1_leastPieces rmX1_leastPieces (va_Pc [.ref (ad 123)] (PreW D 132 ad A (tyC ci) (obC ad ci σ))) (va_Qi (fun r u => K r u) (PostW D 132 ad (tyC ci) (obC ad ci) Rok) A) 0 0 A := by
  refine Met.ofW (cc := cX1_leastPieces) (maxL := 3) (ret := (some .int)) (by decide) rfl ?_
  intro p e s m args below meth c s₁ B hml hv
  obtain ⟨rfl, hP, hK, hD⟩ := hv
  have C0 : CallFix p m c cX1_leastPieces 3 s _ wsX1_leastPieces RX1 := ⟨B.exec, B.bytes, hml, findClass_of_methodNamed B.named, atoms_spec (ws := wsX1_leastPieces) B.pre⟩
  have hlocks := B.notSynchronized
  have hY : Sy D 132 ad A s.heap (obC ad ci σ) s.heap [] := ⟨hP, hD, va_S.rf⟩
  have hl := lv_entry ([.ref (ad 123)]) (n := 3) (Nat.le_of_ble_eq_true rfl)
  rw [lg_entry_eq]
  generalize (lg_sl ([.ref (ad 123)]) ++ List.replicate (3 - (lg_sl ([.ref (ad 123)])).length) Slot.unset).toArray = ls at hl ⊢
  exact eX1_leastPieces C0 hK K σ (fun r u H locs pc ls hk hY hR hd => w_iret (I := Rok) B.exec B.bytes B.returns hlocks hK hk (fun t ht => ht) hY hR hd) h _ _ hY hR ls hl
end
