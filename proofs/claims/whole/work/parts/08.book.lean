/-! the book of codes: what each method does, as predicates over the state; the walks of their bytecode -/
def wX0_codeOf (σ : St) (x1 : Int32) (K : Nat → Prop) : Prop := wX5_isSign σ x1 (fun r_1 => ((r_1 = 0 → K 121) ∧ (¬ r_1 = 0 → vp_in (x1 - (97 : Int32)) 6 ∧ (K (60 + 2 * ((x1 - (97 : Int32))).toNatClampNeg)))))
def wX0_isOrderly_L12 (K : Int32 → Prop) (B2 : Int32 → Prop) (σ : St) (x1 : Int32) : Nat → Int32 → Prop
  | 0, _ => False
  | n + 1, x2 => (((6 : Int32) ≤ x2 → B2 (x1 + 1)) ∧ (¬ (6 : Int32) ≤ x2 → vp_in x1 6 ∧ (vp_in x2 6 ∧ (wX2_compareWith σ (60 + 2 * (x1).toNatClampNeg) (60 + 2 * (x2).toNatClampNeg) (fun r_6 => ((0 ≤ r_6 → K (0 : Int32)) ∧ (¬ 0 ≤ r_6 → vp_in x2 6 ∧ (vp_in x1 6 ∧ (wX2_beginsWith σ (60 + 2 * (x2).toNatClampNeg) (60 + 2 * (x1).toNatClampNeg) (fun r_12 => ((r_12 = 0 → wX0_isOrderly_L12 K B2 σ x1 n (x2 + 1)) ∧ (¬ r_12 = 0 → K (0 : Int32)))))))))))))
def wX0_isOrderly_L2 (K : Int32 → Prop) (σ : St) : Nat → Int32 → Prop
  | 0, _ => False
  | n + 1, x1 => (((6 : Int32) ≤ x1 → K (1 : Int32)) ∧ (¬ (6 : Int32) ≤ x1 → (∃ nn : Nat, wX0_isOrderly_L12 K (wX0_isOrderly_L2 K σ n) σ x1 nn (x1 + (1 : Int32)))))
def wX0_isOrderly (σ : St) (K : Int32 → Prop) : Prop := (∃ n : Nat, wX0_isOrderly_L2 K σ n (0 : Int32))
def wX0_sizeWritten_L4 (K : Int32 → Prop) (σ : St) (x1 : Nat) : Nat → Int32 → Int32 → Prop
  | 0, _, _ => False
  | n + 1, x2, x3 => wX2_size σ x1 (fun r_1 => ((r_1 ≤ x3 → K x2) ∧ (¬ r_1 ≤ x3 → wX2_at σ x1 x3 (fun r_3 => wX0_codeOf σ r_3 (fun r_4 => wX2_size σ r_4 (fun r_5 => wX0_sizeWritten_L4 K σ x1 n (x2 + r_5) (x3 + 1)))))))
def wX0_sizeWritten (σ : St) (x1 : Nat) (K : Int32 → Prop) : Prop := (∃ n : Nat, wX0_sizeWritten_L4 K σ x1 n (0 : Int32) (0 : Int32))
def wX0_writeInto_L6 (K : St → Prop) (x1 : Nat) (x2 : Nat) : Nat → St → Int32 → Prop
  | 0, _, _ => False
  | n + 1, σ, x3 => wX2_size σ x1 (fun r_1 => ((r_1 ≤ x3 → K σ) ∧ (¬ r_1 ≤ x3 → wX2_at σ x1 x3 (fun r_3 => wX0_codeOf σ r_3 (fun r_4 => wX2_appendAll σ x2 r_4 (fun σ_6 => wX0_writeInto_L6 K x1 x2 n σ_6 (x3 + 1)))))))
def wX0_writeInto (σ : St) (x1 : Nat) (x2 : Nat) (K : St → Prop) : Prop := wX2_clear σ x2 (fun σ_8 => (∃ n : Nat, wX0_writeInto_L6 K x1 x2 n σ_8 (0 : Int32)))
def wX0_mostWritten_L4 (K : Int32 → Prop) (σ : St) : Nat → Int32 → Int32 → Prop
  | 0, _, _ => False
  | n + 1, x2, x3 => wX4_size σ (fun r_1 => ((r_1 ≤ x3 → K x2) ∧ (¬ r_1 ≤ x3 → wX4_rowAt σ x3 (fun r_3 => wX0_sizeWritten σ r_3 (fun r_4 => ∀ x2_5 : Int32, x2_5 = (if x2 < r_4 then r_4 else x2) → wX0_mostWritten_L4 K σ n x2_5 (x3 + 1))))))
def wX0_mostWritten (σ : St) (K : Int32 → Prop) : Prop := (∃ n : Nat, wX0_mostWritten_L4 K σ n (0 : Int32) (0 : Int32))
def wX0_writtenAt (σ : St) (x1 : Int32) (K : Nat → Prop) : Prop := ((x1 < 0 → K 121) ∧ (¬ x1 < 0 → (((24 : Int32) ≤ x1 → K 121) ∧ (¬ (24 : Int32) ≤ x1 → vp_in x1 24 ∧ (K (73 + 2 * (x1).toNatClampNeg))))))
def wX0_writeWords_L2 (K : St → Prop) : Nat → St → Int32 → Prop
  | 0, _, _ => False
  | n + 1, σ, x2 => wX4_size σ (fun r_1 => ((r_1 ≤ x2 → K σ) ∧ (¬ r_1 ≤ x2 → wX4_rowAt σ x2 (fun r_3 => wX0_writtenAt σ x2 (fun r_4 => wX0_writeInto σ r_3 r_4 (fun σ_6 => wX0_writeWords_L2 K n σ_6 (x2 + 1)))))))
def wX0_writeWords (σ : St) (K : St → Prop) : Prop := (∃ n : Nat, wX0_writeWords_L2 K n σ (0 : Int32))
def wX0_signRead_L2 (K : Int32 → Prop) (σ : St) (x1 : Nat) (x2 : Int32) : Nat → Int32 → Prop
  | 0, _ => False
  | n + 1, x3 => (((6 : Int32) ≤ x3 → K (0 : Int32)) ∧ (¬ (6 : Int32) ≤ x3 → vp_in x3 6 ∧ (wX2_hasAt σ x1 x2 (60 + 2 * (x3).toNatClampNeg) (fun r_4 => ((r_4 = 0 → wX0_signRead_L2 K σ x1 x2 n (x3 + 1)) ∧ (¬ r_4 = 0 → wX5_signOf σ x3 (fun r_6 => K r_6)))))))
def wX0_signRead (σ : St) (x1 : Nat) (x2 : Int32) (K : Int32 → Prop) : Prop := (∃ n : Nat, wX0_signRead_L2 K σ x1 x2 n (0 : Int32))
def wX0_readInto_J63 (K : Int32 → St → Prop) (σ : St) (x1 : Nat) (x3 : Int32) : Prop := wX2_size σ x1 (fun r_1 => ((x3 = r_1 → K (1 : Int32) σ) ∧ (¬ x3 = r_1 → K (0 : Int32) σ)))
def wX0_readInto_L9 (K : Int32 → St → Prop) (x1 : Nat) (x2 : Nat) : Nat → St → Int32 → Int32 → Prop
  | 0, _, _, _ => False
  | n + 1, σ, x3, x4 => (((24 : Int32) ≤ x4 → wX0_readInto_J63 K σ x1 x3) ∧ (¬ (24 : Int32) ≤ x4 → wX2_size σ x1 (fun r_4 => ((r_4 ≤ x3 → wX0_readInto_J63 K σ x1 x3) ∧ (¬ r_4 ≤ x3 → wX0_signRead σ x1 x3 (fun r_6 => ((r_6 = 0 → K (0 : Int32) σ) ∧ (¬ r_6 = 0 → wX2_append σ x2 r_6 (fun σ_9 => wX0_codeOf σ_9 r_6 (fun r_10 => wX2_size σ_9 r_10 (fun r_11 => wX0_readInto_L9 K x1 x2 n σ_9 (x3 + r_11) (x4 + 1))))))))))))
def wX0_readInto (σ : St) (x1 : Nat) (x2 : Nat) (K : Int32 → St → Prop) : Prop := wX2_clear σ x2 (fun σ_13 => (∃ n : Nat, wX0_readInto_L9 K x1 x2 n σ_13 (0 : Int32) (0 : Int32)))
abbrev rmX0_codeOf : Room := { frames := 1, cells := 0, slots := 0, locals := 20 }
theorem ddX0_codeOf : yX0_codeOf.cls = RX0 ∧ yX0_codeOf.cls ≠ "java/lang/invoke/MethodHandle" ∧ yX0_codeOf.cls ≠ "java/lang/invoke/VarHandle" ∧ (parseMethodDescriptor yX0_codeOf.desc).map (fun d => d.parameters.length) = some 1 := by decide +kernel
set_option maxRecDepth 20000 in
theorem kX0_codeOf_0 : Cond.initialized RX5 ∈ wsX0_codeOf := by decide +kernel
set_option maxRecDepth 20000 in
theorem kX0_codeOf_1 : Cond.static yX5_isSign ∈ wsX0_codeOf := by decide +kernel
set_option maxRecDepth 20000 in
theorem kX0_codeOf_2 : Cond.fieldLink RX0 31 "Stemspan$CodeBook" "nothing" "LStemspan$Row;" ∈ wsX0_codeOf := by decide +kernel
set_option maxRecDepth 20000 in
theorem kX0_codeOf_inX0 : ∀ w ∈ wsX00, w ∈ wsX0_codeOf := by decide +kernel
set_option maxRecDepth 20000 in
theorem kX0_codeOf_4 : Cond.fieldLink RX0 11 "Stemspan$CodeBook" "codes" "[LStemspan$Row;" ∈ wsX0_codeOf := by decide +kernel
abbrev rmX0_isOrderly : Room := { frames := 2, cells := 0, slots := 0, locals := 44 }
theorem ddX0_isOrderly : yX0_isOrderly.cls = RX0 ∧ yX0_isOrderly.cls ≠ "java/lang/invoke/MethodHandle" ∧ yX0_isOrderly.cls ≠ "java/lang/invoke/VarHandle" ∧ (parseMethodDescriptor yX0_isOrderly.desc).map (fun d => d.parameters.length) = some 0 := by decide +kernel
set_option maxRecDepth 20000 in
theorem kX0_isOrderly_0 : Cond.fieldLink RX0 11 "Stemspan$CodeBook" "codes" "[LStemspan$Row;" ∈ wsX0_isOrderly := by decide +kernel
set_option maxRecDepth 20000 in
theorem kX0_isOrderly_inX0 : ∀ w ∈ wsX00, w ∈ wsX0_isOrderly := by decide +kernel
abbrev rmX0_sizeWritten : Room := { frames := 2, cells := 0, slots := 0, locals := 41 }
theorem ddX0_sizeWritten : yX0_sizeWritten.cls = RX0 ∧ yX0_sizeWritten.cls ≠ "java/lang/invoke/MethodHandle" ∧ yX0_sizeWritten.cls ≠ "java/lang/invoke/VarHandle" ∧ (parseMethodDescriptor yX0_sizeWritten.desc).map (fun d => d.parameters.length) = some 1 := by decide +kernel
abbrev rmX0_writeInto : Room := { frames := 2, cells := 0, slots := 0, locals := 43 }
theorem ddX0_writeInto : yX0_writeInto.cls = RX0 ∧ yX0_writeInto.cls ≠ "java/lang/invoke/MethodHandle" ∧ yX0_writeInto.cls ≠ "java/lang/invoke/VarHandle" ∧ (parseMethodDescriptor yX0_writeInto.desc).map (fun d => d.parameters.length) = some 2 := by decide +kernel
abbrev rmX0_mostWritten : Room := { frames := 3, cells := 0, slots := 0, locals := 64 }
theorem ddX0_mostWritten : yX0_mostWritten.cls = RX0 ∧ yX0_mostWritten.cls ≠ "java/lang/invoke/MethodHandle" ∧ yX0_mostWritten.cls ≠ "java/lang/invoke/VarHandle" ∧ (parseMethodDescriptor yX0_mostWritten.desc).map (fun d => d.parameters.length) = some 1 := by decide +kernel
set_option maxRecDepth 20000 in
theorem kX0_mostWritten_0 : Cond.methodLink RX0 75 Lib.Math.max.name ∈ wsX0_mostWritten := by decide +kernel
set_option maxRecDepth 20000 in
theorem kX0_mostWritten_1 : Cond.static Lib.Math.max.name ∈ wsX0_mostWritten := by decide +kernel
set_option maxRecDepth 20000 in
theorem kX0_mostWritten_2 : Cond.initialized "java/lang/Math" ∈ wsX0_mostWritten := by decide +kernel
set_option maxRecDepth 20000 in
theorem kX0_mostWritten_3 : Cond.code Lib.Math.max.name Lib.Math.max.code 2 (some .int) ∈ wsX0_mostWritten := by decide +kernel
abbrev rmX0_writtenAt : Room := { frames := 0, cells := 0, slots := 0, locals := 0 }
theorem ddX0_writtenAt : yX0_writtenAt.cls = RX0 ∧ yX0_writtenAt.cls ≠ "java/lang/invoke/MethodHandle" ∧ yX0_writtenAt.cls ≠ "java/lang/invoke/VarHandle" ∧ (parseMethodDescriptor yX0_writtenAt.desc).map (fun d => d.parameters.length) = some 1 := by decide +kernel
set_option maxRecDepth 20000 in
theorem kX0_writtenAt_0 : Cond.fieldLink RX0 31 "Stemspan$CodeBook" "nothing" "LStemspan$Row;" ∈ wsX0_writtenAt := by decide +kernel
set_option maxRecDepth 20000 in
theorem kX0_writtenAt_inX0 : ∀ w ∈ wsX00, w ∈ wsX0_writtenAt := by decide +kernel
set_option maxRecDepth 20000 in
theorem kX0_writtenAt_2 : Cond.fieldLink RX0 28 "Stemspan$CodeBook" "written" "[LStemspan$Row;" ∈ wsX0_writtenAt := by decide +kernel
abbrev rmX0_writeWords : Room := { frames := 3, cells := 0, slots := 0, locals := 66 }
theorem ddX0_writeWords : yX0_writeWords.cls = RX0 ∧ yX0_writeWords.cls ≠ "java/lang/invoke/MethodHandle" ∧ yX0_writeWords.cls ≠ "java/lang/invoke/VarHandle" ∧ (parseMethodDescriptor yX0_writeWords.desc).map (fun d => d.parameters.length) = some 1 := by decide +kernel
abbrev rmX0_signRead : Room := { frames := 1, cells := 0, slots := 0, locals := 23 }
theorem ddX0_signRead : yX0_signRead.cls = RX0 ∧ yX0_signRead.cls ≠ "java/lang/invoke/MethodHandle" ∧ yX0_signRead.cls ≠ "java/lang/invoke/VarHandle" ∧ (parseMethodDescriptor yX0_signRead.desc).map (fun d => d.parameters.length) = some 2 := by decide +kernel
set_option maxRecDepth 20000 in
theorem kX0_signRead_0 : Cond.fieldLink RX0 11 "Stemspan$CodeBook" "codes" "[LStemspan$Row;" ∈ wsX0_signRead := by decide +kernel
set_option maxRecDepth 20000 in
theorem kX0_signRead_inX0 : ∀ w ∈ wsX00, w ∈ wsX0_signRead := by decide +kernel
set_option maxRecDepth 20000 in
theorem kX0_signRead_2 : Cond.initialized RX5 ∈ wsX0_signRead := by decide +kernel
set_option maxRecDepth 20000 in
theorem kX0_signRead_3 : Cond.static yX5_signOf ∈ wsX0_signRead := by decide +kernel
abbrev rmX0_readInto : Room := { frames := 2, cells := 0, slots := 0, locals := 46 }
theorem ddX0_readInto : yX0_readInto.cls = RX0 ∧ yX0_readInto.cls ≠ "java/lang/invoke/MethodHandle" ∧ yX0_readInto.cls ≠ "java/lang/invoke/VarHandle" ∧ (parseMethodDescriptor yX0_readInto.desc).map (fun d => d.parameters.length) = some 2 := by decide +kernel
section
variable {p : Program} {l : Launch} {e : Env} {s : State} {m : MethodId} {args : Array Value} {below : List Frame} {meth : Method} {c : Code} {Q : State → Prop} {D : va_G} {ad : Nat → Nat} {ci : Nat → ClassId} {A : Nat → Prop} {H0 : Heap}
set_option maxHeartbeats 4000000 in
set_option maxRecDepth 100000 in
theorem eX0_codeOf (C0 : CallFix p m c cX0_codeOf 2 s args wsX0_codeOf RX0) (hK : Kx D (tyC ci) s) (K : Nat → Prop) (σ : St) (hret : ∀ (r : Nat) (H : Heap) (locs : List Loc) (pc : Nat) (ls : Array Slot), rowB r = true → K r → Sy D 132 ad A H0 (obC ad ci σ) H locs → decode cX0_codeOf pc = .ok (.areturn, 1) → W p l e rmX0_codeOf s m args below meth c H locs 0 0 Q (F0 m pc ls [.ref (ad r)])) (x1 : Int32) (h : wX0_codeOf σ x1 K) (H : Heap) (locs : List Loc) (hY : Sy D 132 ad A H0 (obC ad ci σ) H locs) (hR : Rok σ) (ls : Array Slot) (hl : lv_has ls 2 [(0, .ref (ad 58)), (1, .int x1)]) : W p l e rmX0_codeOf s m args below meth c H locs 0 0 Q (F0 m 0 ls []) := by
  obtain ⟨hx, hb, hml, hown, hts⟩ := id C0
  refine lv_iload_n hx hb dX0_codeOf_0 rfl (lv_at hl 1 rfl) ?_
  refine w_callip (rest := []) (va_runSN (As := [.int x1]) (rest := []) C0 (mX5_isSign l D ad ci A σ x1 _ hR  h) ⟨va_cnB (host := RX5) 1 hts gX0_codeOf_X5_isSign_n35 rfl rfl rfl hK.2.2 (hts _ kX0_codeOf_0) ddX5_isSign ⟨Nat.le_of_ble_eq_true rfl, Nat.le_of_ble_eq_true rfl⟩, hts _ kX0_codeOf_1, trivial⟩ (w_preS (ob := obC ad ci) (σ := σ) hK hY) rfl rfl hl.1 rfl (lv_room (Nat.le_of_ble_eq_true rfl)) dX0_codeOf_1 ⟨Nat.zero_le _, Nat.zero_le _⟩) hY (fun r_1 H locs h hY => ?_)
  obtain ⟨n_r_1, h⟩ := h
  refine lv_if_eq (tgt := 19) hx hb dX0_codeOf_4 (by decide) (fun c_2 => ?_) (fun c_2 => ?_)
  · have h := h.1 c_2
    refine lv_aload_n hx hb dX0_codeOf_19 rfl (lv_at hl 0 rfl) ?_
    refine w_get (o := 58) (ci := 0) (C := RX0) (T := TX0) (N1 := 3) (v := .ref (ad 121)) hx hb hts kX0_codeOf_inX0 hown hK.1 hY (by decide) obC_book rfl 2 (by decide) (hts _ kX0_codeOf_2) rfl rfl dX0_codeOf_20 ?_
    exact hret 121 _ _ _ _ (by decide) h hY dX0_codeOf_23
  · have h := h.2 c_2
    refine lv_aload_n hx hb dX0_codeOf_7 rfl (lv_at hl 0 rfl) ?_
    refine w_get (o := 58) (ci := 0) (C := RX0) (T := TX0) (N1 := 3) (v := .ref (ad 59)) hx hb hts kX0_codeOf_inX0 hown hK.1 hY (by decide) obC_book rfl 0 (by decide) (hts _ kX0_codeOf_4) rfl rfl dX0_codeOf_8 ?_
    refine lv_iload_n hx hb dX0_codeOf_11 rfl (lv_at hl 1 rfl) ?_
    refine lv_bipush (v := (97 : Int32)) hx hb dX0_codeOf_12 (by decide) ?_
    refine lv_isub hx hb dX0_codeOf_14 ?_
    obtain ⟨b_3, h⟩ := h
    refine w_aald (o := 59) (C := RX2) (f := fun i => 60 + 2 * i) hx hb hK.1 hY (by decide) 3 rfl rfl b_3 dX0_codeOf_15 ?_
    have r_4 : rowB (60 + 2 * ((x1 - (97 : Int32))).toNatClampNeg) = true := rowB_code _ (vp_lt b_3)
    refine lv_goto (tgt := 23) hx hb dX0_codeOf_16 (by decide) ?_
    exact hret (60 + 2 * ((x1 - (97 : Int32))).toNatClampNeg) _ _ _ _ r_4 h hY dX0_codeOf_23
set_option maxHeartbeats 4000000 in
set_option maxRecDepth 100000 in
theorem mX0_codeOf (l : Launch) (D : va_G) (ad : Nat → Nat) (ci : Nat → ClassId) (A : Nat → Prop) (σ : St) (x1 : Int32) (K : Nat → Prop) (hR : Rok σ) (h : wX0_codeOf σ x1 K) : Met l yX0_codeOf wsX0_codeOf rmX0_codeOf (va_Pc [.ref (ad 58), .int x1] (PreW D 132 ad A (tyC ci) (obC ad ci σ))) (va_Qr (fun r => rowB r = true ∧ K r) (fun r b t => b = ad r ∧ (PostW D 132 ad (tyC ci) (obC ad ci) Rok σ t)) A) 0 0 A := by
  refine Met.ofW (cc := cX0_codeOf) (maxL := 2) (ret := (some (.object "Stemspan$Row"))) (by decide) rfl ?_
  intro p e s m args below meth c s₁ B hml hv
  obtain ⟨rfl, hP, hK, hD⟩ := hv
  have C0 : CallFix p m c cX0_codeOf 2 s _ wsX0_codeOf RX0 := ⟨B.exec, B.bytes, hml, findClass_of_methodNamed B.named, atoms_spec (ws := wsX0_codeOf) B.pre⟩
  have hlocks := B.notSynchronized
  have hY : Sy D 132 ad A s.heap (obC ad ci σ) s.heap [] := ⟨hP, hD, va_S.rf⟩
  have hl := lv_entry ([.ref (ad 58), .int x1]) (n := 2) (Nat.le_of_ble_eq_true rfl)
  rw [lg_entry_eq]
  generalize (lg_sl ([.ref (ad 58), .int x1]) ++ List.replicate (2 - (lg_sl ([.ref (ad 58), .int x1])).length) Slot.unset).toArray = ls at hl ⊢
  exact eX0_codeOf C0 hK K σ (fun r H locs pc ls hr hk hY hd => w_rret (I := Rok) B.exec B.bytes B.returns hlocks hK ⟨hr, hk⟩ (fun t ht => ⟨rfl, ht⟩) hY hR hd) x1 h _ _ hY hR ls hl
set_option maxHeartbeats 4000000 in
set_option maxRecDepth 100000 in
theorem tX0_isOrderly_L12 (C0 : CallFix p m c cX0_isOrderly 3 s args wsX0_isOrderly RX0) (hK : Kx D (tyC ci) s) (K : Int32 → Prop) (B2 : Int32 → Prop) (σ : St) (x1 : Int32) (hret : ∀ (r : Int32) (H : Heap) (locs : List Loc) (pc : Nat) (ls : Array Slot), narrow .boolean (.int r) = .int r → K r → Sy D 132 ad A H0 (obC ad ci σ) H locs → decode cX0_isOrderly pc = .ok (.ireturn, 1) → W p l e rmX0_isOrderly s m args below meth c H locs 0 0 Q (F0 m pc ls [.int r])) (hB2 : ∀ (x1 : Int32), B2 x1 → ∀ (H : Heap) (locs : List Loc), Sy D 132 ad A H0 (obC ad ci σ) H locs → Rok σ → ∀ ls : Array Slot, lv_has ls 3 [(0, .ref (ad 58)), (1, .int x1)] → W p l e rmX0_isOrderly s m args below meth c H locs 0 0 Q (F0 m 2 ls [])) : ∀ (n : Nat) (x2 : Int32), wX0_isOrderly_L12 K B2 σ x1 n x2 → ∀ (H : Heap) (locs : List Loc), Sy D 132 ad A H0 (obC ad ci σ) H locs → Rok σ → ∀ ls : Array Slot, lv_has ls 3 [(0, .ref (ad 58)), (1, .int x1), (2, .int x2)] → W p l e rmX0_isOrderly s m args below meth c H locs 0 0 Q (F0 m 12 ls []) := by
  obtain ⟨hx, hb, hml, hown, hts⟩ := id C0
  intro n
  induction n with
  | zero =>
    intro x2 h
    exact h.elim
  | succ n ih =>
    intro x2 h H locs hY hR  ls hl
    refine lv_iload_n hx hb dX0_isOrderly_12 rfl (lv_at hl 2 rfl) ?_
    refine lv_bipush (v := (6 : Int32)) hx hb dX0_isOrderly_13 (by decide) ?_
    refine lv_icmp_ge (tgt := 62) hx hb dX0_isOrderly_15 (by decide) (fun c_1 => ?_) (fun c_1 => ?_)
    · have h := h.1 c_1
      refine lv_iinc (v := (x1 + 1)) (lv' := [(1, .int (x1 + 1)), (0, .ref (ad 58)), (2, .int x2)]) hx hb dX0_isOrderly_62 hl (k := 1) rfl rfl (by decide) rfl (fun ls hl => ?_)
      refine lv_goto (tgt := 2) hx hb dX0_isOrderly_65 (by decide) ?_
      exact hB2 (x1 + 1) h _ _ hY hR  _ (lv_sub hl [1, 0] rfl)
    · have h := h.2 c_1
      refine lv_aload_n hx hb dX0_isOrderly_18 rfl (lv_at hl 0 rfl) ?_
      refine w_get (o := 58) (ci := 0) (C := RX0) (T := TX0) (N1 := 3) (v := .ref (ad 59)) hx hb hts kX0_isOrderly_inX0 hown hK.1 hY (by decide) obC_book rfl 0 (by decide) (hts _ kX0_isOrderly_0) rfl rfl dX0_isOrderly_19 ?_
      refine lv_iload_n hx hb dX0_isOrderly_22 rfl (lv_at hl 1 rfl) ?_
      obtain ⟨b_2, h⟩ := h
      refine w_aald (o := 59) (C := RX2) (f := fun i => 60 + 2 * i) hx hb hK.1 hY (by decide) 3 rfl rfl b_2 dX0_isOrderly_23 ?_
      have r_3 : rowB (60 + 2 * (x1).toNatClampNeg) = true := rowB_code _ (vp_lt b_2)
      refine lv_aload_n hx hb dX0_isOrderly_24 rfl (lv_at hl 0 rfl) ?_
      refine w_get (o := 58) (ci := 0) (C := RX0) (T := TX0) (N1 := 3) (v := .ref (ad 59)) hx hb hts kX0_isOrderly_inX0 hown hK.1 hY (by decide) obC_book rfl 0 (by decide) (hts _ kX0_isOrderly_0) rfl rfl dX0_isOrderly_25 ?_
      refine lv_iload_n hx hb dX0_isOrderly_28 rfl (lv_at hl 2 rfl) ?_
      obtain ⟨b_4, h⟩ := h
      refine w_aald (o := 59) (C := RX2) (f := fun i => 60 + 2 * i) hx hb hK.1 hY (by decide) 3 rfl rfl b_4 dX0_isOrderly_29 ?_
      have r_5 : rowB (60 + 2 * (x2).toNatClampNeg) = true := rowB_code _ (vp_lt b_4)
      refine w_callip (rest := []) (va_runV (As := [.ref (ad (60 + 2 * (x2).toNatClampNeg))]) (rest := []) C0 (mX2_compareWith l D ad ci A σ (60 + 2 * (x1).toNatClampNeg) (60 + 2 * (x2).toNatClampNeg) _ hR r_3 r_5 h) (cwV 1 hts gX0_isOrderly_X2_compareWith rfl rfl rfl ddX2_compareWith ⟨Nat.le_of_ble_eq_true rfl, Nat.le_of_ble_eq_true rfl⟩) (w_preV (o := (60 + 2 * (x1).toNatClampNeg)) (ci := 2) (ob := obC ad ci) (σ := σ) hK hY (rowB_lt r_3) (obC_row r_3) rfl rfl) rfl rfl hl.1 rfl (lv_room (Nat.le_of_ble_eq_true rfl)) dX0_isOrderly_30 ⟨Nat.zero_le _, Nat.zero_le _⟩) hY (fun r_6 H locs h hY => ?_)
      refine lv_if_ge (tgt := 54) hx hb dX0_isOrderly_33 (by decide) (fun c_7 => ?_) (fun c_7 => ?_)
      · have h := h.1 c_7
        refine lv_iconst (v := (0 : Int32)) hx hb dX0_isOrderly_54 (by decide) ?_
        exact hret (0 : Int32) _ _ _ _ rfl h hY dX0_isOrderly_55
      · have h := h.2 c_7
        refine lv_aload_n hx hb dX0_isOrderly_36 rfl (lv_at hl 0 rfl) ?_
        refine w_get (o := 58) (ci := 0) (C := RX0) (T := TX0) (N1 := 3) (v := .ref (ad 59)) hx hb hts kX0_isOrderly_inX0 hown hK.1 hY (by decide) obC_book rfl 0 (by decide) (hts _ kX0_isOrderly_0) rfl rfl dX0_isOrderly_37 ?_
        refine lv_iload_n hx hb dX0_isOrderly_40 rfl (lv_at hl 2 rfl) ?_
        obtain ⟨b_8, h⟩ := h
        refine w_aald (o := 59) (C := RX2) (f := fun i => 60 + 2 * i) hx hb hK.1 hY (by decide) 3 rfl rfl b_8 dX0_isOrderly_41 ?_
        have r_9 : rowB (60 + 2 * (x2).toNatClampNeg) = true := rowB_code _ (vp_lt b_8)
        refine lv_aload_n hx hb dX0_isOrderly_42 rfl (lv_at hl 0 rfl) ?_
        refine w_get (o := 58) (ci := 0) (C := RX0) (T := TX0) (N1 := 3) (v := .ref (ad 59)) hx hb hts kX0_isOrderly_inX0 hown hK.1 hY (by decide) obC_book rfl 0 (by decide) (hts _ kX0_isOrderly_0) rfl rfl dX0_isOrderly_43 ?_
        refine lv_iload_n hx hb dX0_isOrderly_46 rfl (lv_at hl 1 rfl) ?_
        obtain ⟨b_10, h⟩ := h
        refine w_aald (o := 59) (C := RX2) (f := fun i => 60 + 2 * i) hx hb hK.1 hY (by decide) 3 rfl rfl b_10 dX0_isOrderly_47 ?_
        have r_11 : rowB (60 + 2 * (x1).toNatClampNeg) = true := rowB_code _ (vp_lt b_10)
        refine w_callip (rest := []) (va_runV (As := [.ref (ad (60 + 2 * (x1).toNatClampNeg))]) (rest := []) C0 (mX2_beginsWith l D ad ci A σ (60 + 2 * (x2).toNatClampNeg) (60 + 2 * (x1).toNatClampNeg) _ hR r_9 r_11 h) (cwV 1 hts gX0_isOrderly_X2_beginsWith rfl rfl rfl ddX2_beginsWith ⟨Nat.le_of_ble_eq_true rfl, Nat.le_of_ble_eq_true rfl⟩) (w_preV (o := (60 + 2 * (x2).toNatClampNeg)) (ci := 2) (ob := obC ad ci) (σ := σ) hK hY (rowB_lt r_9) (obC_row r_9) rfl rfl) rfl rfl hl.1 rfl (lv_room (Nat.le_of_ble_eq_true rfl)) dX0_isOrderly_48 ⟨Nat.zero_le _, Nat.zero_le _⟩) hY (fun r_12 H locs h hY => ?_)
        obtain ⟨n_r_12, h⟩ := h
        refine lv_if_eq (tgt := 56) hx hb dX0_isOrderly_51 (by decide) (fun c_13 => ?_) (fun c_13 => ?_)
        · have h := h.1 c_13
          refine lv_iinc (v := (x2 + 1)) (lv' := [(2, .int (x2 + 1)), (0, .ref (ad 58)), (1, .int x1)]) hx hb dX0_isOrderly_56 hl (k := 2) rfl rfl (by decide) rfl (fun ls hl => ?_)
          refine lv_goto (tgt := 12) hx hb dX0_isOrderly_59 (by decide) ?_
          exact ih (x2 + 1) h _ _ hY hR  _ (lv_sub hl [1, 2, 0] rfl)
        · have h := h.2 c_13
          refine lv_iconst (v := (0 : Int32)) hx hb dX0_isOrderly_54 (by decide) ?_
          exact hret (0 : Int32) _ _ _ _ rfl h hY dX0_isOrderly_55
set_option maxHeartbeats 4000000 in
set_option maxRecDepth 100000 in
theorem tX0_isOrderly_L2 (C0 : CallFix p m c cX0_isOrderly 3 s args wsX0_isOrderly RX0) (hK : Kx D (tyC ci) s) (K : Int32 → Prop) (σ : St) (hret : ∀ (r : Int32) (H : Heap) (locs : List Loc) (pc : Nat) (ls : Array Slot), narrow .boolean (.int r) = .int r → K r → Sy D 132 ad A H0 (obC ad ci σ) H locs → decode cX0_isOrderly pc = .ok (.ireturn, 1) → W p l e rmX0_isOrderly s m args below meth c H locs 0 0 Q (F0 m pc ls [.int r])) : ∀ (n : Nat) (x1 : Int32), wX0_isOrderly_L2 K σ n x1 → ∀ (H : Heap) (locs : List Loc), Sy D 132 ad A H0 (obC ad ci σ) H locs → Rok σ → ∀ ls : Array Slot, lv_has ls 3 [(0, .ref (ad 58)), (1, .int x1)] → W p l e rmX0_isOrderly s m args below meth c H locs 0 0 Q (F0 m 2 ls []) := by
  obtain ⟨hx, hb, hml, hown, hts⟩ := id C0
  intro n
  induction n with
  | zero =>
    intro x1 h
    exact h.elim
  | succ n ih =>
    intro x1 h H locs hY hR  ls hl
    refine lv_iload_n hx hb dX0_isOrderly_2 rfl (lv_at hl 1 rfl) ?_
    refine lv_bipush (v := (6 : Int32)) hx hb dX0_isOrderly_3 (by decide) ?_
    refine lv_icmp_ge (tgt := 68) hx hb dX0_isOrderly_5 (by decide) (fun c_14 => ?_) (fun c_14 => ?_)
    · have h := h.1 c_14
      refine lv_iconst (v := (1 : Int32)) hx hb dX0_isOrderly_68 (by decide) ?_
      exact hret (1 : Int32) _ _ _ _ rfl h hY dX0_isOrderly_69
    · have h := h.2 c_14
      refine lv_iload_n hx hb dX0_isOrderly_8 rfl (lv_at hl 1 rfl) ?_
      refine lv_iconst (v := (1 : Int32)) hx hb dX0_isOrderly_9 (by decide) ?_
      refine lv_iadd hx hb dX0_isOrderly_10 ?_
      refine lv_istore_n (lv' := [(2, .int (x1 + (1 : Int32))), (0, .ref (ad 58)), (1, .int x1)]) hx hb dX0_isOrderly_11 rfl hl (by decide) rfl (fun ls hl => ?_)
      obtain ⟨n_15, h⟩ := h
      exact tX0_isOrderly_L12 C0 hK K (wX0_isOrderly_L2 K σ n) σ x1 hret ih n_15 (x1 + (1 : Int32)) h _ _ hY hR  _ (lv_sub hl [1, 2, 0] rfl)
set_option maxHeartbeats 4000000 in
set_option maxRecDepth 100000 in
theorem eX0_isOrderly (C0 : CallFix p m c cX0_isOrderly 3 s args wsX0_isOrderly RX0) (hK : Kx D (tyC ci) s) (K : Int32 → Prop) (σ : St) (hret : ∀ (r : Int32) (H : Heap) (locs : List Loc) (pc : Nat) (ls : Array Slot), narrow .boolean (.int r) = .int r → K r → Sy D 132 ad A H0 (obC ad ci σ) H locs → decode cX0_isOrderly pc = .ok (.ireturn, 1) → W p l e rmX0_isOrderly s m args below meth c H locs 0 0 Q (F0 m pc ls [.int r])) (h : wX0_isOrderly σ K) (H : Heap) (locs : List Loc) (hY : Sy D 132 ad A H0 (obC ad ci σ) H locs) (hR : Rok σ) (ls : Array Slot) (hl : lv_has ls 3 [(0, .ref (ad 58))]) : W p l e rmX0_isOrderly s m args below meth c H locs 0 0 Q (F0 m 0 ls []) := by
  obtain ⟨hx, hb, hml, hown, hts⟩ := id C0
  refine lv_iconst (v := (0 : Int32)) hx hb dX0_isOrderly_0 (by decide) ?_
  refine lv_istore_n (lv' := [(1, .int (0 : Int32)), (0, .ref (ad 58))]) hx hb dX0_isOrderly_1 rfl hl (by decide) rfl (fun ls hl => ?_)
  obtain ⟨n_16, h⟩ := h
  exact tX0_isOrderly_L2 C0 hK K σ hret n_16 (0 : Int32) h _ _ hY hR  _ (lv_sub hl [1, 0] rfl)
set_option maxHeartbeats 4000000 in
set_option maxRecDepth 100000 in
theorem mX0_isOrderly (l : Launch) (D : va_G) (ad : Nat → Nat) (ci : Nat → ClassId) (A : Nat → Prop) (σ : St) (K : Int32 → Prop) (hR : Rok σ) (h : wX0_isOrderly σ K) : Met l yX0_isOrderly wsX0_isOrderly rmX0_isOrderly (va_Pc [.ref (ad 58)] (PreW D 132 ad A (tyC ci) (obC ad ci σ))) (va_Qi (fun r (_ : Unit) => narrow .boolean (.int r) = .int r ∧ K r) (fun _ => (PostW D 132 ad (tyC ci) (obC ad ci) Rok σ)) A) 0 0 A := by
  refine Met.ofW (cc := cX0_isOrderly) (maxL := 3) (ret := (some .boolean)) (by decide) rfl ?_
  intro p e s m args below meth c s₁ B hml hv
  obtain ⟨rfl, hP, hK, hD⟩ := hv
  have C0 : CallFix p m c cX0_isOrderly 3 s _ wsX0_isOrderly RX0 := ⟨B.exec, B.bytes, hml, findClass_of_methodNamed B.named, atoms_spec (ws := wsX0_isOrderly) B.pre⟩
  have hlocks := B.notSynchronized
  have hY : Sy D 132 ad A s.heap (obC ad ci σ) s.heap [] := ⟨hP, hD, va_S.rf⟩
  have hl := lv_entry ([.ref (ad 58)]) (n := 3) (Nat.le_of_ble_eq_true rfl)
  rw [lg_entry_eq]
  generalize (lg_sl ([.ref (ad 58)]) ++ List.replicate (3 - (lg_sl ([.ref (ad 58)])).length) Slot.unset).toArray = ls at hl ⊢
  exact eX0_isOrderly C0 hK K σ (fun r H locs pc ls hn hk hY hd => w_zret (I := Rok) B.exec B.bytes B.returns hn hlocks (u := ()) hK ⟨hn, hk⟩ (fun t ht => ht) hY hR hd) h _ _ hY hR ls hl
set_option maxHeartbeats 4000000 in
set_option maxRecDepth 100000 in
theorem tX0_sizeWritten_L4 (C0 : CallFix p m c cX0_sizeWritten 4 s args wsX0_sizeWritten RX0) (hK : Kx D (tyC ci) s) (K : Int32 → Prop) (σ : St) (x1 : Nat) (hret : ∀ (r : Int32) (H : Heap) (locs : List Loc) (pc : Nat) (ls : Array Slot), K r → Sy D 132 ad A H0 (obC ad ci σ) H locs → decode cX0_sizeWritten pc = .ok (.ireturn, 1) → W p l e rmX0_sizeWritten s m args below meth c H locs 0 0 Q (F0 m pc ls [.int r])) (rx1 : rowB x1 = true) : ∀ (n : Nat) (x2 : Int32) (x3 : Int32), wX0_sizeWritten_L4 K σ x1 n x2 x3 → ∀ (H : Heap) (locs : List Loc), Sy D 132 ad A H0 (obC ad ci σ) H locs → Rok σ → ∀ ls : Array Slot, lv_has ls 4 [(0, .ref (ad 58)), (1, .ref (ad x1)), (2, .int x2), (3, .int x3)] → W p l e rmX0_sizeWritten s m args below meth c H locs 0 0 Q (F0 m 4 ls []) := by
  obtain ⟨hx, hb, hml, hown, hts⟩ := id C0
  intro n
  induction n with
  | zero =>
    intro x2 x3 h
    exact h.elim
  | succ n ih =>
    intro x2 x3 h H locs hY hR  ls hl
    refine lv_iload_n hx hb dX0_sizeWritten_4 rfl (lv_at hl 3 rfl) ?_
    refine lv_aload_n hx hb dX0_sizeWritten_5 rfl (lv_at hl 1 rfl) ?_
    refine w_callip (rest := [.int x3]) (va_runV (As := []) (rest := [.int x3]) C0 (mX2_size l D ad ci A σ x1 _ hR rx1 h) (cwV 0 hts gX0_sizeWritten_X2_size rfl rfl rfl ddX2_size ⟨Nat.le_of_ble_eq_true rfl, Nat.le_of_ble_eq_true rfl⟩) (w_preV (o := x1) (ci := 2) (ob := obC ad ci) (σ := σ) hK hY (rowB_lt rx1) (obC_row rx1) rfl rfl) rfl rfl hl.1 rfl (lv_room (Nat.le_of_ble_eq_true rfl)) dX0_sizeWritten_6 ⟨Nat.zero_le _, Nat.zero_le _⟩) hY (fun r_1 H locs h hY => ?_)
    refine lv_icmp_ge (tgt := 33) hx hb dX0_sizeWritten_9 (by decide) (fun c_2 => ?_) (fun c_2 => ?_)
    · have h := h.1 c_2
      refine lv_iload_n hx hb dX0_sizeWritten_33 rfl (lv_at hl 2 rfl) ?_
      exact hret x2 _ _ _ _ h hY dX0_sizeWritten_34
    · have h := h.2 c_2
      refine lv_iload_n hx hb dX0_sizeWritten_12 rfl (lv_at hl 2 rfl) ?_
      refine lv_aload_n hx hb dX0_sizeWritten_13 rfl (lv_at hl 0 rfl) ?_
      refine lv_aload_n hx hb dX0_sizeWritten_14 rfl (lv_at hl 1 rfl) ?_
      refine lv_iload_n hx hb dX0_sizeWritten_15 rfl (lv_at hl 3 rfl) ?_
      refine w_callip (rest := [.ref (ad 58), .int x2]) (va_runV (As := [.int x3]) (rest := [.ref (ad 58), .int x2]) C0 (mX2_at l D ad ci A σ x1 x3 _ hR rx1 h) (cwV 1 hts gX0_sizeWritten_X2_at rfl rfl rfl ddX2_at ⟨Nat.le_of_ble_eq_true rfl, Nat.le_of_ble_eq_true rfl⟩) (w_preV (o := x1) (ci := 2) (ob := obC ad ci) (σ := σ) hK hY (rowB_lt rx1) (obC_row rx1) rfl rfl) rfl rfl hl.1 rfl (lv_room (Nat.le_of_ble_eq_true rfl)) dX0_sizeWritten_16 ⟨Nat.zero_le _, Nat.zero_le _⟩) hY (fun r_3 H locs h hY => ?_)
      obtain ⟨n_r_3, h⟩ := h
      refine w_callrp (rest := [.int x2]) (va_runV (As := [.int r_3]) (rest := [.int x2]) C0 (mX0_codeOf l D ad ci A σ r_3 _ hR  h) (cwV 1 hts gX0_sizeWritten_X0_codeOf rfl rfl rfl ddX0_codeOf ⟨Nat.le_of_ble_eq_true rfl, Nat.le_of_ble_eq_true rfl⟩) (w_preV (o := 58) (ci := 0) (ob := obC ad ci) (σ := σ) hK hY (by decide) obC_book rfl rfl) rfl rfl hl.1 rfl (lv_room (Nat.le_of_ble_eq_true rfl)) dX0_sizeWritten_19 ⟨Nat.zero_le _, Nat.zero_le _⟩) hY (fun r_4 H locs h hY => ?_)
      obtain ⟨rr_4, h⟩ := h
      refine w_callip (rest := [.int x2]) (va_runV (As := []) (rest := [.int x2]) C0 (mX2_size l D ad ci A σ r_4 _ hR rr_4 h) (cwV 0 hts gX0_sizeWritten_X2_size rfl rfl rfl ddX2_size ⟨Nat.le_of_ble_eq_true rfl, Nat.le_of_ble_eq_true rfl⟩) (w_preV (o := r_4) (ci := 2) (ob := obC ad ci) (σ := σ) hK hY (rowB_lt rr_4) (obC_row rr_4) rfl rfl) rfl rfl hl.1 rfl (lv_room (Nat.le_of_ble_eq_true rfl)) dX0_sizeWritten_22 ⟨Nat.zero_le _, Nat.zero_le _⟩) hY (fun r_5 H locs h hY => ?_)
      refine lv_iadd hx hb dX0_sizeWritten_25 ?_
      refine lv_istore_n (lv' := [(2, .int (x2 + r_5)), (0, .ref (ad 58)), (1, .ref (ad x1)), (3, .int x3)]) hx hb dX0_sizeWritten_26 rfl hl (by decide) rfl (fun ls hl => ?_)
      refine lv_iinc (v := (x3 + 1)) (lv' := [(3, .int (x3 + 1)), (2, .int (x2 + r_5)), (0, .ref (ad 58)), (1, .ref (ad x1))]) hx hb dX0_sizeWritten_27 hl (k := 3) rfl rfl (by decide) rfl (fun ls hl => ?_)
      refine lv_goto (tgt := 4) hx hb dX0_sizeWritten_30 (by decide) ?_
      exact ih (x2 + r_5) (x3 + 1) h _ _ hY hR  _ (lv_sub hl [2, 3, 1, 0] rfl)
set_option maxHeartbeats 4000000 in
set_option maxRecDepth 100000 in
theorem eX0_sizeWritten (C0 : CallFix p m c cX0_sizeWritten 4 s args wsX0_sizeWritten RX0) (hK : Kx D (tyC ci) s) (K : Int32 → Prop) (σ : St) (hret : ∀ (r : Int32) (H : Heap) (locs : List Loc) (pc : Nat) (ls : Array Slot), K r → Sy D 132 ad A H0 (obC ad ci σ) H locs → decode cX0_sizeWritten pc = .ok (.ireturn, 1) → W p l e rmX0_sizeWritten s m args below meth c H locs 0 0 Q (F0 m pc ls [.int r])) (x1 : Nat) (rx1 : rowB x1 = true) (h : wX0_sizeWritten σ x1 K) (H : Heap) (locs : List Loc) (hY : Sy D 132 ad A H0 (obC ad ci σ) H locs) (hR : Rok σ) (ls : Array Slot) (hl : lv_has ls 4 [(0, .ref (ad 58)), (1, .ref (ad x1))]) : W p l e rmX0_sizeWritten s m args below meth c H locs 0 0 Q (F0 m 0 ls []) := by
  obtain ⟨hx, hb, hml, hown, hts⟩ := id C0
  refine lv_iconst (v := (0 : Int32)) hx hb dX0_sizeWritten_0 (by decide) ?_
  refine lv_istore_n (lv' := [(2, .int (0 : Int32)), (0, .ref (ad 58)), (1, .ref (ad x1))]) hx hb dX0_sizeWritten_1 rfl hl (by decide) rfl (fun ls hl => ?_)
  refine lv_iconst (v := (0 : Int32)) hx hb dX0_sizeWritten_2 (by decide) ?_
  refine lv_istore_n (lv' := [(3, .int (0 : Int32)), (2, .int (0 : Int32)), (0, .ref (ad 58)), (1, .ref (ad x1))]) hx hb dX0_sizeWritten_3 rfl hl (by decide) rfl (fun ls hl => ?_)
  obtain ⟨n_6, h⟩ := h
  exact tX0_sizeWritten_L4 C0 hK K σ x1 hret rx1 n_6 (0 : Int32) (0 : Int32) h _ _ hY hR  _ (lv_sub hl [2, 3, 1, 0] rfl)
set_option maxHeartbeats 4000000 in
set_option maxRecDepth 100000 in
theorem mX0_sizeWritten (l : Launch) (D : va_G) (ad : Nat → Nat) (ci : Nat → ClassId) (A : Nat → Prop) (σ : St) (x1 : Nat) (K : Int32 → Prop) (hR : Rok σ) (rx1 : rowB x1 = true) (h : wX0_sizeWritten σ x1 K) : Met l yX0_sizeWritten wsX0_sizeWritten rmX0_sizeWritten (va_Pc [.ref (ad 58), .ref (ad x1)] (PreW D 132 ad A (tyC ci) (obC ad ci σ))) (va_Qi (fun r (_ : Unit) => K r) (fun _ => (PostW D 132 ad (tyC ci) (obC ad ci) Rok σ)) A) 0 0 A := by
  refine Met.ofW (cc := cX0_sizeWritten) (maxL := 4) (ret := (some .int)) (by decide) rfl ?_
  intro p e s m args below meth c s₁ B hml hv
  obtain ⟨rfl, hP, hK, hD⟩ := hv
  have C0 : CallFix p m c cX0_sizeWritten 4 s _ wsX0_sizeWritten RX0 := ⟨B.exec, B.bytes, hml, findClass_of_methodNamed B.named, atoms_spec (ws := wsX0_sizeWritten) B.pre⟩
  have hlocks := B.notSynchronized
  have hY : Sy D 132 ad A s.heap (obC ad ci σ) s.heap [] := ⟨hP, hD, va_S.rf⟩
  have hl := lv_entry ([.ref (ad 58), .ref (ad x1)]) (n := 4) (Nat.le_of_ble_eq_true rfl)
  rw [lg_entry_eq]
  generalize (lg_sl ([.ref (ad 58), .ref (ad x1)]) ++ List.replicate (4 - (lg_sl ([.ref (ad 58), .ref (ad x1)])).length) Slot.unset).toArray = ls at hl ⊢
  exact eX0_sizeWritten C0 hK K σ (fun r H locs pc ls hk hY hd => w_iret (I := Rok) B.exec B.bytes B.returns hlocks (u := ()) hK hk (fun t ht => ht) hY hR hd) x1 rx1 h _ _ hY hR ls hl
set_option maxHeartbeats 4000000 in
set_option maxRecDepth 100000 in
theorem tX0_writeInto_L6 (C0 : CallFix p m c cX0_writeInto 4 s args wsX0_writeInto RX0) (hK : Kx D (tyC ci) s) (K : St → Prop) (x1 : Nat) (x2 : Nat) (hret : ∀ (u : St) (H : Heap) (locs : List Loc) (pc : Nat) (ls : Array Slot), K u → Sy D 132 ad A H0 (obC ad ci u) H locs → Rok u → decode cX0_writeInto pc = .ok (.return_, 1) → W p l e rmX0_writeInto s m args below meth c H locs 0 0 Q (F0 m pc ls [])) (rx1 : rowB x1 = true) (rx2 : rowB x2 = true) : ∀ (n : Nat) (σ : St) (x3 : Int32), wX0_writeInto_L6 K x1 x2 n σ x3 → ∀ (H : Heap) (locs : List Loc), Sy D 132 ad A H0 (obC ad ci σ) H locs → Rok σ → ∀ ls : Array Slot, lv_has ls 4 [(0, .ref (ad 58)), (1, .ref (ad x1)), (2, .ref (ad x2)), (3, .int x3)] → W p l e rmX0_writeInto s m args below meth c H locs 0 0 Q (F0 m 6 ls []) := by
  obtain ⟨hx, hb, hml, hown, hts⟩ := id C0
  intro n
  induction n with
  | zero =>
    intro σ x3 h
    exact h.elim
  | succ n ih =>
    intro σ x3 h H locs hY hR  ls hl
    refine lv_iload_n hx hb dX0_writeInto_6 rfl (lv_at hl 3 rfl) ?_
    refine lv_aload_n hx hb dX0_writeInto_7 rfl (lv_at hl 1 rfl) ?_
    refine w_callip (rest := [.int x3]) (va_runV (As := []) (rest := [.int x3]) C0 (mX2_size l D ad ci A σ x1 _ hR rx1 h) (cwV 0 hts gX0_writeInto_X2_size rfl rfl rfl ddX2_size ⟨Nat.le_of_ble_eq_true rfl, Nat.le_of_ble_eq_true rfl⟩) (w_preV (o := x1) (ci := 2) (ob := obC ad ci) (σ := σ) hK hY (rowB_lt rx1) (obC_row rx1) rfl rfl) rfl rfl hl.1 rfl (lv_room (Nat.le_of_ble_eq_true rfl)) dX0_writeInto_8 ⟨Nat.zero_le _, Nat.zero_le _⟩) hY (fun r_1 H locs h hY => ?_)
    refine lv_icmp_ge (tgt := 33) hx hb dX0_writeInto_11 (by decide) (fun c_2 => ?_) (fun c_2 => ?_)
    · have h := h.1 c_2
      exact hret σ _ _ _ _ h hY hR dX0_writeInto_33
    · have h := h.2 c_2
      refine lv_aload_n hx hb dX0_writeInto_14 rfl (lv_at hl 2 rfl) ?_
      refine lv_aload_n hx hb dX0_writeInto_15 rfl (lv_at hl 0 rfl) ?_
      refine lv_aload_n hx hb dX0_writeInto_16 rfl (lv_at hl 1 rfl) ?_
      refine lv_iload_n hx hb dX0_writeInto_17 rfl (lv_at hl 3 rfl) ?_
      refine w_callip (rest := [.ref (ad 58), .ref (ad x2)]) (va_runV (As := [.int x3]) (rest := [.ref (ad 58), .ref (ad x2)]) C0 (mX2_at l D ad ci A σ x1 x3 _ hR rx1 h) (cwV 1 hts gX0_writeInto_X2_at rfl rfl rfl ddX2_at ⟨Nat.le_of_ble_eq_true rfl, Nat.le_of_ble_eq_true rfl⟩) (w_preV (o := x1) (ci := 2) (ob := obC ad ci) (σ := σ) hK hY (rowB_lt rx1) (obC_row rx1) rfl rfl) rfl rfl hl.1 rfl (lv_room (Nat.le_of_ble_eq_true rfl)) dX0_writeInto_18 ⟨Nat.zero_le _, Nat.zero_le _⟩) hY (fun r_3 H locs h hY => ?_)
      obtain ⟨n_r_3, h⟩ := h
      refine w_callrp (rest := [.ref (ad x2)]) (va_runV (As := [.int r_3]) (rest := [.ref (ad x2)]) C0 (mX0_codeOf l D ad ci A σ r_3 _ hR  h) (cwV 1 hts gX0_writeInto_X0_codeOf rfl rfl rfl ddX0_codeOf ⟨Nat.le_of_ble_eq_true rfl, Nat.le_of_ble_eq_true rfl⟩) (w_preV (o := 58) (ci := 0) (ob := obC ad ci) (σ := σ) hK hY (by decide) obC_book rfl rfl) rfl rfl hl.1 rfl (lv_room (Nat.le_of_ble_eq_true rfl)) dX0_writeInto_21 ⟨Nat.zero_le _, Nat.zero_le _⟩) hY (fun r_4 H locs h hY => ?_)
      obtain ⟨rr_4, h⟩ := h
      refine w_callv (rest := []) (va_runV (As := [.ref (ad r_4)]) (rest := []) C0 (mX2_appendAll l D ad ci A σ x2 r_4 _ hR rx2 rr_4 h) (cwV 1 hts gX0_writeInto_X2_appendAll rfl rfl rfl ddX2_appendAll ⟨Nat.le_of_ble_eq_true rfl, Nat.le_of_ble_eq_true rfl⟩) (w_preV (o := x2) (ci := 2) (ob := obC ad ci) (σ := σ) hK hY (rowB_lt rx2) (obC_row rx2) rfl rfl) rfl rfl hl.1 rfl (lv_room (Nat.le_of_ble_eq_true rfl)) dX0_writeInto_24 ⟨Nat.zero_le _, Nat.zero_le _⟩) hY (fun σ_6 H locs h hY hR_σ_6 => ?_)
      refine lv_iinc (v := (x3 + 1)) (lv' := [(3, .int (x3 + 1)), (0, .ref (ad 58)), (1, .ref (ad x1)), (2, .ref (ad x2))]) hx hb dX0_writeInto_27 hl (k := 3) rfl rfl (by decide) rfl (fun ls hl => ?_)
      refine lv_goto (tgt := 6) hx hb dX0_writeInto_30 (by decide) ?_
      exact ih σ_6 (x3 + 1) h _ _ hY hR_σ_6  _ (lv_sub hl [1, 2, 3, 0] rfl)
set_option maxHeartbeats 4000000 in
set_option maxRecDepth 100000 in
theorem eX0_writeInto (C0 : CallFix p m c cX0_writeInto 4 s args wsX0_writeInto RX0) (hK : Kx D (tyC ci) s) (K : St → Prop) (σ : St) (hret : ∀ (u : St) (H : Heap) (locs : List Loc) (pc : Nat) (ls : Array Slot), K u → Sy D 132 ad A H0 (obC ad ci u) H locs → Rok u → decode cX0_writeInto pc = .ok (.return_, 1) → W p l e rmX0_writeInto s m args below meth c H locs 0 0 Q (F0 m pc ls [])) (x1 : Nat) (x2 : Nat) (rx1 : rowB x1 = true) (rx2 : rowB x2 = true) (h : wX0_writeInto σ x1 x2 K) (H : Heap) (locs : List Loc) (hY : Sy D 132 ad A H0 (obC ad ci σ) H locs) (hR : Rok σ) (ls : Array Slot) (hl : lv_has ls 4 [(0, .ref (ad 58)), (1, .ref (ad x1)), (2, .ref (ad x2))]) : W p l e rmX0_writeInto s m args below meth c H locs 0 0 Q (F0 m 0 ls []) := by
  obtain ⟨hx, hb, hml, hown, hts⟩ := id C0
  refine lv_aload_n hx hb dX0_writeInto_0 rfl (lv_at hl 2 rfl) ?_
  refine w_callv (rest := []) (va_runV (As := []) (rest := []) C0 (mX2_clear l D ad ci A σ x2 _ hR rx2 h) (cwV 0 hts gX0_writeInto_X2_clear rfl rfl rfl ddX2_clear ⟨Nat.le_of_ble_eq_true rfl, Nat.le_of_ble_eq_true rfl⟩) (w_preV (o := x2) (ci := 2) (ob := obC ad ci) (σ := σ) hK hY (rowB_lt rx2) (obC_row rx2) rfl rfl) rfl rfl hl.1 rfl (lv_room (Nat.le_of_ble_eq_true rfl)) dX0_writeInto_1 ⟨Nat.zero_le _, Nat.zero_le _⟩) hY (fun σ_8 H locs h hY hR_σ_8 => ?_)
  refine lv_iconst (v := (0 : Int32)) hx hb dX0_writeInto_4 (by decide) ?_
  refine lv_istore_n (lv' := [(3, .int (0 : Int32)), (0, .ref (ad 58)), (1, .ref (ad x1)), (2, .ref (ad x2))]) hx hb dX0_writeInto_5 rfl hl (by decide) rfl (fun ls hl => ?_)
  obtain ⟨n_9, h⟩ := h
  exact tX0_writeInto_L6 C0 hK K x1 x2 hret rx1 rx2 n_9 σ_8 (0 : Int32) h _ _ hY hR_σ_8  _ (lv_sub hl [1, 2, 3, 0] rfl)
set_option maxHeartbeats 4000000 in
set_option maxRecDepth 100000 in
theorem mX0_writeInto (l : Launch) (D : va_G) (ad : Nat → Nat) (ci : Nat → ClassId) (A : Nat → Prop) (σ : St) (x1 : Nat) (x2 : Nat) (K : St → Prop) (hR : Rok σ) (rx1 : rowB x1 = true) (rx2 : rowB x2 = true) (h : wX0_writeInto σ x1 x2 K) : Met l yX0_writeInto wsX0_writeInto rmX0_writeInto (va_Pc [.ref (ad 58), .ref (ad x1), .ref (ad x2)] (PreW D 132 ad A (tyC ci) (obC ad ci σ))) (va_Qv (fun u => K u) (PostW D 132 ad (tyC ci) (obC ad ci) Rok) A) 0 0 A := by
  refine Met.ofW (cc := cX0_writeInto) (maxL := 4) (ret := none) (by decide) rfl ?_
  intro p e s m args below meth c s₁ B hml hv
  obtain ⟨rfl, hP, hK, hD⟩ := hv
  have C0 : CallFix p m c cX0_writeInto 4 s _ wsX0_writeInto RX0 := ⟨B.exec, B.bytes, hml, findClass_of_methodNamed B.named, atoms_spec (ws := wsX0_writeInto) B.pre⟩
  have hlocks := B.notSynchronized
  have hY : Sy D 132 ad A s.heap (obC ad ci σ) s.heap [] := ⟨hP, hD, va_S.rf⟩
  have hl := lv_entry ([.ref (ad 58), .ref (ad x1), .ref (ad x2)]) (n := 4) (Nat.le_of_ble_eq_true rfl)
  rw [lg_entry_eq]
  generalize (lg_sl ([.ref (ad 58), .ref (ad x1), .ref (ad x2)]) ++ List.replicate (4 - (lg_sl ([.ref (ad 58), .ref (ad x1), .ref (ad x2)])).length) Slot.unset).toArray = ls at hl ⊢
  exact eX0_writeInto C0 hK K σ (fun u H locs pc ls hk hY hR hd => w_vret (I := Rok) B.exec B.bytes B.returns hlocks hK hk (fun t ht => ht) hY hR hd) x1 x2 rx1 rx2 h _ _ hY hR ls hl
set_option maxHeartbeats 4000000 in
set_option maxRecDepth 100000 in
theorem tX0_mostWritten_L4 (C0 : CallFix p m c cX0_mostWritten 4 s args wsX0_mostWritten RX0) (hK : Kx D (tyC ci) s) (K : Int32 → Prop) (σ : St) (hret : ∀ (r : Int32) (H : Heap) (locs : List Loc) (pc : Nat) (ls : Array Slot), K r → Sy D 132 ad A H0 (obC ad ci σ) H locs → decode cX0_mostWritten pc = .ok (.ireturn, 1) → W p l e rmX0_mostWritten s m args below meth c H locs 0 0 Q (F0 m pc ls [.int r])) : ∀ (n : Nat) (x2 : Int32) (x3 : Int32), wX0_mostWritten_L4 K σ n x2 x3 → ∀ (H : Heap) (locs : List Loc), Sy D 132 ad A H0 (obC ad ci σ) H locs → Rok σ → ∀ ls : Array Slot, lv_has ls 4 [(0, .ref (ad 58)), (1, .ref (ad 5)), (2, .int x2), (3, .int x3)] → W p l e rmX0_mostWritten s m args below meth c H locs 0 0 Q (F0 m 4 ls []) := by
  obtain ⟨hx, hb, hml, hown, hts⟩ := id C0
  intro n
  induction n with
  | zero =>
    intro x2 x3 h
    exact h.elim
  | succ n ih =>
    intro x2 x3 h H locs hY hR  ls hl
    refine lv_iload_n hx hb dX0_mostWritten_4 rfl (lv_at hl 3 rfl) ?_
    refine lv_aload_n hx hb dX0_mostWritten_5 rfl (lv_at hl 1 rfl) ?_
    refine w_callip (rest := [.int x3]) (va_runV (As := []) (rest := [.int x3]) C0 (mX4_size l D ad ci A σ _ hR  h) (cwV 0 hts gX0_mostWritten_X4_size rfl rfl rfl ddX4_size ⟨Nat.le_of_ble_eq_true rfl, Nat.le_of_ble_eq_true rfl⟩) (w_preV (o := 5) (ci := 4) (ob := obC ad ci) (σ := σ) hK hY (by decide) obC_list rfl rfl) rfl rfl hl.1 rfl (lv_room (Nat.le_of_ble_eq_true rfl)) dX0_mostWritten_6 ⟨Nat.zero_le _, Nat.zero_le _⟩) hY (fun r_1 H locs h hY => ?_)
    refine lv_icmp_ge (tgt := 32) hx hb dX0_mostWritten_9 (by decide) (fun c_2 => ?_) (fun c_2 => ?_)
    · have h := h.1 c_2
      refine lv_iload_n hx hb dX0_mostWritten_32 rfl (lv_at hl 2 rfl) ?_
      exact hret x2 _ _ _ _ h hY dX0_mostWritten_33
    · have h := h.2 c_2
      refine lv_iload_n hx hb dX0_mostWritten_12 rfl (lv_at hl 2 rfl) ?_
      refine lv_aload_n hx hb dX0_mostWritten_13 rfl (lv_at hl 0 rfl) ?_
      refine lv_aload_n hx hb dX0_mostWritten_14 rfl (lv_at hl 1 rfl) ?_
      refine lv_iload_n hx hb dX0_mostWritten_15 rfl (lv_at hl 3 rfl) ?_
      refine w_callrp (rest := [.ref (ad 58), .int x2]) (va_runV (As := [.int x3]) (rest := [.ref (ad 58), .int x2]) C0 (mX4_rowAt l D ad ci A σ x3 _ hR  h) (cwV 1 hts gX0_mostWritten_X4_rowAt rfl rfl rfl ddX4_rowAt ⟨Nat.le_of_ble_eq_true rfl, Nat.le_of_ble_eq_true rfl⟩) (w_preV (o := 5) (ci := 4) (ob := obC ad ci) (σ := σ) hK hY (by decide) obC_list rfl rfl) rfl rfl hl.1 rfl (lv_room (Nat.le_of_ble_eq_true rfl)) dX0_mostWritten_16 ⟨Nat.zero_le _, Nat.zero_le _⟩) hY (fun r_3 H locs h hY => ?_)
      obtain ⟨rr_3, h⟩ := h
      refine w_callip (rest := [.int x2]) (va_runV (As := [.ref (ad r_3)]) (rest := [.int x2]) C0 (mX0_sizeWritten l D ad ci A σ r_3 _ hR rr_3 h) (cwV 1 hts gX0_mostWritten_X0_sizeWritten rfl rfl rfl ddX0_sizeWritten ⟨Nat.le_of_ble_eq_true rfl, Nat.le_of_ble_eq_true rfl⟩) (w_preV (o := 58) (ci := 0) (ob := obC ad ci) (σ := σ) hK hY (by decide) obC_book rfl rfl) rfl rfl hl.1 rfl (lv_room (Nat.le_of_ble_eq_true rfl)) dX0_mostWritten_19 ⟨Nat.zero_le _, Nat.zero_le _⟩) hY (fun r_4 H locs h hY => ?_)
      refine va_mmax hx hb (hml.trans hl.1.symm) hown (hts _ kX0_mostWritten_0) (hts _ kX0_mostWritten_1) (hts _ kX0_mostWritten_2) (hts _ kX0_mostWritten_3) (Nat.le_of_ble_eq_true rfl) (Nat.le_of_ble_eq_true rfl) (Nat.zero_le _) (Nat.zero_le _) dX0_mostWritten_22 ?_
      refine lv_topi (fun x2_5 e_x2_5 => ?_)
      have h := h x2_5 e_x2_5
      refine lv_istore_n (lv' := [(2, .int x2_5), (0, .ref (ad 58)), (1, .ref (ad 5)), (3, .int x3)]) hx hb dX0_mostWritten_25 rfl hl (by decide) rfl (fun ls hl => ?_)
      refine lv_iinc (v := (x3 + 1)) (lv' := [(3, .int (x3 + 1)), (2, .int x2_5), (0, .ref (ad 58)), (1, .ref (ad 5))]) hx hb dX0_mostWritten_26 hl (k := 3) rfl rfl (by decide) rfl (fun ls hl => ?_)
      refine lv_goto (tgt := 4) hx hb dX0_mostWritten_29 (by decide) ?_
      exact ih x2_5 (x3 + 1) h _ _ hY hR  _ (lv_sub hl [2, 3, 1, 0] rfl)
set_option maxHeartbeats 4000000 in
set_option maxRecDepth 100000 in
theorem eX0_mostWritten (C0 : CallFix p m c cX0_mostWritten 4 s args wsX0_mostWritten RX0) (hK : Kx D (tyC ci) s) (K : Int32 → Prop) (σ : St) (hret : ∀ (r : Int32) (H : Heap) (locs : List Loc) (pc : Nat) (ls : Array Slot), K r → Sy D 132 ad A H0 (obC ad ci σ) H locs → decode cX0_mostWritten pc = .ok (.ireturn, 1) → W p l e rmX0_mostWritten s m args below meth c H locs 0 0 Q (F0 m pc ls [.int r])) (h : wX0_mostWritten σ K) (H : Heap) (locs : List Loc) (hY : Sy D 132 ad A H0 (obC ad ci σ) H locs) (hR : Rok σ) (ls : Array Slot) (hl : lv_has ls 4 [(0, .ref (ad 58)), (1, .ref (ad 5))]) : W p l e rmX0_mostWritten s m args below meth c H locs 0 0 Q (F0 m 0 ls []) := by
  obtain ⟨hx, hb, hml, hown, hts⟩ := id C0
  refine lv_iconst (v := (0 : Int32)) hx hb dX0_mostWritten_0 (by decide) ?_
  refine lv_istore_n (lv' := [(2, .int (0 : Int32)), (0, .ref (ad 58)), (1, .ref (ad 5))]) hx hb dX0_mostWritten_1 rfl hl (by decide) rfl (fun ls hl => ?_)
  refine lv_iconst (v := (0 : Int32)) hx hb dX0_mostWritten_2 (by decide) ?_
  refine lv_istore_n (lv' := [(3, .int (0 : Int32)), (2, .int (0 : Int32)), (0, .ref (ad 58)), (1, .ref (ad 5))]) hx hb dX0_mostWritten_3 rfl hl (by decide) rfl (fun ls hl => ?_)
  obtain ⟨n_6, h⟩ := h
  exact tX0_mostWritten_L4 C0 hK K σ hret n_6 (0 : Int32) (0 : Int32) h _ _ hY hR  _ (lv_sub hl [2, 3, 1, 0] rfl)
set_option maxHeartbeats 4000000 in
set_option maxRecDepth 100000 in
theorem mX0_mostWritten (l : Launch) (D : va_G) (ad : Nat → Nat) (ci : Nat → ClassId) (A : Nat → Prop) (σ : St) (K : Int32 → Prop) (hR : Rok σ) (h : wX0_mostWritten σ K) : Met l yX0_mostWritten wsX0_mostWritten rmX0_mostWritten (va_Pc [.ref (ad 58), .ref (ad 5)] (PreW D 132 ad A (tyC ci) (obC ad ci σ))) (va_Qi (fun r (_ : Unit) => K r) (fun _ => (PostW D 132 ad (tyC ci) (obC ad ci) Rok σ)) A) 0 0 A := by
  refine Met.ofW (cc := cX0_mostWritten) (maxL := 4) (ret := (some .int)) (by decide) rfl ?_
  intro p e s m args below meth c s₁ B hml hv
  obtain ⟨rfl, hP, hK, hD⟩ := hv
  have C0 : CallFix p m c cX0_mostWritten 4 s _ wsX0_mostWritten RX0 := ⟨B.exec, B.bytes, hml, findClass_of_methodNamed B.named, atoms_spec (ws := wsX0_mostWritten) B.pre⟩
  have hlocks := B.notSynchronized
  have hY : Sy D 132 ad A s.heap (obC ad ci σ) s.heap [] := ⟨hP, hD, va_S.rf⟩
  have hl := lv_entry ([.ref (ad 58), .ref (ad 5)]) (n := 4) (Nat.le_of_ble_eq_true rfl)
  rw [lg_entry_eq]
  generalize (lg_sl ([.ref (ad 58), .ref (ad 5)]) ++ List.replicate (4 - (lg_sl ([.ref (ad 58), .ref (ad 5)])).length) Slot.unset).toArray = ls at hl ⊢
  exact eX0_mostWritten C0 hK K σ (fun r H locs pc ls hk hY hd => w_iret (I := Rok) B.exec B.bytes B.returns hlocks (u := ()) hK hk (fun t ht => ht) hY hR hd) h _ _ hY hR ls hl
set_option maxHeartbeats 4000000 in
set_option maxRecDepth 100000 in
theorem eX0_writtenAt (C0 : CallFix p m c cX0_writtenAt 2 s args wsX0_writtenAt RX0) (hK : Kx D (tyC ci) s) (K : Nat → Prop) (σ : St) (hret : ∀ (r : Nat) (H : Heap) (locs : List Loc) (pc : Nat) (ls : Array Slot), rowB r = true → K r → Sy D 132 ad A H0 (obC ad ci σ) H locs → decode cX0_writtenAt pc = .ok (.areturn, 1) → W p l e rmX0_writtenAt s m args below meth c H locs 0 0 Q (F0 m pc ls [.ref (ad r)])) (x1 : Int32) (h : wX0_writtenAt σ x1 K) (H : Heap) (locs : List Loc) (hY : Sy D 132 ad A H0 (obC ad ci σ) H locs) (hR : Rok σ) (ls : Array Slot) (hl : lv_has ls 2 [(0, .ref (ad 58)), (1, .int x1)]) : W p l e rmX0_writtenAt s m args below meth c H locs 0 0 Q (F0 m 0 ls []) := by
  obtain ⟨hx, hb, hml, hown, hts⟩ := id C0
  refine lv_iload_n hx hb dX0_writtenAt_0 rfl (lv_at hl 1 rfl) ?_
  refine lv_if_lt (tgt := 22) hx hb dX0_writtenAt_1 (by decide) (fun c_1 => ?_) (fun c_1 => ?_)
  · have h := h.1 c_1
    refine lv_aload_n hx hb dX0_writtenAt_22 rfl (lv_at hl 0 rfl) ?_
    refine w_get (o := 58) (ci := 0) (C := RX0) (T := TX0) (N1 := 3) (v := .ref (ad 121)) hx hb hts kX0_writtenAt_inX0 hown hK.1 hY (by decide) obC_book rfl 2 (by decide) (hts _ kX0_writtenAt_0) rfl rfl dX0_writtenAt_23 ?_
    exact hret 121 _ _ _ _ (by decide) h hY dX0_writtenAt_26
  · have h := h.2 c_1
    refine lv_iload_n hx hb dX0_writtenAt_4 rfl (lv_at hl 1 rfl) ?_
    refine lv_aload_n hx hb dX0_writtenAt_5 rfl (lv_at hl 0 rfl) ?_
    refine w_get (o := 58) (ci := 0) (C := RX0) (T := TX0) (N1 := 3) (v := .ref (ad 72)) hx hb hts kX0_writtenAt_inX0 hown hK.1 hY (by decide) obC_book rfl 1 (by decide) (hts _ kX0_writtenAt_2) rfl rfl dX0_writtenAt_6 ?_
    refine w_alen (o := 72) hx hb hK.1 hY (by decide) 3 rfl rfl (v := (24 : Int32)) rfl dX0_writtenAt_9 ?_
    refine lv_icmp_ge (tgt := 22) hx hb dX0_writtenAt_10 (by decide) (fun c_2 => ?_) (fun c_2 => ?_)
    · have h := h.1 c_2
      refine lv_aload_n hx hb dX0_writtenAt_22 rfl (lv_at hl 0 rfl) ?_
      refine w_get (o := 58) (ci := 0) (C := RX0) (T := TX0) (N1 := 3) (v := .ref (ad 121)) hx hb hts kX0_writtenAt_inX0 hown hK.1 hY (by decide) obC_book rfl 2 (by decide) (hts _ kX0_writtenAt_0) rfl rfl dX0_writtenAt_23 ?_
      exact hret 121 _ _ _ _ (by decide) h hY dX0_writtenAt_26
    · have h := h.2 c_2
      refine lv_aload_n hx hb dX0_writtenAt_13 rfl (lv_at hl 0 rfl) ?_
      refine w_get (o := 58) (ci := 0) (C := RX0) (T := TX0) (N1 := 3) (v := .ref (ad 72)) hx hb hts kX0_writtenAt_inX0 hown hK.1 hY (by decide) obC_book rfl 1 (by decide) (hts _ kX0_writtenAt_2) rfl rfl dX0_writtenAt_14 ?_
      refine lv_iload_n hx hb dX0_writtenAt_17 rfl (lv_at hl 1 rfl) ?_
      obtain ⟨b_3, h⟩ := h
      refine w_aald (o := 72) (C := RX2) (f := fun i => 73 + 2 * i) hx hb hK.1 hY (by decide) 3 rfl rfl b_3 dX0_writtenAt_18 ?_
      have r_4 : rowB (73 + 2 * (x1).toNatClampNeg) = true := rowB_written _ (vp_lt b_3)
      refine lv_goto (tgt := 26) hx hb dX0_writtenAt_19 (by decide) ?_
      exact hret (73 + 2 * (x1).toNatClampNeg) _ _ _ _ r_4 h hY dX0_writtenAt_26
set_option maxHeartbeats 4000000 in
set_option maxRecDepth 100000 in
theorem mX0_writtenAt (l : Launch) (D : va_G) (ad : Nat → Nat) (ci : Nat → ClassId) (A : Nat → Prop) (σ : St) (x1 : Int32) (K : Nat → Prop) (hR : Rok σ) (h : wX0_writtenAt σ x1 K) : Met l yX0_writtenAt wsX0_writtenAt rmX0_writtenAt (va_Pc [.ref (ad 58), .int x1] (PreW D 132 ad A (tyC ci) (obC ad ci σ))) (va_Qr (fun r => rowB r = true ∧ K r) (fun r b t => b = ad r ∧ (PostW D 132 ad (tyC ci) (obC ad ci) Rok σ t)) A) 0 0 A := by
  refine Met.ofW (cc := cX0_writtenAt) (maxL := 2) (ret := (some (.object "Stemspan$Row"))) (by decide) rfl ?_
  intro p e s m args below meth c s₁ B hml hv
  obtain ⟨rfl, hP, hK, hD⟩ := hv
  have C0 : CallFix p m c cX0_writtenAt 2 s _ wsX0_writtenAt RX0 := ⟨B.exec, B.bytes, hml, findClass_of_methodNamed B.named, atoms_spec (ws := wsX0_writtenAt) B.pre⟩
  have hlocks := B.notSynchronized
  have hY : Sy D 132 ad A s.heap (obC ad ci σ) s.heap [] := ⟨hP, hD, va_S.rf⟩
  have hl := lv_entry ([.ref (ad 58), .int x1]) (n := 2) (Nat.le_of_ble_eq_true rfl)
  rw [lg_entry_eq]
  generalize (lg_sl ([.ref (ad 58), .int x1]) ++ List.replicate (2 - (lg_sl ([.ref (ad 58), .int x1])).length) Slot.unset).toArray = ls at hl ⊢
  exact eX0_writtenAt C0 hK K σ (fun r H locs pc ls hr hk hY hd => w_rret (I := Rok) B.exec B.bytes B.returns hlocks hK ⟨hr, hk⟩ (fun t ht => ⟨rfl, ht⟩) hY hR hd) x1 h _ _ hY hR ls hl
set_option maxHeartbeats 4000000 in
set_option maxRecDepth 100000 in
theorem tX0_writeWords_L2 (C0 : CallFix p m c cX0_writeWords 3 s args wsX0_writeWords RX0) (hK : Kx D (tyC ci) s) (K : St → Prop) (hret : ∀ (u : St) (H : Heap) (locs : List Loc) (pc : Nat) (ls : Array Slot), K u → Sy D 132 ad A H0 (obC ad ci u) H locs → Rok u → decode cX0_writeWords pc = .ok (.return_, 1) → W p l e rmX0_writeWords s m args below meth c H locs 0 0 Q (F0 m pc ls [])) : ∀ (n : Nat) (σ : St) (x2 : Int32), wX0_writeWords_L2 K n σ x2 → ∀ (H : Heap) (locs : List Loc), Sy D 132 ad A H0 (obC ad ci σ) H locs → Rok σ → ∀ ls : Array Slot, lv_has ls 3 [(0, .ref (ad 58)), (1, .ref (ad 5)), (2, .int x2)] → W p l e rmX0_writeWords s m args below meth c H locs 0 0 Q (F0 m 2 ls []) := by
  obtain ⟨hx, hb, hml, hown, hts⟩ := id C0
  intro n
  induction n with
  | zero =>
    intro σ x2 h
    exact h.elim
  | succ n ih =>
    intro σ x2 h H locs hY hR  ls hl
    refine lv_iload_n hx hb dX0_writeWords_2 rfl (lv_at hl 2 rfl) ?_
    refine lv_aload_n hx hb dX0_writeWords_3 rfl (lv_at hl 1 rfl) ?_
    refine w_callip (rest := [.int x2]) (va_runV (As := []) (rest := [.int x2]) C0 (mX4_size l D ad ci A σ _ hR  h) (cwV 0 hts gX0_writeWords_X4_size rfl rfl rfl ddX4_size ⟨Nat.le_of_ble_eq_true rfl, Nat.le_of_ble_eq_true rfl⟩) (w_preV (o := 5) (ci := 4) (ob := obC ad ci) (σ := σ) hK hY (by decide) obC_list rfl rfl) rfl rfl hl.1 rfl (lv_room (Nat.le_of_ble_eq_true rfl)) dX0_writeWords_4 ⟨Nat.zero_le _, Nat.zero_le _⟩) hY (fun r_1 H locs h hY => ?_)
    refine lv_icmp_ge (tgt := 30) hx hb dX0_writeWords_7 (by decide) (fun c_2 => ?_) (fun c_2 => ?_)
    · have h := h.1 c_2
      exact hret σ _ _ _ _ h hY hR dX0_writeWords_30
    · have h := h.2 c_2
      refine lv_aload_n hx hb dX0_writeWords_10 rfl (lv_at hl 0 rfl) ?_
      refine lv_aload_n hx hb dX0_writeWords_11 rfl (lv_at hl 1 rfl) ?_
      refine lv_iload_n hx hb dX0_writeWords_12 rfl (lv_at hl 2 rfl) ?_
      refine w_callrp (rest := [.ref (ad 58)]) (va_runV (As := [.int x2]) (rest := [.ref (ad 58)]) C0 (mX4_rowAt l D ad ci A σ x2 _ hR  h) (cwV 1 hts gX0_writeWords_X4_rowAt rfl rfl rfl ddX4_rowAt ⟨Nat.le_of_ble_eq_true rfl, Nat.le_of_ble_eq_true rfl⟩) (w_preV (o := 5) (ci := 4) (ob := obC ad ci) (σ := σ) hK hY (by decide) obC_list rfl rfl) rfl rfl hl.1 rfl (lv_room (Nat.le_of_ble_eq_true rfl)) dX0_writeWords_13 ⟨Nat.zero_le _, Nat.zero_le _⟩) hY (fun r_3 H locs h hY => ?_)
      obtain ⟨rr_3, h⟩ := h
      refine lv_aload_n hx hb dX0_writeWords_16 rfl (lv_at hl 0 rfl) ?_
      refine lv_iload_n hx hb dX0_writeWords_17 rfl (lv_at hl 2 rfl) ?_
      refine w_callrp (rest := [.ref (ad r_3), .ref (ad 58)]) (va_runV (As := [.int x2]) (rest := [.ref (ad r_3), .ref (ad 58)]) C0 (mX0_writtenAt l D ad ci A σ x2 _ hR  h) (cwV 1 hts gX0_writeWords_X0_writtenAt rfl rfl rfl ddX0_writtenAt ⟨Nat.le_of_ble_eq_true rfl, Nat.le_of_ble_eq_true rfl⟩) (w_preV (o := 58) (ci := 0) (ob := obC ad ci) (σ := σ) hK hY (by decide) obC_book rfl rfl) rfl rfl hl.1 rfl (lv_room (Nat.le_of_ble_eq_true rfl)) dX0_writeWords_18 ⟨Nat.zero_le _, Nat.zero_le _⟩) hY (fun r_4 H locs h hY => ?_)
      obtain ⟨rr_4, h⟩ := h
      refine w_callv (rest := []) (va_runV (As := [.ref (ad r_3), .ref (ad r_4)]) (rest := []) C0 (mX0_writeInto l D ad ci A σ r_3 r_4 _ hR rr_3 rr_4 h) (cwV 2 hts gX0_writeWords_X0_writeInto rfl rfl rfl ddX0_writeInto ⟨Nat.le_of_ble_eq_true rfl, Nat.le_of_ble_eq_true rfl⟩) (w_preV (o := 58) (ci := 0) (ob := obC ad ci) (σ := σ) hK hY (by decide) obC_book rfl rfl) rfl rfl hl.1 rfl (lv_room (Nat.le_of_ble_eq_true rfl)) dX0_writeWords_21 ⟨Nat.zero_le _, Nat.zero_le _⟩) hY (fun σ_6 H locs h hY hR_σ_6 => ?_)
      refine lv_iinc (v := (x2 + 1)) (lv' := [(2, .int (x2 + 1)), (0, .ref (ad 58)), (1, .ref (ad 5))]) hx hb dX0_writeWords_24 hl (k := 2) rfl rfl (by decide) rfl (fun ls hl => ?_)
      refine lv_goto (tgt := 2) hx hb dX0_writeWords_27 (by decide) ?_
      exact ih σ_6 (x2 + 1) h _ _ hY hR_σ_6  _ (lv_sub hl [1, 2, 0] rfl)
set_option maxHeartbeats 4000000 in
set_option maxRecDepth 100000 in
theorem eX0_writeWords (C0 : CallFix p m c cX0_writeWords 3 s args wsX0_writeWords RX0) (hK : Kx D (tyC ci) s) (K : St → Prop) (σ : St) (hret : ∀ (u : St) (H : Heap) (locs : List Loc) (pc : Nat) (ls : Array Slot), K u → Sy D 132 ad A H0 (obC ad ci u) H locs → Rok u → decode cX0_writeWords pc = .ok (.return_, 1) → W p l e rmX0_writeWords s m args below meth c H locs 0 0 Q (F0 m pc ls [])) (h : wX0_writeWords σ K) (H : Heap) (locs : List Loc) (hY : Sy D 132 ad A H0 (obC ad ci σ) H locs) (hR : Rok σ) (ls : Array Slot) (hl : lv_has ls 3 [(0, .ref (ad 58)), (1, .ref (ad 5))]) : W p l e rmX0_writeWords s m args below meth c H locs 0 0 Q (F0 m 0 ls []) := by
  obtain ⟨hx, hb, hml, hown, hts⟩ := id C0
  refine lv_iconst (v := (0 : Int32)) hx hb dX0_writeWords_0 (by decide) ?_
  refine lv_istore_n (lv' := [(2, .int (0 : Int32)), (0, .ref (ad 58)), (1, .ref (ad 5))]) hx hb dX0_writeWords_1 rfl hl (by decide) rfl (fun ls hl => ?_)
  obtain ⟨n_7, h⟩ := h
  exact tX0_writeWords_L2 C0 hK K hret n_7 σ (0 : Int32) h _ _ hY hR  _ (lv_sub hl [1, 2, 0] rfl)
set_option maxHeartbeats 4000000 in
set_option maxRecDepth 100000 in
theorem mX0_writeWords (l : Launch) (D : va_G) (ad : Nat → Nat) (ci : Nat → ClassId) (A : Nat → Prop) (σ : St) (K : St → Prop) (hR : Rok σ) (h : wX0_writeWords σ K) : Met l yX0_writeWords wsX0_writeWords rmX0_writeWords (va_Pc [.ref (ad 58), .ref (ad 5)] (PreW D 132 ad A (tyC ci) (obC ad ci σ))) (va_Qv (fun u => K u) (PostW D 132 ad (tyC ci) (obC ad ci) Rok) A) 0 0 A := by
  refine Met.ofW (cc := cX0_writeWords) (maxL := 3) (ret := none) (by decide) rfl ?_
  intro p e s m args below meth c s₁ B hml hv
  obtain ⟨rfl, hP, hK, hD⟩ := hv
  have C0 : CallFix p m c cX0_writeWords 3 s _ wsX0_writeWords RX0 := ⟨B.exec, B.bytes, hml, findClass_of_methodNamed B.named, atoms_spec (ws := wsX0_writeWords) B.pre⟩
  have hlocks := B.notSynchronized
  have hY : Sy D 132 ad A s.heap (obC ad ci σ) s.heap [] := ⟨hP, hD, va_S.rf⟩
  have hl := lv_entry ([.ref (ad 58), .ref (ad 5)]) (n := 3) (Nat.le_of_ble_eq_true rfl)
  rw [lg_entry_eq]
  generalize (lg_sl ([.ref (ad 58), .ref (ad 5)]) ++ List.replicate (3 - (lg_sl ([.ref (ad 58), .ref (ad 5)])).length) Slot.unset).toArray = ls at hl ⊢
  exact eX0_writeWords C0 hK K σ (fun u H locs pc ls hk hY hR hd => w_vret (I := Rok) B.exec B.bytes B.returns hlocks hK hk (fun t ht => ht) hY hR hd) h _ _ hY hR ls hl
set_option maxHeartbeats 4000000 in
set_option maxRecDepth 100000 in
theorem tX0_signRead_L2 (C0 : CallFix p m c cX0_signRead 4 s args wsX0_signRead RX0) (hK : Kx D (tyC ci) s) (K : Int32 → Prop) (σ : St) (x1 : Nat) (x2 : Int32) (hret : ∀ (r : Int32) (H : Heap) (locs : List Loc) (pc : Nat) (ls : Array Slot), narrow .char (.int r) = .int r → K r → Sy D 132 ad A H0 (obC ad ci σ) H locs → decode cX0_signRead pc = .ok (.ireturn, 1) → W p l e rmX0_signRead s m args below meth c H locs 0 0 Q (F0 m pc ls [.int r])) (rx1 : rowB x1 = true) : ∀ (n : Nat) (x3 : Int32), wX0_signRead_L2 K σ x1 x2 n x3 → ∀ (H : Heap) (locs : List Loc), Sy D 132 ad A H0 (obC ad ci σ) H locs → Rok σ → ∀ ls : Array Slot, lv_has ls 4 [(0, .ref (ad 58)), (1, .ref (ad x1)), (2, .int x2), (3, .int x3)] → W p l e rmX0_signRead s m args below meth c H locs 0 0 Q (F0 m 2 ls []) := by
  obtain ⟨hx, hb, hml, hown, hts⟩ := id C0
  intro n
  induction n with
  | zero =>
    intro x3 h
    exact h.elim
  | succ n ih =>
    intro x3 h H locs hY hR  ls hl
    refine lv_iload_n hx hb dX0_signRead_2 rfl (lv_at hl 3 rfl) ?_
    refine lv_bipush (v := (6 : Int32)) hx hb dX0_signRead_3 (by decide) ?_
    refine lv_icmp_ge (tgt := 33) hx hb dX0_signRead_5 (by decide) (fun c_1 => ?_) (fun c_1 => ?_)
    · have h := h.1 c_1
      refine lv_iconst (v := (0 : Int32)) hx hb dX0_signRead_33 (by decide) ?_
      exact hret (0 : Int32) _ _ _ _ rfl h hY dX0_signRead_34
    · have h := h.2 c_1
      refine lv_aload_n hx hb dX0_signRead_8 rfl (lv_at hl 1 rfl) ?_
      refine lv_iload_n hx hb dX0_signRead_9 rfl (lv_at hl 2 rfl) ?_
      refine lv_aload_n hx hb dX0_signRead_10 rfl (lv_at hl 0 rfl) ?_
      refine w_get (o := 58) (ci := 0) (C := RX0) (T := TX0) (N1 := 3) (v := .ref (ad 59)) hx hb hts kX0_signRead_inX0 hown hK.1 hY (by decide) obC_book rfl 0 (by decide) (hts _ kX0_signRead_0) rfl rfl dX0_signRead_11 ?_
      refine lv_iload_n hx hb dX0_signRead_14 rfl (lv_at hl 3 rfl) ?_
      obtain ⟨b_2, h⟩ := h
      refine w_aald (o := 59) (C := RX2) (f := fun i => 60 + 2 * i) hx hb hK.1 hY (by decide) 3 rfl rfl b_2 dX0_signRead_15 ?_
      have r_3 : rowB (60 + 2 * (x3).toNatClampNeg) = true := rowB_code _ (vp_lt b_2)
      refine w_callip (rest := []) (va_runV (As := [.int x2, .ref (ad (60 + 2 * (x3).toNatClampNeg))]) (rest := []) C0 (mX2_hasAt l D ad ci A σ x1 x2 (60 + 2 * (x3).toNatClampNeg) _ hR rx1 r_3 h) (cwV 2 hts gX0_signRead_X2_hasAt rfl rfl rfl ddX2_hasAt ⟨Nat.le_of_ble_eq_true rfl, Nat.le_of_ble_eq_true rfl⟩) (w_preV (o := x1) (ci := 2) (ob := obC ad ci) (σ := σ) hK hY (rowB_lt rx1) (obC_row rx1) rfl rfl) rfl rfl hl.1 rfl (lv_room (Nat.le_of_ble_eq_true rfl)) dX0_signRead_16 ⟨Nat.zero_le _, Nat.zero_le _⟩) hY (fun r_4 H locs h hY => ?_)
      obtain ⟨n_r_4, h⟩ := h
      refine lv_if_eq (tgt := 27) hx hb dX0_signRead_19 (by decide) (fun c_5 => ?_) (fun c_5 => ?_)
      · have h := h.1 c_5
        refine lv_iinc (v := (x3 + 1)) (lv' := [(3, .int (x3 + 1)), (0, .ref (ad 58)), (1, .ref (ad x1)), (2, .int x2)]) hx hb dX0_signRead_27 hl (k := 3) rfl rfl (by decide) rfl (fun ls hl => ?_)
        refine lv_goto (tgt := 2) hx hb dX0_signRead_30 (by decide) ?_
        exact ih (x3 + 1) h _ _ hY hR  _ (lv_sub hl [1, 2, 3, 0] rfl)
      · have h := h.2 c_5
        refine lv_iload_n hx hb dX0_signRead_22 rfl (lv_at hl 3 rfl) ?_
        refine w_callip (rest := []) (va_runSN (As := [.int x3]) (rest := []) C0 (mX5_signOf l D ad ci A σ x3 _ hR  h) ⟨va_cnB (host := RX5) 1 hts gX0_signRead_X5_signOf_n20 rfl rfl rfl hK.2.1 (hts _ kX0_signRead_2) ddX5_signOf ⟨Nat.le_of_ble_eq_true rfl, Nat.le_of_ble_eq_true rfl⟩, hts _ kX0_signRead_3, trivial⟩ (w_preS (ob := obC ad ci) (σ := σ) hK hY) rfl rfl hl.1 rfl (lv_room (Nat.le_of_ble_eq_true rfl)) dX0_signRead_23 ⟨Nat.zero_le _, Nat.zero_le _⟩) hY (fun r_6 H locs h hY => ?_)
        obtain ⟨n_r_6, h⟩ := h
        exact hret r_6 _ _ _ _ n_r_6 h hY dX0_signRead_26
set_option maxHeartbeats 4000000 in
set_option maxRecDepth 100000 in
theorem eX0_signRead (C0 : CallFix p m c cX0_signRead 4 s args wsX0_signRead RX0) (hK : Kx D (tyC ci) s) (K : Int32 → Prop) (σ : St) (hret : ∀ (r : Int32) (H : Heap) (locs : List Loc) (pc : Nat) (ls : Array Slot), narrow .char (.int r) = .int r → K r → Sy D 132 ad A H0 (obC ad ci σ) H locs → decode cX0_signRead pc = .ok (.ireturn, 1) → W p l e rmX0_signRead s m args below meth c H locs 0 0 Q (F0 m pc ls [.int r])) (x1 : Nat) (x2 : Int32) (rx1 : rowB x1 = true) (h : wX0_signRead σ x1 x2 K) (H : Heap) (locs : List Loc) (hY : Sy D 132 ad A H0 (obC ad ci σ) H locs) (hR : Rok σ) (ls : Array Slot) (hl : lv_has ls 4 [(0, .ref (ad 58)), (1, .ref (ad x1)), (2, .int x2)]) : W p l e rmX0_signRead s m args below meth c H locs 0 0 Q (F0 m 0 ls []) := by
  obtain ⟨hx, hb, hml, hown, hts⟩ := id C0
  refine lv_iconst (v := (0 : Int32)) hx hb dX0_signRead_0 (by decide) ?_
  refine lv_istore_n (lv' := [(3, .int (0 : Int32)), (0, .ref (ad 58)), (1, .ref (ad x1)), (2, .int x2)]) hx hb dX0_signRead_1 rfl hl (by decide) rfl (fun ls hl => ?_)
  obtain ⟨n_7, h⟩ := h
  exact tX0_signRead_L2 C0 hK K σ x1 x2 hret rx1 n_7 (0 : Int32) h _ _ hY hR  _ (lv_sub hl [1, 2, 3, 0] rfl)
set_option maxHeartbeats 4000000 in
set_option maxRecDepth 100000 in
theorem mX0_signRead (l : Launch) (D : va_G) (ad : Nat → Nat) (ci : Nat → ClassId) (A : Nat → Prop) (σ : St) (x1 : Nat) (x2 : Int32) (K : Int32 → Prop) (hR : Rok σ) (rx1 : rowB x1 = true) (h : wX0_signRead σ x1 x2 K) : Met l yX0_signRead wsX0_signRead rmX0_signRead (va_Pc [.ref (ad 58), .ref (ad x1), .int x2] (PreW D 132 ad A (tyC ci) (obC ad ci σ))) (va_Qi (fun r (_ : Unit) => narrow .char (.int r) = .int r ∧ K r) (fun _ => (PostW D 132 ad (tyC ci) (obC ad ci) Rok σ)) A) 0 0 A := by
  refine Met.ofW (cc := cX0_signRead) (maxL := 4) (ret := (some .char)) (by decide) rfl ?_
  intro p e s m args below meth c s₁ B hml hv
  obtain ⟨rfl, hP, hK, hD⟩ := hv
  have C0 : CallFix p m c cX0_signRead 4 s _ wsX0_signRead RX0 := ⟨B.exec, B.bytes, hml, findClass_of_methodNamed B.named, atoms_spec (ws := wsX0_signRead) B.pre⟩
  have hlocks := B.notSynchronized
  have hY : Sy D 132 ad A s.heap (obC ad ci σ) s.heap [] := ⟨hP, hD, va_S.rf⟩
  have hl := lv_entry ([.ref (ad 58), .ref (ad x1), .int x2]) (n := 4) (Nat.le_of_ble_eq_true rfl)
  rw [lg_entry_eq]
  generalize (lg_sl ([.ref (ad 58), .ref (ad x1), .int x2]) ++ List.replicate (4 - (lg_sl ([.ref (ad 58), .ref (ad x1), .int x2])).length) Slot.unset).toArray = ls at hl ⊢
  exact eX0_signRead C0 hK K σ (fun r H locs pc ls hn hk hY hd => w_zret (I := Rok) B.exec B.bytes B.returns hn hlocks (u := ()) hK ⟨hn, hk⟩ (fun t ht => ht) hY hR hd) x1 x2 rx1 h _ _ hY hR ls hl
set_option maxHeartbeats 4000000 in
set_option maxRecDepth 100000 in
theorem tX0_readInto_J63 (C0 : CallFix p m c cX0_readInto 6 s args wsX0_readInto RX0) (hK : Kx D (tyC ci) s) (K : Int32 → St → Prop) (σ : St) (x1 : Nat) (x3 : Int32) (hret : ∀ (r : Int32) (u : St) (H : Heap) (locs : List Loc) (pc : Nat) (ls : Array Slot), narrow .boolean (.int r) = .int r → K r u → Sy D 132 ad A H0 (obC ad ci u) H locs → Rok u → decode cX0_readInto pc = .ok (.ireturn, 1) → W p l e rmX0_readInto s m args below meth c H locs 0 0 Q (F0 m pc ls [.int r])) (rx1 : rowB x1 = true) (h : wX0_readInto_J63 K σ x1 x3) (H : Heap) (locs : List Loc) (hY : Sy D 132 ad A H0 (obC ad ci σ) H locs) (hR : Rok σ) (ls : Array Slot) (hl : lv_has ls 6 [(1, .ref (ad x1)), (3, .int x3)]) : W p l e rmX0_readInto s m args below meth c H locs 0 0 Q (F0 m 63 ls []) := by
  obtain ⟨hx, hb, hml, hown, hts⟩ := id C0
  refine lv_iload_n hx hb dX0_readInto_63 rfl (lv_at hl 1 rfl) ?_
  refine lv_aload_n hx hb dX0_readInto_64 rfl (lv_at hl 0 rfl) ?_
  refine w_callip (rest := [.int x3]) (va_runV (As := []) (rest := [.int x3]) C0 (mX2_size l D ad ci A σ x1 _ hR rx1 h) (cwV 0 hts gX0_readInto_X2_size rfl rfl rfl ddX2_size ⟨Nat.le_of_ble_eq_true rfl, Nat.le_of_ble_eq_true rfl⟩) (w_preV (o := x1) (ci := 2) (ob := obC ad ci) (σ := σ) hK hY (rowB_lt rx1) (obC_row rx1) rfl rfl) rfl rfl hl.1 rfl (lv_room (Nat.le_of_ble_eq_true rfl)) dX0_readInto_65 ⟨Nat.zero_le _, Nat.zero_le _⟩) hY (fun r_1 H locs h hY => ?_)
  refine lv_icmp_ne (tgt := 75) hx hb dX0_readInto_68 (by decide) (fun c_2 => ?_) (fun c_2 => ?_)
  · have h := h.2 c_2
    refine lv_iconst (v := (0 : Int32)) hx hb dX0_readInto_75 (by decide) ?_
    exact hret (0 : Int32) σ _ _ _ _ rfl h hY hR dX0_readInto_76
  · have h := h.1 c_2
    refine lv_iconst (v := (1 : Int32)) hx hb dX0_readInto_71 (by decide) ?_
    refine lv_goto (tgt := 76) hx hb dX0_readInto_72 (by decide) ?_
    exact hret (1 : Int32) σ _ _ _ _ rfl h hY hR dX0_readInto_76
set_option maxHeartbeats 4000000 in
set_option maxRecDepth 100000 in
theorem tX0_readInto_L9 (C0 : CallFix p m c cX0_readInto 6 s args wsX0_readInto RX0) (hK : Kx D (tyC ci) s) (K : Int32 → St → Prop) (x1 : Nat) (x2 : Nat) (hret : ∀ (r : Int32) (u : St) (H : Heap) (locs : List Loc) (pc : Nat) (ls : Array Slot), narrow .boolean (.int r) = .int r → K r u → Sy D 132 ad A H0 (obC ad ci u) H locs → Rok u → decode cX0_readInto pc = .ok (.ireturn, 1) → W p l e rmX0_readInto s m args below meth c H locs 0 0 Q (F0 m pc ls [.int r])) (rx1 : rowB x1 = true) (rx2 : rowB x2 = true) : ∀ (n : Nat) (σ : St) (x3 : Int32) (x4 : Int32), wX0_readInto_L9 K x1 x2 n σ x3 x4 → ∀ (H : Heap) (locs : List Loc), Sy D 132 ad A H0 (obC ad ci σ) H locs → Rok σ → ∀ ls : Array Slot, lv_has ls 6 [(0, .ref (ad 58)), (1, .ref (ad x1)), (2, .ref (ad x2)), (3, .int x3), (4, .int x4)] → W p l e rmX0_readInto s m args below meth c H locs 0 0 Q (F0 m 9 ls []) := by
  obtain ⟨hx, hb, hml, hown, hts⟩ := id C0
  intro n
  induction n with
  | zero =>
    intro σ x3 x4 h
    exact h.elim
  | succ n ih =>
    intro σ x3 x4 h H locs hY hR  ls hl
    refine lv_iload hx hb dX0_readInto_9 (lv_at hl 4 rfl) ?_
    refine lv_bipush (v := (24 : Int32)) hx hb dX0_readInto_11 (by decide) ?_
    refine lv_icmp_ge (tgt := 63) hx hb dX0_readInto_13 (by decide) (fun c_3 => ?_) (fun c_3 => ?_)
    · have h := h.1 c_3
      exact tX0_readInto_J63 C0 hK K σ x1 x3 hret rx1 h _ _ hY hR _ (lv_sub hl [1, 3] rfl)
    · have h := h.2 c_3
      refine lv_iload_n hx hb dX0_readInto_16 rfl (lv_at hl 3 rfl) ?_
      refine lv_aload_n hx hb dX0_readInto_17 rfl (lv_at hl 1 rfl) ?_
      refine w_callip (rest := [.int x3]) (va_runV (As := []) (rest := [.int x3]) C0 (mX2_size l D ad ci A σ x1 _ hR rx1 h) (cwV 0 hts gX0_readInto_X2_size rfl rfl rfl ddX2_size ⟨Nat.le_of_ble_eq_true rfl, Nat.le_of_ble_eq_true rfl⟩) (w_preV (o := x1) (ci := 2) (ob := obC ad ci) (σ := σ) hK hY (rowB_lt rx1) (obC_row rx1) rfl rfl) rfl rfl hl.1 rfl (lv_room (Nat.le_of_ble_eq_true rfl)) dX0_readInto_18 ⟨Nat.zero_le _, Nat.zero_le _⟩) hY (fun r_4 H locs h hY => ?_)
      refine lv_icmp_ge (tgt := 63) hx hb dX0_readInto_21 (by decide) (fun c_5 => ?_) (fun c_5 => ?_)
      · have h := h.1 c_5
        exact tX0_readInto_J63 C0 hK K σ x1 x3 hret rx1 h _ _ hY hR _ (lv_sub hl [1, 3] rfl)
      · have h := h.2 c_5
        refine lv_aload_n hx hb dX0_readInto_24 rfl (lv_at hl 0 rfl) ?_
        refine lv_aload_n hx hb dX0_readInto_25 rfl (lv_at hl 1 rfl) ?_
        refine lv_iload_n hx hb dX0_readInto_26 rfl (lv_at hl 3 rfl) ?_
        refine w_callip (rest := []) (va_runV (As := [.ref (ad x1), .int x3]) (rest := []) C0 (mX0_signRead l D ad ci A σ x1 x3 _ hR rx1 h) (cwV 2 hts gX0_readInto_X0_signRead rfl rfl rfl ddX0_signRead ⟨Nat.le_of_ble_eq_true rfl, Nat.le_of_ble_eq_true rfl⟩) (w_preV (o := 58) (ci := 0) (ob := obC ad ci) (σ := σ) hK hY (by decide) obC_book rfl rfl) rfl rfl hl.1 rfl (lv_room (Nat.le_of_ble_eq_true rfl)) dX0_readInto_27 ⟨Nat.zero_le _, Nat.zero_le _⟩) hY (fun r_6 H locs h hY => ?_)
        obtain ⟨n_r_6, h⟩ := h
        refine lv_istore (lv' := [(5, .int r_6), (0, .ref (ad 58)), (1, .ref (ad x1)), (2, .ref (ad x2)), (3, .int x3), (4, .int x4)]) hx hb dX0_readInto_30 hl (by decide) rfl (fun ls hl => ?_)
        refine lv_iload hx hb dX0_readInto_32 (lv_at hl 0 rfl) ?_
        refine lv_if_ne (tgt := 39) hx hb dX0_readInto_34 (by decide) (fun c_7 => ?_) (fun c_7 => ?_)
        · have h := h.2 c_7
          refine lv_aload_n hx hb dX0_readInto_39 rfl (lv_at hl 3 rfl) ?_
          refine lv_iload hx hb dX0_readInto_40 (lv_at hl 0 rfl) ?_
          refine w_callv (rest := []) (va_runV (As := [.int r_6]) (rest := []) C0 (mX2_append l D ad ci A σ x2 r_6 _ hR rx2 h) (cwV 1 hts gX0_readInto_X2_append rfl rfl rfl ddX2_append ⟨Nat.le_of_ble_eq_true rfl, Nat.le_of_ble_eq_true rfl⟩) (w_preV (o := x2) (ci := 2) (ob := obC ad ci) (σ := σ) hK hY (rowB_lt rx2) (obC_row rx2) rfl rfl) rfl rfl hl.1 rfl (lv_room (Nat.le_of_ble_eq_true rfl)) dX0_readInto_42 ⟨Nat.zero_le _, Nat.zero_le _⟩) hY (fun σ_9 H locs h hY hR_σ_9 => ?_)
          refine lv_iload_n hx hb dX0_readInto_45 rfl (lv_at hl 4 rfl) ?_
          refine lv_aload_n hx hb dX0_readInto_46 rfl (lv_at hl 1 rfl) ?_
          refine lv_iload hx hb dX0_readInto_47 (lv_at hl 0 rfl) ?_
          refine w_callrp (rest := [.int x3]) (va_runV (As := [.int r_6]) (rest := [.int x3]) C0 (mX0_codeOf l D ad ci A σ_9 r_6 _ hR_σ_9  h) (cwV 1 hts gX0_readInto_X0_codeOf rfl rfl rfl ddX0_codeOf ⟨Nat.le_of_ble_eq_true rfl, Nat.le_of_ble_eq_true rfl⟩) (w_preV (o := 58) (ci := 0) (ob := obC ad ci) (σ := σ_9) hK hY (by decide) obC_book rfl rfl) rfl rfl hl.1 rfl (lv_room (Nat.le_of_ble_eq_true rfl)) dX0_readInto_49 ⟨Nat.zero_le _, Nat.zero_le _⟩) hY (fun r_10 H locs h hY => ?_)
          obtain ⟨rr_10, h⟩ := h
          refine w_callip (rest := [.int x3]) (va_runV (As := []) (rest := [.int x3]) C0 (mX2_size l D ad ci A σ_9 r_10 _ hR_σ_9 rr_10 h) (cwV 0 hts gX0_readInto_X2_size rfl rfl rfl ddX2_size ⟨Nat.le_of_ble_eq_true rfl, Nat.le_of_ble_eq_true rfl⟩) (w_preV (o := r_10) (ci := 2) (ob := obC ad ci) (σ := σ_9) hK hY (rowB_lt rr_10) (obC_row rr_10) rfl rfl) rfl rfl hl.1 rfl (lv_room (Nat.le_of_ble_eq_true rfl)) dX0_readInto_52 ⟨Nat.zero_le _, Nat.zero_le _⟩) hY (fun r_11 H locs h hY => ?_)
          refine lv_iadd hx hb dX0_readInto_55 ?_
          refine lv_istore_n (lv' := [(3, .int (x3 + r_11)), (5, .int r_6), (0, .ref (ad 58)), (1, .ref (ad x1)), (2, .ref (ad x2)), (4, .int x4)]) hx hb dX0_readInto_56 rfl hl (by decide) rfl (fun ls hl => ?_)
          refine lv_iinc (v := (x4 + 1)) (lv' := [(4, .int (x4 + 1)), (3, .int (x3 + r_11)), (5, .int r_6), (0, .ref (ad 58)), (1, .ref (ad x1)), (2, .ref (ad x2))]) hx hb dX0_readInto_57 hl (k := 5) rfl rfl (by decide) rfl (fun ls hl => ?_)
          refine lv_goto (tgt := 9) hx hb dX0_readInto_60 (by decide) ?_
          exact ih σ_9 (x3 + r_11) (x4 + 1) h _ _ hY hR_σ_9  _ (lv_sub hl [3, 4, 5, 1, 0] rfl)
        · have h := h.1 c_7
          refine lv_iconst (v := (0 : Int32)) hx hb dX0_readInto_37 (by decide) ?_
          exact hret (0 : Int32) σ _ _ _ _ rfl h hY hR dX0_readInto_38
set_option maxHeartbeats 4000000 in
set_option maxRecDepth 100000 in
theorem eX0_readInto (C0 : CallFix p m c cX0_readInto 6 s args wsX0_readInto RX0) (hK : Kx D (tyC ci) s) (K : Int32 → St → Prop) (σ : St) (hret : ∀ (r : Int32) (u : St) (H : Heap) (locs : List Loc) (pc : Nat) (ls : Array Slot), narrow .boolean (.int r) = .int r → K r u → Sy D 132 ad A H0 (obC ad ci u) H locs → Rok u → decode cX0_readInto pc = .ok (.ireturn, 1) → W p l e rmX0_readInto s m args below meth c H locs 0 0 Q (F0 m pc ls [.int r])) (x1 : Nat) (x2 : Nat) (rx1 : rowB x1 = true) (rx2 : rowB x2 = true) (h : wX0_readInto σ x1 x2 K) (H : Heap) (locs : List Loc) (hY : Sy D 132 ad A H0 (obC ad ci σ) H locs) (hR : Rok σ) (ls : Array Slot) (hl : lv_has ls 6 [(0, .ref (ad 58)), (1, .ref (ad x1)), (2, .ref (ad x2))]) : W p l e rmX0_readInto s m args below meth c H locs 0 0 Q (F0 m 0 ls []) := by
  obtain ⟨hx, hb, hml, hown, hts⟩ := id C0
  refine lv_aload_n hx hb dX0_readInto_0 rfl (lv_at hl 2 rfl) ?_
  refine w_callv (rest := []) (va_runV (As := []) (rest := []) C0 (mX2_clear l D ad ci A σ x2 _ hR rx2 h) (cwV 0 hts gX0_readInto_X2_clear rfl rfl rfl ddX2_clear ⟨Nat.le_of_ble_eq_true rfl, Nat.le_of_ble_eq_true rfl⟩) (w_preV (o := x2) (ci := 2) (ob := obC ad ci) (σ := σ) hK hY (rowB_lt rx2) (obC_row rx2) rfl rfl) rfl rfl hl.1 rfl (lv_room (Nat.le_of_ble_eq_true rfl)) dX0_readInto_1 ⟨Nat.zero_le _, Nat.zero_le _⟩) hY (fun σ_13 H locs h hY hR_σ_13 => ?_)
  refine lv_iconst (v := (0 : Int32)) hx hb dX0_readInto_4 (by decide) ?_
  refine lv_istore_n (lv' := [(3, .int (0 : Int32)), (0, .ref (ad 58)), (1, .ref (ad x1)), (2, .ref (ad x2))]) hx hb dX0_readInto_5 rfl hl (by decide) rfl (fun ls hl => ?_)
  refine lv_iconst (v := (0 : Int32)) hx hb dX0_readInto_6 (by decide) ?_
  refine lv_istore (lv' := [(4, .int (0 : Int32)), (3, .int (0 : Int32)), (0, .ref (ad 58)), (1, .ref (ad x1)), (2, .ref (ad x2))]) hx hb dX0_readInto_7 hl (by decide) rfl (fun ls hl => ?_)
  obtain ⟨n_14, h⟩ := h
  exact tX0_readInto_L9 C0 hK K x1 x2 hret rx1 rx2 n_14 σ_13 (0 : Int32) (0 : Int32) h _ _ hY hR_σ_13  _ (lv_sub hl [2, 3, 4, 1, 0] rfl)
set_option maxHeartbeats 4000000 in
set_option maxRecDepth 100000 in
theorem mX0_readInto (l : Launch) (D : va_G) (ad : Nat → Nat) (ci : Nat → ClassId) (A : Nat → Prop) (σ : St) (x1 : Nat) (x2 : Nat) (K : Int32 → St → Prop) (hR : Rok σ) (rx1 : rowB x1 = true) (rx2 : rowB x2 = true) (h : wX0_readInto σ x1 x2 K) : Met l yX0_readInto wsX0_readInto rmX0_readInto (va_Pc [.ref (ad 58), .ref (ad x1), .ref (ad x2)] (PreW D 132 ad A (tyC ci) (obC ad ci σ))) (va_Qi (fun r u => narrow .boolean (.int r) = .int r ∧ K r u) (PostW D 132 ad (tyC ci) (obC ad ci) Rok) A) 0 0 A := by
  refine Met.ofW (cc := cX0_readInto) (maxL := 6) (ret := (some .boolean)) (by decide) rfl ?_
  intro p e s m args below meth c s₁ B hml hv
  obtain ⟨rfl, hP, hK, hD⟩ := hv
  have C0 : CallFix p m c cX0_readInto 6 s _ wsX0_readInto RX0 := ⟨B.exec, B.bytes, hml, findClass_of_methodNamed B.named, atoms_spec (ws := wsX0_readInto) B.pre⟩
  have hlocks := B.notSynchronized
  have hY : Sy D 132 ad A s.heap (obC ad ci σ) s.heap [] := ⟨hP, hD, va_S.rf⟩
  have hl := lv_entry ([.ref (ad 58), .ref (ad x1), .ref (ad x2)]) (n := 6) (Nat.le_of_ble_eq_true rfl)
  rw [lg_entry_eq]
  generalize (lg_sl ([.ref (ad 58), .ref (ad x1), .ref (ad x2)]) ++ List.replicate (6 - (lg_sl ([.ref (ad 58), .ref (ad x1), .ref (ad x2)])).length) Slot.unset).toArray = ls at hl ⊢
  exact eX0_readInto C0 hK K σ (fun r u H locs pc ls hn hk hY hR hd => w_zret (I := Rok) B.exec B.bytes B.returns hn hlocks hK ⟨hn, hk⟩ (fun t ht => ht) hY hR hd) x1 x2 rx1 rx2 h _ _ hY hR ls hl
end
