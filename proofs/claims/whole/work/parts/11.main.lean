/-! the class itself, calls that do not throw: what each method does, as predicates over the state; the walks of their bytecode -/
def wX5_wipe (σ : St) (K : Int32 → St → Prop) : Prop := wX2_size σ 1 (fun r_1 => wX2_clear σ 1 (fun σ_3 => K r_1 σ_3))
def wX5_turn (σ : St) (K : Int32 → St → Prop) : Prop := wX2_reverse σ 1 (fun r_1 σ_2 => K r_1 σ_2)
def wX5_words (σ : St) (K : Int32 → Prop) : Prop := wX4_size σ (fun r_1 => K r_1)
def wX5_rank (σ : St) (K : Int32 → Prop) : Prop := wX4_countLess σ 1 (fun r_1 => K r_1)
def wX5_begun (σ : St) (K : Int32 → Prop) : Prop := wX4_countBegun σ 1 (fun r_1 => K r_1)
def wX5_sum (σ : St) (K : Int32 → Prop) : Prop := wX4_sumBegun σ 1 (fun r_1 => K r_1)
def wX5_gone (σ : St) (K : Int32 → St → Prop) : Prop := wX4_removeBegun σ 1 (fun r_1 σ_2 => K r_1 σ_2)
def wX5_shared (σ : St) (K : Int32 → Prop) : Prop := wX4_mostCommon σ 1 (fun r_1 => K r_1)
def wX5_pieces (σ : St) (K : Int32 → St → Prop) : Prop := wX1_look σ 1 (fun σ_2 => wX1_countLongest σ_2 (fun r_3 => K r_3 σ_2))
def wX5_cuts (σ : St) (K : Int64 → St → Prop) : Prop := wX1_look σ 1 (fun σ_2 => wX1_countWays σ_2 (0 : Int32) (fun r_3 σ_4 => K r_3 σ_4))
def wX5_fewest (σ : St) (K : Int32 → St → Prop) : Prop := wX1_look σ 1 (fun σ_2 => wX1_leastPieces σ_2 (fun r_3 σ_4 => K r_3 σ_4))
def wX5_isTrue (σ : St) (K : Int32 → St → Prop) : Prop := wX1_look σ 1 (fun σ_2 => wX3_beginningsHold σ_2 1 (fun r_3 σ_4 => ((r_3 = 0 → K (0 : Int32) σ_4) ∧ (¬ r_3 = 0 → wX3_longestHolds σ_4 1 (fun r_6 σ_7 => ((r_6 = 0 → K (0 : Int32) σ_7) ∧ (¬ r_6 = 0 → wX3_commonHolds σ_7 1 (fun r_9 => ((r_9 = 0 → K (0 : Int32) σ_7) ∧ (¬ r_9 = 0 → wX3_twinsHold σ_7 (fun r_11 => ((r_11 = 0 → K (0 : Int32) σ_7) ∧ (¬ r_11 = 0 → wX3_cutsHold σ_7 1 (fun r_13 σ_14 => ((r_13 = 0 → K (0 : Int32) σ_14) ∧ (¬ r_13 = 0 → wX3_fewestHolds σ_14 (fun r_16 σ_17 => ((r_16 = 0 → K (0 : Int32) σ_17) ∧ (¬ r_16 = 0 → wX3_codesHold σ_17 (fun r_19 σ_20 => ((r_19 = 0 → K (0 : Int32) σ_20) ∧ (¬ r_19 = 0 → K (1 : Int32) σ_20))))))))))))))))))))))
def wX5_checksum_L59 (K : Int64 → Prop) (σ : St) : Nat → Int64 → Int32 → Prop
  | 0, _, _ => False
  | n + 1, x1, x3 => (((6 : Int32) ≤ x3 → K x1) ∧ (¬ (6 : Int32) ≤ x3 → wX5_signOf σ x3 (fun r_2 => wX0_codeOf σ r_2 (fun r_3 => wX2_size σ r_3 (fun r_4 => wX2_addTo σ r_3 (((31 : Int64) * x1) + (r_4).toInt64) (fun r_5 => wX5_checksum_L59 K σ n r_5 (x3 + 1)))))))
def wX5_checksum_L13 (K : Int64 → Prop) (σ : St) : Nat → Int64 → Int32 → Prop
  | 0, _, _ => False
  | n + 1, x1, x3 => wX4_size σ (fun r_6 => ((r_6 ≤ x3 → (∃ n : Nat, wX5_checksum_L59 K σ n x1 (0 : Int32))) ∧ (¬ r_6 ≤ x3 → wX4_rowAt σ x3 (fun r_9 => wX2_addTo σ r_9 x1 (fun r_10 => wX4_numberAt σ x3 (fun r_11 => ∀ x1_12 : Int64, x1_12 = (((31 : Int64) * r_10) + (r_11).toInt64) → wX5_checksum_L13 K σ n x1_12 (x3 + 1)))))))
def wX5_checksum (σ : St) (K : Int64 → Prop) : Prop := wX2_addTo σ 1 (7 : Int64) (fun r_13 => (∃ n : Nat, wX5_checksum_L13 K σ n r_13 (0 : Int32)))
def wX5_rankNear (σ : St) (x1 : Int32) (K : Int32 → Prop) : Prop := ((x1 = (102 : Int32) → wX4_countNotGreater σ 1 (fun r_7 => K (r_7 - (1 : Int32)))) ∧ (¬ x1 = (102 : Int32) → ((x1 = (99 : Int32) → wX4_countLess σ 1 (fun r_6 => K r_6)) ∧ (¬ x1 = (99 : Int32) → ((x1 = (108 : Int32) → wX4_countLess σ 1 (fun r_5 => K (r_5 - (1 : Int32)))) ∧ (¬ x1 = (108 : Int32) → wX4_countNotGreater σ 1 (fun r_4 => K r_4)))))))
abbrev rmX5_wipe : Room := { frames := 1, cells := 0, slots := 0, locals := 20 }
theorem ddX5_wipe : yX5_wipe.cls = RX5 ∧ yX5_wipe.cls ≠ "java/lang/invoke/MethodHandle" ∧ yX5_wipe.cls ≠ "java/lang/invoke/VarHandle" ∧ (parseMethodDescriptor yX5_wipe.desc).map (fun d => d.parameters.length) = some 0 := by decide +kernel
set_option maxRecDepth 20000 in
theorem kX5_wipe_0 : Cond.fieldLink RX5 14 "Stemspan" "text" "LStemspan$Row;" ∈ wsX5_wipe := by decide +kernel
set_option maxRecDepth 20000 in
theorem kX5_wipe_inX5 : ∀ w ∈ wsX50, w ∈ wsX5_wipe := by decide +kernel
abbrev rmX5_turn : Room := { frames := 1, cells := 0, slots := 0, locals := 24 }
theorem ddX5_turn : yX5_turn.cls = RX5 ∧ yX5_turn.cls ≠ "java/lang/invoke/MethodHandle" ∧ yX5_turn.cls ≠ "java/lang/invoke/VarHandle" ∧ (parseMethodDescriptor yX5_turn.desc).map (fun d => d.parameters.length) = some 0 := by decide +kernel
set_option maxRecDepth 20000 in
theorem kX5_turn_0 : Cond.fieldLink RX5 14 "Stemspan" "text" "LStemspan$Row;" ∈ wsX5_turn := by decide +kernel
set_option maxRecDepth 20000 in
theorem kX5_turn_inX5 : ∀ w ∈ wsX50, w ∈ wsX5_turn := by decide +kernel
abbrev rmX5_words : Room := { frames := 1, cells := 0, slots := 0, locals := 20 }
theorem ddX5_words : yX5_words.cls = RX5 ∧ yX5_words.cls ≠ "java/lang/invoke/MethodHandle" ∧ yX5_words.cls ≠ "java/lang/invoke/VarHandle" ∧ (parseMethodDescriptor yX5_words.desc).map (fun d => d.parameters.length) = some 0 := by decide +kernel
set_option maxRecDepth 20000 in
theorem kX5_words_0 : Cond.fieldLink RX5 24 "Stemspan" "list" "LStemspan$WordList;" ∈ wsX5_words := by decide +kernel
set_option maxRecDepth 20000 in
theorem kX5_words_inX5 : ∀ w ∈ wsX50, w ∈ wsX5_words := by decide +kernel
abbrev rmX5_rank : Room := { frames := 3, cells := 0, slots := 0, locals := 66 }
theorem ddX5_rank : yX5_rank.cls = RX5 ∧ yX5_rank.cls ≠ "java/lang/invoke/MethodHandle" ∧ yX5_rank.cls ≠ "java/lang/invoke/VarHandle" ∧ (parseMethodDescriptor yX5_rank.desc).map (fun d => d.parameters.length) = some 0 := by decide +kernel
set_option maxRecDepth 20000 in
theorem kX5_rank_0 : Cond.fieldLink RX5 24 "Stemspan" "list" "LStemspan$WordList;" ∈ wsX5_rank := by decide +kernel
set_option maxRecDepth 20000 in
theorem kX5_rank_inX5 : ∀ w ∈ wsX50, w ∈ wsX5_rank := by decide +kernel
set_option maxRecDepth 20000 in
theorem kX5_rank_2 : Cond.fieldLink RX5 14 "Stemspan" "text" "LStemspan$Row;" ∈ wsX5_rank := by decide +kernel
abbrev rmX5_begun : Room := { frames := 3, cells := 0, slots := 0, locals := 67 }
theorem ddX5_begun : yX5_begun.cls = RX5 ∧ yX5_begun.cls ≠ "java/lang/invoke/MethodHandle" ∧ yX5_begun.cls ≠ "java/lang/invoke/VarHandle" ∧ (parseMethodDescriptor yX5_begun.desc).map (fun d => d.parameters.length) = some 0 := by decide +kernel
set_option maxRecDepth 20000 in
theorem kX5_begun_0 : Cond.fieldLink RX5 24 "Stemspan" "list" "LStemspan$WordList;" ∈ wsX5_begun := by decide +kernel
set_option maxRecDepth 20000 in
theorem kX5_begun_inX5 : ∀ w ∈ wsX50, w ∈ wsX5_begun := by decide +kernel
set_option maxRecDepth 20000 in
theorem kX5_begun_2 : Cond.fieldLink RX5 14 "Stemspan" "text" "LStemspan$Row;" ∈ wsX5_begun := by decide +kernel
abbrev rmX5_sum : Room := { frames := 3, cells := 0, slots := 0, locals := 67 }
theorem ddX5_sum : yX5_sum.cls = RX5 ∧ yX5_sum.cls ≠ "java/lang/invoke/MethodHandle" ∧ yX5_sum.cls ≠ "java/lang/invoke/VarHandle" ∧ (parseMethodDescriptor yX5_sum.desc).map (fun d => d.parameters.length) = some 0 := by decide +kernel
set_option maxRecDepth 20000 in
theorem kX5_sum_0 : Cond.fieldLink RX5 24 "Stemspan" "list" "LStemspan$WordList;" ∈ wsX5_sum := by decide +kernel
set_option maxRecDepth 20000 in
theorem kX5_sum_inX5 : ∀ w ∈ wsX50, w ∈ wsX5_sum := by decide +kernel
set_option maxRecDepth 20000 in
theorem kX5_sum_2 : Cond.fieldLink RX5 14 "Stemspan" "text" "LStemspan$Row;" ∈ wsX5_sum := by decide +kernel
abbrev rmX5_gone : Room := { frames := 3, cells := 0, slots := 0, locals := 67 }
theorem ddX5_gone : yX5_gone.cls = RX5 ∧ yX5_gone.cls ≠ "java/lang/invoke/MethodHandle" ∧ yX5_gone.cls ≠ "java/lang/invoke/VarHandle" ∧ (parseMethodDescriptor yX5_gone.desc).map (fun d => d.parameters.length) = some 0 := by decide +kernel
set_option maxRecDepth 20000 in
theorem kX5_gone_0 : Cond.fieldLink RX5 24 "Stemspan" "list" "LStemspan$WordList;" ∈ wsX5_gone := by decide +kernel
set_option maxRecDepth 20000 in
theorem kX5_gone_inX5 : ∀ w ∈ wsX50, w ∈ wsX5_gone := by decide +kernel
set_option maxRecDepth 20000 in
theorem kX5_gone_2 : Cond.fieldLink RX5 14 "Stemspan" "text" "LStemspan$Row;" ∈ wsX5_gone := by decide +kernel
abbrev rmX5_shared : Room := { frames := 2, cells := 0, slots := 0, locals := 45 }
theorem ddX5_shared : yX5_shared.cls = RX5 ∧ yX5_shared.cls ≠ "java/lang/invoke/MethodHandle" ∧ yX5_shared.cls ≠ "java/lang/invoke/VarHandle" ∧ (parseMethodDescriptor yX5_shared.desc).map (fun d => d.parameters.length) = some 0 := by decide +kernel
set_option maxRecDepth 20000 in
theorem kX5_shared_0 : Cond.fieldLink RX5 24 "Stemspan" "list" "LStemspan$WordList;" ∈ wsX5_shared := by decide +kernel
set_option maxRecDepth 20000 in
theorem kX5_shared_inX5 : ∀ w ∈ wsX50, w ∈ wsX5_shared := by decide +kernel
set_option maxRecDepth 20000 in
theorem kX5_shared_2 : Cond.fieldLink RX5 14 "Stemspan" "text" "LStemspan$Row;" ∈ wsX5_shared := by decide +kernel
abbrev rmX5_pieces : Room := { frames := 3, cells := 0, slots := 0, locals := 66 }
theorem ddX5_pieces : yX5_pieces.cls = RX5 ∧ yX5_pieces.cls ≠ "java/lang/invoke/MethodHandle" ∧ yX5_pieces.cls ≠ "java/lang/invoke/VarHandle" ∧ (parseMethodDescriptor yX5_pieces.desc).map (fun d => d.parameters.length) = some 0 := by decide +kernel
set_option maxRecDepth 20000 in
theorem kX5_pieces_0 : Cond.fieldLink RX5 38 "Stemspan" "cutter" "LStemspan$Cutter;" ∈ wsX5_pieces := by decide +kernel
set_option maxRecDepth 20000 in
theorem kX5_pieces_inX5 : ∀ w ∈ wsX50, w ∈ wsX5_pieces := by decide +kernel
set_option maxRecDepth 20000 in
theorem kX5_pieces_2 : Cond.fieldLink RX5 14 "Stemspan" "text" "LStemspan$Row;" ∈ wsX5_pieces := by decide +kernel
set_option maxRecDepth 20000 in
theorem kX5_pieces_3 : Cond.fieldLink RX5 24 "Stemspan" "list" "LStemspan$WordList;" ∈ wsX5_pieces := by decide +kernel
abbrev rmX5_cuts : Room := { frames := 2, cells := 0, slots := 0, locals := 47 }
theorem ddX5_cuts : yX5_cuts.cls = RX5 ∧ yX5_cuts.cls ≠ "java/lang/invoke/MethodHandle" ∧ yX5_cuts.cls ≠ "java/lang/invoke/VarHandle" ∧ (parseMethodDescriptor yX5_cuts.desc).map (fun d => d.parameters.length) = some 0 := by decide +kernel
set_option maxRecDepth 20000 in
theorem kX5_cuts_0 : Cond.fieldLink RX5 38 "Stemspan" "cutter" "LStemspan$Cutter;" ∈ wsX5_cuts := by decide +kernel
set_option maxRecDepth 20000 in
theorem kX5_cuts_inX5 : ∀ w ∈ wsX50, w ∈ wsX5_cuts := by decide +kernel
set_option maxRecDepth 20000 in
theorem kX5_cuts_2 : Cond.fieldLink RX5 14 "Stemspan" "text" "LStemspan$Row;" ∈ wsX5_cuts := by decide +kernel
set_option maxRecDepth 20000 in
theorem kX5_cuts_3 : Cond.fieldLink RX5 24 "Stemspan" "list" "LStemspan$WordList;" ∈ wsX5_cuts := by decide +kernel
abbrev rmX5_fewest : Room := { frames := 3, cells := 0, slots := 0, locals := 64 }
theorem ddX5_fewest : yX5_fewest.cls = RX5 ∧ yX5_fewest.cls ≠ "java/lang/invoke/MethodHandle" ∧ yX5_fewest.cls ≠ "java/lang/invoke/VarHandle" ∧ (parseMethodDescriptor yX5_fewest.desc).map (fun d => d.parameters.length) = some 0 := by decide +kernel
set_option maxRecDepth 20000 in
theorem kX5_fewest_0 : Cond.fieldLink RX5 38 "Stemspan" "cutter" "LStemspan$Cutter;" ∈ wsX5_fewest := by decide +kernel
set_option maxRecDepth 20000 in
theorem kX5_fewest_inX5 : ∀ w ∈ wsX50, w ∈ wsX5_fewest := by decide +kernel
set_option maxRecDepth 20000 in
theorem kX5_fewest_2 : Cond.fieldLink RX5 14 "Stemspan" "text" "LStemspan$Row;" ∈ wsX5_fewest := by decide +kernel
set_option maxRecDepth 20000 in
theorem kX5_fewest_3 : Cond.fieldLink RX5 24 "Stemspan" "list" "LStemspan$WordList;" ∈ wsX5_fewest := by decide +kernel
abbrev rmX5_isTrue : Room := { frames := 6, cells := 0, slots := 0, locals := 135 }
theorem ddX5_isTrue : yX5_isTrue.cls = RX5 ∧ yX5_isTrue.cls ≠ "java/lang/invoke/MethodHandle" ∧ yX5_isTrue.cls ≠ "java/lang/invoke/VarHandle" ∧ (parseMethodDescriptor yX5_isTrue.desc).map (fun d => d.parameters.length) = some 0 := by decide +kernel
set_option maxRecDepth 20000 in
theorem kX5_isTrue_0 : Cond.fieldLink RX5 38 "Stemspan" "cutter" "LStemspan$Cutter;" ∈ wsX5_isTrue := by decide +kernel
set_option maxRecDepth 20000 in
theorem kX5_isTrue_inX5 : ∀ w ∈ wsX50, w ∈ wsX5_isTrue := by decide +kernel
set_option maxRecDepth 20000 in
theorem kX5_isTrue_2 : Cond.fieldLink RX5 14 "Stemspan" "text" "LStemspan$Row;" ∈ wsX5_isTrue := by decide +kernel
set_option maxRecDepth 20000 in
theorem kX5_isTrue_3 : Cond.fieldLink RX5 24 "Stemspan" "list" "LStemspan$WordList;" ∈ wsX5_isTrue := by decide +kernel
set_option maxRecDepth 20000 in
theorem kX5_isTrue_4 : Cond.fieldLink RX5 45 "Stemspan" "theorem" "LStemspan$Theorem;" ∈ wsX5_isTrue := by decide +kernel
set_option maxRecDepth 20000 in
theorem kX5_isTrue_5 : Cond.fieldLink RX5 31 "Stemspan" "book" "LStemspan$CodeBook;" ∈ wsX5_isTrue := by decide +kernel
abbrev rmX5_checksum : Room := { frames := 2, cells := 0, slots := 0, locals := 41 }
theorem ddX5_checksum : yX5_checksum.cls = RX5 ∧ yX5_checksum.cls ≠ "java/lang/invoke/MethodHandle" ∧ yX5_checksum.cls ≠ "java/lang/invoke/VarHandle" ∧ (parseMethodDescriptor yX5_checksum.desc).map (fun d => d.parameters.length) = some 0 := by decide +kernel
set_option maxRecDepth 20000 in
theorem kX5_checksum_0 : Cond.fieldLink RX5 31 "Stemspan" "book" "LStemspan$CodeBook;" ∈ wsX5_checksum := by decide +kernel
set_option maxRecDepth 20000 in
theorem kX5_checksum_inX5 : ∀ w ∈ wsX50, w ∈ wsX5_checksum := by decide +kernel
set_option maxRecDepth 20000 in
theorem kX5_checksum_2 : Cond.constantLong RX5 274 (31) ∈ wsX5_checksum := by decide +kernel
set_option maxRecDepth 20000 in
theorem kX5_checksum_3 : Cond.fieldLink RX5 24 "Stemspan" "list" "LStemspan$WordList;" ∈ wsX5_checksum := by decide +kernel
set_option maxRecDepth 20000 in
theorem kX5_checksum_4 : Cond.fieldLink RX5 14 "Stemspan" "text" "LStemspan$Row;" ∈ wsX5_checksum := by decide +kernel
set_option maxRecDepth 20000 in
theorem kX5_checksum_5 : Cond.constantLong RX5 268 (7) ∈ wsX5_checksum := by decide +kernel
abbrev rmX5_rankNear : Room := { frames := 3, cells := 0, slots := 0, locals := 66 }
theorem ddX5_rankNear : yX5_rankNear.cls = RX5 ∧ yX5_rankNear.cls ≠ "java/lang/invoke/MethodHandle" ∧ yX5_rankNear.cls ≠ "java/lang/invoke/VarHandle" ∧ (parseMethodDescriptor yX5_rankNear.desc).map (fun d => d.parameters.length) = some 1 := by decide +kernel
set_option maxRecDepth 20000 in
theorem kX5_rankNear_0 : Cond.fieldLink RX5 24 "Stemspan" "list" "LStemspan$WordList;" ∈ wsX5_rankNear := by decide +kernel
set_option maxRecDepth 20000 in
theorem kX5_rankNear_inX5 : ∀ w ∈ wsX50, w ∈ wsX5_rankNear := by decide +kernel
set_option maxRecDepth 20000 in
theorem kX5_rankNear_2 : Cond.fieldLink RX5 14 "Stemspan" "text" "LStemspan$Row;" ∈ wsX5_rankNear := by decide +kernel
section
variable {p : Program} {l : Launch} {e : Env} {s : State} {m : MethodId} {args : Array Value} {below : List Frame} {meth : Method} {c : Code} {Q : State → Prop} {D : va_G} {ad : Nat → Nat} {ci : Nat → ClassId} {A : Nat → Prop} {H0 : Heap}
set_option maxHeartbeats 4000000 in
set_option maxRecDepth 100000 in
theorem eX5_wipe (C0 : CallFix p m c cX5_wipe 2 s args wsX5_wipe RX5) (hK : Kx D (tyC ci) s) (K : Int32 → St → Prop) (σ : St) (hret : ∀ (r : Int32) (u : St) (H : Heap) (locs : List Loc) (pc : Nat) (ls : Array Slot), K r u → Sy D 132 ad A H0 (obC ad ci u) H locs → Rok u → decode cX5_wipe pc = .ok (.ireturn, 1) → W p l e rmX5_wipe s m args below meth c H locs 0 0 Q (F0 m pc ls [.int r])) (h : wX5_wipe σ K) (H : Heap) (locs : List Loc) (hY : Sy D 132 ad A H0 (obC ad ci σ) H locs) (hR : Rok σ) (ls : Array Slot) (hl : lv_has ls 2 [(0, .ref (ad 0))]) : W p l e rmX5_wipe s m args below meth c H locs 0 0 Q (F0 m 0 ls []) := by
  obtain ⟨hx, hb, hml, hown, hts⟩ := id C0
  refine lv_aload_n hx hb dX5_wipe_0 rfl (lv_at hl 0 rfl) ?_
  refine w_get (o := 0) (ci := 5) (C := RX5) (T := TX5) (N1 := 6) (v := .ref (ad 1)) hx hb hts kX5_wipe_inX5 hown hK.1 hY (by decide) obC_main rfl 0 (by decide) (hts _ kX5_wipe_0) rfl rfl dX5_wipe_1 ?_
  refine w_callip (rest := []) (va_runV (As := []) (rest := []) C0 (mX2_size l D ad ci A σ 1 _ hR (by decide) h) (cwV 0 hts gX5_wipe_X2_size rfl rfl rfl ddX2_size ⟨Nat.le_of_ble_eq_true rfl, Nat.le_of_ble_eq_true rfl⟩) (w_preV (o := 1) (ci := 2) (ob := obC ad ci) (σ := σ) hK hY (rowB_lt (by decide)) (obC_row (by decide)) rfl rfl) rfl rfl hl.1 rfl (lv_room (Nat.le_of_ble_eq_true rfl)) dX5_wipe_4 ⟨Nat.zero_le _, Nat.zero_le _⟩) hY (fun r_1 H locs h hY => ?_)
  refine lv_istore_n (lv' := [(1, .int r_1), (0, .ref (ad 0))]) hx hb dX5_wipe_7 rfl hl (by decide) rfl (fun ls hl => ?_)
  refine lv_aload_n hx hb dX5_wipe_8 rfl (lv_at hl 1 rfl) ?_
  refine w_get (o := 0) (ci := 5) (C := RX5) (T := TX5) (N1 := 6) (v := .ref (ad 1)) hx hb hts kX5_wipe_inX5 hown hK.1 hY (by decide) obC_main rfl 0 (by decide) (hts _ kX5_wipe_0) rfl rfl dX5_wipe_9 ?_
  refine w_callv (rest := []) (va_runV (As := []) (rest := []) C0 (mX2_clear l D ad ci A σ 1 _ hR (by decide) h) (cwV 0 hts gX5_wipe_X2_clear rfl rfl rfl ddX2_clear ⟨Nat.le_of_ble_eq_true rfl, Nat.le_of_ble_eq_true rfl⟩) (w_preV (o := 1) (ci := 2) (ob := obC ad ci) (σ := σ) hK hY (rowB_lt (by decide)) (obC_row (by decide)) rfl rfl) rfl rfl hl.1 rfl (lv_room (Nat.le_of_ble_eq_true rfl)) dX5_wipe_12 ⟨Nat.zero_le _, Nat.zero_le _⟩) hY (fun σ_3 H locs h hY hR_σ_3 => ?_)
  refine lv_iload_n hx hb dX5_wipe_15 rfl (lv_at hl 0 rfl) ?_
  exact hret r_1 σ_3 _ _ _ _ h hY hR_σ_3 dX5_wipe_16
set_option maxHeartbeats 4000000 in
set_option maxRecDepth 100000 in
theorem mX5_wipe (l : Launch) (D : va_G) (ad : Nat → Nat) (ci : Nat → ClassId) (A : Nat → Prop) (σ : St) (K : Int32 → St → Prop) (hR : Rok σ) (h : wX5_wipe σ K) : Met l yX5_wipe wsX5_wipe rmX5_wipe (va_Pc [.ref (ad 0)] (PreW D 132 ad A (tyC ci) (obC ad ci σ))) (va_Qi (fun r u => K r u) (PostW D 132 ad (tyC ci) (obC ad ci) Rok) A) 0 0 A := by
  refine Met.ofW (cc := cX5_wipe) (maxL := 2) (ret := (some .int)) (by decide) rfl ?_
  intro p e s m args below meth c s₁ B hml hv
  obtain ⟨rfl, hP, hK, hD⟩ := hv
  have C0 : CallFix p m c cX5_wipe 2 s _ wsX5_wipe RX5 := ⟨B.exec, B.bytes, hml, findClass_of_methodNamed B.named, atoms_spec (ws := wsX5_wipe) B.pre⟩
  have hlocks := B.notSynchronized
  have hY : Sy D 132 ad A s.heap (obC ad ci σ) s.heap [] := ⟨hP, hD, va_S.rf⟩
  have hl := lv_entry ([.ref (ad 0)]) (n := 2) (Nat.le_of_ble_eq_true rfl)
  rw [lg_entry_eq]
  generalize (lg_sl ([.ref (ad 0)]) ++ List.replicate (2 - (lg_sl ([.ref (ad 0)])).length) Slot.unset).toArray = ls at hl ⊢
  exact eX5_wipe C0 hK K σ (fun r u H locs pc ls hk hY hR hd => w_iret (I := Rok) B.exec B.bytes B.returns hlocks hK hk (fun t ht => ht) hY hR hd) h _ _ hY hR ls hl
set_option maxHeartbeats 4000000 in
set_option maxRecDepth 100000 in
theorem eX5_turn (C0 : CallFix p m c cX5_turn 1 s args wsX5_turn RX5) (hK : Kx D (tyC ci) s) (K : Int32 → St → Prop) (σ : St) (hret : ∀ (r : Int32) (u : St) (H : Heap) (locs : List Loc) (pc : Nat) (ls : Array Slot), narrow .boolean (.int r) = .int r → K r u → Sy D 132 ad A H0 (obC ad ci u) H locs → Rok u → decode cX5_turn pc = .ok (.ireturn, 1) → W p l e rmX5_turn s m args below meth c H locs 0 0 Q (F0 m pc ls [.int r])) (h : wX5_turn σ K) (H : Heap) (locs : List Loc) (hY : Sy D 132 ad A H0 (obC ad ci σ) H locs) (hR : Rok σ) (ls : Array Slot) (hl : lv_has ls 1 [(0, .ref (ad 0))]) : W p l e rmX5_turn s m args below meth c H locs 0 0 Q (F0 m 0 ls []) := by
  obtain ⟨hx, hb, hml, hown, hts⟩ := id C0
  refine lv_aload_n hx hb dX5_turn_0 rfl (lv_at hl 0 rfl) ?_
  refine w_get (o := 0) (ci := 5) (C := RX5) (T := TX5) (N1 := 6) (v := .ref (ad 1)) hx hb hts kX5_turn_inX5 hown hK.1 hY (by decide) obC_main rfl 0 (by decide) (hts _ kX5_turn_0) rfl rfl dX5_turn_1 ?_
  refine w_calli (rest := []) (va_runV (As := []) (rest := []) C0 (mX2_reverse l D ad ci A σ 1 _ hR (by decide) h) (cwV 0 hts gX5_turn_X2_reverse rfl rfl rfl ddX2_reverse ⟨Nat.le_of_ble_eq_true rfl, Nat.le_of_ble_eq_true rfl⟩) (w_preV (o := 1) (ci := 2) (ob := obC ad ci) (σ := σ) hK hY (rowB_lt (by decide)) (obC_row (by decide)) rfl rfl) rfl rfl hl.1 rfl (lv_room (Nat.le_of_ble_eq_true rfl)) dX5_turn_4 ⟨Nat.zero_le _, Nat.zero_le _⟩) hY (fun r_1 σ_2 H locs h hY hR_σ_2 => ?_)
  obtain ⟨n_r_1, h⟩ := h
  exact hret r_1 σ_2 _ _ _ _ n_r_1 h hY hR_σ_2 dX5_turn_7
set_option maxHeartbeats 4000000 in
set_option maxRecDepth 100000 in
theorem mX5_turn (l : Launch) (D : va_G) (ad : Nat → Nat) (ci : Nat → ClassId) (A : Nat → Prop) (σ : St) (K : Int32 → St → Prop) (hR : Rok σ) (h : wX5_turn σ K) : Met l yX5_turn wsX5_turn rmX5_turn (va_Pc [.ref (ad 0)] (PreW D 132 ad A (tyC ci) (obC ad ci σ))) (va_Qi (fun r u => narrow .boolean (.int r) = .int r ∧ K r u) (PostW D 132 ad (tyC ci) (obC ad ci) Rok) A) 0 0 A := by
  refine Met.ofW (cc := cX5_turn) (maxL := 1) (ret := (some .boolean)) (by decide) rfl ?_
  intro p e s m args below meth c s₁ B hml hv
  obtain ⟨rfl, hP, hK, hD⟩ := hv
  have C0 : CallFix p m c cX5_turn 1 s _ wsX5_turn RX5 := ⟨B.exec, B.bytes, hml, findClass_of_methodNamed B.named, atoms_spec (ws := wsX5_turn) B.pre⟩
  have hlocks := B.notSynchronized
  have hY : Sy D 132 ad A s.heap (obC ad ci σ) s.heap [] := ⟨hP, hD, va_S.rf⟩
  have hl := lv_entry ([.ref (ad 0)]) (n := 1) (Nat.le_of_ble_eq_true rfl)
  rw [lg_entry_eq]
  generalize (lg_sl ([.ref (ad 0)]) ++ List.replicate (1 - (lg_sl ([.ref (ad 0)])).length) Slot.unset).toArray = ls at hl ⊢
  exact eX5_turn C0 hK K σ (fun r u H locs pc ls hn hk hY hR hd => w_zret (I := Rok) B.exec B.bytes B.returns hn hlocks hK ⟨hn, hk⟩ (fun t ht => ht) hY hR hd) h _ _ hY hR ls hl
set_option maxHeartbeats 4000000 in
set_option maxRecDepth 100000 in
theorem eX5_words (C0 : CallFix p m c cX5_words 1 s args wsX5_words RX5) (hK : Kx D (tyC ci) s) (K : Int32 → Prop) (σ : St) (hret : ∀ (r : Int32) (H : Heap) (locs : List Loc) (pc : Nat) (ls : Array Slot), K r → Sy D 132 ad A H0 (obC ad ci σ) H locs → decode cX5_words pc = .ok (.ireturn, 1) → W p l e rmX5_words s m args below meth c H locs 0 0 Q (F0 m pc ls [.int r])) (h : wX5_words σ K) (H : Heap) (locs : List Loc) (hY : Sy D 132 ad A H0 (obC ad ci σ) H locs) (hR : Rok σ) (ls : Array Slot) (hl : lv_has ls 1 [(0, .ref (ad 0))]) : W p l e rmX5_words s m args below meth c H locs 0 0 Q (F0 m 0 ls []) := by
  obtain ⟨hx, hb, hml, hown, hts⟩ := id C0
  refine lv_aload_n hx hb dX5_words_0 rfl (lv_at hl 0 rfl) ?_
  refine w_get (o := 0) (ci := 5) (C := RX5) (T := TX5) (N1 := 6) (v := .ref (ad 5)) hx hb hts kX5_words_inX5 hown hK.1 hY (by decide) obC_main rfl 2 (by decide) (hts _ kX5_words_0) rfl rfl dX5_words_1 ?_
  refine w_callip (rest := []) (va_runV (As := []) (rest := []) C0 (mX4_size l D ad ci A σ _ hR  h) (cwV 0 hts gX5_words_X4_size rfl rfl rfl ddX4_size ⟨Nat.le_of_ble_eq_true rfl, Nat.le_of_ble_eq_true rfl⟩) (w_preV (o := 5) (ci := 4) (ob := obC ad ci) (σ := σ) hK hY (by decide) obC_list rfl rfl) rfl rfl hl.1 rfl (lv_room (Nat.le_of_ble_eq_true rfl)) dX5_words_4 ⟨Nat.zero_le _, Nat.zero_le _⟩) hY (fun r_1 H locs h hY => ?_)
  exact hret r_1 _ _ _ _ h hY dX5_words_7
set_option maxHeartbeats 4000000 in
set_option maxRecDepth 100000 in
theorem mX5_words (l : Launch) (D : va_G) (ad : Nat → Nat) (ci : Nat → ClassId) (A : Nat → Prop) (σ : St) (K : Int32 → Prop) (hR : Rok σ) (h : wX5_words σ K) : Met l yX5_words wsX5_words rmX5_words (va_Pc [.ref (ad 0)] (PreW D 132 ad A (tyC ci) (obC ad ci σ))) (va_Qi (fun r (_ : Unit) => K r) (fun _ => (PostW D 132 ad (tyC ci) (obC ad ci) Rok σ)) A) 0 0 A := by
  refine Met.ofW (cc := cX5_words) (maxL := 1) (ret := (some .int)) (by decide) rfl ?_
  intro p e s m args below meth c s₁ B hml hv
  obtain ⟨rfl, hP, hK, hD⟩ := hv
  have C0 : CallFix p m c cX5_words 1 s _ wsX5_words RX5 := ⟨B.exec, B.bytes, hml, findClass_of_methodNamed B.named, atoms_spec (ws := wsX5_words) B.pre⟩
  have hlocks := B.notSynchronized
  have hY : Sy D 132 ad A s.heap (obC ad ci σ) s.heap [] := ⟨hP, hD, va_S.rf⟩
  have hl := lv_entry ([.ref (ad 0)]) (n := 1) (Nat.le_of_ble_eq_true rfl)
  rw [lg_entry_eq]
  generalize (lg_sl ([.ref (ad 0)]) ++ List.replicate (1 - (lg_sl ([.ref (ad 0)])).length) Slot.unset).toArray = ls at hl ⊢
  exact eX5_words C0 hK K σ (fun r H locs pc ls hk hY hd => w_iret (I := Rok) B.exec B.bytes B.returns hlocks (u := ()) hK hk (fun t ht => ht) hY hR hd) h _ _ hY hR ls hl
set_option maxHeartbeats 4000000 in
set_option maxRecDepth 100000 in
theorem eX5_rank (C0 : CallFix p m c cX5_rank 1 s args wsX5_rank RX5) (hK : Kx D (tyC ci) s) (K : Int32 → Prop) (σ : St) (hret : ∀ (r : Int32) (H : Heap) (locs : List Loc) (pc : Nat) (ls : Array Slot), K r → Sy D 132 ad A H0 (obC ad ci σ) H locs → decode cX5_rank pc = .ok (.ireturn, 1) → W p l e rmX5_rank s m args below meth c H locs 0 0 Q (F0 m pc ls [.int r])) (h : wX5_rank σ K) (H : Heap) (locs : List Loc) (hY : Sy D 132 ad A H0 (obC ad ci σ) H locs) (hR : Rok σ) (ls : Array Slot) (hl : lv_has ls 1 [(0, .ref (ad 0))]) : W p l e rmX5_rank s m args below meth c H locs 0 0 Q (F0 m 0 ls []) := by
  obtain ⟨hx, hb, hml, hown, hts⟩ := id C0
  refine lv_aload_n hx hb dX5_rank_0 rfl (lv_at hl 0 rfl) ?_
  refine w_get (o := 0) (ci := 5) (C := RX5) (T := TX5) (N1 := 6) (v := .ref (ad 5)) hx hb hts kX5_rank_inX5 hown hK.1 hY (by decide) obC_main rfl 2 (by decide) (hts _ kX5_rank_0) rfl rfl dX5_rank_1 ?_
  refine lv_aload_n hx hb dX5_rank_4 rfl (lv_at hl 0 rfl) ?_
  refine w_get (o := 0) (ci := 5) (C := RX5) (T := TX5) (N1 := 6) (v := .ref (ad 1)) hx hb hts kX5_rank_inX5 hown hK.1 hY (by decide) obC_main rfl 0 (by decide) (hts _ kX5_rank_2) rfl rfl dX5_rank_5 ?_
  refine w_callip (rest := []) (va_runV (As := [.ref (ad 1)]) (rest := []) C0 (mX4_countLess l D ad ci A σ 1 _ hR (by decide) h) (cwV 1 hts gX5_rank_X4_countLess rfl rfl rfl ddX4_countLess ⟨Nat.le_of_ble_eq_true rfl, Nat.le_of_ble_eq_true rfl⟩) (w_preV (o := 5) (ci := 4) (ob := obC ad ci) (σ := σ) hK hY (by decide) obC_list rfl rfl) rfl rfl hl.1 rfl (lv_room (Nat.le_of_ble_eq_true rfl)) dX5_rank_8 ⟨Nat.zero_le _, Nat.zero_le _⟩) hY (fun r_1 H locs h hY => ?_)
  exact hret r_1 _ _ _ _ h hY dX5_rank_11
set_option maxHeartbeats 4000000 in
set_option maxRecDepth 100000 in
theorem mX5_rank (l : Launch) (D : va_G) (ad : Nat → Nat) (ci : Nat → ClassId) (A : Nat → Prop) (σ : St) (K : Int32 → Prop) (hR : Rok σ) (h : wX5_rank σ K) : Met l yX5_rank wsX5_rank rmX5_rank (va_Pc [.ref (ad 0)] (PreW D 132 ad A (tyC ci) (obC ad ci σ))) (va_Qi (fun r (_ : Unit) => K r) (fun _ => (PostW D 132 ad (tyC ci) (obC ad ci) Rok σ)) A) 0 0 A := by
  refine Met.ofW (cc := cX5_rank) (maxL := 1) (ret := (some .int)) (by decide) rfl ?_
  intro p e s m args below meth c s₁ B hml hv
  obtain ⟨rfl, hP, hK, hD⟩ := hv
  have C0 : CallFix p m c cX5_rank 1 s _ wsX5_rank RX5 := ⟨B.exec, B.bytes, hml, findClass_of_methodNamed B.named, atoms_spec (ws := wsX5_rank) B.pre⟩
  have hlocks := B.notSynchronized
  have hY : Sy D 132 ad A s.heap (obC ad ci σ) s.heap [] := ⟨hP, hD, va_S.rf⟩
  have hl := lv_entry ([.ref (ad 0)]) (n := 1) (Nat.le_of_ble_eq_true rfl)
  rw [lg_entry_eq]
  generalize (lg_sl ([.ref (ad 0)]) ++ List.replicate (1 - (lg_sl ([.ref (ad 0)])).length) Slot.unset).toArray = ls at hl ⊢
  exact eX5_rank C0 hK K σ (fun r H locs pc ls hk hY hd => w_iret (I := Rok) B.exec B.bytes B.returns hlocks (u := ()) hK hk (fun t ht => ht) hY hR hd) h _ _ hY hR ls hl
set_option maxHeartbeats 4000000 in
set_option maxRecDepth 100000 in
theorem eX5_begun (C0 : CallFix p m c cX5_begun 1 s args wsX5_begun RX5) (hK : Kx D (tyC ci) s) (K : Int32 → Prop) (σ : St) (hret : ∀ (r : Int32) (H : Heap) (locs : List Loc) (pc : Nat) (ls : Array Slot), K r → Sy D 132 ad A H0 (obC ad ci σ) H locs → decode cX5_begun pc = .ok (.ireturn, 1) → W p l e rmX5_begun s m args below meth c H locs 0 0 Q (F0 m pc ls [.int r])) (h : wX5_begun σ K) (H : Heap) (locs : List Loc) (hY : Sy D 132 ad A H0 (obC ad ci σ) H locs) (hR : Rok σ) (ls : Array Slot) (hl : lv_has ls 1 [(0, .ref (ad 0))]) : W p l e rmX5_begun s m args below meth c H locs 0 0 Q (F0 m 0 ls []) := by
  obtain ⟨hx, hb, hml, hown, hts⟩ := id C0
  refine lv_aload_n hx hb dX5_begun_0 rfl (lv_at hl 0 rfl) ?_
  refine w_get (o := 0) (ci := 5) (C := RX5) (T := TX5) (N1 := 6) (v := .ref (ad 5)) hx hb hts kX5_begun_inX5 hown hK.1 hY (by decide) obC_main rfl 2 (by decide) (hts _ kX5_begun_0) rfl rfl dX5_begun_1 ?_
  refine lv_aload_n hx hb dX5_begun_4 rfl (lv_at hl 0 rfl) ?_
  refine w_get (o := 0) (ci := 5) (C := RX5) (T := TX5) (N1 := 6) (v := .ref (ad 1)) hx hb hts kX5_begun_inX5 hown hK.1 hY (by decide) obC_main rfl 0 (by decide) (hts _ kX5_begun_2) rfl rfl dX5_begun_5 ?_
  refine w_callip (rest := []) (va_runV (As := [.ref (ad 1)]) (rest := []) C0 (mX4_countBegun l D ad ci A σ 1 _ hR (by decide) h) (cwV 1 hts gX5_begun_X4_countBegun rfl rfl rfl ddX4_countBegun ⟨Nat.le_of_ble_eq_true rfl, Nat.le_of_ble_eq_true rfl⟩) (w_preV (o := 5) (ci := 4) (ob := obC ad ci) (σ := σ) hK hY (by decide) obC_list rfl rfl) rfl rfl hl.1 rfl (lv_room (Nat.le_of_ble_eq_true rfl)) dX5_begun_8 ⟨Nat.zero_le _, Nat.zero_le _⟩) hY (fun r_1 H locs h hY => ?_)
  exact hret r_1 _ _ _ _ h hY dX5_begun_11
set_option maxHeartbeats 4000000 in
set_option maxRecDepth 100000 in
theorem mX5_begun (l : Launch) (D : va_G) (ad : Nat → Nat) (ci : Nat → ClassId) (A : Nat → Prop) (σ : St) (K : Int32 → Prop) (hR : Rok σ) (h : wX5_begun σ K) : Met l yX5_begun wsX5_begun rmX5_begun (va_Pc [.ref (ad 0)] (PreW D 132 ad A (tyC ci) (obC ad ci σ))) (va_Qi (fun r (_ : Unit) => K r) (fun _ => (PostW D 132 ad (tyC ci) (obC ad ci) Rok σ)) A) 0 0 A := by
  refine Met.ofW (cc := cX5_begun) (maxL := 1) (ret := (some .int)) (by decide) rfl ?_
  intro p e s m args below meth c s₁ B hml hv
  obtain ⟨rfl, hP, hK, hD⟩ := hv
  have C0 : CallFix p m c cX5_begun 1 s _ wsX5_begun RX5 := ⟨B.exec, B.bytes, hml, findClass_of_methodNamed B.named, atoms_spec (ws := wsX5_begun) B.pre⟩
  have hlocks := B.notSynchronized
  have hY : Sy D 132 ad A s.heap (obC ad ci σ) s.heap [] := ⟨hP, hD, va_S.rf⟩
  have hl := lv_entry ([.ref (ad 0)]) (n := 1) (Nat.le_of_ble_eq_true rfl)
  rw [lg_entry_eq]
  generalize (lg_sl ([.ref (ad 0)]) ++ List.replicate (1 - (lg_sl ([.ref (ad 0)])).length) Slot.unset).toArray = ls at hl ⊢
  exact eX5_begun C0 hK K σ (fun r H locs pc ls hk hY hd => w_iret (I := Rok) B.exec B.bytes B.returns hlocks (u := ()) hK hk (fun t ht => ht) hY hR hd) h _ _ hY hR ls hl
set_option maxHeartbeats 4000000 in
set_option maxRecDepth 100000 in
theorem eX5_sum (C0 : CallFix p m c cX5_sum 1 s args wsX5_sum RX5) (hK : Kx D (tyC ci) s) (K : Int32 → Prop) (σ : St) (hret : ∀ (r : Int32) (H : Heap) (locs : List Loc) (pc : Nat) (ls : Array Slot), K r → Sy D 132 ad A H0 (obC ad ci σ) H locs → decode cX5_sum pc = .ok (.ireturn, 1) → W p l e rmX5_sum s m args below meth c H locs 0 0 Q (F0 m pc ls [.int r])) (h : wX5_sum σ K) (H : Heap) (locs : List Loc) (hY : Sy D 132 ad A H0 (obC ad ci σ) H locs) (hR : Rok σ) (ls : Array Slot) (hl : lv_has ls 1 [(0, .ref (ad 0))]) : W p l e rmX5_sum s m args below meth c H locs 0 0 Q (F0 m 0 ls []) := by
  obtain ⟨hx, hb, hml, hown, hts⟩ := id C0
  refine lv_aload_n hx hb dX5_sum_0 rfl (lv_at hl 0 rfl) ?_
  refine w_get (o := 0) (ci := 5) (C := RX5) (T := TX5) (N1 := 6) (v := .ref (ad 5)) hx hb hts kX5_sum_inX5 hown hK.1 hY (by decide) obC_main rfl 2 (by decide) (hts _ kX5_sum_0) rfl rfl dX5_sum_1 ?_
  refine lv_aload_n hx hb dX5_sum_4 rfl (lv_at hl 0 rfl) ?_
  refine w_get (o := 0) (ci := 5) (C := RX5) (T := TX5) (N1 := 6) (v := .ref (ad 1)) hx hb hts kX5_sum_inX5 hown hK.1 hY (by decide) obC_main rfl 0 (by decide) (hts _ kX5_sum_2) rfl rfl dX5_sum_5 ?_
  refine w_callip (rest := []) (va_runV (As := [.ref (ad 1)]) (rest := []) C0 (mX4_sumBegun l D ad ci A σ 1 _ hR (by decide) h) (cwV 1 hts gX5_sum_X4_sumBegun rfl rfl rfl ddX4_sumBegun ⟨Nat.le_of_ble_eq_true rfl, Nat.le_of_ble_eq_true rfl⟩) (w_preV (o := 5) (ci := 4) (ob := obC ad ci) (σ := σ) hK hY (by decide) obC_list rfl rfl) rfl rfl hl.1 rfl (lv_room (Nat.le_of_ble_eq_true rfl)) dX5_sum_8 ⟨Nat.zero_le _, Nat.zero_le _⟩) hY (fun r_1 H locs h hY => ?_)
  exact hret r_1 _ _ _ _ h hY dX5_sum_11
set_option maxHeartbeats 4000000 in
set_option maxRecDepth 100000 in
theorem mX5_sum (l : Launch) (D : va_G) (ad : Nat → Nat) (ci : Nat → ClassId) (A : Nat → Prop) (σ : St) (K : Int32 → Prop) (hR : Rok σ) (h : wX5_sum σ K) : Met l yX5_sum wsX5_sum rmX5_sum (va_Pc [.ref (ad 0)] (PreW D 132 ad A (tyC ci) (obC ad ci σ))) (va_Qi (fun r (_ : Unit) => K r) (fun _ => (PostW D 132 ad (tyC ci) (obC ad ci) Rok σ)) A) 0 0 A := by
  refine Met.ofW (cc := cX5_sum) (maxL := 1) (ret := (some .int)) (by decide) rfl ?_
  intro p e s m args below meth c s₁ B hml hv
  obtain ⟨rfl, hP, hK, hD⟩ := hv
  have C0 : CallFix p m c cX5_sum 1 s _ wsX5_sum RX5 := ⟨B.exec, B.bytes, hml, findClass_of_methodNamed B.named, atoms_spec (ws := wsX5_sum) B.pre⟩
  have hlocks := B.notSynchronized
  have hY : Sy D 132 ad A s.heap (obC ad ci σ) s.heap [] := ⟨hP, hD, va_S.rf⟩
  have hl := lv_entry ([.ref (ad 0)]) (n := 1) (Nat.le_of_ble_eq_true rfl)
  rw [lg_entry_eq]
  generalize (lg_sl ([.ref (ad 0)]) ++ List.replicate (1 - (lg_sl ([.ref (ad 0)])).length) Slot.unset).toArray = ls at hl ⊢
  exact eX5_sum C0 hK K σ (fun r H locs pc ls hk hY hd => w_iret (I := Rok) B.exec B.bytes B.returns hlocks (u := ()) hK hk (fun t ht => ht) hY hR hd) h _ _ hY hR ls hl
set_option maxHeartbeats 4000000 in
set_option maxRecDepth 100000 in
theorem eX5_gone (C0 : CallFix p m c cX5_gone 1 s args wsX5_gone RX5) (hK : Kx D (tyC ci) s) (K : Int32 → St → Prop) (σ : St) (hret : ∀ (r : Int32) (u : St) (H : Heap) (locs : List Loc) (pc : Nat) (ls : Array Slot), K r u → Sy D 132 ad A H0 (obC ad ci u) H locs → Rok u → decode cX5_gone pc = .ok (.ireturn, 1) → W p l e rmX5_gone s m args below meth c H locs 0 0 Q (F0 m pc ls [.int r])) (h : wX5_gone σ K) (H : Heap) (locs : List Loc) (hY : Sy D 132 ad A H0 (obC ad ci σ) H locs) (hR : Rok σ) (ls : Array Slot) (hl : lv_has ls 1 [(0, .ref (ad 0))]) : W p l e rmX5_gone s m args below meth c H locs 0 0 Q (F0 m 0 ls []) := by
  obtain ⟨hx, hb, hml, hown, hts⟩ := id C0
  refine lv_aload_n hx hb dX5_gone_0 rfl (lv_at hl 0 rfl) ?_
  refine w_get (o := 0) (ci := 5) (C := RX5) (T := TX5) (N1 := 6) (v := .ref (ad 5)) hx hb hts kX5_gone_inX5 hown hK.1 hY (by decide) obC_main rfl 2 (by decide) (hts _ kX5_gone_0) rfl rfl dX5_gone_1 ?_
  refine lv_aload_n hx hb dX5_gone_4 rfl (lv_at hl 0 rfl) ?_
  refine w_get (o := 0) (ci := 5) (C := RX5) (T := TX5) (N1 := 6) (v := .ref (ad 1)) hx hb hts kX5_gone_inX5 hown hK.1 hY (by decide) obC_main rfl 0 (by decide) (hts _ kX5_gone_2) rfl rfl dX5_gone_5 ?_
  refine w_calli (rest := []) (va_runV (As := [.ref (ad 1)]) (rest := []) C0 (mX4_removeBegun l D ad ci A σ 1 _ hR (by decide) h) (cwV 1 hts gX5_gone_X4_removeBegun rfl rfl rfl ddX4_removeBegun ⟨Nat.le_of_ble_eq_true rfl, Nat.le_of_ble_eq_true rfl⟩) (w_preV (o := 5) (ci := 4) (ob := obC ad ci) (σ := σ) hK hY (by decide) obC_list rfl rfl) rfl rfl hl.1 rfl (lv_room (Nat.le_of_ble_eq_true rfl)) dX5_gone_8 ⟨Nat.zero_le _, Nat.zero_le _⟩) hY (fun r_1 σ_2 H locs h hY hR_σ_2 => ?_)
  exact hret r_1 σ_2 _ _ _ _ h hY hR_σ_2 dX5_gone_11
set_option maxHeartbeats 4000000 in
set_option maxRecDepth 100000 in
theorem mX5_gone (l : Launch) (D : va_G) (ad : Nat → Nat) (ci : Nat → ClassId) (A : Nat → Prop) (σ : St) (K : Int32 → St → Prop) (hR : Rok σ) (h : wX5_gone σ K) : Met l yX5_gone wsX5_gone rmX5_gone (va_Pc [.ref (ad 0)] (PreW D 132 ad A (tyC ci) (obC ad ci σ))) (va_Qi (fun r u => K r u) (PostW D 132 ad (tyC ci) (obC ad ci) Rok) A) 0 0 A := by
  refine Met.ofW (cc := cX5_gone) (maxL := 1) (ret := (some .int)) (by decide) rfl ?_
  intro p e s m args below meth c s₁ B hml hv
  obtain ⟨rfl, hP, hK, hD⟩ := hv
  have C0 : CallFix p m c cX5_gone 1 s _ wsX5_gone RX5 := ⟨B.exec, B.bytes, hml, findClass_of_methodNamed B.named, atoms_spec (ws := wsX5_gone) B.pre⟩
  have hlocks := B.notSynchronized
  have hY : Sy D 132 ad A s.heap (obC ad ci σ) s.heap [] := ⟨hP, hD, va_S.rf⟩
  have hl := lv_entry ([.ref (ad 0)]) (n := 1) (Nat.le_of_ble_eq_true rfl)
  rw [lg_entry_eq]
  generalize (lg_sl ([.ref (ad 0)]) ++ List.replicate (1 - (lg_sl ([.ref (ad 0)])).length) Slot.unset).toArray = ls at hl ⊢
  exact eX5_gone C0 hK K σ (fun r u H locs pc ls hk hY hR hd => w_iret (I := Rok) B.exec B.bytes B.returns hlocks hK hk (fun t ht => ht) hY hR hd) h _ _ hY hR ls hl
set_option maxHeartbeats 4000000 in
set_option maxRecDepth 100000 in
theorem eX5_shared (C0 : CallFix p m c cX5_shared 1 s args wsX5_shared RX5) (hK : Kx D (tyC ci) s) (K : Int32 → Prop) (σ : St) (hret : ∀ (r : Int32) (H : Heap) (locs : List Loc) (pc : Nat) (ls : Array Slot), K r → Sy D 132 ad A H0 (obC ad ci σ) H locs → decode cX5_shared pc = .ok (.ireturn, 1) → W p l e rmX5_shared s m args below meth c H locs 0 0 Q (F0 m pc ls [.int r])) (h : wX5_shared σ K) (H : Heap) (locs : List Loc) (hY : Sy D 132 ad A H0 (obC ad ci σ) H locs) (hR : Rok σ) (ls : Array Slot) (hl : lv_has ls 1 [(0, .ref (ad 0))]) : W p l e rmX5_shared s m args below meth c H locs 0 0 Q (F0 m 0 ls []) := by
  obtain ⟨hx, hb, hml, hown, hts⟩ := id C0
  refine lv_aload_n hx hb dX5_shared_0 rfl (lv_at hl 0 rfl) ?_
  refine w_get (o := 0) (ci := 5) (C := RX5) (T := TX5) (N1 := 6) (v := .ref (ad 5)) hx hb hts kX5_shared_inX5 hown hK.1 hY (by decide) obC_main rfl 2 (by decide) (hts _ kX5_shared_0) rfl rfl dX5_shared_1 ?_
  refine lv_aload_n hx hb dX5_shared_4 rfl (lv_at hl 0 rfl) ?_
  refine w_get (o := 0) (ci := 5) (C := RX5) (T := TX5) (N1 := 6) (v := .ref (ad 1)) hx hb hts kX5_shared_inX5 hown hK.1 hY (by decide) obC_main rfl 0 (by decide) (hts _ kX5_shared_2) rfl rfl dX5_shared_5 ?_
  refine w_callip (rest := []) (va_runV (As := [.ref (ad 1)]) (rest := []) C0 (mX4_mostCommon l D ad ci A σ 1 _ hR (by decide) h) (cwV 1 hts gX5_shared_X4_mostCommon rfl rfl rfl ddX4_mostCommon ⟨Nat.le_of_ble_eq_true rfl, Nat.le_of_ble_eq_true rfl⟩) (w_preV (o := 5) (ci := 4) (ob := obC ad ci) (σ := σ) hK hY (by decide) obC_list rfl rfl) rfl rfl hl.1 rfl (lv_room (Nat.le_of_ble_eq_true rfl)) dX5_shared_8 ⟨Nat.zero_le _, Nat.zero_le _⟩) hY (fun r_1 H locs h hY => ?_)
  exact hret r_1 _ _ _ _ h hY dX5_shared_11
set_option maxHeartbeats 4000000 in
set_option maxRecDepth 100000 in
theorem mX5_shared (l : Launch) (D : va_G) (ad : Nat → Nat) (ci : Nat → ClassId) (A : Nat → Prop) (σ : St) (K : Int32 → Prop) (hR : Rok σ) (h : wX5_shared σ K) : Met l yX5_shared wsX5_shared rmX5_shared (va_Pc [.ref (ad 0)] (PreW D 132 ad A (tyC ci) (obC ad ci σ))) (va_Qi (fun r (_ : Unit) => K r) (fun _ => (PostW D 132 ad (tyC ci) (obC ad ci) Rok σ)) A) 0 0 A := by
  refine Met.ofW (cc := cX5_shared) (maxL := 1) (ret := (some .int)) (by decide) rfl ?_
  intro p e s m args below meth c s₁ B hml hv
  obtain ⟨rfl, hP, hK, hD⟩ := hv
  have C0 : CallFix p m c cX5_shared 1 s _ wsX5_shared RX5 := ⟨B.exec, B.bytes, hml, findClass_of_methodNamed B.named, atoms_spec (ws := wsX5_shared) B.pre⟩
  have hlocks := B.notSynchronized
  have hY : Sy D 132 ad A s.heap (obC ad ci σ) s.heap [] := ⟨hP, hD, va_S.rf⟩
  have hl := lv_entry ([.ref (ad 0)]) (n := 1) (Nat.le_of_ble_eq_true rfl)
  rw [lg_entry_eq]
  generalize (lg_sl ([.ref (ad 0)]) ++ List.replicate (1 - (lg_sl ([.ref (ad 0)])).length) Slot.unset).toArray = ls at hl ⊢
  exact eX5_shared C0 hK K σ (fun r H locs pc ls hk hY hd => w_iret (I := Rok) B.exec B.bytes B.returns hlocks (u := ()) hK hk (fun t ht => ht) hY hR hd) h _ _ hY hR ls hl
set_option maxHeartbeats 4000000 in
set_option maxRecDepth 100000 in
theorem eX5_pieces (C0 : CallFix p m c cX5_pieces 1 s args wsX5_pieces RX5) (hK : Kx D (tyC ci) s) (K : Int32 → St → Prop) (σ : St) (hret : ∀ (r : Int32) (u : St) (H : Heap) (locs : List Loc) (pc : Nat) (ls : Array Slot), K r u → Sy D 132 ad A H0 (obC ad ci u) H locs → Rok u → decode cX5_pieces pc = .ok (.ireturn, 1) → W p l e rmX5_pieces s m args below meth c H locs 0 0 Q (F0 m pc ls [.int r])) (h : wX5_pieces σ K) (H : Heap) (locs : List Loc) (hY : Sy D 132 ad A H0 (obC ad ci σ) H locs) (hR : Rok σ) (ls : Array Slot) (hl : lv_has ls 1 [(0, .ref (ad 0))]) : W p l e rmX5_pieces s m args below meth c H locs 0 0 Q (F0 m 0 ls []) := by
  obtain ⟨hx, hb, hml, hown, hts⟩ := id C0
  refine lv_aload_n hx hb dX5_pieces_0 rfl (lv_at hl 0 rfl) ?_
  refine w_get (o := 0) (ci := 5) (C := RX5) (T := TX5) (N1 := 6) (v := .ref (ad 123)) hx hb hts kX5_pieces_inX5 hown hK.1 hY (by decide) obC_main rfl 4 (by decide) (hts _ kX5_pieces_0) rfl rfl dX5_pieces_1 ?_
  refine lv_aload_n hx hb dX5_pieces_4 rfl (lv_at hl 0 rfl) ?_
  refine w_get (o := 0) (ci := 5) (C := RX5) (T := TX5) (N1 := 6) (v := .ref (ad 1)) hx hb hts kX5_pieces_inX5 hown hK.1 hY (by decide) obC_main rfl 0 (by decide) (hts _ kX5_pieces_2) rfl rfl dX5_pieces_5 ?_
  refine lv_aload_n hx hb dX5_pieces_8 rfl (lv_at hl 0 rfl) ?_
  refine w_get (o := 0) (ci := 5) (C := RX5) (T := TX5) (N1 := 6) (v := .ref (ad 5)) hx hb hts kX5_pieces_inX5 hown hK.1 hY (by decide) obC_main rfl 2 (by decide) (hts _ kX5_pieces_3) rfl rfl dX5_pieces_9 ?_
  refine w_callv (rest := []) (va_runV (As := [.ref (ad 1), .ref (ad 5)]) (rest := []) C0 (mX1_look l D ad ci A σ 1 _ hR (by decide) h) (cwV 2 hts gX5_pieces_X1_look rfl rfl rfl ddX1_look ⟨Nat.le_of_ble_eq_true rfl, Nat.le_of_ble_eq_true rfl⟩) (w_preV (o := 123) (ci := 1) (ob := obC ad ci) (σ := σ) hK hY (by decide) obC_cut rfl rfl) rfl rfl hl.1 rfl (lv_room (Nat.le_of_ble_eq_true rfl)) dX5_pieces_12 ⟨Nat.zero_le _, Nat.zero_le _⟩) hY (fun σ_2 H locs h hY hR_σ_2 => ?_)
  refine lv_aload_n hx hb dX5_pieces_15 rfl (lv_at hl 0 rfl) ?_
  refine w_get (o := 0) (ci := 5) (C := RX5) (T := TX5) (N1 := 6) (v := .ref (ad 123)) hx hb hts kX5_pieces_inX5 hown hK.1 hY (by decide) obC_main rfl 4 (by decide) (hts _ kX5_pieces_0) rfl rfl dX5_pieces_16 ?_
  refine w_callip (rest := []) (va_runV (As := []) (rest := []) C0 (mX1_countLongest l D ad ci A σ_2 _ hR_σ_2  h) (cwV 0 hts gX5_pieces_X1_countLongest rfl rfl rfl ddX1_countLongest ⟨Nat.le_of_ble_eq_true rfl, Nat.le_of_ble_eq_true rfl⟩) (w_preV (o := 123) (ci := 1) (ob := obC ad ci) (σ := σ_2) hK hY (by decide) obC_cut rfl rfl) rfl rfl hl.1 rfl (lv_room (Nat.le_of_ble_eq_true rfl)) dX5_pieces_19 ⟨Nat.zero_le _, Nat.zero_le _⟩) hY (fun r_3 H locs h hY => ?_)
  exact hret r_3 σ_2 _ _ _ _ h hY hR_σ_2 dX5_pieces_22
set_option maxHeartbeats 4000000 in
set_option maxRecDepth 100000 in
theorem mX5_pieces (l : Launch) (D : va_G) (ad : Nat → Nat) (ci : Nat → ClassId) (A : Nat → Prop) (σ : St) (K : Int32 → St → Prop) (hR : Rok σ) (h : wX5_pieces σ K) : Met l yX5_pieces wsX5_pieces rmX5_pieces (va_Pc [.ref (ad 0)] (PreW D 132 ad A (tyC ci) (obC ad ci σ))) (va_Qi (fun r u => K r u) (PostW D 132 ad (tyC ci) (obC ad ci) Rok) A) 0 0 A := by
  refine Met.ofW (cc := cX5_pieces) (maxL := 1) (ret := (some .int)) (by decide) rfl ?_
  intro p e s m args below meth c s₁ B hml hv
  obtain ⟨rfl, hP, hK, hD⟩ := hv
  have C0 : CallFix p m c cX5_pieces 1 s _ wsX5_pieces RX5 := ⟨B.exec, B.bytes, hml, findClass_of_methodNamed B.named, atoms_spec (ws := wsX5_pieces) B.pre⟩
  have hlocks := B.notSynchronized
  have hY : Sy D 132 ad A s.heap (obC ad ci σ) s.heap [] := ⟨hP, hD, va_S.rf⟩
  have hl := lv_entry ([.ref (ad 0)]) (n := 1) (Nat.le_of_ble_eq_true rfl)
  rw [lg_entry_eq]
  generalize (lg_sl ([.ref (ad 0)]) ++ List.replicate (1 - (lg_sl ([.ref (ad 0)])).length) Slot.unset).toArray = ls at hl ⊢
  exact eX5_pieces C0 hK K σ (fun r u H locs pc ls hk hY hR hd => w_iret (I := Rok) B.exec B.bytes B.returns hlocks hK hk (fun t ht => ht) hY hR hd) h _ _ hY hR ls hl
set_option maxHeartbeats 4000000 in
set_option maxRecDepth 100000 in
theorem eX5_cuts (C0 : CallFix p m c cX5_cuts 1 s args wsX5_cuts RX5) (hK : Kx D (tyC ci) s) (K : Int64 → St → Prop) (σ : St) (hret : ∀ (r : Int64) (u : St) (H : Heap) (locs : List Loc) (pc : Nat) (ls : Array Slot), K r u → Sy D 132 ad A H0 (obC ad ci u) H locs → Rok u → decode cX5_cuts pc = .ok (.lreturn, 1) → W p l e rmX5_cuts s m args below meth c H locs 0 0 Q (F0 m pc ls [.long r])) (h : wX5_cuts σ K) (H : Heap) (locs : List Loc) (hY : Sy D 132 ad A H0 (obC ad ci σ) H locs) (hR : Rok σ) (ls : Array Slot) (hl : lv_has ls 1 [(0, .ref (ad 0))]) : W p l e rmX5_cuts s m args below meth c H locs 0 0 Q (F0 m 0 ls []) := by
  obtain ⟨hx, hb, hml, hown, hts⟩ := id C0
  refine lv_aload_n hx hb dX5_cuts_0 rfl (lv_at hl 0 rfl) ?_
  refine w_get (o := 0) (ci := 5) (C := RX5) (T := TX5) (N1 := 6) (v := .ref (ad 123)) hx hb hts kX5_cuts_inX5 hown hK.1 hY (by decide) obC_main rfl 4 (by decide) (hts _ kX5_cuts_0) rfl rfl dX5_cuts_1 ?_
  refine lv_aload_n hx hb dX5_cuts_4 rfl (lv_at hl 0 rfl) ?_
  refine w_get (o := 0) (ci := 5) (C := RX5) (T := TX5) (N1 := 6) (v := .ref (ad 1)) hx hb hts kX5_cuts_inX5 hown hK.1 hY (by decide) obC_main rfl 0 (by decide) (hts _ kX5_cuts_2) rfl rfl dX5_cuts_5 ?_
  refine lv_aload_n hx hb dX5_cuts_8 rfl (lv_at hl 0 rfl) ?_
  refine w_get (o := 0) (ci := 5) (C := RX5) (T := TX5) (N1 := 6) (v := .ref (ad 5)) hx hb hts kX5_cuts_inX5 hown hK.1 hY (by decide) obC_main rfl 2 (by decide) (hts _ kX5_cuts_3) rfl rfl dX5_cuts_9 ?_
  refine w_callv (rest := []) (va_runV (As := [.ref (ad 1), .ref (ad 5)]) (rest := []) C0 (mX1_look l D ad ci A σ 1 _ hR (by decide) h) (cwV 2 hts gX5_cuts_X1_look rfl rfl rfl ddX1_look ⟨Nat.le_of_ble_eq_true rfl, Nat.le_of_ble_eq_true rfl⟩) (w_preV (o := 123) (ci := 1) (ob := obC ad ci) (σ := σ) hK hY (by decide) obC_cut rfl rfl) rfl rfl hl.1 rfl (lv_room (Nat.le_of_ble_eq_true rfl)) dX5_cuts_12 ⟨Nat.zero_le _, Nat.zero_le _⟩) hY (fun σ_2 H locs h hY hR_σ_2 => ?_)
  refine lv_aload_n hx hb dX5_cuts_15 rfl (lv_at hl 0 rfl) ?_
  refine w_get (o := 0) (ci := 5) (C := RX5) (T := TX5) (N1 := 6) (v := .ref (ad 123)) hx hb hts kX5_cuts_inX5 hown hK.1 hY (by decide) obC_main rfl 4 (by decide) (hts _ kX5_cuts_0) rfl rfl dX5_cuts_16 ?_
  refine lv_iconst (v := (0 : Int32)) hx hb dX5_cuts_19 (by decide) ?_
  refine w_calll (rest := []) (va_runV (As := [.int (0 : Int32)]) (rest := []) C0 (mX1_countWays l D ad ci A σ_2 (0 : Int32) _ hR_σ_2  h) (cwV 1 hts gX5_cuts_X1_countWays rfl rfl rfl ddX1_countWays ⟨Nat.le_of_ble_eq_true rfl, Nat.le_of_ble_eq_true rfl⟩) (w_preV (o := 123) (ci := 1) (ob := obC ad ci) (σ := σ_2) hK hY (by decide) obC_cut rfl rfl) rfl rfl hl.1 rfl (lv_room (Nat.le_of_ble_eq_true rfl)) dX5_cuts_20 ⟨Nat.zero_le _, Nat.zero_le _⟩) hY (fun r_3 σ_4 H locs h hY hR_σ_4 => ?_)
  exact hret r_3 σ_4 _ _ _ _ h hY hR_σ_4 dX5_cuts_23
set_option maxHeartbeats 4000000 in
set_option maxRecDepth 100000 in
theorem mX5_cuts (l : Launch) (D : va_G) (ad : Nat → Nat) (ci : Nat → ClassId) (A : Nat → Prop) (σ : St) (K : Int64 → St → Prop) (hR : Rok σ) (h : wX5_cuts σ K) : Met l yX5_cuts wsX5_cuts rmX5_cuts (va_Pc [.ref (ad 0)] (PreW D 132 ad A (tyC ci) (obC ad ci σ))) (va_Ql (fun r u => K r u) (PostW D 132 ad (tyC ci) (obC ad ci) Rok) A) 0 0 A := by
  refine Met.ofW (cc := cX5_cuts) (maxL := 1) (ret := (some .long)) (by decide) rfl ?_
  intro p e s m args below meth c s₁ B hml hv
  obtain ⟨rfl, hP, hK, hD⟩ := hv
  have C0 : CallFix p m c cX5_cuts 1 s _ wsX5_cuts RX5 := ⟨B.exec, B.bytes, hml, findClass_of_methodNamed B.named, atoms_spec (ws := wsX5_cuts) B.pre⟩
  have hlocks := B.notSynchronized
  have hY : Sy D 132 ad A s.heap (obC ad ci σ) s.heap [] := ⟨hP, hD, va_S.rf⟩
  have hl := lv_entry ([.ref (ad 0)]) (n := 1) (Nat.le_of_ble_eq_true rfl)
  rw [lg_entry_eq]
  generalize (lg_sl ([.ref (ad 0)]) ++ List.replicate (1 - (lg_sl ([.ref (ad 0)])).length) Slot.unset).toArray = ls at hl ⊢
  exact eX5_cuts C0 hK K σ (fun r u H locs pc ls hk hY hR hd => w_lret (I := Rok) B.exec B.bytes B.returns hlocks hK hk (fun t ht => ht) hY hR hd) h _ _ hY hR ls hl
set_option maxHeartbeats 4000000 in
set_option maxRecDepth 100000 in
theorem eX5_fewest (C0 : CallFix p m c cX5_fewest 1 s args wsX5_fewest RX5) (hK : Kx D (tyC ci) s) (K : Int32 → St → Prop) (σ : St) (hret : ∀ (r : Int32) (u : St) (H : Heap) (locs : List Loc) (pc : Nat) (ls : Array Slot), K r u → Sy D 132 ad A H0 (obC ad ci u) H locs → Rok u → decode cX5_fewest pc = .ok (.ireturn, 1) → W p l e rmX5_fewest s m args below meth c H locs 0 0 Q (F0 m pc ls [.int r])) (h : wX5_fewest σ K) (H : Heap) (locs : List Loc) (hY : Sy D 132 ad A H0 (obC ad ci σ) H locs) (hR : Rok σ) (ls : Array Slot) (hl : lv_has ls 1 [(0, .ref (ad 0))]) : W p l e rmX5_fewest s m args below meth c H locs 0 0 Q (F0 m 0 ls []) := by
  obtain ⟨hx, hb, hml, hown, hts⟩ := id C0
  refine lv_aload_n hx hb dX5_fewest_0 rfl (lv_at hl 0 rfl) ?_
  refine w_get (o := 0) (ci := 5) (C := RX5) (T := TX5) (N1 := 6) (v := .ref (ad 123)) hx hb hts kX5_fewest_inX5 hown hK.1 hY (by decide) obC_main rfl 4 (by decide) (hts _ kX5_fewest_0) rfl rfl dX5_fewest_1 ?_
  refine lv_aload_n hx hb dX5_fewest_4 rfl (lv_at hl 0 rfl) ?_
  refine w_get (o := 0) (ci := 5) (C := RX5) (T := TX5) (N1 := 6) (v := .ref (ad 1)) hx hb hts kX5_fewest_inX5 hown hK.1 hY (by decide) obC_main rfl 0 (by decide) (hts _ kX5_fewest_2) rfl rfl dX5_fewest_5 ?_
  refine lv_aload_n hx hb dX5_fewest_8 rfl (lv_at hl 0 rfl) ?_
  refine w_get (o := 0) (ci := 5) (C := RX5) (T := TX5) (N1 := 6) (v := .ref (ad 5)) hx hb hts kX5_fewest_inX5 hown hK.1 hY (by decide) obC_main rfl 2 (by decide) (hts _ kX5_fewest_3) rfl rfl dX5_fewest_9 ?_
  refine w_callv (rest := []) (va_runV (As := [.ref (ad 1), .ref (ad 5)]) (rest := []) C0 (mX1_look l D ad ci A σ 1 _ hR (by decide) h) (cwV 2 hts gX5_fewest_X1_look rfl rfl rfl ddX1_look ⟨Nat.le_of_ble_eq_true rfl, Nat.le_of_ble_eq_true rfl⟩) (w_preV (o := 123) (ci := 1) (ob := obC ad ci) (σ := σ) hK hY (by decide) obC_cut rfl rfl) rfl rfl hl.1 rfl (lv_room (Nat.le_of_ble_eq_true rfl)) dX5_fewest_12 ⟨Nat.zero_le _, Nat.zero_le _⟩) hY (fun σ_2 H locs h hY hR_σ_2 => ?_)
  refine lv_aload_n hx hb dX5_fewest_15 rfl (lv_at hl 0 rfl) ?_
  refine w_get (o := 0) (ci := 5) (C := RX5) (T := TX5) (N1 := 6) (v := .ref (ad 123)) hx hb hts kX5_fewest_inX5 hown hK.1 hY (by decide) obC_main rfl 4 (by decide) (hts _ kX5_fewest_0) rfl rfl dX5_fewest_16 ?_
  refine w_calli (rest := []) (va_runV (As := []) (rest := []) C0 (mX1_leastPieces l D ad ci A σ_2 _ hR_σ_2  h) (cwV 0 hts gX5_fewest_X1_leastPieces rfl rfl rfl ddX1_leastPieces ⟨Nat.le_of_ble_eq_true rfl, Nat.le_of_ble_eq_true rfl⟩) (w_preV (o := 123) (ci := 1) (ob := obC ad ci) (σ := σ_2) hK hY (by decide) obC_cut rfl rfl) rfl rfl hl.1 rfl (lv_room (Nat.le_of_ble_eq_true rfl)) dX5_fewest_19 ⟨Nat.zero_le _, Nat.zero_le _⟩) hY (fun r_3 σ_4 H locs h hY hR_σ_4 => ?_)
  exact hret r_3 σ_4 _ _ _ _ h hY hR_σ_4 dX5_fewest_22
set_option maxHeartbeats 4000000 in
set_option maxRecDepth 100000 in
theorem mX5_fewest (l : Launch) (D : va_G) (ad : Nat → Nat) (ci : Nat → ClassId) (A : Nat → Prop) (σ : St) (K : Int32 → St → Prop) (hR : Rok σ) (h : wX5_fewest σ K) : Met l yX5_fewest wsX5_fewest rmX5_fewest (va_Pc [.ref (ad 0)] (PreW D 132 ad A (tyC ci) (obC ad ci σ))) (va_Qi (fun r u => K r u) (PostW D 132 ad (tyC ci) (obC ad ci) Rok) A) 0 0 A := by
  refine Met.ofW (cc := cX5_fewest) (maxL := 1) (ret := (some .int)) (by decide) rfl ?_
  intro p e s m args below meth c s₁ B hml hv
  obtain ⟨rfl, hP, hK, hD⟩ := hv
  have C0 : CallFix p m c cX5_fewest 1 s _ wsX5_fewest RX5 := ⟨B.exec, B.bytes, hml, findClass_of_methodNamed B.named, atoms_spec (ws := wsX5_fewest) B.pre⟩
  have hlocks := B.notSynchronized
  have hY : Sy D 132 ad A s.heap (obC ad ci σ) s.heap [] := ⟨hP, hD, va_S.rf⟩
  have hl := lv_entry ([.ref (ad 0)]) (n := 1) (Nat.le_of_ble_eq_true rfl)
  rw [lg_entry_eq]
  generalize (lg_sl ([.ref (ad 0)]) ++ List.replicate (1 - (lg_sl ([.ref (ad 0)])).length) Slot.unset).toArray = ls at hl ⊢
  exact eX5_fewest C0 hK K σ (fun r u H locs pc ls hk hY hR hd => w_iret (I := Rok) B.exec B.bytes B.returns hlocks hK hk (fun t ht => ht) hY hR hd) h _ _ hY hR ls hl
set_option maxHeartbeats 4000000 in
set_option maxRecDepth 100000 in
theorem eX5_isTrue (C0 : CallFix p m c cX5_isTrue 1 s args wsX5_isTrue RX5) (hK : Kx D (tyC ci) s) (K : Int32 → St → Prop) (σ : St) (hret : ∀ (r : Int32) (u : St) (H : Heap) (locs : List Loc) (pc : Nat) (ls : Array Slot), narrow .boolean (.int r) = .int r → K r u → Sy D 132 ad A H0 (obC ad ci u) H locs → Rok u → decode cX5_isTrue pc = .ok (.ireturn, 1) → W p l e rmX5_isTrue s m args below meth c H locs 0 0 Q (F0 m pc ls [.int r])) (h : wX5_isTrue σ K) (H : Heap) (locs : List Loc) (hY : Sy D 132 ad A H0 (obC ad ci σ) H locs) (hR : Rok σ) (ls : Array Slot) (hl : lv_has ls 1 [(0, .ref (ad 0))]) : W p l e rmX5_isTrue s m args below meth c H locs 0 0 Q (F0 m 0 ls []) := by
  obtain ⟨hx, hb, hml, hown, hts⟩ := id C0
  refine lv_aload_n hx hb dX5_isTrue_0 rfl (lv_at hl 0 rfl) ?_
  refine w_get (o := 0) (ci := 5) (C := RX5) (T := TX5) (N1 := 6) (v := .ref (ad 123)) hx hb hts kX5_isTrue_inX5 hown hK.1 hY (by decide) obC_main rfl 4 (by decide) (hts _ kX5_isTrue_0) rfl rfl dX5_isTrue_1 ?_
  refine lv_aload_n hx hb dX5_isTrue_4 rfl (lv_at hl 0 rfl) ?_
  refine w_get (o := 0) (ci := 5) (C := RX5) (T := TX5) (N1 := 6) (v := .ref (ad 1)) hx hb hts kX5_isTrue_inX5 hown hK.1 hY (by decide) obC_main rfl 0 (by decide) (hts _ kX5_isTrue_2) rfl rfl dX5_isTrue_5 ?_
  refine lv_aload_n hx hb dX5_isTrue_8 rfl (lv_at hl 0 rfl) ?_
  refine w_get (o := 0) (ci := 5) (C := RX5) (T := TX5) (N1 := 6) (v := .ref (ad 5)) hx hb hts kX5_isTrue_inX5 hown hK.1 hY (by decide) obC_main rfl 2 (by decide) (hts _ kX5_isTrue_3) rfl rfl dX5_isTrue_9 ?_
  refine w_callv (rest := []) (va_runV (As := [.ref (ad 1), .ref (ad 5)]) (rest := []) C0 (mX1_look l D ad ci A σ 1 _ hR (by decide) h) (cwV 2 hts gX5_isTrue_X1_look rfl rfl rfl ddX1_look ⟨Nat.le_of_ble_eq_true rfl, Nat.le_of_ble_eq_true rfl⟩) (w_preV (o := 123) (ci := 1) (ob := obC ad ci) (σ := σ) hK hY (by decide) obC_cut rfl rfl) rfl rfl hl.1 rfl (lv_room (Nat.le_of_ble_eq_true rfl)) dX5_isTrue_12 ⟨Nat.zero_le _, Nat.zero_le _⟩) hY (fun σ_2 H locs h hY hR_σ_2 => ?_)
  refine lv_aload_n hx hb dX5_isTrue_15 rfl (lv_at hl 0 rfl) ?_
  refine w_get (o := 0) (ci := 5) (C := RX5) (T := TX5) (N1 := 6) (v := .ref (ad 127)) hx hb hts kX5_isTrue_inX5 hown hK.1 hY (by decide) obC_main rfl 5 (by decide) (hts _ kX5_isTrue_4) rfl rfl dX5_isTrue_16 ?_
  refine lv_aload_n hx hb dX5_isTrue_19 rfl (lv_at hl 0 rfl) ?_
  refine w_get (o := 0) (ci := 5) (C := RX5) (T := TX5) (N1 := 6) (v := .ref (ad 1)) hx hb hts kX5_isTrue_inX5 hown hK.1 hY (by decide) obC_main rfl 0 (by decide) (hts _ kX5_isTrue_2) rfl rfl dX5_isTrue_20 ?_
  refine lv_aload_n hx hb dX5_isTrue_23 rfl (lv_at hl 0 rfl) ?_
  refine w_get (o := 0) (ci := 5) (C := RX5) (T := TX5) (N1 := 6) (v := .ref (ad 5)) hx hb hts kX5_isTrue_inX5 hown hK.1 hY (by decide) obC_main rfl 2 (by decide) (hts _ kX5_isTrue_3) rfl rfl dX5_isTrue_24 ?_
  refine w_calli (rest := []) (va_runV (As := [.ref (ad 1), .ref (ad 5)]) (rest := []) C0 (mX3_beginningsHold l D ad ci A σ_2 1 _ hR_σ_2 (by decide) h) (cwV 2 hts gX5_isTrue_X3_beginningsHold rfl rfl rfl ddX3_beginningsHold ⟨Nat.le_of_ble_eq_true rfl, Nat.le_of_ble_eq_true rfl⟩) (w_preV (o := 127) (ci := 3) (ob := obC ad ci) (σ := σ_2) hK hY (by decide) obC_thm rfl rfl) rfl rfl hl.1 rfl (lv_room (Nat.le_of_ble_eq_true rfl)) dX5_isTrue_27 ⟨Nat.zero_le _, Nat.zero_le _⟩) hY (fun r_3 σ_4 H locs h hY hR_σ_4 => ?_)
  obtain ⟨n_r_3, h⟩ := h
  refine lv_if_eq (tgt := 141) hx hb dX5_isTrue_30 (by decide) (fun c_5 => ?_) (fun c_5 => ?_)
  · have h := h.1 c_5
    refine lv_iconst (v := (0 : Int32)) hx hb dX5_isTrue_141 (by decide) ?_
    exact hret (0 : Int32) σ_4 _ _ _ _ rfl h hY hR_σ_4 dX5_isTrue_142
  · have h := h.2 c_5
    refine lv_aload_n hx hb dX5_isTrue_33 rfl (lv_at hl 0 rfl) ?_
    refine w_get (o := 0) (ci := 5) (C := RX5) (T := TX5) (N1 := 6) (v := .ref (ad 127)) hx hb hts kX5_isTrue_inX5 hown hK.1 hY (by decide) obC_main rfl 5 (by decide) (hts _ kX5_isTrue_4) rfl rfl dX5_isTrue_34 ?_
    refine lv_aload_n hx hb dX5_isTrue_37 rfl (lv_at hl 0 rfl) ?_
    refine w_get (o := 0) (ci := 5) (C := RX5) (T := TX5) (N1 := 6) (v := .ref (ad 1)) hx hb hts kX5_isTrue_inX5 hown hK.1 hY (by decide) obC_main rfl 0 (by decide) (hts _ kX5_isTrue_2) rfl rfl dX5_isTrue_38 ?_
    refine lv_aload_n hx hb dX5_isTrue_41 rfl (lv_at hl 0 rfl) ?_
    refine w_get (o := 0) (ci := 5) (C := RX5) (T := TX5) (N1 := 6) (v := .ref (ad 5)) hx hb hts kX5_isTrue_inX5 hown hK.1 hY (by decide) obC_main rfl 2 (by decide) (hts _ kX5_isTrue_3) rfl rfl dX5_isTrue_42 ?_
    refine w_calli (rest := []) (va_runV (As := [.ref (ad 1), .ref (ad 5)]) (rest := []) C0 (mX3_longestHolds l D ad ci A σ_4 1 _ hR_σ_4 (by decide) h) (cwV 2 hts gX5_isTrue_X3_longestHolds rfl rfl rfl ddX3_longestHolds ⟨Nat.le_of_ble_eq_true rfl, Nat.le_of_ble_eq_true rfl⟩) (w_preV (o := 127) (ci := 3) (ob := obC ad ci) (σ := σ_4) hK hY (by decide) obC_thm rfl rfl) rfl rfl hl.1 rfl (lv_room (Nat.le_of_ble_eq_true rfl)) dX5_isTrue_45 ⟨Nat.zero_le _, Nat.zero_le _⟩) hY (fun r_6 σ_7 H locs h hY hR_σ_7 => ?_)
    obtain ⟨n_r_6, h⟩ := h
    refine lv_if_eq (tgt := 141) hx hb dX5_isTrue_48 (by decide) (fun c_8 => ?_) (fun c_8 => ?_)
    · have h := h.1 c_8
      refine lv_iconst (v := (0 : Int32)) hx hb dX5_isTrue_141 (by decide) ?_
      exact hret (0 : Int32) σ_7 _ _ _ _ rfl h hY hR_σ_7 dX5_isTrue_142
    · have h := h.2 c_8
      refine lv_aload_n hx hb dX5_isTrue_51 rfl (lv_at hl 0 rfl) ?_
      refine w_get (o := 0) (ci := 5) (C := RX5) (T := TX5) (N1 := 6) (v := .ref (ad 127)) hx hb hts kX5_isTrue_inX5 hown hK.1 hY (by decide) obC_main rfl 5 (by decide) (hts _ kX5_isTrue_4) rfl rfl dX5_isTrue_52 ?_
      refine lv_aload_n hx hb dX5_isTrue_55 rfl (lv_at hl 0 rfl) ?_
      refine w_get (o := 0) (ci := 5) (C := RX5) (T := TX5) (N1 := 6) (v := .ref (ad 1)) hx hb hts kX5_isTrue_inX5 hown hK.1 hY (by decide) obC_main rfl 0 (by decide) (hts _ kX5_isTrue_2) rfl rfl dX5_isTrue_56 ?_
      refine lv_aload_n hx hb dX5_isTrue_59 rfl (lv_at hl 0 rfl) ?_
      refine w_get (o := 0) (ci := 5) (C := RX5) (T := TX5) (N1 := 6) (v := .ref (ad 5)) hx hb hts kX5_isTrue_inX5 hown hK.1 hY (by decide) obC_main rfl 2 (by decide) (hts _ kX5_isTrue_3) rfl rfl dX5_isTrue_60 ?_
      refine w_callip (rest := []) (va_runV (As := [.ref (ad 1), .ref (ad 5)]) (rest := []) C0 (mX3_commonHolds l D ad ci A σ_7 1 _ hR_σ_7 (by decide) h) (cwV 2 hts gX5_isTrue_X3_commonHolds rfl rfl rfl ddX3_commonHolds ⟨Nat.le_of_ble_eq_true rfl, Nat.le_of_ble_eq_true rfl⟩) (w_preV (o := 127) (ci := 3) (ob := obC ad ci) (σ := σ_7) hK hY (by decide) obC_thm rfl rfl) rfl rfl hl.1 rfl (lv_room (Nat.le_of_ble_eq_true rfl)) dX5_isTrue_63 ⟨Nat.zero_le _, Nat.zero_le _⟩) hY (fun r_9 H locs h hY => ?_)
      obtain ⟨n_r_9, h⟩ := h
      refine lv_if_eq (tgt := 141) hx hb dX5_isTrue_66 (by decide) (fun c_10 => ?_) (fun c_10 => ?_)
      · have h := h.1 c_10
        refine lv_iconst (v := (0 : Int32)) hx hb dX5_isTrue_141 (by decide) ?_
        exact hret (0 : Int32) σ_7 _ _ _ _ rfl h hY hR_σ_7 dX5_isTrue_142
      · have h := h.2 c_10
        refine lv_aload_n hx hb dX5_isTrue_69 rfl (lv_at hl 0 rfl) ?_
        refine w_get (o := 0) (ci := 5) (C := RX5) (T := TX5) (N1 := 6) (v := .ref (ad 127)) hx hb hts kX5_isTrue_inX5 hown hK.1 hY (by decide) obC_main rfl 5 (by decide) (hts _ kX5_isTrue_4) rfl rfl dX5_isTrue_70 ?_
        refine lv_aload_n hx hb dX5_isTrue_73 rfl (lv_at hl 0 rfl) ?_
        refine w_get (o := 0) (ci := 5) (C := RX5) (T := TX5) (N1 := 6) (v := .ref (ad 5)) hx hb hts kX5_isTrue_inX5 hown hK.1 hY (by decide) obC_main rfl 2 (by decide) (hts _ kX5_isTrue_3) rfl rfl dX5_isTrue_74 ?_
        refine w_callip (rest := []) (va_runV (As := [.ref (ad 5)]) (rest := []) C0 (mX3_twinsHold l D ad ci A σ_7 _ hR_σ_7  h) (cwV 1 hts gX5_isTrue_X3_twinsHold rfl rfl rfl ddX3_twinsHold ⟨Nat.le_of_ble_eq_true rfl, Nat.le_of_ble_eq_true rfl⟩) (w_preV (o := 127) (ci := 3) (ob := obC ad ci) (σ := σ_7) hK hY (by decide) obC_thm rfl rfl) rfl rfl hl.1 rfl (lv_room (Nat.le_of_ble_eq_true rfl)) dX5_isTrue_77 ⟨Nat.zero_le _, Nat.zero_le _⟩) hY (fun r_11 H locs h hY => ?_)
        obtain ⟨n_r_11, h⟩ := h
        refine lv_if_eq (tgt := 141) hx hb dX5_isTrue_80 (by decide) (fun c_12 => ?_) (fun c_12 => ?_)
        · have h := h.1 c_12
          refine lv_iconst (v := (0 : Int32)) hx hb dX5_isTrue_141 (by decide) ?_
          exact hret (0 : Int32) σ_7 _ _ _ _ rfl h hY hR_σ_7 dX5_isTrue_142
        · have h := h.2 c_12
          refine lv_aload_n hx hb dX5_isTrue_83 rfl (lv_at hl 0 rfl) ?_
          refine w_get (o := 0) (ci := 5) (C := RX5) (T := TX5) (N1 := 6) (v := .ref (ad 127)) hx hb hts kX5_isTrue_inX5 hown hK.1 hY (by decide) obC_main rfl 5 (by decide) (hts _ kX5_isTrue_4) rfl rfl dX5_isTrue_84 ?_
          refine lv_aload_n hx hb dX5_isTrue_87 rfl (lv_at hl 0 rfl) ?_
          refine w_get (o := 0) (ci := 5) (C := RX5) (T := TX5) (N1 := 6) (v := .ref (ad 1)) hx hb hts kX5_isTrue_inX5 hown hK.1 hY (by decide) obC_main rfl 0 (by decide) (hts _ kX5_isTrue_2) rfl rfl dX5_isTrue_88 ?_
          refine lv_aload_n hx hb dX5_isTrue_91 rfl (lv_at hl 0 rfl) ?_
          refine w_get (o := 0) (ci := 5) (C := RX5) (T := TX5) (N1 := 6) (v := .ref (ad 123)) hx hb hts kX5_isTrue_inX5 hown hK.1 hY (by decide) obC_main rfl 4 (by decide) (hts _ kX5_isTrue_0) rfl rfl dX5_isTrue_92 ?_
          refine w_calli (rest := []) (va_runV (As := [.ref (ad 1), .ref (ad 123)]) (rest := []) C0 (mX3_cutsHold l D ad ci A σ_7 1 _ hR_σ_7 (by decide) h) (cwV 2 hts gX5_isTrue_X3_cutsHold rfl rfl rfl ddX3_cutsHold ⟨Nat.le_of_ble_eq_true rfl, Nat.le_of_ble_eq_true rfl⟩) (w_preV (o := 127) (ci := 3) (ob := obC ad ci) (σ := σ_7) hK hY (by decide) obC_thm rfl rfl) rfl rfl hl.1 rfl (lv_room (Nat.le_of_ble_eq_true rfl)) dX5_isTrue_95 ⟨Nat.zero_le _, Nat.zero_le _⟩) hY (fun r_13 σ_14 H locs h hY hR_σ_14 => ?_)
          obtain ⟨n_r_13, h⟩ := h
          refine lv_if_eq (tgt := 141) hx hb dX5_isTrue_98 (by decide) (fun c_15 => ?_) (fun c_15 => ?_)
          · have h := h.1 c_15
            refine lv_iconst (v := (0 : Int32)) hx hb dX5_isTrue_141 (by decide) ?_
            exact hret (0 : Int32) σ_14 _ _ _ _ rfl h hY hR_σ_14 dX5_isTrue_142
          · have h := h.2 c_15
            refine lv_aload_n hx hb dX5_isTrue_101 rfl (lv_at hl 0 rfl) ?_
            refine w_get (o := 0) (ci := 5) (C := RX5) (T := TX5) (N1 := 6) (v := .ref (ad 127)) hx hb hts kX5_isTrue_inX5 hown hK.1 hY (by decide) obC_main rfl 5 (by decide) (hts _ kX5_isTrue_4) rfl rfl dX5_isTrue_102 ?_
            refine lv_aload_n hx hb dX5_isTrue_105 rfl (lv_at hl 0 rfl) ?_
            refine w_get (o := 0) (ci := 5) (C := RX5) (T := TX5) (N1 := 6) (v := .ref (ad 5)) hx hb hts kX5_isTrue_inX5 hown hK.1 hY (by decide) obC_main rfl 2 (by decide) (hts _ kX5_isTrue_3) rfl rfl dX5_isTrue_106 ?_
            refine lv_aload_n hx hb dX5_isTrue_109 rfl (lv_at hl 0 rfl) ?_
            refine w_get (o := 0) (ci := 5) (C := RX5) (T := TX5) (N1 := 6) (v := .ref (ad 123)) hx hb hts kX5_isTrue_inX5 hown hK.1 hY (by decide) obC_main rfl 4 (by decide) (hts _ kX5_isTrue_0) rfl rfl dX5_isTrue_110 ?_
            refine w_calli (rest := []) (va_runV (As := [.ref (ad 5), .ref (ad 123)]) (rest := []) C0 (mX3_fewestHolds l D ad ci A σ_14 _ hR_σ_14  h) (cwV 2 hts gX5_isTrue_X3_fewestHolds rfl rfl rfl ddX3_fewestHolds ⟨Nat.le_of_ble_eq_true rfl, Nat.le_of_ble_eq_true rfl⟩) (w_preV (o := 127) (ci := 3) (ob := obC ad ci) (σ := σ_14) hK hY (by decide) obC_thm rfl rfl) rfl rfl hl.1 rfl (lv_room (Nat.le_of_ble_eq_true rfl)) dX5_isTrue_113 ⟨Nat.zero_le _, Nat.zero_le _⟩) hY (fun r_16 σ_17 H locs h hY hR_σ_17 => ?_)
            obtain ⟨n_r_16, h⟩ := h
            refine lv_if_eq (tgt := 141) hx hb dX5_isTrue_116 (by decide) (fun c_18 => ?_) (fun c_18 => ?_)
            · have h := h.1 c_18
              refine lv_iconst (v := (0 : Int32)) hx hb dX5_isTrue_141 (by decide) ?_
              exact hret (0 : Int32) σ_17 _ _ _ _ rfl h hY hR_σ_17 dX5_isTrue_142
            · have h := h.2 c_18
              refine lv_aload_n hx hb dX5_isTrue_119 rfl (lv_at hl 0 rfl) ?_
              refine w_get (o := 0) (ci := 5) (C := RX5) (T := TX5) (N1 := 6) (v := .ref (ad 127)) hx hb hts kX5_isTrue_inX5 hown hK.1 hY (by decide) obC_main rfl 5 (by decide) (hts _ kX5_isTrue_4) rfl rfl dX5_isTrue_120 ?_
              refine lv_aload_n hx hb dX5_isTrue_123 rfl (lv_at hl 0 rfl) ?_
              refine w_get (o := 0) (ci := 5) (C := RX5) (T := TX5) (N1 := 6) (v := .ref (ad 5)) hx hb hts kX5_isTrue_inX5 hown hK.1 hY (by decide) obC_main rfl 2 (by decide) (hts _ kX5_isTrue_3) rfl rfl dX5_isTrue_124 ?_
              refine lv_aload_n hx hb dX5_isTrue_127 rfl (lv_at hl 0 rfl) ?_
              refine w_get (o := 0) (ci := 5) (C := RX5) (T := TX5) (N1 := 6) (v := .ref (ad 58)) hx hb hts kX5_isTrue_inX5 hown hK.1 hY (by decide) obC_main rfl 3 (by decide) (hts _ kX5_isTrue_5) rfl rfl dX5_isTrue_128 ?_
              refine w_calli (rest := []) (va_runV (As := [.ref (ad 5), .ref (ad 58)]) (rest := []) C0 (mX3_codesHold l D ad ci A σ_17 _ hR_σ_17  h) (cwV 2 hts gX5_isTrue_X3_codesHold rfl rfl rfl ddX3_codesHold ⟨Nat.le_of_ble_eq_true rfl, Nat.le_of_ble_eq_true rfl⟩) (w_preV (o := 127) (ci := 3) (ob := obC ad ci) (σ := σ_17) hK hY (by decide) obC_thm rfl rfl) rfl rfl hl.1 rfl (lv_room (Nat.le_of_ble_eq_true rfl)) dX5_isTrue_131 ⟨Nat.zero_le _, Nat.zero_le _⟩) hY (fun r_19 σ_20 H locs h hY hR_σ_20 => ?_)
              obtain ⟨n_r_19, h⟩ := h
              refine lv_if_eq (tgt := 141) hx hb dX5_isTrue_134 (by decide) (fun c_21 => ?_) (fun c_21 => ?_)
              · have h := h.1 c_21
                refine lv_iconst (v := (0 : Int32)) hx hb dX5_isTrue_141 (by decide) ?_
                exact hret (0 : Int32) σ_20 _ _ _ _ rfl h hY hR_σ_20 dX5_isTrue_142
              · have h := h.2 c_21
                refine lv_iconst (v := (1 : Int32)) hx hb dX5_isTrue_137 (by decide) ?_
                refine lv_goto (tgt := 142) hx hb dX5_isTrue_138 (by decide) ?_
                exact hret (1 : Int32) σ_20 _ _ _ _ rfl h hY hR_σ_20 dX5_isTrue_142
set_option maxHeartbeats 4000000 in
set_option maxRecDepth 100000 in
theorem mX5_isTrue (l : Launch) (D : va_G) (ad : Nat → Nat) (ci : Nat → ClassId) (A : Nat → Prop) (σ : St) (K : Int32 → St → Prop) (hR : Rok σ) (h : wX5_isTrue σ K) : Met l yX5_isTrue wsX5_isTrue rmX5_isTrue (va_Pc [.ref (ad 0)] (PreW D 132 ad A (tyC ci) (obC ad ci σ))) (va_Qi (fun r u => narrow .boolean (.int r) = .int r ∧ K r u) (PostW D 132 ad (tyC ci) (obC ad ci) Rok) A) 0 0 A := by
  refine Met.ofW (cc := cX5_isTrue) (maxL := 1) (ret := (some .boolean)) (by decide) rfl ?_
  intro p e s m args below meth c s₁ B hml hv
  obtain ⟨rfl, hP, hK, hD⟩ := hv
  have C0 : CallFix p m c cX5_isTrue 1 s _ wsX5_isTrue RX5 := ⟨B.exec, B.bytes, hml, findClass_of_methodNamed B.named, atoms_spec (ws := wsX5_isTrue) B.pre⟩
  have hlocks := B.notSynchronized
  have hY : Sy D 132 ad A s.heap (obC ad ci σ) s.heap [] := ⟨hP, hD, va_S.rf⟩
  have hl := lv_entry ([.ref (ad 0)]) (n := 1) (Nat.le_of_ble_eq_true rfl)
  rw [lg_entry_eq]
  generalize (lg_sl ([.ref (ad 0)]) ++ List.replicate (1 - (lg_sl ([.ref (ad 0)])).length) Slot.unset).toArray = ls at hl ⊢
  exact eX5_isTrue C0 hK K σ (fun r u H locs pc ls hn hk hY hR hd => w_zret (I := Rok) B.exec B.bytes B.returns hn hlocks hK ⟨hn, hk⟩ (fun t ht => ht) hY hR hd) h _ _ hY hR ls hl
set_option maxHeartbeats 4000000 in
set_option maxRecDepth 100000 in
theorem tX5_checksum_L59 (C0 : CallFix p m c cX5_checksum 5 s args wsX5_checksum RX5) (hK : Kx D (tyC ci) s) (K : Int64 → Prop) (σ : St) (hret : ∀ (r : Int64) (H : Heap) (locs : List Loc) (pc : Nat) (ls : Array Slot), K r → Sy D 132 ad A H0 (obC ad ci σ) H locs → decode cX5_checksum pc = .ok (.lreturn, 1) → W p l e rmX5_checksum s m args below meth c H locs 0 0 Q (F0 m pc ls [.long r])) : ∀ (n : Nat) (x1 : Int64) (x3 : Int32), wX5_checksum_L59 K σ n x1 x3 → ∀ (H : Heap) (locs : List Loc), Sy D 132 ad A H0 (obC ad ci σ) H locs → Rok σ → ∀ ls : Array Slot, lv_has ls 5 [(0, .ref (ad 0)), (1, .long x1), (3, .int x3)] → W p l e rmX5_checksum s m args below meth c H locs 0 0 Q (F0 m 59 ls []) := by
  obtain ⟨hx, hb, hml, hown, hts⟩ := id C0
  intro n
  induction n with
  | zero =>
    intro x1 x3 h
    exact h.elim
  | succ n ih =>
    intro x1 x3 h H locs hY hR  ls hl
    refine lv_iload_n hx hb dX5_checksum_59 rfl (lv_at hl 2 rfl) ?_
    refine lv_bipush (v := (6 : Int32)) hx hb dX5_checksum_60 (by decide) ?_
    refine lv_icmp_ge (tgt := 102) hx hb dX5_checksum_62 (by decide) (fun c_1 => ?_) (fun c_1 => ?_)
    · have h := h.1 c_1
      refine lv_lload_n hx hb dX5_checksum_102 rfl (lv_at hl 1 rfl) ?_
      exact hret x1 _ _ _ _ h hY dX5_checksum_103
    · have h := h.2 c_1
      refine lv_aload_n hx hb dX5_checksum_65 rfl (lv_at hl 0 rfl) ?_
      refine w_get (o := 0) (ci := 5) (C := RX5) (T := TX5) (N1 := 6) (v := .ref (ad 58)) hx hb hts kX5_checksum_inX5 hown hK.1 hY (by decide) obC_main rfl 3 (by decide) (hts _ kX5_checksum_0) rfl rfl dX5_checksum_66 ?_
      refine lv_iload_n hx hb dX5_checksum_69 rfl (lv_at hl 2 rfl) ?_
      refine w_callip (rest := [.ref (ad 58)]) (va_runS (As := [.int x3]) (rest := [.ref (ad 58)]) C0 (mX5_signOf l D ad ci A σ x3 _ hR  h) (va_cwS 1 hts gX5_checksum_X5_signOf rfl rfl rfl ddX5_signOf ⟨Nat.le_of_ble_eq_true rfl, Nat.le_of_ble_eq_true rfl⟩) (w_preS (ob := obC ad ci) (σ := σ) hK hY) rfl rfl hl.1 rfl (lv_room (Nat.le_of_ble_eq_true rfl)) dX5_checksum_70 ⟨Nat.zero_le _, Nat.zero_le _⟩) hY (fun r_2 H locs h hY => ?_)
      obtain ⟨n_r_2, h⟩ := h
      refine w_callrp (rest := []) (va_runV (As := [.int r_2]) (rest := []) C0 (mX0_codeOf l D ad ci A σ r_2 _ hR  h) (cwV 1 hts gX5_checksum_X0_codeOf rfl rfl rfl ddX0_codeOf ⟨Nat.le_of_ble_eq_true rfl, Nat.le_of_ble_eq_true rfl⟩) (w_preV (o := 58) (ci := 0) (ob := obC ad ci) (σ := σ) hK hY (by decide) obC_book rfl rfl) rfl rfl hl.1 rfl (lv_room (Nat.le_of_ble_eq_true rfl)) dX5_checksum_73 ⟨Nat.zero_le _, Nat.zero_le _⟩) hY (fun r_3 H locs h hY => ?_)
      obtain ⟨rr_3, h⟩ := h
      refine lv_astore (lv' := [(4, .ref (ad r_3)), (0, .ref (ad 0)), (1, .long x1), (3, .int x3)]) hx hb dX5_checksum_76 hl (by decide) rfl (fun ls hl => ?_)
      refine lv_aload hx hb dX5_checksum_78 (lv_at hl 0 rfl) ?_
      refine lv_ldc2 hx hb hown (hts _ kX5_checksum_2) dX5_checksum_80 ?_
      refine lv_lload_n hx hb dX5_checksum_83 rfl (lv_at hl 2 rfl) ?_
      refine lv_lmul hx hb dX5_checksum_84 ?_
      refine lv_aload hx hb dX5_checksum_85 (lv_at hl 0 rfl) ?_
      refine w_callip (rest := [.long ((31 : Int64) * x1), .ref (ad r_3)]) (va_runV (As := []) (rest := [.long ((31 : Int64) * x1), .ref (ad r_3)]) C0 (mX2_size l D ad ci A σ r_3 _ hR rr_3 h) (cwV 0 hts gX5_checksum_X2_size rfl rfl rfl ddX2_size ⟨Nat.le_of_ble_eq_true rfl, Nat.le_of_ble_eq_true rfl⟩) (w_preV (o := r_3) (ci := 2) (ob := obC ad ci) (σ := σ) hK hY (rowB_lt rr_3) (obC_row rr_3) rfl rfl) rfl rfl hl.1 rfl (lv_room (Nat.le_of_ble_eq_true rfl)) dX5_checksum_87 ⟨Nat.zero_le _, Nat.zero_le _⟩) hY (fun r_4 H locs h hY => ?_)
      refine lv_i2l hx hb dX5_checksum_90 rfl ?_
      refine lv_ladd hx hb dX5_checksum_91 ?_
      refine w_calllp (rest := []) (va_runV (As := [.long (((31 : Int64) * x1) + (r_4).toInt64)]) (rest := []) C0 (mX2_addTo l D ad ci A σ r_3 (((31 : Int64) * x1) + (r_4).toInt64) _ hR rr_3 h) (cwV 1 hts gX5_checksum_X2_addTo rfl rfl rfl ddX2_addTo ⟨Nat.le_of_ble_eq_true rfl, Nat.le_of_ble_eq_true rfl⟩) (w_preV (o := r_3) (ci := 2) (ob := obC ad ci) (σ := σ) hK hY (rowB_lt rr_3) (obC_row rr_3) rfl rfl) rfl rfl hl.1 rfl (lv_room (Nat.le_of_ble_eq_true rfl)) dX5_checksum_92 ⟨Nat.zero_le _, Nat.zero_le _⟩) hY (fun r_5 H locs h hY => ?_)
      refine lv_lstore_n (lv' := [(1, .long r_5), (4, .ref (ad r_3)), (0, .ref (ad 0)), (3, .int x3)]) hx hb dX5_checksum_95 rfl hl (by decide) rfl (fun ls hl => ?_)
      refine lv_iinc (v := (x3 + 1)) (lv' := [(3, .int (x3 + 1)), (1, .long r_5), (4, .ref (ad r_3)), (0, .ref (ad 0))]) hx hb dX5_checksum_96 hl (k := 3) rfl rfl (by decide) rfl (fun ls hl => ?_)
      refine lv_goto (tgt := 59) hx hb dX5_checksum_99 (by decide) ?_
      exact ih r_5 (x3 + 1) h _ _ hY hR  _ (lv_sub hl [3, 1, 0] rfl)
set_option maxHeartbeats 4000000 in
set_option maxRecDepth 100000 in
theorem tX5_checksum_L13 (C0 : CallFix p m c cX5_checksum 5 s args wsX5_checksum RX5) (hK : Kx D (tyC ci) s) (K : Int64 → Prop) (σ : St) (hret : ∀ (r : Int64) (H : Heap) (locs : List Loc) (pc : Nat) (ls : Array Slot), K r → Sy D 132 ad A H0 (obC ad ci σ) H locs → decode cX5_checksum pc = .ok (.lreturn, 1) → W p l e rmX5_checksum s m args below meth c H locs 0 0 Q (F0 m pc ls [.long r])) : ∀ (n : Nat) (x1 : Int64) (x3 : Int32), wX5_checksum_L13 K σ n x1 x3 → ∀ (H : Heap) (locs : List Loc), Sy D 132 ad A H0 (obC ad ci σ) H locs → Rok σ → ∀ ls : Array Slot, lv_has ls 5 [(0, .ref (ad 0)), (1, .long x1), (3, .int x3)] → W p l e rmX5_checksum s m args below meth c H locs 0 0 Q (F0 m 13 ls []) := by
  obtain ⟨hx, hb, hml, hown, hts⟩ := id C0
  intro n
  induction n with
  | zero =>
    intro x1 x3 h
    exact h.elim
  | succ n ih =>
    intro x1 x3 h H locs hY hR  ls hl
    refine lv_iload_n hx hb dX5_checksum_13 rfl (lv_at hl 2 rfl) ?_
    refine lv_aload_n hx hb dX5_checksum_14 rfl (lv_at hl 0 rfl) ?_
    refine w_get (o := 0) (ci := 5) (C := RX5) (T := TX5) (N1 := 6) (v := .ref (ad 5)) hx hb hts kX5_checksum_inX5 hown hK.1 hY (by decide) obC_main rfl 2 (by decide) (hts _ kX5_checksum_3) rfl rfl dX5_checksum_15 ?_
    refine w_callip (rest := [.int x3]) (va_runV (As := []) (rest := [.int x3]) C0 (mX4_size l D ad ci A σ _ hR  h) (cwV 0 hts gX5_checksum_X4_size rfl rfl rfl ddX4_size ⟨Nat.le_of_ble_eq_true rfl, Nat.le_of_ble_eq_true rfl⟩) (w_preV (o := 5) (ci := 4) (ob := obC ad ci) (σ := σ) hK hY (by decide) obC_list rfl rfl) rfl rfl hl.1 rfl (lv_room (Nat.le_of_ble_eq_true rfl)) dX5_checksum_18 ⟨Nat.zero_le _, Nat.zero_le _⟩) hY (fun r_6 H locs h hY => ?_)
    refine lv_icmp_ge (tgt := 57) hx hb dX5_checksum_21 (by decide) (fun c_7 => ?_) (fun c_7 => ?_)
    · have h := h.1 c_7
      refine lv_iconst (v := (0 : Int32)) hx hb dX5_checksum_57 (by decide) ?_
      refine lv_istore_n (lv' := [(3, .int (0 : Int32)), (0, .ref (ad 0)), (1, .long x1)]) hx hb dX5_checksum_58 rfl hl (by decide) rfl (fun ls hl => ?_)
      obtain ⟨n_8, h⟩ := h
      exact tX5_checksum_L59 C0 hK K σ hret n_8 x1 (0 : Int32) h _ _ hY hR  _ (lv_sub hl [1, 2, 0] rfl)
    · have h := h.2 c_7
      refine lv_ldc2 hx hb hown (hts _ kX5_checksum_2) dX5_checksum_24 ?_
      refine lv_aload_n hx hb dX5_checksum_27 rfl (lv_at hl 0 rfl) ?_
      refine w_get (o := 0) (ci := 5) (C := RX5) (T := TX5) (N1 := 6) (v := .ref (ad 5)) hx hb hts kX5_checksum_inX5 hown hK.1 hY (by decide) obC_main rfl 2 (by decide) (hts _ kX5_checksum_3) rfl rfl dX5_checksum_28 ?_
      refine lv_iload_n hx hb dX5_checksum_31 rfl (lv_at hl 2 rfl) ?_
      refine w_callrp (rest := [.long (31 : Int64)]) (va_runV (As := [.int x3]) (rest := [.long (31 : Int64)]) C0 (mX4_rowAt l D ad ci A σ x3 _ hR  h) (cwV 1 hts gX5_checksum_X4_rowAt rfl rfl rfl ddX4_rowAt ⟨Nat.le_of_ble_eq_true rfl, Nat.le_of_ble_eq_true rfl⟩) (w_preV (o := 5) (ci := 4) (ob := obC ad ci) (σ := σ) hK hY (by decide) obC_list rfl rfl) rfl rfl hl.1 rfl (lv_room (Nat.le_of_ble_eq_true rfl)) dX5_checksum_32 ⟨Nat.zero_le _, Nat.zero_le _⟩) hY (fun r_9 H locs h hY => ?_)
      obtain ⟨rr_9, h⟩ := h
      refine lv_lload_n hx hb dX5_checksum_35 rfl (lv_at hl 1 rfl) ?_
      refine w_calllp (rest := [.long (31 : Int64)]) (va_runV (As := [.long x1]) (rest := [.long (31 : Int64)]) C0 (mX2_addTo l D ad ci A σ r_9 x1 _ hR rr_9 h) (cwV 1 hts gX5_checksum_X2_addTo rfl rfl rfl ddX2_addTo ⟨Nat.le_of_ble_eq_true rfl, Nat.le_of_ble_eq_true rfl⟩) (w_preV (o := r_9) (ci := 2) (ob := obC ad ci) (σ := σ) hK hY (rowB_lt rr_9) (obC_row rr_9) rfl rfl) rfl rfl hl.1 rfl (lv_room (Nat.le_of_ble_eq_true rfl)) dX5_checksum_36 ⟨Nat.zero_le _, Nat.zero_le _⟩) hY (fun r_10 H locs h hY => ?_)
      refine lv_lmul hx hb dX5_checksum_39 ?_
      refine lv_aload_n hx hb dX5_checksum_40 rfl (lv_at hl 0 rfl) ?_
      refine w_get (o := 0) (ci := 5) (C := RX5) (T := TX5) (N1 := 6) (v := .ref (ad 5)) hx hb hts kX5_checksum_inX5 hown hK.1 hY (by decide) obC_main rfl 2 (by decide) (hts _ kX5_checksum_3) rfl rfl dX5_checksum_41 ?_
      refine lv_iload_n hx hb dX5_checksum_44 rfl (lv_at hl 2 rfl) ?_
      refine w_callip (rest := [.long ((31 : Int64) * r_10)]) (va_runV (As := [.int x3]) (rest := [.long ((31 : Int64) * r_10)]) C0 (mX4_numberAt l D ad ci A σ x3 _ hR  h) (cwV 1 hts gX5_checksum_X4_numberAt rfl rfl rfl ddX4_numberAt ⟨Nat.le_of_ble_eq_true rfl, Nat.le_of_ble_eq_true rfl⟩) (w_preV (o := 5) (ci := 4) (ob := obC ad ci) (σ := σ) hK hY (by decide) obC_list rfl rfl) rfl rfl hl.1 rfl (lv_room (Nat.le_of_ble_eq_true rfl)) dX5_checksum_45 ⟨Nat.zero_le _, Nat.zero_le _⟩) hY (fun r_11 H locs h hY => ?_)
      refine lv_i2l hx hb dX5_checksum_48 rfl ?_
      refine lv_ladd hx hb dX5_checksum_49 ?_
      refine lv_topl (fun x1_12 e_x1_12 => ?_)
      have h := h x1_12 e_x1_12
      refine lv_lstore_n (lv' := [(1, .long x1_12), (0, .ref (ad 0)), (3, .int x3)]) hx hb dX5_checksum_50 rfl hl (by decide) rfl (fun ls hl => ?_)
      refine lv_iinc (v := (x3 + 1)) (lv' := [(3, .int (x3 + 1)), (1, .long x1_12), (0, .ref (ad 0))]) hx hb dX5_checksum_51 hl (k := 2) rfl rfl (by decide) rfl (fun ls hl => ?_)
      refine lv_goto (tgt := 13) hx hb dX5_checksum_54 (by decide) ?_
      exact ih x1_12 (x3 + 1) h _ _ hY hR  _ (lv_sub hl [2, 1, 0] rfl)
set_option maxHeartbeats 4000000 in
set_option maxRecDepth 100000 in
theorem eX5_checksum (C0 : CallFix p m c cX5_checksum 5 s args wsX5_checksum RX5) (hK : Kx D (tyC ci) s) (K : Int64 → Prop) (σ : St) (hret : ∀ (r : Int64) (H : Heap) (locs : List Loc) (pc : Nat) (ls : Array Slot), K r → Sy D 132 ad A H0 (obC ad ci σ) H locs → decode cX5_checksum pc = .ok (.lreturn, 1) → W p l e rmX5_checksum s m args below meth c H locs 0 0 Q (F0 m pc ls [.long r])) (h : wX5_checksum σ K) (H : Heap) (locs : List Loc) (hY : Sy D 132 ad A H0 (obC ad ci σ) H locs) (hR : Rok σ) (ls : Array Slot) (hl : lv_has ls 5 [(0, .ref (ad 0))]) : W p l e rmX5_checksum s m args below meth c H locs 0 0 Q (F0 m 0 ls []) := by
  obtain ⟨hx, hb, hml, hown, hts⟩ := id C0
  refine lv_aload_n hx hb dX5_checksum_0 rfl (lv_at hl 0 rfl) ?_
  refine w_get (o := 0) (ci := 5) (C := RX5) (T := TX5) (N1 := 6) (v := .ref (ad 1)) hx hb hts kX5_checksum_inX5 hown hK.1 hY (by decide) obC_main rfl 0 (by decide) (hts _ kX5_checksum_4) rfl rfl dX5_checksum_1 ?_
  refine lv_ldc2 hx hb hown (hts _ kX5_checksum_5) dX5_checksum_4 ?_
  refine w_calllp (rest := []) (va_runV (As := [.long (7 : Int64)]) (rest := []) C0 (mX2_addTo l D ad ci A σ 1 (7 : Int64) _ hR (by decide) h) (cwV 1 hts gX5_checksum_X2_addTo rfl rfl rfl ddX2_addTo ⟨Nat.le_of_ble_eq_true rfl, Nat.le_of_ble_eq_true rfl⟩) (w_preV (o := 1) (ci := 2) (ob := obC ad ci) (σ := σ) hK hY (rowB_lt (by decide)) (obC_row (by decide)) rfl rfl) rfl rfl hl.1 rfl (lv_room (Nat.le_of_ble_eq_true rfl)) dX5_checksum_7 ⟨Nat.zero_le _, Nat.zero_le _⟩) hY (fun r_13 H locs h hY => ?_)
  refine lv_lstore_n (lv' := [(1, .long r_13), (0, .ref (ad 0))]) hx hb dX5_checksum_10 rfl hl (by decide) rfl (fun ls hl => ?_)
  refine lv_iconst (v := (0 : Int32)) hx hb dX5_checksum_11 (by decide) ?_
  refine lv_istore_n (lv' := [(3, .int (0 : Int32)), (1, .long r_13), (0, .ref (ad 0))]) hx hb dX5_checksum_12 rfl hl (by decide) rfl (fun ls hl => ?_)
  obtain ⟨n_14, h⟩ := h
  exact tX5_checksum_L13 C0 hK K σ hret n_14 r_13 (0 : Int32) h _ _ hY hR  _ (lv_sub hl [2, 1, 0] rfl)
set_option maxHeartbeats 4000000 in
set_option maxRecDepth 100000 in
theorem mX5_checksum (l : Launch) (D : va_G) (ad : Nat → Nat) (ci : Nat → ClassId) (A : Nat → Prop) (σ : St) (K : Int64 → Prop) (hR : Rok σ) (h : wX5_checksum σ K) : Met l yX5_checksum wsX5_checksum rmX5_checksum (va_Pc [.ref (ad 0)] (PreW D 132 ad A (tyC ci) (obC ad ci σ))) (va_Ql (fun r (_ : Unit) => K r) (fun _ => (PostW D 132 ad (tyC ci) (obC ad ci) Rok σ)) A) 0 0 A := by
  refine Met.ofW (cc := cX5_checksum) (maxL := 5) (ret := (some .long)) (by decide) rfl ?_
  intro p e s m args below meth c s₁ B hml hv
  obtain ⟨rfl, hP, hK, hD⟩ := hv
  have C0 : CallFix p m c cX5_checksum 5 s _ wsX5_checksum RX5 := ⟨B.exec, B.bytes, hml, findClass_of_methodNamed B.named, atoms_spec (ws := wsX5_checksum) B.pre⟩
  have hlocks := B.notSynchronized
  have hY : Sy D 132 ad A s.heap (obC ad ci σ) s.heap [] := ⟨hP, hD, va_S.rf⟩
  have hl := lv_entry ([.ref (ad 0)]) (n := 5) (Nat.le_of_ble_eq_true rfl)
  rw [lg_entry_eq]
  generalize (lg_sl ([.ref (ad 0)]) ++ List.replicate (5 - (lg_sl ([.ref (ad 0)])).length) Slot.unset).toArray = ls at hl ⊢
  exact eX5_checksum C0 hK K σ (fun r H locs pc ls hk hY hd => w_lret (I := Rok) B.exec B.bytes B.returns hlocks (u := ()) hK hk (fun t ht => ht) hY hR hd) h _ _ hY hR ls hl
set_option maxHeartbeats 4000000 in
set_option maxRecDepth 100000 in
theorem eX5_rankNear (C0 : CallFix p m c cX5_rankNear 2 s args wsX5_rankNear RX5) (hK : Kx D (tyC ci) s) (K : Int32 → Prop) (σ : St) (hret : ∀ (r : Int32) (H : Heap) (locs : List Loc) (pc : Nat) (ls : Array Slot), K r → Sy D 132 ad A H0 (obC ad ci σ) H locs → decode cX5_rankNear pc = .ok (.ireturn, 1) → W p l e rmX5_rankNear s m args below meth c H locs 0 0 Q (F0 m pc ls [.int r])) (x1 : Int32) (h : wX5_rankNear σ x1 K) (H : Heap) (locs : List Loc) (hY : Sy D 132 ad A H0 (obC ad ci σ) H locs) (hR : Rok σ) (ls : Array Slot) (hl : lv_has ls 2 [(0, .ref (ad 0)), (1, .int x1)]) : W p l e rmX5_rankNear s m args below meth c H locs 0 0 Q (F0 m 0 ls []) := by
  obtain ⟨hx, hb, hml, hown, hts⟩ := id C0
  refine lv_iload_n hx hb dX5_rankNear_0 rfl (lv_at hl 1 rfl) ?_
  refine lv_bipush (v := (102 : Int32)) hx hb dX5_rankNear_1 (by decide) ?_
  refine lv_icmp_ne (tgt := 20) hx hb dX5_rankNear_3 (by decide) (fun c_1 => ?_) (fun c_1 => ?_)
  · have h := h.2 c_1
    refine lv_iload_n hx hb dX5_rankNear_20 rfl (lv_at hl 1 rfl) ?_
    refine lv_bipush (v := (99 : Int32)) hx hb dX5_rankNear_21 (by decide) ?_
    refine lv_icmp_ne (tgt := 38) hx hb dX5_rankNear_23 (by decide) (fun c_2 => ?_) (fun c_2 => ?_)
    · have h := h.2 c_2
      refine lv_iload_n hx hb dX5_rankNear_38 rfl (lv_at hl 1 rfl) ?_
      refine lv_bipush (v := (108 : Int32)) hx hb dX5_rankNear_39 (by decide) ?_
      refine lv_icmp_ne (tgt := 58) hx hb dX5_rankNear_41 (by decide) (fun c_3 => ?_) (fun c_3 => ?_)
      · have h := h.2 c_3
        refine lv_aload_n hx hb dX5_rankNear_58 rfl (lv_at hl 0 rfl) ?_
        refine w_get (o := 0) (ci := 5) (C := RX5) (T := TX5) (N1 := 6) (v := .ref (ad 5)) hx hb hts kX5_rankNear_inX5 hown hK.1 hY (by decide) obC_main rfl 2 (by decide) (hts _ kX5_rankNear_0) rfl rfl dX5_rankNear_59 ?_
        refine lv_aload_n hx hb dX5_rankNear_62 rfl (lv_at hl 0 rfl) ?_
        refine w_get (o := 0) (ci := 5) (C := RX5) (T := TX5) (N1 := 6) (v := .ref (ad 1)) hx hb hts kX5_rankNear_inX5 hown hK.1 hY (by decide) obC_main rfl 0 (by decide) (hts _ kX5_rankNear_2) rfl rfl dX5_rankNear_63 ?_
        refine w_callip (rest := []) (va_runV (As := [.ref (ad 1)]) (rest := []) C0 (mX4_countNotGreater l D ad ci A σ 1 _ hR (by decide) h) (cwV 1 hts gX5_rankNear_X4_countNotGreater rfl rfl rfl ddX4_countNotGreater ⟨Nat.le_of_ble_eq_true rfl, Nat.le_of_ble_eq_true rfl⟩) (w_preV (o := 5) (ci := 4) (ob := obC ad ci) (σ := σ) hK hY (by decide) obC_list rfl rfl) rfl rfl hl.1 rfl (lv_room (Nat.le_of_ble_eq_true rfl)) dX5_rankNear_66 ⟨Nat.zero_le _, Nat.zero_le _⟩) hY (fun r_4 H locs h hY => ?_)
        exact hret r_4 _ _ _ _ h hY dX5_rankNear_69
      · have h := h.1 c_3
        refine lv_aload_n hx hb dX5_rankNear_44 rfl (lv_at hl 0 rfl) ?_
        refine w_get (o := 0) (ci := 5) (C := RX5) (T := TX5) (N1 := 6) (v := .ref (ad 5)) hx hb hts kX5_rankNear_inX5 hown hK.1 hY (by decide) obC_main rfl 2 (by decide) (hts _ kX5_rankNear_0) rfl rfl dX5_rankNear_45 ?_
        refine lv_aload_n hx hb dX5_rankNear_48 rfl (lv_at hl 0 rfl) ?_
        refine w_get (o := 0) (ci := 5) (C := RX5) (T := TX5) (N1 := 6) (v := .ref (ad 1)) hx hb hts kX5_rankNear_inX5 hown hK.1 hY (by decide) obC_main rfl 0 (by decide) (hts _ kX5_rankNear_2) rfl rfl dX5_rankNear_49 ?_
        refine w_callip (rest := []) (va_runV (As := [.ref (ad 1)]) (rest := []) C0 (mX4_countLess l D ad ci A σ 1 _ hR (by decide) h) (cwV 1 hts gX5_rankNear_X4_countLess rfl rfl rfl ddX4_countLess ⟨Nat.le_of_ble_eq_true rfl, Nat.le_of_ble_eq_true rfl⟩) (w_preV (o := 5) (ci := 4) (ob := obC ad ci) (σ := σ) hK hY (by decide) obC_list rfl rfl) rfl rfl hl.1 rfl (lv_room (Nat.le_of_ble_eq_true rfl)) dX5_rankNear_52 ⟨Nat.zero_le _, Nat.zero_le _⟩) hY (fun r_5 H locs h hY => ?_)
        refine lv_iconst (v := (1 : Int32)) hx hb dX5_rankNear_55 (by decide) ?_
        refine lv_isub hx hb dX5_rankNear_56 ?_
        exact hret (r_5 - (1 : Int32)) _ _ _ _ h hY dX5_rankNear_57
    · have h := h.1 c_2
      refine lv_aload_n hx hb dX5_rankNear_26 rfl (lv_at hl 0 rfl) ?_
      refine w_get (o := 0) (ci := 5) (C := RX5) (T := TX5) (N1 := 6) (v := .ref (ad 5)) hx hb hts kX5_rankNear_inX5 hown hK.1 hY (by decide) obC_main rfl 2 (by decide) (hts _ kX5_rankNear_0) rfl rfl dX5_rankNear_27 ?_
      refine lv_aload_n hx hb dX5_rankNear_30 rfl (lv_at hl 0 rfl) ?_
      refine w_get (o := 0) (ci := 5) (C := RX5) (T := TX5) (N1 := 6) (v := .ref (ad 1)) hx hb hts kX5_rankNear_inX5 hown hK.1 hY (by decide) obC_main rfl 0 (by decide) (hts _ kX5_rankNear_2) rfl rfl dX5_rankNear_31 ?_
      refine w_callip (rest := []) (va_runV (As := [.ref (ad 1)]) (rest := []) C0 (mX4_countLess l D ad ci A σ 1 _ hR (by decide) h) (cwV 1 hts gX5_rankNear_X4_countLess rfl rfl rfl ddX4_countLess ⟨Nat.le_of_ble_eq_true rfl, Nat.le_of_ble_eq_true rfl⟩) (w_preV (o := 5) (ci := 4) (ob := obC ad ci) (σ := σ) hK hY (by decide) obC_list rfl rfl) rfl rfl hl.1 rfl (lv_room (Nat.le_of_ble_eq_true rfl)) dX5_rankNear_34 ⟨Nat.zero_le _, Nat.zero_le _⟩) hY (fun r_6 H locs h hY => ?_)
      exact hret r_6 _ _ _ _ h hY dX5_rankNear_37
  · have h := h.1 c_1
    refine lv_aload_n hx hb dX5_rankNear_6 rfl (lv_at hl 0 rfl) ?_
    refine w_get (o := 0) (ci := 5) (C := RX5) (T := TX5) (N1 := 6) (v := .ref (ad 5)) hx hb hts kX5_rankNear_inX5 hown hK.1 hY (by decide) obC_main rfl 2 (by decide) (hts _ kX5_rankNear_0) rfl rfl dX5_rankNear_7 ?_
    refine lv_aload_n hx hb dX5_rankNear_10 rfl (lv_at hl 0 rfl) ?_
    refine w_get (o := 0) (ci := 5) (C := RX5) (T := TX5) (N1 := 6) (v := .ref (ad 1)) hx hb hts kX5_rankNear_inX5 hown hK.1 hY (by decide) obC_main rfl 0 (by decide) (hts _ kX5_rankNear_2) rfl rfl dX5_rankNear_11 ?_
    refine w_callip (rest := []) (va_runV (As := [.ref (ad 1)]) (rest := []) C0 (mX4_countNotGreater l D ad ci A σ 1 _ hR (by decide) h) (cwV 1 hts gX5_rankNear_X4_countNotGreater rfl rfl rfl ddX4_countNotGreater ⟨Nat.le_of_ble_eq_true rfl, Nat.le_of_ble_eq_true rfl⟩) (w_preV (o := 5) (ci := 4) (ob := obC ad ci) (σ := σ) hK hY (by decide) obC_list rfl rfl) rfl rfl hl.1 rfl (lv_room (Nat.le_of_ble_eq_true rfl)) dX5_rankNear_14 ⟨Nat.zero_le _, Nat.zero_le _⟩) hY (fun r_7 H locs h hY => ?_)
    refine lv_iconst (v := (1 : Int32)) hx hb dX5_rankNear_17 (by decide) ?_
    refine lv_isub hx hb dX5_rankNear_18 ?_
    exact hret (r_7 - (1 : Int32)) _ _ _ _ h hY dX5_rankNear_19
set_option maxHeartbeats 4000000 in
set_option maxRecDepth 100000 in
theorem mX5_rankNear (l : Launch) (D : va_G) (ad : Nat → Nat) (ci : Nat → ClassId) (A : Nat → Prop) (σ : St) (x1 : Int32) (K : Int32 → Prop) (hR : Rok σ) (h : wX5_rankNear σ x1 K) : Met l yX5_rankNear wsX5_rankNear rmX5_rankNear (va_Pc [.ref (ad 0), .int x1] (PreW D 132 ad A (tyC ci) (obC ad ci σ))) (va_Qi (fun r (_ : Unit) => K r) (fun _ => (PostW D 132 ad (tyC ci) (obC ad ci) Rok σ)) A) 0 0 A := by
  refine Met.ofW (cc := cX5_rankNear) (maxL := 2) (ret := (some .int)) (by decide) rfl ?_
  intro p e s m args below meth c s₁ B hml hv
  obtain ⟨rfl, hP, hK, hD⟩ := hv
  have C0 : CallFix p m c cX5_rankNear 2 s _ wsX5_rankNear RX5 := ⟨B.exec, B.bytes, hml, findClass_of_methodNamed B.named, atoms_spec (ws := wsX5_rankNear) B.pre⟩
  have hlocks := B.notSynchronized
  have hY : Sy D 132 ad A s.heap (obC ad ci σ) s.heap [] := ⟨hP, hD, va_S.rf⟩
  have hl := lv_entry ([.ref (ad 0), .int x1]) (n := 2) (Nat.le_of_ble_eq_true rfl)
  rw [lg_entry_eq]
  generalize (lg_sl ([.ref (ad 0), .int x1]) ++ List.replicate (2 - (lg_sl ([.ref (ad 0), .int x1])).length) Slot.unset).toArray = ls at hl ⊢
  exact eX5_rankNear C0 hK K σ (fun r H locs pc ls hk hY hd => w_iret (I := Rok) B.exec B.bytes B.returns hlocks (u := ()) hK hk (fun t ht => ht) hY hR hd) x1 h _ _ hY hR ls hl
end
