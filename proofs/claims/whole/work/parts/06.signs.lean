/-! signs: what each method does, as predicates over the state; the walks of their bytecode -/
def wX5_isSign (σ : St) (x0 : Int32) (K : Int32 → Prop) : Prop := ((x0 < (97 : Int32) → K (0 : Int32)) ∧ (¬ x0 < (97 : Int32) → (((103 : Int32) ≤ x0 → K (0 : Int32)) ∧ (¬ (103 : Int32) ≤ x0 → K (1 : Int32)))))
def wX5_signOf (σ : St) (x0 : Int32) (K : Int32 → Prop) : Prop := K ((((97 : Int32) + x0)).toUInt32 % 65536).toInt32
abbrev rmX5_isSign : Room := { frames := 0, cells := 0, slots := 0, locals := 0 }
theorem ddX5_isSign : yX5_isSign.cls ≠ "java/lang/invoke/MethodHandle" ∧ yX5_isSign.cls ≠ "java/lang/invoke/VarHandle" ∧ (parseMethodDescriptor yX5_isSign.desc).map (fun d => d.parameters.length) = some 1 := by decide +kernel
abbrev rmX5_signOf : Room := { frames := 0, cells := 0, slots := 0, locals := 0 }
theorem ddX5_signOf : yX5_signOf.cls ≠ "java/lang/invoke/MethodHandle" ∧ yX5_signOf.cls ≠ "java/lang/invoke/VarHandle" ∧ (parseMethodDescriptor yX5_signOf.desc).map (fun d => d.parameters.length) = some 1 := by decide +kernel
section
variable {p : Program} {l : Launch} {e : Env} {s : State} {m : MethodId} {args : Array Value} {below : List Frame} {meth : Method} {c : Code} {Q : State → Prop} {D : va_G} {ad : Nat → Nat} {ci : Nat → ClassId} {A : Nat → Prop} {H0 : Heap}
set_option maxHeartbeats 4000000 in
set_option maxRecDepth 100000 in
theorem eX5_isSign (C0 : CallFix p m c cX5_isSign 1 s args wsX5_isSign RX5) (hK : Kx D (tyC ci) s) (K : Int32 → Prop) (σ : St) (hret : ∀ (r : Int32) (H : Heap) (locs : List Loc) (pc : Nat) (ls : Array Slot), narrow .boolean (.int r) = .int r → K r → Sy D 132 ad A H0 (obC ad ci σ) H locs → decode cX5_isSign pc = .ok (.ireturn, 1) → W p l e rmX5_isSign s m args below meth c H locs 0 0 Q (F0 m pc ls [.int r])) (x0 : Int32) (h : wX5_isSign σ x0 K) (H : Heap) (locs : List Loc) (hY : Sy D 132 ad A H0 (obC ad ci σ) H locs) (hR : Rok σ) (ls : Array Slot) (hl : lv_has ls 1 [(0, .int x0)]) : W p l e rmX5_isSign s m args below meth c H locs 0 0 Q (F0 m 0 ls []) := by
  obtain ⟨hx, hb, hml, hown, hts⟩ := id C0
  refine lv_iload_n hx hb dX5_isSign_0 rfl (lv_at hl 0 rfl) ?_
  refine lv_bipush (v := (97 : Int32)) hx hb dX5_isSign_1 (by decide) ?_
  refine lv_icmp_lt (tgt := 16) hx hb dX5_isSign_3 (by decide) (fun c_1 => ?_) (fun c_1 => ?_)
  · have h := h.1 c_1
    refine lv_iconst (v := (0 : Int32)) hx hb dX5_isSign_16 (by decide) ?_
    exact hret (0 : Int32) _ _ _ _ rfl h hY dX5_isSign_17
  · have h := h.2 c_1
    refine lv_iload_n hx hb dX5_isSign_6 rfl (lv_at hl 0 rfl) ?_
    refine lv_bipush (v := (103 : Int32)) hx hb dX5_isSign_7 (by decide) ?_
    refine lv_icmp_ge (tgt := 16) hx hb dX5_isSign_9 (by decide) (fun c_2 => ?_) (fun c_2 => ?_)
    · have h := h.1 c_2
      refine lv_iconst (v := (0 : Int32)) hx hb dX5_isSign_16 (by decide) ?_
      exact hret (0 : Int32) _ _ _ _ rfl h hY dX5_isSign_17
    · have h := h.2 c_2
      refine lv_iconst (v := (1 : Int32)) hx hb dX5_isSign_12 (by decide) ?_
      refine lv_goto (tgt := 17) hx hb dX5_isSign_13 (by decide) ?_
      exact hret (1 : Int32) _ _ _ _ rfl h hY dX5_isSign_17
set_option maxHeartbeats 4000000 in
set_option maxRecDepth 100000 in
theorem mX5_isSign (l : Launch) (D : va_G) (ad : Nat → Nat) (ci : Nat → ClassId) (A : Nat → Prop) (σ : St) (x0 : Int32) (K : Int32 → Prop) (hR : Rok σ) (h : wX5_isSign σ x0 K) : Met l yX5_isSign wsX5_isSign rmX5_isSign (va_Pc [.int x0] (PreW D 132 ad A (tyC ci) (obC ad ci σ))) (va_Qi (fun r (_ : Unit) => narrow .boolean (.int r) = .int r ∧ K r) (fun _ => (PostW D 132 ad (tyC ci) (obC ad ci) Rok σ)) A) 0 0 A := by
  refine Met.ofW (cc := cX5_isSign) (maxL := 1) (ret := (some .boolean)) (by decide) rfl ?_
  intro p e s m args below meth c s₁ B hml hv
  obtain ⟨rfl, hP, hK, hD⟩ := hv
  have C0 : CallFix p m c cX5_isSign 1 s _ wsX5_isSign RX5 := ⟨B.exec, B.bytes, hml, findClass_of_methodNamed B.named, atoms_spec (ws := wsX5_isSign) B.pre⟩
  have hlocks := B.notSynchronized
  have hY : Sy D 132 ad A s.heap (obC ad ci σ) s.heap [] := ⟨hP, hD, va_S.rf⟩
  have hl := lv_entry ([.int x0]) (n := 1) (Nat.le_of_ble_eq_true rfl)
  rw [lg_entry_eq]
  generalize (lg_sl ([.int x0]) ++ List.replicate (1 - (lg_sl ([.int x0])).length) Slot.unset).toArray = ls at hl ⊢
  exact eX5_isSign C0 hK K σ (fun r H locs pc ls hn hk hY hd => w_zret (I := Rok) B.exec B.bytes B.returns hn hlocks (u := ()) hK ⟨hn, hk⟩ (fun t ht => ht) hY hR hd) x0 h _ _ hY hR ls hl
set_option maxHeartbeats 4000000 in
set_option maxRecDepth 100000 in
theorem eX5_signOf (C0 : CallFix p m c cX5_signOf 1 s args wsX5_signOf RX5) (hK : Kx D (tyC ci) s) (K : Int32 → Prop) (σ : St) (hret : ∀ (r : Int32) (H : Heap) (locs : List Loc) (pc : Nat) (ls : Array Slot), narrow .char (.int r) = .int r → K r → Sy D 132 ad A H0 (obC ad ci σ) H locs → decode cX5_signOf pc = .ok (.ireturn, 1) → W p l e rmX5_signOf s m args below meth c H locs 0 0 Q (F0 m pc ls [.int r])) (x0 : Int32) (h : wX5_signOf σ x0 K) (H : Heap) (locs : List Loc) (hY : Sy D 132 ad A H0 (obC ad ci σ) H locs) (hR : Rok σ) (ls : Array Slot) (hl : lv_has ls 1 [(0, .int x0)]) : W p l e rmX5_signOf s m args below meth c H locs 0 0 Q (F0 m 0 ls []) := by
  obtain ⟨hx, hb, hml, hown, hts⟩ := id C0
  refine lv_bipush (v := (97 : Int32)) hx hb dX5_signOf_0 (by decide) ?_
  refine lv_iload_n hx hb dX5_signOf_2 rfl (lv_at hl 0 rfl) ?_
  refine lv_iadd hx hb dX5_signOf_3 ?_
  refine lv_i2c hx hb dX5_signOf_4 rfl ?_
  exact hret ((((97 : Int32) + x0)).toUInt32 % 65536).toInt32 _ _ _ _ (pk_nc _) h hY dX5_signOf_5
set_option maxHeartbeats 4000000 in
set_option maxRecDepth 100000 in
theorem mX5_signOf (l : Launch) (D : va_G) (ad : Nat → Nat) (ci : Nat → ClassId) (A : Nat → Prop) (σ : St) (x0 : Int32) (K : Int32 → Prop) (hR : Rok σ) (h : wX5_signOf σ x0 K) : Met l yX5_signOf wsX5_signOf rmX5_signOf (va_Pc [.int x0] (PreW D 132 ad A (tyC ci) (obC ad ci σ))) (va_Qi (fun r (_ : Unit) => narrow .char (.int r) = .int r ∧ K r) (fun _ => (PostW D 132 ad (tyC ci) (obC ad ci) Rok σ)) A) 0 0 A := by
  refine Met.ofW (cc := cX5_signOf) (maxL := 1) (ret := (some .char)) (by decide) rfl ?_
  intro p e s m args below meth c s₁ B hml hv
  obtain ⟨rfl, hP, hK, hD⟩ := hv
  have C0 : CallFix p m c cX5_signOf 1 s _ wsX5_signOf RX5 := ⟨B.exec, B.bytes, hml, findClass_of_methodNamed B.named, atoms_spec (ws := wsX5_signOf) B.pre⟩
  have hlocks := B.notSynchronized
  have hY : Sy D 132 ad A s.heap (obC ad ci σ) s.heap [] := ⟨hP, hD, va_S.rf⟩
  have hl := lv_entry ([.int x0]) (n := 1) (Nat.le_of_ble_eq_true rfl)
  rw [lg_entry_eq]
  generalize (lg_sl ([.int x0]) ++ List.replicate (1 - (lg_sl ([.int x0])).length) Slot.unset).toArray = ls at hl ⊢
  exact eX5_signOf C0 hK K σ (fun r H locs pc ls hn hk hY hd => w_zret (I := Rok) B.exec B.bytes B.returns hn hlocks (u := ()) hK ⟨hn, hk⟩ (fun t ht => ht) hY hR hd) x0 h _ _ hY hR ls hl
end
