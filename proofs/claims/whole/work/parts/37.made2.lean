/-! the state of a new object -/
def S0 : St := (fun k => if 60 ≤ k ∧ k < 72 ∧ k % 2 = 0 then 1 else 0, fun a i => if 60 ≤ a ∧ a < 72 ∧ a % 2 = 0 ∧ i = 0 then nI (97 + (a - 60) / 2) else 0, fun _ => 0, fun i => 7 + 2 * i)
theorem S0_I {k : Nat} (h : k < 60 ∨ 72 ≤ k) : gI S0 k = 0 := if_neg (by omega)
theorem S0_A {k : Nat} (h : k < 60 ∨ 72 ≤ k) : gA S0 k = fun _ => 0 := funext fun i => if_neg (by omega)
theorem ob_row {ad : Nat → Nat} {ci : Nat → ClassId} {o : Nat} (h : rowB o = true) (h2 : o < 60 ∨ 72 ≤ o) : obC ad ci S0 o = .inr (2, [.ref (ad (o + 1)), .int 0]) := by rw [obC_row h, S0_I h2]
theorem ob_chars {ad : Nat → Nat} {ci : Nat → ClassId} {o : Nat} (h : rowB o = true) (h2 : o < 60 ∨ 72 ≤ o) : obC ad ci S0 (o + 1) = .inl (ci 0, capC o, .inl fun _ => 0) := by rw [obC_chars h, S0_A h2]
theorem ob_ints {ad : Nat → Nat} {ci : Nat → ClassId} {o : Nat} (h : kiC o = 5) (h2 : o < 60 ∨ 72 ≤ o) : obC ad ci S0 o = .inl (ci 1, capC o, .inl fun _ => 0) := by
  unfold obC
  rw [h]
  show Sum.inl (ci 1, capC o, Sum.inl (gA S0 o)) = _
  rw [S0_A h2]
theorem ite_lo {N o : Nat} {a b : va_E} (h : o < N) : (if o < N then a else b) = a := if_pos h
theorem ite_hi {N o : Nat} {a b : va_E} (h : N ≤ o) : (if o < N then a else b) = b := if_neg (by omega)
section ZR
variable {p : Program} {l : Launch} {e : Env} {R : Room} {s : State} {m : MethodId} {args : Array Value} {below : List Frame} {meth : Method} {c : Code} {H : Heap} {locs : List Loc} {cells slots : Nat} {Q : State → Prop}
variable {cc : ByteArray} {pc pc2 nL iN iM : Nat} {ls : Array Slot} {rest : List Value} {D : va_G} {tys : List (ClassId × FieldType)} {Ts : List Cond} {own : String} {sz N room : Nat} {ob ob' : Nat → va_E} {ci : Nat → ClassId}
set_option maxHeartbeats 4000000 in
set_option maxRecDepth 100000 in
/-- new Row(room) -/
theorem z_row (C0 : CallFix p m c cc nL s args Ts own) (hK : Kz D tys s) (hA : ∀ q, s.heap.size ≤ q → Az sz q) (hn : s.heap.size + cells ≤ sz + N) (hty : tys[0]? = some (ci 0, .char)) (hsize : ls.size = nL) (hin2 : ∀ w ∈ wsX20, w ∈ Ts) (hG : GoodIn Ts wsX2_init)
    (hcl : (Cond.classLink own iN RX2).before args s = true) (hinst : (Cond.instantiable RX2 2).before args s = true) (hini : (Cond.initialized RX2).before args s = true) (hlM : (Cond.methodLink own iM yX2_init).before args s = true) (hiM : (Cond.instanceMethod yX2_init).before args s = true)
    (hroom : room ≤ 30) (hfr : 2 ≤ R.frames ∧ 35 ≤ R.locals) (hcells : cells + 2 ≤ R.cells) (hslots : slots + 2 + room ≤ R.slots) (hrest : (rest.map fun v => v.category).sum ≤ 6)
    (d0 : decode cc pc = .ok (.new iN, 3)) (d3 : decode cc (pc + 3) = .ok (.dup, 1)) (hpush : ∀ (H : Heap) (locs : List Loc) (cells slots : Nat) (st : List Value), W p l e R s m args below meth c H locs cells slots Q (F0 m pc2 ls (.int (nI room) :: st)) → W p l e R s m args below meth c H locs cells slots Q (F0 m (pc + 4) ls st)) (d2 : decode cc pc2 = .ok (.invokespecial iM, 3))
    (hY : Sy D N (adz sz) (Az sz) s.heap ob H locs) (h1 : ∀ o, o < N → ob' o = ob o) (h2 : ob' N = .inr (2, [.ref (sz + (N + 1)), .int 0])) (h3 : ob' (N + 1) = .inl (ci 0, room, .inl fun _ => 0))
    (kk : ∀ (H1 : Heap) (locs1 : List Loc), Sy D (N + 2) (adz sz) (Az sz) s.heap ob' H1 locs1 → W p l e R s m args below meth c H1 locs1 (cells + 2) (slots + 2 + room) Q (F0 m (pc2 + 3) ls (.ref (sz + N) :: rest))) : W p l e R s m args below meth c H locs cells slots Q (F0 m pc ls rest) := by
  obtain ⟨hx, hb, hml, hown, hts⟩ := id C0
  refine va_new (ci := 2) (fs := [.null, .int 0]) (C := RX2) (T := TX2) (N := 2) hx hb hts hin2 tyX2 tyX2_ok hown hcl hinst hini hK.1.1 hY.1 hY.2.1 hY.2.2 hA rfl (fun j hj => by rcases (show j = 0 ∨ j = 1 by omega) with rfl | rfl <;> rfl) (by omega) (by omega) d0 (fun q H1 hP1 hD1 hS1 => W_size fun hz => ?_)
  obtain ⟨rfl, hY⟩ := z_fix (ob' := fun o => if o < N then ob o else .inr (2, [.null, .int 0])) hP1 hD1 hS1 (by omega) (fun o ho => if_pos ho) (if_neg (by omega))
  have hz2 := z_full hY (by omega)
  refine lv_dup hx hb d3 rfl ?_
  refine hpush _ _ _ _ _ ?_
  refine z_callv (N' := N + 2) (ob' := ob') (va_runI (As := [.int (nI room)]) (rest := .ref (sz + N) :: rest) C0 (mX2_init l D sz N ci tys hty room hroom (fun o => if o < N then ob o else .inr (2, [.null, .int 0])) ob' (if_neg (by omega)) (fun o ho => (h1 o ho).trans (if_pos ho).symm) h2 h3) (cwI 1 hts hG rfl rfl rfl hini hlM hiM rfl ddX2_init ⟨hfr.1, hfr.2⟩) (z_pre hK hz2 hY) rfl rfl hsize rfl (lv_room (by rw [List.map_cons, List.sum_cons]; have e : (Value.ref (sz + N)).category = 1 := rfl; omega)) d2 ⟨by omega, by omega⟩) hY hz2.symm (by omega) (fun H2 locs2 hY => kk H2 locs2 hY)
end ZR
abbrev rmX3_init : Room := { frames := 2, cells := 4, slots := 52, locals := 40 }
theorem ddX3_init : yX3_init.cls ≠ "java/lang/invoke/MethodHandle" ∧ yX3_init.cls ≠ "java/lang/invoke/VarHandle" ∧ (parseMethodDescriptor yX3_init.desc).map (fun d => d.parameters.length) = some 0 := by decide +kernel
theorem kX3_init_in : ∀ w ∈ wsX30, w ∈ wsX3_init := by decide +kernel
theorem kX3_init_in2 : ∀ w ∈ wsX20, w ∈ wsX3_init := by decide +kernel
theorem kX3_init_w : ∀ w ∈ [Cond.methodLink RX3 3 objectInit, .instanceMethod objectInit, .classLink RX3 9 RX2, .instantiable RX2 2, .initialized RX2, .fieldLink RX3 14 "Stemspan$Theorem" "part" "LStemspan$Row;", .fieldLink RX3 20 "Stemspan$Theorem" "both" "LStemspan$Row;", .methodLink RX3 11 yX2_init, .instanceMethod yX2_init], w ∈ wsX3_init := by decide +kernel
set_option maxHeartbeats 4000000 in
set_option maxRecDepth 100000 in
theorem mX3_init (l : Launch) (D : va_G) (sz : Nat) (ci : Nat → ClassId) (ob0 ob1 : Nat → va_E) (h0 : ob0 127 = .inr (3, [.null, .null])) (h1 : ∀ o, o < 127 → ob1 o = ob0 o) (h2 : ∀ o, 127 ≤ o → o < 132 → ob1 o = obC (adz sz) ci S0 o) :
    Met l yX3_init wsX3_init rmX3_init (va_Pc [.ref (sz + 127)] (PreZ D sz 128 (tyC ci) ob0)) (va_Qv (fun _ : Unit => True) (fun _ => PostZ D sz 132 ob1) (Az sz)) 4 52 (Az sz) := by
  refine Met.ofW (cc := cX3_init) (maxL := 1) (ret := none) (by decide) rfl ?_
  intro p e s m args below meth c s₁ B hml hv
  obtain ⟨rfl, hsz, hP, hK, hD⟩ := hv
  have hx := B.exec
  have hb := B.bytes
  have hr := B.returns
  have hts := atoms_spec (ws := wsX3_init) B.pre
  have hown : s.vm.findClass RX3 = some m.cls := findClass_of_methodNamed B.named
  have hlocks := B.notSynchronized
  have hin : meth.name = "<init>" := (name_of_methodNamed B.named B.method).1
  have C0 : CallFix p m c cX3_init 1 s _ wsX3_init RX3 := ⟨hx, hb, hml, hown, hts⟩
  have hY : Sy D 128 (adz sz) (Az sz) s.heap ob0 s.heap [] := ⟨hP, hD, va_S.rf⟩
  have hA : ∀ q, s.heap.size ≤ q → Az sz q := fun q h => by show sz ≤ q; omega
  have hl := lv_entry ([.ref (sz + 127)]) (n := 1) (Nat.le_of_ble_eq_true rfl)
  rw [lg_entry_eq]
  generalize (lg_sl ([.ref (sz + 127)]) ++ List.replicate (1 - (lg_sl ([.ref (sz + 127)])).length) Slot.unset).toArray = ls at hl ⊢
  have hl : lv_has ls 1 [(0, .ref (sz + 127))] := hl
  refine lv_aload_n hx hb dX3_init_0 rfl (lv_at hl 0 rfl) ?_
  refine W.objInit hx hb hown (hts _ (kX3_init_w _ (by decide))) (hts _ (kX3_init_w _ (by decide))) (hts _ (List.mem_of_getElem? (i := 3) rfl)) rfl (by rw [hml]; exact hl.1) rfl dX3_init_1 (Nat.le_of_ble_eq_true rfl) (Nat.le_of_ble_eq_true rfl) ?_
  refine W.eq (g2 := F0 m 4 ls []) rfl ?_
  refine lv_aload_n hx hb dX3_init_4 rfl (lv_at hl 0 rfl) ?_
  refine z_row (room := 24) (iN := 9) (iM := 11) (N := 128) (ci := ci) (pc2 := 11) (ob' := (fun o => if o < 128 then ob0 o else obC (adz sz) ci S0 o)) C0 hK hA (by omega) rfl hl.1 kX3_init_in2 gX3_init_X2_init (hts _ (kX3_init_w _ (by decide))) (hts _ (kX3_init_w _ (by decide))) (hts _ (kX3_init_w _ (by decide))) (hts _ (kX3_init_w _ (by decide))) (hts _ (kX3_init_w _ (by decide))) (by decide) (by decide) (by decide) (by decide) (Nat.le_of_ble_eq_true rfl) dX3_init_5 dX3_init_8 (fun _ _ _ _ _ k => lv_bipush (v := nI 24) hx hb dX3_init_9 (by decide) k) dX3_init_11 hY (fun o ho => ite_lo ho) ((ite_hi (by omega)).trans (ob_row (o := 128) (by decide) (by omega))) ((ite_hi (by omega)).trans (ob_chars (o := 128) (by decide) (by omega))) (fun H1 locs1 hY => ?_)
  refine va_putF (ref := "Stemspan$Theorem") (C := RX3) (T := TX3) (N := 2) (ci := 3) hx hb hts kX3_init_in tyX3 tyX3_ok nmX3 hown hK.1.1 hY.1 hY.2.1 hY.2.2 127 (fs := [.null, .null]) ((pw_get (by omega)).trans (congrArg (fun e => some (sz + 127, e)) ((ite_lo (by omega)).trans h0))) rfl 0 (by decide) (hts _ (kX3_init_w _ (by decide))) (fun x h => h) rfl hin rfl (ty := .object "Stemspan$Row") rfl rfl rfl (by simp) dX3_init_14 (fun H2 locs2 hP2 hD2 hS2 => ?_)
  have hY := z_set (ob' := (fun o => if o < 127 then ob0 o else if o < 128 then .inr (3, [.ref (sz + 128), .null]) else obC (adz sz) ci S0 o)) (by omega) hP2 hD2 hS2 (fun k hk hk2 => by
    show (if k < 127 then ob0 k else if k < 128 then _ else _) = if k < 128 then ob0 k else _
    by_cases z : k < 127
    · rw [if_pos z, if_pos (by omega)]
    · rw [if_neg z, if_neg (by omega), if_neg (by omega)]) rfl
  refine lv_aload_n hx hb dX3_init_17 rfl (lv_at hl 0 rfl) ?_
  refine z_row (room := 24) (iN := 9) (iM := 11) (N := 130) (ci := ci) (pc2 := 24) (ob' := (fun o => if o < 127 then ob0 o else if o < 128 then .inr (3, [.ref (sz + 128), .null]) else obC (adz sz) ci S0 o)) C0 hK hA (by omega) rfl hl.1 kX3_init_in2 gX3_init_X2_init (hts _ (kX3_init_w _ (by decide))) (hts _ (kX3_init_w _ (by decide))) (hts _ (kX3_init_w _ (by decide))) (hts _ (kX3_init_w _ (by decide))) (hts _ (kX3_init_w _ (by decide))) (by decide) (by decide) (by decide) (by decide) (Nat.le_of_ble_eq_true rfl) dX3_init_18 dX3_init_21 (fun _ _ _ _ _ k => lv_bipush (v := nI 24) hx hb dX3_init_22 (by decide) k) dX3_init_24 hY (fun o ho => rfl) ((ite_hi (by omega)).trans ((ite_hi (by omega)).trans (ob_row (o := 130) (by decide) (by omega)))) ((ite_hi (by omega)).trans ((ite_hi (by omega)).trans (ob_chars (o := 130) (by decide) (by omega)))) (fun H1 locs1 hY => ?_)
  refine va_putF (ref := "Stemspan$Theorem") (C := RX3) (T := TX3) (N := 2) (ci := 3) hx hb hts kX3_init_in tyX3 tyX3_ok nmX3 hown hK.1.1 hY.1 hY.2.1 hY.2.2 127 (fs := [.ref (sz + 128), .null]) (pw_get (by omega)) rfl 1 (by decide) (hts _ (kX3_init_w _ (by decide))) (fun x h => h) rfl hin rfl (ty := .object "Stemspan$Row") rfl rfl rfl (by simp) dX3_init_27 (fun H2 locs2 hP2 hD2 hS2 => ?_)
  have hY := z_set (ob' := ob1) (by omega) hP2 hD2 hS2 (fun k hk hk2 => by
    show _ = if k < 127 then ob0 k else if k < 128 then _ else _
    by_cases z : k < 127
    · rw [if_pos z, h1 k z]
    · rw [if_neg z, if_neg (by omega), h2 k (by omega) (by omega)]) ((h2 127 (by omega) (by omega)).trans rfl)
  exact W.vret hx hb hr (fun t ht hW => ⟨⟨(), rfl, trivial, by show va_P _ _ _ _; rw [ht]; exact hY.1⟩, hY.2.2.F ht⟩) hY.2.2.2.2 dX3_init_30
