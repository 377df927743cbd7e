/-! THE CLASS'S AND THE REFERENCE'S OBJECT -/
def m0 : Stt := ([], [], fun c => [97 + c])
theorem row_nil {k : Nat} (h : k < 60 ∨ 72 ≤ k) : RowIs S0 k [] := ⟨S0_I h, Nat.zero_le _, fun j hj => absurd hj (Nat.not_lt_zero j), fun j => by rw [gd_nil]; omega⟩
theorem gd_one (x k : Nat) (h : x < 103) : gd [x] k < 103 := by
  cases k with
  | zero => rw [gd_0]; exact h
  | succ k => rw [gd_s, gd_nil]; omega
theorem InvC0 : InvC S0 m0 := by
  refine ⟨row_nil (by omega), Sg_nil, ⟨S0_I (by omega), Nat.zero_le _, fun i hi => absurd hi (Nat.not_lt_zero i), row_nil (by omega), fun i hi => ?_, fun i j _ _ e => ?_, fun i hi => absurd hi (Nat.not_lt_zero i)⟩, fun i j _ hj => absurd hj (Nat.not_lt_zero j), fun i hi => absurd hi (Nat.not_lt_zero i), fun i hi => absurd hi (Nat.not_lt_zero i), ⟨fun c hc => ⟨⟨if_pos (by omega), ?_, fun k hk => ?_, fun k => gd_one _ k (by omega)⟩, Nat.le_refl 1⟩, row_nil (by omega)⟩, fun c hc => Sg_one (by omega)⟩
  · show 7 ≤ 7 + 2 * i ∧ 7 + 2 * i < 55 ∧ (7 + 2 * i) % 2 = 1
    omega
  · have e : 7 + 2 * i = 7 + 2 * j := e
    omega
  · rw [capC_code hc]; show 1 ≤ 3; omega
  · have hk : k < 1 := hk
    have e : k = 0 := by omega
    subst e
    show (if 60 ≤ 60 + 2 * c ∧ 60 + 2 * c < 72 ∧ (60 + 2 * c) % 2 = 0 ∧ 0 = 0 then nI (97 + (60 + 2 * c - 60) / 2) else 0) = _
    rw [if_pos ⟨by omega, by omega, by omega, rfl⟩, show (60 + 2 * c - 60) / 2 = c by omega]
    rfl
theorem Rok0 : Rok S0 := fun i hi => rowB_word i hi
abbrev rmX5_init : Room := { frames := 3, cells := 131, slots := 1360, locals := 61 }
theorem ddX5_init : yX5_init.cls ≠ "java/lang/invoke/MethodHandle" ∧ yX5_init.cls ≠ "java/lang/invoke/VarHandle" ∧ (parseMethodDescriptor yX5_init.desc).map (fun d => d.parameters.length) = some 0 := by decide +kernel
theorem kX5_init_in : ∀ w ∈ wsX50, w ∈ wsX5_init := by decide +kernel
theorem kX5_init_in2 : ∀ w ∈ wsX20, w ∈ wsX5_init := by decide +kernel
theorem kX5_init_in4 : ∀ w ∈ wsX40, w ∈ wsX5_init := by decide +kernel
theorem kX5_init_in0 : ∀ w ∈ wsX00, w ∈ wsX5_init := by decide +kernel
theorem kX5_init_in1 : ∀ w ∈ wsX10, w ∈ wsX5_init := by decide +kernel
theorem kX5_init_in3 : ∀ w ∈ wsX30, w ∈ wsX5_init := by decide +kernel
theorem kX5_init_w : ∀ w ∈ [Cond.methodLink RX5 1 objectInit, .instanceMethod objectInit, .classLink RX5 7 RX2, .instantiable RX2 2, .initialized RX2, .fieldLink RX5 14 "Stemspan" "text" "LStemspan$Row;", .fieldLink RX5 18 "Stemspan" "spare" "LStemspan$Row;", .classLink RX5 21 RX4, .instantiable RX4 4, .initialized RX4, .fieldLink RX5 24 "Stemspan" "list" "LStemspan$WordList;", .classLink RX5 28 RX0, .instantiable RX0 3, .initialized RX0, .fieldLink RX5 31 "Stemspan" "book" "LStemspan$CodeBook;", .classLink RX5 35 RX1, .instantiable RX1 4, .initialized RX1, .fieldLink RX5 38 "Stemspan" "cutter" "LStemspan$Cutter;", .classLink RX5 42 RX3, .instantiable RX3 2, .initialized RX3, .fieldLink RX5 45 "Stemspan" "theorem" "LStemspan$Theorem;", .methodLink RX5 11 yX2_init, .instanceMethod yX2_init, .methodLink RX5 23 yX4_init, .instanceMethod yX4_init, .methodLink RX5 30 yX0_init, .instanceMethod yX0_init, .methodLink RX5 37 yX1_init, .instanceMethod yX1_init, .methodLink RX5 44 yX3_init, .instanceMethod yX3_init], w ∈ wsX5_init := by decide +kernel
set_option maxHeartbeats 4000000 in
set_option maxRecDepth 100000 in
theorem mX5_init (l : Launch) (D : va_G) (sz : Nat) (ci : Nat → ClassId) (ob0 ob1 : Nat → va_E) (h0 : ob0 0 = .inr (5, [.null, .null, .null, .null, .null, .null])) (h1 : ∀ o, o < 0 → ob1 o = ob0 o) (h2 : ∀ o, 0 ≤ o → o < 132 → ob1 o = obC (adz sz) ci S0 o) :
    Met l yX5_init wsX5_init rmX5_init (va_Pc [.ref (sz + 0)] (PreZ D sz 1 (tyC ci) ob0)) (va_Qv (fun _ : Unit => True) (fun _ => PostZ D sz 132 ob1) (Az sz)) 131 1360 (Az sz) := by
  refine Met.ofW (cc := cX5_init) (maxL := 1) (ret := none) (by decide) rfl ?_
  intro p e s m args below meth c s₁ B hml hv
  obtain ⟨rfl, hsz, hP, hK, hD⟩ := hv
  have hx := B.exec
  have hb := B.bytes
  have hr := B.returns
  have hts := atoms_spec (ws := wsX5_init) B.pre
  have hown : s.vm.findClass RX5 = some m.cls := findClass_of_methodNamed B.named
  have hlocks := B.notSynchronized
  have hin : meth.name = "<init>" := (name_of_methodNamed B.named B.method).1
  have C0 : CallFix p m c cX5_init 1 s _ wsX5_init RX5 := ⟨hx, hb, hml, hown, hts⟩
  have hY : Sy D 1 (adz sz) (Az sz) s.heap ob0 s.heap [] := ⟨hP, hD, va_S.rf⟩
  have hA : ∀ q, s.heap.size ≤ q → Az sz q := fun q h => by show sz ≤ q; omega
  have hl := lv_entry ([.ref (sz + 0)]) (n := 1) (Nat.le_of_ble_eq_true rfl)
  rw [lg_entry_eq]
  generalize (lg_sl ([.ref (sz + 0)]) ++ List.replicate (1 - (lg_sl ([.ref (sz + 0)])).length) Slot.unset).toArray = ls at hl ⊢
  have hl : lv_has ls 1 [(0, .ref (sz + 0))] := hl
  refine lv_aload_n hx hb dX5_init_0 rfl (lv_at hl 0 rfl) ?_
  refine W.objInit hx hb hown (hts _ (kX5_init_w _ (by decide))) (hts _ (kX5_init_w _ (by decide))) (hts _ (List.mem_of_getElem? (i := 3) rfl)) rfl (by rw [hml]; exact hl.1) rfl dX5_init_1 (Nat.le_of_ble_eq_true rfl) (Nat.le_of_ble_eq_true rfl) ?_
  refine W.eq (g2 := F0 m 4 ls []) rfl ?_
  have hY : Sy D 1 (adz sz) (Az sz) s.heap (obP 0 5 [.null, .null, .null, .null, .null, .null] ob0 (obC (adz sz) ci S0)) s.heap [] := z_to hY fun o ho => by
    rcases Nat.lt_or_ge o 0 with z | z
    · exact obP_lo z
    · have : o = 0 := by omega
      subst this
      exact obP_at.trans h0.symm
  refine lv_aload_n hx hb dX5_init_4 rfl (lv_at hl 0 rfl) ?_
  refine z_row (room := 24) (iN := 7) (iM := 11) (N := 1) (ci := ci) (pc2 := 11) (ob' := (obP 0 5 [.null, .null, .null, .null, .null, .null] ob0 (obC (adz sz) ci S0))) C0 hK hA (by omega) rfl hl.1 kX5_init_in2 gX5_init_X2_init (hts _ (kX5_init_w _ (by decide))) (hts _ (kX5_init_w _ (by decide))) (hts _ (kX5_init_w _ (by decide))) (hts _ (kX5_init_w _ (by decide))) (hts _ (kX5_init_w _ (by decide))) (by decide) (by decide) (by decide) (by decide) (Nat.le_of_ble_eq_true rfl) dX5_init_5 dX5_init_8 (fun _ _ _ _ _ k => lv_bipush (v := nI 24) hx hb dX5_init_9 (by decide) k) dX5_init_11 hY (fun _ _ => rfl) ((obP_hi (by omega)).trans (ob_row (o := 1) (by decide) (by omega))) ((obP_hi (by omega)).trans (ob_chars (o := 1) (by decide) (by omega))) (fun H1 locs1 hY => ?_)
  refine va_putF (ref := "Stemspan") (C := RX5) (T := TX5) (N := 6) (ci := 5) hx hb hts kX5_init_in tyX5 tyX5_ok nmX5 hown hK.1.1 hY.1 hY.2.1 hY.2.2 0 (fs := [.null, .null, .null, .null, .null, .null]) ((pw_get (by omega)).trans (congrArg (fun e => some (sz + 0, e)) obP_at)) rfl 0 (by decide) (hts _ (kX5_init_w _ (by decide))) (fun x h => h) rfl hin rfl (ty := .object "Stemspan$Row") rfl rfl rfl (by simp) dX5_init_14 (fun H2 locs2 hP2 hD2 hS2 => ?_)
  have hY := z_set (ob' := obP 0 5 [.ref (sz + 1), .null, .null, .null, .null, .null] ob0 (obC (adz sz) ci S0)) (by omega) hP2 hD2 hS2 (fun k _ hk => obP_ne hk) obP_at
  refine lv_aload_n hx hb dX5_init_17 rfl (lv_at hl 0 rfl) ?_
  refine z_row (room := 24) (iN := 7) (iM := 11) (N := 3) (ci := ci) (pc2 := 24) (ob' := (obP 0 5 [.ref (sz + 1), .null, .null, .null, .null, .null] ob0 (obC (adz sz) ci S0))) C0 hK hA (by omega) rfl hl.1 kX5_init_in2 gX5_init_X2_init (hts _ (kX5_init_w _ (by decide))) (hts _ (kX5_init_w _ (by decide))) (hts _ (kX5_init_w _ (by decide))) (hts _ (kX5_init_w _ (by decide))) (hts _ (kX5_init_w _ (by decide))) (by decide) (by decide) (by decide) (by decide) (Nat.le_of_ble_eq_true rfl) dX5_init_18 dX5_init_21 (fun _ _ _ _ _ k => lv_bipush (v := nI 24) hx hb dX5_init_22 (by decide) k) dX5_init_24 hY (fun _ _ => rfl) ((obP_hi (by omega)).trans (ob_row (o := 3) (by decide) (by omega))) ((obP_hi (by omega)).trans (ob_chars (o := 3) (by decide) (by omega))) (fun H1 locs1 hY => ?_)
  refine va_putF (ref := "Stemspan") (C := RX5) (T := TX5) (N := 6) (ci := 5) hx hb hts kX5_init_in tyX5 tyX5_ok nmX5 hown hK.1.1 hY.1 hY.2.1 hY.2.2 0 (fs := [.ref (sz + 1), .null, .null, .null, .null, .null]) ((pw_get (by omega)).trans (congrArg (fun e => some (sz + 0, e)) obP_at)) rfl 1 (by decide) (hts _ (kX5_init_w _ (by decide))) (fun x h => h) rfl hin rfl (ty := .object "Stemspan$Row") rfl rfl rfl (by simp) dX5_init_27 (fun H2 locs2 hP2 hD2 hS2 => ?_)
  have hY := z_set (ob' := obP 0 5 [.ref (sz + 1), .ref (sz + 3), .null, .null, .null, .null] ob0 (obC (adz sz) ci S0)) (by omega) hP2 hD2 hS2 (fun k _ hk => obP_ne hk) obP_at
  refine lv_aload_n hx hb dX5_init_30 rfl (lv_at hl 0 rfl) ?_
  refine va_new (ci := 4) (fs := [.null, .null, .null, .int 0]) (C := RX4) (T := TX4) (N := 4) hx hb hts kX5_init_in4 tyX4 tyX4_ok hown (hts _ (kX5_init_w _ (by decide))) (hts _ (kX5_init_w _ (by decide))) (hts _ (kX5_init_w _ (by decide))) hK.1.1 hY.1 hY.2.1 hY.2.2 hA rfl (fun j hj => by rcases (show j = 0 ∨ j = 1 ∨ j = 2 ∨ j = 3 by omega) with rfl | rfl | rfl | rfl <;> rfl) (by decide) (by decide) dX5_init_31 (fun q H1 hP1 hD1 hS1 => W_size fun hz => ?_)
  obtain ⟨rfl, hY⟩ := z_fix (ob' := fun o => if o < 5 then obP 0 5 [.ref (sz + 1), .ref (sz + 3), .null, .null, .null, .null] ob0 (obC (adz sz) ci S0) o else .inr (4, [.null, .null, .null, .int 0])) hP1 hD1 hS1 (by omega) (fun o ho => if_pos ho) (if_neg (by omega))
  have hz2 := z_full hY (by omega)
  refine lv_dup hx hb dX5_init_34 rfl ?_
  refine z_callv (N' := 58) (ob' := obP 0 5 [.ref (sz + 1), .ref (sz + 3), .null, .null, .null, .null] ob0 (obC (adz sz) ci S0)) (va_runI (As := []) (rest := [.ref (sz + 5), .ref (sz + 0)]) C0 (mX4_init l D sz ci (fun o => if o < 5 then obP 0 5 [.ref (sz + 1), .ref (sz + 3), .null, .null, .null, .null] ob0 (obC (adz sz) ci S0) o else .inr (4, [.null, .null, .null, .int 0])) (obP 0 5 [.ref (sz + 1), .ref (sz + 3), .null, .null, .null, .null] ob0 (obC (adz sz) ci S0)) (if_neg (by omega)) (fun o ho => (if_pos ho).symm) (fun o ho _ => obP_hi (by omega))) (cwI 0 hts gX5_init_X4_init rfl rfl rfl (hts _ (kX5_init_w _ (by decide))) (hts _ (kX5_init_w _ (by decide))) (hts _ (kX5_init_w _ (by decide))) rfl ddX4_init ⟨Nat.le_of_ble_eq_true rfl, Nat.le_of_ble_eq_true rfl⟩) (z_pre hK hz2 hY) rfl rfl hl.1 rfl (lv_room (Nat.le_of_ble_eq_true rfl)) dX5_init_35 ⟨Nat.le_of_ble_eq_true rfl, Nat.le_of_ble_eq_true rfl⟩) hY hz2.symm rfl (fun H2 locs2 hY => ?_)
  refine va_putF (ref := "Stemspan") (C := RX5) (T := TX5) (N := 6) (ci := 5) hx hb hts kX5_init_in tyX5 tyX5_ok nmX5 hown hK.1.1 hY.1 hY.2.1 hY.2.2 0 (fs := [.ref (sz + 1), .ref (sz + 3), .null, .null, .null, .null]) ((pw_get (by omega)).trans (congrArg (fun e => some (sz + 0, e)) obP_at)) rfl 2 (by decide) (hts _ (kX5_init_w _ (by decide))) (fun x h => h) rfl hin rfl (ty := .object "Stemspan$WordList") rfl rfl rfl (by simp) dX5_init_38 (fun H2 locs2 hP2 hD2 hS2 => ?_)
  have hY := z_set (ob' := obP 0 5 [.ref (sz + 1), .ref (sz + 3), .ref (sz + 5), .null, .null, .null] ob0 (obC (adz sz) ci S0)) (by omega) hP2 hD2 hS2 (fun k _ hk => obP_ne hk) obP_at
  refine lv_aload_n hx hb dX5_init_41 rfl (lv_at hl 0 rfl) ?_
  refine va_new (ci := 0) (fs := [.null, .null, .null]) (C := RX0) (T := TX0) (N := 3) hx hb hts kX5_init_in0 tyX0 tyX0_ok hown (hts _ (kX5_init_w _ (by decide))) (hts _ (kX5_init_w _ (by decide))) (hts _ (kX5_init_w _ (by decide))) hK.1.1 hY.1 hY.2.1 hY.2.2 hA rfl (fun j hj => by rcases (show j = 0 ∨ j = 1 ∨ j = 2 by omega) with rfl | rfl | rfl <;> rfl) (by decide) (by decide) dX5_init_42 (fun q H1 hP1 hD1 hS1 => W_size fun hz => ?_)
  obtain ⟨rfl, hY⟩ := z_fix (ob' := fun o => if o < 58 then obP 0 5 [.ref (sz + 1), .ref (sz + 3), .ref (sz + 5), .null, .null, .null] ob0 (obC (adz sz) ci S0) o else .inr (0, [.null, .null, .null])) hP1 hD1 hS1 (by omega) (fun o ho => if_pos ho) (if_neg (by omega))
  have hz2 := z_full hY (by omega)
  refine lv_dup hx hb dX5_init_45 rfl ?_
  refine z_callv (N' := 123) (ob' := obP 0 5 [.ref (sz + 1), .ref (sz + 3), .ref (sz + 5), .null, .null, .null] ob0 (obC (adz sz) ci S0)) (va_runI (As := []) (rest := [.ref (sz + 58), .ref (sz + 0)]) C0 (mX0_init l D sz ci (fun o => if o < 58 then obP 0 5 [.ref (sz + 1), .ref (sz + 3), .ref (sz + 5), .null, .null, .null] ob0 (obC (adz sz) ci S0) o else .inr (0, [.null, .null, .null])) (obP 0 5 [.ref (sz + 1), .ref (sz + 3), .ref (sz + 5), .null, .null, .null] ob0 (obC (adz sz) ci S0)) (if_neg (by omega)) (fun o ho => (if_pos ho).symm) (fun o ho _ => obP_hi (by omega))) (cwI 0 hts gX5_init_X0_init rfl rfl rfl (hts _ (kX5_init_w _ (by decide))) (hts _ (kX5_init_w _ (by decide))) (hts _ (kX5_init_w _ (by decide))) rfl ddX0_init ⟨Nat.le_of_ble_eq_true rfl, Nat.le_of_ble_eq_true rfl⟩) (z_pre hK hz2 hY) rfl rfl hl.1 rfl (lv_room (Nat.le_of_ble_eq_true rfl)) dX5_init_46 ⟨Nat.le_of_ble_eq_true rfl, Nat.le_of_ble_eq_true rfl⟩) hY hz2.symm rfl (fun H2 locs2 hY => ?_)
  refine va_putF (ref := "Stemspan") (C := RX5) (T := TX5) (N := 6) (ci := 5) hx hb hts kX5_init_in tyX5 tyX5_ok nmX5 hown hK.1.1 hY.1 hY.2.1 hY.2.2 0 (fs := [.ref (sz + 1), .ref (sz + 3), .ref (sz + 5), .null, .null, .null]) ((pw_get (by omega)).trans (congrArg (fun e => some (sz + 0, e)) obP_at)) rfl 3 (by decide) (hts _ (kX5_init_w _ (by decide))) (fun x h => h) rfl hin rfl (ty := .object "Stemspan$CodeBook") rfl rfl rfl (by simp) dX5_init_49 (fun H2 locs2 hP2 hD2 hS2 => ?_)
  have hY := z_set (ob' := obP 0 5 [.ref (sz + 1), .ref (sz + 3), .ref (sz + 5), .ref (sz + 58), .null, .null] ob0 (obC (adz sz) ci S0)) (by omega) hP2 hD2 hS2 (fun k _ hk => obP_ne hk) obP_at
  refine lv_aload_n hx hb dX5_init_52 rfl (lv_at hl 0 rfl) ?_
  refine va_new (ci := 1) (fs := [.null, .null, .null, .int 0]) (C := RX1) (T := TX1) (N := 4) hx hb hts kX5_init_in1 tyX1 tyX1_ok hown (hts _ (kX5_init_w _ (by decide))) (hts _ (kX5_init_w _ (by decide))) (hts _ (kX5_init_w _ (by decide))) hK.1.1 hY.1 hY.2.1 hY.2.2 hA rfl (fun j hj => by rcases (show j = 0 ∨ j = 1 ∨ j = 2 ∨ j = 3 by omega) with rfl | rfl | rfl | rfl <;> rfl) (by decide) (by decide) dX5_init_53 (fun q H1 hP1 hD1 hS1 => W_size fun hz => ?_)
  obtain ⟨rfl, hY⟩ := z_fix (ob' := fun o => if o < 123 then obP 0 5 [.ref (sz + 1), .ref (sz + 3), .ref (sz + 5), .ref (sz + 58), .null, .null] ob0 (obC (adz sz) ci S0) o else .inr (1, [.null, .null, .null, .int 0])) hP1 hD1 hS1 (by omega) (fun o ho => if_pos ho) (if_neg (by omega))
  have hz2 := z_full hY (by omega)
  refine lv_dup hx hb dX5_init_56 rfl ?_
  refine z_callv (N' := 127) (ob' := obP 0 5 [.ref (sz + 1), .ref (sz + 3), .ref (sz + 5), .ref (sz + 58), .null, .null] ob0 (obC (adz sz) ci S0)) (va_runI (As := []) (rest := [.ref (sz + 123), .ref (sz + 0)]) C0 (mX1_init l D sz ci (fun o => if o < 123 then obP 0 5 [.ref (sz + 1), .ref (sz + 3), .ref (sz + 5), .ref (sz + 58), .null, .null] ob0 (obC (adz sz) ci S0) o else .inr (1, [.null, .null, .null, .int 0])) (obP 0 5 [.ref (sz + 1), .ref (sz + 3), .ref (sz + 5), .ref (sz + 58), .null, .null] ob0 (obC (adz sz) ci S0)) (if_neg (by omega)) (fun o ho => (if_pos ho).symm) (fun o ho _ => obP_hi (by omega))) (cwI 0 hts gX5_init_X1_init rfl rfl rfl (hts _ (kX5_init_w _ (by decide))) (hts _ (kX5_init_w _ (by decide))) (hts _ (kX5_init_w _ (by decide))) rfl ddX1_init ⟨Nat.le_of_ble_eq_true rfl, Nat.le_of_ble_eq_true rfl⟩) (z_pre hK hz2 hY) rfl rfl hl.1 rfl (lv_room (Nat.le_of_ble_eq_true rfl)) dX5_init_57 ⟨Nat.le_of_ble_eq_true rfl, Nat.le_of_ble_eq_true rfl⟩) hY hz2.symm rfl (fun H2 locs2 hY => ?_)
  refine va_putF (ref := "Stemspan") (C := RX5) (T := TX5) (N := 6) (ci := 5) hx hb hts kX5_init_in tyX5 tyX5_ok nmX5 hown hK.1.1 hY.1 hY.2.1 hY.2.2 0 (fs := [.ref (sz + 1), .ref (sz + 3), .ref (sz + 5), .ref (sz + 58), .null, .null]) ((pw_get (by omega)).trans (congrArg (fun e => some (sz + 0, e)) obP_at)) rfl 4 (by decide) (hts _ (kX5_init_w _ (by decide))) (fun x h => h) rfl hin rfl (ty := .object "Stemspan$Cutter") rfl rfl rfl (by simp) dX5_init_60 (fun H2 locs2 hP2 hD2 hS2 => ?_)
  have hY := z_set (ob' := obP 0 5 [.ref (sz + 1), .ref (sz + 3), .ref (sz + 5), .ref (sz + 58), .ref (sz + 123), .null] ob0 (obC (adz sz) ci S0)) (by omega) hP2 hD2 hS2 (fun k _ hk => obP_ne hk) obP_at
  refine lv_aload_n hx hb dX5_init_63 rfl (lv_at hl 0 rfl) ?_
  refine va_new (ci := 3) (fs := [.null, .null]) (C := RX3) (T := TX3) (N := 2) hx hb hts kX5_init_in3 tyX3 tyX3_ok hown (hts _ (kX5_init_w _ (by decide))) (hts _ (kX5_init_w _ (by decide))) (hts _ (kX5_init_w _ (by decide))) hK.1.1 hY.1 hY.2.1 hY.2.2 hA rfl (fun j hj => by rcases (show j = 0 ∨ j = 1 by omega) with rfl | rfl <;> rfl) (by decide) (by decide) dX5_init_64 (fun q H1 hP1 hD1 hS1 => W_size fun hz => ?_)
  obtain ⟨rfl, hY⟩ := z_fix (ob' := fun o => if o < 127 then obP 0 5 [.ref (sz + 1), .ref (sz + 3), .ref (sz + 5), .ref (sz + 58), .ref (sz + 123), .null] ob0 (obC (adz sz) ci S0) o else .inr (3, [.null, .null])) hP1 hD1 hS1 (by omega) (fun o ho => if_pos ho) (if_neg (by omega))
  have hz2 := z_full hY (by omega)
  refine lv_dup hx hb dX5_init_67 rfl ?_
  refine z_callv (N' := 132) (ob' := obP 0 5 [.ref (sz + 1), .ref (sz + 3), .ref (sz + 5), .ref (sz + 58), .ref (sz + 123), .null] ob0 (obC (adz sz) ci S0)) (va_runI (As := []) (rest := [.ref (sz + 127), .ref (sz + 0)]) C0 (mX3_init l D sz ci (fun o => if o < 127 then obP 0 5 [.ref (sz + 1), .ref (sz + 3), .ref (sz + 5), .ref (sz + 58), .ref (sz + 123), .null] ob0 (obC (adz sz) ci S0) o else .inr (3, [.null, .null])) (obP 0 5 [.ref (sz + 1), .ref (sz + 3), .ref (sz + 5), .ref (sz + 58), .ref (sz + 123), .null] ob0 (obC (adz sz) ci S0)) (if_neg (by omega)) (fun o ho => (if_pos ho).symm) (fun o ho _ => obP_hi (by omega))) (cwI 0 hts gX5_init_X3_init rfl rfl rfl (hts _ (kX5_init_w _ (by decide))) (hts _ (kX5_init_w _ (by decide))) (hts _ (kX5_init_w _ (by decide))) rfl ddX3_init ⟨Nat.le_of_ble_eq_true rfl, Nat.le_of_ble_eq_true rfl⟩) (z_pre hK hz2 hY) rfl rfl hl.1 rfl (lv_room (Nat.le_of_ble_eq_true rfl)) dX5_init_68 ⟨Nat.le_of_ble_eq_true rfl, Nat.le_of_ble_eq_true rfl⟩) hY hz2.symm rfl (fun H2 locs2 hY => ?_)
  refine va_putF (ref := "Stemspan") (C := RX5) (T := TX5) (N := 6) (ci := 5) hx hb hts kX5_init_in tyX5 tyX5_ok nmX5 hown hK.1.1 hY.1 hY.2.1 hY.2.2 0 (fs := [.ref (sz + 1), .ref (sz + 3), .ref (sz + 5), .ref (sz + 58), .ref (sz + 123), .null]) ((pw_get (by omega)).trans (congrArg (fun e => some (sz + 0, e)) obP_at)) rfl 5 (by decide) (hts _ (kX5_init_w _ (by decide))) (fun x h => h) rfl hin rfl (ty := .object "Stemspan$Theorem") rfl rfl rfl (by simp) dX5_init_71 (fun H2 locs2 hP2 hD2 hS2 => ?_)
  have hY := z_set (ob' := obP 0 5 [.ref (sz + 1), .ref (sz + 3), .ref (sz + 5), .ref (sz + 58), .ref (sz + 123), .ref (sz + 127)] ob0 (obC (adz sz) ci S0)) (by omega) hP2 hD2 hS2 (fun k _ hk => obP_ne hk) obP_at
  have hY := z_to (ob' := ob1) hY fun o ho => by
    rw [h2 o (Nat.zero_le _) ho]
    by_cases y : o = 0
    · subst y; exact obP_at.symm
    · exact (obP_hi (by omega)).symm
  exact W.vret hx hb hr (fun t ht hW => ⟨⟨(), rfl, trivial, by show va_P _ _ _ _; rw [ht]; exact hY.1⟩, hY.2.2.F ht⟩) hY.2.2.2.2 dX5_init_74
/-- all zero -/
def Z0 : St := (fun _ => 0, fun _ _ => 0, fun _ => 0, fun _ => 0)
abbrev rmX6_init : Room := { frames := 1, cells := 11, slots := 506, locals := 14 }
theorem ddX6_init : yX6_init.cls ≠ "java/lang/invoke/MethodHandle" ∧ yX6_init.cls ≠ "java/lang/invoke/VarHandle" ∧ (parseMethodDescriptor yX6_init.desc).map (fun d => d.parameters.length) = some 0 := by decide +kernel
theorem kX6_init_in : ∀ w ∈ wsX60, w ∈ wsX6_init := by decide +kernel
theorem kX6_init_w : ∀ w ∈ [Cond.methodLink RX6 7 objectInit, .instanceMethod objectInit, .arrayClass .char, .arrayClass .int, .arrayClass .long, .fieldLink RX6 13 "StemspanModel" "text" "[C", .fieldLink RX6 17 "StemspanModel" "word" "[C", .fieldLink RX6 20 "StemspanModel" "codes" "[C", .fieldLink RX6 23 "StemspanModel" "made" "[C", .fieldLink RX6 26 "StemspanModel" "wordLength" "[I", .fieldLink RX6 30 "StemspanModel" "number" "[I", .fieldLink RX6 33 "StemspanModel" "codeLength" "[I", .fieldLink RX6 36 "StemspanModel" "order" "[I", .fieldLink RX6 39 "StemspanModel" "ranks" "[I", .fieldLink RX6 42 "StemspanModel" "waysFrom" "[J", .fieldLink RX6 46 "StemspanModel" "fewestFrom" "[I"], w ∈ wsX6_init := by decide +kernel
/-- the first codes are made -/
def Cod0 (σ : St) (c : Nat) : Prop := gI σ 1 = 0 ∧ gI σ 2 = 0 ∧ ∀ q, q < c → gA σ 3 (3 * q) = nI (97 + q) ∧ gA σ 7 q = nI 1
theorem InvM0 {σ : St} (h : Cod0 σ 6) : InvM σ m0 := by
  obtain ⟨h1, h2, h3⟩ := h
  refine ⟨⟨h1, Nat.zero_le _, fun k hk => absurd hk (Nat.not_lt_zero k), fun k => ?_⟩, Sg_nil, ⟨[], ⟨h2, Nat.zero_le _, fun w hw => absurd hw (Nat.not_lt_zero w)⟩, List.Perm.refl _⟩, fun i j _ hj => absurd hj (Nat.not_lt_zero j), fun i hi => absurd hi (Nat.not_lt_zero i), fun i hi => absurd hi (Nat.not_lt_zero i), fun c hc => ⟨(h3 c hc).2, Nat.le_refl 1, by show 1 ≤ 3; omega, fun k hk => ?_, fun k => gd_one _ k (by omega)⟩, fun c hc => Sg_one (by omega)⟩
  · show gd [] k < 103
    rw [gd_nil]; omega
  · have hk : k < 1 := hk
    have e : k = 0 := by omega
    subst e
    exact (h3 c hc).1
set_option maxHeartbeats 4000000 in
set_option maxRecDepth 100000 in
theorem mX6_init (l : Launch) (D : va_G) (sz : Nat) (ci : Nat → ClassId) (ob0 : Nat → va_E) (h0 : ob0 0 = .inr (6, [.int 0, .null, .null, .null, .null, .null, .null, .null, .int 0, .int 0, .null, .null, .null, .null])) :
    Met l yX6_init wsX6_init rmX6_init (va_Pc [.ref (sz + 0)] (PreZ D sz 1 (tyM ci) ob0)) (va_Qv (fun σ : St => InvM σ m0) (fun σ => PostZ D sz 12 (obM (adz sz) ci σ)) (Az sz)) 11 506 (Az sz) := by
  refine Met.ofW (cc := cX6_init) (maxL := 2) (ret := none) (by decide) rfl ?_
  intro p e s m args below meth c s₁ B hml hv
  obtain ⟨rfl, hsz, hP, hK, hD⟩ := hv
  have hx := B.exec
  have hb := B.bytes
  have hr := B.returns
  have hts := atoms_spec (ws := wsX6_init) B.pre
  have hown : s.vm.findClass RX6 = some m.cls := findClass_of_methodNamed B.named
  have hlocks := B.notSynchronized
  have hin : meth.name = "<init>" := (name_of_methodNamed B.named B.method).1
  have C0 : CallFix p m c cX6_init 2 s _ wsX6_init RX6 := ⟨hx, hb, hml, hown, hts⟩
  have hY : Sy D 1 (adz sz) (Az sz) s.heap ob0 s.heap [] := ⟨hP, hD, va_S.rf⟩
  have hA : ∀ q, s.heap.size ≤ q → Az sz q := fun q h => by show sz ≤ q; omega
  have hl := lv_entry ([.ref (sz + 0)]) (n := 2) (Nat.le_of_ble_eq_true rfl)
  rw [lg_entry_eq]
  generalize (lg_sl ([.ref (sz + 0)]) ++ List.replicate (2 - (lg_sl ([.ref (sz + 0)])).length) Slot.unset).toArray = ls at hl ⊢
  have hl : lv_has ls 2 [(0, .ref (sz + 0))] := hl
  refine lv_aload_n hx hb dX6_init_0 rfl (lv_at hl 0 rfl) ?_
  refine W.objInit hx hb hown (hts _ (kX6_init_w _ (by decide))) (hts _ (kX6_init_w _ (by decide))) (hts _ (List.mem_of_getElem? (i := 3) rfl)) rfl (by rw [hml]; exact hl.1) rfl dX6_init_1 (Nat.le_of_ble_eq_true rfl) (Nat.le_of_ble_eq_true rfl) ?_
  refine W.eq (g2 := F0 m 4 ls []) rfl ?_
  have hY : Sy D 1 (adz sz) (Az sz) s.heap (obP 0 6 [.int 0, .null, .null, .null, .null, .null, .null, .null, .int 0, .int 0, .null, .null, .null, .null] ob0 (obM (adz sz) ci Z0)) s.heap [] := z_to hY fun o ho => by
    rcases Nat.lt_or_ge o 0 with z | z
    · exact obP_lo z
    · have : o = 0 := by omega
      subst this
      exact obP_at.trans h0.symm
  refine lv_aload_n hx hb dX6_init_4 rfl (lv_at hl 0 rfl) ?_
  refine lv_bipush (v := nI 24) hx hb dX6_init_5 (by decide) ?_
  refine z_newC (t0 := 0) (ob' := obP 0 6 [.int 0, .null, .null, .null, .null, .null, .null, .null, .int 0, .int 0, .null, .null, .null, .null] ob0 (obM (adz sz) ci Z0)) hx hb (hts _ (kX6_init_w _ (by decide))) hK.1.1 hA (by omega) rfl 24 (by omega) (by decide) (by decide) dX6_init_7 hY (fun _ _ => rfl) rfl (fun H1 hY => ?_)
  refine va_putF (ref := "StemspanModel") (C := RX6) (T := TX6) (N := 14) (ci := 6) hx hb hts kX6_init_in tyX6 tyX6_ok nmX6 hown hK.1.1 hY.1 hY.2.1 hY.2.2 0 (fs := [.int 0, .null, .null, .null, .null, .null, .null, .null, .int 0, .int 0, .null, .null, .null, .null]) ((pw_get (by omega)).trans (congrArg (fun e => some (sz + 0, e)) obP_at)) rfl 1 (by decide) (hts _ (kX6_init_w _ (by decide))) (fun x h => h) rfl hin rfl (ty := .array .char) rfl rfl rfl (by simp) dX6_init_9 (fun H2 locs2 hP2 hD2 hS2 => ?_)
  have hY := z_set (ob' := obP 0 6 [.int 0, .ref (sz + 1), .null, .null, .null, .null, .null, .null, .int 0, .int 0, .null, .null, .null, .null] ob0 (obM (adz sz) ci Z0)) (by omega) hP2 hD2 hS2 (fun k _ hk => obP_ne hk) obP_at
  refine lv_aload_n hx hb dX6_init_12 rfl (lv_at hl 0 rfl) ?_
  refine lv_sipush (v := nI 240) hx hb dX6_init_13 (by decide) ?_
  refine z_newC (t0 := 0) (ob' := obP 0 6 [.int 0, .ref (sz + 1), .null, .null, .null, .null, .null, .null, .int 0, .int 0, .null, .null, .null, .null] ob0 (obM (adz sz) ci Z0)) hx hb (hts _ (kX6_init_w _ (by decide))) hK.1.1 hA (by omega) rfl 240 (by omega) (by decide) (by decide) dX6_init_16 hY (fun _ _ => rfl) rfl (fun H1 hY => ?_)
  refine va_putF (ref := "StemspanModel") (C := RX6) (T := TX6) (N := 14) (ci := 6) hx hb hts kX6_init_in tyX6 tyX6_ok nmX6 hown hK.1.1 hY.1 hY.2.1 hY.2.2 0 (fs := [.int 0, .ref (sz + 1), .null, .null, .null, .null, .null, .null, .int 0, .int 0, .null, .null, .null, .null]) ((pw_get (by omega)).trans (congrArg (fun e => some (sz + 0, e)) obP_at)) rfl 2 (by decide) (hts _ (kX6_init_w _ (by decide))) (fun x h => h) rfl hin rfl (ty := .array .char) rfl rfl rfl (by simp) dX6_init_18 (fun H2 locs2 hP2 hD2 hS2 => ?_)
  have hY := z_set (ob' := obP 0 6 [.int 0, .ref (sz + 1), .ref (sz + 2), .null, .null, .null, .null, .null, .int 0, .int 0, .null, .null, .null, .null] ob0 (obM (adz sz) ci Z0)) (by omega) hP2 hD2 hS2 (fun k _ hk => obP_ne hk) obP_at
  refine lv_aload_n hx hb dX6_init_21 rfl (lv_at hl 0 rfl) ?_
  refine lv_bipush (v := nI 18) hx hb dX6_init_22 (by decide) ?_
  refine z_newC (t0 := 0) (ob' := obP 0 6 [.int 0, .ref (sz + 1), .ref (sz + 2), .null, .null, .null, .null, .null, .int 0, .int 0, .null, .null, .null, .null] ob0 (obM (adz sz) ci Z0)) hx hb (hts _ (kX6_init_w _ (by decide))) hK.1.1 hA (by omega) rfl 18 (by omega) (by decide) (by decide) dX6_init_24 hY (fun _ _ => rfl) rfl (fun H1 hY => ?_)
  refine va_putF (ref := "StemspanModel") (C := RX6) (T := TX6) (N := 14) (ci := 6) hx hb hts kX6_init_in tyX6 tyX6_ok nmX6 hown hK.1.1 hY.1 hY.2.1 hY.2.2 0 (fs := [.int 0, .ref (sz + 1), .ref (sz + 2), .null, .null, .null, .null, .null, .int 0, .int 0, .null, .null, .null, .null]) ((pw_get (by omega)).trans (congrArg (fun e => some (sz + 0, e)) obP_at)) rfl 3 (by decide) (hts _ (kX6_init_w _ (by decide))) (fun x h => h) rfl hin rfl (ty := .array .char) rfl rfl rfl (by simp) dX6_init_26 (fun H2 locs2 hP2 hD2 hS2 => ?_)
  have hY := z_set (ob' := obP 0 6 [.int 0, .ref (sz + 1), .ref (sz + 2), .ref (sz + 3), .null, .null, .null, .null, .int 0, .int 0, .null, .null, .null, .null] ob0 (obM (adz sz) ci Z0)) (by omega) hP2 hD2 hS2 (fun k _ hk => obP_ne hk) obP_at
  refine lv_aload_n hx hb dX6_init_29 rfl (lv_at hl 0 rfl) ?_
  refine lv_bipush (v := nI 72) hx hb dX6_init_30 (by decide) ?_
  refine z_newC (t0 := 0) (ob' := obP 0 6 [.int 0, .ref (sz + 1), .ref (sz + 2), .ref (sz + 3), .null, .null, .null, .null, .int 0, .int 0, .null, .null, .null, .null] ob0 (obM (adz sz) ci Z0)) hx hb (hts _ (kX6_init_w _ (by decide))) hK.1.1 hA (by omega) rfl 72 (by omega) (by decide) (by decide) dX6_init_32 hY (fun _ _ => rfl) rfl (fun H1 hY => ?_)
  refine va_putF (ref := "StemspanModel") (C := RX6) (T := TX6) (N := 14) (ci := 6) hx hb hts kX6_init_in tyX6 tyX6_ok nmX6 hown hK.1.1 hY.1 hY.2.1 hY.2.2 0 (fs := [.int 0, .ref (sz + 1), .ref (sz + 2), .ref (sz + 3), .null, .null, .null, .null, .int 0, .int 0, .null, .null, .null, .null]) ((pw_get (by omega)).trans (congrArg (fun e => some (sz + 0, e)) obP_at)) rfl 4 (by decide) (hts _ (kX6_init_w _ (by decide))) (fun x h => h) rfl hin rfl (ty := .array .char) rfl rfl rfl (by simp) dX6_init_34 (fun H2 locs2 hP2 hD2 hS2 => ?_)
  have hY := z_set (ob' := obP 0 6 [.int 0, .ref (sz + 1), .ref (sz + 2), .ref (sz + 3), .ref (sz + 4), .null, .null, .null, .int 0, .int 0, .null, .null, .null, .null] ob0 (obM (adz sz) ci Z0)) (by omega) hP2 hD2 hS2 (fun k _ hk => obP_ne hk) obP_at
  refine lv_aload_n hx hb dX6_init_37 rfl (lv_at hl 0 rfl) ?_
  refine lv_bipush (v := nI 24) hx hb dX6_init_38 (by decide) ?_
  refine z_newI (t0 := 1) (ob' := obP 0 6 [.int 0, .ref (sz + 1), .ref (sz + 2), .ref (sz + 3), .ref (sz + 4), .null, .null, .null, .int 0, .int 0, .null, .null, .null, .null] ob0 (obM (adz sz) ci Z0)) hx hb (hts _ (kX6_init_w _ (by decide))) hK.1.1 hA (by omega) rfl 24 (by omega) (by decide) (by decide) dX6_init_40 hY (fun _ _ => rfl) rfl (fun H1 hY => ?_)
  refine va_putF (ref := "StemspanModel") (C := RX6) (T := TX6) (N := 14) (ci := 6) hx hb hts kX6_init_in tyX6 tyX6_ok nmX6 hown hK.1.1 hY.1 hY.2.1 hY.2.2 0 (fs := [.int 0, .ref (sz + 1), .ref (sz + 2), .ref (sz + 3), .ref (sz + 4), .null, .null, .null, .int 0, .int 0, .null, .null, .null, .null]) ((pw_get (by omega)).trans (congrArg (fun e => some (sz + 0, e)) obP_at)) rfl 5 (by decide) (hts _ (kX6_init_w _ (by decide))) (fun x h => h) rfl hin rfl (ty := .array .int) rfl rfl rfl (by simp) dX6_init_42 (fun H2 locs2 hP2 hD2 hS2 => ?_)
  have hY := z_set (ob' := obP 0 6 [.int 0, .ref (sz + 1), .ref (sz + 2), .ref (sz + 3), .ref (sz + 4), .ref (sz + 5), .null, .null, .int 0, .int 0, .null, .null, .null, .null] ob0 (obM (adz sz) ci Z0)) (by omega) hP2 hD2 hS2 (fun k _ hk => obP_ne hk) obP_at
  refine lv_aload_n hx hb dX6_init_45 rfl (lv_at hl 0 rfl) ?_
  refine lv_bipush (v := nI 24) hx hb dX6_init_46 (by decide) ?_
  refine z_newI (t0 := 1) (ob' := obP 0 6 [.int 0, .ref (sz + 1), .ref (sz + 2), .ref (sz + 3), .ref (sz + 4), .ref (sz + 5), .null, .null, .int 0, .int 0, .null, .null, .null, .null] ob0 (obM (adz sz) ci Z0)) hx hb (hts _ (kX6_init_w _ (by decide))) hK.1.1 hA (by omega) rfl 24 (by omega) (by decide) (by decide) dX6_init_48 hY (fun _ _ => rfl) rfl (fun H1 hY => ?_)
  refine va_putF (ref := "StemspanModel") (C := RX6) (T := TX6) (N := 14) (ci := 6) hx hb hts kX6_init_in tyX6 tyX6_ok nmX6 hown hK.1.1 hY.1 hY.2.1 hY.2.2 0 (fs := [.int 0, .ref (sz + 1), .ref (sz + 2), .ref (sz + 3), .ref (sz + 4), .ref (sz + 5), .null, .null, .int 0, .int 0, .null, .null, .null, .null]) ((pw_get (by omega)).trans (congrArg (fun e => some (sz + 0, e)) obP_at)) rfl 6 (by decide) (hts _ (kX6_init_w _ (by decide))) (fun x h => h) rfl hin rfl (ty := .array .int) rfl rfl rfl (by simp) dX6_init_50 (fun H2 locs2 hP2 hD2 hS2 => ?_)
  have hY := z_set (ob' := obP 0 6 [.int 0, .ref (sz + 1), .ref (sz + 2), .ref (sz + 3), .ref (sz + 4), .ref (sz + 5), .ref (sz + 6), .null, .int 0, .int 0, .null, .null, .null, .null] ob0 (obM (adz sz) ci Z0)) (by omega) hP2 hD2 hS2 (fun k _ hk => obP_ne hk) obP_at
  refine lv_aload_n hx hb dX6_init_53 rfl (lv_at hl 0 rfl) ?_
  refine lv_bipush (v := nI 6) hx hb dX6_init_54 (by decide) ?_
  refine z_newI (t0 := 1) (ob' := obP 0 6 [.int 0, .ref (sz + 1), .ref (sz + 2), .ref (sz + 3), .ref (sz + 4), .ref (sz + 5), .ref (sz + 6), .null, .int 0, .int 0, .null, .null, .null, .null] ob0 (obM (adz sz) ci Z0)) hx hb (hts _ (kX6_init_w _ (by decide))) hK.1.1 hA (by omega) rfl 6 (by omega) (by decide) (by decide) dX6_init_56 hY (fun _ _ => rfl) rfl (fun H1 hY => ?_)
  refine va_putF (ref := "StemspanModel") (C := RX6) (T := TX6) (N := 14) (ci := 6) hx hb hts kX6_init_in tyX6 tyX6_ok nmX6 hown hK.1.1 hY.1 hY.2.1 hY.2.2 0 (fs := [.int 0, .ref (sz + 1), .ref (sz + 2), .ref (sz + 3), .ref (sz + 4), .ref (sz + 5), .ref (sz + 6), .null, .int 0, .int 0, .null, .null, .null, .null]) ((pw_get (by omega)).trans (congrArg (fun e => some (sz + 0, e)) obP_at)) rfl 7 (by decide) (hts _ (kX6_init_w _ (by decide))) (fun x h => h) rfl hin rfl (ty := .array .int) rfl rfl rfl (by simp) dX6_init_58 (fun H2 locs2 hP2 hD2 hS2 => ?_)
  have hY := z_set (ob' := obP 0 6 [.int 0, .ref (sz + 1), .ref (sz + 2), .ref (sz + 3), .ref (sz + 4), .ref (sz + 5), .ref (sz + 6), .ref (sz + 7), .int 0, .int 0, .null, .null, .null, .null] ob0 (obM (adz sz) ci Z0)) (by omega) hP2 hD2 hS2 (fun k _ hk => obP_ne hk) obP_at
  refine lv_aload_n hx hb dX6_init_61 rfl (lv_at hl 0 rfl) ?_
  refine lv_bipush (v := nI 24) hx hb dX6_init_62 (by decide) ?_
  refine z_newI (t0 := 1) (ob' := obP 0 6 [.int 0, .ref (sz + 1), .ref (sz + 2), .ref (sz + 3), .ref (sz + 4), .ref (sz + 5), .ref (sz + 6), .ref (sz + 7), .int 0, .int 0, .null, .null, .null, .null] ob0 (obM (adz sz) ci Z0)) hx hb (hts _ (kX6_init_w _ (by decide))) hK.1.1 hA (by omega) rfl 24 (by omega) (by decide) (by decide) dX6_init_64 hY (fun _ _ => rfl) rfl (fun H1 hY => ?_)
  refine va_putF (ref := "StemspanModel") (C := RX6) (T := TX6) (N := 14) (ci := 6) hx hb hts kX6_init_in tyX6 tyX6_ok nmX6 hown hK.1.1 hY.1 hY.2.1 hY.2.2 0 (fs := [.int 0, .ref (sz + 1), .ref (sz + 2), .ref (sz + 3), .ref (sz + 4), .ref (sz + 5), .ref (sz + 6), .ref (sz + 7), .int 0, .int 0, .null, .null, .null, .null]) ((pw_get (by omega)).trans (congrArg (fun e => some (sz + 0, e)) obP_at)) rfl 10 (by decide) (hts _ (kX6_init_w _ (by decide))) (fun x h => h) rfl hin rfl (ty := .array .int) rfl rfl rfl (by simp) dX6_init_66 (fun H2 locs2 hP2 hD2 hS2 => ?_)
  have hY := z_set (ob' := obP 0 6 [.int 0, .ref (sz + 1), .ref (sz + 2), .ref (sz + 3), .ref (sz + 4), .ref (sz + 5), .ref (sz + 6), .ref (sz + 7), .int 0, .int 0, .ref (sz + 8), .null, .null, .null] ob0 (obM (adz sz) ci Z0)) (by omega) hP2 hD2 hS2 (fun k _ hk => obP_ne hk) obP_at
  refine lv_aload_n hx hb dX6_init_69 rfl (lv_at hl 0 rfl) ?_
  refine lv_bipush (v := nI 24) hx hb dX6_init_70 (by decide) ?_
  refine z_newI (t0 := 1) (ob' := obP 0 6 [.int 0, .ref (sz + 1), .ref (sz + 2), .ref (sz + 3), .ref (sz + 4), .ref (sz + 5), .ref (sz + 6), .ref (sz + 7), .int 0, .int 0, .ref (sz + 8), .null, .null, .null] ob0 (obM (adz sz) ci Z0)) hx hb (hts _ (kX6_init_w _ (by decide))) hK.1.1 hA (by omega) rfl 24 (by omega) (by decide) (by decide) dX6_init_72 hY (fun _ _ => rfl) rfl (fun H1 hY => ?_)
  refine va_putF (ref := "StemspanModel") (C := RX6) (T := TX6) (N := 14) (ci := 6) hx hb hts kX6_init_in tyX6 tyX6_ok nmX6 hown hK.1.1 hY.1 hY.2.1 hY.2.2 0 (fs := [.int 0, .ref (sz + 1), .ref (sz + 2), .ref (sz + 3), .ref (sz + 4), .ref (sz + 5), .ref (sz + 6), .ref (sz + 7), .int 0, .int 0, .ref (sz + 8), .null, .null, .null]) ((pw_get (by omega)).trans (congrArg (fun e => some (sz + 0, e)) obP_at)) rfl 11 (by decide) (hts _ (kX6_init_w _ (by decide))) (fun x h => h) rfl hin rfl (ty := .array .int) rfl rfl rfl (by simp) dX6_init_74 (fun H2 locs2 hP2 hD2 hS2 => ?_)
  have hY := z_set (ob' := obP 0 6 [.int 0, .ref (sz + 1), .ref (sz + 2), .ref (sz + 3), .ref (sz + 4), .ref (sz + 5), .ref (sz + 6), .ref (sz + 7), .int 0, .int 0, .ref (sz + 8), .ref (sz + 9), .null, .null] ob0 (obM (adz sz) ci Z0)) (by omega) hP2 hD2 hS2 (fun k _ hk => obP_ne hk) obP_at
  refine lv_aload_n hx hb dX6_init_77 rfl (lv_at hl 0 rfl) ?_
  refine lv_bipush (v := nI 25) hx hb dX6_init_78 (by decide) ?_
  refine z_newL (t0 := 2) (ob' := obP 0 6 [.int 0, .ref (sz + 1), .ref (sz + 2), .ref (sz + 3), .ref (sz + 4), .ref (sz + 5), .ref (sz + 6), .ref (sz + 7), .int 0, .int 0, .ref (sz + 8), .ref (sz + 9), .null, .null] ob0 (obM (adz sz) ci Z0)) hx hb (hts _ (kX6_init_w _ (by decide))) hK.1.1 hA (by omega) rfl 25 (by omega) (by decide) (by decide) dX6_init_80 hY (fun _ _ => rfl) rfl (fun H1 hY => ?_)
  refine va_putF (ref := "StemspanModel") (C := RX6) (T := TX6) (N := 14) (ci := 6) hx hb hts kX6_init_in tyX6 tyX6_ok nmX6 hown hK.1.1 hY.1 hY.2.1 hY.2.2 0 (fs := [.int 0, .ref (sz + 1), .ref (sz + 2), .ref (sz + 3), .ref (sz + 4), .ref (sz + 5), .ref (sz + 6), .ref (sz + 7), .int 0, .int 0, .ref (sz + 8), .ref (sz + 9), .null, .null]) ((pw_get (by omega)).trans (congrArg (fun e => some (sz + 0, e)) obP_at)) rfl 12 (by decide) (hts _ (kX6_init_w _ (by decide))) (fun x h => h) rfl hin rfl (ty := .array .long) rfl rfl rfl (by simp) dX6_init_82 (fun H2 locs2 hP2 hD2 hS2 => ?_)
  have hY := z_set (ob' := obP 0 6 [.int 0, .ref (sz + 1), .ref (sz + 2), .ref (sz + 3), .ref (sz + 4), .ref (sz + 5), .ref (sz + 6), .ref (sz + 7), .int 0, .int 0, .ref (sz + 8), .ref (sz + 9), .ref (sz + 10), .null] ob0 (obM (adz sz) ci Z0)) (by omega) hP2 hD2 hS2 (fun k _ hk => obP_ne hk) obP_at
  refine lv_aload_n hx hb dX6_init_85 rfl (lv_at hl 0 rfl) ?_
  refine lv_bipush (v := nI 25) hx hb dX6_init_86 (by decide) ?_
  refine z_newI (t0 := 1) (ob' := obP 0 6 [.int 0, .ref (sz + 1), .ref (sz + 2), .ref (sz + 3), .ref (sz + 4), .ref (sz + 5), .ref (sz + 6), .ref (sz + 7), .int 0, .int 0, .ref (sz + 8), .ref (sz + 9), .ref (sz + 10), .null] ob0 (obM (adz sz) ci Z0)) hx hb (hts _ (kX6_init_w _ (by decide))) hK.1.1 hA (by omega) rfl 25 (by omega) (by decide) (by decide) dX6_init_88 hY (fun _ _ => rfl) rfl (fun H1 hY => ?_)
  refine va_putF (ref := "StemspanModel") (C := RX6) (T := TX6) (N := 14) (ci := 6) hx hb hts kX6_init_in tyX6 tyX6_ok nmX6 hown hK.1.1 hY.1 hY.2.1 hY.2.2 0 (fs := [.int 0, .ref (sz + 1), .ref (sz + 2), .ref (sz + 3), .ref (sz + 4), .ref (sz + 5), .ref (sz + 6), .ref (sz + 7), .int 0, .int 0, .ref (sz + 8), .ref (sz + 9), .ref (sz + 10), .null]) ((pw_get (by omega)).trans (congrArg (fun e => some (sz + 0, e)) obP_at)) rfl 13 (by decide) (hts _ (kX6_init_w _ (by decide))) (fun x h => h) rfl hin rfl (ty := .array .int) rfl rfl rfl (by simp) dX6_init_90 (fun H2 locs2 hP2 hD2 hS2 => ?_)
  have hY := z_set (ob' := obP 0 6 [.int 0, .ref (sz + 1), .ref (sz + 2), .ref (sz + 3), .ref (sz + 4), .ref (sz + 5), .ref (sz + 6), .ref (sz + 7), .int 0, .int 0, .ref (sz + 8), .ref (sz + 9), .ref (sz + 10), .ref (sz + 11)] ob0 (obM (adz sz) ci Z0)) (by omega) hP2 hD2 hS2 (fun k _ hk => obP_ne hk) obP_at
  have hY := z_to (ob' := obM (adz sz) ci Z0) hY fun o ho => by
    by_cases y : o = 0
    · subst y; exact obP_at.symm
    · exact (obP_hi (by omega)).symm
  refine lv_iconst (v := 0) hx hb dX6_init_93 (by decide) ?_
  refine lv_istore_n (lv' := [(1, .int 0), (0, .ref (sz + 0))]) hx hb dX6_init_94 rfl hl (by decide) rfl (fun ls hl => ?_)
  have loop : ∀ d i, i + d = 6 → ∀ (σ : St) (H : Heap) (locs : List Loc) (ls : Array Slot), Cod0 σ i → Sy D 12 (adz sz) (Az sz) s.heap (obM (adz sz) ci σ) H locs → lv_has ls 2 [(0, .ref (sz + 0)), (1, .int (nI i))] → W p l e rmX6_init s m #[Value.ref (sz + 0)] below meth c H locs 11 506 (MQ below (va_Qv (fun σ : St => InvM σ m0) (fun σ => PostZ D sz 12 (obM (adz sz) ci σ)) (Az sz)) #[Value.ref (sz + 0)] s 11 506 (Az sz)) (F0 m 95 ls []) := by
    intro d
    induction d with
    | zero =>
      intro i hi σ H locs ls hc0 hY hl
      have e : i = 6 := by omega
      subst e
      refine lv_iload_n hx hb dX6_init_95 rfl (lv_at hl 1 rfl) ?_
      refine lv_bipush (v := nI 6) hx hb dX6_init_96 (by decide) ?_
      refine lv_icmp_ge (tgt := 127) hx hb dX6_init_98 (by decide) (fun c_1 => ?_) (fun c_1 => absurd (nI_le (Nat.le_refl 6) (by omega)) c_1)
      exact W.vret hx hb hr (fun t ht hW => ⟨⟨σ, rfl, InvM0 hc0, by show va_P _ _ _ _; rw [ht]; exact hY.1⟩, hY.2.2.F ht⟩) hY.2.2.2.2 dX6_init_127
    | succ d ih =>
      intro i hi σ H locs ls hc0 hY hl
      refine lv_iload_n hx hb dX6_init_95 rfl (lv_at hl 1 rfl) ?_
      refine lv_bipush (v := nI 6) hx hb dX6_init_96 (by decide) ?_
      refine lv_icmp_ge (tgt := 127) hx hb dX6_init_98 (by decide) (fun c_1 => absurd c_1 (nI_ge (by omega) (by omega))) (fun c_1 => ?_)
      refine lv_aload_n hx hb dX6_init_101 rfl (lv_at hl 0 rfl) ?_
      refine w_get (o := 0) (ci := 6) (C := RX6) (T := TX6) (N1 := 14) (v := .ref (sz + 3)) hx hb hts kX6_init_in hown hK.1.1 hY (by omega) obM_main rfl 3 (by decide) (hts _ (kX6_init_w _ (by decide))) rfl rfl dX6_init_102 ?_
      refine lv_iconst (v := 3) hx hb dX6_init_105 (by decide) ?_
      refine lv_iload_n hx hb dX6_init_106 rfl (lv_at hl 1 rfl) ?_
      refine lv_imul hx hb dX6_init_107 ?_
      refine lv_bipush (v := 97) hx hb dX6_init_108 (by decide) ?_
      refine lv_iload_n hx hb dX6_init_110 rfl (lv_at hl 1 rfl) ?_
      refine lv_iadd hx hb dX6_init_111 ?_
      have e1 : (97 : Int32) + nI i = nI (97 + i) := nI_add 97 i
      have e2 : (((97 : Int32) + nI i).toUInt32 % 65536).toInt32 = nI (97 + i) := by rw [e1, pk_char, pk_tn (by omega), Nat.mod_eq_of_lt (by omega)]
      refine lv_i2c (v := nI (97 + i)) hx hb dX6_init_112 e2 ?_
      rw [nI_x3]
      have b1 : vp_in (nI (3 * i)) 18 := vp_in_nI (by omega) (by omega)
      refine w_cast (o := 3) hx hb hK.1.1 hY (by decide) 0 rfl rfl b1 dX6_init_113 (ob' := obM (adz sz) ci (pA σ 3 (3 * i) (nI (97 + i)))) (by rw [nI_clamp (by omega), charN (by omega)]; exact obM_pA (by rw [← gA_up]; rfl)) (fun H locs hY => ?_)
      refine lv_aload_n hx hb dX6_init_114 rfl (lv_at hl 0 rfl) ?_
      refine w_get (o := 0) (ci := 6) (C := RX6) (T := TX6) (N1 := 14) (v := .ref (sz + 7)) hx hb hts kX6_init_in hown hK.1.1 hY (by omega) obM_main rfl 7 (by decide) (hts _ (kX6_init_w _ (by decide))) rfl rfl dX6_init_115 ?_
      refine lv_iload_n hx hb dX6_init_118 rfl (lv_at hl 1 rfl) ?_
      refine lv_iconst (v := nI 1) hx hb dX6_init_119 (by decide) ?_
      have b2 : vp_in (nI i) 6 := vp_in_nI (by omega) (by omega)
      refine w_iast (o := 7) hx hb hK.1.1 hY (by decide) 1 rfl rfl b2 dX6_init_120 (ob' := obM (adz sz) ci (pA (pA σ 3 (3 * i) (nI (97 + i))) 7 i (nI 1))) (by rw [nI_clamp (by omega)]; exact obM_pA (by rw [← gA_up]; rfl)) (fun H locs hY => ?_)
      refine lv_iinc (v := nI (i + 1)) (lv' := [(1, .int (nI (i + 1))), (0, .ref (sz + 0))]) hx hb dX6_init_121 hl (k := 1) rfl (nI_1 i) (by decide) rfl (fun ls hl => ?_)
      refine lv_goto (tgt := 95) hx hb dX6_init_124 (by decide) ?_
      refine ih (i + 1) (by omega) (pA (pA σ 3 (3 * i) (nI (97 + i))) 7 i (nI 1)) _ _ ls ⟨hc0.1, hc0.2.1, fun q hq => ?_⟩ hY (lv_sub hl [1, 0] rfl)
      rw [gA_pA, if_neg (by omega), gA_pA, gA_pA]
      by_cases z : q = i
      · subst z
        rw [if_pos ⟨rfl, rfl⟩, if_pos ⟨rfl, rfl⟩]
        exact ⟨rfl, rfl⟩
      · rw [if_neg (by omega), if_neg (by omega), gA_pA, if_neg (by omega)]
        exact hc0.2.2 q (by omega)
  exact loop 6 0 (by omega) Z0 _ _ ls ⟨rfl, rfl, fun q hq => absurd hq (Nat.not_lt_zero q)⟩ hY (lv_sub hl [1, 0] rfl)
