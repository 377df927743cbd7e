section ZB
variable {p : Program} {l : Launch} {e : Env} {R : Room} {s : State} {m : MethodId} {args : Array Value} {below : List Frame} {meth : Method} {c : Code} {H : Heap} {locs : List Loc} {cells slots : Nat} {Q : State → Prop}
variable {cc : ByteArray} {pc : Nat} {ls : Array Slot} {rest As : List Value} {D : va_G} {H0 : Heap} {tys : List (ClassId × FieldType)} {sz N : Nat} {ob ob' : Nat → va_E}
theorem z_preV (hK : Kz D tys s) (hz : H.size = sz + N) (hY : Sy D N (adz sz) (Az sz) H0 ob H locs) {o ci : Nat} (ho : o < N) {fs : List Value} (he : ob o = .inr (ci, fs)) {r : vw_C} (hc : vwCl[ci]? = some r) {C : String} (hr : r.1 = C) : PreV s H C (sz + o) (va_Pc (.ref (sz + o) :: As) (PreZ D sz N tys ob)) As :=
  ⟨z_blind, by
    subst hr
    exact va_recv (fs := fs) hK.1.1 hY.1 (ci := ci) (q0 := o) hc (by rw [pw_get ho, he]), fun U hU hW => ⟨rfl, by rw [hU]; exact hz, by rw [hU]; exact hY.1, Kz.warm hW hK, hY.2.1⟩⟩
theorem z_calli {post : Int32 → Prop} {st0 : List Value} {a : Array Value} (hr : va_Run p l e R s m args below meth c H locs cells slots 0 0 (F0 m pc ls st0) rest (va_Qi (fun r (_ : Unit) => post r) (fun _ => PostZ D sz N ob) (Az sz) a) (Az sz)) (hY : Sy D N (adz sz) (Az sz) H0 ob H locs)
    (kk : ∀ (r : Int32) (H1 : Heap) (locs1 : List Loc), post r → Sy D N (adz sz) (Az sz) H0 ob H1 locs1 → W p l e R s m args below meth c H1 locs1 cells slots Q (F0 m (pc + 3) ls (.int r :: rest))) : W p l e R s m args below meth c H locs cells slots Q (F0 m pc ls st0) :=
  va_calli hr hY.2.2 (fun q _ h => h) (fun q h => h) fun r u t H1 locs1 ht _ hp hB _ _ hS => kk r H1 locs1 hp ⟨by rw [← ht]; exact hB, hY.2.1, hS⟩
end ZB
set_option maxHeartbeats 4000000 in
set_option maxRecDepth 100000 in
theorem zX5_signOf (l : Launch) (D : va_G) (sz N : Nat) (tys : List (ClassId × FieldType)) (ob : Nat → va_E) (q : Nat) (hq : q < 6) : Met l yX5_signOf wsX5_signOf rmX5_signOf (va_Pc [.int (nI q)] (PreZ D sz N tys ob)) (va_Qi (fun r (_ : Unit) => r = nI (97 + q)) (fun _ => PostZ D sz N ob) (Az sz)) 0 0 (Az sz) := by
  refine Met.ofW (cc := cX5_signOf) (maxL := 1) (ret := (some .char)) (by decide) rfl ?_
  intro p e s m args below meth c s₁ B hml hv
  obtain ⟨rfl, hsz, hP, hK, hD⟩ := hv
  have hx := B.exec
  have hb := B.bytes
  have hlocks := B.notSynchronized
  have hY : Sy D N (adz sz) (Az sz) s.heap ob s.heap [] := ⟨hP, hD, va_S.rf⟩
  have hl := lv_entry ([.int (nI q)]) (n := 1) (Nat.le_of_ble_eq_true rfl)
  rw [lg_entry_eq]
  generalize (lg_sl ([.int (nI q)]) ++ List.replicate (1 - (lg_sl ([.int (nI q)])).length) Slot.unset).toArray = ls at hl ⊢
  have hl : lv_has ls 1 [(0, .int (nI q))] := hl
  refine lv_bipush (v := (97 : Int32)) hx hb dX5_signOf_0 (by decide) ?_
  refine lv_iload_n hx hb dX5_signOf_2 rfl (lv_at hl 0 rfl) ?_
  refine lv_iadd hx hb dX5_signOf_3 ?_
  refine lv_i2c hx hb dX5_signOf_4 rfl ?_
  have e1 : (97 : Int32) + nI q = nI (97 + q) := nI_add 97 q
  have e2 : (((97 : Int32) + nI q).toUInt32 % 65536).toInt32 = nI (97 + q) := by rw [e1, pk_char, pk_tn (by omega), Nat.mod_eq_of_lt (by omega)]
  rw [e2]
  exact W.zret hx hb B.returns (nar_char (by omega)) (fun t ht hW => ⟨⟨_, (), rfl, rfl, by show va_P _ _ _ _; rw [ht]; exact hY.1⟩, hY.2.2.F ht⟩) hY.2.2.2.2 dX5_signOf_5
set_option maxHeartbeats 4000000 in
set_option maxRecDepth 100000 in
theorem zX2_append (l : Launch) (D : va_G) (sz N o : Nat) (ci : Nat → ClassId) (tys : List (ClassId × FieldType)) (hty : tys[0]? = some (ci 0, .char)) (ob0 ob1 : Nat → va_E) (q : Nat) (hq : q < 65536) (ho : o + 1 < N) (h0 : ob0 o = .inr (2, [.ref (sz + (o + 1)), .int 0])) (h0' : ob0 (o + 1) = .inl (ci 0, 3, .inl fun _ => 0)) (h1 : ∀ k, k ≠ o → k ≠ o + 1 → ob1 k = ob0 k) (h2 : ob1 o = .inr (2, [.ref (sz + (o + 1)), .int 1])) (h3 : ob1 (o + 1) = .inl (ci 0, 3, .inl (upd (fun _ => 0) 0 (nI q)))) :
    Met l yX2_append wsX2_append rmX2_append (va_Pc [.ref (sz + o), .int (nI q)] (PreZ D sz N tys ob0)) (va_Qv (fun _ : Unit => True) (fun _ => PostZ D sz N ob1) (Az sz)) 0 0 (Az sz) := by
  refine Met.ofW (cc := cX2_append) (maxL := 2) (ret := none) (by decide) rfl ?_
  intro p e s m args below meth c s₁ B hml hv
  obtain ⟨rfl, hsz, hP, hK, hD⟩ := hv
  have hx := B.exec
  have hb := B.bytes
  have hr := B.returns
  have hts := atoms_spec (ws := wsX2_append) B.pre
  have hown : s.vm.findClass RX2 = some m.cls := findClass_of_methodNamed B.named
  have hlocks := B.notSynchronized
  have hY : Sy D N (adz sz) (Az sz) s.heap ob0 s.heap [] := ⟨hP, hD, va_S.rf⟩
  have hl := lv_entry ([.ref (sz + o), .int (nI q)]) (n := 2) (Nat.le_of_ble_eq_true rfl)
  rw [lg_entry_eq]
  generalize (lg_sl ([.ref (sz + o), .int (nI q)]) ++ List.replicate (2 - (lg_sl ([.ref (sz + o), .int (nI q)])).length) Slot.unset).toArray = ls at hl ⊢
  have hl : lv_has ls 2 [(0, .ref (sz + o)), (1, .int (nI q))] := hl
  refine lv_aload_n hx hb dX2_append_0 rfl (lv_at hl 0 rfl) ?_
  refine w_get (o := o) (ci := 2) (C := RX2) (T := TX2) (N1 := 2) (v := .int 0) hx hb hts kX2_append_inX2 hown hK.1.1 hY (by omega) h0 rfl 1 (by decide) (hts _ kX2_append_0) rfl rfl dX2_append_1 ?_
  refine lv_aload_n hx hb dX2_append_4 rfl (lv_at hl 0 rfl) ?_
  refine w_get (o := o) (ci := 2) (C := RX2) (T := TX2) (N1 := 2) (v := .ref (sz + (o + 1))) hx hb hts kX2_append_inX2 hown hK.1.1 hY (by omega) h0 rfl 0 (by decide) (hts _ kX2_append_2) rfl rfl dX2_append_5 ?_
  refine w_alen (o := (o + 1)) hx hb hK.1.1 hY ho 0 h0' hty (v := 3) rfl dX2_append_8 ?_
  refine lv_icmp_ge (tgt := 32) hx hb dX2_append_9 (by decide) (fun c_1 => absurd c_1 (by decide)) (fun c_1 => ?_)
  refine lv_aload_n hx hb dX2_append_12 rfl (lv_at hl 0 rfl) ?_
  refine w_get (o := o) (ci := 2) (C := RX2) (T := TX2) (N1 := 2) (v := .ref (sz + (o + 1))) hx hb hts kX2_append_inX2 hown hK.1.1 hY (by omega) h0 rfl 0 (by decide) (hts _ kX2_append_2) rfl rfl dX2_append_13 ?_
  refine lv_aload_n hx hb dX2_append_16 rfl (lv_at hl 0 rfl) ?_
  refine w_get (o := o) (ci := 2) (C := RX2) (T := TX2) (N1 := 2) (v := .int 0) hx hb hts kX2_append_inX2 hown hK.1.1 hY (by omega) h0 rfl 1 (by decide) (hts _ kX2_append_0) rfl rfl dX2_append_17 ?_
  refine lv_iload_n hx hb dX2_append_20 rfl (lv_at hl 1 rfl) ?_
  refine va_cast hx hb hK.1.1 hY.1 hY.2.1 hY.2.2 (o + 1) 0 ((pw_get ho).trans (congrArg (fun e => some (sz + (o + 1), e)) h0')) hty (vp_in_nI (n := 0) (by omega) (by omega)) dX2_append_21 (fun H2 locs2 hP2 hD2 hS2 => ?_)
  have hY := z_set (ob' := fun k => if k = o + 1 then ob1 (o + 1) else ob0 k) ho hP2 hD2 hS2 (fun k _ hk => if_neg hk) ((if_pos rfl).trans (h3.trans (by
    have e : (0 : Int32).toNatClampNeg = 0 := by decide
    rw [e, charN hq])))
  have g0 : (fun k => if k = o + 1 then ob1 (o + 1) else ob0 k : Nat → va_E) o = .inr (2, [.ref (sz + (o + 1)), .int 0]) := (if_neg (by omega)).trans h0
  refine lv_aload_n hx hb dX2_append_22 rfl (lv_at hl 0 rfl) ?_
  refine lv_dup hx hb dX2_append_23 rfl ?_
  refine w_get (o := o) (ci := 2) (C := RX2) (T := TX2) (N1 := 2) (v := .int 0) hx hb hts kX2_append_inX2 hown hK.1.1 hY (by omega) g0 rfl 1 (by decide) (hts _ kX2_append_0) rfl rfl dX2_append_24 ?_
  refine lv_iconst (v := (1 : Int32)) hx hb dX2_append_27 (by decide) ?_
  refine lv_iadd hx hb dX2_append_28 ?_
  refine va_put (ref := "Stemspan$Row") (C := RX2) (T := TX2) (N := 2) (ci := 2) hx hb hts kX2_append_inX2 tyX2 tyX2_ok nmX2 hown hK.1.1 hY.1 hY.2.1 hY.2.2 o (fs := [.ref (sz + (o + 1)), .int 0]) ((pw_get (by omega)).trans (congrArg (fun e => some (sz + o, e)) g0)) rfl 1 (by decide) (hts _ kX2_append_0) (fun x h => h) rfl (ty := .int) rfl rfl rfl (by simp) dX2_append_29 (fun H3 locs3 hP3 hD3 hS3 => ?_)
  have hY := z_set (ob' := ob1) (by omega) hP3 hD3 hS3 (fun k _ hk => by
    by_cases z : k = o + 1
    · subst z; exact (if_pos rfl).symm
    · exact (h1 k hk z).trans (if_neg z).symm) (h2.trans rfl)
  exact W.vret hx hb hr (fun t ht hW => ⟨⟨(), rfl, trivial, by show va_P _ _ _ _; rw [ht]; exact hY.1⟩, hY.2.2.F ht⟩) hY.2.2.2.2 dX2_append_32
/-- the book's rows, as far as they are made -/
def E0 (sz : Nat) (ci : Nat → ClassId) (i k : Nat) : Nat → va_E := fun o => if o = 59 then .inl (ci 3, 6, .inr (.inr (.inr (.inr fun j => if j < i then some (sz + (60 + 2 * j)) else none)))) else if o = 72 then .inl (ci 3, 24, .inr (.inr (.inr (.inr fun j => if j < k then some (sz + (73 + 2 * j)) else none)))) else obC (adz sz) ci S0 o
theorem E0_ne {sz : Nat} {ci : Nat → ClassId} {i k o : Nat} (h : o ≠ 59) (h2 : o ≠ 72) : E0 sz ci i k o = obC (adz sz) ci S0 o := (if_neg h).trans (if_neg h2)
theorem E0_59 {sz : Nat} {ci : Nat → ClassId} {i k : Nat} : E0 sz ci i k 59 = .inl (ci 3, 6, .inr (.inr (.inr (.inr fun j => if j < i then some (sz + (60 + 2 * j)) else none)))) := if_pos rfl
theorem E0_72 {sz : Nat} {ci : Nat → ClassId} {i k : Nat} : E0 sz ci i k 72 = .inl (ci 3, 24, .inr (.inr (.inr (.inr fun j => if j < k then some (sz + (73 + 2 * j)) else none)))) := (if_neg (by omega)).trans (if_pos rfl)
/-- a fresh row of three -/
def obR (sz : Nat) (ci : Nat → ClassId) (o0 : Nat) (ob : Nat → va_E) : Nat → va_E := fun o => if o = o0 then .inr (2, [.ref (sz + (o0 + 1)), .int 0]) else if o = o0 + 1 then .inl (ci 0, 3, .inl fun _ => 0) else ob o
theorem obR_0 {sz : Nat} {ci : Nat → ClassId} {o0 : Nat} {ob : Nat → va_E} : obR sz ci o0 ob o0 = .inr (2, [.ref (sz + (o0 + 1)), .int 0]) := if_pos rfl
theorem obR_1 {sz : Nat} {ci : Nat → ClassId} {o0 : Nat} {ob : Nat → va_E} : obR sz ci o0 ob (o0 + 1) = .inl (ci 0, 3, .inl fun _ => 0) := (if_neg (by omega)).trans (if_pos rfl)
theorem obR_ne {sz : Nat} {ci : Nat → ClassId} {o0 o : Nat} {ob : Nat → va_E} (h : o ≠ o0) (h2 : o ≠ o0 + 1) : obR sz ci o0 ob o = ob o := (if_neg h).trans (if_neg h2)
theorem ob_code {ad : Nat → Nat} {ci : Nat → ClassId} {q : Nat} (h : q < 6) : obC ad ci S0 (60 + 2 * q) = .inr (2, [.ref (ad (60 + 2 * q + 1)), .int 1]) := by
  rw [obC_row (rowB_code q h)]
  have e : gI S0 (60 + 2 * q) = 1 := if_pos (by omega)
  rw [e]
theorem ob_codec {ad : Nat → Nat} {ci : Nat → ClassId} {q : Nat} (h : q < 6) : obC ad ci S0 (60 + 2 * q + 1) = .inl (ci 0, 3, .inl (upd (fun _ => 0) 0 (nI (97 + q)))) := by
  rw [obC_chars (rowB_code q h), capC_code h]
  have e : gA S0 (60 + 2 * q) = upd (fun _ => 0) 0 (nI (97 + q)) := funext fun i => by
    show (if 60 ≤ 60 + 2 * q ∧ 60 + 2 * q < 72 ∧ (60 + 2 * q) % 2 = 0 ∧ i = 0 then nI (97 + (60 + 2 * q - 60) / 2) else 0) = _
    by_cases z : i = 0
    · subst z
      rw [if_pos ⟨by omega, by omega, by omega, rfl⟩, show (60 + 2 * q - 60) / 2 = q by omega]
      simp [upd]
    · rw [if_neg (fun y => z y.2.2.2)]
      simp [upd, z]
  rw [e]
abbrev rmX0_init : Room := { frames := 2, cells := 64, slots := 830, locals := 40 }
theorem ddX0_init : yX0_init.cls ≠ "java/lang/invoke/MethodHandle" ∧ yX0_init.cls ≠ "java/lang/invoke/VarHandle" ∧ (parseMethodDescriptor yX0_init.desc).map (fun d => d.parameters.length) = some 0 := by decide +kernel
theorem kX0_init_in : ∀ w ∈ wsX00, w ∈ wsX0_init := by decide +kernel
theorem kX0_init_in2 : ∀ w ∈ wsX20, w ∈ wsX0_init := by decide +kernel
theorem kX0_init_w : ∀ w ∈ [Cond.methodLink RX0 3 objectInit, .instanceMethod objectInit, .classLink RX0 9 RX2, .fieldLink RX0 11 "Stemspan$CodeBook" "codes" "[LStemspan$Row;", .instantiable RX2 2, .initialized RX2, .fieldLink RX0 28 "Stemspan$CodeBook" "written" "[LStemspan$Row;", .fieldLink RX0 31 "Stemspan$CodeBook" "nothing" "LStemspan$Row;", .methodLink RX0 17 yX2_init, .instanceMethod yX2_init, .static yX5_signOf, .initialized RX5], w ∈ wsX0_init := by decide +kernel
set_option maxHeartbeats 4000000 in
set_option maxRecDepth 100000 in
theorem mX0_init (l : Launch) (D : va_G) (sz : Nat) (ci : Nat → ClassId) (ob0 ob1 : Nat → va_E) (h0 : ob0 58 = .inr (0, [.null, .null, .null])) (h1 : ∀ o, o < 58 → ob1 o = ob0 o) (h2 : ∀ o, 58 ≤ o → o < 123 → ob1 o = obC (adz sz) ci S0 o) :
    Met l yX0_init wsX0_init rmX0_init (va_Pc [.ref (sz + 58)] (PreZ D sz 59 (tyC ci) ob0)) (va_Qv (fun _ : Unit => True) (fun _ => PostZ D sz 123 ob1) (Az sz)) 64 830 (Az sz) := by
  refine Met.ofW (cc := cX0_init) (maxL := 2) (ret := none) (by decide) rfl ?_
  intro p e s m args below meth c s₁ B hml hv
  obtain ⟨rfl, hsz, hP, hK, hD⟩ := hv
  have hx := B.exec
  have hb := B.bytes
  have hr := B.returns
  have hts := atoms_spec (ws := wsX0_init) B.pre
  have hown : s.vm.findClass RX0 = some m.cls := findClass_of_methodNamed B.named
  have hlocks := B.notSynchronized
  have hin : meth.name = "<init>" := (name_of_methodNamed B.named B.method).1
  have C0 : CallFix p m c cX0_init 2 s _ wsX0_init RX0 := ⟨hx, hb, hml, hown, hts⟩
  have hY : Sy D 59 (adz sz) (Az sz) s.heap ob0 s.heap [] := ⟨hP, hD, va_S.rf⟩
  have hA : ∀ q, s.heap.size ≤ q → Az sz q := fun q h => by show sz ≤ q; omega
  have hl := lv_entry ([.ref (sz + 58)]) (n := 2) (Nat.le_of_ble_eq_true rfl)
  rw [lg_entry_eq]
  generalize (lg_sl ([.ref (sz + 58)]) ++ List.replicate (2 - (lg_sl ([.ref (sz + 58)])).length) Slot.unset).toArray = ls at hl ⊢
  have hl : lv_has ls 2 [(0, .ref (sz + 58))] := hl
  refine lv_aload_n hx hb dX0_init_0 rfl (lv_at hl 0 rfl) ?_
  refine W.objInit hx hb hown (hts _ (kX0_init_w _ (by decide))) (hts _ (kX0_init_w _ (by decide))) (hts _ (List.mem_of_getElem? (i := 3) rfl)) rfl (by rw [hml]; exact hl.1) rfl dX0_init_1 (Nat.le_of_ble_eq_true rfl) (Nat.le_of_ble_eq_true rfl) ?_
  refine W.eq (g2 := F0 m 4 ls []) rfl ?_
  have hY : Sy D 59 (adz sz) (Az sz) s.heap (obP 58 0 [.null, .null, .null] ob0 (E0 sz ci 0 0)) s.heap [] := z_to hY fun o ho => by
    rcases Nat.lt_or_ge o 58 with z | z
    · exact obP_lo z
    · have : o = 58 := by omega
      subst this
      exact obP_at.trans h0.symm
  have loop2 : ∀ d i, i + d = 24 → ∀ (H : Heap) (locs : List Loc) (ls : Array Slot), Sy D (73 + 2 * i) (adz sz) (Az sz) s.heap (obP 58 0 [.ref (sz + 59), .ref (sz + 72), .null] ob0 (E0 sz ci 6 i)) H locs → lv_has ls 2 [(0, .ref (sz + 58)), (1, .int (nI i))] → W p l e rmX0_init s m #[Value.ref (sz + 58)] below meth c H locs (14 + 2 * i) (60 + 32 * i) (MQ below (va_Qv (fun _ : Unit => True) (fun _ => PostZ D sz 123 ob1) (Az sz)) #[Value.ref (sz + 58)] s 64 830 (Az sz)) (F0 m 68 ls []) := by
    intro d
    induction d with
    | zero =>
      intro i hi H locs ls hY hl
      have e : i = 24 := by omega
      subst e
      refine lv_iload_n hx hb dX0_init_68 rfl (lv_at hl 1 rfl) ?_
      refine lv_aload_n hx hb dX0_init_69 rfl (lv_at hl 0 rfl) ?_
      refine w_get (o := 58) (ci := 0) (C := RX0) (T := TX0) (N1 := 3) (v := .ref (sz + 72)) hx hb hts kX0_init_in hown hK.1.1 hY (by omega) obP_at rfl 1 (by decide) (hts _ (kX0_init_w _ (by decide))) rfl rfl dX0_init_70 ?_
      refine w_alen (o := 72) hx hb hK.1.1 hY (by omega) 3 ((obP_hi (by omega)).trans E0_72) rfl (v := nI 24) rfl dX0_init_73 ?_
      refine lv_icmp_ge (tgt := 98) hx hb dX0_init_74 (by decide) (fun c_1 => ?_) (fun c_1 => absurd (nI_le (Nat.le_refl 24) (by omega)) c_1)
      refine lv_aload_n hx hb dX0_init_98 rfl (lv_at hl 0 rfl) ?_
      refine z_row (room := 0) (iN := 9) (iM := 17) (N := 121) (ci := ci) (pc2 := 104) (ob' := (obP 58 0 [.ref (sz + 59), .ref (sz + 72), .null] ob0 (E0 sz ci 6 24))) C0 hK hA (by omega) rfl hl.1 kX0_init_in2 gX0_init_X2_init (hts _ (kX0_init_w _ (by decide))) (hts _ (kX0_init_w _ (by decide))) (hts _ (kX0_init_w _ (by decide))) (hts _ (kX0_init_w _ (by decide))) (hts _ (kX0_init_w _ (by decide))) (by decide) (by decide) (by decide) (by decide) (Nat.le_of_ble_eq_true rfl) dX0_init_99 dX0_init_102 (fun _ _ _ _ _ k => lv_iconst (v := nI 0) hx hb dX0_init_103 (by decide) k) dX0_init_104 hY (fun _ _ => rfl) ((obP_hi (by omega)).trans ((E0_ne (by omega) (by omega)).trans (ob_row (o := 121) (by decide) (by omega)))) ((obP_hi (by omega)).trans ((E0_ne (by omega) (by omega)).trans (ob_chars (o := 121) (by decide) (by omega)))) (fun H1 locs1 hY => ?_)
      refine va_putF (ref := "Stemspan$CodeBook") (C := RX0) (T := TX0) (N := 3) (ci := 0) hx hb hts kX0_init_in tyX0 tyX0_ok nmX0 hown hK.1.1 hY.1 hY.2.1 hY.2.2 58 (fs := [.ref (sz + 59), .ref (sz + 72), .null]) ((pw_get (by omega)).trans (congrArg (fun e => some (sz + 58, e)) obP_at)) rfl 2 (by decide) (hts _ (kX0_init_w _ (by decide))) (fun x h => h) rfl hin rfl (ty := .object "Stemspan$Row") rfl rfl rfl (by simp) dX0_init_107 (fun H2 locs2 hP2 hD2 hS2 => ?_)
      have hY := z_set (ob' := obP 58 0 [.ref (sz + 59), .ref (sz + 72), .ref (sz + 121)] ob0 (E0 sz ci 6 24)) (by omega) hP2 hD2 hS2 (fun k _ hk => obP_ne hk) obP_at
      have hY := z_same (ob' := ob1) hY fun o ho hv => by
        rcases Nat.lt_or_ge o 58 with z | z
        · rw [obP_lo z] at hv
          rw [h1 o z]; exact hv
        · rw [h2 o z ho]
          by_cases y : o = 58
          · subst y
            rw [obP_at] at hv
            exact hv
          · rw [obP_hi (by omega)] at hv
            by_cases x : o = 59
            · subst x
              rw [E0_59] at hv
              refine z_arrq (fun j hj => ?_) hv
              rw [if_pos hj]
            · by_cases w : o = 72
              · subst w
                rw [E0_72] at hv
                refine z_arrq (fun j hj => ?_) hv
                rw [if_pos hj]
              · rw [E0_ne x w] at hv; exact hv
      exact W.vret hx hb hr (fun t ht hW => ⟨⟨(), rfl, trivial, by show va_P _ _ _ _; rw [ht]; exact hY.1⟩, hY.2.2.F ht⟩) hY.2.2.2.2 dX0_init_110
    | succ d ih =>
      intro i hi H locs ls hY hl
      have hcap : capC (73 + 2 * i) = 30 := capC_wr (by omega)
      refine lv_iload_n hx hb dX0_init_68 rfl (lv_at hl 1 rfl) ?_
      refine lv_aload_n hx hb dX0_init_69 rfl (lv_at hl 0 rfl) ?_
      refine w_get (o := 58) (ci := 0) (C := RX0) (T := TX0) (N1 := 3) (v := .ref (sz + 72)) hx hb hts kX0_init_in hown hK.1.1 hY (by omega) obP_at rfl 1 (by decide) (hts _ (kX0_init_w _ (by decide))) rfl rfl dX0_init_70 ?_
      refine w_alen (o := 72) hx hb hK.1.1 hY (by omega) 3 ((obP_hi (by omega)).trans E0_72) rfl (v := nI 24) rfl dX0_init_73 ?_
      refine lv_icmp_ge (tgt := 98) hx hb dX0_init_74 (by decide) (fun c_1 => absurd c_1 (nI_ge (by omega) (by omega))) (fun c_1 => ?_)
      refine lv_aload_n hx hb dX0_init_77 rfl (lv_at hl 0 rfl) ?_
      refine w_get (o := 58) (ci := 0) (C := RX0) (T := TX0) (N1 := 3) (v := .ref (sz + 72)) hx hb hts kX0_init_in hown hK.1.1 hY (by omega) obP_at rfl 1 (by decide) (hts _ (kX0_init_w _ (by decide))) rfl rfl dX0_init_78 ?_
      refine lv_iload_n hx hb dX0_init_81 rfl (lv_at hl 1 rfl) ?_
      refine z_row (room := 30) (iN := 9) (iM := 17) (N := (73 + 2 * i)) (ci := ci) (pc2 := 88) (ob' := (obP 58 0 [.ref (sz + 59), .ref (sz + 72), .null] ob0 (E0 sz ci 6 i))) C0 hK hA (by omega) rfl hl.1 kX0_init_in2 gX0_init_X2_init (hts _ (kX0_init_w _ (by decide))) (hts _ (kX0_init_w _ (by decide))) (hts _ (kX0_init_w _ (by decide))) (hts _ (kX0_init_w _ (by decide))) (hts _ (kX0_init_w _ (by decide))) (by decide) (by decide) (by show 14 + 2 * i + 2 ≤ 64; omega) (by show 60 + 32 * i + 2 + 30 ≤ 830; omega) (Nat.le_of_ble_eq_true rfl) dX0_init_82 dX0_init_85 (fun _ _ _ _ _ k => lv_bipush (v := nI 30) hx hb dX0_init_86 (by decide) k) dX0_init_88 hY (fun _ _ => rfl) ((obP_hi (by omega)).trans ((E0_ne (by omega) (by omega)).trans (ob_row (rowB_written i (by omega)) (by omega)))) ((obP_hi (by omega)).trans ((E0_ne (by omega) (by omega)).trans ((ob_chars (rowB_written i (by omega)) (by omega)).trans (by rw [hcap])))) (fun H1 locs1 hY => ?_)
      refine va_astq (r := (RX2, TX2, 2)) hx hb hK.1.1 hY.1 hY.2.1 hY.2.2 72 3 (73 + 2 * i) 2 ((pw_get (by omega)).trans (congrArg (fun e => some (sz + 72, e)) ((obP_hi (by omega)).trans E0_72))) rfl ((pw_get (by omega)).trans (congrArg (fun e => some (sz + (73 + 2 * i), e)) ((obP_hi (by omega)).trans ((E0_ne (by omega) (by omega)).trans (ob_row (rowB_written i (by omega)) (by omega)))))) rfl (vp_in_nI (by omega) (by omega)) dX0_init_91 (fun H2 locs2 hP2 hD2 hS2 => ?_)
      have hY := z_set (ob' := obP 58 0 [.ref (sz + 59), .ref (sz + 72), .null] ob0 (E0 sz ci 6 (i + 1))) (by omega) hP2 hD2 hS2 (fun k _ hk => by
        rcases Nat.lt_trichotomy k 58 with z | z | z
        · rw [obP_lo z, obP_lo z]
        · subst z; rw [obP_at, obP_at]
        · rw [obP_hi z, obP_hi z]
          by_cases y : k = 59
          · subst y; rw [E0_59, E0_59]
          · rw [E0_ne y hk, E0_ne y hk]) ((obP_hi (by omega)).trans (E0_72.trans (by
        congr 7
        funext j
        rw [nI_clamp (by omega)]
        by_cases z : j = i
        · subst z; simp [va_up]
        · have : (j < i + 1) = (j < i) := by rw [eq_iff_iff]; omega
          simp [va_up, z, this])))
      refine lv_iinc (v := nI (i + 1)) (lv' := [(1, .int (nI (i + 1))), (0, .ref (sz + 58))]) hx hb dX0_init_92 hl (k := 1) rfl (nI_1 i) (by decide) rfl (fun ls hl => ?_)
      refine lv_goto (tgt := 68) hx hb dX0_init_95 (by decide) ?_
      rw [show 14 + 2 * i + 2 = 14 + 2 * (i + 1) by omega, show 60 + 32 * i + 2 + 30 = 60 + 32 * (i + 1) by omega]
      rw [show 73 + 2 * i + 2 = 73 + 2 * (i + 1) by omega] at hY
      exact ih (i + 1) (by omega) _ _ ls hY (lv_sub hl [1, 0] rfl)
  have loop1 : ∀ d i, i + d = 6 → ∀ (H : Heap) (locs : List Loc) (ls : Array Slot), Sy D (60 + 2 * i) (adz sz) (Az sz) s.heap (obP 58 0 [.ref (sz + 59), .null, .null] ob0 (E0 sz ci i 0)) H locs → lv_has ls 2 [(0, .ref (sz + 58)), (1, .int (nI i))] → W p l e rmX0_init s m #[Value.ref (sz + 58)] below meth c H locs (1 + 2 * i) (6 + 5 * i) (MQ below (va_Qv (fun _ : Unit => True) (fun _ => PostZ D sz 123 ob1) (Az sz)) #[Value.ref (sz + 58)] s 64 830 (Az sz)) (F0 m 15 ls []) := by
    intro d
    induction d with
    | zero =>
      intro i hi H locs ls hY hl
      have e : i = 6 := by omega
      subst e
      refine lv_iload_n hx hb dX0_init_15 rfl (lv_at hl 1 rfl) ?_
      refine lv_aload_n hx hb dX0_init_16 rfl (lv_at hl 0 rfl) ?_
      refine w_get (o := 58) (ci := 0) (C := RX0) (T := TX0) (N1 := 3) (v := .ref (sz + 59)) hx hb hts kX0_init_in hown hK.1.1 hY (by omega) obP_at rfl 0 (by decide) (hts _ (kX0_init_w _ (by decide))) rfl rfl dX0_init_17 ?_
      refine w_alen (o := 59) hx hb hK.1.1 hY (by omega) 3 ((obP_hi (by omega)).trans E0_59) rfl (v := nI 6) rfl dX0_init_20 ?_
      refine lv_icmp_ge (tgt := 57) hx hb dX0_init_21 (by decide) (fun c_1 => ?_) (fun c_1 => absurd (nI_le (Nat.le_refl 6) (by omega)) c_1)
      refine lv_aload_n hx hb dX0_init_57 rfl (lv_at hl 0 rfl) ?_
      refine lv_bipush (v := nI 24) hx hb dX0_init_58 (by decide) ?_
      refine va_newq hx hb hown (hts _ (kX0_init_w _ (by decide))) hK.2 hK.1.1 hY.1 hY.2.1 hY.2.2 hA (nI_neg (by omega)) (nI_clamp (n := 24) (by omega)) (by omega) (by decide) (by decide) dX0_init_60 (fun q cA H1 hK1 hP1 hD1 hS1 => W_size fun hz => ?_)
      have hcA := cls_new (i := 3) hK1 rfl
      subst hcA
      obtain ⟨rfl, hY⟩ := z_fix (ob' := obP 58 0 [.ref (sz + 59), .null, .null] ob0 (E0 sz ci 6 0)) hP1 hD1 hS1 (by omega) (fun _ _ => rfl) ((obP_hi (by omega)).trans (E0_72.trans (by simp)))
      refine va_putF (ref := "Stemspan$CodeBook") (C := RX0) (T := TX0) (N := 3) (ci := 0) hx hb hts kX0_init_in tyX0 tyX0_ok nmX0 hown hK.1.1 hY.1 hY.2.1 hY.2.2 58 (fs := [.ref (sz + 59), .null, .null]) ((pw_get (by omega)).trans (congrArg (fun e => some (sz + 58, e)) obP_at)) rfl 1 (by decide) (hts _ (kX0_init_w _ (by decide))) (fun x h => h) rfl hin rfl (ty := .array (.object "Stemspan$Row")) rfl rfl rfl (by simp) dX0_init_63 (fun H2 locs2 hP2 hD2 hS2 => ?_)
      have hY := z_set (ob' := obP 58 0 [.ref (sz + 59), .ref (sz + 72), .null] ob0 (E0 sz ci 6 0)) (by omega) hP2 hD2 hS2 (fun k _ hk => obP_ne hk) obP_at
      refine lv_iconst (v := 0) hx hb dX0_init_66 (by decide) ?_
      refine lv_istore_n (lv' := [(1, .int 0), (0, .ref (sz + 58))]) hx hb dX0_init_67 rfl hl (by decide) rfl (fun ls hl => ?_)
      exact loop2 24 0 (by omega) _ _ ls hY (lv_sub hl [1, 0] rfl)
    | succ d ih =>
      intro i hi H locs ls hY hl
      refine lv_iload_n hx hb dX0_init_15 rfl (lv_at hl 1 rfl) ?_
      refine lv_aload_n hx hb dX0_init_16 rfl (lv_at hl 0 rfl) ?_
      refine w_get (o := 58) (ci := 0) (C := RX0) (T := TX0) (N1 := 3) (v := .ref (sz + 59)) hx hb hts kX0_init_in hown hK.1.1 hY (by omega) obP_at rfl 0 (by decide) (hts _ (kX0_init_w _ (by decide))) rfl rfl dX0_init_17 ?_
      refine w_alen (o := 59) hx hb hK.1.1 hY (by omega) 3 ((obP_hi (by omega)).trans E0_59) rfl (v := nI 6) rfl dX0_init_20 ?_
      refine lv_icmp_ge (tgt := 57) hx hb dX0_init_21 (by decide) (fun c_1 => absurd c_1 (nI_ge (by omega) (by omega))) (fun c_1 => ?_)
      refine lv_aload_n hx hb dX0_init_24 rfl (lv_at hl 0 rfl) ?_
      refine w_get (o := 58) (ci := 0) (C := RX0) (T := TX0) (N1 := 3) (v := .ref (sz + 59)) hx hb hts kX0_init_in hown hK.1.1 hY (by omega) obP_at rfl 0 (by decide) (hts _ (kX0_init_w _ (by decide))) rfl rfl dX0_init_25 ?_
      refine lv_iload_n hx hb dX0_init_28 rfl (lv_at hl 1 rfl) ?_
      refine z_row (room := 3) (iN := 9) (iM := 17) (N := (60 + 2 * i)) (ci := ci) (pc2 := 34) (ob' := (obR sz ci (60 + 2 * i) (obP 58 0 [.ref (sz + 59), .null, .null] ob0 (E0 sz ci i 0)))) C0 hK hA (by omega) rfl hl.1 kX0_init_in2 gX0_init_X2_init (hts _ (kX0_init_w _ (by decide))) (hts _ (kX0_init_w _ (by decide))) (hts _ (kX0_init_w _ (by decide))) (hts _ (kX0_init_w _ (by decide))) (hts _ (kX0_init_w _ (by decide))) (by decide) (by decide) (by show 1 + 2 * i + 2 ≤ 64; omega) (by show 6 + 5 * i + 2 + 3 ≤ 830; omega) (Nat.le_of_ble_eq_true rfl) dX0_init_29 dX0_init_32 (fun _ _ _ _ _ k => lv_iconst (v := nI 3) hx hb dX0_init_33 (by decide) k) dX0_init_34 hY (fun _ _ => obR_ne (by omega) (by omega)) obR_0 obR_1 (fun H1 locs1 hY => ?_)
      refine va_astq (r := (RX2, TX2, 2)) hx hb hK.1.1 hY.1 hY.2.1 hY.2.2 59 3 (60 + 2 * i) 2 ((pw_get (by omega)).trans (congrArg (fun e => some (sz + 59, e)) ((obR_ne (by omega) (by omega)).trans ((obP_hi (by omega)).trans E0_59)))) rfl ((pw_get (by omega)).trans (congrArg (fun e => some (sz + (60 + 2 * i), e)) obR_0)) rfl (vp_in_nI (by omega) (by omega)) dX0_init_37 (fun H2 locs2 hP2 hD2 hS2 => ?_)
      have hY := z_set (ob' := obR sz ci (60 + 2 * i) (obP 58 0 [.ref (sz + 59), .null, .null] ob0 (E0 sz ci (i + 1) 0))) (by omega) hP2 hD2 hS2 (fun k _ hk => by
        by_cases y1 : k = 60 + 2 * i
        · subst y1; rw [obR_0, obR_0]
        · by_cases y2 : k = 60 + 2 * i + 1
          · subst y2; rw [obR_1, obR_1]
          · rw [obR_ne y1 y2, obR_ne y1 y2]
            rcases Nat.lt_trichotomy k 58 with z | z | z
            · rw [obP_lo z, obP_lo z]
            · subst z; rw [obP_at, obP_at]
            · rw [obP_hi z, obP_hi z]
              by_cases y : k = 72
              · subst y; rw [E0_72, E0_72]
              · rw [E0_ne hk y, E0_ne hk y]) ((obR_ne (by omega) (by omega)).trans ((obP_hi (by omega)).trans (E0_59.trans (by
        congr 7
        funext j
        rw [nI_clamp (by omega)]
        by_cases z : j = i
        · subst z; simp [va_up]
        · have : (j < i + 1) = (j < i) := by rw [eq_iff_iff]; omega
          simp [va_up, z, this]))))
      refine lv_aload_n hx hb dX0_init_38 rfl (lv_at hl 0 rfl) ?_
      refine w_get (o := 58) (ci := 0) (C := RX0) (T := TX0) (N1 := 3) (v := .ref (sz + 59)) hx hb hts kX0_init_in hown hK.1.1 hY (by omega) ((obR_ne (by omega) (by omega)).trans obP_at) rfl 0 (by decide) (hts _ (kX0_init_w _ (by decide))) rfl rfl dX0_init_39 ?_
      refine lv_iload_n hx hb dX0_init_42 rfl (lv_at hl 1 rfl) ?_
      refine va_aldq (f := fun j => if j < i + 1 then some (sz + (60 + 2 * j)) else none) hx hb hK.1.1 hY.1 59 3 ((pw_get (by omega)).trans (congrArg (fun e => some (sz + 59, e)) ((obR_ne (by omega) (by omega)).trans ((obP_hi (by omega)).trans E0_59)))) rfl (vp_in_nI (n := i) (by omega) (by omega)) dX0_init_43 ?_
      have e1 : va_rf (if (nI i).toNatClampNeg < i + 1 then some (sz + (60 + 2 * (nI i).toNatClampNeg)) else none) = .ref (sz + (60 + 2 * i)) := by
        rw [nI_clamp (by omega), if_pos (by omega)]
        rfl
      rw [e1]
      refine lv_iload_n hx hb dX0_init_44 rfl (lv_at hl 1 rfl) ?_
      refine W_size fun hz => ?_
      have hz2 := z_full (N := 60 + 2 * i + 1) hY (by omega)
      refine z_calli (va_runSN (As := [.int (nI i)]) (rest := [.ref (sz + (60 + 2 * i))]) C0 (zX5_signOf l D sz (60 + 2 * i + 2) (tyC ci) _ i (by omega)) ⟨va_cnB (host := RX5) 1 hts gX0_init_X5_signOf_n20 rfl rfl rfl hK.1.2.1 (hts _ (kX0_init_w _ (by decide))) ddX5_signOf ⟨Nat.le_of_ble_eq_true rfl, Nat.le_of_ble_eq_true rfl⟩, hts _ (kX0_init_w _ (by decide)), trivial⟩ (z_pre hK hz2 hY) rfl rfl hl.1 rfl (lv_room (Nat.le_of_ble_eq_true rfl)) dX0_init_45 ⟨by show 1 + 2 * i + 2 + 0 ≤ 64; omega, by show 6 + 5 * i + 2 + 3 + 0 ≤ 830; omega⟩) hY (fun r H3 locs3 hr3 hY => ?_)
      subst hr3
      refine W_size fun hz => ?_
      have hz2 := z_full (N := 60 + 2 * i + 1) hY (by omega)
      refine z_callv (N' := 60 + 2 * i + 2) (ob' := obP 58 0 [.ref (sz + 59), .null, .null] ob0 (E0 sz ci (i + 1) 0)) (va_runV (As := [.int (nI (97 + i))]) (rest := []) C0 (zX2_append l D sz (60 + 2 * i + 2) (60 + 2 * i) ci (tyC ci) rfl _ _ (97 + i) (by omega) (by omega) obR_0 obR_1 (fun k k1 k2 => (obR_ne k1 k2).symm) ((obP_hi (by omega)).trans ((E0_ne (by omega) (by omega)).trans (ob_code (by omega)))) ((obP_hi (by omega)).trans ((E0_ne (by omega) (by omega)).trans (ob_codec (by omega))))) (cwV 1 hts gX0_init_X2_append rfl rfl rfl ddX2_append ⟨Nat.le_of_ble_eq_true rfl, Nat.le_of_ble_eq_true rfl⟩) (z_preV hK hz2 hY (by omega) obR_0 rfl rfl) rfl rfl hl.1 rfl (lv_room (Nat.le_of_ble_eq_true rfl)) dX0_init_48 ⟨by show 1 + 2 * i + 2 + 0 ≤ 64; omega, by show 6 + 5 * i + 2 + 3 + 0 ≤ 830; omega⟩) hY hz2.symm rfl (fun H4 locs4 hY => ?_)
      refine lv_iinc (v := nI (i + 1)) (lv' := [(1, .int (nI (i + 1))), (0, .ref (sz + 58))]) hx hb dX0_init_51 hl (k := 1) rfl (nI_1 i) (by decide) rfl (fun ls hl => ?_)
      refine lv_goto (tgt := 15) hx hb dX0_init_54 (by decide) ?_
      rw [show 1 + 2 * i + 2 + 0 = 1 + 2 * (i + 1) by omega, show 6 + 5 * i + 2 + 3 + 0 = 6 + 5 * (i + 1) by omega]
      rw [show 60 + 2 * i + 2 = 60 + 2 * (i + 1) by omega] at hY
      exact ih (i + 1) (by omega) _ _ ls hY (lv_sub hl [1, 0] rfl)
  refine lv_aload_n hx hb dX0_init_4 rfl (lv_at hl 0 rfl) ?_
  refine lv_bipush (v := nI 6) hx hb dX0_init_5 (by decide) ?_
  refine va_newq hx hb hown (hts _ (kX0_init_w _ (by decide))) hK.2 hK.1.1 hY.1 hY.2.1 hY.2.2 hA (nI_neg (by omega)) (nI_clamp (n := 6) (by omega)) (by omega) (by decide) (by decide) dX0_init_7 (fun q cA H1 hK1 hP1 hD1 hS1 => W_size fun hz => ?_)
  have hcA := cls_new (i := 3) hK1 rfl
  subst hcA
  obtain ⟨rfl, hY⟩ := z_fix (ob' := obP 58 0 [.null, .null, .null] ob0 (E0 sz ci 0 0)) hP1 hD1 hS1 (by omega) (fun _ _ => rfl) ((obP_hi (by omega)).trans (E0_59.trans (by simp)))
  refine va_putF (ref := "Stemspan$CodeBook") (C := RX0) (T := TX0) (N := 3) (ci := 0) hx hb hts kX0_init_in tyX0 tyX0_ok nmX0 hown hK.1.1 hY.1 hY.2.1 hY.2.2 58 (fs := [.null, .null, .null]) ((pw_get (by omega)).trans (congrArg (fun e => some (sz + 58, e)) obP_at)) rfl 0 (by decide) (hts _ (kX0_init_w _ (by decide))) (fun x h => h) rfl hin rfl (ty := .array (.object "Stemspan$Row")) rfl rfl rfl (by simp) dX0_init_10 (fun H2 locs2 hP2 hD2 hS2 => ?_)
  have hY := z_set (ob' := obP 58 0 [.ref (sz + 59), .null, .null] ob0 (E0 sz ci 0 0)) (by omega) hP2 hD2 hS2 (fun k _ hk => obP_ne hk) obP_at
  refine lv_iconst (v := 0) hx hb dX0_init_13 (by decide) ?_
  refine lv_istore_n (lv' := [(1, .int 0), (0, .ref (sz + 58))]) hx hb dX0_init_14 rfl hl (by decide) rfl (fun ls hl => ?_)
  exact loop1 6 0 (by omega) _ _ ls hY (lv_sub hl [1, 0] rfl)
