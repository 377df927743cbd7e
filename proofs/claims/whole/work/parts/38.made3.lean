/-! objects under construction -/
def obP (this cls : Nat) (fs : List Value) (ob0 E : Nat → va_E) : Nat → va_E := fun o => if o < this then ob0 o else if o = this then .inr (cls, fs) else E o
theorem obP_lo {this cls : Nat} {fs : List Value} {ob0 E : Nat → va_E} {o : Nat} (h : o < this) : obP this cls fs ob0 E o = ob0 o := if_pos h
theorem obP_at {this cls : Nat} {fs : List Value} {ob0 E : Nat → va_E} : obP this cls fs ob0 E this = .inr (cls, fs) := (if_neg (Nat.lt_irrefl _)).trans (if_pos rfl)
theorem obP_hi {this cls : Nat} {fs : List Value} {ob0 E : Nat → va_E} {o : Nat} (h : this < o) : obP this cls fs ob0 E o = E o := (if_neg (by omega)).trans (if_neg (by omega))
theorem obP_ne {this cls : Nat} {fs fs' : List Value} {ob0 E : Nat → va_E} {o : Nat} (h : o ≠ this) : obP this cls fs ob0 E o = obP this cls fs' ob0 E o := by
  unfold obP
  rw [if_neg h, if_neg h]
theorem z_to {D : va_G} {N : Nat} {ad : Nat → Nat} {A : Nat → Prop} {ob ob' : Nat → va_E} {H0 H : Heap} {locs : List Loc} (hY : Sy D N ad A H0 ob H locs) (h : ∀ o, o < N → ob' o = ob o) : Sy D N ad A H0 ob' H locs := by
  have e := pw_congr (ad := ad) h
  unfold Sy
  rw [e]
  exact hY
theorem z_arrq {D : va_G} {cl : List vw_C} {a n : Nat} {cA : ClassId} {f g : Nat → Option Nat} {H : Heap} (h : ∀ j, j < n → f j = g j) (hf : va_at D cl (a, .inl (cA, n, .inr (.inr (.inr (.inr f))))) H) : va_at D cl (a, .inl (cA, n, .inr (.inr (.inr (.inr g))))) H := by
  have e : arrV cA n (fun j => va_rf (f j)) = arrV cA n (fun j => va_rf (g j)) := arrV_ext fun j hj => by rw [h j hj]
  have hf : H[a]? = some (arrV cA n (fun j => va_rf (f j))) := hf
  show H[a]? = some (arrV cA n (fun j => va_rf (g j)))
  rw [← e]
  exact hf
section ZA
variable {p : Program} {l : Launch} {e : Env} {R : Room} {s : State} {m : MethodId} {args : Array Value} {below : List Frame} {meth : Method} {c : Code} {H : Heap} {locs : List Loc} {cells slots : Nat} {Q : State → Prop}
variable {cc : ByteArray} {pc t0 : Nat} {ls : Array Slot} {rest : List Value} {D : va_G} {tys : List (ClassId × FieldType)} {sz N : Nat} {ob ob' : Nat → va_E} {c0 : ClassId}
theorem z_newI (hx : p.tables.exec = Jvm.exec) (hb : c.code = cc) (harr : (Cond.arrayClass .int).before args s = true) (hK : va_K D vwCl tys s) (hA : ∀ q, s.heap.size ≤ q → Az sz q) (hn : s.heap.size + cells ≤ sz + N) (hty : tys[t0]? = some (c0, .int)) (k : Nat) (hk : k ≤ 300) (hcells : cells + 1 ≤ R.cells) (hslots : slots + k ≤ R.slots) (hdg : decode cc pc = .ok (.newarray .int, 2))
    (hY : Sy D N (adz sz) (Az sz) s.heap ob H locs) (h1 : ∀ o, o < N → ob' o = ob o) (h2 : ob' N = .inl (c0, k, .inl fun _ => 0))
    (kk : ∀ (H1 : Heap), Sy D (N + 1) (adz sz) (Az sz) s.heap ob' H1 locs → W p l e R s m args below meth c H1 locs (cells + 1) (slots + k) Q (F0 m (pc + 2) ls (.ref (sz + N) :: rest))) : W p l e R s m args below meth c H locs cells slots Q (F0 m pc ls (.int (nI k) :: rest)) := by
  refine va_newa (atype := .int) (ty := .int) (N' := k) (a0 := (k, .inl fun _ => 0)) hx hb harr rfl hK hY.1 hY.2.1 hY.2.2 hA (fun cA => rfl) (nI_neg (by omega)) (nI_clamp (by omega)) (by show k * 4 ≤ _; omega) hcells hslots hdg (fun q cA H1 hK1 hP1 hD1 hS1 => W_size fun hz => ?_)
  have hcA := cls_new hK1 hty
  subst hcA
  obtain ⟨rfl, hY⟩ := z_fix (ob' := ob') hP1 hD1 hS1 (by omega) h1 h2
  exact kk H1 hY
theorem z_newC (hx : p.tables.exec = Jvm.exec) (hb : c.code = cc) (harr : (Cond.arrayClass .char).before args s = true) (hK : va_K D vwCl tys s) (hA : ∀ q, s.heap.size ≤ q → Az sz q) (hn : s.heap.size + cells ≤ sz + N) (hty : tys[t0]? = some (c0, .char)) (k : Nat) (hk : k ≤ 300) (hcells : cells + 1 ≤ R.cells) (hslots : slots + k ≤ R.slots) (hdg : decode cc pc = .ok (.newarray .char, 2))
    (hY : Sy D N (adz sz) (Az sz) s.heap ob H locs) (h1 : ∀ o, o < N → ob' o = ob o) (h2 : ob' N = .inl (c0, k, .inl fun _ => 0))
    (kk : ∀ (H1 : Heap), Sy D (N + 1) (adz sz) (Az sz) s.heap ob' H1 locs → W p l e R s m args below meth c H1 locs (cells + 1) (slots + k) Q (F0 m (pc + 2) ls (.ref (sz + N) :: rest))) : W p l e R s m args below meth c H locs cells slots Q (F0 m pc ls (.int (nI k) :: rest)) := by
  refine va_newa (atype := .char) (ty := .char) (N' := k) (a0 := (k, .inl fun _ => 0)) hx hb harr rfl hK hY.1 hY.2.1 hY.2.2 hA (fun cA => rfl) (nI_neg (by omega)) (nI_clamp (by omega)) (by show k * 2 ≤ _; omega) hcells hslots hdg (fun q cA H1 hK1 hP1 hD1 hS1 => W_size fun hz => ?_)
  have hcA := cls_new hK1 hty
  subst hcA
  obtain ⟨rfl, hY⟩ := z_fix (ob' := ob') hP1 hD1 hS1 (by omega) h1 h2
  exact kk H1 hY
theorem z_newL (hx : p.tables.exec = Jvm.exec) (hb : c.code = cc) (harr : (Cond.arrayClass .long).before args s = true) (hK : va_K D vwCl tys s) (hA : ∀ q, s.heap.size ≤ q → Az sz q) (hn : s.heap.size + cells ≤ sz + N) (hty : tys[t0]? = some (c0, .long)) (k : Nat) (hk : k ≤ 300) (hcells : cells + 1 ≤ R.cells) (hslots : slots + k ≤ R.slots) (hdg : decode cc pc = .ok (.newarray .long, 2))
    (hY : Sy D N (adz sz) (Az sz) s.heap ob H locs) (h1 : ∀ o, o < N → ob' o = ob o) (h2 : ob' N = .inl (c0, k, .inr (.inl fun _ => 0)))
    (kk : ∀ (H1 : Heap), Sy D (N + 1) (adz sz) (Az sz) s.heap ob' H1 locs → W p l e R s m args below meth c H1 locs (cells + 1) (slots + k) Q (F0 m (pc + 2) ls (.ref (sz + N) :: rest))) : W p l e R s m args below meth c H locs cells slots Q (F0 m pc ls (.int (nI k) :: rest)) := by
  refine va_newa (atype := .long) (ty := .long) (N' := k) (a0 := (k, .inr (.inl fun _ => 0))) hx hb harr rfl hK hY.1 hY.2.1 hY.2.2 hA (fun cA => rfl) (nI_neg (by omega)) (nI_clamp (by omega)) (by show k * 8 ≤ _; omega) hcells hslots hdg (fun q cA H1 hK1 hP1 hD1 hS1 => W_size fun hz => ?_)
  have hcA := cls_new hK1 hty
  subst hcA
  obtain ⟨rfl, hY⟩ := z_fix (ob' := ob') hP1 hD1 hS1 (by omega) h1 h2
  exact kk H1 hY
end ZA
abbrev rmX1_init : Room := { frames := 1, cells := 3, slots := 75, locals := 14 }
theorem ddX1_init : yX1_init.cls ≠ "java/lang/invoke/MethodHandle" ∧ yX1_init.cls ≠ "java/lang/invoke/VarHandle" ∧ (parseMethodDescriptor yX1_init.desc).map (fun d => d.parameters.length) = some 0 := by decide +kernel
theorem kX1_init_in : ∀ w ∈ wsX10, w ∈ wsX1_init := by decide +kernel
theorem kX1_init_w : ∀ w ∈ [Cond.methodLink RX1 3 objectInit, .instanceMethod objectInit, .arrayClass .int, .fieldLink RX1 9 "Stemspan$Cutter" "fits" "[I", .arrayClass .long, .fieldLink RX1 15 "Stemspan$Cutter" "ways" "[J", .fieldLink RX1 19 "Stemspan$Cutter" "least" "[I", .fieldLink RX1 22 "Stemspan$Cutter" "size" "I"], w ∈ wsX1_init := by decide +kernel
set_option maxHeartbeats 4000000 in
set_option maxRecDepth 100000 in
theorem mX1_init (l : Launch) (D : va_G) (sz : Nat) (ci : Nat → ClassId) (ob0 ob1 : Nat → va_E) (h0 : ob0 123 = .inr (1, [.null, .null, .null, .int 0])) (h1 : ∀ o, o < 123 → ob1 o = ob0 o) (h2 : ∀ o, 123 ≤ o → o < 127 → ob1 o = obC (adz sz) ci S0 o) :
    Met l yX1_init wsX1_init rmX1_init (va_Pc [.ref (sz + 123)] (PreZ D sz 124 (tyC ci) ob0)) (va_Qv (fun _ : Unit => True) (fun _ => PostZ D sz 127 ob1) (Az sz)) 3 75 (Az sz) := by
  refine Met.ofW (cc := cX1_init) (maxL := 1) (ret := none) (by decide) rfl ?_
  intro p e s m args below meth c s₁ B hml hv
  obtain ⟨rfl, hsz, hP, hK, hD⟩ := hv
  have hx := B.exec
  have hb := B.bytes
  have hr := B.returns
  have hts := atoms_spec (ws := wsX1_init) B.pre
  have hown : s.vm.findClass RX1 = some m.cls := findClass_of_methodNamed B.named
  have hlocks := B.notSynchronized
  have hin : meth.name = "<init>" := (name_of_methodNamed B.named B.method).1
  have C0 : CallFix p m c cX1_init 1 s _ wsX1_init RX1 := ⟨hx, hb, hml, hown, hts⟩
  have hY : Sy D 124 (adz sz) (Az sz) s.heap ob0 s.heap [] := ⟨hP, hD, va_S.rf⟩
  have hA : ∀ q, s.heap.size ≤ q → Az sz q := fun q h => by show sz ≤ q; omega
  have hl := lv_entry ([.ref (sz + 123)]) (n := 1) (Nat.le_of_ble_eq_true rfl)
  rw [lg_entry_eq]
  generalize (lg_sl ([.ref (sz + 123)]) ++ List.replicate (1 - (lg_sl ([.ref (sz + 123)])).length) Slot.unset).toArray = ls at hl ⊢
  have hl : lv_has ls 1 [(0, .ref (sz + 123))] := hl
  refine lv_aload_n hx hb dX1_init_0 rfl (lv_at hl 0 rfl) ?_
  refine W.objInit hx hb hown (hts _ (kX1_init_w _ (by decide))) (hts _ (kX1_init_w _ (by decide))) (hts _ (List.mem_of_getElem? (i := 3) rfl)) rfl (by rw [hml]; exact hl.1) rfl dX1_init_1 (Nat.le_of_ble_eq_true rfl) (Nat.le_of_ble_eq_true rfl) ?_
  refine W.eq (g2 := F0 m 4 ls []) rfl ?_
  have hY : Sy D 124 (adz sz) (Az sz) s.heap (obP 123 1 [.null, .null, .null, .int 0] ob0 (obC (adz sz) ci S0)) s.heap [] := z_to hY fun o ho => by
    rcases Nat.lt_or_ge o 123 with z | z
    · exact obP_lo z
    · have : o = 123 := by omega
      subst this
      exact obP_at.trans h0.symm
  refine lv_aload_n hx hb dX1_init_4 rfl (lv_at hl 0 rfl) ?_
  refine lv_bipush (v := nI 25) hx hb dX1_init_5 (by decide) ?_
  refine z_newI (t0 := 1) (ob' := obP 123 1 [.null, .null, .null, .int 0] ob0 (obC (adz sz) ci S0)) hx hb (hts _ (kX1_init_w _ (by decide))) hK.1.1 hA (by omega) rfl 25 (by omega) (by decide) (by decide) dX1_init_7 hY (fun _ _ => rfl) ((obP_hi (by omega)).trans (ob_ints (o := 124) (by decide) (by omega))) (fun H1 hY => ?_)
  refine va_putF (ref := "Stemspan$Cutter") (C := RX1) (T := TX1) (N := 4) (ci := 1) hx hb hts kX1_init_in tyX1 tyX1_ok nmX1 hown hK.1.1 hY.1 hY.2.1 hY.2.2 123 (fs := [.null, .null, .null, .int 0]) ((pw_get (by omega)).trans (congrArg (fun e => some (sz + 123, e)) obP_at)) rfl 0 (by decide) (hts _ (kX1_init_w _ (by decide))) (fun x h => h) rfl hin rfl (ty := .array .int) rfl rfl rfl (by simp) dX1_init_9 (fun H2 locs2 hP2 hD2 hS2 => ?_)
  have hY := z_set (ob' := obP 123 1 [.ref (sz + 124), .null, .null, .int 0] ob0 (obC (adz sz) ci S0)) (by omega) hP2 hD2 hS2 (fun k _ hk => obP_ne hk) obP_at
  refine lv_aload_n hx hb dX1_init_12 rfl (lv_at hl 0 rfl) ?_
  refine lv_bipush (v := nI 25) hx hb dX1_init_13 (by decide) ?_
  refine z_newL (t0 := 2) (ob' := obP 123 1 [.ref (sz + 124), .null, .null, .int 0] ob0 (obC (adz sz) ci S0)) hx hb (hts _ (kX1_init_w _ (by decide))) hK.1.1 hA (by omega) rfl 25 (by omega) (by decide) (by decide) dX1_init_15 hY (fun _ _ => rfl) rfl (fun H1 hY => ?_)
  refine va_putF (ref := "Stemspan$Cutter") (C := RX1) (T := TX1) (N := 4) (ci := 1) hx hb hts kX1_init_in tyX1 tyX1_ok nmX1 hown hK.1.1 hY.1 hY.2.1 hY.2.2 123 (fs := [.ref (sz + 124), .null, .null, .int 0]) ((pw_get (by omega)).trans (congrArg (fun e => some (sz + 123, e)) obP_at)) rfl 1 (by decide) (hts _ (kX1_init_w _ (by decide))) (fun x h => h) rfl hin rfl (ty := .array .long) rfl rfl rfl (by simp) dX1_init_17 (fun H2 locs2 hP2 hD2 hS2 => ?_)
  have hY := z_set (ob' := obP 123 1 [.ref (sz + 124), .ref (sz + 125), .null, .int 0] ob0 (obC (adz sz) ci S0)) (by omega) hP2 hD2 hS2 (fun k _ hk => obP_ne hk) obP_at
  refine lv_aload_n hx hb dX1_init_20 rfl (lv_at hl 0 rfl) ?_
  refine lv_bipush (v := nI 25) hx hb dX1_init_21 (by decide) ?_
  refine z_newI (t0 := 1) (ob' := obP 123 1 [.ref (sz + 124), .ref (sz + 125), .null, .int 0] ob0 (obC (adz sz) ci S0)) hx hb (hts _ (kX1_init_w _ (by decide))) hK.1.1 hA (by omega) rfl 25 (by omega) (by decide) (by decide) dX1_init_23 hY (fun _ _ => rfl) ((obP_hi (by omega)).trans (ob_ints (o := 126) (by decide) (by omega))) (fun H1 hY => ?_)
  refine va_putF (ref := "Stemspan$Cutter") (C := RX1) (T := TX1) (N := 4) (ci := 1) hx hb hts kX1_init_in tyX1 tyX1_ok nmX1 hown hK.1.1 hY.1 hY.2.1 hY.2.2 123 (fs := [.ref (sz + 124), .ref (sz + 125), .null, .int 0]) ((pw_get (by omega)).trans (congrArg (fun e => some (sz + 123, e)) obP_at)) rfl 2 (by decide) (hts _ (kX1_init_w _ (by decide))) (fun x h => h) rfl hin rfl (ty := .array .int) rfl rfl rfl (by simp) dX1_init_25 (fun H2 locs2 hP2 hD2 hS2 => ?_)
  have hY := z_set (ob' := obP 123 1 [.ref (sz + 124), .ref (sz + 125), .ref (sz + 126), .int 0] ob0 (obC (adz sz) ci S0)) (by omega) hP2 hD2 hS2 (fun k _ hk => obP_ne hk) obP_at
  refine lv_aload_n hx hb dX1_init_28 rfl (lv_at hl 0 rfl) ?_
  refine lv_iconst (v := 0) hx hb dX1_init_29 (by decide) ?_
  refine va_put (ref := "Stemspan$Cutter") (C := RX1) (T := TX1) (N := 4) (ci := 1) hx hb hts kX1_init_in tyX1 tyX1_ok nmX1 hown hK.1.1 hY.1 hY.2.1 hY.2.2 123 (fs := [.ref (sz + 124), .ref (sz + 125), .ref (sz + 126), .int 0]) ((pw_get (by omega)).trans (congrArg (fun e => some (sz + 123, e)) obP_at)) rfl 3 (by decide) (hts _ (kX1_init_w _ (by decide))) (fun x h => h) rfl  (ty := .int) rfl rfl rfl (by simp) dX1_init_30 (fun H2 locs2 hP2 hD2 hS2 => ?_)
  have hY := z_set (ob' := obP 123 1 [.ref (sz + 124), .ref (sz + 125), .ref (sz + 126), .int 0] ob0 (obC (adz sz) ci S0)) (by omega) hP2 hD2 hS2 (fun k _ hk => obP_ne hk) obP_at
  have hY := z_to (ob' := ob1) hY fun o ho => by
    rcases Nat.lt_or_ge o 123 with z | z
    · rw [obP_lo z]; exact h1 o z
    · rw [h2 o z ho]
      by_cases y : o = 123
      · subst y; exact obP_at.symm
      · exact (obP_hi (by omega)).symm
  exact W.vret hx hb hr (fun t ht hW => ⟨⟨(), rfl, trivial, by show va_P _ _ _ _; rw [ht]; exact hY.1⟩, hY.2.2.F ht⟩) hY.2.2.2.2 dX1_init_33
/-- the words' rows, as far as they are made -/
def E4 (sz : Nat) (ci : Nat → ClassId) (i : Nat) : Nat → va_E := fun o => if o = 6 then .inl (ci 3, 24, .inr (.inr (.inr (.inr fun j => if j < i then some (sz + (7 + 2 * j)) else none)))) else obC (adz sz) ci S0 o
theorem E4_ne {sz : Nat} {ci : Nat → ClassId} {i o : Nat} (h : o ≠ 6) : E4 sz ci i o = obC (adz sz) ci S0 o := if_neg h
theorem E4_6 {sz : Nat} {ci : Nat → ClassId} {i : Nat} : E4 sz ci i 6 = .inl (ci 3, 24, .inr (.inr (.inr (.inr fun j => if j < i then some (sz + (7 + 2 * j)) else none)))) := if_pos rfl
abbrev rmX4_init : Room := { frames := 2, cells := 52, slots := 338, locals := 40 }
theorem ddX4_init : yX4_init.cls ≠ "java/lang/invoke/MethodHandle" ∧ yX4_init.cls ≠ "java/lang/invoke/VarHandle" ∧ (parseMethodDescriptor yX4_init.desc).map (fun d => d.parameters.length) = some 0 := by decide +kernel
theorem kX4_init_in : ∀ w ∈ wsX40, w ∈ wsX4_init := by decide +kernel
theorem kX4_init_in2 : ∀ w ∈ wsX20, w ∈ wsX4_init := by decide +kernel
theorem kX4_init_w : ∀ w ∈ [Cond.methodLink RX4 3 objectInit, .instanceMethod objectInit, .classLink RX4 9 RX2, .fieldLink RX4 11 "Stemspan$WordList" "rows" "[LStemspan$Row;", .instantiable RX2 2, .initialized RX2, .arrayClass .int, .fieldLink RX4 20 "Stemspan$WordList" "numbers" "[I", .fieldLink RX4 24 "Stemspan$WordList" "nothing" "LStemspan$Row;", .fieldLink RX4 28 "Stemspan$WordList" "count" "I", .methodLink RX4 17 yX2_init, .instanceMethod yX2_init], w ∈ wsX4_init := by decide +kernel
theorem rowB_word : ∀ i, i < 24 → rowB (7 + 2 * i) = true := by decide +kernel
theorem capC_word {i : Nat} (h : i < 24) : capC (7 + 2 * i) = 10 := by
  unfold capC
  rw [if_neg (by omega), if_pos (by omega), if_neg (by omega)]
set_option maxHeartbeats 4000000 in
set_option maxRecDepth 100000 in
theorem mX4_init (l : Launch) (D : va_G) (sz : Nat) (ci : Nat → ClassId) (ob0 ob1 : Nat → va_E) (h0 : ob0 5 = .inr (4, [.null, .null, .null, .int 0])) (h1 : ∀ o, o < 5 → ob1 o = ob0 o) (h2 : ∀ o, 5 ≤ o → o < 58 → ob1 o = obC (adz sz) ci S0 o) :
    Met l yX4_init wsX4_init rmX4_init (va_Pc [.ref (sz + 5)] (PreZ D sz 6 (tyC ci) ob0)) (va_Qv (fun _ : Unit => True) (fun _ => PostZ D sz 58 ob1) (Az sz)) 52 338 (Az sz) := by
  refine Met.ofW (cc := cX4_init) (maxL := 2) (ret := none) (by decide) rfl ?_
  intro p e s m args below meth c s₁ B hml hv
  obtain ⟨rfl, hsz, hP, hK, hD⟩ := hv
  have hx := B.exec
  have hb := B.bytes
  have hr := B.returns
  have hts := atoms_spec (ws := wsX4_init) B.pre
  have hown : s.vm.findClass RX4 = some m.cls := findClass_of_methodNamed B.named
  have hlocks := B.notSynchronized
  have hin : meth.name = "<init>" := (name_of_methodNamed B.named B.method).1
  have C0 : CallFix p m c cX4_init 2 s _ wsX4_init RX4 := ⟨hx, hb, hml, hown, hts⟩
  have hY : Sy D 6 (adz sz) (Az sz) s.heap ob0 s.heap [] := ⟨hP, hD, va_S.rf⟩
  have hA : ∀ q, s.heap.size ≤ q → Az sz q := fun q h => by show sz ≤ q; omega
  have hl := lv_entry ([.ref (sz + 5)]) (n := 2) (Nat.le_of_ble_eq_true rfl)
  rw [lg_entry_eq]
  generalize (lg_sl ([.ref (sz + 5)]) ++ List.replicate (2 - (lg_sl ([.ref (sz + 5)])).length) Slot.unset).toArray = ls at hl ⊢
  have hl : lv_has ls 2 [(0, .ref (sz + 5))] := hl
  refine lv_aload_n hx hb dX4_init_0 rfl (lv_at hl 0 rfl) ?_
  refine W.objInit hx hb hown (hts _ (kX4_init_w _ (by decide))) (hts _ (kX4_init_w _ (by decide))) (hts _ (List.mem_of_getElem? (i := 3) rfl)) rfl (by rw [hml]; exact hl.1) rfl dX4_init_1 (Nat.le_of_ble_eq_true rfl) (Nat.le_of_ble_eq_true rfl) ?_
  refine W.eq (g2 := F0 m 4 ls []) rfl ?_
  have hY : Sy D 6 (adz sz) (Az sz) s.heap (obP 5 4 [.null, .null, .null, .int 0] ob0 (E4 sz ci 0)) s.heap [] := z_to hY fun o ho => by
    rcases Nat.lt_or_ge o 5 with z | z
    · exact obP_lo z
    · have : o = 5 := by omega
      subst this
      exact obP_at.trans h0.symm
  refine lv_aload_n hx hb dX4_init_4 rfl (lv_at hl 0 rfl) ?_
  refine lv_bipush (v := nI 24) hx hb dX4_init_5 (by decide) ?_
  refine va_newq hx hb hown (hts _ (kX4_init_w _ (by decide))) hK.2 hK.1.1 hY.1 hY.2.1 hY.2.2 hA (nI_neg (by omega)) (nI_clamp (n := 24) (by omega)) (by omega) (by decide) (by decide) dX4_init_7 (fun q cA H1 hK1 hP1 hD1 hS1 => W_size fun hz => ?_)
  have hcA := cls_new (i := 3) hK1 rfl
  subst hcA
  obtain ⟨rfl, hY⟩ := z_fix (ob' := obP 5 4 [.null, .null, .null, .int 0] ob0 (E4 sz ci 0)) hP1 hD1 hS1 (by omega) (fun _ _ => rfl) ((obP_hi (by omega)).trans (E4_6.trans (by simp)))
  refine va_putF (ref := "Stemspan$WordList") (C := RX4) (T := TX4) (N := 4) (ci := 4) hx hb hts kX4_init_in tyX4 tyX4_ok nmX4 hown hK.1.1 hY.1 hY.2.1 hY.2.2 5 (fs := [.null, .null, .null, .int 0]) ((pw_get (by omega)).trans (congrArg (fun e => some (sz + 5, e)) obP_at)) rfl 0 (by decide) (hts _ (kX4_init_w _ (by decide))) (fun x h => h) rfl hin rfl (ty := .array (.object "Stemspan$Row")) rfl rfl rfl (by simp) dX4_init_10 (fun H2 locs2 hP2 hD2 hS2 => ?_)
  have hY := z_set (ob' := obP 5 4 [.ref (sz + 6), .null, .null, .int 0] ob0 (E4 sz ci 0)) (by omega) hP2 hD2 hS2 (fun k _ hk => obP_ne hk) obP_at
  refine lv_iconst (v := 0) hx hb dX4_init_13 (by decide) ?_
  refine lv_istore_n (lv' := [(1, .int 0), (0, .ref (sz + 5))]) hx hb dX4_init_14 rfl hl (by decide) rfl (fun ls hl => ?_)
  have hl : lv_has ls 2 [(0, .ref (sz + 5)), (1, .int (nI 0))] := lv_sub hl [1, 0] rfl
  have loop : ∀ d i, i + d = 24 → ∀ (H : Heap) (locs : List Loc) (ls : Array Slot), Sy D (7 + 2 * i) (adz sz) (Az sz) s.heap (obP 5 4 [.ref (sz + 6), .null, .null, .int 0] ob0 (E4 sz ci i)) H locs → lv_has ls 2 [(0, .ref (sz + 5)), (1, .int (nI i))] → W p l e rmX4_init s m #[Value.ref (sz + 5)] below meth c H locs (1 + 2 * i) (24 + 12 * i) (MQ below (va_Qv (fun _ : Unit => True) (fun _ => PostZ D sz 58 ob1) (Az sz)) #[Value.ref (sz + 5)] s 52 338 (Az sz)) (F0 m 15 ls []) := by
    intro d
    induction d with
    | zero =>
      intro i hi H locs ls hY hl
      have e : i = 24 := by omega
      subst e
      refine lv_iload_n hx hb dX4_init_15 rfl (lv_at hl 1 rfl) ?_
      refine lv_aload_n hx hb dX4_init_16 rfl (lv_at hl 0 rfl) ?_
      refine w_get (o := 5) (ci := 4) (C := RX4) (T := TX4) (N1 := 4) (v := .ref (sz + 6)) hx hb hts kX4_init_in hown hK.1.1 hY (by omega) obP_at rfl 0 (by decide) (hts _ (kX4_init_w _ (by decide))) rfl rfl dX4_init_17 ?_
      refine w_alen (o := 6) hx hb hK.1.1 hY (by omega) 3 ((obP_hi (by omega)).trans E4_6) rfl (v := nI 24) rfl dX4_init_20 ?_
      refine lv_icmp_ge (tgt := 45) hx hb dX4_init_21 (by decide) (fun c_1 => ?_) (fun c_1 => absurd (nI_le (Nat.le_refl 24) (by omega)) c_1)
      refine lv_aload_n hx hb dX4_init_45 rfl (lv_at hl 0 rfl) ?_
      refine lv_bipush (v := nI 24) hx hb dX4_init_46 (by decide) ?_
      refine z_newI (t0 := 1) (ob' := obP 5 4 [.ref (sz + 6), .null, .null, .int 0] ob0 (E4 sz ci 24)) hx hb (hts _ (kX4_init_w _ (by decide))) hK.1.1 hA (by omega) rfl 24 (by omega) (by decide) (by decide) dX4_init_48 hY (fun _ _ => rfl) ((obP_hi (by omega)).trans ((E4_ne (by omega)).trans (ob_ints (o := 55) (by decide) (by omega)))) (fun H1 hY => ?_)
      refine va_putF (ref := "Stemspan$WordList") (C := RX4) (T := TX4) (N := 4) (ci := 4) hx hb hts kX4_init_in tyX4 tyX4_ok nmX4 hown hK.1.1 hY.1 hY.2.1 hY.2.2 5 (fs := [.ref (sz + 6), .null, .null, .int 0]) ((pw_get (by omega)).trans (congrArg (fun e => some (sz + 5, e)) obP_at)) rfl 1 (by decide) (hts _ (kX4_init_w _ (by decide))) (fun x h => h) rfl hin rfl (ty := .array .int) rfl rfl rfl (by simp) dX4_init_50 (fun H2 locs2 hP2 hD2 hS2 => ?_)
      have hY := z_set (ob' := obP 5 4 [.ref (sz + 6), .ref (sz + 55), .null, .int 0] ob0 (E4 sz ci 24)) (by omega) hP2 hD2 hS2 (fun k _ hk => obP_ne hk) obP_at
      refine lv_aload_n hx hb dX4_init_53 rfl (lv_at hl 0 rfl) ?_
      refine z_row (room := 0) (iN := 9) (iM := 17) (N := 56) (ci := ci) (pc2 := 59) (ob' := (obP 5 4 [.ref (sz + 6), .ref (sz + 55), .null, .int 0] ob0 (E4 sz ci 24))) C0 hK hA (by omega) rfl hl.1 kX4_init_in2 gX4_init_X2_init (hts _ (kX4_init_w _ (by decide))) (hts _ (kX4_init_w _ (by decide))) (hts _ (kX4_init_w _ (by decide))) (hts _ (kX4_init_w _ (by decide))) (hts _ (kX4_init_w _ (by decide))) (by decide) (by decide) (by decide) (by decide) (Nat.le_of_ble_eq_true rfl) dX4_init_54 dX4_init_57 (fun _ _ _ _ _ k => lv_iconst (v := nI 0) hx hb dX4_init_58 (by decide) k) dX4_init_59 hY (fun _ _ => rfl) ((obP_hi (by omega)).trans ((E4_ne (by omega)).trans (ob_row (o := 56) (by decide) (by omega)))) ((obP_hi (by omega)).trans ((E4_ne (by omega)).trans (ob_chars (o := 56) (by decide) (by omega)))) (fun H1 locs1 hY => ?_)
      refine va_putF (ref := "Stemspan$WordList") (C := RX4) (T := TX4) (N := 4) (ci := 4) hx hb hts kX4_init_in tyX4 tyX4_ok nmX4 hown hK.1.1 hY.1 hY.2.1 hY.2.2 5 (fs := [.ref (sz + 6), .ref (sz + 55), .null, .int 0]) ((pw_get (by omega)).trans (congrArg (fun e => some (sz + 5, e)) obP_at)) rfl 2 (by decide) (hts _ (kX4_init_w _ (by decide))) (fun x h => h) rfl hin rfl (ty := .object "Stemspan$Row") rfl rfl rfl (by simp) dX4_init_62 (fun H2 locs2 hP2 hD2 hS2 => ?_)
      have hY := z_set (ob' := obP 5 4 [.ref (sz + 6), .ref (sz + 55), .ref (sz + 56), .int 0] ob0 (E4 sz ci 24)) (by omega) hP2 hD2 hS2 (fun k _ hk => obP_ne hk) obP_at
      refine lv_aload_n hx hb dX4_init_65 rfl (lv_at hl 0 rfl) ?_
      refine lv_iconst (v := 0) hx hb dX4_init_66 (by decide) ?_
      refine va_put (ref := "Stemspan$WordList") (C := RX4) (T := TX4) (N := 4) (ci := 4) hx hb hts kX4_init_in tyX4 tyX4_ok nmX4 hown hK.1.1 hY.1 hY.2.1 hY.2.2 5 (fs := [.ref (sz + 6), .ref (sz + 55), .ref (sz + 56), .int 0]) ((pw_get (by omega)).trans (congrArg (fun e => some (sz + 5, e)) obP_at)) rfl 3 (by decide) (hts _ (kX4_init_w _ (by decide))) (fun x h => h) rfl  (ty := .int) rfl rfl rfl (by simp) dX4_init_67 (fun H2 locs2 hP2 hD2 hS2 => ?_)
      have hY := z_set (ob' := obP 5 4 [.ref (sz + 6), .ref (sz + 55), .ref (sz + 56), .int 0] ob0 (E4 sz ci 24)) (by omega) hP2 hD2 hS2 (fun k _ hk => obP_ne hk) obP_at
      have hY := z_same (ob' := ob1) hY fun o ho hv => by
        rcases Nat.lt_or_ge o 5 with z | z
        · rw [obP_lo z] at hv
          rw [h1 o z]; exact hv
        · rw [h2 o z ho]
          by_cases y : o = 5
          · subst y
            rw [obP_at] at hv
            exact hv
          · rw [obP_hi (by omega)] at hv
            by_cases x : o = 6
            · subst x
              rw [E4_6] at hv
              refine z_arrq (fun j hj => ?_) hv
              rw [if_pos hj]
              rfl
            · rw [E4_ne x] at hv; exact hv
      exact W.vret hx hb hr (fun t ht hW => ⟨⟨(), rfl, trivial, by show va_P _ _ _ _; rw [ht]; exact hY.1⟩, hY.2.2.F ht⟩) hY.2.2.2.2 dX4_init_70
    | succ d ih =>
      intro i hi H locs ls hY hl
      refine lv_iload_n hx hb dX4_init_15 rfl (lv_at hl 1 rfl) ?_
      refine lv_aload_n hx hb dX4_init_16 rfl (lv_at hl 0 rfl) ?_
      refine w_get (o := 5) (ci := 4) (C := RX4) (T := TX4) (N1 := 4) (v := .ref (sz + 6)) hx hb hts kX4_init_in hown hK.1.1 hY (by omega) obP_at rfl 0 (by decide) (hts _ (kX4_init_w _ (by decide))) rfl rfl dX4_init_17 ?_
      refine w_alen (o := 6) hx hb hK.1.1 hY (by omega) 3 ((obP_hi (by omega)).trans E4_6) rfl (v := nI 24) rfl dX4_init_20 ?_
      refine lv_icmp_ge (tgt := 45) hx hb dX4_init_21 (by decide) (fun c_1 => absurd c_1 (nI_ge (by omega) (by omega))) (fun c_1 => ?_)
      refine lv_aload_n hx hb dX4_init_24 rfl (lv_at hl 0 rfl) ?_
      refine w_get (o := 5) (ci := 4) (C := RX4) (T := TX4) (N1 := 4) (v := .ref (sz + 6)) hx hb hts kX4_init_in hown hK.1.1 hY (by omega) obP_at rfl 0 (by decide) (hts _ (kX4_init_w _ (by decide))) rfl rfl dX4_init_25 ?_
      refine lv_iload_n hx hb dX4_init_28 rfl (lv_at hl 1 rfl) ?_
      refine z_row (room := 10) (iN := 9) (iM := 17) (N := (7 + 2 * i)) (ci := ci) (pc2 := 35) (ob' := (obP 5 4 [.ref (sz + 6), .null, .null, .int 0] ob0 (E4 sz ci i))) C0 hK hA (by omega) rfl hl.1 kX4_init_in2 gX4_init_X2_init (hts _ (kX4_init_w _ (by decide))) (hts _ (kX4_init_w _ (by decide))) (hts _ (kX4_init_w _ (by decide))) (hts _ (kX4_init_w _ (by decide))) (hts _ (kX4_init_w _ (by decide))) (by decide) (by decide) (by show 1 + 2 * i + 2 ≤ 52; omega) (by show 24 + 12 * i + 2 + 10 ≤ 338; omega) (Nat.le_of_ble_eq_true rfl) dX4_init_29 dX4_init_32 (fun _ _ _ _ _ k => lv_bipush (v := nI 10) hx hb dX4_init_33 (by decide) k) dX4_init_35 hY (fun _ _ => rfl) ((obP_hi (by omega)).trans ((E4_ne (by omega)).trans (ob_row (rowB_word i (by omega)) (by omega)))) ((obP_hi (by omega)).trans ((E4_ne (by omega)).trans ((ob_chars (rowB_word i (by omega)) (by omega)).trans (by rw [capC_word (by omega)])))) (fun H1 locs1 hY => ?_)
      refine va_astq (r := (RX2, TX2, 2)) hx hb hK.1.1 hY.1 hY.2.1 hY.2.2 6 3 (7 + 2 * i) 2 ((pw_get (by omega)).trans (congrArg (fun e => some (sz + 6, e)) ((obP_hi (by omega)).trans E4_6))) rfl ((pw_get (by omega)).trans (congrArg (fun e => some (sz + (7 + 2 * i), e)) ((obP_hi (by omega)).trans ((E4_ne (by omega)).trans (ob_row (rowB_word i (by omega)) (by omega)))))) rfl (vp_in_nI (by omega) (by omega)) dX4_init_38 (fun H2 locs2 hP2 hD2 hS2 => ?_)
      have hY := z_set (ob' := obP 5 4 [.ref (sz + 6), .null, .null, .int 0] ob0 (E4 sz ci (i + 1))) (by omega) hP2 hD2 hS2 (fun k _ hk => by
        rcases Nat.lt_trichotomy k 5 with z | z | z
        · rw [obP_lo z, obP_lo z]
        · subst z; rw [obP_at, obP_at]
        · rw [obP_hi z, obP_hi z, E4_ne hk, E4_ne hk]) ((obP_hi (by omega)).trans (E4_6.trans (by
        congr 7
        funext j
        rw [nI_clamp (by omega)]
        by_cases z : j = i
        · subst z; simp [va_up]
        · have : (j < i + 1) = (j < i) := by rw [eq_iff_iff]; omega
          simp [va_up, z, this])))
      refine lv_iinc (v := nI (i + 1)) (lv' := [(1, .int (nI (i + 1))), (0, .ref (sz + 5))]) hx hb dX4_init_39 hl (k := 1) rfl (nI_1 i) (by decide) rfl (fun ls hl => ?_)
      refine lv_goto (tgt := 15) hx hb dX4_init_42 (by decide) ?_
      rw [show 1 + 2 * i + 2 = 1 + 2 * (i + 1) by omega, show 24 + 12 * i + 2 + 10 = 24 + 12 * (i + 1) by omega]
      rw [show 7 + 2 * i + 2 = 7 + 2 * (i + 1) by omega] at hY
      exact ih (i + 1) (by omega) _ _ ls hY (lv_sub hl [1, 0] rfl)
  exact loop 24 0 (by omega) _ _ ls hY hl
