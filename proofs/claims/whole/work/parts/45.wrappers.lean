/-! THE WRAPPERS, one by one -/
abbrev rmL_type : Room := { frames := 7, cells := 1, slots := 6, locals := 103 }
theorem ddL_type : yL_type.cls ≠ "java/lang/invoke/MethodHandle" ∧ yL_type.cls ≠ "java/lang/invoke/VarHandle" ∧ (parseMethodDescriptor yL_type.desc).map (fun d => d.parameters.length) = some 3 := by decide +kernel
theorem kL_type_w : ∀ w ∈ [Cond.classLink RL 13 eA, Cond.classLink RL 15 eS], w ∈ wsL_type := by decide +kernel
set_option maxHeartbeats 4000000 in
set_option maxRecDepth 100000 in
theorem mL_type (l : Launch) (hlt : l.stackTraces = false) (D : va_G) (ad : Nat → Nat) (ci : Nat → ClassId) (A : Nat → Prop) (ao : Nat) (hao : ¬ A ao) (g : Nat → Int64) (σ : St) (mm : Stt) (hI : InvC σ mm) (hR : Rok σ) (q0 : Nat) (hq0 : q0 < 65536) :
    Met l yL_type wsL_type rmL_type (va_Pc [.ref (ad 0), .int (nI q0), .ref ao] (PreL D ad A ci ao g σ)) (va_Qi (PL (oType q0 mm)) (PostL D ad ci ao) (AL A ao)) 1 6 (AL A ao) := by
  refine met_ofWH (cc := cL_type) (maxL := 4) (ret := some .int) (hh := [(0, 9, 12, 13), (0, 9, 15, 15)]) (by decide) rfl ?_
  intro p e s m args below meth c s₁ B hml hv
  obtain ⟨rfl, ⟨⟨hP, hK, hD⟩, hE⟩, hO, hN⟩ := hv
  have C0 : CallFix p m c cL_type 4 s _ wsL_type RL := ⟨B.exec, B.bytes, hml, findClass_of_methodNamed B.named, atoms_spec (ws := wsL_type) B.pre⟩
  have hlocks := B.notSynchronized
  have hr := B.returns
  have htab := vx_table (x := yL_type) B (C0.2.2.2.2 _ List.mem_cons_self)
  obtain ⟨hx, hb, -, hown, hts⟩ := id C0
  have hl := lv_entry ([.ref (ad 0), .int (nI q0), .ref ao]) (n := 4) (Nat.le_of_ble_eq_true rfl)
  rw [lg_entry_eq]
  generalize (lg_sl ([.ref (ad 0), .int (nI q0), .ref ao]) ++ List.replicate (4 - (lg_sl ([.ref (ad 0), .int (nI q0), .ref ao])).length) Slot.unset).toArray = ls at hl ⊢
  have hl : lv_has ls 4 [(0, .ref (ad 0)), (1, .int (nI q0)), (2, .ref ao)] := hl
  refine lv_aload_n hx hb dL_type_0 rfl (lv_at hl 2 rfl) ?_
  refine lv_iconst (v := 0) hx hb dL_type_1 (by decide) ?_
  refine lv_aload_n hx hb dL_type_2 rfl (lv_at hl 0 rfl) ?_
  refine lv_iload_n hx hb dL_type_3 rfl (lv_at hl 1 rfl) ?_
  refine l_call (E := [eA, eS]) (o := (oType q0 mm)) (fun _ _ h => h) (vx_runV (As := [.int (nI q0)]) (rest := [.int 0, .ref ao]) C0 (mX5_type l hlt D ad ci A σ (nI q0) (KC (oType q0 mm)) (XC [eA, eS] (oType q0 mm)) hR (sC_type hI hq0 (OutC_KX _ _))) (cwV 1 hts gL_type_X5_type rfl rfl rfl ddX5_type ⟨Nat.le_of_ble_eq_true rfl, Nat.le_of_ble_eq_true rfl⟩) (l_preX hK hE hP hD) rfl rfl hl.1 rfl (lv_room (Nat.le_of_ble_eq_true rfl)) dL_type_4 ⟨Nat.le_of_ble_eq_true rfl, Nat.le_of_ble_eq_true rfl⟩) hO hao (fun k n ce q9 u H locs h1 h2 h3 h4 hP hO hS hc hv hcl => ?_) (fun u H locs h1 h3 h4 hP hO hS => ?_)
  · rcases k with _ | _ | k
    · obtain rfl : eA = n := Option.some.inj h2
      refine vx_catch (name := eA) hown [] ⟨0, 9, 12, 13⟩ [⟨0, 9, 15, 15⟩] (htab.trans rfl) (fun z hz => absurd hz List.not_mem_nil) rfl (by decide) (hts _ (kL_type_w _ (List.mem_of_getElem? (i := 0) rfl))) (va_Nw.use rfl (hN.2 eA (by decide +kernel))) hc hv hcl ?_
      refine lv_astore_n (lv' := [(3, .ref q9), (0, .ref (ad 0)), (1, .int (nI q0)), (2, .ref ao)]) hx hb dL_type_12 rfl hl (by decide) rfl (fun ls hl => ?_)
      refine lv_iconst (v := nI 1) hx hb dL_type_13 (by decide) ?_
      exact l_ret hx hb hr hlocks (o := (oType q0 mm)) (congrArg nI h1.symm) h3 h4 (fun q => absurd (h1.symm.trans q) (Nat.succ_ne_zero _)) hP hO hS dL_type_14
    · obtain rfl : eS = n := Option.some.inj h2
      refine vx_catch (name := eS) hown [⟨0, 9, 12, 13⟩] ⟨0, 9, 15, 15⟩ [] (htab.trans rfl) (fun z hz => by
        obtain rfl := List.mem_singleton.mp hz
        exact Or.inr ⟨by decide, eA, hts _ (kL_type_w _ (List.mem_of_getElem? (i := 0) rfl)), hN.1 (eS, eA) (by decide +kernel)⟩) rfl (by decide) (hts _ (kL_type_w _ (List.mem_of_getElem? (i := 1) rfl))) (va_Nw.use rfl (hN.2 eS (by decide +kernel))) hc hv hcl ?_
      refine lv_astore_n (lv' := [(3, .ref q9), (0, .ref (ad 0)), (1, .int (nI q0)), (2, .ref ao)]) hx hb dL_type_15 rfl hl (by decide) rfl (fun ls hl => ?_)
      refine lv_iconst (v := nI 2) hx hb dL_type_16 (by decide) ?_
      exact l_ret hx hb hr hlocks (o := (oType q0 mm)) (congrArg nI h1.symm) h3 h4 (fun q => absurd (h1.symm.trans q) (Nat.succ_ne_zero _)) hP hO hS dL_type_17
    · simp at h2
  · refine lv_i2l hx hb dL_type_7 rfl ?_
    refine l_store (A := A) hx hb hK hP hO hD hao hS dL_type_8 (fun H locs g hg hP hO hS => ?_)
    refine lv_goto (tgt := 18) hx hb dL_type_9 (by decide) ?_
    refine lv_iconst (v := nI 0) hx hb dL_type_18 (by decide) ?_
    exact l_ret hx hb hr hlocks (o := (oType q0 mm)) (congrArg nI h1.symm) h3 h4 (fun _ => hg) hP hO hS dL_type_19
abbrev rmL_typeMore : Room := { frames := 7, cells := 1, slots := 6, locals := 106 }
theorem ddL_typeMore : yL_typeMore.cls ≠ "java/lang/invoke/MethodHandle" ∧ yL_typeMore.cls ≠ "java/lang/invoke/VarHandle" ∧ (parseMethodDescriptor yL_typeMore.desc).map (fun d => d.parameters.length) = some 4 := by decide +kernel
theorem kL_typeMore_w : ∀ w ∈ [Cond.classLink RL 13 eA, Cond.classLink RL 15 eS], w ∈ wsL_typeMore := by decide +kernel
set_option maxHeartbeats 4000000 in
set_option maxRecDepth 100000 in
theorem mL_typeMore (l : Launch) (hlt : l.stackTraces = false) (D : va_G) (ad : Nat → Nat) (ci : Nat → ClassId) (A : Nat → Prop) (ao : Nat) (hao : ¬ A ao) (g : Nat → Int64) (σ : St) (mm : Stt) (hI : InvC σ mm) (hR : Rok σ) (a0 : Int32) (a1 : Int32) :
    Met l yL_typeMore wsL_typeMore rmL_typeMore (va_Pc [.ref (ad 0), .int a0, .int a1, .ref ao] (PreL D ad A ci ao g σ)) (va_Qi (PL (oTypeMore a0 a1 mm)) (PostL D ad ci ao) (AL A ao)) 1 6 (AL A ao) := by
  refine met_ofWH (cc := cL_typeMore) (maxL := 5) (ret := some .int) (hh := [(0, 10, 13, 13), (0, 10, 17, 15)]) (by decide) rfl ?_
  intro p e s m args below meth c s₁ B hml hv
  obtain ⟨rfl, ⟨⟨hP, hK, hD⟩, hE⟩, hO, hN⟩ := hv
  have C0 : CallFix p m c cL_typeMore 5 s _ wsL_typeMore RL := ⟨B.exec, B.bytes, hml, findClass_of_methodNamed B.named, atoms_spec (ws := wsL_typeMore) B.pre⟩
  have hlocks := B.notSynchronized
  have hr := B.returns
  have htab := vx_table (x := yL_typeMore) B (C0.2.2.2.2 _ List.mem_cons_self)
  obtain ⟨hx, hb, -, hown, hts⟩ := id C0
  have hl := lv_entry ([.ref (ad 0), .int a0, .int a1, .ref ao]) (n := 5) (Nat.le_of_ble_eq_true rfl)
  rw [lg_entry_eq]
  generalize (lg_sl ([.ref (ad 0), .int a0, .int a1, .ref ao]) ++ List.replicate (5 - (lg_sl ([.ref (ad 0), .int a0, .int a1, .ref ao])).length) Slot.unset).toArray = ls at hl ⊢
  have hl : lv_has ls 5 [(0, .ref (ad 0)), (1, .int a0), (2, .int a1), (3, .ref ao)] := hl
  refine lv_aload_n hx hb dL_typeMore_0 rfl (lv_at hl 3 rfl) ?_
  refine lv_iconst (v := 0) hx hb dL_typeMore_1 (by decide) ?_
  refine lv_aload_n hx hb dL_typeMore_2 rfl (lv_at hl 0 rfl) ?_
  refine lv_iload_n hx hb dL_typeMore_3 rfl (lv_at hl 1 rfl) ?_
  refine lv_iload_n hx hb dL_typeMore_4 rfl (lv_at hl 2 rfl) ?_
  refine l_call (E := [eA, eS]) (o := (oTypeMore a0 a1 mm)) (fun _ _ h => h) (vx_runV (As := [.int a0, .int a1]) (rest := [.int 0, .ref ao]) C0 (mX5_typeMore l hlt D ad ci A σ a0 a1 (KC (oTypeMore a0 a1 mm)) (XC [eA, eS] (oTypeMore a0 a1 mm)) hR (sC_typeMore hI  (OutC_KX _ _))) (cwV 2 hts gL_typeMore_X5_typeMore rfl rfl rfl ddX5_typeMore ⟨Nat.le_of_ble_eq_true rfl, Nat.le_of_ble_eq_true rfl⟩) (l_preX hK hE hP hD) rfl rfl hl.1 rfl (lv_room (Nat.le_of_ble_eq_true rfl)) dL_typeMore_5 ⟨Nat.le_of_ble_eq_true rfl, Nat.le_of_ble_eq_true rfl⟩) hO hao (fun k n ce q9 u H locs h1 h2 h3 h4 hP hO hS hc hv hcl => ?_) (fun u H locs h1 h3 h4 hP hO hS => ?_)
  · rcases k with _ | _ | k
    · obtain rfl : eA = n := Option.some.inj h2
      refine vx_catch (name := eA) hown [] ⟨0, 10, 13, 13⟩ [⟨0, 10, 17, 15⟩] (htab.trans rfl) (fun z hz => absurd hz List.not_mem_nil) rfl (by decide) (hts _ (kL_typeMore_w _ (List.mem_of_getElem? (i := 0) rfl))) (va_Nw.use rfl (hN.2 eA (by decide +kernel))) hc hv hcl ?_
      refine lv_astore (lv' := [(4, .ref q9), (0, .ref (ad 0)), (1, .int a0), (2, .int a1), (3, .ref ao)]) hx hb dL_typeMore_13 hl (by decide) rfl (fun ls hl => ?_)
      refine lv_iconst (v := nI 1) hx hb dL_typeMore_15 (by decide) ?_
      exact l_ret hx hb hr hlocks (o := (oTypeMore a0 a1 mm)) (congrArg nI h1.symm) h3 h4 (fun q => absurd (h1.symm.trans q) (Nat.succ_ne_zero _)) hP hO hS dL_typeMore_16
    · obtain rfl : eS = n := Option.some.inj h2
      refine vx_catch (name := eS) hown [⟨0, 10, 13, 13⟩] ⟨0, 10, 17, 15⟩ [] (htab.trans rfl) (fun z hz => by
        obtain rfl := List.mem_singleton.mp hz
        exact Or.inr ⟨by decide, eA, hts _ (kL_typeMore_w _ (List.mem_of_getElem? (i := 0) rfl)), hN.1 (eS, eA) (by decide +kernel)⟩) rfl (by decide) (hts _ (kL_typeMore_w _ (List.mem_of_getElem? (i := 1) rfl))) (va_Nw.use rfl (hN.2 eS (by decide +kernel))) hc hv hcl ?_
      refine lv_astore (lv' := [(4, .ref q9), (0, .ref (ad 0)), (1, .int a0), (2, .int a1), (3, .ref ao)]) hx hb dL_typeMore_17 hl (by decide) rfl (fun ls hl => ?_)
      refine lv_iconst (v := nI 2) hx hb dL_typeMore_19 (by decide) ?_
      exact l_ret hx hb hr hlocks (o := (oTypeMore a0 a1 mm)) (congrArg nI h1.symm) h3 h4 (fun q => absurd (h1.symm.trans q) (Nat.succ_ne_zero _)) hP hO hS dL_typeMore_20
    · simp at h2
  · refine lv_i2l hx hb dL_typeMore_8 rfl ?_
    refine l_store (A := A) hx hb hK hP hO hD hao hS dL_typeMore_9 (fun H locs g hg hP hO hS => ?_)
    refine lv_goto (tgt := 21) hx hb dL_typeMore_10 (by decide) ?_
    refine lv_iconst (v := nI 0) hx hb dL_typeMore_21 (by decide) ?_
    exact l_ret hx hb hr hlocks (o := (oTypeMore a0 a1 mm)) (congrArg nI h1.symm) h3 h4 (fun _ => hg) hP hO hS dL_typeMore_22
abbrev rmL_typeAt : Room := { frames := 7, cells := 1, slots := 6, locals := 104 }
theorem ddL_typeAt : yL_typeAt.cls ≠ "java/lang/invoke/MethodHandle" ∧ yL_typeAt.cls ≠ "java/lang/invoke/VarHandle" ∧ (parseMethodDescriptor yL_typeAt.desc).map (fun d => d.parameters.length) = some 4 := by decide +kernel
theorem kL_typeAt_w : ∀ w ∈ [Cond.classLink RL 25 eI, Cond.classLink RL 13 eA, Cond.classLink RL 15 eS], w ∈ wsL_typeAt := by decide +kernel
set_option maxHeartbeats 4000000 in
set_option maxRecDepth 100000 in
theorem mL_typeAt (l : Launch) (hlt : l.stackTraces = false) (D : va_G) (ad : Nat → Nat) (ci : Nat → ClassId) (A : Nat → Prop) (ao : Nat) (hao : ¬ A ao) (g : Nat → Int64) (σ : St) (mm : Stt) (hI : InvC σ mm) (hR : Rok σ) (a0 : Int32) (q1 : Nat) (hq1 : q1 < 65536) :
    Met l yL_typeAt wsL_typeAt rmL_typeAt (va_Pc [.ref (ad 0), .int a0, .int (nI q1), .ref ao] (PreL D ad A ci ao g σ)) (va_Qi (PL (oTypeAt a0 q1 mm)) (PostL D ad ci ao) (AL A ao)) 1 6 (AL A ao) := by
  refine met_ofWH (cc := cL_typeAt) (maxL := 5) (ret := some .int) (hh := [(0, 10, 13, 25), (0, 10, 17, 13), (0, 10, 21, 15)]) (by decide) rfl ?_
  intro p e s m args below meth c s₁ B hml hv
  obtain ⟨rfl, ⟨⟨hP, hK, hD⟩, hE⟩, hO, hN⟩ := hv
  have C0 : CallFix p m c cL_typeAt 5 s _ wsL_typeAt RL := ⟨B.exec, B.bytes, hml, findClass_of_methodNamed B.named, atoms_spec (ws := wsL_typeAt) B.pre⟩
  have hlocks := B.notSynchronized
  have hr := B.returns
  have htab := vx_table (x := yL_typeAt) B (C0.2.2.2.2 _ List.mem_cons_self)
  obtain ⟨hx, hb, -, hown, hts⟩ := id C0
  have hl := lv_entry ([.ref (ad 0), .int a0, .int (nI q1), .ref ao]) (n := 5) (Nat.le_of_ble_eq_true rfl)
  rw [lg_entry_eq]
  generalize (lg_sl ([.ref (ad 0), .int a0, .int (nI q1), .ref ao]) ++ List.replicate (5 - (lg_sl ([.ref (ad 0), .int a0, .int (nI q1), .ref ao])).length) Slot.unset).toArray = ls at hl ⊢
  have hl : lv_has ls 5 [(0, .ref (ad 0)), (1, .int a0), (2, .int (nI q1)), (3, .ref ao)] := hl
  refine lv_aload_n hx hb dL_typeAt_0 rfl (lv_at hl 3 rfl) ?_
  refine lv_iconst (v := 0) hx hb dL_typeAt_1 (by decide) ?_
  refine lv_aload_n hx hb dL_typeAt_2 rfl (lv_at hl 0 rfl) ?_
  refine lv_iload_n hx hb dL_typeAt_3 rfl (lv_at hl 1 rfl) ?_
  refine lv_iload_n hx hb dL_typeAt_4 rfl (lv_at hl 2 rfl) ?_
  refine l_call (E := [eI, eA, eS]) (o := (oTypeAt a0 q1 mm)) (fun _ _ h => h) (vx_runV (As := [.int a0, .int (nI q1)]) (rest := [.int 0, .ref ao]) C0 (mX5_typeAt l hlt D ad ci A σ a0 (nI q1) (KC (oTypeAt a0 q1 mm)) (XC [eI, eA, eS] (oTypeAt a0 q1 mm)) hR (sC_typeAt hI hq1 (OutC_KX _ _))) (cwV 2 hts gL_typeAt_X5_typeAt rfl rfl rfl ddX5_typeAt ⟨Nat.le_of_ble_eq_true rfl, Nat.le_of_ble_eq_true rfl⟩) (l_preX hK hE hP hD) rfl rfl hl.1 rfl (lv_room (Nat.le_of_ble_eq_true rfl)) dL_typeAt_5 ⟨Nat.le_of_ble_eq_true rfl, Nat.le_of_ble_eq_true rfl⟩) hO hao (fun k n ce q9 u H locs h1 h2 h3 h4 hP hO hS hc hv hcl => ?_) (fun u H locs h1 h3 h4 hP hO hS => ?_)
  · rcases k with _ | _ | _ | k
    · obtain rfl : eI = n := Option.some.inj h2
      refine vx_catch (name := eI) hown [] ⟨0, 10, 13, 25⟩ [⟨0, 10, 17, 13⟩, ⟨0, 10, 21, 15⟩] (htab.trans rfl) (fun z hz => absurd hz List.not_mem_nil) rfl (by decide) (hts _ (kL_typeAt_w _ (List.mem_of_getElem? (i := 0) rfl))) (va_Nw.use rfl (hN.2 eI (by decide +kernel))) hc hv hcl ?_
      refine lv_astore (lv' := [(4, .ref q9), (0, .ref (ad 0)), (1, .int a0), (2, .int (nI q1)), (3, .ref ao)]) hx hb dL_typeAt_13 hl (by decide) rfl (fun ls hl => ?_)
      refine lv_iconst (v := nI 1) hx hb dL_typeAt_15 (by decide) ?_
      exact l_ret hx hb hr hlocks (o := (oTypeAt a0 q1 mm)) (congrArg nI h1.symm) h3 h4 (fun q => absurd (h1.symm.trans q) (Nat.succ_ne_zero _)) hP hO hS dL_typeAt_16
    · obtain rfl : eA = n := Option.some.inj h2
      refine vx_catch (name := eA) hown [⟨0, 10, 13, 25⟩] ⟨0, 10, 17, 13⟩ [⟨0, 10, 21, 15⟩] (htab.trans rfl) (fun z hz => by
        obtain rfl := List.mem_singleton.mp hz
        exact Or.inr ⟨by decide, eI, hts _ (kL_typeAt_w _ (List.mem_of_getElem? (i := 0) rfl)), hN.1 (eA, eI) (by decide +kernel)⟩) rfl (by decide) (hts _ (kL_typeAt_w _ (List.mem_of_getElem? (i := 1) rfl))) (va_Nw.use rfl (hN.2 eA (by decide +kernel))) hc hv hcl ?_
      refine lv_astore (lv' := [(4, .ref q9), (0, .ref (ad 0)), (1, .int a0), (2, .int (nI q1)), (3, .ref ao)]) hx hb dL_typeAt_17 hl (by decide) rfl (fun ls hl => ?_)
      refine lv_iconst (v := nI 2) hx hb dL_typeAt_19 (by decide) ?_
      exact l_ret hx hb hr hlocks (o := (oTypeAt a0 q1 mm)) (congrArg nI h1.symm) h3 h4 (fun q => absurd (h1.symm.trans q) (Nat.succ_ne_zero _)) hP hO hS dL_typeAt_20
    · obtain rfl : eS = n := Option.some.inj h2
      refine vx_catch (name := eS) hown [⟨0, 10, 13, 25⟩, ⟨0, 10, 17, 13⟩] ⟨0, 10, 21, 15⟩ [] (htab.trans rfl) (fun z hz => by
        rcases List.mem_cons.mp hz with rfl | hz
        · exact Or.inr ⟨by decide, eI, hts _ (kL_typeAt_w _ (List.mem_of_getElem? (i := 0) rfl)), hN.1 (eS, eI) (by decide +kernel)⟩
        · obtain rfl := List.mem_singleton.mp hz
          exact Or.inr ⟨by decide, eA, hts _ (kL_typeAt_w _ (List.mem_of_getElem? (i := 1) rfl)), hN.1 (eS, eA) (by decide +kernel)⟩) rfl (by decide) (hts _ (kL_typeAt_w _ (List.mem_of_getElem? (i := 2) rfl))) (va_Nw.use rfl (hN.2 eS (by decide +kernel))) hc hv hcl ?_
      refine lv_astore (lv' := [(4, .ref q9), (0, .ref (ad 0)), (1, .int a0), (2, .int (nI q1)), (3, .ref ao)]) hx hb dL_typeAt_21 hl (by decide) rfl (fun ls hl => ?_)
      refine lv_iconst (v := nI 3) hx hb dL_typeAt_23 (by decide) ?_
      exact l_ret hx hb hr hlocks (o := (oTypeAt a0 q1 mm)) (congrArg nI h1.symm) h3 h4 (fun q => absurd (h1.symm.trans q) (Nat.succ_ne_zero _)) hP hO hS dL_typeAt_24
    · simp at h2
  · refine lv_i2l hx hb dL_typeAt_8 rfl ?_
    refine l_store (A := A) hx hb hK hP hO hD hao hS dL_typeAt_9 (fun H locs g hg hP hO hS => ?_)
    refine lv_goto (tgt := 25) hx hb dL_typeAt_10 (by decide) ?_
    refine lv_iconst (v := nI 0) hx hb dL_typeAt_25 (by decide) ?_
    exact l_ret hx hb hr hlocks (o := (oTypeAt a0 q1 mm)) (congrArg nI h1.symm) h3 h4 (fun _ => hg) hP hO hS dL_typeAt_26
abbrev rmL_drop : Room := { frames := 7, cells := 1, slots := 6, locals := 102 }
theorem ddL_drop : yL_drop.cls ≠ "java/lang/invoke/MethodHandle" ∧ yL_drop.cls ≠ "java/lang/invoke/VarHandle" ∧ (parseMethodDescriptor yL_drop.desc).map (fun d => d.parameters.length) = some 2 := by decide +kernel
theorem kL_drop_w : ∀ w ∈ [Cond.classLink RL 31 eN], w ∈ wsL_drop := by decide +kernel
set_option maxHeartbeats 4000000 in
set_option maxRecDepth 100000 in
theorem mL_drop (l : Launch) (hlt : l.stackTraces = false) (D : va_G) (ad : Nat → Nat) (ci : Nat → ClassId) (A : Nat → Prop) (ao : Nat) (hao : ¬ A ao) (g : Nat → Int64) (σ : St) (mm : Stt) (hI : InvC σ mm) (hR : Rok σ)  :
    Met l yL_drop wsL_drop rmL_drop (va_Pc [.ref (ad 0), .ref ao] (PreL D ad A ci ao g σ)) (va_Qi (PL (oDrop mm)) (PostL D ad ci ao) (AL A ao)) 1 6 (AL A ao) := by
  refine met_ofWH (cc := cL_drop) (maxL := 3) (ret := some .int) (hh := [(0, 8, 11, 31)]) (by decide) rfl ?_
  intro p e s m args below meth c s₁ B hml hv
  obtain ⟨rfl, ⟨⟨hP, hK, hD⟩, hE⟩, hO, hN⟩ := hv
  have C0 : CallFix p m c cL_drop 3 s _ wsL_drop RL := ⟨B.exec, B.bytes, hml, findClass_of_methodNamed B.named, atoms_spec (ws := wsL_drop) B.pre⟩
  have hlocks := B.notSynchronized
  have hr := B.returns
  have htab := vx_table (x := yL_drop) B (C0.2.2.2.2 _ List.mem_cons_self)
  obtain ⟨hx, hb, -, hown, hts⟩ := id C0
  have hl := lv_entry ([.ref (ad 0), .ref ao]) (n := 3) (Nat.le_of_ble_eq_true rfl)
  rw [lg_entry_eq]
  generalize (lg_sl ([.ref (ad 0), .ref ao]) ++ List.replicate (3 - (lg_sl ([.ref (ad 0), .ref ao])).length) Slot.unset).toArray = ls at hl ⊢
  have hl : lv_has ls 3 [(0, .ref (ad 0)), (1, .ref ao)] := hl
  refine lv_aload_n hx hb dL_drop_0 rfl (lv_at hl 1 rfl) ?_
  refine lv_iconst (v := 0) hx hb dL_drop_1 (by decide) ?_
  refine lv_aload_n hx hb dL_drop_2 rfl (lv_at hl 0 rfl) ?_
  refine l_call (E := [eN]) (o := (oDrop mm)) (fun _ _ h => h) (vx_runV (As := []) (rest := [.int 0, .ref ao]) C0 (mX5_drop l hlt D ad ci A σ  (KC (oDrop mm)) (XC [eN] (oDrop mm)) hR (sC_drop hI  (OutC_KX _ _))) (cwV 0 hts gL_drop_X5_drop rfl rfl rfl ddX5_drop ⟨Nat.le_of_ble_eq_true rfl, Nat.le_of_ble_eq_true rfl⟩) (l_preX hK hE hP hD) rfl rfl hl.1 rfl (lv_room (Nat.le_of_ble_eq_true rfl)) dL_drop_3 ⟨Nat.le_of_ble_eq_true rfl, Nat.le_of_ble_eq_true rfl⟩) hO hao (fun k n ce q9 u H locs h1 h2 h3 h4 hP hO hS hc hv hcl => ?_) (fun u H locs h1 h3 h4 hP hO hS => ?_)
  · rcases k with _ | k
    · obtain rfl : eN = n := Option.some.inj h2
      refine vx_catch (name := eN) hown [] ⟨0, 8, 11, 31⟩ [] (htab.trans rfl) (fun z hz => absurd hz List.not_mem_nil) rfl (by decide) (hts _ (kL_drop_w _ (List.mem_of_getElem? (i := 0) rfl))) (va_Nw.use rfl (hN.2 eN (by decide +kernel))) hc hv hcl ?_
      refine lv_astore_n (lv' := [(2, .ref q9), (0, .ref (ad 0)), (1, .ref ao)]) hx hb dL_drop_11 rfl hl (by decide) rfl (fun ls hl => ?_)
      refine lv_iconst (v := nI 1) hx hb dL_drop_12 (by decide) ?_
      exact l_ret hx hb hr hlocks (o := (oDrop mm)) (congrArg nI h1.symm) h3 h4 (fun q => absurd (h1.symm.trans q) (Nat.succ_ne_zero _)) hP hO hS dL_drop_13
    · simp at h2
  · refine lv_i2l hx hb dL_drop_6 rfl ?_
    refine l_store (A := A) hx hb hK hP hO hD hao hS dL_drop_7 (fun H locs g hg hP hO hS => ?_)
    refine lv_goto (tgt := 14) hx hb dL_drop_8 (by decide) ?_
    refine lv_iconst (v := nI 0) hx hb dL_drop_14 (by decide) ?_
    exact l_ret hx hb hr hlocks (o := (oDrop mm)) (congrArg nI h1.symm) h3 h4 (fun _ => hg) hP hO hS dL_drop_15
abbrev rmL_clip : Room := { frames := 7, cells := 1, slots := 6, locals := 104 }
theorem ddL_clip : yL_clip.cls ≠ "java/lang/invoke/MethodHandle" ∧ yL_clip.cls ≠ "java/lang/invoke/VarHandle" ∧ (parseMethodDescriptor yL_clip.desc).map (fun d => d.parameters.length) = some 4 := by decide +kernel
theorem kL_clip_w : ∀ w ∈ [Cond.classLink RL 25 eI], w ∈ wsL_clip := by decide +kernel
set_option maxHeartbeats 4000000 in
set_option maxRecDepth 100000 in
theorem mL_clip (l : Launch) (hlt : l.stackTraces = false) (D : va_G) (ad : Nat → Nat) (ci : Nat → ClassId) (A : Nat → Prop) (ao : Nat) (hao : ¬ A ao) (g : Nat → Int64) (σ : St) (mm : Stt) (hI : InvC σ mm) (hR : Rok σ) (a0 : Int32) (a1 : Int32) :
    Met l yL_clip wsL_clip rmL_clip (va_Pc [.ref (ad 0), .int a0, .int a1, .ref ao] (PreL D ad A ci ao g σ)) (va_Qi (PL (oClip a0 a1 mm)) (PostL D ad ci ao) (AL A ao)) 1 6 (AL A ao) := by
  refine met_ofWH (cc := cL_clip) (maxL := 5) (ret := some .int) (hh := [(0, 10, 13, 25)]) (by decide) rfl ?_
  intro p e s m args below meth c s₁ B hml hv
  obtain ⟨rfl, ⟨⟨hP, hK, hD⟩, hE⟩, hO, hN⟩ := hv
  have C0 : CallFix p m c cL_clip 5 s _ wsL_clip RL := ⟨B.exec, B.bytes, hml, findClass_of_methodNamed B.named, atoms_spec (ws := wsL_clip) B.pre⟩
  have hlocks := B.notSynchronized
  have hr := B.returns
  have htab := vx_table (x := yL_clip) B (C0.2.2.2.2 _ List.mem_cons_self)
  obtain ⟨hx, hb, -, hown, hts⟩ := id C0
  have hl := lv_entry ([.ref (ad 0), .int a0, .int a1, .ref ao]) (n := 5) (Nat.le_of_ble_eq_true rfl)
  rw [lg_entry_eq]
  generalize (lg_sl ([.ref (ad 0), .int a0, .int a1, .ref ao]) ++ List.replicate (5 - (lg_sl ([.ref (ad 0), .int a0, .int a1, .ref ao])).length) Slot.unset).toArray = ls at hl ⊢
  have hl : lv_has ls 5 [(0, .ref (ad 0)), (1, .int a0), (2, .int a1), (3, .ref ao)] := hl
  refine lv_aload_n hx hb dL_clip_0 rfl (lv_at hl 3 rfl) ?_
  refine lv_iconst (v := 0) hx hb dL_clip_1 (by decide) ?_
  refine lv_aload_n hx hb dL_clip_2 rfl (lv_at hl 0 rfl) ?_
  refine lv_iload_n hx hb dL_clip_3 rfl (lv_at hl 1 rfl) ?_
  refine lv_iload_n hx hb dL_clip_4 rfl (lv_at hl 2 rfl) ?_
  refine l_call (E := [eI]) (o := (oClip a0 a1 mm)) (fun _ _ h => h) (vx_runV (As := [.int a0, .int a1]) (rest := [.int 0, .ref ao]) C0 (mX5_clip l hlt D ad ci A σ a0 a1 (KC (oClip a0 a1 mm)) (XC [eI] (oClip a0 a1 mm)) hR (sC_clip hI  (OutC_KX _ _))) (cwV 2 hts gL_clip_X5_clip rfl rfl rfl ddX5_clip ⟨Nat.le_of_ble_eq_true rfl, Nat.le_of_ble_eq_true rfl⟩) (l_preX hK hE hP hD) rfl rfl hl.1 rfl (lv_room (Nat.le_of_ble_eq_true rfl)) dL_clip_5 ⟨Nat.le_of_ble_eq_true rfl, Nat.le_of_ble_eq_true rfl⟩) hO hao (fun k n ce q9 u H locs h1 h2 h3 h4 hP hO hS hc hv hcl => ?_) (fun u H locs h1 h3 h4 hP hO hS => ?_)
  · rcases k with _ | k
    · obtain rfl : eI = n := Option.some.inj h2
      refine vx_catch (name := eI) hown [] ⟨0, 10, 13, 25⟩ [] (htab.trans rfl) (fun z hz => absurd hz List.not_mem_nil) rfl (by decide) (hts _ (kL_clip_w _ (List.mem_of_getElem? (i := 0) rfl))) (va_Nw.use rfl (hN.2 eI (by decide +kernel))) hc hv hcl ?_
      refine lv_astore (lv' := [(4, .ref q9), (0, .ref (ad 0)), (1, .int a0), (2, .int a1), (3, .ref ao)]) hx hb dL_clip_13 hl (by decide) rfl (fun ls hl => ?_)
      refine lv_iconst (v := nI 1) hx hb dL_clip_15 (by decide) ?_
      exact l_ret hx hb hr hlocks (o := (oClip a0 a1 mm)) (congrArg nI h1.symm) h3 h4 (fun q => absurd (h1.symm.trans q) (Nat.succ_ne_zero _)) hP hO hS dL_clip_16
    · simp at h2
  · refine lv_i2l hx hb dL_clip_8 rfl ?_
    refine l_store (A := A) hx hb hK hP hO hD hao hS dL_clip_9 (fun H locs g hg hP hO hS => ?_)
    refine lv_goto (tgt := 17) hx hb dL_clip_10 (by decide) ?_
    refine lv_iconst (v := nI 0) hx hb dL_clip_17 (by decide) ?_
    exact l_ret hx hb hr hlocks (o := (oClip a0 a1 mm)) (congrArg nI h1.symm) h3 h4 (fun _ => hg) hP hO hS dL_clip_18
abbrev rmL_signAt : Room := { frames := 7, cells := 1, slots := 6, locals := 103 }
theorem ddL_signAt : yL_signAt.cls ≠ "java/lang/invoke/MethodHandle" ∧ yL_signAt.cls ≠ "java/lang/invoke/VarHandle" ∧ (parseMethodDescriptor yL_signAt.desc).map (fun d => d.parameters.length) = some 3 := by decide +kernel
theorem kL_signAt_w : ∀ w ∈ [Cond.classLink RL 25 eI], w ∈ wsL_signAt := by decide +kernel
set_option maxHeartbeats 4000000 in
set_option maxRecDepth 100000 in
theorem mL_signAt (l : Launch) (hlt : l.stackTraces = false) (D : va_G) (ad : Nat → Nat) (ci : Nat → ClassId) (A : Nat → Prop) (ao : Nat) (hao : ¬ A ao) (g : Nat → Int64) (σ : St) (mm : Stt) (hI : InvC σ mm) (hR : Rok σ) (a0 : Int32) :
    Met l yL_signAt wsL_signAt rmL_signAt (va_Pc [.ref (ad 0), .int a0, .ref ao] (PreL D ad A ci ao g σ)) (va_Qi (PL (oSignAt a0 mm)) (PostL D ad ci ao) (AL A ao)) 1 6 (AL A ao) := by
  refine met_ofWH (cc := cL_signAt) (maxL := 4) (ret := some .int) (hh := [(0, 9, 12, 25)]) (by decide) rfl ?_
  intro p e s m args below meth c s₁ B hml hv
  obtain ⟨rfl, ⟨⟨hP, hK, hD⟩, hE⟩, hO, hN⟩ := hv
  have C0 : CallFix p m c cL_signAt 4 s _ wsL_signAt RL := ⟨B.exec, B.bytes, hml, findClass_of_methodNamed B.named, atoms_spec (ws := wsL_signAt) B.pre⟩
  have hlocks := B.notSynchronized
  have hr := B.returns
  have htab := vx_table (x := yL_signAt) B (C0.2.2.2.2 _ List.mem_cons_self)
  obtain ⟨hx, hb, -, hown, hts⟩ := id C0
  have hl := lv_entry ([.ref (ad 0), .int a0, .ref ao]) (n := 4) (Nat.le_of_ble_eq_true rfl)
  rw [lg_entry_eq]
  generalize (lg_sl ([.ref (ad 0), .int a0, .ref ao]) ++ List.replicate (4 - (lg_sl ([.ref (ad 0), .int a0, .ref ao])).length) Slot.unset).toArray = ls at hl ⊢
  have hl : lv_has ls 4 [(0, .ref (ad 0)), (1, .int a0), (2, .ref ao)] := hl
  refine lv_aload_n hx hb dL_signAt_0 rfl (lv_at hl 2 rfl) ?_
  refine lv_iconst (v := 0) hx hb dL_signAt_1 (by decide) ?_
  refine lv_aload_n hx hb dL_signAt_2 rfl (lv_at hl 0 rfl) ?_
  refine lv_iload_n hx hb dL_signAt_3 rfl (lv_at hl 1 rfl) ?_
  refine l_call (E := [eI]) (o := (oSignAt a0 mm)) (fun _ _ h => h.2) (vx_runV (As := [.int a0]) (rest := [.int 0, .ref ao]) C0 (mX5_signAt l hlt D ad ci A σ a0 (KC (oSignAt a0 mm)) (XC [eI] (oSignAt a0 mm)) hR (sC_signAt hI  (OutC_KX _ _))) (cwV 1 hts gL_signAt_X5_signAt rfl rfl rfl ddX5_signAt ⟨Nat.le_of_ble_eq_true rfl, Nat.le_of_ble_eq_true rfl⟩) (l_preX hK hE hP hD) rfl rfl hl.1 rfl (lv_room (Nat.le_of_ble_eq_true rfl)) dL_signAt_4 ⟨Nat.le_of_ble_eq_true rfl, Nat.le_of_ble_eq_true rfl⟩) hO hao (fun k n ce q9 u H locs h1 h2 h3 h4 hP hO hS hc hv hcl => ?_) (fun u H locs h1 h3 h4 hP hO hS => ?_)
  · rcases k with _ | k
    · obtain rfl : eI = n := Option.some.inj h2
      refine vx_catch (name := eI) hown [] ⟨0, 9, 12, 25⟩ [] (htab.trans rfl) (fun z hz => absurd hz List.not_mem_nil) rfl (by decide) (hts _ (kL_signAt_w _ (List.mem_of_getElem? (i := 0) rfl))) (va_Nw.use rfl (hN.2 eI (by decide +kernel))) hc hv hcl ?_
      refine lv_astore_n (lv' := [(3, .ref q9), (0, .ref (ad 0)), (1, .int a0), (2, .ref ao)]) hx hb dL_signAt_12 rfl hl (by decide) rfl (fun ls hl => ?_)
      refine lv_iconst (v := nI 1) hx hb dL_signAt_13 (by decide) ?_
      exact l_ret hx hb hr hlocks (o := (oSignAt a0 mm)) (congrArg nI h1.symm) h3 h4 (fun q => absurd (h1.symm.trans q) (Nat.succ_ne_zero _)) hP hO hS dL_signAt_14
    · simp at h2
  · refine lv_i2l hx hb dL_signAt_7 rfl ?_
    refine l_store (A := A) hx hb hK hP hO hD hao hS dL_signAt_8 (fun H locs g hg hP hO hS => ?_)
    refine lv_goto (tgt := 15) hx hb dL_signAt_9 (by decide) ?_
    refine lv_iconst (v := nI 0) hx hb dL_signAt_15 (by decide) ?_
    exact l_ret hx hb hr hlocks (o := (oSignAt a0 mm)) (congrArg nI h1.symm) h3 h4 (fun _ => hg) hP hO hS dL_signAt_16
abbrev rmL_put : Room := { frames := 7, cells := 1, slots := 6, locals := 114 }
theorem ddL_put : yL_put.cls ≠ "java/lang/invoke/MethodHandle" ∧ yL_put.cls ≠ "java/lang/invoke/VarHandle" ∧ (parseMethodDescriptor yL_put.desc).map (fun d => d.parameters.length) = some 3 := by decide +kernel
theorem kL_put_w : ∀ w ∈ [Cond.classLink RL 13 eA, Cond.classLink RL 44 eU, Cond.classLink RL 15 eS], w ∈ wsL_put := by decide +kernel
set_option maxHeartbeats 4000000 in
set_option maxRecDepth 100000 in
theorem mL_put (l : Launch) (hlt : l.stackTraces = false) (D : va_G) (ad : Nat → Nat) (ci : Nat → ClassId) (A : Nat → Prop) (ao : Nat) (hao : ¬ A ao) (g : Nat → Int64) (σ : St) (mm : Stt) (hI : InvC σ mm) (hR : Rok σ) (a0 : Int32) :
    Met l yL_put wsL_put rmL_put (va_Pc [.ref (ad 0), .int a0, .ref ao] (PreL D ad A ci ao g σ)) (va_Qi (PL (oPut a0 mm)) (PostL D ad ci ao) (AL A ao)) 1 6 (AL A ao) := by
  refine met_ofWH (cc := cL_put) (maxL := 4) (ret := some .int) (hh := [(0, 9, 12, 13), (0, 9, 15, 44), (0, 9, 18, 15)]) (by decide) rfl ?_
  intro p e s m args below meth c s₁ B hml hv
  obtain ⟨rfl, ⟨⟨hP, hK, hD⟩, hE⟩, hO, hN⟩ := hv
  have C0 : CallFix p m c cL_put 4 s _ wsL_put RL := ⟨B.exec, B.bytes, hml, findClass_of_methodNamed B.named, atoms_spec (ws := wsL_put) B.pre⟩
  have hlocks := B.notSynchronized
  have hr := B.returns
  have htab := vx_table (x := yL_put) B (C0.2.2.2.2 _ List.mem_cons_self)
  obtain ⟨hx, hb, -, hown, hts⟩ := id C0
  have hl := lv_entry ([.ref (ad 0), .int a0, .ref ao]) (n := 4) (Nat.le_of_ble_eq_true rfl)
  rw [lg_entry_eq]
  generalize (lg_sl ([.ref (ad 0), .int a0, .ref ao]) ++ List.replicate (4 - (lg_sl ([.ref (ad 0), .int a0, .ref ao])).length) Slot.unset).toArray = ls at hl ⊢
  have hl : lv_has ls 4 [(0, .ref (ad 0)), (1, .int a0), (2, .ref ao)] := hl
  refine lv_aload_n hx hb dL_put_0 rfl (lv_at hl 2 rfl) ?_
  refine lv_iconst (v := 0) hx hb dL_put_1 (by decide) ?_
  refine lv_aload_n hx hb dL_put_2 rfl (lv_at hl 0 rfl) ?_
  refine lv_iload_n hx hb dL_put_3 rfl (lv_at hl 1 rfl) ?_
  refine l_call (E := [eA, eU, eS]) (o := (oPut a0 mm)) (fun _ _ h => h) (vx_runV (As := [.int a0]) (rest := [.int 0, .ref ao]) C0 (mX5_put l hlt D ad ci A σ a0 (KC (oPut a0 mm)) (XC [eA, eU, eS] (oPut a0 mm)) hR (sC_put hI  (OutC_KX _ _))) (cwV 1 hts gL_put_X5_put rfl rfl rfl ddX5_put ⟨Nat.le_of_ble_eq_true rfl, Nat.le_of_ble_eq_true rfl⟩) (l_preX hK hE hP hD) rfl rfl hl.1 rfl (lv_room (Nat.le_of_ble_eq_true rfl)) dL_put_4 ⟨Nat.le_of_ble_eq_true rfl, Nat.le_of_ble_eq_true rfl⟩) hO hao (fun k n ce q9 u H locs h1 h2 h3 h4 hP hO hS hc hv hcl => ?_) (fun u H locs h1 h3 h4 hP hO hS => ?_)
  · rcases k with _ | _ | _ | k
    · obtain rfl : eA = n := Option.some.inj h2
      refine vx_catch (name := eA) hown [] ⟨0, 9, 12, 13⟩ [⟨0, 9, 15, 44⟩, ⟨0, 9, 18, 15⟩] (htab.trans rfl) (fun z hz => absurd hz List.not_mem_nil) rfl (by decide) (hts _ (kL_put_w _ (List.mem_of_getElem? (i := 0) rfl))) (va_Nw.use rfl (hN.2 eA (by decide +kernel))) hc hv hcl ?_
      refine lv_astore_n (lv' := [(3, .ref q9), (0, .ref (ad 0)), (1, .int a0), (2, .ref ao)]) hx hb dL_put_12 rfl hl (by decide) rfl (fun ls hl => ?_)
      refine lv_iconst (v := nI 1) hx hb dL_put_13 (by decide) ?_
      exact l_ret hx hb hr hlocks (o := (oPut a0 mm)) (congrArg nI h1.symm) h3 h4 (fun q => absurd (h1.symm.trans q) (Nat.succ_ne_zero _)) hP hO hS dL_put_14
    · obtain rfl : eU = n := Option.some.inj h2
      refine vx_catch (name := eU) hown [⟨0, 9, 12, 13⟩] ⟨0, 9, 15, 44⟩ [⟨0, 9, 18, 15⟩] (htab.trans rfl) (fun z hz => by
        obtain rfl := List.mem_singleton.mp hz
        exact Or.inr ⟨by decide, eA, hts _ (kL_put_w _ (List.mem_of_getElem? (i := 0) rfl)), hN.1 (eU, eA) (by decide +kernel)⟩) rfl (by decide) (hts _ (kL_put_w _ (List.mem_of_getElem? (i := 1) rfl))) (va_Nw.use rfl (hN.2 eU (by decide +kernel))) hc hv hcl ?_
      refine lv_astore_n (lv' := [(3, .ref q9), (0, .ref (ad 0)), (1, .int a0), (2, .ref ao)]) hx hb dL_put_15 rfl hl (by decide) rfl (fun ls hl => ?_)
      refine lv_iconst (v := nI 2) hx hb dL_put_16 (by decide) ?_
      exact l_ret hx hb hr hlocks (o := (oPut a0 mm)) (congrArg nI h1.symm) h3 h4 (fun q => absurd (h1.symm.trans q) (Nat.succ_ne_zero _)) hP hO hS dL_put_17
    · obtain rfl : eS = n := Option.some.inj h2
      refine vx_catch (name := eS) hown [⟨0, 9, 12, 13⟩, ⟨0, 9, 15, 44⟩] ⟨0, 9, 18, 15⟩ [] (htab.trans rfl) (fun z hz => by
        rcases List.mem_cons.mp hz with rfl | hz
        · exact Or.inr ⟨by decide, eA, hts _ (kL_put_w _ (List.mem_of_getElem? (i := 0) rfl)), hN.1 (eS, eA) (by decide +kernel)⟩
        · obtain rfl := List.mem_singleton.mp hz
          exact Or.inr ⟨by decide, eU, hts _ (kL_put_w _ (List.mem_of_getElem? (i := 1) rfl)), hN.1 (eS, eU) (by decide +kernel)⟩) rfl (by decide) (hts _ (kL_put_w _ (List.mem_of_getElem? (i := 2) rfl))) (va_Nw.use rfl (hN.2 eS (by decide +kernel))) hc hv hcl ?_
      refine lv_astore_n (lv' := [(3, .ref q9), (0, .ref (ad 0)), (1, .int a0), (2, .ref ao)]) hx hb dL_put_18 rfl hl (by decide) rfl (fun ls hl => ?_)
      refine lv_iconst (v := nI 3) hx hb dL_put_19 (by decide) ?_
      exact l_ret hx hb hr hlocks (o := (oPut a0 mm)) (congrArg nI h1.symm) h3 h4 (fun q => absurd (h1.symm.trans q) (Nat.succ_ne_zero _)) hP hO hS dL_put_20
    · simp at h2
  · refine lv_i2l hx hb dL_put_7 rfl ?_
    refine l_store (A := A) hx hb hK hP hO hD hao hS dL_put_8 (fun H locs g hg hP hO hS => ?_)
    refine lv_goto (tgt := 21) hx hb dL_put_9 (by decide) ?_
    refine lv_iconst (v := nI 0) hx hb dL_put_21 (by decide) ?_
    exact l_ret hx hb hr hlocks (o := (oPut a0 mm)) (congrArg nI h1.symm) h3 h4 (fun _ => hg) hP hO hS dL_put_22
abbrev rmL_take : Room := { frames := 7, cells := 1, slots := 6, locals := 110 }
theorem ddL_take : yL_take.cls ≠ "java/lang/invoke/MethodHandle" ∧ yL_take.cls ≠ "java/lang/invoke/VarHandle" ∧ (parseMethodDescriptor yL_take.desc).map (fun d => d.parameters.length) = some 2 := by decide +kernel
theorem kL_take_w : ∀ w ∈ [Cond.classLink RL 31 eN], w ∈ wsL_take := by decide +kernel
set_option maxHeartbeats 4000000 in
set_option maxRecDepth 100000 in
theorem mL_take (l : Launch) (hlt : l.stackTraces = false) (D : va_G) (ad : Nat → Nat) (ci : Nat → ClassId) (A : Nat → Prop) (ao : Nat) (hao : ¬ A ao) (g : Nat → Int64) (σ : St) (mm : Stt) (hI : InvC σ mm) (hR : Rok σ)  :
    Met l yL_take wsL_take rmL_take (va_Pc [.ref (ad 0), .ref ao] (PreL D ad A ci ao g σ)) (va_Qi (PL (oTake mm)) (PostL D ad ci ao) (AL A ao)) 1 6 (AL A ao) := by
  refine met_ofWH (cc := cL_take) (maxL := 3) (ret := some .int) (hh := [(0, 8, 11, 31)]) (by decide) rfl ?_
  intro p e s m args below meth c s₁ B hml hv
  obtain ⟨rfl, ⟨⟨hP, hK, hD⟩, hE⟩, hO, hN⟩ := hv
  have C0 : CallFix p m c cL_take 3 s _ wsL_take RL := ⟨B.exec, B.bytes, hml, findClass_of_methodNamed B.named, atoms_spec (ws := wsL_take) B.pre⟩
  have hlocks := B.notSynchronized
  have hr := B.returns
  have htab := vx_table (x := yL_take) B (C0.2.2.2.2 _ List.mem_cons_self)
  obtain ⟨hx, hb, -, hown, hts⟩ := id C0
  have hl := lv_entry ([.ref (ad 0), .ref ao]) (n := 3) (Nat.le_of_ble_eq_true rfl)
  rw [lg_entry_eq]
  generalize (lg_sl ([.ref (ad 0), .ref ao]) ++ List.replicate (3 - (lg_sl ([.ref (ad 0), .ref ao])).length) Slot.unset).toArray = ls at hl ⊢
  have hl : lv_has ls 3 [(0, .ref (ad 0)), (1, .ref ao)] := hl
  refine lv_aload_n hx hb dL_take_0 rfl (lv_at hl 1 rfl) ?_
  refine lv_iconst (v := 0) hx hb dL_take_1 (by decide) ?_
  refine lv_aload_n hx hb dL_take_2 rfl (lv_at hl 0 rfl) ?_
  refine l_call (E := [eN]) (o := (oTake mm)) (fun _ _ h => h) (vx_runV (As := []) (rest := [.int 0, .ref ao]) C0 (mX5_take l hlt D ad ci A σ  (KC (oTake mm)) (XC [eN] (oTake mm)) hR (sC_take hI  (OutC_KX _ _))) (cwV 0 hts gL_take_X5_take rfl rfl rfl ddX5_take ⟨Nat.le_of_ble_eq_true rfl, Nat.le_of_ble_eq_true rfl⟩) (l_preX hK hE hP hD) rfl rfl hl.1 rfl (lv_room (Nat.le_of_ble_eq_true rfl)) dL_take_3 ⟨Nat.le_of_ble_eq_true rfl, Nat.le_of_ble_eq_true rfl⟩) hO hao (fun k n ce q9 u H locs h1 h2 h3 h4 hP hO hS hc hv hcl => ?_) (fun u H locs h1 h3 h4 hP hO hS => ?_)
  · rcases k with _ | k
    · obtain rfl : eN = n := Option.some.inj h2
      refine vx_catch (name := eN) hown [] ⟨0, 8, 11, 31⟩ [] (htab.trans rfl) (fun z hz => absurd hz List.not_mem_nil) rfl (by decide) (hts _ (kL_take_w _ (List.mem_of_getElem? (i := 0) rfl))) (va_Nw.use rfl (hN.2 eN (by decide +kernel))) hc hv hcl ?_
      refine lv_astore_n (lv' := [(2, .ref q9), (0, .ref (ad 0)), (1, .ref ao)]) hx hb dL_take_11 rfl hl (by decide) rfl (fun ls hl => ?_)
      refine lv_iconst (v := nI 1) hx hb dL_take_12 (by decide) ?_
      exact l_ret hx hb hr hlocks (o := (oTake mm)) (congrArg nI h1.symm) h3 h4 (fun q => absurd (h1.symm.trans q) (Nat.succ_ne_zero _)) hP hO hS dL_take_13
    · simp at h2
  · refine lv_i2l hx hb dL_take_6 rfl ?_
    refine l_store (A := A) hx hb hK hP hO hD hao hS dL_take_7 (fun H locs g hg hP hO hS => ?_)
    refine lv_goto (tgt := 14) hx hb dL_take_8 (by decide) ?_
    refine lv_iconst (v := nI 0) hx hb dL_take_14 (by decide) ?_
    exact l_ret hx hb hr hlocks (o := (oTake mm)) (congrArg nI h1.symm) h3 h4 (fun _ => hg) hP hO hS dL_take_15
abbrev rmL_number : Room := { frames := 7, cells := 1, slots := 6, locals := 109 }
theorem ddL_number : yL_number.cls ≠ "java/lang/invoke/MethodHandle" ∧ yL_number.cls ≠ "java/lang/invoke/VarHandle" ∧ (parseMethodDescriptor yL_number.desc).map (fun d => d.parameters.length) = some 2 := by decide +kernel
theorem kL_number_w : ∀ w ∈ [Cond.classLink RL 31 eN], w ∈ wsL_number := by decide +kernel
set_option maxHeartbeats 4000000 in
set_option maxRecDepth 100000 in
theorem mL_number (l : Launch) (hlt : l.stackTraces = false) (D : va_G) (ad : Nat → Nat) (ci : Nat → ClassId) (A : Nat → Prop) (ao : Nat) (hao : ¬ A ao) (g : Nat → Int64) (σ : St) (mm : Stt) (hI : InvC σ mm) (hR : Rok σ)  :
    Met l yL_number wsL_number rmL_number (va_Pc [.ref (ad 0), .ref ao] (PreL D ad A ci ao g σ)) (va_Qi (PL (oNumber mm)) (PostL D ad ci ao) (AL A ao)) 1 6 (AL A ao) := by
  refine met_ofWH (cc := cL_number) (maxL := 3) (ret := some .int) (hh := [(0, 8, 11, 31)]) (by decide) rfl ?_
  intro p e s m args below meth c s₁ B hml hv
  obtain ⟨rfl, ⟨⟨hP, hK, hD⟩, hE⟩, hO, hN⟩ := hv
  have C0 : CallFix p m c cL_number 3 s _ wsL_number RL := ⟨B.exec, B.bytes, hml, findClass_of_methodNamed B.named, atoms_spec (ws := wsL_number) B.pre⟩
  have hlocks := B.notSynchronized
  have hr := B.returns
  have htab := vx_table (x := yL_number) B (C0.2.2.2.2 _ List.mem_cons_self)
  obtain ⟨hx, hb, -, hown, hts⟩ := id C0
  have hl := lv_entry ([.ref (ad 0), .ref ao]) (n := 3) (Nat.le_of_ble_eq_true rfl)
  rw [lg_entry_eq]
  generalize (lg_sl ([.ref (ad 0), .ref ao]) ++ List.replicate (3 - (lg_sl ([.ref (ad 0), .ref ao])).length) Slot.unset).toArray = ls at hl ⊢
  have hl : lv_has ls 3 [(0, .ref (ad 0)), (1, .ref ao)] := hl
  refine lv_aload_n hx hb dL_number_0 rfl (lv_at hl 1 rfl) ?_
  refine lv_iconst (v := 0) hx hb dL_number_1 (by decide) ?_
  refine lv_aload_n hx hb dL_number_2 rfl (lv_at hl 0 rfl) ?_
  refine l_call (E := [eN]) (o := (oNumber mm)) (fun _ _ h => h) (vx_runV (As := []) (rest := [.int 0, .ref ao]) C0 (mX5_number l hlt D ad ci A σ  (KC (oNumber mm)) (XC [eN] (oNumber mm)) hR (sC_number hI  (OutC_KX _ _))) (cwV 0 hts gL_number_X5_number rfl rfl rfl ddX5_number ⟨Nat.le_of_ble_eq_true rfl, Nat.le_of_ble_eq_true rfl⟩) (l_preX hK hE hP hD) rfl rfl hl.1 rfl (lv_room (Nat.le_of_ble_eq_true rfl)) dL_number_3 ⟨Nat.le_of_ble_eq_true rfl, Nat.le_of_ble_eq_true rfl⟩) hO hao (fun k n ce q9 u H locs h1 h2 h3 h4 hP hO hS hc hv hcl => ?_) (fun u H locs h1 h3 h4 hP hO hS => ?_)
  · rcases k with _ | k
    · obtain rfl : eN = n := Option.some.inj h2
      refine vx_catch (name := eN) hown [] ⟨0, 8, 11, 31⟩ [] (htab.trans rfl) (fun z hz => absurd hz List.not_mem_nil) rfl (by decide) (hts _ (kL_number_w _ (List.mem_of_getElem? (i := 0) rfl))) (va_Nw.use rfl (hN.2 eN (by decide +kernel))) hc hv hcl ?_
      refine lv_astore_n (lv' := [(2, .ref q9), (0, .ref (ad 0)), (1, .ref ao)]) hx hb dL_number_11 rfl hl (by decide) rfl (fun ls hl => ?_)
      refine lv_iconst (v := nI 1) hx hb dL_number_12 (by decide) ?_
      exact l_ret hx hb hr hlocks (o := (oNumber mm)) (congrArg nI h1.symm) h3 h4 (fun q => absurd (h1.symm.trans q) (Nat.succ_ne_zero _)) hP hO hS dL_number_13
    · simp at h2
  · refine lv_i2l hx hb dL_number_6 rfl ?_
    refine l_store (A := A) hx hb hK hP hO hD hao hS dL_number_7 (fun H locs g hg hP hO hS => ?_)
    refine lv_goto (tgt := 14) hx hb dL_number_8 (by decide) ?_
    refine lv_iconst (v := nI 0) hx hb dL_number_14 (by decide) ?_
    exact l_ret hx hb hr hlocks (o := (oNumber mm)) (congrArg nI h1.symm) h3 h4 (fun _ => hg) hP hO hS dL_number_15
abbrev rmL_word : Room := { frames := 7, cells := 1, slots := 6, locals := 103 }
theorem ddL_word : yL_word.cls ≠ "java/lang/invoke/MethodHandle" ∧ yL_word.cls ≠ "java/lang/invoke/VarHandle" ∧ (parseMethodDescriptor yL_word.desc).map (fun d => d.parameters.length) = some 3 := by decide +kernel
theorem kL_word_w : ∀ w ∈ [Cond.classLink RL 25 eI], w ∈ wsL_word := by decide +kernel
set_option maxHeartbeats 4000000 in
set_option maxRecDepth 100000 in
theorem mL_word (l : Launch) (hlt : l.stackTraces = false) (D : va_G) (ad : Nat → Nat) (ci : Nat → ClassId) (A : Nat → Prop) (ao : Nat) (hao : ¬ A ao) (g : Nat → Int64) (σ : St) (mm : Stt) (hI : InvC σ mm) (hR : Rok σ) (a0 : Int32) :
    Met l yL_word wsL_word rmL_word (va_Pc [.ref (ad 0), .int a0, .ref ao] (PreL D ad A ci ao g σ)) (va_Qi (PL (oWord a0 mm)) (PostL D ad ci ao) (AL A ao)) 1 6 (AL A ao) := by
  refine met_ofWH (cc := cL_word) (maxL := 4) (ret := some .int) (hh := [(0, 9, 12, 25)]) (by decide) rfl ?_
  intro p e s m args below meth c s₁ B hml hv
  obtain ⟨rfl, ⟨⟨hP, hK, hD⟩, hE⟩, hO, hN⟩ := hv
  have C0 : CallFix p m c cL_word 4 s _ wsL_word RL := ⟨B.exec, B.bytes, hml, findClass_of_methodNamed B.named, atoms_spec (ws := wsL_word) B.pre⟩
  have hlocks := B.notSynchronized
  have hr := B.returns
  have htab := vx_table (x := yL_word) B (C0.2.2.2.2 _ List.mem_cons_self)
  obtain ⟨hx, hb, -, hown, hts⟩ := id C0
  have hl := lv_entry ([.ref (ad 0), .int a0, .ref ao]) (n := 4) (Nat.le_of_ble_eq_true rfl)
  rw [lg_entry_eq]
  generalize (lg_sl ([.ref (ad 0), .int a0, .ref ao]) ++ List.replicate (4 - (lg_sl ([.ref (ad 0), .int a0, .ref ao])).length) Slot.unset).toArray = ls at hl ⊢
  have hl : lv_has ls 4 [(0, .ref (ad 0)), (1, .int a0), (2, .ref ao)] := hl
  refine lv_aload_n hx hb dL_word_0 rfl (lv_at hl 2 rfl) ?_
  refine lv_iconst (v := 0) hx hb dL_word_1 (by decide) ?_
  refine lv_aload_n hx hb dL_word_2 rfl (lv_at hl 0 rfl) ?_
  refine lv_iload_n hx hb dL_word_3 rfl (lv_at hl 1 rfl) ?_
  refine l_call (E := [eI]) (o := (oWord a0 mm)) (fun _ _ h => h) (vx_runV (As := [.int a0]) (rest := [.int 0, .ref ao]) C0 (mX5_word l hlt D ad ci A σ a0 (KC (oWord a0 mm)) (XC [eI] (oWord a0 mm)) hR (sC_word hI  (OutC_KX _ _))) (cwV 1 hts gL_word_X5_word rfl rfl rfl ddX5_word ⟨Nat.le_of_ble_eq_true rfl, Nat.le_of_ble_eq_true rfl⟩) (l_preX hK hE hP hD) rfl rfl hl.1 rfl (lv_room (Nat.le_of_ble_eq_true rfl)) dL_word_4 ⟨Nat.le_of_ble_eq_true rfl, Nat.le_of_ble_eq_true rfl⟩) hO hao (fun k n ce q9 u H locs h1 h2 h3 h4 hP hO hS hc hv hcl => ?_) (fun u H locs h1 h3 h4 hP hO hS => ?_)
  · rcases k with _ | k
    · obtain rfl : eI = n := Option.some.inj h2
      refine vx_catch (name := eI) hown [] ⟨0, 9, 12, 25⟩ [] (htab.trans rfl) (fun z hz => absurd hz List.not_mem_nil) rfl (by decide) (hts _ (kL_word_w _ (List.mem_of_getElem? (i := 0) rfl))) (va_Nw.use rfl (hN.2 eI (by decide +kernel))) hc hv hcl ?_
      refine lv_astore_n (lv' := [(3, .ref q9), (0, .ref (ad 0)), (1, .int a0), (2, .ref ao)]) hx hb dL_word_12 rfl hl (by decide) rfl (fun ls hl => ?_)
      refine lv_iconst (v := nI 1) hx hb dL_word_13 (by decide) ?_
      exact l_ret hx hb hr hlocks (o := (oWord a0 mm)) (congrArg nI h1.symm) h3 h4 (fun q => absurd (h1.symm.trans q) (Nat.succ_ne_zero _)) hP hO hS dL_word_14
    · simp at h2
  · refine lv_i2l hx hb dL_word_7 rfl ?_
    refine l_store (A := A) hx hb hK hP hO hD hao hS dL_word_8 (fun H locs g hg hP hO hS => ?_)
    refine lv_goto (tgt := 15) hx hb dL_word_9 (by decide) ?_
    refine lv_iconst (v := nI 0) hx hb dL_word_15 (by decide) ?_
    exact l_ret hx hb hr hlocks (o := (oWord a0 mm)) (congrArg nI h1.symm) h3 h4 (fun _ => hg) hP hO hS dL_word_16
abbrev rmL_near : Room := { frames := 7, cells := 1, slots := 6, locals := 109 }
theorem ddL_near : yL_near.cls ≠ "java/lang/invoke/MethodHandle" ∧ yL_near.cls ≠ "java/lang/invoke/VarHandle" ∧ (parseMethodDescriptor yL_near.desc).map (fun d => d.parameters.length) = some 3 := by decide +kernel
theorem kL_near_w : ∀ w ∈ [Cond.classLink RL 13 eA, Cond.classLink RL 31 eN], w ∈ wsL_near := by decide +kernel
set_option maxHeartbeats 4000000 in
set_option maxRecDepth 100000 in
theorem mL_near (l : Launch) (hlt : l.stackTraces = false) (D : va_G) (ad : Nat → Nat) (ci : Nat → ClassId) (A : Nat → Prop) (ao : Nat) (hao : ¬ A ao) (g : Nat → Int64) (σ : St) (mm : Stt) (hI : InvC σ mm) (hR : Rok σ) (q0 : Nat) (hq0 : q0 < 65536) :
    Met l yL_near wsL_near rmL_near (va_Pc [.ref (ad 0), .int (nI q0), .ref ao] (PreL D ad A ci ao g σ)) (va_Qi (PL (oNear q0 mm)) (PostL D ad ci ao) (AL A ao)) 1 6 (AL A ao) := by
  refine met_ofWH (cc := cL_near) (maxL := 4) (ret := some .int) (hh := [(0, 9, 12, 13), (0, 9, 15, 31)]) (by decide) rfl ?_
  intro p e s m args below meth c s₁ B hml hv
  obtain ⟨rfl, ⟨⟨hP, hK, hD⟩, hE⟩, hO, hN⟩ := hv
  have C0 : CallFix p m c cL_near 4 s _ wsL_near RL := ⟨B.exec, B.bytes, hml, findClass_of_methodNamed B.named, atoms_spec (ws := wsL_near) B.pre⟩
  have hlocks := B.notSynchronized
  have hr := B.returns
  have htab := vx_table (x := yL_near) B (C0.2.2.2.2 _ List.mem_cons_self)
  obtain ⟨hx, hb, -, hown, hts⟩ := id C0
  have hl := lv_entry ([.ref (ad 0), .int (nI q0), .ref ao]) (n := 4) (Nat.le_of_ble_eq_true rfl)
  rw [lg_entry_eq]
  generalize (lg_sl ([.ref (ad 0), .int (nI q0), .ref ao]) ++ List.replicate (4 - (lg_sl ([.ref (ad 0), .int (nI q0), .ref ao])).length) Slot.unset).toArray = ls at hl ⊢
  have hl : lv_has ls 4 [(0, .ref (ad 0)), (1, .int (nI q0)), (2, .ref ao)] := hl
  refine lv_aload_n hx hb dL_near_0 rfl (lv_at hl 2 rfl) ?_
  refine lv_iconst (v := 0) hx hb dL_near_1 (by decide) ?_
  refine lv_aload_n hx hb dL_near_2 rfl (lv_at hl 0 rfl) ?_
  refine lv_iload_n hx hb dL_near_3 rfl (lv_at hl 1 rfl) ?_
  refine l_call (E := [eA, eN]) (o := (oNear q0 mm)) (fun _ _ h => h) (vx_runV (As := [.int (nI q0)]) (rest := [.int 0, .ref ao]) C0 (mX5_near l hlt D ad ci A σ (nI q0) (KC (oNear q0 mm)) (XC [eA, eN] (oNear q0 mm)) hR (sC_near hI hq0 (OutC_KX _ _))) (cwV 1 hts gL_near_X5_near rfl rfl rfl ddX5_near ⟨Nat.le_of_ble_eq_true rfl, Nat.le_of_ble_eq_true rfl⟩) (l_preX hK hE hP hD) rfl rfl hl.1 rfl (lv_room (Nat.le_of_ble_eq_true rfl)) dL_near_4 ⟨Nat.le_of_ble_eq_true rfl, Nat.le_of_ble_eq_true rfl⟩) hO hao (fun k n ce q9 u H locs h1 h2 h3 h4 hP hO hS hc hv hcl => ?_) (fun u H locs h1 h3 h4 hP hO hS => ?_)
  · rcases k with _ | _ | k
    · obtain rfl : eA = n := Option.some.inj h2
      refine vx_catch (name := eA) hown [] ⟨0, 9, 12, 13⟩ [⟨0, 9, 15, 31⟩] (htab.trans rfl) (fun z hz => absurd hz List.not_mem_nil) rfl (by decide) (hts _ (kL_near_w _ (List.mem_of_getElem? (i := 0) rfl))) (va_Nw.use rfl (hN.2 eA (by decide +kernel))) hc hv hcl ?_
      refine lv_astore_n (lv' := [(3, .ref q9), (0, .ref (ad 0)), (1, .int (nI q0)), (2, .ref ao)]) hx hb dL_near_12 rfl hl (by decide) rfl (fun ls hl => ?_)
      refine lv_iconst (v := nI 1) hx hb dL_near_13 (by decide) ?_
      exact l_ret hx hb hr hlocks (o := (oNear q0 mm)) (congrArg nI h1.symm) h3 h4 (fun q => absurd (h1.symm.trans q) (Nat.succ_ne_zero _)) hP hO hS dL_near_14
    · obtain rfl : eN = n := Option.some.inj h2
      refine vx_catch (name := eN) hown [⟨0, 9, 12, 13⟩] ⟨0, 9, 15, 31⟩ [] (htab.trans rfl) (fun z hz => by
        obtain rfl := List.mem_singleton.mp hz
        exact Or.inr ⟨by decide, eA, hts _ (kL_near_w _ (List.mem_of_getElem? (i := 0) rfl)), hN.1 (eN, eA) (by decide +kernel)⟩) rfl (by decide) (hts _ (kL_near_w _ (List.mem_of_getElem? (i := 1) rfl))) (va_Nw.use rfl (hN.2 eN (by decide +kernel))) hc hv hcl ?_
      refine lv_astore_n (lv' := [(3, .ref q9), (0, .ref (ad 0)), (1, .int (nI q0)), (2, .ref ao)]) hx hb dL_near_15 rfl hl (by decide) rfl (fun ls hl => ?_)
      refine lv_iconst (v := nI 2) hx hb dL_near_16 (by decide) ?_
      exact l_ret hx hb hr hlocks (o := (oNear q0 mm)) (congrArg nI h1.symm) h3 h4 (fun q => absurd (h1.symm.trans q) (Nat.succ_ne_zero _)) hP hO hS dL_near_17
    · simp at h2
  · refine lv_i2l hx hb dL_near_7 rfl ?_
    refine l_store (A := A) hx hb hK hP hO hD hao hS dL_near_8 (fun H locs g hg hP hO hS => ?_)
    refine lv_goto (tgt := 18) hx hb dL_near_9 (by decide) ?_
    refine lv_iconst (v := nI 0) hx hb dL_near_18 (by decide) ?_
    exact l_ret hx hb hr hlocks (o := (oNear q0 mm)) (congrArg nI h1.symm) h3 h4 (fun _ => hg) hP hO hS dL_near_19
abbrev rmL_begunAt : Room := { frames := 7, cells := 1, slots := 6, locals := 104 }
theorem ddL_begunAt : yL_begunAt.cls ≠ "java/lang/invoke/MethodHandle" ∧ yL_begunAt.cls ≠ "java/lang/invoke/VarHandle" ∧ (parseMethodDescriptor yL_begunAt.desc).map (fun d => d.parameters.length) = some 3 := by decide +kernel
theorem kL_begunAt_w : ∀ w ∈ [Cond.classLink RL 31 eN], w ∈ wsL_begunAt := by decide +kernel
set_option maxHeartbeats 4000000 in
set_option maxRecDepth 100000 in
theorem mL_begunAt (l : Launch) (hlt : l.stackTraces = false) (D : va_G) (ad : Nat → Nat) (ci : Nat → ClassId) (A : Nat → Prop) (ao : Nat) (hao : ¬ A ao) (g : Nat → Int64) (σ : St) (mm : Stt) (hI : InvC σ mm) (hR : Rok σ) (a0 : Int32) :
    Met l yL_begunAt wsL_begunAt rmL_begunAt (va_Pc [.ref (ad 0), .int a0, .ref ao] (PreL D ad A ci ao g σ)) (va_Qi (PL (oBegunAt a0 mm)) (PostL D ad ci ao) (AL A ao)) 1 6 (AL A ao) := by
  refine met_ofWH (cc := cL_begunAt) (maxL := 4) (ret := some .int) (hh := [(0, 9, 12, 31)]) (by decide) rfl ?_
  intro p e s m args below meth c s₁ B hml hv
  obtain ⟨rfl, ⟨⟨hP, hK, hD⟩, hE⟩, hO, hN⟩ := hv
  have C0 : CallFix p m c cL_begunAt 4 s _ wsL_begunAt RL := ⟨B.exec, B.bytes, hml, findClass_of_methodNamed B.named, atoms_spec (ws := wsL_begunAt) B.pre⟩
  have hlocks := B.notSynchronized
  have hr := B.returns
  have htab := vx_table (x := yL_begunAt) B (C0.2.2.2.2 _ List.mem_cons_self)
  obtain ⟨hx, hb, -, hown, hts⟩ := id C0
  have hl := lv_entry ([.ref (ad 0), .int a0, .ref ao]) (n := 4) (Nat.le_of_ble_eq_true rfl)
  rw [lg_entry_eq]
  generalize (lg_sl ([.ref (ad 0), .int a0, .ref ao]) ++ List.replicate (4 - (lg_sl ([.ref (ad 0), .int a0, .ref ao])).length) Slot.unset).toArray = ls at hl ⊢
  have hl : lv_has ls 4 [(0, .ref (ad 0)), (1, .int a0), (2, .ref ao)] := hl
  refine lv_aload_n hx hb dL_begunAt_0 rfl (lv_at hl 2 rfl) ?_
  refine lv_iconst (v := 0) hx hb dL_begunAt_1 (by decide) ?_
  refine lv_aload_n hx hb dL_begunAt_2 rfl (lv_at hl 0 rfl) ?_
  refine lv_iload_n hx hb dL_begunAt_3 rfl (lv_at hl 1 rfl) ?_
  refine l_call (E := [eN]) (o := (oBegunAt a0 mm)) (fun _ _ h => h) (vx_runV (As := [.int a0]) (rest := [.int 0, .ref ao]) C0 (mX5_begunAt l hlt D ad ci A σ a0 (KC (oBegunAt a0 mm)) (XC [eN] (oBegunAt a0 mm)) hR (sC_begunAt hI  (OutC_KX _ _))) (cwV 1 hts gL_begunAt_X5_begunAt rfl rfl rfl ddX5_begunAt ⟨Nat.le_of_ble_eq_true rfl, Nat.le_of_ble_eq_true rfl⟩) (l_preX hK hE hP hD) rfl rfl hl.1 rfl (lv_room (Nat.le_of_ble_eq_true rfl)) dL_begunAt_4 ⟨Nat.le_of_ble_eq_true rfl, Nat.le_of_ble_eq_true rfl⟩) hO hao (fun k n ce q9 u H locs h1 h2 h3 h4 hP hO hS hc hv hcl => ?_) (fun u H locs h1 h3 h4 hP hO hS => ?_)
  · rcases k with _ | k
    · obtain rfl : eN = n := Option.some.inj h2
      refine vx_catch (name := eN) hown [] ⟨0, 9, 12, 31⟩ [] (htab.trans rfl) (fun z hz => absurd hz List.not_mem_nil) rfl (by decide) (hts _ (kL_begunAt_w _ (List.mem_of_getElem? (i := 0) rfl))) (va_Nw.use rfl (hN.2 eN (by decide +kernel))) hc hv hcl ?_
      refine lv_astore_n (lv' := [(3, .ref q9), (0, .ref (ad 0)), (1, .int a0), (2, .ref ao)]) hx hb dL_begunAt_12 rfl hl (by decide) rfl (fun ls hl => ?_)
      refine lv_iconst (v := nI 1) hx hb dL_begunAt_13 (by decide) ?_
      exact l_ret hx hb hr hlocks (o := (oBegunAt a0 mm)) (congrArg nI h1.symm) h3 h4 (fun q => absurd (h1.symm.trans q) (Nat.succ_ne_zero _)) hP hO hS dL_begunAt_14
    · simp at h2
  · refine lv_i2l hx hb dL_begunAt_7 rfl ?_
    refine l_store (A := A) hx hb hK hP hO hD hao hS dL_begunAt_8 (fun H locs g hg hP hO hS => ?_)
    refine lv_goto (tgt := 15) hx hb dL_begunAt_9 (by decide) ?_
    refine lv_iconst (v := nI 0) hx hb dL_begunAt_15 (by decide) ?_
    exact l_ret hx hb hr hlocks (o := (oBegunAt a0 mm)) (congrArg nI h1.symm) h3 h4 (fun _ => hg) hP hO hS dL_begunAt_16
abbrev rmL_longest : Room := { frames := 7, cells := 1, slots := 6, locals := 103 }
theorem ddL_longest : yL_longest.cls ≠ "java/lang/invoke/MethodHandle" ∧ yL_longest.cls ≠ "java/lang/invoke/VarHandle" ∧ (parseMethodDescriptor yL_longest.desc).map (fun d => d.parameters.length) = some 3 := by decide +kernel
theorem kL_longest_w : ∀ w ∈ [Cond.classLink RL 25 eI], w ∈ wsL_longest := by decide +kernel
set_option maxHeartbeats 4000000 in
set_option maxRecDepth 100000 in
theorem mL_longest (l : Launch) (hlt : l.stackTraces = false) (D : va_G) (ad : Nat → Nat) (ci : Nat → ClassId) (A : Nat → Prop) (ao : Nat) (hao : ¬ A ao) (g : Nat → Int64) (σ : St) (mm : Stt) (hI : InvC σ mm) (hR : Rok σ) (a0 : Int32) :
    Met l yL_longest wsL_longest rmL_longest (va_Pc [.ref (ad 0), .int a0, .ref ao] (PreL D ad A ci ao g σ)) (va_Qi (PL (oLongest a0 mm)) (PostL D ad ci ao) (AL A ao)) 1 6 (AL A ao) := by
  refine met_ofWH (cc := cL_longest) (maxL := 4) (ret := some .int) (hh := [(0, 9, 12, 25)]) (by decide) rfl ?_
  intro p e s m args below meth c s₁ B hml hv
  obtain ⟨rfl, ⟨⟨hP, hK, hD⟩, hE⟩, hO, hN⟩ := hv
  have C0 : CallFix p m c cL_longest 4 s _ wsL_longest RL := ⟨B.exec, B.bytes, hml, findClass_of_methodNamed B.named, atoms_spec (ws := wsL_longest) B.pre⟩
  have hlocks := B.notSynchronized
  have hr := B.returns
  have htab := vx_table (x := yL_longest) B (C0.2.2.2.2 _ List.mem_cons_self)
  obtain ⟨hx, hb, -, hown, hts⟩ := id C0
  have hl := lv_entry ([.ref (ad 0), .int a0, .ref ao]) (n := 4) (Nat.le_of_ble_eq_true rfl)
  rw [lg_entry_eq]
  generalize (lg_sl ([.ref (ad 0), .int a0, .ref ao]) ++ List.replicate (4 - (lg_sl ([.ref (ad 0), .int a0, .ref ao])).length) Slot.unset).toArray = ls at hl ⊢
  have hl : lv_has ls 4 [(0, .ref (ad 0)), (1, .int a0), (2, .ref ao)] := hl
  refine lv_aload_n hx hb dL_longest_0 rfl (lv_at hl 2 rfl) ?_
  refine lv_iconst (v := 0) hx hb dL_longest_1 (by decide) ?_
  refine lv_aload_n hx hb dL_longest_2 rfl (lv_at hl 0 rfl) ?_
  refine lv_iload_n hx hb dL_longest_3 rfl (lv_at hl 1 rfl) ?_
  refine l_call (E := [eI]) (o := (oLongest a0 mm)) (fun _ _ h => h) (vx_runV (As := [.int a0]) (rest := [.int 0, .ref ao]) C0 (mX5_longest l hlt D ad ci A σ a0 (KC (oLongest a0 mm)) (XC [eI] (oLongest a0 mm)) hR (sC_longest hI  (OutC_KX _ _))) (cwV 1 hts gL_longest_X5_longest rfl rfl rfl ddX5_longest ⟨Nat.le_of_ble_eq_true rfl, Nat.le_of_ble_eq_true rfl⟩) (l_preX hK hE hP hD) rfl rfl hl.1 rfl (lv_room (Nat.le_of_ble_eq_true rfl)) dL_longest_4 ⟨Nat.le_of_ble_eq_true rfl, Nat.le_of_ble_eq_true rfl⟩) hO hao (fun k n ce q9 u H locs h1 h2 h3 h4 hP hO hS hc hv hcl => ?_) (fun u H locs h1 h3 h4 hP hO hS => ?_)
  · rcases k with _ | k
    · obtain rfl : eI = n := Option.some.inj h2
      refine vx_catch (name := eI) hown [] ⟨0, 9, 12, 25⟩ [] (htab.trans rfl) (fun z hz => absurd hz List.not_mem_nil) rfl (by decide) (hts _ (kL_longest_w _ (List.mem_of_getElem? (i := 0) rfl))) (va_Nw.use rfl (hN.2 eI (by decide +kernel))) hc hv hcl ?_
      refine lv_astore_n (lv' := [(3, .ref q9), (0, .ref (ad 0)), (1, .int a0), (2, .ref ao)]) hx hb dL_longest_12 rfl hl (by decide) rfl (fun ls hl => ?_)
      refine lv_iconst (v := nI 1) hx hb dL_longest_13 (by decide) ?_
      exact l_ret hx hb hr hlocks (o := (oLongest a0 mm)) (congrArg nI h1.symm) h3 h4 (fun q => absurd (h1.symm.trans q) (Nat.succ_ne_zero _)) hP hO hS dL_longest_14
    · simp at h2
  · refine lv_i2l hx hb dL_longest_7 rfl ?_
    refine l_store (A := A) hx hb hK hP hO hD hao hS dL_longest_8 (fun H locs g hg hP hO hS => ?_)
    refine lv_goto (tgt := 15) hx hb dL_longest_9 (by decide) ?_
    refine lv_iconst (v := nI 0) hx hb dL_longest_15 (by decide) ?_
    exact l_ret hx hb hr hlocks (o := (oLongest a0 mm)) (congrArg nI h1.symm) h3 h4 (fun _ => hg) hP hO hS dL_longest_16
abbrev rmL_twin : Room := { frames := 7, cells := 1, slots := 6, locals := 102 }
theorem ddL_twin : yL_twin.cls ≠ "java/lang/invoke/MethodHandle" ∧ yL_twin.cls ≠ "java/lang/invoke/VarHandle" ∧ (parseMethodDescriptor yL_twin.desc).map (fun d => d.parameters.length) = some 2 := by decide +kernel
theorem kL_twin_w : ∀ w ∈ [Cond.classLink RL 31 eN], w ∈ wsL_twin := by decide +kernel
set_option maxHeartbeats 4000000 in
set_option maxRecDepth 100000 in
theorem mL_twin (l : Launch) (hlt : l.stackTraces = false) (D : va_G) (ad : Nat → Nat) (ci : Nat → ClassId) (A : Nat → Prop) (ao : Nat) (hao : ¬ A ao) (g : Nat → Int64) (σ : St) (mm : Stt) (hI : InvC σ mm) (hR : Rok σ)  :
    Met l yL_twin wsL_twin rmL_twin (va_Pc [.ref (ad 0), .ref ao] (PreL D ad A ci ao g σ)) (va_Qi (PL (oTwin mm)) (PostL D ad ci ao) (AL A ao)) 1 6 (AL A ao) := by
  refine met_ofWH (cc := cL_twin) (maxL := 3) (ret := some .int) (hh := [(0, 8, 11, 31)]) (by decide) rfl ?_
  intro p e s m args below meth c s₁ B hml hv
  obtain ⟨rfl, ⟨⟨hP, hK, hD⟩, hE⟩, hO, hN⟩ := hv
  have C0 : CallFix p m c cL_twin 3 s _ wsL_twin RL := ⟨B.exec, B.bytes, hml, findClass_of_methodNamed B.named, atoms_spec (ws := wsL_twin) B.pre⟩
  have hlocks := B.notSynchronized
  have hr := B.returns
  have htab := vx_table (x := yL_twin) B (C0.2.2.2.2 _ List.mem_cons_self)
  obtain ⟨hx, hb, -, hown, hts⟩ := id C0
  have hl := lv_entry ([.ref (ad 0), .ref ao]) (n := 3) (Nat.le_of_ble_eq_true rfl)
  rw [lg_entry_eq]
  generalize (lg_sl ([.ref (ad 0), .ref ao]) ++ List.replicate (3 - (lg_sl ([.ref (ad 0), .ref ao])).length) Slot.unset).toArray = ls at hl ⊢
  have hl : lv_has ls 3 [(0, .ref (ad 0)), (1, .ref ao)] := hl
  refine lv_aload_n hx hb dL_twin_0 rfl (lv_at hl 1 rfl) ?_
  refine lv_iconst (v := 0) hx hb dL_twin_1 (by decide) ?_
  refine lv_aload_n hx hb dL_twin_2 rfl (lv_at hl 0 rfl) ?_
  refine l_call (E := [eN]) (o := (oTwin mm)) (fun _ _ h => h) (vx_runV (As := []) (rest := [.int 0, .ref ao]) C0 (mX5_twin l hlt D ad ci A σ  (KC (oTwin mm)) (XC [eN] (oTwin mm)) hR (sC_twin hI  (OutC_KX _ _))) (cwV 0 hts gL_twin_X5_twin rfl rfl rfl ddX5_twin ⟨Nat.le_of_ble_eq_true rfl, Nat.le_of_ble_eq_true rfl⟩) (l_preX hK hE hP hD) rfl rfl hl.1 rfl (lv_room (Nat.le_of_ble_eq_true rfl)) dL_twin_3 ⟨Nat.le_of_ble_eq_true rfl, Nat.le_of_ble_eq_true rfl⟩) hO hao (fun k n ce q9 u H locs h1 h2 h3 h4 hP hO hS hc hv hcl => ?_) (fun u H locs h1 h3 h4 hP hO hS => ?_)
  · rcases k with _ | k
    · obtain rfl : eN = n := Option.some.inj h2
      refine vx_catch (name := eN) hown [] ⟨0, 8, 11, 31⟩ [] (htab.trans rfl) (fun z hz => absurd hz List.not_mem_nil) rfl (by decide) (hts _ (kL_twin_w _ (List.mem_of_getElem? (i := 0) rfl))) (va_Nw.use rfl (hN.2 eN (by decide +kernel))) hc hv hcl ?_
      refine lv_astore_n (lv' := [(2, .ref q9), (0, .ref (ad 0)), (1, .ref ao)]) hx hb dL_twin_11 rfl hl (by decide) rfl (fun ls hl => ?_)
      refine lv_iconst (v := nI 1) hx hb dL_twin_12 (by decide) ?_
      exact l_ret hx hb hr hlocks (o := (oTwin mm)) (congrArg nI h1.symm) h3 h4 (fun q => absurd (h1.symm.trans q) (Nat.succ_ne_zero _)) hP hO hS dL_twin_13
    · simp at h2
  · refine lv_i2l hx hb dL_twin_6 rfl ?_
    refine l_store (A := A) hx hb hK hP hO hD hao hS dL_twin_7 (fun H locs g hg hP hO hS => ?_)
    refine lv_goto (tgt := 14) hx hb dL_twin_8 (by decide) ?_
    refine lv_iconst (v := nI 0) hx hb dL_twin_14 (by decide) ?_
    exact l_ret hx hb hr hlocks (o := (oTwin mm)) (congrArg nI h1.symm) h3 h4 (fun _ => hg) hP hO hS dL_twin_15
abbrev rmL_piece : Room := { frames := 7, cells := 1, slots := 6, locals := 104 }
theorem ddL_piece : yL_piece.cls ≠ "java/lang/invoke/MethodHandle" ∧ yL_piece.cls ≠ "java/lang/invoke/VarHandle" ∧ (parseMethodDescriptor yL_piece.desc).map (fun d => d.parameters.length) = some 3 := by decide +kernel
theorem kL_piece_w : ∀ w ∈ [Cond.classLink RL 31 eN], w ∈ wsL_piece := by decide +kernel
set_option maxHeartbeats 4000000 in
set_option maxRecDepth 100000 in
theorem mL_piece (l : Launch) (hlt : l.stackTraces = false) (D : va_G) (ad : Nat → Nat) (ci : Nat → ClassId) (A : Nat → Prop) (ao : Nat) (hao : ¬ A ao) (g : Nat → Int64) (σ : St) (mm : Stt) (hI : InvC σ mm) (hR : Rok σ) (a0 : Int32) :
    Met l yL_piece wsL_piece rmL_piece (va_Pc [.ref (ad 0), .int a0, .ref ao] (PreL D ad A ci ao g σ)) (va_Qi (PL (oPiece a0 mm)) (PostL D ad ci ao) (AL A ao)) 1 6 (AL A ao) := by
  refine met_ofWH (cc := cL_piece) (maxL := 4) (ret := some .int) (hh := [(0, 9, 12, 31)]) (by decide) rfl ?_
  intro p e s m args below meth c s₁ B hml hv
  obtain ⟨rfl, ⟨⟨hP, hK, hD⟩, hE⟩, hO, hN⟩ := hv
  have C0 : CallFix p m c cL_piece 4 s _ wsL_piece RL := ⟨B.exec, B.bytes, hml, findClass_of_methodNamed B.named, atoms_spec (ws := wsL_piece) B.pre⟩
  have hlocks := B.notSynchronized
  have hr := B.returns
  have htab := vx_table (x := yL_piece) B (C0.2.2.2.2 _ List.mem_cons_self)
  obtain ⟨hx, hb, -, hown, hts⟩ := id C0
  have hl := lv_entry ([.ref (ad 0), .int a0, .ref ao]) (n := 4) (Nat.le_of_ble_eq_true rfl)
  rw [lg_entry_eq]
  generalize (lg_sl ([.ref (ad 0), .int a0, .ref ao]) ++ List.replicate (4 - (lg_sl ([.ref (ad 0), .int a0, .ref ao])).length) Slot.unset).toArray = ls at hl ⊢
  have hl : lv_has ls 4 [(0, .ref (ad 0)), (1, .int a0), (2, .ref ao)] := hl
  refine lv_aload_n hx hb dL_piece_0 rfl (lv_at hl 2 rfl) ?_
  refine lv_iconst (v := 0) hx hb dL_piece_1 (by decide) ?_
  refine lv_aload_n hx hb dL_piece_2 rfl (lv_at hl 0 rfl) ?_
  refine lv_iload_n hx hb dL_piece_3 rfl (lv_at hl 1 rfl) ?_
  refine l_call (E := [eN]) (o := (oPiece a0 mm)) (fun _ _ h => h) (vx_runV (As := [.int a0]) (rest := [.int 0, .ref ao]) C0 (mX5_piece l hlt D ad ci A σ a0 (KC (oPiece a0 mm)) (XC [eN] (oPiece a0 mm)) hR (sC_piece hI  (OutC_KX _ _))) (cwV 1 hts gL_piece_X5_piece rfl rfl rfl ddX5_piece ⟨Nat.le_of_ble_eq_true rfl, Nat.le_of_ble_eq_true rfl⟩) (l_preX hK hE hP hD) rfl rfl hl.1 rfl (lv_room (Nat.le_of_ble_eq_true rfl)) dL_piece_4 ⟨Nat.le_of_ble_eq_true rfl, Nat.le_of_ble_eq_true rfl⟩) hO hao (fun k n ce q9 u H locs h1 h2 h3 h4 hP hO hS hc hv hcl => ?_) (fun u H locs h1 h3 h4 hP hO hS => ?_)
  · rcases k with _ | k
    · obtain rfl : eN = n := Option.some.inj h2
      refine vx_catch (name := eN) hown [] ⟨0, 9, 12, 31⟩ [] (htab.trans rfl) (fun z hz => absurd hz List.not_mem_nil) rfl (by decide) (hts _ (kL_piece_w _ (List.mem_of_getElem? (i := 0) rfl))) (va_Nw.use rfl (hN.2 eN (by decide +kernel))) hc hv hcl ?_
      refine lv_astore_n (lv' := [(3, .ref q9), (0, .ref (ad 0)), (1, .int a0), (2, .ref ao)]) hx hb dL_piece_12 rfl hl (by decide) rfl (fun ls hl => ?_)
      refine lv_iconst (v := nI 1) hx hb dL_piece_13 (by decide) ?_
      exact l_ret hx hb hr hlocks (o := (oPiece a0 mm)) (congrArg nI h1.symm) h3 h4 (fun q => absurd (h1.symm.trans q) (Nat.succ_ne_zero _)) hP hO hS dL_piece_14
    · simp at h2
  · refine lv_i2l hx hb dL_piece_7 rfl ?_
    refine l_store (A := A) hx hb hK hP hO hD hao hS dL_piece_8 (fun H locs g hg hP hO hS => ?_)
    refine lv_goto (tgt := 15) hx hb dL_piece_9 (by decide) ?_
    refine lv_iconst (v := nI 0) hx hb dL_piece_15 (by decide) ?_
    exact l_ret hx hb hr hlocks (o := (oPiece a0 mm)) (congrArg nI h1.symm) h3 h4 (fun _ => hg) hP hO hS dL_piece_16
abbrev rmL_code : Room := { frames := 7, cells := 1, slots := 6, locals := 105 }
theorem ddL_code : yL_code.cls ≠ "java/lang/invoke/MethodHandle" ∧ yL_code.cls ≠ "java/lang/invoke/VarHandle" ∧ (parseMethodDescriptor yL_code.desc).map (fun d => d.parameters.length) = some 3 := by decide +kernel
theorem kL_code_w : ∀ w ∈ [Cond.classLink RL 13 eA, Cond.classLink RL 44 eU], w ∈ wsL_code := by decide +kernel
set_option maxHeartbeats 4000000 in
set_option maxRecDepth 100000 in
theorem mL_code (l : Launch) (hlt : l.stackTraces = false) (D : va_G) (ad : Nat → Nat) (ci : Nat → ClassId) (A : Nat → Prop) (ao : Nat) (hao : ¬ A ao) (g : Nat → Int64) (σ : St) (mm : Stt) (hI : InvC σ mm) (hR : Rok σ) (q0 : Nat) (hq0 : q0 < 65536) :
    Met l yL_code wsL_code rmL_code (va_Pc [.ref (ad 0), .int (nI q0), .ref ao] (PreL D ad A ci ao g σ)) (va_Qi (PL (oCode q0 mm)) (PostL D ad ci ao) (AL A ao)) 1 6 (AL A ao) := by
  refine met_ofWH (cc := cL_code) (maxL := 4) (ret := some .int) (hh := [(0, 9, 12, 13), (0, 9, 15, 44)]) (by decide) rfl ?_
  intro p e s m args below meth c s₁ B hml hv
  obtain ⟨rfl, ⟨⟨hP, hK, hD⟩, hE⟩, hO, hN⟩ := hv
  have C0 : CallFix p m c cL_code 4 s _ wsL_code RL := ⟨B.exec, B.bytes, hml, findClass_of_methodNamed B.named, atoms_spec (ws := wsL_code) B.pre⟩
  have hlocks := B.notSynchronized
  have hr := B.returns
  have htab := vx_table (x := yL_code) B (C0.2.2.2.2 _ List.mem_cons_self)
  obtain ⟨hx, hb, -, hown, hts⟩ := id C0
  have hl := lv_entry ([.ref (ad 0), .int (nI q0), .ref ao]) (n := 4) (Nat.le_of_ble_eq_true rfl)
  rw [lg_entry_eq]
  generalize (lg_sl ([.ref (ad 0), .int (nI q0), .ref ao]) ++ List.replicate (4 - (lg_sl ([.ref (ad 0), .int (nI q0), .ref ao])).length) Slot.unset).toArray = ls at hl ⊢
  have hl : lv_has ls 4 [(0, .ref (ad 0)), (1, .int (nI q0)), (2, .ref ao)] := hl
  refine lv_aload_n hx hb dL_code_0 rfl (lv_at hl 2 rfl) ?_
  refine lv_iconst (v := 0) hx hb dL_code_1 (by decide) ?_
  refine lv_aload_n hx hb dL_code_2 rfl (lv_at hl 0 rfl) ?_
  refine lv_iload_n hx hb dL_code_3 rfl (lv_at hl 1 rfl) ?_
  refine l_call (E := [eA, eU]) (o := (oCode q0 mm)) (fun _ _ h => h) (vx_runV (As := [.int (nI q0)]) (rest := [.int 0, .ref ao]) C0 (mX5_code l hlt D ad ci A σ (nI q0) (KC (oCode q0 mm)) (XC [eA, eU] (oCode q0 mm)) hR (sC_code hI hq0 (OutC_KX _ _))) (cwV 1 hts gL_code_X5_code rfl rfl rfl ddX5_code ⟨Nat.le_of_ble_eq_true rfl, Nat.le_of_ble_eq_true rfl⟩) (l_preX hK hE hP hD) rfl rfl hl.1 rfl (lv_room (Nat.le_of_ble_eq_true rfl)) dL_code_4 ⟨Nat.le_of_ble_eq_true rfl, Nat.le_of_ble_eq_true rfl⟩) hO hao (fun k n ce q9 u H locs h1 h2 h3 h4 hP hO hS hc hv hcl => ?_) (fun u H locs h1 h3 h4 hP hO hS => ?_)
  · rcases k with _ | _ | k
    · obtain rfl : eA = n := Option.some.inj h2
      refine vx_catch (name := eA) hown [] ⟨0, 9, 12, 13⟩ [⟨0, 9, 15, 44⟩] (htab.trans rfl) (fun z hz => absurd hz List.not_mem_nil) rfl (by decide) (hts _ (kL_code_w _ (List.mem_of_getElem? (i := 0) rfl))) (va_Nw.use rfl (hN.2 eA (by decide +kernel))) hc hv hcl ?_
      refine lv_astore_n (lv' := [(3, .ref q9), (0, .ref (ad 0)), (1, .int (nI q0)), (2, .ref ao)]) hx hb dL_code_12 rfl hl (by decide) rfl (fun ls hl => ?_)
      refine lv_iconst (v := nI 1) hx hb dL_code_13 (by decide) ?_
      exact l_ret hx hb hr hlocks (o := (oCode q0 mm)) (congrArg nI h1.symm) h3 h4 (fun q => absurd (h1.symm.trans q) (Nat.succ_ne_zero _)) hP hO hS dL_code_14
    · obtain rfl : eU = n := Option.some.inj h2
      refine vx_catch (name := eU) hown [⟨0, 9, 12, 13⟩] ⟨0, 9, 15, 44⟩ [] (htab.trans rfl) (fun z hz => by
        obtain rfl := List.mem_singleton.mp hz
        exact Or.inr ⟨by decide, eA, hts _ (kL_code_w _ (List.mem_of_getElem? (i := 0) rfl)), hN.1 (eU, eA) (by decide +kernel)⟩) rfl (by decide) (hts _ (kL_code_w _ (List.mem_of_getElem? (i := 1) rfl))) (va_Nw.use rfl (hN.2 eU (by decide +kernel))) hc hv hcl ?_
      refine lv_astore_n (lv' := [(3, .ref q9), (0, .ref (ad 0)), (1, .int (nI q0)), (2, .ref ao)]) hx hb dL_code_15 rfl hl (by decide) rfl (fun ls hl => ?_)
      refine lv_iconst (v := nI 2) hx hb dL_code_16 (by decide) ?_
      exact l_ret hx hb hr hlocks (o := (oCode q0 mm)) (congrArg nI h1.symm) h3 h4 (fun q => absurd (h1.symm.trans q) (Nat.succ_ne_zero _)) hP hO hS dL_code_17
    · simp at h2
  · refine lv_i2l hx hb dL_code_7 rfl ?_
    refine l_store (A := A) hx hb hK hP hO hD hao hS dL_code_8 (fun H locs g hg hP hO hS => ?_)
    refine lv_goto (tgt := 18) hx hb dL_code_9 (by decide) ?_
    refine lv_iconst (v := nI 0) hx hb dL_code_18 (by decide) ?_
    exact l_ret hx hb hr hlocks (o := (oCode q0 mm)) (congrArg nI h1.symm) h3 h4 (fun _ => hg) hP hO hS dL_code_19
abbrev rmL_write : Room := { frames := 7, cells := 1, slots := 6, locals := 102 }
theorem ddL_write : yL_write.cls ≠ "java/lang/invoke/MethodHandle" ∧ yL_write.cls ≠ "java/lang/invoke/VarHandle" ∧ (parseMethodDescriptor yL_write.desc).map (fun d => d.parameters.length) = some 2 := by decide +kernel
theorem kL_write_w : ∀ w ∈ [Cond.classLink RL 15 eS], w ∈ wsL_write := by decide +kernel
set_option maxHeartbeats 4000000 in
set_option maxRecDepth 100000 in
theorem mL_write (l : Launch) (hlt : l.stackTraces = false) (D : va_G) (ad : Nat → Nat) (ci : Nat → ClassId) (A : Nat → Prop) (ao : Nat) (hao : ¬ A ao) (g : Nat → Int64) (σ : St) (mm : Stt) (hI : InvC σ mm) (hR : Rok σ)  :
    Met l yL_write wsL_write rmL_write (va_Pc [.ref (ad 0), .ref ao] (PreL D ad A ci ao g σ)) (va_Qi (PL (oWrite mm)) (PostL D ad ci ao) (AL A ao)) 1 6 (AL A ao) := by
  refine met_ofWH (cc := cL_write) (maxL := 3) (ret := some .int) (hh := [(0, 8, 11, 15)]) (by decide) rfl ?_
  intro p e s m args below meth c s₁ B hml hv
  obtain ⟨rfl, ⟨⟨hP, hK, hD⟩, hE⟩, hO, hN⟩ := hv
  have C0 : CallFix p m c cL_write 3 s _ wsL_write RL := ⟨B.exec, B.bytes, hml, findClass_of_methodNamed B.named, atoms_spec (ws := wsL_write) B.pre⟩
  have hlocks := B.notSynchronized
  have hr := B.returns
  have htab := vx_table (x := yL_write) B (C0.2.2.2.2 _ List.mem_cons_self)
  obtain ⟨hx, hb, -, hown, hts⟩ := id C0
  have hl := lv_entry ([.ref (ad 0), .ref ao]) (n := 3) (Nat.le_of_ble_eq_true rfl)
  rw [lg_entry_eq]
  generalize (lg_sl ([.ref (ad 0), .ref ao]) ++ List.replicate (3 - (lg_sl ([.ref (ad 0), .ref ao])).length) Slot.unset).toArray = ls at hl ⊢
  have hl : lv_has ls 3 [(0, .ref (ad 0)), (1, .ref ao)] := hl
  refine lv_aload_n hx hb dL_write_0 rfl (lv_at hl 1 rfl) ?_
  refine lv_iconst (v := 0) hx hb dL_write_1 (by decide) ?_
  refine lv_aload_n hx hb dL_write_2 rfl (lv_at hl 0 rfl) ?_
  refine l_call (E := [eS]) (o := (oWrite mm)) (fun _ _ h => h) (vx_runV (As := []) (rest := [.int 0, .ref ao]) C0 (mX5_write l hlt D ad ci A σ  (KC (oWrite mm)) (XC [eS] (oWrite mm)) hR (sC_write hI  (OutC_KX _ _))) (cwV 0 hts gL_write_X5_write rfl rfl rfl ddX5_write ⟨Nat.le_of_ble_eq_true rfl, Nat.le_of_ble_eq_true rfl⟩) (l_preX hK hE hP hD) rfl rfl hl.1 rfl (lv_room (Nat.le_of_ble_eq_true rfl)) dL_write_3 ⟨Nat.le_of_ble_eq_true rfl, Nat.le_of_ble_eq_true rfl⟩) hO hao (fun k n ce q9 u H locs h1 h2 h3 h4 hP hO hS hc hv hcl => ?_) (fun u H locs h1 h3 h4 hP hO hS => ?_)
  · rcases k with _ | k
    · obtain rfl : eS = n := Option.some.inj h2
      refine vx_catch (name := eS) hown [] ⟨0, 8, 11, 15⟩ [] (htab.trans rfl) (fun z hz => absurd hz List.not_mem_nil) rfl (by decide) (hts _ (kL_write_w _ (List.mem_of_getElem? (i := 0) rfl))) (va_Nw.use rfl (hN.2 eS (by decide +kernel))) hc hv hcl ?_
      refine lv_astore_n (lv' := [(2, .ref q9), (0, .ref (ad 0)), (1, .ref ao)]) hx hb dL_write_11 rfl hl (by decide) rfl (fun ls hl => ?_)
      refine lv_iconst (v := nI 1) hx hb dL_write_12 (by decide) ?_
      exact l_ret hx hb hr hlocks (o := (oWrite mm)) (congrArg nI h1.symm) h3 h4 (fun q => absurd (h1.symm.trans q) (Nat.succ_ne_zero _)) hP hO hS dL_write_13
    · simp at h2
  · refine lv_i2l hx hb dL_write_6 rfl ?_
    refine l_store (A := A) hx hb hK hP hO hD hao hS dL_write_7 (fun H locs g hg hP hO hS => ?_)
    refine lv_goto (tgt := 14) hx hb dL_write_8 (by decide) ?_
    refine lv_iconst (v := nI 0) hx hb dL_write_14 (by decide) ?_
    exact l_ret hx hb hr hlocks (o := (oWrite mm)) (congrArg nI h1.symm) h3 h4 (fun _ => hg) hP hO hS dL_write_15
abbrev rmL_read : Room := { frames := 7, cells := 1, slots := 6, locals := 102 }
theorem ddL_read : yL_read.cls ≠ "java/lang/invoke/MethodHandle" ∧ yL_read.cls ≠ "java/lang/invoke/VarHandle" ∧ (parseMethodDescriptor yL_read.desc).map (fun d => d.parameters.length) = some 2 := by decide +kernel
theorem kL_read_w : ∀ w ∈ [Cond.classLink RL 44 eU, Cond.classLink RL 31 eN], w ∈ wsL_read := by decide +kernel
set_option maxHeartbeats 4000000 in
set_option maxRecDepth 100000 in
theorem mL_read (l : Launch) (hlt : l.stackTraces = false) (D : va_G) (ad : Nat → Nat) (ci : Nat → ClassId) (A : Nat → Prop) (ao : Nat) (hao : ¬ A ao) (g : Nat → Int64) (σ : St) (mm : Stt) (hI : InvC σ mm) (hR : Rok σ)  :
    Met l yL_read wsL_read rmL_read (va_Pc [.ref (ad 0), .ref ao] (PreL D ad A ci ao g σ)) (va_Qi (PL (oRead mm)) (PostL D ad ci ao) (AL A ao)) 1 6 (AL A ao) := by
  refine met_ofWH (cc := cL_read) (maxL := 3) (ret := some .int) (hh := [(0, 8, 11, 44), (0, 8, 14, 31)]) (by decide) rfl ?_
  intro p e s m args below meth c s₁ B hml hv
  obtain ⟨rfl, ⟨⟨hP, hK, hD⟩, hE⟩, hO, hN⟩ := hv
  have C0 : CallFix p m c cL_read 3 s _ wsL_read RL := ⟨B.exec, B.bytes, hml, findClass_of_methodNamed B.named, atoms_spec (ws := wsL_read) B.pre⟩
  have hlocks := B.notSynchronized
  have hr := B.returns
  have htab := vx_table (x := yL_read) B (C0.2.2.2.2 _ List.mem_cons_self)
  obtain ⟨hx, hb, -, hown, hts⟩ := id C0
  have hl := lv_entry ([.ref (ad 0), .ref ao]) (n := 3) (Nat.le_of_ble_eq_true rfl)
  rw [lg_entry_eq]
  generalize (lg_sl ([.ref (ad 0), .ref ao]) ++ List.replicate (3 - (lg_sl ([.ref (ad 0), .ref ao])).length) Slot.unset).toArray = ls at hl ⊢
  have hl : lv_has ls 3 [(0, .ref (ad 0)), (1, .ref ao)] := hl
  refine lv_aload_n hx hb dL_read_0 rfl (lv_at hl 1 rfl) ?_
  refine lv_iconst (v := 0) hx hb dL_read_1 (by decide) ?_
  refine lv_aload_n hx hb dL_read_2 rfl (lv_at hl 0 rfl) ?_
  refine l_call (E := [eU, eN]) (o := (oRead mm)) (fun _ _ h => h) (vx_runV (As := []) (rest := [.int 0, .ref ao]) C0 (mX5_read l hlt D ad ci A σ  (KC (oRead mm)) (XC [eU, eN] (oRead mm)) hR (sC_read hI  (OutC_KX _ _))) (cwV 0 hts gL_read_X5_read rfl rfl rfl ddX5_read ⟨Nat.le_of_ble_eq_true rfl, Nat.le_of_ble_eq_true rfl⟩) (l_preX hK hE hP hD) rfl rfl hl.1 rfl (lv_room (Nat.le_of_ble_eq_true rfl)) dL_read_3 ⟨Nat.le_of_ble_eq_true rfl, Nat.le_of_ble_eq_true rfl⟩) hO hao (fun k n ce q9 u H locs h1 h2 h3 h4 hP hO hS hc hv hcl => ?_) (fun u H locs h1 h3 h4 hP hO hS => ?_)
  · rcases k with _ | _ | k
    · obtain rfl : eU = n := Option.some.inj h2
      refine vx_catch (name := eU) hown [] ⟨0, 8, 11, 44⟩ [⟨0, 8, 14, 31⟩] (htab.trans rfl) (fun z hz => absurd hz List.not_mem_nil) rfl (by decide) (hts _ (kL_read_w _ (List.mem_of_getElem? (i := 0) rfl))) (va_Nw.use rfl (hN.2 eU (by decide +kernel))) hc hv hcl ?_
      refine lv_astore_n (lv' := [(2, .ref q9), (0, .ref (ad 0)), (1, .ref ao)]) hx hb dL_read_11 rfl hl (by decide) rfl (fun ls hl => ?_)
      refine lv_iconst (v := nI 1) hx hb dL_read_12 (by decide) ?_
      exact l_ret hx hb hr hlocks (o := (oRead mm)) (congrArg nI h1.symm) h3 h4 (fun q => absurd (h1.symm.trans q) (Nat.succ_ne_zero _)) hP hO hS dL_read_13
    · obtain rfl : eN = n := Option.some.inj h2
      refine vx_catch (name := eN) hown [⟨0, 8, 11, 44⟩] ⟨0, 8, 14, 31⟩ [] (htab.trans rfl) (fun z hz => by
        obtain rfl := List.mem_singleton.mp hz
        exact Or.inr ⟨by decide, eU, hts _ (kL_read_w _ (List.mem_of_getElem? (i := 0) rfl)), hN.1 (eN, eU) (by decide +kernel)⟩) rfl (by decide) (hts _ (kL_read_w _ (List.mem_of_getElem? (i := 1) rfl))) (va_Nw.use rfl (hN.2 eN (by decide +kernel))) hc hv hcl ?_
      refine lv_astore_n (lv' := [(2, .ref q9), (0, .ref (ad 0)), (1, .ref ao)]) hx hb dL_read_14 rfl hl (by decide) rfl (fun ls hl => ?_)
      refine lv_iconst (v := nI 2) hx hb dL_read_15 (by decide) ?_
      exact l_ret hx hb hr hlocks (o := (oRead mm)) (congrArg nI h1.symm) h3 h4 (fun q => absurd (h1.symm.trans q) (Nat.succ_ne_zero _)) hP hO hS dL_read_16
    · simp at h2
  · refine lv_i2l hx hb dL_read_6 rfl ?_
    refine l_store (A := A) hx hb hK hP hO hD hao hS dL_read_7 (fun H locs g hg hP hO hS => ?_)
    refine lv_goto (tgt := 17) hx hb dL_read_8 (by decide) ?_
    refine lv_iconst (v := nI 0) hx hb dL_read_17 (by decide) ?_
    exact l_ret hx hb hr hlocks (o := (oRead mm)) (congrArg nI h1.symm) h3 h4 (fun _ => hg) hP hO hS dL_read_18
abbrev rmL_writeAll : Room := { frames := 7, cells := 1, slots := 6, locals := 112 }
theorem ddL_writeAll : yL_writeAll.cls ≠ "java/lang/invoke/MethodHandle" ∧ yL_writeAll.cls ≠ "java/lang/invoke/VarHandle" ∧ (parseMethodDescriptor yL_writeAll.desc).map (fun d => d.parameters.length) = some 2 := by decide +kernel
theorem kL_writeAll_w : ∀ w ∈ [Cond.classLink RL 44 eU, Cond.classLink RL 15 eS], w ∈ wsL_writeAll := by decide +kernel
set_option maxHeartbeats 4000000 in
set_option maxRecDepth 100000 in
theorem mL_writeAll (l : Launch) (hlt : l.stackTraces = false) (D : va_G) (ad : Nat → Nat) (ci : Nat → ClassId) (A : Nat → Prop) (ao : Nat) (hao : ¬ A ao) (g : Nat → Int64) (σ : St) (mm : Stt) (hI : InvC σ mm) (hR : Rok σ)  :
    Met l yL_writeAll wsL_writeAll rmL_writeAll (va_Pc [.ref (ad 0), .ref ao] (PreL D ad A ci ao g σ)) (va_Qi (PL (oWriteAll mm)) (PostL D ad ci ao) (AL A ao)) 1 6 (AL A ao) := by
  refine met_ofWH (cc := cL_writeAll) (maxL := 3) (ret := some .int) (hh := [(0, 8, 11, 44), (0, 8, 14, 15)]) (by decide) rfl ?_
  intro p e s m args below meth c s₁ B hml hv
  obtain ⟨rfl, ⟨⟨hP, hK, hD⟩, hE⟩, hO, hN⟩ := hv
  have C0 : CallFix p m c cL_writeAll 3 s _ wsL_writeAll RL := ⟨B.exec, B.bytes, hml, findClass_of_methodNamed B.named, atoms_spec (ws := wsL_writeAll) B.pre⟩
  have hlocks := B.notSynchronized
  have hr := B.returns
  have htab := vx_table (x := yL_writeAll) B (C0.2.2.2.2 _ List.mem_cons_self)
  obtain ⟨hx, hb, -, hown, hts⟩ := id C0
  have hl := lv_entry ([.ref (ad 0), .ref ao]) (n := 3) (Nat.le_of_ble_eq_true rfl)
  rw [lg_entry_eq]
  generalize (lg_sl ([.ref (ad 0), .ref ao]) ++ List.replicate (3 - (lg_sl ([.ref (ad 0), .ref ao])).length) Slot.unset).toArray = ls at hl ⊢
  have hl : lv_has ls 3 [(0, .ref (ad 0)), (1, .ref ao)] := hl
  refine lv_aload_n hx hb dL_writeAll_0 rfl (lv_at hl 1 rfl) ?_
  refine lv_iconst (v := 0) hx hb dL_writeAll_1 (by decide) ?_
  refine lv_aload_n hx hb dL_writeAll_2 rfl (lv_at hl 0 rfl) ?_
  refine l_call (E := [eU, eS]) (o := (oWriteAll mm)) (fun _ _ h => h) (vx_runV (As := []) (rest := [.int 0, .ref ao]) C0 (mX5_writeAll l hlt D ad ci A σ  (KC (oWriteAll mm)) (XC [eU, eS] (oWriteAll mm)) hR (sC_writeAll hI  (OutC_KX _ _))) (cwV 0 hts gL_writeAll_X5_writeAll rfl rfl rfl ddX5_writeAll ⟨Nat.le_of_ble_eq_true rfl, Nat.le_of_ble_eq_true rfl⟩) (l_preX hK hE hP hD) rfl rfl hl.1 rfl (lv_room (Nat.le_of_ble_eq_true rfl)) dL_writeAll_3 ⟨Nat.le_of_ble_eq_true rfl, Nat.le_of_ble_eq_true rfl⟩) hO hao (fun k n ce q9 u H locs h1 h2 h3 h4 hP hO hS hc hv hcl => ?_) (fun u H locs h1 h3 h4 hP hO hS => ?_)
  · rcases k with _ | _ | k
    · obtain rfl : eU = n := Option.some.inj h2
      refine vx_catch (name := eU) hown [] ⟨0, 8, 11, 44⟩ [⟨0, 8, 14, 15⟩] (htab.trans rfl) (fun z hz => absurd hz List.not_mem_nil) rfl (by decide) (hts _ (kL_writeAll_w _ (List.mem_of_getElem? (i := 0) rfl))) (va_Nw.use rfl (hN.2 eU (by decide +kernel))) hc hv hcl ?_
      refine lv_astore_n (lv' := [(2, .ref q9), (0, .ref (ad 0)), (1, .ref ao)]) hx hb dL_writeAll_11 rfl hl (by decide) rfl (fun ls hl => ?_)
      refine lv_iconst (v := nI 1) hx hb dL_writeAll_12 (by decide) ?_
      exact l_ret hx hb hr hlocks (o := (oWriteAll mm)) (congrArg nI h1.symm) h3 h4 (fun q => absurd (h1.symm.trans q) (Nat.succ_ne_zero _)) hP hO hS dL_writeAll_13
    · obtain rfl : eS = n := Option.some.inj h2
      refine vx_catch (name := eS) hown [⟨0, 8, 11, 44⟩] ⟨0, 8, 14, 15⟩ [] (htab.trans rfl) (fun z hz => by
        obtain rfl := List.mem_singleton.mp hz
        exact Or.inr ⟨by decide, eU, hts _ (kL_writeAll_w _ (List.mem_of_getElem? (i := 0) rfl)), hN.1 (eS, eU) (by decide +kernel)⟩) rfl (by decide) (hts _ (kL_writeAll_w _ (List.mem_of_getElem? (i := 1) rfl))) (va_Nw.use rfl (hN.2 eS (by decide +kernel))) hc hv hcl ?_
      refine lv_astore_n (lv' := [(2, .ref q9), (0, .ref (ad 0)), (1, .ref ao)]) hx hb dL_writeAll_14 rfl hl (by decide) rfl (fun ls hl => ?_)
      refine lv_iconst (v := nI 2) hx hb dL_writeAll_15 (by decide) ?_
      exact l_ret hx hb hr hlocks (o := (oWriteAll mm)) (congrArg nI h1.symm) h3 h4 (fun q => absurd (h1.symm.trans q) (Nat.succ_ne_zero _)) hP hO hS dL_writeAll_16
    · simp at h2
  · refine lv_i2l hx hb dL_writeAll_6 rfl ?_
    refine l_store (A := A) hx hb hK hP hO hD hao hS dL_writeAll_7 (fun H locs g hg hP hO hS => ?_)
    refine lv_goto (tgt := 17) hx hb dL_writeAll_8 (by decide) ?_
    refine lv_iconst (v := nI 0) hx hb dL_writeAll_17 (by decide) ?_
    exact l_ret hx hb hr hlocks (o := (oWriteAll mm)) (congrArg nI h1.symm) h3 h4 (fun _ => hg) hP hO hS dL_writeAll_18
