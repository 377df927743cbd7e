/-! WHAT THE LAW'S WRAPPERS AND CASES STAND ON -/
/-- the exceptions of the calls, and which of them is no other -/
def exE : List String := [eA, eS, eI, eN, eU]
def exP : List (String × String) := [(eS, eA), (eI, eA), (eN, eA), (eU, eA), (eA, eS), (eI, eS), (eN, eS), (eU, eS), (eA, eI), (eS, eI), (eN, eI), (eU, eI), (eA, eN), (eS, eN), (eI, eN), (eU, eN), (eA, eU), (eS, eU), (eI, eU), (eN, eU)]
def Nx (U : State) : Prop := (∀ q ∈ exP, va_Nc q.1 q.2 U) ∧ ∀ E ∈ exE, va_Nw (.castable E E) U
theorem Nx.warm {s U : State} (hW : s.WarmedH U.vm) (h : Nx s) : Nx U := ⟨fun q hq => va_Nc.moved hW.alike (h.1 q hq), fun E hE => va_Nw.warmC hW (h.2 E hE)⟩
theorem Nx.call {U : State} (g : JFrame) (mk : MethodId) (a : Array Value) (h : Nx U) : Nx (U.calling g mk a) := ⟨fun q hq => va_Nc.moved (u := U) (U := U.calling g mk a) (Vm.Alike.refl U.vm) (h.1 q hq), fun E hE => va_Nw.same (u := U) (U := U.calling g mk a) rfl rfl (h.2 E hE)⟩
/-- the words of the tables that the exceptions want -/
def exT : List Cond := [.castable eA eA, .declares ⟨"java/lang/RuntimeException", "<init>", "()V"⟩, .declares ⟨"java/lang/RuntimeException", "<init>", "(Ljava/lang/String;)V"⟩, .declares ⟨"java/lang/Exception", "<init>", "()V"⟩, .declares ⟨"java/lang/Exception", "<init>", "(Ljava/lang/String;)V"⟩, .declares ⟨"java/lang/Throwable", "<init>", "()V"⟩, .declares ⟨"java/lang/Throwable", "<init>", "(Ljava/lang/String;)V"⟩, .castable eS eS, .castable eI eI, .castable eN eN, .castable eU eU]
set_option maxRecDepth 20000 in
theorem exT_in : ∀ w ∈ exT, w ∈ tables_1 := in_p exT [441, 442, 443, 444, 445, 446, 447, 511, 546, 574, 619] (by decide +kernel)
theorem exB_in : ∀ w ∈ exB, w ∈ exT := by decide +kernel
theorem exE_in : ∀ E ∈ exE, Cond.castable E E ∈ exT := by decide +kernel
def lawG : List Cond := flatC (Jvm.Cond.and given_1 narrow_1)
set_option maxRecDepth 20000 in
theorem exP_in : ∀ w ∈ exP.map (fun q => Cond.not (.castable q.1 q.2)), w ∈ lawG := in_p _ [13, 14, 15, 16, 24, 25, 26, 27, 35, 36, 37, 38, 46, 47, 48, 49, 57, 58, 59, 60] (by decide +kernel)
set_option maxRecDepth 20000 in
theorem str_in : ∀ w ∈ strX5.map (fun q => Cond.stringRef RX5 q.1 q.2), w ∈ tables_1 := in_p _ [599, 616, 626, 634, 655, 671, 680, 686, 713, 726, 734, 755, 765, 779, 482, 518, 534, 535, 553, 581] (by decide +kernel)
set_option maxRecDepth 20000 in
theorem strX_in : ∀ w ∈ strX5.map (fun q => Cond.exactly (.string RX5 q.1) "java/lang/String"), w ∈ lawG := in_p _ [215, 237, 274, 309, 361, 394, 421, 454, 483, 521, 553, 596, 642, 684, 61, 72, 93, 123, 164, 185] (by decide +kernel)
set_option maxRecDepth 20000 in
theorem sta_in : ∀ w ∈ [Cond.laysStatic Bundle.tN "UNASSIGNED_STACK" Bundle.steD, .laysStatic Bundle.tN "SUPPRESSED_SENTINEL" Bundle.listD, .initialized Bundle.tN, .arrayClass .char, .arrayClass .int, .arrayClass .long, .arrayOver (.object RX2), .methodLinkNest RX0 20 yX5_signOf RX5, .methodLinkNest RX0 35 yX5_isSign RX5], w ∈ tables_1 := in_p _ [466, 468, 9, 41, 64, 109, 49, 73, 402] (by decide +kernel)
set_option maxRecDepth 20000 in
theorem staX_in : ∀ w ∈ [Cond.isRef (.static Bundle.tN "UNASSIGNED_STACK" Bundle.steD), .isRef (.static Bundle.tN "SUPPRESSED_SENTINEL" Bundle.listD)], w ∈ lawG := in_p _ [4, 5] (by decide +kernel)
/-- all of it at the law's start -/
theorem law_Ex {s : State} {args : Array Value} (hts : ∀ w ∈ lw_tbl, w.before args s = true) (hgv : (Jvm.Cond.and given_1 narrow_1).before args s = true) {A : Nat → Prop} (hA : ∀ a : Nat, a < s.heap.size → ¬ A a) : Ex A s ∧ Nx s := by
  have ht : ∀ w ∈ tables_1, w.before args s = true := fun w h => hts w (tab_in h)
  have hg : ∀ w ∈ lawG, w.before args s = true := flat_of_before _ hgv
  refine ⟨⟨fun w hw => va_Nw.of (nw_tab (exB_cd w hw)) (ht w (exT_in w (exB_in w hw))), ?_, ?_, fun q hq => ?_⟩, fun q hq => ?_, fun E hE => va_Nw.of rfl (ht _ (exT_in _ (exE_in E hE)))⟩
  · exact vx_Zqof (ht _ (sta_in _ (List.mem_of_getElem? (i := 0) rfl))) (ht _ (sta_in _ (List.mem_of_getElem? (i := 2) rfl))) (hg _ (staX_in _ (List.mem_of_getElem? (i := 0) rfl))) hA
  · exact vx_Zqof (ht _ (sta_in _ (List.mem_of_getElem? (i := 1) rfl))) (ht _ (sta_in _ (List.mem_of_getElem? (i := 2) rfl))) (hg _ (staX_in _ (List.mem_of_getElem? (i := 1) rfl))) hA
  · have h1 := ht _ (str_in _ (List.mem_map.mpr ⟨q, hq, rfl⟩))
    have h2 := hg _ (strX_in _ (List.mem_map.mpr ⟨q, hq, rfl⟩))
    obtain ⟨a, _, _, _, ha, -⟩ := Cond.exactly_spec h2
    exact ⟨a, vk_R.of h1 ha⟩
  · exact va_Nc.of (hg _ (exP_in _ (List.mem_map.mpr ⟨q, hq, rfl⟩)))
theorem arr_known {s : State} {args : Array Value} {ty : FieldType} (h : (Cond.arrayClass ty).before args s = true) (hty : ∀ C, ty ≠ .object C) : ∃ cA : ClassId, ArrOfT s cA ty ∧ va_RA s cA ty := by
  obtain ⟨cA, k, comp, h1, h2, h3⟩ := Cond.arrayClass_spec h
  refine ⟨cA, fun N z => ⟨(fun k h => by cases h), k, h2, comp, h3⟩, ?_⟩
  cases ty with
  | object C => exact absurd rfl (hty C)
  | _ => exact h1
/-- the classes, as the tables have them -/
theorem law_K {s : State} {args : Array Value} (hts : ∀ w ∈ lw_tbl, w.before args s = true) : ∃ (D : va_G) (ci : Nat → ClassId), Kz D (tyC ci) s := by
  have ht : ∀ w ∈ tables_1, w.before args s = true := fun w h => hts w (tab_in h)
  have hin : ∀ w ∈ wsL_law, w.before args s = true := fun w h => hts w (wsL_law_in w h)
  obtain ⟨c0, i0, k0⟩ := u_known (C := RX0) (T := TX0) (N := 3) (n := 3) hin inlX0 (ht _ (List.mem_of_getElem? (i := 66) (by decide +kernel)))
  obtain ⟨c1, i1, k1⟩ := u_known (C := RX1) (T := TX1) (N := 4) (n := 4) hin inlX1 (ht _ (List.mem_of_getElem? (i := 91) (by decide +kernel)))
  obtain ⟨c2, i2, k2⟩ := u_known (C := RX2) (T := TX2) (N := 2) (n := 2) hin inlX2 (ht _ (List.mem_of_getElem? (i := 26) (by decide +kernel)))
  obtain ⟨c3, i3, k3⟩ := u_known (C := RX3) (T := TX3) (N := 2) (n := 2) hin inlX3 (ht _ (List.mem_of_getElem? (i := 111) (by decide +kernel)))
  obtain ⟨c4, i4, k4⟩ := u_known (C := RX4) (T := TX4) (N := 4) (n := 4) hin inlX4 (ht _ (List.mem_of_getElem? (i := 43) (by decide +kernel)))
  obtain ⟨c5, i5, k5⟩ := u_known (C := RX5) (T := TX5) (N := 6) (n := 6) hin inlX5 (ht _ (List.mem_of_getElem? (i := 18) (by decide +kernel)))
  obtain ⟨c6, i6, k6⟩ := u_known (C := RX6) (T := TX6) (N := 14) (n := 14) hin inlX6 (ht _ (List.mem_of_getElem? (i := 787) (by decide +kernel)))
  obtain ⟨D, hD⟩ : ∃ D : va_G, ∀ (k : Nat) (q : vw_C), vwCl[k]? = some q → u_Kn s q.1 q.2.1 q.2.2 (D.1 k) (D.2 k) := by
    refine ⟨(fun k => match k with | 0 => c0 | 1 => c1 | 2 => c2 | 3 => c3 | 4 => c4 | 5 => c5 | _ => c6, fun k => match k with | 0 => i0 | 1 => i1 | 2 => i2 | 3 => i3 | 4 => i4 | 5 => i5 | _ => i6), ?_⟩
    intro k q hq
    match k, hq with
    | 0, hq => cases hq; exact k0
    | 1, hq => cases hq; exact k1
    | 2, hq => cases hq; exact k2
    | 3, hq => cases hq; exact k3
    | 4, hq => cases hq; exact k4
    | 5, hq => cases hq; exact k5
    | 6, hq => cases hq; exact k6
    | k + 7, hq => simp at hq
  obtain ⟨a0, ha0⟩ := arr_known (ht _ (sta_in _ (List.mem_of_getElem? (i := 3) rfl))) (fun C h => by cases h)
  obtain ⟨a1, ha1⟩ := arr_known (ht _ (sta_in _ (List.mem_of_getElem? (i := 4) rfl))) (fun C h => by cases h)
  obtain ⟨a2, ha2⟩ := arr_known (ht _ (sta_in _ (List.mem_of_getElem? (i := 5) rfl))) (fun C h => by cases h)
  have hO := ht _ (sta_in _ (List.mem_of_getElem? (i := 6) rfl))
  obtain ⟨comp, a3, k, g1, -, g3, g4, g5⟩ := Cond.arrayOver_spec hO
  have ha3 : ArrOfT s a3 (.object RX2) ∧ va_RA s a3 (.object RX2) := ⟨fun N z => ⟨(fun k h => by cases h), k, g3, comp, g4⟩, k, comp, g3, g4, g1, g5⟩
  refine ⟨D, fun k => match k with | 0 => a0 | 1 => a1 | 2 => a2 | _ => a3, ⟨⟨hD, ?_⟩, ?_, ?_⟩, va_AO.of hO⟩
  · intro k q hq
    match k, hq with
    | 0, hq => cases hq; exact ha0
    | 1, hq => cases hq; exact ha1
    | 2, hq => cases hq; exact ha2
    | 3, hq => cases hq; exact ha3
    | k + 4, hq => simp at hq
  · exact va_Nw.of rfl (ht _ (sta_in _ (List.mem_of_getElem? (i := 7) rfl)))
  · exact va_Nw.of rfl (ht _ (sta_in _ (List.mem_of_getElem? (i := 8) rfl)))
