/-! methods that throw an exception of their own: what their start must hold, and their end -/
abbrev exN : List String := ["java/lang/RuntimeException", "java/lang/Exception"]
/-- the exceptions that the class makes, with the places of their constructors and their words -/
def exL : List (String × Nat × List Cond) := [("java/lang/IllegalArgumentException", 57, vx_atS RX5 57 "java/lang/IllegalArgumentException" exN), ("java/lang/IllegalStateException", 68, vx_atS RX5 68 "java/lang/IllegalStateException" exN), ("java/lang/IndexOutOfBoundsException", 86, vx_atS RX5 86 "java/lang/IndexOutOfBoundsException" exN), ("java/util/NoSuchElementException", 95, vx_atX RX5 95 "java/util/NoSuchElementException" "java/lang/RuntimeException" ["java/lang/Exception"]), ("java/lang/UnsupportedOperationException", 118, vx_atS RX5 118 "java/lang/UnsupportedOperationException" exN)]
theorem exL_or : ∀ q ∈ exL, q.2.2 = vx_atS RX5 q.2.1 q.1 exN ∨ q.2.2 = vx_atX RX5 q.2.1 q.1 "java/lang/RuntimeException" ["java/lang/Exception"] := by
  intro q hq
  simp only [exL, List.mem_cons, List.not_mem_nil, or_false] at hq
  rcases hq with rfl | rfl | rfl | rfl | rfl
  · exact Or.inl rfl
  · exact Or.inl rfl
  · exact Or.inl rfl
  · exact Or.inr rfl
  · exact Or.inl rfl
def exB : List Cond := exL.flatMap (fun q => q.2.2.filter (fun w => !goodWord w))
def strX5 : List (Nat × String) := [(100, "no such part"), (112, "the number is out of range"), (116, "the text can be no word"), (124, "there are as many words as there may be"), (136, "the text is no word"), (144, "no such rank"), (154, "no way to be near"), (160, "no such word"), (181, "fewer than two words"), (196, "no such piece"), (205, "the text can be no code"), (221, "the codes are not orderly"), (227, "no row is written so"), (233, "a word would have too many signs"), (55, "no sign"), (66, "the text is full"), (74, "a number is out of range"), (76, "the text would have too many signs"), (84, "no such place"), (93, "the text has no signs")]
def isCD : Cond → Bool
  | .castable .. => true
  | .declares .. => true
  | _ => false
theorem exB_cd : ∀ w ∈ exB, isCD w = true := by decide +kernel
theorem nw_warm {w : Cond} (h : isCD w = true) {s U : State} (hW : s.WarmedH U.vm) (hZ : va_Nw w s) : va_Nw w U := by
  cases w <;> first | exact va_Nw.warmC hW hZ | exact va_Nw.warmD hW hZ | exact absurd h (by decide) | (simp [isCD] at h)
theorem nw_tab {w : Cond} (h : isCD w = true) : w.onTables = true := by
  cases w <;> first | rfl | (simp [isCD] at h)
def Ex (A : Nat → Prop) (U : State) : Prop := (∀ w ∈ exB, va_Nw w U) ∧ vx_Zq Bundle.tN "UNASSIGNED_STACK" Bundle.steD A U U.heap ∧ vx_Zq Bundle.tN "SUPPRESSED_SENTINEL" Bundle.listD A U U.heap ∧ ∀ q ∈ strX5, ∃ sa, vk_R RX5 q.1 q.2 sa U
theorem Ex.to {A A0 : Nat → Prop} {s U : State} {H : Heap} (h : Ex A s) (hU : U.heap = H) (hW : s.WarmedH U.vm) (hk : ∀ a : Nat, a < s.heap.size → ¬ A a → H[a]? = s.heap[a]?) : Ex A U := by
  refine ⟨fun w hw => nw_warm (exB_cd w hw) hW (h.1 w hw), ?_, ?_, fun q hq => ?_⟩
  · rw [hU]; exact vx_Zq.moved hW.alike (h.2.1.kept hk)
  · rw [hU]; exact vx_Zq.moved hW.alike (h.2.2.1.kept hk)
  · obtain ⟨sa, hs⟩ := h.2.2.2 q hq
    exact ⟨sa, hs.warm hW⟩
def PreX (D : va_G) (N : Nat) (ad : Nat → Nat) (A : Nat → Prop) (tys : List (ClassId × FieldType)) (ob : Nat → va_E) : State → Prop := fun U => PreW D N ad A tys ob U ∧ Ex A U
theorem x_blind {avs : List Value} {D : va_G} {N : Nat} {ad : Nat → Nat} {A : Nat → Prop} {tys : List (ClassId × FieldType)} {ob : Nat → va_E} : FrameBlind (va_Pc avs (PreX D N ad A tys ob)) := fun a U g mk q => by
  obtain ⟨q0, ⟨qP, qK, qD⟩, qE⟩ := q
  refine ⟨q0, ⟨qP, ⟨va_K.moved (u := U) (U := U.calling g mk a) (Vm.Alike.refl U.vm) qK.1, va_Nw.same rfl rfl qK.2.1, va_Nw.same rfl rfl qK.2.2⟩, qD⟩, fun w hw => va_Nw.same (u := U) (U := U.calling g mk a) (nw_tab (exB_cd w hw)) rfl (qE.1 w hw), vx_Zq.moved (u := U) (U := U.calling g mk a) (Vm.Alike.refl U.vm) qE.2.1, vx_Zq.moved (u := U) (U := U.calling g mk a) (Vm.Alike.refl U.vm) qE.2.2.1, fun q hq => ?_⟩
  obtain ⟨sa, hs⟩ := qE.2.2.2 q hq
  exact ⟨sa, vk_R.same (u := U) (U := U.calling g mk a) rfl hs⟩
/-- where a method makes an exception and throws it -/
def TSite (cc : ByteArray) (s : State) (args : Array Value) (E text : String) (ik is ic pc : Nat) (av : List Cond) : Prop :=
  (Cond.classLink RX5 ik E).before args s = true ∧ (Cond.initialized E).before args s = true ∧ (∀ w ∈ av.filter goodWord, w.before args s = true) ∧ (E, ic, av) ∈ exL ∧ (is, text) ∈ strX5 ∧
  decode cc pc = .ok (.new ik, 3) ∧ decode cc (pc + 3) = .ok (.dup, 1) ∧ decode cc (pc + 4) = .ok (.ldc is, 2) ∧ decode cc (pc + 6) = .ok (.invokespecial ic, 3) ∧ decode cc (pc + 9) = .ok (.athrow, 1)
theorem exL_fit : ∀ q ∈ exL, Bundle.fit q.1 = true ∧ ∀ w ∈ q.2.2, vx_ot w = true := by decide +kernel
theorem exN_fit : ∀ n ∈ exN, Bundle.fit n = true := by decide +kernel
/-- the end by an exception -/
def PostX (D : va_G) (N : Nat) (ad : Nat → Nat) (ob : St → Nat → va_E) (I : St → Prop) (X : String → St → Prop) (A : Nat → Prop) : String → State → State → Prop := vx_X (fun (_ : St) => True) (fun E u t => X E u ∧ va_P D vwCl (pw N ad (ob u)) t.heap ∧ I u) A
theorem pw_kept {D : va_G} {N : Nat} {ad : Nat → Nat} {ob : Nat → va_E} {H H1 : Heap} {B : Nat → Prop} (h : va_P D vwCl (pw N ad ob) H) (hB : ∀ o, o < N → ¬ B (ad o)) (hk : ∀ q : Nat, q < H.size → ¬ B q → H1[q]? = H[q]?) : va_P D vwCl (pw N ad ob) H1 := by
  intro k q hq
  obtain ⟨hk1, rfl⟩ := pw_of hq
  have h1 := h k _ hq
  exact h1.kept (hk _ h1.lt (hB k hk1))
section THR
variable {p : Program} {l : Launch} {e : Env} {R : Room} {s : State} {m : MethodId} {args : Array Value} {below : List Frame} {meth : Method} {c : Code} {H : Heap} {locs : List Loc}
variable {cc : ByteArray} {pc : Nat} {ls : Array Slot} {D : va_G} {N : Nat} {ad : Nat → Nat} {A : Nat → Prop} {ob : St → Nat → va_E} {I : St → Prop} {Qc : Array Value → State → Outcome → State → Prop} {X : String → St → Prop} {u : St}
theorem w_throw (hexec : p.tables.exec = Jvm.exec) (hb : c.code = cc) (hl : l.stackTraces = false) (hown : s.vm.findClass RX5 = some m.cls) {E text : String} {ik is ic : Nat} {av : List Cond} (hT : TSite cc s args E text ik is ic pc av) (hE : Ex A s) (hno : ∀ x ∈ c.exceptionTable.toList, False) (hsize : ls.size = c.maxLocals)
    (hRf : 5 < R.frames) (hRl : 82 ≤ R.locals) (hRc : 1 ≤ R.cells) (hRs : 6 ≤ R.slots) (hlocks : meth.locks = false) (hx : X E u) (hY : Sy D N ad A s.heap (ob u) H locs) (hI : I u) :
    W p l e R s m args below meth c H locs 0 0 (vx_MQ below Qc (PostX D N ad ob I X A) args s 1 6 A) (F0 m pc ls []) := by
  obtain ⟨t1, t2, t3, t4, t5, d0, d3, d4, d6, d9⟩ := hT
  obtain ⟨sa, hstr⟩ := hE.2.2.2 _ t5
  have hat : ∀ w ∈ av, w.before args s = true := vx_hat (B := exB) t3 (fun w hw => List.mem_flatMap.mpr ⟨(E, ic, av), t4, hw⟩) (fun w hw => va_Nw.use (nw_tab (exB_cd w hw)) (hE.1 w hw))
  have hgd : ∀ w ∈ Cond.classLink RX5 ik E :: Cond.initialized E :: av, vx_ot w = true := fun w hw => by
    rcases List.mem_cons.mp hw with rfl | hw
    · rfl
    · rcases List.mem_cons.mp hw with rfl | hw
      · rfl
      · exact (exL_fit _ t4).2 w hw
  have hav : av = vx_atS RX5 ic E exN ∨ av = vx_atX RX5 ic E "java/lang/RuntimeException" ["java/lang/Exception"] := exL_or _ t4
  rcases hav with rfl | rfl
  · refine vx_throwS hexec hb hl hown (exL_fit _ t4).1 exN_fit t1 t2 hstr hat hgd hE.2.1 hE.2.2.1 hY.2.2 hsize d0 d3 d4 d6 d9 (fun x hx => (hno x hx).elim) hRf hRl (by omega) (by omega) hlocks (fun t ha hz hk => ⟨u, trivial, ⟨hx, pw_kept (B := fun _ => False) hY.1 (fun _ _ h => h) (fun q h1 _ => hk q h1), hI⟩, Nat.le_trans hY.2.2.1 hz, fun q h1 h2 => ?_⟩) hY.2.2.2.2 (Nat.le_refl _) (Nat.le_refl _)
    rw [hk q (Nat.lt_of_lt_of_le h1 hY.2.2.1)]
    exact hY.2.2.2.1 q h1 h2
  · refine vx_makeX hexec hb hl hown (exL_fit _ t4).1 exN_fit t1 t2 hstr hat hgd hE.2.1 hE.2.2.1 hY.2.2 hsize d0 d3 d4 d6 hRf hRl (by omega) (by omega) (fun q H1 ce hc hv hcl hz hk hS => ?_)
    refine vx_athrow hexec hb d9 (vx_out (fun x hx => (hno x hx).elim) hlocks hc hv hcl (fun t ht ha => ⟨u, trivial, ⟨hx, ?_, hI⟩, ?_, fun q h1 h2 => ?_⟩) hS.2.2 (Nat.le_refl _) (Nat.le_refl _))
    · exact pw_kept (B := fun _ => False) hY.1 (fun _ _ h => h) (fun q h1 _ => by rw [ht]; exact hk q h1)
    · rw [ht]; exact hS.1
    · rw [ht]; exact hS.2.1 q h1 h2
end THR
