/-! THE WORLDS: all objects of a system at addresses ad 0 .. ad (N-1); what each holds is a function of the state -/
def pw (N : Nat) (ad : Nat → Nat) (ob : Nat → va_E) : va_W := (List.range N).map (fun o => (ad o, ob o))
theorem pw_get {N : Nat} {ad : Nat → Nat} {ob : Nat → va_E} {o : Nat} (h : o < N) : (pw N ad ob)[o]? = some (ad o, ob o) := by
  simp [pw, h]
theorem pw_of {N : Nat} {ad : Nat → Nat} {ob : Nat → va_E} {o : Nat} {q : Nat × va_E} (h : (pw N ad ob)[o]? = some q) : o < N ∧ q = (ad o, ob o) := by
  have hl : o < (pw N ad ob).length := (List.getElem?_eq_some_iff.mp h).1
  have hN : o < N := by simpa [pw] using hl
  rw [pw_get hN] at h
  exact ⟨hN, (Option.some.inj h).symm⟩
theorem pw_set {N : Nat} {ad : Nat → Nat} {ob : Nat → va_E} {o : Nat} {e : va_E} (h : o < N) : (pw N ad ob).set o (ad o, e) = pw N ad (va_up ob o e) := by
  refine List.ext_getElem? fun k => ?_
  rw [List.getElem?_set]
  by_cases hk : k < N
  · by_cases he : o = k
    · subst he
      have : o < (pw N ad ob).length := by simpa [pw] using h
      rw [if_pos rfl, if_pos this, pw_get hk]
      simp [va_up]
    · rw [if_neg he, pw_get hk, pw_get hk]
      simp [va_up, Ne.symm he]
  · have h1 : (pw N ad (va_up ob o e))[k]? = none := by
      rw [List.getElem?_eq_none_iff]; simp [pw]; omega
    have h2 : (pw N ad ob)[k]? = none := by
      rw [List.getElem?_eq_none_iff]; simp [pw]; omega
    rw [h1, h2, if_neg (by omega)]
theorem pw_push {N : Nat} {ad : Nat → Nat} {ob : Nat → va_E} {q : Nat} {e : va_E} : pw N ad ob ++ [(q, e)] = pw (N + 1) (va_up ad N q) (va_up ob N e) := by
  simp only [pw, List.range_succ, List.map_append, List.map_cons, List.map_nil]
  congr 1
  · refine List.map_congr_left fun o ho => ?_
    have : o < N := List.mem_range.mp ho
    simp [va_up, show o ≠ N by omega]
  · simp [va_up]
/-- the state of a system: numbers, arrays of numbers, one array of longs, one of references (as object numbers) -/
abbrev St : Type := (Nat → Int32) × (Nat → Nat → Int32) × (Nat → Int64) × (Nat → Nat)
def gI (σ : St) (k : Nat) : Int32 := σ.1 k
def gA (σ : St) (a i : Nat) : Int32 := σ.2.1 a i
def gL (σ : St) (i : Nat) : Int64 := σ.2.2.1 i
def gR (σ : St) (i : Nat) : Nat := σ.2.2.2 i
def pI (σ : St) (k : Nat) (v : Int32) : St := (fun j => if j = k then v else σ.1 j, σ.2)
def pA (σ : St) (a i : Nat) (v : Int32) : St := (σ.1, fun b => if b = a then upd (σ.2.1 b) i v else σ.2.1 b, σ.2.2)
def pL (σ : St) (i : Nat) (v : Int64) : St := (σ.1, σ.2.1, fun j => if j = i then v else σ.2.2.1 j, σ.2.2.2)
def pR (σ : St) (i : Nat) (v : Nat) : St := (σ.1, σ.2.1, σ.2.2.1, fun j => if j = i then v else σ.2.2.2 j)
theorem gI_pI (σ : St) (k j : Nat) (v : Int32) : gI (pI σ k v) j = if j = k then v else gI σ j := rfl
theorem gA_pI (σ : St) (k a i : Nat) (v : Int32) : gA (pI σ k v) a i = gA σ a i := rfl
theorem gL_pI (σ : St) (k i : Nat) (v : Int32) : gL (pI σ k v) i = gL σ i := rfl
theorem gR_pI (σ : St) (k i : Nat) (v : Int32) : gR (pI σ k v) i = gR σ i := rfl
theorem gI_pA (σ : St) (a i j : Nat) (v : Int32) : gI (pA σ a i v) j = gI σ j := rfl
theorem gA_pA (σ : St) (a i b j : Nat) (v : Int32) : gA (pA σ a i v) b j = if b = a ∧ j = i then v else gA σ b j := by
  show (if b = a then upd (σ.2.1 b) i v else σ.2.1 b) j = _
  by_cases h : b = a
  · simp [h, upd, gA]
  · simp [h, gA]
theorem gL_pA (σ : St) (a i j : Nat) (v : Int32) : gL (pA σ a i v) j = gL σ j := rfl
theorem gR_pA (σ : St) (a i j : Nat) (v : Int32) : gR (pA σ a i v) j = gR σ j := rfl
theorem gI_pL (σ : St) (i j : Nat) (v : Int64) : gI (pL σ i v) j = gI σ j := rfl
theorem gA_pL (σ : St) (i a j : Nat) (v : Int64) : gA (pL σ i v) a j = gA σ a j := rfl
theorem gL_pL (σ : St) (i j : Nat) (v : Int64) : gL (pL σ i v) j = if j = i then v else gL σ j := rfl
theorem gR_pL (σ : St) (i j : Nat) (v : Int64) : gR (pL σ i v) j = gR σ j := rfl
theorem gI_pR (σ : St) (i j v : Nat) : gI (pR σ i v) j = gI σ j := rfl
theorem gA_pR (σ : St) (i a j v : Nat) : gA (pR σ i v) a j = gA σ a j := rfl
theorem gL_pR (σ : St) (i j v : Nat) : gL (pR σ i v) j = gL σ j := rfl
theorem gR_pR (σ : St) (i j v : Nat) : gR (pR σ i v) j = if j = i then v else gR σ j := rfl
theorem gA_up {σ : St} {o i : Nat} {v : Int32} : gA (pA σ o i v) o = upd (gA σ o) i v := by
  funext j
  rw [gA_pA]
  simp [upd]
theorem gA_ne {σ : St} {o i b : Nat} {v : Int32} (h : b ≠ o) : gA (pA σ o i v) b = gA σ b := by
  funext j
  rw [gA_pA, if_neg (fun q => h q.1)]
/-- the kinds of the class's objects, in the order in which they are made -/
def kiCs : List Nat := [2, 0, 1, 0, 1, 3, 4] ++ (List.replicate 24 [0, 1]).flatten ++ [5, 0, 1, 6, 7] ++ (List.replicate 6 [0, 1]).flatten ++ [8] ++ (List.replicate 24 [0, 1]).flatten ++ [0, 1, 9, 5, 11, 5, 12, 0, 1, 0, 1]
def kiC (o : Nat) : Nat := kiCs.getD o 99
def rowB (o : Nat) : Bool := kiC o == 0
/-- how many places the array of a row, or of whole numbers, has -/
def capC (o : Nat) : Nat := if o < 7 then 24 else if o < 56 then (if o = 55 then 24 else 10) else if o < 58 then 0 else if o < 72 then 3 else if o < 121 then 30 else if o < 123 then 0 else if o < 127 then 25 else 24
def obC (ad : Nat → Nat) (ci : Nat → ClassId) (σ : St) (o : Nat) : va_E :=
  match kiC o with
  | 0 => .inr (2, [.ref (ad (o + 1)), .int (gI σ o)])
  | 1 => .inl (ci 0, capC (o - 1), .inl (gA σ (o - 1)))
  | 2 => .inr (5, [.ref (ad 1), .ref (ad 3), .ref (ad 5), .ref (ad 58), .ref (ad 123), .ref (ad 127)])
  | 3 => .inr (4, [.ref (ad 6), .ref (ad 55), .ref (ad 56), .int (gI σ o)])
  | 4 => .inl (ci 3, 24, .inr (.inr (.inr (.inr (fun i => some (ad (gR σ i)))))))
  | 5 => .inl (ci 1, capC o, .inl (gA σ o))
  | 6 => .inr (0, [.ref (ad 59), .ref (ad 72), .ref (ad 121)])
  | 7 => .inl (ci 3, 6, .inr (.inr (.inr (.inr (fun i => some (ad (60 + 2 * i)))))))
  | 8 => .inl (ci 3, 24, .inr (.inr (.inr (.inr (fun i => some (ad (73 + 2 * i)))))))
  | 9 => .inr (1, [.ref (ad 124), .ref (ad 125), .ref (ad 126), .int (gI σ o)])
  | 11 => .inl (ci 2, 25, .inr (.inl (gL σ)))
  | 12 => .inr (3, [.ref (ad 128), .ref (ad 130)])
  | _ => .inr (99, [])
def kiMs : List Nat := [2, 1, 1, 1, 1, 5, 5, 5, 5, 5, 11, 5]
def kiM (o : Nat) : Nat := kiMs.getD o 99
def capM (o : Nat) : Nat := [0, 24, 240, 18, 72, 24, 24, 6, 24, 24, 25, 25].getD o 0
def obM (ad : Nat → Nat) (ci : Nat → ClassId) (σ : St) (o : Nat) : va_E :=
  match kiM o with
  | 1 => .inl (ci 0, capM o, .inl (gA σ o))
  | 2 => .inr (6, [.int (gI σ 0), .ref (ad 1), .ref (ad 2), .ref (ad 3), .ref (ad 4), .ref (ad 5), .ref (ad 6), .ref (ad 7), .int (gI σ 1), .int (gI σ 2), .ref (ad 8), .ref (ad 9), .ref (ad 10), .ref (ad 11)])
  | 5 => .inl (ci 1, capM o, .inl (gA σ o))
  | 11 => .inl (ci 2, 25, .inr (.inl (gL σ)))
  | _ => .inr (99, [])
theorem kiC_lt {o k : Nat} (h : kiC o = k) (hk : k < 99) : o < 132 := by
  rcases Nat.lt_or_ge o 132 with q | q
  · exact q
  · have : kiCs.length = 132 := by decide +kernel
    rw [kiC, List.getD_eq_getElem?_getD, List.getElem?_eq_none_iff.mpr (by omega)] at h
    have : (99 : Nat) = k := h
    omega
theorem rowB_k {o : Nat} (h : rowB o = true) : kiC o = 0 := by simpa [rowB] using h
theorem rowB_lt {o : Nat} (h : rowB o = true) : o < 132 := kiC_lt (rowB_k h) (by decide)
theorem rowB_all : ∀ o, o < 132 → kiC o = 0 → o + 1 < 132 ∧ kiC (o + 1) = 1 ∧ o ≠ 0 := by decide +kernel
theorem rowB_1 {o : Nat} (h : rowB o = true) : o + 1 < 132 ∧ kiC (o + 1) = 1 := ⟨(rowB_all o (rowB_lt h) (rowB_k h)).1, (rowB_all o (rowB_lt h) (rowB_k h)).2.1⟩
theorem rowB_code : ∀ i, i < 6 → rowB (60 + 2 * i) = true := by decide +kernel
theorem rowB_written : ∀ i, i < 24 → rowB (73 + 2 * i) = true := by decide +kernel
theorem obC_row {ad : Nat → Nat} {ci : Nat → ClassId} {σ : St} {o : Nat} (h : rowB o = true) : obC ad ci σ o = .inr (2, [.ref (ad (o + 1)), .int (gI σ o)]) := by
  unfold obC
  rw [rowB_k h]
  rfl
theorem obC_chars {ad : Nat → Nat} {ci : Nat → ClassId} {σ : St} {o : Nat} (h : rowB o = true) : obC ad ci σ (o + 1) = .inl (ci 0, capC o, .inl (gA σ o)) := by
  unfold obC
  rw [(rowB_1 h).2]
  rfl
theorem obC_ext {ad : Nat → Nat} {ci : Nat → ClassId} {σ : St} {o : Nat} {e : va_E} {τ : St} (h1 : e = obC ad ci τ o) (h2 : ∀ k, k ≠ o → obC ad ci σ k = obC ad ci τ k) : va_up (obC ad ci σ) o e = obC ad ci τ := by
  funext k
  by_cases hk : k = o
  · subst hk
    simp [va_up, h1]
  · simp [va_up, hk, h2 k hk]
theorem kiC_3 : ∀ o, o < 132 → kiC o = 3 → o = 5 := by decide +kernel
theorem kiC_9 : ∀ o, o < 132 → kiC o = 9 → o = 123 := by decide +kernel
theorem kiC_4 : ∀ o, o < 132 → kiC o = 4 → o = 6 := by decide +kernel
theorem kiC_11 : ∀ o, o < 132 → kiC o = 11 → o = 125 := by decide +kernel
theorem kiC_5 : ∀ o, o < 132 → kiC o = 5 → o = 55 ∨ o = 124 ∨ o = 126 := by decide +kernel
theorem kiC_1 : ∀ o, o < 132 → kiC o = 1 → kiC (o - 1) = 0 ∧ o - 1 + 1 = o := by decide +kernel
theorem obC_pI {ad : Nat → Nat} {ci : Nat → ClassId} {σ : St} {o : Nat} {v : Int32} {e : va_E} (he : e = obC ad ci (pI σ o v) o) : va_up (obC ad ci σ) o e = obC ad ci (pI σ o v) := by
  refine obC_ext he fun k hk => ?_
  have h1 : gI (pI σ o v) k = gI σ k := by rw [gI_pI, if_neg hk]
  unfold obC
  rw [h1]
  rfl
theorem obC_pI_row {ad : Nat → Nat} {ci : Nat → ClassId} {σ : St} {o : Nat} {v : Int32} (h : rowB o = true) : va_up (obC ad ci σ) o (.inr (2, [.ref (ad (o + 1)), .int v])) = obC ad ci (pI σ o v) := by
  refine obC_pI ?_
  rw [obC_row h, gI_pI, if_pos rfl]
theorem obC_pI_list {ad : Nat → Nat} {ci : Nat → ClassId} {σ : St} {v : Int32} : va_up (obC ad ci σ) 5 (.inr (4, [.ref (ad 6), .ref (ad 55), .ref (ad 56), .int v])) = obC ad ci (pI σ 5 v) := obC_pI rfl
theorem obC_pI_cut {ad : Nat → Nat} {ci : Nat → ClassId} {σ : St} {v : Int32} : va_up (obC ad ci σ) 123 (.inr (1, [.ref (ad 124), .ref (ad 125), .ref (ad 126), .int v])) = obC ad ci (pI σ 123 v) := obC_pI rfl
theorem obC_pA_row {ad : Nat → Nat} {ci : Nat → ClassId} {σ : St} {o i : Nat} {v : Int32} (h : rowB o = true) : va_up (obC ad ci σ) (o + 1) (.inl (ci 0, capC o, .inl (upd (gA σ o) i v))) = obC ad ci (pA σ o i v) := by
  refine obC_ext ?_ fun k hk => ?_
  · rw [obC_chars h]
    rw [gA_up]
  · have h1 : ∀ b, b ≠ o → gA (pA σ o i v) b = gA σ b := fun b hb => gA_ne hb
    unfold obC
    split <;> try rfl
    · rename_i hk1
      have h5 := kiC_1 k (kiC_lt hk1 (by decide)) hk1
      rw [h1 (k - 1) (fun q => hk (by omega))]
    · rename_i hk1
      rw [h1 k (fun q => by rw [q, rowB_k h] at hk1; cases hk1)]
theorem obC_pA_int {ad : Nat → Nat} {ci : Nat → ClassId} {σ : St} {o i : Nat} {v : Int32} (h : kiC o = 5) : va_up (obC ad ci σ) o (.inl (ci 1, capC o, .inl (upd (gA σ o) i v))) = obC ad ci (pA σ o i v) := by
  refine obC_ext ?_ fun k hk => ?_
  · unfold obC
    rw [h]
    show _ = Sum.inl (ci 1, capC o, Sum.inl (gA (pA σ o i v) o))
    rw [gA_up]
  · have h1 : ∀ b, b ≠ o → gA (pA σ o i v) b = gA σ b := fun b hb => gA_ne hb
    unfold obC
    split <;> try rfl
    · rename_i hk1
      have h5 := kiC_1 k (kiC_lt hk1 (by decide)) hk1
      rw [h1 (k - 1) (fun q => by rw [q, h] at h5; cases h5.1)]
    · rename_i hk1
      rw [h1 k hk]
theorem obC_pL {ad : Nat → Nat} {ci : Nat → ClassId} {σ : St} {i : Nat} {v : Int64} : va_up (obC ad ci σ) 125 (.inl (ci 2, 25, .inr (.inl (vp_updL (gL σ) i v)))) = obC ad ci (pL σ i v) := by
  refine obC_ext rfl fun k hk => ?_
  unfold obC
  split <;> try rfl
  rename_i hk1
  exact absurd (kiC_11 k (kiC_lt hk1 (by decide)) hk1) hk
theorem obC_pR {ad : Nat → Nat} {ci : Nat → ClassId} {σ : St} {i v : Nat} : va_up (obC ad ci σ) 6 (.inl (ci 3, 24, .inr (.inr (.inr (.inr (va_up (fun j => some (ad (gR σ j))) i (some (ad v)))))))) = obC ad ci (pR σ i v) := by
  refine obC_ext ?_ fun k hk => ?_
  · show _ = Sum.inl (ci 3, 24, Sum.inr (Sum.inr (Sum.inr (Sum.inr (fun j => some (ad (gR (pR σ i v) j)))))))
    congr 7
    funext j
    by_cases hj : j = i
    · simp [va_up, gR_pR, hj]
    · simp [va_up, gR_pR, hj]
  · unfold obC
    split <;> try rfl
    rename_i hk1
    exact absurd (kiC_4 k (kiC_lt hk1 (by decide)) hk1) hk
/-- every place of the words' rows names a row -/
def Rok (σ : St) : Prop := ∀ i, i < 24 → rowB (gR σ i) = true
theorem Rok_pR {σ : St} (h : Rok σ) {i v : Nat} (hv : rowB v = true) : Rok (pR σ i v) := by
  intro j hj
  rw [gR_pR]
  split
  · exact hv
  · exact h j hj
theorem obM_ext {ad : Nat → Nat} {ci : Nat → ClassId} {σ : St} {o : Nat} {e : va_E} {τ : St} (h1 : e = obM ad ci τ o) (h2 : ∀ k, k ≠ o → obM ad ci σ k = obM ad ci τ k) : va_up (obM ad ci σ) o e = obM ad ci τ := by
  funext k
  by_cases hk : k = o
  · subst hk
    simp [va_up, h1]
  · simp [va_up, hk, h2 k hk]
theorem kiM_lt {o k : Nat} (h : kiM o = k) (hk : k < 99) : o < 12 := by
  rcases Nat.lt_or_ge o 12 with q | q
  · exact q
  · have : kiMs.length = 12 := by decide +kernel
    rw [kiM, List.getD_eq_getElem?_getD, List.getElem?_eq_none_iff.mpr (by omega)] at h
    have : (99 : Nat) = k := h
    omega
theorem kiM_2 : ∀ o, o < 12 → kiM o = 2 → o = 0 := by decide +kernel
theorem kiM_11 : ∀ o, o < 12 → kiM o = 11 → o = 10 := by decide +kernel
theorem obM_pI {ad : Nat → Nat} {ci : Nat → ClassId} {σ : St} {k : Nat} {v : Int32} {e : va_E} (he : e = obM ad ci (pI σ k v) 0) : va_up (obM ad ci σ) 0 e = obM ad ci (pI σ k v) := by
  refine obM_ext he fun j hj => ?_
  unfold obM
  split <;> try rfl
  rename_i hk1
  exact absurd (kiM_2 j (kiM_lt hk1 (by decide)) hk1) hj
theorem obM_pA {ad : Nat → Nat} {ci : Nat → ClassId} {σ : St} {o i : Nat} {v : Int32} {e : va_E} (he : e = obM ad ci (pA σ o i v) o) : va_up (obM ad ci σ) o e = obM ad ci (pA σ o i v) := by
  refine obM_ext he fun k hk => ?_
  have h1 : gA (pA σ o i v) k = gA σ k := gA_ne hk
  unfold obM
  rw [h1]
  rfl
theorem obM_pL {ad : Nat → Nat} {ci : Nat → ClassId} {σ : St} {i : Nat} {v : Int64} : va_up (obM ad ci σ) 10 (.inl (ci 2, 25, .inr (.inl (vp_updL (gL σ) i v)))) = obM ad ci (pL σ i v) := by
  refine obM_ext rfl fun k hk => ?_
  unfold obM
  split <;> try rfl
  rename_i hk1
  exact absurd (kiM_11 k (kiM_lt hk1 (by decide)) hk1) hk
/-- the system's cells hold ob; nothing outside A has changed since H0 -/
def Sy (D : va_G) (N : Nat) (ad : Nat → Nat) (A : Nat → Prop) (H0 : Heap) (ob : Nat → va_E) (H : Heap) (locs : List Loc) : Prop :=
  va_P D vwCl (pw N ad ob) H ∧ va_D A (pw N ad ob) ∧ va_S A H0 H locs
section SYW
variable {p : Program} {l : Launch} {e : Env} {R : Room} {s : State} {m : MethodId} {args : Array Value} {below : List Frame} {meth : Method} {c : Code} {H : Heap} {locs : List Loc} {cells slots : Nat} {Q : State → Prop}
variable {cc : ByteArray} {pc : Nat} {ls : Array Slot} {rest : List Value} {D : va_G} {N : Nat} {ad : Nat → Nat} {A : Nat → Prop} {H0 : Heap} {ob : Nat → va_E} {tys : List (ClassId × FieldType)} {Ts : List Cond}
theorem w_get (hexec : p.tables.exec = Jvm.exec) (hb : c.code = cc) {own ref C : String} {T : u_T} {N1 ci index : Nat} (hts : ∀ w ∈ Ts, w.before args s = true) (hin : ∀ w ∈ u_ws C T N1, w ∈ Ts) (hown : s.vm.findClass own = some m.cls) (hK : va_K D vwCl tys s) (hY : Sy D N ad A H0 ob H locs) {o : Nat} (ho : o < N) {fs : List Value} (he : ob o = .inr (ci, fs)) (hc : vwCl[ci]? = some (C, T, N1)) (k : Nat) (hk : k < N1) (hlink : (Cond.fieldLink own index ref (T k).2.1 (T k).2.2.1).before args s = true) (hsame : (T k).1 = ref) {v : Value} (hv : fs[k]? = some v) (hdg : decode cc pc = .ok (.getfield index, 3))
    (kk : W p l e R s m args below meth c H locs cells slots Q (F0 m (pc + 3) ls (v :: rest))) : W p l e R s m args below meth c H locs cells slots Q (F0 m pc ls (.ref (ad o) :: rest)) :=
  va_get hexec hb hts hin hown hK hY.1 o (by rw [pw_get ho, he]) hc k hk hlink (fun x h => by rw [← hsame]; exact h) hv hdg kk
theorem w_put (hexec : p.tables.exec = Jvm.exec) (hb : c.code = cc) {own ref C : String} {T : u_T} {N1 ci index : Nat} (hts : ∀ w ∈ Ts, w.before args s = true) (hin : ∀ w ∈ u_ws C T N1, w ∈ Ts) (ty0 : Nat → FieldType) (hty : ∀ k, k < N1 → parseFieldDescriptor (T k).2.2.1 = some (ty0 k)) (hnm : ∀ a, a < N1 → ∀ b, b < N1 → a ≠ b → (T a).2.1 ≠ (T b).2.1) (hown : s.vm.findClass own = some m.cls) (hK : va_K D vwCl tys s) (hY : Sy D N ad A H0 ob H locs) {o : Nat} (ho : o < N) {fs : List Value} (he : ob o = .inr (ci, fs)) (hc : vwCl[ci]? = some (C, T, N1)) (k : Nat) (hk : k < N1) (hlink : (Cond.fieldLink own index ref (T k).2.1 (T k).2.2.1).before args s = true) (hsame : (T k).1 = ref) (hfin : (T k).2.2.2 = false) (hd : parseFieldDescriptor (T k).2.2.1 = some .int) {x : Int32} (hl : k < fs.length)
    (hdg : decode cc pc = .ok (.putfield index, 3)) {ob' : Nat → va_E} (hup : va_up ob o (.inr (ci, fs.set k (.int x))) = ob') (kk : ∀ (H1 : Heap) (locs1 : List Loc), Sy D N ad A H0 ob' H1 locs1 → W p l e R s m args below meth c H1 locs1 cells slots Q (F0 m (pc + 3) ls rest)) : W p l e R s m args below meth c H locs cells slots Q (F0 m pc ls (.int x :: .ref (ad o) :: rest)) := by
  refine va_put hexec hb hts hin ty0 hty hnm hown hK hY.1 hY.2.1 hY.2.2 o (by rw [pw_get ho, he]) hc k hk hlink (fun x h => by rw [← hsame]; exact h) hfin hd rfl rfl hl hdg fun H1 locs1 h1 h2 h3 => ?_
  rw [pw_set ho, hup] at h1 h2
  exact kk H1 locs1 ⟨h1, h2, h3⟩
theorem w_cald (hexec : p.tables.exec = Jvm.exec) (hb : c.code = cc) (hK : va_K D vwCl tys s) (hY : Sy D N ad A H0 ob H locs) {o : Nat} (ho : o < N) (t0 : Nat) {cA : ClassId} {n : Nat} {f : Nat → Int32} (ha : ob o = .inl (cA, n, .inl f)) (ht : tys[t0]? = some (cA, .char)) {i : Int32} (hin : vp_in i n) (hdg : decode cc pc = .ok (.caload, 1))
    (kk : W p l e R s m args below meth c H locs cells slots Q (F0 m (pc + 1) ls (.int (f i.toNatClampNeg) :: rest))) : W p l e R s m args below meth c H locs cells slots Q (F0 m pc ls (.int i :: .ref (ad o) :: rest)) :=
  va_cald hexec hb hK hY.1 o t0 (by rw [pw_get ho, ha]) ht hin hdg kk
theorem w_iald (hexec : p.tables.exec = Jvm.exec) (hb : c.code = cc) (hK : va_K D vwCl tys s) (hY : Sy D N ad A H0 ob H locs) {o : Nat} (ho : o < N) (t0 : Nat) {cA : ClassId} {n : Nat} {f : Nat → Int32} (ha : ob o = .inl (cA, n, .inl f)) (ht : tys[t0]? = some (cA, .int)) {i : Int32} (hin : vp_in i n) (hdg : decode cc pc = .ok (.iaload, 1))
    (kk : W p l e R s m args below meth c H locs cells slots Q (F0 m (pc + 1) ls (.int (f i.toNatClampNeg) :: rest))) : W p l e R s m args below meth c H locs cells slots Q (F0 m pc ls (.int i :: .ref (ad o) :: rest)) :=
  va_iald hexec hb hK hY.1 o t0 (by rw [pw_get ho, ha]) ht hin hdg kk
theorem w_lald (hexec : p.tables.exec = Jvm.exec) (hb : c.code = cc) (hK : va_K D vwCl tys s) (hY : Sy D N ad A H0 ob H locs) {o : Nat} (ho : o < N) (t0 : Nat) {cA : ClassId} {n : Nat} {f : Nat → Int64} (ha : ob o = .inl (cA, n, .inr (.inl f))) (ht : tys[t0]? = some (cA, .long)) {i : Int32} (hin : vp_in i n) (hdg : decode cc pc = .ok (.laload, 1))
    (kk : W p l e R s m args below meth c H locs cells slots Q (F0 m (pc + 1) ls (.long (f i.toNatClampNeg) :: rest))) : W p l e R s m args below meth c H locs cells slots Q (F0 m pc ls (.int i :: .ref (ad o) :: rest)) :=
  va_lald hexec hb hK hY.1 o t0 (by rw [pw_get ho, ha]) ht hin hdg kk
theorem w_aald (hexec : p.tables.exec = Jvm.exec) (hb : c.code = cc) (hK : va_K D vwCl tys s) (hY : Sy D N ad A H0 ob H locs) {o : Nat} (ho : o < N) (t0 : Nat) {cA : ClassId} {C : String} {n : Nat} {f : Nat → Nat} (ha : ob o = .inl (cA, n, .inr (.inr (.inr (.inr (fun i => some (ad (f i)))))))) (ht : tys[t0]? = some (cA, .object C)) {i : Int32} (hin : vp_in i n) (hdg : decode cc pc = .ok (.aaload, 1))
    (kk : W p l e R s m args below meth c H locs cells slots Q (F0 m (pc + 1) ls (.ref (ad (f i.toNatClampNeg)) :: rest))) : W p l e R s m args below meth c H locs cells slots Q (F0 m pc ls (.int i :: .ref (ad o) :: rest)) :=
  va_aldq (f := fun i => some (ad (f i))) hexec hb hK hY.1 o t0 (by rw [pw_get ho, ha]) ht hin hdg kk
theorem w_cast (hexec : p.tables.exec = Jvm.exec) (hb : c.code = cc) (hK : va_K D vwCl tys s) (hY : Sy D N ad A H0 ob H locs) {o : Nat} (ho : o < N) (t0 : Nat) {cA : ClassId} {n : Nat} {f : Nat → Int32} (ha : ob o = .inl (cA, n, .inl f)) (ht : tys[t0]? = some (cA, .char)) {i x : Int32} (hin : vp_in i n) (hdg : decode cc pc = .ok (.castore, 1)) {ob' : Nat → va_E} (hup : va_up ob o (.inl (cA, n, .inl (upd f i.toNatClampNeg (vp_nar .char x)))) = ob')
    (kk : ∀ (H1 : Heap) (locs1 : List Loc), Sy D N ad A H0 ob' H1 locs1 → W p l e R s m args below meth c H1 locs1 cells slots Q (F0 m (pc + 1) ls rest)) : W p l e R s m args below meth c H locs cells slots Q (F0 m pc ls (.int x :: .int i :: .ref (ad o) :: rest)) := by
  refine va_cast hexec hb hK hY.1 hY.2.1 hY.2.2 o t0 (by rw [pw_get ho, ha]) ht hin hdg fun H1 locs1 h1 h2 h3 => ?_
  rw [pw_set ho, hup] at h1 h2
  exact kk H1 locs1 ⟨h1, h2, h3⟩
theorem w_iast (hexec : p.tables.exec = Jvm.exec) (hb : c.code = cc) (hK : va_K D vwCl tys s) (hY : Sy D N ad A H0 ob H locs) {o : Nat} (ho : o < N) (t0 : Nat) {cA : ClassId} {n : Nat} {f : Nat → Int32} (ha : ob o = .inl (cA, n, .inl f)) (ht : tys[t0]? = some (cA, .int)) {i x : Int32} (hin : vp_in i n) (hdg : decode cc pc = .ok (.iastore, 1)) {ob' : Nat → va_E} (hup : va_up ob o (.inl (cA, n, .inl (upd f i.toNatClampNeg x))) = ob')
    (kk : ∀ (H1 : Heap) (locs1 : List Loc), Sy D N ad A H0 ob' H1 locs1 → W p l e R s m args below meth c H1 locs1 cells slots Q (F0 m (pc + 1) ls rest)) : W p l e R s m args below meth c H locs cells slots Q (F0 m pc ls (.int x :: .int i :: .ref (ad o) :: rest)) := by
  refine va_iast hexec hb hK hY.1 hY.2.1 hY.2.2 o t0 (by rw [pw_get ho, ha]) ht hin hdg fun H1 locs1 h1 h2 h3 => ?_
  rw [pw_set ho, hup] at h1 h2
  exact kk H1 locs1 ⟨h1, h2, h3⟩
theorem w_last (hexec : p.tables.exec = Jvm.exec) (hb : c.code = cc) (hK : va_K D vwCl tys s) (hY : Sy D N ad A H0 ob H locs) {o : Nat} (ho : o < N) (t0 : Nat) {cA : ClassId} {n : Nat} {f : Nat → Int64} (ha : ob o = .inl (cA, n, .inr (.inl f))) (ht : tys[t0]? = some (cA, .long)) {i : Int32} {x : Int64} (hin : vp_in i n) (hdg : decode cc pc = .ok (.lastore, 1)) {ob' : Nat → va_E} (hup : va_up ob o (.inl (cA, n, .inr (.inl (vp_updL f i.toNatClampNeg x)))) = ob')
    (kk : ∀ (H1 : Heap) (locs1 : List Loc), Sy D N ad A H0 ob' H1 locs1 → W p l e R s m args below meth c H1 locs1 cells slots Q (F0 m (pc + 1) ls rest)) : W p l e R s m args below meth c H locs cells slots Q (F0 m pc ls (.long x :: .int i :: .ref (ad o) :: rest)) := by
  refine va_last hexec hb hK hY.1 hY.2.1 hY.2.2 o t0 (by rw [pw_get ho, ha]) ht hin hdg fun H1 locs1 h1 h2 h3 => ?_
  rw [pw_set ho, hup] at h1 h2
  exact kk H1 locs1 ⟨h1, h2, h3⟩
theorem w_aast (hexec : p.tables.exec = Jvm.exec) (hb : c.code = cc) (hK : va_K D vwCl tys s) (hY : Sy D N ad A H0 ob H locs) {o qk ci : Nat} (ho : o < N) (hqk : qk < N) (t0 : Nat) {cA : ClassId} {r : vw_C} {n : Nat} {vs : List Value} {f : Nat → Option Nat} (ha : ob o = .inl (cA, n, .inr (.inr (.inr (.inr f))))) (ht : tys[t0]? = some (cA, .object r.1)) (hv : ob qk = .inr (ci, vs)) (hc : vwCl[ci]? = some r) {i : Int32} (hin : vp_in i n) (hdg : decode cc pc = .ok (.aastore, 1)) {ob' : Nat → va_E} (hup : va_up ob o (.inl (cA, n, .inr (.inr (.inr (.inr (va_up f i.toNatClampNeg (some (ad qk)))))))) = ob')
    (kk : ∀ (H1 : Heap) (locs1 : List Loc), Sy D N ad A H0 ob' H1 locs1 → W p l e R s m args below meth c H1 locs1 cells slots Q (F0 m (pc + 1) ls rest)) : W p l e R s m args below meth c H locs cells slots Q (F0 m pc ls (.ref (ad qk) :: .int i :: .ref (ad o) :: rest)) := by
  refine va_astq hexec hb hK hY.1 hY.2.1 hY.2.2 o t0 qk ci (by rw [pw_get ho, ha]) ht (by rw [pw_get hqk, hv]) hc hin hdg fun H1 locs1 h1 h2 h3 => ?_
  rw [pw_set ho, hup] at h1 h2
  exact kk H1 locs1 ⟨h1, h2, h3⟩
theorem w_alen (hexec : p.tables.exec = Jvm.exec) (hb : c.code = cc) (hK : va_K D vwCl tys s) (hY : Sy D N ad A H0 ob H locs) {o : Nat} (ho : o < N) (t0 : Nat) {cA : ClassId} {x : vp_A} (ha : ob o = .inl (cA, x)) {ty : FieldType} (ht : tys[t0]? = some (cA, ty)) {v : Int32} (hv : Int32.ofNat x.1 = v) (hdg : decode cc pc = .ok (.arraylength, 1))
    (kk : W p l e R s m args below meth c H locs cells slots Q (F0 m (pc + 1) ls (.int v :: rest))) : W p l e R s m args below meth c H locs cells slots Q (F0 m pc ls (.ref (ad o) :: rest)) :=
  va_alen hexec hb hK hY.1 o t0 (by rw [pw_get ho, ha]) ht hv hdg kk
end SYW
/-- the classes, and the links to a nest mate's private methods -/
def Kx (D : va_G) (tys : List (ClassId × FieldType)) (U : State) : Prop := va_K D vwCl tys U ∧ va_Nw (.methodLinkNest RX0 20 yX5_signOf RX5) U ∧ va_Nw (.methodLinkNest RX0 35 yX5_isSign RX5) U
theorem Kx.warm {D : va_G} {tys : List (ClassId × FieldType)} {s U : State} (hW : s.WarmedH U.vm) (h : Kx D tys s) : Kx D tys U := ⟨va_K.moved hW.alike h.1, va_Nw.warmM hW h.2.1, va_Nw.warmM hW h.2.2⟩
/-- a method's start: the system's cells hold ob -/
def PreW (D : va_G) (N : Nat) (ad : Nat → Nat) (A : Nat → Prop) (tys : List (ClassId × FieldType)) (ob : Nat → va_E) : State → Prop := fun U => va_P D vwCl (pw N ad ob) U.heap ∧ Kx D tys U ∧ va_D A (pw N ad ob)
/-- a method's end -/
def PostW (D : va_G) (N : Nat) (ad : Nat → Nat) (tys : List (ClassId × FieldType)) (ob : St → Nat → va_E) (I : St → Prop) (σ : St) : State → Prop := fun t => va_P D vwCl (pw N ad (ob σ)) t.heap ∧ Kx D tys t ∧ I σ
theorem w_blind {avs : List Value} {D : va_G} {N : Nat} {ad : Nat → Nat} {A : Nat → Prop} {tys : List (ClassId × FieldType)} {ob : Nat → va_E} : FrameBlind (va_Pc avs (PreW D N ad A tys ob)) := fun a U g mk q => by
  obtain ⟨q0, qP, qK, qD⟩ := q
  exact ⟨q0, qP, ⟨va_K.moved (u := U) (U := U.calling g mk a) (Vm.Alike.refl U.vm) qK.1, va_Nw.same rfl rfl qK.2.1, va_Nw.same rfl rfl qK.2.2⟩, qD⟩
section SYC
variable {p : Program} {l : Launch} {e : Env} {R : Room} {s : State} {m : MethodId} {args : Array Value} {below : List Frame} {meth : Method} {c : Code} {H : Heap} {locs : List Loc} {cells slots : Nat} {Q : State → Prop}
variable {cc bytes : ByteArray} {pc : Nat} {ls : Array Slot} {rest As : List Value} {D : va_G} {N : Nat} {ad : Nat → Nat} {A : Nat → Prop} {H0 : Heap} {ob : St → Nat → va_E} {I : St → Prop} {tys : List (ClassId × FieldType)} {Ts ws : List Cond} {own C : String} {y : MethodName} {nL maxL index n : Nat} {ret : Option FieldType} {rm : Room} {σ : St}
theorem w_preS (hK : Kx D tys s) (hY : Sy D N ad A H0 (ob σ) H locs) : PreS s H (va_Pc As (PreW D N ad A tys (ob σ))) As :=
  ⟨w_blind, fun U hU hW => ⟨rfl, by rw [hU]; exact hY.1, Kx.warm hW hK, hY.2.1⟩⟩
theorem w_preV (hK : Kx D tys s) (hY : Sy D N ad A H0 (ob σ) H locs) {o ci : Nat} (ho : o < N) {fs : List Value} (he : ob σ o = .inr (ci, fs)) {r : vw_C} (hc : vwCl[ci]? = some r) (hr : r.1 = C) : PreV s H C (ad o) (va_Pc (.ref (ad o) :: As) (PreW D N ad A tys (ob σ))) As :=
  ⟨w_blind, by
    subst hr
    exact va_recv (fs := fs) hK.1 hY.1 (ci := ci) (q0 := o) hc (by rw [pw_get ho, he]), fun U hU hW => ⟨rfl, by rw [hU]; exact hY.1, Kx.warm hW hK, hY.2.1⟩⟩
theorem w_D {σ τ : St} (h : va_D A (pw N ad (ob σ))) : va_D A (pw N ad (ob τ)) := by
  refine ⟨fun i j x y hx hy e => ?_, fun k q hk => ?_⟩
  · obtain ⟨hi, rfl⟩ := pw_of hx
    obtain ⟨hj, rfl⟩ := pw_of hy
    exact h.1 i j _ _ (pw_get hi) (pw_get hj) e
  · obtain ⟨hk1, rfl⟩ := pw_of hk
    exact h.2 k (ad k, ob σ k) (pw_get hk1)
theorem w_calli {post : Int32 → St → Prop} {st0 : List Value} {a : Array Value} (hr : va_Run p l e R s m args below meth c H locs cells slots 0 0 (F0 m pc ls st0) rest (va_Qi post (PostW D N ad tys ob I) A a) A) (hY : Sy D N ad A H0 (ob σ) H locs)
    (kk : ∀ (r : Int32) (u : St) (H1 : Heap) (locs1 : List Loc), post r u → Sy D N ad A H0 (ob u) H1 locs1 → I u → W p l e R s m args below meth c H1 locs1 cells slots Q (F0 m (pc + 3) ls (.int r :: rest))) : W p l e R s m args below meth c H locs cells slots Q (F0 m pc ls st0) :=
  va_calli hr hY.2.2 (fun q _ h => h) (fun q h => h) fun r u t H1 locs1 ht _ hp hB _ _ hS => kk r u H1 locs1 hp ⟨by rw [← ht]; exact hB.1, w_D hY.2.1, hS⟩ hB.2.2
theorem w_calll {post : Int64 → St → Prop} {st0 : List Value} {a : Array Value} (hr : va_Run p l e R s m args below meth c H locs cells slots 0 0 (F0 m pc ls st0) rest (va_Ql post (PostW D N ad tys ob I) A a) A) (hY : Sy D N ad A H0 (ob σ) H locs)
    (kk : ∀ (r : Int64) (u : St) (H1 : Heap) (locs1 : List Loc), post r u → Sy D N ad A H0 (ob u) H1 locs1 → I u → W p l e R s m args below meth c H1 locs1 cells slots Q (F0 m (pc + 3) ls (.long r :: rest))) : W p l e R s m args below meth c H locs cells slots Q (F0 m pc ls st0) :=
  va_calll hr hY.2.2 (fun q _ h => h) (fun q h => h) fun r u t H1 locs1 ht _ hp hB _ _ hS => kk r u H1 locs1 hp ⟨by rw [← ht]; exact hB.1, w_D hY.2.1, hS⟩ hB.2.2
theorem w_callv {post : St → Prop} {st0 : List Value} {a : Array Value} (hr : va_Run p l e R s m args below meth c H locs cells slots 0 0 (F0 m pc ls st0) rest (va_Qv post (PostW D N ad tys ob I) A a) A) (hY : Sy D N ad A H0 (ob σ) H locs)
    (kk : ∀ (u : St) (H1 : Heap) (locs1 : List Loc), post u → Sy D N ad A H0 (ob u) H1 locs1 → I u → W p l e R s m args below meth c H1 locs1 cells slots Q (F0 m (pc + 3) ls rest)) : W p l e R s m args below meth c H locs cells slots Q (F0 m pc ls st0) :=
  va_callv hr hY.2.2 (fun q _ h => h) (fun q h => h) fun u t H1 locs1 ht _ hp hB _ _ hS => kk u H1 locs1 hp ⟨by rw [← ht]; exact hB.1, w_D hY.2.1, hS⟩ hB.2.2
/-- a method that answers a row: its object number comes with it -/
theorem w_callr {post : Nat × St → Prop} {st0 : List Value} {a : Array Value} (hr : va_Run p l e R s m args below meth c H locs cells slots 0 0 (F0 m pc ls st0) rest (va_Qr post (fun u b t => b = ad u.1 ∧ PostW D N ad tys ob I u.2 t) A a) A) (hY : Sy D N ad A H0 (ob σ) H locs)
    (kk : ∀ (r : Nat) (u : St) (H1 : Heap) (locs1 : List Loc), post (r, u) → Sy D N ad A H0 (ob u) H1 locs1 → I u → W p l e R s m args below meth c H1 locs1 cells slots Q (F0 m (pc + 3) ls (.ref (ad r) :: rest))) : W p l e R s m args below meth c H locs cells slots Q (F0 m pc ls st0) :=
  va_callr hr hY.2.2 (fun q _ h => h) (fun q h => h) fun u b t H1 locs1 ht _ hp hB _ _ hS => by
    obtain ⟨rfl, hB⟩ := hB
    exact kk u.1 u.2 H1 locs1 hp ⟨by rw [← ht]; exact hB.1, w_D hY.2.1, hS⟩ hB.2.2
/-- calls of methods that write nothing -/
theorem w_callip {post : Int32 → Prop} {st0 : List Value} {a : Array Value} (hr : va_Run p l e R s m args below meth c H locs cells slots 0 0 (F0 m pc ls st0) rest (va_Qi (fun r (_ : Unit) => post r) (fun _ => PostW D N ad tys ob I σ) A a) A) (hY : Sy D N ad A H0 (ob σ) H locs)
    (kk : ∀ (r : Int32) (H1 : Heap) (locs1 : List Loc), post r → Sy D N ad A H0 (ob σ) H1 locs1 → W p l e R s m args below meth c H1 locs1 cells slots Q (F0 m (pc + 3) ls (.int r :: rest))) : W p l e R s m args below meth c H locs cells slots Q (F0 m pc ls st0) :=
  va_calli hr hY.2.2 (fun q _ h => h) (fun q h => h) fun r u t H1 locs1 ht _ hp hB _ _ hS => kk r H1 locs1 hp ⟨by rw [← ht]; exact hB.1, hY.2.1, hS⟩
theorem w_calllp {post : Int64 → Prop} {st0 : List Value} {a : Array Value} (hr : va_Run p l e R s m args below meth c H locs cells slots 0 0 (F0 m pc ls st0) rest (va_Ql (fun r (_ : Unit) => post r) (fun _ => PostW D N ad tys ob I σ) A a) A) (hY : Sy D N ad A H0 (ob σ) H locs)
    (kk : ∀ (r : Int64) (H1 : Heap) (locs1 : List Loc), post r → Sy D N ad A H0 (ob σ) H1 locs1 → W p l e R s m args below meth c H1 locs1 cells slots Q (F0 m (pc + 3) ls (.long r :: rest))) : W p l e R s m args below meth c H locs cells slots Q (F0 m pc ls st0) :=
  va_calll hr hY.2.2 (fun q _ h => h) (fun q h => h) fun r u t H1 locs1 ht _ hp hB _ _ hS => kk r H1 locs1 hp ⟨by rw [← ht]; exact hB.1, hY.2.1, hS⟩
theorem w_callrp {post : Nat → Prop} {st0 : List Value} {a : Array Value} (hr : va_Run p l e R s m args below meth c H locs cells slots 0 0 (F0 m pc ls st0) rest (va_Qr (fun (r : Nat) => post r) (fun r b t => b = ad r ∧ PostW D N ad tys ob I σ t) A a) A) (hY : Sy D N ad A H0 (ob σ) H locs)
    (kk : ∀ (r : Nat) (H1 : Heap) (locs1 : List Loc), post r → Sy D N ad A H0 (ob σ) H1 locs1 → W p l e R s m args below meth c H1 locs1 cells slots Q (F0 m (pc + 3) ls (.ref (ad r) :: rest))) : W p l e R s m args below meth c H locs cells slots Q (F0 m pc ls st0) :=
  va_callr hr hY.2.2 (fun q _ h => h) (fun q h => h) fun u b t H1 locs1 ht _ hp hB _ _ hS => by
    obtain ⟨rfl, hB⟩ := hB
    exact kk u H1 locs1 hp ⟨by rw [← ht]; exact hB.1, hY.2.1, hS⟩
/-- the ends of a method -/
theorem w_iret {S : Type} {post : Int32 → S → Prop} {B : S → State → Prop} {r : Int32} {u : S} {v : St} (hx : p.tables.exec = Jvm.exec) (hb : c.code = cc) (hr : meth.sig.returnType = some .int) (hlocks : meth.locks = false) (hK : Kx D tys s) (hp : post r u) (hB : ∀ t, PostW D N ad tys ob I v t → B u t) (hY : Sy D N ad A s.heap (ob v) H locs) (hI : I v) (hdg : decode cc pc = .ok (.ireturn, 1)) : W p l e R s m args below meth c H locs cells slots (MQ below (va_Qi post B A) args s cells slots A) (F0 m pc ls [.int r]) :=
  W.iret hx hb hr (fun t ht hW => ⟨⟨r, u, rfl, hp, hB t ⟨by rw [ht]; exact hY.1, Kx.warm hW hK, hI⟩⟩, hY.2.2.F ht⟩) hY.2.2.2.2 hdg
theorem w_zret {S : Type} {post : Int32 → S → Prop} {B : S → State → Prop} {r : Int32} {u : S} {v : St} {ty : FieldType} (hx : p.tables.exec = Jvm.exec) (hb : c.code = cc) (hr : meth.sig.returnType = some ty) (hn : narrow ty (.int r) = .int r) (hlocks : meth.locks = false) (hK : Kx D tys s) (hp : post r u) (hB : ∀ t, PostW D N ad tys ob I v t → B u t) (hY : Sy D N ad A s.heap (ob v) H locs) (hI : I v) (hdg : decode cc pc = .ok (.ireturn, 1)) : W p l e R s m args below meth c H locs cells slots (MQ below (va_Qi post B A) args s cells slots A) (F0 m pc ls [.int r]) :=
  W.zret hx hb hr hn (fun t ht hW => ⟨⟨r, u, rfl, hp, hB t ⟨by rw [ht]; exact hY.1, Kx.warm hW hK, hI⟩⟩, hY.2.2.F ht⟩) hY.2.2.2.2 hdg
theorem w_lret {S : Type} {post : Int64 → S → Prop} {B : S → State → Prop} {r : Int64} {u : S} {v : St} (hx : p.tables.exec = Jvm.exec) (hb : c.code = cc) (hr : meth.sig.returnType = some .long) (hlocks : meth.locks = false) (hK : Kx D tys s) (hp : post r u) (hB : ∀ t, PostW D N ad tys ob I v t → B u t) (hY : Sy D N ad A s.heap (ob v) H locs) (hI : I v) (hdg : decode cc pc = .ok (.lreturn, 1)) : W p l e R s m args below meth c H locs cells slots (MQ below (va_Ql post B A) args s cells slots A) (F0 m pc ls [.long r]) :=
  W.lret hx hb hr (fun t ht hW => ⟨⟨r, u, rfl, hp, hB t ⟨by rw [ht]; exact hY.1, Kx.warm hW hK, hI⟩⟩, hY.2.2.F ht⟩) hY.2.2.2.2 hdg
theorem w_vret {S : Type} {post : S → Prop} {B : S → State → Prop} {u : S} {v : St} (hx : p.tables.exec = Jvm.exec) (hb : c.code = cc) (hr : meth.sig.returnType = none) (hlocks : meth.locks = false) (hK : Kx D tys s) (hp : post u) (hB : ∀ t, PostW D N ad tys ob I v t → B u t) (hY : Sy D N ad A s.heap (ob v) H locs) (hI : I v) (hdg : decode cc pc = .ok (.return_, 1)) : W p l e R s m args below meth c H locs cells slots (MQ below (va_Qv post B A) args s cells slots A) (F0 m pc ls []) :=
  W.vret hx hb hr (fun t ht hW => ⟨⟨u, rfl, hp, hB t ⟨by rw [ht]; exact hY.1, Kx.warm hW hK, hI⟩⟩, hY.2.2.F ht⟩) hY.2.2.2.2 hdg
theorem w_rret {post : Nat → Prop} {B : Nat → Nat → State → Prop} {r : Nat} {v : St} (hx : p.tables.exec = Jvm.exec) (hb : c.code = cc) {nm : String} (hr : meth.sig.returnType = some (.object nm)) (hlocks : meth.locks = false) (hK : Kx D tys s) (hp : post r) (hB : ∀ t, PostW D N ad tys ob I v t → B r (ad r) t) (hY : Sy D N ad A s.heap (ob v) H locs) (hI : I v) (hdg : decode cc pc = .ok (.areturn, 1)) : W p l e R s m args below meth c H locs cells slots (MQ below (va_Qr post B A) args s cells slots A) (F0 m pc ls [.ref (ad r)]) :=
  W.aret hx hb hr (Or.inl ⟨_, rfl⟩) (Or.inr ⟨_, rfl⟩) (fun t ht hW => ⟨⟨r, ad r, rfl, hp, hB t ⟨by rw [ht]; exact hY.1, Kx.warm hW hK, hI⟩⟩, hY.2.2.F ht⟩) hY.2.2.2.2 hdg
end SYC
theorem vp_lt {i : Int32} {n : Nat} (h : vp_in i n) : i.toNatClampNeg < n := Nat.not_le.mp fun q => h (Or.inr q)
abbrev tyC (ci : Nat → ClassId) : List (ClassId × FieldType) := [(ci 0, .char), (ci 1, .int), (ci 2, .long), (ci 3, .object RX2)]
theorem obC_main {ad : Nat → Nat} {ci : Nat → ClassId} {σ : St} : obC ad ci σ 0 = .inr (5, [.ref (ad 1), .ref (ad 3), .ref (ad 5), .ref (ad 58), .ref (ad 123), .ref (ad 127)]) := rfl
theorem obC_list {ad : Nat → Nat} {ci : Nat → ClassId} {σ : St} : obC ad ci σ 5 = .inr (4, [.ref (ad 6), .ref (ad 55), .ref (ad 56), .int (gI σ 5)]) := rfl
theorem obC_book {ad : Nat → Nat} {ci : Nat → ClassId} {σ : St} : obC ad ci σ 58 = .inr (0, [.ref (ad 59), .ref (ad 72), .ref (ad 121)]) := rfl
theorem obC_cut {ad : Nat → Nat} {ci : Nat → ClassId} {σ : St} : obC ad ci σ 123 = .inr (1, [.ref (ad 124), .ref (ad 125), .ref (ad 126), .int (gI σ 123)]) := rfl
theorem obC_thm {ad : Nat → Nat} {ci : Nat → ClassId} {σ : St} : obC ad ci σ 127 = .inr (3, [.ref (ad 128), .ref (ad 130)]) := rfl
theorem obM_main {ad : Nat → Nat} {ci : Nat → ClassId} {σ : St} : obM ad ci σ 0 = .inr (6, [.int (gI σ 0), .ref (ad 1), .ref (ad 2), .ref (ad 3), .ref (ad 4), .ref (ad 5), .ref (ad 6), .ref (ad 7), .int (gI σ 1), .int (gI σ 2), .ref (ad 8), .ref (ad 9), .ref (ad 10), .ref (ad 11)]) := rfl
abbrev tyM (ci : Nat → ClassId) : List (ClassId × FieldType) := [(ci 0, .char), (ci 1, .int), (ci 2, .long)]
def tt (_ : St) : Prop := True
