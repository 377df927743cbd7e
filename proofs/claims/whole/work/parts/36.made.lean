/-! MAKING THE OBJECTS: each stands at the next address -/
abbrev adz (sz : Nat) : Nat → Nat := fun o => sz + o
abbrev Az (sz : Nat) : Nat → Prop := fun q => sz ≤ q
theorem pw_congr {N : Nat} {ad : Nat → Nat} {ob ob' : Nat → va_E} (h : ∀ o, o < N → ob' o = ob o) : pw N ad ob' = pw N ad ob :=
  List.map_congr_left fun o ho => by rw [h o (List.mem_range.mp ho)]
theorem pw_len (N : Nat) (ad : Nat → Nat) (ob : Nat → va_E) : (pw N ad ob).length = N := by simp [pw]
theorem pw_next {N : Nat} {ad : Nat → Nat} {ob ob' : Nat → va_E} {e : va_E} (h : ∀ o, o < N → ob' o = ob o) (hN : ob' N = e) : pw N ad ob ++ [(ad N, e)] = pw (N + 1) ad ob' := by
  rw [← pw_congr h]
  simp only [pw, List.range_succ, List.map_append, List.map_cons, List.map_nil, hN]
section SIZ
variable {p : Program} {l : Launch} {e : Env} {R : Room} {s : State} {m : MethodId} {args : Array Value} {below : List Frame} {meth : Method} {c : Code} {H : Heap} {locs : List Loc} {cells slots : Nat} {Q : State → Prop}
/-- no more cells than were counted -/
theorem W_size {g : JFrame} (k : H.size ≤ s.heap.size + cells → W p l e R s m args below meth c H locs cells slots Q g) : W p l e R s m args below meth c H locs cells slots Q g :=
  fun T hT X => k (by subst hT; exact X.same.2.2.1) T hT X
end SIZ
theorem z_fix {D : va_G} {sz N q : Nat} {ob ob' : Nat → va_E} {e : va_E} {H0 H1 : Heap} {locs : List Loc} (hP : va_P D vwCl (pw N (adz sz) ob ++ [(q, e)]) H1) (hD : va_D (Az sz) (pw N (adz sz) ob ++ [(q, e)])) (hS : va_S (Az sz) H0 H1 locs) (hz : H1.size ≤ sz + (N + 1)) (h : ∀ o, o < N → ob' o = ob o) (hN : ob' N = e) : q = sz + N ∧ Sy D (N + 1) (adz sz) (Az sz) H0 ob' H1 locs := by
  have hl := pw_len N (adz sz) ob
  have g0 : (pw N (adz sz) ob ++ [(q, e)])[N]? = some (q, e) := by
    rw [List.getElem?_append_right (by omega), hl, Nat.sub_self]; rfl
  have h1 : q < H1.size := (hP N _ g0).lt
  have h2 : sz ≤ q := hD.2 N _ g0
  have hq : q = sz + N := by
    rcases Nat.lt_or_ge (q - sz) N with z | z
    · have g1 : (pw N (adz sz) ob ++ [(q, e)])[q - sz]? = some (q, ob (q - sz)) := by
        rw [List.getElem?_append_left (by omega), pw_get z]
        show some (sz + (q - sz), _) = _
        rw [show sz + (q - sz) = q by omega]
      have := hD.1 _ _ _ _ g1 g0 rfl
      omega
    · omega
  subst hq
  have e1 := pw_next (ad := adz sz) h hN
  rw [e1] at hP hD
  exact ⟨rfl, hP, hD, hS⟩
theorem z_D {A : Nat → Prop} {N : Nat} {ad : Nat → Nat} {ob ob' : Nat → va_E} (h : va_D A (pw N ad ob)) : va_D A (pw N ad ob') := by
  refine ⟨fun i j x y hx hy e => ?_, fun k q hk => ?_⟩
  · obtain ⟨hi, rfl⟩ := pw_of hx
    obtain ⟨hj, rfl⟩ := pw_of hy
    exact h.1 i j _ _ (pw_get hi) (pw_get hj) e
  · obtain ⟨hk1, rfl⟩ := pw_of hk
    exact h.2 k (ad k, ob k) (pw_get hk1)
/-- one object changed -/
theorem z_set {D : va_G} {N : Nat} {ad : Nat → Nat} {A : Nat → Prop} {ob ob' : Nat → va_E} {o : Nat} {e1 : va_E} {H0 H1 : Heap} {locs : List Loc} (ho : o < N) (hP : va_P D vwCl ((pw N ad ob).set o (ad o, e1)) H1) (hD : va_D A ((pw N ad ob).set o (ad o, e1))) (hS : va_S A H0 H1 locs) (h : ∀ k, k < N → k ≠ o → ob' k = ob k) (hN : ob' o = e1) : Sy D N ad A H0 ob' H1 locs := by
  have e : (pw N ad ob).set o (ad o, e1) = pw N ad ob' := by
    rw [pw_set ho]
    refine (pw_congr fun k hk => ?_).symm
    by_cases q : k = o
    · subst q; simp [va_up, hN]
    · simp [va_up, q, h k hk q]
  rw [e] at hP hD
  exact ⟨hP, hD, hS⟩
/-- the same cells told otherwise -/
theorem z_same {D : va_G} {N : Nat} {ad : Nat → Nat} {A : Nat → Prop} {ob ob' : Nat → va_E} {H0 H : Heap} {locs : List Loc} (hY : Sy D N ad A H0 ob H locs) (h : ∀ o, o < N → va_at D vwCl (ad o, ob o) H → va_at D vwCl (ad o, ob' o) H) : Sy D N ad A H0 ob' H locs :=
  ⟨fun k q hk => by
    obtain ⟨hk1, rfl⟩ := pw_of hk
    exact h k hk1 (hY.1 k _ (pw_get hk1)), z_D hY.2.1, hY.2.2⟩
theorem arrV_ext {cA : ClassId} {n : Nat} {f g : Nat → Value} (h : ∀ j, j < n → f j = g j) : arrV cA n f = arrV cA n g := by
  have e : (fun j : Fin n => f j.val) = fun j : Fin n => g j.val := funext fun j => h j.1 j.2
  unfold arrV
  rw [e]
theorem cls_uniq {D : va_G} {cl : List vw_C} {tys : List (ClassId × FieldType)} {s : State} (h : va_K D cl tys s) {i j : Nat} {c1 c2 : ClassId} {ty : FieldType} (h1 : tys[i]? = some (c1, ty)) (h2 : tys[j]? = some (c2, ty)) : c1 = c2 := by
  have a1 := (h.2 i _ h1).2
  have a2 := (h.2 j _ h2).2
  cases ty with
  | object C =>
    obtain ⟨_, _, _, _, _, b1⟩ := a1
    obtain ⟨_, _, _, _, _, b2⟩ := a2
    exact Option.some.inj (b1.symm.trans b2)
  | _ => exact Option.some.inj (a1.symm.trans a2)
theorem cls_new {D : va_G} {cl : List vw_C} {tys : List (ClassId × FieldType)} {s : State} {cA c0 : ClassId} {ty : FieldType} (h : va_K D cl (tys ++ [(cA, ty)]) s) {i : Nat} (h1 : tys[i]? = some (c0, ty)) : cA = c0 := by
  have hi : i < tys.length := (List.getElem?_eq_some_iff.mp h1).1
  refine cls_uniq h (i := tys.length) (j := i) ?_ ?_ (ty := ty)
  · rw [List.getElem?_append_right (Nat.le_refl _), Nat.sub_self]; rfl
  · rw [List.getElem?_append_left hi]; exact h1
/-- a constructor's start and end -/
def Kz (D : va_G) (tys : List (ClassId × FieldType)) (U : State) : Prop := Kx D tys U ∧ va_AO RX2 U
def PreZ (D : va_G) (sz N : Nat) (tys : List (ClassId × FieldType)) (ob : Nat → va_E) : State → Prop := fun U => U.heap.size = sz + N ∧ va_P D vwCl (pw N (adz sz) ob) U.heap ∧ Kz D tys U ∧ va_D (Az sz) (pw N (adz sz) ob)
def PostZ (D : va_G) (sz N : Nat) (ob : Nat → va_E) : State → Prop := fun t => va_P D vwCl (pw N (adz sz) ob) t.heap
theorem Kz.warm {D : va_G} {tys : List (ClassId × FieldType)} {s U : State} (hW : s.WarmedH U.vm) (h : Kz D tys s) : Kz D tys U := ⟨h.1.warm hW, va_AO.moved hW.alike h.2⟩
theorem z_blind {avs : List Value} {D : va_G} {sz N : Nat} {tys : List (ClassId × FieldType)} {ob : Nat → va_E} : FrameBlind (va_Pc avs (PreZ D sz N tys ob)) := fun a U g mk q => by
  obtain ⟨q0, qz, qP, ⟨qK, qO⟩, qD⟩ := q
  exact ⟨q0, qz, qP, ⟨⟨va_K.moved (u := U) (U := U.calling g mk a) (Vm.Alike.refl U.vm) qK.1, va_Nw.same rfl rfl qK.2.1, va_Nw.same rfl rfl qK.2.2⟩, va_AO.moved (u := U) (U := U.calling g mk a) (Vm.Alike.refl U.vm) qO⟩, qD⟩
section ZC
variable {p : Program} {l : Launch} {e : Env} {R : Room} {s : State} {m : MethodId} {args : Array Value} {below : List Frame} {meth : Method} {c : Code} {H : Heap} {locs : List Loc} {cells slots : Nat} {Q : State → Prop}
variable {cc : ByteArray} {pc : Nat} {ls : Array Slot} {rest As : List Value} {D : va_G} {H0 : Heap} {tys : List (ClassId × FieldType)} {Ts : List Cond} {sz N N' mc ms : Nat} {ob ob' : Nat → va_E}
theorem z_pre (hK : Kz D tys s) (hz : H.size = sz + N) (hY : Sy D N (adz sz) (Az sz) H0 ob H locs) : PreS s H (va_Pc As (PreZ D sz N tys ob)) As :=
  ⟨z_blind, fun U hU hW => ⟨rfl, by rw [hU]; exact hz, by rw [hU]; exact hY.1, Kz.warm hW hK, hY.2.1⟩⟩
theorem z_full (hY : Sy D (N + 1) (adz sz) (Az sz) H0 ob H locs) (hz : H.size ≤ sz + (N + 1)) : H.size = sz + (N + 1) := by
  have := (hY.1 N _ (pw_get (Nat.lt_succ_self N))).lt
  have : sz + N < H.size := this
  omega
theorem z_callv {st0 : List Value} {a : Array Value} (hr : va_Run p l e R s m args below meth c H locs cells slots mc ms (F0 m pc ls st0) rest (va_Qv (fun _ : Unit => True) (fun _ => PostZ D sz N' ob') (Az sz) a) (Az sz)) (hY : Sy D N (adz sz) (Az sz) H0 ob H locs) (hn : sz + N = H.size) (hN : N' = N + mc)
    (kk : ∀ (H1 : Heap) (locs1 : List Loc), Sy D N' (adz sz) (Az sz) H0 ob' H1 locs1 → W p l e R s m args below meth c H1 locs1 (cells + mc) (slots + ms) Q (F0 m (pc + 3) ls rest)) : W p l e R s m args below meth c H locs cells slots Q (F0 m pc ls st0) :=
  va_callv hr hY.2.2 (fun q _ h => h) (fun q h => h) fun u t H1 locs1 ht _ _ hB _ _ hS => kk H1 locs1 ⟨by rw [← ht]; exact hB, by
    refine ⟨fun i j x y hx hy e => ?_, fun k q hk => ?_⟩
    · obtain ⟨hi, rfl⟩ := pw_of hx
      obtain ⟨hj, rfl⟩ := pw_of hy
      have : sz + i = sz + j := e
      omega
    · obtain ⟨hk1, rfl⟩ := pw_of hk
      exact Nat.le_add_right _ _, hS⟩
end ZC
/-! a row -/
abbrev rmX2_init (room : Nat) : Room := { frames := 1, cells := 1, slots := room, locals := 14 }
theorem ddX2_init : yX2_init.cls ≠ "java/lang/invoke/MethodHandle" ∧ yX2_init.cls ≠ "java/lang/invoke/VarHandle" ∧ (parseMethodDescriptor yX2_init.desc).map (fun d => d.parameters.length) = some 1 := by decide +kernel
theorem kX2_init_in : ∀ w ∈ wsX20, w ∈ wsX2_init := by decide +kernel
theorem kX2_init_w : ∀ w ∈ [Cond.methodLink RX2 3 objectInit, .instanceMethod objectInit, .methodLink RX2 9 Lib.Math.max.name, .static Lib.Math.max.name, .initialized "java/lang/Math", .arrayClass .char, .fieldLink RX2 15 "Stemspan$Row" "signs" "[C", .fieldLink RX2 21 "Stemspan$Row" "length" "I"], w ∈ wsX2_init := by decide +kernel
set_option maxHeartbeats 4000000 in
set_option maxRecDepth 100000 in
theorem mX2_init (l : Launch) (D : va_G) (sz N : Nat) (ci : Nat → ClassId) (tys : List (ClassId × FieldType)) (hty : tys[0]? = some (ci 0, .char)) (room : Nat) (hroom : room ≤ 30) (ob0 ob1 : Nat → va_E) (h0 : ob0 N = .inr (2, [.null, .int 0])) (h1 : ∀ o, o < N → ob1 o = ob0 o) (h2 : ob1 N = .inr (2, [.ref (sz + (N + 1)), .int 0])) (h3 : ob1 (N + 1) = .inl (ci 0, room, .inl fun _ => 0)) :
    Met l yX2_init wsX2_init (rmX2_init room) (va_Pc [.ref (sz + N), .int (nI room)] (PreZ D sz (N + 1) tys ob0)) (va_Qv (fun _ : Unit => True) (fun _ => PostZ D sz (N + 2) ob1) (Az sz)) 1 room (Az sz) := by
  refine Met.ofW (cc := cX2_init) (maxL := 2) (ret := none) (by decide) rfl ?_
  intro p e s m args below meth c s₁ B hml hv
  obtain ⟨rfl, hsz, hP, hK, hD⟩ := hv
  have hx := B.exec
  have hb := B.bytes
  have hr := B.returns
  have hts := atoms_spec (ws := wsX2_init) B.pre
  have hown : s.vm.findClass RX2 = some m.cls := findClass_of_methodNamed B.named
  have hlocks := B.notSynchronized
  have hin : meth.name = "<init>" := (name_of_methodNamed B.named B.method).1
  have hY : Sy D (N + 1) (adz sz) (Az sz) s.heap ob0 s.heap [] := ⟨hP, hD, va_S.rf⟩
  have hA : ∀ q, s.heap.size ≤ q → Az sz q := fun q h => by show sz ≤ q; omega
  have hl := lv_entry ([.ref (sz + N), .int (nI room)]) (n := 2) (Nat.le_of_ble_eq_true rfl)
  rw [lg_entry_eq]
  generalize (lg_sl ([.ref (sz + N), .int (nI room)]) ++ List.replicate (2 - (lg_sl ([.ref (sz + N), .int (nI room)])).length) Slot.unset).toArray = ls at hl ⊢
  have hl : lv_has ls 2 [(0, .ref (sz + N)), (1, .int (nI room))] := hl
  refine lv_aload_n hx hb dX2_init_0 rfl (lv_at hl 0 rfl) ?_
  refine W.objInit hx hb hown (hts _ (kX2_init_w _ (by decide))) (hts _ (kX2_init_w _ (by decide))) (hts _ (List.mem_of_getElem? (i := 3) rfl)) rfl (by rw [hml]; exact hl.1) rfl dX2_init_1 (Nat.le_of_ble_eq_true rfl) (Nat.le_of_ble_eq_true rfl) ?_
  refine W.eq (g2 := F0 m 4 ls []) rfl ?_
  refine lv_aload_n hx hb dX2_init_4 rfl (lv_at hl 0 rfl) ?_
  refine lv_iload_n hx hb dX2_init_5 rfl (lv_at hl 1 rfl) ?_
  refine lv_iconst (v := 0) hx hb dX2_init_6 (by decide) ?_
  refine va_mmax hx hb (by rw [hml]; exact hl.1.symm) hown (hts _ (kX2_init_w _ (by decide))) (hts _ (kX2_init_w _ (by decide))) (hts _ (kX2_init_w _ (by decide))) (hts _ (List.mem_of_getElem? (i := 7) rfl)) (Nat.le_of_ble_eq_true rfl) (Nat.le_of_ble_eq_true rfl) (Nat.zero_le _) (Nat.zero_le _) dX2_init_7 ?_
  rw [if_neg (nI_neg (by omega))]
  refine va_newa (atype := .char) (ty := .char) (N' := room) (a0 := (room, .inl fun _ => 0)) hx hb (hts _ (kX2_init_w _ (by decide))) rfl hK.1.1 hY.1 hY.2.1 hY.2.2 hA (fun cA => rfl) (nI_neg (by omega)) (nI_clamp (by omega)) (by show room * 2 ≤ _; omega) (by show 0 + 1 ≤ 1; omega) (by show 0 + room ≤ room; omega) dX2_init_10 (fun q cA H1 hK1 hP1 hD1 hS1 => W_size fun hz => ?_)
  have hcA := cls_new hK1 hty
  subst hcA
  obtain ⟨rfl, hY⟩ := z_fix (ob' := fun o => if o < N + 1 then ob0 o else .inl (ci 0, room, .inl fun _ => 0)) hP1 hD1 hS1 (by omega) (fun o ho => if_pos ho) (if_neg (by omega))
  have he : (fun o => if o < N + 1 then ob0 o else .inl (ci 0, room, .inl fun _ => 0) : Nat → va_E) N = .inr (2, [.null, .int 0]) := (if_pos (by omega)).trans h0
  refine va_putF (ref := "Stemspan$Row") (C := RX2) (T := TX2) (N := 2) (ci := 2) hx hb hts kX2_init_in tyX2 tyX2_ok nmX2 hown hK.1.1 hY.1 hY.2.1 hY.2.2 N (fs := [.null, .int 0]) ((pw_get (by omega)).trans (congrArg (fun e => some (sz + N, e)) he)) rfl 0 (by decide) (hts _ (kX2_init_w _ (by decide))) (fun x h => h) rfl hin rfl (ty := .array .char) rfl rfl rfl (by simp) dX2_init_12 (fun H2 locs2 hP2 hD2 hS2 => ?_)
  have hY := z_set (ob' := fun o => if o < N then ob0 o else if o = N then .inr (2, [.ref (sz + (N + 1)), .int 0]) else .inl (ci 0, room, .inl fun _ => 0)) (by omega) hP2 hD2 hS2 (fun k hk hk2 => by
    by_cases z : k < N
    · simp [z, show k < N + 1 by omega]
    · simp [z, hk2, show ¬ k < N + 1 by omega]) (by simp)
  refine lv_aload_n hx hb dX2_init_15 rfl (lv_at hl 0 rfl) ?_
  refine lv_iconst (v := 0) hx hb dX2_init_16 (by decide) ?_
  refine va_put (ref := "Stemspan$Row") (C := RX2) (T := TX2) (N := 2) (ci := 2) hx hb hts kX2_init_in tyX2 tyX2_ok nmX2 hown hK.1.1 hY.1 hY.2.1 hY.2.2 N (fs := [.ref (sz + (N + 1)), .int 0]) (by rw [pw_get (by omega)]; simp) rfl 1 (by decide) (hts _ (kX2_init_w _ (by decide))) (fun x h => h) rfl (ty := .int) rfl rfl rfl (by simp) dX2_init_17 (fun H3 locs3 hP3 hD3 hS3 => ?_)
  have hY := z_set (ob' := ob1) (by omega) hP3 hD3 hS3 (fun k hk hk2 => by
    by_cases z : k < N
    · simp [z, h1 k z]
    · have : k = N + 1 := by omega
      subst this
      exact h3.trans ((if_neg (by omega)).trans (if_neg (by omega))).symm) (by rw [h2]; rfl)
  exact W.widen (k := 1) (n := room) (by omega) (by omega) (W.vret hx hb hr (fun t ht hW => ⟨⟨(), rfl, trivial, by show va_P _ _ _ _; rw [ht]; exact hY.1⟩, hY.2.2.F ht⟩) hY.2.2.2.2 dX2_init_20)
