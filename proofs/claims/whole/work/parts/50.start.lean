/-! THE LAW'S START: the object, the reference, the row for an answer -/
set_option maxRecDepth 20000 in
theorem kLaw_w : ∀ w ∈ [Cond.classLink RL 8 RX5, .instantiable RX5 6, .initialized RX5, .methodLink RL 82 yX5_init, .instanceMethod yX5_init, .classLink RL 83 RX6, .instantiable RX6 14, .initialized RX6, .methodLink RL 85 yX6_init, .instanceMethod yX6_init, .arrayClass .long], w ∈ tables_1 := in_p _ [17, 18, 1, 19, 20, 786, 787, 8, 788, 789, 109] (by decide +kernel)
theorem pw_part {D : va_G} {sz d N N2 : Nat} {ad : Nat → Nat} {ob ob2 : Nat → va_E} {H : Heap} (h : va_P D vwCl (pw N2 (adz sz) ob2) H) (hd : d + N ≤ N2) (had : ∀ o, ad o = sz + (d + o)) (hob : ∀ o, o < N → ob o = ob2 (d + o)) : va_P D vwCl (pw N ad ob) H := by
  intro k q hk
  obtain ⟨hk1, rfl⟩ := pw_of hk
  have := h (d + k) _ (pw_get (by omega))
  rw [had k, hob k hk1]
  exact this
theorem z_DD {sz N : Nat} {ob : Nat → va_E} : va_D (Az sz) (pw N (adz sz) ob) := by
  refine ⟨fun i j x y hx hy e => ?_, fun k q hk => ?_⟩
  · obtain ⟨hi, rfl⟩ := pw_of hx
    obtain ⟨hj, rfl⟩ := pw_of hy
    have : sz + i = sz + j := e
    omega
  · obtain ⟨hk1, rfl⟩ := pw_of hk
    exact Nat.le_add_right _ _
def ob5 : Nat → va_E := fun _ => .inr (5, [.null, .null, .null, .null, .null, .null])
def ob6 : Nat → va_E := fun _ => .inr (6, [.int 0, .null, .null, .null, .null, .null, .null, .null, .int 0, .int 0, .null, .null, .null, .null])
def obB (sz : Nat) (ci : Nat → ClassId) (τ : St) : Nat → va_E := fun o => if o < 132 then obC (adz sz) ci S0 o else obM (adM sz) ci τ (o - 132)
set_option maxHeartbeats 4000000 in
set_option maxRecDepth 100000 in
theorem whole_start {p : Program} {e : Env} {s : State} {m : MethodId} {below : List Frame} {meth : Method} {c : Code} (l : Launch) (hflags : l.flags = flags0) {b L : Nat} {xs : Nat → Int32} (hL : L ≤ 1536) (C0 : lw_At p s m meth c b L xs) : W p l e room_1 s m #[Value.ref b] below meth c s.heap [] 0 0 (lw_Z below #[Value.ref b] s) (entryFrame m ([Value.ref b] : List Value).toArray 7) := by
  obtain ⟨hx, hb, hr, hml, hown0, hts0, hX, hbl, hlocks, hgv⟩ := id C0
  have hlt : l.stackTraces = false := by
    unfold Launch.stackTraces
    rw [hflags]
    decide +kernel
  have hown : s.vm.findClass RL = some m.cls := hown0
  have hts : ∀ w ∈ wsL_law, w.before #[Value.ref b] s = true := fun w h => hts0 w (wsL_law_in w h)
  have C1 : CallFix p m c code 7 s #[Value.ref b] wsL_law RL := ⟨hx, hb, hml, hown, hts⟩
  obtain ⟨hE, hN⟩ := law_Ex (A := AC s.heap.size) hts0 hgv (fun a h q => absurd (AC_le q) (Nat.not_le.mpr h))
  obtain ⟨D, ci, hK⟩ := law_K hts0
  have hC : lw_C l p s m c b L xs D ci := ⟨C1, hX, hbl, hK.1, hE, hN, hL, hlt⟩
  have hA : ∀ q, s.heap.size ≤ q → Az s.heap.size q := fun _ h => h
  have hl := lv_entry ([.ref b]) (n := 7) (Nat.le_of_ble_eq_true rfl)
  rw [lg_entry_eq]
  generalize (lg_sl ([.ref b]) ++ List.replicate (7 - (lg_sl ([.ref b])).length) Slot.unset).toArray = ls at hl ⊢
  have hl : lv_has ls 7 [(0, .ref b)] := hl
  have hY : Sy D 0 (adz s.heap.size) (Az s.heap.size) s.heap ob5 s.heap [] := ⟨fun k q hk => absurd (pw_of hk).1 (Nat.not_lt_zero _), z_DD, va_S.rf⟩
  refine va_new (ci := 5) (fs := [.null, .null, .null, .null, .null, .null]) (C := RX5) (T := TX5) (N := 6) hx hb hts inlX5 tyX5 tyX5_ok hown (hts0 _ (tab_in (kLaw_w _ (List.mem_of_getElem? (i := 0) rfl)))) (hts0 _ (tab_in (kLaw_w _ (List.mem_of_getElem? (i := 1) rfl)))) (hts0 _ (tab_in (kLaw_w _ (List.mem_of_getElem? (i := 2) rfl)))) hK.1.1 hY.1 hY.2.1 hY.2.2 hA rfl (fun j hj => by rcases (show j = 0 ∨ j = 1 ∨ j = 2 ∨ j = 3 ∨ j = 4 ∨ j = 5 by omega) with rfl | rfl | rfl | rfl | rfl | rfl <;> rfl) (Nat.le_of_ble_eq_true rfl) (Nat.le_of_ble_eq_true rfl) dL_law_0 (fun q H1 hP1 hD1 hS1 => W_size fun hz => ?_)
  obtain ⟨rfl, hY⟩ := z_fix (N := 0) (ob' := ob5) hP1 hD1 hS1 (by omega) (fun o ho => absurd ho (Nat.not_lt_zero _)) rfl
  have hz2 := z_full hY (by omega)
  refine lv_dup hx hb dL_law_3 rfl ?_
  refine z_callv (N := 1) (N' := 132) (ob' := obC (adz s.heap.size) ci S0) (va_runI (As := []) (rest := [.ref (s.heap.size + 0)]) C1 (mX5_init l D s.heap.size ci ob5 (obC (adz s.heap.size) ci S0) rfl (fun o ho => absurd ho (Nat.not_lt_zero _)) (fun o _ _ => rfl)) (cwI 0 hts gL_law_X5_init rfl rfl rfl (hts0 _ (tab_in (kLaw_w _ (List.mem_of_getElem? (i := 2) rfl)))) (hts0 _ (tab_in (kLaw_w _ (List.mem_of_getElem? (i := 3) rfl)))) (hts0 _ (tab_in (kLaw_w _ (List.mem_of_getElem? (i := 4) rfl)))) rfl ddX5_init ⟨Nat.le_of_ble_eq_true rfl, Nat.le_of_ble_eq_true rfl⟩) (z_pre hK hz2 hY) rfl rfl hl.1 rfl (lv_room (Nat.le_of_ble_eq_true rfl)) dL_law_4 ⟨Nat.le_of_ble_eq_true rfl, Nat.le_of_ble_eq_true rfl⟩) hY hz2.symm rfl (fun H2 locs2 hY => ?_)
  refine lv_astore_n (lv' := [(1, .ref (s.heap.size + 0)), (0, .ref b)]) hx hb dL_law_7 rfl hl (by decide) rfl (fun ls hl => ?_)
  refine va_new (ci := 6) (fs := [.int 0, .null, .null, .null, .null, .null, .null, .null, .int 0, .int 0, .null, .null, .null, .null]) (C := RX6) (T := TX6) (N := 14) hx hb hts inlX6 tyX6 tyX6_ok hown (hts0 _ (tab_in (kLaw_w _ (List.mem_of_getElem? (i := 5) rfl)))) (hts0 _ (tab_in (kLaw_w _ (List.mem_of_getElem? (i := 6) rfl)))) (hts0 _ (tab_in (kLaw_w _ (List.mem_of_getElem? (i := 7) rfl)))) hK.1.1 hY.1 hY.2.1 hY.2.2 hA rfl (fun j hj => by rcases (show j = 0 ∨ j = 1 ∨ j = 2 ∨ j = 3 ∨ j = 4 ∨ j = 5 ∨ j = 6 ∨ j = 7 ∨ j = 8 ∨ j = 9 ∨ j = 10 ∨ j = 11 ∨ j = 12 ∨ j = 13 by omega) with rfl | rfl | rfl | rfl | rfl | rfl | rfl | rfl | rfl | rfl | rfl | rfl | rfl | rfl <;> rfl) (Nat.le_of_ble_eq_true rfl) (Nat.le_of_ble_eq_true rfl) dL_law_8 (fun q H3 hP1 hD1 hS1 => W_size fun hz => ?_)
  obtain ⟨rfl, hY⟩ := z_fix (N := 132) (ob' := fun o => if o < 132 then obC (adz s.heap.size) ci S0 o else ob6 o) hP1 hD1 hS1 (by omega) (fun o ho => if_pos ho) (if_neg (by omega))
  have hz2 := z_full hY (by omega)
  have hPC : va_P D vwCl (pw 132 (adz s.heap.size) (obC (adz s.heap.size) ci S0)) H3 := pw_part (d := 0) hY.1 (by omega) (fun o => by rw [Nat.zero_add]) (fun o ho => by rw [Nat.zero_add, if_pos ho])
  have hPM : va_P D vwCl (pw 1 (adM s.heap.size) ob6) H3 := pw_part (d := 132) hY.1 (by omega) (fun o => Nat.add_assoc _ _ _) (fun o ho => by rw [if_neg (by omega)]; rfl)
  have hKM : Kz D (tyM ci) s := ⟨KxM hK.1, hK.2⟩
  have hYM : Sy D 1 (adM s.heap.size) (Az (s.heap.size + 132)) H3 ob6 H3 [] := ⟨hPM, z_DD, va_S.rf⟩
  refine lv_dup hx hb dL_law_11 rfl ?_
  refine va_callv (A0 := Az s.heap.size) (H0 := s.heap) (va_runI (As := []) (rest := [.ref (s.heap.size + 132)]) C1 (mX6_init l D (s.heap.size + 132) ci ob6 rfl) (cwI 0 hts gL_law_X6_init rfl rfl rfl (hts0 _ (tab_in (kLaw_w _ (List.mem_of_getElem? (i := 7) rfl)))) (hts0 _ (tab_in (kLaw_w _ (List.mem_of_getElem? (i := 8) rfl)))) (hts0 _ (tab_in (kLaw_w _ (List.mem_of_getElem? (i := 9) rfl)))) rfl ddX6_init ⟨Nat.le_of_ble_eq_true rfl, Nat.le_of_ble_eq_true rfl⟩) (z_pre (N := 1) hKM (by omega) hYM) rfl rfl hl.1 rfl (lv_room (Nat.le_of_ble_eq_true rfl)) dL_law_12 ⟨Nat.le_of_ble_eq_true rfl, Nat.le_of_ble_eq_true rfl⟩) hY.2.2 (fun q _ h => Nat.le_trans (Nat.le_add_right _ _) h) (fun q h => Nat.le_trans (Nat.le_add_right _ _) h) (fun u t H4 locs4 ht _ hp hB _ hk hS => ?_)
  have hPM : va_P D vwCl (pw 12 (adM s.heap.size) (obM (adM s.heap.size) ci u)) H4 := by
    rw [← ht]
    exact hB
  have hPC : va_P D vwCl (pw 132 (adz s.heap.size) (obC (adz s.heap.size) ci S0)) H4 := pw_kept (B := Az (s.heap.size + 132)) hPC (fun o ho h => absurd h (by show ¬ s.heap.size + 132 ≤ s.heap.size + o; omega)) hk
  refine lv_astore_n (lv' := [(2, .ref (s.heap.size + 132)), (1, .ref (s.heap.size + 0)), (0, .ref b)]) hx hb dL_law_15 rfl hl (by decide) rfl (fun ls hl => ?_)
  have hY : Sy D 144 (adz s.heap.size) (Az s.heap.size) s.heap (obB s.heap.size ci u) H4 locs4 := by
    refine ⟨fun k q hk => ?_, z_DD, hS⟩
    obtain ⟨hk1, rfl⟩ := pw_of hk
    by_cases h : k < 132
    · have := hPC k _ (pw_get h)
      unfold obB
      rw [if_pos h]
      exact this
    · have := hPM (k - 132) _ (pw_get (by omega))
      have e1 : adM s.heap.size (k - 132) = adz s.heap.size k := by show s.heap.size + 132 + (k - 132) = s.heap.size + k; omega
      unfold obB
      rw [if_neg h, ← e1]
      exact this
  refine lv_iconst (v := nI 1) hx hb dL_law_16 (by decide) ?_
  refine z_newL (t0 := 2) (N := 144) (ob' := fun o => if o < 144 then obB s.heap.size ci u o else .inl (ci 2, 1, .inr (.inl fun _ => 0))) hx hb (hts0 _ (tab_in (kLaw_w _ (List.mem_of_getElem? (i := 10) rfl)))) hK.1.1 hA (by omega) rfl 1 (by omega) (Nat.le_of_ble_eq_true rfl) (Nat.le_of_ble_eq_true rfl) dL_law_17 hY (fun o ho => if_pos ho) (if_neg (by omega)) (fun H5 hY => ?_)
  refine lv_astore_n (lv' := [(3, .ref (s.heap.size + 144)), (2, .ref (s.heap.size + 132)), (1, .ref (s.heap.size + 0)), (0, .ref b)]) hx hb dL_law_19 rfl hl (by decide) rfl (fun ls hl => ?_)
  refine lv_iconst (v := nI 0) hx hb dL_law_20 (by decide) ?_
  refine lv_istore (lv' := [(4, .int (nI 0)), (3, .ref (s.heap.size + 144)), (2, .ref (s.heap.size + 132)), (1, .ref (s.heap.size + 0)), (0, .ref b)]) hx hb dL_law_21 hl (by decide) rfl (fun ls hl => ?_)
  refine W.widen (k := 145 + 0) (n := 1887 + 2 * 0) (by omega) (by omega) ?_
  refine law_loop hC hr hlocks 1540 0 (by omega) (by omega) H5 locs4 S0 u (fun _ => 0) m0 ls ⟨?_, ?_, ?_⟩ InvC0 Rok0 hp hY.2.2 (lv_sub hl [4, 3, 2, 1, 0] rfl)
  · exact pw_part (d := 0) hY.1 (by omega) (fun o => by rw [Nat.zero_add]) (fun o ho => by rw [Nat.zero_add, if_pos (by omega)]; unfold obB; rw [if_pos ho])
  · exact pw_part (d := 132) hY.1 (by omega) (fun o => Nat.add_assoc _ _ _) (fun o ho => by rw [if_pos (by omega)]; unfold obB; rw [if_neg (by omega), Nat.add_sub_cancel_left])
  · intro k q hk
    obtain ⟨-, rfl⟩ := wO_of hk
    have := hY.1 144 _ (pw_get (by omega))
    rw [if_neg (by omega)] at this
    exact this
