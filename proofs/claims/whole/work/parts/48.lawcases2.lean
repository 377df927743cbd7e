/-! the calls that throw nothing -/
section LAWK
variable {p : Program} {l : Launch} {e : Env} {s : State} {m : MethodId} {below : List Frame} {meth : Method} {c : Code} {cells slots : Nat} {Q : State → Prop} {b L i : Nat} {xs : Nat → Int32} {D : va_G} {ci : Nat → ClassId}
set_option maxHeartbeats 4000000 in
set_option maxRecDepth 100000 in
theorem case_wipe (hC : lw_C l p s m c b L xs D ci) (hi : i + 3 ≤ L) (hcs : cells + 1 ≤ 610757 ∧ slots + 6 ≤ 7263833) (k : Go p l e s m below meth c b D ci i (cells + 1) (slots + 6) Q 1375) : Go p l e s m below meth c b D ci i cells slots Q 488 := by
  intro H locs σ τ g mm ls hw hI hR hM hS hl
  obtain ⟨C0, hX, hbl, hK, hE, hN, hL, hlt⟩ := id hC
  obtain ⟨hx, hb, -, -, hts⟩ := id C0
  refine lv_aload_n hx hb dL_law_488 rfl (lv_at hl 1 rfl) ?_
  refine l_ccalli (fun u => u) (va_runV (As := []) (rest := []) C0 (mX5_wipe l D (adz s.heap.size) ci (AC s.heap.size) σ (KC (oWipe mm)) hR (sC_wipe hI (OutC_KX [] _))) (cwV 0 hts gL_law_X5_wipe rfl rfl rfl ddX5_wipe ⟨Nat.le_of_ble_eq_true rfl, Nat.le_of_ble_eq_true rfl⟩) (l_cpre hK hw) rfl rfl hl.1 rfl (lv_room (Nat.le_of_ble_eq_true rfl)) dL_law_489 ⟨Nat.le_of_succ_le hcs.1, Nat.le_trans (Nat.le_add_right _ 6) hcs.2⟩) hw hS (fun r σ1 H locs h1 hR1 hw hS => ?_)
  obtain ⟨-, h1, hI1⟩ := h1
  refine lv_aload_n hx hb dL_law_492 rfl (lv_at hl 2 rfl) ?_
  refine l_mcalli (fun u => u) (va_runV (As := []) (rest := [.int r]) C0 (mX6_wipe l D (adM s.heap.size) ci (AM s.heap.size) τ (KM (oWipe mm)) trivial (sM_wipe hM (OutM_K _))) (cwV 0 hts gL_law_X6_wipe rfl rfl rfl ddX6_wipe ⟨Nat.le_of_ble_eq_true rfl, Nat.le_of_ble_eq_true rfl⟩) (l_mpre hK hw) rfl rfl hl.1 rfl (lv_room (Nat.le_of_ble_eq_true rfl)) dL_law_493 ⟨Nat.le_of_succ_le hcs.1, Nat.le_trans (Nat.le_add_right _ 6) hcs.2⟩) hw hS (fun r2 τ1 H locs h2 hw hS => ?_)
  have hM1 := h2.1
  have e : r = r2 := h1.trans (h2.2.2 rfl).symm
  exact lv_icmp_eq (tgt := 1375) hx hb dL_law_496 (by decide) (fun _ => W.widen (k := cells + 1) (n := slots + 6) (Nat.le_succ _) (Nat.le_add_right _ _) (k H locs _ _ g (oWipe mm).2.2 ls hw hI1 hR1 hM1 hS hl)) (fun z => absurd e z)
set_option maxHeartbeats 4000000 in
set_option maxRecDepth 100000 in
theorem case_turn (hC : lw_C l p s m c b L xs D ci) (hi : i + 3 ≤ L) (hcs : cells + 1 ≤ 610757 ∧ slots + 6 ≤ 7263833) (k : Go p l e s m below meth c b D ci i (cells + 1) (slots + 6) Q 1375) : Go p l e s m below meth c b D ci i cells slots Q 501 := by
  intro H locs σ τ g mm ls hw hI hR hM hS hl
  obtain ⟨C0, hX, hbl, hK, hE, hN, hL, hlt⟩ := id hC
  obtain ⟨hx, hb, -, -, hts⟩ := id C0
  refine lv_aload_n hx hb dL_law_501 rfl (lv_at hl 1 rfl) ?_
  refine l_ccalli (fun u => u) (va_runV (As := []) (rest := []) C0 (mX5_turn l D (adz s.heap.size) ci (AC s.heap.size) σ (KC (oTurn mm)) hR (sC_turn hI (OutC_KX [] _))) (cwV 0 hts gL_law_X5_turn rfl rfl rfl ddX5_turn ⟨Nat.le_of_ble_eq_true rfl, Nat.le_of_ble_eq_true rfl⟩) (l_cpre hK hw) rfl rfl hl.1 rfl (lv_room (Nat.le_of_ble_eq_true rfl)) dL_law_502 ⟨Nat.le_of_succ_le hcs.1, Nat.le_trans (Nat.le_add_right _ 6) hcs.2⟩) hw hS (fun r σ1 H locs h1 hR1 hw hS => ?_)
  have h1 := h1.2
  obtain ⟨-, h1, hI1⟩ := h1
  refine lv_aload_n hx hb dL_law_505 rfl (lv_at hl 2 rfl) ?_
  refine l_mcalli (fun u => u) (va_runV (As := []) (rest := [.int r]) C0 (mX6_turn l D (adM s.heap.size) ci (AM s.heap.size) τ (KM (oTurn mm)) trivial (sM_turn hM (OutM_K _))) (cwV 0 hts gL_law_X6_turn rfl rfl rfl ddX6_turn ⟨Nat.le_of_ble_eq_true rfl, Nat.le_of_ble_eq_true rfl⟩) (l_mpre hK hw) rfl rfl hl.1 rfl (lv_room (Nat.le_of_ble_eq_true rfl)) dL_law_506 ⟨Nat.le_of_succ_le hcs.1, Nat.le_trans (Nat.le_add_right _ 6) hcs.2⟩) hw hS (fun r2 τ1 H locs h2 hw hS => ?_)
  have h2 := h2.2
  have hM1 := h2.1
  have e : r = r2 := h1.trans (h2.2.2 rfl).symm
  exact lv_icmp_eq (tgt := 1375) hx hb dL_law_509 (by decide) (fun _ => W.widen (k := cells + 1) (n := slots + 6) (Nat.le_succ _) (Nat.le_add_right _ _) (k H locs _ _ g (oTurn mm).2.2 ls hw hI1 hR1 hM1 hS hl)) (fun z => absurd e z)
set_option maxHeartbeats 4000000 in
set_option maxRecDepth 100000 in
theorem case_words (hC : lw_C l p s m c b L xs D ci) (hi : i + 3 ≤ L) (hcs : cells + 1 ≤ 610757 ∧ slots + 6 ≤ 7263833) (k : Go p l e s m below meth c b D ci i (cells + 1) (slots + 6) Q 1375) : Go p l e s m below meth c b D ci i cells slots Q 714 := by
  intro H locs σ τ g mm ls hw hI hR hM hS hl
  obtain ⟨C0, hX, hbl, hK, hE, hN, hL, hlt⟩ := id hC
  obtain ⟨hx, hb, -, -, hts⟩ := id C0
  refine lv_aload_n hx hb dL_law_714 rfl (lv_at hl 1 rfl) ?_
  refine l_ccalli (S := Unit) (fun _ => σ) (va_runV (As := []) (rest := []) C0 (mX5_words l D (adz s.heap.size) ci (AC s.heap.size) σ (fun r => r = (oWords mm).2.1) hR (sC_words hI rfl)) (cwV 0 hts gL_law_X5_words rfl rfl rfl ddX5_words ⟨Nat.le_of_ble_eq_true rfl, Nat.le_of_ble_eq_true rfl⟩) (l_cpre hK hw) rfl rfl hl.1 rfl (lv_room (Nat.le_of_ble_eq_true rfl)) dL_law_715 ⟨Nat.le_of_succ_le hcs.1, Nat.le_trans (Nat.le_add_right _ 6) hcs.2⟩) hw hS (fun r σ1 H locs h1 hR1 hw hS => ?_)
  have hI1 := hI
  refine lv_aload_n hx hb dL_law_718 rfl (lv_at hl 2 rfl) ?_
  refine l_mcalli (fun u => u) (va_runV (As := []) (rest := [.int r]) C0 (mX6_words l D (adM s.heap.size) ci (AM s.heap.size) τ (KM (oWords mm)) trivial (sM_words hM (OutM_K _))) (cwV 0 hts gL_law_X6_words rfl rfl rfl ddX6_words ⟨Nat.le_of_ble_eq_true rfl, Nat.le_of_ble_eq_true rfl⟩) (l_mpre hK hw) rfl rfl hl.1 rfl (lv_room (Nat.le_of_ble_eq_true rfl)) dL_law_719 ⟨Nat.le_of_succ_le hcs.1, Nat.le_trans (Nat.le_add_right _ 6) hcs.2⟩) hw hS (fun r2 τ1 H locs h2 hw hS => ?_)
  have hM1 := h2.1
  have e : r = r2 := h1.trans (h2.2.2 rfl).symm
  exact lv_icmp_eq (tgt := 1375) hx hb dL_law_722 (by decide) (fun _ => W.widen (k := cells + 1) (n := slots + 6) (Nat.le_succ _) (Nat.le_add_right _ _) (k H locs _ _ g (oWords mm).2.2 ls hw hI1 hR1 hM1 hS hl)) (fun z => absurd e z)
set_option maxHeartbeats 4000000 in
set_option maxRecDepth 100000 in
theorem case_rank (hC : lw_C l p s m c b L xs D ci) (hi : i + 3 ≤ L) (hcs : cells + 1 ≤ 610757 ∧ slots + 6 ≤ 7263833) (k : Go p l e s m below meth c b D ci i (cells + 1) (slots + 6) Q 1375) : Go p l e s m below meth c b D ci i cells slots Q 727 := by
  intro H locs σ τ g mm ls hw hI hR hM hS hl
  obtain ⟨C0, hX, hbl, hK, hE, hN, hL, hlt⟩ := id hC
  obtain ⟨hx, hb, -, -, hts⟩ := id C0
  refine lv_aload_n hx hb dL_law_727 rfl (lv_at hl 1 rfl) ?_
  refine l_ccalli (S := Unit) (fun _ => σ) (va_runV (As := []) (rest := []) C0 (mX5_rank l D (adz s.heap.size) ci (AC s.heap.size) σ (fun r => r = (oRank mm).2.1) hR (sC_rank hI rfl)) (cwV 0 hts gL_law_X5_rank rfl rfl rfl ddX5_rank ⟨Nat.le_of_ble_eq_true rfl, Nat.le_of_ble_eq_true rfl⟩) (l_cpre hK hw) rfl rfl hl.1 rfl (lv_room (Nat.le_of_ble_eq_true rfl)) dL_law_728 ⟨Nat.le_of_succ_le hcs.1, Nat.le_trans (Nat.le_add_right _ 6) hcs.2⟩) hw hS (fun r σ1 H locs h1 hR1 hw hS => ?_)
  have hI1 := hI
  refine lv_aload_n hx hb dL_law_731 rfl (lv_at hl 2 rfl) ?_
  refine l_mcalli (fun u => u) (va_runV (As := []) (rest := [.int r]) C0 (mX6_rank l D (adM s.heap.size) ci (AM s.heap.size) τ (KM (oRank mm)) trivial (sM_rank hM (OutM_K _))) (cwV 0 hts gL_law_X6_rank rfl rfl rfl ddX6_rank ⟨Nat.le_of_ble_eq_true rfl, Nat.le_of_ble_eq_true rfl⟩) (l_mpre hK hw) rfl rfl hl.1 rfl (lv_room (Nat.le_of_ble_eq_true rfl)) dL_law_732 ⟨Nat.le_of_succ_le hcs.1, Nat.le_trans (Nat.le_add_right _ 6) hcs.2⟩) hw hS (fun r2 τ1 H locs h2 hw hS => ?_)
  have hM1 := h2.1
  have e : r = r2 := h1.trans (h2.2.2 rfl).symm
  exact lv_icmp_eq (tgt := 1375) hx hb dL_law_735 (by decide) (fun _ => W.widen (k := cells + 1) (n := slots + 6) (Nat.le_succ _) (Nat.le_add_right _ _) (k H locs _ _ g (oRank mm).2.2 ls hw hI1 hR1 hM1 hS hl)) (fun z => absurd e z)
set_option maxHeartbeats 4000000 in
set_option maxRecDepth 100000 in
theorem case_begun (hC : lw_C l p s m c b L xs D ci) (hi : i + 3 ≤ L) (hcs : cells + 1 ≤ 610757 ∧ slots + 6 ≤ 7263833) (k : Go p l e s m below meth c b D ci i (cells + 1) (slots + 6) Q 1375) : Go p l e s m below meth c b D ci i cells slots Q 854 := by
  intro H locs σ τ g mm ls hw hI hR hM hS hl
  obtain ⟨C0, hX, hbl, hK, hE, hN, hL, hlt⟩ := id hC
  obtain ⟨hx, hb, -, -, hts⟩ := id C0
  refine lv_aload_n hx hb dL_law_854 rfl (lv_at hl 1 rfl) ?_
  refine l_ccalli (S := Unit) (fun _ => σ) (va_runV (As := []) (rest := []) C0 (mX5_begun l D (adz s.heap.size) ci (AC s.heap.size) σ (fun r => r = (oBegun mm).2.1) hR (sC_begun hI rfl)) (cwV 0 hts gL_law_X5_begun rfl rfl rfl ddX5_begun ⟨Nat.le_of_ble_eq_true rfl, Nat.le_of_ble_eq_true rfl⟩) (l_cpre hK hw) rfl rfl hl.1 rfl (lv_room (Nat.le_of_ble_eq_true rfl)) dL_law_855 ⟨Nat.le_of_succ_le hcs.1, Nat.le_trans (Nat.le_add_right _ 6) hcs.2⟩) hw hS (fun r σ1 H locs h1 hR1 hw hS => ?_)
  have hI1 := hI
  refine lv_aload_n hx hb dL_law_858 rfl (lv_at hl 2 rfl) ?_
  refine l_mcalli (fun u => u) (va_runV (As := []) (rest := [.int r]) C0 (mX6_begun l D (adM s.heap.size) ci (AM s.heap.size) τ (KM (oBegun mm)) trivial (sM_begun hM (OutM_K _))) (cwV 0 hts gL_law_X6_begun rfl rfl rfl ddX6_begun ⟨Nat.le_of_ble_eq_true rfl, Nat.le_of_ble_eq_true rfl⟩) (l_mpre hK hw) rfl rfl hl.1 rfl (lv_room (Nat.le_of_ble_eq_true rfl)) dL_law_859 ⟨Nat.le_of_succ_le hcs.1, Nat.le_trans (Nat.le_add_right _ 6) hcs.2⟩) hw hS (fun r2 τ1 H locs h2 hw hS => ?_)
  have hM1 := h2.1
  have e : r = r2 := h1.trans (h2.2.2 rfl).symm
  exact lv_icmp_eq (tgt := 1375) hx hb dL_law_862 (by decide) (fun _ => W.widen (k := cells + 1) (n := slots + 6) (Nat.le_succ _) (Nat.le_add_right _ _) (k H locs _ _ g (oBegun mm).2.2 ls hw hI1 hR1 hM1 hS hl)) (fun z => absurd e z)
set_option maxHeartbeats 4000000 in
set_option maxRecDepth 100000 in
theorem case_sum (hC : lw_C l p s m c b L xs D ci) (hi : i + 3 ≤ L) (hcs : cells + 1 ≤ 610757 ∧ slots + 6 ≤ 7263833) (k : Go p l e s m below meth c b D ci i (cells + 1) (slots + 6) Q 1375) : Go p l e s m below meth c b D ci i cells slots Q 923 := by
  intro H locs σ τ g mm ls hw hI hR hM hS hl
  obtain ⟨C0, hX, hbl, hK, hE, hN, hL, hlt⟩ := id hC
  obtain ⟨hx, hb, -, -, hts⟩ := id C0
  refine lv_aload_n hx hb dL_law_923 rfl (lv_at hl 1 rfl) ?_
  refine l_ccalli (S := Unit) (fun _ => σ) (va_runV (As := []) (rest := []) C0 (mX5_sum l D (adz s.heap.size) ci (AC s.heap.size) σ (fun r => r = (oSum mm).2.1) hR (sC_sum hI rfl)) (cwV 0 hts gL_law_X5_sum rfl rfl rfl ddX5_sum ⟨Nat.le_of_ble_eq_true rfl, Nat.le_of_ble_eq_true rfl⟩) (l_cpre hK hw) rfl rfl hl.1 rfl (lv_room (Nat.le_of_ble_eq_true rfl)) dL_law_924 ⟨Nat.le_of_succ_le hcs.1, Nat.le_trans (Nat.le_add_right _ 6) hcs.2⟩) hw hS (fun r σ1 H locs h1 hR1 hw hS => ?_)
  have hI1 := hI
  refine lv_aload_n hx hb dL_law_927 rfl (lv_at hl 2 rfl) ?_
  refine l_mcalli (fun u => u) (va_runV (As := []) (rest := [.int r]) C0 (mX6_sum l D (adM s.heap.size) ci (AM s.heap.size) τ (KM (oSum mm)) trivial (sM_sum hM (OutM_K _))) (cwV 0 hts gL_law_X6_sum rfl rfl rfl ddX6_sum ⟨Nat.le_of_ble_eq_true rfl, Nat.le_of_ble_eq_true rfl⟩) (l_mpre hK hw) rfl rfl hl.1 rfl (lv_room (Nat.le_of_ble_eq_true rfl)) dL_law_928 ⟨Nat.le_of_succ_le hcs.1, Nat.le_trans (Nat.le_add_right _ 6) hcs.2⟩) hw hS (fun r2 τ1 H locs h2 hw hS => ?_)
  have hM1 := h2.1
  have e : r = r2 := h1.trans (h2.2.2 rfl).symm
  exact lv_icmp_eq (tgt := 1375) hx hb dL_law_931 (by decide) (fun _ => W.widen (k := cells + 1) (n := slots + 6) (Nat.le_succ _) (Nat.le_add_right _ _) (k H locs _ _ g (oSum mm).2.2 ls hw hI1 hR1 hM1 hS hl)) (fun z => absurd e z)
set_option maxHeartbeats 4000000 in
set_option maxRecDepth 100000 in
theorem case_gone (hC : lw_C l p s m c b L xs D ci) (hi : i + 3 ≤ L) (hcs : cells + 1 ≤ 610757 ∧ slots + 6 ≤ 7263833) (k : Go p l e s m below meth c b D ci i (cells + 1) (slots + 6) Q 1375) : Go p l e s m below meth c b D ci i cells slots Q 936 := by
  intro H locs σ τ g mm ls hw hI hR hM hS hl
  obtain ⟨C0, hX, hbl, hK, hE, hN, hL, hlt⟩ := id hC
  obtain ⟨hx, hb, -, -, hts⟩ := id C0
  refine lv_aload_n hx hb dL_law_936 rfl (lv_at hl 1 rfl) ?_
  refine l_ccalli (fun u => u) (va_runV (As := []) (rest := []) C0 (mX5_gone l D (adz s.heap.size) ci (AC s.heap.size) σ (KC (oGone mm)) hR (sC_gone hI (OutC_KX [] _))) (cwV 0 hts gL_law_X5_gone rfl rfl rfl ddX5_gone ⟨Nat.le_of_ble_eq_true rfl, Nat.le_of_ble_eq_true rfl⟩) (l_cpre hK hw) rfl rfl hl.1 rfl (lv_room (Nat.le_of_ble_eq_true rfl)) dL_law_937 ⟨Nat.le_of_succ_le hcs.1, Nat.le_trans (Nat.le_add_right _ 6) hcs.2⟩) hw hS (fun r σ1 H locs h1 hR1 hw hS => ?_)
  obtain ⟨-, h1, hI1⟩ := h1
  refine lv_aload_n hx hb dL_law_940 rfl (lv_at hl 2 rfl) ?_
  refine l_mcalli (fun u => u) (va_runV (As := []) (rest := [.int r]) C0 (mX6_gone l D (adM s.heap.size) ci (AM s.heap.size) τ (KM (oGone mm)) trivial (sM_gone hM (OutM_K _))) (cwV 0 hts gL_law_X6_gone rfl rfl rfl ddX6_gone ⟨Nat.le_of_ble_eq_true rfl, Nat.le_of_ble_eq_true rfl⟩) (l_mpre hK hw) rfl rfl hl.1 rfl (lv_room (Nat.le_of_ble_eq_true rfl)) dL_law_941 ⟨Nat.le_of_succ_le hcs.1, Nat.le_trans (Nat.le_add_right _ 6) hcs.2⟩) hw hS (fun r2 τ1 H locs h2 hw hS => ?_)
  have hM1 := h2.1
  have e : r = r2 := h1.trans (h2.2.2 rfl).symm
  exact lv_icmp_eq (tgt := 1375) hx hb dL_law_944 (by decide) (fun _ => W.widen (k := cells + 1) (n := slots + 6) (Nat.le_succ _) (Nat.le_add_right _ _) (k H locs _ _ g (oGone mm).2.2 ls hw hI1 hR1 hM1 hS hl)) (fun z => absurd e z)
set_option maxHeartbeats 4000000 in
set_option maxRecDepth 100000 in
theorem case_shared (hC : lw_C l p s m c b L xs D ci) (hi : i + 3 ≤ L) (hcs : cells + 1 ≤ 610757 ∧ slots + 6 ≤ 7263833) (k : Go p l e s m below meth c b D ci i (cells + 1) (slots + 6) Q 1375) : Go p l e s m below meth c b D ci i cells slots Q 1005 := by
  intro H locs σ τ g mm ls hw hI hR hM hS hl
  obtain ⟨C0, hX, hbl, hK, hE, hN, hL, hlt⟩ := id hC
  obtain ⟨hx, hb, -, -, hts⟩ := id C0
  refine lv_aload_n hx hb dL_law_1005 rfl (lv_at hl 1 rfl) ?_
  refine l_ccalli (S := Unit) (fun _ => σ) (va_runV (As := []) (rest := []) C0 (mX5_shared l D (adz s.heap.size) ci (AC s.heap.size) σ (fun r => r = (oShared mm).2.1) hR (sC_shared hI rfl)) (cwV 0 hts gL_law_X5_shared rfl rfl rfl ddX5_shared ⟨Nat.le_of_ble_eq_true rfl, Nat.le_of_ble_eq_true rfl⟩) (l_cpre hK hw) rfl rfl hl.1 rfl (lv_room (Nat.le_of_ble_eq_true rfl)) dL_law_1006 ⟨Nat.le_of_succ_le hcs.1, Nat.le_trans (Nat.le_add_right _ 6) hcs.2⟩) hw hS (fun r σ1 H locs h1 hR1 hw hS => ?_)
  have hI1 := hI
  refine lv_aload_n hx hb dL_law_1009 rfl (lv_at hl 2 rfl) ?_
  refine l_mcalli (fun u => u) (va_runV (As := []) (rest := [.int r]) C0 (mX6_shared l D (adM s.heap.size) ci (AM s.heap.size) τ (KM (oShared mm)) trivial (sM_shared hM (OutM_K _))) (cwV 0 hts gL_law_X6_shared rfl rfl rfl ddX6_shared ⟨Nat.le_of_ble_eq_true rfl, Nat.le_of_ble_eq_true rfl⟩) (l_mpre hK hw) rfl rfl hl.1 rfl (lv_room (Nat.le_of_ble_eq_true rfl)) dL_law_1010 ⟨Nat.le_of_succ_le hcs.1, Nat.le_trans (Nat.le_add_right _ 6) hcs.2⟩) hw hS (fun r2 τ1 H locs h2 hw hS => ?_)
  have hM1 := h2.1
  have e : r = r2 := h1.trans (h2.2.2 rfl).symm
  exact lv_icmp_eq (tgt := 1375) hx hb dL_law_1013 (by decide) (fun _ => W.widen (k := cells + 1) (n := slots + 6) (Nat.le_succ _) (Nat.le_add_right _ _) (k H locs _ _ g (oShared mm).2.2 ls hw hI1 hR1 hM1 hS hl)) (fun z => absurd e z)
set_option maxHeartbeats 4000000 in
set_option maxRecDepth 100000 in
theorem case_pieces (hC : lw_C l p s m c b L xs D ci) (hi : i + 3 ≤ L) (hcs : cells + 1 ≤ 610757 ∧ slots + 6 ≤ 7263833) (k : Go p l e s m below meth c b D ci i (cells + 1) (slots + 6) Q 1375) : Go p l e s m below meth c b D ci i cells slots Q 1062 := by
  intro H locs σ τ g mm ls hw hI hR hM hS hl
  obtain ⟨C0, hX, hbl, hK, hE, hN, hL, hlt⟩ := id hC
  obtain ⟨hx, hb, -, -, hts⟩ := id C0
  refine lv_aload_n hx hb dL_law_1062 rfl (lv_at hl 1 rfl) ?_
  refine l_ccalli (fun u => u) (va_runV (As := []) (rest := []) C0 (mX5_pieces l D (adz s.heap.size) ci (AC s.heap.size) σ (KC (oPieces mm)) hR (sC_pieces hI (OutC_KX [] _))) (cwV 0 hts gL_law_X5_pieces rfl rfl rfl ddX5_pieces ⟨Nat.le_of_ble_eq_true rfl, Nat.le_of_ble_eq_true rfl⟩) (l_cpre hK hw) rfl rfl hl.1 rfl (lv_room (Nat.le_of_ble_eq_true rfl)) dL_law_1063 ⟨Nat.le_of_succ_le hcs.1, Nat.le_trans (Nat.le_add_right _ 6) hcs.2⟩) hw hS (fun r σ1 H locs h1 hR1 hw hS => ?_)
  obtain ⟨-, h1, hI1⟩ := h1
  refine lv_aload_n hx hb dL_law_1066 rfl (lv_at hl 2 rfl) ?_
  refine l_mcalli (fun u => u) (va_runV (As := []) (rest := [.int r]) C0 (mX6_pieces l D (adM s.heap.size) ci (AM s.heap.size) τ (KM (oPieces mm)) trivial (sM_pieces hM (OutM_K _))) (cwV 0 hts gL_law_X6_pieces rfl rfl rfl ddX6_pieces ⟨Nat.le_of_ble_eq_true rfl, Nat.le_of_ble_eq_true rfl⟩) (l_mpre hK hw) rfl rfl hl.1 rfl (lv_room (Nat.le_of_ble_eq_true rfl)) dL_law_1067 ⟨Nat.le_of_succ_le hcs.1, Nat.le_trans (Nat.le_add_right _ 6) hcs.2⟩) hw hS (fun r2 τ1 H locs h2 hw hS => ?_)
  have hM1 := h2.1
  have e : r = r2 := h1.trans (h2.2.2 rfl).symm
  exact lv_icmp_eq (tgt := 1375) hx hb dL_law_1070 (by decide) (fun _ => W.widen (k := cells + 1) (n := slots + 6) (Nat.le_succ _) (Nat.le_add_right _ _) (k H locs _ _ g (oPieces mm).2.2 ls hw hI1 hR1 hM1 hS hl)) (fun z => absurd e z)
set_option maxHeartbeats 4000000 in
set_option maxRecDepth 100000 in
theorem case_cuts (hC : lw_C l p s m c b L xs D ci) (hi : i + 3 ≤ L) (hcs : cells + 1 ≤ 610757 ∧ slots + 6 ≤ 7263833) (k : Go p l e s m below meth c b D ci i (cells + 1) (slots + 6) Q 1375) : Go p l e s m below meth c b D ci i cells slots Q 1131 := by
  intro H locs σ τ g mm ls hw hI hR hM hS hl
  obtain ⟨C0, hX, hbl, hK, hE, hN, hL, hlt⟩ := id hC
  obtain ⟨hx, hb, -, -, hts⟩ := id C0
  refine lv_aload_n hx hb dL_law_1131 rfl (lv_at hl 1 rfl) ?_
  refine l_ccalll (fun u => u) (va_runV (As := []) (rest := []) C0 (mX5_cuts l D (adz s.heap.size) ci (AC s.heap.size) σ (fun r τ => r = lN (nwF mm.2.1 mm.1) ∧ InvC τ mm) hR (sC_cuts hI (fun τ h => ⟨rfl, h⟩))) (cwV 0 hts gL_law_X5_cuts rfl rfl rfl ddX5_cuts ⟨Nat.le_of_ble_eq_true rfl, Nat.le_of_ble_eq_true rfl⟩) (l_cpre hK hw) rfl rfl hl.1 rfl (lv_room (Nat.le_of_ble_eq_true rfl)) dL_law_1132 ⟨Nat.le_of_succ_le hcs.1, Nat.le_trans (Nat.le_add_right _ 6) hcs.2⟩) hw hS (fun r σ1 H locs h1 hR1 hw hS => ?_)
  obtain ⟨h1, hI1⟩ := h1
  refine lv_aload_n hx hb dL_law_1135 rfl (lv_at hl 2 rfl) ?_
  refine l_mcalll (fun u => u) (va_runV (As := []) (rest := [.long r]) C0 (mX6_cuts l D (adM s.heap.size) ci (AM s.heap.size) τ (fun r τ => r = lN (nwF mm.2.1 mm.1) ∧ InvM τ mm) trivial (sM_cuts hM (fun τ h _ => ⟨rfl, h⟩))) (cwV 0 hts gL_law_X6_cuts rfl rfl rfl ddX6_cuts ⟨Nat.le_of_ble_eq_true rfl, Nat.le_of_ble_eq_true rfl⟩) (l_mpre hK hw) rfl rfl hl.1 rfl (lv_room (Nat.le_of_ble_eq_true rfl)) dL_law_1136 ⟨Nat.le_of_succ_le hcs.1, Nat.le_trans (Nat.le_add_right _ 6) hcs.2⟩) hw hS (fun r2 τ1 H locs h2 hw hS => ?_)
  obtain ⟨h2, hM1⟩ := h2
  have e : r = r2 := h1.trans h2.symm
  refine W.lcmp hx hb dL_law_1139 ?_
  exact lv_if_eq (tgt := 1375) hx hb dL_law_1140 (by decide) (fun _ => W.widen (k := cells + 1) (n := slots + 6) (Nat.le_succ _) (Nat.le_add_right _ _) (k H locs _ _ g mm ls hw hI1 hR1 hM1 hS hl)) (fun z => absurd ((lg_cmp_eq _ _).mpr e) z)
set_option maxHeartbeats 4000000 in
set_option maxRecDepth 100000 in
theorem case_fewest (hC : lw_C l p s m c b L xs D ci) (hi : i + 3 ≤ L) (hcs : cells + 1 ≤ 610757 ∧ slots + 6 ≤ 7263833) (k : Go p l e s m below meth c b D ci i (cells + 1) (slots + 6) Q 1375) : Go p l e s m below meth c b D ci i cells slots Q 1145 := by
  intro H locs σ τ g mm ls hw hI hR hM hS hl
  obtain ⟨C0, hX, hbl, hK, hE, hN, hL, hlt⟩ := id hC
  obtain ⟨hx, hb, -, -, hts⟩ := id C0
  refine lv_aload_n hx hb dL_law_1145 rfl (lv_at hl 1 rfl) ?_
  refine l_ccalli (fun u => u) (va_runV (As := []) (rest := []) C0 (mX5_fewest l D (adz s.heap.size) ci (AC s.heap.size) σ (KC (oFewest mm)) hR (sC_fewest hI (OutC_KX [] _))) (cwV 0 hts gL_law_X5_fewest rfl rfl rfl ddX5_fewest ⟨Nat.le_of_ble_eq_true rfl, Nat.le_of_ble_eq_true rfl⟩) (l_cpre hK hw) rfl rfl hl.1 rfl (lv_room (Nat.le_of_ble_eq_true rfl)) dL_law_1146 ⟨Nat.le_of_succ_le hcs.1, Nat.le_trans (Nat.le_add_right _ 6) hcs.2⟩) hw hS (fun r σ1 H locs h1 hR1 hw hS => ?_)
  obtain ⟨-, h1, hI1⟩ := h1
  refine lv_aload_n hx hb dL_law_1149 rfl (lv_at hl 2 rfl) ?_
  refine l_mcalli (fun u => u) (va_runV (As := []) (rest := [.int r]) C0 (mX6_fewest l D (adM s.heap.size) ci (AM s.heap.size) τ (KM (oFewest mm)) trivial (sM_fewest hM (OutM_K _))) (cwV 0 hts gL_law_X6_fewest rfl rfl rfl ddX6_fewest ⟨Nat.le_of_ble_eq_true rfl, Nat.le_of_ble_eq_true rfl⟩) (l_mpre hK hw) rfl rfl hl.1 rfl (lv_room (Nat.le_of_ble_eq_true rfl)) dL_law_1150 ⟨Nat.le_of_succ_le hcs.1, Nat.le_trans (Nat.le_add_right _ 6) hcs.2⟩) hw hS (fun r2 τ1 H locs h2 hw hS => ?_)
  have hM1 := h2.1
  have e : r = r2 := h1.trans (h2.2.2 rfl).symm
  exact lv_icmp_eq (tgt := 1375) hx hb dL_law_1153 (by decide) (fun _ => W.widen (k := cells + 1) (n := slots + 6) (Nat.le_succ _) (Nat.le_add_right _ _) (k H locs _ _ g (oFewest mm).2.2 ls hw hI1 hR1 hM1 hS hl)) (fun z => absurd e z)
set_option maxHeartbeats 4000000 in
set_option maxRecDepth 100000 in
theorem case_isTrue (hC : lw_C l p s m c b L xs D ci) (hi : i + 3 ≤ L) (hcs : cells + 1 ≤ 610757 ∧ slots + 6 ≤ 7263833) (k : Go p l e s m below meth c b D ci i (cells + 1) (slots + 6) Q 1375) : Go p l e s m below meth c b D ci i cells slots Q 1348 := by
  intro H locs σ τ g mm ls hw hI hR hM hS hl
  obtain ⟨C0, hX, hbl, hK, hE, hN, hL, hlt⟩ := id hC
  obtain ⟨hx, hb, -, -, hts⟩ := id C0
  refine lv_aload_n hx hb dL_law_1348 rfl (lv_at hl 1 rfl) ?_
  refine l_ccalli (fun u => u) (va_runV (As := []) (rest := []) C0 (mX5_isTrue l D (adz s.heap.size) ci (AC s.heap.size) σ (fun r τ => r = 1 ∧ InvC τ mm) hR (sC_isTrue hI (fun τ h => ⟨rfl, h⟩))) (cwV 0 hts gL_law_X5_isTrue rfl rfl rfl ddX5_isTrue ⟨Nat.le_of_ble_eq_true rfl, Nat.le_of_ble_eq_true rfl⟩) (l_cpre hK hw) rfl rfl hl.1 rfl (lv_room (Nat.le_of_ble_eq_true rfl)) dL_law_1349 ⟨Nat.le_of_succ_le hcs.1, Nat.le_trans (Nat.le_add_right _ 6) hcs.2⟩) hw hS (fun r σ1 H locs h1 hR1 hw hS => ?_)
  have h1 := h1.2
  obtain ⟨h1, hI1⟩ := h1
  refine lv_aload_n hx hb dL_law_1352 rfl (lv_at hl 2 rfl) ?_
  refine l_mcalli (fun u => u) (va_runV (As := []) (rest := [.int r]) C0 (mX6_isTrue l D (adM s.heap.size) ci (AM s.heap.size) τ (fun r τ => r = 1 ∧ InvM τ mm) trivial (sM_isTrue hM (fun τ h _ => ⟨rfl, h⟩))) (cwV 0 hts gL_law_X6_isTrue rfl rfl rfl ddX6_isTrue ⟨Nat.le_of_ble_eq_true rfl, Nat.le_of_ble_eq_true rfl⟩) (l_mpre hK hw) rfl rfl hl.1 rfl (lv_room (Nat.le_of_ble_eq_true rfl)) dL_law_1353 ⟨Nat.le_of_succ_le hcs.1, Nat.le_trans (Nat.le_add_right _ 6) hcs.2⟩) hw hS (fun r2 τ1 H locs h2 hw hS => ?_)
  have h2 := h2.2
  obtain ⟨h2, hM1⟩ := h2
  have e : r = r2 := h1.trans h2.symm
  exact lv_icmp_eq (tgt := 1375) hx hb dL_law_1356 (by decide) (fun _ => W.widen (k := cells + 1) (n := slots + 6) (Nat.le_succ _) (Nat.le_add_right _ _) (k H locs _ _ g mm ls hw hI1 hR1 hM1 hS hl)) (fun z => absurd e z)
set_option maxHeartbeats 4000000 in
set_option maxRecDepth 100000 in
theorem case_checksum (hC : lw_C l p s m c b L xs D ci) (hi : i + 3 ≤ L) (hcs : cells + 1 ≤ 610757 ∧ slots + 6 ≤ 7263833) (k : Go p l e s m below meth c b D ci i (cells + 1) (slots + 6) Q 1375) : Go p l e s m below meth c b D ci i cells slots Q 1361 := by
  intro H locs σ τ g mm ls hw hI hR hM hS hl
  obtain ⟨C0, hX, hbl, hK, hE, hN, hL, hlt⟩ := id hC
  obtain ⟨hx, hb, -, -, hts⟩ := id C0
  refine lv_aload_n hx hb dL_law_1361 rfl (lv_at hl 1 rfl) ?_
  refine l_ccalll (S := Unit) (fun _ => σ) (va_runV (As := []) (rest := []) C0 (mX5_checksum l D (adz s.heap.size) ci (AC s.heap.size) σ (fun r => r = oSumAll mm) hR (sC_checksum hI rfl)) (cwV 0 hts gL_law_X5_checksum rfl rfl rfl ddX5_checksum ⟨Nat.le_of_ble_eq_true rfl, Nat.le_of_ble_eq_true rfl⟩) (l_cpre hK hw) rfl rfl hl.1 rfl (lv_room (Nat.le_of_ble_eq_true rfl)) dL_law_1362 ⟨Nat.le_of_succ_le hcs.1, Nat.le_trans (Nat.le_add_right _ 6) hcs.2⟩) hw hS (fun r σ1 H locs h1 hR1 hw hS => ?_)
  have hI1 := hI
  refine lv_aload_n hx hb dL_law_1365 rfl (lv_at hl 2 rfl) ?_
  refine l_mcalll (fun u => u) (va_runV (As := []) (rest := [.long r]) C0 (mX6_checksum l D (adM s.heap.size) ci (AM s.heap.size) τ (fun r τ => r = oSumAll mm ∧ InvM τ mm) trivial (sM_checksum hM (fun τ h _ => ⟨rfl, h⟩))) (cwV 0 hts gL_law_X6_checksum rfl rfl rfl ddX6_checksum ⟨Nat.le_of_ble_eq_true rfl, Nat.le_of_ble_eq_true rfl⟩) (l_mpre hK hw) rfl rfl hl.1 rfl (lv_room (Nat.le_of_ble_eq_true rfl)) dL_law_1366 ⟨Nat.le_of_succ_le hcs.1, Nat.le_trans (Nat.le_add_right _ 6) hcs.2⟩) hw hS (fun r2 τ1 H locs h2 hw hS => ?_)
  obtain ⟨h2, hM1⟩ := h2
  have e : r = r2 := h1.trans h2.symm
  refine W.lcmp hx hb dL_law_1369 ?_
  exact lv_if_eq (tgt := 1375) hx hb dL_law_1370 (by decide) (fun _ => W.widen (k := cells + 1) (n := slots + 6) (Nat.le_succ _) (Nat.le_add_right _ _) (k H locs _ _ g mm ls hw hI1 hR1 hM1 hS hl)) (fun z => absurd ((lg_cmp_eq _ _).mpr e) z)
end LAWK
