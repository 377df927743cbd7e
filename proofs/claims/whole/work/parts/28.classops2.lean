/-! THE CLASS'S CALLS: beginnings, cuts, codes, all -/
theorem cB_cons (w : List Nat × Nat) (ws : Ws) (t : List Nat) : cB (w :: ws) t = cB ws t + if preB t w.1 = true then 1 else 0 := by
  unfold cB; rw [List.countP_cons]
theorem bAt_eq : ∀ {ws : Ws} {t : List Nat} {n i : Nat}, i < ws.length → preB t (wd ws i) = true → cB (ws.take i) t = n → bAt ws t n = i
  | [], _, _, _, h, _, _ => by simp at h
  | w :: ws, t, n, 0, h, hp, hn => by
    rw [wd_0] at hp
    have hn : 0 = n := hn
    unfold bAt
    rw [if_pos hp, if_pos hn.symm]
  | w :: ws, t, n, i + 1, h, hp, hn => by
    rw [wd_s] at hp
    rw [List.take_succ_cons, cB_cons] at hn
    have hi : i < ws.length := by simpa using h
    unfold bAt
    by_cases e : preB t w.1 = true
    · rw [if_pos e] at hn ⊢
      rw [if_neg (by omega), bAt_eq hi hp (by omega)]
    · rw [if_neg e] at hn ⊢
      rw [bAt_eq hi hp (by omega)]
theorem bAt_ge : ∀ {ws : Ws} {t : List Nat} {n : Nat}, cB ws t ≤ n → bAt ws t n = ws.length
  | [], _, _, _ => rfl
  | w :: ws, t, n, h => by
    rw [cB_cons] at h
    unfold bAt
    by_cases e : preB t w.1 = true
    · rw [if_pos e] at h ⊢
      rw [if_neg (by omega), bAt_ge (by omega), List.length_cons]
    · rw [if_neg e] at h ⊢
      rw [bAt_ge (by omega), List.length_cons]
theorem rd_uniq {σ : St} {cs : Cs} (hb : BookIs σ cs) (ho : Ord cs) {u v : List Nat} (hu : Sg u) (hv : Sg v) (e : wrt cs u = wrt cs v) : u = v := by
  obtain ⟨w, h1, h2⟩ := wrt_split hb ho u v [] hu hv (by rw [List.append_nil, e])
  have hw : Sg w := fun s hs => hv s (by rw [h1]; exact List.mem_append_right _ hs)
  have := (wrt_len hb w hw).1
  rw [h2] at this
  simp at this
  rw [h1, this, List.append_nil]
theorem rdF_some {σ : St} {cs : Cs} (hb : BookIs σ cs) (ho : Ord cs) {u t : List Nat} (hu : Sg u) (e : wrt cs u = t) : rdF cs t = some u := by
  have hx : ∃ u, Sg u ∧ wrt cs u = t := ⟨u, hu, e⟩
  unfold rdF
  rw [dif_pos hx, rd_uniq hb ho hx.choose_spec.1 hu (hx.choose_spec.2.trans e.symm)]
theorem rdF_none {cs : Cs} {t : List Nat} (h : ∀ u, Sg u → wrt cs u ≠ t) : rdF cs t = none := by
  unfold rdF
  rw [dif_neg (fun ⟨u, h1, h2⟩ => h u h1 h2)]
theorem Sg_wrt {cs : Cs} (h : ∀ c, c < 6 → Sg (cs c)) : ∀ {a : List Nat}, Sg a → Sg (wrt cs a)
  | [], _ => Sg_nil
  | s :: a, hs => by
    rw [wrt_cons]
    have := hs s List.mem_cons_self
    exact Sg_app (h _ (by omega)) (Sg_wrt h fun x hx => hs x (List.mem_cons_of_mem _ hx))
theorem wd_map (cs : Cs) : ∀ (ws : Ws) (i : Nat), wd (wmap cs ws) i = wrt cs (wd ws i)
  | [], i => by simp [wmap, wd, wrt]
  | w :: ws, 0 => rfl
  | w :: ws, i + 1 => by
    show wd ((wrt cs w.1, w.2) :: wmap cs ws) (i + 1) = _
    rw [wd_s, wd_s]; exact wd_map cs ws i
theorem nu_map (cs : Cs) : ∀ (ws : Ws) (i : Nat), nu (wmap cs ws) i = nu ws i
  | [], i => by simp [wmap, nu]
  | w :: ws, 0 => rfl
  | w :: ws, i + 1 => by
    show nu ((wrt cs w.1, w.2) :: wmap cs ws) (i + 1) = _
    rw [nu_s, nu_s]; exact nu_map cs ws i
theorem len_map (cs : Cs) (ws : Ws) : (wmap cs ws).length = ws.length := by simp [wmap]
theorem ListIs.row {σ τ : St} {ws ws' : Ws} {k : Nat} {a : List Nat} (h : ListIs σ ws) (hk : k < ws.length) (hc : Chg (fun q => q = gR σ k) σ τ) (hr : RowIs τ (gR σ k) a) (hl : ws'.length = ws.length) (hw : ∀ i, i < ws.length → wd ws' i = if i = k then a else wd ws i) (hn : ∀ i, i < ws.length → nu ws' i = nu ws i) : ListIs τ ws' := by
  obtain ⟨a1, a2, a3, a4, a5, a6, a7⟩ := h
  have hp := a5 k (by omega)
  have n5 : 5 ≠ gR σ k := fun e => by have := hp.1; omega
  have n55 : 55 ≠ gR σ k := fun e => by have := hp.2.1; omega
  have n56 : 56 ≠ gR σ k := fun e => by have := hp.2.1; omega
  refine ⟨by rw [hl]; exact (hc.1 5 n5).1.trans a1, by omega, fun i hi => ?_, a4.kept hc n56, fun i hi => by rw [hc.2]; exact a5 i hi, fun i j hi hj e => a6 i j hi hj (by rwa [hc.2, hc.2] at e), fun i hi => by rw [hl] at hi; rw [hn i hi]; exact a7 i hi⟩
  rw [hl] at hi
  rw [hw i hi, hn i hi, hc.2]
  refine ⟨?_, ((hc.1 55 n55).2 i).trans (a3 i hi).2⟩
  by_cases e : i = k
  · rw [if_pos e, e]; exact hr
  · rw [if_neg e]
    exact (a3 i hi).1.kept hc fun q => e (a6 i k (by omega) (by omega) q)
def mixW (cs : Cs) (ws : Ws) (k : Nat) : Ws := wmap cs (ws.take k) ++ ws.drop k
theorem mix_len (cs : Cs) (ws : Ws) (k : Nat) : (mixW cs ws k).length = ws.length := by simp [mixW, wmap]; omega
theorem mix_wd {cs : Cs} {ws : Ws} {k i : Nat} (hk : k ≤ ws.length) : wd (mixW cs ws k) i = if i < k then wrt cs (wd ws i) else wd ws i := by
  unfold mixW
  have e : (wmap cs (ws.take k)).length = k := by simp [wmap]; omega
  by_cases h : i < k
  · rw [if_pos h, wd_app_l (by omega), wd_map, wd_take h]
  · rw [if_neg h, wd_app_r (by omega), e, wd_drop, show k + (i - k) = i by omega]
theorem mix_nu {cs : Cs} {ws : Ws} {k i : Nat} (hk : k ≤ ws.length) : nu (mixW cs ws k) i = nu ws i := by
  unfold mixW
  have e : (wmap cs (ws.take k)).length = k := by simp [wmap]; omega
  by_cases h : i < k
  · rw [nu_app_l (by omega), nu_map, nu_take h]
  · rw [nu_app_r (by omega), e, nu_drop, show k + (i - k) = i by omega]
theorem addW_snoc {s : Int64} {ws : Ws} {k : Nat} (h : k < ws.length) : addW s (ws.take (k + 1)) = 31 * addS (addW s (ws.take k)) (wd ws k) + lN (nu ws k) := by
  unfold addW
  rw [take_snoc h, List.foldl_append]
  rfl
section CLS
variable {σ : St} {m : Stt} {K : Int32 → St → Prop} {X : String → St → Prop}
theorem sC_begun (h : InvC σ m) {K : Int32 → Prop} (hK : K (oBegun m).2.1) : wX5_begun σ K := sX4_countBegun h.2.2.1 h.1 hK
theorem sC_begunAt {v : Int32} (h : InvC σ m) (hO : OutC [eN] (oBegunAt v m) K X) : wX5_begunAt σ v K X := by
  obtain ⟨a1, a2, a3, a4, a5, a6, a7, a8⟩ := id h
  have hw := a3.2.1
  unfold oBegunAt at hO
  refine sX4_rankBegun a3 a1 (fun i i1 i2 i3 => ⟨fun q => absurd q (nI_ne_m1 (by omega)), fun _ => sX4_rowAt a3 i (by omega) fun r hr hr2 => become_ok h i1 hr (hr2 i1) fun τ ht => sX4_numberAt ht.2.2.1 i i1 ?_⟩) (fun hn => ⟨fun _ => ?_, fun q => absurd rfl q⟩)
  · have hc : cB (m.2.1.take i) m.1 ≤ 24 := Nat.le_trans (countP_le _) (by simp; omega)
    subst i3
    rw [nt_nI (by omega), bAt_eq i1 i2 rfl, nI_toInt (by omega), if_pos ⟨by omega, i1⟩] at hO
    exact hO.k ht
  · have hx : ¬ (0 ≤ v.toInt ∧ bAt m.2.1 m.1 (nt v) < m.2.1.length) := by
      rintro ⟨q1, q2⟩
      obtain ⟨e1, e2, e3⟩ := of_nn q1
      rcases Nat.lt_or_ge (nt v) (cB m.2.1 m.1) with q | q
      · exact hn _ q e1
      · rw [bAt_ge q] at q2; omega
    rw [if_neg hx] at hO
    exact hO.x rfl h
theorem sC_sum (h : InvC σ m) {K : Int32 → Prop} (hK : K (oSum m).2.1) : wX5_sum σ K := sX4_sumBegun h.2.2.1 h.1 hK
theorem sC_gone (h : InvC σ m) (hO : OutC [] (oGone m) K X) : wX5_gone σ K := by
  obtain ⟨a1, a2, a3, a4, a5, a6, a7, a8⟩ := id h
  have hm : ∀ {P : List Nat → Prop}, (∀ i, i < m.2.1.length → P (wd m.2.1 i)) → ∀ i, i < (m.2.1.filter (fun w => !preB m.1 w.1)).length → P (wd (m.2.1.filter (fun w => !preB m.1 w.1)) i) := fun hp => by
    rw [all_mem] at hp ⊢
    exact fun w hw => hp w ((List.mem_filter.mp hw).1)
  exact sX4_removeBegun a3 a1 (by omega) (by omega) (fun q => by have := q.1; omega) fun τ t1 t2 => hO.k (h.list t2 t1 (Srt_filter a4) (hm a5) (hm (P := fun w => 1 ≤ w.length ∧ w.length ≤ 10) a6))
theorem sC_longest {p : Int32} (h : InvC σ m) (hO : OutC [eI] (oLongest p m) K X) : wX5_longest σ p K X := by
  have hl := h.len
  unfold oLongest at hO
  have hx : ¬ (0 ≤ p.toInt ∧ p.toInt ≤ m.1.length) → X eI σ := fun q => by rw [if_neg q] at hO; exact hO.x rfl h
  refine ⟨fun z => hx (by have := neg_iff.mp z; omega), fun z => sX2_size h.1 ⟨fun y => ?_, fun y => hx fun w => y ((le_lit (by omega)).mpr w.2)⟩⟩
  have z := nneg z
  have y := (le_lit (by omega)).mp y
  obtain ⟨ep, lp, ip⟩ := of_nn (x := p) (by omega)
  rw [if_pos ⟨by omega, by omega⟩] at hO
  generalize nt p = i at ep ip hO
  subst ep
  refine sX4_longestAt h.2.2.1 h.1 (by omega) fun k hk _ => ?_
  rw [hk.uniq (lgF_top m.2.1 (m.1.drop i)) fun _ => Iff.rfl]
  exact hO.k h
theorem sC_shared (h : InvC σ m) {K : Int32 → Prop} (hK : K (oShared m).2.1) : wX5_shared σ K :=
  sX4_mostCommon h.2.2.1 h.1 fun k hk _ => by
    rw [hk.uniq (coF_top m.2.1 m.1) fun _ => Iff.rfl]; exact hK
theorem sC_twin (h : InvC σ m) (hO : OutC [eN] (oTwin m) K X) : wX5_twin σ K X := by
  have hw := h.2.2.1.2.1
  unfold oTwin at hO
  refine sX4_size h.2.2.1 (pk_le 2 m.2.1.length (fun z => sX4_mostCommonOfTwo h.2.2.1 fun k hk _ => ?_) (fun z => ?_))
  · rw [if_pos z] at hO
    rw [hk.uniq (twF_top m.2.1) fun _ => Iff.rfl]
    exact hO.k h
  · rw [if_neg (by omega)] at hO
    exact hO.x rfl h
theorem look_ok (h : InvC σ m) {K : St → Prop} (hK : ∀ τ, InvC τ m → CutIs τ m.2.1 m.1 → K τ) : wX1_look σ 1 K :=
  sX1_look h.2.2.1 h.1 h.len (by unfold CutB; omega) fun τ t1 t2 => hK τ (h.free t2 fun k hk => Or.inr (Or.inr (Or.inl hk))) t1
theorem sC_pieces (h : InvC σ m) (hO : OutC [] (oPieces m) K X) : wX5_pieces σ K :=
  look_ok h fun τ t1 t2 => sX1_countLongest t2 h.2.2.2.2.2.1 h.len fun s s0 s1 s2 => by
    have e : pcs m = s := stp_eq s1 s2 25 0 (by omega) (by omega)
    have := hO.k t1
    rwa [e] at this
theorem sC_piece {v : Int32} (h : InvC σ m) (hO : OutC [eN] (oPiece v m) K X) : wX5_piece σ v K X := by
  have hl := h.len
  unfold oPiece at hO
  refine look_ok h fun τ t1 t2 => sX1_sizeOfLongest t2 h.2.2.2.2.2.1 h.len (fun hn => ⟨fun _ => ?_, fun q => absurd rfl q⟩) (fun i hi e => ?_)
  · rw [if_neg (by have := neg_iff.mp hn; omega)] at hO
    exact hO.x rfl t1
  · subst e
    have hle := lgL_le m.2.1 m.1 (gp_le m.2.1 m.1 i)
    rw [nI_toInt hi, nt_nI hi] at hO
    refine pk_eq (lgL m.2.1 m.1 (gp (lgL m.2.1 m.1) i)) 0 (fun e => ?_) (fun e => ?_) rfl rfl (by omega) (by omega)
    · rw [if_neg (by omega)] at hO; exact hO.x rfl t1
    · rw [if_pos ⟨by omega, by omega⟩] at hO; exact hO.k t1
theorem sC_cuts (h : InvC σ m) {K : Int64 → St → Prop} (hK : ∀ τ, InvC τ m → K (lN (nwF m.2.1 m.1)) τ) : wX5_cuts σ K :=
  look_ok h fun τ t1 t2 => sX1_countWays (a := 0) t2 h.len (Nat.zero_le _) (NW_nwv m.2.1 m.1) fun υ u1 => hK υ (t1.free u1 fun k hk => hk.elim)
theorem sC_fewest (h : InvC σ m) (hO : OutC [] (oFewest m) K X) : wX5_fewest σ K :=
  look_ok h fun τ t1 t2 => sX1_leastPieces t2 h.2.2.2.2.2.1 h.len fun υ v u1 u2 => by
    have := hO.k (t1.free u1 fun k hk => Or.inr (Or.inl (Or.inr hk)))
    rwa [lstF_eq u2] at this
theorem sC_code {q : Nat} (h : InvC σ m) (hq : q < 65536) (hO : OutC [eA, eU] (oCode q m) K X) : wX5_code σ (nI q) K X := by
  obtain ⟨a1, a2, a3, a4, a5, a6, a7, a8⟩ := id h
  have hl := h.len
  unfold oCode at hO
  by_cases hs : 97 ≤ q ∧ q < 103
  · rw [if_pos hs] at hO
    refine sX5_isSign (fun q1 _ _ e => ⟨fun z => absurd z (by decide), fun _ => sX2_size a1 (pk_eq m.1.length 0 (fun z => ?_) (fun z => sX2_size a1 (pk_le m.1.length 3 (fun w => ?_) (fun w => ?_))) rfl rfl (by omega) (by omega))⟩) (fun z => absurd ⟨q, hs.1, hs.2, rfl⟩ z)
    · rw [if_neg (by omega)] at hO; exact hO.x rfl h
    · rw [if_pos ⟨by omega, w⟩] at hO
      have hc : q - 97 < 6 := by omega
      refine sX0_codeOf a7 hs.1 hs.2 (sX2_size (a7.1 _ hc).1 (sX2_become a1 (by omega) (by rw [capC_code hc]; exact w) fun τ t1 t2 => hO.k ?_))
      refine ⟨a1.kept t2 (by omega), a2, a3.kept t2 (by omega) (by omega) (by omega) (fun r hr e => by have := hr.2.1; omega), a4, a5, a6, ⟨fun c hc2 => ?_, a7.2.kept t2 (by omega)⟩, fun c hc2 => ?_⟩
      · by_cases e : c = q - 97
        · subst e
          show RowIs τ _ (if _ = _ then _ else _) ∧ 1 ≤ (if _ = _ then _ else _ : List Nat).length
          rw [if_pos rfl]
          exact ⟨t1, by omega⟩
        · show RowIs τ _ (if _ = _ then _ else _) ∧ 1 ≤ (if _ = _ then _ else _ : List Nat).length
          rw [if_neg e]
          exact ⟨(a7.1 c hc2).1.kept t2 (by omega), (a7.1 c hc2).2⟩
      · show Sg (if c = q - 97 then m.1 else m.2.2 c)
        split
        · exact a2
        · exact a8 c hc2
    · rw [if_neg (by omega)] at hO; exact hO.x rfl h
  · rw [if_neg hs] at hO
    exact sX5_isSign (fun q1 a b e => absurd (by rw [(nI_eq (by omega) (by omega)).mp e]; exact ⟨a, b⟩) hs) (fun _ => ⟨fun _ => hO.x rfl h, fun z => absurd rfl z⟩)
theorem capC_3 : capC 3 = 24 := rfl
theorem capC_1 : capC 1 = 24 := rfl
theorem sC_write (h : InvC σ m) (hO : OutC [eS] (oWrite m) K X) : wX5_write σ K X := by
  obtain ⟨a1, a2, a3, a4, a5, a6, a7, a8⟩ := id h
  have hl := h.len
  have hwl := (wrt_len a7 m.1 a2).2
  unfold oWrite at hO
  refine sX0_sizeWritten a7 a1 a2 (pk_le (wrt m.2.2 m.1).length 24 (fun z => ?_) (fun z => ?_))
  · rw [if_pos z] at hO
    refine sX0_writeInto a7 a1 a2 (by omega) (fun c hc => by omega) (by omega) (by rw [capC_3]; exact z) fun τ t1 t2 => sX2_become t1 (by omega) (by rw [capC_1]; exact z) fun υ u1 u2 => sX2_size u1 ?_
    exact hO.k ((h.free t2 fun k hk => Or.inl hk).text u2 u1 (Sg_wrt a8 a2))
  · rw [if_neg (by omega)] at hO; exact hO.x rfl h
theorem sC_read (h : InvC σ m) (hO : OutC [eU, eN] (oRead m) K X) : wX5_read σ K X := by
  obtain ⟨a1, a2, a3, a4, a5, a6, a7, a8⟩ := id h
  have hl := h.len
  unfold oRead at hO
  refine sX0_isOrderly a7 (fun ho => ⟨fun z => absurd z (by decide), fun _ => ?_⟩) (fun ho => ⟨fun _ => ?_, fun z => absurd rfl z⟩)
  · rw [if_pos (ordB_iff.mpr ho)] at hO
    refine sX0_readInto a7 ho a1 hl (by omega) (fun c hc => by omega) (by omega) (by rw [capC_3]; omega) (fun τ u hu hw t1 t2 => ⟨fun z => absurd z (by decide), fun _ => ?_⟩) (fun hn τ t2 => ⟨fun _ => ?_, fun z => absurd rfl z⟩)
    · rw [rdF_some a7 ho hu hw] at hO
      have hul := t1.2.1
      rw [capC_3] at hul
      refine sX2_become t1 (by omega) (by rw [capC_1]; exact hul) fun υ u1 u2 => sX2_size u1 ?_
      exact hO.k ((h.free t2 fun k hk => Or.inl hk).text u2 u1 hu)
    · rw [rdF_none hn] at hO
      exact hO.x rfl (h.free t2 fun k hk => Or.inl hk)
  · rw [if_neg (fun q => ho (ordB_iff.mp q))] at hO; exact hO.x rfl h
theorem grw_snoc {cs : Cs} {ws : Ws} {k : Nat} (h : k < ws.length) : grw cs (ws.take (k + 1)) = grw cs (ws.take k) + if (wd ws k).length < (wrt cs (wd ws k)).length then 1 else 0 := by
  unfold grw
  rw [countP_snoc h]
  simp
theorem sC_writeAll (h : InvC σ m) (hO : OutC [eU, eS] (oWriteAll m) K X) : wX5_writeAll σ K X := by
  obtain ⟨a1, a2, a3, a4, a5, a6, a7, a8⟩ := id h
  have hw := a3.2.1
  unfold oWriteAll at hO
  refine sX0_isOrderly a7 (fun ho => ⟨fun z => absurd z (by decide), fun _ => sX0_mostWritten a3 a7 a5 fun k hk hk2 => pk_le k 10 (fun z => ?_) (fun z => ?_)⟩) (fun ho => ⟨fun _ => ?_, fun z => absurd rfl z⟩)
  · rw [if_pos (ordB_iff.mpr ho)] at hO
    have hall : ∀ i, i < m.2.1.length → (wrt m.2.2 (wd m.2.1 i)).length ≤ 10 := fun i hi => by
      have := hk.1 _ ⟨i, hi, rfl⟩; omega
    have hall2 : m.2.1.all (fun w => decide ((wrt m.2.2 w.1).length ≤ 10)) = true := by
      rw [List.all_eq_true]
      intro w hw2
      obtain ⟨i, hi, e, -⟩ := wd_of_mem hw2
      rw [← e]
      exact decide_eq_true (hall i hi)
    rw [if_pos hall2] at hO
    refine sX0_writeWords a3 a7 a5 (fun i hi => (a6 i hi).2) fun τ t1 t2 => ?_
    have hτ : InvC τ m := h.free t2 fun k hk => Or.inr (Or.inr (Or.inr hk))
    have key : ∀ d k (υ : St), k + d = m.2.1.length → ListIs υ (mixW m.2.2 m.2.1 k) → (∀ i, i < m.2.1.length → RowIs υ (73 + 2 * i) (wrt m.2.2 (wd m.2.1 i))) → ChgL τ υ → wX5_writeAll_L61 K X (d + 1) υ (nI (grw m.2.2 (m.2.1.take k))) (nI k) := by
      intro d
      induction d with
      | zero =>
        intro k υ hk hL hr hc
        rw [wX5_writeAll_L61]
        refine sX4_size hL ?_
        rw [mix_len]
        refine pk_le m.2.1.length k (fun _ => ?_) (fun q => by omega)
        have e : k = m.2.1.length := by omega
        subst e
        rw [List.take_length]
        have em : mixW m.2.2 m.2.1 m.2.1.length = wmap m.2.2 m.2.1 := by simp [mixW]
        rw [em] at hL
        refine hO.k (hτ.list hc hL (fun i j hij hj => ?_) (fun i hi => ?_) (fun i hi => ?_))
        · rw [len_map] at hj
          rw [wd_map, wd_map]
          exact (codes_keep a7 ho _ _ (a5 i (by omega)) (a5 j hj) (a4 i j hij hj)).1
        · rw [len_map] at hi
          rw [wd_map]; exact Sg_wrt a8 (a5 i hi)
        · rw [len_map] at hi
          rw [wd_map]
          have := (wrt_len a7 _ (a5 i hi)).1
          have := (a6 i hi).1
          exact ⟨by omega, hall i hi⟩
      | succ d ih =>
        intro k υ hk hL hr hc
        have hL2 := hL.2.1
        rw [wX5_writeAll_L61]
        refine sX4_size hL ?_
        rw [mix_len]
        refine pk_le m.2.1.length k (fun _ => by omega) (fun q => sX4_rowAt hL k (by omega) fun r hrr hr2 => sX0_writtenAt (by omega) (sX2_size (hr k q) (sX2_size hrr ?_)))
        have hr2 := hr2 (by rw [mix_len]; exact q)
        have hp := hL.2.2.2.2.1 k (by omega)
        rw [mix_wd (by omega), if_neg (by omega)]
        have h10 := a6 k q
        have hk10 := hall k q
        have J : ∀ s1 : Int32, s1 = nI (grw m.2.2 (m.2.1.take (k + 1))) → wX5_writeAll_J106 K X (wX5_writeAll_L61 K X (d + 1)) υ s1 (nI k) r (73 + 2 * k) := by
          rintro _ rfl
          subst hr2
          refine sX2_become (hr k q) (fun e => by have := hp.2.1; omega) (by rw [pool_cap hp]; exact hk10) fun φ f1 f2 => ?_
          rw [nI_1]
          refine ih (k + 1) φ (by omega) (hL.row (by rw [mix_len]; exact q) f2 f1 (by rw [mix_len, mix_len]) (fun i hi => ?_) (fun i hi => by rw [mix_nu (by omega), mix_nu (by omega)])) (fun i hi => (hr i hi).kept f2 (fun e => by have := hp.2.1; omega)) (hc.tr fun j _ _ jp => f2.1 j (fun e => jp (e ▸ hp)))
          rw [mix_wd (by omega), mix_wd (by omega)]
          by_cases e : i = k
          · rw [if_pos e, if_pos (by omega), e]
          · rw [if_neg e]
            by_cases z : i < k
            · rw [if_pos z, if_pos (by omega)]
            · rw [if_neg z, if_neg (by omega)]
        refine pk_le (wrt m.2.2 (wd m.2.1 k)).length (wd m.2.1 k).length (fun z => J _ (by rw [grw_snoc q, if_neg (by omega), Nat.add_zero])) (fun z => J _ ?_)
        rw [nI_1, grw_snoc q, if_pos z]
    exact ⟨_, key m.2.1.length 0 τ (by omega) (by simpa [mixW, wmap] using hτ.2.2.1) t1 ChgL.rf⟩
  · rw [if_pos (ordB_iff.mpr ho), if_neg] at hO
    · exact hO.x rfl h
    · rw [List.all_eq_true]
      intro q
      rcases hk.2 with e | ⟨i, hi, e⟩
      · omega
      · have := q _ (wd_mem hi)
        have := of_decide_eq_true this
        have this : (wrt m.2.2 (wd m.2.1 i)).length ≤ 10 := this
        omega
  · rw [if_neg (fun q => ho (ordB_iff.mp q))] at hO; exact hO.x rfl h
theorem sC_isTrue (h : InvC σ m) (hK : ∀ τ, InvC τ m → K 1 τ) : wX5_isTrue σ K := by
  have nT2 : ¬ T2 1 := by unfold T2; omega
  have fT2 : ∀ k, T2 k → Free k := fun k q => Or.inr (Or.inl (Or.inl q))
  have ne : ∀ {P : Prop}, ((1 : Int32) = 0 → P) := fun z => absurd z (by decide)
  refine look_ok h fun τ t1 t2 => ?_
  have hl := h.len
  have hS := h.2.2.2.1
  have hG := h.2.2.2.2.1
  have hW := h.2.2.2.2.2.1
  refine sX3_beginningsHold t1.2.2.1 hS t1.1 nT2 hl fun υ u => ⟨ne, fun _ => ?_⟩
  have v1 := t1.free u fT2
  have c1 : CutIs υ m.2.1 m.1 := t2.kept u (by unfold T2; omega) (by unfold T2; omega)
  refine sX3_longestHolds v1.2.2.1 hS v1.1 nT2 hl fun φ f => ⟨ne, fun _ => ?_⟩
  have v2 := v1.free f fT2
  have c2 : CutIs φ m.2.1 m.1 := c1.kept f (by unfold T2; omega) (by unfold T2; omega)
  refine sX3_commonHolds v2.2.2.1 hS v2.1 ⟨ne, fun _ => sX3_twinsHold v2.2.2.1 hS ⟨ne, fun _ => sX3_cutsHold c2 v2.1 hl fun χ x => ⟨ne, fun _ => ?_⟩⟩⟩
  have v3 := v2.free x fun k q => q.elim
  have c3 : CutIs χ m.2.1 m.1 := c2.kept x (fun q => q) (fun q => q)
  refine sX3_fewestHolds v3.2.2.1 hS hW c3 hl fun ψ p => ⟨ne, fun _ => ?_⟩
  have v4 := v3.free p fun k q => Or.inr (Or.inl q)
  refine sX3_codesHold v4.2.2.1 v4.2.2.2.2.2.2.1 hS hG hW fun ω o => ⟨ne, fun _ => hK ω (v4.free o fun k q => Or.inr (Or.inr (Or.inr q)))⟩
theorem sC_checksum (h : InvC σ m) {K : Int64 → Prop} (hK : K (oSumAll m)) : wX5_checksum σ K := by
  obtain ⟨a1, a2, a3, a4, a5, a6, a7, a8⟩ := id h
  have hw := a3.2.1
  have codes : ∀ d c, c + d = 6 → wX5_checksum_L59 K σ (d + 1) (addC m.2.2 (addW (addS 7 m.1) m.2.1) c) (nI c) := by
    intro d
    induction d with
    | zero =>
      intro c hc
      rw [wX5_checksum_L59]
      refine pk_le 6 c (fun _ => ?_) (fun q => by omega)
      rw [show c = 6 by omega]
      exact hK
    | succ d ih =>
      intro c hc
      rw [wX5_checksum_L59]
      refine pk_le 6 c (fun _ => by omega) (fun q => sX5_signOf q (sX0_codeOf a7 (by omega) (by omega) ?_))
      rw [show 97 + c - 97 = c by omega]
      have hcl := a7.len q
      refine sX2_size (a7.1 c q).1 (sX2_addTo (a7.1 c q).1 ?_)
      rw [nI_l (by omega), nI_1]
      exact ih (c + 1) (by omega)
  have words : ∀ d k, k + d = m.2.1.length → wX5_checksum_L13 K σ (d + 1) (addW (addS 7 m.1) (m.2.1.take k)) (nI k) := by
    intro d
    induction d with
    | zero =>
      intro k hk
      rw [wX5_checksum_L13]
      refine sX4_size a3 (pk_le m.2.1.length k (fun _ => ?_) (fun q => by omega))
      rw [List.take_of_length_le (by omega)]
      exact ⟨_, codes 6 0 (by omega)⟩
    | succ d ih =>
      intro k hk
      rw [wX5_checksum_L13]
      refine sX4_size a3 (pk_le m.2.1.length k (fun _ => by omega) (fun q => sX4_rowAt a3 k (by omega) fun r hr _ => sX2_addTo hr (sX4_numberAt a3 k q ?_)))
      have hn := a3.2.2.2.2.2.2 k q
      rw [nI_l (by omega), nI_1]
      rintro _ rfl
      rw [← addW_snoc q]
      exact ih (k + 1) (by omega)
  exact sX2_addTo a1 ⟨_, words m.2.1.length 0 (by omega)⟩
end CLS
