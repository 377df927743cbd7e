/-! THE CLASS'S CALLS: the text -/
theorem lt_lit {x : Int32} {n : Nat} (h : n < 2 ^ 31) : x < nI n ↔ x.toInt < n := by rw [Int32.lt_iff_toInt_lt, nI_toInt h]
theorem le_lit {x : Int32} {n : Nat} (h : n < 2 ^ 31) : x ≤ nI n ↔ x.toInt ≤ n := by rw [Int32.le_iff_toInt_le, nI_toInt h]
theorem lit_lt {x : Int32} {n : Nat} (h : n < 2 ^ 31) : nI n < x ↔ (n : Int) < x.toInt := by rw [Int32.lt_iff_toInt_lt, nI_toInt h]
theorem lit_le {x : Int32} {n : Nat} (h : n < 2 ^ 31) : nI n ≤ x ↔ (n : Int) ≤ x.toInt := by rw [Int32.le_iff_toInt_le, nI_toInt h]
theorem nneg {x : Int32} (h : ¬ x < 0) : 0 ≤ x.toInt := by
  have : ¬ x.toInt < 0 := fun q => h (neg_iff.mpr q)
  omega
theorem nlt_lit {x : Int32} {n : Nat} (hn : n < 2 ^ 31) (h : ¬ x < nI n) : (n : Int) ≤ x.toInt := by
  have : ¬ x.toInt < n := fun q => h ((lt_lit hn).mpr q)
  omega
theorem nlit_lt {x : Int32} {n : Nat} (hn : n < 2 ^ 31) (h : ¬ nI n < x) : x.toInt ≤ n := by
  have : ¬ (n : Int) < x.toInt := fun q => h ((lit_lt hn).mpr q)
  omega
theorem nle_lit {x : Int32} {n : Nat} (hn : n < 2 ^ 31) (h : ¬ x ≤ nI n) : (n : Int) < x.toInt := by
  have : ¬ x.toInt ≤ n := fun q => h ((le_lit hn).mpr q)
  omega
theorem of_nn {x : Int32} (h : 0 ≤ x.toInt) : x = nI (nt x) ∧ nt x < 2 ^ 31 ∧ x.toInt = nt x := by
  rcases int_cases x with ⟨_, q⟩ | ⟨j, hj, rfl, e⟩
  · omega
  · rw [nt_nI hj]; exact ⟨rfl, hj, e⟩
theorem Sg_app {a b : List Nat} (h1 : Sg a) (h2 : Sg b) : Sg (a ++ b) := fun s hs => (List.mem_append.mp hs).elim (h1 s) (h2 s)
theorem Sg_take {a : List Nat} (h : Sg a) (n : Nat) : Sg (a.take n) := fun s hs => h s (List.mem_of_mem_take hs)
theorem Sg_drop {a : List Nat} (h : Sg a) (n : Nat) : Sg (a.drop n) := fun s hs => h s (List.mem_of_mem_drop hs)
theorem Sg_rev {a : List Nat} (h : Sg a) : Sg a.reverse := fun s hs => h s (List.mem_reverse.mp hs)
theorem Sg_one {q : Nat} (h : 97 ≤ q ∧ q < 103) : Sg [q] := fun s hs => by rw [List.mem_singleton.mp hs]; exact h
theorem Sg_cons {q : Nat} {a : List Nat} (h : 97 ≤ q ∧ q < 103) (h2 : Sg a) : Sg (q :: a) := fun s hs => by
  rcases List.mem_cons.mp hs with e | e
  · rw [e]; exact h
  · exact h2 s e
theorem Sg_nil : Sg [] := fun s hs => by cases hs
section CLS
variable {σ : St} {m : Stt} {K : Int32 → St → Prop} {X : String → St → Prop}
theorem sC_type {q : Nat} (h : InvC σ m) (hq : q < 65536) (hO : OutC [eA, eS] (oType q m) K X) : wX5_type σ (nI q) K X := by
  have hl := h.len
  unfold oType at hO
  by_cases hs : 97 ≤ q ∧ q < 103
  · rw [if_pos hs] at hO
    refine sX5_isSign (fun q1 _ _ e => ⟨fun z => absurd z (by decide), fun _ => sX2_size h.1 (pk_lt m.1.length 24 (fun z => ?_) (fun z => ?_))⟩) (fun z => absurd ⟨q, hs.1, hs.2, rfl⟩ z)
    · rw [if_pos z] at hO
      refine sX2_append h.1 z hs.2 fun τ h1 h2 => sX2_size h1 ?_
      rw [List.length_append]
      exact hO.k (h.text h2 h1 (Sg_app h.2.1 (Sg_one hs)))
    · rw [if_neg (by omega)] at hO
      exact hO.x rfl h
  · rw [if_neg hs] at hO
    refine sX5_isSign (fun q1 a b e => absurd (by rw [(nI_eq (by omega) (by omega)).mp e]; exact ⟨a, b⟩) hs) (fun _ => ⟨fun _ => hO.x rfl h, fun z => absurd rfl z⟩)
theorem rem6 {a : Nat} (h : a < 2 ^ 31) : nI a - nI a / 6 * 6 = nI (a % 6) := pk_rem (d := 6) h (by omega) (by omega)
theorem div6 {a : Nat} (h : a < 2 ^ 31) : nI a / 6 = nI (a / 6) := pk_div (d := 6) h (by omega) (by omega)
theorem sC_typeMore {a b : Int32} (h : InvC σ m) (hO : OutC [eA, eS] (oTypeMore a b m) K X) : wX5_typeMore σ a b K X := by
  have hl := h.len
  unfold oTypeMore at hO
  have hx : ¬ ((1 ≤ a.toInt ∧ a.toInt ≤ 8) ∧ (0 ≤ b.toInt ∧ b.toInt ≤ 1679615)) → X eA σ := fun q => by
    rw [if_neg q] at hO; exact hO.x rfl h
  refine ⟨fun z => hx ?_, fun z1 => ⟨fun z => hx ?_, fun z2 => ⟨fun z => hx ?_, fun z3 => ⟨fun z4 => ?_, fun z => hx ?_⟩⟩⟩⟩
  · have := (lt_lit (n := 1) (by omega)).mp z; omega
  · have := (lit_lt (n := 8) (by omega)).mp z; omega
  · have := neg_iff.mp z; omega
  · have z1 := nlt_lit (n := 1) (by omega) z1
    have z2 := nlit_lt (n := 8) (by omega) z2
    have z3 := nneg z3
    have z4 := (le_lit (n := 1679615) (by omega)).mp z4
    obtain ⟨ea, la, ia⟩ := of_nn (x := a) (by omega)
    obtain ⟨eb, lb, ib⟩ := of_nn (x := b) (by omega)
    rw [if_pos ⟨⟨by omega, by omega⟩, by omega, by omega⟩] at hO
    generalize nt a = i at ea ia hO
    generalize nt b = j at eb ib hO
    subst ea eb
    refine sX2_size h.1 ?_
    rw [nI_add]
    refine pk_le (m.1.length + i) 24 (fun w => ?_) (fun w => by rw [if_neg (by omega)] at hO; exact hO.x rfl h)
    rw [if_pos w] at hO
    have key : ∀ d k (τ : St), k + d = i → RowIs τ 1 (m.1 ++ digs j k) → Chg (fun q => q = 1) σ τ → Sg (m.1 ++ digs j k) → wX5_typeMore_L60 K X (nI i) (d + 1) τ (nI (j / 6 ^ k)) (nI k) := by
      intro d
      induction d with
      | zero =>
        intro k τ hk h1 h2 h3
        rw [wX5_typeMore_L60]
        refine pk_le i k (fun _ => sX2_size h1 ?_) (fun q => by omega)
        rw [List.length_append, digs_len]
        have e : k = i := by omega
        subst e
        exact hO.k (h.text h2 h1 h3)
      | succ d ih =>
        intro k τ hk h1 h2 h3
        have hj : j / 6 ^ k < 2 ^ 31 := Nat.lt_of_le_of_lt (Nat.div_le_self _ _) (by omega)
        rw [wX5_typeMore_L60]
        refine pk_le i k (fun q => by omega) (fun q => ?_)
        rw [rem6 hj]
        have h6 := Nat.mod_lt (j / 6 ^ k) (y := 6) (by omega)
        refine sX5_signOf h6 (sX2_append h1 ?_ (by omega) fun υ u1 u2 => ?_)
        · show (m.1 ++ digs j k).length < 24
          rw [List.length_append, digs_len]
          omega
        · rw [div6 hj, nI_1, Nat.div_div_eq_div_mul, ← Nat.pow_succ]
          rw [List.append_assoc, ← digs_snoc] at u1
          refine ih (k + 1) υ (by omega) u1 (h2.tr u2) ?_
          rw [digs_snoc, ← List.append_assoc]
          exact Sg_app h3 (Sg_one ⟨by omega, by omega⟩)
    have := key i 0 σ (by omega) (h.1.same (by simp [digs])) Chg.rf (by simpa [digs] using h.2.1)
    rw [Nat.pow_zero, Nat.div_one] at this
    exact ⟨_, this⟩
  · have := nle_lit (n := 1679615) (by omega) z
    omega
theorem sC_typeAt {p : Int32} {q : Nat} (h : InvC σ m) (hq : q < 65536) (hO : OutC [eI, eA, eS] (oTypeAt p q m) K X) : wX5_typeAt σ p (nI q) K X := by
  have hl := h.len
  unfold oTypeAt at hO
  have hx : ¬ (0 ≤ p.toInt ∧ p.toInt ≤ m.1.length) → X eI σ := fun q => by rw [if_neg q] at hO; exact hO.x rfl h
  refine ⟨fun z => hx (by have := neg_iff.mp z; omega), fun z => sX2_size h.1 ⟨fun y => ?_, fun y => hx fun w => y ((le_lit (by omega)).mpr w.2)⟩⟩
  have z := nneg z
  have y := (le_lit (by omega)).mp y
  obtain ⟨ep, lp, ip⟩ := of_nn (x := p) (by omega)
  rw [if_pos ⟨by omega, by omega⟩] at hO
  generalize nt p = i at ep ip hO
  subst ep
  by_cases hs : 97 ≤ q ∧ q < 103
  · rw [if_pos hs] at hO
    refine sX5_isSign (fun q1 _ _ e => ⟨fun z => absurd z (by decide), fun _ => sX2_size h.1 (pk_lt m.1.length 24 (fun z => ?_) (fun z => ?_))⟩) (fun z => absurd ⟨q, hs.1, hs.2, rfl⟩ z)
    · rw [if_pos z] at hO
      refine sX2_insert h.1 (by omega) z hs.2 fun τ h1 h2 => sX2_size h1 ?_
      have e : (List.take i m.1 ++ q :: List.drop i m.1).length = m.1.length + 1 := by simp; omega
      rw [e]
      exact hO.k (h.text h2 h1 (Sg_app (Sg_take h.2.1 _) (Sg_cons hs (Sg_drop h.2.1 _))))
    · rw [if_neg (by omega)] at hO
      exact hO.x rfl h
  · rw [if_neg hs] at hO
    exact sX5_isSign (fun q1 a b e => absurd (by rw [(nI_eq (by omega) (by omega)).mp e]; exact ⟨a, b⟩) hs) (fun _ => ⟨fun _ => hO.x rfl h, fun z => absurd rfl z⟩)
theorem sC_drop (h : InvC σ m) (hO : OutC [eN] (oDrop m) K X) : wX5_drop σ K X := by
  have hl := h.len
  unfold oDrop at hO
  refine sX2_size h.1 (pk_eq m.1.length 0 (fun z => by rw [if_pos z] at hO; exact hO.x rfl h) (fun z => ?_) rfl rfl (by omega) (by omega))
  rw [if_neg z] at hO
  refine sX2_size h.1 (sX2_size h.1 ?_)
  rw [nI_m1 (by omega)]
  refine sX2_removePart h.1 (by omega) (Nat.le_refl _) fun τ h1 h2 => sX2_size h1 ?_
  rw [List.drop_length, List.append_nil] at h1 ⊢
  have e : (m.1.take (m.1.length - 1)).length = m.1.length - 1 := by simp
  rw [e]
  exact hO.k (h.text h2 h1 (Sg_take h.2.1 _))
theorem sC_clip {a b : Int32} (h : InvC σ m) (hO : OutC [eI] (oClip a b m) K X) : wX5_clip σ a b K X := by
  have hl := h.len
  unfold oClip at hO
  have hx : ¬ (0 ≤ a.toInt ∧ a.toInt ≤ b.toInt ∧ b.toInt ≤ m.1.length) → X eI σ := fun q => by rw [if_neg q] at hO; exact hO.x rfl h
  refine ⟨fun z => hx (by have := neg_iff.mp z; omega), fun z1 => ⟨fun z => hx ?_, fun z2 => sX2_size h.1 ⟨fun z3 => ?_, fun z => hx fun w => z ((le_lit (by omega)).mpr w.2.2)⟩⟩⟩
  · rw [Int32.lt_iff_toInt_lt] at z; omega
  · have z1 := nneg z1
    rw [Int32.lt_iff_toInt_lt] at z2
    have z3 := (le_lit (by omega)).mp z3
    obtain ⟨ea, la, ia⟩ := of_nn (x := a) (by omega)
    obtain ⟨eb, lb, ib⟩ := of_nn (x := b) (by omega)
    rw [if_pos ⟨by omega, by omega, by omega⟩] at hO
    generalize nt a = i at ea ia hO
    generalize nt b = j at eb ib hO
    subst ea eb
    refine sX2_removePart h.1 (by omega) (by omega) fun τ h1 h2 => sX2_size h1 ?_
    have e : (m.1.take i ++ m.1.drop j).length = m.1.length - (j - i) := by simp; omega
    rw [e]
    exact hO.k (h.text h2 h1 (Sg_app (Sg_take h.2.1 _) (Sg_drop h.2.1 _)))
theorem sC_wipe (h : InvC σ m) (hO : OutC [] (oWipe m) K X) : wX5_wipe σ K :=
  sX2_size h.1 (sX2_clear fun τ h1 h2 => hO.k (h.text h2 h1 Sg_nil))
theorem sC_turn (h : InvC σ m) (hO : OutC [] (oTurn m) K X) : wX5_turn σ K :=
  sX2_reverse h.1 fun τ h1 h2 => hO.k (h.text h2 h1 (Sg_rev h.2.1))
theorem sC_signAt {p : Int32} (h : InvC σ m) (hO : OutC [eI] (oSignAt p m) K X) : wX5_signAt σ p K X := by
  have hl := h.len
  unfold oSignAt at hO
  have hx : ¬ (0 ≤ p.toInt ∧ p.toInt < m.1.length) → X eI σ := fun q => by rw [if_neg q] at hO; exact hO.x rfl h
  refine ⟨fun z => hx (by have := neg_iff.mp z; omega), fun z => sX2_size h.1 ⟨fun y => ?_, fun y => hx fun w => y ((lt_lit (by omega)).mpr w.2)⟩⟩
  have z := nneg z
  have y := (lt_lit (by omega)).mp y
  obtain ⟨ep, lp, ip⟩ := of_nn (x := p) (by omega)
  rw [if_pos ⟨by omega, by omega⟩] at hO
  generalize nt p = i at ep ip hO
  subst ep
  exact sX2_at h.1 (by omega) (hO.k h)
/-! the words -/
theorem Srt_setNu {ws : Ws} {k n : Nat} (h : Srt ws) : Srt (setNu ws k n) := fun i j hij hj => by
  rw [setNu_wd, setNu_wd]; exact h i j hij (by rwa [setNu_len] at hj)
theorem SgW_setNu {ws : Ws} {k n : Nat} (h : SgW ws) : SgW (setNu ws k n) := fun i hi => by
  rw [setNu_wd]; exact h i (by rwa [setNu_len] at hi)
theorem LenW_setNu {ws : Ws} {k n : Nat} (h : LenW ws) : LenW (setNu ws k n) := fun i hi => by
  rw [setNu_wd]; exact h i (by rwa [setNu_len] at hi)
theorem all_insW {ws : Ws} {k n : Nat} {t : List Nat} {P : List Nat → Prop} (hk : k ≤ ws.length) (h : ∀ i, i < ws.length → P (wd ws i)) (ht : P t) : ∀ i, i < (insW ws k t n).length → P (wd (insW ws k t n) i) := fun i hi => by
  rw [insW_len hk] at hi
  rcases Nat.lt_trichotomy i k with q | q | q
  · rw [(insW_lo hk q).1]; exact h i (by omega)
  · rw [q, (insW_at hk).1]; exact ht
  · rw [(insW_hi hk q).1]; exact h _ (by omega)
theorem Srt_insW {ws : Ws} {n : Nat} {t : List Nat} (h : Srt ws) (hn : ∀ i, i < ws.length → wd ws i ≠ t) : Srt (insW ws (cL ws t) t n) := fun i j hij hj => by
  have hc := cL_cut h t
  have hk := hc.1
  rw [insW_len hk] at hj
  have hi : ∀ i, cL ws t ≤ i → i < ws.length → lt t (wd ws i) = true := fun i h1 h2 => by
    have := hc.2.2 i h1 h2
    rcases lt_tri t (wd ws i) with q | q | q
    · exact q
    · exact absurd q.symm (hn i h2)
    · simp only [q] at this; cases this
  rcases Nat.lt_trichotomy i (cL ws t) with q | q | q <;> rcases Nat.lt_trichotomy j (cL ws t) with w | w | w
  · rw [(insW_lo hk q).1, (insW_lo hk w).1]; exact h i j hij (by omega)
  · rw [(insW_lo hk q).1, w, (insW_at hk).1]; exact hc.2.1 i q
  · rw [(insW_lo hk q).1, (insW_hi hk w).1]; exact h i (j - 1) (by omega) (by omega)
  · omega
  · omega
  · rw [q, (insW_at hk).1, (insW_hi hk w).1]; exact hi _ (by omega) (by omega)
  · omega
  · omega
  · rw [(insW_hi hk q).1, (insW_hi hk w).1]; exact h _ _ (by omega) (by omega)
theorem all_remW {ws : Ws} {k : Nat} {P : List Nat → Prop} (hk : k < ws.length) (h : ∀ i, i < ws.length → P (wd ws i)) : ∀ i, i < (remW ws k).length → P (wd (remW ws k) i) := fun i hi => by
  rw [remW_len hk] at hi
  rcases Nat.lt_or_ge i k with q | q
  · rw [(remW_lo hk q).1]; exact h i (by omega)
  · rw [(remW_hi hk q).1]; exact h _ (by omega)
theorem Srt_remW {ws : Ws} {k : Nat} (hk : k < ws.length) (h : Srt ws) : Srt (remW ws k) := fun i j hij hj => by
  rw [remW_len hk] at hj
  rcases Nat.lt_or_ge i k with q | q <;> rcases Nat.lt_or_ge j k with w | w
  · rw [(remW_lo hk q).1, (remW_lo hk w).1]; exact h i j hij (by omega)
  · rw [(remW_lo hk q).1, (remW_hi hk w).1]; exact h i _ (by omega) (by omega)
  · omega
  · rw [(remW_hi hk q).1, (remW_hi hk w).1]; exact h _ _ (by omega) (by omega)
theorem Srt_pair {ws : Ws} : Srt ws ↔ ws.Pairwise (fun a b => lt a.1 b.1 = true) := by
  rw [List.pairwise_iff_getElem]
  constructor
  · intro h i j hi hj hij
    have := h i j hij hj
    rwa [wd_lt hi, wd_lt hj] at this
  · intro h i j hij hj
    rw [wd_lt (by omega), wd_lt hj]
    exact h i j (by omega) hj hij
theorem Srt_filter {ws : Ws} {p : List Nat × Nat → Bool} (h : Srt ws) : Srt (ws.filter p) := by
  rw [Srt_pair] at *
  exact h.filter p
theorem all_mem {ws : Ws} {P : List Nat → Prop} : (∀ i, i < ws.length → P (wd ws i)) ↔ ∀ w ∈ ws, P w.1 := by
  constructor
  · intro h w hw
    obtain ⟨i, hi, e, -⟩ := wd_of_mem hw
    rw [← e]; exact h i hi
  · intro h i hi
    exact h _ (wd_mem hi)
theorem sC_put {n : Int32} (h : InvC σ m) (hO : OutC [eA, eU, eS] (oPut n m) K X) : wX5_put σ n K X := by
  have hl := h.len
  obtain ⟨a1, a2, a3, a4, a5, a6, a7, a8⟩ := id h
  have hw := a3.2.1
  unfold oPut at hO
  have hx : ¬ (0 ≤ n.toInt ∧ n.toInt ≤ 999) → X eA σ := fun q => by rw [if_neg q] at hO; exact hO.x rfl h
  refine ⟨fun z => hx (by have := neg_iff.mp z; omega), fun z => ⟨fun y => ?_, fun y => hx fun w => y ((le_lit (n := 999) (by omega)).mpr w.2)⟩⟩
  have z := nneg z
  have y := (le_lit (n := 999) (by omega)).mp y
  obtain ⟨en, ln, i_n⟩ := of_nn (x := n) (by omega)
  rw [if_pos ⟨by omega, by omega⟩] at hO
  generalize nt n = j at en i_n hO
  subst en
  refine sX2_size a1 (pk_eq m.1.length 0 (fun e => ?_) (fun e => sX2_size a1 (pk_le m.1.length 10 (fun w => ?_) (fun w => ?_))) rfl rfl (by omega) (by omega))
  · rw [if_neg (by omega)] at hO; exact hO.x rfl h
  · rw [if_pos ⟨by omega, w⟩] at hO
    refine sX4_rankOf a3 a4 a1 (fun i i1 i2 i3 => ⟨fun q => absurd q (nI_ne_m1 (by omega)), fun _ => ⟨fun q => absurd q (nI_ne_m1 (by omega)), fun _ => ?_⟩⟩) (fun hn => ⟨fun _ => sX4_size a3 (pk_lt m.2.1.length 24 (fun v => ⟨fun _ => ?_, fun q => absurd rfl q⟩) (fun v => ?_)), fun q => absurd rfl q⟩)
    · have ei := idx_eq a4 i1 i2
      rw [ei, if_pos i1] at hO
      exact sX4_numberAt a3 i i1 (sX4_setNumber a3 i1 (by omega) fun τ t1 t2 => hO.k (h.list t2 t1 (Srt_setNu a4) (SgW_setNu a5) (LenW_setNu a6)))
    · rw [if_neg (idx_no hn), if_pos v] at hO
      have hk := (cL_cut a4 m.1).1
      exact sX4_insert a3 a4 a1 (fun q => by have := q.1; omega) (by omega) v w (by omega) fun τ t1 t2 => hO.k (h.list t2 t1 (Srt_insW a4 hn) (all_insW hk a5 a2) (all_insW (P := fun w => 1 ≤ w.length ∧ w.length ≤ 10) hk a6 ⟨by omega, w⟩))
    · rw [if_neg (idx_no hn), if_neg (by omega)] at hO; exact hO.x rfl h
  · rw [if_neg (by omega)] at hO; exact hO.x rfl h
theorem sC_take (h : InvC σ m) (hO : OutC [eN] (oTake m) K X) : wX5_take σ K X := by
  obtain ⟨a1, a2, a3, a4, a5, a6, a7, a8⟩ := id h
  have hw := a3.2.1
  unfold oTake at hO
  refine sX4_rankOf a3 a4 a1 (fun i i1 i2 i3 => ⟨fun q => absurd q (nI_ne_m1 (by omega)), fun _ => ?_⟩) (fun hn => ⟨fun _ => ?_, fun q => absurd rfl q⟩)
  · rw [idx_eq a4 i1 i2, if_pos i1] at hO
    exact sX4_numberAt a3 i i1 (sX4_remove a3 i1 fun τ t1 t2 => hO.k (h.list t2 t1 (Srt_remW i1 a4) (all_remW i1 a5) (all_remW (P := fun w => 1 ≤ w.length ∧ w.length ≤ 10) i1 a6)))
  · rw [if_neg (idx_no hn)] at hO; exact hO.x rfl h
theorem sC_number (h : InvC σ m) (hO : OutC [eN] (oNumber m) K X) : wX5_number σ K X := by
  obtain ⟨a1, a2, a3, a4, a5, a6, a7, a8⟩ := id h
  have hw := a3.2.1
  unfold oNumber at hO
  refine sX4_rankOf a3 a4 a1 (fun i i1 i2 i3 => ⟨fun q => absurd q (nI_ne_m1 (by omega)), fun _ => ?_⟩) (fun hn => ⟨fun _ => ?_, fun q => absurd rfl q⟩)
  · rw [idx_eq a4 i1 i2, if_pos i1] at hO
    exact sX4_numberAt a3 i i1 (hO.k h)
  · rw [if_neg (idx_no hn)] at hO; exact hO.x rfl h
theorem sC_words (h : InvC σ m) {K : Int32 → Prop} (hK : K (oWords m).2.1) : wX5_words σ K := sX4_size h.2.2.1 hK
theorem sC_rank (h : InvC σ m) {K : Int32 → Prop} (hK : K (oRank m).2.1) : wX5_rank σ K := sX4_countLess h.2.2.1 h.2.2.2.1 h.1 hK
/-- the text becomes the word of a rank -/
theorem become_ok (h : InvC σ m) {i : Nat} (hi : i < m.2.1.length) {r : Nat} (hr : RowIs σ r (wd m.2.1 i)) (hr2 : r = gR σ i) {K : St → Prop} (hK : ∀ τ, InvC τ (oBecome i m) → K τ) : wX2_become σ 1 r K := by
  obtain ⟨a1, a2, a3, a4, a5, a6, a7, a8⟩ := id h
  have hp := a3.2.2.2.2.1 i (by have := a3.2.1; omega)
  have h10 := (a6 i hi).2
  refine sX2_become hr (fun e => by rw [e] at hr2; rw [← hr2] at hp; have := hp.1; omega) (by show _ ≤ 24; omega) fun τ h1 h2 => hK τ (h.text h2 h1 (a5 i hi))
theorem sC_word {k : Int32} (h : InvC σ m) (hO : OutC [eI] (oWord k m) K X) : wX5_word σ k K X := by
  obtain ⟨a1, a2, a3, a4, a5, a6, a7, a8⟩ := id h
  have hw := a3.2.1
  unfold oWord at hO
  have hx : ¬ (0 ≤ k.toInt ∧ k.toInt < m.2.1.length) → X eI σ := fun q => by rw [if_neg q] at hO; exact hO.x rfl h
  refine ⟨fun z => hx (by have := neg_iff.mp z; omega), fun z => sX4_size a3 ⟨fun y => ?_, fun y => hx fun w => y ((lt_lit (by omega)).mpr w.2)⟩⟩
  have z := nneg z
  have y := (lt_lit (by omega)).mp y
  obtain ⟨ep, lp, ip⟩ := of_nn (x := k) (by omega)
  rw [if_pos ⟨by omega, by omega⟩] at hO
  generalize nt k = i at ep ip hO
  subst ep
  exact sX4_rowAt a3 i (by omega) fun r hr hr2 => become_ok h (by omega) hr (hr2 (by omega)) fun τ ht => sX2_size ht.1 (hO.k ht)
theorem sC_rankNear {c : Nat} (h : InvC σ m) (hc : c = 102 ∨ c = 99 ∨ c = 108 ∨ c = 104) {K : Int32 → Prop} (hK : K (nI (nrk c m) - 1)) : wX5_rankNear σ (nI c) K := by
  obtain ⟨a1, a2, a3, a4, a5, a6, a7, a8⟩ := id h
  have e1 : ∀ j, nI (j + 1) - 1 = nI j := fun j => nI_pred j
  unfold nrk at hK
  refine pk_eq c 102 (fun e => sX4_countNotGreater a3 a4 a1 ?_) (fun e => pk_eq c 99 (fun e2 => sX4_countLess a3 a4 a1 ?_) (fun e2 => pk_eq c 108 (fun e3 => sX4_countLess a3 a4 a1 ?_) (fun e3 => sX4_countNotGreater a3 a4 a1 ?_)))
  · rwa [if_pos e] at hK
  · rwa [if_neg e, if_pos e2, e1] at hK
  · rwa [if_neg e, if_neg e2, if_pos e3] at hK
  · rwa [if_neg e, if_neg e2, if_neg e3, e1] at hK
theorem nrk_le (h : InvC σ m) (c : Nat) : nrk c m ≤ 25 := by
  have hw := h.2.2.1.2.1
  have h1 := (cL_cut h.2.2.2.1 m.1).1
  have h2 := (cG_cut h.2.2.2.1 m.1).1
  unfold nrk
  repeat' split
  all_goals omega
theorem sC_near {c : Nat} (h : InvC σ m) (hq : c < 65536) (hO : OutC [eA, eN] (oNear c m) K X) : wX5_near σ (nI c) K X := by
  obtain ⟨a1, a2, a3, a4, a5, a6, a7, a8⟩ := id h
  have hw := a3.2.1
  have hn := nrk_le h c
  unfold oNear at hO
  have go : (c = 102 ∨ c = 99 ∨ c = 108 ∨ c = 104) → wX5_near_J34 K X σ (nI c) := fun hc => by
    rw [if_pos hc] at hO
    refine sC_rankNear h hc ⟨fun z => ?_, fun z => sX4_size a3 ?_⟩
    · rw [m1_neg (by omega)] at z
      rw [if_neg (by omega)] at hO; exact hO.x rfl h
    · rw [m1_neg (by omega)] at z
      rw [nI_m1 (by omega)]
      refine pk_lt (nrk c m - 1) m.2.1.length (fun y => ?_) (fun y => ?_)
      · rw [if_pos ⟨by omega, by omega⟩] at hO
        refine sX4_rowAt a3 _ (by omega) fun r hr hr2 => become_ok h y hr (hr2 y) fun τ ht => sX4_numberAt ht.2.2.1 _ y (hO.k ht)
      · rw [if_neg (by omega)] at hO; exact hO.x rfl h
  refine pk_eq c 102 (fun e => go (Or.inl e)) (fun e => pk_eq c 99 (fun e2 => go (Or.inr (Or.inl e2))) (fun e2 => pk_eq c 108 (fun e3 => go (Or.inr (Or.inr (Or.inl e3)))) (fun e3 => pk_eq c 104 (fun e4 => go (Or.inr (Or.inr (Or.inr e4)))) (fun e4 => ?_))))
  rw [if_neg (by omega)] at hO
  exact hO.x rfl h
end CLS
