/-! putting words in and taking them out -/
/-- only the list's own objects have changed -/
def ChgL (σ τ : St) : Prop := ∀ k, k ≠ 5 → k ≠ 55 → ¬ poolB k → gI τ k = gI σ k ∧ ∀ j, gA τ k j = gA σ k j
theorem ChgL.rf {σ : St} : ChgL σ σ := fun _ _ _ _ => ⟨rfl, fun _ => rfl⟩
theorem ChgL.tr {σ τ υ : St} (h1 : ChgL σ τ) (h2 : ChgL τ υ) : ChgL σ υ := fun k a b c =>
  ⟨(h2 k a b c).1.trans (h1 k a b c).1, fun j => ((h2 k a b c).2 j).trans ((h1 k a b c).2 j)⟩
theorem RowIs.keptL {σ τ : St} {r : Nat} {a : List Nat} (h : RowIs σ r a) (hc : ChgL σ τ) (h5 : r ≠ 5) (h55 : r ≠ 55) (hp : ¬ poolB r) : RowIs τ r a :=
  ⟨(hc r h5 h55 hp).1.trans h.1, h.2.1, fun k hk => ((hc r h5 h55 hp).2 k).trans (h.2.2.1 k hk), h.2.2.2⟩
theorem RowIs.keptR {σ τ : St} {r : Nat} {a : List Nat} (h : RowIs σ r a) (h1 : gI τ r = gI σ r) (h2 : ∀ j, gA τ r j = gA σ r j) : RowIs τ r a :=
  ⟨h1.trans h.1, h.2.1, fun k hk => (h2 k).trans (h.2.2.1 k hk), h.2.2.2⟩
theorem not_pool56 : ¬ poolB 56 := fun h => by have := h.2.1; omega
def setNu (ws : Ws) (k n : Nat) : Ws := ws.set k (wd ws k, n)
theorem setNu_len (ws : Ws) (k n : Nat) : (setNu ws k n).length = ws.length := by simp [setNu]
theorem setNu_wd {ws : Ws} {k n i : Nat} : wd (setNu ws k n) i = wd ws i := by
  rcases Nat.lt_or_ge i ws.length with h | h
  · rw [wd_lt (by rw [setNu_len]; exact h)]
    simp only [setNu, List.getElem_set]
    split
    · rename_i e; rw [e]
    · rw [wd_lt h]
  · rw [wd_ge h, wd_ge (by rw [setNu_len]; exact h)]
theorem setNu_nu {ws : Ws} {k n i : Nat} (h : i < ws.length) : nu (setNu ws k n) i = if i = k then n else nu ws i := by
  rw [nu_lt (by rw [setNu_len]; exact h)]
  simp only [setNu, List.getElem_set]
  by_cases e : k = i
  · rw [if_pos e, if_pos e.symm]
  · rw [if_neg e, if_neg (Ne.symm e), nu_lt h]
theorem sX4_setNumber {σ : St} {ws : Ws} {k n : Nat} (h : ListIs σ ws) (hk : k < ws.length) (hn : n ≤ 999) {K : St → Prop} (hK : ∀ τ, ListIs τ (setNu ws k n) → ChgL σ τ → K τ) : wX4_setNumber σ (nI k) (nI n) K := by
  obtain ⟨a1, a2, a3, a4, a5, a6, a7⟩ := h
  refine ⟨fun q => absurd q (nI_neg (by omega)), fun _ => pk_le ws.length k (fun q => by omega) (fun q => ?_) a1⟩
  rw [nI_clamp (by omega)]
  refine ⟨vp_in_nI (by omega) (by omega), ?_⟩
  rintro _ rfl
  refine hK _ ⟨by rw [setNu_len]; exact a1, by rw [setNu_len]; exact a2, fun i hi => ?_, ?_, a5, a6, fun i hi => ?_⟩ fun j h5 h55 _ => ⟨rfl, fun q => by rw [gA_pA, if_neg (fun z => h55 z.1)]⟩
  · rw [setNu_len] at hi
    have hp := a5 i (by omega)
    refine ⟨?_, ?_⟩
    · rw [setNu_wd]
      exact (a3 i hi).1.keptR rfl fun j => by rw [gA_pA, if_neg (fun z => by have := hp.2.1; have := z.1; omega)]
    · rw [gA_pA, setNu_nu hi]
      by_cases e : i = k
      · rw [if_pos ⟨rfl, e⟩, if_pos e]
      · rw [if_neg (fun z => e z.2), if_neg e]; exact (a3 i hi).2
  · exact a4.keptR rfl fun j => by rw [gA_pA, if_neg (by omega)]
  · rw [setNu_len] at hi
    rw [setNu_nu hi]
    split
    · exact hn
    · exact a7 i hi
def insW (ws : Ws) (k : Nat) (t : List Nat) (n : Nat) : Ws := ws.take k ++ (t, n) :: ws.drop k
theorem insW_len {ws : Ws} {k n : Nat} {t : List Nat} (h : k ≤ ws.length) : (insW ws k t n).length = ws.length + 1 := by
  simp [insW]; omega
theorem insW_lo {ws : Ws} {k n i : Nat} {t : List Nat} (h : k ≤ ws.length) (hi : i < k) : wd (insW ws k t n) i = wd ws i ∧ nu (insW ws k t n) i = nu ws i := by
  unfold insW
  rw [wd_app_l (by simp; omega), wd_take hi, nu_app_l (by simp; omega), nu_take hi]
  exact ⟨rfl, rfl⟩
theorem insW_at {ws : Ws} {k n : Nat} {t : List Nat} (h : k ≤ ws.length) : wd (insW ws k t n) k = t ∧ nu (insW ws k t n) k = n := by
  unfold insW
  rw [wd_app_r (by simp; omega), nu_app_r (by simp; omega), List.length_take, show k - min k ws.length = 0 by omega, wd_0, nu_0]
  exact ⟨rfl, rfl⟩
theorem insW_hi {ws : Ws} {k n i : Nat} {t : List Nat} (h : k ≤ ws.length) (hi : k < i) : wd (insW ws k t n) i = wd ws (i - 1) ∧ nu (insW ws k t n) i = nu ws (i - 1) := by
  unfold insW
  rw [wd_app_r (by simp; omega), nu_app_r (by simp; omega), List.length_take, show i - min k ws.length = (i - 1 - k) + 1 by omega, wd_s, nu_s, wd_drop, nu_drop, show k + (i - 1 - k) = i - 1 by omega]
  exact ⟨rfl, rfl⟩
/-- while the rows from k on are moved up: down to j -/
def InsInv (σ0 σ : St) (c j : Nat) : Prop := (∀ k, gI σ k = gI σ0 k) ∧ (∀ k, k ≠ 55 → ∀ i, gA σ k i = gA σ0 k i) ∧ (∀ i, gR σ i = if j < i ∧ i ≤ c then gR σ0 (i - 1) else gR σ0 i) ∧ ∀ i, gA σ 55 i = if j < i ∧ i ≤ c then gA σ0 55 (i - 1) else gA σ0 55 i
theorem sX4_insert {σ : St} {ws : Ws} {x n : Nat} {t : List Nat} (h : ListIs σ ws) (hs : Srt ws) (hx : RowIs σ x t) (hxp : ¬ poolB x) (hx55 : x ≠ 55) (hl : ws.length < 24) (ht : t.length ≤ 10) (hn : n ≤ 999) {K : St → Prop} (hK : ∀ τ, ListIs τ (insW ws (cL ws t) t n) → ChgL σ τ → K τ) : wX4_insert σ x (nI n) K := by
  have hl0 := h
  obtain ⟨a1, a2, a3, a4, a5, a6, a7⟩ := h
  have hc := (cL_cut hs t).1
  unfold wX4_insert
  refine pk_lt ws.length 24 (fun _ => ?_) (fun q => by omega) a1
  refine sX4_countLess hl0 hs hx ?_
  rw [a1, nI_clamp (by omega)]
  refine ⟨vp_in_nI (by omega) (by omega), ?_⟩
  rintro _ rfl
  have hfp := a5 ws.length hl
  have key : ∀ d j (τ : St), j = cL ws t + d → j ≤ ws.length → InsInv σ τ ws.length j → wX4_insert_L36 K x (nI n) (nI (cL ws t)) (gR σ ws.length) (d + 1) τ (nI j) := by
    intro d
    induction d with
    | zero =>
      intro j τ hj hjl hI
      obtain ⟨i1, i2, i3, i4⟩ := hI
      rw [wX4_insert_L36]
      refine pk_le j (cL ws t) (fun _ => ?_) (fun q => by omega)
      have ej : j = cL ws t := by omega
      subst ej
      have hxt : RowIs τ x t := hx.keptR (i1 x) (i2 x hx55)
      refine sX2_become hxt (fun e => hxp (e ▸ hfp)) (by rw [pool_cap hfp]; exact ht) fun υ u1 u2 => ?_
      rw [nI_clamp (by omega)]
      refine ⟨vp_in_nI (by omega) (by omega), ?_⟩
      rintro _ rfl
      refine ⟨vp_in_nI (by omega) (by omega), ?_⟩
      rintro _ rfl _ rfl
      have hr : ∀ i, gR (pI (pA (pR υ (cL ws t) (gR σ ws.length)) 55 (cL ws t) (nI n)) 5 (gI (pA (pR υ (cL ws t) (gR σ ws.length)) 55 (cL ws t) (nI n)) 5 + 1)) i = if i = cL ws t then gR σ ws.length else if cL ws t < i ∧ i ≤ ws.length then gR σ (i - 1) else gR σ i := by
        intro i
        rw [gR_pI, gR_pA, gR_pR, u2.2, i3]
      have hoth : ∀ k, k ≠ 5 → k ≠ 55 → k ≠ gR σ ws.length → gI (pI (pA (pR υ (cL ws t) (gR σ ws.length)) 55 (cL ws t) (nI n)) 5 (gI (pA (pR υ (cL ws t) (gR σ ws.length)) 55 (cL ws t) (nI n)) 5 + 1)) k = gI σ k ∧ ∀ i, gA (pI (pA (pR υ (cL ws t) (gR σ ws.length)) 55 (cL ws t) (nI n)) 5 (gI (pA (pR υ (cL ws t) (gR σ ws.length)) 55 (cL ws t) (nI n)) 5 + 1)) k i = gA σ k i := by
        intro k k5 k55 kf
        refine ⟨?_, fun i => ?_⟩
        · rw [gI_pI, if_neg k5, gI_pA, gI_pR, (u2.1 k kf).1, i1]
        · rw [gA_pI, gA_pA, if_neg (fun z => k55 z.1), gA_pR, (u2.1 k kf).2, i2 k k55]
      have hnum : ∀ i, gA (pI (pA (pR υ (cL ws t) (gR σ ws.length)) 55 (cL ws t) (nI n)) 5 (gI (pA (pR υ (cL ws t) (gR σ ws.length)) 55 (cL ws t) (nI n)) 5 + 1)) 55 i = if i = cL ws t then nI n else if cL ws t < i ∧ i ≤ ws.length then gA σ 55 (i - 1) else gA σ 55 i := by
        intro i
        rw [gA_pI, gA_pA, gA_pR, (u2.1 55 (fun e => by have := hfp.2.1; omega)).2, i4]
        by_cases e : i = cL ws t
        · rw [if_pos ⟨rfl, e⟩, if_pos e]
        · rw [if_neg (fun z => e z.2), if_neg e]
      have hcnt : gI (pI (pA (pR υ (cL ws t) (gR σ ws.length)) 55 (cL ws t) (nI n)) 5 (gI (pA (pR υ (cL ws t) (gR σ ws.length)) 55 (cL ws t) (nI n)) 5 + 1)) 5 = nI (ws.length + 1) := by
        rw [gI_pI, if_pos rfl, gI_pA, gI_pR, (u2.1 5 (fun e => by have := hfp.1; omega)).1, i1, a1, nI_1]
      have hfree : RowIs (pI (pA (pR υ (cL ws t) (gR σ ws.length)) 55 (cL ws t) (nI n)) 5 (gI (pA (pR υ (cL ws t) (gR σ ws.length)) 55 (cL ws t) (nI n)) 5 + 1)) (gR σ ws.length) t :=
        u1.keptR (by rw [gI_pI, if_neg (fun e => by have := hfp.1; omega), gI_pA, gI_pR]) (fun i => by rw [gA_pI, gA_pA, if_neg (fun z => by have := hfp.2.1; omega), gA_pR])
      generalize (pI (pA (pR υ (cL ws t) (gR σ ws.length)) 55 (cL ws t) (nI n)) 5 (gI (pA (pR υ (cL ws t) (gR σ ws.length)) 55 (cL ws t) (nI n)) 5 + 1)) = φ at hr hoth hnum hcnt hfree ⊢
      have row : ∀ i, i < ws.length → RowIs φ (gR σ i) (wd ws i) := fun i hi => by
        have hp := a5 i (by omega)
        have := hoth (gR σ i) (fun e => by have := hp.1; omega) (fun e => by have := hp.2.1; omega) (fun e => by have := a6 i ws.length (by omega) hl e; omega)
        exact (a3 i hi).1.keptR this.1 this.2
      refine hK φ ⟨by rw [insW_len hc]; exact hcnt, by rw [insW_len hc]; omega, fun i hi => ?_, ?_, fun i hi => ?_, fun i j hi hj e => ?_, fun i hi => ?_⟩ (fun k k5 k55 kp => hoth k k5 k55 (fun e => kp (e ▸ hfp)))
      · rw [insW_len hc] at hi
        rw [hr, hnum]
        rcases Nat.lt_trichotomy i (cL ws t) with q | q | q
        · rw [if_neg (by omega), if_neg (by omega), if_neg (by omega), if_neg (by omega), (insW_lo hc q).1, (insW_lo hc q).2]
          exact ⟨row i (by omega), (a3 i (by omega)).2⟩
        · subst q
          rw [if_pos rfl, if_pos rfl, (insW_at hc).1, (insW_at hc).2]
          exact ⟨hfree, rfl⟩
        · rw [if_neg (by omega), if_pos (by omega), if_neg (by omega), if_pos (by omega), (insW_hi hc q).1, (insW_hi hc q).2]
          exact ⟨row (i - 1) (by omega), (a3 (i - 1) (by omega)).2⟩
      · have := hoth 56 (by omega) (by omega) (fun e => not_pool56 (e ▸ hfp))
        exact a4.keptR this.1 this.2
      · rw [hr]
        split
        · exact hfp
        · split
          · exact a5 _ (by omega)
          · exact a5 _ hi
      · rw [hr, hr] at e
        have inj := fun p q hp hq => a6 p q hp hq
        repeat' split at e
        all_goals first | omega | (have := inj _ _ (by omega) (by omega) e; omega)
      · rw [insW_len hc] at hi
        rcases Nat.lt_trichotomy i (cL ws t) with q | q | q
        · rw [(insW_lo hc q).2]; exact a7 i (by omega)
        · subst q
          rw [(insW_at hc).2]; exact hn
        · rw [(insW_hi hc q).2]; exact a7 _ (by omega)
    | succ d ih =>
      intro j τ hj hjl hI
      obtain ⟨i1, i2, i3, i4⟩ := hI
      rw [wX4_insert_L36]
      refine pk_le j (cL ws t) (fun _ => by omega) (fun q => ?_)
      rw [nI_m1 (by omega), nI_clamp (by omega), nI_clamp (by omega), nI_n1 (by omega)]
      refine ⟨vp_in_nI (by omega) (by omega), vp_in_nI (by omega) (by omega), ?_⟩
      rintro _ rfl
      refine ⟨vp_in_nI (by omega) (by omega), vp_in_nI (by omega) (by omega), ?_⟩
      rintro _ rfl
      refine ih (j - 1) _ (by omega) (by omega) ⟨fun k => i1 k, fun k hk i => ?_, fun i => ?_, fun i => ?_⟩
      · rw [gA_pA, if_neg (fun z => hk z.1), gA_pR]; exact i2 k hk i
      · rw [gR_pA, gR_pR, i3, i3]
        by_cases e : i = j
        · rw [if_pos e, if_neg (by omega), if_pos (by omega), e]
        · rw [if_neg e]
          by_cases z : j < i ∧ i ≤ ws.length
          · rw [if_pos z, if_pos (by omega)]
          · rw [if_neg z, if_neg (by omega)]
      · rw [gA_pA, gA_pR, gA_pR, i4, i4]
        by_cases e : i = j
        · rw [if_pos ⟨rfl, e⟩, if_neg (by omega), if_pos (by omega), e]
        · rw [if_neg (fun z => e z.2)]
          by_cases z : j < i ∧ i ≤ ws.length
          · rw [if_pos z, if_pos (by omega)]
          · rw [if_neg z, if_neg (by omega)]
  exact ⟨_, key (ws.length - cL ws t) ws.length σ (by omega) (Nat.le_refl _) ⟨fun _ => rfl, fun _ _ _ => rfl, fun i => by rw [if_neg (by omega)], fun i => by rw [if_neg (by omega)]⟩⟩
def remW (ws : Ws) (k : Nat) : Ws := ws.take k ++ ws.drop (k + 1)
theorem remW_len {ws : Ws} {k : Nat} (h : k < ws.length) : (remW ws k).length = ws.length - 1 := by
  simp [remW]; omega
theorem remW_lo {ws : Ws} {k i : Nat} (h : k < ws.length) (hi : i < k) : wd (remW ws k) i = wd ws i ∧ nu (remW ws k) i = nu ws i := by
  unfold remW
  rw [wd_app_l (by simp; omega), wd_take hi, nu_app_l (by simp; omega), nu_take hi]
  exact ⟨rfl, rfl⟩
theorem remW_hi {ws : Ws} {k i : Nat} (h : k < ws.length) (hi : k ≤ i) : wd (remW ws k) i = wd ws (i + 1) ∧ nu (remW ws k) i = nu ws (i + 1) := by
  unfold remW
  rw [wd_app_r (by simp; omega), nu_app_r (by simp; omega), List.length_take, wd_drop, nu_drop, show k + 1 + (i - min k ws.length) = i + 1 by omega]
  exact ⟨rfl, rfl⟩
/-- while the rows behind k are moved down: up to ahead of j -/
def RemInv (σ0 σ : St) (k j : Nat) : Prop := (∀ k, gI σ k = gI σ0 k) ∧ (∀ k, k ≠ 55 → ∀ i, gA σ k i = gA σ0 k i) ∧ (∀ i, gR σ i = if k ≤ i ∧ i + 1 < j then gR σ0 (i + 1) else gR σ0 i) ∧ ∀ i, gA σ 55 i = if k ≤ i ∧ i + 1 < j then gA σ0 55 (i + 1) else gA σ0 55 i
theorem sX4_remove {σ : St} {ws : Ws} {k : Nat} (h : ListIs σ ws) (hk : k < ws.length) {K : St → Prop} (hK : ∀ τ, ListIs τ (remW ws k) → ChgL σ τ → K τ) : wX4_remove σ (nI k) K := by
  obtain ⟨a1, a2, a3, a4, a5, a6, a7⟩ := h
  unfold wX4_remove
  refine ⟨fun q => absurd q (nI_neg (by omega)), fun _ => pk_lt k ws.length (fun _ => ?_) (fun q => by omega) rfl a1⟩
  rw [nI_clamp (by omega), nI_1]
  refine ⟨vp_in_nI (by omega) (by omega), ?_⟩
  have key : ∀ d j (τ : St), j + d = ws.length → k + 1 ≤ j → RemInv σ τ k j → wX4_remove_L24 K (gR σ k) (d + 1) τ (nI j) := by
    intro d
    induction d with
    | zero =>
      intro j τ hj hkj hI
      obtain ⟨i1, i2, i3, i4⟩ := hI
      rw [wX4_remove_L24]
      refine pk_le ws.length j (fun _ => ?_) (fun q => by omega) ((i1 5).trans a1)
      have ej : j = ws.length := by omega
      subst ej
      rintro _ rfl
      rw [gI_pI, if_pos rfl, i1, a1, nI_m1 (by omega), nI_clamp (by omega)]
      refine ⟨vp_in_nI (by omega) (by omega), ?_⟩
      rintro _ rfl
      have hr : ∀ i, gR (pR (pI τ 5 (nI (ws.length - 1))) (ws.length - 1) (gR σ k)) i = if i = ws.length - 1 then gR σ k else if k ≤ i ∧ i + 1 < ws.length then gR σ (i + 1) else gR σ i := by
        intro i
        rw [gR_pR, gR_pI, i3]
      have hoth : ∀ q, q ≠ 5 → gI (pR (pI τ 5 (nI (ws.length - 1))) (ws.length - 1) (gR σ k)) q = gI σ q := fun q hq => by
        rw [gI_pR, gI_pI, if_neg hq, i1]
      have hoth2 : ∀ q, q ≠ 55 → ∀ i, gA (pR (pI τ 5 (nI (ws.length - 1))) (ws.length - 1) (gR σ k)) q i = gA σ q i := fun q hq i => by
        rw [gA_pR, gA_pI, i2 q hq]
      have hnum : ∀ i, gA (pR (pI τ 5 (nI (ws.length - 1))) (ws.length - 1) (gR σ k)) 55 i = if k ≤ i ∧ i + 1 < ws.length then gA σ 55 (i + 1) else gA σ 55 i := fun i => by
        rw [gA_pR, gA_pI, i4]
      have hcnt : gI (pR (pI τ 5 (nI (ws.length - 1))) (ws.length - 1) (gR σ k)) 5 = nI (ws.length - 1) := by
        rw [gI_pR, gI_pI, if_pos rfl]
      generalize pR (pI τ 5 (nI (ws.length - 1))) (ws.length - 1) (gR σ k) = φ at hr hoth hoth2 hnum hcnt ⊢
      have row : ∀ i, i < ws.length → RowIs φ (gR σ i) (wd ws i) := fun i hi => by
        have hp := a5 i (by omega)
        exact (a3 i hi).1.keptR (hoth _ (fun e => by have := hp.1; omega)) (hoth2 _ (fun e => by have := hp.2.1; omega))
      refine hK φ ⟨by rw [remW_len hk]; exact hcnt, by rw [remW_len hk]; omega, fun i hi => ?_, a4.keptR (hoth _ (by omega)) (hoth2 _ (by omega)), fun i hi => ?_, fun i j hi hj e => ?_, fun i hi => ?_⟩ (fun q k5 k55 kp => ⟨hoth q k5, hoth2 q k55⟩)
      · rw [remW_len hk] at hi
        rw [hr, hnum]
        rcases Nat.lt_or_ge i k with q | q
        · rw [if_neg (by omega), if_neg (by omega), if_neg (by omega), (remW_lo hk q).1, (remW_lo hk q).2]
          exact ⟨row i (by omega), (a3 i (by omega)).2⟩
        · rw [if_neg (by omega), if_pos (by omega), if_pos (by omega), (remW_hi hk q).1, (remW_hi hk q).2]
          exact ⟨row (i + 1) (by omega), (a3 (i + 1) (by omega)).2⟩
      · rw [hr]
        split
        · exact a5 _ (by omega)
        · split
          · exact a5 _ (by omega)
          · exact a5 _ hi
      · rw [hr, hr] at e
        have inj := fun p q hp hq => a6 p q hp hq
        repeat' split at e
        all_goals first | omega | (have := inj _ _ (by omega) (by omega) e; omega)
      · rw [remW_len hk] at hi
        rcases Nat.lt_or_ge i k with q | q
        · rw [(remW_lo hk q).2]; exact a7 i (by omega)
        · rw [(remW_hi hk q).2]; exact a7 _ (by omega)
    | succ d ih =>
      intro j τ hj hkj hI
      obtain ⟨i1, i2, i3, i4⟩ := hI
      rw [wX4_remove_L24]
      refine pk_le ws.length j (fun _ => by omega) (fun q => ?_) ((i1 5).trans a1)
      rw [nI_m1 (by omega), nI_clamp (by omega), nI_clamp (by omega), nI_1]
      refine ⟨vp_in_nI (by omega) (by omega), vp_in_nI (by omega) (by omega), ?_⟩
      rintro _ rfl
      refine ⟨vp_in_nI (by omega) (by omega), vp_in_nI (by omega) (by omega), ?_⟩
      rintro _ rfl
      refine ih (j + 1) _ (by omega) (by omega) ⟨fun k => i1 k, fun k hk i => ?_, fun i => ?_, fun i => ?_⟩
      · rw [gA_pA, if_neg (fun z => hk z.1), gA_pR]; exact i2 k hk i
      · rw [gR_pA, gR_pR, i3, i3]
        by_cases e : i = j - 1
        · rw [if_pos e, if_neg (by omega), if_pos (by omega), e, show j - 1 + 1 = j by omega]
        · rw [if_neg e]
          by_cases z : k ≤ i ∧ i + 1 < j
          · rw [if_pos z, if_pos (by omega)]
          · rw [if_neg z, if_neg (by omega)]
      · rw [gA_pA, gA_pR, gA_pR, i4, i4]
        by_cases e : i = j - 1
        · rw [if_pos ⟨rfl, e⟩, if_neg (by omega), if_pos (by omega), e, show j - 1 + 1 = j by omega]
        · rw [if_neg (fun z => e z.2)]
          by_cases z : k ≤ i ∧ i + 1 < j
          · rw [if_pos z, if_pos (by omega)]
          · rw [if_neg z, if_neg (by omega)]
  exact ⟨_, key (ws.length - (k + 1)) (k + 1) σ (by omega) (Nat.le_refl _) ⟨fun _ => rfl, fun _ _ _ => rfl, fun i => by rw [if_neg (by omega)], fun i => by rw [if_neg (by omega)]⟩⟩
theorem m1_neg {j : Nat} (h : j < 2 ^ 30) : nI j - 1 < 0 ↔ j = 0 := by
  have := sub_lt0 (a := j) (b := 1) h (by omega)
  rw [show nI 1 = 1 from rfl] at this
  rw [this]; omega
/-- the words from j on have been looked at, those that begin with t are out -/
def goneW (ws : Ws) (t : List Nat) (j : Nat) : Ws := ws.take j ++ (ws.drop j).filter (fun w => !preB t w.1)
theorem goneW_len {ws : Ws} {t : List Nat} {j : Nat} (h : j ≤ ws.length) : j ≤ (goneW ws t j).length := by
  simp [goneW]; omega
theorem goneW_at {ws : Ws} {t : List Nat} {j : Nat} (h : j < ws.length) : wd (goneW ws t (j + 1)) j = wd ws j := by
  unfold goneW
  rw [wd_app_l (by simp; omega), wd_take (by omega)]
theorem drop_cons {ws : Ws} {j : Nat} (h : j < ws.length) : ws.drop j = (wd ws j, nu ws j) :: ws.drop (j + 1) := by
  rw [wd_lt h, nu_lt h]; exact List.drop_eq_getElem_cons h
theorem goneW_no {ws : Ws} {t : List Nat} {j : Nat} (h : j < ws.length) (hp : preB t (wd ws j) = false) : goneW ws t (j + 1) = goneW ws t j := by
  unfold goneW
  rw [take_snoc h, drop_cons h, List.filter_cons, List.append_assoc]
  simp [hp]
theorem goneW_yes {ws : Ws} {t : List Nat} {j : Nat} (h : j < ws.length) (hp : preB t (wd ws j) = true) : remW (goneW ws t (j + 1)) j = goneW ws t j := by
  unfold goneW remW
  rw [drop_cons h, List.filter_cons]
  have e : (ws.take (j + 1)).length = j + 1 := by simp; omega
  rw [List.take_append_of_le_length (by omega), List.take_take, show min j (j + 1) = j by omega, List.drop_append, List.drop_of_length_le (by omega), e]
  simp [hp]
theorem sX4_removeBegun {σ : St} {ws : Ws} {x : Nat} {t : List Nat} (h : ListIs σ ws) (hx : RowIs σ x t) (h5 : x ≠ 5) (h55 : x ≠ 55) (hxp : ¬ poolB x) {K : Int32 → St → Prop} (hK : ∀ τ, ListIs τ (ws.filter (fun w => !preB t w.1)) → ChgL σ τ → K (nI (cB ws t)) τ) : wX4_removeBegun σ x K := by
  have a2 := h.2.1
  unfold wX4_removeBegun
  rw [h.1]
  rintro _ rfl
  have key : ∀ j (τ : St), j ≤ ws.length → ListIs τ (goneW ws t j) → RowIs τ x t → ChgL σ τ → wX4_removeBegun_L9 K x (j + 1) τ (nI (cB (ws.drop j) t)) (nI j - 1) := by
    intro j
    induction j with
    | zero =>
      intro τ _ hL hx hc
      rw [wX4_removeBegun_L9]
      refine ⟨fun _ => ?_, fun q => absurd ((m1_neg (by omega)).mpr rfl) q⟩
      have := hK τ (by simpa [goneW] using hL) hc
      simpa using this
    | succ j ih =>
      intro τ hj hL hx hc
      rw [wX4_removeBegun_L9]
      refine ⟨fun q => absurd ((m1_neg (by omega)).mp q) (by omega), fun _ => ?_⟩
      rw [nI_m1 (by omega), show j + 1 - 1 = j by omega]
      have eb : cB (ws.drop j) t = cB (ws.drop (j + 1)) t + if preB t (wd ws j) = true then 1 else 0 := by
        unfold cB; rw [drop_cons (by omega), List.countP_cons]
      refine sX4_rowAt hL j (by omega) fun r hr _ => sX2_beginsWith hr hx ?_
      rw [goneW_at (by omega), bool01, nI_1]
      have em : nI j + -1 = nI j - 1 := (Int32.sub_eq_add_neg _ _).symm
      rw [em]
      refine ⟨fun z => ?_, fun z => ?_⟩
      · simp only [z, Bool.false_eq_true, if_false, Nat.add_zero] at eb
        rw [← eb]
        exact ih τ (by omega) (by rw [← goneW_no (by omega) z]; exact hL) hx hc
      · have z : preB t (wd ws j) = true := by simpa using z
        simp only [z, if_true] at eb
        rw [← eb]
        have hgl := goneW_len (ws := ws) (t := t) (j := j + 1) (by omega)
        refine sX4_remove hL (by omega) fun υ u1 u2 => ih υ (by omega) (by rw [← goneW_yes (by omega) z]; exact u1) (hx.keptL u2 h5 h55 hxp) (hc.tr u2)
  have := key ws.length σ (Nat.le_refl _) (by simpa [goneW] using h) hx ChgL.rf
  rw [List.drop_length] at this
  exact ⟨_, this⟩
