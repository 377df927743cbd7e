/-! THE REFERENCE'S CALLS: turn, and the words -/
theorem revOk_full {a : List Nat} : revOk a a.length = true ↔ a.reverse = a := by
  rw [revOk_iff]
  constructor
  · intro h
    refine gd_ext (by simp) fun k hk => ?_
    rw [List.length_reverse] at hk
    rw [gd_reverse hk]
    exact (h k hk).symm
  · intro h j hj
    have : gd a.reverse j = gd a j := by rw [h]
    rw [gd_reverse hj] at this
    exact this.symm
theorem gd_rev_lt {a : List Nat} (h : ∀ k, gd a k < 103) (k : Nat) : gd a.reverse k < 103 := by
  rcases Nat.lt_or_ge k a.length with q | q
  · rw [gd_reverse q]; exact h _
  · rw [gd_ge (by simpa using q)]; omega
theorem wd_ext {a b : Ws} (h : a.length = b.length) (hk : ∀ k, k < a.length → wd a k = wd b k ∧ nu a k = nu b k) : a = b := by
  refine List.ext_getElem h fun k h1 h2 => ?_
  have := hk k h1
  rw [wd_lt h1, wd_lt h2, nu_lt h1, nu_lt h2] at this
  exact Prod.ext this.1 this.2
/-- the last word comes into the place of one that goes -/
def goW (wl : Ws) (w : Nat) : Ws := (wl.set w (wd wl (wl.length - 1), nu wl (wl.length - 1))).take (wl.length - 1)
theorem goW_len {wl : Ws} {w : Nat} : (goW wl w).length = wl.length - 1 := by simp [goW]
theorem goW_at {wl : Ws} {w i : Nat} (hi : i < wl.length - 1) : wd (goW wl w) i = (if i = w then wd wl (wl.length - 1) else wd wl i) ∧ nu (goW wl w) i = (if i = w then nu wl (wl.length - 1) else nu wl i) := by
  unfold goW
  rw [wd_take hi, nu_take hi, wd_lt (ws := List.set _ _ _) (i := i) (by rw [List.length_set]; omega), nu_lt (ws := List.set _ _ _) (i := i) (by rw [List.length_set]; omega), List.getElem_set]
  by_cases e : w = i
  · rw [if_pos e, if_pos e.symm, if_pos e.symm]; exact ⟨rfl, rfl⟩
  · rw [if_neg e, if_neg (Ne.symm e), if_neg (Ne.symm e)]; exact ⟨(wd_lt (by omega)).symm, (nu_lt (by omega)).symm⟩
theorem goW_perm {wl : Ws} {w : Nat} (hw : w < wl.length) : (goW wl w ++ [(wd wl w, nu wl w)]).Perm wl := by
  have e : goW wl w ++ [(wd wl w, nu wl w)] = (wl.set w wl[wl.length - 1]).set (wl.length - 1) wl[w] := by
    have hl : (goW wl w ++ [(wd wl w, nu wl w)]).length = wl.length := by rw [List.length_append, goW_len]; simp; omega
    refine wd_ext (by rw [hl]; simp) fun k hk => ?_
    rw [hl] at hk
    rw [wd_lt (ws := List.set _ _ _) (i := k) (by simpa using hk), nu_lt (ws := List.set _ _ _) (i := k) (by simpa using hk), List.getElem_set]
    by_cases z : k = wl.length - 1
    · rw [if_pos z.symm, wd_app_r (by rw [goW_len]; omega), nu_app_r (by rw [goW_len]; omega), goW_len, show k - (wl.length - 1) = 0 by omega, wd_0, nu_0, wd_lt hw, nu_lt hw]
      exact ⟨rfl, rfl⟩
    · rw [if_neg (Ne.symm z), wd_app_l (by rw [goW_len]; omega), nu_app_l (by rw [goW_len]; omega), (goW_at (by omega)).1, (goW_at (by omega)).2, List.getElem_set]
      by_cases y : k = w
      · rw [if_pos y, if_pos y, if_pos y.symm, wd_lt (by omega), nu_lt (by omega)]; exact ⟨rfl, rfl⟩
      · rw [if_neg y, if_neg y, if_neg (Ne.symm y), wd_lt hk, nu_lt hk]; exact ⟨rfl, rfl⟩
  rw [e]
  exact List.set_set_perm hw (by omega)
theorem remW_perm {ws : Ws} {i : Nat} (hi : i < ws.length) : ((wd ws i, nu ws i) :: remW ws i).Perm ws := by
  have e : ws = ws.take i ++ (wd ws i, nu ws i) :: ws.drop (i + 1) := by rw [← drop_cons hi, List.take_append_drop]
  conv => rhs; rw [e]
  exact List.perm_middle.symm
theorem rem_perm {wl ws : Ws} (hp : wl.Perm ws) {w i : Nat} (hw : w < wl.length) (hi : i < ws.length) (e1 : wd wl w = wd ws i) (e2 : nu wl w = nu ws i) : (remW wl w).Perm (remW ws i) := by
  have h1 := (remW_perm hw).trans (hp.trans (remW_perm hi).symm)
  rw [e1, e2] at h1
  exact h1.cons_inv
theorem go_perm {wl ws : Ws} (hp : wl.Perm ws) {w i : Nat} (hw : w < wl.length) (hi : i < ws.length) (e1 : wd wl w = wd ws i) (e2 : nu wl w = nu ws i) : (goW wl w).Perm (remW ws i) := by
  have h1 := (List.perm_append_comm.trans (goW_perm hw)).trans (hp.trans (remW_perm hi).symm)
  rw [e1, e2] at h1
  exact h1.cons_inv
theorem set_perm {wl : Ws} {w n : Nat} (hw : w < wl.length) : (setNu wl w n).Perm ((wd wl w, n) :: remW wl w) := by
  have e : setNu wl w n = wl.take w ++ (wd wl w, n) :: wl.drop (w + 1) := by
    unfold setNu
    rw [List.set_eq_take_append_cons_drop, if_pos hw]
  rw [e]
  exact List.perm_middle
theorem setNu_perm {wl ws : Ws} (hp : wl.Perm ws) {w i n : Nat} (hw : w < wl.length) (hi : i < ws.length) (e1 : wd wl w = wd ws i) (e2 : nu wl w = nu ws i) : (setNu wl w n).Perm (setNu ws i n) := by
  refine (set_perm hw).trans (List.Perm.trans ?_ (set_perm hi).symm)
  rw [e1]
  exact (rem_perm hp hw hi e1 e2).cons _
theorem insW_perm {ws : Ws} {k n : Nat} {t : List Nat} : (insW ws k t n).Perm (ws ++ [(t, n)]) := by
  unfold insW
  refine List.perm_middle.trans ?_
  rw [List.take_append_drop]
  exact (List.perm_append_comm (l₁ := [(t, n)]) (l₂ := ws))
section MDL
variable {σ : St} {m : Stt} {K : Int32 → St → Prop}
theorem sM_turn (h : InvM σ m) (hO : OutM (oTurn m) K) : wX6_turn σ K := by
  have hl := h.len
  rintro _ rfl
  obtain ⟨g1, g2⟩ := h.zero
  generalize pI σ 0 0 = τ0 at g1 g2
  have second : ∀ d k (τ : St), k + d = m.1.length → gI τ 1 = nI m.1.length → (∀ j, j < m.1.length → gA τ 4 j = nI (gd m.1 (m.1.length - 1 - j))) → (∀ j, j < m.1.length → gA τ 1 j = nI (gd m.1 (if j < k then m.1.length - 1 - j else j))) → Chg (fun q => q = 1 ∨ q = 4) τ0 τ → wX6_turn_L44 K (d + 1) τ (if revOk m.1 k = true then 1 else 0) (nI k) := by
    intro d
    induction d with
    | zero =>
      intro k τ hk hg h4 h1 hc
      rw [wX6_turn_L44]
      refine pk_le m.1.length k (fun _ => ⟨nar_bool, ?_⟩) (fun q => by omega) hg
      have e : k = m.1.length := by omega
      subst e
      have := hO.ok (g1.text hc (fun k e => by unfold FreeM; omega) ⟨by rw [hg, List.length_reverse], by rw [List.length_reverse]; exact hl, fun j hj => ?_, gd_rev_lt h.1.2.2.2⟩ (Sg_rev h.2.1)) ((hc.1 0 (by omega)).1.trans g2)
      · simpa only [revOk_full] using this
      · rw [List.length_reverse] at hj
        rw [h1 j hj, if_pos hj, gd_reverse hj]
    | succ d ih =>
      intro k τ hk hg h4 h1 hc
      rw [wX6_turn_L44]
      refine pk_le m.1.length k (fun q => by omega) (fun q => ?_) hg
      rw [nI_clamp (by omega), h4 k q, h1 k q, if_neg (by omega)]
      have hr : revOk m.1 (k + 1) = (revOk m.1 k && decide (gd m.1 k = gd m.1 (m.1.length - 1 - k))) := rfl
      have go : ∀ s0 s1 : Int32, s0 &&& s1 = (if revOk m.1 (k + 1) = true then 1 else 0) → wX6_turn_J73 K (wX6_turn_L44 K (d + 1)) τ (nI k) s0 s1 := by
        intro s0 s1 e
        unfold wX6_turn_J73
        rw [nI_clamp (by omega), h4 k q, charN (by have := h.1.2.2.2 (m.1.length - 1 - k); omega), e, nI_1]
        refine ⟨vp_in_nI (by omega) (by omega), vp_in_nI (by omega) (by omega), ?_⟩
        rintro _ rfl
        refine ih (k + 1) _ (by omega) hg (fun j hj => ?_) (fun j hj => ?_) (hc.tr (Chg_pA.mono (by omega)))
        · rw [gA_pA, if_neg (by omega)]; exact h4 j hj
        · rw [gA_pA]
          by_cases e : j = k
          · rw [if_pos ⟨rfl, e⟩, if_pos (by omega), e]
          · rw [if_neg (fun z => e z.2), h1 j hj]
            congr 2
            by_cases z : j < k
            · rw [if_pos z, if_pos (by omega)]
            · rw [if_neg z, if_neg (by omega)]
      refine ⟨vp_in_nI (by omega) (by omega), vp_in_nI (by omega) (by omega), pk_eq (gd m.1 (m.1.length - 1 - k)) (gd m.1 k) (fun e => go _ _ ?_) (fun e => go _ _ ?_) rfl rfl (by have := h.1.2.2.2 (m.1.length - 1 - k); omega) (by have := h.1.2.2.2 k; omega)⟩
      · rw [hr, decide_eq_true e.symm, Bool.and_true]
        cases revOk m.1 k <;> decide
      · rw [hr, decide_eq_false (Ne.symm e), Bool.and_false]
        cases revOk m.1 k <;> decide
  have first : ∀ d k (τ : St), k + d = m.1.length → (∀ j, j < k → gA τ 4 j = nI (gd m.1 (m.1.length - 1 - j))) → Chg (fun q => q = 4) τ0 τ → wX6_turn_L9 K 1 (d + 1) τ (nI k) := by
    intro d
    induction d with
    | zero =>
      intro k τ hk h4 hc
      have ht := g1.1.kept hc (by omega)
      rw [wX6_turn_L9]
      refine pk_le m.1.length k (fun _ => ?_) (fun q => by omega) ht.1
      exact ⟨_, second m.1.length 0 τ (by omega) ht.1 (fun j hj => h4 j (by omega)) (fun j hj => by rw [if_neg (by omega)]; exact ht.2.2.1 j hj) (hc.mono (by omega))⟩
    | succ d ih =>
      intro k τ hk h4 hc
      have ht := g1.1.kept hc (by omega)
      rw [wX6_turn_L9]
      refine pk_le m.1.length k (fun q => by omega) (fun q => ?_) ht.1
      rw [ht.1, nI_m1 (by omega), nI_subI (by omega), nI_clamp (by omega), nI_clamp (by omega), ht.2.2.1 _ (by omega), charN (by have := h.1.2.2.2 (m.1.length - 1 - k); omega), nI_1]
      refine ⟨vp_in_nI (by omega) (by omega), vp_in_nI (by omega) (by omega), ?_⟩
      rintro _ rfl
      refine ih (k + 1) _ (by omega) (fun j hj => ?_) (hc.tr Chg_pA)
      rw [gA_pA]
      by_cases e : j = k
      · rw [if_pos ⟨rfl, e⟩, e]
      · rw [if_neg (fun z => e z.2)]; exact h4 j (by omega)
  exact ⟨_, first m.1.length 0 τ0 (by omega) (fun j hj => by omega) Chg.rf⟩
/-- what is kept when the words change -/
theorem InvM.words {σ τ : St} {m : Stt} {wl ws : Ws} (h : InvM σ m) (hc : Chg (fun k => k = 2 ∨ k = 5 ∨ k = 6) σ τ) (hw : WdsM τ wl) (hp : wl.Perm ws) (h1 : Srt ws) (h2 : SgW ws) (h3 : LenW ws) : InvM τ (m.1, ws, m.2.2) := by
  obtain ⟨a1, a2, a3, a5, a6, a7, a8, a9⟩ := h
  exact ⟨a1.kept hc (by omega), a2, ⟨wl, hw, hp⟩, h1, h2, h3, a8.kept hc (by omega) (by omega), a9⟩
theorem WrdM.same {σ τ : St} {w v : Nat} {a : List Nat} (h : WrdM σ v a) (h1 : gA τ 5 w = gA σ 5 v) (h2 : ∀ k, k < a.length → gA τ 2 (10 * w + k) = gA σ 2 (10 * v + k)) : WrdM τ w a :=
  ⟨h1.trans h.1, h.2.1, fun k hk => (h2 k hk).trans (h.2.2.1 k hk), h.2.2.2⟩
theorem sX6_goes {wl : Ws} {w : Nat} (hw : WdsM σ wl) (h : w < wl.length) {K : St → Prop} (hK : ∀ τ, WdsM τ (goW wl w) → Chg (fun k => k = 2 ∨ k = 5 ∨ k = 6) σ τ → K τ) : wX6_goes σ (nI w) K := by
  obtain ⟨w1, w2, w3⟩ := hw
  unfold wX6_goes
  rw [w1, nI_m1 (by omega)]
  rintro _ rfl
  rw [gI_pI, if_pos rfl, nI_clamp (by omega), nI_clamp (by omega)]
  refine ⟨vp_in_nI (by omega) (by omega), vp_in_nI (by omega) (by omega), ?_⟩
  rintro _ rfl
  rw [gI_pA, gI_pI, if_pos rfl, nI_clamp (by omega)]
  refine ⟨vp_in_nI (by omega) (by omega), vp_in_nI (by omega) (by omega), ?_⟩
  rintro _ rfl
  have q1 := w3 w h
  have q2 := w3 (wl.length - 1) (by omega)
  generalize hn : wl.length - 1 = n at *
  have hb : ∀ τ : St, τ = pA (pA (pI σ 2 (nI n)) 5 w (gA (pI σ 2 (nI n)) 5 n)) 6 w (gA (pA (pI σ 2 (nI n)) 5 w (gA (pI σ 2 (nI n)) 5 n)) 6 n) → gI τ 2 = nI n ∧ (∀ j, gA τ 5 j = if j = w then gA σ 5 n else gA σ 5 j) ∧ (∀ j, gA τ 6 j = if j = w then gA σ 6 n else gA σ 6 j) ∧ (∀ j, gA τ 2 j = gA σ 2 j) ∧ Chg (fun k => k = 2 ∨ k = 5 ∨ k = 6) σ τ := by
    rintro _ rfl
    refine ⟨by rw [gI_pA, gI_pA, gI_pI, if_pos rfl], fun j => ?_, fun j => ?_, fun j => ?_, ?_⟩
    · rw [gA_pA, if_neg (by omega), gA_pA, gA_pI, gA_pI]
      by_cases e : j = w
      · rw [if_pos ⟨rfl, e⟩, if_pos e]
      · rw [if_neg (fun z => e z.2), if_neg e]
    · simp [gA_pA, gA_pI]
    · rw [gA_pA, if_neg (by omega), gA_pA, if_neg (by omega), gA_pI]
    · exact (Chg_pI.mono (by omega)).tr ((Chg_pA.mono (by omega)).tr (Chg_pA.mono (by omega)))
  obtain ⟨b1, b2, b3, b4, b5⟩ := hb _ rfl
  generalize pA (pA (pI σ 2 (nI n)) 5 w (gA (pI σ 2 (nI n)) 5 n)) 6 w (gA (pA (pI σ 2 (nI n)) 5 w (gA (pI σ 2 (nI n)) 5 n)) 6 n) = υ at b1 b2 b3 b4 b5 ⊢
  have key : ∀ d k (τ : St), k + d = 10 → (∀ j, j < 10 * w ∨ 10 * w + k ≤ j → gA τ 2 j = gA σ 2 j) → (∀ j, j < k → j < (wd wl n).length → gA τ 2 (10 * w + j) = nI (gd (wd wl n) j)) → gI τ 2 = nI n → (∀ j, j ≠ 2 → ∀ i, gA τ j i = gA υ j i) → Chg (fun k => k = 2 ∨ k = 5 ∨ k = 6) σ τ → wX6_goes_L42 K (nI w) (d + 1) τ (nI k) := by
    intro d
    induction d with
    | zero =>
      intro k τ hk h2 h2w hg ho hc
      rw [wX6_goes_L42]
      refine pk_le 10 k (fun _ => hK τ ⟨by rw [goW_len, hn]; exact hg, by rw [goW_len]; omega, fun i hi => ?_⟩ hc) (fun q => by omega)
      rw [goW_len] at hi
      rw [(goW_at hi).1, (goW_at hi).2, ho 6 (by omega), b3]
      by_cases e : i = w
      · rw [if_pos e, if_pos e, if_pos e, hn, e]
        have q3 := q2.1
        refine ⟨⟨by rw [ho 5 (by omega), b2, if_pos rfl]; exact q3.1, q3.2.1, fun j hj => h2w j (by have := q3.2.1; omega) hj, q3.2.2.2⟩, q2.2⟩
      · rw [if_neg e, if_neg e, if_neg e]
        have q3 := w3 i (by omega)
        refine ⟨q3.1.same (by rw [ho 5 (by omega), b2, if_neg e]) fun j hj => ?_, q3.2⟩
        have := q3.1.2.1
        exact h2 _ (by omega)
    | succ d ih =>
      intro k τ hk h2 h2w hg ho hc
      rw [wX6_goes_L42]
      refine pk_le 10 k (fun q => by omega) (fun q => ?_)
      rw [hg, nI_x10, nI_x10, nI_add, nI_add, nI_clamp (n := 10 * n + k) (by omega), nI_clamp (n := 10 * w + k) (by omega), nI_1]
      refine ⟨vp_in_nI (by omega) (by omega), vp_in_nI (by omega) (by omega), ?_⟩
      rintro _ rfl
      refine ih (k + 1) _ (by omega) (fun j hj => ?_) (fun j hj hj2 => ?_) hg (fun j hj i => ?_) (hc.tr (Chg_pA.mono (by omega)))
      · rw [gA_pA, if_neg (by omega)]; exact h2 j (by omega)
      · rw [gA_pA]
        by_cases e : j = k
        · rw [if_pos ⟨rfl, by omega⟩, h2 _ (by omega)]
          subst e
          have := q2.1.2.2.2 j
          rw [q2.1.2.2.1 j hj2, charN (by omega)]
        · rw [if_neg (by omega)]; exact h2w j (by omega) hj2
      · rw [gA_pA, if_neg (fun z => hj z.1)]; exact ho j hj i
  exact ⟨_, key 10 0 υ (by omega) (fun j _ => b4 j) (fun j hj => by omega) b1 (fun _ _ _ => rfl) b5⟩
theorem WdsM.setNu {wl : Ws} {w n : Nat} (h : WdsM σ wl) (hw : w < wl.length) (hn : n ≤ 999) : WdsM (pA σ 6 w (nI n)) (setNu wl w n) := by
  obtain ⟨w1, w2, w3⟩ := h
  refine ⟨by rw [setNu_len]; exact w1, by rw [setNu_len]; exact w2, fun i hi => ?_⟩
  rw [setNu_len] at hi
  rw [setNu_wd, setNu_nu hi, gA_pA]
  have q := w3 i hi
  refine ⟨q.1.same (by rw [gA_pA, if_neg (by omega)]) fun k _ => by rw [gA_pA, if_neg (by omega)], ?_⟩
  by_cases e : i = w
  · rw [if_pos ⟨rfl, e⟩, if_pos e]; exact ⟨rfl, hn⟩
  · rw [if_neg (fun z => e z.2), if_neg e]; exact q.2
theorem own_idx {wl ws : Ws} {t : List Nat} (hp : wl.Perm ws) (hs : Srt ws) {i : Nat} (hi : i < wl.length) (e : wd wl i = t) : idx ws t < ws.length ∧ wd ws (idx ws t) = t ∧ nu ws (idx ws t) = nu wl i := by
  obtain ⟨j, h1, h2, h3⟩ := perm_at hp hi
  have h4 := idx_eq hs h1 (h2.trans e)
  rw [h4]
  exact ⟨h1, h2.trans e, h3⟩
theorem own_no {wl ws : Ws} {t : List Nat} (hp : wl.Perm ws) (h : ∀ i, i < wl.length → wd wl i ≠ t) : ∀ i, i < ws.length → wd ws i ≠ t := fun i hi e => by
  obtain ⟨j, h1, h2, -⟩ := perm_ta hp hi
  exact h j h1 (h2.trans e)
theorem sM_number (h : InvM σ m) (hO : OutM (oNumber m) K) : wX6_number σ K := by
  obtain ⟨a1, a2, ⟨wl, a3, a4⟩, a5, a6, a7, a8, a9⟩ := id h
  have hl := a3.2.1
  unfold oNumber at hO
  unfold wX6_number
  refine sX6_own a3 a1 (fun i i1 i2 => ?_) (fun hn => ?_)
  · obtain ⟨j1, j2, j3⟩ := own_idx a4 a5 i1 i2
    rw [if_pos j1, j3] at hO
    refine ⟨fun _ => ?_, fun z => absurd (nI_pos' (by omega)) z⟩
    unfold wX6_number_J15
    refine sX6_good h fun τ h1 h2 hc => ?_
    have b3 := a3.kept hc (by omega) (by omega) (by omega)
    rw [nI_clamp (by omega), (b3.2.2 i i1).2.1]
    exact ⟨vp_in_nI (by omega) (by omega), hO.ok h1 h2⟩
  · rw [if_neg (idx_no (own_no a4 hn))] at hO
    refine ⟨fun z => absurd z (by decide), fun _ => ?_⟩
    unfold wX6_number_J15
    exact sX6_bad (e := 0) h (by omega) fun τ h1 h2 => hO.no h1 h2
theorem sM_take (h : InvM σ m) (hO : OutM (oTake m) K) : wX6_take σ K := by
  obtain ⟨a1, a2, ⟨wl, a3, a4⟩, a5, a6, a7, a8, a9⟩ := id h
  have hl := a3.2.1
  unfold oTake at hO
  unfold wX6_take
  refine sX6_own a3 a1 (fun i i1 i2 => ?_) (fun hn => ?_)
  · obtain ⟨j1, j2, j3⟩ := own_idx a4 a5 i1 i2
    rw [if_pos j1] at hO
    refine ⟨fun _ => ?_, fun z => absurd (nI_pos' (by omega)) z⟩
    unfold wX6_take_J15
    refine sX6_good h fun τ h1 h2 hc => ?_
    have b3 := a3.kept hc (by omega) (by omega) (by omega)
    rw [nI_clamp (by omega), (b3.2.2 i i1).2.1]
    refine ⟨vp_in_nI (by omega) (by omega), ?_⟩
    rintro _ rfl
    refine sX6_goes b3 i1 fun υ u1 u2 => ?_
    rw [← j3]
    exact hO.ok (h1.words u2 u1 (go_perm a4 i1 j1 (i2.trans j2.symm) j3.symm) (Srt_remW j1 a5) (all_remW j1 a6) (all_remW (P := fun w => 1 ≤ w.length ∧ w.length ≤ 10) j1 a7)) ((u2.1 0 (by omega)).1.trans h2)
  · rw [if_neg (idx_no (own_no a4 hn))] at hO
    refine ⟨fun z => absurd z (by decide), fun _ => ?_⟩
    unfold wX6_take_J15
    exact sX6_bad (e := 0) h (by omega) fun τ h1 h2 => hO.no h1 h2
theorem sM_put {n : Int32} (h : InvM σ m) (hO : OutM (oPut n m) K) : wX6_put σ n K := by
  have htl := h.len
  obtain ⟨a1, a2, ⟨wl, a3, a4⟩, a5, a6, a7, a8, a9⟩ := id h
  have hl := a3.2.1
  have hll := a4.length_eq
  unfold oPut at hO
  unfold wX6_put
  have bad1 : ∀ r : Int32, ¬ (0 ≤ n.toInt ∧ n.toInt ≤ 999) → wX6_put_J56 K σ n r 1 := fun r q => by
    rw [if_neg q] at hO
    unfold wX6_put_J56
    exact sX6_bad (e := 0) h (by omega) fun τ h1 h2 => hO.no h1 h2
  have bad2 : ∀ r : Int32, (0 ≤ n.toInt ∧ n.toInt ≤ 999) → ¬ (1 ≤ (m.1.length : Int) ∧ (m.1.length : Int) ≤ 10) → wX6_put_J56 K σ n r 2 := fun r q q2 => by
    rw [if_pos q, if_neg (by omega)] at hO
    unfold wX6_put_J56
    exact sX6_bad (e := 1) h (by omega) fun τ h1 h2 => hO.no h1 h2
  refine sX6_own a3 a1 (fun i i1 i2 => ?_) (fun hn => ?_)
  · obtain ⟨j1, j2, j3⟩ := own_idx a4 a5 i1 i2
    refine sX6_in (a := 0) (b := 999) rfl rfl (fun ha => bit1 (sX6_in (a := 1) (b := 10) (by rfl) rfl (fun hb => bit1 ?_) (fun hb => bit0 (bad2 _ ha ?_)))) (fun ha => bit0 (bad1 _ ha))
    · rw [h.1.1, nI_toInt (by omega)] at hb
      rw [if_pos ha, if_pos (by omega), if_pos j1] at hO
      obtain ⟨en, ln, i_n⟩ := of_nn (x := n) (by omega)
      generalize nt n = j at en i_n hO
      subst en
      refine ⟨fun _ => ?_, fun z => absurd (nI_pos' (by omega)) z⟩
      unfold wX6_put_J55 wX6_put_J56
      refine sX6_good h fun τ h1 h2 hc => ?_
      have b3 := a3.kept hc (by omega) (by omega) (by omega)
      refine ⟨fun _ => ?_, fun z => absurd (nI_pos' (by omega)) z⟩
      rw [nI_clamp (by omega), (b3.2.2 i i1).2.1]
      refine ⟨vp_in_nI (by omega) (by omega), ?_⟩
      unfold wX6_put_J78
      refine ⟨fun _ => ?_, fun z => absurd (nI_pos' (by omega)) z⟩
      unfold wX6_put_J145
      rw [nI_clamp (by omega)]
      refine ⟨vp_in_nI (by omega) (by omega), ?_⟩
      rintro _ rfl
      rw [← j3]
      exact hO.ok (h1.words (Chg_pA.mono (by omega)) (b3.setNu i1 (by omega)) (setNu_perm a4 i1 j1 (i2.trans j2.symm) j3.symm) (Srt_setNu a5) (SgW_setNu a6) (LenW_setNu a7)) h2
    · rw [h.1.1, nI_toInt (by omega)] at hb; exact hb
  · have hn2 := own_no a4 hn
    refine sX6_in (a := 0) (b := 999) rfl rfl (fun ha => bit1 (sX6_in (a := 1) (b := 10) (by rfl) rfl (fun hb => bit1 ?_) (fun hb => bit0 (bad2 _ ha ?_)))) (fun ha => bit0 (bad1 _ ha))
    · rw [h.1.1, nI_toInt (by omega)] at hb
      rw [if_pos ha, if_pos (by omega), if_neg (idx_no hn2)] at hO
      obtain ⟨en, ln, i_n⟩ := of_nn (x := n) (by omega)
      generalize nt n = j at en i_n hO
      subst en
      refine ⟨fun z => absurd z (by decide), fun _ => pk_eq wl.length 24 (fun e => ?_) (fun e => ?_) a3.1 rfl (by omega) (by omega)⟩
      · rw [if_neg (by omega)] at hO
        unfold wX6_put_J56
        exact sX6_bad (e := 2) h (by omega) fun τ h1 h2 => hO.no h1 h2
      · rw [if_pos (by omega)] at hO
        unfold wX6_put_J55 wX6_put_J56
        refine sX6_good h fun τ0 h1 h2 hc0 => ?_
        have b3 := a3.kept hc0 (by omega) (by omega) (by omega)
        refine ⟨fun z => absurd z (by decide), fun _ => ?_⟩
        unfold wX6_put_J78
        refine ⟨fun z => absurd z (by decide), fun _ => ?_⟩
        rintro _ rfl
        rw [b3.1, nI_1]
        rintro _ rfl
        rw [nI_clamp (by omega)]
        refine ⟨vp_in_nI (by omega) (by omega), ?_⟩
        rintro _ rfl
        rw [gI_pI, if_neg (by omega), h1.1.1]
        have key : ∀ d k (τ : St), k + d = m.1.length → gI τ 2 = nI (wl.length + 1) → (∀ i, gA τ 5 i = if i = wl.length then nI m.1.length else gA τ0 5 i) → (∀ i, gA τ 6 i = gA τ0 6 i) → (∀ i, i < 10 * wl.length → gA τ 2 i = gA τ0 2 i) → (∀ i, i < k → gA τ 2 (10 * wl.length + i) = nI (gd m.1 i)) → Chg (fun k => k = 2 ∨ k = 5 ∨ k = 6) τ0 τ → wX6_put_L111 K (nI j) (nI wl.length) (-1) (d + 1) τ (nI k) := by
          intro d
          induction d with
          | zero =>
            intro k τ hk hg h5 h6 h20 h21 hc
            have ht := h1.1.kept hc (by omega)
            rw [wX6_put_L111]
            refine pk_le m.1.length k (fun _ => ?_) (fun q => by omega) ht.1
            unfold wX6_put_J145
            rw [nI_clamp (by omega)]
            refine ⟨vp_in_nI (by omega) (by omega), ?_⟩
            rintro _ rfl
            have hk2 := (cL_cut a5 m.1).1
            refine hO.ok (h1.words (wl := wl ++ [(m.1, j)]) (hc.tr (Chg_pA.mono (by omega))) ⟨by rw [gI_pA, hg]; simp, by simp; omega, fun i hi => ?_⟩ ((a4.append_right _).trans insW_perm.symm) (Srt_insW a5 hn2) (all_insW hk2 a6 a2) (all_insW (P := fun w => 1 ≤ w.length ∧ w.length ≤ 10) hk2 a7 (by omega))) ((hc.1 0 (by omega)).1.trans h2)
            simp only [List.length_append, List.length_cons, List.length_nil] at hi
            by_cases e : i = wl.length
            · subst e
              rw [wd_app_r (Nat.le_refl _), nu_app_r (Nat.le_refl _), Nat.sub_self, wd_0, nu_0]
              refine ⟨⟨?_, (by show m.1.length ≤ 10; omega), fun q hq => ?_, h.1.2.2.2⟩, ?_, by omega⟩
              · rw [gA_pA, if_neg (by omega), h5, if_pos rfl]
              · rw [gA_pA, if_neg (by omega)]; exact h21 q (by have hq : q < m.1.length := hq; omega)
              · rw [gA_pA, if_pos ⟨rfl, rfl⟩]
            · rw [wd_app_l (by omega), nu_app_l (by omega)]
              have q := b3.2.2 i (by omega)
              have q10 := q.1.2.1
              refine ⟨q.1.same ?_ fun z hz => ?_, ?_, q.2.2⟩
              · rw [gA_pA, if_neg (by omega), h5, if_neg e]
              · rw [gA_pA, if_neg (by omega)]; exact h20 _ (by omega)
              · rw [gA_pA, if_neg (by omega), h6]; exact q.2.1
          | succ d ih =>
            intro k τ hk hg h5 h6 h20 h21 hc
            have ht := h1.1.kept hc (by omega)
            rw [wX6_put_L111]
            refine pk_le m.1.length k (fun q => by omega) (fun q => ?_) ht.1
            rw [nI_x10, nI_add, nI_clamp (by omega), nI_clamp (by omega), ht.2.2.1 k q, charN (by have := h.1.2.2.2 k; omega), nI_1]
            refine ⟨vp_in_nI (by omega) (by omega), vp_in_nI (by omega) (by omega), ?_⟩
            rintro _ rfl
            refine ih (k + 1) _ (by omega) hg (fun i => ?_) (fun i => ?_) (fun i hi => ?_) (fun i hi => ?_) (hc.tr (Chg_pA.mono (by omega)))
            · rw [gA_pA, if_neg (by omega)]; exact h5 i
            · rw [gA_pA, if_neg (by omega)]; exact h6 i
            · rw [gA_pA, if_neg (by omega)]; exact h20 i hi
            · rw [gA_pA]
              by_cases e : i = k
              · rw [if_pos ⟨rfl, by omega⟩, e]
              · rw [if_neg (by omega)]; exact h21 i (by omega)
        refine ⟨_, key m.1.length 0 _ (by omega) ?_ (fun i => ?_) (fun i => ?_) (fun i hi => ?_) (fun i hi => by omega) ((Chg_pI.mono (by omega)).tr (Chg_pA.mono (by omega)))⟩
        · rw [gI_pA, gI_pI, if_pos rfl]
        · rw [gA_pA, gA_pI]
          by_cases e : i = wl.length
          · rw [if_pos ⟨rfl, e⟩, if_pos e]
          · rw [if_neg (fun z => e z.2), if_neg e]
        · rw [gA_pA, if_neg (by omega), gA_pI]
        · rw [gA_pA, if_neg (by omega), gA_pI]
    · rw [h.1.1, nI_toInt (by omega)] at hb; exact hb
theorem sM_words (h : InvM σ m) (hO : OutM (oWords m) K) : wX6_words σ K := by
  rintro _ rfl
  have h1 := h.zero
  obtain ⟨wl, a3, a4⟩ := h1.1.2.2.1
  rw [a3.1, a4.length_eq]
  exact hO.ok h1.1 h1.2
theorem sM_rank (h : InvM σ m) (hO : OutM (oRank m) K) : wX6_rank σ K := by
  rintro _ rfl
  obtain ⟨g1, g2⟩ := h.zero
  obtain ⟨wl, a3, a4⟩ := g1.2.2.1
  have hl := a3.2.1
  generalize pI σ 0 0 = τ at g1 g2 a3 ⊢
  unfold oRank at hO
  rw [← cL_perm a4] at hO
  have key : ∀ d k, k + d = wl.length → wX6_rank_L9 K τ (d + 1) (nI (cL (wl.take k) m.1)) (nI k) := by
    intro d
    induction d with
    | zero =>
      intro k hk
      rw [wX6_rank_L9]
      refine pk_le wl.length k (fun _ => by rw [List.take_of_length_le (by omega)]; exact hO.ok g1 g2) (fun q => by omega) a3.1
    | succ d ih =>
      intro k hk
      rw [wX6_rank_L9]
      refine pk_le wl.length k (fun _ => by omega) (fun q => sX6_beside (a3.2.2 k q).1 g1.1 (by omega) fun r hr => ?_) a3.1
      have e := cL_snoc (t := m.1) q
      have e2 := ih (k + 1) (by omega)
      rw [e] at e2
      rw [hr.ge, nI_1, nI_1]
      refine ⟨fun z => ?_, fun z => ?_⟩
      · rw [if_neg z] at e2; exact e2
      · rw [if_pos (Classical.not_not.mp z)] at e2; exact e2
  exact ⟨_, key wl.length 0 (by omega)⟩
theorem sM_word {k : Int32} (h : InvM σ m) (hO : OutM (oWord k m) K) : wX6_word σ k K := by
  obtain ⟨a1, a2, ⟨wl, a3, a4⟩, a5, a6, a7, a8, a9⟩ := id h
  have hl := a3.2.1
  have hll := a4.length_eq
  unfold oWord at hO
  refine sX6_in (a := 0) (b := (m.2.1.length : Int) - 1) rfl (by rw [a3.1, hll]; exact pk_sub_toInt (b := 1) (by omega) (by omega)) (fun ha => bit1 ?_) (fun ha => bit0 ?_)
  · rw [if_pos ⟨by omega, by omega⟩] at hO
    obtain ⟨ep, lp, ip⟩ := of_nn (x := k) (by omega)
    generalize nt k = i at ep ip hO
    subst ep
    unfold wX6_word_J20
    refine sX6_good h fun τ h1 h2 hc => ?_
    refine sX6_orders (a3.kept hc (by omega) (by omega) (by omega)) a4 a5 fun υ u1 u2 => ?_
    obtain ⟨w, w1, w2, w3, w4⟩ := u2.at a4 a5 (k := i) (by omega)
    have b3 := (a3.kept hc (by omega) (by omega) (by omega)).kept u1 (by omega) (by omega) (by omega)
    rw [nI_clamp (by omega), w2]
    refine ⟨vp_in_nI (by omega) (by omega), sX6_becomes (b3.2.2 w w1).1 (by omega) fun φ f1 f2 => ?_⟩
    rw [f1.1, w3]
    rw [w3] at f1
    exact hO.ok (h1.text (P := fun k => k = 1 ∨ k = 8 ∨ k = 9) ((u1.mono (by omega)).tr (f2.mono (by omega))) (fun k e => by unfold FreeM; omega) f1 (a6 i (by omega))) ((f2.1 0 (by omega)).1.trans ((u1.1 0 (by omega)).1.trans h2))
  · rw [if_neg (fun z => ha ⟨z.1, by omega⟩)] at hO
    unfold wX6_word_J20
    exact sX6_bad (e := 0) h (by omega) fun τ h1 h2 => hO.no h1 h2
end MDL
