/-! WORDS AS A LIST -/
abbrev Ws : Type := List (List Nat × Nat)
def wd (ws : Ws) (i : Nat) : List Nat := (ws.getD i ([], 0)).1
def nu (ws : Ws) (i : Nat) : Nat := (ws.getD i ([], 0)).2
theorem wd_0 (w : List Nat × Nat) (ws : Ws) : wd (w :: ws) 0 = w.1 := rfl
theorem wd_s (w : List Nat × Nat) (ws : Ws) (i : Nat) : wd (w :: ws) (i + 1) = wd ws i := by simp [wd]
theorem wd_ge {ws : Ws} {i : Nat} (h : ws.length ≤ i) : wd ws i = [] := by simp [wd, List.getD_eq_getElem?_getD, List.getElem?_eq_none h]
theorem wd_lt {ws : Ws} {i : Nat} (h : i < ws.length) : wd ws i = (ws[i]).1 := by simp [wd, List.getD_eq_getElem?_getD, h]
theorem nu_lt {ws : Ws} {i : Nat} (h : i < ws.length) : nu ws i = (ws[i]).2 := by simp [nu, List.getD_eq_getElem?_getD, h]
theorem wd_app_l {a b : Ws} {i : Nat} (h : i < a.length) : wd (a ++ b) i = wd a i := by simp [wd, List.getD_eq_getElem?_getD, List.getElem?_append_left h]
theorem wd_app_r {a b : Ws} {i : Nat} (h : a.length ≤ i) : wd (a ++ b) i = wd b (i - a.length) := by simp [wd, List.getD_eq_getElem?_getD, List.getElem?_append_right h]
theorem nu_app_l {a b : Ws} {i : Nat} (h : i < a.length) : nu (a ++ b) i = nu a i := by simp [nu, List.getD_eq_getElem?_getD, List.getElem?_append_left h]
theorem nu_app_r {a b : Ws} {i : Nat} (h : a.length ≤ i) : nu (a ++ b) i = nu b (i - a.length) := by simp [nu, List.getD_eq_getElem?_getD, List.getElem?_append_right h]
theorem wd_take {a : Ws} {n i : Nat} (h : i < n) : wd (a.take n) i = wd a i := by simp [wd, List.getD_eq_getElem?_getD, List.getElem?_take, h]
theorem nu_take {a : Ws} {n i : Nat} (h : i < n) : nu (a.take n) i = nu a i := by simp [nu, List.getD_eq_getElem?_getD, List.getElem?_take, h]
theorem wd_drop {a : Ws} {n i : Nat} : wd (a.drop n) i = wd a (n + i) := by simp [wd, List.getD_eq_getElem?_getD, List.getElem?_drop]
theorem nu_drop {a : Ws} {n i : Nat} : nu (a.drop n) i = nu a (n + i) := by simp [nu, List.getD_eq_getElem?_getD, List.getElem?_drop]
theorem nu_0 (w : List Nat × Nat) (ws : Ws) : nu (w :: ws) 0 = w.2 := rfl
theorem nu_s (w : List Nat × Nat) (ws : Ws) (i : Nat) : nu (w :: ws) (i + 1) = nu ws i := by simp [nu]
theorem wd_mem {ws : Ws} {i : Nat} (h : i < ws.length) : (wd ws i, nu ws i) ∈ ws := by
  rw [wd_lt h, nu_lt h]; exact List.getElem_mem h
theorem wd_of_mem {ws : Ws} {w : List Nat × Nat} (h : w ∈ ws) : ∃ i, i < ws.length ∧ wd ws i = w.1 ∧ nu ws i = w.2 := by
  obtain ⟨i, hi, e⟩ := List.getElem_of_mem h
  exact ⟨i, hi, by rw [wd_lt hi, e], by rw [nu_lt hi, e]⟩
theorem take_snoc {ws : Ws} {k : Nat} (h : k < ws.length) : ws.take (k + 1) = ws.take k ++ [(wd ws k, nu ws k)] := by
  rw [wd_lt h, nu_lt h, List.take_append_getElem h]
/-- the words are in their order -/
def Srt (ws : Ws) : Prop := ∀ i j, i < j → j < ws.length → lt (wd ws i) (wd ws j) = true
theorem Srt.tail {w : List Nat × Nat} {ws : Ws} (h : Srt (w :: ws)) : Srt ws := fun i j hij hj => by
  have := h (i + 1) (j + 1) (by omega) (by simpa using hj)
  rwa [wd_s, wd_s] at this
theorem Srt.inj {ws : Ws} (h : Srt ws) {i j : Nat} (hi : i < ws.length) (hj : j < ws.length) (e : wd ws i = wd ws j) : i = j := by
  rcases Nat.lt_trichotomy i j with q | q | q
  · exact absurd e (lt_ne (h i j q hj))
  · exact q
  · exact absurd e.symm (lt_ne (h j i q hi))
/-- the first k are those of which p holds -/
def CutAt (ws : Ws) (p : List Nat → Bool) (k : Nat) : Prop := k ≤ ws.length ∧ (∀ i, i < k → p (wd ws i) = true) ∧ ∀ i, k ≤ i → i < ws.length → p (wd ws i) = false
theorem cut_count : ∀ (ws : Ws) (p : List Nat → Bool), (∀ i j, i < j → j < ws.length → p (wd ws j) = true → p (wd ws i) = true) → CutAt ws p (ws.countP (fun w => p w.1))
  | [], p, _ => ⟨Nat.le_refl _, fun i h => by simp at h, fun i _ h => by simp at h⟩
  | w :: ws, p, hd => by
    have ih := cut_count ws p (fun i j hij hj hp => by
      have := hd (i + 1) (j + 1) (by omega) (by simpa using hj)
      rw [wd_s, wd_s] at this
      exact this hp)
    cases hw : p w.1
    · have hz : ∀ i, i < ws.length → p (wd ws i) = false := fun i hi => by
        cases h : p (wd ws i)
        · rfl
        · have := hd 0 (i + 1) (by omega) (by simpa using hi) (by rw [wd_s]; exact h)
          rw [wd_0, hw] at this; cases this
      have h0 : (w :: ws).countP (fun w => p w.1) = 0 := by
        rw [List.countP_eq_zero]
        intro x hx
        obtain ⟨i, hi, e, -⟩ := wd_of_mem hx
        rw [← e]
        cases i with
        | zero => rw [wd_0, hw]; decide
        | succ i => rw [wd_s, hz i (by simpa using hi)]; decide
      rw [h0]
      refine ⟨Nat.zero_le _, fun i h => absurd h (Nat.not_lt_zero i), fun i _ hi => ?_⟩
      cases i with
      | zero => rw [wd_0, hw]
      | succ i => rw [wd_s]; exact hz i (by simpa using hi)
    · rw [List.countP_cons_of_pos (p := fun w : List Nat × Nat => p w.1) hw]
      obtain ⟨h1, h2, h3⟩ := ih
      refine ⟨by simp only [List.length_cons]; omega, fun i hi => ?_, fun i hi hl => ?_⟩
      · cases i with
        | zero => rw [wd_0]; exact hw
        | succ i => rw [wd_s]; exact h2 i (by omega)
      · cases i with
        | zero => omega
        | succ i => rw [wd_s]; exact h3 i (by omega) (by simpa using hl)
theorem CutAt.uniq {ws : Ws} {p : List Nat → Bool} {k m : Nat} (h1 : CutAt ws p k) (h2 : CutAt ws p m) : k = m := by
  rcases Nat.lt_trichotomy k m with q | q | q
  · have a := h2.2.1 k q
    have b := h1.2.2 k (Nat.le_refl _) (Nat.lt_of_lt_of_le q h2.1)
    rw [a] at b; cases b
  · exact q
  · have a := h1.2.1 m q
    have b := h2.2.2 m (Nat.le_refl _) (Nat.lt_of_lt_of_le q h1.1)
    rw [a] at b; cases b
/-- how many words are less than t; how many are not greater -/
def cL (ws : Ws) (t : List Nat) : Nat := ws.countP (fun w => lt w.1 t)
def cG (ws : Ws) (t : List Nat) : Nat := ws.countP (fun w => !lt t w.1)
theorem cL_cut {ws : Ws} (h : Srt ws) (t : List Nat) : CutAt ws (fun w => lt w t) (cL ws t) :=
  cut_count ws (fun w => lt w t) fun i j hij hj hp => lt_tr _ _ _ (h i j hij hj) hp
theorem cG_cut {ws : Ws} (h : Srt ws) (t : List Nat) : CutAt ws (fun w => !lt t w) (cG ws t) :=
  cut_count ws (fun w => !lt t w) fun i j hij hj hp => by
    cases q : lt t (wd ws i)
    · rfl
    · have := lt_tr _ _ _ q (h i j hij hj)
      simp [this] at hp
/-- the greatest of some numbers, 0 if there are none -/
def Top (S : Nat → Prop) (m : Nat) : Prop := (∀ x, S x → x ≤ m) ∧ (m = 0 ∨ S m)
theorem Top.uniq {S T : Nat → Prop} {m n : Nat} (h1 : Top S m) (h2 : Top T n) (h : ∀ x, S x ↔ T x) : m = n := by
  have a : m ≤ n := by
    rcases h1.2 with q | q
    · omega
    · exact h2.1 m ((h m).mp q)
  have b : n ≤ m := by
    rcases h2.2 with q | q
    · omega
    · exact h1.1 n ((h n).mpr q)
  omega
theorem Top.nil {S : Nat → Prop} (h : ∀ x, ¬ S x) : Top S 0 := ⟨fun x q => absurd q (h x), Or.inl rfl⟩
theorem Top.add {S T : Nat → Prop} {m n : Nat} (h : Top S m) (hT : ∀ x, T x ↔ S x ∨ x = n) : Top T (max m n) := by
  refine ⟨fun x hx => ?_, ?_⟩
  · rcases (hT x).mp hx with q | q
    · have := h.1 x q; omega
    · omega
  · rcases Nat.le_total m n with q | q
    · rw [Nat.max_eq_right q]; exact Or.inr ((hT n).mpr (Or.inr rfl))
    · rw [Nat.max_eq_left q]
      rcases h.2 with z | z
      · exact Or.inl z
      · exact Or.inr ((hT m).mpr (Or.inl z))
theorem Top.skip {S T : Nat → Prop} {m : Nat} (h : Top S m) (hT : ∀ x, T x ↔ S x) : Top T m :=
  ⟨fun x hx => h.1 x ((hT x).mp hx), h.2.elim Or.inl fun q => Or.inr ((hT m).mpr q)⟩
theorem nI_max {a b : Nat} (ha : a < 2 ^ 31) (hb : b < 2 ^ 31) : (if nI a < nI b then nI b else nI a) = nI (max a b) := by
  by_cases h : a < b
  · rw [if_pos ((nI_ltI ha hb).mpr h), Nat.max_eq_right (by omega)]
  · rw [if_neg (fun q => h ((nI_ltI ha hb).mp q)), Nat.max_eq_left (by omega)]
/-! WHAT THE LIST OF WORDS HOLDS -/
def poolB (r : Nat) : Prop := 7 ≤ r ∧ r < 55 ∧ r % 2 = 1
theorem pool_cap {r : Nat} (h : poolB r) : capC r = 10 := by
  obtain ⟨h1, h2, h3⟩ := h
  unfold capC
  rw [if_neg (by omega), if_pos (by omega), if_neg (by omega)]
def ListIs (σ : St) (ws : Ws) : Prop := gI σ 5 = nI ws.length ∧ ws.length ≤ 24 ∧ (∀ i, i < ws.length → RowIs σ (gR σ i) (wd ws i) ∧ gA σ 55 i = nI (nu ws i)) ∧ RowIs σ 56 [] ∧ (∀ i, i < 24 → poolB (gR σ i)) ∧ (∀ i j, i < 24 → j < 24 → gR σ i = gR σ j → i = j) ∧ ∀ i, i < ws.length → nu ws i ≤ 999
theorem ListIs.kept {P : Nat → Prop} {σ τ : St} {ws : Ws} (h : ListIs σ ws) (hc : Chg P σ τ) (h5 : ¬ P 5) (h55 : ¬ P 55) (h56 : ¬ P 56) (hp : ∀ r, poolB r → ¬ P r) : ListIs τ ws := by
  obtain ⟨a1, a2, a3, a4, a5, a6, a7⟩ := h
  refine ⟨(hc.1 5 h5).1.trans a1, a2, fun i hi => ?_, a4.kept hc h56, fun i hi => by rw [hc.2]; exact a5 i hi, fun i j hi hj e => a6 i j hi hj (by rwa [hc.2, hc.2] at e), a7⟩
  rw [hc.2]
  exact ⟨(a3 i hi).1.kept hc (hp _ (a5 i (by omega))), ((hc.1 55 h55).2 i).trans (a3 i hi).2⟩
theorem sX4_rowAt {σ : St} {ws : Ws} (h : ListIs σ ws) (k : Nat) (hk : k < 2 ^ 31) {K : Nat → Prop} (hK : ∀ r, RowIs σ r (wd ws k) → (k < ws.length → r = gR σ k) → K r) : wX4_rowAt σ (nI k) K := by
  obtain ⟨a1, a2, a3, a4, -⟩ := h
  refine ⟨fun q => absurd q (nI_neg hk), fun _ => pk_le ws.length k (fun q => hK 56 (by rw [wd_ge q]; exact a4) (fun z => by omega)) (fun q => ?_) a1⟩
  rw [nI_clamp hk]
  exact ⟨vp_in_nI (by omega) (by omega), hK _ (a3 k q).1 fun _ => rfl⟩
theorem sX4_rowAt_neg {σ : St} {ws : Ws} (h : ListIs σ ws) {v : Int32} (hv : v < 0) {K : Nat → Prop} (hK : K 56) : wX4_rowAt σ v K :=
  ⟨fun _ => hK, fun q => absurd hv q⟩
theorem sX4_numberAt {σ : St} {ws : Ws} (h : ListIs σ ws) (k : Nat) (hk : k < ws.length) {K : Int32 → Prop} (hK : K (nI (nu ws k))) : wX4_numberAt σ (nI k) K := by
  obtain ⟨a1, a2, a3, a4, -⟩ := h
  refine ⟨fun q => absurd q (nI_neg (by omega)), fun _ => pk_le ws.length k (fun q => by omega) (fun q => ?_) a1⟩
  rw [nI_clamp (by omega), (a3 k hk).2]
  exact ⟨vp_in_nI (by omega) (by omega), hK⟩
theorem sX4_size {σ : St} {ws : Ws} (h : ListIs σ ws) {K : Int32 → Prop} (hK : K (nI ws.length)) : wX4_size σ K := by
  unfold wX4_size
  rw [h.1]; exact hK
theorem sX4_countLess {σ : St} {ws : Ws} {x : Nat} {t : List Nat} (h : ListIs σ ws) (hs : Srt ws) (hx : RowIs σ x t) {K : Int32 → Prop} (hK : K (nI (cL ws t))) : wX4_countLess σ x K := by
  have hc := cL_cut hs t
  have h2 := h.2.1
  have h3 := hc.1
  have key : ∀ d k, k + d = cL ws t → wX4_countLess_L2 K σ x (d + 1) (nI k) := by
    intro d
    induction d with
    | zero =>
      intro k hk
      have e : k = cL ws t := by omega
      rw [wX4_countLess_L2]
      refine pk_le ws.length k (fun _ => by rw [e]; exact hK) (fun q => sX4_rowAt h k (by omega) fun r hr _ => sX2_compareWith hr hx fun v hv => ⟨fun _ => by rw [e]; exact hK, fun z => ?_⟩) h.1
      rw [hv.ge] at z
      have := hc.2.2 k (by omega) q
      simp [this] at z
    | succ d ih =>
      intro k hk
      rw [wX4_countLess_L2]
      have hc1 := hc.1
      refine pk_le ws.length k (fun q => by omega) (fun q => sX4_rowAt h k (by omega) fun r hr _ => sX2_compareWith hr hx fun v hv => ⟨fun z => ?_, fun _ => ?_⟩) h.1
      · rw [hv.ge] at z
        exact absurd (hc.2.1 k (by omega)) z
      · rw [nI_1]; exact ih (k + 1) (by omega)
  exact ⟨_, key (cL ws t) 0 (by omega)⟩
theorem sX4_countNotGreater {σ : St} {ws : Ws} {x : Nat} {t : List Nat} (h : ListIs σ ws) (hs : Srt ws) (hx : RowIs σ x t) {K : Int32 → Prop} (hK : K (nI (cG ws t))) : wX4_countNotGreater σ x K := by
  have hc := cG_cut hs t
  have h2 := h.2.1
  have h3 := hc.1
  have gt0 : ∀ v : Int32, (0 < v ↔ ¬ v ≤ 0) := fun v => by rw [Int32.not_le]
  have key : ∀ d k, k + d = cG ws t → wX4_countNotGreater_L2 K σ x (d + 1) (nI k) := by
    intro d
    induction d with
    | zero =>
      intro k hk
      have e : k = cG ws t := by omega
      rw [wX4_countNotGreater_L2]
      refine pk_le ws.length k (fun _ => by rw [e]; exact hK) (fun q => sX4_rowAt h k (by omega) fun r hr _ => sX2_compareWith hr hx fun v hv => ⟨fun _ => by rw [e]; exact hK, fun z => ?_⟩) h.1
      rw [gt0, hv.le] at z
      have := hc.2.2 k (by omega) q
      simp at this
      simp [this] at z
    | succ d ih =>
      intro k hk
      rw [wX4_countNotGreater_L2]
      have hc1 := hc.1
      refine pk_le ws.length k (fun q => by omega) (fun q => sX4_rowAt h k (by omega) fun r hr _ => sX2_compareWith hr hx fun v hv => ⟨fun z => ?_, fun _ => ?_⟩) h.1
      · rw [gt0, hv.le] at z
        have := hc.2.1 k (by omega)
        simp at this
        simp [this] at z
      · rw [nI_1]; exact ih (k + 1) (by omega)
  exact ⟨_, key (cG ws t) 0 (by omega)⟩
theorem sX4_rankOf {σ : St} {ws : Ws} {x : Nat} {t : List Nat} (h : ListIs σ ws) (hs : Srt ws) (hx : RowIs σ x t) {K : Int32 → Prop} (h1 : ∀ i, i < ws.length → wd ws i = t → i = cL ws t → K (nI i)) (h2 : (∀ i, i < ws.length → wd ws i ≠ t) → K (-1)) : wX4_rankOf σ x K := by
  have hc := cL_cut hs t
  have hl := h.2.1
  have hk := hc.1
  refine sX4_countLess h hs hx (pk_le ws.length (cL ws t) (fun q => h2 fun i hi => lt_ne (hc.2.1 i (by omega))) (fun q => sX4_rowAt h _ (by omega) fun r hr _ => sX2_compareWith hr hx fun v hv => ⟨fun z => h1 _ q (hv.2.mp z) rfl, fun z => h2 fun i hi => ?_⟩) h.1)
  have hne : wd ws (cL ws t) ≠ t := fun e => z (hv.2.mpr e)
  have hge := hc.2.2 (cL ws t) (Nat.le_refl _) q
  have hgt : lt t (wd ws (cL ws t)) = true := by
    rcases lt_tri t (wd ws (cL ws t)) with z1 | z1 | z1
    · exact z1
    · exact absurd z1.symm hne
    · simp only [z1] at hge; cases hge
  rcases Nat.lt_trichotomy i (cL ws t) with z1 | z1 | z1
  · exact lt_ne (hc.2.1 i z1)
  · rw [z1]; exact hne
  · exact fun e => lt_ne (lt_tr _ _ _ hgt (hs _ i z1 hi)) e.symm
