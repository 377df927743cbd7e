/-! WHAT THE METHODS OF THE THEOREM DO: each answers true -/
theorem m1_ge {j : Nat} (h : j < 2 ^ 30) : 0 ≤ nI j - 1 ↔ 1 ≤ j := by
  rw [← Int32.not_lt, m1_neg h]; omega
theorem lg_cmp_0 {x y : Int64} : lg_cmp x y = 0 ↔ x = y := by
  unfold lg_cmp
  constructor
  · intro h
    by_cases h1 : x > y
    · rw [if_pos h1] at h; cases h
    · rw [if_neg h1] at h
      by_cases h2 : x = y
      · exact h2
      · rw [if_neg h2] at h; cases h
  · intro h
    subst h
    have : ¬ x > x := fun q => by
      have q : x < x := q
      rw [Int64.lt_iff_toInt_lt] at q; omega
    rw [if_neg this, if_pos rfl]
/-- the theorem's own rows -/
def T2 (k : Nat) : Prop := k = 128 ∨ k = 130
theorem ListIs.keptT {σ τ : St} {ws : Ws} (h : ListIs σ ws) (hc : Chg T2 σ τ) : ListIs τ ws :=
  h.kept hc (by unfold T2; omega) (by unfold T2; omega) (by unfold T2; omega) (fun r hr => by have := hr.2.1; unfold T2; omega)
theorem Chg.t128 {σ τ : St} (h : Chg (fun k => k = 128) σ τ) : Chg T2 σ τ := h.mono fun _ e => Or.inl e
theorem Chg.t130 {σ τ : St} (h : Chg (fun k => k = 130) σ τ) : Chg T2 σ τ := h.mono fun _ e => Or.inr e
theorem capC_128 : capC 128 = 24 := rfl
theorem capC_130 : capC 130 = 24 := rfl
theorem sX3_standTogether {σ : St} {ws : Ws} {p : List Nat} (h : ListIs σ ws) (hs : Srt ws) (hp : RowIs σ 128 p) {K : Int32 → Prop} (hK : K 1) : wX3_standTogether σ K := by
  have h2 := h.2.1
  have hc1 := (cL_cut hs p).1
  have hc2 := (together hs p).1
  have key : ∀ d k, k + d = ws.length → wX3_standTogether_L23 K σ (nI (cL ws p)) (nI (cL ws p + cB ws p)) (d + 1) (nI k) := by
    intro d
    induction d with
    | zero =>
      intro k hk
      rw [wX3_standTogether_L23]
      exact sX4_size h (pk_le ws.length k (fun _ => hK) (fun q => by omega))
    | succ d ih =>
      intro k hk
      rw [wX3_standTogether_L23]
      refine sX4_size h (pk_le ws.length k (fun _ => by omega) (fun q => ?_))
      have iff := together_iff hs p q
      have J : ∀ s0 : Int32, s0 = (if preB p (wd ws k) = true then 1 else 0) → wX3_standTogether_J49 K (wX3_standTogether_L23 K σ (nI (cL ws p)) (nI (cL ws p + cB ws p)) (d + 1)) σ (nI (cL ws p)) (nI (cL ws p + cB ws p)) (nI k) s0 := by
        rintro _ rfl
        refine sX4_rowAt h k (by omega) fun r hr _ => sX2_beginsWith hr hp ⟨fun _ => ?_, fun z => absurd rfl z⟩
        rw [nI_1]
        exact ih (k + 1) (by omega)
      have J0 : ¬ Pre p (wd ws k) → wX3_standTogether_J48 K (wX3_standTogether_L23 K σ (nI (cL ws p)) (nI (cL ws p + cB ws p)) (d + 1)) σ (nI (cL ws p)) (nI (cL ws p + cB ws p)) (nI k) := fun z => J 0 (by rw [if_neg (fun y => z (preB_iff.mp y))])
      refine pk_lt k (cL ws p) (fun z => J0 (fun y => by have := iff.mpr y; omega)) (fun z => pk_le (cL ws p + cB ws p) k (fun y => J0 (fun x => by have := iff.mpr x; omega)) (fun y => J 1 (by rw [if_pos (preB_iff.mpr (iff.mp ⟨z, y⟩))])))
  refine sX4_countLess h hs hp (sX4_countBegun h hp ?_)
  rw [nI_add]
  exact ⟨_, key ws.length 0 (by omega)⟩
theorem sX3_beginningsHold {σ : St} {ws : Ws} {x : Nat} {t : List Nat} (h : ListIs σ ws) (hs : Srt ws) (hx : RowIs σ x t) (hxt : ¬ T2 x) (hl : t.length ≤ 24) {K : Int32 → St → Prop} (hK : ∀ τ, Chg T2 σ τ → K 1 τ) : wX3_beginningsHold σ x K := by
  refine sX2_size hx ?_
  have e : (if (10 : Int32) < nI t.length then (10 : Int32) else nI t.length) = nI (min 10 t.length) := by
    by_cases q : 10 < t.length
    · have z : (10 : Int32) < nI t.length := (nI_ltI (a := 10) (by omega) (by omega)).mpr q
      rw [if_pos z, Nat.min_eq_left (by omega)]; rfl
    · have z : ¬ (10 : Int32) < nI t.length := fun z => q ((nI_ltI (a := 10) (by omega) (by omega)).mp z)
      rw [if_neg z, Nat.min_eq_right (by omega)]
  rw [e]
  rintro _ rfl
  have key : ∀ d k (τ : St), k + d = min 10 t.length + 1 → Chg T2 σ τ → wX3_beginningsHold_L13 K x (nI (min 10 t.length)) (d + 1) τ (nI k) := by
    intro d
    induction d with
    | zero =>
      intro k τ hk hc
      rw [wX3_beginningsHold_L13]
      exact pk_lt (min 10 t.length) k (fun _ => hK τ hc) (fun q => by omega)
    | succ d ih =>
      intro k τ hk hc
      rw [wX3_beginningsHold_L13]
      refine pk_lt (min 10 t.length) k (fun q => by omega) (fun q => ?_)
      refine sX2_becomePart (f := 0) (hx.kept hc hxt) (fun e => hxt (Or.inl e)) (Nat.zero_le _) (by omega) (by rw [capC_128]; omega) fun υ u1 u2 => ?_
      refine sX3_standTogether ((h.keptT hc).keptT u2.t128) hs u1 ⟨fun z => absurd z (by decide), fun _ => ?_⟩
      rw [nI_1]
      exact ih (k + 1) υ (by omega) (hc.tr u2.t128)
  exact ⟨_, key (min 10 t.length + 1) 0 σ (by omega) Chg.rf⟩
theorem sX3_longestByOrder {σ : St} {ws : Ws} {s : List Nat} (h : ListIs σ ws) (hs : Srt ws) (hp : RowIs σ 128 s) {K : Int32 → St → Prop} (hK : ∀ τ, Chg T2 σ τ → K (nI (lgF ws s)) τ) : wX3_longestByOrder σ K := by
  have h2 := h.2.1
  have hg := (cG_cut hs s).1
  have hsl := hp.2.1
  rw [capC_128] at hsl
  refine sX4_countNotGreater h hs hp ⟨fun q => ?_, fun q => ?_⟩
  · rw [m1_ge (by omega)] at q
    rw [nI_m1 q]
    refine sX4_rowAt h _ (by omega) fun r hr _ => sX2_beginsWith hp hr ?_
    rw [bool01]
    refine ⟨fun z => sX2_common hp hr ?_, fun z => sX2_size hr ?_⟩
    · have hl := (lcp_le s (wd ws (cG ws s - 1))).1
      refine sX2_becomePart (f := 0) hp (by omega) (Nat.zero_le _) hl (by rw [capC_130]; omega) fun υ u1 u2 => ?_
      refine sX4_longestAt (f := 0) (h.keptT u2.t130) u1 (Nat.zero_le _) fun m hm _ => ?_
      have e : m = lgF ws s := by
        rw [lg_both hs q]
        exact hm.uniq (lgF_top ws _) fun n => by simp
      rw [e]
      exact hK υ u2.t130
    · have z : preB (wd ws (cG ws s - 1)) s = true := by simpa using z
      rw [← lg_is_floor hs q (preB_iff.mp z)]
      exact hK σ Chg.rf
  · rw [m1_ge (by omega)] at q
    have := hK σ Chg.rf
    rwa [lg_none hs (by omega)] at this
theorem sX3_longestHolds {σ : St} {ws : Ws} {x : Nat} {t : List Nat} (h : ListIs σ ws) (hs : Srt ws) (hx : RowIs σ x t) (hxt : ¬ T2 x) (hl : t.length ≤ 24) {K : Int32 → St → Prop} (hK : ∀ τ, Chg T2 σ τ → K 1 τ) : wX3_longestHolds σ x K := by
  have key : ∀ d k (τ : St), k + d = t.length + 1 → Chg T2 σ τ → wX3_longestHolds_L2 K x (d + 1) τ (nI k) := by
    intro d
    induction d with
    | zero =>
      intro k τ hk hc
      rw [wX3_longestHolds_L2]
      exact sX2_size (hx.kept hc hxt) (pk_lt t.length k (fun _ => hK τ hc) (fun q => by omega))
    | succ d ih =>
      intro k τ hk hc
      have hx2 := hx.kept hc hxt
      rw [wX3_longestHolds_L2]
      refine sX2_size hx2 (pk_lt t.length k (fun q => by omega) (fun q => sX2_size hx2 ?_))
      refine sX2_becomePart hx2 (fun e => hxt (Or.inl e)) q (Nat.le_refl _) (by rw [capC_128]; omega) fun υ u1 u2 => ?_
      rw [List.take_length] at u1
      have hL := (h.keptT hc).keptT u2.t128
      refine sX4_longestAt hL (hx2.kept u2 (fun e => hxt (Or.inl e))) q fun m hm _ => ?_
      have e : m = lgF ws (t.drop k) := hm.uniq (lgF_top ws _) fun _ => Iff.rfl
      subst e
      refine sX3_longestByOrder hL hs u1 fun φ f1 => ⟨fun _ => ?_, fun z => absurd rfl z⟩
      rw [nI_1]
      exact ih (k + 1) φ (by omega) ((hc.tr u2.t128).tr f1)
  exact ⟨_, key (t.length + 1) 0 σ (by omega) Chg.rf⟩
theorem sX3_commonHolds {σ : St} {ws : Ws} {x : Nat} {t : List Nat} (h : ListIs σ ws) (hs : Srt ws) (hx : RowIs σ x t) {K : Int32 → Prop} (hK : K 1) : wX3_commonHolds σ x K := by
  have h2 := h.2.1
  have hg := (cG_cut hs t).1
  have hc := (cL_cut hs t).1
  have hxl := hx.len
  have go : ∀ r fl, RowIs σ r fl → (cG ws t = 0 → fl = []) → (0 < cG ws t → fl = wd ws (cG ws t - 1)) → wX2_common σ x r (fun r_3 => wX4_countLess σ x (fun r_4 => wX4_rowAt σ r_4 (fun r_5 => wX2_common σ x r_5 (fun r_6 => wX4_mostCommon σ x (fun r_7 => ((r_7 = (if r_3 < r_6 then r_6 else r_3) → K (1 : Int32)) ∧ (¬ r_7 = (if r_3 < r_6 then r_6 else r_3) → K (0 : Int32)))))))) := by
    intro r fl hr g0 g1
    refine sX2_common hx hr (sX4_countLess h hs hx (sX4_rowAt h _ (by omega) fun r2 hr2 _ => sX2_common hx hr2 (sX4_mostCommon h hx fun m hm _ => ⟨fun _ => hK, fun z => absurd ?_ z⟩)))
    have l1 := (lcp_le t fl).1
    have l2 := (lcp_le t (wd ws (cL ws t))).1
    rw [nI_max (by omega) (by omega), hm.uniq (co_order hs g0 g1) fun _ => Iff.rfl]
  refine sX4_countNotGreater h hs hx ?_
  rcases Nat.eq_zero_or_pos (cG ws t) with q | q
  · refine sX4_rowAt_neg h ((m1_neg (by omega)).mpr q) (go 56 [] h.2.2.2.1 (fun _ => rfl) (fun z => by omega))
  · rw [nI_m1 q]
    exact sX4_rowAt h _ (by omega) fun r hr _ => go r _ hr (fun z => by omega) (fun _ => rfl)
theorem sX3_twinsHold {σ : St} {ws : Ws} (h : ListIs σ ws) (hs : Srt ws) {K : Int32 → Prop} (hK : K 1) : wX3_twinsHold σ K := by
  have h2 := h.2.1
  have fin : ∀ m, Top (AdS ws ws.length) m → wX4_mostCommonOfTwo σ (fun r_3 => ((r_3 = nI m → K (1 : Int32)) ∧ (¬ r_3 = nI m → K (0 : Int32)))) := fun m hm =>
    sX4_mostCommonOfTwo h fun m2 hm2 _ => ⟨fun _ => hK, fun z => absurd (by rw [hm2.uniq (tw_order hs hm) fun _ => Iff.rfl]) z⟩
  have key : ∀ d k m, k + d = max 1 ws.length → 1 ≤ k → m ≤ 30 → Top (AdS ws k) m → wX3_twinsHold_L4 K σ (d + 1) (nI m) (nI k) := by
    intro d
    induction d with
    | zero =>
      intro k m hk h1 hm ht
      rw [wX3_twinsHold_L4]
      refine sX4_size h (pk_le ws.length k (fun _ => fin m (ht.skip fun n => ?_)) (fun q => by omega))
      constructor
      · rintro ⟨i, hi, e⟩; exact ⟨i, by omega, e⟩
      · rintro ⟨i, hi, e⟩; exact ⟨i, by omega, e⟩
    | succ d ih =>
      intro k m hk h1 hm ht
      rw [wX3_twinsHold_L4]
      refine sX4_size h (pk_le ws.length k (fun _ => by omega) (fun q => ?_))
      rw [nI_m1 h1]
      refine sX4_rowAt h _ (by omega) fun r hr _ => sX4_rowAt h _ (by omega) fun r2 hr2 _ => sX2_common hr hr2 ?_
      have l1 := (lcp_le (wd ws (k - 1)) (wd ws k)).1
      have l2 := hr.len
      rw [nI_max (by omega) (by omega), nI_1]
      rintro _ rfl
      refine ih (k + 1) _ (by omega) (by omega) (by omega) (ht.add fun n => ?_)
      constructor
      · rintro ⟨i, hi, e⟩
        rcases Nat.lt_or_ge (i + 1) k with z | z
        · exact Or.inl ⟨i, z, e⟩
        · refine Or.inr ?_
          rw [e, show i = k - 1 by omega, show k - 1 + 1 = k by omega]
      · rintro (⟨i, hi, e⟩ | e)
        · exact ⟨i, by omega, e⟩
        · exact ⟨k - 1, by omega, by rw [e, show k - 1 + 1 = k by omega]⟩
  exact ⟨_, key (max 1 ws.length - 1) 1 0 (by omega) (by omega) (by omega) (Top.nil fun n => by rintro ⟨i, hi, -⟩; omega)⟩
theorem sX3_cutsHold {σ : St} {ws : Ws} {x : Nat} {t : List Nat} (h : CutIs σ ws t) (hx : RowIs σ x t) (ht : t.length ≤ 24) {K : Int32 → St → Prop} (hK : ∀ τ, Chg (fun _ => False) σ τ → K 1 τ) : wX3_cutsHold σ x K := by
  obtain ⟨f, hf⟩ := NW_ex ws t
  refine sX2_size hx ⟨fun _ => hK σ Chg.rf, fun q => ?_⟩
  have hpos : 0 < t.length := by
    rcases Nat.eq_zero_or_pos t.length with z | z
    · rw [z] at q; exact absurd rfl q
    · exact z
  have key : ∀ e m (τ : St) (s : Int64), m + e = 11 → 1 ≤ m → Chg (fun _ => False) σ τ → s + lN (tailS (fitB ws t) f 0 e m) = lN (f 0) → wX3_cutsHold_L14 K (e + 1) τ s (nI m) := by
    intro e
    induction e with
    | zero =>
      intro m τ s hm h1 hc hs
      have hC : CutIs τ ws t := h.kept hc (fun q => q) (fun q => q)
      rw [wX3_cutsHold_L14]
      refine pk_lt 10 m (fun _ => ?_) (fun z => by omega)
      refine sX1_countWays (a := 0) hC ht (Nat.zero_le _) hf fun υ u1 => ⟨fun _ => hK υ (hc.tr u1), fun z => absurd ?_ z⟩
      rw [lg_cmp_0, ← hs]
      show _ + lN 0 = _
      rw [show lN 0 = 0 from rfl, Int64.add_zero]
    | succ e ih =>
      intro m τ s hm h1 hc hs
      have hC : CutIs τ ws t := h.kept hc (fun q => q) (fun q => q)
      rw [wX3_cutsHold_L14]
      refine pk_lt 10 m (fun z => by omega) (fun _ => sX1_fitsAt (p := 0) hC ht (Nat.zero_le _) (by omega) (fun z => ⟨fun y => absurd y (by decide), fun _ => ?_⟩) (fun z => ⟨fun _ => ?_, fun y => absurd rfl y⟩))
      · have hle := LgS_le z
        rw [List.length_drop] at hle
        refine sX1_countWays hC ht (by omega) hf fun υ u1 => ?_
        rw [nI_1]
        refine ih (m + 1) υ _ (by omega) (by omega) (hc.tr u1) ?_
        have e1 : tailS (fitB ws t) f 0 (e + 1) m = f m + tailS (fitB ws t) f 0 e (m + 1) := by
          show (if fitB ws t 0 m = true then f (0 + m) else _) + _ = _
          rw [if_pos (fitB_iff.mpr z), Nat.zero_add]
        rw [← hs, e1, ← lN_add, Int64.add_assoc]
      · rw [nI_1]
        refine ih (m + 1) τ s (by omega) (by omega) hc ?_
        have e1 : tailS (fitB ws t) f 0 (e + 1) m = tailS (fitB ws t) f 0 e (m + 1) := by
          show (if fitB ws t 0 m = true then f (0 + m) else _) + _ = _
          rw [if_neg (fun y => z (fitB_iff.mp y)), Nat.zero_add]
        rw [← hs, e1]
  refine ⟨_, key 10 1 σ 0 (by omega) (by omega) Chg.rf ?_⟩
  rw [Int64.zero_add, hf.2 0 hpos]
theorem sX3_endsAreWords {σ : St} {ws : Ws} (h : ListIs σ ws) (hs : Srt ws) (hw : LenW ws) {K : Int32 → St → Prop} (h1 : Ends ws → ∀ τ, Chg T2 σ τ → K 1 τ) (h0 : ∀ τ, Chg T2 σ τ → K 0 τ) : wX3_endsAreWords σ K := by
  have h2 := h.2.1
  have inner : ∀ (B : St → Int32 → Prop) i, i < ws.length → (∀ τ, Chg T2 σ τ → (∀ p, 1 ≤ p → p < (wd ws i).length → ∃ j, j < ws.length ∧ wd ws j = (wd ws i).drop p) → B τ (nI (i + 1))) → ∀ d k (τ : St), k + d = (wd ws i).length → 1 ≤ k → Chg T2 σ τ → (∀ p, 1 ≤ p → p < k → ∃ j, j < ws.length ∧ wd ws j = (wd ws i).drop p) → wX3_endsAreWords_L19 K B (nI i) (gR σ i) (d + 1) τ (nI k) := by
    intro B i hi hB d
    have hp := h.2.2.2.2.1 i (by omega)
    have hpt : ¬ T2 (gR σ i) := by have := hp.2.1; unfold T2; omega
    have hwi := hw i hi
    induction d with
    | zero =>
      intro k τ hk h1 hc hj
      have hr : RowIs τ (gR σ i) (wd ws i) := (h.2.2.1 i hi).1.kept hc hpt
      rw [wX3_endsAreWords_L19]
      refine sX2_size hr (pk_le (wd ws i).length k (fun _ => ?_) (fun q => by omega))
      rw [nI_1]
      exact hB τ hc fun p p1 p2 => hj p p1 (by omega)
    | succ d ih =>
      intro k τ hk h1 hc hj
      have hr : RowIs τ (gR σ i) (wd ws i) := (h.2.2.1 i hi).1.kept hc hpt
      rw [wX3_endsAreWords_L19]
      refine sX2_size hr (pk_le (wd ws i).length k (fun _ => by omega) (fun q => sX2_size hr ?_))
      refine sX2_becomePart hr (fun e => hpt (Or.inl e)) (by omega) (Nat.le_refl _) (by rw [capC_128]; omega) fun υ u1 u2 => ?_
      rw [List.take_length] at u1
      have hL := (h.keptT hc).keptT u2.t128
      have hc2 := hc.tr u2.t128
      refine sX4_rankOf hL hs u1 (fun j j1 j2 _ => ⟨fun z => absurd z (nI_ne_m1 (by omega)), fun _ => ?_⟩) (fun _ => ⟨fun _ => h0 υ hc2, fun z => absurd rfl z⟩)
      rw [nI_1]
      refine ih (k + 1) υ (by omega) (by omega) hc2 fun p p1 p2 => ?_
      rcases Nat.lt_or_ge p k with z | z
      · exact hj p p1 z
      · rw [show p = k by omega]; exact ⟨j, j1, j2⟩
  have outer : ∀ d i (τ : St), i + d = ws.length → Chg T2 σ τ → (∀ i', i' < i → ∀ p, 1 ≤ p → p < (wd ws i').length → ∃ j, j < ws.length ∧ wd ws j = (wd ws i').drop p) → wX3_endsAreWords_L2 K (d + 1) τ (nI i) := by
    intro d
    induction d with
    | zero =>
      intro i τ hi hc hj
      rw [wX3_endsAreWords_L2]
      exact sX4_size (h.keptT hc) (pk_le ws.length i (fun _ => h1 (fun i' hi' => hj i' (by omega)) τ hc) (fun q => by omega))
    | succ d ih =>
      intro i τ hi hc hj
      have hL := h.keptT hc
      rw [wX3_endsAreWords_L2]
      refine sX4_size hL (pk_le ws.length i (fun _ => by omega) (fun q => sX4_rowAt hL i (by omega) fun r _ hr2 => ?_))
      rw [hr2 q, hc.2]
      have hwi := hw i q
      refine ⟨_, inner _ i q (fun υ u1 u2 => ih (i + 1) υ (by omega) u1 fun i' hi' => ?_) ((wd ws i).length - 1) 1 τ (by omega) (by omega) hc (fun p p1 p2 => by omega)⟩
      rcases Nat.lt_or_ge i' i with z | z
      · exact hj i' z
      · rw [show i' = i by omega]; exact u2
  exact ⟨_, outer ws.length 0 σ (by omega) Chg.rf (fun i hi => by omega)⟩
/-- the theorem's rows, and what the cutter keeps of the fewest pieces -/
def T3 (k : Nat) : Prop := T2 k ∨ k = 126
theorem sX3_fewestHolds {σ : St} {ws : Ws} {t : List Nat} (h : ListIs σ ws) (hs : Srt ws) (hw : LenW ws) (hC : CutIs σ ws t) (ht : t.length ≤ 24) {K : Int32 → St → Prop} (hK : ∀ τ, Chg T3 σ τ → K 1 τ) : wX3_fewestHolds σ K := by
  refine sX1_leastPieces hC hw ht fun τ v hc hv => ⟨fun _ => hK τ (hc.mono fun k e => Or.inr e), fun q => ?_⟩
  have hC2 : CutIs τ ws t := hC.kept hc (by omega) (by omega)
  have hL2 : ListIs τ ws := h.kept hc (by omega) (by omega) (by omega) (fun r hr => by have := hr.2.1; omega)
  rcases hv with ⟨e, _⟩ | ⟨k, rfl, k1, k2, k3⟩
  · exact absurd e q
  · refine sX1_countLongest hC2 hw ht fun s _ s1 s2 => ⟨fun _ => hK τ (hc.mono fun k e => Or.inr e), fun z => ?_⟩
    refine sX3_endsAreWords hL2 hs hw (fun he φ _ => ?_) (fun φ f1 => ⟨fun _ => hK φ ((hc.mono fun k e => Or.inr e).tr (f1.mono fun k e => Or.inl e)), fun y => absurd rfl y⟩)
    obtain ⟨g1, g2⟩ := fewest_greedy hw he k1 k2 s1 s2
    rw [if_pos g1, g2] at z
    exact absurd rfl z
theorem sX3_keepsOrder {σ : St} {ws : Ws} {cs : Cs} {i j : Nat} (h : ListIs σ ws) (hb : BookIs σ cs) (hs : Srt ws) (hg : SgW ws) (ho : Ord cs) (hr : ∀ i, i < ws.length → RowIs σ (73 + 2 * i) (wrt cs (wd ws i))) (hij : i < j) (hj : j < ws.length) {K : Int32 → Prop} (hK : K 1) : wX3_keepsOrder σ (nI i) (nI j) K := by
  have h2 := h.2.1
  obtain ⟨c1, c2, c3⟩ := codes_keep hb ho (wd ws i) (wd ws j) (hg i (by omega)) (hg j hj) (hs i j hij hj)
  refine sX0_writtenAt (by omega) (sX0_writtenAt (by omega) (sX2_compareWith (hr i (by omega)) (hr j hj) fun v hv => ⟨fun z => ?_, fun _ => sX2_beginsWith (hr i (by omega)) (hr j hj) ?_⟩))
  · rw [hv.ge] at z
    exact absurd c1 z
  · rw [bool01]
    refine ⟨fun _ => sX2_beginsWith (hr j hj) (hr i (by omega)) (sX4_rowAt h j (by omega) fun r1 q1 _ => sX4_rowAt h i (by omega) fun r2 q2 _ => sX2_beginsWith q1 q2 ⟨fun _ => hK, fun z => absurd ?_ z⟩), fun z => absurd (preB_iff.mp (by simpa using z)) c2⟩
    by_cases y : Pre (wd ws i) (wd ws j)
    · rw [if_pos (preB_iff.mpr y), if_pos (preB_iff.mpr (c3.mpr y))]
    · rw [if_neg (fun w => y (preB_iff.mp w)), if_neg (fun w => y (c3.mp (preB_iff.mp w)))]
theorem sX3_codesHold {σ : St} {ws : Ws} {cs : Cs} (h : ListIs σ ws) (hb : BookIs σ cs) (hs : Srt ws) (hg : SgW ws) (hw : LenW ws) {K : Int32 → St → Prop} (hK : ∀ τ, Chg WrB σ τ → K 1 τ) : wX3_codesHold σ K := by
  have h2 := h.2.1
  refine sX0_isOrderly hb (fun ho => ⟨fun z => absurd z (by decide), fun _ => ?_⟩) (fun _ => ⟨fun _ => hK σ Chg.rf, fun z => absurd rfl z⟩)
  refine sX0_writeWords h hb hg (fun i hi => (hw i hi).2) fun τ t1 t2 => ?_
  have hL : ListIs τ ws := h.kept t2 (WrB_no (by omega)) (WrB_no (by omega)) (WrB_no (by omega)) (fun r hr => WrB_no (by have := hr.2.1; omega))
  have hB : BookIs τ cs := hb.kept t2 (fun c q => WrB_no (by omega)) (fun ⟨i, _, e⟩ => by omega)
  have inner : ∀ (B : Int32 → Prop) i, B (nI (i + 1)) → ∀ d k, k + d = ws.length → i < k → wX3_codesHold_L29 K B τ (nI i) (d + 1) (nI k) := by
    intro B i hB2 d
    induction d with
    | zero =>
      intro k hk hik
      rw [wX3_codesHold_L29]
      refine sX4_size hL (pk_le ws.length k (fun _ => ?_) (fun q => by omega))
      rw [nI_1]; exact hB2
    | succ d ih =>
      intro k hk hik
      rw [wX3_codesHold_L29]
      refine sX4_size hL (pk_le ws.length k (fun _ => by omega) (fun q => sX3_keepsOrder hL hB hs hg ho t1 hik q ⟨fun z => absurd z (by decide), fun _ => ?_⟩))
      rw [nI_1]
      exact ih (k + 1) (by omega) (by omega)
  have outer : ∀ d i, i + d = ws.length → wX3_codesHold_L16 K τ (d + 1) (nI i) := by
    intro d
    induction d with
    | zero =>
      intro i hi
      rw [wX3_codesHold_L16]
      exact sX4_size hL (pk_le ws.length i (fun _ => hK τ t2) (fun q => by omega))
    | succ d ih =>
      intro i hi
      rw [wX3_codesHold_L16]
      refine sX4_size hL (pk_le ws.length i (fun _ => by omega) (fun q => ?_))
      rw [nI_1]
      exact ⟨_, inner _ i (ih (i + 1) (by omega)) (ws.length - (i + 1)) (i + 1) (by omega) (by omega)⟩
  exact ⟨_, outer ws.length 0 (by omega)⟩
